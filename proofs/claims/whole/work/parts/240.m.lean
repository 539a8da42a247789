/-! printed by program (gen/emitm.py): the reference's methods run as their functions say -/
set_option maxRecDepth 1000000 in
set_option maxHeartbeats 4000000 in
theorem R_f_Y_fair_3 (d : Nat) (Y T H2 H RV RU ST NS I0 I1 I2 BO FI RG GU PU MA MN MS OT SC : Nat → Nat → Int32) (w r5 : Nat) (L : Nat) (Lg : Int64) (p1 : Int32) {r : Nat × Int32 × (Nat → Nat → Int32) × (Nat → Nat → Int32) × Nat} (h : f_Y_fair Y H NS BO 256 r5 p1 = some r) : Ev (d + 3, 1, 8, 321, 0, [.val (.ref 64), .val (.int p1), .val a_unk, .val a_unk, .val a_unk, .val a_unk, .val a_unk, .val a_unk], [], (126, 120, L, [Y, T, H2, H, RV, RU, ST, NS, I0, I1, I2, BO, FI, RG, GU, PU, MA, MN, MS, OT, SC], [256, 192, 384, 320, w, r5, 576, 640, 704], Lg)) ((r.1, a_ov r.1 (.int r.2.1), (126, 120, L, [r.2.2.1, T, H2, H, RV, RU, ST, NS, I0, I1, I2, r.2.2.2.1, FI, RG, GU, PU, MA, MN, MS, OT, SC], [256, 192, 384, 320, w, r.2.2.2.2, 576, 640, 704], Lg)) : AOut) := by
  suffices key : ∀ o : AOut, ((r.1, a_ov r.1 (.int r.2.1), (126, 120, L, [r.2.2.1, T, H2, H, RV, RU, ST, NS, I0, I1, I2, r.2.2.2.1, FI, RG, GU, PU, MA, MN, MS, OT, SC], [256, 192, 384, 320, w, r.2.2.2.2, 576, 640, 704], Lg)) : AOut) = o → Ev (d + 3, 1, 8, 321, 0, [.val (.ref 64), .val (.int p1), .val a_unk, .val a_unk, .val a_unk, .val a_unk, .val a_unk, .val a_unk], [], (126, 120, L, [Y, T, H2, H, RV, RU, ST, NS, I0, I1, I2, BO, FI, RG, GU, PU, MA, MN, MS, OT, SC], [256, 192, 384, 320, w, r5, 576, 640, 704], Lg)) o from key _ rfl
  intro o ho
  obtain ⟨zt1, zh2, h⟩ := bnd h
  have zj3 : ∀ (v1 : Int32), v1 = zt1 → Ev (d + 3, 1, 8, 321, 15, [.val (.ref 64), .val (.int p1), .val a_unk, .val a_unk, .val a_unk, .val a_unk, .val a_unk, .val a_unk], [.int v1, .ref 64], (126, 120, L, [Y, T, H2, H, RV, RU, ST, NS, I0, I1, I2, BO, FI, RG, GU, PU, MA, MN, MS, OT, SC], [256, 192, 384, 320, w, r5, 576, 640, 704], Lg)) o := by
    intro v1 ze4
    subst ze4
    obtain ⟨⟨q2, Y_3⟩, zh5, h⟩ := bnd h
    have zh5 : f_Y_refuseUnless Y v1 = some (q2, Y_3) := zh5
    have ze6 := R_f_Y_refuseUnless_3 (d + 2) Y T H2 H RV RU ST NS I0 I1 I2 BO FI RG GU PU MA MN MS OT SC w r5 L Lg v1 zh5
    cases q2 with
    | zero =>
      have h := itp h rfl
      suffices e : Ev (d + 3, 0, 0, 321, 18, [.val (.ref 64), .val (.int p1), .val a_unk, .val a_unk, .val a_unk, .val a_unk, .val a_unk, .val a_unk], [], (126, 120, L, [Y_3, T, H2, H, RV, RU, ST, NS, I0, I1, I2, BO, FI, RG, GU, PU, MA, MN, MS, OT, SC], [256, 192, 384, 320, w, r5, 576, 640, 704], Lg)) o from ev_call (fun v μ => (d + 3, 0, 0, 321, 18, [.val (.ref 64), .val (.int p1), .val a_unk, .val a_unk, .val a_unk, .val a_unk, .val a_unk, .val a_unk], v.toList ++ [], μ)) 1 ze6 e (fun n => Eq.refl _)
      obtain ⟨BO_5, zh7, h⟩ := bnd h
      have zh7 : f_Y_lookNow H NS BO = some BO_5 := zh7
      have ze8 := R_f_Y_lookNow_3 (d + 0) Y_3 T H2 H RV RU ST NS I0 I1 I2 BO FI RG GU PU MA MN MS OT SC w r5 L Lg zh7
      suffices e : Ev (d + 3, 0, 0, 321, 22, [.val (.ref 64), .val (.int p1), .val a_unk, .val a_unk, .val a_unk, .val a_unk, .val a_unk, .val a_unk], [.ref 768], (126, 120, L, [Y_3, T, H2, H, RV, RU, ST, NS, I0, I1, I2, BO_5, FI, RG, GU, PU, MA, MN, MS, OT, SC], [256, 192, 384, 320, w, 256, 576, 640, 704], Lg)) o from ev_call (fun v μ => (d + 3, 0, 0, 321, 22, [.val (.ref 64), .val (.int p1), .val a_unk, .val a_unk, .val a_unk, .val a_unk, .val a_unk, .val a_unk], v.toList ++ [], μ)) 2 ze8 e (fun n => Eq.refl _)
      obtain ⟨x6, zh9, h⟩ := bnd h
      have zh9 : f_Board_mostBorne H BO_5 = some x6 := zh9
      have ze10 := R_f_Board_mostBorne_1 (d + 0) Y_3 T H2 H RV RU ST NS I0 I1 I2 BO_5 FI RG GU PU MA MN MS OT SC 256 192 384 320 w 576 640 704 L Lg zh9
      suffices e : Ev (d + 3, 0, 0, 321, 27, [.val (.ref 64), .val (.int p1), .val (.ref 768), .val a_unk, .val a_unk, .val a_unk, .val a_unk, .val a_unk], [.int x6], (126, 120, L, [Y_3, T, H2, H, RV, RU, ST, NS, I0, I1, I2, BO_5, FI, RG, GU, PU, MA, MN, MS, OT, SC], [256, 192, 384, 320, w, 256, 576, 640, 704], Lg)) o from ev_call (fun v μ => (d + 3, 0, 0, 321, 27, [.val (.ref 64), .val (.int p1), .val (.ref 768), .val a_unk, .val a_unk, .val a_unk, .val a_unk, .val a_unk], v.toList ++ [], μ)) 3 ze10 e (fun n => Eq.refl _)
      obtain ⟨zb11, zh12, h⟩ := bnd h
      suffices e : Ev (d + 3, 0, 0, 321, 37, [.val (.ref 64), .val (.int p1), .val (.ref 768), .val (.int x6), .val (.int x6), .val (.int (-1)), .val (.int 0), .val a_unk], [], (126, 120, L, [Y_3, T, H2, H, RV, RU, ST, NS, I0, I1, I2, BO_5, FI, RG, GU, PU, MA, MN, MS, OT, SC], [256, 192, 384, 320, w, 256, 576, 640, 704], Lg)) o from ev_b 7 e (fun n => Eq.refl _)
      refine ev_loop (δ := Value) (fun a j => (d + 3, 0, 0, 321, 37, [.val (.ref 64), .val (.int p1), .val (.ref 768), .val (.int x6), .val (.int a.1), .val (.int a.2.1), .val (.int a.2.2), .val j], [], (126, 120, L, [Y_3, T, H2, H, RV, RU, ST, NS, I0, I1, I2, BO_5, FI, RG, GU, PU, MA, MN, MS, OT, SC], [256, 192, 384, 320, w, 256, 576, 640, 704], Lg))) (fun b => ∀ s15 : Value, ∀ s16 : Value, Ev (d + 3, 0, 0, 321, 88, [.val (.ref 64), .val (.int p1), .val (.ref 768), .val (.int x6), .val (.int b.1), .val (.int b.2), .val s15, .val s16], [], (126, 120, L, [Y_3, T, H2, H, RV, RU, ST, NS, I0, I1, I2, BO_5, FI, RG, GU, PU, MA, MN, MS, OT, SC], [256, 192, 384, 320, w, 256, 576, 640, 704], Lg)) o) ?_ a_F (x6, (-1), 0) zb11 zh12 ?_ a_unk
      · rintro ⟨v7, v8, v9⟩ zr16 zh15 zi13 zx14 s10
        have zh15 : f_Y_fair_l37 H BO_5 x6 v7 v8 v9 = some zr16 := zh15
        suffices e : Ev (d + 3, 0, 0, 321, 43, [.val (.ref 64), .val (.int p1), .val (.ref 768), .val (.int x6), .val (.int v7), .val (.int v8), .val (.int v9), .val s10], [.ref 256, .int v9], (126, 120, L, [Y_3, T, H2, H, RV, RU, ST, NS, I0, I1, I2, BO_5, FI, RG, GU, PU, MA, MN, MS, OT, SC], [256, 192, 384, 320, w, 256, 576, 640, 704], Lg)) o from ev_b 3 e (fun n => Eq.refl _)
        by_cases zc17 : (H 0 2) ≤ v9
        · have zh15 := itp zh15 zc17
          suffices e : Ev (d + 3, 0, 0, 321, 88, [.val (.ref 64), .val (.int p1), .val (.ref 768), .val (.int x6), .val (.int v7), .val (.int v8), .val (.int v9), .val s10], [], (126, 120, L, [Y_3, T, H2, H, RV, RU, ST, NS, I0, I1, I2, BO_5, FI, RG, GU, PU, MA, MN, MS, OT, SC], [256, 192, 384, 320, w, 256, 576, 640, 704], Lg)) o from ev_t (c := (H 0 2) ≤ v9) _ _ 2  zc17 e (fun n => Eq.refl _)
          exact ev_b 0 (zx14 _ (Option.some.inj zh15).symm (.int v9) s10) (fun n => Eq.refl _)
        · have zh15 := itn zh15 zc17
          suffices e : Ev (d + 3, 0, 0, 321, 49, [.val (.ref 64), .val (.int p1), .val (.ref 768), .val (.int x6), .val (.int v7), .val (.int v8), .val (.int v9), .val s10], [], (126, 120, L, [Y_3, T, H2, H, RV, RU, ST, NS, I0, I1, I2, BO_5, FI, RG, GU, PU, MA, MN, MS, OT, SC], [256, 192, 384, 320, w, 256, 576, 640, 704], Lg)) o from ev_f (c := (H 0 2) ≤ v9) _ _ 2  zc17 e (fun n => Eq.refl _)
          obtain ⟨x11, zh18, zh15⟩ := bnd zh15
          have zh18 : f_Board_bears H BO_5 v9 = some x11 := zh18
          have ze19 := R_f_Board_bears_1 (d + 1) Y_3 T H2 H RV RU ST NS I0 I1 I2 BO_5 FI RG GU PU MA MN MS OT SC 256 192 384 320 w 576 640 704 L Lg v9 zh18
          suffices e : Ev (d + 3, 0, 0, 321, 55, [.val (.ref 64), .val (.int p1), .val (.ref 768), .val (.int x6), .val (.int v7), .val (.int v8), .val (.int v9), .val s10], [.int x11], (126, 120, L, [Y_3, T, H2, H, RV, RU, ST, NS, I0, I1, I2, BO_5, FI, RG, GU, PU, MA, MN, MS, OT, SC], [256, 192, 384, 320, w, 256, 576, 640, 704], Lg)) o from ev_call (fun v μ => (d + 3, 0, 0, 321, 55, [.val (.ref 64), .val (.int p1), .val (.ref 768), .val (.int x6), .val (.int v7), .val (.int v8), .val (.int v9), .val s10], v.toList ++ [], μ)) 3 ze19 e (fun n => Eq.refl _)
          obtain ⟨x12, zh20, zh15⟩ := bnd zh15
          have zh20 : f_Math_min v7 x11 = some x12 := zh20
          have ze21 := R_f_Math_min_0 (d + 2) Y_3 T H2 H RV RU ST NS I0 I1 I2 BO_5 FI RG GU PU MA MN MS OT SC 256 192 384 320 w 256 576 640 704 L Lg v7 x11 zh20
          suffices e : Ev (d + 3, 0, 0, 321, 64, [.val (.ref 64), .val (.int p1), .val (.ref 768), .val (.int x6), .val (.int v7), .val (.int v8), .val (.int v9), .val (.int x11)], [.int x12], (126, 120, L, [Y_3, T, H2, H, RV, RU, ST, NS, I0, I1, I2, BO_5, FI, RG, GU, PU, MA, MN, MS, OT, SC], [256, 192, 384, 320, w, 256, 576, 640, 704], Lg)) o from ev_call (fun v μ => (d + 3, 0, 0, 321, 64, [.val (.ref 64), .val (.int p1), .val (.ref 768), .val (.int x6), .val (.int v7), .val (.int v8), .val (.int v9), .val (.int x11)], v.toList ++ [], μ)) 4 ze21 e (fun n => Eq.refl _)
          by_cases zc22 : v8 ≠ (-1)
          · have zh15 := itp zh15 zc22
            suffices e : Ev (d + 3, 0, 0, 321, 82, [.val (.ref 64), .val (.int p1), .val (.ref 768), .val (.int x6), .val (.int x12), .val (.int v8), .val (.int v9), .val (.int x11)], [], (126, 120, L, [Y_3, T, H2, H, RV, RU, ST, NS, I0, I1, I2, BO_5, FI, RG, GU, PU, MA, MN, MS, OT, SC], [256, 192, 384, 320, w, 256, 576, 640, 704], Lg)) o from ev_t (c := v8 ≠ (-1)) _ _ 4  zc22 e (fun n => Eq.refl _)
            exact ev_b 2 (zi13 _ (Option.some.inj zh15).symm (.int x11)) (fun n => Eq.refl _)
          · have zh15 := itn zh15 zc22
            suffices e : Ev (d + 3, 0, 0, 321, 72, [.val (.ref 64), .val (.int p1), .val (.ref 768), .val (.int x6), .val (.int x12), .val (.int v8), .val (.int v9), .val (.int x11)], [], (126, 120, L, [Y_3, T, H2, H, RV, RU, ST, NS, I0, I1, I2, BO_5, FI, RG, GU, PU, MA, MN, MS, OT, SC], [256, 192, 384, 320, w, 256, 576, 640, 704], Lg)) o from ev_f (c := v8 ≠ (-1)) _ _ 4  zc22 e (fun n => Eq.refl _)
            by_cases zc23 : x11 ≠ x6
            · have zh15 := itp zh15 zc23
              suffices e : Ev (d + 3, 0, 0, 321, 82, [.val (.ref 64), .val (.int p1), .val (.ref 768), .val (.int x6), .val (.int x12), .val (.int v8), .val (.int v9), .val (.int x11)], [], (126, 120, L, [Y_3, T, H2, H, RV, RU, ST, NS, I0, I1, I2, BO_5, FI, RG, GU, PU, MA, MN, MS, OT, SC], [256, 192, 384, 320, w, 256, 576, 640, 704], Lg)) o from ev_t (c := x11 ≠ x6) _ _ 3  zc23 e (fun n => Eq.refl _)
              exact ev_b 2 (zi13 _ (Option.some.inj zh15).symm (.int x11)) (fun n => Eq.refl _)
            · have zh15 := itn zh15 zc23
              suffices e : Ev (d + 3, 0, 0, 321, 78, [.val (.ref 64), .val (.int p1), .val (.ref 768), .val (.int x6), .val (.int x12), .val (.int v8), .val (.int v9), .val (.int x11)], [], (126, 120, L, [Y_3, T, H2, H, RV, RU, ST, NS, I0, I1, I2, BO_5, FI, RG, GU, PU, MA, MN, MS, OT, SC], [256, 192, 384, 320, w, 256, 576, 640, 704], Lg)) o from ev_f (c := x11 ≠ x6) _ _ 3  zc23 e (fun n => Eq.refl _)
              exact ev_b 4 (zi13 _ (Option.some.inj zh15).symm (.int x11)) (fun n => Eq.refl _)
      · obtain ⟨v13, v14⟩ := zb11
        intro s15 s16
        by_cases zc24 : p1 ≠ 0
        · have h := itp h zc24
          suffices e : Ev (d + 3, 0, 0, 321, 99, [.val (.ref 64), .val (.int p1), .val (.ref 768), .val (.int x6), .val (.int v13), .val (.int v14), .val s15, .val s16], [], (126, 120, L, [Y_3, T, H2, H, RV, RU, ST, NS, I0, I1, I2, BO_5, FI, RG, GU, PU, MA, MN, MS, OT, SC], [256, 192, 384, 320, w, 256, 576, 640, 704], Lg)) o from ev_t (c := p1 ≠ 0) _ _ 2  zc24 e (fun n => Eq.refl _)
          have ze25 := Option.some.inj h
          subst ze25
          exact ev_rete 2 ho (fun n => Eq.refl _)
        · have h := itn h zc24
          suffices e : Ev (d + 3, 0, 0, 321, 92, [.val (.ref 64), .val (.int p1), .val (.ref 768), .val (.int x6), .val (.int v13), .val (.int v14), .val s15, .val s16], [], (126, 120, L, [Y_3, T, H2, H, RV, RU, ST, NS, I0, I1, I2, BO_5, FI, RG, GU, PU, MA, MN, MS, OT, SC], [256, 192, 384, 320, w, 256, 576, 640, 704], Lg)) o from ev_f (c := p1 ≠ 0) _ _ 2  zc24 e (fun n => Eq.refl _)
          have ze26 := Option.some.inj h
          subst ze26
          exact ev_rete 5 ho (fun n => Eq.refl _)
    | succ q2 =>
      have h := itn h (Nat.succ_ne_zero q2)
      have ze27 := Option.some.inj h
      subst ze27
      subst ho
      exact ev_thr (fun v μ => (d + 3, 0, 0, 321, 18, [.val (.ref 64), .val (.int p1), .val a_unk, .val a_unk, .val a_unk, .val a_unk, .val a_unk, .val a_unk], v.toList ++ [], μ)) 1 ze6 (fun n => Eq.refl _) (fun n => rfl)
  obtain ⟨zt28, zh29, zh2⟩ := bnd zh2
  have zj30 : zt28 = .inl () → Ev (d + 3, 1, 8, 321, 14, [.val (.ref 64), .val (.int p1), .val a_unk, .val a_unk, .val a_unk, .val a_unk, .val a_unk, .val a_unk], [.ref 64], (126, 120, L, [Y, T, H2, H, RV, RU, ST, NS, I0, I1, I2, BO, FI, RG, GU, PU, MA, MN, MS, OT, SC], [256, 192, 384, 320, w, r5, 576, 640, 704], Lg)) o := by
    intro ze31
    have zh2 := sum_l zh2 ze31
    exact ev_b 1 (zj3 0 (Option.some.inj zh2) ) (fun n => Eq.refl _)
  by_cases zc32 : p1 < 0
  · have zh29 := itp zh29 zc32
    suffices e : Ev (d + 3, 1, 8, 321, 14, [.val (.ref 64), .val (.int p1), .val a_unk, .val a_unk, .val a_unk, .val a_unk, .val a_unk, .val a_unk], [.ref 64], (126, 120, L, [Y, T, H2, H, RV, RU, ST, NS, I0, I1, I2, BO, FI, RG, GU, PU, MA, MN, MS, OT, SC], [256, 192, 384, 320, w, r5, 576, 640, 704], Lg)) o from ev_t (c := p1 < 0) _ _ 3  zc32 e (fun n => Eq.refl _)
    exact ev_b 0 (zj30  (Option.some.inj zh29).symm ) (fun n => Eq.refl _)
  · have zh29 := itn zh29 zc32
    suffices e : Ev (d + 3, 1, 8, 321, 5, [.val (.ref 64), .val (.int p1), .val a_unk, .val a_unk, .val a_unk, .val a_unk, .val a_unk, .val a_unk], [.ref 64], (126, 120, L, [Y, T, H2, H, RV, RU, ST, NS, I0, I1, I2, BO, FI, RG, GU, PU, MA, MN, MS, OT, SC], [256, 192, 384, 320, w, r5, 576, 640, 704], Lg)) o from ev_f (c := p1 < 0) _ _ 3  zc32 e (fun n => Eq.refl _)
    by_cases zc33 : 1 < p1
    · have zh29 := itp zh29 zc33
      suffices e : Ev (d + 3, 1, 8, 321, 14, [.val (.ref 64), .val (.int p1), .val a_unk, .val a_unk, .val a_unk, .val a_unk, .val a_unk, .val a_unk], [.ref 64], (126, 120, L, [Y, T, H2, H, RV, RU, ST, NS, I0, I1, I2, BO, FI, RG, GU, PU, MA, MN, MS, OT, SC], [256, 192, 384, 320, w, r5, 576, 640, 704], Lg)) o from ev_t (c := 1 < p1) _ _ 3  zc33 e (fun n => Eq.refl _)
      exact ev_b 0 (zj30  (Option.some.inj zh29).symm ) (fun n => Eq.refl _)
    · have zh29 := itn zh29 zc33
      suffices e : Ev (d + 3, 1, 8, 321, 10, [.val (.ref 64), .val (.int p1), .val a_unk, .val a_unk, .val a_unk, .val a_unk, .val a_unk, .val a_unk], [.ref 64], (126, 120, L, [Y, T, H2, H, RV, RU, ST, NS, I0, I1, I2, BO, FI, RG, GU, PU, MA, MN, MS, OT, SC], [256, 192, 384, 320, w, r5, 576, 640, 704], Lg)) o from ev_f (c := 1 < p1) _ _ 3  zc33 e (fun n => Eq.refl _)
      have zh34 := sum_r zh2 (Option.some.inj zh29).symm
      exact ev_b 2 (zj3 1 (Option.some.inj zh34) ) (fun n => Eq.refl _)
set_option maxRecDepth 1000000 in
set_option maxHeartbeats 4000000 in
theorem R_f_Rule_setWanted_0 (d : Nat) (Y T HA HB RU RV ST NS I0 I1 I2 BO FI RG GU PU MA MN MS OT SC : Nat → Nat → Int32) (r0 r1 r2 r3 w r5 r6 r7 r8 : Nat) (L : Nat) (Lg : Int64) (p1 : Int32) (p2 : Int32) {r : (Nat → Nat → Int32)} (h : f_Rule_setWanted RU p1 p2 = some r) : Ev (d + 1, 0, 0, 251, 0, [.val (.ref 320), .val (.int p1), .val (.int p2)], [], (126, 120, L, [Y, T, HA, HB, RU, RV, ST, NS, I0, I1, I2, BO, FI, RG, GU, PU, MA, MN, MS, OT, SC], [r0, r1, r2, r3, w, r5, r6, r7, r8], Lg)) ((0, none, (126, 120, L, [Y, T, HA, HB, r, RV, ST, NS, I0, I1, I2, BO, FI, RG, GU, PU, MA, MN, MS, OT, SC], [r0, r1, r2, r3, w, r5, r6, r7, r8], Lg)) : AOut) := by
  suffices key : ∀ o : AOut, ((0, none, (126, 120, L, [Y, T, HA, HB, r, RV, ST, NS, I0, I1, I2, BO, FI, RG, GU, PU, MA, MN, MS, OT, SC], [r0, r1, r2, r3, w, r5, r6, r7, r8], Lg)) : AOut) = o → Ev (d + 1, 0, 0, 251, 0, [.val (.ref 320), .val (.int p1), .val (.int p2)], [], (126, 120, L, [Y, T, HA, HB, RU, RV, ST, NS, I0, I1, I2, BO, FI, RG, GU, PU, MA, MN, MS, OT, SC], [r0, r1, r2, r3, w, r5, r6, r7, r8], Lg)) o from key _ rfl
  intro o ho
  obtain ⟨x1, zh1, h⟩ := bnd h
  have zh1 : f_Y_hourOf p1 = some x1 := zh1
  have ze2 := R_f_Y_hourOf_0 (d + 0) Y T HA HB RU RV ST NS I0 I1 I2 BO FI RG GU PU MA MN MS OT SC r0 r1 r2 r3 w r5 r6 r7 r8 L Lg p1 zh1
  suffices e : Ev (d + 1, 0, 0, 251, 10, [.val (.ref 320), .val (.int p1), .val (.int p2)], [.int x1, .int 8, .ref 323], (126, 120, L, [Y, T, HA, HB, RU, RV, ST, NS, I0, I1, I2, BO, FI, RG, GU, PU, MA, MN, MS, OT, SC], [r0, r1, r2, r3, w, r5, r6, r7, r8], Lg)) o from ev_call (fun v μ => (d + 1, 0, 0, 251, 10, [.val (.ref 320), .val (.int p1), .val (.int p2)], v.toList ++ [.int 8, .ref 323], μ)) 5 ze2 e (fun n => Eq.refl _)
  obtain ⟨j2, zh3, h⟩ := bnd h
  have zh3 : ixx 11 8 = some j2 := zh3
  suffices e : Ev (d + 1, 0, 0, 251, 11, [.val (.ref 320), .val (.int p1), .val (.int p2)], [], (126, 120, L, [Y, T, HA, HB, (u2 RU 3 j2 x1), RV, ST, NS, I0, I1, I2, BO, FI, RG, GU, PU, MA, MN, MS, OT, SC], [r0, r1, r2, r3, w, r5, r6, r7, r8], Lg)) o from ev_opt (fun j2 => (d + 1, 0, 0, 251, 11, [.val (.ref 320), .val (.int p1), .val (.int p2)], [], (126, 120, L, [Y, T, HA, HB, (u2 RU 3 j2 x1), RV, ST, NS, I0, I1, I2, BO, FI, RG, GU, PU, MA, MN, MS, OT, SC], [r0, r1, r2, r3, w, r5, r6, r7, r8], Lg))) 1 zh3 e (fun n => Eq.refl _)
  obtain ⟨x3, zh4, h⟩ := bnd h
  have zh4 : f_Y_roomOf p1 = some x3 := zh4
  have ze5 := R_f_Y_roomOf_0 (d + 0) Y T HA HB (u2 RU 3 j2 x1) RV ST NS I0 I1 I2 BO FI RG GU PU MA MN MS OT SC r0 r1 r2 r3 w r5 r6 r7 r8 L Lg p1 zh4
  suffices e : Ev (d + 1, 0, 0, 251, 21, [.val (.ref 320), .val (.int p1), .val (.int p2)], [.int x3, .int 9, .ref 323], (126, 120, L, [Y, T, HA, HB, (u2 RU 3 j2 x1), RV, ST, NS, I0, I1, I2, BO, FI, RG, GU, PU, MA, MN, MS, OT, SC], [r0, r1, r2, r3, w, r5, r6, r7, r8], Lg)) o from ev_call (fun v μ => (d + 1, 0, 0, 251, 21, [.val (.ref 320), .val (.int p1), .val (.int p2)], v.toList ++ [.int 9, .ref 323], μ)) 5 ze5 e (fun n => Eq.refl _)
  obtain ⟨j4, zh6, h⟩ := bnd h
  have zh6 : ixx 11 9 = some j4 := zh6
  suffices e : Ev (d + 1, 0, 0, 251, 22, [.val (.ref 320), .val (.int p1), .val (.int p2)], [], (126, 120, L, [Y, T, HA, HB, (u2 (u2 RU 3 j2 x1) 3 j4 x3), RV, ST, NS, I0, I1, I2, BO, FI, RG, GU, PU, MA, MN, MS, OT, SC], [r0, r1, r2, r3, w, r5, r6, r7, r8], Lg)) o from ev_opt (fun j4 => (d + 1, 0, 0, 251, 22, [.val (.ref 320), .val (.int p1), .val (.int p2)], [], (126, 120, L, [Y, T, HA, HB, (u2 (u2 RU 3 j2 x1) 3 j4 x3), RV, ST, NS, I0, I1, I2, BO, FI, RG, GU, PU, MA, MN, MS, OT, SC], [r0, r1, r2, r3, w, r5, r6, r7, r8], Lg))) 1 zh6 e (fun n => Eq.refl _)
  obtain ⟨j5, zh7, h⟩ := bnd h
  have zh7 : ixx 11 10 = some j5 := zh7
  suffices e : Ev (d + 1, 0, 0, 251, 30, [.val (.ref 320), .val (.int p1), .val (.int p2)], [], (126, 120, L, [Y, T, HA, HB, (u2 (u2 (u2 RU 3 j2 x1) 3 j4 x3) 3 j5 p2), RV, ST, NS, I0, I1, I2, BO, FI, RG, GU, PU, MA, MN, MS, OT, SC], [r0, r1, r2, r3, w, r5, r6, r7, r8], Lg)) o from ev_opt (fun j5 => (d + 1, 0, 0, 251, 30, [.val (.ref 320), .val (.int p1), .val (.int p2)], [], (126, 120, L, [Y, T, HA, HB, (u2 (u2 (u2 RU 3 j2 x1) 3 j4 x3) 3 j5 p2), RV, ST, NS, I0, I1, I2, BO, FI, RG, GU, PU, MA, MN, MS, OT, SC], [r0, r1, r2, r3, w, r5, r6, r7, r8], Lg))) 5 zh7 e (fun n => Eq.refl _)
  have ze8 := Option.some.inj h
  subst ze8
  exact ev_rete 1 ho (fun n => Eq.refl _)
set_option maxRecDepth 1000000 in
set_option maxHeartbeats 4000000 in
theorem R_f_Rule_setMeeting_0 (d : Nat) (Y T H H2 RU RV ST NS I0 I1 I2 BO FI RG GU PU MA MN MS OT SC : Nat → Nat → Int32) (r0 r1 r2 r3 w r6 r7 r8 : Nat) (L : Nat) (Lg : Int64) (p1 : Int32) (p3 : Int32) {r : (Nat → Nat → Int32)} (h : f_Rule_setMeeting H RU BO p1 p3 = some r) : Ev (d + 1, 0, 0, 252, 0, [.val (.ref 320), .val (.int p1), .val (.ref 768), .val (.int p3)], [], (126, 120, L, [Y, T, H, H2, RU, RV, ST, NS, I0, I1, I2, BO, FI, RG, GU, PU, MA, MN, MS, OT, SC], [r0, r1, r2, r3, w, 192, r6, r7, r8], Lg)) ((0, none, (126, 120, L, [Y, T, H, H2, r, RV, ST, NS, I0, I1, I2, BO, FI, RG, GU, PU, MA, MN, MS, OT, SC], [r0, r1, r2, r3, w, 192, r6, r7, r8], Lg)) : AOut) := by
  suffices key : ∀ o : AOut, ((0, none, (126, 120, L, [Y, T, H, H2, r, RV, ST, NS, I0, I1, I2, BO, FI, RG, GU, PU, MA, MN, MS, OT, SC], [r0, r1, r2, r3, w, 192, r6, r7, r8], Lg)) : AOut) = o → Ev (d + 1, 0, 0, 252, 0, [.val (.ref 320), .val (.int p1), .val (.ref 768), .val (.int p3)], [], (126, 120, L, [Y, T, H, H2, RU, RV, ST, NS, I0, I1, I2, BO, FI, RG, GU, PU, MA, MN, MS, OT, SC], [r0, r1, r2, r3, w, 192, r6, r7, r8], Lg)) o from key _ rfl
  intro o ho
  by_cases zc1 : 11 ≤ (p1 + 3)
  · have h := itp h zc1
    suffices e : Ev (d + 1, 0, 0, 252, 66, [.val (.ref 320), .val (.int p1), .val (.ref 768), .val (.int p3)], [], (126, 120, L, [Y, T, H, H2, RU, RV, ST, NS, I0, I1, I2, BO, FI, RG, GU, PU, MA, MN, MS, OT, SC], [r0, r1, r2, r3, w, 192, r6, r7, r8], Lg)) o from ev_t (c := 11 ≤ (p1 + 3)) _ _ 5  zc1 e (fun n => Eq.refl _)
    have ze2 := Option.some.inj h
    subst ze2
    exact ev_rete 1 ho (fun n => Eq.refl _)
  · have h := itn h zc1
    suffices e : Ev (d + 1, 0, 0, 252, 8, [.val (.ref 320), .val (.int p1), .val (.ref 768), .val (.int p3)], [], (126, 120, L, [Y, T, H, H2, RU, RV, ST, NS, I0, I1, I2, BO, FI, RG, GU, PU, MA, MN, MS, OT, SC], [r0, r1, r2, r3, w, 192, r6, r7, r8], Lg)) o from ev_f (c := 11 ≤ (p1 + 3)) _ _ 5  zc1 e (fun n => Eq.refl _)
    suffices e : Ev (d + 1, 0, 0, 252, 17, [.val (.ref 320), .val (.int p1), .val (.ref 768), .val (.int p3)], [.ref 192, .int p1, .ref 323], (126, 120, L, [Y, T, H, H2, RU, RV, ST, NS, I0, I1, I2, BO, FI, RG, GU, PU, MA, MN, MS, OT, SC], [r0, r1, r2, r3, w, 192, r6, r7, r8], Lg)) o from ev_b 5 e (fun n => Eq.refl _)
    obtain ⟨x1, zh3, h⟩ := bnd h
    have zh3 : rdx (H 7) 10 p3 = some x1 := zh3
    suffices e : Ev (d + 1, 0, 0, 252, 22, [.val (.ref 320), .val (.int p1), .val (.ref 768), .val (.int p3)], [.int x1, .int p1, .ref 323], (126, 120, L, [Y, T, H, H2, RU, RV, ST, NS, I0, I1, I2, BO, FI, RG, GU, PU, MA, MN, MS, OT, SC], [r0, r1, r2, r3, w, 192, r6, r7, r8], Lg)) o from ev_opt (fun x1 => (d + 1, 0, 0, 252, 22, [.val (.ref 320), .val (.int p1), .val (.ref 768), .val (.int p3)], [.int x1, .int p1, .ref 323], (126, 120, L, [Y, T, H, H2, RU, RV, ST, NS, I0, I1, I2, BO, FI, RG, GU, PU, MA, MN, MS, OT, SC], [r0, r1, r2, r3, w, 192, r6, r7, r8], Lg))) 3 zh3 e (fun n => Eq.refl _)
    obtain ⟨j2, zh4, h⟩ := bnd h
    have zh4 : ixx 11 p1 = some j2 := zh4
    suffices e : Ev (d + 1, 0, 0, 252, 23, [.val (.ref 320), .val (.int p1), .val (.ref 768), .val (.int p3)], [], (126, 120, L, [Y, T, H, H2, (u2 RU 3 j2 x1), RV, ST, NS, I0, I1, I2, BO, FI, RG, GU, PU, MA, MN, MS, OT, SC], [r0, r1, r2, r3, w, 192, r6, r7, r8], Lg)) o from ev_opt (fun j2 => (d + 1, 0, 0, 252, 23, [.val (.ref 320), .val (.int p1), .val (.ref 768), .val (.int p3)], [], (126, 120, L, [Y, T, H, H2, (u2 RU 3 j2 x1), RV, ST, NS, I0, I1, I2, BO, FI, RG, GU, PU, MA, MN, MS, OT, SC], [r0, r1, r2, r3, w, 192, r6, r7, r8], Lg))) 1 zh4 e (fun n => Eq.refl _)
    obtain ⟨x3, zh5, h⟩ := bnd h
    have zh5 : rdx (BO 2) 10 p3 = some x3 := zh5
    suffices e : Ev (d + 1, 0, 0, 252, 36, [.val (.ref 320), .val (.int p1), .val (.ref 768), .val (.int p3)], [.int x3, .int (p1 + 1), .ref 323], (126, 120, L, [Y, T, H, H2, (u2 RU 3 j2 x1), RV, ST, NS, I0, I1, I2, BO, FI, RG, GU, PU, MA, MN, MS, OT, SC], [r0, r1, r2, r3, w, 192, r6, r7, r8], Lg)) o from ev_opt (fun x3 => (d + 1, 0, 0, 252, 36, [.val (.ref 320), .val (.int p1), .val (.ref 768), .val (.int p3)], [.int x3, .int (p1 + 1), .ref 323], (126, 120, L, [Y, T, H, H2, (u2 RU 3 j2 x1), RV, ST, NS, I0, I1, I2, BO, FI, RG, GU, PU, MA, MN, MS, OT, SC], [r0, r1, r2, r3, w, 192, r6, r7, r8], Lg))) 9 zh5 e (fun n => Eq.refl _)
    obtain ⟨j4, zh6, h⟩ := bnd h
    have zh6 : ixx 11 (p1 + 1) = some j4 := zh6
    suffices e : Ev (d + 1, 0, 0, 252, 37, [.val (.ref 320), .val (.int p1), .val (.ref 768), .val (.int p3)], [], (126, 120, L, [Y, T, H, H2, (u2 (u2 RU 3 j2 x1) 3 j4 x3), RV, ST, NS, I0, I1, I2, BO, FI, RG, GU, PU, MA, MN, MS, OT, SC], [r0, r1, r2, r3, w, 192, r6, r7, r8], Lg)) o from ev_opt (fun j4 => (d + 1, 0, 0, 252, 37, [.val (.ref 320), .val (.int p1), .val (.ref 768), .val (.int p3)], [], (126, 120, L, [Y, T, H, H2, (u2 (u2 RU 3 j2 x1) 3 j4 x3), RV, ST, NS, I0, I1, I2, BO, FI, RG, GU, PU, MA, MN, MS, OT, SC], [r0, r1, r2, r3, w, 192, r6, r7, r8], Lg))) 1 zh6 e (fun n => Eq.refl _)
    suffices e : Ev (d + 1, 0, 0, 252, 48, [.val (.ref 320), .val (.int p1), .val (.ref 768), .val (.int p3)], [.ref 192, .int (p1 + 2), .ref 323], (126, 120, L, [Y, T, H, H2, (u2 (u2 RU 3 j2 x1) 3 j4 x3), RV, ST, NS, I0, I1, I2, BO, FI, RG, GU, PU, MA, MN, MS, OT, SC], [r0, r1, r2, r3, w, 192, r6, r7, r8], Lg)) o from ev_b 7 e (fun n => Eq.refl _)
    obtain ⟨x5, zh7, h⟩ := bnd h
    have zh7 : rdx (H 8) 10 p3 = some x5 := zh7
    suffices e : Ev (d + 1, 0, 0, 252, 53, [.val (.ref 320), .val (.int p1), .val (.ref 768), .val (.int p3)], [.int x5, .int (p1 + 2), .ref 323], (126, 120, L, [Y, T, H, H2, (u2 (u2 RU 3 j2 x1) 3 j4 x3), RV, ST, NS, I0, I1, I2, BO, FI, RG, GU, PU, MA, MN, MS, OT, SC], [r0, r1, r2, r3, w, 192, r6, r7, r8], Lg)) o from ev_opt (fun x5 => (d + 1, 0, 0, 252, 53, [.val (.ref 320), .val (.int p1), .val (.ref 768), .val (.int p3)], [.int x5, .int (p1 + 2), .ref 323], (126, 120, L, [Y, T, H, H2, (u2 (u2 RU 3 j2 x1) 3 j4 x3), RV, ST, NS, I0, I1, I2, BO, FI, RG, GU, PU, MA, MN, MS, OT, SC], [r0, r1, r2, r3, w, 192, r6, r7, r8], Lg))) 3 zh7 e (fun n => Eq.refl _)
    obtain ⟨x6, zh8, h⟩ := bnd h
    have zh8 : f_Integer_bitCount x5 = some x6 := zh8
    have ze9 := R_f_Integer_bitCount_0 (d + 0) Y T H H2 (u2 (u2 RU 3 j2 x1) 3 j4 x3) RV ST NS I0 I1 I2 BO FI RG GU PU MA MN MS OT SC r0 r1 r2 r3 w 192 r6 r7 r8 L Lg x5 zh8
    suffices e : Ev (d + 1, 0, 0, 252, 56, [.val (.ref 320), .val (.int p1), .val (.ref 768), .val (.int p3)], [.int x6, .int (p1 + 2), .ref 323], (126, 120, L, [Y, T, H, H2, (u2 (u2 RU 3 j2 x1) 3 j4 x3), RV, ST, NS, I0, I1, I2, BO, FI, RG, GU, PU, MA, MN, MS, OT, SC], [r0, r1, r2, r3, w, 192, r6, r7, r8], Lg)) o from ev_call (fun v μ => (d + 1, 0, 0, 252, 56, [.val (.ref 320), .val (.int p1), .val (.ref 768), .val (.int p3)], v.toList ++ [.int (p1 + 2), .ref 323], μ)) 1 ze9 e (fun n => Eq.refl _)
    obtain ⟨j7, zh10, h⟩ := bnd h
    have zh10 : ixx 11 (p1 + 2) = some j7 := zh10
    suffices e : Ev (d + 1, 0, 0, 252, 57, [.val (.ref 320), .val (.int p1), .val (.ref 768), .val (.int p3)], [], (126, 120, L, [Y, T, H, H2, (u2 (u2 (u2 RU 3 j2 x1) 3 j4 x3) 3 j7 x6), RV, ST, NS, I0, I1, I2, BO, FI, RG, GU, PU, MA, MN, MS, OT, SC], [r0, r1, r2, r3, w, 192, r6, r7, r8], Lg)) o from ev_opt (fun j7 => (d + 1, 0, 0, 252, 57, [.val (.ref 320), .val (.int p1), .val (.ref 768), .val (.int p3)], [], (126, 120, L, [Y, T, H, H2, (u2 (u2 (u2 RU 3 j2 x1) 3 j4 x3) 3 j7 x6), RV, ST, NS, I0, I1, I2, BO, FI, RG, GU, PU, MA, MN, MS, OT, SC], [r0, r1, r2, r3, w, 192, r6, r7, r8], Lg))) 1 zh10 e (fun n => Eq.refl _)
    obtain ⟨j8, zh11, h⟩ := bnd h
    have zh11 : ixx 11 (p1 + 3) = some j8 := zh11
    suffices e : Ev (d + 1, 0, 0, 252, 66, [.val (.ref 320), .val (.int p1), .val (.ref 768), .val (.int p3)], [], (126, 120, L, [Y, T, H, H2, (u2 (u2 (u2 (u2 RU 3 j2 x1) 3 j4 x3) 3 j7 x6) 3 j8 p3), RV, ST, NS, I0, I1, I2, BO, FI, RG, GU, PU, MA, MN, MS, OT, SC], [r0, r1, r2, r3, w, 192, r6, r7, r8], Lg)) o from ev_opt (fun j8 => (d + 1, 0, 0, 252, 66, [.val (.ref 320), .val (.int p1), .val (.ref 768), .val (.int p3)], [], (126, 120, L, [Y, T, H, H2, (u2 (u2 (u2 (u2 RU 3 j2 x1) 3 j4 x3) 3 j7 x6) 3 j8 p3), RV, ST, NS, I0, I1, I2, BO, FI, RG, GU, PU, MA, MN, MS, OT, SC], [r0, r1, r2, r3, w, 192, r6, r7, r8], Lg))) 7 zh11 e (fun n => Eq.refl _)
    have ze12 := Option.some.inj h
    subst ze12
    exact ev_rete 1 ho (fun n => Eq.refl _)
set_option maxRecDepth 1000000 in
set_option maxHeartbeats 4000000 in
theorem R_f_Rule_operand_0 (d : Nat) (Y T HA HB RU RV ST NS I0 I1 I2 BO FI RG GU PU MA MN MS OT SC : Nat → Nat → Int32) (r0 r1 r2 r3 w r5 r6 r7 r8 : Nat) (L : Nat) (Lg : Int64) (p1 : Int32) {r : Int32} (h : f_Rule_operand RU p1 = some r) : Ev (d + 0, 0, 0, 254, 0, [.val (.ref 320), .val (.int p1), .val a_unk], [], (126, 120, L, [Y, T, HA, HB, RU, RV, ST, NS, I0, I1, I2, BO, FI, RG, GU, PU, MA, MN, MS, OT, SC], [r0, r1, r2, r3, w, r5, r6, r7, r8], Lg)) ((0, some (.int r), (126, 120, L, [Y, T, HA, HB, RU, RV, ST, NS, I0, I1, I2, BO, FI, RG, GU, PU, MA, MN, MS, OT, SC], [r0, r1, r2, r3, w, r5, r6, r7, r8], Lg)) : AOut) := by
  suffices key : ∀ o : AOut, ((0, some (.int r), (126, 120, L, [Y, T, HA, HB, RU, RV, ST, NS, I0, I1, I2, BO, FI, RG, GU, PU, MA, MN, MS, OT, SC], [r0, r1, r2, r3, w, r5, r6, r7, r8], Lg)) : AOut) = o → Ev (d + 0, 0, 0, 254, 0, [.val (.ref 320), .val (.int p1), .val a_unk], [], (126, 120, L, [Y, T, HA, HB, RU, RV, ST, NS, I0, I1, I2, BO, FI, RG, GU, PU, MA, MN, MS, OT, SC], [r0, r1, r2, r3, w, r5, r6, r7, r8], Lg)) o from key _ rfl
  intro o ho
  by_cases zc1 : (p1 - 100) < 0
  · have h := itp h zc1
    suffices e : Ev (d + 0, 0, 0, 254, 24, [.val (.ref 320), .val (.int p1), .val (.int (p1 - 100))], [], (126, 120, L, [Y, T, HA, HB, RU, RV, ST, NS, I0, I1, I2, BO, FI, RG, GU, PU, MA, MN, MS, OT, SC], [r0, r1, r2, r3, w, r5, r6, r7, r8], Lg)) o from ev_t (c := (p1 - 100) < 0) _ _ 6  zc1 e (fun n => Eq.refl _)
    have ze2 := Option.some.inj h
    subst ze2
    exact ev_rete 2 ho (fun n => Eq.refl _)
  · have h := itn h zc1
    suffices e : Ev (d + 0, 0, 0, 254, 9, [.val (.ref 320), .val (.int p1), .val (.int (p1 - 100))], [], (126, 120, L, [Y, T, HA, HB, RU, RV, ST, NS, I0, I1, I2, BO, FI, RG, GU, PU, MA, MN, MS, OT, SC], [r0, r1, r2, r3, w, r5, r6, r7, r8], Lg)) o from ev_f (c := (p1 - 100) < 0) _ _ 6  zc1 e (fun n => Eq.refl _)
    by_cases zc3 : 11 ≤ (p1 - 100)
    · have h := itp h zc3
      suffices e : Ev (d + 0, 0, 0, 254, 24, [.val (.ref 320), .val (.int p1), .val (.int (p1 - 100))], [], (126, 120, L, [Y, T, HA, HB, RU, RV, ST, NS, I0, I1, I2, BO, FI, RG, GU, PU, MA, MN, MS, OT, SC], [r0, r1, r2, r3, w, r5, r6, r7, r8], Lg)) o from ev_t (c := 11 ≤ (p1 - 100)) _ _ 3  zc3 e (fun n => Eq.refl _)
      have ze4 := Option.some.inj h
      subst ze4
      exact ev_rete 2 ho (fun n => Eq.refl _)
    · have h := itn h zc3
      suffices e : Ev (d + 0, 0, 0, 254, 15, [.val (.ref 320), .val (.int p1), .val (.int (p1 - 100))], [], (126, 120, L, [Y, T, HA, HB, RU, RV, ST, NS, I0, I1, I2, BO, FI, RG, GU, PU, MA, MN, MS, OT, SC], [r0, r1, r2, r3, w, r5, r6, r7, r8], Lg)) o from ev_f (c := 11 ≤ (p1 - 100)) _ _ 3  zc3 e (fun n => Eq.refl _)
      obtain ⟨x1, zh5, h⟩ := bnd h
      have zh5 : rdx (RU 3) 11 (p1 - 100) = some x1 := zh5
      suffices e : Ev (d + 0, 0, 0, 254, 21, [.val (.ref 320), .val (.int p1), .val (.int (p1 - 100))], [.int x1], (126, 120, L, [Y, T, HA, HB, RU, RV, ST, NS, I0, I1, I2, BO, FI, RG, GU, PU, MA, MN, MS, OT, SC], [r0, r1, r2, r3, w, r5, r6, r7, r8], Lg)) o from ev_opt (fun x1 => (d + 0, 0, 0, 254, 21, [.val (.ref 320), .val (.int p1), .val (.int (p1 - 100))], [.int x1], (126, 120, L, [Y, T, HA, HB, RU, RV, ST, NS, I0, I1, I2, BO, FI, RG, GU, PU, MA, MN, MS, OT, SC], [r0, r1, r2, r3, w, r5, r6, r7, r8], Lg))) 4 zh5 e (fun n => Eq.refl _)
      have ze6 := Option.some.inj h
      subst ze6
      exact ev_rete 2 ho (fun n => Eq.refl _)
set_option maxRecDepth 1000000 in
set_option maxHeartbeats 4000000 in
theorem R_f_Rule_apply_0 (d : Nat) (Y T HA HB RA RB ST NS I0 I1 I2 BO FI RG GU PU MA MN MS OT SC : Nat → Nat → Int32) (r0 r1 r2 r3 w r5 r6 r7 r8 : Nat) (L : Nat) (Lg : Int64) (p0 : Int32) (p1 : Int32) (p2 : Int32) {r : Int32} (h : f_Rule_apply p0 p1 p2 = some r) : Ev (d + 0, 0, 0, 255, 0, [.val (.int p0), .val (.int p1), .val (.int p2)], [], (126, 120, L, [Y, T, HA, HB, RA, RB, ST, NS, I0, I1, I2, BO, FI, RG, GU, PU, MA, MN, MS, OT, SC], [r0, r1, r2, r3, w, r5, r6, r7, r8], Lg)) ((0, some (.int r), (126, 120, L, [Y, T, HA, HB, RA, RB, ST, NS, I0, I1, I2, BO, FI, RG, GU, PU, MA, MN, MS, OT, SC], [r0, r1, r2, r3, w, r5, r6, r7, r8], Lg)) : AOut) := by
  suffices key : ∀ o : AOut, ((0, some (.int r), (126, 120, L, [Y, T, HA, HB, RA, RB, ST, NS, I0, I1, I2, BO, FI, RG, GU, PU, MA, MN, MS, OT, SC], [r0, r1, r2, r3, w, r5, r6, r7, r8], Lg)) : AOut) = o → Ev (d + 0, 0, 0, 255, 0, [.val (.int p0), .val (.int p1), .val (.int p2)], [], (126, 120, L, [Y, T, HA, HB, RA, RB, ST, NS, I0, I1, I2, BO, FI, RG, GU, PU, MA, MN, MS, OT, SC], [r0, r1, r2, r3, w, r5, r6, r7, r8], Lg)) o from key _ rfl
  intro o ho
  by_cases zc1 : p0 = 201
  · have h := itp h zc1
    suffices e : Ev (d + 0, 0, 0, 255, 93, [.val (.int p0), .val (.int p1), .val (.int p2)], [], (126, 120, L, [Y, T, HA, HB, RA, RB, ST, NS, I0, I1, I2, BO, FI, RG, GU, PU, MA, MN, MS, OT, SC], [r0, r1, r2, r3, w, r5, r6, r7, r8], Lg)) o from ev_sw [((201 : Int32), 93), ((202 : Int32), 97), ((203 : Int32), 60), ((204 : Int32), 71), ((205 : Int32), 82), ((206 : Int32), 48), ((207 : Int32), 52), ((208 : Int32), 56)] p0 (fun tt => (d + 0, 0, 0, 255, tt, [.val (.int p0), .val (.int p1), .val (.int p2)], [], (126, 120, L, [Y, T, HA, HB, RA, RB, ST, NS, I0, I1, I2, BO, FI, RG, GU, PU, MA, MN, MS, OT, SC], [r0, r1, r2, r3, w, r5, r6, r7, r8], Lg))) 97 93 2 (fun f => by simp only [a_sw, if_pos zc1]) e (fun n => Eq.refl _)
    have ze2 := Option.some.inj h
    subst ze2
    exact ev_rete 4 ho (fun n => Eq.refl _)
  have h := itn h zc1
  by_cases zc3 : p0 = 202
  · have h := itp h zc3
    suffices e : Ev (d + 0, 0, 0, 255, 97, [.val (.int p0), .val (.int p1), .val (.int p2)], [], (126, 120, L, [Y, T, HA, HB, RA, RB, ST, NS, I0, I1, I2, BO, FI, RG, GU, PU, MA, MN, MS, OT, SC], [r0, r1, r2, r3, w, r5, r6, r7, r8], Lg)) o from ev_sw [((201 : Int32), 93), ((202 : Int32), 97), ((203 : Int32), 60), ((204 : Int32), 71), ((205 : Int32), 82), ((206 : Int32), 48), ((207 : Int32), 52), ((208 : Int32), 56)] p0 (fun tt => (d + 0, 0, 0, 255, tt, [.val (.int p0), .val (.int p1), .val (.int p2)], [], (126, 120, L, [Y, T, HA, HB, RA, RB, ST, NS, I0, I1, I2, BO, FI, RG, GU, PU, MA, MN, MS, OT, SC], [r0, r1, r2, r3, w, r5, r6, r7, r8], Lg))) 97 97 2 (fun f => by simp only [a_sw, if_neg zc1, if_pos zc3]) e (fun n => Eq.refl _)
    have ze4 := Option.some.inj h
    subst ze4
    exact ev_rete 4 ho (fun n => Eq.refl _)
  have h := itn h zc3
  by_cases zc5 : p0 = 203
  · have h := itp h zc5
    suffices e : Ev (d + 0, 0, 0, 255, 60, [.val (.int p0), .val (.int p1), .val (.int p2)], [], (126, 120, L, [Y, T, HA, HB, RA, RB, ST, NS, I0, I1, I2, BO, FI, RG, GU, PU, MA, MN, MS, OT, SC], [r0, r1, r2, r3, w, r5, r6, r7, r8], Lg)) o from ev_sw [((201 : Int32), 93), ((202 : Int32), 97), ((203 : Int32), 60), ((204 : Int32), 71), ((205 : Int32), 82), ((206 : Int32), 48), ((207 : Int32), 52), ((208 : Int32), 56)] p0 (fun tt => (d + 0, 0, 0, 255, tt, [.val (.int p0), .val (.int p1), .val (.int p2)], [], (126, 120, L, [Y, T, HA, HB, RA, RB, ST, NS, I0, I1, I2, BO, FI, RG, GU, PU, MA, MN, MS, OT, SC], [r0, r1, r2, r3, w, r5, r6, r7, r8], Lg))) 97 60 2 (fun f => by simp only [a_sw, if_neg zc1, if_neg zc3, if_pos zc5]) e (fun n => Eq.refl _)
    by_cases zc6 : p2 ≤ p1
    · have h := itp h zc6
      suffices e : Ev (d + 0, 0, 0, 255, 69, [.val (.int p0), .val (.int p1), .val (.int p2)], [], (126, 120, L, [Y, T, HA, HB, RA, RB, ST, NS, I0, I1, I2, BO, FI, RG, GU, PU, MA, MN, MS, OT, SC], [r0, r1, r2, r3, w, r5, r6, r7, r8], Lg)) o from ev_t (c := p2 ≤ p1) _ _ 3  zc6 e (fun n => Eq.refl _)
      have ze7 := Option.some.inj h
      subst ze7
      exact ev_rete 2 ho (fun n => Eq.refl _)
    · have h := itn h zc6
      suffices e : Ev (d + 0, 0, 0, 255, 65, [.val (.int p0), .val (.int p1), .val (.int p2)], [], (126, 120, L, [Y, T, HA, HB, RA, RB, ST, NS, I0, I1, I2, BO, FI, RG, GU, PU, MA, MN, MS, OT, SC], [r0, r1, r2, r3, w, r5, r6, r7, r8], Lg)) o from ev_f (c := p2 ≤ p1) _ _ 3  zc6 e (fun n => Eq.refl _)
      have ze8 := Option.some.inj h
      subst ze8
      exact ev_rete 3 ho (fun n => Eq.refl _)
  have h := itn h zc5
  by_cases zc9 : p0 = 204
  · have h := itp h zc9
    suffices e : Ev (d + 0, 0, 0, 255, 71, [.val (.int p0), .val (.int p1), .val (.int p2)], [], (126, 120, L, [Y, T, HA, HB, RA, RB, ST, NS, I0, I1, I2, BO, FI, RG, GU, PU, MA, MN, MS, OT, SC], [r0, r1, r2, r3, w, r5, r6, r7, r8], Lg)) o from ev_sw [((201 : Int32), 93), ((202 : Int32), 97), ((203 : Int32), 60), ((204 : Int32), 71), ((205 : Int32), 82), ((206 : Int32), 48), ((207 : Int32), 52), ((208 : Int32), 56)] p0 (fun tt => (d + 0, 0, 0, 255, tt, [.val (.int p0), .val (.int p1), .val (.int p2)], [], (126, 120, L, [Y, T, HA, HB, RA, RB, ST, NS, I0, I1, I2, BO, FI, RG, GU, PU, MA, MN, MS, OT, SC], [r0, r1, r2, r3, w, r5, r6, r7, r8], Lg))) 97 71 2 (fun f => by simp only [a_sw, if_neg zc1, if_neg zc3, if_neg zc5, if_pos zc9]) e (fun n => Eq.refl _)
    by_cases zc10 : p1 ≤ p2
    · have h := itp h zc10
      suffices e : Ev (d + 0, 0, 0, 255, 80, [.val (.int p0), .val (.int p1), .val (.int p2)], [], (126, 120, L, [Y, T, HA, HB, RA, RB, ST, NS, I0, I1, I2, BO, FI, RG, GU, PU, MA, MN, MS, OT, SC], [r0, r1, r2, r3, w, r5, r6, r7, r8], Lg)) o from ev_t (c := p1 ≤ p2) _ _ 3  zc10 e (fun n => Eq.refl _)
      have ze11 := Option.some.inj h
      subst ze11
      exact ev_rete 2 ho (fun n => Eq.refl _)
    · have h := itn h zc10
      suffices e : Ev (d + 0, 0, 0, 255, 76, [.val (.int p0), .val (.int p1), .val (.int p2)], [], (126, 120, L, [Y, T, HA, HB, RA, RB, ST, NS, I0, I1, I2, BO, FI, RG, GU, PU, MA, MN, MS, OT, SC], [r0, r1, r2, r3, w, r5, r6, r7, r8], Lg)) o from ev_f (c := p1 ≤ p2) _ _ 3  zc10 e (fun n => Eq.refl _)
      have ze12 := Option.some.inj h
      subst ze12
      exact ev_rete 3 ho (fun n => Eq.refl _)
  have h := itn h zc9
  by_cases zc13 : p0 = 205
  · have h := itp h zc13
    suffices e : Ev (d + 0, 0, 0, 255, 82, [.val (.int p0), .val (.int p1), .val (.int p2)], [], (126, 120, L, [Y, T, HA, HB, RA, RB, ST, NS, I0, I1, I2, BO, FI, RG, GU, PU, MA, MN, MS, OT, SC], [r0, r1, r2, r3, w, r5, r6, r7, r8], Lg)) o from ev_sw [((201 : Int32), 93), ((202 : Int32), 97), ((203 : Int32), 60), ((204 : Int32), 71), ((205 : Int32), 82), ((206 : Int32), 48), ((207 : Int32), 52), ((208 : Int32), 56)] p0 (fun tt => (d + 0, 0, 0, 255, tt, [.val (.int p0), .val (.int p1), .val (.int p2)], [], (126, 120, L, [Y, T, HA, HB, RA, RB, ST, NS, I0, I1, I2, BO, FI, RG, GU, PU, MA, MN, MS, OT, SC], [r0, r1, r2, r3, w, r5, r6, r7, r8], Lg))) 97 82 2 (fun f => by simp only [a_sw, if_neg zc1, if_neg zc3, if_neg zc5, if_neg zc9, if_pos zc13]) e (fun n => Eq.refl _)
    by_cases zc14 : p1 ≠ p2
    · have h := itp h zc14
      suffices e : Ev (d + 0, 0, 0, 255, 91, [.val (.int p0), .val (.int p1), .val (.int p2)], [], (126, 120, L, [Y, T, HA, HB, RA, RB, ST, NS, I0, I1, I2, BO, FI, RG, GU, PU, MA, MN, MS, OT, SC], [r0, r1, r2, r3, w, r5, r6, r7, r8], Lg)) o from ev_t (c := p1 ≠ p2) _ _ 3  zc14 e (fun n => Eq.refl _)
      have ze15 := Option.some.inj h
      subst ze15
      exact ev_rete 2 ho (fun n => Eq.refl _)
    · have h := itn h zc14
      suffices e : Ev (d + 0, 0, 0, 255, 87, [.val (.int p0), .val (.int p1), .val (.int p2)], [], (126, 120, L, [Y, T, HA, HB, RA, RB, ST, NS, I0, I1, I2, BO, FI, RG, GU, PU, MA, MN, MS, OT, SC], [r0, r1, r2, r3, w, r5, r6, r7, r8], Lg)) o from ev_f (c := p1 ≠ p2) _ _ 3  zc14 e (fun n => Eq.refl _)
      have ze16 := Option.some.inj h
      subst ze16
      exact ev_rete 3 ho (fun n => Eq.refl _)
  have h := itn h zc13
  by_cases zc17 : p0 = 206
  · have h := itp h zc17
    suffices e : Ev (d + 0, 0, 0, 255, 48, [.val (.int p0), .val (.int p1), .val (.int p2)], [], (126, 120, L, [Y, T, HA, HB, RA, RB, ST, NS, I0, I1, I2, BO, FI, RG, GU, PU, MA, MN, MS, OT, SC], [r0, r1, r2, r3, w, r5, r6, r7, r8], Lg)) o from ev_sw [((201 : Int32), 93), ((202 : Int32), 97), ((203 : Int32), 60), ((204 : Int32), 71), ((205 : Int32), 82), ((206 : Int32), 48), ((207 : Int32), 52), ((208 : Int32), 56)] p0 (fun tt => (d + 0, 0, 0, 255, tt, [.val (.int p0), .val (.int p1), .val (.int p2)], [], (126, 120, L, [Y, T, HA, HB, RA, RB, ST, NS, I0, I1, I2, BO, FI, RG, GU, PU, MA, MN, MS, OT, SC], [r0, r1, r2, r3, w, r5, r6, r7, r8], Lg))) 97 48 2 (fun f => by simp only [a_sw, if_neg zc1, if_neg zc3, if_neg zc5, if_neg zc9, if_neg zc13, if_pos zc17]) e (fun n => Eq.refl _)
    have ze18 := Option.some.inj h
    subst ze18
    exact ev_rete 4 ho (fun n => Eq.refl _)
  have h := itn h zc17
  by_cases zc19 : p0 = 207
  · have h := itp h zc19
    suffices e : Ev (d + 0, 0, 0, 255, 52, [.val (.int p0), .val (.int p1), .val (.int p2)], [], (126, 120, L, [Y, T, HA, HB, RA, RB, ST, NS, I0, I1, I2, BO, FI, RG, GU, PU, MA, MN, MS, OT, SC], [r0, r1, r2, r3, w, r5, r6, r7, r8], Lg)) o from ev_sw [((201 : Int32), 93), ((202 : Int32), 97), ((203 : Int32), 60), ((204 : Int32), 71), ((205 : Int32), 82), ((206 : Int32), 48), ((207 : Int32), 52), ((208 : Int32), 56)] p0 (fun tt => (d + 0, 0, 0, 255, tt, [.val (.int p0), .val (.int p1), .val (.int p2)], [], (126, 120, L, [Y, T, HA, HB, RA, RB, ST, NS, I0, I1, I2, BO, FI, RG, GU, PU, MA, MN, MS, OT, SC], [r0, r1, r2, r3, w, r5, r6, r7, r8], Lg))) 97 52 2 (fun f => by simp only [a_sw, if_neg zc1, if_neg zc3, if_neg zc5, if_neg zc9, if_neg zc13, if_neg zc17, if_pos zc19]) e (fun n => Eq.refl _)
    have ze20 := Option.some.inj h
    subst ze20
    exact ev_rete 4 ho (fun n => Eq.refl _)
  have h := itn h zc19
  by_cases zc21 : p0 = 208
  · have h := itp h zc21
    suffices e : Ev (d + 0, 0, 0, 255, 56, [.val (.int p0), .val (.int p1), .val (.int p2)], [], (126, 120, L, [Y, T, HA, HB, RA, RB, ST, NS, I0, I1, I2, BO, FI, RG, GU, PU, MA, MN, MS, OT, SC], [r0, r1, r2, r3, w, r5, r6, r7, r8], Lg)) o from ev_sw [((201 : Int32), 93), ((202 : Int32), 97), ((203 : Int32), 60), ((204 : Int32), 71), ((205 : Int32), 82), ((206 : Int32), 48), ((207 : Int32), 52), ((208 : Int32), 56)] p0 (fun tt => (d + 0, 0, 0, 255, tt, [.val (.int p0), .val (.int p1), .val (.int p2)], [], (126, 120, L, [Y, T, HA, HB, RA, RB, ST, NS, I0, I1, I2, BO, FI, RG, GU, PU, MA, MN, MS, OT, SC], [r0, r1, r2, r3, w, r5, r6, r7, r8], Lg))) 97 56 2 (fun f => by simp only [a_sw, if_neg zc1, if_neg zc3, if_neg zc5, if_neg zc9, if_neg zc13, if_neg zc17, if_neg zc19, if_pos zc21]) e (fun n => Eq.refl _)
    have ze22 := Option.some.inj h
    subst ze22
    exact ev_rete 4 ho (fun n => Eq.refl _)
  have h := itn h zc21
  suffices e : Ev (d + 0, 0, 0, 255, 97, [.val (.int p0), .val (.int p1), .val (.int p2)], [], (126, 120, L, [Y, T, HA, HB, RA, RB, ST, NS, I0, I1, I2, BO, FI, RG, GU, PU, MA, MN, MS, OT, SC], [r0, r1, r2, r3, w, r5, r6, r7, r8], Lg)) o from ev_sw [((201 : Int32), 93), ((202 : Int32), 97), ((203 : Int32), 60), ((204 : Int32), 71), ((205 : Int32), 82), ((206 : Int32), 48), ((207 : Int32), 52), ((208 : Int32), 56)] p0 (fun tt => (d + 0, 0, 0, 255, tt, [.val (.int p0), .val (.int p1), .val (.int p2)], [], (126, 120, L, [Y, T, HA, HB, RA, RB, ST, NS, I0, I1, I2, BO, FI, RG, GU, PU, MA, MN, MS, OT, SC], [r0, r1, r2, r3, w, r5, r6, r7, r8], Lg))) 97 97 2 (fun f => by simp only [a_sw, if_neg zc1, if_neg zc3, if_neg zc5, if_neg zc9, if_neg zc13, if_neg zc17, if_neg zc19, if_neg zc21]) e (fun n => Eq.refl _)
  have ze23 := Option.some.inj h
  subst ze23
  exact ev_rete 4 ho (fun n => Eq.refl _)
set_option maxRecDepth 1000000 in
set_option maxHeartbeats 4000000 in
theorem R_f_Rule_isSo_0 (d : Nat) (Y T H H2 RU RV ST NS I0 I1 I2 BO FI RG GU PU MA MN MS OT SC : Nat → Nat → Int32) (r0 r1 r2 r3 w r6 r7 r8 : Nat) (L : Nat) (Lg : Int64) (p2 : Int32) (p3 : Int32) {r : Int32 × (Nat → Nat → Int32)} (h : f_Rule_isSo H RU BO p2 p3 = some r) : Ev (d + 2, 0, 0, 253, 0, [.val (.ref 320), .val (.ref 768), .val (.int p2), .val (.int p3), .val a_unk, .val a_unk, .val a_unk], [], (126, 120, L, [Y, T, H, H2, RU, RV, ST, NS, I0, I1, I2, BO, FI, RG, GU, PU, MA, MN, MS, OT, SC], [r0, r1, r2, r3, w, 192, r6, r7, r8], Lg)) ((0, some (.int r.1), (126, 120, L, [Y, T, H, H2, r.2, RV, ST, NS, I0, I1, I2, BO, FI, RG, GU, PU, MA, MN, MS, OT, SC], [r0, r1, r2, r3, w, 192, r6, r7, r8], Lg)) : AOut) := by
  suffices key : ∀ o : AOut, ((0, some (.int r.1), (126, 120, L, [Y, T, H, H2, r.2, RV, ST, NS, I0, I1, I2, BO, FI, RG, GU, PU, MA, MN, MS, OT, SC], [r0, r1, r2, r3, w, 192, r6, r7, r8], Lg)) : AOut) = o → Ev (d + 2, 0, 0, 253, 0, [.val (.ref 320), .val (.ref 768), .val (.int p2), .val (.int p3), .val a_unk, .val a_unk, .val a_unk], [], (126, 120, L, [Y, T, H, H2, RU, RV, ST, NS, I0, I1, I2, BO, FI, RG, GU, PU, MA, MN, MS, OT, SC], [r0, r1, r2, r3, w, 192, r6, r7, r8], Lg)) o from key _ rfl
  intro o ho
  by_cases zc1 : (RU 0 1) ≠ 0
  · have h := itp h zc1
    suffices e : Ev (d + 2, 0, 0, 253, 9, [.val (.ref 320), .val (.ref 768), .val (.int p2), .val (.int p3), .val a_unk, .val a_unk, .val a_unk], [], (126, 120, L, [Y, T, H, H2, RU, RV, ST, NS, I0, I1, I2, BO, FI, RG, GU, PU, MA, MN, MS, OT, SC], [r0, r1, r2, r3, w, 192, r6, r7, r8], Lg)) o from ev_t (c := (RU 0 1) ≠ 0) _ _ 3  zc1 e (fun n => Eq.refl _)
    obtain ⟨RU_1, zh2, h⟩ := bnd h
    have zh2 : f_Rule_setMeeting H RU BO 0 p2 = some RU_1 := zh2
    have ze3 := R_f_Rule_setMeeting_0 (d + 0) Y T H H2 RU RV ST NS I0 I1 I2 BO FI RG GU PU MA MN MS OT SC r0 r1 r2 r3 w r6 r7 r8 L Lg 0 p2 zh2
    suffices e : Ev (d + 2, 0, 0, 253, 16, [.val (.ref 320), .val (.ref 768), .val (.int p2), .val (.int p3), .val a_unk, .val a_unk, .val a_unk], [], (126, 120, L, [Y, T, H, H2, RU_1, RV, ST, NS, I0, I1, I2, BO, FI, RG, GU, PU, MA, MN, MS, OT, SC], [r0, r1, r2, r3, w, 192, r6, r7, r8], Lg)) o from ev_call (fun v μ => (d + 2, 0, 0, 253, 16, [.val (.ref 320), .val (.ref 768), .val (.int p2), .val (.int p3), .val a_unk, .val a_unk, .val a_unk], v.toList ++ [], μ)) 5 ze3 e (fun n => Eq.refl _)
    obtain ⟨RU_2, zh4, h⟩ := bnd h
    have zh4 : f_Rule_setMeeting H RU_1 BO 4 p3 = some RU_2 := zh4
    have ze5 := R_f_Rule_setMeeting_0 (d + 0) Y T H H2 RU_1 RV ST NS I0 I1 I2 BO FI RG GU PU MA MN MS OT SC r0 r1 r2 r3 w r6 r7 r8 L Lg 4 p3 zh4
    suffices e : Ev (d + 2, 0, 0, 253, 23, [.val (.ref 320), .val (.ref 768), .val (.int p2), .val (.int p3), .val a_unk, .val a_unk, .val a_unk], [], (126, 120, L, [Y, T, H, H2, RU_2, RV, ST, NS, I0, I1, I2, BO, FI, RG, GU, PU, MA, MN, MS, OT, SC], [r0, r1, r2, r3, w, 192, r6, r7, r8], Lg)) o from ev_call (fun v μ => (d + 2, 0, 0, 253, 23, [.val (.ref 320), .val (.ref 768), .val (.int p2), .val (.int p3), .val a_unk, .val a_unk, .val a_unk], v.toList ++ [], μ)) 5 ze5 e (fun n => Eq.refl _)
    obtain ⟨zb6, zh7, h⟩ := bnd h
    suffices e : Ev (d + 2, 0, 0, 253, 29, [.val (.ref 320), .val (.ref 768), .val (.int p2), .val (.int p3), .val (.int 0), .val (.int 0), .val a_unk], [], (126, 120, L, [Y, T, H, H2, RU_2, RV, ST, NS, I0, I1, I2, BO, FI, RG, GU, PU, MA, MN, MS, OT, SC], [r0, r1, r2, r3, w, 192, r6, r7, r8], Lg)) o from ev_b 4 e (fun n => Eq.refl _)
    refine ev_loop (δ := Value) (fun a j => (d + 2, 0, 0, 253, 29, [.val (.ref 320), .val (.ref 768), .val (.int p2), .val (.int p3), .val (.int a.1), .val (.int a.2.1), .val j], [], (126, 120, L, [Y, T, H, H2, a.2.2, RV, ST, NS, I0, I1, I2, BO, FI, RG, GU, PU, MA, MN, MS, OT, SC], [r0, r1, r2, r3, w, 192, r6, r7, r8], Lg))) (fun b => ∀ s17 : Value, ∀ s18 : Value, Ev (d + 2, 0, 0, 253, 164, [.val (.ref 320), .val (.ref 768), .val (.int p2), .val (.int p3), .val (.int b.1), .val s17, .val s18], [], (126, 120, L, [Y, T, H, H2, b.2, RV, ST, NS, I0, I1, I2, BO, FI, RG, GU, PU, MA, MN, MS, OT, SC], [r0, r1, r2, r3, w, 192, r6, r7, r8], Lg)) o) ?_ a_F (0, 0, RU_2) zb6 zh7 ?_ a_unk
    · rintro ⟨v3, v4, RU_6⟩ zr11 zh10 zi8 zx9 s5
      have zh10 : f_Rule_isSo_l29 v3 v4 RU_6 = some zr11 := zh10
      by_cases zc12 : (RU_6 0 1) ≤ v4
      · have zh10 := itp zh10 zc12
        suffices e : Ev (d + 2, 0, 0, 253, 164, [.val (.ref 320), .val (.ref 768), .val (.int p2), .val (.int p3), .val (.int v3), .val (.int v4), .val s5], [], (126, 120, L, [Y, T, H, H2, RU_6, RV, ST, NS, I0, I1, I2, BO, FI, RG, GU, PU, MA, MN, MS, OT, SC], [r0, r1, r2, r3, w, 192, r6, r7, r8], Lg)) o from ev_t (c := (RU_6 0 1) ≤ v4) _ _ 4  zc12 e (fun n => Eq.refl _)
        exact ev_b 0 (zx9 _ (Option.some.inj zh10).symm (.int v4) s5) (fun n => Eq.refl _)
      · have zh10 := itn zh10 zc12
        suffices e : Ev (d + 2, 0, 0, 253, 38, [.val (.ref 320), .val (.ref 768), .val (.int p2), .val (.int p3), .val (.int v3), .val (.int v4), .val s5], [], (126, 120, L, [Y, T, H, H2, RU_6, RV, ST, NS, I0, I1, I2, BO, FI, RG, GU, PU, MA, MN, MS, OT, SC], [r0, r1, r2, r3, w, 192, r6, r7, r8], Lg)) o from ev_f (c := (RU_6 0 1) ≤ v4) _ _ 4  zc12 e (fun n => Eq.refl _)
        obtain ⟨x7, zh13, zh10⟩ := bnd zh10
        have zh13 : rdx (RU_6 1) 150 v4 = some x7 := zh13
        suffices e : Ev (d + 2, 0, 0, 253, 45, [.val (.ref 320), .val (.ref 768), .val (.int p2), .val (.int p3), .val (.int v3), .val (.int v4), .val s5], [.int x7], (126, 120, L, [Y, T, H, H2, RU_6, RV, ST, NS, I0, I1, I2, BO, FI, RG, GU, PU, MA, MN, MS, OT, SC], [r0, r1, r2, r3, w, 192, r6, r7, r8], Lg)) o from ev_opt (fun x7 => (d + 2, 0, 0, 253, 45, [.val (.ref 320), .val (.ref 768), .val (.int p2), .val (.int p3), .val (.int v3), .val (.int v4), .val s5], [.int x7], (126, 120, L, [Y, T, H, H2, RU_6, RV, ST, NS, I0, I1, I2, BO, FI, RG, GU, PU, MA, MN, MS, OT, SC], [r0, r1, r2, r3, w, 192, r6, r7, r8], Lg))) 4 zh13 e (fun n => Eq.refl _)
        obtain ⟨zt14, zh15, zh10⟩ := bnd zh10
        have zj16 : zt14 = .inl () → Ev (d + 2, 0, 0, 253, 82, [.val (.ref 320), .val (.ref 768), .val (.int p2), .val (.int p3), .val (.int v3), .val (.int v4), .val (.int x7)], [], (126, 120, L, [Y, T, H, H2, RU_6, RV, ST, NS, I0, I1, I2, BO, FI, RG, GU, PU, MA, MN, MS, OT, SC], [r0, r1, r2, r3, w, 192, r6, r7, r8], Lg)) o := by
          intro ze17
          have zh10 := sum_l zh10 ze17
          obtain ⟨zt18, zh19, zh10⟩ := bnd zh10
          have zj20 : zt18 = .inl () → Ev (d + 2, 0, 0, 253, 119, [.val (.ref 320), .val (.ref 768), .val (.int p2), .val (.int p3), .val (.int v3), .val (.int v4), .val (.int x7)], [], (126, 120, L, [Y, T, H, H2, RU_6, RV, ST, NS, I0, I1, I2, BO, FI, RG, GU, PU, MA, MN, MS, OT, SC], [r0, r1, r2, r3, w, 192, r6, r7, r8], Lg)) o := by
            intro ze21
            have zh10 := sum_l zh10 ze21
            by_cases zc22 : v3 < 2
            · have zh10 := itp zh10 zc22
              suffices e : Ev (d + 2, 0, 0, 253, 158, [.val (.ref 320), .val (.ref 768), .val (.int p2), .val (.int p3), .val (.int v3), .val (.int v4), .val (.int x7)], [], (126, 120, L, [Y, T, H, H2, RU_6, RV, ST, NS, I0, I1, I2, BO, FI, RG, GU, PU, MA, MN, MS, OT, SC], [r0, r1, r2, r3, w, 192, r6, r7, r8], Lg)) o from ev_t (c := v3 < 2) _ _ 3  zc22 e (fun n => Eq.refl _)
              exact ev_b 2 (zi8 _ (Option.some.inj zh10).symm (.int x7)) (fun n => Eq.refl _)
            · have zh10 := itn zh10 zc22
              suffices e : Ev (d + 2, 0, 0, 253, 125, [.val (.ref 320), .val (.ref 768), .val (.int p2), .val (.int p3), .val (.int v3), .val (.int v4), .val (.int x7)], [], (126, 120, L, [Y, T, H, H2, RU_6, RV, ST, NS, I0, I1, I2, BO, FI, RG, GU, PU, MA, MN, MS, OT, SC], [r0, r1, r2, r3, w, 192, r6, r7, r8], Lg)) o from ev_f (c := v3 < 2) _ _ 3  zc22 e (fun n => Eq.refl _)
              suffices e : Ev (d + 2, 0, 0, 253, 128, [.val (.ref 320), .val (.ref 768), .val (.int p2), .val (.int p3), .val (.int (v3 + (-1))), .val (.int v4), .val (.int x7)], [], (126, 120, L, [Y, T, H, H2, RU_6, RV, ST, NS, I0, I1, I2, BO, FI, RG, GU, PU, MA, MN, MS, OT, SC], [r0, r1, r2, r3, w, 192, r6, r7, r8], Lg)) o from ev_b 1 e (fun n => Eq.refl _)
              obtain ⟨x12, zh23, zh10⟩ := bnd zh10
              have zh23 : rdx (RU_6 2) 150 ((v3 + (-1)) - 1) = some x12 := zh23
              suffices e : Ev (d + 2, 0, 0, 253, 147, [.val (.ref 320), .val (.ref 768), .val (.int p2), .val (.int p3), .val (.int (v3 + (-1))), .val (.int v4), .val (.int x7)], [.int x12, .int x7, .int ((v3 + (-1)) - 1), .ref 322], (126, 120, L, [Y, T, H, H2, RU_6, RV, ST, NS, I0, I1, I2, BO, FI, RG, GU, PU, MA, MN, MS, OT, SC], [r0, r1, r2, r3, w, 192, r6, r7, r8], Lg)) o from ev_opt (fun x12 => (d + 2, 0, 0, 253, 147, [.val (.ref 320), .val (.ref 768), .val (.int p2), .val (.int p3), .val (.int (v3 + (-1))), .val (.int v4), .val (.int x7)], [.int x12, .int x7, .int ((v3 + (-1)) - 1), .ref 322], (126, 120, L, [Y, T, H, H2, RU_6, RV, ST, NS, I0, I1, I2, BO, FI, RG, GU, PU, MA, MN, MS, OT, SC], [r0, r1, r2, r3, w, 192, r6, r7, r8], Lg))) 12 zh23 e (fun n => Eq.refl _)
              obtain ⟨x13, zh24, zh10⟩ := bnd zh10
              have zh24 : rdx (RU_6 2) 150 (v3 + (-1)) = some x13 := zh24
              suffices e : Ev (d + 2, 0, 0, 253, 154, [.val (.ref 320), .val (.ref 768), .val (.int p2), .val (.int p3), .val (.int (v3 + (-1))), .val (.int v4), .val (.int x7)], [.int x13, .int x12, .int x7, .int ((v3 + (-1)) - 1), .ref 322], (126, 120, L, [Y, T, H, H2, RU_6, RV, ST, NS, I0, I1, I2, BO, FI, RG, GU, PU, MA, MN, MS, OT, SC], [r0, r1, r2, r3, w, 192, r6, r7, r8], Lg)) o from ev_opt (fun x13 => (d + 2, 0, 0, 253, 154, [.val (.ref 320), .val (.ref 768), .val (.int p2), .val (.int p3), .val (.int (v3 + (-1))), .val (.int v4), .val (.int x7)], [.int x13, .int x12, .int x7, .int ((v3 + (-1)) - 1), .ref 322], (126, 120, L, [Y, T, H, H2, RU_6, RV, ST, NS, I0, I1, I2, BO, FI, RG, GU, PU, MA, MN, MS, OT, SC], [r0, r1, r2, r3, w, 192, r6, r7, r8], Lg))) 4 zh24 e (fun n => Eq.refl _)
              obtain ⟨x14, zh25, zh10⟩ := bnd zh10
              have zh25 : f_Rule_apply x7 x12 x13 = some x14 := zh25
              have ze26 := R_f_Rule_apply_0 (d + 1) Y T H H2 RU_6 RV ST NS I0 I1 I2 BO FI RG GU PU MA MN MS OT SC r0 r1 r2 r3 w 192 r6 r7 r8 L Lg x7 x12 x13 zh25
              suffices e : Ev (d + 2, 0, 0, 253, 157, [.val (.ref 320), .val (.ref 768), .val (.int p2), .val (.int p3), .val (.int (v3 + (-1))), .val (.int v4), .val (.int x7)], [.int x14, .int ((v3 + (-1)) - 1), .ref 322], (126, 120, L, [Y, T, H, H2, RU_6, RV, ST, NS, I0, I1, I2, BO, FI, RG, GU, PU, MA, MN, MS, OT, SC], [r0, r1, r2, r3, w, 192, r6, r7, r8], Lg)) o from ev_call (fun v μ => (d + 2, 0, 0, 253, 157, [.val (.ref 320), .val (.ref 768), .val (.int p2), .val (.int p3), .val (.int (v3 + (-1))), .val (.int v4), .val (.int x7)], v.toList ++ [.int ((v3 + (-1)) - 1), .ref 322], μ)) 1 ze26 e (fun n => Eq.refl _)
              obtain ⟨j15, zh27, zh10⟩ := bnd zh10
              have zh27 : ixx 150 ((v3 + (-1)) - 1) = some j15 := zh27
              suffices e : Ev (d + 2, 0, 0, 253, 158, [.val (.ref 320), .val (.ref 768), .val (.int p2), .val (.int p3), .val (.int (v3 + (-1))), .val (.int v4), .val (.int x7)], [], (126, 120, L, [Y, T, H, H2, (u2 RU_6 2 j15 x14), RV, ST, NS, I0, I1, I2, BO, FI, RG, GU, PU, MA, MN, MS, OT, SC], [r0, r1, r2, r3, w, 192, r6, r7, r8], Lg)) o from ev_opt (fun j15 => (d + 2, 0, 0, 253, 158, [.val (.ref 320), .val (.ref 768), .val (.int p2), .val (.int p3), .val (.int (v3 + (-1))), .val (.int v4), .val (.int x7)], [], (126, 120, L, [Y, T, H, H2, (u2 RU_6 2 j15 x14), RV, ST, NS, I0, I1, I2, BO, FI, RG, GU, PU, MA, MN, MS, OT, SC], [r0, r1, r2, r3, w, 192, r6, r7, r8], Lg))) 1 zh27 e (fun n => Eq.refl _)
              exact ev_b 2 (zi8 _ (Option.some.inj zh10).symm (.int x7)) (fun n => Eq.refl _)
          by_cases zc28 : x7 ≠ 200
          · have zh19 := itp zh19 zc28
            suffices e : Ev (d + 2, 0, 0, 253, 119, [.val (.ref 320), .val (.ref 768), .val (.int p2), .val (.int p3), .val (.int v3), .val (.int v4), .val (.int x7)], [], (126, 120, L, [Y, T, H, H2, RU_6, RV, ST, NS, I0, I1, I2, BO, FI, RG, GU, PU, MA, MN, MS, OT, SC], [r0, r1, r2, r3, w, 192, r6, r7, r8], Lg)) o from ev_t (c := x7 ≠ 200) _ _ 3  zc28 e (fun n => Eq.refl _)
            exact ev_b 0 (zj20  (Option.some.inj zh19).symm ) (fun n => Eq.refl _)
          · have zh19 := itn zh19 zc28
            suffices e : Ev (d + 2, 0, 0, 253, 90, [.val (.ref 320), .val (.ref 768), .val (.int p2), .val (.int p3), .val (.int v3), .val (.int v4), .val (.int x7)], [], (126, 120, L, [Y, T, H, H2, RU_6, RV, ST, NS, I0, I1, I2, BO, FI, RG, GU, PU, MA, MN, MS, OT, SC], [r0, r1, r2, r3, w, 192, r6, r7, r8], Lg)) o from ev_f (c := x7 ≠ 200) _ _ 3  zc28 e (fun n => Eq.refl _)
            by_cases zc29 : v3 < 1
            · have zh19 := itp zh19 zc29
              suffices e : Ev (d + 2, 0, 0, 253, 119, [.val (.ref 320), .val (.ref 768), .val (.int p2), .val (.int p3), .val (.int v3), .val (.int v4), .val (.int x7)], [], (126, 120, L, [Y, T, H, H2, RU_6, RV, ST, NS, I0, I1, I2, BO, FI, RG, GU, PU, MA, MN, MS, OT, SC], [r0, r1, r2, r3, w, 192, r6, r7, r8], Lg)) o from ev_t (c := v3 < 1) _ _ 3  zc29 e (fun n => Eq.refl _)
              exact ev_b 0 (zj20  (Option.some.inj zh19).symm ) (fun n => Eq.refl _)
            · have zh19 := itn zh19 zc29
              suffices e : Ev (d + 2, 0, 0, 253, 96, [.val (.ref 320), .val (.ref 768), .val (.int p2), .val (.int p3), .val (.int v3), .val (.int v4), .val (.int x7)], [], (126, 120, L, [Y, T, H, H2, RU_6, RV, ST, NS, I0, I1, I2, BO, FI, RG, GU, PU, MA, MN, MS, OT, SC], [r0, r1, r2, r3, w, 192, r6, r7, r8], Lg)) o from ev_f (c := v3 < 1) _ _ 3  zc29 e (fun n => Eq.refl _)
              obtain ⟨x10, zh30, zh19⟩ := bnd zh19
              have zh30 : rdx (RU_6 2) 150 (v3 - 1) = some x10 := zh30
              suffices e : Ev (d + 2, 0, 0, 253, 114, [.val (.ref 320), .val (.ref 768), .val (.int p2), .val (.int p3), .val (.int v3), .val (.int v4), .val (.int x7)], [.int x10, .int 1, .int (v3 - 1), .ref 322], (126, 120, L, [Y, T, H, H2, RU_6, RV, ST, NS, I0, I1, I2, BO, FI, RG, GU, PU, MA, MN, MS, OT, SC], [r0, r1, r2, r3, w, 192, r6, r7, r8], Lg)) o from ev_opt (fun x10 => (d + 2, 0, 0, 253, 114, [.val (.ref 320), .val (.ref 768), .val (.int p2), .val (.int p3), .val (.int v3), .val (.int v4), .val (.int x7)], [.int x10, .int 1, .int (v3 - 1), .ref 322], (126, 120, L, [Y, T, H, H2, RU_6, RV, ST, NS, I0, I1, I2, BO, FI, RG, GU, PU, MA, MN, MS, OT, SC], [r0, r1, r2, r3, w, 192, r6, r7, r8], Lg))) 12 zh30 e (fun n => Eq.refl _)
              obtain ⟨j11, zh31, zh19⟩ := bnd zh19
              have zh31 : ixx 150 (v3 - 1) = some j11 := zh31
              suffices e : Ev (d + 2, 0, 0, 253, 116, [.val (.ref 320), .val (.ref 768), .val (.int p2), .val (.int p3), .val (.int v3), .val (.int v4), .val (.int x7)], [], (126, 120, L, [Y, T, H, H2, (u2 RU_6 2 j11 (1 - x10)), RV, ST, NS, I0, I1, I2, BO, FI, RG, GU, PU, MA, MN, MS, OT, SC], [r0, r1, r2, r3, w, 192, r6, r7, r8], Lg)) o from ev_opt (fun j11 => (d + 2, 0, 0, 253, 116, [.val (.ref 320), .val (.ref 768), .val (.int p2), .val (.int p3), .val (.int v3), .val (.int v4), .val (.int x7)], [], (126, 120, L, [Y, T, H, H2, (u2 RU_6 2 j11 (1 - x10)), RV, ST, NS, I0, I1, I2, BO, FI, RG, GU, PU, MA, MN, MS, OT, SC], [r0, r1, r2, r3, w, 192, r6, r7, r8], Lg))) 2 zh31 e (fun n => Eq.refl _)
              have zh32 := sum_r zh10 (Option.some.inj zh19).symm
              exact ev_b 3 (zi8 _ (Option.some.inj zh32).symm (.int x7)) (fun n => Eq.refl _)
        by_cases zc33 : 200 ≤ x7
        · have zh15 := itp zh15 zc33
          suffices e : Ev (d + 2, 0, 0, 253, 82, [.val (.ref 320), .val (.ref 768), .val (.int p2), .val (.int p3), .val (.int v3), .val (.int v4), .val (.int x7)], [], (126, 120, L, [Y, T, H, H2, RU_6, RV, ST, NS, I0, I1, I2, BO, FI, RG, GU, PU, MA, MN, MS, OT, SC], [r0, r1, r2, r3, w, 192, r6, r7, r8], Lg)) o from ev_t (c := 200 ≤ x7) _ _ 4  zc33 e (fun n => Eq.refl _)
          exact ev_b 0 (zj16  (Option.some.inj zh15).symm ) (fun n => Eq.refl _)
        · have zh15 := itn zh15 zc33
          suffices e : Ev (d + 2, 0, 0, 253, 55, [.val (.ref 320), .val (.ref 768), .val (.int p2), .val (.int p3), .val (.int v3), .val (.int v4), .val (.int x7)], [], (126, 120, L, [Y, T, H, H2, RU_6, RV, ST, NS, I0, I1, I2, BO, FI, RG, GU, PU, MA, MN, MS, OT, SC], [r0, r1, r2, r3, w, 192, r6, r7, r8], Lg)) o from ev_f (c := 200 ≤ x7) _ _ 4  zc33 e (fun n => Eq.refl _)
          by_cases zc34 : 150 ≤ v3
          · have zh15 := itp zh15 zc34
            suffices e : Ev (d + 2, 0, 0, 253, 82, [.val (.ref 320), .val (.ref 768), .val (.int p2), .val (.int p3), .val (.int v3), .val (.int v4), .val (.int x7)], [], (126, 120, L, [Y, T, H, H2, RU_6, RV, ST, NS, I0, I1, I2, BO, FI, RG, GU, PU, MA, MN, MS, OT, SC], [r0, r1, r2, r3, w, 192, r6, r7, r8], Lg)) o from ev_t (c := 150 ≤ v3) _ _ 3  zc34 e (fun n => Eq.refl _)
            exact ev_b 0 (zj16  (Option.some.inj zh15).symm ) (fun n => Eq.refl _)
          · have zh15 := itn zh15 zc34
            suffices e : Ev (d + 2, 0, 0, 253, 63, [.val (.ref 320), .val (.ref 768), .val (.int p2), .val (.int p3), .val (.int v3), .val (.int v4), .val (.int x7)], [], (126, 120, L, [Y, T, H, H2, RU_6, RV, ST, NS, I0, I1, I2, BO, FI, RG, GU, PU, MA, MN, MS, OT, SC], [r0, r1, r2, r3, w, 192, r6, r7, r8], Lg)) o from ev_f (c := 150 ≤ v3) _ _ 3  zc34 e (fun n => Eq.refl _)
            obtain ⟨x8, zh35, zh15⟩ := bnd zh15
            have zh35 : f_Rule_operand RU_6 x7 = some x8 := zh35
            have ze36 := R_f_Rule_operand_0 (d + 1) Y T H H2 RU_6 RV ST NS I0 I1 I2 BO FI RG GU PU MA MN MS OT SC r0 r1 r2 r3 w 192 r6 r7 r8 L Lg x7 zh35
            suffices e : Ev (d + 2, 0, 0, 253, 75, [.val (.ref 320), .val (.ref 768), .val (.int p2), .val (.int p3), .val (.int v3), .val (.int v4), .val (.int x7)], [.int x8, .int v3, .ref 322], (126, 120, L, [Y, T, H, H2, RU_6, RV, ST, NS, I0, I1, I2, BO, FI, RG, GU, PU, MA, MN, MS, OT, SC], [r0, r1, r2, r3, w, 192, r6, r7, r8], Lg)) o from ev_call (fun v μ => (d + 2, 0, 0, 253, 75, [.val (.ref 320), .val (.ref 768), .val (.int p2), .val (.int p3), .val (.int v3), .val (.int v4), .val (.int x7)], v.toList ++ [.int v3, .ref 322], μ)) 6 ze36 e (fun n => Eq.refl _)
            obtain ⟨j9, zh37, zh15⟩ := bnd zh15
            have zh37 : ixx 150 v3 = some j9 := zh37
            suffices e : Ev (d + 2, 0, 0, 253, 76, [.val (.ref 320), .val (.ref 768), .val (.int p2), .val (.int p3), .val (.int v3), .val (.int v4), .val (.int x7)], [], (126, 120, L, [Y, T, H, H2, (u2 RU_6 2 j9 x8), RV, ST, NS, I0, I1, I2, BO, FI, RG, GU, PU, MA, MN, MS, OT, SC], [r0, r1, r2, r3, w, 192, r6, r7, r8], Lg)) o from ev_opt (fun j9 => (d + 2, 0, 0, 253, 76, [.val (.ref 320), .val (.ref 768), .val (.int p2), .val (.int p3), .val (.int v3), .val (.int v4), .val (.int x7)], [], (126, 120, L, [Y, T, H, H2, (u2 RU_6 2 j9 x8), RV, ST, NS, I0, I1, I2, BO, FI, RG, GU, PU, MA, MN, MS, OT, SC], [r0, r1, r2, r3, w, 192, r6, r7, r8], Lg))) 1 zh37 e (fun n => Eq.refl _)
            have zh38 := sum_r zh10 (Option.some.inj zh15).symm
            exact ev_b 4 (zi8 _ (Option.some.inj zh38).symm (.int x7)) (fun n => Eq.refl _)
    · obtain ⟨v16, RU_19⟩ := zb6
      intro s17 s18
      by_cases zc39 : v16 ≠ 1
      · have h := itp h zc39
        suffices e : Ev (d + 2, 0, 0, 253, 183, [.val (.ref 320), .val (.ref 768), .val (.int p2), .val (.int p3), .val (.int v16), .val s17, .val s18], [], (126, 120, L, [Y, T, H, H2, RU_19, RV, ST, NS, I0, I1, I2, BO, FI, RG, GU, PU, MA, MN, MS, OT, SC], [r0, r1, r2, r3, w, 192, r6, r7, r8], Lg)) o from ev_t (c := v16 ≠ 1) _ _ 3  zc39 e (fun n => Eq.refl _)
        have ze40 := Option.some.inj h
        subst ze40
        exact ev_rete 2 ho (fun n => Eq.refl _)
      · have h := itn h zc39
        suffices e : Ev (d + 2, 0, 0, 253, 170, [.val (.ref 320), .val (.ref 768), .val (.int p2), .val (.int p3), .val (.int v16), .val s17, .val s18], [], (126, 120, L, [Y, T, H, H2, RU_19, RV, ST, NS, I0, I1, I2, BO, FI, RG, GU, PU, MA, MN, MS, OT, SC], [r0, r1, r2, r3, w, 192, r6, r7, r8], Lg)) o from ev_f (c := v16 ≠ 1) _ _ 3  zc39 e (fun n => Eq.refl _)
        obtain ⟨x20, zh41, h⟩ := bnd h
        have zh41 : rdx (RU_19 2) 150 0 = some x20 := zh41
        suffices e : Ev (d + 2, 0, 0, 253, 176, [.val (.ref 320), .val (.ref 768), .val (.int p2), .val (.int p3), .val (.int v16), .val s17, .val s18], [.int x20], (126, 120, L, [Y, T, H, H2, RU_19, RV, ST, NS, I0, I1, I2, BO, FI, RG, GU, PU, MA, MN, MS, OT, SC], [r0, r1, r2, r3, w, 192, r6, r7, r8], Lg)) o from ev_opt (fun x20 => (d + 2, 0, 0, 253, 176, [.val (.ref 320), .val (.ref 768), .val (.int p2), .val (.int p3), .val (.int v16), .val s17, .val s18], [.int x20], (126, 120, L, [Y, T, H, H2, RU_19, RV, ST, NS, I0, I1, I2, BO, FI, RG, GU, PU, MA, MN, MS, OT, SC], [r0, r1, r2, r3, w, 192, r6, r7, r8], Lg))) 4 zh41 e (fun n => Eq.refl _)
        by_cases zc42 : x20 = 0
        · have h := itp h zc42
          suffices e : Ev (d + 2, 0, 0, 253, 183, [.val (.ref 320), .val (.ref 768), .val (.int p2), .val (.int p3), .val (.int v16), .val s17, .val s18], [], (126, 120, L, [Y, T, H, H2, RU_19, RV, ST, NS, I0, I1, I2, BO, FI, RG, GU, PU, MA, MN, MS, OT, SC], [r0, r1, r2, r3, w, 192, r6, r7, r8], Lg)) o from ev_t (c := x20 = 0) _ _ 1  zc42 e (fun n => Eq.refl _)
          have ze43 := Option.some.inj h
          subst ze43
          exact ev_rete 2 ho (fun n => Eq.refl _)
        · have h := itn h zc42
          suffices e : Ev (d + 2, 0, 0, 253, 179, [.val (.ref 320), .val (.ref 768), .val (.int p2), .val (.int p3), .val (.int v16), .val s17, .val s18], [], (126, 120, L, [Y, T, H, H2, RU_19, RV, ST, NS, I0, I1, I2, BO, FI, RG, GU, PU, MA, MN, MS, OT, SC], [r0, r1, r2, r3, w, 192, r6, r7, r8], Lg)) o from ev_f (c := x20 = 0) _ _ 1  zc42 e (fun n => Eq.refl _)
          have ze44 := Option.some.inj h
          subst ze44
          exact ev_rete 3 ho (fun n => Eq.refl _)
  · have h := itn h zc1
    suffices e : Ev (d + 2, 0, 0, 253, 7, [.val (.ref 320), .val (.ref 768), .val (.int p2), .val (.int p3), .val a_unk, .val a_unk, .val a_unk], [], (126, 120, L, [Y, T, H, H2, RU, RV, ST, NS, I0, I1, I2, BO, FI, RG, GU, PU, MA, MN, MS, OT, SC], [r0, r1, r2, r3, w, 192, r6, r7, r8], Lg)) o from ev_f (c := (RU 0 1) ≠ 0) _ _ 3  zc1 e (fun n => Eq.refl _)
    have ze45 := Option.some.inj h
    subst ze45
    exact ev_rete 2 ho (fun n => Eq.refl _)
set_option maxRecDepth 1000000 in
set_option maxHeartbeats 4000000 in
theorem R_f_Y_yields_0 (d : Nat) (Y T H H2 RU RV ST NS I0 I1 I2 BO FI RG GU PU MA MN MS OT SC : Nat → Nat → Int32) (w r5 : Nat) (L : Nat) (Lg : Int64) (p1 : Int32) (p2 : Int32) {r : Nat × Int32 × (Nat → Nat → Int32) × (Nat → Nat → Int32) × (Nat → Nat → Int32) × Nat} (h : f_Y_yields Y H RU NS BO 192 r5 p1 p2 = some r) : Ev (d + 3, 3, 24, 322, 0, [.val (.ref 64), .val (.int p1), .val (.int p2), .val a_unk], [], (126, 120, L, [Y, T, H, H2, RU, RV, ST, NS, I0, I1, I2, BO, FI, RG, GU, PU, MA, MN, MS, OT, SC], [192, 256, 320, 384, w, r5, 576, 640, 704], Lg)) ((r.1, a_ov r.1 (.int r.2.1), (126, 120, L, [r.2.2.1, T, H, H2, r.2.2.2.1, RV, ST, NS, I0, I1, I2, r.2.2.2.2.1, FI, RG, GU, PU, MA, MN, MS, OT, SC], [192, 256, 320, 384, w, r.2.2.2.2.2, 576, 640, 704], Lg)) : AOut) := by
  suffices key : ∀ o : AOut, ((r.1, a_ov r.1 (.int r.2.1), (126, 120, L, [r.2.2.1, T, H, H2, r.2.2.2.1, RV, ST, NS, I0, I1, I2, r.2.2.2.2.1, FI, RG, GU, PU, MA, MN, MS, OT, SC], [192, 256, 320, 384, w, r.2.2.2.2.2, 576, 640, 704], Lg)) : AOut) = o → Ev (d + 3, 3, 24, 322, 0, [.val (.ref 64), .val (.int p1), .val (.int p2), .val a_unk], [], (126, 120, L, [Y, T, H, H2, RU, RV, ST, NS, I0, I1, I2, BO, FI, RG, GU, PU, MA, MN, MS, OT, SC], [192, 256, 320, 384, w, r5, 576, 640, 704], Lg)) o from key _ rfl
  intro o ho
  obtain ⟨⟨q1, Y_2⟩, zh1, h⟩ := bnd h
  have zh1 : f_Y_needMeeting Y H p1 = some (q1, Y_2) := zh1
  have ze2 := R_f_Y_needMeeting_0 (d + 1) Y T H H2 RU RV ST NS I0 I1 I2 BO FI RG GU PU MA MN MS OT SC w r5 L Lg p1 zh1
  cases q1 with
  | zero =>
    have h := itp h rfl
    suffices e : Ev (d + 3, 2, 16, 322, 5, [.val (.ref 64), .val (.int p1), .val (.int p2), .val a_unk], [], (126, 120, L, [Y_2, T, H, H2, RU, RV, ST, NS, I0, I1, I2, BO, FI, RG, GU, PU, MA, MN, MS, OT, SC], [192, 256, 320, 384, w, r5, 576, 640, 704], Lg)) o from ev_call (fun v μ => (d + 3, 2, 16, 322, 5, [.val (.ref 64), .val (.int p1), .val (.int p2), .val a_unk], v.toList ++ [], μ)) 3 ze2 e (fun n => Eq.refl _)
    obtain ⟨⟨q3, Y_4⟩, zh3, h⟩ := bnd h
    have zh3 : f_Y_needMeeting Y_2 H p2 = some (q3, Y_4) := zh3
    have ze4 := R_f_Y_needMeeting_0 (d + 1) Y_2 T H H2 RU RV ST NS I0 I1 I2 BO FI RG GU PU MA MN MS OT SC w r5 L Lg p2 zh3
    cases q3 with
    | zero =>
      have h := itp h rfl
      suffices e : Ev (d + 3, 1, 8, 322, 10, [.val (.ref 64), .val (.int p1), .val (.int p2), .val a_unk], [], (126, 120, L, [Y_4, T, H, H2, RU, RV, ST, NS, I0, I1, I2, BO, FI, RG, GU, PU, MA, MN, MS, OT, SC], [192, 256, 320, 384, w, r5, 576, 640, 704], Lg)) o from ev_call (fun v μ => (d + 3, 1, 8, 322, 10, [.val (.ref 64), .val (.int p1), .val (.int p2), .val a_unk], v.toList ++ [], μ)) 3 ze4 e (fun n => Eq.refl _)
      obtain ⟨zt5, zh6, h⟩ := bnd h
      have zj7 : ∀ (v6 : Int32), v6 = zt5 → Ev (d + 3, 1, 8, 322, 34, [.val (.ref 64), .val (.int p1), .val (.int p2), .val a_unk], [.int v6, .ref 64], (126, 120, L, [Y_4, T, H, H2, RU, RV, ST, NS, I0, I1, I2, BO, FI, RG, GU, PU, MA, MN, MS, OT, SC], [192, 256, 320, 384, w, r5, 576, 640, 704], Lg)) o := by
        intro v6 ze8
        subst ze8
        obtain ⟨⟨q7, Y_8⟩, zh9, h⟩ := bnd h
        have zh9 : f_Y_refuseUnless Y_4 v6 = some (q7, Y_8) := zh9
        have ze10 := R_f_Y_refuseUnless_0 (d + 2) Y_4 T H H2 RU RV ST NS I0 I1 I2 BO FI RG GU PU MA MN MS OT SC w r5 L Lg v6 zh9
        cases q7 with
        | zero =>
          have h := itp h rfl
          suffices e : Ev (d + 3, 0, 0, 322, 37, [.val (.ref 64), .val (.int p1), .val (.int p2), .val a_unk], [], (126, 120, L, [Y_8, T, H, H2, RU, RV, ST, NS, I0, I1, I2, BO, FI, RG, GU, PU, MA, MN, MS, OT, SC], [192, 256, 320, 384, w, r5, 576, 640, 704], Lg)) o from ev_call (fun v μ => (d + 3, 0, 0, 322, 37, [.val (.ref 64), .val (.int p1), .val (.int p2), .val a_unk], v.toList ++ [], μ)) 1 ze10 e (fun n => Eq.refl _)
          obtain ⟨BO_10, zh11, h⟩ := bnd h
          have zh11 : f_Y_lookNow H NS BO = some BO_10 := zh11
          have ze12 := R_f_Y_lookNow_0 (d + 0) Y_8 T H H2 RU RV ST NS I0 I1 I2 BO FI RG GU PU MA MN MS OT SC w r5 L Lg zh11
          suffices e : Ev (d + 3, 0, 0, 322, 41, [.val (.ref 64), .val (.int p1), .val (.int p2), .val a_unk], [.ref 768], (126, 120, L, [Y_8, T, H, H2, RU, RV, ST, NS, I0, I1, I2, BO_10, FI, RG, GU, PU, MA, MN, MS, OT, SC], [192, 256, 320, 384, w, 192, 576, 640, 704], Lg)) o from ev_call (fun v μ => (d + 3, 0, 0, 322, 41, [.val (.ref 64), .val (.int p1), .val (.int p2), .val a_unk], v.toList ++ [], μ)) 2 ze12 e (fun n => Eq.refl _)
          suffices e : Ev (d + 3, 0, 0, 322, 46, [.val (.ref 64), .val (.int p1), .val (.int p2), .val (.ref 768)], [.ref 320], (126, 120, L, [Y_8, T, H, H2, RU, RV, ST, NS, I0, I1, I2, BO_10, FI, RG, GU, PU, MA, MN, MS, OT, SC], [192, 256, 320, 384, w, 192, 576, 640, 704], Lg)) o from ev_b 3 e (fun n => Eq.refl _)
          obtain ⟨x11, zh13, h⟩ := bnd h
          have zh13 : rdx (BO_10 1) 10 p1 = some x11 := zh13
          suffices e : Ev (d + 3, 0, 0, 322, 52, [.val (.ref 64), .val (.int p1), .val (.int p2), .val (.ref 768)], [.int x11, .ref 320], (126, 120, L, [Y_8, T, H, H2, RU, RV, ST, NS, I0, I1, I2, BO_10, FI, RG, GU, PU, MA, MN, MS, OT, SC], [192, 256, 320, 384, w, 192, 576, 640, 704], Lg)) o from ev_opt (fun x11 => (d + 3, 0, 0, 322, 52, [.val (.ref 64), .val (.int p1), .val (.int p2), .val (.ref 768)], [.int x11, .ref 320], (126, 120, L, [Y_8, T, H, H2, RU, RV, ST, NS, I0, I1, I2, BO_10, FI, RG, GU, PU, MA, MN, MS, OT, SC], [192, 256, 320, 384, w, 192, 576, 640, 704], Lg))) 4 zh13 e (fun n => Eq.refl _)
          obtain ⟨RU_12, zh14, h⟩ := bnd h
          have zh14 : f_Rule_setWanted RU x11 0 = some RU_12 := zh14
          have ze15 := R_f_Rule_setWanted_0 (d + 1) Y_8 T H H2 RU RV ST NS I0 I1 I2 BO_10 FI RG GU PU MA MN MS OT SC 192 256 320 384 w 192 576 640 704 L Lg x11 0 zh14
          suffices e : Ev (d + 3, 0, 0, 322, 56, [.val (.ref 64), .val (.int p1), .val (.int p2), .val (.ref 768)], [], (126, 120, L, [Y_8, T, H, H2, RU_12, RV, ST, NS, I0, I1, I2, BO_10, FI, RG, GU, PU, MA, MN, MS, OT, SC], [192, 256, 320, 384, w, 192, 576, 640, 704], Lg)) o from ev_call (fun v μ => (d + 3, 0, 0, 322, 56, [.val (.ref 64), .val (.int p1), .val (.int p2), .val (.ref 768)], v.toList ++ [], μ)) 2 ze15 e (fun n => Eq.refl _)
          suffices e : Ev (d + 3, 0, 0, 322, 60, [.val (.ref 64), .val (.int p1), .val (.int p2), .val (.ref 768)], [.ref 320], (126, 120, L, [Y_8, T, H, H2, RU_12, RV, ST, NS, I0, I1, I2, BO_10, FI, RG, GU, PU, MA, MN, MS, OT, SC], [192, 256, 320, 384, w, 192, 576, 640, 704], Lg)) o from ev_b 2 e (fun n => Eq.refl _)
          obtain ⟨⟨x13, RU_14⟩, zh16, h⟩ := bnd h
          have zh16 : f_Rule_isSo H RU_12 BO_10 p1 p2 = some (x13, RU_14) := zh16
          have ze17 := R_f_Rule_isSo_0 (d + 0) Y_8 T H H2 RU_12 RV ST NS I0 I1 I2 BO_10 FI RG GU PU MA MN MS OT SC 192 256 320 384 w 576 640 704 L Lg p1 p2 zh16
          suffices e : Ev (d + 3, 0, 0, 322, 66, [.val (.ref 64), .val (.int p1), .val (.int p2), .val (.ref 768)], [.int x13], (126, 120, L, [Y_8, T, H, H2, RU_14, RV, ST, NS, I0, I1, I2, BO_10, FI, RG, GU, PU, MA, MN, MS, OT, SC], [192, 256, 320, 384, w, 192, 576, 640, 704], Lg)) o from ev_call (fun v μ => (d + 3, 0, 0, 322, 66, [.val (.ref 64), .val (.int p1), .val (.int p2), .val (.ref 768)], v.toList ++ [], μ)) 4 ze17 e (fun n => Eq.refl _)
          have ze18 := Option.some.inj h
          subst ze18
          exact ev_rete 1 ho (fun n => Eq.refl _)
        | succ q7 =>
          have h := itn h (Nat.succ_ne_zero q7)
          have ze19 := Option.some.inj h
          subst ze19
          subst ho
          exact ev_thr (fun v μ => (d + 3, 0, 0, 322, 37, [.val (.ref 64), .val (.int p1), .val (.int p2), .val a_unk], v.toList ++ [], μ)) 1 ze10 (fun n => Eq.refl _) (fun n => rfl)
      obtain ⟨zt20, zh21, zh6⟩ := bnd zh6
      have zj22 : zt20 = .inl () → Ev (d + 3, 1, 8, 322, 33, [.val (.ref 64), .val (.int p1), .val (.int p2), .val a_unk], [.ref 64], (126, 120, L, [Y_4, T, H, H2, RU, RV, ST, NS, I0, I1, I2, BO, FI, RG, GU, PU, MA, MN, MS, OT, SC], [192, 256, 320, 384, w, r5, 576, 640, 704], Lg)) o := by
        intro ze23
        have zh6 := sum_l zh6 ze23
        exact ev_b 1 (zj7 0 (Option.some.inj zh6) ) (fun n => Eq.refl _)
      by_cases zc24 : p1 = p2
      · have zh21 := itp zh21 zc24
        suffices e : Ev (d + 3, 1, 8, 322, 33, [.val (.ref 64), .val (.int p1), .val (.int p2), .val a_unk], [.ref 64], (126, 120, L, [Y_4, T, H, H2, RU, RV, ST, NS, I0, I1, I2, BO, FI, RG, GU, PU, MA, MN, MS, OT, SC], [192, 256, 320, 384, w, r5, 576, 640, 704], Lg)) o from ev_t (c := p1 = p2) _ _ 4  zc24 e (fun n => Eq.refl _)
        exact ev_b 0 (zj22  (Option.some.inj zh21).symm ) (fun n => Eq.refl _)
      · have zh21 := itn zh21 zc24
        suffices e : Ev (d + 3, 1, 8, 322, 16, [.val (.ref 64), .val (.int p1), .val (.int p2), .val a_unk], [.ref 64], (126, 120, L, [Y_4, T, H, H2, RU, RV, ST, NS, I0, I1, I2, BO, FI, RG, GU, PU, MA, MN, MS, OT, SC], [192, 256, 320, 384, w, r5, 576, 640, 704], Lg)) o from ev_f (c := p1 = p2) _ _ 4  zc24 e (fun n => Eq.refl _)
        obtain ⟨x5, zh25, zh21⟩ := bnd zh21
        have zh25 : rdx (NS 1) 10 p1 = some x5 := zh25
        suffices e : Ev (d + 3, 1, 8, 322, 25, [.val (.ref 64), .val (.int p1), .val (.int p2), .val a_unk], [.int x5, .ref 64], (126, 120, L, [Y_4, T, H, H2, RU, RV, ST, NS, I0, I1, I2, BO, FI, RG, GU, PU, MA, MN, MS, OT, SC], [192, 256, 320, 384, w, r5, 576, 640, 704], Lg)) o from ev_opt (fun x5 => (d + 3, 1, 8, 322, 25, [.val (.ref 64), .val (.int p1), .val (.int p2), .val a_unk], [.int x5, .ref 64], (126, 120, L, [Y_4, T, H, H2, RU, RV, ST, NS, I0, I1, I2, BO, FI, RG, GU, PU, MA, MN, MS, OT, SC], [192, 256, 320, 384, w, r5, 576, 640, 704], Lg))) 5 zh25 e (fun n => Eq.refl _)
        by_cases zc26 : x5 = (-1)
        · have zh21 := itp zh21 zc26
          suffices e : Ev (d + 3, 1, 8, 322, 33, [.val (.ref 64), .val (.int p1), .val (.int p2), .val a_unk], [.ref 64], (126, 120, L, [Y_4, T, H, H2, RU, RV, ST, NS, I0, I1, I2, BO, FI, RG, GU, PU, MA, MN, MS, OT, SC], [192, 256, 320, 384, w, r5, 576, 640, 704], Lg)) o from ev_t (c := x5 = (-1)) _ _ 2  zc26 e (fun n => Eq.refl _)
          exact ev_b 0 (zj22  (Option.some.inj zh21).symm ) (fun n => Eq.refl _)
        · have zh21 := itn zh21 zc26
          suffices e : Ev (d + 3, 1, 8, 322, 29, [.val (.ref 64), .val (.int p1), .val (.int p2), .val a_unk], [.ref 64], (126, 120, L, [Y_4, T, H, H2, RU, RV, ST, NS, I0, I1, I2, BO, FI, RG, GU, PU, MA, MN, MS, OT, SC], [192, 256, 320, 384, w, r5, 576, 640, 704], Lg)) o from ev_f (c := x5 = (-1)) _ _ 2  zc26 e (fun n => Eq.refl _)
          have zh27 := sum_r zh6 (Option.some.inj zh21).symm
          exact ev_b 2 (zj7 1 (Option.some.inj zh27) ) (fun n => Eq.refl _)
    | succ q3 =>
      have h := itn h (Nat.succ_ne_zero q3)
      have ze28 := Option.some.inj h
      subst ze28
      subst ho
      exact ev_thr (fun v μ => (d + 3, 1, 8, 322, 10, [.val (.ref 64), .val (.int p1), .val (.int p2), .val a_unk], v.toList ++ [], μ)) 3 ze4 (fun n => Eq.refl _) (fun n => rfl)
  | succ q1 =>
    have h := itn h (Nat.succ_ne_zero q1)
    have ze29 := Option.some.inj h
    subst ze29
    subst ho
    exact ev_thr (fun v μ => (d + 3, 2, 16, 322, 5, [.val (.ref 64), .val (.int p1), .val (.int p2), .val a_unk], v.toList ++ [], μ)) 3 ze2 (fun n => Eq.refl _) (fun n => rfl)
set_option maxRecDepth 1000000 in
set_option maxHeartbeats 4000000 in
theorem R_f_Rule_setWanted_1 (d : Nat) (Y T HA HB RV RU ST NS I0 I1 I2 BO FI RG GU PU MA MN MS OT SC : Nat → Nat → Int32) (r0 r1 r2 r3 w r5 r6 r7 r8 : Nat) (L : Nat) (Lg : Int64) (p1 : Int32) (p2 : Int32) {r : (Nat → Nat → Int32)} (h : f_Rule_setWanted RU p1 p2 = some r) : Ev (d + 1, 0, 0, 251, 0, [.val (.ref 384), .val (.int p1), .val (.int p2)], [], (126, 120, L, [Y, T, HA, HB, RV, RU, ST, NS, I0, I1, I2, BO, FI, RG, GU, PU, MA, MN, MS, OT, SC], [r0, r1, r2, r3, w, r5, r6, r7, r8], Lg)) ((0, none, (126, 120, L, [Y, T, HA, HB, RV, r, ST, NS, I0, I1, I2, BO, FI, RG, GU, PU, MA, MN, MS, OT, SC], [r0, r1, r2, r3, w, r5, r6, r7, r8], Lg)) : AOut) := by
  suffices key : ∀ o : AOut, ((0, none, (126, 120, L, [Y, T, HA, HB, RV, r, ST, NS, I0, I1, I2, BO, FI, RG, GU, PU, MA, MN, MS, OT, SC], [r0, r1, r2, r3, w, r5, r6, r7, r8], Lg)) : AOut) = o → Ev (d + 1, 0, 0, 251, 0, [.val (.ref 384), .val (.int p1), .val (.int p2)], [], (126, 120, L, [Y, T, HA, HB, RV, RU, ST, NS, I0, I1, I2, BO, FI, RG, GU, PU, MA, MN, MS, OT, SC], [r0, r1, r2, r3, w, r5, r6, r7, r8], Lg)) o from key _ rfl
  intro o ho
  obtain ⟨x1, zh1, h⟩ := bnd h
  have zh1 : f_Y_hourOf p1 = some x1 := zh1
  have ze2 := R_f_Y_hourOf_0 (d + 0) Y T HA HB RV RU ST NS I0 I1 I2 BO FI RG GU PU MA MN MS OT SC r0 r1 r2 r3 w r5 r6 r7 r8 L Lg p1 zh1
  suffices e : Ev (d + 1, 0, 0, 251, 10, [.val (.ref 384), .val (.int p1), .val (.int p2)], [.int x1, .int 8, .ref 387], (126, 120, L, [Y, T, HA, HB, RV, RU, ST, NS, I0, I1, I2, BO, FI, RG, GU, PU, MA, MN, MS, OT, SC], [r0, r1, r2, r3, w, r5, r6, r7, r8], Lg)) o from ev_call (fun v μ => (d + 1, 0, 0, 251, 10, [.val (.ref 384), .val (.int p1), .val (.int p2)], v.toList ++ [.int 8, .ref 387], μ)) 5 ze2 e (fun n => Eq.refl _)
  obtain ⟨j2, zh3, h⟩ := bnd h
  have zh3 : ixx 11 8 = some j2 := zh3
  suffices e : Ev (d + 1, 0, 0, 251, 11, [.val (.ref 384), .val (.int p1), .val (.int p2)], [], (126, 120, L, [Y, T, HA, HB, RV, (u2 RU 3 j2 x1), ST, NS, I0, I1, I2, BO, FI, RG, GU, PU, MA, MN, MS, OT, SC], [r0, r1, r2, r3, w, r5, r6, r7, r8], Lg)) o from ev_opt (fun j2 => (d + 1, 0, 0, 251, 11, [.val (.ref 384), .val (.int p1), .val (.int p2)], [], (126, 120, L, [Y, T, HA, HB, RV, (u2 RU 3 j2 x1), ST, NS, I0, I1, I2, BO, FI, RG, GU, PU, MA, MN, MS, OT, SC], [r0, r1, r2, r3, w, r5, r6, r7, r8], Lg))) 1 zh3 e (fun n => Eq.refl _)
  obtain ⟨x3, zh4, h⟩ := bnd h
  have zh4 : f_Y_roomOf p1 = some x3 := zh4
  have ze5 := R_f_Y_roomOf_0 (d + 0) Y T HA HB RV (u2 RU 3 j2 x1) ST NS I0 I1 I2 BO FI RG GU PU MA MN MS OT SC r0 r1 r2 r3 w r5 r6 r7 r8 L Lg p1 zh4
  suffices e : Ev (d + 1, 0, 0, 251, 21, [.val (.ref 384), .val (.int p1), .val (.int p2)], [.int x3, .int 9, .ref 387], (126, 120, L, [Y, T, HA, HB, RV, (u2 RU 3 j2 x1), ST, NS, I0, I1, I2, BO, FI, RG, GU, PU, MA, MN, MS, OT, SC], [r0, r1, r2, r3, w, r5, r6, r7, r8], Lg)) o from ev_call (fun v μ => (d + 1, 0, 0, 251, 21, [.val (.ref 384), .val (.int p1), .val (.int p2)], v.toList ++ [.int 9, .ref 387], μ)) 5 ze5 e (fun n => Eq.refl _)
  obtain ⟨j4, zh6, h⟩ := bnd h
  have zh6 : ixx 11 9 = some j4 := zh6
  suffices e : Ev (d + 1, 0, 0, 251, 22, [.val (.ref 384), .val (.int p1), .val (.int p2)], [], (126, 120, L, [Y, T, HA, HB, RV, (u2 (u2 RU 3 j2 x1) 3 j4 x3), ST, NS, I0, I1, I2, BO, FI, RG, GU, PU, MA, MN, MS, OT, SC], [r0, r1, r2, r3, w, r5, r6, r7, r8], Lg)) o from ev_opt (fun j4 => (d + 1, 0, 0, 251, 22, [.val (.ref 384), .val (.int p1), .val (.int p2)], [], (126, 120, L, [Y, T, HA, HB, RV, (u2 (u2 RU 3 j2 x1) 3 j4 x3), ST, NS, I0, I1, I2, BO, FI, RG, GU, PU, MA, MN, MS, OT, SC], [r0, r1, r2, r3, w, r5, r6, r7, r8], Lg))) 1 zh6 e (fun n => Eq.refl _)
  obtain ⟨j5, zh7, h⟩ := bnd h
  have zh7 : ixx 11 10 = some j5 := zh7
  suffices e : Ev (d + 1, 0, 0, 251, 30, [.val (.ref 384), .val (.int p1), .val (.int p2)], [], (126, 120, L, [Y, T, HA, HB, RV, (u2 (u2 (u2 RU 3 j2 x1) 3 j4 x3) 3 j5 p2), ST, NS, I0, I1, I2, BO, FI, RG, GU, PU, MA, MN, MS, OT, SC], [r0, r1, r2, r3, w, r5, r6, r7, r8], Lg)) o from ev_opt (fun j5 => (d + 1, 0, 0, 251, 30, [.val (.ref 384), .val (.int p1), .val (.int p2)], [], (126, 120, L, [Y, T, HA, HB, RV, (u2 (u2 (u2 RU 3 j2 x1) 3 j4 x3) 3 j5 p2), ST, NS, I0, I1, I2, BO, FI, RG, GU, PU, MA, MN, MS, OT, SC], [r0, r1, r2, r3, w, r5, r6, r7, r8], Lg))) 5 zh7 e (fun n => Eq.refl _)
  have ze8 := Option.some.inj h
  subst ze8
  exact ev_rete 1 ho (fun n => Eq.refl _)
set_option maxRecDepth 1000000 in
set_option maxHeartbeats 4000000 in
theorem R_f_Rule_setMeeting_1 (d : Nat) (Y T H H2 RV RU ST NS I0 I1 I2 BO FI RG GU PU MA MN MS OT SC : Nat → Nat → Int32) (r0 r1 r2 r3 w r6 r7 r8 : Nat) (L : Nat) (Lg : Int64) (p1 : Int32) (p3 : Int32) {r : (Nat → Nat → Int32)} (h : f_Rule_setMeeting H RU BO p1 p3 = some r) : Ev (d + 1, 0, 0, 252, 0, [.val (.ref 384), .val (.int p1), .val (.ref 768), .val (.int p3)], [], (126, 120, L, [Y, T, H, H2, RV, RU, ST, NS, I0, I1, I2, BO, FI, RG, GU, PU, MA, MN, MS, OT, SC], [r0, r1, r2, r3, w, 192, r6, r7, r8], Lg)) ((0, none, (126, 120, L, [Y, T, H, H2, RV, r, ST, NS, I0, I1, I2, BO, FI, RG, GU, PU, MA, MN, MS, OT, SC], [r0, r1, r2, r3, w, 192, r6, r7, r8], Lg)) : AOut) := by
  suffices key : ∀ o : AOut, ((0, none, (126, 120, L, [Y, T, H, H2, RV, r, ST, NS, I0, I1, I2, BO, FI, RG, GU, PU, MA, MN, MS, OT, SC], [r0, r1, r2, r3, w, 192, r6, r7, r8], Lg)) : AOut) = o → Ev (d + 1, 0, 0, 252, 0, [.val (.ref 384), .val (.int p1), .val (.ref 768), .val (.int p3)], [], (126, 120, L, [Y, T, H, H2, RV, RU, ST, NS, I0, I1, I2, BO, FI, RG, GU, PU, MA, MN, MS, OT, SC], [r0, r1, r2, r3, w, 192, r6, r7, r8], Lg)) o from key _ rfl
  intro o ho
  by_cases zc1 : 11 ≤ (p1 + 3)
  · have h := itp h zc1
    suffices e : Ev (d + 1, 0, 0, 252, 66, [.val (.ref 384), .val (.int p1), .val (.ref 768), .val (.int p3)], [], (126, 120, L, [Y, T, H, H2, RV, RU, ST, NS, I0, I1, I2, BO, FI, RG, GU, PU, MA, MN, MS, OT, SC], [r0, r1, r2, r3, w, 192, r6, r7, r8], Lg)) o from ev_t (c := 11 ≤ (p1 + 3)) _ _ 5  zc1 e (fun n => Eq.refl _)
    have ze2 := Option.some.inj h
    subst ze2
    exact ev_rete 1 ho (fun n => Eq.refl _)
  · have h := itn h zc1
    suffices e : Ev (d + 1, 0, 0, 252, 8, [.val (.ref 384), .val (.int p1), .val (.ref 768), .val (.int p3)], [], (126, 120, L, [Y, T, H, H2, RV, RU, ST, NS, I0, I1, I2, BO, FI, RG, GU, PU, MA, MN, MS, OT, SC], [r0, r1, r2, r3, w, 192, r6, r7, r8], Lg)) o from ev_f (c := 11 ≤ (p1 + 3)) _ _ 5  zc1 e (fun n => Eq.refl _)
    suffices e : Ev (d + 1, 0, 0, 252, 17, [.val (.ref 384), .val (.int p1), .val (.ref 768), .val (.int p3)], [.ref 192, .int p1, .ref 387], (126, 120, L, [Y, T, H, H2, RV, RU, ST, NS, I0, I1, I2, BO, FI, RG, GU, PU, MA, MN, MS, OT, SC], [r0, r1, r2, r3, w, 192, r6, r7, r8], Lg)) o from ev_b 5 e (fun n => Eq.refl _)
    obtain ⟨x1, zh3, h⟩ := bnd h
    have zh3 : rdx (H 7) 10 p3 = some x1 := zh3
    suffices e : Ev (d + 1, 0, 0, 252, 22, [.val (.ref 384), .val (.int p1), .val (.ref 768), .val (.int p3)], [.int x1, .int p1, .ref 387], (126, 120, L, [Y, T, H, H2, RV, RU, ST, NS, I0, I1, I2, BO, FI, RG, GU, PU, MA, MN, MS, OT, SC], [r0, r1, r2, r3, w, 192, r6, r7, r8], Lg)) o from ev_opt (fun x1 => (d + 1, 0, 0, 252, 22, [.val (.ref 384), .val (.int p1), .val (.ref 768), .val (.int p3)], [.int x1, .int p1, .ref 387], (126, 120, L, [Y, T, H, H2, RV, RU, ST, NS, I0, I1, I2, BO, FI, RG, GU, PU, MA, MN, MS, OT, SC], [r0, r1, r2, r3, w, 192, r6, r7, r8], Lg))) 3 zh3 e (fun n => Eq.refl _)
    obtain ⟨j2, zh4, h⟩ := bnd h
    have zh4 : ixx 11 p1 = some j2 := zh4
    suffices e : Ev (d + 1, 0, 0, 252, 23, [.val (.ref 384), .val (.int p1), .val (.ref 768), .val (.int p3)], [], (126, 120, L, [Y, T, H, H2, RV, (u2 RU 3 j2 x1), ST, NS, I0, I1, I2, BO, FI, RG, GU, PU, MA, MN, MS, OT, SC], [r0, r1, r2, r3, w, 192, r6, r7, r8], Lg)) o from ev_opt (fun j2 => (d + 1, 0, 0, 252, 23, [.val (.ref 384), .val (.int p1), .val (.ref 768), .val (.int p3)], [], (126, 120, L, [Y, T, H, H2, RV, (u2 RU 3 j2 x1), ST, NS, I0, I1, I2, BO, FI, RG, GU, PU, MA, MN, MS, OT, SC], [r0, r1, r2, r3, w, 192, r6, r7, r8], Lg))) 1 zh4 e (fun n => Eq.refl _)
    obtain ⟨x3, zh5, h⟩ := bnd h
    have zh5 : rdx (BO 2) 10 p3 = some x3 := zh5
    suffices e : Ev (d + 1, 0, 0, 252, 36, [.val (.ref 384), .val (.int p1), .val (.ref 768), .val (.int p3)], [.int x3, .int (p1 + 1), .ref 387], (126, 120, L, [Y, T, H, H2, RV, (u2 RU 3 j2 x1), ST, NS, I0, I1, I2, BO, FI, RG, GU, PU, MA, MN, MS, OT, SC], [r0, r1, r2, r3, w, 192, r6, r7, r8], Lg)) o from ev_opt (fun x3 => (d + 1, 0, 0, 252, 36, [.val (.ref 384), .val (.int p1), .val (.ref 768), .val (.int p3)], [.int x3, .int (p1 + 1), .ref 387], (126, 120, L, [Y, T, H, H2, RV, (u2 RU 3 j2 x1), ST, NS, I0, I1, I2, BO, FI, RG, GU, PU, MA, MN, MS, OT, SC], [r0, r1, r2, r3, w, 192, r6, r7, r8], Lg))) 9 zh5 e (fun n => Eq.refl _)
    obtain ⟨j4, zh6, h⟩ := bnd h
    have zh6 : ixx 11 (p1 + 1) = some j4 := zh6
    suffices e : Ev (d + 1, 0, 0, 252, 37, [.val (.ref 384), .val (.int p1), .val (.ref 768), .val (.int p3)], [], (126, 120, L, [Y, T, H, H2, RV, (u2 (u2 RU 3 j2 x1) 3 j4 x3), ST, NS, I0, I1, I2, BO, FI, RG, GU, PU, MA, MN, MS, OT, SC], [r0, r1, r2, r3, w, 192, r6, r7, r8], Lg)) o from ev_opt (fun j4 => (d + 1, 0, 0, 252, 37, [.val (.ref 384), .val (.int p1), .val (.ref 768), .val (.int p3)], [], (126, 120, L, [Y, T, H, H2, RV, (u2 (u2 RU 3 j2 x1) 3 j4 x3), ST, NS, I0, I1, I2, BO, FI, RG, GU, PU, MA, MN, MS, OT, SC], [r0, r1, r2, r3, w, 192, r6, r7, r8], Lg))) 1 zh6 e (fun n => Eq.refl _)
    suffices e : Ev (d + 1, 0, 0, 252, 48, [.val (.ref 384), .val (.int p1), .val (.ref 768), .val (.int p3)], [.ref 192, .int (p1 + 2), .ref 387], (126, 120, L, [Y, T, H, H2, RV, (u2 (u2 RU 3 j2 x1) 3 j4 x3), ST, NS, I0, I1, I2, BO, FI, RG, GU, PU, MA, MN, MS, OT, SC], [r0, r1, r2, r3, w, 192, r6, r7, r8], Lg)) o from ev_b 7 e (fun n => Eq.refl _)
    obtain ⟨x5, zh7, h⟩ := bnd h
    have zh7 : rdx (H 8) 10 p3 = some x5 := zh7
    suffices e : Ev (d + 1, 0, 0, 252, 53, [.val (.ref 384), .val (.int p1), .val (.ref 768), .val (.int p3)], [.int x5, .int (p1 + 2), .ref 387], (126, 120, L, [Y, T, H, H2, RV, (u2 (u2 RU 3 j2 x1) 3 j4 x3), ST, NS, I0, I1, I2, BO, FI, RG, GU, PU, MA, MN, MS, OT, SC], [r0, r1, r2, r3, w, 192, r6, r7, r8], Lg)) o from ev_opt (fun x5 => (d + 1, 0, 0, 252, 53, [.val (.ref 384), .val (.int p1), .val (.ref 768), .val (.int p3)], [.int x5, .int (p1 + 2), .ref 387], (126, 120, L, [Y, T, H, H2, RV, (u2 (u2 RU 3 j2 x1) 3 j4 x3), ST, NS, I0, I1, I2, BO, FI, RG, GU, PU, MA, MN, MS, OT, SC], [r0, r1, r2, r3, w, 192, r6, r7, r8], Lg))) 3 zh7 e (fun n => Eq.refl _)
    obtain ⟨x6, zh8, h⟩ := bnd h
    have zh8 : f_Integer_bitCount x5 = some x6 := zh8
    have ze9 := R_f_Integer_bitCount_0 (d + 0) Y T H H2 RV (u2 (u2 RU 3 j2 x1) 3 j4 x3) ST NS I0 I1 I2 BO FI RG GU PU MA MN MS OT SC r0 r1 r2 r3 w 192 r6 r7 r8 L Lg x5 zh8
    suffices e : Ev (d + 1, 0, 0, 252, 56, [.val (.ref 384), .val (.int p1), .val (.ref 768), .val (.int p3)], [.int x6, .int (p1 + 2), .ref 387], (126, 120, L, [Y, T, H, H2, RV, (u2 (u2 RU 3 j2 x1) 3 j4 x3), ST, NS, I0, I1, I2, BO, FI, RG, GU, PU, MA, MN, MS, OT, SC], [r0, r1, r2, r3, w, 192, r6, r7, r8], Lg)) o from ev_call (fun v μ => (d + 1, 0, 0, 252, 56, [.val (.ref 384), .val (.int p1), .val (.ref 768), .val (.int p3)], v.toList ++ [.int (p1 + 2), .ref 387], μ)) 1 ze9 e (fun n => Eq.refl _)
    obtain ⟨j7, zh10, h⟩ := bnd h
    have zh10 : ixx 11 (p1 + 2) = some j7 := zh10
    suffices e : Ev (d + 1, 0, 0, 252, 57, [.val (.ref 384), .val (.int p1), .val (.ref 768), .val (.int p3)], [], (126, 120, L, [Y, T, H, H2, RV, (u2 (u2 (u2 RU 3 j2 x1) 3 j4 x3) 3 j7 x6), ST, NS, I0, I1, I2, BO, FI, RG, GU, PU, MA, MN, MS, OT, SC], [r0, r1, r2, r3, w, 192, r6, r7, r8], Lg)) o from ev_opt (fun j7 => (d + 1, 0, 0, 252, 57, [.val (.ref 384), .val (.int p1), .val (.ref 768), .val (.int p3)], [], (126, 120, L, [Y, T, H, H2, RV, (u2 (u2 (u2 RU 3 j2 x1) 3 j4 x3) 3 j7 x6), ST, NS, I0, I1, I2, BO, FI, RG, GU, PU, MA, MN, MS, OT, SC], [r0, r1, r2, r3, w, 192, r6, r7, r8], Lg))) 1 zh10 e (fun n => Eq.refl _)
    obtain ⟨j8, zh11, h⟩ := bnd h
    have zh11 : ixx 11 (p1 + 3) = some j8 := zh11
    suffices e : Ev (d + 1, 0, 0, 252, 66, [.val (.ref 384), .val (.int p1), .val (.ref 768), .val (.int p3)], [], (126, 120, L, [Y, T, H, H2, RV, (u2 (u2 (u2 (u2 RU 3 j2 x1) 3 j4 x3) 3 j7 x6) 3 j8 p3), ST, NS, I0, I1, I2, BO, FI, RG, GU, PU, MA, MN, MS, OT, SC], [r0, r1, r2, r3, w, 192, r6, r7, r8], Lg)) o from ev_opt (fun j8 => (d + 1, 0, 0, 252, 66, [.val (.ref 384), .val (.int p1), .val (.ref 768), .val (.int p3)], [], (126, 120, L, [Y, T, H, H2, RV, (u2 (u2 (u2 (u2 RU 3 j2 x1) 3 j4 x3) 3 j7 x6) 3 j8 p3), ST, NS, I0, I1, I2, BO, FI, RG, GU, PU, MA, MN, MS, OT, SC], [r0, r1, r2, r3, w, 192, r6, r7, r8], Lg))) 7 zh11 e (fun n => Eq.refl _)
    have ze12 := Option.some.inj h
    subst ze12
    exact ev_rete 1 ho (fun n => Eq.refl _)
set_option maxRecDepth 1000000 in
set_option maxHeartbeats 4000000 in
theorem R_f_Rule_operand_1 (d : Nat) (Y T HA HB RV RU ST NS I0 I1 I2 BO FI RG GU PU MA MN MS OT SC : Nat → Nat → Int32) (r0 r1 r2 r3 w r5 r6 r7 r8 : Nat) (L : Nat) (Lg : Int64) (p1 : Int32) {r : Int32} (h : f_Rule_operand RU p1 = some r) : Ev (d + 0, 0, 0, 254, 0, [.val (.ref 384), .val (.int p1), .val a_unk], [], (126, 120, L, [Y, T, HA, HB, RV, RU, ST, NS, I0, I1, I2, BO, FI, RG, GU, PU, MA, MN, MS, OT, SC], [r0, r1, r2, r3, w, r5, r6, r7, r8], Lg)) ((0, some (.int r), (126, 120, L, [Y, T, HA, HB, RV, RU, ST, NS, I0, I1, I2, BO, FI, RG, GU, PU, MA, MN, MS, OT, SC], [r0, r1, r2, r3, w, r5, r6, r7, r8], Lg)) : AOut) := by
  suffices key : ∀ o : AOut, ((0, some (.int r), (126, 120, L, [Y, T, HA, HB, RV, RU, ST, NS, I0, I1, I2, BO, FI, RG, GU, PU, MA, MN, MS, OT, SC], [r0, r1, r2, r3, w, r5, r6, r7, r8], Lg)) : AOut) = o → Ev (d + 0, 0, 0, 254, 0, [.val (.ref 384), .val (.int p1), .val a_unk], [], (126, 120, L, [Y, T, HA, HB, RV, RU, ST, NS, I0, I1, I2, BO, FI, RG, GU, PU, MA, MN, MS, OT, SC], [r0, r1, r2, r3, w, r5, r6, r7, r8], Lg)) o from key _ rfl
  intro o ho
  by_cases zc1 : (p1 - 100) < 0
  · have h := itp h zc1
    suffices e : Ev (d + 0, 0, 0, 254, 24, [.val (.ref 384), .val (.int p1), .val (.int (p1 - 100))], [], (126, 120, L, [Y, T, HA, HB, RV, RU, ST, NS, I0, I1, I2, BO, FI, RG, GU, PU, MA, MN, MS, OT, SC], [r0, r1, r2, r3, w, r5, r6, r7, r8], Lg)) o from ev_t (c := (p1 - 100) < 0) _ _ 6  zc1 e (fun n => Eq.refl _)
    have ze2 := Option.some.inj h
    subst ze2
    exact ev_rete 2 ho (fun n => Eq.refl _)
  · have h := itn h zc1
    suffices e : Ev (d + 0, 0, 0, 254, 9, [.val (.ref 384), .val (.int p1), .val (.int (p1 - 100))], [], (126, 120, L, [Y, T, HA, HB, RV, RU, ST, NS, I0, I1, I2, BO, FI, RG, GU, PU, MA, MN, MS, OT, SC], [r0, r1, r2, r3, w, r5, r6, r7, r8], Lg)) o from ev_f (c := (p1 - 100) < 0) _ _ 6  zc1 e (fun n => Eq.refl _)
    by_cases zc3 : 11 ≤ (p1 - 100)
    · have h := itp h zc3
      suffices e : Ev (d + 0, 0, 0, 254, 24, [.val (.ref 384), .val (.int p1), .val (.int (p1 - 100))], [], (126, 120, L, [Y, T, HA, HB, RV, RU, ST, NS, I0, I1, I2, BO, FI, RG, GU, PU, MA, MN, MS, OT, SC], [r0, r1, r2, r3, w, r5, r6, r7, r8], Lg)) o from ev_t (c := 11 ≤ (p1 - 100)) _ _ 3  zc3 e (fun n => Eq.refl _)
      have ze4 := Option.some.inj h
      subst ze4
      exact ev_rete 2 ho (fun n => Eq.refl _)
    · have h := itn h zc3
      suffices e : Ev (d + 0, 0, 0, 254, 15, [.val (.ref 384), .val (.int p1), .val (.int (p1 - 100))], [], (126, 120, L, [Y, T, HA, HB, RV, RU, ST, NS, I0, I1, I2, BO, FI, RG, GU, PU, MA, MN, MS, OT, SC], [r0, r1, r2, r3, w, r5, r6, r7, r8], Lg)) o from ev_f (c := 11 ≤ (p1 - 100)) _ _ 3  zc3 e (fun n => Eq.refl _)
      obtain ⟨x1, zh5, h⟩ := bnd h
      have zh5 : rdx (RU 3) 11 (p1 - 100) = some x1 := zh5
      suffices e : Ev (d + 0, 0, 0, 254, 21, [.val (.ref 384), .val (.int p1), .val (.int (p1 - 100))], [.int x1], (126, 120, L, [Y, T, HA, HB, RV, RU, ST, NS, I0, I1, I2, BO, FI, RG, GU, PU, MA, MN, MS, OT, SC], [r0, r1, r2, r3, w, r5, r6, r7, r8], Lg)) o from ev_opt (fun x1 => (d + 0, 0, 0, 254, 21, [.val (.ref 384), .val (.int p1), .val (.int (p1 - 100))], [.int x1], (126, 120, L, [Y, T, HA, HB, RV, RU, ST, NS, I0, I1, I2, BO, FI, RG, GU, PU, MA, MN, MS, OT, SC], [r0, r1, r2, r3, w, r5, r6, r7, r8], Lg))) 4 zh5 e (fun n => Eq.refl _)
      have ze6 := Option.some.inj h
      subst ze6
      exact ev_rete 2 ho (fun n => Eq.refl _)
set_option maxRecDepth 1000000 in
set_option maxHeartbeats 4000000 in
theorem R_f_Rule_isSo_1 (d : Nat) (Y T H H2 RV RU ST NS I0 I1 I2 BO FI RG GU PU MA MN MS OT SC : Nat → Nat → Int32) (r0 r1 r2 r3 w r6 r7 r8 : Nat) (L : Nat) (Lg : Int64) (p2 : Int32) (p3 : Int32) {r : Int32 × (Nat → Nat → Int32)} (h : f_Rule_isSo H RU BO p2 p3 = some r) : Ev (d + 2, 0, 0, 253, 0, [.val (.ref 384), .val (.ref 768), .val (.int p2), .val (.int p3), .val a_unk, .val a_unk, .val a_unk], [], (126, 120, L, [Y, T, H, H2, RV, RU, ST, NS, I0, I1, I2, BO, FI, RG, GU, PU, MA, MN, MS, OT, SC], [r0, r1, r2, r3, w, 192, r6, r7, r8], Lg)) ((0, some (.int r.1), (126, 120, L, [Y, T, H, H2, RV, r.2, ST, NS, I0, I1, I2, BO, FI, RG, GU, PU, MA, MN, MS, OT, SC], [r0, r1, r2, r3, w, 192, r6, r7, r8], Lg)) : AOut) := by
  suffices key : ∀ o : AOut, ((0, some (.int r.1), (126, 120, L, [Y, T, H, H2, RV, r.2, ST, NS, I0, I1, I2, BO, FI, RG, GU, PU, MA, MN, MS, OT, SC], [r0, r1, r2, r3, w, 192, r6, r7, r8], Lg)) : AOut) = o → Ev (d + 2, 0, 0, 253, 0, [.val (.ref 384), .val (.ref 768), .val (.int p2), .val (.int p3), .val a_unk, .val a_unk, .val a_unk], [], (126, 120, L, [Y, T, H, H2, RV, RU, ST, NS, I0, I1, I2, BO, FI, RG, GU, PU, MA, MN, MS, OT, SC], [r0, r1, r2, r3, w, 192, r6, r7, r8], Lg)) o from key _ rfl
  intro o ho
  by_cases zc1 : (RU 0 1) ≠ 0
  · have h := itp h zc1
    suffices e : Ev (d + 2, 0, 0, 253, 9, [.val (.ref 384), .val (.ref 768), .val (.int p2), .val (.int p3), .val a_unk, .val a_unk, .val a_unk], [], (126, 120, L, [Y, T, H, H2, RV, RU, ST, NS, I0, I1, I2, BO, FI, RG, GU, PU, MA, MN, MS, OT, SC], [r0, r1, r2, r3, w, 192, r6, r7, r8], Lg)) o from ev_t (c := (RU 0 1) ≠ 0) _ _ 3  zc1 e (fun n => Eq.refl _)
    obtain ⟨RU_1, zh2, h⟩ := bnd h
    have zh2 : f_Rule_setMeeting H RU BO 0 p2 = some RU_1 := zh2
    have ze3 := R_f_Rule_setMeeting_1 (d + 0) Y T H H2 RV RU ST NS I0 I1 I2 BO FI RG GU PU MA MN MS OT SC r0 r1 r2 r3 w r6 r7 r8 L Lg 0 p2 zh2
    suffices e : Ev (d + 2, 0, 0, 253, 16, [.val (.ref 384), .val (.ref 768), .val (.int p2), .val (.int p3), .val a_unk, .val a_unk, .val a_unk], [], (126, 120, L, [Y, T, H, H2, RV, RU_1, ST, NS, I0, I1, I2, BO, FI, RG, GU, PU, MA, MN, MS, OT, SC], [r0, r1, r2, r3, w, 192, r6, r7, r8], Lg)) o from ev_call (fun v μ => (d + 2, 0, 0, 253, 16, [.val (.ref 384), .val (.ref 768), .val (.int p2), .val (.int p3), .val a_unk, .val a_unk, .val a_unk], v.toList ++ [], μ)) 5 ze3 e (fun n => Eq.refl _)
    obtain ⟨RU_2, zh4, h⟩ := bnd h
    have zh4 : f_Rule_setMeeting H RU_1 BO 4 p3 = some RU_2 := zh4
    have ze5 := R_f_Rule_setMeeting_1 (d + 0) Y T H H2 RV RU_1 ST NS I0 I1 I2 BO FI RG GU PU MA MN MS OT SC r0 r1 r2 r3 w r6 r7 r8 L Lg 4 p3 zh4
    suffices e : Ev (d + 2, 0, 0, 253, 23, [.val (.ref 384), .val (.ref 768), .val (.int p2), .val (.int p3), .val a_unk, .val a_unk, .val a_unk], [], (126, 120, L, [Y, T, H, H2, RV, RU_2, ST, NS, I0, I1, I2, BO, FI, RG, GU, PU, MA, MN, MS, OT, SC], [r0, r1, r2, r3, w, 192, r6, r7, r8], Lg)) o from ev_call (fun v μ => (d + 2, 0, 0, 253, 23, [.val (.ref 384), .val (.ref 768), .val (.int p2), .val (.int p3), .val a_unk, .val a_unk, .val a_unk], v.toList ++ [], μ)) 5 ze5 e (fun n => Eq.refl _)
    obtain ⟨zb6, zh7, h⟩ := bnd h
    suffices e : Ev (d + 2, 0, 0, 253, 29, [.val (.ref 384), .val (.ref 768), .val (.int p2), .val (.int p3), .val (.int 0), .val (.int 0), .val a_unk], [], (126, 120, L, [Y, T, H, H2, RV, RU_2, ST, NS, I0, I1, I2, BO, FI, RG, GU, PU, MA, MN, MS, OT, SC], [r0, r1, r2, r3, w, 192, r6, r7, r8], Lg)) o from ev_b 4 e (fun n => Eq.refl _)
    refine ev_loop (δ := Value) (fun a j => (d + 2, 0, 0, 253, 29, [.val (.ref 384), .val (.ref 768), .val (.int p2), .val (.int p3), .val (.int a.1), .val (.int a.2.1), .val j], [], (126, 120, L, [Y, T, H, H2, RV, a.2.2, ST, NS, I0, I1, I2, BO, FI, RG, GU, PU, MA, MN, MS, OT, SC], [r0, r1, r2, r3, w, 192, r6, r7, r8], Lg))) (fun b => ∀ s17 : Value, ∀ s18 : Value, Ev (d + 2, 0, 0, 253, 164, [.val (.ref 384), .val (.ref 768), .val (.int p2), .val (.int p3), .val (.int b.1), .val s17, .val s18], [], (126, 120, L, [Y, T, H, H2, RV, b.2, ST, NS, I0, I1, I2, BO, FI, RG, GU, PU, MA, MN, MS, OT, SC], [r0, r1, r2, r3, w, 192, r6, r7, r8], Lg)) o) ?_ a_F (0, 0, RU_2) zb6 zh7 ?_ a_unk
    · rintro ⟨v3, v4, RU_6⟩ zr11 zh10 zi8 zx9 s5
      have zh10 : f_Rule_isSo_l29 v3 v4 RU_6 = some zr11 := zh10
      by_cases zc12 : (RU_6 0 1) ≤ v4
      · have zh10 := itp zh10 zc12
        suffices e : Ev (d + 2, 0, 0, 253, 164, [.val (.ref 384), .val (.ref 768), .val (.int p2), .val (.int p3), .val (.int v3), .val (.int v4), .val s5], [], (126, 120, L, [Y, T, H, H2, RV, RU_6, ST, NS, I0, I1, I2, BO, FI, RG, GU, PU, MA, MN, MS, OT, SC], [r0, r1, r2, r3, w, 192, r6, r7, r8], Lg)) o from ev_t (c := (RU_6 0 1) ≤ v4) _ _ 4  zc12 e (fun n => Eq.refl _)
        exact ev_b 0 (zx9 _ (Option.some.inj zh10).symm (.int v4) s5) (fun n => Eq.refl _)
      · have zh10 := itn zh10 zc12
        suffices e : Ev (d + 2, 0, 0, 253, 38, [.val (.ref 384), .val (.ref 768), .val (.int p2), .val (.int p3), .val (.int v3), .val (.int v4), .val s5], [], (126, 120, L, [Y, T, H, H2, RV, RU_6, ST, NS, I0, I1, I2, BO, FI, RG, GU, PU, MA, MN, MS, OT, SC], [r0, r1, r2, r3, w, 192, r6, r7, r8], Lg)) o from ev_f (c := (RU_6 0 1) ≤ v4) _ _ 4  zc12 e (fun n => Eq.refl _)
        obtain ⟨x7, zh13, zh10⟩ := bnd zh10
        have zh13 : rdx (RU_6 1) 150 v4 = some x7 := zh13
        suffices e : Ev (d + 2, 0, 0, 253, 45, [.val (.ref 384), .val (.ref 768), .val (.int p2), .val (.int p3), .val (.int v3), .val (.int v4), .val s5], [.int x7], (126, 120, L, [Y, T, H, H2, RV, RU_6, ST, NS, I0, I1, I2, BO, FI, RG, GU, PU, MA, MN, MS, OT, SC], [r0, r1, r2, r3, w, 192, r6, r7, r8], Lg)) o from ev_opt (fun x7 => (d + 2, 0, 0, 253, 45, [.val (.ref 384), .val (.ref 768), .val (.int p2), .val (.int p3), .val (.int v3), .val (.int v4), .val s5], [.int x7], (126, 120, L, [Y, T, H, H2, RV, RU_6, ST, NS, I0, I1, I2, BO, FI, RG, GU, PU, MA, MN, MS, OT, SC], [r0, r1, r2, r3, w, 192, r6, r7, r8], Lg))) 4 zh13 e (fun n => Eq.refl _)
        obtain ⟨zt14, zh15, zh10⟩ := bnd zh10
        have zj16 : zt14 = .inl () → Ev (d + 2, 0, 0, 253, 82, [.val (.ref 384), .val (.ref 768), .val (.int p2), .val (.int p3), .val (.int v3), .val (.int v4), .val (.int x7)], [], (126, 120, L, [Y, T, H, H2, RV, RU_6, ST, NS, I0, I1, I2, BO, FI, RG, GU, PU, MA, MN, MS, OT, SC], [r0, r1, r2, r3, w, 192, r6, r7, r8], Lg)) o := by
          intro ze17
          have zh10 := sum_l zh10 ze17
          obtain ⟨zt18, zh19, zh10⟩ := bnd zh10
          have zj20 : zt18 = .inl () → Ev (d + 2, 0, 0, 253, 119, [.val (.ref 384), .val (.ref 768), .val (.int p2), .val (.int p3), .val (.int v3), .val (.int v4), .val (.int x7)], [], (126, 120, L, [Y, T, H, H2, RV, RU_6, ST, NS, I0, I1, I2, BO, FI, RG, GU, PU, MA, MN, MS, OT, SC], [r0, r1, r2, r3, w, 192, r6, r7, r8], Lg)) o := by
            intro ze21
            have zh10 := sum_l zh10 ze21
            by_cases zc22 : v3 < 2
            · have zh10 := itp zh10 zc22
              suffices e : Ev (d + 2, 0, 0, 253, 158, [.val (.ref 384), .val (.ref 768), .val (.int p2), .val (.int p3), .val (.int v3), .val (.int v4), .val (.int x7)], [], (126, 120, L, [Y, T, H, H2, RV, RU_6, ST, NS, I0, I1, I2, BO, FI, RG, GU, PU, MA, MN, MS, OT, SC], [r0, r1, r2, r3, w, 192, r6, r7, r8], Lg)) o from ev_t (c := v3 < 2) _ _ 3  zc22 e (fun n => Eq.refl _)
              exact ev_b 2 (zi8 _ (Option.some.inj zh10).symm (.int x7)) (fun n => Eq.refl _)
            · have zh10 := itn zh10 zc22
              suffices e : Ev (d + 2, 0, 0, 253, 125, [.val (.ref 384), .val (.ref 768), .val (.int p2), .val (.int p3), .val (.int v3), .val (.int v4), .val (.int x7)], [], (126, 120, L, [Y, T, H, H2, RV, RU_6, ST, NS, I0, I1, I2, BO, FI, RG, GU, PU, MA, MN, MS, OT, SC], [r0, r1, r2, r3, w, 192, r6, r7, r8], Lg)) o from ev_f (c := v3 < 2) _ _ 3  zc22 e (fun n => Eq.refl _)
              suffices e : Ev (d + 2, 0, 0, 253, 128, [.val (.ref 384), .val (.ref 768), .val (.int p2), .val (.int p3), .val (.int (v3 + (-1))), .val (.int v4), .val (.int x7)], [], (126, 120, L, [Y, T, H, H2, RV, RU_6, ST, NS, I0, I1, I2, BO, FI, RG, GU, PU, MA, MN, MS, OT, SC], [r0, r1, r2, r3, w, 192, r6, r7, r8], Lg)) o from ev_b 1 e (fun n => Eq.refl _)
              obtain ⟨x12, zh23, zh10⟩ := bnd zh10
              have zh23 : rdx (RU_6 2) 150 ((v3 + (-1)) - 1) = some x12 := zh23
              suffices e : Ev (d + 2, 0, 0, 253, 147, [.val (.ref 384), .val (.ref 768), .val (.int p2), .val (.int p3), .val (.int (v3 + (-1))), .val (.int v4), .val (.int x7)], [.int x12, .int x7, .int ((v3 + (-1)) - 1), .ref 386], (126, 120, L, [Y, T, H, H2, RV, RU_6, ST, NS, I0, I1, I2, BO, FI, RG, GU, PU, MA, MN, MS, OT, SC], [r0, r1, r2, r3, w, 192, r6, r7, r8], Lg)) o from ev_opt (fun x12 => (d + 2, 0, 0, 253, 147, [.val (.ref 384), .val (.ref 768), .val (.int p2), .val (.int p3), .val (.int (v3 + (-1))), .val (.int v4), .val (.int x7)], [.int x12, .int x7, .int ((v3 + (-1)) - 1), .ref 386], (126, 120, L, [Y, T, H, H2, RV, RU_6, ST, NS, I0, I1, I2, BO, FI, RG, GU, PU, MA, MN, MS, OT, SC], [r0, r1, r2, r3, w, 192, r6, r7, r8], Lg))) 12 zh23 e (fun n => Eq.refl _)
              obtain ⟨x13, zh24, zh10⟩ := bnd zh10
              have zh24 : rdx (RU_6 2) 150 (v3 + (-1)) = some x13 := zh24
              suffices e : Ev (d + 2, 0, 0, 253, 154, [.val (.ref 384), .val (.ref 768), .val (.int p2), .val (.int p3), .val (.int (v3 + (-1))), .val (.int v4), .val (.int x7)], [.int x13, .int x12, .int x7, .int ((v3 + (-1)) - 1), .ref 386], (126, 120, L, [Y, T, H, H2, RV, RU_6, ST, NS, I0, I1, I2, BO, FI, RG, GU, PU, MA, MN, MS, OT, SC], [r0, r1, r2, r3, w, 192, r6, r7, r8], Lg)) o from ev_opt (fun x13 => (d + 2, 0, 0, 253, 154, [.val (.ref 384), .val (.ref 768), .val (.int p2), .val (.int p3), .val (.int (v3 + (-1))), .val (.int v4), .val (.int x7)], [.int x13, .int x12, .int x7, .int ((v3 + (-1)) - 1), .ref 386], (126, 120, L, [Y, T, H, H2, RV, RU_6, ST, NS, I0, I1, I2, BO, FI, RG, GU, PU, MA, MN, MS, OT, SC], [r0, r1, r2, r3, w, 192, r6, r7, r8], Lg))) 4 zh24 e (fun n => Eq.refl _)
              obtain ⟨x14, zh25, zh10⟩ := bnd zh10
              have zh25 : f_Rule_apply x7 x12 x13 = some x14 := zh25
              have ze26 := R_f_Rule_apply_0 (d + 1) Y T H H2 RV RU_6 ST NS I0 I1 I2 BO FI RG GU PU MA MN MS OT SC r0 r1 r2 r3 w 192 r6 r7 r8 L Lg x7 x12 x13 zh25
              suffices e : Ev (d + 2, 0, 0, 253, 157, [.val (.ref 384), .val (.ref 768), .val (.int p2), .val (.int p3), .val (.int (v3 + (-1))), .val (.int v4), .val (.int x7)], [.int x14, .int ((v3 + (-1)) - 1), .ref 386], (126, 120, L, [Y, T, H, H2, RV, RU_6, ST, NS, I0, I1, I2, BO, FI, RG, GU, PU, MA, MN, MS, OT, SC], [r0, r1, r2, r3, w, 192, r6, r7, r8], Lg)) o from ev_call (fun v μ => (d + 2, 0, 0, 253, 157, [.val (.ref 384), .val (.ref 768), .val (.int p2), .val (.int p3), .val (.int (v3 + (-1))), .val (.int v4), .val (.int x7)], v.toList ++ [.int ((v3 + (-1)) - 1), .ref 386], μ)) 1 ze26 e (fun n => Eq.refl _)
              obtain ⟨j15, zh27, zh10⟩ := bnd zh10
              have zh27 : ixx 150 ((v3 + (-1)) - 1) = some j15 := zh27
              suffices e : Ev (d + 2, 0, 0, 253, 158, [.val (.ref 384), .val (.ref 768), .val (.int p2), .val (.int p3), .val (.int (v3 + (-1))), .val (.int v4), .val (.int x7)], [], (126, 120, L, [Y, T, H, H2, RV, (u2 RU_6 2 j15 x14), ST, NS, I0, I1, I2, BO, FI, RG, GU, PU, MA, MN, MS, OT, SC], [r0, r1, r2, r3, w, 192, r6, r7, r8], Lg)) o from ev_opt (fun j15 => (d + 2, 0, 0, 253, 158, [.val (.ref 384), .val (.ref 768), .val (.int p2), .val (.int p3), .val (.int (v3 + (-1))), .val (.int v4), .val (.int x7)], [], (126, 120, L, [Y, T, H, H2, RV, (u2 RU_6 2 j15 x14), ST, NS, I0, I1, I2, BO, FI, RG, GU, PU, MA, MN, MS, OT, SC], [r0, r1, r2, r3, w, 192, r6, r7, r8], Lg))) 1 zh27 e (fun n => Eq.refl _)
              exact ev_b 2 (zi8 _ (Option.some.inj zh10).symm (.int x7)) (fun n => Eq.refl _)
          by_cases zc28 : x7 ≠ 200
          · have zh19 := itp zh19 zc28
            suffices e : Ev (d + 2, 0, 0, 253, 119, [.val (.ref 384), .val (.ref 768), .val (.int p2), .val (.int p3), .val (.int v3), .val (.int v4), .val (.int x7)], [], (126, 120, L, [Y, T, H, H2, RV, RU_6, ST, NS, I0, I1, I2, BO, FI, RG, GU, PU, MA, MN, MS, OT, SC], [r0, r1, r2, r3, w, 192, r6, r7, r8], Lg)) o from ev_t (c := x7 ≠ 200) _ _ 3  zc28 e (fun n => Eq.refl _)
            exact ev_b 0 (zj20  (Option.some.inj zh19).symm ) (fun n => Eq.refl _)
          · have zh19 := itn zh19 zc28
            suffices e : Ev (d + 2, 0, 0, 253, 90, [.val (.ref 384), .val (.ref 768), .val (.int p2), .val (.int p3), .val (.int v3), .val (.int v4), .val (.int x7)], [], (126, 120, L, [Y, T, H, H2, RV, RU_6, ST, NS, I0, I1, I2, BO, FI, RG, GU, PU, MA, MN, MS, OT, SC], [r0, r1, r2, r3, w, 192, r6, r7, r8], Lg)) o from ev_f (c := x7 ≠ 200) _ _ 3  zc28 e (fun n => Eq.refl _)
            by_cases zc29 : v3 < 1
            · have zh19 := itp zh19 zc29
              suffices e : Ev (d + 2, 0, 0, 253, 119, [.val (.ref 384), .val (.ref 768), .val (.int p2), .val (.int p3), .val (.int v3), .val (.int v4), .val (.int x7)], [], (126, 120, L, [Y, T, H, H2, RV, RU_6, ST, NS, I0, I1, I2, BO, FI, RG, GU, PU, MA, MN, MS, OT, SC], [r0, r1, r2, r3, w, 192, r6, r7, r8], Lg)) o from ev_t (c := v3 < 1) _ _ 3  zc29 e (fun n => Eq.refl _)
              exact ev_b 0 (zj20  (Option.some.inj zh19).symm ) (fun n => Eq.refl _)
            · have zh19 := itn zh19 zc29
              suffices e : Ev (d + 2, 0, 0, 253, 96, [.val (.ref 384), .val (.ref 768), .val (.int p2), .val (.int p3), .val (.int v3), .val (.int v4), .val (.int x7)], [], (126, 120, L, [Y, T, H, H2, RV, RU_6, ST, NS, I0, I1, I2, BO, FI, RG, GU, PU, MA, MN, MS, OT, SC], [r0, r1, r2, r3, w, 192, r6, r7, r8], Lg)) o from ev_f (c := v3 < 1) _ _ 3  zc29 e (fun n => Eq.refl _)
              obtain ⟨x10, zh30, zh19⟩ := bnd zh19
              have zh30 : rdx (RU_6 2) 150 (v3 - 1) = some x10 := zh30
              suffices e : Ev (d + 2, 0, 0, 253, 114, [.val (.ref 384), .val (.ref 768), .val (.int p2), .val (.int p3), .val (.int v3), .val (.int v4), .val (.int x7)], [.int x10, .int 1, .int (v3 - 1), .ref 386], (126, 120, L, [Y, T, H, H2, RV, RU_6, ST, NS, I0, I1, I2, BO, FI, RG, GU, PU, MA, MN, MS, OT, SC], [r0, r1, r2, r3, w, 192, r6, r7, r8], Lg)) o from ev_opt (fun x10 => (d + 2, 0, 0, 253, 114, [.val (.ref 384), .val (.ref 768), .val (.int p2), .val (.int p3), .val (.int v3), .val (.int v4), .val (.int x7)], [.int x10, .int 1, .int (v3 - 1), .ref 386], (126, 120, L, [Y, T, H, H2, RV, RU_6, ST, NS, I0, I1, I2, BO, FI, RG, GU, PU, MA, MN, MS, OT, SC], [r0, r1, r2, r3, w, 192, r6, r7, r8], Lg))) 12 zh30 e (fun n => Eq.refl _)
              obtain ⟨j11, zh31, zh19⟩ := bnd zh19
              have zh31 : ixx 150 (v3 - 1) = some j11 := zh31
              suffices e : Ev (d + 2, 0, 0, 253, 116, [.val (.ref 384), .val (.ref 768), .val (.int p2), .val (.int p3), .val (.int v3), .val (.int v4), .val (.int x7)], [], (126, 120, L, [Y, T, H, H2, RV, (u2 RU_6 2 j11 (1 - x10)), ST, NS, I0, I1, I2, BO, FI, RG, GU, PU, MA, MN, MS, OT, SC], [r0, r1, r2, r3, w, 192, r6, r7, r8], Lg)) o from ev_opt (fun j11 => (d + 2, 0, 0, 253, 116, [.val (.ref 384), .val (.ref 768), .val (.int p2), .val (.int p3), .val (.int v3), .val (.int v4), .val (.int x7)], [], (126, 120, L, [Y, T, H, H2, RV, (u2 RU_6 2 j11 (1 - x10)), ST, NS, I0, I1, I2, BO, FI, RG, GU, PU, MA, MN, MS, OT, SC], [r0, r1, r2, r3, w, 192, r6, r7, r8], Lg))) 2 zh31 e (fun n => Eq.refl _)
              have zh32 := sum_r zh10 (Option.some.inj zh19).symm
              exact ev_b 3 (zi8 _ (Option.some.inj zh32).symm (.int x7)) (fun n => Eq.refl _)
        by_cases zc33 : 200 ≤ x7
        · have zh15 := itp zh15 zc33
          suffices e : Ev (d + 2, 0, 0, 253, 82, [.val (.ref 384), .val (.ref 768), .val (.int p2), .val (.int p3), .val (.int v3), .val (.int v4), .val (.int x7)], [], (126, 120, L, [Y, T, H, H2, RV, RU_6, ST, NS, I0, I1, I2, BO, FI, RG, GU, PU, MA, MN, MS, OT, SC], [r0, r1, r2, r3, w, 192, r6, r7, r8], Lg)) o from ev_t (c := 200 ≤ x7) _ _ 4  zc33 e (fun n => Eq.refl _)
          exact ev_b 0 (zj16  (Option.some.inj zh15).symm ) (fun n => Eq.refl _)
        · have zh15 := itn zh15 zc33
          suffices e : Ev (d + 2, 0, 0, 253, 55, [.val (.ref 384), .val (.ref 768), .val (.int p2), .val (.int p3), .val (.int v3), .val (.int v4), .val (.int x7)], [], (126, 120, L, [Y, T, H, H2, RV, RU_6, ST, NS, I0, I1, I2, BO, FI, RG, GU, PU, MA, MN, MS, OT, SC], [r0, r1, r2, r3, w, 192, r6, r7, r8], Lg)) o from ev_f (c := 200 ≤ x7) _ _ 4  zc33 e (fun n => Eq.refl _)
          by_cases zc34 : 150 ≤ v3
          · have zh15 := itp zh15 zc34
            suffices e : Ev (d + 2, 0, 0, 253, 82, [.val (.ref 384), .val (.ref 768), .val (.int p2), .val (.int p3), .val (.int v3), .val (.int v4), .val (.int x7)], [], (126, 120, L, [Y, T, H, H2, RV, RU_6, ST, NS, I0, I1, I2, BO, FI, RG, GU, PU, MA, MN, MS, OT, SC], [r0, r1, r2, r3, w, 192, r6, r7, r8], Lg)) o from ev_t (c := 150 ≤ v3) _ _ 3  zc34 e (fun n => Eq.refl _)
            exact ev_b 0 (zj16  (Option.some.inj zh15).symm ) (fun n => Eq.refl _)
          · have zh15 := itn zh15 zc34
            suffices e : Ev (d + 2, 0, 0, 253, 63, [.val (.ref 384), .val (.ref 768), .val (.int p2), .val (.int p3), .val (.int v3), .val (.int v4), .val (.int x7)], [], (126, 120, L, [Y, T, H, H2, RV, RU_6, ST, NS, I0, I1, I2, BO, FI, RG, GU, PU, MA, MN, MS, OT, SC], [r0, r1, r2, r3, w, 192, r6, r7, r8], Lg)) o from ev_f (c := 150 ≤ v3) _ _ 3  zc34 e (fun n => Eq.refl _)
            obtain ⟨x8, zh35, zh15⟩ := bnd zh15
            have zh35 : f_Rule_operand RU_6 x7 = some x8 := zh35
            have ze36 := R_f_Rule_operand_1 (d + 1) Y T H H2 RV RU_6 ST NS I0 I1 I2 BO FI RG GU PU MA MN MS OT SC r0 r1 r2 r3 w 192 r6 r7 r8 L Lg x7 zh35
            suffices e : Ev (d + 2, 0, 0, 253, 75, [.val (.ref 384), .val (.ref 768), .val (.int p2), .val (.int p3), .val (.int v3), .val (.int v4), .val (.int x7)], [.int x8, .int v3, .ref 386], (126, 120, L, [Y, T, H, H2, RV, RU_6, ST, NS, I0, I1, I2, BO, FI, RG, GU, PU, MA, MN, MS, OT, SC], [r0, r1, r2, r3, w, 192, r6, r7, r8], Lg)) o from ev_call (fun v μ => (d + 2, 0, 0, 253, 75, [.val (.ref 384), .val (.ref 768), .val (.int p2), .val (.int p3), .val (.int v3), .val (.int v4), .val (.int x7)], v.toList ++ [.int v3, .ref 386], μ)) 6 ze36 e (fun n => Eq.refl _)
            obtain ⟨j9, zh37, zh15⟩ := bnd zh15
            have zh37 : ixx 150 v3 = some j9 := zh37
            suffices e : Ev (d + 2, 0, 0, 253, 76, [.val (.ref 384), .val (.ref 768), .val (.int p2), .val (.int p3), .val (.int v3), .val (.int v4), .val (.int x7)], [], (126, 120, L, [Y, T, H, H2, RV, (u2 RU_6 2 j9 x8), ST, NS, I0, I1, I2, BO, FI, RG, GU, PU, MA, MN, MS, OT, SC], [r0, r1, r2, r3, w, 192, r6, r7, r8], Lg)) o from ev_opt (fun j9 => (d + 2, 0, 0, 253, 76, [.val (.ref 384), .val (.ref 768), .val (.int p2), .val (.int p3), .val (.int v3), .val (.int v4), .val (.int x7)], [], (126, 120, L, [Y, T, H, H2, RV, (u2 RU_6 2 j9 x8), ST, NS, I0, I1, I2, BO, FI, RG, GU, PU, MA, MN, MS, OT, SC], [r0, r1, r2, r3, w, 192, r6, r7, r8], Lg))) 1 zh37 e (fun n => Eq.refl _)
            have zh38 := sum_r zh10 (Option.some.inj zh15).symm
            exact ev_b 4 (zi8 _ (Option.some.inj zh38).symm (.int x7)) (fun n => Eq.refl _)
    · obtain ⟨v16, RU_19⟩ := zb6
      intro s17 s18
      by_cases zc39 : v16 ≠ 1
      · have h := itp h zc39
        suffices e : Ev (d + 2, 0, 0, 253, 183, [.val (.ref 384), .val (.ref 768), .val (.int p2), .val (.int p3), .val (.int v16), .val s17, .val s18], [], (126, 120, L, [Y, T, H, H2, RV, RU_19, ST, NS, I0, I1, I2, BO, FI, RG, GU, PU, MA, MN, MS, OT, SC], [r0, r1, r2, r3, w, 192, r6, r7, r8], Lg)) o from ev_t (c := v16 ≠ 1) _ _ 3  zc39 e (fun n => Eq.refl _)
        have ze40 := Option.some.inj h
        subst ze40
        exact ev_rete 2 ho (fun n => Eq.refl _)
      · have h := itn h zc39
        suffices e : Ev (d + 2, 0, 0, 253, 170, [.val (.ref 384), .val (.ref 768), .val (.int p2), .val (.int p3), .val (.int v16), .val s17, .val s18], [], (126, 120, L, [Y, T, H, H2, RV, RU_19, ST, NS, I0, I1, I2, BO, FI, RG, GU, PU, MA, MN, MS, OT, SC], [r0, r1, r2, r3, w, 192, r6, r7, r8], Lg)) o from ev_f (c := v16 ≠ 1) _ _ 3  zc39 e (fun n => Eq.refl _)
        obtain ⟨x20, zh41, h⟩ := bnd h
        have zh41 : rdx (RU_19 2) 150 0 = some x20 := zh41
        suffices e : Ev (d + 2, 0, 0, 253, 176, [.val (.ref 384), .val (.ref 768), .val (.int p2), .val (.int p3), .val (.int v16), .val s17, .val s18], [.int x20], (126, 120, L, [Y, T, H, H2, RV, RU_19, ST, NS, I0, I1, I2, BO, FI, RG, GU, PU, MA, MN, MS, OT, SC], [r0, r1, r2, r3, w, 192, r6, r7, r8], Lg)) o from ev_opt (fun x20 => (d + 2, 0, 0, 253, 176, [.val (.ref 384), .val (.ref 768), .val (.int p2), .val (.int p3), .val (.int v16), .val s17, .val s18], [.int x20], (126, 120, L, [Y, T, H, H2, RV, RU_19, ST, NS, I0, I1, I2, BO, FI, RG, GU, PU, MA, MN, MS, OT, SC], [r0, r1, r2, r3, w, 192, r6, r7, r8], Lg))) 4 zh41 e (fun n => Eq.refl _)
        by_cases zc42 : x20 = 0
        · have h := itp h zc42
          suffices e : Ev (d + 2, 0, 0, 253, 183, [.val (.ref 384), .val (.ref 768), .val (.int p2), .val (.int p3), .val (.int v16), .val s17, .val s18], [], (126, 120, L, [Y, T, H, H2, RV, RU_19, ST, NS, I0, I1, I2, BO, FI, RG, GU, PU, MA, MN, MS, OT, SC], [r0, r1, r2, r3, w, 192, r6, r7, r8], Lg)) o from ev_t (c := x20 = 0) _ _ 1  zc42 e (fun n => Eq.refl _)
          have ze43 := Option.some.inj h
          subst ze43
          exact ev_rete 2 ho (fun n => Eq.refl _)
        · have h := itn h zc42
          suffices e : Ev (d + 2, 0, 0, 253, 179, [.val (.ref 384), .val (.ref 768), .val (.int p2), .val (.int p3), .val (.int v16), .val s17, .val s18], [], (126, 120, L, [Y, T, H, H2, RV, RU_19, ST, NS, I0, I1, I2, BO, FI, RG, GU, PU, MA, MN, MS, OT, SC], [r0, r1, r2, r3, w, 192, r6, r7, r8], Lg)) o from ev_f (c := x20 = 0) _ _ 1  zc42 e (fun n => Eq.refl _)
          have ze44 := Option.some.inj h
          subst ze44
          exact ev_rete 3 ho (fun n => Eq.refl _)
  · have h := itn h zc1
    suffices e : Ev (d + 2, 0, 0, 253, 7, [.val (.ref 384), .val (.ref 768), .val (.int p2), .val (.int p3), .val a_unk, .val a_unk, .val a_unk], [], (126, 120, L, [Y, T, H, H2, RV, RU, ST, NS, I0, I1, I2, BO, FI, RG, GU, PU, MA, MN, MS, OT, SC], [r0, r1, r2, r3, w, 192, r6, r7, r8], Lg)) o from ev_f (c := (RU 0 1) ≠ 0) _ _ 3  zc1 e (fun n => Eq.refl _)
    have ze45 := Option.some.inj h
    subst ze45
    exact ev_rete 2 ho (fun n => Eq.refl _)
