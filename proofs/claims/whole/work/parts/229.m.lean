/-! printed by program (gen/emitm.py): the reference's methods run as their functions say -/
set_option maxRecDepth 1000000 in
set_option maxHeartbeats 4000000 in
theorem R_f_Y_least_1 (d : Nat) (Y T H H2 RV RU ST NS I0 I1 I2 BO FI RG GU PU MA MN MS OT SC : Nat → Nat → Int32) (w r5 : Nat) (L : Nat) (Lg : Int64) {r : Int32} (h : f_Y_least H NS = some r) : Ev (d + 1, 0, 0, 301, 0, [.val (.ref 64), .val a_unk, .val a_unk], [], (126, 120, L, [Y, T, H, H2, RV, RU, ST, NS, I0, I1, I2, BO, FI, RG, GU, PU, MA, MN, MS, OT, SC], [192, 256, 384, 320, w, r5, 576, 640, 704], Lg)) ((0, some (.int r), (126, 120, L, [Y, T, H, H2, RV, RU, ST, NS, I0, I1, I2, BO, FI, RG, GU, PU, MA, MN, MS, OT, SC], [192, 256, 384, 320, w, r5, 576, 640, 704], Lg)) : AOut) := by
  suffices key : ∀ o : AOut, ((0, some (.int r), (126, 120, L, [Y, T, H, H2, RV, RU, ST, NS, I0, I1, I2, BO, FI, RG, GU, PU, MA, MN, MS, OT, SC], [192, 256, 384, 320, w, r5, 576, 640, 704], Lg)) : AOut) = o → Ev (d + 1, 0, 0, 301, 0, [.val (.ref 64), .val a_unk, .val a_unk], [], (126, 120, L, [Y, T, H, H2, RV, RU, ST, NS, I0, I1, I2, BO, FI, RG, GU, PU, MA, MN, MS, OT, SC], [192, 256, 384, 320, w, r5, 576, 640, 704], Lg)) o from key _ rfl
  intro o ho
  obtain ⟨v6, zh2, h⟩ := bnd h
  suffices e : Ev (d + 1, 0, 0, 301, 4, [.val (.ref 64), .val (.int (-1)), .val (.int 0)], [], (126, 120, L, [Y, T, H, H2, RV, RU, ST, NS, I0, I1, I2, BO, FI, RG, GU, PU, MA, MN, MS, OT, SC], [192, 256, 384, 320, w, r5, 576, 640, 704], Lg)) o from ev_b 4 e (fun n => Eq.refl _)
  refine ev_loop (δ := Unit) (fun a j => (d + 1, 0, 0, 301, 4, [.val (.ref 64), .val (.int a.1), .val (.int a.2)], [], (126, 120, L, [Y, T, H, H2, RV, RU, ST, NS, I0, I1, I2, BO, FI, RG, GU, PU, MA, MN, MS, OT, SC], [192, 256, 384, 320, w, r5, 576, 640, 704], Lg))) (fun b => ∀ s7 : Value, Ev (d + 1, 0, 0, 301, 60, [.val (.ref 64), .val (.int b), .val s7], [], (126, 120, L, [Y, T, H, H2, RV, RU, ST, NS, I0, I1, I2, BO, FI, RG, GU, PU, MA, MN, MS, OT, SC], [192, 256, 384, 320, w, r5, 576, 640, 704], Lg)) o) ?_ a_F ((-1), 0) v6 zh2 ?_ ()
  · rintro ⟨v1, v2⟩ zr6 zh5 zi3 zx4 ⟨⟩
    have zh5 : f_Y_least_l4 H NS v1 v2 = some zr6 := zh5
    suffices e : Ev (d + 1, 0, 0, 301, 9, [.val (.ref 64), .val (.int v1), .val (.int v2)], [.ref 192, .int v2], (126, 120, L, [Y, T, H, H2, RV, RU, ST, NS, I0, I1, I2, BO, FI, RG, GU, PU, MA, MN, MS, OT, SC], [192, 256, 384, 320, w, r5, 576, 640, 704], Lg)) o from ev_b 3 e (fun n => Eq.refl _)
    by_cases zc7 : (H 0 4) ≤ v2
    · have zh5 := itp zh5 zc7
      suffices e : Ev (d + 1, 0, 0, 301, 60, [.val (.ref 64), .val (.int v1), .val (.int v2)], [], (126, 120, L, [Y, T, H, H2, RV, RU, ST, NS, I0, I1, I2, BO, FI, RG, GU, PU, MA, MN, MS, OT, SC], [192, 256, 384, 320, w, r5, 576, 640, 704], Lg)) o from ev_t (c := (H 0 4) ≤ v2) _ _ 2  zc7 e (fun n => Eq.refl _)
      exact ev_b 0 (zx4 _ (Option.some.inj zh5).symm (.int v2)) (fun n => Eq.refl _)
    · have zh5 := itn zh5 zc7
      suffices e : Ev (d + 1, 0, 0, 301, 15, [.val (.ref 64), .val (.int v1), .val (.int v2)], [], (126, 120, L, [Y, T, H, H2, RV, RU, ST, NS, I0, I1, I2, BO, FI, RG, GU, PU, MA, MN, MS, OT, SC], [192, 256, 384, 320, w, r5, 576, 640, 704], Lg)) o from ev_f (c := (H 0 4) ≤ v2) _ _ 2  zc7 e (fun n => Eq.refl _)
      obtain ⟨x3, zh8, zh5⟩ := bnd zh5
      have zh8 : f_State_isHeld NS v2 = some x3 := zh8
      have ze9 := R_f_State_isHeld_0 (d + 0) Y T H H2 RV RU ST NS I0 I1 I2 BO FI RG GU PU MA MN MS OT SC 192 256 384 320 w r5 576 640 704 L Lg v2 zh8
      suffices e : Ev (d + 1, 0, 0, 301, 23, [.val (.ref 64), .val (.int v1), .val (.int v2)], [.int x3], (126, 120, L, [Y, T, H, H2, RV, RU, ST, NS, I0, I1, I2, BO, FI, RG, GU, PU, MA, MN, MS, OT, SC], [192, 256, 384, 320, w, r5, 576, 640, 704], Lg)) o from ev_call (fun v μ => (d + 1, 0, 0, 301, 23, [.val (.ref 64), .val (.int v1), .val (.int v2)], v.toList ++ [], μ)) 4 ze9 e (fun n => Eq.refl _)
      by_cases zc10 : x3 = 0
      · have zh5 := itp zh5 zc10
        suffices e : Ev (d + 1, 0, 0, 301, 54, [.val (.ref 64), .val (.int v1), .val (.int v2)], [], (126, 120, L, [Y, T, H, H2, RV, RU, ST, NS, I0, I1, I2, BO, FI, RG, GU, PU, MA, MN, MS, OT, SC], [192, 256, 384, 320, w, r5, 576, 640, 704], Lg)) o from ev_t (c := x3 = 0) _ _ 1  zc10 e (fun n => Eq.refl _)
        exact ev_b 2 (zi3 _ (Option.some.inj zh5).symm ()) (fun n => Eq.refl _)
      · have zh5 := itn zh5 zc10
        suffices e : Ev (d + 1, 0, 0, 301, 26, [.val (.ref 64), .val (.int v1), .val (.int v2)], [], (126, 120, L, [Y, T, H, H2, RV, RU, ST, NS, I0, I1, I2, BO, FI, RG, GU, PU, MA, MN, MS, OT, SC], [192, 256, 384, 320, w, r5, 576, 640, 704], Lg)) o from ev_f (c := x3 = 0) _ _ 1  zc10 e (fun n => Eq.refl _)
        by_cases zc11 : v1 = (-1)
        · have zh5 := itp zh5 zc11
          suffices e : Ev (d + 1, 0, 0, 301, 52, [.val (.ref 64), .val (.int v1), .val (.int v2)], [], (126, 120, L, [Y, T, H, H2, RV, RU, ST, NS, I0, I1, I2, BO, FI, RG, GU, PU, MA, MN, MS, OT, SC], [192, 256, 384, 320, w, r5, 576, 640, 704], Lg)) o from ev_t (c := v1 = (-1)) _ _ 3  zc11 e (fun n => Eq.refl _)
          exact ev_b 4 (zi3 _ (Option.some.inj zh5).symm ()) (fun n => Eq.refl _)
        · have zh5 := itn zh5 zc11
          suffices e : Ev (d + 1, 0, 0, 301, 31, [.val (.ref 64), .val (.int v1), .val (.int v2)], [], (126, 120, L, [Y, T, H, H2, RV, RU, ST, NS, I0, I1, I2, BO, FI, RG, GU, PU, MA, MN, MS, OT, SC], [192, 256, 384, 320, w, r5, 576, 640, 704], Lg)) o from ev_f (c := v1 = (-1)) _ _ 3  zc11 e (fun n => Eq.refl _)
          suffices e : Ev (d + 1, 0, 0, 301, 35, [.val (.ref 64), .val (.int v1), .val (.int v2)], [.ref 192], (126, 120, L, [Y, T, H, H2, RV, RU, ST, NS, I0, I1, I2, BO, FI, RG, GU, PU, MA, MN, MS, OT, SC], [192, 256, 384, 320, w, r5, 576, 640, 704], Lg)) o from ev_b 2 e (fun n => Eq.refl _)
          obtain ⟨x4, zh12, zh5⟩ := bnd zh5
          have zh12 : rdx (H 12) 4 v2 = some x4 := zh12
          suffices e : Ev (d + 1, 0, 0, 301, 40, [.val (.ref 64), .val (.int v1), .val (.int v2)], [.int x4], (126, 120, L, [Y, T, H, H2, RV, RU, ST, NS, I0, I1, I2, BO, FI, RG, GU, PU, MA, MN, MS, OT, SC], [192, 256, 384, 320, w, r5, 576, 640, 704], Lg)) o from ev_opt (fun x4 => (d + 1, 0, 0, 301, 40, [.val (.ref 64), .val (.int v1), .val (.int v2)], [.int x4], (126, 120, L, [Y, T, H, H2, RV, RU, ST, NS, I0, I1, I2, BO, FI, RG, GU, PU, MA, MN, MS, OT, SC], [192, 256, 384, 320, w, r5, 576, 640, 704], Lg))) 3 zh12 e (fun n => Eq.refl _)
          suffices e : Ev (d + 1, 0, 0, 301, 44, [.val (.ref 64), .val (.int v1), .val (.int v2)], [.ref 192, .int x4], (126, 120, L, [Y, T, H, H2, RV, RU, ST, NS, I0, I1, I2, BO, FI, RG, GU, PU, MA, MN, MS, OT, SC], [192, 256, 384, 320, w, r5, 576, 640, 704], Lg)) o from ev_b 2 e (fun n => Eq.refl _)
          obtain ⟨x5, zh13, zh5⟩ := bnd zh5
          have zh13 : rdx (H 12) 4 v1 = some x5 := zh13
          suffices e : Ev (d + 1, 0, 0, 301, 49, [.val (.ref 64), .val (.int v1), .val (.int v2)], [.int x5, .int x4], (126, 120, L, [Y, T, H, H2, RV, RU, ST, NS, I0, I1, I2, BO, FI, RG, GU, PU, MA, MN, MS, OT, SC], [192, 256, 384, 320, w, r5, 576, 640, 704], Lg)) o from ev_opt (fun x5 => (d + 1, 0, 0, 301, 49, [.val (.ref 64), .val (.int v1), .val (.int v2)], [.int x5, .int x4], (126, 120, L, [Y, T, H, H2, RV, RU, ST, NS, I0, I1, I2, BO, FI, RG, GU, PU, MA, MN, MS, OT, SC], [192, 256, 384, 320, w, r5, 576, 640, 704], Lg))) 3 zh13 e (fun n => Eq.refl _)
          by_cases zc14 : x5 ≤ x4
          · have zh5 := itp zh5 zc14
            suffices e : Ev (d + 1, 0, 0, 301, 54, [.val (.ref 64), .val (.int v1), .val (.int v2)], [], (126, 120, L, [Y, T, H, H2, RV, RU, ST, NS, I0, I1, I2, BO, FI, RG, GU, PU, MA, MN, MS, OT, SC], [192, 256, 384, 320, w, r5, 576, 640, 704], Lg)) o from ev_t (c := x5 ≤ x4) _ _ 1  zc14 e (fun n => Eq.refl _)
            exact ev_b 2 (zi3 _ (Option.some.inj zh5).symm ()) (fun n => Eq.refl _)
          · have zh5 := itn zh5 zc14
            suffices e : Ev (d + 1, 0, 0, 301, 52, [.val (.ref 64), .val (.int v1), .val (.int v2)], [], (126, 120, L, [Y, T, H, H2, RV, RU, ST, NS, I0, I1, I2, BO, FI, RG, GU, PU, MA, MN, MS, OT, SC], [192, 256, 384, 320, w, r5, 576, 640, 704], Lg)) o from ev_f (c := x5 ≤ x4) _ _ 1  zc14 e (fun n => Eq.refl _)
            exact ev_b 4 (zi3 _ (Option.some.inj zh5).symm ()) (fun n => Eq.refl _)
  · skip
    intro s7
    have ze15 := Option.some.inj h
    subst ze15
    exact ev_rete 2 ho (fun n => Eq.refl _)
set_option maxRecDepth 1000000 in
set_option maxHeartbeats 4000000 in
theorem R_f_Y_least_2 (d : Nat) (Y T H2 H RU RV ST NS I0 I1 I2 BO FI RG GU PU MA MN MS OT SC : Nat → Nat → Int32) (w r5 : Nat) (L : Nat) (Lg : Int64) {r : Int32} (h : f_Y_least H NS = some r) : Ev (d + 1, 0, 0, 301, 0, [.val (.ref 64), .val a_unk, .val a_unk], [], (126, 120, L, [Y, T, H2, H, RU, RV, ST, NS, I0, I1, I2, BO, FI, RG, GU, PU, MA, MN, MS, OT, SC], [256, 192, 320, 384, w, r5, 576, 640, 704], Lg)) ((0, some (.int r), (126, 120, L, [Y, T, H2, H, RU, RV, ST, NS, I0, I1, I2, BO, FI, RG, GU, PU, MA, MN, MS, OT, SC], [256, 192, 320, 384, w, r5, 576, 640, 704], Lg)) : AOut) := by
  suffices key : ∀ o : AOut, ((0, some (.int r), (126, 120, L, [Y, T, H2, H, RU, RV, ST, NS, I0, I1, I2, BO, FI, RG, GU, PU, MA, MN, MS, OT, SC], [256, 192, 320, 384, w, r5, 576, 640, 704], Lg)) : AOut) = o → Ev (d + 1, 0, 0, 301, 0, [.val (.ref 64), .val a_unk, .val a_unk], [], (126, 120, L, [Y, T, H2, H, RU, RV, ST, NS, I0, I1, I2, BO, FI, RG, GU, PU, MA, MN, MS, OT, SC], [256, 192, 320, 384, w, r5, 576, 640, 704], Lg)) o from key _ rfl
  intro o ho
  obtain ⟨v6, zh2, h⟩ := bnd h
  suffices e : Ev (d + 1, 0, 0, 301, 4, [.val (.ref 64), .val (.int (-1)), .val (.int 0)], [], (126, 120, L, [Y, T, H2, H, RU, RV, ST, NS, I0, I1, I2, BO, FI, RG, GU, PU, MA, MN, MS, OT, SC], [256, 192, 320, 384, w, r5, 576, 640, 704], Lg)) o from ev_b 4 e (fun n => Eq.refl _)
  refine ev_loop (δ := Unit) (fun a j => (d + 1, 0, 0, 301, 4, [.val (.ref 64), .val (.int a.1), .val (.int a.2)], [], (126, 120, L, [Y, T, H2, H, RU, RV, ST, NS, I0, I1, I2, BO, FI, RG, GU, PU, MA, MN, MS, OT, SC], [256, 192, 320, 384, w, r5, 576, 640, 704], Lg))) (fun b => ∀ s7 : Value, Ev (d + 1, 0, 0, 301, 60, [.val (.ref 64), .val (.int b), .val s7], [], (126, 120, L, [Y, T, H2, H, RU, RV, ST, NS, I0, I1, I2, BO, FI, RG, GU, PU, MA, MN, MS, OT, SC], [256, 192, 320, 384, w, r5, 576, 640, 704], Lg)) o) ?_ a_F ((-1), 0) v6 zh2 ?_ ()
  · rintro ⟨v1, v2⟩ zr6 zh5 zi3 zx4 ⟨⟩
    have zh5 : f_Y_least_l4 H NS v1 v2 = some zr6 := zh5
    suffices e : Ev (d + 1, 0, 0, 301, 9, [.val (.ref 64), .val (.int v1), .val (.int v2)], [.ref 256, .int v2], (126, 120, L, [Y, T, H2, H, RU, RV, ST, NS, I0, I1, I2, BO, FI, RG, GU, PU, MA, MN, MS, OT, SC], [256, 192, 320, 384, w, r5, 576, 640, 704], Lg)) o from ev_b 3 e (fun n => Eq.refl _)
    by_cases zc7 : (H 0 4) ≤ v2
    · have zh5 := itp zh5 zc7
      suffices e : Ev (d + 1, 0, 0, 301, 60, [.val (.ref 64), .val (.int v1), .val (.int v2)], [], (126, 120, L, [Y, T, H2, H, RU, RV, ST, NS, I0, I1, I2, BO, FI, RG, GU, PU, MA, MN, MS, OT, SC], [256, 192, 320, 384, w, r5, 576, 640, 704], Lg)) o from ev_t (c := (H 0 4) ≤ v2) _ _ 2  zc7 e (fun n => Eq.refl _)
      exact ev_b 0 (zx4 _ (Option.some.inj zh5).symm (.int v2)) (fun n => Eq.refl _)
    · have zh5 := itn zh5 zc7
      suffices e : Ev (d + 1, 0, 0, 301, 15, [.val (.ref 64), .val (.int v1), .val (.int v2)], [], (126, 120, L, [Y, T, H2, H, RU, RV, ST, NS, I0, I1, I2, BO, FI, RG, GU, PU, MA, MN, MS, OT, SC], [256, 192, 320, 384, w, r5, 576, 640, 704], Lg)) o from ev_f (c := (H 0 4) ≤ v2) _ _ 2  zc7 e (fun n => Eq.refl _)
      obtain ⟨x3, zh8, zh5⟩ := bnd zh5
      have zh8 : f_State_isHeld NS v2 = some x3 := zh8
      have ze9 := R_f_State_isHeld_0 (d + 0) Y T H2 H RU RV ST NS I0 I1 I2 BO FI RG GU PU MA MN MS OT SC 256 192 320 384 w r5 576 640 704 L Lg v2 zh8
      suffices e : Ev (d + 1, 0, 0, 301, 23, [.val (.ref 64), .val (.int v1), .val (.int v2)], [.int x3], (126, 120, L, [Y, T, H2, H, RU, RV, ST, NS, I0, I1, I2, BO, FI, RG, GU, PU, MA, MN, MS, OT, SC], [256, 192, 320, 384, w, r5, 576, 640, 704], Lg)) o from ev_call (fun v μ => (d + 1, 0, 0, 301, 23, [.val (.ref 64), .val (.int v1), .val (.int v2)], v.toList ++ [], μ)) 4 ze9 e (fun n => Eq.refl _)
      by_cases zc10 : x3 = 0
      · have zh5 := itp zh5 zc10
        suffices e : Ev (d + 1, 0, 0, 301, 54, [.val (.ref 64), .val (.int v1), .val (.int v2)], [], (126, 120, L, [Y, T, H2, H, RU, RV, ST, NS, I0, I1, I2, BO, FI, RG, GU, PU, MA, MN, MS, OT, SC], [256, 192, 320, 384, w, r5, 576, 640, 704], Lg)) o from ev_t (c := x3 = 0) _ _ 1  zc10 e (fun n => Eq.refl _)
        exact ev_b 2 (zi3 _ (Option.some.inj zh5).symm ()) (fun n => Eq.refl _)
      · have zh5 := itn zh5 zc10
        suffices e : Ev (d + 1, 0, 0, 301, 26, [.val (.ref 64), .val (.int v1), .val (.int v2)], [], (126, 120, L, [Y, T, H2, H, RU, RV, ST, NS, I0, I1, I2, BO, FI, RG, GU, PU, MA, MN, MS, OT, SC], [256, 192, 320, 384, w, r5, 576, 640, 704], Lg)) o from ev_f (c := x3 = 0) _ _ 1  zc10 e (fun n => Eq.refl _)
        by_cases zc11 : v1 = (-1)
        · have zh5 := itp zh5 zc11
          suffices e : Ev (d + 1, 0, 0, 301, 52, [.val (.ref 64), .val (.int v1), .val (.int v2)], [], (126, 120, L, [Y, T, H2, H, RU, RV, ST, NS, I0, I1, I2, BO, FI, RG, GU, PU, MA, MN, MS, OT, SC], [256, 192, 320, 384, w, r5, 576, 640, 704], Lg)) o from ev_t (c := v1 = (-1)) _ _ 3  zc11 e (fun n => Eq.refl _)
          exact ev_b 4 (zi3 _ (Option.some.inj zh5).symm ()) (fun n => Eq.refl _)
        · have zh5 := itn zh5 zc11
          suffices e : Ev (d + 1, 0, 0, 301, 31, [.val (.ref 64), .val (.int v1), .val (.int v2)], [], (126, 120, L, [Y, T, H2, H, RU, RV, ST, NS, I0, I1, I2, BO, FI, RG, GU, PU, MA, MN, MS, OT, SC], [256, 192, 320, 384, w, r5, 576, 640, 704], Lg)) o from ev_f (c := v1 = (-1)) _ _ 3  zc11 e (fun n => Eq.refl _)
          suffices e : Ev (d + 1, 0, 0, 301, 35, [.val (.ref 64), .val (.int v1), .val (.int v2)], [.ref 256], (126, 120, L, [Y, T, H2, H, RU, RV, ST, NS, I0, I1, I2, BO, FI, RG, GU, PU, MA, MN, MS, OT, SC], [256, 192, 320, 384, w, r5, 576, 640, 704], Lg)) o from ev_b 2 e (fun n => Eq.refl _)
          obtain ⟨x4, zh12, zh5⟩ := bnd zh5
          have zh12 : rdx (H 12) 4 v2 = some x4 := zh12
          suffices e : Ev (d + 1, 0, 0, 301, 40, [.val (.ref 64), .val (.int v1), .val (.int v2)], [.int x4], (126, 120, L, [Y, T, H2, H, RU, RV, ST, NS, I0, I1, I2, BO, FI, RG, GU, PU, MA, MN, MS, OT, SC], [256, 192, 320, 384, w, r5, 576, 640, 704], Lg)) o from ev_opt (fun x4 => (d + 1, 0, 0, 301, 40, [.val (.ref 64), .val (.int v1), .val (.int v2)], [.int x4], (126, 120, L, [Y, T, H2, H, RU, RV, ST, NS, I0, I1, I2, BO, FI, RG, GU, PU, MA, MN, MS, OT, SC], [256, 192, 320, 384, w, r5, 576, 640, 704], Lg))) 3 zh12 e (fun n => Eq.refl _)
          suffices e : Ev (d + 1, 0, 0, 301, 44, [.val (.ref 64), .val (.int v1), .val (.int v2)], [.ref 256, .int x4], (126, 120, L, [Y, T, H2, H, RU, RV, ST, NS, I0, I1, I2, BO, FI, RG, GU, PU, MA, MN, MS, OT, SC], [256, 192, 320, 384, w, r5, 576, 640, 704], Lg)) o from ev_b 2 e (fun n => Eq.refl _)
          obtain ⟨x5, zh13, zh5⟩ := bnd zh5
          have zh13 : rdx (H 12) 4 v1 = some x5 := zh13
          suffices e : Ev (d + 1, 0, 0, 301, 49, [.val (.ref 64), .val (.int v1), .val (.int v2)], [.int x5, .int x4], (126, 120, L, [Y, T, H2, H, RU, RV, ST, NS, I0, I1, I2, BO, FI, RG, GU, PU, MA, MN, MS, OT, SC], [256, 192, 320, 384, w, r5, 576, 640, 704], Lg)) o from ev_opt (fun x5 => (d + 1, 0, 0, 301, 49, [.val (.ref 64), .val (.int v1), .val (.int v2)], [.int x5, .int x4], (126, 120, L, [Y, T, H2, H, RU, RV, ST, NS, I0, I1, I2, BO, FI, RG, GU, PU, MA, MN, MS, OT, SC], [256, 192, 320, 384, w, r5, 576, 640, 704], Lg))) 3 zh13 e (fun n => Eq.refl _)
          by_cases zc14 : x5 ≤ x4
          · have zh5 := itp zh5 zc14
            suffices e : Ev (d + 1, 0, 0, 301, 54, [.val (.ref 64), .val (.int v1), .val (.int v2)], [], (126, 120, L, [Y, T, H2, H, RU, RV, ST, NS, I0, I1, I2, BO, FI, RG, GU, PU, MA, MN, MS, OT, SC], [256, 192, 320, 384, w, r5, 576, 640, 704], Lg)) o from ev_t (c := x5 ≤ x4) _ _ 1  zc14 e (fun n => Eq.refl _)
            exact ev_b 2 (zi3 _ (Option.some.inj zh5).symm ()) (fun n => Eq.refl _)
          · have zh5 := itn zh5 zc14
            suffices e : Ev (d + 1, 0, 0, 301, 52, [.val (.ref 64), .val (.int v1), .val (.int v2)], [], (126, 120, L, [Y, T, H2, H, RU, RV, ST, NS, I0, I1, I2, BO, FI, RG, GU, PU, MA, MN, MS, OT, SC], [256, 192, 320, 384, w, r5, 576, 640, 704], Lg)) o from ev_f (c := x5 ≤ x4) _ _ 1  zc14 e (fun n => Eq.refl _)
            exact ev_b 4 (zi3 _ (Option.some.inj zh5).symm ()) (fun n => Eq.refl _)
  · skip
    intro s7
    have ze15 := Option.some.inj h
    subst ze15
    exact ev_rete 2 ho (fun n => Eq.refl _)
set_option maxRecDepth 1000000 in
set_option maxHeartbeats 4000000 in
theorem R_f_Y_least_3 (d : Nat) (Y T H2 H RV RU ST NS I0 I1 I2 BO FI RG GU PU MA MN MS OT SC : Nat → Nat → Int32) (w r5 : Nat) (L : Nat) (Lg : Int64) {r : Int32} (h : f_Y_least H NS = some r) : Ev (d + 1, 0, 0, 301, 0, [.val (.ref 64), .val a_unk, .val a_unk], [], (126, 120, L, [Y, T, H2, H, RV, RU, ST, NS, I0, I1, I2, BO, FI, RG, GU, PU, MA, MN, MS, OT, SC], [256, 192, 384, 320, w, r5, 576, 640, 704], Lg)) ((0, some (.int r), (126, 120, L, [Y, T, H2, H, RV, RU, ST, NS, I0, I1, I2, BO, FI, RG, GU, PU, MA, MN, MS, OT, SC], [256, 192, 384, 320, w, r5, 576, 640, 704], Lg)) : AOut) := by
  suffices key : ∀ o : AOut, ((0, some (.int r), (126, 120, L, [Y, T, H2, H, RV, RU, ST, NS, I0, I1, I2, BO, FI, RG, GU, PU, MA, MN, MS, OT, SC], [256, 192, 384, 320, w, r5, 576, 640, 704], Lg)) : AOut) = o → Ev (d + 1, 0, 0, 301, 0, [.val (.ref 64), .val a_unk, .val a_unk], [], (126, 120, L, [Y, T, H2, H, RV, RU, ST, NS, I0, I1, I2, BO, FI, RG, GU, PU, MA, MN, MS, OT, SC], [256, 192, 384, 320, w, r5, 576, 640, 704], Lg)) o from key _ rfl
  intro o ho
  obtain ⟨v6, zh2, h⟩ := bnd h
  suffices e : Ev (d + 1, 0, 0, 301, 4, [.val (.ref 64), .val (.int (-1)), .val (.int 0)], [], (126, 120, L, [Y, T, H2, H, RV, RU, ST, NS, I0, I1, I2, BO, FI, RG, GU, PU, MA, MN, MS, OT, SC], [256, 192, 384, 320, w, r5, 576, 640, 704], Lg)) o from ev_b 4 e (fun n => Eq.refl _)
  refine ev_loop (δ := Unit) (fun a j => (d + 1, 0, 0, 301, 4, [.val (.ref 64), .val (.int a.1), .val (.int a.2)], [], (126, 120, L, [Y, T, H2, H, RV, RU, ST, NS, I0, I1, I2, BO, FI, RG, GU, PU, MA, MN, MS, OT, SC], [256, 192, 384, 320, w, r5, 576, 640, 704], Lg))) (fun b => ∀ s7 : Value, Ev (d + 1, 0, 0, 301, 60, [.val (.ref 64), .val (.int b), .val s7], [], (126, 120, L, [Y, T, H2, H, RV, RU, ST, NS, I0, I1, I2, BO, FI, RG, GU, PU, MA, MN, MS, OT, SC], [256, 192, 384, 320, w, r5, 576, 640, 704], Lg)) o) ?_ a_F ((-1), 0) v6 zh2 ?_ ()
  · rintro ⟨v1, v2⟩ zr6 zh5 zi3 zx4 ⟨⟩
    have zh5 : f_Y_least_l4 H NS v1 v2 = some zr6 := zh5
    suffices e : Ev (d + 1, 0, 0, 301, 9, [.val (.ref 64), .val (.int v1), .val (.int v2)], [.ref 256, .int v2], (126, 120, L, [Y, T, H2, H, RV, RU, ST, NS, I0, I1, I2, BO, FI, RG, GU, PU, MA, MN, MS, OT, SC], [256, 192, 384, 320, w, r5, 576, 640, 704], Lg)) o from ev_b 3 e (fun n => Eq.refl _)
    by_cases zc7 : (H 0 4) ≤ v2
    · have zh5 := itp zh5 zc7
      suffices e : Ev (d + 1, 0, 0, 301, 60, [.val (.ref 64), .val (.int v1), .val (.int v2)], [], (126, 120, L, [Y, T, H2, H, RV, RU, ST, NS, I0, I1, I2, BO, FI, RG, GU, PU, MA, MN, MS, OT, SC], [256, 192, 384, 320, w, r5, 576, 640, 704], Lg)) o from ev_t (c := (H 0 4) ≤ v2) _ _ 2  zc7 e (fun n => Eq.refl _)
      exact ev_b 0 (zx4 _ (Option.some.inj zh5).symm (.int v2)) (fun n => Eq.refl _)
    · have zh5 := itn zh5 zc7
      suffices e : Ev (d + 1, 0, 0, 301, 15, [.val (.ref 64), .val (.int v1), .val (.int v2)], [], (126, 120, L, [Y, T, H2, H, RV, RU, ST, NS, I0, I1, I2, BO, FI, RG, GU, PU, MA, MN, MS, OT, SC], [256, 192, 384, 320, w, r5, 576, 640, 704], Lg)) o from ev_f (c := (H 0 4) ≤ v2) _ _ 2  zc7 e (fun n => Eq.refl _)
      obtain ⟨x3, zh8, zh5⟩ := bnd zh5
      have zh8 : f_State_isHeld NS v2 = some x3 := zh8
      have ze9 := R_f_State_isHeld_0 (d + 0) Y T H2 H RV RU ST NS I0 I1 I2 BO FI RG GU PU MA MN MS OT SC 256 192 384 320 w r5 576 640 704 L Lg v2 zh8
      suffices e : Ev (d + 1, 0, 0, 301, 23, [.val (.ref 64), .val (.int v1), .val (.int v2)], [.int x3], (126, 120, L, [Y, T, H2, H, RV, RU, ST, NS, I0, I1, I2, BO, FI, RG, GU, PU, MA, MN, MS, OT, SC], [256, 192, 384, 320, w, r5, 576, 640, 704], Lg)) o from ev_call (fun v μ => (d + 1, 0, 0, 301, 23, [.val (.ref 64), .val (.int v1), .val (.int v2)], v.toList ++ [], μ)) 4 ze9 e (fun n => Eq.refl _)
      by_cases zc10 : x3 = 0
      · have zh5 := itp zh5 zc10
        suffices e : Ev (d + 1, 0, 0, 301, 54, [.val (.ref 64), .val (.int v1), .val (.int v2)], [], (126, 120, L, [Y, T, H2, H, RV, RU, ST, NS, I0, I1, I2, BO, FI, RG, GU, PU, MA, MN, MS, OT, SC], [256, 192, 384, 320, w, r5, 576, 640, 704], Lg)) o from ev_t (c := x3 = 0) _ _ 1  zc10 e (fun n => Eq.refl _)
        exact ev_b 2 (zi3 _ (Option.some.inj zh5).symm ()) (fun n => Eq.refl _)
      · have zh5 := itn zh5 zc10
        suffices e : Ev (d + 1, 0, 0, 301, 26, [.val (.ref 64), .val (.int v1), .val (.int v2)], [], (126, 120, L, [Y, T, H2, H, RV, RU, ST, NS, I0, I1, I2, BO, FI, RG, GU, PU, MA, MN, MS, OT, SC], [256, 192, 384, 320, w, r5, 576, 640, 704], Lg)) o from ev_f (c := x3 = 0) _ _ 1  zc10 e (fun n => Eq.refl _)
        by_cases zc11 : v1 = (-1)
        · have zh5 := itp zh5 zc11
          suffices e : Ev (d + 1, 0, 0, 301, 52, [.val (.ref 64), .val (.int v1), .val (.int v2)], [], (126, 120, L, [Y, T, H2, H, RV, RU, ST, NS, I0, I1, I2, BO, FI, RG, GU, PU, MA, MN, MS, OT, SC], [256, 192, 384, 320, w, r5, 576, 640, 704], Lg)) o from ev_t (c := v1 = (-1)) _ _ 3  zc11 e (fun n => Eq.refl _)
          exact ev_b 4 (zi3 _ (Option.some.inj zh5).symm ()) (fun n => Eq.refl _)
        · have zh5 := itn zh5 zc11
          suffices e : Ev (d + 1, 0, 0, 301, 31, [.val (.ref 64), .val (.int v1), .val (.int v2)], [], (126, 120, L, [Y, T, H2, H, RV, RU, ST, NS, I0, I1, I2, BO, FI, RG, GU, PU, MA, MN, MS, OT, SC], [256, 192, 384, 320, w, r5, 576, 640, 704], Lg)) o from ev_f (c := v1 = (-1)) _ _ 3  zc11 e (fun n => Eq.refl _)
          suffices e : Ev (d + 1, 0, 0, 301, 35, [.val (.ref 64), .val (.int v1), .val (.int v2)], [.ref 256], (126, 120, L, [Y, T, H2, H, RV, RU, ST, NS, I0, I1, I2, BO, FI, RG, GU, PU, MA, MN, MS, OT, SC], [256, 192, 384, 320, w, r5, 576, 640, 704], Lg)) o from ev_b 2 e (fun n => Eq.refl _)
          obtain ⟨x4, zh12, zh5⟩ := bnd zh5
          have zh12 : rdx (H 12) 4 v2 = some x4 := zh12
          suffices e : Ev (d + 1, 0, 0, 301, 40, [.val (.ref 64), .val (.int v1), .val (.int v2)], [.int x4], (126, 120, L, [Y, T, H2, H, RV, RU, ST, NS, I0, I1, I2, BO, FI, RG, GU, PU, MA, MN, MS, OT, SC], [256, 192, 384, 320, w, r5, 576, 640, 704], Lg)) o from ev_opt (fun x4 => (d + 1, 0, 0, 301, 40, [.val (.ref 64), .val (.int v1), .val (.int v2)], [.int x4], (126, 120, L, [Y, T, H2, H, RV, RU, ST, NS, I0, I1, I2, BO, FI, RG, GU, PU, MA, MN, MS, OT, SC], [256, 192, 384, 320, w, r5, 576, 640, 704], Lg))) 3 zh12 e (fun n => Eq.refl _)
          suffices e : Ev (d + 1, 0, 0, 301, 44, [.val (.ref 64), .val (.int v1), .val (.int v2)], [.ref 256, .int x4], (126, 120, L, [Y, T, H2, H, RV, RU, ST, NS, I0, I1, I2, BO, FI, RG, GU, PU, MA, MN, MS, OT, SC], [256, 192, 384, 320, w, r5, 576, 640, 704], Lg)) o from ev_b 2 e (fun n => Eq.refl _)
          obtain ⟨x5, zh13, zh5⟩ := bnd zh5
          have zh13 : rdx (H 12) 4 v1 = some x5 := zh13
          suffices e : Ev (d + 1, 0, 0, 301, 49, [.val (.ref 64), .val (.int v1), .val (.int v2)], [.int x5, .int x4], (126, 120, L, [Y, T, H2, H, RV, RU, ST, NS, I0, I1, I2, BO, FI, RG, GU, PU, MA, MN, MS, OT, SC], [256, 192, 384, 320, w, r5, 576, 640, 704], Lg)) o from ev_opt (fun x5 => (d + 1, 0, 0, 301, 49, [.val (.ref 64), .val (.int v1), .val (.int v2)], [.int x5, .int x4], (126, 120, L, [Y, T, H2, H, RV, RU, ST, NS, I0, I1, I2, BO, FI, RG, GU, PU, MA, MN, MS, OT, SC], [256, 192, 384, 320, w, r5, 576, 640, 704], Lg))) 3 zh13 e (fun n => Eq.refl _)
          by_cases zc14 : x5 ≤ x4
          · have zh5 := itp zh5 zc14
            suffices e : Ev (d + 1, 0, 0, 301, 54, [.val (.ref 64), .val (.int v1), .val (.int v2)], [], (126, 120, L, [Y, T, H2, H, RV, RU, ST, NS, I0, I1, I2, BO, FI, RG, GU, PU, MA, MN, MS, OT, SC], [256, 192, 384, 320, w, r5, 576, 640, 704], Lg)) o from ev_t (c := x5 ≤ x4) _ _ 1  zc14 e (fun n => Eq.refl _)
            exact ev_b 2 (zi3 _ (Option.some.inj zh5).symm ()) (fun n => Eq.refl _)
          · have zh5 := itn zh5 zc14
            suffices e : Ev (d + 1, 0, 0, 301, 52, [.val (.ref 64), .val (.int v1), .val (.int v2)], [], (126, 120, L, [Y, T, H2, H, RV, RU, ST, NS, I0, I1, I2, BO, FI, RG, GU, PU, MA, MN, MS, OT, SC], [256, 192, 384, 320, w, r5, 576, 640, 704], Lg)) o from ev_f (c := x5 ≤ x4) _ _ 1  zc14 e (fun n => Eq.refl _)
            exact ev_b 4 (zi3 _ (Option.some.inj zh5).symm ()) (fun n => Eq.refl _)
  · skip
    intro s7
    have ze15 := Option.some.inj h
    subst ze15
    exact ev_rete 2 ho (fun n => Eq.refl _)
set_option maxRecDepth 1000000 in
set_option maxHeartbeats 4000000 in
theorem R_f_Board_inWay_0 (d : Nat) (Y T H H2 RA RB ST NS I0 I1 I2 BO FI RG GU PU MA MN MS OT SC : Nat → Nat → Int32) (r0 r1 r2 r3 w r6 r7 r8 : Nat) (L : Nat) (Lg : Int64) (p1 : Int32) (p2 : Int32) {r : Int32} (h : f_Board_inWay H BO p1 p2 = some r) : Ev (d + 2, 0, 0, 162, 0, [.val (.ref 768), .val (.int p1), .val (.int p2), .val a_unk], [], (126, 120, L, [Y, T, H, H2, RA, RB, ST, NS, I0, I1, I2, BO, FI, RG, GU, PU, MA, MN, MS, OT, SC], [r0, r1, r2, r3, w, 192, r6, r7, r8], Lg)) ((0, some (.int r), (126, 120, L, [Y, T, H, H2, RA, RB, ST, NS, I0, I1, I2, BO, FI, RG, GU, PU, MA, MN, MS, OT, SC], [r0, r1, r2, r3, w, 192, r6, r7, r8], Lg)) : AOut) := by
  suffices key : ∀ o : AOut, ((0, some (.int r), (126, 120, L, [Y, T, H, H2, RA, RB, ST, NS, I0, I1, I2, BO, FI, RG, GU, PU, MA, MN, MS, OT, SC], [r0, r1, r2, r3, w, 192, r6, r7, r8], Lg)) : AOut) = o → Ev (d + 2, 0, 0, 162, 0, [.val (.ref 768), .val (.int p1), .val (.int p2), .val a_unk], [], (126, 120, L, [Y, T, H, H2, RA, RB, ST, NS, I0, I1, I2, BO, FI, RG, GU, PU, MA, MN, MS, OT, SC], [r0, r1, r2, r3, w, 192, r6, r7, r8], Lg)) o from key _ rfl
  intro o ho
  obtain ⟨x1, zh1, h⟩ := bnd h
  have zh1 : f_Board_othersThere H BO p1 p2 = some x1 := zh1
  have ze2 := R_f_Board_othersThere_0 (d + 0) Y T H H2 RA RB ST NS I0 I1 I2 BO FI RG GU PU MA MN MS OT SC r0 r1 r2 r3 w r6 r7 r8 L Lg p1 p2 zh1
  suffices e : Ev (d + 2, 0, 0, 162, 6, [.val (.ref 768), .val (.int p1), .val (.int p2), .val a_unk], [.int x1], (126, 120, L, [Y, T, H, H2, RA, RB, ST, NS, I0, I1, I2, BO, FI, RG, GU, PU, MA, MN, MS, OT, SC], [r0, r1, r2, r3, w, 192, r6, r7, r8], Lg)) o from ev_call (fun v μ => (d + 2, 0, 0, 162, 6, [.val (.ref 768), .val (.int p1), .val (.int p2), .val a_unk], v.toList ++ [], μ)) 4 ze2 e (fun n => Eq.refl _)
  have ze3 := Option.some.inj h
  subst ze3
  exact ev_rete 9 ho (fun n => Eq.refl _)
set_option maxRecDepth 1000000 in
set_option maxHeartbeats 4000000 in
theorem R_f_Fitter_collectRubs_0 (d : Nat) (Y T H H2 RA RB ST NS I0 I1 I2 BO FI RG GU PU MA MN MS OT SC : Nat → Nat → Int32) (r0 r1 r2 r3 w r6 r7 r8 : Nat) (L : Nat) (Lg : Int64) {r : (Nat → Nat → Int32)} (h : f_Fitter_collectRubs H BO FI = some r) : Ev (d + 3, 0, 0, 179, 0, [.val (.ref 832), .val a_unk, .val a_unk], [], (126, 120, L, [Y, T, H, H2, RA, RB, ST, NS, I0, I1, I2, BO, FI, RG, GU, PU, MA, MN, MS, OT, SC], [r0, r1, r2, r3, w, 192, r6, r7, r8], Lg)) ((0, none, (126, 120, L, [Y, T, H, H2, RA, RB, ST, NS, I0, I1, I2, BO, r, RG, GU, PU, MA, MN, MS, OT, SC], [r0, r1, r2, r3, w, 192, r6, r7, r8], Lg)) : AOut) := by
  suffices key : ∀ o : AOut, ((0, none, (126, 120, L, [Y, T, H, H2, RA, RB, ST, NS, I0, I1, I2, BO, r, RG, GU, PU, MA, MN, MS, OT, SC], [r0, r1, r2, r3, w, 192, r6, r7, r8], Lg)) : AOut) = o → Ev (d + 3, 0, 0, 179, 0, [.val (.ref 832), .val a_unk, .val a_unk], [], (126, 120, L, [Y, T, H, H2, RA, RB, ST, NS, I0, I1, I2, BO, FI, RG, GU, PU, MA, MN, MS, OT, SC], [r0, r1, r2, r3, w, 192, r6, r7, r8], Lg)) o from key _ rfl
  intro o ho
  obtain ⟨FI_12, zh2, h⟩ := bnd h
  suffices e : Ev (d + 3, 0, 0, 179, 7, [.val (.ref 832), .val (.int 0), .val a_unk], [], (126, 120, L, [Y, T, H, H2, RA, RB, ST, NS, I0, I1, I2, BO, (u2 FI 0 4 0), RG, GU, PU, MA, MN, MS, OT, SC], [r0, r1, r2, r3, w, 192, r6, r7, r8], Lg)) o from ev_b 5 e (fun n => Eq.refl _)
  refine ev_loop (δ := Value) (fun a j => (d + 3, 0, 0, 179, 7, [.val (.ref 832), .val (.int a.1), .val j], [], (126, 120, L, [Y, T, H, H2, RA, RB, ST, NS, I0, I1, I2, BO, a.2, RG, GU, PU, MA, MN, MS, OT, SC], [r0, r1, r2, r3, w, 192, r6, r7, r8], Lg))) (fun b => ∀ s10 : Value, ∀ s11 : Value, Ev (d + 3, 0, 0, 179, 99, [.val (.ref 832), .val s10, .val s11], [], (126, 120, L, [Y, T, H, H2, RA, RB, ST, NS, I0, I1, I2, BO, b, RG, GU, PU, MA, MN, MS, OT, SC], [r0, r1, r2, r3, w, 192, r6, r7, r8], Lg)) o) ?_ a_F (0, (u2 FI 0 4 0)) FI_12 zh2 ?_ a_unk
  · rintro ⟨v1, FI_3⟩ zr6 zh5 zi3 zx4 s2
    have zh5 : f_Fitter_collectRubs_l7 H BO v1 FI_3 = some zr6 := zh5
    suffices e : Ev (d + 3, 0, 0, 179, 15, [.val (.ref 832), .val (.int v1), .val s2], [.ref 192, .int v1], (126, 120, L, [Y, T, H, H2, RA, RB, ST, NS, I0, I1, I2, BO, FI_3, RG, GU, PU, MA, MN, MS, OT, SC], [r0, r1, r2, r3, w, 192, r6, r7, r8], Lg)) o from ev_b 4 e (fun n => Eq.refl _)
    by_cases zc7 : (H 0 3) ≤ v1
    · have zh5 := itp zh5 zc7
      suffices e : Ev (d + 3, 0, 0, 179, 99, [.val (.ref 832), .val (.int v1), .val s2], [], (126, 120, L, [Y, T, H, H2, RA, RB, ST, NS, I0, I1, I2, BO, FI_3, RG, GU, PU, MA, MN, MS, OT, SC], [r0, r1, r2, r3, w, 192, r6, r7, r8], Lg)) o from ev_t (c := (H 0 3) ≤ v1) _ _ 2  zc7 e (fun n => Eq.refl _)
      exact ev_b 0 (zx4 _ (Option.some.inj zh5).symm (.int v1) s2) (fun n => Eq.refl _)
    · have zh5 := itn zh5 zc7
      suffices e : Ev (d + 3, 0, 0, 179, 21, [.val (.ref 832), .val (.int v1), .val s2], [], (126, 120, L, [Y, T, H, H2, RA, RB, ST, NS, I0, I1, I2, BO, FI_3, RG, GU, PU, MA, MN, MS, OT, SC], [r0, r1, r2, r3, w, 192, r6, r7, r8], Lg)) o from ev_f (c := (H 0 3) ≤ v1) _ _ 2  zc7 e (fun n => Eq.refl _)
      obtain ⟨x4, zh8, zh5⟩ := bnd zh5
      have zh8 : rdx (BO 1) 10 v1 = some x4 := zh8
      suffices e : Ev (d + 3, 0, 0, 179, 30, [.val (.ref 832), .val (.int v1), .val s2], [.int x4], (126, 120, L, [Y, T, H, H2, RA, RB, ST, NS, I0, I1, I2, BO, FI_3, RG, GU, PU, MA, MN, MS, OT, SC], [r0, r1, r2, r3, w, 192, r6, r7, r8], Lg)) o from ev_opt (fun x4 => (d + 3, 0, 0, 179, 30, [.val (.ref 832), .val (.int v1), .val s2], [.int x4], (126, 120, L, [Y, T, H, H2, RA, RB, ST, NS, I0, I1, I2, BO, FI_3, RG, GU, PU, MA, MN, MS, OT, SC], [r0, r1, r2, r3, w, 192, r6, r7, r8], Lg))) 5 zh8 e (fun n => Eq.refl _)
      obtain ⟨j5, zh9, zh5⟩ := bnd zh5
      have zh9 : ixx 10 v1 = some j5 := zh9
      suffices e : Ev (d + 3, 0, 0, 179, 38, [.val (.ref 832), .val (.int v1), .val (.int x4)], [], (126, 120, L, [Y, T, H, H2, RA, RB, ST, NS, I0, I1, I2, BO, (u2 FI_3 3 j5 0), RG, GU, PU, MA, MN, MS, OT, SC], [r0, r1, r2, r3, w, 192, r6, r7, r8], Lg)) o from ev_opt (fun j5 => (d + 3, 0, 0, 179, 38, [.val (.ref 832), .val (.int v1), .val (.int x4)], [], (126, 120, L, [Y, T, H, H2, RA, RB, ST, NS, I0, I1, I2, BO, (u2 FI_3 3 j5 0), RG, GU, PU, MA, MN, MS, OT, SC], [r0, r1, r2, r3, w, 192, r6, r7, r8], Lg))) 6 zh9 e (fun n => Eq.refl _)
      by_cases zc10 : x4 = (-1)
      · have zh5 := itp zh5 zc10
        suffices e : Ev (d + 3, 0, 0, 179, 93, [.val (.ref 832), .val (.int v1), .val (.int x4)], [], (126, 120, L, [Y, T, H, H2, RA, RB, ST, NS, I0, I1, I2, BO, (u2 FI_3 3 j5 0), RG, GU, PU, MA, MN, MS, OT, SC], [r0, r1, r2, r3, w, 192, r6, r7, r8], Lg)) o from ev_t (c := x4 = (-1)) _ _ 3  zc10 e (fun n => Eq.refl _)
        exact ev_b 2 (zi3 _ (Option.some.inj zh5).symm (.int x4)) (fun n => Eq.refl _)
      · have zh5 := itn zh5 zc10
        suffices e : Ev (d + 3, 0, 0, 179, 43, [.val (.ref 832), .val (.int v1), .val (.int x4)], [], (126, 120, L, [Y, T, H, H2, RA, RB, ST, NS, I0, I1, I2, BO, (u2 FI_3 3 j5 0), RG, GU, PU, MA, MN, MS, OT, SC], [r0, r1, r2, r3, w, 192, r6, r7, r8], Lg)) o from ev_f (c := x4 = (-1)) _ _ 3  zc10 e (fun n => Eq.refl _)
        obtain ⟨x6, zh11, zh5⟩ := bnd zh5
        have zh11 : f_Board_inWay H BO v1 x4 = some x6 := zh11
        have ze12 := R_f_Board_inWay_0 (d + 0) Y T H H2 RA RB ST NS I0 I1 I2 BO (u2 FI_3 3 j5 0) RG GU PU MA MN MS OT SC r0 r1 r2 r3 w r6 r7 r8 L Lg v1 x4 zh11
        suffices e : Ev (d + 3, 0, 0, 179, 57, [.val (.ref 832), .val (.int v1), .val (.int x4)], [.int x6, .int v1, .ref 835], (126, 120, L, [Y, T, H, H2, RA, RB, ST, NS, I0, I1, I2, BO, (u2 FI_3 3 j5 0), RG, GU, PU, MA, MN, MS, OT, SC], [r0, r1, r2, r3, w, 192, r6, r7, r8], Lg)) o from ev_call (fun v μ => (d + 3, 0, 0, 179, 57, [.val (.ref 832), .val (.int v1), .val (.int x4)], v.toList ++ [.int v1, .ref 835], μ)) 8 ze12 e (fun n => Eq.refl _)
        obtain ⟨j7, zh13, zh5⟩ := bnd zh5
        have zh13 : ixx 10 v1 = some j7 := zh13
        suffices e : Ev (d + 3, 0, 0, 179, 58, [.val (.ref 832), .val (.int v1), .val (.int x4)], [], (126, 120, L, [Y, T, H, H2, RA, RB, ST, NS, I0, I1, I2, BO, (u2 (u2 FI_3 3 j5 0) 3 j7 x6), RG, GU, PU, MA, MN, MS, OT, SC], [r0, r1, r2, r3, w, 192, r6, r7, r8], Lg)) o from ev_opt (fun j7 => (d + 3, 0, 0, 179, 58, [.val (.ref 832), .val (.int v1), .val (.int x4)], [], (126, 120, L, [Y, T, H, H2, RA, RB, ST, NS, I0, I1, I2, BO, (u2 (u2 FI_3 3 j5 0) 3 j7 x6), RG, GU, PU, MA, MN, MS, OT, SC], [r0, r1, r2, r3, w, 192, r6, r7, r8], Lg))) 1 zh13 e (fun n => Eq.refl _)
        obtain ⟨x8, zh14, zh5⟩ := bnd zh5
        have zh14 : f_Board_isHeldPlace BO x4 = some x8 := zh14
        have ze15 := R_f_Board_isHeldPlace_0 (d + 1) Y T H H2 RA RB ST NS I0 I1 I2 BO (u2 (u2 FI_3 3 j5 0) 3 j7 x6) RG GU PU MA MN MS OT SC r0 r1 r2 r3 w r6 r7 r8 L Lg x4 zh14
        suffices e : Ev (d + 3, 0, 0, 179, 66, [.val (.ref 832), .val (.int v1), .val (.int x4)], [.int x8], (126, 120, L, [Y, T, H, H2, RA, RB, ST, NS, I0, I1, I2, BO, (u2 (u2 FI_3 3 j5 0) 3 j7 x6), RG, GU, PU, MA, MN, MS, OT, SC], [r0, r1, r2, r3, w, 192, r6, r7, r8], Lg)) o from ev_call (fun v μ => (d + 3, 0, 0, 179, 66, [.val (.ref 832), .val (.int v1), .val (.int x4)], v.toList ++ [], μ)) 4 ze15 e (fun n => Eq.refl _)
        obtain ⟨zt16, zh17, zh5⟩ := bnd zh5
        have zj18 : zt16 = .inl () → Ev (d + 3, 0, 0, 179, 81, [.val (.ref 832), .val (.int v1), .val (.int x4)], [], (126, 120, L, [Y, T, H, H2, RA, RB, ST, NS, I0, I1, I2, BO, (u2 (u2 FI_3 3 j5 0) 3 j7 x6), RG, GU, PU, MA, MN, MS, OT, SC], [r0, r1, r2, r3, w, 192, r6, r7, r8], Lg)) o := by
          intro ze19
          have zh5 := sum_l zh5 ze19
          exact ev_b 10 (zi3 _ (Option.some.inj zh5).symm (.int x4)) (fun n => Eq.refl _)
        by_cases zc20 : x8 ≠ 0
        · have zh17 := itp zh17 zc20
          suffices e : Ev (d + 3, 0, 0, 179, 81, [.val (.ref 832), .val (.int v1), .val (.int x4)], [], (126, 120, L, [Y, T, H, H2, RA, RB, ST, NS, I0, I1, I2, BO, (u2 (u2 FI_3 3 j5 0) 3 j7 x6), RG, GU, PU, MA, MN, MS, OT, SC], [r0, r1, r2, r3, w, 192, r6, r7, r8], Lg)) o from ev_t (c := x8 ≠ 0) _ _ 1  zc20 e (fun n => Eq.refl _)
          exact ev_b 0 (zj18  (Option.some.inj zh17).symm ) (fun n => Eq.refl _)
        · have zh17 := itn zh17 zc20
          suffices e : Ev (d + 3, 0, 0, 179, 69, [.val (.ref 832), .val (.int v1), .val (.int x4)], [], (126, 120, L, [Y, T, H, H2, RA, RB, ST, NS, I0, I1, I2, BO, (u2 (u2 FI_3 3 j5 0) 3 j7 x6), RG, GU, PU, MA, MN, MS, OT, SC], [r0, r1, r2, r3, w, 192, r6, r7, r8], Lg)) o from ev_f (c := x8 ≠ 0) _ _ 1  zc20 e (fun n => Eq.refl _)
          obtain ⟨x9, zh21, zh17⟩ := bnd zh17
          have zh21 : f_Board_lastingClashes H v1 x4 = some x9 := zh21
          have ze22 := R_f_Board_lastingClashes_0 (d + 1) Y T H H2 RA RB ST NS I0 I1 I2 BO (u2 (u2 FI_3 3 j5 0) 3 j7 x6) RG GU PU MA MN MS OT SC r0 r1 r2 r3 w r6 r7 r8 L Lg v1 x4 zh21
          suffices e : Ev (d + 3, 0, 0, 179, 78, [.val (.ref 832), .val (.int v1), .val (.int x4)], [.int x9], (126, 120, L, [Y, T, H, H2, RA, RB, ST, NS, I0, I1, I2, BO, (u2 (u2 FI_3 3 j5 0) 3 j7 x6), RG, GU, PU, MA, MN, MS, OT, SC], [r0, r1, r2, r3, w, 192, r6, r7, r8], Lg)) o from ev_call (fun v μ => (d + 3, 0, 0, 179, 78, [.val (.ref 832), .val (.int v1), .val (.int x4)], v.toList ++ [], μ)) 5 ze22 e (fun n => Eq.refl _)
          by_cases zc23 : x9 = 0
          · have zh17 := itp zh17 zc23
            suffices e : Ev (d + 3, 0, 0, 179, 93, [.val (.ref 832), .val (.int v1), .val (.int x4)], [], (126, 120, L, [Y, T, H, H2, RA, RB, ST, NS, I0, I1, I2, BO, (u2 (u2 FI_3 3 j5 0) 3 j7 x6), RG, GU, PU, MA, MN, MS, OT, SC], [r0, r1, r2, r3, w, 192, r6, r7, r8], Lg)) o from ev_t (c := x9 = 0) _ _ 1  zc23 e (fun n => Eq.refl _)
            have zh24 := sum_r zh5 (Option.some.inj zh17).symm
            exact ev_b 2 (zi3 _ (Option.some.inj zh24).symm (.int x4)) (fun n => Eq.refl _)
          · have zh17 := itn zh17 zc23
            suffices e : Ev (d + 3, 0, 0, 179, 81, [.val (.ref 832), .val (.int v1), .val (.int x4)], [], (126, 120, L, [Y, T, H, H2, RA, RB, ST, NS, I0, I1, I2, BO, (u2 (u2 FI_3 3 j5 0) 3 j7 x6), RG, GU, PU, MA, MN, MS, OT, SC], [r0, r1, r2, r3, w, 192, r6, r7, r8], Lg)) o from ev_f (c := x9 = 0) _ _ 1  zc23 e (fun n => Eq.refl _)
            exact ev_b 0 (zj18  (Option.some.inj zh17).symm ) (fun n => Eq.refl _)
  · skip
    intro s10 s11
    have ze25 := Option.some.inj h
    subst ze25
    exact ev_rete 1 ho (fun n => Eq.refl _)
set_option maxRecDepth 1000000 in
set_option maxHeartbeats 4000000 in
theorem R_f_Fitter_restIsLawful_0 (d : Nat) (Y T H H2 RA RB ST NS I0 I1 I2 BO FI RG GU PU MA MN MS OT SC : Nat → Nat → Int32) (r0 r1 r2 r3 w r6 r7 r8 : Nat) (L : Nat) (Lg : Int64) (p1 : Int32) {r : Int32} (h : f_Fitter_restIsLawful H FI p1 = some r) : Ev (d + 0, 0, 0, 180, 0, [.val (.ref 832), .val (.int p1), .val a_unk], [], (126, 120, L, [Y, T, H, H2, RA, RB, ST, NS, I0, I1, I2, BO, FI, RG, GU, PU, MA, MN, MS, OT, SC], [r0, r1, r2, r3, w, 192, r6, r7, r8], Lg)) ((0, some (.int r), (126, 120, L, [Y, T, H, H2, RA, RB, ST, NS, I0, I1, I2, BO, FI, RG, GU, PU, MA, MN, MS, OT, SC], [r0, r1, r2, r3, w, 192, r6, r7, r8], Lg)) : AOut) := by
  suffices key : ∀ o : AOut, ((0, some (.int r), (126, 120, L, [Y, T, H, H2, RA, RB, ST, NS, I0, I1, I2, BO, FI, RG, GU, PU, MA, MN, MS, OT, SC], [r0, r1, r2, r3, w, 192, r6, r7, r8], Lg)) : AOut) = o → Ev (d + 0, 0, 0, 180, 0, [.val (.ref 832), .val (.int p1), .val a_unk], [], (126, 120, L, [Y, T, H, H2, RA, RB, ST, NS, I0, I1, I2, BO, FI, RG, GU, PU, MA, MN, MS, OT, SC], [r0, r1, r2, r3, w, 192, r6, r7, r8], Lg)) o from key _ rfl
  intro o ho
  by_cases zc1 : ((FI 0 4) &&& p1) = 0
  · have h := itp h zc1
    suffices e : Ev (d + 0, 0, 0, 180, 11, [.val (.ref 832), .val (.int p1), .val a_unk], [], (126, 120, L, [Y, T, H, H2, RA, RB, ST, NS, I0, I1, I2, BO, FI, RG, GU, PU, MA, MN, MS, OT, SC], [r0, r1, r2, r3, w, 192, r6, r7, r8], Lg)) o from ev_t (c := ((FI 0 4) &&& p1) = 0) _ _ 5  zc1 e (fun n => Eq.refl _)
    obtain ⟨zb2, zh3, h⟩ := bnd h
    suffices e : Ev (d + 0, 0, 0, 180, 13, [.val (.ref 832), .val (.int p1), .val (.int 0)], [], (126, 120, L, [Y, T, H, H2, RA, RB, ST, NS, I0, I1, I2, BO, FI, RG, GU, PU, MA, MN, MS, OT, SC], [r0, r1, r2, r3, w, 192, r6, r7, r8], Lg)) o from ev_b 2 e (fun n => Eq.refl _)
    refine ev_loop (δ := Unit) (fun a j => (d + 0, 0, 0, 180, 13, [.val (.ref 832), .val (.int p1), .val (.int a)], [], (126, 120, L, [Y, T, H, H2, RA, RB, ST, NS, I0, I1, I2, BO, FI, RG, GU, PU, MA, MN, MS, OT, SC], [r0, r1, r2, r3, w, 192, r6, r7, r8], Lg))) (fun b => sumE b (fun b => ∀ s3 : Value, Ev (d + 0, 0, 0, 180, 54, [.val (.ref 832), .val (.int p1), .val s3], [], (126, 120, L, [Y, T, H, H2, RA, RB, ST, NS, I0, I1, I2, BO, FI, RG, GU, PU, MA, MN, MS, OT, SC], [r0, r1, r2, r3, w, 192, r6, r7, r8], Lg)) o) (fun b => ((0, some (.int b), (126, 120, L, [Y, T, H, H2, RA, RB, ST, NS, I0, I1, I2, BO, FI, RG, GU, PU, MA, MN, MS, OT, SC], [r0, r1, r2, r3, w, 192, r6, r7, r8], Lg)) : AOut) = o)) ?_ a_F 0 zb2 zh3 ?_ ()
    · rintro v1 zr7 zh6 zi4 zx5 ⟨⟩
      have zh6 : f_Fitter_restIsLawful_l13 H FI p1 v1 = some zr7 := zh6
      suffices e : Ev (d + 0, 0, 0, 180, 21, [.val (.ref 832), .val (.int p1), .val (.int v1)], [.ref 192, .int v1], (126, 120, L, [Y, T, H, H2, RA, RB, ST, NS, I0, I1, I2, BO, FI, RG, GU, PU, MA, MN, MS, OT, SC], [r0, r1, r2, r3, w, 192, r6, r7, r8], Lg)) o from ev_b 4 e (fun n => Eq.refl _)
      by_cases zc8 : (H 0 3) ≤ v1
      · have zh6 := itp zh6 zc8
        suffices e : Ev (d + 0, 0, 0, 180, 54, [.val (.ref 832), .val (.int p1), .val (.int v1)], [], (126, 120, L, [Y, T, H, H2, RA, RB, ST, NS, I0, I1, I2, BO, FI, RG, GU, PU, MA, MN, MS, OT, SC], [r0, r1, r2, r3, w, 192, r6, r7, r8], Lg)) o from ev_t (c := (H 0 3) ≤ v1) _ _ 2  zc8 e (fun n => Eq.refl _)
        exact ev_b 0 (zx5 _ (Option.some.inj zh6).symm (.int v1)) (fun n => Eq.refl _)
      · have zh6 := itn zh6 zc8
        suffices e : Ev (d + 0, 0, 0, 180, 27, [.val (.ref 832), .val (.int p1), .val (.int v1)], [], (126, 120, L, [Y, T, H, H2, RA, RB, ST, NS, I0, I1, I2, BO, FI, RG, GU, PU, MA, MN, MS, OT, SC], [r0, r1, r2, r3, w, 192, r6, r7, r8], Lg)) o from ev_f (c := (H 0 3) ≤ v1) _ _ 2  zc8 e (fun n => Eq.refl _)
        by_cases zc9 : ((a_shr p1 v1) &&& 1) = 0
        · have zh6 := itp zh6 zc9
          suffices e : Ev (d + 0, 0, 0, 180, 48, [.val (.ref 832), .val (.int p1), .val (.int v1)], [], (126, 120, L, [Y, T, H, H2, RA, RB, ST, NS, I0, I1, I2, BO, FI, RG, GU, PU, MA, MN, MS, OT, SC], [r0, r1, r2, r3, w, 192, r6, r7, r8], Lg)) o from ev_t (c := ((a_shr p1 v1) &&& 1) = 0) _ _ 6  zc9 e (fun n => Eq.refl _)
          exact ev_b 2 (zi4 _ (Option.some.inj zh6).symm ()) (fun n => Eq.refl _)
        · have zh6 := itn zh6 zc9
          suffices e : Ev (d + 0, 0, 0, 180, 35, [.val (.ref 832), .val (.int p1), .val (.int v1)], [], (126, 120, L, [Y, T, H, H2, RA, RB, ST, NS, I0, I1, I2, BO, FI, RG, GU, PU, MA, MN, MS, OT, SC], [r0, r1, r2, r3, w, 192, r6, r7, r8], Lg)) o from ev_f (c := ((a_shr p1 v1) &&& 1) = 0) _ _ 6  zc9 e (fun n => Eq.refl _)
          obtain ⟨x2, zh10, zh6⟩ := bnd zh6
          have zh10 : rdx (FI 3) 10 v1 = some x2 := zh10
          suffices e : Ev (d + 0, 0, 0, 180, 41, [.val (.ref 832), .val (.int p1), .val (.int v1)], [.int x2], (126, 120, L, [Y, T, H, H2, RA, RB, ST, NS, I0, I1, I2, BO, FI, RG, GU, PU, MA, MN, MS, OT, SC], [r0, r1, r2, r3, w, 192, r6, r7, r8], Lg)) o from ev_opt (fun x2 => (d + 0, 0, 0, 180, 41, [.val (.ref 832), .val (.int p1), .val (.int v1)], [.int x2], (126, 120, L, [Y, T, H, H2, RA, RB, ST, NS, I0, I1, I2, BO, FI, RG, GU, PU, MA, MN, MS, OT, SC], [r0, r1, r2, r3, w, 192, r6, r7, r8], Lg))) 4 zh10 e (fun n => Eq.refl _)
          by_cases zc11 : (x2 &&& p1) = 0
          · have zh6 := itp zh6 zc11
            suffices e : Ev (d + 0, 0, 0, 180, 48, [.val (.ref 832), .val (.int p1), .val (.int v1)], [], (126, 120, L, [Y, T, H, H2, RA, RB, ST, NS, I0, I1, I2, BO, FI, RG, GU, PU, MA, MN, MS, OT, SC], [r0, r1, r2, r3, w, 192, r6, r7, r8], Lg)) o from ev_t (c := (x2 &&& p1) = 0) _ _ 3  zc11 e (fun n => Eq.refl _)
            exact ev_b 2 (zi4 _ (Option.some.inj zh6).symm ()) (fun n => Eq.refl _)
          · have zh6 := itn zh6 zc11
            suffices e : Ev (d + 0, 0, 0, 180, 46, [.val (.ref 832), .val (.int p1), .val (.int v1)], [], (126, 120, L, [Y, T, H, H2, RA, RB, ST, NS, I0, I1, I2, BO, FI, RG, GU, PU, MA, MN, MS, OT, SC], [r0, r1, r2, r3, w, 192, r6, r7, r8], Lg)) o from ev_f (c := (x2 &&& p1) = 0) _ _ 3  zc11 e (fun n => Eq.refl _)
            exact ev_rete 2 (zx5 _ (Option.some.inj zh6).symm) (fun n => Eq.refl _)
    · rcases zb2 with ⟨⟩ | zr7
      · intro s3
        have ze12 := Option.some.inj h
        subst ze12
        exact ev_rete 2 ho (fun n => Eq.refl _)
      · have zh13 : some zr7 = some r := h
        exact (congrArg (fun q => ((0, some (.int q), (126, 120, L, [Y, T, H, H2, RA, RB, ST, NS, I0, I1, I2, BO, FI, RG, GU, PU, MA, MN, MS, OT, SC], [r0, r1, r2, r3, w, 192, r6, r7, r8], Lg)) : AOut)) (Option.some.inj zh13)).trans ho
  · have h := itn h zc1
    suffices e : Ev (d + 0, 0, 0, 180, 9, [.val (.ref 832), .val (.int p1), .val a_unk], [], (126, 120, L, [Y, T, H, H2, RA, RB, ST, NS, I0, I1, I2, BO, FI, RG, GU, PU, MA, MN, MS, OT, SC], [r0, r1, r2, r3, w, 192, r6, r7, r8], Lg)) o from ev_f (c := ((FI 0 4) &&& p1) = 0) _ _ 5  zc1 e (fun n => Eq.refl _)
    have ze15 := Option.some.inj h
    subst ze15
    exact ev_rete 2 ho (fun n => Eq.refl _)
set_option maxRecDepth 1000000 in
set_option maxHeartbeats 4000000 in
theorem R_f_Fitter_listOthers_0 (d : Nat) (Y T H H2 RA RB ST NS I0 I1 I2 BO FI RG GU PU MA MN MS OT SC : Nat → Nat → Int32) (r0 r1 r2 r3 w r6 r7 r8 : Nat) (L : Nat) (Lg : Int64) (p1 : Int32) {r : (Nat → Nat → Int32)} (h : f_Fitter_listOthers H FI p1 = some r) : Ev (d + 0, 0, 0, 182, 0, [.val (.ref 832), .val (.int p1), .val a_unk], [], (126, 120, L, [Y, T, H, H2, RA, RB, ST, NS, I0, I1, I2, BO, FI, RG, GU, PU, MA, MN, MS, OT, SC], [r0, r1, r2, r3, w, 192, r6, r7, r8], Lg)) ((0, none, (126, 120, L, [Y, T, H, H2, RA, RB, ST, NS, I0, I1, I2, BO, r, RG, GU, PU, MA, MN, MS, OT, SC], [r0, r1, r2, r3, w, 192, r6, r7, r8], Lg)) : AOut) := by
  suffices key : ∀ o : AOut, ((0, none, (126, 120, L, [Y, T, H, H2, RA, RB, ST, NS, I0, I1, I2, BO, r, RG, GU, PU, MA, MN, MS, OT, SC], [r0, r1, r2, r3, w, 192, r6, r7, r8], Lg)) : AOut) = o → Ev (d + 0, 0, 0, 182, 0, [.val (.ref 832), .val (.int p1), .val a_unk], [], (126, 120, L, [Y, T, H, H2, RA, RB, ST, NS, I0, I1, I2, BO, FI, RG, GU, PU, MA, MN, MS, OT, SC], [r0, r1, r2, r3, w, 192, r6, r7, r8], Lg)) o from key _ rfl
  intro o ho
  obtain ⟨FI_5, zh2, h⟩ := bnd h
  suffices e : Ev (d + 0, 0, 0, 182, 7, [.val (.ref 832), .val (.int p1), .val (.int 0)], [], (126, 120, L, [Y, T, H, H2, RA, RB, ST, NS, I0, I1, I2, BO, (u2 FI 0 6 0), RG, GU, PU, MA, MN, MS, OT, SC], [r0, r1, r2, r3, w, 192, r6, r7, r8], Lg)) o from ev_b 5 e (fun n => Eq.refl _)
  refine ev_loop (δ := Unit) (fun a j => (d + 0, 0, 0, 182, 7, [.val (.ref 832), .val (.int p1), .val (.int a.1)], [], (126, 120, L, [Y, T, H, H2, RA, RB, ST, NS, I0, I1, I2, BO, a.2, RG, GU, PU, MA, MN, MS, OT, SC], [r0, r1, r2, r3, w, 192, r6, r7, r8], Lg))) (fun b => ∀ s4 : Value, Ev (d + 0, 0, 0, 182, 63, [.val (.ref 832), .val (.int p1), .val s4], [], (126, 120, L, [Y, T, H, H2, RA, RB, ST, NS, I0, I1, I2, BO, b, RG, GU, PU, MA, MN, MS, OT, SC], [r0, r1, r2, r3, w, 192, r6, r7, r8], Lg)) o) ?_ a_F (0, (u2 FI 0 6 0)) FI_5 zh2 ?_ ()
  · rintro ⟨v1, FI_2⟩ zr6 zh5 zi3 zx4 ⟨⟩
    have zh5 : f_Fitter_listOthers_l7 H p1 v1 FI_2 = some zr6 := zh5
    suffices e : Ev (d + 0, 0, 0, 182, 15, [.val (.ref 832), .val (.int p1), .val (.int v1)], [.ref 192, .int v1], (126, 120, L, [Y, T, H, H2, RA, RB, ST, NS, I0, I1, I2, BO, FI_2, RG, GU, PU, MA, MN, MS, OT, SC], [r0, r1, r2, r3, w, 192, r6, r7, r8], Lg)) o from ev_b 4 e (fun n => Eq.refl _)
    by_cases zc7 : (H 0 3) ≤ v1
    · have zh5 := itp zh5 zc7
      suffices e : Ev (d + 0, 0, 0, 182, 63, [.val (.ref 832), .val (.int p1), .val (.int v1)], [], (126, 120, L, [Y, T, H, H2, RA, RB, ST, NS, I0, I1, I2, BO, FI_2, RG, GU, PU, MA, MN, MS, OT, SC], [r0, r1, r2, r3, w, 192, r6, r7, r8], Lg)) o from ev_t (c := (H 0 3) ≤ v1) _ _ 2  zc7 e (fun n => Eq.refl _)
      exact ev_b 0 (zx4 _ (Option.some.inj zh5).symm (.int v1)) (fun n => Eq.refl _)
    · have zh5 := itn zh5 zc7
      suffices e : Ev (d + 0, 0, 0, 182, 21, [.val (.ref 832), .val (.int p1), .val (.int v1)], [], (126, 120, L, [Y, T, H, H2, RA, RB, ST, NS, I0, I1, I2, BO, FI_2, RG, GU, PU, MA, MN, MS, OT, SC], [r0, r1, r2, r3, w, 192, r6, r7, r8], Lg)) o from ev_f (c := (H 0 3) ≤ v1) _ _ 2  zc7 e (fun n => Eq.refl _)
      by_cases zc8 : ((a_shr p1 v1) &&& 1) = 0
      · have zh5 := itp zh5 zc8
        suffices e : Ev (d + 0, 0, 0, 182, 57, [.val (.ref 832), .val (.int p1), .val (.int v1)], [], (126, 120, L, [Y, T, H, H2, RA, RB, ST, NS, I0, I1, I2, BO, FI_2, RG, GU, PU, MA, MN, MS, OT, SC], [r0, r1, r2, r3, w, 192, r6, r7, r8], Lg)) o from ev_t (c := ((a_shr p1 v1) &&& 1) = 0) _ _ 6  zc8 e (fun n => Eq.refl _)
        exact ev_b 2 (zi3 _ (Option.some.inj zh5).symm ()) (fun n => Eq.refl _)
      · have zh5 := itn zh5 zc8
        suffices e : Ev (d + 0, 0, 0, 182, 29, [.val (.ref 832), .val (.int p1), .val (.int v1)], [], (126, 120, L, [Y, T, H, H2, RA, RB, ST, NS, I0, I1, I2, BO, FI_2, RG, GU, PU, MA, MN, MS, OT, SC], [r0, r1, r2, r3, w, 192, r6, r7, r8], Lg)) o from ev_f (c := ((a_shr p1 v1) &&& 1) = 0) _ _ 6  zc8 e (fun n => Eq.refl _)
        by_cases zc9 : 3 ≤ (FI_2 0 6)
        · have zh5 := itp zh5 zc9
          suffices e : Ev (d + 0, 0, 0, 182, 57, [.val (.ref 832), .val (.int p1), .val (.int v1)], [], (126, 120, L, [Y, T, H, H2, RA, RB, ST, NS, I0, I1, I2, BO, FI_2, RG, GU, PU, MA, MN, MS, OT, SC], [r0, r1, r2, r3, w, 192, r6, r7, r8], Lg)) o from ev_t (c := 3 ≤ (FI_2 0 6)) _ _ 4  zc9 e (fun n => Eq.refl _)
          exact ev_b 2 (zi3 _ (Option.some.inj zh5).symm ()) (fun n => Eq.refl _)
        · have zh5 := itn zh5 zc9
          suffices e : Ev (d + 0, 0, 0, 182, 37, [.val (.ref 832), .val (.int p1), .val (.int v1)], [], (126, 120, L, [Y, T, H, H2, RA, RB, ST, NS, I0, I1, I2, BO, FI_2, RG, GU, PU, MA, MN, MS, OT, SC], [r0, r1, r2, r3, w, 192, r6, r7, r8], Lg)) o from ev_f (c := 3 ≤ (FI_2 0 6)) _ _ 4  zc9 e (fun n => Eq.refl _)
          obtain ⟨j3, zh10, zh5⟩ := bnd zh5
          have zh10 : ixx 3 (FI_2 0 6) = some j3 := zh10
          suffices e : Ev (d + 0, 0, 0, 182, 47, [.val (.ref 832), .val (.int p1), .val (.int v1)], [], (126, 120, L, [Y, T, H, H2, RA, RB, ST, NS, I0, I1, I2, BO, (u2 FI_2 4 j3 v1), RG, GU, PU, MA, MN, MS, OT, SC], [r0, r1, r2, r3, w, 192, r6, r7, r8], Lg)) o from ev_opt (fun j3 => (d + 0, 0, 0, 182, 47, [.val (.ref 832), .val (.int p1), .val (.int v1)], [], (126, 120, L, [Y, T, H, H2, RA, RB, ST, NS, I0, I1, I2, BO, (u2 FI_2 4 j3 v1), RG, GU, PU, MA, MN, MS, OT, SC], [r0, r1, r2, r3, w, 192, r6, r7, r8], Lg))) 6 zh10 e (fun n => Eq.refl _)
          exact ev_b 8 (zi3 _ (Option.some.inj zh5).symm ()) (fun n => Eq.refl _)
  · skip
    intro s4
    have ze11 := Option.some.inj h
    subst ze11
    exact ev_rete 1 ho (fun n => Eq.refl _)
set_option maxRecDepth 1000000 in
set_option maxHeartbeats 4000000 in
theorem R_f_House_costOf_0 (d : Nat) (Y T H H2 RA RB ST NS I0 I1 I2 BO FI RG GU PU MA MN MS OT SC : Nat → Nat → Int32) (r0 r1 r2 r3 w r5 r6 r7 r8 : Nat) (L : Nat) (Lg : Int64) (p1 : Int32) {r : Int32} (h : f_House_costOf H p1 = some r) : Ev (d + 1, 0, 0, 223, 0, [.val (.ref 192), .val (.int p1), .val a_unk, .val a_unk], [], (126, 120, L, [Y, T, H, H2, RA, RB, ST, NS, I0, I1, I2, BO, FI, RG, GU, PU, MA, MN, MS, OT, SC], [r0, r1, r2, r3, w, r5, r6, r7, r8], Lg)) ((0, some (.int r), (126, 120, L, [Y, T, H, H2, RA, RB, ST, NS, I0, I1, I2, BO, FI, RG, GU, PU, MA, MN, MS, OT, SC], [r0, r1, r2, r3, w, r5, r6, r7, r8], Lg)) : AOut) := by
  suffices key : ∀ o : AOut, ((0, some (.int r), (126, 120, L, [Y, T, H, H2, RA, RB, ST, NS, I0, I1, I2, BO, FI, RG, GU, PU, MA, MN, MS, OT, SC], [r0, r1, r2, r3, w, r5, r6, r7, r8], Lg)) : AOut) = o → Ev (d + 1, 0, 0, 223, 0, [.val (.ref 192), .val (.int p1), .val a_unk, .val a_unk], [], (126, 120, L, [Y, T, H, H2, RA, RB, ST, NS, I0, I1, I2, BO, FI, RG, GU, PU, MA, MN, MS, OT, SC], [r0, r1, r2, r3, w, r5, r6, r7, r8], Lg)) o from key _ rfl
  intro o ho
  obtain ⟨x1, zh1, h⟩ := bnd h
  have zh1 : rdx (H 7) 10 p1 = some x1 := zh1
  suffices e : Ev (d + 1, 0, 0, 223, 6, [.val (.ref 192), .val (.int p1), .val a_unk, .val a_unk], [.int x1], (126, 120, L, [Y, T, H, H2, RA, RB, ST, NS, I0, I1, I2, BO, FI, RG, GU, PU, MA, MN, MS, OT, SC], [r0, r1, r2, r3, w, r5, r6, r7, r8], Lg)) o from ev_opt (fun x1 => (d + 1, 0, 0, 223, 6, [.val (.ref 192), .val (.int p1), .val a_unk, .val a_unk], [.int x1], (126, 120, L, [Y, T, H, H2, RA, RB, ST, NS, I0, I1, I2, BO, FI, RG, GU, PU, MA, MN, MS, OT, SC], [r0, r1, r2, r3, w, r5, r6, r7, r8], Lg))) 4 zh1 e (fun n => Eq.refl _)
  obtain ⟨v6, zh3, h⟩ := bnd h
  suffices e : Ev (d + 1, 0, 0, 223, 9, [.val (.ref 192), .val (.int p1), .val (.int x1), .val (.int 0)], [], (126, 120, L, [Y, T, H, H2, RA, RB, ST, NS, I0, I1, I2, BO, FI, RG, GU, PU, MA, MN, MS, OT, SC], [r0, r1, r2, r3, w, r5, r6, r7, r8], Lg)) o from ev_b 3 e (fun n => Eq.refl _)
  refine ev_loop (δ := Unit) (fun a j => (d + 1, 0, 0, 223, 9, [.val (.ref 192), .val (.int p1), .val (.int a.1), .val (.int a.2)], [], (126, 120, L, [Y, T, H, H2, RA, RB, ST, NS, I0, I1, I2, BO, FI, RG, GU, PU, MA, MN, MS, OT, SC], [r0, r1, r2, r3, w, r5, r6, r7, r8], Lg))) (fun b => ∀ s7 : Value, Ev (d + 1, 0, 0, 223, 41, [.val (.ref 192), .val (.int p1), .val (.int b), .val s7], [], (126, 120, L, [Y, T, H, H2, RA, RB, ST, NS, I0, I1, I2, BO, FI, RG, GU, PU, MA, MN, MS, OT, SC], [r0, r1, r2, r3, w, r5, r6, r7, r8], Lg)) o) ?_ a_F (x1, 0) v6 zh3 ?_ ()
  · rintro ⟨v2, v3⟩ zr7 zh6 zi4 zx5 ⟨⟩
    have zh6 : f_House_costOf_l9 H p1 v2 v3 = some zr7 := zh6
    by_cases zc8 : (H 0 2) ≤ v3
    · have zh6 := itp zh6 zc8
      suffices e : Ev (d + 1, 0, 0, 223, 41, [.val (.ref 192), .val (.int p1), .val (.int v2), .val (.int v3)], [], (126, 120, L, [Y, T, H, H2, RA, RB, ST, NS, I0, I1, I2, BO, FI, RG, GU, PU, MA, MN, MS, OT, SC], [r0, r1, r2, r3, w, r5, r6, r7, r8], Lg)) o from ev_t (c := (H 0 2) ≤ v3) _ _ 4  zc8 e (fun n => Eq.refl _)
      exact ev_b 0 (zx5 _ (Option.some.inj zh6).symm (.int v3)) (fun n => Eq.refl _)
    · have zh6 := itn zh6 zc8
      suffices e : Ev (d + 1, 0, 0, 223, 17, [.val (.ref 192), .val (.int p1), .val (.int v2), .val (.int v3)], [], (126, 120, L, [Y, T, H, H2, RA, RB, ST, NS, I0, I1, I2, BO, FI, RG, GU, PU, MA, MN, MS, OT, SC], [r0, r1, r2, r3, w, r5, r6, r7, r8], Lg)) o from ev_f (c := (H 0 2) ≤ v3) _ _ 4  zc8 e (fun n => Eq.refl _)
      obtain ⟨x4, zh9, zh6⟩ := bnd zh6
      have zh9 : f_House_isMember H p1 v3 = some x4 := zh9
      have ze10 := R_f_House_isMember_0 (d + 0) Y T H H2 RA RB ST NS I0 I1 I2 BO FI RG GU PU MA MN MS OT SC r0 r1 r2 r3 w r5 r6 r7 r8 L Lg p1 v3 zh9
      suffices e : Ev (d + 1, 0, 0, 223, 23, [.val (.ref 192), .val (.int p1), .val (.int v2), .val (.int v3)], [.int x4], (126, 120, L, [Y, T, H, H2, RA, RB, ST, NS, I0, I1, I2, BO, FI, RG, GU, PU, MA, MN, MS, OT, SC], [r0, r1, r2, r3, w, r5, r6, r7, r8], Lg)) o from ev_call (fun v μ => (d + 1, 0, 0, 223, 23, [.val (.ref 192), .val (.int p1), .val (.int v2), .val (.int v3)], v.toList ++ [], μ)) 4 ze10 e (fun n => Eq.refl _)
      by_cases zc11 : x4 = 0
      · have zh6 := itp zh6 zc11
        suffices e : Ev (d + 1, 0, 0, 223, 35, [.val (.ref 192), .val (.int p1), .val (.int v2), .val (.int v3)], [], (126, 120, L, [Y, T, H, H2, RA, RB, ST, NS, I0, I1, I2, BO, FI, RG, GU, PU, MA, MN, MS, OT, SC], [r0, r1, r2, r3, w, r5, r6, r7, r8], Lg)) o from ev_t (c := x4 = 0) _ _ 1  zc11 e (fun n => Eq.refl _)
        exact ev_b 2 (zi4 _ (Option.some.inj zh6).symm ()) (fun n => Eq.refl _)
      · have zh6 := itn zh6 zc11
        suffices e : Ev (d + 1, 0, 0, 223, 26, [.val (.ref 192), .val (.int p1), .val (.int v2), .val (.int v3)], [], (126, 120, L, [Y, T, H, H2, RA, RB, ST, NS, I0, I1, I2, BO, FI, RG, GU, PU, MA, MN, MS, OT, SC], [r0, r1, r2, r3, w, r5, r6, r7, r8], Lg)) o from ev_f (c := x4 = 0) _ _ 1  zc11 e (fun n => Eq.refl _)
        obtain ⟨x5, zh12, zh6⟩ := bnd zh6
        have zh12 : rdx (H 2) 8 v3 = some x5 := zh12
        suffices e : Ev (d + 1, 0, 0, 223, 33, [.val (.ref 192), .val (.int p1), .val (.int v2), .val (.int v3)], [.int x5, .int v2], (126, 120, L, [Y, T, H, H2, RA, RB, ST, NS, I0, I1, I2, BO, FI, RG, GU, PU, MA, MN, MS, OT, SC], [r0, r1, r2, r3, w, r5, r6, r7, r8], Lg)) o from ev_opt (fun x5 => (d + 1, 0, 0, 223, 33, [.val (.ref 192), .val (.int p1), .val (.int v2), .val (.int v3)], [.int x5, .int v2], (126, 120, L, [Y, T, H, H2, RA, RB, ST, NS, I0, I1, I2, BO, FI, RG, GU, PU, MA, MN, MS, OT, SC], [r0, r1, r2, r3, w, r5, r6, r7, r8], Lg))) 5 zh12 e (fun n => Eq.refl _)
        exact ev_b 4 (zi4 _ (Option.some.inj zh6).symm ()) (fun n => Eq.refl _)
  · skip
    intro s7
    have ze13 := Option.some.inj h
    subst ze13
    exact ev_rete 2 ho (fun n => Eq.refl _)
set_option maxRecDepth 1000000 in
set_option maxHeartbeats 4000000 in
theorem R_f_Fitter_findOpen_0 (d : Nat) (Y T H H2 RA RB ST NS I0 I1 I2 BO FI RG GU PU MA MN MS OT SC : Nat → Nat → Int32) (r0 r1 r2 r3 w r6 r7 r8 : Nat) (L : Nat) (Lg : Int64) (p1 : Int32) {r : Int32 × (Nat → Nat → Int32)} (h : f_Fitter_findOpen H BO FI p1 = some r) : Ev (d + 2, 0, 0, 185, 0, [.val (.ref 832), .val (.int p1), .val a_unk, .val a_unk, .val a_unk, .val a_unk], [], (126, 120, L, [Y, T, H, H2, RA, RB, ST, NS, I0, I1, I2, BO, FI, RG, GU, PU, MA, MN, MS, OT, SC], [r0, r1, r2, r3, w, 192, r6, r7, r8], Lg)) ((0, some (.int r.1), (126, 120, L, [Y, T, H, H2, RA, RB, ST, NS, I0, I1, I2, BO, r.2, RG, GU, PU, MA, MN, MS, OT, SC], [r0, r1, r2, r3, w, 192, r6, r7, r8], Lg)) : AOut) := by
  suffices key : ∀ o : AOut, ((0, some (.int r.1), (126, 120, L, [Y, T, H, H2, RA, RB, ST, NS, I0, I1, I2, BO, r.2, RG, GU, PU, MA, MN, MS, OT, SC], [r0, r1, r2, r3, w, 192, r6, r7, r8], Lg)) : AOut) = o → Ev (d + 2, 0, 0, 185, 0, [.val (.ref 832), .val (.int p1), .val a_unk, .val a_unk, .val a_unk, .val a_unk], [], (126, 120, L, [Y, T, H, H2, RA, RB, ST, NS, I0, I1, I2, BO, FI, RG, GU, PU, MA, MN, MS, OT, SC], [r0, r1, r2, r3, w, 192, r6, r7, r8], Lg)) o from key _ rfl
  intro o ho
  by_cases zc1 : (FI 0 6) ≤ p1
  · have h := itp h zc1
    suffices e : Ev (d + 2, 0, 0, 185, 13, [.val (.ref 832), .val (.int p1), .val a_unk, .val a_unk, .val a_unk, .val a_unk], [], (126, 120, L, [Y, T, H, H2, RA, RB, ST, NS, I0, I1, I2, BO, FI, RG, GU, PU, MA, MN, MS, OT, SC], [r0, r1, r2, r3, w, 192, r6, r7, r8], Lg)) o from ev_t (c := (FI 0 6) ≤ p1) _ _ 4  zc1 e (fun n => Eq.refl _)
    have ze2 := Option.some.inj h
    subst ze2
    exact ev_rete 2 ho (fun n => Eq.refl _)
  · have h := itn h zc1
    suffices e : Ev (d + 2, 0, 0, 185, 8, [.val (.ref 832), .val (.int p1), .val a_unk, .val a_unk, .val a_unk, .val a_unk], [], (126, 120, L, [Y, T, H, H2, RA, RB, ST, NS, I0, I1, I2, BO, FI, RG, GU, PU, MA, MN, MS, OT, SC], [r0, r1, r2, r3, w, 192, r6, r7, r8], Lg)) o from ev_f (c := (FI 0 6) ≤ p1) _ _ 4  zc1 e (fun n => Eq.refl _)
    by_cases zc3 : p1 < 3
    · have h := itp h zc3
      suffices e : Ev (d + 2, 0, 0, 185, 15, [.val (.ref 832), .val (.int p1), .val a_unk, .val a_unk, .val a_unk, .val a_unk], [], (126, 120, L, [Y, T, H, H2, RA, RB, ST, NS, I0, I1, I2, BO, FI, RG, GU, PU, MA, MN, MS, OT, SC], [r0, r1, r2, r3, w, 192, r6, r7, r8], Lg)) o from ev_t (c := p1 < 3) _ _ 3  zc3 e (fun n => Eq.refl _)
      obtain ⟨x1, zh4, h⟩ := bnd h
      have zh4 : rdx (FI 4) 3 p1 = some x1 := zh4
      suffices e : Ev (d + 2, 0, 0, 185, 21, [.val (.ref 832), .val (.int p1), .val a_unk, .val a_unk, .val a_unk, .val a_unk], [.int x1], (126, 120, L, [Y, T, H, H2, RA, RB, ST, NS, I0, I1, I2, BO, FI, RG, GU, PU, MA, MN, MS, OT, SC], [r0, r1, r2, r3, w, 192, r6, r7, r8], Lg)) o from ev_opt (fun x1 => (d + 2, 0, 0, 185, 21, [.val (.ref 832), .val (.int p1), .val a_unk, .val a_unk, .val a_unk, .val a_unk], [.int x1], (126, 120, L, [Y, T, H, H2, RA, RB, ST, NS, I0, I1, I2, BO, FI, RG, GU, PU, MA, MN, MS, OT, SC], [r0, r1, r2, r3, w, 192, r6, r7, r8], Lg))) 4 zh4 e (fun n => Eq.refl _)
      obtain ⟨zb5, zh6, h⟩ := bnd h
      suffices e : Ev (d + 2, 0, 0, 185, 27, [.val (.ref 832), .val (.int p1), .val (.int x1), .val (.int 0), .val (.int 0), .val a_unk], [], (126, 120, L, [Y, T, H, H2, RA, RB, ST, NS, I0, I1, I2, BO, FI, RG, GU, PU, MA, MN, MS, OT, SC], [r0, r1, r2, r3, w, 192, r6, r7, r8], Lg)) o from ev_b 5 e (fun n => Eq.refl _)
      refine ev_loop (δ := Value) (fun a j => (d + 2, 0, 0, 185, 27, [.val (.ref 832), .val (.int p1), .val (.int x1), .val (.int a.1), .val (.int a.2.1), .val j], [], (126, 120, L, [Y, T, H, H2, RA, RB, ST, NS, I0, I1, I2, BO, a.2.2, RG, GU, PU, MA, MN, MS, OT, SC], [r0, r1, r2, r3, w, 192, r6, r7, r8], Lg))) (fun b => ∀ s14 : Value, ∀ s15 : Value, Ev (d + 2, 0, 0, 185, 110, [.val (.ref 832), .val (.int p1), .val (.int x1), .val (.int b.1), .val s14, .val s15], [], (126, 120, L, [Y, T, H, H2, RA, RB, ST, NS, I0, I1, I2, BO, b.2, RG, GU, PU, MA, MN, MS, OT, SC], [r0, r1, r2, r3, w, 192, r6, r7, r8], Lg)) o) ?_ a_F (0, 0, FI) zb5 zh6 ?_ a_unk
      · rintro ⟨v2, v3, FI_5⟩ zr10 zh9 zi7 zx8 s4
        have zh9 : f_Fitter_findOpen_l27 H BO x1 p1 v2 v3 FI_5 = some zr10 := zh9
        suffices e : Ev (d + 2, 0, 0, 185, 36, [.val (.ref 832), .val (.int p1), .val (.int x1), .val (.int v2), .val (.int v3), .val s4], [.ref 192, .int v3], (126, 120, L, [Y, T, H, H2, RA, RB, ST, NS, I0, I1, I2, BO, FI_5, RG, GU, PU, MA, MN, MS, OT, SC], [r0, r1, r2, r3, w, 192, r6, r7, r8], Lg)) o from ev_b 4 e (fun n => Eq.refl _)
        by_cases zc11 : (H 0 1) ≤ v3
        · have zh9 := itp zh9 zc11
          suffices e : Ev (d + 2, 0, 0, 185, 110, [.val (.ref 832), .val (.int p1), .val (.int x1), .val (.int v2), .val (.int v3), .val s4], [], (126, 120, L, [Y, T, H, H2, RA, RB, ST, NS, I0, I1, I2, BO, FI_5, RG, GU, PU, MA, MN, MS, OT, SC], [r0, r1, r2, r3, w, 192, r6, r7, r8], Lg)) o from ev_t (c := (H 0 1) ≤ v3) _ _ 2  zc11 e (fun n => Eq.refl _)
          exact ev_b 0 (zx8 _ (Option.some.inj zh9).symm (.int v3) s4) (fun n => Eq.refl _)
        · have zh9 := itn zh9 zc11
          suffices e : Ev (d + 2, 0, 0, 185, 42, [.val (.ref 832), .val (.int p1), .val (.int x1), .val (.int v2), .val (.int v3), .val s4], [], (126, 120, L, [Y, T, H, H2, RA, RB, ST, NS, I0, I1, I2, BO, FI_5, RG, GU, PU, MA, MN, MS, OT, SC], [r0, r1, r2, r3, w, 192, r6, r7, r8], Lg)) o from ev_f (c := (H 0 1) ≤ v3) _ _ 2  zc11 e (fun n => Eq.refl _)
          obtain ⟨x6, zh12, zh9⟩ := bnd zh9
          have zh12 : f_Board_openHours H BO x1 v3 = some x6 := zh12
          have ze13 := R_f_Board_openHours_0 (d + 0) Y T H H2 RA RB ST NS I0 I1 I2 BO FI_5 RG GU PU MA MN MS OT SC r0 r1 r2 r3 w r6 r7 r8 L Lg x1 v3 zh12
          suffices e : Ev (d + 2, 0, 0, 185, 52, [.val (.ref 832), .val (.int p1), .val (.int x1), .val (.int v2), .val (.int v3), .val s4], [.int x6], (126, 120, L, [Y, T, H, H2, RA, RB, ST, NS, I0, I1, I2, BO, FI_5, RG, GU, PU, MA, MN, MS, OT, SC], [r0, r1, r2, r3, w, 192, r6, r7, r8], Lg)) o from ev_call (fun v μ => (d + 2, 0, 0, 185, 52, [.val (.ref 832), .val (.int p1), .val (.int x1), .val (.int v2), .val (.int v3), .val s4], v.toList ++ [], μ)) 5 ze13 e (fun n => Eq.refl _)
          obtain ⟨x7, zh14, zh9⟩ := bnd zh9
          have zh14 : rdx (FI_5 1) 10 x1 = some x7 := zh14
          suffices e : Ev (d + 2, 0, 0, 185, 60, [.val (.ref 832), .val (.int p1), .val (.int x1), .val (.int v2), .val (.int v3), .val (.int x6)], [.int x7], (126, 120, L, [Y, T, H, H2, RA, RB, ST, NS, I0, I1, I2, BO, FI_5, RG, GU, PU, MA, MN, MS, OT, SC], [r0, r1, r2, r3, w, 192, r6, r7, r8], Lg)) o from ev_opt (fun x7 => (d + 2, 0, 0, 185, 60, [.val (.ref 832), .val (.int p1), .val (.int x1), .val (.int v2), .val (.int v3), .val (.int x6)], [.int x7], (126, 120, L, [Y, T, H, H2, RA, RB, ST, NS, I0, I1, I2, BO, FI_5, RG, GU, PU, MA, MN, MS, OT, SC], [r0, r1, r2, r3, w, 192, r6, r7, r8], Lg))) 5 zh14 e (fun n => Eq.refl _)
          obtain ⟨x8, zh15, zh9⟩ := bnd zh9
          have zh15 : f_Y_roomOf x7 = some x8 := zh15
          have ze16 := R_f_Y_roomOf_0 (d + 1) Y T H H2 RA RB ST NS I0 I1 I2 BO FI_5 RG GU PU MA MN MS OT SC r0 r1 r2 r3 w 192 r6 r7 r8 L Lg x7 zh15
          suffices e : Ev (d + 2, 0, 0, 185, 63, [.val (.ref 832), .val (.int p1), .val (.int x1), .val (.int v2), .val (.int v3), .val (.int x6)], [.int x8], (126, 120, L, [Y, T, H, H2, RA, RB, ST, NS, I0, I1, I2, BO, FI_5, RG, GU, PU, MA, MN, MS, OT, SC], [r0, r1, r2, r3, w, 192, r6, r7, r8], Lg)) o from ev_call (fun v μ => (d + 2, 0, 0, 185, 63, [.val (.ref 832), .val (.int p1), .val (.int x1), .val (.int v2), .val (.int v3), .val (.int x6)], v.toList ++ [], μ)) 1 ze16 e (fun n => Eq.refl _)
          obtain ⟨zt17, zh18, zh9⟩ := bnd zh9
          have zj19 : ∀ (v11 : Int32), v11 = zt17 → Ev (d + 2, 0, 0, 185, 86, [.val (.ref 832), .val (.int p1), .val (.int x1), .val (.int v2), .val (.int v3), .val (.int v11)], [], (126, 120, L, [Y, T, H, H2, RA, RB, ST, NS, I0, I1, I2, BO, FI_5, RG, GU, PU, MA, MN, MS, OT, SC], [r0, r1, r2, r3, w, 192, r6, r7, r8], Lg)) o := by
            intro v11 ze20
            subst ze20
            obtain ⟨j12, zh21, zh9⟩ := bnd zh9
            have zh21 : ixx 9 ((p1 * 3) + v3) = some j12 := zh21
            suffices e : Ev (d + 2, 0, 0, 185, 99, [.val (.ref 832), .val (.int p1), .val (.int x1), .val (.int v2), .val (.int v3), .val (.int v11)], [], (126, 120, L, [Y, T, H, H2, RA, RB, ST, NS, I0, I1, I2, BO, (u2 FI_5 5 j12 v11), RG, GU, PU, MA, MN, MS, OT, SC], [r0, r1, r2, r3, w, 192, r6, r7, r8], Lg)) o from ev_opt (fun j12 => (d + 2, 0, 0, 185, 99, [.val (.ref 832), .val (.int p1), .val (.int x1), .val (.int v2), .val (.int v3), .val (.int v11)], [], (126, 120, L, [Y, T, H, H2, RA, RB, ST, NS, I0, I1, I2, BO, (u2 FI_5 5 j12 v11), RG, GU, PU, MA, MN, MS, OT, SC], [r0, r1, r2, r3, w, 192, r6, r7, r8], Lg))) 9 zh21 e (fun n => Eq.refl _)
            exact ev_b 6 (zi7 _ (Option.some.inj zh9).symm (.int v11)) (fun n => Eq.refl _)
          by_cases zc22 : x8 ≠ v3
          · have zh18 := itp zh18 zc22
            suffices e : Ev (d + 2, 0, 0, 185, 86, [.val (.ref 832), .val (.int p1), .val (.int x1), .val (.int v2), .val (.int v3), .val (.int x6)], [], (126, 120, L, [Y, T, H, H2, RA, RB, ST, NS, I0, I1, I2, BO, FI_5, RG, GU, PU, MA, MN, MS, OT, SC], [r0, r1, r2, r3, w, 192, r6, r7, r8], Lg)) o from ev_t (c := x8 ≠ v3) _ _ 2  zc22 e (fun n => Eq.refl _)
            exact ev_b 0 (zj19 x6 (Option.some.inj zh18) ) (fun n => Eq.refl _)
          · have zh18 := itn zh18 zc22
            suffices e : Ev (d + 2, 0, 0, 185, 68, [.val (.ref 832), .val (.int p1), .val (.int x1), .val (.int v2), .val (.int v3), .val (.int x6)], [], (126, 120, L, [Y, T, H, H2, RA, RB, ST, NS, I0, I1, I2, BO, FI_5, RG, GU, PU, MA, MN, MS, OT, SC], [r0, r1, r2, r3, w, 192, r6, r7, r8], Lg)) o from ev_f (c := x8 ≠ v3) _ _ 2  zc22 e (fun n => Eq.refl _)
            obtain ⟨x9, zh23, zh18⟩ := bnd zh18
            have zh23 : rdx (FI_5 1) 10 x1 = some x9 := zh23
            suffices e : Ev (d + 2, 0, 0, 185, 77, [.val (.ref 832), .val (.int p1), .val (.int x1), .val (.int v2), .val (.int v3), .val (.int x6)], [.int x9, .int 1, .int x6], (126, 120, L, [Y, T, H, H2, RA, RB, ST, NS, I0, I1, I2, BO, FI_5, RG, GU, PU, MA, MN, MS, OT, SC], [r0, r1, r2, r3, w, 192, r6, r7, r8], Lg)) o from ev_opt (fun x9 => (d + 2, 0, 0, 185, 77, [.val (.ref 832), .val (.int p1), .val (.int x1), .val (.int v2), .val (.int v3), .val (.int x6)], [.int x9, .int 1, .int x6], (126, 120, L, [Y, T, H, H2, RA, RB, ST, NS, I0, I1, I2, BO, FI_5, RG, GU, PU, MA, MN, MS, OT, SC], [r0, r1, r2, r3, w, 192, r6, r7, r8], Lg))) 6 zh23 e (fun n => Eq.refl _)
            obtain ⟨x10, zh24, zh18⟩ := bnd zh18
            have zh24 : f_Y_hourOf x9 = some x10 := zh24
            have ze25 := R_f_Y_hourOf_0 (d + 1) Y T H H2 RA RB ST NS I0 I1 I2 BO FI_5 RG GU PU MA MN MS OT SC r0 r1 r2 r3 w 192 r6 r7 r8 L Lg x9 zh24
            suffices e : Ev (d + 2, 0, 0, 185, 80, [.val (.ref 832), .val (.int p1), .val (.int x1), .val (.int v2), .val (.int v3), .val (.int x6)], [.int x10, .int 1, .int x6], (126, 120, L, [Y, T, H, H2, RA, RB, ST, NS, I0, I1, I2, BO, FI_5, RG, GU, PU, MA, MN, MS, OT, SC], [r0, r1, r2, r3, w, 192, r6, r7, r8], Lg)) o from ev_call (fun v μ => (d + 2, 0, 0, 185, 80, [.val (.ref 832), .val (.int p1), .val (.int x1), .val (.int v2), .val (.int v3), .val (.int x6)], v.toList ++ [.int 1, .int x6], μ)) 1 ze25 e (fun n => Eq.refl _)
            exact ev_b 5 (zj19 (x6 &&& ((a_shl 1 x10) ^^^ (-1))) (Option.some.inj zh18) ) (fun n => Eq.refl _)
      · obtain ⟨v13, FI_16⟩ := zb5
        intro s14 s15
        by_cases zc26 : v13 = 0
        · have h := itp h zc26
          suffices e : Ev (d + 2, 0, 0, 185, 118, [.val (.ref 832), .val (.int p1), .val (.int x1), .val (.int v13), .val s14, .val s15], [], (126, 120, L, [Y, T, H, H2, RA, RB, ST, NS, I0, I1, I2, BO, FI_16, RG, GU, PU, MA, MN, MS, OT, SC], [r0, r1, r2, r3, w, 192, r6, r7, r8], Lg)) o from ev_t (c := v13 = 0) _ _ 2  zc26 e (fun n => Eq.refl _)
          have ze27 := Option.some.inj h
          subst ze27
          exact ev_rete 2 ho (fun n => Eq.refl _)
        · have h := itn h zc26
          suffices e : Ev (d + 2, 0, 0, 185, 114, [.val (.ref 832), .val (.int p1), .val (.int x1), .val (.int v13), .val s14, .val s15], [], (126, 120, L, [Y, T, H, H2, RA, RB, ST, NS, I0, I1, I2, BO, FI_16, RG, GU, PU, MA, MN, MS, OT, SC], [r0, r1, r2, r3, w, 192, r6, r7, r8], Lg)) o from ev_f (c := v13 = 0) _ _ 2  zc26 e (fun n => Eq.refl _)
          have ze28 := Option.some.inj h
          subst ze28
          exact ev_rete 3 ho (fun n => Eq.refl _)
    · have h := itn h zc3
      suffices e : Ev (d + 2, 0, 0, 185, 13, [.val (.ref 832), .val (.int p1), .val a_unk, .val a_unk, .val a_unk, .val a_unk], [], (126, 120, L, [Y, T, H, H2, RA, RB, ST, NS, I0, I1, I2, BO, FI, RG, GU, PU, MA, MN, MS, OT, SC], [r0, r1, r2, r3, w, 192, r6, r7, r8], Lg)) o from ev_f (c := p1 < 3) _ _ 3  zc3 e (fun n => Eq.refl _)
      have ze29 := Option.some.inj h
      subst ze29
      exact ev_rete 2 ho (fun n => Eq.refl _)
set_option maxRecDepth 1000000 in
set_option maxHeartbeats 4000000 in
theorem R_f_Fitter_seat_B_0 (d : Nat) (rc : (Nat → (Nat → Nat → Int32) → (Nat → Nat → Int32) → (Nat → Nat → Int32) → Int32 → Option (Int32 × (Nat → Nat → Int32) × (Nat → Nat → Int32))))
    (zrc0 : ∀ (Y T H H2 RA RB ST NS I0 I1 I2 BO FI RG GU PU MA MN MS OT SC : Nat → Nat → Int32) (r0 r1 r2 r3 w r6 r7 r8 : Nat) (L : Nat) (Lg : Int64) (p1 : Int32) (r : Int32 × (Nat → Nat → Int32) × (Nat → Nat → Int32)), rc 0 H BO FI p1 = some r → Ev (d + 2, 0, 0, 186, 0, [.val (.ref 832), .val (.int p1), .val a_unk, .val a_unk, .val a_unk], [], (126, 120, L, [Y, T, H, H2, RA, RB, ST, NS, I0, I1, I2, BO, FI, RG, GU, PU, MA, MN, MS, OT, SC], [r0, r1, r2, r3, w, 192, r6, r7, r8], Lg)) ((0, some (.int r.1), (126, 120, L, [Y, T, H, H2, RA, RB, ST, NS, I0, I1, I2, r.2.1, r.2.2, RG, GU, PU, MA, MN, MS, OT, SC], [r0, r1, r2, r3, w, 192, r6, r7, r8], Lg)) : AOut))
    (Y T H H2 RA RB ST NS I0 I1 I2 BO FI RG GU PU MA MN MS OT SC : Nat → Nat → Int32) (r0 r1 r2 r3 w r6 r7 r8 : Nat) (L : Nat) (Lg : Int64) (p1 : Int32) {r : Int32 × (Nat → Nat → Int32) × (Nat → Nat → Int32)} (h : f_Fitter_seat_B rc H BO FI p1 = some r) : Ev (d + 3, 0, 0, 186, 0, [.val (.ref 832), .val (.int p1), .val a_unk, .val a_unk, .val a_unk], [], (126, 120, L, [Y, T, H, H2, RA, RB, ST, NS, I0, I1, I2, BO, FI, RG, GU, PU, MA, MN, MS, OT, SC], [r0, r1, r2, r3, w, 192, r6, r7, r8], Lg)) ((0, some (.int r.1), (126, 120, L, [Y, T, H, H2, RA, RB, ST, NS, I0, I1, I2, r.2.1, r.2.2, RG, GU, PU, MA, MN, MS, OT, SC], [r0, r1, r2, r3, w, 192, r6, r7, r8], Lg)) : AOut) := by
  suffices key : ∀ o : AOut, ((0, some (.int r.1), (126, 120, L, [Y, T, H, H2, RA, RB, ST, NS, I0, I1, I2, r.2.1, r.2.2, RG, GU, PU, MA, MN, MS, OT, SC], [r0, r1, r2, r3, w, 192, r6, r7, r8], Lg)) : AOut) = o → Ev (d + 3, 0, 0, 186, 0, [.val (.ref 832), .val (.int p1), .val a_unk, .val a_unk, .val a_unk], [], (126, 120, L, [Y, T, H, H2, RA, RB, ST, NS, I0, I1, I2, BO, FI, RG, GU, PU, MA, MN, MS, OT, SC], [r0, r1, r2, r3, w, 192, r6, r7, r8], Lg)) o from key _ rfl
  intro o ho
  by_cases zc1 : p1 < (FI 0 6)
  · have h := itp h zc1
    suffices e : Ev (d + 3, 0, 0, 186, 10, [.val (.ref 832), .val (.int p1), .val a_unk, .val a_unk, .val a_unk], [], (126, 120, L, [Y, T, H, H2, RA, RB, ST, NS, I0, I1, I2, BO, FI, RG, GU, PU, MA, MN, MS, OT, SC], [r0, r1, r2, r3, w, 192, r6, r7, r8], Lg)) o from ev_t (c := p1 < (FI 0 6)) _ _ 4  zc1 e (fun n => Eq.refl _)
    obtain ⟨⟨x1, FI_2⟩, zh2, h⟩ := bnd h
    have zh2 : f_Fitter_findOpen H BO FI p1 = some (x1, FI_2) := zh2
    have ze3 := R_f_Fitter_findOpen_0 (d + 0) Y T H H2 RA RB ST NS I0 I1 I2 BO FI RG GU PU MA MN MS OT SC r0 r1 r2 r3 w r6 r7 r8 L Lg p1 zh2
    suffices e : Ev (d + 3, 0, 0, 186, 15, [.val (.ref 832), .val (.int p1), .val a_unk, .val a_unk, .val a_unk], [.int x1], (126, 120, L, [Y, T, H, H2, RA, RB, ST, NS, I0, I1, I2, BO, FI_2, RG, GU, PU, MA, MN, MS, OT, SC], [r0, r1, r2, r3, w, 192, r6, r7, r8], Lg)) o from ev_call (fun v μ => (d + 3, 0, 0, 186, 15, [.val (.ref 832), .val (.int p1), .val a_unk, .val a_unk, .val a_unk], v.toList ++ [], μ)) 3 ze3 e (fun n => Eq.refl _)
    by_cases zc4 : x1 ≠ 0
    · have h := itp h zc4
      suffices e : Ev (d + 3, 0, 0, 186, 20, [.val (.ref 832), .val (.int p1), .val a_unk, .val a_unk, .val a_unk], [], (126, 120, L, [Y, T, H, H2, RA, RB, ST, NS, I0, I1, I2, BO, FI_2, RG, GU, PU, MA, MN, MS, OT, SC], [r0, r1, r2, r3, w, 192, r6, r7, r8], Lg)) o from ev_t (c := x1 ≠ 0) _ _ 1  zc4 e (fun n => Eq.refl _)
      obtain ⟨x3, zh5, h⟩ := bnd h
      have zh5 : rdx (FI_2 4) 3 p1 = some x3 := zh5
      suffices e : Ev (d + 3, 0, 0, 186, 26, [.val (.ref 832), .val (.int p1), .val a_unk, .val a_unk, .val a_unk], [.int x3], (126, 120, L, [Y, T, H, H2, RA, RB, ST, NS, I0, I1, I2, BO, FI_2, RG, GU, PU, MA, MN, MS, OT, SC], [r0, r1, r2, r3, w, 192, r6, r7, r8], Lg)) o from ev_opt (fun x3 => (d + 3, 0, 0, 186, 26, [.val (.ref 832), .val (.int p1), .val a_unk, .val a_unk, .val a_unk], [.int x3], (126, 120, L, [Y, T, H, H2, RA, RB, ST, NS, I0, I1, I2, BO, FI_2, RG, GU, PU, MA, MN, MS, OT, SC], [r0, r1, r2, r3, w, 192, r6, r7, r8], Lg))) 4 zh5 e (fun n => Eq.refl _)
      obtain ⟨zb6, zh7, h⟩ := bnd h
      suffices e : Ev (d + 3, 0, 0, 186, 29, [.val (.ref 832), .val (.int p1), .val (.int x3), .val (.int 0), .val a_unk], [], (126, 120, L, [Y, T, H, H2, RA, RB, ST, NS, I0, I1, I2, BO, FI_2, RG, GU, PU, MA, MN, MS, OT, SC], [r0, r1, r2, r3, w, 192, r6, r7, r8], Lg)) o from ev_b 3 e (fun n => Eq.refl _)
      refine ev_loop (δ := Value) (fun a j => (d + 3, 0, 0, 186, 29, [.val (.ref 832), .val (.int p1), .val (.int x3), .val (.int a.1), .val j], [], (126, 120, L, [Y, T, H, H2, RA, RB, ST, NS, I0, I1, I2, a.2.1, a.2.2, RG, GU, PU, MA, MN, MS, OT, SC], [r0, r1, r2, r3, w, 192, r6, r7, r8], Lg))) (fun b => sumE b (fun b => ∀ s20 : Value, ∀ s21 : Value, Ev (d + 3, 0, 0, 186, 118, [.val (.ref 832), .val (.int p1), .val (.int x3), .val s20, .val s21], [], (126, 120, L, [Y, T, H, H2, RA, RB, ST, NS, I0, I1, I2, b.1, b.2, RG, GU, PU, MA, MN, MS, OT, SC], [r0, r1, r2, r3, w, 192, r6, r7, r8], Lg)) o) (fun b => ((0, some (.int b.1), (126, 120, L, [Y, T, H, H2, RA, RB, ST, NS, I0, I1, I2, b.2.1, b.2.2, RG, GU, PU, MA, MN, MS, OT, SC], [r0, r1, r2, r3, w, 192, r6, r7, r8], Lg)) : AOut) = o)) ?_ a_F (0, BO, FI_2) zb6 zh7 ?_ a_unk
      · rintro ⟨v4, BO_6, FI_7⟩ zr11 zh10 zi8 zx9 s5
        have zh10 : f_Fitter_seat_B_l29 H p1 x3 rc v4 BO_6 FI_7 = some zr11 := zh10
        suffices e : Ev (d + 3, 0, 0, 186, 37, [.val (.ref 832), .val (.int p1), .val (.int x3), .val (.int v4), .val s5], [.ref 192, .int v4], (126, 120, L, [Y, T, H, H2, RA, RB, ST, NS, I0, I1, I2, BO_6, FI_7, RG, GU, PU, MA, MN, MS, OT, SC], [r0, r1, r2, r3, w, 192, r6, r7, r8], Lg)) o from ev_b 4 e (fun n => Eq.refl _)
        by_cases zc12 : (H 0 0) ≤ v4
        · have zh10 := itp zh10 zc12
          suffices e : Ev (d + 3, 0, 0, 186, 118, [.val (.ref 832), .val (.int p1), .val (.int x3), .val (.int v4), .val s5], [], (126, 120, L, [Y, T, H, H2, RA, RB, ST, NS, I0, I1, I2, BO_6, FI_7, RG, GU, PU, MA, MN, MS, OT, SC], [r0, r1, r2, r3, w, 192, r6, r7, r8], Lg)) o from ev_t (c := (H 0 0) ≤ v4) _ _ 2  zc12 e (fun n => Eq.refl _)
          exact ev_b 0 (zx9 _ (Option.some.inj zh10).symm (.int v4) s5) (fun n => Eq.refl _)
        · have zh10 := itn zh10 zc12
          suffices e : Ev (d + 3, 0, 0, 186, 43, [.val (.ref 832), .val (.int p1), .val (.int x3), .val (.int v4), .val s5], [], (126, 120, L, [Y, T, H, H2, RA, RB, ST, NS, I0, I1, I2, BO_6, FI_7, RG, GU, PU, MA, MN, MS, OT, SC], [r0, r1, r2, r3, w, 192, r6, r7, r8], Lg)) o from ev_f (c := (H 0 0) ≤ v4) _ _ 2  zc12 e (fun n => Eq.refl _)
          obtain ⟨zb13, zh14, zh10⟩ := bnd zh10
          suffices e : Ev (d + 3, 0, 0, 186, 46, [.val (.ref 832), .val (.int p1), .val (.int x3), .val (.int v4), .val (.int 0)], [], (126, 120, L, [Y, T, H, H2, RA, RB, ST, NS, I0, I1, I2, BO_6, FI_7, RG, GU, PU, MA, MN, MS, OT, SC], [r0, r1, r2, r3, w, 192, r6, r7, r8], Lg)) o from ev_b 2 e (fun n => Eq.refl _)
          refine ev_loop (δ := Unit) (fun a j => (d + 3, 0, 0, 186, 46, [.val (.ref 832), .val (.int p1), .val (.int x3), .val (.int v4), .val (.int a.1)], [], (126, 120, L, [Y, T, H, H2, RA, RB, ST, NS, I0, I1, I2, a.2.1, a.2.2, RG, GU, PU, MA, MN, MS, OT, SC], [r0, r1, r2, r3, w, 192, r6, r7, r8], Lg))) (fun b => sumE b (fun b => ∀ s17 : Value, Ev (d + 3, 0, 0, 186, 112, [.val (.ref 832), .val (.int p1), .val (.int x3), .val (.int v4), .val s17], [], (126, 120, L, [Y, T, H, H2, RA, RB, ST, NS, I0, I1, I2, b.1, b.2, RG, GU, PU, MA, MN, MS, OT, SC], [r0, r1, r2, r3, w, 192, r6, r7, r8], Lg)) o) (fun b => ∀ c, b = .inr c → (fun b => sumE b (fun b => ∀ s20 : Value, ∀ s21 : Value, Ev (d + 3, 0, 0, 186, 118, [.val (.ref 832), .val (.int p1), .val (.int x3), .val s20, .val s21], [], (126, 120, L, [Y, T, H, H2, RA, RB, ST, NS, I0, I1, I2, b.1, b.2, RG, GU, PU, MA, MN, MS, OT, SC], [r0, r1, r2, r3, w, 192, r6, r7, r8], Lg)) o) (fun b => ((0, some (.int b.1), (126, 120, L, [Y, T, H, H2, RA, RB, ST, NS, I0, I1, I2, b.2.1, b.2.2, RG, GU, PU, MA, MN, MS, OT, SC], [r0, r1, r2, r3, w, 192, r6, r7, r8], Lg)) : AOut) = o)) c)) ?_ a_F (0, BO_6, FI_7) zb13 zh14 ?_ ()
          · rintro ⟨v8, BO_9, FI_10⟩ zr18 zh17 zi15 zx16 ⟨⟩
            have zh17 : f_Fitter_seat_B_l46 H p1 v4 x3 rc v8 BO_9 FI_10 = some zr18 := zh17
            suffices e : Ev (d + 3, 0, 0, 186, 55, [.val (.ref 832), .val (.int p1), .val (.int x3), .val (.int v4), .val (.int v8)], [.ref 192, .int v8], (126, 120, L, [Y, T, H, H2, RA, RB, ST, NS, I0, I1, I2, BO_9, FI_10, RG, GU, PU, MA, MN, MS, OT, SC], [r0, r1, r2, r3, w, 192, r6, r7, r8], Lg)) o from ev_b 4 e (fun n => Eq.refl _)
            by_cases zc19 : (H 0 1) ≤ v8
            · have zh17 := itp zh17 zc19
              suffices e : Ev (d + 3, 0, 0, 186, 112, [.val (.ref 832), .val (.int p1), .val (.int x3), .val (.int v4), .val (.int v8)], [], (126, 120, L, [Y, T, H, H2, RA, RB, ST, NS, I0, I1, I2, BO_9, FI_10, RG, GU, PU, MA, MN, MS, OT, SC], [r0, r1, r2, r3, w, 192, r6, r7, r8], Lg)) o from ev_t (c := (H 0 1) ≤ v8) _ _ 2  zc19 e (fun n => Eq.refl _)
              exact ev_b 0 (zx16 _ (Option.some.inj zh17).symm (.int v8)) (fun n => Eq.refl _)
            · have zh17 := itn zh17 zc19
              suffices e : Ev (d + 3, 0, 0, 186, 61, [.val (.ref 832), .val (.int p1), .val (.int x3), .val (.int v4), .val (.int v8)], [], (126, 120, L, [Y, T, H, H2, RA, RB, ST, NS, I0, I1, I2, BO_9, FI_10, RG, GU, PU, MA, MN, MS, OT, SC], [r0, r1, r2, r3, w, 192, r6, r7, r8], Lg)) o from ev_f (c := (H 0 1) ≤ v8) _ _ 2  zc19 e (fun n => Eq.refl _)
              obtain ⟨x11, zh20, zh17⟩ := bnd zh17
              have zh20 : rdx (FI_10 5) 9 ((p1 * 3) + v8) = some x11 := zh20
              suffices e : Ev (d + 3, 0, 0, 186, 72, [.val (.ref 832), .val (.int p1), .val (.int x3), .val (.int v4), .val (.int v8)], [.int x11], (126, 120, L, [Y, T, H, H2, RA, RB, ST, NS, I0, I1, I2, BO_9, FI_10, RG, GU, PU, MA, MN, MS, OT, SC], [r0, r1, r2, r3, w, 192, r6, r7, r8], Lg)) o from ev_opt (fun x11 => (d + 3, 0, 0, 186, 72, [.val (.ref 832), .val (.int p1), .val (.int x3), .val (.int v4), .val (.int v8)], [.int x11], (126, 120, L, [Y, T, H, H2, RA, RB, ST, NS, I0, I1, I2, BO_9, FI_10, RG, GU, PU, MA, MN, MS, OT, SC], [r0, r1, r2, r3, w, 192, r6, r7, r8], Lg))) 8 zh20 e (fun n => Eq.refl _)
              by_cases zc21 : ((a_shr x11 v4) &&& 1) = 0
              · have zh17 := itp zh17 zc21
                suffices e : Ev (d + 3, 0, 0, 186, 106, [.val (.ref 832), .val (.int p1), .val (.int x3), .val (.int v4), .val (.int v8)], [], (126, 120, L, [Y, T, H, H2, RA, RB, ST, NS, I0, I1, I2, BO_9, FI_10, RG, GU, PU, MA, MN, MS, OT, SC], [r0, r1, r2, r3, w, 192, r6, r7, r8], Lg)) o from ev_t (c := ((a_shr x11 v4) &&& 1) = 0) _ _ 5  zc21 e (fun n => Eq.refl _)
                exact ev_b 2 (zi15 _ (Option.some.inj zh17).symm ()) (fun n => Eq.refl _)
              · have zh17 := itn zh17 zc21
                suffices e : Ev (d + 3, 0, 0, 186, 79, [.val (.ref 832), .val (.int p1), .val (.int x3), .val (.int v4), .val (.int v8)], [], (126, 120, L, [Y, T, H, H2, RA, RB, ST, NS, I0, I1, I2, BO_9, FI_10, RG, GU, PU, MA, MN, MS, OT, SC], [r0, r1, r2, r3, w, 192, r6, r7, r8], Lg)) o from ev_f (c := ((a_shr x11 v4) &&& 1) = 0) _ _ 5  zc21 e (fun n => Eq.refl _)
                obtain ⟨x12, zh22, zh17⟩ := bnd zh17
                have zh22 : f_Y_placeOf v4 v8 = some x12 := zh22
                have ze23 := R_f_Y_placeOf_0 (d + 2) Y T H H2 RA RB ST NS I0 I1 I2 BO_9 FI_10 RG GU PU MA MN MS OT SC r0 r1 r2 r3 w 192 r6 r7 r8 L Lg v4 v8 zh22
                suffices e : Ev (d + 3, 0, 0, 186, 93, [.val (.ref 832), .val (.int p1), .val (.int x3), .val (.int v4), .val (.int v8)], [.int x12, .int x3, .ref 769], (126, 120, L, [Y, T, H, H2, RA, RB, ST, NS, I0, I1, I2, BO_9, FI_10, RG, GU, PU, MA, MN, MS, OT, SC], [r0, r1, r2, r3, w, 192, r6, r7, r8], Lg)) o from ev_call (fun v μ => (d + 3, 0, 0, 186, 93, [.val (.ref 832), .val (.int p1), .val (.int x3), .val (.int v4), .val (.int v8)], v.toList ++ [.int x3, .ref 769], μ)) 7 ze23 e (fun n => Eq.refl _)
                obtain ⟨j13, zh24, zh17⟩ := bnd zh17
                have zh24 : ixx 10 x3 = some j13 := zh24
                suffices e : Ev (d + 3, 0, 0, 186, 94, [.val (.ref 832), .val (.int p1), .val (.int x3), .val (.int v4), .val (.int v8)], [], (126, 120, L, [Y, T, H, H2, RA, RB, ST, NS, I0, I1, I2, (u2 BO_9 1 j13 x12), FI_10, RG, GU, PU, MA, MN, MS, OT, SC], [r0, r1, r2, r3, w, 192, r6, r7, r8], Lg)) o from ev_opt (fun j13 => (d + 3, 0, 0, 186, 94, [.val (.ref 832), .val (.int p1), .val (.int x3), .val (.int v4), .val (.int v8)], [], (126, 120, L, [Y, T, H, H2, RA, RB, ST, NS, I0, I1, I2, (u2 BO_9 1 j13 x12), FI_10, RG, GU, PU, MA, MN, MS, OT, SC], [r0, r1, r2, r3, w, 192, r6, r7, r8], Lg))) 1 zh24 e (fun n => Eq.refl _)
                obtain ⟨⟨x14, BO_15, FI_16⟩, zh25, zh17⟩ := bnd zh17
                have zh25 : rc 0 H (u2 BO_9 1 j13 x12) FI_10 (p1 + 1) = some (x14, BO_15, FI_16) := zh25
                have ze26 := zrc0 Y T H H2 RA RB ST NS I0 I1 I2 (u2 BO_9 1 j13 x12) FI_10 RG GU PU MA MN MS OT SC r0 r1 r2 r3 w r6 r7 r8 L Lg (p1 + 1) _ zh25
                suffices e : Ev (d + 3, 0, 0, 186, 101, [.val (.ref 832), .val (.int p1), .val (.int x3), .val (.int v4), .val (.int v8)], [.int x14], (126, 120, L, [Y, T, H, H2, RA, RB, ST, NS, I0, I1, I2, BO_15, FI_16, RG, GU, PU, MA, MN, MS, OT, SC], [r0, r1, r2, r3, w, 192, r6, r7, r8], Lg)) o from ev_call (fun v μ => (d + 3, 0, 0, 186, 101, [.val (.ref 832), .val (.int p1), .val (.int x3), .val (.int v4), .val (.int v8)], v.toList ++ [], μ)) 5 ze26 e (fun n => Eq.refl _)
                by_cases zc27 : x14 = 0
                · have zh17 := itp zh17 zc27
                  suffices e : Ev (d + 3, 0, 0, 186, 106, [.val (.ref 832), .val (.int p1), .val (.int x3), .val (.int v4), .val (.int v8)], [], (126, 120, L, [Y, T, H, H2, RA, RB, ST, NS, I0, I1, I2, BO_15, FI_16, RG, GU, PU, MA, MN, MS, OT, SC], [r0, r1, r2, r3, w, 192, r6, r7, r8], Lg)) o from ev_t (c := x14 = 0) _ _ 1  zc27 e (fun n => Eq.refl _)
                  exact ev_b 2 (zi15 _ (Option.some.inj zh17).symm ()) (fun n => Eq.refl _)
                · have zh17 := itn zh17 zc27
                  suffices e : Ev (d + 3, 0, 0, 186, 104, [.val (.ref 832), .val (.int p1), .val (.int x3), .val (.int v4), .val (.int v8)], [], (126, 120, L, [Y, T, H, H2, RA, RB, ST, NS, I0, I1, I2, BO_15, FI_16, RG, GU, PU, MA, MN, MS, OT, SC], [r0, r1, r2, r3, w, 192, r6, r7, r8], Lg)) o from ev_f (c := x14 = 0) _ _ 1  zc27 e (fun n => Eq.refl _)
                  exact ev_rete 2 (zx16 _ (Option.some.inj zh17).symm _ rfl) (fun n => Eq.refl _)
          · rcases zb13 with ⟨BO_18, FI_19⟩ | zr18
            · intro s17
              exact ev_b 2 (zi8 _ (Option.some.inj zh10).symm s17) (fun n => Eq.refl _)
            · have zh28 : some zr18 = some _ := zh10
              exact fun c hc => zx9 c ((Option.some.inj zh28).symm.trans hc)
      · rcases zb6 with ⟨BO_22, FI_23⟩ | zr11
        · intro s20 s21
          obtain ⟨j24, zh30, h⟩ := bnd h
          have zh30 : ixx 10 x3 = some j24 := zh30
          suffices e : Ev (d + 3, 0, 0, 186, 128, [.val (.ref 832), .val (.int p1), .val (.int x3), .val s20, .val s21], [], (126, 120, L, [Y, T, H, H2, RA, RB, ST, NS, I0, I1, I2, (u2 BO_22 1 j24 (-1)), FI_23, RG, GU, PU, MA, MN, MS, OT, SC], [r0, r1, r2, r3, w, 192, r6, r7, r8], Lg)) o from ev_opt (fun j24 => (d + 3, 0, 0, 186, 128, [.val (.ref 832), .val (.int p1), .val (.int x3), .val s20, .val s21], [], (126, 120, L, [Y, T, H, H2, RA, RB, ST, NS, I0, I1, I2, (u2 BO_22 1 j24 (-1)), FI_23, RG, GU, PU, MA, MN, MS, OT, SC], [r0, r1, r2, r3, w, 192, r6, r7, r8], Lg))) 6 zh30 e (fun n => Eq.refl _)
          have ze31 := Option.some.inj h
          subst ze31
          exact ev_rete 2 ho (fun n => Eq.refl _)
        · have zh32 : some zr11 = some r := h
          exact (congrArg (fun q => ((0, some (.int q.1), (126, 120, L, [Y, T, H, H2, RA, RB, ST, NS, I0, I1, I2, q.2.1, q.2.2, RG, GU, PU, MA, MN, MS, OT, SC], [r0, r1, r2, r3, w, 192, r6, r7, r8], Lg)) : AOut)) (Option.some.inj zh32)).trans ho
    · have h := itn h zc4
      suffices e : Ev (d + 3, 0, 0, 186, 18, [.val (.ref 832), .val (.int p1), .val a_unk, .val a_unk, .val a_unk], [], (126, 120, L, [Y, T, H, H2, RA, RB, ST, NS, I0, I1, I2, BO, FI_2, RG, GU, PU, MA, MN, MS, OT, SC], [r0, r1, r2, r3, w, 192, r6, r7, r8], Lg)) o from ev_f (c := x1 ≠ 0) _ _ 1  zc4 e (fun n => Eq.refl _)
      have ze34 := Option.some.inj h
      subst ze34
      exact ev_rete 2 ho (fun n => Eq.refl _)
  · have h := itn h zc1
    suffices e : Ev (d + 3, 0, 0, 186, 8, [.val (.ref 832), .val (.int p1), .val a_unk, .val a_unk, .val a_unk], [], (126, 120, L, [Y, T, H, H2, RA, RB, ST, NS, I0, I1, I2, BO, FI, RG, GU, PU, MA, MN, MS, OT, SC], [r0, r1, r2, r3, w, 192, r6, r7, r8], Lg)) o from ev_f (c := p1 < (FI 0 6)) _ _ 4  zc1 e (fun n => Eq.refl _)
    have ze35 := Option.some.inj h
    subst ze35
    exact ev_rete 2 ho (fun n => Eq.refl _)
set_option maxRecDepth 1000000 in
set_option maxHeartbeats 4000000 in
theorem K_grp_cs_0 (n : Nat) : (∀ (d : Nat) (Y T H H2 RA RB ST NS I0 I1 I2 BO FI RG GU PU MA MN MS OT SC : Nat → Nat → Int32) (r0 r1 r2 r3 w r6 r7 r8 : Nat) (L : Nat) (Lg : Int64) (p1 : Int32) (r : Int32 × (Nat → Nat → Int32) × (Nat → Nat → Int32)), f_grp_cs n 0 H BO FI p1 = some r → Ev (d + (2 + n), 0, 0, 186, 0, [.val (.ref 832), .val (.int p1), .val a_unk, .val a_unk, .val a_unk], [], (126, 120, L, [Y, T, H, H2, RA, RB, ST, NS, I0, I1, I2, BO, FI, RG, GU, PU, MA, MN, MS, OT, SC], [r0, r1, r2, r3, w, 192, r6, r7, r8], Lg)) ((0, some (.int r.1), (126, 120, L, [Y, T, H, H2, RA, RB, ST, NS, I0, I1, I2, r.2.1, r.2.2, RG, GU, PU, MA, MN, MS, OT, SC], [r0, r1, r2, r3, w, 192, r6, r7, r8], Lg)) : AOut)) := by
  induction n with
  | zero => exact by intros; contradiction
  | succ n ih =>
    have i0 := ih
    refine ?_
    · intro d Y T H H2 RA RB ST NS I0 I1 I2 BO FI RG GU PU MA MN MS OT SC r0 r1 r2 r3 w r6 r7 r8 L Lg p1 r h
      rw [show d + (2 + (n + 1)) = d + n + 3 by omega]
      have j0 : ∀ (Y T H H2 RA RB ST NS I0 I1 I2 BO FI RG GU PU MA MN MS OT SC : Nat → Nat → Int32) (r0 r1 r2 r3 w r6 r7 r8 : Nat) (L : Nat) (Lg : Int64) (p1 : Int32) (r : Int32 × (Nat → Nat → Int32) × (Nat → Nat → Int32)), f_grp_cs n 0 H BO FI p1 = some r → Ev (d + n + 2, 0, 0, 186, 0, [.val (.ref 832), .val (.int p1), .val a_unk, .val a_unk, .val a_unk], [], (126, 120, L, [Y, T, H, H2, RA, RB, ST, NS, I0, I1, I2, BO, FI, RG, GU, PU, MA, MN, MS, OT, SC], [r0, r1, r2, r3, w, 192, r6, r7, r8], Lg)) ((0, some (.int r.1), (126, 120, L, [Y, T, H, H2, RA, RB, ST, NS, I0, I1, I2, r.2.1, r.2.2, RG, GU, PU, MA, MN, MS, OT, SC], [r0, r1, r2, r3, w, 192, r6, r7, r8], Lg)) : AOut) := by
        intro Y T H H2 RA RB ST NS I0 I1 I2 BO FI RG GU PU MA MN MS OT SC r0 r1 r2 r3 w r6 r7 r8 L Lg p1 r h
        have e := i0 d Y T H H2 RA RB ST NS I0 I1 I2 BO FI RG GU PU MA MN MS OT SC r0 r1 r2 r3 w r6 r7 r8 L Lg p1 r h
        rw [show d + (2 + n) = d + n + 2 by omega] at e
        exact e
      exact R_f_Fitter_seat_B_0 (d + n) (f_grp_cs n) j0 Y T H H2 RA RB ST NS I0 I1 I2 BO FI RG GU PU MA MN MS OT SC r0 r1 r2 r3 w r6 r7 r8 L Lg p1 h

set_option maxRecDepth 1000000 in
set_option maxHeartbeats 4000000 in
theorem R_f_Fitter_seatAll_0 (d : Nat) (Y T H H2 RA RB ST NS I0 I1 I2 BO FI RG GU PU MA MN MS OT SC : Nat → Nat → Int32) (r0 r1 r2 r3 w r6 r7 r8 : Nat) (L : Nat) (Lg : Int64) (p1 : Int32) (p2 : Int32) {r : Int32 × (Nat → Nat → Int32) × (Nat → Nat → Int32)} (h : f_Fitter_seatAll H BO FI p1 p2 = some r) : Ev (d + 15, 0, 0, 184, 0, [.val (.ref 832), .val (.int p1), .val (.int p2), .val a_unk], [], (126, 120, L, [Y, T, H, H2, RA, RB, ST, NS, I0, I1, I2, BO, FI, RG, GU, PU, MA, MN, MS, OT, SC], [r0, r1, r2, r3, w, 192, r6, r7, r8], Lg)) ((0, some (.int r.1), (126, 120, L, [Y, T, H, H2, RA, RB, ST, NS, I0, I1, I2, r.2.1, r.2.2, RG, GU, PU, MA, MN, MS, OT, SC], [r0, r1, r2, r3, w, 192, r6, r7, r8], Lg)) : AOut) := by
  suffices key : ∀ o : AOut, ((0, some (.int r.1), (126, 120, L, [Y, T, H, H2, RA, RB, ST, NS, I0, I1, I2, r.2.1, r.2.2, RG, GU, PU, MA, MN, MS, OT, SC], [r0, r1, r2, r3, w, 192, r6, r7, r8], Lg)) : AOut) = o → Ev (d + 15, 0, 0, 184, 0, [.val (.ref 832), .val (.int p1), .val (.int p2), .val a_unk], [], (126, 120, L, [Y, T, H, H2, RA, RB, ST, NS, I0, I1, I2, BO, FI, RG, GU, PU, MA, MN, MS, OT, SC], [r0, r1, r2, r3, w, 192, r6, r7, r8], Lg)) o from key _ rfl
  intro o ho
  obtain ⟨BO_6, zh2, h⟩ := bnd h
  suffices e : Ev (d + 15, 0, 0, 184, 2, [.val (.ref 832), .val (.int p1), .val (.int p2), .val (.int 0)], [], (126, 120, L, [Y, T, H, H2, RA, RB, ST, NS, I0, I1, I2, BO, FI, RG, GU, PU, MA, MN, MS, OT, SC], [r0, r1, r2, r3, w, 192, r6, r7, r8], Lg)) o from ev_b 2 e (fun n => Eq.refl _)
  refine ev_loop (δ := Unit) (fun a j => (d + 15, 0, 0, 184, 2, [.val (.ref 832), .val (.int p1), .val (.int p2), .val (.int a.1)], [], (126, 120, L, [Y, T, H, H2, RA, RB, ST, NS, I0, I1, I2, a.2, FI, RG, GU, PU, MA, MN, MS, OT, SC], [r0, r1, r2, r3, w, 192, r6, r7, r8], Lg))) (fun b => ∀ s5 : Value, Ev (d + 15, 0, 0, 184, 31, [.val (.ref 832), .val (.int p1), .val (.int p2), .val s5], [], (126, 120, L, [Y, T, H, H2, RA, RB, ST, NS, I0, I1, I2, b, FI, RG, GU, PU, MA, MN, MS, OT, SC], [r0, r1, r2, r3, w, 192, r6, r7, r8], Lg)) o) ?_ a_F (0, BO) BO_6 zh2 ?_ ()
  · rintro ⟨v1, BO_2⟩ zr6 zh5 zi3 zx4 ⟨⟩
    have zh5 : f_Fitter_seatAll_l2 FI v1 BO_2 = some zr6 := zh5
    by_cases zc7 : (FI 0 6) ≤ v1
    · have zh5 := itp zh5 zc7
      suffices e : Ev (d + 15, 0, 0, 184, 31, [.val (.ref 832), .val (.int p1), .val (.int p2), .val (.int v1)], [], (126, 120, L, [Y, T, H, H2, RA, RB, ST, NS, I0, I1, I2, BO_2, FI, RG, GU, PU, MA, MN, MS, OT, SC], [r0, r1, r2, r3, w, 192, r6, r7, r8], Lg)) o from ev_t (c := (FI 0 6) ≤ v1) _ _ 4  zc7 e (fun n => Eq.refl _)
      exact ev_b 0 (zx4 _ (Option.some.inj zh5).symm (.int v1)) (fun n => Eq.refl _)
    · have zh5 := itn zh5 zc7
      suffices e : Ev (d + 15, 0, 0, 184, 10, [.val (.ref 832), .val (.int p1), .val (.int p2), .val (.int v1)], [], (126, 120, L, [Y, T, H, H2, RA, RB, ST, NS, I0, I1, I2, BO_2, FI, RG, GU, PU, MA, MN, MS, OT, SC], [r0, r1, r2, r3, w, 192, r6, r7, r8], Lg)) o from ev_f (c := (FI 0 6) ≤ v1) _ _ 4  zc7 e (fun n => Eq.refl _)
      obtain ⟨x3, zh8, zh5⟩ := bnd zh5
      have zh8 : rdx (FI 4) 3 v1 = some x3 := zh8
      suffices e : Ev (d + 15, 0, 0, 184, 23, [.val (.ref 832), .val (.int p1), .val (.int p2), .val (.int v1)], [.int x3, .ref 769], (126, 120, L, [Y, T, H, H2, RA, RB, ST, NS, I0, I1, I2, BO_2, FI, RG, GU, PU, MA, MN, MS, OT, SC], [r0, r1, r2, r3, w, 192, r6, r7, r8], Lg)) o from ev_opt (fun x3 => (d + 15, 0, 0, 184, 23, [.val (.ref 832), .val (.int p1), .val (.int p2), .val (.int v1)], [.int x3, .ref 769], (126, 120, L, [Y, T, H, H2, RA, RB, ST, NS, I0, I1, I2, BO_2, FI, RG, GU, PU, MA, MN, MS, OT, SC], [r0, r1, r2, r3, w, 192, r6, r7, r8], Lg))) 7 zh8 e (fun n => Eq.refl _)
      obtain ⟨j4, zh9, zh5⟩ := bnd zh5
      have zh9 : ixx 10 x3 = some j4 := zh9
      suffices e : Ev (d + 15, 0, 0, 184, 25, [.val (.ref 832), .val (.int p1), .val (.int p2), .val (.int v1)], [], (126, 120, L, [Y, T, H, H2, RA, RB, ST, NS, I0, I1, I2, (u2 BO_2 1 j4 (-1)), FI, RG, GU, PU, MA, MN, MS, OT, SC], [r0, r1, r2, r3, w, 192, r6, r7, r8], Lg)) o from ev_opt (fun j4 => (d + 15, 0, 0, 184, 25, [.val (.ref 832), .val (.int p1), .val (.int p2), .val (.int v1)], [], (126, 120, L, [Y, T, H, H2, RA, RB, ST, NS, I0, I1, I2, (u2 BO_2 1 j4 (-1)), FI, RG, GU, PU, MA, MN, MS, OT, SC], [r0, r1, r2, r3, w, 192, r6, r7, r8], Lg))) 2 zh9 e (fun n => Eq.refl _)
      exact ev_b 2 (zi3 _ (Option.some.inj zh5).symm ()) (fun n => Eq.refl _)
  · skip
    intro s5
    obtain ⟨j7, zh10, h⟩ := bnd h
    have zh10 : ixx 10 p1 = some j7 := zh10
    suffices e : Ev (d + 15, 0, 0, 184, 41, [.val (.ref 832), .val (.int p1), .val (.int p2), .val s5], [], (126, 120, L, [Y, T, H, H2, RA, RB, ST, NS, I0, I1, I2, (u2 BO_6 1 j7 p2), FI, RG, GU, PU, MA, MN, MS, OT, SC], [r0, r1, r2, r3, w, 192, r6, r7, r8], Lg)) o from ev_opt (fun j7 => (d + 15, 0, 0, 184, 41, [.val (.ref 832), .val (.int p1), .val (.int p2), .val s5], [], (126, 120, L, [Y, T, H, H2, RA, RB, ST, NS, I0, I1, I2, (u2 BO_6 1 j7 p2), FI, RG, GU, PU, MA, MN, MS, OT, SC], [r0, r1, r2, r3, w, 192, r6, r7, r8], Lg))) 6 zh10 e (fun n => Eq.refl _)
    obtain ⟨x8, zh11, h⟩ := bnd h
    have zh11 : f_Board_isOpen H (u2 BO_6 1 j7 p2) p1 p2 = some x8 := zh11
    have ze12 := R_f_Board_isOpen_0 (d + 12) Y T H H2 RA RB ST NS I0 I1 I2 (u2 BO_6 1 j7 p2) FI RG GU PU MA MN MS OT SC r0 r1 r2 r3 w r6 r7 r8 L Lg p1 p2 zh11
    suffices e : Ev (d + 15, 0, 0, 184, 50, [.val (.ref 832), .val (.int p1), .val (.int p2), .val s5], [.int x8], (126, 120, L, [Y, T, H, H2, RA, RB, ST, NS, I0, I1, I2, (u2 BO_6 1 j7 p2), FI, RG, GU, PU, MA, MN, MS, OT, SC], [r0, r1, r2, r3, w, 192, r6, r7, r8], Lg)) o from ev_call (fun v μ => (d + 15, 0, 0, 184, 50, [.val (.ref 832), .val (.int p1), .val (.int p2), .val s5], v.toList ++ [], μ)) 5 ze12 e (fun n => Eq.refl _)
    by_cases zc13 : x8 ≠ 0
    · have h := itp h zc13
      suffices e : Ev (d + 15, 0, 0, 184, 55, [.val (.ref 832), .val (.int p1), .val (.int p2), .val s5], [], (126, 120, L, [Y, T, H, H2, RA, RB, ST, NS, I0, I1, I2, (u2 BO_6 1 j7 p2), FI, RG, GU, PU, MA, MN, MS, OT, SC], [r0, r1, r2, r3, w, 192, r6, r7, r8], Lg)) o from ev_t (c := x8 ≠ 0) _ _ 1  zc13 e (fun n => Eq.refl _)
      obtain ⟨zb14, zh15, h⟩ := bnd h
      suffices e : Ev (d + 15, 0, 0, 184, 57, [.val (.ref 832), .val (.int p1), .val (.int p2), .val (.int 0)], [], (126, 120, L, [Y, T, H, H2, RA, RB, ST, NS, I0, I1, I2, (u2 BO_6 1 j7 p2), FI, RG, GU, PU, MA, MN, MS, OT, SC], [r0, r1, r2, r3, w, 192, r6, r7, r8], Lg)) o from ev_b 2 e (fun n => Eq.refl _)
      refine ev_loop (δ := Unit) (fun a j => (d + 15, 0, 0, 184, 57, [.val (.ref 832), .val (.int p1), .val (.int p2), .val (.int a.1)], [], (126, 120, L, [Y, T, H, H2, RA, RB, ST, NS, I0, I1, I2, (u2 BO_6 1 j7 p2), a.2, RG, GU, PU, MA, MN, MS, OT, SC], [r0, r1, r2, r3, w, 192, r6, r7, r8], Lg))) (fun b => sumE b (fun b => ∀ s13 : Value, Ev (d + 15, 0, 0, 184, 81, [.val (.ref 832), .val (.int p1), .val (.int p2), .val s13], [], (126, 120, L, [Y, T, H, H2, RA, RB, ST, NS, I0, I1, I2, (u2 BO_6 1 j7 p2), b, RG, GU, PU, MA, MN, MS, OT, SC], [r0, r1, r2, r3, w, 192, r6, r7, r8], Lg)) o) (fun b => ((0, some (.int b.1), (126, 120, L, [Y, T, H, H2, RA, RB, ST, NS, I0, I1, I2, b.2.1, b.2.2, RG, GU, PU, MA, MN, MS, OT, SC], [r0, r1, r2, r3, w, 192, r6, r7, r8], Lg)) : AOut) = o)) ?_ a_F (0, FI) zb14 zh15 ?_ ()
      · rintro ⟨v9, FI_10⟩ zr19 zh18 zi16 zx17 ⟨⟩
        have zh18 : f_Fitter_seatAll_l57 H BO_6 j7 p2 v9 FI_10 = some zr19 := zh18
        by_cases zc20 : (FI_10 0 6) ≤ v9
        · have zh18 := itp zh18 zc20
          suffices e : Ev (d + 15, 0, 0, 184, 81, [.val (.ref 832), .val (.int p1), .val (.int p2), .val (.int v9)], [], (126, 120, L, [Y, T, H, H2, RA, RB, ST, NS, I0, I1, I2, (u2 BO_6 1 j7 p2), FI_10, RG, GU, PU, MA, MN, MS, OT, SC], [r0, r1, r2, r3, w, 192, r6, r7, r8], Lg)) o from ev_t (c := (FI_10 0 6) ≤ v9) _ _ 4  zc20 e (fun n => Eq.refl _)
          exact ev_b 0 (zx17 _ (Option.some.inj zh18).symm (.int v9)) (fun n => Eq.refl _)
        · have zh18 := itn zh18 zc20
          suffices e : Ev (d + 15, 0, 0, 184, 65, [.val (.ref 832), .val (.int p1), .val (.int p2), .val (.int v9)], [], (126, 120, L, [Y, T, H, H2, RA, RB, ST, NS, I0, I1, I2, (u2 BO_6 1 j7 p2), FI_10, RG, GU, PU, MA, MN, MS, OT, SC], [r0, r1, r2, r3, w, 192, r6, r7, r8], Lg)) o from ev_f (c := (FI_10 0 6) ≤ v9) _ _ 4  zc20 e (fun n => Eq.refl _)
          obtain ⟨⟨x11, FI_12⟩, zh21, zh18⟩ := bnd zh18
          have zh21 : f_Fitter_findOpen H (u2 BO_6 1 j7 p2) FI_10 v9 = some (x11, FI_12) := zh21
          have ze22 := R_f_Fitter_findOpen_0 (d + 12) Y T H H2 RA RB ST NS I0 I1 I2 (u2 BO_6 1 j7 p2) FI_10 RG GU PU MA MN MS OT SC r0 r1 r2 r3 w r6 r7 r8 L Lg v9 zh21
          suffices e : Ev (d + 15, 0, 0, 184, 70, [.val (.ref 832), .val (.int p1), .val (.int p2), .val (.int v9)], [.int x11], (126, 120, L, [Y, T, H, H2, RA, RB, ST, NS, I0, I1, I2, (u2 BO_6 1 j7 p2), FI_12, RG, GU, PU, MA, MN, MS, OT, SC], [r0, r1, r2, r3, w, 192, r6, r7, r8], Lg)) o from ev_call (fun v μ => (d + 15, 0, 0, 184, 70, [.val (.ref 832), .val (.int p1), .val (.int p2), .val (.int v9)], v.toList ++ [], μ)) 3 ze22 e (fun n => Eq.refl _)
          by_cases zc23 : x11 ≠ 0
          · have zh18 := itp zh18 zc23
            suffices e : Ev (d + 15, 0, 0, 184, 75, [.val (.ref 832), .val (.int p1), .val (.int p2), .val (.int v9)], [], (126, 120, L, [Y, T, H, H2, RA, RB, ST, NS, I0, I1, I2, (u2 BO_6 1 j7 p2), FI_12, RG, GU, PU, MA, MN, MS, OT, SC], [r0, r1, r2, r3, w, 192, r6, r7, r8], Lg)) o from ev_t (c := x11 ≠ 0) _ _ 1  zc23 e (fun n => Eq.refl _)
            exact ev_b 2 (zi16 _ (Option.some.inj zh18).symm ()) (fun n => Eq.refl _)
          · have zh18 := itn zh18 zc23
            suffices e : Ev (d + 15, 0, 0, 184, 73, [.val (.ref 832), .val (.int p1), .val (.int p2), .val (.int v9)], [], (126, 120, L, [Y, T, H, H2, RA, RB, ST, NS, I0, I1, I2, (u2 BO_6 1 j7 p2), FI_12, RG, GU, PU, MA, MN, MS, OT, SC], [r0, r1, r2, r3, w, 192, r6, r7, r8], Lg)) o from ev_f (c := x11 ≠ 0) _ _ 1  zc23 e (fun n => Eq.refl _)
            exact ev_rete 2 (zx17 _ (Option.some.inj zh18).symm) (fun n => Eq.refl _)
      · rcases zb14 with FI_14 | zr19
        · intro s13
          obtain ⟨⟨x15, BO_16, FI_17⟩, zh24, h⟩ := bnd h
          have zh24 : f_grp_cs 12 0 H (u2 BO_6 1 j7 p2) FI_14 0 = some (x15, BO_16, FI_17) := zh24
          have ze25 := (K_grp_cs_0 12) (d + 0) Y T H H2 RA RB ST NS I0 I1 I2 (u2 BO_6 1 j7 p2) FI_14 RG GU PU MA MN MS OT SC r0 r1 r2 r3 w r6 r7 r8 L Lg 0 _ zh24
          suffices e : Ev (d + 15, 0, 0, 184, 86, [.val (.ref 832), .val (.int p1), .val (.int p2), .val s13], [.int x15], (126, 120, L, [Y, T, H, H2, RA, RB, ST, NS, I0, I1, I2, BO_16, FI_17, RG, GU, PU, MA, MN, MS, OT, SC], [r0, r1, r2, r3, w, 192, r6, r7, r8], Lg)) o from ev_call (fun v μ => (d + 15, 0, 0, 184, 86, [.val (.ref 832), .val (.int p1), .val (.int p2), .val s13], v.toList ++ [], μ)) 3 ze25 e (fun n => Eq.refl _)
          have ze26 := Option.some.inj h
          subst ze26
          exact ev_rete 1 ho (fun n => Eq.refl _)
        · have zh27 : some zr19 = some r := h
          exact (congrArg (fun q => ((0, some (.int q.1), (126, 120, L, [Y, T, H, H2, RA, RB, ST, NS, I0, I1, I2, q.2.1, q.2.2, RG, GU, PU, MA, MN, MS, OT, SC], [r0, r1, r2, r3, w, 192, r6, r7, r8], Lg)) : AOut)) (Option.some.inj zh27)).trans ho
    · have h := itn h zc13
      suffices e : Ev (d + 15, 0, 0, 184, 53, [.val (.ref 832), .val (.int p1), .val (.int p2), .val s5], [], (126, 120, L, [Y, T, H, H2, RA, RB, ST, NS, I0, I1, I2, (u2 BO_6 1 j7 p2), FI, RG, GU, PU, MA, MN, MS, OT, SC], [r0, r1, r2, r3, w, 192, r6, r7, r8], Lg)) o from ev_f (c := x8 ≠ 0) _ _ 1  zc13 e (fun n => Eq.refl _)
      have ze29 := Option.some.inj h
      subst ze29
      exact ev_rete 2 ho (fun n => Eq.refl _)
set_option maxRecDepth 1000000 in
set_option maxHeartbeats 4000000 in
theorem R_f_Fitter_keepFewest_0 (d : Nat) (Y T H H2 RA RB ST NS I0 I1 I2 BO FI RG GU PU MA MN MS OT SC : Nat → Nat → Int32) (r0 r1 r2 r3 w r6 r7 r8 : Nat) (L : Nat) (Lg : Int64) (p1 : Int32) (p2 : Int32) {r : (Nat → Nat → Int32)} (h : f_Fitter_keepFewest BO FI p1 p2 = some r) : Ev (d + 1, 0, 0, 183, 0, [.val (.ref 832), .val (.int p1), .val (.int p2), .val a_unk], [], (126, 120, L, [Y, T, H, H2, RA, RB, ST, NS, I0, I1, I2, BO, FI, RG, GU, PU, MA, MN, MS, OT, SC], [r0, r1, r2, r3, w, 192, r6, r7, r8], Lg)) ((0, none, (126, 120, L, [Y, T, H, H2, RA, RB, ST, NS, I0, I1, I2, BO, r, RG, GU, PU, MA, MN, MS, OT, SC], [r0, r1, r2, r3, w, 192, r6, r7, r8], Lg)) : AOut) := by
  suffices key : ∀ o : AOut, ((0, none, (126, 120, L, [Y, T, H, H2, RA, RB, ST, NS, I0, I1, I2, BO, r, RG, GU, PU, MA, MN, MS, OT, SC], [r0, r1, r2, r3, w, 192, r6, r7, r8], Lg)) : AOut) = o → Ev (d + 1, 0, 0, 183, 0, [.val (.ref 832), .val (.int p1), .val (.int p2), .val a_unk], [], (126, 120, L, [Y, T, H, H2, RA, RB, ST, NS, I0, I1, I2, BO, FI, RG, GU, PU, MA, MN, MS, OT, SC], [r0, r1, r2, r3, w, 192, r6, r7, r8], Lg)) o from key _ rfl
  intro o ho
  have ze1 := R_fill (d + 0) 834 (-1) [Y, T, H, H2, RA, RB, ST, NS, I0, I1, I2, BO, (u2 (u2 FI 0 8 (FI 0 6)) 0 9 p2), RG, GU, PU, MA, MN, MS, OT, SC] [r0, r1, r2, r3, w, 192, r6, r7, r8] L Lg 126 120 rfl rfl (Nat.le_of_ble_eq_true rfl) (Nat.le_of_ble_eq_true rfl)
  suffices e : Ev (d + 1, 0, 0, 183, 21, [.val (.ref 832), .val (.int p1), .val (.int p2), .val a_unk], [], (126, 120, L, [Y, T, H, H2, RA, RB, ST, NS, I0, I1, I2, BO, (u1 (u2 (u2 FI 0 8 (FI 0 6)) 0 9 p2) 2 (filM ((u2 (u2 FI 0 8 (FI 0 6)) 0 9 p2) 2) 10 (-1))), RG, GU, PU, MA, MN, MS, OT, SC], [r0, r1, r2, r3, w, 192, r6, r7, r8], Lg)) o from ev_call (fun v μ => (d + 1, 0, 0, 183, 21, [.val (.ref 832), .val (.int p1), .val (.int p2), .val a_unk], v.toList ++ [], μ)) 11 ze1 e (fun n => Eq.refl _)
  obtain ⟨x1, zh2, h⟩ := bnd h
  have zh2 : rdx (BO 1) 10 p1 = some x1 := zh2
  suffices e : Ev (d + 1, 0, 0, 183, 35, [.val (.ref 832), .val (.int p1), .val (.int p2), .val a_unk], [.int x1, .int p1, .ref 834], (126, 120, L, [Y, T, H, H2, RA, RB, ST, NS, I0, I1, I2, BO, (u1 (u2 (u2 FI 0 8 (FI 0 6)) 0 9 p2) 2 (filM ((u2 (u2 FI 0 8 (FI 0 6)) 0 9 p2) 2) 10 (-1))), RG, GU, PU, MA, MN, MS, OT, SC], [r0, r1, r2, r3, w, 192, r6, r7, r8], Lg)) o from ev_opt (fun x1 => (d + 1, 0, 0, 183, 35, [.val (.ref 832), .val (.int p1), .val (.int p2), .val a_unk], [.int x1, .int p1, .ref 834], (126, 120, L, [Y, T, H, H2, RA, RB, ST, NS, I0, I1, I2, BO, (u1 (u2 (u2 FI 0 8 (FI 0 6)) 0 9 p2) 2 (filM ((u2 (u2 FI 0 8 (FI 0 6)) 0 9 p2) 2) 10 (-1))), RG, GU, PU, MA, MN, MS, OT, SC], [r0, r1, r2, r3, w, 192, r6, r7, r8], Lg))) 8 zh2 e (fun n => Eq.refl _)
  obtain ⟨j2, zh3, h⟩ := bnd h
  have zh3 : ixx 10 p1 = some j2 := zh3
  suffices e : Ev (d + 1, 0, 0, 183, 36, [.val (.ref 832), .val (.int p1), .val (.int p2), .val a_unk], [], (126, 120, L, [Y, T, H, H2, RA, RB, ST, NS, I0, I1, I2, BO, (u2 (u1 (u2 (u2 FI 0 8 (FI 0 6)) 0 9 p2) 2 (filM ((u2 (u2 FI 0 8 (FI 0 6)) 0 9 p2) 2) 10 (-1))) 2 j2 x1), RG, GU, PU, MA, MN, MS, OT, SC], [r0, r1, r2, r3, w, 192, r6, r7, r8], Lg)) o from ev_opt (fun j2 => (d + 1, 0, 0, 183, 36, [.val (.ref 832), .val (.int p1), .val (.int p2), .val a_unk], [], (126, 120, L, [Y, T, H, H2, RA, RB, ST, NS, I0, I1, I2, BO, (u2 (u1 (u2 (u2 FI 0 8 (FI 0 6)) 0 9 p2) 2 (filM ((u2 (u2 FI 0 8 (FI 0 6)) 0 9 p2) 2) 10 (-1))) 2 j2 x1), RG, GU, PU, MA, MN, MS, OT, SC], [r0, r1, r2, r3, w, 192, r6, r7, r8], Lg))) 1 zh3 e (fun n => Eq.refl _)
  obtain ⟨FI_10, zh5, h⟩ := bnd h
  suffices e : Ev (d + 1, 0, 0, 183, 38, [.val (.ref 832), .val (.int p1), .val (.int p2), .val (.int 0)], [], (126, 120, L, [Y, T, H, H2, RA, RB, ST, NS, I0, I1, I2, BO, (u2 (u1 (u2 (u2 FI 0 8 (FI 0 6)) 0 9 p2) 2 (filM ((u2 (u2 FI 0 8 (FI 0 6)) 0 9 p2) 2) 10 (-1))) 2 j2 x1), RG, GU, PU, MA, MN, MS, OT, SC], [r0, r1, r2, r3, w, 192, r6, r7, r8], Lg)) o from ev_b 2 e (fun n => Eq.refl _)
  refine ev_loop (δ := Unit) (fun a j => (d + 1, 0, 0, 183, 38, [.val (.ref 832), .val (.int p1), .val (.int p2), .val (.int a.1)], [], (126, 120, L, [Y, T, H, H2, RA, RB, ST, NS, I0, I1, I2, BO, a.2, RG, GU, PU, MA, MN, MS, OT, SC], [r0, r1, r2, r3, w, 192, r6, r7, r8], Lg))) (fun b => ∀ s9 : Value, Ev (d + 1, 0, 0, 183, 77, [.val (.ref 832), .val (.int p1), .val (.int p2), .val s9], [], (126, 120, L, [Y, T, H, H2, RA, RB, ST, NS, I0, I1, I2, BO, b, RG, GU, PU, MA, MN, MS, OT, SC], [r0, r1, r2, r3, w, 192, r6, r7, r8], Lg)) o) ?_ a_F (0, (u2 (u1 (u2 (u2 FI 0 8 (FI 0 6)) 0 9 p2) 2 (filM ((u2 (u2 FI 0 8 (FI 0 6)) 0 9 p2) 2) 10 (-1))) 2 j2 x1)) FI_10 zh5 ?_ ()
  · rintro ⟨v3, FI_4⟩ zr9 zh8 zi6 zx7 ⟨⟩
    have zh8 : f_Fitter_keepFewest_l38 BO v3 FI_4 = some zr9 := zh8
    by_cases zc10 : (FI_4 0 6) ≤ v3
    · have zh8 := itp zh8 zc10
      suffices e : Ev (d + 1, 0, 0, 183, 77, [.val (.ref 832), .val (.int p1), .val (.int p2), .val (.int v3)], [], (126, 120, L, [Y, T, H, H2, RA, RB, ST, NS, I0, I1, I2, BO, FI_4, RG, GU, PU, MA, MN, MS, OT, SC], [r0, r1, r2, r3, w, 192, r6, r7, r8], Lg)) o from ev_t (c := (FI_4 0 6) ≤ v3) _ _ 4  zc10 e (fun n => Eq.refl _)
      exact ev_b 0 (zx7 _ (Option.some.inj zh8).symm (.int v3)) (fun n => Eq.refl _)
    · have zh8 := itn zh8 zc10
      suffices e : Ev (d + 1, 0, 0, 183, 46, [.val (.ref 832), .val (.int p1), .val (.int p2), .val (.int v3)], [], (126, 120, L, [Y, T, H, H2, RA, RB, ST, NS, I0, I1, I2, BO, FI_4, RG, GU, PU, MA, MN, MS, OT, SC], [r0, r1, r2, r3, w, 192, r6, r7, r8], Lg)) o from ev_f (c := (FI_4 0 6) ≤ v3) _ _ 4  zc10 e (fun n => Eq.refl _)
      obtain ⟨x5, zh11, zh8⟩ := bnd zh8
      have zh11 : rdx (FI_4 4) 3 v3 = some x5 := zh11
      suffices e : Ev (d + 1, 0, 0, 183, 56, [.val (.ref 832), .val (.int p1), .val (.int p2), .val (.int v3)], [.int x5, .ref 834], (126, 120, L, [Y, T, H, H2, RA, RB, ST, NS, I0, I1, I2, BO, FI_4, RG, GU, PU, MA, MN, MS, OT, SC], [r0, r1, r2, r3, w, 192, r6, r7, r8], Lg)) o from ev_opt (fun x5 => (d + 1, 0, 0, 183, 56, [.val (.ref 832), .val (.int p1), .val (.int p2), .val (.int v3)], [.int x5, .ref 834], (126, 120, L, [Y, T, H, H2, RA, RB, ST, NS, I0, I1, I2, BO, FI_4, RG, GU, PU, MA, MN, MS, OT, SC], [r0, r1, r2, r3, w, 192, r6, r7, r8], Lg))) 6 zh11 e (fun n => Eq.refl _)
      obtain ⟨x6, zh12, zh8⟩ := bnd zh8
      have zh12 : rdx (FI_4 4) 3 v3 = some x6 := zh12
      suffices e : Ev (d + 1, 0, 0, 183, 69, [.val (.ref 832), .val (.int p1), .val (.int p2), .val (.int v3)], [.int x6, .ref 769, .int x5, .ref 834], (126, 120, L, [Y, T, H, H2, RA, RB, ST, NS, I0, I1, I2, BO, FI_4, RG, GU, PU, MA, MN, MS, OT, SC], [r0, r1, r2, r3, w, 192, r6, r7, r8], Lg)) o from ev_opt (fun x6 => (d + 1, 0, 0, 183, 69, [.val (.ref 832), .val (.int p1), .val (.int p2), .val (.int v3)], [.int x6, .ref 769, .int x5, .ref 834], (126, 120, L, [Y, T, H, H2, RA, RB, ST, NS, I0, I1, I2, BO, FI_4, RG, GU, PU, MA, MN, MS, OT, SC], [r0, r1, r2, r3, w, 192, r6, r7, r8], Lg))) 7 zh12 e (fun n => Eq.refl _)
      obtain ⟨x7, zh13, zh8⟩ := bnd zh8
      have zh13 : rdx (BO 1) 10 x6 = some x7 := zh13
      suffices e : Ev (d + 1, 0, 0, 183, 70, [.val (.ref 832), .val (.int p1), .val (.int p2), .val (.int v3)], [.int x7, .int x5, .ref 834], (126, 120, L, [Y, T, H, H2, RA, RB, ST, NS, I0, I1, I2, BO, FI_4, RG, GU, PU, MA, MN, MS, OT, SC], [r0, r1, r2, r3, w, 192, r6, r7, r8], Lg)) o from ev_opt (fun x7 => (d + 1, 0, 0, 183, 70, [.val (.ref 832), .val (.int p1), .val (.int p2), .val (.int v3)], [.int x7, .int x5, .ref 834], (126, 120, L, [Y, T, H, H2, RA, RB, ST, NS, I0, I1, I2, BO, FI_4, RG, GU, PU, MA, MN, MS, OT, SC], [r0, r1, r2, r3, w, 192, r6, r7, r8], Lg))) 1 zh13 e (fun n => Eq.refl _)
      obtain ⟨j8, zh14, zh8⟩ := bnd zh8
      have zh14 : ixx 10 x5 = some j8 := zh14
      suffices e : Ev (d + 1, 0, 0, 183, 71, [.val (.ref 832), .val (.int p1), .val (.int p2), .val (.int v3)], [], (126, 120, L, [Y, T, H, H2, RA, RB, ST, NS, I0, I1, I2, BO, (u2 FI_4 2 j8 x7), RG, GU, PU, MA, MN, MS, OT, SC], [r0, r1, r2, r3, w, 192, r6, r7, r8], Lg)) o from ev_opt (fun j8 => (d + 1, 0, 0, 183, 71, [.val (.ref 832), .val (.int p1), .val (.int p2), .val (.int v3)], [], (126, 120, L, [Y, T, H, H2, RA, RB, ST, NS, I0, I1, I2, BO, (u2 FI_4 2 j8 x7), RG, GU, PU, MA, MN, MS, OT, SC], [r0, r1, r2, r3, w, 192, r6, r7, r8], Lg))) 1 zh14 e (fun n => Eq.refl _)
      exact ev_b 2 (zi6 _ (Option.some.inj zh8).symm ()) (fun n => Eq.refl _)
  · skip
    intro s9
    have ze15 := Option.some.inj h
    subst ze15
    exact ev_rete 1 ho (fun n => Eq.refl _)
set_option maxRecDepth 1000000 in
set_option maxHeartbeats 4000000 in
theorem R_f_Fitter_tryRooms_0 (d : Nat) (Y T H H2 RA RB ST NS I0 I1 I2 BO FI RG GU PU MA MN MS OT SC : Nat → Nat → Int32) (r0 r1 r2 r3 w r6 r7 r8 : Nat) (L : Nat) (Lg : Int64) (p1 : Int32) (p2 : Int32) (p3 : Int32) {r : (Nat → Nat → Int32) × (Nat → Nat → Int32)} (h : f_Fitter_tryRooms H BO FI p1 p2 p3 = some r) : Ev (d + 16, 0, 0, 181, 0, [.val (.ref 832), .val (.int p1), .val (.int p2), .val (.int p3), .val a_unk, .val a_unk, .val a_unk, .val a_unk, .val a_unk, .val a_unk, .val a_unk, .val a_unk], [], (126, 120, L, [Y, T, H, H2, RA, RB, ST, NS, I0, I1, I2, BO, FI, RG, GU, PU, MA, MN, MS, OT, SC], [r0, r1, r2, r3, w, 192, r6, r7, r8], Lg)) ((0, none, (126, 120, L, [Y, T, H, H2, RA, RB, ST, NS, I0, I1, I2, r.1, r.2, RG, GU, PU, MA, MN, MS, OT, SC], [r0, r1, r2, r3, w, 192, r6, r7, r8], Lg)) : AOut) := by
  suffices key : ∀ o : AOut, ((0, none, (126, 120, L, [Y, T, H, H2, RA, RB, ST, NS, I0, I1, I2, r.1, r.2, RG, GU, PU, MA, MN, MS, OT, SC], [r0, r1, r2, r3, w, 192, r6, r7, r8], Lg)) : AOut) = o → Ev (d + 16, 0, 0, 181, 0, [.val (.ref 832), .val (.int p1), .val (.int p2), .val (.int p3), .val a_unk, .val a_unk, .val a_unk, .val a_unk, .val a_unk, .val a_unk, .val a_unk, .val a_unk], [], (126, 120, L, [Y, T, H, H2, RA, RB, ST, NS, I0, I1, I2, BO, FI, RG, GU, PU, MA, MN, MS, OT, SC], [r0, r1, r2, r3, w, 192, r6, r7, r8], Lg)) o from key _ rfl
  intro o ho
  suffices e : Ev (d + 16, 0, 0, 181, 7, [.val (.ref 832), .val (.int p1), .val (.int p2), .val (.int p3), .val a_unk, .val a_unk, .val a_unk, .val a_unk, .val a_unk, .val a_unk, .val a_unk, .val a_unk], [.ref 192], (126, 120, L, [Y, T, H, H2, RA, RB, ST, NS, I0, I1, I2, BO, FI, RG, GU, PU, MA, MN, MS, OT, SC], [r0, r1, r2, r3, w, 192, r6, r7, r8], Lg)) o from ev_b 3 e (fun n => Eq.refl _)
  obtain ⟨FI_1, zh1, h⟩ := bnd h
  have zh1 : f_Fitter_listOthers H FI p3 = some FI_1 := zh1
  have ze2 := R_f_Fitter_listOthers_0 (d + 15) Y T H H2 RA RB ST NS I0 I1 I2 BO FI RG GU PU MA MN MS OT SC r0 r1 r2 r3 w r6 r7 r8 L Lg p3 zh1
  suffices e : Ev (d + 16, 0, 0, 181, 14, [.val (.ref 832), .val (.int p1), .val (.int p2), .val (.int p3), .val (.ref 192), .val a_unk, .val a_unk, .val a_unk, .val a_unk, .val a_unk, .val a_unk, .val a_unk], [], (126, 120, L, [Y, T, H, H2, RA, RB, ST, NS, I0, I1, I2, BO, FI_1, RG, GU, PU, MA, MN, MS, OT, SC], [r0, r1, r2, r3, w, 192, r6, r7, r8], Lg)) o from ev_call (fun v μ => (d + 16, 0, 0, 181, 14, [.val (.ref 832), .val (.int p1), .val (.int p2), .val (.int p3), .val (.ref 192), .val a_unk, .val a_unk, .val a_unk, .val a_unk, .val a_unk, .val a_unk, .val a_unk], v.toList ++ [], μ)) 4 ze2 e (fun n => Eq.refl _)
  obtain ⟨v6, zh4, h⟩ := bnd h
  suffices e : Ev (d + 16, 0, 0, 181, 20, [.val (.ref 832), .val (.int p1), .val (.int p2), .val (.int p3), .val (.ref 192), .val (.int 0), .val (.int 0), .val a_unk, .val a_unk, .val a_unk, .val a_unk, .val a_unk], [], (126, 120, L, [Y, T, H, H2, RA, RB, ST, NS, I0, I1, I2, BO, FI_1, RG, GU, PU, MA, MN, MS, OT, SC], [r0, r1, r2, r3, w, 192, r6, r7, r8], Lg)) o from ev_b 4 e (fun n => Eq.refl _)
  refine ev_loop (δ := Unit) (fun a j => (d + 16, 0, 0, 181, 20, [.val (.ref 832), .val (.int p1), .val (.int p2), .val (.int p3), .val (.ref 192), .val (.int a.1), .val (.int a.2), .val a_unk, .val a_unk, .val a_unk, .val a_unk, .val a_unk], [], (126, 120, L, [Y, T, H, H2, RA, RB, ST, NS, I0, I1, I2, BO, FI_1, RG, GU, PU, MA, MN, MS, OT, SC], [r0, r1, r2, r3, w, 192, r6, r7, r8], Lg))) (fun b => ∀ s7 : Value, Ev (d + 16, 0, 0, 181, 52, [.val (.ref 832), .val (.int p1), .val (.int p2), .val (.int p3), .val (.ref 192), .val (.int b), .val s7, .val a_unk, .val a_unk, .val a_unk, .val a_unk, .val a_unk], [], (126, 120, L, [Y, T, H, H2, RA, RB, ST, NS, I0, I1, I2, BO, FI_1, RG, GU, PU, MA, MN, MS, OT, SC], [r0, r1, r2, r3, w, 192, r6, r7, r8], Lg)) o) ?_ a_F (0, 0) v6 zh4 ?_ ()
  · rintro ⟨v2, v3⟩ zr8 zh7 zi5 zx6 ⟨⟩
    have zh7 : f_Fitter_tryRooms_l20 H FI_1 v2 v3 = some zr8 := zh7
    by_cases zc9 : (FI_1 0 6) ≤ v3
    · have zh7 := itp zh7 zc9
      suffices e : Ev (d + 16, 0, 0, 181, 52, [.val (.ref 832), .val (.int p1), .val (.int p2), .val (.int p3), .val (.ref 192), .val (.int v2), .val (.int v3), .val a_unk, .val a_unk, .val a_unk, .val a_unk, .val a_unk], [], (126, 120, L, [Y, T, H, H2, RA, RB, ST, NS, I0, I1, I2, BO, FI_1, RG, GU, PU, MA, MN, MS, OT, SC], [r0, r1, r2, r3, w, 192, r6, r7, r8], Lg)) o from ev_t (c := (FI_1 0 6) ≤ v3) _ _ 4  zc9 e (fun n => Eq.refl _)
      exact ev_b 0 (zx6 _ (Option.some.inj zh7).symm (.int v3)) (fun n => Eq.refl _)
    · have zh7 := itn zh7 zc9
      suffices e : Ev (d + 16, 0, 0, 181, 29, [.val (.ref 832), .val (.int p1), .val (.int p2), .val (.int p3), .val (.ref 192), .val (.int v2), .val (.int v3), .val a_unk, .val a_unk, .val a_unk, .val a_unk, .val a_unk], [], (126, 120, L, [Y, T, H, H2, RA, RB, ST, NS, I0, I1, I2, BO, FI_1, RG, GU, PU, MA, MN, MS, OT, SC], [r0, r1, r2, r3, w, 192, r6, r7, r8], Lg)) o from ev_f (c := (FI_1 0 6) ≤ v3) _ _ 4  zc9 e (fun n => Eq.refl _)
      obtain ⟨x4, zh10, zh7⟩ := bnd zh7
      have zh10 : rdx (FI_1 4) 3 v3 = some x4 := zh10
      suffices e : Ev (d + 16, 0, 0, 181, 40, [.val (.ref 832), .val (.int p1), .val (.int p2), .val (.int p3), .val (.ref 192), .val (.int v2), .val (.int v3), .val a_unk, .val a_unk, .val a_unk, .val a_unk, .val a_unk], [.int x4, .ref 192, .int v2], (126, 120, L, [Y, T, H, H2, RA, RB, ST, NS, I0, I1, I2, BO, FI_1, RG, GU, PU, MA, MN, MS, OT, SC], [r0, r1, r2, r3, w, 192, r6, r7, r8], Lg)) o from ev_opt (fun x4 => (d + 16, 0, 0, 181, 40, [.val (.ref 832), .val (.int p1), .val (.int p2), .val (.int p3), .val (.ref 192), .val (.int v2), .val (.int v3), .val a_unk, .val a_unk, .val a_unk, .val a_unk, .val a_unk], [.int x4, .ref 192, .int v2], (126, 120, L, [Y, T, H, H2, RA, RB, ST, NS, I0, I1, I2, BO, FI_1, RG, GU, PU, MA, MN, MS, OT, SC], [r0, r1, r2, r3, w, 192, r6, r7, r8], Lg))) 6 zh10 e (fun n => Eq.refl _)
      obtain ⟨x5, zh11, zh7⟩ := bnd zh7
      have zh11 : f_House_costOf H x4 = some x5 := zh11
      have ze12 := R_f_House_costOf_0 (d + 14) Y T H H2 RA RB ST NS I0 I1 I2 BO FI_1 RG GU PU MA MN MS OT SC r0 r1 r2 r3 w 192 r6 r7 r8 L Lg x4 zh11
      suffices e : Ev (d + 16, 0, 0, 181, 43, [.val (.ref 832), .val (.int p1), .val (.int p2), .val (.int p3), .val (.ref 192), .val (.int v2), .val (.int v3), .val a_unk, .val a_unk, .val a_unk, .val a_unk, .val a_unk], [.int x5, .int v2], (126, 120, L, [Y, T, H, H2, RA, RB, ST, NS, I0, I1, I2, BO, FI_1, RG, GU, PU, MA, MN, MS, OT, SC], [r0, r1, r2, r3, w, 192, r6, r7, r8], Lg)) o from ev_call (fun v μ => (d + 16, 0, 0, 181, 43, [.val (.ref 832), .val (.int p1), .val (.int p2), .val (.int p3), .val (.ref 192), .val (.int v2), .val (.int v3), .val a_unk, .val a_unk, .val a_unk, .val a_unk, .val a_unk], v.toList ++ [.int v2], μ)) 1 ze12 e (fun n => Eq.refl _)
      exact ev_b 4 (zi5 _ (Option.some.inj zh7).symm ()) (fun n => Eq.refl _)
  · skip
    intro s7
    obtain ⟨zb13, zh14, h⟩ := bnd h
    suffices e : Ev (d + 16, 0, 0, 181, 55, [.val (.ref 832), .val (.int p1), .val (.int p2), .val (.int p3), .val (.ref 192), .val (.int v6), .val (.int 0), .val a_unk, .val a_unk, .val a_unk, .val a_unk, .val a_unk], [], (126, 120, L, [Y, T, H, H2, RA, RB, ST, NS, I0, I1, I2, BO, FI_1, RG, GU, PU, MA, MN, MS, OT, SC], [r0, r1, r2, r3, w, 192, r6, r7, r8], Lg)) o from ev_b 2 e (fun n => Eq.refl _)
    refine ev_loop (δ := Value × Value × Value × Value × Value) (fun a j => (d + 16, 0, 0, 181, 55, [.val (.ref 832), .val (.int p1), .val (.int p2), .val (.int p3), .val (.ref 192), .val (.int v6), .val (.int a.1), .val j.1, .val j.2.1, .val j.2.2.1, .val j.2.2.2.1, .val j.2.2.2.2], [], (126, 120, L, [Y, T, H, H2, RA, RB, ST, NS, I0, I1, I2, a.2.1, a.2.2, RG, GU, PU, MA, MN, MS, OT, SC], [r0, r1, r2, r3, w, 192, r6, r7, r8], Lg))) (fun b => ∀ s30 : Value, ∀ s31 : Value, ∀ s32 : Value, ∀ s33 : Value, ∀ s34 : Value, ∀ s35 : Value, Ev (d + 16, 0, 0, 181, 248, [.val (.ref 832), .val (.int p1), .val (.int p2), .val (.int p3), .val (.ref 192), .val (.int v6), .val s30, .val s31, .val s32, .val s33, .val s34, .val s35], [], (126, 120, L, [Y, T, H, H2, RA, RB, ST, NS, I0, I1, I2, b.1, b.2, RG, GU, PU, MA, MN, MS, OT, SC], [r0, r1, r2, r3, w, 192, r6, r7, r8], Lg)) o) ?_ a_F (0, BO, FI_1) zb13 zh14 ?_ (a_unk, a_unk, a_unk, a_unk, a_unk)
    · rintro ⟨v8, BO_14, FI_15⟩ zr18 zh17 zi15 zx16 ⟨s9, s10, s11, s12, s13⟩
      have zh17 : f_Fitter_tryRooms_l55 H p2 p1 v6 p3 v8 BO_14 FI_15 = some zr18 := zh17
      by_cases zc19 : (H 0 1) ≤ v8
      · have zh17 := itp zh17 zc19
        suffices e : Ev (d + 16, 0, 0, 181, 248, [.val (.ref 832), .val (.int p1), .val (.int p2), .val (.int p3), .val (.ref 192), .val (.int v6), .val (.int v8), .val s9, .val s10, .val s11, .val s12, .val s13], [], (126, 120, L, [Y, T, H, H2, RA, RB, ST, NS, I0, I1, I2, BO_14, FI_15, RG, GU, PU, MA, MN, MS, OT, SC], [r0, r1, r2, r3, w, 192, r6, r7, r8], Lg)) o from ev_t (c := (H 0 1) ≤ v8) _ _ 4  zc19 e (fun n => Eq.refl _)
        exact ev_b 0 (zx16 _ (Option.some.inj zh17).symm (.int v8) s9 s10 s11 s12 s13) (fun n => Eq.refl _)
      · have zh17 := itn zh17 zc19
        suffices e : Ev (d + 16, 0, 0, 181, 65, [.val (.ref 832), .val (.int p1), .val (.int p2), .val (.int p3), .val (.ref 192), .val (.int v6), .val (.int v8), .val s9, .val s10, .val s11, .val s12, .val s13], [], (126, 120, L, [Y, T, H, H2, RA, RB, ST, NS, I0, I1, I2, BO_14, FI_15, RG, GU, PU, MA, MN, MS, OT, SC], [r0, r1, r2, r3, w, 192, r6, r7, r8], Lg)) o from ev_f (c := (H 0 1) ≤ v8) _ _ 4  zc19 e (fun n => Eq.refl _)
        obtain ⟨x16, zh20, zh17⟩ := bnd zh17
        have zh20 : f_Y_placeOf p2 v8 = some x16 := zh20
        have ze21 := R_f_Y_placeOf_0 (d + 15) Y T H H2 RA RB ST NS I0 I1 I2 BO_14 FI_15 RG GU PU MA MN MS OT SC r0 r1 r2 r3 w 192 r6 r7 r8 L Lg p2 v8 zh20
        suffices e : Ev (d + 16, 0, 0, 181, 71, [.val (.ref 832), .val (.int p1), .val (.int p2), .val (.int p3), .val (.ref 192), .val (.int v6), .val (.int v8), .val s9, .val s10, .val s11, .val s12, .val s13], [.int x16], (126, 120, L, [Y, T, H, H2, RA, RB, ST, NS, I0, I1, I2, BO_14, FI_15, RG, GU, PU, MA, MN, MS, OT, SC], [r0, r1, r2, r3, w, 192, r6, r7, r8], Lg)) o from ev_call (fun v μ => (d + 16, 0, 0, 181, 71, [.val (.ref 832), .val (.int p1), .val (.int p2), .val (.int p3), .val (.ref 192), .val (.int v6), .val (.int v8), .val s9, .val s10, .val s11, .val s12, .val s13], v.toList ++ [], μ)) 3 ze21 e (fun n => Eq.refl _)
        obtain ⟨x17, zh22, zh17⟩ := bnd zh17
        have zh22 : f_House_isFixed H p1 = some x17 := zh22
        have ze23 := R_f_House_isFixed_0 (d + 15) Y T H H2 RA RB ST NS I0 I1 I2 BO_14 FI_15 RG GU PU MA MN MS OT SC r0 r1 r2 r3 w 192 r6 r7 r8 L Lg p1 zh22
        suffices e : Ev (d + 16, 0, 0, 181, 79, [.val (.ref 832), .val (.int p1), .val (.int p2), .val (.int p3), .val (.ref 192), .val (.int v6), .val (.int v8), .val (.int x16), .val s10, .val s11, .val s12, .val s13], [.int x17], (126, 120, L, [Y, T, H, H2, RA, RB, ST, NS, I0, I1, I2, BO_14, FI_15, RG, GU, PU, MA, MN, MS, OT, SC], [r0, r1, r2, r3, w, 192, r6, r7, r8], Lg)) o from ev_call (fun v μ => (d + 16, 0, 0, 181, 79, [.val (.ref 832), .val (.int p1), .val (.int p2), .val (.int p3), .val (.ref 192), .val (.int v6), .val (.int v8), .val (.int x16), .val s10, .val s11, .val s12, .val s13], v.toList ++ [], μ)) 4 ze23 e (fun n => Eq.refl _)
        obtain ⟨zt24, zh25, zh17⟩ := bnd zh17
        have zj26 : zt24 = .inl () → Ev (d + 16, 0, 0, 181, 96, [.val (.ref 832), .val (.int p1), .val (.int p2), .val (.int p3), .val (.ref 192), .val (.int v6), .val (.int v8), .val (.int x16), .val s10, .val s11, .val s12, .val s13], [], (126, 120, L, [Y, T, H, H2, RA, RB, ST, NS, I0, I1, I2, BO_14, FI_15, RG, GU, PU, MA, MN, MS, OT, SC], [r0, r1, r2, r3, w, 192, r6, r7, r8], Lg)) o := by
          intro ze27
          have zh17 := sum_l zh17 ze27
          obtain ⟨x19, zh28, zh17⟩ := bnd zh17
          have zh28 : rdx (FI_15 1) 10 p1 = some x19 := zh28
          suffices e : Ev (d + 16, 0, 0, 181, 104, [.val (.ref 832), .val (.int p1), .val (.int p2), .val (.int p3), .val (.ref 192), .val (.int v6), .val (.int v8), .val (.int x16), .val s10, .val s11, .val s12, .val s13], [.int x19, .int x16], (126, 120, L, [Y, T, H, H2, RA, RB, ST, NS, I0, I1, I2, BO_14, FI_15, RG, GU, PU, MA, MN, MS, OT, SC], [r0, r1, r2, r3, w, 192, r6, r7, r8], Lg)) o from ev_opt (fun x19 => (d + 16, 0, 0, 181, 104, [.val (.ref 832), .val (.int p1), .val (.int p2), .val (.int p3), .val (.ref 192), .val (.int v6), .val (.int v8), .val (.int x16), .val s10, .val s11, .val s12, .val s13], [.int x19, .int x16], (126, 120, L, [Y, T, H, H2, RA, RB, ST, NS, I0, I1, I2, BO_14, FI_15, RG, GU, PU, MA, MN, MS, OT, SC], [r0, r1, r2, r3, w, 192, r6, r7, r8], Lg))) 5 zh28 e (fun n => Eq.refl _)
          obtain ⟨zt29, zh30, zh17⟩ := bnd zh17
          have zj31 : ∀ (v21 : Int32), v21 = zt29 → Ev (d + 16, 0, 0, 181, 121, [.val (.ref 832), .val (.int p1), .val (.int p2), .val (.int p3), .val (.ref 192), .val (.int v6), .val (.int v8), .val (.int x16), .val s10, .val s11, .val s12, .val s13], [.int v21], (126, 120, L, [Y, T, H, H2, RA, RB, ST, NS, I0, I1, I2, BO_14, FI_15, RG, GU, PU, MA, MN, MS, OT, SC], [r0, r1, r2, r3, w, 192, r6, r7, r8], Lg)) o := by
            intro v21 ze32
            subst ze32
            obtain ⟨zt33, zh34, zh17⟩ := bnd zh17
            have zj35 : ∀ (v22 : Int32), v22 = zt33 → Ev (d + 16, 0, 0, 181, 147, [.val (.ref 832), .val (.int p1), .val (.int p2), .val (.int p3), .val (.ref 192), .val (.int v6), .val (.int v8), .val (.int x16), .val (.int v21), .val s11, .val s12, .val s13], [.int v22], (126, 120, L, [Y, T, H, H2, RA, RB, ST, NS, I0, I1, I2, BO_14, FI_15, RG, GU, PU, MA, MN, MS, OT, SC], [r0, r1, r2, r3, w, 192, r6, r7, r8], Lg)) o := by
              intro v22 ze36
              subst ze36
              obtain ⟨zt37, zh38, zh17⟩ := bnd zh17
              have zj39 : ∀ (v23 : Int32), v23 = zt37 → Ev (d + 16, 0, 0, 181, 171, [.val (.ref 832), .val (.int p1), .val (.int p2), .val (.int p3), .val (.ref 192), .val (.int v6), .val (.int v8), .val (.int x16), .val (.int v21), .val (.int v22), .val s12, .val s13], [.int v23], (126, 120, L, [Y, T, H, H2, RA, RB, ST, NS, I0, I1, I2, BO_14, FI_15, RG, GU, PU, MA, MN, MS, OT, SC], [r0, r1, r2, r3, w, 192, r6, r7, r8], Lg)) o := by
                intro v23 ze40
                subst ze40
                obtain ⟨zt41, zh42, zh17⟩ := bnd zh17
                have zj43 : zt41 = .inl () → Ev (d + 16, 0, 0, 181, 183, [.val (.ref 832), .val (.int p1), .val (.int p2), .val (.int p3), .val (.ref 192), .val (.int v6), .val (.int v8), .val (.int x16), .val (.int v21), .val (.int v22), .val (.int v23), .val s13], [], (126, 120, L, [Y, T, H, H2, RA, RB, ST, NS, I0, I1, I2, BO_14, FI_15, RG, GU, PU, MA, MN, MS, OT, SC], [r0, r1, r2, r3, w, 192, r6, r7, r8], Lg)) o := by
                  intro ze44
                  have zh17 := sum_l zh17 ze44
                  obtain ⟨⟨x24, BO_25, FI_26⟩, zh45, zh17⟩ := bnd zh17
                  have zh45 : f_Fitter_seatAll H BO_14 FI_15 p1 x16 = some (x24, BO_25, FI_26) := zh45
                  have ze46 := R_f_Fitter_seatAll_0 (d + 0) Y T H H2 RA RB ST NS I0 I1 I2 BO_14 FI_15 RG GU PU MA MN MS OT SC r0 r1 r2 r3 w r6 r7 r8 L Lg p1 x16 zh45
                  suffices e : Ev (d + 16, 0, 0, 181, 190, [.val (.ref 832), .val (.int p1), .val (.int p2), .val (.int p3), .val (.ref 192), .val (.int v6), .val (.int v8), .val (.int x16), .val (.int v21), .val (.int v22), .val (.int v23), .val s13], [.int x24], (126, 120, L, [Y, T, H, H2, RA, RB, ST, NS, I0, I1, I2, BO_25, FI_26, RG, GU, PU, MA, MN, MS, OT, SC], [r0, r1, r2, r3, w, 192, r6, r7, r8], Lg)) o from ev_call (fun v μ => (d + 16, 0, 0, 181, 190, [.val (.ref 832), .val (.int p1), .val (.int p2), .val (.int p3), .val (.ref 192), .val (.int v6), .val (.int v8), .val (.int x16), .val (.int v21), .val (.int v22), .val (.int v23), .val s13], v.toList ++ [], μ)) 4 ze46 e (fun n => Eq.refl _)
                  obtain ⟨zt47, zh48, zh17⟩ := bnd zh17
                  have zj49 : ∀ (FI_28 : (Nat → Nat → Int32)), FI_28 = zt47 → Ev (d + 16, 0, 0, 181, 208, [.val (.ref 832), .val (.int p1), .val (.int p2), .val (.int p3), .val (.ref 192), .val (.int v6), .val (.int v8), .val (.int x16), .val (.int v21), .val (.int v22), .val (.int v23), .val (.int x24)], [], (126, 120, L, [Y, T, H, H2, RA, RB, ST, NS, I0, I1, I2, BO_25, FI_28, RG, GU, PU, MA, MN, MS, OT, SC], [r0, r1, r2, r3, w, 192, r6, r7, r8], Lg)) o := by
                    intro FI_28 ze50
                    subst ze50
                    obtain ⟨zt51, zh52, zh17⟩ := bnd zh17
                    have zj53 : ∀ (FI_29 : (Nat → Nat → Int32)), FI_29 = zt51 → Ev (d + 16, 0, 0, 181, 224, [.val (.ref 832), .val (.int p1), .val (.int p2), .val (.int p3), .val (.ref 192), .val (.int v6), .val (.int v8), .val (.int x16), .val (.int v21), .val (.int v22), .val (.int v23), .val (.int x24)], [], (126, 120, L, [Y, T, H, H2, RA, RB, ST, NS, I0, I1, I2, BO_25, FI_29, RG, GU, PU, MA, MN, MS, OT, SC], [r0, r1, r2, r3, w, 192, r6, r7, r8], Lg)) o := by
                      intro FI_29 ze54
                      subst ze54
                      by_cases zc55 : ((0 : Int32) < 0 ∨ (0 : Int32) < 0 ∨ (10 : Int32) < 0 ∨ 10 < (0 : Int32).toNatClampNeg + (10 : Int32).toNatClampNeg ∨ 10 < (0 : Int32).toNatClampNeg + (10 : Int32).toNatClampNeg)
                      · exact nos (itp zh17 zc55)
                      have zh17 := itn zh17 zc55
                      suffices e : Ev (d + 16, 0, 0, 181, 242, [.val (.ref 832), .val (.int p1), .val (.int p2), .val (.int p3), .val (.ref 192), .val (.int v6), .val (.int v8), .val (.int x16), .val (.int v21), .val (.int v22), .val (.int v23), .val (.int x24)], [], (126, 120, L, [Y, T, H, H2, RA, RB, ST, NS, I0, I1, I2, (u1 BO_25 1 (a_cpy (FI_29 1) (BO_25 1) (0 : Int32).toNatClampNeg (0 : Int32).toNatClampNeg (10 : Int32).toNatClampNeg)), FI_29, RG, GU, PU, MA, MN, MS, OT, SC], [r0, r1, r2, r3, w, 192, r6, r7, r8], Lg)) o from ev_d (c := ((0 : Int32) < 0 ∨ (0 : Int32) < 0 ∨ (10 : Int32) < 0 ∨ 10 < (0 : Int32).toNatClampNeg + (10 : Int32).toNatClampNeg ∨ 10 < (0 : Int32).toNatClampNeg + (10 : Int32).toNatClampNeg)) _ 9 zc55 e (fun n => Eq.refl _)
                      exact ev_b 2 (zi15 _ (Option.some.inj zh17).symm ((.int x16), (.int v21), (.int v22), (.int v23), (.int x24))) (fun n => Eq.refl _)
                    by_cases zc56 : x24 = 0
                    · have zh52 := itp zh52 zc56
                      suffices e : Ev (d + 16, 0, 0, 181, 224, [.val (.ref 832), .val (.int p1), .val (.int p2), .val (.int p3), .val (.ref 192), .val (.int v6), .val (.int v8), .val (.int x16), .val (.int v21), .val (.int v22), .val (.int v23), .val (.int x24)], [], (126, 120, L, [Y, T, H, H2, RA, RB, ST, NS, I0, I1, I2, BO_25, FI_28, RG, GU, PU, MA, MN, MS, OT, SC], [r0, r1, r2, r3, w, 192, r6, r7, r8], Lg)) o from ev_t (c := x24 = 0) _ _ 2  zc56 e (fun n => Eq.refl _)
                      exact ev_b 0 (zj53 FI_28 (Option.some.inj zh52) ) (fun n => Eq.refl _)
                    · have zh52 := itn zh52 zc56
                      suffices e : Ev (d + 16, 0, 0, 181, 213, [.val (.ref 832), .val (.int p1), .val (.int p2), .val (.int p3), .val (.ref 192), .val (.int v6), .val (.int v8), .val (.int x16), .val (.int v21), .val (.int v22), .val (.int v23), .val (.int x24)], [], (126, 120, L, [Y, T, H, H2, RA, RB, ST, NS, I0, I1, I2, BO_25, FI_28, RG, GU, PU, MA, MN, MS, OT, SC], [r0, r1, r2, r3, w, 192, r6, r7, r8], Lg)) o from ev_f (c := x24 = 0) _ _ 2  zc56 e (fun n => Eq.refl _)
                      by_cases zc57 : v23 = 0
                      · have zh52 := itp zh52 zc57
                        suffices e : Ev (d + 16, 0, 0, 181, 224, [.val (.ref 832), .val (.int p1), .val (.int p2), .val (.int p3), .val (.ref 192), .val (.int v6), .val (.int v8), .val (.int x16), .val (.int v21), .val (.int v22), .val (.int v23), .val (.int x24)], [], (126, 120, L, [Y, T, H, H2, RA, RB, ST, NS, I0, I1, I2, BO_25, FI_28, RG, GU, PU, MA, MN, MS, OT, SC], [r0, r1, r2, r3, w, 192, r6, r7, r8], Lg)) o from ev_t (c := v23 = 0) _ _ 2  zc57 e (fun n => Eq.refl _)
                        exact ev_b 0 (zj53 FI_28 (Option.some.inj zh52) ) (fun n => Eq.refl _)
                      · have zh52 := itn zh52 zc57
                        suffices e : Ev (d + 16, 0, 0, 181, 218, [.val (.ref 832), .val (.int p1), .val (.int p2), .val (.int p3), .val (.ref 192), .val (.int v6), .val (.int v8), .val (.int x16), .val (.int v21), .val (.int v22), .val (.int v23), .val (.int x24)], [], (126, 120, L, [Y, T, H, H2, RA, RB, ST, NS, I0, I1, I2, BO_25, FI_28, RG, GU, PU, MA, MN, MS, OT, SC], [r0, r1, r2, r3, w, 192, r6, r7, r8], Lg)) o from ev_f (c := v23 = 0) _ _ 2  zc57 e (fun n => Eq.refl _)
                        exact ev_b 3 (zj53 (u2 FI_28 0 10 v21) (Option.some.inj zh52) ) (fun n => Eq.refl _)
                  by_cases zc58 : x24 = 0
                  · have zh48 := itp zh48 zc58
                    suffices e : Ev (d + 16, 0, 0, 181, 208, [.val (.ref 832), .val (.int p1), .val (.int p2), .val (.int p3), .val (.ref 192), .val (.int v6), .val (.int v8), .val (.int x16), .val (.int v21), .val (.int v22), .val (.int v23), .val (.int x24)], [], (126, 120, L, [Y, T, H, H2, RA, RB, ST, NS, I0, I1, I2, BO_25, FI_26, RG, GU, PU, MA, MN, MS, OT, SC], [r0, r1, r2, r3, w, 192, r6, r7, r8], Lg)) o from ev_t (c := x24 = 0) _ _ 3  zc58 e (fun n => Eq.refl _)
                    exact ev_b 0 (zj49 FI_26 (Option.some.inj zh48) ) (fun n => Eq.refl _)
                  · have zh48 := itn zh48 zc58
                    suffices e : Ev (d + 16, 0, 0, 181, 197, [.val (.ref 832), .val (.int p1), .val (.int p2), .val (.int p3), .val (.ref 192), .val (.int v6), .val (.int v8), .val (.int x16), .val (.int v21), .val (.int v22), .val (.int v23), .val (.int x24)], [], (126, 120, L, [Y, T, H, H2, RA, RB, ST, NS, I0, I1, I2, BO_25, FI_26, RG, GU, PU, MA, MN, MS, OT, SC], [r0, r1, r2, r3, w, 192, r6, r7, r8], Lg)) o from ev_f (c := x24 = 0) _ _ 3  zc58 e (fun n => Eq.refl _)
                    by_cases zc59 : v22 = 0
                    · have zh48 := itp zh48 zc59
                      suffices e : Ev (d + 16, 0, 0, 181, 208, [.val (.ref 832), .val (.int p1), .val (.int p2), .val (.int p3), .val (.ref 192), .val (.int v6), .val (.int v8), .val (.int x16), .val (.int v21), .val (.int v22), .val (.int v23), .val (.int x24)], [], (126, 120, L, [Y, T, H, H2, RA, RB, ST, NS, I0, I1, I2, BO_25, FI_26, RG, GU, PU, MA, MN, MS, OT, SC], [r0, r1, r2, r3, w, 192, r6, r7, r8], Lg)) o from ev_t (c := v22 = 0) _ _ 2  zc59 e (fun n => Eq.refl _)
                      exact ev_b 0 (zj49 FI_26 (Option.some.inj zh48) ) (fun n => Eq.refl _)
                    · have zh48 := itn zh48 zc59
                      suffices e : Ev (d + 16, 0, 0, 181, 202, [.val (.ref 832), .val (.int p1), .val (.int p2), .val (.int p3), .val (.ref 192), .val (.int v6), .val (.int v8), .val (.int x16), .val (.int v21), .val (.int v22), .val (.int v23), .val (.int x24)], [], (126, 120, L, [Y, T, H, H2, RA, RB, ST, NS, I0, I1, I2, BO_25, FI_26, RG, GU, PU, MA, MN, MS, OT, SC], [r0, r1, r2, r3, w, 192, r6, r7, r8], Lg)) o from ev_f (c := v22 = 0) _ _ 2  zc59 e (fun n => Eq.refl _)
                      obtain ⟨FI_27, zh60, zh48⟩ := bnd zh48
                      have zh60 : f_Fitter_keepFewest BO_25 FI_26 p1 p3 = some FI_27 := zh60
                      have ze61 := R_f_Fitter_keepFewest_0 (d + 14) Y T H H2 RA RB ST NS I0 I1 I2 BO_25 FI_26 RG GU PU MA MN MS OT SC r0 r1 r2 r3 w r6 r7 r8 L Lg p1 p3 zh60
                      suffices e : Ev (d + 16, 0, 0, 181, 208, [.val (.ref 832), .val (.int p1), .val (.int p2), .val (.int p3), .val (.ref 192), .val (.int v6), .val (.int v8), .val (.int x16), .val (.int v21), .val (.int v22), .val (.int v23), .val (.int x24)], [], (126, 120, L, [Y, T, H, H2, RA, RB, ST, NS, I0, I1, I2, BO_25, FI_27, RG, GU, PU, MA, MN, MS, OT, SC], [r0, r1, r2, r3, w, 192, r6, r7, r8], Lg)) o from ev_call (fun v μ => (d + 16, 0, 0, 181, 208, [.val (.ref 832), .val (.int p1), .val (.int p2), .val (.int p3), .val (.ref 192), .val (.int v6), .val (.int v8), .val (.int x16), .val (.int v21), .val (.int v22), .val (.int v23), .val (.int x24)], v.toList ++ [], μ)) 4 ze61 e (fun n => Eq.refl _)
                      exact ev_b 0 (zj49 FI_27 (Option.some.inj zh48) ) (fun n => Eq.refl _)
                by_cases zc62 : v22 ≠ 0
                · have zh42 := itp zh42 zc62
                  suffices e : Ev (d + 16, 0, 0, 181, 183, [.val (.ref 832), .val (.int p1), .val (.int p2), .val (.int p3), .val (.ref 192), .val (.int v6), .val (.int v8), .val (.int x16), .val (.int v21), .val (.int v22), .val (.int v23), .val s13], [], (126, 120, L, [Y, T, H, H2, RA, RB, ST, NS, I0, I1, I2, BO_14, FI_15, RG, GU, PU, MA, MN, MS, OT, SC], [r0, r1, r2, r3, w, 192, r6, r7, r8], Lg)) o from ev_t (c := v22 ≠ 0) _ _ 3  zc62 e (fun n => Eq.refl _)
                  exact ev_b 0 (zj43  (Option.some.inj zh42).symm ) (fun n => Eq.refl _)
                · have zh42 := itn zh42 zc62
                  suffices e : Ev (d + 16, 0, 0, 181, 178, [.val (.ref 832), .val (.int p1), .val (.int p2), .val (.int p3), .val (.ref 192), .val (.int v6), .val (.int v8), .val (.int x16), .val (.int v21), .val (.int v22), .val (.int v23), .val s13], [], (126, 120, L, [Y, T, H, H2, RA, RB, ST, NS, I0, I1, I2, BO_14, FI_15, RG, GU, PU, MA, MN, MS, OT, SC], [r0, r1, r2, r3, w, 192, r6, r7, r8], Lg)) o from ev_f (c := v22 ≠ 0) _ _ 3  zc62 e (fun n => Eq.refl _)
                  by_cases zc63 : v23 = 0
                  · have zh42 := itp zh42 zc63
                    suffices e : Ev (d + 16, 0, 0, 181, 242, [.val (.ref 832), .val (.int p1), .val (.int p2), .val (.int p3), .val (.ref 192), .val (.int v6), .val (.int v8), .val (.int x16), .val (.int v21), .val (.int v22), .val (.int v23), .val s13], [], (126, 120, L, [Y, T, H, H2, RA, RB, ST, NS, I0, I1, I2, BO_14, FI_15, RG, GU, PU, MA, MN, MS, OT, SC], [r0, r1, r2, r3, w, 192, r6, r7, r8], Lg)) o from ev_t (c := v23 = 0) _ _ 2  zc63 e (fun n => Eq.refl _)
                    have zh64 := sum_r zh17 (Option.some.inj zh42).symm
                    exact ev_b 2 (zi15 _ (Option.some.inj zh64).symm ((.int x16), (.int v21), (.int v22), (.int v23), s13)) (fun n => Eq.refl _)
                  · have zh42 := itn zh42 zc63
                    suffices e : Ev (d + 16, 0, 0, 181, 183, [.val (.ref 832), .val (.int p1), .val (.int p2), .val (.int p3), .val (.ref 192), .val (.int v6), .val (.int v8), .val (.int x16), .val (.int v21), .val (.int v22), .val (.int v23), .val s13], [], (126, 120, L, [Y, T, H, H2, RA, RB, ST, NS, I0, I1, I2, BO_14, FI_15, RG, GU, PU, MA, MN, MS, OT, SC], [r0, r1, r2, r3, w, 192, r6, r7, r8], Lg)) o from ev_f (c := v23 = 0) _ _ 2  zc63 e (fun n => Eq.refl _)
                    exact ev_b 0 (zj43  (Option.some.inj zh42).symm ) (fun n => Eq.refl _)
              obtain ⟨zt65, zh66, zh38⟩ := bnd zh38
              have zj67 : zt65 = .inl () → Ev (d + 16, 0, 0, 181, 166, [.val (.ref 832), .val (.int p1), .val (.int p2), .val (.int p3), .val (.ref 192), .val (.int v6), .val (.int v8), .val (.int x16), .val (.int v21), .val (.int v22), .val s12, .val s13], [], (126, 120, L, [Y, T, H, H2, RA, RB, ST, NS, I0, I1, I2, BO_14, FI_15, RG, GU, PU, MA, MN, MS, OT, SC], [r0, r1, r2, r3, w, 192, r6, r7, r8], Lg)) o := by
                intro ze68
                have zh38 := sum_l zh38 ze68
                exact ev_b 2 (zj39 1 (Option.some.inj zh38) ) (fun n => Eq.refl _)
              by_cases zc69 : (FI_15 0 10) = (-1)
              · have zh66 := itp zh66 zc69
                suffices e : Ev (d + 16, 0, 0, 181, 166, [.val (.ref 832), .val (.int p1), .val (.int p2), .val (.int p3), .val (.ref 192), .val (.int v6), .val (.int v8), .val (.int x16), .val (.int v21), .val (.int v22), .val s12, .val s13], [], (126, 120, L, [Y, T, H, H2, RA, RB, ST, NS, I0, I1, I2, BO_14, FI_15, RG, GU, PU, MA, MN, MS, OT, SC], [r0, r1, r2, r3, w, 192, r6, r7, r8], Lg)) o from ev_t (c := (FI_15 0 10) = (-1)) _ _ 5  zc69 e (fun n => Eq.refl _)
                exact ev_b 0 (zj67  (Option.some.inj zh66).symm ) (fun n => Eq.refl _)
              · have zh66 := itn zh66 zc69
                suffices e : Ev (d + 16, 0, 0, 181, 157, [.val (.ref 832), .val (.int p1), .val (.int p2), .val (.int p3), .val (.ref 192), .val (.int v6), .val (.int v8), .val (.int x16), .val (.int v21), .val (.int v22), .val s12, .val s13], [], (126, 120, L, [Y, T, H, H2, RA, RB, ST, NS, I0, I1, I2, BO_14, FI_15, RG, GU, PU, MA, MN, MS, OT, SC], [r0, r1, r2, r3, w, 192, r6, r7, r8], Lg)) o from ev_f (c := (FI_15 0 10) = (-1)) _ _ 5  zc69 e (fun n => Eq.refl _)
                by_cases zc70 : (FI_15 0 10) ≤ v21
                · have zh66 := itp zh66 zc70
                  suffices e : Ev (d + 16, 0, 0, 181, 170, [.val (.ref 832), .val (.int p1), .val (.int p2), .val (.int p3), .val (.ref 192), .val (.int v6), .val (.int v8), .val (.int x16), .val (.int v21), .val (.int v22), .val s12, .val s13], [], (126, 120, L, [Y, T, H, H2, RA, RB, ST, NS, I0, I1, I2, BO_14, FI_15, RG, GU, PU, MA, MN, MS, OT, SC], [r0, r1, r2, r3, w, 192, r6, r7, r8], Lg)) o from ev_t (c := (FI_15 0 10) ≤ v21) _ _ 4  zc70 e (fun n => Eq.refl _)
                  have zh71 := sum_r zh38 (Option.some.inj zh66).symm
                  exact ev_b 1 (zj39 0 (Option.some.inj zh71) ) (fun n => Eq.refl _)
                · have zh66 := itn zh66 zc70
                  suffices e : Ev (d + 16, 0, 0, 181, 166, [.val (.ref 832), .val (.int p1), .val (.int p2), .val (.int p3), .val (.ref 192), .val (.int v6), .val (.int v8), .val (.int x16), .val (.int v21), .val (.int v22), .val s12, .val s13], [], (126, 120, L, [Y, T, H, H2, RA, RB, ST, NS, I0, I1, I2, BO_14, FI_15, RG, GU, PU, MA, MN, MS, OT, SC], [r0, r1, r2, r3, w, 192, r6, r7, r8], Lg)) o from ev_f (c := (FI_15 0 10) ≤ v21) _ _ 4  zc70 e (fun n => Eq.refl _)
                  exact ev_b 0 (zj67  (Option.some.inj zh66).symm ) (fun n => Eq.refl _)
            obtain ⟨zt72, zh73, zh34⟩ := bnd zh34
            have zj74 : zt72 = .inl () → Ev (d + 16, 0, 0, 181, 142, [.val (.ref 832), .val (.int p1), .val (.int p2), .val (.int p3), .val (.ref 192), .val (.int v6), .val (.int v8), .val (.int x16), .val (.int v21), .val s11, .val s12, .val s13], [], (126, 120, L, [Y, T, H, H2, RA, RB, ST, NS, I0, I1, I2, BO_14, FI_15, RG, GU, PU, MA, MN, MS, OT, SC], [r0, r1, r2, r3, w, 192, r6, r7, r8], Lg)) o := by
              intro ze75
              have zh34 := sum_l zh34 ze75
              exact ev_b 2 (zj35 1 (Option.some.inj zh34) ) (fun n => Eq.refl _)
            by_cases zc76 : (FI_15 0 8) = (-1)
            · have zh73 := itp zh73 zc76
              suffices e : Ev (d + 16, 0, 0, 181, 142, [.val (.ref 832), .val (.int p1), .val (.int p2), .val (.int p3), .val (.ref 192), .val (.int v6), .val (.int v8), .val (.int x16), .val (.int v21), .val s11, .val s12, .val s13], [], (126, 120, L, [Y, T, H, H2, RA, RB, ST, NS, I0, I1, I2, BO_14, FI_15, RG, GU, PU, MA, MN, MS, OT, SC], [r0, r1, r2, r3, w, 192, r6, r7, r8], Lg)) o from ev_t (c := (FI_15 0 8) = (-1)) _ _ 5  zc76 e (fun n => Eq.refl _)
              exact ev_b 0 (zj74  (Option.some.inj zh73).symm ) (fun n => Eq.refl _)
            · have zh73 := itn zh73 zc76
              suffices e : Ev (d + 16, 0, 0, 181, 131, [.val (.ref 832), .val (.int p1), .val (.int p2), .val (.int p3), .val (.ref 192), .val (.int v6), .val (.int v8), .val (.int x16), .val (.int v21), .val s11, .val s12, .val s13], [], (126, 120, L, [Y, T, H, H2, RA, RB, ST, NS, I0, I1, I2, BO_14, FI_15, RG, GU, PU, MA, MN, MS, OT, SC], [r0, r1, r2, r3, w, 192, r6, r7, r8], Lg)) o from ev_f (c := (FI_15 0 8) = (-1)) _ _ 5  zc76 e (fun n => Eq.refl _)
              by_cases zc77 : (FI_15 0 8) ≤ (FI_15 0 6)
              · have zh73 := itp zh73 zc77
                suffices e : Ev (d + 16, 0, 0, 181, 146, [.val (.ref 832), .val (.int p1), .val (.int p2), .val (.int p3), .val (.ref 192), .val (.int v6), .val (.int v8), .val (.int x16), .val (.int v21), .val s11, .val s12, .val s13], [], (126, 120, L, [Y, T, H, H2, RA, RB, ST, NS, I0, I1, I2, BO_14, FI_15, RG, GU, PU, MA, MN, MS, OT, SC], [r0, r1, r2, r3, w, 192, r6, r7, r8], Lg)) o from ev_t (c := (FI_15 0 8) ≤ (FI_15 0 6)) _ _ 5  zc77 e (fun n => Eq.refl _)
                have zh78 := sum_r zh34 (Option.some.inj zh73).symm
                exact ev_b 1 (zj35 0 (Option.some.inj zh78) ) (fun n => Eq.refl _)
              · have zh73 := itn zh73 zc77
                suffices e : Ev (d + 16, 0, 0, 181, 142, [.val (.ref 832), .val (.int p1), .val (.int p2), .val (.int p3), .val (.ref 192), .val (.int v6), .val (.int v8), .val (.int x16), .val (.int v21), .val s11, .val s12, .val s13], [], (126, 120, L, [Y, T, H, H2, RA, RB, ST, NS, I0, I1, I2, BO_14, FI_15, RG, GU, PU, MA, MN, MS, OT, SC], [r0, r1, r2, r3, w, 192, r6, r7, r8], Lg)) o from ev_f (c := (FI_15 0 8) ≤ (FI_15 0 6)) _ _ 5  zc77 e (fun n => Eq.refl _)
                exact ev_b 0 (zj74  (Option.some.inj zh73).symm ) (fun n => Eq.refl _)
          by_cases zc79 : x16 ≠ x19
          · have zh30 := itp zh30 zc79
            suffices e : Ev (d + 16, 0, 0, 181, 112, [.val (.ref 832), .val (.int p1), .val (.int p2), .val (.int p3), .val (.ref 192), .val (.int v6), .val (.int v8), .val (.int x16), .val s10, .val s11, .val s12, .val s13], [], (126, 120, L, [Y, T, H, H2, RA, RB, ST, NS, I0, I1, I2, BO_14, FI_15, RG, GU, PU, MA, MN, MS, OT, SC], [r0, r1, r2, r3, w, 192, r6, r7, r8], Lg)) o from ev_t (c := x16 ≠ x19) _ _ 1  zc79 e (fun n => Eq.refl _)
            obtain ⟨x20, zh80, zh30⟩ := bnd zh30
            have zh80 : f_House_costOf H p1 = some x20 := zh80
            have ze81 := R_f_House_costOf_0 (d + 14) Y T H H2 RA RB ST NS I0 I1 I2 BO_14 FI_15 RG GU PU MA MN MS OT SC r0 r1 r2 r3 w 192 r6 r7 r8 L Lg p1 zh80
            suffices e : Ev (d + 16, 0, 0, 181, 120, [.val (.ref 832), .val (.int p1), .val (.int p2), .val (.int p3), .val (.ref 192), .val (.int v6), .val (.int v8), .val (.int x16), .val s10, .val s11, .val s12, .val s13], [.int x20, .int v6], (126, 120, L, [Y, T, H, H2, RA, RB, ST, NS, I0, I1, I2, BO_14, FI_15, RG, GU, PU, MA, MN, MS, OT, SC], [r0, r1, r2, r3, w, 192, r6, r7, r8], Lg)) o from ev_call (fun v μ => (d + 16, 0, 0, 181, 120, [.val (.ref 832), .val (.int p1), .val (.int p2), .val (.int p3), .val (.ref 192), .val (.int v6), .val (.int v8), .val (.int x16), .val s10, .val s11, .val s12, .val s13], v.toList ++ [.int v6], μ)) 4 ze81 e (fun n => Eq.refl _)
            exact ev_b 1 (zj31 (v6 + x20) (Option.some.inj zh30) ) (fun n => Eq.refl _)
          · have zh30 := itn zh30 zc79
            suffices e : Ev (d + 16, 0, 0, 181, 107, [.val (.ref 832), .val (.int p1), .val (.int p2), .val (.int p3), .val (.ref 192), .val (.int v6), .val (.int v8), .val (.int x16), .val s10, .val s11, .val s12, .val s13], [], (126, 120, L, [Y, T, H, H2, RA, RB, ST, NS, I0, I1, I2, BO_14, FI_15, RG, GU, PU, MA, MN, MS, OT, SC], [r0, r1, r2, r3, w, 192, r6, r7, r8], Lg)) o from ev_f (c := x16 ≠ x19) _ _ 1  zc79 e (fun n => Eq.refl _)
            exact ev_b 2 (zj31 v6 (Option.some.inj zh30) ) (fun n => Eq.refl _)
        by_cases zc82 : x17 = 0
        · have zh25 := itp zh25 zc82
          suffices e : Ev (d + 16, 0, 0, 181, 96, [.val (.ref 832), .val (.int p1), .val (.int p2), .val (.int p3), .val (.ref 192), .val (.int v6), .val (.int v8), .val (.int x16), .val s10, .val s11, .val s12, .val s13], [], (126, 120, L, [Y, T, H, H2, RA, RB, ST, NS, I0, I1, I2, BO_14, FI_15, RG, GU, PU, MA, MN, MS, OT, SC], [r0, r1, r2, r3, w, 192, r6, r7, r8], Lg)) o from ev_t (c := x17 = 0) _ _ 1  zc82 e (fun n => Eq.refl _)
          exact ev_b 0 (zj26  (Option.some.inj zh25).symm ) (fun n => Eq.refl _)
        · have zh25 := itn zh25 zc82
          suffices e : Ev (d + 16, 0, 0, 181, 82, [.val (.ref 832), .val (.int p1), .val (.int p2), .val (.int p3), .val (.ref 192), .val (.int v6), .val (.int v8), .val (.int x16), .val s10, .val s11, .val s12, .val s13], [], (126, 120, L, [Y, T, H, H2, RA, RB, ST, NS, I0, I1, I2, BO_14, FI_15, RG, GU, PU, MA, MN, MS, OT, SC], [r0, r1, r2, r3, w, 192, r6, r7, r8], Lg)) o from ev_f (c := x17 = 0) _ _ 1  zc82 e (fun n => Eq.refl _)
          obtain ⟨x18, zh83, zh25⟩ := bnd zh25
          have zh83 : rdx (FI_15 1) 10 p1 = some x18 := zh83
          suffices e : Ev (d + 16, 0, 0, 181, 90, [.val (.ref 832), .val (.int p1), .val (.int p2), .val (.int p3), .val (.ref 192), .val (.int v6), .val (.int v8), .val (.int x16), .val s10, .val s11, .val s12, .val s13], [.int x18, .int x16], (126, 120, L, [Y, T, H, H2, RA, RB, ST, NS, I0, I1, I2, BO_14, FI_15, RG, GU, PU, MA, MN, MS, OT, SC], [r0, r1, r2, r3, w, 192, r6, r7, r8], Lg)) o from ev_opt (fun x18 => (d + 16, 0, 0, 181, 90, [.val (.ref 832), .val (.int p1), .val (.int p2), .val (.int p3), .val (.ref 192), .val (.int v6), .val (.int v8), .val (.int x16), .val s10, .val s11, .val s12, .val s13], [.int x18, .int x16], (126, 120, L, [Y, T, H, H2, RA, RB, ST, NS, I0, I1, I2, BO_14, FI_15, RG, GU, PU, MA, MN, MS, OT, SC], [r0, r1, r2, r3, w, 192, r6, r7, r8], Lg))) 5 zh83 e (fun n => Eq.refl _)
          by_cases zc84 : x16 = x18
          · have zh25 := itp zh25 zc84
            suffices e : Ev (d + 16, 0, 0, 181, 96, [.val (.ref 832), .val (.int p1), .val (.int p2), .val (.int p3), .val (.ref 192), .val (.int v6), .val (.int v8), .val (.int x16), .val s10, .val s11, .val s12, .val s13], [], (126, 120, L, [Y, T, H, H2, RA, RB, ST, NS, I0, I1, I2, BO_14, FI_15, RG, GU, PU, MA, MN, MS, OT, SC], [r0, r1, r2, r3, w, 192, r6, r7, r8], Lg)) o from ev_t (c := x16 = x18) _ _ 1  zc84 e (fun n => Eq.refl _)
            exact ev_b 0 (zj26  (Option.some.inj zh25).symm ) (fun n => Eq.refl _)
          · have zh25 := itn zh25 zc84
            suffices e : Ev (d + 16, 0, 0, 181, 93, [.val (.ref 832), .val (.int p1), .val (.int p2), .val (.int p3), .val (.ref 192), .val (.int v6), .val (.int v8), .val (.int x16), .val s10, .val s11, .val s12, .val s13], [], (126, 120, L, [Y, T, H, H2, RA, RB, ST, NS, I0, I1, I2, BO_14, FI_15, RG, GU, PU, MA, MN, MS, OT, SC], [r0, r1, r2, r3, w, 192, r6, r7, r8], Lg)) o from ev_f (c := x16 = x18) _ _ 1  zc84 e (fun n => Eq.refl _)
            have zh85 := sum_r zh17 (Option.some.inj zh25).symm
            exact ev_b 3 (zi15 _ (Option.some.inj zh85).symm ((.int x16), s10, s11, s12, s13)) (fun n => Eq.refl _)
    · obtain ⟨BO_36, FI_37⟩ := zb13
      intro s30 s31 s32 s33 s34 s35
      have ze86 := Option.some.inj h
      subst ze86
      exact ev_rete 1 ho (fun n => Eq.refl _)
