/-! printed by program (gen/emitm.py): the reference's methods run as their functions say -/
set_option maxRecDepth 1000000 in
set_option maxHeartbeats 4000000 in
theorem R_f_Pusher_run_3 (d : Nat) (Y T H2 H RV RU ST NS I0 I1 I2 BO FI RG GU PU MA MN MS OT SC : Nat → Nat → Int32) (r0 r1 r2 r3 w r6 r7 r8 : Nat) (L : Nat) (Lg : Int64) (p2 : Int32) (p3 : Int32) {r : Int32 × (Nat → Nat → Int32) × (Nat → Nat → Int32) × (Nat → Nat → Int32)} (h : f_Pusher_run H RU BO PU p2 p3 = some r) : Ev (d + 6, 0, 0, 225, 0, [.val (.ref 1024), .val (.ref 384), .val (.int p2), .val (.int p3), .val a_unk, .val a_unk], [], (126, 120, L, [Y, T, H2, H, RV, RU, ST, NS, I0, I1, I2, BO, FI, RG, GU, PU, MA, MN, MS, OT, SC], [r0, r1, r2, r3, w, 256, r6, r7, r8], Lg)) ((0, some (.int r.1), (126, 120, L, [Y, T, H2, H, RV, r.2.1, ST, NS, I0, I1, I2, r.2.2.1, FI, RG, GU, r.2.2.2, MA, MN, MS, OT, SC], [r0, r1, r2, r3, w, 256, r6, r7, r8], Lg)) : AOut) := by
  suffices key : ∀ o : AOut, ((0, some (.int r.1), (126, 120, L, [Y, T, H2, H, RV, r.2.1, ST, NS, I0, I1, I2, r.2.2.1, FI, RG, GU, r.2.2.2, MA, MN, MS, OT, SC], [r0, r1, r2, r3, w, 256, r6, r7, r8], Lg)) : AOut) = o → Ev (d + 6, 0, 0, 225, 0, [.val (.ref 1024), .val (.ref 384), .val (.int p2), .val (.int p3), .val a_unk, .val a_unk], [], (126, 120, L, [Y, T, H2, H, RV, RU, ST, NS, I0, I1, I2, BO, FI, RG, GU, PU, MA, MN, MS, OT, SC], [r0, r1, r2, r3, w, 256, r6, r7, r8], Lg)) o from key _ rfl
  intro o ho
  obtain ⟨x1, zh1, h⟩ := bnd h
  have zh1 : f_Board_inWay H BO p2 p3 = some x1 := zh1
  have ze2 := R_f_Board_inWay_1 (d + 3) Y T H2 H RV RU ST NS I0 I1 I2 BO FI RG GU (u2 PU 0 2 0) MA MN MS OT SC r0 r1 r2 r3 w r6 r7 r8 L Lg p2 p3 zh1
  suffices e : Ev (d + 6, 0, 0, 225, 14, [.val (.ref 1024), .val (.ref 384), .val (.int p2), .val (.int p3), .val a_unk, .val a_unk], [.int x1], (126, 120, L, [Y, T, H2, H, RV, RU, ST, NS, I0, I1, I2, BO, FI, RG, GU, (u2 PU 0 2 0), MA, MN, MS, OT, SC], [r0, r1, r2, r3, w, 256, r6, r7, r8], Lg)) o from ev_call (fun v μ => (d + 6, 0, 0, 225, 14, [.val (.ref 1024), .val (.ref 384), .val (.int p2), .val (.int p3), .val a_unk, .val a_unk], v.toList ++ [], μ)) 8 ze2 e (fun n => Eq.refl _)
  suffices e : Ev (d + 6, 0, 0, 225, 23, [.val (.ref 1024), .val (.ref 384), .val (.int p2), .val (.int p3), .val (.int x1), .val a_unk], [.ref 256], (126, 120, L, [Y, T, H2, H, RV, RU, ST, NS, I0, I1, I2, BO, FI, RG, GU, (u2 PU 0 2 0), MA, MN, MS, OT, SC], [r0, r1, r2, r3, w, 256, r6, r7, r8], Lg)) o from ev_b 4 e (fun n => Eq.refl _)
  obtain ⟨x2, zh3, h⟩ := bnd h
  have zh3 : f_House_isFixed H p2 = some x2 := zh3
  have ze4 := R_f_House_isFixed_1 (d + 5) Y T H2 H RV RU ST NS I0 I1 I2 BO FI RG GU (u2 PU 0 2 0) MA MN MS OT SC r0 r1 r2 r3 w 256 r6 r7 r8 L Lg p2 zh3
  suffices e : Ev (d + 6, 0, 0, 225, 27, [.val (.ref 1024), .val (.ref 384), .val (.int p2), .val (.int p3), .val (.int x1), .val a_unk], [.int x2], (126, 120, L, [Y, T, H2, H, RV, RU, ST, NS, I0, I1, I2, BO, FI, RG, GU, (u2 PU 0 2 0), MA, MN, MS, OT, SC], [r0, r1, r2, r3, w, 256, r6, r7, r8], Lg)) o from ev_call (fun v μ => (d + 6, 0, 0, 225, 27, [.val (.ref 1024), .val (.ref 384), .val (.int p2), .val (.int p3), .val (.int x1), .val a_unk], v.toList ++ [], μ)) 2 ze4 e (fun n => Eq.refl _)
  by_cases zc5 : x2 ≠ 0
  · have h := itp h zc5
    suffices e : Ev (d + 6, 0, 0, 225, 41, [.val (.ref 1024), .val (.ref 384), .val (.int p2), .val (.int p3), .val (.int x1), .val a_unk], [], (126, 120, L, [Y, T, H2, H, RV, RU, ST, NS, I0, I1, I2, BO, FI, RG, GU, (u2 PU 0 2 0), MA, MN, MS, OT, SC], [r0, r1, r2, r3, w, 256, r6, r7, r8], Lg)) o from ev_t (c := x2 ≠ 0) _ _ 1  zc5 e (fun n => Eq.refl _)
    have ze6 := Option.some.inj h
    subst ze6
    exact ev_rete 2 ho (fun n => Eq.refl _)
  · have h := itn h zc5
    suffices e : Ev (d + 6, 0, 0, 225, 30, [.val (.ref 1024), .val (.ref 384), .val (.int p2), .val (.int p3), .val (.int x1), .val a_unk], [], (126, 120, L, [Y, T, H2, H, RV, RU, ST, NS, I0, I1, I2, BO, FI, RG, GU, (u2 PU 0 2 0), MA, MN, MS, OT, SC], [r0, r1, r2, r3, w, 256, r6, r7, r8], Lg)) o from ev_f (c := x2 ≠ 0) _ _ 1  zc5 e (fun n => Eq.refl _)
    obtain ⟨x3, zh7, h⟩ := bnd h
    have zh7 : f_Pusher_mayEnter H BO p2 p3 x1 = some x3 := zh7
    have ze8 := R_f_Pusher_mayEnter_1 (d + 3) Y T H2 H RV RU ST NS I0 I1 I2 BO FI RG GU (u2 PU 0 2 0) MA MN MS OT SC r0 r1 r2 r3 w r6 r7 r8 L Lg p2 p3 x1 zh7
    suffices e : Ev (d + 6, 0, 0, 225, 38, [.val (.ref 1024), .val (.ref 384), .val (.int p2), .val (.int p3), .val (.int x1), .val a_unk], [.int x3], (126, 120, L, [Y, T, H2, H, RV, RU, ST, NS, I0, I1, I2, BO, FI, RG, GU, (u2 PU 0 2 0), MA, MN, MS, OT, SC], [r0, r1, r2, r3, w, 256, r6, r7, r8], Lg)) o from ev_call (fun v μ => (d + 6, 0, 0, 225, 38, [.val (.ref 1024), .val (.ref 384), .val (.int p2), .val (.int p3), .val (.int x1), .val a_unk], v.toList ++ [], μ)) 5 ze8 e (fun n => Eq.refl _)
    by_cases zc9 : x3 ≠ 0
    · have h := itp h zc9
      suffices e : Ev (d + 6, 0, 0, 225, 43, [.val (.ref 1024), .val (.ref 384), .val (.int p2), .val (.int p3), .val (.int x1), .val a_unk], [], (126, 120, L, [Y, T, H2, H, RV, RU, ST, NS, I0, I1, I2, BO, FI, RG, GU, (u2 PU 0 2 0), MA, MN, MS, OT, SC], [r0, r1, r2, r3, w, 256, r6, r7, r8], Lg)) o from ev_t (c := x3 ≠ 0) _ _ 1  zc9 e (fun n => Eq.refl _)
      obtain ⟨j4, zh10, h⟩ := bnd h
      have zh10 : ixx 10 p2 = some j4 := zh10
      suffices e : Ev (d + 6, 0, 0, 225, 53, [.val (.ref 1024), .val (.ref 384), .val (.int p2), .val (.int p3), .val (.int x1), .val a_unk], [], (126, 120, L, [Y, T, H2, H, RV, RU, ST, NS, I0, I1, I2, (u2 BO 1 j4 p3), FI, RG, GU, (u2 PU 0 2 0), MA, MN, MS, OT, SC], [r0, r1, r2, r3, w, 256, r6, r7, r8], Lg)) o from ev_opt (fun j4 => (d + 6, 0, 0, 225, 53, [.val (.ref 1024), .val (.ref 384), .val (.int p2), .val (.int p3), .val (.int x1), .val a_unk], [], (126, 120, L, [Y, T, H2, H, RV, RU, ST, NS, I0, I1, I2, (u2 BO 1 j4 p3), FI, RG, GU, (u2 PU 0 2 0), MA, MN, MS, OT, SC], [r0, r1, r2, r3, w, 256, r6, r7, r8], Lg))) 6 zh10 e (fun n => Eq.refl _)
      obtain ⟨⟨BO_5, PU_6⟩, zh11, h⟩ := bnd h
      have zh11 : f_Pusher_leave H (u2 BO 1 j4 p3) (u2 PU 0 2 0) x1 = some (BO_5, PU_6) := zh11
      have ze12 := R_f_Pusher_leave_1 (d + 5) Y T H2 H RV RU ST NS I0 I1 I2 (u2 BO 1 j4 p3) FI RG GU (u2 PU 0 2 0) MA MN MS OT SC r0 r1 r2 r3 w r6 r7 r8 L Lg x1 zh11
      suffices e : Ev (d + 6, 0, 0, 225, 59, [.val (.ref 1024), .val (.ref 384), .val (.int p2), .val (.int p3), .val (.int x1), .val a_unk], [], (126, 120, L, [Y, T, H2, H, RV, RU, ST, NS, I0, I1, I2, BO_5, FI, RG, GU, PU_6, MA, MN, MS, OT, SC], [r0, r1, r2, r3, w, 256, r6, r7, r8], Lg)) o from ev_call (fun v μ => (d + 6, 0, 0, 225, 59, [.val (.ref 1024), .val (.ref 384), .val (.int p2), .val (.int p3), .val (.int x1), .val a_unk], v.toList ++ [], μ)) 3 ze12 e (fun n => Eq.refl _)
      obtain ⟨zb13, zh14, h⟩ := bnd h
      suffices e : Ev (d + 6, 0, 0, 225, 62, [.val (.ref 1024), .val (.ref 384), .val (.int p2), .val (.int p3), .val (.int x1), .val (.int 0)], [], (126, 120, L, [Y, T, H2, H, RV, RU, ST, NS, I0, I1, I2, BO_5, FI, RG, GU, PU_6, MA, MN, MS, OT, SC], [r0, r1, r2, r3, w, 256, r6, r7, r8], Lg)) o from ev_b 2 e (fun n => Eq.refl _)
      refine ev_loop (δ := Unit) (fun a j => (d + 6, 0, 0, 225, 62, [.val (.ref 1024), .val (.ref 384), .val (.int p2), .val (.int p3), .val (.int x1), .val (.int a.1)], [], (126, 120, L, [Y, T, H2, H, RV, a.2.1, ST, NS, I0, I1, I2, a.2.2.1, FI, RG, GU, a.2.2.2, MA, MN, MS, OT, SC], [r0, r1, r2, r3, w, 256, r6, r7, r8], Lg))) (fun b => Ev (d + 6, 0, 0, 225, 89, [.val (.ref 1024), .val (.ref 384), .val (.int p2), .val (.int p3), .val (.int x1), .val (.int b.1)], [], (126, 120, L, [Y, T, H2, H, RV, b.2.1, ST, NS, I0, I1, I2, b.2.2.1, FI, RG, GU, b.2.2.2, MA, MN, MS, OT, SC], [r0, r1, r2, r3, w, 256, r6, r7, r8], Lg)) o) ?_ a_F (0, RU, BO_5, PU_6) zb13 zh14 ?_ ()
      · rintro ⟨v7, RU_8, BO_9, PU_10⟩ zr18 zh17 zi15 zx16 ⟨⟩
        have zh17 : f_Pusher_run_l62 H v7 RU_8 BO_9 PU_10 = some zr18 := zh17
        by_cases zc19 : (PU_10 0 2) ≤ 0
        · have zh17 := itp zh17 zc19
          suffices e : Ev (d + 6, 0, 0, 225, 89, [.val (.ref 1024), .val (.ref 384), .val (.int p2), .val (.int p3), .val (.int x1), .val (.int v7)], [], (126, 120, L, [Y, T, H2, H, RV, RU_8, ST, NS, I0, I1, I2, BO_9, FI, RG, GU, PU_10, MA, MN, MS, OT, SC], [r0, r1, r2, r3, w, 256, r6, r7, r8], Lg)) o from ev_t (c := (PU_10 0 2) ≤ 0) _ _ 3  zc19 e (fun n => Eq.refl _)
          exact ev_b 0 (zx16 _ (Option.some.inj zh17).symm ) (fun n => Eq.refl _)
        · have zh17 := itn zh17 zc19
          suffices e : Ev (d + 6, 0, 0, 225, 69, [.val (.ref 1024), .val (.ref 384), .val (.int p2), .val (.int p3), .val (.int x1), .val (.int v7)], [], (126, 120, L, [Y, T, H2, H, RV, RU_8, ST, NS, I0, I1, I2, BO_9, FI, RG, GU, PU_10, MA, MN, MS, OT, SC], [r0, r1, r2, r3, w, 256, r6, r7, r8], Lg)) o from ev_f (c := (PU_10 0 2) ≤ 0) _ _ 3  zc19 e (fun n => Eq.refl _)
          by_cases zc20 : 100 ≤ v7
          · have zh17 := itp zh17 zc20
            suffices e : Ev (d + 6, 0, 0, 225, 89, [.val (.ref 1024), .val (.ref 384), .val (.int p2), .val (.int p3), .val (.int x1), .val (.int v7)], [], (126, 120, L, [Y, T, H2, H, RV, RU_8, ST, NS, I0, I1, I2, BO_9, FI, RG, GU, PU_10, MA, MN, MS, OT, SC], [r0, r1, r2, r3, w, 256, r6, r7, r8], Lg)) o from ev_t (c := 100 ≤ v7) _ _ 3  zc20 e (fun n => Eq.refl _)
            exact ev_b 0 (zx16 _ (Option.some.inj zh17).symm ) (fun n => Eq.refl _)
          · have zh17 := itn zh17 zc20
            suffices e : Ev (d + 6, 0, 0, 225, 76, [.val (.ref 1024), .val (.ref 384), .val (.int p2), .val (.int p3), .val (.int x1), .val (.int v7)], [], (126, 120, L, [Y, T, H2, H, RV, RU_8, ST, NS, I0, I1, I2, BO_9, FI, RG, GU, PU_10, MA, MN, MS, OT, SC], [r0, r1, r2, r3, w, 256, r6, r7, r8], Lg)) o from ev_f (c := 100 ≤ v7) _ _ 3  zc20 e (fun n => Eq.refl _)
            obtain ⟨⟨RU_11, BO_12, PU_13⟩, zh21, zh17⟩ := bnd zh17
            have zh21 : f_Pusher_look H RU_8 BO_9 PU_10 v7 = some (RU_11, BO_12, PU_13) := zh21
            have ze22 := R_f_Pusher_look_3 (d + 0) Y T H2 H RV RU_8 ST NS I0 I1 I2 BO_9 FI RG GU PU_10 MA MN MS OT SC r0 r1 r2 r3 w r6 r7 r8 L Lg v7 zh21
            suffices e : Ev (d + 6, 0, 0, 225, 83, [.val (.ref 1024), .val (.ref 384), .val (.int p2), .val (.int p3), .val (.int x1), .val (.int v7)], [], (126, 120, L, [Y, T, H2, H, RV, RU_11, ST, NS, I0, I1, I2, BO_12, FI, RG, GU, PU_13, MA, MN, MS, OT, SC], [r0, r1, r2, r3, w, 256, r6, r7, r8], Lg)) o from ev_call (fun v μ => (d + 6, 0, 0, 225, 83, [.val (.ref 1024), .val (.ref 384), .val (.int p2), .val (.int p3), .val (.int x1), .val (.int v7)], v.toList ++ [], μ)) 4 ze22 e (fun n => Eq.refl _)
            exact ev_b 2 (zi15 _ (Option.some.inj zh17).symm ()) (fun n => Eq.refl _)
      · obtain ⟨v14, RU_15, BO_16, PU_17⟩ := zb13
        have ze23 := Option.some.inj h
        subst ze23
        exact ev_rete 2 ho (fun n => Eq.refl _)
    · have h := itn h zc9
      suffices e : Ev (d + 6, 0, 0, 225, 41, [.val (.ref 1024), .val (.ref 384), .val (.int p2), .val (.int p3), .val (.int x1), .val a_unk], [], (126, 120, L, [Y, T, H2, H, RV, RU, ST, NS, I0, I1, I2, BO, FI, RG, GU, (u2 PU 0 2 0), MA, MN, MS, OT, SC], [r0, r1, r2, r3, w, 256, r6, r7, r8], Lg)) o from ev_f (c := x3 ≠ 0) _ _ 1  zc9 e (fun n => Eq.refl _)
      have ze24 := Option.some.inj h
      subst ze24
      exact ev_rete 2 ho (fun n => Eq.refl _)
set_option maxRecDepth 1000000 in
set_option maxHeartbeats 4000000 in
theorem R_f_Y_pushes_3 (d : Nat) (Y T H2 H RV RU ST NS I0 I1 I2 BO FI RG GU PU MA MN MS OT SC : Nat → Nat → Int32) (w r5 : Nat) (L : Nat) (Lg : Int64) (p1 : Int32) (p2 : Int32) (p3 : Int32) (p4 : Int32) {r : Nat × Int32 × (Nat → Nat → Int32) × (Nat → Nat → Int32) × (Nat → Nat → Int32) × (Nat → Nat → Int32) × Nat} (h : f_Y_pushes Y H RU NS BO PU 256 r5 p1 p2 p3 p4 = some r) : Ev (d + 7, 4, 32, 323, 0, [.val (.ref 64), .val (.int p1), .val (.int p2), .val (.int p3), .val (.int p4), .val a_unk, .val a_unk], [], (126, 120, L, [Y, T, H2, H, RV, RU, ST, NS, I0, I1, I2, BO, FI, RG, GU, PU, MA, MN, MS, OT, SC], [256, 192, 384, 320, w, r5, 576, 640, 704], Lg)) ((r.1, a_ov r.1 (.int r.2.1), (126, 120, L, [r.2.2.1, T, H2, H, RV, r.2.2.2.1, ST, NS, I0, I1, I2, r.2.2.2.2.1, FI, RG, GU, r.2.2.2.2.2.1, MA, MN, MS, OT, SC], [256, 192, 384, 320, w, r.2.2.2.2.2.2, 576, 640, 704], Lg)) : AOut) := by
  suffices key : ∀ o : AOut, ((r.1, a_ov r.1 (.int r.2.1), (126, 120, L, [r.2.2.1, T, H2, H, RV, r.2.2.2.1, ST, NS, I0, I1, I2, r.2.2.2.2.1, FI, RG, GU, r.2.2.2.2.2.1, MA, MN, MS, OT, SC], [256, 192, 384, 320, w, r.2.2.2.2.2.2, 576, 640, 704], Lg)) : AOut) = o → Ev (d + 7, 4, 32, 323, 0, [.val (.ref 64), .val (.int p1), .val (.int p2), .val (.int p3), .val (.int p4), .val a_unk, .val a_unk], [], (126, 120, L, [Y, T, H2, H, RV, RU, ST, NS, I0, I1, I2, BO, FI, RG, GU, PU, MA, MN, MS, OT, SC], [256, 192, 384, 320, w, r5, 576, 640, 704], Lg)) o from key _ rfl
  intro o ho
  obtain ⟨⟨q1, Y_2⟩, zh1, h⟩ := bnd h
  have zh1 : f_Y_needPlace Y H p1 p2 p3 = some (q1, Y_2) := zh1
  have ze2 := R_f_Y_needPlace_3 (d + 4) Y T H2 H RV RU ST NS I0 I1 I2 BO FI RG GU PU MA MN MS OT SC w r5 L Lg p1 p2 p3 zh1
  cases q1 with
  | zero =>
    have h := itp h rfl
    suffices e : Ev (d + 7, 1, 8, 323, 7, [.val (.ref 64), .val (.int p1), .val (.int p2), .val (.int p3), .val (.int p4), .val a_unk, .val a_unk], [], (126, 120, L, [Y_2, T, H2, H, RV, RU, ST, NS, I0, I1, I2, BO, FI, RG, GU, PU, MA, MN, MS, OT, SC], [256, 192, 384, 320, w, r5, 576, 640, 704], Lg)) o from ev_call (fun v μ => (d + 7, 1, 8, 323, 7, [.val (.ref 64), .val (.int p1), .val (.int p2), .val (.int p3), .val (.int p4), .val a_unk, .val a_unk], v.toList ++ [], μ)) 5 ze2 e (fun n => Eq.refl _)
    obtain ⟨zt3, zh4, h⟩ := bnd h
    have zj5 : ∀ (v3 : Int32), v3 = zt3 → Ev (d + 7, 1, 8, 323, 24, [.val (.ref 64), .val (.int p1), .val (.int p2), .val (.int p3), .val (.int p4), .val a_unk, .val a_unk], [.int v3, .ref 64], (126, 120, L, [Y_2, T, H2, H, RV, RU, ST, NS, I0, I1, I2, BO, FI, RG, GU, PU, MA, MN, MS, OT, SC], [256, 192, 384, 320, w, r5, 576, 640, 704], Lg)) o := by
      intro v3 ze6
      subst ze6
      obtain ⟨⟨q4, Y_5⟩, zh7, h⟩ := bnd h
      have zh7 : f_Y_refuseUnless Y_2 v3 = some (q4, Y_5) := zh7
      have ze8 := R_f_Y_refuseUnless_3 (d + 6) Y_2 T H2 H RV RU ST NS I0 I1 I2 BO FI RG GU PU MA MN MS OT SC w r5 L Lg v3 zh7
      cases q4 with
      | zero =>
        have h := itp h rfl
        suffices e : Ev (d + 7, 0, 0, 323, 27, [.val (.ref 64), .val (.int p1), .val (.int p2), .val (.int p3), .val (.int p4), .val a_unk, .val a_unk], [], (126, 120, L, [Y_5, T, H2, H, RV, RU, ST, NS, I0, I1, I2, BO, FI, RG, GU, PU, MA, MN, MS, OT, SC], [256, 192, 384, 320, w, r5, 576, 640, 704], Lg)) o from ev_call (fun v μ => (d + 7, 0, 0, 323, 27, [.val (.ref 64), .val (.int p1), .val (.int p2), .val (.int p3), .val (.int p4), .val a_unk, .val a_unk], v.toList ++ [], μ)) 1 ze8 e (fun n => Eq.refl _)
        obtain ⟨BO_7, zh9, h⟩ := bnd h
        have zh9 : f_Y_lookNow H NS BO = some BO_7 := zh9
        have ze10 := R_f_Y_lookNow_3 (d + 4) Y_5 T H2 H RV RU ST NS I0 I1 I2 BO FI RG GU PU MA MN MS OT SC w r5 L Lg zh9
        suffices e : Ev (d + 7, 0, 0, 323, 31, [.val (.ref 64), .val (.int p1), .val (.int p2), .val (.int p3), .val (.int p4), .val a_unk, .val a_unk], [.ref 768], (126, 120, L, [Y_5, T, H2, H, RV, RU, ST, NS, I0, I1, I2, BO_7, FI, RG, GU, PU, MA, MN, MS, OT, SC], [256, 192, 384, 320, w, 256, 576, 640, 704], Lg)) o from ev_call (fun v μ => (d + 7, 0, 0, 323, 31, [.val (.ref 64), .val (.int p1), .val (.int p2), .val (.int p3), .val (.int p4), .val a_unk, .val a_unk], v.toList ++ [], μ)) 2 ze10 e (fun n => Eq.refl _)
        suffices e : Ev (d + 7, 0, 0, 323, 41, [.val (.ref 64), .val (.int p1), .val (.int p2), .val (.int p3), .val (.int p4), .val (.ref 768), .val a_unk], [.ref 384, .ref 1024], (126, 120, L, [Y_5, T, H2, H, RV, RU, ST, NS, I0, I1, I2, BO_7, FI, RG, GU, PU, MA, MN, MS, OT, SC], [256, 192, 384, 320, w, 256, 576, 640, 704], Lg)) o from ev_b 5 e (fun n => Eq.refl _)
        obtain ⟨x8, zh11, h⟩ := bnd h
        have zh11 : f_Y_placeOf p2 p3 = some x8 := zh11
        have ze12 := R_f_Y_placeOf_0 (d + 6) Y_5 T H2 H RV RU ST NS I0 I1 I2 BO_7 FI RG GU PU MA MN MS OT SC 256 192 384 320 w 256 576 640 704 L Lg p2 p3 zh11
        suffices e : Ev (d + 7, 0, 0, 323, 47, [.val (.ref 64), .val (.int p1), .val (.int p2), .val (.int p3), .val (.int p4), .val (.ref 768), .val a_unk], [.int x8, .int p1, .ref 384, .ref 1024], (126, 120, L, [Y_5, T, H2, H, RV, RU, ST, NS, I0, I1, I2, BO_7, FI, RG, GU, PU, MA, MN, MS, OT, SC], [256, 192, 384, 320, w, 256, 576, 640, 704], Lg)) o from ev_call (fun v μ => (d + 7, 0, 0, 323, 47, [.val (.ref 64), .val (.int p1), .val (.int p2), .val (.int p3), .val (.int p4), .val (.ref 768), .val a_unk], v.toList ++ [.int p1, .ref 384, .ref 1024], μ)) 4 ze12 e (fun n => Eq.refl _)
        obtain ⟨⟨x9, RU_10, BO_11, PU_12⟩, zh13, h⟩ := bnd h
        have zh13 : f_Pusher_run H RU BO_7 PU p1 x8 = some (x9, RU_10, BO_11, PU_12) := zh13
        have ze14 := R_f_Pusher_run_3 (d + 0) Y_5 T H2 H RV RU ST NS I0 I1 I2 BO_7 FI RG GU PU MA MN MS OT SC 256 192 384 320 w 576 640 704 L Lg p1 x8 zh13
        suffices e : Ev (d + 7, 0, 0, 323, 50, [.val (.ref 64), .val (.int p1), .val (.int p2), .val (.int p3), .val (.int p4), .val (.ref 768), .val a_unk], [.int x9], (126, 120, L, [Y_5, T, H2, H, RV, RU_10, ST, NS, I0, I1, I2, BO_11, FI, RG, GU, PU_12, MA, MN, MS, OT, SC], [256, 192, 384, 320, w, 256, 576, 640, 704], Lg)) o from ev_call (fun v μ => (d + 7, 0, 0, 323, 50, [.val (.ref 64), .val (.int p1), .val (.int p2), .val (.int p3), .val (.int p4), .val (.ref 768), .val a_unk], v.toList ++ [], μ)) 1 ze14 e (fun n => Eq.refl _)
        by_cases zc15 : x9 = (-1)
        · have h := itp h zc15
          suffices e : Ev (d + 7, 0, 0, 323, 63, [.val (.ref 64), .val (.int p1), .val (.int p2), .val (.int p3), .val (.int p4), .val (.ref 768), .val (.int x9)], [], (126, 120, L, [Y_5, T, H2, H, RV, RU_10, ST, NS, I0, I1, I2, BO_11, FI, RG, GU, PU_12, MA, MN, MS, OT, SC], [256, 192, 384, 320, w, 256, 576, 640, 704], Lg)) o from ev_t (c := x9 = (-1)) _ _ 4  zc15 e (fun n => Eq.refl _)
          have ze16 := Option.some.inj h
          subst ze16
          exact ev_rete 2 ho (fun n => Eq.refl _)
        · have h := itn h zc15
          suffices e : Ev (d + 7, 0, 0, 323, 58, [.val (.ref 64), .val (.int p1), .val (.int p2), .val (.int p3), .val (.int p4), .val (.ref 768), .val (.int x9)], [], (126, 120, L, [Y_5, T, H2, H, RV, RU_10, ST, NS, I0, I1, I2, BO_11, FI, RG, GU, PU_12, MA, MN, MS, OT, SC], [256, 192, 384, 320, w, 256, 576, 640, 704], Lg)) o from ev_f (c := x9 = (-1)) _ _ 4  zc15 e (fun n => Eq.refl _)
          by_cases zc17 : p4 ≠ 0
          · have h := itp h zc17
            suffices e : Ev (d + 7, 0, 0, 323, 66, [.val (.ref 64), .val (.int p1), .val (.int p2), .val (.int p3), .val (.int p4), .val (.ref 768), .val (.int x9)], [], (126, 120, L, [Y_5, T, H2, H, RV, RU_10, ST, NS, I0, I1, I2, BO_11, FI, RG, GU, PU_12, MA, MN, MS, OT, SC], [256, 192, 384, 320, w, 256, 576, 640, 704], Lg)) o from ev_t (c := p4 ≠ 0) _ _ 2  zc17 e (fun n => Eq.refl _)
            by_cases zc18 : p4 ≠ 1
            · have h := itp h zc18
              suffices e : Ev (d + 7, 0, 0, 323, 88, [.val (.ref 64), .val (.int p1), .val (.int p2), .val (.int p3), .val (.int p4), .val (.ref 768), .val (.int x9)], [], (126, 120, L, [Y_5, T, H2, H, RV, RU_10, ST, NS, I0, I1, I2, BO_11, FI, RG, GU, PU_12, MA, MN, MS, OT, SC], [256, 192, 384, 320, w, 256, 576, 640, 704], Lg)) o from ev_t (c := p4 ≠ 1) _ _ 3  zc18 e (fun n => Eq.refl _)
              obtain ⟨x13, zh19, h⟩ := bnd h
              have zh19 : f_Board_elsewhere H BO_11 (NS 1) = some x13 := zh19
              have ze20 := R_f_Board_elsewhere_1 (d + 6) Y_5 T H2 H RV RU_10 ST NS I0 I1 I2 BO_11 FI RG GU PU_12 MA MN MS OT SC 256 192 384 320 w 576 640 704 L Lg zh19
              suffices e : Ev (d + 7, 0, 0, 323, 100, [.val (.ref 64), .val (.int p1), .val (.int p2), .val (.int p3), .val (.int p4), .val (.ref 768), .val (.int x9)], [.int x13], (126, 120, L, [Y_5, T, H2, H, RV, RU_10, ST, NS, I0, I1, I2, BO_11, FI, RG, GU, PU_12, MA, MN, MS, OT, SC], [256, 192, 384, 320, w, 256, 576, 640, 704], Lg)) o from ev_call (fun v μ => (d + 7, 0, 0, 323, 100, [.val (.ref 64), .val (.int p1), .val (.int p2), .val (.int p3), .val (.int p4), .val (.ref 768), .val (.int x9)], v.toList ++ [], μ)) 5 ze20 e (fun n => Eq.refl _)
              obtain ⟨x14, zh21, h⟩ := bnd h
              have zh21 : f_Board_placed H BO_11 = some x14 := zh21
              have ze22 := R_f_Board_placed_1 (d + 6) Y_5 T H2 H RV RU_10 ST NS I0 I1 I2 BO_11 FI RG GU PU_12 MA MN MS OT SC 256 192 384 320 w 576 640 704 L Lg zh21
              suffices e : Ev (d + 7, 0, 0, 323, 105, [.val (.ref 64), .val (.int p1), .val (.int p2), .val (.int p3), .val (.int p4), .val (.ref 768), .val (.int x9)], [.int x14, .int x13], (126, 120, L, [Y_5, T, H2, H, RV, RU_10, ST, NS, I0, I1, I2, BO_11, FI, RG, GU, PU_12, MA, MN, MS, OT, SC], [256, 192, 384, 320, w, 256, 576, 640, 704], Lg)) o from ev_call (fun v μ => (d + 7, 0, 0, 323, 105, [.val (.ref 64), .val (.int p1), .val (.int p2), .val (.int p3), .val (.int p4), .val (.ref 768), .val (.int x9)], v.toList ++ [.int x13], μ)) 2 ze22 e (fun n => Eq.refl _)
              have ze23 := Option.some.inj h
              subst ze23
              exact ev_rete 4 ho (fun n => Eq.refl _)
            · have h := itn h zc18
              suffices e : Ev (d + 7, 0, 0, 323, 72, [.val (.ref 64), .val (.int p1), .val (.int p2), .val (.int p3), .val (.int p4), .val (.ref 768), .val (.int x9)], [], (126, 120, L, [Y_5, T, H2, H, RV, RU_10, ST, NS, I0, I1, I2, BO_11, FI, RG, GU, PU_12, MA, MN, MS, OT, SC], [256, 192, 384, 320, w, 256, 576, 640, 704], Lg)) o from ev_f (c := p4 ≠ 1) _ _ 3  zc18 e (fun n => Eq.refl _)
              obtain ⟨x15, zh24, h⟩ := bnd h
              have zh24 : f_Board_elsewhere H BO_11 (NS 1) = some x15 := zh24
              have ze25 := R_f_Board_elsewhere_1 (d + 6) Y_5 T H2 H RV RU_10 ST NS I0 I1 I2 BO_11 FI RG GU PU_12 MA MN MS OT SC 256 192 384 320 w 576 640 704 L Lg zh24
              suffices e : Ev (d + 7, 0, 0, 323, 84, [.val (.ref 64), .val (.int p1), .val (.int p2), .val (.int p3), .val (.int p4), .val (.ref 768), .val (.int x9)], [.int x15], (126, 120, L, [Y_5, T, H2, H, RV, RU_10, ST, NS, I0, I1, I2, BO_11, FI, RG, GU, PU_12, MA, MN, MS, OT, SC], [256, 192, 384, 320, w, 256, 576, 640, 704], Lg)) o from ev_call (fun v μ => (d + 7, 0, 0, 323, 84, [.val (.ref 64), .val (.int p1), .val (.int p2), .val (.int p3), .val (.int p4), .val (.ref 768), .val (.int x9)], v.toList ++ [], μ)) 5 ze25 e (fun n => Eq.refl _)
              obtain ⟨x16, zh26, h⟩ := bnd h
              have zh26 : f_Integer_bitCount x15 = some x16 := zh26
              have ze27 := R_f_Integer_bitCount_0 (d + 6) Y_5 T H2 H RV RU_10 ST NS I0 I1 I2 BO_11 FI RG GU PU_12 MA MN MS OT SC 256 192 384 320 w 256 576 640 704 L Lg x15 zh26
              suffices e : Ev (d + 7, 0, 0, 323, 87, [.val (.ref 64), .val (.int p1), .val (.int p2), .val (.int p3), .val (.int p4), .val (.ref 768), .val (.int x9)], [.int x16], (126, 120, L, [Y_5, T, H2, H, RV, RU_10, ST, NS, I0, I1, I2, BO_11, FI, RG, GU, PU_12, MA, MN, MS, OT, SC], [256, 192, 384, 320, w, 256, 576, 640, 704], Lg)) o from ev_call (fun v μ => (d + 7, 0, 0, 323, 87, [.val (.ref 64), .val (.int p1), .val (.int p2), .val (.int p3), .val (.int p4), .val (.ref 768), .val (.int x9)], v.toList ++ [], μ)) 1 ze27 e (fun n => Eq.refl _)
              have ze28 := Option.some.inj h
              subst ze28
              exact ev_rete 1 ho (fun n => Eq.refl _)
          · have h := itn h zc17
            suffices e : Ev (d + 7, 0, 0, 323, 63, [.val (.ref 64), .val (.int p1), .val (.int p2), .val (.int p3), .val (.int p4), .val (.ref 768), .val (.int x9)], [], (126, 120, L, [Y_5, T, H2, H, RV, RU_10, ST, NS, I0, I1, I2, BO_11, FI, RG, GU, PU_12, MA, MN, MS, OT, SC], [256, 192, 384, 320, w, 256, 576, 640, 704], Lg)) o from ev_f (c := p4 ≠ 0) _ _ 2  zc17 e (fun n => Eq.refl _)
            have ze29 := Option.some.inj h
            subst ze29
            exact ev_rete 2 ho (fun n => Eq.refl _)
      | succ q4 =>
        have h := itn h (Nat.succ_ne_zero q4)
        have ze30 := Option.some.inj h
        subst ze30
        subst ho
        exact ev_thr (fun v μ => (d + 7, 0, 0, 323, 27, [.val (.ref 64), .val (.int p1), .val (.int p2), .val (.int p3), .val (.int p4), .val a_unk, .val a_unk], v.toList ++ [], μ)) 1 ze8 (fun n => Eq.refl _) (fun n => rfl)
    obtain ⟨zt31, zh32, zh4⟩ := bnd zh4
    have zj33 : zt31 = .inl () → Ev (d + 7, 1, 8, 323, 23, [.val (.ref 64), .val (.int p1), .val (.int p2), .val (.int p3), .val (.int p4), .val a_unk, .val a_unk], [.ref 64], (126, 120, L, [Y_2, T, H2, H, RV, RU, ST, NS, I0, I1, I2, BO, FI, RG, GU, PU, MA, MN, MS, OT, SC], [256, 192, 384, 320, w, r5, 576, 640, 704], Lg)) o := by
      intro ze34
      have zh4 := sum_l zh4 ze34
      exact ev_b 1 (zj5 0 (Option.some.inj zh4) ) (fun n => Eq.refl _)
    by_cases zc35 : p4 < 0
    · have zh32 := itp zh32 zc35
      suffices e : Ev (d + 7, 1, 8, 323, 23, [.val (.ref 64), .val (.int p1), .val (.int p2), .val (.int p3), .val (.int p4), .val a_unk, .val a_unk], [.ref 64], (126, 120, L, [Y_2, T, H2, H, RV, RU, ST, NS, I0, I1, I2, BO, FI, RG, GU, PU, MA, MN, MS, OT, SC], [256, 192, 384, 320, w, r5, 576, 640, 704], Lg)) o from ev_t (c := p4 < 0) _ _ 3  zc35 e (fun n => Eq.refl _)
      exact ev_b 0 (zj33  (Option.some.inj zh32).symm ) (fun n => Eq.refl _)
    · have zh32 := itn zh32 zc35
      suffices e : Ev (d + 7, 1, 8, 323, 13, [.val (.ref 64), .val (.int p1), .val (.int p2), .val (.int p3), .val (.int p4), .val a_unk, .val a_unk], [.ref 64], (126, 120, L, [Y_2, T, H2, H, RV, RU, ST, NS, I0, I1, I2, BO, FI, RG, GU, PU, MA, MN, MS, OT, SC], [256, 192, 384, 320, w, r5, 576, 640, 704], Lg)) o from ev_f (c := p4 < 0) _ _ 3  zc35 e (fun n => Eq.refl _)
      by_cases zc36 : 2 < p4
      · have zh32 := itp zh32 zc36
        suffices e : Ev (d + 7, 1, 8, 323, 23, [.val (.ref 64), .val (.int p1), .val (.int p2), .val (.int p3), .val (.int p4), .val a_unk, .val a_unk], [.ref 64], (126, 120, L, [Y_2, T, H2, H, RV, RU, ST, NS, I0, I1, I2, BO, FI, RG, GU, PU, MA, MN, MS, OT, SC], [256, 192, 384, 320, w, r5, 576, 640, 704], Lg)) o from ev_t (c := 2 < p4) _ _ 3  zc36 e (fun n => Eq.refl _)
        exact ev_b 0 (zj33  (Option.some.inj zh32).symm ) (fun n => Eq.refl _)
      · have zh32 := itn zh32 zc36
        suffices e : Ev (d + 7, 1, 8, 323, 19, [.val (.ref 64), .val (.int p1), .val (.int p2), .val (.int p3), .val (.int p4), .val a_unk, .val a_unk], [.ref 64], (126, 120, L, [Y_2, T, H2, H, RV, RU, ST, NS, I0, I1, I2, BO, FI, RG, GU, PU, MA, MN, MS, OT, SC], [256, 192, 384, 320, w, r5, 576, 640, 704], Lg)) o from ev_f (c := 2 < p4) _ _ 3  zc36 e (fun n => Eq.refl _)
        have zh37 := sum_r zh4 (Option.some.inj zh32).symm
        exact ev_b 2 (zj5 1 (Option.some.inj zh37) ) (fun n => Eq.refl _)
  | succ q1 =>
    have h := itn h (Nat.succ_ne_zero q1)
    have ze38 := Option.some.inj h
    subst ze38
    subst ho
    exact ev_thr (fun v μ => (d + 7, 1, 8, 323, 7, [.val (.ref 64), .val (.int p1), .val (.int p2), .val (.int p3), .val (.int p4), .val a_unk, .val a_unk], v.toList ++ [], μ)) 5 ze2 (fun n => Eq.refl _) (fun n => rfl)
set_option maxRecDepth 1000000 in
set_option maxHeartbeats 4000000 in
theorem R_f_Y_pushed_0 (d : Nat) (Y T H H2 RU RV ST NS I0 I1 I2 BO FI RG GU PU MA MN MS OT SC : Nat → Nat → Int32) (w r5 : Nat) (L : Nat) (Lg : Int64) (p1 : Int32) (p2 : Int32) (p3 : Int32) (p4 : Int32) {r : Nat × Int32 × (Nat → Nat → Int32) × (Nat → Nat → Int32) × (Nat → Nat → Int32) × (Nat → Nat → Int32) × Nat} (h : f_Y_pushed Y H RU NS BO PU 192 r5 p1 p2 p3 p4 = some r) : Ev (d + 7, 4, 32, 324, 0, [.val (.ref 64), .val (.int p1), .val (.int p2), .val (.int p3), .val (.int p4), .val a_unk, .val a_unk], [], (126, 120, L, [Y, T, H, H2, RU, RV, ST, NS, I0, I1, I2, BO, FI, RG, GU, PU, MA, MN, MS, OT, SC], [192, 256, 320, 384, w, r5, 576, 640, 704], Lg)) ((r.1, a_ov r.1 (.int r.2.1), (126, 120, L, [r.2.2.1, T, H, H2, r.2.2.2.1, RV, ST, NS, I0, I1, I2, r.2.2.2.2.1, FI, RG, GU, r.2.2.2.2.2.1, MA, MN, MS, OT, SC], [192, 256, 320, 384, w, r.2.2.2.2.2.2, 576, 640, 704], Lg)) : AOut) := by
  suffices key : ∀ o : AOut, ((r.1, a_ov r.1 (.int r.2.1), (126, 120, L, [r.2.2.1, T, H, H2, r.2.2.2.1, RV, ST, NS, I0, I1, I2, r.2.2.2.2.1, FI, RG, GU, r.2.2.2.2.2.1, MA, MN, MS, OT, SC], [192, 256, 320, 384, w, r.2.2.2.2.2.2, 576, 640, 704], Lg)) : AOut) = o → Ev (d + 7, 4, 32, 324, 0, [.val (.ref 64), .val (.int p1), .val (.int p2), .val (.int p3), .val (.int p4), .val a_unk, .val a_unk], [], (126, 120, L, [Y, T, H, H2, RU, RV, ST, NS, I0, I1, I2, BO, FI, RG, GU, PU, MA, MN, MS, OT, SC], [192, 256, 320, 384, w, r5, 576, 640, 704], Lg)) o from key _ rfl
  intro o ho
  obtain ⟨⟨q1, Y_2⟩, zh1, h⟩ := bnd h
  have zh1 : f_Y_needMeeting Y H p4 = some (q1, Y_2) := zh1
  have ze2 := R_f_Y_needMeeting_0 (d + 5) Y T H H2 RU RV ST NS I0 I1 I2 BO FI RG GU PU MA MN MS OT SC w r5 L Lg p4 zh1
  cases q1 with
  | zero =>
    have h := itp h rfl
    suffices e : Ev (d + 7, 3, 24, 324, 6, [.val (.ref 64), .val (.int p1), .val (.int p2), .val (.int p3), .val (.int p4), .val a_unk, .val a_unk], [], (126, 120, L, [Y_2, T, H, H2, RU, RV, ST, NS, I0, I1, I2, BO, FI, RG, GU, PU, MA, MN, MS, OT, SC], [192, 256, 320, 384, w, r5, 576, 640, 704], Lg)) o from ev_call (fun v μ => (d + 7, 3, 24, 324, 6, [.val (.ref 64), .val (.int p1), .val (.int p2), .val (.int p3), .val (.int p4), .val a_unk, .val a_unk], v.toList ++ [], μ)) 3 ze2 e (fun n => Eq.refl _)
    obtain ⟨⟨q3, Y_4⟩, zh3, h⟩ := bnd h
    have zh3 : f_Y_needPlace Y_2 H p1 p2 p3 = some (q3, Y_4) := zh3
    have ze4 := R_f_Y_needPlace_0 (d + 4) Y_2 T H H2 RU RV ST NS I0 I1 I2 BO FI RG GU PU MA MN MS OT SC w r5 L Lg p1 p2 p3 zh3
    cases q3 with
    | zero =>
      have h := itp h rfl
      suffices e : Ev (d + 7, 0, 0, 324, 13, [.val (.ref 64), .val (.int p1), .val (.int p2), .val (.int p3), .val (.int p4), .val a_unk, .val a_unk], [], (126, 120, L, [Y_4, T, H, H2, RU, RV, ST, NS, I0, I1, I2, BO, FI, RG, GU, PU, MA, MN, MS, OT, SC], [192, 256, 320, 384, w, r5, 576, 640, 704], Lg)) o from ev_call (fun v μ => (d + 7, 0, 0, 324, 13, [.val (.ref 64), .val (.int p1), .val (.int p2), .val (.int p3), .val (.int p4), .val a_unk, .val a_unk], v.toList ++ [], μ)) 5 ze4 e (fun n => Eq.refl _)
      obtain ⟨BO_6, zh5, h⟩ := bnd h
      have zh5 : f_Y_lookNow H NS BO = some BO_6 := zh5
      have ze6 := R_f_Y_lookNow_0 (d + 4) Y_4 T H H2 RU RV ST NS I0 I1 I2 BO FI RG GU PU MA MN MS OT SC w r5 L Lg zh5
      suffices e : Ev (d + 7, 0, 0, 324, 17, [.val (.ref 64), .val (.int p1), .val (.int p2), .val (.int p3), .val (.int p4), .val a_unk, .val a_unk], [.ref 768], (126, 120, L, [Y_4, T, H, H2, RU, RV, ST, NS, I0, I1, I2, BO_6, FI, RG, GU, PU, MA, MN, MS, OT, SC], [192, 256, 320, 384, w, 192, 576, 640, 704], Lg)) o from ev_call (fun v μ => (d + 7, 0, 0, 324, 17, [.val (.ref 64), .val (.int p1), .val (.int p2), .val (.int p3), .val (.int p4), .val a_unk, .val a_unk], v.toList ++ [], μ)) 2 ze6 e (fun n => Eq.refl _)
      suffices e : Ev (d + 7, 0, 0, 324, 27, [.val (.ref 64), .val (.int p1), .val (.int p2), .val (.int p3), .val (.int p4), .val (.ref 768), .val a_unk], [.ref 320, .ref 1024], (126, 120, L, [Y_4, T, H, H2, RU, RV, ST, NS, I0, I1, I2, BO_6, FI, RG, GU, PU, MA, MN, MS, OT, SC], [192, 256, 320, 384, w, 192, 576, 640, 704], Lg)) o from ev_b 5 e (fun n => Eq.refl _)
      obtain ⟨x7, zh7, h⟩ := bnd h
      have zh7 : f_Y_placeOf p2 p3 = some x7 := zh7
      have ze8 := R_f_Y_placeOf_0 (d + 6) Y_4 T H H2 RU RV ST NS I0 I1 I2 BO_6 FI RG GU PU MA MN MS OT SC 192 256 320 384 w 192 576 640 704 L Lg p2 p3 zh7
      suffices e : Ev (d + 7, 0, 0, 324, 33, [.val (.ref 64), .val (.int p1), .val (.int p2), .val (.int p3), .val (.int p4), .val (.ref 768), .val a_unk], [.int x7, .int p1, .ref 320, .ref 1024], (126, 120, L, [Y_4, T, H, H2, RU, RV, ST, NS, I0, I1, I2, BO_6, FI, RG, GU, PU, MA, MN, MS, OT, SC], [192, 256, 320, 384, w, 192, 576, 640, 704], Lg)) o from ev_call (fun v μ => (d + 7, 0, 0, 324, 33, [.val (.ref 64), .val (.int p1), .val (.int p2), .val (.int p3), .val (.int p4), .val (.ref 768), .val a_unk], v.toList ++ [.int p1, .ref 320, .ref 1024], μ)) 4 ze8 e (fun n => Eq.refl _)
      obtain ⟨⟨x8, RU_9, BO_10, PU_11⟩, zh9, h⟩ := bnd h
      have zh9 : f_Pusher_run H RU BO_6 PU p1 x7 = some (x8, RU_9, BO_10, PU_11) := zh9
      have ze10 := R_f_Pusher_run_0 (d + 0) Y_4 T H H2 RU RV ST NS I0 I1 I2 BO_6 FI RG GU PU MA MN MS OT SC 192 256 320 384 w 576 640 704 L Lg p1 x7 zh9
      suffices e : Ev (d + 7, 0, 0, 324, 36, [.val (.ref 64), .val (.int p1), .val (.int p2), .val (.int p3), .val (.int p4), .val (.ref 768), .val a_unk], [.int x8], (126, 120, L, [Y_4, T, H, H2, RU_9, RV, ST, NS, I0, I1, I2, BO_10, FI, RG, GU, PU_11, MA, MN, MS, OT, SC], [192, 256, 320, 384, w, 192, 576, 640, 704], Lg)) o from ev_call (fun v μ => (d + 7, 0, 0, 324, 36, [.val (.ref 64), .val (.int p1), .val (.int p2), .val (.int p3), .val (.int p4), .val (.ref 768), .val a_unk], v.toList ++ [], μ)) 1 ze10 e (fun n => Eq.refl _)
      by_cases zc11 : x8 ≠ (-1)
      · have h := itp h zc11
        suffices e : Ev (d + 7, 0, 0, 324, 48, [.val (.ref 64), .val (.int p1), .val (.int p2), .val (.int p3), .val (.int p4), .val (.ref 768), .val (.int x8)], [], (126, 120, L, [Y_4, T, H, H2, RU_9, RV, ST, NS, I0, I1, I2, BO_10, FI, RG, GU, PU_11, MA, MN, MS, OT, SC], [192, 256, 320, 384, w, 192, 576, 640, 704], Lg)) o from ev_t (c := x8 ≠ (-1)) _ _ 4  zc11 e (fun n => Eq.refl _)
        obtain ⟨x12, zh12, h⟩ := bnd h
        have zh12 : rdx (BO_10 1) 10 p4 = some x12 := zh12
        suffices e : Ev (d + 7, 0, 0, 324, 56, [.val (.ref 64), .val (.int p1), .val (.int p2), .val (.int p3), .val (.int p4), .val (.ref 768), .val (.int x8)], [.int x12], (126, 120, L, [Y_4, T, H, H2, RU_9, RV, ST, NS, I0, I1, I2, BO_10, FI, RG, GU, PU_11, MA, MN, MS, OT, SC], [192, 256, 320, 384, w, 192, 576, 640, 704], Lg)) o from ev_opt (fun x12 => (d + 7, 0, 0, 324, 56, [.val (.ref 64), .val (.int p1), .val (.int p2), .val (.int p3), .val (.int p4), .val (.ref 768), .val (.int x8)], [.int x12], (126, 120, L, [Y_4, T, H, H2, RU_9, RV, ST, NS, I0, I1, I2, BO_10, FI, RG, GU, PU_11, MA, MN, MS, OT, SC], [192, 256, 320, 384, w, 192, 576, 640, 704], Lg))) 4 zh12 e (fun n => Eq.refl _)
        obtain ⟨x13, zh13, h⟩ := bnd h
        have zh13 : f_Y_tenfold x12 = some x13 := zh13
        have ze14 := R_f_Y_tenfold_0 (d + 5) Y_4 T H H2 RU_9 RV ST NS I0 I1 I2 BO_10 FI RG GU PU_11 MA MN MS OT SC 192 256 320 384 w 192 576 640 704 L Lg x12 zh13
        suffices e : Ev (d + 7, 0, 0, 324, 59, [.val (.ref 64), .val (.int p1), .val (.int p2), .val (.int p3), .val (.int p4), .val (.ref 768), .val (.int x8)], [.int x13], (126, 120, L, [Y_4, T, H, H2, RU_9, RV, ST, NS, I0, I1, I2, BO_10, FI, RG, GU, PU_11, MA, MN, MS, OT, SC], [192, 256, 320, 384, w, 192, 576, 640, 704], Lg)) o from ev_call (fun v μ => (d + 7, 0, 0, 324, 59, [.val (.ref 64), .val (.int p1), .val (.int p2), .val (.int p3), .val (.int p4), .val (.ref 768), .val (.int x8)], v.toList ++ [], μ)) 1 ze14 e (fun n => Eq.refl _)
        have ze15 := Option.some.inj h
        subst ze15
        exact ev_rete 1 ho (fun n => Eq.refl _)
      · have h := itn h zc11
        suffices e : Ev (d + 7, 0, 0, 324, 44, [.val (.ref 64), .val (.int p1), .val (.int p2), .val (.int p3), .val (.int p4), .val (.ref 768), .val (.int x8)], [], (126, 120, L, [Y_4, T, H, H2, RU_9, RV, ST, NS, I0, I1, I2, BO_10, FI, RG, GU, PU_11, MA, MN, MS, OT, SC], [192, 256, 320, 384, w, 192, 576, 640, 704], Lg)) o from ev_f (c := x8 ≠ (-1)) _ _ 4  zc11 e (fun n => Eq.refl _)
        have ze16 := Option.some.inj h
        subst ze16
        exact ev_rete 3 ho (fun n => Eq.refl _)
    | succ q3 =>
      have h := itn h (Nat.succ_ne_zero q3)
      have ze17 := Option.some.inj h
      subst ze17
      subst ho
      exact ev_thr (fun v μ => (d + 7, 0, 0, 324, 13, [.val (.ref 64), .val (.int p1), .val (.int p2), .val (.int p3), .val (.int p4), .val a_unk, .val a_unk], v.toList ++ [], μ)) 5 ze4 (fun n => Eq.refl _) (fun n => rfl)
  | succ q1 =>
    have h := itn h (Nat.succ_ne_zero q1)
    have ze18 := Option.some.inj h
    subst ze18
    subst ho
    exact ev_thr (fun v μ => (d + 7, 3, 24, 324, 6, [.val (.ref 64), .val (.int p1), .val (.int p2), .val (.int p3), .val (.int p4), .val a_unk, .val a_unk], v.toList ++ [], μ)) 3 ze2 (fun n => Eq.refl _) (fun n => rfl)
set_option maxRecDepth 1000000 in
set_option maxHeartbeats 4000000 in
theorem R_f_Y_pushed_1 (d : Nat) (Y T H H2 RV RU ST NS I0 I1 I2 BO FI RG GU PU MA MN MS OT SC : Nat → Nat → Int32) (w r5 : Nat) (L : Nat) (Lg : Int64) (p1 : Int32) (p2 : Int32) (p3 : Int32) (p4 : Int32) {r : Nat × Int32 × (Nat → Nat → Int32) × (Nat → Nat → Int32) × (Nat → Nat → Int32) × (Nat → Nat → Int32) × Nat} (h : f_Y_pushed Y H RU NS BO PU 192 r5 p1 p2 p3 p4 = some r) : Ev (d + 7, 4, 32, 324, 0, [.val (.ref 64), .val (.int p1), .val (.int p2), .val (.int p3), .val (.int p4), .val a_unk, .val a_unk], [], (126, 120, L, [Y, T, H, H2, RV, RU, ST, NS, I0, I1, I2, BO, FI, RG, GU, PU, MA, MN, MS, OT, SC], [192, 256, 384, 320, w, r5, 576, 640, 704], Lg)) ((r.1, a_ov r.1 (.int r.2.1), (126, 120, L, [r.2.2.1, T, H, H2, RV, r.2.2.2.1, ST, NS, I0, I1, I2, r.2.2.2.2.1, FI, RG, GU, r.2.2.2.2.2.1, MA, MN, MS, OT, SC], [192, 256, 384, 320, w, r.2.2.2.2.2.2, 576, 640, 704], Lg)) : AOut) := by
  suffices key : ∀ o : AOut, ((r.1, a_ov r.1 (.int r.2.1), (126, 120, L, [r.2.2.1, T, H, H2, RV, r.2.2.2.1, ST, NS, I0, I1, I2, r.2.2.2.2.1, FI, RG, GU, r.2.2.2.2.2.1, MA, MN, MS, OT, SC], [192, 256, 384, 320, w, r.2.2.2.2.2.2, 576, 640, 704], Lg)) : AOut) = o → Ev (d + 7, 4, 32, 324, 0, [.val (.ref 64), .val (.int p1), .val (.int p2), .val (.int p3), .val (.int p4), .val a_unk, .val a_unk], [], (126, 120, L, [Y, T, H, H2, RV, RU, ST, NS, I0, I1, I2, BO, FI, RG, GU, PU, MA, MN, MS, OT, SC], [192, 256, 384, 320, w, r5, 576, 640, 704], Lg)) o from key _ rfl
  intro o ho
  obtain ⟨⟨q1, Y_2⟩, zh1, h⟩ := bnd h
  have zh1 : f_Y_needMeeting Y H p4 = some (q1, Y_2) := zh1
  have ze2 := R_f_Y_needMeeting_1 (d + 5) Y T H H2 RV RU ST NS I0 I1 I2 BO FI RG GU PU MA MN MS OT SC w r5 L Lg p4 zh1
  cases q1 with
  | zero =>
    have h := itp h rfl
    suffices e : Ev (d + 7, 3, 24, 324, 6, [.val (.ref 64), .val (.int p1), .val (.int p2), .val (.int p3), .val (.int p4), .val a_unk, .val a_unk], [], (126, 120, L, [Y_2, T, H, H2, RV, RU, ST, NS, I0, I1, I2, BO, FI, RG, GU, PU, MA, MN, MS, OT, SC], [192, 256, 384, 320, w, r5, 576, 640, 704], Lg)) o from ev_call (fun v μ => (d + 7, 3, 24, 324, 6, [.val (.ref 64), .val (.int p1), .val (.int p2), .val (.int p3), .val (.int p4), .val a_unk, .val a_unk], v.toList ++ [], μ)) 3 ze2 e (fun n => Eq.refl _)
    obtain ⟨⟨q3, Y_4⟩, zh3, h⟩ := bnd h
    have zh3 : f_Y_needPlace Y_2 H p1 p2 p3 = some (q3, Y_4) := zh3
    have ze4 := R_f_Y_needPlace_1 (d + 4) Y_2 T H H2 RV RU ST NS I0 I1 I2 BO FI RG GU PU MA MN MS OT SC w r5 L Lg p1 p2 p3 zh3
    cases q3 with
    | zero =>
      have h := itp h rfl
      suffices e : Ev (d + 7, 0, 0, 324, 13, [.val (.ref 64), .val (.int p1), .val (.int p2), .val (.int p3), .val (.int p4), .val a_unk, .val a_unk], [], (126, 120, L, [Y_4, T, H, H2, RV, RU, ST, NS, I0, I1, I2, BO, FI, RG, GU, PU, MA, MN, MS, OT, SC], [192, 256, 384, 320, w, r5, 576, 640, 704], Lg)) o from ev_call (fun v μ => (d + 7, 0, 0, 324, 13, [.val (.ref 64), .val (.int p1), .val (.int p2), .val (.int p3), .val (.int p4), .val a_unk, .val a_unk], v.toList ++ [], μ)) 5 ze4 e (fun n => Eq.refl _)
      obtain ⟨BO_6, zh5, h⟩ := bnd h
      have zh5 : f_Y_lookNow H NS BO = some BO_6 := zh5
      have ze6 := R_f_Y_lookNow_1 (d + 4) Y_4 T H H2 RV RU ST NS I0 I1 I2 BO FI RG GU PU MA MN MS OT SC w r5 L Lg zh5
      suffices e : Ev (d + 7, 0, 0, 324, 17, [.val (.ref 64), .val (.int p1), .val (.int p2), .val (.int p3), .val (.int p4), .val a_unk, .val a_unk], [.ref 768], (126, 120, L, [Y_4, T, H, H2, RV, RU, ST, NS, I0, I1, I2, BO_6, FI, RG, GU, PU, MA, MN, MS, OT, SC], [192, 256, 384, 320, w, 192, 576, 640, 704], Lg)) o from ev_call (fun v μ => (d + 7, 0, 0, 324, 17, [.val (.ref 64), .val (.int p1), .val (.int p2), .val (.int p3), .val (.int p4), .val a_unk, .val a_unk], v.toList ++ [], μ)) 2 ze6 e (fun n => Eq.refl _)
      suffices e : Ev (d + 7, 0, 0, 324, 27, [.val (.ref 64), .val (.int p1), .val (.int p2), .val (.int p3), .val (.int p4), .val (.ref 768), .val a_unk], [.ref 384, .ref 1024], (126, 120, L, [Y_4, T, H, H2, RV, RU, ST, NS, I0, I1, I2, BO_6, FI, RG, GU, PU, MA, MN, MS, OT, SC], [192, 256, 384, 320, w, 192, 576, 640, 704], Lg)) o from ev_b 5 e (fun n => Eq.refl _)
      obtain ⟨x7, zh7, h⟩ := bnd h
      have zh7 : f_Y_placeOf p2 p3 = some x7 := zh7
      have ze8 := R_f_Y_placeOf_0 (d + 6) Y_4 T H H2 RV RU ST NS I0 I1 I2 BO_6 FI RG GU PU MA MN MS OT SC 192 256 384 320 w 192 576 640 704 L Lg p2 p3 zh7
      suffices e : Ev (d + 7, 0, 0, 324, 33, [.val (.ref 64), .val (.int p1), .val (.int p2), .val (.int p3), .val (.int p4), .val (.ref 768), .val a_unk], [.int x7, .int p1, .ref 384, .ref 1024], (126, 120, L, [Y_4, T, H, H2, RV, RU, ST, NS, I0, I1, I2, BO_6, FI, RG, GU, PU, MA, MN, MS, OT, SC], [192, 256, 384, 320, w, 192, 576, 640, 704], Lg)) o from ev_call (fun v μ => (d + 7, 0, 0, 324, 33, [.val (.ref 64), .val (.int p1), .val (.int p2), .val (.int p3), .val (.int p4), .val (.ref 768), .val a_unk], v.toList ++ [.int p1, .ref 384, .ref 1024], μ)) 4 ze8 e (fun n => Eq.refl _)
      obtain ⟨⟨x8, RU_9, BO_10, PU_11⟩, zh9, h⟩ := bnd h
      have zh9 : f_Pusher_run H RU BO_6 PU p1 x7 = some (x8, RU_9, BO_10, PU_11) := zh9
      have ze10 := R_f_Pusher_run_1 (d + 0) Y_4 T H H2 RV RU ST NS I0 I1 I2 BO_6 FI RG GU PU MA MN MS OT SC 192 256 384 320 w 576 640 704 L Lg p1 x7 zh9
      suffices e : Ev (d + 7, 0, 0, 324, 36, [.val (.ref 64), .val (.int p1), .val (.int p2), .val (.int p3), .val (.int p4), .val (.ref 768), .val a_unk], [.int x8], (126, 120, L, [Y_4, T, H, H2, RV, RU_9, ST, NS, I0, I1, I2, BO_10, FI, RG, GU, PU_11, MA, MN, MS, OT, SC], [192, 256, 384, 320, w, 192, 576, 640, 704], Lg)) o from ev_call (fun v μ => (d + 7, 0, 0, 324, 36, [.val (.ref 64), .val (.int p1), .val (.int p2), .val (.int p3), .val (.int p4), .val (.ref 768), .val a_unk], v.toList ++ [], μ)) 1 ze10 e (fun n => Eq.refl _)
      by_cases zc11 : x8 ≠ (-1)
      · have h := itp h zc11
        suffices e : Ev (d + 7, 0, 0, 324, 48, [.val (.ref 64), .val (.int p1), .val (.int p2), .val (.int p3), .val (.int p4), .val (.ref 768), .val (.int x8)], [], (126, 120, L, [Y_4, T, H, H2, RV, RU_9, ST, NS, I0, I1, I2, BO_10, FI, RG, GU, PU_11, MA, MN, MS, OT, SC], [192, 256, 384, 320, w, 192, 576, 640, 704], Lg)) o from ev_t (c := x8 ≠ (-1)) _ _ 4  zc11 e (fun n => Eq.refl _)
        obtain ⟨x12, zh12, h⟩ := bnd h
        have zh12 : rdx (BO_10 1) 10 p4 = some x12 := zh12
        suffices e : Ev (d + 7, 0, 0, 324, 56, [.val (.ref 64), .val (.int p1), .val (.int p2), .val (.int p3), .val (.int p4), .val (.ref 768), .val (.int x8)], [.int x12], (126, 120, L, [Y_4, T, H, H2, RV, RU_9, ST, NS, I0, I1, I2, BO_10, FI, RG, GU, PU_11, MA, MN, MS, OT, SC], [192, 256, 384, 320, w, 192, 576, 640, 704], Lg)) o from ev_opt (fun x12 => (d + 7, 0, 0, 324, 56, [.val (.ref 64), .val (.int p1), .val (.int p2), .val (.int p3), .val (.int p4), .val (.ref 768), .val (.int x8)], [.int x12], (126, 120, L, [Y_4, T, H, H2, RV, RU_9, ST, NS, I0, I1, I2, BO_10, FI, RG, GU, PU_11, MA, MN, MS, OT, SC], [192, 256, 384, 320, w, 192, 576, 640, 704], Lg))) 4 zh12 e (fun n => Eq.refl _)
        obtain ⟨x13, zh13, h⟩ := bnd h
        have zh13 : f_Y_tenfold x12 = some x13 := zh13
        have ze14 := R_f_Y_tenfold_0 (d + 5) Y_4 T H H2 RV RU_9 ST NS I0 I1 I2 BO_10 FI RG GU PU_11 MA MN MS OT SC 192 256 384 320 w 192 576 640 704 L Lg x12 zh13
        suffices e : Ev (d + 7, 0, 0, 324, 59, [.val (.ref 64), .val (.int p1), .val (.int p2), .val (.int p3), .val (.int p4), .val (.ref 768), .val (.int x8)], [.int x13], (126, 120, L, [Y_4, T, H, H2, RV, RU_9, ST, NS, I0, I1, I2, BO_10, FI, RG, GU, PU_11, MA, MN, MS, OT, SC], [192, 256, 384, 320, w, 192, 576, 640, 704], Lg)) o from ev_call (fun v μ => (d + 7, 0, 0, 324, 59, [.val (.ref 64), .val (.int p1), .val (.int p2), .val (.int p3), .val (.int p4), .val (.ref 768), .val (.int x8)], v.toList ++ [], μ)) 1 ze14 e (fun n => Eq.refl _)
        have ze15 := Option.some.inj h
        subst ze15
        exact ev_rete 1 ho (fun n => Eq.refl _)
      · have h := itn h zc11
        suffices e : Ev (d + 7, 0, 0, 324, 44, [.val (.ref 64), .val (.int p1), .val (.int p2), .val (.int p3), .val (.int p4), .val (.ref 768), .val (.int x8)], [], (126, 120, L, [Y_4, T, H, H2, RV, RU_9, ST, NS, I0, I1, I2, BO_10, FI, RG, GU, PU_11, MA, MN, MS, OT, SC], [192, 256, 384, 320, w, 192, 576, 640, 704], Lg)) o from ev_f (c := x8 ≠ (-1)) _ _ 4  zc11 e (fun n => Eq.refl _)
        have ze16 := Option.some.inj h
        subst ze16
        exact ev_rete 3 ho (fun n => Eq.refl _)
    | succ q3 =>
      have h := itn h (Nat.succ_ne_zero q3)
      have ze17 := Option.some.inj h
      subst ze17
      subst ho
      exact ev_thr (fun v μ => (d + 7, 0, 0, 324, 13, [.val (.ref 64), .val (.int p1), .val (.int p2), .val (.int p3), .val (.int p4), .val a_unk, .val a_unk], v.toList ++ [], μ)) 5 ze4 (fun n => Eq.refl _) (fun n => rfl)
  | succ q1 =>
    have h := itn h (Nat.succ_ne_zero q1)
    have ze18 := Option.some.inj h
    subst ze18
    subst ho
    exact ev_thr (fun v μ => (d + 7, 3, 24, 324, 6, [.val (.ref 64), .val (.int p1), .val (.int p2), .val (.int p3), .val (.int p4), .val a_unk, .val a_unk], v.toList ++ [], μ)) 3 ze2 (fun n => Eq.refl _) (fun n => rfl)
set_option maxRecDepth 1000000 in
set_option maxHeartbeats 4000000 in
theorem R_f_Y_pushed_2 (d : Nat) (Y T H2 H RU RV ST NS I0 I1 I2 BO FI RG GU PU MA MN MS OT SC : Nat → Nat → Int32) (w r5 : Nat) (L : Nat) (Lg : Int64) (p1 : Int32) (p2 : Int32) (p3 : Int32) (p4 : Int32) {r : Nat × Int32 × (Nat → Nat → Int32) × (Nat → Nat → Int32) × (Nat → Nat → Int32) × (Nat → Nat → Int32) × Nat} (h : f_Y_pushed Y H RU NS BO PU 256 r5 p1 p2 p3 p4 = some r) : Ev (d + 7, 4, 32, 324, 0, [.val (.ref 64), .val (.int p1), .val (.int p2), .val (.int p3), .val (.int p4), .val a_unk, .val a_unk], [], (126, 120, L, [Y, T, H2, H, RU, RV, ST, NS, I0, I1, I2, BO, FI, RG, GU, PU, MA, MN, MS, OT, SC], [256, 192, 320, 384, w, r5, 576, 640, 704], Lg)) ((r.1, a_ov r.1 (.int r.2.1), (126, 120, L, [r.2.2.1, T, H2, H, r.2.2.2.1, RV, ST, NS, I0, I1, I2, r.2.2.2.2.1, FI, RG, GU, r.2.2.2.2.2.1, MA, MN, MS, OT, SC], [256, 192, 320, 384, w, r.2.2.2.2.2.2, 576, 640, 704], Lg)) : AOut) := by
  suffices key : ∀ o : AOut, ((r.1, a_ov r.1 (.int r.2.1), (126, 120, L, [r.2.2.1, T, H2, H, r.2.2.2.1, RV, ST, NS, I0, I1, I2, r.2.2.2.2.1, FI, RG, GU, r.2.2.2.2.2.1, MA, MN, MS, OT, SC], [256, 192, 320, 384, w, r.2.2.2.2.2.2, 576, 640, 704], Lg)) : AOut) = o → Ev (d + 7, 4, 32, 324, 0, [.val (.ref 64), .val (.int p1), .val (.int p2), .val (.int p3), .val (.int p4), .val a_unk, .val a_unk], [], (126, 120, L, [Y, T, H2, H, RU, RV, ST, NS, I0, I1, I2, BO, FI, RG, GU, PU, MA, MN, MS, OT, SC], [256, 192, 320, 384, w, r5, 576, 640, 704], Lg)) o from key _ rfl
  intro o ho
  obtain ⟨⟨q1, Y_2⟩, zh1, h⟩ := bnd h
  have zh1 : f_Y_needMeeting Y H p4 = some (q1, Y_2) := zh1
  have ze2 := R_f_Y_needMeeting_2 (d + 5) Y T H2 H RU RV ST NS I0 I1 I2 BO FI RG GU PU MA MN MS OT SC w r5 L Lg p4 zh1
  cases q1 with
  | zero =>
    have h := itp h rfl
    suffices e : Ev (d + 7, 3, 24, 324, 6, [.val (.ref 64), .val (.int p1), .val (.int p2), .val (.int p3), .val (.int p4), .val a_unk, .val a_unk], [], (126, 120, L, [Y_2, T, H2, H, RU, RV, ST, NS, I0, I1, I2, BO, FI, RG, GU, PU, MA, MN, MS, OT, SC], [256, 192, 320, 384, w, r5, 576, 640, 704], Lg)) o from ev_call (fun v μ => (d + 7, 3, 24, 324, 6, [.val (.ref 64), .val (.int p1), .val (.int p2), .val (.int p3), .val (.int p4), .val a_unk, .val a_unk], v.toList ++ [], μ)) 3 ze2 e (fun n => Eq.refl _)
    obtain ⟨⟨q3, Y_4⟩, zh3, h⟩ := bnd h
    have zh3 : f_Y_needPlace Y_2 H p1 p2 p3 = some (q3, Y_4) := zh3
    have ze4 := R_f_Y_needPlace_2 (d + 4) Y_2 T H2 H RU RV ST NS I0 I1 I2 BO FI RG GU PU MA MN MS OT SC w r5 L Lg p1 p2 p3 zh3
    cases q3 with
    | zero =>
      have h := itp h rfl
      suffices e : Ev (d + 7, 0, 0, 324, 13, [.val (.ref 64), .val (.int p1), .val (.int p2), .val (.int p3), .val (.int p4), .val a_unk, .val a_unk], [], (126, 120, L, [Y_4, T, H2, H, RU, RV, ST, NS, I0, I1, I2, BO, FI, RG, GU, PU, MA, MN, MS, OT, SC], [256, 192, 320, 384, w, r5, 576, 640, 704], Lg)) o from ev_call (fun v μ => (d + 7, 0, 0, 324, 13, [.val (.ref 64), .val (.int p1), .val (.int p2), .val (.int p3), .val (.int p4), .val a_unk, .val a_unk], v.toList ++ [], μ)) 5 ze4 e (fun n => Eq.refl _)
      obtain ⟨BO_6, zh5, h⟩ := bnd h
      have zh5 : f_Y_lookNow H NS BO = some BO_6 := zh5
      have ze6 := R_f_Y_lookNow_2 (d + 4) Y_4 T H2 H RU RV ST NS I0 I1 I2 BO FI RG GU PU MA MN MS OT SC w r5 L Lg zh5
      suffices e : Ev (d + 7, 0, 0, 324, 17, [.val (.ref 64), .val (.int p1), .val (.int p2), .val (.int p3), .val (.int p4), .val a_unk, .val a_unk], [.ref 768], (126, 120, L, [Y_4, T, H2, H, RU, RV, ST, NS, I0, I1, I2, BO_6, FI, RG, GU, PU, MA, MN, MS, OT, SC], [256, 192, 320, 384, w, 256, 576, 640, 704], Lg)) o from ev_call (fun v μ => (d + 7, 0, 0, 324, 17, [.val (.ref 64), .val (.int p1), .val (.int p2), .val (.int p3), .val (.int p4), .val a_unk, .val a_unk], v.toList ++ [], μ)) 2 ze6 e (fun n => Eq.refl _)
      suffices e : Ev (d + 7, 0, 0, 324, 27, [.val (.ref 64), .val (.int p1), .val (.int p2), .val (.int p3), .val (.int p4), .val (.ref 768), .val a_unk], [.ref 320, .ref 1024], (126, 120, L, [Y_4, T, H2, H, RU, RV, ST, NS, I0, I1, I2, BO_6, FI, RG, GU, PU, MA, MN, MS, OT, SC], [256, 192, 320, 384, w, 256, 576, 640, 704], Lg)) o from ev_b 5 e (fun n => Eq.refl _)
      obtain ⟨x7, zh7, h⟩ := bnd h
      have zh7 : f_Y_placeOf p2 p3 = some x7 := zh7
      have ze8 := R_f_Y_placeOf_0 (d + 6) Y_4 T H2 H RU RV ST NS I0 I1 I2 BO_6 FI RG GU PU MA MN MS OT SC 256 192 320 384 w 256 576 640 704 L Lg p2 p3 zh7
      suffices e : Ev (d + 7, 0, 0, 324, 33, [.val (.ref 64), .val (.int p1), .val (.int p2), .val (.int p3), .val (.int p4), .val (.ref 768), .val a_unk], [.int x7, .int p1, .ref 320, .ref 1024], (126, 120, L, [Y_4, T, H2, H, RU, RV, ST, NS, I0, I1, I2, BO_6, FI, RG, GU, PU, MA, MN, MS, OT, SC], [256, 192, 320, 384, w, 256, 576, 640, 704], Lg)) o from ev_call (fun v μ => (d + 7, 0, 0, 324, 33, [.val (.ref 64), .val (.int p1), .val (.int p2), .val (.int p3), .val (.int p4), .val (.ref 768), .val a_unk], v.toList ++ [.int p1, .ref 320, .ref 1024], μ)) 4 ze8 e (fun n => Eq.refl _)
      obtain ⟨⟨x8, RU_9, BO_10, PU_11⟩, zh9, h⟩ := bnd h
      have zh9 : f_Pusher_run H RU BO_6 PU p1 x7 = some (x8, RU_9, BO_10, PU_11) := zh9
      have ze10 := R_f_Pusher_run_2 (d + 0) Y_4 T H2 H RU RV ST NS I0 I1 I2 BO_6 FI RG GU PU MA MN MS OT SC 256 192 320 384 w 576 640 704 L Lg p1 x7 zh9
      suffices e : Ev (d + 7, 0, 0, 324, 36, [.val (.ref 64), .val (.int p1), .val (.int p2), .val (.int p3), .val (.int p4), .val (.ref 768), .val a_unk], [.int x8], (126, 120, L, [Y_4, T, H2, H, RU_9, RV, ST, NS, I0, I1, I2, BO_10, FI, RG, GU, PU_11, MA, MN, MS, OT, SC], [256, 192, 320, 384, w, 256, 576, 640, 704], Lg)) o from ev_call (fun v μ => (d + 7, 0, 0, 324, 36, [.val (.ref 64), .val (.int p1), .val (.int p2), .val (.int p3), .val (.int p4), .val (.ref 768), .val a_unk], v.toList ++ [], μ)) 1 ze10 e (fun n => Eq.refl _)
      by_cases zc11 : x8 ≠ (-1)
      · have h := itp h zc11
        suffices e : Ev (d + 7, 0, 0, 324, 48, [.val (.ref 64), .val (.int p1), .val (.int p2), .val (.int p3), .val (.int p4), .val (.ref 768), .val (.int x8)], [], (126, 120, L, [Y_4, T, H2, H, RU_9, RV, ST, NS, I0, I1, I2, BO_10, FI, RG, GU, PU_11, MA, MN, MS, OT, SC], [256, 192, 320, 384, w, 256, 576, 640, 704], Lg)) o from ev_t (c := x8 ≠ (-1)) _ _ 4  zc11 e (fun n => Eq.refl _)
        obtain ⟨x12, zh12, h⟩ := bnd h
        have zh12 : rdx (BO_10 1) 10 p4 = some x12 := zh12
        suffices e : Ev (d + 7, 0, 0, 324, 56, [.val (.ref 64), .val (.int p1), .val (.int p2), .val (.int p3), .val (.int p4), .val (.ref 768), .val (.int x8)], [.int x12], (126, 120, L, [Y_4, T, H2, H, RU_9, RV, ST, NS, I0, I1, I2, BO_10, FI, RG, GU, PU_11, MA, MN, MS, OT, SC], [256, 192, 320, 384, w, 256, 576, 640, 704], Lg)) o from ev_opt (fun x12 => (d + 7, 0, 0, 324, 56, [.val (.ref 64), .val (.int p1), .val (.int p2), .val (.int p3), .val (.int p4), .val (.ref 768), .val (.int x8)], [.int x12], (126, 120, L, [Y_4, T, H2, H, RU_9, RV, ST, NS, I0, I1, I2, BO_10, FI, RG, GU, PU_11, MA, MN, MS, OT, SC], [256, 192, 320, 384, w, 256, 576, 640, 704], Lg))) 4 zh12 e (fun n => Eq.refl _)
        obtain ⟨x13, zh13, h⟩ := bnd h
        have zh13 : f_Y_tenfold x12 = some x13 := zh13
        have ze14 := R_f_Y_tenfold_0 (d + 5) Y_4 T H2 H RU_9 RV ST NS I0 I1 I2 BO_10 FI RG GU PU_11 MA MN MS OT SC 256 192 320 384 w 256 576 640 704 L Lg x12 zh13
        suffices e : Ev (d + 7, 0, 0, 324, 59, [.val (.ref 64), .val (.int p1), .val (.int p2), .val (.int p3), .val (.int p4), .val (.ref 768), .val (.int x8)], [.int x13], (126, 120, L, [Y_4, T, H2, H, RU_9, RV, ST, NS, I0, I1, I2, BO_10, FI, RG, GU, PU_11, MA, MN, MS, OT, SC], [256, 192, 320, 384, w, 256, 576, 640, 704], Lg)) o from ev_call (fun v μ => (d + 7, 0, 0, 324, 59, [.val (.ref 64), .val (.int p1), .val (.int p2), .val (.int p3), .val (.int p4), .val (.ref 768), .val (.int x8)], v.toList ++ [], μ)) 1 ze14 e (fun n => Eq.refl _)
        have ze15 := Option.some.inj h
        subst ze15
        exact ev_rete 1 ho (fun n => Eq.refl _)
      · have h := itn h zc11
        suffices e : Ev (d + 7, 0, 0, 324, 44, [.val (.ref 64), .val (.int p1), .val (.int p2), .val (.int p3), .val (.int p4), .val (.ref 768), .val (.int x8)], [], (126, 120, L, [Y_4, T, H2, H, RU_9, RV, ST, NS, I0, I1, I2, BO_10, FI, RG, GU, PU_11, MA, MN, MS, OT, SC], [256, 192, 320, 384, w, 256, 576, 640, 704], Lg)) o from ev_f (c := x8 ≠ (-1)) _ _ 4  zc11 e (fun n => Eq.refl _)
        have ze16 := Option.some.inj h
        subst ze16
        exact ev_rete 3 ho (fun n => Eq.refl _)
    | succ q3 =>
      have h := itn h (Nat.succ_ne_zero q3)
      have ze17 := Option.some.inj h
      subst ze17
      subst ho
      exact ev_thr (fun v μ => (d + 7, 0, 0, 324, 13, [.val (.ref 64), .val (.int p1), .val (.int p2), .val (.int p3), .val (.int p4), .val a_unk, .val a_unk], v.toList ++ [], μ)) 5 ze4 (fun n => Eq.refl _) (fun n => rfl)
  | succ q1 =>
    have h := itn h (Nat.succ_ne_zero q1)
    have ze18 := Option.some.inj h
    subst ze18
    subst ho
    exact ev_thr (fun v μ => (d + 7, 3, 24, 324, 6, [.val (.ref 64), .val (.int p1), .val (.int p2), .val (.int p3), .val (.int p4), .val a_unk, .val a_unk], v.toList ++ [], μ)) 3 ze2 (fun n => Eq.refl _) (fun n => rfl)
set_option maxRecDepth 1000000 in
set_option maxHeartbeats 4000000 in
theorem R_f_Y_pushed_3 (d : Nat) (Y T H2 H RV RU ST NS I0 I1 I2 BO FI RG GU PU MA MN MS OT SC : Nat → Nat → Int32) (w r5 : Nat) (L : Nat) (Lg : Int64) (p1 : Int32) (p2 : Int32) (p3 : Int32) (p4 : Int32) {r : Nat × Int32 × (Nat → Nat → Int32) × (Nat → Nat → Int32) × (Nat → Nat → Int32) × (Nat → Nat → Int32) × Nat} (h : f_Y_pushed Y H RU NS BO PU 256 r5 p1 p2 p3 p4 = some r) : Ev (d + 7, 4, 32, 324, 0, [.val (.ref 64), .val (.int p1), .val (.int p2), .val (.int p3), .val (.int p4), .val a_unk, .val a_unk], [], (126, 120, L, [Y, T, H2, H, RV, RU, ST, NS, I0, I1, I2, BO, FI, RG, GU, PU, MA, MN, MS, OT, SC], [256, 192, 384, 320, w, r5, 576, 640, 704], Lg)) ((r.1, a_ov r.1 (.int r.2.1), (126, 120, L, [r.2.2.1, T, H2, H, RV, r.2.2.2.1, ST, NS, I0, I1, I2, r.2.2.2.2.1, FI, RG, GU, r.2.2.2.2.2.1, MA, MN, MS, OT, SC], [256, 192, 384, 320, w, r.2.2.2.2.2.2, 576, 640, 704], Lg)) : AOut) := by
  suffices key : ∀ o : AOut, ((r.1, a_ov r.1 (.int r.2.1), (126, 120, L, [r.2.2.1, T, H2, H, RV, r.2.2.2.1, ST, NS, I0, I1, I2, r.2.2.2.2.1, FI, RG, GU, r.2.2.2.2.2.1, MA, MN, MS, OT, SC], [256, 192, 384, 320, w, r.2.2.2.2.2.2, 576, 640, 704], Lg)) : AOut) = o → Ev (d + 7, 4, 32, 324, 0, [.val (.ref 64), .val (.int p1), .val (.int p2), .val (.int p3), .val (.int p4), .val a_unk, .val a_unk], [], (126, 120, L, [Y, T, H2, H, RV, RU, ST, NS, I0, I1, I2, BO, FI, RG, GU, PU, MA, MN, MS, OT, SC], [256, 192, 384, 320, w, r5, 576, 640, 704], Lg)) o from key _ rfl
  intro o ho
  obtain ⟨⟨q1, Y_2⟩, zh1, h⟩ := bnd h
  have zh1 : f_Y_needMeeting Y H p4 = some (q1, Y_2) := zh1
  have ze2 := R_f_Y_needMeeting_3 (d + 5) Y T H2 H RV RU ST NS I0 I1 I2 BO FI RG GU PU MA MN MS OT SC w r5 L Lg p4 zh1
  cases q1 with
  | zero =>
    have h := itp h rfl
    suffices e : Ev (d + 7, 3, 24, 324, 6, [.val (.ref 64), .val (.int p1), .val (.int p2), .val (.int p3), .val (.int p4), .val a_unk, .val a_unk], [], (126, 120, L, [Y_2, T, H2, H, RV, RU, ST, NS, I0, I1, I2, BO, FI, RG, GU, PU, MA, MN, MS, OT, SC], [256, 192, 384, 320, w, r5, 576, 640, 704], Lg)) o from ev_call (fun v μ => (d + 7, 3, 24, 324, 6, [.val (.ref 64), .val (.int p1), .val (.int p2), .val (.int p3), .val (.int p4), .val a_unk, .val a_unk], v.toList ++ [], μ)) 3 ze2 e (fun n => Eq.refl _)
    obtain ⟨⟨q3, Y_4⟩, zh3, h⟩ := bnd h
    have zh3 : f_Y_needPlace Y_2 H p1 p2 p3 = some (q3, Y_4) := zh3
    have ze4 := R_f_Y_needPlace_3 (d + 4) Y_2 T H2 H RV RU ST NS I0 I1 I2 BO FI RG GU PU MA MN MS OT SC w r5 L Lg p1 p2 p3 zh3
    cases q3 with
    | zero =>
      have h := itp h rfl
      suffices e : Ev (d + 7, 0, 0, 324, 13, [.val (.ref 64), .val (.int p1), .val (.int p2), .val (.int p3), .val (.int p4), .val a_unk, .val a_unk], [], (126, 120, L, [Y_4, T, H2, H, RV, RU, ST, NS, I0, I1, I2, BO, FI, RG, GU, PU, MA, MN, MS, OT, SC], [256, 192, 384, 320, w, r5, 576, 640, 704], Lg)) o from ev_call (fun v μ => (d + 7, 0, 0, 324, 13, [.val (.ref 64), .val (.int p1), .val (.int p2), .val (.int p3), .val (.int p4), .val a_unk, .val a_unk], v.toList ++ [], μ)) 5 ze4 e (fun n => Eq.refl _)
      obtain ⟨BO_6, zh5, h⟩ := bnd h
      have zh5 : f_Y_lookNow H NS BO = some BO_6 := zh5
      have ze6 := R_f_Y_lookNow_3 (d + 4) Y_4 T H2 H RV RU ST NS I0 I1 I2 BO FI RG GU PU MA MN MS OT SC w r5 L Lg zh5
      suffices e : Ev (d + 7, 0, 0, 324, 17, [.val (.ref 64), .val (.int p1), .val (.int p2), .val (.int p3), .val (.int p4), .val a_unk, .val a_unk], [.ref 768], (126, 120, L, [Y_4, T, H2, H, RV, RU, ST, NS, I0, I1, I2, BO_6, FI, RG, GU, PU, MA, MN, MS, OT, SC], [256, 192, 384, 320, w, 256, 576, 640, 704], Lg)) o from ev_call (fun v μ => (d + 7, 0, 0, 324, 17, [.val (.ref 64), .val (.int p1), .val (.int p2), .val (.int p3), .val (.int p4), .val a_unk, .val a_unk], v.toList ++ [], μ)) 2 ze6 e (fun n => Eq.refl _)
      suffices e : Ev (d + 7, 0, 0, 324, 27, [.val (.ref 64), .val (.int p1), .val (.int p2), .val (.int p3), .val (.int p4), .val (.ref 768), .val a_unk], [.ref 384, .ref 1024], (126, 120, L, [Y_4, T, H2, H, RV, RU, ST, NS, I0, I1, I2, BO_6, FI, RG, GU, PU, MA, MN, MS, OT, SC], [256, 192, 384, 320, w, 256, 576, 640, 704], Lg)) o from ev_b 5 e (fun n => Eq.refl _)
      obtain ⟨x7, zh7, h⟩ := bnd h
      have zh7 : f_Y_placeOf p2 p3 = some x7 := zh7
      have ze8 := R_f_Y_placeOf_0 (d + 6) Y_4 T H2 H RV RU ST NS I0 I1 I2 BO_6 FI RG GU PU MA MN MS OT SC 256 192 384 320 w 256 576 640 704 L Lg p2 p3 zh7
      suffices e : Ev (d + 7, 0, 0, 324, 33, [.val (.ref 64), .val (.int p1), .val (.int p2), .val (.int p3), .val (.int p4), .val (.ref 768), .val a_unk], [.int x7, .int p1, .ref 384, .ref 1024], (126, 120, L, [Y_4, T, H2, H, RV, RU, ST, NS, I0, I1, I2, BO_6, FI, RG, GU, PU, MA, MN, MS, OT, SC], [256, 192, 384, 320, w, 256, 576, 640, 704], Lg)) o from ev_call (fun v μ => (d + 7, 0, 0, 324, 33, [.val (.ref 64), .val (.int p1), .val (.int p2), .val (.int p3), .val (.int p4), .val (.ref 768), .val a_unk], v.toList ++ [.int p1, .ref 384, .ref 1024], μ)) 4 ze8 e (fun n => Eq.refl _)
      obtain ⟨⟨x8, RU_9, BO_10, PU_11⟩, zh9, h⟩ := bnd h
      have zh9 : f_Pusher_run H RU BO_6 PU p1 x7 = some (x8, RU_9, BO_10, PU_11) := zh9
      have ze10 := R_f_Pusher_run_3 (d + 0) Y_4 T H2 H RV RU ST NS I0 I1 I2 BO_6 FI RG GU PU MA MN MS OT SC 256 192 384 320 w 576 640 704 L Lg p1 x7 zh9
      suffices e : Ev (d + 7, 0, 0, 324, 36, [.val (.ref 64), .val (.int p1), .val (.int p2), .val (.int p3), .val (.int p4), .val (.ref 768), .val a_unk], [.int x8], (126, 120, L, [Y_4, T, H2, H, RV, RU_9, ST, NS, I0, I1, I2, BO_10, FI, RG, GU, PU_11, MA, MN, MS, OT, SC], [256, 192, 384, 320, w, 256, 576, 640, 704], Lg)) o from ev_call (fun v μ => (d + 7, 0, 0, 324, 36, [.val (.ref 64), .val (.int p1), .val (.int p2), .val (.int p3), .val (.int p4), .val (.ref 768), .val a_unk], v.toList ++ [], μ)) 1 ze10 e (fun n => Eq.refl _)
      by_cases zc11 : x8 ≠ (-1)
      · have h := itp h zc11
        suffices e : Ev (d + 7, 0, 0, 324, 48, [.val (.ref 64), .val (.int p1), .val (.int p2), .val (.int p3), .val (.int p4), .val (.ref 768), .val (.int x8)], [], (126, 120, L, [Y_4, T, H2, H, RV, RU_9, ST, NS, I0, I1, I2, BO_10, FI, RG, GU, PU_11, MA, MN, MS, OT, SC], [256, 192, 384, 320, w, 256, 576, 640, 704], Lg)) o from ev_t (c := x8 ≠ (-1)) _ _ 4  zc11 e (fun n => Eq.refl _)
        obtain ⟨x12, zh12, h⟩ := bnd h
        have zh12 : rdx (BO_10 1) 10 p4 = some x12 := zh12
        suffices e : Ev (d + 7, 0, 0, 324, 56, [.val (.ref 64), .val (.int p1), .val (.int p2), .val (.int p3), .val (.int p4), .val (.ref 768), .val (.int x8)], [.int x12], (126, 120, L, [Y_4, T, H2, H, RV, RU_9, ST, NS, I0, I1, I2, BO_10, FI, RG, GU, PU_11, MA, MN, MS, OT, SC], [256, 192, 384, 320, w, 256, 576, 640, 704], Lg)) o from ev_opt (fun x12 => (d + 7, 0, 0, 324, 56, [.val (.ref 64), .val (.int p1), .val (.int p2), .val (.int p3), .val (.int p4), .val (.ref 768), .val (.int x8)], [.int x12], (126, 120, L, [Y_4, T, H2, H, RV, RU_9, ST, NS, I0, I1, I2, BO_10, FI, RG, GU, PU_11, MA, MN, MS, OT, SC], [256, 192, 384, 320, w, 256, 576, 640, 704], Lg))) 4 zh12 e (fun n => Eq.refl _)
        obtain ⟨x13, zh13, h⟩ := bnd h
        have zh13 : f_Y_tenfold x12 = some x13 := zh13
        have ze14 := R_f_Y_tenfold_0 (d + 5) Y_4 T H2 H RV RU_9 ST NS I0 I1 I2 BO_10 FI RG GU PU_11 MA MN MS OT SC 256 192 384 320 w 256 576 640 704 L Lg x12 zh13
        suffices e : Ev (d + 7, 0, 0, 324, 59, [.val (.ref 64), .val (.int p1), .val (.int p2), .val (.int p3), .val (.int p4), .val (.ref 768), .val (.int x8)], [.int x13], (126, 120, L, [Y_4, T, H2, H, RV, RU_9, ST, NS, I0, I1, I2, BO_10, FI, RG, GU, PU_11, MA, MN, MS, OT, SC], [256, 192, 384, 320, w, 256, 576, 640, 704], Lg)) o from ev_call (fun v μ => (d + 7, 0, 0, 324, 59, [.val (.ref 64), .val (.int p1), .val (.int p2), .val (.int p3), .val (.int p4), .val (.ref 768), .val (.int x8)], v.toList ++ [], μ)) 1 ze14 e (fun n => Eq.refl _)
        have ze15 := Option.some.inj h
        subst ze15
        exact ev_rete 1 ho (fun n => Eq.refl _)
      · have h := itn h zc11
        suffices e : Ev (d + 7, 0, 0, 324, 44, [.val (.ref 64), .val (.int p1), .val (.int p2), .val (.int p3), .val (.int p4), .val (.ref 768), .val (.int x8)], [], (126, 120, L, [Y_4, T, H2, H, RV, RU_9, ST, NS, I0, I1, I2, BO_10, FI, RG, GU, PU_11, MA, MN, MS, OT, SC], [256, 192, 384, 320, w, 256, 576, 640, 704], Lg)) o from ev_f (c := x8 ≠ (-1)) _ _ 4  zc11 e (fun n => Eq.refl _)
        have ze16 := Option.some.inj h
        subst ze16
        exact ev_rete 3 ho (fun n => Eq.refl _)
    | succ q3 =>
      have h := itn h (Nat.succ_ne_zero q3)
      have ze17 := Option.some.inj h
      subst ze17
      subst ho
      exact ev_thr (fun v μ => (d + 7, 0, 0, 324, 13, [.val (.ref 64), .val (.int p1), .val (.int p2), .val (.int p3), .val (.int p4), .val a_unk, .val a_unk], v.toList ++ [], μ)) 5 ze4 (fun n => Eq.refl _) (fun n => rfl)
  | succ q1 =>
    have h := itn h (Nat.succ_ne_zero q1)
    have ze18 := Option.some.inj h
    subst ze18
    subst ho
    exact ev_thr (fun v μ => (d + 7, 3, 24, 324, 6, [.val (.ref 64), .val (.int p1), .val (.int p2), .val (.int p3), .val (.int p4), .val a_unk, .val a_unk], v.toList ++ [], μ)) 3 ze2 (fun n => Eq.refl _) (fun n => rfl)
set_option maxRecDepth 1000000 in
set_option maxHeartbeats 4000000 in
theorem R_f_Y_push_0 (d : Nat) (Y T H H2 RU RV ST NS I0 I1 I2 BO FI RG GU PU MA MN MS OT SC : Nat → Nat → Int32) (w r5 : Nat) (L : Nat) (Lg : Int64) (p1 : Int32) (p2 : Int32) (p3 : Int32) {r : Nat × Int32 × (Nat → Nat → Int32) × (Nat → Nat → Int32) × (Nat → Nat → Int32) × (Nat → Nat → Int32) × (Nat → Nat → Int32) × Nat} (h : f_Y_push Y H RU NS BO PU 192 r5 p1 p2 p3 = some r) : Ev (d + 7, 3, 24, 325, 0, [.val (.ref 64), .val (.int p1), .val (.int p2), .val (.int p3), .val a_unk, .val a_unk], [], (126, 120, L, [Y, T, H, H2, RU, RV, ST, NS, I0, I1, I2, BO, FI, RG, GU, PU, MA, MN, MS, OT, SC], [192, 256, 320, 384, w, r5, 576, 640, 704], Lg)) ((r.1, a_ov r.1 (.int r.2.1), (126, 120, L, [r.2.2.1, T, H, H2, r.2.2.2.1, RV, ST, r.2.2.2.2.1, I0, I1, I2, r.2.2.2.2.2.1, FI, RG, GU, r.2.2.2.2.2.2.1, MA, MN, MS, OT, SC], [192, 256, 320, 384, w, r.2.2.2.2.2.2.2, 576, 640, 704], Lg)) : AOut) := by
  suffices key : ∀ o : AOut, ((r.1, a_ov r.1 (.int r.2.1), (126, 120, L, [r.2.2.1, T, H, H2, r.2.2.2.1, RV, ST, r.2.2.2.2.1, I0, I1, I2, r.2.2.2.2.2.1, FI, RG, GU, r.2.2.2.2.2.2.1, MA, MN, MS, OT, SC], [192, 256, 320, 384, w, r.2.2.2.2.2.2.2, 576, 640, 704], Lg)) : AOut) = o → Ev (d + 7, 3, 24, 325, 0, [.val (.ref 64), .val (.int p1), .val (.int p2), .val (.int p3), .val a_unk, .val a_unk], [], (126, 120, L, [Y, T, H, H2, RU, RV, ST, NS, I0, I1, I2, BO, FI, RG, GU, PU, MA, MN, MS, OT, SC], [192, 256, 320, 384, w, r5, 576, 640, 704], Lg)) o from key _ rfl
  intro o ho
  obtain ⟨⟨q1, Y_2⟩, zh1, h⟩ := bnd h
  have zh1 : f_Y_needPlace Y H p1 p2 p3 = some (q1, Y_2) := zh1
  have ze2 := R_f_Y_needPlace_0 (d + 4) Y T H H2 RU RV ST NS I0 I1 I2 BO FI RG GU PU MA MN MS OT SC w r5 L Lg p1 p2 p3 zh1
  cases q1 with
  | zero =>
    have h := itp h rfl
    suffices e : Ev (d + 7, 0, 0, 325, 7, [.val (.ref 64), .val (.int p1), .val (.int p2), .val (.int p3), .val a_unk, .val a_unk], [], (126, 120, L, [Y_2, T, H, H2, RU, RV, ST, NS, I0, I1, I2, BO, FI, RG, GU, PU, MA, MN, MS, OT, SC], [192, 256, 320, 384, w, r5, 576, 640, 704], Lg)) o from ev_call (fun v μ => (d + 7, 0, 0, 325, 7, [.val (.ref 64), .val (.int p1), .val (.int p2), .val (.int p3), .val a_unk, .val a_unk], v.toList ++ [], μ)) 5 ze2 e (fun n => Eq.refl _)
    obtain ⟨x3, zh3, h⟩ := bnd h
    have zh3 : f_State_isFull NS = some x3 := zh3
    have ze4 := R_f_State_isFull_0 (d + 6) Y_2 T H H2 RU RV ST NS I0 I1 I2 BO FI RG GU PU MA MN MS OT SC 192 256 320 384 w r5 576 640 704 L Lg zh3
    suffices e : Ev (d + 7, 0, 0, 325, 14, [.val (.ref 64), .val (.int p1), .val (.int p2), .val (.int p3), .val a_unk, .val a_unk], [.int x3], (126, 120, L, [Y_2, T, H, H2, RU, RV, ST, NS, I0, I1, I2, BO, FI, RG, GU, PU, MA, MN, MS, OT, SC], [192, 256, 320, 384, w, r5, 576, 640, 704], Lg)) o from ev_call (fun v μ => (d + 7, 0, 0, 325, 14, [.val (.ref 64), .val (.int p1), .val (.int p2), .val (.int p3), .val a_unk, .val a_unk], v.toList ++ [], μ)) 3 ze4 e (fun n => Eq.refl _)
    by_cases zc5 : x3 = 0
    · have h := itp h zc5
      suffices e : Ev (d + 7, 0, 0, 325, 20, [.val (.ref 64), .val (.int p1), .val (.int p2), .val (.int p3), .val a_unk, .val a_unk], [], (126, 120, L, [Y_2, T, H, H2, RU, RV, ST, NS, I0, I1, I2, BO, FI, RG, GU, PU, MA, MN, MS, OT, SC], [192, 256, 320, 384, w, r5, 576, 640, 704], Lg)) o from ev_t (c := x3 = 0) _ _ 1  zc5 e (fun n => Eq.refl _)
      obtain ⟨BO_5, zh6, h⟩ := bnd h
      have zh6 : f_Y_lookNow H NS BO = some BO_5 := zh6
      have ze7 := R_f_Y_lookNow_0 (d + 4) Y_2 T H H2 RU RV ST NS I0 I1 I2 BO FI RG GU PU MA MN MS OT SC w r5 L Lg zh6
      suffices e : Ev (d + 7, 0, 0, 325, 24, [.val (.ref 64), .val (.int p1), .val (.int p2), .val (.int p3), .val a_unk, .val a_unk], [.ref 768], (126, 120, L, [Y_2, T, H, H2, RU, RV, ST, NS, I0, I1, I2, BO_5, FI, RG, GU, PU, MA, MN, MS, OT, SC], [192, 256, 320, 384, w, 192, 576, 640, 704], Lg)) o from ev_call (fun v μ => (d + 7, 0, 0, 325, 24, [.val (.ref 64), .val (.int p1), .val (.int p2), .val (.int p3), .val a_unk, .val a_unk], v.toList ++ [], μ)) 2 ze7 e (fun n => Eq.refl _)
      suffices e : Ev (d + 7, 0, 0, 325, 34, [.val (.ref 64), .val (.int p1), .val (.int p2), .val (.int p3), .val (.ref 768), .val a_unk], [.ref 320, .ref 1024], (126, 120, L, [Y_2, T, H, H2, RU, RV, ST, NS, I0, I1, I2, BO_5, FI, RG, GU, PU, MA, MN, MS, OT, SC], [192, 256, 320, 384, w, 192, 576, 640, 704], Lg)) o from ev_b 5 e (fun n => Eq.refl _)
      obtain ⟨x6, zh8, h⟩ := bnd h
      have zh8 : f_Y_placeOf p2 p3 = some x6 := zh8
      have ze9 := R_f_Y_placeOf_0 (d + 6) Y_2 T H H2 RU RV ST NS I0 I1 I2 BO_5 FI RG GU PU MA MN MS OT SC 192 256 320 384 w 192 576 640 704 L Lg p2 p3 zh8
      suffices e : Ev (d + 7, 0, 0, 325, 40, [.val (.ref 64), .val (.int p1), .val (.int p2), .val (.int p3), .val (.ref 768), .val a_unk], [.int x6, .int p1, .ref 320, .ref 1024], (126, 120, L, [Y_2, T, H, H2, RU, RV, ST, NS, I0, I1, I2, BO_5, FI, RG, GU, PU, MA, MN, MS, OT, SC], [192, 256, 320, 384, w, 192, 576, 640, 704], Lg)) o from ev_call (fun v μ => (d + 7, 0, 0, 325, 40, [.val (.ref 64), .val (.int p1), .val (.int p2), .val (.int p3), .val (.ref 768), .val a_unk], v.toList ++ [.int p1, .ref 320, .ref 1024], μ)) 4 ze9 e (fun n => Eq.refl _)
      obtain ⟨⟨x7, RU_8, BO_9, PU_10⟩, zh10, h⟩ := bnd h
      have zh10 : f_Pusher_run H RU BO_5 PU p1 x6 = some (x7, RU_8, BO_9, PU_10) := zh10
      have ze11 := R_f_Pusher_run_0 (d + 0) Y_2 T H H2 RU RV ST NS I0 I1 I2 BO_5 FI RG GU PU MA MN MS OT SC 192 256 320 384 w 576 640 704 L Lg p1 x6 zh10
      suffices e : Ev (d + 7, 0, 0, 325, 43, [.val (.ref 64), .val (.int p1), .val (.int p2), .val (.int p3), .val (.ref 768), .val a_unk], [.int x7], (126, 120, L, [Y_2, T, H, H2, RU_8, RV, ST, NS, I0, I1, I2, BO_9, FI, RG, GU, PU_10, MA, MN, MS, OT, SC], [192, 256, 320, 384, w, 192, 576, 640, 704], Lg)) o from ev_call (fun v μ => (d + 7, 0, 0, 325, 43, [.val (.ref 64), .val (.int p1), .val (.int p2), .val (.int p3), .val (.ref 768), .val a_unk], v.toList ++ [], μ)) 1 ze11 e (fun n => Eq.refl _)
      by_cases zc12 : x7 = (-1)
      · have h := itp h zc12
        suffices e : Ev (d + 7, 0, 0, 325, 72, [.val (.ref 64), .val (.int p1), .val (.int p2), .val (.int p3), .val (.ref 768), .val (.int x7)], [], (126, 120, L, [Y_2, T, H, H2, RU_8, RV, ST, NS, I0, I1, I2, BO_9, FI, RG, GU, PU_10, MA, MN, MS, OT, SC], [192, 256, 320, 384, w, 192, 576, 640, 704], Lg)) o from ev_t (c := x7 = (-1)) _ _ 4  zc12 e (fun n => Eq.refl _)
        have ze13 := Option.some.inj h
        subst ze13
        exact ev_rete 2 ho (fun n => Eq.refl _)
      · have h := itn h zc12
        suffices e : Ev (d + 7, 0, 0, 325, 51, [.val (.ref 64), .val (.int p1), .val (.int p2), .val (.int p3), .val (.ref 768), .val (.int x7)], [], (126, 120, L, [Y_2, T, H, H2, RU_8, RV, ST, NS, I0, I1, I2, BO_9, FI, RG, GU, PU_10, MA, MN, MS, OT, SC], [192, 256, 320, 384, w, 192, 576, 640, 704], Lg)) o from ev_f (c := x7 = (-1)) _ _ 4  zc12 e (fun n => Eq.refl _)
        obtain ⟨BO_11, zh14, h⟩ := bnd h
        have zh14 : f_Board_countMoved H BO_9 (NS 1) = some BO_11 := zh14
        have ze15 := R_f_Board_countMoved_0 (d + 6) Y_2 T H H2 RU_8 RV ST NS I0 I1 I2 BO_9 FI RG GU PU_10 MA MN MS OT SC 192 256 320 384 w 576 640 704 L Lg zh14
        suffices e : Ev (d + 7, 0, 0, 325, 63, [.val (.ref 64), .val (.int p1), .val (.int p2), .val (.int p3), .val (.ref 768), .val (.int x7)], [], (126, 120, L, [Y_2, T, H, H2, RU_8, RV, ST, NS, I0, I1, I2, BO_11, FI, RG, GU, PU_10, MA, MN, MS, OT, SC], [192, 256, 320, 384, w, 192, 576, 640, 704], Lg)) o from ev_call (fun v μ => (d + 7, 0, 0, 325, 63, [.val (.ref 64), .val (.int p1), .val (.int p2), .val (.int p3), .val (.ref 768), .val (.int x7)], v.toList ++ [], μ)) 5 ze15 e (fun n => Eq.refl _)
        obtain ⟨NS_12, zh16, h⟩ := bnd h
        have zh16 : f_State_act NS BO_11 = some NS_12 := zh16
        have ze17 := R_f_State_act_0 (d + 5) Y_2 T H H2 RU_8 RV ST NS I0 I1 I2 BO_11 FI RG GU PU_10 MA MN MS OT SC 192 256 320 384 w 192 576 640 704 L Lg zh16
        suffices e : Ev (d + 7, 0, 0, 325, 72, [.val (.ref 64), .val (.int p1), .val (.int p2), .val (.int p3), .val (.ref 768), .val (.int x7)], [], (126, 120, L, [Y_2, T, H, H2, RU_8, RV, ST, NS_12, I0, I1, I2, BO_11, FI, RG, GU, PU_10, MA, MN, MS, OT, SC], [192, 256, 320, 384, w, 192, 576, 640, 704], Lg)) o from ev_call (fun v μ => (d + 7, 0, 0, 325, 72, [.val (.ref 64), .val (.int p1), .val (.int p2), .val (.int p3), .val (.ref 768), .val (.int x7)], v.toList ++ [], μ)) 4 ze17 e (fun n => Eq.refl _)
        have ze18 := Option.some.inj h
        subst ze18
        exact ev_rete 2 ho (fun n => Eq.refl _)
    · have h := itn h zc5
      suffices e : Ev (d + 7, 0, 0, 325, 17, [.val (.ref 64), .val (.int p1), .val (.int p2), .val (.int p3), .val a_unk, .val a_unk], [], (126, 120, L, [Y_2, T, H, H2, RU, RV, ST, NS, I0, I1, I2, BO, FI, RG, GU, PU, MA, MN, MS, OT, SC], [192, 256, 320, 384, w, r5, 576, 640, 704], Lg)) o from ev_f (c := x3 = 0) _ _ 1  zc5 e (fun n => Eq.refl _)
      have ze19 := Option.some.inj h
      subst ze19
      exact ev_rete 2 ho (fun n => Eq.refl _)
  | succ q1 =>
    have h := itn h (Nat.succ_ne_zero q1)
    have ze20 := Option.some.inj h
    subst ze20
    subst ho
    exact ev_thr (fun v μ => (d + 7, 0, 0, 325, 7, [.val (.ref 64), .val (.int p1), .val (.int p2), .val (.int p3), .val a_unk, .val a_unk], v.toList ++ [], μ)) 5 ze2 (fun n => Eq.refl _) (fun n => rfl)
set_option maxRecDepth 1000000 in
set_option maxHeartbeats 4000000 in
theorem R_f_Y_push_1 (d : Nat) (Y T H H2 RV RU ST NS I0 I1 I2 BO FI RG GU PU MA MN MS OT SC : Nat → Nat → Int32) (w r5 : Nat) (L : Nat) (Lg : Int64) (p1 : Int32) (p2 : Int32) (p3 : Int32) {r : Nat × Int32 × (Nat → Nat → Int32) × (Nat → Nat → Int32) × (Nat → Nat → Int32) × (Nat → Nat → Int32) × (Nat → Nat → Int32) × Nat} (h : f_Y_push Y H RU NS BO PU 192 r5 p1 p2 p3 = some r) : Ev (d + 7, 3, 24, 325, 0, [.val (.ref 64), .val (.int p1), .val (.int p2), .val (.int p3), .val a_unk, .val a_unk], [], (126, 120, L, [Y, T, H, H2, RV, RU, ST, NS, I0, I1, I2, BO, FI, RG, GU, PU, MA, MN, MS, OT, SC], [192, 256, 384, 320, w, r5, 576, 640, 704], Lg)) ((r.1, a_ov r.1 (.int r.2.1), (126, 120, L, [r.2.2.1, T, H, H2, RV, r.2.2.2.1, ST, r.2.2.2.2.1, I0, I1, I2, r.2.2.2.2.2.1, FI, RG, GU, r.2.2.2.2.2.2.1, MA, MN, MS, OT, SC], [192, 256, 384, 320, w, r.2.2.2.2.2.2.2, 576, 640, 704], Lg)) : AOut) := by
  suffices key : ∀ o : AOut, ((r.1, a_ov r.1 (.int r.2.1), (126, 120, L, [r.2.2.1, T, H, H2, RV, r.2.2.2.1, ST, r.2.2.2.2.1, I0, I1, I2, r.2.2.2.2.2.1, FI, RG, GU, r.2.2.2.2.2.2.1, MA, MN, MS, OT, SC], [192, 256, 384, 320, w, r.2.2.2.2.2.2.2, 576, 640, 704], Lg)) : AOut) = o → Ev (d + 7, 3, 24, 325, 0, [.val (.ref 64), .val (.int p1), .val (.int p2), .val (.int p3), .val a_unk, .val a_unk], [], (126, 120, L, [Y, T, H, H2, RV, RU, ST, NS, I0, I1, I2, BO, FI, RG, GU, PU, MA, MN, MS, OT, SC], [192, 256, 384, 320, w, r5, 576, 640, 704], Lg)) o from key _ rfl
  intro o ho
  obtain ⟨⟨q1, Y_2⟩, zh1, h⟩ := bnd h
  have zh1 : f_Y_needPlace Y H p1 p2 p3 = some (q1, Y_2) := zh1
  have ze2 := R_f_Y_needPlace_1 (d + 4) Y T H H2 RV RU ST NS I0 I1 I2 BO FI RG GU PU MA MN MS OT SC w r5 L Lg p1 p2 p3 zh1
  cases q1 with
  | zero =>
    have h := itp h rfl
    suffices e : Ev (d + 7, 0, 0, 325, 7, [.val (.ref 64), .val (.int p1), .val (.int p2), .val (.int p3), .val a_unk, .val a_unk], [], (126, 120, L, [Y_2, T, H, H2, RV, RU, ST, NS, I0, I1, I2, BO, FI, RG, GU, PU, MA, MN, MS, OT, SC], [192, 256, 384, 320, w, r5, 576, 640, 704], Lg)) o from ev_call (fun v μ => (d + 7, 0, 0, 325, 7, [.val (.ref 64), .val (.int p1), .val (.int p2), .val (.int p3), .val a_unk, .val a_unk], v.toList ++ [], μ)) 5 ze2 e (fun n => Eq.refl _)
    obtain ⟨x3, zh3, h⟩ := bnd h
    have zh3 : f_State_isFull NS = some x3 := zh3
    have ze4 := R_f_State_isFull_0 (d + 6) Y_2 T H H2 RV RU ST NS I0 I1 I2 BO FI RG GU PU MA MN MS OT SC 192 256 384 320 w r5 576 640 704 L Lg zh3
    suffices e : Ev (d + 7, 0, 0, 325, 14, [.val (.ref 64), .val (.int p1), .val (.int p2), .val (.int p3), .val a_unk, .val a_unk], [.int x3], (126, 120, L, [Y_2, T, H, H2, RV, RU, ST, NS, I0, I1, I2, BO, FI, RG, GU, PU, MA, MN, MS, OT, SC], [192, 256, 384, 320, w, r5, 576, 640, 704], Lg)) o from ev_call (fun v μ => (d + 7, 0, 0, 325, 14, [.val (.ref 64), .val (.int p1), .val (.int p2), .val (.int p3), .val a_unk, .val a_unk], v.toList ++ [], μ)) 3 ze4 e (fun n => Eq.refl _)
    by_cases zc5 : x3 = 0
    · have h := itp h zc5
      suffices e : Ev (d + 7, 0, 0, 325, 20, [.val (.ref 64), .val (.int p1), .val (.int p2), .val (.int p3), .val a_unk, .val a_unk], [], (126, 120, L, [Y_2, T, H, H2, RV, RU, ST, NS, I0, I1, I2, BO, FI, RG, GU, PU, MA, MN, MS, OT, SC], [192, 256, 384, 320, w, r5, 576, 640, 704], Lg)) o from ev_t (c := x3 = 0) _ _ 1  zc5 e (fun n => Eq.refl _)
      obtain ⟨BO_5, zh6, h⟩ := bnd h
      have zh6 : f_Y_lookNow H NS BO = some BO_5 := zh6
      have ze7 := R_f_Y_lookNow_1 (d + 4) Y_2 T H H2 RV RU ST NS I0 I1 I2 BO FI RG GU PU MA MN MS OT SC w r5 L Lg zh6
      suffices e : Ev (d + 7, 0, 0, 325, 24, [.val (.ref 64), .val (.int p1), .val (.int p2), .val (.int p3), .val a_unk, .val a_unk], [.ref 768], (126, 120, L, [Y_2, T, H, H2, RV, RU, ST, NS, I0, I1, I2, BO_5, FI, RG, GU, PU, MA, MN, MS, OT, SC], [192, 256, 384, 320, w, 192, 576, 640, 704], Lg)) o from ev_call (fun v μ => (d + 7, 0, 0, 325, 24, [.val (.ref 64), .val (.int p1), .val (.int p2), .val (.int p3), .val a_unk, .val a_unk], v.toList ++ [], μ)) 2 ze7 e (fun n => Eq.refl _)
      suffices e : Ev (d + 7, 0, 0, 325, 34, [.val (.ref 64), .val (.int p1), .val (.int p2), .val (.int p3), .val (.ref 768), .val a_unk], [.ref 384, .ref 1024], (126, 120, L, [Y_2, T, H, H2, RV, RU, ST, NS, I0, I1, I2, BO_5, FI, RG, GU, PU, MA, MN, MS, OT, SC], [192, 256, 384, 320, w, 192, 576, 640, 704], Lg)) o from ev_b 5 e (fun n => Eq.refl _)
      obtain ⟨x6, zh8, h⟩ := bnd h
      have zh8 : f_Y_placeOf p2 p3 = some x6 := zh8
      have ze9 := R_f_Y_placeOf_0 (d + 6) Y_2 T H H2 RV RU ST NS I0 I1 I2 BO_5 FI RG GU PU MA MN MS OT SC 192 256 384 320 w 192 576 640 704 L Lg p2 p3 zh8
      suffices e : Ev (d + 7, 0, 0, 325, 40, [.val (.ref 64), .val (.int p1), .val (.int p2), .val (.int p3), .val (.ref 768), .val a_unk], [.int x6, .int p1, .ref 384, .ref 1024], (126, 120, L, [Y_2, T, H, H2, RV, RU, ST, NS, I0, I1, I2, BO_5, FI, RG, GU, PU, MA, MN, MS, OT, SC], [192, 256, 384, 320, w, 192, 576, 640, 704], Lg)) o from ev_call (fun v μ => (d + 7, 0, 0, 325, 40, [.val (.ref 64), .val (.int p1), .val (.int p2), .val (.int p3), .val (.ref 768), .val a_unk], v.toList ++ [.int p1, .ref 384, .ref 1024], μ)) 4 ze9 e (fun n => Eq.refl _)
      obtain ⟨⟨x7, RU_8, BO_9, PU_10⟩, zh10, h⟩ := bnd h
      have zh10 : f_Pusher_run H RU BO_5 PU p1 x6 = some (x7, RU_8, BO_9, PU_10) := zh10
      have ze11 := R_f_Pusher_run_1 (d + 0) Y_2 T H H2 RV RU ST NS I0 I1 I2 BO_5 FI RG GU PU MA MN MS OT SC 192 256 384 320 w 576 640 704 L Lg p1 x6 zh10
      suffices e : Ev (d + 7, 0, 0, 325, 43, [.val (.ref 64), .val (.int p1), .val (.int p2), .val (.int p3), .val (.ref 768), .val a_unk], [.int x7], (126, 120, L, [Y_2, T, H, H2, RV, RU_8, ST, NS, I0, I1, I2, BO_9, FI, RG, GU, PU_10, MA, MN, MS, OT, SC], [192, 256, 384, 320, w, 192, 576, 640, 704], Lg)) o from ev_call (fun v μ => (d + 7, 0, 0, 325, 43, [.val (.ref 64), .val (.int p1), .val (.int p2), .val (.int p3), .val (.ref 768), .val a_unk], v.toList ++ [], μ)) 1 ze11 e (fun n => Eq.refl _)
      by_cases zc12 : x7 = (-1)
      · have h := itp h zc12
        suffices e : Ev (d + 7, 0, 0, 325, 72, [.val (.ref 64), .val (.int p1), .val (.int p2), .val (.int p3), .val (.ref 768), .val (.int x7)], [], (126, 120, L, [Y_2, T, H, H2, RV, RU_8, ST, NS, I0, I1, I2, BO_9, FI, RG, GU, PU_10, MA, MN, MS, OT, SC], [192, 256, 384, 320, w, 192, 576, 640, 704], Lg)) o from ev_t (c := x7 = (-1)) _ _ 4  zc12 e (fun n => Eq.refl _)
        have ze13 := Option.some.inj h
        subst ze13
        exact ev_rete 2 ho (fun n => Eq.refl _)
      · have h := itn h zc12
        suffices e : Ev (d + 7, 0, 0, 325, 51, [.val (.ref 64), .val (.int p1), .val (.int p2), .val (.int p3), .val (.ref 768), .val (.int x7)], [], (126, 120, L, [Y_2, T, H, H2, RV, RU_8, ST, NS, I0, I1, I2, BO_9, FI, RG, GU, PU_10, MA, MN, MS, OT, SC], [192, 256, 384, 320, w, 192, 576, 640, 704], Lg)) o from ev_f (c := x7 = (-1)) _ _ 4  zc12 e (fun n => Eq.refl _)
        obtain ⟨BO_11, zh14, h⟩ := bnd h
        have zh14 : f_Board_countMoved H BO_9 (NS 1) = some BO_11 := zh14
        have ze15 := R_f_Board_countMoved_0 (d + 6) Y_2 T H H2 RV RU_8 ST NS I0 I1 I2 BO_9 FI RG GU PU_10 MA MN MS OT SC 192 256 384 320 w 576 640 704 L Lg zh14
        suffices e : Ev (d + 7, 0, 0, 325, 63, [.val (.ref 64), .val (.int p1), .val (.int p2), .val (.int p3), .val (.ref 768), .val (.int x7)], [], (126, 120, L, [Y_2, T, H, H2, RV, RU_8, ST, NS, I0, I1, I2, BO_11, FI, RG, GU, PU_10, MA, MN, MS, OT, SC], [192, 256, 384, 320, w, 192, 576, 640, 704], Lg)) o from ev_call (fun v μ => (d + 7, 0, 0, 325, 63, [.val (.ref 64), .val (.int p1), .val (.int p2), .val (.int p3), .val (.ref 768), .val (.int x7)], v.toList ++ [], μ)) 5 ze15 e (fun n => Eq.refl _)
        obtain ⟨NS_12, zh16, h⟩ := bnd h
        have zh16 : f_State_act NS BO_11 = some NS_12 := zh16
        have ze17 := R_f_State_act_0 (d + 5) Y_2 T H H2 RV RU_8 ST NS I0 I1 I2 BO_11 FI RG GU PU_10 MA MN MS OT SC 192 256 384 320 w 192 576 640 704 L Lg zh16
        suffices e : Ev (d + 7, 0, 0, 325, 72, [.val (.ref 64), .val (.int p1), .val (.int p2), .val (.int p3), .val (.ref 768), .val (.int x7)], [], (126, 120, L, [Y_2, T, H, H2, RV, RU_8, ST, NS_12, I0, I1, I2, BO_11, FI, RG, GU, PU_10, MA, MN, MS, OT, SC], [192, 256, 384, 320, w, 192, 576, 640, 704], Lg)) o from ev_call (fun v μ => (d + 7, 0, 0, 325, 72, [.val (.ref 64), .val (.int p1), .val (.int p2), .val (.int p3), .val (.ref 768), .val (.int x7)], v.toList ++ [], μ)) 4 ze17 e (fun n => Eq.refl _)
        have ze18 := Option.some.inj h
        subst ze18
        exact ev_rete 2 ho (fun n => Eq.refl _)
    · have h := itn h zc5
      suffices e : Ev (d + 7, 0, 0, 325, 17, [.val (.ref 64), .val (.int p1), .val (.int p2), .val (.int p3), .val a_unk, .val a_unk], [], (126, 120, L, [Y_2, T, H, H2, RV, RU, ST, NS, I0, I1, I2, BO, FI, RG, GU, PU, MA, MN, MS, OT, SC], [192, 256, 384, 320, w, r5, 576, 640, 704], Lg)) o from ev_f (c := x3 = 0) _ _ 1  zc5 e (fun n => Eq.refl _)
      have ze19 := Option.some.inj h
      subst ze19
      exact ev_rete 2 ho (fun n => Eq.refl _)
  | succ q1 =>
    have h := itn h (Nat.succ_ne_zero q1)
    have ze20 := Option.some.inj h
    subst ze20
    subst ho
    exact ev_thr (fun v μ => (d + 7, 0, 0, 325, 7, [.val (.ref 64), .val (.int p1), .val (.int p2), .val (.int p3), .val a_unk, .val a_unk], v.toList ++ [], μ)) 5 ze2 (fun n => Eq.refl _) (fun n => rfl)
set_option maxRecDepth 1000000 in
set_option maxHeartbeats 4000000 in
theorem R_f_Y_push_2 (d : Nat) (Y T H2 H RU RV ST NS I0 I1 I2 BO FI RG GU PU MA MN MS OT SC : Nat → Nat → Int32) (w r5 : Nat) (L : Nat) (Lg : Int64) (p1 : Int32) (p2 : Int32) (p3 : Int32) {r : Nat × Int32 × (Nat → Nat → Int32) × (Nat → Nat → Int32) × (Nat → Nat → Int32) × (Nat → Nat → Int32) × (Nat → Nat → Int32) × Nat} (h : f_Y_push Y H RU NS BO PU 256 r5 p1 p2 p3 = some r) : Ev (d + 7, 3, 24, 325, 0, [.val (.ref 64), .val (.int p1), .val (.int p2), .val (.int p3), .val a_unk, .val a_unk], [], (126, 120, L, [Y, T, H2, H, RU, RV, ST, NS, I0, I1, I2, BO, FI, RG, GU, PU, MA, MN, MS, OT, SC], [256, 192, 320, 384, w, r5, 576, 640, 704], Lg)) ((r.1, a_ov r.1 (.int r.2.1), (126, 120, L, [r.2.2.1, T, H2, H, r.2.2.2.1, RV, ST, r.2.2.2.2.1, I0, I1, I2, r.2.2.2.2.2.1, FI, RG, GU, r.2.2.2.2.2.2.1, MA, MN, MS, OT, SC], [256, 192, 320, 384, w, r.2.2.2.2.2.2.2, 576, 640, 704], Lg)) : AOut) := by
  suffices key : ∀ o : AOut, ((r.1, a_ov r.1 (.int r.2.1), (126, 120, L, [r.2.2.1, T, H2, H, r.2.2.2.1, RV, ST, r.2.2.2.2.1, I0, I1, I2, r.2.2.2.2.2.1, FI, RG, GU, r.2.2.2.2.2.2.1, MA, MN, MS, OT, SC], [256, 192, 320, 384, w, r.2.2.2.2.2.2.2, 576, 640, 704], Lg)) : AOut) = o → Ev (d + 7, 3, 24, 325, 0, [.val (.ref 64), .val (.int p1), .val (.int p2), .val (.int p3), .val a_unk, .val a_unk], [], (126, 120, L, [Y, T, H2, H, RU, RV, ST, NS, I0, I1, I2, BO, FI, RG, GU, PU, MA, MN, MS, OT, SC], [256, 192, 320, 384, w, r5, 576, 640, 704], Lg)) o from key _ rfl
  intro o ho
  obtain ⟨⟨q1, Y_2⟩, zh1, h⟩ := bnd h
  have zh1 : f_Y_needPlace Y H p1 p2 p3 = some (q1, Y_2) := zh1
  have ze2 := R_f_Y_needPlace_2 (d + 4) Y T H2 H RU RV ST NS I0 I1 I2 BO FI RG GU PU MA MN MS OT SC w r5 L Lg p1 p2 p3 zh1
  cases q1 with
  | zero =>
    have h := itp h rfl
    suffices e : Ev (d + 7, 0, 0, 325, 7, [.val (.ref 64), .val (.int p1), .val (.int p2), .val (.int p3), .val a_unk, .val a_unk], [], (126, 120, L, [Y_2, T, H2, H, RU, RV, ST, NS, I0, I1, I2, BO, FI, RG, GU, PU, MA, MN, MS, OT, SC], [256, 192, 320, 384, w, r5, 576, 640, 704], Lg)) o from ev_call (fun v μ => (d + 7, 0, 0, 325, 7, [.val (.ref 64), .val (.int p1), .val (.int p2), .val (.int p3), .val a_unk, .val a_unk], v.toList ++ [], μ)) 5 ze2 e (fun n => Eq.refl _)
    obtain ⟨x3, zh3, h⟩ := bnd h
    have zh3 : f_State_isFull NS = some x3 := zh3
    have ze4 := R_f_State_isFull_0 (d + 6) Y_2 T H2 H RU RV ST NS I0 I1 I2 BO FI RG GU PU MA MN MS OT SC 256 192 320 384 w r5 576 640 704 L Lg zh3
    suffices e : Ev (d + 7, 0, 0, 325, 14, [.val (.ref 64), .val (.int p1), .val (.int p2), .val (.int p3), .val a_unk, .val a_unk], [.int x3], (126, 120, L, [Y_2, T, H2, H, RU, RV, ST, NS, I0, I1, I2, BO, FI, RG, GU, PU, MA, MN, MS, OT, SC], [256, 192, 320, 384, w, r5, 576, 640, 704], Lg)) o from ev_call (fun v μ => (d + 7, 0, 0, 325, 14, [.val (.ref 64), .val (.int p1), .val (.int p2), .val (.int p3), .val a_unk, .val a_unk], v.toList ++ [], μ)) 3 ze4 e (fun n => Eq.refl _)
    by_cases zc5 : x3 = 0
    · have h := itp h zc5
      suffices e : Ev (d + 7, 0, 0, 325, 20, [.val (.ref 64), .val (.int p1), .val (.int p2), .val (.int p3), .val a_unk, .val a_unk], [], (126, 120, L, [Y_2, T, H2, H, RU, RV, ST, NS, I0, I1, I2, BO, FI, RG, GU, PU, MA, MN, MS, OT, SC], [256, 192, 320, 384, w, r5, 576, 640, 704], Lg)) o from ev_t (c := x3 = 0) _ _ 1  zc5 e (fun n => Eq.refl _)
      obtain ⟨BO_5, zh6, h⟩ := bnd h
      have zh6 : f_Y_lookNow H NS BO = some BO_5 := zh6
      have ze7 := R_f_Y_lookNow_2 (d + 4) Y_2 T H2 H RU RV ST NS I0 I1 I2 BO FI RG GU PU MA MN MS OT SC w r5 L Lg zh6
      suffices e : Ev (d + 7, 0, 0, 325, 24, [.val (.ref 64), .val (.int p1), .val (.int p2), .val (.int p3), .val a_unk, .val a_unk], [.ref 768], (126, 120, L, [Y_2, T, H2, H, RU, RV, ST, NS, I0, I1, I2, BO_5, FI, RG, GU, PU, MA, MN, MS, OT, SC], [256, 192, 320, 384, w, 256, 576, 640, 704], Lg)) o from ev_call (fun v μ => (d + 7, 0, 0, 325, 24, [.val (.ref 64), .val (.int p1), .val (.int p2), .val (.int p3), .val a_unk, .val a_unk], v.toList ++ [], μ)) 2 ze7 e (fun n => Eq.refl _)
      suffices e : Ev (d + 7, 0, 0, 325, 34, [.val (.ref 64), .val (.int p1), .val (.int p2), .val (.int p3), .val (.ref 768), .val a_unk], [.ref 320, .ref 1024], (126, 120, L, [Y_2, T, H2, H, RU, RV, ST, NS, I0, I1, I2, BO_5, FI, RG, GU, PU, MA, MN, MS, OT, SC], [256, 192, 320, 384, w, 256, 576, 640, 704], Lg)) o from ev_b 5 e (fun n => Eq.refl _)
      obtain ⟨x6, zh8, h⟩ := bnd h
      have zh8 : f_Y_placeOf p2 p3 = some x6 := zh8
      have ze9 := R_f_Y_placeOf_0 (d + 6) Y_2 T H2 H RU RV ST NS I0 I1 I2 BO_5 FI RG GU PU MA MN MS OT SC 256 192 320 384 w 256 576 640 704 L Lg p2 p3 zh8
      suffices e : Ev (d + 7, 0, 0, 325, 40, [.val (.ref 64), .val (.int p1), .val (.int p2), .val (.int p3), .val (.ref 768), .val a_unk], [.int x6, .int p1, .ref 320, .ref 1024], (126, 120, L, [Y_2, T, H2, H, RU, RV, ST, NS, I0, I1, I2, BO_5, FI, RG, GU, PU, MA, MN, MS, OT, SC], [256, 192, 320, 384, w, 256, 576, 640, 704], Lg)) o from ev_call (fun v μ => (d + 7, 0, 0, 325, 40, [.val (.ref 64), .val (.int p1), .val (.int p2), .val (.int p3), .val (.ref 768), .val a_unk], v.toList ++ [.int p1, .ref 320, .ref 1024], μ)) 4 ze9 e (fun n => Eq.refl _)
      obtain ⟨⟨x7, RU_8, BO_9, PU_10⟩, zh10, h⟩ := bnd h
      have zh10 : f_Pusher_run H RU BO_5 PU p1 x6 = some (x7, RU_8, BO_9, PU_10) := zh10
      have ze11 := R_f_Pusher_run_2 (d + 0) Y_2 T H2 H RU RV ST NS I0 I1 I2 BO_5 FI RG GU PU MA MN MS OT SC 256 192 320 384 w 576 640 704 L Lg p1 x6 zh10
      suffices e : Ev (d + 7, 0, 0, 325, 43, [.val (.ref 64), .val (.int p1), .val (.int p2), .val (.int p3), .val (.ref 768), .val a_unk], [.int x7], (126, 120, L, [Y_2, T, H2, H, RU_8, RV, ST, NS, I0, I1, I2, BO_9, FI, RG, GU, PU_10, MA, MN, MS, OT, SC], [256, 192, 320, 384, w, 256, 576, 640, 704], Lg)) o from ev_call (fun v μ => (d + 7, 0, 0, 325, 43, [.val (.ref 64), .val (.int p1), .val (.int p2), .val (.int p3), .val (.ref 768), .val a_unk], v.toList ++ [], μ)) 1 ze11 e (fun n => Eq.refl _)
      by_cases zc12 : x7 = (-1)
      · have h := itp h zc12
        suffices e : Ev (d + 7, 0, 0, 325, 72, [.val (.ref 64), .val (.int p1), .val (.int p2), .val (.int p3), .val (.ref 768), .val (.int x7)], [], (126, 120, L, [Y_2, T, H2, H, RU_8, RV, ST, NS, I0, I1, I2, BO_9, FI, RG, GU, PU_10, MA, MN, MS, OT, SC], [256, 192, 320, 384, w, 256, 576, 640, 704], Lg)) o from ev_t (c := x7 = (-1)) _ _ 4  zc12 e (fun n => Eq.refl _)
        have ze13 := Option.some.inj h
        subst ze13
        exact ev_rete 2 ho (fun n => Eq.refl _)
      · have h := itn h zc12
        suffices e : Ev (d + 7, 0, 0, 325, 51, [.val (.ref 64), .val (.int p1), .val (.int p2), .val (.int p3), .val (.ref 768), .val (.int x7)], [], (126, 120, L, [Y_2, T, H2, H, RU_8, RV, ST, NS, I0, I1, I2, BO_9, FI, RG, GU, PU_10, MA, MN, MS, OT, SC], [256, 192, 320, 384, w, 256, 576, 640, 704], Lg)) o from ev_f (c := x7 = (-1)) _ _ 4  zc12 e (fun n => Eq.refl _)
        obtain ⟨BO_11, zh14, h⟩ := bnd h
        have zh14 : f_Board_countMoved H BO_9 (NS 1) = some BO_11 := zh14
        have ze15 := R_f_Board_countMoved_1 (d + 6) Y_2 T H2 H RU_8 RV ST NS I0 I1 I2 BO_9 FI RG GU PU_10 MA MN MS OT SC 256 192 320 384 w 576 640 704 L Lg zh14
        suffices e : Ev (d + 7, 0, 0, 325, 63, [.val (.ref 64), .val (.int p1), .val (.int p2), .val (.int p3), .val (.ref 768), .val (.int x7)], [], (126, 120, L, [Y_2, T, H2, H, RU_8, RV, ST, NS, I0, I1, I2, BO_11, FI, RG, GU, PU_10, MA, MN, MS, OT, SC], [256, 192, 320, 384, w, 256, 576, 640, 704], Lg)) o from ev_call (fun v μ => (d + 7, 0, 0, 325, 63, [.val (.ref 64), .val (.int p1), .val (.int p2), .val (.int p3), .val (.ref 768), .val (.int x7)], v.toList ++ [], μ)) 5 ze15 e (fun n => Eq.refl _)
        obtain ⟨NS_12, zh16, h⟩ := bnd h
        have zh16 : f_State_act NS BO_11 = some NS_12 := zh16
        have ze17 := R_f_State_act_0 (d + 5) Y_2 T H2 H RU_8 RV ST NS I0 I1 I2 BO_11 FI RG GU PU_10 MA MN MS OT SC 256 192 320 384 w 256 576 640 704 L Lg zh16
        suffices e : Ev (d + 7, 0, 0, 325, 72, [.val (.ref 64), .val (.int p1), .val (.int p2), .val (.int p3), .val (.ref 768), .val (.int x7)], [], (126, 120, L, [Y_2, T, H2, H, RU_8, RV, ST, NS_12, I0, I1, I2, BO_11, FI, RG, GU, PU_10, MA, MN, MS, OT, SC], [256, 192, 320, 384, w, 256, 576, 640, 704], Lg)) o from ev_call (fun v μ => (d + 7, 0, 0, 325, 72, [.val (.ref 64), .val (.int p1), .val (.int p2), .val (.int p3), .val (.ref 768), .val (.int x7)], v.toList ++ [], μ)) 4 ze17 e (fun n => Eq.refl _)
        have ze18 := Option.some.inj h
        subst ze18
        exact ev_rete 2 ho (fun n => Eq.refl _)
    · have h := itn h zc5
      suffices e : Ev (d + 7, 0, 0, 325, 17, [.val (.ref 64), .val (.int p1), .val (.int p2), .val (.int p3), .val a_unk, .val a_unk], [], (126, 120, L, [Y_2, T, H2, H, RU, RV, ST, NS, I0, I1, I2, BO, FI, RG, GU, PU, MA, MN, MS, OT, SC], [256, 192, 320, 384, w, r5, 576, 640, 704], Lg)) o from ev_f (c := x3 = 0) _ _ 1  zc5 e (fun n => Eq.refl _)
      have ze19 := Option.some.inj h
      subst ze19
      exact ev_rete 2 ho (fun n => Eq.refl _)
  | succ q1 =>
    have h := itn h (Nat.succ_ne_zero q1)
    have ze20 := Option.some.inj h
    subst ze20
    subst ho
    exact ev_thr (fun v μ => (d + 7, 0, 0, 325, 7, [.val (.ref 64), .val (.int p1), .val (.int p2), .val (.int p3), .val a_unk, .val a_unk], v.toList ++ [], μ)) 5 ze2 (fun n => Eq.refl _) (fun n => rfl)
set_option maxRecDepth 1000000 in
set_option maxHeartbeats 4000000 in
theorem R_f_Y_push_3 (d : Nat) (Y T H2 H RV RU ST NS I0 I1 I2 BO FI RG GU PU MA MN MS OT SC : Nat → Nat → Int32) (w r5 : Nat) (L : Nat) (Lg : Int64) (p1 : Int32) (p2 : Int32) (p3 : Int32) {r : Nat × Int32 × (Nat → Nat → Int32) × (Nat → Nat → Int32) × (Nat → Nat → Int32) × (Nat → Nat → Int32) × (Nat → Nat → Int32) × Nat} (h : f_Y_push Y H RU NS BO PU 256 r5 p1 p2 p3 = some r) : Ev (d + 7, 3, 24, 325, 0, [.val (.ref 64), .val (.int p1), .val (.int p2), .val (.int p3), .val a_unk, .val a_unk], [], (126, 120, L, [Y, T, H2, H, RV, RU, ST, NS, I0, I1, I2, BO, FI, RG, GU, PU, MA, MN, MS, OT, SC], [256, 192, 384, 320, w, r5, 576, 640, 704], Lg)) ((r.1, a_ov r.1 (.int r.2.1), (126, 120, L, [r.2.2.1, T, H2, H, RV, r.2.2.2.1, ST, r.2.2.2.2.1, I0, I1, I2, r.2.2.2.2.2.1, FI, RG, GU, r.2.2.2.2.2.2.1, MA, MN, MS, OT, SC], [256, 192, 384, 320, w, r.2.2.2.2.2.2.2, 576, 640, 704], Lg)) : AOut) := by
  suffices key : ∀ o : AOut, ((r.1, a_ov r.1 (.int r.2.1), (126, 120, L, [r.2.2.1, T, H2, H, RV, r.2.2.2.1, ST, r.2.2.2.2.1, I0, I1, I2, r.2.2.2.2.2.1, FI, RG, GU, r.2.2.2.2.2.2.1, MA, MN, MS, OT, SC], [256, 192, 384, 320, w, r.2.2.2.2.2.2.2, 576, 640, 704], Lg)) : AOut) = o → Ev (d + 7, 3, 24, 325, 0, [.val (.ref 64), .val (.int p1), .val (.int p2), .val (.int p3), .val a_unk, .val a_unk], [], (126, 120, L, [Y, T, H2, H, RV, RU, ST, NS, I0, I1, I2, BO, FI, RG, GU, PU, MA, MN, MS, OT, SC], [256, 192, 384, 320, w, r5, 576, 640, 704], Lg)) o from key _ rfl
  intro o ho
  obtain ⟨⟨q1, Y_2⟩, zh1, h⟩ := bnd h
  have zh1 : f_Y_needPlace Y H p1 p2 p3 = some (q1, Y_2) := zh1
  have ze2 := R_f_Y_needPlace_3 (d + 4) Y T H2 H RV RU ST NS I0 I1 I2 BO FI RG GU PU MA MN MS OT SC w r5 L Lg p1 p2 p3 zh1
  cases q1 with
  | zero =>
    have h := itp h rfl
    suffices e : Ev (d + 7, 0, 0, 325, 7, [.val (.ref 64), .val (.int p1), .val (.int p2), .val (.int p3), .val a_unk, .val a_unk], [], (126, 120, L, [Y_2, T, H2, H, RV, RU, ST, NS, I0, I1, I2, BO, FI, RG, GU, PU, MA, MN, MS, OT, SC], [256, 192, 384, 320, w, r5, 576, 640, 704], Lg)) o from ev_call (fun v μ => (d + 7, 0, 0, 325, 7, [.val (.ref 64), .val (.int p1), .val (.int p2), .val (.int p3), .val a_unk, .val a_unk], v.toList ++ [], μ)) 5 ze2 e (fun n => Eq.refl _)
    obtain ⟨x3, zh3, h⟩ := bnd h
    have zh3 : f_State_isFull NS = some x3 := zh3
    have ze4 := R_f_State_isFull_0 (d + 6) Y_2 T H2 H RV RU ST NS I0 I1 I2 BO FI RG GU PU MA MN MS OT SC 256 192 384 320 w r5 576 640 704 L Lg zh3
    suffices e : Ev (d + 7, 0, 0, 325, 14, [.val (.ref 64), .val (.int p1), .val (.int p2), .val (.int p3), .val a_unk, .val a_unk], [.int x3], (126, 120, L, [Y_2, T, H2, H, RV, RU, ST, NS, I0, I1, I2, BO, FI, RG, GU, PU, MA, MN, MS, OT, SC], [256, 192, 384, 320, w, r5, 576, 640, 704], Lg)) o from ev_call (fun v μ => (d + 7, 0, 0, 325, 14, [.val (.ref 64), .val (.int p1), .val (.int p2), .val (.int p3), .val a_unk, .val a_unk], v.toList ++ [], μ)) 3 ze4 e (fun n => Eq.refl _)
    by_cases zc5 : x3 = 0
    · have h := itp h zc5
      suffices e : Ev (d + 7, 0, 0, 325, 20, [.val (.ref 64), .val (.int p1), .val (.int p2), .val (.int p3), .val a_unk, .val a_unk], [], (126, 120, L, [Y_2, T, H2, H, RV, RU, ST, NS, I0, I1, I2, BO, FI, RG, GU, PU, MA, MN, MS, OT, SC], [256, 192, 384, 320, w, r5, 576, 640, 704], Lg)) o from ev_t (c := x3 = 0) _ _ 1  zc5 e (fun n => Eq.refl _)
      obtain ⟨BO_5, zh6, h⟩ := bnd h
      have zh6 : f_Y_lookNow H NS BO = some BO_5 := zh6
      have ze7 := R_f_Y_lookNow_3 (d + 4) Y_2 T H2 H RV RU ST NS I0 I1 I2 BO FI RG GU PU MA MN MS OT SC w r5 L Lg zh6
      suffices e : Ev (d + 7, 0, 0, 325, 24, [.val (.ref 64), .val (.int p1), .val (.int p2), .val (.int p3), .val a_unk, .val a_unk], [.ref 768], (126, 120, L, [Y_2, T, H2, H, RV, RU, ST, NS, I0, I1, I2, BO_5, FI, RG, GU, PU, MA, MN, MS, OT, SC], [256, 192, 384, 320, w, 256, 576, 640, 704], Lg)) o from ev_call (fun v μ => (d + 7, 0, 0, 325, 24, [.val (.ref 64), .val (.int p1), .val (.int p2), .val (.int p3), .val a_unk, .val a_unk], v.toList ++ [], μ)) 2 ze7 e (fun n => Eq.refl _)
      suffices e : Ev (d + 7, 0, 0, 325, 34, [.val (.ref 64), .val (.int p1), .val (.int p2), .val (.int p3), .val (.ref 768), .val a_unk], [.ref 384, .ref 1024], (126, 120, L, [Y_2, T, H2, H, RV, RU, ST, NS, I0, I1, I2, BO_5, FI, RG, GU, PU, MA, MN, MS, OT, SC], [256, 192, 384, 320, w, 256, 576, 640, 704], Lg)) o from ev_b 5 e (fun n => Eq.refl _)
      obtain ⟨x6, zh8, h⟩ := bnd h
      have zh8 : f_Y_placeOf p2 p3 = some x6 := zh8
      have ze9 := R_f_Y_placeOf_0 (d + 6) Y_2 T H2 H RV RU ST NS I0 I1 I2 BO_5 FI RG GU PU MA MN MS OT SC 256 192 384 320 w 256 576 640 704 L Lg p2 p3 zh8
      suffices e : Ev (d + 7, 0, 0, 325, 40, [.val (.ref 64), .val (.int p1), .val (.int p2), .val (.int p3), .val (.ref 768), .val a_unk], [.int x6, .int p1, .ref 384, .ref 1024], (126, 120, L, [Y_2, T, H2, H, RV, RU, ST, NS, I0, I1, I2, BO_5, FI, RG, GU, PU, MA, MN, MS, OT, SC], [256, 192, 384, 320, w, 256, 576, 640, 704], Lg)) o from ev_call (fun v μ => (d + 7, 0, 0, 325, 40, [.val (.ref 64), .val (.int p1), .val (.int p2), .val (.int p3), .val (.ref 768), .val a_unk], v.toList ++ [.int p1, .ref 384, .ref 1024], μ)) 4 ze9 e (fun n => Eq.refl _)
      obtain ⟨⟨x7, RU_8, BO_9, PU_10⟩, zh10, h⟩ := bnd h
      have zh10 : f_Pusher_run H RU BO_5 PU p1 x6 = some (x7, RU_8, BO_9, PU_10) := zh10
      have ze11 := R_f_Pusher_run_3 (d + 0) Y_2 T H2 H RV RU ST NS I0 I1 I2 BO_5 FI RG GU PU MA MN MS OT SC 256 192 384 320 w 576 640 704 L Lg p1 x6 zh10
      suffices e : Ev (d + 7, 0, 0, 325, 43, [.val (.ref 64), .val (.int p1), .val (.int p2), .val (.int p3), .val (.ref 768), .val a_unk], [.int x7], (126, 120, L, [Y_2, T, H2, H, RV, RU_8, ST, NS, I0, I1, I2, BO_9, FI, RG, GU, PU_10, MA, MN, MS, OT, SC], [256, 192, 384, 320, w, 256, 576, 640, 704], Lg)) o from ev_call (fun v μ => (d + 7, 0, 0, 325, 43, [.val (.ref 64), .val (.int p1), .val (.int p2), .val (.int p3), .val (.ref 768), .val a_unk], v.toList ++ [], μ)) 1 ze11 e (fun n => Eq.refl _)
      by_cases zc12 : x7 = (-1)
      · have h := itp h zc12
        suffices e : Ev (d + 7, 0, 0, 325, 72, [.val (.ref 64), .val (.int p1), .val (.int p2), .val (.int p3), .val (.ref 768), .val (.int x7)], [], (126, 120, L, [Y_2, T, H2, H, RV, RU_8, ST, NS, I0, I1, I2, BO_9, FI, RG, GU, PU_10, MA, MN, MS, OT, SC], [256, 192, 384, 320, w, 256, 576, 640, 704], Lg)) o from ev_t (c := x7 = (-1)) _ _ 4  zc12 e (fun n => Eq.refl _)
        have ze13 := Option.some.inj h
        subst ze13
        exact ev_rete 2 ho (fun n => Eq.refl _)
      · have h := itn h zc12
        suffices e : Ev (d + 7, 0, 0, 325, 51, [.val (.ref 64), .val (.int p1), .val (.int p2), .val (.int p3), .val (.ref 768), .val (.int x7)], [], (126, 120, L, [Y_2, T, H2, H, RV, RU_8, ST, NS, I0, I1, I2, BO_9, FI, RG, GU, PU_10, MA, MN, MS, OT, SC], [256, 192, 384, 320, w, 256, 576, 640, 704], Lg)) o from ev_f (c := x7 = (-1)) _ _ 4  zc12 e (fun n => Eq.refl _)
        obtain ⟨BO_11, zh14, h⟩ := bnd h
        have zh14 : f_Board_countMoved H BO_9 (NS 1) = some BO_11 := zh14
        have ze15 := R_f_Board_countMoved_1 (d + 6) Y_2 T H2 H RV RU_8 ST NS I0 I1 I2 BO_9 FI RG GU PU_10 MA MN MS OT SC 256 192 384 320 w 576 640 704 L Lg zh14
        suffices e : Ev (d + 7, 0, 0, 325, 63, [.val (.ref 64), .val (.int p1), .val (.int p2), .val (.int p3), .val (.ref 768), .val (.int x7)], [], (126, 120, L, [Y_2, T, H2, H, RV, RU_8, ST, NS, I0, I1, I2, BO_11, FI, RG, GU, PU_10, MA, MN, MS, OT, SC], [256, 192, 384, 320, w, 256, 576, 640, 704], Lg)) o from ev_call (fun v μ => (d + 7, 0, 0, 325, 63, [.val (.ref 64), .val (.int p1), .val (.int p2), .val (.int p3), .val (.ref 768), .val (.int x7)], v.toList ++ [], μ)) 5 ze15 e (fun n => Eq.refl _)
        obtain ⟨NS_12, zh16, h⟩ := bnd h
        have zh16 : f_State_act NS BO_11 = some NS_12 := zh16
        have ze17 := R_f_State_act_0 (d + 5) Y_2 T H2 H RV RU_8 ST NS I0 I1 I2 BO_11 FI RG GU PU_10 MA MN MS OT SC 256 192 384 320 w 256 576 640 704 L Lg zh16
        suffices e : Ev (d + 7, 0, 0, 325, 72, [.val (.ref 64), .val (.int p1), .val (.int p2), .val (.int p3), .val (.ref 768), .val (.int x7)], [], (126, 120, L, [Y_2, T, H2, H, RV, RU_8, ST, NS_12, I0, I1, I2, BO_11, FI, RG, GU, PU_10, MA, MN, MS, OT, SC], [256, 192, 384, 320, w, 256, 576, 640, 704], Lg)) o from ev_call (fun v μ => (d + 7, 0, 0, 325, 72, [.val (.ref 64), .val (.int p1), .val (.int p2), .val (.int p3), .val (.ref 768), .val (.int x7)], v.toList ++ [], μ)) 4 ze17 e (fun n => Eq.refl _)
        have ze18 := Option.some.inj h
        subst ze18
        exact ev_rete 2 ho (fun n => Eq.refl _)
    · have h := itn h zc5
      suffices e : Ev (d + 7, 0, 0, 325, 17, [.val (.ref 64), .val (.int p1), .val (.int p2), .val (.int p3), .val a_unk, .val a_unk], [], (126, 120, L, [Y_2, T, H2, H, RV, RU, ST, NS, I0, I1, I2, BO, FI, RG, GU, PU, MA, MN, MS, OT, SC], [256, 192, 384, 320, w, r5, 576, 640, 704], Lg)) o from ev_f (c := x3 = 0) _ _ 1  zc5 e (fun n => Eq.refl _)
      have ze19 := Option.some.inj h
      subst ze19
      exact ev_rete 2 ho (fun n => Eq.refl _)
  | succ q1 =>
    have h := itn h (Nat.succ_ne_zero q1)
    have ze20 := Option.some.inj h
    subst ze20
    subst ho
    exact ev_thr (fun v μ => (d + 7, 0, 0, 325, 7, [.val (.ref 64), .val (.int p1), .val (.int p2), .val (.int p3), .val a_unk, .val a_unk], v.toList ++ [], μ)) 5 ze2 (fun n => Eq.refl _) (fun n => rfl)
set_option maxRecDepth 1000000 in
set_option maxHeartbeats 4000000 in
theorem R_f_Board_nextSeed_0 (d : Nat) (Y T HA HB RA RB ST NS I0 I1 I2 BO FI RG GU PU MA MN MS OT SC : Nat → Nat → Int32) (r0 r1 r2 r3 w r6 r7 r8 : Nat) (L : Nat) (Lg : Int64) (p0 : Int32) {r : Int32} (h : f_Board_nextSeed p0 = some r) : Ev (d + 0, 0, 0, 175, 0, [.val (.int p0)], [], (126, 120, L, [Y, T, HA, HB, RA, RB, ST, NS, I0, I1, I2, BO, FI, RG, GU, PU, MA, MN, MS, OT, SC], [r0, r1, r2, r3, w, 192, r6, r7, r8], Lg)) ((0, some (.int r), (126, 120, L, [Y, T, HA, HB, RA, RB, ST, NS, I0, I1, I2, BO, FI, RG, GU, PU, MA, MN, MS, OT, SC], [r0, r1, r2, r3, w, 192, r6, r7, r8], Lg)) : AOut) := by
  suffices key : ∀ o : AOut, ((0, some (.int r), (126, 120, L, [Y, T, HA, HB, RA, RB, ST, NS, I0, I1, I2, BO, FI, RG, GU, PU, MA, MN, MS, OT, SC], [r0, r1, r2, r3, w, 192, r6, r7, r8], Lg)) : AOut) = o → Ev (d + 0, 0, 0, 175, 0, [.val (.int p0)], [], (126, 120, L, [Y, T, HA, HB, RA, RB, ST, NS, I0, I1, I2, BO, FI, RG, GU, PU, MA, MN, MS, OT, SC], [r0, r1, r2, r3, w, 192, r6, r7, r8], Lg)) o from key _ rfl
  intro o ho
  have ze1 := Option.some.inj h
  subst ze1
  exact ev_rete 6 ho (fun n => Eq.refl _)
set_option maxRecDepth 1000000 in
set_option maxHeartbeats 4000000 in
theorem R_f_Board_movesInto_0 (d : Nat) (Y T H H2 RA RB ST NS I0 I1 I2 BO FI RG GU PU MA MN MS OT SC : Nat → Nat → Int32) (r0 r1 r2 r3 w r6 r7 r8 : Nat) (L : Nat) (Lg : Int64) (p1 : Int32) (p2 : Int32) {r : Int32 × (Nat → Nat → Int32)} (h : f_Board_movesInto H BO p1 p2 = some r) : Ev (d + 2, 0, 0, 176, 0, [.val (.ref 768), .val (.int p1), .val (.int p2), .val a_unk], [], (126, 120, L, [Y, T, H, H2, RA, RB, ST, NS, I0, I1, I2, BO, FI, RG, GU, PU, MA, MN, MS, OT, SC], [r0, r1, r2, r3, w, 192, r6, r7, r8], Lg)) ((0, some (.int r.1), (126, 120, L, [Y, T, H, H2, RA, RB, ST, NS, I0, I1, I2, r.2, FI, RG, GU, PU, MA, MN, MS, OT, SC], [r0, r1, r2, r3, w, 192, r6, r7, r8], Lg)) : AOut) := by
  suffices key : ∀ o : AOut, ((0, some (.int r.1), (126, 120, L, [Y, T, H, H2, RA, RB, ST, NS, I0, I1, I2, r.2, FI, RG, GU, PU, MA, MN, MS, OT, SC], [r0, r1, r2, r3, w, 192, r6, r7, r8], Lg)) : AOut) = o → Ev (d + 2, 0, 0, 176, 0, [.val (.ref 768), .val (.int p1), .val (.int p2), .val a_unk], [], (126, 120, L, [Y, T, H, H2, RA, RB, ST, NS, I0, I1, I2, BO, FI, RG, GU, PU, MA, MN, MS, OT, SC], [r0, r1, r2, r3, w, 192, r6, r7, r8], Lg)) o from key _ rfl
  intro o ho
  suffices e : Ev (d + 2, 0, 0, 176, 4, [.val (.ref 768), .val (.int p1), .val (.int p2), .val a_unk], [.ref 192], (126, 120, L, [Y, T, H, H2, RA, RB, ST, NS, I0, I1, I2, BO, FI, RG, GU, PU, MA, MN, MS, OT, SC], [r0, r1, r2, r3, w, 192, r6, r7, r8], Lg)) o from ev_b 2 e (fun n => Eq.refl _)
  obtain ⟨x1, zh1, h⟩ := bnd h
  have zh1 : f_House_isFixed H p1 = some x1 := zh1
  have ze2 := R_f_House_isFixed_0 (d + 1) Y T H H2 RA RB ST NS I0 I1 I2 BO FI RG GU PU MA MN MS OT SC r0 r1 r2 r3 w 192 r6 r7 r8 L Lg p1 zh1
  suffices e : Ev (d + 2, 0, 0, 176, 8, [.val (.ref 768), .val (.int p1), .val (.int p2), .val a_unk], [.int x1], (126, 120, L, [Y, T, H, H2, RA, RB, ST, NS, I0, I1, I2, BO, FI, RG, GU, PU, MA, MN, MS, OT, SC], [r0, r1, r2, r3, w, 192, r6, r7, r8], Lg)) o from ev_call (fun v μ => (d + 2, 0, 0, 176, 8, [.val (.ref 768), .val (.int p1), .val (.int p2), .val a_unk], v.toList ++ [], μ)) 2 ze2 e (fun n => Eq.refl _)
  by_cases zc3 : x1 ≠ 0
  · have h := itp h zc3
    suffices e : Ev (d + 2, 0, 0, 176, 34, [.val (.ref 768), .val (.int p1), .val (.int p2), .val a_unk], [], (126, 120, L, [Y, T, H, H2, RA, RB, ST, NS, I0, I1, I2, BO, FI, RG, GU, PU, MA, MN, MS, OT, SC], [r0, r1, r2, r3, w, 192, r6, r7, r8], Lg)) o from ev_t (c := x1 ≠ 0) _ _ 1  zc3 e (fun n => Eq.refl _)
    have ze4 := Option.some.inj h
    subst ze4
    exact ev_rete 2 ho (fun n => Eq.refl _)
  · have h := itn h zc3
    suffices e : Ev (d + 2, 0, 0, 176, 11, [.val (.ref 768), .val (.int p1), .val (.int p2), .val a_unk], [], (126, 120, L, [Y, T, H, H2, RA, RB, ST, NS, I0, I1, I2, BO, FI, RG, GU, PU, MA, MN, MS, OT, SC], [r0, r1, r2, r3, w, 192, r6, r7, r8], Lg)) o from ev_f (c := x1 ≠ 0) _ _ 1  zc3 e (fun n => Eq.refl _)
    obtain ⟨x2, zh5, h⟩ := bnd h
    have zh5 : rdx (BO 1) 10 p1 = some x2 := zh5
    suffices e : Ev (d + 2, 0, 0, 176, 17, [.val (.ref 768), .val (.int p1), .val (.int p2), .val a_unk], [.int x2], (126, 120, L, [Y, T, H, H2, RA, RB, ST, NS, I0, I1, I2, BO, FI, RG, GU, PU, MA, MN, MS, OT, SC], [r0, r1, r2, r3, w, 192, r6, r7, r8], Lg)) o from ev_opt (fun x2 => (d + 2, 0, 0, 176, 17, [.val (.ref 768), .val (.int p1), .val (.int p2), .val a_unk], [.int x2], (126, 120, L, [Y, T, H, H2, RA, RB, ST, NS, I0, I1, I2, BO, FI, RG, GU, PU, MA, MN, MS, OT, SC], [r0, r1, r2, r3, w, 192, r6, r7, r8], Lg))) 4 zh5 e (fun n => Eq.refl _)
    by_cases zc6 : x2 = (-1)
    · have h := itp h zc6
      suffices e : Ev (d + 2, 0, 0, 176, 34, [.val (.ref 768), .val (.int p1), .val (.int p2), .val a_unk], [], (126, 120, L, [Y, T, H, H2, RA, RB, ST, NS, I0, I1, I2, BO, FI, RG, GU, PU, MA, MN, MS, OT, SC], [r0, r1, r2, r3, w, 192, r6, r7, r8], Lg)) o from ev_t (c := x2 = (-1)) _ _ 2  zc6 e (fun n => Eq.refl _)
      have ze7 := Option.some.inj h
      subst ze7
      exact ev_rete 2 ho (fun n => Eq.refl _)
    · have h := itn h zc6
      suffices e : Ev (d + 2, 0, 0, 176, 21, [.val (.ref 768), .val (.int p1), .val (.int p2), .val a_unk], [], (126, 120, L, [Y, T, H, H2, RA, RB, ST, NS, I0, I1, I2, BO, FI, RG, GU, PU, MA, MN, MS, OT, SC], [r0, r1, r2, r3, w, 192, r6, r7, r8], Lg)) o from ev_f (c := x2 = (-1)) _ _ 2  zc6 e (fun n => Eq.refl _)
      obtain ⟨x3, zh8, h⟩ := bnd h
      have zh8 : rdx (BO 1) 10 p1 = some x3 := zh8
      suffices e : Ev (d + 2, 0, 0, 176, 27, [.val (.ref 768), .val (.int p1), .val (.int p2), .val a_unk], [.int x3], (126, 120, L, [Y, T, H, H2, RA, RB, ST, NS, I0, I1, I2, BO, FI, RG, GU, PU, MA, MN, MS, OT, SC], [r0, r1, r2, r3, w, 192, r6, r7, r8], Lg)) o from ev_opt (fun x3 => (d + 2, 0, 0, 176, 27, [.val (.ref 768), .val (.int p1), .val (.int p2), .val a_unk], [.int x3], (126, 120, L, [Y, T, H, H2, RA, RB, ST, NS, I0, I1, I2, BO, FI, RG, GU, PU, MA, MN, MS, OT, SC], [r0, r1, r2, r3, w, 192, r6, r7, r8], Lg))) 4 zh8 e (fun n => Eq.refl _)
      obtain ⟨x4, zh9, h⟩ := bnd h
      have zh9 : f_Y_hourOf x3 = some x4 := zh9
      have ze10 := R_f_Y_hourOf_0 (d + 1) Y T H H2 RA RB ST NS I0 I1 I2 BO FI RG GU PU MA MN MS OT SC r0 r1 r2 r3 w 192 r6 r7 r8 L Lg x3 zh9
      suffices e : Ev (d + 2, 0, 0, 176, 30, [.val (.ref 768), .val (.int p1), .val (.int p2), .val a_unk], [.int x4], (126, 120, L, [Y, T, H, H2, RA, RB, ST, NS, I0, I1, I2, BO, FI, RG, GU, PU, MA, MN, MS, OT, SC], [r0, r1, r2, r3, w, 192, r6, r7, r8], Lg)) o from ev_call (fun v μ => (d + 2, 0, 0, 176, 30, [.val (.ref 768), .val (.int p1), .val (.int p2), .val a_unk], v.toList ++ [], μ)) 1 ze10 e (fun n => Eq.refl _)
      by_cases zc11 : x4 ≠ p2
      · have h := itp h zc11
        suffices e : Ev (d + 2, 0, 0, 176, 36, [.val (.ref 768), .val (.int p1), .val (.int p2), .val a_unk], [], (126, 120, L, [Y, T, H, H2, RA, RB, ST, NS, I0, I1, I2, BO, FI, RG, GU, PU, MA, MN, MS, OT, SC], [r0, r1, r2, r3, w, 192, r6, r7, r8], Lg)) o from ev_t (c := x4 ≠ p2) _ _ 2  zc11 e (fun n => Eq.refl _)
        obtain ⟨zb12, zh13, h⟩ := bnd h
        suffices e : Ev (d + 2, 0, 0, 176, 38, [.val (.ref 768), .val (.int p1), .val (.int p2), .val (.int 0)], [], (126, 120, L, [Y, T, H, H2, RA, RB, ST, NS, I0, I1, I2, BO, FI, RG, GU, PU, MA, MN, MS, OT, SC], [r0, r1, r2, r3, w, 192, r6, r7, r8], Lg)) o from ev_b 2 e (fun n => Eq.refl _)
        refine ev_loop (δ := Unit) (fun a j => (d + 2, 0, 0, 176, 38, [.val (.ref 768), .val (.int p1), .val (.int p2), .val (.int a.1)], [], (126, 120, L, [Y, T, H, H2, RA, RB, ST, NS, I0, I1, I2, a.2, FI, RG, GU, PU, MA, MN, MS, OT, SC], [r0, r1, r2, r3, w, 192, r6, r7, r8], Lg))) (fun b => sumE b (fun b => ∀ s12 : Value, Ev (d + 2, 0, 0, 176, 91, [.val (.ref 768), .val (.int p1), .val (.int p2), .val s12], [], (126, 120, L, [Y, T, H, H2, RA, RB, ST, NS, I0, I1, I2, b, FI, RG, GU, PU, MA, MN, MS, OT, SC], [r0, r1, r2, r3, w, 192, r6, r7, r8], Lg)) o) (fun b => ((0, some (.int b.1), (126, 120, L, [Y, T, H, H2, RA, RB, ST, NS, I0, I1, I2, b.2, FI, RG, GU, PU, MA, MN, MS, OT, SC], [r0, r1, r2, r3, w, 192, r6, r7, r8], Lg)) : AOut) = o)) ?_ a_F (0, BO) zb12 zh13 ?_ ()
        · rintro ⟨v5, BO_6⟩ zr17 zh16 zi14 zx15 ⟨⟩
          have zh16 : f_Board_movesInto_l38 H p1 p2 v5 BO_6 = some zr17 := zh16
          suffices e : Ev (d + 2, 0, 0, 176, 43, [.val (.ref 768), .val (.int p1), .val (.int p2), .val (.int v5)], [.ref 192, .int v5], (126, 120, L, [Y, T, H, H2, RA, RB, ST, NS, I0, I1, I2, BO_6, FI, RG, GU, PU, MA, MN, MS, OT, SC], [r0, r1, r2, r3, w, 192, r6, r7, r8], Lg)) o from ev_b 3 e (fun n => Eq.refl _)
          by_cases zc18 : (H 0 1) ≤ v5
          · have zh16 := itp zh16 zc18
            suffices e : Ev (d + 2, 0, 0, 176, 91, [.val (.ref 768), .val (.int p1), .val (.int p2), .val (.int v5)], [], (126, 120, L, [Y, T, H, H2, RA, RB, ST, NS, I0, I1, I2, BO_6, FI, RG, GU, PU, MA, MN, MS, OT, SC], [r0, r1, r2, r3, w, 192, r6, r7, r8], Lg)) o from ev_t (c := (H 0 1) ≤ v5) _ _ 2  zc18 e (fun n => Eq.refl _)
            exact ev_b 0 (zx15 _ (Option.some.inj zh16).symm (.int v5)) (fun n => Eq.refl _)
          · have zh16 := itn zh16 zc18
            suffices e : Ev (d + 2, 0, 0, 176, 49, [.val (.ref 768), .val (.int p1), .val (.int p2), .val (.int v5)], [], (126, 120, L, [Y, T, H, H2, RA, RB, ST, NS, I0, I1, I2, BO_6, FI, RG, GU, PU, MA, MN, MS, OT, SC], [r0, r1, r2, r3, w, 192, r6, r7, r8], Lg)) o from ev_f (c := (H 0 1) ≤ v5) _ _ 2  zc18 e (fun n => Eq.refl _)
            obtain ⟨x7, zh19, zh16⟩ := bnd zh16
            have zh19 : f_Board_openHours H BO_6 p1 v5 = some x7 := zh19
            have ze20 := R_f_Board_openHours_0 (d + 0) Y T H H2 RA RB ST NS I0 I1 I2 BO_6 FI RG GU PU MA MN MS OT SC r0 r1 r2 r3 w r6 r7 r8 L Lg p1 v5 zh19
            suffices e : Ev (d + 2, 0, 0, 176, 55, [.val (.ref 768), .val (.int p1), .val (.int p2), .val (.int v5)], [.int x7], (126, 120, L, [Y, T, H, H2, RA, RB, ST, NS, I0, I1, I2, BO_6, FI, RG, GU, PU, MA, MN, MS, OT, SC], [r0, r1, r2, r3, w, 192, r6, r7, r8], Lg)) o from ev_call (fun v μ => (d + 2, 0, 0, 176, 55, [.val (.ref 768), .val (.int p1), .val (.int p2), .val (.int v5)], v.toList ++ [], μ)) 4 ze20 e (fun n => Eq.refl _)
            by_cases zc21 : ((a_shr x7 p2) &&& 1) = 0
            · have zh16 := itp zh16 zc21
              suffices e : Ev (d + 2, 0, 0, 176, 85, [.val (.ref 768), .val (.int p1), .val (.int p2), .val (.int v5)], [], (126, 120, L, [Y, T, H, H2, RA, RB, ST, NS, I0, I1, I2, BO_6, FI, RG, GU, PU, MA, MN, MS, OT, SC], [r0, r1, r2, r3, w, 192, r6, r7, r8], Lg)) o from ev_t (c := ((a_shr x7 p2) &&& 1) = 0) _ _ 5  zc21 e (fun n => Eq.refl _)
              exact ev_b 2 (zi14 _ (Option.some.inj zh16).symm ()) (fun n => Eq.refl _)
            · have zh16 := itn zh16 zc21
              suffices e : Ev (d + 2, 0, 0, 176, 62, [.val (.ref 768), .val (.int p1), .val (.int p2), .val (.int v5)], [], (126, 120, L, [Y, T, H, H2, RA, RB, ST, NS, I0, I1, I2, BO_6, FI, RG, GU, PU, MA, MN, MS, OT, SC], [r0, r1, r2, r3, w, 192, r6, r7, r8], Lg)) o from ev_f (c := ((a_shr x7 p2) &&& 1) = 0) _ _ 5  zc21 e (fun n => Eq.refl _)
              obtain ⟨x8, zh22, zh16⟩ := bnd zh16
              have zh22 : f_Y_placeOf p2 v5 = some x8 := zh22
              have ze23 := R_f_Y_placeOf_0 (d + 1) Y T H H2 RA RB ST NS I0 I1 I2 BO_6 FI RG GU PU MA MN MS OT SC r0 r1 r2 r3 w 192 r6 r7 r8 L Lg p2 v5 zh22
              suffices e : Ev (d + 2, 0, 0, 176, 72, [.val (.ref 768), .val (.int p1), .val (.int p2), .val (.int v5)], [.int x8, .int p1, .ref 769], (126, 120, L, [Y, T, H, H2, RA, RB, ST, NS, I0, I1, I2, BO_6, FI, RG, GU, PU, MA, MN, MS, OT, SC], [r0, r1, r2, r3, w, 192, r6, r7, r8], Lg)) o from ev_call (fun v μ => (d + 2, 0, 0, 176, 72, [.val (.ref 768), .val (.int p1), .val (.int p2), .val (.int v5)], v.toList ++ [.int p1, .ref 769], μ)) 6 ze23 e (fun n => Eq.refl _)
              obtain ⟨j9, zh24, zh16⟩ := bnd zh16
              have zh24 : ixx 10 p1 = some j9 := zh24
              suffices e : Ev (d + 2, 0, 0, 176, 73, [.val (.ref 768), .val (.int p1), .val (.int p2), .val (.int v5)], [], (126, 120, L, [Y, T, H, H2, RA, RB, ST, NS, I0, I1, I2, (u2 BO_6 1 j9 x8), FI, RG, GU, PU, MA, MN, MS, OT, SC], [r0, r1, r2, r3, w, 192, r6, r7, r8], Lg)) o from ev_opt (fun j9 => (d + 2, 0, 0, 176, 73, [.val (.ref 768), .val (.int p1), .val (.int p2), .val (.int v5)], [], (126, 120, L, [Y, T, H, H2, RA, RB, ST, NS, I0, I1, I2, (u2 BO_6 1 j9 x8), FI, RG, GU, PU, MA, MN, MS, OT, SC], [r0, r1, r2, r3, w, 192, r6, r7, r8], Lg))) 1 zh24 e (fun n => Eq.refl _)
              obtain ⟨x10, zh25, zh16⟩ := bnd zh16
              have zh25 : rdx ((u2 BO_6 1 j9 x8) 2) 10 p1 = some x10 := zh25
              suffices e : Ev (d + 2, 0, 0, 176, 80, [.val (.ref 768), .val (.int p1), .val (.int p2), .val (.int v5)], [.int x10, .int p1, .ref 770], (126, 120, L, [Y, T, H, H2, RA, RB, ST, NS, I0, I1, I2, (u2 BO_6 1 j9 x8), FI, RG, GU, PU, MA, MN, MS, OT, SC], [r0, r1, r2, r3, w, 192, r6, r7, r8], Lg)) o from ev_opt (fun x10 => (d + 2, 0, 0, 176, 80, [.val (.ref 768), .val (.int p1), .val (.int p2), .val (.int v5)], [.int x10, .int p1, .ref 770], (126, 120, L, [Y, T, H, H2, RA, RB, ST, NS, I0, I1, I2, (u2 BO_6 1 j9 x8), FI, RG, GU, PU, MA, MN, MS, OT, SC], [r0, r1, r2, r3, w, 192, r6, r7, r8], Lg))) 5 zh25 e (fun n => Eq.refl _)
              obtain ⟨j11, zh26, zh16⟩ := bnd zh16
              have zh26 : ixx 10 p1 = some j11 := zh26
              suffices e : Ev (d + 2, 0, 0, 176, 83, [.val (.ref 768), .val (.int p1), .val (.int p2), .val (.int v5)], [], (126, 120, L, [Y, T, H, H2, RA, RB, ST, NS, I0, I1, I2, (u2 (u2 BO_6 1 j9 x8) 2 j11 (x10 + 1)), FI, RG, GU, PU, MA, MN, MS, OT, SC], [r0, r1, r2, r3, w, 192, r6, r7, r8], Lg)) o from ev_opt (fun j11 => (d + 2, 0, 0, 176, 83, [.val (.ref 768), .val (.int p1), .val (.int p2), .val (.int v5)], [], (126, 120, L, [Y, T, H, H2, RA, RB, ST, NS, I0, I1, I2, (u2 (u2 BO_6 1 j9 x8) 2 j11 (x10 + 1)), FI, RG, GU, PU, MA, MN, MS, OT, SC], [r0, r1, r2, r3, w, 192, r6, r7, r8], Lg))) 3 zh26 e (fun n => Eq.refl _)
              exact ev_rete 2 (zx15 _ (Option.some.inj zh16).symm) (fun n => Eq.refl _)
        · rcases zb12 with BO_13 | zr17
          · intro s12
            have ze27 := Option.some.inj h
            subst ze27
            exact ev_rete 2 ho (fun n => Eq.refl _)
          · have zh28 : some zr17 = some r := h
            exact (congrArg (fun q => ((0, some (.int q.1), (126, 120, L, [Y, T, H, H2, RA, RB, ST, NS, I0, I1, I2, q.2, FI, RG, GU, PU, MA, MN, MS, OT, SC], [r0, r1, r2, r3, w, 192, r6, r7, r8], Lg)) : AOut)) (Option.some.inj zh28)).trans ho
      · have h := itn h zc11
        suffices e : Ev (d + 2, 0, 0, 176, 34, [.val (.ref 768), .val (.int p1), .val (.int p2), .val a_unk], [], (126, 120, L, [Y, T, H, H2, RA, RB, ST, NS, I0, I1, I2, BO, FI, RG, GU, PU, MA, MN, MS, OT, SC], [r0, r1, r2, r3, w, 192, r6, r7, r8], Lg)) o from ev_f (c := x4 ≠ p2) _ _ 2  zc11 e (fun n => Eq.refl _)
        have ze30 := Option.some.inj h
        subst ze30
        exact ev_rete 2 ho (fun n => Eq.refl _)
