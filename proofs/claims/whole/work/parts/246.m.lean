/-! printed by program (gen/emitm.py): the reference's methods run as their functions say -/
set_option maxRecDepth 1000000 in
set_option maxHeartbeats 4000000 in
theorem R_f_Y_done_2 (d : Nat) (Y T H2 H RU RV ST NS I0 I1 I2 BO FI RG GU PU MA MN MS OT SC : Nat → Nat → Int32) (w r5 : Nat) (L : Nat) (Lg : Int64) (p1 : Int32) (p2 : Int32) {r : Nat × Int32 × (Nat → Nat → Int32) × (Nat → Nat → Int32) × (Nat → Nat → Int32) × Nat} (h : f_Y_done Y H NS BO 256 r5 p1 p2 = some r) : Ev (d + 4, 1, 8, 327, 0, [.val (.ref 64), .val (.int p1), .val (.int p2), .val a_unk], [], (126, 120, L, [Y, T, H2, H, RU, RV, ST, NS, I0, I1, I2, BO, FI, RG, GU, PU, MA, MN, MS, OT, SC], [256, 192, 320, 384, w, r5, 576, 640, 704], Lg)) ((r.1, a_ov r.1 (.int r.2.1), (126, 120, L, [r.2.2.1, T, H2, H, RU, RV, ST, r.2.2.2.1, I0, I1, I2, r.2.2.2.2.1, FI, RG, GU, PU, MA, MN, MS, OT, SC], [256, 192, 320, 384, w, r.2.2.2.2.2, 576, 640, 704], Lg)) : AOut) := by
  suffices key : ∀ o : AOut, ((r.1, a_ov r.1 (.int r.2.1), (126, 120, L, [r.2.2.1, T, H2, H, RU, RV, ST, r.2.2.2.1, I0, I1, I2, r.2.2.2.2.1, FI, RG, GU, PU, MA, MN, MS, OT, SC], [256, 192, 320, 384, w, r.2.2.2.2.2, 576, 640, 704], Lg)) : AOut) = o → Ev (d + 4, 1, 8, 327, 0, [.val (.ref 64), .val (.int p1), .val (.int p2), .val a_unk], [], (126, 120, L, [Y, T, H2, H, RU, RV, ST, NS, I0, I1, I2, BO, FI, RG, GU, PU, MA, MN, MS, OT, SC], [256, 192, 320, 384, w, r5, 576, 640, 704], Lg)) o from key _ rfl
  intro o ho
  obtain ⟨zt1, zh2, h⟩ := bnd h
  have zj3 : ∀ (v1 : Int32), v1 = zt1 → Ev (d + 4, 1, 8, 327, 17, [.val (.ref 64), .val (.int p1), .val (.int p2), .val a_unk], [.int v1, .ref 64], (126, 120, L, [Y, T, H2, H, RU, RV, ST, NS, I0, I1, I2, BO, FI, RG, GU, PU, MA, MN, MS, OT, SC], [256, 192, 320, 384, w, r5, 576, 640, 704], Lg)) o := by
    intro v1 ze4
    subst ze4
    obtain ⟨⟨q2, Y_3⟩, zh5, h⟩ := bnd h
    have zh5 : f_Y_refuseUnless Y v1 = some (q2, Y_3) := zh5
    have ze6 := R_f_Y_refuseUnless_2 (d + 3) Y T H2 H RU RV ST NS I0 I1 I2 BO FI RG GU PU MA MN MS OT SC w r5 L Lg v1 zh5
    cases q2 with
    | zero =>
      have h := itp h rfl
      suffices e : Ev (d + 4, 0, 0, 327, 20, [.val (.ref 64), .val (.int p1), .val (.int p2), .val a_unk], [], (126, 120, L, [Y_3, T, H2, H, RU, RV, ST, NS, I0, I1, I2, BO, FI, RG, GU, PU, MA, MN, MS, OT, SC], [256, 192, 320, 384, w, r5, 576, 640, 704], Lg)) o from ev_call (fun v μ => (d + 4, 0, 0, 327, 20, [.val (.ref 64), .val (.int p1), .val (.int p2), .val a_unk], v.toList ++ [], μ)) 1 ze6 e (fun n => Eq.refl _)
      obtain ⟨x4, zh7, h⟩ := bnd h
      have zh7 : f_State_isFull NS = some x4 := zh7
      have ze8 := R_f_State_isFull_0 (d + 3) Y_3 T H2 H RU RV ST NS I0 I1 I2 BO FI RG GU PU MA MN MS OT SC 256 192 320 384 w r5 576 640 704 L Lg zh7
      suffices e : Ev (d + 4, 0, 0, 327, 27, [.val (.ref 64), .val (.int p1), .val (.int p2), .val a_unk], [.int x4], (126, 120, L, [Y_3, T, H2, H, RU, RV, ST, NS, I0, I1, I2, BO, FI, RG, GU, PU, MA, MN, MS, OT, SC], [256, 192, 320, 384, w, r5, 576, 640, 704], Lg)) o from ev_call (fun v μ => (d + 4, 0, 0, 327, 27, [.val (.ref 64), .val (.int p1), .val (.int p2), .val a_unk], v.toList ++ [], μ)) 3 ze8 e (fun n => Eq.refl _)
      by_cases zc9 : x4 = 0
      · have h := itp h zc9
        suffices e : Ev (d + 4, 0, 0, 327, 33, [.val (.ref 64), .val (.int p1), .val (.int p2), .val a_unk], [], (126, 120, L, [Y_3, T, H2, H, RU, RV, ST, NS, I0, I1, I2, BO, FI, RG, GU, PU, MA, MN, MS, OT, SC], [256, 192, 320, 384, w, r5, 576, 640, 704], Lg)) o from ev_t (c := x4 = 0) _ _ 1  zc9 e (fun n => Eq.refl _)
        obtain ⟨BO_6, zh10, h⟩ := bnd h
        have zh10 : f_Y_lookNow H NS BO = some BO_6 := zh10
        have ze11 := R_f_Y_lookNow_2 (d + 1) Y_3 T H2 H RU RV ST NS I0 I1 I2 BO FI RG GU PU MA MN MS OT SC w r5 L Lg zh10
        suffices e : Ev (d + 4, 0, 0, 327, 37, [.val (.ref 64), .val (.int p1), .val (.int p2), .val a_unk], [.ref 768], (126, 120, L, [Y_3, T, H2, H, RU, RV, ST, NS, I0, I1, I2, BO_6, FI, RG, GU, PU, MA, MN, MS, OT, SC], [256, 192, 320, 384, w, 256, 576, 640, 704], Lg)) o from ev_call (fun v μ => (d + 4, 0, 0, 327, 37, [.val (.ref 64), .val (.int p1), .val (.int p2), .val a_unk], v.toList ++ [], μ)) 2 ze11 e (fun n => Eq.refl _)
        obtain ⟨BO_7, zh12, h⟩ := bnd h
        have zh12 : f_Board_runWeek H BO_6 p1 p2 = some BO_7 := zh12
        have ze13 := R_f_Board_runWeek_1 (d + 0) Y_3 T H2 H RU RV ST NS I0 I1 I2 BO_6 FI RG GU PU MA MN MS OT SC 256 192 320 384 w 576 640 704 L Lg p1 p2 zh12
        suffices e : Ev (d + 4, 0, 0, 327, 44, [.val (.ref 64), .val (.int p1), .val (.int p2), .val (.ref 768)], [], (126, 120, L, [Y_3, T, H2, H, RU, RV, ST, NS, I0, I1, I2, BO_7, FI, RG, GU, PU, MA, MN, MS, OT, SC], [256, 192, 320, 384, w, 256, 576, 640, 704], Lg)) o from ev_call (fun v μ => (d + 4, 0, 0, 327, 44, [.val (.ref 64), .val (.int p1), .val (.int p2), .val (.ref 768)], v.toList ++ [], μ)) 5 ze13 e (fun n => Eq.refl _)
        obtain ⟨NS_8, zh14, h⟩ := bnd h
        have zh14 : f_State_act NS BO_7 = some NS_8 := zh14
        have ze15 := R_f_State_act_0 (d + 2) Y_3 T H2 H RU RV ST NS I0 I1 I2 BO_7 FI RG GU PU MA MN MS OT SC 256 192 320 384 w 256 576 640 704 L Lg zh14
        suffices e : Ev (d + 4, 0, 0, 327, 52, [.val (.ref 64), .val (.int p1), .val (.int p2), .val (.ref 768)], [], (126, 120, L, [Y_3, T, H2, H, RU, RV, ST, NS_8, I0, I1, I2, BO_7, FI, RG, GU, PU, MA, MN, MS, OT, SC], [256, 192, 320, 384, w, 256, 576, 640, 704], Lg)) o from ev_call (fun v μ => (d + 4, 0, 0, 327, 52, [.val (.ref 64), .val (.int p1), .val (.int p2), .val (.ref 768)], v.toList ++ [], μ)) 4 ze15 e (fun n => Eq.refl _)
        have ze16 := Option.some.inj h
        subst ze16
        exact ev_rete 3 ho (fun n => Eq.refl _)
      · have h := itn h zc9
        suffices e : Ev (d + 4, 0, 0, 327, 30, [.val (.ref 64), .val (.int p1), .val (.int p2), .val a_unk], [], (126, 120, L, [Y_3, T, H2, H, RU, RV, ST, NS, I0, I1, I2, BO, FI, RG, GU, PU, MA, MN, MS, OT, SC], [256, 192, 320, 384, w, r5, 576, 640, 704], Lg)) o from ev_f (c := x4 = 0) _ _ 1  zc9 e (fun n => Eq.refl _)
        have ze17 := Option.some.inj h
        subst ze17
        exact ev_rete 2 ho (fun n => Eq.refl _)
    | succ q2 =>
      have h := itn h (Nat.succ_ne_zero q2)
      have ze18 := Option.some.inj h
      subst ze18
      subst ho
      exact ev_thr (fun v μ => (d + 4, 0, 0, 327, 20, [.val (.ref 64), .val (.int p1), .val (.int p2), .val a_unk], v.toList ++ [], μ)) 1 ze6 (fun n => Eq.refl _) (fun n => rfl)
  obtain ⟨zt19, zh20, zh2⟩ := bnd zh2
  have zj21 : zt19 = .inl () → Ev (d + 4, 1, 8, 327, 16, [.val (.ref 64), .val (.int p1), .val (.int p2), .val a_unk], [.ref 64], (126, 120, L, [Y, T, H2, H, RU, RV, ST, NS, I0, I1, I2, BO, FI, RG, GU, PU, MA, MN, MS, OT, SC], [256, 192, 320, 384, w, r5, 576, 640, 704], Lg)) o := by
    intro ze22
    have zh2 := sum_l zh2 ze22
    exact ev_b 1 (zj3 0 (Option.some.inj zh2) ) (fun n => Eq.refl _)
  by_cases zc23 : p2 < 1
  · have zh20 := itp zh20 zc23
    suffices e : Ev (d + 4, 1, 8, 327, 16, [.val (.ref 64), .val (.int p1), .val (.int p2), .val a_unk], [.ref 64], (126, 120, L, [Y, T, H2, H, RU, RV, ST, NS, I0, I1, I2, BO, FI, RG, GU, PU, MA, MN, MS, OT, SC], [256, 192, 320, 384, w, r5, 576, 640, 704], Lg)) o from ev_t (c := p2 < 1) _ _ 4  zc23 e (fun n => Eq.refl _)
    exact ev_b 0 (zj21  (Option.some.inj zh20).symm ) (fun n => Eq.refl _)
  · have zh20 := itn zh20 zc23
    suffices e : Ev (d + 4, 1, 8, 327, 6, [.val (.ref 64), .val (.int p1), .val (.int p2), .val a_unk], [.ref 64], (126, 120, L, [Y, T, H2, H, RU, RV, ST, NS, I0, I1, I2, BO, FI, RG, GU, PU, MA, MN, MS, OT, SC], [256, 192, 320, 384, w, r5, 576, 640, 704], Lg)) o from ev_f (c := p2 < 1) _ _ 4  zc23 e (fun n => Eq.refl _)
    by_cases zc24 : 60 < p2
    · have zh20 := itp zh20 zc24
      suffices e : Ev (d + 4, 1, 8, 327, 16, [.val (.ref 64), .val (.int p1), .val (.int p2), .val a_unk], [.ref 64], (126, 120, L, [Y, T, H2, H, RU, RV, ST, NS, I0, I1, I2, BO, FI, RG, GU, PU, MA, MN, MS, OT, SC], [256, 192, 320, 384, w, r5, 576, 640, 704], Lg)) o from ev_t (c := 60 < p2) _ _ 3  zc24 e (fun n => Eq.refl _)
      exact ev_b 0 (zj21  (Option.some.inj zh20).symm ) (fun n => Eq.refl _)
    · have zh20 := itn zh20 zc24
      suffices e : Ev (d + 4, 1, 8, 327, 12, [.val (.ref 64), .val (.int p1), .val (.int p2), .val a_unk], [.ref 64], (126, 120, L, [Y, T, H2, H, RU, RV, ST, NS, I0, I1, I2, BO, FI, RG, GU, PU, MA, MN, MS, OT, SC], [256, 192, 320, 384, w, r5, 576, 640, 704], Lg)) o from ev_f (c := 60 < p2) _ _ 3  zc24 e (fun n => Eq.refl _)
      have zh25 := sum_r zh2 (Option.some.inj zh20).symm
      exact ev_b 2 (zj3 1 (Option.some.inj zh25) ) (fun n => Eq.refl _)
set_option maxRecDepth 1000000 in
set_option maxHeartbeats 4000000 in
theorem R_f_Y_done_3 (d : Nat) (Y T H2 H RV RU ST NS I0 I1 I2 BO FI RG GU PU MA MN MS OT SC : Nat → Nat → Int32) (w r5 : Nat) (L : Nat) (Lg : Int64) (p1 : Int32) (p2 : Int32) {r : Nat × Int32 × (Nat → Nat → Int32) × (Nat → Nat → Int32) × (Nat → Nat → Int32) × Nat} (h : f_Y_done Y H NS BO 256 r5 p1 p2 = some r) : Ev (d + 4, 1, 8, 327, 0, [.val (.ref 64), .val (.int p1), .val (.int p2), .val a_unk], [], (126, 120, L, [Y, T, H2, H, RV, RU, ST, NS, I0, I1, I2, BO, FI, RG, GU, PU, MA, MN, MS, OT, SC], [256, 192, 384, 320, w, r5, 576, 640, 704], Lg)) ((r.1, a_ov r.1 (.int r.2.1), (126, 120, L, [r.2.2.1, T, H2, H, RV, RU, ST, r.2.2.2.1, I0, I1, I2, r.2.2.2.2.1, FI, RG, GU, PU, MA, MN, MS, OT, SC], [256, 192, 384, 320, w, r.2.2.2.2.2, 576, 640, 704], Lg)) : AOut) := by
  suffices key : ∀ o : AOut, ((r.1, a_ov r.1 (.int r.2.1), (126, 120, L, [r.2.2.1, T, H2, H, RV, RU, ST, r.2.2.2.1, I0, I1, I2, r.2.2.2.2.1, FI, RG, GU, PU, MA, MN, MS, OT, SC], [256, 192, 384, 320, w, r.2.2.2.2.2, 576, 640, 704], Lg)) : AOut) = o → Ev (d + 4, 1, 8, 327, 0, [.val (.ref 64), .val (.int p1), .val (.int p2), .val a_unk], [], (126, 120, L, [Y, T, H2, H, RV, RU, ST, NS, I0, I1, I2, BO, FI, RG, GU, PU, MA, MN, MS, OT, SC], [256, 192, 384, 320, w, r5, 576, 640, 704], Lg)) o from key _ rfl
  intro o ho
  obtain ⟨zt1, zh2, h⟩ := bnd h
  have zj3 : ∀ (v1 : Int32), v1 = zt1 → Ev (d + 4, 1, 8, 327, 17, [.val (.ref 64), .val (.int p1), .val (.int p2), .val a_unk], [.int v1, .ref 64], (126, 120, L, [Y, T, H2, H, RV, RU, ST, NS, I0, I1, I2, BO, FI, RG, GU, PU, MA, MN, MS, OT, SC], [256, 192, 384, 320, w, r5, 576, 640, 704], Lg)) o := by
    intro v1 ze4
    subst ze4
    obtain ⟨⟨q2, Y_3⟩, zh5, h⟩ := bnd h
    have zh5 : f_Y_refuseUnless Y v1 = some (q2, Y_3) := zh5
    have ze6 := R_f_Y_refuseUnless_3 (d + 3) Y T H2 H RV RU ST NS I0 I1 I2 BO FI RG GU PU MA MN MS OT SC w r5 L Lg v1 zh5
    cases q2 with
    | zero =>
      have h := itp h rfl
      suffices e : Ev (d + 4, 0, 0, 327, 20, [.val (.ref 64), .val (.int p1), .val (.int p2), .val a_unk], [], (126, 120, L, [Y_3, T, H2, H, RV, RU, ST, NS, I0, I1, I2, BO, FI, RG, GU, PU, MA, MN, MS, OT, SC], [256, 192, 384, 320, w, r5, 576, 640, 704], Lg)) o from ev_call (fun v μ => (d + 4, 0, 0, 327, 20, [.val (.ref 64), .val (.int p1), .val (.int p2), .val a_unk], v.toList ++ [], μ)) 1 ze6 e (fun n => Eq.refl _)
      obtain ⟨x4, zh7, h⟩ := bnd h
      have zh7 : f_State_isFull NS = some x4 := zh7
      have ze8 := R_f_State_isFull_0 (d + 3) Y_3 T H2 H RV RU ST NS I0 I1 I2 BO FI RG GU PU MA MN MS OT SC 256 192 384 320 w r5 576 640 704 L Lg zh7
      suffices e : Ev (d + 4, 0, 0, 327, 27, [.val (.ref 64), .val (.int p1), .val (.int p2), .val a_unk], [.int x4], (126, 120, L, [Y_3, T, H2, H, RV, RU, ST, NS, I0, I1, I2, BO, FI, RG, GU, PU, MA, MN, MS, OT, SC], [256, 192, 384, 320, w, r5, 576, 640, 704], Lg)) o from ev_call (fun v μ => (d + 4, 0, 0, 327, 27, [.val (.ref 64), .val (.int p1), .val (.int p2), .val a_unk], v.toList ++ [], μ)) 3 ze8 e (fun n => Eq.refl _)
      by_cases zc9 : x4 = 0
      · have h := itp h zc9
        suffices e : Ev (d + 4, 0, 0, 327, 33, [.val (.ref 64), .val (.int p1), .val (.int p2), .val a_unk], [], (126, 120, L, [Y_3, T, H2, H, RV, RU, ST, NS, I0, I1, I2, BO, FI, RG, GU, PU, MA, MN, MS, OT, SC], [256, 192, 384, 320, w, r5, 576, 640, 704], Lg)) o from ev_t (c := x4 = 0) _ _ 1  zc9 e (fun n => Eq.refl _)
        obtain ⟨BO_6, zh10, h⟩ := bnd h
        have zh10 : f_Y_lookNow H NS BO = some BO_6 := zh10
        have ze11 := R_f_Y_lookNow_3 (d + 1) Y_3 T H2 H RV RU ST NS I0 I1 I2 BO FI RG GU PU MA MN MS OT SC w r5 L Lg zh10
        suffices e : Ev (d + 4, 0, 0, 327, 37, [.val (.ref 64), .val (.int p1), .val (.int p2), .val a_unk], [.ref 768], (126, 120, L, [Y_3, T, H2, H, RV, RU, ST, NS, I0, I1, I2, BO_6, FI, RG, GU, PU, MA, MN, MS, OT, SC], [256, 192, 384, 320, w, 256, 576, 640, 704], Lg)) o from ev_call (fun v μ => (d + 4, 0, 0, 327, 37, [.val (.ref 64), .val (.int p1), .val (.int p2), .val a_unk], v.toList ++ [], μ)) 2 ze11 e (fun n => Eq.refl _)
        obtain ⟨BO_7, zh12, h⟩ := bnd h
        have zh12 : f_Board_runWeek H BO_6 p1 p2 = some BO_7 := zh12
        have ze13 := R_f_Board_runWeek_1 (d + 0) Y_3 T H2 H RV RU ST NS I0 I1 I2 BO_6 FI RG GU PU MA MN MS OT SC 256 192 384 320 w 576 640 704 L Lg p1 p2 zh12
        suffices e : Ev (d + 4, 0, 0, 327, 44, [.val (.ref 64), .val (.int p1), .val (.int p2), .val (.ref 768)], [], (126, 120, L, [Y_3, T, H2, H, RV, RU, ST, NS, I0, I1, I2, BO_7, FI, RG, GU, PU, MA, MN, MS, OT, SC], [256, 192, 384, 320, w, 256, 576, 640, 704], Lg)) o from ev_call (fun v μ => (d + 4, 0, 0, 327, 44, [.val (.ref 64), .val (.int p1), .val (.int p2), .val (.ref 768)], v.toList ++ [], μ)) 5 ze13 e (fun n => Eq.refl _)
        obtain ⟨NS_8, zh14, h⟩ := bnd h
        have zh14 : f_State_act NS BO_7 = some NS_8 := zh14
        have ze15 := R_f_State_act_0 (d + 2) Y_3 T H2 H RV RU ST NS I0 I1 I2 BO_7 FI RG GU PU MA MN MS OT SC 256 192 384 320 w 256 576 640 704 L Lg zh14
        suffices e : Ev (d + 4, 0, 0, 327, 52, [.val (.ref 64), .val (.int p1), .val (.int p2), .val (.ref 768)], [], (126, 120, L, [Y_3, T, H2, H, RV, RU, ST, NS_8, I0, I1, I2, BO_7, FI, RG, GU, PU, MA, MN, MS, OT, SC], [256, 192, 384, 320, w, 256, 576, 640, 704], Lg)) o from ev_call (fun v μ => (d + 4, 0, 0, 327, 52, [.val (.ref 64), .val (.int p1), .val (.int p2), .val (.ref 768)], v.toList ++ [], μ)) 4 ze15 e (fun n => Eq.refl _)
        have ze16 := Option.some.inj h
        subst ze16
        exact ev_rete 3 ho (fun n => Eq.refl _)
      · have h := itn h zc9
        suffices e : Ev (d + 4, 0, 0, 327, 30, [.val (.ref 64), .val (.int p1), .val (.int p2), .val a_unk], [], (126, 120, L, [Y_3, T, H2, H, RV, RU, ST, NS, I0, I1, I2, BO, FI, RG, GU, PU, MA, MN, MS, OT, SC], [256, 192, 384, 320, w, r5, 576, 640, 704], Lg)) o from ev_f (c := x4 = 0) _ _ 1  zc9 e (fun n => Eq.refl _)
        have ze17 := Option.some.inj h
        subst ze17
        exact ev_rete 2 ho (fun n => Eq.refl _)
    | succ q2 =>
      have h := itn h (Nat.succ_ne_zero q2)
      have ze18 := Option.some.inj h
      subst ze18
      subst ho
      exact ev_thr (fun v μ => (d + 4, 0, 0, 327, 20, [.val (.ref 64), .val (.int p1), .val (.int p2), .val a_unk], v.toList ++ [], μ)) 1 ze6 (fun n => Eq.refl _) (fun n => rfl)
  obtain ⟨zt19, zh20, zh2⟩ := bnd zh2
  have zj21 : zt19 = .inl () → Ev (d + 4, 1, 8, 327, 16, [.val (.ref 64), .val (.int p1), .val (.int p2), .val a_unk], [.ref 64], (126, 120, L, [Y, T, H2, H, RV, RU, ST, NS, I0, I1, I2, BO, FI, RG, GU, PU, MA, MN, MS, OT, SC], [256, 192, 384, 320, w, r5, 576, 640, 704], Lg)) o := by
    intro ze22
    have zh2 := sum_l zh2 ze22
    exact ev_b 1 (zj3 0 (Option.some.inj zh2) ) (fun n => Eq.refl _)
  by_cases zc23 : p2 < 1
  · have zh20 := itp zh20 zc23
    suffices e : Ev (d + 4, 1, 8, 327, 16, [.val (.ref 64), .val (.int p1), .val (.int p2), .val a_unk], [.ref 64], (126, 120, L, [Y, T, H2, H, RV, RU, ST, NS, I0, I1, I2, BO, FI, RG, GU, PU, MA, MN, MS, OT, SC], [256, 192, 384, 320, w, r5, 576, 640, 704], Lg)) o from ev_t (c := p2 < 1) _ _ 4  zc23 e (fun n => Eq.refl _)
    exact ev_b 0 (zj21  (Option.some.inj zh20).symm ) (fun n => Eq.refl _)
  · have zh20 := itn zh20 zc23
    suffices e : Ev (d + 4, 1, 8, 327, 6, [.val (.ref 64), .val (.int p1), .val (.int p2), .val a_unk], [.ref 64], (126, 120, L, [Y, T, H2, H, RV, RU, ST, NS, I0, I1, I2, BO, FI, RG, GU, PU, MA, MN, MS, OT, SC], [256, 192, 384, 320, w, r5, 576, 640, 704], Lg)) o from ev_f (c := p2 < 1) _ _ 4  zc23 e (fun n => Eq.refl _)
    by_cases zc24 : 60 < p2
    · have zh20 := itp zh20 zc24
      suffices e : Ev (d + 4, 1, 8, 327, 16, [.val (.ref 64), .val (.int p1), .val (.int p2), .val a_unk], [.ref 64], (126, 120, L, [Y, T, H2, H, RV, RU, ST, NS, I0, I1, I2, BO, FI, RG, GU, PU, MA, MN, MS, OT, SC], [256, 192, 384, 320, w, r5, 576, 640, 704], Lg)) o from ev_t (c := 60 < p2) _ _ 3  zc24 e (fun n => Eq.refl _)
      exact ev_b 0 (zj21  (Option.some.inj zh20).symm ) (fun n => Eq.refl _)
    · have zh20 := itn zh20 zc24
      suffices e : Ev (d + 4, 1, 8, 327, 12, [.val (.ref 64), .val (.int p1), .val (.int p2), .val a_unk], [.ref 64], (126, 120, L, [Y, T, H2, H, RV, RU, ST, NS, I0, I1, I2, BO, FI, RG, GU, PU, MA, MN, MS, OT, SC], [256, 192, 384, 320, w, r5, 576, 640, 704], Lg)) o from ev_f (c := 60 < p2) _ _ 3  zc24 e (fun n => Eq.refl _)
      have zh25 := sum_r zh2 (Option.some.inj zh20).symm
      exact ev_b 2 (zj3 1 (Option.some.inj zh25) ) (fun n => Eq.refl _)
set_option maxRecDepth 1000000 in
set_option maxHeartbeats 4000000 in
theorem R_f_Y_span_0 (d : Nat) (Y T H H2 RU RV ST NS I0 I1 I2 BO FI RG GU PU MA MN MS OT SC : Nat → Nat → Int32) (w r5 : Nat) (L : Nat) (Lg : Int64) (p1 : Int32) (p2 : Int32) (p3 : Int32) (p4 : Int32) {r : Nat × Int32 × (Nat → Nat → Int32) × (Nat → Nat → Int32) × Nat} (h : f_Y_span Y H NS BO 192 r5 p1 p2 p3 p4 = some r) : Ev (d + 4, 1, 8, 328, 0, [.val (.ref 64), .val (.int p1), .val (.int p2), .val (.int p3), .val (.int p4), .val a_unk, .val a_unk, .val a_unk, .val a_unk, .val a_unk], [], (126, 120, L, [Y, T, H, H2, RU, RV, ST, NS, I0, I1, I2, BO, FI, RG, GU, PU, MA, MN, MS, OT, SC], [192, 256, 320, 384, w, r5, 576, 640, 704], Lg)) ((r.1, a_ov r.1 (.int r.2.1), (126, 120, L, [r.2.2.1, T, H, H2, RU, RV, ST, NS, I0, I1, I2, r.2.2.2.1, FI, RG, GU, PU, MA, MN, MS, OT, SC], [192, 256, 320, 384, w, r.2.2.2.2, 576, 640, 704], Lg)) : AOut) := by
  suffices key : ∀ o : AOut, ((r.1, a_ov r.1 (.int r.2.1), (126, 120, L, [r.2.2.1, T, H, H2, RU, RV, ST, NS, I0, I1, I2, r.2.2.2.1, FI, RG, GU, PU, MA, MN, MS, OT, SC], [192, 256, 320, 384, w, r.2.2.2.2, 576, 640, 704], Lg)) : AOut) = o → Ev (d + 4, 1, 8, 328, 0, [.val (.ref 64), .val (.int p1), .val (.int p2), .val (.int p3), .val (.int p4), .val a_unk, .val a_unk, .val a_unk, .val a_unk, .val a_unk], [], (126, 120, L, [Y, T, H, H2, RU, RV, ST, NS, I0, I1, I2, BO, FI, RG, GU, PU, MA, MN, MS, OT, SC], [192, 256, 320, 384, w, r5, 576, 640, 704], Lg)) o from key _ rfl
  intro o ho
  obtain ⟨zt1, zh2, h⟩ := bnd h
  have zj3 : ∀ (v1 : Int32), v1 = zt1 → Ev (d + 4, 1, 8, 328, 39, [.val (.ref 64), .val (.int p1), .val (.int p2), .val (.int p3), .val (.int p4), .val a_unk, .val a_unk, .val a_unk, .val a_unk, .val a_unk], [.int v1, .ref 64], (126, 120, L, [Y, T, H, H2, RU, RV, ST, NS, I0, I1, I2, BO, FI, RG, GU, PU, MA, MN, MS, OT, SC], [192, 256, 320, 384, w, r5, 576, 640, 704], Lg)) o := by
    intro v1 ze4
    subst ze4
    obtain ⟨⟨q2, Y_3⟩, zh5, h⟩ := bnd h
    have zh5 : f_Y_refuseUnless Y v1 = some (q2, Y_3) := zh5
    have ze6 := R_f_Y_refuseUnless_0 (d + 3) Y T H H2 RU RV ST NS I0 I1 I2 BO FI RG GU PU MA MN MS OT SC w r5 L Lg v1 zh5
    cases q2 with
    | zero =>
      have h := itp h rfl
      suffices e : Ev (d + 4, 0, 0, 328, 42, [.val (.ref 64), .val (.int p1), .val (.int p2), .val (.int p3), .val (.int p4), .val a_unk, .val a_unk, .val a_unk, .val a_unk, .val a_unk], [], (126, 120, L, [Y_3, T, H, H2, RU, RV, ST, NS, I0, I1, I2, BO, FI, RG, GU, PU, MA, MN, MS, OT, SC], [192, 256, 320, 384, w, r5, 576, 640, 704], Lg)) o from ev_call (fun v μ => (d + 4, 0, 0, 328, 42, [.val (.ref 64), .val (.int p1), .val (.int p2), .val (.int p3), .val (.int p4), .val a_unk, .val a_unk, .val a_unk, .val a_unk, .val a_unk], v.toList ++ [], μ)) 1 ze6 e (fun n => Eq.refl _)
      obtain ⟨zb7, zh8, h⟩ := bnd h
      suffices e : Ev (d + 4, 0, 0, 328, 55, [.val (.ref 64), .val (.int p1), .val (.int p2), .val (.int p3), .val (.int p4), .val (.int 60), .val (.int 0), .val (.int 0), .val (.int 0), .val a_unk], [], (126, 120, L, [Y_3, T, H, H2, RU, RV, ST, NS, I0, I1, I2, BO, FI, RG, GU, PU, MA, MN, MS, OT, SC], [192, 256, 320, 384, w, r5, 576, 640, 704], Lg)) o from ev_b 8 e (fun n => Eq.refl _)
      refine ev_loop (δ := Value) (fun a j => (d + 4, 0, 0, 328, 55, [.val (.ref 64), .val (.int p1), .val (.int p2), .val (.int p3), .val (.int p4), .val (.int a.1), .val (.int a.2.1), .val (.int a.2.2.1), .val (.int a.2.2.2.1), .val j], [], (126, 120, L, [Y_3, T, H, H2, RU, RV, ST, NS, I0, I1, I2, a.2.2.2.2.1, FI, RG, GU, PU, MA, MN, MS, OT, SC], [192, 256, 320, 384, w, a.2.2.2.2.2, 576, 640, 704], Lg))) (fun b => ∀ s19 : Value, ∀ s20 : Value, Ev (d + 4, 0, 0, 328, 117, [.val (.ref 64), .val (.int p1), .val (.int p2), .val (.int p3), .val (.int p4), .val (.int b.1), .val (.int b.2.1), .val (.int b.2.2.1), .val s19, .val s20], [], (126, 120, L, [Y_3, T, H, H2, RU, RV, ST, NS, I0, I1, I2, b.2.2.2.1, FI, RG, GU, PU, MA, MN, MS, OT, SC], [192, 256, 320, 384, w, b.2.2.2.2, 576, 640, 704], Lg)) o) ?_ a_F (60, 0, 0, 0, BO, r5) zb7 zh8 ?_ a_unk
      · rintro ⟨v4, v5, v6, v7, BO_9, w10⟩ zr12 zh11 zi9 zx10 s8
        have zh11 : f_Y_span_l55 H NS p2 p1 p3 192 v4 v5 v6 v7 BO_9 w10 = some zr12 := zh11
        by_cases zc13 : p2 ≤ v7
        · have zh11 := itp zh11 zc13
          suffices e : Ev (d + 4, 0, 0, 328, 117, [.val (.ref 64), .val (.int p1), .val (.int p2), .val (.int p3), .val (.int p4), .val (.int v4), .val (.int v5), .val (.int v6), .val (.int v7), .val s8], [], (126, 120, L, [Y_3, T, H, H2, RU, RV, ST, NS, I0, I1, I2, BO_9, FI, RG, GU, PU, MA, MN, MS, OT, SC], [192, 256, 320, 384, w, w10, 576, 640, 704], Lg)) o from ev_t (c := p2 ≤ v7) _ _ 3  zc13 e (fun n => Eq.refl _)
          exact ev_b 0 (zx10 _ (Option.some.inj zh11).symm (.int v7) s8) (fun n => Eq.refl _)
        · have zh11 := itn zh11 zc13
          suffices e : Ev (d + 4, 0, 0, 328, 61, [.val (.ref 64), .val (.int p1), .val (.int p2), .val (.int p3), .val (.int p4), .val (.int v4), .val (.int v5), .val (.int v6), .val (.int v7), .val s8], [], (126, 120, L, [Y_3, T, H, H2, RU, RV, ST, NS, I0, I1, I2, BO_9, FI, RG, GU, PU, MA, MN, MS, OT, SC], [192, 256, 320, 384, w, w10, 576, 640, 704], Lg)) o from ev_f (c := p2 ≤ v7) _ _ 3  zc13 e (fun n => Eq.refl _)
          obtain ⟨BO_12, zh14, zh11⟩ := bnd zh11
          have zh14 : f_Y_lookNow H NS BO_9 = some BO_12 := zh14
          have ze15 := R_f_Y_lookNow_0 (d + 1) Y_3 T H H2 RU RV ST NS I0 I1 I2 BO_9 FI RG GU PU MA MN MS OT SC w w10 L Lg zh14
          suffices e : Ev (d + 4, 0, 0, 328, 65, [.val (.ref 64), .val (.int p1), .val (.int p2), .val (.int p3), .val (.int p4), .val (.int v4), .val (.int v5), .val (.int v6), .val (.int v7), .val s8], [.ref 768], (126, 120, L, [Y_3, T, H, H2, RU, RV, ST, NS, I0, I1, I2, BO_12, FI, RG, GU, PU, MA, MN, MS, OT, SC], [192, 256, 320, 384, w, 192, 576, 640, 704], Lg)) o from ev_call (fun v μ => (d + 4, 0, 0, 328, 65, [.val (.ref 64), .val (.int p1), .val (.int p2), .val (.int p3), .val (.int p4), .val (.int v4), .val (.int v5), .val (.int v6), .val (.int v7), .val s8], v.toList ++ [], μ)) 2 ze15 e (fun n => Eq.refl _)
          obtain ⟨BO_13, zh16, zh11⟩ := bnd zh11
          have zh16 : f_Board_runWeek H BO_12 (p1 + v7) p3 = some BO_13 := zh16
          have ze17 := R_f_Board_runWeek_0 (d + 0) Y_3 T H H2 RU RV ST NS I0 I1 I2 BO_12 FI RG GU PU MA MN MS OT SC 192 256 320 384 w 576 640 704 L Lg (p1 + v7) p3 zh16
          suffices e : Ev (d + 4, 0, 0, 328, 77, [.val (.ref 64), .val (.int p1), .val (.int p2), .val (.int p3), .val (.int p4), .val (.int v4), .val (.int v5), .val (.int v6), .val (.int v7), .val (.ref 768)], [], (126, 120, L, [Y_3, T, H, H2, RU, RV, ST, NS, I0, I1, I2, BO_13, FI, RG, GU, PU, MA, MN, MS, OT, SC], [192, 256, 320, 384, w, 192, 576, 640, 704], Lg)) o from ev_call (fun v μ => (d + 4, 0, 0, 328, 77, [.val (.ref 64), .val (.int p1), .val (.int p2), .val (.int p3), .val (.int p4), .val (.int v4), .val (.int v5), .val (.int v6), .val (.int v7), .val (.ref 768)], v.toList ++ [], μ)) 7 ze17 e (fun n => Eq.refl _)
          obtain ⟨x14, zh18, zh11⟩ := bnd zh11
          have zh18 : f_Math_min v4 (BO_13 0 5) = some x14 := zh18
          have ze19 := R_f_Math_min_0 (d + 3) Y_3 T H H2 RU RV ST NS I0 I1 I2 BO_13 FI RG GU PU MA MN MS OT SC 192 256 320 384 w 192 576 640 704 L Lg v4 (BO_13 0 5) zh18
          suffices e : Ev (d + 4, 0, 0, 328, 87, [.val (.ref 64), .val (.int p1), .val (.int p2), .val (.int p3), .val (.int p4), .val (.int v4), .val (.int v5), .val (.int v6), .val (.int v7), .val (.ref 768)], [.int x14], (126, 120, L, [Y_3, T, H, H2, RU, RV, ST, NS, I0, I1, I2, BO_13, FI, RG, GU, PU, MA, MN, MS, OT, SC], [192, 256, 320, 384, w, 192, 576, 640, 704], Lg)) o from ev_call (fun v μ => (d + 4, 0, 0, 328, 87, [.val (.ref 64), .val (.int p1), .val (.int p2), .val (.int p3), .val (.int p4), .val (.int v4), .val (.int v5), .val (.int v6), .val (.int v7), .val (.ref 768)], v.toList ++ [], μ)) 4 ze19 e (fun n => Eq.refl _)
          obtain ⟨x15, zh20, zh11⟩ := bnd zh11
          have zh20 : f_Math_max v5 (BO_13 0 5) = some x15 := zh20
          have ze21 := R_f_Math_max_0 (d + 3) Y_3 T H H2 RU RV ST NS I0 I1 I2 BO_13 FI RG GU PU MA MN MS OT SC 192 256 320 384 w 192 576 640 704 L Lg v5 (BO_13 0 5) zh20
          suffices e : Ev (d + 4, 0, 0, 328, 99, [.val (.ref 64), .val (.int p1), .val (.int p2), .val (.int p3), .val (.int p4), .val (.int x14), .val (.int v5), .val (.int v6), .val (.int v7), .val (.ref 768)], [.int x15], (126, 120, L, [Y_3, T, H, H2, RU, RV, ST, NS, I0, I1, I2, BO_13, FI, RG, GU, PU, MA, MN, MS, OT, SC], [192, 256, 320, 384, w, 192, 576, 640, 704], Lg)) o from ev_call (fun v μ => (d + 4, 0, 0, 328, 99, [.val (.ref 64), .val (.int p1), .val (.int p2), .val (.int p3), .val (.int p4), .val (.int x14), .val (.int v5), .val (.int v6), .val (.int v7), .val (.ref 768)], v.toList ++ [], μ)) 5 ze21 e (fun n => Eq.refl _)
          exact ev_b 8 (zi9 _ (Option.some.inj zh11).symm (.ref 768)) (fun n => Eq.refl _)
      · obtain ⟨v16, v17, v18, BO_21, w22⟩ := zb7
        intro s19 s20
        by_cases zc22 : p4 = 0
        · have h := itp h zc22
          suffices e : Ev (d + 4, 0, 0, 328, 144, [.val (.ref 64), .val (.int p1), .val (.int p2), .val (.int p3), .val (.int p4), .val (.int v16), .val (.int v17), .val (.int v18), .val s19, .val s20], [], (126, 120, L, [Y_3, T, H, H2, RU, RV, ST, NS, I0, I1, I2, BO_21, FI, RG, GU, PU, MA, MN, MS, OT, SC], [192, 256, 320, 384, w, w22, 576, 640, 704], Lg)) o from ev_sw [((0 : Int32), 144), ((1 : Int32), 147)] p4 (fun tt => (d + 4, 0, 0, 328, tt, [.val (.ref 64), .val (.int p1), .val (.int p2), .val (.int p3), .val (.int p4), .val (.int v16), .val (.int v17), .val (.int v18), .val s19, .val s20], [], (126, 120, L, [Y_3, T, H, H2, RU, RV, ST, NS, I0, I1, I2, BO_21, FI, RG, GU, PU, MA, MN, MS, OT, SC], [192, 256, 320, 384, w, w22, 576, 640, 704], Lg))) 150 144 2 (fun f => by simp only [a_sw, if_pos zc22]) e (fun n => Eq.refl _)
          have ze23 := Option.some.inj h
          subst ze23
          exact ev_rete 2 ho (fun n => Eq.refl _)
        have h := itn h zc22
        by_cases zc24 : p4 = 1
        · have h := itp h zc24
          suffices e : Ev (d + 4, 0, 0, 328, 147, [.val (.ref 64), .val (.int p1), .val (.int p2), .val (.int p3), .val (.int p4), .val (.int v16), .val (.int v17), .val (.int v18), .val s19, .val s20], [], (126, 120, L, [Y_3, T, H, H2, RU, RV, ST, NS, I0, I1, I2, BO_21, FI, RG, GU, PU, MA, MN, MS, OT, SC], [192, 256, 320, 384, w, w22, 576, 640, 704], Lg)) o from ev_sw [((0 : Int32), 144), ((1 : Int32), 147)] p4 (fun tt => (d + 4, 0, 0, 328, tt, [.val (.ref 64), .val (.int p1), .val (.int p2), .val (.int p3), .val (.int p4), .val (.int v16), .val (.int v17), .val (.int v18), .val s19, .val s20], [], (126, 120, L, [Y_3, T, H, H2, RU, RV, ST, NS, I0, I1, I2, BO_21, FI, RG, GU, PU, MA, MN, MS, OT, SC], [192, 256, 320, 384, w, w22, 576, 640, 704], Lg))) 150 147 2 (fun f => by simp only [a_sw, if_neg zc22, if_pos zc24]) e (fun n => Eq.refl _)
          have ze25 := Option.some.inj h
          subst ze25
          exact ev_rete 2 ho (fun n => Eq.refl _)
        have h := itn h zc24
        suffices e : Ev (d + 4, 0, 0, 328, 150, [.val (.ref 64), .val (.int p1), .val (.int p2), .val (.int p3), .val (.int p4), .val (.int v16), .val (.int v17), .val (.int v18), .val s19, .val s20], [], (126, 120, L, [Y_3, T, H, H2, RU, RV, ST, NS, I0, I1, I2, BO_21, FI, RG, GU, PU, MA, MN, MS, OT, SC], [192, 256, 320, 384, w, w22, 576, 640, 704], Lg)) o from ev_sw [((0 : Int32), 144), ((1 : Int32), 147)] p4 (fun tt => (d + 4, 0, 0, 328, tt, [.val (.ref 64), .val (.int p1), .val (.int p2), .val (.int p3), .val (.int p4), .val (.int v16), .val (.int v17), .val (.int v18), .val s19, .val s20], [], (126, 120, L, [Y_3, T, H, H2, RU, RV, ST, NS, I0, I1, I2, BO_21, FI, RG, GU, PU, MA, MN, MS, OT, SC], [192, 256, 320, 384, w, w22, 576, 640, 704], Lg))) 150 150 2 (fun f => by simp only [a_sw, if_neg zc22, if_neg zc24]) e (fun n => Eq.refl _)
        have ze26 := Option.some.inj h
        subst ze26
        exact ev_rete 2 ho (fun n => Eq.refl _)
    | succ q2 =>
      have h := itn h (Nat.succ_ne_zero q2)
      have ze27 := Option.some.inj h
      subst ze27
      subst ho
      exact ev_thr (fun v μ => (d + 4, 0, 0, 328, 42, [.val (.ref 64), .val (.int p1), .val (.int p2), .val (.int p3), .val (.int p4), .val a_unk, .val a_unk, .val a_unk, .val a_unk, .val a_unk], v.toList ++ [], μ)) 1 ze6 (fun n => Eq.refl _) (fun n => rfl)
  obtain ⟨zt28, zh29, zh2⟩ := bnd zh2
  have zj30 : zt28 = .inl () → Ev (d + 4, 1, 8, 328, 38, [.val (.ref 64), .val (.int p1), .val (.int p2), .val (.int p3), .val (.int p4), .val a_unk, .val a_unk, .val a_unk, .val a_unk, .val a_unk], [.ref 64], (126, 120, L, [Y, T, H, H2, RU, RV, ST, NS, I0, I1, I2, BO, FI, RG, GU, PU, MA, MN, MS, OT, SC], [192, 256, 320, 384, w, r5, 576, 640, 704], Lg)) o := by
    intro ze31
    have zh2 := sum_l zh2 ze31
    exact ev_b 1 (zj3 0 (Option.some.inj zh2) ) (fun n => Eq.refl _)
  by_cases zc32 : p2 < 1
  · have zh29 := itp zh29 zc32
    suffices e : Ev (d + 4, 1, 8, 328, 38, [.val (.ref 64), .val (.int p1), .val (.int p2), .val (.int p3), .val (.int p4), .val a_unk, .val a_unk, .val a_unk, .val a_unk, .val a_unk], [.ref 64], (126, 120, L, [Y, T, H, H2, RU, RV, ST, NS, I0, I1, I2, BO, FI, RG, GU, PU, MA, MN, MS, OT, SC], [192, 256, 320, 384, w, r5, 576, 640, 704], Lg)) o from ev_t (c := p2 < 1) _ _ 4  zc32 e (fun n => Eq.refl _)
    exact ev_b 0 (zj30  (Option.some.inj zh29).symm ) (fun n => Eq.refl _)
  · have zh29 := itn zh29 zc32
    suffices e : Ev (d + 4, 1, 8, 328, 6, [.val (.ref 64), .val (.int p1), .val (.int p2), .val (.int p3), .val (.int p4), .val a_unk, .val a_unk, .val a_unk, .val a_unk, .val a_unk], [.ref 64], (126, 120, L, [Y, T, H, H2, RU, RV, ST, NS, I0, I1, I2, BO, FI, RG, GU, PU, MA, MN, MS, OT, SC], [192, 256, 320, 384, w, r5, 576, 640, 704], Lg)) o from ev_f (c := p2 < 1) _ _ 4  zc32 e (fun n => Eq.refl _)
    by_cases zc33 : 20 < p2
    · have zh29 := itp zh29 zc33
      suffices e : Ev (d + 4, 1, 8, 328, 38, [.val (.ref 64), .val (.int p1), .val (.int p2), .val (.int p3), .val (.int p4), .val a_unk, .val a_unk, .val a_unk, .val a_unk, .val a_unk], [.ref 64], (126, 120, L, [Y, T, H, H2, RU, RV, ST, NS, I0, I1, I2, BO, FI, RG, GU, PU, MA, MN, MS, OT, SC], [192, 256, 320, 384, w, r5, 576, 640, 704], Lg)) o from ev_t (c := 20 < p2) _ _ 3  zc33 e (fun n => Eq.refl _)
      exact ev_b 0 (zj30  (Option.some.inj zh29).symm ) (fun n => Eq.refl _)
    · have zh29 := itn zh29 zc33
      suffices e : Ev (d + 4, 1, 8, 328, 12, [.val (.ref 64), .val (.int p1), .val (.int p2), .val (.int p3), .val (.int p4), .val a_unk, .val a_unk, .val a_unk, .val a_unk, .val a_unk], [.ref 64], (126, 120, L, [Y, T, H, H2, RU, RV, ST, NS, I0, I1, I2, BO, FI, RG, GU, PU, MA, MN, MS, OT, SC], [192, 256, 320, 384, w, r5, 576, 640, 704], Lg)) o from ev_f (c := 20 < p2) _ _ 3  zc33 e (fun n => Eq.refl _)
      by_cases zc34 : p3 < 1
      · have zh29 := itp zh29 zc34
        suffices e : Ev (d + 4, 1, 8, 328, 38, [.val (.ref 64), .val (.int p1), .val (.int p2), .val (.int p3), .val (.int p4), .val a_unk, .val a_unk, .val a_unk, .val a_unk, .val a_unk], [.ref 64], (126, 120, L, [Y, T, H, H2, RU, RV, ST, NS, I0, I1, I2, BO, FI, RG, GU, PU, MA, MN, MS, OT, SC], [192, 256, 320, 384, w, r5, 576, 640, 704], Lg)) o from ev_t (c := p3 < 1) _ _ 3  zc34 e (fun n => Eq.refl _)
        exact ev_b 0 (zj30  (Option.some.inj zh29).symm ) (fun n => Eq.refl _)
      · have zh29 := itn zh29 zc34
        suffices e : Ev (d + 4, 1, 8, 328, 17, [.val (.ref 64), .val (.int p1), .val (.int p2), .val (.int p3), .val (.int p4), .val a_unk, .val a_unk, .val a_unk, .val a_unk, .val a_unk], [.ref 64], (126, 120, L, [Y, T, H, H2, RU, RV, ST, NS, I0, I1, I2, BO, FI, RG, GU, PU, MA, MN, MS, OT, SC], [192, 256, 320, 384, w, r5, 576, 640, 704], Lg)) o from ev_f (c := p3 < 1) _ _ 3  zc34 e (fun n => Eq.refl _)
        by_cases zc35 : 60 < p3
        · have zh29 := itp zh29 zc35
          suffices e : Ev (d + 4, 1, 8, 328, 38, [.val (.ref 64), .val (.int p1), .val (.int p2), .val (.int p3), .val (.int p4), .val a_unk, .val a_unk, .val a_unk, .val a_unk, .val a_unk], [.ref 64], (126, 120, L, [Y, T, H, H2, RU, RV, ST, NS, I0, I1, I2, BO, FI, RG, GU, PU, MA, MN, MS, OT, SC], [192, 256, 320, 384, w, r5, 576, 640, 704], Lg)) o from ev_t (c := 60 < p3) _ _ 3  zc35 e (fun n => Eq.refl _)
          exact ev_b 0 (zj30  (Option.some.inj zh29).symm ) (fun n => Eq.refl _)
        · have zh29 := itn zh29 zc35
          suffices e : Ev (d + 4, 1, 8, 328, 23, [.val (.ref 64), .val (.int p1), .val (.int p2), .val (.int p3), .val (.int p4), .val a_unk, .val a_unk, .val a_unk, .val a_unk, .val a_unk], [.ref 64], (126, 120, L, [Y, T, H, H2, RU, RV, ST, NS, I0, I1, I2, BO, FI, RG, GU, PU, MA, MN, MS, OT, SC], [192, 256, 320, 384, w, r5, 576, 640, 704], Lg)) o from ev_f (c := 60 < p3) _ _ 3  zc35 e (fun n => Eq.refl _)
          by_cases zc36 : p4 < 0
          · have zh29 := itp zh29 zc36
            suffices e : Ev (d + 4, 1, 8, 328, 38, [.val (.ref 64), .val (.int p1), .val (.int p2), .val (.int p3), .val (.int p4), .val a_unk, .val a_unk, .val a_unk, .val a_unk, .val a_unk], [.ref 64], (126, 120, L, [Y, T, H, H2, RU, RV, ST, NS, I0, I1, I2, BO, FI, RG, GU, PU, MA, MN, MS, OT, SC], [192, 256, 320, 384, w, r5, 576, 640, 704], Lg)) o from ev_t (c := p4 < 0) _ _ 2  zc36 e (fun n => Eq.refl _)
            exact ev_b 0 (zj30  (Option.some.inj zh29).symm ) (fun n => Eq.refl _)
          · have zh29 := itn zh29 zc36
            suffices e : Ev (d + 4, 1, 8, 328, 28, [.val (.ref 64), .val (.int p1), .val (.int p2), .val (.int p3), .val (.int p4), .val a_unk, .val a_unk, .val a_unk, .val a_unk, .val a_unk], [.ref 64], (126, 120, L, [Y, T, H, H2, RU, RV, ST, NS, I0, I1, I2, BO, FI, RG, GU, PU, MA, MN, MS, OT, SC], [192, 256, 320, 384, w, r5, 576, 640, 704], Lg)) o from ev_f (c := p4 < 0) _ _ 2  zc36 e (fun n => Eq.refl _)
            by_cases zc37 : 2 < p4
            · have zh29 := itp zh29 zc37
              suffices e : Ev (d + 4, 1, 8, 328, 38, [.val (.ref 64), .val (.int p1), .val (.int p2), .val (.int p3), .val (.int p4), .val a_unk, .val a_unk, .val a_unk, .val a_unk, .val a_unk], [.ref 64], (126, 120, L, [Y, T, H, H2, RU, RV, ST, NS, I0, I1, I2, BO, FI, RG, GU, PU, MA, MN, MS, OT, SC], [192, 256, 320, 384, w, r5, 576, 640, 704], Lg)) o from ev_t (c := 2 < p4) _ _ 3  zc37 e (fun n => Eq.refl _)
              exact ev_b 0 (zj30  (Option.some.inj zh29).symm ) (fun n => Eq.refl _)
            · have zh29 := itn zh29 zc37
              suffices e : Ev (d + 4, 1, 8, 328, 34, [.val (.ref 64), .val (.int p1), .val (.int p2), .val (.int p3), .val (.int p4), .val a_unk, .val a_unk, .val a_unk, .val a_unk, .val a_unk], [.ref 64], (126, 120, L, [Y, T, H, H2, RU, RV, ST, NS, I0, I1, I2, BO, FI, RG, GU, PU, MA, MN, MS, OT, SC], [192, 256, 320, 384, w, r5, 576, 640, 704], Lg)) o from ev_f (c := 2 < p4) _ _ 3  zc37 e (fun n => Eq.refl _)
              have zh38 := sum_r zh2 (Option.some.inj zh29).symm
              exact ev_b 2 (zj3 1 (Option.some.inj zh38) ) (fun n => Eq.refl _)
set_option maxRecDepth 1000000 in
set_option maxHeartbeats 4000000 in
theorem R_f_Y_span_1 (d : Nat) (Y T H H2 RV RU ST NS I0 I1 I2 BO FI RG GU PU MA MN MS OT SC : Nat → Nat → Int32) (w r5 : Nat) (L : Nat) (Lg : Int64) (p1 : Int32) (p2 : Int32) (p3 : Int32) (p4 : Int32) {r : Nat × Int32 × (Nat → Nat → Int32) × (Nat → Nat → Int32) × Nat} (h : f_Y_span Y H NS BO 192 r5 p1 p2 p3 p4 = some r) : Ev (d + 4, 1, 8, 328, 0, [.val (.ref 64), .val (.int p1), .val (.int p2), .val (.int p3), .val (.int p4), .val a_unk, .val a_unk, .val a_unk, .val a_unk, .val a_unk], [], (126, 120, L, [Y, T, H, H2, RV, RU, ST, NS, I0, I1, I2, BO, FI, RG, GU, PU, MA, MN, MS, OT, SC], [192, 256, 384, 320, w, r5, 576, 640, 704], Lg)) ((r.1, a_ov r.1 (.int r.2.1), (126, 120, L, [r.2.2.1, T, H, H2, RV, RU, ST, NS, I0, I1, I2, r.2.2.2.1, FI, RG, GU, PU, MA, MN, MS, OT, SC], [192, 256, 384, 320, w, r.2.2.2.2, 576, 640, 704], Lg)) : AOut) := by
  suffices key : ∀ o : AOut, ((r.1, a_ov r.1 (.int r.2.1), (126, 120, L, [r.2.2.1, T, H, H2, RV, RU, ST, NS, I0, I1, I2, r.2.2.2.1, FI, RG, GU, PU, MA, MN, MS, OT, SC], [192, 256, 384, 320, w, r.2.2.2.2, 576, 640, 704], Lg)) : AOut) = o → Ev (d + 4, 1, 8, 328, 0, [.val (.ref 64), .val (.int p1), .val (.int p2), .val (.int p3), .val (.int p4), .val a_unk, .val a_unk, .val a_unk, .val a_unk, .val a_unk], [], (126, 120, L, [Y, T, H, H2, RV, RU, ST, NS, I0, I1, I2, BO, FI, RG, GU, PU, MA, MN, MS, OT, SC], [192, 256, 384, 320, w, r5, 576, 640, 704], Lg)) o from key _ rfl
  intro o ho
  obtain ⟨zt1, zh2, h⟩ := bnd h
  have zj3 : ∀ (v1 : Int32), v1 = zt1 → Ev (d + 4, 1, 8, 328, 39, [.val (.ref 64), .val (.int p1), .val (.int p2), .val (.int p3), .val (.int p4), .val a_unk, .val a_unk, .val a_unk, .val a_unk, .val a_unk], [.int v1, .ref 64], (126, 120, L, [Y, T, H, H2, RV, RU, ST, NS, I0, I1, I2, BO, FI, RG, GU, PU, MA, MN, MS, OT, SC], [192, 256, 384, 320, w, r5, 576, 640, 704], Lg)) o := by
    intro v1 ze4
    subst ze4
    obtain ⟨⟨q2, Y_3⟩, zh5, h⟩ := bnd h
    have zh5 : f_Y_refuseUnless Y v1 = some (q2, Y_3) := zh5
    have ze6 := R_f_Y_refuseUnless_1 (d + 3) Y T H H2 RV RU ST NS I0 I1 I2 BO FI RG GU PU MA MN MS OT SC w r5 L Lg v1 zh5
    cases q2 with
    | zero =>
      have h := itp h rfl
      suffices e : Ev (d + 4, 0, 0, 328, 42, [.val (.ref 64), .val (.int p1), .val (.int p2), .val (.int p3), .val (.int p4), .val a_unk, .val a_unk, .val a_unk, .val a_unk, .val a_unk], [], (126, 120, L, [Y_3, T, H, H2, RV, RU, ST, NS, I0, I1, I2, BO, FI, RG, GU, PU, MA, MN, MS, OT, SC], [192, 256, 384, 320, w, r5, 576, 640, 704], Lg)) o from ev_call (fun v μ => (d + 4, 0, 0, 328, 42, [.val (.ref 64), .val (.int p1), .val (.int p2), .val (.int p3), .val (.int p4), .val a_unk, .val a_unk, .val a_unk, .val a_unk, .val a_unk], v.toList ++ [], μ)) 1 ze6 e (fun n => Eq.refl _)
      obtain ⟨zb7, zh8, h⟩ := bnd h
      suffices e : Ev (d + 4, 0, 0, 328, 55, [.val (.ref 64), .val (.int p1), .val (.int p2), .val (.int p3), .val (.int p4), .val (.int 60), .val (.int 0), .val (.int 0), .val (.int 0), .val a_unk], [], (126, 120, L, [Y_3, T, H, H2, RV, RU, ST, NS, I0, I1, I2, BO, FI, RG, GU, PU, MA, MN, MS, OT, SC], [192, 256, 384, 320, w, r5, 576, 640, 704], Lg)) o from ev_b 8 e (fun n => Eq.refl _)
      refine ev_loop (δ := Value) (fun a j => (d + 4, 0, 0, 328, 55, [.val (.ref 64), .val (.int p1), .val (.int p2), .val (.int p3), .val (.int p4), .val (.int a.1), .val (.int a.2.1), .val (.int a.2.2.1), .val (.int a.2.2.2.1), .val j], [], (126, 120, L, [Y_3, T, H, H2, RV, RU, ST, NS, I0, I1, I2, a.2.2.2.2.1, FI, RG, GU, PU, MA, MN, MS, OT, SC], [192, 256, 384, 320, w, a.2.2.2.2.2, 576, 640, 704], Lg))) (fun b => ∀ s19 : Value, ∀ s20 : Value, Ev (d + 4, 0, 0, 328, 117, [.val (.ref 64), .val (.int p1), .val (.int p2), .val (.int p3), .val (.int p4), .val (.int b.1), .val (.int b.2.1), .val (.int b.2.2.1), .val s19, .val s20], [], (126, 120, L, [Y_3, T, H, H2, RV, RU, ST, NS, I0, I1, I2, b.2.2.2.1, FI, RG, GU, PU, MA, MN, MS, OT, SC], [192, 256, 384, 320, w, b.2.2.2.2, 576, 640, 704], Lg)) o) ?_ a_F (60, 0, 0, 0, BO, r5) zb7 zh8 ?_ a_unk
      · rintro ⟨v4, v5, v6, v7, BO_9, w10⟩ zr12 zh11 zi9 zx10 s8
        have zh11 : f_Y_span_l55 H NS p2 p1 p3 192 v4 v5 v6 v7 BO_9 w10 = some zr12 := zh11
        by_cases zc13 : p2 ≤ v7
        · have zh11 := itp zh11 zc13
          suffices e : Ev (d + 4, 0, 0, 328, 117, [.val (.ref 64), .val (.int p1), .val (.int p2), .val (.int p3), .val (.int p4), .val (.int v4), .val (.int v5), .val (.int v6), .val (.int v7), .val s8], [], (126, 120, L, [Y_3, T, H, H2, RV, RU, ST, NS, I0, I1, I2, BO_9, FI, RG, GU, PU, MA, MN, MS, OT, SC], [192, 256, 384, 320, w, w10, 576, 640, 704], Lg)) o from ev_t (c := p2 ≤ v7) _ _ 3  zc13 e (fun n => Eq.refl _)
          exact ev_b 0 (zx10 _ (Option.some.inj zh11).symm (.int v7) s8) (fun n => Eq.refl _)
        · have zh11 := itn zh11 zc13
          suffices e : Ev (d + 4, 0, 0, 328, 61, [.val (.ref 64), .val (.int p1), .val (.int p2), .val (.int p3), .val (.int p4), .val (.int v4), .val (.int v5), .val (.int v6), .val (.int v7), .val s8], [], (126, 120, L, [Y_3, T, H, H2, RV, RU, ST, NS, I0, I1, I2, BO_9, FI, RG, GU, PU, MA, MN, MS, OT, SC], [192, 256, 384, 320, w, w10, 576, 640, 704], Lg)) o from ev_f (c := p2 ≤ v7) _ _ 3  zc13 e (fun n => Eq.refl _)
          obtain ⟨BO_12, zh14, zh11⟩ := bnd zh11
          have zh14 : f_Y_lookNow H NS BO_9 = some BO_12 := zh14
          have ze15 := R_f_Y_lookNow_1 (d + 1) Y_3 T H H2 RV RU ST NS I0 I1 I2 BO_9 FI RG GU PU MA MN MS OT SC w w10 L Lg zh14
          suffices e : Ev (d + 4, 0, 0, 328, 65, [.val (.ref 64), .val (.int p1), .val (.int p2), .val (.int p3), .val (.int p4), .val (.int v4), .val (.int v5), .val (.int v6), .val (.int v7), .val s8], [.ref 768], (126, 120, L, [Y_3, T, H, H2, RV, RU, ST, NS, I0, I1, I2, BO_12, FI, RG, GU, PU, MA, MN, MS, OT, SC], [192, 256, 384, 320, w, 192, 576, 640, 704], Lg)) o from ev_call (fun v μ => (d + 4, 0, 0, 328, 65, [.val (.ref 64), .val (.int p1), .val (.int p2), .val (.int p3), .val (.int p4), .val (.int v4), .val (.int v5), .val (.int v6), .val (.int v7), .val s8], v.toList ++ [], μ)) 2 ze15 e (fun n => Eq.refl _)
          obtain ⟨BO_13, zh16, zh11⟩ := bnd zh11
          have zh16 : f_Board_runWeek H BO_12 (p1 + v7) p3 = some BO_13 := zh16
          have ze17 := R_f_Board_runWeek_0 (d + 0) Y_3 T H H2 RV RU ST NS I0 I1 I2 BO_12 FI RG GU PU MA MN MS OT SC 192 256 384 320 w 576 640 704 L Lg (p1 + v7) p3 zh16
          suffices e : Ev (d + 4, 0, 0, 328, 77, [.val (.ref 64), .val (.int p1), .val (.int p2), .val (.int p3), .val (.int p4), .val (.int v4), .val (.int v5), .val (.int v6), .val (.int v7), .val (.ref 768)], [], (126, 120, L, [Y_3, T, H, H2, RV, RU, ST, NS, I0, I1, I2, BO_13, FI, RG, GU, PU, MA, MN, MS, OT, SC], [192, 256, 384, 320, w, 192, 576, 640, 704], Lg)) o from ev_call (fun v μ => (d + 4, 0, 0, 328, 77, [.val (.ref 64), .val (.int p1), .val (.int p2), .val (.int p3), .val (.int p4), .val (.int v4), .val (.int v5), .val (.int v6), .val (.int v7), .val (.ref 768)], v.toList ++ [], μ)) 7 ze17 e (fun n => Eq.refl _)
          obtain ⟨x14, zh18, zh11⟩ := bnd zh11
          have zh18 : f_Math_min v4 (BO_13 0 5) = some x14 := zh18
          have ze19 := R_f_Math_min_0 (d + 3) Y_3 T H H2 RV RU ST NS I0 I1 I2 BO_13 FI RG GU PU MA MN MS OT SC 192 256 384 320 w 192 576 640 704 L Lg v4 (BO_13 0 5) zh18
          suffices e : Ev (d + 4, 0, 0, 328, 87, [.val (.ref 64), .val (.int p1), .val (.int p2), .val (.int p3), .val (.int p4), .val (.int v4), .val (.int v5), .val (.int v6), .val (.int v7), .val (.ref 768)], [.int x14], (126, 120, L, [Y_3, T, H, H2, RV, RU, ST, NS, I0, I1, I2, BO_13, FI, RG, GU, PU, MA, MN, MS, OT, SC], [192, 256, 384, 320, w, 192, 576, 640, 704], Lg)) o from ev_call (fun v μ => (d + 4, 0, 0, 328, 87, [.val (.ref 64), .val (.int p1), .val (.int p2), .val (.int p3), .val (.int p4), .val (.int v4), .val (.int v5), .val (.int v6), .val (.int v7), .val (.ref 768)], v.toList ++ [], μ)) 4 ze19 e (fun n => Eq.refl _)
          obtain ⟨x15, zh20, zh11⟩ := bnd zh11
          have zh20 : f_Math_max v5 (BO_13 0 5) = some x15 := zh20
          have ze21 := R_f_Math_max_0 (d + 3) Y_3 T H H2 RV RU ST NS I0 I1 I2 BO_13 FI RG GU PU MA MN MS OT SC 192 256 384 320 w 192 576 640 704 L Lg v5 (BO_13 0 5) zh20
          suffices e : Ev (d + 4, 0, 0, 328, 99, [.val (.ref 64), .val (.int p1), .val (.int p2), .val (.int p3), .val (.int p4), .val (.int x14), .val (.int v5), .val (.int v6), .val (.int v7), .val (.ref 768)], [.int x15], (126, 120, L, [Y_3, T, H, H2, RV, RU, ST, NS, I0, I1, I2, BO_13, FI, RG, GU, PU, MA, MN, MS, OT, SC], [192, 256, 384, 320, w, 192, 576, 640, 704], Lg)) o from ev_call (fun v μ => (d + 4, 0, 0, 328, 99, [.val (.ref 64), .val (.int p1), .val (.int p2), .val (.int p3), .val (.int p4), .val (.int x14), .val (.int v5), .val (.int v6), .val (.int v7), .val (.ref 768)], v.toList ++ [], μ)) 5 ze21 e (fun n => Eq.refl _)
          exact ev_b 8 (zi9 _ (Option.some.inj zh11).symm (.ref 768)) (fun n => Eq.refl _)
      · obtain ⟨v16, v17, v18, BO_21, w22⟩ := zb7
        intro s19 s20
        by_cases zc22 : p4 = 0
        · have h := itp h zc22
          suffices e : Ev (d + 4, 0, 0, 328, 144, [.val (.ref 64), .val (.int p1), .val (.int p2), .val (.int p3), .val (.int p4), .val (.int v16), .val (.int v17), .val (.int v18), .val s19, .val s20], [], (126, 120, L, [Y_3, T, H, H2, RV, RU, ST, NS, I0, I1, I2, BO_21, FI, RG, GU, PU, MA, MN, MS, OT, SC], [192, 256, 384, 320, w, w22, 576, 640, 704], Lg)) o from ev_sw [((0 : Int32), 144), ((1 : Int32), 147)] p4 (fun tt => (d + 4, 0, 0, 328, tt, [.val (.ref 64), .val (.int p1), .val (.int p2), .val (.int p3), .val (.int p4), .val (.int v16), .val (.int v17), .val (.int v18), .val s19, .val s20], [], (126, 120, L, [Y_3, T, H, H2, RV, RU, ST, NS, I0, I1, I2, BO_21, FI, RG, GU, PU, MA, MN, MS, OT, SC], [192, 256, 384, 320, w, w22, 576, 640, 704], Lg))) 150 144 2 (fun f => by simp only [a_sw, if_pos zc22]) e (fun n => Eq.refl _)
          have ze23 := Option.some.inj h
          subst ze23
          exact ev_rete 2 ho (fun n => Eq.refl _)
        have h := itn h zc22
        by_cases zc24 : p4 = 1
        · have h := itp h zc24
          suffices e : Ev (d + 4, 0, 0, 328, 147, [.val (.ref 64), .val (.int p1), .val (.int p2), .val (.int p3), .val (.int p4), .val (.int v16), .val (.int v17), .val (.int v18), .val s19, .val s20], [], (126, 120, L, [Y_3, T, H, H2, RV, RU, ST, NS, I0, I1, I2, BO_21, FI, RG, GU, PU, MA, MN, MS, OT, SC], [192, 256, 384, 320, w, w22, 576, 640, 704], Lg)) o from ev_sw [((0 : Int32), 144), ((1 : Int32), 147)] p4 (fun tt => (d + 4, 0, 0, 328, tt, [.val (.ref 64), .val (.int p1), .val (.int p2), .val (.int p3), .val (.int p4), .val (.int v16), .val (.int v17), .val (.int v18), .val s19, .val s20], [], (126, 120, L, [Y_3, T, H, H2, RV, RU, ST, NS, I0, I1, I2, BO_21, FI, RG, GU, PU, MA, MN, MS, OT, SC], [192, 256, 384, 320, w, w22, 576, 640, 704], Lg))) 150 147 2 (fun f => by simp only [a_sw, if_neg zc22, if_pos zc24]) e (fun n => Eq.refl _)
          have ze25 := Option.some.inj h
          subst ze25
          exact ev_rete 2 ho (fun n => Eq.refl _)
        have h := itn h zc24
        suffices e : Ev (d + 4, 0, 0, 328, 150, [.val (.ref 64), .val (.int p1), .val (.int p2), .val (.int p3), .val (.int p4), .val (.int v16), .val (.int v17), .val (.int v18), .val s19, .val s20], [], (126, 120, L, [Y_3, T, H, H2, RV, RU, ST, NS, I0, I1, I2, BO_21, FI, RG, GU, PU, MA, MN, MS, OT, SC], [192, 256, 384, 320, w, w22, 576, 640, 704], Lg)) o from ev_sw [((0 : Int32), 144), ((1 : Int32), 147)] p4 (fun tt => (d + 4, 0, 0, 328, tt, [.val (.ref 64), .val (.int p1), .val (.int p2), .val (.int p3), .val (.int p4), .val (.int v16), .val (.int v17), .val (.int v18), .val s19, .val s20], [], (126, 120, L, [Y_3, T, H, H2, RV, RU, ST, NS, I0, I1, I2, BO_21, FI, RG, GU, PU, MA, MN, MS, OT, SC], [192, 256, 384, 320, w, w22, 576, 640, 704], Lg))) 150 150 2 (fun f => by simp only [a_sw, if_neg zc22, if_neg zc24]) e (fun n => Eq.refl _)
        have ze26 := Option.some.inj h
        subst ze26
        exact ev_rete 2 ho (fun n => Eq.refl _)
    | succ q2 =>
      have h := itn h (Nat.succ_ne_zero q2)
      have ze27 := Option.some.inj h
      subst ze27
      subst ho
      exact ev_thr (fun v μ => (d + 4, 0, 0, 328, 42, [.val (.ref 64), .val (.int p1), .val (.int p2), .val (.int p3), .val (.int p4), .val a_unk, .val a_unk, .val a_unk, .val a_unk, .val a_unk], v.toList ++ [], μ)) 1 ze6 (fun n => Eq.refl _) (fun n => rfl)
  obtain ⟨zt28, zh29, zh2⟩ := bnd zh2
  have zj30 : zt28 = .inl () → Ev (d + 4, 1, 8, 328, 38, [.val (.ref 64), .val (.int p1), .val (.int p2), .val (.int p3), .val (.int p4), .val a_unk, .val a_unk, .val a_unk, .val a_unk, .val a_unk], [.ref 64], (126, 120, L, [Y, T, H, H2, RV, RU, ST, NS, I0, I1, I2, BO, FI, RG, GU, PU, MA, MN, MS, OT, SC], [192, 256, 384, 320, w, r5, 576, 640, 704], Lg)) o := by
    intro ze31
    have zh2 := sum_l zh2 ze31
    exact ev_b 1 (zj3 0 (Option.some.inj zh2) ) (fun n => Eq.refl _)
  by_cases zc32 : p2 < 1
  · have zh29 := itp zh29 zc32
    suffices e : Ev (d + 4, 1, 8, 328, 38, [.val (.ref 64), .val (.int p1), .val (.int p2), .val (.int p3), .val (.int p4), .val a_unk, .val a_unk, .val a_unk, .val a_unk, .val a_unk], [.ref 64], (126, 120, L, [Y, T, H, H2, RV, RU, ST, NS, I0, I1, I2, BO, FI, RG, GU, PU, MA, MN, MS, OT, SC], [192, 256, 384, 320, w, r5, 576, 640, 704], Lg)) o from ev_t (c := p2 < 1) _ _ 4  zc32 e (fun n => Eq.refl _)
    exact ev_b 0 (zj30  (Option.some.inj zh29).symm ) (fun n => Eq.refl _)
  · have zh29 := itn zh29 zc32
    suffices e : Ev (d + 4, 1, 8, 328, 6, [.val (.ref 64), .val (.int p1), .val (.int p2), .val (.int p3), .val (.int p4), .val a_unk, .val a_unk, .val a_unk, .val a_unk, .val a_unk], [.ref 64], (126, 120, L, [Y, T, H, H2, RV, RU, ST, NS, I0, I1, I2, BO, FI, RG, GU, PU, MA, MN, MS, OT, SC], [192, 256, 384, 320, w, r5, 576, 640, 704], Lg)) o from ev_f (c := p2 < 1) _ _ 4  zc32 e (fun n => Eq.refl _)
    by_cases zc33 : 20 < p2
    · have zh29 := itp zh29 zc33
      suffices e : Ev (d + 4, 1, 8, 328, 38, [.val (.ref 64), .val (.int p1), .val (.int p2), .val (.int p3), .val (.int p4), .val a_unk, .val a_unk, .val a_unk, .val a_unk, .val a_unk], [.ref 64], (126, 120, L, [Y, T, H, H2, RV, RU, ST, NS, I0, I1, I2, BO, FI, RG, GU, PU, MA, MN, MS, OT, SC], [192, 256, 384, 320, w, r5, 576, 640, 704], Lg)) o from ev_t (c := 20 < p2) _ _ 3  zc33 e (fun n => Eq.refl _)
      exact ev_b 0 (zj30  (Option.some.inj zh29).symm ) (fun n => Eq.refl _)
    · have zh29 := itn zh29 zc33
      suffices e : Ev (d + 4, 1, 8, 328, 12, [.val (.ref 64), .val (.int p1), .val (.int p2), .val (.int p3), .val (.int p4), .val a_unk, .val a_unk, .val a_unk, .val a_unk, .val a_unk], [.ref 64], (126, 120, L, [Y, T, H, H2, RV, RU, ST, NS, I0, I1, I2, BO, FI, RG, GU, PU, MA, MN, MS, OT, SC], [192, 256, 384, 320, w, r5, 576, 640, 704], Lg)) o from ev_f (c := 20 < p2) _ _ 3  zc33 e (fun n => Eq.refl _)
      by_cases zc34 : p3 < 1
      · have zh29 := itp zh29 zc34
        suffices e : Ev (d + 4, 1, 8, 328, 38, [.val (.ref 64), .val (.int p1), .val (.int p2), .val (.int p3), .val (.int p4), .val a_unk, .val a_unk, .val a_unk, .val a_unk, .val a_unk], [.ref 64], (126, 120, L, [Y, T, H, H2, RV, RU, ST, NS, I0, I1, I2, BO, FI, RG, GU, PU, MA, MN, MS, OT, SC], [192, 256, 384, 320, w, r5, 576, 640, 704], Lg)) o from ev_t (c := p3 < 1) _ _ 3  zc34 e (fun n => Eq.refl _)
        exact ev_b 0 (zj30  (Option.some.inj zh29).symm ) (fun n => Eq.refl _)
      · have zh29 := itn zh29 zc34
        suffices e : Ev (d + 4, 1, 8, 328, 17, [.val (.ref 64), .val (.int p1), .val (.int p2), .val (.int p3), .val (.int p4), .val a_unk, .val a_unk, .val a_unk, .val a_unk, .val a_unk], [.ref 64], (126, 120, L, [Y, T, H, H2, RV, RU, ST, NS, I0, I1, I2, BO, FI, RG, GU, PU, MA, MN, MS, OT, SC], [192, 256, 384, 320, w, r5, 576, 640, 704], Lg)) o from ev_f (c := p3 < 1) _ _ 3  zc34 e (fun n => Eq.refl _)
        by_cases zc35 : 60 < p3
        · have zh29 := itp zh29 zc35
          suffices e : Ev (d + 4, 1, 8, 328, 38, [.val (.ref 64), .val (.int p1), .val (.int p2), .val (.int p3), .val (.int p4), .val a_unk, .val a_unk, .val a_unk, .val a_unk, .val a_unk], [.ref 64], (126, 120, L, [Y, T, H, H2, RV, RU, ST, NS, I0, I1, I2, BO, FI, RG, GU, PU, MA, MN, MS, OT, SC], [192, 256, 384, 320, w, r5, 576, 640, 704], Lg)) o from ev_t (c := 60 < p3) _ _ 3  zc35 e (fun n => Eq.refl _)
          exact ev_b 0 (zj30  (Option.some.inj zh29).symm ) (fun n => Eq.refl _)
        · have zh29 := itn zh29 zc35
          suffices e : Ev (d + 4, 1, 8, 328, 23, [.val (.ref 64), .val (.int p1), .val (.int p2), .val (.int p3), .val (.int p4), .val a_unk, .val a_unk, .val a_unk, .val a_unk, .val a_unk], [.ref 64], (126, 120, L, [Y, T, H, H2, RV, RU, ST, NS, I0, I1, I2, BO, FI, RG, GU, PU, MA, MN, MS, OT, SC], [192, 256, 384, 320, w, r5, 576, 640, 704], Lg)) o from ev_f (c := 60 < p3) _ _ 3  zc35 e (fun n => Eq.refl _)
          by_cases zc36 : p4 < 0
          · have zh29 := itp zh29 zc36
            suffices e : Ev (d + 4, 1, 8, 328, 38, [.val (.ref 64), .val (.int p1), .val (.int p2), .val (.int p3), .val (.int p4), .val a_unk, .val a_unk, .val a_unk, .val a_unk, .val a_unk], [.ref 64], (126, 120, L, [Y, T, H, H2, RV, RU, ST, NS, I0, I1, I2, BO, FI, RG, GU, PU, MA, MN, MS, OT, SC], [192, 256, 384, 320, w, r5, 576, 640, 704], Lg)) o from ev_t (c := p4 < 0) _ _ 2  zc36 e (fun n => Eq.refl _)
            exact ev_b 0 (zj30  (Option.some.inj zh29).symm ) (fun n => Eq.refl _)
          · have zh29 := itn zh29 zc36
            suffices e : Ev (d + 4, 1, 8, 328, 28, [.val (.ref 64), .val (.int p1), .val (.int p2), .val (.int p3), .val (.int p4), .val a_unk, .val a_unk, .val a_unk, .val a_unk, .val a_unk], [.ref 64], (126, 120, L, [Y, T, H, H2, RV, RU, ST, NS, I0, I1, I2, BO, FI, RG, GU, PU, MA, MN, MS, OT, SC], [192, 256, 384, 320, w, r5, 576, 640, 704], Lg)) o from ev_f (c := p4 < 0) _ _ 2  zc36 e (fun n => Eq.refl _)
            by_cases zc37 : 2 < p4
            · have zh29 := itp zh29 zc37
              suffices e : Ev (d + 4, 1, 8, 328, 38, [.val (.ref 64), .val (.int p1), .val (.int p2), .val (.int p3), .val (.int p4), .val a_unk, .val a_unk, .val a_unk, .val a_unk, .val a_unk], [.ref 64], (126, 120, L, [Y, T, H, H2, RV, RU, ST, NS, I0, I1, I2, BO, FI, RG, GU, PU, MA, MN, MS, OT, SC], [192, 256, 384, 320, w, r5, 576, 640, 704], Lg)) o from ev_t (c := 2 < p4) _ _ 3  zc37 e (fun n => Eq.refl _)
              exact ev_b 0 (zj30  (Option.some.inj zh29).symm ) (fun n => Eq.refl _)
            · have zh29 := itn zh29 zc37
              suffices e : Ev (d + 4, 1, 8, 328, 34, [.val (.ref 64), .val (.int p1), .val (.int p2), .val (.int p3), .val (.int p4), .val a_unk, .val a_unk, .val a_unk, .val a_unk, .val a_unk], [.ref 64], (126, 120, L, [Y, T, H, H2, RV, RU, ST, NS, I0, I1, I2, BO, FI, RG, GU, PU, MA, MN, MS, OT, SC], [192, 256, 384, 320, w, r5, 576, 640, 704], Lg)) o from ev_f (c := 2 < p4) _ _ 3  zc37 e (fun n => Eq.refl _)
              have zh38 := sum_r zh2 (Option.some.inj zh29).symm
              exact ev_b 2 (zj3 1 (Option.some.inj zh38) ) (fun n => Eq.refl _)
set_option maxRecDepth 1000000 in
set_option maxHeartbeats 4000000 in
theorem R_f_Y_span_2 (d : Nat) (Y T H2 H RU RV ST NS I0 I1 I2 BO FI RG GU PU MA MN MS OT SC : Nat → Nat → Int32) (w r5 : Nat) (L : Nat) (Lg : Int64) (p1 : Int32) (p2 : Int32) (p3 : Int32) (p4 : Int32) {r : Nat × Int32 × (Nat → Nat → Int32) × (Nat → Nat → Int32) × Nat} (h : f_Y_span Y H NS BO 256 r5 p1 p2 p3 p4 = some r) : Ev (d + 4, 1, 8, 328, 0, [.val (.ref 64), .val (.int p1), .val (.int p2), .val (.int p3), .val (.int p4), .val a_unk, .val a_unk, .val a_unk, .val a_unk, .val a_unk], [], (126, 120, L, [Y, T, H2, H, RU, RV, ST, NS, I0, I1, I2, BO, FI, RG, GU, PU, MA, MN, MS, OT, SC], [256, 192, 320, 384, w, r5, 576, 640, 704], Lg)) ((r.1, a_ov r.1 (.int r.2.1), (126, 120, L, [r.2.2.1, T, H2, H, RU, RV, ST, NS, I0, I1, I2, r.2.2.2.1, FI, RG, GU, PU, MA, MN, MS, OT, SC], [256, 192, 320, 384, w, r.2.2.2.2, 576, 640, 704], Lg)) : AOut) := by
  suffices key : ∀ o : AOut, ((r.1, a_ov r.1 (.int r.2.1), (126, 120, L, [r.2.2.1, T, H2, H, RU, RV, ST, NS, I0, I1, I2, r.2.2.2.1, FI, RG, GU, PU, MA, MN, MS, OT, SC], [256, 192, 320, 384, w, r.2.2.2.2, 576, 640, 704], Lg)) : AOut) = o → Ev (d + 4, 1, 8, 328, 0, [.val (.ref 64), .val (.int p1), .val (.int p2), .val (.int p3), .val (.int p4), .val a_unk, .val a_unk, .val a_unk, .val a_unk, .val a_unk], [], (126, 120, L, [Y, T, H2, H, RU, RV, ST, NS, I0, I1, I2, BO, FI, RG, GU, PU, MA, MN, MS, OT, SC], [256, 192, 320, 384, w, r5, 576, 640, 704], Lg)) o from key _ rfl
  intro o ho
  obtain ⟨zt1, zh2, h⟩ := bnd h
  have zj3 : ∀ (v1 : Int32), v1 = zt1 → Ev (d + 4, 1, 8, 328, 39, [.val (.ref 64), .val (.int p1), .val (.int p2), .val (.int p3), .val (.int p4), .val a_unk, .val a_unk, .val a_unk, .val a_unk, .val a_unk], [.int v1, .ref 64], (126, 120, L, [Y, T, H2, H, RU, RV, ST, NS, I0, I1, I2, BO, FI, RG, GU, PU, MA, MN, MS, OT, SC], [256, 192, 320, 384, w, r5, 576, 640, 704], Lg)) o := by
    intro v1 ze4
    subst ze4
    obtain ⟨⟨q2, Y_3⟩, zh5, h⟩ := bnd h
    have zh5 : f_Y_refuseUnless Y v1 = some (q2, Y_3) := zh5
    have ze6 := R_f_Y_refuseUnless_2 (d + 3) Y T H2 H RU RV ST NS I0 I1 I2 BO FI RG GU PU MA MN MS OT SC w r5 L Lg v1 zh5
    cases q2 with
    | zero =>
      have h := itp h rfl
      suffices e : Ev (d + 4, 0, 0, 328, 42, [.val (.ref 64), .val (.int p1), .val (.int p2), .val (.int p3), .val (.int p4), .val a_unk, .val a_unk, .val a_unk, .val a_unk, .val a_unk], [], (126, 120, L, [Y_3, T, H2, H, RU, RV, ST, NS, I0, I1, I2, BO, FI, RG, GU, PU, MA, MN, MS, OT, SC], [256, 192, 320, 384, w, r5, 576, 640, 704], Lg)) o from ev_call (fun v μ => (d + 4, 0, 0, 328, 42, [.val (.ref 64), .val (.int p1), .val (.int p2), .val (.int p3), .val (.int p4), .val a_unk, .val a_unk, .val a_unk, .val a_unk, .val a_unk], v.toList ++ [], μ)) 1 ze6 e (fun n => Eq.refl _)
      obtain ⟨zb7, zh8, h⟩ := bnd h
      suffices e : Ev (d + 4, 0, 0, 328, 55, [.val (.ref 64), .val (.int p1), .val (.int p2), .val (.int p3), .val (.int p4), .val (.int 60), .val (.int 0), .val (.int 0), .val (.int 0), .val a_unk], [], (126, 120, L, [Y_3, T, H2, H, RU, RV, ST, NS, I0, I1, I2, BO, FI, RG, GU, PU, MA, MN, MS, OT, SC], [256, 192, 320, 384, w, r5, 576, 640, 704], Lg)) o from ev_b 8 e (fun n => Eq.refl _)
      refine ev_loop (δ := Value) (fun a j => (d + 4, 0, 0, 328, 55, [.val (.ref 64), .val (.int p1), .val (.int p2), .val (.int p3), .val (.int p4), .val (.int a.1), .val (.int a.2.1), .val (.int a.2.2.1), .val (.int a.2.2.2.1), .val j], [], (126, 120, L, [Y_3, T, H2, H, RU, RV, ST, NS, I0, I1, I2, a.2.2.2.2.1, FI, RG, GU, PU, MA, MN, MS, OT, SC], [256, 192, 320, 384, w, a.2.2.2.2.2, 576, 640, 704], Lg))) (fun b => ∀ s19 : Value, ∀ s20 : Value, Ev (d + 4, 0, 0, 328, 117, [.val (.ref 64), .val (.int p1), .val (.int p2), .val (.int p3), .val (.int p4), .val (.int b.1), .val (.int b.2.1), .val (.int b.2.2.1), .val s19, .val s20], [], (126, 120, L, [Y_3, T, H2, H, RU, RV, ST, NS, I0, I1, I2, b.2.2.2.1, FI, RG, GU, PU, MA, MN, MS, OT, SC], [256, 192, 320, 384, w, b.2.2.2.2, 576, 640, 704], Lg)) o) ?_ a_F (60, 0, 0, 0, BO, r5) zb7 zh8 ?_ a_unk
      · rintro ⟨v4, v5, v6, v7, BO_9, w10⟩ zr12 zh11 zi9 zx10 s8
        have zh11 : f_Y_span_l55 H NS p2 p1 p3 256 v4 v5 v6 v7 BO_9 w10 = some zr12 := zh11
        by_cases zc13 : p2 ≤ v7
        · have zh11 := itp zh11 zc13
          suffices e : Ev (d + 4, 0, 0, 328, 117, [.val (.ref 64), .val (.int p1), .val (.int p2), .val (.int p3), .val (.int p4), .val (.int v4), .val (.int v5), .val (.int v6), .val (.int v7), .val s8], [], (126, 120, L, [Y_3, T, H2, H, RU, RV, ST, NS, I0, I1, I2, BO_9, FI, RG, GU, PU, MA, MN, MS, OT, SC], [256, 192, 320, 384, w, w10, 576, 640, 704], Lg)) o from ev_t (c := p2 ≤ v7) _ _ 3  zc13 e (fun n => Eq.refl _)
          exact ev_b 0 (zx10 _ (Option.some.inj zh11).symm (.int v7) s8) (fun n => Eq.refl _)
        · have zh11 := itn zh11 zc13
          suffices e : Ev (d + 4, 0, 0, 328, 61, [.val (.ref 64), .val (.int p1), .val (.int p2), .val (.int p3), .val (.int p4), .val (.int v4), .val (.int v5), .val (.int v6), .val (.int v7), .val s8], [], (126, 120, L, [Y_3, T, H2, H, RU, RV, ST, NS, I0, I1, I2, BO_9, FI, RG, GU, PU, MA, MN, MS, OT, SC], [256, 192, 320, 384, w, w10, 576, 640, 704], Lg)) o from ev_f (c := p2 ≤ v7) _ _ 3  zc13 e (fun n => Eq.refl _)
          obtain ⟨BO_12, zh14, zh11⟩ := bnd zh11
          have zh14 : f_Y_lookNow H NS BO_9 = some BO_12 := zh14
          have ze15 := R_f_Y_lookNow_2 (d + 1) Y_3 T H2 H RU RV ST NS I0 I1 I2 BO_9 FI RG GU PU MA MN MS OT SC w w10 L Lg zh14
          suffices e : Ev (d + 4, 0, 0, 328, 65, [.val (.ref 64), .val (.int p1), .val (.int p2), .val (.int p3), .val (.int p4), .val (.int v4), .val (.int v5), .val (.int v6), .val (.int v7), .val s8], [.ref 768], (126, 120, L, [Y_3, T, H2, H, RU, RV, ST, NS, I0, I1, I2, BO_12, FI, RG, GU, PU, MA, MN, MS, OT, SC], [256, 192, 320, 384, w, 256, 576, 640, 704], Lg)) o from ev_call (fun v μ => (d + 4, 0, 0, 328, 65, [.val (.ref 64), .val (.int p1), .val (.int p2), .val (.int p3), .val (.int p4), .val (.int v4), .val (.int v5), .val (.int v6), .val (.int v7), .val s8], v.toList ++ [], μ)) 2 ze15 e (fun n => Eq.refl _)
          obtain ⟨BO_13, zh16, zh11⟩ := bnd zh11
          have zh16 : f_Board_runWeek H BO_12 (p1 + v7) p3 = some BO_13 := zh16
          have ze17 := R_f_Board_runWeek_1 (d + 0) Y_3 T H2 H RU RV ST NS I0 I1 I2 BO_12 FI RG GU PU MA MN MS OT SC 256 192 320 384 w 576 640 704 L Lg (p1 + v7) p3 zh16
          suffices e : Ev (d + 4, 0, 0, 328, 77, [.val (.ref 64), .val (.int p1), .val (.int p2), .val (.int p3), .val (.int p4), .val (.int v4), .val (.int v5), .val (.int v6), .val (.int v7), .val (.ref 768)], [], (126, 120, L, [Y_3, T, H2, H, RU, RV, ST, NS, I0, I1, I2, BO_13, FI, RG, GU, PU, MA, MN, MS, OT, SC], [256, 192, 320, 384, w, 256, 576, 640, 704], Lg)) o from ev_call (fun v μ => (d + 4, 0, 0, 328, 77, [.val (.ref 64), .val (.int p1), .val (.int p2), .val (.int p3), .val (.int p4), .val (.int v4), .val (.int v5), .val (.int v6), .val (.int v7), .val (.ref 768)], v.toList ++ [], μ)) 7 ze17 e (fun n => Eq.refl _)
          obtain ⟨x14, zh18, zh11⟩ := bnd zh11
          have zh18 : f_Math_min v4 (BO_13 0 5) = some x14 := zh18
          have ze19 := R_f_Math_min_0 (d + 3) Y_3 T H2 H RU RV ST NS I0 I1 I2 BO_13 FI RG GU PU MA MN MS OT SC 256 192 320 384 w 256 576 640 704 L Lg v4 (BO_13 0 5) zh18
          suffices e : Ev (d + 4, 0, 0, 328, 87, [.val (.ref 64), .val (.int p1), .val (.int p2), .val (.int p3), .val (.int p4), .val (.int v4), .val (.int v5), .val (.int v6), .val (.int v7), .val (.ref 768)], [.int x14], (126, 120, L, [Y_3, T, H2, H, RU, RV, ST, NS, I0, I1, I2, BO_13, FI, RG, GU, PU, MA, MN, MS, OT, SC], [256, 192, 320, 384, w, 256, 576, 640, 704], Lg)) o from ev_call (fun v μ => (d + 4, 0, 0, 328, 87, [.val (.ref 64), .val (.int p1), .val (.int p2), .val (.int p3), .val (.int p4), .val (.int v4), .val (.int v5), .val (.int v6), .val (.int v7), .val (.ref 768)], v.toList ++ [], μ)) 4 ze19 e (fun n => Eq.refl _)
          obtain ⟨x15, zh20, zh11⟩ := bnd zh11
          have zh20 : f_Math_max v5 (BO_13 0 5) = some x15 := zh20
          have ze21 := R_f_Math_max_0 (d + 3) Y_3 T H2 H RU RV ST NS I0 I1 I2 BO_13 FI RG GU PU MA MN MS OT SC 256 192 320 384 w 256 576 640 704 L Lg v5 (BO_13 0 5) zh20
          suffices e : Ev (d + 4, 0, 0, 328, 99, [.val (.ref 64), .val (.int p1), .val (.int p2), .val (.int p3), .val (.int p4), .val (.int x14), .val (.int v5), .val (.int v6), .val (.int v7), .val (.ref 768)], [.int x15], (126, 120, L, [Y_3, T, H2, H, RU, RV, ST, NS, I0, I1, I2, BO_13, FI, RG, GU, PU, MA, MN, MS, OT, SC], [256, 192, 320, 384, w, 256, 576, 640, 704], Lg)) o from ev_call (fun v μ => (d + 4, 0, 0, 328, 99, [.val (.ref 64), .val (.int p1), .val (.int p2), .val (.int p3), .val (.int p4), .val (.int x14), .val (.int v5), .val (.int v6), .val (.int v7), .val (.ref 768)], v.toList ++ [], μ)) 5 ze21 e (fun n => Eq.refl _)
          exact ev_b 8 (zi9 _ (Option.some.inj zh11).symm (.ref 768)) (fun n => Eq.refl _)
      · obtain ⟨v16, v17, v18, BO_21, w22⟩ := zb7
        intro s19 s20
        by_cases zc22 : p4 = 0
        · have h := itp h zc22
          suffices e : Ev (d + 4, 0, 0, 328, 144, [.val (.ref 64), .val (.int p1), .val (.int p2), .val (.int p3), .val (.int p4), .val (.int v16), .val (.int v17), .val (.int v18), .val s19, .val s20], [], (126, 120, L, [Y_3, T, H2, H, RU, RV, ST, NS, I0, I1, I2, BO_21, FI, RG, GU, PU, MA, MN, MS, OT, SC], [256, 192, 320, 384, w, w22, 576, 640, 704], Lg)) o from ev_sw [((0 : Int32), 144), ((1 : Int32), 147)] p4 (fun tt => (d + 4, 0, 0, 328, tt, [.val (.ref 64), .val (.int p1), .val (.int p2), .val (.int p3), .val (.int p4), .val (.int v16), .val (.int v17), .val (.int v18), .val s19, .val s20], [], (126, 120, L, [Y_3, T, H2, H, RU, RV, ST, NS, I0, I1, I2, BO_21, FI, RG, GU, PU, MA, MN, MS, OT, SC], [256, 192, 320, 384, w, w22, 576, 640, 704], Lg))) 150 144 2 (fun f => by simp only [a_sw, if_pos zc22]) e (fun n => Eq.refl _)
          have ze23 := Option.some.inj h
          subst ze23
          exact ev_rete 2 ho (fun n => Eq.refl _)
        have h := itn h zc22
        by_cases zc24 : p4 = 1
        · have h := itp h zc24
          suffices e : Ev (d + 4, 0, 0, 328, 147, [.val (.ref 64), .val (.int p1), .val (.int p2), .val (.int p3), .val (.int p4), .val (.int v16), .val (.int v17), .val (.int v18), .val s19, .val s20], [], (126, 120, L, [Y_3, T, H2, H, RU, RV, ST, NS, I0, I1, I2, BO_21, FI, RG, GU, PU, MA, MN, MS, OT, SC], [256, 192, 320, 384, w, w22, 576, 640, 704], Lg)) o from ev_sw [((0 : Int32), 144), ((1 : Int32), 147)] p4 (fun tt => (d + 4, 0, 0, 328, tt, [.val (.ref 64), .val (.int p1), .val (.int p2), .val (.int p3), .val (.int p4), .val (.int v16), .val (.int v17), .val (.int v18), .val s19, .val s20], [], (126, 120, L, [Y_3, T, H2, H, RU, RV, ST, NS, I0, I1, I2, BO_21, FI, RG, GU, PU, MA, MN, MS, OT, SC], [256, 192, 320, 384, w, w22, 576, 640, 704], Lg))) 150 147 2 (fun f => by simp only [a_sw, if_neg zc22, if_pos zc24]) e (fun n => Eq.refl _)
          have ze25 := Option.some.inj h
          subst ze25
          exact ev_rete 2 ho (fun n => Eq.refl _)
        have h := itn h zc24
        suffices e : Ev (d + 4, 0, 0, 328, 150, [.val (.ref 64), .val (.int p1), .val (.int p2), .val (.int p3), .val (.int p4), .val (.int v16), .val (.int v17), .val (.int v18), .val s19, .val s20], [], (126, 120, L, [Y_3, T, H2, H, RU, RV, ST, NS, I0, I1, I2, BO_21, FI, RG, GU, PU, MA, MN, MS, OT, SC], [256, 192, 320, 384, w, w22, 576, 640, 704], Lg)) o from ev_sw [((0 : Int32), 144), ((1 : Int32), 147)] p4 (fun tt => (d + 4, 0, 0, 328, tt, [.val (.ref 64), .val (.int p1), .val (.int p2), .val (.int p3), .val (.int p4), .val (.int v16), .val (.int v17), .val (.int v18), .val s19, .val s20], [], (126, 120, L, [Y_3, T, H2, H, RU, RV, ST, NS, I0, I1, I2, BO_21, FI, RG, GU, PU, MA, MN, MS, OT, SC], [256, 192, 320, 384, w, w22, 576, 640, 704], Lg))) 150 150 2 (fun f => by simp only [a_sw, if_neg zc22, if_neg zc24]) e (fun n => Eq.refl _)
        have ze26 := Option.some.inj h
        subst ze26
        exact ev_rete 2 ho (fun n => Eq.refl _)
    | succ q2 =>
      have h := itn h (Nat.succ_ne_zero q2)
      have ze27 := Option.some.inj h
      subst ze27
      subst ho
      exact ev_thr (fun v μ => (d + 4, 0, 0, 328, 42, [.val (.ref 64), .val (.int p1), .val (.int p2), .val (.int p3), .val (.int p4), .val a_unk, .val a_unk, .val a_unk, .val a_unk, .val a_unk], v.toList ++ [], μ)) 1 ze6 (fun n => Eq.refl _) (fun n => rfl)
  obtain ⟨zt28, zh29, zh2⟩ := bnd zh2
  have zj30 : zt28 = .inl () → Ev (d + 4, 1, 8, 328, 38, [.val (.ref 64), .val (.int p1), .val (.int p2), .val (.int p3), .val (.int p4), .val a_unk, .val a_unk, .val a_unk, .val a_unk, .val a_unk], [.ref 64], (126, 120, L, [Y, T, H2, H, RU, RV, ST, NS, I0, I1, I2, BO, FI, RG, GU, PU, MA, MN, MS, OT, SC], [256, 192, 320, 384, w, r5, 576, 640, 704], Lg)) o := by
    intro ze31
    have zh2 := sum_l zh2 ze31
    exact ev_b 1 (zj3 0 (Option.some.inj zh2) ) (fun n => Eq.refl _)
  by_cases zc32 : p2 < 1
  · have zh29 := itp zh29 zc32
    suffices e : Ev (d + 4, 1, 8, 328, 38, [.val (.ref 64), .val (.int p1), .val (.int p2), .val (.int p3), .val (.int p4), .val a_unk, .val a_unk, .val a_unk, .val a_unk, .val a_unk], [.ref 64], (126, 120, L, [Y, T, H2, H, RU, RV, ST, NS, I0, I1, I2, BO, FI, RG, GU, PU, MA, MN, MS, OT, SC], [256, 192, 320, 384, w, r5, 576, 640, 704], Lg)) o from ev_t (c := p2 < 1) _ _ 4  zc32 e (fun n => Eq.refl _)
    exact ev_b 0 (zj30  (Option.some.inj zh29).symm ) (fun n => Eq.refl _)
  · have zh29 := itn zh29 zc32
    suffices e : Ev (d + 4, 1, 8, 328, 6, [.val (.ref 64), .val (.int p1), .val (.int p2), .val (.int p3), .val (.int p4), .val a_unk, .val a_unk, .val a_unk, .val a_unk, .val a_unk], [.ref 64], (126, 120, L, [Y, T, H2, H, RU, RV, ST, NS, I0, I1, I2, BO, FI, RG, GU, PU, MA, MN, MS, OT, SC], [256, 192, 320, 384, w, r5, 576, 640, 704], Lg)) o from ev_f (c := p2 < 1) _ _ 4  zc32 e (fun n => Eq.refl _)
    by_cases zc33 : 20 < p2
    · have zh29 := itp zh29 zc33
      suffices e : Ev (d + 4, 1, 8, 328, 38, [.val (.ref 64), .val (.int p1), .val (.int p2), .val (.int p3), .val (.int p4), .val a_unk, .val a_unk, .val a_unk, .val a_unk, .val a_unk], [.ref 64], (126, 120, L, [Y, T, H2, H, RU, RV, ST, NS, I0, I1, I2, BO, FI, RG, GU, PU, MA, MN, MS, OT, SC], [256, 192, 320, 384, w, r5, 576, 640, 704], Lg)) o from ev_t (c := 20 < p2) _ _ 3  zc33 e (fun n => Eq.refl _)
      exact ev_b 0 (zj30  (Option.some.inj zh29).symm ) (fun n => Eq.refl _)
    · have zh29 := itn zh29 zc33
      suffices e : Ev (d + 4, 1, 8, 328, 12, [.val (.ref 64), .val (.int p1), .val (.int p2), .val (.int p3), .val (.int p4), .val a_unk, .val a_unk, .val a_unk, .val a_unk, .val a_unk], [.ref 64], (126, 120, L, [Y, T, H2, H, RU, RV, ST, NS, I0, I1, I2, BO, FI, RG, GU, PU, MA, MN, MS, OT, SC], [256, 192, 320, 384, w, r5, 576, 640, 704], Lg)) o from ev_f (c := 20 < p2) _ _ 3  zc33 e (fun n => Eq.refl _)
      by_cases zc34 : p3 < 1
      · have zh29 := itp zh29 zc34
        suffices e : Ev (d + 4, 1, 8, 328, 38, [.val (.ref 64), .val (.int p1), .val (.int p2), .val (.int p3), .val (.int p4), .val a_unk, .val a_unk, .val a_unk, .val a_unk, .val a_unk], [.ref 64], (126, 120, L, [Y, T, H2, H, RU, RV, ST, NS, I0, I1, I2, BO, FI, RG, GU, PU, MA, MN, MS, OT, SC], [256, 192, 320, 384, w, r5, 576, 640, 704], Lg)) o from ev_t (c := p3 < 1) _ _ 3  zc34 e (fun n => Eq.refl _)
        exact ev_b 0 (zj30  (Option.some.inj zh29).symm ) (fun n => Eq.refl _)
      · have zh29 := itn zh29 zc34
        suffices e : Ev (d + 4, 1, 8, 328, 17, [.val (.ref 64), .val (.int p1), .val (.int p2), .val (.int p3), .val (.int p4), .val a_unk, .val a_unk, .val a_unk, .val a_unk, .val a_unk], [.ref 64], (126, 120, L, [Y, T, H2, H, RU, RV, ST, NS, I0, I1, I2, BO, FI, RG, GU, PU, MA, MN, MS, OT, SC], [256, 192, 320, 384, w, r5, 576, 640, 704], Lg)) o from ev_f (c := p3 < 1) _ _ 3  zc34 e (fun n => Eq.refl _)
        by_cases zc35 : 60 < p3
        · have zh29 := itp zh29 zc35
          suffices e : Ev (d + 4, 1, 8, 328, 38, [.val (.ref 64), .val (.int p1), .val (.int p2), .val (.int p3), .val (.int p4), .val a_unk, .val a_unk, .val a_unk, .val a_unk, .val a_unk], [.ref 64], (126, 120, L, [Y, T, H2, H, RU, RV, ST, NS, I0, I1, I2, BO, FI, RG, GU, PU, MA, MN, MS, OT, SC], [256, 192, 320, 384, w, r5, 576, 640, 704], Lg)) o from ev_t (c := 60 < p3) _ _ 3  zc35 e (fun n => Eq.refl _)
          exact ev_b 0 (zj30  (Option.some.inj zh29).symm ) (fun n => Eq.refl _)
        · have zh29 := itn zh29 zc35
          suffices e : Ev (d + 4, 1, 8, 328, 23, [.val (.ref 64), .val (.int p1), .val (.int p2), .val (.int p3), .val (.int p4), .val a_unk, .val a_unk, .val a_unk, .val a_unk, .val a_unk], [.ref 64], (126, 120, L, [Y, T, H2, H, RU, RV, ST, NS, I0, I1, I2, BO, FI, RG, GU, PU, MA, MN, MS, OT, SC], [256, 192, 320, 384, w, r5, 576, 640, 704], Lg)) o from ev_f (c := 60 < p3) _ _ 3  zc35 e (fun n => Eq.refl _)
          by_cases zc36 : p4 < 0
          · have zh29 := itp zh29 zc36
            suffices e : Ev (d + 4, 1, 8, 328, 38, [.val (.ref 64), .val (.int p1), .val (.int p2), .val (.int p3), .val (.int p4), .val a_unk, .val a_unk, .val a_unk, .val a_unk, .val a_unk], [.ref 64], (126, 120, L, [Y, T, H2, H, RU, RV, ST, NS, I0, I1, I2, BO, FI, RG, GU, PU, MA, MN, MS, OT, SC], [256, 192, 320, 384, w, r5, 576, 640, 704], Lg)) o from ev_t (c := p4 < 0) _ _ 2  zc36 e (fun n => Eq.refl _)
            exact ev_b 0 (zj30  (Option.some.inj zh29).symm ) (fun n => Eq.refl _)
          · have zh29 := itn zh29 zc36
            suffices e : Ev (d + 4, 1, 8, 328, 28, [.val (.ref 64), .val (.int p1), .val (.int p2), .val (.int p3), .val (.int p4), .val a_unk, .val a_unk, .val a_unk, .val a_unk, .val a_unk], [.ref 64], (126, 120, L, [Y, T, H2, H, RU, RV, ST, NS, I0, I1, I2, BO, FI, RG, GU, PU, MA, MN, MS, OT, SC], [256, 192, 320, 384, w, r5, 576, 640, 704], Lg)) o from ev_f (c := p4 < 0) _ _ 2  zc36 e (fun n => Eq.refl _)
            by_cases zc37 : 2 < p4
            · have zh29 := itp zh29 zc37
              suffices e : Ev (d + 4, 1, 8, 328, 38, [.val (.ref 64), .val (.int p1), .val (.int p2), .val (.int p3), .val (.int p4), .val a_unk, .val a_unk, .val a_unk, .val a_unk, .val a_unk], [.ref 64], (126, 120, L, [Y, T, H2, H, RU, RV, ST, NS, I0, I1, I2, BO, FI, RG, GU, PU, MA, MN, MS, OT, SC], [256, 192, 320, 384, w, r5, 576, 640, 704], Lg)) o from ev_t (c := 2 < p4) _ _ 3  zc37 e (fun n => Eq.refl _)
              exact ev_b 0 (zj30  (Option.some.inj zh29).symm ) (fun n => Eq.refl _)
            · have zh29 := itn zh29 zc37
              suffices e : Ev (d + 4, 1, 8, 328, 34, [.val (.ref 64), .val (.int p1), .val (.int p2), .val (.int p3), .val (.int p4), .val a_unk, .val a_unk, .val a_unk, .val a_unk, .val a_unk], [.ref 64], (126, 120, L, [Y, T, H2, H, RU, RV, ST, NS, I0, I1, I2, BO, FI, RG, GU, PU, MA, MN, MS, OT, SC], [256, 192, 320, 384, w, r5, 576, 640, 704], Lg)) o from ev_f (c := 2 < p4) _ _ 3  zc37 e (fun n => Eq.refl _)
              have zh38 := sum_r zh2 (Option.some.inj zh29).symm
              exact ev_b 2 (zj3 1 (Option.some.inj zh38) ) (fun n => Eq.refl _)
set_option maxRecDepth 1000000 in
set_option maxHeartbeats 4000000 in
theorem R_f_Y_span_3 (d : Nat) (Y T H2 H RV RU ST NS I0 I1 I2 BO FI RG GU PU MA MN MS OT SC : Nat → Nat → Int32) (w r5 : Nat) (L : Nat) (Lg : Int64) (p1 : Int32) (p2 : Int32) (p3 : Int32) (p4 : Int32) {r : Nat × Int32 × (Nat → Nat → Int32) × (Nat → Nat → Int32) × Nat} (h : f_Y_span Y H NS BO 256 r5 p1 p2 p3 p4 = some r) : Ev (d + 4, 1, 8, 328, 0, [.val (.ref 64), .val (.int p1), .val (.int p2), .val (.int p3), .val (.int p4), .val a_unk, .val a_unk, .val a_unk, .val a_unk, .val a_unk], [], (126, 120, L, [Y, T, H2, H, RV, RU, ST, NS, I0, I1, I2, BO, FI, RG, GU, PU, MA, MN, MS, OT, SC], [256, 192, 384, 320, w, r5, 576, 640, 704], Lg)) ((r.1, a_ov r.1 (.int r.2.1), (126, 120, L, [r.2.2.1, T, H2, H, RV, RU, ST, NS, I0, I1, I2, r.2.2.2.1, FI, RG, GU, PU, MA, MN, MS, OT, SC], [256, 192, 384, 320, w, r.2.2.2.2, 576, 640, 704], Lg)) : AOut) := by
  suffices key : ∀ o : AOut, ((r.1, a_ov r.1 (.int r.2.1), (126, 120, L, [r.2.2.1, T, H2, H, RV, RU, ST, NS, I0, I1, I2, r.2.2.2.1, FI, RG, GU, PU, MA, MN, MS, OT, SC], [256, 192, 384, 320, w, r.2.2.2.2, 576, 640, 704], Lg)) : AOut) = o → Ev (d + 4, 1, 8, 328, 0, [.val (.ref 64), .val (.int p1), .val (.int p2), .val (.int p3), .val (.int p4), .val a_unk, .val a_unk, .val a_unk, .val a_unk, .val a_unk], [], (126, 120, L, [Y, T, H2, H, RV, RU, ST, NS, I0, I1, I2, BO, FI, RG, GU, PU, MA, MN, MS, OT, SC], [256, 192, 384, 320, w, r5, 576, 640, 704], Lg)) o from key _ rfl
  intro o ho
  obtain ⟨zt1, zh2, h⟩ := bnd h
  have zj3 : ∀ (v1 : Int32), v1 = zt1 → Ev (d + 4, 1, 8, 328, 39, [.val (.ref 64), .val (.int p1), .val (.int p2), .val (.int p3), .val (.int p4), .val a_unk, .val a_unk, .val a_unk, .val a_unk, .val a_unk], [.int v1, .ref 64], (126, 120, L, [Y, T, H2, H, RV, RU, ST, NS, I0, I1, I2, BO, FI, RG, GU, PU, MA, MN, MS, OT, SC], [256, 192, 384, 320, w, r5, 576, 640, 704], Lg)) o := by
    intro v1 ze4
    subst ze4
    obtain ⟨⟨q2, Y_3⟩, zh5, h⟩ := bnd h
    have zh5 : f_Y_refuseUnless Y v1 = some (q2, Y_3) := zh5
    have ze6 := R_f_Y_refuseUnless_3 (d + 3) Y T H2 H RV RU ST NS I0 I1 I2 BO FI RG GU PU MA MN MS OT SC w r5 L Lg v1 zh5
    cases q2 with
    | zero =>
      have h := itp h rfl
      suffices e : Ev (d + 4, 0, 0, 328, 42, [.val (.ref 64), .val (.int p1), .val (.int p2), .val (.int p3), .val (.int p4), .val a_unk, .val a_unk, .val a_unk, .val a_unk, .val a_unk], [], (126, 120, L, [Y_3, T, H2, H, RV, RU, ST, NS, I0, I1, I2, BO, FI, RG, GU, PU, MA, MN, MS, OT, SC], [256, 192, 384, 320, w, r5, 576, 640, 704], Lg)) o from ev_call (fun v μ => (d + 4, 0, 0, 328, 42, [.val (.ref 64), .val (.int p1), .val (.int p2), .val (.int p3), .val (.int p4), .val a_unk, .val a_unk, .val a_unk, .val a_unk, .val a_unk], v.toList ++ [], μ)) 1 ze6 e (fun n => Eq.refl _)
      obtain ⟨zb7, zh8, h⟩ := bnd h
      suffices e : Ev (d + 4, 0, 0, 328, 55, [.val (.ref 64), .val (.int p1), .val (.int p2), .val (.int p3), .val (.int p4), .val (.int 60), .val (.int 0), .val (.int 0), .val (.int 0), .val a_unk], [], (126, 120, L, [Y_3, T, H2, H, RV, RU, ST, NS, I0, I1, I2, BO, FI, RG, GU, PU, MA, MN, MS, OT, SC], [256, 192, 384, 320, w, r5, 576, 640, 704], Lg)) o from ev_b 8 e (fun n => Eq.refl _)
      refine ev_loop (δ := Value) (fun a j => (d + 4, 0, 0, 328, 55, [.val (.ref 64), .val (.int p1), .val (.int p2), .val (.int p3), .val (.int p4), .val (.int a.1), .val (.int a.2.1), .val (.int a.2.2.1), .val (.int a.2.2.2.1), .val j], [], (126, 120, L, [Y_3, T, H2, H, RV, RU, ST, NS, I0, I1, I2, a.2.2.2.2.1, FI, RG, GU, PU, MA, MN, MS, OT, SC], [256, 192, 384, 320, w, a.2.2.2.2.2, 576, 640, 704], Lg))) (fun b => ∀ s19 : Value, ∀ s20 : Value, Ev (d + 4, 0, 0, 328, 117, [.val (.ref 64), .val (.int p1), .val (.int p2), .val (.int p3), .val (.int p4), .val (.int b.1), .val (.int b.2.1), .val (.int b.2.2.1), .val s19, .val s20], [], (126, 120, L, [Y_3, T, H2, H, RV, RU, ST, NS, I0, I1, I2, b.2.2.2.1, FI, RG, GU, PU, MA, MN, MS, OT, SC], [256, 192, 384, 320, w, b.2.2.2.2, 576, 640, 704], Lg)) o) ?_ a_F (60, 0, 0, 0, BO, r5) zb7 zh8 ?_ a_unk
      · rintro ⟨v4, v5, v6, v7, BO_9, w10⟩ zr12 zh11 zi9 zx10 s8
        have zh11 : f_Y_span_l55 H NS p2 p1 p3 256 v4 v5 v6 v7 BO_9 w10 = some zr12 := zh11
        by_cases zc13 : p2 ≤ v7
        · have zh11 := itp zh11 zc13
          suffices e : Ev (d + 4, 0, 0, 328, 117, [.val (.ref 64), .val (.int p1), .val (.int p2), .val (.int p3), .val (.int p4), .val (.int v4), .val (.int v5), .val (.int v6), .val (.int v7), .val s8], [], (126, 120, L, [Y_3, T, H2, H, RV, RU, ST, NS, I0, I1, I2, BO_9, FI, RG, GU, PU, MA, MN, MS, OT, SC], [256, 192, 384, 320, w, w10, 576, 640, 704], Lg)) o from ev_t (c := p2 ≤ v7) _ _ 3  zc13 e (fun n => Eq.refl _)
          exact ev_b 0 (zx10 _ (Option.some.inj zh11).symm (.int v7) s8) (fun n => Eq.refl _)
        · have zh11 := itn zh11 zc13
          suffices e : Ev (d + 4, 0, 0, 328, 61, [.val (.ref 64), .val (.int p1), .val (.int p2), .val (.int p3), .val (.int p4), .val (.int v4), .val (.int v5), .val (.int v6), .val (.int v7), .val s8], [], (126, 120, L, [Y_3, T, H2, H, RV, RU, ST, NS, I0, I1, I2, BO_9, FI, RG, GU, PU, MA, MN, MS, OT, SC], [256, 192, 384, 320, w, w10, 576, 640, 704], Lg)) o from ev_f (c := p2 ≤ v7) _ _ 3  zc13 e (fun n => Eq.refl _)
          obtain ⟨BO_12, zh14, zh11⟩ := bnd zh11
          have zh14 : f_Y_lookNow H NS BO_9 = some BO_12 := zh14
          have ze15 := R_f_Y_lookNow_3 (d + 1) Y_3 T H2 H RV RU ST NS I0 I1 I2 BO_9 FI RG GU PU MA MN MS OT SC w w10 L Lg zh14
          suffices e : Ev (d + 4, 0, 0, 328, 65, [.val (.ref 64), .val (.int p1), .val (.int p2), .val (.int p3), .val (.int p4), .val (.int v4), .val (.int v5), .val (.int v6), .val (.int v7), .val s8], [.ref 768], (126, 120, L, [Y_3, T, H2, H, RV, RU, ST, NS, I0, I1, I2, BO_12, FI, RG, GU, PU, MA, MN, MS, OT, SC], [256, 192, 384, 320, w, 256, 576, 640, 704], Lg)) o from ev_call (fun v μ => (d + 4, 0, 0, 328, 65, [.val (.ref 64), .val (.int p1), .val (.int p2), .val (.int p3), .val (.int p4), .val (.int v4), .val (.int v5), .val (.int v6), .val (.int v7), .val s8], v.toList ++ [], μ)) 2 ze15 e (fun n => Eq.refl _)
          obtain ⟨BO_13, zh16, zh11⟩ := bnd zh11
          have zh16 : f_Board_runWeek H BO_12 (p1 + v7) p3 = some BO_13 := zh16
          have ze17 := R_f_Board_runWeek_1 (d + 0) Y_3 T H2 H RV RU ST NS I0 I1 I2 BO_12 FI RG GU PU MA MN MS OT SC 256 192 384 320 w 576 640 704 L Lg (p1 + v7) p3 zh16
          suffices e : Ev (d + 4, 0, 0, 328, 77, [.val (.ref 64), .val (.int p1), .val (.int p2), .val (.int p3), .val (.int p4), .val (.int v4), .val (.int v5), .val (.int v6), .val (.int v7), .val (.ref 768)], [], (126, 120, L, [Y_3, T, H2, H, RV, RU, ST, NS, I0, I1, I2, BO_13, FI, RG, GU, PU, MA, MN, MS, OT, SC], [256, 192, 384, 320, w, 256, 576, 640, 704], Lg)) o from ev_call (fun v μ => (d + 4, 0, 0, 328, 77, [.val (.ref 64), .val (.int p1), .val (.int p2), .val (.int p3), .val (.int p4), .val (.int v4), .val (.int v5), .val (.int v6), .val (.int v7), .val (.ref 768)], v.toList ++ [], μ)) 7 ze17 e (fun n => Eq.refl _)
          obtain ⟨x14, zh18, zh11⟩ := bnd zh11
          have zh18 : f_Math_min v4 (BO_13 0 5) = some x14 := zh18
          have ze19 := R_f_Math_min_0 (d + 3) Y_3 T H2 H RV RU ST NS I0 I1 I2 BO_13 FI RG GU PU MA MN MS OT SC 256 192 384 320 w 256 576 640 704 L Lg v4 (BO_13 0 5) zh18
          suffices e : Ev (d + 4, 0, 0, 328, 87, [.val (.ref 64), .val (.int p1), .val (.int p2), .val (.int p3), .val (.int p4), .val (.int v4), .val (.int v5), .val (.int v6), .val (.int v7), .val (.ref 768)], [.int x14], (126, 120, L, [Y_3, T, H2, H, RV, RU, ST, NS, I0, I1, I2, BO_13, FI, RG, GU, PU, MA, MN, MS, OT, SC], [256, 192, 384, 320, w, 256, 576, 640, 704], Lg)) o from ev_call (fun v μ => (d + 4, 0, 0, 328, 87, [.val (.ref 64), .val (.int p1), .val (.int p2), .val (.int p3), .val (.int p4), .val (.int v4), .val (.int v5), .val (.int v6), .val (.int v7), .val (.ref 768)], v.toList ++ [], μ)) 4 ze19 e (fun n => Eq.refl _)
          obtain ⟨x15, zh20, zh11⟩ := bnd zh11
          have zh20 : f_Math_max v5 (BO_13 0 5) = some x15 := zh20
          have ze21 := R_f_Math_max_0 (d + 3) Y_3 T H2 H RV RU ST NS I0 I1 I2 BO_13 FI RG GU PU MA MN MS OT SC 256 192 384 320 w 256 576 640 704 L Lg v5 (BO_13 0 5) zh20
          suffices e : Ev (d + 4, 0, 0, 328, 99, [.val (.ref 64), .val (.int p1), .val (.int p2), .val (.int p3), .val (.int p4), .val (.int x14), .val (.int v5), .val (.int v6), .val (.int v7), .val (.ref 768)], [.int x15], (126, 120, L, [Y_3, T, H2, H, RV, RU, ST, NS, I0, I1, I2, BO_13, FI, RG, GU, PU, MA, MN, MS, OT, SC], [256, 192, 384, 320, w, 256, 576, 640, 704], Lg)) o from ev_call (fun v μ => (d + 4, 0, 0, 328, 99, [.val (.ref 64), .val (.int p1), .val (.int p2), .val (.int p3), .val (.int p4), .val (.int x14), .val (.int v5), .val (.int v6), .val (.int v7), .val (.ref 768)], v.toList ++ [], μ)) 5 ze21 e (fun n => Eq.refl _)
          exact ev_b 8 (zi9 _ (Option.some.inj zh11).symm (.ref 768)) (fun n => Eq.refl _)
      · obtain ⟨v16, v17, v18, BO_21, w22⟩ := zb7
        intro s19 s20
        by_cases zc22 : p4 = 0
        · have h := itp h zc22
          suffices e : Ev (d + 4, 0, 0, 328, 144, [.val (.ref 64), .val (.int p1), .val (.int p2), .val (.int p3), .val (.int p4), .val (.int v16), .val (.int v17), .val (.int v18), .val s19, .val s20], [], (126, 120, L, [Y_3, T, H2, H, RV, RU, ST, NS, I0, I1, I2, BO_21, FI, RG, GU, PU, MA, MN, MS, OT, SC], [256, 192, 384, 320, w, w22, 576, 640, 704], Lg)) o from ev_sw [((0 : Int32), 144), ((1 : Int32), 147)] p4 (fun tt => (d + 4, 0, 0, 328, tt, [.val (.ref 64), .val (.int p1), .val (.int p2), .val (.int p3), .val (.int p4), .val (.int v16), .val (.int v17), .val (.int v18), .val s19, .val s20], [], (126, 120, L, [Y_3, T, H2, H, RV, RU, ST, NS, I0, I1, I2, BO_21, FI, RG, GU, PU, MA, MN, MS, OT, SC], [256, 192, 384, 320, w, w22, 576, 640, 704], Lg))) 150 144 2 (fun f => by simp only [a_sw, if_pos zc22]) e (fun n => Eq.refl _)
          have ze23 := Option.some.inj h
          subst ze23
          exact ev_rete 2 ho (fun n => Eq.refl _)
        have h := itn h zc22
        by_cases zc24 : p4 = 1
        · have h := itp h zc24
          suffices e : Ev (d + 4, 0, 0, 328, 147, [.val (.ref 64), .val (.int p1), .val (.int p2), .val (.int p3), .val (.int p4), .val (.int v16), .val (.int v17), .val (.int v18), .val s19, .val s20], [], (126, 120, L, [Y_3, T, H2, H, RV, RU, ST, NS, I0, I1, I2, BO_21, FI, RG, GU, PU, MA, MN, MS, OT, SC], [256, 192, 384, 320, w, w22, 576, 640, 704], Lg)) o from ev_sw [((0 : Int32), 144), ((1 : Int32), 147)] p4 (fun tt => (d + 4, 0, 0, 328, tt, [.val (.ref 64), .val (.int p1), .val (.int p2), .val (.int p3), .val (.int p4), .val (.int v16), .val (.int v17), .val (.int v18), .val s19, .val s20], [], (126, 120, L, [Y_3, T, H2, H, RV, RU, ST, NS, I0, I1, I2, BO_21, FI, RG, GU, PU, MA, MN, MS, OT, SC], [256, 192, 384, 320, w, w22, 576, 640, 704], Lg))) 150 147 2 (fun f => by simp only [a_sw, if_neg zc22, if_pos zc24]) e (fun n => Eq.refl _)
          have ze25 := Option.some.inj h
          subst ze25
          exact ev_rete 2 ho (fun n => Eq.refl _)
        have h := itn h zc24
        suffices e : Ev (d + 4, 0, 0, 328, 150, [.val (.ref 64), .val (.int p1), .val (.int p2), .val (.int p3), .val (.int p4), .val (.int v16), .val (.int v17), .val (.int v18), .val s19, .val s20], [], (126, 120, L, [Y_3, T, H2, H, RV, RU, ST, NS, I0, I1, I2, BO_21, FI, RG, GU, PU, MA, MN, MS, OT, SC], [256, 192, 384, 320, w, w22, 576, 640, 704], Lg)) o from ev_sw [((0 : Int32), 144), ((1 : Int32), 147)] p4 (fun tt => (d + 4, 0, 0, 328, tt, [.val (.ref 64), .val (.int p1), .val (.int p2), .val (.int p3), .val (.int p4), .val (.int v16), .val (.int v17), .val (.int v18), .val s19, .val s20], [], (126, 120, L, [Y_3, T, H2, H, RV, RU, ST, NS, I0, I1, I2, BO_21, FI, RG, GU, PU, MA, MN, MS, OT, SC], [256, 192, 384, 320, w, w22, 576, 640, 704], Lg))) 150 150 2 (fun f => by simp only [a_sw, if_neg zc22, if_neg zc24]) e (fun n => Eq.refl _)
        have ze26 := Option.some.inj h
        subst ze26
        exact ev_rete 2 ho (fun n => Eq.refl _)
    | succ q2 =>
      have h := itn h (Nat.succ_ne_zero q2)
      have ze27 := Option.some.inj h
      subst ze27
      subst ho
      exact ev_thr (fun v μ => (d + 4, 0, 0, 328, 42, [.val (.ref 64), .val (.int p1), .val (.int p2), .val (.int p3), .val (.int p4), .val a_unk, .val a_unk, .val a_unk, .val a_unk, .val a_unk], v.toList ++ [], μ)) 1 ze6 (fun n => Eq.refl _) (fun n => rfl)
  obtain ⟨zt28, zh29, zh2⟩ := bnd zh2
  have zj30 : zt28 = .inl () → Ev (d + 4, 1, 8, 328, 38, [.val (.ref 64), .val (.int p1), .val (.int p2), .val (.int p3), .val (.int p4), .val a_unk, .val a_unk, .val a_unk, .val a_unk, .val a_unk], [.ref 64], (126, 120, L, [Y, T, H2, H, RV, RU, ST, NS, I0, I1, I2, BO, FI, RG, GU, PU, MA, MN, MS, OT, SC], [256, 192, 384, 320, w, r5, 576, 640, 704], Lg)) o := by
    intro ze31
    have zh2 := sum_l zh2 ze31
    exact ev_b 1 (zj3 0 (Option.some.inj zh2) ) (fun n => Eq.refl _)
  by_cases zc32 : p2 < 1
  · have zh29 := itp zh29 zc32
    suffices e : Ev (d + 4, 1, 8, 328, 38, [.val (.ref 64), .val (.int p1), .val (.int p2), .val (.int p3), .val (.int p4), .val a_unk, .val a_unk, .val a_unk, .val a_unk, .val a_unk], [.ref 64], (126, 120, L, [Y, T, H2, H, RV, RU, ST, NS, I0, I1, I2, BO, FI, RG, GU, PU, MA, MN, MS, OT, SC], [256, 192, 384, 320, w, r5, 576, 640, 704], Lg)) o from ev_t (c := p2 < 1) _ _ 4  zc32 e (fun n => Eq.refl _)
    exact ev_b 0 (zj30  (Option.some.inj zh29).symm ) (fun n => Eq.refl _)
  · have zh29 := itn zh29 zc32
    suffices e : Ev (d + 4, 1, 8, 328, 6, [.val (.ref 64), .val (.int p1), .val (.int p2), .val (.int p3), .val (.int p4), .val a_unk, .val a_unk, .val a_unk, .val a_unk, .val a_unk], [.ref 64], (126, 120, L, [Y, T, H2, H, RV, RU, ST, NS, I0, I1, I2, BO, FI, RG, GU, PU, MA, MN, MS, OT, SC], [256, 192, 384, 320, w, r5, 576, 640, 704], Lg)) o from ev_f (c := p2 < 1) _ _ 4  zc32 e (fun n => Eq.refl _)
    by_cases zc33 : 20 < p2
    · have zh29 := itp zh29 zc33
      suffices e : Ev (d + 4, 1, 8, 328, 38, [.val (.ref 64), .val (.int p1), .val (.int p2), .val (.int p3), .val (.int p4), .val a_unk, .val a_unk, .val a_unk, .val a_unk, .val a_unk], [.ref 64], (126, 120, L, [Y, T, H2, H, RV, RU, ST, NS, I0, I1, I2, BO, FI, RG, GU, PU, MA, MN, MS, OT, SC], [256, 192, 384, 320, w, r5, 576, 640, 704], Lg)) o from ev_t (c := 20 < p2) _ _ 3  zc33 e (fun n => Eq.refl _)
      exact ev_b 0 (zj30  (Option.some.inj zh29).symm ) (fun n => Eq.refl _)
    · have zh29 := itn zh29 zc33
      suffices e : Ev (d + 4, 1, 8, 328, 12, [.val (.ref 64), .val (.int p1), .val (.int p2), .val (.int p3), .val (.int p4), .val a_unk, .val a_unk, .val a_unk, .val a_unk, .val a_unk], [.ref 64], (126, 120, L, [Y, T, H2, H, RV, RU, ST, NS, I0, I1, I2, BO, FI, RG, GU, PU, MA, MN, MS, OT, SC], [256, 192, 384, 320, w, r5, 576, 640, 704], Lg)) o from ev_f (c := 20 < p2) _ _ 3  zc33 e (fun n => Eq.refl _)
      by_cases zc34 : p3 < 1
      · have zh29 := itp zh29 zc34
        suffices e : Ev (d + 4, 1, 8, 328, 38, [.val (.ref 64), .val (.int p1), .val (.int p2), .val (.int p3), .val (.int p4), .val a_unk, .val a_unk, .val a_unk, .val a_unk, .val a_unk], [.ref 64], (126, 120, L, [Y, T, H2, H, RV, RU, ST, NS, I0, I1, I2, BO, FI, RG, GU, PU, MA, MN, MS, OT, SC], [256, 192, 384, 320, w, r5, 576, 640, 704], Lg)) o from ev_t (c := p3 < 1) _ _ 3  zc34 e (fun n => Eq.refl _)
        exact ev_b 0 (zj30  (Option.some.inj zh29).symm ) (fun n => Eq.refl _)
      · have zh29 := itn zh29 zc34
        suffices e : Ev (d + 4, 1, 8, 328, 17, [.val (.ref 64), .val (.int p1), .val (.int p2), .val (.int p3), .val (.int p4), .val a_unk, .val a_unk, .val a_unk, .val a_unk, .val a_unk], [.ref 64], (126, 120, L, [Y, T, H2, H, RV, RU, ST, NS, I0, I1, I2, BO, FI, RG, GU, PU, MA, MN, MS, OT, SC], [256, 192, 384, 320, w, r5, 576, 640, 704], Lg)) o from ev_f (c := p3 < 1) _ _ 3  zc34 e (fun n => Eq.refl _)
        by_cases zc35 : 60 < p3
        · have zh29 := itp zh29 zc35
          suffices e : Ev (d + 4, 1, 8, 328, 38, [.val (.ref 64), .val (.int p1), .val (.int p2), .val (.int p3), .val (.int p4), .val a_unk, .val a_unk, .val a_unk, .val a_unk, .val a_unk], [.ref 64], (126, 120, L, [Y, T, H2, H, RV, RU, ST, NS, I0, I1, I2, BO, FI, RG, GU, PU, MA, MN, MS, OT, SC], [256, 192, 384, 320, w, r5, 576, 640, 704], Lg)) o from ev_t (c := 60 < p3) _ _ 3  zc35 e (fun n => Eq.refl _)
          exact ev_b 0 (zj30  (Option.some.inj zh29).symm ) (fun n => Eq.refl _)
        · have zh29 := itn zh29 zc35
          suffices e : Ev (d + 4, 1, 8, 328, 23, [.val (.ref 64), .val (.int p1), .val (.int p2), .val (.int p3), .val (.int p4), .val a_unk, .val a_unk, .val a_unk, .val a_unk, .val a_unk], [.ref 64], (126, 120, L, [Y, T, H2, H, RV, RU, ST, NS, I0, I1, I2, BO, FI, RG, GU, PU, MA, MN, MS, OT, SC], [256, 192, 384, 320, w, r5, 576, 640, 704], Lg)) o from ev_f (c := 60 < p3) _ _ 3  zc35 e (fun n => Eq.refl _)
          by_cases zc36 : p4 < 0
          · have zh29 := itp zh29 zc36
            suffices e : Ev (d + 4, 1, 8, 328, 38, [.val (.ref 64), .val (.int p1), .val (.int p2), .val (.int p3), .val (.int p4), .val a_unk, .val a_unk, .val a_unk, .val a_unk, .val a_unk], [.ref 64], (126, 120, L, [Y, T, H2, H, RV, RU, ST, NS, I0, I1, I2, BO, FI, RG, GU, PU, MA, MN, MS, OT, SC], [256, 192, 384, 320, w, r5, 576, 640, 704], Lg)) o from ev_t (c := p4 < 0) _ _ 2  zc36 e (fun n => Eq.refl _)
            exact ev_b 0 (zj30  (Option.some.inj zh29).symm ) (fun n => Eq.refl _)
          · have zh29 := itn zh29 zc36
            suffices e : Ev (d + 4, 1, 8, 328, 28, [.val (.ref 64), .val (.int p1), .val (.int p2), .val (.int p3), .val (.int p4), .val a_unk, .val a_unk, .val a_unk, .val a_unk, .val a_unk], [.ref 64], (126, 120, L, [Y, T, H2, H, RV, RU, ST, NS, I0, I1, I2, BO, FI, RG, GU, PU, MA, MN, MS, OT, SC], [256, 192, 384, 320, w, r5, 576, 640, 704], Lg)) o from ev_f (c := p4 < 0) _ _ 2  zc36 e (fun n => Eq.refl _)
            by_cases zc37 : 2 < p4
            · have zh29 := itp zh29 zc37
              suffices e : Ev (d + 4, 1, 8, 328, 38, [.val (.ref 64), .val (.int p1), .val (.int p2), .val (.int p3), .val (.int p4), .val a_unk, .val a_unk, .val a_unk, .val a_unk, .val a_unk], [.ref 64], (126, 120, L, [Y, T, H2, H, RV, RU, ST, NS, I0, I1, I2, BO, FI, RG, GU, PU, MA, MN, MS, OT, SC], [256, 192, 384, 320, w, r5, 576, 640, 704], Lg)) o from ev_t (c := 2 < p4) _ _ 3  zc37 e (fun n => Eq.refl _)
              exact ev_b 0 (zj30  (Option.some.inj zh29).symm ) (fun n => Eq.refl _)
            · have zh29 := itn zh29 zc37
              suffices e : Ev (d + 4, 1, 8, 328, 34, [.val (.ref 64), .val (.int p1), .val (.int p2), .val (.int p3), .val (.int p4), .val a_unk, .val a_unk, .val a_unk, .val a_unk, .val a_unk], [.ref 64], (126, 120, L, [Y, T, H2, H, RV, RU, ST, NS, I0, I1, I2, BO, FI, RG, GU, PU, MA, MN, MS, OT, SC], [256, 192, 384, 320, w, r5, 576, 640, 704], Lg)) o from ev_f (c := 2 < p4) _ _ 3  zc37 e (fun n => Eq.refl _)
              have zh38 := sum_r zh2 (Option.some.inj zh29).symm
              exact ev_b 2 (zj3 1 (Option.some.inj zh38) ) (fun n => Eq.refl _)
set_option maxRecDepth 1000000 in
set_option maxHeartbeats 4000000 in
theorem R_f_Target_copy_2_0 (d : Nat) (Y T HA HB RA RB ST SB SA I1 I2 BO FI RG GU PU MA MN MS OT SC : Nat → Nat → Int32) (r0 r1 r2 r3 w r5 r6 r7 r8 : Nat) (L : Nat) (Lg : Int64) {r : (Nat → Nat → Int32)} (h : f_Target_copy_2 SB SA = some r) : Ev (d + 1, 0, 0, 281, 0, [.val (.ref 579), .val (.ref 515)], [], (126, 120, L, [Y, T, HA, HB, RA, RB, ST, SB, SA, I1, I2, BO, FI, RG, GU, PU, MA, MN, MS, OT, SC], [r0, r1, r2, r3, w, r5, r6, r7, r8], Lg)) ((0, none, (126, 120, L, [Y, T, HA, HB, RA, RB, ST, SB, r, I1, I2, BO, FI, RG, GU, PU, MA, MN, MS, OT, SC], [r0, r1, r2, r3, w, r5, r6, r7, r8], Lg)) : AOut) := by
  suffices key : ∀ o : AOut, ((0, none, (126, 120, L, [Y, T, HA, HB, RA, RB, ST, SB, r, I1, I2, BO, FI, RG, GU, PU, MA, MN, MS, OT, SC], [r0, r1, r2, r3, w, r5, r6, r7, r8], Lg)) : AOut) = o → Ev (d + 1, 0, 0, 281, 0, [.val (.ref 579), .val (.ref 515)], [], (126, 120, L, [Y, T, HA, HB, RA, RB, ST, SB, SA, I1, I2, BO, FI, RG, GU, PU, MA, MN, MS, OT, SC], [r0, r1, r2, r3, w, r5, r6, r7, r8], Lg)) o from key _ rfl
  intro o ho
  by_cases zc1 : ((0 : Int32) < 0 ∨ (0 : Int32) < 0 ∨ (10 : Int32) < 0 ∨ 10 < (0 : Int32).toNatClampNeg + (10 : Int32).toNatClampNeg ∨ 10 < (0 : Int32).toNatClampNeg + (10 : Int32).toNatClampNeg)
  · exact nos (itp h zc1)
  have h := itn h zc1
  suffices e : Ev (d + 1, 0, 0, 281, 23, [.val (.ref 579), .val (.ref 515)], [], (126, 120, L, [Y, T, HA, HB, RA, RB, ST, SB, (u1 (u2 SA 3 0 (SB 3 0)) 4 (a_cpy (SB 4) ((u2 SA 3 0 (SB 3 0)) 4) (0 : Int32).toNatClampNeg (0 : Int32).toNatClampNeg (10 : Int32).toNatClampNeg)), I1, I2, BO, FI, RG, GU, PU, MA, MN, MS, OT, SC], [r0, r1, r2, r3, w, r5, r6, r7, r8], Lg)) o from ev_d (c := ((0 : Int32) < 0 ∨ (0 : Int32) < 0 ∨ (10 : Int32) < 0 ∨ 10 < (0 : Int32).toNatClampNeg + (10 : Int32).toNatClampNeg ∨ 10 < (0 : Int32).toNatClampNeg + (10 : Int32).toNatClampNeg)) _ 12 zc1 e (fun n => Eq.refl _)
  by_cases zc2 : ((0 : Int32) < 0 ∨ (0 : Int32) < 0 ∨ (10 : Int32) < 0 ∨ 10 < (0 : Int32).toNatClampNeg + (10 : Int32).toNatClampNeg ∨ 10 < (0 : Int32).toNatClampNeg + (10 : Int32).toNatClampNeg)
  · exact nos (itp h zc2)
  have h := itn h zc2
  suffices e : Ev (d + 1, 0, 0, 281, 38, [.val (.ref 579), .val (.ref 515)], [], (126, 120, L, [Y, T, HA, HB, RA, RB, ST, SB, (u1 (u1 (u2 SA 3 0 (SB 3 0)) 4 (a_cpy (SB 4) ((u2 SA 3 0 (SB 3 0)) 4) (0 : Int32).toNatClampNeg (0 : Int32).toNatClampNeg (10 : Int32).toNatClampNeg)) 5 (a_cpy (SB 5) ((u1 (u2 SA 3 0 (SB 3 0)) 4 (a_cpy (SB 4) ((u2 SA 3 0 (SB 3 0)) 4) (0 : Int32).toNatClampNeg (0 : Int32).toNatClampNeg (10 : Int32).toNatClampNeg)) 5) (0 : Int32).toNatClampNeg (0 : Int32).toNatClampNeg (10 : Int32).toNatClampNeg)), I1, I2, BO, FI, RG, GU, PU, MA, MN, MS, OT, SC], [r0, r1, r2, r3, w, r5, r6, r7, r8], Lg)) o from ev_d (c := ((0 : Int32) < 0 ∨ (0 : Int32) < 0 ∨ (10 : Int32) < 0 ∨ 10 < (0 : Int32).toNatClampNeg + (10 : Int32).toNatClampNeg ∨ 10 < (0 : Int32).toNatClampNeg + (10 : Int32).toNatClampNeg)) _ 8 zc2 e (fun n => Eq.refl _)
  have ze3 := Option.some.inj h
  subst ze3
  exact ev_rete 1 ho (fun n => Eq.refl _)
set_option maxRecDepth 1000000 in
set_option maxHeartbeats 4000000 in
theorem R_f_State_copy_0 (d : Nat) (Y T HA HB RA RB ST SB SA I1 I2 BO FI RG GU PU MA MN MS OT SC : Nat → Nat → Int32) (r0 r1 r2 r3 w r5 r6 r7 r8 : Nat) (L : Nat) (Lg : Int64) {r : (Nat → Nat → Int32)} (h : f_State_copy SB SA = some r) : Ev (d + 2, 0, 0, 258, 0, [.val (.ref 576), .val (.ref 512)], [], (126, 120, L, [Y, T, HA, HB, RA, RB, ST, SB, SA, I1, I2, BO, FI, RG, GU, PU, MA, MN, MS, OT, SC], [r0, r1, r2, r3, w, r5, r6, r7, r8], Lg)) ((0, none, (126, 120, L, [Y, T, HA, HB, RA, RB, ST, SB, r, I1, I2, BO, FI, RG, GU, PU, MA, MN, MS, OT, SC], [r0, r1, r2, r3, w, r5, r6, r7, r8], Lg)) : AOut) := by
  suffices key : ∀ o : AOut, ((0, none, (126, 120, L, [Y, T, HA, HB, RA, RB, ST, SB, r, I1, I2, BO, FI, RG, GU, PU, MA, MN, MS, OT, SC], [r0, r1, r2, r3, w, r5, r6, r7, r8], Lg)) : AOut) = o → Ev (d + 2, 0, 0, 258, 0, [.val (.ref 576), .val (.ref 512)], [], (126, 120, L, [Y, T, HA, HB, RA, RB, ST, SB, SA, I1, I2, BO, FI, RG, GU, PU, MA, MN, MS, OT, SC], [r0, r1, r2, r3, w, r5, r6, r7, r8], Lg)) o from key _ rfl
  intro o ho
  by_cases zc1 : ((0 : Int32) < 0 ∨ (0 : Int32) < 0 ∨ (10 : Int32) < 0 ∨ 10 < (0 : Int32).toNatClampNeg + (10 : Int32).toNatClampNeg ∨ 10 < (0 : Int32).toNatClampNeg + (10 : Int32).toNatClampNeg)
  · exact nos (itp h zc1)
  have h := itn h zc1
  suffices e : Ev (d + 2, 0, 0, 258, 15, [.val (.ref 576), .val (.ref 512)], [], (126, 120, L, [Y, T, HA, HB, RA, RB, ST, SB, (u1 SA 1 (a_cpy (SB 1) (SA 1) (0 : Int32).toNatClampNeg (0 : Int32).toNatClampNeg (10 : Int32).toNatClampNeg)), I1, I2, BO, FI, RG, GU, PU, MA, MN, MS, OT, SC], [r0, r1, r2, r3, w, r5, r6, r7, r8], Lg)) o from ev_d (c := ((0 : Int32) < 0 ∨ (0 : Int32) < 0 ∨ (10 : Int32) < 0 ∨ 10 < (0 : Int32).toNatClampNeg + (10 : Int32).toNatClampNeg ∨ 10 < (0 : Int32).toNatClampNeg + (10 : Int32).toNatClampNeg)) _ 8 zc1 e (fun n => Eq.refl _)
  by_cases zc2 : ((0 : Int32) < 0 ∨ (0 : Int32) < 0 ∨ (10 : Int32) < 0 ∨ 10 < (0 : Int32).toNatClampNeg + (10 : Int32).toNatClampNeg ∨ 10 < (0 : Int32).toNatClampNeg + (10 : Int32).toNatClampNeg)
  · exact nos (itp h zc2)
  have h := itn h zc2
  suffices e : Ev (d + 2, 0, 0, 258, 30, [.val (.ref 576), .val (.ref 512)], [], (126, 120, L, [Y, T, HA, HB, RA, RB, ST, SB, (u1 (u1 SA 1 (a_cpy (SB 1) (SA 1) (0 : Int32).toNatClampNeg (0 : Int32).toNatClampNeg (10 : Int32).toNatClampNeg)) 2 (a_cpy (SB 2) ((u1 SA 1 (a_cpy (SB 1) (SA 1) (0 : Int32).toNatClampNeg (0 : Int32).toNatClampNeg (10 : Int32).toNatClampNeg)) 2) (0 : Int32).toNatClampNeg (0 : Int32).toNatClampNeg (10 : Int32).toNatClampNeg)), I1, I2, BO, FI, RG, GU, PU, MA, MN, MS, OT, SC], [r0, r1, r2, r3, w, r5, r6, r7, r8], Lg)) o from ev_d (c := ((0 : Int32) < 0 ∨ (0 : Int32) < 0 ∨ (10 : Int32) < 0 ∨ 10 < (0 : Int32).toNatClampNeg + (10 : Int32).toNatClampNeg ∨ 10 < (0 : Int32).toNatClampNeg + (10 : Int32).toNatClampNeg)) _ 8 zc2 e (fun n => Eq.refl _)
  obtain ⟨SA_1, zh3, h⟩ := bnd h
  have zh3 : f_Target_copy_2 SB (u1 (u1 SA 1 (a_cpy (SB 1) (SA 1) (0 : Int32).toNatClampNeg (0 : Int32).toNatClampNeg (10 : Int32).toNatClampNeg)) 2 (a_cpy (SB 2) ((u1 SA 1 (a_cpy (SB 1) (SA 1) (0 : Int32).toNatClampNeg (0 : Int32).toNatClampNeg (10 : Int32).toNatClampNeg)) 2) (0 : Int32).toNatClampNeg (0 : Int32).toNatClampNeg (10 : Int32).toNatClampNeg)) = some SA_1 := zh3
  have ze4 := R_f_Target_copy_2_0 (d + 0) Y T HA HB RA RB ST SB (u1 (u1 SA 1 (a_cpy (SB 1) (SA 1) (0 : Int32).toNatClampNeg (0 : Int32).toNatClampNeg (10 : Int32).toNatClampNeg)) 2 (a_cpy (SB 2) ((u1 SA 1 (a_cpy (SB 1) (SA 1) (0 : Int32).toNatClampNeg (0 : Int32).toNatClampNeg (10 : Int32).toNatClampNeg)) 2) (0 : Int32).toNatClampNeg (0 : Int32).toNatClampNeg (10 : Int32).toNatClampNeg)) I1 I2 BO FI RG GU PU MA MN MS OT SC r0 r1 r2 r3 w r5 r6 r7 r8 L Lg zh3
  suffices e : Ev (d + 2, 0, 0, 258, 41, [.val (.ref 576), .val (.ref 512)], [], (126, 120, L, [Y, T, HA, HB, RA, RB, ST, SB, SA_1, I1, I2, BO, FI, RG, GU, PU, MA, MN, MS, OT, SC], [r0, r1, r2, r3, w, r5, r6, r7, r8], Lg)) o from ev_call (fun v μ => (d + 2, 0, 0, 258, 41, [.val (.ref 576), .val (.ref 512)], v.toList ++ [], μ)) 5 ze4 e (fun n => Eq.refl _)
  by_cases zc5 : ((0 : Int32) < 0 ∨ (0 : Int32) < 0 ∨ ((((u2 (u2 SA_1 0 3 (SB 0 3)) 0 4 (SB 0 4)) 0 4) * 10) : Int32) < 0 ∨ 300 < (0 : Int32).toNatClampNeg + ((((u2 (u2 SA_1 0 3 (SB 0 3)) 0 4 (SB 0 4)) 0 4) * 10) : Int32).toNatClampNeg ∨ 300 < (0 : Int32).toNatClampNeg + ((((u2 (u2 SA_1 0 3 (SB 0 3)) 0 4 (SB 0 4)) 0 4) * 10) : Int32).toNatClampNeg)
  · exact nos (itp h zc5)
  have h := itn h zc5
  suffices e : Ev (d + 2, 0, 0, 258, 77, [.val (.ref 576), .val (.ref 512)], [], (126, 120, L, [Y, T, HA, HB, RA, RB, ST, SB, (u1 (u2 (u2 SA_1 0 3 (SB 0 3)) 0 4 (SB 0 4)) 6 (a_cpy (SB 6) ((u2 (u2 SA_1 0 3 (SB 0 3)) 0 4 (SB 0 4)) 6) (0 : Int32).toNatClampNeg (0 : Int32).toNatClampNeg ((((u2 (u2 SA_1 0 3 (SB 0 3)) 0 4 (SB 0 4)) 0 4) * 10) : Int32).toNatClampNeg)), I1, I2, BO, FI, RG, GU, PU, MA, MN, MS, OT, SC], [r0, r1, r2, r3, w, r5, r6, r7, r8], Lg)) o from ev_d (c := ((0 : Int32) < 0 ∨ (0 : Int32) < 0 ∨ ((((u2 (u2 SA_1 0 3 (SB 0 3)) 0 4 (SB 0 4)) 0 4) * 10) : Int32) < 0 ∨ 300 < (0 : Int32).toNatClampNeg + ((((u2 (u2 SA_1 0 3 (SB 0 3)) 0 4 (SB 0 4)) 0 4) * 10) : Int32).toNatClampNeg ∨ 300 < (0 : Int32).toNatClampNeg + ((((u2 (u2 SA_1 0 3 (SB 0 3)) 0 4 (SB 0 4)) 0 4) * 10) : Int32).toNatClampNeg)) _ 19 zc5 e (fun n => Eq.refl _)
  by_cases zc6 : ((0 : Int32) < 0 ∨ (0 : Int32) < 0 ∨ (((u1 (u2 (u2 SA_1 0 3 (SB 0 3)) 0 4 (SB 0 4)) 6 (a_cpy (SB 6) ((u2 (u2 SA_1 0 3 (SB 0 3)) 0 4 (SB 0 4)) 6) (0 : Int32).toNatClampNeg (0 : Int32).toNatClampNeg ((((u2 (u2 SA_1 0 3 (SB 0 3)) 0 4 (SB 0 4)) 0 4) * 10) : Int32).toNatClampNeg)) 0 4) * 10) < 0 ∨ 300 < (0 : Int32).toNatClampNeg + (((u1 (u2 (u2 SA_1 0 3 (SB 0 3)) 0 4 (SB 0 4)) 6 (a_cpy (SB 6) ((u2 (u2 SA_1 0 3 (SB 0 3)) 0 4 (SB 0 4)) 6) (0 : Int32).toNatClampNeg (0 : Int32).toNatClampNeg ((((u2 (u2 SA_1 0 3 (SB 0 3)) 0 4 (SB 0 4)) 0 4) * 10) : Int32).toNatClampNeg)) 0 4) * 10).toNatClampNeg ∨ 300 < (0 : Int32).toNatClampNeg + (((u1 (u2 (u2 SA_1 0 3 (SB 0 3)) 0 4 (SB 0 4)) 6 (a_cpy (SB 6) ((u2 (u2 SA_1 0 3 (SB 0 3)) 0 4 (SB 0 4)) 6) (0 : Int32).toNatClampNeg (0 : Int32).toNatClampNeg ((((u2 (u2 SA_1 0 3 (SB 0 3)) 0 4 (SB 0 4)) 0 4) * 10) : Int32).toNatClampNeg)) 0 4) * 10).toNatClampNeg)
  · exact nos (itp h zc6)
  have h := itn h zc6
  suffices e : Ev (d + 2, 0, 0, 258, 97, [.val (.ref 576), .val (.ref 512)], [], (126, 120, L, [Y, T, HA, HB, RA, RB, ST, SB, (u1 (u1 (u2 (u2 SA_1 0 3 (SB 0 3)) 0 4 (SB 0 4)) 6 (a_cpy (SB 6) ((u2 (u2 SA_1 0 3 (SB 0 3)) 0 4 (SB 0 4)) 6) (0 : Int32).toNatClampNeg (0 : Int32).toNatClampNeg ((((u2 (u2 SA_1 0 3 (SB 0 3)) 0 4 (SB 0 4)) 0 4) * 10) : Int32).toNatClampNeg)) 7 (a_cpy (SB 7) ((u1 (u2 (u2 SA_1 0 3 (SB 0 3)) 0 4 (SB 0 4)) 6 (a_cpy (SB 6) ((u2 (u2 SA_1 0 3 (SB 0 3)) 0 4 (SB 0 4)) 6) (0 : Int32).toNatClampNeg (0 : Int32).toNatClampNeg ((((u2 (u2 SA_1 0 3 (SB 0 3)) 0 4 (SB 0 4)) 0 4) * 10) : Int32).toNatClampNeg)) 7) (0 : Int32).toNatClampNeg (0 : Int32).toNatClampNeg (((u1 (u2 (u2 SA_1 0 3 (SB 0 3)) 0 4 (SB 0 4)) 6 (a_cpy (SB 6) ((u2 (u2 SA_1 0 3 (SB 0 3)) 0 4 (SB 0 4)) 6) (0 : Int32).toNatClampNeg (0 : Int32).toNatClampNeg ((((u2 (u2 SA_1 0 3 (SB 0 3)) 0 4 (SB 0 4)) 0 4) * 10) : Int32).toNatClampNeg)) 0 4) * 10).toNatClampNeg)), I1, I2, BO, FI, RG, GU, PU, MA, MN, MS, OT, SC], [r0, r1, r2, r3, w, r5, r6, r7, r8], Lg)) o from ev_d (c := ((0 : Int32) < 0 ∨ (0 : Int32) < 0 ∨ (((u1 (u2 (u2 SA_1 0 3 (SB 0 3)) 0 4 (SB 0 4)) 6 (a_cpy (SB 6) ((u2 (u2 SA_1 0 3 (SB 0 3)) 0 4 (SB 0 4)) 6) (0 : Int32).toNatClampNeg (0 : Int32).toNatClampNeg ((((u2 (u2 SA_1 0 3 (SB 0 3)) 0 4 (SB 0 4)) 0 4) * 10) : Int32).toNatClampNeg)) 0 4) * 10) < 0 ∨ 300 < (0 : Int32).toNatClampNeg + (((u1 (u2 (u2 SA_1 0 3 (SB 0 3)) 0 4 (SB 0 4)) 6 (a_cpy (SB 6) ((u2 (u2 SA_1 0 3 (SB 0 3)) 0 4 (SB 0 4)) 6) (0 : Int32).toNatClampNeg (0 : Int32).toNatClampNeg ((((u2 (u2 SA_1 0 3 (SB 0 3)) 0 4 (SB 0 4)) 0 4) * 10) : Int32).toNatClampNeg)) 0 4) * 10).toNatClampNeg ∨ 300 < (0 : Int32).toNatClampNeg + (((u1 (u2 (u2 SA_1 0 3 (SB 0 3)) 0 4 (SB 0 4)) 6 (a_cpy (SB 6) ((u2 (u2 SA_1 0 3 (SB 0 3)) 0 4 (SB 0 4)) 6) (0 : Int32).toNatClampNeg (0 : Int32).toNatClampNeg ((((u2 (u2 SA_1 0 3 (SB 0 3)) 0 4 (SB 0 4)) 0 4) * 10) : Int32).toNatClampNeg)) 0 4) * 10).toNatClampNeg)) _ 11 zc6 e (fun n => Eq.refl _)
  have ze7 := Option.some.inj h
  subst ze7
  exact ev_rete 1 ho (fun n => Eq.refl _)
set_option maxRecDepth 1000000 in
set_option maxHeartbeats 4000000 in
theorem R_f_Target_copy_2_1 (d : Nat) (Y T HA HB RA RB ST SB I0 SA I2 BO FI RG GU PU MA MN MS OT SC : Nat → Nat → Int32) (r0 r1 r2 r3 w r5 r6 r7 r8 : Nat) (L : Nat) (Lg : Int64) {r : (Nat → Nat → Int32)} (h : f_Target_copy_2 SB SA = some r) : Ev (d + 1, 0, 0, 281, 0, [.val (.ref 643), .val (.ref 515)], [], (126, 120, L, [Y, T, HA, HB, RA, RB, ST, SB, I0, SA, I2, BO, FI, RG, GU, PU, MA, MN, MS, OT, SC], [r0, r1, r2, r3, w, r5, r6, r7, r8], Lg)) ((0, none, (126, 120, L, [Y, T, HA, HB, RA, RB, ST, SB, I0, r, I2, BO, FI, RG, GU, PU, MA, MN, MS, OT, SC], [r0, r1, r2, r3, w, r5, r6, r7, r8], Lg)) : AOut) := by
  suffices key : ∀ o : AOut, ((0, none, (126, 120, L, [Y, T, HA, HB, RA, RB, ST, SB, I0, r, I2, BO, FI, RG, GU, PU, MA, MN, MS, OT, SC], [r0, r1, r2, r3, w, r5, r6, r7, r8], Lg)) : AOut) = o → Ev (d + 1, 0, 0, 281, 0, [.val (.ref 643), .val (.ref 515)], [], (126, 120, L, [Y, T, HA, HB, RA, RB, ST, SB, I0, SA, I2, BO, FI, RG, GU, PU, MA, MN, MS, OT, SC], [r0, r1, r2, r3, w, r5, r6, r7, r8], Lg)) o from key _ rfl
  intro o ho
  by_cases zc1 : ((0 : Int32) < 0 ∨ (0 : Int32) < 0 ∨ (10 : Int32) < 0 ∨ 10 < (0 : Int32).toNatClampNeg + (10 : Int32).toNatClampNeg ∨ 10 < (0 : Int32).toNatClampNeg + (10 : Int32).toNatClampNeg)
  · exact nos (itp h zc1)
  have h := itn h zc1
  suffices e : Ev (d + 1, 0, 0, 281, 23, [.val (.ref 643), .val (.ref 515)], [], (126, 120, L, [Y, T, HA, HB, RA, RB, ST, SB, I0, (u1 (u2 SA 3 0 (SB 3 0)) 4 (a_cpy (SB 4) ((u2 SA 3 0 (SB 3 0)) 4) (0 : Int32).toNatClampNeg (0 : Int32).toNatClampNeg (10 : Int32).toNatClampNeg)), I2, BO, FI, RG, GU, PU, MA, MN, MS, OT, SC], [r0, r1, r2, r3, w, r5, r6, r7, r8], Lg)) o from ev_d (c := ((0 : Int32) < 0 ∨ (0 : Int32) < 0 ∨ (10 : Int32) < 0 ∨ 10 < (0 : Int32).toNatClampNeg + (10 : Int32).toNatClampNeg ∨ 10 < (0 : Int32).toNatClampNeg + (10 : Int32).toNatClampNeg)) _ 12 zc1 e (fun n => Eq.refl _)
  by_cases zc2 : ((0 : Int32) < 0 ∨ (0 : Int32) < 0 ∨ (10 : Int32) < 0 ∨ 10 < (0 : Int32).toNatClampNeg + (10 : Int32).toNatClampNeg ∨ 10 < (0 : Int32).toNatClampNeg + (10 : Int32).toNatClampNeg)
  · exact nos (itp h zc2)
  have h := itn h zc2
  suffices e : Ev (d + 1, 0, 0, 281, 38, [.val (.ref 643), .val (.ref 515)], [], (126, 120, L, [Y, T, HA, HB, RA, RB, ST, SB, I0, (u1 (u1 (u2 SA 3 0 (SB 3 0)) 4 (a_cpy (SB 4) ((u2 SA 3 0 (SB 3 0)) 4) (0 : Int32).toNatClampNeg (0 : Int32).toNatClampNeg (10 : Int32).toNatClampNeg)) 5 (a_cpy (SB 5) ((u1 (u2 SA 3 0 (SB 3 0)) 4 (a_cpy (SB 4) ((u2 SA 3 0 (SB 3 0)) 4) (0 : Int32).toNatClampNeg (0 : Int32).toNatClampNeg (10 : Int32).toNatClampNeg)) 5) (0 : Int32).toNatClampNeg (0 : Int32).toNatClampNeg (10 : Int32).toNatClampNeg)), I2, BO, FI, RG, GU, PU, MA, MN, MS, OT, SC], [r0, r1, r2, r3, w, r5, r6, r7, r8], Lg)) o from ev_d (c := ((0 : Int32) < 0 ∨ (0 : Int32) < 0 ∨ (10 : Int32) < 0 ∨ 10 < (0 : Int32).toNatClampNeg + (10 : Int32).toNatClampNeg ∨ 10 < (0 : Int32).toNatClampNeg + (10 : Int32).toNatClampNeg)) _ 8 zc2 e (fun n => Eq.refl _)
  have ze3 := Option.some.inj h
  subst ze3
  exact ev_rete 1 ho (fun n => Eq.refl _)
set_option maxRecDepth 1000000 in
set_option maxHeartbeats 4000000 in
theorem R_f_State_copy_1 (d : Nat) (Y T HA HB RA RB ST SB I0 SA I2 BO FI RG GU PU MA MN MS OT SC : Nat → Nat → Int32) (r0 r1 r2 r3 w r5 r6 r7 r8 : Nat) (L : Nat) (Lg : Int64) {r : (Nat → Nat → Int32)} (h : f_State_copy SB SA = some r) : Ev (d + 2, 0, 0, 258, 0, [.val (.ref 640), .val (.ref 512)], [], (126, 120, L, [Y, T, HA, HB, RA, RB, ST, SB, I0, SA, I2, BO, FI, RG, GU, PU, MA, MN, MS, OT, SC], [r0, r1, r2, r3, w, r5, r6, r7, r8], Lg)) ((0, none, (126, 120, L, [Y, T, HA, HB, RA, RB, ST, SB, I0, r, I2, BO, FI, RG, GU, PU, MA, MN, MS, OT, SC], [r0, r1, r2, r3, w, r5, r6, r7, r8], Lg)) : AOut) := by
  suffices key : ∀ o : AOut, ((0, none, (126, 120, L, [Y, T, HA, HB, RA, RB, ST, SB, I0, r, I2, BO, FI, RG, GU, PU, MA, MN, MS, OT, SC], [r0, r1, r2, r3, w, r5, r6, r7, r8], Lg)) : AOut) = o → Ev (d + 2, 0, 0, 258, 0, [.val (.ref 640), .val (.ref 512)], [], (126, 120, L, [Y, T, HA, HB, RA, RB, ST, SB, I0, SA, I2, BO, FI, RG, GU, PU, MA, MN, MS, OT, SC], [r0, r1, r2, r3, w, r5, r6, r7, r8], Lg)) o from key _ rfl
  intro o ho
  by_cases zc1 : ((0 : Int32) < 0 ∨ (0 : Int32) < 0 ∨ (10 : Int32) < 0 ∨ 10 < (0 : Int32).toNatClampNeg + (10 : Int32).toNatClampNeg ∨ 10 < (0 : Int32).toNatClampNeg + (10 : Int32).toNatClampNeg)
  · exact nos (itp h zc1)
  have h := itn h zc1
  suffices e : Ev (d + 2, 0, 0, 258, 15, [.val (.ref 640), .val (.ref 512)], [], (126, 120, L, [Y, T, HA, HB, RA, RB, ST, SB, I0, (u1 SA 1 (a_cpy (SB 1) (SA 1) (0 : Int32).toNatClampNeg (0 : Int32).toNatClampNeg (10 : Int32).toNatClampNeg)), I2, BO, FI, RG, GU, PU, MA, MN, MS, OT, SC], [r0, r1, r2, r3, w, r5, r6, r7, r8], Lg)) o from ev_d (c := ((0 : Int32) < 0 ∨ (0 : Int32) < 0 ∨ (10 : Int32) < 0 ∨ 10 < (0 : Int32).toNatClampNeg + (10 : Int32).toNatClampNeg ∨ 10 < (0 : Int32).toNatClampNeg + (10 : Int32).toNatClampNeg)) _ 8 zc1 e (fun n => Eq.refl _)
  by_cases zc2 : ((0 : Int32) < 0 ∨ (0 : Int32) < 0 ∨ (10 : Int32) < 0 ∨ 10 < (0 : Int32).toNatClampNeg + (10 : Int32).toNatClampNeg ∨ 10 < (0 : Int32).toNatClampNeg + (10 : Int32).toNatClampNeg)
  · exact nos (itp h zc2)
  have h := itn h zc2
  suffices e : Ev (d + 2, 0, 0, 258, 30, [.val (.ref 640), .val (.ref 512)], [], (126, 120, L, [Y, T, HA, HB, RA, RB, ST, SB, I0, (u1 (u1 SA 1 (a_cpy (SB 1) (SA 1) (0 : Int32).toNatClampNeg (0 : Int32).toNatClampNeg (10 : Int32).toNatClampNeg)) 2 (a_cpy (SB 2) ((u1 SA 1 (a_cpy (SB 1) (SA 1) (0 : Int32).toNatClampNeg (0 : Int32).toNatClampNeg (10 : Int32).toNatClampNeg)) 2) (0 : Int32).toNatClampNeg (0 : Int32).toNatClampNeg (10 : Int32).toNatClampNeg)), I2, BO, FI, RG, GU, PU, MA, MN, MS, OT, SC], [r0, r1, r2, r3, w, r5, r6, r7, r8], Lg)) o from ev_d (c := ((0 : Int32) < 0 ∨ (0 : Int32) < 0 ∨ (10 : Int32) < 0 ∨ 10 < (0 : Int32).toNatClampNeg + (10 : Int32).toNatClampNeg ∨ 10 < (0 : Int32).toNatClampNeg + (10 : Int32).toNatClampNeg)) _ 8 zc2 e (fun n => Eq.refl _)
  obtain ⟨SA_1, zh3, h⟩ := bnd h
  have zh3 : f_Target_copy_2 SB (u1 (u1 SA 1 (a_cpy (SB 1) (SA 1) (0 : Int32).toNatClampNeg (0 : Int32).toNatClampNeg (10 : Int32).toNatClampNeg)) 2 (a_cpy (SB 2) ((u1 SA 1 (a_cpy (SB 1) (SA 1) (0 : Int32).toNatClampNeg (0 : Int32).toNatClampNeg (10 : Int32).toNatClampNeg)) 2) (0 : Int32).toNatClampNeg (0 : Int32).toNatClampNeg (10 : Int32).toNatClampNeg)) = some SA_1 := zh3
  have ze4 := R_f_Target_copy_2_1 (d + 0) Y T HA HB RA RB ST SB I0 (u1 (u1 SA 1 (a_cpy (SB 1) (SA 1) (0 : Int32).toNatClampNeg (0 : Int32).toNatClampNeg (10 : Int32).toNatClampNeg)) 2 (a_cpy (SB 2) ((u1 SA 1 (a_cpy (SB 1) (SA 1) (0 : Int32).toNatClampNeg (0 : Int32).toNatClampNeg (10 : Int32).toNatClampNeg)) 2) (0 : Int32).toNatClampNeg (0 : Int32).toNatClampNeg (10 : Int32).toNatClampNeg)) I2 BO FI RG GU PU MA MN MS OT SC r0 r1 r2 r3 w r5 r6 r7 r8 L Lg zh3
  suffices e : Ev (d + 2, 0, 0, 258, 41, [.val (.ref 640), .val (.ref 512)], [], (126, 120, L, [Y, T, HA, HB, RA, RB, ST, SB, I0, SA_1, I2, BO, FI, RG, GU, PU, MA, MN, MS, OT, SC], [r0, r1, r2, r3, w, r5, r6, r7, r8], Lg)) o from ev_call (fun v μ => (d + 2, 0, 0, 258, 41, [.val (.ref 640), .val (.ref 512)], v.toList ++ [], μ)) 5 ze4 e (fun n => Eq.refl _)
  by_cases zc5 : ((0 : Int32) < 0 ∨ (0 : Int32) < 0 ∨ ((((u2 (u2 SA_1 0 3 (SB 0 3)) 0 4 (SB 0 4)) 0 4) * 10) : Int32) < 0 ∨ 300 < (0 : Int32).toNatClampNeg + ((((u2 (u2 SA_1 0 3 (SB 0 3)) 0 4 (SB 0 4)) 0 4) * 10) : Int32).toNatClampNeg ∨ 300 < (0 : Int32).toNatClampNeg + ((((u2 (u2 SA_1 0 3 (SB 0 3)) 0 4 (SB 0 4)) 0 4) * 10) : Int32).toNatClampNeg)
  · exact nos (itp h zc5)
  have h := itn h zc5
  suffices e : Ev (d + 2, 0, 0, 258, 77, [.val (.ref 640), .val (.ref 512)], [], (126, 120, L, [Y, T, HA, HB, RA, RB, ST, SB, I0, (u1 (u2 (u2 SA_1 0 3 (SB 0 3)) 0 4 (SB 0 4)) 6 (a_cpy (SB 6) ((u2 (u2 SA_1 0 3 (SB 0 3)) 0 4 (SB 0 4)) 6) (0 : Int32).toNatClampNeg (0 : Int32).toNatClampNeg ((((u2 (u2 SA_1 0 3 (SB 0 3)) 0 4 (SB 0 4)) 0 4) * 10) : Int32).toNatClampNeg)), I2, BO, FI, RG, GU, PU, MA, MN, MS, OT, SC], [r0, r1, r2, r3, w, r5, r6, r7, r8], Lg)) o from ev_d (c := ((0 : Int32) < 0 ∨ (0 : Int32) < 0 ∨ ((((u2 (u2 SA_1 0 3 (SB 0 3)) 0 4 (SB 0 4)) 0 4) * 10) : Int32) < 0 ∨ 300 < (0 : Int32).toNatClampNeg + ((((u2 (u2 SA_1 0 3 (SB 0 3)) 0 4 (SB 0 4)) 0 4) * 10) : Int32).toNatClampNeg ∨ 300 < (0 : Int32).toNatClampNeg + ((((u2 (u2 SA_1 0 3 (SB 0 3)) 0 4 (SB 0 4)) 0 4) * 10) : Int32).toNatClampNeg)) _ 19 zc5 e (fun n => Eq.refl _)
  by_cases zc6 : ((0 : Int32) < 0 ∨ (0 : Int32) < 0 ∨ (((u1 (u2 (u2 SA_1 0 3 (SB 0 3)) 0 4 (SB 0 4)) 6 (a_cpy (SB 6) ((u2 (u2 SA_1 0 3 (SB 0 3)) 0 4 (SB 0 4)) 6) (0 : Int32).toNatClampNeg (0 : Int32).toNatClampNeg ((((u2 (u2 SA_1 0 3 (SB 0 3)) 0 4 (SB 0 4)) 0 4) * 10) : Int32).toNatClampNeg)) 0 4) * 10) < 0 ∨ 300 < (0 : Int32).toNatClampNeg + (((u1 (u2 (u2 SA_1 0 3 (SB 0 3)) 0 4 (SB 0 4)) 6 (a_cpy (SB 6) ((u2 (u2 SA_1 0 3 (SB 0 3)) 0 4 (SB 0 4)) 6) (0 : Int32).toNatClampNeg (0 : Int32).toNatClampNeg ((((u2 (u2 SA_1 0 3 (SB 0 3)) 0 4 (SB 0 4)) 0 4) * 10) : Int32).toNatClampNeg)) 0 4) * 10).toNatClampNeg ∨ 300 < (0 : Int32).toNatClampNeg + (((u1 (u2 (u2 SA_1 0 3 (SB 0 3)) 0 4 (SB 0 4)) 6 (a_cpy (SB 6) ((u2 (u2 SA_1 0 3 (SB 0 3)) 0 4 (SB 0 4)) 6) (0 : Int32).toNatClampNeg (0 : Int32).toNatClampNeg ((((u2 (u2 SA_1 0 3 (SB 0 3)) 0 4 (SB 0 4)) 0 4) * 10) : Int32).toNatClampNeg)) 0 4) * 10).toNatClampNeg)
  · exact nos (itp h zc6)
  have h := itn h zc6
  suffices e : Ev (d + 2, 0, 0, 258, 97, [.val (.ref 640), .val (.ref 512)], [], (126, 120, L, [Y, T, HA, HB, RA, RB, ST, SB, I0, (u1 (u1 (u2 (u2 SA_1 0 3 (SB 0 3)) 0 4 (SB 0 4)) 6 (a_cpy (SB 6) ((u2 (u2 SA_1 0 3 (SB 0 3)) 0 4 (SB 0 4)) 6) (0 : Int32).toNatClampNeg (0 : Int32).toNatClampNeg ((((u2 (u2 SA_1 0 3 (SB 0 3)) 0 4 (SB 0 4)) 0 4) * 10) : Int32).toNatClampNeg)) 7 (a_cpy (SB 7) ((u1 (u2 (u2 SA_1 0 3 (SB 0 3)) 0 4 (SB 0 4)) 6 (a_cpy (SB 6) ((u2 (u2 SA_1 0 3 (SB 0 3)) 0 4 (SB 0 4)) 6) (0 : Int32).toNatClampNeg (0 : Int32).toNatClampNeg ((((u2 (u2 SA_1 0 3 (SB 0 3)) 0 4 (SB 0 4)) 0 4) * 10) : Int32).toNatClampNeg)) 7) (0 : Int32).toNatClampNeg (0 : Int32).toNatClampNeg (((u1 (u2 (u2 SA_1 0 3 (SB 0 3)) 0 4 (SB 0 4)) 6 (a_cpy (SB 6) ((u2 (u2 SA_1 0 3 (SB 0 3)) 0 4 (SB 0 4)) 6) (0 : Int32).toNatClampNeg (0 : Int32).toNatClampNeg ((((u2 (u2 SA_1 0 3 (SB 0 3)) 0 4 (SB 0 4)) 0 4) * 10) : Int32).toNatClampNeg)) 0 4) * 10).toNatClampNeg)), I2, BO, FI, RG, GU, PU, MA, MN, MS, OT, SC], [r0, r1, r2, r3, w, r5, r6, r7, r8], Lg)) o from ev_d (c := ((0 : Int32) < 0 ∨ (0 : Int32) < 0 ∨ (((u1 (u2 (u2 SA_1 0 3 (SB 0 3)) 0 4 (SB 0 4)) 6 (a_cpy (SB 6) ((u2 (u2 SA_1 0 3 (SB 0 3)) 0 4 (SB 0 4)) 6) (0 : Int32).toNatClampNeg (0 : Int32).toNatClampNeg ((((u2 (u2 SA_1 0 3 (SB 0 3)) 0 4 (SB 0 4)) 0 4) * 10) : Int32).toNatClampNeg)) 0 4) * 10) < 0 ∨ 300 < (0 : Int32).toNatClampNeg + (((u1 (u2 (u2 SA_1 0 3 (SB 0 3)) 0 4 (SB 0 4)) 6 (a_cpy (SB 6) ((u2 (u2 SA_1 0 3 (SB 0 3)) 0 4 (SB 0 4)) 6) (0 : Int32).toNatClampNeg (0 : Int32).toNatClampNeg ((((u2 (u2 SA_1 0 3 (SB 0 3)) 0 4 (SB 0 4)) 0 4) * 10) : Int32).toNatClampNeg)) 0 4) * 10).toNatClampNeg ∨ 300 < (0 : Int32).toNatClampNeg + (((u1 (u2 (u2 SA_1 0 3 (SB 0 3)) 0 4 (SB 0 4)) 6 (a_cpy (SB 6) ((u2 (u2 SA_1 0 3 (SB 0 3)) 0 4 (SB 0 4)) 6) (0 : Int32).toNatClampNeg (0 : Int32).toNatClampNeg ((((u2 (u2 SA_1 0 3 (SB 0 3)) 0 4 (SB 0 4)) 0 4) * 10) : Int32).toNatClampNeg)) 0 4) * 10).toNatClampNeg)) _ 11 zc6 e (fun n => Eq.refl _)
  have ze7 := Option.some.inj h
  subst ze7
  exact ev_rete 1 ho (fun n => Eq.refl _)
