/-! printed by program (gen/emitm.py): the reference's methods run as their functions say -/
set_option maxRecDepth 1000000 in
set_option maxHeartbeats 4000000 in
theorem R_f_Y_feed_0 (d : Nat) (Y T H H2 RU RV ST NS I0 I1 I2 BO FI RG GU PU MA MN MS OT SC : Nat → Nat → Int32) (w r5 : Nat) (L : Nat) (Lg : Int64) (p1 : Int32) (p2 : Int32) (p3 : Int32) (p4 : Int32) (p5 : Int32) {r : Int32 × (Nat → Nat → Int32)} (h : f_Y_feed T p1 p2 p3 p4 p5 = some r) : Ev (d + 1, 0, 0, 283, 0, [.val (.ref 64), .val (.int p1), .val (.int p2), .val (.int p3), .val (.int p4), .val (.int p5)], [], (126, 120, L, [Y, T, H, H2, RU, RV, ST, NS, I0, I1, I2, BO, FI, RG, GU, PU, MA, MN, MS, OT, SC], [192, 256, 320, 384, w, r5, 576, 640, 704], Lg)) ((0, some (.int r.1), (126, 120, L, [Y, r.2, H, H2, RU, RV, ST, NS, I0, I1, I2, BO, FI, RG, GU, PU, MA, MN, MS, OT, SC], [192, 256, 320, 384, w, r5, 576, 640, 704], Lg)) : AOut) := by
  suffices key : ∀ o : AOut, ((0, some (.int r.1), (126, 120, L, [Y, r.2, H, H2, RU, RV, ST, NS, I0, I1, I2, BO, FI, RG, GU, PU, MA, MN, MS, OT, SC], [192, 256, 320, 384, w, r5, 576, 640, 704], Lg)) : AOut) = o → Ev (d + 1, 0, 0, 283, 0, [.val (.ref 64), .val (.int p1), .val (.int p2), .val (.int p3), .val (.int p4), .val (.int p5)], [], (126, 120, L, [Y, T, H, H2, RU, RV, ST, NS, I0, I1, I2, BO, FI, RG, GU, PU, MA, MN, MS, OT, SC], [192, 256, 320, 384, w, r5, 576, 640, 704], Lg)) o from key _ rfl
  intro o ho
  by_cases zc1 : (T 0 1) ≤ 580
  · have h := itp h zc1
    suffices e : Ev (d + 1, 0, 0, 283, 15, [.val (.ref 64), .val (.int p1), .val (.int p2), .val (.int p3), .val (.int p4), .val (.int p5)], [], (126, 120, L, [Y, T, H, H2, RU, RV, ST, NS, I0, I1, I2, BO, FI, RG, GU, PU, MA, MN, MS, OT, SC], [192, 256, 320, 384, w, r5, 576, 640, 704], Lg)) o from ev_t (c := (T 0 1) ≤ 580) _ _ 5  zc1 e (fun n => Eq.refl _)
    obtain ⟨T_1, zh2, h⟩ := bnd h
    have zh2 : f_Tape_append T p1 = some T_1 := zh2
    have ze3 := R_f_Tape_append_0 (d + 0) Y T H H2 RU RV ST NS I0 I1 I2 BO FI RG GU PU MA MN MS OT SC 192 256 320 384 w r5 576 640 704 L Lg p1 zh2
    suffices e : Ev (d + 1, 0, 0, 283, 23, [.val (.ref 64), .val (.int p1), .val (.int p2), .val (.int p3), .val (.int p4), .val (.int p5)], [], (126, 120, L, [Y, T_1, H, H2, RU, RV, ST, NS, I0, I1, I2, BO, FI, RG, GU, PU, MA, MN, MS, OT, SC], [192, 256, 320, 384, w, r5, 576, 640, 704], Lg)) o from ev_call (fun v μ => (d + 1, 0, 0, 283, 23, [.val (.ref 64), .val (.int p1), .val (.int p2), .val (.int p3), .val (.int p4), .val (.int p5)], v.toList ++ [], μ)) 4 ze3 e (fun n => Eq.refl _)
    obtain ⟨T_2, zh4, h⟩ := bnd h
    have zh4 : f_Tape_append T_1 p2 = some T_2 := zh4
    have ze5 := R_f_Tape_append_0 (d + 0) Y T_1 H H2 RU RV ST NS I0 I1 I2 BO FI RG GU PU MA MN MS OT SC 192 256 320 384 w r5 576 640 704 L Lg p2 zh4
    suffices e : Ev (d + 1, 0, 0, 283, 31, [.val (.ref 64), .val (.int p1), .val (.int p2), .val (.int p3), .val (.int p4), .val (.int p5)], [], (126, 120, L, [Y, T_2, H, H2, RU, RV, ST, NS, I0, I1, I2, BO, FI, RG, GU, PU, MA, MN, MS, OT, SC], [192, 256, 320, 384, w, r5, 576, 640, 704], Lg)) o from ev_call (fun v μ => (d + 1, 0, 0, 283, 31, [.val (.ref 64), .val (.int p1), .val (.int p2), .val (.int p3), .val (.int p4), .val (.int p5)], v.toList ++ [], μ)) 4 ze5 e (fun n => Eq.refl _)
    obtain ⟨T_3, zh6, h⟩ := bnd h
    have zh6 : f_Tape_append T_2 p3 = some T_3 := zh6
    have ze7 := R_f_Tape_append_0 (d + 0) Y T_2 H H2 RU RV ST NS I0 I1 I2 BO FI RG GU PU MA MN MS OT SC 192 256 320 384 w r5 576 640 704 L Lg p3 zh6
    suffices e : Ev (d + 1, 0, 0, 283, 39, [.val (.ref 64), .val (.int p1), .val (.int p2), .val (.int p3), .val (.int p4), .val (.int p5)], [], (126, 120, L, [Y, T_3, H, H2, RU, RV, ST, NS, I0, I1, I2, BO, FI, RG, GU, PU, MA, MN, MS, OT, SC], [192, 256, 320, 384, w, r5, 576, 640, 704], Lg)) o from ev_call (fun v μ => (d + 1, 0, 0, 283, 39, [.val (.ref 64), .val (.int p1), .val (.int p2), .val (.int p3), .val (.int p4), .val (.int p5)], v.toList ++ [], μ)) 4 ze7 e (fun n => Eq.refl _)
    obtain ⟨T_4, zh8, h⟩ := bnd h
    have zh8 : f_Tape_append T_3 p4 = some T_4 := zh8
    have ze9 := R_f_Tape_append_0 (d + 0) Y T_3 H H2 RU RV ST NS I0 I1 I2 BO FI RG GU PU MA MN MS OT SC 192 256 320 384 w r5 576 640 704 L Lg p4 zh8
    suffices e : Ev (d + 1, 0, 0, 283, 48, [.val (.ref 64), .val (.int p1), .val (.int p2), .val (.int p3), .val (.int p4), .val (.int p5)], [], (126, 120, L, [Y, T_4, H, H2, RU, RV, ST, NS, I0, I1, I2, BO, FI, RG, GU, PU, MA, MN, MS, OT, SC], [192, 256, 320, 384, w, r5, 576, 640, 704], Lg)) o from ev_call (fun v μ => (d + 1, 0, 0, 283, 48, [.val (.ref 64), .val (.int p1), .val (.int p2), .val (.int p3), .val (.int p4), .val (.int p5)], v.toList ++ [], μ)) 4 ze9 e (fun n => Eq.refl _)
    obtain ⟨T_5, zh10, h⟩ := bnd h
    have zh10 : f_Tape_append T_4 p5 = some T_5 := zh10
    have ze11 := R_f_Tape_append_0 (d + 0) Y T_4 H H2 RU RV ST NS I0 I1 I2 BO FI RG GU PU MA MN MS OT SC 192 256 320 384 w r5 576 640 704 L Lg p5 zh10
    suffices e : Ev (d + 1, 0, 0, 283, 57, [.val (.ref 64), .val (.int p1), .val (.int p2), .val (.int p3), .val (.int p4), .val (.int p5)], [], (126, 120, L, [Y, T_5, H, H2, RU, RV, ST, NS, I0, I1, I2, BO, FI, RG, GU, PU, MA, MN, MS, OT, SC], [192, 256, 320, 384, w, r5, 576, 640, 704], Lg)) o from ev_call (fun v μ => (d + 1, 0, 0, 283, 57, [.val (.ref 64), .val (.int p1), .val (.int p2), .val (.int p3), .val (.int p4), .val (.int p5)], v.toList ++ [], μ)) 4 ze11 e (fun n => Eq.refl _)
    have ze12 := Option.some.inj h
    subst ze12
    exact ev_rete 4 ho (fun n => Eq.refl _)
  · have h := itn h zc1
    suffices e : Ev (d + 1, 0, 0, 283, 13, [.val (.ref 64), .val (.int p1), .val (.int p2), .val (.int p3), .val (.int p4), .val (.int p5)], [], (126, 120, L, [Y, T, H, H2, RU, RV, ST, NS, I0, I1, I2, BO, FI, RG, GU, PU, MA, MN, MS, OT, SC], [192, 256, 320, 384, w, r5, 576, 640, 704], Lg)) o from ev_f (c := (T 0 1) ≤ 580) _ _ 5  zc1 e (fun n => Eq.refl _)
    have ze13 := Option.some.inj h
    subst ze13
    exact ev_rete 2 ho (fun n => Eq.refl _)
set_option maxRecDepth 1000000 in
set_option maxHeartbeats 4000000 in
theorem R_f_Y_feed_1 (d : Nat) (Y T H H2 RV RU ST NS I0 I1 I2 BO FI RG GU PU MA MN MS OT SC : Nat → Nat → Int32) (w r5 : Nat) (L : Nat) (Lg : Int64) (p1 : Int32) (p2 : Int32) (p3 : Int32) (p4 : Int32) (p5 : Int32) {r : Int32 × (Nat → Nat → Int32)} (h : f_Y_feed T p1 p2 p3 p4 p5 = some r) : Ev (d + 1, 0, 0, 283, 0, [.val (.ref 64), .val (.int p1), .val (.int p2), .val (.int p3), .val (.int p4), .val (.int p5)], [], (126, 120, L, [Y, T, H, H2, RV, RU, ST, NS, I0, I1, I2, BO, FI, RG, GU, PU, MA, MN, MS, OT, SC], [192, 256, 384, 320, w, r5, 576, 640, 704], Lg)) ((0, some (.int r.1), (126, 120, L, [Y, r.2, H, H2, RV, RU, ST, NS, I0, I1, I2, BO, FI, RG, GU, PU, MA, MN, MS, OT, SC], [192, 256, 384, 320, w, r5, 576, 640, 704], Lg)) : AOut) := by
  suffices key : ∀ o : AOut, ((0, some (.int r.1), (126, 120, L, [Y, r.2, H, H2, RV, RU, ST, NS, I0, I1, I2, BO, FI, RG, GU, PU, MA, MN, MS, OT, SC], [192, 256, 384, 320, w, r5, 576, 640, 704], Lg)) : AOut) = o → Ev (d + 1, 0, 0, 283, 0, [.val (.ref 64), .val (.int p1), .val (.int p2), .val (.int p3), .val (.int p4), .val (.int p5)], [], (126, 120, L, [Y, T, H, H2, RV, RU, ST, NS, I0, I1, I2, BO, FI, RG, GU, PU, MA, MN, MS, OT, SC], [192, 256, 384, 320, w, r5, 576, 640, 704], Lg)) o from key _ rfl
  intro o ho
  by_cases zc1 : (T 0 1) ≤ 580
  · have h := itp h zc1
    suffices e : Ev (d + 1, 0, 0, 283, 15, [.val (.ref 64), .val (.int p1), .val (.int p2), .val (.int p3), .val (.int p4), .val (.int p5)], [], (126, 120, L, [Y, T, H, H2, RV, RU, ST, NS, I0, I1, I2, BO, FI, RG, GU, PU, MA, MN, MS, OT, SC], [192, 256, 384, 320, w, r5, 576, 640, 704], Lg)) o from ev_t (c := (T 0 1) ≤ 580) _ _ 5  zc1 e (fun n => Eq.refl _)
    obtain ⟨T_1, zh2, h⟩ := bnd h
    have zh2 : f_Tape_append T p1 = some T_1 := zh2
    have ze3 := R_f_Tape_append_0 (d + 0) Y T H H2 RV RU ST NS I0 I1 I2 BO FI RG GU PU MA MN MS OT SC 192 256 384 320 w r5 576 640 704 L Lg p1 zh2
    suffices e : Ev (d + 1, 0, 0, 283, 23, [.val (.ref 64), .val (.int p1), .val (.int p2), .val (.int p3), .val (.int p4), .val (.int p5)], [], (126, 120, L, [Y, T_1, H, H2, RV, RU, ST, NS, I0, I1, I2, BO, FI, RG, GU, PU, MA, MN, MS, OT, SC], [192, 256, 384, 320, w, r5, 576, 640, 704], Lg)) o from ev_call (fun v μ => (d + 1, 0, 0, 283, 23, [.val (.ref 64), .val (.int p1), .val (.int p2), .val (.int p3), .val (.int p4), .val (.int p5)], v.toList ++ [], μ)) 4 ze3 e (fun n => Eq.refl _)
    obtain ⟨T_2, zh4, h⟩ := bnd h
    have zh4 : f_Tape_append T_1 p2 = some T_2 := zh4
    have ze5 := R_f_Tape_append_0 (d + 0) Y T_1 H H2 RV RU ST NS I0 I1 I2 BO FI RG GU PU MA MN MS OT SC 192 256 384 320 w r5 576 640 704 L Lg p2 zh4
    suffices e : Ev (d + 1, 0, 0, 283, 31, [.val (.ref 64), .val (.int p1), .val (.int p2), .val (.int p3), .val (.int p4), .val (.int p5)], [], (126, 120, L, [Y, T_2, H, H2, RV, RU, ST, NS, I0, I1, I2, BO, FI, RG, GU, PU, MA, MN, MS, OT, SC], [192, 256, 384, 320, w, r5, 576, 640, 704], Lg)) o from ev_call (fun v μ => (d + 1, 0, 0, 283, 31, [.val (.ref 64), .val (.int p1), .val (.int p2), .val (.int p3), .val (.int p4), .val (.int p5)], v.toList ++ [], μ)) 4 ze5 e (fun n => Eq.refl _)
    obtain ⟨T_3, zh6, h⟩ := bnd h
    have zh6 : f_Tape_append T_2 p3 = some T_3 := zh6
    have ze7 := R_f_Tape_append_0 (d + 0) Y T_2 H H2 RV RU ST NS I0 I1 I2 BO FI RG GU PU MA MN MS OT SC 192 256 384 320 w r5 576 640 704 L Lg p3 zh6
    suffices e : Ev (d + 1, 0, 0, 283, 39, [.val (.ref 64), .val (.int p1), .val (.int p2), .val (.int p3), .val (.int p4), .val (.int p5)], [], (126, 120, L, [Y, T_3, H, H2, RV, RU, ST, NS, I0, I1, I2, BO, FI, RG, GU, PU, MA, MN, MS, OT, SC], [192, 256, 384, 320, w, r5, 576, 640, 704], Lg)) o from ev_call (fun v μ => (d + 1, 0, 0, 283, 39, [.val (.ref 64), .val (.int p1), .val (.int p2), .val (.int p3), .val (.int p4), .val (.int p5)], v.toList ++ [], μ)) 4 ze7 e (fun n => Eq.refl _)
    obtain ⟨T_4, zh8, h⟩ := bnd h
    have zh8 : f_Tape_append T_3 p4 = some T_4 := zh8
    have ze9 := R_f_Tape_append_0 (d + 0) Y T_3 H H2 RV RU ST NS I0 I1 I2 BO FI RG GU PU MA MN MS OT SC 192 256 384 320 w r5 576 640 704 L Lg p4 zh8
    suffices e : Ev (d + 1, 0, 0, 283, 48, [.val (.ref 64), .val (.int p1), .val (.int p2), .val (.int p3), .val (.int p4), .val (.int p5)], [], (126, 120, L, [Y, T_4, H, H2, RV, RU, ST, NS, I0, I1, I2, BO, FI, RG, GU, PU, MA, MN, MS, OT, SC], [192, 256, 384, 320, w, r5, 576, 640, 704], Lg)) o from ev_call (fun v μ => (d + 1, 0, 0, 283, 48, [.val (.ref 64), .val (.int p1), .val (.int p2), .val (.int p3), .val (.int p4), .val (.int p5)], v.toList ++ [], μ)) 4 ze9 e (fun n => Eq.refl _)
    obtain ⟨T_5, zh10, h⟩ := bnd h
    have zh10 : f_Tape_append T_4 p5 = some T_5 := zh10
    have ze11 := R_f_Tape_append_0 (d + 0) Y T_4 H H2 RV RU ST NS I0 I1 I2 BO FI RG GU PU MA MN MS OT SC 192 256 384 320 w r5 576 640 704 L Lg p5 zh10
    suffices e : Ev (d + 1, 0, 0, 283, 57, [.val (.ref 64), .val (.int p1), .val (.int p2), .val (.int p3), .val (.int p4), .val (.int p5)], [], (126, 120, L, [Y, T_5, H, H2, RV, RU, ST, NS, I0, I1, I2, BO, FI, RG, GU, PU, MA, MN, MS, OT, SC], [192, 256, 384, 320, w, r5, 576, 640, 704], Lg)) o from ev_call (fun v μ => (d + 1, 0, 0, 283, 57, [.val (.ref 64), .val (.int p1), .val (.int p2), .val (.int p3), .val (.int p4), .val (.int p5)], v.toList ++ [], μ)) 4 ze11 e (fun n => Eq.refl _)
    have ze12 := Option.some.inj h
    subst ze12
    exact ev_rete 4 ho (fun n => Eq.refl _)
  · have h := itn h zc1
    suffices e : Ev (d + 1, 0, 0, 283, 13, [.val (.ref 64), .val (.int p1), .val (.int p2), .val (.int p3), .val (.int p4), .val (.int p5)], [], (126, 120, L, [Y, T, H, H2, RV, RU, ST, NS, I0, I1, I2, BO, FI, RG, GU, PU, MA, MN, MS, OT, SC], [192, 256, 384, 320, w, r5, 576, 640, 704], Lg)) o from ev_f (c := (T 0 1) ≤ 580) _ _ 5  zc1 e (fun n => Eq.refl _)
    have ze13 := Option.some.inj h
    subst ze13
    exact ev_rete 2 ho (fun n => Eq.refl _)
set_option maxRecDepth 1000000 in
set_option maxHeartbeats 4000000 in
theorem R_f_Y_feed_2 (d : Nat) (Y T H2 H RU RV ST NS I0 I1 I2 BO FI RG GU PU MA MN MS OT SC : Nat → Nat → Int32) (w r5 : Nat) (L : Nat) (Lg : Int64) (p1 : Int32) (p2 : Int32) (p3 : Int32) (p4 : Int32) (p5 : Int32) {r : Int32 × (Nat → Nat → Int32)} (h : f_Y_feed T p1 p2 p3 p4 p5 = some r) : Ev (d + 1, 0, 0, 283, 0, [.val (.ref 64), .val (.int p1), .val (.int p2), .val (.int p3), .val (.int p4), .val (.int p5)], [], (126, 120, L, [Y, T, H2, H, RU, RV, ST, NS, I0, I1, I2, BO, FI, RG, GU, PU, MA, MN, MS, OT, SC], [256, 192, 320, 384, w, r5, 576, 640, 704], Lg)) ((0, some (.int r.1), (126, 120, L, [Y, r.2, H2, H, RU, RV, ST, NS, I0, I1, I2, BO, FI, RG, GU, PU, MA, MN, MS, OT, SC], [256, 192, 320, 384, w, r5, 576, 640, 704], Lg)) : AOut) := by
  suffices key : ∀ o : AOut, ((0, some (.int r.1), (126, 120, L, [Y, r.2, H2, H, RU, RV, ST, NS, I0, I1, I2, BO, FI, RG, GU, PU, MA, MN, MS, OT, SC], [256, 192, 320, 384, w, r5, 576, 640, 704], Lg)) : AOut) = o → Ev (d + 1, 0, 0, 283, 0, [.val (.ref 64), .val (.int p1), .val (.int p2), .val (.int p3), .val (.int p4), .val (.int p5)], [], (126, 120, L, [Y, T, H2, H, RU, RV, ST, NS, I0, I1, I2, BO, FI, RG, GU, PU, MA, MN, MS, OT, SC], [256, 192, 320, 384, w, r5, 576, 640, 704], Lg)) o from key _ rfl
  intro o ho
  by_cases zc1 : (T 0 1) ≤ 580
  · have h := itp h zc1
    suffices e : Ev (d + 1, 0, 0, 283, 15, [.val (.ref 64), .val (.int p1), .val (.int p2), .val (.int p3), .val (.int p4), .val (.int p5)], [], (126, 120, L, [Y, T, H2, H, RU, RV, ST, NS, I0, I1, I2, BO, FI, RG, GU, PU, MA, MN, MS, OT, SC], [256, 192, 320, 384, w, r5, 576, 640, 704], Lg)) o from ev_t (c := (T 0 1) ≤ 580) _ _ 5  zc1 e (fun n => Eq.refl _)
    obtain ⟨T_1, zh2, h⟩ := bnd h
    have zh2 : f_Tape_append T p1 = some T_1 := zh2
    have ze3 := R_f_Tape_append_0 (d + 0) Y T H2 H RU RV ST NS I0 I1 I2 BO FI RG GU PU MA MN MS OT SC 256 192 320 384 w r5 576 640 704 L Lg p1 zh2
    suffices e : Ev (d + 1, 0, 0, 283, 23, [.val (.ref 64), .val (.int p1), .val (.int p2), .val (.int p3), .val (.int p4), .val (.int p5)], [], (126, 120, L, [Y, T_1, H2, H, RU, RV, ST, NS, I0, I1, I2, BO, FI, RG, GU, PU, MA, MN, MS, OT, SC], [256, 192, 320, 384, w, r5, 576, 640, 704], Lg)) o from ev_call (fun v μ => (d + 1, 0, 0, 283, 23, [.val (.ref 64), .val (.int p1), .val (.int p2), .val (.int p3), .val (.int p4), .val (.int p5)], v.toList ++ [], μ)) 4 ze3 e (fun n => Eq.refl _)
    obtain ⟨T_2, zh4, h⟩ := bnd h
    have zh4 : f_Tape_append T_1 p2 = some T_2 := zh4
    have ze5 := R_f_Tape_append_0 (d + 0) Y T_1 H2 H RU RV ST NS I0 I1 I2 BO FI RG GU PU MA MN MS OT SC 256 192 320 384 w r5 576 640 704 L Lg p2 zh4
    suffices e : Ev (d + 1, 0, 0, 283, 31, [.val (.ref 64), .val (.int p1), .val (.int p2), .val (.int p3), .val (.int p4), .val (.int p5)], [], (126, 120, L, [Y, T_2, H2, H, RU, RV, ST, NS, I0, I1, I2, BO, FI, RG, GU, PU, MA, MN, MS, OT, SC], [256, 192, 320, 384, w, r5, 576, 640, 704], Lg)) o from ev_call (fun v μ => (d + 1, 0, 0, 283, 31, [.val (.ref 64), .val (.int p1), .val (.int p2), .val (.int p3), .val (.int p4), .val (.int p5)], v.toList ++ [], μ)) 4 ze5 e (fun n => Eq.refl _)
    obtain ⟨T_3, zh6, h⟩ := bnd h
    have zh6 : f_Tape_append T_2 p3 = some T_3 := zh6
    have ze7 := R_f_Tape_append_0 (d + 0) Y T_2 H2 H RU RV ST NS I0 I1 I2 BO FI RG GU PU MA MN MS OT SC 256 192 320 384 w r5 576 640 704 L Lg p3 zh6
    suffices e : Ev (d + 1, 0, 0, 283, 39, [.val (.ref 64), .val (.int p1), .val (.int p2), .val (.int p3), .val (.int p4), .val (.int p5)], [], (126, 120, L, [Y, T_3, H2, H, RU, RV, ST, NS, I0, I1, I2, BO, FI, RG, GU, PU, MA, MN, MS, OT, SC], [256, 192, 320, 384, w, r5, 576, 640, 704], Lg)) o from ev_call (fun v μ => (d + 1, 0, 0, 283, 39, [.val (.ref 64), .val (.int p1), .val (.int p2), .val (.int p3), .val (.int p4), .val (.int p5)], v.toList ++ [], μ)) 4 ze7 e (fun n => Eq.refl _)
    obtain ⟨T_4, zh8, h⟩ := bnd h
    have zh8 : f_Tape_append T_3 p4 = some T_4 := zh8
    have ze9 := R_f_Tape_append_0 (d + 0) Y T_3 H2 H RU RV ST NS I0 I1 I2 BO FI RG GU PU MA MN MS OT SC 256 192 320 384 w r5 576 640 704 L Lg p4 zh8
    suffices e : Ev (d + 1, 0, 0, 283, 48, [.val (.ref 64), .val (.int p1), .val (.int p2), .val (.int p3), .val (.int p4), .val (.int p5)], [], (126, 120, L, [Y, T_4, H2, H, RU, RV, ST, NS, I0, I1, I2, BO, FI, RG, GU, PU, MA, MN, MS, OT, SC], [256, 192, 320, 384, w, r5, 576, 640, 704], Lg)) o from ev_call (fun v μ => (d + 1, 0, 0, 283, 48, [.val (.ref 64), .val (.int p1), .val (.int p2), .val (.int p3), .val (.int p4), .val (.int p5)], v.toList ++ [], μ)) 4 ze9 e (fun n => Eq.refl _)
    obtain ⟨T_5, zh10, h⟩ := bnd h
    have zh10 : f_Tape_append T_4 p5 = some T_5 := zh10
    have ze11 := R_f_Tape_append_0 (d + 0) Y T_4 H2 H RU RV ST NS I0 I1 I2 BO FI RG GU PU MA MN MS OT SC 256 192 320 384 w r5 576 640 704 L Lg p5 zh10
    suffices e : Ev (d + 1, 0, 0, 283, 57, [.val (.ref 64), .val (.int p1), .val (.int p2), .val (.int p3), .val (.int p4), .val (.int p5)], [], (126, 120, L, [Y, T_5, H2, H, RU, RV, ST, NS, I0, I1, I2, BO, FI, RG, GU, PU, MA, MN, MS, OT, SC], [256, 192, 320, 384, w, r5, 576, 640, 704], Lg)) o from ev_call (fun v μ => (d + 1, 0, 0, 283, 57, [.val (.ref 64), .val (.int p1), .val (.int p2), .val (.int p3), .val (.int p4), .val (.int p5)], v.toList ++ [], μ)) 4 ze11 e (fun n => Eq.refl _)
    have ze12 := Option.some.inj h
    subst ze12
    exact ev_rete 4 ho (fun n => Eq.refl _)
  · have h := itn h zc1
    suffices e : Ev (d + 1, 0, 0, 283, 13, [.val (.ref 64), .val (.int p1), .val (.int p2), .val (.int p3), .val (.int p4), .val (.int p5)], [], (126, 120, L, [Y, T, H2, H, RU, RV, ST, NS, I0, I1, I2, BO, FI, RG, GU, PU, MA, MN, MS, OT, SC], [256, 192, 320, 384, w, r5, 576, 640, 704], Lg)) o from ev_f (c := (T 0 1) ≤ 580) _ _ 5  zc1 e (fun n => Eq.refl _)
    have ze13 := Option.some.inj h
    subst ze13
    exact ev_rete 2 ho (fun n => Eq.refl _)
set_option maxRecDepth 1000000 in
set_option maxHeartbeats 4000000 in
theorem R_f_Y_feed_3 (d : Nat) (Y T H2 H RV RU ST NS I0 I1 I2 BO FI RG GU PU MA MN MS OT SC : Nat → Nat → Int32) (w r5 : Nat) (L : Nat) (Lg : Int64) (p1 : Int32) (p2 : Int32) (p3 : Int32) (p4 : Int32) (p5 : Int32) {r : Int32 × (Nat → Nat → Int32)} (h : f_Y_feed T p1 p2 p3 p4 p5 = some r) : Ev (d + 1, 0, 0, 283, 0, [.val (.ref 64), .val (.int p1), .val (.int p2), .val (.int p3), .val (.int p4), .val (.int p5)], [], (126, 120, L, [Y, T, H2, H, RV, RU, ST, NS, I0, I1, I2, BO, FI, RG, GU, PU, MA, MN, MS, OT, SC], [256, 192, 384, 320, w, r5, 576, 640, 704], Lg)) ((0, some (.int r.1), (126, 120, L, [Y, r.2, H2, H, RV, RU, ST, NS, I0, I1, I2, BO, FI, RG, GU, PU, MA, MN, MS, OT, SC], [256, 192, 384, 320, w, r5, 576, 640, 704], Lg)) : AOut) := by
  suffices key : ∀ o : AOut, ((0, some (.int r.1), (126, 120, L, [Y, r.2, H2, H, RV, RU, ST, NS, I0, I1, I2, BO, FI, RG, GU, PU, MA, MN, MS, OT, SC], [256, 192, 384, 320, w, r5, 576, 640, 704], Lg)) : AOut) = o → Ev (d + 1, 0, 0, 283, 0, [.val (.ref 64), .val (.int p1), .val (.int p2), .val (.int p3), .val (.int p4), .val (.int p5)], [], (126, 120, L, [Y, T, H2, H, RV, RU, ST, NS, I0, I1, I2, BO, FI, RG, GU, PU, MA, MN, MS, OT, SC], [256, 192, 384, 320, w, r5, 576, 640, 704], Lg)) o from key _ rfl
  intro o ho
  by_cases zc1 : (T 0 1) ≤ 580
  · have h := itp h zc1
    suffices e : Ev (d + 1, 0, 0, 283, 15, [.val (.ref 64), .val (.int p1), .val (.int p2), .val (.int p3), .val (.int p4), .val (.int p5)], [], (126, 120, L, [Y, T, H2, H, RV, RU, ST, NS, I0, I1, I2, BO, FI, RG, GU, PU, MA, MN, MS, OT, SC], [256, 192, 384, 320, w, r5, 576, 640, 704], Lg)) o from ev_t (c := (T 0 1) ≤ 580) _ _ 5  zc1 e (fun n => Eq.refl _)
    obtain ⟨T_1, zh2, h⟩ := bnd h
    have zh2 : f_Tape_append T p1 = some T_1 := zh2
    have ze3 := R_f_Tape_append_0 (d + 0) Y T H2 H RV RU ST NS I0 I1 I2 BO FI RG GU PU MA MN MS OT SC 256 192 384 320 w r5 576 640 704 L Lg p1 zh2
    suffices e : Ev (d + 1, 0, 0, 283, 23, [.val (.ref 64), .val (.int p1), .val (.int p2), .val (.int p3), .val (.int p4), .val (.int p5)], [], (126, 120, L, [Y, T_1, H2, H, RV, RU, ST, NS, I0, I1, I2, BO, FI, RG, GU, PU, MA, MN, MS, OT, SC], [256, 192, 384, 320, w, r5, 576, 640, 704], Lg)) o from ev_call (fun v μ => (d + 1, 0, 0, 283, 23, [.val (.ref 64), .val (.int p1), .val (.int p2), .val (.int p3), .val (.int p4), .val (.int p5)], v.toList ++ [], μ)) 4 ze3 e (fun n => Eq.refl _)
    obtain ⟨T_2, zh4, h⟩ := bnd h
    have zh4 : f_Tape_append T_1 p2 = some T_2 := zh4
    have ze5 := R_f_Tape_append_0 (d + 0) Y T_1 H2 H RV RU ST NS I0 I1 I2 BO FI RG GU PU MA MN MS OT SC 256 192 384 320 w r5 576 640 704 L Lg p2 zh4
    suffices e : Ev (d + 1, 0, 0, 283, 31, [.val (.ref 64), .val (.int p1), .val (.int p2), .val (.int p3), .val (.int p4), .val (.int p5)], [], (126, 120, L, [Y, T_2, H2, H, RV, RU, ST, NS, I0, I1, I2, BO, FI, RG, GU, PU, MA, MN, MS, OT, SC], [256, 192, 384, 320, w, r5, 576, 640, 704], Lg)) o from ev_call (fun v μ => (d + 1, 0, 0, 283, 31, [.val (.ref 64), .val (.int p1), .val (.int p2), .val (.int p3), .val (.int p4), .val (.int p5)], v.toList ++ [], μ)) 4 ze5 e (fun n => Eq.refl _)
    obtain ⟨T_3, zh6, h⟩ := bnd h
    have zh6 : f_Tape_append T_2 p3 = some T_3 := zh6
    have ze7 := R_f_Tape_append_0 (d + 0) Y T_2 H2 H RV RU ST NS I0 I1 I2 BO FI RG GU PU MA MN MS OT SC 256 192 384 320 w r5 576 640 704 L Lg p3 zh6
    suffices e : Ev (d + 1, 0, 0, 283, 39, [.val (.ref 64), .val (.int p1), .val (.int p2), .val (.int p3), .val (.int p4), .val (.int p5)], [], (126, 120, L, [Y, T_3, H2, H, RV, RU, ST, NS, I0, I1, I2, BO, FI, RG, GU, PU, MA, MN, MS, OT, SC], [256, 192, 384, 320, w, r5, 576, 640, 704], Lg)) o from ev_call (fun v μ => (d + 1, 0, 0, 283, 39, [.val (.ref 64), .val (.int p1), .val (.int p2), .val (.int p3), .val (.int p4), .val (.int p5)], v.toList ++ [], μ)) 4 ze7 e (fun n => Eq.refl _)
    obtain ⟨T_4, zh8, h⟩ := bnd h
    have zh8 : f_Tape_append T_3 p4 = some T_4 := zh8
    have ze9 := R_f_Tape_append_0 (d + 0) Y T_3 H2 H RV RU ST NS I0 I1 I2 BO FI RG GU PU MA MN MS OT SC 256 192 384 320 w r5 576 640 704 L Lg p4 zh8
    suffices e : Ev (d + 1, 0, 0, 283, 48, [.val (.ref 64), .val (.int p1), .val (.int p2), .val (.int p3), .val (.int p4), .val (.int p5)], [], (126, 120, L, [Y, T_4, H2, H, RV, RU, ST, NS, I0, I1, I2, BO, FI, RG, GU, PU, MA, MN, MS, OT, SC], [256, 192, 384, 320, w, r5, 576, 640, 704], Lg)) o from ev_call (fun v μ => (d + 1, 0, 0, 283, 48, [.val (.ref 64), .val (.int p1), .val (.int p2), .val (.int p3), .val (.int p4), .val (.int p5)], v.toList ++ [], μ)) 4 ze9 e (fun n => Eq.refl _)
    obtain ⟨T_5, zh10, h⟩ := bnd h
    have zh10 : f_Tape_append T_4 p5 = some T_5 := zh10
    have ze11 := R_f_Tape_append_0 (d + 0) Y T_4 H2 H RV RU ST NS I0 I1 I2 BO FI RG GU PU MA MN MS OT SC 256 192 384 320 w r5 576 640 704 L Lg p5 zh10
    suffices e : Ev (d + 1, 0, 0, 283, 57, [.val (.ref 64), .val (.int p1), .val (.int p2), .val (.int p3), .val (.int p4), .val (.int p5)], [], (126, 120, L, [Y, T_5, H2, H, RV, RU, ST, NS, I0, I1, I2, BO, FI, RG, GU, PU, MA, MN, MS, OT, SC], [256, 192, 384, 320, w, r5, 576, 640, 704], Lg)) o from ev_call (fun v μ => (d + 1, 0, 0, 283, 57, [.val (.ref 64), .val (.int p1), .val (.int p2), .val (.int p3), .val (.int p4), .val (.int p5)], v.toList ++ [], μ)) 4 ze11 e (fun n => Eq.refl _)
    have ze12 := Option.some.inj h
    subst ze12
    exact ev_rete 4 ho (fun n => Eq.refl _)
  · have h := itn h zc1
    suffices e : Ev (d + 1, 0, 0, 283, 13, [.val (.ref 64), .val (.int p1), .val (.int p2), .val (.int p3), .val (.int p4), .val (.int p5)], [], (126, 120, L, [Y, T, H2, H, RV, RU, ST, NS, I0, I1, I2, BO, FI, RG, GU, PU, MA, MN, MS, OT, SC], [256, 192, 384, 320, w, r5, 576, 640, 704], Lg)) o from ev_f (c := (T 0 1) ≤ 580) _ _ 5  zc1 e (fun n => Eq.refl _)
    have ze13 := Option.some.inj h
    subst ze13
    exact ev_rete 2 ho (fun n => Eq.refl _)
set_option maxRecDepth 1000000 in
set_option maxHeartbeats 4000000 in
theorem R_f_Y_refuseUnless_0 (d : Nat) (Y T H H2 RU RV ST NS I0 I1 I2 BO FI RG GU PU MA MN MS OT SC : Nat → Nat → Int32) (w r5 : Nat) (L : Nat) (Lg : Int64) (p1 : Int32) {r : Nat × (Nat → Nat → Int32)} (h : f_Y_refuseUnless Y p1 = some r) : Ev (d + 0, 1, 8, 333, 0, [.val (.ref 64), .val (.int p1)], [], (126, 120, L, [Y, T, H, H2, RU, RV, ST, NS, I0, I1, I2, BO, FI, RG, GU, PU, MA, MN, MS, OT, SC], [192, 256, 320, 384, w, r5, 576, 640, 704], Lg)) ((r.1, none, (126, 120, L, [r.2, T, H, H2, RU, RV, ST, NS, I0, I1, I2, BO, FI, RG, GU, PU, MA, MN, MS, OT, SC], [192, 256, 320, 384, w, r5, 576, 640, 704], Lg)) : AOut) := by
  suffices key : ∀ o : AOut, ((r.1, none, (126, 120, L, [r.2, T, H, H2, RU, RV, ST, NS, I0, I1, I2, BO, FI, RG, GU, PU, MA, MN, MS, OT, SC], [192, 256, 320, 384, w, r5, 576, 640, 704], Lg)) : AOut) = o → Ev (d + 0, 1, 8, 333, 0, [.val (.ref 64), .val (.int p1)], [], (126, 120, L, [Y, T, H, H2, RU, RV, ST, NS, I0, I1, I2, BO, FI, RG, GU, PU, MA, MN, MS, OT, SC], [192, 256, 320, 384, w, r5, 576, 640, 704], Lg)) o from key _ rfl
  intro o ho
  by_cases zc1 : p1 ≠ 0
  · have h := itp h zc1
    suffices e : Ev (d + 0, 1, 8, 333, 22, [.val (.ref 64), .val (.int p1)], [], (126, 120, L, [Y, T, H, H2, RU, RV, ST, NS, I0, I1, I2, BO, FI, RG, GU, PU, MA, MN, MS, OT, SC], [192, 256, 320, 384, w, r5, 576, 640, 704], Lg)) o from ev_t (c := p1 ≠ 0) _ _ 2  zc1 e (fun n => Eq.refl _)
    have ze2 := Option.some.inj h
    subst ze2
    exact ev_rete 1 ho (fun n => Eq.refl _)
  · have h := itn h zc1
    suffices e : Ev (d + 0, 1, 8, 333, 4, [.val (.ref 64), .val (.int p1)], [], (126, 120, L, [Y, T, H, H2, RU, RV, ST, NS, I0, I1, I2, BO, FI, RG, GU, PU, MA, MN, MS, OT, SC], [192, 256, 320, 384, w, r5, 576, 640, 704], Lg)) o from ev_f (c := p1 ≠ 0) _ _ 2  zc1 e (fun n => Eq.refl _)
    have ze3 := Option.some.inj h
    subst ze3
    exact ev_rete 7 ho (fun n => Eq.refl _)
set_option maxRecDepth 1000000 in
set_option maxHeartbeats 4000000 in
theorem R_f_Math_min_0 (d : Nat) (Y T HA HB RA RB ST NS I0 I1 I2 BO FI RG GU PU MA MN MS OT SC : Nat → Nat → Int32) (r0 r1 r2 r3 w r5 r6 r7 r8 : Nat) (L : Nat) (Lg : Int64) (p0 : Int32) (p1 : Int32) {r : Int32} (h : f_Math_min p0 p1 = some r) : Ev (d + 0, 0, 0, 3, 0, [.val (.int p0), .val (.int p1)], [], (126, 120, L, [Y, T, HA, HB, RA, RB, ST, NS, I0, I1, I2, BO, FI, RG, GU, PU, MA, MN, MS, OT, SC], [r0, r1, r2, r3, w, r5, r6, r7, r8], Lg)) ((0, some (.int r), (126, 120, L, [Y, T, HA, HB, RA, RB, ST, NS, I0, I1, I2, BO, FI, RG, GU, PU, MA, MN, MS, OT, SC], [r0, r1, r2, r3, w, r5, r6, r7, r8], Lg)) : AOut) := by
  suffices key : ∀ o : AOut, ((0, some (.int r), (126, 120, L, [Y, T, HA, HB, RA, RB, ST, NS, I0, I1, I2, BO, FI, RG, GU, PU, MA, MN, MS, OT, SC], [r0, r1, r2, r3, w, r5, r6, r7, r8], Lg)) : AOut) = o → Ev (d + 0, 0, 0, 3, 0, [.val (.int p0), .val (.int p1)], [], (126, 120, L, [Y, T, HA, HB, RA, RB, ST, NS, I0, I1, I2, BO, FI, RG, GU, PU, MA, MN, MS, OT, SC], [r0, r1, r2, r3, w, r5, r6, r7, r8], Lg)) o from key _ rfl
  intro o ho
  by_cases zc1 : p1 < p0
  · have h := itp h zc1
    suffices e : Ev (d + 0, 0, 0, 3, 9, [.val (.int p0), .val (.int p1)], [], (126, 120, L, [Y, T, HA, HB, RA, RB, ST, NS, I0, I1, I2, BO, FI, RG, GU, PU, MA, MN, MS, OT, SC], [r0, r1, r2, r3, w, r5, r6, r7, r8], Lg)) o from ev_t (c := p1 < p0) _ _ 3  zc1 e (fun n => Eq.refl _)
    have ze2 := Option.some.inj h
    subst ze2
    exact ev_rete 2 ho (fun n => Eq.refl _)
  · have h := itn h zc1
    suffices e : Ev (d + 0, 0, 0, 3, 5, [.val (.int p0), .val (.int p1)], [], (126, 120, L, [Y, T, HA, HB, RA, RB, ST, NS, I0, I1, I2, BO, FI, RG, GU, PU, MA, MN, MS, OT, SC], [r0, r1, r2, r3, w, r5, r6, r7, r8], Lg)) o from ev_f (c := p1 < p0) _ _ 3  zc1 e (fun n => Eq.refl _)
    have ze3 := Option.some.inj h
    subst ze3
    exact ev_rete 3 ho (fun n => Eq.refl _)
set_option maxRecDepth 1000000 in
set_option maxHeartbeats 4000000 in
theorem R_f_Tape_isDigit_0 (d : Nat) (Y T HA HB RA RB ST NS I0 I1 I2 BO FI RG GU PU MA MN MS OT SC : Nat → Nat → Int32) (r0 r1 r2 r3 w r5 r6 r7 r8 : Nat) (L : Nat) (Lg : Int64) (p1 : Int32) {r : Int32} (h : f_Tape_isDigit T p1 = some r) : Ev (d + 0, 0, 0, 275, 0, [.val (.ref 128), .val (.int p1)], [], (126, 120, L, [Y, T, HA, HB, RA, RB, ST, NS, I0, I1, I2, BO, FI, RG, GU, PU, MA, MN, MS, OT, SC], [r0, r1, r2, r3, w, r5, r6, r7, r8], Lg)) ((0, some (.int r), (126, 120, L, [Y, T, HA, HB, RA, RB, ST, NS, I0, I1, I2, BO, FI, RG, GU, PU, MA, MN, MS, OT, SC], [r0, r1, r2, r3, w, r5, r6, r7, r8], Lg)) : AOut) := by
  suffices key : ∀ o : AOut, ((0, some (.int r), (126, 120, L, [Y, T, HA, HB, RA, RB, ST, NS, I0, I1, I2, BO, FI, RG, GU, PU, MA, MN, MS, OT, SC], [r0, r1, r2, r3, w, r5, r6, r7, r8], Lg)) : AOut) = o → Ev (d + 0, 0, 0, 275, 0, [.val (.ref 128), .val (.int p1)], [], (126, 120, L, [Y, T, HA, HB, RA, RB, ST, NS, I0, I1, I2, BO, FI, RG, GU, PU, MA, MN, MS, OT, SC], [r0, r1, r2, r3, w, r5, r6, r7, r8], Lg)) o from key _ rfl
  intro o ho
  obtain ⟨x1, zh1, h⟩ := bnd h
  have zh1 : rdx (T 1) 600 p1 = some x1 := zh1
  suffices e : Ev (d + 0, 0, 0, 275, 6, [.val (.ref 128), .val (.int p1)], [.int x1], (126, 120, L, [Y, T, HA, HB, RA, RB, ST, NS, I0, I1, I2, BO, FI, RG, GU, PU, MA, MN, MS, OT, SC], [r0, r1, r2, r3, w, r5, r6, r7, r8], Lg)) o from ev_opt (fun x1 => (d + 0, 0, 0, 275, 6, [.val (.ref 128), .val (.int p1)], [.int x1], (126, 120, L, [Y, T, HA, HB, RA, RB, ST, NS, I0, I1, I2, BO, FI, RG, GU, PU, MA, MN, MS, OT, SC], [r0, r1, r2, r3, w, r5, r6, r7, r8], Lg))) 4 zh1 e (fun n => Eq.refl _)
  by_cases zc2 : x1 < 48
  · have h := itp h zc2
    suffices e : Ev (d + 0, 0, 0, 275, 26, [.val (.ref 128), .val (.int p1)], [], (126, 120, L, [Y, T, HA, HB, RA, RB, ST, NS, I0, I1, I2, BO, FI, RG, GU, PU, MA, MN, MS, OT, SC], [r0, r1, r2, r3, w, r5, r6, r7, r8], Lg)) o from ev_t (c := x1 < 48) _ _ 2  zc2 e (fun n => Eq.refl _)
    have ze3 := Option.some.inj h
    subst ze3
    exact ev_rete 2 ho (fun n => Eq.refl _)
  · have h := itn h zc2
    suffices e : Ev (d + 0, 0, 0, 275, 11, [.val (.ref 128), .val (.int p1)], [], (126, 120, L, [Y, T, HA, HB, RA, RB, ST, NS, I0, I1, I2, BO, FI, RG, GU, PU, MA, MN, MS, OT, SC], [r0, r1, r2, r3, w, r5, r6, r7, r8], Lg)) o from ev_f (c := x1 < 48) _ _ 2  zc2 e (fun n => Eq.refl _)
    obtain ⟨x2, zh4, h⟩ := bnd h
    have zh4 : rdx (T 1) 600 p1 = some x2 := zh4
    suffices e : Ev (d + 0, 0, 0, 275, 17, [.val (.ref 128), .val (.int p1)], [.int x2], (126, 120, L, [Y, T, HA, HB, RA, RB, ST, NS, I0, I1, I2, BO, FI, RG, GU, PU, MA, MN, MS, OT, SC], [r0, r1, r2, r3, w, r5, r6, r7, r8], Lg)) o from ev_opt (fun x2 => (d + 0, 0, 0, 275, 17, [.val (.ref 128), .val (.int p1)], [.int x2], (126, 120, L, [Y, T, HA, HB, RA, RB, ST, NS, I0, I1, I2, BO, FI, RG, GU, PU, MA, MN, MS, OT, SC], [r0, r1, r2, r3, w, r5, r6, r7, r8], Lg))) 4 zh4 e (fun n => Eq.refl _)
    by_cases zc5 : 57 < x2
    · have h := itp h zc5
      suffices e : Ev (d + 0, 0, 0, 275, 26, [.val (.ref 128), .val (.int p1)], [], (126, 120, L, [Y, T, HA, HB, RA, RB, ST, NS, I0, I1, I2, BO, FI, RG, GU, PU, MA, MN, MS, OT, SC], [r0, r1, r2, r3, w, r5, r6, r7, r8], Lg)) o from ev_t (c := 57 < x2) _ _ 2  zc5 e (fun n => Eq.refl _)
      have ze6 := Option.some.inj h
      subst ze6
      exact ev_rete 2 ho (fun n => Eq.refl _)
    · have h := itn h zc5
      suffices e : Ev (d + 0, 0, 0, 275, 22, [.val (.ref 128), .val (.int p1)], [], (126, 120, L, [Y, T, HA, HB, RA, RB, ST, NS, I0, I1, I2, BO, FI, RG, GU, PU, MA, MN, MS, OT, SC], [r0, r1, r2, r3, w, r5, r6, r7, r8], Lg)) o from ev_f (c := 57 < x2) _ _ 2  zc5 e (fun n => Eq.refl _)
      have ze7 := Option.some.inj h
      subst ze7
      exact ev_rete 3 ho (fun n => Eq.refl _)
set_option maxRecDepth 1000000 in
set_option maxHeartbeats 4000000 in
theorem R_f_Tape_isLetter_0 (d : Nat) (Y T HA HB RA RB ST NS I0 I1 I2 BO FI RG GU PU MA MN MS OT SC : Nat → Nat → Int32) (r0 r1 r2 r3 w r5 r6 r7 r8 : Nat) (L : Nat) (Lg : Int64) (p1 : Int32) {r : Int32} (h : f_Tape_isLetter T p1 = some r) : Ev (d + 0, 0, 0, 276, 0, [.val (.ref 128), .val (.int p1)], [], (126, 120, L, [Y, T, HA, HB, RA, RB, ST, NS, I0, I1, I2, BO, FI, RG, GU, PU, MA, MN, MS, OT, SC], [r0, r1, r2, r3, w, r5, r6, r7, r8], Lg)) ((0, some (.int r), (126, 120, L, [Y, T, HA, HB, RA, RB, ST, NS, I0, I1, I2, BO, FI, RG, GU, PU, MA, MN, MS, OT, SC], [r0, r1, r2, r3, w, r5, r6, r7, r8], Lg)) : AOut) := by
  suffices key : ∀ o : AOut, ((0, some (.int r), (126, 120, L, [Y, T, HA, HB, RA, RB, ST, NS, I0, I1, I2, BO, FI, RG, GU, PU, MA, MN, MS, OT, SC], [r0, r1, r2, r3, w, r5, r6, r7, r8], Lg)) : AOut) = o → Ev (d + 0, 0, 0, 276, 0, [.val (.ref 128), .val (.int p1)], [], (126, 120, L, [Y, T, HA, HB, RA, RB, ST, NS, I0, I1, I2, BO, FI, RG, GU, PU, MA, MN, MS, OT, SC], [r0, r1, r2, r3, w, r5, r6, r7, r8], Lg)) o from key _ rfl
  intro o ho
  obtain ⟨x1, zh1, h⟩ := bnd h
  have zh1 : rdx (T 1) 600 p1 = some x1 := zh1
  suffices e : Ev (d + 0, 0, 0, 276, 6, [.val (.ref 128), .val (.int p1)], [.int x1], (126, 120, L, [Y, T, HA, HB, RA, RB, ST, NS, I0, I1, I2, BO, FI, RG, GU, PU, MA, MN, MS, OT, SC], [r0, r1, r2, r3, w, r5, r6, r7, r8], Lg)) o from ev_opt (fun x1 => (d + 0, 0, 0, 276, 6, [.val (.ref 128), .val (.int p1)], [.int x1], (126, 120, L, [Y, T, HA, HB, RA, RB, ST, NS, I0, I1, I2, BO, FI, RG, GU, PU, MA, MN, MS, OT, SC], [r0, r1, r2, r3, w, r5, r6, r7, r8], Lg))) 4 zh1 e (fun n => Eq.refl _)
  by_cases zc2 : x1 < 97
  · have h := itp h zc2
    suffices e : Ev (d + 0, 0, 0, 276, 26, [.val (.ref 128), .val (.int p1)], [], (126, 120, L, [Y, T, HA, HB, RA, RB, ST, NS, I0, I1, I2, BO, FI, RG, GU, PU, MA, MN, MS, OT, SC], [r0, r1, r2, r3, w, r5, r6, r7, r8], Lg)) o from ev_t (c := x1 < 97) _ _ 2  zc2 e (fun n => Eq.refl _)
    have ze3 := Option.some.inj h
    subst ze3
    exact ev_rete 2 ho (fun n => Eq.refl _)
  · have h := itn h zc2
    suffices e : Ev (d + 0, 0, 0, 276, 11, [.val (.ref 128), .val (.int p1)], [], (126, 120, L, [Y, T, HA, HB, RA, RB, ST, NS, I0, I1, I2, BO, FI, RG, GU, PU, MA, MN, MS, OT, SC], [r0, r1, r2, r3, w, r5, r6, r7, r8], Lg)) o from ev_f (c := x1 < 97) _ _ 2  zc2 e (fun n => Eq.refl _)
    obtain ⟨x2, zh4, h⟩ := bnd h
    have zh4 : rdx (T 1) 600 p1 = some x2 := zh4
    suffices e : Ev (d + 0, 0, 0, 276, 17, [.val (.ref 128), .val (.int p1)], [.int x2], (126, 120, L, [Y, T, HA, HB, RA, RB, ST, NS, I0, I1, I2, BO, FI, RG, GU, PU, MA, MN, MS, OT, SC], [r0, r1, r2, r3, w, r5, r6, r7, r8], Lg)) o from ev_opt (fun x2 => (d + 0, 0, 0, 276, 17, [.val (.ref 128), .val (.int p1)], [.int x2], (126, 120, L, [Y, T, HA, HB, RA, RB, ST, NS, I0, I1, I2, BO, FI, RG, GU, PU, MA, MN, MS, OT, SC], [r0, r1, r2, r3, w, r5, r6, r7, r8], Lg))) 4 zh4 e (fun n => Eq.refl _)
    by_cases zc5 : 122 < x2
    · have h := itp h zc5
      suffices e : Ev (d + 0, 0, 0, 276, 26, [.val (.ref 128), .val (.int p1)], [], (126, 120, L, [Y, T, HA, HB, RA, RB, ST, NS, I0, I1, I2, BO, FI, RG, GU, PU, MA, MN, MS, OT, SC], [r0, r1, r2, r3, w, r5, r6, r7, r8], Lg)) o from ev_t (c := 122 < x2) _ _ 2  zc5 e (fun n => Eq.refl _)
      have ze6 := Option.some.inj h
      subst ze6
      exact ev_rete 2 ho (fun n => Eq.refl _)
    · have h := itn h zc5
      suffices e : Ev (d + 0, 0, 0, 276, 22, [.val (.ref 128), .val (.int p1)], [], (126, 120, L, [Y, T, HA, HB, RA, RB, ST, NS, I0, I1, I2, BO, FI, RG, GU, PU, MA, MN, MS, OT, SC], [r0, r1, r2, r3, w, r5, r6, r7, r8], Lg)) o from ev_f (c := 122 < x2) _ _ 2  zc5 e (fun n => Eq.refl _)
      have ze7 := Option.some.inj h
      subst ze7
      exact ev_rete 3 ho (fun n => Eq.refl _)
set_option maxRecDepth 1000000 in
set_option maxHeartbeats 4000000 in
theorem R_f_Tape_scanLetters_0 (d : Nat) (Y T HA HB RA RB ST NS I0 I1 I2 BO FI RG GU PU MA MN MS OT SC : Nat → Nat → Int32) (r0 r1 r2 r3 w r5 r6 r7 r8 : Nat) (L : Nat) (Lg : Int64) {r : (Nat → Nat → Int32)} (h : f_Tape_scanLetters T = some r) : Ev (d + 1, 0, 0, 273, 0, [.val (.ref 128)], [], (126, 120, L, [Y, T, HA, HB, RA, RB, ST, NS, I0, I1, I2, BO, FI, RG, GU, PU, MA, MN, MS, OT, SC], [r0, r1, r2, r3, w, r5, r6, r7, r8], Lg)) ((0, none, (126, 120, L, [Y, r, HA, HB, RA, RB, ST, NS, I0, I1, I2, BO, FI, RG, GU, PU, MA, MN, MS, OT, SC], [r0, r1, r2, r3, w, r5, r6, r7, r8], Lg)) : AOut) := by
  suffices key : ∀ o : AOut, ((0, none, (126, 120, L, [Y, r, HA, HB, RA, RB, ST, NS, I0, I1, I2, BO, FI, RG, GU, PU, MA, MN, MS, OT, SC], [r0, r1, r2, r3, w, r5, r6, r7, r8], Lg)) : AOut) = o → Ev (d + 1, 0, 0, 273, 0, [.val (.ref 128)], [], (126, 120, L, [Y, T, HA, HB, RA, RB, ST, NS, I0, I1, I2, BO, FI, RG, GU, PU, MA, MN, MS, OT, SC], [r0, r1, r2, r3, w, r5, r6, r7, r8], Lg)) o from key _ rfl
  intro o ho
  obtain ⟨T_3, zh2, h⟩ := bnd h
  suffices e : Ev (d + 1, 0, 0, 273, 0, [.val (.ref 128)], [], (126, 120, L, [Y, T, HA, HB, RA, RB, ST, NS, I0, I1, I2, BO, FI, RG, GU, PU, MA, MN, MS, OT, SC], [r0, r1, r2, r3, w, r5, r6, r7, r8], Lg)) o from ev_b 0 e (fun n => Eq.refl _)
  refine ev_loop (δ := Unit) (fun a j => (d + 1, 0, 0, 273, 0, [.val (.ref 128)], [], (126, 120, L, [Y, a, HA, HB, RA, RB, ST, NS, I0, I1, I2, BO, FI, RG, GU, PU, MA, MN, MS, OT, SC], [r0, r1, r2, r3, w, r5, r6, r7, r8], Lg))) (fun b => Ev (d + 1, 0, 0, 273, 35, [.val (.ref 128)], [], (126, 120, L, [Y, b, HA, HB, RA, RB, ST, NS, I0, I1, I2, BO, FI, RG, GU, PU, MA, MN, MS, OT, SC], [r0, r1, r2, r3, w, r5, r6, r7, r8], Lg)) o) ?_ a_F T T_3 zh2 ?_ ()
  · rintro T_1 zr6 zh5 zi3 zx4 ⟨⟩
    have zh5 : f_Tape_scanLetters_l0 T_1 = some zr6 := zh5
    by_cases zc7 : (T_1 0 2) ≤ (T_1 0 5)
    · have zh5 := itp zh5 zc7
      suffices e : Ev (d + 1, 0, 0, 273, 35, [.val (.ref 128)], [], (126, 120, L, [Y, T_1, HA, HB, RA, RB, ST, NS, I0, I1, I2, BO, FI, RG, GU, PU, MA, MN, MS, OT, SC], [r0, r1, r2, r3, w, r5, r6, r7, r8], Lg)) o from ev_t (c := (T_1 0 2) ≤ (T_1 0 5)) _ _ 5  zc7 e (fun n => Eq.refl _)
      exact ev_b 0 (zx4 _ (Option.some.inj zh5).symm ) (fun n => Eq.refl _)
    · have zh5 := itn zh5 zc7
      suffices e : Ev (d + 1, 0, 0, 273, 11, [.val (.ref 128)], [], (126, 120, L, [Y, T_1, HA, HB, RA, RB, ST, NS, I0, I1, I2, BO, FI, RG, GU, PU, MA, MN, MS, OT, SC], [r0, r1, r2, r3, w, r5, r6, r7, r8], Lg)) o from ev_f (c := (T_1 0 2) ≤ (T_1 0 5)) _ _ 5  zc7 e (fun n => Eq.refl _)
      obtain ⟨x2, zh8, zh5⟩ := bnd zh5
      have zh8 : f_Tape_isLetter T_1 (T_1 0 5) = some x2 := zh8
      have ze9 := R_f_Tape_isLetter_0 (d + 0) Y T_1 HA HB RA RB ST NS I0 I1 I2 BO FI RG GU PU MA MN MS OT SC r0 r1 r2 r3 w r5 r6 r7 r8 L Lg (T_1 0 5) zh8
      suffices e : Ev (d + 1, 0, 0, 273, 19, [.val (.ref 128)], [.int x2], (126, 120, L, [Y, T_1, HA, HB, RA, RB, ST, NS, I0, I1, I2, BO, FI, RG, GU, PU, MA, MN, MS, OT, SC], [r0, r1, r2, r3, w, r5, r6, r7, r8], Lg)) o from ev_call (fun v μ => (d + 1, 0, 0, 273, 19, [.val (.ref 128)], v.toList ++ [], μ)) 4 ze9 e (fun n => Eq.refl _)
      by_cases zc10 : x2 = 0
      · have zh5 := itp zh5 zc10
        suffices e : Ev (d + 1, 0, 0, 273, 35, [.val (.ref 128)], [], (126, 120, L, [Y, T_1, HA, HB, RA, RB, ST, NS, I0, I1, I2, BO, FI, RG, GU, PU, MA, MN, MS, OT, SC], [r0, r1, r2, r3, w, r5, r6, r7, r8], Lg)) o from ev_t (c := x2 = 0) _ _ 1  zc10 e (fun n => Eq.refl _)
        exact ev_b 0 (zx4 _ (Option.some.inj zh5).symm ) (fun n => Eq.refl _)
      · have zh5 := itn zh5 zc10
        suffices e : Ev (d + 1, 0, 0, 273, 22, [.val (.ref 128)], [], (126, 120, L, [Y, T_1, HA, HB, RA, RB, ST, NS, I0, I1, I2, BO, FI, RG, GU, PU, MA, MN, MS, OT, SC], [r0, r1, r2, r3, w, r5, r6, r7, r8], Lg)) o from ev_f (c := x2 = 0) _ _ 1  zc10 e (fun n => Eq.refl _)
        exact ev_b 7 (zi3 _ (Option.some.inj zh5).symm ()) (fun n => Eq.refl _)
  · skip
    have ze11 := Option.some.inj h
    subst ze11
    exact ev_rete 1 ho (fun n => Eq.refl _)
set_option maxRecDepth 1000000 in
set_option maxHeartbeats 4000000 in
theorem R_f_Tape_findWord_0 (d : Nat) (Y T HA HB RA RB ST NS I0 I1 I2 BO FI RG GU PU MA MN MS OT SC : Nat → Nat → Int32) (r0 r1 r2 r3 w r5 r6 r7 r8 : Nat) (L : Nat) (Lg : Int64) {r : Nat} (h : f_Tape_findWord T = some r) : Ev (d + 4, 0, 0, 274, 0, [.val (.ref 128), .val a_unk, .val a_unk, .val a_unk, .val a_unk, .val a_unk, .val a_unk], [], (126, 120, L, [Y, T, HA, HB, RA, RB, ST, NS, I0, I1, I2, BO, FI, RG, GU, PU, MA, MN, MS, OT, SC], [r0, r1, r2, r3, w, r5, r6, r7, r8], Lg)) ((0, some (.ref r), (126, 120, L, [Y, T, HA, HB, RA, RB, ST, NS, I0, I1, I2, BO, FI, RG, GU, PU, MA, MN, MS, OT, SC], [r0, r1, r2, r3, w, r5, r6, r7, r8], Lg)) : AOut) := by
  suffices key : ∀ o : AOut, ((0, some (.ref r), (126, 120, L, [Y, T, HA, HB, RA, RB, ST, NS, I0, I1, I2, BO, FI, RG, GU, PU, MA, MN, MS, OT, SC], [r0, r1, r2, r3, w, r5, r6, r7, r8], Lg)) : AOut) = o → Ev (d + 4, 0, 0, 274, 0, [.val (.ref 128), .val a_unk, .val a_unk, .val a_unk, .val a_unk, .val a_unk, .val a_unk], [], (126, 120, L, [Y, T, HA, HB, RA, RB, ST, NS, I0, I1, I2, BO, FI, RG, GU, PU, MA, MN, MS, OT, SC], [r0, r1, r2, r3, w, r5, r6, r7, r8], Lg)) o from key _ rfl
  intro o ho
  obtain ⟨zb1, zh2, h⟩ := bnd h
  suffices e : Ev (d + 4, 0, 0, 274, 9, [.val (.ref 128), .val (.ref 2752), .val (.int (Int32.ofNat 23)), .val (.int 0), .val a_unk, .val a_unk, .val a_unk], [], (126, 120, L, [Y, T, HA, HB, RA, RB, ST, NS, I0, I1, I2, BO, FI, RG, GU, PU, MA, MN, MS, OT, SC], [r0, r1, r2, r3, w, r5, r6, r7, r8], Lg)) o from ev_b 7 e (fun n => Eq.refl _)
  refine ev_loop (δ := Value × Value × Value) (fun a j => (d + 4, 0, 0, 274, 9, [.val (.ref 128), .val (.ref 2752), .val (.int (Int32.ofNat 23)), .val (.int a), .val j.1, .val j.2.1, .val j.2.2], [], (126, 120, L, [Y, T, HA, HB, RA, RB, ST, NS, I0, I1, I2, BO, FI, RG, GU, PU, MA, MN, MS, OT, SC], [r0, r1, r2, r3, w, r5, r6, r7, r8], Lg))) (fun b => sumE b (fun b => ∀ s10 : Value, ∀ s11 : Value, ∀ s12 : Value, ∀ s13 : Value, Ev (d + 4, 0, 0, 274, 114, [.val (.ref 128), .val (.ref 2752), .val (.int (Int32.ofNat 23)), .val s10, .val s11, .val s12, .val s13], [], (126, 120, L, [Y, T, HA, HB, RA, RB, ST, NS, I0, I1, I2, BO, FI, RG, GU, PU, MA, MN, MS, OT, SC], [r0, r1, r2, r3, w, r5, r6, r7, r8], Lg)) o) (fun b => ((0, some (.ref b), (126, 120, L, [Y, T, HA, HB, RA, RB, ST, NS, I0, I1, I2, BO, FI, RG, GU, PU, MA, MN, MS, OT, SC], [r0, r1, r2, r3, w, r5, r6, r7, r8], Lg)) : AOut) = o)) ?_ a_F 0 zb1 zh2 ?_ (a_unk, a_unk, a_unk)
  · rintro v1 zr6 zh5 zi3 zx4 ⟨s2, s3, s4⟩
    have zh5 : f_Tape_findWord_l9 T v1 = some zr6 := zh5
    by_cases zc7 : (Int32.ofNat 23) ≤ v1
    · have zh5 := itp zh5 zc7
      suffices e : Ev (d + 4, 0, 0, 274, 114, [.val (.ref 128), .val (.ref 2752), .val (.int (Int32.ofNat 23)), .val (.int v1), .val s2, .val s3, .val s4], [], (126, 120, L, [Y, T, HA, HB, RA, RB, ST, NS, I0, I1, I2, BO, FI, RG, GU, PU, MA, MN, MS, OT, SC], [r0, r1, r2, r3, w, r5, r6, r7, r8], Lg)) o from ev_t (c := (Int32.ofNat 23) ≤ v1) _ _ 3  zc7 e (fun n => Eq.refl _)
      exact ev_b 0 (zx4 _ (Option.some.inj zh5).symm (.int v1) s2 s3 s4) (fun n => Eq.refl _)
    · have zh5 := itn zh5 zc7
      suffices e : Ev (d + 4, 0, 0, 274, 14, [.val (.ref 128), .val (.ref 2752), .val (.int (Int32.ofNat 23)), .val (.int v1), .val s2, .val s3, .val s4], [], (126, 120, L, [Y, T, HA, HB, RA, RB, ST, NS, I0, I1, I2, BO, FI, RG, GU, PU, MA, MN, MS, OT, SC], [r0, r1, r2, r3, w, r5, r6, r7, r8], Lg)) o from ev_f (c := (Int32.ofNat 23) ≤ v1) _ _ 3  zc7 e (fun n => Eq.refl _)
      obtain ⟨j5, zh8, zh5⟩ := bnd zh5
      have zh8 : ixx 23 v1 = some j5 := zh8
      suffices e : Ev (d + 4, 0, 0, 274, 17, [.val (.ref 128), .val (.ref 2752), .val (.int (Int32.ofNat 23)), .val (.int v1), .val s2, .val s3, .val s4], [.ref (a_ra 2752 j5)], (126, 120, L, [Y, T, HA, HB, RA, RB, ST, NS, I0, I1, I2, BO, FI, RG, GU, PU, MA, MN, MS, OT, SC], [r0, r1, r2, r3, w, r5, r6, r7, r8], Lg)) o from ev_opt (fun j5 => (d + 4, 0, 0, 274, 17, [.val (.ref 128), .val (.ref 2752), .val (.int (Int32.ofNat 23)), .val (.int v1), .val s2, .val s3, .val s4], [.ref (a_ra 2752 j5)], (126, 120, L, [Y, T, HA, HB, RA, RB, ST, NS, I0, I1, I2, BO, FI, RG, GU, PU, MA, MN, MS, OT, SC], [r0, r1, r2, r3, w, r5, r6, r7, r8], Lg))) 3 zh8 e (fun n => Eq.refl _)
      by_cases zg9 : ¬ (isW (a_ra 2752 j5))
      · exact nos (itn zh5 zg9)
      have zg9 := Decidable.not_not.mp zg9
      have zh5 := itp zh5 zg9
      suffices e : Ev (d + 4, 0, 0, 274, 21, [.val (.ref 128), .val (.ref 2752), .val (.int (Int32.ofNat 23)), .val (.int v1), .val (.ref (a_ra 2752 j5)), .val s3, .val s4], [.ref (a_ra 2752 j5)], (126, 120, L, [Y, T, HA, HB, RA, RB, ST, NS, I0, I1, I2, BO, FI, RG, GU, PU, MA, MN, MS, OT, SC], [r0, r1, r2, r3, w, r5, r6, r7, r8], Lg)) o from ev_b 2 e (fun n => Eq.refl _)
      refine r_cgetf (q := 0) rfl (cW zg9).1 (cW zg9).2.1 rfl (cW zg9).2.2.1 ?_
      obtain ⟨v9, zh11, zh5⟩ := bnd zh5
      suffices e : Ev (d + 4, 0, 0, 274, 29, [.val (.ref 128), .val (.ref 2752), .val (.int (Int32.ofNat 23)), .val (.int v1), .val (.ref (a_ra 2752 j5)), .val (.ref (w_txt (a_ra 2752 j5))), .val (.int 0)], [], (126, 120, L, [Y, T, HA, HB, RA, RB, ST, NS, I0, I1, I2, BO, FI, RG, GU, PU, MA, MN, MS, OT, SC], [r0, r1, r2, r3, w, r5, r6, r7, r8], Lg)) o from ev_b 3 e (fun n => Eq.refl _)
      refine ev_loop (δ := Unit) (fun a j => (d + 4, 0, 0, 274, 29, [.val (.ref 128), .val (.ref 2752), .val (.int (Int32.ofNat 23)), .val (.int v1), .val (.ref (a_ra 2752 j5)), .val (.ref (w_txt (a_ra 2752 j5))), .val (.int a)], [], (126, 120, L, [Y, T, HA, HB, RA, RB, ST, NS, I0, I1, I2, BO, FI, RG, GU, PU, MA, MN, MS, OT, SC], [r0, r1, r2, r3, w, r5, r6, r7, r8], Lg))) (fun b => Ev (d + 4, 0, 0, 274, 81, [.val (.ref 128), .val (.ref 2752), .val (.int (Int32.ofNat 23)), .val (.int v1), .val (.ref (a_ra 2752 j5)), .val (.ref (w_txt (a_ra 2752 j5))), .val (.int b)], [], (126, 120, L, [Y, T, HA, HB, RA, RB, ST, NS, I0, I1, I2, BO, FI, RG, GU, PU, MA, MN, MS, OT, SC], [r0, r1, r2, r3, w, r5, r6, r7, r8], Lg)) o) ?_ a_F 0 v9 zh11 ?_ ()
      · rintro v6 zr15 zh14 zi12 zx13 ⟨⟩
        have zh14 : f_Tape_findWord_l29 T j5 v6 = some zr15 := zh14
        by_cases zg16 : ¬ (isS (w_txt (a_ra 2752 j5)))
        · exact nos (itn zh14 zg16)
        have zg16 := Decidable.not_not.mp zg16
        have zh14 := itp zh14 zg16
        suffices e : Ev (d + 4, 0, 0, 274, 33, [.val (.ref 128), .val (.ref 2752), .val (.int (Int32.ofNat 23)), .val (.int v1), .val (.ref (a_ra 2752 j5)), .val (.ref (w_txt (a_ra 2752 j5))), .val (.int v6)], [.ref (w_txt (a_ra 2752 j5)), .int v6], (126, 120, L, [Y, T, HA, HB, RA, RB, ST, NS, I0, I1, I2, BO, FI, RG, GU, PU, MA, MN, MS, OT, SC], [r0, r1, r2, r3, w, r5, r6, r7, r8], Lg)) o from ev_b 2 e (fun n => Eq.refl _)
        refine r_inv (args := []) (rest := [.int v6]) rfl rfl rfl rfl (cS zg16).1 (cS zg16).2.1 rfl (R_len (d + 2) (w_txt (a_ra 2752 j5)) (126, 120, L, [Y, T, HA, HB, RA, RB, ST, NS, I0, I1, I2, BO, FI, RG, GU, PU, MA, MN, MS, OT, SC], [r0, r1, r2, r3, w, r5, r6, r7, r8], Lg) zg16) ?_
        by_cases zc17 : (s_len (w_txt (a_ra 2752 j5))) ≤ v6
        · have zh14 := itp zh14 zc17
          suffices e : Ev (d + 4, 0, 0, 274, 81, [.val (.ref 128), .val (.ref 2752), .val (.int (Int32.ofNat 23)), .val (.int v1), .val (.ref (a_ra 2752 j5)), .val (.ref (w_txt (a_ra 2752 j5))), .val (.int v6)], [], (126, 120, L, [Y, T, HA, HB, RA, RB, ST, NS, I0, I1, I2, BO, FI, RG, GU, PU, MA, MN, MS, OT, SC], [r0, r1, r2, r3, w, r5, r6, r7, r8], Lg)) o from ev_t (c := (s_len (w_txt (a_ra 2752 j5))) ≤ v6) _ _ 1  zc17 e (fun n => Eq.refl _)
          exact ev_b 0 (zx13 _ (Option.some.inj zh14).symm ) (fun n => Eq.refl _)
        · have zh14 := itn zh14 zc17
          suffices e : Ev (d + 4, 0, 0, 274, 39, [.val (.ref 128), .val (.ref 2752), .val (.int (Int32.ofNat 23)), .val (.int v1), .val (.ref (a_ra 2752 j5)), .val (.ref (w_txt (a_ra 2752 j5))), .val (.int v6)], [], (126, 120, L, [Y, T, HA, HB, RA, RB, ST, NS, I0, I1, I2, BO, FI, RG, GU, PU, MA, MN, MS, OT, SC], [r0, r1, r2, r3, w, r5, r6, r7, r8], Lg)) o from ev_f (c := (s_len (w_txt (a_ra 2752 j5))) ≤ v6) _ _ 1  zc17 e (fun n => Eq.refl _)
          by_cases zc18 : (T 0 5) ≤ ((T 0 4) + v6)
          · have zh14 := itp zh14 zc18
            suffices e : Ev (d + 4, 0, 0, 274, 81, [.val (.ref 128), .val (.ref 2752), .val (.int (Int32.ofNat 23)), .val (.int v1), .val (.ref (a_ra 2752 j5)), .val (.ref (w_txt (a_ra 2752 j5))), .val (.int v6)], [], (126, 120, L, [Y, T, HA, HB, RA, RB, ST, NS, I0, I1, I2, BO, FI, RG, GU, PU, MA, MN, MS, OT, SC], [r0, r1, r2, r3, w, r5, r6, r7, r8], Lg)) o from ev_t (c := (T 0 5) ≤ ((T 0 4) + v6)) _ _ 7  zc18 e (fun n => Eq.refl _)
            exact ev_b 0 (zx13 _ (Option.some.inj zh14).symm ) (fun n => Eq.refl _)
          · have zh14 := itn zh14 zc18
            suffices e : Ev (d + 4, 0, 0, 274, 53, [.val (.ref 128), .val (.ref 2752), .val (.int (Int32.ofNat 23)), .val (.int v1), .val (.ref (a_ra 2752 j5)), .val (.ref (w_txt (a_ra 2752 j5))), .val (.int v6)], [], (126, 120, L, [Y, T, HA, HB, RA, RB, ST, NS, I0, I1, I2, BO, FI, RG, GU, PU, MA, MN, MS, OT, SC], [r0, r1, r2, r3, w, r5, r6, r7, r8], Lg)) o from ev_f (c := (T 0 5) ≤ ((T 0 4) + v6)) _ _ 7  zc18 e (fun n => Eq.refl _)
            by_cases zg19 : ¬ (isS (w_txt (a_ra 2752 j5)))
            · exact nos (itn zh14 zg19)
            have zg19 := Decidable.not_not.mp zg19
            have zh14 := itp zh14 zg19
            obtain ⟨x7, zh20, zh14⟩ := bnd zh14
            suffices e : Ev (d + 4, 0, 0, 274, 57, [.val (.ref 128), .val (.ref 2752), .val (.int (Int32.ofNat 23)), .val (.int v1), .val (.ref (a_ra 2752 j5)), .val (.ref (w_txt (a_ra 2752 j5))), .val (.int v6)], [.int v6, .ref (w_txt (a_ra 2752 j5))], (126, 120, L, [Y, T, HA, HB, RA, RB, ST, NS, I0, I1, I2, BO, FI, RG, GU, PU, MA, MN, MS, OT, SC], [r0, r1, r2, r3, w, r5, r6, r7, r8], Lg)) o from ev_b 2 e (fun n => Eq.refl _)
            refine r_inv (args := [.int v6]) (rest := []) rfl rfl rfl rfl (cS zg19).1 (cS zg19).2.1 rfl (R_ch (d + 0) (w_txt (a_ra 2752 j5)) v6 x7 (126, 120, L, [Y, T, HA, HB, RA, RB, ST, NS, I0, I1, I2, BO, FI, RG, GU, PU, MA, MN, MS, OT, SC], [r0, r1, r2, r3, w, r5, r6, r7, r8], Lg) zg19 zh20) ?_
            obtain ⟨x8, zh21, zh14⟩ := bnd zh14
            have zh21 : rdx (T 1) 600 ((T 0 4) + v6) = some x8 := zh21
            suffices e : Ev (d + 4, 0, 0, 274, 72, [.val (.ref 128), .val (.ref 2752), .val (.int (Int32.ofNat 23)), .val (.int v1), .val (.ref (a_ra 2752 j5)), .val (.ref (w_txt (a_ra 2752 j5))), .val (.int v6)], [.int x8, .int x7], (126, 120, L, [Y, T, HA, HB, RA, RB, ST, NS, I0, I1, I2, BO, FI, RG, GU, PU, MA, MN, MS, OT, SC], [r0, r1, r2, r3, w, r5, r6, r7, r8], Lg)) o from ev_opt (fun x8 => (d + 4, 0, 0, 274, 72, [.val (.ref 128), .val (.ref 2752), .val (.int (Int32.ofNat 23)), .val (.int v1), .val (.ref (a_ra 2752 j5)), .val (.ref (w_txt (a_ra 2752 j5))), .val (.int v6)], [.int x8, .int x7], (126, 120, L, [Y, T, HA, HB, RA, RB, ST, NS, I0, I1, I2, BO, FI, RG, GU, PU, MA, MN, MS, OT, SC], [r0, r1, r2, r3, w, r5, r6, r7, r8], Lg))) 7 zh21 e (fun n => Eq.refl _)
            by_cases zc22 : x7 ≠ x8
            · have zh14 := itp zh14 zc22
              suffices e : Ev (d + 4, 0, 0, 274, 81, [.val (.ref 128), .val (.ref 2752), .val (.int (Int32.ofNat 23)), .val (.int v1), .val (.ref (a_ra 2752 j5)), .val (.ref (w_txt (a_ra 2752 j5))), .val (.int v6)], [], (126, 120, L, [Y, T, HA, HB, RA, RB, ST, NS, I0, I1, I2, BO, FI, RG, GU, PU, MA, MN, MS, OT, SC], [r0, r1, r2, r3, w, r5, r6, r7, r8], Lg)) o from ev_t (c := x7 ≠ x8) _ _ 1  zc22 e (fun n => Eq.refl _)
              exact ev_b 0 (zx13 _ (Option.some.inj zh14).symm ) (fun n => Eq.refl _)
            · have zh14 := itn zh14 zc22
              suffices e : Ev (d + 4, 0, 0, 274, 75, [.val (.ref 128), .val (.ref 2752), .val (.int (Int32.ofNat 23)), .val (.int v1), .val (.ref (a_ra 2752 j5)), .val (.ref (w_txt (a_ra 2752 j5))), .val (.int v6)], [], (126, 120, L, [Y, T, HA, HB, RA, RB, ST, NS, I0, I1, I2, BO, FI, RG, GU, PU, MA, MN, MS, OT, SC], [r0, r1, r2, r3, w, r5, r6, r7, r8], Lg)) o from ev_f (c := x7 ≠ x8) _ _ 1  zc22 e (fun n => Eq.refl _)
              exact ev_b 2 (zi12 _ (Option.some.inj zh14).symm ()) (fun n => Eq.refl _)
      · skip
        by_cases zg23 : ¬ (isS (w_txt (a_ra 2752 j5)))
        · exact nos (itn zh5 zg23)
        have zg23 := Decidable.not_not.mp zg23
        have zh5 := itp zh5 zg23
        suffices e : Ev (d + 4, 0, 0, 274, 85, [.val (.ref 128), .val (.ref 2752), .val (.int (Int32.ofNat 23)), .val (.int v1), .val (.ref (a_ra 2752 j5)), .val (.ref (w_txt (a_ra 2752 j5))), .val (.int v9)], [.ref (w_txt (a_ra 2752 j5)), .int v9], (126, 120, L, [Y, T, HA, HB, RA, RB, ST, NS, I0, I1, I2, BO, FI, RG, GU, PU, MA, MN, MS, OT, SC], [r0, r1, r2, r3, w, r5, r6, r7, r8], Lg)) o from ev_b 2 e (fun n => Eq.refl _)
        refine r_inv (args := []) (rest := [.int v9]) rfl rfl rfl rfl (cS zg23).1 (cS zg23).2.1 rfl (R_len (d + 2) (w_txt (a_ra 2752 j5)) (126, 120, L, [Y, T, HA, HB, RA, RB, ST, NS, I0, I1, I2, BO, FI, RG, GU, PU, MA, MN, MS, OT, SC], [r0, r1, r2, r3, w, r5, r6, r7, r8], Lg) zg23) ?_
        by_cases zc24 : v9 ≠ (s_len (w_txt (a_ra 2752 j5)))
        · have zh5 := itp zh5 zc24
          suffices e : Ev (d + 4, 0, 0, 274, 108, [.val (.ref 128), .val (.ref 2752), .val (.int (Int32.ofNat 23)), .val (.int v1), .val (.ref (a_ra 2752 j5)), .val (.ref (w_txt (a_ra 2752 j5))), .val (.int v9)], [], (126, 120, L, [Y, T, HA, HB, RA, RB, ST, NS, I0, I1, I2, BO, FI, RG, GU, PU, MA, MN, MS, OT, SC], [r0, r1, r2, r3, w, r5, r6, r7, r8], Lg)) o from ev_t (c := v9 ≠ (s_len (w_txt (a_ra 2752 j5)))) _ _ 1  zc24 e (fun n => Eq.refl _)
          exact ev_b 2 (zi3 _ (Option.some.inj zh5).symm ((.ref (a_ra 2752 j5)), (.ref (w_txt (a_ra 2752 j5))), (.int v9))) (fun n => Eq.refl _)
        · have zh5 := itn zh5 zc24
          suffices e : Ev (d + 4, 0, 0, 274, 91, [.val (.ref 128), .val (.ref 2752), .val (.int (Int32.ofNat 23)), .val (.int v1), .val (.ref (a_ra 2752 j5)), .val (.ref (w_txt (a_ra 2752 j5))), .val (.int v9)], [], (126, 120, L, [Y, T, HA, HB, RA, RB, ST, NS, I0, I1, I2, BO, FI, RG, GU, PU, MA, MN, MS, OT, SC], [r0, r1, r2, r3, w, r5, r6, r7, r8], Lg)) o from ev_f (c := v9 ≠ (s_len (w_txt (a_ra 2752 j5)))) _ _ 1  zc24 e (fun n => Eq.refl _)
          by_cases zc25 : ((T 0 4) + v9) ≠ (T 0 5)
          · have zh5 := itp zh5 zc25
            suffices e : Ev (d + 4, 0, 0, 274, 108, [.val (.ref 128), .val (.ref 2752), .val (.int (Int32.ofNat 23)), .val (.int v1), .val (.ref (a_ra 2752 j5)), .val (.ref (w_txt (a_ra 2752 j5))), .val (.int v9)], [], (126, 120, L, [Y, T, HA, HB, RA, RB, ST, NS, I0, I1, I2, BO, FI, RG, GU, PU, MA, MN, MS, OT, SC], [r0, r1, r2, r3, w, r5, r6, r7, r8], Lg)) o from ev_t (c := ((T 0 4) + v9) ≠ (T 0 5)) _ _ 7  zc25 e (fun n => Eq.refl _)
            exact ev_b 2 (zi3 _ (Option.some.inj zh5).symm ((.ref (a_ra 2752 j5)), (.ref (w_txt (a_ra 2752 j5))), (.int v9))) (fun n => Eq.refl _)
          · have zh5 := itn zh5 zc25
            suffices e : Ev (d + 4, 0, 0, 274, 105, [.val (.ref 128), .val (.ref 2752), .val (.int (Int32.ofNat 23)), .val (.int v1), .val (.ref (a_ra 2752 j5)), .val (.ref (w_txt (a_ra 2752 j5))), .val (.int v9)], [], (126, 120, L, [Y, T, HA, HB, RA, RB, ST, NS, I0, I1, I2, BO, FI, RG, GU, PU, MA, MN, MS, OT, SC], [r0, r1, r2, r3, w, r5, r6, r7, r8], Lg)) o from ev_f (c := ((T 0 4) + v9) ≠ (T 0 5)) _ _ 7  zc25 e (fun n => Eq.refl _)
            exact ev_rete 2 (zx4 _ (Option.some.inj zh5).symm) (fun n => Eq.refl _)
  · rcases zb1 with ⟨⟩ | zr6
    · intro s10 s11 s12 s13
      have ze26 := Option.some.inj h
      subst ze26
      exact ev_rete 2 ho (fun n => Eq.refl _)
    · have zh27 : some zr6 = some r := h
      exact (congrArg (fun q => ((0, some (.ref q), (126, 120, L, [Y, T, HA, HB, RA, RB, ST, NS, I0, I1, I2, BO, FI, RG, GU, PU, MA, MN, MS, OT, SC], [r0, r1, r2, r3, w, r5, r6, r7, r8], Lg)) : AOut)) (Option.some.inj zh27)).trans ho
set_option maxRecDepth 1000000 in
set_option maxHeartbeats 4000000 in
theorem R_f_Tape_scanDigits_0 (d : Nat) (Y T HA HB RA RB ST NS I0 I1 I2 BO FI RG GU PU MA MN MS OT SC : Nat → Nat → Int32) (r0 r1 r2 r3 w r5 r6 r7 r8 : Nat) (L : Nat) (Lg : Int64) {r : (Nat → Nat → Int32)} (h : f_Tape_scanDigits T = some r) : Ev (d + 1, 0, 0, 272, 0, [.val (.ref 128)], [], (126, 120, L, [Y, T, HA, HB, RA, RB, ST, NS, I0, I1, I2, BO, FI, RG, GU, PU, MA, MN, MS, OT, SC], [r0, r1, r2, r3, w, r5, r6, r7, r8], Lg)) ((0, none, (126, 120, L, [Y, r, HA, HB, RA, RB, ST, NS, I0, I1, I2, BO, FI, RG, GU, PU, MA, MN, MS, OT, SC], [r0, r1, r2, r3, w, r5, r6, r7, r8], Lg)) : AOut) := by
  suffices key : ∀ o : AOut, ((0, none, (126, 120, L, [Y, r, HA, HB, RA, RB, ST, NS, I0, I1, I2, BO, FI, RG, GU, PU, MA, MN, MS, OT, SC], [r0, r1, r2, r3, w, r5, r6, r7, r8], Lg)) : AOut) = o → Ev (d + 1, 0, 0, 272, 0, [.val (.ref 128)], [], (126, 120, L, [Y, T, HA, HB, RA, RB, ST, NS, I0, I1, I2, BO, FI, RG, GU, PU, MA, MN, MS, OT, SC], [r0, r1, r2, r3, w, r5, r6, r7, r8], Lg)) o from key _ rfl
  intro o ho
  obtain ⟨T_5, zh2, h⟩ := bnd h
  suffices e : Ev (d + 1, 0, 0, 272, 5, [.val (.ref 128)], [], (126, 120, L, [Y, (u2 T 0 6 0), HA, HB, RA, RB, ST, NS, I0, I1, I2, BO, FI, RG, GU, PU, MA, MN, MS, OT, SC], [r0, r1, r2, r3, w, r5, r6, r7, r8], Lg)) o from ev_b 3 e (fun n => Eq.refl _)
  refine ev_loop (δ := Unit) (fun a j => (d + 1, 0, 0, 272, 5, [.val (.ref 128)], [], (126, 120, L, [Y, a, HA, HB, RA, RB, ST, NS, I0, I1, I2, BO, FI, RG, GU, PU, MA, MN, MS, OT, SC], [r0, r1, r2, r3, w, r5, r6, r7, r8], Lg))) (fun b => Ev (d + 1, 0, 0, 272, 70, [.val (.ref 128)], [], (126, 120, L, [Y, b, HA, HB, RA, RB, ST, NS, I0, I1, I2, BO, FI, RG, GU, PU, MA, MN, MS, OT, SC], [r0, r1, r2, r3, w, r5, r6, r7, r8], Lg)) o) ?_ a_F (u2 T 0 6 0) T_5 zh2 ?_ ()
  · rintro T_1 zr6 zh5 zi3 zx4 ⟨⟩
    have zh5 : f_Tape_scanDigits_l5 T_1 = some zr6 := zh5
    by_cases zc7 : (T_1 0 2) ≤ (T_1 0 5)
    · have zh5 := itp zh5 zc7
      suffices e : Ev (d + 1, 0, 0, 272, 70, [.val (.ref 128)], [], (126, 120, L, [Y, T_1, HA, HB, RA, RB, ST, NS, I0, I1, I2, BO, FI, RG, GU, PU, MA, MN, MS, OT, SC], [r0, r1, r2, r3, w, r5, r6, r7, r8], Lg)) o from ev_t (c := (T_1 0 2) ≤ (T_1 0 5)) _ _ 5  zc7 e (fun n => Eq.refl _)
      exact ev_b 0 (zx4 _ (Option.some.inj zh5).symm ) (fun n => Eq.refl _)
    · have zh5 := itn zh5 zc7
      suffices e : Ev (d + 1, 0, 0, 272, 16, [.val (.ref 128)], [], (126, 120, L, [Y, T_1, HA, HB, RA, RB, ST, NS, I0, I1, I2, BO, FI, RG, GU, PU, MA, MN, MS, OT, SC], [r0, r1, r2, r3, w, r5, r6, r7, r8], Lg)) o from ev_f (c := (T_1 0 2) ≤ (T_1 0 5)) _ _ 5  zc7 e (fun n => Eq.refl _)
      obtain ⟨x2, zh8, zh5⟩ := bnd zh5
      have zh8 : f_Tape_isDigit T_1 (T_1 0 5) = some x2 := zh8
      have ze9 := R_f_Tape_isDigit_0 (d + 0) Y T_1 HA HB RA RB ST NS I0 I1 I2 BO FI RG GU PU MA MN MS OT SC r0 r1 r2 r3 w r5 r6 r7 r8 L Lg (T_1 0 5) zh8
      suffices e : Ev (d + 1, 0, 0, 272, 24, [.val (.ref 128)], [.int x2], (126, 120, L, [Y, T_1, HA, HB, RA, RB, ST, NS, I0, I1, I2, BO, FI, RG, GU, PU, MA, MN, MS, OT, SC], [r0, r1, r2, r3, w, r5, r6, r7, r8], Lg)) o from ev_call (fun v μ => (d + 1, 0, 0, 272, 24, [.val (.ref 128)], v.toList ++ [], μ)) 4 ze9 e (fun n => Eq.refl _)
      by_cases zc10 : x2 = 0
      · have zh5 := itp zh5 zc10
        suffices e : Ev (d + 1, 0, 0, 272, 70, [.val (.ref 128)], [], (126, 120, L, [Y, T_1, HA, HB, RA, RB, ST, NS, I0, I1, I2, BO, FI, RG, GU, PU, MA, MN, MS, OT, SC], [r0, r1, r2, r3, w, r5, r6, r7, r8], Lg)) o from ev_t (c := x2 = 0) _ _ 1  zc10 e (fun n => Eq.refl _)
        exact ev_b 0 (zx4 _ (Option.some.inj zh5).symm ) (fun n => Eq.refl _)
      · have zh5 := itn zh5 zc10
        suffices e : Ev (d + 1, 0, 0, 272, 27, [.val (.ref 128)], [], (126, 120, L, [Y, T_1, HA, HB, RA, RB, ST, NS, I0, I1, I2, BO, FI, RG, GU, PU, MA, MN, MS, OT, SC], [r0, r1, r2, r3, w, r5, r6, r7, r8], Lg)) o from ev_f (c := x2 = 0) _ _ 1  zc10 e (fun n => Eq.refl _)
        obtain ⟨x3, zh11, zh5⟩ := bnd zh5
        have zh11 : rdx (T_1 1) 600 (T_1 0 5) = some x3 := zh11
        suffices e : Ev (d + 1, 0, 0, 272, 47, [.val (.ref 128)], [.int x3, .int ((T_1 0 6) * 10), .int 1000, .ref 128], (126, 120, L, [Y, T_1, HA, HB, RA, RB, ST, NS, I0, I1, I2, BO, FI, RG, GU, PU, MA, MN, MS, OT, SC], [r0, r1, r2, r3, w, r5, r6, r7, r8], Lg)) o from ev_opt (fun x3 => (d + 1, 0, 0, 272, 47, [.val (.ref 128)], [.int x3, .int ((T_1 0 6) * 10), .int 1000, .ref 128], (126, 120, L, [Y, T_1, HA, HB, RA, RB, ST, NS, I0, I1, I2, BO, FI, RG, GU, PU, MA, MN, MS, OT, SC], [r0, r1, r2, r3, w, r5, r6, r7, r8], Lg))) 11 zh11 e (fun n => Eq.refl _)
        obtain ⟨x4, zh12, zh5⟩ := bnd zh5
        have zh12 : f_Math_min 1000 ((((T_1 0 6) * 10) + x3) - 48) = some x4 := zh12
        have ze13 := R_f_Math_min_0 (d + 0) Y T_1 HA HB RA RB ST NS I0 I1 I2 BO FI RG GU PU MA MN MS OT SC r0 r1 r2 r3 w r5 r6 r7 r8 L Lg 1000 ((((T_1 0 6) * 10) + x3) - 48) zh12
        suffices e : Ev (d + 1, 0, 0, 272, 54, [.val (.ref 128)], [.int x4, .ref 128], (126, 120, L, [Y, T_1, HA, HB, RA, RB, ST, NS, I0, I1, I2, BO, FI, RG, GU, PU, MA, MN, MS, OT, SC], [r0, r1, r2, r3, w, r5, r6, r7, r8], Lg)) o from ev_call (fun v μ => (d + 1, 0, 0, 272, 54, [.val (.ref 128)], v.toList ++ [.ref 128], μ)) 4 ze13 e (fun n => Eq.refl _)
        exact ev_b 8 (zi3 _ (Option.some.inj zh5).symm ()) (fun n => Eq.refl _)
  · skip
    have ze14 := Option.some.inj h
    subst ze14
    exact ev_rete 1 ho (fun n => Eq.refl _)
set_option maxRecDepth 1000000 in
set_option maxHeartbeats 4000000 in
theorem R_f_Tape_advance_0 (d : Nat) (Y T HA HB RA RB ST NS I0 I1 I2 BO FI RG GU PU MA MN MS OT SC : Nat → Nat → Int32) (r0 r1 r2 r3 w r5 r6 r7 r8 : Nat) (L : Nat) (Lg : Int64) {r : (Nat → Nat → Int32) × Nat} (h : f_Tape_advance T = some r) : Ev (d + 5, 0, 0, 271, 0, [.val (.ref 128)], [], (126, 120, L, [Y, T, HA, HB, RA, RB, ST, NS, I0, I1, I2, BO, FI, RG, GU, PU, MA, MN, MS, OT, SC], [r0, r1, r2, r3, w, r5, r6, r7, r8], Lg)) ((0, none, (126, 120, L, [Y, r.1, HA, HB, RA, RB, ST, NS, I0, I1, I2, BO, FI, RG, GU, PU, MA, MN, MS, OT, SC], [r0, r1, r2, r3, r.2, r5, r6, r7, r8], Lg)) : AOut) := by
  suffices key : ∀ o : AOut, ((0, none, (126, 120, L, [Y, r.1, HA, HB, RA, RB, ST, NS, I0, I1, I2, BO, FI, RG, GU, PU, MA, MN, MS, OT, SC], [r0, r1, r2, r3, r.2, r5, r6, r7, r8], Lg)) : AOut) = o → Ev (d + 5, 0, 0, 271, 0, [.val (.ref 128)], [], (126, 120, L, [Y, T, HA, HB, RA, RB, ST, NS, I0, I1, I2, BO, FI, RG, GU, PU, MA, MN, MS, OT, SC], [r0, r1, r2, r3, w, r5, r6, r7, r8], Lg)) o from key _ rfl
  intro o ho
  obtain ⟨T_3, zh2, h⟩ := bnd h
  suffices e : Ev (d + 5, 0, 0, 271, 8, [.val (.ref 128)], [], (126, 120, L, [Y, (u2 T 0 4 (T 0 5)), HA, HB, RA, RB, ST, NS, I0, I1, I2, BO, FI, RG, GU, PU, MA, MN, MS, OT, SC], [r0, r1, r2, r3, w, r5, r6, r7, r8], Lg)) o from ev_b 4 e (fun n => Eq.refl _)
  refine ev_loop (δ := Unit) (fun a j => (d + 5, 0, 0, 271, 8, [.val (.ref 128)], [], (126, 120, L, [Y, a, HA, HB, RA, RB, ST, NS, I0, I1, I2, BO, FI, RG, GU, PU, MA, MN, MS, OT, SC], [r0, r1, r2, r3, w, r5, r6, r7, r8], Lg))) (fun b => Ev (d + 5, 0, 0, 271, 46, [.val (.ref 128)], [], (126, 120, L, [Y, b, HA, HB, RA, RB, ST, NS, I0, I1, I2, BO, FI, RG, GU, PU, MA, MN, MS, OT, SC], [r0, r1, r2, r3, w, r5, r6, r7, r8], Lg)) o) ?_ a_F (u2 T 0 4 (T 0 5)) T_3 zh2 ?_ ()
  · rintro T_1 zr6 zh5 zi3 zx4 ⟨⟩
    have zh5 : f_Tape_advance_l8 T_1 = some zr6 := zh5
    by_cases zc7 : (T_1 0 2) ≤ (T_1 0 4)
    · have zh5 := itp zh5 zc7
      suffices e : Ev (d + 5, 0, 0, 271, 46, [.val (.ref 128)], [], (126, 120, L, [Y, T_1, HA, HB, RA, RB, ST, NS, I0, I1, I2, BO, FI, RG, GU, PU, MA, MN, MS, OT, SC], [r0, r1, r2, r3, w, r5, r6, r7, r8], Lg)) o from ev_t (c := (T_1 0 2) ≤ (T_1 0 4)) _ _ 5  zc7 e (fun n => Eq.refl _)
      exact ev_b 0 (zx4 _ (Option.some.inj zh5).symm ) (fun n => Eq.refl _)
    · have zh5 := itn zh5 zc7
      suffices e : Ev (d + 5, 0, 0, 271, 19, [.val (.ref 128)], [], (126, 120, L, [Y, T_1, HA, HB, RA, RB, ST, NS, I0, I1, I2, BO, FI, RG, GU, PU, MA, MN, MS, OT, SC], [r0, r1, r2, r3, w, r5, r6, r7, r8], Lg)) o from ev_f (c := (T_1 0 2) ≤ (T_1 0 4)) _ _ 5  zc7 e (fun n => Eq.refl _)
      obtain ⟨x2, zh8, zh5⟩ := bnd zh5
      have zh8 : rdx (T_1 1) 600 (T_1 0 4) = some x2 := zh8
      suffices e : Ev (d + 5, 0, 0, 271, 28, [.val (.ref 128)], [.int x2], (126, 120, L, [Y, T_1, HA, HB, RA, RB, ST, NS, I0, I1, I2, BO, FI, RG, GU, PU, MA, MN, MS, OT, SC], [r0, r1, r2, r3, w, r5, r6, r7, r8], Lg)) o from ev_opt (fun x2 => (d + 5, 0, 0, 271, 28, [.val (.ref 128)], [.int x2], (126, 120, L, [Y, T_1, HA, HB, RA, RB, ST, NS, I0, I1, I2, BO, FI, RG, GU, PU, MA, MN, MS, OT, SC], [r0, r1, r2, r3, w, r5, r6, r7, r8], Lg))) 5 zh8 e (fun n => Eq.refl _)
      by_cases zc9 : x2 ≠ 32
      · have zh5 := itp zh5 zc9
        suffices e : Ev (d + 5, 0, 0, 271, 46, [.val (.ref 128)], [], (126, 120, L, [Y, T_1, HA, HB, RA, RB, ST, NS, I0, I1, I2, BO, FI, RG, GU, PU, MA, MN, MS, OT, SC], [r0, r1, r2, r3, w, r5, r6, r7, r8], Lg)) o from ev_t (c := x2 ≠ 32) _ _ 2  zc9 e (fun n => Eq.refl _)
        exact ev_b 0 (zx4 _ (Option.some.inj zh5).symm ) (fun n => Eq.refl _)
      · have zh5 := itn zh5 zc9
        suffices e : Ev (d + 5, 0, 0, 271, 33, [.val (.ref 128)], [], (126, 120, L, [Y, T_1, HA, HB, RA, RB, ST, NS, I0, I1, I2, BO, FI, RG, GU, PU, MA, MN, MS, OT, SC], [r0, r1, r2, r3, w, r5, r6, r7, r8], Lg)) o from ev_f (c := x2 ≠ 32) _ _ 2  zc9 e (fun n => Eq.refl _)
        exact ev_b 7 (zi3 _ (Option.some.inj zh5).symm ()) (fun n => Eq.refl _)
  · skip
    by_cases zc10 : ((u2 T_3 0 5 (T_3 0 4)) 0 4) < ((u2 T_3 0 5 (T_3 0 4)) 0 2)
    · have h := itp h zc10
      suffices e : Ev (d + 5, 0, 0, 271, 78, [.val (.ref 128)], [], (126, 120, L, [Y, (u2 T_3 0 5 (T_3 0 4)), HA, HB, RA, RB, ST, NS, I0, I1, I2, BO, FI, RG, GU, PU, MA, MN, MS, OT, SC], [r0, r1, r2, r3, 0, r5, r6, r7, r8], Lg)) o from ev_t (c := ((u2 T_3 0 5 (T_3 0 4)) 0 4) < ((u2 T_3 0 5 (T_3 0 4)) 0 2)) _ _ 12  zc10 e (fun n => Eq.refl _)
      obtain ⟨x4, zh11, h⟩ := bnd h
      have zh11 : f_Tape_isDigit (u2 T_3 0 5 (T_3 0 4)) ((u2 T_3 0 5 (T_3 0 4)) 0 4) = some x4 := zh11
      have ze12 := R_f_Tape_isDigit_0 (d + 4) Y (u2 T_3 0 5 (T_3 0 4)) HA HB RA RB ST NS I0 I1 I2 BO FI RG GU PU MA MN MS OT SC r0 r1 r2 r3 0 r5 r6 r7 r8 L Lg ((u2 T_3 0 5 (T_3 0 4)) 0 4) zh11
      suffices e : Ev (d + 5, 0, 0, 271, 86, [.val (.ref 128)], [.int x4], (126, 120, L, [Y, (u2 T_3 0 5 (T_3 0 4)), HA, HB, RA, RB, ST, NS, I0, I1, I2, BO, FI, RG, GU, PU, MA, MN, MS, OT, SC], [r0, r1, r2, r3, 0, r5, r6, r7, r8], Lg)) o from ev_call (fun v μ => (d + 5, 0, 0, 271, 86, [.val (.ref 128)], v.toList ++ [], μ)) 4 ze12 e (fun n => Eq.refl _)
      by_cases zc13 : x4 = 0
      · have h := itp h zc13
        suffices e : Ev (d + 5, 0, 0, 271, 101, [.val (.ref 128)], [], (126, 120, L, [Y, (u2 T_3 0 5 (T_3 0 4)), HA, HB, RA, RB, ST, NS, I0, I1, I2, BO, FI, RG, GU, PU, MA, MN, MS, OT, SC], [r0, r1, r2, r3, 0, r5, r6, r7, r8], Lg)) o from ev_t (c := x4 = 0) _ _ 1  zc13 e (fun n => Eq.refl _)
        obtain ⟨x5, zh14, h⟩ := bnd h
        have zh14 : f_Tape_isLetter (u2 T_3 0 5 (T_3 0 4)) ((u2 T_3 0 5 (T_3 0 4)) 0 4) = some x5 := zh14
        have ze15 := R_f_Tape_isLetter_0 (d + 4) Y (u2 T_3 0 5 (T_3 0 4)) HA HB RA RB ST NS I0 I1 I2 BO FI RG GU PU MA MN MS OT SC r0 r1 r2 r3 0 r5 r6 r7 r8 L Lg ((u2 T_3 0 5 (T_3 0 4)) 0 4) zh14
        suffices e : Ev (d + 5, 0, 0, 271, 109, [.val (.ref 128)], [.int x5], (126, 120, L, [Y, (u2 T_3 0 5 (T_3 0 4)), HA, HB, RA, RB, ST, NS, I0, I1, I2, BO, FI, RG, GU, PU, MA, MN, MS, OT, SC], [r0, r1, r2, r3, 0, r5, r6, r7, r8], Lg)) o from ev_call (fun v μ => (d + 5, 0, 0, 271, 109, [.val (.ref 128)], v.toList ++ [], μ)) 4 ze15 e (fun n => Eq.refl _)
        by_cases zc16 : x5 = 0
        · have h := itp h zc16
          suffices e : Ev (d + 5, 0, 0, 271, 132, [.val (.ref 128)], [], (126, 120, L, [Y, (u2 T_3 0 5 (T_3 0 4)), HA, HB, RA, RB, ST, NS, I0, I1, I2, BO, FI, RG, GU, PU, MA, MN, MS, OT, SC], [r0, r1, r2, r3, 0, r5, r6, r7, r8], Lg)) o from ev_t (c := x5 = 0) _ _ 1  zc16 e (fun n => Eq.refl _)
          obtain ⟨x6, zh17, h⟩ := bnd h
          have zh17 : rdx ((u2 (u2 T_3 0 5 (T_3 0 4)) 0 3 3) 1) 600 ((u2 (u2 T_3 0 5 (T_3 0 4)) 0 3 3) 0 4) = some x6 := zh17
          suffices e : Ev (d + 5, 0, 0, 271, 147, [.val (.ref 128)], [.int x6, .ref 128], (126, 120, L, [Y, (u2 (u2 T_3 0 5 (T_3 0 4)) 0 3 3), HA, HB, RA, RB, ST, NS, I0, I1, I2, BO, FI, RG, GU, PU, MA, MN, MS, OT, SC], [r0, r1, r2, r3, 0, r5, r6, r7, r8], Lg)) o from ev_opt (fun x6 => (d + 5, 0, 0, 271, 147, [.val (.ref 128)], [.int x6, .ref 128], (126, 120, L, [Y, (u2 (u2 T_3 0 5 (T_3 0 4)) 0 3 3), HA, HB, RA, RB, ST, NS, I0, I1, I2, BO, FI, RG, GU, PU, MA, MN, MS, OT, SC], [r0, r1, r2, r3, 0, r5, r6, r7, r8], Lg))) 9 zh17 e (fun n => Eq.refl _)
          have ze18 := Option.some.inj h
          subst ze18
          exact ev_rete 8 ho (fun n => Eq.refl _)
        · have h := itn h zc16
          suffices e : Ev (d + 5, 0, 0, 271, 112, [.val (.ref 128)], [], (126, 120, L, [Y, (u2 T_3 0 5 (T_3 0 4)), HA, HB, RA, RB, ST, NS, I0, I1, I2, BO, FI, RG, GU, PU, MA, MN, MS, OT, SC], [r0, r1, r2, r3, 0, r5, r6, r7, r8], Lg)) o from ev_f (c := x5 = 0) _ _ 1  zc16 e (fun n => Eq.refl _)
          obtain ⟨T_7, zh19, h⟩ := bnd h
          have zh19 : f_Tape_scanLetters (u2 (u2 T_3 0 5 (T_3 0 4)) 0 3 2) = some T_7 := zh19
          have ze20 := R_f_Tape_scanLetters_0 (d + 3) Y (u2 (u2 T_3 0 5 (T_3 0 4)) 0 3 2) HA HB RA RB ST NS I0 I1 I2 BO FI RG GU PU MA MN MS OT SC r0 r1 r2 r3 0 r5 r6 r7 r8 L Lg zh19
          suffices e : Ev (d + 5, 0, 0, 271, 121, [.val (.ref 128)], [], (126, 120, L, [Y, T_7, HA, HB, RA, RB, ST, NS, I0, I1, I2, BO, FI, RG, GU, PU, MA, MN, MS, OT, SC], [r0, r1, r2, r3, 0, r5, r6, r7, r8], Lg)) o from ev_call (fun v μ => (d + 5, 0, 0, 271, 121, [.val (.ref 128)], v.toList ++ [], μ)) 5 ze20 e (fun n => Eq.refl _)
          obtain ⟨x8, zh21, h⟩ := bnd h
          have zh21 : f_Tape_findWord T_7 = some x8 := zh21
          have ze22 := R_f_Tape_findWord_0 (d + 0) Y T_7 HA HB RA RB ST NS I0 I1 I2 BO FI RG GU PU MA MN MS OT SC r0 r1 r2 r3 0 r5 r6 r7 r8 L Lg zh21
          suffices e : Ev (d + 5, 0, 0, 271, 126, [.val (.ref 128)], [.ref x8, .ref 128], (126, 120, L, [Y, T_7, HA, HB, RA, RB, ST, NS, I0, I1, I2, BO, FI, RG, GU, PU, MA, MN, MS, OT, SC], [r0, r1, r2, r3, 0, r5, r6, r7, r8], Lg)) o from ev_call (fun v μ => (d + 5, 0, 0, 271, 126, [.val (.ref 128)], v.toList ++ [.ref 128], μ)) 3 ze22 e (fun n => Eq.refl _)
          have ze23 := Option.some.inj h
          subst ze23
          exact ev_rete 3 ho (fun n => Eq.refl _)
      · have h := itn h zc13
        suffices e : Ev (d + 5, 0, 0, 271, 89, [.val (.ref 128)], [], (126, 120, L, [Y, (u2 T_3 0 5 (T_3 0 4)), HA, HB, RA, RB, ST, NS, I0, I1, I2, BO, FI, RG, GU, PU, MA, MN, MS, OT, SC], [r0, r1, r2, r3, 0, r5, r6, r7, r8], Lg)) o from ev_f (c := x4 = 0) _ _ 1  zc13 e (fun n => Eq.refl _)
        obtain ⟨T_9, zh24, h⟩ := bnd h
        have zh24 : f_Tape_scanDigits (u2 (u2 T_3 0 5 (T_3 0 4)) 0 3 1) = some T_9 := zh24
        have ze25 := R_f_Tape_scanDigits_0 (d + 3) Y (u2 (u2 T_3 0 5 (T_3 0 4)) 0 3 1) HA HB RA RB ST NS I0 I1 I2 BO FI RG GU PU MA MN MS OT SC r0 r1 r2 r3 0 r5 r6 r7 r8 L Lg zh24
        suffices e : Ev (d + 5, 0, 0, 271, 98, [.val (.ref 128)], [], (126, 120, L, [Y, T_9, HA, HB, RA, RB, ST, NS, I0, I1, I2, BO, FI, RG, GU, PU, MA, MN, MS, OT, SC], [r0, r1, r2, r3, 0, r5, r6, r7, r8], Lg)) o from ev_call (fun v μ => (d + 5, 0, 0, 271, 98, [.val (.ref 128)], v.toList ++ [], μ)) 5 ze25 e (fun n => Eq.refl _)
        have ze26 := Option.some.inj h
        subst ze26
        exact ev_rete 2 ho (fun n => Eq.refl _)
    · have h := itn h zc10
      suffices e : Ev (d + 5, 0, 0, 271, 70, [.val (.ref 128)], [], (126, 120, L, [Y, (u2 T_3 0 5 (T_3 0 4)), HA, HB, RA, RB, ST, NS, I0, I1, I2, BO, FI, RG, GU, PU, MA, MN, MS, OT, SC], [r0, r1, r2, r3, 0, r5, r6, r7, r8], Lg)) o from ev_f (c := ((u2 T_3 0 5 (T_3 0 4)) 0 4) < ((u2 T_3 0 5 (T_3 0 4)) 0 2)) _ _ 12  zc10 e (fun n => Eq.refl _)
      have ze27 := Option.some.inj h
      subst ze27
      exact ev_rete 5 ho (fun n => Eq.refl _)
set_option maxRecDepth 1000000 in
set_option maxHeartbeats 4000000 in
theorem R_f_Tape_open_0 (d : Nat) (Y T HA HB RA RB ST NS I0 I1 I2 BO FI RG GU PU MA MN MS OT SC : Nat → Nat → Int32) (r0 r1 r2 r3 w r5 r6 r7 r8 : Nat) (L : Nat) (Lg : Int64) (p1 : Int32) {r : (Nat → Nat → Int32) × Nat} (h : f_Tape_open T p1 = some r) : Ev (d + 6, 0, 0, 265, 0, [.val (.ref 128), .val (.int p1)], [], (126, 120, L, [Y, T, HA, HB, RA, RB, ST, NS, I0, I1, I2, BO, FI, RG, GU, PU, MA, MN, MS, OT, SC], [r0, r1, r2, r3, w, r5, r6, r7, r8], Lg)) ((0, none, (126, 120, L, [Y, r.1, HA, HB, RA, RB, ST, NS, I0, I1, I2, BO, FI, RG, GU, PU, MA, MN, MS, OT, SC], [r0, r1, r2, r3, r.2, r5, r6, r7, r8], Lg)) : AOut) := by
  suffices key : ∀ o : AOut, ((0, none, (126, 120, L, [Y, r.1, HA, HB, RA, RB, ST, NS, I0, I1, I2, BO, FI, RG, GU, PU, MA, MN, MS, OT, SC], [r0, r1, r2, r3, r.2, r5, r6, r7, r8], Lg)) : AOut) = o → Ev (d + 6, 0, 0, 265, 0, [.val (.ref 128), .val (.int p1)], [], (126, 120, L, [Y, T, HA, HB, RA, RB, ST, NS, I0, I1, I2, BO, FI, RG, GU, PU, MA, MN, MS, OT, SC], [r0, r1, r2, r3, w, r5, r6, r7, r8], Lg)) o from key _ rfl
  intro o ho
  obtain ⟨x1, zh1, h⟩ := bnd h
  have zh1 : f_Math_min p1 (T 0 1) = some x1 := zh1
  have ze2 := R_f_Math_min_0 (d + 5) Y T HA HB RA RB ST NS I0 I1 I2 BO FI RG GU PU MA MN MS OT SC r0 r1 r2 r3 w r5 r6 r7 r8 L Lg p1 (T 0 1) zh1
  suffices e : Ev (d + 6, 0, 0, 265, 9, [.val (.ref 128), .val (.int p1)], [.int x1, .ref 128], (126, 120, L, [Y, T, HA, HB, RA, RB, ST, NS, I0, I1, I2, BO, FI, RG, GU, PU, MA, MN, MS, OT, SC], [r0, r1, r2, r3, w, r5, r6, r7, r8], Lg)) o from ev_call (fun v μ => (d + 6, 0, 0, 265, 9, [.val (.ref 128), .val (.int p1)], v.toList ++ [.ref 128], μ)) 5 ze2 e (fun n => Eq.refl _)
  obtain ⟨⟨T_2, w3⟩, zh3, h⟩ := bnd h
  have zh3 : f_Tape_advance (u2 (u2 (u2 (u2 T 0 2 x1) 0 5 0) 0 8 0) 0 9 (-1)) = some (T_2, w3) := zh3
  have ze4 := R_f_Tape_advance_0 (d + 0) Y (u2 (u2 (u2 (u2 T 0 2 x1) 0 5 0) 0 8 0) 0 9 (-1)) HA HB RA RB ST NS I0 I1 I2 BO FI RG GU PU MA MN MS OT SC r0 r1 r2 r3 w r5 r6 r7 r8 L Lg zh3
  suffices e : Ev (d + 6, 0, 0, 265, 31, [.val (.ref 128), .val (.int p1)], [], (126, 120, L, [Y, T_2, HA, HB, RA, RB, ST, NS, I0, I1, I2, BO, FI, RG, GU, PU, MA, MN, MS, OT, SC], [r0, r1, r2, r3, w3, r5, r6, r7, r8], Lg)) o from ev_call (fun v μ => (d + 6, 0, 0, 265, 31, [.val (.ref 128), .val (.int p1)], v.toList ++ [], μ)) 12 ze4 e (fun n => Eq.refl _)
  have ze5 := Option.some.inj h
  subst ze5
  exact ev_rete 1 ho (fun n => Eq.refl _)
set_option maxRecDepth 1000000 in
set_option maxHeartbeats 4000000 in
theorem R_f_House_forget_0 (d : Nat) (Y T H2 H RA RB ST NS I0 I1 I2 BO FI RG GU PU MA MN MS OT SC : Nat → Nat → Int32) (r0 r1 r2 r3 w r5 r6 r7 r8 : Nat) (L : Nat) (Lg : Int64) {r : (Nat → Nat → Int32)} (h : f_House_forget H = some r) : Ev (d + 1, 0, 0, 202, 0, [.val (.ref 256)], [], (126, 120, L, [Y, T, H2, H, RA, RB, ST, NS, I0, I1, I2, BO, FI, RG, GU, PU, MA, MN, MS, OT, SC], [r0, r1, r2, r3, w, r5, r6, r7, r8], Lg)) ((0, none, (126, 120, L, [Y, T, H2, r, RA, RB, ST, NS, I0, I1, I2, BO, FI, RG, GU, PU, MA, MN, MS, OT, SC], [r0, r1, r2, r3, w, r5, r6, r7, r8], Lg)) : AOut) := by
  suffices key : ∀ o : AOut, ((0, none, (126, 120, L, [Y, T, H2, r, RA, RB, ST, NS, I0, I1, I2, BO, FI, RG, GU, PU, MA, MN, MS, OT, SC], [r0, r1, r2, r3, w, r5, r6, r7, r8], Lg)) : AOut) = o → Ev (d + 1, 0, 0, 202, 0, [.val (.ref 256)], [], (126, 120, L, [Y, T, H2, H, RA, RB, ST, NS, I0, I1, I2, BO, FI, RG, GU, PU, MA, MN, MS, OT, SC], [r0, r1, r2, r3, w, r5, r6, r7, r8], Lg)) o from key _ rfl
  intro o ho
  have ze1 := R_fill (d + 0) 260 0 [Y, T, H2, (u2 (u2 (u2 (u2 (u2 (u2 H 0 0 8) 0 1 0) 0 2 0) 0 3 0) 0 4 0) 0 5 0), RA, RB, ST, NS, I0, I1, I2, BO, FI, RG, GU, PU, MA, MN, MS, OT, SC] [r0, r1, r2, r3, w, r5, r6, r7, r8] L Lg 126 120 rfl rfl (Nat.le_of_ble_eq_true rfl) (Nat.le_of_ble_eq_true rfl)
  suffices e : Ev (d + 1, 0, 0, 202, 39, [.val (.ref 256)], [], (126, 120, L, [Y, T, H2, (u1 (u2 (u2 (u2 (u2 (u2 (u2 H 0 0 8) 0 1 0) 0 2 0) 0 3 0) 0 4 0) 0 5 0) 4 (filM ((u2 (u2 (u2 (u2 (u2 (u2 H 0 0 8) 0 1 0) 0 2 0) 0 3 0) 0 4 0) 0 5 0) 4) 8 0)), RA, RB, ST, NS, I0, I1, I2, BO, FI, RG, GU, PU, MA, MN, MS, OT, SC], [r0, r1, r2, r3, w, r5, r6, r7, r8], Lg)) o from ev_call (fun v μ => (d + 1, 0, 0, 202, 39, [.val (.ref 256)], v.toList ++ [], μ)) 22 ze1 e (fun n => Eq.refl _)
  have ze2 := R_fill (d + 0) 262 0 [Y, T, H2, (u1 (u2 (u2 (u2 (u2 (u2 (u2 H 0 0 8) 0 1 0) 0 2 0) 0 3 0) 0 4 0) 0 5 0) 4 (filM ((u2 (u2 (u2 (u2 (u2 (u2 H 0 0 8) 0 1 0) 0 2 0) 0 3 0) 0 4 0) 0 5 0) 4) 8 0)), RA, RB, ST, NS, I0, I1, I2, BO, FI, RG, GU, PU, MA, MN, MS, OT, SC] [r0, r1, r2, r3, w, r5, r6, r7, r8] L Lg 126 120 rfl rfl (Nat.le_of_ble_eq_true rfl) (Nat.le_of_ble_eq_true rfl)
  suffices e : Ev (d + 1, 0, 0, 202, 47, [.val (.ref 256)], [], (126, 120, L, [Y, T, H2, (u1 (u1 (u2 (u2 (u2 (u2 (u2 (u2 H 0 0 8) 0 1 0) 0 2 0) 0 3 0) 0 4 0) 0 5 0) 4 (filM ((u2 (u2 (u2 (u2 (u2 (u2 H 0 0 8) 0 1 0) 0 2 0) 0 3 0) 0 4 0) 0 5 0) 4) 8 0)) 6 (filM ((u1 (u2 (u2 (u2 (u2 (u2 (u2 H 0 0 8) 0 1 0) 0 2 0) 0 3 0) 0 4 0) 0 5 0) 4 (filM ((u2 (u2 (u2 (u2 (u2 (u2 H 0 0 8) 0 1 0) 0 2 0) 0 3 0) 0 4 0) 0 5 0) 4) 8 0)) 6) 10 0)), RA, RB, ST, NS, I0, I1, I2, BO, FI, RG, GU, PU, MA, MN, MS, OT, SC], [r0, r1, r2, r3, w, r5, r6, r7, r8], Lg)) o from ev_call (fun v μ => (d + 1, 0, 0, 202, 47, [.val (.ref 256)], v.toList ++ [], μ)) 4 ze2 e (fun n => Eq.refl _)
  have ze3 := R_fill (d + 0) 264 0 [Y, T, H2, (u1 (u1 (u2 (u2 (u2 (u2 (u2 (u2 H 0 0 8) 0 1 0) 0 2 0) 0 3 0) 0 4 0) 0 5 0) 4 (filM ((u2 (u2 (u2 (u2 (u2 (u2 H 0 0 8) 0 1 0) 0 2 0) 0 3 0) 0 4 0) 0 5 0) 4) 8 0)) 6 (filM ((u1 (u2 (u2 (u2 (u2 (u2 (u2 H 0 0 8) 0 1 0) 0 2 0) 0 3 0) 0 4 0) 0 5 0) 4 (filM ((u2 (u2 (u2 (u2 (u2 (u2 H 0 0 8) 0 1 0) 0 2 0) 0 3 0) 0 4 0) 0 5 0) 4) 8 0)) 6) 10 0)), RA, RB, ST, NS, I0, I1, I2, BO, FI, RG, GU, PU, MA, MN, MS, OT, SC] [r0, r1, r2, r3, w, r5, r6, r7, r8] L Lg 126 120 rfl rfl (Nat.le_of_ble_eq_true rfl) (Nat.le_of_ble_eq_true rfl)
  suffices e : Ev (d + 1, 0, 0, 202, 55, [.val (.ref 256)], [], (126, 120, L, [Y, T, H2, (u1 (u1 (u1 (u2 (u2 (u2 (u2 (u2 (u2 H 0 0 8) 0 1 0) 0 2 0) 0 3 0) 0 4 0) 0 5 0) 4 (filM ((u2 (u2 (u2 (u2 (u2 (u2 H 0 0 8) 0 1 0) 0 2 0) 0 3 0) 0 4 0) 0 5 0) 4) 8 0)) 6 (filM ((u1 (u2 (u2 (u2 (u2 (u2 (u2 H 0 0 8) 0 1 0) 0 2 0) 0 3 0) 0 4 0) 0 5 0) 4 (filM ((u2 (u2 (u2 (u2 (u2 (u2 H 0 0 8) 0 1 0) 0 2 0) 0 3 0) 0 4 0) 0 5 0) 4) 8 0)) 6) 10 0)) 8 (filM ((u1 (u1 (u2 (u2 (u2 (u2 (u2 (u2 H 0 0 8) 0 1 0) 0 2 0) 0 3 0) 0 4 0) 0 5 0) 4 (filM ((u2 (u2 (u2 (u2 (u2 (u2 H 0 0 8) 0 1 0) 0 2 0) 0 3 0) 0 4 0) 0 5 0) 4) 8 0)) 6 (filM ((u1 (u2 (u2 (u2 (u2 (u2 (u2 H 0 0 8) 0 1 0) 0 2 0) 0 3 0) 0 4 0) 0 5 0) 4 (filM ((u2 (u2 (u2 (u2 (u2 (u2 H 0 0 8) 0 1 0) 0 2 0) 0 3 0) 0 4 0) 0 5 0) 4) 8 0)) 6) 10 0)) 8) 10 0)), RA, RB, ST, NS, I0, I1, I2, BO, FI, RG, GU, PU, MA, MN, MS, OT, SC], [r0, r1, r2, r3, w, r5, r6, r7, r8], Lg)) o from ev_call (fun v μ => (d + 1, 0, 0, 202, 55, [.val (.ref 256)], v.toList ++ [], μ)) 4 ze3 e (fun n => Eq.refl _)
  have ze4 := R_fill (d + 0) 265 0 [Y, T, H2, (u1 (u1 (u1 (u2 (u2 (u2 (u2 (u2 (u2 H 0 0 8) 0 1 0) 0 2 0) 0 3 0) 0 4 0) 0 5 0) 4 (filM ((u2 (u2 (u2 (u2 (u2 (u2 H 0 0 8) 0 1 0) 0 2 0) 0 3 0) 0 4 0) 0 5 0) 4) 8 0)) 6 (filM ((u1 (u2 (u2 (u2 (u2 (u2 (u2 H 0 0 8) 0 1 0) 0 2 0) 0 3 0) 0 4 0) 0 5 0) 4 (filM ((u2 (u2 (u2 (u2 (u2 (u2 H 0 0 8) 0 1 0) 0 2 0) 0 3 0) 0 4 0) 0 5 0) 4) 8 0)) 6) 10 0)) 8 (filM ((u1 (u1 (u2 (u2 (u2 (u2 (u2 (u2 H 0 0 8) 0 1 0) 0 2 0) 0 3 0) 0 4 0) 0 5 0) 4 (filM ((u2 (u2 (u2 (u2 (u2 (u2 H 0 0 8) 0 1 0) 0 2 0) 0 3 0) 0 4 0) 0 5 0) 4) 8 0)) 6 (filM ((u1 (u2 (u2 (u2 (u2 (u2 (u2 H 0 0 8) 0 1 0) 0 2 0) 0 3 0) 0 4 0) 0 5 0) 4 (filM ((u2 (u2 (u2 (u2 (u2 (u2 H 0 0 8) 0 1 0) 0 2 0) 0 3 0) 0 4 0) 0 5 0) 4) 8 0)) 6) 10 0)) 8) 10 0)), RA, RB, ST, NS, I0, I1, I2, BO, FI, RG, GU, PU, MA, MN, MS, OT, SC] [r0, r1, r2, r3, w, r5, r6, r7, r8] L Lg 126 120 rfl rfl (Nat.le_of_ble_eq_true rfl) (Nat.le_of_ble_eq_true rfl)
  suffices e : Ev (d + 1, 0, 0, 202, 63, [.val (.ref 256)], [], (126, 120, L, [Y, T, H2, (u1 (u1 (u1 (u1 (u2 (u2 (u2 (u2 (u2 (u2 H 0 0 8) 0 1 0) 0 2 0) 0 3 0) 0 4 0) 0 5 0) 4 (filM ((u2 (u2 (u2 (u2 (u2 (u2 H 0 0 8) 0 1 0) 0 2 0) 0 3 0) 0 4 0) 0 5 0) 4) 8 0)) 6 (filM ((u1 (u2 (u2 (u2 (u2 (u2 (u2 H 0 0 8) 0 1 0) 0 2 0) 0 3 0) 0 4 0) 0 5 0) 4 (filM ((u2 (u2 (u2 (u2 (u2 (u2 H 0 0 8) 0 1 0) 0 2 0) 0 3 0) 0 4 0) 0 5 0) 4) 8 0)) 6) 10 0)) 8 (filM ((u1 (u1 (u2 (u2 (u2 (u2 (u2 (u2 H 0 0 8) 0 1 0) 0 2 0) 0 3 0) 0 4 0) 0 5 0) 4 (filM ((u2 (u2 (u2 (u2 (u2 (u2 H 0 0 8) 0 1 0) 0 2 0) 0 3 0) 0 4 0) 0 5 0) 4) 8 0)) 6 (filM ((u1 (u2 (u2 (u2 (u2 (u2 (u2 H 0 0 8) 0 1 0) 0 2 0) 0 3 0) 0 4 0) 0 5 0) 4 (filM ((u2 (u2 (u2 (u2 (u2 (u2 H 0 0 8) 0 1 0) 0 2 0) 0 3 0) 0 4 0) 0 5 0) 4) 8 0)) 6) 10 0)) 8) 10 0)) 9 (filM ((u1 (u1 (u1 (u2 (u2 (u2 (u2 (u2 (u2 H 0 0 8) 0 1 0) 0 2 0) 0 3 0) 0 4 0) 0 5 0) 4 (filM ((u2 (u2 (u2 (u2 (u2 (u2 H 0 0 8) 0 1 0) 0 2 0) 0 3 0) 0 4 0) 0 5 0) 4) 8 0)) 6 (filM ((u1 (u2 (u2 (u2 (u2 (u2 (u2 H 0 0 8) 0 1 0) 0 2 0) 0 3 0) 0 4 0) 0 5 0) 4 (filM ((u2 (u2 (u2 (u2 (u2 (u2 H 0 0 8) 0 1 0) 0 2 0) 0 3 0) 0 4 0) 0 5 0) 4) 8 0)) 6) 10 0)) 8 (filM ((u1 (u1 (u2 (u2 (u2 (u2 (u2 (u2 H 0 0 8) 0 1 0) 0 2 0) 0 3 0) 0 4 0) 0 5 0) 4 (filM ((u2 (u2 (u2 (u2 (u2 (u2 H 0 0 8) 0 1 0) 0 2 0) 0 3 0) 0 4 0) 0 5 0) 4) 8 0)) 6 (filM ((u1 (u2 (u2 (u2 (u2 (u2 (u2 H 0 0 8) 0 1 0) 0 2 0) 0 3 0) 0 4 0) 0 5 0) 4 (filM ((u2 (u2 (u2 (u2 (u2 (u2 H 0 0 8) 0 1 0) 0 2 0) 0 3 0) 0 4 0) 0 5 0) 4) 8 0)) 6) 10 0)) 8) 10 0)) 9) 10 0)), RA, RB, ST, NS, I0, I1, I2, BO, FI, RG, GU, PU, MA, MN, MS, OT, SC], [r0, r1, r2, r3, w, r5, r6, r7, r8], Lg)) o from ev_call (fun v μ => (d + 1, 0, 0, 202, 63, [.val (.ref 256)], v.toList ++ [], μ)) 4 ze4 e (fun n => Eq.refl _)
  have ze5 := Option.some.inj h
  subst ze5
  exact ev_rete 1 ho (fun n => Eq.refl _)
set_option maxRecDepth 1000000 in
set_option maxHeartbeats 4000000 in
theorem R_f_Tape_failed_0 (d : Nat) (Y T HA HB RA RB ST NS I0 I1 I2 BO FI RG GU PU MA MN MS OT SC : Nat → Nat → Int32) (r0 r1 r2 r3 w r5 r6 r7 r8 : Nat) (L : Nat) (Lg : Int64) {r : Int32} (h : f_Tape_failed T = some r) : Ev (d + 0, 0, 0, 267, 0, [.val (.ref 128)], [], (126, 120, L, [Y, T, HA, HB, RA, RB, ST, NS, I0, I1, I2, BO, FI, RG, GU, PU, MA, MN, MS, OT, SC], [r0, r1, r2, r3, w, r5, r6, r7, r8], Lg)) ((0, some (.int r), (126, 120, L, [Y, T, HA, HB, RA, RB, ST, NS, I0, I1, I2, BO, FI, RG, GU, PU, MA, MN, MS, OT, SC], [r0, r1, r2, r3, w, r5, r6, r7, r8], Lg)) : AOut) := by
  suffices key : ∀ o : AOut, ((0, some (.int r), (126, 120, L, [Y, T, HA, HB, RA, RB, ST, NS, I0, I1, I2, BO, FI, RG, GU, PU, MA, MN, MS, OT, SC], [r0, r1, r2, r3, w, r5, r6, r7, r8], Lg)) : AOut) = o → Ev (d + 0, 0, 0, 267, 0, [.val (.ref 128)], [], (126, 120, L, [Y, T, HA, HB, RA, RB, ST, NS, I0, I1, I2, BO, FI, RG, GU, PU, MA, MN, MS, OT, SC], [r0, r1, r2, r3, w, r5, r6, r7, r8], Lg)) o from key _ rfl
  intro o ho
  by_cases zc1 : (T 0 8) = 0
  · have h := itp h zc1
    suffices e : Ev (d + 0, 0, 0, 267, 11, [.val (.ref 128)], [], (126, 120, L, [Y, T, HA, HB, RA, RB, ST, NS, I0, I1, I2, BO, FI, RG, GU, PU, MA, MN, MS, OT, SC], [r0, r1, r2, r3, w, r5, r6, r7, r8], Lg)) o from ev_t (c := (T 0 8) = 0) _ _ 3  zc1 e (fun n => Eq.refl _)
    have ze2 := Option.some.inj h
    subst ze2
    exact ev_rete 2 ho (fun n => Eq.refl _)
  · have h := itn h zc1
    suffices e : Ev (d + 0, 0, 0, 267, 7, [.val (.ref 128)], [], (126, 120, L, [Y, T, HA, HB, RA, RB, ST, NS, I0, I1, I2, BO, FI, RG, GU, PU, MA, MN, MS, OT, SC], [r0, r1, r2, r3, w, r5, r6, r7, r8], Lg)) o from ev_f (c := (T 0 8) = 0) _ _ 3  zc1 e (fun n => Eq.refl _)
    have ze3 := Option.some.inj h
    subst ze3
    exact ev_rete 3 ho (fun n => Eq.refl _)
set_option maxRecDepth 1000000 in
set_option maxHeartbeats 4000000 in
theorem R_f_Tape_atEnd_0 (d : Nat) (Y T HA HB RA RB ST NS I0 I1 I2 BO FI RG GU PU MA MN MS OT SC : Nat → Nat → Int32) (r0 r1 r2 r3 w r5 r6 r7 r8 : Nat) (L : Nat) (Lg : Int64) {r : Int32} (h : f_Tape_atEnd T = some r) : Ev (d + 0, 0, 0, 269, 0, [.val (.ref 128)], [], (126, 120, L, [Y, T, HA, HB, RA, RB, ST, NS, I0, I1, I2, BO, FI, RG, GU, PU, MA, MN, MS, OT, SC], [r0, r1, r2, r3, w, r5, r6, r7, r8], Lg)) ((0, some (.int r), (126, 120, L, [Y, T, HA, HB, RA, RB, ST, NS, I0, I1, I2, BO, FI, RG, GU, PU, MA, MN, MS, OT, SC], [r0, r1, r2, r3, w, r5, r6, r7, r8], Lg)) : AOut) := by
  suffices key : ∀ o : AOut, ((0, some (.int r), (126, 120, L, [Y, T, HA, HB, RA, RB, ST, NS, I0, I1, I2, BO, FI, RG, GU, PU, MA, MN, MS, OT, SC], [r0, r1, r2, r3, w, r5, r6, r7, r8], Lg)) : AOut) = o → Ev (d + 0, 0, 0, 269, 0, [.val (.ref 128)], [], (126, 120, L, [Y, T, HA, HB, RA, RB, ST, NS, I0, I1, I2, BO, FI, RG, GU, PU, MA, MN, MS, OT, SC], [r0, r1, r2, r3, w, r5, r6, r7, r8], Lg)) o from key _ rfl
  intro o ho
  by_cases zc1 : (T 0 3) ≠ 0
  · have h := itp h zc1
    suffices e : Ev (d + 0, 0, 0, 269, 11, [.val (.ref 128)], [], (126, 120, L, [Y, T, HA, HB, RA, RB, ST, NS, I0, I1, I2, BO, FI, RG, GU, PU, MA, MN, MS, OT, SC], [r0, r1, r2, r3, w, r5, r6, r7, r8], Lg)) o from ev_t (c := (T 0 3) ≠ 0) _ _ 3  zc1 e (fun n => Eq.refl _)
    have ze2 := Option.some.inj h
    subst ze2
    exact ev_rete 2 ho (fun n => Eq.refl _)
  · have h := itn h zc1
    suffices e : Ev (d + 0, 0, 0, 269, 7, [.val (.ref 128)], [], (126, 120, L, [Y, T, HA, HB, RA, RB, ST, NS, I0, I1, I2, BO, FI, RG, GU, PU, MA, MN, MS, OT, SC], [r0, r1, r2, r3, w, r5, r6, r7, r8], Lg)) o from ev_f (c := (T 0 3) ≠ 0) _ _ 3  zc1 e (fun n => Eq.refl _)
    have ze3 := Option.some.inj h
    subst ze3
    exact ev_rete 3 ho (fun n => Eq.refl _)
set_option maxRecDepth 1000000 in
set_option maxHeartbeats 4000000 in
theorem R_f_House_wordFault_0 (d : Nat) (Y T H2 H RA RB ST NS I0 I1 I2 BO FI RG GU PU MA MN MS OT SC : Nat → Nat → Int32) (r0 r1 r2 r3 w r5 r6 r7 r8 : Nat) (L : Nat) (Lg : Int64) (s1 : Nat) (p2 : Int32) {r : Int32} (h : f_House_wordFault H s1 p2 = some r) : Ev (d + 1, 0, 0, 203, 0, [.val (.ref 256), .val (.ref s1), .val (.int p2), .val a_unk], [], (126, 120, L, [Y, T, H2, H, RA, RB, ST, NS, I0, I1, I2, BO, FI, RG, GU, PU, MA, MN, MS, OT, SC], [r0, r1, r2, r3, w, r5, r6, r7, r8], Lg)) ((0, some (.int r), (126, 120, L, [Y, T, H2, H, RA, RB, ST, NS, I0, I1, I2, BO, FI, RG, GU, PU, MA, MN, MS, OT, SC], [r0, r1, r2, r3, w, r5, r6, r7, r8], Lg)) : AOut) := by
  suffices key : ∀ o : AOut, ((0, some (.int r), (126, 120, L, [Y, T, H2, H, RA, RB, ST, NS, I0, I1, I2, BO, FI, RG, GU, PU, MA, MN, MS, OT, SC], [r0, r1, r2, r3, w, r5, r6, r7, r8], Lg)) : AOut) = o → Ev (d + 1, 0, 0, 203, 0, [.val (.ref 256), .val (.ref s1), .val (.int p2), .val a_unk], [], (126, 120, L, [Y, T, H2, H, RA, RB, ST, NS, I0, I1, I2, BO, FI, RG, GU, PU, MA, MN, MS, OT, SC], [r0, r1, r2, r3, w, r5, r6, r7, r8], Lg)) o from key _ rfl
  intro o ho
  by_cases zg2 : ¬ (okW s1)
  · exact nos (itn h zg2)
  have zg2 := Decidable.not_not.mp zg2
  have h := itp h zg2
  by_cases zc1 : s1 = 0
  · have h := itp h zc1
    suffices e : Ev (d + 1, 0, 0, 203, 4, [.val (.ref 256), .val (.ref s1), .val (.int p2), .val a_unk], [], (126, 120, L, [Y, T, H2, H, RA, RB, ST, NS, I0, I1, I2, BO, FI, RG, GU, PU, MA, MN, MS, OT, SC], [r0, r1, r2, r3, w, r5, r6, r7, r8], Lg)) o from ev_gt (c := s1 = 0) _ _ 2 zg2 zc1 e (fun n => Eq.refl _)
    have ze3 := Option.some.inj h
    subst ze3
    exact ev_rete 2 ho (fun n => Eq.refl _)
  · have h := itn h zc1
    suffices e : Ev (d + 1, 0, 0, 203, 6, [.val (.ref 256), .val (.ref s1), .val (.int p2), .val a_unk], [], (126, 120, L, [Y, T, H2, H, RA, RB, ST, NS, I0, I1, I2, BO, FI, RG, GU, PU, MA, MN, MS, OT, SC], [r0, r1, r2, r3, w, r5, r6, r7, r8], Lg)) o from ev_gf (c := s1 = 0) _ _ 2 zg2 zc1 e (fun n => Eq.refl _)
    obtain ⟨zt4, zh5, h⟩ := bnd h
    have zj6 : ∀ (v1 : Int32), v1 = zt4 → Ev (d + 1, 0, 0, 203, 17, [.val (.ref 256), .val (.ref s1), .val (.int p2), .val a_unk], [.int v1], (126, 120, L, [Y, T, H2, H, RA, RB, ST, NS, I0, I1, I2, BO, FI, RG, GU, PU, MA, MN, MS, OT, SC], [r0, r1, r2, r3, w, r5, r6, r7, r8], Lg)) o := by
      intro v1 ze7
      subst ze7
      by_cases zg8 : ¬ (isW s1)
      · exact nos (itn h zg8)
      have zg8 := Decidable.not_not.mp zg8
      have h := itp h zg8
      suffices e : Ev (d + 1, 0, 0, 203, 22, [.val (.ref 256), .val (.ref s1), .val (.int p2), .val (.int v1)], [.ref s1, .ref 2753], (126, 120, L, [Y, T, H2, H, RA, RB, ST, NS, I0, I1, I2, BO, FI, RG, GU, PU, MA, MN, MS, OT, SC], [r0, r1, r2, r3, w, r5, r6, r7, r8], Lg)) o from ev_b 3 e (fun n => Eq.refl _)
      refine r_inv (args := []) (rest := [.ref 2753]) rfl rfl rfl rfl (cW zg8).1 (cW zg8).2.1 rfl (R_ord (d + 0) s1 (126, 120, L, [Y, T, H2, H, RA, RB, ST, NS, I0, I1, I2, BO, FI, RG, GU, PU, MA, MN, MS, OT, SC], [r0, r1, r2, r3, w, r5, r6, r7, r8], Lg) zg8) ?_
      obtain ⟨x2, zh9, h⟩ := bnd h
      have zh9 : rdx (a_ca 2753) 23 (w_ord s1) = some x2 := zh9
      suffices e : Ev (d + 1, 0, 0, 203, 26, [.val (.ref 256), .val (.ref s1), .val (.int p2), .val (.int v1)], [.int x2], (126, 120, L, [Y, T, H2, H, RA, RB, ST, NS, I0, I1, I2, BO, FI, RG, GU, PU, MA, MN, MS, OT, SC], [r0, r1, r2, r3, w, r5, r6, r7, r8], Lg)) o from ev_opt (fun x2 => (d + 1, 0, 0, 203, 26, [.val (.ref 256), .val (.ref s1), .val (.int p2), .val (.int v1)], [.int x2], (126, 120, L, [Y, T, H2, H, RA, RB, ST, NS, I0, I1, I2, BO, FI, RG, GU, PU, MA, MN, MS, OT, SC], [r0, r1, r2, r3, w, r5, r6, r7, r8], Lg))) 1 zh9 e (fun n => Eq.refl _)
      by_cases zc10 : x2 = 1
      · have h := itp h zc10
        suffices e : Ev (d + 1, 0, 0, 203, 80, [.val (.ref 256), .val (.ref s1), .val (.int p2), .val (.int v1)], [], (126, 120, L, [Y, T, H2, H, RA, RB, ST, NS, I0, I1, I2, BO, FI, RG, GU, PU, MA, MN, MS, OT, SC], [r0, r1, r2, r3, w, r5, r6, r7, r8], Lg)) o from ev_sw [((1 : Int32), 80), ((2 : Int32), 98), ((3 : Int32), 116), ((4 : Int32), 135), ((5 : Int32), 154), ((6 : Int32), 172), ((7 : Int32), 172), ((8 : Int32), 172), ((9 : Int32), 172), ((10 : Int32), 172)] x2 (fun tt => (d + 1, 0, 0, 203, tt, [.val (.ref 256), .val (.ref s1), .val (.int p2), .val (.int v1)], [], (126, 120, L, [Y, T, H2, H, RA, RB, ST, NS, I0, I1, I2, BO, FI, RG, GU, PU, MA, MN, MS, OT, SC], [r0, r1, r2, r3, w, r5, r6, r7, r8], Lg))) 182 80 1 (fun f => by simp only [a_sw, if_pos zc10]) e (fun n => Eq.refl _)
        by_cases zc11 : v1 = 0
        · have h := itp h zc11
          suffices e : Ev (d + 1, 0, 0, 203, 88, [.val (.ref 256), .val (.ref s1), .val (.int p2), .val (.int v1)], [], (126, 120, L, [Y, T, H2, H, RA, RB, ST, NS, I0, I1, I2, BO, FI, RG, GU, PU, MA, MN, MS, OT, SC], [r0, r1, r2, r3, w, r5, r6, r7, r8], Lg)) o from ev_t (c := v1 = 0) _ _ 2  zc11 e (fun n => Eq.refl _)
          by_cases zc12 : p2 ≤ 0
          · have h := itp h zc12
            suffices e : Ev (d + 1, 0, 0, 203, 96, [.val (.ref 256), .val (.ref s1), .val (.int p2), .val (.int v1)], [], (126, 120, L, [Y, T, H2, H, RA, RB, ST, NS, I0, I1, I2, BO, FI, RG, GU, PU, MA, MN, MS, OT, SC], [r0, r1, r2, r3, w, r5, r6, r7, r8], Lg)) o from ev_t (c := p2 ≤ 0) _ _ 2  zc12 e (fun n => Eq.refl _)
            have ze13 := Option.some.inj h
            subst ze13
            exact ev_rete 2 ho (fun n => Eq.refl _)
          · have h := itn h zc12
            suffices e : Ev (d + 1, 0, 0, 203, 92, [.val (.ref 256), .val (.ref s1), .val (.int p2), .val (.int v1)], [], (126, 120, L, [Y, T, H2, H, RA, RB, ST, NS, I0, I1, I2, BO, FI, RG, GU, PU, MA, MN, MS, OT, SC], [r0, r1, r2, r3, w, r5, r6, r7, r8], Lg)) o from ev_f (c := p2 ≤ 0) _ _ 2  zc12 e (fun n => Eq.refl _)
            have ze14 := Option.some.inj h
            subst ze14
            exact ev_rete 3 ho (fun n => Eq.refl _)
        · have h := itn h zc11
          suffices e : Ev (d + 1, 0, 0, 203, 84, [.val (.ref 256), .val (.ref s1), .val (.int p2), .val (.int v1)], [], (126, 120, L, [Y, T, H2, H, RA, RB, ST, NS, I0, I1, I2, BO, FI, RG, GU, PU, MA, MN, MS, OT, SC], [r0, r1, r2, r3, w, r5, r6, r7, r8], Lg)) o from ev_f (c := v1 = 0) _ _ 2  zc11 e (fun n => Eq.refl _)
          have ze15 := Option.some.inj h
          subst ze15
          exact ev_rete 3 ho (fun n => Eq.refl _)
      have h := itn h zc10
      by_cases zc16 : x2 = 2
      · have h := itp h zc16
        suffices e : Ev (d + 1, 0, 0, 203, 98, [.val (.ref 256), .val (.ref s1), .val (.int p2), .val (.int v1)], [], (126, 120, L, [Y, T, H2, H, RA, RB, ST, NS, I0, I1, I2, BO, FI, RG, GU, PU, MA, MN, MS, OT, SC], [r0, r1, r2, r3, w, r5, r6, r7, r8], Lg)) o from ev_sw [((1 : Int32), 80), ((2 : Int32), 98), ((3 : Int32), 116), ((4 : Int32), 135), ((5 : Int32), 154), ((6 : Int32), 172), ((7 : Int32), 172), ((8 : Int32), 172), ((9 : Int32), 172), ((10 : Int32), 172)] x2 (fun tt => (d + 1, 0, 0, 203, tt, [.val (.ref 256), .val (.ref s1), .val (.int p2), .val (.int v1)], [], (126, 120, L, [Y, T, H2, H, RA, RB, ST, NS, I0, I1, I2, BO, FI, RG, GU, PU, MA, MN, MS, OT, SC], [r0, r1, r2, r3, w, r5, r6, r7, r8], Lg))) 182 98 1 (fun f => by simp only [a_sw, if_neg zc10, if_pos zc16]) e (fun n => Eq.refl _)
        by_cases zc17 : v1 ≠ 0
        · have h := itp h zc17
          suffices e : Ev (d + 1, 0, 0, 203, 110, [.val (.ref 256), .val (.ref s1), .val (.int p2), .val (.int v1)], [], (126, 120, L, [Y, T, H2, H, RA, RB, ST, NS, I0, I1, I2, BO, FI, RG, GU, PU, MA, MN, MS, OT, SC], [r0, r1, r2, r3, w, r5, r6, r7, r8], Lg)) o from ev_t (c := v1 ≠ 0) _ _ 2  zc17 e (fun n => Eq.refl _)
          have ze18 := Option.some.inj h
          subst ze18
          exact ev_rete 3 ho (fun n => Eq.refl _)
        · have h := itn h zc17
          suffices e : Ev (d + 1, 0, 0, 203, 102, [.val (.ref 256), .val (.ref s1), .val (.int p2), .val (.int v1)], [], (126, 120, L, [Y, T, H2, H, RA, RB, ST, NS, I0, I1, I2, BO, FI, RG, GU, PU, MA, MN, MS, OT, SC], [r0, r1, r2, r3, w, r5, r6, r7, r8], Lg)) o from ev_f (c := v1 ≠ 0) _ _ 2  zc17 e (fun n => Eq.refl _)
          by_cases zc19 : (H 0 1) < 3
          · have h := itp h zc19
            suffices e : Ev (d + 1, 0, 0, 203, 114, [.val (.ref 256), .val (.ref s1), .val (.int p2), .val (.int v1)], [], (126, 120, L, [Y, T, H2, H, RA, RB, ST, NS, I0, I1, I2, BO, FI, RG, GU, PU, MA, MN, MS, OT, SC], [r0, r1, r2, r3, w, r5, r6, r7, r8], Lg)) o from ev_t (c := (H 0 1) < 3) _ _ 4  zc19 e (fun n => Eq.refl _)
            have ze20 := Option.some.inj h
            subst ze20
            exact ev_rete 2 ho (fun n => Eq.refl _)
          · have h := itn h zc19
            suffices e : Ev (d + 1, 0, 0, 203, 110, [.val (.ref 256), .val (.ref s1), .val (.int p2), .val (.int v1)], [], (126, 120, L, [Y, T, H2, H, RA, RB, ST, NS, I0, I1, I2, BO, FI, RG, GU, PU, MA, MN, MS, OT, SC], [r0, r1, r2, r3, w, r5, r6, r7, r8], Lg)) o from ev_f (c := (H 0 1) < 3) _ _ 4  zc19 e (fun n => Eq.refl _)
            have ze21 := Option.some.inj h
            subst ze21
            exact ev_rete 3 ho (fun n => Eq.refl _)
      have h := itn h zc16
      by_cases zc22 : x2 = 3
      · have h := itp h zc22
        suffices e : Ev (d + 1, 0, 0, 203, 116, [.val (.ref 256), .val (.ref s1), .val (.int p2), .val (.int v1)], [], (126, 120, L, [Y, T, H2, H, RA, RB, ST, NS, I0, I1, I2, BO, FI, RG, GU, PU, MA, MN, MS, OT, SC], [r0, r1, r2, r3, w, r5, r6, r7, r8], Lg)) o from ev_sw [((1 : Int32), 80), ((2 : Int32), 98), ((3 : Int32), 116), ((4 : Int32), 135), ((5 : Int32), 154), ((6 : Int32), 172), ((7 : Int32), 172), ((8 : Int32), 172), ((9 : Int32), 172), ((10 : Int32), 172)] x2 (fun tt => (d + 1, 0, 0, 203, tt, [.val (.ref 256), .val (.ref s1), .val (.int p2), .val (.int v1)], [], (126, 120, L, [Y, T, H2, H, RA, RB, ST, NS, I0, I1, I2, BO, FI, RG, GU, PU, MA, MN, MS, OT, SC], [r0, r1, r2, r3, w, r5, r6, r7, r8], Lg))) 182 116 1 (fun f => by simp only [a_sw, if_neg zc10, if_neg zc16, if_pos zc22]) e (fun n => Eq.refl _)
        by_cases zc23 : v1 ≠ 0
        · have h := itp h zc23
          suffices e : Ev (d + 1, 0, 0, 203, 129, [.val (.ref 256), .val (.ref s1), .val (.int p2), .val (.int v1)], [], (126, 120, L, [Y, T, H2, H, RA, RB, ST, NS, I0, I1, I2, BO, FI, RG, GU, PU, MA, MN, MS, OT, SC], [r0, r1, r2, r3, w, r5, r6, r7, r8], Lg)) o from ev_t (c := v1 ≠ 0) _ _ 2  zc23 e (fun n => Eq.refl _)
          have ze24 := Option.some.inj h
          subst ze24
          exact ev_rete 3 ho (fun n => Eq.refl _)
        · have h := itn h zc23
          suffices e : Ev (d + 1, 0, 0, 203, 120, [.val (.ref 256), .val (.ref s1), .val (.int p2), .val (.int v1)], [], (126, 120, L, [Y, T, H2, H, RA, RB, ST, NS, I0, I1, I2, BO, FI, RG, GU, PU, MA, MN, MS, OT, SC], [r0, r1, r2, r3, w, r5, r6, r7, r8], Lg)) o from ev_f (c := v1 ≠ 0) _ _ 2  zc23 e (fun n => Eq.refl _)
          by_cases zc25 : (H 0 2) < 8
          · have h := itp h zc25
            suffices e : Ev (d + 1, 0, 0, 203, 133, [.val (.ref 256), .val (.ref s1), .val (.int p2), .val (.int v1)], [], (126, 120, L, [Y, T, H2, H, RA, RB, ST, NS, I0, I1, I2, BO, FI, RG, GU, PU, MA, MN, MS, OT, SC], [r0, r1, r2, r3, w, r5, r6, r7, r8], Lg)) o from ev_t (c := (H 0 2) < 8) _ _ 4  zc25 e (fun n => Eq.refl _)
            have ze26 := Option.some.inj h
            subst ze26
            exact ev_rete 2 ho (fun n => Eq.refl _)
          · have h := itn h zc25
            suffices e : Ev (d + 1, 0, 0, 203, 129, [.val (.ref 256), .val (.ref s1), .val (.int p2), .val (.int v1)], [], (126, 120, L, [Y, T, H2, H, RA, RB, ST, NS, I0, I1, I2, BO, FI, RG, GU, PU, MA, MN, MS, OT, SC], [r0, r1, r2, r3, w, r5, r6, r7, r8], Lg)) o from ev_f (c := (H 0 2) < 8) _ _ 4  zc25 e (fun n => Eq.refl _)
            have ze27 := Option.some.inj h
            subst ze27
            exact ev_rete 3 ho (fun n => Eq.refl _)
      have h := itn h zc22
      by_cases zc28 : x2 = 4
      · have h := itp h zc28
        suffices e : Ev (d + 1, 0, 0, 203, 135, [.val (.ref 256), .val (.ref s1), .val (.int p2), .val (.int v1)], [], (126, 120, L, [Y, T, H2, H, RA, RB, ST, NS, I0, I1, I2, BO, FI, RG, GU, PU, MA, MN, MS, OT, SC], [r0, r1, r2, r3, w, r5, r6, r7, r8], Lg)) o from ev_sw [((1 : Int32), 80), ((2 : Int32), 98), ((3 : Int32), 116), ((4 : Int32), 135), ((5 : Int32), 154), ((6 : Int32), 172), ((7 : Int32), 172), ((8 : Int32), 172), ((9 : Int32), 172), ((10 : Int32), 172)] x2 (fun tt => (d + 1, 0, 0, 203, tt, [.val (.ref 256), .val (.ref s1), .val (.int p2), .val (.int v1)], [], (126, 120, L, [Y, T, H2, H, RA, RB, ST, NS, I0, I1, I2, BO, FI, RG, GU, PU, MA, MN, MS, OT, SC], [r0, r1, r2, r3, w, r5, r6, r7, r8], Lg))) 182 135 1 (fun f => by simp only [a_sw, if_neg zc10, if_neg zc16, if_neg zc22, if_pos zc28]) e (fun n => Eq.refl _)
        by_cases zc29 : v1 ≠ 0
        · have h := itp h zc29
          suffices e : Ev (d + 1, 0, 0, 203, 148, [.val (.ref 256), .val (.ref s1), .val (.int p2), .val (.int v1)], [], (126, 120, L, [Y, T, H2, H, RA, RB, ST, NS, I0, I1, I2, BO, FI, RG, GU, PU, MA, MN, MS, OT, SC], [r0, r1, r2, r3, w, r5, r6, r7, r8], Lg)) o from ev_t (c := v1 ≠ 0) _ _ 2  zc29 e (fun n => Eq.refl _)
          have ze30 := Option.some.inj h
          subst ze30
          exact ev_rete 3 ho (fun n => Eq.refl _)
        · have h := itn h zc29
          suffices e : Ev (d + 1, 0, 0, 203, 139, [.val (.ref 256), .val (.ref s1), .val (.int p2), .val (.int v1)], [], (126, 120, L, [Y, T, H2, H, RA, RB, ST, NS, I0, I1, I2, BO, FI, RG, GU, PU, MA, MN, MS, OT, SC], [r0, r1, r2, r3, w, r5, r6, r7, r8], Lg)) o from ev_f (c := v1 ≠ 0) _ _ 2  zc29 e (fun n => Eq.refl _)
          by_cases zc31 : (H 0 3) < 10
          · have h := itp h zc31
            suffices e : Ev (d + 1, 0, 0, 203, 152, [.val (.ref 256), .val (.ref s1), .val (.int p2), .val (.int v1)], [], (126, 120, L, [Y, T, H2, H, RA, RB, ST, NS, I0, I1, I2, BO, FI, RG, GU, PU, MA, MN, MS, OT, SC], [r0, r1, r2, r3, w, r5, r6, r7, r8], Lg)) o from ev_t (c := (H 0 3) < 10) _ _ 4  zc31 e (fun n => Eq.refl _)
            have ze32 := Option.some.inj h
            subst ze32
            exact ev_rete 2 ho (fun n => Eq.refl _)
          · have h := itn h zc31
            suffices e : Ev (d + 1, 0, 0, 203, 148, [.val (.ref 256), .val (.ref s1), .val (.int p2), .val (.int v1)], [], (126, 120, L, [Y, T, H2, H, RA, RB, ST, NS, I0, I1, I2, BO, FI, RG, GU, PU, MA, MN, MS, OT, SC], [r0, r1, r2, r3, w, r5, r6, r7, r8], Lg)) o from ev_f (c := (H 0 3) < 10) _ _ 4  zc31 e (fun n => Eq.refl _)
            have ze33 := Option.some.inj h
            subst ze33
            exact ev_rete 3 ho (fun n => Eq.refl _)
      have h := itn h zc28
      by_cases zc34 : x2 = 5
      · have h := itp h zc34
        suffices e : Ev (d + 1, 0, 0, 203, 154, [.val (.ref 256), .val (.ref s1), .val (.int p2), .val (.int v1)], [], (126, 120, L, [Y, T, H2, H, RA, RB, ST, NS, I0, I1, I2, BO, FI, RG, GU, PU, MA, MN, MS, OT, SC], [r0, r1, r2, r3, w, r5, r6, r7, r8], Lg)) o from ev_sw [((1 : Int32), 80), ((2 : Int32), 98), ((3 : Int32), 116), ((4 : Int32), 135), ((5 : Int32), 154), ((6 : Int32), 172), ((7 : Int32), 172), ((8 : Int32), 172), ((9 : Int32), 172), ((10 : Int32), 172)] x2 (fun tt => (d + 1, 0, 0, 203, tt, [.val (.ref 256), .val (.ref s1), .val (.int p2), .val (.int v1)], [], (126, 120, L, [Y, T, H2, H, RA, RB, ST, NS, I0, I1, I2, BO, FI, RG, GU, PU, MA, MN, MS, OT, SC], [r0, r1, r2, r3, w, r5, r6, r7, r8], Lg))) 182 154 1 (fun f => by simp only [a_sw, if_neg zc10, if_neg zc16, if_neg zc22, if_neg zc28, if_pos zc34]) e (fun n => Eq.refl _)
        by_cases zc35 : v1 ≠ 0
        · have h := itp h zc35
          suffices e : Ev (d + 1, 0, 0, 203, 166, [.val (.ref 256), .val (.ref s1), .val (.int p2), .val (.int v1)], [], (126, 120, L, [Y, T, H2, H, RA, RB, ST, NS, I0, I1, I2, BO, FI, RG, GU, PU, MA, MN, MS, OT, SC], [r0, r1, r2, r3, w, r5, r6, r7, r8], Lg)) o from ev_t (c := v1 ≠ 0) _ _ 2  zc35 e (fun n => Eq.refl _)
          have ze36 := Option.some.inj h
          subst ze36
          exact ev_rete 3 ho (fun n => Eq.refl _)
        · have h := itn h zc35
          suffices e : Ev (d + 1, 0, 0, 203, 158, [.val (.ref 256), .val (.ref s1), .val (.int p2), .val (.int v1)], [], (126, 120, L, [Y, T, H2, H, RA, RB, ST, NS, I0, I1, I2, BO, FI, RG, GU, PU, MA, MN, MS, OT, SC], [r0, r1, r2, r3, w, r5, r6, r7, r8], Lg)) o from ev_f (c := v1 ≠ 0) _ _ 2  zc35 e (fun n => Eq.refl _)
          by_cases zc37 : (H 0 4) < 4
          · have h := itp h zc37
            suffices e : Ev (d + 1, 0, 0, 203, 170, [.val (.ref 256), .val (.ref s1), .val (.int p2), .val (.int v1)], [], (126, 120, L, [Y, T, H2, H, RA, RB, ST, NS, I0, I1, I2, BO, FI, RG, GU, PU, MA, MN, MS, OT, SC], [r0, r1, r2, r3, w, r5, r6, r7, r8], Lg)) o from ev_t (c := (H 0 4) < 4) _ _ 4  zc37 e (fun n => Eq.refl _)
            have ze38 := Option.some.inj h
            subst ze38
            exact ev_rete 2 ho (fun n => Eq.refl _)
          · have h := itn h zc37
            suffices e : Ev (d + 1, 0, 0, 203, 166, [.val (.ref 256), .val (.ref s1), .val (.int p2), .val (.int v1)], [], (126, 120, L, [Y, T, H2, H, RA, RB, ST, NS, I0, I1, I2, BO, FI, RG, GU, PU, MA, MN, MS, OT, SC], [r0, r1, r2, r3, w, r5, r6, r7, r8], Lg)) o from ev_f (c := (H 0 4) < 4) _ _ 4  zc37 e (fun n => Eq.refl _)
            have ze39 := Option.some.inj h
            subst ze39
            exact ev_rete 3 ho (fun n => Eq.refl _)
      have h := itn h zc34
      by_cases zc40 : x2 = 6
      · have h := itp h zc40
        suffices e : Ev (d + 1, 0, 0, 203, 172, [.val (.ref 256), .val (.ref s1), .val (.int p2), .val (.int v1)], [], (126, 120, L, [Y, T, H2, H, RA, RB, ST, NS, I0, I1, I2, BO, FI, RG, GU, PU, MA, MN, MS, OT, SC], [r0, r1, r2, r3, w, r5, r6, r7, r8], Lg)) o from ev_sw [((1 : Int32), 80), ((2 : Int32), 98), ((3 : Int32), 116), ((4 : Int32), 135), ((5 : Int32), 154), ((6 : Int32), 172), ((7 : Int32), 172), ((8 : Int32), 172), ((9 : Int32), 172), ((10 : Int32), 172)] x2 (fun tt => (d + 1, 0, 0, 203, tt, [.val (.ref 256), .val (.ref s1), .val (.int p2), .val (.int v1)], [], (126, 120, L, [Y, T, H2, H, RA, RB, ST, NS, I0, I1, I2, BO, FI, RG, GU, PU, MA, MN, MS, OT, SC], [r0, r1, r2, r3, w, r5, r6, r7, r8], Lg))) 182 172 1 (fun f => by simp only [a_sw, if_neg zc10, if_neg zc16, if_neg zc22, if_neg zc28, if_neg zc34, if_pos zc40]) e (fun n => Eq.refl _)
        by_cases zc41 : v1 = 0
        · have h := itp h zc41
          suffices e : Ev (d + 1, 0, 0, 203, 180, [.val (.ref 256), .val (.ref s1), .val (.int p2), .val (.int v1)], [], (126, 120, L, [Y, T, H2, H, RA, RB, ST, NS, I0, I1, I2, BO, FI, RG, GU, PU, MA, MN, MS, OT, SC], [r0, r1, r2, r3, w, r5, r6, r7, r8], Lg)) o from ev_t (c := v1 = 0) _ _ 2  zc41 e (fun n => Eq.refl _)
          have ze42 := Option.some.inj h
          subst ze42
          exact ev_rete 2 ho (fun n => Eq.refl _)
        · have h := itn h zc41
          suffices e : Ev (d + 1, 0, 0, 203, 176, [.val (.ref 256), .val (.ref s1), .val (.int p2), .val (.int v1)], [], (126, 120, L, [Y, T, H2, H, RA, RB, ST, NS, I0, I1, I2, BO, FI, RG, GU, PU, MA, MN, MS, OT, SC], [r0, r1, r2, r3, w, r5, r6, r7, r8], Lg)) o from ev_f (c := v1 = 0) _ _ 2  zc41 e (fun n => Eq.refl _)
          have ze43 := Option.some.inj h
          subst ze43
          exact ev_rete 3 ho (fun n => Eq.refl _)
      have h := itn h zc40
      by_cases zc44 : x2 = 7
      · have h := itp h zc44
        suffices e : Ev (d + 1, 0, 0, 203, 172, [.val (.ref 256), .val (.ref s1), .val (.int p2), .val (.int v1)], [], (126, 120, L, [Y, T, H2, H, RA, RB, ST, NS, I0, I1, I2, BO, FI, RG, GU, PU, MA, MN, MS, OT, SC], [r0, r1, r2, r3, w, r5, r6, r7, r8], Lg)) o from ev_sw [((1 : Int32), 80), ((2 : Int32), 98), ((3 : Int32), 116), ((4 : Int32), 135), ((5 : Int32), 154), ((6 : Int32), 172), ((7 : Int32), 172), ((8 : Int32), 172), ((9 : Int32), 172), ((10 : Int32), 172)] x2 (fun tt => (d + 1, 0, 0, 203, tt, [.val (.ref 256), .val (.ref s1), .val (.int p2), .val (.int v1)], [], (126, 120, L, [Y, T, H2, H, RA, RB, ST, NS, I0, I1, I2, BO, FI, RG, GU, PU, MA, MN, MS, OT, SC], [r0, r1, r2, r3, w, r5, r6, r7, r8], Lg))) 182 172 1 (fun f => by simp only [a_sw, if_neg zc10, if_neg zc16, if_neg zc22, if_neg zc28, if_neg zc34, if_neg zc40, if_pos zc44]) e (fun n => Eq.refl _)
        by_cases zc45 : v1 = 0
        · have h := itp h zc45
          suffices e : Ev (d + 1, 0, 0, 203, 180, [.val (.ref 256), .val (.ref s1), .val (.int p2), .val (.int v1)], [], (126, 120, L, [Y, T, H2, H, RA, RB, ST, NS, I0, I1, I2, BO, FI, RG, GU, PU, MA, MN, MS, OT, SC], [r0, r1, r2, r3, w, r5, r6, r7, r8], Lg)) o from ev_t (c := v1 = 0) _ _ 2  zc45 e (fun n => Eq.refl _)
          have ze46 := Option.some.inj h
          subst ze46
          exact ev_rete 2 ho (fun n => Eq.refl _)
        · have h := itn h zc45
          suffices e : Ev (d + 1, 0, 0, 203, 176, [.val (.ref 256), .val (.ref s1), .val (.int p2), .val (.int v1)], [], (126, 120, L, [Y, T, H2, H, RA, RB, ST, NS, I0, I1, I2, BO, FI, RG, GU, PU, MA, MN, MS, OT, SC], [r0, r1, r2, r3, w, r5, r6, r7, r8], Lg)) o from ev_f (c := v1 = 0) _ _ 2  zc45 e (fun n => Eq.refl _)
          have ze47 := Option.some.inj h
          subst ze47
          exact ev_rete 3 ho (fun n => Eq.refl _)
      have h := itn h zc44
      by_cases zc48 : x2 = 8
      · have h := itp h zc48
        suffices e : Ev (d + 1, 0, 0, 203, 172, [.val (.ref 256), .val (.ref s1), .val (.int p2), .val (.int v1)], [], (126, 120, L, [Y, T, H2, H, RA, RB, ST, NS, I0, I1, I2, BO, FI, RG, GU, PU, MA, MN, MS, OT, SC], [r0, r1, r2, r3, w, r5, r6, r7, r8], Lg)) o from ev_sw [((1 : Int32), 80), ((2 : Int32), 98), ((3 : Int32), 116), ((4 : Int32), 135), ((5 : Int32), 154), ((6 : Int32), 172), ((7 : Int32), 172), ((8 : Int32), 172), ((9 : Int32), 172), ((10 : Int32), 172)] x2 (fun tt => (d + 1, 0, 0, 203, tt, [.val (.ref 256), .val (.ref s1), .val (.int p2), .val (.int v1)], [], (126, 120, L, [Y, T, H2, H, RA, RB, ST, NS, I0, I1, I2, BO, FI, RG, GU, PU, MA, MN, MS, OT, SC], [r0, r1, r2, r3, w, r5, r6, r7, r8], Lg))) 182 172 1 (fun f => by simp only [a_sw, if_neg zc10, if_neg zc16, if_neg zc22, if_neg zc28, if_neg zc34, if_neg zc40, if_neg zc44, if_pos zc48]) e (fun n => Eq.refl _)
        by_cases zc49 : v1 = 0
        · have h := itp h zc49
          suffices e : Ev (d + 1, 0, 0, 203, 180, [.val (.ref 256), .val (.ref s1), .val (.int p2), .val (.int v1)], [], (126, 120, L, [Y, T, H2, H, RA, RB, ST, NS, I0, I1, I2, BO, FI, RG, GU, PU, MA, MN, MS, OT, SC], [r0, r1, r2, r3, w, r5, r6, r7, r8], Lg)) o from ev_t (c := v1 = 0) _ _ 2  zc49 e (fun n => Eq.refl _)
          have ze50 := Option.some.inj h
          subst ze50
          exact ev_rete 2 ho (fun n => Eq.refl _)
        · have h := itn h zc49
          suffices e : Ev (d + 1, 0, 0, 203, 176, [.val (.ref 256), .val (.ref s1), .val (.int p2), .val (.int v1)], [], (126, 120, L, [Y, T, H2, H, RA, RB, ST, NS, I0, I1, I2, BO, FI, RG, GU, PU, MA, MN, MS, OT, SC], [r0, r1, r2, r3, w, r5, r6, r7, r8], Lg)) o from ev_f (c := v1 = 0) _ _ 2  zc49 e (fun n => Eq.refl _)
          have ze51 := Option.some.inj h
          subst ze51
          exact ev_rete 3 ho (fun n => Eq.refl _)
      have h := itn h zc48
      by_cases zc52 : x2 = 9
      · have h := itp h zc52
        suffices e : Ev (d + 1, 0, 0, 203, 172, [.val (.ref 256), .val (.ref s1), .val (.int p2), .val (.int v1)], [], (126, 120, L, [Y, T, H2, H, RA, RB, ST, NS, I0, I1, I2, BO, FI, RG, GU, PU, MA, MN, MS, OT, SC], [r0, r1, r2, r3, w, r5, r6, r7, r8], Lg)) o from ev_sw [((1 : Int32), 80), ((2 : Int32), 98), ((3 : Int32), 116), ((4 : Int32), 135), ((5 : Int32), 154), ((6 : Int32), 172), ((7 : Int32), 172), ((8 : Int32), 172), ((9 : Int32), 172), ((10 : Int32), 172)] x2 (fun tt => (d + 1, 0, 0, 203, tt, [.val (.ref 256), .val (.ref s1), .val (.int p2), .val (.int v1)], [], (126, 120, L, [Y, T, H2, H, RA, RB, ST, NS, I0, I1, I2, BO, FI, RG, GU, PU, MA, MN, MS, OT, SC], [r0, r1, r2, r3, w, r5, r6, r7, r8], Lg))) 182 172 1 (fun f => by simp only [a_sw, if_neg zc10, if_neg zc16, if_neg zc22, if_neg zc28, if_neg zc34, if_neg zc40, if_neg zc44, if_neg zc48, if_pos zc52]) e (fun n => Eq.refl _)
        by_cases zc53 : v1 = 0
        · have h := itp h zc53
          suffices e : Ev (d + 1, 0, 0, 203, 180, [.val (.ref 256), .val (.ref s1), .val (.int p2), .val (.int v1)], [], (126, 120, L, [Y, T, H2, H, RA, RB, ST, NS, I0, I1, I2, BO, FI, RG, GU, PU, MA, MN, MS, OT, SC], [r0, r1, r2, r3, w, r5, r6, r7, r8], Lg)) o from ev_t (c := v1 = 0) _ _ 2  zc53 e (fun n => Eq.refl _)
          have ze54 := Option.some.inj h
          subst ze54
          exact ev_rete 2 ho (fun n => Eq.refl _)
        · have h := itn h zc53
          suffices e : Ev (d + 1, 0, 0, 203, 176, [.val (.ref 256), .val (.ref s1), .val (.int p2), .val (.int v1)], [], (126, 120, L, [Y, T, H2, H, RA, RB, ST, NS, I0, I1, I2, BO, FI, RG, GU, PU, MA, MN, MS, OT, SC], [r0, r1, r2, r3, w, r5, r6, r7, r8], Lg)) o from ev_f (c := v1 = 0) _ _ 2  zc53 e (fun n => Eq.refl _)
          have ze55 := Option.some.inj h
          subst ze55
          exact ev_rete 3 ho (fun n => Eq.refl _)
      have h := itn h zc52
      by_cases zc56 : x2 = 10
      · have h := itp h zc56
        suffices e : Ev (d + 1, 0, 0, 203, 172, [.val (.ref 256), .val (.ref s1), .val (.int p2), .val (.int v1)], [], (126, 120, L, [Y, T, H2, H, RA, RB, ST, NS, I0, I1, I2, BO, FI, RG, GU, PU, MA, MN, MS, OT, SC], [r0, r1, r2, r3, w, r5, r6, r7, r8], Lg)) o from ev_sw [((1 : Int32), 80), ((2 : Int32), 98), ((3 : Int32), 116), ((4 : Int32), 135), ((5 : Int32), 154), ((6 : Int32), 172), ((7 : Int32), 172), ((8 : Int32), 172), ((9 : Int32), 172), ((10 : Int32), 172)] x2 (fun tt => (d + 1, 0, 0, 203, tt, [.val (.ref 256), .val (.ref s1), .val (.int p2), .val (.int v1)], [], (126, 120, L, [Y, T, H2, H, RA, RB, ST, NS, I0, I1, I2, BO, FI, RG, GU, PU, MA, MN, MS, OT, SC], [r0, r1, r2, r3, w, r5, r6, r7, r8], Lg))) 182 172 1 (fun f => by simp only [a_sw, if_neg zc10, if_neg zc16, if_neg zc22, if_neg zc28, if_neg zc34, if_neg zc40, if_neg zc44, if_neg zc48, if_neg zc52, if_pos zc56]) e (fun n => Eq.refl _)
        by_cases zc57 : v1 = 0
        · have h := itp h zc57
          suffices e : Ev (d + 1, 0, 0, 203, 180, [.val (.ref 256), .val (.ref s1), .val (.int p2), .val (.int v1)], [], (126, 120, L, [Y, T, H2, H, RA, RB, ST, NS, I0, I1, I2, BO, FI, RG, GU, PU, MA, MN, MS, OT, SC], [r0, r1, r2, r3, w, r5, r6, r7, r8], Lg)) o from ev_t (c := v1 = 0) _ _ 2  zc57 e (fun n => Eq.refl _)
          have ze58 := Option.some.inj h
          subst ze58
          exact ev_rete 2 ho (fun n => Eq.refl _)
        · have h := itn h zc57
          suffices e : Ev (d + 1, 0, 0, 203, 176, [.val (.ref 256), .val (.ref s1), .val (.int p2), .val (.int v1)], [], (126, 120, L, [Y, T, H2, H, RA, RB, ST, NS, I0, I1, I2, BO, FI, RG, GU, PU, MA, MN, MS, OT, SC], [r0, r1, r2, r3, w, r5, r6, r7, r8], Lg)) o from ev_f (c := v1 = 0) _ _ 2  zc57 e (fun n => Eq.refl _)
          have ze59 := Option.some.inj h
          subst ze59
          exact ev_rete 3 ho (fun n => Eq.refl _)
      have h := itn h zc56
      suffices e : Ev (d + 1, 0, 0, 203, 182, [.val (.ref 256), .val (.ref s1), .val (.int p2), .val (.int v1)], [], (126, 120, L, [Y, T, H2, H, RA, RB, ST, NS, I0, I1, I2, BO, FI, RG, GU, PU, MA, MN, MS, OT, SC], [r0, r1, r2, r3, w, r5, r6, r7, r8], Lg)) o from ev_sw [((1 : Int32), 80), ((2 : Int32), 98), ((3 : Int32), 116), ((4 : Int32), 135), ((5 : Int32), 154), ((6 : Int32), 172), ((7 : Int32), 172), ((8 : Int32), 172), ((9 : Int32), 172), ((10 : Int32), 172)] x2 (fun tt => (d + 1, 0, 0, 203, tt, [.val (.ref 256), .val (.ref s1), .val (.int p2), .val (.int v1)], [], (126, 120, L, [Y, T, H2, H, RA, RB, ST, NS, I0, I1, I2, BO, FI, RG, GU, PU, MA, MN, MS, OT, SC], [r0, r1, r2, r3, w, r5, r6, r7, r8], Lg))) 182 182 1 (fun f => by simp only [a_sw, if_neg zc10, if_neg zc16, if_neg zc22, if_neg zc28, if_neg zc34, if_neg zc40, if_neg zc44, if_neg zc48, if_neg zc52, if_neg zc56]) e (fun n => Eq.refl _)
      have ze60 := Option.some.inj h
      subst ze60
      exact ev_rete 2 ho (fun n => Eq.refl _)
    by_cases zc61 : p2 < 60
    · have zh5 := itp zh5 zc61
      suffices e : Ev (d + 1, 0, 0, 203, 16, [.val (.ref 256), .val (.ref s1), .val (.int p2), .val a_unk], [], (126, 120, L, [Y, T, H2, H, RA, RB, ST, NS, I0, I1, I2, BO, FI, RG, GU, PU, MA, MN, MS, OT, SC], [r0, r1, r2, r3, w, r5, r6, r7, r8], Lg)) o from ev_t (c := p2 < 60) _ _ 3  zc61 e (fun n => Eq.refl _)
      exact ev_b 1 (zj6 0 (Option.some.inj zh5) ) (fun n => Eq.refl _)
    · have zh5 := itn zh5 zc61
      suffices e : Ev (d + 1, 0, 0, 203, 12, [.val (.ref 256), .val (.ref s1), .val (.int p2), .val a_unk], [], (126, 120, L, [Y, T, H2, H, RA, RB, ST, NS, I0, I1, I2, BO, FI, RG, GU, PU, MA, MN, MS, OT, SC], [r0, r1, r2, r3, w, r5, r6, r7, r8], Lg)) o from ev_f (c := p2 < 60) _ _ 3  zc61 e (fun n => Eq.refl _)
      exact ev_b 2 (zj6 1 (Option.some.inj zh5) ) (fun n => Eq.refl _)
