/-! printed by program (gen/emitm.py): the reference's methods run as their functions say -/
set_option maxRecDepth 1000000 in
set_option maxHeartbeats 4000000 in
theorem R_f_Y_yields_1 (d : Nat) (Y T H H2 RV RU ST NS I0 I1 I2 BO FI RG GU PU MA MN MS OT SC : Nat → Nat → Int32) (w r5 : Nat) (L : Nat) (Lg : Int64) (p1 : Int32) (p2 : Int32) {r : Nat × Int32 × (Nat → Nat → Int32) × (Nat → Nat → Int32) × (Nat → Nat → Int32) × Nat} (h : f_Y_yields Y H RU NS BO 192 r5 p1 p2 = some r) : Ev (d + 3, 3, 24, 322, 0, [.val (.ref 64), .val (.int p1), .val (.int p2), .val a_unk], [], (126, 120, L, [Y, T, H, H2, RV, RU, ST, NS, I0, I1, I2, BO, FI, RG, GU, PU, MA, MN, MS, OT, SC], [192, 256, 384, 320, w, r5, 576, 640, 704], Lg)) ((r.1, a_ov r.1 (.int r.2.1), (126, 120, L, [r.2.2.1, T, H, H2, RV, r.2.2.2.1, ST, NS, I0, I1, I2, r.2.2.2.2.1, FI, RG, GU, PU, MA, MN, MS, OT, SC], [192, 256, 384, 320, w, r.2.2.2.2.2, 576, 640, 704], Lg)) : AOut) := by
  suffices key : ∀ o : AOut, ((r.1, a_ov r.1 (.int r.2.1), (126, 120, L, [r.2.2.1, T, H, H2, RV, r.2.2.2.1, ST, NS, I0, I1, I2, r.2.2.2.2.1, FI, RG, GU, PU, MA, MN, MS, OT, SC], [192, 256, 384, 320, w, r.2.2.2.2.2, 576, 640, 704], Lg)) : AOut) = o → Ev (d + 3, 3, 24, 322, 0, [.val (.ref 64), .val (.int p1), .val (.int p2), .val a_unk], [], (126, 120, L, [Y, T, H, H2, RV, RU, ST, NS, I0, I1, I2, BO, FI, RG, GU, PU, MA, MN, MS, OT, SC], [192, 256, 384, 320, w, r5, 576, 640, 704], Lg)) o from key _ rfl
  intro o ho
  obtain ⟨⟨q1, Y_2⟩, zh1, h⟩ := bnd h
  have zh1 : f_Y_needMeeting Y H p1 = some (q1, Y_2) := zh1
  have ze2 := R_f_Y_needMeeting_1 (d + 1) Y T H H2 RV RU ST NS I0 I1 I2 BO FI RG GU PU MA MN MS OT SC w r5 L Lg p1 zh1
  cases q1 with
  | zero =>
    have h := itp h rfl
    suffices e : Ev (d + 3, 2, 16, 322, 5, [.val (.ref 64), .val (.int p1), .val (.int p2), .val a_unk], [], (126, 120, L, [Y_2, T, H, H2, RV, RU, ST, NS, I0, I1, I2, BO, FI, RG, GU, PU, MA, MN, MS, OT, SC], [192, 256, 384, 320, w, r5, 576, 640, 704], Lg)) o from ev_call (fun v μ => (d + 3, 2, 16, 322, 5, [.val (.ref 64), .val (.int p1), .val (.int p2), .val a_unk], v.toList ++ [], μ)) 3 ze2 e (fun n => Eq.refl _)
    obtain ⟨⟨q3, Y_4⟩, zh3, h⟩ := bnd h
    have zh3 : f_Y_needMeeting Y_2 H p2 = some (q3, Y_4) := zh3
    have ze4 := R_f_Y_needMeeting_1 (d + 1) Y_2 T H H2 RV RU ST NS I0 I1 I2 BO FI RG GU PU MA MN MS OT SC w r5 L Lg p2 zh3
    cases q3 with
    | zero =>
      have h := itp h rfl
      suffices e : Ev (d + 3, 1, 8, 322, 10, [.val (.ref 64), .val (.int p1), .val (.int p2), .val a_unk], [], (126, 120, L, [Y_4, T, H, H2, RV, RU, ST, NS, I0, I1, I2, BO, FI, RG, GU, PU, MA, MN, MS, OT, SC], [192, 256, 384, 320, w, r5, 576, 640, 704], Lg)) o from ev_call (fun v μ => (d + 3, 1, 8, 322, 10, [.val (.ref 64), .val (.int p1), .val (.int p2), .val a_unk], v.toList ++ [], μ)) 3 ze4 e (fun n => Eq.refl _)
      obtain ⟨zt5, zh6, h⟩ := bnd h
      have zj7 : ∀ (v6 : Int32), v6 = zt5 → Ev (d + 3, 1, 8, 322, 34, [.val (.ref 64), .val (.int p1), .val (.int p2), .val a_unk], [.int v6, .ref 64], (126, 120, L, [Y_4, T, H, H2, RV, RU, ST, NS, I0, I1, I2, BO, FI, RG, GU, PU, MA, MN, MS, OT, SC], [192, 256, 384, 320, w, r5, 576, 640, 704], Lg)) o := by
        intro v6 ze8
        subst ze8
        obtain ⟨⟨q7, Y_8⟩, zh9, h⟩ := bnd h
        have zh9 : f_Y_refuseUnless Y_4 v6 = some (q7, Y_8) := zh9
        have ze10 := R_f_Y_refuseUnless_1 (d + 2) Y_4 T H H2 RV RU ST NS I0 I1 I2 BO FI RG GU PU MA MN MS OT SC w r5 L Lg v6 zh9
        cases q7 with
        | zero =>
          have h := itp h rfl
          suffices e : Ev (d + 3, 0, 0, 322, 37, [.val (.ref 64), .val (.int p1), .val (.int p2), .val a_unk], [], (126, 120, L, [Y_8, T, H, H2, RV, RU, ST, NS, I0, I1, I2, BO, FI, RG, GU, PU, MA, MN, MS, OT, SC], [192, 256, 384, 320, w, r5, 576, 640, 704], Lg)) o from ev_call (fun v μ => (d + 3, 0, 0, 322, 37, [.val (.ref 64), .val (.int p1), .val (.int p2), .val a_unk], v.toList ++ [], μ)) 1 ze10 e (fun n => Eq.refl _)
          obtain ⟨BO_10, zh11, h⟩ := bnd h
          have zh11 : f_Y_lookNow H NS BO = some BO_10 := zh11
          have ze12 := R_f_Y_lookNow_1 (d + 0) Y_8 T H H2 RV RU ST NS I0 I1 I2 BO FI RG GU PU MA MN MS OT SC w r5 L Lg zh11
          suffices e : Ev (d + 3, 0, 0, 322, 41, [.val (.ref 64), .val (.int p1), .val (.int p2), .val a_unk], [.ref 768], (126, 120, L, [Y_8, T, H, H2, RV, RU, ST, NS, I0, I1, I2, BO_10, FI, RG, GU, PU, MA, MN, MS, OT, SC], [192, 256, 384, 320, w, 192, 576, 640, 704], Lg)) o from ev_call (fun v μ => (d + 3, 0, 0, 322, 41, [.val (.ref 64), .val (.int p1), .val (.int p2), .val a_unk], v.toList ++ [], μ)) 2 ze12 e (fun n => Eq.refl _)
          suffices e : Ev (d + 3, 0, 0, 322, 46, [.val (.ref 64), .val (.int p1), .val (.int p2), .val (.ref 768)], [.ref 384], (126, 120, L, [Y_8, T, H, H2, RV, RU, ST, NS, I0, I1, I2, BO_10, FI, RG, GU, PU, MA, MN, MS, OT, SC], [192, 256, 384, 320, w, 192, 576, 640, 704], Lg)) o from ev_b 3 e (fun n => Eq.refl _)
          obtain ⟨x11, zh13, h⟩ := bnd h
          have zh13 : rdx (BO_10 1) 10 p1 = some x11 := zh13
          suffices e : Ev (d + 3, 0, 0, 322, 52, [.val (.ref 64), .val (.int p1), .val (.int p2), .val (.ref 768)], [.int x11, .ref 384], (126, 120, L, [Y_8, T, H, H2, RV, RU, ST, NS, I0, I1, I2, BO_10, FI, RG, GU, PU, MA, MN, MS, OT, SC], [192, 256, 384, 320, w, 192, 576, 640, 704], Lg)) o from ev_opt (fun x11 => (d + 3, 0, 0, 322, 52, [.val (.ref 64), .val (.int p1), .val (.int p2), .val (.ref 768)], [.int x11, .ref 384], (126, 120, L, [Y_8, T, H, H2, RV, RU, ST, NS, I0, I1, I2, BO_10, FI, RG, GU, PU, MA, MN, MS, OT, SC], [192, 256, 384, 320, w, 192, 576, 640, 704], Lg))) 4 zh13 e (fun n => Eq.refl _)
          obtain ⟨RU_12, zh14, h⟩ := bnd h
          have zh14 : f_Rule_setWanted RU x11 0 = some RU_12 := zh14
          have ze15 := R_f_Rule_setWanted_1 (d + 1) Y_8 T H H2 RV RU ST NS I0 I1 I2 BO_10 FI RG GU PU MA MN MS OT SC 192 256 384 320 w 192 576 640 704 L Lg x11 0 zh14
          suffices e : Ev (d + 3, 0, 0, 322, 56, [.val (.ref 64), .val (.int p1), .val (.int p2), .val (.ref 768)], [], (126, 120, L, [Y_8, T, H, H2, RV, RU_12, ST, NS, I0, I1, I2, BO_10, FI, RG, GU, PU, MA, MN, MS, OT, SC], [192, 256, 384, 320, w, 192, 576, 640, 704], Lg)) o from ev_call (fun v μ => (d + 3, 0, 0, 322, 56, [.val (.ref 64), .val (.int p1), .val (.int p2), .val (.ref 768)], v.toList ++ [], μ)) 2 ze15 e (fun n => Eq.refl _)
          suffices e : Ev (d + 3, 0, 0, 322, 60, [.val (.ref 64), .val (.int p1), .val (.int p2), .val (.ref 768)], [.ref 384], (126, 120, L, [Y_8, T, H, H2, RV, RU_12, ST, NS, I0, I1, I2, BO_10, FI, RG, GU, PU, MA, MN, MS, OT, SC], [192, 256, 384, 320, w, 192, 576, 640, 704], Lg)) o from ev_b 2 e (fun n => Eq.refl _)
          obtain ⟨⟨x13, RU_14⟩, zh16, h⟩ := bnd h
          have zh16 : f_Rule_isSo H RU_12 BO_10 p1 p2 = some (x13, RU_14) := zh16
          have ze17 := R_f_Rule_isSo_1 (d + 0) Y_8 T H H2 RV RU_12 ST NS I0 I1 I2 BO_10 FI RG GU PU MA MN MS OT SC 192 256 384 320 w 576 640 704 L Lg p1 p2 zh16
          suffices e : Ev (d + 3, 0, 0, 322, 66, [.val (.ref 64), .val (.int p1), .val (.int p2), .val (.ref 768)], [.int x13], (126, 120, L, [Y_8, T, H, H2, RV, RU_14, ST, NS, I0, I1, I2, BO_10, FI, RG, GU, PU, MA, MN, MS, OT, SC], [192, 256, 384, 320, w, 192, 576, 640, 704], Lg)) o from ev_call (fun v μ => (d + 3, 0, 0, 322, 66, [.val (.ref 64), .val (.int p1), .val (.int p2), .val (.ref 768)], v.toList ++ [], μ)) 4 ze17 e (fun n => Eq.refl _)
          have ze18 := Option.some.inj h
          subst ze18
          exact ev_rete 1 ho (fun n => Eq.refl _)
        | succ q7 =>
          have h := itn h (Nat.succ_ne_zero q7)
          have ze19 := Option.some.inj h
          subst ze19
          subst ho
          exact ev_thr (fun v μ => (d + 3, 0, 0, 322, 37, [.val (.ref 64), .val (.int p1), .val (.int p2), .val a_unk], v.toList ++ [], μ)) 1 ze10 (fun n => Eq.refl _) (fun n => rfl)
      obtain ⟨zt20, zh21, zh6⟩ := bnd zh6
      have zj22 : zt20 = .inl () → Ev (d + 3, 1, 8, 322, 33, [.val (.ref 64), .val (.int p1), .val (.int p2), .val a_unk], [.ref 64], (126, 120, L, [Y_4, T, H, H2, RV, RU, ST, NS, I0, I1, I2, BO, FI, RG, GU, PU, MA, MN, MS, OT, SC], [192, 256, 384, 320, w, r5, 576, 640, 704], Lg)) o := by
        intro ze23
        have zh6 := sum_l zh6 ze23
        exact ev_b 1 (zj7 0 (Option.some.inj zh6) ) (fun n => Eq.refl _)
      by_cases zc24 : p1 = p2
      · have zh21 := itp zh21 zc24
        suffices e : Ev (d + 3, 1, 8, 322, 33, [.val (.ref 64), .val (.int p1), .val (.int p2), .val a_unk], [.ref 64], (126, 120, L, [Y_4, T, H, H2, RV, RU, ST, NS, I0, I1, I2, BO, FI, RG, GU, PU, MA, MN, MS, OT, SC], [192, 256, 384, 320, w, r5, 576, 640, 704], Lg)) o from ev_t (c := p1 = p2) _ _ 4  zc24 e (fun n => Eq.refl _)
        exact ev_b 0 (zj22  (Option.some.inj zh21).symm ) (fun n => Eq.refl _)
      · have zh21 := itn zh21 zc24
        suffices e : Ev (d + 3, 1, 8, 322, 16, [.val (.ref 64), .val (.int p1), .val (.int p2), .val a_unk], [.ref 64], (126, 120, L, [Y_4, T, H, H2, RV, RU, ST, NS, I0, I1, I2, BO, FI, RG, GU, PU, MA, MN, MS, OT, SC], [192, 256, 384, 320, w, r5, 576, 640, 704], Lg)) o from ev_f (c := p1 = p2) _ _ 4  zc24 e (fun n => Eq.refl _)
        obtain ⟨x5, zh25, zh21⟩ := bnd zh21
        have zh25 : rdx (NS 1) 10 p1 = some x5 := zh25
        suffices e : Ev (d + 3, 1, 8, 322, 25, [.val (.ref 64), .val (.int p1), .val (.int p2), .val a_unk], [.int x5, .ref 64], (126, 120, L, [Y_4, T, H, H2, RV, RU, ST, NS, I0, I1, I2, BO, FI, RG, GU, PU, MA, MN, MS, OT, SC], [192, 256, 384, 320, w, r5, 576, 640, 704], Lg)) o from ev_opt (fun x5 => (d + 3, 1, 8, 322, 25, [.val (.ref 64), .val (.int p1), .val (.int p2), .val a_unk], [.int x5, .ref 64], (126, 120, L, [Y_4, T, H, H2, RV, RU, ST, NS, I0, I1, I2, BO, FI, RG, GU, PU, MA, MN, MS, OT, SC], [192, 256, 384, 320, w, r5, 576, 640, 704], Lg))) 5 zh25 e (fun n => Eq.refl _)
        by_cases zc26 : x5 = (-1)
        · have zh21 := itp zh21 zc26
          suffices e : Ev (d + 3, 1, 8, 322, 33, [.val (.ref 64), .val (.int p1), .val (.int p2), .val a_unk], [.ref 64], (126, 120, L, [Y_4, T, H, H2, RV, RU, ST, NS, I0, I1, I2, BO, FI, RG, GU, PU, MA, MN, MS, OT, SC], [192, 256, 384, 320, w, r5, 576, 640, 704], Lg)) o from ev_t (c := x5 = (-1)) _ _ 2  zc26 e (fun n => Eq.refl _)
          exact ev_b 0 (zj22  (Option.some.inj zh21).symm ) (fun n => Eq.refl _)
        · have zh21 := itn zh21 zc26
          suffices e : Ev (d + 3, 1, 8, 322, 29, [.val (.ref 64), .val (.int p1), .val (.int p2), .val a_unk], [.ref 64], (126, 120, L, [Y_4, T, H, H2, RV, RU, ST, NS, I0, I1, I2, BO, FI, RG, GU, PU, MA, MN, MS, OT, SC], [192, 256, 384, 320, w, r5, 576, 640, 704], Lg)) o from ev_f (c := x5 = (-1)) _ _ 2  zc26 e (fun n => Eq.refl _)
          have zh27 := sum_r zh6 (Option.some.inj zh21).symm
          exact ev_b 2 (zj7 1 (Option.some.inj zh27) ) (fun n => Eq.refl _)
    | succ q3 =>
      have h := itn h (Nat.succ_ne_zero q3)
      have ze28 := Option.some.inj h
      subst ze28
      subst ho
      exact ev_thr (fun v μ => (d + 3, 1, 8, 322, 10, [.val (.ref 64), .val (.int p1), .val (.int p2), .val a_unk], v.toList ++ [], μ)) 3 ze4 (fun n => Eq.refl _) (fun n => rfl)
  | succ q1 =>
    have h := itn h (Nat.succ_ne_zero q1)
    have ze29 := Option.some.inj h
    subst ze29
    subst ho
    exact ev_thr (fun v μ => (d + 3, 2, 16, 322, 5, [.val (.ref 64), .val (.int p1), .val (.int p2), .val a_unk], v.toList ++ [], μ)) 3 ze2 (fun n => Eq.refl _) (fun n => rfl)
set_option maxRecDepth 1000000 in
set_option maxHeartbeats 4000000 in
theorem R_f_Rule_setMeeting_2 (d : Nat) (Y T H2 H RU RV ST NS I0 I1 I2 BO FI RG GU PU MA MN MS OT SC : Nat → Nat → Int32) (r0 r1 r2 r3 w r6 r7 r8 : Nat) (L : Nat) (Lg : Int64) (p1 : Int32) (p3 : Int32) {r : (Nat → Nat → Int32)} (h : f_Rule_setMeeting H RU BO p1 p3 = some r) : Ev (d + 1, 0, 0, 252, 0, [.val (.ref 320), .val (.int p1), .val (.ref 768), .val (.int p3)], [], (126, 120, L, [Y, T, H2, H, RU, RV, ST, NS, I0, I1, I2, BO, FI, RG, GU, PU, MA, MN, MS, OT, SC], [r0, r1, r2, r3, w, 256, r6, r7, r8], Lg)) ((0, none, (126, 120, L, [Y, T, H2, H, r, RV, ST, NS, I0, I1, I2, BO, FI, RG, GU, PU, MA, MN, MS, OT, SC], [r0, r1, r2, r3, w, 256, r6, r7, r8], Lg)) : AOut) := by
  suffices key : ∀ o : AOut, ((0, none, (126, 120, L, [Y, T, H2, H, r, RV, ST, NS, I0, I1, I2, BO, FI, RG, GU, PU, MA, MN, MS, OT, SC], [r0, r1, r2, r3, w, 256, r6, r7, r8], Lg)) : AOut) = o → Ev (d + 1, 0, 0, 252, 0, [.val (.ref 320), .val (.int p1), .val (.ref 768), .val (.int p3)], [], (126, 120, L, [Y, T, H2, H, RU, RV, ST, NS, I0, I1, I2, BO, FI, RG, GU, PU, MA, MN, MS, OT, SC], [r0, r1, r2, r3, w, 256, r6, r7, r8], Lg)) o from key _ rfl
  intro o ho
  by_cases zc1 : 11 ≤ (p1 + 3)
  · have h := itp h zc1
    suffices e : Ev (d + 1, 0, 0, 252, 66, [.val (.ref 320), .val (.int p1), .val (.ref 768), .val (.int p3)], [], (126, 120, L, [Y, T, H2, H, RU, RV, ST, NS, I0, I1, I2, BO, FI, RG, GU, PU, MA, MN, MS, OT, SC], [r0, r1, r2, r3, w, 256, r6, r7, r8], Lg)) o from ev_t (c := 11 ≤ (p1 + 3)) _ _ 5  zc1 e (fun n => Eq.refl _)
    have ze2 := Option.some.inj h
    subst ze2
    exact ev_rete 1 ho (fun n => Eq.refl _)
  · have h := itn h zc1
    suffices e : Ev (d + 1, 0, 0, 252, 8, [.val (.ref 320), .val (.int p1), .val (.ref 768), .val (.int p3)], [], (126, 120, L, [Y, T, H2, H, RU, RV, ST, NS, I0, I1, I2, BO, FI, RG, GU, PU, MA, MN, MS, OT, SC], [r0, r1, r2, r3, w, 256, r6, r7, r8], Lg)) o from ev_f (c := 11 ≤ (p1 + 3)) _ _ 5  zc1 e (fun n => Eq.refl _)
    suffices e : Ev (d + 1, 0, 0, 252, 17, [.val (.ref 320), .val (.int p1), .val (.ref 768), .val (.int p3)], [.ref 256, .int p1, .ref 323], (126, 120, L, [Y, T, H2, H, RU, RV, ST, NS, I0, I1, I2, BO, FI, RG, GU, PU, MA, MN, MS, OT, SC], [r0, r1, r2, r3, w, 256, r6, r7, r8], Lg)) o from ev_b 5 e (fun n => Eq.refl _)
    obtain ⟨x1, zh3, h⟩ := bnd h
    have zh3 : rdx (H 7) 10 p3 = some x1 := zh3
    suffices e : Ev (d + 1, 0, 0, 252, 22, [.val (.ref 320), .val (.int p1), .val (.ref 768), .val (.int p3)], [.int x1, .int p1, .ref 323], (126, 120, L, [Y, T, H2, H, RU, RV, ST, NS, I0, I1, I2, BO, FI, RG, GU, PU, MA, MN, MS, OT, SC], [r0, r1, r2, r3, w, 256, r6, r7, r8], Lg)) o from ev_opt (fun x1 => (d + 1, 0, 0, 252, 22, [.val (.ref 320), .val (.int p1), .val (.ref 768), .val (.int p3)], [.int x1, .int p1, .ref 323], (126, 120, L, [Y, T, H2, H, RU, RV, ST, NS, I0, I1, I2, BO, FI, RG, GU, PU, MA, MN, MS, OT, SC], [r0, r1, r2, r3, w, 256, r6, r7, r8], Lg))) 3 zh3 e (fun n => Eq.refl _)
    obtain ⟨j2, zh4, h⟩ := bnd h
    have zh4 : ixx 11 p1 = some j2 := zh4
    suffices e : Ev (d + 1, 0, 0, 252, 23, [.val (.ref 320), .val (.int p1), .val (.ref 768), .val (.int p3)], [], (126, 120, L, [Y, T, H2, H, (u2 RU 3 j2 x1), RV, ST, NS, I0, I1, I2, BO, FI, RG, GU, PU, MA, MN, MS, OT, SC], [r0, r1, r2, r3, w, 256, r6, r7, r8], Lg)) o from ev_opt (fun j2 => (d + 1, 0, 0, 252, 23, [.val (.ref 320), .val (.int p1), .val (.ref 768), .val (.int p3)], [], (126, 120, L, [Y, T, H2, H, (u2 RU 3 j2 x1), RV, ST, NS, I0, I1, I2, BO, FI, RG, GU, PU, MA, MN, MS, OT, SC], [r0, r1, r2, r3, w, 256, r6, r7, r8], Lg))) 1 zh4 e (fun n => Eq.refl _)
    obtain ⟨x3, zh5, h⟩ := bnd h
    have zh5 : rdx (BO 2) 10 p3 = some x3 := zh5
    suffices e : Ev (d + 1, 0, 0, 252, 36, [.val (.ref 320), .val (.int p1), .val (.ref 768), .val (.int p3)], [.int x3, .int (p1 + 1), .ref 323], (126, 120, L, [Y, T, H2, H, (u2 RU 3 j2 x1), RV, ST, NS, I0, I1, I2, BO, FI, RG, GU, PU, MA, MN, MS, OT, SC], [r0, r1, r2, r3, w, 256, r6, r7, r8], Lg)) o from ev_opt (fun x3 => (d + 1, 0, 0, 252, 36, [.val (.ref 320), .val (.int p1), .val (.ref 768), .val (.int p3)], [.int x3, .int (p1 + 1), .ref 323], (126, 120, L, [Y, T, H2, H, (u2 RU 3 j2 x1), RV, ST, NS, I0, I1, I2, BO, FI, RG, GU, PU, MA, MN, MS, OT, SC], [r0, r1, r2, r3, w, 256, r6, r7, r8], Lg))) 9 zh5 e (fun n => Eq.refl _)
    obtain ⟨j4, zh6, h⟩ := bnd h
    have zh6 : ixx 11 (p1 + 1) = some j4 := zh6
    suffices e : Ev (d + 1, 0, 0, 252, 37, [.val (.ref 320), .val (.int p1), .val (.ref 768), .val (.int p3)], [], (126, 120, L, [Y, T, H2, H, (u2 (u2 RU 3 j2 x1) 3 j4 x3), RV, ST, NS, I0, I1, I2, BO, FI, RG, GU, PU, MA, MN, MS, OT, SC], [r0, r1, r2, r3, w, 256, r6, r7, r8], Lg)) o from ev_opt (fun j4 => (d + 1, 0, 0, 252, 37, [.val (.ref 320), .val (.int p1), .val (.ref 768), .val (.int p3)], [], (126, 120, L, [Y, T, H2, H, (u2 (u2 RU 3 j2 x1) 3 j4 x3), RV, ST, NS, I0, I1, I2, BO, FI, RG, GU, PU, MA, MN, MS, OT, SC], [r0, r1, r2, r3, w, 256, r6, r7, r8], Lg))) 1 zh6 e (fun n => Eq.refl _)
    suffices e : Ev (d + 1, 0, 0, 252, 48, [.val (.ref 320), .val (.int p1), .val (.ref 768), .val (.int p3)], [.ref 256, .int (p1 + 2), .ref 323], (126, 120, L, [Y, T, H2, H, (u2 (u2 RU 3 j2 x1) 3 j4 x3), RV, ST, NS, I0, I1, I2, BO, FI, RG, GU, PU, MA, MN, MS, OT, SC], [r0, r1, r2, r3, w, 256, r6, r7, r8], Lg)) o from ev_b 7 e (fun n => Eq.refl _)
    obtain ⟨x5, zh7, h⟩ := bnd h
    have zh7 : rdx (H 8) 10 p3 = some x5 := zh7
    suffices e : Ev (d + 1, 0, 0, 252, 53, [.val (.ref 320), .val (.int p1), .val (.ref 768), .val (.int p3)], [.int x5, .int (p1 + 2), .ref 323], (126, 120, L, [Y, T, H2, H, (u2 (u2 RU 3 j2 x1) 3 j4 x3), RV, ST, NS, I0, I1, I2, BO, FI, RG, GU, PU, MA, MN, MS, OT, SC], [r0, r1, r2, r3, w, 256, r6, r7, r8], Lg)) o from ev_opt (fun x5 => (d + 1, 0, 0, 252, 53, [.val (.ref 320), .val (.int p1), .val (.ref 768), .val (.int p3)], [.int x5, .int (p1 + 2), .ref 323], (126, 120, L, [Y, T, H2, H, (u2 (u2 RU 3 j2 x1) 3 j4 x3), RV, ST, NS, I0, I1, I2, BO, FI, RG, GU, PU, MA, MN, MS, OT, SC], [r0, r1, r2, r3, w, 256, r6, r7, r8], Lg))) 3 zh7 e (fun n => Eq.refl _)
    obtain ⟨x6, zh8, h⟩ := bnd h
    have zh8 : f_Integer_bitCount x5 = some x6 := zh8
    have ze9 := R_f_Integer_bitCount_0 (d + 0) Y T H2 H (u2 (u2 RU 3 j2 x1) 3 j4 x3) RV ST NS I0 I1 I2 BO FI RG GU PU MA MN MS OT SC r0 r1 r2 r3 w 256 r6 r7 r8 L Lg x5 zh8
    suffices e : Ev (d + 1, 0, 0, 252, 56, [.val (.ref 320), .val (.int p1), .val (.ref 768), .val (.int p3)], [.int x6, .int (p1 + 2), .ref 323], (126, 120, L, [Y, T, H2, H, (u2 (u2 RU 3 j2 x1) 3 j4 x3), RV, ST, NS, I0, I1, I2, BO, FI, RG, GU, PU, MA, MN, MS, OT, SC], [r0, r1, r2, r3, w, 256, r6, r7, r8], Lg)) o from ev_call (fun v μ => (d + 1, 0, 0, 252, 56, [.val (.ref 320), .val (.int p1), .val (.ref 768), .val (.int p3)], v.toList ++ [.int (p1 + 2), .ref 323], μ)) 1 ze9 e (fun n => Eq.refl _)
    obtain ⟨j7, zh10, h⟩ := bnd h
    have zh10 : ixx 11 (p1 + 2) = some j7 := zh10
    suffices e : Ev (d + 1, 0, 0, 252, 57, [.val (.ref 320), .val (.int p1), .val (.ref 768), .val (.int p3)], [], (126, 120, L, [Y, T, H2, H, (u2 (u2 (u2 RU 3 j2 x1) 3 j4 x3) 3 j7 x6), RV, ST, NS, I0, I1, I2, BO, FI, RG, GU, PU, MA, MN, MS, OT, SC], [r0, r1, r2, r3, w, 256, r6, r7, r8], Lg)) o from ev_opt (fun j7 => (d + 1, 0, 0, 252, 57, [.val (.ref 320), .val (.int p1), .val (.ref 768), .val (.int p3)], [], (126, 120, L, [Y, T, H2, H, (u2 (u2 (u2 RU 3 j2 x1) 3 j4 x3) 3 j7 x6), RV, ST, NS, I0, I1, I2, BO, FI, RG, GU, PU, MA, MN, MS, OT, SC], [r0, r1, r2, r3, w, 256, r6, r7, r8], Lg))) 1 zh10 e (fun n => Eq.refl _)
    obtain ⟨j8, zh11, h⟩ := bnd h
    have zh11 : ixx 11 (p1 + 3) = some j8 := zh11
    suffices e : Ev (d + 1, 0, 0, 252, 66, [.val (.ref 320), .val (.int p1), .val (.ref 768), .val (.int p3)], [], (126, 120, L, [Y, T, H2, H, (u2 (u2 (u2 (u2 RU 3 j2 x1) 3 j4 x3) 3 j7 x6) 3 j8 p3), RV, ST, NS, I0, I1, I2, BO, FI, RG, GU, PU, MA, MN, MS, OT, SC], [r0, r1, r2, r3, w, 256, r6, r7, r8], Lg)) o from ev_opt (fun j8 => (d + 1, 0, 0, 252, 66, [.val (.ref 320), .val (.int p1), .val (.ref 768), .val (.int p3)], [], (126, 120, L, [Y, T, H2, H, (u2 (u2 (u2 (u2 RU 3 j2 x1) 3 j4 x3) 3 j7 x6) 3 j8 p3), RV, ST, NS, I0, I1, I2, BO, FI, RG, GU, PU, MA, MN, MS, OT, SC], [r0, r1, r2, r3, w, 256, r6, r7, r8], Lg))) 7 zh11 e (fun n => Eq.refl _)
    have ze12 := Option.some.inj h
    subst ze12
    exact ev_rete 1 ho (fun n => Eq.refl _)
set_option maxRecDepth 1000000 in
set_option maxHeartbeats 4000000 in
theorem R_f_Rule_isSo_2 (d : Nat) (Y T H2 H RU RV ST NS I0 I1 I2 BO FI RG GU PU MA MN MS OT SC : Nat → Nat → Int32) (r0 r1 r2 r3 w r6 r7 r8 : Nat) (L : Nat) (Lg : Int64) (p2 : Int32) (p3 : Int32) {r : Int32 × (Nat → Nat → Int32)} (h : f_Rule_isSo H RU BO p2 p3 = some r) : Ev (d + 2, 0, 0, 253, 0, [.val (.ref 320), .val (.ref 768), .val (.int p2), .val (.int p3), .val a_unk, .val a_unk, .val a_unk], [], (126, 120, L, [Y, T, H2, H, RU, RV, ST, NS, I0, I1, I2, BO, FI, RG, GU, PU, MA, MN, MS, OT, SC], [r0, r1, r2, r3, w, 256, r6, r7, r8], Lg)) ((0, some (.int r.1), (126, 120, L, [Y, T, H2, H, r.2, RV, ST, NS, I0, I1, I2, BO, FI, RG, GU, PU, MA, MN, MS, OT, SC], [r0, r1, r2, r3, w, 256, r6, r7, r8], Lg)) : AOut) := by
  suffices key : ∀ o : AOut, ((0, some (.int r.1), (126, 120, L, [Y, T, H2, H, r.2, RV, ST, NS, I0, I1, I2, BO, FI, RG, GU, PU, MA, MN, MS, OT, SC], [r0, r1, r2, r3, w, 256, r6, r7, r8], Lg)) : AOut) = o → Ev (d + 2, 0, 0, 253, 0, [.val (.ref 320), .val (.ref 768), .val (.int p2), .val (.int p3), .val a_unk, .val a_unk, .val a_unk], [], (126, 120, L, [Y, T, H2, H, RU, RV, ST, NS, I0, I1, I2, BO, FI, RG, GU, PU, MA, MN, MS, OT, SC], [r0, r1, r2, r3, w, 256, r6, r7, r8], Lg)) o from key _ rfl
  intro o ho
  by_cases zc1 : (RU 0 1) ≠ 0
  · have h := itp h zc1
    suffices e : Ev (d + 2, 0, 0, 253, 9, [.val (.ref 320), .val (.ref 768), .val (.int p2), .val (.int p3), .val a_unk, .val a_unk, .val a_unk], [], (126, 120, L, [Y, T, H2, H, RU, RV, ST, NS, I0, I1, I2, BO, FI, RG, GU, PU, MA, MN, MS, OT, SC], [r0, r1, r2, r3, w, 256, r6, r7, r8], Lg)) o from ev_t (c := (RU 0 1) ≠ 0) _ _ 3  zc1 e (fun n => Eq.refl _)
    obtain ⟨RU_1, zh2, h⟩ := bnd h
    have zh2 : f_Rule_setMeeting H RU BO 0 p2 = some RU_1 := zh2
    have ze3 := R_f_Rule_setMeeting_2 (d + 0) Y T H2 H RU RV ST NS I0 I1 I2 BO FI RG GU PU MA MN MS OT SC r0 r1 r2 r3 w r6 r7 r8 L Lg 0 p2 zh2
    suffices e : Ev (d + 2, 0, 0, 253, 16, [.val (.ref 320), .val (.ref 768), .val (.int p2), .val (.int p3), .val a_unk, .val a_unk, .val a_unk], [], (126, 120, L, [Y, T, H2, H, RU_1, RV, ST, NS, I0, I1, I2, BO, FI, RG, GU, PU, MA, MN, MS, OT, SC], [r0, r1, r2, r3, w, 256, r6, r7, r8], Lg)) o from ev_call (fun v μ => (d + 2, 0, 0, 253, 16, [.val (.ref 320), .val (.ref 768), .val (.int p2), .val (.int p3), .val a_unk, .val a_unk, .val a_unk], v.toList ++ [], μ)) 5 ze3 e (fun n => Eq.refl _)
    obtain ⟨RU_2, zh4, h⟩ := bnd h
    have zh4 : f_Rule_setMeeting H RU_1 BO 4 p3 = some RU_2 := zh4
    have ze5 := R_f_Rule_setMeeting_2 (d + 0) Y T H2 H RU_1 RV ST NS I0 I1 I2 BO FI RG GU PU MA MN MS OT SC r0 r1 r2 r3 w r6 r7 r8 L Lg 4 p3 zh4
    suffices e : Ev (d + 2, 0, 0, 253, 23, [.val (.ref 320), .val (.ref 768), .val (.int p2), .val (.int p3), .val a_unk, .val a_unk, .val a_unk], [], (126, 120, L, [Y, T, H2, H, RU_2, RV, ST, NS, I0, I1, I2, BO, FI, RG, GU, PU, MA, MN, MS, OT, SC], [r0, r1, r2, r3, w, 256, r6, r7, r8], Lg)) o from ev_call (fun v μ => (d + 2, 0, 0, 253, 23, [.val (.ref 320), .val (.ref 768), .val (.int p2), .val (.int p3), .val a_unk, .val a_unk, .val a_unk], v.toList ++ [], μ)) 5 ze5 e (fun n => Eq.refl _)
    obtain ⟨zb6, zh7, h⟩ := bnd h
    suffices e : Ev (d + 2, 0, 0, 253, 29, [.val (.ref 320), .val (.ref 768), .val (.int p2), .val (.int p3), .val (.int 0), .val (.int 0), .val a_unk], [], (126, 120, L, [Y, T, H2, H, RU_2, RV, ST, NS, I0, I1, I2, BO, FI, RG, GU, PU, MA, MN, MS, OT, SC], [r0, r1, r2, r3, w, 256, r6, r7, r8], Lg)) o from ev_b 4 e (fun n => Eq.refl _)
    refine ev_loop (δ := Value) (fun a j => (d + 2, 0, 0, 253, 29, [.val (.ref 320), .val (.ref 768), .val (.int p2), .val (.int p3), .val (.int a.1), .val (.int a.2.1), .val j], [], (126, 120, L, [Y, T, H2, H, a.2.2, RV, ST, NS, I0, I1, I2, BO, FI, RG, GU, PU, MA, MN, MS, OT, SC], [r0, r1, r2, r3, w, 256, r6, r7, r8], Lg))) (fun b => ∀ s17 : Value, ∀ s18 : Value, Ev (d + 2, 0, 0, 253, 164, [.val (.ref 320), .val (.ref 768), .val (.int p2), .val (.int p3), .val (.int b.1), .val s17, .val s18], [], (126, 120, L, [Y, T, H2, H, b.2, RV, ST, NS, I0, I1, I2, BO, FI, RG, GU, PU, MA, MN, MS, OT, SC], [r0, r1, r2, r3, w, 256, r6, r7, r8], Lg)) o) ?_ a_F (0, 0, RU_2) zb6 zh7 ?_ a_unk
    · rintro ⟨v3, v4, RU_6⟩ zr11 zh10 zi8 zx9 s5
      have zh10 : f_Rule_isSo_l29 v3 v4 RU_6 = some zr11 := zh10
      by_cases zc12 : (RU_6 0 1) ≤ v4
      · have zh10 := itp zh10 zc12
        suffices e : Ev (d + 2, 0, 0, 253, 164, [.val (.ref 320), .val (.ref 768), .val (.int p2), .val (.int p3), .val (.int v3), .val (.int v4), .val s5], [], (126, 120, L, [Y, T, H2, H, RU_6, RV, ST, NS, I0, I1, I2, BO, FI, RG, GU, PU, MA, MN, MS, OT, SC], [r0, r1, r2, r3, w, 256, r6, r7, r8], Lg)) o from ev_t (c := (RU_6 0 1) ≤ v4) _ _ 4  zc12 e (fun n => Eq.refl _)
        exact ev_b 0 (zx9 _ (Option.some.inj zh10).symm (.int v4) s5) (fun n => Eq.refl _)
      · have zh10 := itn zh10 zc12
        suffices e : Ev (d + 2, 0, 0, 253, 38, [.val (.ref 320), .val (.ref 768), .val (.int p2), .val (.int p3), .val (.int v3), .val (.int v4), .val s5], [], (126, 120, L, [Y, T, H2, H, RU_6, RV, ST, NS, I0, I1, I2, BO, FI, RG, GU, PU, MA, MN, MS, OT, SC], [r0, r1, r2, r3, w, 256, r6, r7, r8], Lg)) o from ev_f (c := (RU_6 0 1) ≤ v4) _ _ 4  zc12 e (fun n => Eq.refl _)
        obtain ⟨x7, zh13, zh10⟩ := bnd zh10
        have zh13 : rdx (RU_6 1) 150 v4 = some x7 := zh13
        suffices e : Ev (d + 2, 0, 0, 253, 45, [.val (.ref 320), .val (.ref 768), .val (.int p2), .val (.int p3), .val (.int v3), .val (.int v4), .val s5], [.int x7], (126, 120, L, [Y, T, H2, H, RU_6, RV, ST, NS, I0, I1, I2, BO, FI, RG, GU, PU, MA, MN, MS, OT, SC], [r0, r1, r2, r3, w, 256, r6, r7, r8], Lg)) o from ev_opt (fun x7 => (d + 2, 0, 0, 253, 45, [.val (.ref 320), .val (.ref 768), .val (.int p2), .val (.int p3), .val (.int v3), .val (.int v4), .val s5], [.int x7], (126, 120, L, [Y, T, H2, H, RU_6, RV, ST, NS, I0, I1, I2, BO, FI, RG, GU, PU, MA, MN, MS, OT, SC], [r0, r1, r2, r3, w, 256, r6, r7, r8], Lg))) 4 zh13 e (fun n => Eq.refl _)
        obtain ⟨zt14, zh15, zh10⟩ := bnd zh10
        have zj16 : zt14 = .inl () → Ev (d + 2, 0, 0, 253, 82, [.val (.ref 320), .val (.ref 768), .val (.int p2), .val (.int p3), .val (.int v3), .val (.int v4), .val (.int x7)], [], (126, 120, L, [Y, T, H2, H, RU_6, RV, ST, NS, I0, I1, I2, BO, FI, RG, GU, PU, MA, MN, MS, OT, SC], [r0, r1, r2, r3, w, 256, r6, r7, r8], Lg)) o := by
          intro ze17
          have zh10 := sum_l zh10 ze17
          obtain ⟨zt18, zh19, zh10⟩ := bnd zh10
          have zj20 : zt18 = .inl () → Ev (d + 2, 0, 0, 253, 119, [.val (.ref 320), .val (.ref 768), .val (.int p2), .val (.int p3), .val (.int v3), .val (.int v4), .val (.int x7)], [], (126, 120, L, [Y, T, H2, H, RU_6, RV, ST, NS, I0, I1, I2, BO, FI, RG, GU, PU, MA, MN, MS, OT, SC], [r0, r1, r2, r3, w, 256, r6, r7, r8], Lg)) o := by
            intro ze21
            have zh10 := sum_l zh10 ze21
            by_cases zc22 : v3 < 2
            · have zh10 := itp zh10 zc22
              suffices e : Ev (d + 2, 0, 0, 253, 158, [.val (.ref 320), .val (.ref 768), .val (.int p2), .val (.int p3), .val (.int v3), .val (.int v4), .val (.int x7)], [], (126, 120, L, [Y, T, H2, H, RU_6, RV, ST, NS, I0, I1, I2, BO, FI, RG, GU, PU, MA, MN, MS, OT, SC], [r0, r1, r2, r3, w, 256, r6, r7, r8], Lg)) o from ev_t (c := v3 < 2) _ _ 3  zc22 e (fun n => Eq.refl _)
              exact ev_b 2 (zi8 _ (Option.some.inj zh10).symm (.int x7)) (fun n => Eq.refl _)
            · have zh10 := itn zh10 zc22
              suffices e : Ev (d + 2, 0, 0, 253, 125, [.val (.ref 320), .val (.ref 768), .val (.int p2), .val (.int p3), .val (.int v3), .val (.int v4), .val (.int x7)], [], (126, 120, L, [Y, T, H2, H, RU_6, RV, ST, NS, I0, I1, I2, BO, FI, RG, GU, PU, MA, MN, MS, OT, SC], [r0, r1, r2, r3, w, 256, r6, r7, r8], Lg)) o from ev_f (c := v3 < 2) _ _ 3  zc22 e (fun n => Eq.refl _)
              suffices e : Ev (d + 2, 0, 0, 253, 128, [.val (.ref 320), .val (.ref 768), .val (.int p2), .val (.int p3), .val (.int (v3 + (-1))), .val (.int v4), .val (.int x7)], [], (126, 120, L, [Y, T, H2, H, RU_6, RV, ST, NS, I0, I1, I2, BO, FI, RG, GU, PU, MA, MN, MS, OT, SC], [r0, r1, r2, r3, w, 256, r6, r7, r8], Lg)) o from ev_b 1 e (fun n => Eq.refl _)
              obtain ⟨x12, zh23, zh10⟩ := bnd zh10
              have zh23 : rdx (RU_6 2) 150 ((v3 + (-1)) - 1) = some x12 := zh23
              suffices e : Ev (d + 2, 0, 0, 253, 147, [.val (.ref 320), .val (.ref 768), .val (.int p2), .val (.int p3), .val (.int (v3 + (-1))), .val (.int v4), .val (.int x7)], [.int x12, .int x7, .int ((v3 + (-1)) - 1), .ref 322], (126, 120, L, [Y, T, H2, H, RU_6, RV, ST, NS, I0, I1, I2, BO, FI, RG, GU, PU, MA, MN, MS, OT, SC], [r0, r1, r2, r3, w, 256, r6, r7, r8], Lg)) o from ev_opt (fun x12 => (d + 2, 0, 0, 253, 147, [.val (.ref 320), .val (.ref 768), .val (.int p2), .val (.int p3), .val (.int (v3 + (-1))), .val (.int v4), .val (.int x7)], [.int x12, .int x7, .int ((v3 + (-1)) - 1), .ref 322], (126, 120, L, [Y, T, H2, H, RU_6, RV, ST, NS, I0, I1, I2, BO, FI, RG, GU, PU, MA, MN, MS, OT, SC], [r0, r1, r2, r3, w, 256, r6, r7, r8], Lg))) 12 zh23 e (fun n => Eq.refl _)
              obtain ⟨x13, zh24, zh10⟩ := bnd zh10
              have zh24 : rdx (RU_6 2) 150 (v3 + (-1)) = some x13 := zh24
              suffices e : Ev (d + 2, 0, 0, 253, 154, [.val (.ref 320), .val (.ref 768), .val (.int p2), .val (.int p3), .val (.int (v3 + (-1))), .val (.int v4), .val (.int x7)], [.int x13, .int x12, .int x7, .int ((v3 + (-1)) - 1), .ref 322], (126, 120, L, [Y, T, H2, H, RU_6, RV, ST, NS, I0, I1, I2, BO, FI, RG, GU, PU, MA, MN, MS, OT, SC], [r0, r1, r2, r3, w, 256, r6, r7, r8], Lg)) o from ev_opt (fun x13 => (d + 2, 0, 0, 253, 154, [.val (.ref 320), .val (.ref 768), .val (.int p2), .val (.int p3), .val (.int (v3 + (-1))), .val (.int v4), .val (.int x7)], [.int x13, .int x12, .int x7, .int ((v3 + (-1)) - 1), .ref 322], (126, 120, L, [Y, T, H2, H, RU_6, RV, ST, NS, I0, I1, I2, BO, FI, RG, GU, PU, MA, MN, MS, OT, SC], [r0, r1, r2, r3, w, 256, r6, r7, r8], Lg))) 4 zh24 e (fun n => Eq.refl _)
              obtain ⟨x14, zh25, zh10⟩ := bnd zh10
              have zh25 : f_Rule_apply x7 x12 x13 = some x14 := zh25
              have ze26 := R_f_Rule_apply_0 (d + 1) Y T H2 H RU_6 RV ST NS I0 I1 I2 BO FI RG GU PU MA MN MS OT SC r0 r1 r2 r3 w 256 r6 r7 r8 L Lg x7 x12 x13 zh25
              suffices e : Ev (d + 2, 0, 0, 253, 157, [.val (.ref 320), .val (.ref 768), .val (.int p2), .val (.int p3), .val (.int (v3 + (-1))), .val (.int v4), .val (.int x7)], [.int x14, .int ((v3 + (-1)) - 1), .ref 322], (126, 120, L, [Y, T, H2, H, RU_6, RV, ST, NS, I0, I1, I2, BO, FI, RG, GU, PU, MA, MN, MS, OT, SC], [r0, r1, r2, r3, w, 256, r6, r7, r8], Lg)) o from ev_call (fun v μ => (d + 2, 0, 0, 253, 157, [.val (.ref 320), .val (.ref 768), .val (.int p2), .val (.int p3), .val (.int (v3 + (-1))), .val (.int v4), .val (.int x7)], v.toList ++ [.int ((v3 + (-1)) - 1), .ref 322], μ)) 1 ze26 e (fun n => Eq.refl _)
              obtain ⟨j15, zh27, zh10⟩ := bnd zh10
              have zh27 : ixx 150 ((v3 + (-1)) - 1) = some j15 := zh27
              suffices e : Ev (d + 2, 0, 0, 253, 158, [.val (.ref 320), .val (.ref 768), .val (.int p2), .val (.int p3), .val (.int (v3 + (-1))), .val (.int v4), .val (.int x7)], [], (126, 120, L, [Y, T, H2, H, (u2 RU_6 2 j15 x14), RV, ST, NS, I0, I1, I2, BO, FI, RG, GU, PU, MA, MN, MS, OT, SC], [r0, r1, r2, r3, w, 256, r6, r7, r8], Lg)) o from ev_opt (fun j15 => (d + 2, 0, 0, 253, 158, [.val (.ref 320), .val (.ref 768), .val (.int p2), .val (.int p3), .val (.int (v3 + (-1))), .val (.int v4), .val (.int x7)], [], (126, 120, L, [Y, T, H2, H, (u2 RU_6 2 j15 x14), RV, ST, NS, I0, I1, I2, BO, FI, RG, GU, PU, MA, MN, MS, OT, SC], [r0, r1, r2, r3, w, 256, r6, r7, r8], Lg))) 1 zh27 e (fun n => Eq.refl _)
              exact ev_b 2 (zi8 _ (Option.some.inj zh10).symm (.int x7)) (fun n => Eq.refl _)
          by_cases zc28 : x7 ≠ 200
          · have zh19 := itp zh19 zc28
            suffices e : Ev (d + 2, 0, 0, 253, 119, [.val (.ref 320), .val (.ref 768), .val (.int p2), .val (.int p3), .val (.int v3), .val (.int v4), .val (.int x7)], [], (126, 120, L, [Y, T, H2, H, RU_6, RV, ST, NS, I0, I1, I2, BO, FI, RG, GU, PU, MA, MN, MS, OT, SC], [r0, r1, r2, r3, w, 256, r6, r7, r8], Lg)) o from ev_t (c := x7 ≠ 200) _ _ 3  zc28 e (fun n => Eq.refl _)
            exact ev_b 0 (zj20  (Option.some.inj zh19).symm ) (fun n => Eq.refl _)
          · have zh19 := itn zh19 zc28
            suffices e : Ev (d + 2, 0, 0, 253, 90, [.val (.ref 320), .val (.ref 768), .val (.int p2), .val (.int p3), .val (.int v3), .val (.int v4), .val (.int x7)], [], (126, 120, L, [Y, T, H2, H, RU_6, RV, ST, NS, I0, I1, I2, BO, FI, RG, GU, PU, MA, MN, MS, OT, SC], [r0, r1, r2, r3, w, 256, r6, r7, r8], Lg)) o from ev_f (c := x7 ≠ 200) _ _ 3  zc28 e (fun n => Eq.refl _)
            by_cases zc29 : v3 < 1
            · have zh19 := itp zh19 zc29
              suffices e : Ev (d + 2, 0, 0, 253, 119, [.val (.ref 320), .val (.ref 768), .val (.int p2), .val (.int p3), .val (.int v3), .val (.int v4), .val (.int x7)], [], (126, 120, L, [Y, T, H2, H, RU_6, RV, ST, NS, I0, I1, I2, BO, FI, RG, GU, PU, MA, MN, MS, OT, SC], [r0, r1, r2, r3, w, 256, r6, r7, r8], Lg)) o from ev_t (c := v3 < 1) _ _ 3  zc29 e (fun n => Eq.refl _)
              exact ev_b 0 (zj20  (Option.some.inj zh19).symm ) (fun n => Eq.refl _)
            · have zh19 := itn zh19 zc29
              suffices e : Ev (d + 2, 0, 0, 253, 96, [.val (.ref 320), .val (.ref 768), .val (.int p2), .val (.int p3), .val (.int v3), .val (.int v4), .val (.int x7)], [], (126, 120, L, [Y, T, H2, H, RU_6, RV, ST, NS, I0, I1, I2, BO, FI, RG, GU, PU, MA, MN, MS, OT, SC], [r0, r1, r2, r3, w, 256, r6, r7, r8], Lg)) o from ev_f (c := v3 < 1) _ _ 3  zc29 e (fun n => Eq.refl _)
              obtain ⟨x10, zh30, zh19⟩ := bnd zh19
              have zh30 : rdx (RU_6 2) 150 (v3 - 1) = some x10 := zh30
              suffices e : Ev (d + 2, 0, 0, 253, 114, [.val (.ref 320), .val (.ref 768), .val (.int p2), .val (.int p3), .val (.int v3), .val (.int v4), .val (.int x7)], [.int x10, .int 1, .int (v3 - 1), .ref 322], (126, 120, L, [Y, T, H2, H, RU_6, RV, ST, NS, I0, I1, I2, BO, FI, RG, GU, PU, MA, MN, MS, OT, SC], [r0, r1, r2, r3, w, 256, r6, r7, r8], Lg)) o from ev_opt (fun x10 => (d + 2, 0, 0, 253, 114, [.val (.ref 320), .val (.ref 768), .val (.int p2), .val (.int p3), .val (.int v3), .val (.int v4), .val (.int x7)], [.int x10, .int 1, .int (v3 - 1), .ref 322], (126, 120, L, [Y, T, H2, H, RU_6, RV, ST, NS, I0, I1, I2, BO, FI, RG, GU, PU, MA, MN, MS, OT, SC], [r0, r1, r2, r3, w, 256, r6, r7, r8], Lg))) 12 zh30 e (fun n => Eq.refl _)
              obtain ⟨j11, zh31, zh19⟩ := bnd zh19
              have zh31 : ixx 150 (v3 - 1) = some j11 := zh31
              suffices e : Ev (d + 2, 0, 0, 253, 116, [.val (.ref 320), .val (.ref 768), .val (.int p2), .val (.int p3), .val (.int v3), .val (.int v4), .val (.int x7)], [], (126, 120, L, [Y, T, H2, H, (u2 RU_6 2 j11 (1 - x10)), RV, ST, NS, I0, I1, I2, BO, FI, RG, GU, PU, MA, MN, MS, OT, SC], [r0, r1, r2, r3, w, 256, r6, r7, r8], Lg)) o from ev_opt (fun j11 => (d + 2, 0, 0, 253, 116, [.val (.ref 320), .val (.ref 768), .val (.int p2), .val (.int p3), .val (.int v3), .val (.int v4), .val (.int x7)], [], (126, 120, L, [Y, T, H2, H, (u2 RU_6 2 j11 (1 - x10)), RV, ST, NS, I0, I1, I2, BO, FI, RG, GU, PU, MA, MN, MS, OT, SC], [r0, r1, r2, r3, w, 256, r6, r7, r8], Lg))) 2 zh31 e (fun n => Eq.refl _)
              have zh32 := sum_r zh10 (Option.some.inj zh19).symm
              exact ev_b 3 (zi8 _ (Option.some.inj zh32).symm (.int x7)) (fun n => Eq.refl _)
        by_cases zc33 : 200 ≤ x7
        · have zh15 := itp zh15 zc33
          suffices e : Ev (d + 2, 0, 0, 253, 82, [.val (.ref 320), .val (.ref 768), .val (.int p2), .val (.int p3), .val (.int v3), .val (.int v4), .val (.int x7)], [], (126, 120, L, [Y, T, H2, H, RU_6, RV, ST, NS, I0, I1, I2, BO, FI, RG, GU, PU, MA, MN, MS, OT, SC], [r0, r1, r2, r3, w, 256, r6, r7, r8], Lg)) o from ev_t (c := 200 ≤ x7) _ _ 4  zc33 e (fun n => Eq.refl _)
          exact ev_b 0 (zj16  (Option.some.inj zh15).symm ) (fun n => Eq.refl _)
        · have zh15 := itn zh15 zc33
          suffices e : Ev (d + 2, 0, 0, 253, 55, [.val (.ref 320), .val (.ref 768), .val (.int p2), .val (.int p3), .val (.int v3), .val (.int v4), .val (.int x7)], [], (126, 120, L, [Y, T, H2, H, RU_6, RV, ST, NS, I0, I1, I2, BO, FI, RG, GU, PU, MA, MN, MS, OT, SC], [r0, r1, r2, r3, w, 256, r6, r7, r8], Lg)) o from ev_f (c := 200 ≤ x7) _ _ 4  zc33 e (fun n => Eq.refl _)
          by_cases zc34 : 150 ≤ v3
          · have zh15 := itp zh15 zc34
            suffices e : Ev (d + 2, 0, 0, 253, 82, [.val (.ref 320), .val (.ref 768), .val (.int p2), .val (.int p3), .val (.int v3), .val (.int v4), .val (.int x7)], [], (126, 120, L, [Y, T, H2, H, RU_6, RV, ST, NS, I0, I1, I2, BO, FI, RG, GU, PU, MA, MN, MS, OT, SC], [r0, r1, r2, r3, w, 256, r6, r7, r8], Lg)) o from ev_t (c := 150 ≤ v3) _ _ 3  zc34 e (fun n => Eq.refl _)
            exact ev_b 0 (zj16  (Option.some.inj zh15).symm ) (fun n => Eq.refl _)
          · have zh15 := itn zh15 zc34
            suffices e : Ev (d + 2, 0, 0, 253, 63, [.val (.ref 320), .val (.ref 768), .val (.int p2), .val (.int p3), .val (.int v3), .val (.int v4), .val (.int x7)], [], (126, 120, L, [Y, T, H2, H, RU_6, RV, ST, NS, I0, I1, I2, BO, FI, RG, GU, PU, MA, MN, MS, OT, SC], [r0, r1, r2, r3, w, 256, r6, r7, r8], Lg)) o from ev_f (c := 150 ≤ v3) _ _ 3  zc34 e (fun n => Eq.refl _)
            obtain ⟨x8, zh35, zh15⟩ := bnd zh15
            have zh35 : f_Rule_operand RU_6 x7 = some x8 := zh35
            have ze36 := R_f_Rule_operand_0 (d + 1) Y T H2 H RU_6 RV ST NS I0 I1 I2 BO FI RG GU PU MA MN MS OT SC r0 r1 r2 r3 w 256 r6 r7 r8 L Lg x7 zh35
            suffices e : Ev (d + 2, 0, 0, 253, 75, [.val (.ref 320), .val (.ref 768), .val (.int p2), .val (.int p3), .val (.int v3), .val (.int v4), .val (.int x7)], [.int x8, .int v3, .ref 322], (126, 120, L, [Y, T, H2, H, RU_6, RV, ST, NS, I0, I1, I2, BO, FI, RG, GU, PU, MA, MN, MS, OT, SC], [r0, r1, r2, r3, w, 256, r6, r7, r8], Lg)) o from ev_call (fun v μ => (d + 2, 0, 0, 253, 75, [.val (.ref 320), .val (.ref 768), .val (.int p2), .val (.int p3), .val (.int v3), .val (.int v4), .val (.int x7)], v.toList ++ [.int v3, .ref 322], μ)) 6 ze36 e (fun n => Eq.refl _)
            obtain ⟨j9, zh37, zh15⟩ := bnd zh15
            have zh37 : ixx 150 v3 = some j9 := zh37
            suffices e : Ev (d + 2, 0, 0, 253, 76, [.val (.ref 320), .val (.ref 768), .val (.int p2), .val (.int p3), .val (.int v3), .val (.int v4), .val (.int x7)], [], (126, 120, L, [Y, T, H2, H, (u2 RU_6 2 j9 x8), RV, ST, NS, I0, I1, I2, BO, FI, RG, GU, PU, MA, MN, MS, OT, SC], [r0, r1, r2, r3, w, 256, r6, r7, r8], Lg)) o from ev_opt (fun j9 => (d + 2, 0, 0, 253, 76, [.val (.ref 320), .val (.ref 768), .val (.int p2), .val (.int p3), .val (.int v3), .val (.int v4), .val (.int x7)], [], (126, 120, L, [Y, T, H2, H, (u2 RU_6 2 j9 x8), RV, ST, NS, I0, I1, I2, BO, FI, RG, GU, PU, MA, MN, MS, OT, SC], [r0, r1, r2, r3, w, 256, r6, r7, r8], Lg))) 1 zh37 e (fun n => Eq.refl _)
            have zh38 := sum_r zh10 (Option.some.inj zh15).symm
            exact ev_b 4 (zi8 _ (Option.some.inj zh38).symm (.int x7)) (fun n => Eq.refl _)
    · obtain ⟨v16, RU_19⟩ := zb6
      intro s17 s18
      by_cases zc39 : v16 ≠ 1
      · have h := itp h zc39
        suffices e : Ev (d + 2, 0, 0, 253, 183, [.val (.ref 320), .val (.ref 768), .val (.int p2), .val (.int p3), .val (.int v16), .val s17, .val s18], [], (126, 120, L, [Y, T, H2, H, RU_19, RV, ST, NS, I0, I1, I2, BO, FI, RG, GU, PU, MA, MN, MS, OT, SC], [r0, r1, r2, r3, w, 256, r6, r7, r8], Lg)) o from ev_t (c := v16 ≠ 1) _ _ 3  zc39 e (fun n => Eq.refl _)
        have ze40 := Option.some.inj h
        subst ze40
        exact ev_rete 2 ho (fun n => Eq.refl _)
      · have h := itn h zc39
        suffices e : Ev (d + 2, 0, 0, 253, 170, [.val (.ref 320), .val (.ref 768), .val (.int p2), .val (.int p3), .val (.int v16), .val s17, .val s18], [], (126, 120, L, [Y, T, H2, H, RU_19, RV, ST, NS, I0, I1, I2, BO, FI, RG, GU, PU, MA, MN, MS, OT, SC], [r0, r1, r2, r3, w, 256, r6, r7, r8], Lg)) o from ev_f (c := v16 ≠ 1) _ _ 3  zc39 e (fun n => Eq.refl _)
        obtain ⟨x20, zh41, h⟩ := bnd h
        have zh41 : rdx (RU_19 2) 150 0 = some x20 := zh41
        suffices e : Ev (d + 2, 0, 0, 253, 176, [.val (.ref 320), .val (.ref 768), .val (.int p2), .val (.int p3), .val (.int v16), .val s17, .val s18], [.int x20], (126, 120, L, [Y, T, H2, H, RU_19, RV, ST, NS, I0, I1, I2, BO, FI, RG, GU, PU, MA, MN, MS, OT, SC], [r0, r1, r2, r3, w, 256, r6, r7, r8], Lg)) o from ev_opt (fun x20 => (d + 2, 0, 0, 253, 176, [.val (.ref 320), .val (.ref 768), .val (.int p2), .val (.int p3), .val (.int v16), .val s17, .val s18], [.int x20], (126, 120, L, [Y, T, H2, H, RU_19, RV, ST, NS, I0, I1, I2, BO, FI, RG, GU, PU, MA, MN, MS, OT, SC], [r0, r1, r2, r3, w, 256, r6, r7, r8], Lg))) 4 zh41 e (fun n => Eq.refl _)
        by_cases zc42 : x20 = 0
        · have h := itp h zc42
          suffices e : Ev (d + 2, 0, 0, 253, 183, [.val (.ref 320), .val (.ref 768), .val (.int p2), .val (.int p3), .val (.int v16), .val s17, .val s18], [], (126, 120, L, [Y, T, H2, H, RU_19, RV, ST, NS, I0, I1, I2, BO, FI, RG, GU, PU, MA, MN, MS, OT, SC], [r0, r1, r2, r3, w, 256, r6, r7, r8], Lg)) o from ev_t (c := x20 = 0) _ _ 1  zc42 e (fun n => Eq.refl _)
          have ze43 := Option.some.inj h
          subst ze43
          exact ev_rete 2 ho (fun n => Eq.refl _)
        · have h := itn h zc42
          suffices e : Ev (d + 2, 0, 0, 253, 179, [.val (.ref 320), .val (.ref 768), .val (.int p2), .val (.int p3), .val (.int v16), .val s17, .val s18], [], (126, 120, L, [Y, T, H2, H, RU_19, RV, ST, NS, I0, I1, I2, BO, FI, RG, GU, PU, MA, MN, MS, OT, SC], [r0, r1, r2, r3, w, 256, r6, r7, r8], Lg)) o from ev_f (c := x20 = 0) _ _ 1  zc42 e (fun n => Eq.refl _)
          have ze44 := Option.some.inj h
          subst ze44
          exact ev_rete 3 ho (fun n => Eq.refl _)
  · have h := itn h zc1
    suffices e : Ev (d + 2, 0, 0, 253, 7, [.val (.ref 320), .val (.ref 768), .val (.int p2), .val (.int p3), .val a_unk, .val a_unk, .val a_unk], [], (126, 120, L, [Y, T, H2, H, RU, RV, ST, NS, I0, I1, I2, BO, FI, RG, GU, PU, MA, MN, MS, OT, SC], [r0, r1, r2, r3, w, 256, r6, r7, r8], Lg)) o from ev_f (c := (RU 0 1) ≠ 0) _ _ 3  zc1 e (fun n => Eq.refl _)
    have ze45 := Option.some.inj h
    subst ze45
    exact ev_rete 2 ho (fun n => Eq.refl _)
set_option maxRecDepth 1000000 in
set_option maxHeartbeats 4000000 in
theorem R_f_Y_yields_2 (d : Nat) (Y T H2 H RU RV ST NS I0 I1 I2 BO FI RG GU PU MA MN MS OT SC : Nat → Nat → Int32) (w r5 : Nat) (L : Nat) (Lg : Int64) (p1 : Int32) (p2 : Int32) {r : Nat × Int32 × (Nat → Nat → Int32) × (Nat → Nat → Int32) × (Nat → Nat → Int32) × Nat} (h : f_Y_yields Y H RU NS BO 256 r5 p1 p2 = some r) : Ev (d + 3, 3, 24, 322, 0, [.val (.ref 64), .val (.int p1), .val (.int p2), .val a_unk], [], (126, 120, L, [Y, T, H2, H, RU, RV, ST, NS, I0, I1, I2, BO, FI, RG, GU, PU, MA, MN, MS, OT, SC], [256, 192, 320, 384, w, r5, 576, 640, 704], Lg)) ((r.1, a_ov r.1 (.int r.2.1), (126, 120, L, [r.2.2.1, T, H2, H, r.2.2.2.1, RV, ST, NS, I0, I1, I2, r.2.2.2.2.1, FI, RG, GU, PU, MA, MN, MS, OT, SC], [256, 192, 320, 384, w, r.2.2.2.2.2, 576, 640, 704], Lg)) : AOut) := by
  suffices key : ∀ o : AOut, ((r.1, a_ov r.1 (.int r.2.1), (126, 120, L, [r.2.2.1, T, H2, H, r.2.2.2.1, RV, ST, NS, I0, I1, I2, r.2.2.2.2.1, FI, RG, GU, PU, MA, MN, MS, OT, SC], [256, 192, 320, 384, w, r.2.2.2.2.2, 576, 640, 704], Lg)) : AOut) = o → Ev (d + 3, 3, 24, 322, 0, [.val (.ref 64), .val (.int p1), .val (.int p2), .val a_unk], [], (126, 120, L, [Y, T, H2, H, RU, RV, ST, NS, I0, I1, I2, BO, FI, RG, GU, PU, MA, MN, MS, OT, SC], [256, 192, 320, 384, w, r5, 576, 640, 704], Lg)) o from key _ rfl
  intro o ho
  obtain ⟨⟨q1, Y_2⟩, zh1, h⟩ := bnd h
  have zh1 : f_Y_needMeeting Y H p1 = some (q1, Y_2) := zh1
  have ze2 := R_f_Y_needMeeting_2 (d + 1) Y T H2 H RU RV ST NS I0 I1 I2 BO FI RG GU PU MA MN MS OT SC w r5 L Lg p1 zh1
  cases q1 with
  | zero =>
    have h := itp h rfl
    suffices e : Ev (d + 3, 2, 16, 322, 5, [.val (.ref 64), .val (.int p1), .val (.int p2), .val a_unk], [], (126, 120, L, [Y_2, T, H2, H, RU, RV, ST, NS, I0, I1, I2, BO, FI, RG, GU, PU, MA, MN, MS, OT, SC], [256, 192, 320, 384, w, r5, 576, 640, 704], Lg)) o from ev_call (fun v μ => (d + 3, 2, 16, 322, 5, [.val (.ref 64), .val (.int p1), .val (.int p2), .val a_unk], v.toList ++ [], μ)) 3 ze2 e (fun n => Eq.refl _)
    obtain ⟨⟨q3, Y_4⟩, zh3, h⟩ := bnd h
    have zh3 : f_Y_needMeeting Y_2 H p2 = some (q3, Y_4) := zh3
    have ze4 := R_f_Y_needMeeting_2 (d + 1) Y_2 T H2 H RU RV ST NS I0 I1 I2 BO FI RG GU PU MA MN MS OT SC w r5 L Lg p2 zh3
    cases q3 with
    | zero =>
      have h := itp h rfl
      suffices e : Ev (d + 3, 1, 8, 322, 10, [.val (.ref 64), .val (.int p1), .val (.int p2), .val a_unk], [], (126, 120, L, [Y_4, T, H2, H, RU, RV, ST, NS, I0, I1, I2, BO, FI, RG, GU, PU, MA, MN, MS, OT, SC], [256, 192, 320, 384, w, r5, 576, 640, 704], Lg)) o from ev_call (fun v μ => (d + 3, 1, 8, 322, 10, [.val (.ref 64), .val (.int p1), .val (.int p2), .val a_unk], v.toList ++ [], μ)) 3 ze4 e (fun n => Eq.refl _)
      obtain ⟨zt5, zh6, h⟩ := bnd h
      have zj7 : ∀ (v6 : Int32), v6 = zt5 → Ev (d + 3, 1, 8, 322, 34, [.val (.ref 64), .val (.int p1), .val (.int p2), .val a_unk], [.int v6, .ref 64], (126, 120, L, [Y_4, T, H2, H, RU, RV, ST, NS, I0, I1, I2, BO, FI, RG, GU, PU, MA, MN, MS, OT, SC], [256, 192, 320, 384, w, r5, 576, 640, 704], Lg)) o := by
        intro v6 ze8
        subst ze8
        obtain ⟨⟨q7, Y_8⟩, zh9, h⟩ := bnd h
        have zh9 : f_Y_refuseUnless Y_4 v6 = some (q7, Y_8) := zh9
        have ze10 := R_f_Y_refuseUnless_2 (d + 2) Y_4 T H2 H RU RV ST NS I0 I1 I2 BO FI RG GU PU MA MN MS OT SC w r5 L Lg v6 zh9
        cases q7 with
        | zero =>
          have h := itp h rfl
          suffices e : Ev (d + 3, 0, 0, 322, 37, [.val (.ref 64), .val (.int p1), .val (.int p2), .val a_unk], [], (126, 120, L, [Y_8, T, H2, H, RU, RV, ST, NS, I0, I1, I2, BO, FI, RG, GU, PU, MA, MN, MS, OT, SC], [256, 192, 320, 384, w, r5, 576, 640, 704], Lg)) o from ev_call (fun v μ => (d + 3, 0, 0, 322, 37, [.val (.ref 64), .val (.int p1), .val (.int p2), .val a_unk], v.toList ++ [], μ)) 1 ze10 e (fun n => Eq.refl _)
          obtain ⟨BO_10, zh11, h⟩ := bnd h
          have zh11 : f_Y_lookNow H NS BO = some BO_10 := zh11
          have ze12 := R_f_Y_lookNow_2 (d + 0) Y_8 T H2 H RU RV ST NS I0 I1 I2 BO FI RG GU PU MA MN MS OT SC w r5 L Lg zh11
          suffices e : Ev (d + 3, 0, 0, 322, 41, [.val (.ref 64), .val (.int p1), .val (.int p2), .val a_unk], [.ref 768], (126, 120, L, [Y_8, T, H2, H, RU, RV, ST, NS, I0, I1, I2, BO_10, FI, RG, GU, PU, MA, MN, MS, OT, SC], [256, 192, 320, 384, w, 256, 576, 640, 704], Lg)) o from ev_call (fun v μ => (d + 3, 0, 0, 322, 41, [.val (.ref 64), .val (.int p1), .val (.int p2), .val a_unk], v.toList ++ [], μ)) 2 ze12 e (fun n => Eq.refl _)
          suffices e : Ev (d + 3, 0, 0, 322, 46, [.val (.ref 64), .val (.int p1), .val (.int p2), .val (.ref 768)], [.ref 320], (126, 120, L, [Y_8, T, H2, H, RU, RV, ST, NS, I0, I1, I2, BO_10, FI, RG, GU, PU, MA, MN, MS, OT, SC], [256, 192, 320, 384, w, 256, 576, 640, 704], Lg)) o from ev_b 3 e (fun n => Eq.refl _)
          obtain ⟨x11, zh13, h⟩ := bnd h
          have zh13 : rdx (BO_10 1) 10 p1 = some x11 := zh13
          suffices e : Ev (d + 3, 0, 0, 322, 52, [.val (.ref 64), .val (.int p1), .val (.int p2), .val (.ref 768)], [.int x11, .ref 320], (126, 120, L, [Y_8, T, H2, H, RU, RV, ST, NS, I0, I1, I2, BO_10, FI, RG, GU, PU, MA, MN, MS, OT, SC], [256, 192, 320, 384, w, 256, 576, 640, 704], Lg)) o from ev_opt (fun x11 => (d + 3, 0, 0, 322, 52, [.val (.ref 64), .val (.int p1), .val (.int p2), .val (.ref 768)], [.int x11, .ref 320], (126, 120, L, [Y_8, T, H2, H, RU, RV, ST, NS, I0, I1, I2, BO_10, FI, RG, GU, PU, MA, MN, MS, OT, SC], [256, 192, 320, 384, w, 256, 576, 640, 704], Lg))) 4 zh13 e (fun n => Eq.refl _)
          obtain ⟨RU_12, zh14, h⟩ := bnd h
          have zh14 : f_Rule_setWanted RU x11 0 = some RU_12 := zh14
          have ze15 := R_f_Rule_setWanted_0 (d + 1) Y_8 T H2 H RU RV ST NS I0 I1 I2 BO_10 FI RG GU PU MA MN MS OT SC 256 192 320 384 w 256 576 640 704 L Lg x11 0 zh14
          suffices e : Ev (d + 3, 0, 0, 322, 56, [.val (.ref 64), .val (.int p1), .val (.int p2), .val (.ref 768)], [], (126, 120, L, [Y_8, T, H2, H, RU_12, RV, ST, NS, I0, I1, I2, BO_10, FI, RG, GU, PU, MA, MN, MS, OT, SC], [256, 192, 320, 384, w, 256, 576, 640, 704], Lg)) o from ev_call (fun v μ => (d + 3, 0, 0, 322, 56, [.val (.ref 64), .val (.int p1), .val (.int p2), .val (.ref 768)], v.toList ++ [], μ)) 2 ze15 e (fun n => Eq.refl _)
          suffices e : Ev (d + 3, 0, 0, 322, 60, [.val (.ref 64), .val (.int p1), .val (.int p2), .val (.ref 768)], [.ref 320], (126, 120, L, [Y_8, T, H2, H, RU_12, RV, ST, NS, I0, I1, I2, BO_10, FI, RG, GU, PU, MA, MN, MS, OT, SC], [256, 192, 320, 384, w, 256, 576, 640, 704], Lg)) o from ev_b 2 e (fun n => Eq.refl _)
          obtain ⟨⟨x13, RU_14⟩, zh16, h⟩ := bnd h
          have zh16 : f_Rule_isSo H RU_12 BO_10 p1 p2 = some (x13, RU_14) := zh16
          have ze17 := R_f_Rule_isSo_2 (d + 0) Y_8 T H2 H RU_12 RV ST NS I0 I1 I2 BO_10 FI RG GU PU MA MN MS OT SC 256 192 320 384 w 576 640 704 L Lg p1 p2 zh16
          suffices e : Ev (d + 3, 0, 0, 322, 66, [.val (.ref 64), .val (.int p1), .val (.int p2), .val (.ref 768)], [.int x13], (126, 120, L, [Y_8, T, H2, H, RU_14, RV, ST, NS, I0, I1, I2, BO_10, FI, RG, GU, PU, MA, MN, MS, OT, SC], [256, 192, 320, 384, w, 256, 576, 640, 704], Lg)) o from ev_call (fun v μ => (d + 3, 0, 0, 322, 66, [.val (.ref 64), .val (.int p1), .val (.int p2), .val (.ref 768)], v.toList ++ [], μ)) 4 ze17 e (fun n => Eq.refl _)
          have ze18 := Option.some.inj h
          subst ze18
          exact ev_rete 1 ho (fun n => Eq.refl _)
        | succ q7 =>
          have h := itn h (Nat.succ_ne_zero q7)
          have ze19 := Option.some.inj h
          subst ze19
          subst ho
          exact ev_thr (fun v μ => (d + 3, 0, 0, 322, 37, [.val (.ref 64), .val (.int p1), .val (.int p2), .val a_unk], v.toList ++ [], μ)) 1 ze10 (fun n => Eq.refl _) (fun n => rfl)
      obtain ⟨zt20, zh21, zh6⟩ := bnd zh6
      have zj22 : zt20 = .inl () → Ev (d + 3, 1, 8, 322, 33, [.val (.ref 64), .val (.int p1), .val (.int p2), .val a_unk], [.ref 64], (126, 120, L, [Y_4, T, H2, H, RU, RV, ST, NS, I0, I1, I2, BO, FI, RG, GU, PU, MA, MN, MS, OT, SC], [256, 192, 320, 384, w, r5, 576, 640, 704], Lg)) o := by
        intro ze23
        have zh6 := sum_l zh6 ze23
        exact ev_b 1 (zj7 0 (Option.some.inj zh6) ) (fun n => Eq.refl _)
      by_cases zc24 : p1 = p2
      · have zh21 := itp zh21 zc24
        suffices e : Ev (d + 3, 1, 8, 322, 33, [.val (.ref 64), .val (.int p1), .val (.int p2), .val a_unk], [.ref 64], (126, 120, L, [Y_4, T, H2, H, RU, RV, ST, NS, I0, I1, I2, BO, FI, RG, GU, PU, MA, MN, MS, OT, SC], [256, 192, 320, 384, w, r5, 576, 640, 704], Lg)) o from ev_t (c := p1 = p2) _ _ 4  zc24 e (fun n => Eq.refl _)
        exact ev_b 0 (zj22  (Option.some.inj zh21).symm ) (fun n => Eq.refl _)
      · have zh21 := itn zh21 zc24
        suffices e : Ev (d + 3, 1, 8, 322, 16, [.val (.ref 64), .val (.int p1), .val (.int p2), .val a_unk], [.ref 64], (126, 120, L, [Y_4, T, H2, H, RU, RV, ST, NS, I0, I1, I2, BO, FI, RG, GU, PU, MA, MN, MS, OT, SC], [256, 192, 320, 384, w, r5, 576, 640, 704], Lg)) o from ev_f (c := p1 = p2) _ _ 4  zc24 e (fun n => Eq.refl _)
        obtain ⟨x5, zh25, zh21⟩ := bnd zh21
        have zh25 : rdx (NS 1) 10 p1 = some x5 := zh25
        suffices e : Ev (d + 3, 1, 8, 322, 25, [.val (.ref 64), .val (.int p1), .val (.int p2), .val a_unk], [.int x5, .ref 64], (126, 120, L, [Y_4, T, H2, H, RU, RV, ST, NS, I0, I1, I2, BO, FI, RG, GU, PU, MA, MN, MS, OT, SC], [256, 192, 320, 384, w, r5, 576, 640, 704], Lg)) o from ev_opt (fun x5 => (d + 3, 1, 8, 322, 25, [.val (.ref 64), .val (.int p1), .val (.int p2), .val a_unk], [.int x5, .ref 64], (126, 120, L, [Y_4, T, H2, H, RU, RV, ST, NS, I0, I1, I2, BO, FI, RG, GU, PU, MA, MN, MS, OT, SC], [256, 192, 320, 384, w, r5, 576, 640, 704], Lg))) 5 zh25 e (fun n => Eq.refl _)
        by_cases zc26 : x5 = (-1)
        · have zh21 := itp zh21 zc26
          suffices e : Ev (d + 3, 1, 8, 322, 33, [.val (.ref 64), .val (.int p1), .val (.int p2), .val a_unk], [.ref 64], (126, 120, L, [Y_4, T, H2, H, RU, RV, ST, NS, I0, I1, I2, BO, FI, RG, GU, PU, MA, MN, MS, OT, SC], [256, 192, 320, 384, w, r5, 576, 640, 704], Lg)) o from ev_t (c := x5 = (-1)) _ _ 2  zc26 e (fun n => Eq.refl _)
          exact ev_b 0 (zj22  (Option.some.inj zh21).symm ) (fun n => Eq.refl _)
        · have zh21 := itn zh21 zc26
          suffices e : Ev (d + 3, 1, 8, 322, 29, [.val (.ref 64), .val (.int p1), .val (.int p2), .val a_unk], [.ref 64], (126, 120, L, [Y_4, T, H2, H, RU, RV, ST, NS, I0, I1, I2, BO, FI, RG, GU, PU, MA, MN, MS, OT, SC], [256, 192, 320, 384, w, r5, 576, 640, 704], Lg)) o from ev_f (c := x5 = (-1)) _ _ 2  zc26 e (fun n => Eq.refl _)
          have zh27 := sum_r zh6 (Option.some.inj zh21).symm
          exact ev_b 2 (zj7 1 (Option.some.inj zh27) ) (fun n => Eq.refl _)
    | succ q3 =>
      have h := itn h (Nat.succ_ne_zero q3)
      have ze28 := Option.some.inj h
      subst ze28
      subst ho
      exact ev_thr (fun v μ => (d + 3, 1, 8, 322, 10, [.val (.ref 64), .val (.int p1), .val (.int p2), .val a_unk], v.toList ++ [], μ)) 3 ze4 (fun n => Eq.refl _) (fun n => rfl)
  | succ q1 =>
    have h := itn h (Nat.succ_ne_zero q1)
    have ze29 := Option.some.inj h
    subst ze29
    subst ho
    exact ev_thr (fun v μ => (d + 3, 2, 16, 322, 5, [.val (.ref 64), .val (.int p1), .val (.int p2), .val a_unk], v.toList ++ [], μ)) 3 ze2 (fun n => Eq.refl _) (fun n => rfl)
set_option maxRecDepth 1000000 in
set_option maxHeartbeats 4000000 in
theorem R_f_Rule_setMeeting_3 (d : Nat) (Y T H2 H RV RU ST NS I0 I1 I2 BO FI RG GU PU MA MN MS OT SC : Nat → Nat → Int32) (r0 r1 r2 r3 w r6 r7 r8 : Nat) (L : Nat) (Lg : Int64) (p1 : Int32) (p3 : Int32) {r : (Nat → Nat → Int32)} (h : f_Rule_setMeeting H RU BO p1 p3 = some r) : Ev (d + 1, 0, 0, 252, 0, [.val (.ref 384), .val (.int p1), .val (.ref 768), .val (.int p3)], [], (126, 120, L, [Y, T, H2, H, RV, RU, ST, NS, I0, I1, I2, BO, FI, RG, GU, PU, MA, MN, MS, OT, SC], [r0, r1, r2, r3, w, 256, r6, r7, r8], Lg)) ((0, none, (126, 120, L, [Y, T, H2, H, RV, r, ST, NS, I0, I1, I2, BO, FI, RG, GU, PU, MA, MN, MS, OT, SC], [r0, r1, r2, r3, w, 256, r6, r7, r8], Lg)) : AOut) := by
  suffices key : ∀ o : AOut, ((0, none, (126, 120, L, [Y, T, H2, H, RV, r, ST, NS, I0, I1, I2, BO, FI, RG, GU, PU, MA, MN, MS, OT, SC], [r0, r1, r2, r3, w, 256, r6, r7, r8], Lg)) : AOut) = o → Ev (d + 1, 0, 0, 252, 0, [.val (.ref 384), .val (.int p1), .val (.ref 768), .val (.int p3)], [], (126, 120, L, [Y, T, H2, H, RV, RU, ST, NS, I0, I1, I2, BO, FI, RG, GU, PU, MA, MN, MS, OT, SC], [r0, r1, r2, r3, w, 256, r6, r7, r8], Lg)) o from key _ rfl
  intro o ho
  by_cases zc1 : 11 ≤ (p1 + 3)
  · have h := itp h zc1
    suffices e : Ev (d + 1, 0, 0, 252, 66, [.val (.ref 384), .val (.int p1), .val (.ref 768), .val (.int p3)], [], (126, 120, L, [Y, T, H2, H, RV, RU, ST, NS, I0, I1, I2, BO, FI, RG, GU, PU, MA, MN, MS, OT, SC], [r0, r1, r2, r3, w, 256, r6, r7, r8], Lg)) o from ev_t (c := 11 ≤ (p1 + 3)) _ _ 5  zc1 e (fun n => Eq.refl _)
    have ze2 := Option.some.inj h
    subst ze2
    exact ev_rete 1 ho (fun n => Eq.refl _)
  · have h := itn h zc1
    suffices e : Ev (d + 1, 0, 0, 252, 8, [.val (.ref 384), .val (.int p1), .val (.ref 768), .val (.int p3)], [], (126, 120, L, [Y, T, H2, H, RV, RU, ST, NS, I0, I1, I2, BO, FI, RG, GU, PU, MA, MN, MS, OT, SC], [r0, r1, r2, r3, w, 256, r6, r7, r8], Lg)) o from ev_f (c := 11 ≤ (p1 + 3)) _ _ 5  zc1 e (fun n => Eq.refl _)
    suffices e : Ev (d + 1, 0, 0, 252, 17, [.val (.ref 384), .val (.int p1), .val (.ref 768), .val (.int p3)], [.ref 256, .int p1, .ref 387], (126, 120, L, [Y, T, H2, H, RV, RU, ST, NS, I0, I1, I2, BO, FI, RG, GU, PU, MA, MN, MS, OT, SC], [r0, r1, r2, r3, w, 256, r6, r7, r8], Lg)) o from ev_b 5 e (fun n => Eq.refl _)
    obtain ⟨x1, zh3, h⟩ := bnd h
    have zh3 : rdx (H 7) 10 p3 = some x1 := zh3
    suffices e : Ev (d + 1, 0, 0, 252, 22, [.val (.ref 384), .val (.int p1), .val (.ref 768), .val (.int p3)], [.int x1, .int p1, .ref 387], (126, 120, L, [Y, T, H2, H, RV, RU, ST, NS, I0, I1, I2, BO, FI, RG, GU, PU, MA, MN, MS, OT, SC], [r0, r1, r2, r3, w, 256, r6, r7, r8], Lg)) o from ev_opt (fun x1 => (d + 1, 0, 0, 252, 22, [.val (.ref 384), .val (.int p1), .val (.ref 768), .val (.int p3)], [.int x1, .int p1, .ref 387], (126, 120, L, [Y, T, H2, H, RV, RU, ST, NS, I0, I1, I2, BO, FI, RG, GU, PU, MA, MN, MS, OT, SC], [r0, r1, r2, r3, w, 256, r6, r7, r8], Lg))) 3 zh3 e (fun n => Eq.refl _)
    obtain ⟨j2, zh4, h⟩ := bnd h
    have zh4 : ixx 11 p1 = some j2 := zh4
    suffices e : Ev (d + 1, 0, 0, 252, 23, [.val (.ref 384), .val (.int p1), .val (.ref 768), .val (.int p3)], [], (126, 120, L, [Y, T, H2, H, RV, (u2 RU 3 j2 x1), ST, NS, I0, I1, I2, BO, FI, RG, GU, PU, MA, MN, MS, OT, SC], [r0, r1, r2, r3, w, 256, r6, r7, r8], Lg)) o from ev_opt (fun j2 => (d + 1, 0, 0, 252, 23, [.val (.ref 384), .val (.int p1), .val (.ref 768), .val (.int p3)], [], (126, 120, L, [Y, T, H2, H, RV, (u2 RU 3 j2 x1), ST, NS, I0, I1, I2, BO, FI, RG, GU, PU, MA, MN, MS, OT, SC], [r0, r1, r2, r3, w, 256, r6, r7, r8], Lg))) 1 zh4 e (fun n => Eq.refl _)
    obtain ⟨x3, zh5, h⟩ := bnd h
    have zh5 : rdx (BO 2) 10 p3 = some x3 := zh5
    suffices e : Ev (d + 1, 0, 0, 252, 36, [.val (.ref 384), .val (.int p1), .val (.ref 768), .val (.int p3)], [.int x3, .int (p1 + 1), .ref 387], (126, 120, L, [Y, T, H2, H, RV, (u2 RU 3 j2 x1), ST, NS, I0, I1, I2, BO, FI, RG, GU, PU, MA, MN, MS, OT, SC], [r0, r1, r2, r3, w, 256, r6, r7, r8], Lg)) o from ev_opt (fun x3 => (d + 1, 0, 0, 252, 36, [.val (.ref 384), .val (.int p1), .val (.ref 768), .val (.int p3)], [.int x3, .int (p1 + 1), .ref 387], (126, 120, L, [Y, T, H2, H, RV, (u2 RU 3 j2 x1), ST, NS, I0, I1, I2, BO, FI, RG, GU, PU, MA, MN, MS, OT, SC], [r0, r1, r2, r3, w, 256, r6, r7, r8], Lg))) 9 zh5 e (fun n => Eq.refl _)
    obtain ⟨j4, zh6, h⟩ := bnd h
    have zh6 : ixx 11 (p1 + 1) = some j4 := zh6
    suffices e : Ev (d + 1, 0, 0, 252, 37, [.val (.ref 384), .val (.int p1), .val (.ref 768), .val (.int p3)], [], (126, 120, L, [Y, T, H2, H, RV, (u2 (u2 RU 3 j2 x1) 3 j4 x3), ST, NS, I0, I1, I2, BO, FI, RG, GU, PU, MA, MN, MS, OT, SC], [r0, r1, r2, r3, w, 256, r6, r7, r8], Lg)) o from ev_opt (fun j4 => (d + 1, 0, 0, 252, 37, [.val (.ref 384), .val (.int p1), .val (.ref 768), .val (.int p3)], [], (126, 120, L, [Y, T, H2, H, RV, (u2 (u2 RU 3 j2 x1) 3 j4 x3), ST, NS, I0, I1, I2, BO, FI, RG, GU, PU, MA, MN, MS, OT, SC], [r0, r1, r2, r3, w, 256, r6, r7, r8], Lg))) 1 zh6 e (fun n => Eq.refl _)
    suffices e : Ev (d + 1, 0, 0, 252, 48, [.val (.ref 384), .val (.int p1), .val (.ref 768), .val (.int p3)], [.ref 256, .int (p1 + 2), .ref 387], (126, 120, L, [Y, T, H2, H, RV, (u2 (u2 RU 3 j2 x1) 3 j4 x3), ST, NS, I0, I1, I2, BO, FI, RG, GU, PU, MA, MN, MS, OT, SC], [r0, r1, r2, r3, w, 256, r6, r7, r8], Lg)) o from ev_b 7 e (fun n => Eq.refl _)
    obtain ⟨x5, zh7, h⟩ := bnd h
    have zh7 : rdx (H 8) 10 p3 = some x5 := zh7
    suffices e : Ev (d + 1, 0, 0, 252, 53, [.val (.ref 384), .val (.int p1), .val (.ref 768), .val (.int p3)], [.int x5, .int (p1 + 2), .ref 387], (126, 120, L, [Y, T, H2, H, RV, (u2 (u2 RU 3 j2 x1) 3 j4 x3), ST, NS, I0, I1, I2, BO, FI, RG, GU, PU, MA, MN, MS, OT, SC], [r0, r1, r2, r3, w, 256, r6, r7, r8], Lg)) o from ev_opt (fun x5 => (d + 1, 0, 0, 252, 53, [.val (.ref 384), .val (.int p1), .val (.ref 768), .val (.int p3)], [.int x5, .int (p1 + 2), .ref 387], (126, 120, L, [Y, T, H2, H, RV, (u2 (u2 RU 3 j2 x1) 3 j4 x3), ST, NS, I0, I1, I2, BO, FI, RG, GU, PU, MA, MN, MS, OT, SC], [r0, r1, r2, r3, w, 256, r6, r7, r8], Lg))) 3 zh7 e (fun n => Eq.refl _)
    obtain ⟨x6, zh8, h⟩ := bnd h
    have zh8 : f_Integer_bitCount x5 = some x6 := zh8
    have ze9 := R_f_Integer_bitCount_0 (d + 0) Y T H2 H RV (u2 (u2 RU 3 j2 x1) 3 j4 x3) ST NS I0 I1 I2 BO FI RG GU PU MA MN MS OT SC r0 r1 r2 r3 w 256 r6 r7 r8 L Lg x5 zh8
    suffices e : Ev (d + 1, 0, 0, 252, 56, [.val (.ref 384), .val (.int p1), .val (.ref 768), .val (.int p3)], [.int x6, .int (p1 + 2), .ref 387], (126, 120, L, [Y, T, H2, H, RV, (u2 (u2 RU 3 j2 x1) 3 j4 x3), ST, NS, I0, I1, I2, BO, FI, RG, GU, PU, MA, MN, MS, OT, SC], [r0, r1, r2, r3, w, 256, r6, r7, r8], Lg)) o from ev_call (fun v μ => (d + 1, 0, 0, 252, 56, [.val (.ref 384), .val (.int p1), .val (.ref 768), .val (.int p3)], v.toList ++ [.int (p1 + 2), .ref 387], μ)) 1 ze9 e (fun n => Eq.refl _)
    obtain ⟨j7, zh10, h⟩ := bnd h
    have zh10 : ixx 11 (p1 + 2) = some j7 := zh10
    suffices e : Ev (d + 1, 0, 0, 252, 57, [.val (.ref 384), .val (.int p1), .val (.ref 768), .val (.int p3)], [], (126, 120, L, [Y, T, H2, H, RV, (u2 (u2 (u2 RU 3 j2 x1) 3 j4 x3) 3 j7 x6), ST, NS, I0, I1, I2, BO, FI, RG, GU, PU, MA, MN, MS, OT, SC], [r0, r1, r2, r3, w, 256, r6, r7, r8], Lg)) o from ev_opt (fun j7 => (d + 1, 0, 0, 252, 57, [.val (.ref 384), .val (.int p1), .val (.ref 768), .val (.int p3)], [], (126, 120, L, [Y, T, H2, H, RV, (u2 (u2 (u2 RU 3 j2 x1) 3 j4 x3) 3 j7 x6), ST, NS, I0, I1, I2, BO, FI, RG, GU, PU, MA, MN, MS, OT, SC], [r0, r1, r2, r3, w, 256, r6, r7, r8], Lg))) 1 zh10 e (fun n => Eq.refl _)
    obtain ⟨j8, zh11, h⟩ := bnd h
    have zh11 : ixx 11 (p1 + 3) = some j8 := zh11
    suffices e : Ev (d + 1, 0, 0, 252, 66, [.val (.ref 384), .val (.int p1), .val (.ref 768), .val (.int p3)], [], (126, 120, L, [Y, T, H2, H, RV, (u2 (u2 (u2 (u2 RU 3 j2 x1) 3 j4 x3) 3 j7 x6) 3 j8 p3), ST, NS, I0, I1, I2, BO, FI, RG, GU, PU, MA, MN, MS, OT, SC], [r0, r1, r2, r3, w, 256, r6, r7, r8], Lg)) o from ev_opt (fun j8 => (d + 1, 0, 0, 252, 66, [.val (.ref 384), .val (.int p1), .val (.ref 768), .val (.int p3)], [], (126, 120, L, [Y, T, H2, H, RV, (u2 (u2 (u2 (u2 RU 3 j2 x1) 3 j4 x3) 3 j7 x6) 3 j8 p3), ST, NS, I0, I1, I2, BO, FI, RG, GU, PU, MA, MN, MS, OT, SC], [r0, r1, r2, r3, w, 256, r6, r7, r8], Lg))) 7 zh11 e (fun n => Eq.refl _)
    have ze12 := Option.some.inj h
    subst ze12
    exact ev_rete 1 ho (fun n => Eq.refl _)
set_option maxRecDepth 1000000 in
set_option maxHeartbeats 4000000 in
theorem R_f_Rule_isSo_3 (d : Nat) (Y T H2 H RV RU ST NS I0 I1 I2 BO FI RG GU PU MA MN MS OT SC : Nat → Nat → Int32) (r0 r1 r2 r3 w r6 r7 r8 : Nat) (L : Nat) (Lg : Int64) (p2 : Int32) (p3 : Int32) {r : Int32 × (Nat → Nat → Int32)} (h : f_Rule_isSo H RU BO p2 p3 = some r) : Ev (d + 2, 0, 0, 253, 0, [.val (.ref 384), .val (.ref 768), .val (.int p2), .val (.int p3), .val a_unk, .val a_unk, .val a_unk], [], (126, 120, L, [Y, T, H2, H, RV, RU, ST, NS, I0, I1, I2, BO, FI, RG, GU, PU, MA, MN, MS, OT, SC], [r0, r1, r2, r3, w, 256, r6, r7, r8], Lg)) ((0, some (.int r.1), (126, 120, L, [Y, T, H2, H, RV, r.2, ST, NS, I0, I1, I2, BO, FI, RG, GU, PU, MA, MN, MS, OT, SC], [r0, r1, r2, r3, w, 256, r6, r7, r8], Lg)) : AOut) := by
  suffices key : ∀ o : AOut, ((0, some (.int r.1), (126, 120, L, [Y, T, H2, H, RV, r.2, ST, NS, I0, I1, I2, BO, FI, RG, GU, PU, MA, MN, MS, OT, SC], [r0, r1, r2, r3, w, 256, r6, r7, r8], Lg)) : AOut) = o → Ev (d + 2, 0, 0, 253, 0, [.val (.ref 384), .val (.ref 768), .val (.int p2), .val (.int p3), .val a_unk, .val a_unk, .val a_unk], [], (126, 120, L, [Y, T, H2, H, RV, RU, ST, NS, I0, I1, I2, BO, FI, RG, GU, PU, MA, MN, MS, OT, SC], [r0, r1, r2, r3, w, 256, r6, r7, r8], Lg)) o from key _ rfl
  intro o ho
  by_cases zc1 : (RU 0 1) ≠ 0
  · have h := itp h zc1
    suffices e : Ev (d + 2, 0, 0, 253, 9, [.val (.ref 384), .val (.ref 768), .val (.int p2), .val (.int p3), .val a_unk, .val a_unk, .val a_unk], [], (126, 120, L, [Y, T, H2, H, RV, RU, ST, NS, I0, I1, I2, BO, FI, RG, GU, PU, MA, MN, MS, OT, SC], [r0, r1, r2, r3, w, 256, r6, r7, r8], Lg)) o from ev_t (c := (RU 0 1) ≠ 0) _ _ 3  zc1 e (fun n => Eq.refl _)
    obtain ⟨RU_1, zh2, h⟩ := bnd h
    have zh2 : f_Rule_setMeeting H RU BO 0 p2 = some RU_1 := zh2
    have ze3 := R_f_Rule_setMeeting_3 (d + 0) Y T H2 H RV RU ST NS I0 I1 I2 BO FI RG GU PU MA MN MS OT SC r0 r1 r2 r3 w r6 r7 r8 L Lg 0 p2 zh2
    suffices e : Ev (d + 2, 0, 0, 253, 16, [.val (.ref 384), .val (.ref 768), .val (.int p2), .val (.int p3), .val a_unk, .val a_unk, .val a_unk], [], (126, 120, L, [Y, T, H2, H, RV, RU_1, ST, NS, I0, I1, I2, BO, FI, RG, GU, PU, MA, MN, MS, OT, SC], [r0, r1, r2, r3, w, 256, r6, r7, r8], Lg)) o from ev_call (fun v μ => (d + 2, 0, 0, 253, 16, [.val (.ref 384), .val (.ref 768), .val (.int p2), .val (.int p3), .val a_unk, .val a_unk, .val a_unk], v.toList ++ [], μ)) 5 ze3 e (fun n => Eq.refl _)
    obtain ⟨RU_2, zh4, h⟩ := bnd h
    have zh4 : f_Rule_setMeeting H RU_1 BO 4 p3 = some RU_2 := zh4
    have ze5 := R_f_Rule_setMeeting_3 (d + 0) Y T H2 H RV RU_1 ST NS I0 I1 I2 BO FI RG GU PU MA MN MS OT SC r0 r1 r2 r3 w r6 r7 r8 L Lg 4 p3 zh4
    suffices e : Ev (d + 2, 0, 0, 253, 23, [.val (.ref 384), .val (.ref 768), .val (.int p2), .val (.int p3), .val a_unk, .val a_unk, .val a_unk], [], (126, 120, L, [Y, T, H2, H, RV, RU_2, ST, NS, I0, I1, I2, BO, FI, RG, GU, PU, MA, MN, MS, OT, SC], [r0, r1, r2, r3, w, 256, r6, r7, r8], Lg)) o from ev_call (fun v μ => (d + 2, 0, 0, 253, 23, [.val (.ref 384), .val (.ref 768), .val (.int p2), .val (.int p3), .val a_unk, .val a_unk, .val a_unk], v.toList ++ [], μ)) 5 ze5 e (fun n => Eq.refl _)
    obtain ⟨zb6, zh7, h⟩ := bnd h
    suffices e : Ev (d + 2, 0, 0, 253, 29, [.val (.ref 384), .val (.ref 768), .val (.int p2), .val (.int p3), .val (.int 0), .val (.int 0), .val a_unk], [], (126, 120, L, [Y, T, H2, H, RV, RU_2, ST, NS, I0, I1, I2, BO, FI, RG, GU, PU, MA, MN, MS, OT, SC], [r0, r1, r2, r3, w, 256, r6, r7, r8], Lg)) o from ev_b 4 e (fun n => Eq.refl _)
    refine ev_loop (δ := Value) (fun a j => (d + 2, 0, 0, 253, 29, [.val (.ref 384), .val (.ref 768), .val (.int p2), .val (.int p3), .val (.int a.1), .val (.int a.2.1), .val j], [], (126, 120, L, [Y, T, H2, H, RV, a.2.2, ST, NS, I0, I1, I2, BO, FI, RG, GU, PU, MA, MN, MS, OT, SC], [r0, r1, r2, r3, w, 256, r6, r7, r8], Lg))) (fun b => ∀ s17 : Value, ∀ s18 : Value, Ev (d + 2, 0, 0, 253, 164, [.val (.ref 384), .val (.ref 768), .val (.int p2), .val (.int p3), .val (.int b.1), .val s17, .val s18], [], (126, 120, L, [Y, T, H2, H, RV, b.2, ST, NS, I0, I1, I2, BO, FI, RG, GU, PU, MA, MN, MS, OT, SC], [r0, r1, r2, r3, w, 256, r6, r7, r8], Lg)) o) ?_ a_F (0, 0, RU_2) zb6 zh7 ?_ a_unk
    · rintro ⟨v3, v4, RU_6⟩ zr11 zh10 zi8 zx9 s5
      have zh10 : f_Rule_isSo_l29 v3 v4 RU_6 = some zr11 := zh10
      by_cases zc12 : (RU_6 0 1) ≤ v4
      · have zh10 := itp zh10 zc12
        suffices e : Ev (d + 2, 0, 0, 253, 164, [.val (.ref 384), .val (.ref 768), .val (.int p2), .val (.int p3), .val (.int v3), .val (.int v4), .val s5], [], (126, 120, L, [Y, T, H2, H, RV, RU_6, ST, NS, I0, I1, I2, BO, FI, RG, GU, PU, MA, MN, MS, OT, SC], [r0, r1, r2, r3, w, 256, r6, r7, r8], Lg)) o from ev_t (c := (RU_6 0 1) ≤ v4) _ _ 4  zc12 e (fun n => Eq.refl _)
        exact ev_b 0 (zx9 _ (Option.some.inj zh10).symm (.int v4) s5) (fun n => Eq.refl _)
      · have zh10 := itn zh10 zc12
        suffices e : Ev (d + 2, 0, 0, 253, 38, [.val (.ref 384), .val (.ref 768), .val (.int p2), .val (.int p3), .val (.int v3), .val (.int v4), .val s5], [], (126, 120, L, [Y, T, H2, H, RV, RU_6, ST, NS, I0, I1, I2, BO, FI, RG, GU, PU, MA, MN, MS, OT, SC], [r0, r1, r2, r3, w, 256, r6, r7, r8], Lg)) o from ev_f (c := (RU_6 0 1) ≤ v4) _ _ 4  zc12 e (fun n => Eq.refl _)
        obtain ⟨x7, zh13, zh10⟩ := bnd zh10
        have zh13 : rdx (RU_6 1) 150 v4 = some x7 := zh13
        suffices e : Ev (d + 2, 0, 0, 253, 45, [.val (.ref 384), .val (.ref 768), .val (.int p2), .val (.int p3), .val (.int v3), .val (.int v4), .val s5], [.int x7], (126, 120, L, [Y, T, H2, H, RV, RU_6, ST, NS, I0, I1, I2, BO, FI, RG, GU, PU, MA, MN, MS, OT, SC], [r0, r1, r2, r3, w, 256, r6, r7, r8], Lg)) o from ev_opt (fun x7 => (d + 2, 0, 0, 253, 45, [.val (.ref 384), .val (.ref 768), .val (.int p2), .val (.int p3), .val (.int v3), .val (.int v4), .val s5], [.int x7], (126, 120, L, [Y, T, H2, H, RV, RU_6, ST, NS, I0, I1, I2, BO, FI, RG, GU, PU, MA, MN, MS, OT, SC], [r0, r1, r2, r3, w, 256, r6, r7, r8], Lg))) 4 zh13 e (fun n => Eq.refl _)
        obtain ⟨zt14, zh15, zh10⟩ := bnd zh10
        have zj16 : zt14 = .inl () → Ev (d + 2, 0, 0, 253, 82, [.val (.ref 384), .val (.ref 768), .val (.int p2), .val (.int p3), .val (.int v3), .val (.int v4), .val (.int x7)], [], (126, 120, L, [Y, T, H2, H, RV, RU_6, ST, NS, I0, I1, I2, BO, FI, RG, GU, PU, MA, MN, MS, OT, SC], [r0, r1, r2, r3, w, 256, r6, r7, r8], Lg)) o := by
          intro ze17
          have zh10 := sum_l zh10 ze17
          obtain ⟨zt18, zh19, zh10⟩ := bnd zh10
          have zj20 : zt18 = .inl () → Ev (d + 2, 0, 0, 253, 119, [.val (.ref 384), .val (.ref 768), .val (.int p2), .val (.int p3), .val (.int v3), .val (.int v4), .val (.int x7)], [], (126, 120, L, [Y, T, H2, H, RV, RU_6, ST, NS, I0, I1, I2, BO, FI, RG, GU, PU, MA, MN, MS, OT, SC], [r0, r1, r2, r3, w, 256, r6, r7, r8], Lg)) o := by
            intro ze21
            have zh10 := sum_l zh10 ze21
            by_cases zc22 : v3 < 2
            · have zh10 := itp zh10 zc22
              suffices e : Ev (d + 2, 0, 0, 253, 158, [.val (.ref 384), .val (.ref 768), .val (.int p2), .val (.int p3), .val (.int v3), .val (.int v4), .val (.int x7)], [], (126, 120, L, [Y, T, H2, H, RV, RU_6, ST, NS, I0, I1, I2, BO, FI, RG, GU, PU, MA, MN, MS, OT, SC], [r0, r1, r2, r3, w, 256, r6, r7, r8], Lg)) o from ev_t (c := v3 < 2) _ _ 3  zc22 e (fun n => Eq.refl _)
              exact ev_b 2 (zi8 _ (Option.some.inj zh10).symm (.int x7)) (fun n => Eq.refl _)
            · have zh10 := itn zh10 zc22
              suffices e : Ev (d + 2, 0, 0, 253, 125, [.val (.ref 384), .val (.ref 768), .val (.int p2), .val (.int p3), .val (.int v3), .val (.int v4), .val (.int x7)], [], (126, 120, L, [Y, T, H2, H, RV, RU_6, ST, NS, I0, I1, I2, BO, FI, RG, GU, PU, MA, MN, MS, OT, SC], [r0, r1, r2, r3, w, 256, r6, r7, r8], Lg)) o from ev_f (c := v3 < 2) _ _ 3  zc22 e (fun n => Eq.refl _)
              suffices e : Ev (d + 2, 0, 0, 253, 128, [.val (.ref 384), .val (.ref 768), .val (.int p2), .val (.int p3), .val (.int (v3 + (-1))), .val (.int v4), .val (.int x7)], [], (126, 120, L, [Y, T, H2, H, RV, RU_6, ST, NS, I0, I1, I2, BO, FI, RG, GU, PU, MA, MN, MS, OT, SC], [r0, r1, r2, r3, w, 256, r6, r7, r8], Lg)) o from ev_b 1 e (fun n => Eq.refl _)
              obtain ⟨x12, zh23, zh10⟩ := bnd zh10
              have zh23 : rdx (RU_6 2) 150 ((v3 + (-1)) - 1) = some x12 := zh23
              suffices e : Ev (d + 2, 0, 0, 253, 147, [.val (.ref 384), .val (.ref 768), .val (.int p2), .val (.int p3), .val (.int (v3 + (-1))), .val (.int v4), .val (.int x7)], [.int x12, .int x7, .int ((v3 + (-1)) - 1), .ref 386], (126, 120, L, [Y, T, H2, H, RV, RU_6, ST, NS, I0, I1, I2, BO, FI, RG, GU, PU, MA, MN, MS, OT, SC], [r0, r1, r2, r3, w, 256, r6, r7, r8], Lg)) o from ev_opt (fun x12 => (d + 2, 0, 0, 253, 147, [.val (.ref 384), .val (.ref 768), .val (.int p2), .val (.int p3), .val (.int (v3 + (-1))), .val (.int v4), .val (.int x7)], [.int x12, .int x7, .int ((v3 + (-1)) - 1), .ref 386], (126, 120, L, [Y, T, H2, H, RV, RU_6, ST, NS, I0, I1, I2, BO, FI, RG, GU, PU, MA, MN, MS, OT, SC], [r0, r1, r2, r3, w, 256, r6, r7, r8], Lg))) 12 zh23 e (fun n => Eq.refl _)
              obtain ⟨x13, zh24, zh10⟩ := bnd zh10
              have zh24 : rdx (RU_6 2) 150 (v3 + (-1)) = some x13 := zh24
              suffices e : Ev (d + 2, 0, 0, 253, 154, [.val (.ref 384), .val (.ref 768), .val (.int p2), .val (.int p3), .val (.int (v3 + (-1))), .val (.int v4), .val (.int x7)], [.int x13, .int x12, .int x7, .int ((v3 + (-1)) - 1), .ref 386], (126, 120, L, [Y, T, H2, H, RV, RU_6, ST, NS, I0, I1, I2, BO, FI, RG, GU, PU, MA, MN, MS, OT, SC], [r0, r1, r2, r3, w, 256, r6, r7, r8], Lg)) o from ev_opt (fun x13 => (d + 2, 0, 0, 253, 154, [.val (.ref 384), .val (.ref 768), .val (.int p2), .val (.int p3), .val (.int (v3 + (-1))), .val (.int v4), .val (.int x7)], [.int x13, .int x12, .int x7, .int ((v3 + (-1)) - 1), .ref 386], (126, 120, L, [Y, T, H2, H, RV, RU_6, ST, NS, I0, I1, I2, BO, FI, RG, GU, PU, MA, MN, MS, OT, SC], [r0, r1, r2, r3, w, 256, r6, r7, r8], Lg))) 4 zh24 e (fun n => Eq.refl _)
              obtain ⟨x14, zh25, zh10⟩ := bnd zh10
              have zh25 : f_Rule_apply x7 x12 x13 = some x14 := zh25
              have ze26 := R_f_Rule_apply_0 (d + 1) Y T H2 H RV RU_6 ST NS I0 I1 I2 BO FI RG GU PU MA MN MS OT SC r0 r1 r2 r3 w 256 r6 r7 r8 L Lg x7 x12 x13 zh25
              suffices e : Ev (d + 2, 0, 0, 253, 157, [.val (.ref 384), .val (.ref 768), .val (.int p2), .val (.int p3), .val (.int (v3 + (-1))), .val (.int v4), .val (.int x7)], [.int x14, .int ((v3 + (-1)) - 1), .ref 386], (126, 120, L, [Y, T, H2, H, RV, RU_6, ST, NS, I0, I1, I2, BO, FI, RG, GU, PU, MA, MN, MS, OT, SC], [r0, r1, r2, r3, w, 256, r6, r7, r8], Lg)) o from ev_call (fun v μ => (d + 2, 0, 0, 253, 157, [.val (.ref 384), .val (.ref 768), .val (.int p2), .val (.int p3), .val (.int (v3 + (-1))), .val (.int v4), .val (.int x7)], v.toList ++ [.int ((v3 + (-1)) - 1), .ref 386], μ)) 1 ze26 e (fun n => Eq.refl _)
              obtain ⟨j15, zh27, zh10⟩ := bnd zh10
              have zh27 : ixx 150 ((v3 + (-1)) - 1) = some j15 := zh27
              suffices e : Ev (d + 2, 0, 0, 253, 158, [.val (.ref 384), .val (.ref 768), .val (.int p2), .val (.int p3), .val (.int (v3 + (-1))), .val (.int v4), .val (.int x7)], [], (126, 120, L, [Y, T, H2, H, RV, (u2 RU_6 2 j15 x14), ST, NS, I0, I1, I2, BO, FI, RG, GU, PU, MA, MN, MS, OT, SC], [r0, r1, r2, r3, w, 256, r6, r7, r8], Lg)) o from ev_opt (fun j15 => (d + 2, 0, 0, 253, 158, [.val (.ref 384), .val (.ref 768), .val (.int p2), .val (.int p3), .val (.int (v3 + (-1))), .val (.int v4), .val (.int x7)], [], (126, 120, L, [Y, T, H2, H, RV, (u2 RU_6 2 j15 x14), ST, NS, I0, I1, I2, BO, FI, RG, GU, PU, MA, MN, MS, OT, SC], [r0, r1, r2, r3, w, 256, r6, r7, r8], Lg))) 1 zh27 e (fun n => Eq.refl _)
              exact ev_b 2 (zi8 _ (Option.some.inj zh10).symm (.int x7)) (fun n => Eq.refl _)
          by_cases zc28 : x7 ≠ 200
          · have zh19 := itp zh19 zc28
            suffices e : Ev (d + 2, 0, 0, 253, 119, [.val (.ref 384), .val (.ref 768), .val (.int p2), .val (.int p3), .val (.int v3), .val (.int v4), .val (.int x7)], [], (126, 120, L, [Y, T, H2, H, RV, RU_6, ST, NS, I0, I1, I2, BO, FI, RG, GU, PU, MA, MN, MS, OT, SC], [r0, r1, r2, r3, w, 256, r6, r7, r8], Lg)) o from ev_t (c := x7 ≠ 200) _ _ 3  zc28 e (fun n => Eq.refl _)
            exact ev_b 0 (zj20  (Option.some.inj zh19).symm ) (fun n => Eq.refl _)
          · have zh19 := itn zh19 zc28
            suffices e : Ev (d + 2, 0, 0, 253, 90, [.val (.ref 384), .val (.ref 768), .val (.int p2), .val (.int p3), .val (.int v3), .val (.int v4), .val (.int x7)], [], (126, 120, L, [Y, T, H2, H, RV, RU_6, ST, NS, I0, I1, I2, BO, FI, RG, GU, PU, MA, MN, MS, OT, SC], [r0, r1, r2, r3, w, 256, r6, r7, r8], Lg)) o from ev_f (c := x7 ≠ 200) _ _ 3  zc28 e (fun n => Eq.refl _)
            by_cases zc29 : v3 < 1
            · have zh19 := itp zh19 zc29
              suffices e : Ev (d + 2, 0, 0, 253, 119, [.val (.ref 384), .val (.ref 768), .val (.int p2), .val (.int p3), .val (.int v3), .val (.int v4), .val (.int x7)], [], (126, 120, L, [Y, T, H2, H, RV, RU_6, ST, NS, I0, I1, I2, BO, FI, RG, GU, PU, MA, MN, MS, OT, SC], [r0, r1, r2, r3, w, 256, r6, r7, r8], Lg)) o from ev_t (c := v3 < 1) _ _ 3  zc29 e (fun n => Eq.refl _)
              exact ev_b 0 (zj20  (Option.some.inj zh19).symm ) (fun n => Eq.refl _)
            · have zh19 := itn zh19 zc29
              suffices e : Ev (d + 2, 0, 0, 253, 96, [.val (.ref 384), .val (.ref 768), .val (.int p2), .val (.int p3), .val (.int v3), .val (.int v4), .val (.int x7)], [], (126, 120, L, [Y, T, H2, H, RV, RU_6, ST, NS, I0, I1, I2, BO, FI, RG, GU, PU, MA, MN, MS, OT, SC], [r0, r1, r2, r3, w, 256, r6, r7, r8], Lg)) o from ev_f (c := v3 < 1) _ _ 3  zc29 e (fun n => Eq.refl _)
              obtain ⟨x10, zh30, zh19⟩ := bnd zh19
              have zh30 : rdx (RU_6 2) 150 (v3 - 1) = some x10 := zh30
              suffices e : Ev (d + 2, 0, 0, 253, 114, [.val (.ref 384), .val (.ref 768), .val (.int p2), .val (.int p3), .val (.int v3), .val (.int v4), .val (.int x7)], [.int x10, .int 1, .int (v3 - 1), .ref 386], (126, 120, L, [Y, T, H2, H, RV, RU_6, ST, NS, I0, I1, I2, BO, FI, RG, GU, PU, MA, MN, MS, OT, SC], [r0, r1, r2, r3, w, 256, r6, r7, r8], Lg)) o from ev_opt (fun x10 => (d + 2, 0, 0, 253, 114, [.val (.ref 384), .val (.ref 768), .val (.int p2), .val (.int p3), .val (.int v3), .val (.int v4), .val (.int x7)], [.int x10, .int 1, .int (v3 - 1), .ref 386], (126, 120, L, [Y, T, H2, H, RV, RU_6, ST, NS, I0, I1, I2, BO, FI, RG, GU, PU, MA, MN, MS, OT, SC], [r0, r1, r2, r3, w, 256, r6, r7, r8], Lg))) 12 zh30 e (fun n => Eq.refl _)
              obtain ⟨j11, zh31, zh19⟩ := bnd zh19
              have zh31 : ixx 150 (v3 - 1) = some j11 := zh31
              suffices e : Ev (d + 2, 0, 0, 253, 116, [.val (.ref 384), .val (.ref 768), .val (.int p2), .val (.int p3), .val (.int v3), .val (.int v4), .val (.int x7)], [], (126, 120, L, [Y, T, H2, H, RV, (u2 RU_6 2 j11 (1 - x10)), ST, NS, I0, I1, I2, BO, FI, RG, GU, PU, MA, MN, MS, OT, SC], [r0, r1, r2, r3, w, 256, r6, r7, r8], Lg)) o from ev_opt (fun j11 => (d + 2, 0, 0, 253, 116, [.val (.ref 384), .val (.ref 768), .val (.int p2), .val (.int p3), .val (.int v3), .val (.int v4), .val (.int x7)], [], (126, 120, L, [Y, T, H2, H, RV, (u2 RU_6 2 j11 (1 - x10)), ST, NS, I0, I1, I2, BO, FI, RG, GU, PU, MA, MN, MS, OT, SC], [r0, r1, r2, r3, w, 256, r6, r7, r8], Lg))) 2 zh31 e (fun n => Eq.refl _)
              have zh32 := sum_r zh10 (Option.some.inj zh19).symm
              exact ev_b 3 (zi8 _ (Option.some.inj zh32).symm (.int x7)) (fun n => Eq.refl _)
        by_cases zc33 : 200 ≤ x7
        · have zh15 := itp zh15 zc33
          suffices e : Ev (d + 2, 0, 0, 253, 82, [.val (.ref 384), .val (.ref 768), .val (.int p2), .val (.int p3), .val (.int v3), .val (.int v4), .val (.int x7)], [], (126, 120, L, [Y, T, H2, H, RV, RU_6, ST, NS, I0, I1, I2, BO, FI, RG, GU, PU, MA, MN, MS, OT, SC], [r0, r1, r2, r3, w, 256, r6, r7, r8], Lg)) o from ev_t (c := 200 ≤ x7) _ _ 4  zc33 e (fun n => Eq.refl _)
          exact ev_b 0 (zj16  (Option.some.inj zh15).symm ) (fun n => Eq.refl _)
        · have zh15 := itn zh15 zc33
          suffices e : Ev (d + 2, 0, 0, 253, 55, [.val (.ref 384), .val (.ref 768), .val (.int p2), .val (.int p3), .val (.int v3), .val (.int v4), .val (.int x7)], [], (126, 120, L, [Y, T, H2, H, RV, RU_6, ST, NS, I0, I1, I2, BO, FI, RG, GU, PU, MA, MN, MS, OT, SC], [r0, r1, r2, r3, w, 256, r6, r7, r8], Lg)) o from ev_f (c := 200 ≤ x7) _ _ 4  zc33 e (fun n => Eq.refl _)
          by_cases zc34 : 150 ≤ v3
          · have zh15 := itp zh15 zc34
            suffices e : Ev (d + 2, 0, 0, 253, 82, [.val (.ref 384), .val (.ref 768), .val (.int p2), .val (.int p3), .val (.int v3), .val (.int v4), .val (.int x7)], [], (126, 120, L, [Y, T, H2, H, RV, RU_6, ST, NS, I0, I1, I2, BO, FI, RG, GU, PU, MA, MN, MS, OT, SC], [r0, r1, r2, r3, w, 256, r6, r7, r8], Lg)) o from ev_t (c := 150 ≤ v3) _ _ 3  zc34 e (fun n => Eq.refl _)
            exact ev_b 0 (zj16  (Option.some.inj zh15).symm ) (fun n => Eq.refl _)
          · have zh15 := itn zh15 zc34
            suffices e : Ev (d + 2, 0, 0, 253, 63, [.val (.ref 384), .val (.ref 768), .val (.int p2), .val (.int p3), .val (.int v3), .val (.int v4), .val (.int x7)], [], (126, 120, L, [Y, T, H2, H, RV, RU_6, ST, NS, I0, I1, I2, BO, FI, RG, GU, PU, MA, MN, MS, OT, SC], [r0, r1, r2, r3, w, 256, r6, r7, r8], Lg)) o from ev_f (c := 150 ≤ v3) _ _ 3  zc34 e (fun n => Eq.refl _)
            obtain ⟨x8, zh35, zh15⟩ := bnd zh15
            have zh35 : f_Rule_operand RU_6 x7 = some x8 := zh35
            have ze36 := R_f_Rule_operand_1 (d + 1) Y T H2 H RV RU_6 ST NS I0 I1 I2 BO FI RG GU PU MA MN MS OT SC r0 r1 r2 r3 w 256 r6 r7 r8 L Lg x7 zh35
            suffices e : Ev (d + 2, 0, 0, 253, 75, [.val (.ref 384), .val (.ref 768), .val (.int p2), .val (.int p3), .val (.int v3), .val (.int v4), .val (.int x7)], [.int x8, .int v3, .ref 386], (126, 120, L, [Y, T, H2, H, RV, RU_6, ST, NS, I0, I1, I2, BO, FI, RG, GU, PU, MA, MN, MS, OT, SC], [r0, r1, r2, r3, w, 256, r6, r7, r8], Lg)) o from ev_call (fun v μ => (d + 2, 0, 0, 253, 75, [.val (.ref 384), .val (.ref 768), .val (.int p2), .val (.int p3), .val (.int v3), .val (.int v4), .val (.int x7)], v.toList ++ [.int v3, .ref 386], μ)) 6 ze36 e (fun n => Eq.refl _)
            obtain ⟨j9, zh37, zh15⟩ := bnd zh15
            have zh37 : ixx 150 v3 = some j9 := zh37
            suffices e : Ev (d + 2, 0, 0, 253, 76, [.val (.ref 384), .val (.ref 768), .val (.int p2), .val (.int p3), .val (.int v3), .val (.int v4), .val (.int x7)], [], (126, 120, L, [Y, T, H2, H, RV, (u2 RU_6 2 j9 x8), ST, NS, I0, I1, I2, BO, FI, RG, GU, PU, MA, MN, MS, OT, SC], [r0, r1, r2, r3, w, 256, r6, r7, r8], Lg)) o from ev_opt (fun j9 => (d + 2, 0, 0, 253, 76, [.val (.ref 384), .val (.ref 768), .val (.int p2), .val (.int p3), .val (.int v3), .val (.int v4), .val (.int x7)], [], (126, 120, L, [Y, T, H2, H, RV, (u2 RU_6 2 j9 x8), ST, NS, I0, I1, I2, BO, FI, RG, GU, PU, MA, MN, MS, OT, SC], [r0, r1, r2, r3, w, 256, r6, r7, r8], Lg))) 1 zh37 e (fun n => Eq.refl _)
            have zh38 := sum_r zh10 (Option.some.inj zh15).symm
            exact ev_b 4 (zi8 _ (Option.some.inj zh38).symm (.int x7)) (fun n => Eq.refl _)
    · obtain ⟨v16, RU_19⟩ := zb6
      intro s17 s18
      by_cases zc39 : v16 ≠ 1
      · have h := itp h zc39
        suffices e : Ev (d + 2, 0, 0, 253, 183, [.val (.ref 384), .val (.ref 768), .val (.int p2), .val (.int p3), .val (.int v16), .val s17, .val s18], [], (126, 120, L, [Y, T, H2, H, RV, RU_19, ST, NS, I0, I1, I2, BO, FI, RG, GU, PU, MA, MN, MS, OT, SC], [r0, r1, r2, r3, w, 256, r6, r7, r8], Lg)) o from ev_t (c := v16 ≠ 1) _ _ 3  zc39 e (fun n => Eq.refl _)
        have ze40 := Option.some.inj h
        subst ze40
        exact ev_rete 2 ho (fun n => Eq.refl _)
      · have h := itn h zc39
        suffices e : Ev (d + 2, 0, 0, 253, 170, [.val (.ref 384), .val (.ref 768), .val (.int p2), .val (.int p3), .val (.int v16), .val s17, .val s18], [], (126, 120, L, [Y, T, H2, H, RV, RU_19, ST, NS, I0, I1, I2, BO, FI, RG, GU, PU, MA, MN, MS, OT, SC], [r0, r1, r2, r3, w, 256, r6, r7, r8], Lg)) o from ev_f (c := v16 ≠ 1) _ _ 3  zc39 e (fun n => Eq.refl _)
        obtain ⟨x20, zh41, h⟩ := bnd h
        have zh41 : rdx (RU_19 2) 150 0 = some x20 := zh41
        suffices e : Ev (d + 2, 0, 0, 253, 176, [.val (.ref 384), .val (.ref 768), .val (.int p2), .val (.int p3), .val (.int v16), .val s17, .val s18], [.int x20], (126, 120, L, [Y, T, H2, H, RV, RU_19, ST, NS, I0, I1, I2, BO, FI, RG, GU, PU, MA, MN, MS, OT, SC], [r0, r1, r2, r3, w, 256, r6, r7, r8], Lg)) o from ev_opt (fun x20 => (d + 2, 0, 0, 253, 176, [.val (.ref 384), .val (.ref 768), .val (.int p2), .val (.int p3), .val (.int v16), .val s17, .val s18], [.int x20], (126, 120, L, [Y, T, H2, H, RV, RU_19, ST, NS, I0, I1, I2, BO, FI, RG, GU, PU, MA, MN, MS, OT, SC], [r0, r1, r2, r3, w, 256, r6, r7, r8], Lg))) 4 zh41 e (fun n => Eq.refl _)
        by_cases zc42 : x20 = 0
        · have h := itp h zc42
          suffices e : Ev (d + 2, 0, 0, 253, 183, [.val (.ref 384), .val (.ref 768), .val (.int p2), .val (.int p3), .val (.int v16), .val s17, .val s18], [], (126, 120, L, [Y, T, H2, H, RV, RU_19, ST, NS, I0, I1, I2, BO, FI, RG, GU, PU, MA, MN, MS, OT, SC], [r0, r1, r2, r3, w, 256, r6, r7, r8], Lg)) o from ev_t (c := x20 = 0) _ _ 1  zc42 e (fun n => Eq.refl _)
          have ze43 := Option.some.inj h
          subst ze43
          exact ev_rete 2 ho (fun n => Eq.refl _)
        · have h := itn h zc42
          suffices e : Ev (d + 2, 0, 0, 253, 179, [.val (.ref 384), .val (.ref 768), .val (.int p2), .val (.int p3), .val (.int v16), .val s17, .val s18], [], (126, 120, L, [Y, T, H2, H, RV, RU_19, ST, NS, I0, I1, I2, BO, FI, RG, GU, PU, MA, MN, MS, OT, SC], [r0, r1, r2, r3, w, 256, r6, r7, r8], Lg)) o from ev_f (c := x20 = 0) _ _ 1  zc42 e (fun n => Eq.refl _)
          have ze44 := Option.some.inj h
          subst ze44
          exact ev_rete 3 ho (fun n => Eq.refl _)
  · have h := itn h zc1
    suffices e : Ev (d + 2, 0, 0, 253, 7, [.val (.ref 384), .val (.ref 768), .val (.int p2), .val (.int p3), .val a_unk, .val a_unk, .val a_unk], [], (126, 120, L, [Y, T, H2, H, RV, RU, ST, NS, I0, I1, I2, BO, FI, RG, GU, PU, MA, MN, MS, OT, SC], [r0, r1, r2, r3, w, 256, r6, r7, r8], Lg)) o from ev_f (c := (RU 0 1) ≠ 0) _ _ 3  zc1 e (fun n => Eq.refl _)
    have ze45 := Option.some.inj h
    subst ze45
    exact ev_rete 2 ho (fun n => Eq.refl _)
set_option maxRecDepth 1000000 in
set_option maxHeartbeats 4000000 in
theorem R_f_Y_yields_3 (d : Nat) (Y T H2 H RV RU ST NS I0 I1 I2 BO FI RG GU PU MA MN MS OT SC : Nat → Nat → Int32) (w r5 : Nat) (L : Nat) (Lg : Int64) (p1 : Int32) (p2 : Int32) {r : Nat × Int32 × (Nat → Nat → Int32) × (Nat → Nat → Int32) × (Nat → Nat → Int32) × Nat} (h : f_Y_yields Y H RU NS BO 256 r5 p1 p2 = some r) : Ev (d + 3, 3, 24, 322, 0, [.val (.ref 64), .val (.int p1), .val (.int p2), .val a_unk], [], (126, 120, L, [Y, T, H2, H, RV, RU, ST, NS, I0, I1, I2, BO, FI, RG, GU, PU, MA, MN, MS, OT, SC], [256, 192, 384, 320, w, r5, 576, 640, 704], Lg)) ((r.1, a_ov r.1 (.int r.2.1), (126, 120, L, [r.2.2.1, T, H2, H, RV, r.2.2.2.1, ST, NS, I0, I1, I2, r.2.2.2.2.1, FI, RG, GU, PU, MA, MN, MS, OT, SC], [256, 192, 384, 320, w, r.2.2.2.2.2, 576, 640, 704], Lg)) : AOut) := by
  suffices key : ∀ o : AOut, ((r.1, a_ov r.1 (.int r.2.1), (126, 120, L, [r.2.2.1, T, H2, H, RV, r.2.2.2.1, ST, NS, I0, I1, I2, r.2.2.2.2.1, FI, RG, GU, PU, MA, MN, MS, OT, SC], [256, 192, 384, 320, w, r.2.2.2.2.2, 576, 640, 704], Lg)) : AOut) = o → Ev (d + 3, 3, 24, 322, 0, [.val (.ref 64), .val (.int p1), .val (.int p2), .val a_unk], [], (126, 120, L, [Y, T, H2, H, RV, RU, ST, NS, I0, I1, I2, BO, FI, RG, GU, PU, MA, MN, MS, OT, SC], [256, 192, 384, 320, w, r5, 576, 640, 704], Lg)) o from key _ rfl
  intro o ho
  obtain ⟨⟨q1, Y_2⟩, zh1, h⟩ := bnd h
  have zh1 : f_Y_needMeeting Y H p1 = some (q1, Y_2) := zh1
  have ze2 := R_f_Y_needMeeting_3 (d + 1) Y T H2 H RV RU ST NS I0 I1 I2 BO FI RG GU PU MA MN MS OT SC w r5 L Lg p1 zh1
  cases q1 with
  | zero =>
    have h := itp h rfl
    suffices e : Ev (d + 3, 2, 16, 322, 5, [.val (.ref 64), .val (.int p1), .val (.int p2), .val a_unk], [], (126, 120, L, [Y_2, T, H2, H, RV, RU, ST, NS, I0, I1, I2, BO, FI, RG, GU, PU, MA, MN, MS, OT, SC], [256, 192, 384, 320, w, r5, 576, 640, 704], Lg)) o from ev_call (fun v μ => (d + 3, 2, 16, 322, 5, [.val (.ref 64), .val (.int p1), .val (.int p2), .val a_unk], v.toList ++ [], μ)) 3 ze2 e (fun n => Eq.refl _)
    obtain ⟨⟨q3, Y_4⟩, zh3, h⟩ := bnd h
    have zh3 : f_Y_needMeeting Y_2 H p2 = some (q3, Y_4) := zh3
    have ze4 := R_f_Y_needMeeting_3 (d + 1) Y_2 T H2 H RV RU ST NS I0 I1 I2 BO FI RG GU PU MA MN MS OT SC w r5 L Lg p2 zh3
    cases q3 with
    | zero =>
      have h := itp h rfl
      suffices e : Ev (d + 3, 1, 8, 322, 10, [.val (.ref 64), .val (.int p1), .val (.int p2), .val a_unk], [], (126, 120, L, [Y_4, T, H2, H, RV, RU, ST, NS, I0, I1, I2, BO, FI, RG, GU, PU, MA, MN, MS, OT, SC], [256, 192, 384, 320, w, r5, 576, 640, 704], Lg)) o from ev_call (fun v μ => (d + 3, 1, 8, 322, 10, [.val (.ref 64), .val (.int p1), .val (.int p2), .val a_unk], v.toList ++ [], μ)) 3 ze4 e (fun n => Eq.refl _)
      obtain ⟨zt5, zh6, h⟩ := bnd h
      have zj7 : ∀ (v6 : Int32), v6 = zt5 → Ev (d + 3, 1, 8, 322, 34, [.val (.ref 64), .val (.int p1), .val (.int p2), .val a_unk], [.int v6, .ref 64], (126, 120, L, [Y_4, T, H2, H, RV, RU, ST, NS, I0, I1, I2, BO, FI, RG, GU, PU, MA, MN, MS, OT, SC], [256, 192, 384, 320, w, r5, 576, 640, 704], Lg)) o := by
        intro v6 ze8
        subst ze8
        obtain ⟨⟨q7, Y_8⟩, zh9, h⟩ := bnd h
        have zh9 : f_Y_refuseUnless Y_4 v6 = some (q7, Y_8) := zh9
        have ze10 := R_f_Y_refuseUnless_3 (d + 2) Y_4 T H2 H RV RU ST NS I0 I1 I2 BO FI RG GU PU MA MN MS OT SC w r5 L Lg v6 zh9
        cases q7 with
        | zero =>
          have h := itp h rfl
          suffices e : Ev (d + 3, 0, 0, 322, 37, [.val (.ref 64), .val (.int p1), .val (.int p2), .val a_unk], [], (126, 120, L, [Y_8, T, H2, H, RV, RU, ST, NS, I0, I1, I2, BO, FI, RG, GU, PU, MA, MN, MS, OT, SC], [256, 192, 384, 320, w, r5, 576, 640, 704], Lg)) o from ev_call (fun v μ => (d + 3, 0, 0, 322, 37, [.val (.ref 64), .val (.int p1), .val (.int p2), .val a_unk], v.toList ++ [], μ)) 1 ze10 e (fun n => Eq.refl _)
          obtain ⟨BO_10, zh11, h⟩ := bnd h
          have zh11 : f_Y_lookNow H NS BO = some BO_10 := zh11
          have ze12 := R_f_Y_lookNow_3 (d + 0) Y_8 T H2 H RV RU ST NS I0 I1 I2 BO FI RG GU PU MA MN MS OT SC w r5 L Lg zh11
          suffices e : Ev (d + 3, 0, 0, 322, 41, [.val (.ref 64), .val (.int p1), .val (.int p2), .val a_unk], [.ref 768], (126, 120, L, [Y_8, T, H2, H, RV, RU, ST, NS, I0, I1, I2, BO_10, FI, RG, GU, PU, MA, MN, MS, OT, SC], [256, 192, 384, 320, w, 256, 576, 640, 704], Lg)) o from ev_call (fun v μ => (d + 3, 0, 0, 322, 41, [.val (.ref 64), .val (.int p1), .val (.int p2), .val a_unk], v.toList ++ [], μ)) 2 ze12 e (fun n => Eq.refl _)
          suffices e : Ev (d + 3, 0, 0, 322, 46, [.val (.ref 64), .val (.int p1), .val (.int p2), .val (.ref 768)], [.ref 384], (126, 120, L, [Y_8, T, H2, H, RV, RU, ST, NS, I0, I1, I2, BO_10, FI, RG, GU, PU, MA, MN, MS, OT, SC], [256, 192, 384, 320, w, 256, 576, 640, 704], Lg)) o from ev_b 3 e (fun n => Eq.refl _)
          obtain ⟨x11, zh13, h⟩ := bnd h
          have zh13 : rdx (BO_10 1) 10 p1 = some x11 := zh13
          suffices e : Ev (d + 3, 0, 0, 322, 52, [.val (.ref 64), .val (.int p1), .val (.int p2), .val (.ref 768)], [.int x11, .ref 384], (126, 120, L, [Y_8, T, H2, H, RV, RU, ST, NS, I0, I1, I2, BO_10, FI, RG, GU, PU, MA, MN, MS, OT, SC], [256, 192, 384, 320, w, 256, 576, 640, 704], Lg)) o from ev_opt (fun x11 => (d + 3, 0, 0, 322, 52, [.val (.ref 64), .val (.int p1), .val (.int p2), .val (.ref 768)], [.int x11, .ref 384], (126, 120, L, [Y_8, T, H2, H, RV, RU, ST, NS, I0, I1, I2, BO_10, FI, RG, GU, PU, MA, MN, MS, OT, SC], [256, 192, 384, 320, w, 256, 576, 640, 704], Lg))) 4 zh13 e (fun n => Eq.refl _)
          obtain ⟨RU_12, zh14, h⟩ := bnd h
          have zh14 : f_Rule_setWanted RU x11 0 = some RU_12 := zh14
          have ze15 := R_f_Rule_setWanted_1 (d + 1) Y_8 T H2 H RV RU ST NS I0 I1 I2 BO_10 FI RG GU PU MA MN MS OT SC 256 192 384 320 w 256 576 640 704 L Lg x11 0 zh14
          suffices e : Ev (d + 3, 0, 0, 322, 56, [.val (.ref 64), .val (.int p1), .val (.int p2), .val (.ref 768)], [], (126, 120, L, [Y_8, T, H2, H, RV, RU_12, ST, NS, I0, I1, I2, BO_10, FI, RG, GU, PU, MA, MN, MS, OT, SC], [256, 192, 384, 320, w, 256, 576, 640, 704], Lg)) o from ev_call (fun v μ => (d + 3, 0, 0, 322, 56, [.val (.ref 64), .val (.int p1), .val (.int p2), .val (.ref 768)], v.toList ++ [], μ)) 2 ze15 e (fun n => Eq.refl _)
          suffices e : Ev (d + 3, 0, 0, 322, 60, [.val (.ref 64), .val (.int p1), .val (.int p2), .val (.ref 768)], [.ref 384], (126, 120, L, [Y_8, T, H2, H, RV, RU_12, ST, NS, I0, I1, I2, BO_10, FI, RG, GU, PU, MA, MN, MS, OT, SC], [256, 192, 384, 320, w, 256, 576, 640, 704], Lg)) o from ev_b 2 e (fun n => Eq.refl _)
          obtain ⟨⟨x13, RU_14⟩, zh16, h⟩ := bnd h
          have zh16 : f_Rule_isSo H RU_12 BO_10 p1 p2 = some (x13, RU_14) := zh16
          have ze17 := R_f_Rule_isSo_3 (d + 0) Y_8 T H2 H RV RU_12 ST NS I0 I1 I2 BO_10 FI RG GU PU MA MN MS OT SC 256 192 384 320 w 576 640 704 L Lg p1 p2 zh16
          suffices e : Ev (d + 3, 0, 0, 322, 66, [.val (.ref 64), .val (.int p1), .val (.int p2), .val (.ref 768)], [.int x13], (126, 120, L, [Y_8, T, H2, H, RV, RU_14, ST, NS, I0, I1, I2, BO_10, FI, RG, GU, PU, MA, MN, MS, OT, SC], [256, 192, 384, 320, w, 256, 576, 640, 704], Lg)) o from ev_call (fun v μ => (d + 3, 0, 0, 322, 66, [.val (.ref 64), .val (.int p1), .val (.int p2), .val (.ref 768)], v.toList ++ [], μ)) 4 ze17 e (fun n => Eq.refl _)
          have ze18 := Option.some.inj h
          subst ze18
          exact ev_rete 1 ho (fun n => Eq.refl _)
        | succ q7 =>
          have h := itn h (Nat.succ_ne_zero q7)
          have ze19 := Option.some.inj h
          subst ze19
          subst ho
          exact ev_thr (fun v μ => (d + 3, 0, 0, 322, 37, [.val (.ref 64), .val (.int p1), .val (.int p2), .val a_unk], v.toList ++ [], μ)) 1 ze10 (fun n => Eq.refl _) (fun n => rfl)
      obtain ⟨zt20, zh21, zh6⟩ := bnd zh6
      have zj22 : zt20 = .inl () → Ev (d + 3, 1, 8, 322, 33, [.val (.ref 64), .val (.int p1), .val (.int p2), .val a_unk], [.ref 64], (126, 120, L, [Y_4, T, H2, H, RV, RU, ST, NS, I0, I1, I2, BO, FI, RG, GU, PU, MA, MN, MS, OT, SC], [256, 192, 384, 320, w, r5, 576, 640, 704], Lg)) o := by
        intro ze23
        have zh6 := sum_l zh6 ze23
        exact ev_b 1 (zj7 0 (Option.some.inj zh6) ) (fun n => Eq.refl _)
      by_cases zc24 : p1 = p2
      · have zh21 := itp zh21 zc24
        suffices e : Ev (d + 3, 1, 8, 322, 33, [.val (.ref 64), .val (.int p1), .val (.int p2), .val a_unk], [.ref 64], (126, 120, L, [Y_4, T, H2, H, RV, RU, ST, NS, I0, I1, I2, BO, FI, RG, GU, PU, MA, MN, MS, OT, SC], [256, 192, 384, 320, w, r5, 576, 640, 704], Lg)) o from ev_t (c := p1 = p2) _ _ 4  zc24 e (fun n => Eq.refl _)
        exact ev_b 0 (zj22  (Option.some.inj zh21).symm ) (fun n => Eq.refl _)
      · have zh21 := itn zh21 zc24
        suffices e : Ev (d + 3, 1, 8, 322, 16, [.val (.ref 64), .val (.int p1), .val (.int p2), .val a_unk], [.ref 64], (126, 120, L, [Y_4, T, H2, H, RV, RU, ST, NS, I0, I1, I2, BO, FI, RG, GU, PU, MA, MN, MS, OT, SC], [256, 192, 384, 320, w, r5, 576, 640, 704], Lg)) o from ev_f (c := p1 = p2) _ _ 4  zc24 e (fun n => Eq.refl _)
        obtain ⟨x5, zh25, zh21⟩ := bnd zh21
        have zh25 : rdx (NS 1) 10 p1 = some x5 := zh25
        suffices e : Ev (d + 3, 1, 8, 322, 25, [.val (.ref 64), .val (.int p1), .val (.int p2), .val a_unk], [.int x5, .ref 64], (126, 120, L, [Y_4, T, H2, H, RV, RU, ST, NS, I0, I1, I2, BO, FI, RG, GU, PU, MA, MN, MS, OT, SC], [256, 192, 384, 320, w, r5, 576, 640, 704], Lg)) o from ev_opt (fun x5 => (d + 3, 1, 8, 322, 25, [.val (.ref 64), .val (.int p1), .val (.int p2), .val a_unk], [.int x5, .ref 64], (126, 120, L, [Y_4, T, H2, H, RV, RU, ST, NS, I0, I1, I2, BO, FI, RG, GU, PU, MA, MN, MS, OT, SC], [256, 192, 384, 320, w, r5, 576, 640, 704], Lg))) 5 zh25 e (fun n => Eq.refl _)
        by_cases zc26 : x5 = (-1)
        · have zh21 := itp zh21 zc26
          suffices e : Ev (d + 3, 1, 8, 322, 33, [.val (.ref 64), .val (.int p1), .val (.int p2), .val a_unk], [.ref 64], (126, 120, L, [Y_4, T, H2, H, RV, RU, ST, NS, I0, I1, I2, BO, FI, RG, GU, PU, MA, MN, MS, OT, SC], [256, 192, 384, 320, w, r5, 576, 640, 704], Lg)) o from ev_t (c := x5 = (-1)) _ _ 2  zc26 e (fun n => Eq.refl _)
          exact ev_b 0 (zj22  (Option.some.inj zh21).symm ) (fun n => Eq.refl _)
        · have zh21 := itn zh21 zc26
          suffices e : Ev (d + 3, 1, 8, 322, 29, [.val (.ref 64), .val (.int p1), .val (.int p2), .val a_unk], [.ref 64], (126, 120, L, [Y_4, T, H2, H, RV, RU, ST, NS, I0, I1, I2, BO, FI, RG, GU, PU, MA, MN, MS, OT, SC], [256, 192, 384, 320, w, r5, 576, 640, 704], Lg)) o from ev_f (c := x5 = (-1)) _ _ 2  zc26 e (fun n => Eq.refl _)
          have zh27 := sum_r zh6 (Option.some.inj zh21).symm
          exact ev_b 2 (zj7 1 (Option.some.inj zh27) ) (fun n => Eq.refl _)
    | succ q3 =>
      have h := itn h (Nat.succ_ne_zero q3)
      have ze28 := Option.some.inj h
      subst ze28
      subst ho
      exact ev_thr (fun v μ => (d + 3, 1, 8, 322, 10, [.val (.ref 64), .val (.int p1), .val (.int p2), .val a_unk], v.toList ++ [], μ)) 3 ze4 (fun n => Eq.refl _) (fun n => rfl)
  | succ q1 =>
    have h := itn h (Nat.succ_ne_zero q1)
    have ze29 := Option.some.inj h
    subst ze29
    subst ho
    exact ev_thr (fun v μ => (d + 3, 2, 16, 322, 5, [.val (.ref 64), .val (.int p1), .val (.int p2), .val a_unk], v.toList ++ [], μ)) 3 ze2 (fun n => Eq.refl _) (fun n => rfl)
set_option maxRecDepth 1000000 in
set_option maxHeartbeats 4000000 in
theorem R_f_Pusher_mayEnter_0 (d : Nat) (Y T H H2 RA RB ST NS I0 I1 I2 BO FI RG GU PU MA MN MS OT SC : Nat → Nat → Int32) (r0 r1 r2 r3 w r6 r7 r8 : Nat) (L : Nat) (Lg : Int64) (p1 : Int32) (p2 : Int32) (p3 : Int32) {r : Int32} (h : f_Pusher_mayEnter H BO p1 p2 p3 = some r) : Ev (d + 2, 0, 0, 226, 0, [.val (.ref 1024), .val (.int p1), .val (.int p2), .val (.int p3)], [], (126, 120, L, [Y, T, H, H2, RA, RB, ST, NS, I0, I1, I2, BO, FI, RG, GU, PU, MA, MN, MS, OT, SC], [r0, r1, r2, r3, w, 192, r6, r7, r8], Lg)) ((0, some (.int r), (126, 120, L, [Y, T, H, H2, RA, RB, ST, NS, I0, I1, I2, BO, FI, RG, GU, PU, MA, MN, MS, OT, SC], [r0, r1, r2, r3, w, 192, r6, r7, r8], Lg)) : AOut) := by
  suffices key : ∀ o : AOut, ((0, some (.int r), (126, 120, L, [Y, T, H, H2, RA, RB, ST, NS, I0, I1, I2, BO, FI, RG, GU, PU, MA, MN, MS, OT, SC], [r0, r1, r2, r3, w, 192, r6, r7, r8], Lg)) : AOut) = o → Ev (d + 2, 0, 0, 226, 0, [.val (.ref 1024), .val (.int p1), .val (.int p2), .val (.int p3)], [], (126, 120, L, [Y, T, H, H2, RA, RB, ST, NS, I0, I1, I2, BO, FI, RG, GU, PU, MA, MN, MS, OT, SC], [r0, r1, r2, r3, w, 192, r6, r7, r8], Lg)) o from key _ rfl
  intro o ho
  suffices e : Ev (d + 2, 0, 0, 226, 8, [.val (.ref 1024), .val (.int p1), .val (.int p2), .val (.int p3)], [.ref 192, .int p3], (126, 120, L, [Y, T, H, H2, RA, RB, ST, NS, I0, I1, I2, BO, FI, RG, GU, PU, MA, MN, MS, OT, SC], [r0, r1, r2, r3, w, 192, r6, r7, r8], Lg)) o from ev_b 4 e (fun n => Eq.refl _)
  by_cases zc1 : (p3 &&& (H 0 5)) ≠ 0
  · have h := itp h zc1
    suffices e : Ev (d + 2, 0, 0, 226, 42, [.val (.ref 1024), .val (.int p1), .val (.int p2), .val (.int p3)], [], (126, 120, L, [Y, T, H, H2, RA, RB, ST, NS, I0, I1, I2, BO, FI, RG, GU, PU, MA, MN, MS, OT, SC], [r0, r1, r2, r3, w, 192, r6, r7, r8], Lg)) o from ev_t (c := (p3 &&& (H 0 5)) ≠ 0) _ _ 3  zc1 e (fun n => Eq.refl _)
    have ze2 := Option.some.inj h
    subst ze2
    exact ev_rete 2 ho (fun n => Eq.refl _)
  · have h := itn h zc1
    suffices e : Ev (d + 2, 0, 0, 226, 15, [.val (.ref 1024), .val (.int p1), .val (.int p2), .val (.int p3)], [], (126, 120, L, [Y, T, H, H2, RA, RB, ST, NS, I0, I1, I2, BO, FI, RG, GU, PU, MA, MN, MS, OT, SC], [r0, r1, r2, r3, w, 192, r6, r7, r8], Lg)) o from ev_f (c := (p3 &&& (H 0 5)) ≠ 0) _ _ 3  zc1 e (fun n => Eq.refl _)
    obtain ⟨x1, zh3, h⟩ := bnd h
    have zh3 : f_Board_isHeldPlace BO p2 = some x1 := zh3
    have ze4 := R_f_Board_isHeldPlace_0 (d + 0) Y T H H2 RA RB ST NS I0 I1 I2 BO FI RG GU PU MA MN MS OT SC r0 r1 r2 r3 w r6 r7 r8 L Lg p2 zh3
    suffices e : Ev (d + 2, 0, 0, 226, 23, [.val (.ref 1024), .val (.int p1), .val (.int p2), .val (.int p3)], [.int x1], (126, 120, L, [Y, T, H, H2, RA, RB, ST, NS, I0, I1, I2, BO, FI, RG, GU, PU, MA, MN, MS, OT, SC], [r0, r1, r2, r3, w, 192, r6, r7, r8], Lg)) o from ev_call (fun v μ => (d + 2, 0, 0, 226, 23, [.val (.ref 1024), .val (.int p1), .val (.int p2), .val (.int p3)], v.toList ++ [], μ)) 4 ze4 e (fun n => Eq.refl _)
    by_cases zc5 : x1 ≠ 0
    · have h := itp h zc5
      suffices e : Ev (d + 2, 0, 0, 226, 42, [.val (.ref 1024), .val (.int p1), .val (.int p2), .val (.int p3)], [], (126, 120, L, [Y, T, H, H2, RA, RB, ST, NS, I0, I1, I2, BO, FI, RG, GU, PU, MA, MN, MS, OT, SC], [r0, r1, r2, r3, w, 192, r6, r7, r8], Lg)) o from ev_t (c := x1 ≠ 0) _ _ 1  zc5 e (fun n => Eq.refl _)
      have ze6 := Option.some.inj h
      subst ze6
      exact ev_rete 2 ho (fun n => Eq.refl _)
    · have h := itn h zc5
      suffices e : Ev (d + 2, 0, 0, 226, 26, [.val (.ref 1024), .val (.int p1), .val (.int p2), .val (.int p3)], [], (126, 120, L, [Y, T, H, H2, RA, RB, ST, NS, I0, I1, I2, BO, FI, RG, GU, PU, MA, MN, MS, OT, SC], [r0, r1, r2, r3, w, 192, r6, r7, r8], Lg)) o from ev_f (c := x1 ≠ 0) _ _ 1  zc5 e (fun n => Eq.refl _)
      obtain ⟨x2, zh7, h⟩ := bnd h
      have zh7 : f_Board_lastingClashes H p1 p2 = some x2 := zh7
      have ze8 := R_f_Board_lastingClashes_0 (d + 0) Y T H H2 RA RB ST NS I0 I1 I2 BO FI RG GU PU MA MN MS OT SC r0 r1 r2 r3 w r6 r7 r8 L Lg p1 p2 zh7
      suffices e : Ev (d + 2, 0, 0, 226, 35, [.val (.ref 1024), .val (.int p1), .val (.int p2), .val (.int p3)], [.int x2], (126, 120, L, [Y, T, H, H2, RA, RB, ST, NS, I0, I1, I2, BO, FI, RG, GU, PU, MA, MN, MS, OT, SC], [r0, r1, r2, r3, w, 192, r6, r7, r8], Lg)) o from ev_call (fun v μ => (d + 2, 0, 0, 226, 35, [.val (.ref 1024), .val (.int p1), .val (.int p2), .val (.int p3)], v.toList ++ [], μ)) 5 ze8 e (fun n => Eq.refl _)
      by_cases zc9 : x2 ≠ 0
      · have h := itp h zc9
        suffices e : Ev (d + 2, 0, 0, 226, 42, [.val (.ref 1024), .val (.int p1), .val (.int p2), .val (.int p3)], [], (126, 120, L, [Y, T, H, H2, RA, RB, ST, NS, I0, I1, I2, BO, FI, RG, GU, PU, MA, MN, MS, OT, SC], [r0, r1, r2, r3, w, 192, r6, r7, r8], Lg)) o from ev_t (c := x2 ≠ 0) _ _ 1  zc9 e (fun n => Eq.refl _)
        have ze10 := Option.some.inj h
        subst ze10
        exact ev_rete 2 ho (fun n => Eq.refl _)
      · have h := itn h zc9
        suffices e : Ev (d + 2, 0, 0, 226, 38, [.val (.ref 1024), .val (.int p1), .val (.int p2), .val (.int p3)], [], (126, 120, L, [Y, T, H, H2, RA, RB, ST, NS, I0, I1, I2, BO, FI, RG, GU, PU, MA, MN, MS, OT, SC], [r0, r1, r2, r3, w, 192, r6, r7, r8], Lg)) o from ev_f (c := x2 ≠ 0) _ _ 1  zc9 e (fun n => Eq.refl _)
        have ze11 := Option.some.inj h
        subst ze11
        exact ev_rete 3 ho (fun n => Eq.refl _)
set_option maxRecDepth 1000000 in
set_option maxHeartbeats 4000000 in
theorem R_f_Pusher_leave_0 (d : Nat) (Y T H H2 RA RB ST NS I0 I1 I2 BO FI RG GU PU MA MN MS OT SC : Nat → Nat → Int32) (r0 r1 r2 r3 w r6 r7 r8 : Nat) (L : Nat) (Lg : Int64) (p1 : Int32) {r : (Nat → Nat → Int32) × (Nat → Nat → Int32)} (h : f_Pusher_leave H BO PU p1 = some r) : Ev (d + 0, 0, 0, 227, 0, [.val (.ref 1024), .val (.int p1), .val a_unk], [], (126, 120, L, [Y, T, H, H2, RA, RB, ST, NS, I0, I1, I2, BO, FI, RG, GU, PU, MA, MN, MS, OT, SC], [r0, r1, r2, r3, w, 192, r6, r7, r8], Lg)) ((0, none, (126, 120, L, [Y, T, H, H2, RA, RB, ST, NS, I0, I1, I2, r.1, FI, RG, GU, r.2, MA, MN, MS, OT, SC], [r0, r1, r2, r3, w, 192, r6, r7, r8], Lg)) : AOut) := by
  suffices key : ∀ o : AOut, ((0, none, (126, 120, L, [Y, T, H, H2, RA, RB, ST, NS, I0, I1, I2, r.1, FI, RG, GU, r.2, MA, MN, MS, OT, SC], [r0, r1, r2, r3, w, 192, r6, r7, r8], Lg)) : AOut) = o → Ev (d + 0, 0, 0, 227, 0, [.val (.ref 1024), .val (.int p1), .val a_unk], [], (126, 120, L, [Y, T, H, H2, RA, RB, ST, NS, I0, I1, I2, BO, FI, RG, GU, PU, MA, MN, MS, OT, SC], [r0, r1, r2, r3, w, 192, r6, r7, r8], Lg)) o from key _ rfl
  intro o ho
  obtain ⟨zb1, zh2, h⟩ := bnd h
  suffices e : Ev (d + 0, 0, 0, 227, 2, [.val (.ref 1024), .val (.int p1), .val (.int 0)], [], (126, 120, L, [Y, T, H, H2, RA, RB, ST, NS, I0, I1, I2, BO, FI, RG, GU, PU, MA, MN, MS, OT, SC], [r0, r1, r2, r3, w, 192, r6, r7, r8], Lg)) o from ev_b 2 e (fun n => Eq.refl _)
  refine ev_loop (δ := Unit) (fun a j => (d + 0, 0, 0, 227, 2, [.val (.ref 1024), .val (.int p1), .val (.int a.1)], [], (126, 120, L, [Y, T, H, H2, RA, RB, ST, NS, I0, I1, I2, a.2.1, FI, RG, GU, a.2.2, MA, MN, MS, OT, SC], [r0, r1, r2, r3, w, 192, r6, r7, r8], Lg))) (fun b => ∀ s6 : Value, Ev (d + 0, 0, 0, 227, 69, [.val (.ref 1024), .val (.int p1), .val s6], [], (126, 120, L, [Y, T, H, H2, RA, RB, ST, NS, I0, I1, I2, b.1, FI, RG, GU, b.2, MA, MN, MS, OT, SC], [r0, r1, r2, r3, w, 192, r6, r7, r8], Lg)) o) ?_ a_F (0, BO, PU) zb1 zh2 ?_ ()
  · rintro ⟨v1, BO_2, PU_3⟩ zr6 zh5 zi3 zx4 ⟨⟩
    have zh5 : f_Pusher_leave_l2 H p1 v1 BO_2 PU_3 = some zr6 := zh5
    suffices e : Ev (d + 0, 0, 0, 227, 10, [.val (.ref 1024), .val (.int p1), .val (.int v1)], [.ref 192, .int v1], (126, 120, L, [Y, T, H, H2, RA, RB, ST, NS, I0, I1, I2, BO_2, FI, RG, GU, PU_3, MA, MN, MS, OT, SC], [r0, r1, r2, r3, w, 192, r6, r7, r8], Lg)) o from ev_b 4 e (fun n => Eq.refl _)
    by_cases zc7 : (H 0 3) ≤ v1
    · have zh5 := itp zh5 zc7
      suffices e : Ev (d + 0, 0, 0, 227, 69, [.val (.ref 1024), .val (.int p1), .val (.int v1)], [], (126, 120, L, [Y, T, H, H2, RA, RB, ST, NS, I0, I1, I2, BO_2, FI, RG, GU, PU_3, MA, MN, MS, OT, SC], [r0, r1, r2, r3, w, 192, r6, r7, r8], Lg)) o from ev_t (c := (H 0 3) ≤ v1) _ _ 2  zc7 e (fun n => Eq.refl _)
      exact ev_b 0 (zx4 _ (Option.some.inj zh5).symm (.int v1)) (fun n => Eq.refl _)
    · have zh5 := itn zh5 zc7
      suffices e : Ev (d + 0, 0, 0, 227, 16, [.val (.ref 1024), .val (.int p1), .val (.int v1)], [], (126, 120, L, [Y, T, H, H2, RA, RB, ST, NS, I0, I1, I2, BO_2, FI, RG, GU, PU_3, MA, MN, MS, OT, SC], [r0, r1, r2, r3, w, 192, r6, r7, r8], Lg)) o from ev_f (c := (H 0 3) ≤ v1) _ _ 2  zc7 e (fun n => Eq.refl _)
      by_cases zc8 : ((a_shr p1 v1) &&& 1) = 0
      · have zh5 := itp zh5 zc8
        suffices e : Ev (d + 0, 0, 0, 227, 63, [.val (.ref 1024), .val (.int p1), .val (.int v1)], [], (126, 120, L, [Y, T, H, H2, RA, RB, ST, NS, I0, I1, I2, BO_2, FI, RG, GU, PU_3, MA, MN, MS, OT, SC], [r0, r1, r2, r3, w, 192, r6, r7, r8], Lg)) o from ev_t (c := ((a_shr p1 v1) &&& 1) = 0) _ _ 6  zc8 e (fun n => Eq.refl _)
        exact ev_b 2 (zi3 _ (Option.some.inj zh5).symm ()) (fun n => Eq.refl _)
      · have zh5 := itn zh5 zc8
        suffices e : Ev (d + 0, 0, 0, 227, 24, [.val (.ref 1024), .val (.int p1), .val (.int v1)], [], (126, 120, L, [Y, T, H, H2, RA, RB, ST, NS, I0, I1, I2, BO_2, FI, RG, GU, PU_3, MA, MN, MS, OT, SC], [r0, r1, r2, r3, w, 192, r6, r7, r8], Lg)) o from ev_f (c := ((a_shr p1 v1) &&& 1) = 0) _ _ 6  zc8 e (fun n => Eq.refl _)
        by_cases zc9 : 10 ≤ (PU_3 0 2)
        · have zh5 := itp zh5 zc9
          suffices e : Ev (d + 0, 0, 0, 227, 63, [.val (.ref 1024), .val (.int p1), .val (.int v1)], [], (126, 120, L, [Y, T, H, H2, RA, RB, ST, NS, I0, I1, I2, BO_2, FI, RG, GU, PU_3, MA, MN, MS, OT, SC], [r0, r1, r2, r3, w, 192, r6, r7, r8], Lg)) o from ev_t (c := 10 ≤ (PU_3 0 2)) _ _ 4  zc9 e (fun n => Eq.refl _)
          exact ev_b 2 (zi3 _ (Option.some.inj zh5).symm ()) (fun n => Eq.refl _)
        · have zh5 := itn zh5 zc9
          suffices e : Ev (d + 0, 0, 0, 227, 33, [.val (.ref 1024), .val (.int p1), .val (.int v1)], [], (126, 120, L, [Y, T, H, H2, RA, RB, ST, NS, I0, I1, I2, BO_2, FI, RG, GU, PU_3, MA, MN, MS, OT, SC], [r0, r1, r2, r3, w, 192, r6, r7, r8], Lg)) o from ev_f (c := 10 ≤ (PU_3 0 2)) _ _ 4  zc9 e (fun n => Eq.refl _)
          obtain ⟨j4, zh10, zh5⟩ := bnd zh5
          have zh10 : ixx 10 v1 = some j4 := zh10
          suffices e : Ev (d + 0, 0, 0, 227, 43, [.val (.ref 1024), .val (.int p1), .val (.int v1)], [], (126, 120, L, [Y, T, H, H2, RA, RB, ST, NS, I0, I1, I2, (u2 BO_2 1 j4 (-1)), FI, RG, GU, PU_3, MA, MN, MS, OT, SC], [r0, r1, r2, r3, w, 192, r6, r7, r8], Lg)) o from ev_opt (fun j4 => (d + 0, 0, 0, 227, 43, [.val (.ref 1024), .val (.int p1), .val (.int v1)], [], (126, 120, L, [Y, T, H, H2, RA, RB, ST, NS, I0, I1, I2, (u2 BO_2 1 j4 (-1)), FI, RG, GU, PU_3, MA, MN, MS, OT, SC], [r0, r1, r2, r3, w, 192, r6, r7, r8], Lg))) 6 zh10 e (fun n => Eq.refl _)
          obtain ⟨j5, zh11, zh5⟩ := bnd zh5
          have zh11 : ixx 10 (PU_3 0 2) = some j5 := zh11
          suffices e : Ev (d + 0, 0, 0, 227, 53, [.val (.ref 1024), .val (.int p1), .val (.int v1)], [], (126, 120, L, [Y, T, H, H2, RA, RB, ST, NS, I0, I1, I2, (u2 BO_2 1 j4 (-1)), FI, RG, GU, (u2 PU_3 1 j5 v1), MA, MN, MS, OT, SC], [r0, r1, r2, r3, w, 192, r6, r7, r8], Lg)) o from ev_opt (fun j5 => (d + 0, 0, 0, 227, 53, [.val (.ref 1024), .val (.int p1), .val (.int v1)], [], (126, 120, L, [Y, T, H, H2, RA, RB, ST, NS, I0, I1, I2, (u2 BO_2 1 j4 (-1)), FI, RG, GU, (u2 PU_3 1 j5 v1), MA, MN, MS, OT, SC], [r0, r1, r2, r3, w, 192, r6, r7, r8], Lg))) 6 zh11 e (fun n => Eq.refl _)
          exact ev_b 8 (zi3 _ (Option.some.inj zh5).symm ()) (fun n => Eq.refl _)
  · obtain ⟨BO_7, PU_8⟩ := zb1
    intro s6
    have ze12 := Option.some.inj h
    subst ze12
    exact ev_rete 1 ho (fun n => Eq.refl _)
set_option maxRecDepth 1000000 in
set_option maxHeartbeats 4000000 in
theorem R_f_Pusher_firstOpen_0 (d : Nat) (Y T H H2 RA RB ST NS I0 I1 I2 BO FI RG GU PU MA MN MS OT SC : Nat → Nat → Int32) (r0 r1 r2 r3 w r6 r7 r8 : Nat) (L : Nat) (Lg : Int64) (p1 : Int32) {r : Int32} (h : f_Pusher_firstOpen H BO p1 = some r) : Ev (d + 3, 0, 0, 229, 0, [.val (.ref 1024), .val (.int p1), .val a_unk, .val a_unk], [], (126, 120, L, [Y, T, H, H2, RA, RB, ST, NS, I0, I1, I2, BO, FI, RG, GU, PU, MA, MN, MS, OT, SC], [r0, r1, r2, r3, w, 192, r6, r7, r8], Lg)) ((0, some (.int r), (126, 120, L, [Y, T, H, H2, RA, RB, ST, NS, I0, I1, I2, BO, FI, RG, GU, PU, MA, MN, MS, OT, SC], [r0, r1, r2, r3, w, 192, r6, r7, r8], Lg)) : AOut) := by
  suffices key : ∀ o : AOut, ((0, some (.int r), (126, 120, L, [Y, T, H, H2, RA, RB, ST, NS, I0, I1, I2, BO, FI, RG, GU, PU, MA, MN, MS, OT, SC], [r0, r1, r2, r3, w, 192, r6, r7, r8], Lg)) : AOut) = o → Ev (d + 3, 0, 0, 229, 0, [.val (.ref 1024), .val (.int p1), .val a_unk, .val a_unk], [], (126, 120, L, [Y, T, H, H2, RA, RB, ST, NS, I0, I1, I2, BO, FI, RG, GU, PU, MA, MN, MS, OT, SC], [r0, r1, r2, r3, w, 192, r6, r7, r8], Lg)) o from key _ rfl
  intro o ho
  obtain ⟨zb1, zh2, h⟩ := bnd h
  suffices e : Ev (d + 3, 0, 0, 229, 2, [.val (.ref 1024), .val (.int p1), .val (.int 0), .val a_unk], [], (126, 120, L, [Y, T, H, H2, RA, RB, ST, NS, I0, I1, I2, BO, FI, RG, GU, PU, MA, MN, MS, OT, SC], [r0, r1, r2, r3, w, 192, r6, r7, r8], Lg)) o from ev_b 2 e (fun n => Eq.refl _)
  refine ev_loop (δ := Value) (fun a j => (d + 3, 0, 0, 229, 2, [.val (.ref 1024), .val (.int p1), .val (.int a), .val j], [], (126, 120, L, [Y, T, H, H2, RA, RB, ST, NS, I0, I1, I2, BO, FI, RG, GU, PU, MA, MN, MS, OT, SC], [r0, r1, r2, r3, w, 192, r6, r7, r8], Lg))) (fun b => sumE b (fun b => ∀ s8 : Value, ∀ s9 : Value, Ev (d + 3, 0, 0, 229, 66, [.val (.ref 1024), .val (.int p1), .val s8, .val s9], [], (126, 120, L, [Y, T, H, H2, RA, RB, ST, NS, I0, I1, I2, BO, FI, RG, GU, PU, MA, MN, MS, OT, SC], [r0, r1, r2, r3, w, 192, r6, r7, r8], Lg)) o) (fun b => ((0, some (.int b), (126, 120, L, [Y, T, H, H2, RA, RB, ST, NS, I0, I1, I2, BO, FI, RG, GU, PU, MA, MN, MS, OT, SC], [r0, r1, r2, r3, w, 192, r6, r7, r8], Lg)) : AOut) = o)) ?_ a_F 0 zb1 zh2 ?_ a_unk
  · rintro v1 zr6 zh5 zi3 zx4 s2
    have zh5 : f_Pusher_firstOpen_l2 H BO p1 v1 = some zr6 := zh5
    suffices e : Ev (d + 3, 0, 0, 229, 10, [.val (.ref 1024), .val (.int p1), .val (.int v1), .val s2], [.ref 192, .int v1], (126, 120, L, [Y, T, H, H2, RA, RB, ST, NS, I0, I1, I2, BO, FI, RG, GU, PU, MA, MN, MS, OT, SC], [r0, r1, r2, r3, w, 192, r6, r7, r8], Lg)) o from ev_b 4 e (fun n => Eq.refl _)
    by_cases zc7 : (H 0 0) ≤ v1
    · have zh5 := itp zh5 zc7
      suffices e : Ev (d + 3, 0, 0, 229, 66, [.val (.ref 1024), .val (.int p1), .val (.int v1), .val s2], [], (126, 120, L, [Y, T, H, H2, RA, RB, ST, NS, I0, I1, I2, BO, FI, RG, GU, PU, MA, MN, MS, OT, SC], [r0, r1, r2, r3, w, 192, r6, r7, r8], Lg)) o from ev_t (c := (H 0 0) ≤ v1) _ _ 2  zc7 e (fun n => Eq.refl _)
      exact ev_b 0 (zx4 _ (Option.some.inj zh5).symm (.int v1) s2) (fun n => Eq.refl _)
    · have zh5 := itn zh5 zc7
      suffices e : Ev (d + 3, 0, 0, 229, 16, [.val (.ref 1024), .val (.int p1), .val (.int v1), .val s2], [], (126, 120, L, [Y, T, H, H2, RA, RB, ST, NS, I0, I1, I2, BO, FI, RG, GU, PU, MA, MN, MS, OT, SC], [r0, r1, r2, r3, w, 192, r6, r7, r8], Lg)) o from ev_f (c := (H 0 0) ≤ v1) _ _ 2  zc7 e (fun n => Eq.refl _)
      obtain ⟨zb8, zh9, zh5⟩ := bnd zh5
      suffices e : Ev (d + 3, 0, 0, 229, 18, [.val (.ref 1024), .val (.int p1), .val (.int v1), .val (.int 0)], [], (126, 120, L, [Y, T, H, H2, RA, RB, ST, NS, I0, I1, I2, BO, FI, RG, GU, PU, MA, MN, MS, OT, SC], [r0, r1, r2, r3, w, 192, r6, r7, r8], Lg)) o from ev_b 2 e (fun n => Eq.refl _)
      refine ev_loop (δ := Unit) (fun a j => (d + 3, 0, 0, 229, 18, [.val (.ref 1024), .val (.int p1), .val (.int v1), .val (.int a)], [], (126, 120, L, [Y, T, H, H2, RA, RB, ST, NS, I0, I1, I2, BO, FI, RG, GU, PU, MA, MN, MS, OT, SC], [r0, r1, r2, r3, w, 192, r6, r7, r8], Lg))) (fun b => sumE b (fun b => ∀ s7 : Value, Ev (d + 3, 0, 0, 229, 60, [.val (.ref 1024), .val (.int p1), .val (.int v1), .val s7], [], (126, 120, L, [Y, T, H, H2, RA, RB, ST, NS, I0, I1, I2, BO, FI, RG, GU, PU, MA, MN, MS, OT, SC], [r0, r1, r2, r3, w, 192, r6, r7, r8], Lg)) o) (fun b => ∀ c, b = .inr c → (fun b => sumE b (fun b => ∀ s8 : Value, ∀ s9 : Value, Ev (d + 3, 0, 0, 229, 66, [.val (.ref 1024), .val (.int p1), .val s8, .val s9], [], (126, 120, L, [Y, T, H, H2, RA, RB, ST, NS, I0, I1, I2, BO, FI, RG, GU, PU, MA, MN, MS, OT, SC], [r0, r1, r2, r3, w, 192, r6, r7, r8], Lg)) o) (fun b => ((0, some (.int b), (126, 120, L, [Y, T, H, H2, RA, RB, ST, NS, I0, I1, I2, BO, FI, RG, GU, PU, MA, MN, MS, OT, SC], [r0, r1, r2, r3, w, 192, r6, r7, r8], Lg)) : AOut) = o)) c)) ?_ a_F 0 zb8 zh9 ?_ ()
      · rintro v3 zr13 zh12 zi10 zx11 ⟨⟩
        have zh12 : f_Pusher_firstOpen_l18 H BO v1 p1 v3 = some zr13 := zh12
        suffices e : Ev (d + 3, 0, 0, 229, 26, [.val (.ref 1024), .val (.int p1), .val (.int v1), .val (.int v3)], [.ref 192, .int v3], (126, 120, L, [Y, T, H, H2, RA, RB, ST, NS, I0, I1, I2, BO, FI, RG, GU, PU, MA, MN, MS, OT, SC], [r0, r1, r2, r3, w, 192, r6, r7, r8], Lg)) o from ev_b 4 e (fun n => Eq.refl _)
        by_cases zc14 : (H 0 1) ≤ v3
        · have zh12 := itp zh12 zc14
          suffices e : Ev (d + 3, 0, 0, 229, 60, [.val (.ref 1024), .val (.int p1), .val (.int v1), .val (.int v3)], [], (126, 120, L, [Y, T, H, H2, RA, RB, ST, NS, I0, I1, I2, BO, FI, RG, GU, PU, MA, MN, MS, OT, SC], [r0, r1, r2, r3, w, 192, r6, r7, r8], Lg)) o from ev_t (c := (H 0 1) ≤ v3) _ _ 2  zc14 e (fun n => Eq.refl _)
          exact ev_b 0 (zx11 _ (Option.some.inj zh12).symm (.int v3)) (fun n => Eq.refl _)
        · have zh12 := itn zh12 zc14
          suffices e : Ev (d + 3, 0, 0, 229, 32, [.val (.ref 1024), .val (.int p1), .val (.int v1), .val (.int v3)], [], (126, 120, L, [Y, T, H, H2, RA, RB, ST, NS, I0, I1, I2, BO, FI, RG, GU, PU, MA, MN, MS, OT, SC], [r0, r1, r2, r3, w, 192, r6, r7, r8], Lg)) o from ev_f (c := (H 0 1) ≤ v3) _ _ 2  zc14 e (fun n => Eq.refl _)
          obtain ⟨x4, zh15, zh12⟩ := bnd zh12
          have zh15 : f_Y_placeOf v1 v3 = some x4 := zh15
          have ze16 := R_f_Y_placeOf_0 (d + 2) Y T H H2 RA RB ST NS I0 I1 I2 BO FI RG GU PU MA MN MS OT SC r0 r1 r2 r3 w 192 r6 r7 r8 L Lg v1 v3 zh15
          suffices e : Ev (d + 3, 0, 0, 229, 42, [.val (.ref 1024), .val (.int p1), .val (.int v1), .val (.int v3)], [.int x4, .int p1, .ref 768], (126, 120, L, [Y, T, H, H2, RA, RB, ST, NS, I0, I1, I2, BO, FI, RG, GU, PU, MA, MN, MS, OT, SC], [r0, r1, r2, r3, w, 192, r6, r7, r8], Lg)) o from ev_call (fun v μ => (d + 3, 0, 0, 229, 42, [.val (.ref 1024), .val (.int p1), .val (.int v1), .val (.int v3)], v.toList ++ [.int p1, .ref 768], μ)) 6 ze16 e (fun n => Eq.refl _)
          obtain ⟨x5, zh17, zh12⟩ := bnd zh12
          have zh17 : f_Board_isOpen H BO p1 x4 = some x5 := zh17
          have ze18 := R_f_Board_isOpen_0 (d + 0) Y T H H2 RA RB ST NS I0 I1 I2 BO FI RG GU PU MA MN MS OT SC r0 r1 r2 r3 w r6 r7 r8 L Lg p1 x4 zh17
          suffices e : Ev (d + 3, 0, 0, 229, 45, [.val (.ref 1024), .val (.int p1), .val (.int v1), .val (.int v3)], [.int x5], (126, 120, L, [Y, T, H, H2, RA, RB, ST, NS, I0, I1, I2, BO, FI, RG, GU, PU, MA, MN, MS, OT, SC], [r0, r1, r2, r3, w, 192, r6, r7, r8], Lg)) o from ev_call (fun v μ => (d + 3, 0, 0, 229, 45, [.val (.ref 1024), .val (.int p1), .val (.int v1), .val (.int v3)], v.toList ++ [], μ)) 1 ze18 e (fun n => Eq.refl _)
          by_cases zc19 : x5 = 0
          · have zh12 := itp zh12 zc19
            suffices e : Ev (d + 3, 0, 0, 229, 54, [.val (.ref 1024), .val (.int p1), .val (.int v1), .val (.int v3)], [], (126, 120, L, [Y, T, H, H2, RA, RB, ST, NS, I0, I1, I2, BO, FI, RG, GU, PU, MA, MN, MS, OT, SC], [r0, r1, r2, r3, w, 192, r6, r7, r8], Lg)) o from ev_t (c := x5 = 0) _ _ 1  zc19 e (fun n => Eq.refl _)
            exact ev_b 2 (zi10 _ (Option.some.inj zh12).symm ()) (fun n => Eq.refl _)
          · have zh12 := itn zh12 zc19
            suffices e : Ev (d + 3, 0, 0, 229, 48, [.val (.ref 1024), .val (.int p1), .val (.int v1), .val (.int v3)], [], (126, 120, L, [Y, T, H, H2, RA, RB, ST, NS, I0, I1, I2, BO, FI, RG, GU, PU, MA, MN, MS, OT, SC], [r0, r1, r2, r3, w, 192, r6, r7, r8], Lg)) o from ev_f (c := x5 = 0) _ _ 1  zc19 e (fun n => Eq.refl _)
            obtain ⟨x6, zh20, zh12⟩ := bnd zh12
            have zh20 : f_Y_placeOf v1 v3 = some x6 := zh20
            have ze21 := R_f_Y_placeOf_0 (d + 2) Y T H H2 RA RB ST NS I0 I1 I2 BO FI RG GU PU MA MN MS OT SC r0 r1 r2 r3 w 192 r6 r7 r8 L Lg v1 v3 zh20
            suffices e : Ev (d + 3, 0, 0, 229, 53, [.val (.ref 1024), .val (.int p1), .val (.int v1), .val (.int v3)], [.int x6], (126, 120, L, [Y, T, H, H2, RA, RB, ST, NS, I0, I1, I2, BO, FI, RG, GU, PU, MA, MN, MS, OT, SC], [r0, r1, r2, r3, w, 192, r6, r7, r8], Lg)) o from ev_call (fun v μ => (d + 3, 0, 0, 229, 53, [.val (.ref 1024), .val (.int p1), .val (.int v1), .val (.int v3)], v.toList ++ [], μ)) 3 ze21 e (fun n => Eq.refl _)
            exact ev_rete 1 (zx11 _ (Option.some.inj zh12).symm _ rfl) (fun n => Eq.refl _)
      · rcases zb8 with ⟨⟩ | zr13
        · intro s7
          exact ev_b 2 (zi3 _ (Option.some.inj zh5).symm s7) (fun n => Eq.refl _)
        · have zh22 : some zr13 = some _ := zh5
          exact fun c hc => zx4 c ((Option.some.inj zh22).symm.trans hc)
  · rcases zb1 with ⟨⟩ | zr6
    · intro s8 s9
      have ze24 := Option.some.inj h
      subst ze24
      exact ev_rete 2 ho (fun n => Eq.refl _)
    · have zh25 : some zr6 = some r := h
      exact (congrArg (fun q => ((0, some (.int q), (126, 120, L, [Y, T, H, H2, RA, RB, ST, NS, I0, I1, I2, BO, FI, RG, GU, PU, MA, MN, MS, OT, SC], [r0, r1, r2, r3, w, 192, r6, r7, r8], Lg)) : AOut)) (Option.some.inj zh25)).trans ho
