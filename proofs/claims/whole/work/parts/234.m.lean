/-! printed by program (gen/emitm.py): the reference's methods run as their functions say -/
set_option maxRecDepth 1000000 in
set_option maxHeartbeats 4000000 in
theorem R_f_Y_line_0 (d : Nat) (Y T H H2 RU RV ST NS I0 I1 I2 BO FI RG GU PU MA MN MS OT SC : Nat → Nat → Int32) (w r5 : Nat) (L : Nat) (Lg : Int64) (p1 : Int32) (p2 : Int32) {r : Nat × Int32 × (Nat → Nat → Int32)} (h : f_Y_line Y NS p1 p2 = some r) : Ev (d + 1, 1, 8, 307, 0, [.val (.ref 64), .val (.int p1), .val (.int p2), .val a_unk], [], (126, 120, L, [Y, T, H, H2, RU, RV, ST, NS, I0, I1, I2, BO, FI, RG, GU, PU, MA, MN, MS, OT, SC], [192, 256, 320, 384, w, r5, 576, 640, 704], Lg)) ((r.1, a_ov r.1 (.int r.2.1), (126, 120, L, [r.2.2, T, H, H2, RU, RV, ST, NS, I0, I1, I2, BO, FI, RG, GU, PU, MA, MN, MS, OT, SC], [192, 256, 320, 384, w, r5, 576, 640, 704], Lg)) : AOut) := by
  suffices key : ∀ o : AOut, ((r.1, a_ov r.1 (.int r.2.1), (126, 120, L, [r.2.2, T, H, H2, RU, RV, ST, NS, I0, I1, I2, BO, FI, RG, GU, PU, MA, MN, MS, OT, SC], [192, 256, 320, 384, w, r5, 576, 640, 704], Lg)) : AOut) = o → Ev (d + 1, 1, 8, 307, 0, [.val (.ref 64), .val (.int p1), .val (.int p2), .val a_unk], [], (126, 120, L, [Y, T, H, H2, RU, RV, ST, NS, I0, I1, I2, BO, FI, RG, GU, PU, MA, MN, MS, OT, SC], [192, 256, 320, 384, w, r5, 576, 640, 704], Lg)) o from key _ rfl
  intro o ho
  obtain ⟨zt1, zh2, h⟩ := bnd h
  have zj3 : ∀ (v1 : Int32), v1 = zt1 → Ev (d + 1, 1, 8, 307, 15, [.val (.ref 64), .val (.int p1), .val (.int p2), .val a_unk], [.int v1, .ref 64], (126, 120, L, [Y, T, H, H2, RU, RV, ST, NS, I0, I1, I2, BO, FI, RG, GU, PU, MA, MN, MS, OT, SC], [192, 256, 320, 384, w, r5, 576, 640, 704], Lg)) o := by
    intro v1 ze4
    subst ze4
    obtain ⟨⟨q2, Y_3⟩, zh5, h⟩ := bnd h
    have zh5 : f_Y_refuseUnless Y v1 = some (q2, Y_3) := zh5
    have ze6 := R_f_Y_refuseUnless_0 (d + 0) Y T H H2 RU RV ST NS I0 I1 I2 BO FI RG GU PU MA MN MS OT SC w r5 L Lg v1 zh5
    cases q2 with
    | zero =>
      have h := itp h rfl
      suffices e : Ev (d + 1, 0, 0, 307, 18, [.val (.ref 64), .val (.int p1), .val (.int p2), .val a_unk], [], (126, 120, L, [Y_3, T, H, H2, RU, RV, ST, NS, I0, I1, I2, BO, FI, RG, GU, PU, MA, MN, MS, OT, SC], [192, 256, 320, 384, w, r5, 576, 640, 704], Lg)) o from ev_call (fun v μ => (d + 1, 0, 0, 307, 18, [.val (.ref 64), .val (.int p1), .val (.int p2), .val a_unk], v.toList ++ [], μ)) 1 ze6 e (fun n => Eq.refl _)
      by_cases zc7 : p1 < 0
      · have h := itp h zc7
        suffices e : Ev (d + 1, 0, 0, 307, 38, [.val (.ref 64), .val (.int p1), .val (.int p2), .val (.ref 515)], [], (126, 120, L, [Y_3, T, H, H2, RU, RV, ST, NS, I0, I1, I2, BO, FI, RG, GU, PU, MA, MN, MS, OT, SC], [192, 256, 320, 384, w, r5, 576, 640, 704], Lg)) o from ev_t (c := p1 < 0) _ _ 6  zc7 e (fun n => Eq.refl _)
        have ze8 := Option.some.inj h
        subst ze8
        exact ev_rete 2 ho (fun n => Eq.refl _)
      · have h := itn h zc7
        suffices e : Ev (d + 1, 0, 0, 307, 30, [.val (.ref 64), .val (.int p1), .val (.int p2), .val (.ref 515)], [], (126, 120, L, [Y_3, T, H, H2, RU, RV, ST, NS, I0, I1, I2, BO, FI, RG, GU, PU, MA, MN, MS, OT, SC], [192, 256, 320, 384, w, r5, 576, 640, 704], Lg)) o from ev_f (c := p1 < 0) _ _ 6  zc7 e (fun n => Eq.refl _)
        by_cases zc9 : p1 < (NS 3 0)
        · have h := itp h zc9
          suffices e : Ev (d + 1, 0, 0, 307, 40, [.val (.ref 64), .val (.int p1), .val (.int p2), .val (.ref 515)], [], (126, 120, L, [Y_3, T, H, H2, RU, RV, ST, NS, I0, I1, I2, BO, FI, RG, GU, PU, MA, MN, MS, OT, SC], [192, 256, 320, 384, w, r5, 576, 640, 704], Lg)) o from ev_t (c := p1 < (NS 3 0)) _ _ 4  zc9 e (fun n => Eq.refl _)
          by_cases zc10 : p2 = 0
          · have h := itp h zc10
            suffices e : Ev (d + 1, 0, 0, 307, 68, [.val (.ref 64), .val (.int p1), .val (.int p2), .val (.ref 515)], [], (126, 120, L, [Y_3, T, H, H2, RU, RV, ST, NS, I0, I1, I2, BO, FI, RG, GU, PU, MA, MN, MS, OT, SC], [192, 256, 320, 384, w, r5, 576, 640, 704], Lg)) o from ev_sw [((0 : Int32), 68), ((1 : Int32), 75)] p2 (fun tt => (d + 1, 0, 0, 307, tt, [.val (.ref 64), .val (.int p1), .val (.int p2), .val (.ref 515)], [], (126, 120, L, [Y_3, T, H, H2, RU, RV, ST, NS, I0, I1, I2, BO, FI, RG, GU, PU, MA, MN, MS, OT, SC], [192, 256, 320, 384, w, r5, 576, 640, 704], Lg))) 85 68 2 (fun f => by simp only [a_sw, if_pos zc10]) e (fun n => Eq.refl _)
            obtain ⟨x4, zh11, h⟩ := bnd h
            have zh11 : rdx (NS 4) 10 p1 = some x4 := zh11
            suffices e : Ev (d + 1, 0, 0, 307, 74, [.val (.ref 64), .val (.int p1), .val (.int p2), .val (.ref 515)], [.int x4], (126, 120, L, [Y_3, T, H, H2, RU, RV, ST, NS, I0, I1, I2, BO, FI, RG, GU, PU, MA, MN, MS, OT, SC], [192, 256, 320, 384, w, r5, 576, 640, 704], Lg)) o from ev_opt (fun x4 => (d + 1, 0, 0, 307, 74, [.val (.ref 64), .val (.int p1), .val (.int p2), .val (.ref 515)], [.int x4], (126, 120, L, [Y_3, T, H, H2, RU, RV, ST, NS, I0, I1, I2, BO, FI, RG, GU, PU, MA, MN, MS, OT, SC], [192, 256, 320, 384, w, r5, 576, 640, 704], Lg))) 4 zh11 e (fun n => Eq.refl _)
            have ze12 := Option.some.inj h
            subst ze12
            exact ev_rete 1 ho (fun n => Eq.refl _)
          have h := itn h zc10
          by_cases zc13 : p2 = 1
          · have h := itp h zc13
            suffices e : Ev (d + 1, 0, 0, 307, 75, [.val (.ref 64), .val (.int p1), .val (.int p2), .val (.ref 515)], [], (126, 120, L, [Y_3, T, H, H2, RU, RV, ST, NS, I0, I1, I2, BO, FI, RG, GU, PU, MA, MN, MS, OT, SC], [192, 256, 320, 384, w, r5, 576, 640, 704], Lg)) o from ev_sw [((0 : Int32), 68), ((1 : Int32), 75)] p2 (fun tt => (d + 1, 0, 0, 307, tt, [.val (.ref 64), .val (.int p1), .val (.int p2), .val (.ref 515)], [], (126, 120, L, [Y_3, T, H, H2, RU, RV, ST, NS, I0, I1, I2, BO, FI, RG, GU, PU, MA, MN, MS, OT, SC], [192, 256, 320, 384, w, r5, 576, 640, 704], Lg))) 85 75 2 (fun f => by simp only [a_sw, if_neg zc10, if_pos zc13]) e (fun n => Eq.refl _)
            obtain ⟨x5, zh14, h⟩ := bnd h
            have zh14 : rdx (NS 5) 10 p1 = some x5 := zh14
            suffices e : Ev (d + 1, 0, 0, 307, 81, [.val (.ref 64), .val (.int p1), .val (.int p2), .val (.ref 515)], [.int x5], (126, 120, L, [Y_3, T, H, H2, RU, RV, ST, NS, I0, I1, I2, BO, FI, RG, GU, PU, MA, MN, MS, OT, SC], [192, 256, 320, 384, w, r5, 576, 640, 704], Lg)) o from ev_opt (fun x5 => (d + 1, 0, 0, 307, 81, [.val (.ref 64), .val (.int p1), .val (.int p2), .val (.ref 515)], [.int x5], (126, 120, L, [Y_3, T, H, H2, RU, RV, ST, NS, I0, I1, I2, BO, FI, RG, GU, PU, MA, MN, MS, OT, SC], [192, 256, 320, 384, w, r5, 576, 640, 704], Lg))) 4 zh14 e (fun n => Eq.refl _)
            obtain ⟨x6, zh15, h⟩ := bnd h
            have zh15 : f_Y_hourOf x5 = some x6 := zh15
            have ze16 := R_f_Y_hourOf_0 (d + 0) Y_3 T H H2 RU RV ST NS I0 I1 I2 BO FI RG GU PU MA MN MS OT SC 192 256 320 384 w r5 576 640 704 L Lg x5 zh15
            suffices e : Ev (d + 1, 0, 0, 307, 84, [.val (.ref 64), .val (.int p1), .val (.int p2), .val (.ref 515)], [.int x6], (126, 120, L, [Y_3, T, H, H2, RU, RV, ST, NS, I0, I1, I2, BO, FI, RG, GU, PU, MA, MN, MS, OT, SC], [192, 256, 320, 384, w, r5, 576, 640, 704], Lg)) o from ev_call (fun v μ => (d + 1, 0, 0, 307, 84, [.val (.ref 64), .val (.int p1), .val (.int p2), .val (.ref 515)], v.toList ++ [], μ)) 1 ze16 e (fun n => Eq.refl _)
            have ze17 := Option.some.inj h
            subst ze17
            exact ev_rete 1 ho (fun n => Eq.refl _)
          have h := itn h zc13
          suffices e : Ev (d + 1, 0, 0, 307, 85, [.val (.ref 64), .val (.int p1), .val (.int p2), .val (.ref 515)], [], (126, 120, L, [Y_3, T, H, H2, RU, RV, ST, NS, I0, I1, I2, BO, FI, RG, GU, PU, MA, MN, MS, OT, SC], [192, 256, 320, 384, w, r5, 576, 640, 704], Lg)) o from ev_sw [((0 : Int32), 68), ((1 : Int32), 75)] p2 (fun tt => (d + 1, 0, 0, 307, tt, [.val (.ref 64), .val (.int p1), .val (.int p2), .val (.ref 515)], [], (126, 120, L, [Y_3, T, H, H2, RU, RV, ST, NS, I0, I1, I2, BO, FI, RG, GU, PU, MA, MN, MS, OT, SC], [192, 256, 320, 384, w, r5, 576, 640, 704], Lg))) 85 85 2 (fun f => by simp only [a_sw, if_neg zc10, if_neg zc13]) e (fun n => Eq.refl _)
          obtain ⟨x7, zh18, h⟩ := bnd h
          have zh18 : rdx (NS 5) 10 p1 = some x7 := zh18
          suffices e : Ev (d + 1, 0, 0, 307, 91, [.val (.ref 64), .val (.int p1), .val (.int p2), .val (.ref 515)], [.int x7], (126, 120, L, [Y_3, T, H, H2, RU, RV, ST, NS, I0, I1, I2, BO, FI, RG, GU, PU, MA, MN, MS, OT, SC], [192, 256, 320, 384, w, r5, 576, 640, 704], Lg)) o from ev_opt (fun x7 => (d + 1, 0, 0, 307, 91, [.val (.ref 64), .val (.int p1), .val (.int p2), .val (.ref 515)], [.int x7], (126, 120, L, [Y_3, T, H, H2, RU, RV, ST, NS, I0, I1, I2, BO, FI, RG, GU, PU, MA, MN, MS, OT, SC], [192, 256, 320, 384, w, r5, 576, 640, 704], Lg))) 4 zh18 e (fun n => Eq.refl _)
          obtain ⟨x8, zh19, h⟩ := bnd h
          have zh19 : f_Y_roomOf x7 = some x8 := zh19
          have ze20 := R_f_Y_roomOf_0 (d + 0) Y_3 T H H2 RU RV ST NS I0 I1 I2 BO FI RG GU PU MA MN MS OT SC 192 256 320 384 w r5 576 640 704 L Lg x7 zh19
          suffices e : Ev (d + 1, 0, 0, 307, 94, [.val (.ref 64), .val (.int p1), .val (.int p2), .val (.ref 515)], [.int x8], (126, 120, L, [Y_3, T, H, H2, RU, RV, ST, NS, I0, I1, I2, BO, FI, RG, GU, PU, MA, MN, MS, OT, SC], [192, 256, 320, 384, w, r5, 576, 640, 704], Lg)) o from ev_call (fun v μ => (d + 1, 0, 0, 307, 94, [.val (.ref 64), .val (.int p1), .val (.int p2), .val (.ref 515)], v.toList ++ [], μ)) 1 ze20 e (fun n => Eq.refl _)
          have ze21 := Option.some.inj h
          subst ze21
          exact ev_rete 1 ho (fun n => Eq.refl _)
        · have h := itn h zc9
          suffices e : Ev (d + 1, 0, 0, 307, 38, [.val (.ref 64), .val (.int p1), .val (.int p2), .val (.ref 515)], [], (126, 120, L, [Y_3, T, H, H2, RU, RV, ST, NS, I0, I1, I2, BO, FI, RG, GU, PU, MA, MN, MS, OT, SC], [192, 256, 320, 384, w, r5, 576, 640, 704], Lg)) o from ev_f (c := p1 < (NS 3 0)) _ _ 4  zc9 e (fun n => Eq.refl _)
          have ze22 := Option.some.inj h
          subst ze22
          exact ev_rete 2 ho (fun n => Eq.refl _)
    | succ q2 =>
      have h := itn h (Nat.succ_ne_zero q2)
      have ze23 := Option.some.inj h
      subst ze23
      subst ho
      exact ev_thr (fun v μ => (d + 1, 0, 0, 307, 18, [.val (.ref 64), .val (.int p1), .val (.int p2), .val a_unk], v.toList ++ [], μ)) 1 ze6 (fun n => Eq.refl _) (fun n => rfl)
  obtain ⟨zt24, zh25, zh2⟩ := bnd zh2
  have zj26 : zt24 = .inl () → Ev (d + 1, 1, 8, 307, 14, [.val (.ref 64), .val (.int p1), .val (.int p2), .val a_unk], [.ref 64], (126, 120, L, [Y, T, H, H2, RU, RV, ST, NS, I0, I1, I2, BO, FI, RG, GU, PU, MA, MN, MS, OT, SC], [192, 256, 320, 384, w, r5, 576, 640, 704], Lg)) o := by
    intro ze27
    have zh2 := sum_l zh2 ze27
    exact ev_b 1 (zj3 0 (Option.some.inj zh2) ) (fun n => Eq.refl _)
  by_cases zc28 : p2 < 0
  · have zh25 := itp zh25 zc28
    suffices e : Ev (d + 1, 1, 8, 307, 14, [.val (.ref 64), .val (.int p1), .val (.int p2), .val a_unk], [.ref 64], (126, 120, L, [Y, T, H, H2, RU, RV, ST, NS, I0, I1, I2, BO, FI, RG, GU, PU, MA, MN, MS, OT, SC], [192, 256, 320, 384, w, r5, 576, 640, 704], Lg)) o from ev_t (c := p2 < 0) _ _ 3  zc28 e (fun n => Eq.refl _)
    exact ev_b 0 (zj26  (Option.some.inj zh25).symm ) (fun n => Eq.refl _)
  · have zh25 := itn zh25 zc28
    suffices e : Ev (d + 1, 1, 8, 307, 5, [.val (.ref 64), .val (.int p1), .val (.int p2), .val a_unk], [.ref 64], (126, 120, L, [Y, T, H, H2, RU, RV, ST, NS, I0, I1, I2, BO, FI, RG, GU, PU, MA, MN, MS, OT, SC], [192, 256, 320, 384, w, r5, 576, 640, 704], Lg)) o from ev_f (c := p2 < 0) _ _ 3  zc28 e (fun n => Eq.refl _)
    by_cases zc29 : 2 < p2
    · have zh25 := itp zh25 zc29
      suffices e : Ev (d + 1, 1, 8, 307, 14, [.val (.ref 64), .val (.int p1), .val (.int p2), .val a_unk], [.ref 64], (126, 120, L, [Y, T, H, H2, RU, RV, ST, NS, I0, I1, I2, BO, FI, RG, GU, PU, MA, MN, MS, OT, SC], [192, 256, 320, 384, w, r5, 576, 640, 704], Lg)) o from ev_t (c := 2 < p2) _ _ 3  zc29 e (fun n => Eq.refl _)
      exact ev_b 0 (zj26  (Option.some.inj zh25).symm ) (fun n => Eq.refl _)
    · have zh25 := itn zh25 zc29
      suffices e : Ev (d + 1, 1, 8, 307, 10, [.val (.ref 64), .val (.int p1), .val (.int p2), .val a_unk], [.ref 64], (126, 120, L, [Y, T, H, H2, RU, RV, ST, NS, I0, I1, I2, BO, FI, RG, GU, PU, MA, MN, MS, OT, SC], [192, 256, 320, 384, w, r5, 576, 640, 704], Lg)) o from ev_f (c := 2 < p2) _ _ 3  zc29 e (fun n => Eq.refl _)
      have zh30 := sum_r zh2 (Option.some.inj zh25).symm
      exact ev_b 2 (zj3 1 (Option.some.inj zh30) ) (fun n => Eq.refl _)
set_option maxRecDepth 1000000 in
set_option maxHeartbeats 4000000 in
theorem R_f_Y_line_1 (d : Nat) (Y T H H2 RV RU ST NS I0 I1 I2 BO FI RG GU PU MA MN MS OT SC : Nat → Nat → Int32) (w r5 : Nat) (L : Nat) (Lg : Int64) (p1 : Int32) (p2 : Int32) {r : Nat × Int32 × (Nat → Nat → Int32)} (h : f_Y_line Y NS p1 p2 = some r) : Ev (d + 1, 1, 8, 307, 0, [.val (.ref 64), .val (.int p1), .val (.int p2), .val a_unk], [], (126, 120, L, [Y, T, H, H2, RV, RU, ST, NS, I0, I1, I2, BO, FI, RG, GU, PU, MA, MN, MS, OT, SC], [192, 256, 384, 320, w, r5, 576, 640, 704], Lg)) ((r.1, a_ov r.1 (.int r.2.1), (126, 120, L, [r.2.2, T, H, H2, RV, RU, ST, NS, I0, I1, I2, BO, FI, RG, GU, PU, MA, MN, MS, OT, SC], [192, 256, 384, 320, w, r5, 576, 640, 704], Lg)) : AOut) := by
  suffices key : ∀ o : AOut, ((r.1, a_ov r.1 (.int r.2.1), (126, 120, L, [r.2.2, T, H, H2, RV, RU, ST, NS, I0, I1, I2, BO, FI, RG, GU, PU, MA, MN, MS, OT, SC], [192, 256, 384, 320, w, r5, 576, 640, 704], Lg)) : AOut) = o → Ev (d + 1, 1, 8, 307, 0, [.val (.ref 64), .val (.int p1), .val (.int p2), .val a_unk], [], (126, 120, L, [Y, T, H, H2, RV, RU, ST, NS, I0, I1, I2, BO, FI, RG, GU, PU, MA, MN, MS, OT, SC], [192, 256, 384, 320, w, r5, 576, 640, 704], Lg)) o from key _ rfl
  intro o ho
  obtain ⟨zt1, zh2, h⟩ := bnd h
  have zj3 : ∀ (v1 : Int32), v1 = zt1 → Ev (d + 1, 1, 8, 307, 15, [.val (.ref 64), .val (.int p1), .val (.int p2), .val a_unk], [.int v1, .ref 64], (126, 120, L, [Y, T, H, H2, RV, RU, ST, NS, I0, I1, I2, BO, FI, RG, GU, PU, MA, MN, MS, OT, SC], [192, 256, 384, 320, w, r5, 576, 640, 704], Lg)) o := by
    intro v1 ze4
    subst ze4
    obtain ⟨⟨q2, Y_3⟩, zh5, h⟩ := bnd h
    have zh5 : f_Y_refuseUnless Y v1 = some (q2, Y_3) := zh5
    have ze6 := R_f_Y_refuseUnless_1 (d + 0) Y T H H2 RV RU ST NS I0 I1 I2 BO FI RG GU PU MA MN MS OT SC w r5 L Lg v1 zh5
    cases q2 with
    | zero =>
      have h := itp h rfl
      suffices e : Ev (d + 1, 0, 0, 307, 18, [.val (.ref 64), .val (.int p1), .val (.int p2), .val a_unk], [], (126, 120, L, [Y_3, T, H, H2, RV, RU, ST, NS, I0, I1, I2, BO, FI, RG, GU, PU, MA, MN, MS, OT, SC], [192, 256, 384, 320, w, r5, 576, 640, 704], Lg)) o from ev_call (fun v μ => (d + 1, 0, 0, 307, 18, [.val (.ref 64), .val (.int p1), .val (.int p2), .val a_unk], v.toList ++ [], μ)) 1 ze6 e (fun n => Eq.refl _)
      by_cases zc7 : p1 < 0
      · have h := itp h zc7
        suffices e : Ev (d + 1, 0, 0, 307, 38, [.val (.ref 64), .val (.int p1), .val (.int p2), .val (.ref 515)], [], (126, 120, L, [Y_3, T, H, H2, RV, RU, ST, NS, I0, I1, I2, BO, FI, RG, GU, PU, MA, MN, MS, OT, SC], [192, 256, 384, 320, w, r5, 576, 640, 704], Lg)) o from ev_t (c := p1 < 0) _ _ 6  zc7 e (fun n => Eq.refl _)
        have ze8 := Option.some.inj h
        subst ze8
        exact ev_rete 2 ho (fun n => Eq.refl _)
      · have h := itn h zc7
        suffices e : Ev (d + 1, 0, 0, 307, 30, [.val (.ref 64), .val (.int p1), .val (.int p2), .val (.ref 515)], [], (126, 120, L, [Y_3, T, H, H2, RV, RU, ST, NS, I0, I1, I2, BO, FI, RG, GU, PU, MA, MN, MS, OT, SC], [192, 256, 384, 320, w, r5, 576, 640, 704], Lg)) o from ev_f (c := p1 < 0) _ _ 6  zc7 e (fun n => Eq.refl _)
        by_cases zc9 : p1 < (NS 3 0)
        · have h := itp h zc9
          suffices e : Ev (d + 1, 0, 0, 307, 40, [.val (.ref 64), .val (.int p1), .val (.int p2), .val (.ref 515)], [], (126, 120, L, [Y_3, T, H, H2, RV, RU, ST, NS, I0, I1, I2, BO, FI, RG, GU, PU, MA, MN, MS, OT, SC], [192, 256, 384, 320, w, r5, 576, 640, 704], Lg)) o from ev_t (c := p1 < (NS 3 0)) _ _ 4  zc9 e (fun n => Eq.refl _)
          by_cases zc10 : p2 = 0
          · have h := itp h zc10
            suffices e : Ev (d + 1, 0, 0, 307, 68, [.val (.ref 64), .val (.int p1), .val (.int p2), .val (.ref 515)], [], (126, 120, L, [Y_3, T, H, H2, RV, RU, ST, NS, I0, I1, I2, BO, FI, RG, GU, PU, MA, MN, MS, OT, SC], [192, 256, 384, 320, w, r5, 576, 640, 704], Lg)) o from ev_sw [((0 : Int32), 68), ((1 : Int32), 75)] p2 (fun tt => (d + 1, 0, 0, 307, tt, [.val (.ref 64), .val (.int p1), .val (.int p2), .val (.ref 515)], [], (126, 120, L, [Y_3, T, H, H2, RV, RU, ST, NS, I0, I1, I2, BO, FI, RG, GU, PU, MA, MN, MS, OT, SC], [192, 256, 384, 320, w, r5, 576, 640, 704], Lg))) 85 68 2 (fun f => by simp only [a_sw, if_pos zc10]) e (fun n => Eq.refl _)
            obtain ⟨x4, zh11, h⟩ := bnd h
            have zh11 : rdx (NS 4) 10 p1 = some x4 := zh11
            suffices e : Ev (d + 1, 0, 0, 307, 74, [.val (.ref 64), .val (.int p1), .val (.int p2), .val (.ref 515)], [.int x4], (126, 120, L, [Y_3, T, H, H2, RV, RU, ST, NS, I0, I1, I2, BO, FI, RG, GU, PU, MA, MN, MS, OT, SC], [192, 256, 384, 320, w, r5, 576, 640, 704], Lg)) o from ev_opt (fun x4 => (d + 1, 0, 0, 307, 74, [.val (.ref 64), .val (.int p1), .val (.int p2), .val (.ref 515)], [.int x4], (126, 120, L, [Y_3, T, H, H2, RV, RU, ST, NS, I0, I1, I2, BO, FI, RG, GU, PU, MA, MN, MS, OT, SC], [192, 256, 384, 320, w, r5, 576, 640, 704], Lg))) 4 zh11 e (fun n => Eq.refl _)
            have ze12 := Option.some.inj h
            subst ze12
            exact ev_rete 1 ho (fun n => Eq.refl _)
          have h := itn h zc10
          by_cases zc13 : p2 = 1
          · have h := itp h zc13
            suffices e : Ev (d + 1, 0, 0, 307, 75, [.val (.ref 64), .val (.int p1), .val (.int p2), .val (.ref 515)], [], (126, 120, L, [Y_3, T, H, H2, RV, RU, ST, NS, I0, I1, I2, BO, FI, RG, GU, PU, MA, MN, MS, OT, SC], [192, 256, 384, 320, w, r5, 576, 640, 704], Lg)) o from ev_sw [((0 : Int32), 68), ((1 : Int32), 75)] p2 (fun tt => (d + 1, 0, 0, 307, tt, [.val (.ref 64), .val (.int p1), .val (.int p2), .val (.ref 515)], [], (126, 120, L, [Y_3, T, H, H2, RV, RU, ST, NS, I0, I1, I2, BO, FI, RG, GU, PU, MA, MN, MS, OT, SC], [192, 256, 384, 320, w, r5, 576, 640, 704], Lg))) 85 75 2 (fun f => by simp only [a_sw, if_neg zc10, if_pos zc13]) e (fun n => Eq.refl _)
            obtain ⟨x5, zh14, h⟩ := bnd h
            have zh14 : rdx (NS 5) 10 p1 = some x5 := zh14
            suffices e : Ev (d + 1, 0, 0, 307, 81, [.val (.ref 64), .val (.int p1), .val (.int p2), .val (.ref 515)], [.int x5], (126, 120, L, [Y_3, T, H, H2, RV, RU, ST, NS, I0, I1, I2, BO, FI, RG, GU, PU, MA, MN, MS, OT, SC], [192, 256, 384, 320, w, r5, 576, 640, 704], Lg)) o from ev_opt (fun x5 => (d + 1, 0, 0, 307, 81, [.val (.ref 64), .val (.int p1), .val (.int p2), .val (.ref 515)], [.int x5], (126, 120, L, [Y_3, T, H, H2, RV, RU, ST, NS, I0, I1, I2, BO, FI, RG, GU, PU, MA, MN, MS, OT, SC], [192, 256, 384, 320, w, r5, 576, 640, 704], Lg))) 4 zh14 e (fun n => Eq.refl _)
            obtain ⟨x6, zh15, h⟩ := bnd h
            have zh15 : f_Y_hourOf x5 = some x6 := zh15
            have ze16 := R_f_Y_hourOf_0 (d + 0) Y_3 T H H2 RV RU ST NS I0 I1 I2 BO FI RG GU PU MA MN MS OT SC 192 256 384 320 w r5 576 640 704 L Lg x5 zh15
            suffices e : Ev (d + 1, 0, 0, 307, 84, [.val (.ref 64), .val (.int p1), .val (.int p2), .val (.ref 515)], [.int x6], (126, 120, L, [Y_3, T, H, H2, RV, RU, ST, NS, I0, I1, I2, BO, FI, RG, GU, PU, MA, MN, MS, OT, SC], [192, 256, 384, 320, w, r5, 576, 640, 704], Lg)) o from ev_call (fun v μ => (d + 1, 0, 0, 307, 84, [.val (.ref 64), .val (.int p1), .val (.int p2), .val (.ref 515)], v.toList ++ [], μ)) 1 ze16 e (fun n => Eq.refl _)
            have ze17 := Option.some.inj h
            subst ze17
            exact ev_rete 1 ho (fun n => Eq.refl _)
          have h := itn h zc13
          suffices e : Ev (d + 1, 0, 0, 307, 85, [.val (.ref 64), .val (.int p1), .val (.int p2), .val (.ref 515)], [], (126, 120, L, [Y_3, T, H, H2, RV, RU, ST, NS, I0, I1, I2, BO, FI, RG, GU, PU, MA, MN, MS, OT, SC], [192, 256, 384, 320, w, r5, 576, 640, 704], Lg)) o from ev_sw [((0 : Int32), 68), ((1 : Int32), 75)] p2 (fun tt => (d + 1, 0, 0, 307, tt, [.val (.ref 64), .val (.int p1), .val (.int p2), .val (.ref 515)], [], (126, 120, L, [Y_3, T, H, H2, RV, RU, ST, NS, I0, I1, I2, BO, FI, RG, GU, PU, MA, MN, MS, OT, SC], [192, 256, 384, 320, w, r5, 576, 640, 704], Lg))) 85 85 2 (fun f => by simp only [a_sw, if_neg zc10, if_neg zc13]) e (fun n => Eq.refl _)
          obtain ⟨x7, zh18, h⟩ := bnd h
          have zh18 : rdx (NS 5) 10 p1 = some x7 := zh18
          suffices e : Ev (d + 1, 0, 0, 307, 91, [.val (.ref 64), .val (.int p1), .val (.int p2), .val (.ref 515)], [.int x7], (126, 120, L, [Y_3, T, H, H2, RV, RU, ST, NS, I0, I1, I2, BO, FI, RG, GU, PU, MA, MN, MS, OT, SC], [192, 256, 384, 320, w, r5, 576, 640, 704], Lg)) o from ev_opt (fun x7 => (d + 1, 0, 0, 307, 91, [.val (.ref 64), .val (.int p1), .val (.int p2), .val (.ref 515)], [.int x7], (126, 120, L, [Y_3, T, H, H2, RV, RU, ST, NS, I0, I1, I2, BO, FI, RG, GU, PU, MA, MN, MS, OT, SC], [192, 256, 384, 320, w, r5, 576, 640, 704], Lg))) 4 zh18 e (fun n => Eq.refl _)
          obtain ⟨x8, zh19, h⟩ := bnd h
          have zh19 : f_Y_roomOf x7 = some x8 := zh19
          have ze20 := R_f_Y_roomOf_0 (d + 0) Y_3 T H H2 RV RU ST NS I0 I1 I2 BO FI RG GU PU MA MN MS OT SC 192 256 384 320 w r5 576 640 704 L Lg x7 zh19
          suffices e : Ev (d + 1, 0, 0, 307, 94, [.val (.ref 64), .val (.int p1), .val (.int p2), .val (.ref 515)], [.int x8], (126, 120, L, [Y_3, T, H, H2, RV, RU, ST, NS, I0, I1, I2, BO, FI, RG, GU, PU, MA, MN, MS, OT, SC], [192, 256, 384, 320, w, r5, 576, 640, 704], Lg)) o from ev_call (fun v μ => (d + 1, 0, 0, 307, 94, [.val (.ref 64), .val (.int p1), .val (.int p2), .val (.ref 515)], v.toList ++ [], μ)) 1 ze20 e (fun n => Eq.refl _)
          have ze21 := Option.some.inj h
          subst ze21
          exact ev_rete 1 ho (fun n => Eq.refl _)
        · have h := itn h zc9
          suffices e : Ev (d + 1, 0, 0, 307, 38, [.val (.ref 64), .val (.int p1), .val (.int p2), .val (.ref 515)], [], (126, 120, L, [Y_3, T, H, H2, RV, RU, ST, NS, I0, I1, I2, BO, FI, RG, GU, PU, MA, MN, MS, OT, SC], [192, 256, 384, 320, w, r5, 576, 640, 704], Lg)) o from ev_f (c := p1 < (NS 3 0)) _ _ 4  zc9 e (fun n => Eq.refl _)
          have ze22 := Option.some.inj h
          subst ze22
          exact ev_rete 2 ho (fun n => Eq.refl _)
    | succ q2 =>
      have h := itn h (Nat.succ_ne_zero q2)
      have ze23 := Option.some.inj h
      subst ze23
      subst ho
      exact ev_thr (fun v μ => (d + 1, 0, 0, 307, 18, [.val (.ref 64), .val (.int p1), .val (.int p2), .val a_unk], v.toList ++ [], μ)) 1 ze6 (fun n => Eq.refl _) (fun n => rfl)
  obtain ⟨zt24, zh25, zh2⟩ := bnd zh2
  have zj26 : zt24 = .inl () → Ev (d + 1, 1, 8, 307, 14, [.val (.ref 64), .val (.int p1), .val (.int p2), .val a_unk], [.ref 64], (126, 120, L, [Y, T, H, H2, RV, RU, ST, NS, I0, I1, I2, BO, FI, RG, GU, PU, MA, MN, MS, OT, SC], [192, 256, 384, 320, w, r5, 576, 640, 704], Lg)) o := by
    intro ze27
    have zh2 := sum_l zh2 ze27
    exact ev_b 1 (zj3 0 (Option.some.inj zh2) ) (fun n => Eq.refl _)
  by_cases zc28 : p2 < 0
  · have zh25 := itp zh25 zc28
    suffices e : Ev (d + 1, 1, 8, 307, 14, [.val (.ref 64), .val (.int p1), .val (.int p2), .val a_unk], [.ref 64], (126, 120, L, [Y, T, H, H2, RV, RU, ST, NS, I0, I1, I2, BO, FI, RG, GU, PU, MA, MN, MS, OT, SC], [192, 256, 384, 320, w, r5, 576, 640, 704], Lg)) o from ev_t (c := p2 < 0) _ _ 3  zc28 e (fun n => Eq.refl _)
    exact ev_b 0 (zj26  (Option.some.inj zh25).symm ) (fun n => Eq.refl _)
  · have zh25 := itn zh25 zc28
    suffices e : Ev (d + 1, 1, 8, 307, 5, [.val (.ref 64), .val (.int p1), .val (.int p2), .val a_unk], [.ref 64], (126, 120, L, [Y, T, H, H2, RV, RU, ST, NS, I0, I1, I2, BO, FI, RG, GU, PU, MA, MN, MS, OT, SC], [192, 256, 384, 320, w, r5, 576, 640, 704], Lg)) o from ev_f (c := p2 < 0) _ _ 3  zc28 e (fun n => Eq.refl _)
    by_cases zc29 : 2 < p2
    · have zh25 := itp zh25 zc29
      suffices e : Ev (d + 1, 1, 8, 307, 14, [.val (.ref 64), .val (.int p1), .val (.int p2), .val a_unk], [.ref 64], (126, 120, L, [Y, T, H, H2, RV, RU, ST, NS, I0, I1, I2, BO, FI, RG, GU, PU, MA, MN, MS, OT, SC], [192, 256, 384, 320, w, r5, 576, 640, 704], Lg)) o from ev_t (c := 2 < p2) _ _ 3  zc29 e (fun n => Eq.refl _)
      exact ev_b 0 (zj26  (Option.some.inj zh25).symm ) (fun n => Eq.refl _)
    · have zh25 := itn zh25 zc29
      suffices e : Ev (d + 1, 1, 8, 307, 10, [.val (.ref 64), .val (.int p1), .val (.int p2), .val a_unk], [.ref 64], (126, 120, L, [Y, T, H, H2, RV, RU, ST, NS, I0, I1, I2, BO, FI, RG, GU, PU, MA, MN, MS, OT, SC], [192, 256, 384, 320, w, r5, 576, 640, 704], Lg)) o from ev_f (c := 2 < p2) _ _ 3  zc29 e (fun n => Eq.refl _)
      have zh30 := sum_r zh2 (Option.some.inj zh25).symm
      exact ev_b 2 (zj3 1 (Option.some.inj zh30) ) (fun n => Eq.refl _)
set_option maxRecDepth 1000000 in
set_option maxHeartbeats 4000000 in
theorem R_f_Y_line_2 (d : Nat) (Y T H2 H RU RV ST NS I0 I1 I2 BO FI RG GU PU MA MN MS OT SC : Nat → Nat → Int32) (w r5 : Nat) (L : Nat) (Lg : Int64) (p1 : Int32) (p2 : Int32) {r : Nat × Int32 × (Nat → Nat → Int32)} (h : f_Y_line Y NS p1 p2 = some r) : Ev (d + 1, 1, 8, 307, 0, [.val (.ref 64), .val (.int p1), .val (.int p2), .val a_unk], [], (126, 120, L, [Y, T, H2, H, RU, RV, ST, NS, I0, I1, I2, BO, FI, RG, GU, PU, MA, MN, MS, OT, SC], [256, 192, 320, 384, w, r5, 576, 640, 704], Lg)) ((r.1, a_ov r.1 (.int r.2.1), (126, 120, L, [r.2.2, T, H2, H, RU, RV, ST, NS, I0, I1, I2, BO, FI, RG, GU, PU, MA, MN, MS, OT, SC], [256, 192, 320, 384, w, r5, 576, 640, 704], Lg)) : AOut) := by
  suffices key : ∀ o : AOut, ((r.1, a_ov r.1 (.int r.2.1), (126, 120, L, [r.2.2, T, H2, H, RU, RV, ST, NS, I0, I1, I2, BO, FI, RG, GU, PU, MA, MN, MS, OT, SC], [256, 192, 320, 384, w, r5, 576, 640, 704], Lg)) : AOut) = o → Ev (d + 1, 1, 8, 307, 0, [.val (.ref 64), .val (.int p1), .val (.int p2), .val a_unk], [], (126, 120, L, [Y, T, H2, H, RU, RV, ST, NS, I0, I1, I2, BO, FI, RG, GU, PU, MA, MN, MS, OT, SC], [256, 192, 320, 384, w, r5, 576, 640, 704], Lg)) o from key _ rfl
  intro o ho
  obtain ⟨zt1, zh2, h⟩ := bnd h
  have zj3 : ∀ (v1 : Int32), v1 = zt1 → Ev (d + 1, 1, 8, 307, 15, [.val (.ref 64), .val (.int p1), .val (.int p2), .val a_unk], [.int v1, .ref 64], (126, 120, L, [Y, T, H2, H, RU, RV, ST, NS, I0, I1, I2, BO, FI, RG, GU, PU, MA, MN, MS, OT, SC], [256, 192, 320, 384, w, r5, 576, 640, 704], Lg)) o := by
    intro v1 ze4
    subst ze4
    obtain ⟨⟨q2, Y_3⟩, zh5, h⟩ := bnd h
    have zh5 : f_Y_refuseUnless Y v1 = some (q2, Y_3) := zh5
    have ze6 := R_f_Y_refuseUnless_2 (d + 0) Y T H2 H RU RV ST NS I0 I1 I2 BO FI RG GU PU MA MN MS OT SC w r5 L Lg v1 zh5
    cases q2 with
    | zero =>
      have h := itp h rfl
      suffices e : Ev (d + 1, 0, 0, 307, 18, [.val (.ref 64), .val (.int p1), .val (.int p2), .val a_unk], [], (126, 120, L, [Y_3, T, H2, H, RU, RV, ST, NS, I0, I1, I2, BO, FI, RG, GU, PU, MA, MN, MS, OT, SC], [256, 192, 320, 384, w, r5, 576, 640, 704], Lg)) o from ev_call (fun v μ => (d + 1, 0, 0, 307, 18, [.val (.ref 64), .val (.int p1), .val (.int p2), .val a_unk], v.toList ++ [], μ)) 1 ze6 e (fun n => Eq.refl _)
      by_cases zc7 : p1 < 0
      · have h := itp h zc7
        suffices e : Ev (d + 1, 0, 0, 307, 38, [.val (.ref 64), .val (.int p1), .val (.int p2), .val (.ref 515)], [], (126, 120, L, [Y_3, T, H2, H, RU, RV, ST, NS, I0, I1, I2, BO, FI, RG, GU, PU, MA, MN, MS, OT, SC], [256, 192, 320, 384, w, r5, 576, 640, 704], Lg)) o from ev_t (c := p1 < 0) _ _ 6  zc7 e (fun n => Eq.refl _)
        have ze8 := Option.some.inj h
        subst ze8
        exact ev_rete 2 ho (fun n => Eq.refl _)
      · have h := itn h zc7
        suffices e : Ev (d + 1, 0, 0, 307, 30, [.val (.ref 64), .val (.int p1), .val (.int p2), .val (.ref 515)], [], (126, 120, L, [Y_3, T, H2, H, RU, RV, ST, NS, I0, I1, I2, BO, FI, RG, GU, PU, MA, MN, MS, OT, SC], [256, 192, 320, 384, w, r5, 576, 640, 704], Lg)) o from ev_f (c := p1 < 0) _ _ 6  zc7 e (fun n => Eq.refl _)
        by_cases zc9 : p1 < (NS 3 0)
        · have h := itp h zc9
          suffices e : Ev (d + 1, 0, 0, 307, 40, [.val (.ref 64), .val (.int p1), .val (.int p2), .val (.ref 515)], [], (126, 120, L, [Y_3, T, H2, H, RU, RV, ST, NS, I0, I1, I2, BO, FI, RG, GU, PU, MA, MN, MS, OT, SC], [256, 192, 320, 384, w, r5, 576, 640, 704], Lg)) o from ev_t (c := p1 < (NS 3 0)) _ _ 4  zc9 e (fun n => Eq.refl _)
          by_cases zc10 : p2 = 0
          · have h := itp h zc10
            suffices e : Ev (d + 1, 0, 0, 307, 68, [.val (.ref 64), .val (.int p1), .val (.int p2), .val (.ref 515)], [], (126, 120, L, [Y_3, T, H2, H, RU, RV, ST, NS, I0, I1, I2, BO, FI, RG, GU, PU, MA, MN, MS, OT, SC], [256, 192, 320, 384, w, r5, 576, 640, 704], Lg)) o from ev_sw [((0 : Int32), 68), ((1 : Int32), 75)] p2 (fun tt => (d + 1, 0, 0, 307, tt, [.val (.ref 64), .val (.int p1), .val (.int p2), .val (.ref 515)], [], (126, 120, L, [Y_3, T, H2, H, RU, RV, ST, NS, I0, I1, I2, BO, FI, RG, GU, PU, MA, MN, MS, OT, SC], [256, 192, 320, 384, w, r5, 576, 640, 704], Lg))) 85 68 2 (fun f => by simp only [a_sw, if_pos zc10]) e (fun n => Eq.refl _)
            obtain ⟨x4, zh11, h⟩ := bnd h
            have zh11 : rdx (NS 4) 10 p1 = some x4 := zh11
            suffices e : Ev (d + 1, 0, 0, 307, 74, [.val (.ref 64), .val (.int p1), .val (.int p2), .val (.ref 515)], [.int x4], (126, 120, L, [Y_3, T, H2, H, RU, RV, ST, NS, I0, I1, I2, BO, FI, RG, GU, PU, MA, MN, MS, OT, SC], [256, 192, 320, 384, w, r5, 576, 640, 704], Lg)) o from ev_opt (fun x4 => (d + 1, 0, 0, 307, 74, [.val (.ref 64), .val (.int p1), .val (.int p2), .val (.ref 515)], [.int x4], (126, 120, L, [Y_3, T, H2, H, RU, RV, ST, NS, I0, I1, I2, BO, FI, RG, GU, PU, MA, MN, MS, OT, SC], [256, 192, 320, 384, w, r5, 576, 640, 704], Lg))) 4 zh11 e (fun n => Eq.refl _)
            have ze12 := Option.some.inj h
            subst ze12
            exact ev_rete 1 ho (fun n => Eq.refl _)
          have h := itn h zc10
          by_cases zc13 : p2 = 1
          · have h := itp h zc13
            suffices e : Ev (d + 1, 0, 0, 307, 75, [.val (.ref 64), .val (.int p1), .val (.int p2), .val (.ref 515)], [], (126, 120, L, [Y_3, T, H2, H, RU, RV, ST, NS, I0, I1, I2, BO, FI, RG, GU, PU, MA, MN, MS, OT, SC], [256, 192, 320, 384, w, r5, 576, 640, 704], Lg)) o from ev_sw [((0 : Int32), 68), ((1 : Int32), 75)] p2 (fun tt => (d + 1, 0, 0, 307, tt, [.val (.ref 64), .val (.int p1), .val (.int p2), .val (.ref 515)], [], (126, 120, L, [Y_3, T, H2, H, RU, RV, ST, NS, I0, I1, I2, BO, FI, RG, GU, PU, MA, MN, MS, OT, SC], [256, 192, 320, 384, w, r5, 576, 640, 704], Lg))) 85 75 2 (fun f => by simp only [a_sw, if_neg zc10, if_pos zc13]) e (fun n => Eq.refl _)
            obtain ⟨x5, zh14, h⟩ := bnd h
            have zh14 : rdx (NS 5) 10 p1 = some x5 := zh14
            suffices e : Ev (d + 1, 0, 0, 307, 81, [.val (.ref 64), .val (.int p1), .val (.int p2), .val (.ref 515)], [.int x5], (126, 120, L, [Y_3, T, H2, H, RU, RV, ST, NS, I0, I1, I2, BO, FI, RG, GU, PU, MA, MN, MS, OT, SC], [256, 192, 320, 384, w, r5, 576, 640, 704], Lg)) o from ev_opt (fun x5 => (d + 1, 0, 0, 307, 81, [.val (.ref 64), .val (.int p1), .val (.int p2), .val (.ref 515)], [.int x5], (126, 120, L, [Y_3, T, H2, H, RU, RV, ST, NS, I0, I1, I2, BO, FI, RG, GU, PU, MA, MN, MS, OT, SC], [256, 192, 320, 384, w, r5, 576, 640, 704], Lg))) 4 zh14 e (fun n => Eq.refl _)
            obtain ⟨x6, zh15, h⟩ := bnd h
            have zh15 : f_Y_hourOf x5 = some x6 := zh15
            have ze16 := R_f_Y_hourOf_0 (d + 0) Y_3 T H2 H RU RV ST NS I0 I1 I2 BO FI RG GU PU MA MN MS OT SC 256 192 320 384 w r5 576 640 704 L Lg x5 zh15
            suffices e : Ev (d + 1, 0, 0, 307, 84, [.val (.ref 64), .val (.int p1), .val (.int p2), .val (.ref 515)], [.int x6], (126, 120, L, [Y_3, T, H2, H, RU, RV, ST, NS, I0, I1, I2, BO, FI, RG, GU, PU, MA, MN, MS, OT, SC], [256, 192, 320, 384, w, r5, 576, 640, 704], Lg)) o from ev_call (fun v μ => (d + 1, 0, 0, 307, 84, [.val (.ref 64), .val (.int p1), .val (.int p2), .val (.ref 515)], v.toList ++ [], μ)) 1 ze16 e (fun n => Eq.refl _)
            have ze17 := Option.some.inj h
            subst ze17
            exact ev_rete 1 ho (fun n => Eq.refl _)
          have h := itn h zc13
          suffices e : Ev (d + 1, 0, 0, 307, 85, [.val (.ref 64), .val (.int p1), .val (.int p2), .val (.ref 515)], [], (126, 120, L, [Y_3, T, H2, H, RU, RV, ST, NS, I0, I1, I2, BO, FI, RG, GU, PU, MA, MN, MS, OT, SC], [256, 192, 320, 384, w, r5, 576, 640, 704], Lg)) o from ev_sw [((0 : Int32), 68), ((1 : Int32), 75)] p2 (fun tt => (d + 1, 0, 0, 307, tt, [.val (.ref 64), .val (.int p1), .val (.int p2), .val (.ref 515)], [], (126, 120, L, [Y_3, T, H2, H, RU, RV, ST, NS, I0, I1, I2, BO, FI, RG, GU, PU, MA, MN, MS, OT, SC], [256, 192, 320, 384, w, r5, 576, 640, 704], Lg))) 85 85 2 (fun f => by simp only [a_sw, if_neg zc10, if_neg zc13]) e (fun n => Eq.refl _)
          obtain ⟨x7, zh18, h⟩ := bnd h
          have zh18 : rdx (NS 5) 10 p1 = some x7 := zh18
          suffices e : Ev (d + 1, 0, 0, 307, 91, [.val (.ref 64), .val (.int p1), .val (.int p2), .val (.ref 515)], [.int x7], (126, 120, L, [Y_3, T, H2, H, RU, RV, ST, NS, I0, I1, I2, BO, FI, RG, GU, PU, MA, MN, MS, OT, SC], [256, 192, 320, 384, w, r5, 576, 640, 704], Lg)) o from ev_opt (fun x7 => (d + 1, 0, 0, 307, 91, [.val (.ref 64), .val (.int p1), .val (.int p2), .val (.ref 515)], [.int x7], (126, 120, L, [Y_3, T, H2, H, RU, RV, ST, NS, I0, I1, I2, BO, FI, RG, GU, PU, MA, MN, MS, OT, SC], [256, 192, 320, 384, w, r5, 576, 640, 704], Lg))) 4 zh18 e (fun n => Eq.refl _)
          obtain ⟨x8, zh19, h⟩ := bnd h
          have zh19 : f_Y_roomOf x7 = some x8 := zh19
          have ze20 := R_f_Y_roomOf_0 (d + 0) Y_3 T H2 H RU RV ST NS I0 I1 I2 BO FI RG GU PU MA MN MS OT SC 256 192 320 384 w r5 576 640 704 L Lg x7 zh19
          suffices e : Ev (d + 1, 0, 0, 307, 94, [.val (.ref 64), .val (.int p1), .val (.int p2), .val (.ref 515)], [.int x8], (126, 120, L, [Y_3, T, H2, H, RU, RV, ST, NS, I0, I1, I2, BO, FI, RG, GU, PU, MA, MN, MS, OT, SC], [256, 192, 320, 384, w, r5, 576, 640, 704], Lg)) o from ev_call (fun v μ => (d + 1, 0, 0, 307, 94, [.val (.ref 64), .val (.int p1), .val (.int p2), .val (.ref 515)], v.toList ++ [], μ)) 1 ze20 e (fun n => Eq.refl _)
          have ze21 := Option.some.inj h
          subst ze21
          exact ev_rete 1 ho (fun n => Eq.refl _)
        · have h := itn h zc9
          suffices e : Ev (d + 1, 0, 0, 307, 38, [.val (.ref 64), .val (.int p1), .val (.int p2), .val (.ref 515)], [], (126, 120, L, [Y_3, T, H2, H, RU, RV, ST, NS, I0, I1, I2, BO, FI, RG, GU, PU, MA, MN, MS, OT, SC], [256, 192, 320, 384, w, r5, 576, 640, 704], Lg)) o from ev_f (c := p1 < (NS 3 0)) _ _ 4  zc9 e (fun n => Eq.refl _)
          have ze22 := Option.some.inj h
          subst ze22
          exact ev_rete 2 ho (fun n => Eq.refl _)
    | succ q2 =>
      have h := itn h (Nat.succ_ne_zero q2)
      have ze23 := Option.some.inj h
      subst ze23
      subst ho
      exact ev_thr (fun v μ => (d + 1, 0, 0, 307, 18, [.val (.ref 64), .val (.int p1), .val (.int p2), .val a_unk], v.toList ++ [], μ)) 1 ze6 (fun n => Eq.refl _) (fun n => rfl)
  obtain ⟨zt24, zh25, zh2⟩ := bnd zh2
  have zj26 : zt24 = .inl () → Ev (d + 1, 1, 8, 307, 14, [.val (.ref 64), .val (.int p1), .val (.int p2), .val a_unk], [.ref 64], (126, 120, L, [Y, T, H2, H, RU, RV, ST, NS, I0, I1, I2, BO, FI, RG, GU, PU, MA, MN, MS, OT, SC], [256, 192, 320, 384, w, r5, 576, 640, 704], Lg)) o := by
    intro ze27
    have zh2 := sum_l zh2 ze27
    exact ev_b 1 (zj3 0 (Option.some.inj zh2) ) (fun n => Eq.refl _)
  by_cases zc28 : p2 < 0
  · have zh25 := itp zh25 zc28
    suffices e : Ev (d + 1, 1, 8, 307, 14, [.val (.ref 64), .val (.int p1), .val (.int p2), .val a_unk], [.ref 64], (126, 120, L, [Y, T, H2, H, RU, RV, ST, NS, I0, I1, I2, BO, FI, RG, GU, PU, MA, MN, MS, OT, SC], [256, 192, 320, 384, w, r5, 576, 640, 704], Lg)) o from ev_t (c := p2 < 0) _ _ 3  zc28 e (fun n => Eq.refl _)
    exact ev_b 0 (zj26  (Option.some.inj zh25).symm ) (fun n => Eq.refl _)
  · have zh25 := itn zh25 zc28
    suffices e : Ev (d + 1, 1, 8, 307, 5, [.val (.ref 64), .val (.int p1), .val (.int p2), .val a_unk], [.ref 64], (126, 120, L, [Y, T, H2, H, RU, RV, ST, NS, I0, I1, I2, BO, FI, RG, GU, PU, MA, MN, MS, OT, SC], [256, 192, 320, 384, w, r5, 576, 640, 704], Lg)) o from ev_f (c := p2 < 0) _ _ 3  zc28 e (fun n => Eq.refl _)
    by_cases zc29 : 2 < p2
    · have zh25 := itp zh25 zc29
      suffices e : Ev (d + 1, 1, 8, 307, 14, [.val (.ref 64), .val (.int p1), .val (.int p2), .val a_unk], [.ref 64], (126, 120, L, [Y, T, H2, H, RU, RV, ST, NS, I0, I1, I2, BO, FI, RG, GU, PU, MA, MN, MS, OT, SC], [256, 192, 320, 384, w, r5, 576, 640, 704], Lg)) o from ev_t (c := 2 < p2) _ _ 3  zc29 e (fun n => Eq.refl _)
      exact ev_b 0 (zj26  (Option.some.inj zh25).symm ) (fun n => Eq.refl _)
    · have zh25 := itn zh25 zc29
      suffices e : Ev (d + 1, 1, 8, 307, 10, [.val (.ref 64), .val (.int p1), .val (.int p2), .val a_unk], [.ref 64], (126, 120, L, [Y, T, H2, H, RU, RV, ST, NS, I0, I1, I2, BO, FI, RG, GU, PU, MA, MN, MS, OT, SC], [256, 192, 320, 384, w, r5, 576, 640, 704], Lg)) o from ev_f (c := 2 < p2) _ _ 3  zc29 e (fun n => Eq.refl _)
      have zh30 := sum_r zh2 (Option.some.inj zh25).symm
      exact ev_b 2 (zj3 1 (Option.some.inj zh30) ) (fun n => Eq.refl _)
set_option maxRecDepth 1000000 in
set_option maxHeartbeats 4000000 in
theorem R_f_Y_line_3 (d : Nat) (Y T H2 H RV RU ST NS I0 I1 I2 BO FI RG GU PU MA MN MS OT SC : Nat → Nat → Int32) (w r5 : Nat) (L : Nat) (Lg : Int64) (p1 : Int32) (p2 : Int32) {r : Nat × Int32 × (Nat → Nat → Int32)} (h : f_Y_line Y NS p1 p2 = some r) : Ev (d + 1, 1, 8, 307, 0, [.val (.ref 64), .val (.int p1), .val (.int p2), .val a_unk], [], (126, 120, L, [Y, T, H2, H, RV, RU, ST, NS, I0, I1, I2, BO, FI, RG, GU, PU, MA, MN, MS, OT, SC], [256, 192, 384, 320, w, r5, 576, 640, 704], Lg)) ((r.1, a_ov r.1 (.int r.2.1), (126, 120, L, [r.2.2, T, H2, H, RV, RU, ST, NS, I0, I1, I2, BO, FI, RG, GU, PU, MA, MN, MS, OT, SC], [256, 192, 384, 320, w, r5, 576, 640, 704], Lg)) : AOut) := by
  suffices key : ∀ o : AOut, ((r.1, a_ov r.1 (.int r.2.1), (126, 120, L, [r.2.2, T, H2, H, RV, RU, ST, NS, I0, I1, I2, BO, FI, RG, GU, PU, MA, MN, MS, OT, SC], [256, 192, 384, 320, w, r5, 576, 640, 704], Lg)) : AOut) = o → Ev (d + 1, 1, 8, 307, 0, [.val (.ref 64), .val (.int p1), .val (.int p2), .val a_unk], [], (126, 120, L, [Y, T, H2, H, RV, RU, ST, NS, I0, I1, I2, BO, FI, RG, GU, PU, MA, MN, MS, OT, SC], [256, 192, 384, 320, w, r5, 576, 640, 704], Lg)) o from key _ rfl
  intro o ho
  obtain ⟨zt1, zh2, h⟩ := bnd h
  have zj3 : ∀ (v1 : Int32), v1 = zt1 → Ev (d + 1, 1, 8, 307, 15, [.val (.ref 64), .val (.int p1), .val (.int p2), .val a_unk], [.int v1, .ref 64], (126, 120, L, [Y, T, H2, H, RV, RU, ST, NS, I0, I1, I2, BO, FI, RG, GU, PU, MA, MN, MS, OT, SC], [256, 192, 384, 320, w, r5, 576, 640, 704], Lg)) o := by
    intro v1 ze4
    subst ze4
    obtain ⟨⟨q2, Y_3⟩, zh5, h⟩ := bnd h
    have zh5 : f_Y_refuseUnless Y v1 = some (q2, Y_3) := zh5
    have ze6 := R_f_Y_refuseUnless_3 (d + 0) Y T H2 H RV RU ST NS I0 I1 I2 BO FI RG GU PU MA MN MS OT SC w r5 L Lg v1 zh5
    cases q2 with
    | zero =>
      have h := itp h rfl
      suffices e : Ev (d + 1, 0, 0, 307, 18, [.val (.ref 64), .val (.int p1), .val (.int p2), .val a_unk], [], (126, 120, L, [Y_3, T, H2, H, RV, RU, ST, NS, I0, I1, I2, BO, FI, RG, GU, PU, MA, MN, MS, OT, SC], [256, 192, 384, 320, w, r5, 576, 640, 704], Lg)) o from ev_call (fun v μ => (d + 1, 0, 0, 307, 18, [.val (.ref 64), .val (.int p1), .val (.int p2), .val a_unk], v.toList ++ [], μ)) 1 ze6 e (fun n => Eq.refl _)
      by_cases zc7 : p1 < 0
      · have h := itp h zc7
        suffices e : Ev (d + 1, 0, 0, 307, 38, [.val (.ref 64), .val (.int p1), .val (.int p2), .val (.ref 515)], [], (126, 120, L, [Y_3, T, H2, H, RV, RU, ST, NS, I0, I1, I2, BO, FI, RG, GU, PU, MA, MN, MS, OT, SC], [256, 192, 384, 320, w, r5, 576, 640, 704], Lg)) o from ev_t (c := p1 < 0) _ _ 6  zc7 e (fun n => Eq.refl _)
        have ze8 := Option.some.inj h
        subst ze8
        exact ev_rete 2 ho (fun n => Eq.refl _)
      · have h := itn h zc7
        suffices e : Ev (d + 1, 0, 0, 307, 30, [.val (.ref 64), .val (.int p1), .val (.int p2), .val (.ref 515)], [], (126, 120, L, [Y_3, T, H2, H, RV, RU, ST, NS, I0, I1, I2, BO, FI, RG, GU, PU, MA, MN, MS, OT, SC], [256, 192, 384, 320, w, r5, 576, 640, 704], Lg)) o from ev_f (c := p1 < 0) _ _ 6  zc7 e (fun n => Eq.refl _)
        by_cases zc9 : p1 < (NS 3 0)
        · have h := itp h zc9
          suffices e : Ev (d + 1, 0, 0, 307, 40, [.val (.ref 64), .val (.int p1), .val (.int p2), .val (.ref 515)], [], (126, 120, L, [Y_3, T, H2, H, RV, RU, ST, NS, I0, I1, I2, BO, FI, RG, GU, PU, MA, MN, MS, OT, SC], [256, 192, 384, 320, w, r5, 576, 640, 704], Lg)) o from ev_t (c := p1 < (NS 3 0)) _ _ 4  zc9 e (fun n => Eq.refl _)
          by_cases zc10 : p2 = 0
          · have h := itp h zc10
            suffices e : Ev (d + 1, 0, 0, 307, 68, [.val (.ref 64), .val (.int p1), .val (.int p2), .val (.ref 515)], [], (126, 120, L, [Y_3, T, H2, H, RV, RU, ST, NS, I0, I1, I2, BO, FI, RG, GU, PU, MA, MN, MS, OT, SC], [256, 192, 384, 320, w, r5, 576, 640, 704], Lg)) o from ev_sw [((0 : Int32), 68), ((1 : Int32), 75)] p2 (fun tt => (d + 1, 0, 0, 307, tt, [.val (.ref 64), .val (.int p1), .val (.int p2), .val (.ref 515)], [], (126, 120, L, [Y_3, T, H2, H, RV, RU, ST, NS, I0, I1, I2, BO, FI, RG, GU, PU, MA, MN, MS, OT, SC], [256, 192, 384, 320, w, r5, 576, 640, 704], Lg))) 85 68 2 (fun f => by simp only [a_sw, if_pos zc10]) e (fun n => Eq.refl _)
            obtain ⟨x4, zh11, h⟩ := bnd h
            have zh11 : rdx (NS 4) 10 p1 = some x4 := zh11
            suffices e : Ev (d + 1, 0, 0, 307, 74, [.val (.ref 64), .val (.int p1), .val (.int p2), .val (.ref 515)], [.int x4], (126, 120, L, [Y_3, T, H2, H, RV, RU, ST, NS, I0, I1, I2, BO, FI, RG, GU, PU, MA, MN, MS, OT, SC], [256, 192, 384, 320, w, r5, 576, 640, 704], Lg)) o from ev_opt (fun x4 => (d + 1, 0, 0, 307, 74, [.val (.ref 64), .val (.int p1), .val (.int p2), .val (.ref 515)], [.int x4], (126, 120, L, [Y_3, T, H2, H, RV, RU, ST, NS, I0, I1, I2, BO, FI, RG, GU, PU, MA, MN, MS, OT, SC], [256, 192, 384, 320, w, r5, 576, 640, 704], Lg))) 4 zh11 e (fun n => Eq.refl _)
            have ze12 := Option.some.inj h
            subst ze12
            exact ev_rete 1 ho (fun n => Eq.refl _)
          have h := itn h zc10
          by_cases zc13 : p2 = 1
          · have h := itp h zc13
            suffices e : Ev (d + 1, 0, 0, 307, 75, [.val (.ref 64), .val (.int p1), .val (.int p2), .val (.ref 515)], [], (126, 120, L, [Y_3, T, H2, H, RV, RU, ST, NS, I0, I1, I2, BO, FI, RG, GU, PU, MA, MN, MS, OT, SC], [256, 192, 384, 320, w, r5, 576, 640, 704], Lg)) o from ev_sw [((0 : Int32), 68), ((1 : Int32), 75)] p2 (fun tt => (d + 1, 0, 0, 307, tt, [.val (.ref 64), .val (.int p1), .val (.int p2), .val (.ref 515)], [], (126, 120, L, [Y_3, T, H2, H, RV, RU, ST, NS, I0, I1, I2, BO, FI, RG, GU, PU, MA, MN, MS, OT, SC], [256, 192, 384, 320, w, r5, 576, 640, 704], Lg))) 85 75 2 (fun f => by simp only [a_sw, if_neg zc10, if_pos zc13]) e (fun n => Eq.refl _)
            obtain ⟨x5, zh14, h⟩ := bnd h
            have zh14 : rdx (NS 5) 10 p1 = some x5 := zh14
            suffices e : Ev (d + 1, 0, 0, 307, 81, [.val (.ref 64), .val (.int p1), .val (.int p2), .val (.ref 515)], [.int x5], (126, 120, L, [Y_3, T, H2, H, RV, RU, ST, NS, I0, I1, I2, BO, FI, RG, GU, PU, MA, MN, MS, OT, SC], [256, 192, 384, 320, w, r5, 576, 640, 704], Lg)) o from ev_opt (fun x5 => (d + 1, 0, 0, 307, 81, [.val (.ref 64), .val (.int p1), .val (.int p2), .val (.ref 515)], [.int x5], (126, 120, L, [Y_3, T, H2, H, RV, RU, ST, NS, I0, I1, I2, BO, FI, RG, GU, PU, MA, MN, MS, OT, SC], [256, 192, 384, 320, w, r5, 576, 640, 704], Lg))) 4 zh14 e (fun n => Eq.refl _)
            obtain ⟨x6, zh15, h⟩ := bnd h
            have zh15 : f_Y_hourOf x5 = some x6 := zh15
            have ze16 := R_f_Y_hourOf_0 (d + 0) Y_3 T H2 H RV RU ST NS I0 I1 I2 BO FI RG GU PU MA MN MS OT SC 256 192 384 320 w r5 576 640 704 L Lg x5 zh15
            suffices e : Ev (d + 1, 0, 0, 307, 84, [.val (.ref 64), .val (.int p1), .val (.int p2), .val (.ref 515)], [.int x6], (126, 120, L, [Y_3, T, H2, H, RV, RU, ST, NS, I0, I1, I2, BO, FI, RG, GU, PU, MA, MN, MS, OT, SC], [256, 192, 384, 320, w, r5, 576, 640, 704], Lg)) o from ev_call (fun v μ => (d + 1, 0, 0, 307, 84, [.val (.ref 64), .val (.int p1), .val (.int p2), .val (.ref 515)], v.toList ++ [], μ)) 1 ze16 e (fun n => Eq.refl _)
            have ze17 := Option.some.inj h
            subst ze17
            exact ev_rete 1 ho (fun n => Eq.refl _)
          have h := itn h zc13
          suffices e : Ev (d + 1, 0, 0, 307, 85, [.val (.ref 64), .val (.int p1), .val (.int p2), .val (.ref 515)], [], (126, 120, L, [Y_3, T, H2, H, RV, RU, ST, NS, I0, I1, I2, BO, FI, RG, GU, PU, MA, MN, MS, OT, SC], [256, 192, 384, 320, w, r5, 576, 640, 704], Lg)) o from ev_sw [((0 : Int32), 68), ((1 : Int32), 75)] p2 (fun tt => (d + 1, 0, 0, 307, tt, [.val (.ref 64), .val (.int p1), .val (.int p2), .val (.ref 515)], [], (126, 120, L, [Y_3, T, H2, H, RV, RU, ST, NS, I0, I1, I2, BO, FI, RG, GU, PU, MA, MN, MS, OT, SC], [256, 192, 384, 320, w, r5, 576, 640, 704], Lg))) 85 85 2 (fun f => by simp only [a_sw, if_neg zc10, if_neg zc13]) e (fun n => Eq.refl _)
          obtain ⟨x7, zh18, h⟩ := bnd h
          have zh18 : rdx (NS 5) 10 p1 = some x7 := zh18
          suffices e : Ev (d + 1, 0, 0, 307, 91, [.val (.ref 64), .val (.int p1), .val (.int p2), .val (.ref 515)], [.int x7], (126, 120, L, [Y_3, T, H2, H, RV, RU, ST, NS, I0, I1, I2, BO, FI, RG, GU, PU, MA, MN, MS, OT, SC], [256, 192, 384, 320, w, r5, 576, 640, 704], Lg)) o from ev_opt (fun x7 => (d + 1, 0, 0, 307, 91, [.val (.ref 64), .val (.int p1), .val (.int p2), .val (.ref 515)], [.int x7], (126, 120, L, [Y_3, T, H2, H, RV, RU, ST, NS, I0, I1, I2, BO, FI, RG, GU, PU, MA, MN, MS, OT, SC], [256, 192, 384, 320, w, r5, 576, 640, 704], Lg))) 4 zh18 e (fun n => Eq.refl _)
          obtain ⟨x8, zh19, h⟩ := bnd h
          have zh19 : f_Y_roomOf x7 = some x8 := zh19
          have ze20 := R_f_Y_roomOf_0 (d + 0) Y_3 T H2 H RV RU ST NS I0 I1 I2 BO FI RG GU PU MA MN MS OT SC 256 192 384 320 w r5 576 640 704 L Lg x7 zh19
          suffices e : Ev (d + 1, 0, 0, 307, 94, [.val (.ref 64), .val (.int p1), .val (.int p2), .val (.ref 515)], [.int x8], (126, 120, L, [Y_3, T, H2, H, RV, RU, ST, NS, I0, I1, I2, BO, FI, RG, GU, PU, MA, MN, MS, OT, SC], [256, 192, 384, 320, w, r5, 576, 640, 704], Lg)) o from ev_call (fun v μ => (d + 1, 0, 0, 307, 94, [.val (.ref 64), .val (.int p1), .val (.int p2), .val (.ref 515)], v.toList ++ [], μ)) 1 ze20 e (fun n => Eq.refl _)
          have ze21 := Option.some.inj h
          subst ze21
          exact ev_rete 1 ho (fun n => Eq.refl _)
        · have h := itn h zc9
          suffices e : Ev (d + 1, 0, 0, 307, 38, [.val (.ref 64), .val (.int p1), .val (.int p2), .val (.ref 515)], [], (126, 120, L, [Y_3, T, H2, H, RV, RU, ST, NS, I0, I1, I2, BO, FI, RG, GU, PU, MA, MN, MS, OT, SC], [256, 192, 384, 320, w, r5, 576, 640, 704], Lg)) o from ev_f (c := p1 < (NS 3 0)) _ _ 4  zc9 e (fun n => Eq.refl _)
          have ze22 := Option.some.inj h
          subst ze22
          exact ev_rete 2 ho (fun n => Eq.refl _)
    | succ q2 =>
      have h := itn h (Nat.succ_ne_zero q2)
      have ze23 := Option.some.inj h
      subst ze23
      subst ho
      exact ev_thr (fun v μ => (d + 1, 0, 0, 307, 18, [.val (.ref 64), .val (.int p1), .val (.int p2), .val a_unk], v.toList ++ [], μ)) 1 ze6 (fun n => Eq.refl _) (fun n => rfl)
  obtain ⟨zt24, zh25, zh2⟩ := bnd zh2
  have zj26 : zt24 = .inl () → Ev (d + 1, 1, 8, 307, 14, [.val (.ref 64), .val (.int p1), .val (.int p2), .val a_unk], [.ref 64], (126, 120, L, [Y, T, H2, H, RV, RU, ST, NS, I0, I1, I2, BO, FI, RG, GU, PU, MA, MN, MS, OT, SC], [256, 192, 384, 320, w, r5, 576, 640, 704], Lg)) o := by
    intro ze27
    have zh2 := sum_l zh2 ze27
    exact ev_b 1 (zj3 0 (Option.some.inj zh2) ) (fun n => Eq.refl _)
  by_cases zc28 : p2 < 0
  · have zh25 := itp zh25 zc28
    suffices e : Ev (d + 1, 1, 8, 307, 14, [.val (.ref 64), .val (.int p1), .val (.int p2), .val a_unk], [.ref 64], (126, 120, L, [Y, T, H2, H, RV, RU, ST, NS, I0, I1, I2, BO, FI, RG, GU, PU, MA, MN, MS, OT, SC], [256, 192, 384, 320, w, r5, 576, 640, 704], Lg)) o from ev_t (c := p2 < 0) _ _ 3  zc28 e (fun n => Eq.refl _)
    exact ev_b 0 (zj26  (Option.some.inj zh25).symm ) (fun n => Eq.refl _)
  · have zh25 := itn zh25 zc28
    suffices e : Ev (d + 1, 1, 8, 307, 5, [.val (.ref 64), .val (.int p1), .val (.int p2), .val a_unk], [.ref 64], (126, 120, L, [Y, T, H2, H, RV, RU, ST, NS, I0, I1, I2, BO, FI, RG, GU, PU, MA, MN, MS, OT, SC], [256, 192, 384, 320, w, r5, 576, 640, 704], Lg)) o from ev_f (c := p2 < 0) _ _ 3  zc28 e (fun n => Eq.refl _)
    by_cases zc29 : 2 < p2
    · have zh25 := itp zh25 zc29
      suffices e : Ev (d + 1, 1, 8, 307, 14, [.val (.ref 64), .val (.int p1), .val (.int p2), .val a_unk], [.ref 64], (126, 120, L, [Y, T, H2, H, RV, RU, ST, NS, I0, I1, I2, BO, FI, RG, GU, PU, MA, MN, MS, OT, SC], [256, 192, 384, 320, w, r5, 576, 640, 704], Lg)) o from ev_t (c := 2 < p2) _ _ 3  zc29 e (fun n => Eq.refl _)
      exact ev_b 0 (zj26  (Option.some.inj zh25).symm ) (fun n => Eq.refl _)
    · have zh25 := itn zh25 zc29
      suffices e : Ev (d + 1, 1, 8, 307, 10, [.val (.ref 64), .val (.int p1), .val (.int p2), .val a_unk], [.ref 64], (126, 120, L, [Y, T, H2, H, RV, RU, ST, NS, I0, I1, I2, BO, FI, RG, GU, PU, MA, MN, MS, OT, SC], [256, 192, 384, 320, w, r5, 576, 640, 704], Lg)) o from ev_f (c := 2 < p2) _ _ 3  zc29 e (fun n => Eq.refl _)
      have zh30 := sum_r zh2 (Option.some.inj zh25).symm
      exact ev_b 2 (zj3 1 (Option.some.inj zh30) ) (fun n => Eq.refl _)
set_option maxRecDepth 1000000 in
set_option maxHeartbeats 4000000 in
theorem R_f_Guide_load_0 (d : Nat) (Y T H H2 RA RB ST NS I0 I1 I2 BO FI RG GU PU MA MN MS OT SC : Nat → Nat → Int32) (r0 r1 r2 r3 w r6 r7 r8 : Nat) (L : Nat) (Lg : Int64) {r : (Nat → Nat → Int32)} (h : f_Guide_load H NS BO GU = some r) : Ev (d + 1, 0, 0, 188, 0, [.val (.ref 960), .val (.ref 768), .val (.ref 515), .val a_unk], [], (126, 120, L, [Y, T, H, H2, RA, RB, ST, NS, I0, I1, I2, BO, FI, RG, GU, PU, MA, MN, MS, OT, SC], [r0, r1, r2, r3, w, 192, r6, r7, r8], Lg)) ((0, none, (126, 120, L, [Y, T, H, H2, RA, RB, ST, NS, I0, I1, I2, BO, FI, RG, r, PU, MA, MN, MS, OT, SC], [r0, r1, r2, r3, w, 192, r6, r7, r8], Lg)) : AOut) := by
  suffices key : ∀ o : AOut, ((0, none, (126, 120, L, [Y, T, H, H2, RA, RB, ST, NS, I0, I1, I2, BO, FI, RG, r, PU, MA, MN, MS, OT, SC], [r0, r1, r2, r3, w, 192, r6, r7, r8], Lg)) : AOut) = o → Ev (d + 1, 0, 0, 188, 0, [.val (.ref 960), .val (.ref 768), .val (.ref 515), .val a_unk], [], (126, 120, L, [Y, T, H, H2, RA, RB, ST, NS, I0, I1, I2, BO, FI, RG, GU, PU, MA, MN, MS, OT, SC], [r0, r1, r2, r3, w, 192, r6, r7, r8], Lg)) o from key _ rfl
  intro o ho
  by_cases zc1 : ((0 : Int32) < 0 ∨ (0 : Int32) < 0 ∨ (10 : Int32) < 0 ∨ 10 < (0 : Int32).toNatClampNeg + (10 : Int32).toNatClampNeg ∨ 10 < (0 : Int32).toNatClampNeg + (10 : Int32).toNatClampNeg)
  · exact nos (itp h zc1)
  have h := itn h zc1
  suffices e : Ev (d + 1, 0, 0, 188, 15, [.val (.ref 960), .val (.ref 768), .val (.ref 515), .val a_unk], [], (126, 120, L, [Y, T, H, H2, RA, RB, ST, NS, I0, I1, I2, BO, FI, RG, (u1 GU 1 (a_cpy (BO 1) (GU 1) (0 : Int32).toNatClampNeg (0 : Int32).toNatClampNeg (10 : Int32).toNatClampNeg)), PU, MA, MN, MS, OT, SC], [r0, r1, r2, r3, w, 192, r6, r7, r8], Lg)) o from ev_d (c := ((0 : Int32) < 0 ∨ (0 : Int32) < 0 ∨ (10 : Int32) < 0 ∨ 10 < (0 : Int32).toNatClampNeg + (10 : Int32).toNatClampNeg ∨ 10 < (0 : Int32).toNatClampNeg + (10 : Int32).toNatClampNeg)) _ 8 zc1 e (fun n => Eq.refl _)
  by_cases zc2 : ((0 : Int32) < 0 ∨ (0 : Int32) < 0 ∨ (10 : Int32) < 0 ∨ 10 < (0 : Int32).toNatClampNeg + (10 : Int32).toNatClampNeg ∨ 10 < (0 : Int32).toNatClampNeg + (10 : Int32).toNatClampNeg)
  · exact nos (itp h zc2)
  have h := itn h zc2
  suffices e : Ev (d + 1, 0, 0, 188, 30, [.val (.ref 960), .val (.ref 768), .val (.ref 515), .val a_unk], [], (126, 120, L, [Y, T, H, H2, RA, RB, ST, NS, I0, I1, I2, BO, FI, RG, (u1 (u1 GU 1 (a_cpy (BO 1) (GU 1) (0 : Int32).toNatClampNeg (0 : Int32).toNatClampNeg (10 : Int32).toNatClampNeg)) 2 (a_cpy (BO 1) ((u1 GU 1 (a_cpy (BO 1) (GU 1) (0 : Int32).toNatClampNeg (0 : Int32).toNatClampNeg (10 : Int32).toNatClampNeg)) 2) (0 : Int32).toNatClampNeg (0 : Int32).toNatClampNeg (10 : Int32).toNatClampNeg)), PU, MA, MN, MS, OT, SC], [r0, r1, r2, r3, w, 192, r6, r7, r8], Lg)) o from ev_d (c := ((0 : Int32) < 0 ∨ (0 : Int32) < 0 ∨ (10 : Int32) < 0 ∨ 10 < (0 : Int32).toNatClampNeg + (10 : Int32).toNatClampNeg ∨ 10 < (0 : Int32).toNatClampNeg + (10 : Int32).toNatClampNeg)) _ 8 zc2 e (fun n => Eq.refl _)
  obtain ⟨GU_7, zh4, h⟩ := bnd h
  suffices e : Ev (d + 1, 0, 0, 188, 32, [.val (.ref 960), .val (.ref 768), .val (.ref 515), .val (.int 0)], [], (126, 120, L, [Y, T, H, H2, RA, RB, ST, NS, I0, I1, I2, BO, FI, RG, (u1 (u1 GU 1 (a_cpy (BO 1) (GU 1) (0 : Int32).toNatClampNeg (0 : Int32).toNatClampNeg (10 : Int32).toNatClampNeg)) 2 (a_cpy (BO 1) ((u1 GU 1 (a_cpy (BO 1) (GU 1) (0 : Int32).toNatClampNeg (0 : Int32).toNatClampNeg (10 : Int32).toNatClampNeg)) 2) (0 : Int32).toNatClampNeg (0 : Int32).toNatClampNeg (10 : Int32).toNatClampNeg)), PU, MA, MN, MS, OT, SC], [r0, r1, r2, r3, w, 192, r6, r7, r8], Lg)) o from ev_b 2 e (fun n => Eq.refl _)
  refine ev_loop (δ := Unit) (fun a j => (d + 1, 0, 0, 188, 32, [.val (.ref 960), .val (.ref 768), .val (.ref 515), .val (.int a.1)], [], (126, 120, L, [Y, T, H, H2, RA, RB, ST, NS, I0, I1, I2, BO, FI, RG, a.2, PU, MA, MN, MS, OT, SC], [r0, r1, r2, r3, w, 192, r6, r7, r8], Lg))) (fun b => ∀ s6 : Value, Ev (d + 1, 0, 0, 188, 63, [.val (.ref 960), .val (.ref 768), .val (.ref 515), .val s6], [], (126, 120, L, [Y, T, H, H2, RA, RB, ST, NS, I0, I1, I2, BO, FI, RG, b, PU, MA, MN, MS, OT, SC], [r0, r1, r2, r3, w, 192, r6, r7, r8], Lg)) o) ?_ a_F (0, (u1 (u1 GU 1 (a_cpy (BO 1) (GU 1) (0 : Int32).toNatClampNeg (0 : Int32).toNatClampNeg (10 : Int32).toNatClampNeg)) 2 (a_cpy (BO 1) ((u1 GU 1 (a_cpy (BO 1) (GU 1) (0 : Int32).toNatClampNeg (0 : Int32).toNatClampNeg (10 : Int32).toNatClampNeg)) 2) (0 : Int32).toNatClampNeg (0 : Int32).toNatClampNeg (10 : Int32).toNatClampNeg))) GU_7 zh4 ?_ ()
  · rintro ⟨v1, GU_2⟩ zr8 zh7 zi5 zx6 ⟨⟩
    have zh7 : f_Guide_load_l32 NS v1 GU_2 = some zr8 := zh7
    by_cases zc9 : (NS 3 0) ≤ v1
    · have zh7 := itp zh7 zc9
      suffices e : Ev (d + 1, 0, 0, 188, 63, [.val (.ref 960), .val (.ref 768), .val (.ref 515), .val (.int v1)], [], (126, 120, L, [Y, T, H, H2, RA, RB, ST, NS, I0, I1, I2, BO, FI, RG, GU_2, PU, MA, MN, MS, OT, SC], [r0, r1, r2, r3, w, 192, r6, r7, r8], Lg)) o from ev_t (c := (NS 3 0) ≤ v1) _ _ 4  zc9 e (fun n => Eq.refl _)
      exact ev_b 0 (zx6 _ (Option.some.inj zh7).symm (.int v1)) (fun n => Eq.refl _)
    · have zh7 := itn zh7 zc9
      suffices e : Ev (d + 1, 0, 0, 188, 40, [.val (.ref 960), .val (.ref 768), .val (.ref 515), .val (.int v1)], [], (126, 120, L, [Y, T, H, H2, RA, RB, ST, NS, I0, I1, I2, BO, FI, RG, GU_2, PU, MA, MN, MS, OT, SC], [r0, r1, r2, r3, w, 192, r6, r7, r8], Lg)) o from ev_f (c := (NS 3 0) ≤ v1) _ _ 4  zc9 e (fun n => Eq.refl _)
      obtain ⟨x3, zh10, zh7⟩ := bnd zh7
      have zh10 : rdx (NS 4) 10 v1 = some x3 := zh10
      suffices e : Ev (d + 1, 0, 0, 188, 50, [.val (.ref 960), .val (.ref 768), .val (.ref 515), .val (.int v1)], [.int x3, .ref 962], (126, 120, L, [Y, T, H, H2, RA, RB, ST, NS, I0, I1, I2, BO, FI, RG, GU_2, PU, MA, MN, MS, OT, SC], [r0, r1, r2, r3, w, 192, r6, r7, r8], Lg)) o from ev_opt (fun x3 => (d + 1, 0, 0, 188, 50, [.val (.ref 960), .val (.ref 768), .val (.ref 515), .val (.int v1)], [.int x3, .ref 962], (126, 120, L, [Y, T, H, H2, RA, RB, ST, NS, I0, I1, I2, BO, FI, RG, GU_2, PU, MA, MN, MS, OT, SC], [r0, r1, r2, r3, w, 192, r6, r7, r8], Lg))) 6 zh10 e (fun n => Eq.refl _)
      obtain ⟨x4, zh11, zh7⟩ := bnd zh7
      have zh11 : rdx (NS 5) 10 v1 = some x4 := zh11
      suffices e : Ev (d + 1, 0, 0, 188, 56, [.val (.ref 960), .val (.ref 768), .val (.ref 515), .val (.int v1)], [.int x4, .int x3, .ref 962], (126, 120, L, [Y, T, H, H2, RA, RB, ST, NS, I0, I1, I2, BO, FI, RG, GU_2, PU, MA, MN, MS, OT, SC], [r0, r1, r2, r3, w, 192, r6, r7, r8], Lg)) o from ev_opt (fun x4 => (d + 1, 0, 0, 188, 56, [.val (.ref 960), .val (.ref 768), .val (.ref 515), .val (.int v1)], [.int x4, .int x3, .ref 962], (126, 120, L, [Y, T, H, H2, RA, RB, ST, NS, I0, I1, I2, BO, FI, RG, GU_2, PU, MA, MN, MS, OT, SC], [r0, r1, r2, r3, w, 192, r6, r7, r8], Lg))) 4 zh11 e (fun n => Eq.refl _)
      obtain ⟨j5, zh12, zh7⟩ := bnd zh7
      have zh12 : ixx 10 x3 = some j5 := zh12
      suffices e : Ev (d + 1, 0, 0, 188, 57, [.val (.ref 960), .val (.ref 768), .val (.ref 515), .val (.int v1)], [], (126, 120, L, [Y, T, H, H2, RA, RB, ST, NS, I0, I1, I2, BO, FI, RG, (u2 GU_2 2 j5 x4), PU, MA, MN, MS, OT, SC], [r0, r1, r2, r3, w, 192, r6, r7, r8], Lg)) o from ev_opt (fun j5 => (d + 1, 0, 0, 188, 57, [.val (.ref 960), .val (.ref 768), .val (.ref 515), .val (.int v1)], [], (126, 120, L, [Y, T, H, H2, RA, RB, ST, NS, I0, I1, I2, BO, FI, RG, (u2 GU_2 2 j5 x4), PU, MA, MN, MS, OT, SC], [r0, r1, r2, r3, w, 192, r6, r7, r8], Lg))) 1 zh12 e (fun n => Eq.refl _)
      exact ev_b 2 (zi5 _ (Option.some.inj zh7).symm ()) (fun n => Eq.refl _)
  · skip
    intro s6
    obtain ⟨GU_13, zh14, h⟩ := bnd h
    suffices e : Ev (d + 1, 0, 0, 188, 70, [.val (.ref 960), .val (.ref 768), .val (.ref 515), .val (.int 0)], [], (126, 120, L, [Y, T, H, H2, RA, RB, ST, NS, I0, I1, I2, BO, FI, RG, (u2 GU_7 0 4 0), PU, MA, MN, MS, OT, SC], [r0, r1, r2, r3, w, 192, r6, r7, r8], Lg)) o from ev_b 5 e (fun n => Eq.refl _)
    refine ev_loop (δ := Unit) (fun a j => (d + 1, 0, 0, 188, 70, [.val (.ref 960), .val (.ref 768), .val (.ref 515), .val (.int a.1)], [], (126, 120, L, [Y, T, H, H2, RA, RB, ST, NS, I0, I1, I2, BO, FI, RG, a.2, PU, MA, MN, MS, OT, SC], [r0, r1, r2, r3, w, 192, r6, r7, r8], Lg))) (fun b => ∀ s12 : Value, Ev (d + 1, 0, 0, 188, 114, [.val (.ref 960), .val (.ref 768), .val (.ref 515), .val s12], [], (126, 120, L, [Y, T, H, H2, RA, RB, ST, NS, I0, I1, I2, BO, FI, RG, b, PU, MA, MN, MS, OT, SC], [r0, r1, r2, r3, w, 192, r6, r7, r8], Lg)) o) ?_ a_F (0, (u2 GU_7 0 4 0)) GU_13 zh14 ?_ ()
    · rintro ⟨v8, GU_9⟩ zr18 zh17 zi15 zx16 ⟨⟩
      have zh17 : f_Guide_load_l70 H v8 GU_9 = some zr18 := zh17
      suffices e : Ev (d + 1, 0, 0, 188, 75, [.val (.ref 960), .val (.ref 768), .val (.ref 515), .val (.int v8)], [.ref 192, .int v8], (126, 120, L, [Y, T, H, H2, RA, RB, ST, NS, I0, I1, I2, BO, FI, RG, GU_9, PU, MA, MN, MS, OT, SC], [r0, r1, r2, r3, w, 192, r6, r7, r8], Lg)) o from ev_b 3 e (fun n => Eq.refl _)
      by_cases zc19 : (H 0 3) ≤ v8
      · have zh17 := itp zh17 zc19
        suffices e : Ev (d + 1, 0, 0, 188, 114, [.val (.ref 960), .val (.ref 768), .val (.ref 515), .val (.int v8)], [], (126, 120, L, [Y, T, H, H2, RA, RB, ST, NS, I0, I1, I2, BO, FI, RG, GU_9, PU, MA, MN, MS, OT, SC], [r0, r1, r2, r3, w, 192, r6, r7, r8], Lg)) o from ev_t (c := (H 0 3) ≤ v8) _ _ 2  zc19 e (fun n => Eq.refl _)
        exact ev_b 0 (zx16 _ (Option.some.inj zh17).symm (.int v8)) (fun n => Eq.refl _)
      · have zh17 := itn zh17 zc19
        suffices e : Ev (d + 1, 0, 0, 188, 81, [.val (.ref 960), .val (.ref 768), .val (.ref 515), .val (.int v8)], [], (126, 120, L, [Y, T, H, H2, RA, RB, ST, NS, I0, I1, I2, BO, FI, RG, GU_9, PU, MA, MN, MS, OT, SC], [r0, r1, r2, r3, w, 192, r6, r7, r8], Lg)) o from ev_f (c := (H 0 3) ≤ v8) _ _ 2  zc19 e (fun n => Eq.refl _)
        obtain ⟨x10, zh20, zh17⟩ := bnd zh17
        have zh20 : rdx (GU_9 2) 10 v8 = some x10 := zh20
        suffices e : Ev (d + 1, 0, 0, 188, 87, [.val (.ref 960), .val (.ref 768), .val (.ref 515), .val (.int v8)], [.int x10], (126, 120, L, [Y, T, H, H2, RA, RB, ST, NS, I0, I1, I2, BO, FI, RG, GU_9, PU, MA, MN, MS, OT, SC], [r0, r1, r2, r3, w, 192, r6, r7, r8], Lg)) o from ev_opt (fun x10 => (d + 1, 0, 0, 188, 87, [.val (.ref 960), .val (.ref 768), .val (.ref 515), .val (.int v8)], [.int x10], (126, 120, L, [Y, T, H, H2, RA, RB, ST, NS, I0, I1, I2, BO, FI, RG, GU_9, PU, MA, MN, MS, OT, SC], [r0, r1, r2, r3, w, 192, r6, r7, r8], Lg))) 4 zh20 e (fun n => Eq.refl _)
        obtain ⟨x11, zh21, zh17⟩ := bnd zh17
        have zh21 : rdx (GU_9 1) 10 v8 = some x11 := zh21
        suffices e : Ev (d + 1, 0, 0, 188, 93, [.val (.ref 960), .val (.ref 768), .val (.ref 515), .val (.int v8)], [.int x11, .int x10], (126, 120, L, [Y, T, H, H2, RA, RB, ST, NS, I0, I1, I2, BO, FI, RG, GU_9, PU, MA, MN, MS, OT, SC], [r0, r1, r2, r3, w, 192, r6, r7, r8], Lg)) o from ev_opt (fun x11 => (d + 1, 0, 0, 188, 93, [.val (.ref 960), .val (.ref 768), .val (.ref 515), .val (.int v8)], [.int x11, .int x10], (126, 120, L, [Y, T, H, H2, RA, RB, ST, NS, I0, I1, I2, BO, FI, RG, GU_9, PU, MA, MN, MS, OT, SC], [r0, r1, r2, r3, w, 192, r6, r7, r8], Lg))) 4 zh21 e (fun n => Eq.refl _)
        by_cases zc22 : x10 = x11
        · have zh17 := itp zh17 zc22
          suffices e : Ev (d + 1, 0, 0, 188, 108, [.val (.ref 960), .val (.ref 768), .val (.ref 515), .val (.int v8)], [], (126, 120, L, [Y, T, H, H2, RA, RB, ST, NS, I0, I1, I2, BO, FI, RG, GU_9, PU, MA, MN, MS, OT, SC], [r0, r1, r2, r3, w, 192, r6, r7, r8], Lg)) o from ev_t (c := x10 = x11) _ _ 1  zc22 e (fun n => Eq.refl _)
          exact ev_b 2 (zi15 _ (Option.some.inj zh17).symm ()) (fun n => Eq.refl _)
        · have zh17 := itn zh17 zc22
          suffices e : Ev (d + 1, 0, 0, 188, 96, [.val (.ref 960), .val (.ref 768), .val (.ref 515), .val (.int v8)], [], (126, 120, L, [Y, T, H, H2, RA, RB, ST, NS, I0, I1, I2, BO, FI, RG, GU_9, PU, MA, MN, MS, OT, SC], [r0, r1, r2, r3, w, 192, r6, r7, r8], Lg)) o from ev_f (c := x10 = x11) _ _ 1  zc22 e (fun n => Eq.refl _)
          exact ev_b 10 (zi15 _ (Option.some.inj zh17).symm ()) (fun n => Eq.refl _)
    · skip
      intro s12
      have ze23 := Option.some.inj h
      subst ze23
      exact ev_rete 1 ho (fun n => Eq.refl _)
set_option maxRecDepth 1000000 in
set_option maxHeartbeats 4000000 in
theorem R_f_Y_lookAhead_0 (d : Nat) (Y T H H2 RU RV ST NS I0 I1 I2 BO FI RG GU PU MA MN MS OT SC : Nat → Nat → Int32) (w r5 : Nat) (L : Nat) (Lg : Int64) {r : (Nat → Nat → Int32) × (Nat → Nat → Int32)} (h : f_Y_lookAhead H NS BO GU = some r) : Ev (d + 3, 0, 0, 343, 0, [.val (.ref 64)], [], (126, 120, L, [Y, T, H, H2, RU, RV, ST, NS, I0, I1, I2, BO, FI, RG, GU, PU, MA, MN, MS, OT, SC], [192, 256, 320, 384, w, r5, 576, 640, 704], Lg)) ((0, some (.ref 960), (126, 120, L, [Y, T, H, H2, RU, RV, ST, NS, I0, I1, I2, r.1, FI, RG, r.2, PU, MA, MN, MS, OT, SC], [192, 256, 320, 384, w, 192, 576, 640, 704], Lg)) : AOut) := by
  suffices key : ∀ o : AOut, ((0, some (.ref 960), (126, 120, L, [Y, T, H, H2, RU, RV, ST, NS, I0, I1, I2, r.1, FI, RG, r.2, PU, MA, MN, MS, OT, SC], [192, 256, 320, 384, w, 192, 576, 640, 704], Lg)) : AOut) = o → Ev (d + 3, 0, 0, 343, 0, [.val (.ref 64)], [], (126, 120, L, [Y, T, H, H2, RU, RV, ST, NS, I0, I1, I2, BO, FI, RG, GU, PU, MA, MN, MS, OT, SC], [192, 256, 320, 384, w, r5, 576, 640, 704], Lg)) o from key _ rfl
  intro o ho
  obtain ⟨BO_2, zh1, h⟩ := bnd h
  have zh1 : f_Y_lookNow H NS BO = some BO_2 := zh1
  have ze2 := R_f_Y_lookNow_0 (d + 0) Y T H H2 RU RV ST NS I0 I1 I2 BO FI RG GU PU MA MN MS OT SC w r5 L Lg zh1
  suffices e : Ev (d + 3, 0, 0, 343, 8, [.val (.ref 64)], [.ref 768, .ref 960], (126, 120, L, [Y, T, H, H2, RU, RV, ST, NS, I0, I1, I2, BO_2, FI, RG, GU, PU, MA, MN, MS, OT, SC], [192, 256, 320, 384, w, 192, 576, 640, 704], Lg)) o from ev_call (fun v μ => (d + 3, 0, 0, 343, 8, [.val (.ref 64)], v.toList ++ [.ref 960], μ)) 4 ze2 e (fun n => Eq.refl _)
  obtain ⟨GU_3, zh3, h⟩ := bnd h
  have zh3 : f_Guide_load H NS BO_2 GU = some GU_3 := zh3
  have ze4 := R_f_Guide_load_0 (d + 1) Y T H H2 RU RV ST NS I0 I1 I2 BO_2 FI RG GU PU MA MN MS OT SC 192 256 320 384 w 576 640 704 L Lg zh3
  suffices e : Ev (d + 3, 0, 0, 343, 18, [.val (.ref 64)], [], (126, 120, L, [Y, T, H, H2, RU, RV, ST, NS, I0, I1, I2, BO_2, FI, RG, GU_3, PU, MA, MN, MS, OT, SC], [192, 256, 320, 384, w, 192, 576, 640, 704], Lg)) o from ev_call (fun v μ => (d + 3, 0, 0, 343, 18, [.val (.ref 64)], v.toList ++ [], μ)) 4 ze4 e (fun n => Eq.refl _)
  have ze5 := Option.some.inj h
  subst ze5
  exact ev_rete 3 ho (fun n => Eq.refl _)
set_option maxRecDepth 1000000 in
set_option maxHeartbeats 4000000 in
theorem R_f_Y_apart_0 (d : Nat) (Y T H H2 RU RV ST NS I0 I1 I2 BO FI RG GU PU MA MN MS OT SC : Nat → Nat → Int32) (w r5 : Nat) (L : Nat) (Lg : Int64) {r : Int32 × (Nat → Nat → Int32) × (Nat → Nat → Int32)} (h : f_Y_apart H NS BO GU = some r) : Ev (d + 4, 0, 0, 308, 0, [.val (.ref 64)], [], (126, 120, L, [Y, T, H, H2, RU, RV, ST, NS, I0, I1, I2, BO, FI, RG, GU, PU, MA, MN, MS, OT, SC], [192, 256, 320, 384, w, r5, 576, 640, 704], Lg)) ((0, some (.int r.1), (126, 120, L, [Y, T, H, H2, RU, RV, ST, NS, I0, I1, I2, r.2.1, FI, RG, r.2.2, PU, MA, MN, MS, OT, SC], [192, 256, 320, 384, w, 192, 576, 640, 704], Lg)) : AOut) := by
  suffices key : ∀ o : AOut, ((0, some (.int r.1), (126, 120, L, [Y, T, H, H2, RU, RV, ST, NS, I0, I1, I2, r.2.1, FI, RG, r.2.2, PU, MA, MN, MS, OT, SC], [192, 256, 320, 384, w, 192, 576, 640, 704], Lg)) : AOut) = o → Ev (d + 4, 0, 0, 308, 0, [.val (.ref 64)], [], (126, 120, L, [Y, T, H, H2, RU, RV, ST, NS, I0, I1, I2, BO, FI, RG, GU, PU, MA, MN, MS, OT, SC], [192, 256, 320, 384, w, r5, 576, 640, 704], Lg)) o from key _ rfl
  intro o ho
  obtain ⟨⟨BO_2, GU_3⟩, zh1, h⟩ := bnd h
  have zh1 : f_Y_lookAhead H NS BO GU = some (BO_2, GU_3) := zh1
  have ze2 := R_f_Y_lookAhead_0 (d + 0) Y T H H2 RU RV ST NS I0 I1 I2 BO FI RG GU PU MA MN MS OT SC w r5 L Lg zh1
  suffices e : Ev (d + 4, 0, 0, 308, 4, [.val (.ref 64)], [.ref 960], (126, 120, L, [Y, T, H, H2, RU, RV, ST, NS, I0, I1, I2, BO_2, FI, RG, GU_3, PU, MA, MN, MS, OT, SC], [192, 256, 320, 384, w, 192, 576, 640, 704], Lg)) o from ev_call (fun v μ => (d + 4, 0, 0, 308, 4, [.val (.ref 64)], v.toList ++ [], μ)) 2 ze2 e (fun n => Eq.refl _)
  have ze3 := Option.some.inj h
  subst ze3
  exact ev_rete 2 ho (fun n => Eq.refl _)
set_option maxRecDepth 1000000 in
set_option maxHeartbeats 4000000 in
theorem R_f_Y_lookAhead_1 (d : Nat) (Y T H H2 RV RU ST NS I0 I1 I2 BO FI RG GU PU MA MN MS OT SC : Nat → Nat → Int32) (w r5 : Nat) (L : Nat) (Lg : Int64) {r : (Nat → Nat → Int32) × (Nat → Nat → Int32)} (h : f_Y_lookAhead H NS BO GU = some r) : Ev (d + 3, 0, 0, 343, 0, [.val (.ref 64)], [], (126, 120, L, [Y, T, H, H2, RV, RU, ST, NS, I0, I1, I2, BO, FI, RG, GU, PU, MA, MN, MS, OT, SC], [192, 256, 384, 320, w, r5, 576, 640, 704], Lg)) ((0, some (.ref 960), (126, 120, L, [Y, T, H, H2, RV, RU, ST, NS, I0, I1, I2, r.1, FI, RG, r.2, PU, MA, MN, MS, OT, SC], [192, 256, 384, 320, w, 192, 576, 640, 704], Lg)) : AOut) := by
  suffices key : ∀ o : AOut, ((0, some (.ref 960), (126, 120, L, [Y, T, H, H2, RV, RU, ST, NS, I0, I1, I2, r.1, FI, RG, r.2, PU, MA, MN, MS, OT, SC], [192, 256, 384, 320, w, 192, 576, 640, 704], Lg)) : AOut) = o → Ev (d + 3, 0, 0, 343, 0, [.val (.ref 64)], [], (126, 120, L, [Y, T, H, H2, RV, RU, ST, NS, I0, I1, I2, BO, FI, RG, GU, PU, MA, MN, MS, OT, SC], [192, 256, 384, 320, w, r5, 576, 640, 704], Lg)) o from key _ rfl
  intro o ho
  obtain ⟨BO_2, zh1, h⟩ := bnd h
  have zh1 : f_Y_lookNow H NS BO = some BO_2 := zh1
  have ze2 := R_f_Y_lookNow_1 (d + 0) Y T H H2 RV RU ST NS I0 I1 I2 BO FI RG GU PU MA MN MS OT SC w r5 L Lg zh1
  suffices e : Ev (d + 3, 0, 0, 343, 8, [.val (.ref 64)], [.ref 768, .ref 960], (126, 120, L, [Y, T, H, H2, RV, RU, ST, NS, I0, I1, I2, BO_2, FI, RG, GU, PU, MA, MN, MS, OT, SC], [192, 256, 384, 320, w, 192, 576, 640, 704], Lg)) o from ev_call (fun v μ => (d + 3, 0, 0, 343, 8, [.val (.ref 64)], v.toList ++ [.ref 960], μ)) 4 ze2 e (fun n => Eq.refl _)
  obtain ⟨GU_3, zh3, h⟩ := bnd h
  have zh3 : f_Guide_load H NS BO_2 GU = some GU_3 := zh3
  have ze4 := R_f_Guide_load_0 (d + 1) Y T H H2 RV RU ST NS I0 I1 I2 BO_2 FI RG GU PU MA MN MS OT SC 192 256 384 320 w 576 640 704 L Lg zh3
  suffices e : Ev (d + 3, 0, 0, 343, 18, [.val (.ref 64)], [], (126, 120, L, [Y, T, H, H2, RV, RU, ST, NS, I0, I1, I2, BO_2, FI, RG, GU_3, PU, MA, MN, MS, OT, SC], [192, 256, 384, 320, w, 192, 576, 640, 704], Lg)) o from ev_call (fun v μ => (d + 3, 0, 0, 343, 18, [.val (.ref 64)], v.toList ++ [], μ)) 4 ze4 e (fun n => Eq.refl _)
  have ze5 := Option.some.inj h
  subst ze5
  exact ev_rete 3 ho (fun n => Eq.refl _)
set_option maxRecDepth 1000000 in
set_option maxHeartbeats 4000000 in
theorem R_f_Y_apart_1 (d : Nat) (Y T H H2 RV RU ST NS I0 I1 I2 BO FI RG GU PU MA MN MS OT SC : Nat → Nat → Int32) (w r5 : Nat) (L : Nat) (Lg : Int64) {r : Int32 × (Nat → Nat → Int32) × (Nat → Nat → Int32)} (h : f_Y_apart H NS BO GU = some r) : Ev (d + 4, 0, 0, 308, 0, [.val (.ref 64)], [], (126, 120, L, [Y, T, H, H2, RV, RU, ST, NS, I0, I1, I2, BO, FI, RG, GU, PU, MA, MN, MS, OT, SC], [192, 256, 384, 320, w, r5, 576, 640, 704], Lg)) ((0, some (.int r.1), (126, 120, L, [Y, T, H, H2, RV, RU, ST, NS, I0, I1, I2, r.2.1, FI, RG, r.2.2, PU, MA, MN, MS, OT, SC], [192, 256, 384, 320, w, 192, 576, 640, 704], Lg)) : AOut) := by
  suffices key : ∀ o : AOut, ((0, some (.int r.1), (126, 120, L, [Y, T, H, H2, RV, RU, ST, NS, I0, I1, I2, r.2.1, FI, RG, r.2.2, PU, MA, MN, MS, OT, SC], [192, 256, 384, 320, w, 192, 576, 640, 704], Lg)) : AOut) = o → Ev (d + 4, 0, 0, 308, 0, [.val (.ref 64)], [], (126, 120, L, [Y, T, H, H2, RV, RU, ST, NS, I0, I1, I2, BO, FI, RG, GU, PU, MA, MN, MS, OT, SC], [192, 256, 384, 320, w, r5, 576, 640, 704], Lg)) o from key _ rfl
  intro o ho
  obtain ⟨⟨BO_2, GU_3⟩, zh1, h⟩ := bnd h
  have zh1 : f_Y_lookAhead H NS BO GU = some (BO_2, GU_3) := zh1
  have ze2 := R_f_Y_lookAhead_1 (d + 0) Y T H H2 RV RU ST NS I0 I1 I2 BO FI RG GU PU MA MN MS OT SC w r5 L Lg zh1
  suffices e : Ev (d + 4, 0, 0, 308, 4, [.val (.ref 64)], [.ref 960], (126, 120, L, [Y, T, H, H2, RV, RU, ST, NS, I0, I1, I2, BO_2, FI, RG, GU_3, PU, MA, MN, MS, OT, SC], [192, 256, 384, 320, w, 192, 576, 640, 704], Lg)) o from ev_call (fun v μ => (d + 4, 0, 0, 308, 4, [.val (.ref 64)], v.toList ++ [], μ)) 2 ze2 e (fun n => Eq.refl _)
  have ze3 := Option.some.inj h
  subst ze3
  exact ev_rete 2 ho (fun n => Eq.refl _)
set_option maxRecDepth 1000000 in
set_option maxHeartbeats 4000000 in
theorem R_f_Guide_load_1 (d : Nat) (Y T H2 H RA RB ST NS I0 I1 I2 BO FI RG GU PU MA MN MS OT SC : Nat → Nat → Int32) (r0 r1 r2 r3 w r6 r7 r8 : Nat) (L : Nat) (Lg : Int64) {r : (Nat → Nat → Int32)} (h : f_Guide_load H NS BO GU = some r) : Ev (d + 1, 0, 0, 188, 0, [.val (.ref 960), .val (.ref 768), .val (.ref 515), .val a_unk], [], (126, 120, L, [Y, T, H2, H, RA, RB, ST, NS, I0, I1, I2, BO, FI, RG, GU, PU, MA, MN, MS, OT, SC], [r0, r1, r2, r3, w, 256, r6, r7, r8], Lg)) ((0, none, (126, 120, L, [Y, T, H2, H, RA, RB, ST, NS, I0, I1, I2, BO, FI, RG, r, PU, MA, MN, MS, OT, SC], [r0, r1, r2, r3, w, 256, r6, r7, r8], Lg)) : AOut) := by
  suffices key : ∀ o : AOut, ((0, none, (126, 120, L, [Y, T, H2, H, RA, RB, ST, NS, I0, I1, I2, BO, FI, RG, r, PU, MA, MN, MS, OT, SC], [r0, r1, r2, r3, w, 256, r6, r7, r8], Lg)) : AOut) = o → Ev (d + 1, 0, 0, 188, 0, [.val (.ref 960), .val (.ref 768), .val (.ref 515), .val a_unk], [], (126, 120, L, [Y, T, H2, H, RA, RB, ST, NS, I0, I1, I2, BO, FI, RG, GU, PU, MA, MN, MS, OT, SC], [r0, r1, r2, r3, w, 256, r6, r7, r8], Lg)) o from key _ rfl
  intro o ho
  by_cases zc1 : ((0 : Int32) < 0 ∨ (0 : Int32) < 0 ∨ (10 : Int32) < 0 ∨ 10 < (0 : Int32).toNatClampNeg + (10 : Int32).toNatClampNeg ∨ 10 < (0 : Int32).toNatClampNeg + (10 : Int32).toNatClampNeg)
  · exact nos (itp h zc1)
  have h := itn h zc1
  suffices e : Ev (d + 1, 0, 0, 188, 15, [.val (.ref 960), .val (.ref 768), .val (.ref 515), .val a_unk], [], (126, 120, L, [Y, T, H2, H, RA, RB, ST, NS, I0, I1, I2, BO, FI, RG, (u1 GU 1 (a_cpy (BO 1) (GU 1) (0 : Int32).toNatClampNeg (0 : Int32).toNatClampNeg (10 : Int32).toNatClampNeg)), PU, MA, MN, MS, OT, SC], [r0, r1, r2, r3, w, 256, r6, r7, r8], Lg)) o from ev_d (c := ((0 : Int32) < 0 ∨ (0 : Int32) < 0 ∨ (10 : Int32) < 0 ∨ 10 < (0 : Int32).toNatClampNeg + (10 : Int32).toNatClampNeg ∨ 10 < (0 : Int32).toNatClampNeg + (10 : Int32).toNatClampNeg)) _ 8 zc1 e (fun n => Eq.refl _)
  by_cases zc2 : ((0 : Int32) < 0 ∨ (0 : Int32) < 0 ∨ (10 : Int32) < 0 ∨ 10 < (0 : Int32).toNatClampNeg + (10 : Int32).toNatClampNeg ∨ 10 < (0 : Int32).toNatClampNeg + (10 : Int32).toNatClampNeg)
  · exact nos (itp h zc2)
  have h := itn h zc2
  suffices e : Ev (d + 1, 0, 0, 188, 30, [.val (.ref 960), .val (.ref 768), .val (.ref 515), .val a_unk], [], (126, 120, L, [Y, T, H2, H, RA, RB, ST, NS, I0, I1, I2, BO, FI, RG, (u1 (u1 GU 1 (a_cpy (BO 1) (GU 1) (0 : Int32).toNatClampNeg (0 : Int32).toNatClampNeg (10 : Int32).toNatClampNeg)) 2 (a_cpy (BO 1) ((u1 GU 1 (a_cpy (BO 1) (GU 1) (0 : Int32).toNatClampNeg (0 : Int32).toNatClampNeg (10 : Int32).toNatClampNeg)) 2) (0 : Int32).toNatClampNeg (0 : Int32).toNatClampNeg (10 : Int32).toNatClampNeg)), PU, MA, MN, MS, OT, SC], [r0, r1, r2, r3, w, 256, r6, r7, r8], Lg)) o from ev_d (c := ((0 : Int32) < 0 ∨ (0 : Int32) < 0 ∨ (10 : Int32) < 0 ∨ 10 < (0 : Int32).toNatClampNeg + (10 : Int32).toNatClampNeg ∨ 10 < (0 : Int32).toNatClampNeg + (10 : Int32).toNatClampNeg)) _ 8 zc2 e (fun n => Eq.refl _)
  obtain ⟨GU_7, zh4, h⟩ := bnd h
  suffices e : Ev (d + 1, 0, 0, 188, 32, [.val (.ref 960), .val (.ref 768), .val (.ref 515), .val (.int 0)], [], (126, 120, L, [Y, T, H2, H, RA, RB, ST, NS, I0, I1, I2, BO, FI, RG, (u1 (u1 GU 1 (a_cpy (BO 1) (GU 1) (0 : Int32).toNatClampNeg (0 : Int32).toNatClampNeg (10 : Int32).toNatClampNeg)) 2 (a_cpy (BO 1) ((u1 GU 1 (a_cpy (BO 1) (GU 1) (0 : Int32).toNatClampNeg (0 : Int32).toNatClampNeg (10 : Int32).toNatClampNeg)) 2) (0 : Int32).toNatClampNeg (0 : Int32).toNatClampNeg (10 : Int32).toNatClampNeg)), PU, MA, MN, MS, OT, SC], [r0, r1, r2, r3, w, 256, r6, r7, r8], Lg)) o from ev_b 2 e (fun n => Eq.refl _)
  refine ev_loop (δ := Unit) (fun a j => (d + 1, 0, 0, 188, 32, [.val (.ref 960), .val (.ref 768), .val (.ref 515), .val (.int a.1)], [], (126, 120, L, [Y, T, H2, H, RA, RB, ST, NS, I0, I1, I2, BO, FI, RG, a.2, PU, MA, MN, MS, OT, SC], [r0, r1, r2, r3, w, 256, r6, r7, r8], Lg))) (fun b => ∀ s6 : Value, Ev (d + 1, 0, 0, 188, 63, [.val (.ref 960), .val (.ref 768), .val (.ref 515), .val s6], [], (126, 120, L, [Y, T, H2, H, RA, RB, ST, NS, I0, I1, I2, BO, FI, RG, b, PU, MA, MN, MS, OT, SC], [r0, r1, r2, r3, w, 256, r6, r7, r8], Lg)) o) ?_ a_F (0, (u1 (u1 GU 1 (a_cpy (BO 1) (GU 1) (0 : Int32).toNatClampNeg (0 : Int32).toNatClampNeg (10 : Int32).toNatClampNeg)) 2 (a_cpy (BO 1) ((u1 GU 1 (a_cpy (BO 1) (GU 1) (0 : Int32).toNatClampNeg (0 : Int32).toNatClampNeg (10 : Int32).toNatClampNeg)) 2) (0 : Int32).toNatClampNeg (0 : Int32).toNatClampNeg (10 : Int32).toNatClampNeg))) GU_7 zh4 ?_ ()
  · rintro ⟨v1, GU_2⟩ zr8 zh7 zi5 zx6 ⟨⟩
    have zh7 : f_Guide_load_l32 NS v1 GU_2 = some zr8 := zh7
    by_cases zc9 : (NS 3 0) ≤ v1
    · have zh7 := itp zh7 zc9
      suffices e : Ev (d + 1, 0, 0, 188, 63, [.val (.ref 960), .val (.ref 768), .val (.ref 515), .val (.int v1)], [], (126, 120, L, [Y, T, H2, H, RA, RB, ST, NS, I0, I1, I2, BO, FI, RG, GU_2, PU, MA, MN, MS, OT, SC], [r0, r1, r2, r3, w, 256, r6, r7, r8], Lg)) o from ev_t (c := (NS 3 0) ≤ v1) _ _ 4  zc9 e (fun n => Eq.refl _)
      exact ev_b 0 (zx6 _ (Option.some.inj zh7).symm (.int v1)) (fun n => Eq.refl _)
    · have zh7 := itn zh7 zc9
      suffices e : Ev (d + 1, 0, 0, 188, 40, [.val (.ref 960), .val (.ref 768), .val (.ref 515), .val (.int v1)], [], (126, 120, L, [Y, T, H2, H, RA, RB, ST, NS, I0, I1, I2, BO, FI, RG, GU_2, PU, MA, MN, MS, OT, SC], [r0, r1, r2, r3, w, 256, r6, r7, r8], Lg)) o from ev_f (c := (NS 3 0) ≤ v1) _ _ 4  zc9 e (fun n => Eq.refl _)
      obtain ⟨x3, zh10, zh7⟩ := bnd zh7
      have zh10 : rdx (NS 4) 10 v1 = some x3 := zh10
      suffices e : Ev (d + 1, 0, 0, 188, 50, [.val (.ref 960), .val (.ref 768), .val (.ref 515), .val (.int v1)], [.int x3, .ref 962], (126, 120, L, [Y, T, H2, H, RA, RB, ST, NS, I0, I1, I2, BO, FI, RG, GU_2, PU, MA, MN, MS, OT, SC], [r0, r1, r2, r3, w, 256, r6, r7, r8], Lg)) o from ev_opt (fun x3 => (d + 1, 0, 0, 188, 50, [.val (.ref 960), .val (.ref 768), .val (.ref 515), .val (.int v1)], [.int x3, .ref 962], (126, 120, L, [Y, T, H2, H, RA, RB, ST, NS, I0, I1, I2, BO, FI, RG, GU_2, PU, MA, MN, MS, OT, SC], [r0, r1, r2, r3, w, 256, r6, r7, r8], Lg))) 6 zh10 e (fun n => Eq.refl _)
      obtain ⟨x4, zh11, zh7⟩ := bnd zh7
      have zh11 : rdx (NS 5) 10 v1 = some x4 := zh11
      suffices e : Ev (d + 1, 0, 0, 188, 56, [.val (.ref 960), .val (.ref 768), .val (.ref 515), .val (.int v1)], [.int x4, .int x3, .ref 962], (126, 120, L, [Y, T, H2, H, RA, RB, ST, NS, I0, I1, I2, BO, FI, RG, GU_2, PU, MA, MN, MS, OT, SC], [r0, r1, r2, r3, w, 256, r6, r7, r8], Lg)) o from ev_opt (fun x4 => (d + 1, 0, 0, 188, 56, [.val (.ref 960), .val (.ref 768), .val (.ref 515), .val (.int v1)], [.int x4, .int x3, .ref 962], (126, 120, L, [Y, T, H2, H, RA, RB, ST, NS, I0, I1, I2, BO, FI, RG, GU_2, PU, MA, MN, MS, OT, SC], [r0, r1, r2, r3, w, 256, r6, r7, r8], Lg))) 4 zh11 e (fun n => Eq.refl _)
      obtain ⟨j5, zh12, zh7⟩ := bnd zh7
      have zh12 : ixx 10 x3 = some j5 := zh12
      suffices e : Ev (d + 1, 0, 0, 188, 57, [.val (.ref 960), .val (.ref 768), .val (.ref 515), .val (.int v1)], [], (126, 120, L, [Y, T, H2, H, RA, RB, ST, NS, I0, I1, I2, BO, FI, RG, (u2 GU_2 2 j5 x4), PU, MA, MN, MS, OT, SC], [r0, r1, r2, r3, w, 256, r6, r7, r8], Lg)) o from ev_opt (fun j5 => (d + 1, 0, 0, 188, 57, [.val (.ref 960), .val (.ref 768), .val (.ref 515), .val (.int v1)], [], (126, 120, L, [Y, T, H2, H, RA, RB, ST, NS, I0, I1, I2, BO, FI, RG, (u2 GU_2 2 j5 x4), PU, MA, MN, MS, OT, SC], [r0, r1, r2, r3, w, 256, r6, r7, r8], Lg))) 1 zh12 e (fun n => Eq.refl _)
      exact ev_b 2 (zi5 _ (Option.some.inj zh7).symm ()) (fun n => Eq.refl _)
  · skip
    intro s6
    obtain ⟨GU_13, zh14, h⟩ := bnd h
    suffices e : Ev (d + 1, 0, 0, 188, 70, [.val (.ref 960), .val (.ref 768), .val (.ref 515), .val (.int 0)], [], (126, 120, L, [Y, T, H2, H, RA, RB, ST, NS, I0, I1, I2, BO, FI, RG, (u2 GU_7 0 4 0), PU, MA, MN, MS, OT, SC], [r0, r1, r2, r3, w, 256, r6, r7, r8], Lg)) o from ev_b 5 e (fun n => Eq.refl _)
    refine ev_loop (δ := Unit) (fun a j => (d + 1, 0, 0, 188, 70, [.val (.ref 960), .val (.ref 768), .val (.ref 515), .val (.int a.1)], [], (126, 120, L, [Y, T, H2, H, RA, RB, ST, NS, I0, I1, I2, BO, FI, RG, a.2, PU, MA, MN, MS, OT, SC], [r0, r1, r2, r3, w, 256, r6, r7, r8], Lg))) (fun b => ∀ s12 : Value, Ev (d + 1, 0, 0, 188, 114, [.val (.ref 960), .val (.ref 768), .val (.ref 515), .val s12], [], (126, 120, L, [Y, T, H2, H, RA, RB, ST, NS, I0, I1, I2, BO, FI, RG, b, PU, MA, MN, MS, OT, SC], [r0, r1, r2, r3, w, 256, r6, r7, r8], Lg)) o) ?_ a_F (0, (u2 GU_7 0 4 0)) GU_13 zh14 ?_ ()
    · rintro ⟨v8, GU_9⟩ zr18 zh17 zi15 zx16 ⟨⟩
      have zh17 : f_Guide_load_l70 H v8 GU_9 = some zr18 := zh17
      suffices e : Ev (d + 1, 0, 0, 188, 75, [.val (.ref 960), .val (.ref 768), .val (.ref 515), .val (.int v8)], [.ref 256, .int v8], (126, 120, L, [Y, T, H2, H, RA, RB, ST, NS, I0, I1, I2, BO, FI, RG, GU_9, PU, MA, MN, MS, OT, SC], [r0, r1, r2, r3, w, 256, r6, r7, r8], Lg)) o from ev_b 3 e (fun n => Eq.refl _)
      by_cases zc19 : (H 0 3) ≤ v8
      · have zh17 := itp zh17 zc19
        suffices e : Ev (d + 1, 0, 0, 188, 114, [.val (.ref 960), .val (.ref 768), .val (.ref 515), .val (.int v8)], [], (126, 120, L, [Y, T, H2, H, RA, RB, ST, NS, I0, I1, I2, BO, FI, RG, GU_9, PU, MA, MN, MS, OT, SC], [r0, r1, r2, r3, w, 256, r6, r7, r8], Lg)) o from ev_t (c := (H 0 3) ≤ v8) _ _ 2  zc19 e (fun n => Eq.refl _)
        exact ev_b 0 (zx16 _ (Option.some.inj zh17).symm (.int v8)) (fun n => Eq.refl _)
      · have zh17 := itn zh17 zc19
        suffices e : Ev (d + 1, 0, 0, 188, 81, [.val (.ref 960), .val (.ref 768), .val (.ref 515), .val (.int v8)], [], (126, 120, L, [Y, T, H2, H, RA, RB, ST, NS, I0, I1, I2, BO, FI, RG, GU_9, PU, MA, MN, MS, OT, SC], [r0, r1, r2, r3, w, 256, r6, r7, r8], Lg)) o from ev_f (c := (H 0 3) ≤ v8) _ _ 2  zc19 e (fun n => Eq.refl _)
        obtain ⟨x10, zh20, zh17⟩ := bnd zh17
        have zh20 : rdx (GU_9 2) 10 v8 = some x10 := zh20
        suffices e : Ev (d + 1, 0, 0, 188, 87, [.val (.ref 960), .val (.ref 768), .val (.ref 515), .val (.int v8)], [.int x10], (126, 120, L, [Y, T, H2, H, RA, RB, ST, NS, I0, I1, I2, BO, FI, RG, GU_9, PU, MA, MN, MS, OT, SC], [r0, r1, r2, r3, w, 256, r6, r7, r8], Lg)) o from ev_opt (fun x10 => (d + 1, 0, 0, 188, 87, [.val (.ref 960), .val (.ref 768), .val (.ref 515), .val (.int v8)], [.int x10], (126, 120, L, [Y, T, H2, H, RA, RB, ST, NS, I0, I1, I2, BO, FI, RG, GU_9, PU, MA, MN, MS, OT, SC], [r0, r1, r2, r3, w, 256, r6, r7, r8], Lg))) 4 zh20 e (fun n => Eq.refl _)
        obtain ⟨x11, zh21, zh17⟩ := bnd zh17
        have zh21 : rdx (GU_9 1) 10 v8 = some x11 := zh21
        suffices e : Ev (d + 1, 0, 0, 188, 93, [.val (.ref 960), .val (.ref 768), .val (.ref 515), .val (.int v8)], [.int x11, .int x10], (126, 120, L, [Y, T, H2, H, RA, RB, ST, NS, I0, I1, I2, BO, FI, RG, GU_9, PU, MA, MN, MS, OT, SC], [r0, r1, r2, r3, w, 256, r6, r7, r8], Lg)) o from ev_opt (fun x11 => (d + 1, 0, 0, 188, 93, [.val (.ref 960), .val (.ref 768), .val (.ref 515), .val (.int v8)], [.int x11, .int x10], (126, 120, L, [Y, T, H2, H, RA, RB, ST, NS, I0, I1, I2, BO, FI, RG, GU_9, PU, MA, MN, MS, OT, SC], [r0, r1, r2, r3, w, 256, r6, r7, r8], Lg))) 4 zh21 e (fun n => Eq.refl _)
        by_cases zc22 : x10 = x11
        · have zh17 := itp zh17 zc22
          suffices e : Ev (d + 1, 0, 0, 188, 108, [.val (.ref 960), .val (.ref 768), .val (.ref 515), .val (.int v8)], [], (126, 120, L, [Y, T, H2, H, RA, RB, ST, NS, I0, I1, I2, BO, FI, RG, GU_9, PU, MA, MN, MS, OT, SC], [r0, r1, r2, r3, w, 256, r6, r7, r8], Lg)) o from ev_t (c := x10 = x11) _ _ 1  zc22 e (fun n => Eq.refl _)
          exact ev_b 2 (zi15 _ (Option.some.inj zh17).symm ()) (fun n => Eq.refl _)
        · have zh17 := itn zh17 zc22
          suffices e : Ev (d + 1, 0, 0, 188, 96, [.val (.ref 960), .val (.ref 768), .val (.ref 515), .val (.int v8)], [], (126, 120, L, [Y, T, H2, H, RA, RB, ST, NS, I0, I1, I2, BO, FI, RG, GU_9, PU, MA, MN, MS, OT, SC], [r0, r1, r2, r3, w, 256, r6, r7, r8], Lg)) o from ev_f (c := x10 = x11) _ _ 1  zc22 e (fun n => Eq.refl _)
          exact ev_b 10 (zi15 _ (Option.some.inj zh17).symm ()) (fun n => Eq.refl _)
    · skip
      intro s12
      have ze23 := Option.some.inj h
      subst ze23
      exact ev_rete 1 ho (fun n => Eq.refl _)
set_option maxRecDepth 1000000 in
set_option maxHeartbeats 4000000 in
theorem R_f_Y_lookAhead_2 (d : Nat) (Y T H2 H RU RV ST NS I0 I1 I2 BO FI RG GU PU MA MN MS OT SC : Nat → Nat → Int32) (w r5 : Nat) (L : Nat) (Lg : Int64) {r : (Nat → Nat → Int32) × (Nat → Nat → Int32)} (h : f_Y_lookAhead H NS BO GU = some r) : Ev (d + 3, 0, 0, 343, 0, [.val (.ref 64)], [], (126, 120, L, [Y, T, H2, H, RU, RV, ST, NS, I0, I1, I2, BO, FI, RG, GU, PU, MA, MN, MS, OT, SC], [256, 192, 320, 384, w, r5, 576, 640, 704], Lg)) ((0, some (.ref 960), (126, 120, L, [Y, T, H2, H, RU, RV, ST, NS, I0, I1, I2, r.1, FI, RG, r.2, PU, MA, MN, MS, OT, SC], [256, 192, 320, 384, w, 256, 576, 640, 704], Lg)) : AOut) := by
  suffices key : ∀ o : AOut, ((0, some (.ref 960), (126, 120, L, [Y, T, H2, H, RU, RV, ST, NS, I0, I1, I2, r.1, FI, RG, r.2, PU, MA, MN, MS, OT, SC], [256, 192, 320, 384, w, 256, 576, 640, 704], Lg)) : AOut) = o → Ev (d + 3, 0, 0, 343, 0, [.val (.ref 64)], [], (126, 120, L, [Y, T, H2, H, RU, RV, ST, NS, I0, I1, I2, BO, FI, RG, GU, PU, MA, MN, MS, OT, SC], [256, 192, 320, 384, w, r5, 576, 640, 704], Lg)) o from key _ rfl
  intro o ho
  obtain ⟨BO_2, zh1, h⟩ := bnd h
  have zh1 : f_Y_lookNow H NS BO = some BO_2 := zh1
  have ze2 := R_f_Y_lookNow_2 (d + 0) Y T H2 H RU RV ST NS I0 I1 I2 BO FI RG GU PU MA MN MS OT SC w r5 L Lg zh1
  suffices e : Ev (d + 3, 0, 0, 343, 8, [.val (.ref 64)], [.ref 768, .ref 960], (126, 120, L, [Y, T, H2, H, RU, RV, ST, NS, I0, I1, I2, BO_2, FI, RG, GU, PU, MA, MN, MS, OT, SC], [256, 192, 320, 384, w, 256, 576, 640, 704], Lg)) o from ev_call (fun v μ => (d + 3, 0, 0, 343, 8, [.val (.ref 64)], v.toList ++ [.ref 960], μ)) 4 ze2 e (fun n => Eq.refl _)
  obtain ⟨GU_3, zh3, h⟩ := bnd h
  have zh3 : f_Guide_load H NS BO_2 GU = some GU_3 := zh3
  have ze4 := R_f_Guide_load_1 (d + 1) Y T H2 H RU RV ST NS I0 I1 I2 BO_2 FI RG GU PU MA MN MS OT SC 256 192 320 384 w 576 640 704 L Lg zh3
  suffices e : Ev (d + 3, 0, 0, 343, 18, [.val (.ref 64)], [], (126, 120, L, [Y, T, H2, H, RU, RV, ST, NS, I0, I1, I2, BO_2, FI, RG, GU_3, PU, MA, MN, MS, OT, SC], [256, 192, 320, 384, w, 256, 576, 640, 704], Lg)) o from ev_call (fun v μ => (d + 3, 0, 0, 343, 18, [.val (.ref 64)], v.toList ++ [], μ)) 4 ze4 e (fun n => Eq.refl _)
  have ze5 := Option.some.inj h
  subst ze5
  exact ev_rete 3 ho (fun n => Eq.refl _)
set_option maxRecDepth 1000000 in
set_option maxHeartbeats 4000000 in
theorem R_f_Y_apart_2 (d : Nat) (Y T H2 H RU RV ST NS I0 I1 I2 BO FI RG GU PU MA MN MS OT SC : Nat → Nat → Int32) (w r5 : Nat) (L : Nat) (Lg : Int64) {r : Int32 × (Nat → Nat → Int32) × (Nat → Nat → Int32)} (h : f_Y_apart H NS BO GU = some r) : Ev (d + 4, 0, 0, 308, 0, [.val (.ref 64)], [], (126, 120, L, [Y, T, H2, H, RU, RV, ST, NS, I0, I1, I2, BO, FI, RG, GU, PU, MA, MN, MS, OT, SC], [256, 192, 320, 384, w, r5, 576, 640, 704], Lg)) ((0, some (.int r.1), (126, 120, L, [Y, T, H2, H, RU, RV, ST, NS, I0, I1, I2, r.2.1, FI, RG, r.2.2, PU, MA, MN, MS, OT, SC], [256, 192, 320, 384, w, 256, 576, 640, 704], Lg)) : AOut) := by
  suffices key : ∀ o : AOut, ((0, some (.int r.1), (126, 120, L, [Y, T, H2, H, RU, RV, ST, NS, I0, I1, I2, r.2.1, FI, RG, r.2.2, PU, MA, MN, MS, OT, SC], [256, 192, 320, 384, w, 256, 576, 640, 704], Lg)) : AOut) = o → Ev (d + 4, 0, 0, 308, 0, [.val (.ref 64)], [], (126, 120, L, [Y, T, H2, H, RU, RV, ST, NS, I0, I1, I2, BO, FI, RG, GU, PU, MA, MN, MS, OT, SC], [256, 192, 320, 384, w, r5, 576, 640, 704], Lg)) o from key _ rfl
  intro o ho
  obtain ⟨⟨BO_2, GU_3⟩, zh1, h⟩ := bnd h
  have zh1 : f_Y_lookAhead H NS BO GU = some (BO_2, GU_3) := zh1
  have ze2 := R_f_Y_lookAhead_2 (d + 0) Y T H2 H RU RV ST NS I0 I1 I2 BO FI RG GU PU MA MN MS OT SC w r5 L Lg zh1
  suffices e : Ev (d + 4, 0, 0, 308, 4, [.val (.ref 64)], [.ref 960], (126, 120, L, [Y, T, H2, H, RU, RV, ST, NS, I0, I1, I2, BO_2, FI, RG, GU_3, PU, MA, MN, MS, OT, SC], [256, 192, 320, 384, w, 256, 576, 640, 704], Lg)) o from ev_call (fun v μ => (d + 4, 0, 0, 308, 4, [.val (.ref 64)], v.toList ++ [], μ)) 2 ze2 e (fun n => Eq.refl _)
  have ze3 := Option.some.inj h
  subst ze3
  exact ev_rete 2 ho (fun n => Eq.refl _)
set_option maxRecDepth 1000000 in
set_option maxHeartbeats 4000000 in
theorem R_f_Y_lookAhead_3 (d : Nat) (Y T H2 H RV RU ST NS I0 I1 I2 BO FI RG GU PU MA MN MS OT SC : Nat → Nat → Int32) (w r5 : Nat) (L : Nat) (Lg : Int64) {r : (Nat → Nat → Int32) × (Nat → Nat → Int32)} (h : f_Y_lookAhead H NS BO GU = some r) : Ev (d + 3, 0, 0, 343, 0, [.val (.ref 64)], [], (126, 120, L, [Y, T, H2, H, RV, RU, ST, NS, I0, I1, I2, BO, FI, RG, GU, PU, MA, MN, MS, OT, SC], [256, 192, 384, 320, w, r5, 576, 640, 704], Lg)) ((0, some (.ref 960), (126, 120, L, [Y, T, H2, H, RV, RU, ST, NS, I0, I1, I2, r.1, FI, RG, r.2, PU, MA, MN, MS, OT, SC], [256, 192, 384, 320, w, 256, 576, 640, 704], Lg)) : AOut) := by
  suffices key : ∀ o : AOut, ((0, some (.ref 960), (126, 120, L, [Y, T, H2, H, RV, RU, ST, NS, I0, I1, I2, r.1, FI, RG, r.2, PU, MA, MN, MS, OT, SC], [256, 192, 384, 320, w, 256, 576, 640, 704], Lg)) : AOut) = o → Ev (d + 3, 0, 0, 343, 0, [.val (.ref 64)], [], (126, 120, L, [Y, T, H2, H, RV, RU, ST, NS, I0, I1, I2, BO, FI, RG, GU, PU, MA, MN, MS, OT, SC], [256, 192, 384, 320, w, r5, 576, 640, 704], Lg)) o from key _ rfl
  intro o ho
  obtain ⟨BO_2, zh1, h⟩ := bnd h
  have zh1 : f_Y_lookNow H NS BO = some BO_2 := zh1
  have ze2 := R_f_Y_lookNow_3 (d + 0) Y T H2 H RV RU ST NS I0 I1 I2 BO FI RG GU PU MA MN MS OT SC w r5 L Lg zh1
  suffices e : Ev (d + 3, 0, 0, 343, 8, [.val (.ref 64)], [.ref 768, .ref 960], (126, 120, L, [Y, T, H2, H, RV, RU, ST, NS, I0, I1, I2, BO_2, FI, RG, GU, PU, MA, MN, MS, OT, SC], [256, 192, 384, 320, w, 256, 576, 640, 704], Lg)) o from ev_call (fun v μ => (d + 3, 0, 0, 343, 8, [.val (.ref 64)], v.toList ++ [.ref 960], μ)) 4 ze2 e (fun n => Eq.refl _)
  obtain ⟨GU_3, zh3, h⟩ := bnd h
  have zh3 : f_Guide_load H NS BO_2 GU = some GU_3 := zh3
  have ze4 := R_f_Guide_load_1 (d + 1) Y T H2 H RV RU ST NS I0 I1 I2 BO_2 FI RG GU PU MA MN MS OT SC 256 192 384 320 w 576 640 704 L Lg zh3
  suffices e : Ev (d + 3, 0, 0, 343, 18, [.val (.ref 64)], [], (126, 120, L, [Y, T, H2, H, RV, RU, ST, NS, I0, I1, I2, BO_2, FI, RG, GU_3, PU, MA, MN, MS, OT, SC], [256, 192, 384, 320, w, 256, 576, 640, 704], Lg)) o from ev_call (fun v μ => (d + 3, 0, 0, 343, 18, [.val (.ref 64)], v.toList ++ [], μ)) 4 ze4 e (fun n => Eq.refl _)
  have ze5 := Option.some.inj h
  subst ze5
  exact ev_rete 3 ho (fun n => Eq.refl _)
set_option maxRecDepth 1000000 in
set_option maxHeartbeats 4000000 in
theorem R_f_Y_apart_3 (d : Nat) (Y T H2 H RV RU ST NS I0 I1 I2 BO FI RG GU PU MA MN MS OT SC : Nat → Nat → Int32) (w r5 : Nat) (L : Nat) (Lg : Int64) {r : Int32 × (Nat → Nat → Int32) × (Nat → Nat → Int32)} (h : f_Y_apart H NS BO GU = some r) : Ev (d + 4, 0, 0, 308, 0, [.val (.ref 64)], [], (126, 120, L, [Y, T, H2, H, RV, RU, ST, NS, I0, I1, I2, BO, FI, RG, GU, PU, MA, MN, MS, OT, SC], [256, 192, 384, 320, w, r5, 576, 640, 704], Lg)) ((0, some (.int r.1), (126, 120, L, [Y, T, H2, H, RV, RU, ST, NS, I0, I1, I2, r.2.1, FI, RG, r.2.2, PU, MA, MN, MS, OT, SC], [256, 192, 384, 320, w, 256, 576, 640, 704], Lg)) : AOut) := by
  suffices key : ∀ o : AOut, ((0, some (.int r.1), (126, 120, L, [Y, T, H2, H, RV, RU, ST, NS, I0, I1, I2, r.2.1, FI, RG, r.2.2, PU, MA, MN, MS, OT, SC], [256, 192, 384, 320, w, 256, 576, 640, 704], Lg)) : AOut) = o → Ev (d + 4, 0, 0, 308, 0, [.val (.ref 64)], [], (126, 120, L, [Y, T, H2, H, RV, RU, ST, NS, I0, I1, I2, BO, FI, RG, GU, PU, MA, MN, MS, OT, SC], [256, 192, 384, 320, w, r5, 576, 640, 704], Lg)) o from key _ rfl
  intro o ho
  obtain ⟨⟨BO_2, GU_3⟩, zh1, h⟩ := bnd h
  have zh1 : f_Y_lookAhead H NS BO GU = some (BO_2, GU_3) := zh1
  have ze2 := R_f_Y_lookAhead_3 (d + 0) Y T H2 H RV RU ST NS I0 I1 I2 BO FI RG GU PU MA MN MS OT SC w r5 L Lg zh1
  suffices e : Ev (d + 4, 0, 0, 308, 4, [.val (.ref 64)], [.ref 960], (126, 120, L, [Y, T, H2, H, RV, RU, ST, NS, I0, I1, I2, BO_2, FI, RG, GU_3, PU, MA, MN, MS, OT, SC], [256, 192, 384, 320, w, 256, 576, 640, 704], Lg)) o from ev_call (fun v μ => (d + 4, 0, 0, 308, 4, [.val (.ref 64)], v.toList ++ [], μ)) 2 ze2 e (fun n => Eq.refl _)
  have ze3 := Option.some.inj h
  subst ze3
  exact ev_rete 2 ho (fun n => Eq.refl _)
set_option maxRecDepth 1000000 in
set_option maxHeartbeats 4000000 in
theorem R_f_Guide_goOnly_0 (d : Nat) (Y T H H2 RA RB ST NS I0 I1 I2 BO FI RG GU PU MA MN MS OT SC : Nat → Nat → Int32) (r0 r1 r2 r3 w r6 r7 r8 : Nat) (L : Nat) (Lg : Int64) (p1 : Int32) {r : (Nat → Nat → Int32)} (h : f_Guide_goOnly H BO GU p1 = some r) : Ev (d + 0, 0, 0, 190, 0, [.val (.ref 960), .val (.int p1), .val a_unk], [], (126, 120, L, [Y, T, H, H2, RA, RB, ST, NS, I0, I1, I2, BO, FI, RG, GU, PU, MA, MN, MS, OT, SC], [r0, r1, r2, r3, w, 192, r6, r7, r8], Lg)) ((0, none, (126, 120, L, [Y, T, H, H2, RA, RB, ST, NS, I0, I1, I2, r, FI, RG, GU, PU, MA, MN, MS, OT, SC], [r0, r1, r2, r3, w, 192, r6, r7, r8], Lg)) : AOut) := by
  suffices key : ∀ o : AOut, ((0, none, (126, 120, L, [Y, T, H, H2, RA, RB, ST, NS, I0, I1, I2, r, FI, RG, GU, PU, MA, MN, MS, OT, SC], [r0, r1, r2, r3, w, 192, r6, r7, r8], Lg)) : AOut) = o → Ev (d + 0, 0, 0, 190, 0, [.val (.ref 960), .val (.int p1), .val a_unk], [], (126, 120, L, [Y, T, H, H2, RA, RB, ST, NS, I0, I1, I2, BO, FI, RG, GU, PU, MA, MN, MS, OT, SC], [r0, r1, r2, r3, w, 192, r6, r7, r8], Lg)) o from key _ rfl
  intro o ho
  obtain ⟨BO_8, zh2, h⟩ := bnd h
  suffices e : Ev (d + 0, 0, 0, 190, 2, [.val (.ref 960), .val (.int p1), .val (.int 0)], [], (126, 120, L, [Y, T, H, H2, RA, RB, ST, NS, I0, I1, I2, BO, FI, RG, GU, PU, MA, MN, MS, OT, SC], [r0, r1, r2, r3, w, 192, r6, r7, r8], Lg)) o from ev_b 2 e (fun n => Eq.refl _)
  refine ev_loop (δ := Unit) (fun a j => (d + 0, 0, 0, 190, 2, [.val (.ref 960), .val (.int p1), .val (.int a.1)], [], (126, 120, L, [Y, T, H, H2, RA, RB, ST, NS, I0, I1, I2, a.2, FI, RG, GU, PU, MA, MN, MS, OT, SC], [r0, r1, r2, r3, w, 192, r6, r7, r8], Lg))) (fun b => ∀ s7 : Value, Ev (d + 0, 0, 0, 190, 54, [.val (.ref 960), .val (.int p1), .val s7], [], (126, 120, L, [Y, T, H, H2, RA, RB, ST, NS, I0, I1, I2, b, FI, RG, GU, PU, MA, MN, MS, OT, SC], [r0, r1, r2, r3, w, 192, r6, r7, r8], Lg)) o) ?_ a_F (0, BO) BO_8 zh2 ?_ ()
  · rintro ⟨v1, BO_2⟩ zr6 zh5 zi3 zx4 ⟨⟩
    have zh5 : f_Guide_goOnly_l2 H GU p1 v1 BO_2 = some zr6 := zh5
    suffices e : Ev (d + 0, 0, 0, 190, 10, [.val (.ref 960), .val (.int p1), .val (.int v1)], [.ref 192, .int v1], (126, 120, L, [Y, T, H, H2, RA, RB, ST, NS, I0, I1, I2, BO_2, FI, RG, GU, PU, MA, MN, MS, OT, SC], [r0, r1, r2, r3, w, 192, r6, r7, r8], Lg)) o from ev_b 4 e (fun n => Eq.refl _)
    by_cases zc7 : (H 0 3) ≤ v1
    · have zh5 := itp zh5 zc7
      suffices e : Ev (d + 0, 0, 0, 190, 54, [.val (.ref 960), .val (.int p1), .val (.int v1)], [], (126, 120, L, [Y, T, H, H2, RA, RB, ST, NS, I0, I1, I2, BO_2, FI, RG, GU, PU, MA, MN, MS, OT, SC], [r0, r1, r2, r3, w, 192, r6, r7, r8], Lg)) o from ev_t (c := (H 0 3) ≤ v1) _ _ 2  zc7 e (fun n => Eq.refl _)
      exact ev_b 0 (zx4 _ (Option.some.inj zh5).symm (.int v1)) (fun n => Eq.refl _)
    · have zh5 := itn zh5 zc7
      suffices e : Ev (d + 0, 0, 0, 190, 16, [.val (.ref 960), .val (.int p1), .val (.int v1)], [], (126, 120, L, [Y, T, H, H2, RA, RB, ST, NS, I0, I1, I2, BO_2, FI, RG, GU, PU, MA, MN, MS, OT, SC], [r0, r1, r2, r3, w, 192, r6, r7, r8], Lg)) o from ev_f (c := (H 0 3) ≤ v1) _ _ 2  zc7 e (fun n => Eq.refl _)
      obtain ⟨zt8, zh9, zh5⟩ := bnd zh5
      have zj10 : ∀ (v5 : Int32), v5 = zt8 → Ev (d + 0, 0, 0, 190, 47, [.val (.ref 960), .val (.int p1), .val (.int v1)], [.int v5, .int v1, .ref 769], (126, 120, L, [Y, T, H, H2, RA, RB, ST, NS, I0, I1, I2, BO_2, FI, RG, GU, PU, MA, MN, MS, OT, SC], [r0, r1, r2, r3, w, 192, r6, r7, r8], Lg)) o := by
        intro v5 ze11
        subst ze11
        obtain ⟨j6, zh12, zh5⟩ := bnd zh5
        have zh12 : ixx 10 v1 = some j6 := zh12
        suffices e : Ev (d + 0, 0, 0, 190, 48, [.val (.ref 960), .val (.int p1), .val (.int v1)], [], (126, 120, L, [Y, T, H, H2, RA, RB, ST, NS, I0, I1, I2, (u2 BO_2 1 j6 v5), FI, RG, GU, PU, MA, MN, MS, OT, SC], [r0, r1, r2, r3, w, 192, r6, r7, r8], Lg)) o from ev_opt (fun j6 => (d + 0, 0, 0, 190, 48, [.val (.ref 960), .val (.int p1), .val (.int v1)], [], (126, 120, L, [Y, T, H, H2, RA, RB, ST, NS, I0, I1, I2, (u2 BO_2 1 j6 v5), FI, RG, GU, PU, MA, MN, MS, OT, SC], [r0, r1, r2, r3, w, 192, r6, r7, r8], Lg))) 1 zh12 e (fun n => Eq.refl _)
        exact ev_b 2 (zi3 _ (Option.some.inj zh5).symm ()) (fun n => Eq.refl _)
      by_cases zc13 : ((a_shr p1 v1) &&& 1) = 0
      · have zh9 := itp zh9 zc13
        suffices e : Ev (d + 0, 0, 0, 190, 41, [.val (.ref 960), .val (.int p1), .val (.int v1)], [.int v1, .ref 769], (126, 120, L, [Y, T, H, H2, RA, RB, ST, NS, I0, I1, I2, BO_2, FI, RG, GU, PU, MA, MN, MS, OT, SC], [r0, r1, r2, r3, w, 192, r6, r7, r8], Lg)) o from ev_t (c := ((a_shr p1 v1) &&& 1) = 0) _ _ 10  zc13 e (fun n => Eq.refl _)
        obtain ⟨x3, zh14, zh9⟩ := bnd zh9
        have zh14 : rdx (GU 1) 10 v1 = some x3 := zh14
        suffices e : Ev (d + 0, 0, 0, 190, 47, [.val (.ref 960), .val (.int p1), .val (.int v1)], [.int x3, .int v1, .ref 769], (126, 120, L, [Y, T, H, H2, RA, RB, ST, NS, I0, I1, I2, BO_2, FI, RG, GU, PU, MA, MN, MS, OT, SC], [r0, r1, r2, r3, w, 192, r6, r7, r8], Lg)) o from ev_opt (fun x3 => (d + 0, 0, 0, 190, 47, [.val (.ref 960), .val (.int p1), .val (.int v1)], [.int x3, .int v1, .ref 769], (126, 120, L, [Y, T, H, H2, RA, RB, ST, NS, I0, I1, I2, BO_2, FI, RG, GU, PU, MA, MN, MS, OT, SC], [r0, r1, r2, r3, w, 192, r6, r7, r8], Lg))) 4 zh14 e (fun n => Eq.refl _)
        exact ev_b 0 (zj10 x3 (Option.some.inj zh9) ) (fun n => Eq.refl _)
      · have zh9 := itn zh9 zc13
        suffices e : Ev (d + 0, 0, 0, 190, 32, [.val (.ref 960), .val (.int p1), .val (.int v1)], [.int v1, .ref 769], (126, 120, L, [Y, T, H, H2, RA, RB, ST, NS, I0, I1, I2, BO_2, FI, RG, GU, PU, MA, MN, MS, OT, SC], [r0, r1, r2, r3, w, 192, r6, r7, r8], Lg)) o from ev_f (c := ((a_shr p1 v1) &&& 1) = 0) _ _ 10  zc13 e (fun n => Eq.refl _)
        obtain ⟨x4, zh15, zh9⟩ := bnd zh9
        have zh15 : rdx (GU 2) 10 v1 = some x4 := zh15
        suffices e : Ev (d + 0, 0, 0, 190, 38, [.val (.ref 960), .val (.int p1), .val (.int v1)], [.int x4, .int v1, .ref 769], (126, 120, L, [Y, T, H, H2, RA, RB, ST, NS, I0, I1, I2, BO_2, FI, RG, GU, PU, MA, MN, MS, OT, SC], [r0, r1, r2, r3, w, 192, r6, r7, r8], Lg)) o from ev_opt (fun x4 => (d + 0, 0, 0, 190, 38, [.val (.ref 960), .val (.int p1), .val (.int v1)], [.int x4, .int v1, .ref 769], (126, 120, L, [Y, T, H, H2, RA, RB, ST, NS, I0, I1, I2, BO_2, FI, RG, GU, PU, MA, MN, MS, OT, SC], [r0, r1, r2, r3, w, 192, r6, r7, r8], Lg))) 4 zh15 e (fun n => Eq.refl _)
        exact ev_b 1 (zj10 x4 (Option.some.inj zh9) ) (fun n => Eq.refl _)
  · skip
    intro s7
    have ze16 := Option.some.inj h
    subst ze16
    exact ev_rete 1 ho (fun n => Eq.refl _)
set_option maxRecDepth 1000000 in
set_option maxHeartbeats 4000000 in
theorem R_f_Guide_lawfulAfter_0 (d : Nat) (Y T H H2 RA RB ST NS I0 I1 I2 BO FI RG GU PU MA MN MS OT SC : Nat → Nat → Int32) (r0 r1 r2 r3 w r6 r7 r8 : Nat) (L : Nat) (Lg : Int64) (p1 : Int32) {r : Int32 × (Nat → Nat → Int32)} (h : f_Guide_lawfulAfter H BO GU p1 = some r) : Ev (d + 4, 0, 0, 191, 0, [.val (.ref 960), .val (.int p1), .val a_unk], [], (126, 120, L, [Y, T, H, H2, RA, RB, ST, NS, I0, I1, I2, BO, FI, RG, GU, PU, MA, MN, MS, OT, SC], [r0, r1, r2, r3, w, 192, r6, r7, r8], Lg)) ((0, some (.int r.1), (126, 120, L, [Y, T, H, H2, RA, RB, ST, NS, I0, I1, I2, r.2, FI, RG, GU, PU, MA, MN, MS, OT, SC], [r0, r1, r2, r3, w, 192, r6, r7, r8], Lg)) : AOut) := by
  suffices key : ∀ o : AOut, ((0, some (.int r.1), (126, 120, L, [Y, T, H, H2, RA, RB, ST, NS, I0, I1, I2, r.2, FI, RG, GU, PU, MA, MN, MS, OT, SC], [r0, r1, r2, r3, w, 192, r6, r7, r8], Lg)) : AOut) = o → Ev (d + 4, 0, 0, 191, 0, [.val (.ref 960), .val (.int p1), .val a_unk], [], (126, 120, L, [Y, T, H, H2, RA, RB, ST, NS, I0, I1, I2, BO, FI, RG, GU, PU, MA, MN, MS, OT, SC], [r0, r1, r2, r3, w, 192, r6, r7, r8], Lg)) o from key _ rfl
  intro o ho
  obtain ⟨BO_1, zh1, h⟩ := bnd h
  have zh1 : f_Guide_goOnly H BO GU p1 = some BO_1 := zh1
  have ze2 := R_f_Guide_goOnly_0 (d + 3) Y T H H2 RA RB ST NS I0 I1 I2 BO FI RG GU PU MA MN MS OT SC r0 r1 r2 r3 w r6 r7 r8 L Lg p1 zh1
  suffices e : Ev (d + 4, 0, 0, 191, 5, [.val (.ref 960), .val (.int p1), .val a_unk], [], (126, 120, L, [Y, T, H, H2, RA, RB, ST, NS, I0, I1, I2, BO_1, FI, RG, GU, PU, MA, MN, MS, OT, SC], [r0, r1, r2, r3, w, 192, r6, r7, r8], Lg)) o from ev_call (fun v μ => (d + 4, 0, 0, 191, 5, [.val (.ref 960), .val (.int p1), .val a_unk], v.toList ++ [], μ)) 3 ze2 e (fun n => Eq.refl _)
  obtain ⟨x2, zh3, h⟩ := bnd h
  have zh3 : f_Board_isLawful H BO_1 = some x2 := zh3
  have ze4 := R_f_Board_isLawful_0 (d + 0) Y T H H2 RA RB ST NS I0 I1 I2 BO_1 FI RG GU PU MA MN MS OT SC r0 r1 r2 r3 w r6 r7 r8 L Lg zh3
  suffices e : Ev (d + 4, 0, 0, 191, 12, [.val (.ref 960), .val (.int p1), .val a_unk], [.int x2], (126, 120, L, [Y, T, H, H2, RA, RB, ST, NS, I0, I1, I2, BO_1, FI, RG, GU, PU, MA, MN, MS, OT, SC], [r0, r1, r2, r3, w, 192, r6, r7, r8], Lg)) o from ev_call (fun v μ => (d + 4, 0, 0, 191, 12, [.val (.ref 960), .val (.int p1), .val a_unk], v.toList ++ [], μ)) 3 ze4 e (fun n => Eq.refl _)
  obtain ⟨BO_3, zh5, h⟩ := bnd h
  have zh5 : f_Guide_goOnly H BO_1 GU 0 = some BO_3 := zh5
  have ze6 := R_f_Guide_goOnly_0 (d + 3) Y T H H2 RA RB ST NS I0 I1 I2 BO_1 FI RG GU PU MA MN MS OT SC r0 r1 r2 r3 w r6 r7 r8 L Lg 0 zh5
  suffices e : Ev (d + 4, 0, 0, 191, 18, [.val (.ref 960), .val (.int p1), .val (.int x2)], [], (126, 120, L, [Y, T, H, H2, RA, RB, ST, NS, I0, I1, I2, BO_3, FI, RG, GU, PU, MA, MN, MS, OT, SC], [r0, r1, r2, r3, w, 192, r6, r7, r8], Lg)) o from ev_call (fun v μ => (d + 4, 0, 0, 191, 18, [.val (.ref 960), .val (.int p1), .val (.int x2)], v.toList ++ [], μ)) 4 ze6 e (fun n => Eq.refl _)
  have ze7 := Option.some.inj h
  subst ze7
  exact ev_rete 2 ho (fun n => Eq.refl _)
set_option maxRecDepth 1000000 in
set_option maxHeartbeats 4000000 in
theorem R_f_Guide_lawfulAtOnce_0 (d : Nat) (Y T H H2 RA RB ST NS I0 I1 I2 BO FI RG GU PU MA MN MS OT SC : Nat → Nat → Int32) (r0 r1 r2 r3 w r6 r7 r8 : Nat) (L : Nat) (Lg : Int64) {r : Int32 × (Nat → Nat → Int32)} (h : f_Guide_lawfulAtOnce H BO GU = some r) : Ev (d + 5, 0, 0, 192, 0, [.val (.ref 960)], [], (126, 120, L, [Y, T, H, H2, RA, RB, ST, NS, I0, I1, I2, BO, FI, RG, GU, PU, MA, MN, MS, OT, SC], [r0, r1, r2, r3, w, 192, r6, r7, r8], Lg)) ((0, some (.int r.1), (126, 120, L, [Y, T, H, H2, RA, RB, ST, NS, I0, I1, I2, r.2, FI, RG, GU, PU, MA, MN, MS, OT, SC], [r0, r1, r2, r3, w, 192, r6, r7, r8], Lg)) : AOut) := by
  suffices key : ∀ o : AOut, ((0, some (.int r.1), (126, 120, L, [Y, T, H, H2, RA, RB, ST, NS, I0, I1, I2, r.2, FI, RG, GU, PU, MA, MN, MS, OT, SC], [r0, r1, r2, r3, w, 192, r6, r7, r8], Lg)) : AOut) = o → Ev (d + 5, 0, 0, 192, 0, [.val (.ref 960)], [], (126, 120, L, [Y, T, H, H2, RA, RB, ST, NS, I0, I1, I2, BO, FI, RG, GU, PU, MA, MN, MS, OT, SC], [r0, r1, r2, r3, w, 192, r6, r7, r8], Lg)) o from key _ rfl
  intro o ho
  obtain ⟨⟨x1, BO_2⟩, zh1, h⟩ := bnd h
  have zh1 : f_Guide_lawfulAfter H BO GU (GU 0 4) = some (x1, BO_2) := zh1
  have ze2 := R_f_Guide_lawfulAfter_0 (d + 0) Y T H H2 RA RB ST NS I0 I1 I2 BO FI RG GU PU MA MN MS OT SC r0 r1 r2 r3 w r6 r7 r8 L Lg (GU 0 4) zh1
  suffices e : Ev (d + 5, 0, 0, 192, 8, [.val (.ref 960)], [.int x1], (126, 120, L, [Y, T, H, H2, RA, RB, ST, NS, I0, I1, I2, BO_2, FI, RG, GU, PU, MA, MN, MS, OT, SC], [r0, r1, r2, r3, w, 192, r6, r7, r8], Lg)) o from ev_call (fun v μ => (d + 5, 0, 0, 192, 8, [.val (.ref 960)], v.toList ++ [], μ)) 4 ze2 e (fun n => Eq.refl _)
  have ze3 := Option.some.inj h
  subst ze3
  exact ev_rete 1 ho (fun n => Eq.refl _)
set_option maxRecDepth 1000000 in
set_option maxHeartbeats 4000000 in
theorem R_f_Y_once_0 (d : Nat) (Y T H H2 RU RV ST NS I0 I1 I2 BO FI RG GU PU MA MN MS OT SC : Nat → Nat → Int32) (w r5 : Nat) (L : Nat) (Lg : Int64) {r : Int32 × (Nat → Nat → Int32) × (Nat → Nat → Int32)} (h : f_Y_once H NS BO GU = some r) : Ev (d + 6, 0, 0, 309, 0, [.val (.ref 64)], [], (126, 120, L, [Y, T, H, H2, RU, RV, ST, NS, I0, I1, I2, BO, FI, RG, GU, PU, MA, MN, MS, OT, SC], [192, 256, 320, 384, w, r5, 576, 640, 704], Lg)) ((0, some (.int r.1), (126, 120, L, [Y, T, H, H2, RU, RV, ST, NS, I0, I1, I2, r.2.1, FI, RG, r.2.2, PU, MA, MN, MS, OT, SC], [192, 256, 320, 384, w, 192, 576, 640, 704], Lg)) : AOut) := by
  suffices key : ∀ o : AOut, ((0, some (.int r.1), (126, 120, L, [Y, T, H, H2, RU, RV, ST, NS, I0, I1, I2, r.2.1, FI, RG, r.2.2, PU, MA, MN, MS, OT, SC], [192, 256, 320, 384, w, 192, 576, 640, 704], Lg)) : AOut) = o → Ev (d + 6, 0, 0, 309, 0, [.val (.ref 64)], [], (126, 120, L, [Y, T, H, H2, RU, RV, ST, NS, I0, I1, I2, BO, FI, RG, GU, PU, MA, MN, MS, OT, SC], [192, 256, 320, 384, w, r5, 576, 640, 704], Lg)) o from key _ rfl
  intro o ho
  obtain ⟨⟨BO_2, GU_3⟩, zh1, h⟩ := bnd h
  have zh1 : f_Y_lookAhead H NS BO GU = some (BO_2, GU_3) := zh1
  have ze2 := R_f_Y_lookAhead_0 (d + 2) Y T H H2 RU RV ST NS I0 I1 I2 BO FI RG GU PU MA MN MS OT SC w r5 L Lg zh1
  suffices e : Ev (d + 6, 0, 0, 309, 4, [.val (.ref 64)], [.ref 960], (126, 120, L, [Y, T, H, H2, RU, RV, ST, NS, I0, I1, I2, BO_2, FI, RG, GU_3, PU, MA, MN, MS, OT, SC], [192, 256, 320, 384, w, 192, 576, 640, 704], Lg)) o from ev_call (fun v μ => (d + 6, 0, 0, 309, 4, [.val (.ref 64)], v.toList ++ [], μ)) 2 ze2 e (fun n => Eq.refl _)
  obtain ⟨⟨x4, BO_5⟩, zh3, h⟩ := bnd h
  have zh3 : f_Guide_lawfulAtOnce H BO_2 GU_3 = some (x4, BO_5) := zh3
  have ze4 := R_f_Guide_lawfulAtOnce_0 (d + 0) Y T H H2 RU RV ST NS I0 I1 I2 BO_2 FI RG GU_3 PU MA MN MS OT SC 192 256 320 384 w 576 640 704 L Lg zh3
  suffices e : Ev (d + 6, 0, 0, 309, 7, [.val (.ref 64)], [.int x4], (126, 120, L, [Y, T, H, H2, RU, RV, ST, NS, I0, I1, I2, BO_5, FI, RG, GU_3, PU, MA, MN, MS, OT, SC], [192, 256, 320, 384, w, 192, 576, 640, 704], Lg)) o from ev_call (fun v μ => (d + 6, 0, 0, 309, 7, [.val (.ref 64)], v.toList ++ [], μ)) 1 ze4 e (fun n => Eq.refl _)
  have ze5 := Option.some.inj h
  subst ze5
  exact ev_rete 1 ho (fun n => Eq.refl _)
set_option maxRecDepth 1000000 in
set_option maxHeartbeats 4000000 in
theorem R_f_Y_once_1 (d : Nat) (Y T H H2 RV RU ST NS I0 I1 I2 BO FI RG GU PU MA MN MS OT SC : Nat → Nat → Int32) (w r5 : Nat) (L : Nat) (Lg : Int64) {r : Int32 × (Nat → Nat → Int32) × (Nat → Nat → Int32)} (h : f_Y_once H NS BO GU = some r) : Ev (d + 6, 0, 0, 309, 0, [.val (.ref 64)], [], (126, 120, L, [Y, T, H, H2, RV, RU, ST, NS, I0, I1, I2, BO, FI, RG, GU, PU, MA, MN, MS, OT, SC], [192, 256, 384, 320, w, r5, 576, 640, 704], Lg)) ((0, some (.int r.1), (126, 120, L, [Y, T, H, H2, RV, RU, ST, NS, I0, I1, I2, r.2.1, FI, RG, r.2.2, PU, MA, MN, MS, OT, SC], [192, 256, 384, 320, w, 192, 576, 640, 704], Lg)) : AOut) := by
  suffices key : ∀ o : AOut, ((0, some (.int r.1), (126, 120, L, [Y, T, H, H2, RV, RU, ST, NS, I0, I1, I2, r.2.1, FI, RG, r.2.2, PU, MA, MN, MS, OT, SC], [192, 256, 384, 320, w, 192, 576, 640, 704], Lg)) : AOut) = o → Ev (d + 6, 0, 0, 309, 0, [.val (.ref 64)], [], (126, 120, L, [Y, T, H, H2, RV, RU, ST, NS, I0, I1, I2, BO, FI, RG, GU, PU, MA, MN, MS, OT, SC], [192, 256, 384, 320, w, r5, 576, 640, 704], Lg)) o from key _ rfl
  intro o ho
  obtain ⟨⟨BO_2, GU_3⟩, zh1, h⟩ := bnd h
  have zh1 : f_Y_lookAhead H NS BO GU = some (BO_2, GU_3) := zh1
  have ze2 := R_f_Y_lookAhead_1 (d + 2) Y T H H2 RV RU ST NS I0 I1 I2 BO FI RG GU PU MA MN MS OT SC w r5 L Lg zh1
  suffices e : Ev (d + 6, 0, 0, 309, 4, [.val (.ref 64)], [.ref 960], (126, 120, L, [Y, T, H, H2, RV, RU, ST, NS, I0, I1, I2, BO_2, FI, RG, GU_3, PU, MA, MN, MS, OT, SC], [192, 256, 384, 320, w, 192, 576, 640, 704], Lg)) o from ev_call (fun v μ => (d + 6, 0, 0, 309, 4, [.val (.ref 64)], v.toList ++ [], μ)) 2 ze2 e (fun n => Eq.refl _)
  obtain ⟨⟨x4, BO_5⟩, zh3, h⟩ := bnd h
  have zh3 : f_Guide_lawfulAtOnce H BO_2 GU_3 = some (x4, BO_5) := zh3
  have ze4 := R_f_Guide_lawfulAtOnce_0 (d + 0) Y T H H2 RV RU ST NS I0 I1 I2 BO_2 FI RG GU_3 PU MA MN MS OT SC 192 256 384 320 w 576 640 704 L Lg zh3
  suffices e : Ev (d + 6, 0, 0, 309, 7, [.val (.ref 64)], [.int x4], (126, 120, L, [Y, T, H, H2, RV, RU, ST, NS, I0, I1, I2, BO_5, FI, RG, GU_3, PU, MA, MN, MS, OT, SC], [192, 256, 384, 320, w, 192, 576, 640, 704], Lg)) o from ev_call (fun v μ => (d + 6, 0, 0, 309, 7, [.val (.ref 64)], v.toList ++ [], μ)) 1 ze4 e (fun n => Eq.refl _)
  have ze5 := Option.some.inj h
  subst ze5
  exact ev_rete 1 ho (fun n => Eq.refl _)
set_option maxRecDepth 1000000 in
set_option maxHeartbeats 4000000 in
theorem R_f_Guide_goOnly_1 (d : Nat) (Y T H2 H RA RB ST NS I0 I1 I2 BO FI RG GU PU MA MN MS OT SC : Nat → Nat → Int32) (r0 r1 r2 r3 w r6 r7 r8 : Nat) (L : Nat) (Lg : Int64) (p1 : Int32) {r : (Nat → Nat → Int32)} (h : f_Guide_goOnly H BO GU p1 = some r) : Ev (d + 0, 0, 0, 190, 0, [.val (.ref 960), .val (.int p1), .val a_unk], [], (126, 120, L, [Y, T, H2, H, RA, RB, ST, NS, I0, I1, I2, BO, FI, RG, GU, PU, MA, MN, MS, OT, SC], [r0, r1, r2, r3, w, 256, r6, r7, r8], Lg)) ((0, none, (126, 120, L, [Y, T, H2, H, RA, RB, ST, NS, I0, I1, I2, r, FI, RG, GU, PU, MA, MN, MS, OT, SC], [r0, r1, r2, r3, w, 256, r6, r7, r8], Lg)) : AOut) := by
  suffices key : ∀ o : AOut, ((0, none, (126, 120, L, [Y, T, H2, H, RA, RB, ST, NS, I0, I1, I2, r, FI, RG, GU, PU, MA, MN, MS, OT, SC], [r0, r1, r2, r3, w, 256, r6, r7, r8], Lg)) : AOut) = o → Ev (d + 0, 0, 0, 190, 0, [.val (.ref 960), .val (.int p1), .val a_unk], [], (126, 120, L, [Y, T, H2, H, RA, RB, ST, NS, I0, I1, I2, BO, FI, RG, GU, PU, MA, MN, MS, OT, SC], [r0, r1, r2, r3, w, 256, r6, r7, r8], Lg)) o from key _ rfl
  intro o ho
  obtain ⟨BO_8, zh2, h⟩ := bnd h
  suffices e : Ev (d + 0, 0, 0, 190, 2, [.val (.ref 960), .val (.int p1), .val (.int 0)], [], (126, 120, L, [Y, T, H2, H, RA, RB, ST, NS, I0, I1, I2, BO, FI, RG, GU, PU, MA, MN, MS, OT, SC], [r0, r1, r2, r3, w, 256, r6, r7, r8], Lg)) o from ev_b 2 e (fun n => Eq.refl _)
  refine ev_loop (δ := Unit) (fun a j => (d + 0, 0, 0, 190, 2, [.val (.ref 960), .val (.int p1), .val (.int a.1)], [], (126, 120, L, [Y, T, H2, H, RA, RB, ST, NS, I0, I1, I2, a.2, FI, RG, GU, PU, MA, MN, MS, OT, SC], [r0, r1, r2, r3, w, 256, r6, r7, r8], Lg))) (fun b => ∀ s7 : Value, Ev (d + 0, 0, 0, 190, 54, [.val (.ref 960), .val (.int p1), .val s7], [], (126, 120, L, [Y, T, H2, H, RA, RB, ST, NS, I0, I1, I2, b, FI, RG, GU, PU, MA, MN, MS, OT, SC], [r0, r1, r2, r3, w, 256, r6, r7, r8], Lg)) o) ?_ a_F (0, BO) BO_8 zh2 ?_ ()
  · rintro ⟨v1, BO_2⟩ zr6 zh5 zi3 zx4 ⟨⟩
    have zh5 : f_Guide_goOnly_l2 H GU p1 v1 BO_2 = some zr6 := zh5
    suffices e : Ev (d + 0, 0, 0, 190, 10, [.val (.ref 960), .val (.int p1), .val (.int v1)], [.ref 256, .int v1], (126, 120, L, [Y, T, H2, H, RA, RB, ST, NS, I0, I1, I2, BO_2, FI, RG, GU, PU, MA, MN, MS, OT, SC], [r0, r1, r2, r3, w, 256, r6, r7, r8], Lg)) o from ev_b 4 e (fun n => Eq.refl _)
    by_cases zc7 : (H 0 3) ≤ v1
    · have zh5 := itp zh5 zc7
      suffices e : Ev (d + 0, 0, 0, 190, 54, [.val (.ref 960), .val (.int p1), .val (.int v1)], [], (126, 120, L, [Y, T, H2, H, RA, RB, ST, NS, I0, I1, I2, BO_2, FI, RG, GU, PU, MA, MN, MS, OT, SC], [r0, r1, r2, r3, w, 256, r6, r7, r8], Lg)) o from ev_t (c := (H 0 3) ≤ v1) _ _ 2  zc7 e (fun n => Eq.refl _)
      exact ev_b 0 (zx4 _ (Option.some.inj zh5).symm (.int v1)) (fun n => Eq.refl _)
    · have zh5 := itn zh5 zc7
      suffices e : Ev (d + 0, 0, 0, 190, 16, [.val (.ref 960), .val (.int p1), .val (.int v1)], [], (126, 120, L, [Y, T, H2, H, RA, RB, ST, NS, I0, I1, I2, BO_2, FI, RG, GU, PU, MA, MN, MS, OT, SC], [r0, r1, r2, r3, w, 256, r6, r7, r8], Lg)) o from ev_f (c := (H 0 3) ≤ v1) _ _ 2  zc7 e (fun n => Eq.refl _)
      obtain ⟨zt8, zh9, zh5⟩ := bnd zh5
      have zj10 : ∀ (v5 : Int32), v5 = zt8 → Ev (d + 0, 0, 0, 190, 47, [.val (.ref 960), .val (.int p1), .val (.int v1)], [.int v5, .int v1, .ref 769], (126, 120, L, [Y, T, H2, H, RA, RB, ST, NS, I0, I1, I2, BO_2, FI, RG, GU, PU, MA, MN, MS, OT, SC], [r0, r1, r2, r3, w, 256, r6, r7, r8], Lg)) o := by
        intro v5 ze11
        subst ze11
        obtain ⟨j6, zh12, zh5⟩ := bnd zh5
        have zh12 : ixx 10 v1 = some j6 := zh12
        suffices e : Ev (d + 0, 0, 0, 190, 48, [.val (.ref 960), .val (.int p1), .val (.int v1)], [], (126, 120, L, [Y, T, H2, H, RA, RB, ST, NS, I0, I1, I2, (u2 BO_2 1 j6 v5), FI, RG, GU, PU, MA, MN, MS, OT, SC], [r0, r1, r2, r3, w, 256, r6, r7, r8], Lg)) o from ev_opt (fun j6 => (d + 0, 0, 0, 190, 48, [.val (.ref 960), .val (.int p1), .val (.int v1)], [], (126, 120, L, [Y, T, H2, H, RA, RB, ST, NS, I0, I1, I2, (u2 BO_2 1 j6 v5), FI, RG, GU, PU, MA, MN, MS, OT, SC], [r0, r1, r2, r3, w, 256, r6, r7, r8], Lg))) 1 zh12 e (fun n => Eq.refl _)
        exact ev_b 2 (zi3 _ (Option.some.inj zh5).symm ()) (fun n => Eq.refl _)
      by_cases zc13 : ((a_shr p1 v1) &&& 1) = 0
      · have zh9 := itp zh9 zc13
        suffices e : Ev (d + 0, 0, 0, 190, 41, [.val (.ref 960), .val (.int p1), .val (.int v1)], [.int v1, .ref 769], (126, 120, L, [Y, T, H2, H, RA, RB, ST, NS, I0, I1, I2, BO_2, FI, RG, GU, PU, MA, MN, MS, OT, SC], [r0, r1, r2, r3, w, 256, r6, r7, r8], Lg)) o from ev_t (c := ((a_shr p1 v1) &&& 1) = 0) _ _ 10  zc13 e (fun n => Eq.refl _)
        obtain ⟨x3, zh14, zh9⟩ := bnd zh9
        have zh14 : rdx (GU 1) 10 v1 = some x3 := zh14
        suffices e : Ev (d + 0, 0, 0, 190, 47, [.val (.ref 960), .val (.int p1), .val (.int v1)], [.int x3, .int v1, .ref 769], (126, 120, L, [Y, T, H2, H, RA, RB, ST, NS, I0, I1, I2, BO_2, FI, RG, GU, PU, MA, MN, MS, OT, SC], [r0, r1, r2, r3, w, 256, r6, r7, r8], Lg)) o from ev_opt (fun x3 => (d + 0, 0, 0, 190, 47, [.val (.ref 960), .val (.int p1), .val (.int v1)], [.int x3, .int v1, .ref 769], (126, 120, L, [Y, T, H2, H, RA, RB, ST, NS, I0, I1, I2, BO_2, FI, RG, GU, PU, MA, MN, MS, OT, SC], [r0, r1, r2, r3, w, 256, r6, r7, r8], Lg))) 4 zh14 e (fun n => Eq.refl _)
        exact ev_b 0 (zj10 x3 (Option.some.inj zh9) ) (fun n => Eq.refl _)
      · have zh9 := itn zh9 zc13
        suffices e : Ev (d + 0, 0, 0, 190, 32, [.val (.ref 960), .val (.int p1), .val (.int v1)], [.int v1, .ref 769], (126, 120, L, [Y, T, H2, H, RA, RB, ST, NS, I0, I1, I2, BO_2, FI, RG, GU, PU, MA, MN, MS, OT, SC], [r0, r1, r2, r3, w, 256, r6, r7, r8], Lg)) o from ev_f (c := ((a_shr p1 v1) &&& 1) = 0) _ _ 10  zc13 e (fun n => Eq.refl _)
        obtain ⟨x4, zh15, zh9⟩ := bnd zh9
        have zh15 : rdx (GU 2) 10 v1 = some x4 := zh15
        suffices e : Ev (d + 0, 0, 0, 190, 38, [.val (.ref 960), .val (.int p1), .val (.int v1)], [.int x4, .int v1, .ref 769], (126, 120, L, [Y, T, H2, H, RA, RB, ST, NS, I0, I1, I2, BO_2, FI, RG, GU, PU, MA, MN, MS, OT, SC], [r0, r1, r2, r3, w, 256, r6, r7, r8], Lg)) o from ev_opt (fun x4 => (d + 0, 0, 0, 190, 38, [.val (.ref 960), .val (.int p1), .val (.int v1)], [.int x4, .int v1, .ref 769], (126, 120, L, [Y, T, H2, H, RA, RB, ST, NS, I0, I1, I2, BO_2, FI, RG, GU, PU, MA, MN, MS, OT, SC], [r0, r1, r2, r3, w, 256, r6, r7, r8], Lg))) 4 zh15 e (fun n => Eq.refl _)
        exact ev_b 1 (zj10 x4 (Option.some.inj zh9) ) (fun n => Eq.refl _)
  · skip
    intro s7
    have ze16 := Option.some.inj h
    subst ze16
    exact ev_rete 1 ho (fun n => Eq.refl _)
