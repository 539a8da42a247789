/-! printed by program (gen/emitm.py): the reference's methods run as their functions say -/
set_option maxRecDepth 1000000 in
set_option maxHeartbeats 4000000 in
theorem R_f_Y_news_2 (d : Nat) (Y T H2 H RU RV ST NS I0 I1 I2 BO FI RG GU PU MA MN MS OT SC : Nat → Nat → Int32) (w r5 : Nat) (L : Nat) (Lg : Int64) (p1 : Int32) (p2 : Int32) {r : Nat × Int32 × (Nat → Nat → Int32) × (Nat → Nat → Int32) × (Nat → Nat → Int32) × Nat} (h : f_Y_news Y H NS BO GU 256 r5 p1 p2 = some r) : Ev (d + 4, 2, 16, 314, 0, [.val (.ref 64), .val (.int p1), .val (.int p2), .val a_unk], [], (126, 120, L, [Y, T, H2, H, RU, RV, ST, NS, I0, I1, I2, BO, FI, RG, GU, PU, MA, MN, MS, OT, SC], [256, 192, 320, 384, w, r5, 576, 640, 704], Lg)) ((r.1, a_ov r.1 (.int r.2.1), (126, 120, L, [r.2.2.1, T, H2, H, RU, RV, ST, NS, I0, I1, I2, r.2.2.2.1, FI, RG, r.2.2.2.2.1, PU, MA, MN, MS, OT, SC], [256, 192, 320, 384, w, r.2.2.2.2.2, 576, 640, 704], Lg)) : AOut) := by
  suffices key : ∀ o : AOut, ((r.1, a_ov r.1 (.int r.2.1), (126, 120, L, [r.2.2.1, T, H2, H, RU, RV, ST, NS, I0, I1, I2, r.2.2.2.1, FI, RG, r.2.2.2.2.1, PU, MA, MN, MS, OT, SC], [256, 192, 320, 384, w, r.2.2.2.2.2, 576, 640, 704], Lg)) : AOut) = o → Ev (d + 4, 2, 16, 314, 0, [.val (.ref 64), .val (.int p1), .val (.int p2), .val a_unk], [], (126, 120, L, [Y, T, H2, H, RU, RV, ST, NS, I0, I1, I2, BO, FI, RG, GU, PU, MA, MN, MS, OT, SC], [256, 192, 320, 384, w, r5, 576, 640, 704], Lg)) o from key _ rfl
  intro o ho
  obtain ⟨⟨q1, Y_2⟩, zh1, h⟩ := bnd h
  have zh1 : f_Y_needHour Y H p1 = some (q1, Y_2) := zh1
  have ze2 := R_f_Y_needHour_2 (d + 2) Y T H2 H RU RV ST NS I0 I1 I2 BO FI RG GU PU MA MN MS OT SC w r5 L Lg p1 zh1
  cases q1 with
  | zero =>
    have h := itp h rfl
    suffices e : Ev (d + 4, 1, 8, 314, 5, [.val (.ref 64), .val (.int p1), .val (.int p2), .val a_unk], [], (126, 120, L, [Y_2, T, H2, H, RU, RV, ST, NS, I0, I1, I2, BO, FI, RG, GU, PU, MA, MN, MS, OT, SC], [256, 192, 320, 384, w, r5, 576, 640, 704], Lg)) o from ev_call (fun v μ => (d + 4, 1, 8, 314, 5, [.val (.ref 64), .val (.int p1), .val (.int p2), .val a_unk], v.toList ++ [], μ)) 3 ze2 e (fun n => Eq.refl _)
    obtain ⟨zt3, zh4, h⟩ := bnd h
    have zj5 : ∀ (v3 : Int32), v3 = zt3 → Ev (d + 4, 1, 8, 314, 20, [.val (.ref 64), .val (.int p1), .val (.int p2), .val a_unk], [.int v3, .ref 64], (126, 120, L, [Y_2, T, H2, H, RU, RV, ST, NS, I0, I1, I2, BO, FI, RG, GU, PU, MA, MN, MS, OT, SC], [256, 192, 320, 384, w, r5, 576, 640, 704], Lg)) o := by
      intro v3 ze6
      subst ze6
      obtain ⟨⟨q4, Y_5⟩, zh7, h⟩ := bnd h
      have zh7 : f_Y_refuseUnless Y_2 v3 = some (q4, Y_5) := zh7
      have ze8 := R_f_Y_refuseUnless_2 (d + 3) Y_2 T H2 H RU RV ST NS I0 I1 I2 BO FI RG GU PU MA MN MS OT SC w r5 L Lg v3 zh7
      cases q4 with
      | zero =>
        have h := itp h rfl
        suffices e : Ev (d + 4, 0, 0, 314, 23, [.val (.ref 64), .val (.int p1), .val (.int p2), .val a_unk], [], (126, 120, L, [Y_5, T, H2, H, RU, RV, ST, NS, I0, I1, I2, BO, FI, RG, GU, PU, MA, MN, MS, OT, SC], [256, 192, 320, 384, w, r5, 576, 640, 704], Lg)) o from ev_call (fun v μ => (d + 4, 0, 0, 314, 23, [.val (.ref 64), .val (.int p1), .val (.int p2), .val a_unk], v.toList ++ [], μ)) 1 ze8 e (fun n => Eq.refl _)
        obtain ⟨⟨BO_7, GU_8⟩, zh9, h⟩ := bnd h
        have zh9 : f_Y_lookAhead H NS BO GU = some (BO_7, GU_8) := zh9
        have ze10 := R_f_Y_lookAhead_2 (d + 0) Y_5 T H2 H RU RV ST NS I0 I1 I2 BO FI RG GU PU MA MN MS OT SC w r5 L Lg zh9
        suffices e : Ev (d + 4, 0, 0, 314, 27, [.val (.ref 64), .val (.int p1), .val (.int p2), .val a_unk], [.ref 960], (126, 120, L, [Y_5, T, H2, H, RU, RV, ST, NS, I0, I1, I2, BO_7, FI, RG, GU_8, PU, MA, MN, MS, OT, SC], [256, 192, 320, 384, w, 256, 576, 640, 704], Lg)) o from ev_call (fun v μ => (d + 4, 0, 0, 314, 27, [.val (.ref 64), .val (.int p1), .val (.int p2), .val a_unk], v.toList ++ [], μ)) 2 ze10 e (fun n => Eq.refl _)
        obtain ⟨x9, zh11, h⟩ := bnd h
        have zh11 : f_Guide_missers H GU_8 p1 = some x9 := zh11
        have ze12 := R_f_Guide_missers_1 (d + 1) Y_5 T H2 H RU RV ST NS I0 I1 I2 BO_7 FI RG GU_8 PU MA MN MS OT SC 256 192 320 384 w 576 640 704 L Lg p1 zh11
        suffices e : Ev (d + 4, 0, 0, 314, 31, [.val (.ref 64), .val (.int p1), .val (.int p2), .val a_unk], [.int x9], (126, 120, L, [Y_5, T, H2, H, RU, RV, ST, NS, I0, I1, I2, BO_7, FI, RG, GU_8, PU, MA, MN, MS, OT, SC], [256, 192, 320, 384, w, 256, 576, 640, 704], Lg)) o from ev_call (fun v μ => (d + 4, 0, 0, 314, 31, [.val (.ref 64), .val (.int p1), .val (.int p2), .val a_unk], v.toList ++ [], μ)) 2 ze12 e (fun n => Eq.refl _)
        by_cases zc13 : p2 ≠ 0
        · have h := itp h zc13
          suffices e : Ev (d + 4, 0, 0, 314, 43, [.val (.ref 64), .val (.int p1), .val (.int p2), .val (.int x9)], [], (126, 120, L, [Y_5, T, H2, H, RU, RV, ST, NS, I0, I1, I2, BO_7, FI, RG, GU_8, PU, MA, MN, MS, OT, SC], [256, 192, 320, 384, w, 256, 576, 640, 704], Lg)) o from ev_t (c := p2 ≠ 0) _ _ 3  zc13 e (fun n => Eq.refl _)
          have ze14 := Option.some.inj h
          subst ze14
          exact ev_rete 2 ho (fun n => Eq.refl _)
        · have h := itn h zc13
          suffices e : Ev (d + 4, 0, 0, 314, 36, [.val (.ref 64), .val (.int p1), .val (.int p2), .val (.int x9)], [], (126, 120, L, [Y_5, T, H2, H, RU, RV, ST, NS, I0, I1, I2, BO_7, FI, RG, GU_8, PU, MA, MN, MS, OT, SC], [256, 192, 320, 384, w, 256, 576, 640, 704], Lg)) o from ev_f (c := p2 ≠ 0) _ _ 3  zc13 e (fun n => Eq.refl _)
          obtain ⟨x10, zh15, h⟩ := bnd h
          have zh15 : f_Integer_bitCount x9 = some x10 := zh15
          have ze16 := R_f_Integer_bitCount_0 (d + 3) Y_5 T H2 H RU RV ST NS I0 I1 I2 BO_7 FI RG GU_8 PU MA MN MS OT SC 256 192 320 384 w 256 576 640 704 L Lg x9 zh15
          suffices e : Ev (d + 4, 0, 0, 314, 40, [.val (.ref 64), .val (.int p1), .val (.int p2), .val (.int x9)], [.int x10], (126, 120, L, [Y_5, T, H2, H, RU, RV, ST, NS, I0, I1, I2, BO_7, FI, RG, GU_8, PU, MA, MN, MS, OT, SC], [256, 192, 320, 384, w, 256, 576, 640, 704], Lg)) o from ev_call (fun v μ => (d + 4, 0, 0, 314, 40, [.val (.ref 64), .val (.int p1), .val (.int p2), .val (.int x9)], v.toList ++ [], μ)) 2 ze16 e (fun n => Eq.refl _)
          have ze17 := Option.some.inj h
          subst ze17
          exact ev_rete 2 ho (fun n => Eq.refl _)
      | succ q4 =>
        have h := itn h (Nat.succ_ne_zero q4)
        have ze18 := Option.some.inj h
        subst ze18
        subst ho
        exact ev_thr (fun v μ => (d + 4, 0, 0, 314, 23, [.val (.ref 64), .val (.int p1), .val (.int p2), .val a_unk], v.toList ++ [], μ)) 1 ze8 (fun n => Eq.refl _) (fun n => rfl)
    obtain ⟨zt19, zh20, zh4⟩ := bnd zh4
    have zj21 : zt19 = .inl () → Ev (d + 4, 1, 8, 314, 19, [.val (.ref 64), .val (.int p1), .val (.int p2), .val a_unk], [.ref 64], (126, 120, L, [Y_2, T, H2, H, RU, RV, ST, NS, I0, I1, I2, BO, FI, RG, GU, PU, MA, MN, MS, OT, SC], [256, 192, 320, 384, w, r5, 576, 640, 704], Lg)) o := by
      intro ze22
      have zh4 := sum_l zh4 ze22
      exact ev_b 1 (zj5 0 (Option.some.inj zh4) ) (fun n => Eq.refl _)
    by_cases zc23 : p2 < 0
    · have zh20 := itp zh20 zc23
      suffices e : Ev (d + 4, 1, 8, 314, 19, [.val (.ref 64), .val (.int p1), .val (.int p2), .val a_unk], [.ref 64], (126, 120, L, [Y_2, T, H2, H, RU, RV, ST, NS, I0, I1, I2, BO, FI, RG, GU, PU, MA, MN, MS, OT, SC], [256, 192, 320, 384, w, r5, 576, 640, 704], Lg)) o from ev_t (c := p2 < 0) _ _ 3  zc23 e (fun n => Eq.refl _)
      exact ev_b 0 (zj21  (Option.some.inj zh20).symm ) (fun n => Eq.refl _)
    · have zh20 := itn zh20 zc23
      suffices e : Ev (d + 4, 1, 8, 314, 10, [.val (.ref 64), .val (.int p1), .val (.int p2), .val a_unk], [.ref 64], (126, 120, L, [Y_2, T, H2, H, RU, RV, ST, NS, I0, I1, I2, BO, FI, RG, GU, PU, MA, MN, MS, OT, SC], [256, 192, 320, 384, w, r5, 576, 640, 704], Lg)) o from ev_f (c := p2 < 0) _ _ 3  zc23 e (fun n => Eq.refl _)
      by_cases zc24 : 1 < p2
      · have zh20 := itp zh20 zc24
        suffices e : Ev (d + 4, 1, 8, 314, 19, [.val (.ref 64), .val (.int p1), .val (.int p2), .val a_unk], [.ref 64], (126, 120, L, [Y_2, T, H2, H, RU, RV, ST, NS, I0, I1, I2, BO, FI, RG, GU, PU, MA, MN, MS, OT, SC], [256, 192, 320, 384, w, r5, 576, 640, 704], Lg)) o from ev_t (c := 1 < p2) _ _ 3  zc24 e (fun n => Eq.refl _)
        exact ev_b 0 (zj21  (Option.some.inj zh20).symm ) (fun n => Eq.refl _)
      · have zh20 := itn zh20 zc24
        suffices e : Ev (d + 4, 1, 8, 314, 15, [.val (.ref 64), .val (.int p1), .val (.int p2), .val a_unk], [.ref 64], (126, 120, L, [Y_2, T, H2, H, RU, RV, ST, NS, I0, I1, I2, BO, FI, RG, GU, PU, MA, MN, MS, OT, SC], [256, 192, 320, 384, w, r5, 576, 640, 704], Lg)) o from ev_f (c := 1 < p2) _ _ 3  zc24 e (fun n => Eq.refl _)
        have zh25 := sum_r zh4 (Option.some.inj zh20).symm
        exact ev_b 2 (zj5 1 (Option.some.inj zh25) ) (fun n => Eq.refl _)
  | succ q1 =>
    have h := itn h (Nat.succ_ne_zero q1)
    have ze26 := Option.some.inj h
    subst ze26
    subst ho
    exact ev_thr (fun v μ => (d + 4, 1, 8, 314, 5, [.val (.ref 64), .val (.int p1), .val (.int p2), .val a_unk], v.toList ++ [], μ)) 3 ze2 (fun n => Eq.refl _) (fun n => rfl)
set_option maxRecDepth 1000000 in
set_option maxHeartbeats 4000000 in
theorem R_f_Y_news_3 (d : Nat) (Y T H2 H RV RU ST NS I0 I1 I2 BO FI RG GU PU MA MN MS OT SC : Nat → Nat → Int32) (w r5 : Nat) (L : Nat) (Lg : Int64) (p1 : Int32) (p2 : Int32) {r : Nat × Int32 × (Nat → Nat → Int32) × (Nat → Nat → Int32) × (Nat → Nat → Int32) × Nat} (h : f_Y_news Y H NS BO GU 256 r5 p1 p2 = some r) : Ev (d + 4, 2, 16, 314, 0, [.val (.ref 64), .val (.int p1), .val (.int p2), .val a_unk], [], (126, 120, L, [Y, T, H2, H, RV, RU, ST, NS, I0, I1, I2, BO, FI, RG, GU, PU, MA, MN, MS, OT, SC], [256, 192, 384, 320, w, r5, 576, 640, 704], Lg)) ((r.1, a_ov r.1 (.int r.2.1), (126, 120, L, [r.2.2.1, T, H2, H, RV, RU, ST, NS, I0, I1, I2, r.2.2.2.1, FI, RG, r.2.2.2.2.1, PU, MA, MN, MS, OT, SC], [256, 192, 384, 320, w, r.2.2.2.2.2, 576, 640, 704], Lg)) : AOut) := by
  suffices key : ∀ o : AOut, ((r.1, a_ov r.1 (.int r.2.1), (126, 120, L, [r.2.2.1, T, H2, H, RV, RU, ST, NS, I0, I1, I2, r.2.2.2.1, FI, RG, r.2.2.2.2.1, PU, MA, MN, MS, OT, SC], [256, 192, 384, 320, w, r.2.2.2.2.2, 576, 640, 704], Lg)) : AOut) = o → Ev (d + 4, 2, 16, 314, 0, [.val (.ref 64), .val (.int p1), .val (.int p2), .val a_unk], [], (126, 120, L, [Y, T, H2, H, RV, RU, ST, NS, I0, I1, I2, BO, FI, RG, GU, PU, MA, MN, MS, OT, SC], [256, 192, 384, 320, w, r5, 576, 640, 704], Lg)) o from key _ rfl
  intro o ho
  obtain ⟨⟨q1, Y_2⟩, zh1, h⟩ := bnd h
  have zh1 : f_Y_needHour Y H p1 = some (q1, Y_2) := zh1
  have ze2 := R_f_Y_needHour_3 (d + 2) Y T H2 H RV RU ST NS I0 I1 I2 BO FI RG GU PU MA MN MS OT SC w r5 L Lg p1 zh1
  cases q1 with
  | zero =>
    have h := itp h rfl
    suffices e : Ev (d + 4, 1, 8, 314, 5, [.val (.ref 64), .val (.int p1), .val (.int p2), .val a_unk], [], (126, 120, L, [Y_2, T, H2, H, RV, RU, ST, NS, I0, I1, I2, BO, FI, RG, GU, PU, MA, MN, MS, OT, SC], [256, 192, 384, 320, w, r5, 576, 640, 704], Lg)) o from ev_call (fun v μ => (d + 4, 1, 8, 314, 5, [.val (.ref 64), .val (.int p1), .val (.int p2), .val a_unk], v.toList ++ [], μ)) 3 ze2 e (fun n => Eq.refl _)
    obtain ⟨zt3, zh4, h⟩ := bnd h
    have zj5 : ∀ (v3 : Int32), v3 = zt3 → Ev (d + 4, 1, 8, 314, 20, [.val (.ref 64), .val (.int p1), .val (.int p2), .val a_unk], [.int v3, .ref 64], (126, 120, L, [Y_2, T, H2, H, RV, RU, ST, NS, I0, I1, I2, BO, FI, RG, GU, PU, MA, MN, MS, OT, SC], [256, 192, 384, 320, w, r5, 576, 640, 704], Lg)) o := by
      intro v3 ze6
      subst ze6
      obtain ⟨⟨q4, Y_5⟩, zh7, h⟩ := bnd h
      have zh7 : f_Y_refuseUnless Y_2 v3 = some (q4, Y_5) := zh7
      have ze8 := R_f_Y_refuseUnless_3 (d + 3) Y_2 T H2 H RV RU ST NS I0 I1 I2 BO FI RG GU PU MA MN MS OT SC w r5 L Lg v3 zh7
      cases q4 with
      | zero =>
        have h := itp h rfl
        suffices e : Ev (d + 4, 0, 0, 314, 23, [.val (.ref 64), .val (.int p1), .val (.int p2), .val a_unk], [], (126, 120, L, [Y_5, T, H2, H, RV, RU, ST, NS, I0, I1, I2, BO, FI, RG, GU, PU, MA, MN, MS, OT, SC], [256, 192, 384, 320, w, r5, 576, 640, 704], Lg)) o from ev_call (fun v μ => (d + 4, 0, 0, 314, 23, [.val (.ref 64), .val (.int p1), .val (.int p2), .val a_unk], v.toList ++ [], μ)) 1 ze8 e (fun n => Eq.refl _)
        obtain ⟨⟨BO_7, GU_8⟩, zh9, h⟩ := bnd h
        have zh9 : f_Y_lookAhead H NS BO GU = some (BO_7, GU_8) := zh9
        have ze10 := R_f_Y_lookAhead_3 (d + 0) Y_5 T H2 H RV RU ST NS I0 I1 I2 BO FI RG GU PU MA MN MS OT SC w r5 L Lg zh9
        suffices e : Ev (d + 4, 0, 0, 314, 27, [.val (.ref 64), .val (.int p1), .val (.int p2), .val a_unk], [.ref 960], (126, 120, L, [Y_5, T, H2, H, RV, RU, ST, NS, I0, I1, I2, BO_7, FI, RG, GU_8, PU, MA, MN, MS, OT, SC], [256, 192, 384, 320, w, 256, 576, 640, 704], Lg)) o from ev_call (fun v μ => (d + 4, 0, 0, 314, 27, [.val (.ref 64), .val (.int p1), .val (.int p2), .val a_unk], v.toList ++ [], μ)) 2 ze10 e (fun n => Eq.refl _)
        obtain ⟨x9, zh11, h⟩ := bnd h
        have zh11 : f_Guide_missers H GU_8 p1 = some x9 := zh11
        have ze12 := R_f_Guide_missers_1 (d + 1) Y_5 T H2 H RV RU ST NS I0 I1 I2 BO_7 FI RG GU_8 PU MA MN MS OT SC 256 192 384 320 w 576 640 704 L Lg p1 zh11
        suffices e : Ev (d + 4, 0, 0, 314, 31, [.val (.ref 64), .val (.int p1), .val (.int p2), .val a_unk], [.int x9], (126, 120, L, [Y_5, T, H2, H, RV, RU, ST, NS, I0, I1, I2, BO_7, FI, RG, GU_8, PU, MA, MN, MS, OT, SC], [256, 192, 384, 320, w, 256, 576, 640, 704], Lg)) o from ev_call (fun v μ => (d + 4, 0, 0, 314, 31, [.val (.ref 64), .val (.int p1), .val (.int p2), .val a_unk], v.toList ++ [], μ)) 2 ze12 e (fun n => Eq.refl _)
        by_cases zc13 : p2 ≠ 0
        · have h := itp h zc13
          suffices e : Ev (d + 4, 0, 0, 314, 43, [.val (.ref 64), .val (.int p1), .val (.int p2), .val (.int x9)], [], (126, 120, L, [Y_5, T, H2, H, RV, RU, ST, NS, I0, I1, I2, BO_7, FI, RG, GU_8, PU, MA, MN, MS, OT, SC], [256, 192, 384, 320, w, 256, 576, 640, 704], Lg)) o from ev_t (c := p2 ≠ 0) _ _ 3  zc13 e (fun n => Eq.refl _)
          have ze14 := Option.some.inj h
          subst ze14
          exact ev_rete 2 ho (fun n => Eq.refl _)
        · have h := itn h zc13
          suffices e : Ev (d + 4, 0, 0, 314, 36, [.val (.ref 64), .val (.int p1), .val (.int p2), .val (.int x9)], [], (126, 120, L, [Y_5, T, H2, H, RV, RU, ST, NS, I0, I1, I2, BO_7, FI, RG, GU_8, PU, MA, MN, MS, OT, SC], [256, 192, 384, 320, w, 256, 576, 640, 704], Lg)) o from ev_f (c := p2 ≠ 0) _ _ 3  zc13 e (fun n => Eq.refl _)
          obtain ⟨x10, zh15, h⟩ := bnd h
          have zh15 : f_Integer_bitCount x9 = some x10 := zh15
          have ze16 := R_f_Integer_bitCount_0 (d + 3) Y_5 T H2 H RV RU ST NS I0 I1 I2 BO_7 FI RG GU_8 PU MA MN MS OT SC 256 192 384 320 w 256 576 640 704 L Lg x9 zh15
          suffices e : Ev (d + 4, 0, 0, 314, 40, [.val (.ref 64), .val (.int p1), .val (.int p2), .val (.int x9)], [.int x10], (126, 120, L, [Y_5, T, H2, H, RV, RU, ST, NS, I0, I1, I2, BO_7, FI, RG, GU_8, PU, MA, MN, MS, OT, SC], [256, 192, 384, 320, w, 256, 576, 640, 704], Lg)) o from ev_call (fun v μ => (d + 4, 0, 0, 314, 40, [.val (.ref 64), .val (.int p1), .val (.int p2), .val (.int x9)], v.toList ++ [], μ)) 2 ze16 e (fun n => Eq.refl _)
          have ze17 := Option.some.inj h
          subst ze17
          exact ev_rete 2 ho (fun n => Eq.refl _)
      | succ q4 =>
        have h := itn h (Nat.succ_ne_zero q4)
        have ze18 := Option.some.inj h
        subst ze18
        subst ho
        exact ev_thr (fun v μ => (d + 4, 0, 0, 314, 23, [.val (.ref 64), .val (.int p1), .val (.int p2), .val a_unk], v.toList ++ [], μ)) 1 ze8 (fun n => Eq.refl _) (fun n => rfl)
    obtain ⟨zt19, zh20, zh4⟩ := bnd zh4
    have zj21 : zt19 = .inl () → Ev (d + 4, 1, 8, 314, 19, [.val (.ref 64), .val (.int p1), .val (.int p2), .val a_unk], [.ref 64], (126, 120, L, [Y_2, T, H2, H, RV, RU, ST, NS, I0, I1, I2, BO, FI, RG, GU, PU, MA, MN, MS, OT, SC], [256, 192, 384, 320, w, r5, 576, 640, 704], Lg)) o := by
      intro ze22
      have zh4 := sum_l zh4 ze22
      exact ev_b 1 (zj5 0 (Option.some.inj zh4) ) (fun n => Eq.refl _)
    by_cases zc23 : p2 < 0
    · have zh20 := itp zh20 zc23
      suffices e : Ev (d + 4, 1, 8, 314, 19, [.val (.ref 64), .val (.int p1), .val (.int p2), .val a_unk], [.ref 64], (126, 120, L, [Y_2, T, H2, H, RV, RU, ST, NS, I0, I1, I2, BO, FI, RG, GU, PU, MA, MN, MS, OT, SC], [256, 192, 384, 320, w, r5, 576, 640, 704], Lg)) o from ev_t (c := p2 < 0) _ _ 3  zc23 e (fun n => Eq.refl _)
      exact ev_b 0 (zj21  (Option.some.inj zh20).symm ) (fun n => Eq.refl _)
    · have zh20 := itn zh20 zc23
      suffices e : Ev (d + 4, 1, 8, 314, 10, [.val (.ref 64), .val (.int p1), .val (.int p2), .val a_unk], [.ref 64], (126, 120, L, [Y_2, T, H2, H, RV, RU, ST, NS, I0, I1, I2, BO, FI, RG, GU, PU, MA, MN, MS, OT, SC], [256, 192, 384, 320, w, r5, 576, 640, 704], Lg)) o from ev_f (c := p2 < 0) _ _ 3  zc23 e (fun n => Eq.refl _)
      by_cases zc24 : 1 < p2
      · have zh20 := itp zh20 zc24
        suffices e : Ev (d + 4, 1, 8, 314, 19, [.val (.ref 64), .val (.int p1), .val (.int p2), .val a_unk], [.ref 64], (126, 120, L, [Y_2, T, H2, H, RV, RU, ST, NS, I0, I1, I2, BO, FI, RG, GU, PU, MA, MN, MS, OT, SC], [256, 192, 384, 320, w, r5, 576, 640, 704], Lg)) o from ev_t (c := 1 < p2) _ _ 3  zc24 e (fun n => Eq.refl _)
        exact ev_b 0 (zj21  (Option.some.inj zh20).symm ) (fun n => Eq.refl _)
      · have zh20 := itn zh20 zc24
        suffices e : Ev (d + 4, 1, 8, 314, 15, [.val (.ref 64), .val (.int p1), .val (.int p2), .val a_unk], [.ref 64], (126, 120, L, [Y_2, T, H2, H, RV, RU, ST, NS, I0, I1, I2, BO, FI, RG, GU, PU, MA, MN, MS, OT, SC], [256, 192, 384, 320, w, r5, 576, 640, 704], Lg)) o from ev_f (c := 1 < p2) _ _ 3  zc24 e (fun n => Eq.refl _)
        have zh25 := sum_r zh4 (Option.some.inj zh20).symm
        exact ev_b 2 (zj5 1 (Option.some.inj zh25) ) (fun n => Eq.refl _)
  | succ q1 =>
    have h := itn h (Nat.succ_ne_zero q1)
    have ze26 := Option.some.inj h
    subst ze26
    subst ho
    exact ev_thr (fun v μ => (d + 4, 1, 8, 314, 5, [.val (.ref 64), .val (.int p1), .val (.int p2), .val a_unk], v.toList ++ [], μ)) 3 ze2 (fun n => Eq.refl _) (fun n => rfl)
set_option maxRecDepth 1000000 in
set_option maxHeartbeats 4000000 in
theorem R_f_Y_latest_0 (d : Nat) (Y T H H2 RU RV ST NS I0 I1 I2 BO FI RG GU PU MA MN MS OT SC : Nat → Nat → Int32) (w r5 : Nat) (L : Nat) (Lg : Int64) {r : Int32 × (Nat → Nat → Int32) × (Nat → Nat → Int32)} (h : f_Y_latest H NS BO GU = some r) : Ev (d + 4, 0, 0, 315, 0, [.val (.ref 64), .val a_unk, .val a_unk], [], (126, 120, L, [Y, T, H, H2, RU, RV, ST, NS, I0, I1, I2, BO, FI, RG, GU, PU, MA, MN, MS, OT, SC], [192, 256, 320, 384, w, r5, 576, 640, 704], Lg)) ((0, some (.int r.1), (126, 120, L, [Y, T, H, H2, RU, RV, ST, NS, I0, I1, I2, r.2.1, FI, RG, r.2.2, PU, MA, MN, MS, OT, SC], [192, 256, 320, 384, w, 192, 576, 640, 704], Lg)) : AOut) := by
  suffices key : ∀ o : AOut, ((0, some (.int r.1), (126, 120, L, [Y, T, H, H2, RU, RV, ST, NS, I0, I1, I2, r.2.1, FI, RG, r.2.2, PU, MA, MN, MS, OT, SC], [192, 256, 320, 384, w, 192, 576, 640, 704], Lg)) : AOut) = o → Ev (d + 4, 0, 0, 315, 0, [.val (.ref 64), .val a_unk, .val a_unk], [], (126, 120, L, [Y, T, H, H2, RU, RV, ST, NS, I0, I1, I2, BO, FI, RG, GU, PU, MA, MN, MS, OT, SC], [192, 256, 320, 384, w, r5, 576, 640, 704], Lg)) o from key _ rfl
  intro o ho
  obtain ⟨⟨BO_2, GU_3⟩, zh1, h⟩ := bnd h
  have zh1 : f_Y_lookAhead H NS BO GU = some (BO_2, GU_3) := zh1
  have ze2 := R_f_Y_lookAhead_0 (d + 0) Y T H H2 RU RV ST NS I0 I1 I2 BO FI RG GU PU MA MN MS OT SC w r5 L Lg zh1
  suffices e : Ev (d + 4, 0, 0, 315, 4, [.val (.ref 64), .val a_unk, .val a_unk], [.ref 960], (126, 120, L, [Y, T, H, H2, RU, RV, ST, NS, I0, I1, I2, BO_2, FI, RG, GU_3, PU, MA, MN, MS, OT, SC], [192, 256, 320, 384, w, 192, 576, 640, 704], Lg)) o from ev_call (fun v μ => (d + 4, 0, 0, 315, 4, [.val (.ref 64), .val a_unk, .val a_unk], v.toList ++ [], μ)) 2 ze2 e (fun n => Eq.refl _)
  suffices e : Ev (d + 4, 0, 0, 315, 9, [.val (.ref 64), .val (.ref 960), .val a_unk], [.ref 192], (126, 120, L, [Y, T, H, H2, RU, RV, ST, NS, I0, I1, I2, BO_2, FI, RG, GU_3, PU, MA, MN, MS, OT, SC], [192, 256, 320, 384, w, 192, 576, 640, 704], Lg)) o from ev_b 3 e (fun n => Eq.refl _)
  obtain ⟨zb3, zh4, h⟩ := bnd h
  suffices e : Ev (d + 4, 0, 0, 315, 15, [.val (.ref 64), .val (.ref 960), .val (.int ((H 0 0) - 1))], [], (126, 120, L, [Y, T, H, H2, RU, RV, ST, NS, I0, I1, I2, BO_2, FI, RG, GU_3, PU, MA, MN, MS, OT, SC], [192, 256, 320, 384, w, 192, 576, 640, 704], Lg)) o from ev_b 4 e (fun n => Eq.refl _)
  refine ev_loop (δ := Unit) (fun a j => (d + 4, 0, 0, 315, 15, [.val (.ref 64), .val (.ref 960), .val (.int a)], [], (126, 120, L, [Y, T, H, H2, RU, RV, ST, NS, I0, I1, I2, BO_2, FI, RG, GU_3, PU, MA, MN, MS, OT, SC], [192, 256, 320, 384, w, 192, 576, 640, 704], Lg))) (fun b => sumE b (fun b => ∀ s6 : Value, Ev (d + 4, 0, 0, 315, 35, [.val (.ref 64), .val (.ref 960), .val s6], [], (126, 120, L, [Y, T, H, H2, RU, RV, ST, NS, I0, I1, I2, BO_2, FI, RG, GU_3, PU, MA, MN, MS, OT, SC], [192, 256, 320, 384, w, 192, 576, 640, 704], Lg)) o) (fun b => ((0, some (.int b.1), (126, 120, L, [Y, T, H, H2, RU, RV, ST, NS, I0, I1, I2, b.2.1, FI, RG, b.2.2, PU, MA, MN, MS, OT, SC], [192, 256, 320, 384, w, 192, 576, 640, 704], Lg)) : AOut) = o)) ?_ a_F ((H 0 0) - 1) zb3 zh4 ?_ ()
  · rintro v4 zr8 zh7 zi5 zx6 ⟨⟩
    have zh7 : f_Y_latest_l15 H GU_3 BO_2 v4 = some zr8 := zh7
    by_cases zc9 : v4 < 0
    · have zh7 := itp zh7 zc9
      suffices e : Ev (d + 4, 0, 0, 315, 35, [.val (.ref 64), .val (.ref 960), .val (.int v4)], [], (126, 120, L, [Y, T, H, H2, RU, RV, ST, NS, I0, I1, I2, BO_2, FI, RG, GU_3, PU, MA, MN, MS, OT, SC], [192, 256, 320, 384, w, 192, 576, 640, 704], Lg)) o from ev_t (c := v4 < 0) _ _ 2  zc9 e (fun n => Eq.refl _)
      exact ev_b 0 (zx6 _ (Option.some.inj zh7).symm (.int v4)) (fun n => Eq.refl _)
    · have zh7 := itn zh7 zc9
      suffices e : Ev (d + 4, 0, 0, 315, 19, [.val (.ref 64), .val (.ref 960), .val (.int v4)], [], (126, 120, L, [Y, T, H, H2, RU, RV, ST, NS, I0, I1, I2, BO_2, FI, RG, GU_3, PU, MA, MN, MS, OT, SC], [192, 256, 320, 384, w, 192, 576, 640, 704], Lg)) o from ev_f (c := v4 < 0) _ _ 2  zc9 e (fun n => Eq.refl _)
      obtain ⟨x5, zh10, zh7⟩ := bnd zh7
      have zh10 : f_Guide_missers H GU_3 v4 = some x5 := zh10
      have ze11 := R_f_Guide_missers_0 (d + 1) Y T H H2 RU RV ST NS I0 I1 I2 BO_2 FI RG GU_3 PU MA MN MS OT SC 192 256 320 384 w 576 640 704 L Lg v4 zh10
      suffices e : Ev (d + 4, 0, 0, 315, 24, [.val (.ref 64), .val (.ref 960), .val (.int v4)], [.int x5], (126, 120, L, [Y, T, H, H2, RU, RV, ST, NS, I0, I1, I2, BO_2, FI, RG, GU_3, PU, MA, MN, MS, OT, SC], [192, 256, 320, 384, w, 192, 576, 640, 704], Lg)) o from ev_call (fun v μ => (d + 4, 0, 0, 315, 24, [.val (.ref 64), .val (.ref 960), .val (.int v4)], v.toList ++ [], μ)) 3 ze11 e (fun n => Eq.refl _)
      by_cases zc12 : x5 ≠ 0
      · have zh7 := itp zh7 zc12
        suffices e : Ev (d + 4, 0, 0, 315, 29, [.val (.ref 64), .val (.ref 960), .val (.int v4)], [], (126, 120, L, [Y, T, H, H2, RU, RV, ST, NS, I0, I1, I2, BO_2, FI, RG, GU_3, PU, MA, MN, MS, OT, SC], [192, 256, 320, 384, w, 192, 576, 640, 704], Lg)) o from ev_t (c := x5 ≠ 0) _ _ 1  zc12 e (fun n => Eq.refl _)
        suffices e : Ev (d + 4, 0, 0, 315, 32, [.val (.ref 64), .val (.ref 960), .val (.int (v4 + (-1)))], [], (126, 120, L, [Y, T, H, H2, RU, RV, ST, NS, I0, I1, I2, BO_2, FI, RG, GU_3, PU, MA, MN, MS, OT, SC], [192, 256, 320, 384, w, 192, 576, 640, 704], Lg)) o from ev_b 1 e (fun n => Eq.refl _)
        exact ev_b 1 (zi5 _ (Option.some.inj zh7).symm ()) (fun n => Eq.refl _)
      · have zh7 := itn zh7 zc12
        suffices e : Ev (d + 4, 0, 0, 315, 27, [.val (.ref 64), .val (.ref 960), .val (.int v4)], [], (126, 120, L, [Y, T, H, H2, RU, RV, ST, NS, I0, I1, I2, BO_2, FI, RG, GU_3, PU, MA, MN, MS, OT, SC], [192, 256, 320, 384, w, 192, 576, 640, 704], Lg)) o from ev_f (c := x5 ≠ 0) _ _ 1  zc12 e (fun n => Eq.refl _)
        exact ev_rete 2 (zx6 _ (Option.some.inj zh7).symm) (fun n => Eq.refl _)
  · rcases zb3 with ⟨⟩ | zr8
    · intro s6
      have ze13 := Option.some.inj h
      subst ze13
      exact ev_rete 2 ho (fun n => Eq.refl _)
    · have zh14 : some zr8 = some r := h
      exact (congrArg (fun q => ((0, some (.int q.1), (126, 120, L, [Y, T, H, H2, RU, RV, ST, NS, I0, I1, I2, q.2.1, FI, RG, q.2.2, PU, MA, MN, MS, OT, SC], [192, 256, 320, 384, w, 192, 576, 640, 704], Lg)) : AOut)) (Option.some.inj zh14)).trans ho
set_option maxRecDepth 1000000 in
set_option maxHeartbeats 4000000 in
theorem R_f_Y_latest_1 (d : Nat) (Y T H H2 RV RU ST NS I0 I1 I2 BO FI RG GU PU MA MN MS OT SC : Nat → Nat → Int32) (w r5 : Nat) (L : Nat) (Lg : Int64) {r : Int32 × (Nat → Nat → Int32) × (Nat → Nat → Int32)} (h : f_Y_latest H NS BO GU = some r) : Ev (d + 4, 0, 0, 315, 0, [.val (.ref 64), .val a_unk, .val a_unk], [], (126, 120, L, [Y, T, H, H2, RV, RU, ST, NS, I0, I1, I2, BO, FI, RG, GU, PU, MA, MN, MS, OT, SC], [192, 256, 384, 320, w, r5, 576, 640, 704], Lg)) ((0, some (.int r.1), (126, 120, L, [Y, T, H, H2, RV, RU, ST, NS, I0, I1, I2, r.2.1, FI, RG, r.2.2, PU, MA, MN, MS, OT, SC], [192, 256, 384, 320, w, 192, 576, 640, 704], Lg)) : AOut) := by
  suffices key : ∀ o : AOut, ((0, some (.int r.1), (126, 120, L, [Y, T, H, H2, RV, RU, ST, NS, I0, I1, I2, r.2.1, FI, RG, r.2.2, PU, MA, MN, MS, OT, SC], [192, 256, 384, 320, w, 192, 576, 640, 704], Lg)) : AOut) = o → Ev (d + 4, 0, 0, 315, 0, [.val (.ref 64), .val a_unk, .val a_unk], [], (126, 120, L, [Y, T, H, H2, RV, RU, ST, NS, I0, I1, I2, BO, FI, RG, GU, PU, MA, MN, MS, OT, SC], [192, 256, 384, 320, w, r5, 576, 640, 704], Lg)) o from key _ rfl
  intro o ho
  obtain ⟨⟨BO_2, GU_3⟩, zh1, h⟩ := bnd h
  have zh1 : f_Y_lookAhead H NS BO GU = some (BO_2, GU_3) := zh1
  have ze2 := R_f_Y_lookAhead_1 (d + 0) Y T H H2 RV RU ST NS I0 I1 I2 BO FI RG GU PU MA MN MS OT SC w r5 L Lg zh1
  suffices e : Ev (d + 4, 0, 0, 315, 4, [.val (.ref 64), .val a_unk, .val a_unk], [.ref 960], (126, 120, L, [Y, T, H, H2, RV, RU, ST, NS, I0, I1, I2, BO_2, FI, RG, GU_3, PU, MA, MN, MS, OT, SC], [192, 256, 384, 320, w, 192, 576, 640, 704], Lg)) o from ev_call (fun v μ => (d + 4, 0, 0, 315, 4, [.val (.ref 64), .val a_unk, .val a_unk], v.toList ++ [], μ)) 2 ze2 e (fun n => Eq.refl _)
  suffices e : Ev (d + 4, 0, 0, 315, 9, [.val (.ref 64), .val (.ref 960), .val a_unk], [.ref 192], (126, 120, L, [Y, T, H, H2, RV, RU, ST, NS, I0, I1, I2, BO_2, FI, RG, GU_3, PU, MA, MN, MS, OT, SC], [192, 256, 384, 320, w, 192, 576, 640, 704], Lg)) o from ev_b 3 e (fun n => Eq.refl _)
  obtain ⟨zb3, zh4, h⟩ := bnd h
  suffices e : Ev (d + 4, 0, 0, 315, 15, [.val (.ref 64), .val (.ref 960), .val (.int ((H 0 0) - 1))], [], (126, 120, L, [Y, T, H, H2, RV, RU, ST, NS, I0, I1, I2, BO_2, FI, RG, GU_3, PU, MA, MN, MS, OT, SC], [192, 256, 384, 320, w, 192, 576, 640, 704], Lg)) o from ev_b 4 e (fun n => Eq.refl _)
  refine ev_loop (δ := Unit) (fun a j => (d + 4, 0, 0, 315, 15, [.val (.ref 64), .val (.ref 960), .val (.int a)], [], (126, 120, L, [Y, T, H, H2, RV, RU, ST, NS, I0, I1, I2, BO_2, FI, RG, GU_3, PU, MA, MN, MS, OT, SC], [192, 256, 384, 320, w, 192, 576, 640, 704], Lg))) (fun b => sumE b (fun b => ∀ s6 : Value, Ev (d + 4, 0, 0, 315, 35, [.val (.ref 64), .val (.ref 960), .val s6], [], (126, 120, L, [Y, T, H, H2, RV, RU, ST, NS, I0, I1, I2, BO_2, FI, RG, GU_3, PU, MA, MN, MS, OT, SC], [192, 256, 384, 320, w, 192, 576, 640, 704], Lg)) o) (fun b => ((0, some (.int b.1), (126, 120, L, [Y, T, H, H2, RV, RU, ST, NS, I0, I1, I2, b.2.1, FI, RG, b.2.2, PU, MA, MN, MS, OT, SC], [192, 256, 384, 320, w, 192, 576, 640, 704], Lg)) : AOut) = o)) ?_ a_F ((H 0 0) - 1) zb3 zh4 ?_ ()
  · rintro v4 zr8 zh7 zi5 zx6 ⟨⟩
    have zh7 : f_Y_latest_l15 H GU_3 BO_2 v4 = some zr8 := zh7
    by_cases zc9 : v4 < 0
    · have zh7 := itp zh7 zc9
      suffices e : Ev (d + 4, 0, 0, 315, 35, [.val (.ref 64), .val (.ref 960), .val (.int v4)], [], (126, 120, L, [Y, T, H, H2, RV, RU, ST, NS, I0, I1, I2, BO_2, FI, RG, GU_3, PU, MA, MN, MS, OT, SC], [192, 256, 384, 320, w, 192, 576, 640, 704], Lg)) o from ev_t (c := v4 < 0) _ _ 2  zc9 e (fun n => Eq.refl _)
      exact ev_b 0 (zx6 _ (Option.some.inj zh7).symm (.int v4)) (fun n => Eq.refl _)
    · have zh7 := itn zh7 zc9
      suffices e : Ev (d + 4, 0, 0, 315, 19, [.val (.ref 64), .val (.ref 960), .val (.int v4)], [], (126, 120, L, [Y, T, H, H2, RV, RU, ST, NS, I0, I1, I2, BO_2, FI, RG, GU_3, PU, MA, MN, MS, OT, SC], [192, 256, 384, 320, w, 192, 576, 640, 704], Lg)) o from ev_f (c := v4 < 0) _ _ 2  zc9 e (fun n => Eq.refl _)
      obtain ⟨x5, zh10, zh7⟩ := bnd zh7
      have zh10 : f_Guide_missers H GU_3 v4 = some x5 := zh10
      have ze11 := R_f_Guide_missers_0 (d + 1) Y T H H2 RV RU ST NS I0 I1 I2 BO_2 FI RG GU_3 PU MA MN MS OT SC 192 256 384 320 w 576 640 704 L Lg v4 zh10
      suffices e : Ev (d + 4, 0, 0, 315, 24, [.val (.ref 64), .val (.ref 960), .val (.int v4)], [.int x5], (126, 120, L, [Y, T, H, H2, RV, RU, ST, NS, I0, I1, I2, BO_2, FI, RG, GU_3, PU, MA, MN, MS, OT, SC], [192, 256, 384, 320, w, 192, 576, 640, 704], Lg)) o from ev_call (fun v μ => (d + 4, 0, 0, 315, 24, [.val (.ref 64), .val (.ref 960), .val (.int v4)], v.toList ++ [], μ)) 3 ze11 e (fun n => Eq.refl _)
      by_cases zc12 : x5 ≠ 0
      · have zh7 := itp zh7 zc12
        suffices e : Ev (d + 4, 0, 0, 315, 29, [.val (.ref 64), .val (.ref 960), .val (.int v4)], [], (126, 120, L, [Y, T, H, H2, RV, RU, ST, NS, I0, I1, I2, BO_2, FI, RG, GU_3, PU, MA, MN, MS, OT, SC], [192, 256, 384, 320, w, 192, 576, 640, 704], Lg)) o from ev_t (c := x5 ≠ 0) _ _ 1  zc12 e (fun n => Eq.refl _)
        suffices e : Ev (d + 4, 0, 0, 315, 32, [.val (.ref 64), .val (.ref 960), .val (.int (v4 + (-1)))], [], (126, 120, L, [Y, T, H, H2, RV, RU, ST, NS, I0, I1, I2, BO_2, FI, RG, GU_3, PU, MA, MN, MS, OT, SC], [192, 256, 384, 320, w, 192, 576, 640, 704], Lg)) o from ev_b 1 e (fun n => Eq.refl _)
        exact ev_b 1 (zi5 _ (Option.some.inj zh7).symm ()) (fun n => Eq.refl _)
      · have zh7 := itn zh7 zc12
        suffices e : Ev (d + 4, 0, 0, 315, 27, [.val (.ref 64), .val (.ref 960), .val (.int v4)], [], (126, 120, L, [Y, T, H, H2, RV, RU, ST, NS, I0, I1, I2, BO_2, FI, RG, GU_3, PU, MA, MN, MS, OT, SC], [192, 256, 384, 320, w, 192, 576, 640, 704], Lg)) o from ev_f (c := x5 ≠ 0) _ _ 1  zc12 e (fun n => Eq.refl _)
        exact ev_rete 2 (zx6 _ (Option.some.inj zh7).symm) (fun n => Eq.refl _)
  · rcases zb3 with ⟨⟩ | zr8
    · intro s6
      have ze13 := Option.some.inj h
      subst ze13
      exact ev_rete 2 ho (fun n => Eq.refl _)
    · have zh14 : some zr8 = some r := h
      exact (congrArg (fun q => ((0, some (.int q.1), (126, 120, L, [Y, T, H, H2, RV, RU, ST, NS, I0, I1, I2, q.2.1, FI, RG, q.2.2, PU, MA, MN, MS, OT, SC], [192, 256, 384, 320, w, 192, 576, 640, 704], Lg)) : AOut)) (Option.some.inj zh14)).trans ho
set_option maxRecDepth 1000000 in
set_option maxHeartbeats 4000000 in
theorem R_f_Y_latest_2 (d : Nat) (Y T H2 H RU RV ST NS I0 I1 I2 BO FI RG GU PU MA MN MS OT SC : Nat → Nat → Int32) (w r5 : Nat) (L : Nat) (Lg : Int64) {r : Int32 × (Nat → Nat → Int32) × (Nat → Nat → Int32)} (h : f_Y_latest H NS BO GU = some r) : Ev (d + 4, 0, 0, 315, 0, [.val (.ref 64), .val a_unk, .val a_unk], [], (126, 120, L, [Y, T, H2, H, RU, RV, ST, NS, I0, I1, I2, BO, FI, RG, GU, PU, MA, MN, MS, OT, SC], [256, 192, 320, 384, w, r5, 576, 640, 704], Lg)) ((0, some (.int r.1), (126, 120, L, [Y, T, H2, H, RU, RV, ST, NS, I0, I1, I2, r.2.1, FI, RG, r.2.2, PU, MA, MN, MS, OT, SC], [256, 192, 320, 384, w, 256, 576, 640, 704], Lg)) : AOut) := by
  suffices key : ∀ o : AOut, ((0, some (.int r.1), (126, 120, L, [Y, T, H2, H, RU, RV, ST, NS, I0, I1, I2, r.2.1, FI, RG, r.2.2, PU, MA, MN, MS, OT, SC], [256, 192, 320, 384, w, 256, 576, 640, 704], Lg)) : AOut) = o → Ev (d + 4, 0, 0, 315, 0, [.val (.ref 64), .val a_unk, .val a_unk], [], (126, 120, L, [Y, T, H2, H, RU, RV, ST, NS, I0, I1, I2, BO, FI, RG, GU, PU, MA, MN, MS, OT, SC], [256, 192, 320, 384, w, r5, 576, 640, 704], Lg)) o from key _ rfl
  intro o ho
  obtain ⟨⟨BO_2, GU_3⟩, zh1, h⟩ := bnd h
  have zh1 : f_Y_lookAhead H NS BO GU = some (BO_2, GU_3) := zh1
  have ze2 := R_f_Y_lookAhead_2 (d + 0) Y T H2 H RU RV ST NS I0 I1 I2 BO FI RG GU PU MA MN MS OT SC w r5 L Lg zh1
  suffices e : Ev (d + 4, 0, 0, 315, 4, [.val (.ref 64), .val a_unk, .val a_unk], [.ref 960], (126, 120, L, [Y, T, H2, H, RU, RV, ST, NS, I0, I1, I2, BO_2, FI, RG, GU_3, PU, MA, MN, MS, OT, SC], [256, 192, 320, 384, w, 256, 576, 640, 704], Lg)) o from ev_call (fun v μ => (d + 4, 0, 0, 315, 4, [.val (.ref 64), .val a_unk, .val a_unk], v.toList ++ [], μ)) 2 ze2 e (fun n => Eq.refl _)
  suffices e : Ev (d + 4, 0, 0, 315, 9, [.val (.ref 64), .val (.ref 960), .val a_unk], [.ref 256], (126, 120, L, [Y, T, H2, H, RU, RV, ST, NS, I0, I1, I2, BO_2, FI, RG, GU_3, PU, MA, MN, MS, OT, SC], [256, 192, 320, 384, w, 256, 576, 640, 704], Lg)) o from ev_b 3 e (fun n => Eq.refl _)
  obtain ⟨zb3, zh4, h⟩ := bnd h
  suffices e : Ev (d + 4, 0, 0, 315, 15, [.val (.ref 64), .val (.ref 960), .val (.int ((H 0 0) - 1))], [], (126, 120, L, [Y, T, H2, H, RU, RV, ST, NS, I0, I1, I2, BO_2, FI, RG, GU_3, PU, MA, MN, MS, OT, SC], [256, 192, 320, 384, w, 256, 576, 640, 704], Lg)) o from ev_b 4 e (fun n => Eq.refl _)
  refine ev_loop (δ := Unit) (fun a j => (d + 4, 0, 0, 315, 15, [.val (.ref 64), .val (.ref 960), .val (.int a)], [], (126, 120, L, [Y, T, H2, H, RU, RV, ST, NS, I0, I1, I2, BO_2, FI, RG, GU_3, PU, MA, MN, MS, OT, SC], [256, 192, 320, 384, w, 256, 576, 640, 704], Lg))) (fun b => sumE b (fun b => ∀ s6 : Value, Ev (d + 4, 0, 0, 315, 35, [.val (.ref 64), .val (.ref 960), .val s6], [], (126, 120, L, [Y, T, H2, H, RU, RV, ST, NS, I0, I1, I2, BO_2, FI, RG, GU_3, PU, MA, MN, MS, OT, SC], [256, 192, 320, 384, w, 256, 576, 640, 704], Lg)) o) (fun b => ((0, some (.int b.1), (126, 120, L, [Y, T, H2, H, RU, RV, ST, NS, I0, I1, I2, b.2.1, FI, RG, b.2.2, PU, MA, MN, MS, OT, SC], [256, 192, 320, 384, w, 256, 576, 640, 704], Lg)) : AOut) = o)) ?_ a_F ((H 0 0) - 1) zb3 zh4 ?_ ()
  · rintro v4 zr8 zh7 zi5 zx6 ⟨⟩
    have zh7 : f_Y_latest_l15 H GU_3 BO_2 v4 = some zr8 := zh7
    by_cases zc9 : v4 < 0
    · have zh7 := itp zh7 zc9
      suffices e : Ev (d + 4, 0, 0, 315, 35, [.val (.ref 64), .val (.ref 960), .val (.int v4)], [], (126, 120, L, [Y, T, H2, H, RU, RV, ST, NS, I0, I1, I2, BO_2, FI, RG, GU_3, PU, MA, MN, MS, OT, SC], [256, 192, 320, 384, w, 256, 576, 640, 704], Lg)) o from ev_t (c := v4 < 0) _ _ 2  zc9 e (fun n => Eq.refl _)
      exact ev_b 0 (zx6 _ (Option.some.inj zh7).symm (.int v4)) (fun n => Eq.refl _)
    · have zh7 := itn zh7 zc9
      suffices e : Ev (d + 4, 0, 0, 315, 19, [.val (.ref 64), .val (.ref 960), .val (.int v4)], [], (126, 120, L, [Y, T, H2, H, RU, RV, ST, NS, I0, I1, I2, BO_2, FI, RG, GU_3, PU, MA, MN, MS, OT, SC], [256, 192, 320, 384, w, 256, 576, 640, 704], Lg)) o from ev_f (c := v4 < 0) _ _ 2  zc9 e (fun n => Eq.refl _)
      obtain ⟨x5, zh10, zh7⟩ := bnd zh7
      have zh10 : f_Guide_missers H GU_3 v4 = some x5 := zh10
      have ze11 := R_f_Guide_missers_1 (d + 1) Y T H2 H RU RV ST NS I0 I1 I2 BO_2 FI RG GU_3 PU MA MN MS OT SC 256 192 320 384 w 576 640 704 L Lg v4 zh10
      suffices e : Ev (d + 4, 0, 0, 315, 24, [.val (.ref 64), .val (.ref 960), .val (.int v4)], [.int x5], (126, 120, L, [Y, T, H2, H, RU, RV, ST, NS, I0, I1, I2, BO_2, FI, RG, GU_3, PU, MA, MN, MS, OT, SC], [256, 192, 320, 384, w, 256, 576, 640, 704], Lg)) o from ev_call (fun v μ => (d + 4, 0, 0, 315, 24, [.val (.ref 64), .val (.ref 960), .val (.int v4)], v.toList ++ [], μ)) 3 ze11 e (fun n => Eq.refl _)
      by_cases zc12 : x5 ≠ 0
      · have zh7 := itp zh7 zc12
        suffices e : Ev (d + 4, 0, 0, 315, 29, [.val (.ref 64), .val (.ref 960), .val (.int v4)], [], (126, 120, L, [Y, T, H2, H, RU, RV, ST, NS, I0, I1, I2, BO_2, FI, RG, GU_3, PU, MA, MN, MS, OT, SC], [256, 192, 320, 384, w, 256, 576, 640, 704], Lg)) o from ev_t (c := x5 ≠ 0) _ _ 1  zc12 e (fun n => Eq.refl _)
        suffices e : Ev (d + 4, 0, 0, 315, 32, [.val (.ref 64), .val (.ref 960), .val (.int (v4 + (-1)))], [], (126, 120, L, [Y, T, H2, H, RU, RV, ST, NS, I0, I1, I2, BO_2, FI, RG, GU_3, PU, MA, MN, MS, OT, SC], [256, 192, 320, 384, w, 256, 576, 640, 704], Lg)) o from ev_b 1 e (fun n => Eq.refl _)
        exact ev_b 1 (zi5 _ (Option.some.inj zh7).symm ()) (fun n => Eq.refl _)
      · have zh7 := itn zh7 zc12
        suffices e : Ev (d + 4, 0, 0, 315, 27, [.val (.ref 64), .val (.ref 960), .val (.int v4)], [], (126, 120, L, [Y, T, H2, H, RU, RV, ST, NS, I0, I1, I2, BO_2, FI, RG, GU_3, PU, MA, MN, MS, OT, SC], [256, 192, 320, 384, w, 256, 576, 640, 704], Lg)) o from ev_f (c := x5 ≠ 0) _ _ 1  zc12 e (fun n => Eq.refl _)
        exact ev_rete 2 (zx6 _ (Option.some.inj zh7).symm) (fun n => Eq.refl _)
  · rcases zb3 with ⟨⟩ | zr8
    · intro s6
      have ze13 := Option.some.inj h
      subst ze13
      exact ev_rete 2 ho (fun n => Eq.refl _)
    · have zh14 : some zr8 = some r := h
      exact (congrArg (fun q => ((0, some (.int q.1), (126, 120, L, [Y, T, H2, H, RU, RV, ST, NS, I0, I1, I2, q.2.1, FI, RG, q.2.2, PU, MA, MN, MS, OT, SC], [256, 192, 320, 384, w, 256, 576, 640, 704], Lg)) : AOut)) (Option.some.inj zh14)).trans ho
set_option maxRecDepth 1000000 in
set_option maxHeartbeats 4000000 in
theorem R_f_Y_latest_3 (d : Nat) (Y T H2 H RV RU ST NS I0 I1 I2 BO FI RG GU PU MA MN MS OT SC : Nat → Nat → Int32) (w r5 : Nat) (L : Nat) (Lg : Int64) {r : Int32 × (Nat → Nat → Int32) × (Nat → Nat → Int32)} (h : f_Y_latest H NS BO GU = some r) : Ev (d + 4, 0, 0, 315, 0, [.val (.ref 64), .val a_unk, .val a_unk], [], (126, 120, L, [Y, T, H2, H, RV, RU, ST, NS, I0, I1, I2, BO, FI, RG, GU, PU, MA, MN, MS, OT, SC], [256, 192, 384, 320, w, r5, 576, 640, 704], Lg)) ((0, some (.int r.1), (126, 120, L, [Y, T, H2, H, RV, RU, ST, NS, I0, I1, I2, r.2.1, FI, RG, r.2.2, PU, MA, MN, MS, OT, SC], [256, 192, 384, 320, w, 256, 576, 640, 704], Lg)) : AOut) := by
  suffices key : ∀ o : AOut, ((0, some (.int r.1), (126, 120, L, [Y, T, H2, H, RV, RU, ST, NS, I0, I1, I2, r.2.1, FI, RG, r.2.2, PU, MA, MN, MS, OT, SC], [256, 192, 384, 320, w, 256, 576, 640, 704], Lg)) : AOut) = o → Ev (d + 4, 0, 0, 315, 0, [.val (.ref 64), .val a_unk, .val a_unk], [], (126, 120, L, [Y, T, H2, H, RV, RU, ST, NS, I0, I1, I2, BO, FI, RG, GU, PU, MA, MN, MS, OT, SC], [256, 192, 384, 320, w, r5, 576, 640, 704], Lg)) o from key _ rfl
  intro o ho
  obtain ⟨⟨BO_2, GU_3⟩, zh1, h⟩ := bnd h
  have zh1 : f_Y_lookAhead H NS BO GU = some (BO_2, GU_3) := zh1
  have ze2 := R_f_Y_lookAhead_3 (d + 0) Y T H2 H RV RU ST NS I0 I1 I2 BO FI RG GU PU MA MN MS OT SC w r5 L Lg zh1
  suffices e : Ev (d + 4, 0, 0, 315, 4, [.val (.ref 64), .val a_unk, .val a_unk], [.ref 960], (126, 120, L, [Y, T, H2, H, RV, RU, ST, NS, I0, I1, I2, BO_2, FI, RG, GU_3, PU, MA, MN, MS, OT, SC], [256, 192, 384, 320, w, 256, 576, 640, 704], Lg)) o from ev_call (fun v μ => (d + 4, 0, 0, 315, 4, [.val (.ref 64), .val a_unk, .val a_unk], v.toList ++ [], μ)) 2 ze2 e (fun n => Eq.refl _)
  suffices e : Ev (d + 4, 0, 0, 315, 9, [.val (.ref 64), .val (.ref 960), .val a_unk], [.ref 256], (126, 120, L, [Y, T, H2, H, RV, RU, ST, NS, I0, I1, I2, BO_2, FI, RG, GU_3, PU, MA, MN, MS, OT, SC], [256, 192, 384, 320, w, 256, 576, 640, 704], Lg)) o from ev_b 3 e (fun n => Eq.refl _)
  obtain ⟨zb3, zh4, h⟩ := bnd h
  suffices e : Ev (d + 4, 0, 0, 315, 15, [.val (.ref 64), .val (.ref 960), .val (.int ((H 0 0) - 1))], [], (126, 120, L, [Y, T, H2, H, RV, RU, ST, NS, I0, I1, I2, BO_2, FI, RG, GU_3, PU, MA, MN, MS, OT, SC], [256, 192, 384, 320, w, 256, 576, 640, 704], Lg)) o from ev_b 4 e (fun n => Eq.refl _)
  refine ev_loop (δ := Unit) (fun a j => (d + 4, 0, 0, 315, 15, [.val (.ref 64), .val (.ref 960), .val (.int a)], [], (126, 120, L, [Y, T, H2, H, RV, RU, ST, NS, I0, I1, I2, BO_2, FI, RG, GU_3, PU, MA, MN, MS, OT, SC], [256, 192, 384, 320, w, 256, 576, 640, 704], Lg))) (fun b => sumE b (fun b => ∀ s6 : Value, Ev (d + 4, 0, 0, 315, 35, [.val (.ref 64), .val (.ref 960), .val s6], [], (126, 120, L, [Y, T, H2, H, RV, RU, ST, NS, I0, I1, I2, BO_2, FI, RG, GU_3, PU, MA, MN, MS, OT, SC], [256, 192, 384, 320, w, 256, 576, 640, 704], Lg)) o) (fun b => ((0, some (.int b.1), (126, 120, L, [Y, T, H2, H, RV, RU, ST, NS, I0, I1, I2, b.2.1, FI, RG, b.2.2, PU, MA, MN, MS, OT, SC], [256, 192, 384, 320, w, 256, 576, 640, 704], Lg)) : AOut) = o)) ?_ a_F ((H 0 0) - 1) zb3 zh4 ?_ ()
  · rintro v4 zr8 zh7 zi5 zx6 ⟨⟩
    have zh7 : f_Y_latest_l15 H GU_3 BO_2 v4 = some zr8 := zh7
    by_cases zc9 : v4 < 0
    · have zh7 := itp zh7 zc9
      suffices e : Ev (d + 4, 0, 0, 315, 35, [.val (.ref 64), .val (.ref 960), .val (.int v4)], [], (126, 120, L, [Y, T, H2, H, RV, RU, ST, NS, I0, I1, I2, BO_2, FI, RG, GU_3, PU, MA, MN, MS, OT, SC], [256, 192, 384, 320, w, 256, 576, 640, 704], Lg)) o from ev_t (c := v4 < 0) _ _ 2  zc9 e (fun n => Eq.refl _)
      exact ev_b 0 (zx6 _ (Option.some.inj zh7).symm (.int v4)) (fun n => Eq.refl _)
    · have zh7 := itn zh7 zc9
      suffices e : Ev (d + 4, 0, 0, 315, 19, [.val (.ref 64), .val (.ref 960), .val (.int v4)], [], (126, 120, L, [Y, T, H2, H, RV, RU, ST, NS, I0, I1, I2, BO_2, FI, RG, GU_3, PU, MA, MN, MS, OT, SC], [256, 192, 384, 320, w, 256, 576, 640, 704], Lg)) o from ev_f (c := v4 < 0) _ _ 2  zc9 e (fun n => Eq.refl _)
      obtain ⟨x5, zh10, zh7⟩ := bnd zh7
      have zh10 : f_Guide_missers H GU_3 v4 = some x5 := zh10
      have ze11 := R_f_Guide_missers_1 (d + 1) Y T H2 H RV RU ST NS I0 I1 I2 BO_2 FI RG GU_3 PU MA MN MS OT SC 256 192 384 320 w 576 640 704 L Lg v4 zh10
      suffices e : Ev (d + 4, 0, 0, 315, 24, [.val (.ref 64), .val (.ref 960), .val (.int v4)], [.int x5], (126, 120, L, [Y, T, H2, H, RV, RU, ST, NS, I0, I1, I2, BO_2, FI, RG, GU_3, PU, MA, MN, MS, OT, SC], [256, 192, 384, 320, w, 256, 576, 640, 704], Lg)) o from ev_call (fun v μ => (d + 4, 0, 0, 315, 24, [.val (.ref 64), .val (.ref 960), .val (.int v4)], v.toList ++ [], μ)) 3 ze11 e (fun n => Eq.refl _)
      by_cases zc12 : x5 ≠ 0
      · have zh7 := itp zh7 zc12
        suffices e : Ev (d + 4, 0, 0, 315, 29, [.val (.ref 64), .val (.ref 960), .val (.int v4)], [], (126, 120, L, [Y, T, H2, H, RV, RU, ST, NS, I0, I1, I2, BO_2, FI, RG, GU_3, PU, MA, MN, MS, OT, SC], [256, 192, 384, 320, w, 256, 576, 640, 704], Lg)) o from ev_t (c := x5 ≠ 0) _ _ 1  zc12 e (fun n => Eq.refl _)
        suffices e : Ev (d + 4, 0, 0, 315, 32, [.val (.ref 64), .val (.ref 960), .val (.int (v4 + (-1)))], [], (126, 120, L, [Y, T, H2, H, RV, RU, ST, NS, I0, I1, I2, BO_2, FI, RG, GU_3, PU, MA, MN, MS, OT, SC], [256, 192, 384, 320, w, 256, 576, 640, 704], Lg)) o from ev_b 1 e (fun n => Eq.refl _)
        exact ev_b 1 (zi5 _ (Option.some.inj zh7).symm ()) (fun n => Eq.refl _)
      · have zh7 := itn zh7 zc12
        suffices e : Ev (d + 4, 0, 0, 315, 27, [.val (.ref 64), .val (.ref 960), .val (.int v4)], [], (126, 120, L, [Y, T, H2, H, RV, RU, ST, NS, I0, I1, I2, BO_2, FI, RG, GU_3, PU, MA, MN, MS, OT, SC], [256, 192, 384, 320, w, 256, 576, 640, 704], Lg)) o from ev_f (c := x5 ≠ 0) _ _ 1  zc12 e (fun n => Eq.refl _)
        exact ev_rete 2 (zx6 _ (Option.some.inj zh7).symm) (fun n => Eq.refl _)
  · rcases zb3 with ⟨⟩ | zr8
    · intro s6
      have ze13 := Option.some.inj h
      subst ze13
      exact ev_rete 2 ho (fun n => Eq.refl _)
    · have zh14 : some zr8 = some r := h
      exact (congrArg (fun q => ((0, some (.int q.1), (126, 120, L, [Y, T, H2, H, RV, RU, ST, NS, I0, I1, I2, q.2.1, FI, RG, q.2.2, PU, MA, MN, MS, OT, SC], [256, 192, 384, 320, w, 256, 576, 640, 704], Lg)) : AOut)) (Option.some.inj zh14)).trans ho
set_option maxRecDepth 1000000 in
set_option maxHeartbeats 4000000 in
theorem R_f_Guide_goAll_0 (d : Nat) (Y T H H2 RA RB ST NS I0 I1 I2 BO FI RG GU PU MA MN MS OT SC : Nat → Nat → Int32) (r0 r1 r2 r3 w r6 r7 r8 : Nat) (L : Nat) (Lg : Int64) {r : (Nat → Nat → Int32)} (h : f_Guide_goAll H BO GU = some r) : Ev (d + 1, 0, 0, 189, 0, [.val (.ref 960)], [], (126, 120, L, [Y, T, H, H2, RA, RB, ST, NS, I0, I1, I2, BO, FI, RG, GU, PU, MA, MN, MS, OT, SC], [r0, r1, r2, r3, w, 192, r6, r7, r8], Lg)) ((0, none, (126, 120, L, [Y, T, H, H2, RA, RB, ST, NS, I0, I1, I2, r, FI, RG, GU, PU, MA, MN, MS, OT, SC], [r0, r1, r2, r3, w, 192, r6, r7, r8], Lg)) : AOut) := by
  suffices key : ∀ o : AOut, ((0, none, (126, 120, L, [Y, T, H, H2, RA, RB, ST, NS, I0, I1, I2, r, FI, RG, GU, PU, MA, MN, MS, OT, SC], [r0, r1, r2, r3, w, 192, r6, r7, r8], Lg)) : AOut) = o → Ev (d + 1, 0, 0, 189, 0, [.val (.ref 960)], [], (126, 120, L, [Y, T, H, H2, RA, RB, ST, NS, I0, I1, I2, BO, FI, RG, GU, PU, MA, MN, MS, OT, SC], [r0, r1, r2, r3, w, 192, r6, r7, r8], Lg)) o from key _ rfl
  intro o ho
  obtain ⟨BO_1, zh1, h⟩ := bnd h
  have zh1 : f_Guide_goOnly H BO GU (GU 0 4) = some BO_1 := zh1
  have ze2 := R_f_Guide_goOnly_0 (d + 0) Y T H H2 RA RB ST NS I0 I1 I2 BO FI RG GU PU MA MN MS OT SC r0 r1 r2 r3 w r6 r7 r8 L Lg (GU 0 4) zh1
  suffices e : Ev (d + 1, 0, 0, 189, 8, [.val (.ref 960)], [], (126, 120, L, [Y, T, H, H2, RA, RB, ST, NS, I0, I1, I2, BO_1, FI, RG, GU, PU, MA, MN, MS, OT, SC], [r0, r1, r2, r3, w, 192, r6, r7, r8], Lg)) o from ev_call (fun v μ => (d + 1, 0, 0, 189, 8, [.val (.ref 960)], v.toList ++ [], μ)) 4 ze2 e (fun n => Eq.refl _)
  have ze3 := Option.some.inj h
  subst ze3
  exact ev_rete 1 ho (fun n => Eq.refl _)
set_option maxRecDepth 1000000 in
set_option maxHeartbeats 4000000 in
theorem R_f_Y_follow_0 (d : Nat) (Y T H H2 RU RV ST NS I0 I1 I2 BO FI RG GU PU MA MN MS OT SC : Nat → Nat → Int32) (w r5 : Nat) (L : Nat) (Lg : Int64) {r : Int32 × (Nat → Nat → Int32) × (Nat → Nat → Int32) × (Nat → Nat → Int32)} (h : f_Y_follow H NS BO GU = some r) : Ev (d + 6, 0, 0, 316, 0, [.val (.ref 64), .val a_unk, .val a_unk], [], (126, 120, L, [Y, T, H, H2, RU, RV, ST, NS, I0, I1, I2, BO, FI, RG, GU, PU, MA, MN, MS, OT, SC], [192, 256, 320, 384, w, r5, 576, 640, 704], Lg)) ((0, some (.int r.1), (126, 120, L, [Y, T, H, H2, RU, RV, ST, r.2.1, I0, I1, I2, r.2.2.1, FI, RG, r.2.2.2, PU, MA, MN, MS, OT, SC], [192, 256, 320, 384, w, 192, 576, 640, 704], Lg)) : AOut) := by
  suffices key : ∀ o : AOut, ((0, some (.int r.1), (126, 120, L, [Y, T, H, H2, RU, RV, ST, r.2.1, I0, I1, I2, r.2.2.1, FI, RG, r.2.2.2, PU, MA, MN, MS, OT, SC], [192, 256, 320, 384, w, 192, 576, 640, 704], Lg)) : AOut) = o → Ev (d + 6, 0, 0, 316, 0, [.val (.ref 64), .val a_unk, .val a_unk], [], (126, 120, L, [Y, T, H, H2, RU, RV, ST, NS, I0, I1, I2, BO, FI, RG, GU, PU, MA, MN, MS, OT, SC], [192, 256, 320, 384, w, r5, 576, 640, 704], Lg)) o from key _ rfl
  intro o ho
  obtain ⟨⟨BO_2, GU_3⟩, zh1, h⟩ := bnd h
  have zh1 : f_Y_lookAhead H NS BO GU = some (BO_2, GU_3) := zh1
  have ze2 := R_f_Y_lookAhead_0 (d + 2) Y T H H2 RU RV ST NS I0 I1 I2 BO FI RG GU PU MA MN MS OT SC w r5 L Lg zh1
  suffices e : Ev (d + 6, 0, 0, 316, 4, [.val (.ref 64), .val a_unk, .val a_unk], [.ref 960], (126, 120, L, [Y, T, H, H2, RU, RV, ST, NS, I0, I1, I2, BO_2, FI, RG, GU_3, PU, MA, MN, MS, OT, SC], [192, 256, 320, 384, w, 192, 576, 640, 704], Lg)) o from ev_call (fun v μ => (d + 6, 0, 0, 316, 4, [.val (.ref 64), .val a_unk, .val a_unk], v.toList ++ [], μ)) 2 ze2 e (fun n => Eq.refl _)
  obtain ⟨x4, zh3, h⟩ := bnd h
  have zh3 : f_Integer_bitCount (GU_3 0 4) = some x4 := zh3
  have ze4 := R_f_Integer_bitCount_0 (d + 5) Y T H H2 RU RV ST NS I0 I1 I2 BO_2 FI RG GU_3 PU MA MN MS OT SC 192 256 320 384 w 192 576 640 704 L Lg (GU_3 0 4) zh3
  suffices e : Ev (d + 6, 0, 0, 316, 12, [.val (.ref 64), .val (.ref 960), .val a_unk], [.int x4], (126, 120, L, [Y, T, H, H2, RU, RV, ST, NS, I0, I1, I2, BO_2, FI, RG, GU_3, PU, MA, MN, MS, OT, SC], [192, 256, 320, 384, w, 192, 576, 640, 704], Lg)) o from ev_call (fun v μ => (d + 6, 0, 0, 316, 12, [.val (.ref 64), .val (.ref 960), .val a_unk], v.toList ++ [], μ)) 4 ze4 e (fun n => Eq.refl _)
  by_cases zc5 : x4 ≠ 0
  · have h := itp h zc5
    suffices e : Ev (d + 6, 0, 0, 316, 19, [.val (.ref 64), .val (.ref 960), .val (.int x4)], [], (126, 120, L, [Y, T, H, H2, RU, RV, ST, NS, I0, I1, I2, BO_2, FI, RG, GU_3, PU, MA, MN, MS, OT, SC], [192, 256, 320, 384, w, 192, 576, 640, 704], Lg)) o from ev_t (c := x4 ≠ 0) _ _ 3  zc5 e (fun n => Eq.refl _)
    obtain ⟨x5, zh6, h⟩ := bnd h
    have zh6 : f_State_isFull NS = some x5 := zh6
    have ze7 := R_f_State_isFull_0 (d + 5) Y T H H2 RU RV ST NS I0 I1 I2 BO_2 FI RG GU_3 PU MA MN MS OT SC 192 256 320 384 w 192 576 640 704 L Lg zh6
    suffices e : Ev (d + 6, 0, 0, 316, 26, [.val (.ref 64), .val (.ref 960), .val (.int x4)], [.int x5], (126, 120, L, [Y, T, H, H2, RU, RV, ST, NS, I0, I1, I2, BO_2, FI, RG, GU_3, PU, MA, MN, MS, OT, SC], [192, 256, 320, 384, w, 192, 576, 640, 704], Lg)) o from ev_call (fun v μ => (d + 6, 0, 0, 316, 26, [.val (.ref 64), .val (.ref 960), .val (.int x4)], v.toList ++ [], μ)) 3 ze7 e (fun n => Eq.refl _)
    by_cases zc8 : x5 = 0
    · have h := itp h zc8
      suffices e : Ev (d + 6, 0, 0, 316, 32, [.val (.ref 64), .val (.ref 960), .val (.int x4)], [], (126, 120, L, [Y, T, H, H2, RU, RV, ST, NS, I0, I1, I2, BO_2, FI, RG, GU_3, PU, MA, MN, MS, OT, SC], [192, 256, 320, 384, w, 192, 576, 640, 704], Lg)) o from ev_t (c := x5 = 0) _ _ 1  zc8 e (fun n => Eq.refl _)
      suffices e : Ev (d + 6, 0, 0, 316, 40, [.val (.ref 64), .val (.ref 960), .val (.int x4)], [.ref 192, .int (GU_3 0 4)], (126, 120, L, [Y, T, H, H2, RU, RV, ST, NS, I0, I1, I2, BO_2, FI, RG, GU_3, PU, MA, MN, MS, OT, SC], [192, 256, 320, 384, w, 192, 576, 640, 704], Lg)) o from ev_b 4 e (fun n => Eq.refl _)
      by_cases zc9 : ((GU_3 0 4) &&& (H 0 5)) ≠ 0
      · have h := itp h zc9
        suffices e : Ev (d + 6, 0, 0, 316, 54, [.val (.ref 64), .val (.ref 960), .val (.int x4)], [], (126, 120, L, [Y, T, H, H2, RU, RV, ST, NS, I0, I1, I2, BO_2, FI, RG, GU_3, PU, MA, MN, MS, OT, SC], [192, 256, 320, 384, w, 192, 576, 640, 704], Lg)) o from ev_t (c := ((GU_3 0 4) &&& (H 0 5)) ≠ 0) _ _ 3  zc9 e (fun n => Eq.refl _)
        have ze10 := Option.some.inj h
        subst ze10
        exact ev_rete 2 ho (fun n => Eq.refl _)
      · have h := itn h zc9
        suffices e : Ev (d + 6, 0, 0, 316, 47, [.val (.ref 64), .val (.ref 960), .val (.int x4)], [], (126, 120, L, [Y, T, H, H2, RU, RV, ST, NS, I0, I1, I2, BO_2, FI, RG, GU_3, PU, MA, MN, MS, OT, SC], [192, 256, 320, 384, w, 192, 576, 640, 704], Lg)) o from ev_f (c := ((GU_3 0 4) &&& (H 0 5)) ≠ 0) _ _ 3  zc9 e (fun n => Eq.refl _)
        obtain ⟨⟨x6, BO_7⟩, zh11, h⟩ := bnd h
        have zh11 : f_Guide_lawfulAtOnce H BO_2 GU_3 = some (x6, BO_7) := zh11
        have ze12 := R_f_Guide_lawfulAtOnce_0 (d + 0) Y T H H2 RU RV ST NS I0 I1 I2 BO_2 FI RG GU_3 PU MA MN MS OT SC 192 256 320 384 w 576 640 704 L Lg zh11
        suffices e : Ev (d + 6, 0, 0, 316, 51, [.val (.ref 64), .val (.ref 960), .val (.int x4)], [.int x6], (126, 120, L, [Y, T, H, H2, RU, RV, ST, NS, I0, I1, I2, BO_7, FI, RG, GU_3, PU, MA, MN, MS, OT, SC], [192, 256, 320, 384, w, 192, 576, 640, 704], Lg)) o from ev_call (fun v μ => (d + 6, 0, 0, 316, 51, [.val (.ref 64), .val (.ref 960), .val (.int x4)], v.toList ++ [], μ)) 2 ze12 e (fun n => Eq.refl _)
        by_cases zc13 : x6 ≠ 0
        · have h := itp h zc13
          suffices e : Ev (d + 6, 0, 0, 316, 56, [.val (.ref 64), .val (.ref 960), .val (.int x4)], [], (126, 120, L, [Y, T, H, H2, RU, RV, ST, NS, I0, I1, I2, BO_7, FI, RG, GU_3, PU, MA, MN, MS, OT, SC], [192, 256, 320, 384, w, 192, 576, 640, 704], Lg)) o from ev_t (c := x6 ≠ 0) _ _ 1  zc13 e (fun n => Eq.refl _)
          obtain ⟨BO_8, zh14, h⟩ := bnd h
          have zh14 : f_Guide_goAll H BO_7 GU_3 = some BO_8 := zh14
          have ze15 := R_f_Guide_goAll_0 (d + 4) Y T H H2 RU RV ST NS I0 I1 I2 BO_7 FI RG GU_3 PU MA MN MS OT SC 192 256 320 384 w 576 640 704 L Lg zh14
          suffices e : Ev (d + 6, 0, 0, 316, 60, [.val (.ref 64), .val (.ref 960), .val (.int x4)], [], (126, 120, L, [Y, T, H, H2, RU, RV, ST, NS, I0, I1, I2, BO_8, FI, RG, GU_3, PU, MA, MN, MS, OT, SC], [192, 256, 320, 384, w, 192, 576, 640, 704], Lg)) o from ev_call (fun v μ => (d + 6, 0, 0, 316, 60, [.val (.ref 64), .val (.ref 960), .val (.int x4)], v.toList ++ [], μ)) 2 ze15 e (fun n => Eq.refl _)
          obtain ⟨BO_9, zh16, h⟩ := bnd h
          have zh16 : f_Board_countMoved H BO_8 (NS 1) = some BO_9 := zh16
          have ze17 := R_f_Board_countMoved_0 (d + 5) Y T H H2 RU RV ST NS I0 I1 I2 BO_8 FI RG GU_3 PU MA MN MS OT SC 192 256 320 384 w 576 640 704 L Lg zh16
          suffices e : Ev (d + 6, 0, 0, 316, 74, [.val (.ref 64), .val (.ref 960), .val (.int x4)], [], (126, 120, L, [Y, T, H, H2, RU, RV, ST, NS, I0, I1, I2, BO_9, FI, RG, GU_3, PU, MA, MN, MS, OT, SC], [192, 256, 320, 384, w, 192, 576, 640, 704], Lg)) o from ev_call (fun v μ => (d + 6, 0, 0, 316, 74, [.val (.ref 64), .val (.ref 960), .val (.int x4)], v.toList ++ [], μ)) 6 ze17 e (fun n => Eq.refl _)
          obtain ⟨NS_10, zh18, h⟩ := bnd h
          have zh18 : f_State_act NS BO_9 = some NS_10 := zh18
          have ze19 := R_f_State_act_0 (d + 4) Y T H H2 RU RV ST NS I0 I1 I2 BO_9 FI RG GU_3 PU MA MN MS OT SC 192 256 320 384 w 192 576 640 704 L Lg zh18
          suffices e : Ev (d + 6, 0, 0, 316, 85, [.val (.ref 64), .val (.ref 960), .val (.int x4)], [], (126, 120, L, [Y, T, H, H2, RU, RV, ST, NS_10, I0, I1, I2, BO_9, FI, RG, GU_3, PU, MA, MN, MS, OT, SC], [192, 256, 320, 384, w, 192, 576, 640, 704], Lg)) o from ev_call (fun v μ => (d + 6, 0, 0, 316, 85, [.val (.ref 64), .val (.ref 960), .val (.int x4)], v.toList ++ [], μ)) 5 ze19 e (fun n => Eq.refl _)
          have ze20 := Option.some.inj h
          subst ze20
          exact ev_rete 2 ho (fun n => Eq.refl _)
        · have h := itn h zc13
          suffices e : Ev (d + 6, 0, 0, 316, 54, [.val (.ref 64), .val (.ref 960), .val (.int x4)], [], (126, 120, L, [Y, T, H, H2, RU, RV, ST, NS, I0, I1, I2, BO_7, FI, RG, GU_3, PU, MA, MN, MS, OT, SC], [192, 256, 320, 384, w, 192, 576, 640, 704], Lg)) o from ev_f (c := x6 ≠ 0) _ _ 1  zc13 e (fun n => Eq.refl _)
          have ze21 := Option.some.inj h
          subst ze21
          exact ev_rete 2 ho (fun n => Eq.refl _)
    · have h := itn h zc8
      suffices e : Ev (d + 6, 0, 0, 316, 29, [.val (.ref 64), .val (.ref 960), .val (.int x4)], [], (126, 120, L, [Y, T, H, H2, RU, RV, ST, NS, I0, I1, I2, BO_2, FI, RG, GU_3, PU, MA, MN, MS, OT, SC], [192, 256, 320, 384, w, 192, 576, 640, 704], Lg)) o from ev_f (c := x5 = 0) _ _ 1  zc8 e (fun n => Eq.refl _)
      have ze22 := Option.some.inj h
      subst ze22
      exact ev_rete 2 ho (fun n => Eq.refl _)
  · have h := itn h zc5
    suffices e : Ev (d + 6, 0, 0, 316, 17, [.val (.ref 64), .val (.ref 960), .val (.int x4)], [], (126, 120, L, [Y, T, H, H2, RU, RV, ST, NS, I0, I1, I2, BO_2, FI, RG, GU_3, PU, MA, MN, MS, OT, SC], [192, 256, 320, 384, w, 192, 576, 640, 704], Lg)) o from ev_f (c := x4 ≠ 0) _ _ 3  zc5 e (fun n => Eq.refl _)
    have ze23 := Option.some.inj h
    subst ze23
    exact ev_rete 2 ho (fun n => Eq.refl _)
set_option maxRecDepth 1000000 in
set_option maxHeartbeats 4000000 in
theorem R_f_Y_follow_1 (d : Nat) (Y T H H2 RV RU ST NS I0 I1 I2 BO FI RG GU PU MA MN MS OT SC : Nat → Nat → Int32) (w r5 : Nat) (L : Nat) (Lg : Int64) {r : Int32 × (Nat → Nat → Int32) × (Nat → Nat → Int32) × (Nat → Nat → Int32)} (h : f_Y_follow H NS BO GU = some r) : Ev (d + 6, 0, 0, 316, 0, [.val (.ref 64), .val a_unk, .val a_unk], [], (126, 120, L, [Y, T, H, H2, RV, RU, ST, NS, I0, I1, I2, BO, FI, RG, GU, PU, MA, MN, MS, OT, SC], [192, 256, 384, 320, w, r5, 576, 640, 704], Lg)) ((0, some (.int r.1), (126, 120, L, [Y, T, H, H2, RV, RU, ST, r.2.1, I0, I1, I2, r.2.2.1, FI, RG, r.2.2.2, PU, MA, MN, MS, OT, SC], [192, 256, 384, 320, w, 192, 576, 640, 704], Lg)) : AOut) := by
  suffices key : ∀ o : AOut, ((0, some (.int r.1), (126, 120, L, [Y, T, H, H2, RV, RU, ST, r.2.1, I0, I1, I2, r.2.2.1, FI, RG, r.2.2.2, PU, MA, MN, MS, OT, SC], [192, 256, 384, 320, w, 192, 576, 640, 704], Lg)) : AOut) = o → Ev (d + 6, 0, 0, 316, 0, [.val (.ref 64), .val a_unk, .val a_unk], [], (126, 120, L, [Y, T, H, H2, RV, RU, ST, NS, I0, I1, I2, BO, FI, RG, GU, PU, MA, MN, MS, OT, SC], [192, 256, 384, 320, w, r5, 576, 640, 704], Lg)) o from key _ rfl
  intro o ho
  obtain ⟨⟨BO_2, GU_3⟩, zh1, h⟩ := bnd h
  have zh1 : f_Y_lookAhead H NS BO GU = some (BO_2, GU_3) := zh1
  have ze2 := R_f_Y_lookAhead_1 (d + 2) Y T H H2 RV RU ST NS I0 I1 I2 BO FI RG GU PU MA MN MS OT SC w r5 L Lg zh1
  suffices e : Ev (d + 6, 0, 0, 316, 4, [.val (.ref 64), .val a_unk, .val a_unk], [.ref 960], (126, 120, L, [Y, T, H, H2, RV, RU, ST, NS, I0, I1, I2, BO_2, FI, RG, GU_3, PU, MA, MN, MS, OT, SC], [192, 256, 384, 320, w, 192, 576, 640, 704], Lg)) o from ev_call (fun v μ => (d + 6, 0, 0, 316, 4, [.val (.ref 64), .val a_unk, .val a_unk], v.toList ++ [], μ)) 2 ze2 e (fun n => Eq.refl _)
  obtain ⟨x4, zh3, h⟩ := bnd h
  have zh3 : f_Integer_bitCount (GU_3 0 4) = some x4 := zh3
  have ze4 := R_f_Integer_bitCount_0 (d + 5) Y T H H2 RV RU ST NS I0 I1 I2 BO_2 FI RG GU_3 PU MA MN MS OT SC 192 256 384 320 w 192 576 640 704 L Lg (GU_3 0 4) zh3
  suffices e : Ev (d + 6, 0, 0, 316, 12, [.val (.ref 64), .val (.ref 960), .val a_unk], [.int x4], (126, 120, L, [Y, T, H, H2, RV, RU, ST, NS, I0, I1, I2, BO_2, FI, RG, GU_3, PU, MA, MN, MS, OT, SC], [192, 256, 384, 320, w, 192, 576, 640, 704], Lg)) o from ev_call (fun v μ => (d + 6, 0, 0, 316, 12, [.val (.ref 64), .val (.ref 960), .val a_unk], v.toList ++ [], μ)) 4 ze4 e (fun n => Eq.refl _)
  by_cases zc5 : x4 ≠ 0
  · have h := itp h zc5
    suffices e : Ev (d + 6, 0, 0, 316, 19, [.val (.ref 64), .val (.ref 960), .val (.int x4)], [], (126, 120, L, [Y, T, H, H2, RV, RU, ST, NS, I0, I1, I2, BO_2, FI, RG, GU_3, PU, MA, MN, MS, OT, SC], [192, 256, 384, 320, w, 192, 576, 640, 704], Lg)) o from ev_t (c := x4 ≠ 0) _ _ 3  zc5 e (fun n => Eq.refl _)
    obtain ⟨x5, zh6, h⟩ := bnd h
    have zh6 : f_State_isFull NS = some x5 := zh6
    have ze7 := R_f_State_isFull_0 (d + 5) Y T H H2 RV RU ST NS I0 I1 I2 BO_2 FI RG GU_3 PU MA MN MS OT SC 192 256 384 320 w 192 576 640 704 L Lg zh6
    suffices e : Ev (d + 6, 0, 0, 316, 26, [.val (.ref 64), .val (.ref 960), .val (.int x4)], [.int x5], (126, 120, L, [Y, T, H, H2, RV, RU, ST, NS, I0, I1, I2, BO_2, FI, RG, GU_3, PU, MA, MN, MS, OT, SC], [192, 256, 384, 320, w, 192, 576, 640, 704], Lg)) o from ev_call (fun v μ => (d + 6, 0, 0, 316, 26, [.val (.ref 64), .val (.ref 960), .val (.int x4)], v.toList ++ [], μ)) 3 ze7 e (fun n => Eq.refl _)
    by_cases zc8 : x5 = 0
    · have h := itp h zc8
      suffices e : Ev (d + 6, 0, 0, 316, 32, [.val (.ref 64), .val (.ref 960), .val (.int x4)], [], (126, 120, L, [Y, T, H, H2, RV, RU, ST, NS, I0, I1, I2, BO_2, FI, RG, GU_3, PU, MA, MN, MS, OT, SC], [192, 256, 384, 320, w, 192, 576, 640, 704], Lg)) o from ev_t (c := x5 = 0) _ _ 1  zc8 e (fun n => Eq.refl _)
      suffices e : Ev (d + 6, 0, 0, 316, 40, [.val (.ref 64), .val (.ref 960), .val (.int x4)], [.ref 192, .int (GU_3 0 4)], (126, 120, L, [Y, T, H, H2, RV, RU, ST, NS, I0, I1, I2, BO_2, FI, RG, GU_3, PU, MA, MN, MS, OT, SC], [192, 256, 384, 320, w, 192, 576, 640, 704], Lg)) o from ev_b 4 e (fun n => Eq.refl _)
      by_cases zc9 : ((GU_3 0 4) &&& (H 0 5)) ≠ 0
      · have h := itp h zc9
        suffices e : Ev (d + 6, 0, 0, 316, 54, [.val (.ref 64), .val (.ref 960), .val (.int x4)], [], (126, 120, L, [Y, T, H, H2, RV, RU, ST, NS, I0, I1, I2, BO_2, FI, RG, GU_3, PU, MA, MN, MS, OT, SC], [192, 256, 384, 320, w, 192, 576, 640, 704], Lg)) o from ev_t (c := ((GU_3 0 4) &&& (H 0 5)) ≠ 0) _ _ 3  zc9 e (fun n => Eq.refl _)
        have ze10 := Option.some.inj h
        subst ze10
        exact ev_rete 2 ho (fun n => Eq.refl _)
      · have h := itn h zc9
        suffices e : Ev (d + 6, 0, 0, 316, 47, [.val (.ref 64), .val (.ref 960), .val (.int x4)], [], (126, 120, L, [Y, T, H, H2, RV, RU, ST, NS, I0, I1, I2, BO_2, FI, RG, GU_3, PU, MA, MN, MS, OT, SC], [192, 256, 384, 320, w, 192, 576, 640, 704], Lg)) o from ev_f (c := ((GU_3 0 4) &&& (H 0 5)) ≠ 0) _ _ 3  zc9 e (fun n => Eq.refl _)
        obtain ⟨⟨x6, BO_7⟩, zh11, h⟩ := bnd h
        have zh11 : f_Guide_lawfulAtOnce H BO_2 GU_3 = some (x6, BO_7) := zh11
        have ze12 := R_f_Guide_lawfulAtOnce_0 (d + 0) Y T H H2 RV RU ST NS I0 I1 I2 BO_2 FI RG GU_3 PU MA MN MS OT SC 192 256 384 320 w 576 640 704 L Lg zh11
        suffices e : Ev (d + 6, 0, 0, 316, 51, [.val (.ref 64), .val (.ref 960), .val (.int x4)], [.int x6], (126, 120, L, [Y, T, H, H2, RV, RU, ST, NS, I0, I1, I2, BO_7, FI, RG, GU_3, PU, MA, MN, MS, OT, SC], [192, 256, 384, 320, w, 192, 576, 640, 704], Lg)) o from ev_call (fun v μ => (d + 6, 0, 0, 316, 51, [.val (.ref 64), .val (.ref 960), .val (.int x4)], v.toList ++ [], μ)) 2 ze12 e (fun n => Eq.refl _)
        by_cases zc13 : x6 ≠ 0
        · have h := itp h zc13
          suffices e : Ev (d + 6, 0, 0, 316, 56, [.val (.ref 64), .val (.ref 960), .val (.int x4)], [], (126, 120, L, [Y, T, H, H2, RV, RU, ST, NS, I0, I1, I2, BO_7, FI, RG, GU_3, PU, MA, MN, MS, OT, SC], [192, 256, 384, 320, w, 192, 576, 640, 704], Lg)) o from ev_t (c := x6 ≠ 0) _ _ 1  zc13 e (fun n => Eq.refl _)
          obtain ⟨BO_8, zh14, h⟩ := bnd h
          have zh14 : f_Guide_goAll H BO_7 GU_3 = some BO_8 := zh14
          have ze15 := R_f_Guide_goAll_0 (d + 4) Y T H H2 RV RU ST NS I0 I1 I2 BO_7 FI RG GU_3 PU MA MN MS OT SC 192 256 384 320 w 576 640 704 L Lg zh14
          suffices e : Ev (d + 6, 0, 0, 316, 60, [.val (.ref 64), .val (.ref 960), .val (.int x4)], [], (126, 120, L, [Y, T, H, H2, RV, RU, ST, NS, I0, I1, I2, BO_8, FI, RG, GU_3, PU, MA, MN, MS, OT, SC], [192, 256, 384, 320, w, 192, 576, 640, 704], Lg)) o from ev_call (fun v μ => (d + 6, 0, 0, 316, 60, [.val (.ref 64), .val (.ref 960), .val (.int x4)], v.toList ++ [], μ)) 2 ze15 e (fun n => Eq.refl _)
          obtain ⟨BO_9, zh16, h⟩ := bnd h
          have zh16 : f_Board_countMoved H BO_8 (NS 1) = some BO_9 := zh16
          have ze17 := R_f_Board_countMoved_0 (d + 5) Y T H H2 RV RU ST NS I0 I1 I2 BO_8 FI RG GU_3 PU MA MN MS OT SC 192 256 384 320 w 576 640 704 L Lg zh16
          suffices e : Ev (d + 6, 0, 0, 316, 74, [.val (.ref 64), .val (.ref 960), .val (.int x4)], [], (126, 120, L, [Y, T, H, H2, RV, RU, ST, NS, I0, I1, I2, BO_9, FI, RG, GU_3, PU, MA, MN, MS, OT, SC], [192, 256, 384, 320, w, 192, 576, 640, 704], Lg)) o from ev_call (fun v μ => (d + 6, 0, 0, 316, 74, [.val (.ref 64), .val (.ref 960), .val (.int x4)], v.toList ++ [], μ)) 6 ze17 e (fun n => Eq.refl _)
          obtain ⟨NS_10, zh18, h⟩ := bnd h
          have zh18 : f_State_act NS BO_9 = some NS_10 := zh18
          have ze19 := R_f_State_act_0 (d + 4) Y T H H2 RV RU ST NS I0 I1 I2 BO_9 FI RG GU_3 PU MA MN MS OT SC 192 256 384 320 w 192 576 640 704 L Lg zh18
          suffices e : Ev (d + 6, 0, 0, 316, 85, [.val (.ref 64), .val (.ref 960), .val (.int x4)], [], (126, 120, L, [Y, T, H, H2, RV, RU, ST, NS_10, I0, I1, I2, BO_9, FI, RG, GU_3, PU, MA, MN, MS, OT, SC], [192, 256, 384, 320, w, 192, 576, 640, 704], Lg)) o from ev_call (fun v μ => (d + 6, 0, 0, 316, 85, [.val (.ref 64), .val (.ref 960), .val (.int x4)], v.toList ++ [], μ)) 5 ze19 e (fun n => Eq.refl _)
          have ze20 := Option.some.inj h
          subst ze20
          exact ev_rete 2 ho (fun n => Eq.refl _)
        · have h := itn h zc13
          suffices e : Ev (d + 6, 0, 0, 316, 54, [.val (.ref 64), .val (.ref 960), .val (.int x4)], [], (126, 120, L, [Y, T, H, H2, RV, RU, ST, NS, I0, I1, I2, BO_7, FI, RG, GU_3, PU, MA, MN, MS, OT, SC], [192, 256, 384, 320, w, 192, 576, 640, 704], Lg)) o from ev_f (c := x6 ≠ 0) _ _ 1  zc13 e (fun n => Eq.refl _)
          have ze21 := Option.some.inj h
          subst ze21
          exact ev_rete 2 ho (fun n => Eq.refl _)
    · have h := itn h zc8
      suffices e : Ev (d + 6, 0, 0, 316, 29, [.val (.ref 64), .val (.ref 960), .val (.int x4)], [], (126, 120, L, [Y, T, H, H2, RV, RU, ST, NS, I0, I1, I2, BO_2, FI, RG, GU_3, PU, MA, MN, MS, OT, SC], [192, 256, 384, 320, w, 192, 576, 640, 704], Lg)) o from ev_f (c := x5 = 0) _ _ 1  zc8 e (fun n => Eq.refl _)
      have ze22 := Option.some.inj h
      subst ze22
      exact ev_rete 2 ho (fun n => Eq.refl _)
  · have h := itn h zc5
    suffices e : Ev (d + 6, 0, 0, 316, 17, [.val (.ref 64), .val (.ref 960), .val (.int x4)], [], (126, 120, L, [Y, T, H, H2, RV, RU, ST, NS, I0, I1, I2, BO_2, FI, RG, GU_3, PU, MA, MN, MS, OT, SC], [192, 256, 384, 320, w, 192, 576, 640, 704], Lg)) o from ev_f (c := x4 ≠ 0) _ _ 3  zc5 e (fun n => Eq.refl _)
    have ze23 := Option.some.inj h
    subst ze23
    exact ev_rete 2 ho (fun n => Eq.refl _)
set_option maxRecDepth 1000000 in
set_option maxHeartbeats 4000000 in
theorem R_f_Guide_goAll_1 (d : Nat) (Y T H2 H RA RB ST NS I0 I1 I2 BO FI RG GU PU MA MN MS OT SC : Nat → Nat → Int32) (r0 r1 r2 r3 w r6 r7 r8 : Nat) (L : Nat) (Lg : Int64) {r : (Nat → Nat → Int32)} (h : f_Guide_goAll H BO GU = some r) : Ev (d + 1, 0, 0, 189, 0, [.val (.ref 960)], [], (126, 120, L, [Y, T, H2, H, RA, RB, ST, NS, I0, I1, I2, BO, FI, RG, GU, PU, MA, MN, MS, OT, SC], [r0, r1, r2, r3, w, 256, r6, r7, r8], Lg)) ((0, none, (126, 120, L, [Y, T, H2, H, RA, RB, ST, NS, I0, I1, I2, r, FI, RG, GU, PU, MA, MN, MS, OT, SC], [r0, r1, r2, r3, w, 256, r6, r7, r8], Lg)) : AOut) := by
  suffices key : ∀ o : AOut, ((0, none, (126, 120, L, [Y, T, H2, H, RA, RB, ST, NS, I0, I1, I2, r, FI, RG, GU, PU, MA, MN, MS, OT, SC], [r0, r1, r2, r3, w, 256, r6, r7, r8], Lg)) : AOut) = o → Ev (d + 1, 0, 0, 189, 0, [.val (.ref 960)], [], (126, 120, L, [Y, T, H2, H, RA, RB, ST, NS, I0, I1, I2, BO, FI, RG, GU, PU, MA, MN, MS, OT, SC], [r0, r1, r2, r3, w, 256, r6, r7, r8], Lg)) o from key _ rfl
  intro o ho
  obtain ⟨BO_1, zh1, h⟩ := bnd h
  have zh1 : f_Guide_goOnly H BO GU (GU 0 4) = some BO_1 := zh1
  have ze2 := R_f_Guide_goOnly_1 (d + 0) Y T H2 H RA RB ST NS I0 I1 I2 BO FI RG GU PU MA MN MS OT SC r0 r1 r2 r3 w r6 r7 r8 L Lg (GU 0 4) zh1
  suffices e : Ev (d + 1, 0, 0, 189, 8, [.val (.ref 960)], [], (126, 120, L, [Y, T, H2, H, RA, RB, ST, NS, I0, I1, I2, BO_1, FI, RG, GU, PU, MA, MN, MS, OT, SC], [r0, r1, r2, r3, w, 256, r6, r7, r8], Lg)) o from ev_call (fun v μ => (d + 1, 0, 0, 189, 8, [.val (.ref 960)], v.toList ++ [], μ)) 4 ze2 e (fun n => Eq.refl _)
  have ze3 := Option.some.inj h
  subst ze3
  exact ev_rete 1 ho (fun n => Eq.refl _)
set_option maxRecDepth 1000000 in
set_option maxHeartbeats 4000000 in
theorem R_f_Y_follow_2 (d : Nat) (Y T H2 H RU RV ST NS I0 I1 I2 BO FI RG GU PU MA MN MS OT SC : Nat → Nat → Int32) (w r5 : Nat) (L : Nat) (Lg : Int64) {r : Int32 × (Nat → Nat → Int32) × (Nat → Nat → Int32) × (Nat → Nat → Int32)} (h : f_Y_follow H NS BO GU = some r) : Ev (d + 6, 0, 0, 316, 0, [.val (.ref 64), .val a_unk, .val a_unk], [], (126, 120, L, [Y, T, H2, H, RU, RV, ST, NS, I0, I1, I2, BO, FI, RG, GU, PU, MA, MN, MS, OT, SC], [256, 192, 320, 384, w, r5, 576, 640, 704], Lg)) ((0, some (.int r.1), (126, 120, L, [Y, T, H2, H, RU, RV, ST, r.2.1, I0, I1, I2, r.2.2.1, FI, RG, r.2.2.2, PU, MA, MN, MS, OT, SC], [256, 192, 320, 384, w, 256, 576, 640, 704], Lg)) : AOut) := by
  suffices key : ∀ o : AOut, ((0, some (.int r.1), (126, 120, L, [Y, T, H2, H, RU, RV, ST, r.2.1, I0, I1, I2, r.2.2.1, FI, RG, r.2.2.2, PU, MA, MN, MS, OT, SC], [256, 192, 320, 384, w, 256, 576, 640, 704], Lg)) : AOut) = o → Ev (d + 6, 0, 0, 316, 0, [.val (.ref 64), .val a_unk, .val a_unk], [], (126, 120, L, [Y, T, H2, H, RU, RV, ST, NS, I0, I1, I2, BO, FI, RG, GU, PU, MA, MN, MS, OT, SC], [256, 192, 320, 384, w, r5, 576, 640, 704], Lg)) o from key _ rfl
  intro o ho
  obtain ⟨⟨BO_2, GU_3⟩, zh1, h⟩ := bnd h
  have zh1 : f_Y_lookAhead H NS BO GU = some (BO_2, GU_3) := zh1
  have ze2 := R_f_Y_lookAhead_2 (d + 2) Y T H2 H RU RV ST NS I0 I1 I2 BO FI RG GU PU MA MN MS OT SC w r5 L Lg zh1
  suffices e : Ev (d + 6, 0, 0, 316, 4, [.val (.ref 64), .val a_unk, .val a_unk], [.ref 960], (126, 120, L, [Y, T, H2, H, RU, RV, ST, NS, I0, I1, I2, BO_2, FI, RG, GU_3, PU, MA, MN, MS, OT, SC], [256, 192, 320, 384, w, 256, 576, 640, 704], Lg)) o from ev_call (fun v μ => (d + 6, 0, 0, 316, 4, [.val (.ref 64), .val a_unk, .val a_unk], v.toList ++ [], μ)) 2 ze2 e (fun n => Eq.refl _)
  obtain ⟨x4, zh3, h⟩ := bnd h
  have zh3 : f_Integer_bitCount (GU_3 0 4) = some x4 := zh3
  have ze4 := R_f_Integer_bitCount_0 (d + 5) Y T H2 H RU RV ST NS I0 I1 I2 BO_2 FI RG GU_3 PU MA MN MS OT SC 256 192 320 384 w 256 576 640 704 L Lg (GU_3 0 4) zh3
  suffices e : Ev (d + 6, 0, 0, 316, 12, [.val (.ref 64), .val (.ref 960), .val a_unk], [.int x4], (126, 120, L, [Y, T, H2, H, RU, RV, ST, NS, I0, I1, I2, BO_2, FI, RG, GU_3, PU, MA, MN, MS, OT, SC], [256, 192, 320, 384, w, 256, 576, 640, 704], Lg)) o from ev_call (fun v μ => (d + 6, 0, 0, 316, 12, [.val (.ref 64), .val (.ref 960), .val a_unk], v.toList ++ [], μ)) 4 ze4 e (fun n => Eq.refl _)
  by_cases zc5 : x4 ≠ 0
  · have h := itp h zc5
    suffices e : Ev (d + 6, 0, 0, 316, 19, [.val (.ref 64), .val (.ref 960), .val (.int x4)], [], (126, 120, L, [Y, T, H2, H, RU, RV, ST, NS, I0, I1, I2, BO_2, FI, RG, GU_3, PU, MA, MN, MS, OT, SC], [256, 192, 320, 384, w, 256, 576, 640, 704], Lg)) o from ev_t (c := x4 ≠ 0) _ _ 3  zc5 e (fun n => Eq.refl _)
    obtain ⟨x5, zh6, h⟩ := bnd h
    have zh6 : f_State_isFull NS = some x5 := zh6
    have ze7 := R_f_State_isFull_0 (d + 5) Y T H2 H RU RV ST NS I0 I1 I2 BO_2 FI RG GU_3 PU MA MN MS OT SC 256 192 320 384 w 256 576 640 704 L Lg zh6
    suffices e : Ev (d + 6, 0, 0, 316, 26, [.val (.ref 64), .val (.ref 960), .val (.int x4)], [.int x5], (126, 120, L, [Y, T, H2, H, RU, RV, ST, NS, I0, I1, I2, BO_2, FI, RG, GU_3, PU, MA, MN, MS, OT, SC], [256, 192, 320, 384, w, 256, 576, 640, 704], Lg)) o from ev_call (fun v μ => (d + 6, 0, 0, 316, 26, [.val (.ref 64), .val (.ref 960), .val (.int x4)], v.toList ++ [], μ)) 3 ze7 e (fun n => Eq.refl _)
    by_cases zc8 : x5 = 0
    · have h := itp h zc8
      suffices e : Ev (d + 6, 0, 0, 316, 32, [.val (.ref 64), .val (.ref 960), .val (.int x4)], [], (126, 120, L, [Y, T, H2, H, RU, RV, ST, NS, I0, I1, I2, BO_2, FI, RG, GU_3, PU, MA, MN, MS, OT, SC], [256, 192, 320, 384, w, 256, 576, 640, 704], Lg)) o from ev_t (c := x5 = 0) _ _ 1  zc8 e (fun n => Eq.refl _)
      suffices e : Ev (d + 6, 0, 0, 316, 40, [.val (.ref 64), .val (.ref 960), .val (.int x4)], [.ref 256, .int (GU_3 0 4)], (126, 120, L, [Y, T, H2, H, RU, RV, ST, NS, I0, I1, I2, BO_2, FI, RG, GU_3, PU, MA, MN, MS, OT, SC], [256, 192, 320, 384, w, 256, 576, 640, 704], Lg)) o from ev_b 4 e (fun n => Eq.refl _)
      by_cases zc9 : ((GU_3 0 4) &&& (H 0 5)) ≠ 0
      · have h := itp h zc9
        suffices e : Ev (d + 6, 0, 0, 316, 54, [.val (.ref 64), .val (.ref 960), .val (.int x4)], [], (126, 120, L, [Y, T, H2, H, RU, RV, ST, NS, I0, I1, I2, BO_2, FI, RG, GU_3, PU, MA, MN, MS, OT, SC], [256, 192, 320, 384, w, 256, 576, 640, 704], Lg)) o from ev_t (c := ((GU_3 0 4) &&& (H 0 5)) ≠ 0) _ _ 3  zc9 e (fun n => Eq.refl _)
        have ze10 := Option.some.inj h
        subst ze10
        exact ev_rete 2 ho (fun n => Eq.refl _)
      · have h := itn h zc9
        suffices e : Ev (d + 6, 0, 0, 316, 47, [.val (.ref 64), .val (.ref 960), .val (.int x4)], [], (126, 120, L, [Y, T, H2, H, RU, RV, ST, NS, I0, I1, I2, BO_2, FI, RG, GU_3, PU, MA, MN, MS, OT, SC], [256, 192, 320, 384, w, 256, 576, 640, 704], Lg)) o from ev_f (c := ((GU_3 0 4) &&& (H 0 5)) ≠ 0) _ _ 3  zc9 e (fun n => Eq.refl _)
        obtain ⟨⟨x6, BO_7⟩, zh11, h⟩ := bnd h
        have zh11 : f_Guide_lawfulAtOnce H BO_2 GU_3 = some (x6, BO_7) := zh11
        have ze12 := R_f_Guide_lawfulAtOnce_1 (d + 0) Y T H2 H RU RV ST NS I0 I1 I2 BO_2 FI RG GU_3 PU MA MN MS OT SC 256 192 320 384 w 576 640 704 L Lg zh11
        suffices e : Ev (d + 6, 0, 0, 316, 51, [.val (.ref 64), .val (.ref 960), .val (.int x4)], [.int x6], (126, 120, L, [Y, T, H2, H, RU, RV, ST, NS, I0, I1, I2, BO_7, FI, RG, GU_3, PU, MA, MN, MS, OT, SC], [256, 192, 320, 384, w, 256, 576, 640, 704], Lg)) o from ev_call (fun v μ => (d + 6, 0, 0, 316, 51, [.val (.ref 64), .val (.ref 960), .val (.int x4)], v.toList ++ [], μ)) 2 ze12 e (fun n => Eq.refl _)
        by_cases zc13 : x6 ≠ 0
        · have h := itp h zc13
          suffices e : Ev (d + 6, 0, 0, 316, 56, [.val (.ref 64), .val (.ref 960), .val (.int x4)], [], (126, 120, L, [Y, T, H2, H, RU, RV, ST, NS, I0, I1, I2, BO_7, FI, RG, GU_3, PU, MA, MN, MS, OT, SC], [256, 192, 320, 384, w, 256, 576, 640, 704], Lg)) o from ev_t (c := x6 ≠ 0) _ _ 1  zc13 e (fun n => Eq.refl _)
          obtain ⟨BO_8, zh14, h⟩ := bnd h
          have zh14 : f_Guide_goAll H BO_7 GU_3 = some BO_8 := zh14
          have ze15 := R_f_Guide_goAll_1 (d + 4) Y T H2 H RU RV ST NS I0 I1 I2 BO_7 FI RG GU_3 PU MA MN MS OT SC 256 192 320 384 w 576 640 704 L Lg zh14
          suffices e : Ev (d + 6, 0, 0, 316, 60, [.val (.ref 64), .val (.ref 960), .val (.int x4)], [], (126, 120, L, [Y, T, H2, H, RU, RV, ST, NS, I0, I1, I2, BO_8, FI, RG, GU_3, PU, MA, MN, MS, OT, SC], [256, 192, 320, 384, w, 256, 576, 640, 704], Lg)) o from ev_call (fun v μ => (d + 6, 0, 0, 316, 60, [.val (.ref 64), .val (.ref 960), .val (.int x4)], v.toList ++ [], μ)) 2 ze15 e (fun n => Eq.refl _)
          obtain ⟨BO_9, zh16, h⟩ := bnd h
          have zh16 : f_Board_countMoved H BO_8 (NS 1) = some BO_9 := zh16
          have ze17 := R_f_Board_countMoved_1 (d + 5) Y T H2 H RU RV ST NS I0 I1 I2 BO_8 FI RG GU_3 PU MA MN MS OT SC 256 192 320 384 w 576 640 704 L Lg zh16
          suffices e : Ev (d + 6, 0, 0, 316, 74, [.val (.ref 64), .val (.ref 960), .val (.int x4)], [], (126, 120, L, [Y, T, H2, H, RU, RV, ST, NS, I0, I1, I2, BO_9, FI, RG, GU_3, PU, MA, MN, MS, OT, SC], [256, 192, 320, 384, w, 256, 576, 640, 704], Lg)) o from ev_call (fun v μ => (d + 6, 0, 0, 316, 74, [.val (.ref 64), .val (.ref 960), .val (.int x4)], v.toList ++ [], μ)) 6 ze17 e (fun n => Eq.refl _)
          obtain ⟨NS_10, zh18, h⟩ := bnd h
          have zh18 : f_State_act NS BO_9 = some NS_10 := zh18
          have ze19 := R_f_State_act_0 (d + 4) Y T H2 H RU RV ST NS I0 I1 I2 BO_9 FI RG GU_3 PU MA MN MS OT SC 256 192 320 384 w 256 576 640 704 L Lg zh18
          suffices e : Ev (d + 6, 0, 0, 316, 85, [.val (.ref 64), .val (.ref 960), .val (.int x4)], [], (126, 120, L, [Y, T, H2, H, RU, RV, ST, NS_10, I0, I1, I2, BO_9, FI, RG, GU_3, PU, MA, MN, MS, OT, SC], [256, 192, 320, 384, w, 256, 576, 640, 704], Lg)) o from ev_call (fun v μ => (d + 6, 0, 0, 316, 85, [.val (.ref 64), .val (.ref 960), .val (.int x4)], v.toList ++ [], μ)) 5 ze19 e (fun n => Eq.refl _)
          have ze20 := Option.some.inj h
          subst ze20
          exact ev_rete 2 ho (fun n => Eq.refl _)
        · have h := itn h zc13
          suffices e : Ev (d + 6, 0, 0, 316, 54, [.val (.ref 64), .val (.ref 960), .val (.int x4)], [], (126, 120, L, [Y, T, H2, H, RU, RV, ST, NS, I0, I1, I2, BO_7, FI, RG, GU_3, PU, MA, MN, MS, OT, SC], [256, 192, 320, 384, w, 256, 576, 640, 704], Lg)) o from ev_f (c := x6 ≠ 0) _ _ 1  zc13 e (fun n => Eq.refl _)
          have ze21 := Option.some.inj h
          subst ze21
          exact ev_rete 2 ho (fun n => Eq.refl _)
    · have h := itn h zc8
      suffices e : Ev (d + 6, 0, 0, 316, 29, [.val (.ref 64), .val (.ref 960), .val (.int x4)], [], (126, 120, L, [Y, T, H2, H, RU, RV, ST, NS, I0, I1, I2, BO_2, FI, RG, GU_3, PU, MA, MN, MS, OT, SC], [256, 192, 320, 384, w, 256, 576, 640, 704], Lg)) o from ev_f (c := x5 = 0) _ _ 1  zc8 e (fun n => Eq.refl _)
      have ze22 := Option.some.inj h
      subst ze22
      exact ev_rete 2 ho (fun n => Eq.refl _)
  · have h := itn h zc5
    suffices e : Ev (d + 6, 0, 0, 316, 17, [.val (.ref 64), .val (.ref 960), .val (.int x4)], [], (126, 120, L, [Y, T, H2, H, RU, RV, ST, NS, I0, I1, I2, BO_2, FI, RG, GU_3, PU, MA, MN, MS, OT, SC], [256, 192, 320, 384, w, 256, 576, 640, 704], Lg)) o from ev_f (c := x4 ≠ 0) _ _ 3  zc5 e (fun n => Eq.refl _)
    have ze23 := Option.some.inj h
    subst ze23
    exact ev_rete 2 ho (fun n => Eq.refl _)
set_option maxRecDepth 1000000 in
set_option maxHeartbeats 4000000 in
theorem R_f_Y_follow_3 (d : Nat) (Y T H2 H RV RU ST NS I0 I1 I2 BO FI RG GU PU MA MN MS OT SC : Nat → Nat → Int32) (w r5 : Nat) (L : Nat) (Lg : Int64) {r : Int32 × (Nat → Nat → Int32) × (Nat → Nat → Int32) × (Nat → Nat → Int32)} (h : f_Y_follow H NS BO GU = some r) : Ev (d + 6, 0, 0, 316, 0, [.val (.ref 64), .val a_unk, .val a_unk], [], (126, 120, L, [Y, T, H2, H, RV, RU, ST, NS, I0, I1, I2, BO, FI, RG, GU, PU, MA, MN, MS, OT, SC], [256, 192, 384, 320, w, r5, 576, 640, 704], Lg)) ((0, some (.int r.1), (126, 120, L, [Y, T, H2, H, RV, RU, ST, r.2.1, I0, I1, I2, r.2.2.1, FI, RG, r.2.2.2, PU, MA, MN, MS, OT, SC], [256, 192, 384, 320, w, 256, 576, 640, 704], Lg)) : AOut) := by
  suffices key : ∀ o : AOut, ((0, some (.int r.1), (126, 120, L, [Y, T, H2, H, RV, RU, ST, r.2.1, I0, I1, I2, r.2.2.1, FI, RG, r.2.2.2, PU, MA, MN, MS, OT, SC], [256, 192, 384, 320, w, 256, 576, 640, 704], Lg)) : AOut) = o → Ev (d + 6, 0, 0, 316, 0, [.val (.ref 64), .val a_unk, .val a_unk], [], (126, 120, L, [Y, T, H2, H, RV, RU, ST, NS, I0, I1, I2, BO, FI, RG, GU, PU, MA, MN, MS, OT, SC], [256, 192, 384, 320, w, r5, 576, 640, 704], Lg)) o from key _ rfl
  intro o ho
  obtain ⟨⟨BO_2, GU_3⟩, zh1, h⟩ := bnd h
  have zh1 : f_Y_lookAhead H NS BO GU = some (BO_2, GU_3) := zh1
  have ze2 := R_f_Y_lookAhead_3 (d + 2) Y T H2 H RV RU ST NS I0 I1 I2 BO FI RG GU PU MA MN MS OT SC w r5 L Lg zh1
  suffices e : Ev (d + 6, 0, 0, 316, 4, [.val (.ref 64), .val a_unk, .val a_unk], [.ref 960], (126, 120, L, [Y, T, H2, H, RV, RU, ST, NS, I0, I1, I2, BO_2, FI, RG, GU_3, PU, MA, MN, MS, OT, SC], [256, 192, 384, 320, w, 256, 576, 640, 704], Lg)) o from ev_call (fun v μ => (d + 6, 0, 0, 316, 4, [.val (.ref 64), .val a_unk, .val a_unk], v.toList ++ [], μ)) 2 ze2 e (fun n => Eq.refl _)
  obtain ⟨x4, zh3, h⟩ := bnd h
  have zh3 : f_Integer_bitCount (GU_3 0 4) = some x4 := zh3
  have ze4 := R_f_Integer_bitCount_0 (d + 5) Y T H2 H RV RU ST NS I0 I1 I2 BO_2 FI RG GU_3 PU MA MN MS OT SC 256 192 384 320 w 256 576 640 704 L Lg (GU_3 0 4) zh3
  suffices e : Ev (d + 6, 0, 0, 316, 12, [.val (.ref 64), .val (.ref 960), .val a_unk], [.int x4], (126, 120, L, [Y, T, H2, H, RV, RU, ST, NS, I0, I1, I2, BO_2, FI, RG, GU_3, PU, MA, MN, MS, OT, SC], [256, 192, 384, 320, w, 256, 576, 640, 704], Lg)) o from ev_call (fun v μ => (d + 6, 0, 0, 316, 12, [.val (.ref 64), .val (.ref 960), .val a_unk], v.toList ++ [], μ)) 4 ze4 e (fun n => Eq.refl _)
  by_cases zc5 : x4 ≠ 0
  · have h := itp h zc5
    suffices e : Ev (d + 6, 0, 0, 316, 19, [.val (.ref 64), .val (.ref 960), .val (.int x4)], [], (126, 120, L, [Y, T, H2, H, RV, RU, ST, NS, I0, I1, I2, BO_2, FI, RG, GU_3, PU, MA, MN, MS, OT, SC], [256, 192, 384, 320, w, 256, 576, 640, 704], Lg)) o from ev_t (c := x4 ≠ 0) _ _ 3  zc5 e (fun n => Eq.refl _)
    obtain ⟨x5, zh6, h⟩ := bnd h
    have zh6 : f_State_isFull NS = some x5 := zh6
    have ze7 := R_f_State_isFull_0 (d + 5) Y T H2 H RV RU ST NS I0 I1 I2 BO_2 FI RG GU_3 PU MA MN MS OT SC 256 192 384 320 w 256 576 640 704 L Lg zh6
    suffices e : Ev (d + 6, 0, 0, 316, 26, [.val (.ref 64), .val (.ref 960), .val (.int x4)], [.int x5], (126, 120, L, [Y, T, H2, H, RV, RU, ST, NS, I0, I1, I2, BO_2, FI, RG, GU_3, PU, MA, MN, MS, OT, SC], [256, 192, 384, 320, w, 256, 576, 640, 704], Lg)) o from ev_call (fun v μ => (d + 6, 0, 0, 316, 26, [.val (.ref 64), .val (.ref 960), .val (.int x4)], v.toList ++ [], μ)) 3 ze7 e (fun n => Eq.refl _)
    by_cases zc8 : x5 = 0
    · have h := itp h zc8
      suffices e : Ev (d + 6, 0, 0, 316, 32, [.val (.ref 64), .val (.ref 960), .val (.int x4)], [], (126, 120, L, [Y, T, H2, H, RV, RU, ST, NS, I0, I1, I2, BO_2, FI, RG, GU_3, PU, MA, MN, MS, OT, SC], [256, 192, 384, 320, w, 256, 576, 640, 704], Lg)) o from ev_t (c := x5 = 0) _ _ 1  zc8 e (fun n => Eq.refl _)
      suffices e : Ev (d + 6, 0, 0, 316, 40, [.val (.ref 64), .val (.ref 960), .val (.int x4)], [.ref 256, .int (GU_3 0 4)], (126, 120, L, [Y, T, H2, H, RV, RU, ST, NS, I0, I1, I2, BO_2, FI, RG, GU_3, PU, MA, MN, MS, OT, SC], [256, 192, 384, 320, w, 256, 576, 640, 704], Lg)) o from ev_b 4 e (fun n => Eq.refl _)
      by_cases zc9 : ((GU_3 0 4) &&& (H 0 5)) ≠ 0
      · have h := itp h zc9
        suffices e : Ev (d + 6, 0, 0, 316, 54, [.val (.ref 64), .val (.ref 960), .val (.int x4)], [], (126, 120, L, [Y, T, H2, H, RV, RU, ST, NS, I0, I1, I2, BO_2, FI, RG, GU_3, PU, MA, MN, MS, OT, SC], [256, 192, 384, 320, w, 256, 576, 640, 704], Lg)) o from ev_t (c := ((GU_3 0 4) &&& (H 0 5)) ≠ 0) _ _ 3  zc9 e (fun n => Eq.refl _)
        have ze10 := Option.some.inj h
        subst ze10
        exact ev_rete 2 ho (fun n => Eq.refl _)
      · have h := itn h zc9
        suffices e : Ev (d + 6, 0, 0, 316, 47, [.val (.ref 64), .val (.ref 960), .val (.int x4)], [], (126, 120, L, [Y, T, H2, H, RV, RU, ST, NS, I0, I1, I2, BO_2, FI, RG, GU_3, PU, MA, MN, MS, OT, SC], [256, 192, 384, 320, w, 256, 576, 640, 704], Lg)) o from ev_f (c := ((GU_3 0 4) &&& (H 0 5)) ≠ 0) _ _ 3  zc9 e (fun n => Eq.refl _)
        obtain ⟨⟨x6, BO_7⟩, zh11, h⟩ := bnd h
        have zh11 : f_Guide_lawfulAtOnce H BO_2 GU_3 = some (x6, BO_7) := zh11
        have ze12 := R_f_Guide_lawfulAtOnce_1 (d + 0) Y T H2 H RV RU ST NS I0 I1 I2 BO_2 FI RG GU_3 PU MA MN MS OT SC 256 192 384 320 w 576 640 704 L Lg zh11
        suffices e : Ev (d + 6, 0, 0, 316, 51, [.val (.ref 64), .val (.ref 960), .val (.int x4)], [.int x6], (126, 120, L, [Y, T, H2, H, RV, RU, ST, NS, I0, I1, I2, BO_7, FI, RG, GU_3, PU, MA, MN, MS, OT, SC], [256, 192, 384, 320, w, 256, 576, 640, 704], Lg)) o from ev_call (fun v μ => (d + 6, 0, 0, 316, 51, [.val (.ref 64), .val (.ref 960), .val (.int x4)], v.toList ++ [], μ)) 2 ze12 e (fun n => Eq.refl _)
        by_cases zc13 : x6 ≠ 0
        · have h := itp h zc13
          suffices e : Ev (d + 6, 0, 0, 316, 56, [.val (.ref 64), .val (.ref 960), .val (.int x4)], [], (126, 120, L, [Y, T, H2, H, RV, RU, ST, NS, I0, I1, I2, BO_7, FI, RG, GU_3, PU, MA, MN, MS, OT, SC], [256, 192, 384, 320, w, 256, 576, 640, 704], Lg)) o from ev_t (c := x6 ≠ 0) _ _ 1  zc13 e (fun n => Eq.refl _)
          obtain ⟨BO_8, zh14, h⟩ := bnd h
          have zh14 : f_Guide_goAll H BO_7 GU_3 = some BO_8 := zh14
          have ze15 := R_f_Guide_goAll_1 (d + 4) Y T H2 H RV RU ST NS I0 I1 I2 BO_7 FI RG GU_3 PU MA MN MS OT SC 256 192 384 320 w 576 640 704 L Lg zh14
          suffices e : Ev (d + 6, 0, 0, 316, 60, [.val (.ref 64), .val (.ref 960), .val (.int x4)], [], (126, 120, L, [Y, T, H2, H, RV, RU, ST, NS, I0, I1, I2, BO_8, FI, RG, GU_3, PU, MA, MN, MS, OT, SC], [256, 192, 384, 320, w, 256, 576, 640, 704], Lg)) o from ev_call (fun v μ => (d + 6, 0, 0, 316, 60, [.val (.ref 64), .val (.ref 960), .val (.int x4)], v.toList ++ [], μ)) 2 ze15 e (fun n => Eq.refl _)
          obtain ⟨BO_9, zh16, h⟩ := bnd h
          have zh16 : f_Board_countMoved H BO_8 (NS 1) = some BO_9 := zh16
          have ze17 := R_f_Board_countMoved_1 (d + 5) Y T H2 H RV RU ST NS I0 I1 I2 BO_8 FI RG GU_3 PU MA MN MS OT SC 256 192 384 320 w 576 640 704 L Lg zh16
          suffices e : Ev (d + 6, 0, 0, 316, 74, [.val (.ref 64), .val (.ref 960), .val (.int x4)], [], (126, 120, L, [Y, T, H2, H, RV, RU, ST, NS, I0, I1, I2, BO_9, FI, RG, GU_3, PU, MA, MN, MS, OT, SC], [256, 192, 384, 320, w, 256, 576, 640, 704], Lg)) o from ev_call (fun v μ => (d + 6, 0, 0, 316, 74, [.val (.ref 64), .val (.ref 960), .val (.int x4)], v.toList ++ [], μ)) 6 ze17 e (fun n => Eq.refl _)
          obtain ⟨NS_10, zh18, h⟩ := bnd h
          have zh18 : f_State_act NS BO_9 = some NS_10 := zh18
          have ze19 := R_f_State_act_0 (d + 4) Y T H2 H RV RU ST NS I0 I1 I2 BO_9 FI RG GU_3 PU MA MN MS OT SC 256 192 384 320 w 256 576 640 704 L Lg zh18
          suffices e : Ev (d + 6, 0, 0, 316, 85, [.val (.ref 64), .val (.ref 960), .val (.int x4)], [], (126, 120, L, [Y, T, H2, H, RV, RU, ST, NS_10, I0, I1, I2, BO_9, FI, RG, GU_3, PU, MA, MN, MS, OT, SC], [256, 192, 384, 320, w, 256, 576, 640, 704], Lg)) o from ev_call (fun v μ => (d + 6, 0, 0, 316, 85, [.val (.ref 64), .val (.ref 960), .val (.int x4)], v.toList ++ [], μ)) 5 ze19 e (fun n => Eq.refl _)
          have ze20 := Option.some.inj h
          subst ze20
          exact ev_rete 2 ho (fun n => Eq.refl _)
        · have h := itn h zc13
          suffices e : Ev (d + 6, 0, 0, 316, 54, [.val (.ref 64), .val (.ref 960), .val (.int x4)], [], (126, 120, L, [Y, T, H2, H, RV, RU, ST, NS, I0, I1, I2, BO_7, FI, RG, GU_3, PU, MA, MN, MS, OT, SC], [256, 192, 384, 320, w, 256, 576, 640, 704], Lg)) o from ev_f (c := x6 ≠ 0) _ _ 1  zc13 e (fun n => Eq.refl _)
          have ze21 := Option.some.inj h
          subst ze21
          exact ev_rete 2 ho (fun n => Eq.refl _)
    · have h := itn h zc8
      suffices e : Ev (d + 6, 0, 0, 316, 29, [.val (.ref 64), .val (.ref 960), .val (.int x4)], [], (126, 120, L, [Y, T, H2, H, RV, RU, ST, NS, I0, I1, I2, BO_2, FI, RG, GU_3, PU, MA, MN, MS, OT, SC], [256, 192, 384, 320, w, 256, 576, 640, 704], Lg)) o from ev_f (c := x5 = 0) _ _ 1  zc8 e (fun n => Eq.refl _)
      have ze22 := Option.some.inj h
      subst ze22
      exact ev_rete 2 ho (fun n => Eq.refl _)
  · have h := itn h zc5
    suffices e : Ev (d + 6, 0, 0, 316, 17, [.val (.ref 64), .val (.ref 960), .val (.int x4)], [], (126, 120, L, [Y, T, H2, H, RV, RU, ST, NS, I0, I1, I2, BO_2, FI, RG, GU_3, PU, MA, MN, MS, OT, SC], [256, 192, 384, 320, w, 256, 576, 640, 704], Lg)) o from ev_f (c := x4 ≠ 0) _ _ 3  zc5 e (fun n => Eq.refl _)
    have ze23 := Option.some.inj h
    subst ze23
    exact ev_rete 2 ho (fun n => Eq.refl _)
set_option maxRecDepth 1000000 in
set_option maxHeartbeats 4000000 in
theorem R_f_Y_pair_0 (d : Nat) (Y T H H2 RU RV ST NS I0 I1 I2 BO FI RG GU PU MA MN MS OT SC : Nat → Nat → Int32) (w r5 : Nat) (L : Nat) (Lg : Int64) (p1 : Int32) (p2 : Int32) {r : Nat × Int32 × (Nat → Nat → Int32) × (Nat → Nat → Int32) × Nat} (h : f_Y_pair Y H NS BO 192 r5 p1 p2 = some r) : Ev (d + 3, 3, 24, 317, 0, [.val (.ref 64), .val (.int p1), .val (.int p2), .val a_unk], [], (126, 120, L, [Y, T, H, H2, RU, RV, ST, NS, I0, I1, I2, BO, FI, RG, GU, PU, MA, MN, MS, OT, SC], [192, 256, 320, 384, w, r5, 576, 640, 704], Lg)) ((r.1, a_ov r.1 (.int r.2.1), (126, 120, L, [r.2.2.1, T, H, H2, RU, RV, ST, NS, I0, I1, I2, r.2.2.2.1, FI, RG, GU, PU, MA, MN, MS, OT, SC], [192, 256, 320, 384, w, r.2.2.2.2, 576, 640, 704], Lg)) : AOut) := by
  suffices key : ∀ o : AOut, ((r.1, a_ov r.1 (.int r.2.1), (126, 120, L, [r.2.2.1, T, H, H2, RU, RV, ST, NS, I0, I1, I2, r.2.2.2.1, FI, RG, GU, PU, MA, MN, MS, OT, SC], [192, 256, 320, 384, w, r.2.2.2.2, 576, 640, 704], Lg)) : AOut) = o → Ev (d + 3, 3, 24, 317, 0, [.val (.ref 64), .val (.int p1), .val (.int p2), .val a_unk], [], (126, 120, L, [Y, T, H, H2, RU, RV, ST, NS, I0, I1, I2, BO, FI, RG, GU, PU, MA, MN, MS, OT, SC], [192, 256, 320, 384, w, r5, 576, 640, 704], Lg)) o from key _ rfl
  intro o ho
  obtain ⟨⟨q1, Y_2⟩, zh1, h⟩ := bnd h
  have zh1 : f_Y_needPerson Y H p1 = some (q1, Y_2) := zh1
  have ze2 := R_f_Y_needPerson_0 (d + 1) Y T H H2 RU RV ST NS I0 I1 I2 BO FI RG GU PU MA MN MS OT SC w r5 L Lg p1 zh1
  cases q1 with
  | zero =>
    have h := itp h rfl
    suffices e : Ev (d + 3, 2, 16, 317, 5, [.val (.ref 64), .val (.int p1), .val (.int p2), .val a_unk], [], (126, 120, L, [Y_2, T, H, H2, RU, RV, ST, NS, I0, I1, I2, BO, FI, RG, GU, PU, MA, MN, MS, OT, SC], [192, 256, 320, 384, w, r5, 576, 640, 704], Lg)) o from ev_call (fun v μ => (d + 3, 2, 16, 317, 5, [.val (.ref 64), .val (.int p1), .val (.int p2), .val a_unk], v.toList ++ [], μ)) 3 ze2 e (fun n => Eq.refl _)
    obtain ⟨⟨q3, Y_4⟩, zh3, h⟩ := bnd h
    have zh3 : f_Y_needPerson Y_2 H p2 = some (q3, Y_4) := zh3
    have ze4 := R_f_Y_needPerson_0 (d + 1) Y_2 T H H2 RU RV ST NS I0 I1 I2 BO FI RG GU PU MA MN MS OT SC w r5 L Lg p2 zh3
    cases q3 with
    | zero =>
      have h := itp h rfl
      suffices e : Ev (d + 3, 1, 8, 317, 10, [.val (.ref 64), .val (.int p1), .val (.int p2), .val a_unk], [], (126, 120, L, [Y_4, T, H, H2, RU, RV, ST, NS, I0, I1, I2, BO, FI, RG, GU, PU, MA, MN, MS, OT, SC], [192, 256, 320, 384, w, r5, 576, 640, 704], Lg)) o from ev_call (fun v μ => (d + 3, 1, 8, 317, 10, [.val (.ref 64), .val (.int p1), .val (.int p2), .val a_unk], v.toList ++ [], μ)) 3 ze4 e (fun n => Eq.refl _)
      obtain ⟨zt5, zh6, h⟩ := bnd h
      have zj7 : ∀ (v5 : Int32), v5 = zt5 → Ev (d + 3, 1, 8, 317, 21, [.val (.ref 64), .val (.int p1), .val (.int p2), .val a_unk], [.int v5, .ref 64], (126, 120, L, [Y_4, T, H, H2, RU, RV, ST, NS, I0, I1, I2, BO, FI, RG, GU, PU, MA, MN, MS, OT, SC], [192, 256, 320, 384, w, r5, 576, 640, 704], Lg)) o := by
        intro v5 ze8
        subst ze8
        obtain ⟨⟨q6, Y_7⟩, zh9, h⟩ := bnd h
        have zh9 : f_Y_refuseUnless Y_4 v5 = some (q6, Y_7) := zh9
        have ze10 := R_f_Y_refuseUnless_0 (d + 2) Y_4 T H H2 RU RV ST NS I0 I1 I2 BO FI RG GU PU MA MN MS OT SC w r5 L Lg v5 zh9
        cases q6 with
        | zero =>
          have h := itp h rfl
          suffices e : Ev (d + 3, 0, 0, 317, 24, [.val (.ref 64), .val (.int p1), .val (.int p2), .val a_unk], [], (126, 120, L, [Y_7, T, H, H2, RU, RV, ST, NS, I0, I1, I2, BO, FI, RG, GU, PU, MA, MN, MS, OT, SC], [192, 256, 320, 384, w, r5, 576, 640, 704], Lg)) o from ev_call (fun v μ => (d + 3, 0, 0, 317, 24, [.val (.ref 64), .val (.int p1), .val (.int p2), .val a_unk], v.toList ++ [], μ)) 1 ze10 e (fun n => Eq.refl _)
          suffices e : Ev (d + 3, 0, 0, 317, 28, [.val (.ref 64), .val (.int p1), .val (.int p2), .val a_unk], [.ref 192], (126, 120, L, [Y_7, T, H, H2, RU, RV, ST, NS, I0, I1, I2, BO, FI, RG, GU, PU, MA, MN, MS, OT, SC], [192, 256, 320, 384, w, r5, 576, 640, 704], Lg)) o from ev_b 2 e (fun n => Eq.refl _)
          obtain ⟨x8, zh11, h⟩ := bnd h
          have zh11 : f_House_meetingsOf H p1 = some x8 := zh11
          have ze12 := R_f_House_meetingsOf_0 (d + 1) Y_7 T H H2 RU RV ST NS I0 I1 I2 BO FI RG GU PU MA MN MS OT SC 192 256 320 384 w r5 576 640 704 L Lg p1 zh11
          suffices e : Ev (d + 3, 0, 0, 317, 32, [.val (.ref 64), .val (.int p1), .val (.int p2), .val a_unk], [.int x8], (126, 120, L, [Y_7, T, H, H2, RU, RV, ST, NS, I0, I1, I2, BO, FI, RG, GU, PU, MA, MN, MS, OT, SC], [192, 256, 320, 384, w, r5, 576, 640, 704], Lg)) o from ev_call (fun v μ => (d + 3, 0, 0, 317, 32, [.val (.ref 64), .val (.int p1), .val (.int p2), .val a_unk], v.toList ++ [], μ)) 2 ze12 e (fun n => Eq.refl _)
          suffices e : Ev (d + 3, 0, 0, 317, 36, [.val (.ref 64), .val (.int p1), .val (.int p2), .val a_unk], [.ref 192, .int x8], (126, 120, L, [Y_7, T, H, H2, RU, RV, ST, NS, I0, I1, I2, BO, FI, RG, GU, PU, MA, MN, MS, OT, SC], [192, 256, 320, 384, w, r5, 576, 640, 704], Lg)) o from ev_b 2 e (fun n => Eq.refl _)
          obtain ⟨x9, zh13, h⟩ := bnd h
          have zh13 : f_House_meetingsOf H p2 = some x9 := zh13
          have ze14 := R_f_House_meetingsOf_0 (d + 1) Y_7 T H H2 RU RV ST NS I0 I1 I2 BO FI RG GU PU MA MN MS OT SC 192 256 320 384 w r5 576 640 704 L Lg p2 zh13
          suffices e : Ev (d + 3, 0, 0, 317, 40, [.val (.ref 64), .val (.int p1), .val (.int p2), .val a_unk], [.int x9, .int x8], (126, 120, L, [Y_7, T, H, H2, RU, RV, ST, NS, I0, I1, I2, BO, FI, RG, GU, PU, MA, MN, MS, OT, SC], [192, 256, 320, 384, w, r5, 576, 640, 704], Lg)) o from ev_call (fun v μ => (d + 3, 0, 0, 317, 40, [.val (.ref 64), .val (.int p1), .val (.int p2), .val a_unk], v.toList ++ [.int x8], μ)) 2 ze14 e (fun n => Eq.refl _)
          obtain ⟨BO_11, zh15, h⟩ := bnd h
          have zh15 : f_Y_lookNow H NS BO = some BO_11 := zh15
          have ze16 := R_f_Y_lookNow_0 (d + 0) Y_7 T H H2 RU RV ST NS I0 I1 I2 BO FI RG GU PU MA MN MS OT SC w r5 L Lg zh15
          suffices e : Ev (d + 3, 0, 0, 317, 47, [.val (.ref 64), .val (.int p1), .val (.int p2), .val (.int (x8 &&& x9))], [.ref 768, .int (x8 &&& x9)], (126, 120, L, [Y_7, T, H, H2, RU, RV, ST, NS, I0, I1, I2, BO_11, FI, RG, GU, PU, MA, MN, MS, OT, SC], [192, 256, 320, 384, w, 192, 576, 640, 704], Lg)) o from ev_call (fun v μ => (d + 3, 0, 0, 317, 47, [.val (.ref 64), .val (.int p1), .val (.int p2), .val (.int (x8 &&& x9))], v.toList ++ [.int (x8 &&& x9)], μ)) 5 ze16 e (fun n => Eq.refl _)
          obtain ⟨x12, zh17, h⟩ := bnd h
          have zh17 : f_Board_placed H BO_11 = some x12 := zh17
          have ze18 := R_f_Board_placed_0 (d + 2) Y_7 T H H2 RU RV ST NS I0 I1 I2 BO_11 FI RG GU PU MA MN MS OT SC 192 256 320 384 w 576 640 704 L Lg zh17
          suffices e : Ev (d + 3, 0, 0, 317, 50, [.val (.ref 64), .val (.int p1), .val (.int p2), .val (.int (x8 &&& x9))], [.int x12, .int (x8 &&& x9)], (126, 120, L, [Y_7, T, H, H2, RU, RV, ST, NS, I0, I1, I2, BO_11, FI, RG, GU, PU, MA, MN, MS, OT, SC], [192, 256, 320, 384, w, 192, 576, 640, 704], Lg)) o from ev_call (fun v μ => (d + 3, 0, 0, 317, 50, [.val (.ref 64), .val (.int p1), .val (.int p2), .val (.int (x8 &&& x9))], v.toList ++ [.int (x8 &&& x9)], μ)) 1 ze18 e (fun n => Eq.refl _)
          obtain ⟨x13, zh19, h⟩ := bnd h
          have zh19 : f_Integer_bitCount ((x8 &&& x9) &&& x12) = some x13 := zh19
          have ze20 := R_f_Integer_bitCount_0 (d + 2) Y_7 T H H2 RU RV ST NS I0 I1 I2 BO_11 FI RG GU PU MA MN MS OT SC 192 256 320 384 w 192 576 640 704 L Lg ((x8 &&& x9) &&& x12) zh19
          suffices e : Ev (d + 3, 0, 0, 317, 54, [.val (.ref 64), .val (.int p1), .val (.int p2), .val (.int (x8 &&& x9))], [.int x13], (126, 120, L, [Y_7, T, H, H2, RU, RV, ST, NS, I0, I1, I2, BO_11, FI, RG, GU, PU, MA, MN, MS, OT, SC], [192, 256, 320, 384, w, 192, 576, 640, 704], Lg)) o from ev_call (fun v μ => (d + 3, 0, 0, 317, 54, [.val (.ref 64), .val (.int p1), .val (.int p2), .val (.int (x8 &&& x9))], v.toList ++ [], μ)) 2 ze20 e (fun n => Eq.refl _)
          have ze21 := Option.some.inj h
          subst ze21
          exact ev_rete 1 ho (fun n => Eq.refl _)
        | succ q6 =>
          have h := itn h (Nat.succ_ne_zero q6)
          have ze22 := Option.some.inj h
          subst ze22
          subst ho
          exact ev_thr (fun v μ => (d + 3, 0, 0, 317, 24, [.val (.ref 64), .val (.int p1), .val (.int p2), .val a_unk], v.toList ++ [], μ)) 1 ze10 (fun n => Eq.refl _) (fun n => rfl)
      by_cases zc23 : p1 = p2
      · have zh6 := itp zh6 zc23
        suffices e : Ev (d + 3, 1, 8, 317, 20, [.val (.ref 64), .val (.int p1), .val (.int p2), .val a_unk], [.ref 64], (126, 120, L, [Y_4, T, H, H2, RU, RV, ST, NS, I0, I1, I2, BO, FI, RG, GU, PU, MA, MN, MS, OT, SC], [192, 256, 320, 384, w, r5, 576, 640, 704], Lg)) o from ev_t (c := p1 = p2) _ _ 4  zc23 e (fun n => Eq.refl _)
        exact ev_b 1 (zj7 0 (Option.some.inj zh6) ) (fun n => Eq.refl _)
      · have zh6 := itn zh6 zc23
        suffices e : Ev (d + 3, 1, 8, 317, 16, [.val (.ref 64), .val (.int p1), .val (.int p2), .val a_unk], [.ref 64], (126, 120, L, [Y_4, T, H, H2, RU, RV, ST, NS, I0, I1, I2, BO, FI, RG, GU, PU, MA, MN, MS, OT, SC], [192, 256, 320, 384, w, r5, 576, 640, 704], Lg)) o from ev_f (c := p1 = p2) _ _ 4  zc23 e (fun n => Eq.refl _)
        exact ev_b 2 (zj7 1 (Option.some.inj zh6) ) (fun n => Eq.refl _)
    | succ q3 =>
      have h := itn h (Nat.succ_ne_zero q3)
      have ze24 := Option.some.inj h
      subst ze24
      subst ho
      exact ev_thr (fun v μ => (d + 3, 1, 8, 317, 10, [.val (.ref 64), .val (.int p1), .val (.int p2), .val a_unk], v.toList ++ [], μ)) 3 ze4 (fun n => Eq.refl _) (fun n => rfl)
  | succ q1 =>
    have h := itn h (Nat.succ_ne_zero q1)
    have ze25 := Option.some.inj h
    subst ze25
    subst ho
    exact ev_thr (fun v μ => (d + 3, 2, 16, 317, 5, [.val (.ref 64), .val (.int p1), .val (.int p2), .val a_unk], v.toList ++ [], μ)) 3 ze2 (fun n => Eq.refl _) (fun n => rfl)
set_option maxRecDepth 1000000 in
set_option maxHeartbeats 4000000 in
theorem R_f_Y_pair_1 (d : Nat) (Y T H H2 RV RU ST NS I0 I1 I2 BO FI RG GU PU MA MN MS OT SC : Nat → Nat → Int32) (w r5 : Nat) (L : Nat) (Lg : Int64) (p1 : Int32) (p2 : Int32) {r : Nat × Int32 × (Nat → Nat → Int32) × (Nat → Nat → Int32) × Nat} (h : f_Y_pair Y H NS BO 192 r5 p1 p2 = some r) : Ev (d + 3, 3, 24, 317, 0, [.val (.ref 64), .val (.int p1), .val (.int p2), .val a_unk], [], (126, 120, L, [Y, T, H, H2, RV, RU, ST, NS, I0, I1, I2, BO, FI, RG, GU, PU, MA, MN, MS, OT, SC], [192, 256, 384, 320, w, r5, 576, 640, 704], Lg)) ((r.1, a_ov r.1 (.int r.2.1), (126, 120, L, [r.2.2.1, T, H, H2, RV, RU, ST, NS, I0, I1, I2, r.2.2.2.1, FI, RG, GU, PU, MA, MN, MS, OT, SC], [192, 256, 384, 320, w, r.2.2.2.2, 576, 640, 704], Lg)) : AOut) := by
  suffices key : ∀ o : AOut, ((r.1, a_ov r.1 (.int r.2.1), (126, 120, L, [r.2.2.1, T, H, H2, RV, RU, ST, NS, I0, I1, I2, r.2.2.2.1, FI, RG, GU, PU, MA, MN, MS, OT, SC], [192, 256, 384, 320, w, r.2.2.2.2, 576, 640, 704], Lg)) : AOut) = o → Ev (d + 3, 3, 24, 317, 0, [.val (.ref 64), .val (.int p1), .val (.int p2), .val a_unk], [], (126, 120, L, [Y, T, H, H2, RV, RU, ST, NS, I0, I1, I2, BO, FI, RG, GU, PU, MA, MN, MS, OT, SC], [192, 256, 384, 320, w, r5, 576, 640, 704], Lg)) o from key _ rfl
  intro o ho
  obtain ⟨⟨q1, Y_2⟩, zh1, h⟩ := bnd h
  have zh1 : f_Y_needPerson Y H p1 = some (q1, Y_2) := zh1
  have ze2 := R_f_Y_needPerson_1 (d + 1) Y T H H2 RV RU ST NS I0 I1 I2 BO FI RG GU PU MA MN MS OT SC w r5 L Lg p1 zh1
  cases q1 with
  | zero =>
    have h := itp h rfl
    suffices e : Ev (d + 3, 2, 16, 317, 5, [.val (.ref 64), .val (.int p1), .val (.int p2), .val a_unk], [], (126, 120, L, [Y_2, T, H, H2, RV, RU, ST, NS, I0, I1, I2, BO, FI, RG, GU, PU, MA, MN, MS, OT, SC], [192, 256, 384, 320, w, r5, 576, 640, 704], Lg)) o from ev_call (fun v μ => (d + 3, 2, 16, 317, 5, [.val (.ref 64), .val (.int p1), .val (.int p2), .val a_unk], v.toList ++ [], μ)) 3 ze2 e (fun n => Eq.refl _)
    obtain ⟨⟨q3, Y_4⟩, zh3, h⟩ := bnd h
    have zh3 : f_Y_needPerson Y_2 H p2 = some (q3, Y_4) := zh3
    have ze4 := R_f_Y_needPerson_1 (d + 1) Y_2 T H H2 RV RU ST NS I0 I1 I2 BO FI RG GU PU MA MN MS OT SC w r5 L Lg p2 zh3
    cases q3 with
    | zero =>
      have h := itp h rfl
      suffices e : Ev (d + 3, 1, 8, 317, 10, [.val (.ref 64), .val (.int p1), .val (.int p2), .val a_unk], [], (126, 120, L, [Y_4, T, H, H2, RV, RU, ST, NS, I0, I1, I2, BO, FI, RG, GU, PU, MA, MN, MS, OT, SC], [192, 256, 384, 320, w, r5, 576, 640, 704], Lg)) o from ev_call (fun v μ => (d + 3, 1, 8, 317, 10, [.val (.ref 64), .val (.int p1), .val (.int p2), .val a_unk], v.toList ++ [], μ)) 3 ze4 e (fun n => Eq.refl _)
      obtain ⟨zt5, zh6, h⟩ := bnd h
      have zj7 : ∀ (v5 : Int32), v5 = zt5 → Ev (d + 3, 1, 8, 317, 21, [.val (.ref 64), .val (.int p1), .val (.int p2), .val a_unk], [.int v5, .ref 64], (126, 120, L, [Y_4, T, H, H2, RV, RU, ST, NS, I0, I1, I2, BO, FI, RG, GU, PU, MA, MN, MS, OT, SC], [192, 256, 384, 320, w, r5, 576, 640, 704], Lg)) o := by
        intro v5 ze8
        subst ze8
        obtain ⟨⟨q6, Y_7⟩, zh9, h⟩ := bnd h
        have zh9 : f_Y_refuseUnless Y_4 v5 = some (q6, Y_7) := zh9
        have ze10 := R_f_Y_refuseUnless_1 (d + 2) Y_4 T H H2 RV RU ST NS I0 I1 I2 BO FI RG GU PU MA MN MS OT SC w r5 L Lg v5 zh9
        cases q6 with
        | zero =>
          have h := itp h rfl
          suffices e : Ev (d + 3, 0, 0, 317, 24, [.val (.ref 64), .val (.int p1), .val (.int p2), .val a_unk], [], (126, 120, L, [Y_7, T, H, H2, RV, RU, ST, NS, I0, I1, I2, BO, FI, RG, GU, PU, MA, MN, MS, OT, SC], [192, 256, 384, 320, w, r5, 576, 640, 704], Lg)) o from ev_call (fun v μ => (d + 3, 0, 0, 317, 24, [.val (.ref 64), .val (.int p1), .val (.int p2), .val a_unk], v.toList ++ [], μ)) 1 ze10 e (fun n => Eq.refl _)
          suffices e : Ev (d + 3, 0, 0, 317, 28, [.val (.ref 64), .val (.int p1), .val (.int p2), .val a_unk], [.ref 192], (126, 120, L, [Y_7, T, H, H2, RV, RU, ST, NS, I0, I1, I2, BO, FI, RG, GU, PU, MA, MN, MS, OT, SC], [192, 256, 384, 320, w, r5, 576, 640, 704], Lg)) o from ev_b 2 e (fun n => Eq.refl _)
          obtain ⟨x8, zh11, h⟩ := bnd h
          have zh11 : f_House_meetingsOf H p1 = some x8 := zh11
          have ze12 := R_f_House_meetingsOf_0 (d + 1) Y_7 T H H2 RV RU ST NS I0 I1 I2 BO FI RG GU PU MA MN MS OT SC 192 256 384 320 w r5 576 640 704 L Lg p1 zh11
          suffices e : Ev (d + 3, 0, 0, 317, 32, [.val (.ref 64), .val (.int p1), .val (.int p2), .val a_unk], [.int x8], (126, 120, L, [Y_7, T, H, H2, RV, RU, ST, NS, I0, I1, I2, BO, FI, RG, GU, PU, MA, MN, MS, OT, SC], [192, 256, 384, 320, w, r5, 576, 640, 704], Lg)) o from ev_call (fun v μ => (d + 3, 0, 0, 317, 32, [.val (.ref 64), .val (.int p1), .val (.int p2), .val a_unk], v.toList ++ [], μ)) 2 ze12 e (fun n => Eq.refl _)
          suffices e : Ev (d + 3, 0, 0, 317, 36, [.val (.ref 64), .val (.int p1), .val (.int p2), .val a_unk], [.ref 192, .int x8], (126, 120, L, [Y_7, T, H, H2, RV, RU, ST, NS, I0, I1, I2, BO, FI, RG, GU, PU, MA, MN, MS, OT, SC], [192, 256, 384, 320, w, r5, 576, 640, 704], Lg)) o from ev_b 2 e (fun n => Eq.refl _)
          obtain ⟨x9, zh13, h⟩ := bnd h
          have zh13 : f_House_meetingsOf H p2 = some x9 := zh13
          have ze14 := R_f_House_meetingsOf_0 (d + 1) Y_7 T H H2 RV RU ST NS I0 I1 I2 BO FI RG GU PU MA MN MS OT SC 192 256 384 320 w r5 576 640 704 L Lg p2 zh13
          suffices e : Ev (d + 3, 0, 0, 317, 40, [.val (.ref 64), .val (.int p1), .val (.int p2), .val a_unk], [.int x9, .int x8], (126, 120, L, [Y_7, T, H, H2, RV, RU, ST, NS, I0, I1, I2, BO, FI, RG, GU, PU, MA, MN, MS, OT, SC], [192, 256, 384, 320, w, r5, 576, 640, 704], Lg)) o from ev_call (fun v μ => (d + 3, 0, 0, 317, 40, [.val (.ref 64), .val (.int p1), .val (.int p2), .val a_unk], v.toList ++ [.int x8], μ)) 2 ze14 e (fun n => Eq.refl _)
          obtain ⟨BO_11, zh15, h⟩ := bnd h
          have zh15 : f_Y_lookNow H NS BO = some BO_11 := zh15
          have ze16 := R_f_Y_lookNow_1 (d + 0) Y_7 T H H2 RV RU ST NS I0 I1 I2 BO FI RG GU PU MA MN MS OT SC w r5 L Lg zh15
          suffices e : Ev (d + 3, 0, 0, 317, 47, [.val (.ref 64), .val (.int p1), .val (.int p2), .val (.int (x8 &&& x9))], [.ref 768, .int (x8 &&& x9)], (126, 120, L, [Y_7, T, H, H2, RV, RU, ST, NS, I0, I1, I2, BO_11, FI, RG, GU, PU, MA, MN, MS, OT, SC], [192, 256, 384, 320, w, 192, 576, 640, 704], Lg)) o from ev_call (fun v μ => (d + 3, 0, 0, 317, 47, [.val (.ref 64), .val (.int p1), .val (.int p2), .val (.int (x8 &&& x9))], v.toList ++ [.int (x8 &&& x9)], μ)) 5 ze16 e (fun n => Eq.refl _)
          obtain ⟨x12, zh17, h⟩ := bnd h
          have zh17 : f_Board_placed H BO_11 = some x12 := zh17
          have ze18 := R_f_Board_placed_0 (d + 2) Y_7 T H H2 RV RU ST NS I0 I1 I2 BO_11 FI RG GU PU MA MN MS OT SC 192 256 384 320 w 576 640 704 L Lg zh17
          suffices e : Ev (d + 3, 0, 0, 317, 50, [.val (.ref 64), .val (.int p1), .val (.int p2), .val (.int (x8 &&& x9))], [.int x12, .int (x8 &&& x9)], (126, 120, L, [Y_7, T, H, H2, RV, RU, ST, NS, I0, I1, I2, BO_11, FI, RG, GU, PU, MA, MN, MS, OT, SC], [192, 256, 384, 320, w, 192, 576, 640, 704], Lg)) o from ev_call (fun v μ => (d + 3, 0, 0, 317, 50, [.val (.ref 64), .val (.int p1), .val (.int p2), .val (.int (x8 &&& x9))], v.toList ++ [.int (x8 &&& x9)], μ)) 1 ze18 e (fun n => Eq.refl _)
          obtain ⟨x13, zh19, h⟩ := bnd h
          have zh19 : f_Integer_bitCount ((x8 &&& x9) &&& x12) = some x13 := zh19
          have ze20 := R_f_Integer_bitCount_0 (d + 2) Y_7 T H H2 RV RU ST NS I0 I1 I2 BO_11 FI RG GU PU MA MN MS OT SC 192 256 384 320 w 192 576 640 704 L Lg ((x8 &&& x9) &&& x12) zh19
          suffices e : Ev (d + 3, 0, 0, 317, 54, [.val (.ref 64), .val (.int p1), .val (.int p2), .val (.int (x8 &&& x9))], [.int x13], (126, 120, L, [Y_7, T, H, H2, RV, RU, ST, NS, I0, I1, I2, BO_11, FI, RG, GU, PU, MA, MN, MS, OT, SC], [192, 256, 384, 320, w, 192, 576, 640, 704], Lg)) o from ev_call (fun v μ => (d + 3, 0, 0, 317, 54, [.val (.ref 64), .val (.int p1), .val (.int p2), .val (.int (x8 &&& x9))], v.toList ++ [], μ)) 2 ze20 e (fun n => Eq.refl _)
          have ze21 := Option.some.inj h
          subst ze21
          exact ev_rete 1 ho (fun n => Eq.refl _)
        | succ q6 =>
          have h := itn h (Nat.succ_ne_zero q6)
          have ze22 := Option.some.inj h
          subst ze22
          subst ho
          exact ev_thr (fun v μ => (d + 3, 0, 0, 317, 24, [.val (.ref 64), .val (.int p1), .val (.int p2), .val a_unk], v.toList ++ [], μ)) 1 ze10 (fun n => Eq.refl _) (fun n => rfl)
      by_cases zc23 : p1 = p2
      · have zh6 := itp zh6 zc23
        suffices e : Ev (d + 3, 1, 8, 317, 20, [.val (.ref 64), .val (.int p1), .val (.int p2), .val a_unk], [.ref 64], (126, 120, L, [Y_4, T, H, H2, RV, RU, ST, NS, I0, I1, I2, BO, FI, RG, GU, PU, MA, MN, MS, OT, SC], [192, 256, 384, 320, w, r5, 576, 640, 704], Lg)) o from ev_t (c := p1 = p2) _ _ 4  zc23 e (fun n => Eq.refl _)
        exact ev_b 1 (zj7 0 (Option.some.inj zh6) ) (fun n => Eq.refl _)
      · have zh6 := itn zh6 zc23
        suffices e : Ev (d + 3, 1, 8, 317, 16, [.val (.ref 64), .val (.int p1), .val (.int p2), .val a_unk], [.ref 64], (126, 120, L, [Y_4, T, H, H2, RV, RU, ST, NS, I0, I1, I2, BO, FI, RG, GU, PU, MA, MN, MS, OT, SC], [192, 256, 384, 320, w, r5, 576, 640, 704], Lg)) o from ev_f (c := p1 = p2) _ _ 4  zc23 e (fun n => Eq.refl _)
        exact ev_b 2 (zj7 1 (Option.some.inj zh6) ) (fun n => Eq.refl _)
    | succ q3 =>
      have h := itn h (Nat.succ_ne_zero q3)
      have ze24 := Option.some.inj h
      subst ze24
      subst ho
      exact ev_thr (fun v μ => (d + 3, 1, 8, 317, 10, [.val (.ref 64), .val (.int p1), .val (.int p2), .val a_unk], v.toList ++ [], μ)) 3 ze4 (fun n => Eq.refl _) (fun n => rfl)
  | succ q1 =>
    have h := itn h (Nat.succ_ne_zero q1)
    have ze25 := Option.some.inj h
    subst ze25
    subst ho
    exact ev_thr (fun v μ => (d + 3, 2, 16, 317, 5, [.val (.ref 64), .val (.int p1), .val (.int p2), .val a_unk], v.toList ++ [], μ)) 3 ze2 (fun n => Eq.refl _) (fun n => rfl)
set_option maxRecDepth 1000000 in
set_option maxHeartbeats 4000000 in
theorem R_f_Y_pair_2 (d : Nat) (Y T H2 H RU RV ST NS I0 I1 I2 BO FI RG GU PU MA MN MS OT SC : Nat → Nat → Int32) (w r5 : Nat) (L : Nat) (Lg : Int64) (p1 : Int32) (p2 : Int32) {r : Nat × Int32 × (Nat → Nat → Int32) × (Nat → Nat → Int32) × Nat} (h : f_Y_pair Y H NS BO 256 r5 p1 p2 = some r) : Ev (d + 3, 3, 24, 317, 0, [.val (.ref 64), .val (.int p1), .val (.int p2), .val a_unk], [], (126, 120, L, [Y, T, H2, H, RU, RV, ST, NS, I0, I1, I2, BO, FI, RG, GU, PU, MA, MN, MS, OT, SC], [256, 192, 320, 384, w, r5, 576, 640, 704], Lg)) ((r.1, a_ov r.1 (.int r.2.1), (126, 120, L, [r.2.2.1, T, H2, H, RU, RV, ST, NS, I0, I1, I2, r.2.2.2.1, FI, RG, GU, PU, MA, MN, MS, OT, SC], [256, 192, 320, 384, w, r.2.2.2.2, 576, 640, 704], Lg)) : AOut) := by
  suffices key : ∀ o : AOut, ((r.1, a_ov r.1 (.int r.2.1), (126, 120, L, [r.2.2.1, T, H2, H, RU, RV, ST, NS, I0, I1, I2, r.2.2.2.1, FI, RG, GU, PU, MA, MN, MS, OT, SC], [256, 192, 320, 384, w, r.2.2.2.2, 576, 640, 704], Lg)) : AOut) = o → Ev (d + 3, 3, 24, 317, 0, [.val (.ref 64), .val (.int p1), .val (.int p2), .val a_unk], [], (126, 120, L, [Y, T, H2, H, RU, RV, ST, NS, I0, I1, I2, BO, FI, RG, GU, PU, MA, MN, MS, OT, SC], [256, 192, 320, 384, w, r5, 576, 640, 704], Lg)) o from key _ rfl
  intro o ho
  obtain ⟨⟨q1, Y_2⟩, zh1, h⟩ := bnd h
  have zh1 : f_Y_needPerson Y H p1 = some (q1, Y_2) := zh1
  have ze2 := R_f_Y_needPerson_2 (d + 1) Y T H2 H RU RV ST NS I0 I1 I2 BO FI RG GU PU MA MN MS OT SC w r5 L Lg p1 zh1
  cases q1 with
  | zero =>
    have h := itp h rfl
    suffices e : Ev (d + 3, 2, 16, 317, 5, [.val (.ref 64), .val (.int p1), .val (.int p2), .val a_unk], [], (126, 120, L, [Y_2, T, H2, H, RU, RV, ST, NS, I0, I1, I2, BO, FI, RG, GU, PU, MA, MN, MS, OT, SC], [256, 192, 320, 384, w, r5, 576, 640, 704], Lg)) o from ev_call (fun v μ => (d + 3, 2, 16, 317, 5, [.val (.ref 64), .val (.int p1), .val (.int p2), .val a_unk], v.toList ++ [], μ)) 3 ze2 e (fun n => Eq.refl _)
    obtain ⟨⟨q3, Y_4⟩, zh3, h⟩ := bnd h
    have zh3 : f_Y_needPerson Y_2 H p2 = some (q3, Y_4) := zh3
    have ze4 := R_f_Y_needPerson_2 (d + 1) Y_2 T H2 H RU RV ST NS I0 I1 I2 BO FI RG GU PU MA MN MS OT SC w r5 L Lg p2 zh3
    cases q3 with
    | zero =>
      have h := itp h rfl
      suffices e : Ev (d + 3, 1, 8, 317, 10, [.val (.ref 64), .val (.int p1), .val (.int p2), .val a_unk], [], (126, 120, L, [Y_4, T, H2, H, RU, RV, ST, NS, I0, I1, I2, BO, FI, RG, GU, PU, MA, MN, MS, OT, SC], [256, 192, 320, 384, w, r5, 576, 640, 704], Lg)) o from ev_call (fun v μ => (d + 3, 1, 8, 317, 10, [.val (.ref 64), .val (.int p1), .val (.int p2), .val a_unk], v.toList ++ [], μ)) 3 ze4 e (fun n => Eq.refl _)
      obtain ⟨zt5, zh6, h⟩ := bnd h
      have zj7 : ∀ (v5 : Int32), v5 = zt5 → Ev (d + 3, 1, 8, 317, 21, [.val (.ref 64), .val (.int p1), .val (.int p2), .val a_unk], [.int v5, .ref 64], (126, 120, L, [Y_4, T, H2, H, RU, RV, ST, NS, I0, I1, I2, BO, FI, RG, GU, PU, MA, MN, MS, OT, SC], [256, 192, 320, 384, w, r5, 576, 640, 704], Lg)) o := by
        intro v5 ze8
        subst ze8
        obtain ⟨⟨q6, Y_7⟩, zh9, h⟩ := bnd h
        have zh9 : f_Y_refuseUnless Y_4 v5 = some (q6, Y_7) := zh9
        have ze10 := R_f_Y_refuseUnless_2 (d + 2) Y_4 T H2 H RU RV ST NS I0 I1 I2 BO FI RG GU PU MA MN MS OT SC w r5 L Lg v5 zh9
        cases q6 with
        | zero =>
          have h := itp h rfl
          suffices e : Ev (d + 3, 0, 0, 317, 24, [.val (.ref 64), .val (.int p1), .val (.int p2), .val a_unk], [], (126, 120, L, [Y_7, T, H2, H, RU, RV, ST, NS, I0, I1, I2, BO, FI, RG, GU, PU, MA, MN, MS, OT, SC], [256, 192, 320, 384, w, r5, 576, 640, 704], Lg)) o from ev_call (fun v μ => (d + 3, 0, 0, 317, 24, [.val (.ref 64), .val (.int p1), .val (.int p2), .val a_unk], v.toList ++ [], μ)) 1 ze10 e (fun n => Eq.refl _)
          suffices e : Ev (d + 3, 0, 0, 317, 28, [.val (.ref 64), .val (.int p1), .val (.int p2), .val a_unk], [.ref 256], (126, 120, L, [Y_7, T, H2, H, RU, RV, ST, NS, I0, I1, I2, BO, FI, RG, GU, PU, MA, MN, MS, OT, SC], [256, 192, 320, 384, w, r5, 576, 640, 704], Lg)) o from ev_b 2 e (fun n => Eq.refl _)
          obtain ⟨x8, zh11, h⟩ := bnd h
          have zh11 : f_House_meetingsOf H p1 = some x8 := zh11
          have ze12 := R_f_House_meetingsOf_1 (d + 1) Y_7 T H2 H RU RV ST NS I0 I1 I2 BO FI RG GU PU MA MN MS OT SC 256 192 320 384 w r5 576 640 704 L Lg p1 zh11
          suffices e : Ev (d + 3, 0, 0, 317, 32, [.val (.ref 64), .val (.int p1), .val (.int p2), .val a_unk], [.int x8], (126, 120, L, [Y_7, T, H2, H, RU, RV, ST, NS, I0, I1, I2, BO, FI, RG, GU, PU, MA, MN, MS, OT, SC], [256, 192, 320, 384, w, r5, 576, 640, 704], Lg)) o from ev_call (fun v μ => (d + 3, 0, 0, 317, 32, [.val (.ref 64), .val (.int p1), .val (.int p2), .val a_unk], v.toList ++ [], μ)) 2 ze12 e (fun n => Eq.refl _)
          suffices e : Ev (d + 3, 0, 0, 317, 36, [.val (.ref 64), .val (.int p1), .val (.int p2), .val a_unk], [.ref 256, .int x8], (126, 120, L, [Y_7, T, H2, H, RU, RV, ST, NS, I0, I1, I2, BO, FI, RG, GU, PU, MA, MN, MS, OT, SC], [256, 192, 320, 384, w, r5, 576, 640, 704], Lg)) o from ev_b 2 e (fun n => Eq.refl _)
          obtain ⟨x9, zh13, h⟩ := bnd h
          have zh13 : f_House_meetingsOf H p2 = some x9 := zh13
          have ze14 := R_f_House_meetingsOf_1 (d + 1) Y_7 T H2 H RU RV ST NS I0 I1 I2 BO FI RG GU PU MA MN MS OT SC 256 192 320 384 w r5 576 640 704 L Lg p2 zh13
          suffices e : Ev (d + 3, 0, 0, 317, 40, [.val (.ref 64), .val (.int p1), .val (.int p2), .val a_unk], [.int x9, .int x8], (126, 120, L, [Y_7, T, H2, H, RU, RV, ST, NS, I0, I1, I2, BO, FI, RG, GU, PU, MA, MN, MS, OT, SC], [256, 192, 320, 384, w, r5, 576, 640, 704], Lg)) o from ev_call (fun v μ => (d + 3, 0, 0, 317, 40, [.val (.ref 64), .val (.int p1), .val (.int p2), .val a_unk], v.toList ++ [.int x8], μ)) 2 ze14 e (fun n => Eq.refl _)
          obtain ⟨BO_11, zh15, h⟩ := bnd h
          have zh15 : f_Y_lookNow H NS BO = some BO_11 := zh15
          have ze16 := R_f_Y_lookNow_2 (d + 0) Y_7 T H2 H RU RV ST NS I0 I1 I2 BO FI RG GU PU MA MN MS OT SC w r5 L Lg zh15
          suffices e : Ev (d + 3, 0, 0, 317, 47, [.val (.ref 64), .val (.int p1), .val (.int p2), .val (.int (x8 &&& x9))], [.ref 768, .int (x8 &&& x9)], (126, 120, L, [Y_7, T, H2, H, RU, RV, ST, NS, I0, I1, I2, BO_11, FI, RG, GU, PU, MA, MN, MS, OT, SC], [256, 192, 320, 384, w, 256, 576, 640, 704], Lg)) o from ev_call (fun v μ => (d + 3, 0, 0, 317, 47, [.val (.ref 64), .val (.int p1), .val (.int p2), .val (.int (x8 &&& x9))], v.toList ++ [.int (x8 &&& x9)], μ)) 5 ze16 e (fun n => Eq.refl _)
          obtain ⟨x12, zh17, h⟩ := bnd h
          have zh17 : f_Board_placed H BO_11 = some x12 := zh17
          have ze18 := R_f_Board_placed_1 (d + 2) Y_7 T H2 H RU RV ST NS I0 I1 I2 BO_11 FI RG GU PU MA MN MS OT SC 256 192 320 384 w 576 640 704 L Lg zh17
          suffices e : Ev (d + 3, 0, 0, 317, 50, [.val (.ref 64), .val (.int p1), .val (.int p2), .val (.int (x8 &&& x9))], [.int x12, .int (x8 &&& x9)], (126, 120, L, [Y_7, T, H2, H, RU, RV, ST, NS, I0, I1, I2, BO_11, FI, RG, GU, PU, MA, MN, MS, OT, SC], [256, 192, 320, 384, w, 256, 576, 640, 704], Lg)) o from ev_call (fun v μ => (d + 3, 0, 0, 317, 50, [.val (.ref 64), .val (.int p1), .val (.int p2), .val (.int (x8 &&& x9))], v.toList ++ [.int (x8 &&& x9)], μ)) 1 ze18 e (fun n => Eq.refl _)
          obtain ⟨x13, zh19, h⟩ := bnd h
          have zh19 : f_Integer_bitCount ((x8 &&& x9) &&& x12) = some x13 := zh19
          have ze20 := R_f_Integer_bitCount_0 (d + 2) Y_7 T H2 H RU RV ST NS I0 I1 I2 BO_11 FI RG GU PU MA MN MS OT SC 256 192 320 384 w 256 576 640 704 L Lg ((x8 &&& x9) &&& x12) zh19
          suffices e : Ev (d + 3, 0, 0, 317, 54, [.val (.ref 64), .val (.int p1), .val (.int p2), .val (.int (x8 &&& x9))], [.int x13], (126, 120, L, [Y_7, T, H2, H, RU, RV, ST, NS, I0, I1, I2, BO_11, FI, RG, GU, PU, MA, MN, MS, OT, SC], [256, 192, 320, 384, w, 256, 576, 640, 704], Lg)) o from ev_call (fun v μ => (d + 3, 0, 0, 317, 54, [.val (.ref 64), .val (.int p1), .val (.int p2), .val (.int (x8 &&& x9))], v.toList ++ [], μ)) 2 ze20 e (fun n => Eq.refl _)
          have ze21 := Option.some.inj h
          subst ze21
          exact ev_rete 1 ho (fun n => Eq.refl _)
        | succ q6 =>
          have h := itn h (Nat.succ_ne_zero q6)
          have ze22 := Option.some.inj h
          subst ze22
          subst ho
          exact ev_thr (fun v μ => (d + 3, 0, 0, 317, 24, [.val (.ref 64), .val (.int p1), .val (.int p2), .val a_unk], v.toList ++ [], μ)) 1 ze10 (fun n => Eq.refl _) (fun n => rfl)
      by_cases zc23 : p1 = p2
      · have zh6 := itp zh6 zc23
        suffices e : Ev (d + 3, 1, 8, 317, 20, [.val (.ref 64), .val (.int p1), .val (.int p2), .val a_unk], [.ref 64], (126, 120, L, [Y_4, T, H2, H, RU, RV, ST, NS, I0, I1, I2, BO, FI, RG, GU, PU, MA, MN, MS, OT, SC], [256, 192, 320, 384, w, r5, 576, 640, 704], Lg)) o from ev_t (c := p1 = p2) _ _ 4  zc23 e (fun n => Eq.refl _)
        exact ev_b 1 (zj7 0 (Option.some.inj zh6) ) (fun n => Eq.refl _)
      · have zh6 := itn zh6 zc23
        suffices e : Ev (d + 3, 1, 8, 317, 16, [.val (.ref 64), .val (.int p1), .val (.int p2), .val a_unk], [.ref 64], (126, 120, L, [Y_4, T, H2, H, RU, RV, ST, NS, I0, I1, I2, BO, FI, RG, GU, PU, MA, MN, MS, OT, SC], [256, 192, 320, 384, w, r5, 576, 640, 704], Lg)) o from ev_f (c := p1 = p2) _ _ 4  zc23 e (fun n => Eq.refl _)
        exact ev_b 2 (zj7 1 (Option.some.inj zh6) ) (fun n => Eq.refl _)
    | succ q3 =>
      have h := itn h (Nat.succ_ne_zero q3)
      have ze24 := Option.some.inj h
      subst ze24
      subst ho
      exact ev_thr (fun v μ => (d + 3, 1, 8, 317, 10, [.val (.ref 64), .val (.int p1), .val (.int p2), .val a_unk], v.toList ++ [], μ)) 3 ze4 (fun n => Eq.refl _) (fun n => rfl)
  | succ q1 =>
    have h := itn h (Nat.succ_ne_zero q1)
    have ze25 := Option.some.inj h
    subst ze25
    subst ho
    exact ev_thr (fun v μ => (d + 3, 2, 16, 317, 5, [.val (.ref 64), .val (.int p1), .val (.int p2), .val a_unk], v.toList ++ [], μ)) 3 ze2 (fun n => Eq.refl _) (fun n => rfl)
