/-! printed by program (gen/emitm.py): the reference's methods run as their functions say -/
set_option maxRecDepth 1000000 in
set_option maxHeartbeats 4000000 in
theorem R_f_Y_at_0 (d : Nat) (Y T H H2 RU RV ST NS I0 I1 I2 BO FI RG GU PU MA MN MS OT SC : Nat → Nat → Int32) (w r5 : Nat) (L : Nat) (Lg : Int64) (p1 : Int32) (p2 : Int32) {r : Nat × Int32 × (Nat → Nat → Int32)} (h : f_Y_at Y H NS p1 p2 = some r) : Ev (d + 2, 2, 16, 291, 0, [.val (.ref 64), .val (.int p1), .val (.int p2), .val a_unk, .val a_unk], [], (126, 120, L, [Y, T, H, H2, RU, RV, ST, NS, I0, I1, I2, BO, FI, RG, GU, PU, MA, MN, MS, OT, SC], [192, 256, 320, 384, w, r5, 576, 640, 704], Lg)) ((r.1, a_ov r.1 (.int r.2.1), (126, 120, L, [r.2.2, T, H, H2, RU, RV, ST, NS, I0, I1, I2, BO, FI, RG, GU, PU, MA, MN, MS, OT, SC], [192, 256, 320, 384, w, r5, 576, 640, 704], Lg)) : AOut) := by
  suffices key : ∀ o : AOut, ((r.1, a_ov r.1 (.int r.2.1), (126, 120, L, [r.2.2, T, H, H2, RU, RV, ST, NS, I0, I1, I2, BO, FI, RG, GU, PU, MA, MN, MS, OT, SC], [192, 256, 320, 384, w, r5, 576, 640, 704], Lg)) : AOut) = o → Ev (d + 2, 2, 16, 291, 0, [.val (.ref 64), .val (.int p1), .val (.int p2), .val a_unk, .val a_unk], [], (126, 120, L, [Y, T, H, H2, RU, RV, ST, NS, I0, I1, I2, BO, FI, RG, GU, PU, MA, MN, MS, OT, SC], [192, 256, 320, 384, w, r5, 576, 640, 704], Lg)) o from key _ rfl
  intro o ho
  obtain ⟨⟨q1, Y_2⟩, zh1, h⟩ := bnd h
  have zh1 : f_Y_needRoom Y H p2 = some (q1, Y_2) := zh1
  have ze2 := R_f_Y_needRoom_0 (d + 0) Y T H H2 RU RV ST NS I0 I1 I2 BO FI RG GU PU MA MN MS OT SC w r5 L Lg p2 zh1
  cases q1 with
  | zero =>
    have h := itp h rfl
    suffices e : Ev (d + 2, 1, 8, 291, 5, [.val (.ref 64), .val (.int p1), .val (.int p2), .val a_unk, .val a_unk], [], (126, 120, L, [Y_2, T, H, H2, RU, RV, ST, NS, I0, I1, I2, BO, FI, RG, GU, PU, MA, MN, MS, OT, SC], [192, 256, 320, 384, w, r5, 576, 640, 704], Lg)) o from ev_call (fun v μ => (d + 2, 1, 8, 291, 5, [.val (.ref 64), .val (.int p1), .val (.int p2), .val a_unk, .val a_unk], v.toList ++ [], μ)) 3 ze2 e (fun n => Eq.refl _)
    obtain ⟨⟨q3, Y_4⟩, zh3, h⟩ := bnd h
    have zh3 : f_Y_needHour Y_2 H p1 = some (q3, Y_4) := zh3
    have ze4 := R_f_Y_needHour_0 (d + 0) Y_2 T H H2 RU RV ST NS I0 I1 I2 BO FI RG GU PU MA MN MS OT SC w r5 L Lg p1 zh3
    cases q3 with
    | zero =>
      have h := itp h rfl
      suffices e : Ev (d + 2, 0, 0, 291, 10, [.val (.ref 64), .val (.int p1), .val (.int p2), .val a_unk, .val a_unk], [], (126, 120, L, [Y_4, T, H, H2, RU, RV, ST, NS, I0, I1, I2, BO, FI, RG, GU, PU, MA, MN, MS, OT, SC], [192, 256, 320, 384, w, r5, 576, 640, 704], Lg)) o from ev_call (fun v μ => (d + 2, 0, 0, 291, 10, [.val (.ref 64), .val (.int p1), .val (.int p2), .val a_unk, .val a_unk], v.toList ++ [], μ)) 3 ze4 e (fun n => Eq.refl _)
      obtain ⟨x5, zh5, h⟩ := bnd h
      have zh5 : f_Y_placeOf p1 p2 = some x5 := zh5
      have ze6 := R_f_Y_placeOf_0 (d + 1) Y_4 T H H2 RU RV ST NS I0 I1 I2 BO FI RG GU PU MA MN MS OT SC 192 256 320 384 w r5 576 640 704 L Lg p1 p2 zh5
      suffices e : Ev (d + 2, 0, 0, 291, 15, [.val (.ref 64), .val (.int p1), .val (.int p2), .val a_unk, .val a_unk], [.int x5], (126, 120, L, [Y_4, T, H, H2, RU, RV, ST, NS, I0, I1, I2, BO, FI, RG, GU, PU, MA, MN, MS, OT, SC], [192, 256, 320, 384, w, r5, 576, 640, 704], Lg)) o from ev_call (fun v μ => (d + 2, 0, 0, 291, 15, [.val (.ref 64), .val (.int p1), .val (.int p2), .val a_unk, .val a_unk], v.toList ++ [], μ)) 3 ze6 e (fun n => Eq.refl _)
      obtain ⟨zb7, zh8, h⟩ := bnd h
      suffices e : Ev (d + 2, 0, 0, 291, 19, [.val (.ref 64), .val (.int p1), .val (.int p2), .val (.int x5), .val (.int 0)], [], (126, 120, L, [Y_4, T, H, H2, RU, RV, ST, NS, I0, I1, I2, BO, FI, RG, GU, PU, MA, MN, MS, OT, SC], [192, 256, 320, 384, w, r5, 576, 640, 704], Lg)) o from ev_b 3 e (fun n => Eq.refl _)
      refine ev_loop (δ := Unit) (fun a j => (d + 2, 0, 0, 291, 19, [.val (.ref 64), .val (.int p1), .val (.int p2), .val (.int x5), .val (.int a)], [], (126, 120, L, [Y_4, T, H, H2, RU, RV, ST, NS, I0, I1, I2, BO, FI, RG, GU, PU, MA, MN, MS, OT, SC], [192, 256, 320, 384, w, r5, 576, 640, 704], Lg))) (fun b => sumE b (fun b => ∀ s8 : Value, Ev (d + 2, 0, 0, 291, 54, [.val (.ref 64), .val (.int p1), .val (.int p2), .val (.int x5), .val s8], [], (126, 120, L, [Y_4, T, H, H2, RU, RV, ST, NS, I0, I1, I2, BO, FI, RG, GU, PU, MA, MN, MS, OT, SC], [192, 256, 320, 384, w, r5, 576, 640, 704], Lg)) o) (fun b => ((b.1, a_ov b.1 (.int b.2.1), (126, 120, L, [b.2.2, T, H, H2, RU, RV, ST, NS, I0, I1, I2, BO, FI, RG, GU, PU, MA, MN, MS, OT, SC], [192, 256, 320, 384, w, r5, 576, 640, 704], Lg)) : AOut) = o)) ?_ a_F 0 zb7 zh8 ?_ ()
      · rintro v6 zr12 zh11 zi9 zx10 ⟨⟩
        have zh11 : f_Y_at_l19 H NS x5 Y_4 v6 = some zr12 := zh11
        suffices e : Ev (d + 2, 0, 0, 291, 25, [.val (.ref 64), .val (.int p1), .val (.int p2), .val (.int x5), .val (.int v6)], [.ref 192, .int v6], (126, 120, L, [Y_4, T, H, H2, RU, RV, ST, NS, I0, I1, I2, BO, FI, RG, GU, PU, MA, MN, MS, OT, SC], [192, 256, 320, 384, w, r5, 576, 640, 704], Lg)) o from ev_b 3 e (fun n => Eq.refl _)
        by_cases zc13 : (H 0 3) ≤ v6
        · have zh11 := itp zh11 zc13
          suffices e : Ev (d + 2, 0, 0, 291, 54, [.val (.ref 64), .val (.int p1), .val (.int p2), .val (.int x5), .val (.int v6)], [], (126, 120, L, [Y_4, T, H, H2, RU, RV, ST, NS, I0, I1, I2, BO, FI, RG, GU, PU, MA, MN, MS, OT, SC], [192, 256, 320, 384, w, r5, 576, 640, 704], Lg)) o from ev_t (c := (H 0 3) ≤ v6) _ _ 2  zc13 e (fun n => Eq.refl _)
          exact ev_b 0 (zx10 _ (Option.some.inj zh11).symm (.int v6)) (fun n => Eq.refl _)
        · have zh11 := itn zh11 zc13
          suffices e : Ev (d + 2, 0, 0, 291, 31, [.val (.ref 64), .val (.int p1), .val (.int p2), .val (.int x5), .val (.int v6)], [], (126, 120, L, [Y_4, T, H, H2, RU, RV, ST, NS, I0, I1, I2, BO, FI, RG, GU, PU, MA, MN, MS, OT, SC], [192, 256, 320, 384, w, r5, 576, 640, 704], Lg)) o from ev_f (c := (H 0 3) ≤ v6) _ _ 2  zc13 e (fun n => Eq.refl _)
          obtain ⟨x7, zh14, zh11⟩ := bnd zh11
          have zh14 : rdx (NS 1) 10 v6 = some x7 := zh14
          suffices e : Ev (d + 2, 0, 0, 291, 41, [.val (.ref 64), .val (.int p1), .val (.int p2), .val (.int x5), .val (.int v6)], [.int x7], (126, 120, L, [Y_4, T, H, H2, RU, RV, ST, NS, I0, I1, I2, BO, FI, RG, GU, PU, MA, MN, MS, OT, SC], [192, 256, 320, 384, w, r5, 576, 640, 704], Lg)) o from ev_opt (fun x7 => (d + 2, 0, 0, 291, 41, [.val (.ref 64), .val (.int p1), .val (.int p2), .val (.int x5), .val (.int v6)], [.int x7], (126, 120, L, [Y_4, T, H, H2, RU, RV, ST, NS, I0, I1, I2, BO, FI, RG, GU, PU, MA, MN, MS, OT, SC], [192, 256, 320, 384, w, r5, 576, 640, 704], Lg))) 5 zh14 e (fun n => Eq.refl _)
          by_cases zc15 : x7 ≠ x5
          · have zh11 := itp zh11 zc15
            suffices e : Ev (d + 2, 0, 0, 291, 48, [.val (.ref 64), .val (.int p1), .val (.int p2), .val (.int x5), .val (.int v6)], [], (126, 120, L, [Y_4, T, H, H2, RU, RV, ST, NS, I0, I1, I2, BO, FI, RG, GU, PU, MA, MN, MS, OT, SC], [192, 256, 320, 384, w, r5, 576, 640, 704], Lg)) o from ev_t (c := x7 ≠ x5) _ _ 2  zc15 e (fun n => Eq.refl _)
            exact ev_b 2 (zi9 _ (Option.some.inj zh11).symm ()) (fun n => Eq.refl _)
          · have zh11 := itn zh11 zc15
            suffices e : Ev (d + 2, 0, 0, 291, 45, [.val (.ref 64), .val (.int p1), .val (.int p2), .val (.int x5), .val (.int v6)], [], (126, 120, L, [Y_4, T, H, H2, RU, RV, ST, NS, I0, I1, I2, BO, FI, RG, GU, PU, MA, MN, MS, OT, SC], [192, 256, 320, 384, w, r5, 576, 640, 704], Lg)) o from ev_f (c := x7 ≠ x5) _ _ 2  zc15 e (fun n => Eq.refl _)
            exact ev_rete 2 (zx10 _ (Option.some.inj zh11).symm) (fun n => Eq.refl _)
      · rcases zb7 with ⟨⟩ | zr12
        · intro s8
          have ze16 := Option.some.inj h
          subst ze16
          exact ev_rete 2 ho (fun n => Eq.refl _)
        · have zh17 : some zr12 = some r := h
          exact (congrArg (fun q => ((q.1, a_ov q.1 (.int q.2.1), (126, 120, L, [q.2.2, T, H, H2, RU, RV, ST, NS, I0, I1, I2, BO, FI, RG, GU, PU, MA, MN, MS, OT, SC], [192, 256, 320, 384, w, r5, 576, 640, 704], Lg)) : AOut)) (Option.some.inj zh17)).trans ho
    | succ q3 =>
      have h := itn h (Nat.succ_ne_zero q3)
      have ze19 := Option.some.inj h
      subst ze19
      subst ho
      exact ev_thr (fun v μ => (d + 2, 0, 0, 291, 10, [.val (.ref 64), .val (.int p1), .val (.int p2), .val a_unk, .val a_unk], v.toList ++ [], μ)) 3 ze4 (fun n => Eq.refl _) (fun n => rfl)
  | succ q1 =>
    have h := itn h (Nat.succ_ne_zero q1)
    have ze20 := Option.some.inj h
    subst ze20
    subst ho
    exact ev_thr (fun v μ => (d + 2, 1, 8, 291, 5, [.val (.ref 64), .val (.int p1), .val (.int p2), .val a_unk, .val a_unk], v.toList ++ [], μ)) 3 ze2 (fun n => Eq.refl _) (fun n => rfl)
set_option maxRecDepth 1000000 in
set_option maxHeartbeats 4000000 in
theorem R_f_Y_needRoom_1 (d : Nat) (Y T H H2 RV RU ST NS I0 I1 I2 BO FI RG GU PU MA MN MS OT SC : Nat → Nat → Int32) (w r5 : Nat) (L : Nat) (Lg : Int64) (p1 : Int32) {r : Nat × (Nat → Nat → Int32)} (h : f_Y_needRoom Y H p1 = some r) : Ev (d + 1, 1, 8, 337, 0, [.val (.ref 64), .val (.int p1)], [], (126, 120, L, [Y, T, H, H2, RV, RU, ST, NS, I0, I1, I2, BO, FI, RG, GU, PU, MA, MN, MS, OT, SC], [192, 256, 384, 320, w, r5, 576, 640, 704], Lg)) ((r.1, none, (126, 120, L, [r.2, T, H, H2, RV, RU, ST, NS, I0, I1, I2, BO, FI, RG, GU, PU, MA, MN, MS, OT, SC], [192, 256, 384, 320, w, r5, 576, 640, 704], Lg)) : AOut) := by
  suffices key : ∀ o : AOut, ((r.1, none, (126, 120, L, [r.2, T, H, H2, RV, RU, ST, NS, I0, I1, I2, BO, FI, RG, GU, PU, MA, MN, MS, OT, SC], [192, 256, 384, 320, w, r5, 576, 640, 704], Lg)) : AOut) = o → Ev (d + 1, 1, 8, 337, 0, [.val (.ref 64), .val (.int p1)], [], (126, 120, L, [Y, T, H, H2, RV, RU, ST, NS, I0, I1, I2, BO, FI, RG, GU, PU, MA, MN, MS, OT, SC], [192, 256, 384, 320, w, r5, 576, 640, 704], Lg)) o from key _ rfl
  intro o ho
  suffices e : Ev (d + 1, 1, 8, 337, 6, [.val (.ref 64), .val (.int p1)], [.ref 192, .int p1, .ref 64], (126, 120, L, [Y, T, H, H2, RV, RU, ST, NS, I0, I1, I2, BO, FI, RG, GU, PU, MA, MN, MS, OT, SC], [192, 256, 384, 320, w, r5, 576, 640, 704], Lg)) o from ev_b 4 e (fun n => Eq.refl _)
  obtain ⟨⟨q1, Y_2⟩, zh1, h⟩ := bnd h
  have zh1 : f_Y_needOneOf Y p1 (H 0 1) = some (q1, Y_2) := zh1
  have ze2 := R_f_Y_needOneOf_1 (d + 0) Y T H H2 RV RU ST NS I0 I1 I2 BO FI RG GU PU MA MN MS OT SC w r5 L Lg p1 (H 0 1) zh1
  cases q1 with
  | zero =>
    have h := itp h rfl
    suffices e : Ev (d + 1, 0, 0, 337, 12, [.val (.ref 64), .val (.int p1)], [], (126, 120, L, [Y_2, T, H, H2, RV, RU, ST, NS, I0, I1, I2, BO, FI, RG, GU, PU, MA, MN, MS, OT, SC], [192, 256, 384, 320, w, r5, 576, 640, 704], Lg)) o from ev_call (fun v μ => (d + 1, 0, 0, 337, 12, [.val (.ref 64), .val (.int p1)], v.toList ++ [], μ)) 2 ze2 e (fun n => Eq.refl _)
    have ze3 := Option.some.inj h
    subst ze3
    exact ev_rete 1 ho (fun n => Eq.refl _)
  | succ q1 =>
    have h := itn h (Nat.succ_ne_zero q1)
    have ze4 := Option.some.inj h
    subst ze4
    subst ho
    exact ev_thr (fun v μ => (d + 1, 0, 0, 337, 12, [.val (.ref 64), .val (.int p1)], v.toList ++ [], μ)) 2 ze2 (fun n => Eq.refl _) (fun n => rfl)
set_option maxRecDepth 1000000 in
set_option maxHeartbeats 4000000 in
theorem R_f_Y_needHour_1 (d : Nat) (Y T H H2 RV RU ST NS I0 I1 I2 BO FI RG GU PU MA MN MS OT SC : Nat → Nat → Int32) (w r5 : Nat) (L : Nat) (Lg : Int64) (p1 : Int32) {r : Nat × (Nat → Nat → Int32)} (h : f_Y_needHour Y H p1 = some r) : Ev (d + 1, 1, 8, 339, 0, [.val (.ref 64), .val (.int p1)], [], (126, 120, L, [Y, T, H, H2, RV, RU, ST, NS, I0, I1, I2, BO, FI, RG, GU, PU, MA, MN, MS, OT, SC], [192, 256, 384, 320, w, r5, 576, 640, 704], Lg)) ((r.1, none, (126, 120, L, [r.2, T, H, H2, RV, RU, ST, NS, I0, I1, I2, BO, FI, RG, GU, PU, MA, MN, MS, OT, SC], [192, 256, 384, 320, w, r5, 576, 640, 704], Lg)) : AOut) := by
  suffices key : ∀ o : AOut, ((r.1, none, (126, 120, L, [r.2, T, H, H2, RV, RU, ST, NS, I0, I1, I2, BO, FI, RG, GU, PU, MA, MN, MS, OT, SC], [192, 256, 384, 320, w, r5, 576, 640, 704], Lg)) : AOut) = o → Ev (d + 1, 1, 8, 339, 0, [.val (.ref 64), .val (.int p1)], [], (126, 120, L, [Y, T, H, H2, RV, RU, ST, NS, I0, I1, I2, BO, FI, RG, GU, PU, MA, MN, MS, OT, SC], [192, 256, 384, 320, w, r5, 576, 640, 704], Lg)) o from key _ rfl
  intro o ho
  obtain ⟨zt1, zh2, h⟩ := bnd h
  have zj3 : ∀ (v1 : Int32), v1 = zt1 → Ev (d + 1, 1, 8, 339, 21, [.val (.ref 64), .val (.int p1)], [.int v1, .ref 64], (126, 120, L, [Y, T, H, H2, RV, RU, ST, NS, I0, I1, I2, BO, FI, RG, GU, PU, MA, MN, MS, OT, SC], [192, 256, 384, 320, w, r5, 576, 640, 704], Lg)) o := by
    intro v1 ze4
    subst ze4
    obtain ⟨⟨q2, Y_3⟩, zh5, h⟩ := bnd h
    have zh5 : f_Y_refuseUnless Y v1 = some (q2, Y_3) := zh5
    have ze6 := R_f_Y_refuseUnless_1 (d + 0) Y T H H2 RV RU ST NS I0 I1 I2 BO FI RG GU PU MA MN MS OT SC w r5 L Lg v1 zh5
    cases q2 with
    | zero =>
      have h := itp h rfl
      suffices e : Ev (d + 1, 0, 0, 339, 24, [.val (.ref 64), .val (.int p1)], [], (126, 120, L, [Y_3, T, H, H2, RV, RU, ST, NS, I0, I1, I2, BO, FI, RG, GU, PU, MA, MN, MS, OT, SC], [192, 256, 384, 320, w, r5, 576, 640, 704], Lg)) o from ev_call (fun v μ => (d + 1, 0, 0, 339, 24, [.val (.ref 64), .val (.int p1)], v.toList ++ [], μ)) 1 ze6 e (fun n => Eq.refl _)
      have ze7 := Option.some.inj h
      subst ze7
      exact ev_rete 1 ho (fun n => Eq.refl _)
    | succ q2 =>
      have h := itn h (Nat.succ_ne_zero q2)
      have ze8 := Option.some.inj h
      subst ze8
      subst ho
      exact ev_thr (fun v μ => (d + 1, 0, 0, 339, 24, [.val (.ref 64), .val (.int p1)], v.toList ++ [], μ)) 1 ze6 (fun n => Eq.refl _) (fun n => rfl)
  obtain ⟨zt9, zh10, zh2⟩ := bnd zh2
  have zj11 : zt9 = .inl () → Ev (d + 1, 1, 8, 339, 20, [.val (.ref 64), .val (.int p1)], [.ref 64], (126, 120, L, [Y, T, H, H2, RV, RU, ST, NS, I0, I1, I2, BO, FI, RG, GU, PU, MA, MN, MS, OT, SC], [192, 256, 384, 320, w, r5, 576, 640, 704], Lg)) o := by
    intro ze12
    have zh2 := sum_l zh2 ze12
    exact ev_b 1 (zj3 0 (Option.some.inj zh2) ) (fun n => Eq.refl _)
  by_cases zc13 : p1 < 0
  · have zh10 := itp zh10 zc13
    suffices e : Ev (d + 1, 1, 8, 339, 20, [.val (.ref 64), .val (.int p1)], [.ref 64], (126, 120, L, [Y, T, H, H2, RV, RU, ST, NS, I0, I1, I2, BO, FI, RG, GU, PU, MA, MN, MS, OT, SC], [192, 256, 384, 320, w, r5, 576, 640, 704], Lg)) o from ev_t (c := p1 < 0) _ _ 3  zc13 e (fun n => Eq.refl _)
    exact ev_b 0 (zj11  (Option.some.inj zh10).symm ) (fun n => Eq.refl _)
  · have zh10 := itn zh10 zc13
    suffices e : Ev (d + 1, 1, 8, 339, 5, [.val (.ref 64), .val (.int p1)], [.ref 64], (126, 120, L, [Y, T, H, H2, RV, RU, ST, NS, I0, I1, I2, BO, FI, RG, GU, PU, MA, MN, MS, OT, SC], [192, 256, 384, 320, w, r5, 576, 640, 704], Lg)) o from ev_f (c := p1 < 0) _ _ 3  zc13 e (fun n => Eq.refl _)
    suffices e : Ev (d + 1, 1, 8, 339, 10, [.val (.ref 64), .val (.int p1)], [.ref 192, .int p1, .ref 64], (126, 120, L, [Y, T, H, H2, RV, RU, ST, NS, I0, I1, I2, BO, FI, RG, GU, PU, MA, MN, MS, OT, SC], [192, 256, 384, 320, w, r5, 576, 640, 704], Lg)) o from ev_b 3 e (fun n => Eq.refl _)
    by_cases zc14 : (H 0 0) ≤ p1
    · have zh10 := itp zh10 zc14
      suffices e : Ev (d + 1, 1, 8, 339, 20, [.val (.ref 64), .val (.int p1)], [.ref 64], (126, 120, L, [Y, T, H, H2, RV, RU, ST, NS, I0, I1, I2, BO, FI, RG, GU, PU, MA, MN, MS, OT, SC], [192, 256, 384, 320, w, r5, 576, 640, 704], Lg)) o from ev_t (c := (H 0 0) ≤ p1) _ _ 2  zc14 e (fun n => Eq.refl _)
      exact ev_b 0 (zj11  (Option.some.inj zh10).symm ) (fun n => Eq.refl _)
    · have zh10 := itn zh10 zc14
      suffices e : Ev (d + 1, 1, 8, 339, 16, [.val (.ref 64), .val (.int p1)], [.ref 64], (126, 120, L, [Y, T, H, H2, RV, RU, ST, NS, I0, I1, I2, BO, FI, RG, GU, PU, MA, MN, MS, OT, SC], [192, 256, 384, 320, w, r5, 576, 640, 704], Lg)) o from ev_f (c := (H 0 0) ≤ p1) _ _ 2  zc14 e (fun n => Eq.refl _)
      have zh15 := sum_r zh2 (Option.some.inj zh10).symm
      exact ev_b 2 (zj3 1 (Option.some.inj zh15) ) (fun n => Eq.refl _)
set_option maxRecDepth 1000000 in
set_option maxHeartbeats 4000000 in
theorem R_f_Y_at_1 (d : Nat) (Y T H H2 RV RU ST NS I0 I1 I2 BO FI RG GU PU MA MN MS OT SC : Nat → Nat → Int32) (w r5 : Nat) (L : Nat) (Lg : Int64) (p1 : Int32) (p2 : Int32) {r : Nat × Int32 × (Nat → Nat → Int32)} (h : f_Y_at Y H NS p1 p2 = some r) : Ev (d + 2, 2, 16, 291, 0, [.val (.ref 64), .val (.int p1), .val (.int p2), .val a_unk, .val a_unk], [], (126, 120, L, [Y, T, H, H2, RV, RU, ST, NS, I0, I1, I2, BO, FI, RG, GU, PU, MA, MN, MS, OT, SC], [192, 256, 384, 320, w, r5, 576, 640, 704], Lg)) ((r.1, a_ov r.1 (.int r.2.1), (126, 120, L, [r.2.2, T, H, H2, RV, RU, ST, NS, I0, I1, I2, BO, FI, RG, GU, PU, MA, MN, MS, OT, SC], [192, 256, 384, 320, w, r5, 576, 640, 704], Lg)) : AOut) := by
  suffices key : ∀ o : AOut, ((r.1, a_ov r.1 (.int r.2.1), (126, 120, L, [r.2.2, T, H, H2, RV, RU, ST, NS, I0, I1, I2, BO, FI, RG, GU, PU, MA, MN, MS, OT, SC], [192, 256, 384, 320, w, r5, 576, 640, 704], Lg)) : AOut) = o → Ev (d + 2, 2, 16, 291, 0, [.val (.ref 64), .val (.int p1), .val (.int p2), .val a_unk, .val a_unk], [], (126, 120, L, [Y, T, H, H2, RV, RU, ST, NS, I0, I1, I2, BO, FI, RG, GU, PU, MA, MN, MS, OT, SC], [192, 256, 384, 320, w, r5, 576, 640, 704], Lg)) o from key _ rfl
  intro o ho
  obtain ⟨⟨q1, Y_2⟩, zh1, h⟩ := bnd h
  have zh1 : f_Y_needRoom Y H p2 = some (q1, Y_2) := zh1
  have ze2 := R_f_Y_needRoom_1 (d + 0) Y T H H2 RV RU ST NS I0 I1 I2 BO FI RG GU PU MA MN MS OT SC w r5 L Lg p2 zh1
  cases q1 with
  | zero =>
    have h := itp h rfl
    suffices e : Ev (d + 2, 1, 8, 291, 5, [.val (.ref 64), .val (.int p1), .val (.int p2), .val a_unk, .val a_unk], [], (126, 120, L, [Y_2, T, H, H2, RV, RU, ST, NS, I0, I1, I2, BO, FI, RG, GU, PU, MA, MN, MS, OT, SC], [192, 256, 384, 320, w, r5, 576, 640, 704], Lg)) o from ev_call (fun v μ => (d + 2, 1, 8, 291, 5, [.val (.ref 64), .val (.int p1), .val (.int p2), .val a_unk, .val a_unk], v.toList ++ [], μ)) 3 ze2 e (fun n => Eq.refl _)
    obtain ⟨⟨q3, Y_4⟩, zh3, h⟩ := bnd h
    have zh3 : f_Y_needHour Y_2 H p1 = some (q3, Y_4) := zh3
    have ze4 := R_f_Y_needHour_1 (d + 0) Y_2 T H H2 RV RU ST NS I0 I1 I2 BO FI RG GU PU MA MN MS OT SC w r5 L Lg p1 zh3
    cases q3 with
    | zero =>
      have h := itp h rfl
      suffices e : Ev (d + 2, 0, 0, 291, 10, [.val (.ref 64), .val (.int p1), .val (.int p2), .val a_unk, .val a_unk], [], (126, 120, L, [Y_4, T, H, H2, RV, RU, ST, NS, I0, I1, I2, BO, FI, RG, GU, PU, MA, MN, MS, OT, SC], [192, 256, 384, 320, w, r5, 576, 640, 704], Lg)) o from ev_call (fun v μ => (d + 2, 0, 0, 291, 10, [.val (.ref 64), .val (.int p1), .val (.int p2), .val a_unk, .val a_unk], v.toList ++ [], μ)) 3 ze4 e (fun n => Eq.refl _)
      obtain ⟨x5, zh5, h⟩ := bnd h
      have zh5 : f_Y_placeOf p1 p2 = some x5 := zh5
      have ze6 := R_f_Y_placeOf_0 (d + 1) Y_4 T H H2 RV RU ST NS I0 I1 I2 BO FI RG GU PU MA MN MS OT SC 192 256 384 320 w r5 576 640 704 L Lg p1 p2 zh5
      suffices e : Ev (d + 2, 0, 0, 291, 15, [.val (.ref 64), .val (.int p1), .val (.int p2), .val a_unk, .val a_unk], [.int x5], (126, 120, L, [Y_4, T, H, H2, RV, RU, ST, NS, I0, I1, I2, BO, FI, RG, GU, PU, MA, MN, MS, OT, SC], [192, 256, 384, 320, w, r5, 576, 640, 704], Lg)) o from ev_call (fun v μ => (d + 2, 0, 0, 291, 15, [.val (.ref 64), .val (.int p1), .val (.int p2), .val a_unk, .val a_unk], v.toList ++ [], μ)) 3 ze6 e (fun n => Eq.refl _)
      obtain ⟨zb7, zh8, h⟩ := bnd h
      suffices e : Ev (d + 2, 0, 0, 291, 19, [.val (.ref 64), .val (.int p1), .val (.int p2), .val (.int x5), .val (.int 0)], [], (126, 120, L, [Y_4, T, H, H2, RV, RU, ST, NS, I0, I1, I2, BO, FI, RG, GU, PU, MA, MN, MS, OT, SC], [192, 256, 384, 320, w, r5, 576, 640, 704], Lg)) o from ev_b 3 e (fun n => Eq.refl _)
      refine ev_loop (δ := Unit) (fun a j => (d + 2, 0, 0, 291, 19, [.val (.ref 64), .val (.int p1), .val (.int p2), .val (.int x5), .val (.int a)], [], (126, 120, L, [Y_4, T, H, H2, RV, RU, ST, NS, I0, I1, I2, BO, FI, RG, GU, PU, MA, MN, MS, OT, SC], [192, 256, 384, 320, w, r5, 576, 640, 704], Lg))) (fun b => sumE b (fun b => ∀ s8 : Value, Ev (d + 2, 0, 0, 291, 54, [.val (.ref 64), .val (.int p1), .val (.int p2), .val (.int x5), .val s8], [], (126, 120, L, [Y_4, T, H, H2, RV, RU, ST, NS, I0, I1, I2, BO, FI, RG, GU, PU, MA, MN, MS, OT, SC], [192, 256, 384, 320, w, r5, 576, 640, 704], Lg)) o) (fun b => ((b.1, a_ov b.1 (.int b.2.1), (126, 120, L, [b.2.2, T, H, H2, RV, RU, ST, NS, I0, I1, I2, BO, FI, RG, GU, PU, MA, MN, MS, OT, SC], [192, 256, 384, 320, w, r5, 576, 640, 704], Lg)) : AOut) = o)) ?_ a_F 0 zb7 zh8 ?_ ()
      · rintro v6 zr12 zh11 zi9 zx10 ⟨⟩
        have zh11 : f_Y_at_l19 H NS x5 Y_4 v6 = some zr12 := zh11
        suffices e : Ev (d + 2, 0, 0, 291, 25, [.val (.ref 64), .val (.int p1), .val (.int p2), .val (.int x5), .val (.int v6)], [.ref 192, .int v6], (126, 120, L, [Y_4, T, H, H2, RV, RU, ST, NS, I0, I1, I2, BO, FI, RG, GU, PU, MA, MN, MS, OT, SC], [192, 256, 384, 320, w, r5, 576, 640, 704], Lg)) o from ev_b 3 e (fun n => Eq.refl _)
        by_cases zc13 : (H 0 3) ≤ v6
        · have zh11 := itp zh11 zc13
          suffices e : Ev (d + 2, 0, 0, 291, 54, [.val (.ref 64), .val (.int p1), .val (.int p2), .val (.int x5), .val (.int v6)], [], (126, 120, L, [Y_4, T, H, H2, RV, RU, ST, NS, I0, I1, I2, BO, FI, RG, GU, PU, MA, MN, MS, OT, SC], [192, 256, 384, 320, w, r5, 576, 640, 704], Lg)) o from ev_t (c := (H 0 3) ≤ v6) _ _ 2  zc13 e (fun n => Eq.refl _)
          exact ev_b 0 (zx10 _ (Option.some.inj zh11).symm (.int v6)) (fun n => Eq.refl _)
        · have zh11 := itn zh11 zc13
          suffices e : Ev (d + 2, 0, 0, 291, 31, [.val (.ref 64), .val (.int p1), .val (.int p2), .val (.int x5), .val (.int v6)], [], (126, 120, L, [Y_4, T, H, H2, RV, RU, ST, NS, I0, I1, I2, BO, FI, RG, GU, PU, MA, MN, MS, OT, SC], [192, 256, 384, 320, w, r5, 576, 640, 704], Lg)) o from ev_f (c := (H 0 3) ≤ v6) _ _ 2  zc13 e (fun n => Eq.refl _)
          obtain ⟨x7, zh14, zh11⟩ := bnd zh11
          have zh14 : rdx (NS 1) 10 v6 = some x7 := zh14
          suffices e : Ev (d + 2, 0, 0, 291, 41, [.val (.ref 64), .val (.int p1), .val (.int p2), .val (.int x5), .val (.int v6)], [.int x7], (126, 120, L, [Y_4, T, H, H2, RV, RU, ST, NS, I0, I1, I2, BO, FI, RG, GU, PU, MA, MN, MS, OT, SC], [192, 256, 384, 320, w, r5, 576, 640, 704], Lg)) o from ev_opt (fun x7 => (d + 2, 0, 0, 291, 41, [.val (.ref 64), .val (.int p1), .val (.int p2), .val (.int x5), .val (.int v6)], [.int x7], (126, 120, L, [Y_4, T, H, H2, RV, RU, ST, NS, I0, I1, I2, BO, FI, RG, GU, PU, MA, MN, MS, OT, SC], [192, 256, 384, 320, w, r5, 576, 640, 704], Lg))) 5 zh14 e (fun n => Eq.refl _)
          by_cases zc15 : x7 ≠ x5
          · have zh11 := itp zh11 zc15
            suffices e : Ev (d + 2, 0, 0, 291, 48, [.val (.ref 64), .val (.int p1), .val (.int p2), .val (.int x5), .val (.int v6)], [], (126, 120, L, [Y_4, T, H, H2, RV, RU, ST, NS, I0, I1, I2, BO, FI, RG, GU, PU, MA, MN, MS, OT, SC], [192, 256, 384, 320, w, r5, 576, 640, 704], Lg)) o from ev_t (c := x7 ≠ x5) _ _ 2  zc15 e (fun n => Eq.refl _)
            exact ev_b 2 (zi9 _ (Option.some.inj zh11).symm ()) (fun n => Eq.refl _)
          · have zh11 := itn zh11 zc15
            suffices e : Ev (d + 2, 0, 0, 291, 45, [.val (.ref 64), .val (.int p1), .val (.int p2), .val (.int x5), .val (.int v6)], [], (126, 120, L, [Y_4, T, H, H2, RV, RU, ST, NS, I0, I1, I2, BO, FI, RG, GU, PU, MA, MN, MS, OT, SC], [192, 256, 384, 320, w, r5, 576, 640, 704], Lg)) o from ev_f (c := x7 ≠ x5) _ _ 2  zc15 e (fun n => Eq.refl _)
            exact ev_rete 2 (zx10 _ (Option.some.inj zh11).symm) (fun n => Eq.refl _)
      · rcases zb7 with ⟨⟩ | zr12
        · intro s8
          have ze16 := Option.some.inj h
          subst ze16
          exact ev_rete 2 ho (fun n => Eq.refl _)
        · have zh17 : some zr12 = some r := h
          exact (congrArg (fun q => ((q.1, a_ov q.1 (.int q.2.1), (126, 120, L, [q.2.2, T, H, H2, RV, RU, ST, NS, I0, I1, I2, BO, FI, RG, GU, PU, MA, MN, MS, OT, SC], [192, 256, 384, 320, w, r5, 576, 640, 704], Lg)) : AOut)) (Option.some.inj zh17)).trans ho
    | succ q3 =>
      have h := itn h (Nat.succ_ne_zero q3)
      have ze19 := Option.some.inj h
      subst ze19
      subst ho
      exact ev_thr (fun v μ => (d + 2, 0, 0, 291, 10, [.val (.ref 64), .val (.int p1), .val (.int p2), .val a_unk, .val a_unk], v.toList ++ [], μ)) 3 ze4 (fun n => Eq.refl _) (fun n => rfl)
  | succ q1 =>
    have h := itn h (Nat.succ_ne_zero q1)
    have ze20 := Option.some.inj h
    subst ze20
    subst ho
    exact ev_thr (fun v μ => (d + 2, 1, 8, 291, 5, [.val (.ref 64), .val (.int p1), .val (.int p2), .val a_unk, .val a_unk], v.toList ++ [], μ)) 3 ze2 (fun n => Eq.refl _) (fun n => rfl)
set_option maxRecDepth 1000000 in
set_option maxHeartbeats 4000000 in
theorem R_f_Y_needRoom_2 (d : Nat) (Y T H2 H RU RV ST NS I0 I1 I2 BO FI RG GU PU MA MN MS OT SC : Nat → Nat → Int32) (w r5 : Nat) (L : Nat) (Lg : Int64) (p1 : Int32) {r : Nat × (Nat → Nat → Int32)} (h : f_Y_needRoom Y H p1 = some r) : Ev (d + 1, 1, 8, 337, 0, [.val (.ref 64), .val (.int p1)], [], (126, 120, L, [Y, T, H2, H, RU, RV, ST, NS, I0, I1, I2, BO, FI, RG, GU, PU, MA, MN, MS, OT, SC], [256, 192, 320, 384, w, r5, 576, 640, 704], Lg)) ((r.1, none, (126, 120, L, [r.2, T, H2, H, RU, RV, ST, NS, I0, I1, I2, BO, FI, RG, GU, PU, MA, MN, MS, OT, SC], [256, 192, 320, 384, w, r5, 576, 640, 704], Lg)) : AOut) := by
  suffices key : ∀ o : AOut, ((r.1, none, (126, 120, L, [r.2, T, H2, H, RU, RV, ST, NS, I0, I1, I2, BO, FI, RG, GU, PU, MA, MN, MS, OT, SC], [256, 192, 320, 384, w, r5, 576, 640, 704], Lg)) : AOut) = o → Ev (d + 1, 1, 8, 337, 0, [.val (.ref 64), .val (.int p1)], [], (126, 120, L, [Y, T, H2, H, RU, RV, ST, NS, I0, I1, I2, BO, FI, RG, GU, PU, MA, MN, MS, OT, SC], [256, 192, 320, 384, w, r5, 576, 640, 704], Lg)) o from key _ rfl
  intro o ho
  suffices e : Ev (d + 1, 1, 8, 337, 6, [.val (.ref 64), .val (.int p1)], [.ref 256, .int p1, .ref 64], (126, 120, L, [Y, T, H2, H, RU, RV, ST, NS, I0, I1, I2, BO, FI, RG, GU, PU, MA, MN, MS, OT, SC], [256, 192, 320, 384, w, r5, 576, 640, 704], Lg)) o from ev_b 4 e (fun n => Eq.refl _)
  obtain ⟨⟨q1, Y_2⟩, zh1, h⟩ := bnd h
  have zh1 : f_Y_needOneOf Y p1 (H 0 1) = some (q1, Y_2) := zh1
  have ze2 := R_f_Y_needOneOf_2 (d + 0) Y T H2 H RU RV ST NS I0 I1 I2 BO FI RG GU PU MA MN MS OT SC w r5 L Lg p1 (H 0 1) zh1
  cases q1 with
  | zero =>
    have h := itp h rfl
    suffices e : Ev (d + 1, 0, 0, 337, 12, [.val (.ref 64), .val (.int p1)], [], (126, 120, L, [Y_2, T, H2, H, RU, RV, ST, NS, I0, I1, I2, BO, FI, RG, GU, PU, MA, MN, MS, OT, SC], [256, 192, 320, 384, w, r5, 576, 640, 704], Lg)) o from ev_call (fun v μ => (d + 1, 0, 0, 337, 12, [.val (.ref 64), .val (.int p1)], v.toList ++ [], μ)) 2 ze2 e (fun n => Eq.refl _)
    have ze3 := Option.some.inj h
    subst ze3
    exact ev_rete 1 ho (fun n => Eq.refl _)
  | succ q1 =>
    have h := itn h (Nat.succ_ne_zero q1)
    have ze4 := Option.some.inj h
    subst ze4
    subst ho
    exact ev_thr (fun v μ => (d + 1, 0, 0, 337, 12, [.val (.ref 64), .val (.int p1)], v.toList ++ [], μ)) 2 ze2 (fun n => Eq.refl _) (fun n => rfl)
set_option maxRecDepth 1000000 in
set_option maxHeartbeats 4000000 in
theorem R_f_Y_needHour_2 (d : Nat) (Y T H2 H RU RV ST NS I0 I1 I2 BO FI RG GU PU MA MN MS OT SC : Nat → Nat → Int32) (w r5 : Nat) (L : Nat) (Lg : Int64) (p1 : Int32) {r : Nat × (Nat → Nat → Int32)} (h : f_Y_needHour Y H p1 = some r) : Ev (d + 1, 1, 8, 339, 0, [.val (.ref 64), .val (.int p1)], [], (126, 120, L, [Y, T, H2, H, RU, RV, ST, NS, I0, I1, I2, BO, FI, RG, GU, PU, MA, MN, MS, OT, SC], [256, 192, 320, 384, w, r5, 576, 640, 704], Lg)) ((r.1, none, (126, 120, L, [r.2, T, H2, H, RU, RV, ST, NS, I0, I1, I2, BO, FI, RG, GU, PU, MA, MN, MS, OT, SC], [256, 192, 320, 384, w, r5, 576, 640, 704], Lg)) : AOut) := by
  suffices key : ∀ o : AOut, ((r.1, none, (126, 120, L, [r.2, T, H2, H, RU, RV, ST, NS, I0, I1, I2, BO, FI, RG, GU, PU, MA, MN, MS, OT, SC], [256, 192, 320, 384, w, r5, 576, 640, 704], Lg)) : AOut) = o → Ev (d + 1, 1, 8, 339, 0, [.val (.ref 64), .val (.int p1)], [], (126, 120, L, [Y, T, H2, H, RU, RV, ST, NS, I0, I1, I2, BO, FI, RG, GU, PU, MA, MN, MS, OT, SC], [256, 192, 320, 384, w, r5, 576, 640, 704], Lg)) o from key _ rfl
  intro o ho
  obtain ⟨zt1, zh2, h⟩ := bnd h
  have zj3 : ∀ (v1 : Int32), v1 = zt1 → Ev (d + 1, 1, 8, 339, 21, [.val (.ref 64), .val (.int p1)], [.int v1, .ref 64], (126, 120, L, [Y, T, H2, H, RU, RV, ST, NS, I0, I1, I2, BO, FI, RG, GU, PU, MA, MN, MS, OT, SC], [256, 192, 320, 384, w, r5, 576, 640, 704], Lg)) o := by
    intro v1 ze4
    subst ze4
    obtain ⟨⟨q2, Y_3⟩, zh5, h⟩ := bnd h
    have zh5 : f_Y_refuseUnless Y v1 = some (q2, Y_3) := zh5
    have ze6 := R_f_Y_refuseUnless_2 (d + 0) Y T H2 H RU RV ST NS I0 I1 I2 BO FI RG GU PU MA MN MS OT SC w r5 L Lg v1 zh5
    cases q2 with
    | zero =>
      have h := itp h rfl
      suffices e : Ev (d + 1, 0, 0, 339, 24, [.val (.ref 64), .val (.int p1)], [], (126, 120, L, [Y_3, T, H2, H, RU, RV, ST, NS, I0, I1, I2, BO, FI, RG, GU, PU, MA, MN, MS, OT, SC], [256, 192, 320, 384, w, r5, 576, 640, 704], Lg)) o from ev_call (fun v μ => (d + 1, 0, 0, 339, 24, [.val (.ref 64), .val (.int p1)], v.toList ++ [], μ)) 1 ze6 e (fun n => Eq.refl _)
      have ze7 := Option.some.inj h
      subst ze7
      exact ev_rete 1 ho (fun n => Eq.refl _)
    | succ q2 =>
      have h := itn h (Nat.succ_ne_zero q2)
      have ze8 := Option.some.inj h
      subst ze8
      subst ho
      exact ev_thr (fun v μ => (d + 1, 0, 0, 339, 24, [.val (.ref 64), .val (.int p1)], v.toList ++ [], μ)) 1 ze6 (fun n => Eq.refl _) (fun n => rfl)
  obtain ⟨zt9, zh10, zh2⟩ := bnd zh2
  have zj11 : zt9 = .inl () → Ev (d + 1, 1, 8, 339, 20, [.val (.ref 64), .val (.int p1)], [.ref 64], (126, 120, L, [Y, T, H2, H, RU, RV, ST, NS, I0, I1, I2, BO, FI, RG, GU, PU, MA, MN, MS, OT, SC], [256, 192, 320, 384, w, r5, 576, 640, 704], Lg)) o := by
    intro ze12
    have zh2 := sum_l zh2 ze12
    exact ev_b 1 (zj3 0 (Option.some.inj zh2) ) (fun n => Eq.refl _)
  by_cases zc13 : p1 < 0
  · have zh10 := itp zh10 zc13
    suffices e : Ev (d + 1, 1, 8, 339, 20, [.val (.ref 64), .val (.int p1)], [.ref 64], (126, 120, L, [Y, T, H2, H, RU, RV, ST, NS, I0, I1, I2, BO, FI, RG, GU, PU, MA, MN, MS, OT, SC], [256, 192, 320, 384, w, r5, 576, 640, 704], Lg)) o from ev_t (c := p1 < 0) _ _ 3  zc13 e (fun n => Eq.refl _)
    exact ev_b 0 (zj11  (Option.some.inj zh10).symm ) (fun n => Eq.refl _)
  · have zh10 := itn zh10 zc13
    suffices e : Ev (d + 1, 1, 8, 339, 5, [.val (.ref 64), .val (.int p1)], [.ref 64], (126, 120, L, [Y, T, H2, H, RU, RV, ST, NS, I0, I1, I2, BO, FI, RG, GU, PU, MA, MN, MS, OT, SC], [256, 192, 320, 384, w, r5, 576, 640, 704], Lg)) o from ev_f (c := p1 < 0) _ _ 3  zc13 e (fun n => Eq.refl _)
    suffices e : Ev (d + 1, 1, 8, 339, 10, [.val (.ref 64), .val (.int p1)], [.ref 256, .int p1, .ref 64], (126, 120, L, [Y, T, H2, H, RU, RV, ST, NS, I0, I1, I2, BO, FI, RG, GU, PU, MA, MN, MS, OT, SC], [256, 192, 320, 384, w, r5, 576, 640, 704], Lg)) o from ev_b 3 e (fun n => Eq.refl _)
    by_cases zc14 : (H 0 0) ≤ p1
    · have zh10 := itp zh10 zc14
      suffices e : Ev (d + 1, 1, 8, 339, 20, [.val (.ref 64), .val (.int p1)], [.ref 64], (126, 120, L, [Y, T, H2, H, RU, RV, ST, NS, I0, I1, I2, BO, FI, RG, GU, PU, MA, MN, MS, OT, SC], [256, 192, 320, 384, w, r5, 576, 640, 704], Lg)) o from ev_t (c := (H 0 0) ≤ p1) _ _ 2  zc14 e (fun n => Eq.refl _)
      exact ev_b 0 (zj11  (Option.some.inj zh10).symm ) (fun n => Eq.refl _)
    · have zh10 := itn zh10 zc14
      suffices e : Ev (d + 1, 1, 8, 339, 16, [.val (.ref 64), .val (.int p1)], [.ref 64], (126, 120, L, [Y, T, H2, H, RU, RV, ST, NS, I0, I1, I2, BO, FI, RG, GU, PU, MA, MN, MS, OT, SC], [256, 192, 320, 384, w, r5, 576, 640, 704], Lg)) o from ev_f (c := (H 0 0) ≤ p1) _ _ 2  zc14 e (fun n => Eq.refl _)
      have zh15 := sum_r zh2 (Option.some.inj zh10).symm
      exact ev_b 2 (zj3 1 (Option.some.inj zh15) ) (fun n => Eq.refl _)
set_option maxRecDepth 1000000 in
set_option maxHeartbeats 4000000 in
theorem R_f_Y_at_2 (d : Nat) (Y T H2 H RU RV ST NS I0 I1 I2 BO FI RG GU PU MA MN MS OT SC : Nat → Nat → Int32) (w r5 : Nat) (L : Nat) (Lg : Int64) (p1 : Int32) (p2 : Int32) {r : Nat × Int32 × (Nat → Nat → Int32)} (h : f_Y_at Y H NS p1 p2 = some r) : Ev (d + 2, 2, 16, 291, 0, [.val (.ref 64), .val (.int p1), .val (.int p2), .val a_unk, .val a_unk], [], (126, 120, L, [Y, T, H2, H, RU, RV, ST, NS, I0, I1, I2, BO, FI, RG, GU, PU, MA, MN, MS, OT, SC], [256, 192, 320, 384, w, r5, 576, 640, 704], Lg)) ((r.1, a_ov r.1 (.int r.2.1), (126, 120, L, [r.2.2, T, H2, H, RU, RV, ST, NS, I0, I1, I2, BO, FI, RG, GU, PU, MA, MN, MS, OT, SC], [256, 192, 320, 384, w, r5, 576, 640, 704], Lg)) : AOut) := by
  suffices key : ∀ o : AOut, ((r.1, a_ov r.1 (.int r.2.1), (126, 120, L, [r.2.2, T, H2, H, RU, RV, ST, NS, I0, I1, I2, BO, FI, RG, GU, PU, MA, MN, MS, OT, SC], [256, 192, 320, 384, w, r5, 576, 640, 704], Lg)) : AOut) = o → Ev (d + 2, 2, 16, 291, 0, [.val (.ref 64), .val (.int p1), .val (.int p2), .val a_unk, .val a_unk], [], (126, 120, L, [Y, T, H2, H, RU, RV, ST, NS, I0, I1, I2, BO, FI, RG, GU, PU, MA, MN, MS, OT, SC], [256, 192, 320, 384, w, r5, 576, 640, 704], Lg)) o from key _ rfl
  intro o ho
  obtain ⟨⟨q1, Y_2⟩, zh1, h⟩ := bnd h
  have zh1 : f_Y_needRoom Y H p2 = some (q1, Y_2) := zh1
  have ze2 := R_f_Y_needRoom_2 (d + 0) Y T H2 H RU RV ST NS I0 I1 I2 BO FI RG GU PU MA MN MS OT SC w r5 L Lg p2 zh1
  cases q1 with
  | zero =>
    have h := itp h rfl
    suffices e : Ev (d + 2, 1, 8, 291, 5, [.val (.ref 64), .val (.int p1), .val (.int p2), .val a_unk, .val a_unk], [], (126, 120, L, [Y_2, T, H2, H, RU, RV, ST, NS, I0, I1, I2, BO, FI, RG, GU, PU, MA, MN, MS, OT, SC], [256, 192, 320, 384, w, r5, 576, 640, 704], Lg)) o from ev_call (fun v μ => (d + 2, 1, 8, 291, 5, [.val (.ref 64), .val (.int p1), .val (.int p2), .val a_unk, .val a_unk], v.toList ++ [], μ)) 3 ze2 e (fun n => Eq.refl _)
    obtain ⟨⟨q3, Y_4⟩, zh3, h⟩ := bnd h
    have zh3 : f_Y_needHour Y_2 H p1 = some (q3, Y_4) := zh3
    have ze4 := R_f_Y_needHour_2 (d + 0) Y_2 T H2 H RU RV ST NS I0 I1 I2 BO FI RG GU PU MA MN MS OT SC w r5 L Lg p1 zh3
    cases q3 with
    | zero =>
      have h := itp h rfl
      suffices e : Ev (d + 2, 0, 0, 291, 10, [.val (.ref 64), .val (.int p1), .val (.int p2), .val a_unk, .val a_unk], [], (126, 120, L, [Y_4, T, H2, H, RU, RV, ST, NS, I0, I1, I2, BO, FI, RG, GU, PU, MA, MN, MS, OT, SC], [256, 192, 320, 384, w, r5, 576, 640, 704], Lg)) o from ev_call (fun v μ => (d + 2, 0, 0, 291, 10, [.val (.ref 64), .val (.int p1), .val (.int p2), .val a_unk, .val a_unk], v.toList ++ [], μ)) 3 ze4 e (fun n => Eq.refl _)
      obtain ⟨x5, zh5, h⟩ := bnd h
      have zh5 : f_Y_placeOf p1 p2 = some x5 := zh5
      have ze6 := R_f_Y_placeOf_0 (d + 1) Y_4 T H2 H RU RV ST NS I0 I1 I2 BO FI RG GU PU MA MN MS OT SC 256 192 320 384 w r5 576 640 704 L Lg p1 p2 zh5
      suffices e : Ev (d + 2, 0, 0, 291, 15, [.val (.ref 64), .val (.int p1), .val (.int p2), .val a_unk, .val a_unk], [.int x5], (126, 120, L, [Y_4, T, H2, H, RU, RV, ST, NS, I0, I1, I2, BO, FI, RG, GU, PU, MA, MN, MS, OT, SC], [256, 192, 320, 384, w, r5, 576, 640, 704], Lg)) o from ev_call (fun v μ => (d + 2, 0, 0, 291, 15, [.val (.ref 64), .val (.int p1), .val (.int p2), .val a_unk, .val a_unk], v.toList ++ [], μ)) 3 ze6 e (fun n => Eq.refl _)
      obtain ⟨zb7, zh8, h⟩ := bnd h
      suffices e : Ev (d + 2, 0, 0, 291, 19, [.val (.ref 64), .val (.int p1), .val (.int p2), .val (.int x5), .val (.int 0)], [], (126, 120, L, [Y_4, T, H2, H, RU, RV, ST, NS, I0, I1, I2, BO, FI, RG, GU, PU, MA, MN, MS, OT, SC], [256, 192, 320, 384, w, r5, 576, 640, 704], Lg)) o from ev_b 3 e (fun n => Eq.refl _)
      refine ev_loop (δ := Unit) (fun a j => (d + 2, 0, 0, 291, 19, [.val (.ref 64), .val (.int p1), .val (.int p2), .val (.int x5), .val (.int a)], [], (126, 120, L, [Y_4, T, H2, H, RU, RV, ST, NS, I0, I1, I2, BO, FI, RG, GU, PU, MA, MN, MS, OT, SC], [256, 192, 320, 384, w, r5, 576, 640, 704], Lg))) (fun b => sumE b (fun b => ∀ s8 : Value, Ev (d + 2, 0, 0, 291, 54, [.val (.ref 64), .val (.int p1), .val (.int p2), .val (.int x5), .val s8], [], (126, 120, L, [Y_4, T, H2, H, RU, RV, ST, NS, I0, I1, I2, BO, FI, RG, GU, PU, MA, MN, MS, OT, SC], [256, 192, 320, 384, w, r5, 576, 640, 704], Lg)) o) (fun b => ((b.1, a_ov b.1 (.int b.2.1), (126, 120, L, [b.2.2, T, H2, H, RU, RV, ST, NS, I0, I1, I2, BO, FI, RG, GU, PU, MA, MN, MS, OT, SC], [256, 192, 320, 384, w, r5, 576, 640, 704], Lg)) : AOut) = o)) ?_ a_F 0 zb7 zh8 ?_ ()
      · rintro v6 zr12 zh11 zi9 zx10 ⟨⟩
        have zh11 : f_Y_at_l19 H NS x5 Y_4 v6 = some zr12 := zh11
        suffices e : Ev (d + 2, 0, 0, 291, 25, [.val (.ref 64), .val (.int p1), .val (.int p2), .val (.int x5), .val (.int v6)], [.ref 256, .int v6], (126, 120, L, [Y_4, T, H2, H, RU, RV, ST, NS, I0, I1, I2, BO, FI, RG, GU, PU, MA, MN, MS, OT, SC], [256, 192, 320, 384, w, r5, 576, 640, 704], Lg)) o from ev_b 3 e (fun n => Eq.refl _)
        by_cases zc13 : (H 0 3) ≤ v6
        · have zh11 := itp zh11 zc13
          suffices e : Ev (d + 2, 0, 0, 291, 54, [.val (.ref 64), .val (.int p1), .val (.int p2), .val (.int x5), .val (.int v6)], [], (126, 120, L, [Y_4, T, H2, H, RU, RV, ST, NS, I0, I1, I2, BO, FI, RG, GU, PU, MA, MN, MS, OT, SC], [256, 192, 320, 384, w, r5, 576, 640, 704], Lg)) o from ev_t (c := (H 0 3) ≤ v6) _ _ 2  zc13 e (fun n => Eq.refl _)
          exact ev_b 0 (zx10 _ (Option.some.inj zh11).symm (.int v6)) (fun n => Eq.refl _)
        · have zh11 := itn zh11 zc13
          suffices e : Ev (d + 2, 0, 0, 291, 31, [.val (.ref 64), .val (.int p1), .val (.int p2), .val (.int x5), .val (.int v6)], [], (126, 120, L, [Y_4, T, H2, H, RU, RV, ST, NS, I0, I1, I2, BO, FI, RG, GU, PU, MA, MN, MS, OT, SC], [256, 192, 320, 384, w, r5, 576, 640, 704], Lg)) o from ev_f (c := (H 0 3) ≤ v6) _ _ 2  zc13 e (fun n => Eq.refl _)
          obtain ⟨x7, zh14, zh11⟩ := bnd zh11
          have zh14 : rdx (NS 1) 10 v6 = some x7 := zh14
          suffices e : Ev (d + 2, 0, 0, 291, 41, [.val (.ref 64), .val (.int p1), .val (.int p2), .val (.int x5), .val (.int v6)], [.int x7], (126, 120, L, [Y_4, T, H2, H, RU, RV, ST, NS, I0, I1, I2, BO, FI, RG, GU, PU, MA, MN, MS, OT, SC], [256, 192, 320, 384, w, r5, 576, 640, 704], Lg)) o from ev_opt (fun x7 => (d + 2, 0, 0, 291, 41, [.val (.ref 64), .val (.int p1), .val (.int p2), .val (.int x5), .val (.int v6)], [.int x7], (126, 120, L, [Y_4, T, H2, H, RU, RV, ST, NS, I0, I1, I2, BO, FI, RG, GU, PU, MA, MN, MS, OT, SC], [256, 192, 320, 384, w, r5, 576, 640, 704], Lg))) 5 zh14 e (fun n => Eq.refl _)
          by_cases zc15 : x7 ≠ x5
          · have zh11 := itp zh11 zc15
            suffices e : Ev (d + 2, 0, 0, 291, 48, [.val (.ref 64), .val (.int p1), .val (.int p2), .val (.int x5), .val (.int v6)], [], (126, 120, L, [Y_4, T, H2, H, RU, RV, ST, NS, I0, I1, I2, BO, FI, RG, GU, PU, MA, MN, MS, OT, SC], [256, 192, 320, 384, w, r5, 576, 640, 704], Lg)) o from ev_t (c := x7 ≠ x5) _ _ 2  zc15 e (fun n => Eq.refl _)
            exact ev_b 2 (zi9 _ (Option.some.inj zh11).symm ()) (fun n => Eq.refl _)
          · have zh11 := itn zh11 zc15
            suffices e : Ev (d + 2, 0, 0, 291, 45, [.val (.ref 64), .val (.int p1), .val (.int p2), .val (.int x5), .val (.int v6)], [], (126, 120, L, [Y_4, T, H2, H, RU, RV, ST, NS, I0, I1, I2, BO, FI, RG, GU, PU, MA, MN, MS, OT, SC], [256, 192, 320, 384, w, r5, 576, 640, 704], Lg)) o from ev_f (c := x7 ≠ x5) _ _ 2  zc15 e (fun n => Eq.refl _)
            exact ev_rete 2 (zx10 _ (Option.some.inj zh11).symm) (fun n => Eq.refl _)
      · rcases zb7 with ⟨⟩ | zr12
        · intro s8
          have ze16 := Option.some.inj h
          subst ze16
          exact ev_rete 2 ho (fun n => Eq.refl _)
        · have zh17 : some zr12 = some r := h
          exact (congrArg (fun q => ((q.1, a_ov q.1 (.int q.2.1), (126, 120, L, [q.2.2, T, H2, H, RU, RV, ST, NS, I0, I1, I2, BO, FI, RG, GU, PU, MA, MN, MS, OT, SC], [256, 192, 320, 384, w, r5, 576, 640, 704], Lg)) : AOut)) (Option.some.inj zh17)).trans ho
    | succ q3 =>
      have h := itn h (Nat.succ_ne_zero q3)
      have ze19 := Option.some.inj h
      subst ze19
      subst ho
      exact ev_thr (fun v μ => (d + 2, 0, 0, 291, 10, [.val (.ref 64), .val (.int p1), .val (.int p2), .val a_unk, .val a_unk], v.toList ++ [], μ)) 3 ze4 (fun n => Eq.refl _) (fun n => rfl)
  | succ q1 =>
    have h := itn h (Nat.succ_ne_zero q1)
    have ze20 := Option.some.inj h
    subst ze20
    subst ho
    exact ev_thr (fun v μ => (d + 2, 1, 8, 291, 5, [.val (.ref 64), .val (.int p1), .val (.int p2), .val a_unk, .val a_unk], v.toList ++ [], μ)) 3 ze2 (fun n => Eq.refl _) (fun n => rfl)
set_option maxRecDepth 1000000 in
set_option maxHeartbeats 4000000 in
theorem R_f_Y_needRoom_3 (d : Nat) (Y T H2 H RV RU ST NS I0 I1 I2 BO FI RG GU PU MA MN MS OT SC : Nat → Nat → Int32) (w r5 : Nat) (L : Nat) (Lg : Int64) (p1 : Int32) {r : Nat × (Nat → Nat → Int32)} (h : f_Y_needRoom Y H p1 = some r) : Ev (d + 1, 1, 8, 337, 0, [.val (.ref 64), .val (.int p1)], [], (126, 120, L, [Y, T, H2, H, RV, RU, ST, NS, I0, I1, I2, BO, FI, RG, GU, PU, MA, MN, MS, OT, SC], [256, 192, 384, 320, w, r5, 576, 640, 704], Lg)) ((r.1, none, (126, 120, L, [r.2, T, H2, H, RV, RU, ST, NS, I0, I1, I2, BO, FI, RG, GU, PU, MA, MN, MS, OT, SC], [256, 192, 384, 320, w, r5, 576, 640, 704], Lg)) : AOut) := by
  suffices key : ∀ o : AOut, ((r.1, none, (126, 120, L, [r.2, T, H2, H, RV, RU, ST, NS, I0, I1, I2, BO, FI, RG, GU, PU, MA, MN, MS, OT, SC], [256, 192, 384, 320, w, r5, 576, 640, 704], Lg)) : AOut) = o → Ev (d + 1, 1, 8, 337, 0, [.val (.ref 64), .val (.int p1)], [], (126, 120, L, [Y, T, H2, H, RV, RU, ST, NS, I0, I1, I2, BO, FI, RG, GU, PU, MA, MN, MS, OT, SC], [256, 192, 384, 320, w, r5, 576, 640, 704], Lg)) o from key _ rfl
  intro o ho
  suffices e : Ev (d + 1, 1, 8, 337, 6, [.val (.ref 64), .val (.int p1)], [.ref 256, .int p1, .ref 64], (126, 120, L, [Y, T, H2, H, RV, RU, ST, NS, I0, I1, I2, BO, FI, RG, GU, PU, MA, MN, MS, OT, SC], [256, 192, 384, 320, w, r5, 576, 640, 704], Lg)) o from ev_b 4 e (fun n => Eq.refl _)
  obtain ⟨⟨q1, Y_2⟩, zh1, h⟩ := bnd h
  have zh1 : f_Y_needOneOf Y p1 (H 0 1) = some (q1, Y_2) := zh1
  have ze2 := R_f_Y_needOneOf_3 (d + 0) Y T H2 H RV RU ST NS I0 I1 I2 BO FI RG GU PU MA MN MS OT SC w r5 L Lg p1 (H 0 1) zh1
  cases q1 with
  | zero =>
    have h := itp h rfl
    suffices e : Ev (d + 1, 0, 0, 337, 12, [.val (.ref 64), .val (.int p1)], [], (126, 120, L, [Y_2, T, H2, H, RV, RU, ST, NS, I0, I1, I2, BO, FI, RG, GU, PU, MA, MN, MS, OT, SC], [256, 192, 384, 320, w, r5, 576, 640, 704], Lg)) o from ev_call (fun v μ => (d + 1, 0, 0, 337, 12, [.val (.ref 64), .val (.int p1)], v.toList ++ [], μ)) 2 ze2 e (fun n => Eq.refl _)
    have ze3 := Option.some.inj h
    subst ze3
    exact ev_rete 1 ho (fun n => Eq.refl _)
  | succ q1 =>
    have h := itn h (Nat.succ_ne_zero q1)
    have ze4 := Option.some.inj h
    subst ze4
    subst ho
    exact ev_thr (fun v μ => (d + 1, 0, 0, 337, 12, [.val (.ref 64), .val (.int p1)], v.toList ++ [], μ)) 2 ze2 (fun n => Eq.refl _) (fun n => rfl)
set_option maxRecDepth 1000000 in
set_option maxHeartbeats 4000000 in
theorem R_f_Y_needHour_3 (d : Nat) (Y T H2 H RV RU ST NS I0 I1 I2 BO FI RG GU PU MA MN MS OT SC : Nat → Nat → Int32) (w r5 : Nat) (L : Nat) (Lg : Int64) (p1 : Int32) {r : Nat × (Nat → Nat → Int32)} (h : f_Y_needHour Y H p1 = some r) : Ev (d + 1, 1, 8, 339, 0, [.val (.ref 64), .val (.int p1)], [], (126, 120, L, [Y, T, H2, H, RV, RU, ST, NS, I0, I1, I2, BO, FI, RG, GU, PU, MA, MN, MS, OT, SC], [256, 192, 384, 320, w, r5, 576, 640, 704], Lg)) ((r.1, none, (126, 120, L, [r.2, T, H2, H, RV, RU, ST, NS, I0, I1, I2, BO, FI, RG, GU, PU, MA, MN, MS, OT, SC], [256, 192, 384, 320, w, r5, 576, 640, 704], Lg)) : AOut) := by
  suffices key : ∀ o : AOut, ((r.1, none, (126, 120, L, [r.2, T, H2, H, RV, RU, ST, NS, I0, I1, I2, BO, FI, RG, GU, PU, MA, MN, MS, OT, SC], [256, 192, 384, 320, w, r5, 576, 640, 704], Lg)) : AOut) = o → Ev (d + 1, 1, 8, 339, 0, [.val (.ref 64), .val (.int p1)], [], (126, 120, L, [Y, T, H2, H, RV, RU, ST, NS, I0, I1, I2, BO, FI, RG, GU, PU, MA, MN, MS, OT, SC], [256, 192, 384, 320, w, r5, 576, 640, 704], Lg)) o from key _ rfl
  intro o ho
  obtain ⟨zt1, zh2, h⟩ := bnd h
  have zj3 : ∀ (v1 : Int32), v1 = zt1 → Ev (d + 1, 1, 8, 339, 21, [.val (.ref 64), .val (.int p1)], [.int v1, .ref 64], (126, 120, L, [Y, T, H2, H, RV, RU, ST, NS, I0, I1, I2, BO, FI, RG, GU, PU, MA, MN, MS, OT, SC], [256, 192, 384, 320, w, r5, 576, 640, 704], Lg)) o := by
    intro v1 ze4
    subst ze4
    obtain ⟨⟨q2, Y_3⟩, zh5, h⟩ := bnd h
    have zh5 : f_Y_refuseUnless Y v1 = some (q2, Y_3) := zh5
    have ze6 := R_f_Y_refuseUnless_3 (d + 0) Y T H2 H RV RU ST NS I0 I1 I2 BO FI RG GU PU MA MN MS OT SC w r5 L Lg v1 zh5
    cases q2 with
    | zero =>
      have h := itp h rfl
      suffices e : Ev (d + 1, 0, 0, 339, 24, [.val (.ref 64), .val (.int p1)], [], (126, 120, L, [Y_3, T, H2, H, RV, RU, ST, NS, I0, I1, I2, BO, FI, RG, GU, PU, MA, MN, MS, OT, SC], [256, 192, 384, 320, w, r5, 576, 640, 704], Lg)) o from ev_call (fun v μ => (d + 1, 0, 0, 339, 24, [.val (.ref 64), .val (.int p1)], v.toList ++ [], μ)) 1 ze6 e (fun n => Eq.refl _)
      have ze7 := Option.some.inj h
      subst ze7
      exact ev_rete 1 ho (fun n => Eq.refl _)
    | succ q2 =>
      have h := itn h (Nat.succ_ne_zero q2)
      have ze8 := Option.some.inj h
      subst ze8
      subst ho
      exact ev_thr (fun v μ => (d + 1, 0, 0, 339, 24, [.val (.ref 64), .val (.int p1)], v.toList ++ [], μ)) 1 ze6 (fun n => Eq.refl _) (fun n => rfl)
  obtain ⟨zt9, zh10, zh2⟩ := bnd zh2
  have zj11 : zt9 = .inl () → Ev (d + 1, 1, 8, 339, 20, [.val (.ref 64), .val (.int p1)], [.ref 64], (126, 120, L, [Y, T, H2, H, RV, RU, ST, NS, I0, I1, I2, BO, FI, RG, GU, PU, MA, MN, MS, OT, SC], [256, 192, 384, 320, w, r5, 576, 640, 704], Lg)) o := by
    intro ze12
    have zh2 := sum_l zh2 ze12
    exact ev_b 1 (zj3 0 (Option.some.inj zh2) ) (fun n => Eq.refl _)
  by_cases zc13 : p1 < 0
  · have zh10 := itp zh10 zc13
    suffices e : Ev (d + 1, 1, 8, 339, 20, [.val (.ref 64), .val (.int p1)], [.ref 64], (126, 120, L, [Y, T, H2, H, RV, RU, ST, NS, I0, I1, I2, BO, FI, RG, GU, PU, MA, MN, MS, OT, SC], [256, 192, 384, 320, w, r5, 576, 640, 704], Lg)) o from ev_t (c := p1 < 0) _ _ 3  zc13 e (fun n => Eq.refl _)
    exact ev_b 0 (zj11  (Option.some.inj zh10).symm ) (fun n => Eq.refl _)
  · have zh10 := itn zh10 zc13
    suffices e : Ev (d + 1, 1, 8, 339, 5, [.val (.ref 64), .val (.int p1)], [.ref 64], (126, 120, L, [Y, T, H2, H, RV, RU, ST, NS, I0, I1, I2, BO, FI, RG, GU, PU, MA, MN, MS, OT, SC], [256, 192, 384, 320, w, r5, 576, 640, 704], Lg)) o from ev_f (c := p1 < 0) _ _ 3  zc13 e (fun n => Eq.refl _)
    suffices e : Ev (d + 1, 1, 8, 339, 10, [.val (.ref 64), .val (.int p1)], [.ref 256, .int p1, .ref 64], (126, 120, L, [Y, T, H2, H, RV, RU, ST, NS, I0, I1, I2, BO, FI, RG, GU, PU, MA, MN, MS, OT, SC], [256, 192, 384, 320, w, r5, 576, 640, 704], Lg)) o from ev_b 3 e (fun n => Eq.refl _)
    by_cases zc14 : (H 0 0) ≤ p1
    · have zh10 := itp zh10 zc14
      suffices e : Ev (d + 1, 1, 8, 339, 20, [.val (.ref 64), .val (.int p1)], [.ref 64], (126, 120, L, [Y, T, H2, H, RV, RU, ST, NS, I0, I1, I2, BO, FI, RG, GU, PU, MA, MN, MS, OT, SC], [256, 192, 384, 320, w, r5, 576, 640, 704], Lg)) o from ev_t (c := (H 0 0) ≤ p1) _ _ 2  zc14 e (fun n => Eq.refl _)
      exact ev_b 0 (zj11  (Option.some.inj zh10).symm ) (fun n => Eq.refl _)
    · have zh10 := itn zh10 zc14
      suffices e : Ev (d + 1, 1, 8, 339, 16, [.val (.ref 64), .val (.int p1)], [.ref 64], (126, 120, L, [Y, T, H2, H, RV, RU, ST, NS, I0, I1, I2, BO, FI, RG, GU, PU, MA, MN, MS, OT, SC], [256, 192, 384, 320, w, r5, 576, 640, 704], Lg)) o from ev_f (c := (H 0 0) ≤ p1) _ _ 2  zc14 e (fun n => Eq.refl _)
      have zh15 := sum_r zh2 (Option.some.inj zh10).symm
      exact ev_b 2 (zj3 1 (Option.some.inj zh15) ) (fun n => Eq.refl _)
set_option maxRecDepth 1000000 in
set_option maxHeartbeats 4000000 in
theorem R_f_Y_at_3 (d : Nat) (Y T H2 H RV RU ST NS I0 I1 I2 BO FI RG GU PU MA MN MS OT SC : Nat → Nat → Int32) (w r5 : Nat) (L : Nat) (Lg : Int64) (p1 : Int32) (p2 : Int32) {r : Nat × Int32 × (Nat → Nat → Int32)} (h : f_Y_at Y H NS p1 p2 = some r) : Ev (d + 2, 2, 16, 291, 0, [.val (.ref 64), .val (.int p1), .val (.int p2), .val a_unk, .val a_unk], [], (126, 120, L, [Y, T, H2, H, RV, RU, ST, NS, I0, I1, I2, BO, FI, RG, GU, PU, MA, MN, MS, OT, SC], [256, 192, 384, 320, w, r5, 576, 640, 704], Lg)) ((r.1, a_ov r.1 (.int r.2.1), (126, 120, L, [r.2.2, T, H2, H, RV, RU, ST, NS, I0, I1, I2, BO, FI, RG, GU, PU, MA, MN, MS, OT, SC], [256, 192, 384, 320, w, r5, 576, 640, 704], Lg)) : AOut) := by
  suffices key : ∀ o : AOut, ((r.1, a_ov r.1 (.int r.2.1), (126, 120, L, [r.2.2, T, H2, H, RV, RU, ST, NS, I0, I1, I2, BO, FI, RG, GU, PU, MA, MN, MS, OT, SC], [256, 192, 384, 320, w, r5, 576, 640, 704], Lg)) : AOut) = o → Ev (d + 2, 2, 16, 291, 0, [.val (.ref 64), .val (.int p1), .val (.int p2), .val a_unk, .val a_unk], [], (126, 120, L, [Y, T, H2, H, RV, RU, ST, NS, I0, I1, I2, BO, FI, RG, GU, PU, MA, MN, MS, OT, SC], [256, 192, 384, 320, w, r5, 576, 640, 704], Lg)) o from key _ rfl
  intro o ho
  obtain ⟨⟨q1, Y_2⟩, zh1, h⟩ := bnd h
  have zh1 : f_Y_needRoom Y H p2 = some (q1, Y_2) := zh1
  have ze2 := R_f_Y_needRoom_3 (d + 0) Y T H2 H RV RU ST NS I0 I1 I2 BO FI RG GU PU MA MN MS OT SC w r5 L Lg p2 zh1
  cases q1 with
  | zero =>
    have h := itp h rfl
    suffices e : Ev (d + 2, 1, 8, 291, 5, [.val (.ref 64), .val (.int p1), .val (.int p2), .val a_unk, .val a_unk], [], (126, 120, L, [Y_2, T, H2, H, RV, RU, ST, NS, I0, I1, I2, BO, FI, RG, GU, PU, MA, MN, MS, OT, SC], [256, 192, 384, 320, w, r5, 576, 640, 704], Lg)) o from ev_call (fun v μ => (d + 2, 1, 8, 291, 5, [.val (.ref 64), .val (.int p1), .val (.int p2), .val a_unk, .val a_unk], v.toList ++ [], μ)) 3 ze2 e (fun n => Eq.refl _)
    obtain ⟨⟨q3, Y_4⟩, zh3, h⟩ := bnd h
    have zh3 : f_Y_needHour Y_2 H p1 = some (q3, Y_4) := zh3
    have ze4 := R_f_Y_needHour_3 (d + 0) Y_2 T H2 H RV RU ST NS I0 I1 I2 BO FI RG GU PU MA MN MS OT SC w r5 L Lg p1 zh3
    cases q3 with
    | zero =>
      have h := itp h rfl
      suffices e : Ev (d + 2, 0, 0, 291, 10, [.val (.ref 64), .val (.int p1), .val (.int p2), .val a_unk, .val a_unk], [], (126, 120, L, [Y_4, T, H2, H, RV, RU, ST, NS, I0, I1, I2, BO, FI, RG, GU, PU, MA, MN, MS, OT, SC], [256, 192, 384, 320, w, r5, 576, 640, 704], Lg)) o from ev_call (fun v μ => (d + 2, 0, 0, 291, 10, [.val (.ref 64), .val (.int p1), .val (.int p2), .val a_unk, .val a_unk], v.toList ++ [], μ)) 3 ze4 e (fun n => Eq.refl _)
      obtain ⟨x5, zh5, h⟩ := bnd h
      have zh5 : f_Y_placeOf p1 p2 = some x5 := zh5
      have ze6 := R_f_Y_placeOf_0 (d + 1) Y_4 T H2 H RV RU ST NS I0 I1 I2 BO FI RG GU PU MA MN MS OT SC 256 192 384 320 w r5 576 640 704 L Lg p1 p2 zh5
      suffices e : Ev (d + 2, 0, 0, 291, 15, [.val (.ref 64), .val (.int p1), .val (.int p2), .val a_unk, .val a_unk], [.int x5], (126, 120, L, [Y_4, T, H2, H, RV, RU, ST, NS, I0, I1, I2, BO, FI, RG, GU, PU, MA, MN, MS, OT, SC], [256, 192, 384, 320, w, r5, 576, 640, 704], Lg)) o from ev_call (fun v μ => (d + 2, 0, 0, 291, 15, [.val (.ref 64), .val (.int p1), .val (.int p2), .val a_unk, .val a_unk], v.toList ++ [], μ)) 3 ze6 e (fun n => Eq.refl _)
      obtain ⟨zb7, zh8, h⟩ := bnd h
      suffices e : Ev (d + 2, 0, 0, 291, 19, [.val (.ref 64), .val (.int p1), .val (.int p2), .val (.int x5), .val (.int 0)], [], (126, 120, L, [Y_4, T, H2, H, RV, RU, ST, NS, I0, I1, I2, BO, FI, RG, GU, PU, MA, MN, MS, OT, SC], [256, 192, 384, 320, w, r5, 576, 640, 704], Lg)) o from ev_b 3 e (fun n => Eq.refl _)
      refine ev_loop (δ := Unit) (fun a j => (d + 2, 0, 0, 291, 19, [.val (.ref 64), .val (.int p1), .val (.int p2), .val (.int x5), .val (.int a)], [], (126, 120, L, [Y_4, T, H2, H, RV, RU, ST, NS, I0, I1, I2, BO, FI, RG, GU, PU, MA, MN, MS, OT, SC], [256, 192, 384, 320, w, r5, 576, 640, 704], Lg))) (fun b => sumE b (fun b => ∀ s8 : Value, Ev (d + 2, 0, 0, 291, 54, [.val (.ref 64), .val (.int p1), .val (.int p2), .val (.int x5), .val s8], [], (126, 120, L, [Y_4, T, H2, H, RV, RU, ST, NS, I0, I1, I2, BO, FI, RG, GU, PU, MA, MN, MS, OT, SC], [256, 192, 384, 320, w, r5, 576, 640, 704], Lg)) o) (fun b => ((b.1, a_ov b.1 (.int b.2.1), (126, 120, L, [b.2.2, T, H2, H, RV, RU, ST, NS, I0, I1, I2, BO, FI, RG, GU, PU, MA, MN, MS, OT, SC], [256, 192, 384, 320, w, r5, 576, 640, 704], Lg)) : AOut) = o)) ?_ a_F 0 zb7 zh8 ?_ ()
      · rintro v6 zr12 zh11 zi9 zx10 ⟨⟩
        have zh11 : f_Y_at_l19 H NS x5 Y_4 v6 = some zr12 := zh11
        suffices e : Ev (d + 2, 0, 0, 291, 25, [.val (.ref 64), .val (.int p1), .val (.int p2), .val (.int x5), .val (.int v6)], [.ref 256, .int v6], (126, 120, L, [Y_4, T, H2, H, RV, RU, ST, NS, I0, I1, I2, BO, FI, RG, GU, PU, MA, MN, MS, OT, SC], [256, 192, 384, 320, w, r5, 576, 640, 704], Lg)) o from ev_b 3 e (fun n => Eq.refl _)
        by_cases zc13 : (H 0 3) ≤ v6
        · have zh11 := itp zh11 zc13
          suffices e : Ev (d + 2, 0, 0, 291, 54, [.val (.ref 64), .val (.int p1), .val (.int p2), .val (.int x5), .val (.int v6)], [], (126, 120, L, [Y_4, T, H2, H, RV, RU, ST, NS, I0, I1, I2, BO, FI, RG, GU, PU, MA, MN, MS, OT, SC], [256, 192, 384, 320, w, r5, 576, 640, 704], Lg)) o from ev_t (c := (H 0 3) ≤ v6) _ _ 2  zc13 e (fun n => Eq.refl _)
          exact ev_b 0 (zx10 _ (Option.some.inj zh11).symm (.int v6)) (fun n => Eq.refl _)
        · have zh11 := itn zh11 zc13
          suffices e : Ev (d + 2, 0, 0, 291, 31, [.val (.ref 64), .val (.int p1), .val (.int p2), .val (.int x5), .val (.int v6)], [], (126, 120, L, [Y_4, T, H2, H, RV, RU, ST, NS, I0, I1, I2, BO, FI, RG, GU, PU, MA, MN, MS, OT, SC], [256, 192, 384, 320, w, r5, 576, 640, 704], Lg)) o from ev_f (c := (H 0 3) ≤ v6) _ _ 2  zc13 e (fun n => Eq.refl _)
          obtain ⟨x7, zh14, zh11⟩ := bnd zh11
          have zh14 : rdx (NS 1) 10 v6 = some x7 := zh14
          suffices e : Ev (d + 2, 0, 0, 291, 41, [.val (.ref 64), .val (.int p1), .val (.int p2), .val (.int x5), .val (.int v6)], [.int x7], (126, 120, L, [Y_4, T, H2, H, RV, RU, ST, NS, I0, I1, I2, BO, FI, RG, GU, PU, MA, MN, MS, OT, SC], [256, 192, 384, 320, w, r5, 576, 640, 704], Lg)) o from ev_opt (fun x7 => (d + 2, 0, 0, 291, 41, [.val (.ref 64), .val (.int p1), .val (.int p2), .val (.int x5), .val (.int v6)], [.int x7], (126, 120, L, [Y_4, T, H2, H, RV, RU, ST, NS, I0, I1, I2, BO, FI, RG, GU, PU, MA, MN, MS, OT, SC], [256, 192, 384, 320, w, r5, 576, 640, 704], Lg))) 5 zh14 e (fun n => Eq.refl _)
          by_cases zc15 : x7 ≠ x5
          · have zh11 := itp zh11 zc15
            suffices e : Ev (d + 2, 0, 0, 291, 48, [.val (.ref 64), .val (.int p1), .val (.int p2), .val (.int x5), .val (.int v6)], [], (126, 120, L, [Y_4, T, H2, H, RV, RU, ST, NS, I0, I1, I2, BO, FI, RG, GU, PU, MA, MN, MS, OT, SC], [256, 192, 384, 320, w, r5, 576, 640, 704], Lg)) o from ev_t (c := x7 ≠ x5) _ _ 2  zc15 e (fun n => Eq.refl _)
            exact ev_b 2 (zi9 _ (Option.some.inj zh11).symm ()) (fun n => Eq.refl _)
          · have zh11 := itn zh11 zc15
            suffices e : Ev (d + 2, 0, 0, 291, 45, [.val (.ref 64), .val (.int p1), .val (.int p2), .val (.int x5), .val (.int v6)], [], (126, 120, L, [Y_4, T, H2, H, RV, RU, ST, NS, I0, I1, I2, BO, FI, RG, GU, PU, MA, MN, MS, OT, SC], [256, 192, 384, 320, w, r5, 576, 640, 704], Lg)) o from ev_f (c := x7 ≠ x5) _ _ 2  zc15 e (fun n => Eq.refl _)
            exact ev_rete 2 (zx10 _ (Option.some.inj zh11).symm) (fun n => Eq.refl _)
      · rcases zb7 with ⟨⟩ | zr12
        · intro s8
          have ze16 := Option.some.inj h
          subst ze16
          exact ev_rete 2 ho (fun n => Eq.refl _)
        · have zh17 : some zr12 = some r := h
          exact (congrArg (fun q => ((q.1, a_ov q.1 (.int q.2.1), (126, 120, L, [q.2.2, T, H2, H, RV, RU, ST, NS, I0, I1, I2, BO, FI, RG, GU, PU, MA, MN, MS, OT, SC], [256, 192, 384, 320, w, r5, 576, 640, 704], Lg)) : AOut)) (Option.some.inj zh17)).trans ho
    | succ q3 =>
      have h := itn h (Nat.succ_ne_zero q3)
      have ze19 := Option.some.inj h
      subst ze19
      subst ho
      exact ev_thr (fun v μ => (d + 2, 0, 0, 291, 10, [.val (.ref 64), .val (.int p1), .val (.int p2), .val a_unk, .val a_unk], v.toList ++ [], μ)) 3 ze4 (fun n => Eq.refl _) (fun n => rfl)
  | succ q1 =>
    have h := itn h (Nat.succ_ne_zero q1)
    have ze20 := Option.some.inj h
    subst ze20
    subst ho
    exact ev_thr (fun v μ => (d + 2, 1, 8, 291, 5, [.val (.ref 64), .val (.int p1), .val (.int p2), .val a_unk, .val a_unk], v.toList ++ [], μ)) 3 ze2 (fun n => Eq.refl _) (fun n => rfl)
set_option maxRecDepth 1000000 in
set_option maxHeartbeats 4000000 in
theorem R_f_Y_where_0 (d : Nat) (Y T H H2 RU RV ST NS I0 I1 I2 BO FI RG GU PU MA MN MS OT SC : Nat → Nat → Int32) (w r5 : Nat) (L : Nat) (Lg : Int64) (p1 : Int32) (p2 : Int32) {r : Nat × Int32 × (Nat → Nat → Int32)} (h : f_Y_where Y H NS p1 p2 = some r) : Ev (d + 2, 2, 16, 292, 0, [.val (.ref 64), .val (.int p1), .val (.int p2), .val a_unk], [], (126, 120, L, [Y, T, H, H2, RU, RV, ST, NS, I0, I1, I2, BO, FI, RG, GU, PU, MA, MN, MS, OT, SC], [192, 256, 320, 384, w, r5, 576, 640, 704], Lg)) ((r.1, a_ov r.1 (.int r.2.1), (126, 120, L, [r.2.2, T, H, H2, RU, RV, ST, NS, I0, I1, I2, BO, FI, RG, GU, PU, MA, MN, MS, OT, SC], [192, 256, 320, 384, w, r5, 576, 640, 704], Lg)) : AOut) := by
  suffices key : ∀ o : AOut, ((r.1, a_ov r.1 (.int r.2.1), (126, 120, L, [r.2.2, T, H, H2, RU, RV, ST, NS, I0, I1, I2, BO, FI, RG, GU, PU, MA, MN, MS, OT, SC], [192, 256, 320, 384, w, r5, 576, 640, 704], Lg)) : AOut) = o → Ev (d + 2, 2, 16, 292, 0, [.val (.ref 64), .val (.int p1), .val (.int p2), .val a_unk], [], (126, 120, L, [Y, T, H, H2, RU, RV, ST, NS, I0, I1, I2, BO, FI, RG, GU, PU, MA, MN, MS, OT, SC], [192, 256, 320, 384, w, r5, 576, 640, 704], Lg)) o from key _ rfl
  intro o ho
  obtain ⟨⟨q1, Y_2⟩, zh1, h⟩ := bnd h
  have zh1 : f_Y_needPerson Y H p1 = some (q1, Y_2) := zh1
  have ze2 := R_f_Y_needPerson_0 (d + 0) Y T H H2 RU RV ST NS I0 I1 I2 BO FI RG GU PU MA MN MS OT SC w r5 L Lg p1 zh1
  cases q1 with
  | zero =>
    have h := itp h rfl
    suffices e : Ev (d + 2, 1, 8, 292, 5, [.val (.ref 64), .val (.int p1), .val (.int p2), .val a_unk], [], (126, 120, L, [Y_2, T, H, H2, RU, RV, ST, NS, I0, I1, I2, BO, FI, RG, GU, PU, MA, MN, MS, OT, SC], [192, 256, 320, 384, w, r5, 576, 640, 704], Lg)) o from ev_call (fun v μ => (d + 2, 1, 8, 292, 5, [.val (.ref 64), .val (.int p1), .val (.int p2), .val a_unk], v.toList ++ [], μ)) 3 ze2 e (fun n => Eq.refl _)
    obtain ⟨⟨q3, Y_4⟩, zh3, h⟩ := bnd h
    have zh3 : f_Y_needHour Y_2 H p2 = some (q3, Y_4) := zh3
    have ze4 := R_f_Y_needHour_0 (d + 0) Y_2 T H H2 RU RV ST NS I0 I1 I2 BO FI RG GU PU MA MN MS OT SC w r5 L Lg p2 zh3
    cases q3 with
    | zero =>
      have h := itp h rfl
      suffices e : Ev (d + 2, 0, 0, 292, 10, [.val (.ref 64), .val (.int p1), .val (.int p2), .val a_unk], [], (126, 120, L, [Y_4, T, H, H2, RU, RV, ST, NS, I0, I1, I2, BO, FI, RG, GU, PU, MA, MN, MS, OT, SC], [192, 256, 320, 384, w, r5, 576, 640, 704], Lg)) o from ev_call (fun v μ => (d + 2, 0, 0, 292, 10, [.val (.ref 64), .val (.int p1), .val (.int p2), .val a_unk], v.toList ++ [], μ)) 3 ze4 e (fun n => Eq.refl _)
      obtain ⟨zb5, zh6, h⟩ := bnd h
      suffices e : Ev (d + 2, 0, 0, 292, 12, [.val (.ref 64), .val (.int p1), .val (.int p2), .val (.int 0)], [], (126, 120, L, [Y_4, T, H, H2, RU, RV, ST, NS, I0, I1, I2, BO, FI, RG, GU, PU, MA, MN, MS, OT, SC], [192, 256, 320, 384, w, r5, 576, 640, 704], Lg)) o from ev_b 2 e (fun n => Eq.refl _)
      refine ev_loop (δ := Unit) (fun a j => (d + 2, 0, 0, 292, 12, [.val (.ref 64), .val (.int p1), .val (.int p2), .val (.int a)], [], (126, 120, L, [Y_4, T, H, H2, RU, RV, ST, NS, I0, I1, I2, BO, FI, RG, GU, PU, MA, MN, MS, OT, SC], [192, 256, 320, 384, w, r5, 576, 640, 704], Lg))) (fun b => sumE b (fun b => ∀ s10 : Value, Ev (d + 2, 0, 0, 292, 72, [.val (.ref 64), .val (.int p1), .val (.int p2), .val s10], [], (126, 120, L, [Y_4, T, H, H2, RU, RV, ST, NS, I0, I1, I2, BO, FI, RG, GU, PU, MA, MN, MS, OT, SC], [192, 256, 320, 384, w, r5, 576, 640, 704], Lg)) o) (fun b => ((b.1, a_ov b.1 (.int b.2.1), (126, 120, L, [b.2.2, T, H, H2, RU, RV, ST, NS, I0, I1, I2, BO, FI, RG, GU, PU, MA, MN, MS, OT, SC], [192, 256, 320, 384, w, r5, 576, 640, 704], Lg)) : AOut) = o)) ?_ a_F 0 zb5 zh6 ?_ ()
      · rintro v5 zr10 zh9 zi7 zx8 ⟨⟩
        have zh9 : f_Y_where_l12 H NS p1 p2 Y_4 v5 = some zr10 := zh9
        suffices e : Ev (d + 2, 0, 0, 292, 17, [.val (.ref 64), .val (.int p1), .val (.int p2), .val (.int v5)], [.ref 192, .int v5], (126, 120, L, [Y_4, T, H, H2, RU, RV, ST, NS, I0, I1, I2, BO, FI, RG, GU, PU, MA, MN, MS, OT, SC], [192, 256, 320, 384, w, r5, 576, 640, 704], Lg)) o from ev_b 3 e (fun n => Eq.refl _)
        by_cases zc11 : (H 0 3) ≤ v5
        · have zh9 := itp zh9 zc11
          suffices e : Ev (d + 2, 0, 0, 292, 72, [.val (.ref 64), .val (.int p1), .val (.int p2), .val (.int v5)], [], (126, 120, L, [Y_4, T, H, H2, RU, RV, ST, NS, I0, I1, I2, BO, FI, RG, GU, PU, MA, MN, MS, OT, SC], [192, 256, 320, 384, w, r5, 576, 640, 704], Lg)) o from ev_t (c := (H 0 3) ≤ v5) _ _ 2  zc11 e (fun n => Eq.refl _)
          exact ev_b 0 (zx8 _ (Option.some.inj zh9).symm (.int v5)) (fun n => Eq.refl _)
        · have zh9 := itn zh9 zc11
          suffices e : Ev (d + 2, 0, 0, 292, 23, [.val (.ref 64), .val (.int p1), .val (.int p2), .val (.int v5)], [], (126, 120, L, [Y_4, T, H, H2, RU, RV, ST, NS, I0, I1, I2, BO, FI, RG, GU, PU, MA, MN, MS, OT, SC], [192, 256, 320, 384, w, r5, 576, 640, 704], Lg)) o from ev_f (c := (H 0 3) ≤ v5) _ _ 2  zc11 e (fun n => Eq.refl _)
          suffices e : Ev (d + 2, 0, 0, 292, 27, [.val (.ref 64), .val (.int p1), .val (.int p2), .val (.int v5)], [.ref 192], (126, 120, L, [Y_4, T, H, H2, RU, RV, ST, NS, I0, I1, I2, BO, FI, RG, GU, PU, MA, MN, MS, OT, SC], [192, 256, 320, 384, w, r5, 576, 640, 704], Lg)) o from ev_b 2 e (fun n => Eq.refl _)
          obtain ⟨x6, zh12, zh9⟩ := bnd zh9
          have zh12 : f_House_isMember H v5 p1 = some x6 := zh12
          have ze13 := R_f_House_isMember_0 (d + 1) Y_4 T H H2 RU RV ST NS I0 I1 I2 BO FI RG GU PU MA MN MS OT SC 192 256 320 384 w r5 576 640 704 L Lg v5 p1 zh12
          suffices e : Ev (d + 2, 0, 0, 292, 32, [.val (.ref 64), .val (.int p1), .val (.int p2), .val (.int v5)], [.int x6], (126, 120, L, [Y_4, T, H, H2, RU, RV, ST, NS, I0, I1, I2, BO, FI, RG, GU, PU, MA, MN, MS, OT, SC], [192, 256, 320, 384, w, r5, 576, 640, 704], Lg)) o from ev_call (fun v μ => (d + 2, 0, 0, 292, 32, [.val (.ref 64), .val (.int p1), .val (.int p2), .val (.int v5)], v.toList ++ [], μ)) 3 ze13 e (fun n => Eq.refl _)
          by_cases zc14 : x6 = 0
          · have zh9 := itp zh9 zc14
            suffices e : Ev (d + 2, 0, 0, 292, 66, [.val (.ref 64), .val (.int p1), .val (.int p2), .val (.int v5)], [], (126, 120, L, [Y_4, T, H, H2, RU, RV, ST, NS, I0, I1, I2, BO, FI, RG, GU, PU, MA, MN, MS, OT, SC], [192, 256, 320, 384, w, r5, 576, 640, 704], Lg)) o from ev_t (c := x6 = 0) _ _ 1  zc14 e (fun n => Eq.refl _)
            exact ev_b 2 (zi7 _ (Option.some.inj zh9).symm ()) (fun n => Eq.refl _)
          · have zh9 := itn zh9 zc14
            suffices e : Ev (d + 2, 0, 0, 292, 35, [.val (.ref 64), .val (.int p1), .val (.int p2), .val (.int v5)], [], (126, 120, L, [Y_4, T, H, H2, RU, RV, ST, NS, I0, I1, I2, BO, FI, RG, GU, PU, MA, MN, MS, OT, SC], [192, 256, 320, 384, w, r5, 576, 640, 704], Lg)) o from ev_f (c := x6 = 0) _ _ 1  zc14 e (fun n => Eq.refl _)
            obtain ⟨x7, zh15, zh9⟩ := bnd zh9
            have zh15 : rdx (NS 1) 10 v5 = some x7 := zh15
            suffices e : Ev (d + 2, 0, 0, 292, 44, [.val (.ref 64), .val (.int p1), .val (.int p2), .val (.int v5)], [.int x7], (126, 120, L, [Y_4, T, H, H2, RU, RV, ST, NS, I0, I1, I2, BO, FI, RG, GU, PU, MA, MN, MS, OT, SC], [192, 256, 320, 384, w, r5, 576, 640, 704], Lg)) o from ev_opt (fun x7 => (d + 2, 0, 0, 292, 44, [.val (.ref 64), .val (.int p1), .val (.int p2), .val (.int v5)], [.int x7], (126, 120, L, [Y_4, T, H, H2, RU, RV, ST, NS, I0, I1, I2, BO, FI, RG, GU, PU, MA, MN, MS, OT, SC], [192, 256, 320, 384, w, r5, 576, 640, 704], Lg))) 5 zh15 e (fun n => Eq.refl _)
            by_cases zc16 : x7 = (-1)
            · have zh9 := itp zh9 zc16
              suffices e : Ev (d + 2, 0, 0, 292, 66, [.val (.ref 64), .val (.int p1), .val (.int p2), .val (.int v5)], [], (126, 120, L, [Y_4, T, H, H2, RU, RV, ST, NS, I0, I1, I2, BO, FI, RG, GU, PU, MA, MN, MS, OT, SC], [192, 256, 320, 384, w, r5, 576, 640, 704], Lg)) o from ev_t (c := x7 = (-1)) _ _ 2  zc16 e (fun n => Eq.refl _)
              exact ev_b 2 (zi7 _ (Option.some.inj zh9).symm ()) (fun n => Eq.refl _)
            · have zh9 := itn zh9 zc16
              suffices e : Ev (d + 2, 0, 0, 292, 48, [.val (.ref 64), .val (.int p1), .val (.int p2), .val (.int v5)], [], (126, 120, L, [Y_4, T, H, H2, RU, RV, ST, NS, I0, I1, I2, BO, FI, RG, GU, PU, MA, MN, MS, OT, SC], [192, 256, 320, 384, w, r5, 576, 640, 704], Lg)) o from ev_f (c := x7 = (-1)) _ _ 2  zc16 e (fun n => Eq.refl _)
              obtain ⟨x8, zh17, zh9⟩ := bnd zh9
              have zh17 : rdx (NS 1) 10 v5 = some x8 := zh17
              suffices e : Ev (d + 2, 0, 0, 292, 57, [.val (.ref 64), .val (.int p1), .val (.int p2), .val (.int v5)], [.int x8], (126, 120, L, [Y_4, T, H, H2, RU, RV, ST, NS, I0, I1, I2, BO, FI, RG, GU, PU, MA, MN, MS, OT, SC], [192, 256, 320, 384, w, r5, 576, 640, 704], Lg)) o from ev_opt (fun x8 => (d + 2, 0, 0, 292, 57, [.val (.ref 64), .val (.int p1), .val (.int p2), .val (.int v5)], [.int x8], (126, 120, L, [Y_4, T, H, H2, RU, RV, ST, NS, I0, I1, I2, BO, FI, RG, GU, PU, MA, MN, MS, OT, SC], [192, 256, 320, 384, w, r5, 576, 640, 704], Lg))) 5 zh17 e (fun n => Eq.refl _)
              obtain ⟨x9, zh18, zh9⟩ := bnd zh9
              have zh18 : f_Y_hourOf x8 = some x9 := zh18
              have ze19 := R_f_Y_hourOf_0 (d + 1) Y_4 T H H2 RU RV ST NS I0 I1 I2 BO FI RG GU PU MA MN MS OT SC 192 256 320 384 w r5 576 640 704 L Lg x8 zh18
              suffices e : Ev (d + 2, 0, 0, 292, 60, [.val (.ref 64), .val (.int p1), .val (.int p2), .val (.int v5)], [.int x9], (126, 120, L, [Y_4, T, H, H2, RU, RV, ST, NS, I0, I1, I2, BO, FI, RG, GU, PU, MA, MN, MS, OT, SC], [192, 256, 320, 384, w, r5, 576, 640, 704], Lg)) o from ev_call (fun v μ => (d + 2, 0, 0, 292, 60, [.val (.ref 64), .val (.int p1), .val (.int p2), .val (.int v5)], v.toList ++ [], μ)) 1 ze19 e (fun n => Eq.refl _)
              by_cases zc20 : x9 ≠ p2
              · have zh9 := itp zh9 zc20
                suffices e : Ev (d + 2, 0, 0, 292, 66, [.val (.ref 64), .val (.int p1), .val (.int p2), .val (.int v5)], [], (126, 120, L, [Y_4, T, H, H2, RU, RV, ST, NS, I0, I1, I2, BO, FI, RG, GU, PU, MA, MN, MS, OT, SC], [192, 256, 320, 384, w, r5, 576, 640, 704], Lg)) o from ev_t (c := x9 ≠ p2) _ _ 2  zc20 e (fun n => Eq.refl _)
                exact ev_b 2 (zi7 _ (Option.some.inj zh9).symm ()) (fun n => Eq.refl _)
              · have zh9 := itn zh9 zc20
                suffices e : Ev (d + 2, 0, 0, 292, 64, [.val (.ref 64), .val (.int p1), .val (.int p2), .val (.int v5)], [], (126, 120, L, [Y_4, T, H, H2, RU, RV, ST, NS, I0, I1, I2, BO, FI, RG, GU, PU, MA, MN, MS, OT, SC], [192, 256, 320, 384, w, r5, 576, 640, 704], Lg)) o from ev_f (c := x9 ≠ p2) _ _ 2  zc20 e (fun n => Eq.refl _)
                exact ev_rete 2 (zx8 _ (Option.some.inj zh9).symm) (fun n => Eq.refl _)
      · rcases zb5 with ⟨⟩ | zr10
        · intro s10
          have ze21 := Option.some.inj h
          subst ze21
          exact ev_rete 2 ho (fun n => Eq.refl _)
        · have zh22 : some zr10 = some r := h
          exact (congrArg (fun q => ((q.1, a_ov q.1 (.int q.2.1), (126, 120, L, [q.2.2, T, H, H2, RU, RV, ST, NS, I0, I1, I2, BO, FI, RG, GU, PU, MA, MN, MS, OT, SC], [192, 256, 320, 384, w, r5, 576, 640, 704], Lg)) : AOut)) (Option.some.inj zh22)).trans ho
    | succ q3 =>
      have h := itn h (Nat.succ_ne_zero q3)
      have ze24 := Option.some.inj h
      subst ze24
      subst ho
      exact ev_thr (fun v μ => (d + 2, 0, 0, 292, 10, [.val (.ref 64), .val (.int p1), .val (.int p2), .val a_unk], v.toList ++ [], μ)) 3 ze4 (fun n => Eq.refl _) (fun n => rfl)
  | succ q1 =>
    have h := itn h (Nat.succ_ne_zero q1)
    have ze25 := Option.some.inj h
    subst ze25
    subst ho
    exact ev_thr (fun v μ => (d + 2, 1, 8, 292, 5, [.val (.ref 64), .val (.int p1), .val (.int p2), .val a_unk], v.toList ++ [], μ)) 3 ze2 (fun n => Eq.refl _) (fun n => rfl)
set_option maxRecDepth 1000000 in
set_option maxHeartbeats 4000000 in
theorem R_f_Y_where_1 (d : Nat) (Y T H H2 RV RU ST NS I0 I1 I2 BO FI RG GU PU MA MN MS OT SC : Nat → Nat → Int32) (w r5 : Nat) (L : Nat) (Lg : Int64) (p1 : Int32) (p2 : Int32) {r : Nat × Int32 × (Nat → Nat → Int32)} (h : f_Y_where Y H NS p1 p2 = some r) : Ev (d + 2, 2, 16, 292, 0, [.val (.ref 64), .val (.int p1), .val (.int p2), .val a_unk], [], (126, 120, L, [Y, T, H, H2, RV, RU, ST, NS, I0, I1, I2, BO, FI, RG, GU, PU, MA, MN, MS, OT, SC], [192, 256, 384, 320, w, r5, 576, 640, 704], Lg)) ((r.1, a_ov r.1 (.int r.2.1), (126, 120, L, [r.2.2, T, H, H2, RV, RU, ST, NS, I0, I1, I2, BO, FI, RG, GU, PU, MA, MN, MS, OT, SC], [192, 256, 384, 320, w, r5, 576, 640, 704], Lg)) : AOut) := by
  suffices key : ∀ o : AOut, ((r.1, a_ov r.1 (.int r.2.1), (126, 120, L, [r.2.2, T, H, H2, RV, RU, ST, NS, I0, I1, I2, BO, FI, RG, GU, PU, MA, MN, MS, OT, SC], [192, 256, 384, 320, w, r5, 576, 640, 704], Lg)) : AOut) = o → Ev (d + 2, 2, 16, 292, 0, [.val (.ref 64), .val (.int p1), .val (.int p2), .val a_unk], [], (126, 120, L, [Y, T, H, H2, RV, RU, ST, NS, I0, I1, I2, BO, FI, RG, GU, PU, MA, MN, MS, OT, SC], [192, 256, 384, 320, w, r5, 576, 640, 704], Lg)) o from key _ rfl
  intro o ho
  obtain ⟨⟨q1, Y_2⟩, zh1, h⟩ := bnd h
  have zh1 : f_Y_needPerson Y H p1 = some (q1, Y_2) := zh1
  have ze2 := R_f_Y_needPerson_1 (d + 0) Y T H H2 RV RU ST NS I0 I1 I2 BO FI RG GU PU MA MN MS OT SC w r5 L Lg p1 zh1
  cases q1 with
  | zero =>
    have h := itp h rfl
    suffices e : Ev (d + 2, 1, 8, 292, 5, [.val (.ref 64), .val (.int p1), .val (.int p2), .val a_unk], [], (126, 120, L, [Y_2, T, H, H2, RV, RU, ST, NS, I0, I1, I2, BO, FI, RG, GU, PU, MA, MN, MS, OT, SC], [192, 256, 384, 320, w, r5, 576, 640, 704], Lg)) o from ev_call (fun v μ => (d + 2, 1, 8, 292, 5, [.val (.ref 64), .val (.int p1), .val (.int p2), .val a_unk], v.toList ++ [], μ)) 3 ze2 e (fun n => Eq.refl _)
    obtain ⟨⟨q3, Y_4⟩, zh3, h⟩ := bnd h
    have zh3 : f_Y_needHour Y_2 H p2 = some (q3, Y_4) := zh3
    have ze4 := R_f_Y_needHour_1 (d + 0) Y_2 T H H2 RV RU ST NS I0 I1 I2 BO FI RG GU PU MA MN MS OT SC w r5 L Lg p2 zh3
    cases q3 with
    | zero =>
      have h := itp h rfl
      suffices e : Ev (d + 2, 0, 0, 292, 10, [.val (.ref 64), .val (.int p1), .val (.int p2), .val a_unk], [], (126, 120, L, [Y_4, T, H, H2, RV, RU, ST, NS, I0, I1, I2, BO, FI, RG, GU, PU, MA, MN, MS, OT, SC], [192, 256, 384, 320, w, r5, 576, 640, 704], Lg)) o from ev_call (fun v μ => (d + 2, 0, 0, 292, 10, [.val (.ref 64), .val (.int p1), .val (.int p2), .val a_unk], v.toList ++ [], μ)) 3 ze4 e (fun n => Eq.refl _)
      obtain ⟨zb5, zh6, h⟩ := bnd h
      suffices e : Ev (d + 2, 0, 0, 292, 12, [.val (.ref 64), .val (.int p1), .val (.int p2), .val (.int 0)], [], (126, 120, L, [Y_4, T, H, H2, RV, RU, ST, NS, I0, I1, I2, BO, FI, RG, GU, PU, MA, MN, MS, OT, SC], [192, 256, 384, 320, w, r5, 576, 640, 704], Lg)) o from ev_b 2 e (fun n => Eq.refl _)
      refine ev_loop (δ := Unit) (fun a j => (d + 2, 0, 0, 292, 12, [.val (.ref 64), .val (.int p1), .val (.int p2), .val (.int a)], [], (126, 120, L, [Y_4, T, H, H2, RV, RU, ST, NS, I0, I1, I2, BO, FI, RG, GU, PU, MA, MN, MS, OT, SC], [192, 256, 384, 320, w, r5, 576, 640, 704], Lg))) (fun b => sumE b (fun b => ∀ s10 : Value, Ev (d + 2, 0, 0, 292, 72, [.val (.ref 64), .val (.int p1), .val (.int p2), .val s10], [], (126, 120, L, [Y_4, T, H, H2, RV, RU, ST, NS, I0, I1, I2, BO, FI, RG, GU, PU, MA, MN, MS, OT, SC], [192, 256, 384, 320, w, r5, 576, 640, 704], Lg)) o) (fun b => ((b.1, a_ov b.1 (.int b.2.1), (126, 120, L, [b.2.2, T, H, H2, RV, RU, ST, NS, I0, I1, I2, BO, FI, RG, GU, PU, MA, MN, MS, OT, SC], [192, 256, 384, 320, w, r5, 576, 640, 704], Lg)) : AOut) = o)) ?_ a_F 0 zb5 zh6 ?_ ()
      · rintro v5 zr10 zh9 zi7 zx8 ⟨⟩
        have zh9 : f_Y_where_l12 H NS p1 p2 Y_4 v5 = some zr10 := zh9
        suffices e : Ev (d + 2, 0, 0, 292, 17, [.val (.ref 64), .val (.int p1), .val (.int p2), .val (.int v5)], [.ref 192, .int v5], (126, 120, L, [Y_4, T, H, H2, RV, RU, ST, NS, I0, I1, I2, BO, FI, RG, GU, PU, MA, MN, MS, OT, SC], [192, 256, 384, 320, w, r5, 576, 640, 704], Lg)) o from ev_b 3 e (fun n => Eq.refl _)
        by_cases zc11 : (H 0 3) ≤ v5
        · have zh9 := itp zh9 zc11
          suffices e : Ev (d + 2, 0, 0, 292, 72, [.val (.ref 64), .val (.int p1), .val (.int p2), .val (.int v5)], [], (126, 120, L, [Y_4, T, H, H2, RV, RU, ST, NS, I0, I1, I2, BO, FI, RG, GU, PU, MA, MN, MS, OT, SC], [192, 256, 384, 320, w, r5, 576, 640, 704], Lg)) o from ev_t (c := (H 0 3) ≤ v5) _ _ 2  zc11 e (fun n => Eq.refl _)
          exact ev_b 0 (zx8 _ (Option.some.inj zh9).symm (.int v5)) (fun n => Eq.refl _)
        · have zh9 := itn zh9 zc11
          suffices e : Ev (d + 2, 0, 0, 292, 23, [.val (.ref 64), .val (.int p1), .val (.int p2), .val (.int v5)], [], (126, 120, L, [Y_4, T, H, H2, RV, RU, ST, NS, I0, I1, I2, BO, FI, RG, GU, PU, MA, MN, MS, OT, SC], [192, 256, 384, 320, w, r5, 576, 640, 704], Lg)) o from ev_f (c := (H 0 3) ≤ v5) _ _ 2  zc11 e (fun n => Eq.refl _)
          suffices e : Ev (d + 2, 0, 0, 292, 27, [.val (.ref 64), .val (.int p1), .val (.int p2), .val (.int v5)], [.ref 192], (126, 120, L, [Y_4, T, H, H2, RV, RU, ST, NS, I0, I1, I2, BO, FI, RG, GU, PU, MA, MN, MS, OT, SC], [192, 256, 384, 320, w, r5, 576, 640, 704], Lg)) o from ev_b 2 e (fun n => Eq.refl _)
          obtain ⟨x6, zh12, zh9⟩ := bnd zh9
          have zh12 : f_House_isMember H v5 p1 = some x6 := zh12
          have ze13 := R_f_House_isMember_0 (d + 1) Y_4 T H H2 RV RU ST NS I0 I1 I2 BO FI RG GU PU MA MN MS OT SC 192 256 384 320 w r5 576 640 704 L Lg v5 p1 zh12
          suffices e : Ev (d + 2, 0, 0, 292, 32, [.val (.ref 64), .val (.int p1), .val (.int p2), .val (.int v5)], [.int x6], (126, 120, L, [Y_4, T, H, H2, RV, RU, ST, NS, I0, I1, I2, BO, FI, RG, GU, PU, MA, MN, MS, OT, SC], [192, 256, 384, 320, w, r5, 576, 640, 704], Lg)) o from ev_call (fun v μ => (d + 2, 0, 0, 292, 32, [.val (.ref 64), .val (.int p1), .val (.int p2), .val (.int v5)], v.toList ++ [], μ)) 3 ze13 e (fun n => Eq.refl _)
          by_cases zc14 : x6 = 0
          · have zh9 := itp zh9 zc14
            suffices e : Ev (d + 2, 0, 0, 292, 66, [.val (.ref 64), .val (.int p1), .val (.int p2), .val (.int v5)], [], (126, 120, L, [Y_4, T, H, H2, RV, RU, ST, NS, I0, I1, I2, BO, FI, RG, GU, PU, MA, MN, MS, OT, SC], [192, 256, 384, 320, w, r5, 576, 640, 704], Lg)) o from ev_t (c := x6 = 0) _ _ 1  zc14 e (fun n => Eq.refl _)
            exact ev_b 2 (zi7 _ (Option.some.inj zh9).symm ()) (fun n => Eq.refl _)
          · have zh9 := itn zh9 zc14
            suffices e : Ev (d + 2, 0, 0, 292, 35, [.val (.ref 64), .val (.int p1), .val (.int p2), .val (.int v5)], [], (126, 120, L, [Y_4, T, H, H2, RV, RU, ST, NS, I0, I1, I2, BO, FI, RG, GU, PU, MA, MN, MS, OT, SC], [192, 256, 384, 320, w, r5, 576, 640, 704], Lg)) o from ev_f (c := x6 = 0) _ _ 1  zc14 e (fun n => Eq.refl _)
            obtain ⟨x7, zh15, zh9⟩ := bnd zh9
            have zh15 : rdx (NS 1) 10 v5 = some x7 := zh15
            suffices e : Ev (d + 2, 0, 0, 292, 44, [.val (.ref 64), .val (.int p1), .val (.int p2), .val (.int v5)], [.int x7], (126, 120, L, [Y_4, T, H, H2, RV, RU, ST, NS, I0, I1, I2, BO, FI, RG, GU, PU, MA, MN, MS, OT, SC], [192, 256, 384, 320, w, r5, 576, 640, 704], Lg)) o from ev_opt (fun x7 => (d + 2, 0, 0, 292, 44, [.val (.ref 64), .val (.int p1), .val (.int p2), .val (.int v5)], [.int x7], (126, 120, L, [Y_4, T, H, H2, RV, RU, ST, NS, I0, I1, I2, BO, FI, RG, GU, PU, MA, MN, MS, OT, SC], [192, 256, 384, 320, w, r5, 576, 640, 704], Lg))) 5 zh15 e (fun n => Eq.refl _)
            by_cases zc16 : x7 = (-1)
            · have zh9 := itp zh9 zc16
              suffices e : Ev (d + 2, 0, 0, 292, 66, [.val (.ref 64), .val (.int p1), .val (.int p2), .val (.int v5)], [], (126, 120, L, [Y_4, T, H, H2, RV, RU, ST, NS, I0, I1, I2, BO, FI, RG, GU, PU, MA, MN, MS, OT, SC], [192, 256, 384, 320, w, r5, 576, 640, 704], Lg)) o from ev_t (c := x7 = (-1)) _ _ 2  zc16 e (fun n => Eq.refl _)
              exact ev_b 2 (zi7 _ (Option.some.inj zh9).symm ()) (fun n => Eq.refl _)
            · have zh9 := itn zh9 zc16
              suffices e : Ev (d + 2, 0, 0, 292, 48, [.val (.ref 64), .val (.int p1), .val (.int p2), .val (.int v5)], [], (126, 120, L, [Y_4, T, H, H2, RV, RU, ST, NS, I0, I1, I2, BO, FI, RG, GU, PU, MA, MN, MS, OT, SC], [192, 256, 384, 320, w, r5, 576, 640, 704], Lg)) o from ev_f (c := x7 = (-1)) _ _ 2  zc16 e (fun n => Eq.refl _)
              obtain ⟨x8, zh17, zh9⟩ := bnd zh9
              have zh17 : rdx (NS 1) 10 v5 = some x8 := zh17
              suffices e : Ev (d + 2, 0, 0, 292, 57, [.val (.ref 64), .val (.int p1), .val (.int p2), .val (.int v5)], [.int x8], (126, 120, L, [Y_4, T, H, H2, RV, RU, ST, NS, I0, I1, I2, BO, FI, RG, GU, PU, MA, MN, MS, OT, SC], [192, 256, 384, 320, w, r5, 576, 640, 704], Lg)) o from ev_opt (fun x8 => (d + 2, 0, 0, 292, 57, [.val (.ref 64), .val (.int p1), .val (.int p2), .val (.int v5)], [.int x8], (126, 120, L, [Y_4, T, H, H2, RV, RU, ST, NS, I0, I1, I2, BO, FI, RG, GU, PU, MA, MN, MS, OT, SC], [192, 256, 384, 320, w, r5, 576, 640, 704], Lg))) 5 zh17 e (fun n => Eq.refl _)
              obtain ⟨x9, zh18, zh9⟩ := bnd zh9
              have zh18 : f_Y_hourOf x8 = some x9 := zh18
              have ze19 := R_f_Y_hourOf_0 (d + 1) Y_4 T H H2 RV RU ST NS I0 I1 I2 BO FI RG GU PU MA MN MS OT SC 192 256 384 320 w r5 576 640 704 L Lg x8 zh18
              suffices e : Ev (d + 2, 0, 0, 292, 60, [.val (.ref 64), .val (.int p1), .val (.int p2), .val (.int v5)], [.int x9], (126, 120, L, [Y_4, T, H, H2, RV, RU, ST, NS, I0, I1, I2, BO, FI, RG, GU, PU, MA, MN, MS, OT, SC], [192, 256, 384, 320, w, r5, 576, 640, 704], Lg)) o from ev_call (fun v μ => (d + 2, 0, 0, 292, 60, [.val (.ref 64), .val (.int p1), .val (.int p2), .val (.int v5)], v.toList ++ [], μ)) 1 ze19 e (fun n => Eq.refl _)
              by_cases zc20 : x9 ≠ p2
              · have zh9 := itp zh9 zc20
                suffices e : Ev (d + 2, 0, 0, 292, 66, [.val (.ref 64), .val (.int p1), .val (.int p2), .val (.int v5)], [], (126, 120, L, [Y_4, T, H, H2, RV, RU, ST, NS, I0, I1, I2, BO, FI, RG, GU, PU, MA, MN, MS, OT, SC], [192, 256, 384, 320, w, r5, 576, 640, 704], Lg)) o from ev_t (c := x9 ≠ p2) _ _ 2  zc20 e (fun n => Eq.refl _)
                exact ev_b 2 (zi7 _ (Option.some.inj zh9).symm ()) (fun n => Eq.refl _)
              · have zh9 := itn zh9 zc20
                suffices e : Ev (d + 2, 0, 0, 292, 64, [.val (.ref 64), .val (.int p1), .val (.int p2), .val (.int v5)], [], (126, 120, L, [Y_4, T, H, H2, RV, RU, ST, NS, I0, I1, I2, BO, FI, RG, GU, PU, MA, MN, MS, OT, SC], [192, 256, 384, 320, w, r5, 576, 640, 704], Lg)) o from ev_f (c := x9 ≠ p2) _ _ 2  zc20 e (fun n => Eq.refl _)
                exact ev_rete 2 (zx8 _ (Option.some.inj zh9).symm) (fun n => Eq.refl _)
      · rcases zb5 with ⟨⟩ | zr10
        · intro s10
          have ze21 := Option.some.inj h
          subst ze21
          exact ev_rete 2 ho (fun n => Eq.refl _)
        · have zh22 : some zr10 = some r := h
          exact (congrArg (fun q => ((q.1, a_ov q.1 (.int q.2.1), (126, 120, L, [q.2.2, T, H, H2, RV, RU, ST, NS, I0, I1, I2, BO, FI, RG, GU, PU, MA, MN, MS, OT, SC], [192, 256, 384, 320, w, r5, 576, 640, 704], Lg)) : AOut)) (Option.some.inj zh22)).trans ho
    | succ q3 =>
      have h := itn h (Nat.succ_ne_zero q3)
      have ze24 := Option.some.inj h
      subst ze24
      subst ho
      exact ev_thr (fun v μ => (d + 2, 0, 0, 292, 10, [.val (.ref 64), .val (.int p1), .val (.int p2), .val a_unk], v.toList ++ [], μ)) 3 ze4 (fun n => Eq.refl _) (fun n => rfl)
  | succ q1 =>
    have h := itn h (Nat.succ_ne_zero q1)
    have ze25 := Option.some.inj h
    subst ze25
    subst ho
    exact ev_thr (fun v μ => (d + 2, 1, 8, 292, 5, [.val (.ref 64), .val (.int p1), .val (.int p2), .val a_unk], v.toList ++ [], μ)) 3 ze2 (fun n => Eq.refl _) (fun n => rfl)
set_option maxRecDepth 1000000 in
set_option maxHeartbeats 4000000 in
theorem R_f_Y_where_2 (d : Nat) (Y T H2 H RU RV ST NS I0 I1 I2 BO FI RG GU PU MA MN MS OT SC : Nat → Nat → Int32) (w r5 : Nat) (L : Nat) (Lg : Int64) (p1 : Int32) (p2 : Int32) {r : Nat × Int32 × (Nat → Nat → Int32)} (h : f_Y_where Y H NS p1 p2 = some r) : Ev (d + 2, 2, 16, 292, 0, [.val (.ref 64), .val (.int p1), .val (.int p2), .val a_unk], [], (126, 120, L, [Y, T, H2, H, RU, RV, ST, NS, I0, I1, I2, BO, FI, RG, GU, PU, MA, MN, MS, OT, SC], [256, 192, 320, 384, w, r5, 576, 640, 704], Lg)) ((r.1, a_ov r.1 (.int r.2.1), (126, 120, L, [r.2.2, T, H2, H, RU, RV, ST, NS, I0, I1, I2, BO, FI, RG, GU, PU, MA, MN, MS, OT, SC], [256, 192, 320, 384, w, r5, 576, 640, 704], Lg)) : AOut) := by
  suffices key : ∀ o : AOut, ((r.1, a_ov r.1 (.int r.2.1), (126, 120, L, [r.2.2, T, H2, H, RU, RV, ST, NS, I0, I1, I2, BO, FI, RG, GU, PU, MA, MN, MS, OT, SC], [256, 192, 320, 384, w, r5, 576, 640, 704], Lg)) : AOut) = o → Ev (d + 2, 2, 16, 292, 0, [.val (.ref 64), .val (.int p1), .val (.int p2), .val a_unk], [], (126, 120, L, [Y, T, H2, H, RU, RV, ST, NS, I0, I1, I2, BO, FI, RG, GU, PU, MA, MN, MS, OT, SC], [256, 192, 320, 384, w, r5, 576, 640, 704], Lg)) o from key _ rfl
  intro o ho
  obtain ⟨⟨q1, Y_2⟩, zh1, h⟩ := bnd h
  have zh1 : f_Y_needPerson Y H p1 = some (q1, Y_2) := zh1
  have ze2 := R_f_Y_needPerson_2 (d + 0) Y T H2 H RU RV ST NS I0 I1 I2 BO FI RG GU PU MA MN MS OT SC w r5 L Lg p1 zh1
  cases q1 with
  | zero =>
    have h := itp h rfl
    suffices e : Ev (d + 2, 1, 8, 292, 5, [.val (.ref 64), .val (.int p1), .val (.int p2), .val a_unk], [], (126, 120, L, [Y_2, T, H2, H, RU, RV, ST, NS, I0, I1, I2, BO, FI, RG, GU, PU, MA, MN, MS, OT, SC], [256, 192, 320, 384, w, r5, 576, 640, 704], Lg)) o from ev_call (fun v μ => (d + 2, 1, 8, 292, 5, [.val (.ref 64), .val (.int p1), .val (.int p2), .val a_unk], v.toList ++ [], μ)) 3 ze2 e (fun n => Eq.refl _)
    obtain ⟨⟨q3, Y_4⟩, zh3, h⟩ := bnd h
    have zh3 : f_Y_needHour Y_2 H p2 = some (q3, Y_4) := zh3
    have ze4 := R_f_Y_needHour_2 (d + 0) Y_2 T H2 H RU RV ST NS I0 I1 I2 BO FI RG GU PU MA MN MS OT SC w r5 L Lg p2 zh3
    cases q3 with
    | zero =>
      have h := itp h rfl
      suffices e : Ev (d + 2, 0, 0, 292, 10, [.val (.ref 64), .val (.int p1), .val (.int p2), .val a_unk], [], (126, 120, L, [Y_4, T, H2, H, RU, RV, ST, NS, I0, I1, I2, BO, FI, RG, GU, PU, MA, MN, MS, OT, SC], [256, 192, 320, 384, w, r5, 576, 640, 704], Lg)) o from ev_call (fun v μ => (d + 2, 0, 0, 292, 10, [.val (.ref 64), .val (.int p1), .val (.int p2), .val a_unk], v.toList ++ [], μ)) 3 ze4 e (fun n => Eq.refl _)
      obtain ⟨zb5, zh6, h⟩ := bnd h
      suffices e : Ev (d + 2, 0, 0, 292, 12, [.val (.ref 64), .val (.int p1), .val (.int p2), .val (.int 0)], [], (126, 120, L, [Y_4, T, H2, H, RU, RV, ST, NS, I0, I1, I2, BO, FI, RG, GU, PU, MA, MN, MS, OT, SC], [256, 192, 320, 384, w, r5, 576, 640, 704], Lg)) o from ev_b 2 e (fun n => Eq.refl _)
      refine ev_loop (δ := Unit) (fun a j => (d + 2, 0, 0, 292, 12, [.val (.ref 64), .val (.int p1), .val (.int p2), .val (.int a)], [], (126, 120, L, [Y_4, T, H2, H, RU, RV, ST, NS, I0, I1, I2, BO, FI, RG, GU, PU, MA, MN, MS, OT, SC], [256, 192, 320, 384, w, r5, 576, 640, 704], Lg))) (fun b => sumE b (fun b => ∀ s10 : Value, Ev (d + 2, 0, 0, 292, 72, [.val (.ref 64), .val (.int p1), .val (.int p2), .val s10], [], (126, 120, L, [Y_4, T, H2, H, RU, RV, ST, NS, I0, I1, I2, BO, FI, RG, GU, PU, MA, MN, MS, OT, SC], [256, 192, 320, 384, w, r5, 576, 640, 704], Lg)) o) (fun b => ((b.1, a_ov b.1 (.int b.2.1), (126, 120, L, [b.2.2, T, H2, H, RU, RV, ST, NS, I0, I1, I2, BO, FI, RG, GU, PU, MA, MN, MS, OT, SC], [256, 192, 320, 384, w, r5, 576, 640, 704], Lg)) : AOut) = o)) ?_ a_F 0 zb5 zh6 ?_ ()
      · rintro v5 zr10 zh9 zi7 zx8 ⟨⟩
        have zh9 : f_Y_where_l12 H NS p1 p2 Y_4 v5 = some zr10 := zh9
        suffices e : Ev (d + 2, 0, 0, 292, 17, [.val (.ref 64), .val (.int p1), .val (.int p2), .val (.int v5)], [.ref 256, .int v5], (126, 120, L, [Y_4, T, H2, H, RU, RV, ST, NS, I0, I1, I2, BO, FI, RG, GU, PU, MA, MN, MS, OT, SC], [256, 192, 320, 384, w, r5, 576, 640, 704], Lg)) o from ev_b 3 e (fun n => Eq.refl _)
        by_cases zc11 : (H 0 3) ≤ v5
        · have zh9 := itp zh9 zc11
          suffices e : Ev (d + 2, 0, 0, 292, 72, [.val (.ref 64), .val (.int p1), .val (.int p2), .val (.int v5)], [], (126, 120, L, [Y_4, T, H2, H, RU, RV, ST, NS, I0, I1, I2, BO, FI, RG, GU, PU, MA, MN, MS, OT, SC], [256, 192, 320, 384, w, r5, 576, 640, 704], Lg)) o from ev_t (c := (H 0 3) ≤ v5) _ _ 2  zc11 e (fun n => Eq.refl _)
          exact ev_b 0 (zx8 _ (Option.some.inj zh9).symm (.int v5)) (fun n => Eq.refl _)
        · have zh9 := itn zh9 zc11
          suffices e : Ev (d + 2, 0, 0, 292, 23, [.val (.ref 64), .val (.int p1), .val (.int p2), .val (.int v5)], [], (126, 120, L, [Y_4, T, H2, H, RU, RV, ST, NS, I0, I1, I2, BO, FI, RG, GU, PU, MA, MN, MS, OT, SC], [256, 192, 320, 384, w, r5, 576, 640, 704], Lg)) o from ev_f (c := (H 0 3) ≤ v5) _ _ 2  zc11 e (fun n => Eq.refl _)
          suffices e : Ev (d + 2, 0, 0, 292, 27, [.val (.ref 64), .val (.int p1), .val (.int p2), .val (.int v5)], [.ref 256], (126, 120, L, [Y_4, T, H2, H, RU, RV, ST, NS, I0, I1, I2, BO, FI, RG, GU, PU, MA, MN, MS, OT, SC], [256, 192, 320, 384, w, r5, 576, 640, 704], Lg)) o from ev_b 2 e (fun n => Eq.refl _)
          obtain ⟨x6, zh12, zh9⟩ := bnd zh9
          have zh12 : f_House_isMember H v5 p1 = some x6 := zh12
          have ze13 := R_f_House_isMember_1 (d + 1) Y_4 T H2 H RU RV ST NS I0 I1 I2 BO FI RG GU PU MA MN MS OT SC 256 192 320 384 w r5 576 640 704 L Lg v5 p1 zh12
          suffices e : Ev (d + 2, 0, 0, 292, 32, [.val (.ref 64), .val (.int p1), .val (.int p2), .val (.int v5)], [.int x6], (126, 120, L, [Y_4, T, H2, H, RU, RV, ST, NS, I0, I1, I2, BO, FI, RG, GU, PU, MA, MN, MS, OT, SC], [256, 192, 320, 384, w, r5, 576, 640, 704], Lg)) o from ev_call (fun v μ => (d + 2, 0, 0, 292, 32, [.val (.ref 64), .val (.int p1), .val (.int p2), .val (.int v5)], v.toList ++ [], μ)) 3 ze13 e (fun n => Eq.refl _)
          by_cases zc14 : x6 = 0
          · have zh9 := itp zh9 zc14
            suffices e : Ev (d + 2, 0, 0, 292, 66, [.val (.ref 64), .val (.int p1), .val (.int p2), .val (.int v5)], [], (126, 120, L, [Y_4, T, H2, H, RU, RV, ST, NS, I0, I1, I2, BO, FI, RG, GU, PU, MA, MN, MS, OT, SC], [256, 192, 320, 384, w, r5, 576, 640, 704], Lg)) o from ev_t (c := x6 = 0) _ _ 1  zc14 e (fun n => Eq.refl _)
            exact ev_b 2 (zi7 _ (Option.some.inj zh9).symm ()) (fun n => Eq.refl _)
          · have zh9 := itn zh9 zc14
            suffices e : Ev (d + 2, 0, 0, 292, 35, [.val (.ref 64), .val (.int p1), .val (.int p2), .val (.int v5)], [], (126, 120, L, [Y_4, T, H2, H, RU, RV, ST, NS, I0, I1, I2, BO, FI, RG, GU, PU, MA, MN, MS, OT, SC], [256, 192, 320, 384, w, r5, 576, 640, 704], Lg)) o from ev_f (c := x6 = 0) _ _ 1  zc14 e (fun n => Eq.refl _)
            obtain ⟨x7, zh15, zh9⟩ := bnd zh9
            have zh15 : rdx (NS 1) 10 v5 = some x7 := zh15
            suffices e : Ev (d + 2, 0, 0, 292, 44, [.val (.ref 64), .val (.int p1), .val (.int p2), .val (.int v5)], [.int x7], (126, 120, L, [Y_4, T, H2, H, RU, RV, ST, NS, I0, I1, I2, BO, FI, RG, GU, PU, MA, MN, MS, OT, SC], [256, 192, 320, 384, w, r5, 576, 640, 704], Lg)) o from ev_opt (fun x7 => (d + 2, 0, 0, 292, 44, [.val (.ref 64), .val (.int p1), .val (.int p2), .val (.int v5)], [.int x7], (126, 120, L, [Y_4, T, H2, H, RU, RV, ST, NS, I0, I1, I2, BO, FI, RG, GU, PU, MA, MN, MS, OT, SC], [256, 192, 320, 384, w, r5, 576, 640, 704], Lg))) 5 zh15 e (fun n => Eq.refl _)
            by_cases zc16 : x7 = (-1)
            · have zh9 := itp zh9 zc16
              suffices e : Ev (d + 2, 0, 0, 292, 66, [.val (.ref 64), .val (.int p1), .val (.int p2), .val (.int v5)], [], (126, 120, L, [Y_4, T, H2, H, RU, RV, ST, NS, I0, I1, I2, BO, FI, RG, GU, PU, MA, MN, MS, OT, SC], [256, 192, 320, 384, w, r5, 576, 640, 704], Lg)) o from ev_t (c := x7 = (-1)) _ _ 2  zc16 e (fun n => Eq.refl _)
              exact ev_b 2 (zi7 _ (Option.some.inj zh9).symm ()) (fun n => Eq.refl _)
            · have zh9 := itn zh9 zc16
              suffices e : Ev (d + 2, 0, 0, 292, 48, [.val (.ref 64), .val (.int p1), .val (.int p2), .val (.int v5)], [], (126, 120, L, [Y_4, T, H2, H, RU, RV, ST, NS, I0, I1, I2, BO, FI, RG, GU, PU, MA, MN, MS, OT, SC], [256, 192, 320, 384, w, r5, 576, 640, 704], Lg)) o from ev_f (c := x7 = (-1)) _ _ 2  zc16 e (fun n => Eq.refl _)
              obtain ⟨x8, zh17, zh9⟩ := bnd zh9
              have zh17 : rdx (NS 1) 10 v5 = some x8 := zh17
              suffices e : Ev (d + 2, 0, 0, 292, 57, [.val (.ref 64), .val (.int p1), .val (.int p2), .val (.int v5)], [.int x8], (126, 120, L, [Y_4, T, H2, H, RU, RV, ST, NS, I0, I1, I2, BO, FI, RG, GU, PU, MA, MN, MS, OT, SC], [256, 192, 320, 384, w, r5, 576, 640, 704], Lg)) o from ev_opt (fun x8 => (d + 2, 0, 0, 292, 57, [.val (.ref 64), .val (.int p1), .val (.int p2), .val (.int v5)], [.int x8], (126, 120, L, [Y_4, T, H2, H, RU, RV, ST, NS, I0, I1, I2, BO, FI, RG, GU, PU, MA, MN, MS, OT, SC], [256, 192, 320, 384, w, r5, 576, 640, 704], Lg))) 5 zh17 e (fun n => Eq.refl _)
              obtain ⟨x9, zh18, zh9⟩ := bnd zh9
              have zh18 : f_Y_hourOf x8 = some x9 := zh18
              have ze19 := R_f_Y_hourOf_0 (d + 1) Y_4 T H2 H RU RV ST NS I0 I1 I2 BO FI RG GU PU MA MN MS OT SC 256 192 320 384 w r5 576 640 704 L Lg x8 zh18
              suffices e : Ev (d + 2, 0, 0, 292, 60, [.val (.ref 64), .val (.int p1), .val (.int p2), .val (.int v5)], [.int x9], (126, 120, L, [Y_4, T, H2, H, RU, RV, ST, NS, I0, I1, I2, BO, FI, RG, GU, PU, MA, MN, MS, OT, SC], [256, 192, 320, 384, w, r5, 576, 640, 704], Lg)) o from ev_call (fun v μ => (d + 2, 0, 0, 292, 60, [.val (.ref 64), .val (.int p1), .val (.int p2), .val (.int v5)], v.toList ++ [], μ)) 1 ze19 e (fun n => Eq.refl _)
              by_cases zc20 : x9 ≠ p2
              · have zh9 := itp zh9 zc20
                suffices e : Ev (d + 2, 0, 0, 292, 66, [.val (.ref 64), .val (.int p1), .val (.int p2), .val (.int v5)], [], (126, 120, L, [Y_4, T, H2, H, RU, RV, ST, NS, I0, I1, I2, BO, FI, RG, GU, PU, MA, MN, MS, OT, SC], [256, 192, 320, 384, w, r5, 576, 640, 704], Lg)) o from ev_t (c := x9 ≠ p2) _ _ 2  zc20 e (fun n => Eq.refl _)
                exact ev_b 2 (zi7 _ (Option.some.inj zh9).symm ()) (fun n => Eq.refl _)
              · have zh9 := itn zh9 zc20
                suffices e : Ev (d + 2, 0, 0, 292, 64, [.val (.ref 64), .val (.int p1), .val (.int p2), .val (.int v5)], [], (126, 120, L, [Y_4, T, H2, H, RU, RV, ST, NS, I0, I1, I2, BO, FI, RG, GU, PU, MA, MN, MS, OT, SC], [256, 192, 320, 384, w, r5, 576, 640, 704], Lg)) o from ev_f (c := x9 ≠ p2) _ _ 2  zc20 e (fun n => Eq.refl _)
                exact ev_rete 2 (zx8 _ (Option.some.inj zh9).symm) (fun n => Eq.refl _)
      · rcases zb5 with ⟨⟩ | zr10
        · intro s10
          have ze21 := Option.some.inj h
          subst ze21
          exact ev_rete 2 ho (fun n => Eq.refl _)
        · have zh22 : some zr10 = some r := h
          exact (congrArg (fun q => ((q.1, a_ov q.1 (.int q.2.1), (126, 120, L, [q.2.2, T, H2, H, RU, RV, ST, NS, I0, I1, I2, BO, FI, RG, GU, PU, MA, MN, MS, OT, SC], [256, 192, 320, 384, w, r5, 576, 640, 704], Lg)) : AOut)) (Option.some.inj zh22)).trans ho
    | succ q3 =>
      have h := itn h (Nat.succ_ne_zero q3)
      have ze24 := Option.some.inj h
      subst ze24
      subst ho
      exact ev_thr (fun v μ => (d + 2, 0, 0, 292, 10, [.val (.ref 64), .val (.int p1), .val (.int p2), .val a_unk], v.toList ++ [], μ)) 3 ze4 (fun n => Eq.refl _) (fun n => rfl)
  | succ q1 =>
    have h := itn h (Nat.succ_ne_zero q1)
    have ze25 := Option.some.inj h
    subst ze25
    subst ho
    exact ev_thr (fun v μ => (d + 2, 1, 8, 292, 5, [.val (.ref 64), .val (.int p1), .val (.int p2), .val a_unk], v.toList ++ [], μ)) 3 ze2 (fun n => Eq.refl _) (fun n => rfl)
set_option maxRecDepth 1000000 in
set_option maxHeartbeats 4000000 in
theorem R_f_Y_where_3 (d : Nat) (Y T H2 H RV RU ST NS I0 I1 I2 BO FI RG GU PU MA MN MS OT SC : Nat → Nat → Int32) (w r5 : Nat) (L : Nat) (Lg : Int64) (p1 : Int32) (p2 : Int32) {r : Nat × Int32 × (Nat → Nat → Int32)} (h : f_Y_where Y H NS p1 p2 = some r) : Ev (d + 2, 2, 16, 292, 0, [.val (.ref 64), .val (.int p1), .val (.int p2), .val a_unk], [], (126, 120, L, [Y, T, H2, H, RV, RU, ST, NS, I0, I1, I2, BO, FI, RG, GU, PU, MA, MN, MS, OT, SC], [256, 192, 384, 320, w, r5, 576, 640, 704], Lg)) ((r.1, a_ov r.1 (.int r.2.1), (126, 120, L, [r.2.2, T, H2, H, RV, RU, ST, NS, I0, I1, I2, BO, FI, RG, GU, PU, MA, MN, MS, OT, SC], [256, 192, 384, 320, w, r5, 576, 640, 704], Lg)) : AOut) := by
  suffices key : ∀ o : AOut, ((r.1, a_ov r.1 (.int r.2.1), (126, 120, L, [r.2.2, T, H2, H, RV, RU, ST, NS, I0, I1, I2, BO, FI, RG, GU, PU, MA, MN, MS, OT, SC], [256, 192, 384, 320, w, r5, 576, 640, 704], Lg)) : AOut) = o → Ev (d + 2, 2, 16, 292, 0, [.val (.ref 64), .val (.int p1), .val (.int p2), .val a_unk], [], (126, 120, L, [Y, T, H2, H, RV, RU, ST, NS, I0, I1, I2, BO, FI, RG, GU, PU, MA, MN, MS, OT, SC], [256, 192, 384, 320, w, r5, 576, 640, 704], Lg)) o from key _ rfl
  intro o ho
  obtain ⟨⟨q1, Y_2⟩, zh1, h⟩ := bnd h
  have zh1 : f_Y_needPerson Y H p1 = some (q1, Y_2) := zh1
  have ze2 := R_f_Y_needPerson_3 (d + 0) Y T H2 H RV RU ST NS I0 I1 I2 BO FI RG GU PU MA MN MS OT SC w r5 L Lg p1 zh1
  cases q1 with
  | zero =>
    have h := itp h rfl
    suffices e : Ev (d + 2, 1, 8, 292, 5, [.val (.ref 64), .val (.int p1), .val (.int p2), .val a_unk], [], (126, 120, L, [Y_2, T, H2, H, RV, RU, ST, NS, I0, I1, I2, BO, FI, RG, GU, PU, MA, MN, MS, OT, SC], [256, 192, 384, 320, w, r5, 576, 640, 704], Lg)) o from ev_call (fun v μ => (d + 2, 1, 8, 292, 5, [.val (.ref 64), .val (.int p1), .val (.int p2), .val a_unk], v.toList ++ [], μ)) 3 ze2 e (fun n => Eq.refl _)
    obtain ⟨⟨q3, Y_4⟩, zh3, h⟩ := bnd h
    have zh3 : f_Y_needHour Y_2 H p2 = some (q3, Y_4) := zh3
    have ze4 := R_f_Y_needHour_3 (d + 0) Y_2 T H2 H RV RU ST NS I0 I1 I2 BO FI RG GU PU MA MN MS OT SC w r5 L Lg p2 zh3
    cases q3 with
    | zero =>
      have h := itp h rfl
      suffices e : Ev (d + 2, 0, 0, 292, 10, [.val (.ref 64), .val (.int p1), .val (.int p2), .val a_unk], [], (126, 120, L, [Y_4, T, H2, H, RV, RU, ST, NS, I0, I1, I2, BO, FI, RG, GU, PU, MA, MN, MS, OT, SC], [256, 192, 384, 320, w, r5, 576, 640, 704], Lg)) o from ev_call (fun v μ => (d + 2, 0, 0, 292, 10, [.val (.ref 64), .val (.int p1), .val (.int p2), .val a_unk], v.toList ++ [], μ)) 3 ze4 e (fun n => Eq.refl _)
      obtain ⟨zb5, zh6, h⟩ := bnd h
      suffices e : Ev (d + 2, 0, 0, 292, 12, [.val (.ref 64), .val (.int p1), .val (.int p2), .val (.int 0)], [], (126, 120, L, [Y_4, T, H2, H, RV, RU, ST, NS, I0, I1, I2, BO, FI, RG, GU, PU, MA, MN, MS, OT, SC], [256, 192, 384, 320, w, r5, 576, 640, 704], Lg)) o from ev_b 2 e (fun n => Eq.refl _)
      refine ev_loop (δ := Unit) (fun a j => (d + 2, 0, 0, 292, 12, [.val (.ref 64), .val (.int p1), .val (.int p2), .val (.int a)], [], (126, 120, L, [Y_4, T, H2, H, RV, RU, ST, NS, I0, I1, I2, BO, FI, RG, GU, PU, MA, MN, MS, OT, SC], [256, 192, 384, 320, w, r5, 576, 640, 704], Lg))) (fun b => sumE b (fun b => ∀ s10 : Value, Ev (d + 2, 0, 0, 292, 72, [.val (.ref 64), .val (.int p1), .val (.int p2), .val s10], [], (126, 120, L, [Y_4, T, H2, H, RV, RU, ST, NS, I0, I1, I2, BO, FI, RG, GU, PU, MA, MN, MS, OT, SC], [256, 192, 384, 320, w, r5, 576, 640, 704], Lg)) o) (fun b => ((b.1, a_ov b.1 (.int b.2.1), (126, 120, L, [b.2.2, T, H2, H, RV, RU, ST, NS, I0, I1, I2, BO, FI, RG, GU, PU, MA, MN, MS, OT, SC], [256, 192, 384, 320, w, r5, 576, 640, 704], Lg)) : AOut) = o)) ?_ a_F 0 zb5 zh6 ?_ ()
      · rintro v5 zr10 zh9 zi7 zx8 ⟨⟩
        have zh9 : f_Y_where_l12 H NS p1 p2 Y_4 v5 = some zr10 := zh9
        suffices e : Ev (d + 2, 0, 0, 292, 17, [.val (.ref 64), .val (.int p1), .val (.int p2), .val (.int v5)], [.ref 256, .int v5], (126, 120, L, [Y_4, T, H2, H, RV, RU, ST, NS, I0, I1, I2, BO, FI, RG, GU, PU, MA, MN, MS, OT, SC], [256, 192, 384, 320, w, r5, 576, 640, 704], Lg)) o from ev_b 3 e (fun n => Eq.refl _)
        by_cases zc11 : (H 0 3) ≤ v5
        · have zh9 := itp zh9 zc11
          suffices e : Ev (d + 2, 0, 0, 292, 72, [.val (.ref 64), .val (.int p1), .val (.int p2), .val (.int v5)], [], (126, 120, L, [Y_4, T, H2, H, RV, RU, ST, NS, I0, I1, I2, BO, FI, RG, GU, PU, MA, MN, MS, OT, SC], [256, 192, 384, 320, w, r5, 576, 640, 704], Lg)) o from ev_t (c := (H 0 3) ≤ v5) _ _ 2  zc11 e (fun n => Eq.refl _)
          exact ev_b 0 (zx8 _ (Option.some.inj zh9).symm (.int v5)) (fun n => Eq.refl _)
        · have zh9 := itn zh9 zc11
          suffices e : Ev (d + 2, 0, 0, 292, 23, [.val (.ref 64), .val (.int p1), .val (.int p2), .val (.int v5)], [], (126, 120, L, [Y_4, T, H2, H, RV, RU, ST, NS, I0, I1, I2, BO, FI, RG, GU, PU, MA, MN, MS, OT, SC], [256, 192, 384, 320, w, r5, 576, 640, 704], Lg)) o from ev_f (c := (H 0 3) ≤ v5) _ _ 2  zc11 e (fun n => Eq.refl _)
          suffices e : Ev (d + 2, 0, 0, 292, 27, [.val (.ref 64), .val (.int p1), .val (.int p2), .val (.int v5)], [.ref 256], (126, 120, L, [Y_4, T, H2, H, RV, RU, ST, NS, I0, I1, I2, BO, FI, RG, GU, PU, MA, MN, MS, OT, SC], [256, 192, 384, 320, w, r5, 576, 640, 704], Lg)) o from ev_b 2 e (fun n => Eq.refl _)
          obtain ⟨x6, zh12, zh9⟩ := bnd zh9
          have zh12 : f_House_isMember H v5 p1 = some x6 := zh12
          have ze13 := R_f_House_isMember_1 (d + 1) Y_4 T H2 H RV RU ST NS I0 I1 I2 BO FI RG GU PU MA MN MS OT SC 256 192 384 320 w r5 576 640 704 L Lg v5 p1 zh12
          suffices e : Ev (d + 2, 0, 0, 292, 32, [.val (.ref 64), .val (.int p1), .val (.int p2), .val (.int v5)], [.int x6], (126, 120, L, [Y_4, T, H2, H, RV, RU, ST, NS, I0, I1, I2, BO, FI, RG, GU, PU, MA, MN, MS, OT, SC], [256, 192, 384, 320, w, r5, 576, 640, 704], Lg)) o from ev_call (fun v μ => (d + 2, 0, 0, 292, 32, [.val (.ref 64), .val (.int p1), .val (.int p2), .val (.int v5)], v.toList ++ [], μ)) 3 ze13 e (fun n => Eq.refl _)
          by_cases zc14 : x6 = 0
          · have zh9 := itp zh9 zc14
            suffices e : Ev (d + 2, 0, 0, 292, 66, [.val (.ref 64), .val (.int p1), .val (.int p2), .val (.int v5)], [], (126, 120, L, [Y_4, T, H2, H, RV, RU, ST, NS, I0, I1, I2, BO, FI, RG, GU, PU, MA, MN, MS, OT, SC], [256, 192, 384, 320, w, r5, 576, 640, 704], Lg)) o from ev_t (c := x6 = 0) _ _ 1  zc14 e (fun n => Eq.refl _)
            exact ev_b 2 (zi7 _ (Option.some.inj zh9).symm ()) (fun n => Eq.refl _)
          · have zh9 := itn zh9 zc14
            suffices e : Ev (d + 2, 0, 0, 292, 35, [.val (.ref 64), .val (.int p1), .val (.int p2), .val (.int v5)], [], (126, 120, L, [Y_4, T, H2, H, RV, RU, ST, NS, I0, I1, I2, BO, FI, RG, GU, PU, MA, MN, MS, OT, SC], [256, 192, 384, 320, w, r5, 576, 640, 704], Lg)) o from ev_f (c := x6 = 0) _ _ 1  zc14 e (fun n => Eq.refl _)
            obtain ⟨x7, zh15, zh9⟩ := bnd zh9
            have zh15 : rdx (NS 1) 10 v5 = some x7 := zh15
            suffices e : Ev (d + 2, 0, 0, 292, 44, [.val (.ref 64), .val (.int p1), .val (.int p2), .val (.int v5)], [.int x7], (126, 120, L, [Y_4, T, H2, H, RV, RU, ST, NS, I0, I1, I2, BO, FI, RG, GU, PU, MA, MN, MS, OT, SC], [256, 192, 384, 320, w, r5, 576, 640, 704], Lg)) o from ev_opt (fun x7 => (d + 2, 0, 0, 292, 44, [.val (.ref 64), .val (.int p1), .val (.int p2), .val (.int v5)], [.int x7], (126, 120, L, [Y_4, T, H2, H, RV, RU, ST, NS, I0, I1, I2, BO, FI, RG, GU, PU, MA, MN, MS, OT, SC], [256, 192, 384, 320, w, r5, 576, 640, 704], Lg))) 5 zh15 e (fun n => Eq.refl _)
            by_cases zc16 : x7 = (-1)
            · have zh9 := itp zh9 zc16
              suffices e : Ev (d + 2, 0, 0, 292, 66, [.val (.ref 64), .val (.int p1), .val (.int p2), .val (.int v5)], [], (126, 120, L, [Y_4, T, H2, H, RV, RU, ST, NS, I0, I1, I2, BO, FI, RG, GU, PU, MA, MN, MS, OT, SC], [256, 192, 384, 320, w, r5, 576, 640, 704], Lg)) o from ev_t (c := x7 = (-1)) _ _ 2  zc16 e (fun n => Eq.refl _)
              exact ev_b 2 (zi7 _ (Option.some.inj zh9).symm ()) (fun n => Eq.refl _)
            · have zh9 := itn zh9 zc16
              suffices e : Ev (d + 2, 0, 0, 292, 48, [.val (.ref 64), .val (.int p1), .val (.int p2), .val (.int v5)], [], (126, 120, L, [Y_4, T, H2, H, RV, RU, ST, NS, I0, I1, I2, BO, FI, RG, GU, PU, MA, MN, MS, OT, SC], [256, 192, 384, 320, w, r5, 576, 640, 704], Lg)) o from ev_f (c := x7 = (-1)) _ _ 2  zc16 e (fun n => Eq.refl _)
              obtain ⟨x8, zh17, zh9⟩ := bnd zh9
              have zh17 : rdx (NS 1) 10 v5 = some x8 := zh17
              suffices e : Ev (d + 2, 0, 0, 292, 57, [.val (.ref 64), .val (.int p1), .val (.int p2), .val (.int v5)], [.int x8], (126, 120, L, [Y_4, T, H2, H, RV, RU, ST, NS, I0, I1, I2, BO, FI, RG, GU, PU, MA, MN, MS, OT, SC], [256, 192, 384, 320, w, r5, 576, 640, 704], Lg)) o from ev_opt (fun x8 => (d + 2, 0, 0, 292, 57, [.val (.ref 64), .val (.int p1), .val (.int p2), .val (.int v5)], [.int x8], (126, 120, L, [Y_4, T, H2, H, RV, RU, ST, NS, I0, I1, I2, BO, FI, RG, GU, PU, MA, MN, MS, OT, SC], [256, 192, 384, 320, w, r5, 576, 640, 704], Lg))) 5 zh17 e (fun n => Eq.refl _)
              obtain ⟨x9, zh18, zh9⟩ := bnd zh9
              have zh18 : f_Y_hourOf x8 = some x9 := zh18
              have ze19 := R_f_Y_hourOf_0 (d + 1) Y_4 T H2 H RV RU ST NS I0 I1 I2 BO FI RG GU PU MA MN MS OT SC 256 192 384 320 w r5 576 640 704 L Lg x8 zh18
              suffices e : Ev (d + 2, 0, 0, 292, 60, [.val (.ref 64), .val (.int p1), .val (.int p2), .val (.int v5)], [.int x9], (126, 120, L, [Y_4, T, H2, H, RV, RU, ST, NS, I0, I1, I2, BO, FI, RG, GU, PU, MA, MN, MS, OT, SC], [256, 192, 384, 320, w, r5, 576, 640, 704], Lg)) o from ev_call (fun v μ => (d + 2, 0, 0, 292, 60, [.val (.ref 64), .val (.int p1), .val (.int p2), .val (.int v5)], v.toList ++ [], μ)) 1 ze19 e (fun n => Eq.refl _)
              by_cases zc20 : x9 ≠ p2
              · have zh9 := itp zh9 zc20
                suffices e : Ev (d + 2, 0, 0, 292, 66, [.val (.ref 64), .val (.int p1), .val (.int p2), .val (.int v5)], [], (126, 120, L, [Y_4, T, H2, H, RV, RU, ST, NS, I0, I1, I2, BO, FI, RG, GU, PU, MA, MN, MS, OT, SC], [256, 192, 384, 320, w, r5, 576, 640, 704], Lg)) o from ev_t (c := x9 ≠ p2) _ _ 2  zc20 e (fun n => Eq.refl _)
                exact ev_b 2 (zi7 _ (Option.some.inj zh9).symm ()) (fun n => Eq.refl _)
              · have zh9 := itn zh9 zc20
                suffices e : Ev (d + 2, 0, 0, 292, 64, [.val (.ref 64), .val (.int p1), .val (.int p2), .val (.int v5)], [], (126, 120, L, [Y_4, T, H2, H, RV, RU, ST, NS, I0, I1, I2, BO, FI, RG, GU, PU, MA, MN, MS, OT, SC], [256, 192, 384, 320, w, r5, 576, 640, 704], Lg)) o from ev_f (c := x9 ≠ p2) _ _ 2  zc20 e (fun n => Eq.refl _)
                exact ev_rete 2 (zx8 _ (Option.some.inj zh9).symm) (fun n => Eq.refl _)
      · rcases zb5 with ⟨⟩ | zr10
        · intro s10
          have ze21 := Option.some.inj h
          subst ze21
          exact ev_rete 2 ho (fun n => Eq.refl _)
        · have zh22 : some zr10 = some r := h
          exact (congrArg (fun q => ((q.1, a_ov q.1 (.int q.2.1), (126, 120, L, [q.2.2, T, H2, H, RV, RU, ST, NS, I0, I1, I2, BO, FI, RG, GU, PU, MA, MN, MS, OT, SC], [256, 192, 384, 320, w, r5, 576, 640, 704], Lg)) : AOut)) (Option.some.inj zh22)).trans ho
    | succ q3 =>
      have h := itn h (Nat.succ_ne_zero q3)
      have ze24 := Option.some.inj h
      subst ze24
      subst ho
      exact ev_thr (fun v μ => (d + 2, 0, 0, 292, 10, [.val (.ref 64), .val (.int p1), .val (.int p2), .val a_unk], v.toList ++ [], μ)) 3 ze4 (fun n => Eq.refl _) (fun n => rfl)
  | succ q1 =>
    have h := itn h (Nat.succ_ne_zero q1)
    have ze25 := Option.some.inj h
    subst ze25
    subst ho
    exact ev_thr (fun v μ => (d + 2, 1, 8, 292, 5, [.val (.ref 64), .val (.int p1), .val (.int p2), .val a_unk], v.toList ++ [], μ)) 3 ze2 (fun n => Eq.refl _) (fun n => rfl)
set_option maxRecDepth 1000000 in
set_option maxHeartbeats 4000000 in
theorem R_f_Y_needPlace_0 (d : Nat) (Y T H H2 RU RV ST NS I0 I1 I2 BO FI RG GU PU MA MN MS OT SC : Nat → Nat → Int32) (w r5 : Nat) (L : Nat) (Lg : Int64) (p1 : Int32) (p2 : Int32) (p3 : Int32) {r : Nat × (Nat → Nat → Int32)} (h : f_Y_needPlace Y H p1 p2 p3 = some r) : Ev (d + 2, 3, 24, 340, 0, [.val (.ref 64), .val (.int p1), .val (.int p2), .val (.int p3)], [], (126, 120, L, [Y, T, H, H2, RU, RV, ST, NS, I0, I1, I2, BO, FI, RG, GU, PU, MA, MN, MS, OT, SC], [192, 256, 320, 384, w, r5, 576, 640, 704], Lg)) ((r.1, none, (126, 120, L, [r.2, T, H, H2, RU, RV, ST, NS, I0, I1, I2, BO, FI, RG, GU, PU, MA, MN, MS, OT, SC], [192, 256, 320, 384, w, r5, 576, 640, 704], Lg)) : AOut) := by
  suffices key : ∀ o : AOut, ((r.1, none, (126, 120, L, [r.2, T, H, H2, RU, RV, ST, NS, I0, I1, I2, BO, FI, RG, GU, PU, MA, MN, MS, OT, SC], [192, 256, 320, 384, w, r5, 576, 640, 704], Lg)) : AOut) = o → Ev (d + 2, 3, 24, 340, 0, [.val (.ref 64), .val (.int p1), .val (.int p2), .val (.int p3)], [], (126, 120, L, [Y, T, H, H2, RU, RV, ST, NS, I0, I1, I2, BO, FI, RG, GU, PU, MA, MN, MS, OT, SC], [192, 256, 320, 384, w, r5, 576, 640, 704], Lg)) o from key _ rfl
  intro o ho
  obtain ⟨⟨q1, Y_2⟩, zh1, h⟩ := bnd h
  have zh1 : f_Y_needMeeting Y H p1 = some (q1, Y_2) := zh1
  have ze2 := R_f_Y_needMeeting_0 (d + 0) Y T H H2 RU RV ST NS I0 I1 I2 BO FI RG GU PU MA MN MS OT SC w r5 L Lg p1 zh1
  cases q1 with
  | zero =>
    have h := itp h rfl
    suffices e : Ev (d + 2, 2, 16, 340, 5, [.val (.ref 64), .val (.int p1), .val (.int p2), .val (.int p3)], [], (126, 120, L, [Y_2, T, H, H2, RU, RV, ST, NS, I0, I1, I2, BO, FI, RG, GU, PU, MA, MN, MS, OT, SC], [192, 256, 320, 384, w, r5, 576, 640, 704], Lg)) o from ev_call (fun v μ => (d + 2, 2, 16, 340, 5, [.val (.ref 64), .val (.int p1), .val (.int p2), .val (.int p3)], v.toList ++ [], μ)) 3 ze2 e (fun n => Eq.refl _)
    obtain ⟨⟨q3, Y_4⟩, zh3, h⟩ := bnd h
    have zh3 : f_Y_needRoom Y_2 H p3 = some (q3, Y_4) := zh3
    have ze4 := R_f_Y_needRoom_0 (d + 0) Y_2 T H H2 RU RV ST NS I0 I1 I2 BO FI RG GU PU MA MN MS OT SC w r5 L Lg p3 zh3
    cases q3 with
    | zero =>
      have h := itp h rfl
      suffices e : Ev (d + 2, 1, 8, 340, 10, [.val (.ref 64), .val (.int p1), .val (.int p2), .val (.int p3)], [], (126, 120, L, [Y_4, T, H, H2, RU, RV, ST, NS, I0, I1, I2, BO, FI, RG, GU, PU, MA, MN, MS, OT, SC], [192, 256, 320, 384, w, r5, 576, 640, 704], Lg)) o from ev_call (fun v μ => (d + 2, 1, 8, 340, 10, [.val (.ref 64), .val (.int p1), .val (.int p2), .val (.int p3)], v.toList ++ [], μ)) 3 ze4 e (fun n => Eq.refl _)
      obtain ⟨⟨q5, Y_6⟩, zh5, h⟩ := bnd h
      have zh5 : f_Y_needHour Y_4 H p2 = some (q5, Y_6) := zh5
      have ze6 := R_f_Y_needHour_0 (d + 0) Y_4 T H H2 RU RV ST NS I0 I1 I2 BO FI RG GU PU MA MN MS OT SC w r5 L Lg p2 zh5
      cases q5 with
      | zero =>
        have h := itp h rfl
        suffices e : Ev (d + 2, 0, 0, 340, 15, [.val (.ref 64), .val (.int p1), .val (.int p2), .val (.int p3)], [], (126, 120, L, [Y_6, T, H, H2, RU, RV, ST, NS, I0, I1, I2, BO, FI, RG, GU, PU, MA, MN, MS, OT, SC], [192, 256, 320, 384, w, r5, 576, 640, 704], Lg)) o from ev_call (fun v μ => (d + 2, 0, 0, 340, 15, [.val (.ref 64), .val (.int p1), .val (.int p2), .val (.int p3)], v.toList ++ [], μ)) 3 ze6 e (fun n => Eq.refl _)
        have ze7 := Option.some.inj h
        subst ze7
        exact ev_rete 1 ho (fun n => Eq.refl _)
      | succ q5 =>
        have h := itn h (Nat.succ_ne_zero q5)
        have ze8 := Option.some.inj h
        subst ze8
        subst ho
        exact ev_thr (fun v μ => (d + 2, 0, 0, 340, 15, [.val (.ref 64), .val (.int p1), .val (.int p2), .val (.int p3)], v.toList ++ [], μ)) 3 ze6 (fun n => Eq.refl _) (fun n => rfl)
    | succ q3 =>
      have h := itn h (Nat.succ_ne_zero q3)
      have ze9 := Option.some.inj h
      subst ze9
      subst ho
      exact ev_thr (fun v μ => (d + 2, 1, 8, 340, 10, [.val (.ref 64), .val (.int p1), .val (.int p2), .val (.int p3)], v.toList ++ [], μ)) 3 ze4 (fun n => Eq.refl _) (fun n => rfl)
  | succ q1 =>
    have h := itn h (Nat.succ_ne_zero q1)
    have ze10 := Option.some.inj h
    subst ze10
    subst ho
    exact ev_thr (fun v μ => (d + 2, 2, 16, 340, 5, [.val (.ref 64), .val (.int p1), .val (.int p2), .val (.int p3)], v.toList ++ [], μ)) 3 ze2 (fun n => Eq.refl _) (fun n => rfl)
set_option maxRecDepth 1000000 in
set_option maxHeartbeats 4000000 in
theorem R_f_Board_lastingClashes_0 (d : Nat) (Y T H H2 RA RB ST NS I0 I1 I2 BO FI RG GU PU MA MN MS OT SC : Nat → Nat → Int32) (r0 r1 r2 r3 w r6 r7 r8 : Nat) (L : Nat) (Lg : Int64) (p1 : Int32) (p2 : Int32) {r : Int32} (h : f_Board_lastingClashes H p1 p2 = some r) : Ev (d + 1, 0, 0, 163, 0, [.val (.ref 768), .val (.int p1), .val (.int p2), .val a_unk], [], (126, 120, L, [Y, T, H, H2, RA, RB, ST, NS, I0, I1, I2, BO, FI, RG, GU, PU, MA, MN, MS, OT, SC], [r0, r1, r2, r3, w, 192, r6, r7, r8], Lg)) ((0, some (.int r), (126, 120, L, [Y, T, H, H2, RA, RB, ST, NS, I0, I1, I2, BO, FI, RG, GU, PU, MA, MN, MS, OT, SC], [r0, r1, r2, r3, w, 192, r6, r7, r8], Lg)) : AOut) := by
  suffices key : ∀ o : AOut, ((0, some (.int r), (126, 120, L, [Y, T, H, H2, RA, RB, ST, NS, I0, I1, I2, BO, FI, RG, GU, PU, MA, MN, MS, OT, SC], [r0, r1, r2, r3, w, 192, r6, r7, r8], Lg)) : AOut) = o → Ev (d + 1, 0, 0, 163, 0, [.val (.ref 768), .val (.int p1), .val (.int p2), .val a_unk], [], (126, 120, L, [Y, T, H, H2, RA, RB, ST, NS, I0, I1, I2, BO, FI, RG, GU, PU, MA, MN, MS, OT, SC], [r0, r1, r2, r3, w, 192, r6, r7, r8], Lg)) o from key _ rfl
  intro o ho
  suffices e : Ev (d + 1, 0, 0, 163, 4, [.val (.ref 768), .val (.int p1), .val (.int p2), .val a_unk], [.ref 192], (126, 120, L, [Y, T, H, H2, RA, RB, ST, NS, I0, I1, I2, BO, FI, RG, GU, PU, MA, MN, MS, OT, SC], [r0, r1, r2, r3, w, 192, r6, r7, r8], Lg)) o from ev_b 2 e (fun n => Eq.refl _)
  obtain ⟨x1, zh1, h⟩ := bnd h
  have zh1 : f_House_mayHours H p1 = some x1 := zh1
  have ze2 := R_f_House_mayHours_1 (d + 0) Y T H H2 RA RB ST NS I0 I1 I2 BO FI RG GU PU MA MN MS OT SC r0 r1 r2 r3 w 192 r6 r7 r8 L Lg p1 zh1
  suffices e : Ev (d + 1, 0, 0, 163, 8, [.val (.ref 768), .val (.int p1), .val (.int p2), .val a_unk], [.int x1], (126, 120, L, [Y, T, H, H2, RA, RB, ST, NS, I0, I1, I2, BO, FI, RG, GU, PU, MA, MN, MS, OT, SC], [r0, r1, r2, r3, w, 192, r6, r7, r8], Lg)) o from ev_call (fun v μ => (d + 1, 0, 0, 163, 8, [.val (.ref 768), .val (.int p1), .val (.int p2), .val a_unk], v.toList ++ [], μ)) 2 ze2 e (fun n => Eq.refl _)
  obtain ⟨x2, zh3, h⟩ := bnd h
  have zh3 : f_Y_hourOf p2 = some x2 := zh3
  have ze4 := R_f_Y_hourOf_0 (d + 0) Y T H H2 RA RB ST NS I0 I1 I2 BO FI RG GU PU MA MN MS OT SC r0 r1 r2 r3 w 192 r6 r7 r8 L Lg p2 zh3
  suffices e : Ev (d + 1, 0, 0, 163, 12, [.val (.ref 768), .val (.int p1), .val (.int p2), .val a_unk], [.int x2, .int x1], (126, 120, L, [Y, T, H, H2, RA, RB, ST, NS, I0, I1, I2, BO, FI, RG, GU, PU, MA, MN, MS, OT, SC], [r0, r1, r2, r3, w, 192, r6, r7, r8], Lg)) o from ev_call (fun v μ => (d + 1, 0, 0, 163, 12, [.val (.ref 768), .val (.int p1), .val (.int p2), .val a_unk], v.toList ++ [.int x1], μ)) 2 ze4 e (fun n => Eq.refl _)
  obtain ⟨zt5, zh6, h⟩ := bnd h
  have zj7 : ∀ (v3 : Int32), v3 = zt5 → Ev (d + 1, 0, 0, 163, 23, [.val (.ref 768), .val (.int p1), .val (.int p2), .val a_unk], [.int v3], (126, 120, L, [Y, T, H, H2, RA, RB, ST, NS, I0, I1, I2, BO, FI, RG, GU, PU, MA, MN, MS, OT, SC], [r0, r1, r2, r3, w, 192, r6, r7, r8], Lg)) o := by
    intro v3 ze8
    subst ze8
    suffices e : Ev (d + 1, 0, 0, 163, 28, [.val (.ref 768), .val (.int p1), .val (.int p2), .val (.int v3)], [.ref 192], (126, 120, L, [Y, T, H, H2, RA, RB, ST, NS, I0, I1, I2, BO, FI, RG, GU, PU, MA, MN, MS, OT, SC], [r0, r1, r2, r3, w, 192, r6, r7, r8], Lg)) o from ev_b 3 e (fun n => Eq.refl _)
    suffices e : Ev (d + 1, 0, 0, 163, 32, [.val (.ref 768), .val (.int p1), .val (.int p2), .val (.int v3)], [.ref 192, .ref 192], (126, 120, L, [Y, T, H, H2, RA, RB, ST, NS, I0, I1, I2, BO, FI, RG, GU, PU, MA, MN, MS, OT, SC], [r0, r1, r2, r3, w, 192, r6, r7, r8], Lg)) o from ev_b 2 e (fun n => Eq.refl _)
    obtain ⟨x4, zh9, h⟩ := bnd h
    have zh9 : rdx (H 8) 10 p1 = some x4 := zh9
    suffices e : Ev (d + 1, 0, 0, 163, 37, [.val (.ref 768), .val (.int p1), .val (.int p2), .val (.int v3)], [.int x4, .ref 192], (126, 120, L, [Y, T, H, H2, RA, RB, ST, NS, I0, I1, I2, BO, FI, RG, GU, PU, MA, MN, MS, OT, SC], [r0, r1, r2, r3, w, 192, r6, r7, r8], Lg)) o from ev_opt (fun x4 => (d + 1, 0, 0, 163, 37, [.val (.ref 768), .val (.int p1), .val (.int p2), .val (.int v3)], [.int x4, .ref 192], (126, 120, L, [Y, T, H, H2, RA, RB, ST, NS, I0, I1, I2, BO, FI, RG, GU, PU, MA, MN, MS, OT, SC], [r0, r1, r2, r3, w, 192, r6, r7, r8], Lg))) 3 zh9 e (fun n => Eq.refl _)
    obtain ⟨x5, zh10, h⟩ := bnd h
    have zh10 : f_House_busyHoursOf H x4 = some x5 := zh10
    have ze11 := R_f_House_busyHoursOf_1 (d + 0) Y T H H2 RA RB ST NS I0 I1 I2 BO FI RG GU PU MA MN MS OT SC r0 r1 r2 r3 w 192 r6 r7 r8 L Lg x4 zh10
    suffices e : Ev (d + 1, 0, 0, 163, 40, [.val (.ref 768), .val (.int p1), .val (.int p2), .val (.int v3)], [.int x5], (126, 120, L, [Y, T, H, H2, RA, RB, ST, NS, I0, I1, I2, BO, FI, RG, GU, PU, MA, MN, MS, OT, SC], [r0, r1, r2, r3, w, 192, r6, r7, r8], Lg)) o from ev_call (fun v μ => (d + 1, 0, 0, 163, 40, [.val (.ref 768), .val (.int p1), .val (.int p2), .val (.int v3)], v.toList ++ [], μ)) 1 ze11 e (fun n => Eq.refl _)
    obtain ⟨x6, zh12, h⟩ := bnd h
    have zh12 : f_Y_hourOf p2 = some x6 := zh12
    have ze13 := R_f_Y_hourOf_0 (d + 0) Y T H H2 RA RB ST NS I0 I1 I2 BO FI RG GU PU MA MN MS OT SC r0 r1 r2 r3 w 192 r6 r7 r8 L Lg p2 zh12
    suffices e : Ev (d + 1, 0, 0, 163, 44, [.val (.ref 768), .val (.int p1), .val (.int p2), .val (.int v3)], [.int x6, .int x5], (126, 120, L, [Y, T, H, H2, RA, RB, ST, NS, I0, I1, I2, BO, FI, RG, GU, PU, MA, MN, MS, OT, SC], [r0, r1, r2, r3, w, 192, r6, r7, r8], Lg)) o from ev_call (fun v μ => (d + 1, 0, 0, 163, 44, [.val (.ref 768), .val (.int p1), .val (.int p2), .val (.int v3)], v.toList ++ [.int x5], μ)) 2 ze13 e (fun n => Eq.refl _)
    obtain ⟨zt14, zh15, h⟩ := bnd h
    have zj16 : ∀ (v7 : Int32), v7 = zt14 → Ev (d + 1, 0, 0, 163, 54, [.val (.ref 768), .val (.int p1), .val (.int p2), .val (.int v7)], [], (126, 120, L, [Y, T, H, H2, RA, RB, ST, NS, I0, I1, I2, BO, FI, RG, GU, PU, MA, MN, MS, OT, SC], [r0, r1, r2, r3, w, 192, r6, r7, r8], Lg)) o := by
      intro v7 ze17
      subst ze17
      suffices e : Ev (d + 1, 0, 0, 163, 58, [.val (.ref 768), .val (.int p1), .val (.int p2), .val (.int v7)], [.ref 192], (126, 120, L, [Y, T, H, H2, RA, RB, ST, NS, I0, I1, I2, BO, FI, RG, GU, PU, MA, MN, MS, OT, SC], [r0, r1, r2, r3, w, 192, r6, r7, r8], Lg)) o from ev_b 2 e (fun n => Eq.refl _)
      obtain ⟨x8, zh18, h⟩ := bnd h
      have zh18 : rdx (H 8) 10 p1 = some x8 := zh18
      suffices e : Ev (d + 1, 0, 0, 163, 63, [.val (.ref 768), .val (.int p1), .val (.int p2), .val (.int v7)], [.int x8], (126, 120, L, [Y, T, H, H2, RA, RB, ST, NS, I0, I1, I2, BO, FI, RG, GU, PU, MA, MN, MS, OT, SC], [r0, r1, r2, r3, w, 192, r6, r7, r8], Lg)) o from ev_opt (fun x8 => (d + 1, 0, 0, 163, 63, [.val (.ref 768), .val (.int p1), .val (.int p2), .val (.int v7)], [.int x8], (126, 120, L, [Y, T, H, H2, RA, RB, ST, NS, I0, I1, I2, BO, FI, RG, GU, PU, MA, MN, MS, OT, SC], [r0, r1, r2, r3, w, 192, r6, r7, r8], Lg))) 3 zh18 e (fun n => Eq.refl _)
      obtain ⟨x9, zh19, h⟩ := bnd h
      have zh19 : f_Integer_bitCount x8 = some x9 := zh19
      have ze20 := R_f_Integer_bitCount_0 (d + 0) Y T H H2 RA RB ST NS I0 I1 I2 BO FI RG GU PU MA MN MS OT SC r0 r1 r2 r3 w 192 r6 r7 r8 L Lg x8 zh19
      suffices e : Ev (d + 1, 0, 0, 163, 66, [.val (.ref 768), .val (.int p1), .val (.int p2), .val (.int v7)], [.int x9], (126, 120, L, [Y, T, H, H2, RA, RB, ST, NS, I0, I1, I2, BO, FI, RG, GU, PU, MA, MN, MS, OT, SC], [r0, r1, r2, r3, w, 192, r6, r7, r8], Lg)) o from ev_call (fun v μ => (d + 1, 0, 0, 163, 66, [.val (.ref 768), .val (.int p1), .val (.int p2), .val (.int v7)], v.toList ++ [], μ)) 1 ze20 e (fun n => Eq.refl _)
      suffices e : Ev (d + 1, 0, 0, 163, 70, [.val (.ref 768), .val (.int p1), .val (.int p2), .val (.int v7)], [.ref 192, .int x9], (126, 120, L, [Y, T, H, H2, RA, RB, ST, NS, I0, I1, I2, BO, FI, RG, GU, PU, MA, MN, MS, OT, SC], [r0, r1, r2, r3, w, 192, r6, r7, r8], Lg)) o from ev_b 2 e (fun n => Eq.refl _)
      obtain ⟨x10, zh21, h⟩ := bnd h
      have zh21 : f_Y_roomOf p2 = some x10 := zh21
      have ze22 := R_f_Y_roomOf_0 (d + 0) Y T H H2 RA RB ST NS I0 I1 I2 BO FI RG GU PU MA MN MS OT SC r0 r1 r2 r3 w 192 r6 r7 r8 L Lg p2 zh21
      suffices e : Ev (d + 1, 0, 0, 163, 77, [.val (.ref 768), .val (.int p1), .val (.int p2), .val (.int v7)], [.int x10, .ref 193, .int x9], (126, 120, L, [Y, T, H, H2, RA, RB, ST, NS, I0, I1, I2, BO, FI, RG, GU, PU, MA, MN, MS, OT, SC], [r0, r1, r2, r3, w, 192, r6, r7, r8], Lg)) o from ev_call (fun v μ => (d + 1, 0, 0, 163, 77, [.val (.ref 768), .val (.int p1), .val (.int p2), .val (.int v7)], v.toList ++ [.ref 193, .int x9], μ)) 3 ze22 e (fun n => Eq.refl _)
      obtain ⟨x11, zh23, h⟩ := bnd h
      have zh23 : rdx (H 1) 3 x10 = some x11 := zh23
      suffices e : Ev (d + 1, 0, 0, 163, 78, [.val (.ref 768), .val (.int p1), .val (.int p2), .val (.int v7)], [.int x11, .int x9], (126, 120, L, [Y, T, H, H2, RA, RB, ST, NS, I0, I1, I2, BO, FI, RG, GU, PU, MA, MN, MS, OT, SC], [r0, r1, r2, r3, w, 192, r6, r7, r8], Lg)) o from ev_opt (fun x11 => (d + 1, 0, 0, 163, 78, [.val (.ref 768), .val (.int p1), .val (.int p2), .val (.int v7)], [.int x11, .int x9], (126, 120, L, [Y, T, H, H2, RA, RB, ST, NS, I0, I1, I2, BO, FI, RG, GU, PU, MA, MN, MS, OT, SC], [r0, r1, r2, r3, w, 192, r6, r7, r8], Lg))) 1 zh23 e (fun n => Eq.refl _)
      by_cases zc24 : x9 ≤ x11
      · have h := itp h zc24
        suffices e : Ev (d + 1, 0, 0, 163, 86, [.val (.ref 768), .val (.int p1), .val (.int p2), .val (.int v7)], [], (126, 120, L, [Y, T, H, H2, RA, RB, ST, NS, I0, I1, I2, BO, FI, RG, GU, PU, MA, MN, MS, OT, SC], [r0, r1, r2, r3, w, 192, r6, r7, r8], Lg)) o from ev_t (c := x9 ≤ x11) _ _ 1  zc24 e (fun n => Eq.refl _)
        have ze25 := Option.some.inj h
        subst ze25
        exact ev_rete 2 ho (fun n => Eq.refl _)
      · have h := itn h zc24
        suffices e : Ev (d + 1, 0, 0, 163, 81, [.val (.ref 768), .val (.int p1), .val (.int p2), .val (.int v7)], [], (126, 120, L, [Y, T, H, H2, RA, RB, ST, NS, I0, I1, I2, BO, FI, RG, GU, PU, MA, MN, MS, OT, SC], [r0, r1, r2, r3, w, 192, r6, r7, r8], Lg)) o from ev_f (c := x9 ≤ x11) _ _ 1  zc24 e (fun n => Eq.refl _)
        have ze26 := Option.some.inj h
        subst ze26
        exact ev_rete 6 ho (fun n => Eq.refl _)
    by_cases zc27 : ((a_shr x5 x6) &&& 1) = 0
    · have zh15 := itp zh15 zc27
      suffices e : Ev (d + 1, 0, 0, 163, 54, [.val (.ref 768), .val (.int p1), .val (.int p2), .val (.int v3)], [], (126, 120, L, [Y, T, H, H2, RA, RB, ST, NS, I0, I1, I2, BO, FI, RG, GU, PU, MA, MN, MS, OT, SC], [r0, r1, r2, r3, w, 192, r6, r7, r8], Lg)) o from ev_t (c := ((a_shr x5 x6) &&& 1) = 0) _ _ 4  zc27 e (fun n => Eq.refl _)
      exact ev_b 0 (zj16 v3 (Option.some.inj zh15) ) (fun n => Eq.refl _)
    · have zh15 := itn zh15 zc27
      suffices e : Ev (d + 1, 0, 0, 163, 50, [.val (.ref 768), .val (.int p1), .val (.int p2), .val (.int v3)], [], (126, 120, L, [Y, T, H, H2, RA, RB, ST, NS, I0, I1, I2, BO, FI, RG, GU, PU, MA, MN, MS, OT, SC], [r0, r1, r2, r3, w, 192, r6, r7, r8], Lg)) o from ev_f (c := ((a_shr x5 x6) &&& 1) = 0) _ _ 4  zc27 e (fun n => Eq.refl _)
      exact ev_b 4 (zj16 (v3 ||| 2) (Option.some.inj zh15) ) (fun n => Eq.refl _)
  by_cases zc28 : ((a_shr x1 x2) &&& 1) ≠ 0
  · have zh6 := itp zh6 zc28
    suffices e : Ev (d + 1, 0, 0, 163, 22, [.val (.ref 768), .val (.int p1), .val (.int p2), .val a_unk], [], (126, 120, L, [Y, T, H, H2, RA, RB, ST, NS, I0, I1, I2, BO, FI, RG, GU, PU, MA, MN, MS, OT, SC], [r0, r1, r2, r3, w, 192, r6, r7, r8], Lg)) o from ev_t (c := ((a_shr x1 x2) &&& 1) ≠ 0) _ _ 4  zc28 e (fun n => Eq.refl _)
    exact ev_b 1 (zj7 0 (Option.some.inj zh6) ) (fun n => Eq.refl _)
  · have zh6 := itn zh6 zc28
    suffices e : Ev (d + 1, 0, 0, 163, 18, [.val (.ref 768), .val (.int p1), .val (.int p2), .val a_unk], [], (126, 120, L, [Y, T, H, H2, RA, RB, ST, NS, I0, I1, I2, BO, FI, RG, GU, PU, MA, MN, MS, OT, SC], [r0, r1, r2, r3, w, 192, r6, r7, r8], Lg)) o from ev_f (c := ((a_shr x1 x2) &&& 1) ≠ 0) _ _ 4  zc28 e (fun n => Eq.refl _)
    exact ev_b 2 (zj7 1 (Option.some.inj zh6) ) (fun n => Eq.refl _)
