/-! printed by program (gen/emitm.py): the reference's methods run as their functions say -/
set_option maxRecDepth 1000000 in
set_option maxHeartbeats 4000000 in
theorem R_f_Y_let_2 (d : Nat) (Y T H2 H RU RV ST NS I0 I1 I2 BO FI RG GU PU MA MN MS OT SC : Nat → Nat → Int32) (w r5 : Nat) (L : Nat) (Lg : Int64) (p1 : Int32) {r : Nat × Int32 × (Nat → Nat → Int32) × (Nat → Nat → Int32)} (h : f_Y_let Y H NS p1 = some r) : Ev (d + 2, 1, 8, 299, 0, [.val (.ref 64), .val (.int p1)], [], (126, 120, L, [Y, T, H2, H, RU, RV, ST, NS, I0, I1, I2, BO, FI, RG, GU, PU, MA, MN, MS, OT, SC], [256, 192, 320, 384, w, r5, 576, 640, 704], Lg)) ((r.1, a_ov r.1 (.int r.2.1), (126, 120, L, [r.2.2.1, T, H2, H, RU, RV, ST, r.2.2.2, I0, I1, I2, BO, FI, RG, GU, PU, MA, MN, MS, OT, SC], [256, 192, 320, 384, w, r5, 576, 640, 704], Lg)) : AOut) := by
  suffices key : ∀ o : AOut, ((r.1, a_ov r.1 (.int r.2.1), (126, 120, L, [r.2.2.1, T, H2, H, RU, RV, ST, r.2.2.2, I0, I1, I2, BO, FI, RG, GU, PU, MA, MN, MS, OT, SC], [256, 192, 320, 384, w, r5, 576, 640, 704], Lg)) : AOut) = o → Ev (d + 2, 1, 8, 299, 0, [.val (.ref 64), .val (.int p1)], [], (126, 120, L, [Y, T, H2, H, RU, RV, ST, NS, I0, I1, I2, BO, FI, RG, GU, PU, MA, MN, MS, OT, SC], [256, 192, 320, 384, w, r5, 576, 640, 704], Lg)) o from key _ rfl
  intro o ho
  obtain ⟨⟨q1, Y_2⟩, zh1, h⟩ := bnd h
  have zh1 : f_Y_needHold Y H p1 = some (q1, Y_2) := zh1
  have ze2 := R_f_Y_needHold_2 (d + 0) Y T H2 H RU RV ST NS I0 I1 I2 BO FI RG GU PU MA MN MS OT SC w r5 L Lg p1 zh1
  cases q1 with
  | zero =>
    have h := itp h rfl
    suffices e : Ev (d + 2, 0, 0, 299, 5, [.val (.ref 64), .val (.int p1)], [], (126, 120, L, [Y_2, T, H2, H, RU, RV, ST, NS, I0, I1, I2, BO, FI, RG, GU, PU, MA, MN, MS, OT, SC], [256, 192, 320, 384, w, r5, 576, 640, 704], Lg)) o from ev_call (fun v μ => (d + 2, 0, 0, 299, 5, [.val (.ref 64), .val (.int p1)], v.toList ++ [], μ)) 3 ze2 e (fun n => Eq.refl _)
    obtain ⟨x3, zh3, h⟩ := bnd h
    have zh3 : f_State_isHeld NS p1 = some x3 := zh3
    have ze4 := R_f_State_isHeld_0 (d + 1) Y_2 T H2 H RU RV ST NS I0 I1 I2 BO FI RG GU PU MA MN MS OT SC 256 192 320 384 w r5 576 640 704 L Lg p1 zh3
    suffices e : Ev (d + 2, 0, 0, 299, 13, [.val (.ref 64), .val (.int p1)], [.int x3], (126, 120, L, [Y_2, T, H2, H, RU, RV, ST, NS, I0, I1, I2, BO, FI, RG, GU, PU, MA, MN, MS, OT, SC], [256, 192, 320, 384, w, r5, 576, 640, 704], Lg)) o from ev_call (fun v μ => (d + 2, 0, 0, 299, 13, [.val (.ref 64), .val (.int p1)], v.toList ++ [], μ)) 4 ze4 e (fun n => Eq.refl _)
    by_cases zc5 : x3 ≠ 0
    · have h := itp h zc5
      suffices e : Ev (d + 2, 0, 0, 299, 18, [.val (.ref 64), .val (.int p1)], [], (126, 120, L, [Y_2, T, H2, H, RU, RV, ST, NS, I0, I1, I2, BO, FI, RG, GU, PU, MA, MN, MS, OT, SC], [256, 192, 320, 384, w, r5, 576, 640, 704], Lg)) o from ev_t (c := x3 ≠ 0) _ _ 1  zc5 e (fun n => Eq.refl _)
      have ze6 := Option.some.inj h
      subst ze6
      exact ev_rete 11 ho (fun n => Eq.refl _)
    · have h := itn h zc5
      suffices e : Ev (d + 2, 0, 0, 299, 16, [.val (.ref 64), .val (.int p1)], [], (126, 120, L, [Y_2, T, H2, H, RU, RV, ST, NS, I0, I1, I2, BO, FI, RG, GU, PU, MA, MN, MS, OT, SC], [256, 192, 320, 384, w, r5, 576, 640, 704], Lg)) o from ev_f (c := x3 ≠ 0) _ _ 1  zc5 e (fun n => Eq.refl _)
      have ze7 := Option.some.inj h
      subst ze7
      exact ev_rete 2 ho (fun n => Eq.refl _)
  | succ q1 =>
    have h := itn h (Nat.succ_ne_zero q1)
    have ze8 := Option.some.inj h
    subst ze8
    subst ho
    exact ev_thr (fun v μ => (d + 2, 0, 0, 299, 5, [.val (.ref 64), .val (.int p1)], v.toList ++ [], μ)) 3 ze2 (fun n => Eq.refl _) (fun n => rfl)
set_option maxRecDepth 1000000 in
set_option maxHeartbeats 4000000 in
theorem R_f_Y_needHold_3 (d : Nat) (Y T H2 H RV RU ST NS I0 I1 I2 BO FI RG GU PU MA MN MS OT SC : Nat → Nat → Int32) (w r5 : Nat) (L : Nat) (Lg : Int64) (p1 : Int32) {r : Nat × (Nat → Nat → Int32)} (h : f_Y_needHold Y H p1 = some r) : Ev (d + 1, 1, 8, 338, 0, [.val (.ref 64), .val (.int p1)], [], (126, 120, L, [Y, T, H2, H, RV, RU, ST, NS, I0, I1, I2, BO, FI, RG, GU, PU, MA, MN, MS, OT, SC], [256, 192, 384, 320, w, r5, 576, 640, 704], Lg)) ((r.1, none, (126, 120, L, [r.2, T, H2, H, RV, RU, ST, NS, I0, I1, I2, BO, FI, RG, GU, PU, MA, MN, MS, OT, SC], [256, 192, 384, 320, w, r5, 576, 640, 704], Lg)) : AOut) := by
  suffices key : ∀ o : AOut, ((r.1, none, (126, 120, L, [r.2, T, H2, H, RV, RU, ST, NS, I0, I1, I2, BO, FI, RG, GU, PU, MA, MN, MS, OT, SC], [256, 192, 384, 320, w, r5, 576, 640, 704], Lg)) : AOut) = o → Ev (d + 1, 1, 8, 338, 0, [.val (.ref 64), .val (.int p1)], [], (126, 120, L, [Y, T, H2, H, RV, RU, ST, NS, I0, I1, I2, BO, FI, RG, GU, PU, MA, MN, MS, OT, SC], [256, 192, 384, 320, w, r5, 576, 640, 704], Lg)) o from key _ rfl
  intro o ho
  suffices e : Ev (d + 1, 1, 8, 338, 6, [.val (.ref 64), .val (.int p1)], [.ref 256, .int p1, .ref 64], (126, 120, L, [Y, T, H2, H, RV, RU, ST, NS, I0, I1, I2, BO, FI, RG, GU, PU, MA, MN, MS, OT, SC], [256, 192, 384, 320, w, r5, 576, 640, 704], Lg)) o from ev_b 4 e (fun n => Eq.refl _)
  obtain ⟨⟨q1, Y_2⟩, zh1, h⟩ := bnd h
  have zh1 : f_Y_needOneOf Y p1 (H 0 4) = some (q1, Y_2) := zh1
  have ze2 := R_f_Y_needOneOf_3 (d + 0) Y T H2 H RV RU ST NS I0 I1 I2 BO FI RG GU PU MA MN MS OT SC w r5 L Lg p1 (H 0 4) zh1
  cases q1 with
  | zero =>
    have h := itp h rfl
    suffices e : Ev (d + 1, 0, 0, 338, 12, [.val (.ref 64), .val (.int p1)], [], (126, 120, L, [Y_2, T, H2, H, RV, RU, ST, NS, I0, I1, I2, BO, FI, RG, GU, PU, MA, MN, MS, OT, SC], [256, 192, 384, 320, w, r5, 576, 640, 704], Lg)) o from ev_call (fun v μ => (d + 1, 0, 0, 338, 12, [.val (.ref 64), .val (.int p1)], v.toList ++ [], μ)) 2 ze2 e (fun n => Eq.refl _)
    have ze3 := Option.some.inj h
    subst ze3
    exact ev_rete 1 ho (fun n => Eq.refl _)
  | succ q1 =>
    have h := itn h (Nat.succ_ne_zero q1)
    have ze4 := Option.some.inj h
    subst ze4
    subst ho
    exact ev_thr (fun v μ => (d + 1, 0, 0, 338, 12, [.val (.ref 64), .val (.int p1)], v.toList ++ [], μ)) 2 ze2 (fun n => Eq.refl _) (fun n => rfl)
set_option maxRecDepth 1000000 in
set_option maxHeartbeats 4000000 in
theorem R_f_Y_let_3 (d : Nat) (Y T H2 H RV RU ST NS I0 I1 I2 BO FI RG GU PU MA MN MS OT SC : Nat → Nat → Int32) (w r5 : Nat) (L : Nat) (Lg : Int64) (p1 : Int32) {r : Nat × Int32 × (Nat → Nat → Int32) × (Nat → Nat → Int32)} (h : f_Y_let Y H NS p1 = some r) : Ev (d + 2, 1, 8, 299, 0, [.val (.ref 64), .val (.int p1)], [], (126, 120, L, [Y, T, H2, H, RV, RU, ST, NS, I0, I1, I2, BO, FI, RG, GU, PU, MA, MN, MS, OT, SC], [256, 192, 384, 320, w, r5, 576, 640, 704], Lg)) ((r.1, a_ov r.1 (.int r.2.1), (126, 120, L, [r.2.2.1, T, H2, H, RV, RU, ST, r.2.2.2, I0, I1, I2, BO, FI, RG, GU, PU, MA, MN, MS, OT, SC], [256, 192, 384, 320, w, r5, 576, 640, 704], Lg)) : AOut) := by
  suffices key : ∀ o : AOut, ((r.1, a_ov r.1 (.int r.2.1), (126, 120, L, [r.2.2.1, T, H2, H, RV, RU, ST, r.2.2.2, I0, I1, I2, BO, FI, RG, GU, PU, MA, MN, MS, OT, SC], [256, 192, 384, 320, w, r5, 576, 640, 704], Lg)) : AOut) = o → Ev (d + 2, 1, 8, 299, 0, [.val (.ref 64), .val (.int p1)], [], (126, 120, L, [Y, T, H2, H, RV, RU, ST, NS, I0, I1, I2, BO, FI, RG, GU, PU, MA, MN, MS, OT, SC], [256, 192, 384, 320, w, r5, 576, 640, 704], Lg)) o from key _ rfl
  intro o ho
  obtain ⟨⟨q1, Y_2⟩, zh1, h⟩ := bnd h
  have zh1 : f_Y_needHold Y H p1 = some (q1, Y_2) := zh1
  have ze2 := R_f_Y_needHold_3 (d + 0) Y T H2 H RV RU ST NS I0 I1 I2 BO FI RG GU PU MA MN MS OT SC w r5 L Lg p1 zh1
  cases q1 with
  | zero =>
    have h := itp h rfl
    suffices e : Ev (d + 2, 0, 0, 299, 5, [.val (.ref 64), .val (.int p1)], [], (126, 120, L, [Y_2, T, H2, H, RV, RU, ST, NS, I0, I1, I2, BO, FI, RG, GU, PU, MA, MN, MS, OT, SC], [256, 192, 384, 320, w, r5, 576, 640, 704], Lg)) o from ev_call (fun v μ => (d + 2, 0, 0, 299, 5, [.val (.ref 64), .val (.int p1)], v.toList ++ [], μ)) 3 ze2 e (fun n => Eq.refl _)
    obtain ⟨x3, zh3, h⟩ := bnd h
    have zh3 : f_State_isHeld NS p1 = some x3 := zh3
    have ze4 := R_f_State_isHeld_0 (d + 1) Y_2 T H2 H RV RU ST NS I0 I1 I2 BO FI RG GU PU MA MN MS OT SC 256 192 384 320 w r5 576 640 704 L Lg p1 zh3
    suffices e : Ev (d + 2, 0, 0, 299, 13, [.val (.ref 64), .val (.int p1)], [.int x3], (126, 120, L, [Y_2, T, H2, H, RV, RU, ST, NS, I0, I1, I2, BO, FI, RG, GU, PU, MA, MN, MS, OT, SC], [256, 192, 384, 320, w, r5, 576, 640, 704], Lg)) o from ev_call (fun v μ => (d + 2, 0, 0, 299, 13, [.val (.ref 64), .val (.int p1)], v.toList ++ [], μ)) 4 ze4 e (fun n => Eq.refl _)
    by_cases zc5 : x3 ≠ 0
    · have h := itp h zc5
      suffices e : Ev (d + 2, 0, 0, 299, 18, [.val (.ref 64), .val (.int p1)], [], (126, 120, L, [Y_2, T, H2, H, RV, RU, ST, NS, I0, I1, I2, BO, FI, RG, GU, PU, MA, MN, MS, OT, SC], [256, 192, 384, 320, w, r5, 576, 640, 704], Lg)) o from ev_t (c := x3 ≠ 0) _ _ 1  zc5 e (fun n => Eq.refl _)
      have ze6 := Option.some.inj h
      subst ze6
      exact ev_rete 11 ho (fun n => Eq.refl _)
    · have h := itn h zc5
      suffices e : Ev (d + 2, 0, 0, 299, 16, [.val (.ref 64), .val (.int p1)], [], (126, 120, L, [Y_2, T, H2, H, RV, RU, ST, NS, I0, I1, I2, BO, FI, RG, GU, PU, MA, MN, MS, OT, SC], [256, 192, 384, 320, w, r5, 576, 640, 704], Lg)) o from ev_f (c := x3 ≠ 0) _ _ 1  zc5 e (fun n => Eq.refl _)
      have ze7 := Option.some.inj h
      subst ze7
      exact ev_rete 2 ho (fun n => Eq.refl _)
  | succ q1 =>
    have h := itn h (Nat.succ_ne_zero q1)
    have ze8 := Option.some.inj h
    subst ze8
    subst ho
    exact ev_thr (fun v μ => (d + 2, 0, 0, 299, 5, [.val (.ref 64), .val (.int p1)], v.toList ++ [], μ)) 3 ze2 (fun n => Eq.refl _) (fun n => rfl)
set_option maxRecDepth 1000000 in
set_option maxHeartbeats 4000000 in
theorem R_f_Y_wouldTake_0 (d : Nat) (Y T H H2 RU RV ST NS I0 I1 I2 BO FI RG GU PU MA MN MS OT SC : Nat → Nat → Int32) (w r5 : Nat) (L : Nat) (Lg : Int64) (p1 : Int32) {r : Int32 × (Nat → Nat → Int32)} (h : f_Y_wouldTake H NS BO p1 = some r) : Ev (d + 3, 0, 0, 344, 0, [.val (.ref 64), .val (.int p1), .val a_unk, .val a_unk, .val a_unk], [], (126, 120, L, [Y, T, H, H2, RU, RV, ST, NS, I0, I1, I2, BO, FI, RG, GU, PU, MA, MN, MS, OT, SC], [192, 256, 320, 384, w, r5, 576, 640, 704], Lg)) ((0, some (.int r.1), (126, 120, L, [Y, T, H, H2, RU, RV, ST, NS, I0, I1, I2, r.2, FI, RG, GU, PU, MA, MN, MS, OT, SC], [192, 256, 320, 384, w, 192, 576, 640, 704], Lg)) : AOut) := by
  suffices key : ∀ o : AOut, ((0, some (.int r.1), (126, 120, L, [Y, T, H, H2, RU, RV, ST, NS, I0, I1, I2, r.2, FI, RG, GU, PU, MA, MN, MS, OT, SC], [192, 256, 320, 384, w, 192, 576, 640, 704], Lg)) : AOut) = o → Ev (d + 3, 0, 0, 344, 0, [.val (.ref 64), .val (.int p1), .val a_unk, .val a_unk, .val a_unk], [], (126, 120, L, [Y, T, H, H2, RU, RV, ST, NS, I0, I1, I2, BO, FI, RG, GU, PU, MA, MN, MS, OT, SC], [192, 256, 320, 384, w, r5, 576, 640, 704], Lg)) o from key _ rfl
  intro o ho
  obtain ⟨BO_2, zh1, h⟩ := bnd h
  have zh1 : f_Y_lookNow H NS BO = some BO_2 := zh1
  have ze2 := R_f_Y_lookNow_0 (d + 0) Y T H H2 RU RV ST NS I0 I1 I2 BO FI RG GU PU MA MN MS OT SC w r5 L Lg zh1
  suffices e : Ev (d + 3, 0, 0, 344, 4, [.val (.ref 64), .val (.int p1), .val a_unk, .val a_unk, .val a_unk], [.ref 768], (126, 120, L, [Y, T, H, H2, RU, RV, ST, NS, I0, I1, I2, BO_2, FI, RG, GU, PU, MA, MN, MS, OT, SC], [192, 256, 320, 384, w, 192, 576, 640, 704], Lg)) o from ev_call (fun v μ => (d + 3, 0, 0, 344, 4, [.val (.ref 64), .val (.int p1), .val a_unk, .val a_unk, .val a_unk], v.toList ++ [], μ)) 2 ze2 e (fun n => Eq.refl _)
  obtain ⟨v7, zh4, h⟩ := bnd h
  suffices e : Ev (d + 3, 0, 0, 344, 10, [.val (.ref 64), .val (.int p1), .val (.ref 768), .val (.int 0), .val (.int 0)], [], (126, 120, L, [Y, T, H, H2, RU, RV, ST, NS, I0, I1, I2, BO_2, FI, RG, GU, PU, MA, MN, MS, OT, SC], [192, 256, 320, 384, w, 192, 576, 640, 704], Lg)) o from ev_b 5 e (fun n => Eq.refl _)
  refine ev_loop (δ := Unit) (fun a j => (d + 3, 0, 0, 344, 10, [.val (.ref 64), .val (.int p1), .val (.ref 768), .val (.int a.1), .val (.int a.2)], [], (126, 120, L, [Y, T, H, H2, RU, RV, ST, NS, I0, I1, I2, BO_2, FI, RG, GU, PU, MA, MN, MS, OT, SC], [192, 256, 320, 384, w, 192, 576, 640, 704], Lg))) (fun b => ∀ s8 : Value, Ev (d + 3, 0, 0, 344, 55, [.val (.ref 64), .val (.int p1), .val (.ref 768), .val (.int b), .val s8], [], (126, 120, L, [Y, T, H, H2, RU, RV, ST, NS, I0, I1, I2, BO_2, FI, RG, GU, PU, MA, MN, MS, OT, SC], [192, 256, 320, 384, w, 192, 576, 640, 704], Lg)) o) ?_ a_F (0, 0) v7 zh4 ?_ ()
  · rintro ⟨v3, v4⟩ zr8 zh7 zi5 zx6 ⟨⟩
    have zh7 : f_Y_wouldTake_l10 H BO_2 p1 v3 v4 = some zr8 := zh7
    suffices e : Ev (d + 3, 0, 0, 344, 16, [.val (.ref 64), .val (.int p1), .val (.ref 768), .val (.int v3), .val (.int v4)], [.ref 192, .int v4], (126, 120, L, [Y, T, H, H2, RU, RV, ST, NS, I0, I1, I2, BO_2, FI, RG, GU, PU, MA, MN, MS, OT, SC], [192, 256, 320, 384, w, 192, 576, 640, 704], Lg)) o from ev_b 3 e (fun n => Eq.refl _)
    by_cases zc9 : (H 0 3) ≤ v4
    · have zh7 := itp zh7 zc9
      suffices e : Ev (d + 3, 0, 0, 344, 55, [.val (.ref 64), .val (.int p1), .val (.ref 768), .val (.int v3), .val (.int v4)], [], (126, 120, L, [Y, T, H, H2, RU, RV, ST, NS, I0, I1, I2, BO_2, FI, RG, GU, PU, MA, MN, MS, OT, SC], [192, 256, 320, 384, w, 192, 576, 640, 704], Lg)) o from ev_t (c := (H 0 3) ≤ v4) _ _ 2  zc9 e (fun n => Eq.refl _)
      exact ev_b 0 (zx6 _ (Option.some.inj zh7).symm (.int v4)) (fun n => Eq.refl _)
    · have zh7 := itn zh7 zc9
      suffices e : Ev (d + 3, 0, 0, 344, 22, [.val (.ref 64), .val (.int p1), .val (.ref 768), .val (.int v3), .val (.int v4)], [], (126, 120, L, [Y, T, H, H2, RU, RV, ST, NS, I0, I1, I2, BO_2, FI, RG, GU, PU, MA, MN, MS, OT, SC], [192, 256, 320, 384, w, 192, 576, 640, 704], Lg)) o from ev_f (c := (H 0 3) ≤ v4) _ _ 2  zc9 e (fun n => Eq.refl _)
      obtain ⟨x5, zh10, zh7⟩ := bnd zh7
      have zh10 : rdx (BO_2 1) 10 v4 = some x5 := zh10
      suffices e : Ev (d + 3, 0, 0, 344, 29, [.val (.ref 64), .val (.int p1), .val (.ref 768), .val (.int v3), .val (.int v4)], [.int x5], (126, 120, L, [Y, T, H, H2, RU, RV, ST, NS, I0, I1, I2, BO_2, FI, RG, GU, PU, MA, MN, MS, OT, SC], [192, 256, 320, 384, w, 192, 576, 640, 704], Lg)) o from ev_opt (fun x5 => (d + 3, 0, 0, 344, 29, [.val (.ref 64), .val (.int p1), .val (.ref 768), .val (.int v3), .val (.int v4)], [.int x5], (126, 120, L, [Y, T, H, H2, RU, RV, ST, NS, I0, I1, I2, BO_2, FI, RG, GU, PU, MA, MN, MS, OT, SC], [192, 256, 320, 384, w, 192, 576, 640, 704], Lg))) 4 zh10 e (fun n => Eq.refl _)
      by_cases zc11 : x5 ≠ (-1)
      · have zh7 := itp zh7 zc11
        suffices e : Ev (d + 3, 0, 0, 344, 49, [.val (.ref 64), .val (.int p1), .val (.ref 768), .val (.int v3), .val (.int v4)], [], (126, 120, L, [Y, T, H, H2, RU, RV, ST, NS, I0, I1, I2, BO_2, FI, RG, GU, PU, MA, MN, MS, OT, SC], [192, 256, 320, 384, w, 192, 576, 640, 704], Lg)) o from ev_t (c := x5 ≠ (-1)) _ _ 2  zc11 e (fun n => Eq.refl _)
        exact ev_b 2 (zi5 _ (Option.some.inj zh7).symm ()) (fun n => Eq.refl _)
      · have zh7 := itn zh7 zc11
        suffices e : Ev (d + 3, 0, 0, 344, 33, [.val (.ref 64), .val (.int p1), .val (.ref 768), .val (.int v3), .val (.int v4)], [], (126, 120, L, [Y, T, H, H2, RU, RV, ST, NS, I0, I1, I2, BO_2, FI, RG, GU, PU, MA, MN, MS, OT, SC], [192, 256, 320, 384, w, 192, 576, 640, 704], Lg)) o from ev_f (c := x5 ≠ (-1)) _ _ 2  zc11 e (fun n => Eq.refl _)
        obtain ⟨x6, zh12, zh7⟩ := bnd zh7
        have zh12 : f_Board_clashes H BO_2 v4 p1 = some x6 := zh12
        have ze13 := R_f_Board_clashes_0 (d + 0) Y T H H2 RU RV ST NS I0 I1 I2 BO_2 FI RG GU PU MA MN MS OT SC 192 256 320 384 w 576 640 704 L Lg v4 p1 zh12
        suffices e : Ev (d + 3, 0, 0, 344, 40, [.val (.ref 64), .val (.int p1), .val (.ref 768), .val (.int v3), .val (.int v4)], [.int x6], (126, 120, L, [Y, T, H, H2, RU, RV, ST, NS, I0, I1, I2, BO_2, FI, RG, GU, PU, MA, MN, MS, OT, SC], [192, 256, 320, 384, w, 192, 576, 640, 704], Lg)) o from ev_call (fun v μ => (d + 3, 0, 0, 344, 40, [.val (.ref 64), .val (.int p1), .val (.ref 768), .val (.int v3), .val (.int v4)], v.toList ++ [], μ)) 4 ze13 e (fun n => Eq.refl _)
        by_cases zc14 : (x6 &&& (-9)) ≠ 0
        · have zh7 := itp zh7 zc14
          suffices e : Ev (d + 3, 0, 0, 344, 49, [.val (.ref 64), .val (.int p1), .val (.ref 768), .val (.int v3), .val (.int v4)], [], (126, 120, L, [Y, T, H, H2, RU, RV, ST, NS, I0, I1, I2, BO_2, FI, RG, GU, PU, MA, MN, MS, OT, SC], [192, 256, 320, 384, w, 192, 576, 640, 704], Lg)) o from ev_t (c := (x6 &&& (-9)) ≠ 0) _ _ 3  zc14 e (fun n => Eq.refl _)
          exact ev_b 2 (zi5 _ (Option.some.inj zh7).symm ()) (fun n => Eq.refl _)
        · have zh7 := itn zh7 zc14
          suffices e : Ev (d + 3, 0, 0, 344, 46, [.val (.ref 64), .val (.int p1), .val (.ref 768), .val (.int v3), .val (.int v4)], [], (126, 120, L, [Y, T, H, H2, RU, RV, ST, NS, I0, I1, I2, BO_2, FI, RG, GU, PU, MA, MN, MS, OT, SC], [192, 256, 320, 384, w, 192, 576, 640, 704], Lg)) o from ev_f (c := (x6 &&& (-9)) ≠ 0) _ _ 3  zc14 e (fun n => Eq.refl _)
          exact ev_b 3 (zi5 _ (Option.some.inj zh7).symm ()) (fun n => Eq.refl _)
  · skip
    intro s8
    have ze15 := Option.some.inj h
    subst ze15
    exact ev_rete 2 ho (fun n => Eq.refl _)
set_option maxRecDepth 1000000 in
set_option maxHeartbeats 4000000 in
theorem R_f_Y_hold_0 (d : Nat) (Y T H H2 RU RV ST NS I0 I1 I2 BO FI RG GU PU MA MN MS OT SC : Nat → Nat → Int32) (w r5 : Nat) (L : Nat) (Lg : Int64) (p1 : Int32) (p2 : Int32) {r : Nat × Int32 × (Nat → Nat → Int32) × (Nat → Nat → Int32) × Nat} (h : f_Y_hold Y H NS BO r5 192 p1 p2 = some r) : Ev (d + 4, 2, 16, 300, 0, [.val (.ref 64), .val (.int p1), .val (.int p2)], [], (126, 120, L, [Y, T, H, H2, RU, RV, ST, NS, I0, I1, I2, BO, FI, RG, GU, PU, MA, MN, MS, OT, SC], [192, 256, 320, 384, w, r5, 576, 640, 704], Lg)) ((r.1, a_ov r.1 (.int r.2.1), (126, 120, L, [r.2.2.1, T, H, H2, RU, RV, ST, NS, I0, I1, I2, r.2.2.2.1, FI, RG, GU, PU, MA, MN, MS, OT, SC], [192, 256, 320, 384, w, r.2.2.2.2, 576, 640, 704], Lg)) : AOut) := by
  suffices key : ∀ o : AOut, ((r.1, a_ov r.1 (.int r.2.1), (126, 120, L, [r.2.2.1, T, H, H2, RU, RV, ST, NS, I0, I1, I2, r.2.2.2.1, FI, RG, GU, PU, MA, MN, MS, OT, SC], [192, 256, 320, 384, w, r.2.2.2.2, 576, 640, 704], Lg)) : AOut) = o → Ev (d + 4, 2, 16, 300, 0, [.val (.ref 64), .val (.int p1), .val (.int p2)], [], (126, 120, L, [Y, T, H, H2, RU, RV, ST, NS, I0, I1, I2, BO, FI, RG, GU, PU, MA, MN, MS, OT, SC], [192, 256, 320, 384, w, r5, 576, 640, 704], Lg)) o from key _ rfl
  intro o ho
  obtain ⟨⟨q1, Y_2⟩, zh1, h⟩ := bnd h
  have zh1 : f_Y_needHold Y H p1 = some (q1, Y_2) := zh1
  have ze2 := R_f_Y_needHold_0 (d + 2) Y T H H2 RU RV ST NS I0 I1 I2 BO FI RG GU PU MA MN MS OT SC w r5 L Lg p1 zh1
  cases q1 with
  | zero =>
    have h := itp h rfl
    suffices e : Ev (d + 4, 1, 8, 300, 5, [.val (.ref 64), .val (.int p1), .val (.int p2)], [], (126, 120, L, [Y_2, T, H, H2, RU, RV, ST, NS, I0, I1, I2, BO, FI, RG, GU, PU, MA, MN, MS, OT, SC], [192, 256, 320, 384, w, r5, 576, 640, 704], Lg)) o from ev_call (fun v μ => (d + 4, 1, 8, 300, 5, [.val (.ref 64), .val (.int p1), .val (.int p2)], v.toList ++ [], μ)) 3 ze2 e (fun n => Eq.refl _)
    obtain ⟨zt3, zh4, h⟩ := bnd h
    have zj5 : ∀ (v3 : Int32), v3 = zt3 → Ev (d + 4, 1, 8, 300, 20, [.val (.ref 64), .val (.int p1), .val (.int p2)], [.int v3, .ref 64], (126, 120, L, [Y_2, T, H, H2, RU, RV, ST, NS, I0, I1, I2, BO, FI, RG, GU, PU, MA, MN, MS, OT, SC], [192, 256, 320, 384, w, r5, 576, 640, 704], Lg)) o := by
      intro v3 ze6
      subst ze6
      obtain ⟨⟨q4, Y_5⟩, zh7, h⟩ := bnd h
      have zh7 : f_Y_refuseUnless Y_2 v3 = some (q4, Y_5) := zh7
      have ze8 := R_f_Y_refuseUnless_0 (d + 3) Y_2 T H H2 RU RV ST NS I0 I1 I2 BO FI RG GU PU MA MN MS OT SC w r5 L Lg v3 zh7
      cases q4 with
      | zero =>
        have h := itp h rfl
        suffices e : Ev (d + 4, 0, 0, 300, 23, [.val (.ref 64), .val (.int p1), .val (.int p2)], [], (126, 120, L, [Y_5, T, H, H2, RU, RV, ST, NS, I0, I1, I2, BO, FI, RG, GU, PU, MA, MN, MS, OT, SC], [192, 256, 320, 384, w, r5, 576, 640, 704], Lg)) o from ev_call (fun v μ => (d + 4, 0, 0, 300, 23, [.val (.ref 64), .val (.int p1), .val (.int p2)], v.toList ++ [], μ)) 1 ze8 e (fun n => Eq.refl _)
        by_cases zc9 : p2 = 0
        · have h := itp h zc9
          suffices e : Ev (d + 4, 0, 0, 300, 56, [.val (.ref 64), .val (.int p1), .val (.int p2)], [], (126, 120, L, [Y_5, T, H, H2, RU, RV, ST, NS, I0, I1, I2, BO, FI, RG, GU, PU, MA, MN, MS, OT, SC], [192, 256, 320, 384, w, r5, 576, 640, 704], Lg)) o from ev_sw [((0 : Int32), 56), ((1 : Int32), 69), ((2 : Int32), 82), ((3 : Int32), 92)] p2 (fun tt => (d + 4, 0, 0, 300, tt, [.val (.ref 64), .val (.int p1), .val (.int p2)], [], (126, 120, L, [Y_5, T, H, H2, RU, RV, ST, NS, I0, I1, I2, BO, FI, RG, GU, PU, MA, MN, MS, OT, SC], [192, 256, 320, 384, w, r5, 576, 640, 704], Lg))) 109 56 2 (fun f => by simp only [a_sw, if_pos zc9]) e (fun n => Eq.refl _)
          suffices e : Ev (d + 4, 0, 0, 300, 60, [.val (.ref 64), .val (.int p1), .val (.int p2)], [.ref 192], (126, 120, L, [Y_5, T, H, H2, RU, RV, ST, NS, I0, I1, I2, BO, FI, RG, GU, PU, MA, MN, MS, OT, SC], [192, 256, 320, 384, w, r5, 576, 640, 704], Lg)) o from ev_b 2 e (fun n => Eq.refl _)
          obtain ⟨x6, zh10, h⟩ := bnd h
          have zh10 : rdx (H 11) 4 p1 = some x6 := zh10
          suffices e : Ev (d + 4, 0, 0, 300, 65, [.val (.ref 64), .val (.int p1), .val (.int p2)], [.int x6], (126, 120, L, [Y_5, T, H, H2, RU, RV, ST, NS, I0, I1, I2, BO, FI, RG, GU, PU, MA, MN, MS, OT, SC], [192, 256, 320, 384, w, r5, 576, 640, 704], Lg)) o from ev_opt (fun x6 => (d + 4, 0, 0, 300, 65, [.val (.ref 64), .val (.int p1), .val (.int p2)], [.int x6], (126, 120, L, [Y_5, T, H, H2, RU, RV, ST, NS, I0, I1, I2, BO, FI, RG, GU, PU, MA, MN, MS, OT, SC], [192, 256, 320, 384, w, r5, 576, 640, 704], Lg))) 3 zh10 e (fun n => Eq.refl _)
          obtain ⟨x7, zh11, h⟩ := bnd h
          have zh11 : f_Y_hourOf x6 = some x7 := zh11
          have ze12 := R_f_Y_hourOf_0 (d + 3) Y_5 T H H2 RU RV ST NS I0 I1 I2 BO FI RG GU PU MA MN MS OT SC 192 256 320 384 w r5 576 640 704 L Lg x6 zh11
          suffices e : Ev (d + 4, 0, 0, 300, 68, [.val (.ref 64), .val (.int p1), .val (.int p2)], [.int x7], (126, 120, L, [Y_5, T, H, H2, RU, RV, ST, NS, I0, I1, I2, BO, FI, RG, GU, PU, MA, MN, MS, OT, SC], [192, 256, 320, 384, w, r5, 576, 640, 704], Lg)) o from ev_call (fun v μ => (d + 4, 0, 0, 300, 68, [.val (.ref 64), .val (.int p1), .val (.int p2)], v.toList ++ [], μ)) 1 ze12 e (fun n => Eq.refl _)
          have ze13 := Option.some.inj h
          subst ze13
          exact ev_rete 1 ho (fun n => Eq.refl _)
        have h := itn h zc9
        by_cases zc14 : p2 = 1
        · have h := itp h zc14
          suffices e : Ev (d + 4, 0, 0, 300, 69, [.val (.ref 64), .val (.int p1), .val (.int p2)], [], (126, 120, L, [Y_5, T, H, H2, RU, RV, ST, NS, I0, I1, I2, BO, FI, RG, GU, PU, MA, MN, MS, OT, SC], [192, 256, 320, 384, w, r5, 576, 640, 704], Lg)) o from ev_sw [((0 : Int32), 56), ((1 : Int32), 69), ((2 : Int32), 82), ((3 : Int32), 92)] p2 (fun tt => (d + 4, 0, 0, 300, tt, [.val (.ref 64), .val (.int p1), .val (.int p2)], [], (126, 120, L, [Y_5, T, H, H2, RU, RV, ST, NS, I0, I1, I2, BO, FI, RG, GU, PU, MA, MN, MS, OT, SC], [192, 256, 320, 384, w, r5, 576, 640, 704], Lg))) 109 69 2 (fun f => by simp only [a_sw, if_neg zc9, if_pos zc14]) e (fun n => Eq.refl _)
          suffices e : Ev (d + 4, 0, 0, 300, 73, [.val (.ref 64), .val (.int p1), .val (.int p2)], [.ref 192], (126, 120, L, [Y_5, T, H, H2, RU, RV, ST, NS, I0, I1, I2, BO, FI, RG, GU, PU, MA, MN, MS, OT, SC], [192, 256, 320, 384, w, r5, 576, 640, 704], Lg)) o from ev_b 2 e (fun n => Eq.refl _)
          obtain ⟨x8, zh15, h⟩ := bnd h
          have zh15 : rdx (H 11) 4 p1 = some x8 := zh15
          suffices e : Ev (d + 4, 0, 0, 300, 78, [.val (.ref 64), .val (.int p1), .val (.int p2)], [.int x8], (126, 120, L, [Y_5, T, H, H2, RU, RV, ST, NS, I0, I1, I2, BO, FI, RG, GU, PU, MA, MN, MS, OT, SC], [192, 256, 320, 384, w, r5, 576, 640, 704], Lg)) o from ev_opt (fun x8 => (d + 4, 0, 0, 300, 78, [.val (.ref 64), .val (.int p1), .val (.int p2)], [.int x8], (126, 120, L, [Y_5, T, H, H2, RU, RV, ST, NS, I0, I1, I2, BO, FI, RG, GU, PU, MA, MN, MS, OT, SC], [192, 256, 320, 384, w, r5, 576, 640, 704], Lg))) 3 zh15 e (fun n => Eq.refl _)
          obtain ⟨x9, zh16, h⟩ := bnd h
          have zh16 : f_Y_roomOf x8 = some x9 := zh16
          have ze17 := R_f_Y_roomOf_0 (d + 3) Y_5 T H H2 RU RV ST NS I0 I1 I2 BO FI RG GU PU MA MN MS OT SC 192 256 320 384 w r5 576 640 704 L Lg x8 zh16
          suffices e : Ev (d + 4, 0, 0, 300, 81, [.val (.ref 64), .val (.int p1), .val (.int p2)], [.int x9], (126, 120, L, [Y_5, T, H, H2, RU, RV, ST, NS, I0, I1, I2, BO, FI, RG, GU, PU, MA, MN, MS, OT, SC], [192, 256, 320, 384, w, r5, 576, 640, 704], Lg)) o from ev_call (fun v μ => (d + 4, 0, 0, 300, 81, [.val (.ref 64), .val (.int p1), .val (.int p2)], v.toList ++ [], μ)) 1 ze17 e (fun n => Eq.refl _)
          have ze18 := Option.some.inj h
          subst ze18
          exact ev_rete 1 ho (fun n => Eq.refl _)
        have h := itn h zc14
        by_cases zc19 : p2 = 2
        · have h := itp h zc19
          suffices e : Ev (d + 4, 0, 0, 300, 82, [.val (.ref 64), .val (.int p1), .val (.int p2)], [], (126, 120, L, [Y_5, T, H, H2, RU, RV, ST, NS, I0, I1, I2, BO, FI, RG, GU, PU, MA, MN, MS, OT, SC], [192, 256, 320, 384, w, r5, 576, 640, 704], Lg)) o from ev_sw [((0 : Int32), 56), ((1 : Int32), 69), ((2 : Int32), 82), ((3 : Int32), 92)] p2 (fun tt => (d + 4, 0, 0, 300, tt, [.val (.ref 64), .val (.int p1), .val (.int p2)], [], (126, 120, L, [Y_5, T, H, H2, RU, RV, ST, NS, I0, I1, I2, BO, FI, RG, GU, PU, MA, MN, MS, OT, SC], [192, 256, 320, 384, w, r5, 576, 640, 704], Lg))) 109 82 2 (fun f => by simp only [a_sw, if_neg zc9, if_neg zc14, if_pos zc19]) e (fun n => Eq.refl _)
          suffices e : Ev (d + 4, 0, 0, 300, 86, [.val (.ref 64), .val (.int p1), .val (.int p2)], [.ref 192], (126, 120, L, [Y_5, T, H, H2, RU, RV, ST, NS, I0, I1, I2, BO, FI, RG, GU, PU, MA, MN, MS, OT, SC], [192, 256, 320, 384, w, r5, 576, 640, 704], Lg)) o from ev_b 2 e (fun n => Eq.refl _)
          obtain ⟨x10, zh20, h⟩ := bnd h
          have zh20 : rdx (H 12) 4 p1 = some x10 := zh20
          suffices e : Ev (d + 4, 0, 0, 300, 91, [.val (.ref 64), .val (.int p1), .val (.int p2)], [.int x10], (126, 120, L, [Y_5, T, H, H2, RU, RV, ST, NS, I0, I1, I2, BO, FI, RG, GU, PU, MA, MN, MS, OT, SC], [192, 256, 320, 384, w, r5, 576, 640, 704], Lg)) o from ev_opt (fun x10 => (d + 4, 0, 0, 300, 91, [.val (.ref 64), .val (.int p1), .val (.int p2)], [.int x10], (126, 120, L, [Y_5, T, H, H2, RU, RV, ST, NS, I0, I1, I2, BO, FI, RG, GU, PU, MA, MN, MS, OT, SC], [192, 256, 320, 384, w, r5, 576, 640, 704], Lg))) 3 zh20 e (fun n => Eq.refl _)
          have ze21 := Option.some.inj h
          subst ze21
          exact ev_rete 1 ho (fun n => Eq.refl _)
        have h := itn h zc19
        by_cases zc22 : p2 = 3
        · have h := itp h zc22
          suffices e : Ev (d + 4, 0, 0, 300, 92, [.val (.ref 64), .val (.int p1), .val (.int p2)], [], (126, 120, L, [Y_5, T, H, H2, RU, RV, ST, NS, I0, I1, I2, BO, FI, RG, GU, PU, MA, MN, MS, OT, SC], [192, 256, 320, 384, w, r5, 576, 640, 704], Lg)) o from ev_sw [((0 : Int32), 56), ((1 : Int32), 69), ((2 : Int32), 82), ((3 : Int32), 92)] p2 (fun tt => (d + 4, 0, 0, 300, tt, [.val (.ref 64), .val (.int p1), .val (.int p2)], [], (126, 120, L, [Y_5, T, H, H2, RU, RV, ST, NS, I0, I1, I2, BO, FI, RG, GU, PU, MA, MN, MS, OT, SC], [192, 256, 320, 384, w, r5, 576, 640, 704], Lg))) 109 92 2 (fun f => by simp only [a_sw, if_neg zc9, if_neg zc14, if_neg zc19, if_pos zc22]) e (fun n => Eq.refl _)
          obtain ⟨x11, zh23, h⟩ := bnd h
          have zh23 : f_State_isHeld NS p1 = some x11 := zh23
          have ze24 := R_f_State_isHeld_0 (d + 3) Y_5 T H H2 RU RV ST NS I0 I1 I2 BO FI RG GU PU MA MN MS OT SC 192 256 320 384 w r5 576 640 704 L Lg p1 zh23
          suffices e : Ev (d + 4, 0, 0, 300, 100, [.val (.ref 64), .val (.int p1), .val (.int p2)], [.int x11], (126, 120, L, [Y_5, T, H, H2, RU, RV, ST, NS, I0, I1, I2, BO, FI, RG, GU, PU, MA, MN, MS, OT, SC], [192, 256, 320, 384, w, r5, 576, 640, 704], Lg)) o from ev_call (fun v μ => (d + 4, 0, 0, 300, 100, [.val (.ref 64), .val (.int p1), .val (.int p2)], v.toList ++ [], μ)) 4 ze24 e (fun n => Eq.refl _)
          by_cases zc25 : x11 = 0
          · have h := itp h zc25
            suffices e : Ev (d + 4, 0, 0, 300, 107, [.val (.ref 64), .val (.int p1), .val (.int p2)], [], (126, 120, L, [Y_5, T, H, H2, RU, RV, ST, NS, I0, I1, I2, BO, FI, RG, GU, PU, MA, MN, MS, OT, SC], [192, 256, 320, 384, w, r5, 576, 640, 704], Lg)) o from ev_t (c := x11 = 0) _ _ 1  zc25 e (fun n => Eq.refl _)
            have ze26 := Option.some.inj h
            subst ze26
            exact ev_rete 2 ho (fun n => Eq.refl _)
          · have h := itn h zc25
            suffices e : Ev (d + 4, 0, 0, 300, 103, [.val (.ref 64), .val (.int p1), .val (.int p2)], [], (126, 120, L, [Y_5, T, H, H2, RU, RV, ST, NS, I0, I1, I2, BO, FI, RG, GU, PU, MA, MN, MS, OT, SC], [192, 256, 320, 384, w, r5, 576, 640, 704], Lg)) o from ev_f (c := x11 = 0) _ _ 1  zc25 e (fun n => Eq.refl _)
            have ze27 := Option.some.inj h
            subst ze27
            exact ev_rete 3 ho (fun n => Eq.refl _)
        have h := itn h zc22
        suffices e : Ev (d + 4, 0, 0, 300, 109, [.val (.ref 64), .val (.int p1), .val (.int p2)], [], (126, 120, L, [Y_5, T, H, H2, RU, RV, ST, NS, I0, I1, I2, BO, FI, RG, GU, PU, MA, MN, MS, OT, SC], [192, 256, 320, 384, w, r5, 576, 640, 704], Lg)) o from ev_sw [((0 : Int32), 56), ((1 : Int32), 69), ((2 : Int32), 82), ((3 : Int32), 92)] p2 (fun tt => (d + 4, 0, 0, 300, tt, [.val (.ref 64), .val (.int p1), .val (.int p2)], [], (126, 120, L, [Y_5, T, H, H2, RU, RV, ST, NS, I0, I1, I2, BO, FI, RG, GU, PU, MA, MN, MS, OT, SC], [192, 256, 320, 384, w, r5, 576, 640, 704], Lg))) 109 109 2 (fun f => by simp only [a_sw, if_neg zc9, if_neg zc14, if_neg zc19, if_neg zc22]) e (fun n => Eq.refl _)
        suffices e : Ev (d + 4, 0, 0, 300, 114, [.val (.ref 64), .val (.int p1), .val (.int p2)], [.ref 192, .ref 64], (126, 120, L, [Y_5, T, H, H2, RU, RV, ST, NS, I0, I1, I2, BO, FI, RG, GU, PU, MA, MN, MS, OT, SC], [192, 256, 320, 384, w, r5, 576, 640, 704], Lg)) o from ev_b 3 e (fun n => Eq.refl _)
        obtain ⟨x12, zh28, h⟩ := bnd h
        have zh28 : rdx (H 11) 4 p1 = some x12 := zh28
        suffices e : Ev (d + 4, 0, 0, 300, 119, [.val (.ref 64), .val (.int p1), .val (.int p2)], [.int x12, .ref 64], (126, 120, L, [Y_5, T, H, H2, RU, RV, ST, NS, I0, I1, I2, BO, FI, RG, GU, PU, MA, MN, MS, OT, SC], [192, 256, 320, 384, w, r5, 576, 640, 704], Lg)) o from ev_opt (fun x12 => (d + 4, 0, 0, 300, 119, [.val (.ref 64), .val (.int p1), .val (.int p2)], [.int x12, .ref 64], (126, 120, L, [Y_5, T, H, H2, RU, RV, ST, NS, I0, I1, I2, BO, FI, RG, GU, PU, MA, MN, MS, OT, SC], [192, 256, 320, 384, w, r5, 576, 640, 704], Lg))) 3 zh28 e (fun n => Eq.refl _)
        obtain ⟨⟨x13, BO_14⟩, zh29, h⟩ := bnd h
        have zh29 : f_Y_wouldTake H NS BO x12 = some (x13, BO_14) := zh29
        have ze30 := R_f_Y_wouldTake_0 (d + 0) Y_5 T H H2 RU RV ST NS I0 I1 I2 BO FI RG GU PU MA MN MS OT SC w r5 L Lg x12 zh29
        suffices e : Ev (d + 4, 0, 0, 300, 122, [.val (.ref 64), .val (.int p1), .val (.int p2)], [.int x13], (126, 120, L, [Y_5, T, H, H2, RU, RV, ST, NS, I0, I1, I2, BO_14, FI, RG, GU, PU, MA, MN, MS, OT, SC], [192, 256, 320, 384, w, 192, 576, 640, 704], Lg)) o from ev_call (fun v μ => (d + 4, 0, 0, 300, 122, [.val (.ref 64), .val (.int p1), .val (.int p2)], v.toList ++ [], μ)) 1 ze30 e (fun n => Eq.refl _)
        have ze31 := Option.some.inj h
        subst ze31
        exact ev_rete 1 ho (fun n => Eq.refl _)
      | succ q4 =>
        have h := itn h (Nat.succ_ne_zero q4)
        have ze32 := Option.some.inj h
        subst ze32
        subst ho
        exact ev_thr (fun v μ => (d + 4, 0, 0, 300, 23, [.val (.ref 64), .val (.int p1), .val (.int p2)], v.toList ++ [], μ)) 1 ze8 (fun n => Eq.refl _) (fun n => rfl)
    obtain ⟨zt33, zh34, zh4⟩ := bnd zh4
    have zj35 : zt33 = .inl () → Ev (d + 4, 1, 8, 300, 19, [.val (.ref 64), .val (.int p1), .val (.int p2)], [.ref 64], (126, 120, L, [Y_2, T, H, H2, RU, RV, ST, NS, I0, I1, I2, BO, FI, RG, GU, PU, MA, MN, MS, OT, SC], [192, 256, 320, 384, w, r5, 576, 640, 704], Lg)) o := by
      intro ze36
      have zh4 := sum_l zh4 ze36
      exact ev_b 1 (zj5 0 (Option.some.inj zh4) ) (fun n => Eq.refl _)
    by_cases zc37 : p2 < 0
    · have zh34 := itp zh34 zc37
      suffices e : Ev (d + 4, 1, 8, 300, 19, [.val (.ref 64), .val (.int p1), .val (.int p2)], [.ref 64], (126, 120, L, [Y_2, T, H, H2, RU, RV, ST, NS, I0, I1, I2, BO, FI, RG, GU, PU, MA, MN, MS, OT, SC], [192, 256, 320, 384, w, r5, 576, 640, 704], Lg)) o from ev_t (c := p2 < 0) _ _ 3  zc37 e (fun n => Eq.refl _)
      exact ev_b 0 (zj35  (Option.some.inj zh34).symm ) (fun n => Eq.refl _)
    · have zh34 := itn zh34 zc37
      suffices e : Ev (d + 4, 1, 8, 300, 10, [.val (.ref 64), .val (.int p1), .val (.int p2)], [.ref 64], (126, 120, L, [Y_2, T, H, H2, RU, RV, ST, NS, I0, I1, I2, BO, FI, RG, GU, PU, MA, MN, MS, OT, SC], [192, 256, 320, 384, w, r5, 576, 640, 704], Lg)) o from ev_f (c := p2 < 0) _ _ 3  zc37 e (fun n => Eq.refl _)
      by_cases zc38 : 4 < p2
      · have zh34 := itp zh34 zc38
        suffices e : Ev (d + 4, 1, 8, 300, 19, [.val (.ref 64), .val (.int p1), .val (.int p2)], [.ref 64], (126, 120, L, [Y_2, T, H, H2, RU, RV, ST, NS, I0, I1, I2, BO, FI, RG, GU, PU, MA, MN, MS, OT, SC], [192, 256, 320, 384, w, r5, 576, 640, 704], Lg)) o from ev_t (c := 4 < p2) _ _ 3  zc38 e (fun n => Eq.refl _)
        exact ev_b 0 (zj35  (Option.some.inj zh34).symm ) (fun n => Eq.refl _)
      · have zh34 := itn zh34 zc38
        suffices e : Ev (d + 4, 1, 8, 300, 15, [.val (.ref 64), .val (.int p1), .val (.int p2)], [.ref 64], (126, 120, L, [Y_2, T, H, H2, RU, RV, ST, NS, I0, I1, I2, BO, FI, RG, GU, PU, MA, MN, MS, OT, SC], [192, 256, 320, 384, w, r5, 576, 640, 704], Lg)) o from ev_f (c := 4 < p2) _ _ 3  zc38 e (fun n => Eq.refl _)
        have zh39 := sum_r zh4 (Option.some.inj zh34).symm
        exact ev_b 2 (zj5 1 (Option.some.inj zh39) ) (fun n => Eq.refl _)
  | succ q1 =>
    have h := itn h (Nat.succ_ne_zero q1)
    have ze40 := Option.some.inj h
    subst ze40
    subst ho
    exact ev_thr (fun v μ => (d + 4, 1, 8, 300, 5, [.val (.ref 64), .val (.int p1), .val (.int p2)], v.toList ++ [], μ)) 3 ze2 (fun n => Eq.refl _) (fun n => rfl)
set_option maxRecDepth 1000000 in
set_option maxHeartbeats 4000000 in
theorem R_f_Y_wouldTake_1 (d : Nat) (Y T H H2 RV RU ST NS I0 I1 I2 BO FI RG GU PU MA MN MS OT SC : Nat → Nat → Int32) (w r5 : Nat) (L : Nat) (Lg : Int64) (p1 : Int32) {r : Int32 × (Nat → Nat → Int32)} (h : f_Y_wouldTake H NS BO p1 = some r) : Ev (d + 3, 0, 0, 344, 0, [.val (.ref 64), .val (.int p1), .val a_unk, .val a_unk, .val a_unk], [], (126, 120, L, [Y, T, H, H2, RV, RU, ST, NS, I0, I1, I2, BO, FI, RG, GU, PU, MA, MN, MS, OT, SC], [192, 256, 384, 320, w, r5, 576, 640, 704], Lg)) ((0, some (.int r.1), (126, 120, L, [Y, T, H, H2, RV, RU, ST, NS, I0, I1, I2, r.2, FI, RG, GU, PU, MA, MN, MS, OT, SC], [192, 256, 384, 320, w, 192, 576, 640, 704], Lg)) : AOut) := by
  suffices key : ∀ o : AOut, ((0, some (.int r.1), (126, 120, L, [Y, T, H, H2, RV, RU, ST, NS, I0, I1, I2, r.2, FI, RG, GU, PU, MA, MN, MS, OT, SC], [192, 256, 384, 320, w, 192, 576, 640, 704], Lg)) : AOut) = o → Ev (d + 3, 0, 0, 344, 0, [.val (.ref 64), .val (.int p1), .val a_unk, .val a_unk, .val a_unk], [], (126, 120, L, [Y, T, H, H2, RV, RU, ST, NS, I0, I1, I2, BO, FI, RG, GU, PU, MA, MN, MS, OT, SC], [192, 256, 384, 320, w, r5, 576, 640, 704], Lg)) o from key _ rfl
  intro o ho
  obtain ⟨BO_2, zh1, h⟩ := bnd h
  have zh1 : f_Y_lookNow H NS BO = some BO_2 := zh1
  have ze2 := R_f_Y_lookNow_1 (d + 0) Y T H H2 RV RU ST NS I0 I1 I2 BO FI RG GU PU MA MN MS OT SC w r5 L Lg zh1
  suffices e : Ev (d + 3, 0, 0, 344, 4, [.val (.ref 64), .val (.int p1), .val a_unk, .val a_unk, .val a_unk], [.ref 768], (126, 120, L, [Y, T, H, H2, RV, RU, ST, NS, I0, I1, I2, BO_2, FI, RG, GU, PU, MA, MN, MS, OT, SC], [192, 256, 384, 320, w, 192, 576, 640, 704], Lg)) o from ev_call (fun v μ => (d + 3, 0, 0, 344, 4, [.val (.ref 64), .val (.int p1), .val a_unk, .val a_unk, .val a_unk], v.toList ++ [], μ)) 2 ze2 e (fun n => Eq.refl _)
  obtain ⟨v7, zh4, h⟩ := bnd h
  suffices e : Ev (d + 3, 0, 0, 344, 10, [.val (.ref 64), .val (.int p1), .val (.ref 768), .val (.int 0), .val (.int 0)], [], (126, 120, L, [Y, T, H, H2, RV, RU, ST, NS, I0, I1, I2, BO_2, FI, RG, GU, PU, MA, MN, MS, OT, SC], [192, 256, 384, 320, w, 192, 576, 640, 704], Lg)) o from ev_b 5 e (fun n => Eq.refl _)
  refine ev_loop (δ := Unit) (fun a j => (d + 3, 0, 0, 344, 10, [.val (.ref 64), .val (.int p1), .val (.ref 768), .val (.int a.1), .val (.int a.2)], [], (126, 120, L, [Y, T, H, H2, RV, RU, ST, NS, I0, I1, I2, BO_2, FI, RG, GU, PU, MA, MN, MS, OT, SC], [192, 256, 384, 320, w, 192, 576, 640, 704], Lg))) (fun b => ∀ s8 : Value, Ev (d + 3, 0, 0, 344, 55, [.val (.ref 64), .val (.int p1), .val (.ref 768), .val (.int b), .val s8], [], (126, 120, L, [Y, T, H, H2, RV, RU, ST, NS, I0, I1, I2, BO_2, FI, RG, GU, PU, MA, MN, MS, OT, SC], [192, 256, 384, 320, w, 192, 576, 640, 704], Lg)) o) ?_ a_F (0, 0) v7 zh4 ?_ ()
  · rintro ⟨v3, v4⟩ zr8 zh7 zi5 zx6 ⟨⟩
    have zh7 : f_Y_wouldTake_l10 H BO_2 p1 v3 v4 = some zr8 := zh7
    suffices e : Ev (d + 3, 0, 0, 344, 16, [.val (.ref 64), .val (.int p1), .val (.ref 768), .val (.int v3), .val (.int v4)], [.ref 192, .int v4], (126, 120, L, [Y, T, H, H2, RV, RU, ST, NS, I0, I1, I2, BO_2, FI, RG, GU, PU, MA, MN, MS, OT, SC], [192, 256, 384, 320, w, 192, 576, 640, 704], Lg)) o from ev_b 3 e (fun n => Eq.refl _)
    by_cases zc9 : (H 0 3) ≤ v4
    · have zh7 := itp zh7 zc9
      suffices e : Ev (d + 3, 0, 0, 344, 55, [.val (.ref 64), .val (.int p1), .val (.ref 768), .val (.int v3), .val (.int v4)], [], (126, 120, L, [Y, T, H, H2, RV, RU, ST, NS, I0, I1, I2, BO_2, FI, RG, GU, PU, MA, MN, MS, OT, SC], [192, 256, 384, 320, w, 192, 576, 640, 704], Lg)) o from ev_t (c := (H 0 3) ≤ v4) _ _ 2  zc9 e (fun n => Eq.refl _)
      exact ev_b 0 (zx6 _ (Option.some.inj zh7).symm (.int v4)) (fun n => Eq.refl _)
    · have zh7 := itn zh7 zc9
      suffices e : Ev (d + 3, 0, 0, 344, 22, [.val (.ref 64), .val (.int p1), .val (.ref 768), .val (.int v3), .val (.int v4)], [], (126, 120, L, [Y, T, H, H2, RV, RU, ST, NS, I0, I1, I2, BO_2, FI, RG, GU, PU, MA, MN, MS, OT, SC], [192, 256, 384, 320, w, 192, 576, 640, 704], Lg)) o from ev_f (c := (H 0 3) ≤ v4) _ _ 2  zc9 e (fun n => Eq.refl _)
      obtain ⟨x5, zh10, zh7⟩ := bnd zh7
      have zh10 : rdx (BO_2 1) 10 v4 = some x5 := zh10
      suffices e : Ev (d + 3, 0, 0, 344, 29, [.val (.ref 64), .val (.int p1), .val (.ref 768), .val (.int v3), .val (.int v4)], [.int x5], (126, 120, L, [Y, T, H, H2, RV, RU, ST, NS, I0, I1, I2, BO_2, FI, RG, GU, PU, MA, MN, MS, OT, SC], [192, 256, 384, 320, w, 192, 576, 640, 704], Lg)) o from ev_opt (fun x5 => (d + 3, 0, 0, 344, 29, [.val (.ref 64), .val (.int p1), .val (.ref 768), .val (.int v3), .val (.int v4)], [.int x5], (126, 120, L, [Y, T, H, H2, RV, RU, ST, NS, I0, I1, I2, BO_2, FI, RG, GU, PU, MA, MN, MS, OT, SC], [192, 256, 384, 320, w, 192, 576, 640, 704], Lg))) 4 zh10 e (fun n => Eq.refl _)
      by_cases zc11 : x5 ≠ (-1)
      · have zh7 := itp zh7 zc11
        suffices e : Ev (d + 3, 0, 0, 344, 49, [.val (.ref 64), .val (.int p1), .val (.ref 768), .val (.int v3), .val (.int v4)], [], (126, 120, L, [Y, T, H, H2, RV, RU, ST, NS, I0, I1, I2, BO_2, FI, RG, GU, PU, MA, MN, MS, OT, SC], [192, 256, 384, 320, w, 192, 576, 640, 704], Lg)) o from ev_t (c := x5 ≠ (-1)) _ _ 2  zc11 e (fun n => Eq.refl _)
        exact ev_b 2 (zi5 _ (Option.some.inj zh7).symm ()) (fun n => Eq.refl _)
      · have zh7 := itn zh7 zc11
        suffices e : Ev (d + 3, 0, 0, 344, 33, [.val (.ref 64), .val (.int p1), .val (.ref 768), .val (.int v3), .val (.int v4)], [], (126, 120, L, [Y, T, H, H2, RV, RU, ST, NS, I0, I1, I2, BO_2, FI, RG, GU, PU, MA, MN, MS, OT, SC], [192, 256, 384, 320, w, 192, 576, 640, 704], Lg)) o from ev_f (c := x5 ≠ (-1)) _ _ 2  zc11 e (fun n => Eq.refl _)
        obtain ⟨x6, zh12, zh7⟩ := bnd zh7
        have zh12 : f_Board_clashes H BO_2 v4 p1 = some x6 := zh12
        have ze13 := R_f_Board_clashes_0 (d + 0) Y T H H2 RV RU ST NS I0 I1 I2 BO_2 FI RG GU PU MA MN MS OT SC 192 256 384 320 w 576 640 704 L Lg v4 p1 zh12
        suffices e : Ev (d + 3, 0, 0, 344, 40, [.val (.ref 64), .val (.int p1), .val (.ref 768), .val (.int v3), .val (.int v4)], [.int x6], (126, 120, L, [Y, T, H, H2, RV, RU, ST, NS, I0, I1, I2, BO_2, FI, RG, GU, PU, MA, MN, MS, OT, SC], [192, 256, 384, 320, w, 192, 576, 640, 704], Lg)) o from ev_call (fun v μ => (d + 3, 0, 0, 344, 40, [.val (.ref 64), .val (.int p1), .val (.ref 768), .val (.int v3), .val (.int v4)], v.toList ++ [], μ)) 4 ze13 e (fun n => Eq.refl _)
        by_cases zc14 : (x6 &&& (-9)) ≠ 0
        · have zh7 := itp zh7 zc14
          suffices e : Ev (d + 3, 0, 0, 344, 49, [.val (.ref 64), .val (.int p1), .val (.ref 768), .val (.int v3), .val (.int v4)], [], (126, 120, L, [Y, T, H, H2, RV, RU, ST, NS, I0, I1, I2, BO_2, FI, RG, GU, PU, MA, MN, MS, OT, SC], [192, 256, 384, 320, w, 192, 576, 640, 704], Lg)) o from ev_t (c := (x6 &&& (-9)) ≠ 0) _ _ 3  zc14 e (fun n => Eq.refl _)
          exact ev_b 2 (zi5 _ (Option.some.inj zh7).symm ()) (fun n => Eq.refl _)
        · have zh7 := itn zh7 zc14
          suffices e : Ev (d + 3, 0, 0, 344, 46, [.val (.ref 64), .val (.int p1), .val (.ref 768), .val (.int v3), .val (.int v4)], [], (126, 120, L, [Y, T, H, H2, RV, RU, ST, NS, I0, I1, I2, BO_2, FI, RG, GU, PU, MA, MN, MS, OT, SC], [192, 256, 384, 320, w, 192, 576, 640, 704], Lg)) o from ev_f (c := (x6 &&& (-9)) ≠ 0) _ _ 3  zc14 e (fun n => Eq.refl _)
          exact ev_b 3 (zi5 _ (Option.some.inj zh7).symm ()) (fun n => Eq.refl _)
  · skip
    intro s8
    have ze15 := Option.some.inj h
    subst ze15
    exact ev_rete 2 ho (fun n => Eq.refl _)
set_option maxRecDepth 1000000 in
set_option maxHeartbeats 4000000 in
theorem R_f_Y_hold_1 (d : Nat) (Y T H H2 RV RU ST NS I0 I1 I2 BO FI RG GU PU MA MN MS OT SC : Nat → Nat → Int32) (w r5 : Nat) (L : Nat) (Lg : Int64) (p1 : Int32) (p2 : Int32) {r : Nat × Int32 × (Nat → Nat → Int32) × (Nat → Nat → Int32) × Nat} (h : f_Y_hold Y H NS BO r5 192 p1 p2 = some r) : Ev (d + 4, 2, 16, 300, 0, [.val (.ref 64), .val (.int p1), .val (.int p2)], [], (126, 120, L, [Y, T, H, H2, RV, RU, ST, NS, I0, I1, I2, BO, FI, RG, GU, PU, MA, MN, MS, OT, SC], [192, 256, 384, 320, w, r5, 576, 640, 704], Lg)) ((r.1, a_ov r.1 (.int r.2.1), (126, 120, L, [r.2.2.1, T, H, H2, RV, RU, ST, NS, I0, I1, I2, r.2.2.2.1, FI, RG, GU, PU, MA, MN, MS, OT, SC], [192, 256, 384, 320, w, r.2.2.2.2, 576, 640, 704], Lg)) : AOut) := by
  suffices key : ∀ o : AOut, ((r.1, a_ov r.1 (.int r.2.1), (126, 120, L, [r.2.2.1, T, H, H2, RV, RU, ST, NS, I0, I1, I2, r.2.2.2.1, FI, RG, GU, PU, MA, MN, MS, OT, SC], [192, 256, 384, 320, w, r.2.2.2.2, 576, 640, 704], Lg)) : AOut) = o → Ev (d + 4, 2, 16, 300, 0, [.val (.ref 64), .val (.int p1), .val (.int p2)], [], (126, 120, L, [Y, T, H, H2, RV, RU, ST, NS, I0, I1, I2, BO, FI, RG, GU, PU, MA, MN, MS, OT, SC], [192, 256, 384, 320, w, r5, 576, 640, 704], Lg)) o from key _ rfl
  intro o ho
  obtain ⟨⟨q1, Y_2⟩, zh1, h⟩ := bnd h
  have zh1 : f_Y_needHold Y H p1 = some (q1, Y_2) := zh1
  have ze2 := R_f_Y_needHold_1 (d + 2) Y T H H2 RV RU ST NS I0 I1 I2 BO FI RG GU PU MA MN MS OT SC w r5 L Lg p1 zh1
  cases q1 with
  | zero =>
    have h := itp h rfl
    suffices e : Ev (d + 4, 1, 8, 300, 5, [.val (.ref 64), .val (.int p1), .val (.int p2)], [], (126, 120, L, [Y_2, T, H, H2, RV, RU, ST, NS, I0, I1, I2, BO, FI, RG, GU, PU, MA, MN, MS, OT, SC], [192, 256, 384, 320, w, r5, 576, 640, 704], Lg)) o from ev_call (fun v μ => (d + 4, 1, 8, 300, 5, [.val (.ref 64), .val (.int p1), .val (.int p2)], v.toList ++ [], μ)) 3 ze2 e (fun n => Eq.refl _)
    obtain ⟨zt3, zh4, h⟩ := bnd h
    have zj5 : ∀ (v3 : Int32), v3 = zt3 → Ev (d + 4, 1, 8, 300, 20, [.val (.ref 64), .val (.int p1), .val (.int p2)], [.int v3, .ref 64], (126, 120, L, [Y_2, T, H, H2, RV, RU, ST, NS, I0, I1, I2, BO, FI, RG, GU, PU, MA, MN, MS, OT, SC], [192, 256, 384, 320, w, r5, 576, 640, 704], Lg)) o := by
      intro v3 ze6
      subst ze6
      obtain ⟨⟨q4, Y_5⟩, zh7, h⟩ := bnd h
      have zh7 : f_Y_refuseUnless Y_2 v3 = some (q4, Y_5) := zh7
      have ze8 := R_f_Y_refuseUnless_1 (d + 3) Y_2 T H H2 RV RU ST NS I0 I1 I2 BO FI RG GU PU MA MN MS OT SC w r5 L Lg v3 zh7
      cases q4 with
      | zero =>
        have h := itp h rfl
        suffices e : Ev (d + 4, 0, 0, 300, 23, [.val (.ref 64), .val (.int p1), .val (.int p2)], [], (126, 120, L, [Y_5, T, H, H2, RV, RU, ST, NS, I0, I1, I2, BO, FI, RG, GU, PU, MA, MN, MS, OT, SC], [192, 256, 384, 320, w, r5, 576, 640, 704], Lg)) o from ev_call (fun v μ => (d + 4, 0, 0, 300, 23, [.val (.ref 64), .val (.int p1), .val (.int p2)], v.toList ++ [], μ)) 1 ze8 e (fun n => Eq.refl _)
        by_cases zc9 : p2 = 0
        · have h := itp h zc9
          suffices e : Ev (d + 4, 0, 0, 300, 56, [.val (.ref 64), .val (.int p1), .val (.int p2)], [], (126, 120, L, [Y_5, T, H, H2, RV, RU, ST, NS, I0, I1, I2, BO, FI, RG, GU, PU, MA, MN, MS, OT, SC], [192, 256, 384, 320, w, r5, 576, 640, 704], Lg)) o from ev_sw [((0 : Int32), 56), ((1 : Int32), 69), ((2 : Int32), 82), ((3 : Int32), 92)] p2 (fun tt => (d + 4, 0, 0, 300, tt, [.val (.ref 64), .val (.int p1), .val (.int p2)], [], (126, 120, L, [Y_5, T, H, H2, RV, RU, ST, NS, I0, I1, I2, BO, FI, RG, GU, PU, MA, MN, MS, OT, SC], [192, 256, 384, 320, w, r5, 576, 640, 704], Lg))) 109 56 2 (fun f => by simp only [a_sw, if_pos zc9]) e (fun n => Eq.refl _)
          suffices e : Ev (d + 4, 0, 0, 300, 60, [.val (.ref 64), .val (.int p1), .val (.int p2)], [.ref 192], (126, 120, L, [Y_5, T, H, H2, RV, RU, ST, NS, I0, I1, I2, BO, FI, RG, GU, PU, MA, MN, MS, OT, SC], [192, 256, 384, 320, w, r5, 576, 640, 704], Lg)) o from ev_b 2 e (fun n => Eq.refl _)
          obtain ⟨x6, zh10, h⟩ := bnd h
          have zh10 : rdx (H 11) 4 p1 = some x6 := zh10
          suffices e : Ev (d + 4, 0, 0, 300, 65, [.val (.ref 64), .val (.int p1), .val (.int p2)], [.int x6], (126, 120, L, [Y_5, T, H, H2, RV, RU, ST, NS, I0, I1, I2, BO, FI, RG, GU, PU, MA, MN, MS, OT, SC], [192, 256, 384, 320, w, r5, 576, 640, 704], Lg)) o from ev_opt (fun x6 => (d + 4, 0, 0, 300, 65, [.val (.ref 64), .val (.int p1), .val (.int p2)], [.int x6], (126, 120, L, [Y_5, T, H, H2, RV, RU, ST, NS, I0, I1, I2, BO, FI, RG, GU, PU, MA, MN, MS, OT, SC], [192, 256, 384, 320, w, r5, 576, 640, 704], Lg))) 3 zh10 e (fun n => Eq.refl _)
          obtain ⟨x7, zh11, h⟩ := bnd h
          have zh11 : f_Y_hourOf x6 = some x7 := zh11
          have ze12 := R_f_Y_hourOf_0 (d + 3) Y_5 T H H2 RV RU ST NS I0 I1 I2 BO FI RG GU PU MA MN MS OT SC 192 256 384 320 w r5 576 640 704 L Lg x6 zh11
          suffices e : Ev (d + 4, 0, 0, 300, 68, [.val (.ref 64), .val (.int p1), .val (.int p2)], [.int x7], (126, 120, L, [Y_5, T, H, H2, RV, RU, ST, NS, I0, I1, I2, BO, FI, RG, GU, PU, MA, MN, MS, OT, SC], [192, 256, 384, 320, w, r5, 576, 640, 704], Lg)) o from ev_call (fun v μ => (d + 4, 0, 0, 300, 68, [.val (.ref 64), .val (.int p1), .val (.int p2)], v.toList ++ [], μ)) 1 ze12 e (fun n => Eq.refl _)
          have ze13 := Option.some.inj h
          subst ze13
          exact ev_rete 1 ho (fun n => Eq.refl _)
        have h := itn h zc9
        by_cases zc14 : p2 = 1
        · have h := itp h zc14
          suffices e : Ev (d + 4, 0, 0, 300, 69, [.val (.ref 64), .val (.int p1), .val (.int p2)], [], (126, 120, L, [Y_5, T, H, H2, RV, RU, ST, NS, I0, I1, I2, BO, FI, RG, GU, PU, MA, MN, MS, OT, SC], [192, 256, 384, 320, w, r5, 576, 640, 704], Lg)) o from ev_sw [((0 : Int32), 56), ((1 : Int32), 69), ((2 : Int32), 82), ((3 : Int32), 92)] p2 (fun tt => (d + 4, 0, 0, 300, tt, [.val (.ref 64), .val (.int p1), .val (.int p2)], [], (126, 120, L, [Y_5, T, H, H2, RV, RU, ST, NS, I0, I1, I2, BO, FI, RG, GU, PU, MA, MN, MS, OT, SC], [192, 256, 384, 320, w, r5, 576, 640, 704], Lg))) 109 69 2 (fun f => by simp only [a_sw, if_neg zc9, if_pos zc14]) e (fun n => Eq.refl _)
          suffices e : Ev (d + 4, 0, 0, 300, 73, [.val (.ref 64), .val (.int p1), .val (.int p2)], [.ref 192], (126, 120, L, [Y_5, T, H, H2, RV, RU, ST, NS, I0, I1, I2, BO, FI, RG, GU, PU, MA, MN, MS, OT, SC], [192, 256, 384, 320, w, r5, 576, 640, 704], Lg)) o from ev_b 2 e (fun n => Eq.refl _)
          obtain ⟨x8, zh15, h⟩ := bnd h
          have zh15 : rdx (H 11) 4 p1 = some x8 := zh15
          suffices e : Ev (d + 4, 0, 0, 300, 78, [.val (.ref 64), .val (.int p1), .val (.int p2)], [.int x8], (126, 120, L, [Y_5, T, H, H2, RV, RU, ST, NS, I0, I1, I2, BO, FI, RG, GU, PU, MA, MN, MS, OT, SC], [192, 256, 384, 320, w, r5, 576, 640, 704], Lg)) o from ev_opt (fun x8 => (d + 4, 0, 0, 300, 78, [.val (.ref 64), .val (.int p1), .val (.int p2)], [.int x8], (126, 120, L, [Y_5, T, H, H2, RV, RU, ST, NS, I0, I1, I2, BO, FI, RG, GU, PU, MA, MN, MS, OT, SC], [192, 256, 384, 320, w, r5, 576, 640, 704], Lg))) 3 zh15 e (fun n => Eq.refl _)
          obtain ⟨x9, zh16, h⟩ := bnd h
          have zh16 : f_Y_roomOf x8 = some x9 := zh16
          have ze17 := R_f_Y_roomOf_0 (d + 3) Y_5 T H H2 RV RU ST NS I0 I1 I2 BO FI RG GU PU MA MN MS OT SC 192 256 384 320 w r5 576 640 704 L Lg x8 zh16
          suffices e : Ev (d + 4, 0, 0, 300, 81, [.val (.ref 64), .val (.int p1), .val (.int p2)], [.int x9], (126, 120, L, [Y_5, T, H, H2, RV, RU, ST, NS, I0, I1, I2, BO, FI, RG, GU, PU, MA, MN, MS, OT, SC], [192, 256, 384, 320, w, r5, 576, 640, 704], Lg)) o from ev_call (fun v μ => (d + 4, 0, 0, 300, 81, [.val (.ref 64), .val (.int p1), .val (.int p2)], v.toList ++ [], μ)) 1 ze17 e (fun n => Eq.refl _)
          have ze18 := Option.some.inj h
          subst ze18
          exact ev_rete 1 ho (fun n => Eq.refl _)
        have h := itn h zc14
        by_cases zc19 : p2 = 2
        · have h := itp h zc19
          suffices e : Ev (d + 4, 0, 0, 300, 82, [.val (.ref 64), .val (.int p1), .val (.int p2)], [], (126, 120, L, [Y_5, T, H, H2, RV, RU, ST, NS, I0, I1, I2, BO, FI, RG, GU, PU, MA, MN, MS, OT, SC], [192, 256, 384, 320, w, r5, 576, 640, 704], Lg)) o from ev_sw [((0 : Int32), 56), ((1 : Int32), 69), ((2 : Int32), 82), ((3 : Int32), 92)] p2 (fun tt => (d + 4, 0, 0, 300, tt, [.val (.ref 64), .val (.int p1), .val (.int p2)], [], (126, 120, L, [Y_5, T, H, H2, RV, RU, ST, NS, I0, I1, I2, BO, FI, RG, GU, PU, MA, MN, MS, OT, SC], [192, 256, 384, 320, w, r5, 576, 640, 704], Lg))) 109 82 2 (fun f => by simp only [a_sw, if_neg zc9, if_neg zc14, if_pos zc19]) e (fun n => Eq.refl _)
          suffices e : Ev (d + 4, 0, 0, 300, 86, [.val (.ref 64), .val (.int p1), .val (.int p2)], [.ref 192], (126, 120, L, [Y_5, T, H, H2, RV, RU, ST, NS, I0, I1, I2, BO, FI, RG, GU, PU, MA, MN, MS, OT, SC], [192, 256, 384, 320, w, r5, 576, 640, 704], Lg)) o from ev_b 2 e (fun n => Eq.refl _)
          obtain ⟨x10, zh20, h⟩ := bnd h
          have zh20 : rdx (H 12) 4 p1 = some x10 := zh20
          suffices e : Ev (d + 4, 0, 0, 300, 91, [.val (.ref 64), .val (.int p1), .val (.int p2)], [.int x10], (126, 120, L, [Y_5, T, H, H2, RV, RU, ST, NS, I0, I1, I2, BO, FI, RG, GU, PU, MA, MN, MS, OT, SC], [192, 256, 384, 320, w, r5, 576, 640, 704], Lg)) o from ev_opt (fun x10 => (d + 4, 0, 0, 300, 91, [.val (.ref 64), .val (.int p1), .val (.int p2)], [.int x10], (126, 120, L, [Y_5, T, H, H2, RV, RU, ST, NS, I0, I1, I2, BO, FI, RG, GU, PU, MA, MN, MS, OT, SC], [192, 256, 384, 320, w, r5, 576, 640, 704], Lg))) 3 zh20 e (fun n => Eq.refl _)
          have ze21 := Option.some.inj h
          subst ze21
          exact ev_rete 1 ho (fun n => Eq.refl _)
        have h := itn h zc19
        by_cases zc22 : p2 = 3
        · have h := itp h zc22
          suffices e : Ev (d + 4, 0, 0, 300, 92, [.val (.ref 64), .val (.int p1), .val (.int p2)], [], (126, 120, L, [Y_5, T, H, H2, RV, RU, ST, NS, I0, I1, I2, BO, FI, RG, GU, PU, MA, MN, MS, OT, SC], [192, 256, 384, 320, w, r5, 576, 640, 704], Lg)) o from ev_sw [((0 : Int32), 56), ((1 : Int32), 69), ((2 : Int32), 82), ((3 : Int32), 92)] p2 (fun tt => (d + 4, 0, 0, 300, tt, [.val (.ref 64), .val (.int p1), .val (.int p2)], [], (126, 120, L, [Y_5, T, H, H2, RV, RU, ST, NS, I0, I1, I2, BO, FI, RG, GU, PU, MA, MN, MS, OT, SC], [192, 256, 384, 320, w, r5, 576, 640, 704], Lg))) 109 92 2 (fun f => by simp only [a_sw, if_neg zc9, if_neg zc14, if_neg zc19, if_pos zc22]) e (fun n => Eq.refl _)
          obtain ⟨x11, zh23, h⟩ := bnd h
          have zh23 : f_State_isHeld NS p1 = some x11 := zh23
          have ze24 := R_f_State_isHeld_0 (d + 3) Y_5 T H H2 RV RU ST NS I0 I1 I2 BO FI RG GU PU MA MN MS OT SC 192 256 384 320 w r5 576 640 704 L Lg p1 zh23
          suffices e : Ev (d + 4, 0, 0, 300, 100, [.val (.ref 64), .val (.int p1), .val (.int p2)], [.int x11], (126, 120, L, [Y_5, T, H, H2, RV, RU, ST, NS, I0, I1, I2, BO, FI, RG, GU, PU, MA, MN, MS, OT, SC], [192, 256, 384, 320, w, r5, 576, 640, 704], Lg)) o from ev_call (fun v μ => (d + 4, 0, 0, 300, 100, [.val (.ref 64), .val (.int p1), .val (.int p2)], v.toList ++ [], μ)) 4 ze24 e (fun n => Eq.refl _)
          by_cases zc25 : x11 = 0
          · have h := itp h zc25
            suffices e : Ev (d + 4, 0, 0, 300, 107, [.val (.ref 64), .val (.int p1), .val (.int p2)], [], (126, 120, L, [Y_5, T, H, H2, RV, RU, ST, NS, I0, I1, I2, BO, FI, RG, GU, PU, MA, MN, MS, OT, SC], [192, 256, 384, 320, w, r5, 576, 640, 704], Lg)) o from ev_t (c := x11 = 0) _ _ 1  zc25 e (fun n => Eq.refl _)
            have ze26 := Option.some.inj h
            subst ze26
            exact ev_rete 2 ho (fun n => Eq.refl _)
          · have h := itn h zc25
            suffices e : Ev (d + 4, 0, 0, 300, 103, [.val (.ref 64), .val (.int p1), .val (.int p2)], [], (126, 120, L, [Y_5, T, H, H2, RV, RU, ST, NS, I0, I1, I2, BO, FI, RG, GU, PU, MA, MN, MS, OT, SC], [192, 256, 384, 320, w, r5, 576, 640, 704], Lg)) o from ev_f (c := x11 = 0) _ _ 1  zc25 e (fun n => Eq.refl _)
            have ze27 := Option.some.inj h
            subst ze27
            exact ev_rete 3 ho (fun n => Eq.refl _)
        have h := itn h zc22
        suffices e : Ev (d + 4, 0, 0, 300, 109, [.val (.ref 64), .val (.int p1), .val (.int p2)], [], (126, 120, L, [Y_5, T, H, H2, RV, RU, ST, NS, I0, I1, I2, BO, FI, RG, GU, PU, MA, MN, MS, OT, SC], [192, 256, 384, 320, w, r5, 576, 640, 704], Lg)) o from ev_sw [((0 : Int32), 56), ((1 : Int32), 69), ((2 : Int32), 82), ((3 : Int32), 92)] p2 (fun tt => (d + 4, 0, 0, 300, tt, [.val (.ref 64), .val (.int p1), .val (.int p2)], [], (126, 120, L, [Y_5, T, H, H2, RV, RU, ST, NS, I0, I1, I2, BO, FI, RG, GU, PU, MA, MN, MS, OT, SC], [192, 256, 384, 320, w, r5, 576, 640, 704], Lg))) 109 109 2 (fun f => by simp only [a_sw, if_neg zc9, if_neg zc14, if_neg zc19, if_neg zc22]) e (fun n => Eq.refl _)
        suffices e : Ev (d + 4, 0, 0, 300, 114, [.val (.ref 64), .val (.int p1), .val (.int p2)], [.ref 192, .ref 64], (126, 120, L, [Y_5, T, H, H2, RV, RU, ST, NS, I0, I1, I2, BO, FI, RG, GU, PU, MA, MN, MS, OT, SC], [192, 256, 384, 320, w, r5, 576, 640, 704], Lg)) o from ev_b 3 e (fun n => Eq.refl _)
        obtain ⟨x12, zh28, h⟩ := bnd h
        have zh28 : rdx (H 11) 4 p1 = some x12 := zh28
        suffices e : Ev (d + 4, 0, 0, 300, 119, [.val (.ref 64), .val (.int p1), .val (.int p2)], [.int x12, .ref 64], (126, 120, L, [Y_5, T, H, H2, RV, RU, ST, NS, I0, I1, I2, BO, FI, RG, GU, PU, MA, MN, MS, OT, SC], [192, 256, 384, 320, w, r5, 576, 640, 704], Lg)) o from ev_opt (fun x12 => (d + 4, 0, 0, 300, 119, [.val (.ref 64), .val (.int p1), .val (.int p2)], [.int x12, .ref 64], (126, 120, L, [Y_5, T, H, H2, RV, RU, ST, NS, I0, I1, I2, BO, FI, RG, GU, PU, MA, MN, MS, OT, SC], [192, 256, 384, 320, w, r5, 576, 640, 704], Lg))) 3 zh28 e (fun n => Eq.refl _)
        obtain ⟨⟨x13, BO_14⟩, zh29, h⟩ := bnd h
        have zh29 : f_Y_wouldTake H NS BO x12 = some (x13, BO_14) := zh29
        have ze30 := R_f_Y_wouldTake_1 (d + 0) Y_5 T H H2 RV RU ST NS I0 I1 I2 BO FI RG GU PU MA MN MS OT SC w r5 L Lg x12 zh29
        suffices e : Ev (d + 4, 0, 0, 300, 122, [.val (.ref 64), .val (.int p1), .val (.int p2)], [.int x13], (126, 120, L, [Y_5, T, H, H2, RV, RU, ST, NS, I0, I1, I2, BO_14, FI, RG, GU, PU, MA, MN, MS, OT, SC], [192, 256, 384, 320, w, 192, 576, 640, 704], Lg)) o from ev_call (fun v μ => (d + 4, 0, 0, 300, 122, [.val (.ref 64), .val (.int p1), .val (.int p2)], v.toList ++ [], μ)) 1 ze30 e (fun n => Eq.refl _)
        have ze31 := Option.some.inj h
        subst ze31
        exact ev_rete 1 ho (fun n => Eq.refl _)
      | succ q4 =>
        have h := itn h (Nat.succ_ne_zero q4)
        have ze32 := Option.some.inj h
        subst ze32
        subst ho
        exact ev_thr (fun v μ => (d + 4, 0, 0, 300, 23, [.val (.ref 64), .val (.int p1), .val (.int p2)], v.toList ++ [], μ)) 1 ze8 (fun n => Eq.refl _) (fun n => rfl)
    obtain ⟨zt33, zh34, zh4⟩ := bnd zh4
    have zj35 : zt33 = .inl () → Ev (d + 4, 1, 8, 300, 19, [.val (.ref 64), .val (.int p1), .val (.int p2)], [.ref 64], (126, 120, L, [Y_2, T, H, H2, RV, RU, ST, NS, I0, I1, I2, BO, FI, RG, GU, PU, MA, MN, MS, OT, SC], [192, 256, 384, 320, w, r5, 576, 640, 704], Lg)) o := by
      intro ze36
      have zh4 := sum_l zh4 ze36
      exact ev_b 1 (zj5 0 (Option.some.inj zh4) ) (fun n => Eq.refl _)
    by_cases zc37 : p2 < 0
    · have zh34 := itp zh34 zc37
      suffices e : Ev (d + 4, 1, 8, 300, 19, [.val (.ref 64), .val (.int p1), .val (.int p2)], [.ref 64], (126, 120, L, [Y_2, T, H, H2, RV, RU, ST, NS, I0, I1, I2, BO, FI, RG, GU, PU, MA, MN, MS, OT, SC], [192, 256, 384, 320, w, r5, 576, 640, 704], Lg)) o from ev_t (c := p2 < 0) _ _ 3  zc37 e (fun n => Eq.refl _)
      exact ev_b 0 (zj35  (Option.some.inj zh34).symm ) (fun n => Eq.refl _)
    · have zh34 := itn zh34 zc37
      suffices e : Ev (d + 4, 1, 8, 300, 10, [.val (.ref 64), .val (.int p1), .val (.int p2)], [.ref 64], (126, 120, L, [Y_2, T, H, H2, RV, RU, ST, NS, I0, I1, I2, BO, FI, RG, GU, PU, MA, MN, MS, OT, SC], [192, 256, 384, 320, w, r5, 576, 640, 704], Lg)) o from ev_f (c := p2 < 0) _ _ 3  zc37 e (fun n => Eq.refl _)
      by_cases zc38 : 4 < p2
      · have zh34 := itp zh34 zc38
        suffices e : Ev (d + 4, 1, 8, 300, 19, [.val (.ref 64), .val (.int p1), .val (.int p2)], [.ref 64], (126, 120, L, [Y_2, T, H, H2, RV, RU, ST, NS, I0, I1, I2, BO, FI, RG, GU, PU, MA, MN, MS, OT, SC], [192, 256, 384, 320, w, r5, 576, 640, 704], Lg)) o from ev_t (c := 4 < p2) _ _ 3  zc38 e (fun n => Eq.refl _)
        exact ev_b 0 (zj35  (Option.some.inj zh34).symm ) (fun n => Eq.refl _)
      · have zh34 := itn zh34 zc38
        suffices e : Ev (d + 4, 1, 8, 300, 15, [.val (.ref 64), .val (.int p1), .val (.int p2)], [.ref 64], (126, 120, L, [Y_2, T, H, H2, RV, RU, ST, NS, I0, I1, I2, BO, FI, RG, GU, PU, MA, MN, MS, OT, SC], [192, 256, 384, 320, w, r5, 576, 640, 704], Lg)) o from ev_f (c := 4 < p2) _ _ 3  zc38 e (fun n => Eq.refl _)
        have zh39 := sum_r zh4 (Option.some.inj zh34).symm
        exact ev_b 2 (zj5 1 (Option.some.inj zh39) ) (fun n => Eq.refl _)
  | succ q1 =>
    have h := itn h (Nat.succ_ne_zero q1)
    have ze40 := Option.some.inj h
    subst ze40
    subst ho
    exact ev_thr (fun v μ => (d + 4, 1, 8, 300, 5, [.val (.ref 64), .val (.int p1), .val (.int p2)], v.toList ++ [], μ)) 3 ze2 (fun n => Eq.refl _) (fun n => rfl)
set_option maxRecDepth 1000000 in
set_option maxHeartbeats 4000000 in
theorem R_f_Y_wouldTake_2 (d : Nat) (Y T H2 H RU RV ST NS I0 I1 I2 BO FI RG GU PU MA MN MS OT SC : Nat → Nat → Int32) (w r5 : Nat) (L : Nat) (Lg : Int64) (p1 : Int32) {r : Int32 × (Nat → Nat → Int32)} (h : f_Y_wouldTake H NS BO p1 = some r) : Ev (d + 3, 0, 0, 344, 0, [.val (.ref 64), .val (.int p1), .val a_unk, .val a_unk, .val a_unk], [], (126, 120, L, [Y, T, H2, H, RU, RV, ST, NS, I0, I1, I2, BO, FI, RG, GU, PU, MA, MN, MS, OT, SC], [256, 192, 320, 384, w, r5, 576, 640, 704], Lg)) ((0, some (.int r.1), (126, 120, L, [Y, T, H2, H, RU, RV, ST, NS, I0, I1, I2, r.2, FI, RG, GU, PU, MA, MN, MS, OT, SC], [256, 192, 320, 384, w, 256, 576, 640, 704], Lg)) : AOut) := by
  suffices key : ∀ o : AOut, ((0, some (.int r.1), (126, 120, L, [Y, T, H2, H, RU, RV, ST, NS, I0, I1, I2, r.2, FI, RG, GU, PU, MA, MN, MS, OT, SC], [256, 192, 320, 384, w, 256, 576, 640, 704], Lg)) : AOut) = o → Ev (d + 3, 0, 0, 344, 0, [.val (.ref 64), .val (.int p1), .val a_unk, .val a_unk, .val a_unk], [], (126, 120, L, [Y, T, H2, H, RU, RV, ST, NS, I0, I1, I2, BO, FI, RG, GU, PU, MA, MN, MS, OT, SC], [256, 192, 320, 384, w, r5, 576, 640, 704], Lg)) o from key _ rfl
  intro o ho
  obtain ⟨BO_2, zh1, h⟩ := bnd h
  have zh1 : f_Y_lookNow H NS BO = some BO_2 := zh1
  have ze2 := R_f_Y_lookNow_2 (d + 0) Y T H2 H RU RV ST NS I0 I1 I2 BO FI RG GU PU MA MN MS OT SC w r5 L Lg zh1
  suffices e : Ev (d + 3, 0, 0, 344, 4, [.val (.ref 64), .val (.int p1), .val a_unk, .val a_unk, .val a_unk], [.ref 768], (126, 120, L, [Y, T, H2, H, RU, RV, ST, NS, I0, I1, I2, BO_2, FI, RG, GU, PU, MA, MN, MS, OT, SC], [256, 192, 320, 384, w, 256, 576, 640, 704], Lg)) o from ev_call (fun v μ => (d + 3, 0, 0, 344, 4, [.val (.ref 64), .val (.int p1), .val a_unk, .val a_unk, .val a_unk], v.toList ++ [], μ)) 2 ze2 e (fun n => Eq.refl _)
  obtain ⟨v7, zh4, h⟩ := bnd h
  suffices e : Ev (d + 3, 0, 0, 344, 10, [.val (.ref 64), .val (.int p1), .val (.ref 768), .val (.int 0), .val (.int 0)], [], (126, 120, L, [Y, T, H2, H, RU, RV, ST, NS, I0, I1, I2, BO_2, FI, RG, GU, PU, MA, MN, MS, OT, SC], [256, 192, 320, 384, w, 256, 576, 640, 704], Lg)) o from ev_b 5 e (fun n => Eq.refl _)
  refine ev_loop (δ := Unit) (fun a j => (d + 3, 0, 0, 344, 10, [.val (.ref 64), .val (.int p1), .val (.ref 768), .val (.int a.1), .val (.int a.2)], [], (126, 120, L, [Y, T, H2, H, RU, RV, ST, NS, I0, I1, I2, BO_2, FI, RG, GU, PU, MA, MN, MS, OT, SC], [256, 192, 320, 384, w, 256, 576, 640, 704], Lg))) (fun b => ∀ s8 : Value, Ev (d + 3, 0, 0, 344, 55, [.val (.ref 64), .val (.int p1), .val (.ref 768), .val (.int b), .val s8], [], (126, 120, L, [Y, T, H2, H, RU, RV, ST, NS, I0, I1, I2, BO_2, FI, RG, GU, PU, MA, MN, MS, OT, SC], [256, 192, 320, 384, w, 256, 576, 640, 704], Lg)) o) ?_ a_F (0, 0) v7 zh4 ?_ ()
  · rintro ⟨v3, v4⟩ zr8 zh7 zi5 zx6 ⟨⟩
    have zh7 : f_Y_wouldTake_l10 H BO_2 p1 v3 v4 = some zr8 := zh7
    suffices e : Ev (d + 3, 0, 0, 344, 16, [.val (.ref 64), .val (.int p1), .val (.ref 768), .val (.int v3), .val (.int v4)], [.ref 256, .int v4], (126, 120, L, [Y, T, H2, H, RU, RV, ST, NS, I0, I1, I2, BO_2, FI, RG, GU, PU, MA, MN, MS, OT, SC], [256, 192, 320, 384, w, 256, 576, 640, 704], Lg)) o from ev_b 3 e (fun n => Eq.refl _)
    by_cases zc9 : (H 0 3) ≤ v4
    · have zh7 := itp zh7 zc9
      suffices e : Ev (d + 3, 0, 0, 344, 55, [.val (.ref 64), .val (.int p1), .val (.ref 768), .val (.int v3), .val (.int v4)], [], (126, 120, L, [Y, T, H2, H, RU, RV, ST, NS, I0, I1, I2, BO_2, FI, RG, GU, PU, MA, MN, MS, OT, SC], [256, 192, 320, 384, w, 256, 576, 640, 704], Lg)) o from ev_t (c := (H 0 3) ≤ v4) _ _ 2  zc9 e (fun n => Eq.refl _)
      exact ev_b 0 (zx6 _ (Option.some.inj zh7).symm (.int v4)) (fun n => Eq.refl _)
    · have zh7 := itn zh7 zc9
      suffices e : Ev (d + 3, 0, 0, 344, 22, [.val (.ref 64), .val (.int p1), .val (.ref 768), .val (.int v3), .val (.int v4)], [], (126, 120, L, [Y, T, H2, H, RU, RV, ST, NS, I0, I1, I2, BO_2, FI, RG, GU, PU, MA, MN, MS, OT, SC], [256, 192, 320, 384, w, 256, 576, 640, 704], Lg)) o from ev_f (c := (H 0 3) ≤ v4) _ _ 2  zc9 e (fun n => Eq.refl _)
      obtain ⟨x5, zh10, zh7⟩ := bnd zh7
      have zh10 : rdx (BO_2 1) 10 v4 = some x5 := zh10
      suffices e : Ev (d + 3, 0, 0, 344, 29, [.val (.ref 64), .val (.int p1), .val (.ref 768), .val (.int v3), .val (.int v4)], [.int x5], (126, 120, L, [Y, T, H2, H, RU, RV, ST, NS, I0, I1, I2, BO_2, FI, RG, GU, PU, MA, MN, MS, OT, SC], [256, 192, 320, 384, w, 256, 576, 640, 704], Lg)) o from ev_opt (fun x5 => (d + 3, 0, 0, 344, 29, [.val (.ref 64), .val (.int p1), .val (.ref 768), .val (.int v3), .val (.int v4)], [.int x5], (126, 120, L, [Y, T, H2, H, RU, RV, ST, NS, I0, I1, I2, BO_2, FI, RG, GU, PU, MA, MN, MS, OT, SC], [256, 192, 320, 384, w, 256, 576, 640, 704], Lg))) 4 zh10 e (fun n => Eq.refl _)
      by_cases zc11 : x5 ≠ (-1)
      · have zh7 := itp zh7 zc11
        suffices e : Ev (d + 3, 0, 0, 344, 49, [.val (.ref 64), .val (.int p1), .val (.ref 768), .val (.int v3), .val (.int v4)], [], (126, 120, L, [Y, T, H2, H, RU, RV, ST, NS, I0, I1, I2, BO_2, FI, RG, GU, PU, MA, MN, MS, OT, SC], [256, 192, 320, 384, w, 256, 576, 640, 704], Lg)) o from ev_t (c := x5 ≠ (-1)) _ _ 2  zc11 e (fun n => Eq.refl _)
        exact ev_b 2 (zi5 _ (Option.some.inj zh7).symm ()) (fun n => Eq.refl _)
      · have zh7 := itn zh7 zc11
        suffices e : Ev (d + 3, 0, 0, 344, 33, [.val (.ref 64), .val (.int p1), .val (.ref 768), .val (.int v3), .val (.int v4)], [], (126, 120, L, [Y, T, H2, H, RU, RV, ST, NS, I0, I1, I2, BO_2, FI, RG, GU, PU, MA, MN, MS, OT, SC], [256, 192, 320, 384, w, 256, 576, 640, 704], Lg)) o from ev_f (c := x5 ≠ (-1)) _ _ 2  zc11 e (fun n => Eq.refl _)
        obtain ⟨x6, zh12, zh7⟩ := bnd zh7
        have zh12 : f_Board_clashes H BO_2 v4 p1 = some x6 := zh12
        have ze13 := R_f_Board_clashes_1 (d + 0) Y T H2 H RU RV ST NS I0 I1 I2 BO_2 FI RG GU PU MA MN MS OT SC 256 192 320 384 w 576 640 704 L Lg v4 p1 zh12
        suffices e : Ev (d + 3, 0, 0, 344, 40, [.val (.ref 64), .val (.int p1), .val (.ref 768), .val (.int v3), .val (.int v4)], [.int x6], (126, 120, L, [Y, T, H2, H, RU, RV, ST, NS, I0, I1, I2, BO_2, FI, RG, GU, PU, MA, MN, MS, OT, SC], [256, 192, 320, 384, w, 256, 576, 640, 704], Lg)) o from ev_call (fun v μ => (d + 3, 0, 0, 344, 40, [.val (.ref 64), .val (.int p1), .val (.ref 768), .val (.int v3), .val (.int v4)], v.toList ++ [], μ)) 4 ze13 e (fun n => Eq.refl _)
        by_cases zc14 : (x6 &&& (-9)) ≠ 0
        · have zh7 := itp zh7 zc14
          suffices e : Ev (d + 3, 0, 0, 344, 49, [.val (.ref 64), .val (.int p1), .val (.ref 768), .val (.int v3), .val (.int v4)], [], (126, 120, L, [Y, T, H2, H, RU, RV, ST, NS, I0, I1, I2, BO_2, FI, RG, GU, PU, MA, MN, MS, OT, SC], [256, 192, 320, 384, w, 256, 576, 640, 704], Lg)) o from ev_t (c := (x6 &&& (-9)) ≠ 0) _ _ 3  zc14 e (fun n => Eq.refl _)
          exact ev_b 2 (zi5 _ (Option.some.inj zh7).symm ()) (fun n => Eq.refl _)
        · have zh7 := itn zh7 zc14
          suffices e : Ev (d + 3, 0, 0, 344, 46, [.val (.ref 64), .val (.int p1), .val (.ref 768), .val (.int v3), .val (.int v4)], [], (126, 120, L, [Y, T, H2, H, RU, RV, ST, NS, I0, I1, I2, BO_2, FI, RG, GU, PU, MA, MN, MS, OT, SC], [256, 192, 320, 384, w, 256, 576, 640, 704], Lg)) o from ev_f (c := (x6 &&& (-9)) ≠ 0) _ _ 3  zc14 e (fun n => Eq.refl _)
          exact ev_b 3 (zi5 _ (Option.some.inj zh7).symm ()) (fun n => Eq.refl _)
  · skip
    intro s8
    have ze15 := Option.some.inj h
    subst ze15
    exact ev_rete 2 ho (fun n => Eq.refl _)
set_option maxRecDepth 1000000 in
set_option maxHeartbeats 4000000 in
theorem R_f_Y_hold_2 (d : Nat) (Y T H2 H RU RV ST NS I0 I1 I2 BO FI RG GU PU MA MN MS OT SC : Nat → Nat → Int32) (w r5 : Nat) (L : Nat) (Lg : Int64) (p1 : Int32) (p2 : Int32) {r : Nat × Int32 × (Nat → Nat → Int32) × (Nat → Nat → Int32) × Nat} (h : f_Y_hold Y H NS BO r5 256 p1 p2 = some r) : Ev (d + 4, 2, 16, 300, 0, [.val (.ref 64), .val (.int p1), .val (.int p2)], [], (126, 120, L, [Y, T, H2, H, RU, RV, ST, NS, I0, I1, I2, BO, FI, RG, GU, PU, MA, MN, MS, OT, SC], [256, 192, 320, 384, w, r5, 576, 640, 704], Lg)) ((r.1, a_ov r.1 (.int r.2.1), (126, 120, L, [r.2.2.1, T, H2, H, RU, RV, ST, NS, I0, I1, I2, r.2.2.2.1, FI, RG, GU, PU, MA, MN, MS, OT, SC], [256, 192, 320, 384, w, r.2.2.2.2, 576, 640, 704], Lg)) : AOut) := by
  suffices key : ∀ o : AOut, ((r.1, a_ov r.1 (.int r.2.1), (126, 120, L, [r.2.2.1, T, H2, H, RU, RV, ST, NS, I0, I1, I2, r.2.2.2.1, FI, RG, GU, PU, MA, MN, MS, OT, SC], [256, 192, 320, 384, w, r.2.2.2.2, 576, 640, 704], Lg)) : AOut) = o → Ev (d + 4, 2, 16, 300, 0, [.val (.ref 64), .val (.int p1), .val (.int p2)], [], (126, 120, L, [Y, T, H2, H, RU, RV, ST, NS, I0, I1, I2, BO, FI, RG, GU, PU, MA, MN, MS, OT, SC], [256, 192, 320, 384, w, r5, 576, 640, 704], Lg)) o from key _ rfl
  intro o ho
  obtain ⟨⟨q1, Y_2⟩, zh1, h⟩ := bnd h
  have zh1 : f_Y_needHold Y H p1 = some (q1, Y_2) := zh1
  have ze2 := R_f_Y_needHold_2 (d + 2) Y T H2 H RU RV ST NS I0 I1 I2 BO FI RG GU PU MA MN MS OT SC w r5 L Lg p1 zh1
  cases q1 with
  | zero =>
    have h := itp h rfl
    suffices e : Ev (d + 4, 1, 8, 300, 5, [.val (.ref 64), .val (.int p1), .val (.int p2)], [], (126, 120, L, [Y_2, T, H2, H, RU, RV, ST, NS, I0, I1, I2, BO, FI, RG, GU, PU, MA, MN, MS, OT, SC], [256, 192, 320, 384, w, r5, 576, 640, 704], Lg)) o from ev_call (fun v μ => (d + 4, 1, 8, 300, 5, [.val (.ref 64), .val (.int p1), .val (.int p2)], v.toList ++ [], μ)) 3 ze2 e (fun n => Eq.refl _)
    obtain ⟨zt3, zh4, h⟩ := bnd h
    have zj5 : ∀ (v3 : Int32), v3 = zt3 → Ev (d + 4, 1, 8, 300, 20, [.val (.ref 64), .val (.int p1), .val (.int p2)], [.int v3, .ref 64], (126, 120, L, [Y_2, T, H2, H, RU, RV, ST, NS, I0, I1, I2, BO, FI, RG, GU, PU, MA, MN, MS, OT, SC], [256, 192, 320, 384, w, r5, 576, 640, 704], Lg)) o := by
      intro v3 ze6
      subst ze6
      obtain ⟨⟨q4, Y_5⟩, zh7, h⟩ := bnd h
      have zh7 : f_Y_refuseUnless Y_2 v3 = some (q4, Y_5) := zh7
      have ze8 := R_f_Y_refuseUnless_2 (d + 3) Y_2 T H2 H RU RV ST NS I0 I1 I2 BO FI RG GU PU MA MN MS OT SC w r5 L Lg v3 zh7
      cases q4 with
      | zero =>
        have h := itp h rfl
        suffices e : Ev (d + 4, 0, 0, 300, 23, [.val (.ref 64), .val (.int p1), .val (.int p2)], [], (126, 120, L, [Y_5, T, H2, H, RU, RV, ST, NS, I0, I1, I2, BO, FI, RG, GU, PU, MA, MN, MS, OT, SC], [256, 192, 320, 384, w, r5, 576, 640, 704], Lg)) o from ev_call (fun v μ => (d + 4, 0, 0, 300, 23, [.val (.ref 64), .val (.int p1), .val (.int p2)], v.toList ++ [], μ)) 1 ze8 e (fun n => Eq.refl _)
        by_cases zc9 : p2 = 0
        · have h := itp h zc9
          suffices e : Ev (d + 4, 0, 0, 300, 56, [.val (.ref 64), .val (.int p1), .val (.int p2)], [], (126, 120, L, [Y_5, T, H2, H, RU, RV, ST, NS, I0, I1, I2, BO, FI, RG, GU, PU, MA, MN, MS, OT, SC], [256, 192, 320, 384, w, r5, 576, 640, 704], Lg)) o from ev_sw [((0 : Int32), 56), ((1 : Int32), 69), ((2 : Int32), 82), ((3 : Int32), 92)] p2 (fun tt => (d + 4, 0, 0, 300, tt, [.val (.ref 64), .val (.int p1), .val (.int p2)], [], (126, 120, L, [Y_5, T, H2, H, RU, RV, ST, NS, I0, I1, I2, BO, FI, RG, GU, PU, MA, MN, MS, OT, SC], [256, 192, 320, 384, w, r5, 576, 640, 704], Lg))) 109 56 2 (fun f => by simp only [a_sw, if_pos zc9]) e (fun n => Eq.refl _)
          suffices e : Ev (d + 4, 0, 0, 300, 60, [.val (.ref 64), .val (.int p1), .val (.int p2)], [.ref 256], (126, 120, L, [Y_5, T, H2, H, RU, RV, ST, NS, I0, I1, I2, BO, FI, RG, GU, PU, MA, MN, MS, OT, SC], [256, 192, 320, 384, w, r5, 576, 640, 704], Lg)) o from ev_b 2 e (fun n => Eq.refl _)
          obtain ⟨x6, zh10, h⟩ := bnd h
          have zh10 : rdx (H 11) 4 p1 = some x6 := zh10
          suffices e : Ev (d + 4, 0, 0, 300, 65, [.val (.ref 64), .val (.int p1), .val (.int p2)], [.int x6], (126, 120, L, [Y_5, T, H2, H, RU, RV, ST, NS, I0, I1, I2, BO, FI, RG, GU, PU, MA, MN, MS, OT, SC], [256, 192, 320, 384, w, r5, 576, 640, 704], Lg)) o from ev_opt (fun x6 => (d + 4, 0, 0, 300, 65, [.val (.ref 64), .val (.int p1), .val (.int p2)], [.int x6], (126, 120, L, [Y_5, T, H2, H, RU, RV, ST, NS, I0, I1, I2, BO, FI, RG, GU, PU, MA, MN, MS, OT, SC], [256, 192, 320, 384, w, r5, 576, 640, 704], Lg))) 3 zh10 e (fun n => Eq.refl _)
          obtain ⟨x7, zh11, h⟩ := bnd h
          have zh11 : f_Y_hourOf x6 = some x7 := zh11
          have ze12 := R_f_Y_hourOf_0 (d + 3) Y_5 T H2 H RU RV ST NS I0 I1 I2 BO FI RG GU PU MA MN MS OT SC 256 192 320 384 w r5 576 640 704 L Lg x6 zh11
          suffices e : Ev (d + 4, 0, 0, 300, 68, [.val (.ref 64), .val (.int p1), .val (.int p2)], [.int x7], (126, 120, L, [Y_5, T, H2, H, RU, RV, ST, NS, I0, I1, I2, BO, FI, RG, GU, PU, MA, MN, MS, OT, SC], [256, 192, 320, 384, w, r5, 576, 640, 704], Lg)) o from ev_call (fun v μ => (d + 4, 0, 0, 300, 68, [.val (.ref 64), .val (.int p1), .val (.int p2)], v.toList ++ [], μ)) 1 ze12 e (fun n => Eq.refl _)
          have ze13 := Option.some.inj h
          subst ze13
          exact ev_rete 1 ho (fun n => Eq.refl _)
        have h := itn h zc9
        by_cases zc14 : p2 = 1
        · have h := itp h zc14
          suffices e : Ev (d + 4, 0, 0, 300, 69, [.val (.ref 64), .val (.int p1), .val (.int p2)], [], (126, 120, L, [Y_5, T, H2, H, RU, RV, ST, NS, I0, I1, I2, BO, FI, RG, GU, PU, MA, MN, MS, OT, SC], [256, 192, 320, 384, w, r5, 576, 640, 704], Lg)) o from ev_sw [((0 : Int32), 56), ((1 : Int32), 69), ((2 : Int32), 82), ((3 : Int32), 92)] p2 (fun tt => (d + 4, 0, 0, 300, tt, [.val (.ref 64), .val (.int p1), .val (.int p2)], [], (126, 120, L, [Y_5, T, H2, H, RU, RV, ST, NS, I0, I1, I2, BO, FI, RG, GU, PU, MA, MN, MS, OT, SC], [256, 192, 320, 384, w, r5, 576, 640, 704], Lg))) 109 69 2 (fun f => by simp only [a_sw, if_neg zc9, if_pos zc14]) e (fun n => Eq.refl _)
          suffices e : Ev (d + 4, 0, 0, 300, 73, [.val (.ref 64), .val (.int p1), .val (.int p2)], [.ref 256], (126, 120, L, [Y_5, T, H2, H, RU, RV, ST, NS, I0, I1, I2, BO, FI, RG, GU, PU, MA, MN, MS, OT, SC], [256, 192, 320, 384, w, r5, 576, 640, 704], Lg)) o from ev_b 2 e (fun n => Eq.refl _)
          obtain ⟨x8, zh15, h⟩ := bnd h
          have zh15 : rdx (H 11) 4 p1 = some x8 := zh15
          suffices e : Ev (d + 4, 0, 0, 300, 78, [.val (.ref 64), .val (.int p1), .val (.int p2)], [.int x8], (126, 120, L, [Y_5, T, H2, H, RU, RV, ST, NS, I0, I1, I2, BO, FI, RG, GU, PU, MA, MN, MS, OT, SC], [256, 192, 320, 384, w, r5, 576, 640, 704], Lg)) o from ev_opt (fun x8 => (d + 4, 0, 0, 300, 78, [.val (.ref 64), .val (.int p1), .val (.int p2)], [.int x8], (126, 120, L, [Y_5, T, H2, H, RU, RV, ST, NS, I0, I1, I2, BO, FI, RG, GU, PU, MA, MN, MS, OT, SC], [256, 192, 320, 384, w, r5, 576, 640, 704], Lg))) 3 zh15 e (fun n => Eq.refl _)
          obtain ⟨x9, zh16, h⟩ := bnd h
          have zh16 : f_Y_roomOf x8 = some x9 := zh16
          have ze17 := R_f_Y_roomOf_0 (d + 3) Y_5 T H2 H RU RV ST NS I0 I1 I2 BO FI RG GU PU MA MN MS OT SC 256 192 320 384 w r5 576 640 704 L Lg x8 zh16
          suffices e : Ev (d + 4, 0, 0, 300, 81, [.val (.ref 64), .val (.int p1), .val (.int p2)], [.int x9], (126, 120, L, [Y_5, T, H2, H, RU, RV, ST, NS, I0, I1, I2, BO, FI, RG, GU, PU, MA, MN, MS, OT, SC], [256, 192, 320, 384, w, r5, 576, 640, 704], Lg)) o from ev_call (fun v μ => (d + 4, 0, 0, 300, 81, [.val (.ref 64), .val (.int p1), .val (.int p2)], v.toList ++ [], μ)) 1 ze17 e (fun n => Eq.refl _)
          have ze18 := Option.some.inj h
          subst ze18
          exact ev_rete 1 ho (fun n => Eq.refl _)
        have h := itn h zc14
        by_cases zc19 : p2 = 2
        · have h := itp h zc19
          suffices e : Ev (d + 4, 0, 0, 300, 82, [.val (.ref 64), .val (.int p1), .val (.int p2)], [], (126, 120, L, [Y_5, T, H2, H, RU, RV, ST, NS, I0, I1, I2, BO, FI, RG, GU, PU, MA, MN, MS, OT, SC], [256, 192, 320, 384, w, r5, 576, 640, 704], Lg)) o from ev_sw [((0 : Int32), 56), ((1 : Int32), 69), ((2 : Int32), 82), ((3 : Int32), 92)] p2 (fun tt => (d + 4, 0, 0, 300, tt, [.val (.ref 64), .val (.int p1), .val (.int p2)], [], (126, 120, L, [Y_5, T, H2, H, RU, RV, ST, NS, I0, I1, I2, BO, FI, RG, GU, PU, MA, MN, MS, OT, SC], [256, 192, 320, 384, w, r5, 576, 640, 704], Lg))) 109 82 2 (fun f => by simp only [a_sw, if_neg zc9, if_neg zc14, if_pos zc19]) e (fun n => Eq.refl _)
          suffices e : Ev (d + 4, 0, 0, 300, 86, [.val (.ref 64), .val (.int p1), .val (.int p2)], [.ref 256], (126, 120, L, [Y_5, T, H2, H, RU, RV, ST, NS, I0, I1, I2, BO, FI, RG, GU, PU, MA, MN, MS, OT, SC], [256, 192, 320, 384, w, r5, 576, 640, 704], Lg)) o from ev_b 2 e (fun n => Eq.refl _)
          obtain ⟨x10, zh20, h⟩ := bnd h
          have zh20 : rdx (H 12) 4 p1 = some x10 := zh20
          suffices e : Ev (d + 4, 0, 0, 300, 91, [.val (.ref 64), .val (.int p1), .val (.int p2)], [.int x10], (126, 120, L, [Y_5, T, H2, H, RU, RV, ST, NS, I0, I1, I2, BO, FI, RG, GU, PU, MA, MN, MS, OT, SC], [256, 192, 320, 384, w, r5, 576, 640, 704], Lg)) o from ev_opt (fun x10 => (d + 4, 0, 0, 300, 91, [.val (.ref 64), .val (.int p1), .val (.int p2)], [.int x10], (126, 120, L, [Y_5, T, H2, H, RU, RV, ST, NS, I0, I1, I2, BO, FI, RG, GU, PU, MA, MN, MS, OT, SC], [256, 192, 320, 384, w, r5, 576, 640, 704], Lg))) 3 zh20 e (fun n => Eq.refl _)
          have ze21 := Option.some.inj h
          subst ze21
          exact ev_rete 1 ho (fun n => Eq.refl _)
        have h := itn h zc19
        by_cases zc22 : p2 = 3
        · have h := itp h zc22
          suffices e : Ev (d + 4, 0, 0, 300, 92, [.val (.ref 64), .val (.int p1), .val (.int p2)], [], (126, 120, L, [Y_5, T, H2, H, RU, RV, ST, NS, I0, I1, I2, BO, FI, RG, GU, PU, MA, MN, MS, OT, SC], [256, 192, 320, 384, w, r5, 576, 640, 704], Lg)) o from ev_sw [((0 : Int32), 56), ((1 : Int32), 69), ((2 : Int32), 82), ((3 : Int32), 92)] p2 (fun tt => (d + 4, 0, 0, 300, tt, [.val (.ref 64), .val (.int p1), .val (.int p2)], [], (126, 120, L, [Y_5, T, H2, H, RU, RV, ST, NS, I0, I1, I2, BO, FI, RG, GU, PU, MA, MN, MS, OT, SC], [256, 192, 320, 384, w, r5, 576, 640, 704], Lg))) 109 92 2 (fun f => by simp only [a_sw, if_neg zc9, if_neg zc14, if_neg zc19, if_pos zc22]) e (fun n => Eq.refl _)
          obtain ⟨x11, zh23, h⟩ := bnd h
          have zh23 : f_State_isHeld NS p1 = some x11 := zh23
          have ze24 := R_f_State_isHeld_0 (d + 3) Y_5 T H2 H RU RV ST NS I0 I1 I2 BO FI RG GU PU MA MN MS OT SC 256 192 320 384 w r5 576 640 704 L Lg p1 zh23
          suffices e : Ev (d + 4, 0, 0, 300, 100, [.val (.ref 64), .val (.int p1), .val (.int p2)], [.int x11], (126, 120, L, [Y_5, T, H2, H, RU, RV, ST, NS, I0, I1, I2, BO, FI, RG, GU, PU, MA, MN, MS, OT, SC], [256, 192, 320, 384, w, r5, 576, 640, 704], Lg)) o from ev_call (fun v μ => (d + 4, 0, 0, 300, 100, [.val (.ref 64), .val (.int p1), .val (.int p2)], v.toList ++ [], μ)) 4 ze24 e (fun n => Eq.refl _)
          by_cases zc25 : x11 = 0
          · have h := itp h zc25
            suffices e : Ev (d + 4, 0, 0, 300, 107, [.val (.ref 64), .val (.int p1), .val (.int p2)], [], (126, 120, L, [Y_5, T, H2, H, RU, RV, ST, NS, I0, I1, I2, BO, FI, RG, GU, PU, MA, MN, MS, OT, SC], [256, 192, 320, 384, w, r5, 576, 640, 704], Lg)) o from ev_t (c := x11 = 0) _ _ 1  zc25 e (fun n => Eq.refl _)
            have ze26 := Option.some.inj h
            subst ze26
            exact ev_rete 2 ho (fun n => Eq.refl _)
          · have h := itn h zc25
            suffices e : Ev (d + 4, 0, 0, 300, 103, [.val (.ref 64), .val (.int p1), .val (.int p2)], [], (126, 120, L, [Y_5, T, H2, H, RU, RV, ST, NS, I0, I1, I2, BO, FI, RG, GU, PU, MA, MN, MS, OT, SC], [256, 192, 320, 384, w, r5, 576, 640, 704], Lg)) o from ev_f (c := x11 = 0) _ _ 1  zc25 e (fun n => Eq.refl _)
            have ze27 := Option.some.inj h
            subst ze27
            exact ev_rete 3 ho (fun n => Eq.refl _)
        have h := itn h zc22
        suffices e : Ev (d + 4, 0, 0, 300, 109, [.val (.ref 64), .val (.int p1), .val (.int p2)], [], (126, 120, L, [Y_5, T, H2, H, RU, RV, ST, NS, I0, I1, I2, BO, FI, RG, GU, PU, MA, MN, MS, OT, SC], [256, 192, 320, 384, w, r5, 576, 640, 704], Lg)) o from ev_sw [((0 : Int32), 56), ((1 : Int32), 69), ((2 : Int32), 82), ((3 : Int32), 92)] p2 (fun tt => (d + 4, 0, 0, 300, tt, [.val (.ref 64), .val (.int p1), .val (.int p2)], [], (126, 120, L, [Y_5, T, H2, H, RU, RV, ST, NS, I0, I1, I2, BO, FI, RG, GU, PU, MA, MN, MS, OT, SC], [256, 192, 320, 384, w, r5, 576, 640, 704], Lg))) 109 109 2 (fun f => by simp only [a_sw, if_neg zc9, if_neg zc14, if_neg zc19, if_neg zc22]) e (fun n => Eq.refl _)
        suffices e : Ev (d + 4, 0, 0, 300, 114, [.val (.ref 64), .val (.int p1), .val (.int p2)], [.ref 256, .ref 64], (126, 120, L, [Y_5, T, H2, H, RU, RV, ST, NS, I0, I1, I2, BO, FI, RG, GU, PU, MA, MN, MS, OT, SC], [256, 192, 320, 384, w, r5, 576, 640, 704], Lg)) o from ev_b 3 e (fun n => Eq.refl _)
        obtain ⟨x12, zh28, h⟩ := bnd h
        have zh28 : rdx (H 11) 4 p1 = some x12 := zh28
        suffices e : Ev (d + 4, 0, 0, 300, 119, [.val (.ref 64), .val (.int p1), .val (.int p2)], [.int x12, .ref 64], (126, 120, L, [Y_5, T, H2, H, RU, RV, ST, NS, I0, I1, I2, BO, FI, RG, GU, PU, MA, MN, MS, OT, SC], [256, 192, 320, 384, w, r5, 576, 640, 704], Lg)) o from ev_opt (fun x12 => (d + 4, 0, 0, 300, 119, [.val (.ref 64), .val (.int p1), .val (.int p2)], [.int x12, .ref 64], (126, 120, L, [Y_5, T, H2, H, RU, RV, ST, NS, I0, I1, I2, BO, FI, RG, GU, PU, MA, MN, MS, OT, SC], [256, 192, 320, 384, w, r5, 576, 640, 704], Lg))) 3 zh28 e (fun n => Eq.refl _)
        obtain ⟨⟨x13, BO_14⟩, zh29, h⟩ := bnd h
        have zh29 : f_Y_wouldTake H NS BO x12 = some (x13, BO_14) := zh29
        have ze30 := R_f_Y_wouldTake_2 (d + 0) Y_5 T H2 H RU RV ST NS I0 I1 I2 BO FI RG GU PU MA MN MS OT SC w r5 L Lg x12 zh29
        suffices e : Ev (d + 4, 0, 0, 300, 122, [.val (.ref 64), .val (.int p1), .val (.int p2)], [.int x13], (126, 120, L, [Y_5, T, H2, H, RU, RV, ST, NS, I0, I1, I2, BO_14, FI, RG, GU, PU, MA, MN, MS, OT, SC], [256, 192, 320, 384, w, 256, 576, 640, 704], Lg)) o from ev_call (fun v μ => (d + 4, 0, 0, 300, 122, [.val (.ref 64), .val (.int p1), .val (.int p2)], v.toList ++ [], μ)) 1 ze30 e (fun n => Eq.refl _)
        have ze31 := Option.some.inj h
        subst ze31
        exact ev_rete 1 ho (fun n => Eq.refl _)
      | succ q4 =>
        have h := itn h (Nat.succ_ne_zero q4)
        have ze32 := Option.some.inj h
        subst ze32
        subst ho
        exact ev_thr (fun v μ => (d + 4, 0, 0, 300, 23, [.val (.ref 64), .val (.int p1), .val (.int p2)], v.toList ++ [], μ)) 1 ze8 (fun n => Eq.refl _) (fun n => rfl)
    obtain ⟨zt33, zh34, zh4⟩ := bnd zh4
    have zj35 : zt33 = .inl () → Ev (d + 4, 1, 8, 300, 19, [.val (.ref 64), .val (.int p1), .val (.int p2)], [.ref 64], (126, 120, L, [Y_2, T, H2, H, RU, RV, ST, NS, I0, I1, I2, BO, FI, RG, GU, PU, MA, MN, MS, OT, SC], [256, 192, 320, 384, w, r5, 576, 640, 704], Lg)) o := by
      intro ze36
      have zh4 := sum_l zh4 ze36
      exact ev_b 1 (zj5 0 (Option.some.inj zh4) ) (fun n => Eq.refl _)
    by_cases zc37 : p2 < 0
    · have zh34 := itp zh34 zc37
      suffices e : Ev (d + 4, 1, 8, 300, 19, [.val (.ref 64), .val (.int p1), .val (.int p2)], [.ref 64], (126, 120, L, [Y_2, T, H2, H, RU, RV, ST, NS, I0, I1, I2, BO, FI, RG, GU, PU, MA, MN, MS, OT, SC], [256, 192, 320, 384, w, r5, 576, 640, 704], Lg)) o from ev_t (c := p2 < 0) _ _ 3  zc37 e (fun n => Eq.refl _)
      exact ev_b 0 (zj35  (Option.some.inj zh34).symm ) (fun n => Eq.refl _)
    · have zh34 := itn zh34 zc37
      suffices e : Ev (d + 4, 1, 8, 300, 10, [.val (.ref 64), .val (.int p1), .val (.int p2)], [.ref 64], (126, 120, L, [Y_2, T, H2, H, RU, RV, ST, NS, I0, I1, I2, BO, FI, RG, GU, PU, MA, MN, MS, OT, SC], [256, 192, 320, 384, w, r5, 576, 640, 704], Lg)) o from ev_f (c := p2 < 0) _ _ 3  zc37 e (fun n => Eq.refl _)
      by_cases zc38 : 4 < p2
      · have zh34 := itp zh34 zc38
        suffices e : Ev (d + 4, 1, 8, 300, 19, [.val (.ref 64), .val (.int p1), .val (.int p2)], [.ref 64], (126, 120, L, [Y_2, T, H2, H, RU, RV, ST, NS, I0, I1, I2, BO, FI, RG, GU, PU, MA, MN, MS, OT, SC], [256, 192, 320, 384, w, r5, 576, 640, 704], Lg)) o from ev_t (c := 4 < p2) _ _ 3  zc38 e (fun n => Eq.refl _)
        exact ev_b 0 (zj35  (Option.some.inj zh34).symm ) (fun n => Eq.refl _)
      · have zh34 := itn zh34 zc38
        suffices e : Ev (d + 4, 1, 8, 300, 15, [.val (.ref 64), .val (.int p1), .val (.int p2)], [.ref 64], (126, 120, L, [Y_2, T, H2, H, RU, RV, ST, NS, I0, I1, I2, BO, FI, RG, GU, PU, MA, MN, MS, OT, SC], [256, 192, 320, 384, w, r5, 576, 640, 704], Lg)) o from ev_f (c := 4 < p2) _ _ 3  zc38 e (fun n => Eq.refl _)
        have zh39 := sum_r zh4 (Option.some.inj zh34).symm
        exact ev_b 2 (zj5 1 (Option.some.inj zh39) ) (fun n => Eq.refl _)
  | succ q1 =>
    have h := itn h (Nat.succ_ne_zero q1)
    have ze40 := Option.some.inj h
    subst ze40
    subst ho
    exact ev_thr (fun v μ => (d + 4, 1, 8, 300, 5, [.val (.ref 64), .val (.int p1), .val (.int p2)], v.toList ++ [], μ)) 3 ze2 (fun n => Eq.refl _) (fun n => rfl)
set_option maxRecDepth 1000000 in
set_option maxHeartbeats 4000000 in
theorem R_f_Y_wouldTake_3 (d : Nat) (Y T H2 H RV RU ST NS I0 I1 I2 BO FI RG GU PU MA MN MS OT SC : Nat → Nat → Int32) (w r5 : Nat) (L : Nat) (Lg : Int64) (p1 : Int32) {r : Int32 × (Nat → Nat → Int32)} (h : f_Y_wouldTake H NS BO p1 = some r) : Ev (d + 3, 0, 0, 344, 0, [.val (.ref 64), .val (.int p1), .val a_unk, .val a_unk, .val a_unk], [], (126, 120, L, [Y, T, H2, H, RV, RU, ST, NS, I0, I1, I2, BO, FI, RG, GU, PU, MA, MN, MS, OT, SC], [256, 192, 384, 320, w, r5, 576, 640, 704], Lg)) ((0, some (.int r.1), (126, 120, L, [Y, T, H2, H, RV, RU, ST, NS, I0, I1, I2, r.2, FI, RG, GU, PU, MA, MN, MS, OT, SC], [256, 192, 384, 320, w, 256, 576, 640, 704], Lg)) : AOut) := by
  suffices key : ∀ o : AOut, ((0, some (.int r.1), (126, 120, L, [Y, T, H2, H, RV, RU, ST, NS, I0, I1, I2, r.2, FI, RG, GU, PU, MA, MN, MS, OT, SC], [256, 192, 384, 320, w, 256, 576, 640, 704], Lg)) : AOut) = o → Ev (d + 3, 0, 0, 344, 0, [.val (.ref 64), .val (.int p1), .val a_unk, .val a_unk, .val a_unk], [], (126, 120, L, [Y, T, H2, H, RV, RU, ST, NS, I0, I1, I2, BO, FI, RG, GU, PU, MA, MN, MS, OT, SC], [256, 192, 384, 320, w, r5, 576, 640, 704], Lg)) o from key _ rfl
  intro o ho
  obtain ⟨BO_2, zh1, h⟩ := bnd h
  have zh1 : f_Y_lookNow H NS BO = some BO_2 := zh1
  have ze2 := R_f_Y_lookNow_3 (d + 0) Y T H2 H RV RU ST NS I0 I1 I2 BO FI RG GU PU MA MN MS OT SC w r5 L Lg zh1
  suffices e : Ev (d + 3, 0, 0, 344, 4, [.val (.ref 64), .val (.int p1), .val a_unk, .val a_unk, .val a_unk], [.ref 768], (126, 120, L, [Y, T, H2, H, RV, RU, ST, NS, I0, I1, I2, BO_2, FI, RG, GU, PU, MA, MN, MS, OT, SC], [256, 192, 384, 320, w, 256, 576, 640, 704], Lg)) o from ev_call (fun v μ => (d + 3, 0, 0, 344, 4, [.val (.ref 64), .val (.int p1), .val a_unk, .val a_unk, .val a_unk], v.toList ++ [], μ)) 2 ze2 e (fun n => Eq.refl _)
  obtain ⟨v7, zh4, h⟩ := bnd h
  suffices e : Ev (d + 3, 0, 0, 344, 10, [.val (.ref 64), .val (.int p1), .val (.ref 768), .val (.int 0), .val (.int 0)], [], (126, 120, L, [Y, T, H2, H, RV, RU, ST, NS, I0, I1, I2, BO_2, FI, RG, GU, PU, MA, MN, MS, OT, SC], [256, 192, 384, 320, w, 256, 576, 640, 704], Lg)) o from ev_b 5 e (fun n => Eq.refl _)
  refine ev_loop (δ := Unit) (fun a j => (d + 3, 0, 0, 344, 10, [.val (.ref 64), .val (.int p1), .val (.ref 768), .val (.int a.1), .val (.int a.2)], [], (126, 120, L, [Y, T, H2, H, RV, RU, ST, NS, I0, I1, I2, BO_2, FI, RG, GU, PU, MA, MN, MS, OT, SC], [256, 192, 384, 320, w, 256, 576, 640, 704], Lg))) (fun b => ∀ s8 : Value, Ev (d + 3, 0, 0, 344, 55, [.val (.ref 64), .val (.int p1), .val (.ref 768), .val (.int b), .val s8], [], (126, 120, L, [Y, T, H2, H, RV, RU, ST, NS, I0, I1, I2, BO_2, FI, RG, GU, PU, MA, MN, MS, OT, SC], [256, 192, 384, 320, w, 256, 576, 640, 704], Lg)) o) ?_ a_F (0, 0) v7 zh4 ?_ ()
  · rintro ⟨v3, v4⟩ zr8 zh7 zi5 zx6 ⟨⟩
    have zh7 : f_Y_wouldTake_l10 H BO_2 p1 v3 v4 = some zr8 := zh7
    suffices e : Ev (d + 3, 0, 0, 344, 16, [.val (.ref 64), .val (.int p1), .val (.ref 768), .val (.int v3), .val (.int v4)], [.ref 256, .int v4], (126, 120, L, [Y, T, H2, H, RV, RU, ST, NS, I0, I1, I2, BO_2, FI, RG, GU, PU, MA, MN, MS, OT, SC], [256, 192, 384, 320, w, 256, 576, 640, 704], Lg)) o from ev_b 3 e (fun n => Eq.refl _)
    by_cases zc9 : (H 0 3) ≤ v4
    · have zh7 := itp zh7 zc9
      suffices e : Ev (d + 3, 0, 0, 344, 55, [.val (.ref 64), .val (.int p1), .val (.ref 768), .val (.int v3), .val (.int v4)], [], (126, 120, L, [Y, T, H2, H, RV, RU, ST, NS, I0, I1, I2, BO_2, FI, RG, GU, PU, MA, MN, MS, OT, SC], [256, 192, 384, 320, w, 256, 576, 640, 704], Lg)) o from ev_t (c := (H 0 3) ≤ v4) _ _ 2  zc9 e (fun n => Eq.refl _)
      exact ev_b 0 (zx6 _ (Option.some.inj zh7).symm (.int v4)) (fun n => Eq.refl _)
    · have zh7 := itn zh7 zc9
      suffices e : Ev (d + 3, 0, 0, 344, 22, [.val (.ref 64), .val (.int p1), .val (.ref 768), .val (.int v3), .val (.int v4)], [], (126, 120, L, [Y, T, H2, H, RV, RU, ST, NS, I0, I1, I2, BO_2, FI, RG, GU, PU, MA, MN, MS, OT, SC], [256, 192, 384, 320, w, 256, 576, 640, 704], Lg)) o from ev_f (c := (H 0 3) ≤ v4) _ _ 2  zc9 e (fun n => Eq.refl _)
      obtain ⟨x5, zh10, zh7⟩ := bnd zh7
      have zh10 : rdx (BO_2 1) 10 v4 = some x5 := zh10
      suffices e : Ev (d + 3, 0, 0, 344, 29, [.val (.ref 64), .val (.int p1), .val (.ref 768), .val (.int v3), .val (.int v4)], [.int x5], (126, 120, L, [Y, T, H2, H, RV, RU, ST, NS, I0, I1, I2, BO_2, FI, RG, GU, PU, MA, MN, MS, OT, SC], [256, 192, 384, 320, w, 256, 576, 640, 704], Lg)) o from ev_opt (fun x5 => (d + 3, 0, 0, 344, 29, [.val (.ref 64), .val (.int p1), .val (.ref 768), .val (.int v3), .val (.int v4)], [.int x5], (126, 120, L, [Y, T, H2, H, RV, RU, ST, NS, I0, I1, I2, BO_2, FI, RG, GU, PU, MA, MN, MS, OT, SC], [256, 192, 384, 320, w, 256, 576, 640, 704], Lg))) 4 zh10 e (fun n => Eq.refl _)
      by_cases zc11 : x5 ≠ (-1)
      · have zh7 := itp zh7 zc11
        suffices e : Ev (d + 3, 0, 0, 344, 49, [.val (.ref 64), .val (.int p1), .val (.ref 768), .val (.int v3), .val (.int v4)], [], (126, 120, L, [Y, T, H2, H, RV, RU, ST, NS, I0, I1, I2, BO_2, FI, RG, GU, PU, MA, MN, MS, OT, SC], [256, 192, 384, 320, w, 256, 576, 640, 704], Lg)) o from ev_t (c := x5 ≠ (-1)) _ _ 2  zc11 e (fun n => Eq.refl _)
        exact ev_b 2 (zi5 _ (Option.some.inj zh7).symm ()) (fun n => Eq.refl _)
      · have zh7 := itn zh7 zc11
        suffices e : Ev (d + 3, 0, 0, 344, 33, [.val (.ref 64), .val (.int p1), .val (.ref 768), .val (.int v3), .val (.int v4)], [], (126, 120, L, [Y, T, H2, H, RV, RU, ST, NS, I0, I1, I2, BO_2, FI, RG, GU, PU, MA, MN, MS, OT, SC], [256, 192, 384, 320, w, 256, 576, 640, 704], Lg)) o from ev_f (c := x5 ≠ (-1)) _ _ 2  zc11 e (fun n => Eq.refl _)
        obtain ⟨x6, zh12, zh7⟩ := bnd zh7
        have zh12 : f_Board_clashes H BO_2 v4 p1 = some x6 := zh12
        have ze13 := R_f_Board_clashes_1 (d + 0) Y T H2 H RV RU ST NS I0 I1 I2 BO_2 FI RG GU PU MA MN MS OT SC 256 192 384 320 w 576 640 704 L Lg v4 p1 zh12
        suffices e : Ev (d + 3, 0, 0, 344, 40, [.val (.ref 64), .val (.int p1), .val (.ref 768), .val (.int v3), .val (.int v4)], [.int x6], (126, 120, L, [Y, T, H2, H, RV, RU, ST, NS, I0, I1, I2, BO_2, FI, RG, GU, PU, MA, MN, MS, OT, SC], [256, 192, 384, 320, w, 256, 576, 640, 704], Lg)) o from ev_call (fun v μ => (d + 3, 0, 0, 344, 40, [.val (.ref 64), .val (.int p1), .val (.ref 768), .val (.int v3), .val (.int v4)], v.toList ++ [], μ)) 4 ze13 e (fun n => Eq.refl _)
        by_cases zc14 : (x6 &&& (-9)) ≠ 0
        · have zh7 := itp zh7 zc14
          suffices e : Ev (d + 3, 0, 0, 344, 49, [.val (.ref 64), .val (.int p1), .val (.ref 768), .val (.int v3), .val (.int v4)], [], (126, 120, L, [Y, T, H2, H, RV, RU, ST, NS, I0, I1, I2, BO_2, FI, RG, GU, PU, MA, MN, MS, OT, SC], [256, 192, 384, 320, w, 256, 576, 640, 704], Lg)) o from ev_t (c := (x6 &&& (-9)) ≠ 0) _ _ 3  zc14 e (fun n => Eq.refl _)
          exact ev_b 2 (zi5 _ (Option.some.inj zh7).symm ()) (fun n => Eq.refl _)
        · have zh7 := itn zh7 zc14
          suffices e : Ev (d + 3, 0, 0, 344, 46, [.val (.ref 64), .val (.int p1), .val (.ref 768), .val (.int v3), .val (.int v4)], [], (126, 120, L, [Y, T, H2, H, RV, RU, ST, NS, I0, I1, I2, BO_2, FI, RG, GU, PU, MA, MN, MS, OT, SC], [256, 192, 384, 320, w, 256, 576, 640, 704], Lg)) o from ev_f (c := (x6 &&& (-9)) ≠ 0) _ _ 3  zc14 e (fun n => Eq.refl _)
          exact ev_b 3 (zi5 _ (Option.some.inj zh7).symm ()) (fun n => Eq.refl _)
  · skip
    intro s8
    have ze15 := Option.some.inj h
    subst ze15
    exact ev_rete 2 ho (fun n => Eq.refl _)
set_option maxRecDepth 1000000 in
set_option maxHeartbeats 4000000 in
theorem R_f_Y_hold_3 (d : Nat) (Y T H2 H RV RU ST NS I0 I1 I2 BO FI RG GU PU MA MN MS OT SC : Nat → Nat → Int32) (w r5 : Nat) (L : Nat) (Lg : Int64) (p1 : Int32) (p2 : Int32) {r : Nat × Int32 × (Nat → Nat → Int32) × (Nat → Nat → Int32) × Nat} (h : f_Y_hold Y H NS BO r5 256 p1 p2 = some r) : Ev (d + 4, 2, 16, 300, 0, [.val (.ref 64), .val (.int p1), .val (.int p2)], [], (126, 120, L, [Y, T, H2, H, RV, RU, ST, NS, I0, I1, I2, BO, FI, RG, GU, PU, MA, MN, MS, OT, SC], [256, 192, 384, 320, w, r5, 576, 640, 704], Lg)) ((r.1, a_ov r.1 (.int r.2.1), (126, 120, L, [r.2.2.1, T, H2, H, RV, RU, ST, NS, I0, I1, I2, r.2.2.2.1, FI, RG, GU, PU, MA, MN, MS, OT, SC], [256, 192, 384, 320, w, r.2.2.2.2, 576, 640, 704], Lg)) : AOut) := by
  suffices key : ∀ o : AOut, ((r.1, a_ov r.1 (.int r.2.1), (126, 120, L, [r.2.2.1, T, H2, H, RV, RU, ST, NS, I0, I1, I2, r.2.2.2.1, FI, RG, GU, PU, MA, MN, MS, OT, SC], [256, 192, 384, 320, w, r.2.2.2.2, 576, 640, 704], Lg)) : AOut) = o → Ev (d + 4, 2, 16, 300, 0, [.val (.ref 64), .val (.int p1), .val (.int p2)], [], (126, 120, L, [Y, T, H2, H, RV, RU, ST, NS, I0, I1, I2, BO, FI, RG, GU, PU, MA, MN, MS, OT, SC], [256, 192, 384, 320, w, r5, 576, 640, 704], Lg)) o from key _ rfl
  intro o ho
  obtain ⟨⟨q1, Y_2⟩, zh1, h⟩ := bnd h
  have zh1 : f_Y_needHold Y H p1 = some (q1, Y_2) := zh1
  have ze2 := R_f_Y_needHold_3 (d + 2) Y T H2 H RV RU ST NS I0 I1 I2 BO FI RG GU PU MA MN MS OT SC w r5 L Lg p1 zh1
  cases q1 with
  | zero =>
    have h := itp h rfl
    suffices e : Ev (d + 4, 1, 8, 300, 5, [.val (.ref 64), .val (.int p1), .val (.int p2)], [], (126, 120, L, [Y_2, T, H2, H, RV, RU, ST, NS, I0, I1, I2, BO, FI, RG, GU, PU, MA, MN, MS, OT, SC], [256, 192, 384, 320, w, r5, 576, 640, 704], Lg)) o from ev_call (fun v μ => (d + 4, 1, 8, 300, 5, [.val (.ref 64), .val (.int p1), .val (.int p2)], v.toList ++ [], μ)) 3 ze2 e (fun n => Eq.refl _)
    obtain ⟨zt3, zh4, h⟩ := bnd h
    have zj5 : ∀ (v3 : Int32), v3 = zt3 → Ev (d + 4, 1, 8, 300, 20, [.val (.ref 64), .val (.int p1), .val (.int p2)], [.int v3, .ref 64], (126, 120, L, [Y_2, T, H2, H, RV, RU, ST, NS, I0, I1, I2, BO, FI, RG, GU, PU, MA, MN, MS, OT, SC], [256, 192, 384, 320, w, r5, 576, 640, 704], Lg)) o := by
      intro v3 ze6
      subst ze6
      obtain ⟨⟨q4, Y_5⟩, zh7, h⟩ := bnd h
      have zh7 : f_Y_refuseUnless Y_2 v3 = some (q4, Y_5) := zh7
      have ze8 := R_f_Y_refuseUnless_3 (d + 3) Y_2 T H2 H RV RU ST NS I0 I1 I2 BO FI RG GU PU MA MN MS OT SC w r5 L Lg v3 zh7
      cases q4 with
      | zero =>
        have h := itp h rfl
        suffices e : Ev (d + 4, 0, 0, 300, 23, [.val (.ref 64), .val (.int p1), .val (.int p2)], [], (126, 120, L, [Y_5, T, H2, H, RV, RU, ST, NS, I0, I1, I2, BO, FI, RG, GU, PU, MA, MN, MS, OT, SC], [256, 192, 384, 320, w, r5, 576, 640, 704], Lg)) o from ev_call (fun v μ => (d + 4, 0, 0, 300, 23, [.val (.ref 64), .val (.int p1), .val (.int p2)], v.toList ++ [], μ)) 1 ze8 e (fun n => Eq.refl _)
        by_cases zc9 : p2 = 0
        · have h := itp h zc9
          suffices e : Ev (d + 4, 0, 0, 300, 56, [.val (.ref 64), .val (.int p1), .val (.int p2)], [], (126, 120, L, [Y_5, T, H2, H, RV, RU, ST, NS, I0, I1, I2, BO, FI, RG, GU, PU, MA, MN, MS, OT, SC], [256, 192, 384, 320, w, r5, 576, 640, 704], Lg)) o from ev_sw [((0 : Int32), 56), ((1 : Int32), 69), ((2 : Int32), 82), ((3 : Int32), 92)] p2 (fun tt => (d + 4, 0, 0, 300, tt, [.val (.ref 64), .val (.int p1), .val (.int p2)], [], (126, 120, L, [Y_5, T, H2, H, RV, RU, ST, NS, I0, I1, I2, BO, FI, RG, GU, PU, MA, MN, MS, OT, SC], [256, 192, 384, 320, w, r5, 576, 640, 704], Lg))) 109 56 2 (fun f => by simp only [a_sw, if_pos zc9]) e (fun n => Eq.refl _)
          suffices e : Ev (d + 4, 0, 0, 300, 60, [.val (.ref 64), .val (.int p1), .val (.int p2)], [.ref 256], (126, 120, L, [Y_5, T, H2, H, RV, RU, ST, NS, I0, I1, I2, BO, FI, RG, GU, PU, MA, MN, MS, OT, SC], [256, 192, 384, 320, w, r5, 576, 640, 704], Lg)) o from ev_b 2 e (fun n => Eq.refl _)
          obtain ⟨x6, zh10, h⟩ := bnd h
          have zh10 : rdx (H 11) 4 p1 = some x6 := zh10
          suffices e : Ev (d + 4, 0, 0, 300, 65, [.val (.ref 64), .val (.int p1), .val (.int p2)], [.int x6], (126, 120, L, [Y_5, T, H2, H, RV, RU, ST, NS, I0, I1, I2, BO, FI, RG, GU, PU, MA, MN, MS, OT, SC], [256, 192, 384, 320, w, r5, 576, 640, 704], Lg)) o from ev_opt (fun x6 => (d + 4, 0, 0, 300, 65, [.val (.ref 64), .val (.int p1), .val (.int p2)], [.int x6], (126, 120, L, [Y_5, T, H2, H, RV, RU, ST, NS, I0, I1, I2, BO, FI, RG, GU, PU, MA, MN, MS, OT, SC], [256, 192, 384, 320, w, r5, 576, 640, 704], Lg))) 3 zh10 e (fun n => Eq.refl _)
          obtain ⟨x7, zh11, h⟩ := bnd h
          have zh11 : f_Y_hourOf x6 = some x7 := zh11
          have ze12 := R_f_Y_hourOf_0 (d + 3) Y_5 T H2 H RV RU ST NS I0 I1 I2 BO FI RG GU PU MA MN MS OT SC 256 192 384 320 w r5 576 640 704 L Lg x6 zh11
          suffices e : Ev (d + 4, 0, 0, 300, 68, [.val (.ref 64), .val (.int p1), .val (.int p2)], [.int x7], (126, 120, L, [Y_5, T, H2, H, RV, RU, ST, NS, I0, I1, I2, BO, FI, RG, GU, PU, MA, MN, MS, OT, SC], [256, 192, 384, 320, w, r5, 576, 640, 704], Lg)) o from ev_call (fun v μ => (d + 4, 0, 0, 300, 68, [.val (.ref 64), .val (.int p1), .val (.int p2)], v.toList ++ [], μ)) 1 ze12 e (fun n => Eq.refl _)
          have ze13 := Option.some.inj h
          subst ze13
          exact ev_rete 1 ho (fun n => Eq.refl _)
        have h := itn h zc9
        by_cases zc14 : p2 = 1
        · have h := itp h zc14
          suffices e : Ev (d + 4, 0, 0, 300, 69, [.val (.ref 64), .val (.int p1), .val (.int p2)], [], (126, 120, L, [Y_5, T, H2, H, RV, RU, ST, NS, I0, I1, I2, BO, FI, RG, GU, PU, MA, MN, MS, OT, SC], [256, 192, 384, 320, w, r5, 576, 640, 704], Lg)) o from ev_sw [((0 : Int32), 56), ((1 : Int32), 69), ((2 : Int32), 82), ((3 : Int32), 92)] p2 (fun tt => (d + 4, 0, 0, 300, tt, [.val (.ref 64), .val (.int p1), .val (.int p2)], [], (126, 120, L, [Y_5, T, H2, H, RV, RU, ST, NS, I0, I1, I2, BO, FI, RG, GU, PU, MA, MN, MS, OT, SC], [256, 192, 384, 320, w, r5, 576, 640, 704], Lg))) 109 69 2 (fun f => by simp only [a_sw, if_neg zc9, if_pos zc14]) e (fun n => Eq.refl _)
          suffices e : Ev (d + 4, 0, 0, 300, 73, [.val (.ref 64), .val (.int p1), .val (.int p2)], [.ref 256], (126, 120, L, [Y_5, T, H2, H, RV, RU, ST, NS, I0, I1, I2, BO, FI, RG, GU, PU, MA, MN, MS, OT, SC], [256, 192, 384, 320, w, r5, 576, 640, 704], Lg)) o from ev_b 2 e (fun n => Eq.refl _)
          obtain ⟨x8, zh15, h⟩ := bnd h
          have zh15 : rdx (H 11) 4 p1 = some x8 := zh15
          suffices e : Ev (d + 4, 0, 0, 300, 78, [.val (.ref 64), .val (.int p1), .val (.int p2)], [.int x8], (126, 120, L, [Y_5, T, H2, H, RV, RU, ST, NS, I0, I1, I2, BO, FI, RG, GU, PU, MA, MN, MS, OT, SC], [256, 192, 384, 320, w, r5, 576, 640, 704], Lg)) o from ev_opt (fun x8 => (d + 4, 0, 0, 300, 78, [.val (.ref 64), .val (.int p1), .val (.int p2)], [.int x8], (126, 120, L, [Y_5, T, H2, H, RV, RU, ST, NS, I0, I1, I2, BO, FI, RG, GU, PU, MA, MN, MS, OT, SC], [256, 192, 384, 320, w, r5, 576, 640, 704], Lg))) 3 zh15 e (fun n => Eq.refl _)
          obtain ⟨x9, zh16, h⟩ := bnd h
          have zh16 : f_Y_roomOf x8 = some x9 := zh16
          have ze17 := R_f_Y_roomOf_0 (d + 3) Y_5 T H2 H RV RU ST NS I0 I1 I2 BO FI RG GU PU MA MN MS OT SC 256 192 384 320 w r5 576 640 704 L Lg x8 zh16
          suffices e : Ev (d + 4, 0, 0, 300, 81, [.val (.ref 64), .val (.int p1), .val (.int p2)], [.int x9], (126, 120, L, [Y_5, T, H2, H, RV, RU, ST, NS, I0, I1, I2, BO, FI, RG, GU, PU, MA, MN, MS, OT, SC], [256, 192, 384, 320, w, r5, 576, 640, 704], Lg)) o from ev_call (fun v μ => (d + 4, 0, 0, 300, 81, [.val (.ref 64), .val (.int p1), .val (.int p2)], v.toList ++ [], μ)) 1 ze17 e (fun n => Eq.refl _)
          have ze18 := Option.some.inj h
          subst ze18
          exact ev_rete 1 ho (fun n => Eq.refl _)
        have h := itn h zc14
        by_cases zc19 : p2 = 2
        · have h := itp h zc19
          suffices e : Ev (d + 4, 0, 0, 300, 82, [.val (.ref 64), .val (.int p1), .val (.int p2)], [], (126, 120, L, [Y_5, T, H2, H, RV, RU, ST, NS, I0, I1, I2, BO, FI, RG, GU, PU, MA, MN, MS, OT, SC], [256, 192, 384, 320, w, r5, 576, 640, 704], Lg)) o from ev_sw [((0 : Int32), 56), ((1 : Int32), 69), ((2 : Int32), 82), ((3 : Int32), 92)] p2 (fun tt => (d + 4, 0, 0, 300, tt, [.val (.ref 64), .val (.int p1), .val (.int p2)], [], (126, 120, L, [Y_5, T, H2, H, RV, RU, ST, NS, I0, I1, I2, BO, FI, RG, GU, PU, MA, MN, MS, OT, SC], [256, 192, 384, 320, w, r5, 576, 640, 704], Lg))) 109 82 2 (fun f => by simp only [a_sw, if_neg zc9, if_neg zc14, if_pos zc19]) e (fun n => Eq.refl _)
          suffices e : Ev (d + 4, 0, 0, 300, 86, [.val (.ref 64), .val (.int p1), .val (.int p2)], [.ref 256], (126, 120, L, [Y_5, T, H2, H, RV, RU, ST, NS, I0, I1, I2, BO, FI, RG, GU, PU, MA, MN, MS, OT, SC], [256, 192, 384, 320, w, r5, 576, 640, 704], Lg)) o from ev_b 2 e (fun n => Eq.refl _)
          obtain ⟨x10, zh20, h⟩ := bnd h
          have zh20 : rdx (H 12) 4 p1 = some x10 := zh20
          suffices e : Ev (d + 4, 0, 0, 300, 91, [.val (.ref 64), .val (.int p1), .val (.int p2)], [.int x10], (126, 120, L, [Y_5, T, H2, H, RV, RU, ST, NS, I0, I1, I2, BO, FI, RG, GU, PU, MA, MN, MS, OT, SC], [256, 192, 384, 320, w, r5, 576, 640, 704], Lg)) o from ev_opt (fun x10 => (d + 4, 0, 0, 300, 91, [.val (.ref 64), .val (.int p1), .val (.int p2)], [.int x10], (126, 120, L, [Y_5, T, H2, H, RV, RU, ST, NS, I0, I1, I2, BO, FI, RG, GU, PU, MA, MN, MS, OT, SC], [256, 192, 384, 320, w, r5, 576, 640, 704], Lg))) 3 zh20 e (fun n => Eq.refl _)
          have ze21 := Option.some.inj h
          subst ze21
          exact ev_rete 1 ho (fun n => Eq.refl _)
        have h := itn h zc19
        by_cases zc22 : p2 = 3
        · have h := itp h zc22
          suffices e : Ev (d + 4, 0, 0, 300, 92, [.val (.ref 64), .val (.int p1), .val (.int p2)], [], (126, 120, L, [Y_5, T, H2, H, RV, RU, ST, NS, I0, I1, I2, BO, FI, RG, GU, PU, MA, MN, MS, OT, SC], [256, 192, 384, 320, w, r5, 576, 640, 704], Lg)) o from ev_sw [((0 : Int32), 56), ((1 : Int32), 69), ((2 : Int32), 82), ((3 : Int32), 92)] p2 (fun tt => (d + 4, 0, 0, 300, tt, [.val (.ref 64), .val (.int p1), .val (.int p2)], [], (126, 120, L, [Y_5, T, H2, H, RV, RU, ST, NS, I0, I1, I2, BO, FI, RG, GU, PU, MA, MN, MS, OT, SC], [256, 192, 384, 320, w, r5, 576, 640, 704], Lg))) 109 92 2 (fun f => by simp only [a_sw, if_neg zc9, if_neg zc14, if_neg zc19, if_pos zc22]) e (fun n => Eq.refl _)
          obtain ⟨x11, zh23, h⟩ := bnd h
          have zh23 : f_State_isHeld NS p1 = some x11 := zh23
          have ze24 := R_f_State_isHeld_0 (d + 3) Y_5 T H2 H RV RU ST NS I0 I1 I2 BO FI RG GU PU MA MN MS OT SC 256 192 384 320 w r5 576 640 704 L Lg p1 zh23
          suffices e : Ev (d + 4, 0, 0, 300, 100, [.val (.ref 64), .val (.int p1), .val (.int p2)], [.int x11], (126, 120, L, [Y_5, T, H2, H, RV, RU, ST, NS, I0, I1, I2, BO, FI, RG, GU, PU, MA, MN, MS, OT, SC], [256, 192, 384, 320, w, r5, 576, 640, 704], Lg)) o from ev_call (fun v μ => (d + 4, 0, 0, 300, 100, [.val (.ref 64), .val (.int p1), .val (.int p2)], v.toList ++ [], μ)) 4 ze24 e (fun n => Eq.refl _)
          by_cases zc25 : x11 = 0
          · have h := itp h zc25
            suffices e : Ev (d + 4, 0, 0, 300, 107, [.val (.ref 64), .val (.int p1), .val (.int p2)], [], (126, 120, L, [Y_5, T, H2, H, RV, RU, ST, NS, I0, I1, I2, BO, FI, RG, GU, PU, MA, MN, MS, OT, SC], [256, 192, 384, 320, w, r5, 576, 640, 704], Lg)) o from ev_t (c := x11 = 0) _ _ 1  zc25 e (fun n => Eq.refl _)
            have ze26 := Option.some.inj h
            subst ze26
            exact ev_rete 2 ho (fun n => Eq.refl _)
          · have h := itn h zc25
            suffices e : Ev (d + 4, 0, 0, 300, 103, [.val (.ref 64), .val (.int p1), .val (.int p2)], [], (126, 120, L, [Y_5, T, H2, H, RV, RU, ST, NS, I0, I1, I2, BO, FI, RG, GU, PU, MA, MN, MS, OT, SC], [256, 192, 384, 320, w, r5, 576, 640, 704], Lg)) o from ev_f (c := x11 = 0) _ _ 1  zc25 e (fun n => Eq.refl _)
            have ze27 := Option.some.inj h
            subst ze27
            exact ev_rete 3 ho (fun n => Eq.refl _)
        have h := itn h zc22
        suffices e : Ev (d + 4, 0, 0, 300, 109, [.val (.ref 64), .val (.int p1), .val (.int p2)], [], (126, 120, L, [Y_5, T, H2, H, RV, RU, ST, NS, I0, I1, I2, BO, FI, RG, GU, PU, MA, MN, MS, OT, SC], [256, 192, 384, 320, w, r5, 576, 640, 704], Lg)) o from ev_sw [((0 : Int32), 56), ((1 : Int32), 69), ((2 : Int32), 82), ((3 : Int32), 92)] p2 (fun tt => (d + 4, 0, 0, 300, tt, [.val (.ref 64), .val (.int p1), .val (.int p2)], [], (126, 120, L, [Y_5, T, H2, H, RV, RU, ST, NS, I0, I1, I2, BO, FI, RG, GU, PU, MA, MN, MS, OT, SC], [256, 192, 384, 320, w, r5, 576, 640, 704], Lg))) 109 109 2 (fun f => by simp only [a_sw, if_neg zc9, if_neg zc14, if_neg zc19, if_neg zc22]) e (fun n => Eq.refl _)
        suffices e : Ev (d + 4, 0, 0, 300, 114, [.val (.ref 64), .val (.int p1), .val (.int p2)], [.ref 256, .ref 64], (126, 120, L, [Y_5, T, H2, H, RV, RU, ST, NS, I0, I1, I2, BO, FI, RG, GU, PU, MA, MN, MS, OT, SC], [256, 192, 384, 320, w, r5, 576, 640, 704], Lg)) o from ev_b 3 e (fun n => Eq.refl _)
        obtain ⟨x12, zh28, h⟩ := bnd h
        have zh28 : rdx (H 11) 4 p1 = some x12 := zh28
        suffices e : Ev (d + 4, 0, 0, 300, 119, [.val (.ref 64), .val (.int p1), .val (.int p2)], [.int x12, .ref 64], (126, 120, L, [Y_5, T, H2, H, RV, RU, ST, NS, I0, I1, I2, BO, FI, RG, GU, PU, MA, MN, MS, OT, SC], [256, 192, 384, 320, w, r5, 576, 640, 704], Lg)) o from ev_opt (fun x12 => (d + 4, 0, 0, 300, 119, [.val (.ref 64), .val (.int p1), .val (.int p2)], [.int x12, .ref 64], (126, 120, L, [Y_5, T, H2, H, RV, RU, ST, NS, I0, I1, I2, BO, FI, RG, GU, PU, MA, MN, MS, OT, SC], [256, 192, 384, 320, w, r5, 576, 640, 704], Lg))) 3 zh28 e (fun n => Eq.refl _)
        obtain ⟨⟨x13, BO_14⟩, zh29, h⟩ := bnd h
        have zh29 : f_Y_wouldTake H NS BO x12 = some (x13, BO_14) := zh29
        have ze30 := R_f_Y_wouldTake_3 (d + 0) Y_5 T H2 H RV RU ST NS I0 I1 I2 BO FI RG GU PU MA MN MS OT SC w r5 L Lg x12 zh29
        suffices e : Ev (d + 4, 0, 0, 300, 122, [.val (.ref 64), .val (.int p1), .val (.int p2)], [.int x13], (126, 120, L, [Y_5, T, H2, H, RV, RU, ST, NS, I0, I1, I2, BO_14, FI, RG, GU, PU, MA, MN, MS, OT, SC], [256, 192, 384, 320, w, 256, 576, 640, 704], Lg)) o from ev_call (fun v μ => (d + 4, 0, 0, 300, 122, [.val (.ref 64), .val (.int p1), .val (.int p2)], v.toList ++ [], μ)) 1 ze30 e (fun n => Eq.refl _)
        have ze31 := Option.some.inj h
        subst ze31
        exact ev_rete 1 ho (fun n => Eq.refl _)
      | succ q4 =>
        have h := itn h (Nat.succ_ne_zero q4)
        have ze32 := Option.some.inj h
        subst ze32
        subst ho
        exact ev_thr (fun v μ => (d + 4, 0, 0, 300, 23, [.val (.ref 64), .val (.int p1), .val (.int p2)], v.toList ++ [], μ)) 1 ze8 (fun n => Eq.refl _) (fun n => rfl)
    obtain ⟨zt33, zh34, zh4⟩ := bnd zh4
    have zj35 : zt33 = .inl () → Ev (d + 4, 1, 8, 300, 19, [.val (.ref 64), .val (.int p1), .val (.int p2)], [.ref 64], (126, 120, L, [Y_2, T, H2, H, RV, RU, ST, NS, I0, I1, I2, BO, FI, RG, GU, PU, MA, MN, MS, OT, SC], [256, 192, 384, 320, w, r5, 576, 640, 704], Lg)) o := by
      intro ze36
      have zh4 := sum_l zh4 ze36
      exact ev_b 1 (zj5 0 (Option.some.inj zh4) ) (fun n => Eq.refl _)
    by_cases zc37 : p2 < 0
    · have zh34 := itp zh34 zc37
      suffices e : Ev (d + 4, 1, 8, 300, 19, [.val (.ref 64), .val (.int p1), .val (.int p2)], [.ref 64], (126, 120, L, [Y_2, T, H2, H, RV, RU, ST, NS, I0, I1, I2, BO, FI, RG, GU, PU, MA, MN, MS, OT, SC], [256, 192, 384, 320, w, r5, 576, 640, 704], Lg)) o from ev_t (c := p2 < 0) _ _ 3  zc37 e (fun n => Eq.refl _)
      exact ev_b 0 (zj35  (Option.some.inj zh34).symm ) (fun n => Eq.refl _)
    · have zh34 := itn zh34 zc37
      suffices e : Ev (d + 4, 1, 8, 300, 10, [.val (.ref 64), .val (.int p1), .val (.int p2)], [.ref 64], (126, 120, L, [Y_2, T, H2, H, RV, RU, ST, NS, I0, I1, I2, BO, FI, RG, GU, PU, MA, MN, MS, OT, SC], [256, 192, 384, 320, w, r5, 576, 640, 704], Lg)) o from ev_f (c := p2 < 0) _ _ 3  zc37 e (fun n => Eq.refl _)
      by_cases zc38 : 4 < p2
      · have zh34 := itp zh34 zc38
        suffices e : Ev (d + 4, 1, 8, 300, 19, [.val (.ref 64), .val (.int p1), .val (.int p2)], [.ref 64], (126, 120, L, [Y_2, T, H2, H, RV, RU, ST, NS, I0, I1, I2, BO, FI, RG, GU, PU, MA, MN, MS, OT, SC], [256, 192, 384, 320, w, r5, 576, 640, 704], Lg)) o from ev_t (c := 4 < p2) _ _ 3  zc38 e (fun n => Eq.refl _)
        exact ev_b 0 (zj35  (Option.some.inj zh34).symm ) (fun n => Eq.refl _)
      · have zh34 := itn zh34 zc38
        suffices e : Ev (d + 4, 1, 8, 300, 15, [.val (.ref 64), .val (.int p1), .val (.int p2)], [.ref 64], (126, 120, L, [Y_2, T, H2, H, RV, RU, ST, NS, I0, I1, I2, BO, FI, RG, GU, PU, MA, MN, MS, OT, SC], [256, 192, 384, 320, w, r5, 576, 640, 704], Lg)) o from ev_f (c := 4 < p2) _ _ 3  zc38 e (fun n => Eq.refl _)
        have zh39 := sum_r zh4 (Option.some.inj zh34).symm
        exact ev_b 2 (zj5 1 (Option.some.inj zh39) ) (fun n => Eq.refl _)
  | succ q1 =>
    have h := itn h (Nat.succ_ne_zero q1)
    have ze40 := Option.some.inj h
    subst ze40
    subst ho
    exact ev_thr (fun v μ => (d + 4, 1, 8, 300, 5, [.val (.ref 64), .val (.int p1), .val (.int p2)], v.toList ++ [], μ)) 3 ze2 (fun n => Eq.refl _) (fun n => rfl)
set_option maxRecDepth 1000000 in
set_option maxHeartbeats 4000000 in
theorem R_f_Y_least_0 (d : Nat) (Y T H H2 RU RV ST NS I0 I1 I2 BO FI RG GU PU MA MN MS OT SC : Nat → Nat → Int32) (w r5 : Nat) (L : Nat) (Lg : Int64) {r : Int32} (h : f_Y_least H NS = some r) : Ev (d + 1, 0, 0, 301, 0, [.val (.ref 64), .val a_unk, .val a_unk], [], (126, 120, L, [Y, T, H, H2, RU, RV, ST, NS, I0, I1, I2, BO, FI, RG, GU, PU, MA, MN, MS, OT, SC], [192, 256, 320, 384, w, r5, 576, 640, 704], Lg)) ((0, some (.int r), (126, 120, L, [Y, T, H, H2, RU, RV, ST, NS, I0, I1, I2, BO, FI, RG, GU, PU, MA, MN, MS, OT, SC], [192, 256, 320, 384, w, r5, 576, 640, 704], Lg)) : AOut) := by
  suffices key : ∀ o : AOut, ((0, some (.int r), (126, 120, L, [Y, T, H, H2, RU, RV, ST, NS, I0, I1, I2, BO, FI, RG, GU, PU, MA, MN, MS, OT, SC], [192, 256, 320, 384, w, r5, 576, 640, 704], Lg)) : AOut) = o → Ev (d + 1, 0, 0, 301, 0, [.val (.ref 64), .val a_unk, .val a_unk], [], (126, 120, L, [Y, T, H, H2, RU, RV, ST, NS, I0, I1, I2, BO, FI, RG, GU, PU, MA, MN, MS, OT, SC], [192, 256, 320, 384, w, r5, 576, 640, 704], Lg)) o from key _ rfl
  intro o ho
  obtain ⟨v6, zh2, h⟩ := bnd h
  suffices e : Ev (d + 1, 0, 0, 301, 4, [.val (.ref 64), .val (.int (-1)), .val (.int 0)], [], (126, 120, L, [Y, T, H, H2, RU, RV, ST, NS, I0, I1, I2, BO, FI, RG, GU, PU, MA, MN, MS, OT, SC], [192, 256, 320, 384, w, r5, 576, 640, 704], Lg)) o from ev_b 4 e (fun n => Eq.refl _)
  refine ev_loop (δ := Unit) (fun a j => (d + 1, 0, 0, 301, 4, [.val (.ref 64), .val (.int a.1), .val (.int a.2)], [], (126, 120, L, [Y, T, H, H2, RU, RV, ST, NS, I0, I1, I2, BO, FI, RG, GU, PU, MA, MN, MS, OT, SC], [192, 256, 320, 384, w, r5, 576, 640, 704], Lg))) (fun b => ∀ s7 : Value, Ev (d + 1, 0, 0, 301, 60, [.val (.ref 64), .val (.int b), .val s7], [], (126, 120, L, [Y, T, H, H2, RU, RV, ST, NS, I0, I1, I2, BO, FI, RG, GU, PU, MA, MN, MS, OT, SC], [192, 256, 320, 384, w, r5, 576, 640, 704], Lg)) o) ?_ a_F ((-1), 0) v6 zh2 ?_ ()
  · rintro ⟨v1, v2⟩ zr6 zh5 zi3 zx4 ⟨⟩
    have zh5 : f_Y_least_l4 H NS v1 v2 = some zr6 := zh5
    suffices e : Ev (d + 1, 0, 0, 301, 9, [.val (.ref 64), .val (.int v1), .val (.int v2)], [.ref 192, .int v2], (126, 120, L, [Y, T, H, H2, RU, RV, ST, NS, I0, I1, I2, BO, FI, RG, GU, PU, MA, MN, MS, OT, SC], [192, 256, 320, 384, w, r5, 576, 640, 704], Lg)) o from ev_b 3 e (fun n => Eq.refl _)
    by_cases zc7 : (H 0 4) ≤ v2
    · have zh5 := itp zh5 zc7
      suffices e : Ev (d + 1, 0, 0, 301, 60, [.val (.ref 64), .val (.int v1), .val (.int v2)], [], (126, 120, L, [Y, T, H, H2, RU, RV, ST, NS, I0, I1, I2, BO, FI, RG, GU, PU, MA, MN, MS, OT, SC], [192, 256, 320, 384, w, r5, 576, 640, 704], Lg)) o from ev_t (c := (H 0 4) ≤ v2) _ _ 2  zc7 e (fun n => Eq.refl _)
      exact ev_b 0 (zx4 _ (Option.some.inj zh5).symm (.int v2)) (fun n => Eq.refl _)
    · have zh5 := itn zh5 zc7
      suffices e : Ev (d + 1, 0, 0, 301, 15, [.val (.ref 64), .val (.int v1), .val (.int v2)], [], (126, 120, L, [Y, T, H, H2, RU, RV, ST, NS, I0, I1, I2, BO, FI, RG, GU, PU, MA, MN, MS, OT, SC], [192, 256, 320, 384, w, r5, 576, 640, 704], Lg)) o from ev_f (c := (H 0 4) ≤ v2) _ _ 2  zc7 e (fun n => Eq.refl _)
      obtain ⟨x3, zh8, zh5⟩ := bnd zh5
      have zh8 : f_State_isHeld NS v2 = some x3 := zh8
      have ze9 := R_f_State_isHeld_0 (d + 0) Y T H H2 RU RV ST NS I0 I1 I2 BO FI RG GU PU MA MN MS OT SC 192 256 320 384 w r5 576 640 704 L Lg v2 zh8
      suffices e : Ev (d + 1, 0, 0, 301, 23, [.val (.ref 64), .val (.int v1), .val (.int v2)], [.int x3], (126, 120, L, [Y, T, H, H2, RU, RV, ST, NS, I0, I1, I2, BO, FI, RG, GU, PU, MA, MN, MS, OT, SC], [192, 256, 320, 384, w, r5, 576, 640, 704], Lg)) o from ev_call (fun v μ => (d + 1, 0, 0, 301, 23, [.val (.ref 64), .val (.int v1), .val (.int v2)], v.toList ++ [], μ)) 4 ze9 e (fun n => Eq.refl _)
      by_cases zc10 : x3 = 0
      · have zh5 := itp zh5 zc10
        suffices e : Ev (d + 1, 0, 0, 301, 54, [.val (.ref 64), .val (.int v1), .val (.int v2)], [], (126, 120, L, [Y, T, H, H2, RU, RV, ST, NS, I0, I1, I2, BO, FI, RG, GU, PU, MA, MN, MS, OT, SC], [192, 256, 320, 384, w, r5, 576, 640, 704], Lg)) o from ev_t (c := x3 = 0) _ _ 1  zc10 e (fun n => Eq.refl _)
        exact ev_b 2 (zi3 _ (Option.some.inj zh5).symm ()) (fun n => Eq.refl _)
      · have zh5 := itn zh5 zc10
        suffices e : Ev (d + 1, 0, 0, 301, 26, [.val (.ref 64), .val (.int v1), .val (.int v2)], [], (126, 120, L, [Y, T, H, H2, RU, RV, ST, NS, I0, I1, I2, BO, FI, RG, GU, PU, MA, MN, MS, OT, SC], [192, 256, 320, 384, w, r5, 576, 640, 704], Lg)) o from ev_f (c := x3 = 0) _ _ 1  zc10 e (fun n => Eq.refl _)
        by_cases zc11 : v1 = (-1)
        · have zh5 := itp zh5 zc11
          suffices e : Ev (d + 1, 0, 0, 301, 52, [.val (.ref 64), .val (.int v1), .val (.int v2)], [], (126, 120, L, [Y, T, H, H2, RU, RV, ST, NS, I0, I1, I2, BO, FI, RG, GU, PU, MA, MN, MS, OT, SC], [192, 256, 320, 384, w, r5, 576, 640, 704], Lg)) o from ev_t (c := v1 = (-1)) _ _ 3  zc11 e (fun n => Eq.refl _)
          exact ev_b 4 (zi3 _ (Option.some.inj zh5).symm ()) (fun n => Eq.refl _)
        · have zh5 := itn zh5 zc11
          suffices e : Ev (d + 1, 0, 0, 301, 31, [.val (.ref 64), .val (.int v1), .val (.int v2)], [], (126, 120, L, [Y, T, H, H2, RU, RV, ST, NS, I0, I1, I2, BO, FI, RG, GU, PU, MA, MN, MS, OT, SC], [192, 256, 320, 384, w, r5, 576, 640, 704], Lg)) o from ev_f (c := v1 = (-1)) _ _ 3  zc11 e (fun n => Eq.refl _)
          suffices e : Ev (d + 1, 0, 0, 301, 35, [.val (.ref 64), .val (.int v1), .val (.int v2)], [.ref 192], (126, 120, L, [Y, T, H, H2, RU, RV, ST, NS, I0, I1, I2, BO, FI, RG, GU, PU, MA, MN, MS, OT, SC], [192, 256, 320, 384, w, r5, 576, 640, 704], Lg)) o from ev_b 2 e (fun n => Eq.refl _)
          obtain ⟨x4, zh12, zh5⟩ := bnd zh5
          have zh12 : rdx (H 12) 4 v2 = some x4 := zh12
          suffices e : Ev (d + 1, 0, 0, 301, 40, [.val (.ref 64), .val (.int v1), .val (.int v2)], [.int x4], (126, 120, L, [Y, T, H, H2, RU, RV, ST, NS, I0, I1, I2, BO, FI, RG, GU, PU, MA, MN, MS, OT, SC], [192, 256, 320, 384, w, r5, 576, 640, 704], Lg)) o from ev_opt (fun x4 => (d + 1, 0, 0, 301, 40, [.val (.ref 64), .val (.int v1), .val (.int v2)], [.int x4], (126, 120, L, [Y, T, H, H2, RU, RV, ST, NS, I0, I1, I2, BO, FI, RG, GU, PU, MA, MN, MS, OT, SC], [192, 256, 320, 384, w, r5, 576, 640, 704], Lg))) 3 zh12 e (fun n => Eq.refl _)
          suffices e : Ev (d + 1, 0, 0, 301, 44, [.val (.ref 64), .val (.int v1), .val (.int v2)], [.ref 192, .int x4], (126, 120, L, [Y, T, H, H2, RU, RV, ST, NS, I0, I1, I2, BO, FI, RG, GU, PU, MA, MN, MS, OT, SC], [192, 256, 320, 384, w, r5, 576, 640, 704], Lg)) o from ev_b 2 e (fun n => Eq.refl _)
          obtain ⟨x5, zh13, zh5⟩ := bnd zh5
          have zh13 : rdx (H 12) 4 v1 = some x5 := zh13
          suffices e : Ev (d + 1, 0, 0, 301, 49, [.val (.ref 64), .val (.int v1), .val (.int v2)], [.int x5, .int x4], (126, 120, L, [Y, T, H, H2, RU, RV, ST, NS, I0, I1, I2, BO, FI, RG, GU, PU, MA, MN, MS, OT, SC], [192, 256, 320, 384, w, r5, 576, 640, 704], Lg)) o from ev_opt (fun x5 => (d + 1, 0, 0, 301, 49, [.val (.ref 64), .val (.int v1), .val (.int v2)], [.int x5, .int x4], (126, 120, L, [Y, T, H, H2, RU, RV, ST, NS, I0, I1, I2, BO, FI, RG, GU, PU, MA, MN, MS, OT, SC], [192, 256, 320, 384, w, r5, 576, 640, 704], Lg))) 3 zh13 e (fun n => Eq.refl _)
          by_cases zc14 : x5 ≤ x4
          · have zh5 := itp zh5 zc14
            suffices e : Ev (d + 1, 0, 0, 301, 54, [.val (.ref 64), .val (.int v1), .val (.int v2)], [], (126, 120, L, [Y, T, H, H2, RU, RV, ST, NS, I0, I1, I2, BO, FI, RG, GU, PU, MA, MN, MS, OT, SC], [192, 256, 320, 384, w, r5, 576, 640, 704], Lg)) o from ev_t (c := x5 ≤ x4) _ _ 1  zc14 e (fun n => Eq.refl _)
            exact ev_b 2 (zi3 _ (Option.some.inj zh5).symm ()) (fun n => Eq.refl _)
          · have zh5 := itn zh5 zc14
            suffices e : Ev (d + 1, 0, 0, 301, 52, [.val (.ref 64), .val (.int v1), .val (.int v2)], [], (126, 120, L, [Y, T, H, H2, RU, RV, ST, NS, I0, I1, I2, BO, FI, RG, GU, PU, MA, MN, MS, OT, SC], [192, 256, 320, 384, w, r5, 576, 640, 704], Lg)) o from ev_f (c := x5 ≤ x4) _ _ 1  zc14 e (fun n => Eq.refl _)
            exact ev_b 4 (zi3 _ (Option.some.inj zh5).symm ()) (fun n => Eq.refl _)
  · skip
    intro s7
    have ze15 := Option.some.inj h
    subst ze15
    exact ev_rete 2 ho (fun n => Eq.refl _)
