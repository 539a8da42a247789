/-! printed by program (gen/emitm.py): the reference's methods run as their functions say -/
set_option maxRecDepth 1000000 in
set_option maxHeartbeats 4000000 in
theorem R_f_Y_count_1 (d : Nat) (Y T H H2 RV RU ST NS I0 I1 I2 BO FI RG GU PU MA MN MS OT SC : Nat → Nat → Int32) (w r5 : Nat) (L : Nat) (Lg : Int64) (p1 : Int32) {r : Int32} (h : f_Y_count Y T NS p1 = some r) : Ev (d + 0, 0, 0, 332, 0, [.val (.ref 64), .val (.int p1)], [], (126, 120, L, [Y, T, H, H2, RV, RU, ST, NS, I0, I1, I2, BO, FI, RG, GU, PU, MA, MN, MS, OT, SC], [192, 256, 384, 320, w, r5, 576, 640, 704], Lg)) ((0, some (.int r), (126, 120, L, [Y, T, H, H2, RV, RU, ST, NS, I0, I1, I2, BO, FI, RG, GU, PU, MA, MN, MS, OT, SC], [192, 256, 384, 320, w, r5, 576, 640, 704], Lg)) : AOut) := by
  suffices key : ∀ o : AOut, ((0, some (.int r), (126, 120, L, [Y, T, H, H2, RV, RU, ST, NS, I0, I1, I2, BO, FI, RG, GU, PU, MA, MN, MS, OT, SC], [192, 256, 384, 320, w, r5, 576, 640, 704], Lg)) : AOut) = o → Ev (d + 0, 0, 0, 332, 0, [.val (.ref 64), .val (.int p1)], [], (126, 120, L, [Y, T, H, H2, RV, RU, ST, NS, I0, I1, I2, BO, FI, RG, GU, PU, MA, MN, MS, OT, SC], [192, 256, 384, 320, w, r5, 576, 640, 704], Lg)) o from key _ rfl
  intro o ho
  by_cases zc1 : p1 = 0
  · have h := itp h zc1
    suffices e : Ev (d + 0, 0, 0, 332, 28, [.val (.ref 64), .val (.int p1)], [], (126, 120, L, [Y, T, H, H2, RV, RU, ST, NS, I0, I1, I2, BO, FI, RG, GU, PU, MA, MN, MS, OT, SC], [192, 256, 384, 320, w, r5, 576, 640, 704], Lg)) o from ev_sw [((0 : Int32), 28), ((1 : Int32), 33), ((2 : Int32), 41)] p1 (fun tt => (d + 0, 0, 0, 332, tt, [.val (.ref 64), .val (.int p1)], [], (126, 120, L, [Y, T, H, H2, RV, RU, ST, NS, I0, I1, I2, BO, FI, RG, GU, PU, MA, MN, MS, OT, SC], [192, 256, 384, 320, w, r5, 576, 640, 704], Lg))) 49 28 2 (fun f => by simp only [a_sw, if_pos zc1]) e (fun n => Eq.refl _)
    have ze2 := Option.some.inj h
    subst ze2
    exact ev_rete 3 ho (fun n => Eq.refl _)
  have h := itn h zc1
  by_cases zc3 : p1 = 1
  · have h := itp h zc3
    suffices e : Ev (d + 0, 0, 0, 332, 33, [.val (.ref 64), .val (.int p1)], [], (126, 120, L, [Y, T, H, H2, RV, RU, ST, NS, I0, I1, I2, BO, FI, RG, GU, PU, MA, MN, MS, OT, SC], [192, 256, 384, 320, w, r5, 576, 640, 704], Lg)) o from ev_sw [((0 : Int32), 28), ((1 : Int32), 33), ((2 : Int32), 41)] p1 (fun tt => (d + 0, 0, 0, 332, tt, [.val (.ref 64), .val (.int p1)], [], (126, 120, L, [Y, T, H, H2, RV, RU, ST, NS, I0, I1, I2, BO, FI, RG, GU, PU, MA, MN, MS, OT, SC], [192, 256, 384, 320, w, r5, 576, 640, 704], Lg))) 49 33 2 (fun f => by simp only [a_sw, if_neg zc1, if_pos zc3]) e (fun n => Eq.refl _)
    have ze4 := Option.some.inj h
    subst ze4
    exact ev_rete 4 ho (fun n => Eq.refl _)
  have h := itn h zc3
  by_cases zc5 : p1 = 2
  · have h := itp h zc5
    suffices e : Ev (d + 0, 0, 0, 332, 41, [.val (.ref 64), .val (.int p1)], [], (126, 120, L, [Y, T, H, H2, RV, RU, ST, NS, I0, I1, I2, BO, FI, RG, GU, PU, MA, MN, MS, OT, SC], [192, 256, 384, 320, w, r5, 576, 640, 704], Lg)) o from ev_sw [((0 : Int32), 28), ((1 : Int32), 33), ((2 : Int32), 41)] p1 (fun tt => (d + 0, 0, 0, 332, tt, [.val (.ref 64), .val (.int p1)], [], (126, 120, L, [Y, T, H, H2, RV, RU, ST, NS, I0, I1, I2, BO, FI, RG, GU, PU, MA, MN, MS, OT, SC], [192, 256, 384, 320, w, r5, 576, 640, 704], Lg))) 49 41 2 (fun f => by simp only [a_sw, if_neg zc1, if_neg zc3, if_pos zc5]) e (fun n => Eq.refl _)
    have ze6 := Option.some.inj h
    subst ze6
    exact ev_rete 4 ho (fun n => Eq.refl _)
  have h := itn h zc5
  suffices e : Ev (d + 0, 0, 0, 332, 49, [.val (.ref 64), .val (.int p1)], [], (126, 120, L, [Y, T, H, H2, RV, RU, ST, NS, I0, I1, I2, BO, FI, RG, GU, PU, MA, MN, MS, OT, SC], [192, 256, 384, 320, w, r5, 576, 640, 704], Lg)) o from ev_sw [((0 : Int32), 28), ((1 : Int32), 33), ((2 : Int32), 41)] p1 (fun tt => (d + 0, 0, 0, 332, tt, [.val (.ref 64), .val (.int p1)], [], (126, 120, L, [Y, T, H, H2, RV, RU, ST, NS, I0, I1, I2, BO, FI, RG, GU, PU, MA, MN, MS, OT, SC], [192, 256, 384, 320, w, r5, 576, 640, 704], Lg))) 49 49 2 (fun f => by simp only [a_sw, if_neg zc1, if_neg zc3, if_neg zc5]) e (fun n => Eq.refl _)
  have ze7 := Option.some.inj h
  subst ze7
  exact ev_rete 2 ho (fun n => Eq.refl _)
set_option maxRecDepth 1000000 in
set_option maxHeartbeats 4000000 in
theorem R_f_Y_count_2 (d : Nat) (Y T H2 H RU RV ST NS I0 I1 I2 BO FI RG GU PU MA MN MS OT SC : Nat → Nat → Int32) (w r5 : Nat) (L : Nat) (Lg : Int64) (p1 : Int32) {r : Int32} (h : f_Y_count Y T NS p1 = some r) : Ev (d + 0, 0, 0, 332, 0, [.val (.ref 64), .val (.int p1)], [], (126, 120, L, [Y, T, H2, H, RU, RV, ST, NS, I0, I1, I2, BO, FI, RG, GU, PU, MA, MN, MS, OT, SC], [256, 192, 320, 384, w, r5, 576, 640, 704], Lg)) ((0, some (.int r), (126, 120, L, [Y, T, H2, H, RU, RV, ST, NS, I0, I1, I2, BO, FI, RG, GU, PU, MA, MN, MS, OT, SC], [256, 192, 320, 384, w, r5, 576, 640, 704], Lg)) : AOut) := by
  suffices key : ∀ o : AOut, ((0, some (.int r), (126, 120, L, [Y, T, H2, H, RU, RV, ST, NS, I0, I1, I2, BO, FI, RG, GU, PU, MA, MN, MS, OT, SC], [256, 192, 320, 384, w, r5, 576, 640, 704], Lg)) : AOut) = o → Ev (d + 0, 0, 0, 332, 0, [.val (.ref 64), .val (.int p1)], [], (126, 120, L, [Y, T, H2, H, RU, RV, ST, NS, I0, I1, I2, BO, FI, RG, GU, PU, MA, MN, MS, OT, SC], [256, 192, 320, 384, w, r5, 576, 640, 704], Lg)) o from key _ rfl
  intro o ho
  by_cases zc1 : p1 = 0
  · have h := itp h zc1
    suffices e : Ev (d + 0, 0, 0, 332, 28, [.val (.ref 64), .val (.int p1)], [], (126, 120, L, [Y, T, H2, H, RU, RV, ST, NS, I0, I1, I2, BO, FI, RG, GU, PU, MA, MN, MS, OT, SC], [256, 192, 320, 384, w, r5, 576, 640, 704], Lg)) o from ev_sw [((0 : Int32), 28), ((1 : Int32), 33), ((2 : Int32), 41)] p1 (fun tt => (d + 0, 0, 0, 332, tt, [.val (.ref 64), .val (.int p1)], [], (126, 120, L, [Y, T, H2, H, RU, RV, ST, NS, I0, I1, I2, BO, FI, RG, GU, PU, MA, MN, MS, OT, SC], [256, 192, 320, 384, w, r5, 576, 640, 704], Lg))) 49 28 2 (fun f => by simp only [a_sw, if_pos zc1]) e (fun n => Eq.refl _)
    have ze2 := Option.some.inj h
    subst ze2
    exact ev_rete 3 ho (fun n => Eq.refl _)
  have h := itn h zc1
  by_cases zc3 : p1 = 1
  · have h := itp h zc3
    suffices e : Ev (d + 0, 0, 0, 332, 33, [.val (.ref 64), .val (.int p1)], [], (126, 120, L, [Y, T, H2, H, RU, RV, ST, NS, I0, I1, I2, BO, FI, RG, GU, PU, MA, MN, MS, OT, SC], [256, 192, 320, 384, w, r5, 576, 640, 704], Lg)) o from ev_sw [((0 : Int32), 28), ((1 : Int32), 33), ((2 : Int32), 41)] p1 (fun tt => (d + 0, 0, 0, 332, tt, [.val (.ref 64), .val (.int p1)], [], (126, 120, L, [Y, T, H2, H, RU, RV, ST, NS, I0, I1, I2, BO, FI, RG, GU, PU, MA, MN, MS, OT, SC], [256, 192, 320, 384, w, r5, 576, 640, 704], Lg))) 49 33 2 (fun f => by simp only [a_sw, if_neg zc1, if_pos zc3]) e (fun n => Eq.refl _)
    have ze4 := Option.some.inj h
    subst ze4
    exact ev_rete 4 ho (fun n => Eq.refl _)
  have h := itn h zc3
  by_cases zc5 : p1 = 2
  · have h := itp h zc5
    suffices e : Ev (d + 0, 0, 0, 332, 41, [.val (.ref 64), .val (.int p1)], [], (126, 120, L, [Y, T, H2, H, RU, RV, ST, NS, I0, I1, I2, BO, FI, RG, GU, PU, MA, MN, MS, OT, SC], [256, 192, 320, 384, w, r5, 576, 640, 704], Lg)) o from ev_sw [((0 : Int32), 28), ((1 : Int32), 33), ((2 : Int32), 41)] p1 (fun tt => (d + 0, 0, 0, 332, tt, [.val (.ref 64), .val (.int p1)], [], (126, 120, L, [Y, T, H2, H, RU, RV, ST, NS, I0, I1, I2, BO, FI, RG, GU, PU, MA, MN, MS, OT, SC], [256, 192, 320, 384, w, r5, 576, 640, 704], Lg))) 49 41 2 (fun f => by simp only [a_sw, if_neg zc1, if_neg zc3, if_pos zc5]) e (fun n => Eq.refl _)
    have ze6 := Option.some.inj h
    subst ze6
    exact ev_rete 4 ho (fun n => Eq.refl _)
  have h := itn h zc5
  suffices e : Ev (d + 0, 0, 0, 332, 49, [.val (.ref 64), .val (.int p1)], [], (126, 120, L, [Y, T, H2, H, RU, RV, ST, NS, I0, I1, I2, BO, FI, RG, GU, PU, MA, MN, MS, OT, SC], [256, 192, 320, 384, w, r5, 576, 640, 704], Lg)) o from ev_sw [((0 : Int32), 28), ((1 : Int32), 33), ((2 : Int32), 41)] p1 (fun tt => (d + 0, 0, 0, 332, tt, [.val (.ref 64), .val (.int p1)], [], (126, 120, L, [Y, T, H2, H, RU, RV, ST, NS, I0, I1, I2, BO, FI, RG, GU, PU, MA, MN, MS, OT, SC], [256, 192, 320, 384, w, r5, 576, 640, 704], Lg))) 49 49 2 (fun f => by simp only [a_sw, if_neg zc1, if_neg zc3, if_neg zc5]) e (fun n => Eq.refl _)
  have ze7 := Option.some.inj h
  subst ze7
  exact ev_rete 2 ho (fun n => Eq.refl _)
set_option maxRecDepth 1000000 in
set_option maxHeartbeats 4000000 in
theorem R_f_Y_count_3 (d : Nat) (Y T H2 H RV RU ST NS I0 I1 I2 BO FI RG GU PU MA MN MS OT SC : Nat → Nat → Int32) (w r5 : Nat) (L : Nat) (Lg : Int64) (p1 : Int32) {r : Int32} (h : f_Y_count Y T NS p1 = some r) : Ev (d + 0, 0, 0, 332, 0, [.val (.ref 64), .val (.int p1)], [], (126, 120, L, [Y, T, H2, H, RV, RU, ST, NS, I0, I1, I2, BO, FI, RG, GU, PU, MA, MN, MS, OT, SC], [256, 192, 384, 320, w, r5, 576, 640, 704], Lg)) ((0, some (.int r), (126, 120, L, [Y, T, H2, H, RV, RU, ST, NS, I0, I1, I2, BO, FI, RG, GU, PU, MA, MN, MS, OT, SC], [256, 192, 384, 320, w, r5, 576, 640, 704], Lg)) : AOut) := by
  suffices key : ∀ o : AOut, ((0, some (.int r), (126, 120, L, [Y, T, H2, H, RV, RU, ST, NS, I0, I1, I2, BO, FI, RG, GU, PU, MA, MN, MS, OT, SC], [256, 192, 384, 320, w, r5, 576, 640, 704], Lg)) : AOut) = o → Ev (d + 0, 0, 0, 332, 0, [.val (.ref 64), .val (.int p1)], [], (126, 120, L, [Y, T, H2, H, RV, RU, ST, NS, I0, I1, I2, BO, FI, RG, GU, PU, MA, MN, MS, OT, SC], [256, 192, 384, 320, w, r5, 576, 640, 704], Lg)) o from key _ rfl
  intro o ho
  by_cases zc1 : p1 = 0
  · have h := itp h zc1
    suffices e : Ev (d + 0, 0, 0, 332, 28, [.val (.ref 64), .val (.int p1)], [], (126, 120, L, [Y, T, H2, H, RV, RU, ST, NS, I0, I1, I2, BO, FI, RG, GU, PU, MA, MN, MS, OT, SC], [256, 192, 384, 320, w, r5, 576, 640, 704], Lg)) o from ev_sw [((0 : Int32), 28), ((1 : Int32), 33), ((2 : Int32), 41)] p1 (fun tt => (d + 0, 0, 0, 332, tt, [.val (.ref 64), .val (.int p1)], [], (126, 120, L, [Y, T, H2, H, RV, RU, ST, NS, I0, I1, I2, BO, FI, RG, GU, PU, MA, MN, MS, OT, SC], [256, 192, 384, 320, w, r5, 576, 640, 704], Lg))) 49 28 2 (fun f => by simp only [a_sw, if_pos zc1]) e (fun n => Eq.refl _)
    have ze2 := Option.some.inj h
    subst ze2
    exact ev_rete 3 ho (fun n => Eq.refl _)
  have h := itn h zc1
  by_cases zc3 : p1 = 1
  · have h := itp h zc3
    suffices e : Ev (d + 0, 0, 0, 332, 33, [.val (.ref 64), .val (.int p1)], [], (126, 120, L, [Y, T, H2, H, RV, RU, ST, NS, I0, I1, I2, BO, FI, RG, GU, PU, MA, MN, MS, OT, SC], [256, 192, 384, 320, w, r5, 576, 640, 704], Lg)) o from ev_sw [((0 : Int32), 28), ((1 : Int32), 33), ((2 : Int32), 41)] p1 (fun tt => (d + 0, 0, 0, 332, tt, [.val (.ref 64), .val (.int p1)], [], (126, 120, L, [Y, T, H2, H, RV, RU, ST, NS, I0, I1, I2, BO, FI, RG, GU, PU, MA, MN, MS, OT, SC], [256, 192, 384, 320, w, r5, 576, 640, 704], Lg))) 49 33 2 (fun f => by simp only [a_sw, if_neg zc1, if_pos zc3]) e (fun n => Eq.refl _)
    have ze4 := Option.some.inj h
    subst ze4
    exact ev_rete 4 ho (fun n => Eq.refl _)
  have h := itn h zc3
  by_cases zc5 : p1 = 2
  · have h := itp h zc5
    suffices e : Ev (d + 0, 0, 0, 332, 41, [.val (.ref 64), .val (.int p1)], [], (126, 120, L, [Y, T, H2, H, RV, RU, ST, NS, I0, I1, I2, BO, FI, RG, GU, PU, MA, MN, MS, OT, SC], [256, 192, 384, 320, w, r5, 576, 640, 704], Lg)) o from ev_sw [((0 : Int32), 28), ((1 : Int32), 33), ((2 : Int32), 41)] p1 (fun tt => (d + 0, 0, 0, 332, tt, [.val (.ref 64), .val (.int p1)], [], (126, 120, L, [Y, T, H2, H, RV, RU, ST, NS, I0, I1, I2, BO, FI, RG, GU, PU, MA, MN, MS, OT, SC], [256, 192, 384, 320, w, r5, 576, 640, 704], Lg))) 49 41 2 (fun f => by simp only [a_sw, if_neg zc1, if_neg zc3, if_pos zc5]) e (fun n => Eq.refl _)
    have ze6 := Option.some.inj h
    subst ze6
    exact ev_rete 4 ho (fun n => Eq.refl _)
  have h := itn h zc5
  suffices e : Ev (d + 0, 0, 0, 332, 49, [.val (.ref 64), .val (.int p1)], [], (126, 120, L, [Y, T, H2, H, RV, RU, ST, NS, I0, I1, I2, BO, FI, RG, GU, PU, MA, MN, MS, OT, SC], [256, 192, 384, 320, w, r5, 576, 640, 704], Lg)) o from ev_sw [((0 : Int32), 28), ((1 : Int32), 33), ((2 : Int32), 41)] p1 (fun tt => (d + 0, 0, 0, 332, tt, [.val (.ref 64), .val (.int p1)], [], (126, 120, L, [Y, T, H2, H, RV, RU, ST, NS, I0, I1, I2, BO, FI, RG, GU, PU, MA, MN, MS, OT, SC], [256, 192, 384, 320, w, r5, 576, 640, 704], Lg))) 49 49 2 (fun f => by simp only [a_sw, if_neg zc1, if_neg zc3, if_neg zc5]) e (fun n => Eq.refl _)
  have ze7 := Option.some.inj h
  subst ze7
  exact ev_rete 2 ho (fun n => Eq.refl _)
