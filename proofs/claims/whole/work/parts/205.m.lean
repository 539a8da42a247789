/-! printed by program (gen/emitm.py): the reference's methods run as their functions say -/
set_option maxRecDepth 1000000 in
set_option maxHeartbeats 4000000 in
theorem R_f_M_isMeeting_0 (d : Nat) (Y T HA HB RA RB ST NS I0 I1 I2 BO FI RG GU PU MA MN MS OT SC : Nat → Nat → Int32) (r0 r1 r2 r3 w r5 r6 r7 r8 : Nat) (L : Nat) (Lg : Int64) (p1 : Int32) (p2 : Int32) {r : Int32 × (Nat → Nat → Int32)} (h : f_M_isMeeting MA p1 p2 = some r) : Ev (d + 1, 0, 0, 58, 0, [.val (.ref 1088), .val (.int p1), .val (.int p2)], [], (126, 120, L, [Y, T, HA, HB, RA, RB, ST, NS, I0, I1, I2, BO, FI, RG, GU, PU, MA, MN, MS, OT, SC], [r0, r1, r2, r3, w, r5, r6, r7, r8], Lg)) ((0, some (.int r.1), (126, 120, L, [Y, T, HA, HB, RA, RB, ST, NS, I0, I1, I2, BO, FI, RG, GU, PU, r.2, MN, MS, OT, SC], [r0, r1, r2, r3, w, r5, r6, r7, r8], Lg)) : AOut) := by
  suffices key : ∀ o : AOut, ((0, some (.int r.1), (126, 120, L, [Y, T, HA, HB, RA, RB, ST, NS, I0, I1, I2, BO, FI, RG, GU, PU, r.2, MN, MS, OT, SC], [r0, r1, r2, r3, w, r5, r6, r7, r8], Lg)) : AOut) = o → Ev (d + 1, 0, 0, 58, 0, [.val (.ref 1088), .val (.int p1), .val (.int p2)], [], (126, 120, L, [Y, T, HA, HB, RA, RB, ST, NS, I0, I1, I2, BO, FI, RG, GU, PU, MA, MN, MS, OT, SC], [r0, r1, r2, r3, w, r5, r6, r7, r8], Lg)) o from key _ rfl
  intro o ho
  obtain ⟨x1, zh1, h⟩ := bnd h
  have zh1 : f_M_within p1 0 ((MA 0 26) - 1) = some x1 := zh1
  have ze2 := R_f_M_within_0 (d + 0) Y T HA HB RA RB ST NS I0 I1 I2 BO FI RG GU PU MA MN MS OT SC r0 r1 r2 r3 w r5 r6 r7 r8 L Lg p1 0 ((MA 0 26) - 1) zh1
  suffices e : Ev (d + 1, 0, 0, 58, 12, [.val (.ref 1088), .val (.int p1), .val (.int p2)], [.int x1, .ref 1088], (126, 120, L, [Y, T, HA, HB, RA, RB, ST, NS, I0, I1, I2, BO, FI, RG, GU, PU, MA, MN, MS, OT, SC], [r0, r1, r2, r3, w, r5, r6, r7, r8], Lg)) o from ev_call (fun v μ => (d + 1, 0, 0, 58, 12, [.val (.ref 1088), .val (.int p1), .val (.int p2)], v.toList ++ [.ref 1088], μ)) 8 ze2 e (fun n => Eq.refl _)
  obtain ⟨⟨x2, MA_3⟩, zh3, h⟩ := bnd h
  have zh3 : f_M_may MA x1 p2 0 = some (x2, MA_3) := zh3
  have ze4 := R_f_M_may_0 (d + 0) Y T HA HB RA RB ST NS I0 I1 I2 BO FI RG GU PU MA MN MS OT SC r0 r1 r2 r3 w r5 r6 r7 r8 L Lg x1 p2 0 zh3
  suffices e : Ev (d + 1, 0, 0, 58, 17, [.val (.ref 1088), .val (.int p1), .val (.int p2)], [.int x2], (126, 120, L, [Y, T, HA, HB, RA, RB, ST, NS, I0, I1, I2, BO, FI, RG, GU, PU, MA_3, MN, MS, OT, SC], [r0, r1, r2, r3, w, r5, r6, r7, r8], Lg)) o from ev_call (fun v μ => (d + 1, 0, 0, 58, 17, [.val (.ref 1088), .val (.int p1), .val (.int p2)], v.toList ++ [], μ)) 3 ze4 e (fun n => Eq.refl _)
  have ze5 := Option.some.inj h
  subst ze5
  exact ev_rete 1 ho (fun n => Eq.refl _)
set_option maxRecDepth 1000000 in
set_option maxHeartbeats 4000000 in
theorem R_f_M_isRoom_0 (d : Nat) (Y T HA HB RA RB ST NS I0 I1 I2 BO FI RG GU PU MA MN MS OT SC : Nat → Nat → Int32) (r0 r1 r2 r3 w r5 r6 r7 r8 : Nat) (L : Nat) (Lg : Int64) (p1 : Int32) (p2 : Int32) {r : Int32 × (Nat → Nat → Int32)} (h : f_M_isRoom MA p1 p2 = some r) : Ev (d + 1, 0, 0, 59, 0, [.val (.ref 1088), .val (.int p1), .val (.int p2)], [], (126, 120, L, [Y, T, HA, HB, RA, RB, ST, NS, I0, I1, I2, BO, FI, RG, GU, PU, MA, MN, MS, OT, SC], [r0, r1, r2, r3, w, r5, r6, r7, r8], Lg)) ((0, some (.int r.1), (126, 120, L, [Y, T, HA, HB, RA, RB, ST, NS, I0, I1, I2, BO, FI, RG, GU, PU, r.2, MN, MS, OT, SC], [r0, r1, r2, r3, w, r5, r6, r7, r8], Lg)) : AOut) := by
  suffices key : ∀ o : AOut, ((0, some (.int r.1), (126, 120, L, [Y, T, HA, HB, RA, RB, ST, NS, I0, I1, I2, BO, FI, RG, GU, PU, r.2, MN, MS, OT, SC], [r0, r1, r2, r3, w, r5, r6, r7, r8], Lg)) : AOut) = o → Ev (d + 1, 0, 0, 59, 0, [.val (.ref 1088), .val (.int p1), .val (.int p2)], [], (126, 120, L, [Y, T, HA, HB, RA, RB, ST, NS, I0, I1, I2, BO, FI, RG, GU, PU, MA, MN, MS, OT, SC], [r0, r1, r2, r3, w, r5, r6, r7, r8], Lg)) o from key _ rfl
  intro o ho
  obtain ⟨x1, zh1, h⟩ := bnd h
  have zh1 : f_M_within p1 0 ((MA 0 24) - 1) = some x1 := zh1
  have ze2 := R_f_M_within_0 (d + 0) Y T HA HB RA RB ST NS I0 I1 I2 BO FI RG GU PU MA MN MS OT SC r0 r1 r2 r3 w r5 r6 r7 r8 L Lg p1 0 ((MA 0 24) - 1) zh1
  suffices e : Ev (d + 1, 0, 0, 59, 12, [.val (.ref 1088), .val (.int p1), .val (.int p2)], [.int x1, .ref 1088], (126, 120, L, [Y, T, HA, HB, RA, RB, ST, NS, I0, I1, I2, BO, FI, RG, GU, PU, MA, MN, MS, OT, SC], [r0, r1, r2, r3, w, r5, r6, r7, r8], Lg)) o from ev_call (fun v μ => (d + 1, 0, 0, 59, 12, [.val (.ref 1088), .val (.int p1), .val (.int p2)], v.toList ++ [.ref 1088], μ)) 8 ze2 e (fun n => Eq.refl _)
  obtain ⟨⟨x2, MA_3⟩, zh3, h⟩ := bnd h
  have zh3 : f_M_may MA x1 p2 0 = some (x2, MA_3) := zh3
  have ze4 := R_f_M_may_0 (d + 0) Y T HA HB RA RB ST NS I0 I1 I2 BO FI RG GU PU MA MN MS OT SC r0 r1 r2 r3 w r5 r6 r7 r8 L Lg x1 p2 0 zh3
  suffices e : Ev (d + 1, 0, 0, 59, 17, [.val (.ref 1088), .val (.int p1), .val (.int p2)], [.int x2], (126, 120, L, [Y, T, HA, HB, RA, RB, ST, NS, I0, I1, I2, BO, FI, RG, GU, PU, MA_3, MN, MS, OT, SC], [r0, r1, r2, r3, w, r5, r6, r7, r8], Lg)) o from ev_call (fun v μ => (d + 1, 0, 0, 59, 17, [.val (.ref 1088), .val (.int p1), .val (.int p2)], v.toList ++ [], μ)) 3 ze4 e (fun n => Eq.refl _)
  have ze5 := Option.some.inj h
  subst ze5
  exact ev_rete 1 ho (fun n => Eq.refl _)
set_option maxRecDepth 1000000 in
set_option maxHeartbeats 4000000 in
theorem R_f_M_isPerson_0 (d : Nat) (Y T HA HB RA RB ST NS I0 I1 I2 BO FI RG GU PU MA MN MS OT SC : Nat → Nat → Int32) (r0 r1 r2 r3 w r5 r6 r7 r8 : Nat) (L : Nat) (Lg : Int64) (p1 : Int32) (p2 : Int32) {r : Int32 × (Nat → Nat → Int32)} (h : f_M_isPerson MA p1 p2 = some r) : Ev (d + 1, 0, 0, 60, 0, [.val (.ref 1088), .val (.int p1), .val (.int p2)], [], (126, 120, L, [Y, T, HA, HB, RA, RB, ST, NS, I0, I1, I2, BO, FI, RG, GU, PU, MA, MN, MS, OT, SC], [r0, r1, r2, r3, w, r5, r6, r7, r8], Lg)) ((0, some (.int r.1), (126, 120, L, [Y, T, HA, HB, RA, RB, ST, NS, I0, I1, I2, BO, FI, RG, GU, PU, r.2, MN, MS, OT, SC], [r0, r1, r2, r3, w, r5, r6, r7, r8], Lg)) : AOut) := by
  suffices key : ∀ o : AOut, ((0, some (.int r.1), (126, 120, L, [Y, T, HA, HB, RA, RB, ST, NS, I0, I1, I2, BO, FI, RG, GU, PU, r.2, MN, MS, OT, SC], [r0, r1, r2, r3, w, r5, r6, r7, r8], Lg)) : AOut) = o → Ev (d + 1, 0, 0, 60, 0, [.val (.ref 1088), .val (.int p1), .val (.int p2)], [], (126, 120, L, [Y, T, HA, HB, RA, RB, ST, NS, I0, I1, I2, BO, FI, RG, GU, PU, MA, MN, MS, OT, SC], [r0, r1, r2, r3, w, r5, r6, r7, r8], Lg)) o from key _ rfl
  intro o ho
  obtain ⟨x1, zh1, h⟩ := bnd h
  have zh1 : f_M_within p1 0 ((MA 0 25) - 1) = some x1 := zh1
  have ze2 := R_f_M_within_0 (d + 0) Y T HA HB RA RB ST NS I0 I1 I2 BO FI RG GU PU MA MN MS OT SC r0 r1 r2 r3 w r5 r6 r7 r8 L Lg p1 0 ((MA 0 25) - 1) zh1
  suffices e : Ev (d + 1, 0, 0, 60, 12, [.val (.ref 1088), .val (.int p1), .val (.int p2)], [.int x1, .ref 1088], (126, 120, L, [Y, T, HA, HB, RA, RB, ST, NS, I0, I1, I2, BO, FI, RG, GU, PU, MA, MN, MS, OT, SC], [r0, r1, r2, r3, w, r5, r6, r7, r8], Lg)) o from ev_call (fun v μ => (d + 1, 0, 0, 60, 12, [.val (.ref 1088), .val (.int p1), .val (.int p2)], v.toList ++ [.ref 1088], μ)) 8 ze2 e (fun n => Eq.refl _)
  obtain ⟨⟨x2, MA_3⟩, zh3, h⟩ := bnd h
  have zh3 : f_M_may MA x1 p2 0 = some (x2, MA_3) := zh3
  have ze4 := R_f_M_may_0 (d + 0) Y T HA HB RA RB ST NS I0 I1 I2 BO FI RG GU PU MA MN MS OT SC r0 r1 r2 r3 w r5 r6 r7 r8 L Lg x1 p2 0 zh3
  suffices e : Ev (d + 1, 0, 0, 60, 17, [.val (.ref 1088), .val (.int p1), .val (.int p2)], [.int x2], (126, 120, L, [Y, T, HA, HB, RA, RB, ST, NS, I0, I1, I2, BO, FI, RG, GU, PU, MA_3, MN, MS, OT, SC], [r0, r1, r2, r3, w, r5, r6, r7, r8], Lg)) o from ev_call (fun v μ => (d + 1, 0, 0, 60, 17, [.val (.ref 1088), .val (.int p1), .val (.int p2)], v.toList ++ [], μ)) 3 ze4 e (fun n => Eq.refl _)
  have ze5 := Option.some.inj h
  subst ze5
  exact ev_rete 1 ho (fun n => Eq.refl _)
set_option maxRecDepth 1000000 in
set_option maxHeartbeats 4000000 in
theorem R_f_M_isHold_0 (d : Nat) (Y T HA HB RA RB ST NS I0 I1 I2 BO FI RG GU PU MA MN MS OT SC : Nat → Nat → Int32) (r0 r1 r2 r3 w r5 r6 r7 r8 : Nat) (L : Nat) (Lg : Int64) (p1 : Int32) (p2 : Int32) {r : Int32 × (Nat → Nat → Int32)} (h : f_M_isHold MA p1 p2 = some r) : Ev (d + 1, 0, 0, 61, 0, [.val (.ref 1088), .val (.int p1), .val (.int p2)], [], (126, 120, L, [Y, T, HA, HB, RA, RB, ST, NS, I0, I1, I2, BO, FI, RG, GU, PU, MA, MN, MS, OT, SC], [r0, r1, r2, r3, w, r5, r6, r7, r8], Lg)) ((0, some (.int r.1), (126, 120, L, [Y, T, HA, HB, RA, RB, ST, NS, I0, I1, I2, BO, FI, RG, GU, PU, r.2, MN, MS, OT, SC], [r0, r1, r2, r3, w, r5, r6, r7, r8], Lg)) : AOut) := by
  suffices key : ∀ o : AOut, ((0, some (.int r.1), (126, 120, L, [Y, T, HA, HB, RA, RB, ST, NS, I0, I1, I2, BO, FI, RG, GU, PU, r.2, MN, MS, OT, SC], [r0, r1, r2, r3, w, r5, r6, r7, r8], Lg)) : AOut) = o → Ev (d + 1, 0, 0, 61, 0, [.val (.ref 1088), .val (.int p1), .val (.int p2)], [], (126, 120, L, [Y, T, HA, HB, RA, RB, ST, NS, I0, I1, I2, BO, FI, RG, GU, PU, MA, MN, MS, OT, SC], [r0, r1, r2, r3, w, r5, r6, r7, r8], Lg)) o from key _ rfl
  intro o ho
  obtain ⟨x1, zh1, h⟩ := bnd h
  have zh1 : f_M_within p1 0 ((MA 0 27) - 1) = some x1 := zh1
  have ze2 := R_f_M_within_0 (d + 0) Y T HA HB RA RB ST NS I0 I1 I2 BO FI RG GU PU MA MN MS OT SC r0 r1 r2 r3 w r5 r6 r7 r8 L Lg p1 0 ((MA 0 27) - 1) zh1
  suffices e : Ev (d + 1, 0, 0, 61, 12, [.val (.ref 1088), .val (.int p1), .val (.int p2)], [.int x1, .ref 1088], (126, 120, L, [Y, T, HA, HB, RA, RB, ST, NS, I0, I1, I2, BO, FI, RG, GU, PU, MA, MN, MS, OT, SC], [r0, r1, r2, r3, w, r5, r6, r7, r8], Lg)) o from ev_call (fun v μ => (d + 1, 0, 0, 61, 12, [.val (.ref 1088), .val (.int p1), .val (.int p2)], v.toList ++ [.ref 1088], μ)) 8 ze2 e (fun n => Eq.refl _)
  obtain ⟨⟨x2, MA_3⟩, zh3, h⟩ := bnd h
  have zh3 : f_M_may MA x1 p2 0 = some (x2, MA_3) := zh3
  have ze4 := R_f_M_may_0 (d + 0) Y T HA HB RA RB ST NS I0 I1 I2 BO FI RG GU PU MA MN MS OT SC r0 r1 r2 r3 w r5 r6 r7 r8 L Lg x1 p2 0 zh3
  suffices e : Ev (d + 1, 0, 0, 61, 17, [.val (.ref 1088), .val (.int p1), .val (.int p2)], [.int x2], (126, 120, L, [Y, T, HA, HB, RA, RB, ST, NS, I0, I1, I2, BO, FI, RG, GU, PU, MA_3, MN, MS, OT, SC], [r0, r1, r2, r3, w, r5, r6, r7, r8], Lg)) o from ev_call (fun v μ => (d + 1, 0, 0, 61, 17, [.val (.ref 1088), .val (.int p1), .val (.int p2)], v.toList ++ [], μ)) 3 ze4 e (fun n => Eq.refl _)
  have ze5 := Option.some.inj h
  subst ze5
  exact ev_rete 1 ho (fun n => Eq.refl _)
set_option maxRecDepth 1000000 in
set_option maxHeartbeats 4000000 in
theorem R_f_M_isFixed_0 (d : Nat) (Y T HA HB RA RB ST NS I0 I1 I2 BO FI RG GU PU MA MN MS OT SC : Nat → Nat → Int32) (r0 r1 r2 r3 w r5 r6 r7 r8 : Nat) (L : Nat) (Lg : Int64) (p1 : Int32) {r : Int32} (h : f_M_isFixed MA p1 = some r) : Ev (d + 0, 0, 0, 62, 0, [.val (.ref 1088), .val (.int p1)], [], (126, 120, L, [Y, T, HA, HB, RA, RB, ST, NS, I0, I1, I2, BO, FI, RG, GU, PU, MA, MN, MS, OT, SC], [r0, r1, r2, r3, w, r5, r6, r7, r8], Lg)) ((0, some (.int r), (126, 120, L, [Y, T, HA, HB, RA, RB, ST, NS, I0, I1, I2, BO, FI, RG, GU, PU, MA, MN, MS, OT, SC], [r0, r1, r2, r3, w, r5, r6, r7, r8], Lg)) : AOut) := by
  suffices key : ∀ o : AOut, ((0, some (.int r), (126, 120, L, [Y, T, HA, HB, RA, RB, ST, NS, I0, I1, I2, BO, FI, RG, GU, PU, MA, MN, MS, OT, SC], [r0, r1, r2, r3, w, r5, r6, r7, r8], Lg)) : AOut) = o → Ev (d + 0, 0, 0, 62, 0, [.val (.ref 1088), .val (.int p1)], [], (126, 120, L, [Y, T, HA, HB, RA, RB, ST, NS, I0, I1, I2, BO, FI, RG, GU, PU, MA, MN, MS, OT, SC], [r0, r1, r2, r3, w, r5, r6, r7, r8], Lg)) o from key _ rfl
  intro o ho
  obtain ⟨x1, zh1, h⟩ := bnd h
  have zh1 : rdx (MA 5) 60 ((6 * p1) + 4) = some x1 := zh1
  suffices e : Ev (d + 0, 0, 0, 62, 11, [.val (.ref 1088), .val (.int p1)], [.int x1], (126, 120, L, [Y, T, HA, HB, RA, RB, ST, NS, I0, I1, I2, BO, FI, RG, GU, PU, MA, MN, MS, OT, SC], [r0, r1, r2, r3, w, r5, r6, r7, r8], Lg)) o from ev_opt (fun x1 => (d + 0, 0, 0, 62, 11, [.val (.ref 1088), .val (.int p1)], [.int x1], (126, 120, L, [Y, T, HA, HB, RA, RB, ST, NS, I0, I1, I2, BO, FI, RG, GU, PU, MA, MN, MS, OT, SC], [r0, r1, r2, r3, w, r5, r6, r7, r8], Lg))) 8 zh1 e (fun n => Eq.refl _)
  by_cases zc2 : x1 ≠ 1
  · have h := itp h zc2
    suffices e : Ev (d + 0, 0, 0, 62, 19, [.val (.ref 1088), .val (.int p1)], [], (126, 120, L, [Y, T, HA, HB, RA, RB, ST, NS, I0, I1, I2, BO, FI, RG, GU, PU, MA, MN, MS, OT, SC], [r0, r1, r2, r3, w, r5, r6, r7, r8], Lg)) o from ev_t (c := x1 ≠ 1) _ _ 2  zc2 e (fun n => Eq.refl _)
    have ze3 := Option.some.inj h
    subst ze3
    exact ev_rete 2 ho (fun n => Eq.refl _)
  · have h := itn h zc2
    suffices e : Ev (d + 0, 0, 0, 62, 15, [.val (.ref 1088), .val (.int p1)], [], (126, 120, L, [Y, T, HA, HB, RA, RB, ST, NS, I0, I1, I2, BO, FI, RG, GU, PU, MA, MN, MS, OT, SC], [r0, r1, r2, r3, w, r5, r6, r7, r8], Lg)) o from ev_f (c := x1 ≠ 1) _ _ 2  zc2 e (fun n => Eq.refl _)
    have ze4 := Option.some.inj h
    subst ze4
    exact ev_rete 3 ho (fun n => Eq.refl _)
set_option maxRecDepth 1000000 in
set_option maxHeartbeats 4000000 in
theorem R_f_M_isHeld_0 (d : Nat) (Y T HA HB RA RB ST NS I0 I1 I2 BO FI RG GU PU MA MN MS OT SC : Nat → Nat → Int32) (r0 r1 r2 r3 w r5 r6 r7 r8 : Nat) (L : Nat) (Lg : Int64) (p1 : Int32) {r : Int32} (h : f_M_isHeld MA p1 = some r) : Ev (d + 0, 0, 0, 63, 0, [.val (.ref 1088), .val (.int p1), .val a_unk], [], (126, 120, L, [Y, T, HA, HB, RA, RB, ST, NS, I0, I1, I2, BO, FI, RG, GU, PU, MA, MN, MS, OT, SC], [r0, r1, r2, r3, w, r5, r6, r7, r8], Lg)) ((0, some (.int r), (126, 120, L, [Y, T, HA, HB, RA, RB, ST, NS, I0, I1, I2, BO, FI, RG, GU, PU, MA, MN, MS, OT, SC], [r0, r1, r2, r3, w, r5, r6, r7, r8], Lg)) : AOut) := by
  suffices key : ∀ o : AOut, ((0, some (.int r), (126, 120, L, [Y, T, HA, HB, RA, RB, ST, NS, I0, I1, I2, BO, FI, RG, GU, PU, MA, MN, MS, OT, SC], [r0, r1, r2, r3, w, r5, r6, r7, r8], Lg)) : AOut) = o → Ev (d + 0, 0, 0, 63, 0, [.val (.ref 1088), .val (.int p1), .val a_unk], [], (126, 120, L, [Y, T, HA, HB, RA, RB, ST, NS, I0, I1, I2, BO, FI, RG, GU, PU, MA, MN, MS, OT, SC], [r0, r1, r2, r3, w, r5, r6, r7, r8], Lg)) o from key _ rfl
  intro o ho
  obtain ⟨zb1, zh2, h⟩ := bnd h
  suffices e : Ev (d + 0, 0, 0, 63, 2, [.val (.ref 1088), .val (.int p1), .val (.int 0)], [], (126, 120, L, [Y, T, HA, HB, RA, RB, ST, NS, I0, I1, I2, BO, FI, RG, GU, PU, MA, MN, MS, OT, SC], [r0, r1, r2, r3, w, r5, r6, r7, r8], Lg)) o from ev_b 2 e (fun n => Eq.refl _)
  refine ev_loop (δ := Unit) (fun a j => (d + 0, 0, 0, 63, 2, [.val (.ref 1088), .val (.int p1), .val (.int a)], [], (126, 120, L, [Y, T, HA, HB, RA, RB, ST, NS, I0, I1, I2, BO, FI, RG, GU, PU, MA, MN, MS, OT, SC], [r0, r1, r2, r3, w, r5, r6, r7, r8], Lg))) (fun b => sumE b (fun b => ∀ s4 : Value, Ev (d + 0, 0, 0, 63, 43, [.val (.ref 1088), .val (.int p1), .val s4], [], (126, 120, L, [Y, T, HA, HB, RA, RB, ST, NS, I0, I1, I2, BO, FI, RG, GU, PU, MA, MN, MS, OT, SC], [r0, r1, r2, r3, w, r5, r6, r7, r8], Lg)) o) (fun b => ((0, some (.int b), (126, 120, L, [Y, T, HA, HB, RA, RB, ST, NS, I0, I1, I2, BO, FI, RG, GU, PU, MA, MN, MS, OT, SC], [r0, r1, r2, r3, w, r5, r6, r7, r8], Lg)) : AOut) = o)) ?_ a_F 0 zb1 zh2 ?_ ()
  · rintro v1 zr6 zh5 zi3 zx4 ⟨⟩
    have zh5 : f_M_isHeld_l2 MA p1 v1 = some zr6 := zh5
    by_cases zc7 : (MA 0 27) ≤ v1
    · have zh5 := itp zh5 zc7
      suffices e : Ev (d + 0, 0, 0, 63, 43, [.val (.ref 1088), .val (.int p1), .val (.int v1)], [], (126, 120, L, [Y, T, HA, HB, RA, RB, ST, NS, I0, I1, I2, BO, FI, RG, GU, PU, MA, MN, MS, OT, SC], [r0, r1, r2, r3, w, r5, r6, r7, r8], Lg)) o from ev_t (c := (MA 0 27) ≤ v1) _ _ 4  zc7 e (fun n => Eq.refl _)
      exact ev_b 0 (zx4 _ (Option.some.inj zh5).symm (.int v1)) (fun n => Eq.refl _)
    · have zh5 := itn zh5 zc7
      suffices e : Ev (d + 0, 0, 0, 63, 10, [.val (.ref 1088), .val (.int p1), .val (.int v1)], [], (126, 120, L, [Y, T, HA, HB, RA, RB, ST, NS, I0, I1, I2, BO, FI, RG, GU, PU, MA, MN, MS, OT, SC], [r0, r1, r2, r3, w, r5, r6, r7, r8], Lg)) o from ev_f (c := (MA 0 27) ≤ v1) _ _ 4  zc7 e (fun n => Eq.refl _)
      obtain ⟨x2, zh8, zh5⟩ := bnd zh5
      have zh8 : rdx (MA 6) 16 (4 * v1) = some x2 := zh8
      suffices e : Ev (d + 0, 0, 0, 63, 18, [.val (.ref 1088), .val (.int p1), .val (.int v1)], [.int x2], (126, 120, L, [Y, T, HA, HB, RA, RB, ST, NS, I0, I1, I2, BO, FI, RG, GU, PU, MA, MN, MS, OT, SC], [r0, r1, r2, r3, w, r5, r6, r7, r8], Lg)) o from ev_opt (fun x2 => (d + 0, 0, 0, 63, 18, [.val (.ref 1088), .val (.int p1), .val (.int v1)], [.int x2], (126, 120, L, [Y, T, HA, HB, RA, RB, ST, NS, I0, I1, I2, BO, FI, RG, GU, PU, MA, MN, MS, OT, SC], [r0, r1, r2, r3, w, r5, r6, r7, r8], Lg))) 6 zh8 e (fun n => Eq.refl _)
      by_cases zc9 : x2 ≠ p1
      · have zh5 := itp zh5 zc9
        suffices e : Ev (d + 0, 0, 0, 63, 37, [.val (.ref 1088), .val (.int p1), .val (.int v1)], [], (126, 120, L, [Y, T, HA, HB, RA, RB, ST, NS, I0, I1, I2, BO, FI, RG, GU, PU, MA, MN, MS, OT, SC], [r0, r1, r2, r3, w, r5, r6, r7, r8], Lg)) o from ev_t (c := x2 ≠ p1) _ _ 2  zc9 e (fun n => Eq.refl _)
        exact ev_b 2 (zi3 _ (Option.some.inj zh5).symm ()) (fun n => Eq.refl _)
      · have zh5 := itn zh5 zc9
        suffices e : Ev (d + 0, 0, 0, 63, 22, [.val (.ref 1088), .val (.int p1), .val (.int v1)], [], (126, 120, L, [Y, T, HA, HB, RA, RB, ST, NS, I0, I1, I2, BO, FI, RG, GU, PU, MA, MN, MS, OT, SC], [r0, r1, r2, r3, w, r5, r6, r7, r8], Lg)) o from ev_f (c := x2 ≠ p1) _ _ 2  zc9 e (fun n => Eq.refl _)
        obtain ⟨x3, zh10, zh5⟩ := bnd zh5
        have zh10 : rdx (MA 6) 16 ((4 * v1) + 3) = some x3 := zh10
        suffices e : Ev (d + 0, 0, 0, 63, 32, [.val (.ref 1088), .val (.int p1), .val (.int v1)], [.int x3], (126, 120, L, [Y, T, HA, HB, RA, RB, ST, NS, I0, I1, I2, BO, FI, RG, GU, PU, MA, MN, MS, OT, SC], [r0, r1, r2, r3, w, r5, r6, r7, r8], Lg)) o from ev_opt (fun x3 => (d + 0, 0, 0, 63, 32, [.val (.ref 1088), .val (.int p1), .val (.int v1)], [.int x3], (126, 120, L, [Y, T, HA, HB, RA, RB, ST, NS, I0, I1, I2, BO, FI, RG, GU, PU, MA, MN, MS, OT, SC], [r0, r1, r2, r3, w, r5, r6, r7, r8], Lg))) 8 zh10 e (fun n => Eq.refl _)
        by_cases zc11 : x3 ≠ 0
        · have zh5 := itp zh5 zc11
          suffices e : Ev (d + 0, 0, 0, 63, 37, [.val (.ref 1088), .val (.int p1), .val (.int v1)], [], (126, 120, L, [Y, T, HA, HB, RA, RB, ST, NS, I0, I1, I2, BO, FI, RG, GU, PU, MA, MN, MS, OT, SC], [r0, r1, r2, r3, w, r5, r6, r7, r8], Lg)) o from ev_t (c := x3 ≠ 0) _ _ 1  zc11 e (fun n => Eq.refl _)
          exact ev_b 2 (zi3 _ (Option.some.inj zh5).symm ()) (fun n => Eq.refl _)
        · have zh5 := itn zh5 zc11
          suffices e : Ev (d + 0, 0, 0, 63, 35, [.val (.ref 1088), .val (.int p1), .val (.int v1)], [], (126, 120, L, [Y, T, HA, HB, RA, RB, ST, NS, I0, I1, I2, BO, FI, RG, GU, PU, MA, MN, MS, OT, SC], [r0, r1, r2, r3, w, r5, r6, r7, r8], Lg)) o from ev_f (c := x3 ≠ 0) _ _ 1  zc11 e (fun n => Eq.refl _)
          exact ev_rete 2 (zx4 _ (Option.some.inj zh5).symm) (fun n => Eq.refl _)
  · rcases zb1 with ⟨⟩ | zr6
    · intro s4
      have ze12 := Option.some.inj h
      subst ze12
      exact ev_rete 2 ho (fun n => Eq.refl _)
    · have zh13 : some zr6 = some r := h
      exact (congrArg (fun q => ((0, some (.int q), (126, 120, L, [Y, T, HA, HB, RA, RB, ST, NS, I0, I1, I2, BO, FI, RG, GU, PU, MA, MN, MS, OT, SC], [r0, r1, r2, r3, w, r5, r6, r7, r8], Lg)) : AOut)) (Option.some.inj zh13)).trans ho
set_option maxRecDepth 1000000 in
set_option maxHeartbeats 4000000 in
theorem R_f_M_mayIn_0 (d : Nat) (Y T HA HB RA RB ST NS I0 I1 I2 BO FI RG GU PU MA MN MS OT SC : Nat → Nat → Int32) (r0 r1 r2 r3 w r5 r6 r7 r8 : Nat) (L : Nat) (Lg : Int64) (p1 : Int32) {r : Int32} (h : f_M_mayIn MA p1 = some r) : Ev (d + 0, 0, 0, 64, 0, [.val (.ref 1088), .val (.int p1)], [], (126, 120, L, [Y, T, HA, HB, RA, RB, ST, NS, I0, I1, I2, BO, FI, RG, GU, PU, MA, MN, MS, OT, SC], [r0, r1, r2, r3, w, r5, r6, r7, r8], Lg)) ((0, some (.int r), (126, 120, L, [Y, T, HA, HB, RA, RB, ST, NS, I0, I1, I2, BO, FI, RG, GU, PU, MA, MN, MS, OT, SC], [r0, r1, r2, r3, w, r5, r6, r7, r8], Lg)) : AOut) := by
  suffices key : ∀ o : AOut, ((0, some (.int r), (126, 120, L, [Y, T, HA, HB, RA, RB, ST, NS, I0, I1, I2, BO, FI, RG, GU, PU, MA, MN, MS, OT, SC], [r0, r1, r2, r3, w, r5, r6, r7, r8], Lg)) : AOut) = o → Ev (d + 0, 0, 0, 64, 0, [.val (.ref 1088), .val (.int p1)], [], (126, 120, L, [Y, T, HA, HB, RA, RB, ST, NS, I0, I1, I2, BO, FI, RG, GU, PU, MA, MN, MS, OT, SC], [r0, r1, r2, r3, w, r5, r6, r7, r8], Lg)) o from key _ rfl
  intro o ho
  obtain ⟨x1, zh1, h⟩ := bnd h
  have zh1 : rdx (MA 5) 60 ((6 * p1) + 3) = some x1 := zh1
  suffices e : Ev (d + 0, 0, 0, 64, 11, [.val (.ref 1088), .val (.int p1)], [.int x1], (126, 120, L, [Y, T, HA, HB, RA, RB, ST, NS, I0, I1, I2, BO, FI, RG, GU, PU, MA, MN, MS, OT, SC], [r0, r1, r2, r3, w, r5, r6, r7, r8], Lg)) o from ev_opt (fun x1 => (d + 0, 0, 0, 64, 11, [.val (.ref 1088), .val (.int p1)], [.int x1], (126, 120, L, [Y, T, HA, HB, RA, RB, ST, NS, I0, I1, I2, BO, FI, RG, GU, PU, MA, MN, MS, OT, SC], [r0, r1, r2, r3, w, r5, r6, r7, r8], Lg))) 8 zh1 e (fun n => Eq.refl _)
  by_cases zc2 : x1 ≠ 0
  · have h := itp h zc2
    suffices e : Ev (d + 0, 0, 0, 64, 25, [.val (.ref 1088), .val (.int p1)], [], (126, 120, L, [Y, T, HA, HB, RA, RB, ST, NS, I0, I1, I2, BO, FI, RG, GU, PU, MA, MN, MS, OT, SC], [r0, r1, r2, r3, w, r5, r6, r7, r8], Lg)) o from ev_t (c := x1 ≠ 0) _ _ 1  zc2 e (fun n => Eq.refl _)
    obtain ⟨x2, zh3, h⟩ := bnd h
    have zh3 : rdx (MA 5) 60 ((6 * p1) + 3) = some x2 := zh3
    suffices e : Ev (d + 0, 0, 0, 64, 36, [.val (.ref 1088), .val (.int p1)], [.int x2], (126, 120, L, [Y, T, HA, HB, RA, RB, ST, NS, I0, I1, I2, BO, FI, RG, GU, PU, MA, MN, MS, OT, SC], [r0, r1, r2, r3, w, r5, r6, r7, r8], Lg)) o from ev_opt (fun x2 => (d + 0, 0, 0, 64, 36, [.val (.ref 1088), .val (.int p1)], [.int x2], (126, 120, L, [Y, T, HA, HB, RA, RB, ST, NS, I0, I1, I2, BO, FI, RG, GU, PU, MA, MN, MS, OT, SC], [r0, r1, r2, r3, w, r5, r6, r7, r8], Lg))) 8 zh3 e (fun n => Eq.refl _)
    have ze4 := Option.some.inj h
    subst ze4
    exact ev_rete 1 ho (fun n => Eq.refl _)
  · have h := itn h zc2
    suffices e : Ev (d + 0, 0, 0, 64, 14, [.val (.ref 1088), .val (.int p1)], [], (126, 120, L, [Y, T, HA, HB, RA, RB, ST, NS, I0, I1, I2, BO, FI, RG, GU, PU, MA, MN, MS, OT, SC], [r0, r1, r2, r3, w, r5, r6, r7, r8], Lg)) o from ev_f (c := x1 ≠ 0) _ _ 1  zc2 e (fun n => Eq.refl _)
    have ze5 := Option.some.inj h
    subst ze5
    exact ev_rete 8 ho (fun n => Eq.refl _)
set_option maxRecDepth 1000000 in
set_option maxHeartbeats 4000000 in
theorem R_f_M_busyIn_0 (d : Nat) (Y T HA HB RA RB ST NS I0 I1 I2 BO FI RG GU PU MA MN MS OT SC : Nat → Nat → Int32) (r0 r1 r2 r3 w r5 r6 r7 r8 : Nat) (L : Nat) (Lg : Int64) (p1 : Int32) {r : Int32} (h : f_M_busyIn MA p1 = some r) : Ev (d + 0, 0, 0, 65, 0, [.val (.ref 1088), .val (.int p1), .val a_unk, .val a_unk], [], (126, 120, L, [Y, T, HA, HB, RA, RB, ST, NS, I0, I1, I2, BO, FI, RG, GU, PU, MA, MN, MS, OT, SC], [r0, r1, r2, r3, w, r5, r6, r7, r8], Lg)) ((0, some (.int r), (126, 120, L, [Y, T, HA, HB, RA, RB, ST, NS, I0, I1, I2, BO, FI, RG, GU, PU, MA, MN, MS, OT, SC], [r0, r1, r2, r3, w, r5, r6, r7, r8], Lg)) : AOut) := by
  suffices key : ∀ o : AOut, ((0, some (.int r), (126, 120, L, [Y, T, HA, HB, RA, RB, ST, NS, I0, I1, I2, BO, FI, RG, GU, PU, MA, MN, MS, OT, SC], [r0, r1, r2, r3, w, r5, r6, r7, r8], Lg)) : AOut) = o → Ev (d + 0, 0, 0, 65, 0, [.val (.ref 1088), .val (.int p1), .val a_unk, .val a_unk], [], (126, 120, L, [Y, T, HA, HB, RA, RB, ST, NS, I0, I1, I2, BO, FI, RG, GU, PU, MA, MN, MS, OT, SC], [r0, r1, r2, r3, w, r5, r6, r7, r8], Lg)) o from key _ rfl
  intro o ho
  obtain ⟨v6, zh2, h⟩ := bnd h
  suffices e : Ev (d + 0, 0, 0, 65, 4, [.val (.ref 1088), .val (.int p1), .val (.int 0), .val (.int 0)], [], (126, 120, L, [Y, T, HA, HB, RA, RB, ST, NS, I0, I1, I2, BO, FI, RG, GU, PU, MA, MN, MS, OT, SC], [r0, r1, r2, r3, w, r5, r6, r7, r8], Lg)) o from ev_b 4 e (fun n => Eq.refl _)
  refine ev_loop (δ := Unit) (fun a j => (d + 0, 0, 0, 65, 4, [.val (.ref 1088), .val (.int p1), .val (.int a.1), .val (.int a.2)], [], (126, 120, L, [Y, T, HA, HB, RA, RB, ST, NS, I0, I1, I2, BO, FI, RG, GU, PU, MA, MN, MS, OT, SC], [r0, r1, r2, r3, w, r5, r6, r7, r8], Lg))) (fun b => ∀ s7 : Value, Ev (d + 0, 0, 0, 65, 54, [.val (.ref 1088), .val (.int p1), .val (.int b), .val s7], [], (126, 120, L, [Y, T, HA, HB, RA, RB, ST, NS, I0, I1, I2, BO, FI, RG, GU, PU, MA, MN, MS, OT, SC], [r0, r1, r2, r3, w, r5, r6, r7, r8], Lg)) o) ?_ a_F (0, 0) v6 zh2 ?_ ()
  · rintro ⟨v1, v2⟩ zr6 zh5 zi3 zx4 ⟨⟩
    have zh5 : f_M_busyIn_l4 MA p1 v1 v2 = some zr6 := zh5
    by_cases zc7 : (MA 0 25) ≤ v2
    · have zh5 := itp zh5 zc7
      suffices e : Ev (d + 0, 0, 0, 65, 54, [.val (.ref 1088), .val (.int p1), .val (.int v1), .val (.int v2)], [], (126, 120, L, [Y, T, HA, HB, RA, RB, ST, NS, I0, I1, I2, BO, FI, RG, GU, PU, MA, MN, MS, OT, SC], [r0, r1, r2, r3, w, r5, r6, r7, r8], Lg)) o from ev_t (c := (MA 0 25) ≤ v2) _ _ 4  zc7 e (fun n => Eq.refl _)
      exact ev_b 0 (zx4 _ (Option.some.inj zh5).symm (.int v2)) (fun n => Eq.refl _)
    · have zh5 := itn zh5 zc7
      suffices e : Ev (d + 0, 0, 0, 65, 12, [.val (.ref 1088), .val (.int p1), .val (.int v1), .val (.int v2)], [], (126, 120, L, [Y, T, HA, HB, RA, RB, ST, NS, I0, I1, I2, BO, FI, RG, GU, PU, MA, MN, MS, OT, SC], [r0, r1, r2, r3, w, r5, r6, r7, r8], Lg)) o from ev_f (c := (MA 0 25) ≤ v2) _ _ 4  zc7 e (fun n => Eq.refl _)
      obtain ⟨x3, zh8, zh5⟩ := bnd zh5
      have zh8 : rdx (MA 5) 60 ((6 * p1) + 2) = some x3 := zh8
      suffices e : Ev (d + 0, 0, 0, 65, 24, [.val (.ref 1088), .val (.int p1), .val (.int v1), .val (.int v2)], [.int x3, .int v1], (126, 120, L, [Y, T, HA, HB, RA, RB, ST, NS, I0, I1, I2, BO, FI, RG, GU, PU, MA, MN, MS, OT, SC], [r0, r1, r2, r3, w, r5, r6, r7, r8], Lg)) o from ev_opt (fun x3 => (d + 0, 0, 0, 65, 24, [.val (.ref 1088), .val (.int p1), .val (.int v1), .val (.int v2)], [.int x3, .int v1], (126, 120, L, [Y, T, HA, HB, RA, RB, ST, NS, I0, I1, I2, BO, FI, RG, GU, PU, MA, MN, MS, OT, SC], [r0, r1, r2, r3, w, r5, r6, r7, r8], Lg))) 9 zh8 e (fun n => Eq.refl _)
      obtain ⟨zt9, zh10, zh5⟩ := bnd zh5
      have zj11 : ∀ (v5 : Int32), v5 = zt9 → Ev (d + 0, 0, 0, 65, 46, [.val (.ref 1088), .val (.int p1), .val (.int v1), .val (.int v2)], [.int v5, .int v1], (126, 120, L, [Y, T, HA, HB, RA, RB, ST, NS, I0, I1, I2, BO, FI, RG, GU, PU, MA, MN, MS, OT, SC], [r0, r1, r2, r3, w, r5, r6, r7, r8], Lg)) o := by
        intro v5 ze12
        subst ze12
        exact ev_b 4 (zi3 _ (Option.some.inj zh5).symm ()) (fun n => Eq.refl _)
      by_cases zc13 : ((a_shr x3 v2) &&& 1) ≠ 1
      · have zh10 := itp zh10 zc13
        suffices e : Ev (d + 0, 0, 0, 65, 45, [.val (.ref 1088), .val (.int p1), .val (.int v1), .val (.int v2)], [.int v1], (126, 120, L, [Y, T, HA, HB, RA, RB, ST, NS, I0, I1, I2, BO, FI, RG, GU, PU, MA, MN, MS, OT, SC], [r0, r1, r2, r3, w, r5, r6, r7, r8], Lg)) o from ev_t (c := ((a_shr x3 v2) &&& 1) ≠ 1) _ _ 6  zc13 e (fun n => Eq.refl _)
        exact ev_b 1 (zj11 0 (Option.some.inj zh10) ) (fun n => Eq.refl _)
      · have zh10 := itn zh10 zc13
        suffices e : Ev (d + 0, 0, 0, 65, 32, [.val (.ref 1088), .val (.int p1), .val (.int v1), .val (.int v2)], [.int v1], (126, 120, L, [Y, T, HA, HB, RA, RB, ST, NS, I0, I1, I2, BO, FI, RG, GU, PU, MA, MN, MS, OT, SC], [r0, r1, r2, r3, w, r5, r6, r7, r8], Lg)) o from ev_f (c := ((a_shr x3 v2) &&& 1) ≠ 1) _ _ 6  zc13 e (fun n => Eq.refl _)
        obtain ⟨x4, zh14, zh10⟩ := bnd zh10
        have zh14 : rdx (MA 4) 24 ((3 * v2) + 2) = some x4 := zh14
        suffices e : Ev (d + 0, 0, 0, 65, 42, [.val (.ref 1088), .val (.int p1), .val (.int v1), .val (.int v2)], [.int x4, .int v1], (126, 120, L, [Y, T, HA, HB, RA, RB, ST, NS, I0, I1, I2, BO, FI, RG, GU, PU, MA, MN, MS, OT, SC], [r0, r1, r2, r3, w, r5, r6, r7, r8], Lg)) o from ev_opt (fun x4 => (d + 0, 0, 0, 65, 42, [.val (.ref 1088), .val (.int p1), .val (.int v1), .val (.int v2)], [.int x4, .int v1], (126, 120, L, [Y, T, HA, HB, RA, RB, ST, NS, I0, I1, I2, BO, FI, RG, GU, PU, MA, MN, MS, OT, SC], [r0, r1, r2, r3, w, r5, r6, r7, r8], Lg))) 8 zh14 e (fun n => Eq.refl _)
        exact ev_b 1 (zj11 x4 (Option.some.inj zh10) ) (fun n => Eq.refl _)
  · skip
    intro s7
    have ze15 := Option.some.inj h
    subst ze15
    exact ev_rete 2 ho (fun n => Eq.refl _)
set_option maxRecDepth 1000000 in
set_option maxHeartbeats 4000000 in
theorem R_f_M_ownClash_0 (d : Nat) (Y T HA HB RA RB ST NS I0 I1 I2 BO FI RG GU PU MA MN MS OT SC : Nat → Nat → Int32) (r0 r1 r2 r3 w r5 r6 r7 r8 : Nat) (L : Nat) (Lg : Int64) (p1 : Int32) (p2 : Int32) {r : Int32} (h : f_M_ownClash MA p1 p2 = some r) : Ev (d + 1, 0, 0, 66, 0, [.val (.ref 1088), .val (.int p1), .val (.int p2), .val a_unk, .val a_unk], [], (126, 120, L, [Y, T, HA, HB, RA, RB, ST, NS, I0, I1, I2, BO, FI, RG, GU, PU, MA, MN, MS, OT, SC], [r0, r1, r2, r3, w, r5, r6, r7, r8], Lg)) ((0, some (.int r), (126, 120, L, [Y, T, HA, HB, RA, RB, ST, NS, I0, I1, I2, BO, FI, RG, GU, PU, MA, MN, MS, OT, SC], [r0, r1, r2, r3, w, r5, r6, r7, r8], Lg)) : AOut) := by
  suffices key : ∀ o : AOut, ((0, some (.int r), (126, 120, L, [Y, T, HA, HB, RA, RB, ST, NS, I0, I1, I2, BO, FI, RG, GU, PU, MA, MN, MS, OT, SC], [r0, r1, r2, r3, w, r5, r6, r7, r8], Lg)) : AOut) = o → Ev (d + 1, 0, 0, 66, 0, [.val (.ref 1088), .val (.int p1), .val (.int p2), .val a_unk, .val a_unk], [], (126, 120, L, [Y, T, HA, HB, RA, RB, ST, NS, I0, I1, I2, BO, FI, RG, GU, PU, MA, MN, MS, OT, SC], [r0, r1, r2, r3, w, r5, r6, r7, r8], Lg)) o from key _ rfl
  intro o ho
  suffices e : Ev (d + 1, 0, 0, 66, 3, [.val (.ref 1088), .val (.int p1), .val (.int p2), .val a_unk, .val a_unk], [.int (p2 / 3)], (126, 120, L, [Y, T, HA, HB, RA, RB, ST, NS, I0, I1, I2, BO, FI, RG, GU, PU, MA, MN, MS, OT, SC], [r0, r1, r2, r3, w, r5, r6, r7, r8], Lg)) o from ev_b 3 e (fun n => Eq.refl _)
  obtain ⟨x1, zh1, h⟩ := bnd h
  have zh1 : f_M_mayIn MA p1 = some x1 := zh1
  have ze2 := R_f_M_mayIn_0 (d + 0) Y T HA HB RA RB ST NS I0 I1 I2 BO FI RG GU PU MA MN MS OT SC r0 r1 r2 r3 w r5 r6 r7 r8 L Lg p1 zh1
  suffices e : Ev (d + 1, 0, 0, 66, 9, [.val (.ref 1088), .val (.int p1), .val (.int p2), .val (.int (p2 / 3)), .val a_unk], [.int x1], (126, 120, L, [Y, T, HA, HB, RA, RB, ST, NS, I0, I1, I2, BO, FI, RG, GU, PU, MA, MN, MS, OT, SC], [r0, r1, r2, r3, w, r5, r6, r7, r8], Lg)) o from ev_call (fun v μ => (d + 1, 0, 0, 66, 9, [.val (.ref 1088), .val (.int p1), .val (.int p2), .val (.int (p2 / 3)), .val a_unk], v.toList ++ [], μ)) 4 ze2 e (fun n => Eq.refl _)
  obtain ⟨zt3, zh4, h⟩ := bnd h
  have zj5 : ∀ (v2 : Int32), v2 = zt3 → Ev (d + 1, 0, 0, 66, 22, [.val (.ref 1088), .val (.int p1), .val (.int p2), .val (.int (p2 / 3)), .val a_unk], [.int v2], (126, 120, L, [Y, T, HA, HB, RA, RB, ST, NS, I0, I1, I2, BO, FI, RG, GU, PU, MA, MN, MS, OT, SC], [r0, r1, r2, r3, w, r5, r6, r7, r8], Lg)) o := by
    intro v2 ze6
    subst ze6
    obtain ⟨x3, zh7, h⟩ := bnd h
    have zh7 : f_M_busyIn MA p1 = some x3 := zh7
    have ze8 := R_f_M_busyIn_0 (d + 0) Y T HA HB RA RB ST NS I0 I1 I2 BO FI RG GU PU MA MN MS OT SC r0 r1 r2 r3 w r5 r6 r7 r8 L Lg p1 zh7
    suffices e : Ev (d + 1, 0, 0, 66, 31, [.val (.ref 1088), .val (.int p1), .val (.int p2), .val (.int (p2 / 3)), .val (.int v2)], [.int x3, .int v2], (126, 120, L, [Y, T, HA, HB, RA, RB, ST, NS, I0, I1, I2, BO, FI, RG, GU, PU, MA, MN, MS, OT, SC], [r0, r1, r2, r3, w, r5, r6, r7, r8], Lg)) o from ev_call (fun v μ => (d + 1, 0, 0, 66, 31, [.val (.ref 1088), .val (.int p1), .val (.int p2), .val (.int (p2 / 3)), .val (.int v2)], v.toList ++ [.int v2], μ)) 5 ze8 e (fun n => Eq.refl _)
    obtain ⟨zt9, zh10, h⟩ := bnd h
    have zj11 : ∀ (v4 : Int32), v4 = zt9 → Ev (d + 1, 0, 0, 66, 44, [.val (.ref 1088), .val (.int p1), .val (.int p2), .val (.int (p2 / 3)), .val (.int v2)], [.int v4, .int v2], (126, 120, L, [Y, T, HA, HB, RA, RB, ST, NS, I0, I1, I2, BO, FI, RG, GU, PU, MA, MN, MS, OT, SC], [r0, r1, r2, r3, w, r5, r6, r7, r8], Lg)) o := by
      intro v4 ze12
      subst ze12
      obtain ⟨x5, zh13, h⟩ := bnd h
      have zh13 : f_M_isHeld MA p2 = some x5 := zh13
      have ze14 := R_f_M_isHeld_0 (d + 0) Y T HA HB RA RB ST NS I0 I1 I2 BO FI RG GU PU MA MN MS OT SC r0 r1 r2 r3 w r5 r6 r7 r8 L Lg p2 zh13
      suffices e : Ev (d + 1, 0, 0, 66, 54, [.val (.ref 1088), .val (.int p1), .val (.int p2), .val (.int (p2 / 3)), .val (.int (v2 ||| v4))], [.int x5, .int (v2 ||| v4)], (126, 120, L, [Y, T, HA, HB, RA, RB, ST, NS, I0, I1, I2, BO, FI, RG, GU, PU, MA, MN, MS, OT, SC], [r0, r1, r2, r3, w, r5, r6, r7, r8], Lg)) o from ev_call (fun v μ => (d + 1, 0, 0, 66, 54, [.val (.ref 1088), .val (.int p1), .val (.int p2), .val (.int (p2 / 3)), .val (.int (v2 ||| v4))], v.toList ++ [.int (v2 ||| v4)], μ)) 6 ze14 e (fun n => Eq.refl _)
      obtain ⟨zt15, zh16, h⟩ := bnd h
      have zj17 : ∀ (v6 : Int32), v6 = zt15 → Ev (d + 1, 0, 0, 66, 63, [.val (.ref 1088), .val (.int p1), .val (.int p2), .val (.int (p2 / 3)), .val (.int (v2 ||| v4))], [.int v6, .int (v2 ||| v4)], (126, 120, L, [Y, T, HA, HB, RA, RB, ST, NS, I0, I1, I2, BO, FI, RG, GU, PU, MA, MN, MS, OT, SC], [r0, r1, r2, r3, w, r5, r6, r7, r8], Lg)) o := by
        intro v6 ze18
        subst ze18
        suffices e : Ev (d + 1, 0, 0, 66, 75, [.val (.ref 1088), .val (.int p1), .val (.int p2), .val (.int (p2 / 3)), .val (.int ((v2 ||| v4) ||| v6))], [.int (a_rem p2 3), .ref 1091, .int ((v2 ||| v4) ||| v6)], (126, 120, L, [Y, T, HA, HB, RA, RB, ST, NS, I0, I1, I2, BO, FI, RG, GU, PU, MA, MN, MS, OT, SC], [r0, r1, r2, r3, w, r5, r6, r7, r8], Lg)) o from ev_b 8 e (fun n => Eq.refl _)
        obtain ⟨x7, zh19, h⟩ := bnd h
        have zh19 : rdx (MA 3) 3 (a_rem p2 3) = some x7 := zh19
        suffices e : Ev (d + 1, 0, 0, 66, 76, [.val (.ref 1088), .val (.int p1), .val (.int p2), .val (.int (p2 / 3)), .val (.int ((v2 ||| v4) ||| v6))], [.int x7, .int ((v2 ||| v4) ||| v6)], (126, 120, L, [Y, T, HA, HB, RA, RB, ST, NS, I0, I1, I2, BO, FI, RG, GU, PU, MA, MN, MS, OT, SC], [r0, r1, r2, r3, w, r5, r6, r7, r8], Lg)) o from ev_opt (fun x7 => (d + 1, 0, 0, 66, 76, [.val (.ref 1088), .val (.int p1), .val (.int p2), .val (.int (p2 / 3)), .val (.int ((v2 ||| v4) ||| v6))], [.int x7, .int ((v2 ||| v4) ||| v6)], (126, 120, L, [Y, T, HA, HB, RA, RB, ST, NS, I0, I1, I2, BO, FI, RG, GU, PU, MA, MN, MS, OT, SC], [r0, r1, r2, r3, w, r5, r6, r7, r8], Lg))) 1 zh19 e (fun n => Eq.refl _)
        obtain ⟨x8, zh20, h⟩ := bnd h
        have zh20 : rdx (MA 5) 60 ((6 * p1) + 2) = some x8 := zh20
        suffices e : Ev (d + 1, 0, 0, 66, 87, [.val (.ref 1088), .val (.int p1), .val (.int p2), .val (.int (p2 / 3)), .val (.int ((v2 ||| v4) ||| v6))], [.int x8, .int x7, .int ((v2 ||| v4) ||| v6)], (126, 120, L, [Y, T, HA, HB, RA, RB, ST, NS, I0, I1, I2, BO, FI, RG, GU, PU, MA, MN, MS, OT, SC], [r0, r1, r2, r3, w, r5, r6, r7, r8], Lg)) o from ev_opt (fun x8 => (d + 1, 0, 0, 66, 87, [.val (.ref 1088), .val (.int p1), .val (.int p2), .val (.int (p2 / 3)), .val (.int ((v2 ||| v4) ||| v6))], [.int x8, .int x7, .int ((v2 ||| v4) ||| v6)], (126, 120, L, [Y, T, HA, HB, RA, RB, ST, NS, I0, I1, I2, BO, FI, RG, GU, PU, MA, MN, MS, OT, SC], [r0, r1, r2, r3, w, r5, r6, r7, r8], Lg))) 8 zh20 e (fun n => Eq.refl _)
        obtain ⟨x9, zh21, h⟩ := bnd h
        have zh21 : f_M_ones x8 = some x9 := zh21
        have ze22 := R_f_M_ones_0 (d + 0) Y T HA HB RA RB ST NS I0 I1 I2 BO FI RG GU PU MA MN MS OT SC r0 r1 r2 r3 w r5 r6 r7 r8 L Lg x8 zh21
        suffices e : Ev (d + 1, 0, 0, 66, 90, [.val (.ref 1088), .val (.int p1), .val (.int p2), .val (.int (p2 / 3)), .val (.int ((v2 ||| v4) ||| v6))], [.int x9, .int x7, .int ((v2 ||| v4) ||| v6)], (126, 120, L, [Y, T, HA, HB, RA, RB, ST, NS, I0, I1, I2, BO, FI, RG, GU, PU, MA, MN, MS, OT, SC], [r0, r1, r2, r3, w, r5, r6, r7, r8], Lg)) o from ev_call (fun v μ => (d + 1, 0, 0, 66, 90, [.val (.ref 1088), .val (.int p1), .val (.int p2), .val (.int (p2 / 3)), .val (.int ((v2 ||| v4) ||| v6))], v.toList ++ [.int x7, .int ((v2 ||| v4) ||| v6)], μ)) 1 ze22 e (fun n => Eq.refl _)
        obtain ⟨zt23, zh24, h⟩ := bnd h
        have zj25 : ∀ (v10 : Int32), v10 = zt23 → Ev (d + 1, 0, 0, 66, 99, [.val (.ref 1088), .val (.int p1), .val (.int p2), .val (.int (p2 / 3)), .val (.int ((v2 ||| v4) ||| v6))], [.int v10, .int ((v2 ||| v4) ||| v6)], (126, 120, L, [Y, T, HA, HB, RA, RB, ST, NS, I0, I1, I2, BO, FI, RG, GU, PU, MA, MN, MS, OT, SC], [r0, r1, r2, r3, w, r5, r6, r7, r8], Lg)) o := by
          intro v10 ze26
          subst ze26
          have ze27 := Option.some.inj h
          subst ze27
          exact ev_rete 2 ho (fun n => Eq.refl _)
        by_cases zc28 : x9 ≤ x7
        · have zh24 := itp zh24 zc28
          suffices e : Ev (d + 1, 0, 0, 66, 98, [.val (.ref 1088), .val (.int p1), .val (.int p2), .val (.int (p2 / 3)), .val (.int ((v2 ||| v4) ||| v6))], [.int ((v2 ||| v4) ||| v6)], (126, 120, L, [Y, T, HA, HB, RA, RB, ST, NS, I0, I1, I2, BO, FI, RG, GU, PU, MA, MN, MS, OT, SC], [r0, r1, r2, r3, w, r5, r6, r7, r8], Lg)) o from ev_t (c := x9 ≤ x7) _ _ 1  zc28 e (fun n => Eq.refl _)
          exact ev_b 1 (zj25 0 (Option.some.inj zh24) ) (fun n => Eq.refl _)
        · have zh24 := itn zh24 zc28
          suffices e : Ev (d + 1, 0, 0, 66, 93, [.val (.ref 1088), .val (.int p1), .val (.int p2), .val (.int (p2 / 3)), .val (.int ((v2 ||| v4) ||| v6))], [.int ((v2 ||| v4) ||| v6)], (126, 120, L, [Y, T, HA, HB, RA, RB, ST, NS, I0, I1, I2, BO, FI, RG, GU, PU, MA, MN, MS, OT, SC], [r0, r1, r2, r3, w, r5, r6, r7, r8], Lg)) o from ev_f (c := x9 ≤ x7) _ _ 1  zc28 e (fun n => Eq.refl _)
          exact ev_b 2 (zj25 16 (Option.some.inj zh24) ) (fun n => Eq.refl _)
      by_cases zc29 : x5 = 0
      · have zh16 := itp zh16 zc29
        suffices e : Ev (d + 1, 0, 0, 66, 62, [.val (.ref 1088), .val (.int p1), .val (.int p2), .val (.int (p2 / 3)), .val (.int (v2 ||| v4))], [.int (v2 ||| v4)], (126, 120, L, [Y, T, HA, HB, RA, RB, ST, NS, I0, I1, I2, BO, FI, RG, GU, PU, MA, MN, MS, OT, SC], [r0, r1, r2, r3, w, r5, r6, r7, r8], Lg)) o from ev_t (c := x5 = 0) _ _ 1  zc29 e (fun n => Eq.refl _)
        exact ev_b 1 (zj17 0 (Option.some.inj zh16) ) (fun n => Eq.refl _)
      · have zh16 := itn zh16 zc29
        suffices e : Ev (d + 1, 0, 0, 66, 57, [.val (.ref 1088), .val (.int p1), .val (.int p2), .val (.int (p2 / 3)), .val (.int (v2 ||| v4))], [.int (v2 ||| v4)], (126, 120, L, [Y, T, HA, HB, RA, RB, ST, NS, I0, I1, I2, BO, FI, RG, GU, PU, MA, MN, MS, OT, SC], [r0, r1, r2, r3, w, r5, r6, r7, r8], Lg)) o from ev_f (c := x5 = 0) _ _ 1  zc29 e (fun n => Eq.refl _)
        exact ev_b 2 (zj17 8 (Option.some.inj zh16) ) (fun n => Eq.refl _)
    by_cases zc30 : ((a_shr x3 (p2 / 3)) &&& 1) ≠ 1
    · have zh10 := itp zh10 zc30
      suffices e : Ev (d + 1, 0, 0, 66, 43, [.val (.ref 1088), .val (.int p1), .val (.int p2), .val (.int (p2 / 3)), .val (.int v2)], [.int v2], (126, 120, L, [Y, T, HA, HB, RA, RB, ST, NS, I0, I1, I2, BO, FI, RG, GU, PU, MA, MN, MS, OT, SC], [r0, r1, r2, r3, w, r5, r6, r7, r8], Lg)) o from ev_t (c := ((a_shr x3 (p2 / 3)) &&& 1) ≠ 1) _ _ 6  zc30 e (fun n => Eq.refl _)
      exact ev_b 1 (zj11 0 (Option.some.inj zh10) ) (fun n => Eq.refl _)
    · have zh10 := itn zh10 zc30
      suffices e : Ev (d + 1, 0, 0, 66, 39, [.val (.ref 1088), .val (.int p1), .val (.int p2), .val (.int (p2 / 3)), .val (.int v2)], [.int v2], (126, 120, L, [Y, T, HA, HB, RA, RB, ST, NS, I0, I1, I2, BO, FI, RG, GU, PU, MA, MN, MS, OT, SC], [r0, r1, r2, r3, w, r5, r6, r7, r8], Lg)) o from ev_f (c := ((a_shr x3 (p2 / 3)) &&& 1) ≠ 1) _ _ 6  zc30 e (fun n => Eq.refl _)
      exact ev_b 2 (zj11 2 (Option.some.inj zh10) ) (fun n => Eq.refl _)
  by_cases zc31 : ((a_shr x1 (p2 / 3)) &&& 1) ≠ 1
  · have zh4 := itp zh4 zc31
    suffices e : Ev (d + 1, 0, 0, 66, 21, [.val (.ref 1088), .val (.int p1), .val (.int p2), .val (.int (p2 / 3)), .val a_unk], [], (126, 120, L, [Y, T, HA, HB, RA, RB, ST, NS, I0, I1, I2, BO, FI, RG, GU, PU, MA, MN, MS, OT, SC], [r0, r1, r2, r3, w, r5, r6, r7, r8], Lg)) o from ev_t (c := ((a_shr x1 (p2 / 3)) &&& 1) ≠ 1) _ _ 6  zc31 e (fun n => Eq.refl _)
    exact ev_b 1 (zj5 1 (Option.some.inj zh4) ) (fun n => Eq.refl _)
  · have zh4 := itn zh4 zc31
    suffices e : Ev (d + 1, 0, 0, 66, 17, [.val (.ref 1088), .val (.int p1), .val (.int p2), .val (.int (p2 / 3)), .val a_unk], [], (126, 120, L, [Y, T, HA, HB, RA, RB, ST, NS, I0, I1, I2, BO, FI, RG, GU, PU, MA, MN, MS, OT, SC], [r0, r1, r2, r3, w, r5, r6, r7, r8], Lg)) o from ev_f (c := ((a_shr x1 (p2 / 3)) &&& 1) ≠ 1) _ _ 6  zc31 e (fun n => Eq.refl _)
    exact ev_b 2 (zj5 0 (Option.some.inj zh4) ) (fun n => Eq.refl _)
set_option maxRecDepth 1000000 in
set_option maxHeartbeats 4000000 in
theorem R_f_M_clashWith_0 (d : Nat) (Y T HA HB RA RB ST NS I0 I1 I2 BO FI RG GU PU MA MN MS OT SC : Nat → Nat → Int32) (r0 r1 r2 r3 w r5 r6 r7 r8 : Nat) (L : Nat) (Lg : Int64) (p1 : Int32) (p2 : Int32) (p3 : Int32) (p4 : Int32) {r : Int32} (h : f_M_clashWith MA p1 p2 p3 p4 = some r) : Ev (d + 0, 0, 0, 67, 0, [.val (.ref 1088), .val (.int p1), .val (.int p2), .val (.int p3), .val (.int p4)], [], (126, 120, L, [Y, T, HA, HB, RA, RB, ST, NS, I0, I1, I2, BO, FI, RG, GU, PU, MA, MN, MS, OT, SC], [r0, r1, r2, r3, w, r5, r6, r7, r8], Lg)) ((0, some (.int r), (126, 120, L, [Y, T, HA, HB, RA, RB, ST, NS, I0, I1, I2, BO, FI, RG, GU, PU, MA, MN, MS, OT, SC], [r0, r1, r2, r3, w, r5, r6, r7, r8], Lg)) : AOut) := by
  suffices key : ∀ o : AOut, ((0, some (.int r), (126, 120, L, [Y, T, HA, HB, RA, RB, ST, NS, I0, I1, I2, BO, FI, RG, GU, PU, MA, MN, MS, OT, SC], [r0, r1, r2, r3, w, r5, r6, r7, r8], Lg)) : AOut) = o → Ev (d + 0, 0, 0, 67, 0, [.val (.ref 1088), .val (.int p1), .val (.int p2), .val (.int p3), .val (.int p4)], [], (126, 120, L, [Y, T, HA, HB, RA, RB, ST, NS, I0, I1, I2, BO, FI, RG, GU, PU, MA, MN, MS, OT, SC], [r0, r1, r2, r3, w, r5, r6, r7, r8], Lg)) o from key _ rfl
  intro o ho
  by_cases zc1 : p4 = (-1)
  · have h := itp h zc1
    suffices e : Ev (d + 0, 0, 0, 67, 21, [.val (.ref 1088), .val (.int p1), .val (.int p2), .val (.int p3), .val (.int p4)], [], (126, 120, L, [Y, T, HA, HB, RA, RB, ST, NS, I0, I1, I2, BO, FI, RG, GU, PU, MA, MN, MS, OT, SC], [r0, r1, r2, r3, w, r5, r6, r7, r8], Lg)) o from ev_t (c := p4 = (-1)) _ _ 3  zc1 e (fun n => Eq.refl _)
    have ze2 := Option.some.inj h
    subst ze2
    exact ev_rete 2 ho (fun n => Eq.refl _)
  · have h := itn h zc1
    suffices e : Ev (d + 0, 0, 0, 67, 6, [.val (.ref 1088), .val (.int p1), .val (.int p2), .val (.int p3), .val (.int p4)], [], (126, 120, L, [Y, T, HA, HB, RA, RB, ST, NS, I0, I1, I2, BO, FI, RG, GU, PU, MA, MN, MS, OT, SC], [r0, r1, r2, r3, w, r5, r6, r7, r8], Lg)) o from ev_f (c := p4 = (-1)) _ _ 3  zc1 e (fun n => Eq.refl _)
    by_cases zc3 : p3 = p1
    · have h := itp h zc3
      suffices e : Ev (d + 0, 0, 0, 67, 21, [.val (.ref 1088), .val (.int p1), .val (.int p2), .val (.int p3), .val (.int p4)], [], (126, 120, L, [Y, T, HA, HB, RA, RB, ST, NS, I0, I1, I2, BO, FI, RG, GU, PU, MA, MN, MS, OT, SC], [r0, r1, r2, r3, w, r5, r6, r7, r8], Lg)) o from ev_t (c := p3 = p1) _ _ 3  zc3 e (fun n => Eq.refl _)
      have ze4 := Option.some.inj h
      subst ze4
      exact ev_rete 2 ho (fun n => Eq.refl _)
    · have h := itn h zc3
      suffices e : Ev (d + 0, 0, 0, 67, 11, [.val (.ref 1088), .val (.int p1), .val (.int p2), .val (.int p3), .val (.int p4)], [], (126, 120, L, [Y, T, HA, HB, RA, RB, ST, NS, I0, I1, I2, BO, FI, RG, GU, PU, MA, MN, MS, OT, SC], [r0, r1, r2, r3, w, r5, r6, r7, r8], Lg)) o from ev_f (c := p3 = p1) _ _ 3  zc3 e (fun n => Eq.refl _)
      suffices e : Ev (d + 0, 0, 0, 67, 15, [.val (.ref 1088), .val (.int p1), .val (.int p2), .val (.int p3), .val (.int p4)], [.int (p4 / 3)], (126, 120, L, [Y, T, HA, HB, RA, RB, ST, NS, I0, I1, I2, BO, FI, RG, GU, PU, MA, MN, MS, OT, SC], [r0, r1, r2, r3, w, r5, r6, r7, r8], Lg)) o from ev_b 3 e (fun n => Eq.refl _)
      suffices e : Ev (d + 0, 0, 0, 67, 18, [.val (.ref 1088), .val (.int p1), .val (.int p2), .val (.int p3), .val (.int p4)], [.int (p2 / 3), .int (p4 / 3)], (126, 120, L, [Y, T, HA, HB, RA, RB, ST, NS, I0, I1, I2, BO, FI, RG, GU, PU, MA, MN, MS, OT, SC], [r0, r1, r2, r3, w, r5, r6, r7, r8], Lg)) o from ev_b 3 e (fun n => Eq.refl _)
      by_cases zc5 : (p4 / 3) = (p2 / 3)
      · have h := itp h zc5
        suffices e : Ev (d + 0, 0, 0, 67, 23, [.val (.ref 1088), .val (.int p1), .val (.int p2), .val (.int p3), .val (.int p4)], [], (126, 120, L, [Y, T, HA, HB, RA, RB, ST, NS, I0, I1, I2, BO, FI, RG, GU, PU, MA, MN, MS, OT, SC], [r0, r1, r2, r3, w, r5, r6, r7, r8], Lg)) o from ev_t (c := (p4 / 3) = (p2 / 3)) _ _ 1  zc5 e (fun n => Eq.refl _)
        obtain ⟨x1, zh6, h⟩ := bnd h
        have zh6 : rdx (MA 5) 60 ((6 * p1) + 2) = some x1 := zh6
        suffices e : Ev (d + 0, 0, 0, 67, 34, [.val (.ref 1088), .val (.int p1), .val (.int p2), .val (.int p3), .val (.int p4)], [.int x1], (126, 120, L, [Y, T, HA, HB, RA, RB, ST, NS, I0, I1, I2, BO, FI, RG, GU, PU, MA, MN, MS, OT, SC], [r0, r1, r2, r3, w, r5, r6, r7, r8], Lg)) o from ev_opt (fun x1 => (d + 0, 0, 0, 67, 34, [.val (.ref 1088), .val (.int p1), .val (.int p2), .val (.int p3), .val (.int p4)], [.int x1], (126, 120, L, [Y, T, HA, HB, RA, RB, ST, NS, I0, I1, I2, BO, FI, RG, GU, PU, MA, MN, MS, OT, SC], [r0, r1, r2, r3, w, r5, r6, r7, r8], Lg))) 8 zh6 e (fun n => Eq.refl _)
        obtain ⟨x2, zh7, h⟩ := bnd h
        have zh7 : rdx (MA 5) 60 ((6 * p3) + 2) = some x2 := zh7
        suffices e : Ev (d + 0, 0, 0, 67, 45, [.val (.ref 1088), .val (.int p1), .val (.int p2), .val (.int p3), .val (.int p4)], [.int x2, .int x1], (126, 120, L, [Y, T, HA, HB, RA, RB, ST, NS, I0, I1, I2, BO, FI, RG, GU, PU, MA, MN, MS, OT, SC], [r0, r1, r2, r3, w, r5, r6, r7, r8], Lg)) o from ev_opt (fun x2 => (d + 0, 0, 0, 67, 45, [.val (.ref 1088), .val (.int p1), .val (.int p2), .val (.int p3), .val (.int p4)], [.int x2, .int x1], (126, 120, L, [Y, T, HA, HB, RA, RB, ST, NS, I0, I1, I2, BO, FI, RG, GU, PU, MA, MN, MS, OT, SC], [r0, r1, r2, r3, w, r5, r6, r7, r8], Lg))) 8 zh7 e (fun n => Eq.refl _)
        obtain ⟨zt8, zh9, h⟩ := bnd h
        have zj10 : ∀ (v3 : Int32), v3 = zt8 → Ev (d + 0, 0, 0, 67, 54, [.val (.ref 1088), .val (.int p1), .val (.int p2), .val (.int p3), .val (.int p4)], [.int v3], (126, 120, L, [Y, T, HA, HB, RA, RB, ST, NS, I0, I1, I2, BO, FI, RG, GU, PU, MA, MN, MS, OT, SC], [r0, r1, r2, r3, w, r5, r6, r7, r8], Lg)) o := by
          intro v3 ze11
          subst ze11
          obtain ⟨zt12, zh13, h⟩ := bnd h
          have zj14 : ∀ (v4 : Int32), v4 = zt12 → Ev (d + 0, 0, 0, 67, 66, [.val (.ref 1088), .val (.int p1), .val (.int p2), .val (.int p3), .val (.int p4)], [.int v4, .int v3], (126, 120, L, [Y, T, HA, HB, RA, RB, ST, NS, I0, I1, I2, BO, FI, RG, GU, PU, MA, MN, MS, OT, SC], [r0, r1, r2, r3, w, r5, r6, r7, r8], Lg)) o := by
            intro v4 ze15
            subst ze15
            have ze16 := Option.some.inj h
            subst ze16
            exact ev_rete 2 ho (fun n => Eq.refl _)
          by_cases zc17 : p4 ≠ p2
          · have zh13 := itp zh13 zc17
            suffices e : Ev (d + 0, 0, 0, 67, 65, [.val (.ref 1088), .val (.int p1), .val (.int p2), .val (.int p3), .val (.int p4)], [.int v3], (126, 120, L, [Y, T, HA, HB, RA, RB, ST, NS, I0, I1, I2, BO, FI, RG, GU, PU, MA, MN, MS, OT, SC], [r0, r1, r2, r3, w, r5, r6, r7, r8], Lg)) o from ev_t (c := p4 ≠ p2) _ _ 3  zc17 e (fun n => Eq.refl _)
            exact ev_b 1 (zj14 0 (Option.some.inj zh13) ) (fun n => Eq.refl _)
          · have zh13 := itn zh13 zc17
            suffices e : Ev (d + 0, 0, 0, 67, 60, [.val (.ref 1088), .val (.int p1), .val (.int p2), .val (.int p3), .val (.int p4)], [.int v3], (126, 120, L, [Y, T, HA, HB, RA, RB, ST, NS, I0, I1, I2, BO, FI, RG, GU, PU, MA, MN, MS, OT, SC], [r0, r1, r2, r3, w, r5, r6, r7, r8], Lg)) o from ev_f (c := p4 ≠ p2) _ _ 3  zc17 e (fun n => Eq.refl _)
            exact ev_b 2 (zj14 8 (Option.some.inj zh13) ) (fun n => Eq.refl _)
        by_cases zc18 : (x1 &&& x2) = 0
        · have zh9 := itp zh9 zc18
          suffices e : Ev (d + 0, 0, 0, 67, 53, [.val (.ref 1088), .val (.int p1), .val (.int p2), .val (.int p3), .val (.int p4)], [], (126, 120, L, [Y, T, HA, HB, RA, RB, ST, NS, I0, I1, I2, BO, FI, RG, GU, PU, MA, MN, MS, OT, SC], [r0, r1, r2, r3, w, r5, r6, r7, r8], Lg)) o from ev_t (c := (x1 &&& x2) = 0) _ _ 2  zc18 e (fun n => Eq.refl _)
          exact ev_b 1 (zj10 0 (Option.some.inj zh9) ) (fun n => Eq.refl _)
        · have zh9 := itn zh9 zc18
          suffices e : Ev (d + 0, 0, 0, 67, 49, [.val (.ref 1088), .val (.int p1), .val (.int p2), .val (.int p3), .val (.int p4)], [], (126, 120, L, [Y, T, HA, HB, RA, RB, ST, NS, I0, I1, I2, BO, FI, RG, GU, PU, MA, MN, MS, OT, SC], [r0, r1, r2, r3, w, r5, r6, r7, r8], Lg)) o from ev_f (c := (x1 &&& x2) = 0) _ _ 2  zc18 e (fun n => Eq.refl _)
          exact ev_b 2 (zj10 4 (Option.some.inj zh9) ) (fun n => Eq.refl _)
      · have h := itn h zc5
        suffices e : Ev (d + 0, 0, 0, 67, 21, [.val (.ref 1088), .val (.int p1), .val (.int p2), .val (.int p3), .val (.int p4)], [], (126, 120, L, [Y, T, HA, HB, RA, RB, ST, NS, I0, I1, I2, BO, FI, RG, GU, PU, MA, MN, MS, OT, SC], [r0, r1, r2, r3, w, r5, r6, r7, r8], Lg)) o from ev_f (c := (p4 / 3) = (p2 / 3)) _ _ 1  zc5 e (fun n => Eq.refl _)
        have ze19 := Option.some.inj h
        subst ze19
        exact ev_rete 2 ho (fun n => Eq.refl _)
set_option maxRecDepth 1000000 in
set_option maxHeartbeats 4000000 in
theorem R_f_M_told_0 (d : Nat) (Y T HA HB RA RB ST NS I0 I1 I2 BO FI RG GU PU MA MN MS OT SC : Nat → Nat → Int32) (r0 r1 r2 r3 w r5 r6 r7 r8 : Nat) (L : Nat) (Lg : Int64) (p1 : Int32) {r : Int32 × (Nat → Nat → Int32)} (h : f_M_told MA p1 = some r) : Ev (d + 1, 0, 0, 70, 0, [.val (.ref 1088), .val (.int p1), .val a_unk, .val a_unk], [], (126, 120, L, [Y, T, HA, HB, RA, RB, ST, NS, I0, I1, I2, BO, FI, RG, GU, PU, MA, MN, MS, OT, SC], [r0, r1, r2, r3, w, r5, r6, r7, r8], Lg)) ((0, some (.int r.1), (126, 120, L, [Y, T, HA, HB, RA, RB, ST, NS, I0, I1, I2, BO, FI, RG, GU, PU, r.2, MN, MS, OT, SC], [r0, r1, r2, r3, w, r5, r6, r7, r8], Lg)) : AOut) := by
  suffices key : ∀ o : AOut, ((0, some (.int r.1), (126, 120, L, [Y, T, HA, HB, RA, RB, ST, NS, I0, I1, I2, BO, FI, RG, GU, PU, r.2, MN, MS, OT, SC], [r0, r1, r2, r3, w, r5, r6, r7, r8], Lg)) : AOut) = o → Ev (d + 1, 0, 0, 70, 0, [.val (.ref 1088), .val (.int p1), .val a_unk, .val a_unk], [], (126, 120, L, [Y, T, HA, HB, RA, RB, ST, NS, I0, I1, I2, BO, FI, RG, GU, PU, MA, MN, MS, OT, SC], [r0, r1, r2, r3, w, r5, r6, r7, r8], Lg)) o from key _ rfl
  intro o ho
  obtain ⟨x1, zh1, h⟩ := bnd h
  have zh1 : f_M_within p1 0 6 = some x1 := zh1
  have ze2 := R_f_M_within_0 (d + 0) Y T HA HB RA RB ST NS I0 I1 I2 BO FI RG GU PU (u2 MA 0 0 0) MN MS OT SC r0 r1 r2 r3 w r5 r6 r7 r8 L Lg p1 0 6 zh1
  suffices e : Ev (d + 1, 0, 0, 70, 13, [.val (.ref 1088), .val (.int p1), .val a_unk, .val a_unk], [.int x1, .ref 1088], (126, 120, L, [Y, T, HA, HB, RA, RB, ST, NS, I0, I1, I2, BO, FI, RG, GU, PU, (u2 MA 0 0 0), MN, MS, OT, SC], [r0, r1, r2, r3, w, r5, r6, r7, r8], Lg)) o from ev_call (fun v μ => (d + 1, 0, 0, 70, 13, [.val (.ref 1088), .val (.int p1), .val a_unk, .val a_unk], v.toList ++ [.ref 1088], μ)) 8 ze2 e (fun n => Eq.refl _)
  obtain ⟨⟨x2, MA_3⟩, zh3, h⟩ := bnd h
  have zh3 : f_M_may (u2 MA 0 0 0) x1 1 1 = some (x2, MA_3) := zh3
  have ze4 := R_f_M_may_0 (d + 0) Y T HA HB RA RB ST NS I0 I1 I2 BO FI RG GU PU (u2 MA 0 0 0) MN MS OT SC r0 r1 r2 r3 w r5 r6 r7 r8 L Lg x1 1 1 zh3
  suffices e : Ev (d + 1, 0, 0, 70, 18, [.val (.ref 1088), .val (.int p1), .val a_unk, .val a_unk], [.int x2], (126, 120, L, [Y, T, HA, HB, RA, RB, ST, NS, I0, I1, I2, BO, FI, RG, GU, PU, MA_3, MN, MS, OT, SC], [r0, r1, r2, r3, w, r5, r6, r7, r8], Lg)) o from ev_call (fun v μ => (d + 1, 0, 0, 70, 18, [.val (.ref 1088), .val (.int p1), .val a_unk, .val a_unk], v.toList ++ [], μ)) 3 ze4 e (fun n => Eq.refl _)
  by_cases zc5 : x2 ≠ 0
  · have h := itp h zc5
    suffices e : Ev (d + 1, 0, 0, 70, 23, [.val (.ref 1088), .val (.int p1), .val a_unk, .val a_unk], [], (126, 120, L, [Y, T, HA, HB, RA, RB, ST, NS, I0, I1, I2, BO, FI, RG, GU, PU, MA_3, MN, MS, OT, SC], [r0, r1, r2, r3, w, r5, r6, r7, r8], Lg)) o from ev_t (c := x2 ≠ 0) _ _ 1  zc5 e (fun n => Eq.refl _)
    by_cases zc6 : 3 ≤ p1
    · have h := itp h zc6
      suffices e : Ev (d + 1, 0, 0, 70, 56, [.val (.ref 1088), .val (.int p1), .val a_unk, .val a_unk], [], (126, 120, L, [Y, T, HA, HB, RA, RB, ST, NS, I0, I1, I2, BO, FI, RG, GU, PU, MA_3, MN, MS, OT, SC], [r0, r1, r2, r3, w, r5, r6, r7, r8], Lg)) o from ev_t (c := 3 ≤ p1) _ _ 3  zc6 e (fun n => Eq.refl _)
      by_cases zc7 : 6 ≤ p1
      · have h := itp h zc7
        suffices e : Ev (d + 1, 0, 0, 70, 91, [.val (.ref 1088), .val (.int p1), .val a_unk, .val a_unk], [], (126, 120, L, [Y, T, HA, HB, RA, RB, ST, NS, I0, I1, I2, BO, FI, RG, GU, PU, MA_3, MN, MS, OT, SC], [r0, r1, r2, r3, w, r5, r6, r7, r8], Lg)) o from ev_t (c := 6 ≤ p1) _ _ 3  zc7 e (fun n => Eq.refl _)
        obtain ⟨v7, zh9, h⟩ := bnd h
        suffices e : Ev (d + 1, 0, 0, 70, 95, [.val (.ref 1088), .val (.int p1), .val (.int 0), .val (.int 0)], [], (126, 120, L, [Y, T, HA, HB, RA, RB, ST, NS, I0, I1, I2, BO, FI, RG, GU, PU, MA_3, MN, MS, OT, SC], [r0, r1, r2, r3, w, r5, r6, r7, r8], Lg)) o from ev_b 4 e (fun n => Eq.refl _)
        refine ev_loop (δ := Unit) (fun a j => (d + 1, 0, 0, 70, 95, [.val (.ref 1088), .val (.int p1), .val (.int a.1), .val (.int a.2)], [], (126, 120, L, [Y, T, HA, HB, RA, RB, ST, NS, I0, I1, I2, BO, FI, RG, GU, PU, MA_3, MN, MS, OT, SC], [r0, r1, r2, r3, w, r5, r6, r7, r8], Lg))) (fun b => ∀ s8 : Value, Ev (d + 1, 0, 0, 70, 127, [.val (.ref 1088), .val (.int p1), .val (.int b), .val s8], [], (126, 120, L, [Y, T, HA, HB, RA, RB, ST, NS, I0, I1, I2, BO, FI, RG, GU, PU, MA_3, MN, MS, OT, SC], [r0, r1, r2, r3, w, r5, r6, r7, r8], Lg)) o) ?_ a_F (0, 0) v7 zh9 ?_ ()
        · rintro ⟨v4, v5⟩ zr13 zh12 zi10 zx11 ⟨⟩
          have zh12 : f_M_told_l95 MA_3 v4 v5 = some zr13 := zh12
          by_cases zc14 : (MA_3 0 26) ≤ v5
          · have zh12 := itp zh12 zc14
            suffices e : Ev (d + 1, 0, 0, 70, 127, [.val (.ref 1088), .val (.int p1), .val (.int v4), .val (.int v5)], [], (126, 120, L, [Y, T, HA, HB, RA, RB, ST, NS, I0, I1, I2, BO, FI, RG, GU, PU, MA_3, MN, MS, OT, SC], [r0, r1, r2, r3, w, r5, r6, r7, r8], Lg)) o from ev_t (c := (MA_3 0 26) ≤ v5) _ _ 4  zc14 e (fun n => Eq.refl _)
            exact ev_b 0 (zx11 _ (Option.some.inj zh12).symm (.int v5)) (fun n => Eq.refl _)
          · have zh12 := itn zh12 zc14
            suffices e : Ev (d + 1, 0, 0, 70, 103, [.val (.ref 1088), .val (.int p1), .val (.int v4), .val (.int v5)], [], (126, 120, L, [Y, T, HA, HB, RA, RB, ST, NS, I0, I1, I2, BO, FI, RG, GU, PU, MA_3, MN, MS, OT, SC], [r0, r1, r2, r3, w, r5, r6, r7, r8], Lg)) o from ev_f (c := (MA_3 0 26) ≤ v5) _ _ 4  zc14 e (fun n => Eq.refl _)
            obtain ⟨x6, zh15, zh12⟩ := bnd zh12
            have zh15 : rdx (MA_3 7) 10 v5 = some x6 := zh15
            suffices e : Ev (d + 1, 0, 0, 70, 110, [.val (.ref 1088), .val (.int p1), .val (.int v4), .val (.int v5)], [.int x6, .int v4], (126, 120, L, [Y, T, HA, HB, RA, RB, ST, NS, I0, I1, I2, BO, FI, RG, GU, PU, MA_3, MN, MS, OT, SC], [r0, r1, r2, r3, w, r5, r6, r7, r8], Lg)) o from ev_opt (fun x6 => (d + 1, 0, 0, 70, 110, [.val (.ref 1088), .val (.int p1), .val (.int v4), .val (.int v5)], [.int x6, .int v4], (126, 120, L, [Y, T, HA, HB, RA, RB, ST, NS, I0, I1, I2, BO, FI, RG, GU, PU, MA_3, MN, MS, OT, SC], [r0, r1, r2, r3, w, r5, r6, r7, r8], Lg))) 5 zh15 e (fun n => Eq.refl _)
            by_cases zc16 : x6 ≠ (-1)
            · have zh12 := itp zh12 zc16
              suffices e : Ev (d + 1, 0, 0, 70, 118, [.val (.ref 1088), .val (.int p1), .val (.int v4), .val (.int v5)], [.int v4], (126, 120, L, [Y, T, HA, HB, RA, RB, ST, NS, I0, I1, I2, BO, FI, RG, GU, PU, MA_3, MN, MS, OT, SC], [r0, r1, r2, r3, w, r5, r6, r7, r8], Lg)) o from ev_t (c := x6 ≠ (-1)) _ _ 2  zc16 e (fun n => Eq.refl _)
              exact ev_b 5 (zi10 _ (Option.some.inj zh12).symm ()) (fun n => Eq.refl _)
            · have zh12 := itn zh12 zc16
              suffices e : Ev (d + 1, 0, 0, 70, 114, [.val (.ref 1088), .val (.int p1), .val (.int v4), .val (.int v5)], [.int v4], (126, 120, L, [Y, T, HA, HB, RA, RB, ST, NS, I0, I1, I2, BO, FI, RG, GU, PU, MA_3, MN, MS, OT, SC], [r0, r1, r2, r3, w, r5, r6, r7, r8], Lg)) o from ev_f (c := x6 ≠ (-1)) _ _ 2  zc16 e (fun n => Eq.refl _)
              exact ev_b 6 (zi10 _ (Option.some.inj zh12).symm ()) (fun n => Eq.refl _)
        · skip
          intro s8
          have ze17 := Option.some.inj h
          subst ze17
          exact ev_rete 2 ho (fun n => Eq.refl _)
      · have h := itn h zc7
        suffices e : Ev (d + 1, 0, 0, 70, 62, [.val (.ref 1088), .val (.int p1), .val a_unk, .val a_unk], [], (126, 120, L, [Y, T, HA, HB, RA, RB, ST, NS, I0, I1, I2, BO, FI, RG, GU, PU, MA_3, MN, MS, OT, SC], [r0, r1, r2, r3, w, r5, r6, r7, r8], Lg)) o from ev_f (c := 6 ≤ p1) _ _ 3  zc7 e (fun n => Eq.refl _)
        by_cases zc18 : p1 ≠ 3
        · have h := itp h zc18
          suffices e : Ev (d + 1, 0, 0, 70, 74, [.val (.ref 1088), .val (.int p1), .val a_unk, .val a_unk], [], (126, 120, L, [Y, T, HA, HB, RA, RB, ST, NS, I0, I1, I2, BO, FI, RG, GU, PU, MA_3, MN, MS, OT, SC], [r0, r1, r2, r3, w, r5, r6, r7, r8], Lg)) o from ev_t (c := p1 ≠ 3) _ _ 3  zc18 e (fun n => Eq.refl _)
          by_cases zc19 : p1 ≠ 4
          · have h := itp h zc19
            suffices e : Ev (d + 1, 0, 0, 70, 86, [.val (.ref 1088), .val (.int p1), .val a_unk, .val a_unk], [], (126, 120, L, [Y, T, HA, HB, RA, RB, ST, NS, I0, I1, I2, BO, FI, RG, GU, PU, MA_3, MN, MS, OT, SC], [r0, r1, r2, r3, w, r5, r6, r7, r8], Lg)) o from ev_t (c := p1 ≠ 4) _ _ 3  zc19 e (fun n => Eq.refl _)
            have ze20 := Option.some.inj h
            subst ze20
            exact ev_rete 3 ho (fun n => Eq.refl _)
          · have h := itn h zc19
            suffices e : Ev (d + 1, 0, 0, 70, 79, [.val (.ref 1088), .val (.int p1), .val a_unk, .val a_unk], [], (126, 120, L, [Y, T, HA, HB, RA, RB, ST, NS, I0, I1, I2, BO, FI, RG, GU, PU, MA_3, MN, MS, OT, SC], [r0, r1, r2, r3, w, r5, r6, r7, r8], Lg)) o from ev_f (c := p1 ≠ 4) _ _ 3  zc19 e (fun n => Eq.refl _)
            have ze21 := Option.some.inj h
            subst ze21
            exact ev_rete 4 ho (fun n => Eq.refl _)
        · have h := itn h zc18
          suffices e : Ev (d + 1, 0, 0, 70, 67, [.val (.ref 1088), .val (.int p1), .val a_unk, .val a_unk], [], (126, 120, L, [Y, T, HA, HB, RA, RB, ST, NS, I0, I1, I2, BO, FI, RG, GU, PU, MA_3, MN, MS, OT, SC], [r0, r1, r2, r3, w, r5, r6, r7, r8], Lg)) o from ev_f (c := p1 ≠ 3) _ _ 3  zc18 e (fun n => Eq.refl _)
          have ze22 := Option.some.inj h
          subst ze22
          exact ev_rete 4 ho (fun n => Eq.refl _)
    · have h := itn h zc6
      suffices e : Ev (d + 1, 0, 0, 70, 28, [.val (.ref 1088), .val (.int p1), .val a_unk, .val a_unk], [], (126, 120, L, [Y, T, HA, HB, RA, RB, ST, NS, I0, I1, I2, BO, FI, RG, GU, PU, MA_3, MN, MS, OT, SC], [r0, r1, r2, r3, w, r5, r6, r7, r8], Lg)) o from ev_f (c := 3 ≤ p1) _ _ 3  zc6 e (fun n => Eq.refl _)
      by_cases zc23 : p1 ≠ 0
      · have h := itp h zc23
        suffices e : Ev (d + 1, 0, 0, 70, 39, [.val (.ref 1088), .val (.int p1), .val a_unk, .val a_unk], [], (126, 120, L, [Y, T, HA, HB, RA, RB, ST, NS, I0, I1, I2, BO, FI, RG, GU, PU, MA_3, MN, MS, OT, SC], [r0, r1, r2, r3, w, r5, r6, r7, r8], Lg)) o from ev_t (c := p1 ≠ 0) _ _ 2  zc23 e (fun n => Eq.refl _)
        by_cases zc24 : p1 ≠ 1
        · have h := itp h zc24
          suffices e : Ev (d + 1, 0, 0, 70, 51, [.val (.ref 1088), .val (.int p1), .val a_unk, .val a_unk], [], (126, 120, L, [Y, T, HA, HB, RA, RB, ST, NS, I0, I1, I2, BO, FI, RG, GU, PU, MA_3, MN, MS, OT, SC], [r0, r1, r2, r3, w, r5, r6, r7, r8], Lg)) o from ev_t (c := p1 ≠ 1) _ _ 3  zc24 e (fun n => Eq.refl _)
          have ze25 := Option.some.inj h
          subst ze25
          exact ev_rete 3 ho (fun n => Eq.refl _)
        · have h := itn h zc24
          suffices e : Ev (d + 1, 0, 0, 70, 44, [.val (.ref 1088), .val (.int p1), .val a_unk, .val a_unk], [], (126, 120, L, [Y, T, HA, HB, RA, RB, ST, NS, I0, I1, I2, BO, FI, RG, GU, PU, MA_3, MN, MS, OT, SC], [r0, r1, r2, r3, w, r5, r6, r7, r8], Lg)) o from ev_f (c := p1 ≠ 1) _ _ 3  zc24 e (fun n => Eq.refl _)
          have ze26 := Option.some.inj h
          subst ze26
          exact ev_rete 4 ho (fun n => Eq.refl _)
      · have h := itn h zc23
        suffices e : Ev (d + 1, 0, 0, 70, 32, [.val (.ref 1088), .val (.int p1), .val a_unk, .val a_unk], [], (126, 120, L, [Y, T, HA, HB, RA, RB, ST, NS, I0, I1, I2, BO, FI, RG, GU, PU, MA_3, MN, MS, OT, SC], [r0, r1, r2, r3, w, r5, r6, r7, r8], Lg)) o from ev_f (c := p1 ≠ 0) _ _ 2  zc23 e (fun n => Eq.refl _)
        have ze27 := Option.some.inj h
        subst ze27
        exact ev_rete 4 ho (fun n => Eq.refl _)
  · have h := itn h zc5
    suffices e : Ev (d + 1, 0, 0, 70, 21, [.val (.ref 1088), .val (.int p1), .val a_unk, .val a_unk], [], (126, 120, L, [Y, T, HA, HB, RA, RB, ST, NS, I0, I1, I2, BO, FI, RG, GU, PU, MA_3, MN, MS, OT, SC], [r0, r1, r2, r3, w, r5, r6, r7, r8], Lg)) o from ev_f (c := x2 ≠ 0) _ _ 1  zc5 e (fun n => Eq.refl _)
    have ze28 := Option.some.inj h
    subst ze28
    exact ev_rete 2 ho (fun n => Eq.refl _)
set_option maxRecDepth 1000000 in
set_option maxHeartbeats 4000000 in
theorem R_f_M_meeting_0 (d : Nat) (Y T HA HB RA RB ST NS I0 I1 I2 BO FI RG GU PU MA MN MS OT SC : Nat → Nat → Int32) (r0 r1 r2 r3 w r5 r6 r7 r8 : Nat) (L : Nat) (Lg : Int64) (p1 : Int32) (p2 : Int32) {r : Int32 × (Nat → Nat → Int32)} (h : f_M_meeting MA p1 p2 = some r) : Ev (d + 2, 0, 0, 71, 0, [.val (.ref 1088), .val (.int p1), .val (.int p2)], [], (126, 120, L, [Y, T, HA, HB, RA, RB, ST, NS, I0, I1, I2, BO, FI, RG, GU, PU, MA, MN, MS, OT, SC], [r0, r1, r2, r3, w, r5, r6, r7, r8], Lg)) ((0, some (.int r.1), (126, 120, L, [Y, T, HA, HB, RA, RB, ST, NS, I0, I1, I2, BO, FI, RG, GU, PU, r.2, MN, MS, OT, SC], [r0, r1, r2, r3, w, r5, r6, r7, r8], Lg)) : AOut) := by
  suffices key : ∀ o : AOut, ((0, some (.int r.1), (126, 120, L, [Y, T, HA, HB, RA, RB, ST, NS, I0, I1, I2, BO, FI, RG, GU, PU, r.2, MN, MS, OT, SC], [r0, r1, r2, r3, w, r5, r6, r7, r8], Lg)) : AOut) = o → Ev (d + 2, 0, 0, 71, 0, [.val (.ref 1088), .val (.int p1), .val (.int p2)], [], (126, 120, L, [Y, T, HA, HB, RA, RB, ST, NS, I0, I1, I2, BO, FI, RG, GU, PU, MA, MN, MS, OT, SC], [r0, r1, r2, r3, w, r5, r6, r7, r8], Lg)) o from key _ rfl
  intro o ho
  obtain ⟨⟨x1, MA_2⟩, zh1, h⟩ := bnd h
  have zh1 : f_M_isMeeting (u2 MA 0 0 0) p1 1 = some (x1, MA_2) := zh1
  have ze2 := R_f_M_isMeeting_0 (d + 0) Y T HA HB RA RB ST NS I0 I1 I2 BO FI RG GU PU (u2 MA 0 0 0) MN MS OT SC r0 r1 r2 r3 w r5 r6 r7 r8 L Lg p1 1 zh1
  suffices e : Ev (d + 2, 0, 0, 71, 11, [.val (.ref 1088), .val (.int p1), .val (.int p2)], [.int x1], (126, 120, L, [Y, T, HA, HB, RA, RB, ST, NS, I0, I1, I2, BO, FI, RG, GU, PU, MA_2, MN, MS, OT, SC], [r0, r1, r2, r3, w, r5, r6, r7, r8], Lg)) o from ev_call (fun v μ => (d + 2, 0, 0, 71, 11, [.val (.ref 1088), .val (.int p1), .val (.int p2)], v.toList ++ [], μ)) 7 ze2 e (fun n => Eq.refl _)
  by_cases zc3 : x1 = 0
  · have h := itp h zc3
    suffices e : Ev (d + 2, 0, 0, 71, 30, [.val (.ref 1088), .val (.int p1), .val (.int p2)], [], (126, 120, L, [Y, T, HA, HB, RA, RB, ST, NS, I0, I1, I2, BO, FI, RG, GU, PU, MA_2, MN, MS, OT, SC], [r0, r1, r2, r3, w, r5, r6, r7, r8], Lg)) o from ev_t (c := x1 = 0) _ _ 1  zc3 e (fun n => Eq.refl _)
    have ze4 := Option.some.inj h
    subst ze4
    exact ev_rete 2 ho (fun n => Eq.refl _)
  · have h := itn h zc3
    suffices e : Ev (d + 2, 0, 0, 71, 14, [.val (.ref 1088), .val (.int p1), .val (.int p2)], [], (126, 120, L, [Y, T, HA, HB, RA, RB, ST, NS, I0, I1, I2, BO, FI, RG, GU, PU, MA_2, MN, MS, OT, SC], [r0, r1, r2, r3, w, r5, r6, r7, r8], Lg)) o from ev_f (c := x1 = 0) _ _ 1  zc3 e (fun n => Eq.refl _)
    obtain ⟨x3, zh5, h⟩ := bnd h
    have zh5 : f_M_within p2 0 6 = some x3 := zh5
    have ze6 := R_f_M_within_0 (d + 1) Y T HA HB RA RB ST NS I0 I1 I2 BO FI RG GU PU MA_2 MN MS OT SC r0 r1 r2 r3 w r5 r6 r7 r8 L Lg p2 0 6 zh5
    suffices e : Ev (d + 2, 0, 0, 71, 22, [.val (.ref 1088), .val (.int p1), .val (.int p2)], [.int x3, .ref 1088], (126, 120, L, [Y, T, HA, HB, RA, RB, ST, NS, I0, I1, I2, BO, FI, RG, GU, PU, MA_2, MN, MS, OT, SC], [r0, r1, r2, r3, w, r5, r6, r7, r8], Lg)) o from ev_call (fun v μ => (d + 2, 0, 0, 71, 22, [.val (.ref 1088), .val (.int p1), .val (.int p2)], v.toList ++ [.ref 1088], μ)) 5 ze6 e (fun n => Eq.refl _)
    obtain ⟨⟨x4, MA_5⟩, zh7, h⟩ := bnd h
    have zh7 : f_M_may MA_2 x3 2 1 = some (x4, MA_5) := zh7
    have ze8 := R_f_M_may_0 (d + 1) Y T HA HB RA RB ST NS I0 I1 I2 BO FI RG GU PU MA_2 MN MS OT SC r0 r1 r2 r3 w r5 r6 r7 r8 L Lg x3 2 1 zh7
    suffices e : Ev (d + 2, 0, 0, 71, 27, [.val (.ref 1088), .val (.int p1), .val (.int p2)], [.int x4], (126, 120, L, [Y, T, HA, HB, RA, RB, ST, NS, I0, I1, I2, BO, FI, RG, GU, PU, MA_5, MN, MS, OT, SC], [r0, r1, r2, r3, w, r5, r6, r7, r8], Lg)) o from ev_call (fun v μ => (d + 2, 0, 0, 71, 27, [.val (.ref 1088), .val (.int p1), .val (.int p2)], v.toList ++ [], μ)) 3 ze8 e (fun n => Eq.refl _)
    by_cases zc9 : x4 ≠ 0
    · have h := itp h zc9
      suffices e : Ev (d + 2, 0, 0, 71, 32, [.val (.ref 1088), .val (.int p1), .val (.int p2)], [], (126, 120, L, [Y, T, HA, HB, RA, RB, ST, NS, I0, I1, I2, BO, FI, RG, GU, PU, MA_5, MN, MS, OT, SC], [r0, r1, r2, r3, w, r5, r6, r7, r8], Lg)) o from ev_t (c := x4 ≠ 0) _ _ 1  zc9 e (fun n => Eq.refl _)
      by_cases zc10 : 2 ≤ p2
      · have h := itp h zc10
        suffices e : Ev (d + 2, 0, 0, 71, 75, [.val (.ref 1088), .val (.int p1), .val (.int p2)], [], (126, 120, L, [Y, T, HA, HB, RA, RB, ST, NS, I0, I1, I2, BO, FI, RG, GU, PU, MA_5, MN, MS, OT, SC], [r0, r1, r2, r3, w, r5, r6, r7, r8], Lg)) o from ev_t (c := 2 ≤ p2) _ _ 3  zc10 e (fun n => Eq.refl _)
        by_cases zc11 : 4 ≤ p2
        · have h := itp h zc11
          suffices e : Ev (d + 2, 0, 0, 71, 111, [.val (.ref 1088), .val (.int p1), .val (.int p2)], [], (126, 120, L, [Y, T, HA, HB, RA, RB, ST, NS, I0, I1, I2, BO, FI, RG, GU, PU, MA_5, MN, MS, OT, SC], [r0, r1, r2, r3, w, r5, r6, r7, r8], Lg)) o from ev_t (c := 4 ≤ p2) _ _ 3  zc11 e (fun n => Eq.refl _)
          by_cases zc12 : p2 ≠ 4
          · have h := itp h zc12
            suffices e : Ev (d + 2, 0, 0, 71, 125, [.val (.ref 1088), .val (.int p1), .val (.int p2)], [], (126, 120, L, [Y, T, HA, HB, RA, RB, ST, NS, I0, I1, I2, BO, FI, RG, GU, PU, MA_5, MN, MS, OT, SC], [r0, r1, r2, r3, w, r5, r6, r7, r8], Lg)) o from ev_t (c := p2 ≠ 4) _ _ 3  zc12 e (fun n => Eq.refl _)
            by_cases zc13 : p2 ≠ 5
            · have h := itp h zc13
              suffices e : Ev (d + 2, 0, 0, 71, 144, [.val (.ref 1088), .val (.int p1), .val (.int p2)], [], (126, 120, L, [Y, T, HA, HB, RA, RB, ST, NS, I0, I1, I2, BO, FI, RG, GU, PU, MA_5, MN, MS, OT, SC], [r0, r1, r2, r3, w, r5, r6, r7, r8], Lg)) o from ev_t (c := p2 ≠ 5) _ _ 3  zc13 e (fun n => Eq.refl _)
              obtain ⟨x6, zh14, h⟩ := bnd h
              have zh14 : f_M_mayIn MA_5 p1 = some x6 := zh14
              have ze15 := R_f_M_mayIn_0 (d + 1) Y T HA HB RA RB ST NS I0 I1 I2 BO FI RG GU PU MA_5 MN MS OT SC r0 r1 r2 r3 w r5 r6 r7 r8 L Lg p1 zh14
              suffices e : Ev (d + 2, 0, 0, 71, 149, [.val (.ref 1088), .val (.int p1), .val (.int p2)], [.int x6], (126, 120, L, [Y, T, HA, HB, RA, RB, ST, NS, I0, I1, I2, BO, FI, RG, GU, PU, MA_5, MN, MS, OT, SC], [r0, r1, r2, r3, w, r5, r6, r7, r8], Lg)) o from ev_call (fun v μ => (d + 2, 0, 0, 71, 149, [.val (.ref 1088), .val (.int p1), .val (.int p2)], v.toList ++ [], μ)) 3 ze15 e (fun n => Eq.refl _)
              have ze16 := Option.some.inj h
              subst ze16
              exact ev_rete 1 ho (fun n => Eq.refl _)
            · have h := itn h zc13
              suffices e : Ev (d + 2, 0, 0, 71, 130, [.val (.ref 1088), .val (.int p1), .val (.int p2)], [], (126, 120, L, [Y, T, HA, HB, RA, RB, ST, NS, I0, I1, I2, BO, FI, RG, GU, PU, MA_5, MN, MS, OT, SC], [r0, r1, r2, r3, w, r5, r6, r7, r8], Lg)) o from ev_f (c := p2 ≠ 5) _ _ 3  zc13 e (fun n => Eq.refl _)
              obtain ⟨x7, zh17, h⟩ := bnd h
              have zh17 : rdx (MA_5 5) 60 ((6 * p1) + 2) = some x7 := zh17
              suffices e : Ev (d + 2, 0, 0, 71, 141, [.val (.ref 1088), .val (.int p1), .val (.int p2)], [.int x7], (126, 120, L, [Y, T, HA, HB, RA, RB, ST, NS, I0, I1, I2, BO, FI, RG, GU, PU, MA_5, MN, MS, OT, SC], [r0, r1, r2, r3, w, r5, r6, r7, r8], Lg)) o from ev_opt (fun x7 => (d + 2, 0, 0, 71, 141, [.val (.ref 1088), .val (.int p1), .val (.int p2)], [.int x7], (126, 120, L, [Y, T, HA, HB, RA, RB, ST, NS, I0, I1, I2, BO, FI, RG, GU, PU, MA_5, MN, MS, OT, SC], [r0, r1, r2, r3, w, r5, r6, r7, r8], Lg))) 8 zh17 e (fun n => Eq.refl _)
              have ze18 := Option.some.inj h
              subst ze18
              exact ev_rete 2 ho (fun n => Eq.refl _)
          · have h := itn h zc12
            suffices e : Ev (d + 2, 0, 0, 71, 116, [.val (.ref 1088), .val (.int p1), .val (.int p2)], [], (126, 120, L, [Y, T, HA, HB, RA, RB, ST, NS, I0, I1, I2, BO, FI, RG, GU, PU, MA_5, MN, MS, OT, SC], [r0, r1, r2, r3, w, r5, r6, r7, r8], Lg)) o from ev_f (c := p2 ≠ 4) _ _ 3  zc12 e (fun n => Eq.refl _)
            obtain ⟨x8, zh19, h⟩ := bnd h
            have zh19 : rdx (MA_5 8) 10 p1 = some x8 := zh19
            suffices e : Ev (d + 2, 0, 0, 71, 122, [.val (.ref 1088), .val (.int p1), .val (.int p2)], [.int x8], (126, 120, L, [Y, T, HA, HB, RA, RB, ST, NS, I0, I1, I2, BO, FI, RG, GU, PU, MA_5, MN, MS, OT, SC], [r0, r1, r2, r3, w, r5, r6, r7, r8], Lg)) o from ev_opt (fun x8 => (d + 2, 0, 0, 71, 122, [.val (.ref 1088), .val (.int p1), .val (.int p2)], [.int x8], (126, 120, L, [Y, T, HA, HB, RA, RB, ST, NS, I0, I1, I2, BO, FI, RG, GU, PU, MA_5, MN, MS, OT, SC], [r0, r1, r2, r3, w, r5, r6, r7, r8], Lg))) 4 zh19 e (fun n => Eq.refl _)
            have ze20 := Option.some.inj h
            subst ze20
            exact ev_rete 2 ho (fun n => Eq.refl _)
        · have h := itn h zc11
          suffices e : Ev (d + 2, 0, 0, 71, 80, [.val (.ref 1088), .val (.int p1), .val (.int p2)], [], (126, 120, L, [Y, T, HA, HB, RA, RB, ST, NS, I0, I1, I2, BO, FI, RG, GU, PU, MA_5, MN, MS, OT, SC], [r0, r1, r2, r3, w, r5, r6, r7, r8], Lg)) o from ev_f (c := 4 ≤ p2) _ _ 3  zc11 e (fun n => Eq.refl _)
          by_cases zc21 : p2 ≠ 2
          · have h := itp h zc21
            suffices e : Ev (d + 2, 0, 0, 71, 99, [.val (.ref 1088), .val (.int p1), .val (.int p2)], [], (126, 120, L, [Y, T, HA, HB, RA, RB, ST, NS, I0, I1, I2, BO, FI, RG, GU, PU, MA_5, MN, MS, OT, SC], [r0, r1, r2, r3, w, r5, r6, r7, r8], Lg)) o from ev_t (c := p2 ≠ 2) _ _ 3  zc21 e (fun n => Eq.refl _)
            obtain ⟨x9, zh22, h⟩ := bnd h
            have zh22 : rdx (MA_5 5) 60 ((6 * p1) + 4) = some x9 := zh22
            suffices e : Ev (d + 2, 0, 0, 71, 110, [.val (.ref 1088), .val (.int p1), .val (.int p2)], [.int x9], (126, 120, L, [Y, T, HA, HB, RA, RB, ST, NS, I0, I1, I2, BO, FI, RG, GU, PU, MA_5, MN, MS, OT, SC], [r0, r1, r2, r3, w, r5, r6, r7, r8], Lg)) o from ev_opt (fun x9 => (d + 2, 0, 0, 71, 110, [.val (.ref 1088), .val (.int p1), .val (.int p2)], [.int x9], (126, 120, L, [Y, T, HA, HB, RA, RB, ST, NS, I0, I1, I2, BO, FI, RG, GU, PU, MA_5, MN, MS, OT, SC], [r0, r1, r2, r3, w, r5, r6, r7, r8], Lg))) 8 zh22 e (fun n => Eq.refl _)
            have ze23 := Option.some.inj h
            subst ze23
            exact ev_rete 1 ho (fun n => Eq.refl _)
          · have h := itn h zc21
            suffices e : Ev (d + 2, 0, 0, 71, 85, [.val (.ref 1088), .val (.int p1), .val (.int p2)], [], (126, 120, L, [Y, T, HA, HB, RA, RB, ST, NS, I0, I1, I2, BO, FI, RG, GU, PU, MA_5, MN, MS, OT, SC], [r0, r1, r2, r3, w, r5, r6, r7, r8], Lg)) o from ev_f (c := p2 ≠ 2) _ _ 3  zc21 e (fun n => Eq.refl _)
            obtain ⟨x10, zh24, h⟩ := bnd h
            have zh24 : rdx (MA_5 5) 60 ((6 * p1) + 1) = some x10 := zh24
            suffices e : Ev (d + 2, 0, 0, 71, 96, [.val (.ref 1088), .val (.int p1), .val (.int p2)], [.int x10], (126, 120, L, [Y, T, HA, HB, RA, RB, ST, NS, I0, I1, I2, BO, FI, RG, GU, PU, MA_5, MN, MS, OT, SC], [r0, r1, r2, r3, w, r5, r6, r7, r8], Lg)) o from ev_opt (fun x10 => (d + 2, 0, 0, 71, 96, [.val (.ref 1088), .val (.int p1), .val (.int p2)], [.int x10], (126, 120, L, [Y, T, HA, HB, RA, RB, ST, NS, I0, I1, I2, BO, FI, RG, GU, PU, MA_5, MN, MS, OT, SC], [r0, r1, r2, r3, w, r5, r6, r7, r8], Lg))) 8 zh24 e (fun n => Eq.refl _)
            have ze25 := Option.some.inj h
            subst ze25
            exact ev_rete 2 ho (fun n => Eq.refl _)
      · have h := itn h zc10
        suffices e : Ev (d + 2, 0, 0, 71, 37, [.val (.ref 1088), .val (.int p1), .val (.int p2)], [], (126, 120, L, [Y, T, HA, HB, RA, RB, ST, NS, I0, I1, I2, BO, FI, RG, GU, PU, MA_5, MN, MS, OT, SC], [r0, r1, r2, r3, w, r5, r6, r7, r8], Lg)) o from ev_f (c := 2 ≤ p2) _ _ 3  zc10 e (fun n => Eq.refl _)
        obtain ⟨x11, zh26, h⟩ := bnd h
        have zh26 : rdx (MA_5 7) 10 p1 = some x11 := zh26
        suffices e : Ev (d + 2, 0, 0, 71, 43, [.val (.ref 1088), .val (.int p1), .val (.int p2)], [.int x11], (126, 120, L, [Y, T, HA, HB, RA, RB, ST, NS, I0, I1, I2, BO, FI, RG, GU, PU, MA_5, MN, MS, OT, SC], [r0, r1, r2, r3, w, r5, r6, r7, r8], Lg)) o from ev_opt (fun x11 => (d + 2, 0, 0, 71, 43, [.val (.ref 1088), .val (.int p1), .val (.int p2)], [.int x11], (126, 120, L, [Y, T, HA, HB, RA, RB, ST, NS, I0, I1, I2, BO, FI, RG, GU, PU, MA_5, MN, MS, OT, SC], [r0, r1, r2, r3, w, r5, r6, r7, r8], Lg))) 4 zh26 e (fun n => Eq.refl _)
        by_cases zc27 : x11 ≠ (-1)
        · have h := itp h zc27
          suffices e : Ev (d + 2, 0, 0, 71, 51, [.val (.ref 1088), .val (.int p1), .val (.int p2)], [], (126, 120, L, [Y, T, HA, HB, RA, RB, ST, NS, I0, I1, I2, BO, FI, RG, GU, PU, MA_5, MN, MS, OT, SC], [r0, r1, r2, r3, w, r5, r6, r7, r8], Lg)) o from ev_t (c := x11 ≠ (-1)) _ _ 2  zc27 e (fun n => Eq.refl _)
          by_cases zc28 : p2 ≠ 0
          · have h := itp h zc28
            suffices e : Ev (d + 2, 0, 0, 71, 66, [.val (.ref 1088), .val (.int p1), .val (.int p2)], [], (126, 120, L, [Y, T, HA, HB, RA, RB, ST, NS, I0, I1, I2, BO, FI, RG, GU, PU, MA_5, MN, MS, OT, SC], [r0, r1, r2, r3, w, r5, r6, r7, r8], Lg)) o from ev_t (c := p2 ≠ 0) _ _ 2  zc28 e (fun n => Eq.refl _)
            obtain ⟨x12, zh29, h⟩ := bnd h
            have zh29 : rdx (MA_5 7) 10 p1 = some x12 := zh29
            suffices e : Ev (d + 2, 0, 0, 71, 72, [.val (.ref 1088), .val (.int p1), .val (.int p2)], [.int x12], (126, 120, L, [Y, T, HA, HB, RA, RB, ST, NS, I0, I1, I2, BO, FI, RG, GU, PU, MA_5, MN, MS, OT, SC], [r0, r1, r2, r3, w, r5, r6, r7, r8], Lg)) o from ev_opt (fun x12 => (d + 2, 0, 0, 71, 72, [.val (.ref 1088), .val (.int p1), .val (.int p2)], [.int x12], (126, 120, L, [Y, T, HA, HB, RA, RB, ST, NS, I0, I1, I2, BO, FI, RG, GU, PU, MA_5, MN, MS, OT, SC], [r0, r1, r2, r3, w, r5, r6, r7, r8], Lg))) 4 zh29 e (fun n => Eq.refl _)
            suffices e : Ev (d + 2, 0, 0, 71, 74, [.val (.ref 1088), .val (.int p1), .val (.int p2)], [.int (a_rem x12 3)], (126, 120, L, [Y, T, HA, HB, RA, RB, ST, NS, I0, I1, I2, BO, FI, RG, GU, PU, MA_5, MN, MS, OT, SC], [r0, r1, r2, r3, w, r5, r6, r7, r8], Lg)) o from ev_b 2 e (fun n => Eq.refl _)
            have ze30 := Option.some.inj h
            subst ze30
            exact ev_rete 1 ho (fun n => Eq.refl _)
          · have h := itn h zc28
            suffices e : Ev (d + 2, 0, 0, 71, 55, [.val (.ref 1088), .val (.int p1), .val (.int p2)], [], (126, 120, L, [Y, T, HA, HB, RA, RB, ST, NS, I0, I1, I2, BO, FI, RG, GU, PU, MA_5, MN, MS, OT, SC], [r0, r1, r2, r3, w, r5, r6, r7, r8], Lg)) o from ev_f (c := p2 ≠ 0) _ _ 2  zc28 e (fun n => Eq.refl _)
            obtain ⟨x13, zh31, h⟩ := bnd h
            have zh31 : rdx (MA_5 7) 10 p1 = some x13 := zh31
            suffices e : Ev (d + 2, 0, 0, 71, 61, [.val (.ref 1088), .val (.int p1), .val (.int p2)], [.int x13], (126, 120, L, [Y, T, HA, HB, RA, RB, ST, NS, I0, I1, I2, BO, FI, RG, GU, PU, MA_5, MN, MS, OT, SC], [r0, r1, r2, r3, w, r5, r6, r7, r8], Lg)) o from ev_opt (fun x13 => (d + 2, 0, 0, 71, 61, [.val (.ref 1088), .val (.int p1), .val (.int p2)], [.int x13], (126, 120, L, [Y, T, HA, HB, RA, RB, ST, NS, I0, I1, I2, BO, FI, RG, GU, PU, MA_5, MN, MS, OT, SC], [r0, r1, r2, r3, w, r5, r6, r7, r8], Lg))) 4 zh31 e (fun n => Eq.refl _)
            suffices e : Ev (d + 2, 0, 0, 71, 63, [.val (.ref 1088), .val (.int p1), .val (.int p2)], [.int (x13 / 3)], (126, 120, L, [Y, T, HA, HB, RA, RB, ST, NS, I0, I1, I2, BO, FI, RG, GU, PU, MA_5, MN, MS, OT, SC], [r0, r1, r2, r3, w, r5, r6, r7, r8], Lg)) o from ev_b 2 e (fun n => Eq.refl _)
            have ze32 := Option.some.inj h
            subst ze32
            exact ev_rete 2 ho (fun n => Eq.refl _)
        · have h := itn h zc27
          suffices e : Ev (d + 2, 0, 0, 71, 47, [.val (.ref 1088), .val (.int p1), .val (.int p2)], [], (126, 120, L, [Y, T, HA, HB, RA, RB, ST, NS, I0, I1, I2, BO, FI, RG, GU, PU, MA_5, MN, MS, OT, SC], [r0, r1, r2, r3, w, r5, r6, r7, r8], Lg)) o from ev_f (c := x11 ≠ (-1)) _ _ 2  zc27 e (fun n => Eq.refl _)
          have ze33 := Option.some.inj h
          subst ze33
          exact ev_rete 3 ho (fun n => Eq.refl _)
    · have h := itn h zc9
      suffices e : Ev (d + 2, 0, 0, 71, 30, [.val (.ref 1088), .val (.int p1), .val (.int p2)], [], (126, 120, L, [Y, T, HA, HB, RA, RB, ST, NS, I0, I1, I2, BO, FI, RG, GU, PU, MA_5, MN, MS, OT, SC], [r0, r1, r2, r3, w, r5, r6, r7, r8], Lg)) o from ev_f (c := x4 ≠ 0) _ _ 1  zc9 e (fun n => Eq.refl _)
      have ze34 := Option.some.inj h
      subst ze34
      exact ev_rete 2 ho (fun n => Eq.refl _)
set_option maxRecDepth 1000000 in
set_option maxHeartbeats 4000000 in
theorem R_f_M_bornBy_0 (d : Nat) (Y T HA HB RA RB ST NS I0 I1 I2 BO FI RG GU PU MA MN MS OT SC : Nat → Nat → Int32) (r0 r1 r2 r3 w r5 r6 r7 r8 : Nat) (L : Nat) (Lg : Int64) (p1 : Int32) {r : Int32} (h : f_M_bornBy MA p1 = some r) : Ev (d + 0, 0, 0, 72, 0, [.val (.ref 1088), .val (.int p1), .val a_unk, .val a_unk], [], (126, 120, L, [Y, T, HA, HB, RA, RB, ST, NS, I0, I1, I2, BO, FI, RG, GU, PU, MA, MN, MS, OT, SC], [r0, r1, r2, r3, w, r5, r6, r7, r8], Lg)) ((0, some (.int r), (126, 120, L, [Y, T, HA, HB, RA, RB, ST, NS, I0, I1, I2, BO, FI, RG, GU, PU, MA, MN, MS, OT, SC], [r0, r1, r2, r3, w, r5, r6, r7, r8], Lg)) : AOut) := by
  suffices key : ∀ o : AOut, ((0, some (.int r), (126, 120, L, [Y, T, HA, HB, RA, RB, ST, NS, I0, I1, I2, BO, FI, RG, GU, PU, MA, MN, MS, OT, SC], [r0, r1, r2, r3, w, r5, r6, r7, r8], Lg)) : AOut) = o → Ev (d + 0, 0, 0, 72, 0, [.val (.ref 1088), .val (.int p1), .val a_unk, .val a_unk], [], (126, 120, L, [Y, T, HA, HB, RA, RB, ST, NS, I0, I1, I2, BO, FI, RG, GU, PU, MA, MN, MS, OT, SC], [r0, r1, r2, r3, w, r5, r6, r7, r8], Lg)) o from key _ rfl
  intro o ho
  obtain ⟨v5, zh2, h⟩ := bnd h
  suffices e : Ev (d + 0, 0, 0, 72, 4, [.val (.ref 1088), .val (.int p1), .val (.int 0), .val (.int 0)], [], (126, 120, L, [Y, T, HA, HB, RA, RB, ST, NS, I0, I1, I2, BO, FI, RG, GU, PU, MA, MN, MS, OT, SC], [r0, r1, r2, r3, w, r5, r6, r7, r8], Lg)) o from ev_b 4 e (fun n => Eq.refl _)
  refine ev_loop (δ := Unit) (fun a j => (d + 0, 0, 0, 72, 4, [.val (.ref 1088), .val (.int p1), .val (.int a.1), .val (.int a.2)], [], (126, 120, L, [Y, T, HA, HB, RA, RB, ST, NS, I0, I1, I2, BO, FI, RG, GU, PU, MA, MN, MS, OT, SC], [r0, r1, r2, r3, w, r5, r6, r7, r8], Lg))) (fun b => ∀ s6 : Value, Ev (d + 0, 0, 0, 72, 50, [.val (.ref 1088), .val (.int p1), .val (.int b), .val s6], [], (126, 120, L, [Y, T, HA, HB, RA, RB, ST, NS, I0, I1, I2, BO, FI, RG, GU, PU, MA, MN, MS, OT, SC], [r0, r1, r2, r3, w, r5, r6, r7, r8], Lg)) o) ?_ a_F (0, 0) v5 zh2 ?_ ()
  · rintro ⟨v1, v2⟩ zr6 zh5 zi3 zx4 ⟨⟩
    have zh5 : f_M_bornBy_l4 MA p1 v1 v2 = some zr6 := zh5
    by_cases zc7 : (MA 0 26) ≤ v2
    · have zh5 := itp zh5 zc7
      suffices e : Ev (d + 0, 0, 0, 72, 50, [.val (.ref 1088), .val (.int p1), .val (.int v1), .val (.int v2)], [], (126, 120, L, [Y, T, HA, HB, RA, RB, ST, NS, I0, I1, I2, BO, FI, RG, GU, PU, MA, MN, MS, OT, SC], [r0, r1, r2, r3, w, r5, r6, r7, r8], Lg)) o from ev_t (c := (MA 0 26) ≤ v2) _ _ 4  zc7 e (fun n => Eq.refl _)
      exact ev_b 0 (zx4 _ (Option.some.inj zh5).symm (.int v2)) (fun n => Eq.refl _)
    · have zh5 := itn zh5 zc7
      suffices e : Ev (d + 0, 0, 0, 72, 12, [.val (.ref 1088), .val (.int p1), .val (.int v1), .val (.int v2)], [], (126, 120, L, [Y, T, HA, HB, RA, RB, ST, NS, I0, I1, I2, BO, FI, RG, GU, PU, MA, MN, MS, OT, SC], [r0, r1, r2, r3, w, r5, r6, r7, r8], Lg)) o from ev_f (c := (MA 0 26) ≤ v2) _ _ 4  zc7 e (fun n => Eq.refl _)
      obtain ⟨x3, zh8, zh5⟩ := bnd zh5
      have zh8 : rdx (MA 5) 60 ((6 * v2) + 2) = some x3 := zh8
      suffices e : Ev (d + 0, 0, 0, 72, 24, [.val (.ref 1088), .val (.int p1), .val (.int v1), .val (.int v2)], [.int x3, .int v1], (126, 120, L, [Y, T, HA, HB, RA, RB, ST, NS, I0, I1, I2, BO, FI, RG, GU, PU, MA, MN, MS, OT, SC], [r0, r1, r2, r3, w, r5, r6, r7, r8], Lg)) o from ev_opt (fun x3 => (d + 0, 0, 0, 72, 24, [.val (.ref 1088), .val (.int p1), .val (.int v1), .val (.int v2)], [.int x3, .int v1], (126, 120, L, [Y, T, HA, HB, RA, RB, ST, NS, I0, I1, I2, BO, FI, RG, GU, PU, MA, MN, MS, OT, SC], [r0, r1, r2, r3, w, r5, r6, r7, r8], Lg))) 9 zh8 e (fun n => Eq.refl _)
      by_cases zc9 : ((a_shr x3 p1) &&& 1) ≠ 1
      · have zh5 := itp zh5 zc9
        suffices e : Ev (d + 0, 0, 0, 72, 41, [.val (.ref 1088), .val (.int p1), .val (.int v1), .val (.int v2)], [.int v1], (126, 120, L, [Y, T, HA, HB, RA, RB, ST, NS, I0, I1, I2, BO, FI, RG, GU, PU, MA, MN, MS, OT, SC], [r0, r1, r2, r3, w, r5, r6, r7, r8], Lg)) o from ev_t (c := ((a_shr x3 p1) &&& 1) ≠ 1) _ _ 6  zc9 e (fun n => Eq.refl _)
        exact ev_b 5 (zi3 _ (Option.some.inj zh5).symm ()) (fun n => Eq.refl _)
      · have zh5 := itn zh5 zc9
        suffices e : Ev (d + 0, 0, 0, 72, 32, [.val (.ref 1088), .val (.int p1), .val (.int v1), .val (.int v2)], [.int v1], (126, 120, L, [Y, T, HA, HB, RA, RB, ST, NS, I0, I1, I2, BO, FI, RG, GU, PU, MA, MN, MS, OT, SC], [r0, r1, r2, r3, w, r5, r6, r7, r8], Lg)) o from ev_f (c := ((a_shr x3 p1) &&& 1) ≠ 1) _ _ 6  zc9 e (fun n => Eq.refl _)
        obtain ⟨x4, zh10, zh5⟩ := bnd zh5
        have zh10 : rdx (MA 8) 10 v2 = some x4 := zh10
        suffices e : Ev (d + 0, 0, 0, 72, 38, [.val (.ref 1088), .val (.int p1), .val (.int v1), .val (.int v2)], [.int x4, .int v1], (126, 120, L, [Y, T, HA, HB, RA, RB, ST, NS, I0, I1, I2, BO, FI, RG, GU, PU, MA, MN, MS, OT, SC], [r0, r1, r2, r3, w, r5, r6, r7, r8], Lg)) o from ev_opt (fun x4 => (d + 0, 0, 0, 72, 38, [.val (.ref 1088), .val (.int p1), .val (.int v1), .val (.int v2)], [.int x4, .int v1], (126, 120, L, [Y, T, HA, HB, RA, RB, ST, NS, I0, I1, I2, BO, FI, RG, GU, PU, MA, MN, MS, OT, SC], [r0, r1, r2, r3, w, r5, r6, r7, r8], Lg))) 4 zh10 e (fun n => Eq.refl _)
        exact ev_b 5 (zi3 _ (Option.some.inj zh5).symm ()) (fun n => Eq.refl _)
  · skip
    intro s6
    have ze11 := Option.some.inj h
    subst ze11
    exact ev_rete 2 ho (fun n => Eq.refl _)
set_option maxRecDepth 1000000 in
set_option maxHeartbeats 4000000 in
theorem R_f_M_person_0 (d : Nat) (Y T HA HB RA RB ST NS I0 I1 I2 BO FI RG GU PU MA MN MS OT SC : Nat → Nat → Int32) (r0 r1 r2 r3 w r5 r6 r7 r8 : Nat) (L : Nat) (Lg : Int64) (p1 : Int32) (p2 : Int32) {r : Int32 × (Nat → Nat → Int32)} (h : f_M_person MA p1 p2 = some r) : Ev (d + 2, 0, 0, 73, 0, [.val (.ref 1088), .val (.int p1), .val (.int p2), .val a_unk, .val a_unk], [], (126, 120, L, [Y, T, HA, HB, RA, RB, ST, NS, I0, I1, I2, BO, FI, RG, GU, PU, MA, MN, MS, OT, SC], [r0, r1, r2, r3, w, r5, r6, r7, r8], Lg)) ((0, some (.int r.1), (126, 120, L, [Y, T, HA, HB, RA, RB, ST, NS, I0, I1, I2, BO, FI, RG, GU, PU, r.2, MN, MS, OT, SC], [r0, r1, r2, r3, w, r5, r6, r7, r8], Lg)) : AOut) := by
  suffices key : ∀ o : AOut, ((0, some (.int r.1), (126, 120, L, [Y, T, HA, HB, RA, RB, ST, NS, I0, I1, I2, BO, FI, RG, GU, PU, r.2, MN, MS, OT, SC], [r0, r1, r2, r3, w, r5, r6, r7, r8], Lg)) : AOut) = o → Ev (d + 2, 0, 0, 73, 0, [.val (.ref 1088), .val (.int p1), .val (.int p2), .val a_unk, .val a_unk], [], (126, 120, L, [Y, T, HA, HB, RA, RB, ST, NS, I0, I1, I2, BO, FI, RG, GU, PU, MA, MN, MS, OT, SC], [r0, r1, r2, r3, w, r5, r6, r7, r8], Lg)) o from key _ rfl
  intro o ho
  obtain ⟨⟨x1, MA_2⟩, zh1, h⟩ := bnd h
  have zh1 : f_M_isPerson (u2 MA 0 0 0) p1 1 = some (x1, MA_2) := zh1
  have ze2 := R_f_M_isPerson_0 (d + 0) Y T HA HB RA RB ST NS I0 I1 I2 BO FI RG GU PU (u2 MA 0 0 0) MN MS OT SC r0 r1 r2 r3 w r5 r6 r7 r8 L Lg p1 1 zh1
  suffices e : Ev (d + 2, 0, 0, 73, 11, [.val (.ref 1088), .val (.int p1), .val (.int p2), .val a_unk, .val a_unk], [.int x1], (126, 120, L, [Y, T, HA, HB, RA, RB, ST, NS, I0, I1, I2, BO, FI, RG, GU, PU, MA_2, MN, MS, OT, SC], [r0, r1, r2, r3, w, r5, r6, r7, r8], Lg)) o from ev_call (fun v μ => (d + 2, 0, 0, 73, 11, [.val (.ref 1088), .val (.int p1), .val (.int p2), .val a_unk, .val a_unk], v.toList ++ [], μ)) 7 ze2 e (fun n => Eq.refl _)
  by_cases zc3 : x1 = 0
  · have h := itp h zc3
    suffices e : Ev (d + 2, 0, 0, 73, 29, [.val (.ref 1088), .val (.int p1), .val (.int p2), .val a_unk, .val a_unk], [], (126, 120, L, [Y, T, HA, HB, RA, RB, ST, NS, I0, I1, I2, BO, FI, RG, GU, PU, MA_2, MN, MS, OT, SC], [r0, r1, r2, r3, w, r5, r6, r7, r8], Lg)) o from ev_t (c := x1 = 0) _ _ 1  zc3 e (fun n => Eq.refl _)
    have ze4 := Option.some.inj h
    subst ze4
    exact ev_rete 2 ho (fun n => Eq.refl _)
  · have h := itn h zc3
    suffices e : Ev (d + 2, 0, 0, 73, 14, [.val (.ref 1088), .val (.int p1), .val (.int p2), .val a_unk, .val a_unk], [], (126, 120, L, [Y, T, HA, HB, RA, RB, ST, NS, I0, I1, I2, BO, FI, RG, GU, PU, MA_2, MN, MS, OT, SC], [r0, r1, r2, r3, w, r5, r6, r7, r8], Lg)) o from ev_f (c := x1 = 0) _ _ 1  zc3 e (fun n => Eq.refl _)
    obtain ⟨x3, zh5, h⟩ := bnd h
    have zh5 : f_M_within p2 0 4 = some x3 := zh5
    have ze6 := R_f_M_within_0 (d + 1) Y T HA HB RA RB ST NS I0 I1 I2 BO FI RG GU PU MA_2 MN MS OT SC r0 r1 r2 r3 w r5 r6 r7 r8 L Lg p2 0 4 zh5
    suffices e : Ev (d + 2, 0, 0, 73, 21, [.val (.ref 1088), .val (.int p1), .val (.int p2), .val a_unk, .val a_unk], [.int x3, .ref 1088], (126, 120, L, [Y, T, HA, HB, RA, RB, ST, NS, I0, I1, I2, BO, FI, RG, GU, PU, MA_2, MN, MS, OT, SC], [r0, r1, r2, r3, w, r5, r6, r7, r8], Lg)) o from ev_call (fun v μ => (d + 2, 0, 0, 73, 21, [.val (.ref 1088), .val (.int p1), .val (.int p2), .val a_unk, .val a_unk], v.toList ++ [.ref 1088], μ)) 5 ze6 e (fun n => Eq.refl _)
    obtain ⟨⟨x4, MA_5⟩, zh7, h⟩ := bnd h
    have zh7 : f_M_may MA_2 x3 2 1 = some (x4, MA_5) := zh7
    have ze8 := R_f_M_may_0 (d + 1) Y T HA HB RA RB ST NS I0 I1 I2 BO FI RG GU PU MA_2 MN MS OT SC r0 r1 r2 r3 w r5 r6 r7 r8 L Lg x3 2 1 zh7
    suffices e : Ev (d + 2, 0, 0, 73, 26, [.val (.ref 1088), .val (.int p1), .val (.int p2), .val a_unk, .val a_unk], [.int x4], (126, 120, L, [Y, T, HA, HB, RA, RB, ST, NS, I0, I1, I2, BO, FI, RG, GU, PU, MA_5, MN, MS, OT, SC], [r0, r1, r2, r3, w, r5, r6, r7, r8], Lg)) o from ev_call (fun v μ => (d + 2, 0, 0, 73, 26, [.val (.ref 1088), .val (.int p1), .val (.int p2), .val a_unk, .val a_unk], v.toList ++ [], μ)) 3 ze8 e (fun n => Eq.refl _)
    by_cases zc9 : x4 ≠ 0
    · have h := itp h zc9
      suffices e : Ev (d + 2, 0, 0, 73, 31, [.val (.ref 1088), .val (.int p1), .val (.int p2), .val a_unk, .val a_unk], [], (126, 120, L, [Y, T, HA, HB, RA, RB, ST, NS, I0, I1, I2, BO, FI, RG, GU, PU, MA_5, MN, MS, OT, SC], [r0, r1, r2, r3, w, r5, r6, r7, r8], Lg)) o from ev_t (c := x4 ≠ 0) _ _ 1  zc9 e (fun n => Eq.refl _)
      by_cases zc10 : 3 ≤ p2
      · have h := itp h zc10
        suffices e : Ev (d + 2, 0, 0, 73, 47, [.val (.ref 1088), .val (.int p1), .val (.int p2), .val a_unk, .val a_unk], [], (126, 120, L, [Y, T, HA, HB, RA, RB, ST, NS, I0, I1, I2, BO, FI, RG, GU, PU, MA_5, MN, MS, OT, SC], [r0, r1, r2, r3, w, r5, r6, r7, r8], Lg)) o from ev_t (c := 3 ≤ p2) _ _ 3  zc10 e (fun n => Eq.refl _)
        by_cases zc11 : p2 ≠ 4
        · have h := itp h zc11
          suffices e : Ev (d + 2, 0, 0, 73, 58, [.val (.ref 1088), .val (.int p1), .val (.int p2), .val a_unk, .val a_unk], [], (126, 120, L, [Y, T, HA, HB, RA, RB, ST, NS, I0, I1, I2, BO, FI, RG, GU, PU, MA_5, MN, MS, OT, SC], [r0, r1, r2, r3, w, r5, r6, r7, r8], Lg)) o from ev_t (c := p2 ≠ 4) _ _ 3  zc11 e (fun n => Eq.refl _)
          obtain ⟨v10, zh13, h⟩ := bnd h
          suffices e : Ev (d + 2, 0, 0, 73, 63, [.val (.ref 1088), .val (.int p1), .val (.int p2), .val (.int 0), .val (.int 0)], [], (126, 120, L, [Y, T, HA, HB, RA, RB, ST, NS, I0, I1, I2, BO, FI, RG, GU, PU, MA_5, MN, MS, OT, SC], [r0, r1, r2, r3, w, r5, r6, r7, r8], Lg)) o from ev_b 4 e (fun n => Eq.refl _)
          refine ev_loop (δ := Unit) (fun a j => (d + 2, 0, 0, 73, 63, [.val (.ref 1088), .val (.int p1), .val (.int p2), .val (.int a.1), .val (.int a.2)], [], (126, 120, L, [Y, T, HA, HB, RA, RB, ST, NS, I0, I1, I2, BO, FI, RG, GU, PU, MA_5, MN, MS, OT, SC], [r0, r1, r2, r3, w, r5, r6, r7, r8], Lg))) (fun b => ∀ s11 : Value, Ev (d + 2, 0, 0, 73, 117, [.val (.ref 1088), .val (.int p1), .val (.int p2), .val (.int b), .val s11], [], (126, 120, L, [Y, T, HA, HB, RA, RB, ST, NS, I0, I1, I2, BO, FI, RG, GU, PU, MA_5, MN, MS, OT, SC], [r0, r1, r2, r3, w, r5, r6, r7, r8], Lg)) o) ?_ a_F (0, 0) v10 zh13 ?_ ()
          · rintro ⟨v6, v7⟩ zr17 zh16 zi14 zx15 ⟨⟩
            have zh16 : f_M_person_l63 MA_5 p1 v6 v7 = some zr17 := zh16
            by_cases zc18 : (MA_5 0 26) ≤ v7
            · have zh16 := itp zh16 zc18
              suffices e : Ev (d + 2, 0, 0, 73, 117, [.val (.ref 1088), .val (.int p1), .val (.int p2), .val (.int v6), .val (.int v7)], [], (126, 120, L, [Y, T, HA, HB, RA, RB, ST, NS, I0, I1, I2, BO, FI, RG, GU, PU, MA_5, MN, MS, OT, SC], [r0, r1, r2, r3, w, r5, r6, r7, r8], Lg)) o from ev_t (c := (MA_5 0 26) ≤ v7) _ _ 4  zc18 e (fun n => Eq.refl _)
              exact ev_b 0 (zx15 _ (Option.some.inj zh16).symm (.int v7)) (fun n => Eq.refl _)
            · have zh16 := itn zh16 zc18
              suffices e : Ev (d + 2, 0, 0, 73, 72, [.val (.ref 1088), .val (.int p1), .val (.int p2), .val (.int v6), .val (.int v7)], [], (126, 120, L, [Y, T, HA, HB, RA, RB, ST, NS, I0, I1, I2, BO, FI, RG, GU, PU, MA_5, MN, MS, OT, SC], [r0, r1, r2, r3, w, r5, r6, r7, r8], Lg)) o from ev_f (c := (MA_5 0 26) ≤ v7) _ _ 4  zc18 e (fun n => Eq.refl _)
              obtain ⟨x8, zh19, zh16⟩ := bnd zh16
              have zh19 : rdx (MA_5 7) 10 v7 = some x8 := zh19
              suffices e : Ev (d + 2, 0, 0, 73, 80, [.val (.ref 1088), .val (.int p1), .val (.int p2), .val (.int v6), .val (.int v7)], [.int x8, .int v6], (126, 120, L, [Y, T, HA, HB, RA, RB, ST, NS, I0, I1, I2, BO, FI, RG, GU, PU, MA_5, MN, MS, OT, SC], [r0, r1, r2, r3, w, r5, r6, r7, r8], Lg)) o from ev_opt (fun x8 => (d + 2, 0, 0, 73, 80, [.val (.ref 1088), .val (.int p1), .val (.int p2), .val (.int v6), .val (.int v7)], [.int x8, .int v6], (126, 120, L, [Y, T, HA, HB, RA, RB, ST, NS, I0, I1, I2, BO, FI, RG, GU, PU, MA_5, MN, MS, OT, SC], [r0, r1, r2, r3, w, r5, r6, r7, r8], Lg))) 5 zh19 e (fun n => Eq.refl _)
              obtain ⟨zt20, zh21, zh16⟩ := bnd zh16
              have zj22 : zt20 = .inl () → Ev (d + 2, 0, 0, 73, 108, [.val (.ref 1088), .val (.int p1), .val (.int p2), .val (.int v6), .val (.int v7)], [.int v6], (126, 120, L, [Y, T, HA, HB, RA, RB, ST, NS, I0, I1, I2, BO, FI, RG, GU, PU, MA_5, MN, MS, OT, SC], [r0, r1, r2, r3, w, r5, r6, r7, r8], Lg)) o := by
                intro ze23
                have zh16 := sum_l zh16 ze23
                exact ev_b 5 (zi14 _ (Option.some.inj zh16).symm ()) (fun n => Eq.refl _)
              by_cases zc24 : x8 = (-1)
              · have zh21 := itp zh21 zc24
                suffices e : Ev (d + 2, 0, 0, 73, 108, [.val (.ref 1088), .val (.int p1), .val (.int p2), .val (.int v6), .val (.int v7)], [.int v6], (126, 120, L, [Y, T, HA, HB, RA, RB, ST, NS, I0, I1, I2, BO, FI, RG, GU, PU, MA_5, MN, MS, OT, SC], [r0, r1, r2, r3, w, r5, r6, r7, r8], Lg)) o from ev_t (c := x8 = (-1)) _ _ 2  zc24 e (fun n => Eq.refl _)
                exact ev_b 0 (zj22  (Option.some.inj zh21).symm ) (fun n => Eq.refl _)
              · have zh21 := itn zh21 zc24
                suffices e : Ev (d + 2, 0, 0, 73, 84, [.val (.ref 1088), .val (.int p1), .val (.int p2), .val (.int v6), .val (.int v7)], [.int v6], (126, 120, L, [Y, T, HA, HB, RA, RB, ST, NS, I0, I1, I2, BO, FI, RG, GU, PU, MA_5, MN, MS, OT, SC], [r0, r1, r2, r3, w, r5, r6, r7, r8], Lg)) o from ev_f (c := x8 = (-1)) _ _ 2  zc24 e (fun n => Eq.refl _)
                obtain ⟨x9, zh25, zh21⟩ := bnd zh21
                have zh25 : rdx (MA_5 5) 60 ((6 * v7) + 2) = some x9 := zh25
                suffices e : Ev (d + 2, 0, 0, 73, 96, [.val (.ref 1088), .val (.int p1), .val (.int p2), .val (.int v6), .val (.int v7)], [.int x9, .int v6], (126, 120, L, [Y, T, HA, HB, RA, RB, ST, NS, I0, I1, I2, BO, FI, RG, GU, PU, MA_5, MN, MS, OT, SC], [r0, r1, r2, r3, w, r5, r6, r7, r8], Lg)) o from ev_opt (fun x9 => (d + 2, 0, 0, 73, 96, [.val (.ref 1088), .val (.int p1), .val (.int p2), .val (.int v6), .val (.int v7)], [.int x9, .int v6], (126, 120, L, [Y, T, HA, HB, RA, RB, ST, NS, I0, I1, I2, BO, FI, RG, GU, PU, MA_5, MN, MS, OT, SC], [r0, r1, r2, r3, w, r5, r6, r7, r8], Lg))) 8 zh25 e (fun n => Eq.refl _)
                by_cases zc26 : ((a_shr x9 p1) &&& 1) ≠ 1
                · have zh21 := itp zh21 zc26
                  suffices e : Ev (d + 2, 0, 0, 73, 108, [.val (.ref 1088), .val (.int p1), .val (.int p2), .val (.int v6), .val (.int v7)], [.int v6], (126, 120, L, [Y, T, HA, HB, RA, RB, ST, NS, I0, I1, I2, BO, FI, RG, GU, PU, MA_5, MN, MS, OT, SC], [r0, r1, r2, r3, w, r5, r6, r7, r8], Lg)) o from ev_t (c := ((a_shr x9 p1) &&& 1) ≠ 1) _ _ 6  zc26 e (fun n => Eq.refl _)
                  exact ev_b 0 (zj22  (Option.some.inj zh21).symm ) (fun n => Eq.refl _)
                · have zh21 := itn zh21 zc26
                  suffices e : Ev (d + 2, 0, 0, 73, 104, [.val (.ref 1088), .val (.int p1), .val (.int p2), .val (.int v6), .val (.int v7)], [.int v6], (126, 120, L, [Y, T, HA, HB, RA, RB, ST, NS, I0, I1, I2, BO, FI, RG, GU, PU, MA_5, MN, MS, OT, SC], [r0, r1, r2, r3, w, r5, r6, r7, r8], Lg)) o from ev_f (c := ((a_shr x9 p1) &&& 1) ≠ 1) _ _ 6  zc26 e (fun n => Eq.refl _)
                  have zh27 := sum_r zh16 (Option.some.inj zh21).symm
                  exact ev_b 6 (zi14 _ (Option.some.inj zh27).symm ()) (fun n => Eq.refl _)
          · skip
            intro s11
            have ze28 := Option.some.inj h
            subst ze28
            exact ev_rete 2 ho (fun n => Eq.refl _)
        · have h := itn h zc11
          suffices e : Ev (d + 2, 0, 0, 73, 52, [.val (.ref 1088), .val (.int p1), .val (.int p2), .val a_unk, .val a_unk], [], (126, 120, L, [Y, T, HA, HB, RA, RB, ST, NS, I0, I1, I2, BO, FI, RG, GU, PU, MA_5, MN, MS, OT, SC], [r0, r1, r2, r3, w, r5, r6, r7, r8], Lg)) o from ev_f (c := p2 ≠ 4) _ _ 3  zc11 e (fun n => Eq.refl _)
          obtain ⟨x12, zh29, h⟩ := bnd h
          have zh29 : f_M_bornBy MA_5 p1 = some x12 := zh29
          have ze30 := R_f_M_bornBy_0 (d + 1) Y T HA HB RA RB ST NS I0 I1 I2 BO FI RG GU PU MA_5 MN MS OT SC r0 r1 r2 r3 w r5 r6 r7 r8 L Lg p1 zh29
          suffices e : Ev (d + 2, 0, 0, 73, 57, [.val (.ref 1088), .val (.int p1), .val (.int p2), .val a_unk, .val a_unk], [.int x12], (126, 120, L, [Y, T, HA, HB, RA, RB, ST, NS, I0, I1, I2, BO, FI, RG, GU, PU, MA_5, MN, MS, OT, SC], [r0, r1, r2, r3, w, r5, r6, r7, r8], Lg)) o from ev_call (fun v μ => (d + 2, 0, 0, 73, 57, [.val (.ref 1088), .val (.int p1), .val (.int p2), .val a_unk, .val a_unk], v.toList ++ [], μ)) 3 ze30 e (fun n => Eq.refl _)
          have ze31 := Option.some.inj h
          subst ze31
          exact ev_rete 1 ho (fun n => Eq.refl _)
      · have h := itn h zc10
        suffices e : Ev (d + 2, 0, 0, 73, 36, [.val (.ref 1088), .val (.int p1), .val (.int p2), .val a_unk, .val a_unk], [], (126, 120, L, [Y, T, HA, HB, RA, RB, ST, NS, I0, I1, I2, BO, FI, RG, GU, PU, MA_5, MN, MS, OT, SC], [r0, r1, r2, r3, w, r5, r6, r7, r8], Lg)) o from ev_f (c := 3 ≤ p2) _ _ 3  zc10 e (fun n => Eq.refl _)
        obtain ⟨x13, zh32, h⟩ := bnd h
        have zh32 : rdx (MA_5 4) 24 ((3 * p1) + p2) = some x13 := zh32
        suffices e : Ev (d + 2, 0, 0, 73, 46, [.val (.ref 1088), .val (.int p1), .val (.int p2), .val a_unk, .val a_unk], [.int x13], (126, 120, L, [Y, T, HA, HB, RA, RB, ST, NS, I0, I1, I2, BO, FI, RG, GU, PU, MA_5, MN, MS, OT, SC], [r0, r1, r2, r3, w, r5, r6, r7, r8], Lg)) o from ev_opt (fun x13 => (d + 2, 0, 0, 73, 46, [.val (.ref 1088), .val (.int p1), .val (.int p2), .val a_unk, .val a_unk], [.int x13], (126, 120, L, [Y, T, HA, HB, RA, RB, ST, NS, I0, I1, I2, BO, FI, RG, GU, PU, MA_5, MN, MS, OT, SC], [r0, r1, r2, r3, w, r5, r6, r7, r8], Lg))) 8 zh32 e (fun n => Eq.refl _)
        have ze33 := Option.some.inj h
        subst ze33
        exact ev_rete 1 ho (fun n => Eq.refl _)
    · have h := itn h zc9
      suffices e : Ev (d + 2, 0, 0, 73, 29, [.val (.ref 1088), .val (.int p1), .val (.int p2), .val a_unk, .val a_unk], [], (126, 120, L, [Y, T, HA, HB, RA, RB, ST, NS, I0, I1, I2, BO, FI, RG, GU, PU, MA_5, MN, MS, OT, SC], [r0, r1, r2, r3, w, r5, r6, r7, r8], Lg)) o from ev_f (c := x4 ≠ 0) _ _ 1  zc9 e (fun n => Eq.refl _)
      have ze34 := Option.some.inj h
      subst ze34
      exact ev_rete 2 ho (fun n => Eq.refl _)
set_option maxRecDepth 1000000 in
set_option maxHeartbeats 4000000 in
theorem R_f_M_at_0 (d : Nat) (Y T HA HB RA RB ST NS I0 I1 I2 BO FI RG GU PU MA MN MS OT SC : Nat → Nat → Int32) (r0 r1 r2 r3 w r5 r6 r7 r8 : Nat) (L : Nat) (Lg : Int64) (p1 : Int32) (p2 : Int32) {r : Int32 × (Nat → Nat → Int32)} (h : f_M_at MA p1 p2 = some r) : Ev (d + 2, 0, 0, 74, 0, [.val (.ref 1088), .val (.int p1), .val (.int p2), .val a_unk], [], (126, 120, L, [Y, T, HA, HB, RA, RB, ST, NS, I0, I1, I2, BO, FI, RG, GU, PU, MA, MN, MS, OT, SC], [r0, r1, r2, r3, w, r5, r6, r7, r8], Lg)) ((0, some (.int r.1), (126, 120, L, [Y, T, HA, HB, RA, RB, ST, NS, I0, I1, I2, BO, FI, RG, GU, PU, r.2, MN, MS, OT, SC], [r0, r1, r2, r3, w, r5, r6, r7, r8], Lg)) : AOut) := by
  suffices key : ∀ o : AOut, ((0, some (.int r.1), (126, 120, L, [Y, T, HA, HB, RA, RB, ST, NS, I0, I1, I2, BO, FI, RG, GU, PU, r.2, MN, MS, OT, SC], [r0, r1, r2, r3, w, r5, r6, r7, r8], Lg)) : AOut) = o → Ev (d + 2, 0, 0, 74, 0, [.val (.ref 1088), .val (.int p1), .val (.int p2), .val a_unk], [], (126, 120, L, [Y, T, HA, HB, RA, RB, ST, NS, I0, I1, I2, BO, FI, RG, GU, PU, MA, MN, MS, OT, SC], [r0, r1, r2, r3, w, r5, r6, r7, r8], Lg)) o from key _ rfl
  intro o ho
  obtain ⟨⟨x1, MA_2⟩, zh1, h⟩ := bnd h
  have zh1 : f_M_isRoom (u2 MA 0 0 0) p2 1 = some (x1, MA_2) := zh1
  have ze2 := R_f_M_isRoom_0 (d + 0) Y T HA HB RA RB ST NS I0 I1 I2 BO FI RG GU PU (u2 MA 0 0 0) MN MS OT SC r0 r1 r2 r3 w r5 r6 r7 r8 L Lg p2 1 zh1
  suffices e : Ev (d + 2, 0, 0, 74, 11, [.val (.ref 1088), .val (.int p1), .val (.int p2), .val a_unk], [.int x1], (126, 120, L, [Y, T, HA, HB, RA, RB, ST, NS, I0, I1, I2, BO, FI, RG, GU, PU, MA_2, MN, MS, OT, SC], [r0, r1, r2, r3, w, r5, r6, r7, r8], Lg)) o from ev_call (fun v μ => (d + 2, 0, 0, 74, 11, [.val (.ref 1088), .val (.int p1), .val (.int p2), .val a_unk], v.toList ++ [], μ)) 7 ze2 e (fun n => Eq.refl _)
  by_cases zc3 : x1 = 0
  · have h := itp h zc3
    suffices e : Ev (d + 2, 0, 0, 74, 34, [.val (.ref 1088), .val (.int p1), .val (.int p2), .val a_unk], [], (126, 120, L, [Y, T, HA, HB, RA, RB, ST, NS, I0, I1, I2, BO, FI, RG, GU, PU, MA_2, MN, MS, OT, SC], [r0, r1, r2, r3, w, r5, r6, r7, r8], Lg)) o from ev_t (c := x1 = 0) _ _ 1  zc3 e (fun n => Eq.refl _)
    have ze4 := Option.some.inj h
    subst ze4
    exact ev_rete 2 ho (fun n => Eq.refl _)
  · have h := itn h zc3
    suffices e : Ev (d + 2, 0, 0, 74, 14, [.val (.ref 1088), .val (.int p1), .val (.int p2), .val a_unk], [], (126, 120, L, [Y, T, HA, HB, RA, RB, ST, NS, I0, I1, I2, BO, FI, RG, GU, PU, MA_2, MN, MS, OT, SC], [r0, r1, r2, r3, w, r5, r6, r7, r8], Lg)) o from ev_f (c := x1 = 0) _ _ 1  zc3 e (fun n => Eq.refl _)
    obtain ⟨x3, zh5, h⟩ := bnd h
    have zh5 : f_M_within p1 0 ((MA_2 0 23) - 1) = some x3 := zh5
    have ze6 := R_f_M_within_0 (d + 1) Y T HA HB RA RB ST NS I0 I1 I2 BO FI RG GU PU MA_2 MN MS OT SC r0 r1 r2 r3 w r5 r6 r7 r8 L Lg p1 0 ((MA_2 0 23) - 1) zh5
    suffices e : Ev (d + 2, 0, 0, 74, 26, [.val (.ref 1088), .val (.int p1), .val (.int p2), .val a_unk], [.int x3, .ref 1088], (126, 120, L, [Y, T, HA, HB, RA, RB, ST, NS, I0, I1, I2, BO, FI, RG, GU, PU, MA_2, MN, MS, OT, SC], [r0, r1, r2, r3, w, r5, r6, r7, r8], Lg)) o from ev_call (fun v μ => (d + 2, 0, 0, 74, 26, [.val (.ref 1088), .val (.int p1), .val (.int p2), .val a_unk], v.toList ++ [.ref 1088], μ)) 8 ze6 e (fun n => Eq.refl _)
    obtain ⟨⟨x4, MA_5⟩, zh7, h⟩ := bnd h
    have zh7 : f_M_may MA_2 x3 2 1 = some (x4, MA_5) := zh7
    have ze8 := R_f_M_may_0 (d + 1) Y T HA HB RA RB ST NS I0 I1 I2 BO FI RG GU PU MA_2 MN MS OT SC r0 r1 r2 r3 w r5 r6 r7 r8 L Lg x3 2 1 zh7
    suffices e : Ev (d + 2, 0, 0, 74, 31, [.val (.ref 1088), .val (.int p1), .val (.int p2), .val a_unk], [.int x4], (126, 120, L, [Y, T, HA, HB, RA, RB, ST, NS, I0, I1, I2, BO, FI, RG, GU, PU, MA_5, MN, MS, OT, SC], [r0, r1, r2, r3, w, r5, r6, r7, r8], Lg)) o from ev_call (fun v μ => (d + 2, 0, 0, 74, 31, [.val (.ref 1088), .val (.int p1), .val (.int p2), .val a_unk], v.toList ++ [], μ)) 3 ze8 e (fun n => Eq.refl _)
    by_cases zc9 : x4 ≠ 0
    · have h := itp h zc9
      suffices e : Ev (d + 2, 0, 0, 74, 36, [.val (.ref 1088), .val (.int p1), .val (.int p2), .val a_unk], [], (126, 120, L, [Y, T, HA, HB, RA, RB, ST, NS, I0, I1, I2, BO, FI, RG, GU, PU, MA_5, MN, MS, OT, SC], [r0, r1, r2, r3, w, r5, r6, r7, r8], Lg)) o from ev_t (c := x4 ≠ 0) _ _ 1  zc9 e (fun n => Eq.refl _)
      obtain ⟨zb10, zh11, h⟩ := bnd h
      suffices e : Ev (d + 2, 0, 0, 74, 38, [.val (.ref 1088), .val (.int p1), .val (.int p2), .val (.int 0)], [], (126, 120, L, [Y, T, HA, HB, RA, RB, ST, NS, I0, I1, I2, BO, FI, RG, GU, PU, MA_5, MN, MS, OT, SC], [r0, r1, r2, r3, w, r5, r6, r7, r8], Lg)) o from ev_b 2 e (fun n => Eq.refl _)
      refine ev_loop (δ := Unit) (fun a j => (d + 2, 0, 0, 74, 38, [.val (.ref 1088), .val (.int p1), .val (.int p2), .val (.int a)], [], (126, 120, L, [Y, T, HA, HB, RA, RB, ST, NS, I0, I1, I2, BO, FI, RG, GU, PU, MA_5, MN, MS, OT, SC], [r0, r1, r2, r3, w, r5, r6, r7, r8], Lg))) (fun b => sumE b (fun b => ∀ s8 : Value, Ev (d + 2, 0, 0, 74, 68, [.val (.ref 1088), .val (.int p1), .val (.int p2), .val s8], [], (126, 120, L, [Y, T, HA, HB, RA, RB, ST, NS, I0, I1, I2, BO, FI, RG, GU, PU, MA_5, MN, MS, OT, SC], [r0, r1, r2, r3, w, r5, r6, r7, r8], Lg)) o) (fun b => ((0, some (.int b.1), (126, 120, L, [Y, T, HA, HB, RA, RB, ST, NS, I0, I1, I2, BO, FI, RG, GU, PU, b.2, MN, MS, OT, SC], [r0, r1, r2, r3, w, r5, r6, r7, r8], Lg)) : AOut) = o)) ?_ a_F 0 zb10 zh11 ?_ ()
      · rintro v6 zr15 zh14 zi12 zx13 ⟨⟩
        have zh14 : f_M_at_l38 MA_5 p1 p2 v6 = some zr15 := zh14
        by_cases zc16 : (MA_5 0 26) ≤ v6
        · have zh14 := itp zh14 zc16
          suffices e : Ev (d + 2, 0, 0, 74, 68, [.val (.ref 1088), .val (.int p1), .val (.int p2), .val (.int v6)], [], (126, 120, L, [Y, T, HA, HB, RA, RB, ST, NS, I0, I1, I2, BO, FI, RG, GU, PU, MA_5, MN, MS, OT, SC], [r0, r1, r2, r3, w, r5, r6, r7, r8], Lg)) o from ev_t (c := (MA_5 0 26) ≤ v6) _ _ 4  zc16 e (fun n => Eq.refl _)
          exact ev_b 0 (zx13 _ (Option.some.inj zh14).symm (.int v6)) (fun n => Eq.refl _)
        · have zh14 := itn zh14 zc16
          suffices e : Ev (d + 2, 0, 0, 74, 46, [.val (.ref 1088), .val (.int p1), .val (.int p2), .val (.int v6)], [], (126, 120, L, [Y, T, HA, HB, RA, RB, ST, NS, I0, I1, I2, BO, FI, RG, GU, PU, MA_5, MN, MS, OT, SC], [r0, r1, r2, r3, w, r5, r6, r7, r8], Lg)) o from ev_f (c := (MA_5 0 26) ≤ v6) _ _ 4  zc16 e (fun n => Eq.refl _)
          obtain ⟨x7, zh17, zh14⟩ := bnd zh14
          have zh17 : rdx (MA_5 7) 10 v6 = some x7 := zh17
          suffices e : Ev (d + 2, 0, 0, 74, 52, [.val (.ref 1088), .val (.int p1), .val (.int p2), .val (.int v6)], [.int x7], (126, 120, L, [Y, T, HA, HB, RA, RB, ST, NS, I0, I1, I2, BO, FI, RG, GU, PU, MA_5, MN, MS, OT, SC], [r0, r1, r2, r3, w, r5, r6, r7, r8], Lg)) o from ev_opt (fun x7 => (d + 2, 0, 0, 74, 52, [.val (.ref 1088), .val (.int p1), .val (.int p2), .val (.int v6)], [.int x7], (126, 120, L, [Y, T, HA, HB, RA, RB, ST, NS, I0, I1, I2, BO, FI, RG, GU, PU, MA_5, MN, MS, OT, SC], [r0, r1, r2, r3, w, r5, r6, r7, r8], Lg))) 4 zh17 e (fun n => Eq.refl _)
          by_cases zc18 : x7 ≠ ((3 * p1) + p2)
          · have zh14 := itp zh14 zc18
            suffices e : Ev (d + 2, 0, 0, 74, 62, [.val (.ref 1088), .val (.int p1), .val (.int p2), .val (.int v6)], [], (126, 120, L, [Y, T, HA, HB, RA, RB, ST, NS, I0, I1, I2, BO, FI, RG, GU, PU, MA_5, MN, MS, OT, SC], [r0, r1, r2, r3, w, r5, r6, r7, r8], Lg)) o from ev_t (c := x7 ≠ ((3 * p1) + p2)) _ _ 6  zc18 e (fun n => Eq.refl _)
            exact ev_b 2 (zi12 _ (Option.some.inj zh14).symm ()) (fun n => Eq.refl _)
          · have zh14 := itn zh14 zc18
            suffices e : Ev (d + 2, 0, 0, 74, 60, [.val (.ref 1088), .val (.int p1), .val (.int p2), .val (.int v6)], [], (126, 120, L, [Y, T, HA, HB, RA, RB, ST, NS, I0, I1, I2, BO, FI, RG, GU, PU, MA_5, MN, MS, OT, SC], [r0, r1, r2, r3, w, r5, r6, r7, r8], Lg)) o from ev_f (c := x7 ≠ ((3 * p1) + p2)) _ _ 6  zc18 e (fun n => Eq.refl _)
            exact ev_rete 2 (zx13 _ (Option.some.inj zh14).symm) (fun n => Eq.refl _)
      · rcases zb10 with ⟨⟩ | zr15
        · intro s8
          have ze19 := Option.some.inj h
          subst ze19
          exact ev_rete 2 ho (fun n => Eq.refl _)
        · have zh20 : some zr15 = some r := h
          exact (congrArg (fun q => ((0, some (.int q.1), (126, 120, L, [Y, T, HA, HB, RA, RB, ST, NS, I0, I1, I2, BO, FI, RG, GU, PU, q.2, MN, MS, OT, SC], [r0, r1, r2, r3, w, r5, r6, r7, r8], Lg)) : AOut)) (Option.some.inj zh20)).trans ho
    · have h := itn h zc9
      suffices e : Ev (d + 2, 0, 0, 74, 34, [.val (.ref 1088), .val (.int p1), .val (.int p2), .val a_unk], [], (126, 120, L, [Y, T, HA, HB, RA, RB, ST, NS, I0, I1, I2, BO, FI, RG, GU, PU, MA_5, MN, MS, OT, SC], [r0, r1, r2, r3, w, r5, r6, r7, r8], Lg)) o from ev_f (c := x4 ≠ 0) _ _ 1  zc9 e (fun n => Eq.refl _)
      have ze22 := Option.some.inj h
      subst ze22
      exact ev_rete 2 ho (fun n => Eq.refl _)
set_option maxRecDepth 1000000 in
set_option maxHeartbeats 4000000 in
theorem R_f_M_where_0 (d : Nat) (Y T HA HB RA RB ST NS I0 I1 I2 BO FI RG GU PU MA MN MS OT SC : Nat → Nat → Int32) (r0 r1 r2 r3 w r5 r6 r7 r8 : Nat) (L : Nat) (Lg : Int64) (p1 : Int32) (p2 : Int32) {r : Int32 × (Nat → Nat → Int32)} (h : f_M_where MA p1 p2 = some r) : Ev (d + 2, 0, 0, 75, 0, [.val (.ref 1088), .val (.int p1), .val (.int p2), .val a_unk], [], (126, 120, L, [Y, T, HA, HB, RA, RB, ST, NS, I0, I1, I2, BO, FI, RG, GU, PU, MA, MN, MS, OT, SC], [r0, r1, r2, r3, w, r5, r6, r7, r8], Lg)) ((0, some (.int r.1), (126, 120, L, [Y, T, HA, HB, RA, RB, ST, NS, I0, I1, I2, BO, FI, RG, GU, PU, r.2, MN, MS, OT, SC], [r0, r1, r2, r3, w, r5, r6, r7, r8], Lg)) : AOut) := by
  suffices key : ∀ o : AOut, ((0, some (.int r.1), (126, 120, L, [Y, T, HA, HB, RA, RB, ST, NS, I0, I1, I2, BO, FI, RG, GU, PU, r.2, MN, MS, OT, SC], [r0, r1, r2, r3, w, r5, r6, r7, r8], Lg)) : AOut) = o → Ev (d + 2, 0, 0, 75, 0, [.val (.ref 1088), .val (.int p1), .val (.int p2), .val a_unk], [], (126, 120, L, [Y, T, HA, HB, RA, RB, ST, NS, I0, I1, I2, BO, FI, RG, GU, PU, MA, MN, MS, OT, SC], [r0, r1, r2, r3, w, r5, r6, r7, r8], Lg)) o from key _ rfl
  intro o ho
  obtain ⟨⟨x1, MA_2⟩, zh1, h⟩ := bnd h
  have zh1 : f_M_isPerson (u2 MA 0 0 0) p1 1 = some (x1, MA_2) := zh1
  have ze2 := R_f_M_isPerson_0 (d + 0) Y T HA HB RA RB ST NS I0 I1 I2 BO FI RG GU PU (u2 MA 0 0 0) MN MS OT SC r0 r1 r2 r3 w r5 r6 r7 r8 L Lg p1 1 zh1
  suffices e : Ev (d + 2, 0, 0, 75, 11, [.val (.ref 1088), .val (.int p1), .val (.int p2), .val a_unk], [.int x1], (126, 120, L, [Y, T, HA, HB, RA, RB, ST, NS, I0, I1, I2, BO, FI, RG, GU, PU, MA_2, MN, MS, OT, SC], [r0, r1, r2, r3, w, r5, r6, r7, r8], Lg)) o from ev_call (fun v μ => (d + 2, 0, 0, 75, 11, [.val (.ref 1088), .val (.int p1), .val (.int p2), .val a_unk], v.toList ++ [], μ)) 7 ze2 e (fun n => Eq.refl _)
  by_cases zc3 : x1 = 0
  · have h := itp h zc3
    suffices e : Ev (d + 2, 0, 0, 75, 34, [.val (.ref 1088), .val (.int p1), .val (.int p2), .val a_unk], [], (126, 120, L, [Y, T, HA, HB, RA, RB, ST, NS, I0, I1, I2, BO, FI, RG, GU, PU, MA_2, MN, MS, OT, SC], [r0, r1, r2, r3, w, r5, r6, r7, r8], Lg)) o from ev_t (c := x1 = 0) _ _ 1  zc3 e (fun n => Eq.refl _)
    have ze4 := Option.some.inj h
    subst ze4
    exact ev_rete 2 ho (fun n => Eq.refl _)
  · have h := itn h zc3
    suffices e : Ev (d + 2, 0, 0, 75, 14, [.val (.ref 1088), .val (.int p1), .val (.int p2), .val a_unk], [], (126, 120, L, [Y, T, HA, HB, RA, RB, ST, NS, I0, I1, I2, BO, FI, RG, GU, PU, MA_2, MN, MS, OT, SC], [r0, r1, r2, r3, w, r5, r6, r7, r8], Lg)) o from ev_f (c := x1 = 0) _ _ 1  zc3 e (fun n => Eq.refl _)
    obtain ⟨x3, zh5, h⟩ := bnd h
    have zh5 : f_M_within p2 0 ((MA_2 0 23) - 1) = some x3 := zh5
    have ze6 := R_f_M_within_0 (d + 1) Y T HA HB RA RB ST NS I0 I1 I2 BO FI RG GU PU MA_2 MN MS OT SC r0 r1 r2 r3 w r5 r6 r7 r8 L Lg p2 0 ((MA_2 0 23) - 1) zh5
    suffices e : Ev (d + 2, 0, 0, 75, 26, [.val (.ref 1088), .val (.int p1), .val (.int p2), .val a_unk], [.int x3, .ref 1088], (126, 120, L, [Y, T, HA, HB, RA, RB, ST, NS, I0, I1, I2, BO, FI, RG, GU, PU, MA_2, MN, MS, OT, SC], [r0, r1, r2, r3, w, r5, r6, r7, r8], Lg)) o from ev_call (fun v μ => (d + 2, 0, 0, 75, 26, [.val (.ref 1088), .val (.int p1), .val (.int p2), .val a_unk], v.toList ++ [.ref 1088], μ)) 8 ze6 e (fun n => Eq.refl _)
    obtain ⟨⟨x4, MA_5⟩, zh7, h⟩ := bnd h
    have zh7 : f_M_may MA_2 x3 2 1 = some (x4, MA_5) := zh7
    have ze8 := R_f_M_may_0 (d + 1) Y T HA HB RA RB ST NS I0 I1 I2 BO FI RG GU PU MA_2 MN MS OT SC r0 r1 r2 r3 w r5 r6 r7 r8 L Lg x3 2 1 zh7
    suffices e : Ev (d + 2, 0, 0, 75, 31, [.val (.ref 1088), .val (.int p1), .val (.int p2), .val a_unk], [.int x4], (126, 120, L, [Y, T, HA, HB, RA, RB, ST, NS, I0, I1, I2, BO, FI, RG, GU, PU, MA_5, MN, MS, OT, SC], [r0, r1, r2, r3, w, r5, r6, r7, r8], Lg)) o from ev_call (fun v μ => (d + 2, 0, 0, 75, 31, [.val (.ref 1088), .val (.int p1), .val (.int p2), .val a_unk], v.toList ++ [], μ)) 3 ze8 e (fun n => Eq.refl _)
    by_cases zc9 : x4 ≠ 0
    · have h := itp h zc9
      suffices e : Ev (d + 2, 0, 0, 75, 36, [.val (.ref 1088), .val (.int p1), .val (.int p2), .val a_unk], [], (126, 120, L, [Y, T, HA, HB, RA, RB, ST, NS, I0, I1, I2, BO, FI, RG, GU, PU, MA_5, MN, MS, OT, SC], [r0, r1, r2, r3, w, r5, r6, r7, r8], Lg)) o from ev_t (c := x4 ≠ 0) _ _ 1  zc9 e (fun n => Eq.refl _)
      obtain ⟨zb10, zh11, h⟩ := bnd h
      suffices e : Ev (d + 2, 0, 0, 75, 38, [.val (.ref 1088), .val (.int p1), .val (.int p2), .val (.int 0)], [], (126, 120, L, [Y, T, HA, HB, RA, RB, ST, NS, I0, I1, I2, BO, FI, RG, GU, PU, MA_5, MN, MS, OT, SC], [r0, r1, r2, r3, w, r5, r6, r7, r8], Lg)) o from ev_b 2 e (fun n => Eq.refl _)
      refine ev_loop (δ := Unit) (fun a j => (d + 2, 0, 0, 75, 38, [.val (.ref 1088), .val (.int p1), .val (.int p2), .val (.int a)], [], (126, 120, L, [Y, T, HA, HB, RA, RB, ST, NS, I0, I1, I2, BO, FI, RG, GU, PU, MA_5, MN, MS, OT, SC], [r0, r1, r2, r3, w, r5, r6, r7, r8], Lg))) (fun b => sumE b (fun b => ∀ s10 : Value, Ev (d + 2, 0, 0, 75, 95, [.val (.ref 1088), .val (.int p1), .val (.int p2), .val s10], [], (126, 120, L, [Y, T, HA, HB, RA, RB, ST, NS, I0, I1, I2, BO, FI, RG, GU, PU, MA_5, MN, MS, OT, SC], [r0, r1, r2, r3, w, r5, r6, r7, r8], Lg)) o) (fun b => ((0, some (.int b.1), (126, 120, L, [Y, T, HA, HB, RA, RB, ST, NS, I0, I1, I2, BO, FI, RG, GU, PU, b.2, MN, MS, OT, SC], [r0, r1, r2, r3, w, r5, r6, r7, r8], Lg)) : AOut) = o)) ?_ a_F 0 zb10 zh11 ?_ ()
      · rintro v6 zr15 zh14 zi12 zx13 ⟨⟩
        have zh14 : f_M_where_l38 MA_5 p2 p1 v6 = some zr15 := zh14
        by_cases zc16 : (MA_5 0 26) ≤ v6
        · have zh14 := itp zh14 zc16
          suffices e : Ev (d + 2, 0, 0, 75, 95, [.val (.ref 1088), .val (.int p1), .val (.int p2), .val (.int v6)], [], (126, 120, L, [Y, T, HA, HB, RA, RB, ST, NS, I0, I1, I2, BO, FI, RG, GU, PU, MA_5, MN, MS, OT, SC], [r0, r1, r2, r3, w, r5, r6, r7, r8], Lg)) o from ev_t (c := (MA_5 0 26) ≤ v6) _ _ 4  zc16 e (fun n => Eq.refl _)
          exact ev_b 0 (zx13 _ (Option.some.inj zh14).symm (.int v6)) (fun n => Eq.refl _)
        · have zh14 := itn zh14 zc16
          suffices e : Ev (d + 2, 0, 0, 75, 46, [.val (.ref 1088), .val (.int p1), .val (.int p2), .val (.int v6)], [], (126, 120, L, [Y, T, HA, HB, RA, RB, ST, NS, I0, I1, I2, BO, FI, RG, GU, PU, MA_5, MN, MS, OT, SC], [r0, r1, r2, r3, w, r5, r6, r7, r8], Lg)) o from ev_f (c := (MA_5 0 26) ≤ v6) _ _ 4  zc16 e (fun n => Eq.refl _)
          obtain ⟨x7, zh17, zh14⟩ := bnd zh14
          have zh17 : rdx (MA_5 7) 10 v6 = some x7 := zh17
          suffices e : Ev (d + 2, 0, 0, 75, 52, [.val (.ref 1088), .val (.int p1), .val (.int p2), .val (.int v6)], [.int x7], (126, 120, L, [Y, T, HA, HB, RA, RB, ST, NS, I0, I1, I2, BO, FI, RG, GU, PU, MA_5, MN, MS, OT, SC], [r0, r1, r2, r3, w, r5, r6, r7, r8], Lg)) o from ev_opt (fun x7 => (d + 2, 0, 0, 75, 52, [.val (.ref 1088), .val (.int p1), .val (.int p2), .val (.int v6)], [.int x7], (126, 120, L, [Y, T, HA, HB, RA, RB, ST, NS, I0, I1, I2, BO, FI, RG, GU, PU, MA_5, MN, MS, OT, SC], [r0, r1, r2, r3, w, r5, r6, r7, r8], Lg))) 4 zh17 e (fun n => Eq.refl _)
          by_cases zc18 : x7 = (-1)
          · have zh14 := itp zh14 zc18
            suffices e : Ev (d + 2, 0, 0, 75, 89, [.val (.ref 1088), .val (.int p1), .val (.int p2), .val (.int v6)], [], (126, 120, L, [Y, T, HA, HB, RA, RB, ST, NS, I0, I1, I2, BO, FI, RG, GU, PU, MA_5, MN, MS, OT, SC], [r0, r1, r2, r3, w, r5, r6, r7, r8], Lg)) o from ev_t (c := x7 = (-1)) _ _ 2  zc18 e (fun n => Eq.refl _)
            exact ev_b 2 (zi12 _ (Option.some.inj zh14).symm ()) (fun n => Eq.refl _)
          · have zh14 := itn zh14 zc18
            suffices e : Ev (d + 2, 0, 0, 75, 56, [.val (.ref 1088), .val (.int p1), .val (.int p2), .val (.int v6)], [], (126, 120, L, [Y, T, HA, HB, RA, RB, ST, NS, I0, I1, I2, BO, FI, RG, GU, PU, MA_5, MN, MS, OT, SC], [r0, r1, r2, r3, w, r5, r6, r7, r8], Lg)) o from ev_f (c := x7 = (-1)) _ _ 2  zc18 e (fun n => Eq.refl _)
            obtain ⟨x8, zh19, zh14⟩ := bnd zh14
            have zh19 : rdx (MA_5 7) 10 v6 = some x8 := zh19
            suffices e : Ev (d + 2, 0, 0, 75, 62, [.val (.ref 1088), .val (.int p1), .val (.int p2), .val (.int v6)], [.int x8], (126, 120, L, [Y, T, HA, HB, RA, RB, ST, NS, I0, I1, I2, BO, FI, RG, GU, PU, MA_5, MN, MS, OT, SC], [r0, r1, r2, r3, w, r5, r6, r7, r8], Lg)) o from ev_opt (fun x8 => (d + 2, 0, 0, 75, 62, [.val (.ref 1088), .val (.int p1), .val (.int p2), .val (.int v6)], [.int x8], (126, 120, L, [Y, T, HA, HB, RA, RB, ST, NS, I0, I1, I2, BO, FI, RG, GU, PU, MA_5, MN, MS, OT, SC], [r0, r1, r2, r3, w, r5, r6, r7, r8], Lg))) 4 zh19 e (fun n => Eq.refl _)
            suffices e : Ev (d + 2, 0, 0, 75, 64, [.val (.ref 1088), .val (.int p1), .val (.int p2), .val (.int v6)], [.int (x8 / 3)], (126, 120, L, [Y, T, HA, HB, RA, RB, ST, NS, I0, I1, I2, BO, FI, RG, GU, PU, MA_5, MN, MS, OT, SC], [r0, r1, r2, r3, w, r5, r6, r7, r8], Lg)) o from ev_b 2 e (fun n => Eq.refl _)
            by_cases zc20 : (x8 / 3) ≠ p2
            · have zh14 := itp zh14 zc20
              suffices e : Ev (d + 2, 0, 0, 75, 89, [.val (.ref 1088), .val (.int p1), .val (.int p2), .val (.int v6)], [], (126, 120, L, [Y, T, HA, HB, RA, RB, ST, NS, I0, I1, I2, BO, FI, RG, GU, PU, MA_5, MN, MS, OT, SC], [r0, r1, r2, r3, w, r5, r6, r7, r8], Lg)) o from ev_t (c := (x8 / 3) ≠ p2) _ _ 2  zc20 e (fun n => Eq.refl _)
              exact ev_b 2 (zi12 _ (Option.some.inj zh14).symm ()) (fun n => Eq.refl _)
            · have zh14 := itn zh14 zc20
              suffices e : Ev (d + 2, 0, 0, 75, 68, [.val (.ref 1088), .val (.int p1), .val (.int p2), .val (.int v6)], [], (126, 120, L, [Y, T, HA, HB, RA, RB, ST, NS, I0, I1, I2, BO, FI, RG, GU, PU, MA_5, MN, MS, OT, SC], [r0, r1, r2, r3, w, r5, r6, r7, r8], Lg)) o from ev_f (c := (x8 / 3) ≠ p2) _ _ 2  zc20 e (fun n => Eq.refl _)
              obtain ⟨x9, zh21, zh14⟩ := bnd zh14
              have zh21 : rdx (MA_5 5) 60 ((6 * v6) + 2) = some x9 := zh21
              suffices e : Ev (d + 2, 0, 0, 75, 79, [.val (.ref 1088), .val (.int p1), .val (.int p2), .val (.int v6)], [.int x9], (126, 120, L, [Y, T, HA, HB, RA, RB, ST, NS, I0, I1, I2, BO, FI, RG, GU, PU, MA_5, MN, MS, OT, SC], [r0, r1, r2, r3, w, r5, r6, r7, r8], Lg)) o from ev_opt (fun x9 => (d + 2, 0, 0, 75, 79, [.val (.ref 1088), .val (.int p1), .val (.int p2), .val (.int v6)], [.int x9], (126, 120, L, [Y, T, HA, HB, RA, RB, ST, NS, I0, I1, I2, BO, FI, RG, GU, PU, MA_5, MN, MS, OT, SC], [r0, r1, r2, r3, w, r5, r6, r7, r8], Lg))) 8 zh21 e (fun n => Eq.refl _)
              by_cases zc22 : ((a_shr x9 p1) &&& 1) ≠ 1
              · have zh14 := itp zh14 zc22
                suffices e : Ev (d + 2, 0, 0, 75, 89, [.val (.ref 1088), .val (.int p1), .val (.int p2), .val (.int v6)], [], (126, 120, L, [Y, T, HA, HB, RA, RB, ST, NS, I0, I1, I2, BO, FI, RG, GU, PU, MA_5, MN, MS, OT, SC], [r0, r1, r2, r3, w, r5, r6, r7, r8], Lg)) o from ev_t (c := ((a_shr x9 p1) &&& 1) ≠ 1) _ _ 6  zc22 e (fun n => Eq.refl _)
                exact ev_b 2 (zi12 _ (Option.some.inj zh14).symm ()) (fun n => Eq.refl _)
              · have zh14 := itn zh14 zc22
                suffices e : Ev (d + 2, 0, 0, 75, 87, [.val (.ref 1088), .val (.int p1), .val (.int p2), .val (.int v6)], [], (126, 120, L, [Y, T, HA, HB, RA, RB, ST, NS, I0, I1, I2, BO, FI, RG, GU, PU, MA_5, MN, MS, OT, SC], [r0, r1, r2, r3, w, r5, r6, r7, r8], Lg)) o from ev_f (c := ((a_shr x9 p1) &&& 1) ≠ 1) _ _ 6  zc22 e (fun n => Eq.refl _)
                exact ev_rete 2 (zx13 _ (Option.some.inj zh14).symm) (fun n => Eq.refl _)
      · rcases zb10 with ⟨⟩ | zr15
        · intro s10
          have ze23 := Option.some.inj h
          subst ze23
          exact ev_rete 2 ho (fun n => Eq.refl _)
        · have zh24 : some zr15 = some r := h
          exact (congrArg (fun q => ((0, some (.int q.1), (126, 120, L, [Y, T, HA, HB, RA, RB, ST, NS, I0, I1, I2, BO, FI, RG, GU, PU, q.2, MN, MS, OT, SC], [r0, r1, r2, r3, w, r5, r6, r7, r8], Lg)) : AOut)) (Option.some.inj zh24)).trans ho
    · have h := itn h zc9
      suffices e : Ev (d + 2, 0, 0, 75, 34, [.val (.ref 1088), .val (.int p1), .val (.int p2), .val a_unk], [], (126, 120, L, [Y, T, HA, HB, RA, RB, ST, NS, I0, I1, I2, BO, FI, RG, GU, PU, MA_5, MN, MS, OT, SC], [r0, r1, r2, r3, w, r5, r6, r7, r8], Lg)) o from ev_f (c := x4 ≠ 0) _ _ 1  zc9 e (fun n => Eq.refl _)
      have ze26 := Option.some.inj h
      subst ze26
      exact ev_rete 2 ho (fun n => Eq.refl _)
