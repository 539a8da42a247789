/-! printed by program (gen/emitm.py): the reference's methods run as their functions say -/
set_option maxRecDepth 1000000 in
set_option maxHeartbeats 4000000 in
theorem R_f_M_costsOf_0 (d : Nat) (Y T HA HB RA RB ST NS I0 I1 I2 BO FI RG GU PU MA MN MS OT SC : Nat → Nat → Int32) (r0 r1 r2 r3 w r5 r6 r7 r8 : Nat) (L : Nat) (Lg : Int64) (p1 : Int32) {r : Int32} (h : f_M_costsOf MA p1 = some r) : Ev (d + 1, 0, 0, 93, 0, [.val (.ref 1088), .val (.int p1), .val a_unk, .val a_unk], [], (126, 120, L, [Y, T, HA, HB, RA, RB, ST, NS, I0, I1, I2, BO, FI, RG, GU, PU, MA, MN, MS, OT, SC], [r0, r1, r2, r3, w, r5, r6, r7, r8], Lg)) ((0, some (.int r), (126, 120, L, [Y, T, HA, HB, RA, RB, ST, NS, I0, I1, I2, BO, FI, RG, GU, PU, MA, MN, MS, OT, SC], [r0, r1, r2, r3, w, r5, r6, r7, r8], Lg)) : AOut) := by
  suffices key : ∀ o : AOut, ((0, some (.int r), (126, 120, L, [Y, T, HA, HB, RA, RB, ST, NS, I0, I1, I2, BO, FI, RG, GU, PU, MA, MN, MS, OT, SC], [r0, r1, r2, r3, w, r5, r6, r7, r8], Lg)) : AOut) = o → Ev (d + 1, 0, 0, 93, 0, [.val (.ref 1088), .val (.int p1), .val a_unk, .val a_unk], [], (126, 120, L, [Y, T, HA, HB, RA, RB, ST, NS, I0, I1, I2, BO, FI, RG, GU, PU, MA, MN, MS, OT, SC], [r0, r1, r2, r3, w, r5, r6, r7, r8], Lg)) o from key _ rfl
  intro o ho
  obtain ⟨v4, zh2, h⟩ := bnd h
  suffices e : Ev (d + 1, 0, 0, 93, 4, [.val (.ref 1088), .val (.int p1), .val (.int 0), .val (.int 0)], [], (126, 120, L, [Y, T, HA, HB, RA, RB, ST, NS, I0, I1, I2, BO, FI, RG, GU, PU, MA, MN, MS, OT, SC], [r0, r1, r2, r3, w, r5, r6, r7, r8], Lg)) o from ev_b 4 e (fun n => Eq.refl _)
  refine ev_loop (δ := Unit) (fun a j => (d + 1, 0, 0, 93, 4, [.val (.ref 1088), .val (.int p1), .val (.int a.1), .val (.int a.2)], [], (126, 120, L, [Y, T, HA, HB, RA, RB, ST, NS, I0, I1, I2, BO, FI, RG, GU, PU, MA, MN, MS, OT, SC], [r0, r1, r2, r3, w, r5, r6, r7, r8], Lg))) (fun b => ∀ s5 : Value, Ev (d + 1, 0, 0, 93, 39, [.val (.ref 1088), .val (.int p1), .val (.int b), .val s5], [], (126, 120, L, [Y, T, HA, HB, RA, RB, ST, NS, I0, I1, I2, BO, FI, RG, GU, PU, MA, MN, MS, OT, SC], [r0, r1, r2, r3, w, r5, r6, r7, r8], Lg)) o) ?_ a_F (0, 0) v4 zh2 ?_ ()
  · rintro ⟨v1, v2⟩ zr6 zh5 zi3 zx4 ⟨⟩
    have zh5 : f_M_costsOf_l4 MA p1 v1 v2 = some zr6 := zh5
    by_cases zc7 : (MA 0 26) ≤ v2
    · have zh5 := itp zh5 zc7
      suffices e : Ev (d + 1, 0, 0, 93, 39, [.val (.ref 1088), .val (.int p1), .val (.int v1), .val (.int v2)], [], (126, 120, L, [Y, T, HA, HB, RA, RB, ST, NS, I0, I1, I2, BO, FI, RG, GU, PU, MA, MN, MS, OT, SC], [r0, r1, r2, r3, w, r5, r6, r7, r8], Lg)) o from ev_t (c := (MA 0 26) ≤ v2) _ _ 4 zc7 e (fun n => Eq.refl _)
      exact ev_b 0 (zx4 _ (Option.some.inj zh5).symm (.int v2)) (fun n => Eq.refl _)
    · have zh5 := itn zh5 zc7
      suffices e : Ev (d + 1, 0, 0, 93, 12, [.val (.ref 1088), .val (.int p1), .val (.int v1), .val (.int v2)], [], (126, 120, L, [Y, T, HA, HB, RA, RB, ST, NS, I0, I1, I2, BO, FI, RG, GU, PU, MA, MN, MS, OT, SC], [r0, r1, r2, r3, w, r5, r6, r7, r8], Lg)) o from ev_f (c := (MA 0 26) ≤ v2) _ _ 4 zc7 e (fun n => Eq.refl _)
      by_cases zc8 : ((a_shr p1 v2) &&& 1) ≠ 1
      · have zh5 := itp zh5 zc8
        suffices e : Ev (d + 1, 0, 0, 93, 30, [.val (.ref 1088), .val (.int p1), .val (.int v1), .val (.int v2)], [.int v1], (126, 120, L, [Y, T, HA, HB, RA, RB, ST, NS, I0, I1, I2, BO, FI, RG, GU, PU, MA, MN, MS, OT, SC], [r0, r1, r2, r3, w, r5, r6, r7, r8], Lg)) o from ev_t (c := ((a_shr p1 v2) &&& 1) ≠ 1) _ _ 8 zc8 e (fun n => Eq.refl _)
        exact ev_b 5 (zi3 _ (Option.some.inj zh5).symm ()) (fun n => Eq.refl _)
      · have zh5 := itn zh5 zc8
        suffices e : Ev (d + 1, 0, 0, 93, 22, [.val (.ref 1088), .val (.int p1), .val (.int v1), .val (.int v2)], [.int v1], (126, 120, L, [Y, T, HA, HB, RA, RB, ST, NS, I0, I1, I2, BO, FI, RG, GU, PU, MA, MN, MS, OT, SC], [r0, r1, r2, r3, w, r5, r6, r7, r8], Lg)) o from ev_f (c := ((a_shr p1 v2) &&& 1) ≠ 1) _ _ 8 zc8 e (fun n => Eq.refl _)
        obtain ⟨x3, zh9, zh5⟩ := bnd zh5
        have zh9 : f_M_costOf MA v2 = some x3 := zh9
        have ze10 := R_f_M_costOf_0 (d + 0) Y T HA HB RA RB ST NS I0 I1 I2 BO FI RG GU PU MA MN MS OT SC r0 r1 r2 r3 w r5 r6 r7 r8 L Lg v2 zh9
        suffices e : Ev (d + 1, 0, 0, 93, 27, [.val (.ref 1088), .val (.int p1), .val (.int v1), .val (.int v2)], [.int x3, .int v1], (126, 120, L, [Y, T, HA, HB, RA, RB, ST, NS, I0, I1, I2, BO, FI, RG, GU, PU, MA, MN, MS, OT, SC], [r0, r1, r2, r3, w, r5, r6, r7, r8], Lg)) o from ev_call (fun v μ => (d + 1, 0, 0, 93, 27, [.val (.ref 1088), .val (.int p1), .val (.int v1), .val (.int v2)], v.toList ++ [.int v1], μ)) 3 ze10 e (fun n => Eq.refl _)
        exact ev_b 5 (zi3 _ (Option.some.inj zh5).symm ()) (fun n => Eq.refl _)
  · skip
    intro s5
    have ze11 := Option.some.inj h
    subst ze11
    exact ev_rete 2 ho (fun n => Eq.refl _)
set_option maxRecDepth 1000000 in
set_option maxHeartbeats 4000000 in
theorem R_f_M_canMove_0 (d : Nat) (Y T HA HB RA RB ST NS I0 I1 I2 BO FI RG GU PU MA MN MS OT SC : Nat → Nat → Int32) (r0 r1 r2 r3 w r5 r6 r7 r8 : Nat) (L : Nat) (Lg : Int64) (p1 : Int32) {r : Int32} (h : f_M_canMove MA p1 = some r) : Ev (d + 1, 0, 0, 94, 0, [.val (.ref 1088), .val (.int p1), .val a_unk], [], (126, 120, L, [Y, T, HA, HB, RA, RB, ST, NS, I0, I1, I2, BO, FI, RG, GU, PU, MA, MN, MS, OT, SC], [r0, r1, r2, r3, w, r5, r6, r7, r8], Lg)) ((0, some (.int r), (126, 120, L, [Y, T, HA, HB, RA, RB, ST, NS, I0, I1, I2, BO, FI, RG, GU, PU, MA, MN, MS, OT, SC], [r0, r1, r2, r3, w, r5, r6, r7, r8], Lg)) : AOut) := by
  suffices key : ∀ o : AOut, ((0, some (.int r), (126, 120, L, [Y, T, HA, HB, RA, RB, ST, NS, I0, I1, I2, BO, FI, RG, GU, PU, MA, MN, MS, OT, SC], [r0, r1, r2, r3, w, r5, r6, r7, r8], Lg)) : AOut) = o → Ev (d + 1, 0, 0, 94, 0, [.val (.ref 1088), .val (.int p1), .val a_unk], [], (126, 120, L, [Y, T, HA, HB, RA, RB, ST, NS, I0, I1, I2, BO, FI, RG, GU, PU, MA, MN, MS, OT, SC], [r0, r1, r2, r3, w, r5, r6, r7, r8], Lg)) o from key _ rfl
  intro o ho
  obtain ⟨zb1, zh2, h⟩ := bnd h
  suffices e : Ev (d + 1, 0, 0, 94, 2, [.val (.ref 1088), .val (.int p1), .val (.int 0)], [], (126, 120, L, [Y, T, HA, HB, RA, RB, ST, NS, I0, I1, I2, BO, FI, RG, GU, PU, MA, MN, MS, OT, SC], [r0, r1, r2, r3, w, r5, r6, r7, r8], Lg)) o from ev_b 2 e (fun n => Eq.refl _)
  refine ev_loop (δ := Unit) (fun a j => (d + 1, 0, 0, 94, 2, [.val (.ref 1088), .val (.int p1), .val (.int a)], [], (126, 120, L, [Y, T, HA, HB, RA, RB, ST, NS, I0, I1, I2, BO, FI, RG, GU, PU, MA, MN, MS, OT, SC], [r0, r1, r2, r3, w, r5, r6, r7, r8], Lg))) (fun b => sumE b (fun b => ∀ s4 : Value, Ev (d + 1, 0, 0, 94, 45, [.val (.ref 1088), .val (.int p1), .val s4], [], (126, 120, L, [Y, T, HA, HB, RA, RB, ST, NS, I0, I1, I2, BO, FI, RG, GU, PU, MA, MN, MS, OT, SC], [r0, r1, r2, r3, w, r5, r6, r7, r8], Lg)) o) (fun b => ((0, some (.int b), (126, 120, L, [Y, T, HA, HB, RA, RB, ST, NS, I0, I1, I2, BO, FI, RG, GU, PU, MA, MN, MS, OT, SC], [r0, r1, r2, r3, w, r5, r6, r7, r8], Lg)) : AOut) = o)) ?_ a_F 0 zb1 zh2 ?_ ()
  · rintro v1 zr6 zh5 zi3 zx4 ⟨⟩
    have zh5 : f_M_canMove_l2 MA p1 v1 = some zr6 := zh5
    by_cases zc7 : (MA 0 26) ≤ v1
    · have zh5 := itp zh5 zc7
      suffices e : Ev (d + 1, 0, 0, 94, 45, [.val (.ref 1088), .val (.int p1), .val (.int v1)], [], (126, 120, L, [Y, T, HA, HB, RA, RB, ST, NS, I0, I1, I2, BO, FI, RG, GU, PU, MA, MN, MS, OT, SC], [r0, r1, r2, r3, w, r5, r6, r7, r8], Lg)) o from ev_t (c := (MA 0 26) ≤ v1) _ _ 4 zc7 e (fun n => Eq.refl _)
      exact ev_b 0 (zx4 _ (Option.some.inj zh5).symm (.int v1)) (fun n => Eq.refl _)
    · have zh5 := itn zh5 zc7
      suffices e : Ev (d + 1, 0, 0, 94, 10, [.val (.ref 1088), .val (.int p1), .val (.int v1)], [], (126, 120, L, [Y, T, HA, HB, RA, RB, ST, NS, I0, I1, I2, BO, FI, RG, GU, PU, MA, MN, MS, OT, SC], [r0, r1, r2, r3, w, r5, r6, r7, r8], Lg)) o from ev_f (c := (MA 0 26) ≤ v1) _ _ 4 zc7 e (fun n => Eq.refl _)
      by_cases zc8 : ((a_shr p1 v1) &&& 1) ≠ 1
      · have zh5 := itp zh5 zc8
        suffices e : Ev (d + 1, 0, 0, 94, 39, [.val (.ref 1088), .val (.int p1), .val (.int v1)], [], (126, 120, L, [Y, T, HA, HB, RA, RB, ST, NS, I0, I1, I2, BO, FI, RG, GU, PU, MA, MN, MS, OT, SC], [r0, r1, r2, r3, w, r5, r6, r7, r8], Lg)) o from ev_t (c := ((a_shr p1 v1) &&& 1) ≠ 1) _ _ 7 zc8 e (fun n => Eq.refl _)
        exact ev_b 2 (zi3 _ (Option.some.inj zh5).symm ()) (fun n => Eq.refl _)
      · have zh5 := itn zh5 zc8
        suffices e : Ev (d + 1, 0, 0, 94, 19, [.val (.ref 1088), .val (.int p1), .val (.int v1)], [], (126, 120, L, [Y, T, HA, HB, RA, RB, ST, NS, I0, I1, I2, BO, FI, RG, GU, PU, MA, MN, MS, OT, SC], [r0, r1, r2, r3, w, r5, r6, r7, r8], Lg)) o from ev_f (c := ((a_shr p1 v1) &&& 1) ≠ 1) _ _ 7 zc8 e (fun n => Eq.refl _)
        obtain ⟨x2, zh9, zh5⟩ := bnd zh5
        have zh9 : rdx (MA 7) 10 v1 = some x2 := zh9
        suffices e : Ev (d + 1, 0, 0, 94, 25, [.val (.ref 1088), .val (.int p1), .val (.int v1)], [.int x2], (126, 120, L, [Y, T, HA, HB, RA, RB, ST, NS, I0, I1, I2, BO, FI, RG, GU, PU, MA, MN, MS, OT, SC], [r0, r1, r2, r3, w, r5, r6, r7, r8], Lg)) o from ev_opt (fun x2 => (d + 1, 0, 0, 94, 25, [.val (.ref 1088), .val (.int p1), .val (.int v1)], [.int x2], (126, 120, L, [Y, T, HA, HB, RA, RB, ST, NS, I0, I1, I2, BO, FI, RG, GU, PU, MA, MN, MS, OT, SC], [r0, r1, r2, r3, w, r5, r6, r7, r8], Lg))) 4 zh9 e (fun n => Eq.refl _)
        by_cases zc10 : x2 = (-1)
        · have zh5 := itp zh5 zc10
          suffices e : Ev (d + 1, 0, 0, 94, 37, [.val (.ref 1088), .val (.int p1), .val (.int v1)], [], (126, 120, L, [Y, T, HA, HB, RA, RB, ST, NS, I0, I1, I2, BO, FI, RG, GU, PU, MA, MN, MS, OT, SC], [r0, r1, r2, r3, w, r5, r6, r7, r8], Lg)) o from ev_t (c := x2 = (-1)) _ _ 2 zc10 e (fun n => Eq.refl _)
          exact ev_rete 2 (zx4 _ (Option.some.inj zh5).symm) (fun n => Eq.refl _)
        · have zh5 := itn zh5 zc10
          suffices e : Ev (d + 1, 0, 0, 94, 29, [.val (.ref 1088), .val (.int p1), .val (.int v1)], [], (126, 120, L, [Y, T, HA, HB, RA, RB, ST, NS, I0, I1, I2, BO, FI, RG, GU, PU, MA, MN, MS, OT, SC], [r0, r1, r2, r3, w, r5, r6, r7, r8], Lg)) o from ev_f (c := x2 = (-1)) _ _ 2 zc10 e (fun n => Eq.refl _)
          obtain ⟨x3, zh11, zh5⟩ := bnd zh5
          have zh11 : f_M_isFixed MA v1 = some x3 := zh11
          have ze12 := R_f_M_isFixed_0 (d + 0) Y T HA HB RA RB ST NS I0 I1 I2 BO FI RG GU PU MA MN MS OT SC r0 r1 r2 r3 w r5 r6 r7 r8 L Lg v1 zh11
          suffices e : Ev (d + 1, 0, 0, 94, 34, [.val (.ref 1088), .val (.int p1), .val (.int v1)], [.int x3], (126, 120, L, [Y, T, HA, HB, RA, RB, ST, NS, I0, I1, I2, BO, FI, RG, GU, PU, MA, MN, MS, OT, SC], [r0, r1, r2, r3, w, r5, r6, r7, r8], Lg)) o from ev_call (fun v μ => (d + 1, 0, 0, 94, 34, [.val (.ref 1088), .val (.int p1), .val (.int v1)], v.toList ++ [], μ)) 3 ze12 e (fun n => Eq.refl _)
          by_cases zc13 : x3 = 0
          · have zh5 := itp zh5 zc13
            suffices e : Ev (d + 1, 0, 0, 94, 39, [.val (.ref 1088), .val (.int p1), .val (.int v1)], [], (126, 120, L, [Y, T, HA, HB, RA, RB, ST, NS, I0, I1, I2, BO, FI, RG, GU, PU, MA, MN, MS, OT, SC], [r0, r1, r2, r3, w, r5, r6, r7, r8], Lg)) o from ev_t (c := x3 = 0) _ _ 1 zc13 e (fun n => Eq.refl _)
            exact ev_b 2 (zi3 _ (Option.some.inj zh5).symm ()) (fun n => Eq.refl _)
          · have zh5 := itn zh5 zc13
            suffices e : Ev (d + 1, 0, 0, 94, 37, [.val (.ref 1088), .val (.int p1), .val (.int v1)], [], (126, 120, L, [Y, T, HA, HB, RA, RB, ST, NS, I0, I1, I2, BO, FI, RG, GU, PU, MA, MN, MS, OT, SC], [r0, r1, r2, r3, w, r5, r6, r7, r8], Lg)) o from ev_f (c := x3 = 0) _ _ 1 zc13 e (fun n => Eq.refl _)
            exact ev_rete 2 (zx4 _ (Option.some.inj zh5).symm) (fun n => Eq.refl _)
  · rcases zb1 with ⟨⟩ | zr6
    · intro s4
      have ze14 := Option.some.inj h
      subst ze14
      exact ev_rete 2 ho (fun n => Eq.refl _)
    · have zh15 : some zr6 = some r := h
      exact (congrArg (fun q => ((0, some (.int q), (126, 120, L, [Y, T, HA, HB, RA, RB, ST, NS, I0, I1, I2, BO, FI, RG, GU, PU, MA, MN, MS, OT, SC], [r0, r1, r2, r3, w, r5, r6, r7, r8], Lg)) : AOut)) (Option.some.inj zh15)).trans ho
set_option maxRecDepth 1000000 in
set_option maxHeartbeats 4000000 in
theorem R_f_M_isAsked_0 (d : Nat) (Y T HA HB RA RB ST NS I0 I1 I2 BO FI RG GU PU MA MN MS OT SC : Nat → Nat → Int32) (r0 r1 r2 r3 w r5 r6 r7 r8 : Nat) (L : Nat) (Lg : Int64) (p1 : Int32) (p2 : Int32) (p3 : Int32) {r : Int32 × (Nat → Nat → Int32)} (h : f_M_isAsked MA p1 p2 p3 = some r) : Ev (d + 2, 0, 0, 96, 0, [.val (.ref 1088), .val (.int p1), .val (.int p2), .val (.int p3)], [], (126, 120, L, [Y, T, HA, HB, RA, RB, ST, NS, I0, I1, I2, BO, FI, RG, GU, PU, MA, MN, MS, OT, SC], [r0, r1, r2, r3, w, r5, r6, r7, r8], Lg)) ((0, some (.int r.1), (126, 120, L, [Y, T, HA, HB, RA, RB, ST, NS, I0, I1, I2, BO, FI, RG, GU, PU, r.2, MN, MS, OT, SC], [r0, r1, r2, r3, w, r5, r6, r7, r8], Lg)) : AOut) := by
  suffices key : ∀ o : AOut, ((0, some (.int r.1), (126, 120, L, [Y, T, HA, HB, RA, RB, ST, NS, I0, I1, I2, BO, FI, RG, GU, PU, r.2, MN, MS, OT, SC], [r0, r1, r2, r3, w, r5, r6, r7, r8], Lg)) : AOut) = o → Ev (d + 2, 0, 0, 96, 0, [.val (.ref 1088), .val (.int p1), .val (.int p2), .val (.int p3)], [], (126, 120, L, [Y, T, HA, HB, RA, RB, ST, NS, I0, I1, I2, BO, FI, RG, GU, PU, MA, MN, MS, OT, SC], [r0, r1, r2, r3, w, r5, r6, r7, r8], Lg)) o from key _ rfl
  intro o ho
  obtain ⟨⟨x1, MA_2⟩, zh1, h⟩ := bnd h
  have zh1 : f_M_isMeeting MA p1 1 = some (x1, MA_2) := zh1
  have ze2 := R_f_M_isMeeting_0 (d + 0) Y T HA HB RA RB ST NS I0 I1 I2 BO FI RG GU PU MA MN MS OT SC r0 r1 r2 r3 w r5 r6 r7 r8 L Lg p1 1 zh1
  suffices e : Ev (d + 2, 0, 0, 96, 6, [.val (.ref 1088), .val (.int p1), .val (.int p2), .val (.int p3)], [.int x1], (126, 120, L, [Y, T, HA, HB, RA, RB, ST, NS, I0, I1, I2, BO, FI, RG, GU, PU, MA_2, MN, MS, OT, SC], [r0, r1, r2, r3, w, r5, r6, r7, r8], Lg)) o from ev_call (fun v μ => (d + 2, 0, 0, 96, 6, [.val (.ref 1088), .val (.int p1), .val (.int p2), .val (.int p3)], v.toList ++ [], μ)) 4 ze2 e (fun n => Eq.refl _)
  by_cases zc3 : x1 = 0
  · have h := itp h zc3
    suffices e : Ev (d + 2, 0, 0, 96, 45, [.val (.ref 1088), .val (.int p1), .val (.int p2), .val (.int p3)], [], (126, 120, L, [Y, T, HA, HB, RA, RB, ST, NS, I0, I1, I2, BO, FI, RG, GU, PU, MA_2, MN, MS, OT, SC], [r0, r1, r2, r3, w, r5, r6, r7, r8], Lg)) o from ev_t (c := x1 = 0) _ _ 1 zc3 e (fun n => Eq.refl _)
    have ze4 := Option.some.inj h
    subst ze4
    exact ev_rete 2 ho (fun n => Eq.refl _)
  · have h := itn h zc3
    suffices e : Ev (d + 2, 0, 0, 96, 9, [.val (.ref 1088), .val (.int p1), .val (.int p2), .val (.int p3)], [], (126, 120, L, [Y, T, HA, HB, RA, RB, ST, NS, I0, I1, I2, BO, FI, RG, GU, PU, MA_2, MN, MS, OT, SC], [r0, r1, r2, r3, w, r5, r6, r7, r8], Lg)) o from ev_f (c := x1 = 0) _ _ 1 zc3 e (fun n => Eq.refl _)
    obtain ⟨x3, zh5, h⟩ := bnd h
    have zh5 : f_M_within p2 0 ((MA_2 0 23) - 1) = some x3 := zh5
    have ze6 := R_f_M_within_0 (d + 1) Y T HA HB RA RB ST NS I0 I1 I2 BO FI RG GU PU MA_2 MN MS OT SC r0 r1 r2 r3 w r5 r6 r7 r8 L Lg p2 0 ((MA_2 0 23) - 1) zh5
    suffices e : Ev (d + 2, 0, 0, 96, 21, [.val (.ref 1088), .val (.int p1), .val (.int p2), .val (.int p3)], [.int x3, .ref 1088], (126, 120, L, [Y, T, HA, HB, RA, RB, ST, NS, I0, I1, I2, BO, FI, RG, GU, PU, MA_2, MN, MS, OT, SC], [r0, r1, r2, r3, w, r5, r6, r7, r8], Lg)) o from ev_call (fun v μ => (d + 2, 0, 0, 96, 21, [.val (.ref 1088), .val (.int p1), .val (.int p2), .val (.int p3)], v.toList ++ [.ref 1088], μ)) 8 ze6 e (fun n => Eq.refl _)
    obtain ⟨zt7, zh8, h⟩ := bnd h
    have zj9 : ∀ (v4 : Int32), v4 = zt7 → Ev (d + 2, 0, 0, 96, 33, [.val (.ref 1088), .val (.int p1), .val (.int p2), .val (.int p3)], [.int v4, .ref 1088], (126, 120, L, [Y, T, HA, HB, RA, RB, ST, NS, I0, I1, I2, BO, FI, RG, GU, PU, MA_2, MN, MS, OT, SC], [r0, r1, r2, r3, w, r5, r6, r7, r8], Lg)) o := by
      intro v4 ze10
      subst ze10
      obtain ⟨⟨x5, MA_6⟩, zh11, h⟩ := bnd h
      have zh11 : f_M_may MA_2 v4 2 1 = some (x5, MA_6) := zh11
      have ze12 := R_f_M_may_0 (d + 1) Y T HA HB RA RB ST NS I0 I1 I2 BO FI RG GU PU MA_2 MN MS OT SC r0 r1 r2 r3 w r5 r6 r7 r8 L Lg v4 2 1 zh11
      suffices e : Ev (d + 2, 0, 0, 96, 38, [.val (.ref 1088), .val (.int p1), .val (.int p2), .val (.int p3)], [.int x5], (126, 120, L, [Y, T, HA, HB, RA, RB, ST, NS, I0, I1, I2, BO, FI, RG, GU, PU, MA_6, MN, MS, OT, SC], [r0, r1, r2, r3, w, r5, r6, r7, r8], Lg)) o from ev_call (fun v μ => (d + 2, 0, 0, 96, 38, [.val (.ref 1088), .val (.int p1), .val (.int p2), .val (.int p3)], v.toList ++ [], μ)) 3 ze12 e (fun n => Eq.refl _)
      by_cases zc13 : x5 = 0
      · have h := itp h zc13
        suffices e : Ev (d + 2, 0, 0, 96, 45, [.val (.ref 1088), .val (.int p1), .val (.int p2), .val (.int p3)], [], (126, 120, L, [Y, T, HA, HB, RA, RB, ST, NS, I0, I1, I2, BO, FI, RG, GU, PU, MA_6, MN, MS, OT, SC], [r0, r1, r2, r3, w, r5, r6, r7, r8], Lg)) o from ev_t (c := x5 = 0) _ _ 1 zc13 e (fun n => Eq.refl _)
        have ze14 := Option.some.inj h
        subst ze14
        exact ev_rete 2 ho (fun n => Eq.refl _)
      · have h := itn h zc13
        suffices e : Ev (d + 2, 0, 0, 96, 41, [.val (.ref 1088), .val (.int p1), .val (.int p2), .val (.int p3)], [], (126, 120, L, [Y, T, HA, HB, RA, RB, ST, NS, I0, I1, I2, BO, FI, RG, GU, PU, MA_6, MN, MS, OT, SC], [r0, r1, r2, r3, w, r5, r6, r7, r8], Lg)) o from ev_f (c := x5 = 0) _ _ 1 zc13 e (fun n => Eq.refl _)
        have ze15 := Option.some.inj h
        subst ze15
        exact ev_rete 3 ho (fun n => Eq.refl _)
    obtain ⟨zt16, zh17, zh8⟩ := bnd zh8
    have zj18 : zt16 = .inl () → Ev (d + 2, 0, 0, 96, 32, [.val (.ref 1088), .val (.int p1), .val (.int p2), .val (.int p3)], [.ref 1088], (126, 120, L, [Y, T, HA, HB, RA, RB, ST, NS, I0, I1, I2, BO, FI, RG, GU, PU, MA_2, MN, MS, OT, SC], [r0, r1, r2, r3, w, r5, r6, r7, r8], Lg)) o := by
      intro ze19
      have zh8 := sum_l zh8 ze19
      exact ev_b 1 (zj9 0 (Option.some.inj zh8) ) (fun n => Eq.refl _)
    by_cases zc20 : x3 = 0
    · have zh17 := itp zh17 zc20
      suffices e : Ev (d + 2, 0, 0, 96, 32, [.val (.ref 1088), .val (.int p1), .val (.int p2), .val (.int p3)], [.ref 1088], (126, 120, L, [Y, T, HA, HB, RA, RB, ST, NS, I0, I1, I2, BO, FI, RG, GU, PU, MA_2, MN, MS, OT, SC], [r0, r1, r2, r3, w, r5, r6, r7, r8], Lg)) o from ev_t (c := x3 = 0) _ _ 1 zc20 e (fun n => Eq.refl _)
      exact ev_b 0 (zj18  (Option.some.inj zh17).symm ) (fun n => Eq.refl _)
    · have zh17 := itn zh17 zc20
      suffices e : Ev (d + 2, 0, 0, 96, 24, [.val (.ref 1088), .val (.int p1), .val (.int p2), .val (.int p3)], [.ref 1088], (126, 120, L, [Y, T, HA, HB, RA, RB, ST, NS, I0, I1, I2, BO, FI, RG, GU, PU, MA_2, MN, MS, OT, SC], [r0, r1, r2, r3, w, r5, r6, r7, r8], Lg)) o from ev_f (c := x3 = 0) _ _ 1 zc20 e (fun n => Eq.refl _)
      by_cases zc21 : p3 = 0
      · have zh17 := itp zh17 zc21
        suffices e : Ev (d + 2, 0, 0, 96, 32, [.val (.ref 1088), .val (.int p1), .val (.int p2), .val (.int p3)], [.ref 1088], (126, 120, L, [Y, T, HA, HB, RA, RB, ST, NS, I0, I1, I2, BO, FI, RG, GU, PU, MA_2, MN, MS, OT, SC], [r0, r1, r2, r3, w, r5, r6, r7, r8], Lg)) o from ev_t (c := p3 = 0) _ _ 2 zc21 e (fun n => Eq.refl _)
        exact ev_b 0 (zj18  (Option.some.inj zh17).symm ) (fun n => Eq.refl _)
      · have zh17 := itn zh17 zc21
        suffices e : Ev (d + 2, 0, 0, 96, 28, [.val (.ref 1088), .val (.int p1), .val (.int p2), .val (.int p3)], [.ref 1088], (126, 120, L, [Y, T, HA, HB, RA, RB, ST, NS, I0, I1, I2, BO, FI, RG, GU, PU, MA_2, MN, MS, OT, SC], [r0, r1, r2, r3, w, r5, r6, r7, r8], Lg)) o from ev_f (c := p3 = 0) _ _ 2 zc21 e (fun n => Eq.refl _)
        have zh22 := sum_r zh8 (Option.some.inj zh17).symm
        exact ev_b 2 (zj9 1 (Option.some.inj zh22) ) (fun n => Eq.refl _)
set_option maxRecDepth 1000000 in
set_option maxHeartbeats 4000000 in
theorem R_f_M_shown_0 (d : Nat) (Y T HA HB RA RB ST NS I0 I1 I2 BO FI RG GU PU MA MN MS OT SC : Nat → Nat → Int32) (r0 r1 r2 r3 w r5 r6 r7 r8 : Nat) (L : Nat) (Lg : Int64) (p0 : Int32) (p1 : Int32) {r : Int32} (h : f_M_shown p0 p1 = some r) : Ev (d + 0, 0, 0, 98, 0, [.val (.int p0), .val (.int p1)], [], (126, 120, L, [Y, T, HA, HB, RA, RB, ST, NS, I0, I1, I2, BO, FI, RG, GU, PU, MA, MN, MS, OT, SC], [r0, r1, r2, r3, w, r5, r6, r7, r8], Lg)) ((0, some (.int r), (126, 120, L, [Y, T, HA, HB, RA, RB, ST, NS, I0, I1, I2, BO, FI, RG, GU, PU, MA, MN, MS, OT, SC], [r0, r1, r2, r3, w, r5, r6, r7, r8], Lg)) : AOut) := by
  suffices key : ∀ o : AOut, ((0, some (.int r), (126, 120, L, [Y, T, HA, HB, RA, RB, ST, NS, I0, I1, I2, BO, FI, RG, GU, PU, MA, MN, MS, OT, SC], [r0, r1, r2, r3, w, r5, r6, r7, r8], Lg)) : AOut) = o → Ev (d + 0, 0, 0, 98, 0, [.val (.int p0), .val (.int p1)], [], (126, 120, L, [Y, T, HA, HB, RA, RB, ST, NS, I0, I1, I2, BO, FI, RG, GU, PU, MA, MN, MS, OT, SC], [r0, r1, r2, r3, w, r5, r6, r7, r8], Lg)) o from key _ rfl
  intro o ho
  by_cases zc1 : p1 = 0
  · have h := itp h zc1
    suffices e : Ev (d + 0, 0, 0, 98, 17, [.val (.int p0), .val (.int p1)], [], (126, 120, L, [Y, T, HA, HB, RA, RB, ST, NS, I0, I1, I2, BO, FI, RG, GU, PU, MA, MN, MS, OT, SC], [r0, r1, r2, r3, w, r5, r6, r7, r8], Lg)) o from ev_t (c := p1 = 0) _ _ 2 zc1 e (fun n => Eq.refl _)
    have ze2 := Option.some.inj h
    subst ze2
    exact ev_rete 2 ho (fun n => Eq.refl _)
  · have h := itn h zc1
    suffices e : Ev (d + 0, 0, 0, 98, 4, [.val (.int p0), .val (.int p1)], [], (126, 120, L, [Y, T, HA, HB, RA, RB, ST, NS, I0, I1, I2, BO, FI, RG, GU, PU, MA, MN, MS, OT, SC], [r0, r1, r2, r3, w, r5, r6, r7, r8], Lg)) o from ev_f (c := p1 = 0) _ _ 2 zc1 e (fun n => Eq.refl _)
    suffices e : Ev (d + 0, 0, 0, 98, 9, [.val (.int p0), .val (.int p1)], [.int (a_rem p0 3), .int 10], (126, 120, L, [Y, T, HA, HB, RA, RB, ST, NS, I0, I1, I2, BO, FI, RG, GU, PU, MA, MN, MS, OT, SC], [r0, r1, r2, r3, w, r5, r6, r7, r8], Lg)) o from ev_b 4 e (fun n => Eq.refl _)
    suffices e : Ev (d + 0, 0, 0, 98, 13, [.val (.int p0), .val (.int p1)], [.int (p0 / 3), .int (10 * (a_rem p0 3))], (126, 120, L, [Y, T, HA, HB, RA, RB, ST, NS, I0, I1, I2, BO, FI, RG, GU, PU, MA, MN, MS, OT, SC], [r0, r1, r2, r3, w, r5, r6, r7, r8], Lg)) o from ev_b 4 e (fun n => Eq.refl _)
    have ze3 := Option.some.inj h
    subst ze3
    exact ev_rete 3 ho (fun n => Eq.refl _)
set_option maxRecDepth 1000000 in
set_option maxHeartbeats 4000000 in
theorem R_f_M_isRing_0 (d : Nat) (Y T HA HB RA RB ST NS I0 I1 I2 BO FI RG GU PU MA MN MS OT SC : Nat → Nat → Int32) (r0 r1 r2 r3 w r5 r6 r7 r8 : Nat) (L : Nat) (Lg : Int64) (p1 : Int32) {r : Int32 × (Nat → Nat → Int32)} (h : f_M_isRing MA MS p1 = some r) : Ev (d + 4, 0, 0, 101, 0, [.val (.ref 1088), .val (.int p1), .val a_unk], [], (126, 120, L, [Y, T, HA, HB, RA, RB, ST, NS, I0, I1, I2, BO, FI, RG, GU, PU, MA, MN, MS, OT, SC], [r0, r1, r2, r3, w, r5, r6, r7, r8], Lg)) ((0, some (.int r.1), (126, 120, L, [Y, T, HA, HB, RA, RB, ST, NS, I0, I1, I2, BO, FI, RG, GU, PU, MA, MN, r.2, OT, SC], [r0, r1, r2, r3, w, r5, r6, r7, r8], Lg)) : AOut) := by
  suffices key : ∀ o : AOut, ((0, some (.int r.1), (126, 120, L, [Y, T, HA, HB, RA, RB, ST, NS, I0, I1, I2, BO, FI, RG, GU, PU, MA, MN, r.2, OT, SC], [r0, r1, r2, r3, w, r5, r6, r7, r8], Lg)) : AOut) = o → Ev (d + 4, 0, 0, 101, 0, [.val (.ref 1088), .val (.int p1), .val a_unk], [], (126, 120, L, [Y, T, HA, HB, RA, RB, ST, NS, I0, I1, I2, BO, FI, RG, GU, PU, MA, MN, MS, OT, SC], [r0, r1, r2, r3, w, r5, r6, r7, r8], Lg)) o from key _ rfl
  intro o ho
  obtain ⟨x1, zh1, h⟩ := bnd h
  have ze2 := R_copies (d + 3) 1095 1220 10 [Y, T, HA, HB, RA, RB, ST, NS, I0, I1, I2, BO, FI, RG, GU, PU, MA, MN, MS, OT, SC] [r0, r1, r2, r3, w, r5, r6, r7, r8] (.ref 1088) L Lg 126 120 rfl rfl rfl rfl (Nat.le_of_ble_eq_true rfl) (Nat.le_of_ble_eq_true rfl) (Nat.le_of_ble_eq_true rfl) zh1
  suffices e : Ev (d + 4, 0, 0, 101, 14, [.val (.ref 1088), .val (.int p1), .val a_unk], [], (126, 120, L, [Y, T, HA, HB, RA, RB, ST, NS, I0, I1, I2, BO, FI, RG, GU, PU, MA, MN, (u1 MS 4 x1), OT, SC], [r0, r1, r2, r3, w, r5, r6, r7, r8], Lg)) o from ev_call (fun v μ => (d + 4, 0, 0, 101, 14, [.val (.ref 1088), .val (.int p1), .val a_unk], v.toList ++ [], μ)) 7 ze2 e (fun n => Eq.refl _)
  obtain ⟨MS_9, zh4, h⟩ := bnd h
  suffices e : Ev (d + 4, 0, 0, 101, 16, [.val (.ref 1088), .val (.int p1), .val (.int 0)], [], (126, 120, L, [Y, T, HA, HB, RA, RB, ST, NS, I0, I1, I2, BO, FI, RG, GU, PU, MA, MN, (u1 MS 4 x1), OT, SC], [r0, r1, r2, r3, w, r5, r6, r7, r8], Lg)) o from ev_b 2 e (fun n => Eq.refl _)
  refine ev_loop (δ := Unit) (fun a j => (d + 4, 0, 0, 101, 16, [.val (.ref 1088), .val (.int p1), .val (.int a.1)], [], (126, 120, L, [Y, T, HA, HB, RA, RB, ST, NS, I0, I1, I2, BO, FI, RG, GU, PU, MA, MN, a.2, OT, SC], [r0, r1, r2, r3, w, r5, r6, r7, r8], Lg))) (fun b => ∀ s8 : Value, Ev (d + 4, 0, 0, 101, 53, [.val (.ref 1088), .val (.int p1), .val s8], [], (126, 120, L, [Y, T, HA, HB, RA, RB, ST, NS, I0, I1, I2, BO, FI, RG, GU, PU, MA, MN, b, OT, SC], [r0, r1, r2, r3, w, r5, r6, r7, r8], Lg)) o) ?_ a_F (0, (u1 MS 4 x1)) MS_9 zh4 ?_ ()
  · rintro ⟨v2, MS_3⟩ zr8 zh7 zi5 zx6 ⟨⟩
    have zh7 : f_M_isRing_l16 MA p1 v2 MS_3 = some zr8 := zh7
    by_cases zc9 : p1 ≤ v2
    · have zh7 := itp zh7 zc9
      suffices e : Ev (d + 4, 0, 0, 101, 53, [.val (.ref 1088), .val (.int p1), .val (.int v2)], [], (126, 120, L, [Y, T, HA, HB, RA, RB, ST, NS, I0, I1, I2, BO, FI, RG, GU, PU, MA, MN, MS_3, OT, SC], [r0, r1, r2, r3, w, r5, r6, r7, r8], Lg)) o from ev_t (c := p1 ≤ v2) _ _ 3 zc9 e (fun n => Eq.refl _)
      exact ev_b 0 (zx6 _ (Option.some.inj zh7).symm (.int v2)) (fun n => Eq.refl _)
    · have zh7 := itn zh7 zc9
      suffices e : Ev (d + 4, 0, 0, 101, 21, [.val (.ref 1088), .val (.int p1), .val (.int v2)], [], (126, 120, L, [Y, T, HA, HB, RA, RB, ST, NS, I0, I1, I2, BO, FI, RG, GU, PU, MA, MN, MS_3, OT, SC], [r0, r1, r2, r3, w, r5, r6, r7, r8], Lg)) o from ev_f (c := p1 ≤ v2) _ _ 3 zc9 e (fun n => Eq.refl _)
      obtain ⟨x4, zh10, zh7⟩ := bnd zh7
      have zh10 : rdx (MS_3 5) 4 v2 = some x4 := zh10
      suffices e : Ev (d + 4, 0, 0, 101, 31, [.val (.ref 1088), .val (.int p1), .val (.int v2)], [.int x4, .ref 1220], (126, 120, L, [Y, T, HA, HB, RA, RB, ST, NS, I0, I1, I2, BO, FI, RG, GU, PU, MA, MN, MS_3, OT, SC], [r0, r1, r2, r3, w, r5, r6, r7, r8], Lg)) o from ev_opt (fun x4 => (d + 4, 0, 0, 101, 31, [.val (.ref 1088), .val (.int p1), .val (.int v2)], [.int x4, .ref 1220], (126, 120, L, [Y, T, HA, HB, RA, RB, ST, NS, I0, I1, I2, BO, FI, RG, GU, PU, MA, MN, MS_3, OT, SC], [r0, r1, r2, r3, w, r5, r6, r7, r8], Lg))) 6 zh10 e (fun n => Eq.refl _)
      by_cases zc11 : p1 = 0
      · exact nos (itp zh7 zc11)
      have zh7 := itn zh7 zc11
      suffices e : Ev (d + 4, 0, 0, 101, 44, [.val (.ref 1088), .val (.int p1), .val (.int v2)], [.int (a_rem (v2 + 1) p1), .ref 1221, .ref 1095, .int x4, .ref 1220], (126, 120, L, [Y, T, HA, HB, RA, RB, ST, NS, I0, I1, I2, BO, FI, RG, GU, PU, MA, MN, MS_3, OT, SC], [r0, r1, r2, r3, w, r5, r6, r7, r8], Lg)) o from ev_d (c := p1 = 0) _ 9 zc11 e (fun n => Eq.refl _)
      obtain ⟨x5, zh12, zh7⟩ := bnd zh7
      have zh12 : rdx (MS_3 5) 4 (a_rem (v2 + 1) p1) = some x5 := zh12
      suffices e : Ev (d + 4, 0, 0, 101, 45, [.val (.ref 1088), .val (.int p1), .val (.int v2)], [.int x5, .ref 1095, .int x4, .ref 1220], (126, 120, L, [Y, T, HA, HB, RA, RB, ST, NS, I0, I1, I2, BO, FI, RG, GU, PU, MA, MN, MS_3, OT, SC], [r0, r1, r2, r3, w, r5, r6, r7, r8], Lg)) o from ev_opt (fun x5 => (d + 4, 0, 0, 101, 45, [.val (.ref 1088), .val (.int p1), .val (.int v2)], [.int x5, .ref 1095, .int x4, .ref 1220], (126, 120, L, [Y, T, HA, HB, RA, RB, ST, NS, I0, I1, I2, BO, FI, RG, GU, PU, MA, MN, MS_3, OT, SC], [r0, r1, r2, r3, w, r5, r6, r7, r8], Lg))) 1 zh12 e (fun n => Eq.refl _)
      obtain ⟨x6, zh13, zh7⟩ := bnd zh7
      have zh13 : rdx (MA 7) 10 x5 = some x6 := zh13
      suffices e : Ev (d + 4, 0, 0, 101, 46, [.val (.ref 1088), .val (.int p1), .val (.int v2)], [.int x6, .int x4, .ref 1220], (126, 120, L, [Y, T, HA, HB, RA, RB, ST, NS, I0, I1, I2, BO, FI, RG, GU, PU, MA, MN, MS_3, OT, SC], [r0, r1, r2, r3, w, r5, r6, r7, r8], Lg)) o from ev_opt (fun x6 => (d + 4, 0, 0, 101, 46, [.val (.ref 1088), .val (.int p1), .val (.int v2)], [.int x6, .int x4, .ref 1220], (126, 120, L, [Y, T, HA, HB, RA, RB, ST, NS, I0, I1, I2, BO, FI, RG, GU, PU, MA, MN, MS_3, OT, SC], [r0, r1, r2, r3, w, r5, r6, r7, r8], Lg))) 1 zh13 e (fun n => Eq.refl _)
      obtain ⟨j7, zh14, zh7⟩ := bnd zh7
      have zh14 : ixx 10 x4 = some j7 := zh14
      suffices e : Ev (d + 4, 0, 0, 101, 47, [.val (.ref 1088), .val (.int p1), .val (.int v2)], [], (126, 120, L, [Y, T, HA, HB, RA, RB, ST, NS, I0, I1, I2, BO, FI, RG, GU, PU, MA, MN, (u2 MS_3 4 j7 x6), OT, SC], [r0, r1, r2, r3, w, r5, r6, r7, r8], Lg)) o from ev_opt (fun j7 => (d + 4, 0, 0, 101, 47, [.val (.ref 1088), .val (.int p1), .val (.int v2)], [], (126, 120, L, [Y, T, HA, HB, RA, RB, ST, NS, I0, I1, I2, BO, FI, RG, GU, PU, MA, MN, (u2 MS_3 4 j7 x6), OT, SC], [r0, r1, r2, r3, w, r5, r6, r7, r8], Lg))) 1 zh14 e (fun n => Eq.refl _)
      exact ev_b 2 (zi5 _ (Option.some.inj zh7).symm ()) (fun n => Eq.refl _)
  · skip
    intro s8
    obtain ⟨x10, zh15, h⟩ := bnd h
    have zh15 : f_M_isLawful MA (MS_9 4) = some x10 := zh15
    have ze16 := R_f_M_isLawful_0 (d + 0) Y T HA HB RA RB ST NS I0 I1 I2 BO FI RG GU PU MA MN MS_9 OT SC r0 r1 r2 r3 w r5 r6 r7 r8 L Lg zh15
    suffices e : Ev (d + 4, 0, 0, 101, 61, [.val (.ref 1088), .val (.int p1), .val s8], [.int x10], (126, 120, L, [Y, T, HA, HB, RA, RB, ST, NS, I0, I1, I2, BO, FI, RG, GU, PU, MA, MN, MS_9, OT, SC], [r0, r1, r2, r3, w, r5, r6, r7, r8], Lg)) o from ev_call (fun v μ => (d + 4, 0, 0, 101, 61, [.val (.ref 1088), .val (.int p1), .val s8], v.toList ++ [], μ)) 4 ze16 e (fun n => Eq.refl _)
    have ze17 := Option.some.inj h
    subst ze17
    exact ev_rete 1 ho (fun n => Eq.refl _)
set_option maxRecDepth 1000000 in
set_option maxHeartbeats 4000000 in
theorem R_f_M_canRing_0 (d : Nat) (Y T HA HB RA RB ST NS I0 I1 I2 BO FI RG GU PU MA MN MS OT SC : Nat → Nat → Int32) (r0 r1 r2 r3 w r5 r6 r7 r8 : Nat) (L : Nat) (Lg : Int64) (p1 : Int32) {r : Int32} (h : f_M_canRing MA p1 = some r) : Ev (d + 1, 0, 0, 102, 0, [.val (.ref 1088), .val (.int p1)], [], (126, 120, L, [Y, T, HA, HB, RA, RB, ST, NS, I0, I1, I2, BO, FI, RG, GU, PU, MA, MN, MS, OT, SC], [r0, r1, r2, r3, w, r5, r6, r7, r8], Lg)) ((0, some (.int r), (126, 120, L, [Y, T, HA, HB, RA, RB, ST, NS, I0, I1, I2, BO, FI, RG, GU, PU, MA, MN, MS, OT, SC], [r0, r1, r2, r3, w, r5, r6, r7, r8], Lg)) : AOut) := by
  suffices key : ∀ o : AOut, ((0, some (.int r), (126, 120, L, [Y, T, HA, HB, RA, RB, ST, NS, I0, I1, I2, BO, FI, RG, GU, PU, MA, MN, MS, OT, SC], [r0, r1, r2, r3, w, r5, r6, r7, r8], Lg)) : AOut) = o → Ev (d + 1, 0, 0, 102, 0, [.val (.ref 1088), .val (.int p1)], [], (126, 120, L, [Y, T, HA, HB, RA, RB, ST, NS, I0, I1, I2, BO, FI, RG, GU, PU, MA, MN, MS, OT, SC], [r0, r1, r2, r3, w, r5, r6, r7, r8], Lg)) o from key _ rfl
  intro o ho
  obtain ⟨x1, zh1, h⟩ := bnd h
  have zh1 : rdx (MA 7) 10 p1 = some x1 := zh1
  suffices e : Ev (d + 1, 0, 0, 102, 6, [.val (.ref 1088), .val (.int p1)], [.int x1], (126, 120, L, [Y, T, HA, HB, RA, RB, ST, NS, I0, I1, I2, BO, FI, RG, GU, PU, MA, MN, MS, OT, SC], [r0, r1, r2, r3, w, r5, r6, r7, r8], Lg)) o from ev_opt (fun x1 => (d + 1, 0, 0, 102, 6, [.val (.ref 1088), .val (.int p1)], [.int x1], (126, 120, L, [Y, T, HA, HB, RA, RB, ST, NS, I0, I1, I2, BO, FI, RG, GU, PU, MA, MN, MS, OT, SC], [r0, r1, r2, r3, w, r5, r6, r7, r8], Lg))) 4 zh1 e (fun n => Eq.refl _)
  by_cases zc2 : x1 = (-1)
  · have h := itp h zc2
    suffices e : Ev (d + 1, 0, 0, 102, 22, [.val (.ref 1088), .val (.int p1)], [], (126, 120, L, [Y, T, HA, HB, RA, RB, ST, NS, I0, I1, I2, BO, FI, RG, GU, PU, MA, MN, MS, OT, SC], [r0, r1, r2, r3, w, r5, r6, r7, r8], Lg)) o from ev_t (c := x1 = (-1)) _ _ 2 zc2 e (fun n => Eq.refl _)
    have ze3 := Option.some.inj h
    subst ze3
    exact ev_rete 2 ho (fun n => Eq.refl _)
  · have h := itn h zc2
    suffices e : Ev (d + 1, 0, 0, 102, 10, [.val (.ref 1088), .val (.int p1)], [], (126, 120, L, [Y, T, HA, HB, RA, RB, ST, NS, I0, I1, I2, BO, FI, RG, GU, PU, MA, MN, MS, OT, SC], [r0, r1, r2, r3, w, r5, r6, r7, r8], Lg)) o from ev_f (c := x1 = (-1)) _ _ 2 zc2 e (fun n => Eq.refl _)
    obtain ⟨x2, zh4, h⟩ := bnd h
    have zh4 : f_M_isFixed MA p1 = some x2 := zh4
    have ze5 := R_f_M_isFixed_0 (d + 0) Y T HA HB RA RB ST NS I0 I1 I2 BO FI RG GU PU MA MN MS OT SC r0 r1 r2 r3 w r5 r6 r7 r8 L Lg p1 zh4
    suffices e : Ev (d + 1, 0, 0, 102, 15, [.val (.ref 1088), .val (.int p1)], [.int x2], (126, 120, L, [Y, T, HA, HB, RA, RB, ST, NS, I0, I1, I2, BO, FI, RG, GU, PU, MA, MN, MS, OT, SC], [r0, r1, r2, r3, w, r5, r6, r7, r8], Lg)) o from ev_call (fun v μ => (d + 1, 0, 0, 102, 15, [.val (.ref 1088), .val (.int p1)], v.toList ++ [], μ)) 3 ze5 e (fun n => Eq.refl _)
    by_cases zc6 : x2 ≠ 0
    · have h := itp h zc6
      suffices e : Ev (d + 1, 0, 0, 102, 22, [.val (.ref 1088), .val (.int p1)], [], (126, 120, L, [Y, T, HA, HB, RA, RB, ST, NS, I0, I1, I2, BO, FI, RG, GU, PU, MA, MN, MS, OT, SC], [r0, r1, r2, r3, w, r5, r6, r7, r8], Lg)) o from ev_t (c := x2 ≠ 0) _ _ 1 zc6 e (fun n => Eq.refl _)
      have ze7 := Option.some.inj h
      subst ze7
      exact ev_rete 2 ho (fun n => Eq.refl _)
    · have h := itn h zc6
      suffices e : Ev (d + 1, 0, 0, 102, 18, [.val (.ref 1088), .val (.int p1)], [], (126, 120, L, [Y, T, HA, HB, RA, RB, ST, NS, I0, I1, I2, BO, FI, RG, GU, PU, MA, MN, MS, OT, SC], [r0, r1, r2, r3, w, r5, r6, r7, r8], Lg)) o from ev_f (c := x2 ≠ 0) _ _ 1 zc6 e (fun n => Eq.refl _)
      have ze8 := Option.some.inj h
      subst ze8
      exact ev_rete 3 ho (fun n => Eq.refl _)
set_option maxRecDepth 1000000 in
set_option maxHeartbeats 4000000 in
theorem R_f_M_swap_0 (d : Nat) (Y T HA HB RA RB ST NS I0 I1 I2 BO FI RG GU PU MA MN MS OT SC : Nat → Nat → Int32) (r0 r1 r2 r3 w r5 r6 r7 r8 : Nat) (L : Nat) (Lg : Int64) (p1 : Int32) (p2 : Int32) {r : Int32 × (Nat → Nat → Int32) × (Nat → Nat → Int32)} (h : f_M_swap MA MS p1 p2 = some r) : Ev (d + 5, 0, 0, 104, 0, [.val (.ref 1088), .val (.int p1), .val (.int p2)], [], (126, 120, L, [Y, T, HA, HB, RA, RB, ST, NS, I0, I1, I2, BO, FI, RG, GU, PU, MA, MN, MS, OT, SC], [r0, r1, r2, r3, w, r5, r6, r7, r8], Lg)) ((0, some (.int r.1), (126, 120, L, [Y, T, HA, HB, RA, RB, ST, NS, I0, I1, I2, BO, FI, RG, GU, PU, r.2.1, MN, r.2.2, OT, SC], [r0, r1, r2, r3, w, r5, r6, r7, r8], Lg)) : AOut) := by
  suffices key : ∀ o : AOut, ((0, some (.int r.1), (126, 120, L, [Y, T, HA, HB, RA, RB, ST, NS, I0, I1, I2, BO, FI, RG, GU, PU, r.2.1, MN, r.2.2, OT, SC], [r0, r1, r2, r3, w, r5, r6, r7, r8], Lg)) : AOut) = o → Ev (d + 5, 0, 0, 104, 0, [.val (.ref 1088), .val (.int p1), .val (.int p2)], [], (126, 120, L, [Y, T, HA, HB, RA, RB, ST, NS, I0, I1, I2, BO, FI, RG, GU, PU, MA, MN, MS, OT, SC], [r0, r1, r2, r3, w, r5, r6, r7, r8], Lg)) o from key _ rfl
  intro o ho
  obtain ⟨⟨x1, MA_2⟩, zh1, h⟩ := bnd h
  have zh1 : f_M_isMeeting (u2 MA 0 0 0) p1 1 = some (x1, MA_2) := zh1
  have ze2 := R_f_M_isMeeting_0 (d + 3) Y T HA HB RA RB ST NS I0 I1 I2 BO FI RG GU PU (u2 MA 0 0 0) MN MS OT SC r0 r1 r2 r3 w r5 r6 r7 r8 L Lg p1 1 zh1
  suffices e : Ev (d + 5, 0, 0, 104, 11, [.val (.ref 1088), .val (.int p1), .val (.int p2)], [.int x1], (126, 120, L, [Y, T, HA, HB, RA, RB, ST, NS, I0, I1, I2, BO, FI, RG, GU, PU, MA_2, MN, MS, OT, SC], [r0, r1, r2, r3, w, r5, r6, r7, r8], Lg)) o from ev_call (fun v μ => (d + 5, 0, 0, 104, 11, [.val (.ref 1088), .val (.int p1), .val (.int p2)], v.toList ++ [], μ)) 7 ze2 e (fun n => Eq.refl _)
  by_cases zc3 : x1 = 0
  · have h := itp h zc3
    suffices e : Ev (d + 5, 0, 0, 104, 42, [.val (.ref 1088), .val (.int p1), .val (.int p2)], [], (126, 120, L, [Y, T, HA, HB, RA, RB, ST, NS, I0, I1, I2, BO, FI, RG, GU, PU, MA_2, MN, MS, OT, SC], [r0, r1, r2, r3, w, r5, r6, r7, r8], Lg)) o from ev_t (c := x1 = 0) _ _ 1 zc3 e (fun n => Eq.refl _)
    have ze4 := Option.some.inj h
    subst ze4
    exact ev_rete 2 ho (fun n => Eq.refl _)
  · have h := itn h zc3
    suffices e : Ev (d + 5, 0, 0, 104, 14, [.val (.ref 1088), .val (.int p1), .val (.int p2)], [], (126, 120, L, [Y, T, HA, HB, RA, RB, ST, NS, I0, I1, I2, BO, FI, RG, GU, PU, MA_2, MN, MS, OT, SC], [r0, r1, r2, r3, w, r5, r6, r7, r8], Lg)) o from ev_f (c := x1 = 0) _ _ 1 zc3 e (fun n => Eq.refl _)
    obtain ⟨⟨x3, MA_4⟩, zh5, h⟩ := bnd h
    have zh5 : f_M_isMeeting MA_2 p2 1 = some (x3, MA_4) := zh5
    have ze6 := R_f_M_isMeeting_0 (d + 3) Y T HA HB RA RB ST NS I0 I1 I2 BO FI RG GU PU MA_2 MN MS OT SC r0 r1 r2 r3 w r5 r6 r7 r8 L Lg p2 1 zh5
    suffices e : Ev (d + 5, 0, 0, 104, 20, [.val (.ref 1088), .val (.int p1), .val (.int p2)], [.int x3], (126, 120, L, [Y, T, HA, HB, RA, RB, ST, NS, I0, I1, I2, BO, FI, RG, GU, PU, MA_4, MN, MS, OT, SC], [r0, r1, r2, r3, w, r5, r6, r7, r8], Lg)) o from ev_call (fun v μ => (d + 5, 0, 0, 104, 20, [.val (.ref 1088), .val (.int p1), .val (.int p2)], v.toList ++ [], μ)) 4 ze6 e (fun n => Eq.refl _)
    by_cases zc7 : x3 = 0
    · have h := itp h zc7
      suffices e : Ev (d + 5, 0, 0, 104, 42, [.val (.ref 1088), .val (.int p1), .val (.int p2)], [], (126, 120, L, [Y, T, HA, HB, RA, RB, ST, NS, I0, I1, I2, BO, FI, RG, GU, PU, MA_4, MN, MS, OT, SC], [r0, r1, r2, r3, w, r5, r6, r7, r8], Lg)) o from ev_t (c := x3 = 0) _ _ 1 zc7 e (fun n => Eq.refl _)
      have ze8 := Option.some.inj h
      subst ze8
      exact ev_rete 2 ho (fun n => Eq.refl _)
    · have h := itn h zc7
      suffices e : Ev (d + 5, 0, 0, 104, 23, [.val (.ref 1088), .val (.int p1), .val (.int p2)], [], (126, 120, L, [Y, T, HA, HB, RA, RB, ST, NS, I0, I1, I2, BO, FI, RG, GU, PU, MA_4, MN, MS, OT, SC], [r0, r1, r2, r3, w, r5, r6, r7, r8], Lg)) o from ev_f (c := x3 = 0) _ _ 1 zc7 e (fun n => Eq.refl _)
      obtain ⟨zt9, zh10, h⟩ := bnd h
      have zj11 : ∀ (v5 : Int32), v5 = zt9 → Ev (d + 5, 0, 0, 104, 34, [.val (.ref 1088), .val (.int p1), .val (.int p2)], [.int v5, .ref 1088], (126, 120, L, [Y, T, HA, HB, RA, RB, ST, NS, I0, I1, I2, BO, FI, RG, GU, PU, MA_4, MN, MS, OT, SC], [r0, r1, r2, r3, w, r5, r6, r7, r8], Lg)) o := by
        intro v5 ze12
        subst ze12
        obtain ⟨⟨x6, MA_7⟩, zh13, h⟩ := bnd h
        have zh13 : f_M_may MA_4 v5 2 1 = some (x6, MA_7) := zh13
        have ze14 := R_f_M_may_0 (d + 4) Y T HA HB RA RB ST NS I0 I1 I2 BO FI RG GU PU MA_4 MN MS OT SC r0 r1 r2 r3 w r5 r6 r7 r8 L Lg v5 2 1 zh13
        suffices e : Ev (d + 5, 0, 0, 104, 39, [.val (.ref 1088), .val (.int p1), .val (.int p2)], [.int x6], (126, 120, L, [Y, T, HA, HB, RA, RB, ST, NS, I0, I1, I2, BO, FI, RG, GU, PU, MA_7, MN, MS, OT, SC], [r0, r1, r2, r3, w, r5, r6, r7, r8], Lg)) o from ev_call (fun v μ => (d + 5, 0, 0, 104, 39, [.val (.ref 1088), .val (.int p1), .val (.int p2)], v.toList ++ [], μ)) 3 ze14 e (fun n => Eq.refl _)
        by_cases zc15 : x6 ≠ 0
        · have h := itp h zc15
          suffices e : Ev (d + 5, 0, 0, 104, 44, [.val (.ref 1088), .val (.int p1), .val (.int p2)], [], (126, 120, L, [Y, T, HA, HB, RA, RB, ST, NS, I0, I1, I2, BO, FI, RG, GU, PU, MA_7, MN, MS, OT, SC], [r0, r1, r2, r3, w, r5, r6, r7, r8], Lg)) o from ev_t (c := x6 ≠ 0) _ _ 1 zc15 e (fun n => Eq.refl _)
          obtain ⟨x8, zh16, h⟩ := bnd h
          have zh16 : f_M_canRing MA_7 p1 = some x8 := zh16
          have ze17 := R_f_M_canRing_0 (d + 3) Y T HA HB RA RB ST NS I0 I1 I2 BO FI RG GU PU MA_7 MN MS OT SC r0 r1 r2 r3 w r5 r6 r7 r8 L Lg p1 zh16
          suffices e : Ev (d + 5, 0, 0, 104, 49, [.val (.ref 1088), .val (.int p1), .val (.int p2)], [.int x8], (126, 120, L, [Y, T, HA, HB, RA, RB, ST, NS, I0, I1, I2, BO, FI, RG, GU, PU, MA_7, MN, MS, OT, SC], [r0, r1, r2, r3, w, r5, r6, r7, r8], Lg)) o from ev_call (fun v μ => (d + 5, 0, 0, 104, 49, [.val (.ref 1088), .val (.int p1), .val (.int p2)], v.toList ++ [], μ)) 3 ze17 e (fun n => Eq.refl _)
          by_cases zc18 : x8 = 0
          · have h := itp h zc18
            suffices e : Ev (d + 5, 0, 0, 104, 60, [.val (.ref 1088), .val (.int p1), .val (.int p2)], [], (126, 120, L, [Y, T, HA, HB, RA, RB, ST, NS, I0, I1, I2, BO, FI, RG, GU, PU, MA_7, MN, MS, OT, SC], [r0, r1, r2, r3, w, r5, r6, r7, r8], Lg)) o from ev_t (c := x8 = 0) _ _ 1 zc18 e (fun n => Eq.refl _)
            have ze19 := Option.some.inj h
            subst ze19
            exact ev_rete 2 ho (fun n => Eq.refl _)
          · have h := itn h zc18
            suffices e : Ev (d + 5, 0, 0, 104, 52, [.val (.ref 1088), .val (.int p1), .val (.int p2)], [], (126, 120, L, [Y, T, HA, HB, RA, RB, ST, NS, I0, I1, I2, BO, FI, RG, GU, PU, MA_7, MN, MS, OT, SC], [r0, r1, r2, r3, w, r5, r6, r7, r8], Lg)) o from ev_f (c := x8 = 0) _ _ 1 zc18 e (fun n => Eq.refl _)
            obtain ⟨x9, zh20, h⟩ := bnd h
            have zh20 : f_M_canRing MA_7 p2 = some x9 := zh20
            have ze21 := R_f_M_canRing_0 (d + 3) Y T HA HB RA RB ST NS I0 I1 I2 BO FI RG GU PU MA_7 MN MS OT SC r0 r1 r2 r3 w r5 r6 r7 r8 L Lg p2 zh20
            suffices e : Ev (d + 5, 0, 0, 104, 57, [.val (.ref 1088), .val (.int p1), .val (.int p2)], [.int x9], (126, 120, L, [Y, T, HA, HB, RA, RB, ST, NS, I0, I1, I2, BO, FI, RG, GU, PU, MA_7, MN, MS, OT, SC], [r0, r1, r2, r3, w, r5, r6, r7, r8], Lg)) o from ev_call (fun v μ => (d + 5, 0, 0, 104, 57, [.val (.ref 1088), .val (.int p1), .val (.int p2)], v.toList ++ [], μ)) 3 ze21 e (fun n => Eq.refl _)
            by_cases zc22 : x9 ≠ 0
            · have h := itp h zc22
              suffices e : Ev (d + 5, 0, 0, 104, 62, [.val (.ref 1088), .val (.int p1), .val (.int p2)], [], (126, 120, L, [Y, T, HA, HB, RA, RB, ST, NS, I0, I1, I2, BO, FI, RG, GU, PU, MA_7, MN, MS, OT, SC], [r0, r1, r2, r3, w, r5, r6, r7, r8], Lg)) o from ev_t (c := x9 ≠ 0) _ _ 1 zc22 e (fun n => Eq.refl _)
              obtain ⟨j10, zh23, h⟩ := bnd h
              have zh23 : ixx 4 0 = some j10 := zh23
              suffices e : Ev (d + 5, 0, 0, 104, 69, [.val (.ref 1088), .val (.int p1), .val (.int p2)], [], (126, 120, L, [Y, T, HA, HB, RA, RB, ST, NS, I0, I1, I2, BO, FI, RG, GU, PU, MA_7, MN, (u2 MS 5 j10 p1), OT, SC], [r0, r1, r2, r3, w, r5, r6, r7, r8], Lg)) o from ev_opt (fun j10 => (d + 5, 0, 0, 104, 69, [.val (.ref 1088), .val (.int p1), .val (.int p2)], [], (126, 120, L, [Y, T, HA, HB, RA, RB, ST, NS, I0, I1, I2, BO, FI, RG, GU, PU, MA_7, MN, (u2 MS 5 j10 p1), OT, SC], [r0, r1, r2, r3, w, r5, r6, r7, r8], Lg))) 5 zh23 e (fun n => Eq.refl _)
              obtain ⟨j11, zh24, h⟩ := bnd h
              have zh24 : ixx 4 1 = some j11 := zh24
              suffices e : Ev (d + 5, 0, 0, 104, 76, [.val (.ref 1088), .val (.int p1), .val (.int p2)], [], (126, 120, L, [Y, T, HA, HB, RA, RB, ST, NS, I0, I1, I2, BO, FI, RG, GU, PU, MA_7, MN, (u2 (u2 MS 5 j10 p1) 5 j11 p2), OT, SC], [r0, r1, r2, r3, w, r5, r6, r7, r8], Lg)) o from ev_opt (fun j11 => (d + 5, 0, 0, 104, 76, [.val (.ref 1088), .val (.int p1), .val (.int p2)], [], (126, 120, L, [Y, T, HA, HB, RA, RB, ST, NS, I0, I1, I2, BO, FI, RG, GU, PU, MA_7, MN, (u2 (u2 MS 5 j10 p1) 5 j11 p2), OT, SC], [r0, r1, r2, r3, w, r5, r6, r7, r8], Lg))) 5 zh24 e (fun n => Eq.refl _)
              obtain ⟨⟨x12, MS_13⟩, zh25, h⟩ := bnd h
              have zh25 : f_M_isRing MA_7 (u2 (u2 MS 5 j10 p1) 5 j11 p2) 2 = some (x12, MS_13) := zh25
              have ze26 := R_f_M_isRing_0 (d + 0) Y T HA HB RA RB ST NS I0 I1 I2 BO FI RG GU PU MA_7 MN (u2 (u2 MS 5 j10 p1) 5 j11 p2) OT SC r0 r1 r2 r3 w r5 r6 r7 r8 L Lg 2 zh25
              suffices e : Ev (d + 5, 0, 0, 104, 81, [.val (.ref 1088), .val (.int p1), .val (.int p2)], [.int x12], (126, 120, L, [Y, T, HA, HB, RA, RB, ST, NS, I0, I1, I2, BO, FI, RG, GU, PU, MA_7, MN, MS_13, OT, SC], [r0, r1, r2, r3, w, r5, r6, r7, r8], Lg)) o from ev_call (fun v μ => (d + 5, 0, 0, 104, 81, [.val (.ref 1088), .val (.int p1), .val (.int p2)], v.toList ++ [], μ)) 3 ze26 e (fun n => Eq.refl _)
              have ze27 := Option.some.inj h
              subst ze27
              exact ev_rete 1 ho (fun n => Eq.refl _)
            · have h := itn h zc22
              suffices e : Ev (d + 5, 0, 0, 104, 60, [.val (.ref 1088), .val (.int p1), .val (.int p2)], [], (126, 120, L, [Y, T, HA, HB, RA, RB, ST, NS, I0, I1, I2, BO, FI, RG, GU, PU, MA_7, MN, MS, OT, SC], [r0, r1, r2, r3, w, r5, r6, r7, r8], Lg)) o from ev_f (c := x9 ≠ 0) _ _ 1 zc22 e (fun n => Eq.refl _)
              have ze28 := Option.some.inj h
              subst ze28
              exact ev_rete 2 ho (fun n => Eq.refl _)
        · have h := itn h zc15
          suffices e : Ev (d + 5, 0, 0, 104, 42, [.val (.ref 1088), .val (.int p1), .val (.int p2)], [], (126, 120, L, [Y, T, HA, HB, RA, RB, ST, NS, I0, I1, I2, BO, FI, RG, GU, PU, MA_7, MN, MS, OT, SC], [r0, r1, r2, r3, w, r5, r6, r7, r8], Lg)) o from ev_f (c := x6 ≠ 0) _ _ 1 zc15 e (fun n => Eq.refl _)
          have ze29 := Option.some.inj h
          subst ze29
          exact ev_rete 2 ho (fun n => Eq.refl _)
      by_cases zc30 : p1 = p2
      · have zh10 := itp zh10 zc30
        suffices e : Ev (d + 5, 0, 0, 104, 33, [.val (.ref 1088), .val (.int p1), .val (.int p2)], [.ref 1088], (126, 120, L, [Y, T, HA, HB, RA, RB, ST, NS, I0, I1, I2, BO, FI, RG, GU, PU, MA_4, MN, MS, OT, SC], [r0, r1, r2, r3, w, r5, r6, r7, r8], Lg)) o from ev_t (c := p1 = p2) _ _ 4 zc30 e (fun n => Eq.refl _)
        exact ev_b 1 (zj11 0 (Option.some.inj zh10) ) (fun n => Eq.refl _)
      · have zh10 := itn zh10 zc30
        suffices e : Ev (d + 5, 0, 0, 104, 29, [.val (.ref 1088), .val (.int p1), .val (.int p2)], [.ref 1088], (126, 120, L, [Y, T, HA, HB, RA, RB, ST, NS, I0, I1, I2, BO, FI, RG, GU, PU, MA_4, MN, MS, OT, SC], [r0, r1, r2, r3, w, r5, r6, r7, r8], Lg)) o from ev_f (c := p1 = p2) _ _ 4 zc30 e (fun n => Eq.refl _)
        exact ev_b 2 (zj11 1 (Option.some.inj zh10) ) (fun n => Eq.refl _)
set_option maxRecDepth 1000000 in
set_option maxHeartbeats 4000000 in
theorem R_f_M_apartNow_0 (d : Nat) (Y T HA HB RA RB ST NS I0 I1 I2 BO FI RG GU PU MA MN MS OT SC : Nat → Nat → Int32) (r0 r1 r2 r3 w r5 r6 r7 r8 : Nat) (L : Nat) (Lg : Int64) {r : Int32 × (Nat → Nat → Int32)} (h : f_M_apartNow MA MS = some r) : Ev (d + 2, 0, 0, 106, 0, [.val (.ref 1088), .val a_unk, .val a_unk], [], (126, 120, L, [Y, T, HA, HB, RA, RB, ST, NS, I0, I1, I2, BO, FI, RG, GU, PU, MA, MN, MS, OT, SC], [r0, r1, r2, r3, w, r5, r6, r7, r8], Lg)) ((0, some (.int r.1), (126, 120, L, [Y, T, HA, HB, RA, RB, ST, NS, I0, I1, I2, BO, FI, RG, GU, PU, MA, MN, r.2, OT, SC], [r0, r1, r2, r3, w, r5, r6, r7, r8], Lg)) : AOut) := by
  suffices key : ∀ o : AOut, ((0, some (.int r.1), (126, 120, L, [Y, T, HA, HB, RA, RB, ST, NS, I0, I1, I2, BO, FI, RG, GU, PU, MA, MN, r.2, OT, SC], [r0, r1, r2, r3, w, r5, r6, r7, r8], Lg)) : AOut) = o → Ev (d + 2, 0, 0, 106, 0, [.val (.ref 1088), .val a_unk, .val a_unk], [], (126, 120, L, [Y, T, HA, HB, RA, RB, ST, NS, I0, I1, I2, BO, FI, RG, GU, PU, MA, MN, MS, OT, SC], [r0, r1, r2, r3, w, r5, r6, r7, r8], Lg)) o from key _ rfl
  intro o ho
  obtain ⟨MS_1, zh1, h⟩ := bnd h
  have zh1 : f_M_findGoals MA MS = some MS_1 := zh1
  have ze2 := R_f_M_findGoals_0 (d + 0) Y T HA HB RA RB ST NS I0 I1 I2 BO FI RG GU PU MA MN MS OT SC r0 r1 r2 r3 w r5 r6 r7 r8 L Lg zh1
  suffices e : Ev (d + 2, 0, 0, 106, 4, [.val (.ref 1088), .val a_unk, .val a_unk], [], (126, 120, L, [Y, T, HA, HB, RA, RB, ST, NS, I0, I1, I2, BO, FI, RG, GU, PU, MA, MN, MS_1, OT, SC], [r0, r1, r2, r3, w, r5, r6, r7, r8], Lg)) o from ev_call (fun v μ => (d + 2, 0, 0, 106, 4, [.val (.ref 1088), .val a_unk, .val a_unk], v.toList ++ [], μ)) 2 ze2 e (fun n => Eq.refl _)
  obtain ⟨v7, zh4, h⟩ := bnd h
  suffices e : Ev (d + 2, 0, 0, 106, 8, [.val (.ref 1088), .val (.int 0), .val (.int 0)], [], (126, 120, L, [Y, T, HA, HB, RA, RB, ST, NS, I0, I1, I2, BO, FI, RG, GU, PU, MA, MN, MS_1, OT, SC], [r0, r1, r2, r3, w, r5, r6, r7, r8], Lg)) o from ev_b 4 e (fun n => Eq.refl _)
  refine ev_loop (δ := Unit) (fun a j => (d + 2, 0, 0, 106, 8, [.val (.ref 1088), .val (.int a.1), .val (.int a.2)], [], (126, 120, L, [Y, T, HA, HB, RA, RB, ST, NS, I0, I1, I2, BO, FI, RG, GU, PU, MA, MN, MS_1, OT, SC], [r0, r1, r2, r3, w, r5, r6, r7, r8], Lg))) (fun b => ∀ s8 : Value, Ev (d + 2, 0, 0, 106, 47, [.val (.ref 1088), .val (.int b), .val s8], [], (126, 120, L, [Y, T, HA, HB, RA, RB, ST, NS, I0, I1, I2, BO, FI, RG, GU, PU, MA, MN, MS_1, OT, SC], [r0, r1, r2, r3, w, r5, r6, r7, r8], Lg)) o) ?_ a_F (0, 0) v7 zh4 ?_ ()
  · rintro ⟨v2, v3⟩ zr8 zh7 zi5 zx6 ⟨⟩
    have zh7 : f_M_apartNow_l8 MA MS_1 v2 v3 = some zr8 := zh7
    by_cases zc9 : (MA 0 26) ≤ v3
    · have zh7 := itp zh7 zc9
      suffices e : Ev (d + 2, 0, 0, 106, 47, [.val (.ref 1088), .val (.int v2), .val (.int v3)], [], (126, 120, L, [Y, T, HA, HB, RA, RB, ST, NS, I0, I1, I2, BO, FI, RG, GU, PU, MA, MN, MS_1, OT, SC], [r0, r1, r2, r3, w, r5, r6, r7, r8], Lg)) o from ev_t (c := (MA 0 26) ≤ v3) _ _ 4 zc9 e (fun n => Eq.refl _)
      exact ev_b 0 (zx6 _ (Option.some.inj zh7).symm (.int v3)) (fun n => Eq.refl _)
    · have zh7 := itn zh7 zc9
      suffices e : Ev (d + 2, 0, 0, 106, 16, [.val (.ref 1088), .val (.int v2), .val (.int v3)], [], (126, 120, L, [Y, T, HA, HB, RA, RB, ST, NS, I0, I1, I2, BO, FI, RG, GU, PU, MA, MN, MS_1, OT, SC], [r0, r1, r2, r3, w, r5, r6, r7, r8], Lg)) o from ev_f (c := (MA 0 26) ≤ v3) _ _ 4 zc9 e (fun n => Eq.refl _)
      obtain ⟨x4, zh10, zh7⟩ := bnd zh7
      have zh10 : rdx (MS_1 1) 10 v3 = some x4 := zh10
      suffices e : Ev (d + 2, 0, 0, 106, 23, [.val (.ref 1088), .val (.int v2), .val (.int v3)], [.int x4, .int v2], (126, 120, L, [Y, T, HA, HB, RA, RB, ST, NS, I0, I1, I2, BO, FI, RG, GU, PU, MA, MN, MS_1, OT, SC], [r0, r1, r2, r3, w, r5, r6, r7, r8], Lg)) o from ev_opt (fun x4 => (d + 2, 0, 0, 106, 23, [.val (.ref 1088), .val (.int v2), .val (.int v3)], [.int x4, .int v2], (126, 120, L, [Y, T, HA, HB, RA, RB, ST, NS, I0, I1, I2, BO, FI, RG, GU, PU, MA, MN, MS_1, OT, SC], [r0, r1, r2, r3, w, r5, r6, r7, r8], Lg))) 5 zh10 e (fun n => Eq.refl _)
      obtain ⟨x5, zh11, zh7⟩ := bnd zh7
      have zh11 : rdx (MA 7) 10 v3 = some x5 := zh11
      suffices e : Ev (d + 2, 0, 0, 106, 29, [.val (.ref 1088), .val (.int v2), .val (.int v3)], [.int x5, .int x4, .int v2], (126, 120, L, [Y, T, HA, HB, RA, RB, ST, NS, I0, I1, I2, BO, FI, RG, GU, PU, MA, MN, MS_1, OT, SC], [r0, r1, r2, r3, w, r5, r6, r7, r8], Lg)) o from ev_opt (fun x5 => (d + 2, 0, 0, 106, 29, [.val (.ref 1088), .val (.int v2), .val (.int v3)], [.int x5, .int x4, .int v2], (126, 120, L, [Y, T, HA, HB, RA, RB, ST, NS, I0, I1, I2, BO, FI, RG, GU, PU, MA, MN, MS_1, OT, SC], [r0, r1, r2, r3, w, r5, r6, r7, r8], Lg))) 4 zh11 e (fun n => Eq.refl _)
      obtain ⟨zt12, zh13, zh7⟩ := bnd zh7
      have zj14 : ∀ (v6 : Int32), v6 = zt12 → Ev (d + 2, 0, 0, 106, 39, [.val (.ref 1088), .val (.int v2), .val (.int v3)], [.int v6, .int v2], (126, 120, L, [Y, T, HA, HB, RA, RB, ST, NS, I0, I1, I2, BO, FI, RG, GU, PU, MA, MN, MS_1, OT, SC], [r0, r1, r2, r3, w, r5, r6, r7, r8], Lg)) o := by
        intro v6 ze15
        subst ze15
        exact ev_b 4 (zi5 _ (Option.some.inj zh7).symm ()) (fun n => Eq.refl _)
      by_cases zc16 : x4 = x5
      · have zh13 := itp zh13 zc16
        suffices e : Ev (d + 2, 0, 0, 106, 38, [.val (.ref 1088), .val (.int v2), .val (.int v3)], [.int v2], (126, 120, L, [Y, T, HA, HB, RA, RB, ST, NS, I0, I1, I2, BO, FI, RG, GU, PU, MA, MN, MS_1, OT, SC], [r0, r1, r2, r3, w, r5, r6, r7, r8], Lg)) o from ev_t (c := x4 = x5) _ _ 1 zc16 e (fun n => Eq.refl _)
        exact ev_b 1 (zj14 0 (Option.some.inj zh13) ) (fun n => Eq.refl _)
      · have zh13 := itn zh13 zc16
        suffices e : Ev (d + 2, 0, 0, 106, 32, [.val (.ref 1088), .val (.int v2), .val (.int v3)], [.int v2], (126, 120, L, [Y, T, HA, HB, RA, RB, ST, NS, I0, I1, I2, BO, FI, RG, GU, PU, MA, MN, MS_1, OT, SC], [r0, r1, r2, r3, w, r5, r6, r7, r8], Lg)) o from ev_f (c := x4 = x5) _ _ 1 zc16 e (fun n => Eq.refl _)
        exact ev_b 4 (zj14 (a_shl 1 v3) (Option.some.inj zh13) ) (fun n => Eq.refl _)
  · skip
    intro s8
    have ze17 := Option.some.inj h
    subst ze17
    exact ev_rete 2 ho (fun n => Eq.refl _)
set_option maxRecDepth 1000000 in
set_option maxHeartbeats 4000000 in
theorem R_f_M_apart_0 (d : Nat) (Y T HA HB RA RB ST NS I0 I1 I2 BO FI RG GU PU MA MN MS OT SC : Nat → Nat → Int32) (r0 r1 r2 r3 w r5 r6 r7 r8 : Nat) (L : Nat) (Lg : Int64) {r : Int32 × (Nat → Nat → Int32) × (Nat → Nat → Int32)} (h : f_M_apart MA MS = some r) : Ev (d + 3, 0, 0, 107, 0, [.val (.ref 1088)], [], (126, 120, L, [Y, T, HA, HB, RA, RB, ST, NS, I0, I1, I2, BO, FI, RG, GU, PU, MA, MN, MS, OT, SC], [r0, r1, r2, r3, w, r5, r6, r7, r8], Lg)) ((0, some (.int r.1), (126, 120, L, [Y, T, HA, HB, RA, RB, ST, NS, I0, I1, I2, BO, FI, RG, GU, PU, r.2.1, MN, r.2.2, OT, SC], [r0, r1, r2, r3, w, r5, r6, r7, r8], Lg)) : AOut) := by
  suffices key : ∀ o : AOut, ((0, some (.int r.1), (126, 120, L, [Y, T, HA, HB, RA, RB, ST, NS, I0, I1, I2, BO, FI, RG, GU, PU, r.2.1, MN, r.2.2, OT, SC], [r0, r1, r2, r3, w, r5, r6, r7, r8], Lg)) : AOut) = o → Ev (d + 3, 0, 0, 107, 0, [.val (.ref 1088)], [], (126, 120, L, [Y, T, HA, HB, RA, RB, ST, NS, I0, I1, I2, BO, FI, RG, GU, PU, MA, MN, MS, OT, SC], [r0, r1, r2, r3, w, r5, r6, r7, r8], Lg)) o from key _ rfl
  intro o ho
  obtain ⟨⟨x1, MS_2⟩, zh1, h⟩ := bnd h
  have zh1 : f_M_apartNow (u2 MA 0 0 0) MS = some (x1, MS_2) := zh1
  have ze2 := R_f_M_apartNow_0 (d + 0) Y T HA HB RA RB ST NS I0 I1 I2 BO FI RG GU PU (u2 MA 0 0 0) MN MS OT SC r0 r1 r2 r3 w r5 r6 r7 r8 L Lg zh1
  suffices e : Ev (d + 3, 0, 0, 107, 9, [.val (.ref 1088)], [.int x1], (126, 120, L, [Y, T, HA, HB, RA, RB, ST, NS, I0, I1, I2, BO, FI, RG, GU, PU, (u2 MA 0 0 0), MN, MS_2, OT, SC], [r0, r1, r2, r3, w, r5, r6, r7, r8], Lg)) o from ev_call (fun v μ => (d + 3, 0, 0, 107, 9, [.val (.ref 1088)], v.toList ++ [], μ)) 5 ze2 e (fun n => Eq.refl _)
  have ze3 := Option.some.inj h
  subst ze3
  exact ev_rete 1 ho (fun n => Eq.refl _)
set_option maxRecDepth 1000000 in
set_option maxHeartbeats 4000000 in
theorem R_f_M_clashOf_2 (d : Nat) (Y T HA HB RA RB ST NS I0 I1 I2 BO FI RG GU PU MA MN MS OT SC : Nat → Nat → Int32) (r0 r1 r2 r3 w r5 r6 r7 r8 : Nat) (L : Nat) (Lg : Int64) (p1 : Int32) (p2 : Int32) {r : Int32} (h : f_M_clashOf MA p1 p2 (MS 1) = some r) : Ev (d + 2, 0, 0, 68, 0, [.val (.ref 1088), .val (.int p1), .val (.int p2), .val (.ref 1217), .val a_unk, .val a_unk], [], (126, 120, L, [Y, T, HA, HB, RA, RB, ST, NS, I0, I1, I2, BO, FI, RG, GU, PU, MA, MN, MS, OT, SC], [r0, r1, r2, r3, w, r5, r6, r7, r8], Lg)) ((0, some (.int r), (126, 120, L, [Y, T, HA, HB, RA, RB, ST, NS, I0, I1, I2, BO, FI, RG, GU, PU, MA, MN, MS, OT, SC], [r0, r1, r2, r3, w, r5, r6, r7, r8], Lg)) : AOut) := by
  suffices key : ∀ o : AOut, ((0, some (.int r), (126, 120, L, [Y, T, HA, HB, RA, RB, ST, NS, I0, I1, I2, BO, FI, RG, GU, PU, MA, MN, MS, OT, SC], [r0, r1, r2, r3, w, r5, r6, r7, r8], Lg)) : AOut) = o → Ev (d + 2, 0, 0, 68, 0, [.val (.ref 1088), .val (.int p1), .val (.int p2), .val (.ref 1217), .val a_unk, .val a_unk], [], (126, 120, L, [Y, T, HA, HB, RA, RB, ST, NS, I0, I1, I2, BO, FI, RG, GU, PU, MA, MN, MS, OT, SC], [r0, r1, r2, r3, w, r5, r6, r7, r8], Lg)) o from key _ rfl
  intro o ho
  obtain ⟨x1, zh1, h⟩ := bnd h
  have zh1 : f_M_ownClash MA p1 p2 = some x1 := zh1
  have ze2 := R_f_M_ownClash_0 (d + 0) Y T HA HB RA RB ST NS I0 I1 I2 BO FI RG GU PU MA MN MS OT SC r0 r1 r2 r3 w r5 r6 r7 r8 L Lg p1 p2 zh1
  suffices e : Ev (d + 2, 0, 0, 68, 6, [.val (.ref 1088), .val (.int p1), .val (.int p2), .val (.ref 1217), .val a_unk, .val a_unk], [.int x1], (126, 120, L, [Y, T, HA, HB, RA, RB, ST, NS, I0, I1, I2, BO, FI, RG, GU, PU, MA, MN, MS, OT, SC], [r0, r1, r2, r3, w, r5, r6, r7, r8], Lg)) o from ev_call (fun v μ => (d + 2, 0, 0, 68, 6, [.val (.ref 1088), .val (.int p1), .val (.int p2), .val (.ref 1217), .val a_unk, .val a_unk], v.toList ++ [], μ)) 4 ze2 e (fun n => Eq.refl _)
  obtain ⟨v6, zh4, h⟩ := bnd h
  suffices e : Ev (d + 2, 0, 0, 68, 11, [.val (.ref 1088), .val (.int p1), .val (.int p2), .val (.ref 1217), .val (.int x1), .val (.int 0)], [], (126, 120, L, [Y, T, HA, HB, RA, RB, ST, NS, I0, I1, I2, BO, FI, RG, GU, PU, MA, MN, MS, OT, SC], [r0, r1, r2, r3, w, r5, r6, r7, r8], Lg)) o from ev_b 3 e (fun n => Eq.refl _)
  refine ev_loop (δ := Unit) (fun a j => (d + 2, 0, 0, 68, 11, [.val (.ref 1088), .val (.int p1), .val (.int p2), .val (.ref 1217), .val (.int a.1), .val (.int a.2)], [], (126, 120, L, [Y, T, HA, HB, RA, RB, ST, NS, I0, I1, I2, BO, FI, RG, GU, PU, MA, MN, MS, OT, SC], [r0, r1, r2, r3, w, r5, r6, r7, r8], Lg))) (fun b => ∀ s7 : Value, Ev (d + 2, 0, 0, 68, 43, [.val (.ref 1088), .val (.int p1), .val (.int p2), .val (.ref 1217), .val (.int b), .val s7], [], (126, 120, L, [Y, T, HA, HB, RA, RB, ST, NS, I0, I1, I2, BO, FI, RG, GU, PU, MA, MN, MS, OT, SC], [r0, r1, r2, r3, w, r5, r6, r7, r8], Lg)) o) ?_ a_F (x1, 0) v6 zh4 ?_ ()
  · rintro ⟨v2, v3⟩ zr8 zh7 zi5 zx6 ⟨⟩
    have zh7 : f_M_clashOf_l11 MA (MS 1) p1 p2 v2 v3 = some zr8 := zh7
    by_cases zc9 : (MA 0 26) ≤ v3
    · have zh7 := itp zh7 zc9
      suffices e : Ev (d + 2, 0, 0, 68, 43, [.val (.ref 1088), .val (.int p1), .val (.int p2), .val (.ref 1217), .val (.int v2), .val (.int v3)], [], (126, 120, L, [Y, T, HA, HB, RA, RB, ST, NS, I0, I1, I2, BO, FI, RG, GU, PU, MA, MN, MS, OT, SC], [r0, r1, r2, r3, w, r5, r6, r7, r8], Lg)) o from ev_t (c := (MA 0 26) ≤ v3) _ _ 4 zc9 e (fun n => Eq.refl _)
      exact ev_b 0 (zx6 _ (Option.some.inj zh7).symm (.int v3)) (fun n => Eq.refl _)
    · have zh7 := itn zh7 zc9
      suffices e : Ev (d + 2, 0, 0, 68, 20, [.val (.ref 1088), .val (.int p1), .val (.int p2), .val (.ref 1217), .val (.int v2), .val (.int v3)], [], (126, 120, L, [Y, T, HA, HB, RA, RB, ST, NS, I0, I1, I2, BO, FI, RG, GU, PU, MA, MN, MS, OT, SC], [r0, r1, r2, r3, w, r5, r6, r7, r8], Lg)) o from ev_f (c := (MA 0 26) ≤ v3) _ _ 4 zc9 e (fun n => Eq.refl _)
      obtain ⟨x4, zh10, zh7⟩ := bnd zh7
      have zh10 : rdx (MS 1) 10 v3 = some x4 := zh10
      suffices e : Ev (d + 2, 0, 0, 68, 31, [.val (.ref 1088), .val (.int p1), .val (.int p2), .val (.ref 1217), .val (.int v2), .val (.int v3)], [.int x4, .int v3, .int p2, .int p1, .ref 1088, .int v2], (126, 120, L, [Y, T, HA, HB, RA, RB, ST, NS, I0, I1, I2, BO, FI, RG, GU, PU, MA, MN, MS, OT, SC], [r0, r1, r2, r3, w, r5, r6, r7, r8], Lg)) o from ev_opt (fun x4 => (d + 2, 0, 0, 68, 31, [.val (.ref 1088), .val (.int p1), .val (.int p2), .val (.ref 1217), .val (.int v2), .val (.int v3)], [.int x4, .int v3, .int p2, .int p1, .ref 1088, .int v2], (126, 120, L, [Y, T, HA, HB, RA, RB, ST, NS, I0, I1, I2, BO, FI, RG, GU, PU, MA, MN, MS, OT, SC], [r0, r1, r2, r3, w, r5, r6, r7, r8], Lg))) 8 zh10 e (fun n => Eq.refl _)
      obtain ⟨x5, zh11, zh7⟩ := bnd zh7
      have zh11 : f_M_clashWith MA p1 p2 v3 x4 = some x5 := zh11
      have ze12 := R_f_M_clashWith_0 (d + 1) Y T HA HB RA RB ST NS I0 I1 I2 BO FI RG GU PU MA MN MS OT SC r0 r1 r2 r3 w r5 r6 r7 r8 L Lg p1 p2 v3 x4 zh11
      suffices e : Ev (d + 2, 0, 0, 68, 34, [.val (.ref 1088), .val (.int p1), .val (.int p2), .val (.ref 1217), .val (.int v2), .val (.int v3)], [.int x5, .int v2], (126, 120, L, [Y, T, HA, HB, RA, RB, ST, NS, I0, I1, I2, BO, FI, RG, GU, PU, MA, MN, MS, OT, SC], [r0, r1, r2, r3, w, r5, r6, r7, r8], Lg)) o from ev_call (fun v μ => (d + 2, 0, 0, 68, 34, [.val (.ref 1088), .val (.int p1), .val (.int p2), .val (.ref 1217), .val (.int v2), .val (.int v3)], v.toList ++ [.int v2], μ)) 1 ze12 e (fun n => Eq.refl _)
      exact ev_b 4 (zi5 _ (Option.some.inj zh7).symm ()) (fun n => Eq.refl _)
  · skip
    intro s7
    have ze13 := Option.some.inj h
    subst ze13
    exact ev_rete 2 ho (fun n => Eq.refl _)
set_option maxRecDepth 1000000 in
set_option maxHeartbeats 4000000 in
theorem R_f_M_isLawful_1 (d : Nat) (Y T HA HB RA RB ST NS I0 I1 I2 BO FI RG GU PU MA MN MS OT SC : Nat → Nat → Int32) (r0 r1 r2 r3 w r5 r6 r7 r8 : Nat) (L : Nat) (Lg : Int64) {r : Int32} (h : f_M_isLawful MA (MS 1) = some r) : Ev (d + 3, 0, 0, 69, 0, [.val (.ref 1088), .val (.ref 1217), .val a_unk], [], (126, 120, L, [Y, T, HA, HB, RA, RB, ST, NS, I0, I1, I2, BO, FI, RG, GU, PU, MA, MN, MS, OT, SC], [r0, r1, r2, r3, w, r5, r6, r7, r8], Lg)) ((0, some (.int r), (126, 120, L, [Y, T, HA, HB, RA, RB, ST, NS, I0, I1, I2, BO, FI, RG, GU, PU, MA, MN, MS, OT, SC], [r0, r1, r2, r3, w, r5, r6, r7, r8], Lg)) : AOut) := by
  suffices key : ∀ o : AOut, ((0, some (.int r), (126, 120, L, [Y, T, HA, HB, RA, RB, ST, NS, I0, I1, I2, BO, FI, RG, GU, PU, MA, MN, MS, OT, SC], [r0, r1, r2, r3, w, r5, r6, r7, r8], Lg)) : AOut) = o → Ev (d + 3, 0, 0, 69, 0, [.val (.ref 1088), .val (.ref 1217), .val a_unk], [], (126, 120, L, [Y, T, HA, HB, RA, RB, ST, NS, I0, I1, I2, BO, FI, RG, GU, PU, MA, MN, MS, OT, SC], [r0, r1, r2, r3, w, r5, r6, r7, r8], Lg)) o from key _ rfl
  intro o ho
  obtain ⟨zb1, zh2, h⟩ := bnd h
  suffices e : Ev (d + 3, 0, 0, 69, 2, [.val (.ref 1088), .val (.ref 1217), .val (.int 0)], [], (126, 120, L, [Y, T, HA, HB, RA, RB, ST, NS, I0, I1, I2, BO, FI, RG, GU, PU, MA, MN, MS, OT, SC], [r0, r1, r2, r3, w, r5, r6, r7, r8], Lg)) o from ev_b 2 e (fun n => Eq.refl _)
  refine ev_loop (δ := Unit) (fun a j => (d + 3, 0, 0, 69, 2, [.val (.ref 1088), .val (.ref 1217), .val (.int a)], [], (126, 120, L, [Y, T, HA, HB, RA, RB, ST, NS, I0, I1, I2, BO, FI, RG, GU, PU, MA, MN, MS, OT, SC], [r0, r1, r2, r3, w, r5, r6, r7, r8], Lg))) (fun b => sumE b (fun b => ∀ s5 : Value, Ev (d + 3, 0, 0, 69, 37, [.val (.ref 1088), .val (.ref 1217), .val s5], [], (126, 120, L, [Y, T, HA, HB, RA, RB, ST, NS, I0, I1, I2, BO, FI, RG, GU, PU, MA, MN, MS, OT, SC], [r0, r1, r2, r3, w, r5, r6, r7, r8], Lg)) o) (fun b => ((0, some (.int b), (126, 120, L, [Y, T, HA, HB, RA, RB, ST, NS, I0, I1, I2, BO, FI, RG, GU, PU, MA, MN, MS, OT, SC], [r0, r1, r2, r3, w, r5, r6, r7, r8], Lg)) : AOut) = o)) ?_ a_F 0 zb1 zh2 ?_ ()
  · rintro v1 zr6 zh5 zi3 zx4 ⟨⟩
    have zh5 : f_M_isLawful_l2 MA (MS 1) v1 = some zr6 := zh5
    by_cases zc7 : (MA 0 26) ≤ v1
    · have zh5 := itp zh5 zc7
      suffices e : Ev (d + 3, 0, 0, 69, 37, [.val (.ref 1088), .val (.ref 1217), .val (.int v1)], [], (126, 120, L, [Y, T, HA, HB, RA, RB, ST, NS, I0, I1, I2, BO, FI, RG, GU, PU, MA, MN, MS, OT, SC], [r0, r1, r2, r3, w, r5, r6, r7, r8], Lg)) o from ev_t (c := (MA 0 26) ≤ v1) _ _ 4 zc7 e (fun n => Eq.refl _)
      exact ev_b 0 (zx4 _ (Option.some.inj zh5).symm (.int v1)) (fun n => Eq.refl _)
    · have zh5 := itn zh5 zc7
      suffices e : Ev (d + 3, 0, 0, 69, 10, [.val (.ref 1088), .val (.ref 1217), .val (.int v1)], [], (126, 120, L, [Y, T, HA, HB, RA, RB, ST, NS, I0, I1, I2, BO, FI, RG, GU, PU, MA, MN, MS, OT, SC], [r0, r1, r2, r3, w, r5, r6, r7, r8], Lg)) o from ev_f (c := (MA 0 26) ≤ v1) _ _ 4 zc7 e (fun n => Eq.refl _)
      obtain ⟨x2, zh8, zh5⟩ := bnd zh5
      have zh8 : rdx (MS 1) 10 v1 = some x2 := zh8
      suffices e : Ev (d + 3, 0, 0, 69, 13, [.val (.ref 1088), .val (.ref 1217), .val (.int v1)], [.int x2], (126, 120, L, [Y, T, HA, HB, RA, RB, ST, NS, I0, I1, I2, BO, FI, RG, GU, PU, MA, MN, MS, OT, SC], [r0, r1, r2, r3, w, r5, r6, r7, r8], Lg)) o from ev_opt (fun x2 => (d + 3, 0, 0, 69, 13, [.val (.ref 1088), .val (.ref 1217), .val (.int v1)], [.int x2], (126, 120, L, [Y, T, HA, HB, RA, RB, ST, NS, I0, I1, I2, BO, FI, RG, GU, PU, MA, MN, MS, OT, SC], [r0, r1, r2, r3, w, r5, r6, r7, r8], Lg))) 3 zh8 e (fun n => Eq.refl _)
      by_cases zc9 : x2 = (-1)
      · have zh5 := itp zh5 zc9
        suffices e : Ev (d + 3, 0, 0, 69, 31, [.val (.ref 1088), .val (.ref 1217), .val (.int v1)], [], (126, 120, L, [Y, T, HA, HB, RA, RB, ST, NS, I0, I1, I2, BO, FI, RG, GU, PU, MA, MN, MS, OT, SC], [r0, r1, r2, r3, w, r5, r6, r7, r8], Lg)) o from ev_t (c := x2 = (-1)) _ _ 2 zc9 e (fun n => Eq.refl _)
        exact ev_b 2 (zi3 _ (Option.some.inj zh5).symm ()) (fun n => Eq.refl _)
      · have zh5 := itn zh5 zc9
        suffices e : Ev (d + 3, 0, 0, 69, 17, [.val (.ref 1088), .val (.ref 1217), .val (.int v1)], [], (126, 120, L, [Y, T, HA, HB, RA, RB, ST, NS, I0, I1, I2, BO, FI, RG, GU, PU, MA, MN, MS, OT, SC], [r0, r1, r2, r3, w, r5, r6, r7, r8], Lg)) o from ev_f (c := x2 = (-1)) _ _ 2 zc9 e (fun n => Eq.refl _)
        obtain ⟨x3, zh10, zh5⟩ := bnd zh5
        have zh10 : rdx (MS 1) 10 v1 = some x3 := zh10
        suffices e : Ev (d + 3, 0, 0, 69, 22, [.val (.ref 1088), .val (.ref 1217), .val (.int v1)], [.int x3, .int v1, .ref 1088], (126, 120, L, [Y, T, HA, HB, RA, RB, ST, NS, I0, I1, I2, BO, FI, RG, GU, PU, MA, MN, MS, OT, SC], [r0, r1, r2, r3, w, r5, r6, r7, r8], Lg)) o from ev_opt (fun x3 => (d + 3, 0, 0, 69, 22, [.val (.ref 1088), .val (.ref 1217), .val (.int v1)], [.int x3, .int v1, .ref 1088], (126, 120, L, [Y, T, HA, HB, RA, RB, ST, NS, I0, I1, I2, BO, FI, RG, GU, PU, MA, MN, MS, OT, SC], [r0, r1, r2, r3, w, r5, r6, r7, r8], Lg))) 5 zh10 e (fun n => Eq.refl _)
        obtain ⟨x4, zh11, zh5⟩ := bnd zh5
        have zh11 : f_M_clashOf MA v1 x3 (MS 1) = some x4 := zh11
        have ze12 := R_f_M_clashOf_2 (d + 0) Y T HA HB RA RB ST NS I0 I1 I2 BO FI RG GU PU MA MN MS OT SC r0 r1 r2 r3 w r5 r6 r7 r8 L Lg v1 x3 zh11
        suffices e : Ev (d + 3, 0, 0, 69, 26, [.val (.ref 1088), .val (.ref 1217), .val (.int v1)], [.int x4], (126, 120, L, [Y, T, HA, HB, RA, RB, ST, NS, I0, I1, I2, BO, FI, RG, GU, PU, MA, MN, MS, OT, SC], [r0, r1, r2, r3, w, r5, r6, r7, r8], Lg)) o from ev_call (fun v μ => (d + 3, 0, 0, 69, 26, [.val (.ref 1088), .val (.ref 1217), .val (.int v1)], v.toList ++ [], μ)) 2 ze12 e (fun n => Eq.refl _)
        by_cases zc13 : x4 = 0
        · have zh5 := itp zh5 zc13
          suffices e : Ev (d + 3, 0, 0, 69, 31, [.val (.ref 1088), .val (.ref 1217), .val (.int v1)], [], (126, 120, L, [Y, T, HA, HB, RA, RB, ST, NS, I0, I1, I2, BO, FI, RG, GU, PU, MA, MN, MS, OT, SC], [r0, r1, r2, r3, w, r5, r6, r7, r8], Lg)) o from ev_t (c := x4 = 0) _ _ 1 zc13 e (fun n => Eq.refl _)
          exact ev_b 2 (zi3 _ (Option.some.inj zh5).symm ()) (fun n => Eq.refl _)
        · have zh5 := itn zh5 zc13
          suffices e : Ev (d + 3, 0, 0, 69, 29, [.val (.ref 1088), .val (.ref 1217), .val (.int v1)], [], (126, 120, L, [Y, T, HA, HB, RA, RB, ST, NS, I0, I1, I2, BO, FI, RG, GU, PU, MA, MN, MS, OT, SC], [r0, r1, r2, r3, w, r5, r6, r7, r8], Lg)) o from ev_f (c := x4 = 0) _ _ 1 zc13 e (fun n => Eq.refl _)
          exact ev_rete 2 (zx4 _ (Option.some.inj zh5).symm) (fun n => Eq.refl _)
  · rcases zb1 with ⟨⟩ | zr6
    · intro s5
      have ze14 := Option.some.inj h
      subst ze14
      exact ev_rete 2 ho (fun n => Eq.refl _)
    · have zh15 : some zr6 = some r := h
      exact (congrArg (fun q => ((0, some (.int q), (126, 120, L, [Y, T, HA, HB, RA, RB, ST, NS, I0, I1, I2, BO, FI, RG, GU, PU, MA, MN, MS, OT, SC], [r0, r1, r2, r3, w, r5, r6, r7, r8], Lg)) : AOut)) (Option.some.inj zh15)).trans ho
set_option maxRecDepth 1000000 in
set_option maxHeartbeats 4000000 in
theorem R_f_M_once_0 (d : Nat) (Y T HA HB RA RB ST NS I0 I1 I2 BO FI RG GU PU MA MN MS OT SC : Nat → Nat → Int32) (r0 r1 r2 r3 w r5 r6 r7 r8 : Nat) (L : Nat) (Lg : Int64) {r : Int32 × (Nat → Nat → Int32) × (Nat → Nat → Int32)} (h : f_M_once MA MS = some r) : Ev (d + 4, 0, 0, 108, 0, [.val (.ref 1088)], [], (126, 120, L, [Y, T, HA, HB, RA, RB, ST, NS, I0, I1, I2, BO, FI, RG, GU, PU, MA, MN, MS, OT, SC], [r0, r1, r2, r3, w, r5, r6, r7, r8], Lg)) ((0, some (.int r.1), (126, 120, L, [Y, T, HA, HB, RA, RB, ST, NS, I0, I1, I2, BO, FI, RG, GU, PU, r.2.1, MN, r.2.2, OT, SC], [r0, r1, r2, r3, w, r5, r6, r7, r8], Lg)) : AOut) := by
  suffices key : ∀ o : AOut, ((0, some (.int r.1), (126, 120, L, [Y, T, HA, HB, RA, RB, ST, NS, I0, I1, I2, BO, FI, RG, GU, PU, r.2.1, MN, r.2.2, OT, SC], [r0, r1, r2, r3, w, r5, r6, r7, r8], Lg)) : AOut) = o → Ev (d + 4, 0, 0, 108, 0, [.val (.ref 1088)], [], (126, 120, L, [Y, T, HA, HB, RA, RB, ST, NS, I0, I1, I2, BO, FI, RG, GU, PU, MA, MN, MS, OT, SC], [r0, r1, r2, r3, w, r5, r6, r7, r8], Lg)) o from key _ rfl
  intro o ho
  obtain ⟨MS_1, zh1, h⟩ := bnd h
  have zh1 : f_M_findGoals (u2 MA 0 0 0) MS = some MS_1 := zh1
  have ze2 := R_f_M_findGoals_0 (d + 2) Y T HA HB RA RB ST NS I0 I1 I2 BO FI RG GU PU (u2 MA 0 0 0) MN MS OT SC r0 r1 r2 r3 w r5 r6 r7 r8 L Lg zh1
  suffices e : Ev (d + 4, 0, 0, 108, 9, [.val (.ref 1088)], [], (126, 120, L, [Y, T, HA, HB, RA, RB, ST, NS, I0, I1, I2, BO, FI, RG, GU, PU, (u2 MA 0 0 0), MN, MS_1, OT, SC], [r0, r1, r2, r3, w, r5, r6, r7, r8], Lg)) o from ev_call (fun v μ => (d + 4, 0, 0, 108, 9, [.val (.ref 1088)], v.toList ++ [], μ)) 5 ze2 e (fun n => Eq.refl _)
  obtain ⟨x2, zh3, h⟩ := bnd h
  have zh3 : f_M_isLawful (u2 MA 0 0 0) (MS_1 1) = some x2 := zh3
  have ze4 := R_f_M_isLawful_1 (d + 0) Y T HA HB RA RB ST NS I0 I1 I2 BO FI RG GU PU (u2 MA 0 0 0) MN MS_1 OT SC r0 r1 r2 r3 w r5 r6 r7 r8 L Lg zh3
  suffices e : Ev (d + 4, 0, 0, 108, 17, [.val (.ref 1088)], [.int x2], (126, 120, L, [Y, T, HA, HB, RA, RB, ST, NS, I0, I1, I2, BO, FI, RG, GU, PU, (u2 MA 0 0 0), MN, MS_1, OT, SC], [r0, r1, r2, r3, w, r5, r6, r7, r8], Lg)) o from ev_call (fun v μ => (d + 4, 0, 0, 108, 17, [.val (.ref 1088)], v.toList ++ [], μ)) 4 ze4 e (fun n => Eq.refl _)
  have ze5 := Option.some.inj h
  subst ze5
  exact ev_rete 1 ho (fun n => Eq.refl _)
set_option maxRecDepth 1000000 in
set_option maxHeartbeats 4000000 in
theorem R_f_M_goneBy_0 (d : Nat) (Y T HA HB RA RB ST NS I0 I1 I2 BO FI RG GU PU MA MN MS OT SC : Nat → Nat → Int32) (r0 r1 r2 r3 w r5 r6 r7 r8 : Nat) (L : Nat) (Lg : Int64) (p1 : Int32) {r : (Nat → Nat → Int32)} (h : f_M_goneBy MA MS p1 = some r) : Ev (d + 0, 0, 0, 109, 0, [.val (.ref 1088), .val (.int p1), .val a_unk], [], (126, 120, L, [Y, T, HA, HB, RA, RB, ST, NS, I0, I1, I2, BO, FI, RG, GU, PU, MA, MN, MS, OT, SC], [r0, r1, r2, r3, w, r5, r6, r7, r8], Lg)) ((0, none, (126, 120, L, [Y, T, HA, HB, RA, RB, ST, NS, I0, I1, I2, BO, FI, RG, GU, PU, MA, MN, r, OT, SC], [r0, r1, r2, r3, w, r5, r6, r7, r8], Lg)) : AOut) := by
  suffices key : ∀ o : AOut, ((0, none, (126, 120, L, [Y, T, HA, HB, RA, RB, ST, NS, I0, I1, I2, BO, FI, RG, GU, PU, MA, MN, r, OT, SC], [r0, r1, r2, r3, w, r5, r6, r7, r8], Lg)) : AOut) = o → Ev (d + 0, 0, 0, 109, 0, [.val (.ref 1088), .val (.int p1), .val a_unk], [], (126, 120, L, [Y, T, HA, HB, RA, RB, ST, NS, I0, I1, I2, BO, FI, RG, GU, PU, MA, MN, MS, OT, SC], [r0, r1, r2, r3, w, r5, r6, r7, r8], Lg)) o from key _ rfl
  intro o ho
  obtain ⟨MS_8, zh2, h⟩ := bnd h
  suffices e : Ev (d + 0, 0, 0, 109, 2, [.val (.ref 1088), .val (.int p1), .val (.int 0)], [], (126, 120, L, [Y, T, HA, HB, RA, RB, ST, NS, I0, I1, I2, BO, FI, RG, GU, PU, MA, MN, MS, OT, SC], [r0, r1, r2, r3, w, r5, r6, r7, r8], Lg)) o from ev_b 2 e (fun n => Eq.refl _)
  refine ev_loop (δ := Unit) (fun a j => (d + 0, 0, 0, 109, 2, [.val (.ref 1088), .val (.int p1), .val (.int a.1)], [], (126, 120, L, [Y, T, HA, HB, RA, RB, ST, NS, I0, I1, I2, BO, FI, RG, GU, PU, MA, MN, a.2, OT, SC], [r0, r1, r2, r3, w, r5, r6, r7, r8], Lg))) (fun b => ∀ s7 : Value, Ev (d + 0, 0, 0, 109, 44, [.val (.ref 1088), .val (.int p1), .val s7], [], (126, 120, L, [Y, T, HA, HB, RA, RB, ST, NS, I0, I1, I2, BO, FI, RG, GU, PU, MA, MN, b, OT, SC], [r0, r1, r2, r3, w, r5, r6, r7, r8], Lg)) o) ?_ a_F (0, MS) MS_8 zh2 ?_ ()
  · rintro ⟨v1, MS_2⟩ zr6 zh5 zi3 zx4 ⟨⟩
    have zh5 : f_M_goneBy_l2 MA p1 v1 MS_2 = some zr6 := zh5
    by_cases zc7 : 10 ≤ v1
    · have zh5 := itp zh5 zc7
      suffices e : Ev (d + 0, 0, 0, 109, 44, [.val (.ref 1088), .val (.int p1), .val (.int v1)], [], (126, 120, L, [Y, T, HA, HB, RA, RB, ST, NS, I0, I1, I2, BO, FI, RG, GU, PU, MA, MN, MS_2, OT, SC], [r0, r1, r2, r3, w, r5, r6, r7, r8], Lg)) o from ev_t (c := 10 ≤ v1) _ _ 3 zc7 e (fun n => Eq.refl _)
      exact ev_b 0 (zx4 _ (Option.some.inj zh5).symm (.int v1)) (fun n => Eq.refl _)
    · have zh5 := itn zh5 zc7
      suffices e : Ev (d + 0, 0, 0, 109, 8, [.val (.ref 1088), .val (.int p1), .val (.int v1)], [], (126, 120, L, [Y, T, HA, HB, RA, RB, ST, NS, I0, I1, I2, BO, FI, RG, GU, PU, MA, MN, MS_2, OT, SC], [r0, r1, r2, r3, w, r5, r6, r7, r8], Lg)) o from ev_f (c := 10 ≤ v1) _ _ 3 zc7 e (fun n => Eq.refl _)
      obtain ⟨zt8, zh9, zh5⟩ := bnd zh5
      have zj10 : ∀ (v5 : Int32), v5 = zt8 → Ev (d + 0, 0, 0, 109, 37, [.val (.ref 1088), .val (.int p1), .val (.int v1)], [.int v5, .int v1, .ref 1220], (126, 120, L, [Y, T, HA, HB, RA, RB, ST, NS, I0, I1, I2, BO, FI, RG, GU, PU, MA, MN, MS_2, OT, SC], [r0, r1, r2, r3, w, r5, r6, r7, r8], Lg)) o := by
        intro v5 ze11
        subst ze11
        obtain ⟨j6, zh12, zh5⟩ := bnd zh5
        have zh12 : ixx 10 v1 = some j6 := zh12
        suffices e : Ev (d + 0, 0, 0, 109, 38, [.val (.ref 1088), .val (.int p1), .val (.int v1)], [], (126, 120, L, [Y, T, HA, HB, RA, RB, ST, NS, I0, I1, I2, BO, FI, RG, GU, PU, MA, MN, (u2 MS_2 4 j6 v5), OT, SC], [r0, r1, r2, r3, w, r5, r6, r7, r8], Lg)) o from ev_opt (fun j6 => (d + 0, 0, 0, 109, 38, [.val (.ref 1088), .val (.int p1), .val (.int v1)], [], (126, 120, L, [Y, T, HA, HB, RA, RB, ST, NS, I0, I1, I2, BO, FI, RG, GU, PU, MA, MN, (u2 MS_2 4 j6 v5), OT, SC], [r0, r1, r2, r3, w, r5, r6, r7, r8], Lg))) 1 zh12 e (fun n => Eq.refl _)
        exact ev_b 2 (zi3 _ (Option.some.inj zh5).symm ()) (fun n => Eq.refl _)
      by_cases zc13 : ((a_shr p1 v1) &&& 1) ≠ 1
      · have zh9 := itp zh9 zc13
        suffices e : Ev (d + 0, 0, 0, 109, 31, [.val (.ref 1088), .val (.int p1), .val (.int v1)], [.int v1, .ref 1220], (126, 120, L, [Y, T, HA, HB, RA, RB, ST, NS, I0, I1, I2, BO, FI, RG, GU, PU, MA, MN, MS_2, OT, SC], [r0, r1, r2, r3, w, r5, r6, r7, r8], Lg)) o from ev_t (c := ((a_shr p1 v1) &&& 1) ≠ 1) _ _ 10 zc13 e (fun n => Eq.refl _)
        obtain ⟨x3, zh14, zh9⟩ := bnd zh9
        have zh14 : rdx (MA 7) 10 v1 = some x3 := zh14
        suffices e : Ev (d + 0, 0, 0, 109, 37, [.val (.ref 1088), .val (.int p1), .val (.int v1)], [.int x3, .int v1, .ref 1220], (126, 120, L, [Y, T, HA, HB, RA, RB, ST, NS, I0, I1, I2, BO, FI, RG, GU, PU, MA, MN, MS_2, OT, SC], [r0, r1, r2, r3, w, r5, r6, r7, r8], Lg)) o from ev_opt (fun x3 => (d + 0, 0, 0, 109, 37, [.val (.ref 1088), .val (.int p1), .val (.int v1)], [.int x3, .int v1, .ref 1220], (126, 120, L, [Y, T, HA, HB, RA, RB, ST, NS, I0, I1, I2, BO, FI, RG, GU, PU, MA, MN, MS_2, OT, SC], [r0, r1, r2, r3, w, r5, r6, r7, r8], Lg))) 4 zh14 e (fun n => Eq.refl _)
        exact ev_b 0 (zj10 x3 (Option.some.inj zh9) ) (fun n => Eq.refl _)
      · have zh9 := itn zh9 zc13
        suffices e : Ev (d + 0, 0, 0, 109, 22, [.val (.ref 1088), .val (.int p1), .val (.int v1)], [.int v1, .ref 1220], (126, 120, L, [Y, T, HA, HB, RA, RB, ST, NS, I0, I1, I2, BO, FI, RG, GU, PU, MA, MN, MS_2, OT, SC], [r0, r1, r2, r3, w, r5, r6, r7, r8], Lg)) o from ev_f (c := ((a_shr p1 v1) &&& 1) ≠ 1) _ _ 10 zc13 e (fun n => Eq.refl _)
        obtain ⟨x4, zh15, zh9⟩ := bnd zh9
        have zh15 : rdx (MS_2 1) 10 v1 = some x4 := zh15
        suffices e : Ev (d + 0, 0, 0, 109, 28, [.val (.ref 1088), .val (.int p1), .val (.int v1)], [.int x4, .int v1, .ref 1220], (126, 120, L, [Y, T, HA, HB, RA, RB, ST, NS, I0, I1, I2, BO, FI, RG, GU, PU, MA, MN, MS_2, OT, SC], [r0, r1, r2, r3, w, r5, r6, r7, r8], Lg)) o from ev_opt (fun x4 => (d + 0, 0, 0, 109, 28, [.val (.ref 1088), .val (.int p1), .val (.int v1)], [.int x4, .int v1, .ref 1220], (126, 120, L, [Y, T, HA, HB, RA, RB, ST, NS, I0, I1, I2, BO, FI, RG, GU, PU, MA, MN, MS_2, OT, SC], [r0, r1, r2, r3, w, r5, r6, r7, r8], Lg))) 4 zh15 e (fun n => Eq.refl _)
        exact ev_b 1 (zj10 x4 (Option.some.inj zh9) ) (fun n => Eq.refl _)
  · skip
    intro s7
    have ze16 := Option.some.inj h
    subst ze16
    exact ev_rete 1 ho (fun n => Eq.refl _)
set_option maxRecDepth 1000000 in
set_option maxHeartbeats 4000000 in
theorem R_f_M_canGo_0 (d : Nat) (Y T HA HB RA RB ST NS I0 I1 I2 BO FI RG GU PU MA MN MS OT SC : Nat → Nat → Int32) (r0 r1 r2 r3 w r5 r6 r7 r8 : Nat) (L : Nat) (Lg : Int64) (p1 : Int32) (p2 : Int32) (p3 : Int32) {r : Int32 × (Nat → Nat → Int32)} (h : f_M_canGo MA MS p1 p2 p3 = some r) : Ev (d + 4, 0, 0, 111, 0, [.val (.ref 1088), .val (.int p1), .val (.int p2), .val (.int p3)], [], (126, 120, L, [Y, T, HA, HB, RA, RB, ST, NS, I0, I1, I2, BO, FI, RG, GU, PU, MA, MN, MS, OT, SC], [r0, r1, r2, r3, w, r5, r6, r7, r8], Lg)) ((0, some (.int r.1), (126, 120, L, [Y, T, HA, HB, RA, RB, ST, NS, I0, I1, I2, BO, FI, RG, GU, PU, MA, MN, r.2, OT, SC], [r0, r1, r2, r3, w, r5, r6, r7, r8], Lg)) : AOut) := by
  suffices key : ∀ o : AOut, ((0, some (.int r.1), (126, 120, L, [Y, T, HA, HB, RA, RB, ST, NS, I0, I1, I2, BO, FI, RG, GU, PU, MA, MN, r.2, OT, SC], [r0, r1, r2, r3, w, r5, r6, r7, r8], Lg)) : AOut) = o → Ev (d + 4, 0, 0, 111, 0, [.val (.ref 1088), .val (.int p1), .val (.int p2), .val (.int p3)], [], (126, 120, L, [Y, T, HA, HB, RA, RB, ST, NS, I0, I1, I2, BO, FI, RG, GU, PU, MA, MN, MS, OT, SC], [r0, r1, r2, r3, w, r5, r6, r7, r8], Lg)) o from key _ rfl
  intro o ho
  by_cases zc1 : ((a_shr p3 p1) &&& 1) = 0
  · have h := itp h zc1
    suffices e : Ev (d + 4, 0, 0, 111, 25, [.val (.ref 1088), .val (.int p1), .val (.int p2), .val (.int p3)], [], (126, 120, L, [Y, T, HA, HB, RA, RB, ST, NS, I0, I1, I2, BO, FI, RG, GU, PU, MA, MN, MS, OT, SC], [r0, r1, r2, r3, w, r5, r6, r7, r8], Lg)) o from ev_t (c := ((a_shr p3 p1) &&& 1) = 0) _ _ 6 zc1 e (fun n => Eq.refl _)
    have ze2 := Option.some.inj h
    subst ze2
    exact ev_rete 2 ho (fun n => Eq.refl _)
  · have h := itn h zc1
    suffices e : Ev (d + 4, 0, 0, 111, 8, [.val (.ref 1088), .val (.int p1), .val (.int p2), .val (.int p3)], [], (126, 120, L, [Y, T, HA, HB, RA, RB, ST, NS, I0, I1, I2, BO, FI, RG, GU, PU, MA, MN, MS, OT, SC], [r0, r1, r2, r3, w, r5, r6, r7, r8], Lg)) o from ev_f (c := ((a_shr p3 p1) &&& 1) = 0) _ _ 6 zc1 e (fun n => Eq.refl _)
    by_cases zc3 : ((a_shr p2 p1) &&& 1) = 1
    · have h := itp h zc3
      suffices e : Ev (d + 4, 0, 0, 111, 25, [.val (.ref 1088), .val (.int p1), .val (.int p2), .val (.int p3)], [], (126, 120, L, [Y, T, HA, HB, RA, RB, ST, NS, I0, I1, I2, BO, FI, RG, GU, PU, MA, MN, MS, OT, SC], [r0, r1, r2, r3, w, r5, r6, r7, r8], Lg)) o from ev_t (c := ((a_shr p2 p1) &&& 1) = 1) _ _ 7 zc3 e (fun n => Eq.refl _)
      have ze4 := Option.some.inj h
      subst ze4
      exact ev_rete 2 ho (fun n => Eq.refl _)
    · have h := itn h zc3
      suffices e : Ev (d + 4, 0, 0, 111, 17, [.val (.ref 1088), .val (.int p1), .val (.int p2), .val (.int p3)], [], (126, 120, L, [Y, T, HA, HB, RA, RB, ST, NS, I0, I1, I2, BO, FI, RG, GU, PU, MA, MN, MS, OT, SC], [r0, r1, r2, r3, w, r5, r6, r7, r8], Lg)) o from ev_f (c := ((a_shr p2 p1) &&& 1) = 1) _ _ 7 zc3 e (fun n => Eq.refl _)
      obtain ⟨x1, zh5, h⟩ := bnd h
      have zh5 : f_M_isFixed MA p1 = some x1 := zh5
      have ze6 := R_f_M_isFixed_0 (d + 3) Y T HA HB RA RB ST NS I0 I1 I2 BO FI RG GU PU MA MN MS OT SC r0 r1 r2 r3 w r5 r6 r7 r8 L Lg p1 zh5
      suffices e : Ev (d + 4, 0, 0, 111, 22, [.val (.ref 1088), .val (.int p1), .val (.int p2), .val (.int p3)], [.int x1], (126, 120, L, [Y, T, HA, HB, RA, RB, ST, NS, I0, I1, I2, BO, FI, RG, GU, PU, MA, MN, MS, OT, SC], [r0, r1, r2, r3, w, r5, r6, r7, r8], Lg)) o from ev_call (fun v μ => (d + 4, 0, 0, 111, 22, [.val (.ref 1088), .val (.int p1), .val (.int p2), .val (.int p3)], v.toList ++ [], μ)) 3 ze6 e (fun n => Eq.refl _)
      by_cases zc7 : x1 = 0
      · have h := itp h zc7
        suffices e : Ev (d + 4, 0, 0, 111, 27, [.val (.ref 1088), .val (.int p1), .val (.int p2), .val (.int p3)], [], (126, 120, L, [Y, T, HA, HB, RA, RB, ST, NS, I0, I1, I2, BO, FI, RG, GU, PU, MA, MN, MS, OT, SC], [r0, r1, r2, r3, w, r5, r6, r7, r8], Lg)) o from ev_t (c := x1 = 0) _ _ 1 zc7 e (fun n => Eq.refl _)
        obtain ⟨MS_2, zh8, h⟩ := bnd h
        have zh8 : f_M_goneBy MA MS (p2 ||| (a_shl 1 p1)) = some MS_2 := zh8
        have ze9 := R_f_M_goneBy_0 (d + 3) Y T HA HB RA RB ST NS I0 I1 I2 BO FI RG GU PU MA MN MS OT SC r0 r1 r2 r3 w r5 r6 r7 r8 L Lg (p2 ||| (a_shl 1 p1)) zh8
        suffices e : Ev (d + 4, 0, 0, 111, 36, [.val (.ref 1088), .val (.int p1), .val (.int p2), .val (.int p3)], [], (126, 120, L, [Y, T, HA, HB, RA, RB, ST, NS, I0, I1, I2, BO, FI, RG, GU, PU, MA, MN, MS_2, OT, SC], [r0, r1, r2, r3, w, r5, r6, r7, r8], Lg)) o from ev_call (fun v μ => (d + 4, 0, 0, 111, 36, [.val (.ref 1088), .val (.int p1), .val (.int p2), .val (.int p3)], v.toList ++ [], μ)) 7 ze9 e (fun n => Eq.refl _)
        obtain ⟨x3, zh10, h⟩ := bnd h
        have zh10 : f_M_isLawful MA (MS_2 4) = some x3 := zh10
        have ze11 := R_f_M_isLawful_0 (d + 0) Y T HA HB RA RB ST NS I0 I1 I2 BO FI RG GU PU MA MN MS_2 OT SC r0 r1 r2 r3 w r5 r6 r7 r8 L Lg zh10
        suffices e : Ev (d + 4, 0, 0, 111, 44, [.val (.ref 1088), .val (.int p1), .val (.int p2), .val (.int p3)], [.int x3], (126, 120, L, [Y, T, HA, HB, RA, RB, ST, NS, I0, I1, I2, BO, FI, RG, GU, PU, MA, MN, MS_2, OT, SC], [r0, r1, r2, r3, w, r5, r6, r7, r8], Lg)) o from ev_call (fun v μ => (d + 4, 0, 0, 111, 44, [.val (.ref 1088), .val (.int p1), .val (.int p2), .val (.int p3)], v.toList ++ [], μ)) 4 ze11 e (fun n => Eq.refl _)
        have ze12 := Option.some.inj h
        subst ze12
        exact ev_rete 1 ho (fun n => Eq.refl _)
      · have h := itn h zc7
        suffices e : Ev (d + 4, 0, 0, 111, 25, [.val (.ref 1088), .val (.int p1), .val (.int p2), .val (.int p3)], [], (126, 120, L, [Y, T, HA, HB, RA, RB, ST, NS, I0, I1, I2, BO, FI, RG, GU, PU, MA, MN, MS, OT, SC], [r0, r1, r2, r3, w, r5, r6, r7, r8], Lg)) o from ev_f (c := x1 = 0) _ _ 1 zc7 e (fun n => Eq.refl _)
        have ze13 := Option.some.inj h
        subst ze13
        exact ev_rete 2 ho (fun n => Eq.refl _)
set_option maxRecDepth 1000000 in
set_option maxHeartbeats 4000000 in
theorem R_f_M_begin_0 (d : Nat) (Y T HA HB RA RB ST NS I0 I1 I2 BO FI RG GU PU MA MN MS OT SC : Nat → Nat → Int32) (r0 r1 r2 r3 w r5 r6 r7 r8 : Nat) (L : Nat) (Lg : Int64) {r : Int32 × (Nat → Nat → Int32) × (Nat → Nat → Int32)} (h : f_M_begin MA MS = some r) : Ev (d + 5, 0, 0, 113, 0, [.val (.ref 1088), .val a_unk, .val a_unk, .val a_unk], [], (126, 120, L, [Y, T, HA, HB, RA, RB, ST, NS, I0, I1, I2, BO, FI, RG, GU, PU, MA, MN, MS, OT, SC], [r0, r1, r2, r3, w, r5, r6, r7, r8], Lg)) ((0, some (.int r.1), (126, 120, L, [Y, T, HA, HB, RA, RB, ST, NS, I0, I1, I2, BO, FI, RG, GU, PU, r.2.1, MN, r.2.2, OT, SC], [r0, r1, r2, r3, w, r5, r6, r7, r8], Lg)) : AOut) := by
  suffices key : ∀ o : AOut, ((0, some (.int r.1), (126, 120, L, [Y, T, HA, HB, RA, RB, ST, NS, I0, I1, I2, BO, FI, RG, GU, PU, r.2.1, MN, r.2.2, OT, SC], [r0, r1, r2, r3, w, r5, r6, r7, r8], Lg)) : AOut) = o → Ev (d + 5, 0, 0, 113, 0, [.val (.ref 1088), .val a_unk, .val a_unk, .val a_unk], [], (126, 120, L, [Y, T, HA, HB, RA, RB, ST, NS, I0, I1, I2, BO, FI, RG, GU, PU, MA, MN, MS, OT, SC], [r0, r1, r2, r3, w, r5, r6, r7, r8], Lg)) o from key _ rfl
  intro o ho
  obtain ⟨⟨x1, MS_2⟩, zh1, h⟩ := bnd h
  have zh1 : f_M_apartNow (u2 MA 0 0 0) MS = some (x1, MS_2) := zh1
  have ze2 := R_f_M_apartNow_0 (d + 2) Y T HA HB RA RB ST NS I0 I1 I2 BO FI RG GU PU (u2 MA 0 0 0) MN MS OT SC r0 r1 r2 r3 w r5 r6 r7 r8 L Lg zh1
  suffices e : Ev (d + 5, 0, 0, 113, 9, [.val (.ref 1088), .val a_unk, .val a_unk, .val a_unk], [.int x1], (126, 120, L, [Y, T, HA, HB, RA, RB, ST, NS, I0, I1, I2, BO, FI, RG, GU, PU, (u2 MA 0 0 0), MN, MS_2, OT, SC], [r0, r1, r2, r3, w, r5, r6, r7, r8], Lg)) o from ev_call (fun v μ => (d + 5, 0, 0, 113, 9, [.val (.ref 1088), .val a_unk, .val a_unk, .val a_unk], v.toList ++ [], μ)) 5 ze2 e (fun n => Eq.refl _)
  obtain ⟨zb3, zh4, h⟩ := bnd h
  suffices e : Ev (d + 5, 0, 0, 113, 14, [.val (.ref 1088), .val (.int x1), .val (.int 0), .val (.int 0)], [], (126, 120, L, [Y, T, HA, HB, RA, RB, ST, NS, I0, I1, I2, BO, FI, RG, GU, PU, (u2 MA 0 0 0), MN, MS_2, OT, SC], [r0, r1, r2, r3, w, r5, r6, r7, r8], Lg)) o from ev_b 5 e (fun n => Eq.refl _)
  refine ev_loop (δ := Unit) (fun a j => (d + 5, 0, 0, 113, 14, [.val (.ref 1088), .val (.int x1), .val (.int a.1), .val (.int a.2.1)], [], (126, 120, L, [Y, T, HA, HB, RA, RB, ST, NS, I0, I1, I2, BO, FI, RG, GU, PU, (u2 MA 0 0 0), MN, a.2.2, OT, SC], [r0, r1, r2, r3, w, r5, r6, r7, r8], Lg))) (fun b => ∀ s10 : Value, Ev (d + 5, 0, 0, 113, 48, [.val (.ref 1088), .val (.int x1), .val (.int b.1), .val s10], [], (126, 120, L, [Y, T, HA, HB, RA, RB, ST, NS, I0, I1, I2, BO, FI, RG, GU, PU, (u2 MA 0 0 0), MN, b.2, OT, SC], [r0, r1, r2, r3, w, r5, r6, r7, r8], Lg)) o) ?_ a_F (0, 0, MS_2) zb3 zh4 ?_ ()
  · rintro ⟨v3, v4, MS_5⟩ zr8 zh7 zi5 zx6 ⟨⟩
    have zh7 : f_M_begin_l14 MA x1 v3 v4 MS_5 = some zr8 := zh7
    by_cases zc9 : ((u2 MA 0 0 0) 0 26) ≤ v4
    · have zh7 := itp zh7 zc9
      suffices e : Ev (d + 5, 0, 0, 113, 48, [.val (.ref 1088), .val (.int x1), .val (.int v3), .val (.int v4)], [], (126, 120, L, [Y, T, HA, HB, RA, RB, ST, NS, I0, I1, I2, BO, FI, RG, GU, PU, (u2 MA 0 0 0), MN, MS_5, OT, SC], [r0, r1, r2, r3, w, r5, r6, r7, r8], Lg)) o from ev_t (c := ((u2 MA 0 0 0) 0 26) ≤ v4) _ _ 4 zc9 e (fun n => Eq.refl _)
      exact ev_b 0 (zx6 _ (Option.some.inj zh7).symm (.int v4)) (fun n => Eq.refl _)
    · have zh7 := itn zh7 zc9
      suffices e : Ev (d + 5, 0, 0, 113, 22, [.val (.ref 1088), .val (.int x1), .val (.int v3), .val (.int v4)], [], (126, 120, L, [Y, T, HA, HB, RA, RB, ST, NS, I0, I1, I2, BO, FI, RG, GU, PU, (u2 MA 0 0 0), MN, MS_5, OT, SC], [r0, r1, r2, r3, w, r5, r6, r7, r8], Lg)) o from ev_f (c := ((u2 MA 0 0 0) 0 26) ≤ v4) _ _ 4 zc9 e (fun n => Eq.refl _)
      obtain ⟨⟨x6, MS_7⟩, zh10, zh7⟩ := bnd zh7
      have zh10 : f_M_canGo (u2 MA 0 0 0) MS_5 v4 0 x1 = some (x6, MS_7) := zh10
      have ze11 := R_f_M_canGo_0 (d + 0) Y T HA HB RA RB ST NS I0 I1 I2 BO FI RG GU PU (u2 MA 0 0 0) MN MS_5 OT SC r0 r1 r2 r3 w r5 r6 r7 r8 L Lg v4 0 x1 zh10
      suffices e : Ev (d + 5, 0, 0, 113, 30, [.val (.ref 1088), .val (.int x1), .val (.int v3), .val (.int v4)], [.int x6, .int v3], (126, 120, L, [Y, T, HA, HB, RA, RB, ST, NS, I0, I1, I2, BO, FI, RG, GU, PU, (u2 MA 0 0 0), MN, MS_7, OT, SC], [r0, r1, r2, r3, w, r5, r6, r7, r8], Lg)) o from ev_call (fun v μ => (d + 5, 0, 0, 113, 30, [.val (.ref 1088), .val (.int x1), .val (.int v3), .val (.int v4)], v.toList ++ [.int v3], μ)) 6 ze11 e (fun n => Eq.refl _)
      obtain ⟨zt12, zh13, zh7⟩ := bnd zh7
      have zj14 : ∀ (v8 : Int32), v8 = zt12 → Ev (d + 5, 0, 0, 113, 40, [.val (.ref 1088), .val (.int x1), .val (.int v3), .val (.int v4)], [.int v8, .int v3], (126, 120, L, [Y, T, HA, HB, RA, RB, ST, NS, I0, I1, I2, BO, FI, RG, GU, PU, (u2 MA 0 0 0), MN, MS_7, OT, SC], [r0, r1, r2, r3, w, r5, r6, r7, r8], Lg)) o := by
        intro v8 ze15
        subst ze15
        exact ev_b 4 (zi5 _ (Option.some.inj zh7).symm ()) (fun n => Eq.refl _)
      by_cases zc16 : x6 = 0
      · have zh13 := itp zh13 zc16
        suffices e : Ev (d + 5, 0, 0, 113, 39, [.val (.ref 1088), .val (.int x1), .val (.int v3), .val (.int v4)], [.int v3], (126, 120, L, [Y, T, HA, HB, RA, RB, ST, NS, I0, I1, I2, BO, FI, RG, GU, PU, (u2 MA 0 0 0), MN, MS_7, OT, SC], [r0, r1, r2, r3, w, r5, r6, r7, r8], Lg)) o from ev_t (c := x6 = 0) _ _ 1 zc16 e (fun n => Eq.refl _)
        exact ev_b 1 (zj14 0 (Option.some.inj zh13) ) (fun n => Eq.refl _)
      · have zh13 := itn zh13 zc16
        suffices e : Ev (d + 5, 0, 0, 113, 33, [.val (.ref 1088), .val (.int x1), .val (.int v3), .val (.int v4)], [.int v3], (126, 120, L, [Y, T, HA, HB, RA, RB, ST, NS, I0, I1, I2, BO, FI, RG, GU, PU, (u2 MA 0 0 0), MN, MS_7, OT, SC], [r0, r1, r2, r3, w, r5, r6, r7, r8], Lg)) o from ev_f (c := x6 = 0) _ _ 1 zc16 e (fun n => Eq.refl _)
        exact ev_b 4 (zj14 (a_shl 1 v4) (Option.some.inj zh13) ) (fun n => Eq.refl _)
  · obtain ⟨v9, MS_11⟩ := zb3
    intro s10
    have ze17 := Option.some.inj h
    subst ze17
    exact ev_rete 2 ho (fun n => Eq.refl _)
set_option maxRecDepth 1000000 in
set_option maxHeartbeats 4000000 in
theorem R_f_M_waits_0 (d : Nat) (Y T HA HB RA RB ST NS I0 I1 I2 BO FI RG GU PU MA MN MS OT SC : Nat → Nat → Int32) (r0 r1 r2 r3 w r5 r6 r7 r8 : Nat) (L : Nat) (Lg : Int64) (p1 : Int32) {r : Int32 × (Nat → Nat → Int32) × (Nat → Nat → Int32)} (h : f_M_waits MA MS p1 = some r) : Ev (d + 3, 0, 0, 114, 0, [.val (.ref 1088), .val (.int p1), .val a_unk, .val a_unk, .val a_unk], [], (126, 120, L, [Y, T, HA, HB, RA, RB, ST, NS, I0, I1, I2, BO, FI, RG, GU, PU, MA, MN, MS, OT, SC], [r0, r1, r2, r3, w, r5, r6, r7, r8], Lg)) ((0, some (.int r.1), (126, 120, L, [Y, T, HA, HB, RA, RB, ST, NS, I0, I1, I2, BO, FI, RG, GU, PU, r.2.1, MN, r.2.2, OT, SC], [r0, r1, r2, r3, w, r5, r6, r7, r8], Lg)) : AOut) := by
  suffices key : ∀ o : AOut, ((0, some (.int r.1), (126, 120, L, [Y, T, HA, HB, RA, RB, ST, NS, I0, I1, I2, BO, FI, RG, GU, PU, r.2.1, MN, r.2.2, OT, SC], [r0, r1, r2, r3, w, r5, r6, r7, r8], Lg)) : AOut) = o → Ev (d + 3, 0, 0, 114, 0, [.val (.ref 1088), .val (.int p1), .val a_unk, .val a_unk, .val a_unk], [], (126, 120, L, [Y, T, HA, HB, RA, RB, ST, NS, I0, I1, I2, BO, FI, RG, GU, PU, MA, MN, MS, OT, SC], [r0, r1, r2, r3, w, r5, r6, r7, r8], Lg)) o from key _ rfl
  intro o ho
  obtain ⟨⟨x1, MA_2⟩, zh1, h⟩ := bnd h
  have zh1 : f_M_isMeeting (u2 MA 0 0 0) p1 1 = some (x1, MA_2) := zh1
  have ze2 := R_f_M_isMeeting_0 (d + 1) Y T HA HB RA RB ST NS I0 I1 I2 BO FI RG GU PU (u2 MA 0 0 0) MN MS OT SC r0 r1 r2 r3 w r5 r6 r7 r8 L Lg p1 1 zh1
  suffices e : Ev (d + 3, 0, 0, 114, 11, [.val (.ref 1088), .val (.int p1), .val a_unk, .val a_unk, .val a_unk], [.int x1], (126, 120, L, [Y, T, HA, HB, RA, RB, ST, NS, I0, I1, I2, BO, FI, RG, GU, PU, MA_2, MN, MS, OT, SC], [r0, r1, r2, r3, w, r5, r6, r7, r8], Lg)) o from ev_call (fun v μ => (d + 3, 0, 0, 114, 11, [.val (.ref 1088), .val (.int p1), .val a_unk, .val a_unk, .val a_unk], v.toList ++ [], μ)) 7 ze2 e (fun n => Eq.refl _)
  by_cases zc3 : x1 ≠ 0
  · have h := itp h zc3
    suffices e : Ev (d + 3, 0, 0, 114, 16, [.val (.ref 1088), .val (.int p1), .val a_unk, .val a_unk, .val a_unk], [], (126, 120, L, [Y, T, HA, HB, RA, RB, ST, NS, I0, I1, I2, BO, FI, RG, GU, PU, MA_2, MN, MS, OT, SC], [r0, r1, r2, r3, w, r5, r6, r7, r8], Lg)) o from ev_t (c := x1 ≠ 0) _ _ 1 zc3 e (fun n => Eq.refl _)
    obtain ⟨⟨x3, MS_4⟩, zh4, h⟩ := bnd h
    have zh4 : f_M_apartNow MA_2 MS = some (x3, MS_4) := zh4
    have ze5 := R_f_M_apartNow_0 (d + 0) Y T HA HB RA RB ST NS I0 I1 I2 BO FI RG GU PU MA_2 MN MS OT SC r0 r1 r2 r3 w r5 r6 r7 r8 L Lg zh4
    suffices e : Ev (d + 3, 0, 0, 114, 20, [.val (.ref 1088), .val (.int p1), .val a_unk, .val a_unk, .val a_unk], [.int x3], (126, 120, L, [Y, T, HA, HB, RA, RB, ST, NS, I0, I1, I2, BO, FI, RG, GU, PU, MA_2, MN, MS_4, OT, SC], [r0, r1, r2, r3, w, r5, r6, r7, r8], Lg)) o from ev_call (fun v μ => (d + 3, 0, 0, 114, 20, [.val (.ref 1088), .val (.int p1), .val a_unk, .val a_unk, .val a_unk], v.toList ++ [], μ)) 2 ze5 e (fun n => Eq.refl _)
    by_cases zc6 : ((a_shr x3 p1) &&& 1) ≠ 0
    · have h := itp h zc6
      suffices e : Ev (d + 3, 0, 0, 114, 31, [.val (.ref 1088), .val (.int p1), .val (.int x3), .val a_unk, .val a_unk], [], (126, 120, L, [Y, T, HA, HB, RA, RB, ST, NS, I0, I1, I2, BO, FI, RG, GU, PU, MA_2, MN, MS_4, OT, SC], [r0, r1, r2, r3, w, r5, r6, r7, r8], Lg)) o from ev_t (c := ((a_shr x3 p1) &&& 1) ≠ 0) _ _ 7 zc6 e (fun n => Eq.refl _)
      obtain ⟨v11, zh8, h⟩ := bnd h
      suffices e : Ev (d + 3, 0, 0, 114, 36, [.val (.ref 1088), .val (.int p1), .val (.int x3), .val (.int 0), .val (.int 0)], [], (126, 120, L, [Y, T, HA, HB, RA, RB, ST, NS, I0, I1, I2, BO, FI, RG, GU, PU, MA_2, MN, MS_4, OT, SC], [r0, r1, r2, r3, w, r5, r6, r7, r8], Lg)) o from ev_b 4 e (fun n => Eq.refl _)
      refine ev_loop (δ := Unit) (fun a j => (d + 3, 0, 0, 114, 36, [.val (.ref 1088), .val (.int p1), .val (.int x3), .val (.int a.1), .val (.int a.2)], [], (126, 120, L, [Y, T, HA, HB, RA, RB, ST, NS, I0, I1, I2, BO, FI, RG, GU, PU, MA_2, MN, MS_4, OT, SC], [r0, r1, r2, r3, w, r5, r6, r7, r8], Lg))) (fun b => ∀ s12 : Value, Ev (d + 3, 0, 0, 114, 95, [.val (.ref 1088), .val (.int p1), .val (.int x3), .val (.int b), .val s12], [], (126, 120, L, [Y, T, HA, HB, RA, RB, ST, NS, I0, I1, I2, BO, FI, RG, GU, PU, MA_2, MN, MS_4, OT, SC], [r0, r1, r2, r3, w, r5, r6, r7, r8], Lg)) o) ?_ a_F (0, 0) v11 zh8 ?_ ()
      · rintro ⟨v5, v6⟩ zr12 zh11 zi9 zx10 ⟨⟩
        have zh11 : f_M_waits_l36 MA_2 x3 MS_4 p1 v5 v6 = some zr12 := zh11
        by_cases zc13 : (MA_2 0 26) ≤ v6
        · have zh11 := itp zh11 zc13
          suffices e : Ev (d + 3, 0, 0, 114, 95, [.val (.ref 1088), .val (.int p1), .val (.int x3), .val (.int v5), .val (.int v6)], [], (126, 120, L, [Y, T, HA, HB, RA, RB, ST, NS, I0, I1, I2, BO, FI, RG, GU, PU, MA_2, MN, MS_4, OT, SC], [r0, r1, r2, r3, w, r5, r6, r7, r8], Lg)) o from ev_t (c := (MA_2 0 26) ≤ v6) _ _ 4 zc13 e (fun n => Eq.refl _)
          exact ev_b 0 (zx10 _ (Option.some.inj zh11).symm (.int v6)) (fun n => Eq.refl _)
        · have zh11 := itn zh11 zc13
          suffices e : Ev (d + 3, 0, 0, 114, 45, [.val (.ref 1088), .val (.int p1), .val (.int x3), .val (.int v5), .val (.int v6)], [], (126, 120, L, [Y, T, HA, HB, RA, RB, ST, NS, I0, I1, I2, BO, FI, RG, GU, PU, MA_2, MN, MS_4, OT, SC], [r0, r1, r2, r3, w, r5, r6, r7, r8], Lg)) o from ev_f (c := (MA_2 0 26) ≤ v6) _ _ 4 zc13 e (fun n => Eq.refl _)
          obtain ⟨zt14, zh15, zh11⟩ := bnd zh11
          have zj16 : ∀ (v10 : Int32), v10 = zt14 → Ev (d + 3, 0, 0, 114, 87, [.val (.ref 1088), .val (.int p1), .val (.int x3), .val (.int v5), .val (.int v6)], [.int v10, .int v5], (126, 120, L, [Y, T, HA, HB, RA, RB, ST, NS, I0, I1, I2, BO, FI, RG, GU, PU, MA_2, MN, MS_4, OT, SC], [r0, r1, r2, r3, w, r5, r6, r7, r8], Lg)) o := by
            intro v10 ze17
            subst ze17
            exact ev_b 4 (zi9 _ (Option.some.inj zh11).symm ()) (fun n => Eq.refl _)
          obtain ⟨zt18, zh19, zh15⟩ := bnd zh15
          have zj20 : zt18 = .inl () → Ev (d + 3, 0, 0, 114, 86, [.val (.ref 1088), .val (.int p1), .val (.int x3), .val (.int v5), .val (.int v6)], [.int v5], (126, 120, L, [Y, T, HA, HB, RA, RB, ST, NS, I0, I1, I2, BO, FI, RG, GU, PU, MA_2, MN, MS_4, OT, SC], [r0, r1, r2, r3, w, r5, r6, r7, r8], Lg)) o := by
            intro ze21
            have zh15 := sum_l zh15 ze21
            exact ev_b 1 (zj16 0 (Option.some.inj zh15) ) (fun n => Eq.refl _)
          by_cases zc22 : ((a_shr x3 v6) &&& 1) ≠ 1
          · have zh19 := itp zh19 zc22
            suffices e : Ev (d + 3, 0, 0, 114, 86, [.val (.ref 1088), .val (.int p1), .val (.int x3), .val (.int v5), .val (.int v6)], [.int v5], (126, 120, L, [Y, T, HA, HB, RA, RB, ST, NS, I0, I1, I2, BO, FI, RG, GU, PU, MA_2, MN, MS_4, OT, SC], [r0, r1, r2, r3, w, r5, r6, r7, r8], Lg)) o from ev_t (c := ((a_shr x3 v6) &&& 1) ≠ 1) _ _ 8 zc22 e (fun n => Eq.refl _)
            exact ev_b 0 (zj20  (Option.some.inj zh19).symm ) (fun n => Eq.refl _)
          · have zh19 := itn zh19 zc22
            suffices e : Ev (d + 3, 0, 0, 114, 56, [.val (.ref 1088), .val (.int p1), .val (.int x3), .val (.int v5), .val (.int v6)], [.int v5], (126, 120, L, [Y, T, HA, HB, RA, RB, ST, NS, I0, I1, I2, BO, FI, RG, GU, PU, MA_2, MN, MS_4, OT, SC], [r0, r1, r2, r3, w, r5, r6, r7, r8], Lg)) o from ev_f (c := ((a_shr x3 v6) &&& 1) ≠ 1) _ _ 8 zc22 e (fun n => Eq.refl _)
            obtain ⟨x7, zh23, zh19⟩ := bnd zh19
            have zh23 : rdx (MS_4 1) 10 p1 = some x7 := zh23
            suffices e : Ev (d + 3, 0, 0, 114, 64, [.val (.ref 1088), .val (.int p1), .val (.int x3), .val (.int v5), .val (.int v6)], [.int x7, .int p1, .ref 1088, .int v5], (126, 120, L, [Y, T, HA, HB, RA, RB, ST, NS, I0, I1, I2, BO, FI, RG, GU, PU, MA_2, MN, MS_4, OT, SC], [r0, r1, r2, r3, w, r5, r6, r7, r8], Lg)) o from ev_opt (fun x7 => (d + 3, 0, 0, 114, 64, [.val (.ref 1088), .val (.int p1), .val (.int x3), .val (.int v5), .val (.int v6)], [.int x7, .int p1, .ref 1088, .int v5], (126, 120, L, [Y, T, HA, HB, RA, RB, ST, NS, I0, I1, I2, BO, FI, RG, GU, PU, MA_2, MN, MS_4, OT, SC], [r0, r1, r2, r3, w, r5, r6, r7, r8], Lg))) 6 zh23 e (fun n => Eq.refl _)
            obtain ⟨x8, zh24, zh19⟩ := bnd zh19
            have zh24 : rdx (MA_2 7) 10 v6 = some x8 := zh24
            suffices e : Ev (d + 3, 0, 0, 114, 73, [.val (.ref 1088), .val (.int p1), .val (.int x3), .val (.int v5), .val (.int v6)], [.int x8, .int v6, .int x7, .int p1, .ref 1088, .int v5], (126, 120, L, [Y, T, HA, HB, RA, RB, ST, NS, I0, I1, I2, BO, FI, RG, GU, PU, MA_2, MN, MS_4, OT, SC], [r0, r1, r2, r3, w, r5, r6, r7, r8], Lg)) o from ev_opt (fun x8 => (d + 3, 0, 0, 114, 73, [.val (.ref 1088), .val (.int p1), .val (.int x3), .val (.int v5), .val (.int v6)], [.int x8, .int v6, .int x7, .int p1, .ref 1088, .int v5], (126, 120, L, [Y, T, HA, HB, RA, RB, ST, NS, I0, I1, I2, BO, FI, RG, GU, PU, MA_2, MN, MS_4, OT, SC], [r0, r1, r2, r3, w, r5, r6, r7, r8], Lg))) 5 zh24 e (fun n => Eq.refl _)
            obtain ⟨x9, zh25, zh19⟩ := bnd zh19
            have zh25 : f_M_clashWith MA_2 p1 x7 v6 x8 = some x9 := zh25
            have ze26 := R_f_M_clashWith_0 (d + 2) Y T HA HB RA RB ST NS I0 I1 I2 BO FI RG GU PU MA_2 MN MS_4 OT SC r0 r1 r2 r3 w r5 r6 r7 r8 L Lg p1 x7 v6 x8 zh25
            suffices e : Ev (d + 3, 0, 0, 114, 76, [.val (.ref 1088), .val (.int p1), .val (.int x3), .val (.int v5), .val (.int v6)], [.int x9, .int v5], (126, 120, L, [Y, T, HA, HB, RA, RB, ST, NS, I0, I1, I2, BO, FI, RG, GU, PU, MA_2, MN, MS_4, OT, SC], [r0, r1, r2, r3, w, r5, r6, r7, r8], Lg)) o from ev_call (fun v μ => (d + 3, 0, 0, 114, 76, [.val (.ref 1088), .val (.int p1), .val (.int x3), .val (.int v5), .val (.int v6)], v.toList ++ [.int v5], μ)) 1 ze26 e (fun n => Eq.refl _)
            by_cases zc27 : x9 = 0
            · have zh19 := itp zh19 zc27
              suffices e : Ev (d + 3, 0, 0, 114, 86, [.val (.ref 1088), .val (.int p1), .val (.int x3), .val (.int v5), .val (.int v6)], [.int v5], (126, 120, L, [Y, T, HA, HB, RA, RB, ST, NS, I0, I1, I2, BO, FI, RG, GU, PU, MA_2, MN, MS_4, OT, SC], [r0, r1, r2, r3, w, r5, r6, r7, r8], Lg)) o from ev_t (c := x9 = 0) _ _ 1 zc27 e (fun n => Eq.refl _)
              exact ev_b 0 (zj20  (Option.some.inj zh19).symm ) (fun n => Eq.refl _)
            · have zh19 := itn zh19 zc27
              suffices e : Ev (d + 3, 0, 0, 114, 79, [.val (.ref 1088), .val (.int p1), .val (.int x3), .val (.int v5), .val (.int v6)], [.int v5], (126, 120, L, [Y, T, HA, HB, RA, RB, ST, NS, I0, I1, I2, BO, FI, RG, GU, PU, MA_2, MN, MS_4, OT, SC], [r0, r1, r2, r3, w, r5, r6, r7, r8], Lg)) o from ev_f (c := x9 = 0) _ _ 1 zc27 e (fun n => Eq.refl _)
              have zh28 := sum_r zh15 (Option.some.inj zh19).symm
              exact ev_b 4 (zj16 (a_shl 1 v6) (Option.some.inj zh28) ) (fun n => Eq.refl _)
      · skip
        intro s12
        have ze29 := Option.some.inj h
        subst ze29
        exact ev_rete 2 ho (fun n => Eq.refl _)
    · have h := itn h zc6
      suffices e : Ev (d + 3, 0, 0, 114, 29, [.val (.ref 1088), .val (.int p1), .val (.int x3), .val a_unk, .val a_unk], [], (126, 120, L, [Y, T, HA, HB, RA, RB, ST, NS, I0, I1, I2, BO, FI, RG, GU, PU, MA_2, MN, MS_4, OT, SC], [r0, r1, r2, r3, w, r5, r6, r7, r8], Lg)) o from ev_f (c := ((a_shr x3 p1) &&& 1) ≠ 0) _ _ 7 zc6 e (fun n => Eq.refl _)
      have ze30 := Option.some.inj h
      subst ze30
      exact ev_rete 2 ho (fun n => Eq.refl _)
  · have h := itn h zc3
    suffices e : Ev (d + 3, 0, 0, 114, 14, [.val (.ref 1088), .val (.int p1), .val a_unk, .val a_unk, .val a_unk], [], (126, 120, L, [Y, T, HA, HB, RA, RB, ST, NS, I0, I1, I2, BO, FI, RG, GU, PU, MA_2, MN, MS, OT, SC], [r0, r1, r2, r3, w, r5, r6, r7, r8], Lg)) o from ev_f (c := x1 ≠ 0) _ _ 1 zc3 e (fun n => Eq.refl _)
    have ze31 := Option.some.inj h
    subst ze31
    exact ev_rete 2 ho (fun n => Eq.refl _)
