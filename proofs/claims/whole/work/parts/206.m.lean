/-! printed by program (gen/emitm.py): the reference's methods run as their functions say -/
set_option maxRecDepth 1000000 in
set_option maxHeartbeats 4000000 in
theorem R_f_M_isPlace_0 (d : Nat) (Y T HA HB RA RB ST NS I0 I1 I2 BO FI RG GU PU MA MN MS OT SC : Nat → Nat → Int32) (r0 r1 r2 r3 w r5 r6 r7 r8 : Nat) (L : Nat) (Lg : Int64) (p1 : Int32) (p2 : Int32) (p3 : Int32) {r : Int32 × (Nat → Nat → Int32)} (h : f_M_isPlace MA p1 p2 p3 = some r) : Ev (d + 2, 0, 0, 76, 0, [.val (.ref 1088), .val (.int p1), .val (.int p2), .val (.int p3)], [], (126, 120, L, [Y, T, HA, HB, RA, RB, ST, NS, I0, I1, I2, BO, FI, RG, GU, PU, MA, MN, MS, OT, SC], [r0, r1, r2, r3, w, r5, r6, r7, r8], Lg)) ((0, some (.int r.1), (126, 120, L, [Y, T, HA, HB, RA, RB, ST, NS, I0, I1, I2, BO, FI, RG, GU, PU, r.2, MN, MS, OT, SC], [r0, r1, r2, r3, w, r5, r6, r7, r8], Lg)) : AOut) := by
  suffices key : ∀ o : AOut, ((0, some (.int r.1), (126, 120, L, [Y, T, HA, HB, RA, RB, ST, NS, I0, I1, I2, BO, FI, RG, GU, PU, r.2, MN, MS, OT, SC], [r0, r1, r2, r3, w, r5, r6, r7, r8], Lg)) : AOut) = o → Ev (d + 2, 0, 0, 76, 0, [.val (.ref 1088), .val (.int p1), .val (.int p2), .val (.int p3)], [], (126, 120, L, [Y, T, HA, HB, RA, RB, ST, NS, I0, I1, I2, BO, FI, RG, GU, PU, MA, MN, MS, OT, SC], [r0, r1, r2, r3, w, r5, r6, r7, r8], Lg)) o from key _ rfl
  intro o ho
  obtain ⟨⟨x1, MA_2⟩, zh1, h⟩ := bnd h
  have zh1 : f_M_isMeeting MA p1 1 = some (x1, MA_2) := zh1
  have ze2 := R_f_M_isMeeting_0 (d + 0) Y T HA HB RA RB ST NS I0 I1 I2 BO FI RG GU PU MA MN MS OT SC r0 r1 r2 r3 w r5 r6 r7 r8 L Lg p1 1 zh1
  suffices e : Ev (d + 2, 0, 0, 76, 6, [.val (.ref 1088), .val (.int p1), .val (.int p2), .val (.int p3)], [.int x1], (126, 120, L, [Y, T, HA, HB, RA, RB, ST, NS, I0, I1, I2, BO, FI, RG, GU, PU, MA_2, MN, MS, OT, SC], [r0, r1, r2, r3, w, r5, r6, r7, r8], Lg)) o from ev_call (fun v μ => (d + 2, 0, 0, 76, 6, [.val (.ref 1088), .val (.int p1), .val (.int p2), .val (.int p3)], v.toList ++ [], μ)) 4 ze2 e (fun n => Eq.refl _)
  by_cases zc3 : x1 = 0
  · have h := itp h zc3
    suffices e : Ev (d + 2, 0, 0, 76, 42, [.val (.ref 1088), .val (.int p1), .val (.int p2), .val (.int p3)], [], (126, 120, L, [Y, T, HA, HB, RA, RB, ST, NS, I0, I1, I2, BO, FI, RG, GU, PU, MA_2, MN, MS, OT, SC], [r0, r1, r2, r3, w, r5, r6, r7, r8], Lg)) o from ev_t (c := x1 = 0) _ _ 1  zc3 e (fun n => Eq.refl _)
    have ze4 := Option.some.inj h
    subst ze4
    exact ev_rete 2 ho (fun n => Eq.refl _)
  · have h := itn h zc3
    suffices e : Ev (d + 2, 0, 0, 76, 9, [.val (.ref 1088), .val (.int p1), .val (.int p2), .val (.int p3)], [], (126, 120, L, [Y, T, HA, HB, RA, RB, ST, NS, I0, I1, I2, BO, FI, RG, GU, PU, MA_2, MN, MS, OT, SC], [r0, r1, r2, r3, w, r5, r6, r7, r8], Lg)) o from ev_f (c := x1 = 0) _ _ 1  zc3 e (fun n => Eq.refl _)
    obtain ⟨⟨x3, MA_4⟩, zh5, h⟩ := bnd h
    have zh5 : f_M_isRoom MA_2 p3 1 = some (x3, MA_4) := zh5
    have ze6 := R_f_M_isRoom_0 (d + 0) Y T HA HB RA RB ST NS I0 I1 I2 BO FI RG GU PU MA_2 MN MS OT SC r0 r1 r2 r3 w r5 r6 r7 r8 L Lg p3 1 zh5
    suffices e : Ev (d + 2, 0, 0, 76, 15, [.val (.ref 1088), .val (.int p1), .val (.int p2), .val (.int p3)], [.int x3], (126, 120, L, [Y, T, HA, HB, RA, RB, ST, NS, I0, I1, I2, BO, FI, RG, GU, PU, MA_4, MN, MS, OT, SC], [r0, r1, r2, r3, w, r5, r6, r7, r8], Lg)) o from ev_call (fun v μ => (d + 2, 0, 0, 76, 15, [.val (.ref 1088), .val (.int p1), .val (.int p2), .val (.int p3)], v.toList ++ [], μ)) 4 ze6 e (fun n => Eq.refl _)
    by_cases zc7 : x3 = 0
    · have h := itp h zc7
      suffices e : Ev (d + 2, 0, 0, 76, 42, [.val (.ref 1088), .val (.int p1), .val (.int p2), .val (.int p3)], [], (126, 120, L, [Y, T, HA, HB, RA, RB, ST, NS, I0, I1, I2, BO, FI, RG, GU, PU, MA_4, MN, MS, OT, SC], [r0, r1, r2, r3, w, r5, r6, r7, r8], Lg)) o from ev_t (c := x3 = 0) _ _ 1  zc7 e (fun n => Eq.refl _)
      have ze8 := Option.some.inj h
      subst ze8
      exact ev_rete 2 ho (fun n => Eq.refl _)
    · have h := itn h zc7
      suffices e : Ev (d + 2, 0, 0, 76, 18, [.val (.ref 1088), .val (.int p1), .val (.int p2), .val (.int p3)], [], (126, 120, L, [Y, T, HA, HB, RA, RB, ST, NS, I0, I1, I2, BO, FI, RG, GU, PU, MA_4, MN, MS, OT, SC], [r0, r1, r2, r3, w, r5, r6, r7, r8], Lg)) o from ev_f (c := x3 = 0) _ _ 1  zc7 e (fun n => Eq.refl _)
      obtain ⟨x5, zh9, h⟩ := bnd h
      have zh9 : f_M_within p2 0 ((MA_4 0 23) - 1) = some x5 := zh9
      have ze10 := R_f_M_within_0 (d + 1) Y T HA HB RA RB ST NS I0 I1 I2 BO FI RG GU PU MA_4 MN MS OT SC r0 r1 r2 r3 w r5 r6 r7 r8 L Lg p2 0 ((MA_4 0 23) - 1) zh9
      suffices e : Ev (d + 2, 0, 0, 76, 30, [.val (.ref 1088), .val (.int p1), .val (.int p2), .val (.int p3)], [.int x5, .ref 1088], (126, 120, L, [Y, T, HA, HB, RA, RB, ST, NS, I0, I1, I2, BO, FI, RG, GU, PU, MA_4, MN, MS, OT, SC], [r0, r1, r2, r3, w, r5, r6, r7, r8], Lg)) o from ev_call (fun v μ => (d + 2, 0, 0, 76, 30, [.val (.ref 1088), .val (.int p1), .val (.int p2), .val (.int p3)], v.toList ++ [.ref 1088], μ)) 8 ze10 e (fun n => Eq.refl _)
      obtain ⟨⟨x6, MA_7⟩, zh11, h⟩ := bnd h
      have zh11 : f_M_may MA_4 x5 2 1 = some (x6, MA_7) := zh11
      have ze12 := R_f_M_may_0 (d + 1) Y T HA HB RA RB ST NS I0 I1 I2 BO FI RG GU PU MA_4 MN MS OT SC r0 r1 r2 r3 w r5 r6 r7 r8 L Lg x5 2 1 zh11
      suffices e : Ev (d + 2, 0, 0, 76, 35, [.val (.ref 1088), .val (.int p1), .val (.int p2), .val (.int p3)], [.int x6], (126, 120, L, [Y, T, HA, HB, RA, RB, ST, NS, I0, I1, I2, BO, FI, RG, GU, PU, MA_7, MN, MS, OT, SC], [r0, r1, r2, r3, w, r5, r6, r7, r8], Lg)) o from ev_call (fun v μ => (d + 2, 0, 0, 76, 35, [.val (.ref 1088), .val (.int p1), .val (.int p2), .val (.int p3)], v.toList ++ [], μ)) 3 ze12 e (fun n => Eq.refl _)
      by_cases zc13 : x6 = 0
      · have h := itp h zc13
        suffices e : Ev (d + 2, 0, 0, 76, 42, [.val (.ref 1088), .val (.int p1), .val (.int p2), .val (.int p3)], [], (126, 120, L, [Y, T, HA, HB, RA, RB, ST, NS, I0, I1, I2, BO, FI, RG, GU, PU, MA_7, MN, MS, OT, SC], [r0, r1, r2, r3, w, r5, r6, r7, r8], Lg)) o from ev_t (c := x6 = 0) _ _ 1  zc13 e (fun n => Eq.refl _)
        have ze14 := Option.some.inj h
        subst ze14
        exact ev_rete 2 ho (fun n => Eq.refl _)
      · have h := itn h zc13
        suffices e : Ev (d + 2, 0, 0, 76, 38, [.val (.ref 1088), .val (.int p1), .val (.int p2), .val (.int p3)], [], (126, 120, L, [Y, T, HA, HB, RA, RB, ST, NS, I0, I1, I2, BO, FI, RG, GU, PU, MA_7, MN, MS, OT, SC], [r0, r1, r2, r3, w, r5, r6, r7, r8], Lg)) o from ev_f (c := x6 = 0) _ _ 1  zc13 e (fun n => Eq.refl _)
        have ze15 := Option.some.inj h
        subst ze15
        exact ev_rete 3 ho (fun n => Eq.refl _)
set_option maxRecDepth 1000000 in
set_option maxHeartbeats 4000000 in
theorem R_f_M_clashOf_0 (d : Nat) (Y T HA HB RA RB ST NS I0 I1 I2 BO FI RG GU PU MA MN MS OT SC : Nat → Nat → Int32) (r0 r1 r2 r3 w r5 r6 r7 r8 : Nat) (L : Nat) (Lg : Int64) (p1 : Int32) (p2 : Int32) {r : Int32} (h : f_M_clashOf MA p1 p2 (MA 7) = some r) : Ev (d + 2, 0, 0, 68, 0, [.val (.ref 1088), .val (.int p1), .val (.int p2), .val (.ref 1095), .val a_unk, .val a_unk], [], (126, 120, L, [Y, T, HA, HB, RA, RB, ST, NS, I0, I1, I2, BO, FI, RG, GU, PU, MA, MN, MS, OT, SC], [r0, r1, r2, r3, w, r5, r6, r7, r8], Lg)) ((0, some (.int r), (126, 120, L, [Y, T, HA, HB, RA, RB, ST, NS, I0, I1, I2, BO, FI, RG, GU, PU, MA, MN, MS, OT, SC], [r0, r1, r2, r3, w, r5, r6, r7, r8], Lg)) : AOut) := by
  suffices key : ∀ o : AOut, ((0, some (.int r), (126, 120, L, [Y, T, HA, HB, RA, RB, ST, NS, I0, I1, I2, BO, FI, RG, GU, PU, MA, MN, MS, OT, SC], [r0, r1, r2, r3, w, r5, r6, r7, r8], Lg)) : AOut) = o → Ev (d + 2, 0, 0, 68, 0, [.val (.ref 1088), .val (.int p1), .val (.int p2), .val (.ref 1095), .val a_unk, .val a_unk], [], (126, 120, L, [Y, T, HA, HB, RA, RB, ST, NS, I0, I1, I2, BO, FI, RG, GU, PU, MA, MN, MS, OT, SC], [r0, r1, r2, r3, w, r5, r6, r7, r8], Lg)) o from key _ rfl
  intro o ho
  obtain ⟨x1, zh1, h⟩ := bnd h
  have zh1 : f_M_ownClash MA p1 p2 = some x1 := zh1
  have ze2 := R_f_M_ownClash_0 (d + 0) Y T HA HB RA RB ST NS I0 I1 I2 BO FI RG GU PU MA MN MS OT SC r0 r1 r2 r3 w r5 r6 r7 r8 L Lg p1 p2 zh1
  suffices e : Ev (d + 2, 0, 0, 68, 6, [.val (.ref 1088), .val (.int p1), .val (.int p2), .val (.ref 1095), .val a_unk, .val a_unk], [.int x1], (126, 120, L, [Y, T, HA, HB, RA, RB, ST, NS, I0, I1, I2, BO, FI, RG, GU, PU, MA, MN, MS, OT, SC], [r0, r1, r2, r3, w, r5, r6, r7, r8], Lg)) o from ev_call (fun v μ => (d + 2, 0, 0, 68, 6, [.val (.ref 1088), .val (.int p1), .val (.int p2), .val (.ref 1095), .val a_unk, .val a_unk], v.toList ++ [], μ)) 4 ze2 e (fun n => Eq.refl _)
  obtain ⟨v6, zh4, h⟩ := bnd h
  suffices e : Ev (d + 2, 0, 0, 68, 11, [.val (.ref 1088), .val (.int p1), .val (.int p2), .val (.ref 1095), .val (.int x1), .val (.int 0)], [], (126, 120, L, [Y, T, HA, HB, RA, RB, ST, NS, I0, I1, I2, BO, FI, RG, GU, PU, MA, MN, MS, OT, SC], [r0, r1, r2, r3, w, r5, r6, r7, r8], Lg)) o from ev_b 3 e (fun n => Eq.refl _)
  refine ev_loop (δ := Unit) (fun a j => (d + 2, 0, 0, 68, 11, [.val (.ref 1088), .val (.int p1), .val (.int p2), .val (.ref 1095), .val (.int a.1), .val (.int a.2)], [], (126, 120, L, [Y, T, HA, HB, RA, RB, ST, NS, I0, I1, I2, BO, FI, RG, GU, PU, MA, MN, MS, OT, SC], [r0, r1, r2, r3, w, r5, r6, r7, r8], Lg))) (fun b => ∀ s7 : Value, Ev (d + 2, 0, 0, 68, 43, [.val (.ref 1088), .val (.int p1), .val (.int p2), .val (.ref 1095), .val (.int b), .val s7], [], (126, 120, L, [Y, T, HA, HB, RA, RB, ST, NS, I0, I1, I2, BO, FI, RG, GU, PU, MA, MN, MS, OT, SC], [r0, r1, r2, r3, w, r5, r6, r7, r8], Lg)) o) ?_ a_F (x1, 0) v6 zh4 ?_ ()
  · rintro ⟨v2, v3⟩ zr8 zh7 zi5 zx6 ⟨⟩
    have zh7 : f_M_clashOf_l11 MA (MA 7) p1 p2 v2 v3 = some zr8 := zh7
    by_cases zc9 : (MA 0 26) ≤ v3
    · have zh7 := itp zh7 zc9
      suffices e : Ev (d + 2, 0, 0, 68, 43, [.val (.ref 1088), .val (.int p1), .val (.int p2), .val (.ref 1095), .val (.int v2), .val (.int v3)], [], (126, 120, L, [Y, T, HA, HB, RA, RB, ST, NS, I0, I1, I2, BO, FI, RG, GU, PU, MA, MN, MS, OT, SC], [r0, r1, r2, r3, w, r5, r6, r7, r8], Lg)) o from ev_t (c := (MA 0 26) ≤ v3) _ _ 4  zc9 e (fun n => Eq.refl _)
      exact ev_b 0 (zx6 _ (Option.some.inj zh7).symm (.int v3)) (fun n => Eq.refl _)
    · have zh7 := itn zh7 zc9
      suffices e : Ev (d + 2, 0, 0, 68, 20, [.val (.ref 1088), .val (.int p1), .val (.int p2), .val (.ref 1095), .val (.int v2), .val (.int v3)], [], (126, 120, L, [Y, T, HA, HB, RA, RB, ST, NS, I0, I1, I2, BO, FI, RG, GU, PU, MA, MN, MS, OT, SC], [r0, r1, r2, r3, w, r5, r6, r7, r8], Lg)) o from ev_f (c := (MA 0 26) ≤ v3) _ _ 4  zc9 e (fun n => Eq.refl _)
      obtain ⟨x4, zh10, zh7⟩ := bnd zh7
      have zh10 : rdx (MA 7) 10 v3 = some x4 := zh10
      suffices e : Ev (d + 2, 0, 0, 68, 31, [.val (.ref 1088), .val (.int p1), .val (.int p2), .val (.ref 1095), .val (.int v2), .val (.int v3)], [.int x4, .int v3, .int p2, .int p1, .ref 1088, .int v2], (126, 120, L, [Y, T, HA, HB, RA, RB, ST, NS, I0, I1, I2, BO, FI, RG, GU, PU, MA, MN, MS, OT, SC], [r0, r1, r2, r3, w, r5, r6, r7, r8], Lg)) o from ev_opt (fun x4 => (d + 2, 0, 0, 68, 31, [.val (.ref 1088), .val (.int p1), .val (.int p2), .val (.ref 1095), .val (.int v2), .val (.int v3)], [.int x4, .int v3, .int p2, .int p1, .ref 1088, .int v2], (126, 120, L, [Y, T, HA, HB, RA, RB, ST, NS, I0, I1, I2, BO, FI, RG, GU, PU, MA, MN, MS, OT, SC], [r0, r1, r2, r3, w, r5, r6, r7, r8], Lg))) 8 zh10 e (fun n => Eq.refl _)
      obtain ⟨x5, zh11, zh7⟩ := bnd zh7
      have zh11 : f_M_clashWith MA p1 p2 v3 x4 = some x5 := zh11
      have ze12 := R_f_M_clashWith_0 (d + 1) Y T HA HB RA RB ST NS I0 I1 I2 BO FI RG GU PU MA MN MS OT SC r0 r1 r2 r3 w r5 r6 r7 r8 L Lg p1 p2 v3 x4 zh11
      suffices e : Ev (d + 2, 0, 0, 68, 34, [.val (.ref 1088), .val (.int p1), .val (.int p2), .val (.ref 1095), .val (.int v2), .val (.int v3)], [.int x5, .int v2], (126, 120, L, [Y, T, HA, HB, RA, RB, ST, NS, I0, I1, I2, BO, FI, RG, GU, PU, MA, MN, MS, OT, SC], [r0, r1, r2, r3, w, r5, r6, r7, r8], Lg)) o from ev_call (fun v μ => (d + 2, 0, 0, 68, 34, [.val (.ref 1088), .val (.int p1), .val (.int p2), .val (.ref 1095), .val (.int v2), .val (.int v3)], v.toList ++ [.int v2], μ)) 1 ze12 e (fun n => Eq.refl _)
      exact ev_b 4 (zi5 _ (Option.some.inj zh7).symm ()) (fun n => Eq.refl _)
  · skip
    intro s7
    have ze13 := Option.some.inj h
    subst ze13
    exact ev_rete 2 ho (fun n => Eq.refl _)
set_option maxRecDepth 1000000 in
set_option maxHeartbeats 4000000 in
theorem R_f_M_clash_0 (d : Nat) (Y T HA HB RA RB ST NS I0 I1 I2 BO FI RG GU PU MA MN MS OT SC : Nat → Nat → Int32) (r0 r1 r2 r3 w r5 r6 r7 r8 : Nat) (L : Nat) (Lg : Int64) (p1 : Int32) (p2 : Int32) (p3 : Int32) {r : Int32 × (Nat → Nat → Int32)} (h : f_M_clash MA p1 p2 p3 = some r) : Ev (d + 3, 0, 0, 77, 0, [.val (.ref 1088), .val (.int p1), .val (.int p2), .val (.int p3)], [], (126, 120, L, [Y, T, HA, HB, RA, RB, ST, NS, I0, I1, I2, BO, FI, RG, GU, PU, MA, MN, MS, OT, SC], [r0, r1, r2, r3, w, r5, r6, r7, r8], Lg)) ((0, some (.int r.1), (126, 120, L, [Y, T, HA, HB, RA, RB, ST, NS, I0, I1, I2, BO, FI, RG, GU, PU, r.2, MN, MS, OT, SC], [r0, r1, r2, r3, w, r5, r6, r7, r8], Lg)) : AOut) := by
  suffices key : ∀ o : AOut, ((0, some (.int r.1), (126, 120, L, [Y, T, HA, HB, RA, RB, ST, NS, I0, I1, I2, BO, FI, RG, GU, PU, r.2, MN, MS, OT, SC], [r0, r1, r2, r3, w, r5, r6, r7, r8], Lg)) : AOut) = o → Ev (d + 3, 0, 0, 77, 0, [.val (.ref 1088), .val (.int p1), .val (.int p2), .val (.int p3)], [], (126, 120, L, [Y, T, HA, HB, RA, RB, ST, NS, I0, I1, I2, BO, FI, RG, GU, PU, MA, MN, MS, OT, SC], [r0, r1, r2, r3, w, r5, r6, r7, r8], Lg)) o from key _ rfl
  intro o ho
  obtain ⟨⟨x1, MA_2⟩, zh1, h⟩ := bnd h
  have zh1 : f_M_isPlace (u2 MA 0 0 0) p1 p2 p3 = some (x1, MA_2) := zh1
  have ze2 := R_f_M_isPlace_0 (d + 0) Y T HA HB RA RB ST NS I0 I1 I2 BO FI RG GU PU (u2 MA 0 0 0) MN MS OT SC r0 r1 r2 r3 w r5 r6 r7 r8 L Lg p1 p2 p3 zh1
  suffices e : Ev (d + 3, 0, 0, 77, 12, [.val (.ref 1088), .val (.int p1), .val (.int p2), .val (.int p3)], [.int x1], (126, 120, L, [Y, T, HA, HB, RA, RB, ST, NS, I0, I1, I2, BO, FI, RG, GU, PU, MA_2, MN, MS, OT, SC], [r0, r1, r2, r3, w, r5, r6, r7, r8], Lg)) o from ev_call (fun v μ => (d + 3, 0, 0, 77, 12, [.val (.ref 1088), .val (.int p1), .val (.int p2), .val (.int p3)], v.toList ++ [], μ)) 8 ze2 e (fun n => Eq.refl _)
  by_cases zc3 : x1 ≠ 0
  · have h := itp h zc3
    suffices e : Ev (d + 3, 0, 0, 77, 17, [.val (.ref 1088), .val (.int p1), .val (.int p2), .val (.int p3)], [], (126, 120, L, [Y, T, HA, HB, RA, RB, ST, NS, I0, I1, I2, BO, FI, RG, GU, PU, MA_2, MN, MS, OT, SC], [r0, r1, r2, r3, w, r5, r6, r7, r8], Lg)) o from ev_t (c := x1 ≠ 0) _ _ 1  zc3 e (fun n => Eq.refl _)
    obtain ⟨x3, zh4, h⟩ := bnd h
    have zh4 : f_M_clashOf MA_2 p1 ((3 * p2) + p3) (MA_2 7) = some x3 := zh4
    have ze5 := R_f_M_clashOf_0 (d + 0) Y T HA HB RA RB ST NS I0 I1 I2 BO FI RG GU PU MA_2 MN MS OT SC r0 r1 r2 r3 w r5 r6 r7 r8 L Lg p1 ((3 * p2) + p3) zh4
    suffices e : Ev (d + 3, 0, 0, 77, 31, [.val (.ref 1088), .val (.int p1), .val (.int p2), .val (.int p3)], [.int x3], (126, 120, L, [Y, T, HA, HB, RA, RB, ST, NS, I0, I1, I2, BO, FI, RG, GU, PU, MA_2, MN, MS, OT, SC], [r0, r1, r2, r3, w, r5, r6, r7, r8], Lg)) o from ev_call (fun v μ => (d + 3, 0, 0, 77, 31, [.val (.ref 1088), .val (.int p1), .val (.int p2), .val (.int p3)], v.toList ++ [], μ)) 10 ze5 e (fun n => Eq.refl _)
    have ze6 := Option.some.inj h
    subst ze6
    exact ev_rete 1 ho (fun n => Eq.refl _)
  · have h := itn h zc3
    suffices e : Ev (d + 3, 0, 0, 77, 15, [.val (.ref 1088), .val (.int p1), .val (.int p2), .val (.int p3)], [], (126, 120, L, [Y, T, HA, HB, RA, RB, ST, NS, I0, I1, I2, BO, FI, RG, GU, PU, MA_2, MN, MS, OT, SC], [r0, r1, r2, r3, w, r5, r6, r7, r8], Lg)) o from ev_f (c := x1 ≠ 0) _ _ 1  zc3 e (fun n => Eq.refl _)
    have ze7 := Option.some.inj h
    subst ze7
    exact ev_rete 2 ho (fun n => Eq.refl _)
set_option maxRecDepth 1000000 in
set_option maxHeartbeats 4000000 in
theorem R_f_M_clashing_0 (d : Nat) (Y T HA HB RA RB ST NS I0 I1 I2 BO FI RG GU PU MA MN MS OT SC : Nat → Nat → Int32) (r0 r1 r2 r3 w r5 r6 r7 r8 : Nat) (L : Nat) (Lg : Int64) {r : Int32 × (Nat → Nat → Int32)} (h : f_M_clashing MA = some r) : Ev (d + 3, 0, 0, 78, 0, [.val (.ref 1088), .val a_unk, .val a_unk], [], (126, 120, L, [Y, T, HA, HB, RA, RB, ST, NS, I0, I1, I2, BO, FI, RG, GU, PU, MA, MN, MS, OT, SC], [r0, r1, r2, r3, w, r5, r6, r7, r8], Lg)) ((0, some (.int r.1), (126, 120, L, [Y, T, HA, HB, RA, RB, ST, NS, I0, I1, I2, BO, FI, RG, GU, PU, r.2, MN, MS, OT, SC], [r0, r1, r2, r3, w, r5, r6, r7, r8], Lg)) : AOut) := by
  suffices key : ∀ o : AOut, ((0, some (.int r.1), (126, 120, L, [Y, T, HA, HB, RA, RB, ST, NS, I0, I1, I2, BO, FI, RG, GU, PU, r.2, MN, MS, OT, SC], [r0, r1, r2, r3, w, r5, r6, r7, r8], Lg)) : AOut) = o → Ev (d + 3, 0, 0, 78, 0, [.val (.ref 1088), .val a_unk, .val a_unk], [], (126, 120, L, [Y, T, HA, HB, RA, RB, ST, NS, I0, I1, I2, BO, FI, RG, GU, PU, MA, MN, MS, OT, SC], [r0, r1, r2, r3, w, r5, r6, r7, r8], Lg)) o from key _ rfl
  intro o ho
  obtain ⟨v7, zh2, h⟩ := bnd h
  suffices e : Ev (d + 3, 0, 0, 78, 9, [.val (.ref 1088), .val (.int 0), .val (.int 0)], [], (126, 120, L, [Y, T, HA, HB, RA, RB, ST, NS, I0, I1, I2, BO, FI, RG, GU, PU, (u2 MA 0 0 0), MN, MS, OT, SC], [r0, r1, r2, r3, w, r5, r6, r7, r8], Lg)) o from ev_b 7 e (fun n => Eq.refl _)
  refine ev_loop (δ := Unit) (fun a j => (d + 3, 0, 0, 78, 9, [.val (.ref 1088), .val (.int a.1), .val (.int a.2)], [], (126, 120, L, [Y, T, HA, HB, RA, RB, ST, NS, I0, I1, I2, BO, FI, RG, GU, PU, (u2 MA 0 0 0), MN, MS, OT, SC], [r0, r1, r2, r3, w, r5, r6, r7, r8], Lg))) (fun b => ∀ s8 : Value, Ev (d + 3, 0, 0, 78, 61, [.val (.ref 1088), .val (.int b), .val s8], [], (126, 120, L, [Y, T, HA, HB, RA, RB, ST, NS, I0, I1, I2, BO, FI, RG, GU, PU, (u2 MA 0 0 0), MN, MS, OT, SC], [r0, r1, r2, r3, w, r5, r6, r7, r8], Lg)) o) ?_ a_F (0, 0) v7 zh2 ?_ ()
  · rintro ⟨v1, v2⟩ zr6 zh5 zi3 zx4 ⟨⟩
    have zh5 : f_M_clashing_l9 MA v1 v2 = some zr6 := zh5
    by_cases zc7 : ((u2 MA 0 0 0) 0 26) ≤ v2
    · have zh5 := itp zh5 zc7
      suffices e : Ev (d + 3, 0, 0, 78, 61, [.val (.ref 1088), .val (.int v1), .val (.int v2)], [], (126, 120, L, [Y, T, HA, HB, RA, RB, ST, NS, I0, I1, I2, BO, FI, RG, GU, PU, (u2 MA 0 0 0), MN, MS, OT, SC], [r0, r1, r2, r3, w, r5, r6, r7, r8], Lg)) o from ev_t (c := ((u2 MA 0 0 0) 0 26) ≤ v2) _ _ 4  zc7 e (fun n => Eq.refl _)
      exact ev_b 0 (zx4 _ (Option.some.inj zh5).symm (.int v2)) (fun n => Eq.refl _)
    · have zh5 := itn zh5 zc7
      suffices e : Ev (d + 3, 0, 0, 78, 17, [.val (.ref 1088), .val (.int v1), .val (.int v2)], [], (126, 120, L, [Y, T, HA, HB, RA, RB, ST, NS, I0, I1, I2, BO, FI, RG, GU, PU, (u2 MA 0 0 0), MN, MS, OT, SC], [r0, r1, r2, r3, w, r5, r6, r7, r8], Lg)) o from ev_f (c := ((u2 MA 0 0 0) 0 26) ≤ v2) _ _ 4  zc7 e (fun n => Eq.refl _)
      obtain ⟨x3, zh8, zh5⟩ := bnd zh5
      have zh8 : rdx ((u2 MA 0 0 0) 7) 10 v2 = some x3 := zh8
      suffices e : Ev (d + 3, 0, 0, 78, 24, [.val (.ref 1088), .val (.int v1), .val (.int v2)], [.int x3, .int v1], (126, 120, L, [Y, T, HA, HB, RA, RB, ST, NS, I0, I1, I2, BO, FI, RG, GU, PU, (u2 MA 0 0 0), MN, MS, OT, SC], [r0, r1, r2, r3, w, r5, r6, r7, r8], Lg)) o from ev_opt (fun x3 => (d + 3, 0, 0, 78, 24, [.val (.ref 1088), .val (.int v1), .val (.int v2)], [.int x3, .int v1], (126, 120, L, [Y, T, HA, HB, RA, RB, ST, NS, I0, I1, I2, BO, FI, RG, GU, PU, (u2 MA 0 0 0), MN, MS, OT, SC], [r0, r1, r2, r3, w, r5, r6, r7, r8], Lg))) 5 zh8 e (fun n => Eq.refl _)
      obtain ⟨zt9, zh10, zh5⟩ := bnd zh5
      have zj11 : ∀ (v6 : Int32), v6 = zt9 → Ev (d + 3, 0, 0, 78, 53, [.val (.ref 1088), .val (.int v1), .val (.int v2)], [.int v6, .int v1], (126, 120, L, [Y, T, HA, HB, RA, RB, ST, NS, I0, I1, I2, BO, FI, RG, GU, PU, (u2 MA 0 0 0), MN, MS, OT, SC], [r0, r1, r2, r3, w, r5, r6, r7, r8], Lg)) o := by
        intro v6 ze12
        subst ze12
        exact ev_b 4 (zi3 _ (Option.some.inj zh5).symm ()) (fun n => Eq.refl _)
      obtain ⟨zt13, zh14, zh10⟩ := bnd zh10
      have zj15 : zt13 = .inl () → Ev (d + 3, 0, 0, 78, 52, [.val (.ref 1088), .val (.int v1), .val (.int v2)], [.int v1], (126, 120, L, [Y, T, HA, HB, RA, RB, ST, NS, I0, I1, I2, BO, FI, RG, GU, PU, (u2 MA 0 0 0), MN, MS, OT, SC], [r0, r1, r2, r3, w, r5, r6, r7, r8], Lg)) o := by
        intro ze16
        have zh10 := sum_l zh10 ze16
        exact ev_b 1 (zj11 0 (Option.some.inj zh10) ) (fun n => Eq.refl _)
      by_cases zc17 : x3 = (-1)
      · have zh14 := itp zh14 zc17
        suffices e : Ev (d + 3, 0, 0, 78, 52, [.val (.ref 1088), .val (.int v1), .val (.int v2)], [.int v1], (126, 120, L, [Y, T, HA, HB, RA, RB, ST, NS, I0, I1, I2, BO, FI, RG, GU, PU, (u2 MA 0 0 0), MN, MS, OT, SC], [r0, r1, r2, r3, w, r5, r6, r7, r8], Lg)) o from ev_t (c := x3 = (-1)) _ _ 2  zc17 e (fun n => Eq.refl _)
        exact ev_b 0 (zj15  (Option.some.inj zh14).symm ) (fun n => Eq.refl _)
      · have zh14 := itn zh14 zc17
        suffices e : Ev (d + 3, 0, 0, 78, 28, [.val (.ref 1088), .val (.int v1), .val (.int v2)], [.int v1], (126, 120, L, [Y, T, HA, HB, RA, RB, ST, NS, I0, I1, I2, BO, FI, RG, GU, PU, (u2 MA 0 0 0), MN, MS, OT, SC], [r0, r1, r2, r3, w, r5, r6, r7, r8], Lg)) o from ev_f (c := x3 = (-1)) _ _ 2  zc17 e (fun n => Eq.refl _)
        obtain ⟨x4, zh18, zh14⟩ := bnd zh14
        have zh18 : rdx ((u2 MA 0 0 0) 7) 10 v2 = some x4 := zh18
        suffices e : Ev (d + 3, 0, 0, 78, 36, [.val (.ref 1088), .val (.int v1), .val (.int v2)], [.int x4, .int v2, .ref 1088, .int v1], (126, 120, L, [Y, T, HA, HB, RA, RB, ST, NS, I0, I1, I2, BO, FI, RG, GU, PU, (u2 MA 0 0 0), MN, MS, OT, SC], [r0, r1, r2, r3, w, r5, r6, r7, r8], Lg)) o from ev_opt (fun x4 => (d + 3, 0, 0, 78, 36, [.val (.ref 1088), .val (.int v1), .val (.int v2)], [.int x4, .int v2, .ref 1088, .int v1], (126, 120, L, [Y, T, HA, HB, RA, RB, ST, NS, I0, I1, I2, BO, FI, RG, GU, PU, (u2 MA 0 0 0), MN, MS, OT, SC], [r0, r1, r2, r3, w, r5, r6, r7, r8], Lg))) 6 zh18 e (fun n => Eq.refl _)
        obtain ⟨x5, zh19, zh14⟩ := bnd zh14
        have zh19 : f_M_clashOf (u2 MA 0 0 0) v2 x4 ((u2 MA 0 0 0) 7) = some x5 := zh19
        have ze20 := R_f_M_clashOf_0 (d + 0) Y T HA HB RA RB ST NS I0 I1 I2 BO FI RG GU PU (u2 MA 0 0 0) MN MS OT SC r0 r1 r2 r3 w r5 r6 r7 r8 L Lg v2 x4 zh19
        suffices e : Ev (d + 3, 0, 0, 78, 43, [.val (.ref 1088), .val (.int v1), .val (.int v2)], [.int x5, .int v1], (126, 120, L, [Y, T, HA, HB, RA, RB, ST, NS, I0, I1, I2, BO, FI, RG, GU, PU, (u2 MA 0 0 0), MN, MS, OT, SC], [r0, r1, r2, r3, w, r5, r6, r7, r8], Lg)) o from ev_call (fun v μ => (d + 3, 0, 0, 78, 43, [.val (.ref 1088), .val (.int v1), .val (.int v2)], v.toList ++ [.int v1], μ)) 3 ze20 e (fun n => Eq.refl _)
        by_cases zc21 : x5 = 0
        · have zh14 := itp zh14 zc21
          suffices e : Ev (d + 3, 0, 0, 78, 52, [.val (.ref 1088), .val (.int v1), .val (.int v2)], [.int v1], (126, 120, L, [Y, T, HA, HB, RA, RB, ST, NS, I0, I1, I2, BO, FI, RG, GU, PU, (u2 MA 0 0 0), MN, MS, OT, SC], [r0, r1, r2, r3, w, r5, r6, r7, r8], Lg)) o from ev_t (c := x5 = 0) _ _ 1  zc21 e (fun n => Eq.refl _)
          exact ev_b 0 (zj15  (Option.some.inj zh14).symm ) (fun n => Eq.refl _)
        · have zh14 := itn zh14 zc21
          suffices e : Ev (d + 3, 0, 0, 78, 46, [.val (.ref 1088), .val (.int v1), .val (.int v2)], [.int v1], (126, 120, L, [Y, T, HA, HB, RA, RB, ST, NS, I0, I1, I2, BO, FI, RG, GU, PU, (u2 MA 0 0 0), MN, MS, OT, SC], [r0, r1, r2, r3, w, r5, r6, r7, r8], Lg)) o from ev_f (c := x5 = 0) _ _ 1  zc21 e (fun n => Eq.refl _)
          have zh22 := sum_r zh10 (Option.some.inj zh14).symm
          exact ev_b 4 (zj11 (a_shl 1 v2) (Option.some.inj zh22) ) (fun n => Eq.refl _)
  · skip
    intro s8
    have ze23 := Option.some.inj h
    subst ze23
    exact ev_rete 2 ho (fun n => Eq.refl _)
set_option maxRecDepth 1000000 in
set_option maxHeartbeats 4000000 in
theorem R_f_M_isThere_0 (d : Nat) (Y T HA HB RA RB ST NS I0 I1 I2 BO FI RG GU PU MA MN MS OT SC : Nat → Nat → Int32) (r0 r1 r2 r3 w r5 r6 r7 r8 : Nat) (L : Nat) (Lg : Int64) (p1 : Int32) {r : Int32} (h : f_M_isThere MA p1 = some r) : Ev (d + 0, 0, 0, 79, 0, [.val (.ref 1088), .val (.int p1)], [], (126, 120, L, [Y, T, HA, HB, RA, RB, ST, NS, I0, I1, I2, BO, FI, RG, GU, PU, MA, MN, MS, OT, SC], [r0, r1, r2, r3, w, r5, r6, r7, r8], Lg)) ((0, some (.int r), (126, 120, L, [Y, T, HA, HB, RA, RB, ST, NS, I0, I1, I2, BO, FI, RG, GU, PU, MA, MN, MS, OT, SC], [r0, r1, r2, r3, w, r5, r6, r7, r8], Lg)) : AOut) := by
  suffices key : ∀ o : AOut, ((0, some (.int r), (126, 120, L, [Y, T, HA, HB, RA, RB, ST, NS, I0, I1, I2, BO, FI, RG, GU, PU, MA, MN, MS, OT, SC], [r0, r1, r2, r3, w, r5, r6, r7, r8], Lg)) : AOut) = o → Ev (d + 0, 0, 0, 79, 0, [.val (.ref 1088), .val (.int p1)], [], (126, 120, L, [Y, T, HA, HB, RA, RB, ST, NS, I0, I1, I2, BO, FI, RG, GU, PU, MA, MN, MS, OT, SC], [r0, r1, r2, r3, w, r5, r6, r7, r8], Lg)) o from key _ rfl
  intro o ho
  suffices e : Ev (d + 0, 0, 0, 79, 3, [.val (.ref 1088), .val (.int p1)], [.int (a_rem p1 3)], (126, 120, L, [Y, T, HA, HB, RA, RB, ST, NS, I0, I1, I2, BO, FI, RG, GU, PU, MA, MN, MS, OT, SC], [r0, r1, r2, r3, w, r5, r6, r7, r8], Lg)) o from ev_b 3 e (fun n => Eq.refl _)
  by_cases zc1 : (MA 0 24) ≤ (a_rem p1 3)
  · have h := itp h zc1
    suffices e : Ev (d + 0, 0, 0, 79, 24, [.val (.ref 1088), .val (.int p1)], [], (126, 120, L, [Y, T, HA, HB, RA, RB, ST, NS, I0, I1, I2, BO, FI, RG, GU, PU, MA, MN, MS, OT, SC], [r0, r1, r2, r3, w, r5, r6, r7, r8], Lg)) o from ev_t (c := (MA 0 24) ≤ (a_rem p1 3)) _ _ 3  zc1 e (fun n => Eq.refl _)
    have ze2 := Option.some.inj h
    subst ze2
    exact ev_rete 2 ho (fun n => Eq.refl _)
  · have h := itn h zc1
    suffices e : Ev (d + 0, 0, 0, 79, 10, [.val (.ref 1088), .val (.int p1)], [], (126, 120, L, [Y, T, HA, HB, RA, RB, ST, NS, I0, I1, I2, BO, FI, RG, GU, PU, MA, MN, MS, OT, SC], [r0, r1, r2, r3, w, r5, r6, r7, r8], Lg)) o from ev_f (c := (MA 0 24) ≤ (a_rem p1 3)) _ _ 3  zc1 e (fun n => Eq.refl _)
    suffices e : Ev (d + 0, 0, 0, 79, 13, [.val (.ref 1088), .val (.int p1)], [.int (p1 / 3)], (126, 120, L, [Y, T, HA, HB, RA, RB, ST, NS, I0, I1, I2, BO, FI, RG, GU, PU, MA, MN, MS, OT, SC], [r0, r1, r2, r3, w, r5, r6, r7, r8], Lg)) o from ev_b 3 e (fun n => Eq.refl _)
    by_cases zc3 : (MA 0 23) ≤ (p1 / 3)
    · have h := itp h zc3
      suffices e : Ev (d + 0, 0, 0, 79, 24, [.val (.ref 1088), .val (.int p1)], [], (126, 120, L, [Y, T, HA, HB, RA, RB, ST, NS, I0, I1, I2, BO, FI, RG, GU, PU, MA, MN, MS, OT, SC], [r0, r1, r2, r3, w, r5, r6, r7, r8], Lg)) o from ev_t (c := (MA 0 23) ≤ (p1 / 3)) _ _ 3  zc3 e (fun n => Eq.refl _)
      have ze4 := Option.some.inj h
      subst ze4
      exact ev_rete 2 ho (fun n => Eq.refl _)
    · have h := itn h zc3
      suffices e : Ev (d + 0, 0, 0, 79, 20, [.val (.ref 1088), .val (.int p1)], [], (126, 120, L, [Y, T, HA, HB, RA, RB, ST, NS, I0, I1, I2, BO, FI, RG, GU, PU, MA, MN, MS, OT, SC], [r0, r1, r2, r3, w, r5, r6, r7, r8], Lg)) o from ev_f (c := (MA 0 23) ≤ (p1 / 3)) _ _ 3  zc3 e (fun n => Eq.refl _)
      have ze5 := Option.some.inj h
      subst ze5
      exact ev_rete 3 ho (fun n => Eq.refl _)
set_option maxRecDepth 1000000 in
set_option maxHeartbeats 4000000 in
theorem R_f_M_free_0 (d : Nat) (Y T HA HB RA RB ST NS I0 I1 I2 BO FI RG GU PU MA MN MS OT SC : Nat → Nat → Int32) (r0 r1 r2 r3 w r5 r6 r7 r8 : Nat) (L : Nat) (Lg : Int64) (p1 : Int32) {r : Int32 × (Nat → Nat → Int32)} (h : f_M_free MA p1 = some r) : Ev (d + 3, 0, 0, 80, 0, [.val (.ref 1088), .val (.int p1), .val a_unk, .val a_unk], [], (126, 120, L, [Y, T, HA, HB, RA, RB, ST, NS, I0, I1, I2, BO, FI, RG, GU, PU, MA, MN, MS, OT, SC], [r0, r1, r2, r3, w, r5, r6, r7, r8], Lg)) ((0, some (.int r.1), (126, 120, L, [Y, T, HA, HB, RA, RB, ST, NS, I0, I1, I2, BO, FI, RG, GU, PU, r.2, MN, MS, OT, SC], [r0, r1, r2, r3, w, r5, r6, r7, r8], Lg)) : AOut) := by
  suffices key : ∀ o : AOut, ((0, some (.int r.1), (126, 120, L, [Y, T, HA, HB, RA, RB, ST, NS, I0, I1, I2, BO, FI, RG, GU, PU, r.2, MN, MS, OT, SC], [r0, r1, r2, r3, w, r5, r6, r7, r8], Lg)) : AOut) = o → Ev (d + 3, 0, 0, 80, 0, [.val (.ref 1088), .val (.int p1), .val a_unk, .val a_unk], [], (126, 120, L, [Y, T, HA, HB, RA, RB, ST, NS, I0, I1, I2, BO, FI, RG, GU, PU, MA, MN, MS, OT, SC], [r0, r1, r2, r3, w, r5, r6, r7, r8], Lg)) o from key _ rfl
  intro o ho
  obtain ⟨⟨x1, MA_2⟩, zh1, h⟩ := bnd h
  have zh1 : f_M_isMeeting (u2 MA 0 0 0) p1 1 = some (x1, MA_2) := zh1
  have ze2 := R_f_M_isMeeting_0 (d + 1) Y T HA HB RA RB ST NS I0 I1 I2 BO FI RG GU PU (u2 MA 0 0 0) MN MS OT SC r0 r1 r2 r3 w r5 r6 r7 r8 L Lg p1 1 zh1
  suffices e : Ev (d + 3, 0, 0, 80, 11, [.val (.ref 1088), .val (.int p1), .val a_unk, .val a_unk], [.int x1], (126, 120, L, [Y, T, HA, HB, RA, RB, ST, NS, I0, I1, I2, BO, FI, RG, GU, PU, MA_2, MN, MS, OT, SC], [r0, r1, r2, r3, w, r5, r6, r7, r8], Lg)) o from ev_call (fun v μ => (d + 3, 0, 0, 80, 11, [.val (.ref 1088), .val (.int p1), .val a_unk, .val a_unk], v.toList ++ [], μ)) 7 ze2 e (fun n => Eq.refl _)
  by_cases zc3 : x1 ≠ 0
  · have h := itp h zc3
    suffices e : Ev (d + 3, 0, 0, 80, 16, [.val (.ref 1088), .val (.int p1), .val a_unk, .val a_unk], [], (126, 120, L, [Y, T, HA, HB, RA, RB, ST, NS, I0, I1, I2, BO, FI, RG, GU, PU, MA_2, MN, MS, OT, SC], [r0, r1, r2, r3, w, r5, r6, r7, r8], Lg)) o from ev_t (c := x1 ≠ 0) _ _ 1  zc3 e (fun n => Eq.refl _)
    obtain ⟨v7, zh5, h⟩ := bnd h
    suffices e : Ev (d + 3, 0, 0, 80, 20, [.val (.ref 1088), .val (.int p1), .val (.int 0), .val (.int 0)], [], (126, 120, L, [Y, T, HA, HB, RA, RB, ST, NS, I0, I1, I2, BO, FI, RG, GU, PU, MA_2, MN, MS, OT, SC], [r0, r1, r2, r3, w, r5, r6, r7, r8], Lg)) o from ev_b 4 e (fun n => Eq.refl _)
    refine ev_loop (δ := Unit) (fun a j => (d + 3, 0, 0, 80, 20, [.val (.ref 1088), .val (.int p1), .val (.int a.1), .val (.int a.2)], [], (126, 120, L, [Y, T, HA, HB, RA, RB, ST, NS, I0, I1, I2, BO, FI, RG, GU, PU, MA_2, MN, MS, OT, SC], [r0, r1, r2, r3, w, r5, r6, r7, r8], Lg))) (fun b => ∀ s8 : Value, Ev (d + 3, 0, 0, 80, 61, [.val (.ref 1088), .val (.int p1), .val (.int b), .val s8], [], (126, 120, L, [Y, T, HA, HB, RA, RB, ST, NS, I0, I1, I2, BO, FI, RG, GU, PU, MA_2, MN, MS, OT, SC], [r0, r1, r2, r3, w, r5, r6, r7, r8], Lg)) o) ?_ a_F (0, 0) v7 zh5 ?_ ()
    · rintro ⟨v3, v4⟩ zr9 zh8 zi6 zx7 ⟨⟩
      have zh8 : f_M_free_l20 MA_2 p1 v3 v4 = some zr9 := zh8
      by_cases zc10 : 30 ≤ v4
      · have zh8 := itp zh8 zc10
        suffices e : Ev (d + 3, 0, 0, 80, 61, [.val (.ref 1088), .val (.int p1), .val (.int v3), .val (.int v4)], [], (126, 120, L, [Y, T, HA, HB, RA, RB, ST, NS, I0, I1, I2, BO, FI, RG, GU, PU, MA_2, MN, MS, OT, SC], [r0, r1, r2, r3, w, r5, r6, r7, r8], Lg)) o from ev_t (c := 30 ≤ v4) _ _ 3  zc10 e (fun n => Eq.refl _)
        exact ev_b 0 (zx7 _ (Option.some.inj zh8).symm (.int v4)) (fun n => Eq.refl _)
      · have zh8 := itn zh8 zc10
        suffices e : Ev (d + 3, 0, 0, 80, 26, [.val (.ref 1088), .val (.int p1), .val (.int v3), .val (.int v4)], [], (126, 120, L, [Y, T, HA, HB, RA, RB, ST, NS, I0, I1, I2, BO, FI, RG, GU, PU, MA_2, MN, MS, OT, SC], [r0, r1, r2, r3, w, r5, r6, r7, r8], Lg)) o from ev_f (c := 30 ≤ v4) _ _ 3  zc10 e (fun n => Eq.refl _)
        obtain ⟨x5, zh11, zh8⟩ := bnd zh8
        have zh11 : f_M_isThere MA_2 v4 = some x5 := zh11
        have ze12 := R_f_M_isThere_0 (d + 2) Y T HA HB RA RB ST NS I0 I1 I2 BO FI RG GU PU MA_2 MN MS OT SC r0 r1 r2 r3 w r5 r6 r7 r8 L Lg v4 zh11
        suffices e : Ev (d + 3, 0, 0, 80, 32, [.val (.ref 1088), .val (.int p1), .val (.int v3), .val (.int v4)], [.int x5, .int v3], (126, 120, L, [Y, T, HA, HB, RA, RB, ST, NS, I0, I1, I2, BO, FI, RG, GU, PU, MA_2, MN, MS, OT, SC], [r0, r1, r2, r3, w, r5, r6, r7, r8], Lg)) o from ev_call (fun v μ => (d + 3, 0, 0, 80, 32, [.val (.ref 1088), .val (.int p1), .val (.int v3), .val (.int v4)], v.toList ++ [.int v3], μ)) 4 ze12 e (fun n => Eq.refl _)
        obtain ⟨zt13, zh14, zh8⟩ := bnd zh8
        have zj15 : zt13 = .inl () → Ev (d + 3, 0, 0, 80, 52, [.val (.ref 1088), .val (.int p1), .val (.int v3), .val (.int v4)], [.int v3], (126, 120, L, [Y, T, HA, HB, RA, RB, ST, NS, I0, I1, I2, BO, FI, RG, GU, PU, MA_2, MN, MS, OT, SC], [r0, r1, r2, r3, w, r5, r6, r7, r8], Lg)) o := by
          intro ze16
          have zh8 := sum_l zh8 ze16
          exact ev_b 5 (zi6 _ (Option.some.inj zh8).symm ()) (fun n => Eq.refl _)
        by_cases zc17 : x5 = 0
        · have zh14 := itp zh14 zc17
          suffices e : Ev (d + 3, 0, 0, 80, 52, [.val (.ref 1088), .val (.int p1), .val (.int v3), .val (.int v4)], [.int v3], (126, 120, L, [Y, T, HA, HB, RA, RB, ST, NS, I0, I1, I2, BO, FI, RG, GU, PU, MA_2, MN, MS, OT, SC], [r0, r1, r2, r3, w, r5, r6, r7, r8], Lg)) o from ev_t (c := x5 = 0) _ _ 1  zc17 e (fun n => Eq.refl _)
          exact ev_b 0 (zj15  (Option.some.inj zh14).symm ) (fun n => Eq.refl _)
        · have zh14 := itn zh14 zc17
          suffices e : Ev (d + 3, 0, 0, 80, 35, [.val (.ref 1088), .val (.int p1), .val (.int v3), .val (.int v4)], [.int v3], (126, 120, L, [Y, T, HA, HB, RA, RB, ST, NS, I0, I1, I2, BO, FI, RG, GU, PU, MA_2, MN, MS, OT, SC], [r0, r1, r2, r3, w, r5, r6, r7, r8], Lg)) o from ev_f (c := x5 = 0) _ _ 1  zc17 e (fun n => Eq.refl _)
          obtain ⟨x6, zh18, zh14⟩ := bnd zh14
          have zh18 : f_M_clashOf MA_2 p1 v4 (MA_2 7) = some x6 := zh18
          have ze19 := R_f_M_clashOf_0 (d + 0) Y T HA HB RA RB ST NS I0 I1 I2 BO FI RG GU PU MA_2 MN MS OT SC r0 r1 r2 r3 w r5 r6 r7 r8 L Lg p1 v4 zh18
          suffices e : Ev (d + 3, 0, 0, 80, 45, [.val (.ref 1088), .val (.int p1), .val (.int v3), .val (.int v4)], [.int x6, .int v3], (126, 120, L, [Y, T, HA, HB, RA, RB, ST, NS, I0, I1, I2, BO, FI, RG, GU, PU, MA_2, MN, MS, OT, SC], [r0, r1, r2, r3, w, r5, r6, r7, r8], Lg)) o from ev_call (fun v μ => (d + 3, 0, 0, 80, 45, [.val (.ref 1088), .val (.int p1), .val (.int v3), .val (.int v4)], v.toList ++ [.int v3], μ)) 6 ze19 e (fun n => Eq.refl _)
          by_cases zc20 : x6 ≠ 0
          · have zh14 := itp zh14 zc20
            suffices e : Ev (d + 3, 0, 0, 80, 52, [.val (.ref 1088), .val (.int p1), .val (.int v3), .val (.int v4)], [.int v3], (126, 120, L, [Y, T, HA, HB, RA, RB, ST, NS, I0, I1, I2, BO, FI, RG, GU, PU, MA_2, MN, MS, OT, SC], [r0, r1, r2, r3, w, r5, r6, r7, r8], Lg)) o from ev_t (c := x6 ≠ 0) _ _ 1  zc20 e (fun n => Eq.refl _)
            exact ev_b 0 (zj15  (Option.some.inj zh14).symm ) (fun n => Eq.refl _)
          · have zh14 := itn zh14 zc20
            suffices e : Ev (d + 3, 0, 0, 80, 48, [.val (.ref 1088), .val (.int p1), .val (.int v3), .val (.int v4)], [.int v3], (126, 120, L, [Y, T, HA, HB, RA, RB, ST, NS, I0, I1, I2, BO, FI, RG, GU, PU, MA_2, MN, MS, OT, SC], [r0, r1, r2, r3, w, r5, r6, r7, r8], Lg)) o from ev_f (c := x6 ≠ 0) _ _ 1  zc20 e (fun n => Eq.refl _)
            have zh21 := sum_r zh8 (Option.some.inj zh14).symm
            exact ev_b 6 (zi6 _ (Option.some.inj zh21).symm ()) (fun n => Eq.refl _)
    · skip
      intro s8
      have ze22 := Option.some.inj h
      subst ze22
      exact ev_rete 2 ho (fun n => Eq.refl _)
  · have h := itn h zc3
    suffices e : Ev (d + 3, 0, 0, 80, 14, [.val (.ref 1088), .val (.int p1), .val a_unk, .val a_unk], [], (126, 120, L, [Y, T, HA, HB, RA, RB, ST, NS, I0, I1, I2, BO, FI, RG, GU, PU, MA_2, MN, MS, OT, SC], [r0, r1, r2, r3, w, r5, r6, r7, r8], Lg)) o from ev_f (c := x1 ≠ 0) _ _ 1  zc3 e (fun n => Eq.refl _)
    have ze23 := Option.some.inj h
    subst ze23
    exact ev_rete 2 ho (fun n => Eq.refl _)
set_option maxRecDepth 1000000 in
set_option maxHeartbeats 4000000 in
theorem R_f_M_keepsAct_0 (d : Nat) (Y T HA HB RA RB ST NS I0 I1 I2 BO FI RG GU PU MA MN MS OT SC : Nat → Nat → Int32) (r0 r1 r2 r3 w r5 r6 r7 r8 : Nat) (L : Nat) (Lg : Int64) {r : (Nat → Nat → Int32)} (h : f_M_keepsAct MA = some r) : Ev (d + 0, 0, 0, 81, 0, [.val (.ref 1088), .val a_unk], [], (126, 120, L, [Y, T, HA, HB, RA, RB, ST, NS, I0, I1, I2, BO, FI, RG, GU, PU, MA, MN, MS, OT, SC], [r0, r1, r2, r3, w, r5, r6, r7, r8], Lg)) ((0, none, (126, 120, L, [Y, T, HA, HB, RA, RB, ST, NS, I0, I1, I2, BO, FI, RG, GU, PU, r, MN, MS, OT, SC], [r0, r1, r2, r3, w, r5, r6, r7, r8], Lg)) : AOut) := by
  suffices key : ∀ o : AOut, ((0, none, (126, 120, L, [Y, T, HA, HB, RA, RB, ST, NS, I0, I1, I2, BO, FI, RG, GU, PU, r, MN, MS, OT, SC], [r0, r1, r2, r3, w, r5, r6, r7, r8], Lg)) : AOut) = o → Ev (d + 0, 0, 0, 81, 0, [.val (.ref 1088), .val a_unk], [], (126, 120, L, [Y, T, HA, HB, RA, RB, ST, NS, I0, I1, I2, BO, FI, RG, GU, PU, MA, MN, MS, OT, SC], [r0, r1, r2, r3, w, r5, r6, r7, r8], Lg)) o from key _ rfl
  intro o ho
  obtain ⟨MA_8, zh2, h⟩ := bnd h
  suffices e : Ev (d + 0, 0, 0, 81, 2, [.val (.ref 1088), .val (.int 0)], [], (126, 120, L, [Y, T, HA, HB, RA, RB, ST, NS, I0, I1, I2, BO, FI, RG, GU, PU, MA, MN, MS, OT, SC], [r0, r1, r2, r3, w, r5, r6, r7, r8], Lg)) o from ev_b 2 e (fun n => Eq.refl _)
  refine ev_loop (δ := Unit) (fun a j => (d + 0, 0, 0, 81, 2, [.val (.ref 1088), .val (.int a.1)], [], (126, 120, L, [Y, T, HA, HB, RA, RB, ST, NS, I0, I1, I2, BO, FI, RG, GU, PU, a.2, MN, MS, OT, SC], [r0, r1, r2, r3, w, r5, r6, r7, r8], Lg))) (fun b => ∀ s7 : Value, Ev (d + 0, 0, 0, 81, 57, [.val (.ref 1088), .val s7], [], (126, 120, L, [Y, T, HA, HB, RA, RB, ST, NS, I0, I1, I2, BO, FI, RG, GU, PU, b, MN, MS, OT, SC], [r0, r1, r2, r3, w, r5, r6, r7, r8], Lg)) o) ?_ a_F (0, MA) MA_8 zh2 ?_ ()
  · rintro ⟨v1, MA_2⟩ zr6 zh5 zi3 zx4 ⟨⟩
    have zh5 : f_M_keepsAct_l2 v1 MA_2 = some zr6 := zh5
    by_cases zc7 : 10 ≤ v1
    · have zh5 := itp zh5 zc7
      suffices e : Ev (d + 0, 0, 0, 81, 57, [.val (.ref 1088), .val (.int v1)], [], (126, 120, L, [Y, T, HA, HB, RA, RB, ST, NS, I0, I1, I2, BO, FI, RG, GU, PU, MA_2, MN, MS, OT, SC], [r0, r1, r2, r3, w, r5, r6, r7, r8], Lg)) o from ev_t (c := 10 ≤ v1) _ _ 3  zc7 e (fun n => Eq.refl _)
      exact ev_b 0 (zx4 _ (Option.some.inj zh5).symm (.int v1)) (fun n => Eq.refl _)
    · have zh5 := itn zh5 zc7
      suffices e : Ev (d + 0, 0, 0, 81, 8, [.val (.ref 1088), .val (.int v1)], [], (126, 120, L, [Y, T, HA, HB, RA, RB, ST, NS, I0, I1, I2, BO, FI, RG, GU, PU, MA_2, MN, MS, OT, SC], [r0, r1, r2, r3, w, r5, r6, r7, r8], Lg)) o from ev_f (c := 10 ≤ v1) _ _ 3  zc7 e (fun n => Eq.refl _)
      obtain ⟨x3, zh8, zh5⟩ := bnd zh5
      have zh8 : rdx (MA_2 7) 10 v1 = some x3 := zh8
      suffices e : Ev (d + 0, 0, 0, 81, 27, [.val (.ref 1088), .val (.int v1)], [.int x3, .int ((20 * (MA_2 0 43)) + v1), .ref 1100], (126, 120, L, [Y, T, HA, HB, RA, RB, ST, NS, I0, I1, I2, BO, FI, RG, GU, PU, MA_2, MN, MS, OT, SC], [r0, r1, r2, r3, w, r5, r6, r7, r8], Lg)) o from ev_opt (fun x3 => (d + 0, 0, 0, 81, 27, [.val (.ref 1088), .val (.int v1)], [.int x3, .int ((20 * (MA_2 0 43)) + v1), .ref 1100], (126, 120, L, [Y, T, HA, HB, RA, RB, ST, NS, I0, I1, I2, BO, FI, RG, GU, PU, MA_2, MN, MS, OT, SC], [r0, r1, r2, r3, w, r5, r6, r7, r8], Lg))) 12 zh8 e (fun n => Eq.refl _)
      obtain ⟨j4, zh9, zh5⟩ := bnd zh5
      have zh9 : ixx 600 ((20 * (MA_2 0 43)) + v1) = some j4 := zh9
      suffices e : Ev (d + 0, 0, 0, 81, 28, [.val (.ref 1088), .val (.int v1)], [], (126, 120, L, [Y, T, HA, HB, RA, RB, ST, NS, I0, I1, I2, BO, FI, RG, GU, PU, (u2 MA_2 12 j4 x3), MN, MS, OT, SC], [r0, r1, r2, r3, w, r5, r6, r7, r8], Lg)) o from ev_opt (fun j4 => (d + 0, 0, 0, 81, 28, [.val (.ref 1088), .val (.int v1)], [], (126, 120, L, [Y, T, HA, HB, RA, RB, ST, NS, I0, I1, I2, BO, FI, RG, GU, PU, (u2 MA_2 12 j4 x3), MN, MS, OT, SC], [r0, r1, r2, r3, w, r5, r6, r7, r8], Lg))) 1 zh9 e (fun n => Eq.refl _)
      obtain ⟨x5, zh10, zh5⟩ := bnd zh5
      have zh10 : rdx ((u2 MA_2 12 j4 x3) 8) 10 v1 = some x5 := zh10
      suffices e : Ev (d + 0, 0, 0, 81, 50, [.val (.ref 1088), .val (.int v1)], [.int x5, .int (((20 * ((u2 MA_2 12 j4 x3) 0 43)) + 10) + v1), .ref 1100], (126, 120, L, [Y, T, HA, HB, RA, RB, ST, NS, I0, I1, I2, BO, FI, RG, GU, PU, (u2 MA_2 12 j4 x3), MN, MS, OT, SC], [r0, r1, r2, r3, w, r5, r6, r7, r8], Lg)) o from ev_opt (fun x5 => (d + 0, 0, 0, 81, 50, [.val (.ref 1088), .val (.int v1)], [.int x5, .int (((20 * ((u2 MA_2 12 j4 x3) 0 43)) + 10) + v1), .ref 1100], (126, 120, L, [Y, T, HA, HB, RA, RB, ST, NS, I0, I1, I2, BO, FI, RG, GU, PU, (u2 MA_2 12 j4 x3), MN, MS, OT, SC], [r0, r1, r2, r3, w, r5, r6, r7, r8], Lg))) 14 zh10 e (fun n => Eq.refl _)
      obtain ⟨j6, zh11, zh5⟩ := bnd zh5
      have zh11 : ixx 600 (((20 * ((u2 MA_2 12 j4 x3) 0 43)) + 10) + v1) = some j6 := zh11
      suffices e : Ev (d + 0, 0, 0, 81, 51, [.val (.ref 1088), .val (.int v1)], [], (126, 120, L, [Y, T, HA, HB, RA, RB, ST, NS, I0, I1, I2, BO, FI, RG, GU, PU, (u2 (u2 MA_2 12 j4 x3) 12 j6 x5), MN, MS, OT, SC], [r0, r1, r2, r3, w, r5, r6, r7, r8], Lg)) o from ev_opt (fun j6 => (d + 0, 0, 0, 81, 51, [.val (.ref 1088), .val (.int v1)], [], (126, 120, L, [Y, T, HA, HB, RA, RB, ST, NS, I0, I1, I2, BO, FI, RG, GU, PU, (u2 (u2 MA_2 12 j4 x3) 12 j6 x5), MN, MS, OT, SC], [r0, r1, r2, r3, w, r5, r6, r7, r8], Lg))) 1 zh11 e (fun n => Eq.refl _)
      exact ev_b 2 (zi3 _ (Option.some.inj zh5).symm ()) (fun n => Eq.refl _)
  · skip
    intro s7
    have ze12 := Option.some.inj h
    subst ze12
    exact ev_rete 7 ho (fun n => Eq.refl _)
set_option maxRecDepth 1000000 in
set_option maxHeartbeats 4000000 in
theorem R_f_M_goesTo_0 (d : Nat) (Y T HA HB RA RB ST NS I0 I1 I2 BO FI RG GU PU MA MN MS OT SC : Nat → Nat → Int32) (r0 r1 r2 r3 w r5 r6 r7 r8 : Nat) (L : Nat) (Lg : Int64) (p1 : Int32) (p2 : Int32) {r : (Nat → Nat → Int32)} (h : f_M_goesTo MA p1 p2 = some r) : Ev (d + 0, 0, 0, 82, 0, [.val (.ref 1088), .val (.int p1), .val (.int p2)], [], (126, 120, L, [Y, T, HA, HB, RA, RB, ST, NS, I0, I1, I2, BO, FI, RG, GU, PU, MA, MN, MS, OT, SC], [r0, r1, r2, r3, w, r5, r6, r7, r8], Lg)) ((0, none, (126, 120, L, [Y, T, HA, HB, RA, RB, ST, NS, I0, I1, I2, BO, FI, RG, GU, PU, r, MN, MS, OT, SC], [r0, r1, r2, r3, w, r5, r6, r7, r8], Lg)) : AOut) := by
  suffices key : ∀ o : AOut, ((0, none, (126, 120, L, [Y, T, HA, HB, RA, RB, ST, NS, I0, I1, I2, BO, FI, RG, GU, PU, r, MN, MS, OT, SC], [r0, r1, r2, r3, w, r5, r6, r7, r8], Lg)) : AOut) = o → Ev (d + 0, 0, 0, 82, 0, [.val (.ref 1088), .val (.int p1), .val (.int p2)], [], (126, 120, L, [Y, T, HA, HB, RA, RB, ST, NS, I0, I1, I2, BO, FI, RG, GU, PU, MA, MN, MS, OT, SC], [r0, r1, r2, r3, w, r5, r6, r7, r8], Lg)) o from key _ rfl
  intro o ho
  obtain ⟨j1, zh1, h⟩ := bnd h
  have zh1 : ixx 10 p1 = some j1 := zh1
  suffices e : Ev (d + 0, 0, 0, 82, 7, [.val (.ref 1088), .val (.int p1), .val (.int p2)], [], (126, 120, L, [Y, T, HA, HB, RA, RB, ST, NS, I0, I1, I2, BO, FI, RG, GU, PU, (u2 MA 7 j1 p2), MN, MS, OT, SC], [r0, r1, r2, r3, w, r5, r6, r7, r8], Lg)) o from ev_opt (fun j1 => (d + 0, 0, 0, 82, 7, [.val (.ref 1088), .val (.int p1), .val (.int p2)], [], (126, 120, L, [Y, T, HA, HB, RA, RB, ST, NS, I0, I1, I2, BO, FI, RG, GU, PU, (u2 MA 7 j1 p2), MN, MS, OT, SC], [r0, r1, r2, r3, w, r5, r6, r7, r8], Lg))) 5 zh1 e (fun n => Eq.refl _)
  obtain ⟨x2, zh2, h⟩ := bnd h
  have zh2 : rdx ((u2 MA 7 j1 p2) 8) 10 p1 = some x2 := zh2
  suffices e : Ev (d + 0, 0, 0, 82, 14, [.val (.ref 1088), .val (.int p1), .val (.int p2)], [.int x2, .int p1, .ref 1096], (126, 120, L, [Y, T, HA, HB, RA, RB, ST, NS, I0, I1, I2, BO, FI, RG, GU, PU, (u2 MA 7 j1 p2), MN, MS, OT, SC], [r0, r1, r2, r3, w, r5, r6, r7, r8], Lg)) o from ev_opt (fun x2 => (d + 0, 0, 0, 82, 14, [.val (.ref 1088), .val (.int p1), .val (.int p2)], [.int x2, .int p1, .ref 1096], (126, 120, L, [Y, T, HA, HB, RA, RB, ST, NS, I0, I1, I2, BO, FI, RG, GU, PU, (u2 MA 7 j1 p2), MN, MS, OT, SC], [r0, r1, r2, r3, w, r5, r6, r7, r8], Lg))) 5 zh2 e (fun n => Eq.refl _)
  obtain ⟨j3, zh3, h⟩ := bnd h
  have zh3 : ixx 10 p1 = some j3 := zh3
  suffices e : Ev (d + 0, 0, 0, 82, 17, [.val (.ref 1088), .val (.int p1), .val (.int p2)], [], (126, 120, L, [Y, T, HA, HB, RA, RB, ST, NS, I0, I1, I2, BO, FI, RG, GU, PU, (u2 (u2 MA 7 j1 p2) 8 j3 (x2 + 1)), MN, MS, OT, SC], [r0, r1, r2, r3, w, r5, r6, r7, r8], Lg)) o from ev_opt (fun j3 => (d + 0, 0, 0, 82, 17, [.val (.ref 1088), .val (.int p1), .val (.int p2)], [], (126, 120, L, [Y, T, HA, HB, RA, RB, ST, NS, I0, I1, I2, BO, FI, RG, GU, PU, (u2 (u2 MA 7 j1 p2) 8 j3 (x2 + 1)), MN, MS, OT, SC], [r0, r1, r2, r3, w, r5, r6, r7, r8], Lg))) 3 zh3 e (fun n => Eq.refl _)
  have ze4 := Option.some.inj h
  subst ze4
  exact ev_rete 1 ho (fun n => Eq.refl _)
set_option maxRecDepth 1000000 in
set_option maxHeartbeats 4000000 in
theorem R_f_M_move_0 (d : Nat) (Y T HA HB RA RB ST NS I0 I1 I2 BO FI RG GU PU MA MN MS OT SC : Nat → Nat → Int32) (r0 r1 r2 r3 w r5 r6 r7 r8 : Nat) (L : Nat) (Lg : Int64) (p1 : Int32) (p2 : Int32) (p3 : Int32) {r : Int32 × (Nat → Nat → Int32)} (h : f_M_move MA p1 p2 p3 = some r) : Ev (d + 3, 0, 0, 83, 0, [.val (.ref 1088), .val (.int p1), .val (.int p2), .val (.int p3), .val a_unk, .val a_unk], [], (126, 120, L, [Y, T, HA, HB, RA, RB, ST, NS, I0, I1, I2, BO, FI, RG, GU, PU, MA, MN, MS, OT, SC], [r0, r1, r2, r3, w, r5, r6, r7, r8], Lg)) ((0, some (.int r.1), (126, 120, L, [Y, T, HA, HB, RA, RB, ST, NS, I0, I1, I2, BO, FI, RG, GU, PU, r.2, MN, MS, OT, SC], [r0, r1, r2, r3, w, r5, r6, r7, r8], Lg)) : AOut) := by
  suffices key : ∀ o : AOut, ((0, some (.int r.1), (126, 120, L, [Y, T, HA, HB, RA, RB, ST, NS, I0, I1, I2, BO, FI, RG, GU, PU, r.2, MN, MS, OT, SC], [r0, r1, r2, r3, w, r5, r6, r7, r8], Lg)) : AOut) = o → Ev (d + 3, 0, 0, 83, 0, [.val (.ref 1088), .val (.int p1), .val (.int p2), .val (.int p3), .val a_unk, .val a_unk], [], (126, 120, L, [Y, T, HA, HB, RA, RB, ST, NS, I0, I1, I2, BO, FI, RG, GU, PU, MA, MN, MS, OT, SC], [r0, r1, r2, r3, w, r5, r6, r7, r8], Lg)) o from key _ rfl
  intro o ho
  obtain ⟨⟨x1, MA_2⟩, zh1, h⟩ := bnd h
  have zh1 : f_M_isPlace (u2 MA 0 0 0) p1 p2 p3 = some (x1, MA_2) := zh1
  have ze2 := R_f_M_isPlace_0 (d + 0) Y T HA HB RA RB ST NS I0 I1 I2 BO FI RG GU PU (u2 MA 0 0 0) MN MS OT SC r0 r1 r2 r3 w r5 r6 r7 r8 L Lg p1 p2 p3 zh1
  suffices e : Ev (d + 3, 0, 0, 83, 12, [.val (.ref 1088), .val (.int p1), .val (.int p2), .val (.int p3), .val a_unk, .val a_unk], [.int x1], (126, 120, L, [Y, T, HA, HB, RA, RB, ST, NS, I0, I1, I2, BO, FI, RG, GU, PU, MA_2, MN, MS, OT, SC], [r0, r1, r2, r3, w, r5, r6, r7, r8], Lg)) o from ev_call (fun v μ => (d + 3, 0, 0, 83, 12, [.val (.ref 1088), .val (.int p1), .val (.int p2), .val (.int p3), .val a_unk, .val a_unk], v.toList ++ [], μ)) 8 ze2 e (fun n => Eq.refl _)
  by_cases zc3 : x1 ≠ 0
  · have h := itp h zc3
    suffices e : Ev (d + 3, 0, 0, 83, 17, [.val (.ref 1088), .val (.int p1), .val (.int p2), .val (.int p3), .val a_unk, .val a_unk], [], (126, 120, L, [Y, T, HA, HB, RA, RB, ST, NS, I0, I1, I2, BO, FI, RG, GU, PU, MA_2, MN, MS, OT, SC], [r0, r1, r2, r3, w, r5, r6, r7, r8], Lg)) o from ev_t (c := x1 ≠ 0) _ _ 1  zc3 e (fun n => Eq.refl _)
    obtain ⟨x3, zh4, h⟩ := bnd h
    have zh4 : rdx (MA_2 7) 10 p1 = some x3 := zh4
    suffices e : Ev (d + 3, 0, 0, 83, 30, [.val (.ref 1088), .val (.int p1), .val (.int p2), .val (.int p3), .val (.int ((3 * p2) + p3)), .val a_unk], [.int x3], (126, 120, L, [Y, T, HA, HB, RA, RB, ST, NS, I0, I1, I2, BO, FI, RG, GU, PU, MA_2, MN, MS, OT, SC], [r0, r1, r2, r3, w, r5, r6, r7, r8], Lg)) o from ev_opt (fun x3 => (d + 3, 0, 0, 83, 30, [.val (.ref 1088), .val (.int p1), .val (.int p2), .val (.int p3), .val (.int ((3 * p2) + p3)), .val a_unk], [.int x3], (126, 120, L, [Y, T, HA, HB, RA, RB, ST, NS, I0, I1, I2, BO, FI, RG, GU, PU, MA_2, MN, MS, OT, SC], [r0, r1, r2, r3, w, r5, r6, r7, r8], Lg))) 10 zh4 e (fun n => Eq.refl _)
    by_cases zc5 : x3 ≠ ((3 * p2) + p3)
    · have h := itp h zc5
      suffices e : Ev (d + 3, 0, 0, 83, 37, [.val (.ref 1088), .val (.int p1), .val (.int p2), .val (.int p3), .val (.int ((3 * p2) + p3)), .val a_unk], [], (126, 120, L, [Y, T, HA, HB, RA, RB, ST, NS, I0, I1, I2, BO, FI, RG, GU, PU, MA_2, MN, MS, OT, SC], [r0, r1, r2, r3, w, r5, r6, r7, r8], Lg)) o from ev_t (c := x3 ≠ ((3 * p2) + p3)) _ _ 2  zc5 e (fun n => Eq.refl _)
      by_cases zc6 : (MA_2 0 43) ≠ 30
      · have h := itp h zc6
        suffices e : Ev (d + 3, 0, 0, 83, 49, [.val (.ref 1088), .val (.int p1), .val (.int p2), .val (.int p3), .val (.int ((3 * p2) + p3)), .val a_unk], [], (126, 120, L, [Y, T, HA, HB, RA, RB, ST, NS, I0, I1, I2, BO, FI, RG, GU, PU, MA_2, MN, MS, OT, SC], [r0, r1, r2, r3, w, r5, r6, r7, r8], Lg)) o from ev_t (c := (MA_2 0 43) ≠ 30) _ _ 4  zc6 e (fun n => Eq.refl _)
        obtain ⟨x4, zh7, h⟩ := bnd h
        have zh7 : f_M_isFixed MA_2 p1 = some x4 := zh7
        have ze8 := R_f_M_isFixed_0 (d + 2) Y T HA HB RA RB ST NS I0 I1 I2 BO FI RG GU PU MA_2 MN MS OT SC r0 r1 r2 r3 w r5 r6 r7 r8 L Lg p1 zh7
        suffices e : Ev (d + 3, 0, 0, 83, 54, [.val (.ref 1088), .val (.int p1), .val (.int p2), .val (.int p3), .val (.int ((3 * p2) + p3)), .val a_unk], [.int x4], (126, 120, L, [Y, T, HA, HB, RA, RB, ST, NS, I0, I1, I2, BO, FI, RG, GU, PU, MA_2, MN, MS, OT, SC], [r0, r1, r2, r3, w, r5, r6, r7, r8], Lg)) o from ev_call (fun v μ => (d + 3, 0, 0, 83, 54, [.val (.ref 1088), .val (.int p1), .val (.int p2), .val (.int p3), .val (.int ((3 * p2) + p3)), .val a_unk], v.toList ++ [], μ)) 3 ze8 e (fun n => Eq.refl _)
        by_cases zc9 : x4 = 0
        · have h := itp h zc9
          suffices e : Ev (d + 3, 0, 0, 83, 60, [.val (.ref 1088), .val (.int p1), .val (.int p2), .val (.int p3), .val (.int ((3 * p2) + p3)), .val a_unk], [], (126, 120, L, [Y, T, HA, HB, RA, RB, ST, NS, I0, I1, I2, BO, FI, RG, GU, PU, MA_2, MN, MS, OT, SC], [r0, r1, r2, r3, w, r5, r6, r7, r8], Lg)) o from ev_t (c := x4 = 0) _ _ 1  zc9 e (fun n => Eq.refl _)
          obtain ⟨x5, zh10, h⟩ := bnd h
          have zh10 : f_M_clashOf MA_2 p1 ((3 * p2) + p3) (MA_2 7) = some x5 := zh10
          have ze11 := R_f_M_clashOf_0 (d + 0) Y T HA HB RA RB ST NS I0 I1 I2 BO FI RG GU PU MA_2 MN MS OT SC r0 r1 r2 r3 w r5 r6 r7 r8 L Lg p1 ((3 * p2) + p3) zh10
          suffices e : Ev (d + 3, 0, 0, 83, 71, [.val (.ref 1088), .val (.int p1), .val (.int p2), .val (.int p3), .val (.int ((3 * p2) + p3)), .val a_unk], [.int x5], (126, 120, L, [Y, T, HA, HB, RA, RB, ST, NS, I0, I1, I2, BO, FI, RG, GU, PU, MA_2, MN, MS, OT, SC], [r0, r1, r2, r3, w, r5, r6, r7, r8], Lg)) o from ev_call (fun v μ => (d + 3, 0, 0, 83, 71, [.val (.ref 1088), .val (.int p1), .val (.int p2), .val (.int p3), .val (.int ((3 * p2) + p3)), .val a_unk], v.toList ++ [], μ)) 6 ze11 e (fun n => Eq.refl _)
          by_cases zc12 : x5 = 0
          · have h := itp h zc12
            suffices e : Ev (d + 3, 0, 0, 83, 82, [.val (.ref 1088), .val (.int p1), .val (.int p2), .val (.int p3), .val (.int ((3 * p2) + p3)), .val (.int x5)], [], (126, 120, L, [Y, T, HA, HB, RA, RB, ST, NS, I0, I1, I2, BO, FI, RG, GU, PU, MA_2, MN, MS, OT, SC], [r0, r1, r2, r3, w, r5, r6, r7, r8], Lg)) o from ev_t (c := x5 = 0) _ _ 3  zc12 e (fun n => Eq.refl _)
            obtain ⟨MA_6, zh13, h⟩ := bnd h
            have zh13 : f_M_keepsAct MA_2 = some MA_6 := zh13
            have ze14 := R_f_M_keepsAct_0 (d + 2) Y T HA HB RA RB ST NS I0 I1 I2 BO FI RG GU PU MA_2 MN MS OT SC r0 r1 r2 r3 w r5 r6 r7 r8 L Lg zh13
            suffices e : Ev (d + 3, 0, 0, 83, 86, [.val (.ref 1088), .val (.int p1), .val (.int p2), .val (.int p3), .val (.int ((3 * p2) + p3)), .val (.int x5)], [], (126, 120, L, [Y, T, HA, HB, RA, RB, ST, NS, I0, I1, I2, BO, FI, RG, GU, PU, MA_6, MN, MS, OT, SC], [r0, r1, r2, r3, w, r5, r6, r7, r8], Lg)) o from ev_call (fun v μ => (d + 3, 0, 0, 83, 86, [.val (.ref 1088), .val (.int p1), .val (.int p2), .val (.int p3), .val (.int ((3 * p2) + p3)), .val (.int x5)], v.toList ++ [], μ)) 2 ze14 e (fun n => Eq.refl _)
            obtain ⟨MA_7, zh15, h⟩ := bnd h
            have zh15 : f_M_goesTo MA_6 p1 ((3 * p2) + p3) = some MA_7 := zh15
            have ze16 := R_f_M_goesTo_0 (d + 2) Y T HA HB RA RB ST NS I0 I1 I2 BO FI RG GU PU MA_6 MN MS OT SC r0 r1 r2 r3 w r5 r6 r7 r8 L Lg p1 ((3 * p2) + p3) zh15
            suffices e : Ev (d + 3, 0, 0, 83, 93, [.val (.ref 1088), .val (.int p1), .val (.int p2), .val (.int p3), .val (.int ((3 * p2) + p3)), .val (.int x5)], [], (126, 120, L, [Y, T, HA, HB, RA, RB, ST, NS, I0, I1, I2, BO, FI, RG, GU, PU, MA_7, MN, MS, OT, SC], [r0, r1, r2, r3, w, r5, r6, r7, r8], Lg)) o from ev_call (fun v μ => (d + 3, 0, 0, 83, 93, [.val (.ref 1088), .val (.int p1), .val (.int p2), .val (.int p3), .val (.int ((3 * p2) + p3)), .val (.int x5)], v.toList ++ [], μ)) 4 ze16 e (fun n => Eq.refl _)
            have ze17 := Option.some.inj h
            subst ze17
            exact ev_rete 2 ho (fun n => Eq.refl _)
          · have h := itn h zc12
            suffices e : Ev (d + 3, 0, 0, 83, 78, [.val (.ref 1088), .val (.int p1), .val (.int p2), .val (.int p3), .val (.int ((3 * p2) + p3)), .val (.int x5)], [], (126, 120, L, [Y, T, HA, HB, RA, RB, ST, NS, I0, I1, I2, BO, FI, RG, GU, PU, MA_2, MN, MS, OT, SC], [r0, r1, r2, r3, w, r5, r6, r7, r8], Lg)) o from ev_f (c := x5 = 0) _ _ 3  zc12 e (fun n => Eq.refl _)
            have ze18 := Option.some.inj h
            subst ze18
            exact ev_rete 3 ho (fun n => Eq.refl _)
        · have h := itn h zc9
          suffices e : Ev (d + 3, 0, 0, 83, 57, [.val (.ref 1088), .val (.int p1), .val (.int p2), .val (.int p3), .val (.int ((3 * p2) + p3)), .val a_unk], [], (126, 120, L, [Y, T, HA, HB, RA, RB, ST, NS, I0, I1, I2, BO, FI, RG, GU, PU, MA_2, MN, MS, OT, SC], [r0, r1, r2, r3, w, r5, r6, r7, r8], Lg)) o from ev_f (c := x4 = 0) _ _ 1  zc9 e (fun n => Eq.refl _)
          have ze19 := Option.some.inj h
          subst ze19
          exact ev_rete 2 ho (fun n => Eq.refl _)
      · have h := itn h zc6
        suffices e : Ev (d + 3, 0, 0, 83, 46, [.val (.ref 1088), .val (.int p1), .val (.int p2), .val (.int p3), .val (.int ((3 * p2) + p3)), .val a_unk], [], (126, 120, L, [Y, T, HA, HB, RA, RB, ST, NS, I0, I1, I2, BO, FI, RG, GU, PU, MA_2, MN, MS, OT, SC], [r0, r1, r2, r3, w, r5, r6, r7, r8], Lg)) o from ev_f (c := (MA_2 0 43) ≠ 30) _ _ 4  zc6 e (fun n => Eq.refl _)
        have ze20 := Option.some.inj h
        subst ze20
        exact ev_rete 2 ho (fun n => Eq.refl _)
    · have h := itn h zc5
      suffices e : Ev (d + 3, 0, 0, 83, 35, [.val (.ref 1088), .val (.int p1), .val (.int p2), .val (.int p3), .val (.int ((3 * p2) + p3)), .val a_unk], [], (126, 120, L, [Y, T, HA, HB, RA, RB, ST, NS, I0, I1, I2, BO, FI, RG, GU, PU, MA_2, MN, MS, OT, SC], [r0, r1, r2, r3, w, r5, r6, r7, r8], Lg)) o from ev_f (c := x3 ≠ ((3 * p2) + p3)) _ _ 2  zc5 e (fun n => Eq.refl _)
      have ze21 := Option.some.inj h
      subst ze21
      exact ev_rete 2 ho (fun n => Eq.refl _)
  · have h := itn h zc3
    suffices e : Ev (d + 3, 0, 0, 83, 15, [.val (.ref 1088), .val (.int p1), .val (.int p2), .val (.int p3), .val a_unk, .val a_unk], [], (126, 120, L, [Y, T, HA, HB, RA, RB, ST, NS, I0, I1, I2, BO, FI, RG, GU, PU, MA_2, MN, MS, OT, SC], [r0, r1, r2, r3, w, r5, r6, r7, r8], Lg)) o from ev_f (c := x1 ≠ 0) _ _ 1  zc3 e (fun n => Eq.refl _)
    have ze22 := Option.some.inj h
    subst ze22
    exact ev_rete 2 ho (fun n => Eq.refl _)
set_option maxRecDepth 1000000 in
set_option maxHeartbeats 4000000 in
theorem R_f_M_drop_0 (d : Nat) (Y T HA HB RA RB ST NS I0 I1 I2 BO FI RG GU PU MA MN MS OT SC : Nat → Nat → Int32) (r0 r1 r2 r3 w r5 r6 r7 r8 : Nat) (L : Nat) (Lg : Int64) (p1 : Int32) {r : Int32 × (Nat → Nat → Int32)} (h : f_M_drop MA p1 = some r) : Ev (d + 2, 0, 0, 84, 0, [.val (.ref 1088), .val (.int p1)], [], (126, 120, L, [Y, T, HA, HB, RA, RB, ST, NS, I0, I1, I2, BO, FI, RG, GU, PU, MA, MN, MS, OT, SC], [r0, r1, r2, r3, w, r5, r6, r7, r8], Lg)) ((0, some (.int r.1), (126, 120, L, [Y, T, HA, HB, RA, RB, ST, NS, I0, I1, I2, BO, FI, RG, GU, PU, r.2, MN, MS, OT, SC], [r0, r1, r2, r3, w, r5, r6, r7, r8], Lg)) : AOut) := by
  suffices key : ∀ o : AOut, ((0, some (.int r.1), (126, 120, L, [Y, T, HA, HB, RA, RB, ST, NS, I0, I1, I2, BO, FI, RG, GU, PU, r.2, MN, MS, OT, SC], [r0, r1, r2, r3, w, r5, r6, r7, r8], Lg)) : AOut) = o → Ev (d + 2, 0, 0, 84, 0, [.val (.ref 1088), .val (.int p1)], [], (126, 120, L, [Y, T, HA, HB, RA, RB, ST, NS, I0, I1, I2, BO, FI, RG, GU, PU, MA, MN, MS, OT, SC], [r0, r1, r2, r3, w, r5, r6, r7, r8], Lg)) o from key _ rfl
  intro o ho
  obtain ⟨⟨x1, MA_2⟩, zh1, h⟩ := bnd h
  have zh1 : f_M_isMeeting (u2 MA 0 0 0) p1 1 = some (x1, MA_2) := zh1
  have ze2 := R_f_M_isMeeting_0 (d + 0) Y T HA HB RA RB ST NS I0 I1 I2 BO FI RG GU PU (u2 MA 0 0 0) MN MS OT SC r0 r1 r2 r3 w r5 r6 r7 r8 L Lg p1 1 zh1
  suffices e : Ev (d + 2, 0, 0, 84, 11, [.val (.ref 1088), .val (.int p1)], [.int x1], (126, 120, L, [Y, T, HA, HB, RA, RB, ST, NS, I0, I1, I2, BO, FI, RG, GU, PU, MA_2, MN, MS, OT, SC], [r0, r1, r2, r3, w, r5, r6, r7, r8], Lg)) o from ev_call (fun v μ => (d + 2, 0, 0, 84, 11, [.val (.ref 1088), .val (.int p1)], v.toList ++ [], μ)) 7 ze2 e (fun n => Eq.refl _)
  by_cases zc3 : x1 ≠ 0
  · have h := itp h zc3
    suffices e : Ev (d + 2, 0, 0, 84, 16, [.val (.ref 1088), .val (.int p1)], [], (126, 120, L, [Y, T, HA, HB, RA, RB, ST, NS, I0, I1, I2, BO, FI, RG, GU, PU, MA_2, MN, MS, OT, SC], [r0, r1, r2, r3, w, r5, r6, r7, r8], Lg)) o from ev_t (c := x1 ≠ 0) _ _ 1  zc3 e (fun n => Eq.refl _)
    obtain ⟨x3, zh4, h⟩ := bnd h
    have zh4 : rdx (MA_2 7) 10 p1 = some x3 := zh4
    suffices e : Ev (d + 2, 0, 0, 84, 22, [.val (.ref 1088), .val (.int p1)], [.int x3], (126, 120, L, [Y, T, HA, HB, RA, RB, ST, NS, I0, I1, I2, BO, FI, RG, GU, PU, MA_2, MN, MS, OT, SC], [r0, r1, r2, r3, w, r5, r6, r7, r8], Lg)) o from ev_opt (fun x3 => (d + 2, 0, 0, 84, 22, [.val (.ref 1088), .val (.int p1)], [.int x3], (126, 120, L, [Y, T, HA, HB, RA, RB, ST, NS, I0, I1, I2, BO, FI, RG, GU, PU, MA_2, MN, MS, OT, SC], [r0, r1, r2, r3, w, r5, r6, r7, r8], Lg))) 4 zh4 e (fun n => Eq.refl _)
    by_cases zc5 : x3 ≠ (-1)
    · have h := itp h zc5
      suffices e : Ev (d + 2, 0, 0, 84, 28, [.val (.ref 1088), .val (.int p1)], [], (126, 120, L, [Y, T, HA, HB, RA, RB, ST, NS, I0, I1, I2, BO, FI, RG, GU, PU, MA_2, MN, MS, OT, SC], [r0, r1, r2, r3, w, r5, r6, r7, r8], Lg)) o from ev_t (c := x3 ≠ (-1)) _ _ 2  zc5 e (fun n => Eq.refl _)
      by_cases zc6 : (MA_2 0 43) ≠ 30
      · have h := itp h zc6
        suffices e : Ev (d + 2, 0, 0, 84, 40, [.val (.ref 1088), .val (.int p1)], [], (126, 120, L, [Y, T, HA, HB, RA, RB, ST, NS, I0, I1, I2, BO, FI, RG, GU, PU, MA_2, MN, MS, OT, SC], [r0, r1, r2, r3, w, r5, r6, r7, r8], Lg)) o from ev_t (c := (MA_2 0 43) ≠ 30) _ _ 4  zc6 e (fun n => Eq.refl _)
        obtain ⟨x4, zh7, h⟩ := bnd h
        have zh7 : f_M_isFixed MA_2 p1 = some x4 := zh7
        have ze8 := R_f_M_isFixed_0 (d + 1) Y T HA HB RA RB ST NS I0 I1 I2 BO FI RG GU PU MA_2 MN MS OT SC r0 r1 r2 r3 w r5 r6 r7 r8 L Lg p1 zh7
        suffices e : Ev (d + 2, 0, 0, 84, 45, [.val (.ref 1088), .val (.int p1)], [.int x4], (126, 120, L, [Y, T, HA, HB, RA, RB, ST, NS, I0, I1, I2, BO, FI, RG, GU, PU, MA_2, MN, MS, OT, SC], [r0, r1, r2, r3, w, r5, r6, r7, r8], Lg)) o from ev_call (fun v μ => (d + 2, 0, 0, 84, 45, [.val (.ref 1088), .val (.int p1)], v.toList ++ [], μ)) 3 ze8 e (fun n => Eq.refl _)
        by_cases zc9 : x4 = 0
        · have h := itp h zc9
          suffices e : Ev (d + 2, 0, 0, 84, 51, [.val (.ref 1088), .val (.int p1)], [], (126, 120, L, [Y, T, HA, HB, RA, RB, ST, NS, I0, I1, I2, BO, FI, RG, GU, PU, MA_2, MN, MS, OT, SC], [r0, r1, r2, r3, w, r5, r6, r7, r8], Lg)) o from ev_t (c := x4 = 0) _ _ 1  zc9 e (fun n => Eq.refl _)
          obtain ⟨MA_5, zh10, h⟩ := bnd h
          have zh10 : f_M_keepsAct MA_2 = some MA_5 := zh10
          have ze11 := R_f_M_keepsAct_0 (d + 1) Y T HA HB RA RB ST NS I0 I1 I2 BO FI RG GU PU MA_2 MN MS OT SC r0 r1 r2 r3 w r5 r6 r7 r8 L Lg zh10
          suffices e : Ev (d + 2, 0, 0, 84, 55, [.val (.ref 1088), .val (.int p1)], [], (126, 120, L, [Y, T, HA, HB, RA, RB, ST, NS, I0, I1, I2, BO, FI, RG, GU, PU, MA_5, MN, MS, OT, SC], [r0, r1, r2, r3, w, r5, r6, r7, r8], Lg)) o from ev_call (fun v μ => (d + 2, 0, 0, 84, 55, [.val (.ref 1088), .val (.int p1)], v.toList ++ [], μ)) 2 ze11 e (fun n => Eq.refl _)
          obtain ⟨j6, zh12, h⟩ := bnd h
          have zh12 : ixx 10 p1 = some j6 := zh12
          suffices e : Ev (d + 2, 0, 0, 84, 62, [.val (.ref 1088), .val (.int p1)], [], (126, 120, L, [Y, T, HA, HB, RA, RB, ST, NS, I0, I1, I2, BO, FI, RG, GU, PU, (u2 MA_5 7 j6 (-1)), MN, MS, OT, SC], [r0, r1, r2, r3, w, r5, r6, r7, r8], Lg)) o from ev_opt (fun j6 => (d + 2, 0, 0, 84, 62, [.val (.ref 1088), .val (.int p1)], [], (126, 120, L, [Y, T, HA, HB, RA, RB, ST, NS, I0, I1, I2, BO, FI, RG, GU, PU, (u2 MA_5 7 j6 (-1)), MN, MS, OT, SC], [r0, r1, r2, r3, w, r5, r6, r7, r8], Lg))) 5 zh12 e (fun n => Eq.refl _)
          have ze13 := Option.some.inj h
          subst ze13
          exact ev_rete 2 ho (fun n => Eq.refl _)
        · have h := itn h zc9
          suffices e : Ev (d + 2, 0, 0, 84, 48, [.val (.ref 1088), .val (.int p1)], [], (126, 120, L, [Y, T, HA, HB, RA, RB, ST, NS, I0, I1, I2, BO, FI, RG, GU, PU, MA_2, MN, MS, OT, SC], [r0, r1, r2, r3, w, r5, r6, r7, r8], Lg)) o from ev_f (c := x4 = 0) _ _ 1  zc9 e (fun n => Eq.refl _)
          have ze14 := Option.some.inj h
          subst ze14
          exact ev_rete 2 ho (fun n => Eq.refl _)
      · have h := itn h zc6
        suffices e : Ev (d + 2, 0, 0, 84, 37, [.val (.ref 1088), .val (.int p1)], [], (126, 120, L, [Y, T, HA, HB, RA, RB, ST, NS, I0, I1, I2, BO, FI, RG, GU, PU, MA_2, MN, MS, OT, SC], [r0, r1, r2, r3, w, r5, r6, r7, r8], Lg)) o from ev_f (c := (MA_2 0 43) ≠ 30) _ _ 4  zc6 e (fun n => Eq.refl _)
        have ze15 := Option.some.inj h
        subst ze15
        exact ev_rete 2 ho (fun n => Eq.refl _)
    · have h := itn h zc5
      suffices e : Ev (d + 2, 0, 0, 84, 26, [.val (.ref 1088), .val (.int p1)], [], (126, 120, L, [Y, T, HA, HB, RA, RB, ST, NS, I0, I1, I2, BO, FI, RG, GU, PU, MA_2, MN, MS, OT, SC], [r0, r1, r2, r3, w, r5, r6, r7, r8], Lg)) o from ev_f (c := x3 ≠ (-1)) _ _ 2  zc5 e (fun n => Eq.refl _)
      have ze16 := Option.some.inj h
      subst ze16
      exact ev_rete 2 ho (fun n => Eq.refl _)
  · have h := itn h zc3
    suffices e : Ev (d + 2, 0, 0, 84, 14, [.val (.ref 1088), .val (.int p1)], [], (126, 120, L, [Y, T, HA, HB, RA, RB, ST, NS, I0, I1, I2, BO, FI, RG, GU, PU, MA_2, MN, MS, OT, SC], [r0, r1, r2, r3, w, r5, r6, r7, r8], Lg)) o from ev_f (c := x1 ≠ 0) _ _ 1  zc3 e (fun n => Eq.refl _)
    have ze17 := Option.some.inj h
    subst ze17
    exact ev_rete 2 ho (fun n => Eq.refl _)
set_option maxRecDepth 1000000 in
set_option maxHeartbeats 4000000 in
theorem R_f_M_undo_0 (d : Nat) (Y T HA HB RA RB ST NS I0 I1 I2 BO FI RG GU PU MA MN MS OT SC : Nat → Nat → Int32) (r0 r1 r2 r3 w r5 r6 r7 r8 : Nat) (L : Nat) (Lg : Int64) {r : Int32 × (Nat → Nat → Int32)} (h : f_M_undo MA = some r) : Ev (d + 0, 0, 0, 85, 0, [.val (.ref 1088), .val a_unk], [], (126, 120, L, [Y, T, HA, HB, RA, RB, ST, NS, I0, I1, I2, BO, FI, RG, GU, PU, MA, MN, MS, OT, SC], [r0, r1, r2, r3, w, r5, r6, r7, r8], Lg)) ((0, some (.int r.1), (126, 120, L, [Y, T, HA, HB, RA, RB, ST, NS, I0, I1, I2, BO, FI, RG, GU, PU, r.2, MN, MS, OT, SC], [r0, r1, r2, r3, w, r5, r6, r7, r8], Lg)) : AOut) := by
  suffices key : ∀ o : AOut, ((0, some (.int r.1), (126, 120, L, [Y, T, HA, HB, RA, RB, ST, NS, I0, I1, I2, BO, FI, RG, GU, PU, r.2, MN, MS, OT, SC], [r0, r1, r2, r3, w, r5, r6, r7, r8], Lg)) : AOut) = o → Ev (d + 0, 0, 0, 85, 0, [.val (.ref 1088), .val a_unk], [], (126, 120, L, [Y, T, HA, HB, RA, RB, ST, NS, I0, I1, I2, BO, FI, RG, GU, PU, MA, MN, MS, OT, SC], [r0, r1, r2, r3, w, r5, r6, r7, r8], Lg)) o from key _ rfl
  intro o ho
  by_cases zc1 : ((u2 MA 0 0 0) 0 43) ≠ 0
  · have h := itp h zc1
    suffices e : Ev (d + 0, 0, 0, 85, 14, [.val (.ref 1088), .val a_unk], [], (126, 120, L, [Y, T, HA, HB, RA, RB, ST, NS, I0, I1, I2, BO, FI, RG, GU, PU, (u2 MA 0 0 0), MN, MS, OT, SC], [r0, r1, r2, r3, w, r5, r6, r7, r8], Lg)) o from ev_t (c := ((u2 MA 0 0 0) 0 43) ≠ 0) _ _ 6  zc1 e (fun n => Eq.refl _)
    obtain ⟨MA_8, zh3, h⟩ := bnd h
    suffices e : Ev (d + 0, 0, 0, 85, 26, [.val (.ref 1088), .val (.int 0)], [], (126, 120, L, [Y, T, HA, HB, RA, RB, ST, NS, I0, I1, I2, BO, FI, RG, GU, PU, (u2 (u2 MA 0 0 0) 0 43 (((u2 MA 0 0 0) 0 43) - 1)), MN, MS, OT, SC], [r0, r1, r2, r3, w, r5, r6, r7, r8], Lg)) o from ev_b 8 e (fun n => Eq.refl _)
    refine ev_loop (δ := Unit) (fun a j => (d + 0, 0, 0, 85, 26, [.val (.ref 1088), .val (.int a.1)], [], (126, 120, L, [Y, T, HA, HB, RA, RB, ST, NS, I0, I1, I2, BO, FI, RG, GU, PU, a.2, MN, MS, OT, SC], [r0, r1, r2, r3, w, r5, r6, r7, r8], Lg))) (fun b => ∀ s7 : Value, Ev (d + 0, 0, 0, 85, 81, [.val (.ref 1088), .val s7], [], (126, 120, L, [Y, T, HA, HB, RA, RB, ST, NS, I0, I1, I2, BO, FI, RG, GU, PU, b, MN, MS, OT, SC], [r0, r1, r2, r3, w, r5, r6, r7, r8], Lg)) o) ?_ a_F (0, (u2 (u2 MA 0 0 0) 0 43 (((u2 MA 0 0 0) 0 43) - 1))) MA_8 zh3 ?_ ()
    · rintro ⟨v1, MA_2⟩ zr7 zh6 zi4 zx5 ⟨⟩
      have zh6 : f_M_undo_l26 v1 MA_2 = some zr7 := zh6
      by_cases zc8 : 10 ≤ v1
      · have zh6 := itp zh6 zc8
        suffices e : Ev (d + 0, 0, 0, 85, 81, [.val (.ref 1088), .val (.int v1)], [], (126, 120, L, [Y, T, HA, HB, RA, RB, ST, NS, I0, I1, I2, BO, FI, RG, GU, PU, MA_2, MN, MS, OT, SC], [r0, r1, r2, r3, w, r5, r6, r7, r8], Lg)) o from ev_t (c := 10 ≤ v1) _ _ 3  zc8 e (fun n => Eq.refl _)
        exact ev_b 0 (zx5 _ (Option.some.inj zh6).symm (.int v1)) (fun n => Eq.refl _)
      · have zh6 := itn zh6 zc8
        suffices e : Ev (d + 0, 0, 0, 85, 32, [.val (.ref 1088), .val (.int v1)], [], (126, 120, L, [Y, T, HA, HB, RA, RB, ST, NS, I0, I1, I2, BO, FI, RG, GU, PU, MA_2, MN, MS, OT, SC], [r0, r1, r2, r3, w, r5, r6, r7, r8], Lg)) o from ev_f (c := 10 ≤ v1) _ _ 3  zc8 e (fun n => Eq.refl _)
        obtain ⟨x3, zh9, zh6⟩ := bnd zh6
        have zh9 : rdx (MA_2 12) 600 ((20 * (MA_2 0 43)) + v1) = some x3 := zh9
        suffices e : Ev (d + 0, 0, 0, 85, 51, [.val (.ref 1088), .val (.int v1)], [.int x3, .int v1, .ref 1095], (126, 120, L, [Y, T, HA, HB, RA, RB, ST, NS, I0, I1, I2, BO, FI, RG, GU, PU, MA_2, MN, MS, OT, SC], [r0, r1, r2, r3, w, r5, r6, r7, r8], Lg)) o from ev_opt (fun x3 => (d + 0, 0, 0, 85, 51, [.val (.ref 1088), .val (.int v1)], [.int x3, .int v1, .ref 1095], (126, 120, L, [Y, T, HA, HB, RA, RB, ST, NS, I0, I1, I2, BO, FI, RG, GU, PU, MA_2, MN, MS, OT, SC], [r0, r1, r2, r3, w, r5, r6, r7, r8], Lg))) 12 zh9 e (fun n => Eq.refl _)
        obtain ⟨j4, zh10, zh6⟩ := bnd zh6
        have zh10 : ixx 10 v1 = some j4 := zh10
        suffices e : Ev (d + 0, 0, 0, 85, 52, [.val (.ref 1088), .val (.int v1)], [], (126, 120, L, [Y, T, HA, HB, RA, RB, ST, NS, I0, I1, I2, BO, FI, RG, GU, PU, (u2 MA_2 7 j4 x3), MN, MS, OT, SC], [r0, r1, r2, r3, w, r5, r6, r7, r8], Lg)) o from ev_opt (fun j4 => (d + 0, 0, 0, 85, 52, [.val (.ref 1088), .val (.int v1)], [], (126, 120, L, [Y, T, HA, HB, RA, RB, ST, NS, I0, I1, I2, BO, FI, RG, GU, PU, (u2 MA_2 7 j4 x3), MN, MS, OT, SC], [r0, r1, r2, r3, w, r5, r6, r7, r8], Lg))) 1 zh10 e (fun n => Eq.refl _)
        obtain ⟨x5, zh11, zh6⟩ := bnd zh6
        have zh11 : rdx ((u2 MA_2 7 j4 x3) 12) 600 (((20 * ((u2 MA_2 7 j4 x3) 0 43)) + 10) + v1) = some x5 := zh11
        suffices e : Ev (d + 0, 0, 0, 85, 74, [.val (.ref 1088), .val (.int v1)], [.int x5, .int v1, .ref 1096], (126, 120, L, [Y, T, HA, HB, RA, RB, ST, NS, I0, I1, I2, BO, FI, RG, GU, PU, (u2 MA_2 7 j4 x3), MN, MS, OT, SC], [r0, r1, r2, r3, w, r5, r6, r7, r8], Lg)) o from ev_opt (fun x5 => (d + 0, 0, 0, 85, 74, [.val (.ref 1088), .val (.int v1)], [.int x5, .int v1, .ref 1096], (126, 120, L, [Y, T, HA, HB, RA, RB, ST, NS, I0, I1, I2, BO, FI, RG, GU, PU, (u2 MA_2 7 j4 x3), MN, MS, OT, SC], [r0, r1, r2, r3, w, r5, r6, r7, r8], Lg))) 14 zh11 e (fun n => Eq.refl _)
        obtain ⟨j6, zh12, zh6⟩ := bnd zh6
        have zh12 : ixx 10 v1 = some j6 := zh12
        suffices e : Ev (d + 0, 0, 0, 85, 75, [.val (.ref 1088), .val (.int v1)], [], (126, 120, L, [Y, T, HA, HB, RA, RB, ST, NS, I0, I1, I2, BO, FI, RG, GU, PU, (u2 (u2 MA_2 7 j4 x3) 8 j6 x5), MN, MS, OT, SC], [r0, r1, r2, r3, w, r5, r6, r7, r8], Lg)) o from ev_opt (fun j6 => (d + 0, 0, 0, 85, 75, [.val (.ref 1088), .val (.int v1)], [], (126, 120, L, [Y, T, HA, HB, RA, RB, ST, NS, I0, I1, I2, BO, FI, RG, GU, PU, (u2 (u2 MA_2 7 j4 x3) 8 j6 x5), MN, MS, OT, SC], [r0, r1, r2, r3, w, r5, r6, r7, r8], Lg))) 1 zh12 e (fun n => Eq.refl _)
        exact ev_b 2 (zi4 _ (Option.some.inj zh6).symm ()) (fun n => Eq.refl _)
    · skip
      intro s7
      have ze13 := Option.some.inj h
      subst ze13
      exact ev_rete 3 ho (fun n => Eq.refl _)
  · have h := itn h zc1
    suffices e : Ev (d + 0, 0, 0, 85, 12, [.val (.ref 1088), .val a_unk], [], (126, 120, L, [Y, T, HA, HB, RA, RB, ST, NS, I0, I1, I2, BO, FI, RG, GU, PU, (u2 MA 0 0 0), MN, MS, OT, SC], [r0, r1, r2, r3, w, r5, r6, r7, r8], Lg)) o from ev_f (c := ((u2 MA 0 0 0) 0 43) ≠ 0) _ _ 6  zc1 e (fun n => Eq.refl _)
    have ze14 := Option.some.inj h
    subst ze14
    exact ev_rete 2 ho (fun n => Eq.refl _)
set_option maxRecDepth 1000000 in
set_option maxHeartbeats 4000000 in
theorem R_f_M_let_0 (d : Nat) (Y T HA HB RA RB ST NS I0 I1 I2 BO FI RG GU PU MA MN MS OT SC : Nat → Nat → Int32) (r0 r1 r2 r3 w r5 r6 r7 r8 : Nat) (L : Nat) (Lg : Int64) (p1 : Int32) {r : Int32 × (Nat → Nat → Int32)} (h : f_M_let MA p1 = some r) : Ev (d + 2, 0, 0, 86, 0, [.val (.ref 1088), .val (.int p1), .val a_unk], [], (126, 120, L, [Y, T, HA, HB, RA, RB, ST, NS, I0, I1, I2, BO, FI, RG, GU, PU, MA, MN, MS, OT, SC], [r0, r1, r2, r3, w, r5, r6, r7, r8], Lg)) ((0, some (.int r.1), (126, 120, L, [Y, T, HA, HB, RA, RB, ST, NS, I0, I1, I2, BO, FI, RG, GU, PU, r.2, MN, MS, OT, SC], [r0, r1, r2, r3, w, r5, r6, r7, r8], Lg)) : AOut) := by
  suffices key : ∀ o : AOut, ((0, some (.int r.1), (126, 120, L, [Y, T, HA, HB, RA, RB, ST, NS, I0, I1, I2, BO, FI, RG, GU, PU, r.2, MN, MS, OT, SC], [r0, r1, r2, r3, w, r5, r6, r7, r8], Lg)) : AOut) = o → Ev (d + 2, 0, 0, 86, 0, [.val (.ref 1088), .val (.int p1), .val a_unk], [], (126, 120, L, [Y, T, HA, HB, RA, RB, ST, NS, I0, I1, I2, BO, FI, RG, GU, PU, MA, MN, MS, OT, SC], [r0, r1, r2, r3, w, r5, r6, r7, r8], Lg)) o from key _ rfl
  intro o ho
  obtain ⟨⟨x1, MA_2⟩, zh1, h⟩ := bnd h
  have zh1 : f_M_isHold (u2 MA 0 0 0) p1 1 = some (x1, MA_2) := zh1
  have ze2 := R_f_M_isHold_0 (d + 0) Y T HA HB RA RB ST NS I0 I1 I2 BO FI RG GU PU (u2 MA 0 0 0) MN MS OT SC r0 r1 r2 r3 w r5 r6 r7 r8 L Lg p1 1 zh1
  suffices e : Ev (d + 2, 0, 0, 86, 11, [.val (.ref 1088), .val (.int p1), .val a_unk], [.int x1], (126, 120, L, [Y, T, HA, HB, RA, RB, ST, NS, I0, I1, I2, BO, FI, RG, GU, PU, MA_2, MN, MS, OT, SC], [r0, r1, r2, r3, w, r5, r6, r7, r8], Lg)) o from ev_call (fun v μ => (d + 2, 0, 0, 86, 11, [.val (.ref 1088), .val (.int p1), .val a_unk], v.toList ++ [], μ)) 7 ze2 e (fun n => Eq.refl _)
  by_cases zc3 : x1 ≠ 0
  · have h := itp h zc3
    suffices e : Ev (d + 2, 0, 0, 86, 16, [.val (.ref 1088), .val (.int p1), .val a_unk], [], (126, 120, L, [Y, T, HA, HB, RA, RB, ST, NS, I0, I1, I2, BO, FI, RG, GU, PU, MA_2, MN, MS, OT, SC], [r0, r1, r2, r3, w, r5, r6, r7, r8], Lg)) o from ev_t (c := x1 ≠ 0) _ _ 1  zc3 e (fun n => Eq.refl _)
    obtain ⟨x3, zh4, h⟩ := bnd h
    have zh4 : rdx (MA_2 6) 16 ((4 * p1) + 3) = some x3 := zh4
    suffices e : Ev (d + 2, 0, 0, 86, 26, [.val (.ref 1088), .val (.int p1), .val a_unk], [.int x3], (126, 120, L, [Y, T, HA, HB, RA, RB, ST, NS, I0, I1, I2, BO, FI, RG, GU, PU, MA_2, MN, MS, OT, SC], [r0, r1, r2, r3, w, r5, r6, r7, r8], Lg)) o from ev_opt (fun x3 => (d + 2, 0, 0, 86, 26, [.val (.ref 1088), .val (.int p1), .val a_unk], [.int x3], (126, 120, L, [Y, T, HA, HB, RA, RB, ST, NS, I0, I1, I2, BO, FI, RG, GU, PU, MA_2, MN, MS, OT, SC], [r0, r1, r2, r3, w, r5, r6, r7, r8], Lg))) 8 zh4 e (fun n => Eq.refl _)
    obtain ⟨j4, zh5, h⟩ := bnd h
    have zh5 : ixx 16 ((4 * p1) + 3) = some j4 := zh5
    suffices e : Ev (d + 2, 0, 0, 86, 38, [.val (.ref 1088), .val (.int p1), .val (.int x3)], [], (126, 120, L, [Y, T, HA, HB, RA, RB, ST, NS, I0, I1, I2, BO, FI, RG, GU, PU, (u2 MA_2 6 j4 1), MN, MS, OT, SC], [r0, r1, r2, r3, w, r5, r6, r7, r8], Lg)) o from ev_opt (fun j4 => (d + 2, 0, 0, 86, 38, [.val (.ref 1088), .val (.int p1), .val (.int x3)], [], (126, 120, L, [Y, T, HA, HB, RA, RB, ST, NS, I0, I1, I2, BO, FI, RG, GU, PU, (u2 MA_2 6 j4 1), MN, MS, OT, SC], [r0, r1, r2, r3, w, r5, r6, r7, r8], Lg))) 10 zh5 e (fun n => Eq.refl _)
    have ze6 := Option.some.inj h
    subst ze6
    exact ev_rete 4 ho (fun n => Eq.refl _)
  · have h := itn h zc3
    suffices e : Ev (d + 2, 0, 0, 86, 14, [.val (.ref 1088), .val (.int p1), .val a_unk], [], (126, 120, L, [Y, T, HA, HB, RA, RB, ST, NS, I0, I1, I2, BO, FI, RG, GU, PU, MA_2, MN, MS, OT, SC], [r0, r1, r2, r3, w, r5, r6, r7, r8], Lg)) o from ev_f (c := x1 ≠ 0) _ _ 1  zc3 e (fun n => Eq.refl _)
    have ze7 := Option.some.inj h
    subst ze7
    exact ev_rete 2 ho (fun n => Eq.refl _)
set_option maxRecDepth 1000000 in
set_option maxHeartbeats 4000000 in
theorem R_f_M_hold_0 (d : Nat) (Y T HA HB RA RB ST NS I0 I1 I2 BO FI RG GU PU MA MN MS OT SC : Nat → Nat → Int32) (r0 r1 r2 r3 w r5 r6 r7 r8 : Nat) (L : Nat) (Lg : Int64) (p1 : Int32) (p2 : Int32) {r : Int32 × (Nat → Nat → Int32)} (h : f_M_hold MA p1 p2 = some r) : Ev (d + 3, 0, 0, 87, 0, [.val (.ref 1088), .val (.int p1), .val (.int p2), .val a_unk, .val a_unk, .val a_unk], [], (126, 120, L, [Y, T, HA, HB, RA, RB, ST, NS, I0, I1, I2, BO, FI, RG, GU, PU, MA, MN, MS, OT, SC], [r0, r1, r2, r3, w, r5, r6, r7, r8], Lg)) ((0, some (.int r.1), (126, 120, L, [Y, T, HA, HB, RA, RB, ST, NS, I0, I1, I2, BO, FI, RG, GU, PU, r.2, MN, MS, OT, SC], [r0, r1, r2, r3, w, r5, r6, r7, r8], Lg)) : AOut) := by
  suffices key : ∀ o : AOut, ((0, some (.int r.1), (126, 120, L, [Y, T, HA, HB, RA, RB, ST, NS, I0, I1, I2, BO, FI, RG, GU, PU, r.2, MN, MS, OT, SC], [r0, r1, r2, r3, w, r5, r6, r7, r8], Lg)) : AOut) = o → Ev (d + 3, 0, 0, 87, 0, [.val (.ref 1088), .val (.int p1), .val (.int p2), .val a_unk, .val a_unk, .val a_unk], [], (126, 120, L, [Y, T, HA, HB, RA, RB, ST, NS, I0, I1, I2, BO, FI, RG, GU, PU, MA, MN, MS, OT, SC], [r0, r1, r2, r3, w, r5, r6, r7, r8], Lg)) o from key _ rfl
  intro o ho
  obtain ⟨⟨x1, MA_2⟩, zh1, h⟩ := bnd h
  have zh1 : f_M_isHold (u2 MA 0 0 0) p1 1 = some (x1, MA_2) := zh1
  have ze2 := R_f_M_isHold_0 (d + 1) Y T HA HB RA RB ST NS I0 I1 I2 BO FI RG GU PU (u2 MA 0 0 0) MN MS OT SC r0 r1 r2 r3 w r5 r6 r7 r8 L Lg p1 1 zh1
  suffices e : Ev (d + 3, 0, 0, 87, 11, [.val (.ref 1088), .val (.int p1), .val (.int p2), .val a_unk, .val a_unk, .val a_unk], [.int x1], (126, 120, L, [Y, T, HA, HB, RA, RB, ST, NS, I0, I1, I2, BO, FI, RG, GU, PU, MA_2, MN, MS, OT, SC], [r0, r1, r2, r3, w, r5, r6, r7, r8], Lg)) o from ev_call (fun v μ => (d + 3, 0, 0, 87, 11, [.val (.ref 1088), .val (.int p1), .val (.int p2), .val a_unk, .val a_unk, .val a_unk], v.toList ++ [], μ)) 7 ze2 e (fun n => Eq.refl _)
  by_cases zc3 : x1 = 0
  · have h := itp h zc3
    suffices e : Ev (d + 3, 0, 0, 87, 29, [.val (.ref 1088), .val (.int p1), .val (.int p2), .val a_unk, .val a_unk, .val a_unk], [], (126, 120, L, [Y, T, HA, HB, RA, RB, ST, NS, I0, I1, I2, BO, FI, RG, GU, PU, MA_2, MN, MS, OT, SC], [r0, r1, r2, r3, w, r5, r6, r7, r8], Lg)) o from ev_t (c := x1 = 0) _ _ 1  zc3 e (fun n => Eq.refl _)
    have ze4 := Option.some.inj h
    subst ze4
    exact ev_rete 2 ho (fun n => Eq.refl _)
  · have h := itn h zc3
    suffices e : Ev (d + 3, 0, 0, 87, 14, [.val (.ref 1088), .val (.int p1), .val (.int p2), .val a_unk, .val a_unk, .val a_unk], [], (126, 120, L, [Y, T, HA, HB, RA, RB, ST, NS, I0, I1, I2, BO, FI, RG, GU, PU, MA_2, MN, MS, OT, SC], [r0, r1, r2, r3, w, r5, r6, r7, r8], Lg)) o from ev_f (c := x1 = 0) _ _ 1  zc3 e (fun n => Eq.refl _)
    obtain ⟨x3, zh5, h⟩ := bnd h
    have zh5 : f_M_within p2 0 4 = some x3 := zh5
    have ze6 := R_f_M_within_0 (d + 2) Y T HA HB RA RB ST NS I0 I1 I2 BO FI RG GU PU MA_2 MN MS OT SC r0 r1 r2 r3 w r5 r6 r7 r8 L Lg p2 0 4 zh5
    suffices e : Ev (d + 3, 0, 0, 87, 21, [.val (.ref 1088), .val (.int p1), .val (.int p2), .val a_unk, .val a_unk, .val a_unk], [.int x3, .ref 1088], (126, 120, L, [Y, T, HA, HB, RA, RB, ST, NS, I0, I1, I2, BO, FI, RG, GU, PU, MA_2, MN, MS, OT, SC], [r0, r1, r2, r3, w, r5, r6, r7, r8], Lg)) o from ev_call (fun v μ => (d + 3, 0, 0, 87, 21, [.val (.ref 1088), .val (.int p1), .val (.int p2), .val a_unk, .val a_unk, .val a_unk], v.toList ++ [.ref 1088], μ)) 5 ze6 e (fun n => Eq.refl _)
    obtain ⟨⟨x4, MA_5⟩, zh7, h⟩ := bnd h
    have zh7 : f_M_may MA_2 x3 2 1 = some (x4, MA_5) := zh7
    have ze8 := R_f_M_may_0 (d + 2) Y T HA HB RA RB ST NS I0 I1 I2 BO FI RG GU PU MA_2 MN MS OT SC r0 r1 r2 r3 w r5 r6 r7 r8 L Lg x3 2 1 zh7
    suffices e : Ev (d + 3, 0, 0, 87, 26, [.val (.ref 1088), .val (.int p1), .val (.int p2), .val a_unk, .val a_unk, .val a_unk], [.int x4], (126, 120, L, [Y, T, HA, HB, RA, RB, ST, NS, I0, I1, I2, BO, FI, RG, GU, PU, MA_5, MN, MS, OT, SC], [r0, r1, r2, r3, w, r5, r6, r7, r8], Lg)) o from ev_call (fun v μ => (d + 3, 0, 0, 87, 26, [.val (.ref 1088), .val (.int p1), .val (.int p2), .val a_unk, .val a_unk, .val a_unk], v.toList ++ [], μ)) 3 ze8 e (fun n => Eq.refl _)
    by_cases zc9 : x4 ≠ 0
    · have h := itp h zc9
      suffices e : Ev (d + 3, 0, 0, 87, 31, [.val (.ref 1088), .val (.int p1), .val (.int p2), .val a_unk, .val a_unk, .val a_unk], [], (126, 120, L, [Y, T, HA, HB, RA, RB, ST, NS, I0, I1, I2, BO, FI, RG, GU, PU, MA_5, MN, MS, OT, SC], [r0, r1, r2, r3, w, r5, r6, r7, r8], Lg)) o from ev_t (c := x4 ≠ 0) _ _ 1  zc9 e (fun n => Eq.refl _)
      obtain ⟨x6, zh10, h⟩ := bnd h
      have zh10 : rdx (MA_5 6) 16 (4 * p1) = some x6 := zh10
      suffices e : Ev (d + 3, 0, 0, 87, 39, [.val (.ref 1088), .val (.int p1), .val (.int p2), .val a_unk, .val a_unk, .val a_unk], [.int x6], (126, 120, L, [Y, T, HA, HB, RA, RB, ST, NS, I0, I1, I2, BO, FI, RG, GU, PU, MA_5, MN, MS, OT, SC], [r0, r1, r2, r3, w, r5, r6, r7, r8], Lg)) o from ev_opt (fun x6 => (d + 3, 0, 0, 87, 39, [.val (.ref 1088), .val (.int p1), .val (.int p2), .val a_unk, .val a_unk, .val a_unk], [.int x6], (126, 120, L, [Y, T, HA, HB, RA, RB, ST, NS, I0, I1, I2, BO, FI, RG, GU, PU, MA_5, MN, MS, OT, SC], [r0, r1, r2, r3, w, r5, r6, r7, r8], Lg))) 6 zh10 e (fun n => Eq.refl _)
      by_cases zc11 : 2 ≤ p2
      · have h := itp h zc11
        suffices e : Ev (d + 3, 0, 0, 87, 59, [.val (.ref 1088), .val (.int p1), .val (.int p2), .val (.int x6), .val a_unk, .val a_unk], [], (126, 120, L, [Y, T, HA, HB, RA, RB, ST, NS, I0, I1, I2, BO, FI, RG, GU, PU, MA_5, MN, MS, OT, SC], [r0, r1, r2, r3, w, r5, r6, r7, r8], Lg)) o from ev_t (c := 2 ≤ p2) _ _ 4  zc11 e (fun n => Eq.refl _)
        by_cases zc12 : 4 ≤ p2
        · have h := itp h zc12
          suffices e : Ev (d + 3, 0, 0, 87, 106, [.val (.ref 1088), .val (.int p1), .val (.int p2), .val (.int x6), .val a_unk, .val a_unk], [], (126, 120, L, [Y, T, HA, HB, RA, RB, ST, NS, I0, I1, I2, BO, FI, RG, GU, PU, MA_5, MN, MS, OT, SC], [r0, r1, r2, r3, w, r5, r6, r7, r8], Lg)) o from ev_t (c := 4 ≤ p2) _ _ 3  zc12 e (fun n => Eq.refl _)
          obtain ⟨v11, zh14, h⟩ := bnd h
          suffices e : Ev (d + 3, 0, 0, 87, 112, [.val (.ref 1088), .val (.int p1), .val (.int p2), .val (.int x6), .val (.int 0), .val (.int 0)], [], (126, 120, L, [Y, T, HA, HB, RA, RB, ST, NS, I0, I1, I2, BO, FI, RG, GU, PU, MA_5, MN, MS, OT, SC], [r0, r1, r2, r3, w, r5, r6, r7, r8], Lg)) o from ev_b 4 e (fun n => Eq.refl _)
          refine ev_loop (δ := Unit) (fun a j => (d + 3, 0, 0, 87, 112, [.val (.ref 1088), .val (.int p1), .val (.int p2), .val (.int x6), .val (.int a.1), .val (.int a.2)], [], (126, 120, L, [Y, T, HA, HB, RA, RB, ST, NS, I0, I1, I2, BO, FI, RG, GU, PU, MA_5, MN, MS, OT, SC], [r0, r1, r2, r3, w, r5, r6, r7, r8], Lg))) (fun b => ∀ s12 : Value, Ev (d + 3, 0, 0, 87, 165, [.val (.ref 1088), .val (.int p1), .val (.int p2), .val (.int x6), .val (.int b), .val s12], [], (126, 120, L, [Y, T, HA, HB, RA, RB, ST, NS, I0, I1, I2, BO, FI, RG, GU, PU, MA_5, MN, MS, OT, SC], [r0, r1, r2, r3, w, r5, r6, r7, r8], Lg)) o) ?_ a_F (0, 0) v11 zh14 ?_ ()
          · rintro ⟨v7, v8⟩ zr18 zh17 zi15 zx16 ⟨⟩
            have zh17 : f_M_hold_l112 MA_5 x6 v7 v8 = some zr18 := zh17
            by_cases zc19 : (MA_5 0 26) ≤ v8
            · have zh17 := itp zh17 zc19
              suffices e : Ev (d + 3, 0, 0, 87, 165, [.val (.ref 1088), .val (.int p1), .val (.int p2), .val (.int x6), .val (.int v7), .val (.int v8)], [], (126, 120, L, [Y, T, HA, HB, RA, RB, ST, NS, I0, I1, I2, BO, FI, RG, GU, PU, MA_5, MN, MS, OT, SC], [r0, r1, r2, r3, w, r5, r6, r7, r8], Lg)) o from ev_t (c := (MA_5 0 26) ≤ v8) _ _ 4  zc19 e (fun n => Eq.refl _)
              exact ev_b 0 (zx16 _ (Option.some.inj zh17).symm (.int v8)) (fun n => Eq.refl _)
            · have zh17 := itn zh17 zc19
              suffices e : Ev (d + 3, 0, 0, 87, 121, [.val (.ref 1088), .val (.int p1), .val (.int p2), .val (.int x6), .val (.int v7), .val (.int v8)], [], (126, 120, L, [Y, T, HA, HB, RA, RB, ST, NS, I0, I1, I2, BO, FI, RG, GU, PU, MA_5, MN, MS, OT, SC], [r0, r1, r2, r3, w, r5, r6, r7, r8], Lg)) o from ev_f (c := (MA_5 0 26) ≤ v8) _ _ 4  zc19 e (fun n => Eq.refl _)
              obtain ⟨x9, zh20, zh17⟩ := bnd zh17
              have zh20 : rdx (MA_5 7) 10 v8 = some x9 := zh20
              suffices e : Ev (d + 3, 0, 0, 87, 130, [.val (.ref 1088), .val (.int p1), .val (.int p2), .val (.int x6), .val (.int v7), .val (.int v8)], [.int x9, .int v7], (126, 120, L, [Y, T, HA, HB, RA, RB, ST, NS, I0, I1, I2, BO, FI, RG, GU, PU, MA_5, MN, MS, OT, SC], [r0, r1, r2, r3, w, r5, r6, r7, r8], Lg)) o from ev_opt (fun x9 => (d + 3, 0, 0, 87, 130, [.val (.ref 1088), .val (.int p1), .val (.int p2), .val (.int x6), .val (.int v7), .val (.int v8)], [.int x9, .int v7], (126, 120, L, [Y, T, HA, HB, RA, RB, ST, NS, I0, I1, I2, BO, FI, RG, GU, PU, MA_5, MN, MS, OT, SC], [r0, r1, r2, r3, w, r5, r6, r7, r8], Lg))) 5 zh20 e (fun n => Eq.refl _)
              obtain ⟨zt21, zh22, zh17⟩ := bnd zh17
              have zj23 : zt21 = .inl () → Ev (d + 3, 0, 0, 87, 155, [.val (.ref 1088), .val (.int p1), .val (.int p2), .val (.int x6), .val (.int v7), .val (.int v8)], [.int v7], (126, 120, L, [Y, T, HA, HB, RA, RB, ST, NS, I0, I1, I2, BO, FI, RG, GU, PU, MA_5, MN, MS, OT, SC], [r0, r1, r2, r3, w, r5, r6, r7, r8], Lg)) o := by
                intro ze24
                have zh17 := sum_l zh17 ze24
                exact ev_b 5 (zi15 _ (Option.some.inj zh17).symm ()) (fun n => Eq.refl _)
              by_cases zc25 : x9 ≠ (-1)
              · have zh22 := itp zh22 zc25
                suffices e : Ev (d + 3, 0, 0, 87, 155, [.val (.ref 1088), .val (.int p1), .val (.int p2), .val (.int x6), .val (.int v7), .val (.int v8)], [.int v7], (126, 120, L, [Y, T, HA, HB, RA, RB, ST, NS, I0, I1, I2, BO, FI, RG, GU, PU, MA_5, MN, MS, OT, SC], [r0, r1, r2, r3, w, r5, r6, r7, r8], Lg)) o from ev_t (c := x9 ≠ (-1)) _ _ 2  zc25 e (fun n => Eq.refl _)
                exact ev_b 0 (zj23  (Option.some.inj zh22).symm ) (fun n => Eq.refl _)
              · have zh22 := itn zh22 zc25
                suffices e : Ev (d + 3, 0, 0, 87, 134, [.val (.ref 1088), .val (.int p1), .val (.int p2), .val (.int x6), .val (.int v7), .val (.int v8)], [.int v7], (126, 120, L, [Y, T, HA, HB, RA, RB, ST, NS, I0, I1, I2, BO, FI, RG, GU, PU, MA_5, MN, MS, OT, SC], [r0, r1, r2, r3, w, r5, r6, r7, r8], Lg)) o from ev_f (c := x9 ≠ (-1)) _ _ 2  zc25 e (fun n => Eq.refl _)
                obtain ⟨x10, zh26, zh22⟩ := bnd zh22
                have zh26 : f_M_clashOf MA_5 v8 x6 (MA_5 7) = some x10 := zh26
                have ze27 := R_f_M_clashOf_0 (d + 0) Y T HA HB RA RB ST NS I0 I1 I2 BO FI RG GU PU MA_5 MN MS OT SC r0 r1 r2 r3 w r5 r6 r7 r8 L Lg v8 x6 zh26
                suffices e : Ev (d + 3, 0, 0, 87, 145, [.val (.ref 1088), .val (.int p1), .val (.int p2), .val (.int x6), .val (.int v7), .val (.int v8)], [.int x10, .int v7], (126, 120, L, [Y, T, HA, HB, RA, RB, ST, NS, I0, I1, I2, BO, FI, RG, GU, PU, MA_5, MN, MS, OT, SC], [r0, r1, r2, r3, w, r5, r6, r7, r8], Lg)) o from ev_call (fun v μ => (d + 3, 0, 0, 87, 145, [.val (.ref 1088), .val (.int p1), .val (.int p2), .val (.int x6), .val (.int v7), .val (.int v8)], v.toList ++ [.int v7], μ)) 6 ze27 e (fun n => Eq.refl _)
                by_cases zc28 : (x10 &&& (-9)) ≠ 0
                · have zh22 := itp zh22 zc28
                  suffices e : Ev (d + 3, 0, 0, 87, 155, [.val (.ref 1088), .val (.int p1), .val (.int p2), .val (.int x6), .val (.int v7), .val (.int v8)], [.int v7], (126, 120, L, [Y, T, HA, HB, RA, RB, ST, NS, I0, I1, I2, BO, FI, RG, GU, PU, MA_5, MN, MS, OT, SC], [r0, r1, r2, r3, w, r5, r6, r7, r8], Lg)) o from ev_t (c := (x10 &&& (-9)) ≠ 0) _ _ 3  zc28 e (fun n => Eq.refl _)
                  exact ev_b 0 (zj23  (Option.some.inj zh22).symm ) (fun n => Eq.refl _)
                · have zh22 := itn zh22 zc28
                  suffices e : Ev (d + 3, 0, 0, 87, 151, [.val (.ref 1088), .val (.int p1), .val (.int p2), .val (.int x6), .val (.int v7), .val (.int v8)], [.int v7], (126, 120, L, [Y, T, HA, HB, RA, RB, ST, NS, I0, I1, I2, BO, FI, RG, GU, PU, MA_5, MN, MS, OT, SC], [r0, r1, r2, r3, w, r5, r6, r7, r8], Lg)) o from ev_f (c := (x10 &&& (-9)) ≠ 0) _ _ 3  zc28 e (fun n => Eq.refl _)
                  have zh29 := sum_r zh17 (Option.some.inj zh22).symm
                  exact ev_b 6 (zi15 _ (Option.some.inj zh29).symm ()) (fun n => Eq.refl _)
          · skip
            intro s12
            have ze30 := Option.some.inj h
            subst ze30
            exact ev_rete 2 ho (fun n => Eq.refl _)
        · have h := itn h zc12
          suffices e : Ev (d + 3, 0, 0, 87, 64, [.val (.ref 1088), .val (.int p1), .val (.int p2), .val (.int x6), .val a_unk, .val a_unk], [], (126, 120, L, [Y, T, HA, HB, RA, RB, ST, NS, I0, I1, I2, BO, FI, RG, GU, PU, MA_5, MN, MS, OT, SC], [r0, r1, r2, r3, w, r5, r6, r7, r8], Lg)) o from ev_f (c := 4 ≤ p2) _ _ 3  zc12 e (fun n => Eq.refl _)
          by_cases zc31 : p2 ≠ 2
          · have h := itp h zc31
            suffices e : Ev (d + 3, 0, 0, 87, 93, [.val (.ref 1088), .val (.int p1), .val (.int p2), .val (.int x6), .val a_unk, .val a_unk], [], (126, 120, L, [Y, T, HA, HB, RA, RB, ST, NS, I0, I1, I2, BO, FI, RG, GU, PU, MA_5, MN, MS, OT, SC], [r0, r1, r2, r3, w, r5, r6, r7, r8], Lg)) o from ev_t (c := p2 ≠ 2) _ _ 3  zc31 e (fun n => Eq.refl _)
            obtain ⟨x13, zh32, h⟩ := bnd h
            have zh32 : rdx (MA_5 6) 16 ((4 * p1) + 3) = some x13 := zh32
            suffices e : Ev (d + 3, 0, 0, 87, 104, [.val (.ref 1088), .val (.int p1), .val (.int p2), .val (.int x6), .val a_unk, .val a_unk], [.int x13, .int 1], (126, 120, L, [Y, T, HA, HB, RA, RB, ST, NS, I0, I1, I2, BO, FI, RG, GU, PU, MA_5, MN, MS, OT, SC], [r0, r1, r2, r3, w, r5, r6, r7, r8], Lg)) o from ev_opt (fun x13 => (d + 3, 0, 0, 87, 104, [.val (.ref 1088), .val (.int p1), .val (.int p2), .val (.int x6), .val a_unk, .val a_unk], [.int x13, .int 1], (126, 120, L, [Y, T, HA, HB, RA, RB, ST, NS, I0, I1, I2, BO, FI, RG, GU, PU, MA_5, MN, MS, OT, SC], [r0, r1, r2, r3, w, r5, r6, r7, r8], Lg))) 9 zh32 e (fun n => Eq.refl _)
            have ze33 := Option.some.inj h
            subst ze33
            exact ev_rete 2 ho (fun n => Eq.refl _)
          · have h := itn h zc31
            suffices e : Ev (d + 3, 0, 0, 87, 69, [.val (.ref 1088), .val (.int p1), .val (.int p2), .val (.int x6), .val a_unk, .val a_unk], [], (126, 120, L, [Y, T, HA, HB, RA, RB, ST, NS, I0, I1, I2, BO, FI, RG, GU, PU, MA_5, MN, MS, OT, SC], [r0, r1, r2, r3, w, r5, r6, r7, r8], Lg)) o from ev_f (c := p2 ≠ 2) _ _ 3  zc31 e (fun n => Eq.refl _)
            obtain ⟨x14, zh34, h⟩ := bnd h
            have zh34 : rdx (MA_5 6) 16 ((4 * p1) + 1) = some x14 := zh34
            suffices e : Ev (d + 3, 0, 0, 87, 79, [.val (.ref 1088), .val (.int p1), .val (.int p2), .val (.int x6), .val a_unk, .val a_unk], [.int x14], (126, 120, L, [Y, T, HA, HB, RA, RB, ST, NS, I0, I1, I2, BO, FI, RG, GU, PU, MA_5, MN, MS, OT, SC], [r0, r1, r2, r3, w, r5, r6, r7, r8], Lg)) o from ev_opt (fun x14 => (d + 3, 0, 0, 87, 79, [.val (.ref 1088), .val (.int p1), .val (.int p2), .val (.int x6), .val a_unk, .val a_unk], [.int x14], (126, 120, L, [Y, T, HA, HB, RA, RB, ST, NS, I0, I1, I2, BO, FI, RG, GU, PU, MA_5, MN, MS, OT, SC], [r0, r1, r2, r3, w, r5, r6, r7, r8], Lg))) 8 zh34 e (fun n => Eq.refl _)
            obtain ⟨x15, zh35, h⟩ := bnd h
            have zh35 : rdx (MA_5 6) 16 ((4 * p1) + 2) = some x15 := zh35
            suffices e : Ev (d + 3, 0, 0, 87, 89, [.val (.ref 1088), .val (.int p1), .val (.int p2), .val (.int x6), .val a_unk, .val a_unk], [.int x15, .int x14], (126, 120, L, [Y, T, HA, HB, RA, RB, ST, NS, I0, I1, I2, BO, FI, RG, GU, PU, MA_5, MN, MS, OT, SC], [r0, r1, r2, r3, w, r5, r6, r7, r8], Lg)) o from ev_opt (fun x15 => (d + 3, 0, 0, 87, 89, [.val (.ref 1088), .val (.int p1), .val (.int p2), .val (.int x6), .val a_unk, .val a_unk], [.int x15, .int x14], (126, 120, L, [Y, T, HA, HB, RA, RB, ST, NS, I0, I1, I2, BO, FI, RG, GU, PU, MA_5, MN, MS, OT, SC], [r0, r1, r2, r3, w, r5, r6, r7, r8], Lg))) 8 zh35 e (fun n => Eq.refl _)
            have ze36 := Option.some.inj h
            subst ze36
            exact ev_rete 3 ho (fun n => Eq.refl _)
      · have h := itn h zc11
        suffices e : Ev (d + 3, 0, 0, 87, 45, [.val (.ref 1088), .val (.int p1), .val (.int p2), .val (.int x6), .val a_unk, .val a_unk], [], (126, 120, L, [Y, T, HA, HB, RA, RB, ST, NS, I0, I1, I2, BO, FI, RG, GU, PU, MA_5, MN, MS, OT, SC], [r0, r1, r2, r3, w, r5, r6, r7, r8], Lg)) o from ev_f (c := 2 ≤ p2) _ _ 4  zc11 e (fun n => Eq.refl _)
        by_cases zc37 : p2 ≠ 0
        · have h := itp h zc37
          suffices e : Ev (d + 3, 0, 0, 87, 55, [.val (.ref 1088), .val (.int p1), .val (.int p2), .val (.int x6), .val a_unk, .val a_unk], [], (126, 120, L, [Y, T, HA, HB, RA, RB, ST, NS, I0, I1, I2, BO, FI, RG, GU, PU, MA_5, MN, MS, OT, SC], [r0, r1, r2, r3, w, r5, r6, r7, r8], Lg)) o from ev_t (c := p2 ≠ 0) _ _ 2  zc37 e (fun n => Eq.refl _)
          suffices e : Ev (d + 3, 0, 0, 87, 58, [.val (.ref 1088), .val (.int p1), .val (.int p2), .val (.int x6), .val a_unk, .val a_unk], [.int (a_rem x6 3)], (126, 120, L, [Y, T, HA, HB, RA, RB, ST, NS, I0, I1, I2, BO, FI, RG, GU, PU, MA_5, MN, MS, OT, SC], [r0, r1, r2, r3, w, r5, r6, r7, r8], Lg)) o from ev_b 3 e (fun n => Eq.refl _)
          have ze38 := Option.some.inj h
          subst ze38
          exact ev_rete 1 ho (fun n => Eq.refl _)
        · have h := itn h zc37
          suffices e : Ev (d + 3, 0, 0, 87, 49, [.val (.ref 1088), .val (.int p1), .val (.int p2), .val (.int x6), .val a_unk, .val a_unk], [], (126, 120, L, [Y, T, HA, HB, RA, RB, ST, NS, I0, I1, I2, BO, FI, RG, GU, PU, MA_5, MN, MS, OT, SC], [r0, r1, r2, r3, w, r5, r6, r7, r8], Lg)) o from ev_f (c := p2 ≠ 0) _ _ 2  zc37 e (fun n => Eq.refl _)
          suffices e : Ev (d + 3, 0, 0, 87, 52, [.val (.ref 1088), .val (.int p1), .val (.int p2), .val (.int x6), .val a_unk, .val a_unk], [.int (x6 / 3)], (126, 120, L, [Y, T, HA, HB, RA, RB, ST, NS, I0, I1, I2, BO, FI, RG, GU, PU, MA_5, MN, MS, OT, SC], [r0, r1, r2, r3, w, r5, r6, r7, r8], Lg)) o from ev_b 3 e (fun n => Eq.refl _)
          have ze39 := Option.some.inj h
          subst ze39
          exact ev_rete 2 ho (fun n => Eq.refl _)
    · have h := itn h zc9
      suffices e : Ev (d + 3, 0, 0, 87, 29, [.val (.ref 1088), .val (.int p1), .val (.int p2), .val a_unk, .val a_unk, .val a_unk], [], (126, 120, L, [Y, T, HA, HB, RA, RB, ST, NS, I0, I1, I2, BO, FI, RG, GU, PU, MA_5, MN, MS, OT, SC], [r0, r1, r2, r3, w, r5, r6, r7, r8], Lg)) o from ev_f (c := x4 ≠ 0) _ _ 1  zc9 e (fun n => Eq.refl _)
      have ze40 := Option.some.inj h
      subst ze40
      exact ev_rete 2 ho (fun n => Eq.refl _)
set_option maxRecDepth 1000000 in
set_option maxHeartbeats 4000000 in
theorem R_f_M_least_0 (d : Nat) (Y T HA HB RA RB ST NS I0 I1 I2 BO FI RG GU PU MA MN MS OT SC : Nat → Nat → Int32) (r0 r1 r2 r3 w r5 r6 r7 r8 : Nat) (L : Nat) (Lg : Int64) {r : Int32 × (Nat → Nat → Int32)} (h : f_M_least MA = some r) : Ev (d + 0, 0, 0, 88, 0, [.val (.ref 1088), .val a_unk, .val a_unk], [], (126, 120, L, [Y, T, HA, HB, RA, RB, ST, NS, I0, I1, I2, BO, FI, RG, GU, PU, MA, MN, MS, OT, SC], [r0, r1, r2, r3, w, r5, r6, r7, r8], Lg)) ((0, some (.int r.1), (126, 120, L, [Y, T, HA, HB, RA, RB, ST, NS, I0, I1, I2, BO, FI, RG, GU, PU, r.2, MN, MS, OT, SC], [r0, r1, r2, r3, w, r5, r6, r7, r8], Lg)) : AOut) := by
  suffices key : ∀ o : AOut, ((0, some (.int r.1), (126, 120, L, [Y, T, HA, HB, RA, RB, ST, NS, I0, I1, I2, BO, FI, RG, GU, PU, r.2, MN, MS, OT, SC], [r0, r1, r2, r3, w, r5, r6, r7, r8], Lg)) : AOut) = o → Ev (d + 0, 0, 0, 88, 0, [.val (.ref 1088), .val a_unk, .val a_unk], [], (126, 120, L, [Y, T, HA, HB, RA, RB, ST, NS, I0, I1, I2, BO, FI, RG, GU, PU, MA, MN, MS, OT, SC], [r0, r1, r2, r3, w, r5, r6, r7, r8], Lg)) o from key _ rfl
  intro o ho
  obtain ⟨v8, zh2, h⟩ := bnd h
  suffices e : Ev (d + 0, 0, 0, 88, 9, [.val (.ref 1088), .val (.int (-1)), .val (.int 0)], [], (126, 120, L, [Y, T, HA, HB, RA, RB, ST, NS, I0, I1, I2, BO, FI, RG, GU, PU, (u2 MA 0 0 0), MN, MS, OT, SC], [r0, r1, r2, r3, w, r5, r6, r7, r8], Lg)) o from ev_b 7 e (fun n => Eq.refl _)
  refine ev_loop (δ := Unit) (fun a j => (d + 0, 0, 0, 88, 9, [.val (.ref 1088), .val (.int a.1), .val (.int a.2)], [], (126, 120, L, [Y, T, HA, HB, RA, RB, ST, NS, I0, I1, I2, BO, FI, RG, GU, PU, (u2 MA 0 0 0), MN, MS, OT, SC], [r0, r1, r2, r3, w, r5, r6, r7, r8], Lg))) (fun b => ∀ s9 : Value, Ev (d + 0, 0, 0, 88, 88, [.val (.ref 1088), .val (.int b), .val s9], [], (126, 120, L, [Y, T, HA, HB, RA, RB, ST, NS, I0, I1, I2, BO, FI, RG, GU, PU, (u2 MA 0 0 0), MN, MS, OT, SC], [r0, r1, r2, r3, w, r5, r6, r7, r8], Lg)) o) ?_ a_F ((-1), 0) v8 zh2 ?_ ()
  · rintro ⟨v1, v2⟩ zr6 zh5 zi3 zx4 ⟨⟩
    have zh5 : f_M_least_l9 MA v1 v2 = some zr6 := zh5
    by_cases zc7 : ((u2 MA 0 0 0) 0 27) ≤ v2
    · have zh5 := itp zh5 zc7
      suffices e : Ev (d + 0, 0, 0, 88, 88, [.val (.ref 1088), .val (.int v1), .val (.int v2)], [], (126, 120, L, [Y, T, HA, HB, RA, RB, ST, NS, I0, I1, I2, BO, FI, RG, GU, PU, (u2 MA 0 0 0), MN, MS, OT, SC], [r0, r1, r2, r3, w, r5, r6, r7, r8], Lg)) o from ev_t (c := ((u2 MA 0 0 0) 0 27) ≤ v2) _ _ 4  zc7 e (fun n => Eq.refl _)
      exact ev_b 0 (zx4 _ (Option.some.inj zh5).symm (.int v2)) (fun n => Eq.refl _)
    · have zh5 := itn zh5 zc7
      suffices e : Ev (d + 0, 0, 0, 88, 17, [.val (.ref 1088), .val (.int v1), .val (.int v2)], [], (126, 120, L, [Y, T, HA, HB, RA, RB, ST, NS, I0, I1, I2, BO, FI, RG, GU, PU, (u2 MA 0 0 0), MN, MS, OT, SC], [r0, r1, r2, r3, w, r5, r6, r7, r8], Lg)) o from ev_f (c := ((u2 MA 0 0 0) 0 27) ≤ v2) _ _ 4  zc7 e (fun n => Eq.refl _)
      obtain ⟨x3, zh8, zh5⟩ := bnd zh5
      have zh8 : rdx ((u2 MA 0 0 0) 6) 16 ((4 * v2) + 3) = some x3 := zh8
      suffices e : Ev (d + 0, 0, 0, 88, 27, [.val (.ref 1088), .val (.int v1), .val (.int v2)], [.int x3], (126, 120, L, [Y, T, HA, HB, RA, RB, ST, NS, I0, I1, I2, BO, FI, RG, GU, PU, (u2 MA 0 0 0), MN, MS, OT, SC], [r0, r1, r2, r3, w, r5, r6, r7, r8], Lg)) o from ev_opt (fun x3 => (d + 0, 0, 0, 88, 27, [.val (.ref 1088), .val (.int v1), .val (.int v2)], [.int x3], (126, 120, L, [Y, T, HA, HB, RA, RB, ST, NS, I0, I1, I2, BO, FI, RG, GU, PU, (u2 MA 0 0 0), MN, MS, OT, SC], [r0, r1, r2, r3, w, r5, r6, r7, r8], Lg))) 8 zh8 e (fun n => Eq.refl _)
      by_cases zc9 : x3 ≠ 0
      · have zh5 := itp zh5 zc9
        suffices e : Ev (d + 0, 0, 0, 88, 82, [.val (.ref 1088), .val (.int v1), .val (.int v2)], [], (126, 120, L, [Y, T, HA, HB, RA, RB, ST, NS, I0, I1, I2, BO, FI, RG, GU, PU, (u2 MA 0 0 0), MN, MS, OT, SC], [r0, r1, r2, r3, w, r5, r6, r7, r8], Lg)) o from ev_t (c := x3 ≠ 0) _ _ 1  zc9 e (fun n => Eq.refl _)
        exact ev_b 2 (zi3 _ (Option.some.inj zh5).symm ()) (fun n => Eq.refl _)
      · have zh5 := itn zh5 zc9
        suffices e : Ev (d + 0, 0, 0, 88, 30, [.val (.ref 1088), .val (.int v1), .val (.int v2)], [], (126, 120, L, [Y, T, HA, HB, RA, RB, ST, NS, I0, I1, I2, BO, FI, RG, GU, PU, (u2 MA 0 0 0), MN, MS, OT, SC], [r0, r1, r2, r3, w, r5, r6, r7, r8], Lg)) o from ev_f (c := x3 ≠ 0) _ _ 1  zc9 e (fun n => Eq.refl _)
        by_cases zc10 : v1 = (-1)
        · have zh5 := itp zh5 zc10
          suffices e : Ev (d + 0, 0, 0, 88, 80, [.val (.ref 1088), .val (.int v1), .val (.int v2)], [], (126, 120, L, [Y, T, HA, HB, RA, RB, ST, NS, I0, I1, I2, BO, FI, RG, GU, PU, (u2 MA 0 0 0), MN, MS, OT, SC], [r0, r1, r2, r3, w, r5, r6, r7, r8], Lg)) o from ev_t (c := v1 = (-1)) _ _ 3  zc10 e (fun n => Eq.refl _)
          exact ev_b 4 (zi3 _ (Option.some.inj zh5).symm ()) (fun n => Eq.refl _)
        · have zh5 := itn zh5 zc10
          suffices e : Ev (d + 0, 0, 0, 88, 35, [.val (.ref 1088), .val (.int v1), .val (.int v2)], [], (126, 120, L, [Y, T, HA, HB, RA, RB, ST, NS, I0, I1, I2, BO, FI, RG, GU, PU, (u2 MA 0 0 0), MN, MS, OT, SC], [r0, r1, r2, r3, w, r5, r6, r7, r8], Lg)) o from ev_f (c := v1 = (-1)) _ _ 3  zc10 e (fun n => Eq.refl _)
          obtain ⟨x4, zh11, zh5⟩ := bnd zh5
          have zh11 : rdx ((u2 MA 0 0 0) 6) 16 ((4 * v2) + 1) = some x4 := zh11
          suffices e : Ev (d + 0, 0, 0, 88, 45, [.val (.ref 1088), .val (.int v1), .val (.int v2)], [.int x4], (126, 120, L, [Y, T, HA, HB, RA, RB, ST, NS, I0, I1, I2, BO, FI, RG, GU, PU, (u2 MA 0 0 0), MN, MS, OT, SC], [r0, r1, r2, r3, w, r5, r6, r7, r8], Lg)) o from ev_opt (fun x4 => (d + 0, 0, 0, 88, 45, [.val (.ref 1088), .val (.int v1), .val (.int v2)], [.int x4], (126, 120, L, [Y, T, HA, HB, RA, RB, ST, NS, I0, I1, I2, BO, FI, RG, GU, PU, (u2 MA 0 0 0), MN, MS, OT, SC], [r0, r1, r2, r3, w, r5, r6, r7, r8], Lg))) 8 zh11 e (fun n => Eq.refl _)
          obtain ⟨x5, zh12, zh5⟩ := bnd zh5
          have zh12 : rdx ((u2 MA 0 0 0) 6) 16 ((4 * v2) + 2) = some x5 := zh12
          suffices e : Ev (d + 0, 0, 0, 88, 55, [.val (.ref 1088), .val (.int v1), .val (.int v2)], [.int x5, .int x4], (126, 120, L, [Y, T, HA, HB, RA, RB, ST, NS, I0, I1, I2, BO, FI, RG, GU, PU, (u2 MA 0 0 0), MN, MS, OT, SC], [r0, r1, r2, r3, w, r5, r6, r7, r8], Lg)) o from ev_opt (fun x5 => (d + 0, 0, 0, 88, 55, [.val (.ref 1088), .val (.int v1), .val (.int v2)], [.int x5, .int x4], (126, 120, L, [Y, T, HA, HB, RA, RB, ST, NS, I0, I1, I2, BO, FI, RG, GU, PU, (u2 MA 0 0 0), MN, MS, OT, SC], [r0, r1, r2, r3, w, r5, r6, r7, r8], Lg))) 8 zh12 e (fun n => Eq.refl _)
          obtain ⟨x6, zh13, zh5⟩ := bnd zh5
          have zh13 : rdx ((u2 MA 0 0 0) 6) 16 ((4 * v1) + 1) = some x6 := zh13
          suffices e : Ev (d + 0, 0, 0, 88, 66, [.val (.ref 1088), .val (.int v1), .val (.int v2)], [.int x6, .int (x4 * x5)], (126, 120, L, [Y, T, HA, HB, RA, RB, ST, NS, I0, I1, I2, BO, FI, RG, GU, PU, (u2 MA 0 0 0), MN, MS, OT, SC], [r0, r1, r2, r3, w, r5, r6, r7, r8], Lg)) o from ev_opt (fun x6 => (d + 0, 0, 0, 88, 66, [.val (.ref 1088), .val (.int v1), .val (.int v2)], [.int x6, .int (x4 * x5)], (126, 120, L, [Y, T, HA, HB, RA, RB, ST, NS, I0, I1, I2, BO, FI, RG, GU, PU, (u2 MA 0 0 0), MN, MS, OT, SC], [r0, r1, r2, r3, w, r5, r6, r7, r8], Lg))) 9 zh13 e (fun n => Eq.refl _)
          obtain ⟨x7, zh14, zh5⟩ := bnd zh5
          have zh14 : rdx ((u2 MA 0 0 0) 6) 16 ((4 * v1) + 2) = some x7 := zh14
          suffices e : Ev (d + 0, 0, 0, 88, 76, [.val (.ref 1088), .val (.int v1), .val (.int v2)], [.int x7, .int x6, .int (x4 * x5)], (126, 120, L, [Y, T, HA, HB, RA, RB, ST, NS, I0, I1, I2, BO, FI, RG, GU, PU, (u2 MA 0 0 0), MN, MS, OT, SC], [r0, r1, r2, r3, w, r5, r6, r7, r8], Lg)) o from ev_opt (fun x7 => (d + 0, 0, 0, 88, 76, [.val (.ref 1088), .val (.int v1), .val (.int v2)], [.int x7, .int x6, .int (x4 * x5)], (126, 120, L, [Y, T, HA, HB, RA, RB, ST, NS, I0, I1, I2, BO, FI, RG, GU, PU, (u2 MA 0 0 0), MN, MS, OT, SC], [r0, r1, r2, r3, w, r5, r6, r7, r8], Lg))) 8 zh14 e (fun n => Eq.refl _)
          by_cases zc15 : (x6 * x7) ≤ (x4 * x5)
          · have zh5 := itp zh5 zc15
            suffices e : Ev (d + 0, 0, 0, 88, 82, [.val (.ref 1088), .val (.int v1), .val (.int v2)], [], (126, 120, L, [Y, T, HA, HB, RA, RB, ST, NS, I0, I1, I2, BO, FI, RG, GU, PU, (u2 MA 0 0 0), MN, MS, OT, SC], [r0, r1, r2, r3, w, r5, r6, r7, r8], Lg)) o from ev_t (c := (x6 * x7) ≤ (x4 * x5)) _ _ 2  zc15 e (fun n => Eq.refl _)
            exact ev_b 2 (zi3 _ (Option.some.inj zh5).symm ()) (fun n => Eq.refl _)
          · have zh5 := itn zh5 zc15
            suffices e : Ev (d + 0, 0, 0, 88, 80, [.val (.ref 1088), .val (.int v1), .val (.int v2)], [], (126, 120, L, [Y, T, HA, HB, RA, RB, ST, NS, I0, I1, I2, BO, FI, RG, GU, PU, (u2 MA 0 0 0), MN, MS, OT, SC], [r0, r1, r2, r3, w, r5, r6, r7, r8], Lg)) o from ev_f (c := (x6 * x7) ≤ (x4 * x5)) _ _ 2  zc15 e (fun n => Eq.refl _)
            exact ev_b 4 (zi3 _ (Option.some.inj zh5).symm ()) (fun n => Eq.refl _)
  · skip
    intro s9
    have ze16 := Option.some.inj h
    subst ze16
    exact ev_rete 2 ho (fun n => Eq.refl _)
set_option maxRecDepth 1000000 in
set_option maxHeartbeats 4000000 in
theorem R_f_M_clashOf_1 (d : Nat) (Y T HA HB RA RB ST NS I0 I1 I2 BO FI RG GU PU MA MN MS OT SC : Nat → Nat → Int32) (r0 r1 r2 r3 w r5 r6 r7 r8 : Nat) (L : Nat) (Lg : Int64) (p1 : Int32) (p2 : Int32) {r : Int32} (h : f_M_clashOf MA p1 p2 (MS 4) = some r) : Ev (d + 2, 0, 0, 68, 0, [.val (.ref 1088), .val (.int p1), .val (.int p2), .val (.ref 1220), .val a_unk, .val a_unk], [], (126, 120, L, [Y, T, HA, HB, RA, RB, ST, NS, I0, I1, I2, BO, FI, RG, GU, PU, MA, MN, MS, OT, SC], [r0, r1, r2, r3, w, r5, r6, r7, r8], Lg)) ((0, some (.int r), (126, 120, L, [Y, T, HA, HB, RA, RB, ST, NS, I0, I1, I2, BO, FI, RG, GU, PU, MA, MN, MS, OT, SC], [r0, r1, r2, r3, w, r5, r6, r7, r8], Lg)) : AOut) := by
  suffices key : ∀ o : AOut, ((0, some (.int r), (126, 120, L, [Y, T, HA, HB, RA, RB, ST, NS, I0, I1, I2, BO, FI, RG, GU, PU, MA, MN, MS, OT, SC], [r0, r1, r2, r3, w, r5, r6, r7, r8], Lg)) : AOut) = o → Ev (d + 2, 0, 0, 68, 0, [.val (.ref 1088), .val (.int p1), .val (.int p2), .val (.ref 1220), .val a_unk, .val a_unk], [], (126, 120, L, [Y, T, HA, HB, RA, RB, ST, NS, I0, I1, I2, BO, FI, RG, GU, PU, MA, MN, MS, OT, SC], [r0, r1, r2, r3, w, r5, r6, r7, r8], Lg)) o from key _ rfl
  intro o ho
  obtain ⟨x1, zh1, h⟩ := bnd h
  have zh1 : f_M_ownClash MA p1 p2 = some x1 := zh1
  have ze2 := R_f_M_ownClash_0 (d + 0) Y T HA HB RA RB ST NS I0 I1 I2 BO FI RG GU PU MA MN MS OT SC r0 r1 r2 r3 w r5 r6 r7 r8 L Lg p1 p2 zh1
  suffices e : Ev (d + 2, 0, 0, 68, 6, [.val (.ref 1088), .val (.int p1), .val (.int p2), .val (.ref 1220), .val a_unk, .val a_unk], [.int x1], (126, 120, L, [Y, T, HA, HB, RA, RB, ST, NS, I0, I1, I2, BO, FI, RG, GU, PU, MA, MN, MS, OT, SC], [r0, r1, r2, r3, w, r5, r6, r7, r8], Lg)) o from ev_call (fun v μ => (d + 2, 0, 0, 68, 6, [.val (.ref 1088), .val (.int p1), .val (.int p2), .val (.ref 1220), .val a_unk, .val a_unk], v.toList ++ [], μ)) 4 ze2 e (fun n => Eq.refl _)
  obtain ⟨v6, zh4, h⟩ := bnd h
  suffices e : Ev (d + 2, 0, 0, 68, 11, [.val (.ref 1088), .val (.int p1), .val (.int p2), .val (.ref 1220), .val (.int x1), .val (.int 0)], [], (126, 120, L, [Y, T, HA, HB, RA, RB, ST, NS, I0, I1, I2, BO, FI, RG, GU, PU, MA, MN, MS, OT, SC], [r0, r1, r2, r3, w, r5, r6, r7, r8], Lg)) o from ev_b 3 e (fun n => Eq.refl _)
  refine ev_loop (δ := Unit) (fun a j => (d + 2, 0, 0, 68, 11, [.val (.ref 1088), .val (.int p1), .val (.int p2), .val (.ref 1220), .val (.int a.1), .val (.int a.2)], [], (126, 120, L, [Y, T, HA, HB, RA, RB, ST, NS, I0, I1, I2, BO, FI, RG, GU, PU, MA, MN, MS, OT, SC], [r0, r1, r2, r3, w, r5, r6, r7, r8], Lg))) (fun b => ∀ s7 : Value, Ev (d + 2, 0, 0, 68, 43, [.val (.ref 1088), .val (.int p1), .val (.int p2), .val (.ref 1220), .val (.int b), .val s7], [], (126, 120, L, [Y, T, HA, HB, RA, RB, ST, NS, I0, I1, I2, BO, FI, RG, GU, PU, MA, MN, MS, OT, SC], [r0, r1, r2, r3, w, r5, r6, r7, r8], Lg)) o) ?_ a_F (x1, 0) v6 zh4 ?_ ()
  · rintro ⟨v2, v3⟩ zr8 zh7 zi5 zx6 ⟨⟩
    have zh7 : f_M_clashOf_l11 MA (MS 4) p1 p2 v2 v3 = some zr8 := zh7
    by_cases zc9 : (MA 0 26) ≤ v3
    · have zh7 := itp zh7 zc9
      suffices e : Ev (d + 2, 0, 0, 68, 43, [.val (.ref 1088), .val (.int p1), .val (.int p2), .val (.ref 1220), .val (.int v2), .val (.int v3)], [], (126, 120, L, [Y, T, HA, HB, RA, RB, ST, NS, I0, I1, I2, BO, FI, RG, GU, PU, MA, MN, MS, OT, SC], [r0, r1, r2, r3, w, r5, r6, r7, r8], Lg)) o from ev_t (c := (MA 0 26) ≤ v3) _ _ 4  zc9 e (fun n => Eq.refl _)
      exact ev_b 0 (zx6 _ (Option.some.inj zh7).symm (.int v3)) (fun n => Eq.refl _)
    · have zh7 := itn zh7 zc9
      suffices e : Ev (d + 2, 0, 0, 68, 20, [.val (.ref 1088), .val (.int p1), .val (.int p2), .val (.ref 1220), .val (.int v2), .val (.int v3)], [], (126, 120, L, [Y, T, HA, HB, RA, RB, ST, NS, I0, I1, I2, BO, FI, RG, GU, PU, MA, MN, MS, OT, SC], [r0, r1, r2, r3, w, r5, r6, r7, r8], Lg)) o from ev_f (c := (MA 0 26) ≤ v3) _ _ 4  zc9 e (fun n => Eq.refl _)
      obtain ⟨x4, zh10, zh7⟩ := bnd zh7
      have zh10 : rdx (MS 4) 10 v3 = some x4 := zh10
      suffices e : Ev (d + 2, 0, 0, 68, 31, [.val (.ref 1088), .val (.int p1), .val (.int p2), .val (.ref 1220), .val (.int v2), .val (.int v3)], [.int x4, .int v3, .int p2, .int p1, .ref 1088, .int v2], (126, 120, L, [Y, T, HA, HB, RA, RB, ST, NS, I0, I1, I2, BO, FI, RG, GU, PU, MA, MN, MS, OT, SC], [r0, r1, r2, r3, w, r5, r6, r7, r8], Lg)) o from ev_opt (fun x4 => (d + 2, 0, 0, 68, 31, [.val (.ref 1088), .val (.int p1), .val (.int p2), .val (.ref 1220), .val (.int v2), .val (.int v3)], [.int x4, .int v3, .int p2, .int p1, .ref 1088, .int v2], (126, 120, L, [Y, T, HA, HB, RA, RB, ST, NS, I0, I1, I2, BO, FI, RG, GU, PU, MA, MN, MS, OT, SC], [r0, r1, r2, r3, w, r5, r6, r7, r8], Lg))) 8 zh10 e (fun n => Eq.refl _)
      obtain ⟨x5, zh11, zh7⟩ := bnd zh7
      have zh11 : f_M_clashWith MA p1 p2 v3 x4 = some x5 := zh11
      have ze12 := R_f_M_clashWith_0 (d + 1) Y T HA HB RA RB ST NS I0 I1 I2 BO FI RG GU PU MA MN MS OT SC r0 r1 r2 r3 w r5 r6 r7 r8 L Lg p1 p2 v3 x4 zh11
      suffices e : Ev (d + 2, 0, 0, 68, 34, [.val (.ref 1088), .val (.int p1), .val (.int p2), .val (.ref 1220), .val (.int v2), .val (.int v3)], [.int x5, .int v2], (126, 120, L, [Y, T, HA, HB, RA, RB, ST, NS, I0, I1, I2, BO, FI, RG, GU, PU, MA, MN, MS, OT, SC], [r0, r1, r2, r3, w, r5, r6, r7, r8], Lg)) o from ev_call (fun v μ => (d + 2, 0, 0, 68, 34, [.val (.ref 1088), .val (.int p1), .val (.int p2), .val (.ref 1220), .val (.int v2), .val (.int v3)], v.toList ++ [.int v2], μ)) 1 ze12 e (fun n => Eq.refl _)
      exact ev_b 4 (zi5 _ (Option.some.inj zh7).symm ()) (fun n => Eq.refl _)
  · skip
    intro s7
    have ze13 := Option.some.inj h
    subst ze13
    exact ev_rete 2 ho (fun n => Eq.refl _)
set_option maxRecDepth 1000000 in
set_option maxHeartbeats 4000000 in
theorem R_f_M_places_B_0 (d : Nat) (rc : (Nat → (Nat → Nat → Int32) → (Nat → Nat → Int32) → Int32 → Int32 → Option (Int32 × (Nat → Nat → Int32))))
    (zrc0 : ∀ (Y T HA HB RA RB ST NS I0 I1 I2 BO FI RG GU PU MA MN MS OT SC : Nat → Nat → Int32) (r0 r1 r2 r3 w r5 r6 r7 r8 : Nat) (L : Nat) (Lg : Int64) (p1 : Int32) (p2 : Int32) (r : Int32 × (Nat → Nat → Int32)), rc 0 MA MS p1 p2 = some r → Ev (d + 2, 0, 0, 89, 0, [.val (.ref 1088), .val (.int p1), .val (.int p2), .val a_unk, .val a_unk], [], (126, 120, L, [Y, T, HA, HB, RA, RB, ST, NS, I0, I1, I2, BO, FI, RG, GU, PU, MA, MN, MS, OT, SC], [r0, r1, r2, r3, w, r5, r6, r7, r8], Lg)) ((0, some (.int r.1), (126, 120, L, [Y, T, HA, HB, RA, RB, ST, NS, I0, I1, I2, BO, FI, RG, GU, PU, MA, MN, r.2, OT, SC], [r0, r1, r2, r3, w, r5, r6, r7, r8], Lg)) : AOut))
    (Y T HA HB RA RB ST NS I0 I1 I2 BO FI RG GU PU MA MN MS OT SC : Nat → Nat → Int32) (r0 r1 r2 r3 w r5 r6 r7 r8 : Nat) (L : Nat) (Lg : Int64) (p1 : Int32) (p2 : Int32) {r : Int32 × (Nat → Nat → Int32)} (h : f_M_places_B rc MA MS p1 p2 = some r) : Ev (d + 3, 0, 0, 89, 0, [.val (.ref 1088), .val (.int p1), .val (.int p2), .val a_unk, .val a_unk], [], (126, 120, L, [Y, T, HA, HB, RA, RB, ST, NS, I0, I1, I2, BO, FI, RG, GU, PU, MA, MN, MS, OT, SC], [r0, r1, r2, r3, w, r5, r6, r7, r8], Lg)) ((0, some (.int r.1), (126, 120, L, [Y, T, HA, HB, RA, RB, ST, NS, I0, I1, I2, BO, FI, RG, GU, PU, MA, MN, r.2, OT, SC], [r0, r1, r2, r3, w, r5, r6, r7, r8], Lg)) : AOut) := by
  suffices key : ∀ o : AOut, ((0, some (.int r.1), (126, 120, L, [Y, T, HA, HB, RA, RB, ST, NS, I0, I1, I2, BO, FI, RG, GU, PU, MA, MN, r.2, OT, SC], [r0, r1, r2, r3, w, r5, r6, r7, r8], Lg)) : AOut) = o → Ev (d + 3, 0, 0, 89, 0, [.val (.ref 1088), .val (.int p1), .val (.int p2), .val a_unk, .val a_unk], [], (126, 120, L, [Y, T, HA, HB, RA, RB, ST, NS, I0, I1, I2, BO, FI, RG, GU, PU, MA, MN, MS, OT, SC], [r0, r1, r2, r3, w, r5, r6, r7, r8], Lg)) o from key _ rfl
  intro o ho
  obtain ⟨v2, zh2, h⟩ := bnd h
  suffices e : Ev (d + 3, 0, 0, 89, 2, [.val (.ref 1088), .val (.int p1), .val (.int p2), .val (.int p2), .val a_unk], [], (126, 120, L, [Y, T, HA, HB, RA, RB, ST, NS, I0, I1, I2, BO, FI, RG, GU, PU, MA, MN, MS, OT, SC], [r0, r1, r2, r3, w, r5, r6, r7, r8], Lg)) o from ev_b 2 e (fun n => Eq.refl _)
  refine ev_loop (δ := Unit) (fun a j => (d + 3, 0, 0, 89, 2, [.val (.ref 1088), .val (.int p1), .val (.int p2), .val (.int a), .val a_unk], [], (126, 120, L, [Y, T, HA, HB, RA, RB, ST, NS, I0, I1, I2, BO, FI, RG, GU, PU, MA, MN, MS, OT, SC], [r0, r1, r2, r3, w, r5, r6, r7, r8], Lg))) (fun b => Ev (d + 3, 0, 0, 89, 24, [.val (.ref 1088), .val (.int p1), .val (.int p2), .val (.int b), .val a_unk], [], (126, 120, L, [Y, T, HA, HB, RA, RB, ST, NS, I0, I1, I2, BO, FI, RG, GU, PU, MA, MN, MS, OT, SC], [r0, r1, r2, r3, w, r5, r6, r7, r8], Lg)) o) ?_ a_F p2 v2 zh2 ?_ ()
  · rintro v1 zr6 zh5 zi3 zx4 ⟨⟩
    have zh5 : f_M_places_B_l2 MA p1 v1 = some zr6 := zh5
    by_cases zc7 : (MA 0 26) ≤ v1
    · have zh5 := itp zh5 zc7
      suffices e : Ev (d + 3, 0, 0, 89, 24, [.val (.ref 1088), .val (.int p1), .val (.int p2), .val (.int v1), .val a_unk], [], (126, 120, L, [Y, T, HA, HB, RA, RB, ST, NS, I0, I1, I2, BO, FI, RG, GU, PU, MA, MN, MS, OT, SC], [r0, r1, r2, r3, w, r5, r6, r7, r8], Lg)) o from ev_t (c := (MA 0 26) ≤ v1) _ _ 4  zc7 e (fun n => Eq.refl _)
      exact ev_b 0 (zx4 _ (Option.some.inj zh5).symm ) (fun n => Eq.refl _)
    · have zh5 := itn zh5 zc7
      suffices e : Ev (d + 3, 0, 0, 89, 10, [.val (.ref 1088), .val (.int p1), .val (.int p2), .val (.int v1), .val a_unk], [], (126, 120, L, [Y, T, HA, HB, RA, RB, ST, NS, I0, I1, I2, BO, FI, RG, GU, PU, MA, MN, MS, OT, SC], [r0, r1, r2, r3, w, r5, r6, r7, r8], Lg)) o from ev_f (c := (MA 0 26) ≤ v1) _ _ 4  zc7 e (fun n => Eq.refl _)
      by_cases zc8 : ((a_shr p1 v1) &&& 1) ≠ 0
      · have zh5 := itp zh5 zc8
        suffices e : Ev (d + 3, 0, 0, 89, 24, [.val (.ref 1088), .val (.int p1), .val (.int p2), .val (.int v1), .val a_unk], [], (126, 120, L, [Y, T, HA, HB, RA, RB, ST, NS, I0, I1, I2, BO, FI, RG, GU, PU, MA, MN, MS, OT, SC], [r0, r1, r2, r3, w, r5, r6, r7, r8], Lg)) o from ev_t (c := ((a_shr p1 v1) &&& 1) ≠ 0) _ _ 6  zc8 e (fun n => Eq.refl _)
        exact ev_b 0 (zx4 _ (Option.some.inj zh5).symm ) (fun n => Eq.refl _)
      · have zh5 := itn zh5 zc8
        suffices e : Ev (d + 3, 0, 0, 89, 18, [.val (.ref 1088), .val (.int p1), .val (.int p2), .val (.int v1), .val a_unk], [], (126, 120, L, [Y, T, HA, HB, RA, RB, ST, NS, I0, I1, I2, BO, FI, RG, GU, PU, MA, MN, MS, OT, SC], [r0, r1, r2, r3, w, r5, r6, r7, r8], Lg)) o from ev_f (c := ((a_shr p1 v1) &&& 1) ≠ 0) _ _ 6  zc8 e (fun n => Eq.refl _)
        exact ev_b 2 (zi3 _ (Option.some.inj zh5).symm ()) (fun n => Eq.refl _)
  · skip
    by_cases zc9 : v2 ≠ (MA 0 26)
    · have h := itp h zc9
      suffices e : Ev (d + 3, 0, 0, 89, 34, [.val (.ref 1088), .val (.int p1), .val (.int p2), .val (.int v2), .val a_unk], [], (126, 120, L, [Y, T, HA, HB, RA, RB, ST, NS, I0, I1, I2, BO, FI, RG, GU, PU, MA, MN, MS, OT, SC], [r0, r1, r2, r3, w, r5, r6, r7, r8], Lg)) o from ev_t (c := v2 ≠ (MA 0 26)) _ _ 4  zc9 e (fun n => Eq.refl _)
      obtain ⟨zb10, zh11, h⟩ := bnd h
      suffices e : Ev (d + 3, 0, 0, 89, 37, [.val (.ref 1088), .val (.int p1), .val (.int p2), .val (.int v2), .val (.int 0)], [], (126, 120, L, [Y, T, HA, HB, RA, RB, ST, NS, I0, I1, I2, BO, FI, RG, GU, PU, MA, MN, MS, OT, SC], [r0, r1, r2, r3, w, r5, r6, r7, r8], Lg)) o from ev_b 2 e (fun n => Eq.refl _)
      refine ev_loop (δ := Unit) (fun a j => (d + 3, 0, 0, 89, 37, [.val (.ref 1088), .val (.int p1), .val (.int p2), .val (.int v2), .val (.int a.1)], [], (126, 120, L, [Y, T, HA, HB, RA, RB, ST, NS, I0, I1, I2, BO, FI, RG, GU, PU, MA, MN, a.2, OT, SC], [r0, r1, r2, r3, w, r5, r6, r7, r8], Lg))) (fun b => sumE b (fun b => ∀ s12 : Value, Ev (d + 3, 0, 0, 89, 115, [.val (.ref 1088), .val (.int p1), .val (.int p2), .val (.int v2), .val s12], [], (126, 120, L, [Y, T, HA, HB, RA, RB, ST, NS, I0, I1, I2, BO, FI, RG, GU, PU, MA, MN, b, OT, SC], [r0, r1, r2, r3, w, r5, r6, r7, r8], Lg)) o) (fun b => ((0, some (.int b.1), (126, 120, L, [Y, T, HA, HB, RA, RB, ST, NS, I0, I1, I2, BO, FI, RG, GU, PU, MA, MN, b.2, OT, SC], [r0, r1, r2, r3, w, r5, r6, r7, r8], Lg)) : AOut) = o)) ?_ a_F (0, MS) zb10 zh11 ?_ ()
      · rintro ⟨v3, MS_4⟩ zr15 zh14 zi12 zx13 ⟨⟩
        have zh14 : f_M_places_B_l37 MA v2 rc p1 v3 MS_4 = some zr15 := zh14
        by_cases zc16 : 30 ≤ v3
        · have zh14 := itp zh14 zc16
          suffices e : Ev (d + 3, 0, 0, 89, 115, [.val (.ref 1088), .val (.int p1), .val (.int p2), .val (.int v2), .val (.int v3)], [], (126, 120, L, [Y, T, HA, HB, RA, RB, ST, NS, I0, I1, I2, BO, FI, RG, GU, PU, MA, MN, MS_4, OT, SC], [r0, r1, r2, r3, w, r5, r6, r7, r8], Lg)) o from ev_t (c := 30 ≤ v3) _ _ 3  zc16 e (fun n => Eq.refl _)
          exact ev_b 0 (zx13 _ (Option.some.inj zh14).symm (.int v3)) (fun n => Eq.refl _)
        · have zh14 := itn zh14 zc16
          suffices e : Ev (d + 3, 0, 0, 89, 44, [.val (.ref 1088), .val (.int p1), .val (.int p2), .val (.int v2), .val (.int v3)], [], (126, 120, L, [Y, T, HA, HB, RA, RB, ST, NS, I0, I1, I2, BO, FI, RG, GU, PU, MA, MN, MS_4, OT, SC], [r0, r1, r2, r3, w, r5, r6, r7, r8], Lg)) o from ev_f (c := 30 ≤ v3) _ _ 3  zc16 e (fun n => Eq.refl _)
          obtain ⟨x5, zh17, zh14⟩ := bnd zh14
          have zh17 : f_M_isThere MA v3 = some x5 := zh17
          have ze18 := R_f_M_isThere_0 (d + 2) Y T HA HB RA RB ST NS I0 I1 I2 BO FI RG GU PU MA MN MS_4 OT SC r0 r1 r2 r3 w r5 r6 r7 r8 L Lg v3 zh17
          suffices e : Ev (d + 3, 0, 0, 89, 50, [.val (.ref 1088), .val (.int p1), .val (.int p2), .val (.int v2), .val (.int v3)], [.int x5], (126, 120, L, [Y, T, HA, HB, RA, RB, ST, NS, I0, I1, I2, BO, FI, RG, GU, PU, MA, MN, MS_4, OT, SC], [r0, r1, r2, r3, w, r5, r6, r7, r8], Lg)) o from ev_call (fun v μ => (d + 3, 0, 0, 89, 50, [.val (.ref 1088), .val (.int p1), .val (.int p2), .val (.int v2), .val (.int v3)], v.toList ++ [], μ)) 3 ze18 e (fun n => Eq.refl _)
          by_cases zc19 : x5 = 0
          · have zh14 := itp zh14 zc19
            suffices e : Ev (d + 3, 0, 0, 89, 109, [.val (.ref 1088), .val (.int p1), .val (.int p2), .val (.int v2), .val (.int v3)], [], (126, 120, L, [Y, T, HA, HB, RA, RB, ST, NS, I0, I1, I2, BO, FI, RG, GU, PU, MA, MN, MS_4, OT, SC], [r0, r1, r2, r3, w, r5, r6, r7, r8], Lg)) o from ev_t (c := x5 = 0) _ _ 1  zc19 e (fun n => Eq.refl _)
            exact ev_b 2 (zi12 _ (Option.some.inj zh14).symm ()) (fun n => Eq.refl _)
          · have zh14 := itn zh14 zc19
            suffices e : Ev (d + 3, 0, 0, 89, 53, [.val (.ref 1088), .val (.int p1), .val (.int p2), .val (.int v2), .val (.int v3)], [], (126, 120, L, [Y, T, HA, HB, RA, RB, ST, NS, I0, I1, I2, BO, FI, RG, GU, PU, MA, MN, MS_4, OT, SC], [r0, r1, r2, r3, w, r5, r6, r7, r8], Lg)) o from ev_f (c := x5 = 0) _ _ 1  zc19 e (fun n => Eq.refl _)
            obtain ⟨x6, zh20, zh14⟩ := bnd zh14
            have zh20 : rdx (MA 7) 10 v2 = some x6 := zh20
            suffices e : Ev (d + 3, 0, 0, 89, 61, [.val (.ref 1088), .val (.int p1), .val (.int p2), .val (.int v2), .val (.int v3)], [.int x6, .int v3], (126, 120, L, [Y, T, HA, HB, RA, RB, ST, NS, I0, I1, I2, BO, FI, RG, GU, PU, MA, MN, MS_4, OT, SC], [r0, r1, r2, r3, w, r5, r6, r7, r8], Lg)) o from ev_opt (fun x6 => (d + 3, 0, 0, 89, 61, [.val (.ref 1088), .val (.int p1), .val (.int p2), .val (.int v2), .val (.int v3)], [.int x6, .int v3], (126, 120, L, [Y, T, HA, HB, RA, RB, ST, NS, I0, I1, I2, BO, FI, RG, GU, PU, MA, MN, MS_4, OT, SC], [r0, r1, r2, r3, w, r5, r6, r7, r8], Lg))) 5 zh20 e (fun n => Eq.refl _)
            by_cases zc21 : v3 = x6
            · have zh14 := itp zh14 zc21
              suffices e : Ev (d + 3, 0, 0, 89, 109, [.val (.ref 1088), .val (.int p1), .val (.int p2), .val (.int v2), .val (.int v3)], [], (126, 120, L, [Y, T, HA, HB, RA, RB, ST, NS, I0, I1, I2, BO, FI, RG, GU, PU, MA, MN, MS_4, OT, SC], [r0, r1, r2, r3, w, r5, r6, r7, r8], Lg)) o from ev_t (c := v3 = x6) _ _ 1  zc21 e (fun n => Eq.refl _)
              exact ev_b 2 (zi12 _ (Option.some.inj zh14).symm ()) (fun n => Eq.refl _)
            · have zh14 := itn zh14 zc21
              suffices e : Ev (d + 3, 0, 0, 89, 64, [.val (.ref 1088), .val (.int p1), .val (.int p2), .val (.int v2), .val (.int v3)], [], (126, 120, L, [Y, T, HA, HB, RA, RB, ST, NS, I0, I1, I2, BO, FI, RG, GU, PU, MA, MN, MS_4, OT, SC], [r0, r1, r2, r3, w, r5, r6, r7, r8], Lg)) o from ev_f (c := v3 = x6) _ _ 1  zc21 e (fun n => Eq.refl _)
              obtain ⟨x7, zh22, zh14⟩ := bnd zh14
              have zh22 : f_M_clashOf MA v2 v3 (MS_4 4) = some x7 := zh22
              have ze23 := R_f_M_clashOf_1 (d + 0) Y T HA HB RA RB ST NS I0 I1 I2 BO FI RG GU PU MA MN MS_4 OT SC r0 r1 r2 r3 w r5 r6 r7 r8 L Lg v2 v3 zh22
              suffices e : Ev (d + 3, 0, 0, 89, 75, [.val (.ref 1088), .val (.int p1), .val (.int p2), .val (.int v2), .val (.int v3)], [.int x7], (126, 120, L, [Y, T, HA, HB, RA, RB, ST, NS, I0, I1, I2, BO, FI, RG, GU, PU, MA, MN, MS_4, OT, SC], [r0, r1, r2, r3, w, r5, r6, r7, r8], Lg)) o from ev_call (fun v μ => (d + 3, 0, 0, 89, 75, [.val (.ref 1088), .val (.int p1), .val (.int p2), .val (.int v2), .val (.int v3)], v.toList ++ [], μ)) 6 ze23 e (fun n => Eq.refl _)
              by_cases zc24 : x7 = 0
              · have zh14 := itp zh14 zc24
                suffices e : Ev (d + 3, 0, 0, 89, 81, [.val (.ref 1088), .val (.int p1), .val (.int p2), .val (.int v2), .val (.int v3)], [], (126, 120, L, [Y, T, HA, HB, RA, RB, ST, NS, I0, I1, I2, BO, FI, RG, GU, PU, MA, MN, MS_4, OT, SC], [r0, r1, r2, r3, w, r5, r6, r7, r8], Lg)) o from ev_t (c := x7 = 0) _ _ 1  zc24 e (fun n => Eq.refl _)
                obtain ⟨j8, zh25, zh14⟩ := bnd zh14
                have zh25 : ixx 10 v2 = some j8 := zh25
                suffices e : Ev (d + 3, 0, 0, 89, 89, [.val (.ref 1088), .val (.int p1), .val (.int p2), .val (.int v2), .val (.int v3)], [], (126, 120, L, [Y, T, HA, HB, RA, RB, ST, NS, I0, I1, I2, BO, FI, RG, GU, PU, MA, MN, (u2 MS_4 4 j8 v3), OT, SC], [r0, r1, r2, r3, w, r5, r6, r7, r8], Lg)) o from ev_opt (fun j8 => (d + 3, 0, 0, 89, 89, [.val (.ref 1088), .val (.int p1), .val (.int p2), .val (.int v2), .val (.int v3)], [], (126, 120, L, [Y, T, HA, HB, RA, RB, ST, NS, I0, I1, I2, BO, FI, RG, GU, PU, MA, MN, (u2 MS_4 4 j8 v3), OT, SC], [r0, r1, r2, r3, w, r5, r6, r7, r8], Lg))) 5 zh25 e (fun n => Eq.refl _)
                obtain ⟨⟨x9, MS_10⟩, zh26, zh14⟩ := bnd zh14
                have zh26 : rc 0 MA (u2 MS_4 4 j8 v3) p1 (v2 + 1) = some (x9, MS_10) := zh26
                have ze27 := zrc0 Y T HA HB RA RB ST NS I0 I1 I2 BO FI RG GU PU MA MN (u2 MS_4 4 j8 v3) OT SC r0 r1 r2 r3 w r5 r6 r7 r8 L Lg p1 (v2 + 1) _ zh26
                suffices e : Ev (d + 3, 0, 0, 89, 97, [.val (.ref 1088), .val (.int p1), .val (.int p2), .val (.int v2), .val (.int v3)], [.int x9], (126, 120, L, [Y, T, HA, HB, RA, RB, ST, NS, I0, I1, I2, BO, FI, RG, GU, PU, MA, MN, MS_10, OT, SC], [r0, r1, r2, r3, w, r5, r6, r7, r8], Lg)) o from ev_call (fun v μ => (d + 3, 0, 0, 89, 97, [.val (.ref 1088), .val (.int p1), .val (.int p2), .val (.int v2), .val (.int v3)], v.toList ++ [], μ)) 6 ze27 e (fun n => Eq.refl _)
                by_cases zc28 : x9 = 0
                · have zh14 := itp zh14 zc28
                  suffices e : Ev (d + 3, 0, 0, 89, 102, [.val (.ref 1088), .val (.int p1), .val (.int p2), .val (.int v2), .val (.int v3)], [], (126, 120, L, [Y, T, HA, HB, RA, RB, ST, NS, I0, I1, I2, BO, FI, RG, GU, PU, MA, MN, MS_10, OT, SC], [r0, r1, r2, r3, w, r5, r6, r7, r8], Lg)) o from ev_t (c := x9 = 0) _ _ 1  zc28 e (fun n => Eq.refl _)
                  obtain ⟨j11, zh29, zh14⟩ := bnd zh14
                  have zh29 : ixx 10 v2 = some j11 := zh29
                  suffices e : Ev (d + 3, 0, 0, 89, 109, [.val (.ref 1088), .val (.int p1), .val (.int p2), .val (.int v2), .val (.int v3)], [], (126, 120, L, [Y, T, HA, HB, RA, RB, ST, NS, I0, I1, I2, BO, FI, RG, GU, PU, MA, MN, (u2 MS_10 4 j11 (-1)), OT, SC], [r0, r1, r2, r3, w, r5, r6, r7, r8], Lg)) o from ev_opt (fun j11 => (d + 3, 0, 0, 89, 109, [.val (.ref 1088), .val (.int p1), .val (.int p2), .val (.int v2), .val (.int v3)], [], (126, 120, L, [Y, T, HA, HB, RA, RB, ST, NS, I0, I1, I2, BO, FI, RG, GU, PU, MA, MN, (u2 MS_10 4 j11 (-1)), OT, SC], [r0, r1, r2, r3, w, r5, r6, r7, r8], Lg))) 5 zh29 e (fun n => Eq.refl _)
                  exact ev_b 2 (zi12 _ (Option.some.inj zh14).symm ()) (fun n => Eq.refl _)
                · have zh14 := itn zh14 zc28
                  suffices e : Ev (d + 3, 0, 0, 89, 100, [.val (.ref 1088), .val (.int p1), .val (.int p2), .val (.int v2), .val (.int v3)], [], (126, 120, L, [Y, T, HA, HB, RA, RB, ST, NS, I0, I1, I2, BO, FI, RG, GU, PU, MA, MN, MS_10, OT, SC], [r0, r1, r2, r3, w, r5, r6, r7, r8], Lg)) o from ev_f (c := x9 = 0) _ _ 1  zc28 e (fun n => Eq.refl _)
                  exact ev_rete 2 (zx13 _ (Option.some.inj zh14).symm) (fun n => Eq.refl _)
              · have zh14 := itn zh14 zc24
                suffices e : Ev (d + 3, 0, 0, 89, 78, [.val (.ref 1088), .val (.int p1), .val (.int p2), .val (.int v2), .val (.int v3)], [], (126, 120, L, [Y, T, HA, HB, RA, RB, ST, NS, I0, I1, I2, BO, FI, RG, GU, PU, MA, MN, MS_4, OT, SC], [r0, r1, r2, r3, w, r5, r6, r7, r8], Lg)) o from ev_f (c := x7 = 0) _ _ 1  zc24 e (fun n => Eq.refl _)
                exact ev_b 3 (zi12 _ (Option.some.inj zh14).symm ()) (fun n => Eq.refl _)
      · rcases zb10 with MS_13 | zr15
        · intro s12
          have ze30 := Option.some.inj h
          subst ze30
          exact ev_rete 2 ho (fun n => Eq.refl _)
        · have zh31 : some zr15 = some r := h
          exact (congrArg (fun q => ((0, some (.int q.1), (126, 120, L, [Y, T, HA, HB, RA, RB, ST, NS, I0, I1, I2, BO, FI, RG, GU, PU, MA, MN, q.2, OT, SC], [r0, r1, r2, r3, w, r5, r6, r7, r8], Lg)) : AOut)) (Option.some.inj zh31)).trans ho
    · have h := itn h zc9
      suffices e : Ev (d + 3, 0, 0, 89, 32, [.val (.ref 1088), .val (.int p1), .val (.int p2), .val (.int v2), .val a_unk], [], (126, 120, L, [Y, T, HA, HB, RA, RB, ST, NS, I0, I1, I2, BO, FI, RG, GU, PU, MA, MN, MS, OT, SC], [r0, r1, r2, r3, w, r5, r6, r7, r8], Lg)) o from ev_f (c := v2 ≠ (MA 0 26)) _ _ 4  zc9 e (fun n => Eq.refl _)
      have ze33 := Option.some.inj h
      subst ze33
      exact ev_rete 2 ho (fun n => Eq.refl _)
