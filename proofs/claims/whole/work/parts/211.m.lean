/-! printed by program (gen/emitm.py): the reference's methods run as their functions say -/
set_option maxRecDepth 1000000 in
set_option maxHeartbeats 4000000 in
theorem R_f_M_allYield_0 (d : Nat) (Y T HA HB RA RB ST NS I0 I1 I2 BO FI RG GU PU MA MN MS OT SC : Nat → Nat → Int32) (r0 r1 r2 r3 w r5 r6 r7 r8 : Nat) (L : Nat) (Lg : Int64) (p1 : Int32) (p2 : Int32) (p3 : Int32) {r : Int32 × (Nat → Nat → Int32)} (h : f_M_allYield MA MS p1 p2 p3 = some r) : Ev (d + 2, 0, 0, 133, 0, [.val (.ref 1088), .val (.int p1), .val (.int p2), .val (.int p3), .val a_unk], [], (126, 120, L, [Y, T, HA, HB, RA, RB, ST, NS, I0, I1, I2, BO, FI, RG, GU, PU, MA, MN, MS, OT, SC], [r0, r1, r2, r3, w, r5, r6, r7, r8], Lg)) ((0, some (.int r.1), (126, 120, L, [Y, T, HA, HB, RA, RB, ST, NS, I0, I1, I2, BO, FI, RG, GU, PU, MA, MN, r.2, OT, SC], [r0, r1, r2, r3, w, r5, r6, r7, r8], Lg)) : AOut) := by
  suffices key : ∀ o : AOut, ((0, some (.int r.1), (126, 120, L, [Y, T, HA, HB, RA, RB, ST, NS, I0, I1, I2, BO, FI, RG, GU, PU, MA, MN, r.2, OT, SC], [r0, r1, r2, r3, w, r5, r6, r7, r8], Lg)) : AOut) = o → Ev (d + 2, 0, 0, 133, 0, [.val (.ref 1088), .val (.int p1), .val (.int p2), .val (.int p3), .val a_unk], [], (126, 120, L, [Y, T, HA, HB, RA, RB, ST, NS, I0, I1, I2, BO, FI, RG, GU, PU, MA, MN, MS, OT, SC], [r0, r1, r2, r3, w, r5, r6, r7, r8], Lg)) o from key _ rfl
  intro o ho
  obtain ⟨zb1, zh2, h⟩ := bnd h
  suffices e : Ev (d + 2, 0, 0, 133, 3, [.val (.ref 1088), .val (.int p1), .val (.int p2), .val (.int p3), .val (.int 0)], [], (126, 120, L, [Y, T, HA, HB, RA, RB, ST, NS, I0, I1, I2, BO, FI, RG, GU, PU, MA, MN, MS, OT, SC], [r0, r1, r2, r3, w, r5, r6, r7, r8], Lg)) o from ev_b 2 e (fun n => Eq.refl _)
  refine ev_loop (δ := Unit) (fun a j => (d + 2, 0, 0, 133, 3, [.val (.ref 1088), .val (.int p1), .val (.int p2), .val (.int p3), .val (.int a.1)], [], (126, 120, L, [Y, T, HA, HB, RA, RB, ST, NS, I0, I1, I2, BO, FI, RG, GU, PU, MA, MN, a.2, OT, SC], [r0, r1, r2, r3, w, r5, r6, r7, r8], Lg))) (fun b => sumE b (fun b => ∀ s5 : Value, Ev (d + 2, 0, 0, 133, 45, [.val (.ref 1088), .val (.int p1), .val (.int p2), .val (.int p3), .val s5], [], (126, 120, L, [Y, T, HA, HB, RA, RB, ST, NS, I0, I1, I2, BO, FI, RG, GU, PU, MA, MN, b, OT, SC], [r0, r1, r2, r3, w, r5, r6, r7, r8], Lg)) o) (fun b => ((0, some (.int b.1), (126, 120, L, [Y, T, HA, HB, RA, RB, ST, NS, I0, I1, I2, BO, FI, RG, GU, PU, MA, MN, b.2, OT, SC], [r0, r1, r2, r3, w, r5, r6, r7, r8], Lg)) : AOut) = o)) ?_ a_F (0, MS) zb1 zh2 ?_ ()
  · rintro ⟨v1, MS_2⟩ zr6 zh5 zi3 zx4 ⟨⟩
    have zh5 : f_M_allYield_l3 MA p1 p2 p3 v1 MS_2 = some zr6 := zh5
    by_cases zc7 : (MA 0 26) ≤ v1
    · have zh5 := itp zh5 zc7
      suffices e : Ev (d + 2, 0, 0, 133, 45, [.val (.ref 1088), .val (.int p1), .val (.int p2), .val (.int p3), .val (.int v1)], [], (126, 120, L, [Y, T, HA, HB, RA, RB, ST, NS, I0, I1, I2, BO, FI, RG, GU, PU, MA, MN, MS_2, OT, SC], [r0, r1, r2, r3, w, r5, r6, r7, r8], Lg)) o from ev_t (c := (MA 0 26) ≤ v1) _ _ 4  zc7 e (fun n => Eq.refl _)
      exact ev_b 0 (zx4 _ (Option.some.inj zh5).symm (.int v1)) (fun n => Eq.refl _)
    · have zh5 := itn zh5 zc7
      suffices e : Ev (d + 2, 0, 0, 133, 12, [.val (.ref 1088), .val (.int p1), .val (.int p2), .val (.int p3), .val (.int v1)], [], (126, 120, L, [Y, T, HA, HB, RA, RB, ST, NS, I0, I1, I2, BO, FI, RG, GU, PU, MA, MN, MS_2, OT, SC], [r0, r1, r2, r3, w, r5, r6, r7, r8], Lg)) o from ev_f (c := (MA 0 26) ≤ v1) _ _ 4  zc7 e (fun n => Eq.refl _)
      by_cases zc8 : ((a_shr p1 v1) &&& 1) ≠ 1
      · have zh5 := itp zh5 zc8
        suffices e : Ev (d + 2, 0, 0, 133, 39, [.val (.ref 1088), .val (.int p1), .val (.int p2), .val (.int p3), .val (.int v1)], [], (126, 120, L, [Y, T, HA, HB, RA, RB, ST, NS, I0, I1, I2, BO, FI, RG, GU, PU, MA, MN, MS_2, OT, SC], [r0, r1, r2, r3, w, r5, r6, r7, r8], Lg)) o from ev_t (c := ((a_shr p1 v1) &&& 1) ≠ 1) _ _ 7  zc8 e (fun n => Eq.refl _)
        exact ev_b 2 (zi3 _ (Option.some.inj zh5).symm ()) (fun n => Eq.refl _)
      · have zh5 := itn zh5 zc8
        suffices e : Ev (d + 2, 0, 0, 133, 22, [.val (.ref 1088), .val (.int p1), .val (.int p2), .val (.int p3), .val (.int v1)], [], (126, 120, L, [Y, T, HA, HB, RA, RB, ST, NS, I0, I1, I2, BO, FI, RG, GU, PU, MA, MN, MS_2, OT, SC], [r0, r1, r2, r3, w, r5, r6, r7, r8], Lg)) o from ev_f (c := ((a_shr p1 v1) &&& 1) ≠ 1) _ _ 7  zc8 e (fun n => Eq.refl _)
        obtain ⟨⟨x3, MS_4⟩, zh9, zh5⟩ := bnd zh5
        have zh9 : f_M_yieldsTo MA MS_2 v1 p2 p3 (MS_2 0 58) = some (x3, MS_4) := zh9
        have ze10 := R_f_M_yieldsTo_0 (d + 0) Y T HA HB RA RB ST NS I0 I1 I2 BO FI RG GU PU MA MN MS_2 OT SC r0 r1 r2 r3 w r5 r6 r7 r8 L Lg v1 p2 p3 (MS_2 0 58) zh9
        suffices e : Ev (d + 2, 0, 0, 133, 34, [.val (.ref 1088), .val (.int p1), .val (.int p2), .val (.int p3), .val (.int v1)], [.int x3], (126, 120, L, [Y, T, HA, HB, RA, RB, ST, NS, I0, I1, I2, BO, FI, RG, GU, PU, MA, MN, MS_4, OT, SC], [r0, r1, r2, r3, w, r5, r6, r7, r8], Lg)) o from ev_call (fun v μ => (d + 2, 0, 0, 133, 34, [.val (.ref 1088), .val (.int p1), .val (.int p2), .val (.int p3), .val (.int v1)], v.toList ++ [], μ)) 7 ze10 e (fun n => Eq.refl _)
        by_cases zc11 : x3 ≠ 0
        · have zh5 := itp zh5 zc11
          suffices e : Ev (d + 2, 0, 0, 133, 39, [.val (.ref 1088), .val (.int p1), .val (.int p2), .val (.int p3), .val (.int v1)], [], (126, 120, L, [Y, T, HA, HB, RA, RB, ST, NS, I0, I1, I2, BO, FI, RG, GU, PU, MA, MN, MS_4, OT, SC], [r0, r1, r2, r3, w, r5, r6, r7, r8], Lg)) o from ev_t (c := x3 ≠ 0) _ _ 1  zc11 e (fun n => Eq.refl _)
          exact ev_b 2 (zi3 _ (Option.some.inj zh5).symm ()) (fun n => Eq.refl _)
        · have zh5 := itn zh5 zc11
          suffices e : Ev (d + 2, 0, 0, 133, 37, [.val (.ref 1088), .val (.int p1), .val (.int p2), .val (.int p3), .val (.int v1)], [], (126, 120, L, [Y, T, HA, HB, RA, RB, ST, NS, I0, I1, I2, BO, FI, RG, GU, PU, MA, MN, MS_4, OT, SC], [r0, r1, r2, r3, w, r5, r6, r7, r8], Lg)) o from ev_f (c := x3 ≠ 0) _ _ 1  zc11 e (fun n => Eq.refl _)
          exact ev_rete 2 (zx4 _ (Option.some.inj zh5).symm) (fun n => Eq.refl _)
  · rcases zb1 with MS_6 | zr6
    · intro s5
      have ze12 := Option.some.inj h
      subst ze12
      exact ev_rete 2 ho (fun n => Eq.refl _)
    · have zh13 : some zr6 = some r := h
      exact (congrArg (fun q => ((0, some (.int q.1), (126, 120, L, [Y, T, HA, HB, RA, RB, ST, NS, I0, I1, I2, BO, FI, RG, GU, PU, MA, MN, q.2, OT, SC], [r0, r1, r2, r3, w, r5, r6, r7, r8], Lg)) : AOut)) (Option.some.inj zh13)).trans ho
set_option maxRecDepth 1000000 in
set_option maxHeartbeats 4000000 in
theorem R_f_M_looks_0 (d : Nat) (Y T HA HB RA RB ST NS I0 I1 I2 BO FI RG GU PU MA MN MS OT SC : Nat → Nat → Int32) (r0 r1 r2 r3 w r5 r6 r7 r8 : Nat) (L : Nat) (Lg : Int64) (p1 : Int32) {r : (Nat → Nat → Int32)} (h : f_M_looks MA MS p1 = some r) : Ev (d + 3, 0, 0, 134, 0, [.val (.ref 1088), .val (.int p1), .val a_unk, .val a_unk], [], (126, 120, L, [Y, T, HA, HB, RA, RB, ST, NS, I0, I1, I2, BO, FI, RG, GU, PU, MA, MN, MS, OT, SC], [r0, r1, r2, r3, w, r5, r6, r7, r8], Lg)) ((0, none, (126, 120, L, [Y, T, HA, HB, RA, RB, ST, NS, I0, I1, I2, BO, FI, RG, GU, PU, MA, MN, r, OT, SC], [r0, r1, r2, r3, w, r5, r6, r7, r8], Lg)) : AOut) := by
  suffices key : ∀ o : AOut, ((0, none, (126, 120, L, [Y, T, HA, HB, RA, RB, ST, NS, I0, I1, I2, BO, FI, RG, GU, PU, MA, MN, r, OT, SC], [r0, r1, r2, r3, w, r5, r6, r7, r8], Lg)) : AOut) = o → Ev (d + 3, 0, 0, 134, 0, [.val (.ref 1088), .val (.int p1), .val a_unk, .val a_unk], [], (126, 120, L, [Y, T, HA, HB, RA, RB, ST, NS, I0, I1, I2, BO, FI, RG, GU, PU, MA, MN, MS, OT, SC], [r0, r1, r2, r3, w, r5, r6, r7, r8], Lg)) o from key _ rfl
  intro o ho
  obtain ⟨zb1, zh2, h⟩ := bnd h
  suffices e : Ev (d + 3, 0, 0, 134, 2, [.val (.ref 1088), .val (.int p1), .val (.int 0), .val a_unk], [], (126, 120, L, [Y, T, HA, HB, RA, RB, ST, NS, I0, I1, I2, BO, FI, RG, GU, PU, MA, MN, MS, OT, SC], [r0, r1, r2, r3, w, r5, r6, r7, r8], Lg)) o from ev_b 2 e (fun n => Eq.refl _)
  refine ev_loop (δ := Unit) (fun a j => (d + 3, 0, 0, 134, 2, [.val (.ref 1088), .val (.int p1), .val (.int a.1), .val a_unk], [], (126, 120, L, [Y, T, HA, HB, RA, RB, ST, NS, I0, I1, I2, BO, FI, RG, GU, PU, MA, MN, a.2, OT, SC], [r0, r1, r2, r3, w, r5, r6, r7, r8], Lg))) (fun b => sumE b (fun b => ∀ s6 : Value, Ev (d + 3, 0, 0, 134, 46, [.val (.ref 1088), .val (.int p1), .val s6, .val a_unk], [], (126, 120, L, [Y, T, HA, HB, RA, RB, ST, NS, I0, I1, I2, BO, FI, RG, GU, PU, MA, MN, b, OT, SC], [r0, r1, r2, r3, w, r5, r6, r7, r8], Lg)) o) (fun b => ((0, none, (126, 120, L, [Y, T, HA, HB, RA, RB, ST, NS, I0, I1, I2, BO, FI, RG, GU, PU, MA, MN, b, OT, SC], [r0, r1, r2, r3, w, r5, r6, r7, r8], Lg)) : AOut) = o)) ?_ a_F (0, MS) zb1 zh2 ?_ ()
  · rintro ⟨v1, MS_2⟩ zr6 zh5 zi3 zx4 ⟨⟩
    have zh5 : f_M_looks_l2 MA p1 v1 MS_2 = some zr6 := zh5
    by_cases zc7 : 30 ≤ v1
    · have zh5 := itp zh5 zc7
      suffices e : Ev (d + 3, 0, 0, 134, 46, [.val (.ref 1088), .val (.int p1), .val (.int v1), .val a_unk], [], (126, 120, L, [Y, T, HA, HB, RA, RB, ST, NS, I0, I1, I2, BO, FI, RG, GU, PU, MA, MN, MS_2, OT, SC], [r0, r1, r2, r3, w, r5, r6, r7, r8], Lg)) o from ev_t (c := 30 ≤ v1) _ _ 3  zc7 e (fun n => Eq.refl _)
      exact ev_b 0 (zx4 _ (Option.some.inj zh5).symm (.int v1)) (fun n => Eq.refl _)
    · have zh5 := itn zh5 zc7
      suffices e : Ev (d + 3, 0, 0, 134, 8, [.val (.ref 1088), .val (.int p1), .val (.int v1), .val a_unk], [], (126, 120, L, [Y, T, HA, HB, RA, RB, ST, NS, I0, I1, I2, BO, FI, RG, GU, PU, MA, MN, MS_2, OT, SC], [r0, r1, r2, r3, w, r5, r6, r7, r8], Lg)) o from ev_f (c := 30 ≤ v1) _ _ 3  zc7 e (fun n => Eq.refl _)
      obtain ⟨x3, zh8, zh5⟩ := bnd zh5
      have zh8 : f_M_isThere MA v1 = some x3 := zh8
      have ze9 := R_f_M_isThere_0 (d + 2) Y T HA HB RA RB ST NS I0 I1 I2 BO FI RG GU PU MA MN MS_2 OT SC r0 r1 r2 r3 w r5 r6 r7 r8 L Lg v1 zh8
      suffices e : Ev (d + 3, 0, 0, 134, 13, [.val (.ref 1088), .val (.int p1), .val (.int v1), .val a_unk], [.int x3], (126, 120, L, [Y, T, HA, HB, RA, RB, ST, NS, I0, I1, I2, BO, FI, RG, GU, PU, MA, MN, MS_2, OT, SC], [r0, r1, r2, r3, w, r5, r6, r7, r8], Lg)) o from ev_call (fun v μ => (d + 3, 0, 0, 134, 13, [.val (.ref 1088), .val (.int p1), .val (.int v1), .val a_unk], v.toList ++ [], μ)) 3 ze9 e (fun n => Eq.refl _)
      by_cases zc10 : x3 = 0
      · have zh5 := itp zh5 zc10
        suffices e : Ev (d + 3, 0, 0, 134, 40, [.val (.ref 1088), .val (.int p1), .val (.int v1), .val a_unk], [], (126, 120, L, [Y, T, HA, HB, RA, RB, ST, NS, I0, I1, I2, BO, FI, RG, GU, PU, MA, MN, MS_2, OT, SC], [r0, r1, r2, r3, w, r5, r6, r7, r8], Lg)) o from ev_t (c := x3 = 0) _ _ 1  zc10 e (fun n => Eq.refl _)
        exact ev_b 2 (zi3 _ (Option.some.inj zh5).symm ()) (fun n => Eq.refl _)
      · have zh5 := itn zh5 zc10
        suffices e : Ev (d + 3, 0, 0, 134, 16, [.val (.ref 1088), .val (.int p1), .val (.int v1), .val a_unk], [], (126, 120, L, [Y, T, HA, HB, RA, RB, ST, NS, I0, I1, I2, BO, FI, RG, GU, PU, MA, MN, MS_2, OT, SC], [r0, r1, r2, r3, w, r5, r6, r7, r8], Lg)) o from ev_f (c := x3 = 0) _ _ 1  zc10 e (fun n => Eq.refl _)
        obtain ⟨x4, zh11, zh5⟩ := bnd zh5
        have zh11 : f_M_clashOf MA p1 v1 (MS_2 4) = some x4 := zh11
        have ze12 := R_f_M_clashOf_1 (d + 0) Y T HA HB RA RB ST NS I0 I1 I2 BO FI RG GU PU MA MN MS_2 OT SC r0 r1 r2 r3 w r5 r6 r7 r8 L Lg p1 v1 zh11
        suffices e : Ev (d + 3, 0, 0, 134, 26, [.val (.ref 1088), .val (.int p1), .val (.int v1), .val a_unk], [.int x4], (126, 120, L, [Y, T, HA, HB, RA, RB, ST, NS, I0, I1, I2, BO, FI, RG, GU, PU, MA, MN, MS_2, OT, SC], [r0, r1, r2, r3, w, r5, r6, r7, r8], Lg)) o from ev_call (fun v μ => (d + 3, 0, 0, 134, 26, [.val (.ref 1088), .val (.int p1), .val (.int v1), .val a_unk], v.toList ++ [], μ)) 6 ze12 e (fun n => Eq.refl _)
        by_cases zc13 : x4 = 0
        · have zh5 := itp zh5 zc13
          suffices e : Ev (d + 3, 0, 0, 134, 32, [.val (.ref 1088), .val (.int p1), .val (.int v1), .val a_unk], [], (126, 120, L, [Y, T, HA, HB, RA, RB, ST, NS, I0, I1, I2, BO, FI, RG, GU, PU, MA, MN, MS_2, OT, SC], [r0, r1, r2, r3, w, r5, r6, r7, r8], Lg)) o from ev_t (c := x4 = 0) _ _ 1  zc13 e (fun n => Eq.refl _)
          obtain ⟨j5, zh14, zh5⟩ := bnd zh5
          have zh14 : ixx 10 p1 = some j5 := zh14
          suffices e : Ev (d + 3, 0, 0, 134, 39, [.val (.ref 1088), .val (.int p1), .val (.int v1), .val a_unk], [], (126, 120, L, [Y, T, HA, HB, RA, RB, ST, NS, I0, I1, I2, BO, FI, RG, GU, PU, MA, MN, (u2 MS_2 4 j5 v1), OT, SC], [r0, r1, r2, r3, w, r5, r6, r7, r8], Lg)) o from ev_opt (fun j5 => (d + 3, 0, 0, 134, 39, [.val (.ref 1088), .val (.int p1), .val (.int v1), .val a_unk], [], (126, 120, L, [Y, T, HA, HB, RA, RB, ST, NS, I0, I1, I2, BO, FI, RG, GU, PU, MA, MN, (u2 MS_2 4 j5 v1), OT, SC], [r0, r1, r2, r3, w, r5, r6, r7, r8], Lg))) 5 zh14 e (fun n => Eq.refl _)
          exact ev_rete 1 (zx4 _ (Option.some.inj zh5).symm) (fun n => Eq.refl _)
        · have zh5 := itn zh5 zc13
          suffices e : Ev (d + 3, 0, 0, 134, 29, [.val (.ref 1088), .val (.int p1), .val (.int v1), .val a_unk], [], (126, 120, L, [Y, T, HA, HB, RA, RB, ST, NS, I0, I1, I2, BO, FI, RG, GU, PU, MA, MN, MS_2, OT, SC], [r0, r1, r2, r3, w, r5, r6, r7, r8], Lg)) o from ev_f (c := x4 = 0) _ _ 1  zc13 e (fun n => Eq.refl _)
          exact ev_b 3 (zi3 _ (Option.some.inj zh5).symm ()) (fun n => Eq.refl _)
  · rcases zb1 with MS_7 | zr6
    · intro s6
      obtain ⟨zb15, zh16, h⟩ := bnd h
      suffices e : Ev (d + 3, 0, 0, 134, 48, [.val (.ref 1088), .val (.int p1), .val (.int 0), .val a_unk], [], (126, 120, L, [Y, T, HA, HB, RA, RB, ST, NS, I0, I1, I2, BO, FI, RG, GU, PU, MA, MN, MS_7, OT, SC], [r0, r1, r2, r3, w, r5, r6, r7, r8], Lg)) o from ev_b 2 e (fun n => Eq.refl _)
      refine ev_loop (δ := Value) (fun a j => (d + 3, 0, 0, 134, 48, [.val (.ref 1088), .val (.int p1), .val (.int a.1), .val j], [], (126, 120, L, [Y, T, HA, HB, RA, RB, ST, NS, I0, I1, I2, BO, FI, RG, GU, PU, MA, MN, a.2, OT, SC], [r0, r1, r2, r3, w, r5, r6, r7, r8], Lg))) (fun b => sumE b (fun b => ∀ s18 : Value, ∀ s19 : Value, Ev (d + 3, 0, 0, 134, 115, [.val (.ref 1088), .val (.int p1), .val s18, .val s19], [], (126, 120, L, [Y, T, HA, HB, RA, RB, ST, NS, I0, I1, I2, BO, FI, RG, GU, PU, MA, MN, b, OT, SC], [r0, r1, r2, r3, w, r5, r6, r7, r8], Lg)) o) (fun b => ((0, none, (126, 120, L, [Y, T, HA, HB, RA, RB, ST, NS, I0, I1, I2, BO, FI, RG, GU, PU, MA, MN, b, OT, SC], [r0, r1, r2, r3, w, r5, r6, r7, r8], Lg)) : AOut) = o)) ?_ a_F (0, MS_7) zb15 zh16 ?_ a_unk
      · rintro ⟨v8, MS_10⟩ zr20 zh19 zi17 zx18 s9
        have zh19 : f_M_looks_l48 MA p1 v8 MS_10 = some zr20 := zh19
        by_cases zc21 : 30 ≤ v8
        · have zh19 := itp zh19 zc21
          suffices e : Ev (d + 3, 0, 0, 134, 115, [.val (.ref 1088), .val (.int p1), .val (.int v8), .val s9], [], (126, 120, L, [Y, T, HA, HB, RA, RB, ST, NS, I0, I1, I2, BO, FI, RG, GU, PU, MA, MN, MS_10, OT, SC], [r0, r1, r2, r3, w, r5, r6, r7, r8], Lg)) o from ev_t (c := 30 ≤ v8) _ _ 3  zc21 e (fun n => Eq.refl _)
          exact ev_b 0 (zx18 _ (Option.some.inj zh19).symm (.int v8) s9) (fun n => Eq.refl _)
        · have zh19 := itn zh19 zc21
          suffices e : Ev (d + 3, 0, 0, 134, 54, [.val (.ref 1088), .val (.int p1), .val (.int v8), .val s9], [], (126, 120, L, [Y, T, HA, HB, RA, RB, ST, NS, I0, I1, I2, BO, FI, RG, GU, PU, MA, MN, MS_10, OT, SC], [r0, r1, r2, r3, w, r5, r6, r7, r8], Lg)) o from ev_f (c := 30 ≤ v8) _ _ 3  zc21 e (fun n => Eq.refl _)
          obtain ⟨x11, zh22, zh19⟩ := bnd zh19
          have zh22 : f_M_isThere MA v8 = some x11 := zh22
          have ze23 := R_f_M_isThere_0 (d + 2) Y T HA HB RA RB ST NS I0 I1 I2 BO FI RG GU PU MA MN MS_10 OT SC r0 r1 r2 r3 w r5 r6 r7 r8 L Lg v8 zh22
          suffices e : Ev (d + 3, 0, 0, 134, 59, [.val (.ref 1088), .val (.int p1), .val (.int v8), .val s9], [.int x11], (126, 120, L, [Y, T, HA, HB, RA, RB, ST, NS, I0, I1, I2, BO, FI, RG, GU, PU, MA, MN, MS_10, OT, SC], [r0, r1, r2, r3, w, r5, r6, r7, r8], Lg)) o from ev_call (fun v μ => (d + 3, 0, 0, 134, 59, [.val (.ref 1088), .val (.int p1), .val (.int v8), .val s9], v.toList ++ [], μ)) 3 ze23 e (fun n => Eq.refl _)
          by_cases zc24 : x11 = 0
          · have zh19 := itp zh19 zc24
            suffices e : Ev (d + 3, 0, 0, 134, 109, [.val (.ref 1088), .val (.int p1), .val (.int v8), .val s9], [], (126, 120, L, [Y, T, HA, HB, RA, RB, ST, NS, I0, I1, I2, BO, FI, RG, GU, PU, MA, MN, MS_10, OT, SC], [r0, r1, r2, r3, w, r5, r6, r7, r8], Lg)) o from ev_t (c := x11 = 0) _ _ 1  zc24 e (fun n => Eq.refl _)
            exact ev_b 2 (zi17 _ (Option.some.inj zh19).symm s9) (fun n => Eq.refl _)
          · have zh19 := itn zh19 zc24
            suffices e : Ev (d + 3, 0, 0, 134, 62, [.val (.ref 1088), .val (.int p1), .val (.int v8), .val s9], [], (126, 120, L, [Y, T, HA, HB, RA, RB, ST, NS, I0, I1, I2, BO, FI, RG, GU, PU, MA, MN, MS_10, OT, SC], [r0, r1, r2, r3, w, r5, r6, r7, r8], Lg)) o from ev_f (c := x11 = 0) _ _ 1  zc24 e (fun n => Eq.refl _)
            obtain ⟨x12, zh25, zh19⟩ := bnd zh19
            have zh25 : f_M_ownClash MA p1 v8 = some x12 := zh25
            have ze26 := R_f_M_ownClash_0 (d + 1) Y T HA HB RA RB ST NS I0 I1 I2 BO FI RG GU PU MA MN MS_10 OT SC r0 r1 r2 r3 w r5 r6 r7 r8 L Lg p1 v8 zh25
            suffices e : Ev (d + 3, 0, 0, 134, 68, [.val (.ref 1088), .val (.int p1), .val (.int v8), .val s9], [.int x12], (126, 120, L, [Y, T, HA, HB, RA, RB, ST, NS, I0, I1, I2, BO, FI, RG, GU, PU, MA, MN, MS_10, OT, SC], [r0, r1, r2, r3, w, r5, r6, r7, r8], Lg)) o from ev_call (fun v μ => (d + 3, 0, 0, 134, 68, [.val (.ref 1088), .val (.int p1), .val (.int v8), .val s9], v.toList ++ [], μ)) 4 ze26 e (fun n => Eq.refl _)
            by_cases zc27 : x12 = 0
            · have zh19 := itp zh19 zc27
              suffices e : Ev (d + 3, 0, 0, 134, 74, [.val (.ref 1088), .val (.int p1), .val (.int v8), .val s9], [], (126, 120, L, [Y, T, HA, HB, RA, RB, ST, NS, I0, I1, I2, BO, FI, RG, GU, PU, MA, MN, MS_10, OT, SC], [r0, r1, r2, r3, w, r5, r6, r7, r8], Lg)) o from ev_t (c := x12 = 0) _ _ 1  zc27 e (fun n => Eq.refl _)
              obtain ⟨x13, zh28, zh19⟩ := bnd zh19
              have zh28 : f_M_inWay MA MS_10 p1 v8 = some x13 := zh28
              have ze29 := R_f_M_inWay_0 (d + 1) Y T HA HB RA RB ST NS I0 I1 I2 BO FI RG GU PU MA MN MS_10 OT SC r0 r1 r2 r3 w r5 r6 r7 r8 L Lg p1 v8 zh28
              suffices e : Ev (d + 3, 0, 0, 134, 80, [.val (.ref 1088), .val (.int p1), .val (.int v8), .val s9], [.int x13], (126, 120, L, [Y, T, HA, HB, RA, RB, ST, NS, I0, I1, I2, BO, FI, RG, GU, PU, MA, MN, MS_10, OT, SC], [r0, r1, r2, r3, w, r5, r6, r7, r8], Lg)) o from ev_call (fun v μ => (d + 3, 0, 0, 134, 80, [.val (.ref 1088), .val (.int p1), .val (.int v8), .val s9], v.toList ++ [], μ)) 4 ze29 e (fun n => Eq.refl _)
              obtain ⟨x14, zh30, zh19⟩ := bnd zh19
              have zh30 : f_M_areFree MA x13 = some x14 := zh30
              have ze31 := R_f_M_areFree_0 (d + 1) Y T HA HB RA RB ST NS I0 I1 I2 BO FI RG GU PU MA MN MS_10 OT SC r0 r1 r2 r3 w r5 r6 r7 r8 L Lg x13 zh30
              suffices e : Ev (d + 3, 0, 0, 134, 86, [.val (.ref 1088), .val (.int p1), .val (.int v8), .val (.int x13)], [.int x14], (126, 120, L, [Y, T, HA, HB, RA, RB, ST, NS, I0, I1, I2, BO, FI, RG, GU, PU, MA, MN, MS_10, OT, SC], [r0, r1, r2, r3, w, r5, r6, r7, r8], Lg)) o from ev_call (fun v μ => (d + 3, 0, 0, 134, 86, [.val (.ref 1088), .val (.int p1), .val (.int v8), .val (.int x13)], v.toList ++ [], μ)) 4 ze31 e (fun n => Eq.refl _)
              by_cases zc32 : x14 = 0
              · have zh19 := itp zh19 zc32
                suffices e : Ev (d + 3, 0, 0, 134, 109, [.val (.ref 1088), .val (.int p1), .val (.int v8), .val (.int x13)], [], (126, 120, L, [Y, T, HA, HB, RA, RB, ST, NS, I0, I1, I2, BO, FI, RG, GU, PU, MA, MN, MS_10, OT, SC], [r0, r1, r2, r3, w, r5, r6, r7, r8], Lg)) o from ev_t (c := x14 = 0) _ _ 1  zc32 e (fun n => Eq.refl _)
                exact ev_b 2 (zi17 _ (Option.some.inj zh19).symm (.int x13)) (fun n => Eq.refl _)
              · have zh19 := itn zh19 zc32
                suffices e : Ev (d + 3, 0, 0, 134, 89, [.val (.ref 1088), .val (.int p1), .val (.int v8), .val (.int x13)], [], (126, 120, L, [Y, T, HA, HB, RA, RB, ST, NS, I0, I1, I2, BO, FI, RG, GU, PU, MA, MN, MS_10, OT, SC], [r0, r1, r2, r3, w, r5, r6, r7, r8], Lg)) o from ev_f (c := x14 = 0) _ _ 1  zc32 e (fun n => Eq.refl _)
                obtain ⟨⟨x15, MS_16⟩, zh33, zh19⟩ := bnd zh19
                have zh33 : f_M_allYield MA MS_10 x13 p1 v8 = some (x15, MS_16) := zh33
                have ze34 := R_f_M_allYield_0 (d + 0) Y T HA HB RA RB ST NS I0 I1 I2 BO FI RG GU PU MA MN MS_10 OT SC r0 r1 r2 r3 w r5 r6 r7 r8 L Lg x13 p1 v8 zh33
                suffices e : Ev (d + 3, 0, 0, 134, 96, [.val (.ref 1088), .val (.int p1), .val (.int v8), .val (.int x13)], [.int x15], (126, 120, L, [Y, T, HA, HB, RA, RB, ST, NS, I0, I1, I2, BO, FI, RG, GU, PU, MA, MN, MS_16, OT, SC], [r0, r1, r2, r3, w, r5, r6, r7, r8], Lg)) o from ev_call (fun v μ => (d + 3, 0, 0, 134, 96, [.val (.ref 1088), .val (.int p1), .val (.int v8), .val (.int x13)], v.toList ++ [], μ)) 5 ze34 e (fun n => Eq.refl _)
                by_cases zc35 : x15 ≠ 0
                · have zh19 := itp zh19 zc35
                  suffices e : Ev (d + 3, 0, 0, 134, 102, [.val (.ref 1088), .val (.int p1), .val (.int v8), .val (.int x13)], [], (126, 120, L, [Y, T, HA, HB, RA, RB, ST, NS, I0, I1, I2, BO, FI, RG, GU, PU, MA, MN, MS_16, OT, SC], [r0, r1, r2, r3, w, r5, r6, r7, r8], Lg)) o from ev_t (c := x15 ≠ 0) _ _ 1  zc35 e (fun n => Eq.refl _)
                  obtain ⟨MS_17, zh36, zh19⟩ := bnd zh19
                  have zh36 : f_M_takes MA MS_16 p1 v8 = some MS_17 := zh36
                  have ze37 := R_f_M_takes_0 (d + 0) Y T HA HB RA RB ST NS I0 I1 I2 BO FI RG GU PU MA MN MS_16 OT SC r0 r1 r2 r3 w r5 r6 r7 r8 L Lg p1 v8 zh36
                  suffices e : Ev (d + 3, 0, 0, 134, 108, [.val (.ref 1088), .val (.int p1), .val (.int v8), .val (.int x13)], [], (126, 120, L, [Y, T, HA, HB, RA, RB, ST, NS, I0, I1, I2, BO, FI, RG, GU, PU, MA, MN, MS_17, OT, SC], [r0, r1, r2, r3, w, r5, r6, r7, r8], Lg)) o from ev_call (fun v μ => (d + 3, 0, 0, 134, 108, [.val (.ref 1088), .val (.int p1), .val (.int v8), .val (.int x13)], v.toList ++ [], μ)) 4 ze37 e (fun n => Eq.refl _)
                  exact ev_rete 1 (zx18 _ (Option.some.inj zh19).symm) (fun n => Eq.refl _)
                · have zh19 := itn zh19 zc35
                  suffices e : Ev (d + 3, 0, 0, 134, 99, [.val (.ref 1088), .val (.int p1), .val (.int v8), .val (.int x13)], [], (126, 120, L, [Y, T, HA, HB, RA, RB, ST, NS, I0, I1, I2, BO, FI, RG, GU, PU, MA, MN, MS_16, OT, SC], [r0, r1, r2, r3, w, r5, r6, r7, r8], Lg)) o from ev_f (c := x15 ≠ 0) _ _ 1  zc35 e (fun n => Eq.refl _)
                  exact ev_b 3 (zi17 _ (Option.some.inj zh19).symm (.int x13)) (fun n => Eq.refl _)
            · have zh19 := itn zh19 zc27
              suffices e : Ev (d + 3, 0, 0, 134, 71, [.val (.ref 1088), .val (.int p1), .val (.int v8), .val s9], [], (126, 120, L, [Y, T, HA, HB, RA, RB, ST, NS, I0, I1, I2, BO, FI, RG, GU, PU, MA, MN, MS_10, OT, SC], [r0, r1, r2, r3, w, r5, r6, r7, r8], Lg)) o from ev_f (c := x12 = 0) _ _ 1  zc27 e (fun n => Eq.refl _)
              exact ev_b 3 (zi17 _ (Option.some.inj zh19).symm s9) (fun n => Eq.refl _)
      · rcases zb15 with MS_20 | zr20
        · intro s18 s19
          have ze38 := Option.some.inj h
          subst ze38
          exact ev_rete 1 ho (fun n => Eq.refl _)
        · have zh39 : some zr20 = some r := h
          exact (congrArg (fun q => ((0, none, (126, 120, L, [Y, T, HA, HB, RA, RB, ST, NS, I0, I1, I2, BO, FI, RG, GU, PU, MA, MN, q, OT, SC], [r0, r1, r2, r3, w, r5, r6, r7, r8], Lg)) : AOut)) (Option.some.inj zh39)).trans ho
    · have zh41 : some zr6 = some r := h
      exact (congrArg (fun q => ((0, none, (126, 120, L, [Y, T, HA, HB, RA, RB, ST, NS, I0, I1, I2, BO, FI, RG, GU, PU, MA, MN, q, OT, SC], [r0, r1, r2, r3, w, r5, r6, r7, r8], Lg)) : AOut)) (Option.some.inj zh41)).trans ho
set_option maxRecDepth 1000000 in
set_option maxHeartbeats 4000000 in
theorem R_f_M_pushesBy_0 (d : Nat) (Y T HA HB RA RB ST NS I0 I1 I2 BO FI RG GU PU MA MN MS OT SC : Nat → Nat → Int32) (r0 r1 r2 r3 w r5 r6 r7 r8 : Nat) (L : Nat) (Lg : Int64) (p1 : Int32) (p2 : Int32) {r : Int32 × (Nat → Nat → Int32)} (h : f_M_pushesBy MA MS p1 p2 = some r) : Ev (d + 4, 0, 0, 135, 0, [.val (.ref 1088), .val (.int p1), .val (.int p2)], [], (126, 120, L, [Y, T, HA, HB, RA, RB, ST, NS, I0, I1, I2, BO, FI, RG, GU, PU, MA, MN, MS, OT, SC], [r0, r1, r2, r3, w, r5, r6, r7, r8], Lg)) ((0, some (.int r.1), (126, 120, L, [Y, T, HA, HB, RA, RB, ST, NS, I0, I1, I2, BO, FI, RG, GU, PU, MA, MN, r.2, OT, SC], [r0, r1, r2, r3, w, r5, r6, r7, r8], Lg)) : AOut) := by
  suffices key : ∀ o : AOut, ((0, some (.int r.1), (126, 120, L, [Y, T, HA, HB, RA, RB, ST, NS, I0, I1, I2, BO, FI, RG, GU, PU, MA, MN, r.2, OT, SC], [r0, r1, r2, r3, w, r5, r6, r7, r8], Lg)) : AOut) = o → Ev (d + 4, 0, 0, 135, 0, [.val (.ref 1088), .val (.int p1), .val (.int p2)], [], (126, 120, L, [Y, T, HA, HB, RA, RB, ST, NS, I0, I1, I2, BO, FI, RG, GU, PU, MA, MN, MS, OT, SC], [r0, r1, r2, r3, w, r5, r6, r7, r8], Lg)) o from key _ rfl
  intro o ho
  obtain ⟨x1, zh1, h⟩ := bnd h
  have ze2 := R_copies (d + 3) 1095 1220 10 [Y, T, HA, HB, RA, RB, ST, NS, I0, I1, I2, BO, FI, RG, GU, PU, MA, MN, MS, OT, SC] [r0, r1, r2, r3, w, r5, r6, r7, r8] (.ref 1088) L Lg 126 120 rfl rfl rfl rfl (Nat.le_of_ble_eq_true rfl) (Nat.le_of_ble_eq_true rfl) (Nat.le_of_ble_eq_true rfl) zh1
  suffices e : Ev (d + 4, 0, 0, 135, 14, [.val (.ref 1088), .val (.int p1), .val (.int p2)], [], (126, 120, L, [Y, T, HA, HB, RA, RB, ST, NS, I0, I1, I2, BO, FI, RG, GU, PU, MA, MN, (u1 MS 4 x1), OT, SC], [r0, r1, r2, r3, w, r5, r6, r7, r8], Lg)) o from ev_call (fun v μ => (d + 4, 0, 0, 135, 14, [.val (.ref 1088), .val (.int p1), .val (.int p2)], v.toList ++ [], μ)) 7 ze2 e (fun n => Eq.refl _)
  obtain ⟨x2, zh3, h⟩ := bnd h
  have zh3 : f_M_isFixed MA p1 = some x2 := zh3
  have ze4 := R_f_M_isFixed_0 (d + 3) Y T HA HB RA RB ST NS I0 I1 I2 BO FI RG GU PU MA MN (u1 MS 4 x1) OT SC r0 r1 r2 r3 w r5 r6 r7 r8 L Lg p1 zh3
  suffices e : Ev (d + 4, 0, 0, 135, 19, [.val (.ref 1088), .val (.int p1), .val (.int p2)], [.int x2], (126, 120, L, [Y, T, HA, HB, RA, RB, ST, NS, I0, I1, I2, BO, FI, RG, GU, PU, MA, MN, (u1 MS 4 x1), OT, SC], [r0, r1, r2, r3, w, r5, r6, r7, r8], Lg)) o from ev_call (fun v μ => (d + 4, 0, 0, 135, 19, [.val (.ref 1088), .val (.int p1), .val (.int p2)], v.toList ++ [], μ)) 3 ze4 e (fun n => Eq.refl _)
  by_cases zc5 : x2 ≠ 0
  · have h := itp h zc5
    suffices e : Ev (d + 4, 0, 0, 135, 31, [.val (.ref 1088), .val (.int p1), .val (.int p2)], [], (126, 120, L, [Y, T, HA, HB, RA, RB, ST, NS, I0, I1, I2, BO, FI, RG, GU, PU, MA, MN, (u1 MS 4 x1), OT, SC], [r0, r1, r2, r3, w, r5, r6, r7, r8], Lg)) o from ev_t (c := x2 ≠ 0) _ _ 1  zc5 e (fun n => Eq.refl _)
    have ze6 := Option.some.inj h
    subst ze6
    exact ev_rete 2 ho (fun n => Eq.refl _)
  · have h := itn h zc5
    suffices e : Ev (d + 4, 0, 0, 135, 22, [.val (.ref 1088), .val (.int p1), .val (.int p2)], [], (126, 120, L, [Y, T, HA, HB, RA, RB, ST, NS, I0, I1, I2, BO, FI, RG, GU, PU, MA, MN, (u1 MS 4 x1), OT, SC], [r0, r1, r2, r3, w, r5, r6, r7, r8], Lg)) o from ev_f (c := x2 ≠ 0) _ _ 1  zc5 e (fun n => Eq.refl _)
    obtain ⟨x3, zh7, h⟩ := bnd h
    have zh7 : f_M_ownClash MA p1 p2 = some x3 := zh7
    have ze8 := R_f_M_ownClash_0 (d + 2) Y T HA HB RA RB ST NS I0 I1 I2 BO FI RG GU PU MA MN (u1 MS 4 x1) OT SC r0 r1 r2 r3 w r5 r6 r7 r8 L Lg p1 p2 zh7
    suffices e : Ev (d + 4, 0, 0, 135, 28, [.val (.ref 1088), .val (.int p1), .val (.int p2)], [.int x3], (126, 120, L, [Y, T, HA, HB, RA, RB, ST, NS, I0, I1, I2, BO, FI, RG, GU, PU, MA, MN, (u1 MS 4 x1), OT, SC], [r0, r1, r2, r3, w, r5, r6, r7, r8], Lg)) o from ev_call (fun v μ => (d + 4, 0, 0, 135, 28, [.val (.ref 1088), .val (.int p1), .val (.int p2)], v.toList ++ [], μ)) 4 ze8 e (fun n => Eq.refl _)
    by_cases zc9 : x3 = 0
    · have h := itp h zc9
      suffices e : Ev (d + 4, 0, 0, 135, 33, [.val (.ref 1088), .val (.int p1), .val (.int p2)], [], (126, 120, L, [Y, T, HA, HB, RA, RB, ST, NS, I0, I1, I2, BO, FI, RG, GU, PU, MA, MN, (u1 MS 4 x1), OT, SC], [r0, r1, r2, r3, w, r5, r6, r7, r8], Lg)) o from ev_t (c := x3 = 0) _ _ 1  zc9 e (fun n => Eq.refl _)
      obtain ⟨j4, zh10, h⟩ := bnd h
      have zh10 : ixx 10 p1 = some j4 := zh10
      suffices e : Ev (d + 4, 0, 0, 135, 40, [.val (.ref 1088), .val (.int p1), .val (.int p2)], [], (126, 120, L, [Y, T, HA, HB, RA, RB, ST, NS, I0, I1, I2, BO, FI, RG, GU, PU, MA, MN, (u2 (u1 MS 4 x1) 4 j4 (-1)), OT, SC], [r0, r1, r2, r3, w, r5, r6, r7, r8], Lg)) o from ev_opt (fun j4 => (d + 4, 0, 0, 135, 40, [.val (.ref 1088), .val (.int p1), .val (.int p2)], [], (126, 120, L, [Y, T, HA, HB, RA, RB, ST, NS, I0, I1, I2, BO, FI, RG, GU, PU, MA, MN, (u2 (u1 MS 4 x1) 4 j4 (-1)), OT, SC], [r0, r1, r2, r3, w, r5, r6, r7, r8], Lg))) 5 zh10 e (fun n => Eq.refl _)
      obtain ⟨x5, zh11, h⟩ := bnd h
      have zh11 : f_M_inWay MA (u2 (u1 MS 4 x1) 4 j4 (-1)) p1 p2 = some x5 := zh11
      have ze12 := R_f_M_inWay_0 (d + 2) Y T HA HB RA RB ST NS I0 I1 I2 BO FI RG GU PU MA MN (u2 (u1 MS 4 x1) 4 j4 (-1)) OT SC r0 r1 r2 r3 w r5 r6 r7 r8 L Lg p1 p2 zh11
      suffices e : Ev (d + 4, 0, 0, 135, 47, [.val (.ref 1088), .val (.int p1), .val (.int p2)], [.int x5, .ref 1088], (126, 120, L, [Y, T, HA, HB, RA, RB, ST, NS, I0, I1, I2, BO, FI, RG, GU, PU, MA, MN, (u2 (u1 MS 4 x1) 4 j4 (-1)), OT, SC], [r0, r1, r2, r3, w, r5, r6, r7, r8], Lg)) o from ev_call (fun v μ => (d + 4, 0, 0, 135, 47, [.val (.ref 1088), .val (.int p1), .val (.int p2)], v.toList ++ [.ref 1088], μ)) 5 ze12 e (fun n => Eq.refl _)
      obtain ⟨x6, zh13, h⟩ := bnd h
      have zh13 : f_M_areFree MA x5 = some x6 := zh13
      have ze14 := R_f_M_areFree_0 (d + 2) Y T HA HB RA RB ST NS I0 I1 I2 BO FI RG GU PU MA MN (u2 (u1 MS 4 x1) 4 j4 (-1)) OT SC r0 r1 r2 r3 w r5 r6 r7 r8 L Lg x5 zh13
      suffices e : Ev (d + 4, 0, 0, 135, 50, [.val (.ref 1088), .val (.int p1), .val (.int p2)], [.int x6], (126, 120, L, [Y, T, HA, HB, RA, RB, ST, NS, I0, I1, I2, BO, FI, RG, GU, PU, MA, MN, (u2 (u1 MS 4 x1) 4 j4 (-1)), OT, SC], [r0, r1, r2, r3, w, r5, r6, r7, r8], Lg)) o from ev_call (fun v μ => (d + 4, 0, 0, 135, 50, [.val (.ref 1088), .val (.int p1), .val (.int p2)], v.toList ++ [], μ)) 1 ze14 e (fun n => Eq.refl _)
      by_cases zc15 : x6 ≠ 0
      · have h := itp h zc15
        suffices e : Ev (d + 4, 0, 0, 135, 55, [.val (.ref 1088), .val (.int p1), .val (.int p2)], [], (126, 120, L, [Y, T, HA, HB, RA, RB, ST, NS, I0, I1, I2, BO, FI, RG, GU, PU, MA, MN, (u2 (u1 MS 4 x1) 4 j4 (-1)), OT, SC], [r0, r1, r2, r3, w, r5, r6, r7, r8], Lg)) o from ev_t (c := x6 ≠ 0) _ _ 1  zc15 e (fun n => Eq.refl _)
        obtain ⟨MS_7, zh16, h⟩ := bnd h
        have zh16 : f_M_takes MA (u2 (u2 (u2 (u2 (u1 MS 4 x1) 4 j4 (-1)) 0 56 0) 0 57 0) 0 58 0) p1 p2 = some MS_7 := zh16
        have ze17 := R_f_M_takes_0 (d + 1) Y T HA HB RA RB ST NS I0 I1 I2 BO FI RG GU PU MA MN (u2 (u2 (u2 (u2 (u1 MS 4 x1) 4 j4 (-1)) 0 56 0) 0 57 0) 0 58 0) OT SC r0 r1 r2 r3 w r5 r6 r7 r8 L Lg p1 p2 zh16
        suffices e : Ev (d + 4, 0, 0, 135, 76, [.val (.ref 1088), .val (.int p1), .val (.int p2)], [], (126, 120, L, [Y, T, HA, HB, RA, RB, ST, NS, I0, I1, I2, BO, FI, RG, GU, PU, MA, MN, MS_7, OT, SC], [r0, r1, r2, r3, w, r5, r6, r7, r8], Lg)) o from ev_call (fun v μ => (d + 4, 0, 0, 135, 76, [.val (.ref 1088), .val (.int p1), .val (.int p2)], v.toList ++ [], μ)) 13 ze17 e (fun n => Eq.refl _)
        obtain ⟨MS_11, zh19, h⟩ := bnd h
        suffices e : Ev (d + 4, 0, 0, 135, 76, [.val (.ref 1088), .val (.int p1), .val (.int p2)], [], (126, 120, L, [Y, T, HA, HB, RA, RB, ST, NS, I0, I1, I2, BO, FI, RG, GU, PU, MA, MN, MS_7, OT, SC], [r0, r1, r2, r3, w, r5, r6, r7, r8], Lg)) o from ev_b 0 e (fun n => Eq.refl _)
        refine ev_loop (δ := Unit) (fun a j => (d + 4, 0, 0, 135, 76, [.val (.ref 1088), .val (.int p1), .val (.int p2)], [], (126, 120, L, [Y, T, HA, HB, RA, RB, ST, NS, I0, I1, I2, BO, FI, RG, GU, PU, MA, MN, a, OT, SC], [r0, r1, r2, r3, w, r5, r6, r7, r8], Lg))) (fun b => Ev (d + 4, 0, 0, 135, 132, [.val (.ref 1088), .val (.int p1), .val (.int p2)], [], (126, 120, L, [Y, T, HA, HB, RA, RB, ST, NS, I0, I1, I2, BO, FI, RG, GU, PU, MA, MN, b, OT, SC], [r0, r1, r2, r3, w, r5, r6, r7, r8], Lg)) o) ?_ a_F MS_7 MS_11 zh19 ?_ ()
        · rintro MS_8 zr23 zh22 zi20 zx21 ⟨⟩
          have zh22 : f_M_pushesBy_l76 MA MS_8 = some zr23 := zh22
          by_cases zc24 : (MS_8 0 57) ≤ (MS_8 0 56)
          · have zh22 := itp zh22 zc24
            suffices e : Ev (d + 4, 0, 0, 135, 132, [.val (.ref 1088), .val (.int p1), .val (.int p2)], [], (126, 120, L, [Y, T, HA, HB, RA, RB, ST, NS, I0, I1, I2, BO, FI, RG, GU, PU, MA, MN, MS_8, OT, SC], [r0, r1, r2, r3, w, r5, r6, r7, r8], Lg)) o from ev_t (c := (MS_8 0 57) ≤ (MS_8 0 56)) _ _ 5  zc24 e (fun n => Eq.refl _)
            exact ev_b 0 (zx21 _ (Option.some.inj zh22).symm ) (fun n => Eq.refl _)
          · have zh22 := itn zh22 zc24
            suffices e : Ev (d + 4, 0, 0, 135, 87, [.val (.ref 1088), .val (.int p1), .val (.int p2)], [], (126, 120, L, [Y, T, HA, HB, RA, RB, ST, NS, I0, I1, I2, BO, FI, RG, GU, PU, MA, MN, MS_8, OT, SC], [r0, r1, r2, r3, w, r5, r6, r7, r8], Lg)) o from ev_f (c := (MS_8 0 57) ≤ (MS_8 0 56)) _ _ 5  zc24 e (fun n => Eq.refl _)
            by_cases zc25 : 100 ≤ (MS_8 0 58)
            · have zh22 := itp zh22 zc25
              suffices e : Ev (d + 4, 0, 0, 135, 132, [.val (.ref 1088), .val (.int p1), .val (.int p2)], [], (126, 120, L, [Y, T, HA, HB, RA, RB, ST, NS, I0, I1, I2, BO, FI, RG, GU, PU, MA, MN, MS_8, OT, SC], [r0, r1, r2, r3, w, r5, r6, r7, r8], Lg)) o from ev_t (c := 100 ≤ (MS_8 0 58)) _ _ 4  zc25 e (fun n => Eq.refl _)
              exact ev_b 0 (zx21 _ (Option.some.inj zh22).symm ) (fun n => Eq.refl _)
            · have zh22 := itn zh22 zc25
              suffices e : Ev (d + 4, 0, 0, 135, 96, [.val (.ref 1088), .val (.int p1), .val (.int p2)], [], (126, 120, L, [Y, T, HA, HB, RA, RB, ST, NS, I0, I1, I2, BO, FI, RG, GU, PU, MA, MN, MS_8, OT, SC], [r0, r1, r2, r3, w, r5, r6, r7, r8], Lg)) o from ev_f (c := 100 ≤ (MS_8 0 58)) _ _ 4  zc25 e (fun n => Eq.refl _)
              obtain ⟨x9, zh26, zh22⟩ := bnd zh22
              have zh26 : rdx (MS_8 9) 1100 (MS_8 0 56) = some x9 := zh26
              suffices e : Ev (d + 4, 0, 0, 135, 106, [.val (.ref 1088), .val (.int p1), .val (.int p2)], [.int x9, .ref 1088], (126, 120, L, [Y, T, HA, HB, RA, RB, ST, NS, I0, I1, I2, BO, FI, RG, GU, PU, MA, MN, MS_8, OT, SC], [r0, r1, r2, r3, w, r5, r6, r7, r8], Lg)) o from ev_opt (fun x9 => (d + 4, 0, 0, 135, 106, [.val (.ref 1088), .val (.int p1), .val (.int p2)], [.int x9, .ref 1088], (126, 120, L, [Y, T, HA, HB, RA, RB, ST, NS, I0, I1, I2, BO, FI, RG, GU, PU, MA, MN, MS_8, OT, SC], [r0, r1, r2, r3, w, r5, r6, r7, r8], Lg))) 6 zh26 e (fun n => Eq.refl _)
              obtain ⟨MS_10, zh27, zh22⟩ := bnd zh22
              have zh27 : f_M_looks MA MS_8 x9 = some MS_10 := zh27
              have ze28 := R_f_M_looks_0 (d + 0) Y T HA HB RA RB ST NS I0 I1 I2 BO FI RG GU PU MA MN MS_8 OT SC r0 r1 r2 r3 w r5 r6 r7 r8 L Lg x9 zh27
              suffices e : Ev (d + 4, 0, 0, 135, 109, [.val (.ref 1088), .val (.int p1), .val (.int p2)], [], (126, 120, L, [Y, T, HA, HB, RA, RB, ST, NS, I0, I1, I2, BO, FI, RG, GU, PU, MA, MN, MS_10, OT, SC], [r0, r1, r2, r3, w, r5, r6, r7, r8], Lg)) o from ev_call (fun v μ => (d + 4, 0, 0, 135, 109, [.val (.ref 1088), .val (.int p1), .val (.int p2)], v.toList ++ [], μ)) 1 ze28 e (fun n => Eq.refl _)
              exact ev_b 13 (zi20 _ (Option.some.inj zh22).symm ()) (fun n => Eq.refl _)
        · skip
          have ze29 := Option.some.inj h
          subst ze29
          exact ev_rete 2 ho (fun n => Eq.refl _)
      · have h := itn h zc15
        suffices e : Ev (d + 4, 0, 0, 135, 53, [.val (.ref 1088), .val (.int p1), .val (.int p2)], [], (126, 120, L, [Y, T, HA, HB, RA, RB, ST, NS, I0, I1, I2, BO, FI, RG, GU, PU, MA, MN, (u2 (u1 MS 4 x1) 4 j4 (-1)), OT, SC], [r0, r1, r2, r3, w, r5, r6, r7, r8], Lg)) o from ev_f (c := x6 ≠ 0) _ _ 1  zc15 e (fun n => Eq.refl _)
        have ze30 := Option.some.inj h
        subst ze30
        exact ev_rete 2 ho (fun n => Eq.refl _)
    · have h := itn h zc9
      suffices e : Ev (d + 4, 0, 0, 135, 31, [.val (.ref 1088), .val (.int p1), .val (.int p2)], [], (126, 120, L, [Y, T, HA, HB, RA, RB, ST, NS, I0, I1, I2, BO, FI, RG, GU, PU, MA, MN, (u1 MS 4 x1), OT, SC], [r0, r1, r2, r3, w, r5, r6, r7, r8], Lg)) o from ev_f (c := x3 = 0) _ _ 1  zc9 e (fun n => Eq.refl _)
      have ze31 := Option.some.inj h
      subst ze31
      exact ev_rete 2 ho (fun n => Eq.refl _)
set_option maxRecDepth 1000000 in
set_option maxHeartbeats 4000000 in
theorem R_f_M_pushes_0 (d : Nat) (Y T HA HB RA RB ST NS I0 I1 I2 BO FI RG GU PU MA MN MS OT SC : Nat → Nat → Int32) (r0 r1 r2 r3 w r5 r6 r7 r8 : Nat) (L : Nat) (Lg : Int64) (p1 : Int32) (p2 : Int32) (p3 : Int32) (p4 : Int32) {r : Int32 × (Nat → Nat → Int32) × (Nat → Nat → Int32)} (h : f_M_pushes MA MS p1 p2 p3 p4 = some r) : Ev (d + 5, 0, 0, 136, 0, [.val (.ref 1088), .val (.int p1), .val (.int p2), .val (.int p3), .val (.int p4), .val a_unk, .val a_unk, .val a_unk], [], (126, 120, L, [Y, T, HA, HB, RA, RB, ST, NS, I0, I1, I2, BO, FI, RG, GU, PU, MA, MN, MS, OT, SC], [r0, r1, r2, r3, w, r5, r6, r7, r8], Lg)) ((0, some (.int r.1), (126, 120, L, [Y, T, HA, HB, RA, RB, ST, NS, I0, I1, I2, BO, FI, RG, GU, PU, r.2.1, MN, r.2.2, OT, SC], [r0, r1, r2, r3, w, r5, r6, r7, r8], Lg)) : AOut) := by
  suffices key : ∀ o : AOut, ((0, some (.int r.1), (126, 120, L, [Y, T, HA, HB, RA, RB, ST, NS, I0, I1, I2, BO, FI, RG, GU, PU, r.2.1, MN, r.2.2, OT, SC], [r0, r1, r2, r3, w, r5, r6, r7, r8], Lg)) : AOut) = o → Ev (d + 5, 0, 0, 136, 0, [.val (.ref 1088), .val (.int p1), .val (.int p2), .val (.int p3), .val (.int p4), .val a_unk, .val a_unk, .val a_unk], [], (126, 120, L, [Y, T, HA, HB, RA, RB, ST, NS, I0, I1, I2, BO, FI, RG, GU, PU, MA, MN, MS, OT, SC], [r0, r1, r2, r3, w, r5, r6, r7, r8], Lg)) o from key _ rfl
  intro o ho
  obtain ⟨⟨x1, MA_2⟩, zh1, h⟩ := bnd h
  have zh1 : f_M_isMeeting (u2 MA 0 0 0) p1 1 = some (x1, MA_2) := zh1
  have ze2 := R_f_M_isMeeting_0 (d + 3) Y T HA HB RA RB ST NS I0 I1 I2 BO FI RG GU PU (u2 MA 0 0 0) MN MS OT SC r0 r1 r2 r3 w r5 r6 r7 r8 L Lg p1 1 zh1
  suffices e : Ev (d + 5, 0, 0, 136, 11, [.val (.ref 1088), .val (.int p1), .val (.int p2), .val (.int p3), .val (.int p4), .val a_unk, .val a_unk, .val a_unk], [.int x1], (126, 120, L, [Y, T, HA, HB, RA, RB, ST, NS, I0, I1, I2, BO, FI, RG, GU, PU, MA_2, MN, MS, OT, SC], [r0, r1, r2, r3, w, r5, r6, r7, r8], Lg)) o from ev_call (fun v μ => (d + 5, 0, 0, 136, 11, [.val (.ref 1088), .val (.int p1), .val (.int p2), .val (.int p3), .val (.int p4), .val a_unk, .val a_unk, .val a_unk], v.toList ++ [], μ)) 7 ze2 e (fun n => Eq.refl _)
  by_cases zc3 : x1 = 0
  · have h := itp h zc3
    suffices e : Ev (d + 5, 0, 0, 136, 61, [.val (.ref 1088), .val (.int p1), .val (.int p2), .val (.int p3), .val (.int p4), .val a_unk, .val a_unk, .val a_unk], [], (126, 120, L, [Y, T, HA, HB, RA, RB, ST, NS, I0, I1, I2, BO, FI, RG, GU, PU, MA_2, MN, MS, OT, SC], [r0, r1, r2, r3, w, r5, r6, r7, r8], Lg)) o from ev_t (c := x1 = 0) _ _ 1  zc3 e (fun n => Eq.refl _)
    have ze4 := Option.some.inj h
    subst ze4
    exact ev_rete 2 ho (fun n => Eq.refl _)
  · have h := itn h zc3
    suffices e : Ev (d + 5, 0, 0, 136, 14, [.val (.ref 1088), .val (.int p1), .val (.int p2), .val (.int p3), .val (.int p4), .val a_unk, .val a_unk, .val a_unk], [], (126, 120, L, [Y, T, HA, HB, RA, RB, ST, NS, I0, I1, I2, BO, FI, RG, GU, PU, MA_2, MN, MS, OT, SC], [r0, r1, r2, r3, w, r5, r6, r7, r8], Lg)) o from ev_f (c := x1 = 0) _ _ 1  zc3 e (fun n => Eq.refl _)
    obtain ⟨⟨x3, MA_4⟩, zh5, h⟩ := bnd h
    have zh5 : f_M_isRoom MA_2 p3 1 = some (x3, MA_4) := zh5
    have ze6 := R_f_M_isRoom_0 (d + 3) Y T HA HB RA RB ST NS I0 I1 I2 BO FI RG GU PU MA_2 MN MS OT SC r0 r1 r2 r3 w r5 r6 r7 r8 L Lg p3 1 zh5
    suffices e : Ev (d + 5, 0, 0, 136, 20, [.val (.ref 1088), .val (.int p1), .val (.int p2), .val (.int p3), .val (.int p4), .val a_unk, .val a_unk, .val a_unk], [.int x3], (126, 120, L, [Y, T, HA, HB, RA, RB, ST, NS, I0, I1, I2, BO, FI, RG, GU, PU, MA_4, MN, MS, OT, SC], [r0, r1, r2, r3, w, r5, r6, r7, r8], Lg)) o from ev_call (fun v μ => (d + 5, 0, 0, 136, 20, [.val (.ref 1088), .val (.int p1), .val (.int p2), .val (.int p3), .val (.int p4), .val a_unk, .val a_unk, .val a_unk], v.toList ++ [], μ)) 4 ze6 e (fun n => Eq.refl _)
    by_cases zc7 : x3 = 0
    · have h := itp h zc7
      suffices e : Ev (d + 5, 0, 0, 136, 61, [.val (.ref 1088), .val (.int p1), .val (.int p2), .val (.int p3), .val (.int p4), .val a_unk, .val a_unk, .val a_unk], [], (126, 120, L, [Y, T, HA, HB, RA, RB, ST, NS, I0, I1, I2, BO, FI, RG, GU, PU, MA_4, MN, MS, OT, SC], [r0, r1, r2, r3, w, r5, r6, r7, r8], Lg)) o from ev_t (c := x3 = 0) _ _ 1  zc7 e (fun n => Eq.refl _)
      have ze8 := Option.some.inj h
      subst ze8
      exact ev_rete 2 ho (fun n => Eq.refl _)
    · have h := itn h zc7
      suffices e : Ev (d + 5, 0, 0, 136, 23, [.val (.ref 1088), .val (.int p1), .val (.int p2), .val (.int p3), .val (.int p4), .val a_unk, .val a_unk, .val a_unk], [], (126, 120, L, [Y, T, HA, HB, RA, RB, ST, NS, I0, I1, I2, BO, FI, RG, GU, PU, MA_4, MN, MS, OT, SC], [r0, r1, r2, r3, w, r5, r6, r7, r8], Lg)) o from ev_f (c := x3 = 0) _ _ 1  zc7 e (fun n => Eq.refl _)
      obtain ⟨x5, zh9, h⟩ := bnd h
      have zh9 : f_M_within p2 0 ((MA_4 0 23) - 1) = some x5 := zh9
      have ze10 := R_f_M_within_0 (d + 4) Y T HA HB RA RB ST NS I0 I1 I2 BO FI RG GU PU MA_4 MN MS OT SC r0 r1 r2 r3 w r5 r6 r7 r8 L Lg p2 0 ((MA_4 0 23) - 1) zh9
      suffices e : Ev (d + 5, 0, 0, 136, 35, [.val (.ref 1088), .val (.int p1), .val (.int p2), .val (.int p3), .val (.int p4), .val a_unk, .val a_unk, .val a_unk], [.int x5, .ref 1088], (126, 120, L, [Y, T, HA, HB, RA, RB, ST, NS, I0, I1, I2, BO, FI, RG, GU, PU, MA_4, MN, MS, OT, SC], [r0, r1, r2, r3, w, r5, r6, r7, r8], Lg)) o from ev_call (fun v μ => (d + 5, 0, 0, 136, 35, [.val (.ref 1088), .val (.int p1), .val (.int p2), .val (.int p3), .val (.int p4), .val a_unk, .val a_unk, .val a_unk], v.toList ++ [.ref 1088], μ)) 8 ze10 e (fun n => Eq.refl _)
      obtain ⟨zt11, zh12, h⟩ := bnd h
      have zj13 : ∀ (v7 : Int32), v7 = zt11 → Ev (d + 5, 0, 0, 136, 53, [.val (.ref 1088), .val (.int p1), .val (.int p2), .val (.int p3), .val (.int p4), .val a_unk, .val a_unk, .val a_unk], [.int v7, .ref 1088], (126, 120, L, [Y, T, HA, HB, RA, RB, ST, NS, I0, I1, I2, BO, FI, RG, GU, PU, MA_4, MN, MS, OT, SC], [r0, r1, r2, r3, w, r5, r6, r7, r8], Lg)) o := by
        intro v7 ze14
        subst ze14
        obtain ⟨⟨x8, MA_9⟩, zh15, h⟩ := bnd h
        have zh15 : f_M_may MA_4 v7 2 1 = some (x8, MA_9) := zh15
        have ze16 := R_f_M_may_0 (d + 4) Y T HA HB RA RB ST NS I0 I1 I2 BO FI RG GU PU MA_4 MN MS OT SC r0 r1 r2 r3 w r5 r6 r7 r8 L Lg v7 2 1 zh15
        suffices e : Ev (d + 5, 0, 0, 136, 58, [.val (.ref 1088), .val (.int p1), .val (.int p2), .val (.int p3), .val (.int p4), .val a_unk, .val a_unk, .val a_unk], [.int x8], (126, 120, L, [Y, T, HA, HB, RA, RB, ST, NS, I0, I1, I2, BO, FI, RG, GU, PU, MA_9, MN, MS, OT, SC], [r0, r1, r2, r3, w, r5, r6, r7, r8], Lg)) o from ev_call (fun v μ => (d + 5, 0, 0, 136, 58, [.val (.ref 1088), .val (.int p1), .val (.int p2), .val (.int p3), .val (.int p4), .val a_unk, .val a_unk, .val a_unk], v.toList ++ [], μ)) 3 ze16 e (fun n => Eq.refl _)
        by_cases zc17 : x8 ≠ 0
        · have h := itp h zc17
          suffices e : Ev (d + 5, 0, 0, 136, 63, [.val (.ref 1088), .val (.int p1), .val (.int p2), .val (.int p3), .val (.int p4), .val a_unk, .val a_unk, .val a_unk], [], (126, 120, L, [Y, T, HA, HB, RA, RB, ST, NS, I0, I1, I2, BO, FI, RG, GU, PU, MA_9, MN, MS, OT, SC], [r0, r1, r2, r3, w, r5, r6, r7, r8], Lg)) o from ev_t (c := x8 ≠ 0) _ _ 1  zc17 e (fun n => Eq.refl _)
          obtain ⟨⟨x10, MS_11⟩, zh18, h⟩ := bnd h
          have zh18 : f_M_pushesBy MA_9 MS p1 ((3 * p2) + p3) = some (x10, MS_11) := zh18
          have ze19 := R_f_M_pushesBy_0 (d + 0) Y T HA HB RA RB ST NS I0 I1 I2 BO FI RG GU PU MA_9 MN MS OT SC r0 r1 r2 r3 w r5 r6 r7 r8 L Lg p1 ((3 * p2) + p3) zh18
          suffices e : Ev (d + 5, 0, 0, 136, 73, [.val (.ref 1088), .val (.int p1), .val (.int p2), .val (.int p3), .val (.int p4), .val a_unk, .val a_unk, .val a_unk], [.int x10], (126, 120, L, [Y, T, HA, HB, RA, RB, ST, NS, I0, I1, I2, BO, FI, RG, GU, PU, MA_9, MN, MS_11, OT, SC], [r0, r1, r2, r3, w, r5, r6, r7, r8], Lg)) o from ev_call (fun v μ => (d + 5, 0, 0, 136, 73, [.val (.ref 1088), .val (.int p1), .val (.int p2), .val (.int p3), .val (.int p4), .val a_unk, .val a_unk, .val a_unk], v.toList ++ [], μ)) 8 ze19 e (fun n => Eq.refl _)
          by_cases zc20 : x10 ≠ 0
          · have h := itp h zc20
            suffices e : Ev (d + 5, 0, 0, 136, 78, [.val (.ref 1088), .val (.int p1), .val (.int p2), .val (.int p3), .val (.int p4), .val a_unk, .val a_unk, .val a_unk], [], (126, 120, L, [Y, T, HA, HB, RA, RB, ST, NS, I0, I1, I2, BO, FI, RG, GU, PU, MA_9, MN, MS_11, OT, SC], [r0, r1, r2, r3, w, r5, r6, r7, r8], Lg)) o from ev_t (c := x10 ≠ 0) _ _ 1  zc20 e (fun n => Eq.refl _)
            obtain ⟨zb21, zh22, h⟩ := bnd h
            suffices e : Ev (d + 5, 0, 0, 136, 87, [.val (.ref 1088), .val (.int p1), .val (.int p2), .val (.int p3), .val (.int p4), .val (.int 0), .val (.int 0), .val (.int 0)], [], (126, 120, L, [Y, T, HA, HB, RA, RB, ST, NS, I0, I1, I2, BO, FI, RG, GU, PU, MA_9, MN, MS_11, OT, SC], [r0, r1, r2, r3, w, r5, r6, r7, r8], Lg)) o from ev_b 6 e (fun n => Eq.refl _)
            refine ev_loop (δ := Unit) (fun a j => (d + 5, 0, 0, 136, 87, [.val (.ref 1088), .val (.int p1), .val (.int p2), .val (.int p3), .val (.int p4), .val (.int a.1), .val (.int a.2.1), .val (.int a.2.2)], [], (126, 120, L, [Y, T, HA, HB, RA, RB, ST, NS, I0, I1, I2, BO, FI, RG, GU, PU, MA_9, MN, MS_11, OT, SC], [r0, r1, r2, r3, w, r5, r6, r7, r8], Lg))) (fun b => ∀ s23 : Value, Ev (d + 5, 0, 0, 136, 164, [.val (.ref 1088), .val (.int p1), .val (.int p2), .val (.int p3), .val (.int p4), .val (.int b.1), .val (.int b.2), .val s23], [], (126, 120, L, [Y, T, HA, HB, RA, RB, ST, NS, I0, I1, I2, BO, FI, RG, GU, PU, MA_9, MN, MS_11, OT, SC], [r0, r1, r2, r3, w, r5, r6, r7, r8], Lg)) o) ?_ a_F (0, 0, 0) zb21 zh22 ?_ ()
            · rintro ⟨v12, v13, v14⟩ zr26 zh25 zi23 zx24 ⟨⟩
              have zh25 : f_M_pushes_l87 MA_9 MS_11 v12 v13 v14 = some zr26 := zh25
              by_cases zc27 : (MA_9 0 26) ≤ v14
              · have zh25 := itp zh25 zc27
                suffices e : Ev (d + 5, 0, 0, 136, 164, [.val (.ref 1088), .val (.int p1), .val (.int p2), .val (.int p3), .val (.int p4), .val (.int v12), .val (.int v13), .val (.int v14)], [], (126, 120, L, [Y, T, HA, HB, RA, RB, ST, NS, I0, I1, I2, BO, FI, RG, GU, PU, MA_9, MN, MS_11, OT, SC], [r0, r1, r2, r3, w, r5, r6, r7, r8], Lg)) o from ev_t (c := (MA_9 0 26) ≤ v14) _ _ 4  zc27 e (fun n => Eq.refl _)
                exact ev_b 0 (zx24 _ (Option.some.inj zh25).symm (.int v14)) (fun n => Eq.refl _)
              · have zh25 := itn zh25 zc27
                suffices e : Ev (d + 5, 0, 0, 136, 96, [.val (.ref 1088), .val (.int p1), .val (.int p2), .val (.int p3), .val (.int p4), .val (.int v12), .val (.int v13), .val (.int v14)], [], (126, 120, L, [Y, T, HA, HB, RA, RB, ST, NS, I0, I1, I2, BO, FI, RG, GU, PU, MA_9, MN, MS_11, OT, SC], [r0, r1, r2, r3, w, r5, r6, r7, r8], Lg)) o from ev_f (c := (MA_9 0 26) ≤ v14) _ _ 4  zc27 e (fun n => Eq.refl _)
                obtain ⟨x15, zh28, zh25⟩ := bnd zh25
                have zh28 : rdx (MS_11 4) 10 v14 = some x15 := zh28
                suffices e : Ev (d + 5, 0, 0, 136, 105, [.val (.ref 1088), .val (.int p1), .val (.int p2), .val (.int p3), .val (.int p4), .val (.int v12), .val (.int v13), .val (.int v14)], [.int x15, .int v12], (126, 120, L, [Y, T, HA, HB, RA, RB, ST, NS, I0, I1, I2, BO, FI, RG, GU, PU, MA_9, MN, MS_11, OT, SC], [r0, r1, r2, r3, w, r5, r6, r7, r8], Lg)) o from ev_opt (fun x15 => (d + 5, 0, 0, 136, 105, [.val (.ref 1088), .val (.int p1), .val (.int p2), .val (.int p3), .val (.int p4), .val (.int v12), .val (.int v13), .val (.int v14)], [.int x15, .int v12], (126, 120, L, [Y, T, HA, HB, RA, RB, ST, NS, I0, I1, I2, BO, FI, RG, GU, PU, MA_9, MN, MS_11, OT, SC], [r0, r1, r2, r3, w, r5, r6, r7, r8], Lg))) 5 zh28 e (fun n => Eq.refl _)
                obtain ⟨x16, zh29, zh25⟩ := bnd zh25
                have zh29 : rdx (MA_9 7) 10 v14 = some x16 := zh29
                suffices e : Ev (d + 5, 0, 0, 136, 112, [.val (.ref 1088), .val (.int p1), .val (.int p2), .val (.int p3), .val (.int p4), .val (.int v12), .val (.int v13), .val (.int v14)], [.int x16, .int x15, .int v12], (126, 120, L, [Y, T, HA, HB, RA, RB, ST, NS, I0, I1, I2, BO, FI, RG, GU, PU, MA_9, MN, MS_11, OT, SC], [r0, r1, r2, r3, w, r5, r6, r7, r8], Lg)) o from ev_opt (fun x16 => (d + 5, 0, 0, 136, 112, [.val (.ref 1088), .val (.int p1), .val (.int p2), .val (.int p3), .val (.int p4), .val (.int v12), .val (.int v13), .val (.int v14)], [.int x16, .int x15, .int v12], (126, 120, L, [Y, T, HA, HB, RA, RB, ST, NS, I0, I1, I2, BO, FI, RG, GU, PU, MA_9, MN, MS_11, OT, SC], [r0, r1, r2, r3, w, r5, r6, r7, r8], Lg))) 4 zh29 e (fun n => Eq.refl _)
                obtain ⟨zt30, zh31, zh25⟩ := bnd zh25
                have zj32 : ∀ (v17 : Int32), v17 = zt30 → Ev (d + 5, 0, 0, 136, 120, [.val (.ref 1088), .val (.int p1), .val (.int p2), .val (.int p3), .val (.int p4), .val (.int v12), .val (.int v13), .val (.int v14)], [.int v17, .int v12], (126, 120, L, [Y, T, HA, HB, RA, RB, ST, NS, I0, I1, I2, BO, FI, RG, GU, PU, MA_9, MN, MS_11, OT, SC], [r0, r1, r2, r3, w, r5, r6, r7, r8], Lg)) o := by
                  intro v17 ze33
                  subst ze33
                  obtain ⟨x18, zh34, zh25⟩ := bnd zh25
                  have zh34 : rdx (MS_11 4) 10 v14 = some x18 := zh34
                  suffices e : Ev (d + 5, 0, 0, 136, 132, [.val (.ref 1088), .val (.int p1), .val (.int p2), .val (.int p3), .val (.int p4), .val (.int (v12 + v17)), .val (.int v13), .val (.int v14)], [.int x18, .int v13], (126, 120, L, [Y, T, HA, HB, RA, RB, ST, NS, I0, I1, I2, BO, FI, RG, GU, PU, MA_9, MN, MS_11, OT, SC], [r0, r1, r2, r3, w, r5, r6, r7, r8], Lg)) o from ev_opt (fun x18 => (d + 5, 0, 0, 136, 132, [.val (.ref 1088), .val (.int p1), .val (.int p2), .val (.int p3), .val (.int p4), .val (.int (v12 + v17)), .val (.int v13), .val (.int v14)], [.int x18, .int v13], (126, 120, L, [Y, T, HA, HB, RA, RB, ST, NS, I0, I1, I2, BO, FI, RG, GU, PU, MA_9, MN, MS_11, OT, SC], [r0, r1, r2, r3, w, r5, r6, r7, r8], Lg))) 7 zh34 e (fun n => Eq.refl _)
                  obtain ⟨zt35, zh36, zh25⟩ := bnd zh25
                  have zj37 : ∀ (v20 : Int32), v20 = zt35 → Ev (d + 5, 0, 0, 136, 155, [.val (.ref 1088), .val (.int p1), .val (.int p2), .val (.int p3), .val (.int p4), .val (.int (v12 + v17)), .val (.int v13), .val (.int v14)], [.int v20, .int v13], (126, 120, L, [Y, T, HA, HB, RA, RB, ST, NS, I0, I1, I2, BO, FI, RG, GU, PU, MA_9, MN, MS_11, OT, SC], [r0, r1, r2, r3, w, r5, r6, r7, r8], Lg)) o := by
                    intro v20 ze38
                    subst ze38
                    exact ev_b 4 (zi23 _ (Option.some.inj zh25).symm ()) (fun n => Eq.refl _)
                  obtain ⟨zt39, zh40, zh36⟩ := bnd zh36
                  have zj41 : zt39 = .inl () → Ev (d + 5, 0, 0, 136, 154, [.val (.ref 1088), .val (.int p1), .val (.int p2), .val (.int p3), .val (.int p4), .val (.int (v12 + v17)), .val (.int v13), .val (.int v14)], [.int v13], (126, 120, L, [Y, T, HA, HB, RA, RB, ST, NS, I0, I1, I2, BO, FI, RG, GU, PU, MA_9, MN, MS_11, OT, SC], [r0, r1, r2, r3, w, r5, r6, r7, r8], Lg)) o := by
                    intro ze42
                    have zh36 := sum_l zh36 ze42
                    exact ev_b 1 (zj37 0 (Option.some.inj zh36) ) (fun n => Eq.refl _)
                  by_cases zc43 : x18 ≠ (-1)
                  · have zh40 := itp zh40 zc43
                    suffices e : Ev (d + 5, 0, 0, 136, 154, [.val (.ref 1088), .val (.int p1), .val (.int p2), .val (.int p3), .val (.int p4), .val (.int (v12 + v17)), .val (.int v13), .val (.int v14)], [.int v13], (126, 120, L, [Y, T, HA, HB, RA, RB, ST, NS, I0, I1, I2, BO, FI, RG, GU, PU, MA_9, MN, MS_11, OT, SC], [r0, r1, r2, r3, w, r5, r6, r7, r8], Lg)) o from ev_t (c := x18 ≠ (-1)) _ _ 2  zc43 e (fun n => Eq.refl _)
                    exact ev_b 0 (zj41  (Option.some.inj zh40).symm ) (fun n => Eq.refl _)
                  · have zh40 := itn zh40 zc43
                    suffices e : Ev (d + 5, 0, 0, 136, 136, [.val (.ref 1088), .val (.int p1), .val (.int p2), .val (.int p3), .val (.int p4), .val (.int (v12 + v17)), .val (.int v13), .val (.int v14)], [.int v13], (126, 120, L, [Y, T, HA, HB, RA, RB, ST, NS, I0, I1, I2, BO, FI, RG, GU, PU, MA_9, MN, MS_11, OT, SC], [r0, r1, r2, r3, w, r5, r6, r7, r8], Lg)) o from ev_f (c := x18 ≠ (-1)) _ _ 2  zc43 e (fun n => Eq.refl _)
                    obtain ⟨x19, zh44, zh40⟩ := bnd zh40
                    have zh44 : rdx (MA_9 7) 10 v14 = some x19 := zh44
                    suffices e : Ev (d + 5, 0, 0, 136, 143, [.val (.ref 1088), .val (.int p1), .val (.int p2), .val (.int p3), .val (.int p4), .val (.int (v12 + v17)), .val (.int v13), .val (.int v14)], [.int x19, .int v13], (126, 120, L, [Y, T, HA, HB, RA, RB, ST, NS, I0, I1, I2, BO, FI, RG, GU, PU, MA_9, MN, MS_11, OT, SC], [r0, r1, r2, r3, w, r5, r6, r7, r8], Lg)) o from ev_opt (fun x19 => (d + 5, 0, 0, 136, 143, [.val (.ref 1088), .val (.int p1), .val (.int p2), .val (.int p3), .val (.int p4), .val (.int (v12 + v17)), .val (.int v13), .val (.int v14)], [.int x19, .int v13], (126, 120, L, [Y, T, HA, HB, RA, RB, ST, NS, I0, I1, I2, BO, FI, RG, GU, PU, MA_9, MN, MS_11, OT, SC], [r0, r1, r2, r3, w, r5, r6, r7, r8], Lg))) 4 zh44 e (fun n => Eq.refl _)
                    by_cases zc45 : x19 = (-1)
                    · have zh40 := itp zh40 zc45
                      suffices e : Ev (d + 5, 0, 0, 136, 154, [.val (.ref 1088), .val (.int p1), .val (.int p2), .val (.int p3), .val (.int p4), .val (.int (v12 + v17)), .val (.int v13), .val (.int v14)], [.int v13], (126, 120, L, [Y, T, HA, HB, RA, RB, ST, NS, I0, I1, I2, BO, FI, RG, GU, PU, MA_9, MN, MS_11, OT, SC], [r0, r1, r2, r3, w, r5, r6, r7, r8], Lg)) o from ev_t (c := x19 = (-1)) _ _ 2  zc45 e (fun n => Eq.refl _)
                      exact ev_b 0 (zj41  (Option.some.inj zh40).symm ) (fun n => Eq.refl _)
                    · have zh40 := itn zh40 zc45
                      suffices e : Ev (d + 5, 0, 0, 136, 147, [.val (.ref 1088), .val (.int p1), .val (.int p2), .val (.int p3), .val (.int p4), .val (.int (v12 + v17)), .val (.int v13), .val (.int v14)], [.int v13], (126, 120, L, [Y, T, HA, HB, RA, RB, ST, NS, I0, I1, I2, BO, FI, RG, GU, PU, MA_9, MN, MS_11, OT, SC], [r0, r1, r2, r3, w, r5, r6, r7, r8], Lg)) o from ev_f (c := x19 = (-1)) _ _ 2  zc45 e (fun n => Eq.refl _)
                      have zh46 := sum_r zh36 (Option.some.inj zh40).symm
                      exact ev_b 4 (zj37 (a_shl 1 v14) (Option.some.inj zh46) ) (fun n => Eq.refl _)
                by_cases zc47 : x15 = x16
                · have zh31 := itp zh31 zc47
                  suffices e : Ev (d + 5, 0, 0, 136, 119, [.val (.ref 1088), .val (.int p1), .val (.int p2), .val (.int p3), .val (.int p4), .val (.int v12), .val (.int v13), .val (.int v14)], [.int v12], (126, 120, L, [Y, T, HA, HB, RA, RB, ST, NS, I0, I1, I2, BO, FI, RG, GU, PU, MA_9, MN, MS_11, OT, SC], [r0, r1, r2, r3, w, r5, r6, r7, r8], Lg)) o from ev_t (c := x15 = x16) _ _ 1  zc47 e (fun n => Eq.refl _)
                  exact ev_b 1 (zj32 0 (Option.some.inj zh31) ) (fun n => Eq.refl _)
                · have zh31 := itn zh31 zc47
                  suffices e : Ev (d + 5, 0, 0, 136, 115, [.val (.ref 1088), .val (.int p1), .val (.int p2), .val (.int p3), .val (.int p4), .val (.int v12), .val (.int v13), .val (.int v14)], [.int v12], (126, 120, L, [Y, T, HA, HB, RA, RB, ST, NS, I0, I1, I2, BO, FI, RG, GU, PU, MA_9, MN, MS_11, OT, SC], [r0, r1, r2, r3, w, r5, r6, r7, r8], Lg)) o from ev_f (c := x15 = x16) _ _ 1  zc47 e (fun n => Eq.refl _)
                  exact ev_b 2 (zj32 1 (Option.some.inj zh31) ) (fun n => Eq.refl _)
            · obtain ⟨v21, v22⟩ := zb21
              intro s23
              by_cases zc48 : p4 ≠ 0
              · have h := itp h zc48
                suffices e : Ev (d + 5, 0, 0, 136, 176, [.val (.ref 1088), .val (.int p1), .val (.int p2), .val (.int p3), .val (.int p4), .val (.int v21), .val (.int v22), .val s23], [], (126, 120, L, [Y, T, HA, HB, RA, RB, ST, NS, I0, I1, I2, BO, FI, RG, GU, PU, MA_9, MN, MS_11, OT, SC], [r0, r1, r2, r3, w, r5, r6, r7, r8], Lg)) o from ev_t (c := p4 ≠ 0) _ _ 2  zc48 e (fun n => Eq.refl _)
                by_cases zc49 : p4 ≠ 1
                · have h := itp h zc49
                  suffices e : Ev (d + 5, 0, 0, 136, 187, [.val (.ref 1088), .val (.int p1), .val (.int p2), .val (.int p3), .val (.int p4), .val (.int v21), .val (.int v22), .val s23], [], (126, 120, L, [Y, T, HA, HB, RA, RB, ST, NS, I0, I1, I2, BO, FI, RG, GU, PU, MA_9, MN, MS_11, OT, SC], [r0, r1, r2, r3, w, r5, r6, r7, r8], Lg)) o from ev_t (c := p4 ≠ 1) _ _ 3  zc49 e (fun n => Eq.refl _)
                  have ze50 := Option.some.inj h
                  subst ze50
                  exact ev_rete 2 ho (fun n => Eq.refl _)
                · have h := itn h zc49
                  suffices e : Ev (d + 5, 0, 0, 136, 182, [.val (.ref 1088), .val (.int p1), .val (.int p2), .val (.int p3), .val (.int p4), .val (.int v21), .val (.int v22), .val s23], [], (126, 120, L, [Y, T, HA, HB, RA, RB, ST, NS, I0, I1, I2, BO, FI, RG, GU, PU, MA_9, MN, MS_11, OT, SC], [r0, r1, r2, r3, w, r5, r6, r7, r8], Lg)) o from ev_f (c := p4 ≠ 1) _ _ 3  zc49 e (fun n => Eq.refl _)
                  have ze51 := Option.some.inj h
                  subst ze51
                  exact ev_rete 3 ho (fun n => Eq.refl _)
              · have h := itn h zc48
                suffices e : Ev (d + 5, 0, 0, 136, 169, [.val (.ref 1088), .val (.int p1), .val (.int p2), .val (.int p3), .val (.int p4), .val (.int v21), .val (.int v22), .val s23], [], (126, 120, L, [Y, T, HA, HB, RA, RB, ST, NS, I0, I1, I2, BO, FI, RG, GU, PU, MA_9, MN, MS_11, OT, SC], [r0, r1, r2, r3, w, r5, r6, r7, r8], Lg)) o from ev_f (c := p4 ≠ 0) _ _ 2  zc48 e (fun n => Eq.refl _)
                have ze52 := Option.some.inj h
                subst ze52
                exact ev_rete 4 ho (fun n => Eq.refl _)
          · have h := itn h zc20
            suffices e : Ev (d + 5, 0, 0, 136, 76, [.val (.ref 1088), .val (.int p1), .val (.int p2), .val (.int p3), .val (.int p4), .val a_unk, .val a_unk, .val a_unk], [], (126, 120, L, [Y, T, HA, HB, RA, RB, ST, NS, I0, I1, I2, BO, FI, RG, GU, PU, MA_9, MN, MS_11, OT, SC], [r0, r1, r2, r3, w, r5, r6, r7, r8], Lg)) o from ev_f (c := x10 ≠ 0) _ _ 1  zc20 e (fun n => Eq.refl _)
            have ze53 := Option.some.inj h
            subst ze53
            exact ev_rete 2 ho (fun n => Eq.refl _)
        · have h := itn h zc17
          suffices e : Ev (d + 5, 0, 0, 136, 61, [.val (.ref 1088), .val (.int p1), .val (.int p2), .val (.int p3), .val (.int p4), .val a_unk, .val a_unk, .val a_unk], [], (126, 120, L, [Y, T, HA, HB, RA, RB, ST, NS, I0, I1, I2, BO, FI, RG, GU, PU, MA_9, MN, MS, OT, SC], [r0, r1, r2, r3, w, r5, r6, r7, r8], Lg)) o from ev_f (c := x8 ≠ 0) _ _ 1  zc17 e (fun n => Eq.refl _)
          have ze54 := Option.some.inj h
          subst ze54
          exact ev_rete 2 ho (fun n => Eq.refl _)
      obtain ⟨zt55, zh56, zh12⟩ := bnd zh12
      have zj57 : zt55 = .inl () → Ev (d + 5, 0, 0, 136, 52, [.val (.ref 1088), .val (.int p1), .val (.int p2), .val (.int p3), .val (.int p4), .val a_unk, .val a_unk, .val a_unk], [.ref 1088], (126, 120, L, [Y, T, HA, HB, RA, RB, ST, NS, I0, I1, I2, BO, FI, RG, GU, PU, MA_4, MN, MS, OT, SC], [r0, r1, r2, r3, w, r5, r6, r7, r8], Lg)) o := by
        intro ze58
        have zh12 := sum_l zh12 ze58
        exact ev_b 1 (zj13 0 (Option.some.inj zh12) ) (fun n => Eq.refl _)
      by_cases zc59 : x5 = 0
      · have zh56 := itp zh56 zc59
        suffices e : Ev (d + 5, 0, 0, 136, 52, [.val (.ref 1088), .val (.int p1), .val (.int p2), .val (.int p3), .val (.int p4), .val a_unk, .val a_unk, .val a_unk], [.ref 1088], (126, 120, L, [Y, T, HA, HB, RA, RB, ST, NS, I0, I1, I2, BO, FI, RG, GU, PU, MA_4, MN, MS, OT, SC], [r0, r1, r2, r3, w, r5, r6, r7, r8], Lg)) o from ev_t (c := x5 = 0) _ _ 1  zc59 e (fun n => Eq.refl _)
        exact ev_b 0 (zj57  (Option.some.inj zh56).symm ) (fun n => Eq.refl _)
      · have zh56 := itn zh56 zc59
        suffices e : Ev (d + 5, 0, 0, 136, 38, [.val (.ref 1088), .val (.int p1), .val (.int p2), .val (.int p3), .val (.int p4), .val a_unk, .val a_unk, .val a_unk], [.ref 1088], (126, 120, L, [Y, T, HA, HB, RA, RB, ST, NS, I0, I1, I2, BO, FI, RG, GU, PU, MA_4, MN, MS, OT, SC], [r0, r1, r2, r3, w, r5, r6, r7, r8], Lg)) o from ev_f (c := x5 = 0) _ _ 1  zc59 e (fun n => Eq.refl _)
        obtain ⟨x6, zh60, zh56⟩ := bnd zh56
        have zh60 : f_M_within p4 0 2 = some x6 := zh60
        have ze61 := R_f_M_within_0 (d + 4) Y T HA HB RA RB ST NS I0 I1 I2 BO FI RG GU PU MA_4 MN MS OT SC r0 r1 r2 r3 w r5 r6 r7 r8 L Lg p4 0 2 zh60
        suffices e : Ev (d + 5, 0, 0, 136, 45, [.val (.ref 1088), .val (.int p1), .val (.int p2), .val (.int p3), .val (.int p4), .val a_unk, .val a_unk, .val a_unk], [.int x6, .ref 1088], (126, 120, L, [Y, T, HA, HB, RA, RB, ST, NS, I0, I1, I2, BO, FI, RG, GU, PU, MA_4, MN, MS, OT, SC], [r0, r1, r2, r3, w, r5, r6, r7, r8], Lg)) o from ev_call (fun v μ => (d + 5, 0, 0, 136, 45, [.val (.ref 1088), .val (.int p1), .val (.int p2), .val (.int p3), .val (.int p4), .val a_unk, .val a_unk, .val a_unk], v.toList ++ [.ref 1088], μ)) 4 ze61 e (fun n => Eq.refl _)
        by_cases zc62 : x6 = 0
        · have zh56 := itp zh56 zc62
          suffices e : Ev (d + 5, 0, 0, 136, 52, [.val (.ref 1088), .val (.int p1), .val (.int p2), .val (.int p3), .val (.int p4), .val a_unk, .val a_unk, .val a_unk], [.ref 1088], (126, 120, L, [Y, T, HA, HB, RA, RB, ST, NS, I0, I1, I2, BO, FI, RG, GU, PU, MA_4, MN, MS, OT, SC], [r0, r1, r2, r3, w, r5, r6, r7, r8], Lg)) o from ev_t (c := x6 = 0) _ _ 1  zc62 e (fun n => Eq.refl _)
          exact ev_b 0 (zj57  (Option.some.inj zh56).symm ) (fun n => Eq.refl _)
        · have zh56 := itn zh56 zc62
          suffices e : Ev (d + 5, 0, 0, 136, 48, [.val (.ref 1088), .val (.int p1), .val (.int p2), .val (.int p3), .val (.int p4), .val a_unk, .val a_unk, .val a_unk], [.ref 1088], (126, 120, L, [Y, T, HA, HB, RA, RB, ST, NS, I0, I1, I2, BO, FI, RG, GU, PU, MA_4, MN, MS, OT, SC], [r0, r1, r2, r3, w, r5, r6, r7, r8], Lg)) o from ev_f (c := x6 = 0) _ _ 1  zc62 e (fun n => Eq.refl _)
          have zh63 := sum_r zh12 (Option.some.inj zh56).symm
          exact ev_b 2 (zj13 1 (Option.some.inj zh63) ) (fun n => Eq.refl _)
set_option maxRecDepth 1000000 in
set_option maxHeartbeats 4000000 in
theorem R_f_M_pushed_0 (d : Nat) (Y T HA HB RA RB ST NS I0 I1 I2 BO FI RG GU PU MA MN MS OT SC : Nat → Nat → Int32) (r0 r1 r2 r3 w r5 r6 r7 r8 : Nat) (L : Nat) (Lg : Int64) (p1 : Int32) (p2 : Int32) (p3 : Int32) (p4 : Int32) {r : Int32 × (Nat → Nat → Int32) × (Nat → Nat → Int32)} (h : f_M_pushed MA MS p1 p2 p3 p4 = some r) : Ev (d + 5, 0, 0, 137, 0, [.val (.ref 1088), .val (.int p1), .val (.int p2), .val (.int p3), .val (.int p4)], [], (126, 120, L, [Y, T, HA, HB, RA, RB, ST, NS, I0, I1, I2, BO, FI, RG, GU, PU, MA, MN, MS, OT, SC], [r0, r1, r2, r3, w, r5, r6, r7, r8], Lg)) ((0, some (.int r.1), (126, 120, L, [Y, T, HA, HB, RA, RB, ST, NS, I0, I1, I2, BO, FI, RG, GU, PU, r.2.1, MN, r.2.2, OT, SC], [r0, r1, r2, r3, w, r5, r6, r7, r8], Lg)) : AOut) := by
  suffices key : ∀ o : AOut, ((0, some (.int r.1), (126, 120, L, [Y, T, HA, HB, RA, RB, ST, NS, I0, I1, I2, BO, FI, RG, GU, PU, r.2.1, MN, r.2.2, OT, SC], [r0, r1, r2, r3, w, r5, r6, r7, r8], Lg)) : AOut) = o → Ev (d + 5, 0, 0, 137, 0, [.val (.ref 1088), .val (.int p1), .val (.int p2), .val (.int p3), .val (.int p4)], [], (126, 120, L, [Y, T, HA, HB, RA, RB, ST, NS, I0, I1, I2, BO, FI, RG, GU, PU, MA, MN, MS, OT, SC], [r0, r1, r2, r3, w, r5, r6, r7, r8], Lg)) o from key _ rfl
  intro o ho
  obtain ⟨⟨x1, MA_2⟩, zh1, h⟩ := bnd h
  have zh1 : f_M_isMeeting (u2 MA 0 0 0) p1 1 = some (x1, MA_2) := zh1
  have ze2 := R_f_M_isMeeting_0 (d + 3) Y T HA HB RA RB ST NS I0 I1 I2 BO FI RG GU PU (u2 MA 0 0 0) MN MS OT SC r0 r1 r2 r3 w r5 r6 r7 r8 L Lg p1 1 zh1
  suffices e : Ev (d + 5, 0, 0, 137, 11, [.val (.ref 1088), .val (.int p1), .val (.int p2), .val (.int p3), .val (.int p4)], [.int x1], (126, 120, L, [Y, T, HA, HB, RA, RB, ST, NS, I0, I1, I2, BO, FI, RG, GU, PU, MA_2, MN, MS, OT, SC], [r0, r1, r2, r3, w, r5, r6, r7, r8], Lg)) o from ev_call (fun v μ => (d + 5, 0, 0, 137, 11, [.val (.ref 1088), .val (.int p1), .val (.int p2), .val (.int p3), .val (.int p4)], v.toList ++ [], μ)) 7 ze2 e (fun n => Eq.refl _)
  by_cases zc3 : x1 = 0
  · have h := itp h zc3
    suffices e : Ev (d + 5, 0, 0, 137, 53, [.val (.ref 1088), .val (.int p1), .val (.int p2), .val (.int p3), .val (.int p4)], [], (126, 120, L, [Y, T, HA, HB, RA, RB, ST, NS, I0, I1, I2, BO, FI, RG, GU, PU, MA_2, MN, MS, OT, SC], [r0, r1, r2, r3, w, r5, r6, r7, r8], Lg)) o from ev_t (c := x1 = 0) _ _ 1  zc3 e (fun n => Eq.refl _)
    have ze4 := Option.some.inj h
    subst ze4
    exact ev_rete 2 ho (fun n => Eq.refl _)
  · have h := itn h zc3
    suffices e : Ev (d + 5, 0, 0, 137, 14, [.val (.ref 1088), .val (.int p1), .val (.int p2), .val (.int p3), .val (.int p4)], [], (126, 120, L, [Y, T, HA, HB, RA, RB, ST, NS, I0, I1, I2, BO, FI, RG, GU, PU, MA_2, MN, MS, OT, SC], [r0, r1, r2, r3, w, r5, r6, r7, r8], Lg)) o from ev_f (c := x1 = 0) _ _ 1  zc3 e (fun n => Eq.refl _)
    obtain ⟨⟨x3, MA_4⟩, zh5, h⟩ := bnd h
    have zh5 : f_M_isRoom MA_2 p3 1 = some (x3, MA_4) := zh5
    have ze6 := R_f_M_isRoom_0 (d + 3) Y T HA HB RA RB ST NS I0 I1 I2 BO FI RG GU PU MA_2 MN MS OT SC r0 r1 r2 r3 w r5 r6 r7 r8 L Lg p3 1 zh5
    suffices e : Ev (d + 5, 0, 0, 137, 20, [.val (.ref 1088), .val (.int p1), .val (.int p2), .val (.int p3), .val (.int p4)], [.int x3], (126, 120, L, [Y, T, HA, HB, RA, RB, ST, NS, I0, I1, I2, BO, FI, RG, GU, PU, MA_4, MN, MS, OT, SC], [r0, r1, r2, r3, w, r5, r6, r7, r8], Lg)) o from ev_call (fun v μ => (d + 5, 0, 0, 137, 20, [.val (.ref 1088), .val (.int p1), .val (.int p2), .val (.int p3), .val (.int p4)], v.toList ++ [], μ)) 4 ze6 e (fun n => Eq.refl _)
    by_cases zc7 : x3 = 0
    · have h := itp h zc7
      suffices e : Ev (d + 5, 0, 0, 137, 53, [.val (.ref 1088), .val (.int p1), .val (.int p2), .val (.int p3), .val (.int p4)], [], (126, 120, L, [Y, T, HA, HB, RA, RB, ST, NS, I0, I1, I2, BO, FI, RG, GU, PU, MA_4, MN, MS, OT, SC], [r0, r1, r2, r3, w, r5, r6, r7, r8], Lg)) o from ev_t (c := x3 = 0) _ _ 1  zc7 e (fun n => Eq.refl _)
      have ze8 := Option.some.inj h
      subst ze8
      exact ev_rete 2 ho (fun n => Eq.refl _)
    · have h := itn h zc7
      suffices e : Ev (d + 5, 0, 0, 137, 23, [.val (.ref 1088), .val (.int p1), .val (.int p2), .val (.int p3), .val (.int p4)], [], (126, 120, L, [Y, T, HA, HB, RA, RB, ST, NS, I0, I1, I2, BO, FI, RG, GU, PU, MA_4, MN, MS, OT, SC], [r0, r1, r2, r3, w, r5, r6, r7, r8], Lg)) o from ev_f (c := x3 = 0) _ _ 1  zc7 e (fun n => Eq.refl _)
      obtain ⟨⟨x5, MA_6⟩, zh9, h⟩ := bnd h
      have zh9 : f_M_isMeeting MA_4 p4 1 = some (x5, MA_6) := zh9
      have ze10 := R_f_M_isMeeting_0 (d + 3) Y T HA HB RA RB ST NS I0 I1 I2 BO FI RG GU PU MA_4 MN MS OT SC r0 r1 r2 r3 w r5 r6 r7 r8 L Lg p4 1 zh9
      suffices e : Ev (d + 5, 0, 0, 137, 30, [.val (.ref 1088), .val (.int p1), .val (.int p2), .val (.int p3), .val (.int p4)], [.int x5], (126, 120, L, [Y, T, HA, HB, RA, RB, ST, NS, I0, I1, I2, BO, FI, RG, GU, PU, MA_6, MN, MS, OT, SC], [r0, r1, r2, r3, w, r5, r6, r7, r8], Lg)) o from ev_call (fun v μ => (d + 5, 0, 0, 137, 30, [.val (.ref 1088), .val (.int p1), .val (.int p2), .val (.int p3), .val (.int p4)], v.toList ++ [], μ)) 4 ze10 e (fun n => Eq.refl _)
      by_cases zc11 : x5 = 0
      · have h := itp h zc11
        suffices e : Ev (d + 5, 0, 0, 137, 53, [.val (.ref 1088), .val (.int p1), .val (.int p2), .val (.int p3), .val (.int p4)], [], (126, 120, L, [Y, T, HA, HB, RA, RB, ST, NS, I0, I1, I2, BO, FI, RG, GU, PU, MA_6, MN, MS, OT, SC], [r0, r1, r2, r3, w, r5, r6, r7, r8], Lg)) o from ev_t (c := x5 = 0) _ _ 1  zc11 e (fun n => Eq.refl _)
        have ze12 := Option.some.inj h
        subst ze12
        exact ev_rete 2 ho (fun n => Eq.refl _)
      · have h := itn h zc11
        suffices e : Ev (d + 5, 0, 0, 137, 33, [.val (.ref 1088), .val (.int p1), .val (.int p2), .val (.int p3), .val (.int p4)], [], (126, 120, L, [Y, T, HA, HB, RA, RB, ST, NS, I0, I1, I2, BO, FI, RG, GU, PU, MA_6, MN, MS, OT, SC], [r0, r1, r2, r3, w, r5, r6, r7, r8], Lg)) o from ev_f (c := x5 = 0) _ _ 1  zc11 e (fun n => Eq.refl _)
        obtain ⟨x7, zh13, h⟩ := bnd h
        have zh13 : f_M_within p2 0 ((MA_6 0 23) - 1) = some x7 := zh13
        have ze14 := R_f_M_within_0 (d + 4) Y T HA HB RA RB ST NS I0 I1 I2 BO FI RG GU PU MA_6 MN MS OT SC r0 r1 r2 r3 w r5 r6 r7 r8 L Lg p2 0 ((MA_6 0 23) - 1) zh13
        suffices e : Ev (d + 5, 0, 0, 137, 45, [.val (.ref 1088), .val (.int p1), .val (.int p2), .val (.int p3), .val (.int p4)], [.int x7, .ref 1088], (126, 120, L, [Y, T, HA, HB, RA, RB, ST, NS, I0, I1, I2, BO, FI, RG, GU, PU, MA_6, MN, MS, OT, SC], [r0, r1, r2, r3, w, r5, r6, r7, r8], Lg)) o from ev_call (fun v μ => (d + 5, 0, 0, 137, 45, [.val (.ref 1088), .val (.int p1), .val (.int p2), .val (.int p3), .val (.int p4)], v.toList ++ [.ref 1088], μ)) 8 ze14 e (fun n => Eq.refl _)
        obtain ⟨⟨x8, MA_9⟩, zh15, h⟩ := bnd h
        have zh15 : f_M_may MA_6 x7 2 1 = some (x8, MA_9) := zh15
        have ze16 := R_f_M_may_0 (d + 4) Y T HA HB RA RB ST NS I0 I1 I2 BO FI RG GU PU MA_6 MN MS OT SC r0 r1 r2 r3 w r5 r6 r7 r8 L Lg x7 2 1 zh15
        suffices e : Ev (d + 5, 0, 0, 137, 50, [.val (.ref 1088), .val (.int p1), .val (.int p2), .val (.int p3), .val (.int p4)], [.int x8], (126, 120, L, [Y, T, HA, HB, RA, RB, ST, NS, I0, I1, I2, BO, FI, RG, GU, PU, MA_9, MN, MS, OT, SC], [r0, r1, r2, r3, w, r5, r6, r7, r8], Lg)) o from ev_call (fun v μ => (d + 5, 0, 0, 137, 50, [.val (.ref 1088), .val (.int p1), .val (.int p2), .val (.int p3), .val (.int p4)], v.toList ++ [], μ)) 3 ze16 e (fun n => Eq.refl _)
        by_cases zc17 : x8 ≠ 0
        · have h := itp h zc17
          suffices e : Ev (d + 5, 0, 0, 137, 55, [.val (.ref 1088), .val (.int p1), .val (.int p2), .val (.int p3), .val (.int p4)], [], (126, 120, L, [Y, T, HA, HB, RA, RB, ST, NS, I0, I1, I2, BO, FI, RG, GU, PU, MA_9, MN, MS, OT, SC], [r0, r1, r2, r3, w, r5, r6, r7, r8], Lg)) o from ev_t (c := x8 ≠ 0) _ _ 1  zc17 e (fun n => Eq.refl _)
          obtain ⟨⟨x10, MS_11⟩, zh18, h⟩ := bnd h
          have zh18 : f_M_pushesBy MA_9 MS p1 ((3 * p2) + p3) = some (x10, MS_11) := zh18
          have ze19 := R_f_M_pushesBy_0 (d + 0) Y T HA HB RA RB ST NS I0 I1 I2 BO FI RG GU PU MA_9 MN MS OT SC r0 r1 r2 r3 w r5 r6 r7 r8 L Lg p1 ((3 * p2) + p3) zh18
          suffices e : Ev (d + 5, 0, 0, 137, 65, [.val (.ref 1088), .val (.int p1), .val (.int p2), .val (.int p3), .val (.int p4)], [.int x10], (126, 120, L, [Y, T, HA, HB, RA, RB, ST, NS, I0, I1, I2, BO, FI, RG, GU, PU, MA_9, MN, MS_11, OT, SC], [r0, r1, r2, r3, w, r5, r6, r7, r8], Lg)) o from ev_call (fun v μ => (d + 5, 0, 0, 137, 65, [.val (.ref 1088), .val (.int p1), .val (.int p2), .val (.int p3), .val (.int p4)], v.toList ++ [], μ)) 8 ze19 e (fun n => Eq.refl _)
          by_cases zc20 : x10 ≠ 0
          · have h := itp h zc20
            suffices e : Ev (d + 5, 0, 0, 137, 70, [.val (.ref 1088), .val (.int p1), .val (.int p2), .val (.int p3), .val (.int p4)], [], (126, 120, L, [Y, T, HA, HB, RA, RB, ST, NS, I0, I1, I2, BO, FI, RG, GU, PU, MA_9, MN, MS_11, OT, SC], [r0, r1, r2, r3, w, r5, r6, r7, r8], Lg)) o from ev_t (c := x10 ≠ 0) _ _ 1  zc20 e (fun n => Eq.refl _)
            obtain ⟨x12, zh21, h⟩ := bnd h
            have zh21 : rdx (MS_11 4) 10 p4 = some x12 := zh21
            suffices e : Ev (d + 5, 0, 0, 137, 77, [.val (.ref 1088), .val (.int p1), .val (.int p2), .val (.int p3), .val (.int p4)], [.int x12], (126, 120, L, [Y, T, HA, HB, RA, RB, ST, NS, I0, I1, I2, BO, FI, RG, GU, PU, MA_9, MN, MS_11, OT, SC], [r0, r1, r2, r3, w, r5, r6, r7, r8], Lg)) o from ev_opt (fun x12 => (d + 5, 0, 0, 137, 77, [.val (.ref 1088), .val (.int p1), .val (.int p2), .val (.int p3), .val (.int p4)], [.int x12], (126, 120, L, [Y, T, HA, HB, RA, RB, ST, NS, I0, I1, I2, BO, FI, RG, GU, PU, MA_9, MN, MS_11, OT, SC], [r0, r1, r2, r3, w, r5, r6, r7, r8], Lg))) 4 zh21 e (fun n => Eq.refl _)
            obtain ⟨x13, zh22, h⟩ := bnd h
            have zh22 : rdx (MS_11 4) 10 p4 = some x13 := zh22
            suffices e : Ev (d + 5, 0, 0, 137, 84, [.val (.ref 1088), .val (.int p1), .val (.int p2), .val (.int p3), .val (.int p4)], [.int x13, .int x12], (126, 120, L, [Y, T, HA, HB, RA, RB, ST, NS, I0, I1, I2, BO, FI, RG, GU, PU, MA_9, MN, MS_11, OT, SC], [r0, r1, r2, r3, w, r5, r6, r7, r8], Lg)) o from ev_opt (fun x13 => (d + 5, 0, 0, 137, 84, [.val (.ref 1088), .val (.int p1), .val (.int p2), .val (.int p3), .val (.int p4)], [.int x13, .int x12], (126, 120, L, [Y, T, HA, HB, RA, RB, ST, NS, I0, I1, I2, BO, FI, RG, GU, PU, MA_9, MN, MS_11, OT, SC], [r0, r1, r2, r3, w, r5, r6, r7, r8], Lg))) 4 zh22 e (fun n => Eq.refl _)
            obtain ⟨zt23, zh24, h⟩ := bnd h
            have zj25 : ∀ (v14 : Int32), v14 = zt23 → Ev (d + 5, 0, 0, 137, 93, [.val (.ref 1088), .val (.int p1), .val (.int p2), .val (.int p3), .val (.int p4)], [.int v14, .int x12], (126, 120, L, [Y, T, HA, HB, RA, RB, ST, NS, I0, I1, I2, BO, FI, RG, GU, PU, MA_9, MN, MS_11, OT, SC], [r0, r1, r2, r3, w, r5, r6, r7, r8], Lg)) o := by
              intro v14 ze26
              subst ze26
              obtain ⟨x15, zh27, h⟩ := bnd h
              have zh27 : f_M_shown x12 v14 = some x15 := zh27
              have ze28 := R_f_M_shown_0 (d + 4) Y T HA HB RA RB ST NS I0 I1 I2 BO FI RG GU PU MA_9 MN MS_11 OT SC r0 r1 r2 r3 w r5 r6 r7 r8 L Lg x12 v14 zh27
              suffices e : Ev (d + 5, 0, 0, 137, 96, [.val (.ref 1088), .val (.int p1), .val (.int p2), .val (.int p3), .val (.int p4)], [.int x15], (126, 120, L, [Y, T, HA, HB, RA, RB, ST, NS, I0, I1, I2, BO, FI, RG, GU, PU, MA_9, MN, MS_11, OT, SC], [r0, r1, r2, r3, w, r5, r6, r7, r8], Lg)) o from ev_call (fun v μ => (d + 5, 0, 0, 137, 96, [.val (.ref 1088), .val (.int p1), .val (.int p2), .val (.int p3), .val (.int p4)], v.toList ++ [], μ)) 1 ze28 e (fun n => Eq.refl _)
              have ze29 := Option.some.inj h
              subst ze29
              exact ev_rete 1 ho (fun n => Eq.refl _)
            by_cases zc30 : x13 = (-1)
            · have zh24 := itp zh24 zc30
              suffices e : Ev (d + 5, 0, 0, 137, 92, [.val (.ref 1088), .val (.int p1), .val (.int p2), .val (.int p3), .val (.int p4)], [.int x12], (126, 120, L, [Y, T, HA, HB, RA, RB, ST, NS, I0, I1, I2, BO, FI, RG, GU, PU, MA_9, MN, MS_11, OT, SC], [r0, r1, r2, r3, w, r5, r6, r7, r8], Lg)) o from ev_t (c := x13 = (-1)) _ _ 2  zc30 e (fun n => Eq.refl _)
              exact ev_b 1 (zj25 0 (Option.some.inj zh24) ) (fun n => Eq.refl _)
            · have zh24 := itn zh24 zc30
              suffices e : Ev (d + 5, 0, 0, 137, 88, [.val (.ref 1088), .val (.int p1), .val (.int p2), .val (.int p3), .val (.int p4)], [.int x12], (126, 120, L, [Y, T, HA, HB, RA, RB, ST, NS, I0, I1, I2, BO, FI, RG, GU, PU, MA_9, MN, MS_11, OT, SC], [r0, r1, r2, r3, w, r5, r6, r7, r8], Lg)) o from ev_f (c := x13 = (-1)) _ _ 2  zc30 e (fun n => Eq.refl _)
              exact ev_b 2 (zj25 1 (Option.some.inj zh24) ) (fun n => Eq.refl _)
          · have h := itn h zc20
            suffices e : Ev (d + 5, 0, 0, 137, 68, [.val (.ref 1088), .val (.int p1), .val (.int p2), .val (.int p3), .val (.int p4)], [], (126, 120, L, [Y, T, HA, HB, RA, RB, ST, NS, I0, I1, I2, BO, FI, RG, GU, PU, MA_9, MN, MS_11, OT, SC], [r0, r1, r2, r3, w, r5, r6, r7, r8], Lg)) o from ev_f (c := x10 ≠ 0) _ _ 1  zc20 e (fun n => Eq.refl _)
            have ze31 := Option.some.inj h
            subst ze31
            exact ev_rete 2 ho (fun n => Eq.refl _)
        · have h := itn h zc17
          suffices e : Ev (d + 5, 0, 0, 137, 53, [.val (.ref 1088), .val (.int p1), .val (.int p2), .val (.int p3), .val (.int p4)], [], (126, 120, L, [Y, T, HA, HB, RA, RB, ST, NS, I0, I1, I2, BO, FI, RG, GU, PU, MA_9, MN, MS, OT, SC], [r0, r1, r2, r3, w, r5, r6, r7, r8], Lg)) o from ev_f (c := x8 ≠ 0) _ _ 1  zc17 e (fun n => Eq.refl _)
          have ze32 := Option.some.inj h
          subst ze32
          exact ev_rete 2 ho (fun n => Eq.refl _)
set_option maxRecDepth 1000000 in
set_option maxHeartbeats 4000000 in
theorem R_f_M_push_0 (d : Nat) (Y T HA HB RA RB ST NS I0 I1 I2 BO FI RG GU PU MA MN MS OT SC : Nat → Nat → Int32) (r0 r1 r2 r3 w r5 r6 r7 r8 : Nat) (L : Nat) (Lg : Int64) (p1 : Int32) (p2 : Int32) (p3 : Int32) {r : Int32 × (Nat → Nat → Int32) × (Nat → Nat → Int32)} (h : f_M_push MA MS p1 p2 p3 = some r) : Ev (d + 5, 0, 0, 138, 0, [.val (.ref 1088), .val (.int p1), .val (.int p2), .val (.int p3), .val a_unk], [], (126, 120, L, [Y, T, HA, HB, RA, RB, ST, NS, I0, I1, I2, BO, FI, RG, GU, PU, MA, MN, MS, OT, SC], [r0, r1, r2, r3, w, r5, r6, r7, r8], Lg)) ((0, some (.int r.1), (126, 120, L, [Y, T, HA, HB, RA, RB, ST, NS, I0, I1, I2, BO, FI, RG, GU, PU, r.2.1, MN, r.2.2, OT, SC], [r0, r1, r2, r3, w, r5, r6, r7, r8], Lg)) : AOut) := by
  suffices key : ∀ o : AOut, ((0, some (.int r.1), (126, 120, L, [Y, T, HA, HB, RA, RB, ST, NS, I0, I1, I2, BO, FI, RG, GU, PU, r.2.1, MN, r.2.2, OT, SC], [r0, r1, r2, r3, w, r5, r6, r7, r8], Lg)) : AOut) = o → Ev (d + 5, 0, 0, 138, 0, [.val (.ref 1088), .val (.int p1), .val (.int p2), .val (.int p3), .val a_unk], [], (126, 120, L, [Y, T, HA, HB, RA, RB, ST, NS, I0, I1, I2, BO, FI, RG, GU, PU, MA, MN, MS, OT, SC], [r0, r1, r2, r3, w, r5, r6, r7, r8], Lg)) o from key _ rfl
  intro o ho
  obtain ⟨⟨x1, MA_2⟩, zh1, h⟩ := bnd h
  have zh1 : f_M_isPlace (u2 MA 0 0 0) p1 p2 p3 = some (x1, MA_2) := zh1
  have ze2 := R_f_M_isPlace_0 (d + 2) Y T HA HB RA RB ST NS I0 I1 I2 BO FI RG GU PU (u2 MA 0 0 0) MN MS OT SC r0 r1 r2 r3 w r5 r6 r7 r8 L Lg p1 p2 p3 zh1
  suffices e : Ev (d + 5, 0, 0, 138, 12, [.val (.ref 1088), .val (.int p1), .val (.int p2), .val (.int p3), .val a_unk], [.int x1], (126, 120, L, [Y, T, HA, HB, RA, RB, ST, NS, I0, I1, I2, BO, FI, RG, GU, PU, MA_2, MN, MS, OT, SC], [r0, r1, r2, r3, w, r5, r6, r7, r8], Lg)) o from ev_call (fun v μ => (d + 5, 0, 0, 138, 12, [.val (.ref 1088), .val (.int p1), .val (.int p2), .val (.int p3), .val a_unk], v.toList ++ [], μ)) 8 ze2 e (fun n => Eq.refl _)
  by_cases zc3 : x1 ≠ 0
  · have h := itp h zc3
    suffices e : Ev (d + 5, 0, 0, 138, 17, [.val (.ref 1088), .val (.int p1), .val (.int p2), .val (.int p3), .val a_unk], [], (126, 120, L, [Y, T, HA, HB, RA, RB, ST, NS, I0, I1, I2, BO, FI, RG, GU, PU, MA_2, MN, MS, OT, SC], [r0, r1, r2, r3, w, r5, r6, r7, r8], Lg)) o from ev_t (c := x1 ≠ 0) _ _ 1  zc3 e (fun n => Eq.refl _)
    by_cases zc4 : (MA_2 0 43) ≠ 30
    · have h := itp h zc4
      suffices e : Ev (d + 5, 0, 0, 138, 29, [.val (.ref 1088), .val (.int p1), .val (.int p2), .val (.int p3), .val a_unk], [], (126, 120, L, [Y, T, HA, HB, RA, RB, ST, NS, I0, I1, I2, BO, FI, RG, GU, PU, MA_2, MN, MS, OT, SC], [r0, r1, r2, r3, w, r5, r6, r7, r8], Lg)) o from ev_t (c := (MA_2 0 43) ≠ 30) _ _ 4  zc4 e (fun n => Eq.refl _)
      obtain ⟨⟨x3, MS_4⟩, zh5, h⟩ := bnd h
      have zh5 : f_M_pushesBy MA_2 MS p1 ((3 * p2) + p3) = some (x3, MS_4) := zh5
      have ze6 := R_f_M_pushesBy_0 (d + 0) Y T HA HB RA RB ST NS I0 I1 I2 BO FI RG GU PU MA_2 MN MS OT SC r0 r1 r2 r3 w r5 r6 r7 r8 L Lg p1 ((3 * p2) + p3) zh5
      suffices e : Ev (d + 5, 0, 0, 138, 39, [.val (.ref 1088), .val (.int p1), .val (.int p2), .val (.int p3), .val a_unk], [.int x3], (126, 120, L, [Y, T, HA, HB, RA, RB, ST, NS, I0, I1, I2, BO, FI, RG, GU, PU, MA_2, MN, MS_4, OT, SC], [r0, r1, r2, r3, w, r5, r6, r7, r8], Lg)) o from ev_call (fun v μ => (d + 5, 0, 0, 138, 39, [.val (.ref 1088), .val (.int p1), .val (.int p2), .val (.int p3), .val a_unk], v.toList ++ [], μ)) 8 ze6 e (fun n => Eq.refl _)
      by_cases zc7 : x3 ≠ 0
      · have h := itp h zc7
        suffices e : Ev (d + 5, 0, 0, 138, 44, [.val (.ref 1088), .val (.int p1), .val (.int p2), .val (.int p3), .val a_unk], [], (126, 120, L, [Y, T, HA, HB, RA, RB, ST, NS, I0, I1, I2, BO, FI, RG, GU, PU, MA_2, MN, MS_4, OT, SC], [r0, r1, r2, r3, w, r5, r6, r7, r8], Lg)) o from ev_t (c := x3 ≠ 0) _ _ 1  zc7 e (fun n => Eq.refl _)
        obtain ⟨MA_5, zh8, h⟩ := bnd h
        have zh8 : f_M_keepsAct MA_2 = some MA_5 := zh8
        have ze9 := R_f_M_keepsAct_0 (d + 4) Y T HA HB RA RB ST NS I0 I1 I2 BO FI RG GU PU MA_2 MN MS_4 OT SC r0 r1 r2 r3 w r5 r6 r7 r8 L Lg zh8
        suffices e : Ev (d + 5, 0, 0, 138, 48, [.val (.ref 1088), .val (.int p1), .val (.int p2), .val (.int p3), .val a_unk], [], (126, 120, L, [Y, T, HA, HB, RA, RB, ST, NS, I0, I1, I2, BO, FI, RG, GU, PU, MA_5, MN, MS_4, OT, SC], [r0, r1, r2, r3, w, r5, r6, r7, r8], Lg)) o from ev_call (fun v μ => (d + 5, 0, 0, 138, 48, [.val (.ref 1088), .val (.int p1), .val (.int p2), .val (.int p3), .val a_unk], v.toList ++ [], μ)) 2 ze9 e (fun n => Eq.refl _)
        obtain ⟨MA_13, zh11, h⟩ := bnd h
        suffices e : Ev (d + 5, 0, 0, 138, 51, [.val (.ref 1088), .val (.int p1), .val (.int p2), .val (.int p3), .val (.int 0)], [], (126, 120, L, [Y, T, HA, HB, RA, RB, ST, NS, I0, I1, I2, BO, FI, RG, GU, PU, MA_5, MN, MS_4, OT, SC], [r0, r1, r2, r3, w, r5, r6, r7, r8], Lg)) o from ev_b 2 e (fun n => Eq.refl _)
        refine ev_loop (δ := Unit) (fun a j => (d + 5, 0, 0, 138, 51, [.val (.ref 1088), .val (.int p1), .val (.int p2), .val (.int p3), .val (.int a.1)], [], (126, 120, L, [Y, T, HA, HB, RA, RB, ST, NS, I0, I1, I2, BO, FI, RG, GU, PU, a.2, MN, MS_4, OT, SC], [r0, r1, r2, r3, w, r5, r6, r7, r8], Lg))) (fun b => ∀ s12 : Value, Ev (d + 5, 0, 0, 138, 96, [.val (.ref 1088), .val (.int p1), .val (.int p2), .val (.int p3), .val s12], [], (126, 120, L, [Y, T, HA, HB, RA, RB, ST, NS, I0, I1, I2, BO, FI, RG, GU, PU, b, MN, MS_4, OT, SC], [r0, r1, r2, r3, w, r5, r6, r7, r8], Lg)) o) ?_ a_F (0, MA_5) MA_13 zh11 ?_ ()
        · rintro ⟨v6, MA_7⟩ zr15 zh14 zi12 zx13 ⟨⟩
          have zh14 : f_M_push_l51 MS_4 v6 MA_7 = some zr15 := zh14
          by_cases zc16 : (MA_7 0 26) ≤ v6
          · have zh14 := itp zh14 zc16
            suffices e : Ev (d + 5, 0, 0, 138, 96, [.val (.ref 1088), .val (.int p1), .val (.int p2), .val (.int p3), .val (.int v6)], [], (126, 120, L, [Y, T, HA, HB, RA, RB, ST, NS, I0, I1, I2, BO, FI, RG, GU, PU, MA_7, MN, MS_4, OT, SC], [r0, r1, r2, r3, w, r5, r6, r7, r8], Lg)) o from ev_t (c := (MA_7 0 26) ≤ v6) _ _ 4  zc16 e (fun n => Eq.refl _)
            exact ev_b 0 (zx13 _ (Option.some.inj zh14).symm (.int v6)) (fun n => Eq.refl _)
          · have zh14 := itn zh14 zc16
            suffices e : Ev (d + 5, 0, 0, 138, 60, [.val (.ref 1088), .val (.int p1), .val (.int p2), .val (.int p3), .val (.int v6)], [], (126, 120, L, [Y, T, HA, HB, RA, RB, ST, NS, I0, I1, I2, BO, FI, RG, GU, PU, MA_7, MN, MS_4, OT, SC], [r0, r1, r2, r3, w, r5, r6, r7, r8], Lg)) o from ev_f (c := (MA_7 0 26) ≤ v6) _ _ 4  zc16 e (fun n => Eq.refl _)
            obtain ⟨x8, zh17, zh14⟩ := bnd zh14
            have zh17 : rdx (MS_4 4) 10 v6 = some x8 := zh17
            suffices e : Ev (d + 5, 0, 0, 138, 67, [.val (.ref 1088), .val (.int p1), .val (.int p2), .val (.int p3), .val (.int v6)], [.int x8], (126, 120, L, [Y, T, HA, HB, RA, RB, ST, NS, I0, I1, I2, BO, FI, RG, GU, PU, MA_7, MN, MS_4, OT, SC], [r0, r1, r2, r3, w, r5, r6, r7, r8], Lg)) o from ev_opt (fun x8 => (d + 5, 0, 0, 138, 67, [.val (.ref 1088), .val (.int p1), .val (.int p2), .val (.int p3), .val (.int v6)], [.int x8], (126, 120, L, [Y, T, HA, HB, RA, RB, ST, NS, I0, I1, I2, BO, FI, RG, GU, PU, MA_7, MN, MS_4, OT, SC], [r0, r1, r2, r3, w, r5, r6, r7, r8], Lg))) 4 zh17 e (fun n => Eq.refl _)
            obtain ⟨x9, zh18, zh14⟩ := bnd zh14
            have zh18 : rdx (MA_7 7) 10 v6 = some x9 := zh18
            suffices e : Ev (d + 5, 0, 0, 138, 74, [.val (.ref 1088), .val (.int p1), .val (.int p2), .val (.int p3), .val (.int v6)], [.int x9, .int x8], (126, 120, L, [Y, T, HA, HB, RA, RB, ST, NS, I0, I1, I2, BO, FI, RG, GU, PU, MA_7, MN, MS_4, OT, SC], [r0, r1, r2, r3, w, r5, r6, r7, r8], Lg)) o from ev_opt (fun x9 => (d + 5, 0, 0, 138, 74, [.val (.ref 1088), .val (.int p1), .val (.int p2), .val (.int p3), .val (.int v6)], [.int x9, .int x8], (126, 120, L, [Y, T, HA, HB, RA, RB, ST, NS, I0, I1, I2, BO, FI, RG, GU, PU, MA_7, MN, MS_4, OT, SC], [r0, r1, r2, r3, w, r5, r6, r7, r8], Lg))) 4 zh18 e (fun n => Eq.refl _)
            by_cases zc19 : x8 = x9
            · have zh14 := itp zh14 zc19
              suffices e : Ev (d + 5, 0, 0, 138, 90, [.val (.ref 1088), .val (.int p1), .val (.int p2), .val (.int p3), .val (.int v6)], [], (126, 120, L, [Y, T, HA, HB, RA, RB, ST, NS, I0, I1, I2, BO, FI, RG, GU, PU, MA_7, MN, MS_4, OT, SC], [r0, r1, r2, r3, w, r5, r6, r7, r8], Lg)) o from ev_t (c := x8 = x9) _ _ 1  zc19 e (fun n => Eq.refl _)
              exact ev_b 2 (zi12 _ (Option.some.inj zh14).symm ()) (fun n => Eq.refl _)
            · have zh14 := itn zh14 zc19
              suffices e : Ev (d + 5, 0, 0, 138, 77, [.val (.ref 1088), .val (.int p1), .val (.int p2), .val (.int p3), .val (.int v6)], [], (126, 120, L, [Y, T, HA, HB, RA, RB, ST, NS, I0, I1, I2, BO, FI, RG, GU, PU, MA_7, MN, MS_4, OT, SC], [r0, r1, r2, r3, w, r5, r6, r7, r8], Lg)) o from ev_f (c := x8 = x9) _ _ 1  zc19 e (fun n => Eq.refl _)
              obtain ⟨x10, zh20, zh14⟩ := bnd zh14
              have zh20 : rdx (MS_4 4) 10 v6 = some x10 := zh20
              suffices e : Ev (d + 5, 0, 0, 138, 87, [.val (.ref 1088), .val (.int p1), .val (.int p2), .val (.int p3), .val (.int v6)], [.int x10, .int v6, .ref 1088], (126, 120, L, [Y, T, HA, HB, RA, RB, ST, NS, I0, I1, I2, BO, FI, RG, GU, PU, MA_7, MN, MS_4, OT, SC], [r0, r1, r2, r3, w, r5, r6, r7, r8], Lg)) o from ev_opt (fun x10 => (d + 5, 0, 0, 138, 87, [.val (.ref 1088), .val (.int p1), .val (.int p2), .val (.int p3), .val (.int v6)], [.int x10, .int v6, .ref 1088], (126, 120, L, [Y, T, HA, HB, RA, RB, ST, NS, I0, I1, I2, BO, FI, RG, GU, PU, MA_7, MN, MS_4, OT, SC], [r0, r1, r2, r3, w, r5, r6, r7, r8], Lg))) 6 zh20 e (fun n => Eq.refl _)
              obtain ⟨MA_11, zh21, zh14⟩ := bnd zh14
              have zh21 : f_M_goesTo MA_7 v6 x10 = some MA_11 := zh21
              have ze22 := R_f_M_goesTo_0 (d + 4) Y T HA HB RA RB ST NS I0 I1 I2 BO FI RG GU PU MA_7 MN MS_4 OT SC r0 r1 r2 r3 w r5 r6 r7 r8 L Lg v6 x10 zh21
              suffices e : Ev (d + 5, 0, 0, 138, 90, [.val (.ref 1088), .val (.int p1), .val (.int p2), .val (.int p3), .val (.int v6)], [], (126, 120, L, [Y, T, HA, HB, RA, RB, ST, NS, I0, I1, I2, BO, FI, RG, GU, PU, MA_11, MN, MS_4, OT, SC], [r0, r1, r2, r3, w, r5, r6, r7, r8], Lg)) o from ev_call (fun v μ => (d + 5, 0, 0, 138, 90, [.val (.ref 1088), .val (.int p1), .val (.int p2), .val (.int p3), .val (.int v6)], v.toList ++ [], μ)) 1 ze22 e (fun n => Eq.refl _)
              exact ev_b 2 (zi12 _ (Option.some.inj zh14).symm ()) (fun n => Eq.refl _)
        · skip
          intro s12
          have ze23 := Option.some.inj h
          subst ze23
          exact ev_rete 3 ho (fun n => Eq.refl _)
      · have h := itn h zc7
        suffices e : Ev (d + 5, 0, 0, 138, 42, [.val (.ref 1088), .val (.int p1), .val (.int p2), .val (.int p3), .val a_unk], [], (126, 120, L, [Y, T, HA, HB, RA, RB, ST, NS, I0, I1, I2, BO, FI, RG, GU, PU, MA_2, MN, MS_4, OT, SC], [r0, r1, r2, r3, w, r5, r6, r7, r8], Lg)) o from ev_f (c := x3 ≠ 0) _ _ 1  zc7 e (fun n => Eq.refl _)
        have ze24 := Option.some.inj h
        subst ze24
        exact ev_rete 2 ho (fun n => Eq.refl _)
    · have h := itn h zc4
      suffices e : Ev (d + 5, 0, 0, 138, 26, [.val (.ref 1088), .val (.int p1), .val (.int p2), .val (.int p3), .val a_unk], [], (126, 120, L, [Y, T, HA, HB, RA, RB, ST, NS, I0, I1, I2, BO, FI, RG, GU, PU, MA_2, MN, MS, OT, SC], [r0, r1, r2, r3, w, r5, r6, r7, r8], Lg)) o from ev_f (c := (MA_2 0 43) ≠ 30) _ _ 4  zc4 e (fun n => Eq.refl _)
      have ze25 := Option.some.inj h
      subst ze25
      exact ev_rete 2 ho (fun n => Eq.refl _)
  · have h := itn h zc3
    suffices e : Ev (d + 5, 0, 0, 138, 15, [.val (.ref 1088), .val (.int p1), .val (.int p2), .val (.int p3), .val a_unk], [], (126, 120, L, [Y, T, HA, HB, RA, RB, ST, NS, I0, I1, I2, BO, FI, RG, GU, PU, MA_2, MN, MS, OT, SC], [r0, r1, r2, r3, w, r5, r6, r7, r8], Lg)) o from ev_f (c := x1 ≠ 0) _ _ 1  zc3 e (fun n => Eq.refl _)
    have ze26 := Option.some.inj h
    subst ze26
    exact ev_rete 2 ho (fun n => Eq.refl _)
set_option maxRecDepth 1000000 in
set_option maxHeartbeats 4000000 in
theorem R_f_M_draws_0 (d : Nat) (Y T HA HB RA RB ST NS I0 I1 I2 BO FI RG GU PU MA MN MS OT SC : Nat → Nat → Int32) (r0 r1 r2 r3 w r5 r6 r7 r8 : Nat) (L : Nat) (Lg : Int64) (p1 : Int32) {r : Int32 × (Nat → Nat → Int32)} (h : f_M_draws MS p1 = some r) : Ev (d + 0, 0, 0, 139, 0, [.val (.ref 1088), .val (.int p1)], [], (126, 120, L, [Y, T, HA, HB, RA, RB, ST, NS, I0, I1, I2, BO, FI, RG, GU, PU, MA, MN, MS, OT, SC], [r0, r1, r2, r3, w, r5, r6, r7, r8], Lg)) ((0, some (.int r.1), (126, 120, L, [Y, T, HA, HB, RA, RB, ST, NS, I0, I1, I2, BO, FI, RG, GU, PU, MA, MN, r.2, OT, SC], [r0, r1, r2, r3, w, r5, r6, r7, r8], Lg)) : AOut) := by
  suffices key : ∀ o : AOut, ((0, some (.int r.1), (126, 120, L, [Y, T, HA, HB, RA, RB, ST, NS, I0, I1, I2, BO, FI, RG, GU, PU, MA, MN, r.2, OT, SC], [r0, r1, r2, r3, w, r5, r6, r7, r8], Lg)) : AOut) = o → Ev (d + 0, 0, 0, 139, 0, [.val (.ref 1088), .val (.int p1)], [], (126, 120, L, [Y, T, HA, HB, RA, RB, ST, NS, I0, I1, I2, BO, FI, RG, GU, PU, MA, MN, MS, OT, SC], [r0, r1, r2, r3, w, r5, r6, r7, r8], Lg)) o from key _ rfl
  intro o ho
  by_cases zc1 : p1 = 0
  · exact nos (itp h zc1)
  have h := itn h zc1
  suffices e : Ev (d + 0, 0, 0, 139, 29, [.val (.ref 1088), .val (.int p1)], [.int (a_rem ((a_shr ((u2 MS 0 59 (((MS 0 59) * 1103515245) + 12345)) 0 59) 16) &&& 32767) p1)], (126, 120, L, [Y, T, HA, HB, RA, RB, ST, NS, I0, I1, I2, BO, FI, RG, GU, PU, MA, MN, (u2 MS 0 59 (((MS 0 59) * 1103515245) + 12345)), OT, SC], [r0, r1, r2, r3, w, r5, r6, r7, r8], Lg)) o from ev_d (c := p1 = 0) _ 16 zc1 e (fun n => Eq.refl _)
  have ze2 := Option.some.inj h
  subst ze2
  exact ev_rete 1 ho (fun n => Eq.refl _)
set_option maxRecDepth 1000000 in
set_option maxHeartbeats 4000000 in
theorem R_f_M_isMovedBy_0 (d : Nat) (Y T HA HB RA RB ST NS I0 I1 I2 BO FI RG GU PU MA MN MS OT SC : Nat → Nat → Int32) (r0 r1 r2 r3 w r5 r6 r7 r8 : Nat) (L : Nat) (Lg : Int64) (p1 : Int32) (p2 : Int32) {r : Int32 × (Nat → Nat → Int32)} (h : f_M_isMovedBy MA p1 p2 = some r) : Ev (d + 3, 0, 0, 140, 0, [.val (.ref 1088), .val (.int p1), .val (.int p2), .val a_unk], [], (126, 120, L, [Y, T, HA, HB, RA, RB, ST, NS, I0, I1, I2, BO, FI, RG, GU, PU, MA, MN, MS, OT, SC], [r0, r1, r2, r3, w, r5, r6, r7, r8], Lg)) ((0, some (.int r.1), (126, 120, L, [Y, T, HA, HB, RA, RB, ST, NS, I0, I1, I2, BO, FI, RG, GU, PU, r.2, MN, MS, OT, SC], [r0, r1, r2, r3, w, r5, r6, r7, r8], Lg)) : AOut) := by
  suffices key : ∀ o : AOut, ((0, some (.int r.1), (126, 120, L, [Y, T, HA, HB, RA, RB, ST, NS, I0, I1, I2, BO, FI, RG, GU, PU, r.2, MN, MS, OT, SC], [r0, r1, r2, r3, w, r5, r6, r7, r8], Lg)) : AOut) = o → Ev (d + 3, 0, 0, 140, 0, [.val (.ref 1088), .val (.int p1), .val (.int p2), .val a_unk], [], (126, 120, L, [Y, T, HA, HB, RA, RB, ST, NS, I0, I1, I2, BO, FI, RG, GU, PU, MA, MN, MS, OT, SC], [r0, r1, r2, r3, w, r5, r6, r7, r8], Lg)) o from key _ rfl
  intro o ho
  obtain ⟨x1, zh1, h⟩ := bnd h
  have zh1 : f_M_isFixed MA p1 = some x1 := zh1
  have ze2 := R_f_M_isFixed_0 (d + 2) Y T HA HB RA RB ST NS I0 I1 I2 BO FI RG GU PU MA MN MS OT SC r0 r1 r2 r3 w r5 r6 r7 r8 L Lg p1 zh1
  suffices e : Ev (d + 3, 0, 0, 140, 5, [.val (.ref 1088), .val (.int p1), .val (.int p2), .val a_unk], [.int x1], (126, 120, L, [Y, T, HA, HB, RA, RB, ST, NS, I0, I1, I2, BO, FI, RG, GU, PU, MA, MN, MS, OT, SC], [r0, r1, r2, r3, w, r5, r6, r7, r8], Lg)) o from ev_call (fun v μ => (d + 3, 0, 0, 140, 5, [.val (.ref 1088), .val (.int p1), .val (.int p2), .val a_unk], v.toList ++ [], μ)) 3 ze2 e (fun n => Eq.refl _)
  by_cases zc3 : x1 ≠ 0
  · have h := itp h zc3
    suffices e : Ev (d + 3, 0, 0, 140, 30, [.val (.ref 1088), .val (.int p1), .val (.int p2), .val a_unk], [], (126, 120, L, [Y, T, HA, HB, RA, RB, ST, NS, I0, I1, I2, BO, FI, RG, GU, PU, MA, MN, MS, OT, SC], [r0, r1, r2, r3, w, r5, r6, r7, r8], Lg)) o from ev_t (c := x1 ≠ 0) _ _ 1  zc3 e (fun n => Eq.refl _)
    have ze4 := Option.some.inj h
    subst ze4
    exact ev_rete 2 ho (fun n => Eq.refl _)
  · have h := itn h zc3
    suffices e : Ev (d + 3, 0, 0, 140, 8, [.val (.ref 1088), .val (.int p1), .val (.int p2), .val a_unk], [], (126, 120, L, [Y, T, HA, HB, RA, RB, ST, NS, I0, I1, I2, BO, FI, RG, GU, PU, MA, MN, MS, OT, SC], [r0, r1, r2, r3, w, r5, r6, r7, r8], Lg)) o from ev_f (c := x1 ≠ 0) _ _ 1  zc3 e (fun n => Eq.refl _)
    obtain ⟨x2, zh5, h⟩ := bnd h
    have zh5 : rdx (MA 7) 10 p1 = some x2 := zh5
    suffices e : Ev (d + 3, 0, 0, 140, 14, [.val (.ref 1088), .val (.int p1), .val (.int p2), .val a_unk], [.int x2], (126, 120, L, [Y, T, HA, HB, RA, RB, ST, NS, I0, I1, I2, BO, FI, RG, GU, PU, MA, MN, MS, OT, SC], [r0, r1, r2, r3, w, r5, r6, r7, r8], Lg)) o from ev_opt (fun x2 => (d + 3, 0, 0, 140, 14, [.val (.ref 1088), .val (.int p1), .val (.int p2), .val a_unk], [.int x2], (126, 120, L, [Y, T, HA, HB, RA, RB, ST, NS, I0, I1, I2, BO, FI, RG, GU, PU, MA, MN, MS, OT, SC], [r0, r1, r2, r3, w, r5, r6, r7, r8], Lg))) 4 zh5 e (fun n => Eq.refl _)
    by_cases zc6 : x2 = (-1)
    · have h := itp h zc6
      suffices e : Ev (d + 3, 0, 0, 140, 30, [.val (.ref 1088), .val (.int p1), .val (.int p2), .val a_unk], [], (126, 120, L, [Y, T, HA, HB, RA, RB, ST, NS, I0, I1, I2, BO, FI, RG, GU, PU, MA, MN, MS, OT, SC], [r0, r1, r2, r3, w, r5, r6, r7, r8], Lg)) o from ev_t (c := x2 = (-1)) _ _ 2  zc6 e (fun n => Eq.refl _)
      have ze7 := Option.some.inj h
      subst ze7
      exact ev_rete 2 ho (fun n => Eq.refl _)
    · have h := itn h zc6
      suffices e : Ev (d + 3, 0, 0, 140, 18, [.val (.ref 1088), .val (.int p1), .val (.int p2), .val a_unk], [], (126, 120, L, [Y, T, HA, HB, RA, RB, ST, NS, I0, I1, I2, BO, FI, RG, GU, PU, MA, MN, MS, OT, SC], [r0, r1, r2, r3, w, r5, r6, r7, r8], Lg)) o from ev_f (c := x2 = (-1)) _ _ 2  zc6 e (fun n => Eq.refl _)
      obtain ⟨x3, zh8, h⟩ := bnd h
      have zh8 : rdx (MA 7) 10 p1 = some x3 := zh8
      suffices e : Ev (d + 3, 0, 0, 140, 24, [.val (.ref 1088), .val (.int p1), .val (.int p2), .val a_unk], [.int x3], (126, 120, L, [Y, T, HA, HB, RA, RB, ST, NS, I0, I1, I2, BO, FI, RG, GU, PU, MA, MN, MS, OT, SC], [r0, r1, r2, r3, w, r5, r6, r7, r8], Lg)) o from ev_opt (fun x3 => (d + 3, 0, 0, 140, 24, [.val (.ref 1088), .val (.int p1), .val (.int p2), .val a_unk], [.int x3], (126, 120, L, [Y, T, HA, HB, RA, RB, ST, NS, I0, I1, I2, BO, FI, RG, GU, PU, MA, MN, MS, OT, SC], [r0, r1, r2, r3, w, r5, r6, r7, r8], Lg))) 4 zh8 e (fun n => Eq.refl _)
      suffices e : Ev (d + 3, 0, 0, 140, 26, [.val (.ref 1088), .val (.int p1), .val (.int p2), .val a_unk], [.int (x3 / 3)], (126, 120, L, [Y, T, HA, HB, RA, RB, ST, NS, I0, I1, I2, BO, FI, RG, GU, PU, MA, MN, MS, OT, SC], [r0, r1, r2, r3, w, r5, r6, r7, r8], Lg)) o from ev_b 2 e (fun n => Eq.refl _)
      by_cases zc9 : (x3 / 3) ≠ p2
      · have h := itp h zc9
        suffices e : Ev (d + 3, 0, 0, 140, 32, [.val (.ref 1088), .val (.int p1), .val (.int p2), .val a_unk], [], (126, 120, L, [Y, T, HA, HB, RA, RB, ST, NS, I0, I1, I2, BO, FI, RG, GU, PU, MA, MN, MS, OT, SC], [r0, r1, r2, r3, w, r5, r6, r7, r8], Lg)) o from ev_t (c := (x3 / 3) ≠ p2) _ _ 2  zc9 e (fun n => Eq.refl _)
        obtain ⟨zb10, zh11, h⟩ := bnd h
        suffices e : Ev (d + 3, 0, 0, 140, 34, [.val (.ref 1088), .val (.int p1), .val (.int p2), .val (.int 0)], [], (126, 120, L, [Y, T, HA, HB, RA, RB, ST, NS, I0, I1, I2, BO, FI, RG, GU, PU, MA, MN, MS, OT, SC], [r0, r1, r2, r3, w, r5, r6, r7, r8], Lg)) o from ev_b 2 e (fun n => Eq.refl _)
        refine ev_loop (δ := Unit) (fun a j => (d + 3, 0, 0, 140, 34, [.val (.ref 1088), .val (.int p1), .val (.int p2), .val (.int a.1)], [], (126, 120, L, [Y, T, HA, HB, RA, RB, ST, NS, I0, I1, I2, BO, FI, RG, GU, PU, a.2, MN, MS, OT, SC], [r0, r1, r2, r3, w, r5, r6, r7, r8], Lg))) (fun b => sumE b (fun b => ∀ s8 : Value, Ev (d + 3, 0, 0, 140, 80, [.val (.ref 1088), .val (.int p1), .val (.int p2), .val s8], [], (126, 120, L, [Y, T, HA, HB, RA, RB, ST, NS, I0, I1, I2, BO, FI, RG, GU, PU, b, MN, MS, OT, SC], [r0, r1, r2, r3, w, r5, r6, r7, r8], Lg)) o) (fun b => ((0, some (.int b.1), (126, 120, L, [Y, T, HA, HB, RA, RB, ST, NS, I0, I1, I2, BO, FI, RG, GU, PU, b.2, MN, MS, OT, SC], [r0, r1, r2, r3, w, r5, r6, r7, r8], Lg)) : AOut) = o)) ?_ a_F (0, MA) zb10 zh11 ?_ ()
        · rintro ⟨v4, MA_5⟩ zr15 zh14 zi12 zx13 ⟨⟩
          have zh14 : f_M_isMovedBy_l34 p1 p2 v4 MA_5 = some zr15 := zh14
          by_cases zc16 : (MA_5 0 24) ≤ v4
          · have zh14 := itp zh14 zc16
            suffices e : Ev (d + 3, 0, 0, 140, 80, [.val (.ref 1088), .val (.int p1), .val (.int p2), .val (.int v4)], [], (126, 120, L, [Y, T, HA, HB, RA, RB, ST, NS, I0, I1, I2, BO, FI, RG, GU, PU, MA_5, MN, MS, OT, SC], [r0, r1, r2, r3, w, r5, r6, r7, r8], Lg)) o from ev_t (c := (MA_5 0 24) ≤ v4) _ _ 4  zc16 e (fun n => Eq.refl _)
            exact ev_b 0 (zx13 _ (Option.some.inj zh14).symm (.int v4)) (fun n => Eq.refl _)
          · have zh14 := itn zh14 zc16
            suffices e : Ev (d + 3, 0, 0, 140, 42, [.val (.ref 1088), .val (.int p1), .val (.int p2), .val (.int v4)], [], (126, 120, L, [Y, T, HA, HB, RA, RB, ST, NS, I0, I1, I2, BO, FI, RG, GU, PU, MA_5, MN, MS, OT, SC], [r0, r1, r2, r3, w, r5, r6, r7, r8], Lg)) o from ev_f (c := (MA_5 0 24) ≤ v4) _ _ 4  zc16 e (fun n => Eq.refl _)
            obtain ⟨x6, zh17, zh14⟩ := bnd zh14
            have zh17 : f_M_clashOf MA_5 p1 ((3 * p2) + v4) (MA_5 7) = some x6 := zh17
            have ze18 := R_f_M_clashOf_0 (d + 0) Y T HA HB RA RB ST NS I0 I1 I2 BO FI RG GU PU MA_5 MN MS OT SC r0 r1 r2 r3 w r5 r6 r7 r8 L Lg p1 ((3 * p2) + v4) zh17
            suffices e : Ev (d + 3, 0, 0, 140, 56, [.val (.ref 1088), .val (.int p1), .val (.int p2), .val (.int v4)], [.int x6], (126, 120, L, [Y, T, HA, HB, RA, RB, ST, NS, I0, I1, I2, BO, FI, RG, GU, PU, MA_5, MN, MS, OT, SC], [r0, r1, r2, r3, w, r5, r6, r7, r8], Lg)) o from ev_call (fun v μ => (d + 3, 0, 0, 140, 56, [.val (.ref 1088), .val (.int p1), .val (.int p2), .val (.int v4)], v.toList ++ [], μ)) 10 ze18 e (fun n => Eq.refl _)
            by_cases zc19 : x6 = 0
            · have zh14 := itp zh14 zc19
              suffices e : Ev (d + 3, 0, 0, 140, 62, [.val (.ref 1088), .val (.int p1), .val (.int p2), .val (.int v4)], [], (126, 120, L, [Y, T, HA, HB, RA, RB, ST, NS, I0, I1, I2, BO, FI, RG, GU, PU, MA_5, MN, MS, OT, SC], [r0, r1, r2, r3, w, r5, r6, r7, r8], Lg)) o from ev_t (c := x6 = 0) _ _ 1  zc19 e (fun n => Eq.refl _)
              obtain ⟨MA_7, zh20, zh14⟩ := bnd zh14
              have zh20 : f_M_goesTo MA_5 p1 ((3 * p2) + v4) = some MA_7 := zh20
              have ze21 := R_f_M_goesTo_0 (d + 2) Y T HA HB RA RB ST NS I0 I1 I2 BO FI RG GU PU MA_5 MN MS OT SC r0 r1 r2 r3 w r5 r6 r7 r8 L Lg p1 ((3 * p2) + v4) zh20
              suffices e : Ev (d + 3, 0, 0, 140, 72, [.val (.ref 1088), .val (.int p1), .val (.int p2), .val (.int v4)], [], (126, 120, L, [Y, T, HA, HB, RA, RB, ST, NS, I0, I1, I2, BO, FI, RG, GU, PU, MA_7, MN, MS, OT, SC], [r0, r1, r2, r3, w, r5, r6, r7, r8], Lg)) o from ev_call (fun v μ => (d + 3, 0, 0, 140, 72, [.val (.ref 1088), .val (.int p1), .val (.int p2), .val (.int v4)], v.toList ++ [], μ)) 8 ze21 e (fun n => Eq.refl _)
              exact ev_rete 2 (zx13 _ (Option.some.inj zh14).symm) (fun n => Eq.refl _)
            · have zh14 := itn zh14 zc19
              suffices e : Ev (d + 3, 0, 0, 140, 59, [.val (.ref 1088), .val (.int p1), .val (.int p2), .val (.int v4)], [], (126, 120, L, [Y, T, HA, HB, RA, RB, ST, NS, I0, I1, I2, BO, FI, RG, GU, PU, MA_5, MN, MS, OT, SC], [r0, r1, r2, r3, w, r5, r6, r7, r8], Lg)) o from ev_f (c := x6 = 0) _ _ 1  zc19 e (fun n => Eq.refl _)
              exact ev_b 3 (zi12 _ (Option.some.inj zh14).symm ()) (fun n => Eq.refl _)
        · rcases zb10 with MA_9 | zr15
          · intro s8
            have ze22 := Option.some.inj h
            subst ze22
            exact ev_rete 2 ho (fun n => Eq.refl _)
          · have zh23 : some zr15 = some r := h
            exact (congrArg (fun q => ((0, some (.int q.1), (126, 120, L, [Y, T, HA, HB, RA, RB, ST, NS, I0, I1, I2, BO, FI, RG, GU, PU, q.2, MN, MS, OT, SC], [r0, r1, r2, r3, w, r5, r6, r7, r8], Lg)) : AOut)) (Option.some.inj zh23)).trans ho
      · have h := itn h zc9
        suffices e : Ev (d + 3, 0, 0, 140, 30, [.val (.ref 1088), .val (.int p1), .val (.int p2), .val a_unk], [], (126, 120, L, [Y, T, HA, HB, RA, RB, ST, NS, I0, I1, I2, BO, FI, RG, GU, PU, MA, MN, MS, OT, SC], [r0, r1, r2, r3, w, r5, r6, r7, r8], Lg)) o from ev_f (c := (x3 / 3) ≠ p2) _ _ 2  zc9 e (fun n => Eq.refl _)
        have ze25 := Option.some.inj h
        subst ze25
        exact ev_rete 2 ho (fun n => Eq.refl _)
set_option maxRecDepth 1000000 in
set_option maxHeartbeats 4000000 in
theorem R_f_M_weekGoes_0 (d : Nat) (Y T HA HB RA RB ST NS I0 I1 I2 BO FI RG GU PU MA MN MS OT SC : Nat → Nat → Int32) (r0 r1 r2 r3 w r5 r6 r7 r8 : Nat) (L : Nat) (Lg : Int64) (p1 : Int32) (p2 : Int32) {r : (Nat → Nat → Int32) × (Nat → Nat → Int32)} (h : f_M_weekGoes MA MS p1 p2 = some r) : Ev (d + 4, 0, 0, 141, 0, [.val (.ref 1088), .val (.int p1), .val (.int p2), .val a_unk, .val a_unk, .val a_unk, .val a_unk, .val a_unk], [], (126, 120, L, [Y, T, HA, HB, RA, RB, ST, NS, I0, I1, I2, BO, FI, RG, GU, PU, MA, MN, MS, OT, SC], [r0, r1, r2, r3, w, r5, r6, r7, r8], Lg)) ((0, none, (126, 120, L, [Y, T, HA, HB, RA, RB, ST, NS, I0, I1, I2, BO, FI, RG, GU, PU, r.1, MN, r.2, OT, SC], [r0, r1, r2, r3, w, r5, r6, r7, r8], Lg)) : AOut) := by
  suffices key : ∀ o : AOut, ((0, none, (126, 120, L, [Y, T, HA, HB, RA, RB, ST, NS, I0, I1, I2, BO, FI, RG, GU, PU, r.1, MN, r.2, OT, SC], [r0, r1, r2, r3, w, r5, r6, r7, r8], Lg)) : AOut) = o → Ev (d + 4, 0, 0, 141, 0, [.val (.ref 1088), .val (.int p1), .val (.int p2), .val a_unk, .val a_unk, .val a_unk, .val a_unk, .val a_unk], [], (126, 120, L, [Y, T, HA, HB, RA, RB, ST, NS, I0, I1, I2, BO, FI, RG, GU, PU, MA, MN, MS, OT, SC], [r0, r1, r2, r3, w, r5, r6, r7, r8], Lg)) o from key _ rfl
  intro o ho
  obtain ⟨zb1, zh2, h⟩ := bnd h
  suffices e : Ev (d + 4, 0, 0, 141, 20, [.val (.ref 1088), .val (.int p1), .val (.int p2), .val (.int 0), .val (.int 0), .val a_unk, .val a_unk, .val a_unk], [], (126, 120, L, [Y, T, HA, HB, RA, RB, ST, NS, I0, I1, I2, BO, FI, RG, GU, PU, MA, MN, (u2 (u2 (u2 MS 0 59 p1) 0 60 0) 0 61 0), OT, SC], [r0, r1, r2, r3, w, r5, r6, r7, r8], Lg)) o from ev_b 13 e (fun n => Eq.refl _)
  refine ev_loop (δ := Value × Value × Value) (fun a j => (d + 4, 0, 0, 141, 20, [.val (.ref 1088), .val (.int p1), .val (.int p2), .val (.int a.1), .val (.int a.2.1), .val j.1, .val j.2.1, .val j.2.2], [], (126, 120, L, [Y, T, HA, HB, RA, RB, ST, NS, I0, I1, I2, BO, FI, RG, GU, PU, a.2.2.1, MN, a.2.2.2, OT, SC], [r0, r1, r2, r3, w, r5, r6, r7, r8], Lg))) (fun b => ∀ s22 : Value, ∀ s23 : Value, ∀ s24 : Value, ∀ s25 : Value, ∀ s26 : Value, Ev (d + 4, 0, 0, 141, 124, [.val (.ref 1088), .val (.int p1), .val (.int p2), .val s22, .val s23, .val s24, .val s25, .val s26], [], (126, 120, L, [Y, T, HA, HB, RA, RB, ST, NS, I0, I1, I2, BO, FI, RG, GU, PU, b.1, MN, b.2, OT, SC], [r0, r1, r2, r3, w, r5, r6, r7, r8], Lg)) o) ?_ a_F (0, 0, MA, (u2 (u2 (u2 MS 0 59 p1) 0 60 0) 0 61 0)) zb1 zh2 ?_ (a_unk, a_unk, a_unk)
  · rintro ⟨v1, v2, MA_6, MS_7⟩ zr6 zh5 zi3 zx4 ⟨s3, s4, s5⟩
    have zh5 : f_M_weekGoes_l20 p2 v1 v2 MA_6 MS_7 = some zr6 := zh5
    by_cases zc7 : p2 ≤ v2
    · have zh5 := itp zh5 zc7
      suffices e : Ev (d + 4, 0, 0, 141, 124, [.val (.ref 1088), .val (.int p1), .val (.int p2), .val (.int v1), .val (.int v2), .val s3, .val s4, .val s5], [], (126, 120, L, [Y, T, HA, HB, RA, RB, ST, NS, I0, I1, I2, BO, FI, RG, GU, PU, MA_6, MN, MS_7, OT, SC], [r0, r1, r2, r3, w, r5, r6, r7, r8], Lg)) o from ev_t (c := p2 ≤ v2) _ _ 3  zc7 e (fun n => Eq.refl _)
      exact ev_b 0 (zx4 _ (Option.some.inj zh5).symm (.int v1) (.int v2) s3 s4 s5) (fun n => Eq.refl _)
    · have zh5 := itn zh5 zc7
      suffices e : Ev (d + 4, 0, 0, 141, 26, [.val (.ref 1088), .val (.int p1), .val (.int p2), .val (.int v1), .val (.int v2), .val s3, .val s4, .val s5], [], (126, 120, L, [Y, T, HA, HB, RA, RB, ST, NS, I0, I1, I2, BO, FI, RG, GU, PU, MA_6, MN, MS_7, OT, SC], [r0, r1, r2, r3, w, r5, r6, r7, r8], Lg)) o from ev_f (c := p2 ≤ v2) _ _ 3  zc7 e (fun n => Eq.refl _)
      obtain ⟨zt8, zh9, zh5⟩ := bnd zh5
      have zj10 : ∀ (v14 : Int32) (MA_17 : (Nat → Nat → Int32)) (MS_18 : (Nat → Nat → Int32)), (v14, MA_17, MS_18) = zt8 → ∀ s15 : Value, ∀ s16 : Value, Ev (d + 4, 0, 0, 141, 66, [.val (.ref 1088), .val (.int p1), .val (.int p2), .val (.int v1), .val (.int v2), .val (.int v14), .val s15, .val s16], [], (126, 120, L, [Y, T, HA, HB, RA, RB, ST, NS, I0, I1, I2, BO, FI, RG, GU, PU, MA_17, MN, MS_18, OT, SC], [r0, r1, r2, r3, w, r5, r6, r7, r8], Lg)) o := by
        intro v14 MA_17 MS_18 ze11 s15 s16
        subst ze11
        obtain ⟨zt12, zh13, zh5⟩ := bnd zh5
        have zj14 : ∀ (v19 : Int32), v19 = zt12 → Ev (d + 4, 0, 0, 141, 81, [.val (.ref 1088), .val (.int p1), .val (.int p2), .val (.int v1), .val (.int v2), .val (.int v14), .val s15, .val s16], [.int v19, .int (MS_18 0 60), .ref 1088], (126, 120, L, [Y, T, HA, HB, RA, RB, ST, NS, I0, I1, I2, BO, FI, RG, GU, PU, MA_17, MN, MS_18, OT, SC], [r0, r1, r2, r3, w, r5, r6, r7, r8], Lg)) o := by
          intro v19 ze15
          subst ze15
          obtain ⟨zt16, zh17, zh5⟩ := bnd zh5
          have zj18 : ∀ (v20 : Int32), v20 = zt16 → Ev (d + 4, 0, 0, 141, 97, [.val (.ref 1088), .val (.int p1), .val (.int p2), .val (.int v1), .val (.int v2), .val (.int v14), .val s15, .val s16], [.int v20], (126, 120, L, [Y, T, HA, HB, RA, RB, ST, NS, I0, I1, I2, BO, FI, RG, GU, PU, MA_17, MN, (u2 MS_18 0 60 ((MS_18 0 60) + v19)), OT, SC], [r0, r1, r2, r3, w, r5, r6, r7, r8], Lg)) o := by
            intro v20 ze19
            subst ze19
            obtain ⟨zt20, zh21, zh5⟩ := bnd zh5
            have zj22 : ∀ (v21 : Int32), v21 = zt20 → Ev (d + 4, 0, 0, 141, 115, [.val (.ref 1088), .val (.int p1), .val (.int p2), .val (.int v20), .val (.int v2), .val (.int v14), .val s15, .val s16], [.int v21, .ref 1088], (126, 120, L, [Y, T, HA, HB, RA, RB, ST, NS, I0, I1, I2, BO, FI, RG, GU, PU, MA_17, MN, (u2 MS_18 0 60 ((MS_18 0 60) + v19)), OT, SC], [r0, r1, r2, r3, w, r5, r6, r7, r8], Lg)) o := by
              intro v21 ze23
              subst ze23
              exact ev_b 3 (zi3 _ (Option.some.inj zh5).symm ((.int v14), s15, s16)) (fun n => Eq.refl _)
            by_cases zc24 : v20 ≤ ((u2 MS_18 0 60 ((MS_18 0 60) + v19)) 0 61)
            · have zh21 := itp zh21 zc24
              suffices e : Ev (d + 4, 0, 0, 141, 111, [.val (.ref 1088), .val (.int p1), .val (.int p2), .val (.int v20), .val (.int v2), .val (.int v14), .val s15, .val s16], [.ref 1088], (126, 120, L, [Y, T, HA, HB, RA, RB, ST, NS, I0, I1, I2, BO, FI, RG, GU, PU, MA_17, MN, (u2 MS_18 0 60 ((MS_18 0 60) + v19)), OT, SC], [r0, r1, r2, r3, w, r5, r6, r7, r8], Lg)) o from ev_t (c := v20 ≤ ((u2 MS_18 0 60 ((MS_18 0 60) + v19)) 0 61)) _ _ 6  zc24 e (fun n => Eq.refl _)
              exact ev_b 2 (zj22 ((u2 MS_18 0 60 ((MS_18 0 60) + v19)) 0 61) (Option.some.inj zh21) ) (fun n => Eq.refl _)
            · have zh21 := itn zh21 zc24
              suffices e : Ev (d + 4, 0, 0, 141, 107, [.val (.ref 1088), .val (.int p1), .val (.int p2), .val (.int v20), .val (.int v2), .val (.int v14), .val s15, .val s16], [.ref 1088], (126, 120, L, [Y, T, HA, HB, RA, RB, ST, NS, I0, I1, I2, BO, FI, RG, GU, PU, MA_17, MN, (u2 MS_18 0 60 ((MS_18 0 60) + v19)), OT, SC], [r0, r1, r2, r3, w, r5, r6, r7, r8], Lg)) o from ev_f (c := v20 ≤ ((u2 MS_18 0 60 ((MS_18 0 60) + v19)) 0 61)) _ _ 6  zc24 e (fun n => Eq.refl _)
              exact ev_b 2 (zj22 v20 (Option.some.inj zh21) ) (fun n => Eq.refl _)
          by_cases zc25 : v14 = 0
          · have zh17 := itp zh17 zc25
            suffices e : Ev (d + 4, 0, 0, 141, 94, [.val (.ref 1088), .val (.int p1), .val (.int p2), .val (.int v1), .val (.int v2), .val (.int v14), .val s15, .val s16], [], (126, 120, L, [Y, T, HA, HB, RA, RB, ST, NS, I0, I1, I2, BO, FI, RG, GU, PU, MA_17, MN, (u2 MS_18 0 60 ((MS_18 0 60) + v19)), OT, SC], [r0, r1, r2, r3, w, r5, r6, r7, r8], Lg)) o from ev_t (c := v14 = 0) _ _ 4  zc25 e (fun n => Eq.refl _)
            exact ev_b 3 (zj18 (v1 + 1) (Option.some.inj zh17) ) (fun n => Eq.refl _)
          · have zh17 := itn zh17 zc25
            suffices e : Ev (d + 4, 0, 0, 141, 90, [.val (.ref 1088), .val (.int p1), .val (.int p2), .val (.int v1), .val (.int v2), .val (.int v14), .val s15, .val s16], [], (126, 120, L, [Y, T, HA, HB, RA, RB, ST, NS, I0, I1, I2, BO, FI, RG, GU, PU, MA_17, MN, (u2 MS_18 0 60 ((MS_18 0 60) + v19)), OT, SC], [r0, r1, r2, r3, w, r5, r6, r7, r8], Lg)) o from ev_f (c := v14 = 0) _ _ 4  zc25 e (fun n => Eq.refl _)
            exact ev_b 2 (zj18 0 (Option.some.inj zh17) ) (fun n => Eq.refl _)
        by_cases zc26 : v14 = 0
        · have zh13 := itp zh13 zc26
          suffices e : Ev (d + 4, 0, 0, 141, 80, [.val (.ref 1088), .val (.int p1), .val (.int p2), .val (.int v1), .val (.int v2), .val (.int v14), .val s15, .val s16], [.int (MS_18 0 60), .ref 1088], (126, 120, L, [Y, T, HA, HB, RA, RB, ST, NS, I0, I1, I2, BO, FI, RG, GU, PU, MA_17, MN, MS_18, OT, SC], [r0, r1, r2, r3, w, r5, r6, r7, r8], Lg)) o from ev_t (c := v14 = 0) _ _ 5  zc26 e (fun n => Eq.refl _)
          exact ev_b 1 (zj14 0 (Option.some.inj zh13) ) (fun n => Eq.refl _)
        · have zh13 := itn zh13 zc26
          suffices e : Ev (d + 4, 0, 0, 141, 76, [.val (.ref 1088), .val (.int p1), .val (.int p2), .val (.int v1), .val (.int v2), .val (.int v14), .val s15, .val s16], [.int (MS_18 0 60), .ref 1088], (126, 120, L, [Y, T, HA, HB, RA, RB, ST, NS, I0, I1, I2, BO, FI, RG, GU, PU, MA_17, MN, MS_18, OT, SC], [r0, r1, r2, r3, w, r5, r6, r7, r8], Lg)) o from ev_f (c := v14 = 0) _ _ 5  zc26 e (fun n => Eq.refl _)
          exact ev_b 2 (zj14 1 (Option.some.inj zh13) ) (fun n => Eq.refl _)
      by_cases zc27 : (MA_6 0 26) ≤ 0
      · have zh9 := itp zh9 zc27
        suffices e : Ev (d + 4, 0, 0, 141, 66, [.val (.ref 1088), .val (.int p1), .val (.int p2), .val (.int v1), .val (.int v2), .val (.int 0), .val s4, .val s5], [], (126, 120, L, [Y, T, HA, HB, RA, RB, ST, NS, I0, I1, I2, BO, FI, RG, GU, PU, MA_6, MN, MS_7, OT, SC], [r0, r1, r2, r3, w, r5, r6, r7, r8], Lg)) o from ev_t (c := (MA_6 0 26) ≤ 0) _ _ 5  zc27 e (fun n => Eq.refl _)
        exact ev_b 0 (zj10 0 MA_6 MS_7 (Option.some.inj zh9) s4 s5) (fun n => Eq.refl _)
      · have zh9 := itn zh9 zc27
        suffices e : Ev (d + 4, 0, 0, 141, 36, [.val (.ref 1088), .val (.int p1), .val (.int p2), .val (.int v1), .val (.int v2), .val (.int 0), .val s4, .val s5], [], (126, 120, L, [Y, T, HA, HB, RA, RB, ST, NS, I0, I1, I2, BO, FI, RG, GU, PU, MA_6, MN, MS_7, OT, SC], [r0, r1, r2, r3, w, r5, r6, r7, r8], Lg)) o from ev_f (c := (MA_6 0 26) ≤ 0) _ _ 5  zc27 e (fun n => Eq.refl _)
        obtain ⟨⟨x8, MS_9⟩, zh28, zh9⟩ := bnd zh9
        have zh28 : f_M_draws MS_7 (MA_6 0 26) = some (x8, MS_9) := zh28
        have ze29 := R_f_M_draws_0 (d + 3) Y T HA HB RA RB ST NS I0 I1 I2 BO FI RG GU PU MA_6 MN MS_7 OT SC r0 r1 r2 r3 w r5 r6 r7 r8 L Lg (MA_6 0 26) zh28
        suffices e : Ev (d + 4, 0, 0, 141, 44, [.val (.ref 1088), .val (.int p1), .val (.int p2), .val (.int v1), .val (.int v2), .val (.int 0), .val s4, .val s5], [.int x8], (126, 120, L, [Y, T, HA, HB, RA, RB, ST, NS, I0, I1, I2, BO, FI, RG, GU, PU, MA_6, MN, MS_9, OT, SC], [r0, r1, r2, r3, w, r5, r6, r7, r8], Lg)) o from ev_call (fun v μ => (d + 4, 0, 0, 141, 44, [.val (.ref 1088), .val (.int p1), .val (.int p2), .val (.int v1), .val (.int v2), .val (.int 0), .val s4, .val s5], v.toList ++ [], μ)) 4 ze29 e (fun n => Eq.refl _)
        obtain ⟨⟨x10, MS_11⟩, zh30, zh9⟩ := bnd zh9
        have zh30 : f_M_draws MS_9 (MA_6 0 23) = some (x10, MS_11) := zh30
        have ze31 := R_f_M_draws_0 (d + 3) Y T HA HB RA RB ST NS I0 I1 I2 BO FI RG GU PU MA_6 MN MS_9 OT SC r0 r1 r2 r3 w r5 r6 r7 r8 L Lg (MA_6 0 23) zh30
        suffices e : Ev (d + 4, 0, 0, 141, 54, [.val (.ref 1088), .val (.int p1), .val (.int p2), .val (.int v1), .val (.int v2), .val (.int 0), .val (.int x8), .val s5], [.int x10], (126, 120, L, [Y, T, HA, HB, RA, RB, ST, NS, I0, I1, I2, BO, FI, RG, GU, PU, MA_6, MN, MS_11, OT, SC], [r0, r1, r2, r3, w, r5, r6, r7, r8], Lg)) o from ev_call (fun v μ => (d + 4, 0, 0, 141, 54, [.val (.ref 1088), .val (.int p1), .val (.int p2), .val (.int v1), .val (.int v2), .val (.int 0), .val (.int x8), .val s5], v.toList ++ [], μ)) 5 ze31 e (fun n => Eq.refl _)
        obtain ⟨⟨x12, MA_13⟩, zh32, zh9⟩ := bnd zh9
        have zh32 : f_M_isMovedBy MA_6 x8 x10 = some (x12, MA_13) := zh32
        have ze33 := R_f_M_isMovedBy_0 (d + 0) Y T HA HB RA RB ST NS I0 I1 I2 BO FI RG GU PU MA_6 MN MS_11 OT SC r0 r1 r2 r3 w r5 r6 r7 r8 L Lg x8 x10 zh32
        suffices e : Ev (d + 4, 0, 0, 141, 64, [.val (.ref 1088), .val (.int p1), .val (.int p2), .val (.int v1), .val (.int v2), .val (.int 0), .val (.int x8), .val (.int x10)], [.int x12], (126, 120, L, [Y, T, HA, HB, RA, RB, ST, NS, I0, I1, I2, BO, FI, RG, GU, PU, MA_13, MN, MS_11, OT, SC], [r0, r1, r2, r3, w, r5, r6, r7, r8], Lg)) o from ev_call (fun v μ => (d + 4, 0, 0, 141, 64, [.val (.ref 1088), .val (.int p1), .val (.int p2), .val (.int v1), .val (.int v2), .val (.int 0), .val (.int x8), .val (.int x10)], v.toList ++ [], μ)) 5 ze33 e (fun n => Eq.refl _)
        exact ev_b 1 (zj10 x12 MA_13 MS_11 (Option.some.inj zh9) (.int x8) (.int x10)) (fun n => Eq.refl _)
  · obtain ⟨MA_27, MS_28⟩ := zb1
    intro s22 s23 s24 s25 s26
    have ze34 := Option.some.inj h
    subst ze34
    exact ev_rete 1 ho (fun n => Eq.refl _)
