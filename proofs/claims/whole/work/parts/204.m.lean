/-! printed by program (gen/emitm.py): the reference's methods run as their functions say -/
set_option maxRecDepth 1000000 in
set_option maxHeartbeats 4000000 in
theorem R_f_M_yieldsTo_0 (d : Nat) (Y T HA HB RA RB ST NS I0 I1 I2 BO FI RG GU PU MA MN MS OT SC : Nat → Nat → Int32) (r0 r1 r2 r3 w r5 r6 r7 r8 : Nat) (L : Nat) (Lg : Int64) (p1 : Int32) (p2 : Int32) (p3 : Int32) (p4 : Int32) {r : Int32 × (Nat → Nat → Int32)} (h : f_M_yieldsTo MA MS p1 p2 p3 p4 = some r) : Ev (d + 1, 0, 0, 55, 0, [.val (.ref 1088), .val (.int p1), .val (.int p2), .val (.int p3), .val (.int p4), .val a_unk, .val a_unk, .val a_unk], [], (126, 120, L, [Y, T, HA, HB, RA, RB, ST, NS, I0, I1, I2, BO, FI, RG, GU, PU, MA, MN, MS, OT, SC], [r0, r1, r2, r3, w, r5, r6, r7, r8], Lg)) ((0, some (.int r.1), (126, 120, L, [Y, T, HA, HB, RA, RB, ST, NS, I0, I1, I2, BO, FI, RG, GU, PU, MA, MN, r.2, OT, SC], [r0, r1, r2, r3, w, r5, r6, r7, r8], Lg)) : AOut) := by
  suffices key : ∀ o : AOut, ((0, some (.int r.1), (126, 120, L, [Y, T, HA, HB, RA, RB, ST, NS, I0, I1, I2, BO, FI, RG, GU, PU, MA, MN, r.2, OT, SC], [r0, r1, r2, r3, w, r5, r6, r7, r8], Lg)) : AOut) = o → Ev (d + 1, 0, 0, 55, 0, [.val (.ref 1088), .val (.int p1), .val (.int p2), .val (.int p3), .val (.int p4), .val a_unk, .val a_unk, .val a_unk], [], (126, 120, L, [Y, T, HA, HB, RA, RB, ST, NS, I0, I1, I2, BO, FI, RG, GU, PU, MA, MN, MS, OT, SC], [r0, r1, r2, r3, w, r5, r6, r7, r8], Lg)) o from key _ rfl
  intro o ho
  by_cases zc1 : (MA 0 40) ≠ 0
  · have h := itp h zc1
    suffices e : Ev (d + 1, 0, 0, 55, 9, [.val (.ref 1088), .val (.int p1), .val (.int p2), .val (.int p3), .val (.int p4), .val a_unk, .val a_unk, .val a_unk], [], (126, 120, L, [Y, T, HA, HB, RA, RB, ST, NS, I0, I1, I2, BO, FI, RG, GU, PU, MA, MN, MS, OT, SC], [r0, r1, r2, r3, w, r5, r6, r7, r8], Lg)) o from ev_t (c := (MA 0 40) ≠ 0) _ _ 3 zc1 e (fun n => Eq.refl _)
    obtain ⟨MS_15, zh3, h⟩ := bnd h
    suffices e : Ev (d + 1, 0, 0, 55, 12, [.val (.ref 1088), .val (.int p1), .val (.int p2), .val (.int p3), .val (.int p4), .val (.int 0), .val a_unk, .val a_unk], [], (126, 120, L, [Y, T, HA, HB, RA, RB, ST, NS, I0, I1, I2, BO, FI, RG, GU, PU, MA, MN, MS, OT, SC], [r0, r1, r2, r3, w, r5, r6, r7, r8], Lg)) o from ev_b 2 e (fun n => Eq.refl _)
    refine ev_loop (δ := Value) (fun a j => (d + 1, 0, 0, 55, 12, [.val (.ref 1088), .val (.int p1), .val (.int p2), .val (.int p3), .val (.int p4), .val (.int a.1), .val j, .val a_unk], [], (126, 120, L, [Y, T, HA, HB, RA, RB, ST, NS, I0, I1, I2, BO, FI, RG, GU, PU, MA, MN, a.2, OT, SC], [r0, r1, r2, r3, w, r5, r6, r7, r8], Lg))) (fun b => ∀ s13 : Value, ∀ s14 : Value, Ev (d + 1, 0, 0, 55, 114, [.val (.ref 1088), .val (.int p1), .val (.int p2), .val (.int p3), .val (.int p4), .val s13, .val s14, .val a_unk], [], (126, 120, L, [Y, T, HA, HB, RA, RB, ST, NS, I0, I1, I2, BO, FI, RG, GU, PU, MA, MN, b, OT, SC], [r0, r1, r2, r3, w, r5, r6, r7, r8], Lg)) o) ?_ a_F (0, MS) MS_15 zh3 ?_ a_unk
    · rintro ⟨v1, MS_3⟩ zr7 zh6 zi4 zx5 s2
      have zh6 : f_M_yieldsTo_l12 MA p2 p1 v1 MS_3 = some zr7 := zh6
      by_cases zc8 : 2 ≤ v1
      · have zh6 := itp zh6 zc8
        suffices e : Ev (d + 1, 0, 0, 55, 114, [.val (.ref 1088), .val (.int p1), .val (.int p2), .val (.int p3), .val (.int p4), .val (.int v1), .val s2, .val a_unk], [], (126, 120, L, [Y, T, HA, HB, RA, RB, ST, NS, I0, I1, I2, BO, FI, RG, GU, PU, MA, MN, MS_3, OT, SC], [r0, r1, r2, r3, w, r5, r6, r7, r8], Lg)) o from ev_t (c := 2 ≤ v1) _ _ 3 zc8 e (fun n => Eq.refl _)
        exact ev_b 0 (zx5 _ (Option.some.inj zh6).symm (.int v1) s2) (fun n => Eq.refl _)
      · have zh6 := itn zh6 zc8
        suffices e : Ev (d + 1, 0, 0, 55, 18, [.val (.ref 1088), .val (.int p1), .val (.int p2), .val (.int p3), .val (.int p4), .val (.int v1), .val s2, .val a_unk], [], (126, 120, L, [Y, T, HA, HB, RA, RB, ST, NS, I0, I1, I2, BO, FI, RG, GU, PU, MA, MN, MS_3, OT, SC], [r0, r1, r2, r3, w, r5, r6, r7, r8], Lg)) o from ev_f (c := 2 ≤ v1) _ _ 3 zc8 e (fun n => Eq.refl _)
        obtain ⟨zt9, zh10, zh6⟩ := bnd zh6
        have zj11 : ∀ (v4 : Int32), v4 = zt9 → Ev (d + 1, 0, 0, 55, 28, [.val (.ref 1088), .val (.int p1), .val (.int p2), .val (.int p3), .val (.int p4), .val (.int v1), .val s2, .val a_unk], [.int v4], (126, 120, L, [Y, T, HA, HB, RA, RB, ST, NS, I0, I1, I2, BO, FI, RG, GU, PU, MA, MN, MS_3, OT, SC], [r0, r1, r2, r3, w, r5, r6, r7, r8], Lg)) o := by
          intro v4 ze12
          subst ze12
          obtain ⟨x5, zh13, zh6⟩ := bnd zh6
          have zh13 : rdx (MA 5) 60 ((6 * v4) + 1) = some x5 := zh13
          suffices e : Ev (d + 1, 0, 0, 55, 50, [.val (.ref 1088), .val (.int p1), .val (.int p2), .val (.int p3), .val (.int p4), .val (.int v1), .val (.int v4), .val a_unk], [.int x5, .int (4 * v1), .ref 1219], (126, 120, L, [Y, T, HA, HB, RA, RB, ST, NS, I0, I1, I2, BO, FI, RG, GU, PU, MA, MN, MS_3, OT, SC], [r0, r1, r2, r3, w, r5, r6, r7, r8], Lg)) o from ev_opt (fun x5 => (d + 1, 0, 0, 55, 50, [.val (.ref 1088), .val (.int p1), .val (.int p2), .val (.int p3), .val (.int p4), .val (.int v1), .val (.int v4), .val a_unk], [.int x5, .int (4 * v1), .ref 1219], (126, 120, L, [Y, T, HA, HB, RA, RB, ST, NS, I0, I1, I2, BO, FI, RG, GU, PU, MA, MN, MS_3, OT, SC], [r0, r1, r2, r3, w, r5, r6, r7, r8], Lg))) 14 zh13 e (fun n => Eq.refl _)
          obtain ⟨j6, zh14, zh6⟩ := bnd zh6
          have zh14 : ixx 11 (4 * v1) = some j6 := zh14
          suffices e : Ev (d + 1, 0, 0, 55, 51, [.val (.ref 1088), .val (.int p1), .val (.int p2), .val (.int p3), .val (.int p4), .val (.int v1), .val (.int v4), .val a_unk], [], (126, 120, L, [Y, T, HA, HB, RA, RB, ST, NS, I0, I1, I2, BO, FI, RG, GU, PU, MA, MN, (u2 MS_3 3 j6 x5), OT, SC], [r0, r1, r2, r3, w, r5, r6, r7, r8], Lg)) o from ev_opt (fun j6 => (d + 1, 0, 0, 55, 51, [.val (.ref 1088), .val (.int p1), .val (.int p2), .val (.int p3), .val (.int p4), .val (.int v1), .val (.int v4), .val a_unk], [], (126, 120, L, [Y, T, HA, HB, RA, RB, ST, NS, I0, I1, I2, BO, FI, RG, GU, PU, MA, MN, (u2 MS_3 3 j6 x5), OT, SC], [r0, r1, r2, r3, w, r5, r6, r7, r8], Lg))) 1 zh14 e (fun n => Eq.refl _)
          obtain ⟨x7, zh15, zh6⟩ := bnd zh6
          have zh15 : rdx (MA 8) 10 v4 = some x7 := zh15
          suffices e : Ev (d + 1, 0, 0, 55, 68, [.val (.ref 1088), .val (.int p1), .val (.int p2), .val (.int p3), .val (.int p4), .val (.int v1), .val (.int v4), .val a_unk], [.int x7, .int ((4 * v1) + 1), .ref 1219], (126, 120, L, [Y, T, HA, HB, RA, RB, ST, NS, I0, I1, I2, BO, FI, RG, GU, PU, MA, MN, (u2 MS_3 3 j6 x5), OT, SC], [r0, r1, r2, r3, w, r5, r6, r7, r8], Lg)) o from ev_opt (fun x7 => (d + 1, 0, 0, 55, 68, [.val (.ref 1088), .val (.int p1), .val (.int p2), .val (.int p3), .val (.int p4), .val (.int v1), .val (.int v4), .val a_unk], [.int x7, .int ((4 * v1) + 1), .ref 1219], (126, 120, L, [Y, T, HA, HB, RA, RB, ST, NS, I0, I1, I2, BO, FI, RG, GU, PU, MA, MN, (u2 MS_3 3 j6 x5), OT, SC], [r0, r1, r2, r3, w, r5, r6, r7, r8], Lg))) 11 zh15 e (fun n => Eq.refl _)
          obtain ⟨j8, zh16, zh6⟩ := bnd zh6
          have zh16 : ixx 11 ((4 * v1) + 1) = some j8 := zh16
          suffices e : Ev (d + 1, 0, 0, 55, 69, [.val (.ref 1088), .val (.int p1), .val (.int p2), .val (.int p3), .val (.int p4), .val (.int v1), .val (.int v4), .val a_unk], [], (126, 120, L, [Y, T, HA, HB, RA, RB, ST, NS, I0, I1, I2, BO, FI, RG, GU, PU, MA, MN, (u2 (u2 MS_3 3 j6 x5) 3 j8 x7), OT, SC], [r0, r1, r2, r3, w, r5, r6, r7, r8], Lg)) o from ev_opt (fun j8 => (d + 1, 0, 0, 55, 69, [.val (.ref 1088), .val (.int p1), .val (.int p2), .val (.int p3), .val (.int p4), .val (.int v1), .val (.int v4), .val a_unk], [], (126, 120, L, [Y, T, HA, HB, RA, RB, ST, NS, I0, I1, I2, BO, FI, RG, GU, PU, MA, MN, (u2 (u2 MS_3 3 j6 x5) 3 j8 x7), OT, SC], [r0, r1, r2, r3, w, r5, r6, r7, r8], Lg))) 1 zh16 e (fun n => Eq.refl _)
          obtain ⟨x9, zh17, zh6⟩ := bnd zh6
          have zh17 : rdx (MA 5) 60 ((6 * v4) + 2) = some x9 := zh17
          suffices e : Ev (d + 1, 0, 0, 55, 91, [.val (.ref 1088), .val (.int p1), .val (.int p2), .val (.int p3), .val (.int p4), .val (.int v1), .val (.int v4), .val a_unk], [.int x9, .int ((4 * v1) + 2), .ref 1219], (126, 120, L, [Y, T, HA, HB, RA, RB, ST, NS, I0, I1, I2, BO, FI, RG, GU, PU, MA, MN, (u2 (u2 MS_3 3 j6 x5) 3 j8 x7), OT, SC], [r0, r1, r2, r3, w, r5, r6, r7, r8], Lg)) o from ev_opt (fun x9 => (d + 1, 0, 0, 55, 91, [.val (.ref 1088), .val (.int p1), .val (.int p2), .val (.int p3), .val (.int p4), .val (.int v1), .val (.int v4), .val a_unk], [.int x9, .int ((4 * v1) + 2), .ref 1219], (126, 120, L, [Y, T, HA, HB, RA, RB, ST, NS, I0, I1, I2, BO, FI, RG, GU, PU, MA, MN, (u2 (u2 MS_3 3 j6 x5) 3 j8 x7), OT, SC], [r0, r1, r2, r3, w, r5, r6, r7, r8], Lg))) 15 zh17 e (fun n => Eq.refl _)
          obtain ⟨x10, zh18, zh6⟩ := bnd zh6
          have zh18 : f_M_ones x9 = some x10 := zh18
          have ze19 := R_f_M_ones_0 (d + 0) Y T HA HB RA RB ST NS I0 I1 I2 BO FI RG GU PU MA MN (u2 (u2 MS_3 3 j6 x5) 3 j8 x7) OT SC r0 r1 r2 r3 w r5 r6 r7 r8 L Lg x9 zh18
          suffices e : Ev (d + 1, 0, 0, 55, 94, [.val (.ref 1088), .val (.int p1), .val (.int p2), .val (.int p3), .val (.int p4), .val (.int v1), .val (.int v4), .val a_unk], [.int x10, .int ((4 * v1) + 2), .ref 1219], (126, 120, L, [Y, T, HA, HB, RA, RB, ST, NS, I0, I1, I2, BO, FI, RG, GU, PU, MA, MN, (u2 (u2 MS_3 3 j6 x5) 3 j8 x7), OT, SC], [r0, r1, r2, r3, w, r5, r6, r7, r8], Lg)) o from ev_call (fun v μ => (d + 1, 0, 0, 55, 94, [.val (.ref 1088), .val (.int p1), .val (.int p2), .val (.int p3), .val (.int p4), .val (.int v1), .val (.int v4), .val a_unk], v.toList ++ [.int ((4 * v1) + 2), .ref 1219], μ)) 1 ze19 e (fun n => Eq.refl _)
          obtain ⟨j11, zh20, zh6⟩ := bnd zh6
          have zh20 : ixx 11 ((4 * v1) + 2) = some j11 := zh20
          suffices e : Ev (d + 1, 0, 0, 55, 95, [.val (.ref 1088), .val (.int p1), .val (.int p2), .val (.int p3), .val (.int p4), .val (.int v1), .val (.int v4), .val a_unk], [], (126, 120, L, [Y, T, HA, HB, RA, RB, ST, NS, I0, I1, I2, BO, FI, RG, GU, PU, MA, MN, (u2 (u2 (u2 MS_3 3 j6 x5) 3 j8 x7) 3 j11 x10), OT, SC], [r0, r1, r2, r3, w, r5, r6, r7, r8], Lg)) o from ev_opt (fun j11 => (d + 1, 0, 0, 55, 95, [.val (.ref 1088), .val (.int p1), .val (.int p2), .val (.int p3), .val (.int p4), .val (.int v1), .val (.int v4), .val a_unk], [], (126, 120, L, [Y, T, HA, HB, RA, RB, ST, NS, I0, I1, I2, BO, FI, RG, GU, PU, MA, MN, (u2 (u2 (u2 MS_3 3 j6 x5) 3 j8 x7) 3 j11 x10), OT, SC], [r0, r1, r2, r3, w, r5, r6, r7, r8], Lg))) 1 zh20 e (fun n => Eq.refl _)
          obtain ⟨j12, zh21, zh6⟩ := bnd zh6
          have zh21 : ixx 11 ((4 * v1) + 3) = some j12 := zh21
          suffices e : Ev (d + 1, 0, 0, 55, 108, [.val (.ref 1088), .val (.int p1), .val (.int p2), .val (.int p3), .val (.int p4), .val (.int v1), .val (.int v4), .val a_unk], [], (126, 120, L, [Y, T, HA, HB, RA, RB, ST, NS, I0, I1, I2, BO, FI, RG, GU, PU, MA, MN, (u2 (u2 (u2 (u2 MS_3 3 j6 x5) 3 j8 x7) 3 j11 x10) 3 j12 v4), OT, SC], [r0, r1, r2, r3, w, r5, r6, r7, r8], Lg)) o from ev_opt (fun j12 => (d + 1, 0, 0, 55, 108, [.val (.ref 1088), .val (.int p1), .val (.int p2), .val (.int p3), .val (.int p4), .val (.int v1), .val (.int v4), .val a_unk], [], (126, 120, L, [Y, T, HA, HB, RA, RB, ST, NS, I0, I1, I2, BO, FI, RG, GU, PU, MA, MN, (u2 (u2 (u2 (u2 MS_3 3 j6 x5) 3 j8 x7) 3 j11 x10) 3 j12 v4), OT, SC], [r0, r1, r2, r3, w, r5, r6, r7, r8], Lg))) 9 zh21 e (fun n => Eq.refl _)
          exact ev_b 2 (zi4 _ (Option.some.inj zh6).symm (.int v4)) (fun n => Eq.refl _)
        by_cases zc22 : v1 ≠ 0
        · have zh10 := itp zh10 zc22
          suffices e : Ev (d + 1, 0, 0, 55, 27, [.val (.ref 1088), .val (.int p1), .val (.int p2), .val (.int p3), .val (.int p4), .val (.int v1), .val s2, .val a_unk], [], (126, 120, L, [Y, T, HA, HB, RA, RB, ST, NS, I0, I1, I2, BO, FI, RG, GU, PU, MA, MN, MS_3, OT, SC], [r0, r1, r2, r3, w, r5, r6, r7, r8], Lg)) o from ev_t (c := v1 ≠ 0) _ _ 2 zc22 e (fun n => Eq.refl _)
          exact ev_b 1 (zj11 p2 (Option.some.inj zh10) ) (fun n => Eq.refl _)
        · have zh10 := itn zh10 zc22
          suffices e : Ev (d + 1, 0, 0, 55, 23, [.val (.ref 1088), .val (.int p1), .val (.int p2), .val (.int p3), .val (.int p4), .val (.int v1), .val s2, .val a_unk], [], (126, 120, L, [Y, T, HA, HB, RA, RB, ST, NS, I0, I1, I2, BO, FI, RG, GU, PU, MA, MN, MS_3, OT, SC], [r0, r1, r2, r3, w, r5, r6, r7, r8], Lg)) o from ev_f (c := v1 ≠ 0) _ _ 2 zc22 e (fun n => Eq.refl _)
          exact ev_b 2 (zj11 p1 (Option.some.inj zh10) ) (fun n => Eq.refl _)
    · skip
      intro s13 s14
      suffices e : Ev (d + 1, 0, 0, 55, 123, [.val (.ref 1088), .val (.int p1), .val (.int p2), .val (.int p3), .val (.int p4), .val s13, .val s14, .val a_unk], [.int (p3 / 3), .int 8, .ref 1219], (126, 120, L, [Y, T, HA, HB, RA, RB, ST, NS, I0, I1, I2, BO, FI, RG, GU, PU, MA, MN, MS_15, OT, SC], [r0, r1, r2, r3, w, r5, r6, r7, r8], Lg)) o from ev_b 6 e (fun n => Eq.refl _)
      obtain ⟨j16, zh23, h⟩ := bnd h
      have zh23 : ixx 11 8 = some j16 := zh23
      suffices e : Ev (d + 1, 0, 0, 55, 124, [.val (.ref 1088), .val (.int p1), .val (.int p2), .val (.int p3), .val (.int p4), .val s13, .val s14, .val a_unk], [], (126, 120, L, [Y, T, HA, HB, RA, RB, ST, NS, I0, I1, I2, BO, FI, RG, GU, PU, MA, MN, (u2 MS_15 3 j16 (p3 / 3)), OT, SC], [r0, r1, r2, r3, w, r5, r6, r7, r8], Lg)) o from ev_opt (fun j16 => (d + 1, 0, 0, 55, 124, [.val (.ref 1088), .val (.int p1), .val (.int p2), .val (.int p3), .val (.int p4), .val s13, .val s14, .val a_unk], [], (126, 120, L, [Y, T, HA, HB, RA, RB, ST, NS, I0, I1, I2, BO, FI, RG, GU, PU, MA, MN, (u2 MS_15 3 j16 (p3 / 3)), OT, SC], [r0, r1, r2, r3, w, r5, r6, r7, r8], Lg))) 1 zh23 e (fun n => Eq.refl _)
      suffices e : Ev (d + 1, 0, 0, 55, 133, [.val (.ref 1088), .val (.int p1), .val (.int p2), .val (.int p3), .val (.int p4), .val s13, .val s14, .val a_unk], [.int (a_rem p3 3), .int 9, .ref 1219], (126, 120, L, [Y, T, HA, HB, RA, RB, ST, NS, I0, I1, I2, BO, FI, RG, GU, PU, MA, MN, (u2 MS_15 3 j16 (p3 / 3)), OT, SC], [r0, r1, r2, r3, w, r5, r6, r7, r8], Lg)) o from ev_b 6 e (fun n => Eq.refl _)
      obtain ⟨j17, zh24, h⟩ := bnd h
      have zh24 : ixx 11 9 = some j17 := zh24
      suffices e : Ev (d + 1, 0, 0, 55, 134, [.val (.ref 1088), .val (.int p1), .val (.int p2), .val (.int p3), .val (.int p4), .val s13, .val s14, .val a_unk], [], (126, 120, L, [Y, T, HA, HB, RA, RB, ST, NS, I0, I1, I2, BO, FI, RG, GU, PU, MA, MN, (u2 (u2 MS_15 3 j16 (p3 / 3)) 3 j17 (a_rem p3 3)), OT, SC], [r0, r1, r2, r3, w, r5, r6, r7, r8], Lg)) o from ev_opt (fun j17 => (d + 1, 0, 0, 55, 134, [.val (.ref 1088), .val (.int p1), .val (.int p2), .val (.int p3), .val (.int p4), .val s13, .val s14, .val a_unk], [], (126, 120, L, [Y, T, HA, HB, RA, RB, ST, NS, I0, I1, I2, BO, FI, RG, GU, PU, MA, MN, (u2 (u2 MS_15 3 j16 (p3 / 3)) 3 j17 (a_rem p3 3)), OT, SC], [r0, r1, r2, r3, w, r5, r6, r7, r8], Lg))) 1 zh24 e (fun n => Eq.refl _)
      obtain ⟨j18, zh25, h⟩ := bnd h
      have zh25 : ixx 11 10 = some j18 := zh25
      suffices e : Ev (d + 1, 0, 0, 55, 143, [.val (.ref 1088), .val (.int p1), .val (.int p2), .val (.int p3), .val (.int p4), .val s13, .val s14, .val a_unk], [], (126, 120, L, [Y, T, HA, HB, RA, RB, ST, NS, I0, I1, I2, BO, FI, RG, GU, PU, MA, MN, (u2 (u2 (u2 MS_15 3 j16 (p3 / 3)) 3 j17 (a_rem p3 3)) 3 j18 p4), OT, SC], [r0, r1, r2, r3, w, r5, r6, r7, r8], Lg)) o from ev_opt (fun j18 => (d + 1, 0, 0, 55, 143, [.val (.ref 1088), .val (.int p1), .val (.int p2), .val (.int p3), .val (.int p4), .val s13, .val s14, .val a_unk], [], (126, 120, L, [Y, T, HA, HB, RA, RB, ST, NS, I0, I1, I2, BO, FI, RG, GU, PU, MA, MN, (u2 (u2 (u2 MS_15 3 j16 (p3 / 3)) 3 j17 (a_rem p3 3)) 3 j18 p4), OT, SC], [r0, r1, r2, r3, w, r5, r6, r7, r8], Lg))) 5 zh25 e (fun n => Eq.refl _)
      obtain ⟨MS_38, zh27, h⟩ := bnd h
      suffices e : Ev (d + 1, 0, 0, 55, 149, [.val (.ref 1088), .val (.int p1), .val (.int p2), .val (.int p3), .val (.int p4), .val (.int 0), .val (.int 0), .val a_unk], [], (126, 120, L, [Y, T, HA, HB, RA, RB, ST, NS, I0, I1, I2, BO, FI, RG, GU, PU, MA, MN, (u2 (u2 (u2 MS_15 3 j16 (p3 / 3)) 3 j17 (a_rem p3 3)) 3 j18 p4), OT, SC], [r0, r1, r2, r3, w, r5, r6, r7, r8], Lg)) o from ev_b 4 e (fun n => Eq.refl _)
      refine ev_loop (δ := Value) (fun a j => (d + 1, 0, 0, 55, 149, [.val (.ref 1088), .val (.int p1), .val (.int p2), .val (.int p3), .val (.int p4), .val (.int a.1), .val (.int a.2.1), .val j], [], (126, 120, L, [Y, T, HA, HB, RA, RB, ST, NS, I0, I1, I2, BO, FI, RG, GU, PU, MA, MN, a.2.2, OT, SC], [r0, r1, r2, r3, w, r5, r6, r7, r8], Lg))) (fun b => ∀ s35 : Value, ∀ s36 : Value, ∀ s37 : Value, Ev (d + 1, 0, 0, 55, 282, [.val (.ref 1088), .val (.int p1), .val (.int p2), .val (.int p3), .val (.int p4), .val s35, .val s36, .val s37], [], (126, 120, L, [Y, T, HA, HB, RA, RB, ST, NS, I0, I1, I2, BO, FI, RG, GU, PU, MA, MN, b, OT, SC], [r0, r1, r2, r3, w, r5, r6, r7, r8], Lg)) o) ?_ a_F (0, 0, (u2 (u2 (u2 MS_15 3 j16 (p3 / 3)) 3 j17 (a_rem p3 3)) 3 j18 p4)) MS_38 zh27 ?_ a_unk
      · rintro ⟨v19, v20, MS_22⟩ zr31 zh30 zi28 zx29 s21
        have zh30 : f_M_yieldsTo_l149 MA v19 v20 MS_22 = some zr31 := zh30
        by_cases zc32 : (MA 0 40) ≤ v20
        · have zh30 := itp zh30 zc32
          suffices e : Ev (d + 1, 0, 0, 55, 282, [.val (.ref 1088), .val (.int p1), .val (.int p2), .val (.int p3), .val (.int p4), .val (.int v19), .val (.int v20), .val s21], [], (126, 120, L, [Y, T, HA, HB, RA, RB, ST, NS, I0, I1, I2, BO, FI, RG, GU, PU, MA, MN, MS_22, OT, SC], [r0, r1, r2, r3, w, r5, r6, r7, r8], Lg)) o from ev_t (c := (MA 0 40) ≤ v20) _ _ 4 zc32 e (fun n => Eq.refl _)
          exact ev_b 0 (zx29 _ (Option.some.inj zh30).symm (.int v19) (.int v20) s21) (fun n => Eq.refl _)
        · have zh30 := itn zh30 zc32
          suffices e : Ev (d + 1, 0, 0, 55, 158, [.val (.ref 1088), .val (.int p1), .val (.int p2), .val (.int p3), .val (.int p4), .val (.int v19), .val (.int v20), .val s21], [], (126, 120, L, [Y, T, HA, HB, RA, RB, ST, NS, I0, I1, I2, BO, FI, RG, GU, PU, MA, MN, MS_22, OT, SC], [r0, r1, r2, r3, w, r5, r6, r7, r8], Lg)) o from ev_f (c := (MA 0 40) ≤ v20) _ _ 4 zc32 e (fun n => Eq.refl _)
          obtain ⟨x23, zh33, zh30⟩ := bnd zh30
          have zh33 : rdx (MA 10) 150 v20 = some x23 := zh33
          suffices e : Ev (d + 1, 0, 0, 55, 165, [.val (.ref 1088), .val (.int p1), .val (.int p2), .val (.int p3), .val (.int p4), .val (.int v19), .val (.int v20), .val s21], [.int x23], (126, 120, L, [Y, T, HA, HB, RA, RB, ST, NS, I0, I1, I2, BO, FI, RG, GU, PU, MA, MN, MS_22, OT, SC], [r0, r1, r2, r3, w, r5, r6, r7, r8], Lg)) o from ev_opt (fun x23 => (d + 1, 0, 0, 55, 165, [.val (.ref 1088), .val (.int p1), .val (.int p2), .val (.int p3), .val (.int p4), .val (.int v19), .val (.int v20), .val s21], [.int x23], (126, 120, L, [Y, T, HA, HB, RA, RB, ST, NS, I0, I1, I2, BO, FI, RG, GU, PU, MA, MN, MS_22, OT, SC], [r0, r1, r2, r3, w, r5, r6, r7, r8], Lg))) 4 zh33 e (fun n => Eq.refl _)
          by_cases zc34 : 1 < x23
          · have zh30 := itp zh30 zc34
            suffices e : Ev (d + 1, 0, 0, 55, 213, [.val (.ref 1088), .val (.int p1), .val (.int p2), .val (.int p3), .val (.int p4), .val (.int v19), .val (.int v20), .val (.int x23)], [], (126, 120, L, [Y, T, HA, HB, RA, RB, ST, NS, I0, I1, I2, BO, FI, RG, GU, PU, MA, MN, MS_22, OT, SC], [r0, r1, r2, r3, w, r5, r6, r7, r8], Lg)) o from ev_t (c := 1 < x23) _ _ 4 zc34 e (fun n => Eq.refl _)
            by_cases zc35 : x23 ≠ 8
            · have zh30 := itp zh30 zc35
              suffices e : Ev (d + 1, 0, 0, 55, 243, [.val (.ref 1088), .val (.int p1), .val (.int p2), .val (.int p3), .val (.int p4), .val (.int v19), .val (.int v20), .val (.int x23)], [], (126, 120, L, [Y, T, HA, HB, RA, RB, ST, NS, I0, I1, I2, BO, FI, RG, GU, PU, MA, MN, MS_22, OT, SC], [r0, r1, r2, r3, w, r5, r6, r7, r8], Lg)) o from ev_t (c := x23 ≠ 8) _ _ 3 zc35 e (fun n => Eq.refl _)
              suffices e : Ev (d + 1, 0, 0, 55, 246, [.val (.ref 1088), .val (.int p1), .val (.int p2), .val (.int p3), .val (.int p4), .val (.int (v19 + (-1))), .val (.int v20), .val (.int x23)], [], (126, 120, L, [Y, T, HA, HB, RA, RB, ST, NS, I0, I1, I2, BO, FI, RG, GU, PU, MA, MN, MS_22, OT, SC], [r0, r1, r2, r3, w, r5, r6, r7, r8], Lg)) o from ev_b 1 e (fun n => Eq.refl _)
              obtain ⟨x24, zh36, zh30⟩ := bnd zh30
              have zh36 : rdx (MS_22 2) 150 ((v19 + (-1)) - 1) = some x24 := zh36
              suffices e : Ev (d + 1, 0, 0, 55, 265, [.val (.ref 1088), .val (.int p1), .val (.int p2), .val (.int p3), .val (.int p4), .val (.int (v19 + (-1))), .val (.int v20), .val (.int x23)], [.int x24, .int x23, .int ((v19 + (-1)) - 1), .ref 1218], (126, 120, L, [Y, T, HA, HB, RA, RB, ST, NS, I0, I1, I2, BO, FI, RG, GU, PU, MA, MN, MS_22, OT, SC], [r0, r1, r2, r3, w, r5, r6, r7, r8], Lg)) o from ev_opt (fun x24 => (d + 1, 0, 0, 55, 265, [.val (.ref 1088), .val (.int p1), .val (.int p2), .val (.int p3), .val (.int p4), .val (.int (v19 + (-1))), .val (.int v20), .val (.int x23)], [.int x24, .int x23, .int ((v19 + (-1)) - 1), .ref 1218], (126, 120, L, [Y, T, HA, HB, RA, RB, ST, NS, I0, I1, I2, BO, FI, RG, GU, PU, MA, MN, MS_22, OT, SC], [r0, r1, r2, r3, w, r5, r6, r7, r8], Lg))) 12 zh36 e (fun n => Eq.refl _)
              obtain ⟨x25, zh37, zh30⟩ := bnd zh30
              have zh37 : rdx (MS_22 2) 150 (v19 + (-1)) = some x25 := zh37
              suffices e : Ev (d + 1, 0, 0, 55, 272, [.val (.ref 1088), .val (.int p1), .val (.int p2), .val (.int p3), .val (.int p4), .val (.int (v19 + (-1))), .val (.int v20), .val (.int x23)], [.int x25, .int x24, .int x23, .int ((v19 + (-1)) - 1), .ref 1218], (126, 120, L, [Y, T, HA, HB, RA, RB, ST, NS, I0, I1, I2, BO, FI, RG, GU, PU, MA, MN, MS_22, OT, SC], [r0, r1, r2, r3, w, r5, r6, r7, r8], Lg)) o from ev_opt (fun x25 => (d + 1, 0, 0, 55, 272, [.val (.ref 1088), .val (.int p1), .val (.int p2), .val (.int p3), .val (.int p4), .val (.int (v19 + (-1))), .val (.int v20), .val (.int x23)], [.int x25, .int x24, .int x23, .int ((v19 + (-1)) - 1), .ref 1218], (126, 120, L, [Y, T, HA, HB, RA, RB, ST, NS, I0, I1, I2, BO, FI, RG, GU, PU, MA, MN, MS_22, OT, SC], [r0, r1, r2, r3, w, r5, r6, r7, r8], Lg))) 4 zh37 e (fun n => Eq.refl _)
              obtain ⟨x26, zh38, zh30⟩ := bnd zh30
              have zh38 : f_M_both x23 x24 x25 = some x26 := zh38
              have ze39 := R_f_M_both_0 (d + 0) Y T HA HB RA RB ST NS I0 I1 I2 BO FI RG GU PU MA MN MS_22 OT SC r0 r1 r2 r3 w r5 r6 r7 r8 L Lg x23 x24 x25 zh38
              suffices e : Ev (d + 1, 0, 0, 55, 275, [.val (.ref 1088), .val (.int p1), .val (.int p2), .val (.int p3), .val (.int p4), .val (.int (v19 + (-1))), .val (.int v20), .val (.int x23)], [.int x26, .int ((v19 + (-1)) - 1), .ref 1218], (126, 120, L, [Y, T, HA, HB, RA, RB, ST, NS, I0, I1, I2, BO, FI, RG, GU, PU, MA, MN, MS_22, OT, SC], [r0, r1, r2, r3, w, r5, r6, r7, r8], Lg)) o from ev_call (fun v μ => (d + 1, 0, 0, 55, 275, [.val (.ref 1088), .val (.int p1), .val (.int p2), .val (.int p3), .val (.int p4), .val (.int (v19 + (-1))), .val (.int v20), .val (.int x23)], v.toList ++ [.int ((v19 + (-1)) - 1), .ref 1218], μ)) 1 ze39 e (fun n => Eq.refl _)
              obtain ⟨j27, zh40, zh30⟩ := bnd zh30
              have zh40 : ixx 150 ((v19 + (-1)) - 1) = some j27 := zh40
              suffices e : Ev (d + 1, 0, 0, 55, 276, [.val (.ref 1088), .val (.int p1), .val (.int p2), .val (.int p3), .val (.int p4), .val (.int (v19 + (-1))), .val (.int v20), .val (.int x23)], [], (126, 120, L, [Y, T, HA, HB, RA, RB, ST, NS, I0, I1, I2, BO, FI, RG, GU, PU, MA, MN, (u2 MS_22 2 j27 x26), OT, SC], [r0, r1, r2, r3, w, r5, r6, r7, r8], Lg)) o from ev_opt (fun j27 => (d + 1, 0, 0, 55, 276, [.val (.ref 1088), .val (.int p1), .val (.int p2), .val (.int p3), .val (.int p4), .val (.int (v19 + (-1))), .val (.int v20), .val (.int x23)], [], (126, 120, L, [Y, T, HA, HB, RA, RB, ST, NS, I0, I1, I2, BO, FI, RG, GU, PU, MA, MN, (u2 MS_22 2 j27 x26), OT, SC], [r0, r1, r2, r3, w, r5, r6, r7, r8], Lg))) 1 zh40 e (fun n => Eq.refl _)
              exact ev_b 2 (zi28 _ (Option.some.inj zh30).symm (.int x23)) (fun n => Eq.refl _)
            · have zh30 := itn zh30 zc35
              suffices e : Ev (d + 1, 0, 0, 55, 220, [.val (.ref 1088), .val (.int p1), .val (.int p2), .val (.int p3), .val (.int p4), .val (.int v19), .val (.int v20), .val (.int x23)], [], (126, 120, L, [Y, T, HA, HB, RA, RB, ST, NS, I0, I1, I2, BO, FI, RG, GU, PU, MA, MN, MS_22, OT, SC], [r0, r1, r2, r3, w, r5, r6, r7, r8], Lg)) o from ev_f (c := x23 ≠ 8) _ _ 3 zc35 e (fun n => Eq.refl _)
              obtain ⟨x28, zh41, zh30⟩ := bnd zh30
              have zh41 : rdx (MS_22 2) 150 (v19 - 1) = some x28 := zh41
              suffices e : Ev (d + 1, 0, 0, 55, 238, [.val (.ref 1088), .val (.int p1), .val (.int p2), .val (.int p3), .val (.int p4), .val (.int v19), .val (.int v20), .val (.int x23)], [.int x28, .int 1, .int (v19 - 1), .ref 1218], (126, 120, L, [Y, T, HA, HB, RA, RB, ST, NS, I0, I1, I2, BO, FI, RG, GU, PU, MA, MN, MS_22, OT, SC], [r0, r1, r2, r3, w, r5, r6, r7, r8], Lg)) o from ev_opt (fun x28 => (d + 1, 0, 0, 55, 238, [.val (.ref 1088), .val (.int p1), .val (.int p2), .val (.int p3), .val (.int p4), .val (.int v19), .val (.int v20), .val (.int x23)], [.int x28, .int 1, .int (v19 - 1), .ref 1218], (126, 120, L, [Y, T, HA, HB, RA, RB, ST, NS, I0, I1, I2, BO, FI, RG, GU, PU, MA, MN, MS_22, OT, SC], [r0, r1, r2, r3, w, r5, r6, r7, r8], Lg))) 12 zh41 e (fun n => Eq.refl _)
              obtain ⟨j29, zh42, zh30⟩ := bnd zh30
              have zh42 : ixx 150 (v19 - 1) = some j29 := zh42
              suffices e : Ev (d + 1, 0, 0, 55, 240, [.val (.ref 1088), .val (.int p1), .val (.int p2), .val (.int p3), .val (.int p4), .val (.int v19), .val (.int v20), .val (.int x23)], [], (126, 120, L, [Y, T, HA, HB, RA, RB, ST, NS, I0, I1, I2, BO, FI, RG, GU, PU, MA, MN, (u2 MS_22 2 j29 (1 - x28)), OT, SC], [r0, r1, r2, r3, w, r5, r6, r7, r8], Lg)) o from ev_opt (fun j29 => (d + 1, 0, 0, 55, 240, [.val (.ref 1088), .val (.int p1), .val (.int p2), .val (.int p3), .val (.int p4), .val (.int v19), .val (.int v20), .val (.int x23)], [], (126, 120, L, [Y, T, HA, HB, RA, RB, ST, NS, I0, I1, I2, BO, FI, RG, GU, PU, MA, MN, (u2 MS_22 2 j29 (1 - x28)), OT, SC], [r0, r1, r2, r3, w, r5, r6, r7, r8], Lg))) 2 zh42 e (fun n => Eq.refl _)
              exact ev_b 3 (zi28 _ (Option.some.inj zh30).symm (.int x23)) (fun n => Eq.refl _)
          · have zh30 := itn zh30 zc34
            suffices e : Ev (d + 1, 0, 0, 55, 173, [.val (.ref 1088), .val (.int p1), .val (.int p2), .val (.int p3), .val (.int p4), .val (.int v19), .val (.int v20), .val (.int x23)], [], (126, 120, L, [Y, T, HA, HB, RA, RB, ST, NS, I0, I1, I2, BO, FI, RG, GU, PU, MA, MN, MS_22, OT, SC], [r0, r1, r2, r3, w, r5, r6, r7, r8], Lg)) o from ev_f (c := 1 < x23) _ _ 4 zc34 e (fun n => Eq.refl _)
            obtain ⟨zt43, zh44, zh30⟩ := bnd zh30
            have zj45 : ∀ (v33 : Int32), v33 = zt43 → Ev (d + 1, 0, 0, 55, 206, [.val (.ref 1088), .val (.int p1), .val (.int p2), .val (.int p3), .val (.int p4), .val (.int v19), .val (.int v20), .val (.int x23)], [.int v33, .int v19, .ref 1218], (126, 120, L, [Y, T, HA, HB, RA, RB, ST, NS, I0, I1, I2, BO, FI, RG, GU, PU, MA, MN, MS_22, OT, SC], [r0, r1, r2, r3, w, r5, r6, r7, r8], Lg)) o := by
              intro v33 ze46
              subst ze46
              obtain ⟨j34, zh47, zh30⟩ := bnd zh30
              have zh47 : ixx 150 v19 = some j34 := zh47
              suffices e : Ev (d + 1, 0, 0, 55, 207, [.val (.ref 1088), .val (.int p1), .val (.int p2), .val (.int p3), .val (.int p4), .val (.int v19), .val (.int v20), .val (.int x23)], [], (126, 120, L, [Y, T, HA, HB, RA, RB, ST, NS, I0, I1, I2, BO, FI, RG, GU, PU, MA, MN, (u2 MS_22 2 j34 v33), OT, SC], [r0, r1, r2, r3, w, r5, r6, r7, r8], Lg)) o from ev_opt (fun j34 => (d + 1, 0, 0, 55, 207, [.val (.ref 1088), .val (.int p1), .val (.int p2), .val (.int p3), .val (.int p4), .val (.int v19), .val (.int v20), .val (.int x23)], [], (126, 120, L, [Y, T, HA, HB, RA, RB, ST, NS, I0, I1, I2, BO, FI, RG, GU, PU, MA, MN, (u2 MS_22 2 j34 v33), OT, SC], [r0, r1, r2, r3, w, r5, r6, r7, r8], Lg))) 1 zh47 e (fun n => Eq.refl _)
              exact ev_b 4 (zi28 _ (Option.some.inj zh30).symm (.int x23)) (fun n => Eq.refl _)
            by_cases zc48 : x23 ≠ 0
            · have zh44 := itp zh44 zc48
              suffices e : Ev (d + 1, 0, 0, 55, 194, [.val (.ref 1088), .val (.int p1), .val (.int p2), .val (.int p3), .val (.int p4), .val (.int v19), .val (.int v20), .val (.int x23)], [.int v19, .ref 1218], (126, 120, L, [Y, T, HA, HB, RA, RB, ST, NS, I0, I1, I2, BO, FI, RG, GU, PU, MA, MN, MS_22, OT, SC], [r0, r1, r2, r3, w, r5, r6, r7, r8], Lg)) o from ev_t (c := x23 ≠ 0) _ _ 5 zc48 e (fun n => Eq.refl _)
              obtain ⟨x30, zh49, zh44⟩ := bnd zh44
              have zh49 : rdx (MA 11) 150 v20 = some x30 := zh49
              suffices e : Ev (d + 1, 0, 0, 55, 205, [.val (.ref 1088), .val (.int p1), .val (.int p2), .val (.int p3), .val (.int p4), .val (.int v19), .val (.int v20), .val (.int x23)], [.int x30, .ref 1219, .int v19, .ref 1218], (126, 120, L, [Y, T, HA, HB, RA, RB, ST, NS, I0, I1, I2, BO, FI, RG, GU, PU, MA, MN, MS_22, OT, SC], [r0, r1, r2, r3, w, r5, r6, r7, r8], Lg)) o from ev_opt (fun x30 => (d + 1, 0, 0, 55, 205, [.val (.ref 1088), .val (.int p1), .val (.int p2), .val (.int p3), .val (.int p4), .val (.int v19), .val (.int v20), .val (.int x23)], [.int x30, .ref 1219, .int v19, .ref 1218], (126, 120, L, [Y, T, HA, HB, RA, RB, ST, NS, I0, I1, I2, BO, FI, RG, GU, PU, MA, MN, MS_22, OT, SC], [r0, r1, r2, r3, w, r5, r6, r7, r8], Lg))) 6 zh49 e (fun n => Eq.refl _)
              obtain ⟨x31, zh50, zh44⟩ := bnd zh44
              have zh50 : rdx (MS_22 3) 11 x30 = some x31 := zh50
              suffices e : Ev (d + 1, 0, 0, 55, 206, [.val (.ref 1088), .val (.int p1), .val (.int p2), .val (.int p3), .val (.int p4), .val (.int v19), .val (.int v20), .val (.int x23)], [.int x31, .int v19, .ref 1218], (126, 120, L, [Y, T, HA, HB, RA, RB, ST, NS, I0, I1, I2, BO, FI, RG, GU, PU, MA, MN, MS_22, OT, SC], [r0, r1, r2, r3, w, r5, r6, r7, r8], Lg)) o from ev_opt (fun x31 => (d + 1, 0, 0, 55, 206, [.val (.ref 1088), .val (.int p1), .val (.int p2), .val (.int p3), .val (.int p4), .val (.int v19), .val (.int v20), .val (.int x23)], [.int x31, .int v19, .ref 1218], (126, 120, L, [Y, T, HA, HB, RA, RB, ST, NS, I0, I1, I2, BO, FI, RG, GU, PU, MA, MN, MS_22, OT, SC], [r0, r1, r2, r3, w, r5, r6, r7, r8], Lg))) 1 zh50 e (fun n => Eq.refl _)
              exact ev_b 0 (zj45 x31 (Option.some.inj zh44) ) (fun n => Eq.refl _)
            · have zh44 := itn zh44 zc48
              suffices e : Ev (d + 1, 0, 0, 55, 184, [.val (.ref 1088), .val (.int p1), .val (.int p2), .val (.int p3), .val (.int p4), .val (.int v19), .val (.int v20), .val (.int x23)], [.int v19, .ref 1218], (126, 120, L, [Y, T, HA, HB, RA, RB, ST, NS, I0, I1, I2, BO, FI, RG, GU, PU, MA, MN, MS_22, OT, SC], [r0, r1, r2, r3, w, r5, r6, r7, r8], Lg)) o from ev_f (c := x23 ≠ 0) _ _ 5 zc48 e (fun n => Eq.refl _)
              obtain ⟨x32, zh51, zh44⟩ := bnd zh44
              have zh51 : rdx (MA 11) 150 v20 = some x32 := zh51
              suffices e : Ev (d + 1, 0, 0, 55, 191, [.val (.ref 1088), .val (.int p1), .val (.int p2), .val (.int p3), .val (.int p4), .val (.int v19), .val (.int v20), .val (.int x23)], [.int x32, .int v19, .ref 1218], (126, 120, L, [Y, T, HA, HB, RA, RB, ST, NS, I0, I1, I2, BO, FI, RG, GU, PU, MA, MN, MS_22, OT, SC], [r0, r1, r2, r3, w, r5, r6, r7, r8], Lg)) o from ev_opt (fun x32 => (d + 1, 0, 0, 55, 191, [.val (.ref 1088), .val (.int p1), .val (.int p2), .val (.int p3), .val (.int p4), .val (.int v19), .val (.int v20), .val (.int x23)], [.int x32, .int v19, .ref 1218], (126, 120, L, [Y, T, HA, HB, RA, RB, ST, NS, I0, I1, I2, BO, FI, RG, GU, PU, MA, MN, MS_22, OT, SC], [r0, r1, r2, r3, w, r5, r6, r7, r8], Lg))) 4 zh51 e (fun n => Eq.refl _)
              exact ev_b 1 (zj45 x32 (Option.some.inj zh44) ) (fun n => Eq.refl _)
      · skip
        intro s35 s36 s37
        obtain ⟨x39, zh52, h⟩ := bnd h
        have zh52 : rdx (MS_38 2) 150 0 = some x39 := zh52
        suffices e : Ev (d + 1, 0, 0, 55, 288, [.val (.ref 1088), .val (.int p1), .val (.int p2), .val (.int p3), .val (.int p4), .val s35, .val s36, .val s37], [.int x39], (126, 120, L, [Y, T, HA, HB, RA, RB, ST, NS, I0, I1, I2, BO, FI, RG, GU, PU, MA, MN, MS_38, OT, SC], [r0, r1, r2, r3, w, r5, r6, r7, r8], Lg)) o from ev_opt (fun x39 => (d + 1, 0, 0, 55, 288, [.val (.ref 1088), .val (.int p1), .val (.int p2), .val (.int p3), .val (.int p4), .val s35, .val s36, .val s37], [.int x39], (126, 120, L, [Y, T, HA, HB, RA, RB, ST, NS, I0, I1, I2, BO, FI, RG, GU, PU, MA, MN, MS_38, OT, SC], [r0, r1, r2, r3, w, r5, r6, r7, r8], Lg))) 4 zh52 e (fun n => Eq.refl _)
        by_cases zc53 : x39 ≠ 1
        · have h := itp h zc53
          suffices e : Ev (d + 1, 0, 0, 55, 296, [.val (.ref 1088), .val (.int p1), .val (.int p2), .val (.int p3), .val (.int p4), .val s35, .val s36, .val s37], [], (126, 120, L, [Y, T, HA, HB, RA, RB, ST, NS, I0, I1, I2, BO, FI, RG, GU, PU, MA, MN, MS_38, OT, SC], [r0, r1, r2, r3, w, r5, r6, r7, r8], Lg)) o from ev_t (c := x39 ≠ 1) _ _ 2 zc53 e (fun n => Eq.refl _)
          have ze54 := Option.some.inj h
          subst ze54
          exact ev_rete 2 ho (fun n => Eq.refl _)
        · have h := itn h zc53
          suffices e : Ev (d + 1, 0, 0, 55, 292, [.val (.ref 1088), .val (.int p1), .val (.int p2), .val (.int p3), .val (.int p4), .val s35, .val s36, .val s37], [], (126, 120, L, [Y, T, HA, HB, RA, RB, ST, NS, I0, I1, I2, BO, FI, RG, GU, PU, MA, MN, MS_38, OT, SC], [r0, r1, r2, r3, w, r5, r6, r7, r8], Lg)) o from ev_f (c := x39 ≠ 1) _ _ 2 zc53 e (fun n => Eq.refl _)
          have ze55 := Option.some.inj h
          subst ze55
          exact ev_rete 3 ho (fun n => Eq.refl _)
  · have h := itn h zc1
    suffices e : Ev (d + 1, 0, 0, 55, 7, [.val (.ref 1088), .val (.int p1), .val (.int p2), .val (.int p3), .val (.int p4), .val a_unk, .val a_unk, .val a_unk], [], (126, 120, L, [Y, T, HA, HB, RA, RB, ST, NS, I0, I1, I2, BO, FI, RG, GU, PU, MA, MN, MS, OT, SC], [r0, r1, r2, r3, w, r5, r6, r7, r8], Lg)) o from ev_f (c := (MA 0 40) ≠ 0) _ _ 3 zc1 e (fun n => Eq.refl _)
    have ze56 := Option.some.inj h
    subst ze56
    exact ev_rete 2 ho (fun n => Eq.refl _)
set_option maxRecDepth 1000000 in
set_option maxHeartbeats 4000000 in
theorem R_f_M_isMeeting_0 (d : Nat) (Y T HA HB RA RB ST NS I0 I1 I2 BO FI RG GU PU MA MN MS OT SC : Nat → Nat → Int32) (r0 r1 r2 r3 w r5 r6 r7 r8 : Nat) (L : Nat) (Lg : Int64) (p1 : Int32) (p2 : Int32) {r : Int32 × (Nat → Nat → Int32)} (h : f_M_isMeeting MA p1 p2 = some r) : Ev (d + 1, 0, 0, 58, 0, [.val (.ref 1088), .val (.int p1), .val (.int p2)], [], (126, 120, L, [Y, T, HA, HB, RA, RB, ST, NS, I0, I1, I2, BO, FI, RG, GU, PU, MA, MN, MS, OT, SC], [r0, r1, r2, r3, w, r5, r6, r7, r8], Lg)) ((0, some (.int r.1), (126, 120, L, [Y, T, HA, HB, RA, RB, ST, NS, I0, I1, I2, BO, FI, RG, GU, PU, r.2, MN, MS, OT, SC], [r0, r1, r2, r3, w, r5, r6, r7, r8], Lg)) : AOut) := by
  suffices key : ∀ o : AOut, ((0, some (.int r.1), (126, 120, L, [Y, T, HA, HB, RA, RB, ST, NS, I0, I1, I2, BO, FI, RG, GU, PU, r.2, MN, MS, OT, SC], [r0, r1, r2, r3, w, r5, r6, r7, r8], Lg)) : AOut) = o → Ev (d + 1, 0, 0, 58, 0, [.val (.ref 1088), .val (.int p1), .val (.int p2)], [], (126, 120, L, [Y, T, HA, HB, RA, RB, ST, NS, I0, I1, I2, BO, FI, RG, GU, PU, MA, MN, MS, OT, SC], [r0, r1, r2, r3, w, r5, r6, r7, r8], Lg)) o from key _ rfl
  intro o ho
  obtain ⟨x1, zh1, h⟩ := bnd h
  have zh1 : f_M_within p1 0 ((MA 0 26) - 1) = some x1 := zh1
  have ze2 := R_f_M_within_0 (d + 0) Y T HA HB RA RB ST NS I0 I1 I2 BO FI RG GU PU MA MN MS OT SC r0 r1 r2 r3 w r5 r6 r7 r8 L Lg p1 0 ((MA 0 26) - 1) zh1
  suffices e : Ev (d + 1, 0, 0, 58, 12, [.val (.ref 1088), .val (.int p1), .val (.int p2)], [.int x1, .ref 1088], (126, 120, L, [Y, T, HA, HB, RA, RB, ST, NS, I0, I1, I2, BO, FI, RG, GU, PU, MA, MN, MS, OT, SC], [r0, r1, r2, r3, w, r5, r6, r7, r8], Lg)) o from ev_call (fun v μ => (d + 1, 0, 0, 58, 12, [.val (.ref 1088), .val (.int p1), .val (.int p2)], v.toList ++ [.ref 1088], μ)) 8 ze2 e (fun n => Eq.refl _)
  obtain ⟨⟨x2, MA_3⟩, zh3, h⟩ := bnd h
  have zh3 : f_M_may MA x1 p2 0 = some (x2, MA_3) := zh3
  have ze4 := R_f_M_may_0 (d + 0) Y T HA HB RA RB ST NS I0 I1 I2 BO FI RG GU PU MA MN MS OT SC r0 r1 r2 r3 w r5 r6 r7 r8 L Lg x1 p2 0 zh3
  suffices e : Ev (d + 1, 0, 0, 58, 17, [.val (.ref 1088), .val (.int p1), .val (.int p2)], [.int x2], (126, 120, L, [Y, T, HA, HB, RA, RB, ST, NS, I0, I1, I2, BO, FI, RG, GU, PU, MA_3, MN, MS, OT, SC], [r0, r1, r2, r3, w, r5, r6, r7, r8], Lg)) o from ev_call (fun v μ => (d + 1, 0, 0, 58, 17, [.val (.ref 1088), .val (.int p1), .val (.int p2)], v.toList ++ [], μ)) 3 ze4 e (fun n => Eq.refl _)
  have ze5 := Option.some.inj h
  subst ze5
  exact ev_rete 1 ho (fun n => Eq.refl _)
set_option maxRecDepth 1000000 in
set_option maxHeartbeats 4000000 in
theorem R_f_M_isRoom_0 (d : Nat) (Y T HA HB RA RB ST NS I0 I1 I2 BO FI RG GU PU MA MN MS OT SC : Nat → Nat → Int32) (r0 r1 r2 r3 w r5 r6 r7 r8 : Nat) (L : Nat) (Lg : Int64) (p1 : Int32) (p2 : Int32) {r : Int32 × (Nat → Nat → Int32)} (h : f_M_isRoom MA p1 p2 = some r) : Ev (d + 1, 0, 0, 59, 0, [.val (.ref 1088), .val (.int p1), .val (.int p2)], [], (126, 120, L, [Y, T, HA, HB, RA, RB, ST, NS, I0, I1, I2, BO, FI, RG, GU, PU, MA, MN, MS, OT, SC], [r0, r1, r2, r3, w, r5, r6, r7, r8], Lg)) ((0, some (.int r.1), (126, 120, L, [Y, T, HA, HB, RA, RB, ST, NS, I0, I1, I2, BO, FI, RG, GU, PU, r.2, MN, MS, OT, SC], [r0, r1, r2, r3, w, r5, r6, r7, r8], Lg)) : AOut) := by
  suffices key : ∀ o : AOut, ((0, some (.int r.1), (126, 120, L, [Y, T, HA, HB, RA, RB, ST, NS, I0, I1, I2, BO, FI, RG, GU, PU, r.2, MN, MS, OT, SC], [r0, r1, r2, r3, w, r5, r6, r7, r8], Lg)) : AOut) = o → Ev (d + 1, 0, 0, 59, 0, [.val (.ref 1088), .val (.int p1), .val (.int p2)], [], (126, 120, L, [Y, T, HA, HB, RA, RB, ST, NS, I0, I1, I2, BO, FI, RG, GU, PU, MA, MN, MS, OT, SC], [r0, r1, r2, r3, w, r5, r6, r7, r8], Lg)) o from key _ rfl
  intro o ho
  obtain ⟨x1, zh1, h⟩ := bnd h
  have zh1 : f_M_within p1 0 ((MA 0 24) - 1) = some x1 := zh1
  have ze2 := R_f_M_within_0 (d + 0) Y T HA HB RA RB ST NS I0 I1 I2 BO FI RG GU PU MA MN MS OT SC r0 r1 r2 r3 w r5 r6 r7 r8 L Lg p1 0 ((MA 0 24) - 1) zh1
  suffices e : Ev (d + 1, 0, 0, 59, 12, [.val (.ref 1088), .val (.int p1), .val (.int p2)], [.int x1, .ref 1088], (126, 120, L, [Y, T, HA, HB, RA, RB, ST, NS, I0, I1, I2, BO, FI, RG, GU, PU, MA, MN, MS, OT, SC], [r0, r1, r2, r3, w, r5, r6, r7, r8], Lg)) o from ev_call (fun v μ => (d + 1, 0, 0, 59, 12, [.val (.ref 1088), .val (.int p1), .val (.int p2)], v.toList ++ [.ref 1088], μ)) 8 ze2 e (fun n => Eq.refl _)
  obtain ⟨⟨x2, MA_3⟩, zh3, h⟩ := bnd h
  have zh3 : f_M_may MA x1 p2 0 = some (x2, MA_3) := zh3
  have ze4 := R_f_M_may_0 (d + 0) Y T HA HB RA RB ST NS I0 I1 I2 BO FI RG GU PU MA MN MS OT SC r0 r1 r2 r3 w r5 r6 r7 r8 L Lg x1 p2 0 zh3
  suffices e : Ev (d + 1, 0, 0, 59, 17, [.val (.ref 1088), .val (.int p1), .val (.int p2)], [.int x2], (126, 120, L, [Y, T, HA, HB, RA, RB, ST, NS, I0, I1, I2, BO, FI, RG, GU, PU, MA_3, MN, MS, OT, SC], [r0, r1, r2, r3, w, r5, r6, r7, r8], Lg)) o from ev_call (fun v μ => (d + 1, 0, 0, 59, 17, [.val (.ref 1088), .val (.int p1), .val (.int p2)], v.toList ++ [], μ)) 3 ze4 e (fun n => Eq.refl _)
  have ze5 := Option.some.inj h
  subst ze5
  exact ev_rete 1 ho (fun n => Eq.refl _)
set_option maxRecDepth 1000000 in
set_option maxHeartbeats 4000000 in
theorem R_f_M_isPerson_0 (d : Nat) (Y T HA HB RA RB ST NS I0 I1 I2 BO FI RG GU PU MA MN MS OT SC : Nat → Nat → Int32) (r0 r1 r2 r3 w r5 r6 r7 r8 : Nat) (L : Nat) (Lg : Int64) (p1 : Int32) (p2 : Int32) {r : Int32 × (Nat → Nat → Int32)} (h : f_M_isPerson MA p1 p2 = some r) : Ev (d + 1, 0, 0, 60, 0, [.val (.ref 1088), .val (.int p1), .val (.int p2)], [], (126, 120, L, [Y, T, HA, HB, RA, RB, ST, NS, I0, I1, I2, BO, FI, RG, GU, PU, MA, MN, MS, OT, SC], [r0, r1, r2, r3, w, r5, r6, r7, r8], Lg)) ((0, some (.int r.1), (126, 120, L, [Y, T, HA, HB, RA, RB, ST, NS, I0, I1, I2, BO, FI, RG, GU, PU, r.2, MN, MS, OT, SC], [r0, r1, r2, r3, w, r5, r6, r7, r8], Lg)) : AOut) := by
  suffices key : ∀ o : AOut, ((0, some (.int r.1), (126, 120, L, [Y, T, HA, HB, RA, RB, ST, NS, I0, I1, I2, BO, FI, RG, GU, PU, r.2, MN, MS, OT, SC], [r0, r1, r2, r3, w, r5, r6, r7, r8], Lg)) : AOut) = o → Ev (d + 1, 0, 0, 60, 0, [.val (.ref 1088), .val (.int p1), .val (.int p2)], [], (126, 120, L, [Y, T, HA, HB, RA, RB, ST, NS, I0, I1, I2, BO, FI, RG, GU, PU, MA, MN, MS, OT, SC], [r0, r1, r2, r3, w, r5, r6, r7, r8], Lg)) o from key _ rfl
  intro o ho
  obtain ⟨x1, zh1, h⟩ := bnd h
  have zh1 : f_M_within p1 0 ((MA 0 25) - 1) = some x1 := zh1
  have ze2 := R_f_M_within_0 (d + 0) Y T HA HB RA RB ST NS I0 I1 I2 BO FI RG GU PU MA MN MS OT SC r0 r1 r2 r3 w r5 r6 r7 r8 L Lg p1 0 ((MA 0 25) - 1) zh1
  suffices e : Ev (d + 1, 0, 0, 60, 12, [.val (.ref 1088), .val (.int p1), .val (.int p2)], [.int x1, .ref 1088], (126, 120, L, [Y, T, HA, HB, RA, RB, ST, NS, I0, I1, I2, BO, FI, RG, GU, PU, MA, MN, MS, OT, SC], [r0, r1, r2, r3, w, r5, r6, r7, r8], Lg)) o from ev_call (fun v μ => (d + 1, 0, 0, 60, 12, [.val (.ref 1088), .val (.int p1), .val (.int p2)], v.toList ++ [.ref 1088], μ)) 8 ze2 e (fun n => Eq.refl _)
  obtain ⟨⟨x2, MA_3⟩, zh3, h⟩ := bnd h
  have zh3 : f_M_may MA x1 p2 0 = some (x2, MA_3) := zh3
  have ze4 := R_f_M_may_0 (d + 0) Y T HA HB RA RB ST NS I0 I1 I2 BO FI RG GU PU MA MN MS OT SC r0 r1 r2 r3 w r5 r6 r7 r8 L Lg x1 p2 0 zh3
  suffices e : Ev (d + 1, 0, 0, 60, 17, [.val (.ref 1088), .val (.int p1), .val (.int p2)], [.int x2], (126, 120, L, [Y, T, HA, HB, RA, RB, ST, NS, I0, I1, I2, BO, FI, RG, GU, PU, MA_3, MN, MS, OT, SC], [r0, r1, r2, r3, w, r5, r6, r7, r8], Lg)) o from ev_call (fun v μ => (d + 1, 0, 0, 60, 17, [.val (.ref 1088), .val (.int p1), .val (.int p2)], v.toList ++ [], μ)) 3 ze4 e (fun n => Eq.refl _)
  have ze5 := Option.some.inj h
  subst ze5
  exact ev_rete 1 ho (fun n => Eq.refl _)
set_option maxRecDepth 1000000 in
set_option maxHeartbeats 4000000 in
theorem R_f_M_isHold_0 (d : Nat) (Y T HA HB RA RB ST NS I0 I1 I2 BO FI RG GU PU MA MN MS OT SC : Nat → Nat → Int32) (r0 r1 r2 r3 w r5 r6 r7 r8 : Nat) (L : Nat) (Lg : Int64) (p1 : Int32) (p2 : Int32) {r : Int32 × (Nat → Nat → Int32)} (h : f_M_isHold MA p1 p2 = some r) : Ev (d + 1, 0, 0, 61, 0, [.val (.ref 1088), .val (.int p1), .val (.int p2)], [], (126, 120, L, [Y, T, HA, HB, RA, RB, ST, NS, I0, I1, I2, BO, FI, RG, GU, PU, MA, MN, MS, OT, SC], [r0, r1, r2, r3, w, r5, r6, r7, r8], Lg)) ((0, some (.int r.1), (126, 120, L, [Y, T, HA, HB, RA, RB, ST, NS, I0, I1, I2, BO, FI, RG, GU, PU, r.2, MN, MS, OT, SC], [r0, r1, r2, r3, w, r5, r6, r7, r8], Lg)) : AOut) := by
  suffices key : ∀ o : AOut, ((0, some (.int r.1), (126, 120, L, [Y, T, HA, HB, RA, RB, ST, NS, I0, I1, I2, BO, FI, RG, GU, PU, r.2, MN, MS, OT, SC], [r0, r1, r2, r3, w, r5, r6, r7, r8], Lg)) : AOut) = o → Ev (d + 1, 0, 0, 61, 0, [.val (.ref 1088), .val (.int p1), .val (.int p2)], [], (126, 120, L, [Y, T, HA, HB, RA, RB, ST, NS, I0, I1, I2, BO, FI, RG, GU, PU, MA, MN, MS, OT, SC], [r0, r1, r2, r3, w, r5, r6, r7, r8], Lg)) o from key _ rfl
  intro o ho
  obtain ⟨x1, zh1, h⟩ := bnd h
  have zh1 : f_M_within p1 0 ((MA 0 27) - 1) = some x1 := zh1
  have ze2 := R_f_M_within_0 (d + 0) Y T HA HB RA RB ST NS I0 I1 I2 BO FI RG GU PU MA MN MS OT SC r0 r1 r2 r3 w r5 r6 r7 r8 L Lg p1 0 ((MA 0 27) - 1) zh1
  suffices e : Ev (d + 1, 0, 0, 61, 12, [.val (.ref 1088), .val (.int p1), .val (.int p2)], [.int x1, .ref 1088], (126, 120, L, [Y, T, HA, HB, RA, RB, ST, NS, I0, I1, I2, BO, FI, RG, GU, PU, MA, MN, MS, OT, SC], [r0, r1, r2, r3, w, r5, r6, r7, r8], Lg)) o from ev_call (fun v μ => (d + 1, 0, 0, 61, 12, [.val (.ref 1088), .val (.int p1), .val (.int p2)], v.toList ++ [.ref 1088], μ)) 8 ze2 e (fun n => Eq.refl _)
  obtain ⟨⟨x2, MA_3⟩, zh3, h⟩ := bnd h
  have zh3 : f_M_may MA x1 p2 0 = some (x2, MA_3) := zh3
  have ze4 := R_f_M_may_0 (d + 0) Y T HA HB RA RB ST NS I0 I1 I2 BO FI RG GU PU MA MN MS OT SC r0 r1 r2 r3 w r5 r6 r7 r8 L Lg x1 p2 0 zh3
  suffices e : Ev (d + 1, 0, 0, 61, 17, [.val (.ref 1088), .val (.int p1), .val (.int p2)], [.int x2], (126, 120, L, [Y, T, HA, HB, RA, RB, ST, NS, I0, I1, I2, BO, FI, RG, GU, PU, MA_3, MN, MS, OT, SC], [r0, r1, r2, r3, w, r5, r6, r7, r8], Lg)) o from ev_call (fun v μ => (d + 1, 0, 0, 61, 17, [.val (.ref 1088), .val (.int p1), .val (.int p2)], v.toList ++ [], μ)) 3 ze4 e (fun n => Eq.refl _)
  have ze5 := Option.some.inj h
  subst ze5
  exact ev_rete 1 ho (fun n => Eq.refl _)
set_option maxRecDepth 1000000 in
set_option maxHeartbeats 4000000 in
theorem R_f_M_isFixed_0 (d : Nat) (Y T HA HB RA RB ST NS I0 I1 I2 BO FI RG GU PU MA MN MS OT SC : Nat → Nat → Int32) (r0 r1 r2 r3 w r5 r6 r7 r8 : Nat) (L : Nat) (Lg : Int64) (p1 : Int32) {r : Int32} (h : f_M_isFixed MA p1 = some r) : Ev (d + 0, 0, 0, 62, 0, [.val (.ref 1088), .val (.int p1)], [], (126, 120, L, [Y, T, HA, HB, RA, RB, ST, NS, I0, I1, I2, BO, FI, RG, GU, PU, MA, MN, MS, OT, SC], [r0, r1, r2, r3, w, r5, r6, r7, r8], Lg)) ((0, some (.int r), (126, 120, L, [Y, T, HA, HB, RA, RB, ST, NS, I0, I1, I2, BO, FI, RG, GU, PU, MA, MN, MS, OT, SC], [r0, r1, r2, r3, w, r5, r6, r7, r8], Lg)) : AOut) := by
  suffices key : ∀ o : AOut, ((0, some (.int r), (126, 120, L, [Y, T, HA, HB, RA, RB, ST, NS, I0, I1, I2, BO, FI, RG, GU, PU, MA, MN, MS, OT, SC], [r0, r1, r2, r3, w, r5, r6, r7, r8], Lg)) : AOut) = o → Ev (d + 0, 0, 0, 62, 0, [.val (.ref 1088), .val (.int p1)], [], (126, 120, L, [Y, T, HA, HB, RA, RB, ST, NS, I0, I1, I2, BO, FI, RG, GU, PU, MA, MN, MS, OT, SC], [r0, r1, r2, r3, w, r5, r6, r7, r8], Lg)) o from key _ rfl
  intro o ho
  obtain ⟨x1, zh1, h⟩ := bnd h
  have zh1 : rdx (MA 5) 60 ((6 * p1) + 4) = some x1 := zh1
  suffices e : Ev (d + 0, 0, 0, 62, 11, [.val (.ref 1088), .val (.int p1)], [.int x1], (126, 120, L, [Y, T, HA, HB, RA, RB, ST, NS, I0, I1, I2, BO, FI, RG, GU, PU, MA, MN, MS, OT, SC], [r0, r1, r2, r3, w, r5, r6, r7, r8], Lg)) o from ev_opt (fun x1 => (d + 0, 0, 0, 62, 11, [.val (.ref 1088), .val (.int p1)], [.int x1], (126, 120, L, [Y, T, HA, HB, RA, RB, ST, NS, I0, I1, I2, BO, FI, RG, GU, PU, MA, MN, MS, OT, SC], [r0, r1, r2, r3, w, r5, r6, r7, r8], Lg))) 8 zh1 e (fun n => Eq.refl _)
  by_cases zc2 : x1 ≠ 1
  · have h := itp h zc2
    suffices e : Ev (d + 0, 0, 0, 62, 19, [.val (.ref 1088), .val (.int p1)], [], (126, 120, L, [Y, T, HA, HB, RA, RB, ST, NS, I0, I1, I2, BO, FI, RG, GU, PU, MA, MN, MS, OT, SC], [r0, r1, r2, r3, w, r5, r6, r7, r8], Lg)) o from ev_t (c := x1 ≠ 1) _ _ 2 zc2 e (fun n => Eq.refl _)
    have ze3 := Option.some.inj h
    subst ze3
    exact ev_rete 2 ho (fun n => Eq.refl _)
  · have h := itn h zc2
    suffices e : Ev (d + 0, 0, 0, 62, 15, [.val (.ref 1088), .val (.int p1)], [], (126, 120, L, [Y, T, HA, HB, RA, RB, ST, NS, I0, I1, I2, BO, FI, RG, GU, PU, MA, MN, MS, OT, SC], [r0, r1, r2, r3, w, r5, r6, r7, r8], Lg)) o from ev_f (c := x1 ≠ 1) _ _ 2 zc2 e (fun n => Eq.refl _)
    have ze4 := Option.some.inj h
    subst ze4
    exact ev_rete 3 ho (fun n => Eq.refl _)
set_option maxRecDepth 1000000 in
set_option maxHeartbeats 4000000 in
theorem R_f_M_isHeld_0 (d : Nat) (Y T HA HB RA RB ST NS I0 I1 I2 BO FI RG GU PU MA MN MS OT SC : Nat → Nat → Int32) (r0 r1 r2 r3 w r5 r6 r7 r8 : Nat) (L : Nat) (Lg : Int64) (p1 : Int32) {r : Int32} (h : f_M_isHeld MA p1 = some r) : Ev (d + 0, 0, 0, 63, 0, [.val (.ref 1088), .val (.int p1), .val a_unk], [], (126, 120, L, [Y, T, HA, HB, RA, RB, ST, NS, I0, I1, I2, BO, FI, RG, GU, PU, MA, MN, MS, OT, SC], [r0, r1, r2, r3, w, r5, r6, r7, r8], Lg)) ((0, some (.int r), (126, 120, L, [Y, T, HA, HB, RA, RB, ST, NS, I0, I1, I2, BO, FI, RG, GU, PU, MA, MN, MS, OT, SC], [r0, r1, r2, r3, w, r5, r6, r7, r8], Lg)) : AOut) := by
  suffices key : ∀ o : AOut, ((0, some (.int r), (126, 120, L, [Y, T, HA, HB, RA, RB, ST, NS, I0, I1, I2, BO, FI, RG, GU, PU, MA, MN, MS, OT, SC], [r0, r1, r2, r3, w, r5, r6, r7, r8], Lg)) : AOut) = o → Ev (d + 0, 0, 0, 63, 0, [.val (.ref 1088), .val (.int p1), .val a_unk], [], (126, 120, L, [Y, T, HA, HB, RA, RB, ST, NS, I0, I1, I2, BO, FI, RG, GU, PU, MA, MN, MS, OT, SC], [r0, r1, r2, r3, w, r5, r6, r7, r8], Lg)) o from key _ rfl
  intro o ho
  obtain ⟨zb1, zh2, h⟩ := bnd h
  suffices e : Ev (d + 0, 0, 0, 63, 2, [.val (.ref 1088), .val (.int p1), .val (.int 0)], [], (126, 120, L, [Y, T, HA, HB, RA, RB, ST, NS, I0, I1, I2, BO, FI, RG, GU, PU, MA, MN, MS, OT, SC], [r0, r1, r2, r3, w, r5, r6, r7, r8], Lg)) o from ev_b 2 e (fun n => Eq.refl _)
  refine ev_loop (δ := Unit) (fun a j => (d + 0, 0, 0, 63, 2, [.val (.ref 1088), .val (.int p1), .val (.int a)], [], (126, 120, L, [Y, T, HA, HB, RA, RB, ST, NS, I0, I1, I2, BO, FI, RG, GU, PU, MA, MN, MS, OT, SC], [r0, r1, r2, r3, w, r5, r6, r7, r8], Lg))) (fun b => sumE b (fun b => ∀ s4 : Value, Ev (d + 0, 0, 0, 63, 43, [.val (.ref 1088), .val (.int p1), .val s4], [], (126, 120, L, [Y, T, HA, HB, RA, RB, ST, NS, I0, I1, I2, BO, FI, RG, GU, PU, MA, MN, MS, OT, SC], [r0, r1, r2, r3, w, r5, r6, r7, r8], Lg)) o) (fun b => ((0, some (.int b), (126, 120, L, [Y, T, HA, HB, RA, RB, ST, NS, I0, I1, I2, BO, FI, RG, GU, PU, MA, MN, MS, OT, SC], [r0, r1, r2, r3, w, r5, r6, r7, r8], Lg)) : AOut) = o)) ?_ a_F 0 zb1 zh2 ?_ ()
  · rintro v1 zr6 zh5 zi3 zx4 ⟨⟩
    have zh5 : f_M_isHeld_l2 MA p1 v1 = some zr6 := zh5
    by_cases zc7 : (MA 0 27) ≤ v1
    · have zh5 := itp zh5 zc7
      suffices e : Ev (d + 0, 0, 0, 63, 43, [.val (.ref 1088), .val (.int p1), .val (.int v1)], [], (126, 120, L, [Y, T, HA, HB, RA, RB, ST, NS, I0, I1, I2, BO, FI, RG, GU, PU, MA, MN, MS, OT, SC], [r0, r1, r2, r3, w, r5, r6, r7, r8], Lg)) o from ev_t (c := (MA 0 27) ≤ v1) _ _ 4 zc7 e (fun n => Eq.refl _)
      exact ev_b 0 (zx4 _ (Option.some.inj zh5).symm (.int v1)) (fun n => Eq.refl _)
    · have zh5 := itn zh5 zc7
      suffices e : Ev (d + 0, 0, 0, 63, 10, [.val (.ref 1088), .val (.int p1), .val (.int v1)], [], (126, 120, L, [Y, T, HA, HB, RA, RB, ST, NS, I0, I1, I2, BO, FI, RG, GU, PU, MA, MN, MS, OT, SC], [r0, r1, r2, r3, w, r5, r6, r7, r8], Lg)) o from ev_f (c := (MA 0 27) ≤ v1) _ _ 4 zc7 e (fun n => Eq.refl _)
      obtain ⟨x2, zh8, zh5⟩ := bnd zh5
      have zh8 : rdx (MA 6) 16 (4 * v1) = some x2 := zh8
      suffices e : Ev (d + 0, 0, 0, 63, 18, [.val (.ref 1088), .val (.int p1), .val (.int v1)], [.int x2], (126, 120, L, [Y, T, HA, HB, RA, RB, ST, NS, I0, I1, I2, BO, FI, RG, GU, PU, MA, MN, MS, OT, SC], [r0, r1, r2, r3, w, r5, r6, r7, r8], Lg)) o from ev_opt (fun x2 => (d + 0, 0, 0, 63, 18, [.val (.ref 1088), .val (.int p1), .val (.int v1)], [.int x2], (126, 120, L, [Y, T, HA, HB, RA, RB, ST, NS, I0, I1, I2, BO, FI, RG, GU, PU, MA, MN, MS, OT, SC], [r0, r1, r2, r3, w, r5, r6, r7, r8], Lg))) 6 zh8 e (fun n => Eq.refl _)
      by_cases zc9 : x2 ≠ p1
      · have zh5 := itp zh5 zc9
        suffices e : Ev (d + 0, 0, 0, 63, 37, [.val (.ref 1088), .val (.int p1), .val (.int v1)], [], (126, 120, L, [Y, T, HA, HB, RA, RB, ST, NS, I0, I1, I2, BO, FI, RG, GU, PU, MA, MN, MS, OT, SC], [r0, r1, r2, r3, w, r5, r6, r7, r8], Lg)) o from ev_t (c := x2 ≠ p1) _ _ 2 zc9 e (fun n => Eq.refl _)
        exact ev_b 2 (zi3 _ (Option.some.inj zh5).symm ()) (fun n => Eq.refl _)
      · have zh5 := itn zh5 zc9
        suffices e : Ev (d + 0, 0, 0, 63, 22, [.val (.ref 1088), .val (.int p1), .val (.int v1)], [], (126, 120, L, [Y, T, HA, HB, RA, RB, ST, NS, I0, I1, I2, BO, FI, RG, GU, PU, MA, MN, MS, OT, SC], [r0, r1, r2, r3, w, r5, r6, r7, r8], Lg)) o from ev_f (c := x2 ≠ p1) _ _ 2 zc9 e (fun n => Eq.refl _)
        obtain ⟨x3, zh10, zh5⟩ := bnd zh5
        have zh10 : rdx (MA 6) 16 ((4 * v1) + 3) = some x3 := zh10
        suffices e : Ev (d + 0, 0, 0, 63, 32, [.val (.ref 1088), .val (.int p1), .val (.int v1)], [.int x3], (126, 120, L, [Y, T, HA, HB, RA, RB, ST, NS, I0, I1, I2, BO, FI, RG, GU, PU, MA, MN, MS, OT, SC], [r0, r1, r2, r3, w, r5, r6, r7, r8], Lg)) o from ev_opt (fun x3 => (d + 0, 0, 0, 63, 32, [.val (.ref 1088), .val (.int p1), .val (.int v1)], [.int x3], (126, 120, L, [Y, T, HA, HB, RA, RB, ST, NS, I0, I1, I2, BO, FI, RG, GU, PU, MA, MN, MS, OT, SC], [r0, r1, r2, r3, w, r5, r6, r7, r8], Lg))) 8 zh10 e (fun n => Eq.refl _)
        by_cases zc11 : x3 ≠ 0
        · have zh5 := itp zh5 zc11
          suffices e : Ev (d + 0, 0, 0, 63, 37, [.val (.ref 1088), .val (.int p1), .val (.int v1)], [], (126, 120, L, [Y, T, HA, HB, RA, RB, ST, NS, I0, I1, I2, BO, FI, RG, GU, PU, MA, MN, MS, OT, SC], [r0, r1, r2, r3, w, r5, r6, r7, r8], Lg)) o from ev_t (c := x3 ≠ 0) _ _ 1 zc11 e (fun n => Eq.refl _)
          exact ev_b 2 (zi3 _ (Option.some.inj zh5).symm ()) (fun n => Eq.refl _)
        · have zh5 := itn zh5 zc11
          suffices e : Ev (d + 0, 0, 0, 63, 35, [.val (.ref 1088), .val (.int p1), .val (.int v1)], [], (126, 120, L, [Y, T, HA, HB, RA, RB, ST, NS, I0, I1, I2, BO, FI, RG, GU, PU, MA, MN, MS, OT, SC], [r0, r1, r2, r3, w, r5, r6, r7, r8], Lg)) o from ev_f (c := x3 ≠ 0) _ _ 1 zc11 e (fun n => Eq.refl _)
          exact ev_rete 2 (zx4 _ (Option.some.inj zh5).symm) (fun n => Eq.refl _)
  · rcases zb1 with ⟨⟩ | zr6
    · intro s4
      have ze12 := Option.some.inj h
      subst ze12
      exact ev_rete 2 ho (fun n => Eq.refl _)
    · have zh13 : some zr6 = some r := h
      exact (congrArg (fun q => ((0, some (.int q), (126, 120, L, [Y, T, HA, HB, RA, RB, ST, NS, I0, I1, I2, BO, FI, RG, GU, PU, MA, MN, MS, OT, SC], [r0, r1, r2, r3, w, r5, r6, r7, r8], Lg)) : AOut)) (Option.some.inj zh13)).trans ho
set_option maxRecDepth 1000000 in
set_option maxHeartbeats 4000000 in
theorem R_f_M_mayIn_0 (d : Nat) (Y T HA HB RA RB ST NS I0 I1 I2 BO FI RG GU PU MA MN MS OT SC : Nat → Nat → Int32) (r0 r1 r2 r3 w r5 r6 r7 r8 : Nat) (L : Nat) (Lg : Int64) (p1 : Int32) {r : Int32} (h : f_M_mayIn MA p1 = some r) : Ev (d + 0, 0, 0, 64, 0, [.val (.ref 1088), .val (.int p1)], [], (126, 120, L, [Y, T, HA, HB, RA, RB, ST, NS, I0, I1, I2, BO, FI, RG, GU, PU, MA, MN, MS, OT, SC], [r0, r1, r2, r3, w, r5, r6, r7, r8], Lg)) ((0, some (.int r), (126, 120, L, [Y, T, HA, HB, RA, RB, ST, NS, I0, I1, I2, BO, FI, RG, GU, PU, MA, MN, MS, OT, SC], [r0, r1, r2, r3, w, r5, r6, r7, r8], Lg)) : AOut) := by
  suffices key : ∀ o : AOut, ((0, some (.int r), (126, 120, L, [Y, T, HA, HB, RA, RB, ST, NS, I0, I1, I2, BO, FI, RG, GU, PU, MA, MN, MS, OT, SC], [r0, r1, r2, r3, w, r5, r6, r7, r8], Lg)) : AOut) = o → Ev (d + 0, 0, 0, 64, 0, [.val (.ref 1088), .val (.int p1)], [], (126, 120, L, [Y, T, HA, HB, RA, RB, ST, NS, I0, I1, I2, BO, FI, RG, GU, PU, MA, MN, MS, OT, SC], [r0, r1, r2, r3, w, r5, r6, r7, r8], Lg)) o from key _ rfl
  intro o ho
  obtain ⟨x1, zh1, h⟩ := bnd h
  have zh1 : rdx (MA 5) 60 ((6 * p1) + 3) = some x1 := zh1
  suffices e : Ev (d + 0, 0, 0, 64, 11, [.val (.ref 1088), .val (.int p1)], [.int x1], (126, 120, L, [Y, T, HA, HB, RA, RB, ST, NS, I0, I1, I2, BO, FI, RG, GU, PU, MA, MN, MS, OT, SC], [r0, r1, r2, r3, w, r5, r6, r7, r8], Lg)) o from ev_opt (fun x1 => (d + 0, 0, 0, 64, 11, [.val (.ref 1088), .val (.int p1)], [.int x1], (126, 120, L, [Y, T, HA, HB, RA, RB, ST, NS, I0, I1, I2, BO, FI, RG, GU, PU, MA, MN, MS, OT, SC], [r0, r1, r2, r3, w, r5, r6, r7, r8], Lg))) 8 zh1 e (fun n => Eq.refl _)
  by_cases zc2 : x1 ≠ 0
  · have h := itp h zc2
    suffices e : Ev (d + 0, 0, 0, 64, 25, [.val (.ref 1088), .val (.int p1)], [], (126, 120, L, [Y, T, HA, HB, RA, RB, ST, NS, I0, I1, I2, BO, FI, RG, GU, PU, MA, MN, MS, OT, SC], [r0, r1, r2, r3, w, r5, r6, r7, r8], Lg)) o from ev_t (c := x1 ≠ 0) _ _ 1 zc2 e (fun n => Eq.refl _)
    obtain ⟨x2, zh3, h⟩ := bnd h
    have zh3 : rdx (MA 5) 60 ((6 * p1) + 3) = some x2 := zh3
    suffices e : Ev (d + 0, 0, 0, 64, 36, [.val (.ref 1088), .val (.int p1)], [.int x2], (126, 120, L, [Y, T, HA, HB, RA, RB, ST, NS, I0, I1, I2, BO, FI, RG, GU, PU, MA, MN, MS, OT, SC], [r0, r1, r2, r3, w, r5, r6, r7, r8], Lg)) o from ev_opt (fun x2 => (d + 0, 0, 0, 64, 36, [.val (.ref 1088), .val (.int p1)], [.int x2], (126, 120, L, [Y, T, HA, HB, RA, RB, ST, NS, I0, I1, I2, BO, FI, RG, GU, PU, MA, MN, MS, OT, SC], [r0, r1, r2, r3, w, r5, r6, r7, r8], Lg))) 8 zh3 e (fun n => Eq.refl _)
    have ze4 := Option.some.inj h
    subst ze4
    exact ev_rete 1 ho (fun n => Eq.refl _)
  · have h := itn h zc2
    suffices e : Ev (d + 0, 0, 0, 64, 14, [.val (.ref 1088), .val (.int p1)], [], (126, 120, L, [Y, T, HA, HB, RA, RB, ST, NS, I0, I1, I2, BO, FI, RG, GU, PU, MA, MN, MS, OT, SC], [r0, r1, r2, r3, w, r5, r6, r7, r8], Lg)) o from ev_f (c := x1 ≠ 0) _ _ 1 zc2 e (fun n => Eq.refl _)
    have ze5 := Option.some.inj h
    subst ze5
    exact ev_rete 8 ho (fun n => Eq.refl _)
set_option maxRecDepth 1000000 in
set_option maxHeartbeats 4000000 in
theorem R_f_M_busyIn_0 (d : Nat) (Y T HA HB RA RB ST NS I0 I1 I2 BO FI RG GU PU MA MN MS OT SC : Nat → Nat → Int32) (r0 r1 r2 r3 w r5 r6 r7 r8 : Nat) (L : Nat) (Lg : Int64) (p1 : Int32) {r : Int32} (h : f_M_busyIn MA p1 = some r) : Ev (d + 0, 0, 0, 65, 0, [.val (.ref 1088), .val (.int p1), .val a_unk, .val a_unk], [], (126, 120, L, [Y, T, HA, HB, RA, RB, ST, NS, I0, I1, I2, BO, FI, RG, GU, PU, MA, MN, MS, OT, SC], [r0, r1, r2, r3, w, r5, r6, r7, r8], Lg)) ((0, some (.int r), (126, 120, L, [Y, T, HA, HB, RA, RB, ST, NS, I0, I1, I2, BO, FI, RG, GU, PU, MA, MN, MS, OT, SC], [r0, r1, r2, r3, w, r5, r6, r7, r8], Lg)) : AOut) := by
  suffices key : ∀ o : AOut, ((0, some (.int r), (126, 120, L, [Y, T, HA, HB, RA, RB, ST, NS, I0, I1, I2, BO, FI, RG, GU, PU, MA, MN, MS, OT, SC], [r0, r1, r2, r3, w, r5, r6, r7, r8], Lg)) : AOut) = o → Ev (d + 0, 0, 0, 65, 0, [.val (.ref 1088), .val (.int p1), .val a_unk, .val a_unk], [], (126, 120, L, [Y, T, HA, HB, RA, RB, ST, NS, I0, I1, I2, BO, FI, RG, GU, PU, MA, MN, MS, OT, SC], [r0, r1, r2, r3, w, r5, r6, r7, r8], Lg)) o from key _ rfl
  intro o ho
  obtain ⟨v6, zh2, h⟩ := bnd h
  suffices e : Ev (d + 0, 0, 0, 65, 4, [.val (.ref 1088), .val (.int p1), .val (.int 0), .val (.int 0)], [], (126, 120, L, [Y, T, HA, HB, RA, RB, ST, NS, I0, I1, I2, BO, FI, RG, GU, PU, MA, MN, MS, OT, SC], [r0, r1, r2, r3, w, r5, r6, r7, r8], Lg)) o from ev_b 4 e (fun n => Eq.refl _)
  refine ev_loop (δ := Unit) (fun a j => (d + 0, 0, 0, 65, 4, [.val (.ref 1088), .val (.int p1), .val (.int a.1), .val (.int a.2)], [], (126, 120, L, [Y, T, HA, HB, RA, RB, ST, NS, I0, I1, I2, BO, FI, RG, GU, PU, MA, MN, MS, OT, SC], [r0, r1, r2, r3, w, r5, r6, r7, r8], Lg))) (fun b => ∀ s7 : Value, Ev (d + 0, 0, 0, 65, 54, [.val (.ref 1088), .val (.int p1), .val (.int b), .val s7], [], (126, 120, L, [Y, T, HA, HB, RA, RB, ST, NS, I0, I1, I2, BO, FI, RG, GU, PU, MA, MN, MS, OT, SC], [r0, r1, r2, r3, w, r5, r6, r7, r8], Lg)) o) ?_ a_F (0, 0) v6 zh2 ?_ ()
  · rintro ⟨v1, v2⟩ zr6 zh5 zi3 zx4 ⟨⟩
    have zh5 : f_M_busyIn_l4 MA p1 v1 v2 = some zr6 := zh5
    by_cases zc7 : (MA 0 25) ≤ v2
    · have zh5 := itp zh5 zc7
      suffices e : Ev (d + 0, 0, 0, 65, 54, [.val (.ref 1088), .val (.int p1), .val (.int v1), .val (.int v2)], [], (126, 120, L, [Y, T, HA, HB, RA, RB, ST, NS, I0, I1, I2, BO, FI, RG, GU, PU, MA, MN, MS, OT, SC], [r0, r1, r2, r3, w, r5, r6, r7, r8], Lg)) o from ev_t (c := (MA 0 25) ≤ v2) _ _ 4 zc7 e (fun n => Eq.refl _)
      exact ev_b 0 (zx4 _ (Option.some.inj zh5).symm (.int v2)) (fun n => Eq.refl _)
    · have zh5 := itn zh5 zc7
      suffices e : Ev (d + 0, 0, 0, 65, 12, [.val (.ref 1088), .val (.int p1), .val (.int v1), .val (.int v2)], [], (126, 120, L, [Y, T, HA, HB, RA, RB, ST, NS, I0, I1, I2, BO, FI, RG, GU, PU, MA, MN, MS, OT, SC], [r0, r1, r2, r3, w, r5, r6, r7, r8], Lg)) o from ev_f (c := (MA 0 25) ≤ v2) _ _ 4 zc7 e (fun n => Eq.refl _)
      obtain ⟨x3, zh8, zh5⟩ := bnd zh5
      have zh8 : rdx (MA 5) 60 ((6 * p1) + 2) = some x3 := zh8
      suffices e : Ev (d + 0, 0, 0, 65, 24, [.val (.ref 1088), .val (.int p1), .val (.int v1), .val (.int v2)], [.int x3, .int v1], (126, 120, L, [Y, T, HA, HB, RA, RB, ST, NS, I0, I1, I2, BO, FI, RG, GU, PU, MA, MN, MS, OT, SC], [r0, r1, r2, r3, w, r5, r6, r7, r8], Lg)) o from ev_opt (fun x3 => (d + 0, 0, 0, 65, 24, [.val (.ref 1088), .val (.int p1), .val (.int v1), .val (.int v2)], [.int x3, .int v1], (126, 120, L, [Y, T, HA, HB, RA, RB, ST, NS, I0, I1, I2, BO, FI, RG, GU, PU, MA, MN, MS, OT, SC], [r0, r1, r2, r3, w, r5, r6, r7, r8], Lg))) 9 zh8 e (fun n => Eq.refl _)
      obtain ⟨zt9, zh10, zh5⟩ := bnd zh5
      have zj11 : ∀ (v5 : Int32), v5 = zt9 → Ev (d + 0, 0, 0, 65, 46, [.val (.ref 1088), .val (.int p1), .val (.int v1), .val (.int v2)], [.int v5, .int v1], (126, 120, L, [Y, T, HA, HB, RA, RB, ST, NS, I0, I1, I2, BO, FI, RG, GU, PU, MA, MN, MS, OT, SC], [r0, r1, r2, r3, w, r5, r6, r7, r8], Lg)) o := by
        intro v5 ze12
        subst ze12
        exact ev_b 4 (zi3 _ (Option.some.inj zh5).symm ()) (fun n => Eq.refl _)
      by_cases zc13 : ((a_shr x3 v2) &&& 1) ≠ 1
      · have zh10 := itp zh10 zc13
        suffices e : Ev (d + 0, 0, 0, 65, 45, [.val (.ref 1088), .val (.int p1), .val (.int v1), .val (.int v2)], [.int v1], (126, 120, L, [Y, T, HA, HB, RA, RB, ST, NS, I0, I1, I2, BO, FI, RG, GU, PU, MA, MN, MS, OT, SC], [r0, r1, r2, r3, w, r5, r6, r7, r8], Lg)) o from ev_t (c := ((a_shr x3 v2) &&& 1) ≠ 1) _ _ 6 zc13 e (fun n => Eq.refl _)
        exact ev_b 1 (zj11 0 (Option.some.inj zh10) ) (fun n => Eq.refl _)
      · have zh10 := itn zh10 zc13
        suffices e : Ev (d + 0, 0, 0, 65, 32, [.val (.ref 1088), .val (.int p1), .val (.int v1), .val (.int v2)], [.int v1], (126, 120, L, [Y, T, HA, HB, RA, RB, ST, NS, I0, I1, I2, BO, FI, RG, GU, PU, MA, MN, MS, OT, SC], [r0, r1, r2, r3, w, r5, r6, r7, r8], Lg)) o from ev_f (c := ((a_shr x3 v2) &&& 1) ≠ 1) _ _ 6 zc13 e (fun n => Eq.refl _)
        obtain ⟨x4, zh14, zh10⟩ := bnd zh10
        have zh14 : rdx (MA 4) 24 ((3 * v2) + 2) = some x4 := zh14
        suffices e : Ev (d + 0, 0, 0, 65, 42, [.val (.ref 1088), .val (.int p1), .val (.int v1), .val (.int v2)], [.int x4, .int v1], (126, 120, L, [Y, T, HA, HB, RA, RB, ST, NS, I0, I1, I2, BO, FI, RG, GU, PU, MA, MN, MS, OT, SC], [r0, r1, r2, r3, w, r5, r6, r7, r8], Lg)) o from ev_opt (fun x4 => (d + 0, 0, 0, 65, 42, [.val (.ref 1088), .val (.int p1), .val (.int v1), .val (.int v2)], [.int x4, .int v1], (126, 120, L, [Y, T, HA, HB, RA, RB, ST, NS, I0, I1, I2, BO, FI, RG, GU, PU, MA, MN, MS, OT, SC], [r0, r1, r2, r3, w, r5, r6, r7, r8], Lg))) 8 zh14 e (fun n => Eq.refl _)
        exact ev_b 1 (zj11 x4 (Option.some.inj zh10) ) (fun n => Eq.refl _)
  · skip
    intro s7
    have ze15 := Option.some.inj h
    subst ze15
    exact ev_rete 2 ho (fun n => Eq.refl _)
set_option maxRecDepth 1000000 in
set_option maxHeartbeats 4000000 in
theorem R_f_M_ownClash_0 (d : Nat) (Y T HA HB RA RB ST NS I0 I1 I2 BO FI RG GU PU MA MN MS OT SC : Nat → Nat → Int32) (r0 r1 r2 r3 w r5 r6 r7 r8 : Nat) (L : Nat) (Lg : Int64) (p1 : Int32) (p2 : Int32) {r : Int32} (h : f_M_ownClash MA p1 p2 = some r) : Ev (d + 1, 0, 0, 66, 0, [.val (.ref 1088), .val (.int p1), .val (.int p2), .val a_unk, .val a_unk], [], (126, 120, L, [Y, T, HA, HB, RA, RB, ST, NS, I0, I1, I2, BO, FI, RG, GU, PU, MA, MN, MS, OT, SC], [r0, r1, r2, r3, w, r5, r6, r7, r8], Lg)) ((0, some (.int r), (126, 120, L, [Y, T, HA, HB, RA, RB, ST, NS, I0, I1, I2, BO, FI, RG, GU, PU, MA, MN, MS, OT, SC], [r0, r1, r2, r3, w, r5, r6, r7, r8], Lg)) : AOut) := by
  suffices key : ∀ o : AOut, ((0, some (.int r), (126, 120, L, [Y, T, HA, HB, RA, RB, ST, NS, I0, I1, I2, BO, FI, RG, GU, PU, MA, MN, MS, OT, SC], [r0, r1, r2, r3, w, r5, r6, r7, r8], Lg)) : AOut) = o → Ev (d + 1, 0, 0, 66, 0, [.val (.ref 1088), .val (.int p1), .val (.int p2), .val a_unk, .val a_unk], [], (126, 120, L, [Y, T, HA, HB, RA, RB, ST, NS, I0, I1, I2, BO, FI, RG, GU, PU, MA, MN, MS, OT, SC], [r0, r1, r2, r3, w, r5, r6, r7, r8], Lg)) o from key _ rfl
  intro o ho
  suffices e : Ev (d + 1, 0, 0, 66, 3, [.val (.ref 1088), .val (.int p1), .val (.int p2), .val a_unk, .val a_unk], [.int (p2 / 3)], (126, 120, L, [Y, T, HA, HB, RA, RB, ST, NS, I0, I1, I2, BO, FI, RG, GU, PU, MA, MN, MS, OT, SC], [r0, r1, r2, r3, w, r5, r6, r7, r8], Lg)) o from ev_b 3 e (fun n => Eq.refl _)
  obtain ⟨x1, zh1, h⟩ := bnd h
  have zh1 : f_M_mayIn MA p1 = some x1 := zh1
  have ze2 := R_f_M_mayIn_0 (d + 0) Y T HA HB RA RB ST NS I0 I1 I2 BO FI RG GU PU MA MN MS OT SC r0 r1 r2 r3 w r5 r6 r7 r8 L Lg p1 zh1
  suffices e : Ev (d + 1, 0, 0, 66, 9, [.val (.ref 1088), .val (.int p1), .val (.int p2), .val (.int (p2 / 3)), .val a_unk], [.int x1], (126, 120, L, [Y, T, HA, HB, RA, RB, ST, NS, I0, I1, I2, BO, FI, RG, GU, PU, MA, MN, MS, OT, SC], [r0, r1, r2, r3, w, r5, r6, r7, r8], Lg)) o from ev_call (fun v μ => (d + 1, 0, 0, 66, 9, [.val (.ref 1088), .val (.int p1), .val (.int p2), .val (.int (p2 / 3)), .val a_unk], v.toList ++ [], μ)) 4 ze2 e (fun n => Eq.refl _)
  obtain ⟨zt3, zh4, h⟩ := bnd h
  have zj5 : ∀ (v2 : Int32), v2 = zt3 → Ev (d + 1, 0, 0, 66, 22, [.val (.ref 1088), .val (.int p1), .val (.int p2), .val (.int (p2 / 3)), .val a_unk], [.int v2], (126, 120, L, [Y, T, HA, HB, RA, RB, ST, NS, I0, I1, I2, BO, FI, RG, GU, PU, MA, MN, MS, OT, SC], [r0, r1, r2, r3, w, r5, r6, r7, r8], Lg)) o := by
    intro v2 ze6
    subst ze6
    obtain ⟨x3, zh7, h⟩ := bnd h
    have zh7 : f_M_busyIn MA p1 = some x3 := zh7
    have ze8 := R_f_M_busyIn_0 (d + 0) Y T HA HB RA RB ST NS I0 I1 I2 BO FI RG GU PU MA MN MS OT SC r0 r1 r2 r3 w r5 r6 r7 r8 L Lg p1 zh7
    suffices e : Ev (d + 1, 0, 0, 66, 31, [.val (.ref 1088), .val (.int p1), .val (.int p2), .val (.int (p2 / 3)), .val (.int v2)], [.int x3, .int v2], (126, 120, L, [Y, T, HA, HB, RA, RB, ST, NS, I0, I1, I2, BO, FI, RG, GU, PU, MA, MN, MS, OT, SC], [r0, r1, r2, r3, w, r5, r6, r7, r8], Lg)) o from ev_call (fun v μ => (d + 1, 0, 0, 66, 31, [.val (.ref 1088), .val (.int p1), .val (.int p2), .val (.int (p2 / 3)), .val (.int v2)], v.toList ++ [.int v2], μ)) 5 ze8 e (fun n => Eq.refl _)
    obtain ⟨zt9, zh10, h⟩ := bnd h
    have zj11 : ∀ (v4 : Int32), v4 = zt9 → Ev (d + 1, 0, 0, 66, 44, [.val (.ref 1088), .val (.int p1), .val (.int p2), .val (.int (p2 / 3)), .val (.int v2)], [.int v4, .int v2], (126, 120, L, [Y, T, HA, HB, RA, RB, ST, NS, I0, I1, I2, BO, FI, RG, GU, PU, MA, MN, MS, OT, SC], [r0, r1, r2, r3, w, r5, r6, r7, r8], Lg)) o := by
      intro v4 ze12
      subst ze12
      obtain ⟨x5, zh13, h⟩ := bnd h
      have zh13 : f_M_isHeld MA p2 = some x5 := zh13
      have ze14 := R_f_M_isHeld_0 (d + 0) Y T HA HB RA RB ST NS I0 I1 I2 BO FI RG GU PU MA MN MS OT SC r0 r1 r2 r3 w r5 r6 r7 r8 L Lg p2 zh13
      suffices e : Ev (d + 1, 0, 0, 66, 54, [.val (.ref 1088), .val (.int p1), .val (.int p2), .val (.int (p2 / 3)), .val (.int (v2 ||| v4))], [.int x5, .int (v2 ||| v4)], (126, 120, L, [Y, T, HA, HB, RA, RB, ST, NS, I0, I1, I2, BO, FI, RG, GU, PU, MA, MN, MS, OT, SC], [r0, r1, r2, r3, w, r5, r6, r7, r8], Lg)) o from ev_call (fun v μ => (d + 1, 0, 0, 66, 54, [.val (.ref 1088), .val (.int p1), .val (.int p2), .val (.int (p2 / 3)), .val (.int (v2 ||| v4))], v.toList ++ [.int (v2 ||| v4)], μ)) 6 ze14 e (fun n => Eq.refl _)
      obtain ⟨zt15, zh16, h⟩ := bnd h
      have zj17 : ∀ (v6 : Int32), v6 = zt15 → Ev (d + 1, 0, 0, 66, 63, [.val (.ref 1088), .val (.int p1), .val (.int p2), .val (.int (p2 / 3)), .val (.int (v2 ||| v4))], [.int v6, .int (v2 ||| v4)], (126, 120, L, [Y, T, HA, HB, RA, RB, ST, NS, I0, I1, I2, BO, FI, RG, GU, PU, MA, MN, MS, OT, SC], [r0, r1, r2, r3, w, r5, r6, r7, r8], Lg)) o := by
        intro v6 ze18
        subst ze18
        suffices e : Ev (d + 1, 0, 0, 66, 75, [.val (.ref 1088), .val (.int p1), .val (.int p2), .val (.int (p2 / 3)), .val (.int ((v2 ||| v4) ||| v6))], [.int (a_rem p2 3), .ref 1091, .int ((v2 ||| v4) ||| v6)], (126, 120, L, [Y, T, HA, HB, RA, RB, ST, NS, I0, I1, I2, BO, FI, RG, GU, PU, MA, MN, MS, OT, SC], [r0, r1, r2, r3, w, r5, r6, r7, r8], Lg)) o from ev_b 8 e (fun n => Eq.refl _)
        obtain ⟨x7, zh19, h⟩ := bnd h
        have zh19 : rdx (MA 3) 3 (a_rem p2 3) = some x7 := zh19
        suffices e : Ev (d + 1, 0, 0, 66, 76, [.val (.ref 1088), .val (.int p1), .val (.int p2), .val (.int (p2 / 3)), .val (.int ((v2 ||| v4) ||| v6))], [.int x7, .int ((v2 ||| v4) ||| v6)], (126, 120, L, [Y, T, HA, HB, RA, RB, ST, NS, I0, I1, I2, BO, FI, RG, GU, PU, MA, MN, MS, OT, SC], [r0, r1, r2, r3, w, r5, r6, r7, r8], Lg)) o from ev_opt (fun x7 => (d + 1, 0, 0, 66, 76, [.val (.ref 1088), .val (.int p1), .val (.int p2), .val (.int (p2 / 3)), .val (.int ((v2 ||| v4) ||| v6))], [.int x7, .int ((v2 ||| v4) ||| v6)], (126, 120, L, [Y, T, HA, HB, RA, RB, ST, NS, I0, I1, I2, BO, FI, RG, GU, PU, MA, MN, MS, OT, SC], [r0, r1, r2, r3, w, r5, r6, r7, r8], Lg))) 1 zh19 e (fun n => Eq.refl _)
        obtain ⟨x8, zh20, h⟩ := bnd h
        have zh20 : rdx (MA 5) 60 ((6 * p1) + 2) = some x8 := zh20
        suffices e : Ev (d + 1, 0, 0, 66, 87, [.val (.ref 1088), .val (.int p1), .val (.int p2), .val (.int (p2 / 3)), .val (.int ((v2 ||| v4) ||| v6))], [.int x8, .int x7, .int ((v2 ||| v4) ||| v6)], (126, 120, L, [Y, T, HA, HB, RA, RB, ST, NS, I0, I1, I2, BO, FI, RG, GU, PU, MA, MN, MS, OT, SC], [r0, r1, r2, r3, w, r5, r6, r7, r8], Lg)) o from ev_opt (fun x8 => (d + 1, 0, 0, 66, 87, [.val (.ref 1088), .val (.int p1), .val (.int p2), .val (.int (p2 / 3)), .val (.int ((v2 ||| v4) ||| v6))], [.int x8, .int x7, .int ((v2 ||| v4) ||| v6)], (126, 120, L, [Y, T, HA, HB, RA, RB, ST, NS, I0, I1, I2, BO, FI, RG, GU, PU, MA, MN, MS, OT, SC], [r0, r1, r2, r3, w, r5, r6, r7, r8], Lg))) 8 zh20 e (fun n => Eq.refl _)
        obtain ⟨x9, zh21, h⟩ := bnd h
        have zh21 : f_M_ones x8 = some x9 := zh21
        have ze22 := R_f_M_ones_0 (d + 0) Y T HA HB RA RB ST NS I0 I1 I2 BO FI RG GU PU MA MN MS OT SC r0 r1 r2 r3 w r5 r6 r7 r8 L Lg x8 zh21
        suffices e : Ev (d + 1, 0, 0, 66, 90, [.val (.ref 1088), .val (.int p1), .val (.int p2), .val (.int (p2 / 3)), .val (.int ((v2 ||| v4) ||| v6))], [.int x9, .int x7, .int ((v2 ||| v4) ||| v6)], (126, 120, L, [Y, T, HA, HB, RA, RB, ST, NS, I0, I1, I2, BO, FI, RG, GU, PU, MA, MN, MS, OT, SC], [r0, r1, r2, r3, w, r5, r6, r7, r8], Lg)) o from ev_call (fun v μ => (d + 1, 0, 0, 66, 90, [.val (.ref 1088), .val (.int p1), .val (.int p2), .val (.int (p2 / 3)), .val (.int ((v2 ||| v4) ||| v6))], v.toList ++ [.int x7, .int ((v2 ||| v4) ||| v6)], μ)) 1 ze22 e (fun n => Eq.refl _)
        obtain ⟨zt23, zh24, h⟩ := bnd h
        have zj25 : ∀ (v10 : Int32), v10 = zt23 → Ev (d + 1, 0, 0, 66, 99, [.val (.ref 1088), .val (.int p1), .val (.int p2), .val (.int (p2 / 3)), .val (.int ((v2 ||| v4) ||| v6))], [.int v10, .int ((v2 ||| v4) ||| v6)], (126, 120, L, [Y, T, HA, HB, RA, RB, ST, NS, I0, I1, I2, BO, FI, RG, GU, PU, MA, MN, MS, OT, SC], [r0, r1, r2, r3, w, r5, r6, r7, r8], Lg)) o := by
          intro v10 ze26
          subst ze26
          have ze27 := Option.some.inj h
          subst ze27
          exact ev_rete 2 ho (fun n => Eq.refl _)
        by_cases zc28 : x9 ≤ x7
        · have zh24 := itp zh24 zc28
          suffices e : Ev (d + 1, 0, 0, 66, 98, [.val (.ref 1088), .val (.int p1), .val (.int p2), .val (.int (p2 / 3)), .val (.int ((v2 ||| v4) ||| v6))], [.int ((v2 ||| v4) ||| v6)], (126, 120, L, [Y, T, HA, HB, RA, RB, ST, NS, I0, I1, I2, BO, FI, RG, GU, PU, MA, MN, MS, OT, SC], [r0, r1, r2, r3, w, r5, r6, r7, r8], Lg)) o from ev_t (c := x9 ≤ x7) _ _ 1 zc28 e (fun n => Eq.refl _)
          exact ev_b 1 (zj25 0 (Option.some.inj zh24) ) (fun n => Eq.refl _)
        · have zh24 := itn zh24 zc28
          suffices e : Ev (d + 1, 0, 0, 66, 93, [.val (.ref 1088), .val (.int p1), .val (.int p2), .val (.int (p2 / 3)), .val (.int ((v2 ||| v4) ||| v6))], [.int ((v2 ||| v4) ||| v6)], (126, 120, L, [Y, T, HA, HB, RA, RB, ST, NS, I0, I1, I2, BO, FI, RG, GU, PU, MA, MN, MS, OT, SC], [r0, r1, r2, r3, w, r5, r6, r7, r8], Lg)) o from ev_f (c := x9 ≤ x7) _ _ 1 zc28 e (fun n => Eq.refl _)
          exact ev_b 2 (zj25 16 (Option.some.inj zh24) ) (fun n => Eq.refl _)
      by_cases zc29 : x5 = 0
      · have zh16 := itp zh16 zc29
        suffices e : Ev (d + 1, 0, 0, 66, 62, [.val (.ref 1088), .val (.int p1), .val (.int p2), .val (.int (p2 / 3)), .val (.int (v2 ||| v4))], [.int (v2 ||| v4)], (126, 120, L, [Y, T, HA, HB, RA, RB, ST, NS, I0, I1, I2, BO, FI, RG, GU, PU, MA, MN, MS, OT, SC], [r0, r1, r2, r3, w, r5, r6, r7, r8], Lg)) o from ev_t (c := x5 = 0) _ _ 1 zc29 e (fun n => Eq.refl _)
        exact ev_b 1 (zj17 0 (Option.some.inj zh16) ) (fun n => Eq.refl _)
      · have zh16 := itn zh16 zc29
        suffices e : Ev (d + 1, 0, 0, 66, 57, [.val (.ref 1088), .val (.int p1), .val (.int p2), .val (.int (p2 / 3)), .val (.int (v2 ||| v4))], [.int (v2 ||| v4)], (126, 120, L, [Y, T, HA, HB, RA, RB, ST, NS, I0, I1, I2, BO, FI, RG, GU, PU, MA, MN, MS, OT, SC], [r0, r1, r2, r3, w, r5, r6, r7, r8], Lg)) o from ev_f (c := x5 = 0) _ _ 1 zc29 e (fun n => Eq.refl _)
        exact ev_b 2 (zj17 8 (Option.some.inj zh16) ) (fun n => Eq.refl _)
    by_cases zc30 : ((a_shr x3 (p2 / 3)) &&& 1) ≠ 1
    · have zh10 := itp zh10 zc30
      suffices e : Ev (d + 1, 0, 0, 66, 43, [.val (.ref 1088), .val (.int p1), .val (.int p2), .val (.int (p2 / 3)), .val (.int v2)], [.int v2], (126, 120, L, [Y, T, HA, HB, RA, RB, ST, NS, I0, I1, I2, BO, FI, RG, GU, PU, MA, MN, MS, OT, SC], [r0, r1, r2, r3, w, r5, r6, r7, r8], Lg)) o from ev_t (c := ((a_shr x3 (p2 / 3)) &&& 1) ≠ 1) _ _ 6 zc30 e (fun n => Eq.refl _)
      exact ev_b 1 (zj11 0 (Option.some.inj zh10) ) (fun n => Eq.refl _)
    · have zh10 := itn zh10 zc30
      suffices e : Ev (d + 1, 0, 0, 66, 39, [.val (.ref 1088), .val (.int p1), .val (.int p2), .val (.int (p2 / 3)), .val (.int v2)], [.int v2], (126, 120, L, [Y, T, HA, HB, RA, RB, ST, NS, I0, I1, I2, BO, FI, RG, GU, PU, MA, MN, MS, OT, SC], [r0, r1, r2, r3, w, r5, r6, r7, r8], Lg)) o from ev_f (c := ((a_shr x3 (p2 / 3)) &&& 1) ≠ 1) _ _ 6 zc30 e (fun n => Eq.refl _)
      exact ev_b 2 (zj11 2 (Option.some.inj zh10) ) (fun n => Eq.refl _)
  by_cases zc31 : ((a_shr x1 (p2 / 3)) &&& 1) ≠ 1
  · have zh4 := itp zh4 zc31
    suffices e : Ev (d + 1, 0, 0, 66, 21, [.val (.ref 1088), .val (.int p1), .val (.int p2), .val (.int (p2 / 3)), .val a_unk], [], (126, 120, L, [Y, T, HA, HB, RA, RB, ST, NS, I0, I1, I2, BO, FI, RG, GU, PU, MA, MN, MS, OT, SC], [r0, r1, r2, r3, w, r5, r6, r7, r8], Lg)) o from ev_t (c := ((a_shr x1 (p2 / 3)) &&& 1) ≠ 1) _ _ 6 zc31 e (fun n => Eq.refl _)
    exact ev_b 1 (zj5 1 (Option.some.inj zh4) ) (fun n => Eq.refl _)
  · have zh4 := itn zh4 zc31
    suffices e : Ev (d + 1, 0, 0, 66, 17, [.val (.ref 1088), .val (.int p1), .val (.int p2), .val (.int (p2 / 3)), .val a_unk], [], (126, 120, L, [Y, T, HA, HB, RA, RB, ST, NS, I0, I1, I2, BO, FI, RG, GU, PU, MA, MN, MS, OT, SC], [r0, r1, r2, r3, w, r5, r6, r7, r8], Lg)) o from ev_f (c := ((a_shr x1 (p2 / 3)) &&& 1) ≠ 1) _ _ 6 zc31 e (fun n => Eq.refl _)
    exact ev_b 2 (zj5 0 (Option.some.inj zh4) ) (fun n => Eq.refl _)
set_option maxRecDepth 1000000 in
set_option maxHeartbeats 4000000 in
theorem R_f_M_clashWith_0 (d : Nat) (Y T HA HB RA RB ST NS I0 I1 I2 BO FI RG GU PU MA MN MS OT SC : Nat → Nat → Int32) (r0 r1 r2 r3 w r5 r6 r7 r8 : Nat) (L : Nat) (Lg : Int64) (p1 : Int32) (p2 : Int32) (p3 : Int32) (p4 : Int32) {r : Int32} (h : f_M_clashWith MA p1 p2 p3 p4 = some r) : Ev (d + 0, 0, 0, 67, 0, [.val (.ref 1088), .val (.int p1), .val (.int p2), .val (.int p3), .val (.int p4)], [], (126, 120, L, [Y, T, HA, HB, RA, RB, ST, NS, I0, I1, I2, BO, FI, RG, GU, PU, MA, MN, MS, OT, SC], [r0, r1, r2, r3, w, r5, r6, r7, r8], Lg)) ((0, some (.int r), (126, 120, L, [Y, T, HA, HB, RA, RB, ST, NS, I0, I1, I2, BO, FI, RG, GU, PU, MA, MN, MS, OT, SC], [r0, r1, r2, r3, w, r5, r6, r7, r8], Lg)) : AOut) := by
  suffices key : ∀ o : AOut, ((0, some (.int r), (126, 120, L, [Y, T, HA, HB, RA, RB, ST, NS, I0, I1, I2, BO, FI, RG, GU, PU, MA, MN, MS, OT, SC], [r0, r1, r2, r3, w, r5, r6, r7, r8], Lg)) : AOut) = o → Ev (d + 0, 0, 0, 67, 0, [.val (.ref 1088), .val (.int p1), .val (.int p2), .val (.int p3), .val (.int p4)], [], (126, 120, L, [Y, T, HA, HB, RA, RB, ST, NS, I0, I1, I2, BO, FI, RG, GU, PU, MA, MN, MS, OT, SC], [r0, r1, r2, r3, w, r5, r6, r7, r8], Lg)) o from key _ rfl
  intro o ho
  by_cases zc1 : p4 = (-1)
  · have h := itp h zc1
    suffices e : Ev (d + 0, 0, 0, 67, 21, [.val (.ref 1088), .val (.int p1), .val (.int p2), .val (.int p3), .val (.int p4)], [], (126, 120, L, [Y, T, HA, HB, RA, RB, ST, NS, I0, I1, I2, BO, FI, RG, GU, PU, MA, MN, MS, OT, SC], [r0, r1, r2, r3, w, r5, r6, r7, r8], Lg)) o from ev_t (c := p4 = (-1)) _ _ 3 zc1 e (fun n => Eq.refl _)
    have ze2 := Option.some.inj h
    subst ze2
    exact ev_rete 2 ho (fun n => Eq.refl _)
  · have h := itn h zc1
    suffices e : Ev (d + 0, 0, 0, 67, 6, [.val (.ref 1088), .val (.int p1), .val (.int p2), .val (.int p3), .val (.int p4)], [], (126, 120, L, [Y, T, HA, HB, RA, RB, ST, NS, I0, I1, I2, BO, FI, RG, GU, PU, MA, MN, MS, OT, SC], [r0, r1, r2, r3, w, r5, r6, r7, r8], Lg)) o from ev_f (c := p4 = (-1)) _ _ 3 zc1 e (fun n => Eq.refl _)
    by_cases zc3 : p3 = p1
    · have h := itp h zc3
      suffices e : Ev (d + 0, 0, 0, 67, 21, [.val (.ref 1088), .val (.int p1), .val (.int p2), .val (.int p3), .val (.int p4)], [], (126, 120, L, [Y, T, HA, HB, RA, RB, ST, NS, I0, I1, I2, BO, FI, RG, GU, PU, MA, MN, MS, OT, SC], [r0, r1, r2, r3, w, r5, r6, r7, r8], Lg)) o from ev_t (c := p3 = p1) _ _ 3 zc3 e (fun n => Eq.refl _)
      have ze4 := Option.some.inj h
      subst ze4
      exact ev_rete 2 ho (fun n => Eq.refl _)
    · have h := itn h zc3
      suffices e : Ev (d + 0, 0, 0, 67, 11, [.val (.ref 1088), .val (.int p1), .val (.int p2), .val (.int p3), .val (.int p4)], [], (126, 120, L, [Y, T, HA, HB, RA, RB, ST, NS, I0, I1, I2, BO, FI, RG, GU, PU, MA, MN, MS, OT, SC], [r0, r1, r2, r3, w, r5, r6, r7, r8], Lg)) o from ev_f (c := p3 = p1) _ _ 3 zc3 e (fun n => Eq.refl _)
      suffices e : Ev (d + 0, 0, 0, 67, 15, [.val (.ref 1088), .val (.int p1), .val (.int p2), .val (.int p3), .val (.int p4)], [.int (p4 / 3)], (126, 120, L, [Y, T, HA, HB, RA, RB, ST, NS, I0, I1, I2, BO, FI, RG, GU, PU, MA, MN, MS, OT, SC], [r0, r1, r2, r3, w, r5, r6, r7, r8], Lg)) o from ev_b 3 e (fun n => Eq.refl _)
      suffices e : Ev (d + 0, 0, 0, 67, 18, [.val (.ref 1088), .val (.int p1), .val (.int p2), .val (.int p3), .val (.int p4)], [.int (p2 / 3), .int (p4 / 3)], (126, 120, L, [Y, T, HA, HB, RA, RB, ST, NS, I0, I1, I2, BO, FI, RG, GU, PU, MA, MN, MS, OT, SC], [r0, r1, r2, r3, w, r5, r6, r7, r8], Lg)) o from ev_b 3 e (fun n => Eq.refl _)
      by_cases zc5 : (p4 / 3) = (p2 / 3)
      · have h := itp h zc5
        suffices e : Ev (d + 0, 0, 0, 67, 23, [.val (.ref 1088), .val (.int p1), .val (.int p2), .val (.int p3), .val (.int p4)], [], (126, 120, L, [Y, T, HA, HB, RA, RB, ST, NS, I0, I1, I2, BO, FI, RG, GU, PU, MA, MN, MS, OT, SC], [r0, r1, r2, r3, w, r5, r6, r7, r8], Lg)) o from ev_t (c := (p4 / 3) = (p2 / 3)) _ _ 1 zc5 e (fun n => Eq.refl _)
        obtain ⟨x1, zh6, h⟩ := bnd h
        have zh6 : rdx (MA 5) 60 ((6 * p1) + 2) = some x1 := zh6
        suffices e : Ev (d + 0, 0, 0, 67, 34, [.val (.ref 1088), .val (.int p1), .val (.int p2), .val (.int p3), .val (.int p4)], [.int x1], (126, 120, L, [Y, T, HA, HB, RA, RB, ST, NS, I0, I1, I2, BO, FI, RG, GU, PU, MA, MN, MS, OT, SC], [r0, r1, r2, r3, w, r5, r6, r7, r8], Lg)) o from ev_opt (fun x1 => (d + 0, 0, 0, 67, 34, [.val (.ref 1088), .val (.int p1), .val (.int p2), .val (.int p3), .val (.int p4)], [.int x1], (126, 120, L, [Y, T, HA, HB, RA, RB, ST, NS, I0, I1, I2, BO, FI, RG, GU, PU, MA, MN, MS, OT, SC], [r0, r1, r2, r3, w, r5, r6, r7, r8], Lg))) 8 zh6 e (fun n => Eq.refl _)
        obtain ⟨x2, zh7, h⟩ := bnd h
        have zh7 : rdx (MA 5) 60 ((6 * p3) + 2) = some x2 := zh7
        suffices e : Ev (d + 0, 0, 0, 67, 45, [.val (.ref 1088), .val (.int p1), .val (.int p2), .val (.int p3), .val (.int p4)], [.int x2, .int x1], (126, 120, L, [Y, T, HA, HB, RA, RB, ST, NS, I0, I1, I2, BO, FI, RG, GU, PU, MA, MN, MS, OT, SC], [r0, r1, r2, r3, w, r5, r6, r7, r8], Lg)) o from ev_opt (fun x2 => (d + 0, 0, 0, 67, 45, [.val (.ref 1088), .val (.int p1), .val (.int p2), .val (.int p3), .val (.int p4)], [.int x2, .int x1], (126, 120, L, [Y, T, HA, HB, RA, RB, ST, NS, I0, I1, I2, BO, FI, RG, GU, PU, MA, MN, MS, OT, SC], [r0, r1, r2, r3, w, r5, r6, r7, r8], Lg))) 8 zh7 e (fun n => Eq.refl _)
        obtain ⟨zt8, zh9, h⟩ := bnd h
        have zj10 : ∀ (v3 : Int32), v3 = zt8 → Ev (d + 0, 0, 0, 67, 54, [.val (.ref 1088), .val (.int p1), .val (.int p2), .val (.int p3), .val (.int p4)], [.int v3], (126, 120, L, [Y, T, HA, HB, RA, RB, ST, NS, I0, I1, I2, BO, FI, RG, GU, PU, MA, MN, MS, OT, SC], [r0, r1, r2, r3, w, r5, r6, r7, r8], Lg)) o := by
          intro v3 ze11
          subst ze11
          obtain ⟨zt12, zh13, h⟩ := bnd h
          have zj14 : ∀ (v4 : Int32), v4 = zt12 → Ev (d + 0, 0, 0, 67, 66, [.val (.ref 1088), .val (.int p1), .val (.int p2), .val (.int p3), .val (.int p4)], [.int v4, .int v3], (126, 120, L, [Y, T, HA, HB, RA, RB, ST, NS, I0, I1, I2, BO, FI, RG, GU, PU, MA, MN, MS, OT, SC], [r0, r1, r2, r3, w, r5, r6, r7, r8], Lg)) o := by
            intro v4 ze15
            subst ze15
            have ze16 := Option.some.inj h
            subst ze16
            exact ev_rete 2 ho (fun n => Eq.refl _)
          by_cases zc17 : p4 ≠ p2
          · have zh13 := itp zh13 zc17
            suffices e : Ev (d + 0, 0, 0, 67, 65, [.val (.ref 1088), .val (.int p1), .val (.int p2), .val (.int p3), .val (.int p4)], [.int v3], (126, 120, L, [Y, T, HA, HB, RA, RB, ST, NS, I0, I1, I2, BO, FI, RG, GU, PU, MA, MN, MS, OT, SC], [r0, r1, r2, r3, w, r5, r6, r7, r8], Lg)) o from ev_t (c := p4 ≠ p2) _ _ 3 zc17 e (fun n => Eq.refl _)
            exact ev_b 1 (zj14 0 (Option.some.inj zh13) ) (fun n => Eq.refl _)
          · have zh13 := itn zh13 zc17
            suffices e : Ev (d + 0, 0, 0, 67, 60, [.val (.ref 1088), .val (.int p1), .val (.int p2), .val (.int p3), .val (.int p4)], [.int v3], (126, 120, L, [Y, T, HA, HB, RA, RB, ST, NS, I0, I1, I2, BO, FI, RG, GU, PU, MA, MN, MS, OT, SC], [r0, r1, r2, r3, w, r5, r6, r7, r8], Lg)) o from ev_f (c := p4 ≠ p2) _ _ 3 zc17 e (fun n => Eq.refl _)
            exact ev_b 2 (zj14 8 (Option.some.inj zh13) ) (fun n => Eq.refl _)
        by_cases zc18 : (x1 &&& x2) = 0
        · have zh9 := itp zh9 zc18
          suffices e : Ev (d + 0, 0, 0, 67, 53, [.val (.ref 1088), .val (.int p1), .val (.int p2), .val (.int p3), .val (.int p4)], [], (126, 120, L, [Y, T, HA, HB, RA, RB, ST, NS, I0, I1, I2, BO, FI, RG, GU, PU, MA, MN, MS, OT, SC], [r0, r1, r2, r3, w, r5, r6, r7, r8], Lg)) o from ev_t (c := (x1 &&& x2) = 0) _ _ 2 zc18 e (fun n => Eq.refl _)
          exact ev_b 1 (zj10 0 (Option.some.inj zh9) ) (fun n => Eq.refl _)
        · have zh9 := itn zh9 zc18
          suffices e : Ev (d + 0, 0, 0, 67, 49, [.val (.ref 1088), .val (.int p1), .val (.int p2), .val (.int p3), .val (.int p4)], [], (126, 120, L, [Y, T, HA, HB, RA, RB, ST, NS, I0, I1, I2, BO, FI, RG, GU, PU, MA, MN, MS, OT, SC], [r0, r1, r2, r3, w, r5, r6, r7, r8], Lg)) o from ev_f (c := (x1 &&& x2) = 0) _ _ 2 zc18 e (fun n => Eq.refl _)
          exact ev_b 2 (zj10 4 (Option.some.inj zh9) ) (fun n => Eq.refl _)
      · have h := itn h zc5
        suffices e : Ev (d + 0, 0, 0, 67, 21, [.val (.ref 1088), .val (.int p1), .val (.int p2), .val (.int p3), .val (.int p4)], [], (126, 120, L, [Y, T, HA, HB, RA, RB, ST, NS, I0, I1, I2, BO, FI, RG, GU, PU, MA, MN, MS, OT, SC], [r0, r1, r2, r3, w, r5, r6, r7, r8], Lg)) o from ev_f (c := (p4 / 3) = (p2 / 3)) _ _ 1 zc5 e (fun n => Eq.refl _)
        have ze19 := Option.some.inj h
        subst ze19
        exact ev_rete 2 ho (fun n => Eq.refl _)
set_option maxRecDepth 1000000 in
set_option maxHeartbeats 4000000 in
theorem R_f_M_told_0 (d : Nat) (Y T HA HB RA RB ST NS I0 I1 I2 BO FI RG GU PU MA MN MS OT SC : Nat → Nat → Int32) (r0 r1 r2 r3 w r5 r6 r7 r8 : Nat) (L : Nat) (Lg : Int64) (p1 : Int32) {r : Int32 × (Nat → Nat → Int32)} (h : f_M_told MA p1 = some r) : Ev (d + 1, 0, 0, 70, 0, [.val (.ref 1088), .val (.int p1), .val a_unk, .val a_unk], [], (126, 120, L, [Y, T, HA, HB, RA, RB, ST, NS, I0, I1, I2, BO, FI, RG, GU, PU, MA, MN, MS, OT, SC], [r0, r1, r2, r3, w, r5, r6, r7, r8], Lg)) ((0, some (.int r.1), (126, 120, L, [Y, T, HA, HB, RA, RB, ST, NS, I0, I1, I2, BO, FI, RG, GU, PU, r.2, MN, MS, OT, SC], [r0, r1, r2, r3, w, r5, r6, r7, r8], Lg)) : AOut) := by
  suffices key : ∀ o : AOut, ((0, some (.int r.1), (126, 120, L, [Y, T, HA, HB, RA, RB, ST, NS, I0, I1, I2, BO, FI, RG, GU, PU, r.2, MN, MS, OT, SC], [r0, r1, r2, r3, w, r5, r6, r7, r8], Lg)) : AOut) = o → Ev (d + 1, 0, 0, 70, 0, [.val (.ref 1088), .val (.int p1), .val a_unk, .val a_unk], [], (126, 120, L, [Y, T, HA, HB, RA, RB, ST, NS, I0, I1, I2, BO, FI, RG, GU, PU, MA, MN, MS, OT, SC], [r0, r1, r2, r3, w, r5, r6, r7, r8], Lg)) o from key _ rfl
  intro o ho
  obtain ⟨x1, zh1, h⟩ := bnd h
  have zh1 : f_M_within p1 0 6 = some x1 := zh1
  have ze2 := R_f_M_within_0 (d + 0) Y T HA HB RA RB ST NS I0 I1 I2 BO FI RG GU PU (u2 MA 0 0 0) MN MS OT SC r0 r1 r2 r3 w r5 r6 r7 r8 L Lg p1 0 6 zh1
  suffices e : Ev (d + 1, 0, 0, 70, 13, [.val (.ref 1088), .val (.int p1), .val a_unk, .val a_unk], [.int x1, .ref 1088], (126, 120, L, [Y, T, HA, HB, RA, RB, ST, NS, I0, I1, I2, BO, FI, RG, GU, PU, (u2 MA 0 0 0), MN, MS, OT, SC], [r0, r1, r2, r3, w, r5, r6, r7, r8], Lg)) o from ev_call (fun v μ => (d + 1, 0, 0, 70, 13, [.val (.ref 1088), .val (.int p1), .val a_unk, .val a_unk], v.toList ++ [.ref 1088], μ)) 8 ze2 e (fun n => Eq.refl _)
  obtain ⟨⟨x2, MA_3⟩, zh3, h⟩ := bnd h
  have zh3 : f_M_may (u2 MA 0 0 0) x1 1 1 = some (x2, MA_3) := zh3
  have ze4 := R_f_M_may_0 (d + 0) Y T HA HB RA RB ST NS I0 I1 I2 BO FI RG GU PU (u2 MA 0 0 0) MN MS OT SC r0 r1 r2 r3 w r5 r6 r7 r8 L Lg x1 1 1 zh3
  suffices e : Ev (d + 1, 0, 0, 70, 18, [.val (.ref 1088), .val (.int p1), .val a_unk, .val a_unk], [.int x2], (126, 120, L, [Y, T, HA, HB, RA, RB, ST, NS, I0, I1, I2, BO, FI, RG, GU, PU, MA_3, MN, MS, OT, SC], [r0, r1, r2, r3, w, r5, r6, r7, r8], Lg)) o from ev_call (fun v μ => (d + 1, 0, 0, 70, 18, [.val (.ref 1088), .val (.int p1), .val a_unk, .val a_unk], v.toList ++ [], μ)) 3 ze4 e (fun n => Eq.refl _)
  by_cases zc5 : x2 ≠ 0
  · have h := itp h zc5
    suffices e : Ev (d + 1, 0, 0, 70, 23, [.val (.ref 1088), .val (.int p1), .val a_unk, .val a_unk], [], (126, 120, L, [Y, T, HA, HB, RA, RB, ST, NS, I0, I1, I2, BO, FI, RG, GU, PU, MA_3, MN, MS, OT, SC], [r0, r1, r2, r3, w, r5, r6, r7, r8], Lg)) o from ev_t (c := x2 ≠ 0) _ _ 1 zc5 e (fun n => Eq.refl _)
    by_cases zc6 : 3 ≤ p1
    · have h := itp h zc6
      suffices e : Ev (d + 1, 0, 0, 70, 56, [.val (.ref 1088), .val (.int p1), .val a_unk, .val a_unk], [], (126, 120, L, [Y, T, HA, HB, RA, RB, ST, NS, I0, I1, I2, BO, FI, RG, GU, PU, MA_3, MN, MS, OT, SC], [r0, r1, r2, r3, w, r5, r6, r7, r8], Lg)) o from ev_t (c := 3 ≤ p1) _ _ 3 zc6 e (fun n => Eq.refl _)
      by_cases zc7 : 6 ≤ p1
      · have h := itp h zc7
        suffices e : Ev (d + 1, 0, 0, 70, 91, [.val (.ref 1088), .val (.int p1), .val a_unk, .val a_unk], [], (126, 120, L, [Y, T, HA, HB, RA, RB, ST, NS, I0, I1, I2, BO, FI, RG, GU, PU, MA_3, MN, MS, OT, SC], [r0, r1, r2, r3, w, r5, r6, r7, r8], Lg)) o from ev_t (c := 6 ≤ p1) _ _ 3 zc7 e (fun n => Eq.refl _)
        obtain ⟨v7, zh9, h⟩ := bnd h
        suffices e : Ev (d + 1, 0, 0, 70, 95, [.val (.ref 1088), .val (.int p1), .val (.int 0), .val (.int 0)], [], (126, 120, L, [Y, T, HA, HB, RA, RB, ST, NS, I0, I1, I2, BO, FI, RG, GU, PU, MA_3, MN, MS, OT, SC], [r0, r1, r2, r3, w, r5, r6, r7, r8], Lg)) o from ev_b 4 e (fun n => Eq.refl _)
        refine ev_loop (δ := Unit) (fun a j => (d + 1, 0, 0, 70, 95, [.val (.ref 1088), .val (.int p1), .val (.int a.1), .val (.int a.2)], [], (126, 120, L, [Y, T, HA, HB, RA, RB, ST, NS, I0, I1, I2, BO, FI, RG, GU, PU, MA_3, MN, MS, OT, SC], [r0, r1, r2, r3, w, r5, r6, r7, r8], Lg))) (fun b => ∀ s8 : Value, Ev (d + 1, 0, 0, 70, 127, [.val (.ref 1088), .val (.int p1), .val (.int b), .val s8], [], (126, 120, L, [Y, T, HA, HB, RA, RB, ST, NS, I0, I1, I2, BO, FI, RG, GU, PU, MA_3, MN, MS, OT, SC], [r0, r1, r2, r3, w, r5, r6, r7, r8], Lg)) o) ?_ a_F (0, 0) v7 zh9 ?_ ()
        · rintro ⟨v4, v5⟩ zr13 zh12 zi10 zx11 ⟨⟩
          have zh12 : f_M_told_l95 MA_3 v4 v5 = some zr13 := zh12
          by_cases zc14 : (MA_3 0 26) ≤ v5
          · have zh12 := itp zh12 zc14
            suffices e : Ev (d + 1, 0, 0, 70, 127, [.val (.ref 1088), .val (.int p1), .val (.int v4), .val (.int v5)], [], (126, 120, L, [Y, T, HA, HB, RA, RB, ST, NS, I0, I1, I2, BO, FI, RG, GU, PU, MA_3, MN, MS, OT, SC], [r0, r1, r2, r3, w, r5, r6, r7, r8], Lg)) o from ev_t (c := (MA_3 0 26) ≤ v5) _ _ 4 zc14 e (fun n => Eq.refl _)
            exact ev_b 0 (zx11 _ (Option.some.inj zh12).symm (.int v5)) (fun n => Eq.refl _)
          · have zh12 := itn zh12 zc14
            suffices e : Ev (d + 1, 0, 0, 70, 103, [.val (.ref 1088), .val (.int p1), .val (.int v4), .val (.int v5)], [], (126, 120, L, [Y, T, HA, HB, RA, RB, ST, NS, I0, I1, I2, BO, FI, RG, GU, PU, MA_3, MN, MS, OT, SC], [r0, r1, r2, r3, w, r5, r6, r7, r8], Lg)) o from ev_f (c := (MA_3 0 26) ≤ v5) _ _ 4 zc14 e (fun n => Eq.refl _)
            obtain ⟨x6, zh15, zh12⟩ := bnd zh12
            have zh15 : rdx (MA_3 7) 10 v5 = some x6 := zh15
            suffices e : Ev (d + 1, 0, 0, 70, 110, [.val (.ref 1088), .val (.int p1), .val (.int v4), .val (.int v5)], [.int x6, .int v4], (126, 120, L, [Y, T, HA, HB, RA, RB, ST, NS, I0, I1, I2, BO, FI, RG, GU, PU, MA_3, MN, MS, OT, SC], [r0, r1, r2, r3, w, r5, r6, r7, r8], Lg)) o from ev_opt (fun x6 => (d + 1, 0, 0, 70, 110, [.val (.ref 1088), .val (.int p1), .val (.int v4), .val (.int v5)], [.int x6, .int v4], (126, 120, L, [Y, T, HA, HB, RA, RB, ST, NS, I0, I1, I2, BO, FI, RG, GU, PU, MA_3, MN, MS, OT, SC], [r0, r1, r2, r3, w, r5, r6, r7, r8], Lg))) 5 zh15 e (fun n => Eq.refl _)
            by_cases zc16 : x6 ≠ (-1)
            · have zh12 := itp zh12 zc16
              suffices e : Ev (d + 1, 0, 0, 70, 118, [.val (.ref 1088), .val (.int p1), .val (.int v4), .val (.int v5)], [.int v4], (126, 120, L, [Y, T, HA, HB, RA, RB, ST, NS, I0, I1, I2, BO, FI, RG, GU, PU, MA_3, MN, MS, OT, SC], [r0, r1, r2, r3, w, r5, r6, r7, r8], Lg)) o from ev_t (c := x6 ≠ (-1)) _ _ 2 zc16 e (fun n => Eq.refl _)
              exact ev_b 5 (zi10 _ (Option.some.inj zh12).symm ()) (fun n => Eq.refl _)
            · have zh12 := itn zh12 zc16
              suffices e : Ev (d + 1, 0, 0, 70, 114, [.val (.ref 1088), .val (.int p1), .val (.int v4), .val (.int v5)], [.int v4], (126, 120, L, [Y, T, HA, HB, RA, RB, ST, NS, I0, I1, I2, BO, FI, RG, GU, PU, MA_3, MN, MS, OT, SC], [r0, r1, r2, r3, w, r5, r6, r7, r8], Lg)) o from ev_f (c := x6 ≠ (-1)) _ _ 2 zc16 e (fun n => Eq.refl _)
              exact ev_b 6 (zi10 _ (Option.some.inj zh12).symm ()) (fun n => Eq.refl _)
        · skip
          intro s8
          have ze17 := Option.some.inj h
          subst ze17
          exact ev_rete 2 ho (fun n => Eq.refl _)
      · have h := itn h zc7
        suffices e : Ev (d + 1, 0, 0, 70, 62, [.val (.ref 1088), .val (.int p1), .val a_unk, .val a_unk], [], (126, 120, L, [Y, T, HA, HB, RA, RB, ST, NS, I0, I1, I2, BO, FI, RG, GU, PU, MA_3, MN, MS, OT, SC], [r0, r1, r2, r3, w, r5, r6, r7, r8], Lg)) o from ev_f (c := 6 ≤ p1) _ _ 3 zc7 e (fun n => Eq.refl _)
        by_cases zc18 : p1 ≠ 3
        · have h := itp h zc18
          suffices e : Ev (d + 1, 0, 0, 70, 74, [.val (.ref 1088), .val (.int p1), .val a_unk, .val a_unk], [], (126, 120, L, [Y, T, HA, HB, RA, RB, ST, NS, I0, I1, I2, BO, FI, RG, GU, PU, MA_3, MN, MS, OT, SC], [r0, r1, r2, r3, w, r5, r6, r7, r8], Lg)) o from ev_t (c := p1 ≠ 3) _ _ 3 zc18 e (fun n => Eq.refl _)
          by_cases zc19 : p1 ≠ 4
          · have h := itp h zc19
            suffices e : Ev (d + 1, 0, 0, 70, 86, [.val (.ref 1088), .val (.int p1), .val a_unk, .val a_unk], [], (126, 120, L, [Y, T, HA, HB, RA, RB, ST, NS, I0, I1, I2, BO, FI, RG, GU, PU, MA_3, MN, MS, OT, SC], [r0, r1, r2, r3, w, r5, r6, r7, r8], Lg)) o from ev_t (c := p1 ≠ 4) _ _ 3 zc19 e (fun n => Eq.refl _)
            have ze20 := Option.some.inj h
            subst ze20
            exact ev_rete 3 ho (fun n => Eq.refl _)
          · have h := itn h zc19
            suffices e : Ev (d + 1, 0, 0, 70, 79, [.val (.ref 1088), .val (.int p1), .val a_unk, .val a_unk], [], (126, 120, L, [Y, T, HA, HB, RA, RB, ST, NS, I0, I1, I2, BO, FI, RG, GU, PU, MA_3, MN, MS, OT, SC], [r0, r1, r2, r3, w, r5, r6, r7, r8], Lg)) o from ev_f (c := p1 ≠ 4) _ _ 3 zc19 e (fun n => Eq.refl _)
            have ze21 := Option.some.inj h
            subst ze21
            exact ev_rete 4 ho (fun n => Eq.refl _)
        · have h := itn h zc18
          suffices e : Ev (d + 1, 0, 0, 70, 67, [.val (.ref 1088), .val (.int p1), .val a_unk, .val a_unk], [], (126, 120, L, [Y, T, HA, HB, RA, RB, ST, NS, I0, I1, I2, BO, FI, RG, GU, PU, MA_3, MN, MS, OT, SC], [r0, r1, r2, r3, w, r5, r6, r7, r8], Lg)) o from ev_f (c := p1 ≠ 3) _ _ 3 zc18 e (fun n => Eq.refl _)
          have ze22 := Option.some.inj h
          subst ze22
          exact ev_rete 4 ho (fun n => Eq.refl _)
    · have h := itn h zc6
      suffices e : Ev (d + 1, 0, 0, 70, 28, [.val (.ref 1088), .val (.int p1), .val a_unk, .val a_unk], [], (126, 120, L, [Y, T, HA, HB, RA, RB, ST, NS, I0, I1, I2, BO, FI, RG, GU, PU, MA_3, MN, MS, OT, SC], [r0, r1, r2, r3, w, r5, r6, r7, r8], Lg)) o from ev_f (c := 3 ≤ p1) _ _ 3 zc6 e (fun n => Eq.refl _)
      by_cases zc23 : p1 ≠ 0
      · have h := itp h zc23
        suffices e : Ev (d + 1, 0, 0, 70, 39, [.val (.ref 1088), .val (.int p1), .val a_unk, .val a_unk], [], (126, 120, L, [Y, T, HA, HB, RA, RB, ST, NS, I0, I1, I2, BO, FI, RG, GU, PU, MA_3, MN, MS, OT, SC], [r0, r1, r2, r3, w, r5, r6, r7, r8], Lg)) o from ev_t (c := p1 ≠ 0) _ _ 2 zc23 e (fun n => Eq.refl _)
        by_cases zc24 : p1 ≠ 1
        · have h := itp h zc24
          suffices e : Ev (d + 1, 0, 0, 70, 51, [.val (.ref 1088), .val (.int p1), .val a_unk, .val a_unk], [], (126, 120, L, [Y, T, HA, HB, RA, RB, ST, NS, I0, I1, I2, BO, FI, RG, GU, PU, MA_3, MN, MS, OT, SC], [r0, r1, r2, r3, w, r5, r6, r7, r8], Lg)) o from ev_t (c := p1 ≠ 1) _ _ 3 zc24 e (fun n => Eq.refl _)
          have ze25 := Option.some.inj h
          subst ze25
          exact ev_rete 3 ho (fun n => Eq.refl _)
        · have h := itn h zc24
          suffices e : Ev (d + 1, 0, 0, 70, 44, [.val (.ref 1088), .val (.int p1), .val a_unk, .val a_unk], [], (126, 120, L, [Y, T, HA, HB, RA, RB, ST, NS, I0, I1, I2, BO, FI, RG, GU, PU, MA_3, MN, MS, OT, SC], [r0, r1, r2, r3, w, r5, r6, r7, r8], Lg)) o from ev_f (c := p1 ≠ 1) _ _ 3 zc24 e (fun n => Eq.refl _)
          have ze26 := Option.some.inj h
          subst ze26
          exact ev_rete 4 ho (fun n => Eq.refl _)
      · have h := itn h zc23
        suffices e : Ev (d + 1, 0, 0, 70, 32, [.val (.ref 1088), .val (.int p1), .val a_unk, .val a_unk], [], (126, 120, L, [Y, T, HA, HB, RA, RB, ST, NS, I0, I1, I2, BO, FI, RG, GU, PU, MA_3, MN, MS, OT, SC], [r0, r1, r2, r3, w, r5, r6, r7, r8], Lg)) o from ev_f (c := p1 ≠ 0) _ _ 2 zc23 e (fun n => Eq.refl _)
        have ze27 := Option.some.inj h
        subst ze27
        exact ev_rete 4 ho (fun n => Eq.refl _)
  · have h := itn h zc5
    suffices e : Ev (d + 1, 0, 0, 70, 21, [.val (.ref 1088), .val (.int p1), .val a_unk, .val a_unk], [], (126, 120, L, [Y, T, HA, HB, RA, RB, ST, NS, I0, I1, I2, BO, FI, RG, GU, PU, MA_3, MN, MS, OT, SC], [r0, r1, r2, r3, w, r5, r6, r7, r8], Lg)) o from ev_f (c := x2 ≠ 0) _ _ 1 zc5 e (fun n => Eq.refl _)
    have ze28 := Option.some.inj h
    subst ze28
    exact ev_rete 2 ho (fun n => Eq.refl _)
