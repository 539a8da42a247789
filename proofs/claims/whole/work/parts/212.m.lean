/-! printed by program (gen/emitm.py): the reference's methods run as their functions say -/
set_option maxRecDepth 1000000 in
set_option maxHeartbeats 4000000 in
theorem R_f_M_keepsRow_4_0 (d : Nat) (Y T HA HB RA RB ST NS I0 I1 I2 BO FI RG GU PU MA MN MS OT SC : Nat → Nat → Int32) (r0 r1 r2 r3 w r5 r6 r7 r8 : Nat) (L : Nat) (Lg : Int64) (p1 : Int32) (p3 : Int32) (p4 : Int32) {r : Int32 × (Nat → Nat → Int32)} (h : f_M_keepsRow_4 MA p1 p3 p4 = some r) : Ev (d + 0, 0, 0, 148, 0, [.val (.ref 1088), .val (.int p1), .val (.ref 1094), .val (.int p3), .val (.int p4), .val a_unk], [], (126, 120, L, [Y, T, HA, HB, RA, RB, ST, NS, I0, I1, I2, BO, FI, RG, GU, PU, MA, MN, MS, OT, SC], [r0, r1, r2, r3, w, r5, r6, r7, r8], Lg)) ((0, some (.int r.1), (126, 120, L, [Y, T, HA, HB, RA, RB, ST, NS, I0, I1, I2, BO, FI, RG, GU, PU, r.2, MN, MS, OT, SC], [r0, r1, r2, r3, w, r5, r6, r7, r8], Lg)) : AOut) := by
  suffices key : ∀ o : AOut, ((0, some (.int r.1), (126, 120, L, [Y, T, HA, HB, RA, RB, ST, NS, I0, I1, I2, BO, FI, RG, GU, PU, r.2, MN, MS, OT, SC], [r0, r1, r2, r3, w, r5, r6, r7, r8], Lg)) : AOut) = o → Ev (d + 0, 0, 0, 148, 0, [.val (.ref 1088), .val (.int p1), .val (.ref 1094), .val (.int p3), .val (.int p4), .val a_unk], [], (126, 120, L, [Y, T, HA, HB, RA, RB, ST, NS, I0, I1, I2, BO, FI, RG, GU, PU, MA, MN, MS, OT, SC], [r0, r1, r2, r3, w, r5, r6, r7, r8], Lg)) o from key _ rfl
  intro o ho
  obtain ⟨MA_8, zh2, h⟩ := bnd h
  suffices e : Ev (d + 0, 0, 0, 148, 3, [.val (.ref 1088), .val (.int p1), .val (.ref 1094), .val (.int p3), .val (.int p4), .val (.int 0)], [], (126, 120, L, [Y, T, HA, HB, RA, RB, ST, NS, I0, I1, I2, BO, FI, RG, GU, PU, MA, MN, MS, OT, SC], [r0, r1, r2, r3, w, r5, r6, r7, r8], Lg)) o from ev_b 2 e (fun n => Eq.refl _)
  refine ev_loop (δ := Unit) (fun a j => (d + 0, 0, 0, 148, 3, [.val (.ref 1088), .val (.int p1), .val (.ref 1094), .val (.int p3), .val (.int p4), .val (.int a.1)], [], (126, 120, L, [Y, T, HA, HB, RA, RB, ST, NS, I0, I1, I2, BO, FI, RG, GU, PU, a.2, MN, MS, OT, SC], [r0, r1, r2, r3, w, r5, r6, r7, r8], Lg))) (fun b => ∀ s7 : Value, Ev (d + 0, 0, 0, 148, 49, [.val (.ref 1088), .val (.int p1), .val (.ref 1094), .val (.int p3), .val (.int p4), .val s7], [], (126, 120, L, [Y, T, HA, HB, RA, RB, ST, NS, I0, I1, I2, BO, FI, RG, GU, PU, b, MN, MS, OT, SC], [r0, r1, r2, r3, w, r5, r6, r7, r8], Lg)) o) ?_ a_F (0, MA) MA_8 zh2 ?_ ()
  · rintro ⟨v1, MA_2⟩ zr6 zh5 zi3 zx4 ⟨⟩
    have zh5 : f_M_keepsRow_4_l3 p3 p4 p1 v1 MA_2 = some zr6 := zh5
    by_cases zc7 : p3 ≤ v1
    · have zh5 := itp zh5 zc7
      suffices e : Ev (d + 0, 0, 0, 148, 49, [.val (.ref 1088), .val (.int p1), .val (.ref 1094), .val (.int p3), .val (.int p4), .val (.int v1)], [], (126, 120, L, [Y, T, HA, HB, RA, RB, ST, NS, I0, I1, I2, BO, FI, RG, GU, PU, MA_2, MN, MS, OT, SC], [r0, r1, r2, r3, w, r5, r6, r7, r8], Lg)) o from ev_t (c := p3 ≤ v1) _ _ 3 zc7 e (fun n => Eq.refl _)
      exact ev_b 0 (zx4 _ (Option.some.inj zh5).symm (.int v1)) (fun n => Eq.refl _)
    · have zh5 := itn zh5 zc7
      suffices e : Ev (d + 0, 0, 0, 148, 9, [.val (.ref 1088), .val (.int p1), .val (.ref 1094), .val (.int p3), .val (.int p4), .val (.int v1)], [], (126, 120, L, [Y, T, HA, HB, RA, RB, ST, NS, I0, I1, I2, BO, FI, RG, GU, PU, MA_2, MN, MS, OT, SC], [r0, r1, r2, r3, w, r5, r6, r7, r8], Lg)) o from ev_f (c := p3 ≤ v1) _ _ 3 zc7 e (fun n => Eq.refl _)
      by_cases zc8 : p4 = 0
      · have zh5 := itp zh5 zc8
        suffices e : Ev (d + 0, 0, 0, 148, 30, [.val (.ref 1088), .val (.int p1), .val (.ref 1094), .val (.int p3), .val (.int p4), .val (.int v1)], [], (126, 120, L, [Y, T, HA, HB, RA, RB, ST, NS, I0, I1, I2, BO, FI, RG, GU, PU, MA_2, MN, MS, OT, SC], [r0, r1, r2, r3, w, r5, r6, r7, r8], Lg)) o from ev_t (c := p4 = 0) _ _ 2 zc8 e (fun n => Eq.refl _)
        obtain ⟨x3, zh9, zh5⟩ := bnd zh5
        have zh9 : rdx (MA_2 13) 1974 (p1 + v1) = some x3 := zh9
        suffices e : Ev (d + 0, 0, 0, 148, 42, [.val (.ref 1088), .val (.int p1), .val (.ref 1094), .val (.int p3), .val (.int p4), .val (.int v1)], [.int x3, .int v1, .ref 1094], (126, 120, L, [Y, T, HA, HB, RA, RB, ST, NS, I0, I1, I2, BO, FI, RG, GU, PU, MA_2, MN, MS, OT, SC], [r0, r1, r2, r3, w, r5, r6, r7, r8], Lg)) o from ev_opt (fun x3 => (d + 0, 0, 0, 148, 42, [.val (.ref 1088), .val (.int p1), .val (.ref 1094), .val (.int p3), .val (.int p4), .val (.int v1)], [.int x3, .int v1, .ref 1094], (126, 120, L, [Y, T, HA, HB, RA, RB, ST, NS, I0, I1, I2, BO, FI, RG, GU, PU, MA_2, MN, MS, OT, SC], [r0, r1, r2, r3, w, r5, r6, r7, r8], Lg))) 8 zh9 e (fun n => Eq.refl _)
        obtain ⟨j4, zh10, zh5⟩ := bnd zh5
        have zh10 : ixx 16 v1 = some j4 := zh10
        suffices e : Ev (d + 0, 0, 0, 148, 43, [.val (.ref 1088), .val (.int p1), .val (.ref 1094), .val (.int p3), .val (.int p4), .val (.int v1)], [], (126, 120, L, [Y, T, HA, HB, RA, RB, ST, NS, I0, I1, I2, BO, FI, RG, GU, PU, (u2 MA_2 6 j4 x3), MN, MS, OT, SC], [r0, r1, r2, r3, w, r5, r6, r7, r8], Lg)) o from ev_opt (fun j4 => (d + 0, 0, 0, 148, 43, [.val (.ref 1088), .val (.int p1), .val (.ref 1094), .val (.int p3), .val (.int p4), .val (.int v1)], [], (126, 120, L, [Y, T, HA, HB, RA, RB, ST, NS, I0, I1, I2, BO, FI, RG, GU, PU, (u2 MA_2 6 j4 x3), MN, MS, OT, SC], [r0, r1, r2, r3, w, r5, r6, r7, r8], Lg))) 1 zh10 e (fun n => Eq.refl _)
        exact ev_b 2 (zi3 _ (Option.some.inj zh5).symm ()) (fun n => Eq.refl _)
      · have zh5 := itn zh5 zc8
        suffices e : Ev (d + 0, 0, 0, 148, 14, [.val (.ref 1088), .val (.int p1), .val (.ref 1094), .val (.int p3), .val (.int p4), .val (.int v1)], [], (126, 120, L, [Y, T, HA, HB, RA, RB, ST, NS, I0, I1, I2, BO, FI, RG, GU, PU, MA_2, MN, MS, OT, SC], [r0, r1, r2, r3, w, r5, r6, r7, r8], Lg)) o from ev_f (c := p4 = 0) _ _ 2 zc8 e (fun n => Eq.refl _)
        obtain ⟨x5, zh11, zh5⟩ := bnd zh5
        have zh11 : rdx (MA_2 6) 16 v1 = some x5 := zh11
        suffices e : Ev (d + 0, 0, 0, 148, 26, [.val (.ref 1088), .val (.int p1), .val (.ref 1094), .val (.int p3), .val (.int p4), .val (.int v1)], [.int x5, .int (p1 + v1), .ref 1101], (126, 120, L, [Y, T, HA, HB, RA, RB, ST, NS, I0, I1, I2, BO, FI, RG, GU, PU, MA_2, MN, MS, OT, SC], [r0, r1, r2, r3, w, r5, r6, r7, r8], Lg)) o from ev_opt (fun x5 => (d + 0, 0, 0, 148, 26, [.val (.ref 1088), .val (.int p1), .val (.ref 1094), .val (.int p3), .val (.int p4), .val (.int v1)], [.int x5, .int (p1 + v1), .ref 1101], (126, 120, L, [Y, T, HA, HB, RA, RB, ST, NS, I0, I1, I2, BO, FI, RG, GU, PU, MA_2, MN, MS, OT, SC], [r0, r1, r2, r3, w, r5, r6, r7, r8], Lg))) 8 zh11 e (fun n => Eq.refl _)
        obtain ⟨j6, zh12, zh5⟩ := bnd zh5
        have zh12 : ixx 1974 (p1 + v1) = some j6 := zh12
        suffices e : Ev (d + 0, 0, 0, 148, 27, [.val (.ref 1088), .val (.int p1), .val (.ref 1094), .val (.int p3), .val (.int p4), .val (.int v1)], [], (126, 120, L, [Y, T, HA, HB, RA, RB, ST, NS, I0, I1, I2, BO, FI, RG, GU, PU, (u2 MA_2 13 j6 x5), MN, MS, OT, SC], [r0, r1, r2, r3, w, r5, r6, r7, r8], Lg)) o from ev_opt (fun j6 => (d + 0, 0, 0, 148, 27, [.val (.ref 1088), .val (.int p1), .val (.ref 1094), .val (.int p3), .val (.int p4), .val (.int v1)], [], (126, 120, L, [Y, T, HA, HB, RA, RB, ST, NS, I0, I1, I2, BO, FI, RG, GU, PU, (u2 MA_2 13 j6 x5), MN, MS, OT, SC], [r0, r1, r2, r3, w, r5, r6, r7, r8], Lg))) 1 zh12 e (fun n => Eq.refl _)
        exact ev_b 3 (zi3 _ (Option.some.inj zh5).symm ()) (fun n => Eq.refl _)
  · skip
    intro s7
    have ze13 := Option.some.inj h
    subst ze13
    exact ev_rete 4 ho (fun n => Eq.refl _)
set_option maxRecDepth 1000000 in
set_option maxHeartbeats 4000000 in
theorem R_f_M_keepsRow_5_0 (d : Nat) (Y T HA HB RA RB ST NS I0 I1 I2 BO FI RG GU PU MA MN MS OT SC : Nat → Nat → Int32) (r0 r1 r2 r3 w r5 r6 r7 r8 : Nat) (L : Nat) (Lg : Int64) (p1 : Int32) (p3 : Int32) (p4 : Int32) {r : Int32 × (Nat → Nat → Int32)} (h : f_M_keepsRow_5 MA p1 p3 p4 = some r) : Ev (d + 0, 0, 0, 148, 0, [.val (.ref 1088), .val (.int p1), .val (.ref 1100), .val (.int p3), .val (.int p4), .val a_unk], [], (126, 120, L, [Y, T, HA, HB, RA, RB, ST, NS, I0, I1, I2, BO, FI, RG, GU, PU, MA, MN, MS, OT, SC], [r0, r1, r2, r3, w, r5, r6, r7, r8], Lg)) ((0, some (.int r.1), (126, 120, L, [Y, T, HA, HB, RA, RB, ST, NS, I0, I1, I2, BO, FI, RG, GU, PU, r.2, MN, MS, OT, SC], [r0, r1, r2, r3, w, r5, r6, r7, r8], Lg)) : AOut) := by
  suffices key : ∀ o : AOut, ((0, some (.int r.1), (126, 120, L, [Y, T, HA, HB, RA, RB, ST, NS, I0, I1, I2, BO, FI, RG, GU, PU, r.2, MN, MS, OT, SC], [r0, r1, r2, r3, w, r5, r6, r7, r8], Lg)) : AOut) = o → Ev (d + 0, 0, 0, 148, 0, [.val (.ref 1088), .val (.int p1), .val (.ref 1100), .val (.int p3), .val (.int p4), .val a_unk], [], (126, 120, L, [Y, T, HA, HB, RA, RB, ST, NS, I0, I1, I2, BO, FI, RG, GU, PU, MA, MN, MS, OT, SC], [r0, r1, r2, r3, w, r5, r6, r7, r8], Lg)) o from key _ rfl
  intro o ho
  obtain ⟨MA_8, zh2, h⟩ := bnd h
  suffices e : Ev (d + 0, 0, 0, 148, 3, [.val (.ref 1088), .val (.int p1), .val (.ref 1100), .val (.int p3), .val (.int p4), .val (.int 0)], [], (126, 120, L, [Y, T, HA, HB, RA, RB, ST, NS, I0, I1, I2, BO, FI, RG, GU, PU, MA, MN, MS, OT, SC], [r0, r1, r2, r3, w, r5, r6, r7, r8], Lg)) o from ev_b 2 e (fun n => Eq.refl _)
  refine ev_loop (δ := Unit) (fun a j => (d + 0, 0, 0, 148, 3, [.val (.ref 1088), .val (.int p1), .val (.ref 1100), .val (.int p3), .val (.int p4), .val (.int a.1)], [], (126, 120, L, [Y, T, HA, HB, RA, RB, ST, NS, I0, I1, I2, BO, FI, RG, GU, PU, a.2, MN, MS, OT, SC], [r0, r1, r2, r3, w, r5, r6, r7, r8], Lg))) (fun b => ∀ s7 : Value, Ev (d + 0, 0, 0, 148, 49, [.val (.ref 1088), .val (.int p1), .val (.ref 1100), .val (.int p3), .val (.int p4), .val s7], [], (126, 120, L, [Y, T, HA, HB, RA, RB, ST, NS, I0, I1, I2, BO, FI, RG, GU, PU, b, MN, MS, OT, SC], [r0, r1, r2, r3, w, r5, r6, r7, r8], Lg)) o) ?_ a_F (0, MA) MA_8 zh2 ?_ ()
  · rintro ⟨v1, MA_2⟩ zr6 zh5 zi3 zx4 ⟨⟩
    have zh5 : f_M_keepsRow_5_l3 p3 p4 p1 v1 MA_2 = some zr6 := zh5
    by_cases zc7 : p3 ≤ v1
    · have zh5 := itp zh5 zc7
      suffices e : Ev (d + 0, 0, 0, 148, 49, [.val (.ref 1088), .val (.int p1), .val (.ref 1100), .val (.int p3), .val (.int p4), .val (.int v1)], [], (126, 120, L, [Y, T, HA, HB, RA, RB, ST, NS, I0, I1, I2, BO, FI, RG, GU, PU, MA_2, MN, MS, OT, SC], [r0, r1, r2, r3, w, r5, r6, r7, r8], Lg)) o from ev_t (c := p3 ≤ v1) _ _ 3 zc7 e (fun n => Eq.refl _)
      exact ev_b 0 (zx4 _ (Option.some.inj zh5).symm (.int v1)) (fun n => Eq.refl _)
    · have zh5 := itn zh5 zc7
      suffices e : Ev (d + 0, 0, 0, 148, 9, [.val (.ref 1088), .val (.int p1), .val (.ref 1100), .val (.int p3), .val (.int p4), .val (.int v1)], [], (126, 120, L, [Y, T, HA, HB, RA, RB, ST, NS, I0, I1, I2, BO, FI, RG, GU, PU, MA_2, MN, MS, OT, SC], [r0, r1, r2, r3, w, r5, r6, r7, r8], Lg)) o from ev_f (c := p3 ≤ v1) _ _ 3 zc7 e (fun n => Eq.refl _)
      by_cases zc8 : p4 = 0
      · have zh5 := itp zh5 zc8
        suffices e : Ev (d + 0, 0, 0, 148, 30, [.val (.ref 1088), .val (.int p1), .val (.ref 1100), .val (.int p3), .val (.int p4), .val (.int v1)], [], (126, 120, L, [Y, T, HA, HB, RA, RB, ST, NS, I0, I1, I2, BO, FI, RG, GU, PU, MA_2, MN, MS, OT, SC], [r0, r1, r2, r3, w, r5, r6, r7, r8], Lg)) o from ev_t (c := p4 = 0) _ _ 2 zc8 e (fun n => Eq.refl _)
        obtain ⟨x3, zh9, zh5⟩ := bnd zh5
        have zh9 : rdx (MA_2 13) 1974 (p1 + v1) = some x3 := zh9
        suffices e : Ev (d + 0, 0, 0, 148, 42, [.val (.ref 1088), .val (.int p1), .val (.ref 1100), .val (.int p3), .val (.int p4), .val (.int v1)], [.int x3, .int v1, .ref 1100], (126, 120, L, [Y, T, HA, HB, RA, RB, ST, NS, I0, I1, I2, BO, FI, RG, GU, PU, MA_2, MN, MS, OT, SC], [r0, r1, r2, r3, w, r5, r6, r7, r8], Lg)) o from ev_opt (fun x3 => (d + 0, 0, 0, 148, 42, [.val (.ref 1088), .val (.int p1), .val (.ref 1100), .val (.int p3), .val (.int p4), .val (.int v1)], [.int x3, .int v1, .ref 1100], (126, 120, L, [Y, T, HA, HB, RA, RB, ST, NS, I0, I1, I2, BO, FI, RG, GU, PU, MA_2, MN, MS, OT, SC], [r0, r1, r2, r3, w, r5, r6, r7, r8], Lg))) 8 zh9 e (fun n => Eq.refl _)
        obtain ⟨j4, zh10, zh5⟩ := bnd zh5
        have zh10 : ixx 600 v1 = some j4 := zh10
        suffices e : Ev (d + 0, 0, 0, 148, 43, [.val (.ref 1088), .val (.int p1), .val (.ref 1100), .val (.int p3), .val (.int p4), .val (.int v1)], [], (126, 120, L, [Y, T, HA, HB, RA, RB, ST, NS, I0, I1, I2, BO, FI, RG, GU, PU, (u2 MA_2 12 j4 x3), MN, MS, OT, SC], [r0, r1, r2, r3, w, r5, r6, r7, r8], Lg)) o from ev_opt (fun j4 => (d + 0, 0, 0, 148, 43, [.val (.ref 1088), .val (.int p1), .val (.ref 1100), .val (.int p3), .val (.int p4), .val (.int v1)], [], (126, 120, L, [Y, T, HA, HB, RA, RB, ST, NS, I0, I1, I2, BO, FI, RG, GU, PU, (u2 MA_2 12 j4 x3), MN, MS, OT, SC], [r0, r1, r2, r3, w, r5, r6, r7, r8], Lg))) 1 zh10 e (fun n => Eq.refl _)
        exact ev_b 2 (zi3 _ (Option.some.inj zh5).symm ()) (fun n => Eq.refl _)
      · have zh5 := itn zh5 zc8
        suffices e : Ev (d + 0, 0, 0, 148, 14, [.val (.ref 1088), .val (.int p1), .val (.ref 1100), .val (.int p3), .val (.int p4), .val (.int v1)], [], (126, 120, L, [Y, T, HA, HB, RA, RB, ST, NS, I0, I1, I2, BO, FI, RG, GU, PU, MA_2, MN, MS, OT, SC], [r0, r1, r2, r3, w, r5, r6, r7, r8], Lg)) o from ev_f (c := p4 = 0) _ _ 2 zc8 e (fun n => Eq.refl _)
        obtain ⟨x5, zh11, zh5⟩ := bnd zh5
        have zh11 : rdx (MA_2 12) 600 v1 = some x5 := zh11
        suffices e : Ev (d + 0, 0, 0, 148, 26, [.val (.ref 1088), .val (.int p1), .val (.ref 1100), .val (.int p3), .val (.int p4), .val (.int v1)], [.int x5, .int (p1 + v1), .ref 1101], (126, 120, L, [Y, T, HA, HB, RA, RB, ST, NS, I0, I1, I2, BO, FI, RG, GU, PU, MA_2, MN, MS, OT, SC], [r0, r1, r2, r3, w, r5, r6, r7, r8], Lg)) o from ev_opt (fun x5 => (d + 0, 0, 0, 148, 26, [.val (.ref 1088), .val (.int p1), .val (.ref 1100), .val (.int p3), .val (.int p4), .val (.int v1)], [.int x5, .int (p1 + v1), .ref 1101], (126, 120, L, [Y, T, HA, HB, RA, RB, ST, NS, I0, I1, I2, BO, FI, RG, GU, PU, MA_2, MN, MS, OT, SC], [r0, r1, r2, r3, w, r5, r6, r7, r8], Lg))) 8 zh11 e (fun n => Eq.refl _)
        obtain ⟨j6, zh12, zh5⟩ := bnd zh5
        have zh12 : ixx 1974 (p1 + v1) = some j6 := zh12
        suffices e : Ev (d + 0, 0, 0, 148, 27, [.val (.ref 1088), .val (.int p1), .val (.ref 1100), .val (.int p3), .val (.int p4), .val (.int v1)], [], (126, 120, L, [Y, T, HA, HB, RA, RB, ST, NS, I0, I1, I2, BO, FI, RG, GU, PU, (u2 MA_2 13 j6 x5), MN, MS, OT, SC], [r0, r1, r2, r3, w, r5, r6, r7, r8], Lg)) o from ev_opt (fun j6 => (d + 0, 0, 0, 148, 27, [.val (.ref 1088), .val (.int p1), .val (.ref 1100), .val (.int p3), .val (.int p4), .val (.int v1)], [], (126, 120, L, [Y, T, HA, HB, RA, RB, ST, NS, I0, I1, I2, BO, FI, RG, GU, PU, (u2 MA_2 13 j6 x5), MN, MS, OT, SC], [r0, r1, r2, r3, w, r5, r6, r7, r8], Lg))) 1 zh12 e (fun n => Eq.refl _)
        exact ev_b 3 (zi3 _ (Option.some.inj zh5).symm ()) (fun n => Eq.refl _)
  · skip
    intro s7
    have ze13 := Option.some.inj h
    subst ze13
    exact ev_rete 4 ho (fun n => Eq.refl _)
set_option maxRecDepth 1000000 in
set_option maxHeartbeats 4000000 in
theorem R_f_M_keepsAll_0 (d : Nat) (Y T HA HB RA RB ST NS I0 I1 I2 BO FI RG GU PU MA MN MS OT SC : Nat → Nat → Int32) (r0 r1 r2 r3 w r5 r6 r7 r8 : Nat) (L : Nat) (Lg : Int64) (p1 : Int32) (p2 : Int32) {r : (Nat → Nat → Int32)} (h : f_M_keepsAll MA p1 p2 = some r) : Ev (d + 1, 0, 0, 149, 0, [.val (.ref 1088), .val (.int p1), .val (.int p2), .val a_unk], [], (126, 120, L, [Y, T, HA, HB, RA, RB, ST, NS, I0, I1, I2, BO, FI, RG, GU, PU, MA, MN, MS, OT, SC], [r0, r1, r2, r3, w, r5, r6, r7, r8], Lg)) ((0, none, (126, 120, L, [Y, T, HA, HB, RA, RB, ST, NS, I0, I1, I2, BO, FI, RG, GU, PU, r, MN, MS, OT, SC], [r0, r1, r2, r3, w, r5, r6, r7, r8], Lg)) : AOut) := by
  suffices key : ∀ o : AOut, ((0, none, (126, 120, L, [Y, T, HA, HB, RA, RB, ST, NS, I0, I1, I2, BO, FI, RG, GU, PU, r, MN, MS, OT, SC], [r0, r1, r2, r3, w, r5, r6, r7, r8], Lg)) : AOut) = o → Ev (d + 1, 0, 0, 149, 0, [.val (.ref 1088), .val (.int p1), .val (.int p2), .val a_unk], [], (126, 120, L, [Y, T, HA, HB, RA, RB, ST, NS, I0, I1, I2, BO, FI, RG, GU, PU, MA, MN, MS, OT, SC], [r0, r1, r2, r3, w, r5, r6, r7, r8], Lg)) o from key _ rfl
  intro o ho
  obtain ⟨⟨x1, MA_2⟩, zh1, h⟩ := bnd h
  have zh1 : f_M_keepsRow MA (658 * p1) 10 p2 = some (x1, MA_2) := zh1
  have ze2 := R_f_M_keepsRow_0 (d + 0) Y T HA HB RA RB ST NS I0 I1 I2 BO FI RG GU PU MA MN MS OT SC r0 r1 r2 r3 w r5 r6 r7 r8 L Lg (658 * p1) 10 p2 zh1
  suffices e : Ev (d + 1, 0, 0, 149, 16, [.val (.ref 1088), .val (.int p1), .val (.int p2), .val a_unk], [.int x1], (126, 120, L, [Y, T, HA, HB, RA, RB, ST, NS, I0, I1, I2, BO, FI, RG, GU, PU, MA_2, MN, MS, OT, SC], [r0, r1, r2, r3, w, r5, r6, r7, r8], Lg)) o from ev_call (fun v μ => (d + 1, 0, 0, 149, 16, [.val (.ref 1088), .val (.int p1), .val (.int p2), .val a_unk], v.toList ++ [], μ)) 9 ze2 e (fun n => Eq.refl _)
  obtain ⟨⟨x3, MA_4⟩, zh3, h⟩ := bnd h
  have zh3 : f_M_keepsRow_2 MA_2 x1 10 p2 = some (x3, MA_4) := zh3
  have ze4 := R_f_M_keepsRow_2_0 (d + 0) Y T HA HB RA RB ST NS I0 I1 I2 BO FI RG GU PU MA_2 MN MS OT SC r0 r1 r2 r3 w r5 r6 r7 r8 L Lg x1 10 p2 zh3
  suffices e : Ev (d + 1, 0, 0, 149, 29, [.val (.ref 1088), .val (.int p1), .val (.int p2), .val (.int x1)], [.int x3], (126, 120, L, [Y, T, HA, HB, RA, RB, ST, NS, I0, I1, I2, BO, FI, RG, GU, PU, MA_4, MN, MS, OT, SC], [r0, r1, r2, r3, w, r5, r6, r7, r8], Lg)) o from ev_call (fun v μ => (d + 1, 0, 0, 149, 29, [.val (.ref 1088), .val (.int p1), .val (.int p2), .val (.int x1)], v.toList ++ [], μ)) 8 ze4 e (fun n => Eq.refl _)
  obtain ⟨⟨x5, MA_6⟩, zh5, h⟩ := bnd h
  have zh5 : f_M_keepsRow_3 MA_4 x3 20 p2 = some (x5, MA_6) := zh5
  have ze6 := R_f_M_keepsRow_3_0 (d + 0) Y T HA HB RA RB ST NS I0 I1 I2 BO FI RG GU PU MA_4 MN MS OT SC r0 r1 r2 r3 w r5 r6 r7 r8 L Lg x3 20 p2 zh5
  suffices e : Ev (d + 1, 0, 0, 149, 42, [.val (.ref 1088), .val (.int p1), .val (.int p2), .val (.int x3)], [.int x5], (126, 120, L, [Y, T, HA, HB, RA, RB, ST, NS, I0, I1, I2, BO, FI, RG, GU, PU, MA_6, MN, MS, OT, SC], [r0, r1, r2, r3, w, r5, r6, r7, r8], Lg)) o from ev_call (fun v μ => (d + 1, 0, 0, 149, 42, [.val (.ref 1088), .val (.int p1), .val (.int p2), .val (.int x3)], v.toList ++ [], μ)) 8 ze6 e (fun n => Eq.refl _)
  obtain ⟨⟨x7, MA_8⟩, zh7, h⟩ := bnd h
  have zh7 : f_M_keepsRow_4 MA_6 x5 16 p2 = some (x7, MA_8) := zh7
  have ze8 := R_f_M_keepsRow_4_0 (d + 0) Y T HA HB RA RB ST NS I0 I1 I2 BO FI RG GU PU MA_6 MN MS OT SC r0 r1 r2 r3 w r5 r6 r7 r8 L Lg x5 16 p2 zh7
  suffices e : Ev (d + 1, 0, 0, 149, 55, [.val (.ref 1088), .val (.int p1), .val (.int p2), .val (.int x5)], [.int x7], (126, 120, L, [Y, T, HA, HB, RA, RB, ST, NS, I0, I1, I2, BO, FI, RG, GU, PU, MA_8, MN, MS, OT, SC], [r0, r1, r2, r3, w, r5, r6, r7, r8], Lg)) o from ev_call (fun v μ => (d + 1, 0, 0, 149, 55, [.val (.ref 1088), .val (.int p1), .val (.int p2), .val (.int x5)], v.toList ++ [], μ)) 8 ze8 e (fun n => Eq.refl _)
  obtain ⟨⟨x9, MA_10⟩, zh9, h⟩ := bnd h
  have zh9 : f_M_keepsRow_5 MA_8 x7 600 p2 = some (x9, MA_10) := zh9
  have ze10 := R_f_M_keepsRow_5_0 (d + 0) Y T HA HB RA RB ST NS I0 I1 I2 BO FI RG GU PU MA_8 MN MS OT SC r0 r1 r2 r3 w r5 r6 r7 r8 L Lg x7 600 p2 zh9
  suffices e : Ev (d + 1, 0, 0, 149, 69, [.val (.ref 1088), .val (.int p1), .val (.int p2), .val (.int x7)], [.int x9], (126, 120, L, [Y, T, HA, HB, RA, RB, ST, NS, I0, I1, I2, BO, FI, RG, GU, PU, MA_10, MN, MS, OT, SC], [r0, r1, r2, r3, w, r5, r6, r7, r8], Lg)) o from ev_call (fun v μ => (d + 1, 0, 0, 149, 69, [.val (.ref 1088), .val (.int p1), .val (.int p2), .val (.int x7)], v.toList ++ [], μ)) 8 ze10 e (fun n => Eq.refl _)
  by_cases zc11 : p2 = 0
  · have h := itp h zc11
    suffices e : Ev (d + 1, 0, 0, 149, 99, [.val (.ref 1088), .val (.int p1), .val (.int p2), .val (.int x9)], [], (126, 120, L, [Y, T, HA, HB, RA, RB, ST, NS, I0, I1, I2, BO, FI, RG, GU, PU, MA_10, MN, MS, OT, SC], [r0, r1, r2, r3, w, r5, r6, r7, r8], Lg)) o from ev_t (c := p2 = 0) _ _ 3 zc11 e (fun n => Eq.refl _)
    obtain ⟨x11, zh12, h⟩ := bnd h
    have zh12 : rdx (MA_10 13) 1974 x9 = some x11 := zh12
    suffices e : Ev (d + 1, 0, 0, 149, 106, [.val (.ref 1088), .val (.int p1), .val (.int p2), .val (.int x9)], [.int x11, .ref 1088], (126, 120, L, [Y, T, HA, HB, RA, RB, ST, NS, I0, I1, I2, BO, FI, RG, GU, PU, MA_10, MN, MS, OT, SC], [r0, r1, r2, r3, w, r5, r6, r7, r8], Lg)) o from ev_opt (fun x11 => (d + 1, 0, 0, 149, 106, [.val (.ref 1088), .val (.int p1), .val (.int p2), .val (.int x9)], [.int x11, .ref 1088], (126, 120, L, [Y, T, HA, HB, RA, RB, ST, NS, I0, I1, I2, BO, FI, RG, GU, PU, MA_10, MN, MS, OT, SC], [r0, r1, r2, r3, w, r5, r6, r7, r8], Lg))) 5 zh12 e (fun n => Eq.refl _)
    obtain ⟨x12, zh13, h⟩ := bnd h
    have zh13 : rdx ((u2 MA_10 0 33 x11) 13) 1974 (x9 + 1) = some x12 := zh13
    suffices e : Ev (d + 1, 0, 0, 149, 118, [.val (.ref 1088), .val (.int p1), .val (.int p2), .val (.int x9)], [.int x12, .ref 1088], (126, 120, L, [Y, T, HA, HB, RA, RB, ST, NS, I0, I1, I2, BO, FI, RG, GU, PU, (u2 MA_10 0 33 x11), MN, MS, OT, SC], [r0, r1, r2, r3, w, r5, r6, r7, r8], Lg)) o from ev_opt (fun x12 => (d + 1, 0, 0, 149, 118, [.val (.ref 1088), .val (.int p1), .val (.int p2), .val (.int x9)], [.int x12, .ref 1088], (126, 120, L, [Y, T, HA, HB, RA, RB, ST, NS, I0, I1, I2, BO, FI, RG, GU, PU, (u2 MA_10 0 33 x11), MN, MS, OT, SC], [r0, r1, r2, r3, w, r5, r6, r7, r8], Lg))) 8 zh13 e (fun n => Eq.refl _)
    have ze14 := Option.some.inj h
    subst ze14
    exact ev_rete 2 ho (fun n => Eq.refl _)
  · have h := itn h zc11
    suffices e : Ev (d + 1, 0, 0, 149, 74, [.val (.ref 1088), .val (.int p1), .val (.int p2), .val (.int x9)], [], (126, 120, L, [Y, T, HA, HB, RA, RB, ST, NS, I0, I1, I2, BO, FI, RG, GU, PU, MA_10, MN, MS, OT, SC], [r0, r1, r2, r3, w, r5, r6, r7, r8], Lg)) o from ev_f (c := p2 = 0) _ _ 3 zc11 e (fun n => Eq.refl _)
    obtain ⟨j13, zh15, h⟩ := bnd h
    have zh15 : ixx 1974 x9 = some j13 := zh15
    suffices e : Ev (d + 1, 0, 0, 149, 84, [.val (.ref 1088), .val (.int p1), .val (.int p2), .val (.int x9)], [], (126, 120, L, [Y, T, HA, HB, RA, RB, ST, NS, I0, I1, I2, BO, FI, RG, GU, PU, (u2 MA_10 13 j13 (MA_10 0 33)), MN, MS, OT, SC], [r0, r1, r2, r3, w, r5, r6, r7, r8], Lg)) o from ev_opt (fun j13 => (d + 1, 0, 0, 149, 84, [.val (.ref 1088), .val (.int p1), .val (.int p2), .val (.int x9)], [], (126, 120, L, [Y, T, HA, HB, RA, RB, ST, NS, I0, I1, I2, BO, FI, RG, GU, PU, (u2 MA_10 13 j13 (MA_10 0 33)), MN, MS, OT, SC], [r0, r1, r2, r3, w, r5, r6, r7, r8], Lg))) 6 zh15 e (fun n => Eq.refl _)
    obtain ⟨j14, zh16, h⟩ := bnd h
    have zh16 : ixx 1974 (x9 + 1) = some j14 := zh16
    suffices e : Ev (d + 1, 0, 0, 149, 96, [.val (.ref 1088), .val (.int p1), .val (.int p2), .val (.int x9)], [], (126, 120, L, [Y, T, HA, HB, RA, RB, ST, NS, I0, I1, I2, BO, FI, RG, GU, PU, (u2 (u2 MA_10 13 j13 (MA_10 0 33)) 13 j14 ((u2 MA_10 13 j13 (MA_10 0 33)) 0 43)), MN, MS, OT, SC], [r0, r1, r2, r3, w, r5, r6, r7, r8], Lg)) o from ev_opt (fun j14 => (d + 1, 0, 0, 149, 96, [.val (.ref 1088), .val (.int p1), .val (.int p2), .val (.int x9)], [], (126, 120, L, [Y, T, HA, HB, RA, RB, ST, NS, I0, I1, I2, BO, FI, RG, GU, PU, (u2 (u2 MA_10 13 j13 (MA_10 0 33)) 13 j14 ((u2 MA_10 13 j13 (MA_10 0 33)) 0 43)), MN, MS, OT, SC], [r0, r1, r2, r3, w, r5, r6, r7, r8], Lg))) 8 zh16 e (fun n => Eq.refl _)
    have ze17 := Option.some.inj h
    subst ze17
    exact ev_rete 2 ho (fun n => Eq.refl _)
set_option maxRecDepth 1000000 in
set_option maxHeartbeats 4000000 in
theorem R_f_M_image_0 (d : Nat) (Y T HA HB RA RB ST NS I0 I1 I2 BO FI RG GU PU MA MN MS OT SC : Nat → Nat → Int32) (r0 r1 r2 r3 w r5 r6 r7 r8 : Nat) (L : Nat) (Lg : Int64) {r : Int32 × (Nat → Nat → Int32)} (h : f_M_image MA = some r) : Ev (d + 2, 0, 0, 150, 0, [.val (.ref 1088)], [], (126, 120, L, [Y, T, HA, HB, RA, RB, ST, NS, I0, I1, I2, BO, FI, RG, GU, PU, MA, MN, MS, OT, SC], [r0, r1, r2, r3, w, r5, r6, r7, r8], Lg)) ((0, some (.int r.1), (126, 120, L, [Y, T, HA, HB, RA, RB, ST, NS, I0, I1, I2, BO, FI, RG, GU, PU, r.2, MN, MS, OT, SC], [r0, r1, r2, r3, w, r5, r6, r7, r8], Lg)) : AOut) := by
  suffices key : ∀ o : AOut, ((0, some (.int r.1), (126, 120, L, [Y, T, HA, HB, RA, RB, ST, NS, I0, I1, I2, BO, FI, RG, GU, PU, r.2, MN, MS, OT, SC], [r0, r1, r2, r3, w, r5, r6, r7, r8], Lg)) : AOut) = o → Ev (d + 2, 0, 0, 150, 0, [.val (.ref 1088)], [], (126, 120, L, [Y, T, HA, HB, RA, RB, ST, NS, I0, I1, I2, BO, FI, RG, GU, PU, MA, MN, MS, OT, SC], [r0, r1, r2, r3, w, r5, r6, r7, r8], Lg)) o from key _ rfl
  intro o ho
  by_cases zc1 : ((u2 MA 0 0 0) 0 65) ≠ 3
  · have h := itp h zc1
    suffices e : Ev (d + 2, 0, 0, 150, 15, [.val (.ref 1088)], [], (126, 120, L, [Y, T, HA, HB, RA, RB, ST, NS, I0, I1, I2, BO, FI, RG, GU, PU, (u2 MA 0 0 0), MN, MS, OT, SC], [r0, r1, r2, r3, w, r5, r6, r7, r8], Lg)) o from ev_t (c := ((u2 MA 0 0 0) 0 65) ≠ 3) _ _ 7 zc1 e (fun n => Eq.refl _)
    obtain ⟨MA_1, zh2, h⟩ := bnd h
    have zh2 : f_M_keepsAll (u2 MA 0 0 0) ((u2 MA 0 0 0) 0 65) 1 = some MA_1 := zh2
    have ze3 := R_f_M_keepsAll_0 (d + 0) Y T HA HB RA RB ST NS I0 I1 I2 BO FI RG GU PU (u2 MA 0 0 0) MN MS OT SC r0 r1 r2 r3 w r5 r6 r7 r8 L Lg ((u2 MA 0 0 0) 0 65) 1 zh2
    suffices e : Ev (d + 2, 0, 0, 150, 24, [.val (.ref 1088)], [], (126, 120, L, [Y, T, HA, HB, RA, RB, ST, NS, I0, I1, I2, BO, FI, RG, GU, PU, MA_1, MN, MS, OT, SC], [r0, r1, r2, r3, w, r5, r6, r7, r8], Lg)) o from ev_call (fun v μ => (d + 2, 0, 0, 150, 24, [.val (.ref 1088)], v.toList ++ [], μ)) 5 ze3 e (fun n => Eq.refl _)
    have ze4 := Option.some.inj h
    subst ze4
    exact ev_rete 9 ho (fun n => Eq.refl _)
  · have h := itn h zc1
    suffices e : Ev (d + 2, 0, 0, 150, 13, [.val (.ref 1088)], [], (126, 120, L, [Y, T, HA, HB, RA, RB, ST, NS, I0, I1, I2, BO, FI, RG, GU, PU, (u2 MA 0 0 0), MN, MS, OT, SC], [r0, r1, r2, r3, w, r5, r6, r7, r8], Lg)) o from ev_f (c := ((u2 MA 0 0 0) 0 65) ≠ 3) _ _ 7 zc1 e (fun n => Eq.refl _)
    have ze5 := Option.some.inj h
    subst ze5
    exact ev_rete 2 ho (fun n => Eq.refl _)
set_option maxRecDepth 1000000 in
set_option maxHeartbeats 4000000 in
theorem R_f_M_restore_0 (d : Nat) (Y T HA HB RA RB ST NS I0 I1 I2 BO FI RG GU PU MA MN MS OT SC : Nat → Nat → Int32) (r0 r1 r2 r3 w r5 r6 r7 r8 : Nat) (L : Nat) (Lg : Int64) {r : Int32 × (Nat → Nat → Int32)} (h : f_M_restore MA = some r) : Ev (d + 2, 0, 0, 151, 0, [.val (.ref 1088)], [], (126, 120, L, [Y, T, HA, HB, RA, RB, ST, NS, I0, I1, I2, BO, FI, RG, GU, PU, MA, MN, MS, OT, SC], [r0, r1, r2, r3, w, r5, r6, r7, r8], Lg)) ((0, some (.int r.1), (126, 120, L, [Y, T, HA, HB, RA, RB, ST, NS, I0, I1, I2, BO, FI, RG, GU, PU, r.2, MN, MS, OT, SC], [r0, r1, r2, r3, w, r5, r6, r7, r8], Lg)) : AOut) := by
  suffices key : ∀ o : AOut, ((0, some (.int r.1), (126, 120, L, [Y, T, HA, HB, RA, RB, ST, NS, I0, I1, I2, BO, FI, RG, GU, PU, r.2, MN, MS, OT, SC], [r0, r1, r2, r3, w, r5, r6, r7, r8], Lg)) : AOut) = o → Ev (d + 2, 0, 0, 151, 0, [.val (.ref 1088)], [], (126, 120, L, [Y, T, HA, HB, RA, RB, ST, NS, I0, I1, I2, BO, FI, RG, GU, PU, MA, MN, MS, OT, SC], [r0, r1, r2, r3, w, r5, r6, r7, r8], Lg)) o from key _ rfl
  intro o ho
  by_cases zc1 : ((u2 MA 0 0 0) 0 65) ≠ 0
  · have h := itp h zc1
    suffices e : Ev (d + 2, 0, 0, 151, 14, [.val (.ref 1088)], [], (126, 120, L, [Y, T, HA, HB, RA, RB, ST, NS, I0, I1, I2, BO, FI, RG, GU, PU, (u2 MA 0 0 0), MN, MS, OT, SC], [r0, r1, r2, r3, w, r5, r6, r7, r8], Lg)) o from ev_t (c := ((u2 MA 0 0 0) 0 65) ≠ 0) _ _ 6 zc1 e (fun n => Eq.refl _)
    obtain ⟨MA_1, zh2, h⟩ := bnd h
    have zh2 : f_M_keepsAll (u2 (u2 MA 0 0 0) 0 65 (((u2 MA 0 0 0) 0 65) - 1)) ((u2 (u2 MA 0 0 0) 0 65 (((u2 MA 0 0 0) 0 65) - 1)) 0 65) 0 = some MA_1 := zh2
    have ze3 := R_f_M_keepsAll_0 (d + 0) Y T HA HB RA RB ST NS I0 I1 I2 BO FI RG GU PU (u2 (u2 MA 0 0 0) 0 65 (((u2 MA 0 0 0) 0 65) - 1)) MN MS OT SC r0 r1 r2 r3 w r5 r6 r7 r8 L Lg ((u2 (u2 MA 0 0 0) 0 65 (((u2 MA 0 0 0) 0 65) - 1)) 0 65) 0 zh2
    suffices e : Ev (d + 2, 0, 0, 151, 33, [.val (.ref 1088)], [], (126, 120, L, [Y, T, HA, HB, RA, RB, ST, NS, I0, I1, I2, BO, FI, RG, GU, PU, MA_1, MN, MS, OT, SC], [r0, r1, r2, r3, w, r5, r6, r7, r8], Lg)) o from ev_call (fun v μ => (d + 2, 0, 0, 151, 33, [.val (.ref 1088)], v.toList ++ [], μ)) 11 ze3 e (fun n => Eq.refl _)
    have ze4 := Option.some.inj h
    subst ze4
    exact ev_rete 3 ho (fun n => Eq.refl _)
  · have h := itn h zc1
    suffices e : Ev (d + 2, 0, 0, 151, 12, [.val (.ref 1088)], [], (126, 120, L, [Y, T, HA, HB, RA, RB, ST, NS, I0, I1, I2, BO, FI, RG, GU, PU, (u2 MA 0 0 0), MN, MS, OT, SC], [r0, r1, r2, r3, w, r5, r6, r7, r8], Lg)) o from ev_f (c := ((u2 MA 0 0 0) 0 65) ≠ 0) _ _ 6 zc1 e (fun n => Eq.refl _)
    have ze5 := Option.some.inj h
    subst ze5
    exact ev_rete 2 ho (fun n => Eq.refl _)
set_option maxRecDepth 1000000 in
set_option maxHeartbeats 4000000 in
theorem R_f_M_status_0 (d : Nat) (Y T HA HB RA RB ST NS I0 I1 I2 BO FI RG GU PU MA MN MS OT SC : Nat → Nat → Int32) (r0 r1 r2 r3 w r5 r6 r7 r8 : Nat) (L : Nat) (Lg : Int64) (p1 : Int32) {r : Int32 × (Nat → Nat → Int32)} (h : f_M_status MA p1 = some r) : Ev (d + 1, 0, 0, 152, 0, [.val (.ref 1088), .val (.int p1)], [], (126, 120, L, [Y, T, HA, HB, RA, RB, ST, NS, I0, I1, I2, BO, FI, RG, GU, PU, MA, MN, MS, OT, SC], [r0, r1, r2, r3, w, r5, r6, r7, r8], Lg)) ((0, some (.int r.1), (126, 120, L, [Y, T, HA, HB, RA, RB, ST, NS, I0, I1, I2, BO, FI, RG, GU, PU, r.2, MN, MS, OT, SC], [r0, r1, r2, r3, w, r5, r6, r7, r8], Lg)) : AOut) := by
  suffices key : ∀ o : AOut, ((0, some (.int r.1), (126, 120, L, [Y, T, HA, HB, RA, RB, ST, NS, I0, I1, I2, BO, FI, RG, GU, PU, r.2, MN, MS, OT, SC], [r0, r1, r2, r3, w, r5, r6, r7, r8], Lg)) : AOut) = o → Ev (d + 1, 0, 0, 152, 0, [.val (.ref 1088), .val (.int p1)], [], (126, 120, L, [Y, T, HA, HB, RA, RB, ST, NS, I0, I1, I2, BO, FI, RG, GU, PU, MA, MN, MS, OT, SC], [r0, r1, r2, r3, w, r5, r6, r7, r8], Lg)) o from key _ rfl
  intro o ho
  obtain ⟨x1, zh1, h⟩ := bnd h
  have zh1 : f_M_within p1 0 1 = some x1 := zh1
  have ze2 := R_f_M_within_0 (d + 0) Y T HA HB RA RB ST NS I0 I1 I2 BO FI RG GU PU (u2 MA 0 0 0) MN MS OT SC r0 r1 r2 r3 w r5 r6 r7 r8 L Lg p1 0 1 zh1
  suffices e : Ev (d + 1, 0, 0, 152, 11, [.val (.ref 1088), .val (.int p1)], [.int x1], (126, 120, L, [Y, T, HA, HB, RA, RB, ST, NS, I0, I1, I2, BO, FI, RG, GU, PU, (u2 MA 0 0 0), MN, MS, OT, SC], [r0, r1, r2, r3, w, r5, r6, r7, r8], Lg)) o from ev_call (fun v μ => (d + 1, 0, 0, 152, 11, [.val (.ref 1088), .val (.int p1)], v.toList ++ [], μ)) 7 ze2 e (fun n => Eq.refl _)
  by_cases zc3 : x1 = 0
  · have h := itp h zc3
    suffices e : Ev (d + 1, 0, 0, 152, 23, [.val (.ref 1088), .val (.int p1)], [], (126, 120, L, [Y, T, HA, HB, RA, RB, ST, NS, I0, I1, I2, BO, FI, RG, GU, PU, (u2 MA 0 0 0), MN, MS, OT, SC], [r0, r1, r2, r3, w, r5, r6, r7, r8], Lg)) o from ev_t (c := x1 = 0) _ _ 1 zc3 e (fun n => Eq.refl _)
    have ze4 := Option.some.inj h
    subst ze4
    exact ev_rete 2 ho (fun n => Eq.refl _)
  · have h := itn h zc3
    suffices e : Ev (d + 1, 0, 0, 152, 14, [.val (.ref 1088), .val (.int p1)], [], (126, 120, L, [Y, T, HA, HB, RA, RB, ST, NS, I0, I1, I2, BO, FI, RG, GU, PU, (u2 MA 0 0 0), MN, MS, OT, SC], [r0, r1, r2, r3, w, r5, r6, r7, r8], Lg)) o from ev_f (c := x1 = 0) _ _ 1 zc3 e (fun n => Eq.refl _)
    obtain ⟨x2, zh5, h⟩ := bnd h
    have zh5 : rdx ((u2 MA 0 0 0) 1) 2 p1 = some x2 := zh5
    suffices e : Ev (d + 1, 0, 0, 152, 20, [.val (.ref 1088), .val (.int p1)], [.int x2], (126, 120, L, [Y, T, HA, HB, RA, RB, ST, NS, I0, I1, I2, BO, FI, RG, GU, PU, (u2 MA 0 0 0), MN, MS, OT, SC], [r0, r1, r2, r3, w, r5, r6, r7, r8], Lg)) o from ev_opt (fun x2 => (d + 1, 0, 0, 152, 20, [.val (.ref 1088), .val (.int p1)], [.int x2], (126, 120, L, [Y, T, HA, HB, RA, RB, ST, NS, I0, I1, I2, BO, FI, RG, GU, PU, (u2 MA 0 0 0), MN, MS, OT, SC], [r0, r1, r2, r3, w, r5, r6, r7, r8], Lg))) 4 zh5 e (fun n => Eq.refl _)
    have ze6 := Option.some.inj h
    subst ze6
    exact ev_rete 2 ho (fun n => Eq.refl _)
set_option maxRecDepth 1000000 in
set_option maxHeartbeats 4000000 in
theorem R_f_M_count_0 (d : Nat) (Y T HA HB RA RB ST NS I0 I1 I2 BO FI RG GU PU MA MN MS OT SC : Nat → Nat → Int32) (r0 r1 r2 r3 w r5 r6 r7 r8 : Nat) (L : Nat) (Lg : Int64) (p1 : Int32) {r : Int32 × (Nat → Nat → Int32)} (h : f_M_count MA p1 = some r) : Ev (d + 0, 0, 0, 153, 0, [.val (.ref 1088), .val (.int p1)], [], (126, 120, L, [Y, T, HA, HB, RA, RB, ST, NS, I0, I1, I2, BO, FI, RG, GU, PU, MA, MN, MS, OT, SC], [r0, r1, r2, r3, w, r5, r6, r7, r8], Lg)) ((0, some (.int r.1), (126, 120, L, [Y, T, HA, HB, RA, RB, ST, NS, I0, I1, I2, BO, FI, RG, GU, PU, r.2, MN, MS, OT, SC], [r0, r1, r2, r3, w, r5, r6, r7, r8], Lg)) : AOut) := by
  suffices key : ∀ o : AOut, ((0, some (.int r.1), (126, 120, L, [Y, T, HA, HB, RA, RB, ST, NS, I0, I1, I2, BO, FI, RG, GU, PU, r.2, MN, MS, OT, SC], [r0, r1, r2, r3, w, r5, r6, r7, r8], Lg)) : AOut) = o → Ev (d + 0, 0, 0, 153, 0, [.val (.ref 1088), .val (.int p1)], [], (126, 120, L, [Y, T, HA, HB, RA, RB, ST, NS, I0, I1, I2, BO, FI, RG, GU, PU, MA, MN, MS, OT, SC], [r0, r1, r2, r3, w, r5, r6, r7, r8], Lg)) o from key _ rfl
  intro o ho
  by_cases zc1 : p1 ≠ 0
  · have h := itp h zc1
    suffices e : Ev (d + 0, 0, 0, 153, 16, [.val (.ref 1088), .val (.int p1)], [], (126, 120, L, [Y, T, HA, HB, RA, RB, ST, NS, I0, I1, I2, BO, FI, RG, GU, PU, (u2 MA 0 0 0), MN, MS, OT, SC], [r0, r1, r2, r3, w, r5, r6, r7, r8], Lg)) o from ev_t (c := p1 ≠ 0) _ _ 5 zc1 e (fun n => Eq.refl _)
    by_cases zc2 : p1 ≠ 1
    · have h := itp h zc2
      suffices e : Ev (d + 0, 0, 0, 153, 28, [.val (.ref 1088), .val (.int p1)], [], (126, 120, L, [Y, T, HA, HB, RA, RB, ST, NS, I0, I1, I2, BO, FI, RG, GU, PU, (u2 MA 0 0 0), MN, MS, OT, SC], [r0, r1, r2, r3, w, r5, r6, r7, r8], Lg)) o from ev_t (c := p1 ≠ 1) _ _ 3 zc2 e (fun n => Eq.refl _)
      by_cases zc3 : p1 ≠ 2
      · have h := itp h zc3
        suffices e : Ev (d + 0, 0, 0, 153, 40, [.val (.ref 1088), .val (.int p1)], [], (126, 120, L, [Y, T, HA, HB, RA, RB, ST, NS, I0, I1, I2, BO, FI, RG, GU, PU, (u2 MA 0 0 0), MN, MS, OT, SC], [r0, r1, r2, r3, w, r5, r6, r7, r8], Lg)) o from ev_t (c := p1 ≠ 2) _ _ 3 zc3 e (fun n => Eq.refl _)
        have ze4 := Option.some.inj h
        subst ze4
        exact ev_rete 2 ho (fun n => Eq.refl _)
      · have h := itn h zc3
        suffices e : Ev (d + 0, 0, 0, 153, 33, [.val (.ref 1088), .val (.int p1)], [], (126, 120, L, [Y, T, HA, HB, RA, RB, ST, NS, I0, I1, I2, BO, FI, RG, GU, PU, (u2 MA 0 0 0), MN, MS, OT, SC], [r0, r1, r2, r3, w, r5, r6, r7, r8], Lg)) o from ev_f (c := p1 ≠ 2) _ _ 3 zc3 e (fun n => Eq.refl _)
        have ze5 := Option.some.inj h
        subst ze5
        exact ev_rete 4 ho (fun n => Eq.refl _)
    · have h := itn h zc2
      suffices e : Ev (d + 0, 0, 0, 153, 21, [.val (.ref 1088), .val (.int p1)], [], (126, 120, L, [Y, T, HA, HB, RA, RB, ST, NS, I0, I1, I2, BO, FI, RG, GU, PU, (u2 MA 0 0 0), MN, MS, OT, SC], [r0, r1, r2, r3, w, r5, r6, r7, r8], Lg)) o from ev_f (c := p1 ≠ 1) _ _ 3 zc2 e (fun n => Eq.refl _)
      have ze6 := Option.some.inj h
      subst ze6
      exact ev_rete 4 ho (fun n => Eq.refl _)
  · have h := itn h zc1
    suffices e : Ev (d + 0, 0, 0, 153, 9, [.val (.ref 1088), .val (.int p1)], [], (126, 120, L, [Y, T, HA, HB, RA, RB, ST, NS, I0, I1, I2, BO, FI, RG, GU, PU, (u2 MA 0 0 0), MN, MS, OT, SC], [r0, r1, r2, r3, w, r5, r6, r7, r8], Lg)) o from ev_f (c := p1 ≠ 0) _ _ 5 zc1 e (fun n => Eq.refl _)
    have ze7 := Option.some.inj h
    subst ze7
    exact ev_rete 4 ho (fun n => Eq.refl _)
