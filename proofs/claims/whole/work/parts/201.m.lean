/-! printed by program (gen/emitm.py): the reference's methods run as their functions say -/
set_option maxRecDepth 1000000 in
set_option maxHeartbeats 4000000 in
theorem R_f_M_thrown_0 (d : Nat) (Y T HA HB RA RB ST NS I0 I1 I2 BO FI RG GU PU MA MN MS OT SC : Nat → Nat → Int32) (r0 r1 r2 r3 w r5 r6 r7 r8 : Nat) (L : Nat) (Lg : Int64) {r : Int32} (h : f_M_thrown MA = some r) : Ev (d + 0, 0, 0, 12, 0, [.val (.ref 1088)], [], (126, 120, L, [Y, T, HA, HB, RA, RB, ST, NS, I0, I1, I2, BO, FI, RG, GU, PU, MA, MN, MS, OT, SC], [r0, r1, r2, r3, w, r5, r6, r7, r8], Lg)) ((0, some (.int r), (126, 120, L, [Y, T, HA, HB, RA, RB, ST, NS, I0, I1, I2, BO, FI, RG, GU, PU, MA, MN, MS, OT, SC], [r0, r1, r2, r3, w, r5, r6, r7, r8], Lg)) : AOut) := by
  suffices key : ∀ o : AOut, ((0, some (.int r), (126, 120, L, [Y, T, HA, HB, RA, RB, ST, NS, I0, I1, I2, BO, FI, RG, GU, PU, MA, MN, MS, OT, SC], [r0, r1, r2, r3, w, r5, r6, r7, r8], Lg)) : AOut) = o → Ev (d + 0, 0, 0, 12, 0, [.val (.ref 1088)], [], (126, 120, L, [Y, T, HA, HB, RA, RB, ST, NS, I0, I1, I2, BO, FI, RG, GU, PU, MA, MN, MS, OT, SC], [r0, r1, r2, r3, w, r5, r6, r7, r8], Lg)) o from key _ rfl
  intro o ho
  have ze1 := Option.some.inj h
  subst ze1
  exact ev_rete 3 ho (fun n => Eq.refl _)
set_option maxRecDepth 1000000 in
set_option maxHeartbeats 4000000 in
theorem R_f_M_may_0 (d : Nat) (Y T HA HB RA RB ST NS I0 I1 I2 BO FI RG GU PU MA MN MS OT SC : Nat → Nat → Int32) (r0 r1 r2 r3 w r5 r6 r7 r8 : Nat) (L : Nat) (Lg : Int64) (p1 : Int32) (p2 : Int32) (p3 : Int32) {r : Int32 × (Nat → Nat → Int32)} (h : f_M_may MA p1 p2 p3 = some r) : Ev (d + 0, 0, 0, 13, 0, [.val (.ref 1088), .val (.int p1), .val (.int p2), .val (.int p3)], [], (126, 120, L, [Y, T, HA, HB, RA, RB, ST, NS, I0, I1, I2, BO, FI, RG, GU, PU, MA, MN, MS, OT, SC], [r0, r1, r2, r3, w, r5, r6, r7, r8], Lg)) ((0, some (.int r.1), (126, 120, L, [Y, T, HA, HB, RA, RB, ST, NS, I0, I1, I2, BO, FI, RG, GU, PU, r.2, MN, MS, OT, SC], [r0, r1, r2, r3, w, r5, r6, r7, r8], Lg)) : AOut) := by
  suffices key : ∀ o : AOut, ((0, some (.int r.1), (126, 120, L, [Y, T, HA, HB, RA, RB, ST, NS, I0, I1, I2, BO, FI, RG, GU, PU, r.2, MN, MS, OT, SC], [r0, r1, r2, r3, w, r5, r6, r7, r8], Lg)) : AOut) = o → Ev (d + 0, 0, 0, 13, 0, [.val (.ref 1088), .val (.int p1), .val (.int p2), .val (.int p3)], [], (126, 120, L, [Y, T, HA, HB, RA, RB, ST, NS, I0, I1, I2, BO, FI, RG, GU, PU, MA, MN, MS, OT, SC], [r0, r1, r2, r3, w, r5, r6, r7, r8], Lg)) o from key _ rfl
  intro o ho
  obtain ⟨zt1, zh2, h⟩ := bnd h
  have zj3 : ∀ (MA_3 : (Nat → Nat → Int32)), MA_3 = zt1 → Ev (d + 0, 0, 0, 13, 26, [.val (.ref 1088), .val (.int p1), .val (.int p2), .val (.int p3)], [], (126, 120, L, [Y, T, HA, HB, RA, RB, ST, NS, I0, I1, I2, BO, FI, RG, GU, PU, MA_3, MN, MS, OT, SC], [r0, r1, r2, r3, w, r5, r6, r7, r8], Lg)) o := by
    intro MA_3 ze4
    subst ze4
    by_cases zc5 : (MA_3 0 0) ≠ 0
    · have h := itp h zc5
      suffices e : Ev (d + 0, 0, 0, 13, 37, [.val (.ref 1088), .val (.int p1), .val (.int p2), .val (.int p3)], [], (126, 120, L, [Y, T, HA, HB, RA, RB, ST, NS, I0, I1, I2, BO, FI, RG, GU, PU, MA_3, MN, MS, OT, SC], [r0, r1, r2, r3, w, r5, r6, r7, r8], Lg)) o from ev_t (c := (MA_3 0 0) ≠ 0) _ _ 3  zc5 e (fun n => Eq.refl _)
      have ze6 := Option.some.inj h
      subst ze6
      exact ev_rete 2 ho (fun n => Eq.refl _)
    · have h := itn h zc5
      suffices e : Ev (d + 0, 0, 0, 13, 33, [.val (.ref 1088), .val (.int p1), .val (.int p2), .val (.int p3)], [], (126, 120, L, [Y, T, HA, HB, RA, RB, ST, NS, I0, I1, I2, BO, FI, RG, GU, PU, MA_3, MN, MS, OT, SC], [r0, r1, r2, r3, w, r5, r6, r7, r8], Lg)) o from ev_f (c := (MA_3 0 0) ≠ 0) _ _ 3  zc5 e (fun n => Eq.refl _)
      have ze7 := Option.some.inj h
      subst ze7
      exact ev_rete 3 ho (fun n => Eq.refl _)
  by_cases zc8 : p1 ≠ 0
  · have zh2 := itp zh2 zc8
    suffices e : Ev (d + 0, 0, 0, 13, 26, [.val (.ref 1088), .val (.int p1), .val (.int p2), .val (.int p3)], [], (126, 120, L, [Y, T, HA, HB, RA, RB, ST, NS, I0, I1, I2, BO, FI, RG, GU, PU, MA, MN, MS, OT, SC], [r0, r1, r2, r3, w, r5, r6, r7, r8], Lg)) o from ev_t (c := p1 ≠ 0) _ _ 2  zc8 e (fun n => Eq.refl _)
    exact ev_b 0 (zj3 MA (Option.some.inj zh2) ) (fun n => Eq.refl _)
  · have zh2 := itn zh2 zc8
    suffices e : Ev (d + 0, 0, 0, 13, 4, [.val (.ref 1088), .val (.int p1), .val (.int p2), .val (.int p3)], [], (126, 120, L, [Y, T, HA, HB, RA, RB, ST, NS, I0, I1, I2, BO, FI, RG, GU, PU, MA, MN, MS, OT, SC], [r0, r1, r2, r3, w, r5, r6, r7, r8], Lg)) o from ev_f (c := p1 ≠ 0) _ _ 2  zc8 e (fun n => Eq.refl _)
    by_cases zc9 : (MA 0 0) ≠ 0
    · have zh2 := itp zh2 zc9
      suffices e : Ev (d + 0, 0, 0, 13, 26, [.val (.ref 1088), .val (.int p1), .val (.int p2), .val (.int p3)], [], (126, 120, L, [Y, T, HA, HB, RA, RB, ST, NS, I0, I1, I2, BO, FI, RG, GU, PU, MA, MN, MS, OT, SC], [r0, r1, r2, r3, w, r5, r6, r7, r8], Lg)) o from ev_t (c := (MA 0 0) ≠ 0) _ _ 3  zc9 e (fun n => Eq.refl _)
      exact ev_b 0 (zj3 MA (Option.some.inj zh2) ) (fun n => Eq.refl _)
    · have zh2 := itn zh2 zc9
      suffices e : Ev (d + 0, 0, 0, 13, 11, [.val (.ref 1088), .val (.int p1), .val (.int p2), .val (.int p3)], [], (126, 120, L, [Y, T, HA, HB, RA, RB, ST, NS, I0, I1, I2, BO, FI, RG, GU, PU, MA, MN, MS, OT, SC], [r0, r1, r2, r3, w, r5, r6, r7, r8], Lg)) o from ev_f (c := (MA 0 0) ≠ 0) _ _ 3  zc9 e (fun n => Eq.refl _)
      obtain ⟨x1, zh10, zh2⟩ := bnd zh2
      have zh10 : rdx ((u2 MA 0 0 p2) 1) 2 p3 = some x1 := zh10
      suffices e : Ev (d + 0, 0, 0, 13, 23, [.val (.ref 1088), .val (.int p1), .val (.int p2), .val (.int p3)], [.int x1, .int p3, .ref 1089], (126, 120, L, [Y, T, HA, HB, RA, RB, ST, NS, I0, I1, I2, BO, FI, RG, GU, PU, (u2 MA 0 0 p2), MN, MS, OT, SC], [r0, r1, r2, r3, w, r5, r6, r7, r8], Lg)) o from ev_opt (fun x1 => (d + 0, 0, 0, 13, 23, [.val (.ref 1088), .val (.int p1), .val (.int p2), .val (.int p3)], [.int x1, .int p3, .ref 1089], (126, 120, L, [Y, T, HA, HB, RA, RB, ST, NS, I0, I1, I2, BO, FI, RG, GU, PU, (u2 MA 0 0 p2), MN, MS, OT, SC], [r0, r1, r2, r3, w, r5, r6, r7, r8], Lg))) 8 zh10 e (fun n => Eq.refl _)
      obtain ⟨j2, zh11, zh2⟩ := bnd zh2
      have zh11 : ixx 2 p3 = some j2 := zh11
      suffices e : Ev (d + 0, 0, 0, 13, 26, [.val (.ref 1088), .val (.int p1), .val (.int p2), .val (.int p3)], [], (126, 120, L, [Y, T, HA, HB, RA, RB, ST, NS, I0, I1, I2, BO, FI, RG, GU, PU, (u2 (u2 MA 0 0 p2) 1 j2 (x1 + 1)), MN, MS, OT, SC], [r0, r1, r2, r3, w, r5, r6, r7, r8], Lg)) o from ev_opt (fun j2 => (d + 0, 0, 0, 13, 26, [.val (.ref 1088), .val (.int p1), .val (.int p2), .val (.int p3)], [], (126, 120, L, [Y, T, HA, HB, RA, RB, ST, NS, I0, I1, I2, BO, FI, RG, GU, PU, (u2 (u2 MA 0 0 p2) 1 j2 (x1 + 1)), MN, MS, OT, SC], [r0, r1, r2, r3, w, r5, r6, r7, r8], Lg))) 3 zh11 e (fun n => Eq.refl _)
      exact ev_b 0 (zj3 (u2 (u2 MA 0 0 p2) 1 j2 (x1 + 1)) (Option.some.inj zh2) ) (fun n => Eq.refl _)
set_option maxRecDepth 1000000 in
set_option maxHeartbeats 4000000 in
theorem R_f_M_within_0 (d : Nat) (Y T HA HB RA RB ST NS I0 I1 I2 BO FI RG GU PU MA MN MS OT SC : Nat → Nat → Int32) (r0 r1 r2 r3 w r5 r6 r7 r8 : Nat) (L : Nat) (Lg : Int64) (p0 : Int32) (p1 : Int32) (p2 : Int32) {r : Int32} (h : f_M_within p0 p1 p2 = some r) : Ev (d + 0, 0, 0, 14, 0, [.val (.int p0), .val (.int p1), .val (.int p2)], [], (126, 120, L, [Y, T, HA, HB, RA, RB, ST, NS, I0, I1, I2, BO, FI, RG, GU, PU, MA, MN, MS, OT, SC], [r0, r1, r2, r3, w, r5, r6, r7, r8], Lg)) ((0, some (.int r), (126, 120, L, [Y, T, HA, HB, RA, RB, ST, NS, I0, I1, I2, BO, FI, RG, GU, PU, MA, MN, MS, OT, SC], [r0, r1, r2, r3, w, r5, r6, r7, r8], Lg)) : AOut) := by
  suffices key : ∀ o : AOut, ((0, some (.int r), (126, 120, L, [Y, T, HA, HB, RA, RB, ST, NS, I0, I1, I2, BO, FI, RG, GU, PU, MA, MN, MS, OT, SC], [r0, r1, r2, r3, w, r5, r6, r7, r8], Lg)) : AOut) = o → Ev (d + 0, 0, 0, 14, 0, [.val (.int p0), .val (.int p1), .val (.int p2)], [], (126, 120, L, [Y, T, HA, HB, RA, RB, ST, NS, I0, I1, I2, BO, FI, RG, GU, PU, MA, MN, MS, OT, SC], [r0, r1, r2, r3, w, r5, r6, r7, r8], Lg)) o from key _ rfl
  intro o ho
  by_cases zc1 : p0 < p1
  · have h := itp h zc1
    suffices e : Ev (d + 0, 0, 0, 14, 14, [.val (.int p0), .val (.int p1), .val (.int p2)], [], (126, 120, L, [Y, T, HA, HB, RA, RB, ST, NS, I0, I1, I2, BO, FI, RG, GU, PU, MA, MN, MS, OT, SC], [r0, r1, r2, r3, w, r5, r6, r7, r8], Lg)) o from ev_t (c := p0 < p1) _ _ 3  zc1 e (fun n => Eq.refl _)
    have ze2 := Option.some.inj h
    subst ze2
    exact ev_rete 2 ho (fun n => Eq.refl _)
  · have h := itn h zc1
    suffices e : Ev (d + 0, 0, 0, 14, 5, [.val (.int p0), .val (.int p1), .val (.int p2)], [], (126, 120, L, [Y, T, HA, HB, RA, RB, ST, NS, I0, I1, I2, BO, FI, RG, GU, PU, MA, MN, MS, OT, SC], [r0, r1, r2, r3, w, r5, r6, r7, r8], Lg)) o from ev_f (c := p0 < p1) _ _ 3  zc1 e (fun n => Eq.refl _)
    by_cases zc3 : p2 < p0
    · have h := itp h zc3
      suffices e : Ev (d + 0, 0, 0, 14, 14, [.val (.int p0), .val (.int p1), .val (.int p2)], [], (126, 120, L, [Y, T, HA, HB, RA, RB, ST, NS, I0, I1, I2, BO, FI, RG, GU, PU, MA, MN, MS, OT, SC], [r0, r1, r2, r3, w, r5, r6, r7, r8], Lg)) o from ev_t (c := p2 < p0) _ _ 3  zc3 e (fun n => Eq.refl _)
      have ze4 := Option.some.inj h
      subst ze4
      exact ev_rete 2 ho (fun n => Eq.refl _)
    · have h := itn h zc3
      suffices e : Ev (d + 0, 0, 0, 14, 10, [.val (.int p0), .val (.int p1), .val (.int p2)], [], (126, 120, L, [Y, T, HA, HB, RA, RB, ST, NS, I0, I1, I2, BO, FI, RG, GU, PU, MA, MN, MS, OT, SC], [r0, r1, r2, r3, w, r5, r6, r7, r8], Lg)) o from ev_f (c := p2 < p0) _ _ 3  zc3 e (fun n => Eq.refl _)
      have ze5 := Option.some.inj h
      subst ze5
      exact ev_rete 3 ho (fun n => Eq.refl _)
set_option maxRecDepth 1000000 in
set_option maxHeartbeats 4000000 in
theorem R_f_M_feed_0 (d : Nat) (Y T HA HB RA RB ST NS I0 I1 I2 BO FI RG GU PU MA MN MS OT SC : Nat → Nat → Int32) (r0 r1 r2 r3 w r5 r6 r7 r8 : Nat) (L : Nat) (Lg : Int64) (p1 : Int32) (p2 : Int32) (p3 : Int32) (p4 : Int32) (p5 : Int32) {r : Int32 × (Nat → Nat → Int32)} (h : f_M_feed MA p1 p2 p3 p4 p5 = some r) : Ev (d + 0, 0, 0, 16, 0, [.val (.ref 1088), .val (.int p1), .val (.int p2), .val (.int p3), .val (.int p4), .val (.int p5), .val a_unk, .val a_unk], [], (126, 120, L, [Y, T, HA, HB, RA, RB, ST, NS, I0, I1, I2, BO, FI, RG, GU, PU, MA, MN, MS, OT, SC], [r0, r1, r2, r3, w, r5, r6, r7, r8], Lg)) ((0, some (.int r.1), (126, 120, L, [Y, T, HA, HB, RA, RB, ST, NS, I0, I1, I2, BO, FI, RG, GU, PU, r.2, MN, MS, OT, SC], [r0, r1, r2, r3, w, r5, r6, r7, r8], Lg)) : AOut) := by
  suffices key : ∀ o : AOut, ((0, some (.int r.1), (126, 120, L, [Y, T, HA, HB, RA, RB, ST, NS, I0, I1, I2, BO, FI, RG, GU, PU, r.2, MN, MS, OT, SC], [r0, r1, r2, r3, w, r5, r6, r7, r8], Lg)) : AOut) = o → Ev (d + 0, 0, 0, 16, 0, [.val (.ref 1088), .val (.int p1), .val (.int p2), .val (.int p3), .val (.int p4), .val (.int p5), .val a_unk, .val a_unk], [], (126, 120, L, [Y, T, HA, HB, RA, RB, ST, NS, I0, I1, I2, BO, FI, RG, GU, PU, MA, MN, MS, OT, SC], [r0, r1, r2, r3, w, r5, r6, r7, r8], Lg)) o from key _ rfl
  intro o ho
  by_cases zc1 : (((u2 MA 0 0 0) 0 2) + 20) ≤ 600
  · have h := itp h zc1
    suffices e : Ev (d + 0, 0, 0, 16, 20, [.val (.ref 1088), .val (.int p1), .val (.int p2), .val (.int p3), .val (.int p4), .val (.int p5), .val a_unk, .val a_unk], [], (126, 120, L, [Y, T, HA, HB, RA, RB, ST, NS, I0, I1, I2, BO, FI, RG, GU, PU, (u2 MA 0 0 0), MN, MS, OT, SC], [r0, r1, r2, r3, w, r5, r6, r7, r8], Lg)) o from ev_t (c := (((u2 MA 0 0 0) 0 2) + 20) ≤ 600) _ _ 9  zc1 e (fun n => Eq.refl _)
    obtain ⟨MA_8, zh3, h⟩ := bnd h
    suffices e : Ev (d + 0, 0, 0, 16, 23, [.val (.ref 1088), .val (.int p1), .val (.int p2), .val (.int p3), .val (.int p4), .val (.int p5), .val (.int 0), .val a_unk], [], (126, 120, L, [Y, T, HA, HB, RA, RB, ST, NS, I0, I1, I2, BO, FI, RG, GU, PU, (u2 MA 0 0 0), MN, MS, OT, SC], [r0, r1, r2, r3, w, r5, r6, r7, r8], Lg)) o from ev_b 2 e (fun n => Eq.refl _)
    refine ev_loop (δ := Value) (fun a j => (d + 0, 0, 0, 16, 23, [.val (.ref 1088), .val (.int p1), .val (.int p2), .val (.int p3), .val (.int p4), .val (.int p5), .val (.int a.1), .val j], [], (126, 120, L, [Y, T, HA, HB, RA, RB, ST, NS, I0, I1, I2, BO, FI, RG, GU, PU, a.2, MN, MS, OT, SC], [r0, r1, r2, r3, w, r5, r6, r7, r8], Lg))) (fun b => ∀ s6 : Value, ∀ s7 : Value, Ev (d + 0, 0, 0, 16, 120, [.val (.ref 1088), .val (.int p1), .val (.int p2), .val (.int p3), .val (.int p4), .val (.int p5), .val s6, .val s7], [], (126, 120, L, [Y, T, HA, HB, RA, RB, ST, NS, I0, I1, I2, BO, FI, RG, GU, PU, b, MN, MS, OT, SC], [r0, r1, r2, r3, w, r5, r6, r7, r8], Lg)) o) ?_ a_F (0, (u2 MA 0 0 0)) MA_8 zh3 ?_ a_unk
    · rintro ⟨v1, MA_3⟩ zr7 zh6 zi4 zx5 s2
      have zh6 : f_M_feed_l23 p5 p4 p3 p2 p1 v1 MA_3 = some zr7 := zh6
      by_cases zc8 : 20 ≤ v1
      · have zh6 := itp zh6 zc8
        suffices e : Ev (d + 0, 0, 0, 16, 120, [.val (.ref 1088), .val (.int p1), .val (.int p2), .val (.int p3), .val (.int p4), .val (.int p5), .val (.int v1), .val s2], [], (126, 120, L, [Y, T, HA, HB, RA, RB, ST, NS, I0, I1, I2, BO, FI, RG, GU, PU, MA_3, MN, MS, OT, SC], [r0, r1, r2, r3, w, r5, r6, r7, r8], Lg)) o from ev_t (c := 20 ≤ v1) _ _ 3  zc8 e (fun n => Eq.refl _)
        exact ev_b 0 (zx5 _ (Option.some.inj zh6).symm (.int v1) s2) (fun n => Eq.refl _)
      · have zh6 := itn zh6 zc8
        suffices e : Ev (d + 0, 0, 0, 16, 30, [.val (.ref 1088), .val (.int p1), .val (.int p2), .val (.int p3), .val (.int p4), .val (.int p5), .val (.int v1), .val s2], [], (126, 120, L, [Y, T, HA, HB, RA, RB, ST, NS, I0, I1, I2, BO, FI, RG, GU, PU, MA_3, MN, MS, OT, SC], [r0, r1, r2, r3, w, r5, r6, r7, r8], Lg)) o from ev_f (c := 20 ≤ v1) _ _ 3  zc8 e (fun n => Eq.refl _)
        obtain ⟨zt9, zh10, zh6⟩ := bnd zh6
        have zj11 : ∀ (v4 : Int32), v4 = zt9 → Ev (d + 0, 0, 0, 16, 76, [.val (.ref 1088), .val (.int p1), .val (.int p2), .val (.int p3), .val (.int p4), .val (.int p5), .val (.int v1), .val s2], [.int v4], (126, 120, L, [Y, T, HA, HB, RA, RB, ST, NS, I0, I1, I2, BO, FI, RG, GU, PU, MA_3, MN, MS, OT, SC], [r0, r1, r2, r3, w, r5, r6, r7, r8], Lg)) o := by
          intro v4 ze12
          subst ze12
          suffices e : Ev (d + 0, 0, 0, 16, 96, [.val (.ref 1088), .val (.int p1), .val (.int p2), .val (.int p3), .val (.int p4), .val (.int p5), .val (.int v1), .val (.int v4)], [.int (a_rem v1 4), .int 8, .int 24, .int v4, .int (MA_3 0 2), .ref 1090], (126, 120, L, [Y, T, HA, HB, RA, RB, ST, NS, I0, I1, I2, BO, FI, RG, GU, PU, MA_3, MN, MS, OT, SC], [r0, r1, r2, r3, w, r5, r6, r7, r8], Lg)) o from ev_b 11 e (fun n => Eq.refl _)
          obtain ⟨j5, zh13, zh6⟩ := bnd zh6
          have zh13 : ixx 600 (MA_3 0 2) = some j5 := zh13
          suffices e : Ev (d + 0, 0, 0, 16, 104, [.val (.ref 1088), .val (.int p1), .val (.int p2), .val (.int p3), .val (.int p4), .val (.int p5), .val (.int v1), .val (.int v4)], [], (126, 120, L, [Y, T, HA, HB, RA, RB, ST, NS, I0, I1, I2, BO, FI, RG, GU, PU, (u2 MA_3 2 j5 ((a_shr v4 (24 - (8 * (a_rem v1 4)))) &&& 255)), MN, MS, OT, SC], [r0, r1, r2, r3, w, r5, r6, r7, r8], Lg)) o from ev_opt (fun j5 => (d + 0, 0, 0, 16, 104, [.val (.ref 1088), .val (.int p1), .val (.int p2), .val (.int p3), .val (.int p4), .val (.int p5), .val (.int v1), .val (.int v4)], [], (126, 120, L, [Y, T, HA, HB, RA, RB, ST, NS, I0, I1, I2, BO, FI, RG, GU, PU, (u2 MA_3 2 j5 ((a_shr v4 (24 - (8 * (a_rem v1 4)))) &&& 255)), MN, MS, OT, SC], [r0, r1, r2, r3, w, r5, r6, r7, r8], Lg))) 6 zh13 e (fun n => Eq.refl _)
          exact ev_b 8 (zi4 _ (Option.some.inj zh6).symm (.int v4)) (fun n => Eq.refl _)
        by_cases zc14 : 4 ≤ v1
        · have zh10 := itp zh10 zc14
          suffices e : Ev (d + 0, 0, 0, 16, 40, [.val (.ref 1088), .val (.int p1), .val (.int p2), .val (.int p3), .val (.int p4), .val (.int p5), .val (.int v1), .val s2], [], (126, 120, L, [Y, T, HA, HB, RA, RB, ST, NS, I0, I1, I2, BO, FI, RG, GU, PU, MA_3, MN, MS, OT, SC], [r0, r1, r2, r3, w, r5, r6, r7, r8], Lg)) o from ev_t (c := 4 ≤ v1) _ _ 3  zc14 e (fun n => Eq.refl _)
          by_cases zc15 : 8 ≤ v1
          · have zh10 := itp zh10 zc15
            suffices e : Ev (d + 0, 0, 0, 16, 51, [.val (.ref 1088), .val (.int p1), .val (.int p2), .val (.int p3), .val (.int p4), .val (.int p5), .val (.int v1), .val s2], [], (126, 120, L, [Y, T, HA, HB, RA, RB, ST, NS, I0, I1, I2, BO, FI, RG, GU, PU, MA_3, MN, MS, OT, SC], [r0, r1, r2, r3, w, r5, r6, r7, r8], Lg)) o from ev_t (c := 8 ≤ v1) _ _ 3  zc15 e (fun n => Eq.refl _)
            by_cases zc16 : 12 ≤ v1
            · have zh10 := itp zh10 zc16
              suffices e : Ev (d + 0, 0, 0, 16, 62, [.val (.ref 1088), .val (.int p1), .val (.int p2), .val (.int p3), .val (.int p4), .val (.int p5), .val (.int v1), .val s2], [], (126, 120, L, [Y, T, HA, HB, RA, RB, ST, NS, I0, I1, I2, BO, FI, RG, GU, PU, MA_3, MN, MS, OT, SC], [r0, r1, r2, r3, w, r5, r6, r7, r8], Lg)) o from ev_t (c := 12 ≤ v1) _ _ 3  zc16 e (fun n => Eq.refl _)
              by_cases zc17 : 16 ≤ v1
              · have zh10 := itp zh10 zc17
                suffices e : Ev (d + 0, 0, 0, 16, 74, [.val (.ref 1088), .val (.int p1), .val (.int p2), .val (.int p3), .val (.int p4), .val (.int p5), .val (.int v1), .val s2], [], (126, 120, L, [Y, T, HA, HB, RA, RB, ST, NS, I0, I1, I2, BO, FI, RG, GU, PU, MA_3, MN, MS, OT, SC], [r0, r1, r2, r3, w, r5, r6, r7, r8], Lg)) o from ev_t (c := 16 ≤ v1) _ _ 3  zc17 e (fun n => Eq.refl _)
                exact ev_b 1 (zj11 p5 (Option.some.inj zh10) ) (fun n => Eq.refl _)
              · have zh10 := itn zh10 zc17
                suffices e : Ev (d + 0, 0, 0, 16, 69, [.val (.ref 1088), .val (.int p1), .val (.int p2), .val (.int p3), .val (.int p4), .val (.int p5), .val (.int v1), .val s2], [], (126, 120, L, [Y, T, HA, HB, RA, RB, ST, NS, I0, I1, I2, BO, FI, RG, GU, PU, MA_3, MN, MS, OT, SC], [r0, r1, r2, r3, w, r5, r6, r7, r8], Lg)) o from ev_f (c := 16 ≤ v1) _ _ 3  zc17 e (fun n => Eq.refl _)
                exact ev_b 2 (zj11 p4 (Option.some.inj zh10) ) (fun n => Eq.refl _)
            · have zh10 := itn zh10 zc16
              suffices e : Ev (d + 0, 0, 0, 16, 58, [.val (.ref 1088), .val (.int p1), .val (.int p2), .val (.int p3), .val (.int p4), .val (.int p5), .val (.int v1), .val s2], [], (126, 120, L, [Y, T, HA, HB, RA, RB, ST, NS, I0, I1, I2, BO, FI, RG, GU, PU, MA_3, MN, MS, OT, SC], [r0, r1, r2, r3, w, r5, r6, r7, r8], Lg)) o from ev_f (c := 12 ≤ v1) _ _ 3  zc16 e (fun n => Eq.refl _)
              exact ev_b 2 (zj11 p3 (Option.some.inj zh10) ) (fun n => Eq.refl _)
          · have zh10 := itn zh10 zc15
            suffices e : Ev (d + 0, 0, 0, 16, 47, [.val (.ref 1088), .val (.int p1), .val (.int p2), .val (.int p3), .val (.int p4), .val (.int p5), .val (.int v1), .val s2], [], (126, 120, L, [Y, T, HA, HB, RA, RB, ST, NS, I0, I1, I2, BO, FI, RG, GU, PU, MA_3, MN, MS, OT, SC], [r0, r1, r2, r3, w, r5, r6, r7, r8], Lg)) o from ev_f (c := 8 ≤ v1) _ _ 3  zc15 e (fun n => Eq.refl _)
            exact ev_b 2 (zj11 p2 (Option.some.inj zh10) ) (fun n => Eq.refl _)
        · have zh10 := itn zh10 zc14
          suffices e : Ev (d + 0, 0, 0, 16, 36, [.val (.ref 1088), .val (.int p1), .val (.int p2), .val (.int p3), .val (.int p4), .val (.int p5), .val (.int v1), .val s2], [], (126, 120, L, [Y, T, HA, HB, RA, RB, ST, NS, I0, I1, I2, BO, FI, RG, GU, PU, MA_3, MN, MS, OT, SC], [r0, r1, r2, r3, w, r5, r6, r7, r8], Lg)) o from ev_f (c := 4 ≤ v1) _ _ 3  zc14 e (fun n => Eq.refl _)
          exact ev_b 2 (zj11 p1 (Option.some.inj zh10) ) (fun n => Eq.refl _)
    · skip
      intro s6 s7
      have ze18 := Option.some.inj h
      subst ze18
      exact ev_rete 3 ho (fun n => Eq.refl _)
  · have h := itn h zc1
    suffices e : Ev (d + 0, 0, 0, 16, 18, [.val (.ref 1088), .val (.int p1), .val (.int p2), .val (.int p3), .val (.int p4), .val (.int p5), .val a_unk, .val a_unk], [], (126, 120, L, [Y, T, HA, HB, RA, RB, ST, NS, I0, I1, I2, BO, FI, RG, GU, PU, (u2 MA 0 0 0), MN, MS, OT, SC], [r0, r1, r2, r3, w, r5, r6, r7, r8], Lg)) o from ev_f (c := (((u2 MA 0 0 0) 0 2) + 20) ≤ 600) _ _ 9  zc1 e (fun n => Eq.refl _)
    have ze19 := Option.some.inj h
    subst ze19
    exact ev_rete 2 ho (fun n => Eq.refl _)
set_option maxRecDepth 1000000 in
set_option maxHeartbeats 4000000 in
theorem R_f_M_fine_0 (d : Nat) (Y T HA HB RA RB ST NS I0 I1 I2 BO FI RG GU PU MA MN MS OT SC : Nat → Nat → Int32) (r0 r1 r2 r3 w r5 r6 r7 r8 : Nat) (L : Nat) (Lg : Int64) {r : Int32} (h : f_M_fine MN = some r) : Ev (d + 0, 0, 0, 17, 0, [.val (.ref 1088)], [], (126, 120, L, [Y, T, HA, HB, RA, RB, ST, NS, I0, I1, I2, BO, FI, RG, GU, PU, MA, MN, MS, OT, SC], [r0, r1, r2, r3, w, r5, r6, r7, r8], Lg)) ((0, some (.int r), (126, 120, L, [Y, T, HA, HB, RA, RB, ST, NS, I0, I1, I2, BO, FI, RG, GU, PU, MA, MN, MS, OT, SC], [r0, r1, r2, r3, w, r5, r6, r7, r8], Lg)) : AOut) := by
  suffices key : ∀ o : AOut, ((0, some (.int r), (126, 120, L, [Y, T, HA, HB, RA, RB, ST, NS, I0, I1, I2, BO, FI, RG, GU, PU, MA, MN, MS, OT, SC], [r0, r1, r2, r3, w, r5, r6, r7, r8], Lg)) : AOut) = o → Ev (d + 0, 0, 0, 17, 0, [.val (.ref 1088)], [], (126, 120, L, [Y, T, HA, HB, RA, RB, ST, NS, I0, I1, I2, BO, FI, RG, GU, PU, MA, MN, MS, OT, SC], [r0, r1, r2, r3, w, r5, r6, r7, r8], Lg)) o from key _ rfl
  intro o ho
  by_cases zc1 : (MN 0 5) ≠ (-1)
  · have h := itp h zc1
    suffices e : Ev (d + 0, 0, 0, 17, 12, [.val (.ref 1088)], [], (126, 120, L, [Y, T, HA, HB, RA, RB, ST, NS, I0, I1, I2, BO, FI, RG, GU, PU, MA, MN, MS, OT, SC], [r0, r1, r2, r3, w, r5, r6, r7, r8], Lg)) o from ev_t (c := (MN 0 5) ≠ (-1)) _ _ 4  zc1 e (fun n => Eq.refl _)
    have ze2 := Option.some.inj h
    subst ze2
    exact ev_rete 2 ho (fun n => Eq.refl _)
  · have h := itn h zc1
    suffices e : Ev (d + 0, 0, 0, 17, 8, [.val (.ref 1088)], [], (126, 120, L, [Y, T, HA, HB, RA, RB, ST, NS, I0, I1, I2, BO, FI, RG, GU, PU, MA, MN, MS, OT, SC], [r0, r1, r2, r3, w, r5, r6, r7, r8], Lg)) o from ev_f (c := (MN 0 5) ≠ (-1)) _ _ 4  zc1 e (fun n => Eq.refl _)
    have ze3 := Option.some.inj h
    subst ze3
    exact ev_rete 3 ho (fun n => Eq.refl _)
set_option maxRecDepth 1000000 in
set_option maxHeartbeats 4000000 in
theorem R_f_M_wrong_0 (d : Nat) (Y T HA HB RA RB ST NS I0 I1 I2 BO FI RG GU PU MA MN MS OT SC : Nat → Nat → Int32) (r0 r1 r2 r3 w r5 r6 r7 r8 : Nat) (L : Nat) (Lg : Int64) (p1 : Int32) (p2 : Int32) {r : (Nat → Nat → Int32)} (h : f_M_wrong MN p1 p2 = some r) : Ev (d + 0, 0, 0, 18, 0, [.val (.ref 1088), .val (.int p1), .val (.int p2)], [], (126, 120, L, [Y, T, HA, HB, RA, RB, ST, NS, I0, I1, I2, BO, FI, RG, GU, PU, MA, MN, MS, OT, SC], [r0, r1, r2, r3, w, r5, r6, r7, r8], Lg)) ((0, none, (126, 120, L, [Y, T, HA, HB, RA, RB, ST, NS, I0, I1, I2, BO, FI, RG, GU, PU, MA, r, MS, OT, SC], [r0, r1, r2, r3, w, r5, r6, r7, r8], Lg)) : AOut) := by
  suffices key : ∀ o : AOut, ((0, none, (126, 120, L, [Y, T, HA, HB, RA, RB, ST, NS, I0, I1, I2, BO, FI, RG, GU, PU, MA, r, MS, OT, SC], [r0, r1, r2, r3, w, r5, r6, r7, r8], Lg)) : AOut) = o → Ev (d + 0, 0, 0, 18, 0, [.val (.ref 1088), .val (.int p1), .val (.int p2)], [], (126, 120, L, [Y, T, HA, HB, RA, RB, ST, NS, I0, I1, I2, BO, FI, RG, GU, PU, MA, MN, MS, OT, SC], [r0, r1, r2, r3, w, r5, r6, r7, r8], Lg)) o from key _ rfl
  intro o ho
  by_cases zc1 : (MN 0 5) = (-1)
  · have h := itp h zc1
    suffices e : Ev (d + 0, 0, 0, 18, 9, [.val (.ref 1088), .val (.int p1), .val (.int p2)], [], (126, 120, L, [Y, T, HA, HB, RA, RB, ST, NS, I0, I1, I2, BO, FI, RG, GU, PU, MA, MN, MS, OT, SC], [r0, r1, r2, r3, w, r5, r6, r7, r8], Lg)) o from ev_t (c := (MN 0 5) = (-1)) _ _ 4  zc1 e (fun n => Eq.refl _)
    have ze2 := Option.some.inj h
    subst ze2
    exact ev_rete 7 ho (fun n => Eq.refl _)
  · have h := itn h zc1
    suffices e : Ev (d + 0, 0, 0, 18, 8, [.val (.ref 1088), .val (.int p1), .val (.int p2)], [], (126, 120, L, [Y, T, HA, HB, RA, RB, ST, NS, I0, I1, I2, BO, FI, RG, GU, PU, MA, MN, MS, OT, SC], [r0, r1, r2, r3, w, r5, r6, r7, r8], Lg)) o from ev_f (c := (MN 0 5) = (-1)) _ _ 4  zc1 e (fun n => Eq.refl _)
    have ze3 := Option.some.inj h
    subst ze3
    exact ev_rete 1 ho (fun n => Eq.refl _)
set_option maxRecDepth 1000000 in
set_option maxHeartbeats 4000000 in
theorem R_f_M_here_0 (d : Nat) (Y T HA HB RA RB ST NS I0 I1 I2 BO FI RG GU PU MA MN MS OT SC : Nat → Nat → Int32) (r0 r1 r2 r3 w r5 r6 r7 r8 : Nat) (L : Nat) (Lg : Int64) {r : Int32 × (Nat → Nat → Int32)} (h : f_M_here MA MN = some r) : Ev (d + 0, 0, 0, 19, 0, [.val (.ref 1088)], [], (126, 120, L, [Y, T, HA, HB, RA, RB, ST, NS, I0, I1, I2, BO, FI, RG, GU, PU, MA, MN, MS, OT, SC], [r0, r1, r2, r3, w, r5, r6, r7, r8], Lg)) ((0, some (.int r.1), (126, 120, L, [Y, T, HA, HB, RA, RB, ST, NS, I0, I1, I2, BO, FI, RG, GU, PU, MA, r.2, MS, OT, SC], [r0, r1, r2, r3, w, r5, r6, r7, r8], Lg)) : AOut) := by
  suffices key : ∀ o : AOut, ((0, some (.int r.1), (126, 120, L, [Y, T, HA, HB, RA, RB, ST, NS, I0, I1, I2, BO, FI, RG, GU, PU, MA, r.2, MS, OT, SC], [r0, r1, r2, r3, w, r5, r6, r7, r8], Lg)) : AOut) = o → Ev (d + 0, 0, 0, 19, 0, [.val (.ref 1088)], [], (126, 120, L, [Y, T, HA, HB, RA, RB, ST, NS, I0, I1, I2, BO, FI, RG, GU, PU, MA, MN, MS, OT, SC], [r0, r1, r2, r3, w, r5, r6, r7, r8], Lg)) o from key _ rfl
  intro o ho
  obtain ⟨MN_3, zh2, h⟩ := bnd h
  suffices e : Ev (d + 0, 0, 0, 19, 0, [.val (.ref 1088)], [], (126, 120, L, [Y, T, HA, HB, RA, RB, ST, NS, I0, I1, I2, BO, FI, RG, GU, PU, MA, MN, MS, OT, SC], [r0, r1, r2, r3, w, r5, r6, r7, r8], Lg)) o from ev_b 0 e (fun n => Eq.refl _)
  refine ev_loop (δ := Unit) (fun a j => (d + 0, 0, 0, 19, 0, [.val (.ref 1088)], [], (126, 120, L, [Y, T, HA, HB, RA, RB, ST, NS, I0, I1, I2, BO, FI, RG, GU, PU, MA, a, MS, OT, SC], [r0, r1, r2, r3, w, r5, r6, r7, r8], Lg))) (fun b => Ev (d + 0, 0, 0, 19, 38, [.val (.ref 1088)], [], (126, 120, L, [Y, T, HA, HB, RA, RB, ST, NS, I0, I1, I2, BO, FI, RG, GU, PU, MA, b, MS, OT, SC], [r0, r1, r2, r3, w, r5, r6, r7, r8], Lg)) o) ?_ a_F MN MN_3 zh2 ?_ ()
  · rintro MN_1 zr6 zh5 zi3 zx4 ⟨⟩
    have zh5 : f_M_here_l0 MA MN_1 = some zr6 := zh5
    by_cases zc7 : (MN_1 0 3) ≤ (MN_1 0 4)
    · have zh5 := itp zh5 zc7
      suffices e : Ev (d + 0, 0, 0, 19, 38, [.val (.ref 1088)], [], (126, 120, L, [Y, T, HA, HB, RA, RB, ST, NS, I0, I1, I2, BO, FI, RG, GU, PU, MA, MN_1, MS, OT, SC], [r0, r1, r2, r3, w, r5, r6, r7, r8], Lg)) o from ev_t (c := (MN_1 0 3) ≤ (MN_1 0 4)) _ _ 5  zc7 e (fun n => Eq.refl _)
      exact ev_b 0 (zx4 _ (Option.some.inj zh5).symm ) (fun n => Eq.refl _)
    · have zh5 := itn zh5 zc7
      suffices e : Ev (d + 0, 0, 0, 19, 11, [.val (.ref 1088)], [], (126, 120, L, [Y, T, HA, HB, RA, RB, ST, NS, I0, I1, I2, BO, FI, RG, GU, PU, MA, MN_1, MS, OT, SC], [r0, r1, r2, r3, w, r5, r6, r7, r8], Lg)) o from ev_f (c := (MN_1 0 3) ≤ (MN_1 0 4)) _ _ 5  zc7 e (fun n => Eq.refl _)
      obtain ⟨x2, zh8, zh5⟩ := bnd zh5
      have zh8 : rdx (MA 2) 600 (MN_1 0 4) = some x2 := zh8
      suffices e : Ev (d + 0, 0, 0, 19, 20, [.val (.ref 1088)], [.int x2], (126, 120, L, [Y, T, HA, HB, RA, RB, ST, NS, I0, I1, I2, BO, FI, RG, GU, PU, MA, MN_1, MS, OT, SC], [r0, r1, r2, r3, w, r5, r6, r7, r8], Lg)) o from ev_opt (fun x2 => (d + 0, 0, 0, 19, 20, [.val (.ref 1088)], [.int x2], (126, 120, L, [Y, T, HA, HB, RA, RB, ST, NS, I0, I1, I2, BO, FI, RG, GU, PU, MA, MN_1, MS, OT, SC], [r0, r1, r2, r3, w, r5, r6, r7, r8], Lg))) 5 zh8 e (fun n => Eq.refl _)
      by_cases zc9 : x2 ≠ 32
      · have zh5 := itp zh5 zc9
        suffices e : Ev (d + 0, 0, 0, 19, 38, [.val (.ref 1088)], [], (126, 120, L, [Y, T, HA, HB, RA, RB, ST, NS, I0, I1, I2, BO, FI, RG, GU, PU, MA, MN_1, MS, OT, SC], [r0, r1, r2, r3, w, r5, r6, r7, r8], Lg)) o from ev_t (c := x2 ≠ 32) _ _ 2  zc9 e (fun n => Eq.refl _)
        exact ev_b 0 (zx4 _ (Option.some.inj zh5).symm ) (fun n => Eq.refl _)
      · have zh5 := itn zh5 zc9
        suffices e : Ev (d + 0, 0, 0, 19, 25, [.val (.ref 1088)], [], (126, 120, L, [Y, T, HA, HB, RA, RB, ST, NS, I0, I1, I2, BO, FI, RG, GU, PU, MA, MN_1, MS, OT, SC], [r0, r1, r2, r3, w, r5, r6, r7, r8], Lg)) o from ev_f (c := x2 ≠ 32) _ _ 2  zc9 e (fun n => Eq.refl _)
        exact ev_b 7 (zi3 _ (Option.some.inj zh5).symm ()) (fun n => Eq.refl _)
  · skip
    by_cases zc10 : (MN_3 0 3) ≤ (MN_3 0 4)
    · have h := itp h zc10
      suffices e : Ev (d + 0, 0, 0, 19, 61, [.val (.ref 1088)], [], (126, 120, L, [Y, T, HA, HB, RA, RB, ST, NS, I0, I1, I2, BO, FI, RG, GU, PU, MA, MN_3, MS, OT, SC], [r0, r1, r2, r3, w, r5, r6, r7, r8], Lg)) o from ev_t (c := (MN_3 0 3) ≤ (MN_3 0 4)) _ _ 5  zc10 e (fun n => Eq.refl _)
      have ze11 := Option.some.inj h
      subst ze11
      exact ev_rete 2 ho (fun n => Eq.refl _)
    · have h := itn h zc10
      suffices e : Ev (d + 0, 0, 0, 19, 49, [.val (.ref 1088)], [], (126, 120, L, [Y, T, HA, HB, RA, RB, ST, NS, I0, I1, I2, BO, FI, RG, GU, PU, MA, MN_3, MS, OT, SC], [r0, r1, r2, r3, w, r5, r6, r7, r8], Lg)) o from ev_f (c := (MN_3 0 3) ≤ (MN_3 0 4)) _ _ 5  zc10 e (fun n => Eq.refl _)
      obtain ⟨x4, zh12, h⟩ := bnd h
      have zh12 : rdx (MA 2) 600 (MN_3 0 4) = some x4 := zh12
      suffices e : Ev (d + 0, 0, 0, 19, 58, [.val (.ref 1088)], [.int x4], (126, 120, L, [Y, T, HA, HB, RA, RB, ST, NS, I0, I1, I2, BO, FI, RG, GU, PU, MA, MN_3, MS, OT, SC], [r0, r1, r2, r3, w, r5, r6, r7, r8], Lg)) o from ev_opt (fun x4 => (d + 0, 0, 0, 19, 58, [.val (.ref 1088)], [.int x4], (126, 120, L, [Y, T, HA, HB, RA, RB, ST, NS, I0, I1, I2, BO, FI, RG, GU, PU, MA, MN_3, MS, OT, SC], [r0, r1, r2, r3, w, r5, r6, r7, r8], Lg))) 5 zh12 e (fun n => Eq.refl _)
      have ze13 := Option.some.inj h
      subst ze13
      exact ev_rete 2 ho (fun n => Eq.refl _)
set_option maxRecDepth 1000000 in
set_option maxHeartbeats 4000000 in
theorem R_f_M_isSmall_0 (d : Nat) (Y T HA HB RA RB ST NS I0 I1 I2 BO FI RG GU PU MA MN MS OT SC : Nat → Nat → Int32) (r0 r1 r2 r3 w r5 r6 r7 r8 : Nat) (L : Nat) (Lg : Int64) (p0 : Int32) {r : Int32} (h : f_M_isSmall p0 = some r) : Ev (d + 0, 0, 0, 20, 0, [.val (.int p0)], [], (126, 120, L, [Y, T, HA, HB, RA, RB, ST, NS, I0, I1, I2, BO, FI, RG, GU, PU, MA, MN, MS, OT, SC], [r0, r1, r2, r3, w, r5, r6, r7, r8], Lg)) ((0, some (.int r), (126, 120, L, [Y, T, HA, HB, RA, RB, ST, NS, I0, I1, I2, BO, FI, RG, GU, PU, MA, MN, MS, OT, SC], [r0, r1, r2, r3, w, r5, r6, r7, r8], Lg)) : AOut) := by
  suffices key : ∀ o : AOut, ((0, some (.int r), (126, 120, L, [Y, T, HA, HB, RA, RB, ST, NS, I0, I1, I2, BO, FI, RG, GU, PU, MA, MN, MS, OT, SC], [r0, r1, r2, r3, w, r5, r6, r7, r8], Lg)) : AOut) = o → Ev (d + 0, 0, 0, 20, 0, [.val (.int p0)], [], (126, 120, L, [Y, T, HA, HB, RA, RB, ST, NS, I0, I1, I2, BO, FI, RG, GU, PU, MA, MN, MS, OT, SC], [r0, r1, r2, r3, w, r5, r6, r7, r8], Lg)) o from key _ rfl
  intro o ho
  by_cases zc1 : p0 < 97
  · have h := itp h zc1
    suffices e : Ev (d + 0, 0, 0, 20, 16, [.val (.int p0)], [], (126, 120, L, [Y, T, HA, HB, RA, RB, ST, NS, I0, I1, I2, BO, FI, RG, GU, PU, MA, MN, MS, OT, SC], [r0, r1, r2, r3, w, r5, r6, r7, r8], Lg)) o from ev_t (c := p0 < 97) _ _ 3  zc1 e (fun n => Eq.refl _)
    have ze2 := Option.some.inj h
    subst ze2
    exact ev_rete 2 ho (fun n => Eq.refl _)
  · have h := itn h zc1
    suffices e : Ev (d + 0, 0, 0, 20, 6, [.val (.int p0)], [], (126, 120, L, [Y, T, HA, HB, RA, RB, ST, NS, I0, I1, I2, BO, FI, RG, GU, PU, MA, MN, MS, OT, SC], [r0, r1, r2, r3, w, r5, r6, r7, r8], Lg)) o from ev_f (c := p0 < 97) _ _ 3  zc1 e (fun n => Eq.refl _)
    by_cases zc3 : 122 < p0
    · have h := itp h zc3
      suffices e : Ev (d + 0, 0, 0, 20, 16, [.val (.int p0)], [], (126, 120, L, [Y, T, HA, HB, RA, RB, ST, NS, I0, I1, I2, BO, FI, RG, GU, PU, MA, MN, MS, OT, SC], [r0, r1, r2, r3, w, r5, r6, r7, r8], Lg)) o from ev_t (c := 122 < p0) _ _ 3  zc3 e (fun n => Eq.refl _)
      have ze4 := Option.some.inj h
      subst ze4
      exact ev_rete 2 ho (fun n => Eq.refl _)
    · have h := itn h zc3
      suffices e : Ev (d + 0, 0, 0, 20, 12, [.val (.int p0)], [], (126, 120, L, [Y, T, HA, HB, RA, RB, ST, NS, I0, I1, I2, BO, FI, RG, GU, PU, MA, MN, MS, OT, SC], [r0, r1, r2, r3, w, r5, r6, r7, r8], Lg)) o from ev_f (c := 122 < p0) _ _ 3  zc3 e (fun n => Eq.refl _)
      have ze5 := Option.some.inj h
      subst ze5
      exact ev_rete 3 ho (fun n => Eq.refl _)
set_option maxRecDepth 1000000 in
set_option maxHeartbeats 4000000 in
theorem R_f_M_isDigit_0 (d : Nat) (Y T HA HB RA RB ST NS I0 I1 I2 BO FI RG GU PU MA MN MS OT SC : Nat → Nat → Int32) (r0 r1 r2 r3 w r5 r6 r7 r8 : Nat) (L : Nat) (Lg : Int64) (p0 : Int32) {r : Int32} (h : f_M_isDigit p0 = some r) : Ev (d + 0, 0, 0, 21, 0, [.val (.int p0)], [], (126, 120, L, [Y, T, HA, HB, RA, RB, ST, NS, I0, I1, I2, BO, FI, RG, GU, PU, MA, MN, MS, OT, SC], [r0, r1, r2, r3, w, r5, r6, r7, r8], Lg)) ((0, some (.int r), (126, 120, L, [Y, T, HA, HB, RA, RB, ST, NS, I0, I1, I2, BO, FI, RG, GU, PU, MA, MN, MS, OT, SC], [r0, r1, r2, r3, w, r5, r6, r7, r8], Lg)) : AOut) := by
  suffices key : ∀ o : AOut, ((0, some (.int r), (126, 120, L, [Y, T, HA, HB, RA, RB, ST, NS, I0, I1, I2, BO, FI, RG, GU, PU, MA, MN, MS, OT, SC], [r0, r1, r2, r3, w, r5, r6, r7, r8], Lg)) : AOut) = o → Ev (d + 0, 0, 0, 21, 0, [.val (.int p0)], [], (126, 120, L, [Y, T, HA, HB, RA, RB, ST, NS, I0, I1, I2, BO, FI, RG, GU, PU, MA, MN, MS, OT, SC], [r0, r1, r2, r3, w, r5, r6, r7, r8], Lg)) o from key _ rfl
  intro o ho
  by_cases zc1 : p0 < 48
  · have h := itp h zc1
    suffices e : Ev (d + 0, 0, 0, 21, 16, [.val (.int p0)], [], (126, 120, L, [Y, T, HA, HB, RA, RB, ST, NS, I0, I1, I2, BO, FI, RG, GU, PU, MA, MN, MS, OT, SC], [r0, r1, r2, r3, w, r5, r6, r7, r8], Lg)) o from ev_t (c := p0 < 48) _ _ 3  zc1 e (fun n => Eq.refl _)
    have ze2 := Option.some.inj h
    subst ze2
    exact ev_rete 2 ho (fun n => Eq.refl _)
  · have h := itn h zc1
    suffices e : Ev (d + 0, 0, 0, 21, 6, [.val (.int p0)], [], (126, 120, L, [Y, T, HA, HB, RA, RB, ST, NS, I0, I1, I2, BO, FI, RG, GU, PU, MA, MN, MS, OT, SC], [r0, r1, r2, r3, w, r5, r6, r7, r8], Lg)) o from ev_f (c := p0 < 48) _ _ 3  zc1 e (fun n => Eq.refl _)
    by_cases zc3 : 57 < p0
    · have h := itp h zc3
      suffices e : Ev (d + 0, 0, 0, 21, 16, [.val (.int p0)], [], (126, 120, L, [Y, T, HA, HB, RA, RB, ST, NS, I0, I1, I2, BO, FI, RG, GU, PU, MA, MN, MS, OT, SC], [r0, r1, r2, r3, w, r5, r6, r7, r8], Lg)) o from ev_t (c := 57 < p0) _ _ 3  zc3 e (fun n => Eq.refl _)
      have ze4 := Option.some.inj h
      subst ze4
      exact ev_rete 2 ho (fun n => Eq.refl _)
    · have h := itn h zc3
      suffices e : Ev (d + 0, 0, 0, 21, 12, [.val (.int p0)], [], (126, 120, L, [Y, T, HA, HB, RA, RB, ST, NS, I0, I1, I2, BO, FI, RG, GU, PU, MA, MN, MS, OT, SC], [r0, r1, r2, r3, w, r5, r6, r7, r8], Lg)) o from ev_f (c := 57 < p0) _ _ 3  zc3 e (fun n => Eq.refl _)
      have ze5 := Option.some.inj h
      subst ze5
      exact ev_rete 3 ho (fun n => Eq.refl _)
set_option maxRecDepth 1000000 in
set_option maxHeartbeats 4000000 in
theorem R_f_M_word_0 (d : Nat) (Y T HA HB RA RB ST NS I0 I1 I2 BO FI RG GU PU MA MN MS OT SC : Nat → Nat → Int32) (r0 r1 r2 r3 w r5 r6 r7 r8 : Nat) (L : Nat) (Lg : Int64) {r : Int32 × (Nat → Nat → Int32)} (h : f_M_word MA MN = some r) : Ev (d + 1, 0, 0, 22, 0, [.val (.ref 1088), .val a_unk, .val a_unk, .val a_unk], [], (126, 120, L, [Y, T, HA, HB, RA, RB, ST, NS, I0, I1, I2, BO, FI, RG, GU, PU, MA, MN, MS, OT, SC], [r0, r1, r2, r3, w, r5, r6, r7, r8], Lg)) ((0, some (.int r.1), (126, 120, L, [Y, T, HA, HB, RA, RB, ST, NS, I0, I1, I2, BO, FI, RG, GU, PU, MA, r.2, MS, OT, SC], [r0, r1, r2, r3, w, r5, r6, r7, r8], Lg)) : AOut) := by
  suffices key : ∀ o : AOut, ((0, some (.int r.1), (126, 120, L, [Y, T, HA, HB, RA, RB, ST, NS, I0, I1, I2, BO, FI, RG, GU, PU, MA, r.2, MS, OT, SC], [r0, r1, r2, r3, w, r5, r6, r7, r8], Lg)) : AOut) = o → Ev (d + 1, 0, 0, 22, 0, [.val (.ref 1088), .val a_unk, .val a_unk, .val a_unk], [], (126, 120, L, [Y, T, HA, HB, RA, RB, ST, NS, I0, I1, I2, BO, FI, RG, GU, PU, MA, MN, MS, OT, SC], [r0, r1, r2, r3, w, r5, r6, r7, r8], Lg)) o from key _ rfl
  intro o ho
  obtain ⟨⟨x1, MN_2⟩, zh1, h⟩ := bnd h
  have zh1 : f_M_here MA MN = some (x1, MN_2) := zh1
  have ze2 := R_f_M_here_0 (d + 0) Y T HA HB RA RB ST NS I0 I1 I2 BO FI RG GU PU MA MN MS OT SC r0 r1 r2 r3 w r5 r6 r7 r8 L Lg zh1
  suffices e : Ev (d + 1, 0, 0, 22, 4, [.val (.ref 1088), .val a_unk, .val a_unk, .val a_unk], [.int x1], (126, 120, L, [Y, T, HA, HB, RA, RB, ST, NS, I0, I1, I2, BO, FI, RG, GU, PU, MA, MN_2, MS, OT, SC], [r0, r1, r2, r3, w, r5, r6, r7, r8], Lg)) o from ev_call (fun v μ => (d + 1, 0, 0, 22, 4, [.val (.ref 1088), .val a_unk, .val a_unk, .val a_unk], v.toList ++ [], μ)) 2 ze2 e (fun n => Eq.refl _)
  obtain ⟨zb3, zh4, h⟩ := bnd h
  suffices e : Ev (d + 1, 0, 0, 22, 14, [.val (.ref 1088), .val (.int 0), .val (.int 0), .val (.int (MN_2 0 4))], [], (126, 120, L, [Y, T, HA, HB, RA, RB, ST, NS, I0, I1, I2, BO, FI, RG, GU, PU, MA, MN_2, MS, OT, SC], [r0, r1, r2, r3, w, r5, r6, r7, r8], Lg)) o from ev_b 8 e (fun n => Eq.refl _)
  refine ev_loop (δ := Unit) (fun a j => (d + 1, 0, 0, 22, 14, [.val (.ref 1088), .val (.int a.1), .val (.int a.2.1), .val (.int a.2.2)], [], (126, 120, L, [Y, T, HA, HB, RA, RB, ST, NS, I0, I1, I2, BO, FI, RG, GU, PU, MA, MN_2, MS, OT, SC], [r0, r1, r2, r3, w, r5, r6, r7, r8], Lg))) (fun b => ∀ s11 : Value, Ev (d + 1, 0, 0, 22, 67, [.val (.ref 1088), .val (.int b.1), .val (.int b.2), .val s11], [], (126, 120, L, [Y, T, HA, HB, RA, RB, ST, NS, I0, I1, I2, BO, FI, RG, GU, PU, MA, MN_2, MS, OT, SC], [r0, r1, r2, r3, w, r5, r6, r7, r8], Lg)) o) ?_ a_F (0, 0, (MN_2 0 4)) zb3 zh4 ?_ ()
  · rintro ⟨v3, v4, v5⟩ zr8 zh7 zi5 zx6 ⟨⟩
    have zh7 : f_M_word_l14 MA MN_2 v3 v4 v5 = some zr8 := zh7
    by_cases zc9 : (MN_2 0 3) ≤ v5
    · have zh7 := itp zh7 zc9
      suffices e : Ev (d + 1, 0, 0, 22, 67, [.val (.ref 1088), .val (.int v3), .val (.int v4), .val (.int v5)], [], (126, 120, L, [Y, T, HA, HB, RA, RB, ST, NS, I0, I1, I2, BO, FI, RG, GU, PU, MA, MN_2, MS, OT, SC], [r0, r1, r2, r3, w, r5, r6, r7, r8], Lg)) o from ev_t (c := (MN_2 0 3) ≤ v5) _ _ 4  zc9 e (fun n => Eq.refl _)
      exact ev_b 0 (zx6 _ (Option.some.inj zh7).symm (.int v5)) (fun n => Eq.refl _)
    · have zh7 := itn zh7 zc9
      suffices e : Ev (d + 1, 0, 0, 22, 22, [.val (.ref 1088), .val (.int v3), .val (.int v4), .val (.int v5)], [], (126, 120, L, [Y, T, HA, HB, RA, RB, ST, NS, I0, I1, I2, BO, FI, RG, GU, PU, MA, MN_2, MS, OT, SC], [r0, r1, r2, r3, w, r5, r6, r7, r8], Lg)) o from ev_f (c := (MN_2 0 3) ≤ v5) _ _ 4  zc9 e (fun n => Eq.refl _)
      obtain ⟨x6, zh10, zh7⟩ := bnd zh7
      have zh10 : rdx (MA 2) 600 v5 = some x6 := zh10
      suffices e : Ev (d + 1, 0, 0, 22, 28, [.val (.ref 1088), .val (.int v3), .val (.int v4), .val (.int v5)], [.int x6], (126, 120, L, [Y, T, HA, HB, RA, RB, ST, NS, I0, I1, I2, BO, FI, RG, GU, PU, MA, MN_2, MS, OT, SC], [r0, r1, r2, r3, w, r5, r6, r7, r8], Lg)) o from ev_opt (fun x6 => (d + 1, 0, 0, 22, 28, [.val (.ref 1088), .val (.int v3), .val (.int v4), .val (.int v5)], [.int x6], (126, 120, L, [Y, T, HA, HB, RA, RB, ST, NS, I0, I1, I2, BO, FI, RG, GU, PU, MA, MN_2, MS, OT, SC], [r0, r1, r2, r3, w, r5, r6, r7, r8], Lg))) 4 zh10 e (fun n => Eq.refl _)
      obtain ⟨x7, zh11, zh7⟩ := bnd zh7
      have zh11 : f_M_isSmall x6 = some x7 := zh11
      have ze12 := R_f_M_isSmall_0 (d + 0) Y T HA HB RA RB ST NS I0 I1 I2 BO FI RG GU PU MA MN_2 MS OT SC r0 r1 r2 r3 w r5 r6 r7 r8 L Lg x6 zh11
      suffices e : Ev (d + 1, 0, 0, 22, 31, [.val (.ref 1088), .val (.int v3), .val (.int v4), .val (.int v5)], [.int x7], (126, 120, L, [Y, T, HA, HB, RA, RB, ST, NS, I0, I1, I2, BO, FI, RG, GU, PU, MA, MN_2, MS, OT, SC], [r0, r1, r2, r3, w, r5, r6, r7, r8], Lg)) o from ev_call (fun v μ => (d + 1, 0, 0, 22, 31, [.val (.ref 1088), .val (.int v3), .val (.int v4), .val (.int v5)], v.toList ++ [], μ)) 1 ze12 e (fun n => Eq.refl _)
      by_cases zc13 : x7 = 0
      · have zh7 := itp zh7 zc13
        suffices e : Ev (d + 1, 0, 0, 22, 67, [.val (.ref 1088), .val (.int v3), .val (.int v4), .val (.int v5)], [], (126, 120, L, [Y, T, HA, HB, RA, RB, ST, NS, I0, I1, I2, BO, FI, RG, GU, PU, MA, MN_2, MS, OT, SC], [r0, r1, r2, r3, w, r5, r6, r7, r8], Lg)) o from ev_t (c := x7 = 0) _ _ 1  zc13 e (fun n => Eq.refl _)
        exact ev_b 0 (zx6 _ (Option.some.inj zh7).symm (.int v5)) (fun n => Eq.refl _)
      · have zh7 := itn zh7 zc13
        suffices e : Ev (d + 1, 0, 0, 22, 34, [.val (.ref 1088), .val (.int v3), .val (.int v4), .val (.int v5)], [], (126, 120, L, [Y, T, HA, HB, RA, RB, ST, NS, I0, I1, I2, BO, FI, RG, GU, PU, MA, MN_2, MS, OT, SC], [r0, r1, r2, r3, w, r5, r6, r7, r8], Lg)) o from ev_f (c := x7 = 0) _ _ 1  zc13 e (fun n => Eq.refl _)
        by_cases zc14 : 6 ≤ v4
        · have zh7 := itp zh7 zc14
          suffices e : Ev (d + 1, 0, 0, 22, 56, [.val (.ref 1088), .val (.int v3), .val (.int v4), .val (.int v5)], [], (126, 120, L, [Y, T, HA, HB, RA, RB, ST, NS, I0, I1, I2, BO, FI, RG, GU, PU, MA, MN_2, MS, OT, SC], [r0, r1, r2, r3, w, r5, r6, r7, r8], Lg)) o from ev_t (c := 6 ≤ v4) _ _ 3  zc14 e (fun n => Eq.refl _)
          exact ev_b 5 (zi5 _ (Option.some.inj zh7).symm ()) (fun n => Eq.refl _)
        · have zh7 := itn zh7 zc14
          suffices e : Ev (d + 1, 0, 0, 22, 40, [.val (.ref 1088), .val (.int v3), .val (.int v4), .val (.int v5)], [], (126, 120, L, [Y, T, HA, HB, RA, RB, ST, NS, I0, I1, I2, BO, FI, RG, GU, PU, MA, MN_2, MS, OT, SC], [r0, r1, r2, r3, w, r5, r6, r7, r8], Lg)) o from ev_f (c := 6 ≤ v4) _ _ 3  zc14 e (fun n => Eq.refl _)
          obtain ⟨x8, zh15, zh7⟩ := bnd zh7
          have zh15 : rdx (MA 2) 600 v5 = some x8 := zh15
          suffices e : Ev (d + 1, 0, 0, 22, 49, [.val (.ref 1088), .val (.int v3), .val (.int v4), .val (.int v5)], [.int x8, .int (a_shl v3 5)], (126, 120, L, [Y, T, HA, HB, RA, RB, ST, NS, I0, I1, I2, BO, FI, RG, GU, PU, MA, MN_2, MS, OT, SC], [r0, r1, r2, r3, w, r5, r6, r7, r8], Lg)) o from ev_opt (fun x8 => (d + 1, 0, 0, 22, 49, [.val (.ref 1088), .val (.int v3), .val (.int v4), .val (.int v5)], [.int x8, .int (a_shl v3 5)], (126, 120, L, [Y, T, HA, HB, RA, RB, ST, NS, I0, I1, I2, BO, FI, RG, GU, PU, MA, MN_2, MS, OT, SC], [r0, r1, r2, r3, w, r5, r6, r7, r8], Lg))) 7 zh15 e (fun n => Eq.refl _)
          exact ev_b 8 (zi5 _ (Option.some.inj zh7).symm ()) (fun n => Eq.refl _)
  · obtain ⟨v9, v10⟩ := zb3
    intro s11
    by_cases zc16 : v10 ≤ 6
    · have h := itp h zc16
      suffices e : Ev (d + 1, 0, 0, 22, 77, [.val (.ref 1088), .val (.int v9), .val (.int v10), .val s11], [], (126, 120, L, [Y, T, HA, HB, RA, RB, ST, NS, I0, I1, I2, BO, FI, RG, GU, PU, MA, MN_2, MS, OT, SC], [r0, r1, r2, r3, w, r5, r6, r7, r8], Lg)) o from ev_t (c := v10 ≤ 6) _ _ 3  zc16 e (fun n => Eq.refl _)
      have ze17 := Option.some.inj h
      subst ze17
      exact ev_rete 2 ho (fun n => Eq.refl _)
    · have h := itn h zc16
      suffices e : Ev (d + 1, 0, 0, 22, 73, [.val (.ref 1088), .val (.int v9), .val (.int v10), .val s11], [], (126, 120, L, [Y, T, HA, HB, RA, RB, ST, NS, I0, I1, I2, BO, FI, RG, GU, PU, MA, MN_2, MS, OT, SC], [r0, r1, r2, r3, w, r5, r6, r7, r8], Lg)) o from ev_f (c := v10 ≤ 6) _ _ 3  zc16 e (fun n => Eq.refl _)
      have ze18 := Option.some.inj h
      subst ze18
      exact ev_rete 3 ho (fun n => Eq.refl _)
set_option maxRecDepth 1000000 in
set_option maxHeartbeats 4000000 in
theorem R_f_M_of_0 (d : Nat) (Y T HA HB RA RB ST NS I0 I1 I2 BO FI RG GU PU MA MN MS OT SC : Nat → Nat → Int32) (r0 r1 r2 r3 w r5 r6 r7 r8 : Nat) (L : Nat) (Lg : Int64) (s0 : Nat) {r : Int32} (h : f_M_of s0 = some r) : Ev (d + 4, 0, 0, 23, 0, [.val (.ref s0), .val a_unk, .val a_unk], [], (126, 120, L, [Y, T, HA, HB, RA, RB, ST, NS, I0, I1, I2, BO, FI, RG, GU, PU, MA, MN, MS, OT, SC], [r0, r1, r2, r3, w, r5, r6, r7, r8], Lg)) ((0, some (.int r), (126, 120, L, [Y, T, HA, HB, RA, RB, ST, NS, I0, I1, I2, BO, FI, RG, GU, PU, MA, MN, MS, OT, SC], [r0, r1, r2, r3, w, r5, r6, r7, r8], Lg)) : AOut) := by
  suffices key : ∀ o : AOut, ((0, some (.int r), (126, 120, L, [Y, T, HA, HB, RA, RB, ST, NS, I0, I1, I2, BO, FI, RG, GU, PU, MA, MN, MS, OT, SC], [r0, r1, r2, r3, w, r5, r6, r7, r8], Lg)) : AOut) = o → Ev (d + 4, 0, 0, 23, 0, [.val (.ref s0), .val a_unk, .val a_unk], [], (126, 120, L, [Y, T, HA, HB, RA, RB, ST, NS, I0, I1, I2, BO, FI, RG, GU, PU, MA, MN, MS, OT, SC], [r0, r1, r2, r3, w, r5, r6, r7, r8], Lg)) o from key _ rfl
  intro o ho
  obtain ⟨v4, zh2, h⟩ := bnd h
  suffices e : Ev (d + 4, 0, 0, 23, 4, [.val (.ref s0), .val (.int 0), .val (.int 0)], [], (126, 120, L, [Y, T, HA, HB, RA, RB, ST, NS, I0, I1, I2, BO, FI, RG, GU, PU, MA, MN, MS, OT, SC], [r0, r1, r2, r3, w, r5, r6, r7, r8], Lg)) o from ev_b 4 e (fun n => Eq.refl _)
  refine ev_loop (δ := Unit) (fun a j => (d + 4, 0, 0, 23, 4, [.val (.ref s0), .val (.int a.1), .val (.int a.2)], [], (126, 120, L, [Y, T, HA, HB, RA, RB, ST, NS, I0, I1, I2, BO, FI, RG, GU, PU, MA, MN, MS, OT, SC], [r0, r1, r2, r3, w, r5, r6, r7, r8], Lg))) (fun b => ∀ s5 : Value, Ev (d + 4, 0, 0, 23, 31, [.val (.ref s0), .val (.int b), .val s5], [], (126, 120, L, [Y, T, HA, HB, RA, RB, ST, NS, I0, I1, I2, BO, FI, RG, GU, PU, MA, MN, MS, OT, SC], [r0, r1, r2, r3, w, r5, r6, r7, r8], Lg)) o) ?_ a_F (0, 0) v4 zh2 ?_ ()
  · rintro ⟨v1, v2⟩ zr6 zh5 zi3 zx4 ⟨⟩
    have zh5 : f_M_of_l4 s0 v1 v2 = some zr6 := zh5
    by_cases zg7 : ¬ (isS s0)
    · exact nos (itn zh5 zg7)
    have zg7 := Decidable.not_not.mp zg7
    have zh5 := itp zh5 zg7
    suffices e : Ev (d + 4, 0, 0, 23, 6, [.val (.ref s0), .val (.int v1), .val (.int v2)], [.ref s0, .int v2], (126, 120, L, [Y, T, HA, HB, RA, RB, ST, NS, I0, I1, I2, BO, FI, RG, GU, PU, MA, MN, MS, OT, SC], [r0, r1, r2, r3, w, r5, r6, r7, r8], Lg)) o from ev_b 2 e (fun n => Eq.refl _)
    refine r_inv (args := []) (rest := [.int v2]) rfl rfl rfl rfl (cS zg7).1 (cS zg7).2.1 rfl (R_len (d + 2) s0 (126, 120, L, [Y, T, HA, HB, RA, RB, ST, NS, I0, I1, I2, BO, FI, RG, GU, PU, MA, MN, MS, OT, SC], [r0, r1, r2, r3, w, r5, r6, r7, r8], Lg) zg7) ?_
    by_cases zc8 : (s_len s0) ≤ v2
    · have zh5 := itp zh5 zc8
      suffices e : Ev (d + 4, 0, 0, 23, 31, [.val (.ref s0), .val (.int v1), .val (.int v2)], [], (126, 120, L, [Y, T, HA, HB, RA, RB, ST, NS, I0, I1, I2, BO, FI, RG, GU, PU, MA, MN, MS, OT, SC], [r0, r1, r2, r3, w, r5, r6, r7, r8], Lg)) o from ev_t (c := (s_len s0) ≤ v2) _ _ 1  zc8 e (fun n => Eq.refl _)
      exact ev_b 0 (zx4 _ (Option.some.inj zh5).symm (.int v2)) (fun n => Eq.refl _)
    · have zh5 := itn zh5 zc8
      suffices e : Ev (d + 4, 0, 0, 23, 12, [.val (.ref s0), .val (.int v1), .val (.int v2)], [], (126, 120, L, [Y, T, HA, HB, RA, RB, ST, NS, I0, I1, I2, BO, FI, RG, GU, PU, MA, MN, MS, OT, SC], [r0, r1, r2, r3, w, r5, r6, r7, r8], Lg)) o from ev_f (c := (s_len s0) ≤ v2) _ _ 1  zc8 e (fun n => Eq.refl _)
      by_cases zg9 : ¬ (isS s0)
      · exact nos (itn zh5 zg9)
      have zg9 := Decidable.not_not.mp zg9
      have zh5 := itp zh5 zg9
      obtain ⟨x3, zh10, zh5⟩ := bnd zh5
      suffices e : Ev (d + 4, 0, 0, 23, 17, [.val (.ref s0), .val (.int v1), .val (.int v2)], [.int v2, .ref s0, .int (a_shl v1 5)], (126, 120, L, [Y, T, HA, HB, RA, RB, ST, NS, I0, I1, I2, BO, FI, RG, GU, PU, MA, MN, MS, OT, SC], [r0, r1, r2, r3, w, r5, r6, r7, r8], Lg)) o from ev_b 5 e (fun n => Eq.refl _)
      refine r_inv (args := [.int v2]) (rest := [.int (a_shl v1 5)]) rfl rfl rfl rfl (cS zg9).1 (cS zg9).2.1 rfl (R_ch (d + 0) s0 v2 x3 (126, 120, L, [Y, T, HA, HB, RA, RB, ST, NS, I0, I1, I2, BO, FI, RG, GU, PU, MA, MN, MS, OT, SC], [r0, r1, r2, r3, w, r5, r6, r7, r8], Lg) zg9 zh10) ?_
      exact ev_b 6 (zi3 _ (Option.some.inj zh5).symm ()) (fun n => Eq.refl _)
  · skip
    intro s5
    have ze11 := Option.some.inj h
    subst ze11
    exact ev_rete 2 ho (fun n => Eq.refl _)
set_option maxRecDepth 1000000 in
set_option maxHeartbeats 4000000 in
theorem R_f_M_pass_0 (d : Nat) (Y T HA HB RA RB ST NS I0 I1 I2 BO FI RG GU PU MA MN MS OT SC : Nat → Nat → Int32) (r0 r1 r2 r3 w r5 r6 r7 r8 : Nat) (L : Nat) (Lg : Int64) {r : (Nat → Nat → Int32)} (h : f_M_pass MA MN = some r) : Ev (d + 1, 0, 0, 24, 0, [.val (.ref 1088)], [], (126, 120, L, [Y, T, HA, HB, RA, RB, ST, NS, I0, I1, I2, BO, FI, RG, GU, PU, MA, MN, MS, OT, SC], [r0, r1, r2, r3, w, r5, r6, r7, r8], Lg)) ((0, none, (126, 120, L, [Y, T, HA, HB, RA, RB, ST, NS, I0, I1, I2, BO, FI, RG, GU, PU, MA, r, MS, OT, SC], [r0, r1, r2, r3, w, r5, r6, r7, r8], Lg)) : AOut) := by
  suffices key : ∀ o : AOut, ((0, none, (126, 120, L, [Y, T, HA, HB, RA, RB, ST, NS, I0, I1, I2, BO, FI, RG, GU, PU, MA, r, MS, OT, SC], [r0, r1, r2, r3, w, r5, r6, r7, r8], Lg)) : AOut) = o → Ev (d + 1, 0, 0, 24, 0, [.val (.ref 1088)], [], (126, 120, L, [Y, T, HA, HB, RA, RB, ST, NS, I0, I1, I2, BO, FI, RG, GU, PU, MA, MN, MS, OT, SC], [r0, r1, r2, r3, w, r5, r6, r7, r8], Lg)) o from key _ rfl
  intro o ho
  obtain ⟨MN_4, zh2, h⟩ := bnd h
  suffices e : Ev (d + 1, 0, 0, 24, 0, [.val (.ref 1088)], [], (126, 120, L, [Y, T, HA, HB, RA, RB, ST, NS, I0, I1, I2, BO, FI, RG, GU, PU, MA, MN, MS, OT, SC], [r0, r1, r2, r3, w, r5, r6, r7, r8], Lg)) o from ev_b 0 e (fun n => Eq.refl _)
  refine ev_loop (δ := Unit) (fun a j => (d + 1, 0, 0, 24, 0, [.val (.ref 1088)], [], (126, 120, L, [Y, T, HA, HB, RA, RB, ST, NS, I0, I1, I2, BO, FI, RG, GU, PU, MA, a, MS, OT, SC], [r0, r1, r2, r3, w, r5, r6, r7, r8], Lg))) (fun b => Ev (d + 1, 0, 0, 24, 39, [.val (.ref 1088)], [], (126, 120, L, [Y, T, HA, HB, RA, RB, ST, NS, I0, I1, I2, BO, FI, RG, GU, PU, MA, b, MS, OT, SC], [r0, r1, r2, r3, w, r5, r6, r7, r8], Lg)) o) ?_ a_F MN MN_4 zh2 ?_ ()
  · rintro MN_1 zr6 zh5 zi3 zx4 ⟨⟩
    have zh5 : f_M_pass_l0 MA MN_1 = some zr6 := zh5
    by_cases zc7 : (MN_1 0 3) ≤ (MN_1 0 4)
    · have zh5 := itp zh5 zc7
      suffices e : Ev (d + 1, 0, 0, 24, 39, [.val (.ref 1088)], [], (126, 120, L, [Y, T, HA, HB, RA, RB, ST, NS, I0, I1, I2, BO, FI, RG, GU, PU, MA, MN_1, MS, OT, SC], [r0, r1, r2, r3, w, r5, r6, r7, r8], Lg)) o from ev_t (c := (MN_1 0 3) ≤ (MN_1 0 4)) _ _ 5  zc7 e (fun n => Eq.refl _)
      exact ev_b 0 (zx4 _ (Option.some.inj zh5).symm ) (fun n => Eq.refl _)
    · have zh5 := itn zh5 zc7
      suffices e : Ev (d + 1, 0, 0, 24, 11, [.val (.ref 1088)], [], (126, 120, L, [Y, T, HA, HB, RA, RB, ST, NS, I0, I1, I2, BO, FI, RG, GU, PU, MA, MN_1, MS, OT, SC], [r0, r1, r2, r3, w, r5, r6, r7, r8], Lg)) o from ev_f (c := (MN_1 0 3) ≤ (MN_1 0 4)) _ _ 5  zc7 e (fun n => Eq.refl _)
      obtain ⟨x2, zh8, zh5⟩ := bnd zh5
      have zh8 : rdx (MA 2) 600 (MN_1 0 4) = some x2 := zh8
      suffices e : Ev (d + 1, 0, 0, 24, 20, [.val (.ref 1088)], [.int x2], (126, 120, L, [Y, T, HA, HB, RA, RB, ST, NS, I0, I1, I2, BO, FI, RG, GU, PU, MA, MN_1, MS, OT, SC], [r0, r1, r2, r3, w, r5, r6, r7, r8], Lg)) o from ev_opt (fun x2 => (d + 1, 0, 0, 24, 20, [.val (.ref 1088)], [.int x2], (126, 120, L, [Y, T, HA, HB, RA, RB, ST, NS, I0, I1, I2, BO, FI, RG, GU, PU, MA, MN_1, MS, OT, SC], [r0, r1, r2, r3, w, r5, r6, r7, r8], Lg))) 5 zh8 e (fun n => Eq.refl _)
      obtain ⟨x3, zh9, zh5⟩ := bnd zh5
      have zh9 : f_M_isSmall x2 = some x3 := zh9
      have ze10 := R_f_M_isSmall_0 (d + 0) Y T HA HB RA RB ST NS I0 I1 I2 BO FI RG GU PU MA MN_1 MS OT SC r0 r1 r2 r3 w r5 r6 r7 r8 L Lg x2 zh9
      suffices e : Ev (d + 1, 0, 0, 24, 23, [.val (.ref 1088)], [.int x3], (126, 120, L, [Y, T, HA, HB, RA, RB, ST, NS, I0, I1, I2, BO, FI, RG, GU, PU, MA, MN_1, MS, OT, SC], [r0, r1, r2, r3, w, r5, r6, r7, r8], Lg)) o from ev_call (fun v μ => (d + 1, 0, 0, 24, 23, [.val (.ref 1088)], v.toList ++ [], μ)) 1 ze10 e (fun n => Eq.refl _)
      by_cases zc11 : x3 = 0
      · have zh5 := itp zh5 zc11
        suffices e : Ev (d + 1, 0, 0, 24, 39, [.val (.ref 1088)], [], (126, 120, L, [Y, T, HA, HB, RA, RB, ST, NS, I0, I1, I2, BO, FI, RG, GU, PU, MA, MN_1, MS, OT, SC], [r0, r1, r2, r3, w, r5, r6, r7, r8], Lg)) o from ev_t (c := x3 = 0) _ _ 1  zc11 e (fun n => Eq.refl _)
        exact ev_b 0 (zx4 _ (Option.some.inj zh5).symm ) (fun n => Eq.refl _)
      · have zh5 := itn zh5 zc11
        suffices e : Ev (d + 1, 0, 0, 24, 26, [.val (.ref 1088)], [], (126, 120, L, [Y, T, HA, HB, RA, RB, ST, NS, I0, I1, I2, BO, FI, RG, GU, PU, MA, MN_1, MS, OT, SC], [r0, r1, r2, r3, w, r5, r6, r7, r8], Lg)) o from ev_f (c := x3 = 0) _ _ 1  zc11 e (fun n => Eq.refl _)
        exact ev_b 7 (zi3 _ (Option.some.inj zh5).symm ()) (fun n => Eq.refl _)
  · skip
    have ze12 := Option.some.inj h
    subst ze12
    exact ev_rete 1 ho (fun n => Eq.refl _)
set_option maxRecDepth 1000000 in
set_option maxHeartbeats 4000000 in
theorem R_f_M_readNumber_0 (d : Nat) (Y T HA HB RA RB ST NS I0 I1 I2 BO FI RG GU PU MA MN MS OT SC : Nat → Nat → Int32) (r0 r1 r2 r3 w r5 r6 r7 r8 : Nat) (L : Nat) (Lg : Int64) (p1 : Int32) (p2 : Int32) {r : Int32 × (Nat → Nat → Int32)} (h : f_M_readNumber MA MN p1 p2 = some r) : Ev (d + 1, 0, 0, 25, 0, [.val (.ref 1088), .val (.int p1), .val (.int p2), .val a_unk, .val a_unk, .val a_unk], [], (126, 120, L, [Y, T, HA, HB, RA, RB, ST, NS, I0, I1, I2, BO, FI, RG, GU, PU, MA, MN, MS, OT, SC], [r0, r1, r2, r3, w, r5, r6, r7, r8], Lg)) ((0, some (.int r.1), (126, 120, L, [Y, T, HA, HB, RA, RB, ST, NS, I0, I1, I2, BO, FI, RG, GU, PU, MA, r.2, MS, OT, SC], [r0, r1, r2, r3, w, r5, r6, r7, r8], Lg)) : AOut) := by
  suffices key : ∀ o : AOut, ((0, some (.int r.1), (126, 120, L, [Y, T, HA, HB, RA, RB, ST, NS, I0, I1, I2, BO, FI, RG, GU, PU, MA, r.2, MS, OT, SC], [r0, r1, r2, r3, w, r5, r6, r7, r8], Lg)) : AOut) = o → Ev (d + 1, 0, 0, 25, 0, [.val (.ref 1088), .val (.int p1), .val (.int p2), .val a_unk, .val a_unk, .val a_unk], [], (126, 120, L, [Y, T, HA, HB, RA, RB, ST, NS, I0, I1, I2, BO, FI, RG, GU, PU, MA, MN, MS, OT, SC], [r0, r1, r2, r3, w, r5, r6, r7, r8], Lg)) o from key _ rfl
  intro o ho
  obtain ⟨x1, zh1, h⟩ := bnd h
  have zh1 : f_M_fine MN = some x1 := zh1
  have ze2 := R_f_M_fine_0 (d + 0) Y T HA HB RA RB ST NS I0 I1 I2 BO FI RG GU PU MA MN MS OT SC r0 r1 r2 r3 w r5 r6 r7 r8 L Lg zh1
  suffices e : Ev (d + 1, 0, 0, 25, 4, [.val (.ref 1088), .val (.int p1), .val (.int p2), .val a_unk, .val a_unk, .val a_unk], [.int x1], (126, 120, L, [Y, T, HA, HB, RA, RB, ST, NS, I0, I1, I2, BO, FI, RG, GU, PU, MA, MN, MS, OT, SC], [r0, r1, r2, r3, w, r5, r6, r7, r8], Lg)) o from ev_call (fun v μ => (d + 1, 0, 0, 25, 4, [.val (.ref 1088), .val (.int p1), .val (.int p2), .val a_unk, .val a_unk, .val a_unk], v.toList ++ [], μ)) 2 ze2 e (fun n => Eq.refl _)
  by_cases zc3 : x1 ≠ 0
  · have h := itp h zc3
    suffices e : Ev (d + 1, 0, 0, 25, 9, [.val (.ref 1088), .val (.int p1), .val (.int p2), .val a_unk, .val a_unk, .val a_unk], [], (126, 120, L, [Y, T, HA, HB, RA, RB, ST, NS, I0, I1, I2, BO, FI, RG, GU, PU, MA, MN, MS, OT, SC], [r0, r1, r2, r3, w, r5, r6, r7, r8], Lg)) o from ev_t (c := x1 ≠ 0) _ _ 1  zc3 e (fun n => Eq.refl _)
    obtain ⟨⟨x2, MN_3⟩, zh4, h⟩ := bnd h
    have zh4 : f_M_here MA MN = some (x2, MN_3) := zh4
    have ze5 := R_f_M_here_0 (d + 0) Y T HA HB RA RB ST NS I0 I1 I2 BO FI RG GU PU MA MN MS OT SC r0 r1 r2 r3 w r5 r6 r7 r8 L Lg zh4
    suffices e : Ev (d + 1, 0, 0, 25, 13, [.val (.ref 1088), .val (.int p1), .val (.int p2), .val a_unk, .val a_unk, .val a_unk], [.int x2], (126, 120, L, [Y, T, HA, HB, RA, RB, ST, NS, I0, I1, I2, BO, FI, RG, GU, PU, MA, MN_3, MS, OT, SC], [r0, r1, r2, r3, w, r5, r6, r7, r8], Lg)) o from ev_call (fun v μ => (d + 1, 0, 0, 25, 13, [.val (.ref 1088), .val (.int p1), .val (.int p2), .val a_unk, .val a_unk, .val a_unk], v.toList ++ [], μ)) 2 ze5 e (fun n => Eq.refl _)
    obtain ⟨x4, zh6, h⟩ := bnd h
    have zh6 : f_M_isDigit x2 = some x4 := zh6
    have ze7 := R_f_M_isDigit_0 (d + 0) Y T HA HB RA RB ST NS I0 I1 I2 BO FI RG GU PU MA MN_3 MS OT SC r0 r1 r2 r3 w r5 r6 r7 r8 L Lg x2 zh6
    suffices e : Ev (d + 1, 0, 0, 25, 27, [.val (.ref 1088), .val (.int p1), .val (.int p2), .val (.int x2), .val (.int (MN_3 0 4)), .val (.int 0)], [.int x4], (126, 120, L, [Y, T, HA, HB, RA, RB, ST, NS, I0, I1, I2, BO, FI, RG, GU, PU, MA, MN_3, MS, OT, SC], [r0, r1, r2, r3, w, r5, r6, r7, r8], Lg)) o from ev_call (fun v μ => (d + 1, 0, 0, 25, 27, [.val (.ref 1088), .val (.int p1), .val (.int p2), .val (.int x2), .val (.int (MN_3 0 4)), .val (.int 0)], v.toList ++ [], μ)) 8 ze7 e (fun n => Eq.refl _)
    by_cases zc8 : x4 ≠ 0
    · have h := itp h zc8
      suffices e : Ev (d + 1, 0, 0, 25, 41, [.val (.ref 1088), .val (.int p1), .val (.int p2), .val (.int x2), .val (.int (MN_3 0 4)), .val (.int 0)], [], (126, 120, L, [Y, T, HA, HB, RA, RB, ST, NS, I0, I1, I2, BO, FI, RG, GU, PU, MA, MN_3, MS, OT, SC], [r0, r1, r2, r3, w, r5, r6, r7, r8], Lg)) o from ev_t (c := x4 ≠ 0) _ _ 1  zc8 e (fun n => Eq.refl _)
      obtain ⟨zb9, zh10, h⟩ := bnd h
      suffices e : Ev (d + 1, 0, 0, 25, 41, [.val (.ref 1088), .val (.int p1), .val (.int p2), .val (.int x2), .val (.int (MN_3 0 4)), .val (.int 0)], [], (126, 120, L, [Y, T, HA, HB, RA, RB, ST, NS, I0, I1, I2, BO, FI, RG, GU, PU, MA, MN_3, MS, OT, SC], [r0, r1, r2, r3, w, r5, r6, r7, r8], Lg)) o from ev_b 0 e (fun n => Eq.refl _)
      refine ev_loop (δ := Unit) (fun a j => (d + 1, 0, 0, 25, 41, [.val (.ref 1088), .val (.int p1), .val (.int p2), .val (.int x2), .val (.int (MN_3 0 4)), .val (.int a.1)], [], (126, 120, L, [Y, T, HA, HB, RA, RB, ST, NS, I0, I1, I2, BO, FI, RG, GU, PU, MA, a.2, MS, OT, SC], [r0, r1, r2, r3, w, r5, r6, r7, r8], Lg))) (fun b => Ev (d + 1, 0, 0, 25, 114, [.val (.ref 1088), .val (.int p1), .val (.int p2), .val (.int x2), .val (.int (MN_3 0 4)), .val (.int b.1)], [], (126, 120, L, [Y, T, HA, HB, RA, RB, ST, NS, I0, I1, I2, BO, FI, RG, GU, PU, MA, b.2, MS, OT, SC], [r0, r1, r2, r3, w, r5, r6, r7, r8], Lg)) o) ?_ a_F (0, MN_3) zb9 zh10 ?_ ()
      · rintro ⟨v5, MN_6⟩ zr14 zh13 zi11 zx12 ⟨⟩
        have zh13 : f_M_readNumber_l41 MA v5 MN_6 = some zr14 := zh13
        by_cases zc15 : (MN_6 0 3) ≤ (MN_6 0 4)
        · have zh13 := itp zh13 zc15
          suffices e : Ev (d + 1, 0, 0, 25, 114, [.val (.ref 1088), .val (.int p1), .val (.int p2), .val (.int x2), .val (.int (MN_3 0 4)), .val (.int v5)], [], (126, 120, L, [Y, T, HA, HB, RA, RB, ST, NS, I0, I1, I2, BO, FI, RG, GU, PU, MA, MN_6, MS, OT, SC], [r0, r1, r2, r3, w, r5, r6, r7, r8], Lg)) o from ev_t (c := (MN_6 0 3) ≤ (MN_6 0 4)) _ _ 5  zc15 e (fun n => Eq.refl _)
          exact ev_b 0 (zx12 _ (Option.some.inj zh13).symm ) (fun n => Eq.refl _)
        · have zh13 := itn zh13 zc15
          suffices e : Ev (d + 1, 0, 0, 25, 52, [.val (.ref 1088), .val (.int p1), .val (.int p2), .val (.int x2), .val (.int (MN_3 0 4)), .val (.int v5)], [], (126, 120, L, [Y, T, HA, HB, RA, RB, ST, NS, I0, I1, I2, BO, FI, RG, GU, PU, MA, MN_6, MS, OT, SC], [r0, r1, r2, r3, w, r5, r6, r7, r8], Lg)) o from ev_f (c := (MN_6 0 3) ≤ (MN_6 0 4)) _ _ 5  zc15 e (fun n => Eq.refl _)
          obtain ⟨x7, zh16, zh13⟩ := bnd zh13
          have zh16 : rdx (MA 2) 600 (MN_6 0 4) = some x7 := zh16
          suffices e : Ev (d + 1, 0, 0, 25, 61, [.val (.ref 1088), .val (.int p1), .val (.int p2), .val (.int x2), .val (.int (MN_3 0 4)), .val (.int v5)], [.int x7], (126, 120, L, [Y, T, HA, HB, RA, RB, ST, NS, I0, I1, I2, BO, FI, RG, GU, PU, MA, MN_6, MS, OT, SC], [r0, r1, r2, r3, w, r5, r6, r7, r8], Lg)) o from ev_opt (fun x7 => (d + 1, 0, 0, 25, 61, [.val (.ref 1088), .val (.int p1), .val (.int p2), .val (.int x2), .val (.int (MN_3 0 4)), .val (.int v5)], [.int x7], (126, 120, L, [Y, T, HA, HB, RA, RB, ST, NS, I0, I1, I2, BO, FI, RG, GU, PU, MA, MN_6, MS, OT, SC], [r0, r1, r2, r3, w, r5, r6, r7, r8], Lg))) 5 zh16 e (fun n => Eq.refl _)
          obtain ⟨x8, zh17, zh13⟩ := bnd zh13
          have zh17 : f_M_isDigit x7 = some x8 := zh17
          have ze18 := R_f_M_isDigit_0 (d + 0) Y T HA HB RA RB ST NS I0 I1 I2 BO FI RG GU PU MA MN_6 MS OT SC r0 r1 r2 r3 w r5 r6 r7 r8 L Lg x7 zh17
          suffices e : Ev (d + 1, 0, 0, 25, 64, [.val (.ref 1088), .val (.int p1), .val (.int p2), .val (.int x2), .val (.int (MN_3 0 4)), .val (.int v5)], [.int x8], (126, 120, L, [Y, T, HA, HB, RA, RB, ST, NS, I0, I1, I2, BO, FI, RG, GU, PU, MA, MN_6, MS, OT, SC], [r0, r1, r2, r3, w, r5, r6, r7, r8], Lg)) o from ev_call (fun v μ => (d + 1, 0, 0, 25, 64, [.val (.ref 1088), .val (.int p1), .val (.int p2), .val (.int x2), .val (.int (MN_3 0 4)), .val (.int v5)], v.toList ++ [], μ)) 1 ze18 e (fun n => Eq.refl _)
          by_cases zc19 : x8 = 0
          · have zh13 := itp zh13 zc19
            suffices e : Ev (d + 1, 0, 0, 25, 114, [.val (.ref 1088), .val (.int p1), .val (.int p2), .val (.int x2), .val (.int (MN_3 0 4)), .val (.int v5)], [], (126, 120, L, [Y, T, HA, HB, RA, RB, ST, NS, I0, I1, I2, BO, FI, RG, GU, PU, MA, MN_6, MS, OT, SC], [r0, r1, r2, r3, w, r5, r6, r7, r8], Lg)) o from ev_t (c := x8 = 0) _ _ 1  zc19 e (fun n => Eq.refl _)
            exact ev_b 0 (zx12 _ (Option.some.inj zh13).symm ) (fun n => Eq.refl _)
          · have zh13 := itn zh13 zc19
            suffices e : Ev (d + 1, 0, 0, 25, 67, [.val (.ref 1088), .val (.int p1), .val (.int p2), .val (.int x2), .val (.int (MN_3 0 4)), .val (.int v5)], [], (126, 120, L, [Y, T, HA, HB, RA, RB, ST, NS, I0, I1, I2, BO, FI, RG, GU, PU, MA, MN_6, MS, OT, SC], [r0, r1, r2, r3, w, r5, r6, r7, r8], Lg)) o from ev_f (c := x8 = 0) _ _ 1  zc19 e (fun n => Eq.refl _)
            obtain ⟨zt20, zh21, zh13⟩ := bnd zh13
            have zj22 : ∀ (v10 : Int32), v10 = zt20 → Ev (d + 1, 0, 0, 25, 99, [.val (.ref 1088), .val (.int p1), .val (.int p2), .val (.int x2), .val (.int (MN_3 0 4)), .val (.int v5)], [.int v10], (126, 120, L, [Y, T, HA, HB, RA, RB, ST, NS, I0, I1, I2, BO, FI, RG, GU, PU, MA, MN_6, MS, OT, SC], [r0, r1, r2, r3, w, r5, r6, r7, r8], Lg)) o := by
              intro v10 ze23
              subst ze23
              exact ev_b 8 (zi11 _ (Option.some.inj zh13).symm ()) (fun n => Eq.refl _)
            by_cases zc24 : v5 ≤ 9999
            · have zh21 := itp zh21 zc24
              suffices e : Ev (d + 1, 0, 0, 25, 81, [.val (.ref 1088), .val (.int p1), .val (.int p2), .val (.int x2), .val (.int (MN_3 0 4)), .val (.int v5)], [], (126, 120, L, [Y, T, HA, HB, RA, RB, ST, NS, I0, I1, I2, BO, FI, RG, GU, PU, MA, MN_6, MS, OT, SC], [r0, r1, r2, r3, w, r5, r6, r7, r8], Lg)) o from ev_t (c := v5 ≤ 9999) _ _ 3  zc24 e (fun n => Eq.refl _)
              obtain ⟨x9, zh25, zh21⟩ := bnd zh21
              have zh25 : rdx (MA 2) 600 (MN_6 0 4) = some x9 := zh25
              suffices e : Ev (d + 1, 0, 0, 25, 95, [.val (.ref 1088), .val (.int p1), .val (.int p2), .val (.int x2), .val (.int (MN_3 0 4)), .val (.int v5)], [.int x9, .int (10 * v5)], (126, 120, L, [Y, T, HA, HB, RA, RB, ST, NS, I0, I1, I2, BO, FI, RG, GU, PU, MA, MN_6, MS, OT, SC], [r0, r1, r2, r3, w, r5, r6, r7, r8], Lg)) o from ev_opt (fun x9 => (d + 1, 0, 0, 25, 95, [.val (.ref 1088), .val (.int p1), .val (.int p2), .val (.int x2), .val (.int (MN_3 0 4)), .val (.int v5)], [.int x9, .int (10 * v5)], (126, 120, L, [Y, T, HA, HB, RA, RB, ST, NS, I0, I1, I2, BO, FI, RG, GU, PU, MA, MN_6, MS, OT, SC], [r0, r1, r2, r3, w, r5, r6, r7, r8], Lg))) 8 zh25 e (fun n => Eq.refl _)
              exact ev_b 3 (zj22 (((10 * v5) + x9) - 48) (Option.some.inj zh21) ) (fun n => Eq.refl _)
            · have zh21 := itn zh21 zc24
              suffices e : Ev (d + 1, 0, 0, 25, 75, [.val (.ref 1088), .val (.int p1), .val (.int p2), .val (.int x2), .val (.int (MN_3 0 4)), .val (.int v5)], [], (126, 120, L, [Y, T, HA, HB, RA, RB, ST, NS, I0, I1, I2, BO, FI, RG, GU, PU, MA, MN_6, MS, OT, SC], [r0, r1, r2, r3, w, r5, r6, r7, r8], Lg)) o from ev_f (c := v5 ≤ 9999) _ _ 3  zc24 e (fun n => Eq.refl _)
              exact ev_b 2 (zj22 10000 (Option.some.inj zh21) ) (fun n => Eq.refl _)
      · obtain ⟨v11, MN_12⟩ := zb9
        obtain ⟨zt26, zh27, h⟩ := bnd h
        have zj28 : zt26 = .inl () → Ev (d + 1, 0, 0, 25, 126, [.val (.ref 1088), .val (.int p1), .val (.int p2), .val (.int x2), .val (.int (MN_3 0 4)), .val (.int v11)], [], (126, 120, L, [Y, T, HA, HB, RA, RB, ST, NS, I0, I1, I2, BO, FI, RG, GU, PU, MA, MN_12, MS, OT, SC], [r0, r1, r2, r3, w, r5, r6, r7, r8], Lg)) o := by
          intro ze29
          have h := sum_l h ze29
          obtain ⟨MN_13, zh30, h⟩ := bnd h
          have zh30 : f_M_wrong MN_12 2 (MN_3 0 4) = some MN_13 := zh30
          have ze31 := R_f_M_wrong_0 (d + 0) Y T HA HB RA RB ST NS I0 I1 I2 BO FI RG GU PU MA MN_12 MS OT SC r0 r1 r2 r3 w r5 r6 r7 r8 L Lg 2 (MN_3 0 4) zh30
          suffices e : Ev (d + 1, 0, 0, 25, 133, [.val (.ref 1088), .val (.int p1), .val (.int p2), .val (.int x2), .val (.int (MN_3 0 4)), .val (.int v11)], [], (126, 120, L, [Y, T, HA, HB, RA, RB, ST, NS, I0, I1, I2, BO, FI, RG, GU, PU, MA, MN_13, MS, OT, SC], [r0, r1, r2, r3, w, r5, r6, r7, r8], Lg)) o from ev_call (fun v μ => (d + 1, 0, 0, 25, 133, [.val (.ref 1088), .val (.int p1), .val (.int p2), .val (.int x2), .val (.int (MN_3 0 4)), .val (.int v11)], v.toList ++ [], μ)) 4 ze31 e (fun n => Eq.refl _)
          have ze32 := Option.some.inj h
          subst ze32
          exact ev_rete 2 ho (fun n => Eq.refl _)
        by_cases zc33 : v11 < p1
        · have zh27 := itp zh27 zc33
          suffices e : Ev (d + 1, 0, 0, 25, 126, [.val (.ref 1088), .val (.int p1), .val (.int p2), .val (.int x2), .val (.int (MN_3 0 4)), .val (.int v11)], [], (126, 120, L, [Y, T, HA, HB, RA, RB, ST, NS, I0, I1, I2, BO, FI, RG, GU, PU, MA, MN_12, MS, OT, SC], [r0, r1, r2, r3, w, r5, r6, r7, r8], Lg)) o from ev_t (c := v11 < p1) _ _ 3  zc33 e (fun n => Eq.refl _)
          exact ev_b 0 (zj28  (Option.some.inj zh27).symm ) (fun n => Eq.refl _)
        · have zh27 := itn zh27 zc33
          suffices e : Ev (d + 1, 0, 0, 25, 120, [.val (.ref 1088), .val (.int p1), .val (.int p2), .val (.int x2), .val (.int (MN_3 0 4)), .val (.int v11)], [], (126, 120, L, [Y, T, HA, HB, RA, RB, ST, NS, I0, I1, I2, BO, FI, RG, GU, PU, MA, MN_12, MS, OT, SC], [r0, r1, r2, r3, w, r5, r6, r7, r8], Lg)) o from ev_f (c := v11 < p1) _ _ 3  zc33 e (fun n => Eq.refl _)
          by_cases zc34 : v11 ≤ p2
          · have zh27 := itp zh27 zc34
            suffices e : Ev (d + 1, 0, 0, 25, 135, [.val (.ref 1088), .val (.int p1), .val (.int p2), .val (.int x2), .val (.int (MN_3 0 4)), .val (.int v11)], [], (126, 120, L, [Y, T, HA, HB, RA, RB, ST, NS, I0, I1, I2, BO, FI, RG, GU, PU, MA, MN_12, MS, OT, SC], [r0, r1, r2, r3, w, r5, r6, r7, r8], Lg)) o from ev_t (c := v11 ≤ p2) _ _ 3  zc34 e (fun n => Eq.refl _)
            have zh35 := sum_r h (Option.some.inj zh27).symm
            have ze36 := Option.some.inj zh35
            subst ze36
            exact ev_rete 2 ho (fun n => Eq.refl _)
          · have zh27 := itn zh27 zc34
            suffices e : Ev (d + 1, 0, 0, 25, 126, [.val (.ref 1088), .val (.int p1), .val (.int p2), .val (.int x2), .val (.int (MN_3 0 4)), .val (.int v11)], [], (126, 120, L, [Y, T, HA, HB, RA, RB, ST, NS, I0, I1, I2, BO, FI, RG, GU, PU, MA, MN_12, MS, OT, SC], [r0, r1, r2, r3, w, r5, r6, r7, r8], Lg)) o from ev_f (c := v11 ≤ p2) _ _ 3  zc34 e (fun n => Eq.refl _)
            exact ev_b 0 (zj28  (Option.some.inj zh27).symm ) (fun n => Eq.refl _)
    · have h := itn h zc8
      suffices e : Ev (d + 1, 0, 0, 25, 30, [.val (.ref 1088), .val (.int p1), .val (.int p2), .val (.int x2), .val (.int (MN_3 0 4)), .val (.int 0)], [], (126, 120, L, [Y, T, HA, HB, RA, RB, ST, NS, I0, I1, I2, BO, FI, RG, GU, PU, MA, MN_3, MS, OT, SC], [r0, r1, r2, r3, w, r5, r6, r7, r8], Lg)) o from ev_f (c := x4 ≠ 0) _ _ 1  zc8 e (fun n => Eq.refl _)
      obtain ⟨MN_14, zh37, h⟩ := bnd h
      have zh37 : f_M_wrong MN_3 1 (MN_3 0 4) = some MN_14 := zh37
      have ze38 := R_f_M_wrong_0 (d + 0) Y T HA HB RA RB ST NS I0 I1 I2 BO FI RG GU PU MA MN_3 MS OT SC r0 r1 r2 r3 w r5 r6 r7 r8 L Lg 1 (MN_3 0 4) zh37
      suffices e : Ev (d + 1, 0, 0, 25, 39, [.val (.ref 1088), .val (.int p1), .val (.int p2), .val (.int x2), .val (.int (MN_3 0 4)), .val (.int 0)], [], (126, 120, L, [Y, T, HA, HB, RA, RB, ST, NS, I0, I1, I2, BO, FI, RG, GU, PU, MA, MN_14, MS, OT, SC], [r0, r1, r2, r3, w, r5, r6, r7, r8], Lg)) o from ev_call (fun v μ => (d + 1, 0, 0, 25, 39, [.val (.ref 1088), .val (.int p1), .val (.int p2), .val (.int x2), .val (.int (MN_3 0 4)), .val (.int 0)], v.toList ++ [], μ)) 5 ze38 e (fun n => Eq.refl _)
      have ze39 := Option.some.inj h
      subst ze39
      exact ev_rete 2 ho (fun n => Eq.refl _)
  · have h := itn h zc3
    suffices e : Ev (d + 1, 0, 0, 25, 7, [.val (.ref 1088), .val (.int p1), .val (.int p2), .val a_unk, .val a_unk, .val a_unk], [], (126, 120, L, [Y, T, HA, HB, RA, RB, ST, NS, I0, I1, I2, BO, FI, RG, GU, PU, MA, MN, MS, OT, SC], [r0, r1, r2, r3, w, r5, r6, r7, r8], Lg)) o from ev_f (c := x1 ≠ 0) _ _ 1  zc3 e (fun n => Eq.refl _)
    have ze40 := Option.some.inj h
    subst ze40
    exact ev_rete 2 ho (fun n => Eq.refl _)
set_option maxRecDepth 1000000 in
set_option maxHeartbeats 4000000 in
theorem R_f_M_sign_0 (d : Nat) (Y T HA HB RA RB ST NS I0 I1 I2 BO FI RG GU PU MA MN MS OT SC : Nat → Nat → Int32) (r0 r1 r2 r3 w r5 r6 r7 r8 : Nat) (L : Nat) (Lg : Int64) (p1 : Int32) {r : (Nat → Nat → Int32)} (h : f_M_sign MA MN p1 = some r) : Ev (d + 1, 0, 0, 26, 0, [.val (.ref 1088), .val (.int p1)], [], (126, 120, L, [Y, T, HA, HB, RA, RB, ST, NS, I0, I1, I2, BO, FI, RG, GU, PU, MA, MN, MS, OT, SC], [r0, r1, r2, r3, w, r5, r6, r7, r8], Lg)) ((0, none, (126, 120, L, [Y, T, HA, HB, RA, RB, ST, NS, I0, I1, I2, BO, FI, RG, GU, PU, MA, r, MS, OT, SC], [r0, r1, r2, r3, w, r5, r6, r7, r8], Lg)) : AOut) := by
  suffices key : ∀ o : AOut, ((0, none, (126, 120, L, [Y, T, HA, HB, RA, RB, ST, NS, I0, I1, I2, BO, FI, RG, GU, PU, MA, r, MS, OT, SC], [r0, r1, r2, r3, w, r5, r6, r7, r8], Lg)) : AOut) = o → Ev (d + 1, 0, 0, 26, 0, [.val (.ref 1088), .val (.int p1)], [], (126, 120, L, [Y, T, HA, HB, RA, RB, ST, NS, I0, I1, I2, BO, FI, RG, GU, PU, MA, MN, MS, OT, SC], [r0, r1, r2, r3, w, r5, r6, r7, r8], Lg)) o from key _ rfl
  intro o ho
  obtain ⟨x1, zh1, h⟩ := bnd h
  have zh1 : f_M_fine MN = some x1 := zh1
  have ze2 := R_f_M_fine_0 (d + 0) Y T HA HB RA RB ST NS I0 I1 I2 BO FI RG GU PU MA MN MS OT SC r0 r1 r2 r3 w r5 r6 r7 r8 L Lg zh1
  suffices e : Ev (d + 1, 0, 0, 26, 4, [.val (.ref 1088), .val (.int p1)], [.int x1], (126, 120, L, [Y, T, HA, HB, RA, RB, ST, NS, I0, I1, I2, BO, FI, RG, GU, PU, MA, MN, MS, OT, SC], [r0, r1, r2, r3, w, r5, r6, r7, r8], Lg)) o from ev_call (fun v μ => (d + 1, 0, 0, 26, 4, [.val (.ref 1088), .val (.int p1)], v.toList ++ [], μ)) 2 ze2 e (fun n => Eq.refl _)
  obtain ⟨zt3, zh4, h⟩ := bnd h
  have zj5 : ∀ (MN_5 : (Nat → Nat → Int32)), MN_5 = zt3 → Ev (d + 1, 0, 0, 26, 24, [.val (.ref 1088), .val (.int p1)], [], (126, 120, L, [Y, T, HA, HB, RA, RB, ST, NS, I0, I1, I2, BO, FI, RG, GU, PU, MA, MN_5, MS, OT, SC], [r0, r1, r2, r3, w, r5, r6, r7, r8], Lg)) o := by
    intro MN_5 ze6
    subst ze6
    obtain ⟨x6, zh7, h⟩ := bnd h
    have zh7 : f_M_fine MN_5 = some x6 := zh7
    have ze8 := R_f_M_fine_0 (d + 0) Y T HA HB RA RB ST NS I0 I1 I2 BO FI RG GU PU MA MN_5 MS OT SC r0 r1 r2 r3 w r5 r6 r7 r8 L Lg zh7
    suffices e : Ev (d + 1, 0, 0, 26, 28, [.val (.ref 1088), .val (.int p1)], [.int x6], (126, 120, L, [Y, T, HA, HB, RA, RB, ST, NS, I0, I1, I2, BO, FI, RG, GU, PU, MA, MN_5, MS, OT, SC], [r0, r1, r2, r3, w, r5, r6, r7, r8], Lg)) o from ev_call (fun v μ => (d + 1, 0, 0, 26, 28, [.val (.ref 1088), .val (.int p1)], v.toList ++ [], μ)) 2 ze8 e (fun n => Eq.refl _)
    by_cases zc9 : x6 = 0
    · have h := itp h zc9
      suffices e : Ev (d + 1, 0, 0, 26, 41, [.val (.ref 1088), .val (.int p1)], [], (126, 120, L, [Y, T, HA, HB, RA, RB, ST, NS, I0, I1, I2, BO, FI, RG, GU, PU, MA, MN_5, MS, OT, SC], [r0, r1, r2, r3, w, r5, r6, r7, r8], Lg)) o from ev_t (c := x6 = 0) _ _ 1  zc9 e (fun n => Eq.refl _)
      have ze10 := Option.some.inj h
      subst ze10
      exact ev_rete 1 ho (fun n => Eq.refl _)
    · have h := itn h zc9
      suffices e : Ev (d + 1, 0, 0, 26, 31, [.val (.ref 1088), .val (.int p1)], [], (126, 120, L, [Y, T, HA, HB, RA, RB, ST, NS, I0, I1, I2, BO, FI, RG, GU, PU, MA, MN_5, MS, OT, SC], [r0, r1, r2, r3, w, r5, r6, r7, r8], Lg)) o from ev_f (c := x6 = 0) _ _ 1  zc9 e (fun n => Eq.refl _)
      have ze11 := Option.some.inj h
      subst ze11
      exact ev_rete 7 ho (fun n => Eq.refl _)
  by_cases zc12 : x1 = 0
  · have zh4 := itp zh4 zc12
    suffices e : Ev (d + 1, 0, 0, 26, 24, [.val (.ref 1088), .val (.int p1)], [], (126, 120, L, [Y, T, HA, HB, RA, RB, ST, NS, I0, I1, I2, BO, FI, RG, GU, PU, MA, MN, MS, OT, SC], [r0, r1, r2, r3, w, r5, r6, r7, r8], Lg)) o from ev_t (c := x1 = 0) _ _ 1  zc12 e (fun n => Eq.refl _)
    exact ev_b 0 (zj5 MN (Option.some.inj zh4) ) (fun n => Eq.refl _)
  · have zh4 := itn zh4 zc12
    suffices e : Ev (d + 1, 0, 0, 26, 7, [.val (.ref 1088), .val (.int p1)], [], (126, 120, L, [Y, T, HA, HB, RA, RB, ST, NS, I0, I1, I2, BO, FI, RG, GU, PU, MA, MN, MS, OT, SC], [r0, r1, r2, r3, w, r5, r6, r7, r8], Lg)) o from ev_f (c := x1 = 0) _ _ 1  zc12 e (fun n => Eq.refl _)
    obtain ⟨⟨x2, MN_3⟩, zh13, zh4⟩ := bnd zh4
    have zh13 : f_M_here MA MN = some (x2, MN_3) := zh13
    have ze14 := R_f_M_here_0 (d + 0) Y T HA HB RA RB ST NS I0 I1 I2 BO FI RG GU PU MA MN MS OT SC r0 r1 r2 r3 w r5 r6 r7 r8 L Lg zh13
    suffices e : Ev (d + 1, 0, 0, 26, 11, [.val (.ref 1088), .val (.int p1)], [.int x2], (126, 120, L, [Y, T, HA, HB, RA, RB, ST, NS, I0, I1, I2, BO, FI, RG, GU, PU, MA, MN_3, MS, OT, SC], [r0, r1, r2, r3, w, r5, r6, r7, r8], Lg)) o from ev_call (fun v μ => (d + 1, 0, 0, 26, 11, [.val (.ref 1088), .val (.int p1)], v.toList ++ [], μ)) 2 ze14 e (fun n => Eq.refl _)
    by_cases zc15 : x2 = p1
    · have zh4 := itp zh4 zc15
      suffices e : Ev (d + 1, 0, 0, 26, 24, [.val (.ref 1088), .val (.int p1)], [], (126, 120, L, [Y, T, HA, HB, RA, RB, ST, NS, I0, I1, I2, BO, FI, RG, GU, PU, MA, MN_3, MS, OT, SC], [r0, r1, r2, r3, w, r5, r6, r7, r8], Lg)) o from ev_t (c := x2 = p1) _ _ 2  zc15 e (fun n => Eq.refl _)
      exact ev_b 0 (zj5 MN_3 (Option.some.inj zh4) ) (fun n => Eq.refl _)
    · have zh4 := itn zh4 zc15
      suffices e : Ev (d + 1, 0, 0, 26, 15, [.val (.ref 1088), .val (.int p1)], [], (126, 120, L, [Y, T, HA, HB, RA, RB, ST, NS, I0, I1, I2, BO, FI, RG, GU, PU, MA, MN_3, MS, OT, SC], [r0, r1, r2, r3, w, r5, r6, r7, r8], Lg)) o from ev_f (c := x2 = p1) _ _ 2  zc15 e (fun n => Eq.refl _)
      obtain ⟨MN_4, zh16, zh4⟩ := bnd zh4
      have zh16 : f_M_wrong MN_3 1 (MN_3 0 4) = some MN_4 := zh16
      have ze17 := R_f_M_wrong_0 (d + 0) Y T HA HB RA RB ST NS I0 I1 I2 BO FI RG GU PU MA MN_3 MS OT SC r0 r1 r2 r3 w r5 r6 r7 r8 L Lg 1 (MN_3 0 4) zh16
      suffices e : Ev (d + 1, 0, 0, 26, 24, [.val (.ref 1088), .val (.int p1)], [], (126, 120, L, [Y, T, HA, HB, RA, RB, ST, NS, I0, I1, I2, BO, FI, RG, GU, PU, MA, MN_4, MS, OT, SC], [r0, r1, r2, r3, w, r5, r6, r7, r8], Lg)) o from ev_call (fun v μ => (d + 1, 0, 0, 26, 24, [.val (.ref 1088), .val (.int p1)], v.toList ++ [], μ)) 5 ze17 e (fun n => Eq.refl _)
      exact ev_b 0 (zj5 MN_4 (Option.some.inj zh4) ) (fun n => Eq.refl _)
set_option maxRecDepth 1000000 in
set_option maxHeartbeats 4000000 in
theorem R_f_M_isMore_0 (d : Nat) (Y T HA HB RA RB ST NS I0 I1 I2 BO FI RG GU PU MA MN MS OT SC : Nat → Nat → Int32) (r0 r1 r2 r3 w r5 r6 r7 r8 : Nat) (L : Nat) (Lg : Int64) {r : Int32 × (Nat → Nat → Int32)} (h : f_M_isMore MA MN = some r) : Ev (d + 1, 0, 0, 27, 0, [.val (.ref 1088)], [], (126, 120, L, [Y, T, HA, HB, RA, RB, ST, NS, I0, I1, I2, BO, FI, RG, GU, PU, MA, MN, MS, OT, SC], [r0, r1, r2, r3, w, r5, r6, r7, r8], Lg)) ((0, some (.int r.1), (126, 120, L, [Y, T, HA, HB, RA, RB, ST, NS, I0, I1, I2, BO, FI, RG, GU, PU, MA, r.2, MS, OT, SC], [r0, r1, r2, r3, w, r5, r6, r7, r8], Lg)) : AOut) := by
  suffices key : ∀ o : AOut, ((0, some (.int r.1), (126, 120, L, [Y, T, HA, HB, RA, RB, ST, NS, I0, I1, I2, BO, FI, RG, GU, PU, MA, r.2, MS, OT, SC], [r0, r1, r2, r3, w, r5, r6, r7, r8], Lg)) : AOut) = o → Ev (d + 1, 0, 0, 27, 0, [.val (.ref 1088)], [], (126, 120, L, [Y, T, HA, HB, RA, RB, ST, NS, I0, I1, I2, BO, FI, RG, GU, PU, MA, MN, MS, OT, SC], [r0, r1, r2, r3, w, r5, r6, r7, r8], Lg)) o from key _ rfl
  intro o ho
  obtain ⟨⟨x1, MN_2⟩, zh1, h⟩ := bnd h
  have zh1 : f_M_here MA MN = some (x1, MN_2) := zh1
  have ze2 := R_f_M_here_0 (d + 0) Y T HA HB RA RB ST NS I0 I1 I2 BO FI RG GU PU MA MN MS OT SC r0 r1 r2 r3 w r5 r6 r7 r8 L Lg zh1
  suffices e : Ev (d + 1, 0, 0, 27, 4, [.val (.ref 1088)], [.int x1], (126, 120, L, [Y, T, HA, HB, RA, RB, ST, NS, I0, I1, I2, BO, FI, RG, GU, PU, MA, MN_2, MS, OT, SC], [r0, r1, r2, r3, w, r5, r6, r7, r8], Lg)) o from ev_call (fun v μ => (d + 1, 0, 0, 27, 4, [.val (.ref 1088)], v.toList ++ [], μ)) 2 ze2 e (fun n => Eq.refl _)
  by_cases zc3 : (MN_2 0 3) ≤ (MN_2 0 4)
  · have h := itp h zc3
    suffices e : Ev (d + 1, 0, 0, 27, 20, [.val (.ref 1088)], [], (126, 120, L, [Y, T, HA, HB, RA, RB, ST, NS, I0, I1, I2, BO, FI, RG, GU, PU, MA, MN_2, MS, OT, SC], [r0, r1, r2, r3, w, r5, r6, r7, r8], Lg)) o from ev_t (c := (MN_2 0 3) ≤ (MN_2 0 4)) _ _ 6  zc3 e (fun n => Eq.refl _)
    have ze4 := Option.some.inj h
    subst ze4
    exact ev_rete 2 ho (fun n => Eq.refl _)
  · have h := itn h zc3
    suffices e : Ev (d + 1, 0, 0, 27, 16, [.val (.ref 1088)], [], (126, 120, L, [Y, T, HA, HB, RA, RB, ST, NS, I0, I1, I2, BO, FI, RG, GU, PU, MA, MN_2, MS, OT, SC], [r0, r1, r2, r3, w, r5, r6, r7, r8], Lg)) o from ev_f (c := (MN_2 0 3) ≤ (MN_2 0 4)) _ _ 6  zc3 e (fun n => Eq.refl _)
    have ze5 := Option.some.inj h
    subst ze5
    exact ev_rete 3 ho (fun n => Eq.refl _)
set_option maxRecDepth 1000000 in
set_option maxHeartbeats 4000000 in
theorem R_f_M_begins_0 (d : Nat) (Y T HA HB RA RB ST NS I0 I1 I2 BO FI RG GU PU MA MN MS OT SC : Nat → Nat → Int32) (r0 r1 r2 r3 w r5 r6 r7 r8 : Nat) (L : Nat) (Lg : Int64) (p1 : Int32) {r : (Nat → Nat → Int32) × (Nat → Nat → Int32)} (h : f_M_begins MA MN p1 = some r) : Ev (d + 0, 0, 0, 28, 0, [.val (.ref 1088), .val (.int p1)], [], (126, 120, L, [Y, T, HA, HB, RA, RB, ST, NS, I0, I1, I2, BO, FI, RG, GU, PU, MA, MN, MS, OT, SC], [r0, r1, r2, r3, w, r5, r6, r7, r8], Lg)) ((0, none, (126, 120, L, [Y, T, HA, HB, RA, RB, ST, NS, I0, I1, I2, BO, FI, RG, GU, PU, r.1, r.2, MS, OT, SC], [r0, r1, r2, r3, w, r5, r6, r7, r8], Lg)) : AOut) := by
  suffices key : ∀ o : AOut, ((0, none, (126, 120, L, [Y, T, HA, HB, RA, RB, ST, NS, I0, I1, I2, BO, FI, RG, GU, PU, r.1, r.2, MS, OT, SC], [r0, r1, r2, r3, w, r5, r6, r7, r8], Lg)) : AOut) = o → Ev (d + 0, 0, 0, 28, 0, [.val (.ref 1088), .val (.int p1)], [], (126, 120, L, [Y, T, HA, HB, RA, RB, ST, NS, I0, I1, I2, BO, FI, RG, GU, PU, MA, MN, MS, OT, SC], [r0, r1, r2, r3, w, r5, r6, r7, r8], Lg)) o from key _ rfl
  intro o ho
  have ze1 := Option.some.inj h
  subst ze1
  exact ev_rete 19 ho (fun n => Eq.refl _)
set_option maxRecDepth 1000000 in
set_option maxHeartbeats 4000000 in
theorem R_f_M_result_0 (d : Nat) (Y T HA HB RA RB ST NS I0 I1 I2 BO FI RG GU PU MA MN MS OT SC : Nat → Nat → Int32) (r0 r1 r2 r3 w r5 r6 r7 r8 : Nat) (L : Nat) (Lg : Int64) (p1 : Int32) {r : Int32 × (Nat → Nat → Int32)} (h : f_M_result MA MN p1 = some r) : Ev (d + 1, 0, 0, 29, 0, [.val (.ref 1088), .val (.int p1)], [], (126, 120, L, [Y, T, HA, HB, RA, RB, ST, NS, I0, I1, I2, BO, FI, RG, GU, PU, MA, MN, MS, OT, SC], [r0, r1, r2, r3, w, r5, r6, r7, r8], Lg)) ((0, some (.int r.1), (126, 120, L, [Y, T, HA, HB, RA, RB, ST, NS, I0, I1, I2, BO, FI, RG, GU, PU, r.2, MN, MS, OT, SC], [r0, r1, r2, r3, w, r5, r6, r7, r8], Lg)) : AOut) := by
  suffices key : ∀ o : AOut, ((0, some (.int r.1), (126, 120, L, [Y, T, HA, HB, RA, RB, ST, NS, I0, I1, I2, BO, FI, RG, GU, PU, r.2, MN, MS, OT, SC], [r0, r1, r2, r3, w, r5, r6, r7, r8], Lg)) : AOut) = o → Ev (d + 1, 0, 0, 29, 0, [.val (.ref 1088), .val (.int p1)], [], (126, 120, L, [Y, T, HA, HB, RA, RB, ST, NS, I0, I1, I2, BO, FI, RG, GU, PU, MA, MN, MS, OT, SC], [r0, r1, r2, r3, w, r5, r6, r7, r8], Lg)) o from key _ rfl
  intro o ho
  obtain ⟨x1, zh1, h⟩ := bnd h
  have zh1 : f_M_fine MN = some x1 := zh1
  have ze2 := R_f_M_fine_0 (d + 0) Y T HA HB RA RB ST NS I0 I1 I2 BO FI RG GU PU (u2 MA 0 8 (MN 0 5)) MN MS OT SC r0 r1 r2 r3 w r5 r6 r7 r8 L Lg zh1
  suffices e : Ev (d + 1, 0, 0, 29, 12, [.val (.ref 1088), .val (.int p1)], [.int x1], (126, 120, L, [Y, T, HA, HB, RA, RB, ST, NS, I0, I1, I2, BO, FI, RG, GU, PU, (u2 MA 0 8 (MN 0 5)), MN, MS, OT, SC], [r0, r1, r2, r3, w, r5, r6, r7, r8], Lg)) o from ev_call (fun v μ => (d + 1, 0, 0, 29, 12, [.val (.ref 1088), .val (.int p1)], v.toList ++ [], μ)) 6 ze2 e (fun n => Eq.refl _)
  by_cases zc3 : x1 = 0
  · have h := itp h zc3
    suffices e : Ev (d + 1, 0, 0, 29, 19, [.val (.ref 1088), .val (.int p1)], [], (126, 120, L, [Y, T, HA, HB, RA, RB, ST, NS, I0, I1, I2, BO, FI, RG, GU, PU, (u2 MA 0 8 (MN 0 5)), MN, MS, OT, SC], [r0, r1, r2, r3, w, r5, r6, r7, r8], Lg)) o from ev_t (c := x1 = 0) _ _ 1  zc3 e (fun n => Eq.refl _)
    have ze4 := Option.some.inj h
    subst ze4
    exact ev_rete 5 ho (fun n => Eq.refl _)
  · have h := itn h zc3
    suffices e : Ev (d + 1, 0, 0, 29, 15, [.val (.ref 1088), .val (.int p1)], [], (126, 120, L, [Y, T, HA, HB, RA, RB, ST, NS, I0, I1, I2, BO, FI, RG, GU, PU, (u2 MA 0 8 (MN 0 5)), MN, MS, OT, SC], [r0, r1, r2, r3, w, r5, r6, r7, r8], Lg)) o from ev_f (c := x1 = 0) _ _ 1  zc3 e (fun n => Eq.refl _)
    have ze5 := Option.some.inj h
    subst ze5
    exact ev_rete 3 ho (fun n => Eq.refl _)
set_option maxRecDepth 1000000 in
set_option maxHeartbeats 4000000 in
theorem R_f_M_fault_0 (d : Nat) (Y T HA HB RA RB ST NS I0 I1 I2 BO FI RG GU PU MA MN MS OT SC : Nat → Nat → Int32) (r0 r1 r2 r3 w r5 r6 r7 r8 : Nat) (L : Nat) (Lg : Int64) {r : Int32 × (Nat → Nat → Int32)} (h : f_M_fault MA = some r) : Ev (d + 0, 0, 0, 30, 0, [.val (.ref 1088)], [], (126, 120, L, [Y, T, HA, HB, RA, RB, ST, NS, I0, I1, I2, BO, FI, RG, GU, PU, MA, MN, MS, OT, SC], [r0, r1, r2, r3, w, r5, r6, r7, r8], Lg)) ((0, some (.int r.1), (126, 120, L, [Y, T, HA, HB, RA, RB, ST, NS, I0, I1, I2, BO, FI, RG, GU, PU, r.2, MN, MS, OT, SC], [r0, r1, r2, r3, w, r5, r6, r7, r8], Lg)) : AOut) := by
  suffices key : ∀ o : AOut, ((0, some (.int r.1), (126, 120, L, [Y, T, HA, HB, RA, RB, ST, NS, I0, I1, I2, BO, FI, RG, GU, PU, r.2, MN, MS, OT, SC], [r0, r1, r2, r3, w, r5, r6, r7, r8], Lg)) : AOut) = o → Ev (d + 0, 0, 0, 30, 0, [.val (.ref 1088)], [], (126, 120, L, [Y, T, HA, HB, RA, RB, ST, NS, I0, I1, I2, BO, FI, RG, GU, PU, MA, MN, MS, OT, SC], [r0, r1, r2, r3, w, r5, r6, r7, r8], Lg)) o from key _ rfl
  intro o ho
  have ze1 := Option.some.inj h
  subst ze1
  exact ev_rete 6 ho (fun n => Eq.refl _)
set_option maxRecDepth 1000000 in
set_option maxHeartbeats 4000000 in
theorem R_f_M_clears_0 (d : Nat) (Y T HA HB RA RB ST NS I0 I1 I2 BO FI RG GU PU MA MN MS OT SC : Nat → Nat → Int32) (r0 r1 r2 r3 w r5 r6 r7 r8 : Nat) (L : Nat) (Lg : Int64) {r : (Nat → Nat → Int32)} (h : f_M_clears MN = some r) : Ev (d + 0, 0, 0, 31, 0, [.val (.ref 1088), .val a_unk], [], (126, 120, L, [Y, T, HA, HB, RA, RB, ST, NS, I0, I1, I2, BO, FI, RG, GU, PU, MA, MN, MS, OT, SC], [r0, r1, r2, r3, w, r5, r6, r7, r8], Lg)) ((0, none, (126, 120, L, [Y, T, HA, HB, RA, RB, ST, NS, I0, I1, I2, BO, FI, RG, GU, PU, MA, r, MS, OT, SC], [r0, r1, r2, r3, w, r5, r6, r7, r8], Lg)) : AOut) := by
  suffices key : ∀ o : AOut, ((0, none, (126, 120, L, [Y, T, HA, HB, RA, RB, ST, NS, I0, I1, I2, BO, FI, RG, GU, PU, MA, r, MS, OT, SC], [r0, r1, r2, r3, w, r5, r6, r7, r8], Lg)) : AOut) = o → Ev (d + 0, 0, 0, 31, 0, [.val (.ref 1088), .val a_unk], [], (126, 120, L, [Y, T, HA, HB, RA, RB, ST, NS, I0, I1, I2, BO, FI, RG, GU, PU, MA, MN, MS, OT, SC], [r0, r1, r2, r3, w, r5, r6, r7, r8], Lg)) o from key _ rfl
  intro o ho
  obtain ⟨MN_5, zh2, h⟩ := bnd h
  suffices e : Ev (d + 0, 0, 0, 31, 28, [.val (.ref 1088), .val (.int 0)], [], (126, 120, L, [Y, T, HA, HB, RA, RB, ST, NS, I0, I1, I2, BO, FI, RG, GU, PU, MA, (u2 (u2 (u2 (u2 (u2 MN 0 18 8) 0 19 0) 0 20 0) 0 21 0) 0 22 0), MS, OT, SC], [r0, r1, r2, r3, w, r5, r6, r7, r8], Lg)) o from ev_b 17 e (fun n => Eq.refl _)
  refine ev_loop (δ := Unit) (fun a j => (d + 0, 0, 0, 31, 28, [.val (.ref 1088), .val (.int a.1)], [], (126, 120, L, [Y, T, HA, HB, RA, RB, ST, NS, I0, I1, I2, BO, FI, RG, GU, PU, MA, a.2, MS, OT, SC], [r0, r1, r2, r3, w, r5, r6, r7, r8], Lg))) (fun b => ∀ s4 : Value, Ev (d + 0, 0, 0, 31, 47, [.val (.ref 1088), .val s4], [], (126, 120, L, [Y, T, HA, HB, RA, RB, ST, NS, I0, I1, I2, BO, FI, RG, GU, PU, MA, b, MS, OT, SC], [r0, r1, r2, r3, w, r5, r6, r7, r8], Lg)) o) ?_ a_F (0, (u2 (u2 (u2 (u2 (u2 MN 0 18 8) 0 19 0) 0 20 0) 0 21 0) 0 22 0)) MN_5 zh2 ?_ ()
  · rintro ⟨v1, MN_2⟩ zr6 zh5 zi3 zx4 ⟨⟩
    have zh5 : f_M_clears_l28 v1 MN_2 = some zr6 := zh5
    by_cases zc7 : 60 ≤ v1
    · have zh5 := itp zh5 zc7
      suffices e : Ev (d + 0, 0, 0, 31, 47, [.val (.ref 1088), .val (.int v1)], [], (126, 120, L, [Y, T, HA, HB, RA, RB, ST, NS, I0, I1, I2, BO, FI, RG, GU, PU, MA, MN_2, MS, OT, SC], [r0, r1, r2, r3, w, r5, r6, r7, r8], Lg)) o from ev_t (c := 60 ≤ v1) _ _ 3  zc7 e (fun n => Eq.refl _)
      exact ev_b 0 (zx4 _ (Option.some.inj zh5).symm (.int v1)) (fun n => Eq.refl _)
    · have zh5 := itn zh5 zc7
      suffices e : Ev (d + 0, 0, 0, 31, 34, [.val (.ref 1088), .val (.int v1)], [], (126, 120, L, [Y, T, HA, HB, RA, RB, ST, NS, I0, I1, I2, BO, FI, RG, GU, PU, MA, MN_2, MS, OT, SC], [r0, r1, r2, r3, w, r5, r6, r7, r8], Lg)) o from ev_f (c := 60 ≤ v1) _ _ 3  zc7 e (fun n => Eq.refl _)
      obtain ⟨j3, zh8, zh5⟩ := bnd zh5
      have zh8 : ixx 60 v1 = some j3 := zh8
      suffices e : Ev (d + 0, 0, 0, 31, 41, [.val (.ref 1088), .val (.int v1)], [], (126, 120, L, [Y, T, HA, HB, RA, RB, ST, NS, I0, I1, I2, BO, FI, RG, GU, PU, MA, (u2 MN_2 3 j3 0), MS, OT, SC], [r0, r1, r2, r3, w, r5, r6, r7, r8], Lg)) o from ev_opt (fun j3 => (d + 0, 0, 0, 31, 41, [.val (.ref 1088), .val (.int v1)], [], (126, 120, L, [Y, T, HA, HB, RA, RB, ST, NS, I0, I1, I2, BO, FI, RG, GU, PU, MA, (u2 MN_2 3 j3 0), MS, OT, SC], [r0, r1, r2, r3, w, r5, r6, r7, r8], Lg))) 5 zh8 e (fun n => Eq.refl _)
      exact ev_b 2 (zi3 _ (Option.some.inj zh5).symm ()) (fun n => Eq.refl _)
  · skip
    intro s4
    have ze9 := Option.some.inj h
    subst ze9
    exact ev_rete 1 ho (fun n => Eq.refl _)
set_option maxRecDepth 1000000 in
set_option maxHeartbeats 4000000 in
theorem R_f_M_sets_0 (d : Nat) (Y T HA HB RA RB ST NS I0 I1 I2 BO FI RG GU PU MA MN MS OT SC : Nat → Nat → Int32) (r0 r1 r2 r3 w r5 r6 r7 r8 : Nat) (L : Nat) (Lg : Int64) {r : (Nat → Nat → Int32)} (h : f_M_sets MA MN = some r) : Ev (d + 1, 0, 0, 33, 0, [.val (.ref 1088), .val a_unk], [], (126, 120, L, [Y, T, HA, HB, RA, RB, ST, NS, I0, I1, I2, BO, FI, RG, GU, PU, MA, MN, MS, OT, SC], [r0, r1, r2, r3, w, r5, r6, r7, r8], Lg)) ((0, none, (126, 120, L, [Y, T, HA, HB, RA, RB, ST, NS, I0, I1, I2, BO, FI, RG, GU, PU, r, MN, MS, OT, SC], [r0, r1, r2, r3, w, r5, r6, r7, r8], Lg)) : AOut) := by
  suffices key : ∀ o : AOut, ((0, none, (126, 120, L, [Y, T, HA, HB, RA, RB, ST, NS, I0, I1, I2, BO, FI, RG, GU, PU, r, MN, MS, OT, SC], [r0, r1, r2, r3, w, r5, r6, r7, r8], Lg)) : AOut) = o → Ev (d + 1, 0, 0, 33, 0, [.val (.ref 1088), .val a_unk], [], (126, 120, L, [Y, T, HA, HB, RA, RB, ST, NS, I0, I1, I2, BO, FI, RG, GU, PU, MA, MN, MS, OT, SC], [r0, r1, r2, r3, w, r5, r6, r7, r8], Lg)) o from key _ rfl
  intro o ho
  obtain ⟨x1, zh1, h⟩ := bnd h
  have ze2 := R_copies (d + 0) 1153 1091 3 [Y, T, HA, HB, RA, RB, ST, NS, I0, I1, I2, BO, FI, RG, GU, PU, (u2 (u2 (u2 (u2 (u2 MA 0 23 (MN 0 18)) 0 24 (MN 0 19)) 0 25 (MN 0 20)) 0 26 (MN 0 21)) 0 27 (MN 0 22)), MN, MS, OT, SC] [r0, r1, r2, r3, w, r5, r6, r7, r8] (.ref 1088) L Lg 126 120 rfl rfl rfl rfl (Nat.le_of_ble_eq_true rfl) (Nat.le_of_ble_eq_true rfl) (Nat.le_of_ble_eq_true rfl) zh1
  suffices e : Ev (d + 1, 0, 0, 33, 53, [.val (.ref 1088), .val a_unk], [], (126, 120, L, [Y, T, HA, HB, RA, RB, ST, NS, I0, I1, I2, BO, FI, RG, GU, PU, (u1 (u2 (u2 (u2 (u2 (u2 MA 0 23 (MN 0 18)) 0 24 (MN 0 19)) 0 25 (MN 0 20)) 0 26 (MN 0 21)) 0 27 (MN 0 22)) 3 x1), MN, MS, OT, SC], [r0, r1, r2, r3, w, r5, r6, r7, r8], Lg)) o from ev_call (fun v μ => (d + 1, 0, 0, 33, 53, [.val (.ref 1088), .val a_unk], v.toList ++ [], μ)) 27 ze2 e (fun n => Eq.refl _)
  obtain ⟨x2, zh3, h⟩ := bnd h
  have ze4 := R_copies (d + 0) 1154 1092 24 [Y, T, HA, HB, RA, RB, ST, NS, I0, I1, I2, BO, FI, RG, GU, PU, (u1 (u2 (u2 (u2 (u2 (u2 MA 0 23 (MN 0 18)) 0 24 (MN 0 19)) 0 25 (MN 0 20)) 0 26 (MN 0 21)) 0 27 (MN 0 22)) 3 x1), MN, MS, OT, SC] [r0, r1, r2, r3, w, r5, r6, r7, r8] (.ref 1088) L Lg 126 120 rfl rfl rfl rfl (Nat.le_of_ble_eq_true rfl) (Nat.le_of_ble_eq_true rfl) (Nat.le_of_ble_eq_true rfl) zh3
  suffices e : Ev (d + 1, 0, 0, 33, 67, [.val (.ref 1088), .val a_unk], [], (126, 120, L, [Y, T, HA, HB, RA, RB, ST, NS, I0, I1, I2, BO, FI, RG, GU, PU, (u1 (u1 (u2 (u2 (u2 (u2 (u2 MA 0 23 (MN 0 18)) 0 24 (MN 0 19)) 0 25 (MN 0 20)) 0 26 (MN 0 21)) 0 27 (MN 0 22)) 3 x1) 4 x2), MN, MS, OT, SC], [r0, r1, r2, r3, w, r5, r6, r7, r8], Lg)) o from ev_call (fun v μ => (d + 1, 0, 0, 33, 67, [.val (.ref 1088), .val a_unk], v.toList ++ [], μ)) 7 ze4 e (fun n => Eq.refl _)
  obtain ⟨x3, zh5, h⟩ := bnd h
  have ze6 := R_copies (d + 0) 1155 1093 60 [Y, T, HA, HB, RA, RB, ST, NS, I0, I1, I2, BO, FI, RG, GU, PU, (u1 (u1 (u2 (u2 (u2 (u2 (u2 MA 0 23 (MN 0 18)) 0 24 (MN 0 19)) 0 25 (MN 0 20)) 0 26 (MN 0 21)) 0 27 (MN 0 22)) 3 x1) 4 x2), MN, MS, OT, SC] [r0, r1, r2, r3, w, r5, r6, r7, r8] (.ref 1088) L Lg 126 120 rfl rfl rfl rfl (Nat.le_of_ble_eq_true rfl) (Nat.le_of_ble_eq_true rfl) (Nat.le_of_ble_eq_true rfl) zh5
  suffices e : Ev (d + 1, 0, 0, 33, 81, [.val (.ref 1088), .val a_unk], [], (126, 120, L, [Y, T, HA, HB, RA, RB, ST, NS, I0, I1, I2, BO, FI, RG, GU, PU, (u1 (u1 (u1 (u2 (u2 (u2 (u2 (u2 MA 0 23 (MN 0 18)) 0 24 (MN 0 19)) 0 25 (MN 0 20)) 0 26 (MN 0 21)) 0 27 (MN 0 22)) 3 x1) 4 x2) 5 x3), MN, MS, OT, SC], [r0, r1, r2, r3, w, r5, r6, r7, r8], Lg)) o from ev_call (fun v μ => (d + 1, 0, 0, 33, 81, [.val (.ref 1088), .val a_unk], v.toList ++ [], μ)) 7 ze6 e (fun n => Eq.refl _)
  obtain ⟨x4, zh7, h⟩ := bnd h
  have ze8 := R_copies (d + 0) 1156 1094 16 [Y, T, HA, HB, RA, RB, ST, NS, I0, I1, I2, BO, FI, RG, GU, PU, (u1 (u1 (u1 (u2 (u2 (u2 (u2 (u2 MA 0 23 (MN 0 18)) 0 24 (MN 0 19)) 0 25 (MN 0 20)) 0 26 (MN 0 21)) 0 27 (MN 0 22)) 3 x1) 4 x2) 5 x3), MN, MS, OT, SC] [r0, r1, r2, r3, w, r5, r6, r7, r8] (.ref 1088) L Lg 126 120 rfl rfl rfl rfl (Nat.le_of_ble_eq_true rfl) (Nat.le_of_ble_eq_true rfl) (Nat.le_of_ble_eq_true rfl) zh7
  suffices e : Ev (d + 1, 0, 0, 33, 95, [.val (.ref 1088), .val a_unk], [], (126, 120, L, [Y, T, HA, HB, RA, RB, ST, NS, I0, I1, I2, BO, FI, RG, GU, PU, (u1 (u1 (u1 (u1 (u2 (u2 (u2 (u2 (u2 MA 0 23 (MN 0 18)) 0 24 (MN 0 19)) 0 25 (MN 0 20)) 0 26 (MN 0 21)) 0 27 (MN 0 22)) 3 x1) 4 x2) 5 x3) 6 x4), MN, MS, OT, SC], [r0, r1, r2, r3, w, r5, r6, r7, r8], Lg)) o from ev_call (fun v μ => (d + 1, 0, 0, 33, 95, [.val (.ref 1088), .val a_unk], v.toList ++ [], μ)) 7 ze8 e (fun n => Eq.refl _)
  obtain ⟨MA_14, zh10, h⟩ := bnd h
  suffices e : Ev (d + 1, 0, 0, 33, 97, [.val (.ref 1088), .val (.int 0)], [], (126, 120, L, [Y, T, HA, HB, RA, RB, ST, NS, I0, I1, I2, BO, FI, RG, GU, PU, (u1 (u1 (u1 (u1 (u2 (u2 (u2 (u2 (u2 MA 0 23 (MN 0 18)) 0 24 (MN 0 19)) 0 25 (MN 0 20)) 0 26 (MN 0 21)) 0 27 (MN 0 22)) 3 x1) 4 x2) 5 x3) 6 x4), MN, MS, OT, SC], [r0, r1, r2, r3, w, r5, r6, r7, r8], Lg)) o from ev_b 2 e (fun n => Eq.refl _)
  refine ev_loop (δ := Unit) (fun a j => (d + 1, 0, 0, 33, 97, [.val (.ref 1088), .val (.int a.1)], [], (126, 120, L, [Y, T, HA, HB, RA, RB, ST, NS, I0, I1, I2, BO, FI, RG, GU, PU, a.2, MN, MS, OT, SC], [r0, r1, r2, r3, w, r5, r6, r7, r8], Lg))) (fun b => ∀ s13 : Value, Ev (d + 1, 0, 0, 33, 165, [.val (.ref 1088), .val s13], [], (126, 120, L, [Y, T, HA, HB, RA, RB, ST, NS, I0, I1, I2, BO, FI, RG, GU, PU, b, MN, MS, OT, SC], [r0, r1, r2, r3, w, r5, r6, r7, r8], Lg)) o) ?_ a_F (0, (u1 (u1 (u1 (u1 (u2 (u2 (u2 (u2 (u2 MA 0 23 (MN 0 18)) 0 24 (MN 0 19)) 0 25 (MN 0 20)) 0 26 (MN 0 21)) 0 27 (MN 0 22)) 3 x1) 4 x2) 5 x3) 6 x4)) MA_14 zh10 ?_ ()
  · rintro ⟨v5, MA_6⟩ zr14 zh13 zi11 zx12 ⟨⟩
    have zh13 : f_M_sets_l97 v5 MA_6 = some zr14 := zh13
    by_cases zc15 : 10 ≤ v5
    · have zh13 := itp zh13 zc15
      suffices e : Ev (d + 1, 0, 0, 33, 165, [.val (.ref 1088), .val (.int v5)], [], (126, 120, L, [Y, T, HA, HB, RA, RB, ST, NS, I0, I1, I2, BO, FI, RG, GU, PU, MA_6, MN, MS, OT, SC], [r0, r1, r2, r3, w, r5, r6, r7, r8], Lg)) o from ev_t (c := 10 ≤ v5) _ _ 3  zc15 e (fun n => Eq.refl _)
      exact ev_b 0 (zx12 _ (Option.some.inj zh13).symm (.int v5)) (fun n => Eq.refl _)
    · have zh13 := itn zh13 zc15
      suffices e : Ev (d + 1, 0, 0, 33, 103, [.val (.ref 1088), .val (.int v5)], [], (126, 120, L, [Y, T, HA, HB, RA, RB, ST, NS, I0, I1, I2, BO, FI, RG, GU, PU, MA_6, MN, MS, OT, SC], [r0, r1, r2, r3, w, r5, r6, r7, r8], Lg)) o from ev_f (c := 10 ≤ v5) _ _ 3  zc15 e (fun n => Eq.refl _)
      obtain ⟨zt16, zh17, zh13⟩ := bnd zh13
      have zj18 : ∀ (v8 : Int32), v8 = zt16 → Ev (d + 1, 0, 0, 33, 129, [.val (.ref 1088), .val (.int v5)], [.int v8, .int v5, .ref 1095], (126, 120, L, [Y, T, HA, HB, RA, RB, ST, NS, I0, I1, I2, BO, FI, RG, GU, PU, MA_6, MN, MS, OT, SC], [r0, r1, r2, r3, w, r5, r6, r7, r8], Lg)) o := by
        intro v8 ze19
        subst ze19
        obtain ⟨j9, zh20, zh13⟩ := bnd zh13
        have zh20 : ixx 10 v5 = some j9 := zh20
        suffices e : Ev (d + 1, 0, 0, 33, 130, [.val (.ref 1088), .val (.int v5)], [], (126, 120, L, [Y, T, HA, HB, RA, RB, ST, NS, I0, I1, I2, BO, FI, RG, GU, PU, (u2 MA_6 7 j9 v8), MN, MS, OT, SC], [r0, r1, r2, r3, w, r5, r6, r7, r8], Lg)) o from ev_opt (fun j9 => (d + 1, 0, 0, 33, 130, [.val (.ref 1088), .val (.int v5)], [], (126, 120, L, [Y, T, HA, HB, RA, RB, ST, NS, I0, I1, I2, BO, FI, RG, GU, PU, (u2 MA_6 7 j9 v8), MN, MS, OT, SC], [r0, r1, r2, r3, w, r5, r6, r7, r8], Lg))) 1 zh20 e (fun n => Eq.refl _)
        obtain ⟨zt21, zh22, zh13⟩ := bnd zh13
        have zj23 : ∀ (v11 : Int32), v11 = zt21 → Ev (d + 1, 0, 0, 33, 158, [.val (.ref 1088), .val (.int v5)], [.int v11, .int v5, .ref 1096], (126, 120, L, [Y, T, HA, HB, RA, RB, ST, NS, I0, I1, I2, BO, FI, RG, GU, PU, (u2 MA_6 7 j9 v8), MN, MS, OT, SC], [r0, r1, r2, r3, w, r5, r6, r7, r8], Lg)) o := by
          intro v11 ze24
          subst ze24
          obtain ⟨j12, zh25, zh13⟩ := bnd zh13
          have zh25 : ixx 10 v5 = some j12 := zh25
          suffices e : Ev (d + 1, 0, 0, 33, 159, [.val (.ref 1088), .val (.int v5)], [], (126, 120, L, [Y, T, HA, HB, RA, RB, ST, NS, I0, I1, I2, BO, FI, RG, GU, PU, (u2 (u2 MA_6 7 j9 v8) 8 j12 v11), MN, MS, OT, SC], [r0, r1, r2, r3, w, r5, r6, r7, r8], Lg)) o from ev_opt (fun j12 => (d + 1, 0, 0, 33, 159, [.val (.ref 1088), .val (.int v5)], [], (126, 120, L, [Y, T, HA, HB, RA, RB, ST, NS, I0, I1, I2, BO, FI, RG, GU, PU, (u2 (u2 MA_6 7 j9 v8) 8 j12 v11), MN, MS, OT, SC], [r0, r1, r2, r3, w, r5, r6, r7, r8], Lg))) 1 zh25 e (fun n => Eq.refl _)
          exact ev_b 2 (zi11 _ (Option.some.inj zh13).symm ()) (fun n => Eq.refl _)
        by_cases zc26 : ((u2 MA_6 7 j9 v8) 0 26) ≤ v5
        · have zh22 := itp zh22 zc26
          suffices e : Ev (d + 1, 0, 0, 33, 157, [.val (.ref 1088), .val (.int v5)], [.int v5, .ref 1096], (126, 120, L, [Y, T, HA, HB, RA, RB, ST, NS, I0, I1, I2, BO, FI, RG, GU, PU, (u2 MA_6 7 j9 v8), MN, MS, OT, SC], [r0, r1, r2, r3, w, r5, r6, r7, r8], Lg)) o from ev_t (c := ((u2 MA_6 7 j9 v8) 0 26) ≤ v5) _ _ 7  zc26 e (fun n => Eq.refl _)
          exact ev_b 1 (zj23 0 (Option.some.inj zh22) ) (fun n => Eq.refl _)
        · have zh22 := itn zh22 zc26
          suffices e : Ev (d + 1, 0, 0, 33, 143, [.val (.ref 1088), .val (.int v5)], [.int v5, .ref 1096], (126, 120, L, [Y, T, HA, HB, RA, RB, ST, NS, I0, I1, I2, BO, FI, RG, GU, PU, (u2 MA_6 7 j9 v8), MN, MS, OT, SC], [r0, r1, r2, r3, w, r5, r6, r7, r8], Lg)) o from ev_f (c := ((u2 MA_6 7 j9 v8) 0 26) ≤ v5) _ _ 7  zc26 e (fun n => Eq.refl _)
          obtain ⟨x10, zh27, zh22⟩ := bnd zh22
          have zh27 : rdx ((u2 MA_6 7 j9 v8) 5) 60 ((6 * v5) + 5) = some x10 := zh27
          suffices e : Ev (d + 1, 0, 0, 33, 154, [.val (.ref 1088), .val (.int v5)], [.int x10, .int v5, .ref 1096], (126, 120, L, [Y, T, HA, HB, RA, RB, ST, NS, I0, I1, I2, BO, FI, RG, GU, PU, (u2 MA_6 7 j9 v8), MN, MS, OT, SC], [r0, r1, r2, r3, w, r5, r6, r7, r8], Lg)) o from ev_opt (fun x10 => (d + 1, 0, 0, 33, 154, [.val (.ref 1088), .val (.int v5)], [.int x10, .int v5, .ref 1096], (126, 120, L, [Y, T, HA, HB, RA, RB, ST, NS, I0, I1, I2, BO, FI, RG, GU, PU, (u2 MA_6 7 j9 v8), MN, MS, OT, SC], [r0, r1, r2, r3, w, r5, r6, r7, r8], Lg))) 8 zh27 e (fun n => Eq.refl _)
          exact ev_b 1 (zj23 x10 (Option.some.inj zh22) ) (fun n => Eq.refl _)
      by_cases zc28 : (MA_6 0 26) ≤ v5
      · have zh17 := itp zh17 zc28
        suffices e : Ev (d + 1, 0, 0, 33, 128, [.val (.ref 1088), .val (.int v5)], [.int v5, .ref 1095], (126, 120, L, [Y, T, HA, HB, RA, RB, ST, NS, I0, I1, I2, BO, FI, RG, GU, PU, MA_6, MN, MS, OT, SC], [r0, r1, r2, r3, w, r5, r6, r7, r8], Lg)) o from ev_t (c := (MA_6 0 26) ≤ v5) _ _ 7  zc28 e (fun n => Eq.refl _)
        exact ev_b 1 (zj18 (-1) (Option.some.inj zh17) ) (fun n => Eq.refl _)
      · have zh17 := itn zh17 zc28
        suffices e : Ev (d + 1, 0, 0, 33, 116, [.val (.ref 1088), .val (.int v5)], [.int v5, .ref 1095], (126, 120, L, [Y, T, HA, HB, RA, RB, ST, NS, I0, I1, I2, BO, FI, RG, GU, PU, MA_6, MN, MS, OT, SC], [r0, r1, r2, r3, w, r5, r6, r7, r8], Lg)) o from ev_f (c := (MA_6 0 26) ≤ v5) _ _ 7  zc28 e (fun n => Eq.refl _)
        obtain ⟨x7, zh29, zh17⟩ := bnd zh17
        have zh29 : rdx (MA_6 5) 60 (6 * v5) = some x7 := zh29
        suffices e : Ev (d + 1, 0, 0, 33, 125, [.val (.ref 1088), .val (.int v5)], [.int x7, .int v5, .ref 1095], (126, 120, L, [Y, T, HA, HB, RA, RB, ST, NS, I0, I1, I2, BO, FI, RG, GU, PU, MA_6, MN, MS, OT, SC], [r0, r1, r2, r3, w, r5, r6, r7, r8], Lg)) o from ev_opt (fun x7 => (d + 1, 0, 0, 33, 125, [.val (.ref 1088), .val (.int v5)], [.int x7, .int v5, .ref 1095], (126, 120, L, [Y, T, HA, HB, RA, RB, ST, NS, I0, I1, I2, BO, FI, RG, GU, PU, MA_6, MN, MS, OT, SC], [r0, r1, r2, r3, w, r5, r6, r7, r8], Lg))) 6 zh29 e (fun n => Eq.refl _)
        exact ev_b 1 (zj18 x7 (Option.some.inj zh17) ) (fun n => Eq.refl _)
  · skip
    intro s13
    have ze30 := Option.some.inj h
    subst ze30
    exact ev_rete 13 ho (fun n => Eq.refl _)
set_option maxRecDepth 1000000 in
set_option maxHeartbeats 4000000 in
theorem R_f_M_readHour_0 (d : Nat) (Y T HA HB RA RB ST NS I0 I1 I2 BO FI RG GU PU MA MN MS OT SC : Nat → Nat → Int32) (r0 r1 r2 r3 w r5 r6 r7 r8 : Nat) (L : Nat) (Lg : Int64) {r : Int32 × (Nat → Nat → Int32)} (h : f_M_readHour MA MN = some r) : Ev (d + 2, 0, 0, 34, 0, [.val (.ref 1088)], [], (126, 120, L, [Y, T, HA, HB, RA, RB, ST, NS, I0, I1, I2, BO, FI, RG, GU, PU, MA, MN, MS, OT, SC], [r0, r1, r2, r3, w, r5, r6, r7, r8], Lg)) ((0, some (.int r.1), (126, 120, L, [Y, T, HA, HB, RA, RB, ST, NS, I0, I1, I2, BO, FI, RG, GU, PU, MA, r.2, MS, OT, SC], [r0, r1, r2, r3, w, r5, r6, r7, r8], Lg)) : AOut) := by
  suffices key : ∀ o : AOut, ((0, some (.int r.1), (126, 120, L, [Y, T, HA, HB, RA, RB, ST, NS, I0, I1, I2, BO, FI, RG, GU, PU, MA, r.2, MS, OT, SC], [r0, r1, r2, r3, w, r5, r6, r7, r8], Lg)) : AOut) = o → Ev (d + 2, 0, 0, 34, 0, [.val (.ref 1088)], [], (126, 120, L, [Y, T, HA, HB, RA, RB, ST, NS, I0, I1, I2, BO, FI, RG, GU, PU, MA, MN, MS, OT, SC], [r0, r1, r2, r3, w, r5, r6, r7, r8], Lg)) o from key _ rfl
  intro o ho
  obtain ⟨⟨x1, MN_2⟩, zh1, h⟩ := bnd h
  have zh1 : f_M_readNumber MA MN 0 ((MN 0 18) - 1) = some (x1, MN_2) := zh1
  have ze2 := R_f_M_readNumber_0 (d + 0) Y T HA HB RA RB ST NS I0 I1 I2 BO FI RG GU PU MA MN MS OT SC r0 r1 r2 r3 w r5 r6 r7 r8 L Lg 0 ((MN 0 18) - 1) zh1
  suffices e : Ev (d + 2, 0, 0, 34, 11, [.val (.ref 1088)], [.int x1], (126, 120, L, [Y, T, HA, HB, RA, RB, ST, NS, I0, I1, I2, BO, FI, RG, GU, PU, MA, MN_2, MS, OT, SC], [r0, r1, r2, r3, w, r5, r6, r7, r8], Lg)) o from ev_call (fun v μ => (d + 2, 0, 0, 34, 11, [.val (.ref 1088)], v.toList ++ [], μ)) 7 ze2 e (fun n => Eq.refl _)
  have ze3 := Option.some.inj h
  subst ze3
  exact ev_rete 1 ho (fun n => Eq.refl _)
set_option maxRecDepth 1000000 in
set_option maxHeartbeats 4000000 in
theorem R_f_M_readMeeting_0 (d : Nat) (Y T HA HB RA RB ST NS I0 I1 I2 BO FI RG GU PU MA MN MS OT SC : Nat → Nat → Int32) (r0 r1 r2 r3 w r5 r6 r7 r8 : Nat) (L : Nat) (Lg : Int64) {r : Int32 × (Nat → Nat → Int32)} (h : f_M_readMeeting MA MN = some r) : Ev (d + 2, 0, 0, 35, 0, [.val (.ref 1088)], [], (126, 120, L, [Y, T, HA, HB, RA, RB, ST, NS, I0, I1, I2, BO, FI, RG, GU, PU, MA, MN, MS, OT, SC], [r0, r1, r2, r3, w, r5, r6, r7, r8], Lg)) ((0, some (.int r.1), (126, 120, L, [Y, T, HA, HB, RA, RB, ST, NS, I0, I1, I2, BO, FI, RG, GU, PU, MA, r.2, MS, OT, SC], [r0, r1, r2, r3, w, r5, r6, r7, r8], Lg)) : AOut) := by
  suffices key : ∀ o : AOut, ((0, some (.int r.1), (126, 120, L, [Y, T, HA, HB, RA, RB, ST, NS, I0, I1, I2, BO, FI, RG, GU, PU, MA, r.2, MS, OT, SC], [r0, r1, r2, r3, w, r5, r6, r7, r8], Lg)) : AOut) = o → Ev (d + 2, 0, 0, 35, 0, [.val (.ref 1088)], [], (126, 120, L, [Y, T, HA, HB, RA, RB, ST, NS, I0, I1, I2, BO, FI, RG, GU, PU, MA, MN, MS, OT, SC], [r0, r1, r2, r3, w, r5, r6, r7, r8], Lg)) o from key _ rfl
  intro o ho
  obtain ⟨⟨x1, MN_2⟩, zh1, h⟩ := bnd h
  have zh1 : f_M_readNumber MA MN 0 ((MN 0 21) - 1) = some (x1, MN_2) := zh1
  have ze2 := R_f_M_readNumber_0 (d + 0) Y T HA HB RA RB ST NS I0 I1 I2 BO FI RG GU PU MA MN MS OT SC r0 r1 r2 r3 w r5 r6 r7 r8 L Lg 0 ((MN 0 21) - 1) zh1
  suffices e : Ev (d + 2, 0, 0, 35, 11, [.val (.ref 1088)], [.int x1], (126, 120, L, [Y, T, HA, HB, RA, RB, ST, NS, I0, I1, I2, BO, FI, RG, GU, PU, MA, MN_2, MS, OT, SC], [r0, r1, r2, r3, w, r5, r6, r7, r8], Lg)) o from ev_call (fun v μ => (d + 2, 0, 0, 35, 11, [.val (.ref 1088)], v.toList ++ [], μ)) 7 ze2 e (fun n => Eq.refl _)
  have ze3 := Option.some.inj h
  subst ze3
  exact ev_rete 1 ho (fun n => Eq.refl _)
set_option maxRecDepth 1000000 in
set_option maxHeartbeats 4000000 in
theorem R_f_M_range_0 (d : Nat) (Y T HA HB RA RB ST NS I0 I1 I2 BO FI RG GU PU MA MN MS OT SC : Nat → Nat → Int32) (r0 r1 r2 r3 w r5 r6 r7 r8 : Nat) (L : Nat) (Lg : Int64) (p0 : Int32) (p1 : Int32) {r : Int32} (h : f_M_range p0 p1 = some r) : Ev (d + 0, 0, 0, 36, 0, [.val (.int p0), .val (.int p1)], [], (126, 120, L, [Y, T, HA, HB, RA, RB, ST, NS, I0, I1, I2, BO, FI, RG, GU, PU, MA, MN, MS, OT, SC], [r0, r1, r2, r3, w, r5, r6, r7, r8], Lg)) ((0, some (.int r), (126, 120, L, [Y, T, HA, HB, RA, RB, ST, NS, I0, I1, I2, BO, FI, RG, GU, PU, MA, MN, MS, OT, SC], [r0, r1, r2, r3, w, r5, r6, r7, r8], Lg)) : AOut) := by
  suffices key : ∀ o : AOut, ((0, some (.int r), (126, 120, L, [Y, T, HA, HB, RA, RB, ST, NS, I0, I1, I2, BO, FI, RG, GU, PU, MA, MN, MS, OT, SC], [r0, r1, r2, r3, w, r5, r6, r7, r8], Lg)) : AOut) = o → Ev (d + 0, 0, 0, 36, 0, [.val (.int p0), .val (.int p1)], [], (126, 120, L, [Y, T, HA, HB, RA, RB, ST, NS, I0, I1, I2, BO, FI, RG, GU, PU, MA, MN, MS, OT, SC], [r0, r1, r2, r3, w, r5, r6, r7, r8], Lg)) o from key _ rfl
  intro o ho
  have ze1 := Option.some.inj h
  subst ze1
  exact ev_rete 10 ho (fun n => Eq.refl _)
set_option maxRecDepth 1000000 in
set_option maxHeartbeats 4000000 in
theorem R_f_M_readPlaces_0 (d : Nat) (Y T HA HB RA RB ST NS I0 I1 I2 BO FI RG GU PU MA MN MS OT SC : Nat → Nat → Int32) (r0 r1 r2 r3 w r5 r6 r7 r8 : Nat) (L : Nat) (Lg : Int64) (p1 : Int32) {r : (Nat → Nat → Int32)} (h : f_M_readPlaces MA MN p1 = some r) : Ev (d + 5, 0, 0, 37, 0, [.val (.ref 1088), .val (.int p1), .val a_unk, .val a_unk, .val a_unk], [], (126, 120, L, [Y, T, HA, HB, RA, RB, ST, NS, I0, I1, I2, BO, FI, RG, GU, PU, MA, MN, MS, OT, SC], [r0, r1, r2, r3, w, r5, r6, r7, r8], Lg)) ((0, none, (126, 120, L, [Y, T, HA, HB, RA, RB, ST, NS, I0, I1, I2, BO, FI, RG, GU, PU, MA, r, MS, OT, SC], [r0, r1, r2, r3, w, r5, r6, r7, r8], Lg)) : AOut) := by
  suffices key : ∀ o : AOut, ((0, none, (126, 120, L, [Y, T, HA, HB, RA, RB, ST, NS, I0, I1, I2, BO, FI, RG, GU, PU, MA, r, MS, OT, SC], [r0, r1, r2, r3, w, r5, r6, r7, r8], Lg)) : AOut) = o → Ev (d + 5, 0, 0, 37, 0, [.val (.ref 1088), .val (.int p1), .val a_unk, .val a_unk, .val a_unk], [], (126, 120, L, [Y, T, HA, HB, RA, RB, ST, NS, I0, I1, I2, BO, FI, RG, GU, PU, MA, MN, MS, OT, SC], [r0, r1, r2, r3, w, r5, r6, r7, r8], Lg)) o from key _ rfl
  intro o ho
  obtain ⟨x1, zh1, h⟩ := bnd h
  have zh1 : f_M_of 2647 = some x1 := zh1
  have ze2 := R_f_M_of_0 (d + 0) Y T HA HB RA RB ST NS I0 I1 I2 BO FI RG GU PU MA MN MS OT SC r0 r1 r2 r3 w r5 r6 r7 r8 L Lg 2647 zh1
  suffices e : Ev (d + 5, 0, 0, 37, 6, [.val (.ref 1088), .val (.int p1), .val a_unk, .val a_unk, .val a_unk], [.int x1, .int p1], (126, 120, L, [Y, T, HA, HB, RA, RB, ST, NS, I0, I1, I2, BO, FI, RG, GU, PU, MA, MN, MS, OT, SC], [r0, r1, r2, r3, w, r5, r6, r7, r8], Lg)) o from ev_call (fun v μ => (d + 5, 0, 0, 37, 6, [.val (.ref 1088), .val (.int p1), .val a_unk, .val a_unk, .val a_unk], v.toList ++ [.int p1], μ)) 3 ze2 e (fun n => Eq.refl _)
  by_cases zc3 : p1 ≠ x1
  · have h := itp h zc3
    suffices e : Ev (d + 5, 0, 0, 37, 68, [.val (.ref 1088), .val (.int p1), .val a_unk, .val a_unk, .val a_unk], [], (126, 120, L, [Y, T, HA, HB, RA, RB, ST, NS, I0, I1, I2, BO, FI, RG, GU, PU, MA, MN, MS, OT, SC], [r0, r1, r2, r3, w, r5, r6, r7, r8], Lg)) o from ev_t (c := p1 ≠ x1) _ _ 1  zc3 e (fun n => Eq.refl _)
    obtain ⟨x2, zh4, h⟩ := bnd h
    have zh4 : f_M_of 2648 = some x2 := zh4
    have ze5 := R_f_M_of_0 (d + 0) Y T HA HB RA RB ST NS I0 I1 I2 BO FI RG GU PU MA MN MS OT SC r0 r1 r2 r3 w r5 r6 r7 r8 L Lg 2648 zh4
    suffices e : Ev (d + 5, 0, 0, 37, 74, [.val (.ref 1088), .val (.int p1), .val a_unk, .val a_unk, .val a_unk], [.int x2, .int p1], (126, 120, L, [Y, T, HA, HB, RA, RB, ST, NS, I0, I1, I2, BO, FI, RG, GU, PU, MA, MN, MS, OT, SC], [r0, r1, r2, r3, w, r5, r6, r7, r8], Lg)) o from ev_call (fun v μ => (d + 5, 0, 0, 37, 74, [.val (.ref 1088), .val (.int p1), .val a_unk, .val a_unk, .val a_unk], v.toList ++ [.int p1], μ)) 3 ze5 e (fun n => Eq.refl _)
    by_cases zc6 : p1 ≠ x2
    · have h := itp h zc6
      suffices e : Ev (d + 5, 0, 0, 37, 130, [.val (.ref 1088), .val (.int p1), .val a_unk, .val a_unk, .val a_unk], [], (126, 120, L, [Y, T, HA, HB, RA, RB, ST, NS, I0, I1, I2, BO, FI, RG, GU, PU, MA, MN, MS, OT, SC], [r0, r1, r2, r3, w, r5, r6, r7, r8], Lg)) o from ev_t (c := p1 ≠ x2) _ _ 1  zc6 e (fun n => Eq.refl _)
      obtain ⟨⟨x3, MN_4⟩, zh7, h⟩ := bnd h
      have zh7 : f_M_readHour MA MN = some (x3, MN_4) := zh7
      have ze8 := R_f_M_readHour_0 (d + 2) Y T HA HB RA RB ST NS I0 I1 I2 BO FI RG GU PU MA MN MS OT SC r0 r1 r2 r3 w r5 r6 r7 r8 L Lg zh7
      suffices e : Ev (d + 5, 0, 0, 37, 134, [.val (.ref 1088), .val (.int p1), .val a_unk, .val a_unk, .val a_unk], [.int x3], (126, 120, L, [Y, T, HA, HB, RA, RB, ST, NS, I0, I1, I2, BO, FI, RG, GU, PU, MA, MN_4, MS, OT, SC], [r0, r1, r2, r3, w, r5, r6, r7, r8], Lg)) o from ev_call (fun v μ => (d + 5, 0, 0, 37, 134, [.val (.ref 1088), .val (.int p1), .val a_unk, .val a_unk, .val a_unk], v.toList ++ [], μ)) 2 ze8 e (fun n => Eq.refl _)
      obtain ⟨⟨x5, MN_6⟩, zh9, h⟩ := bnd h
      have zh9 : f_M_readNumber MA MN_4 0 ((MN_4 0 19) - 1) = some (x5, MN_6) := zh9
      have ze10 := R_f_M_readNumber_0 (d + 3) Y T HA HB RA RB ST NS I0 I1 I2 BO FI RG GU PU MA MN_4 MS OT SC r0 r1 r2 r3 w r5 r6 r7 r8 L Lg 0 ((MN_4 0 19) - 1) zh9
      suffices e : Ev (d + 5, 0, 0, 37, 146, [.val (.ref 1088), .val (.int p1), .val (.int x3), .val a_unk, .val a_unk], [.int x5], (126, 120, L, [Y, T, HA, HB, RA, RB, ST, NS, I0, I1, I2, BO, FI, RG, GU, PU, MA, MN_6, MS, OT, SC], [r0, r1, r2, r3, w, r5, r6, r7, r8], Lg)) o from ev_call (fun v μ => (d + 5, 0, 0, 37, 146, [.val (.ref 1088), .val (.int p1), .val (.int x3), .val a_unk, .val a_unk], v.toList ++ [], μ)) 8 ze10 e (fun n => Eq.refl _)
      obtain ⟨x7, zh11, h⟩ := bnd h
      have zh11 : f_M_of 2649 = some x7 := zh11
      have ze12 := R_f_M_of_0 (d + 0) Y T HA HB RA RB ST NS I0 I1 I2 BO FI RG GU PU MA MN_6 MS OT SC r0 r1 r2 r3 w r5 r6 r7 r8 L Lg 2649 zh11
      suffices e : Ev (d + 5, 0, 0, 37, 153, [.val (.ref 1088), .val (.int p1), .val (.int x3), .val (.int x5), .val a_unk], [.int x7, .int p1], (126, 120, L, [Y, T, HA, HB, RA, RB, ST, NS, I0, I1, I2, BO, FI, RG, GU, PU, MA, MN_6, MS, OT, SC], [r0, r1, r2, r3, w, r5, r6, r7, r8], Lg)) o from ev_call (fun v μ => (d + 5, 0, 0, 37, 153, [.val (.ref 1088), .val (.int p1), .val (.int x3), .val (.int x5), .val a_unk], v.toList ++ [.int p1], μ)) 4 ze12 e (fun n => Eq.refl _)
      by_cases zc13 : p1 ≠ x7
      · have h := itp h zc13
        suffices e : Ev (d + 5, 0, 0, 37, 207, [.val (.ref 1088), .val (.int p1), .val (.int x3), .val (.int x5), .val a_unk], [], (126, 120, L, [Y, T, HA, HB, RA, RB, ST, NS, I0, I1, I2, BO, FI, RG, GU, PU, MA, MN_6, MS, OT, SC], [r0, r1, r2, r3, w, r5, r6, r7, r8], Lg)) o from ev_t (c := p1 ≠ x7) _ _ 1  zc13 e (fun n => Eq.refl _)
        obtain ⟨j8, zh14, h⟩ := bnd h
        have zh14 : ixx 16 (4 * (MN_6 0 22)) = some j8 := zh14
        suffices e : Ev (d + 5, 0, 0, 37, 223, [.val (.ref 1088), .val (.int p1), .val (.int x3), .val (.int x5), .val a_unk], [], (126, 120, L, [Y, T, HA, HB, RA, RB, ST, NS, I0, I1, I2, BO, FI, RG, GU, PU, MA, (u2 MN_6 4 j8 ((3 * x3) + x5)), MS, OT, SC], [r0, r1, r2, r3, w, r5, r6, r7, r8], Lg)) o from ev_opt (fun j8 => (d + 5, 0, 0, 37, 223, [.val (.ref 1088), .val (.int p1), .val (.int x3), .val (.int x5), .val a_unk], [], (126, 120, L, [Y, T, HA, HB, RA, RB, ST, NS, I0, I1, I2, BO, FI, RG, GU, PU, MA, (u2 MN_6 4 j8 ((3 * x3) + x5)), MS, OT, SC], [r0, r1, r2, r3, w, r5, r6, r7, r8], Lg))) 12 zh14 e (fun n => Eq.refl _)
        obtain ⟨⟨x9, MN_10⟩, zh15, h⟩ := bnd h
        have zh15 : f_M_readNumber MA (u2 MN_6 4 j8 ((3 * x3) + x5)) 0 16 = some (x9, MN_10) := zh15
        have ze16 := R_f_M_readNumber_0 (d + 3) Y T HA HB RA RB ST NS I0 I1 I2 BO FI RG GU PU MA (u2 MN_6 4 j8 ((3 * x3) + x5)) MS OT SC r0 r1 r2 r3 w r5 r6 r7 r8 L Lg 0 16 zh15
        suffices e : Ev (d + 5, 0, 0, 37, 242, [.val (.ref 1088), .val (.int p1), .val (.int x3), .val (.int x5), .val a_unk], [.int x9, .int ((4 * ((u2 MN_6 4 j8 ((3 * x3) + x5)) 0 22)) + 1), .ref 1156], (126, 120, L, [Y, T, HA, HB, RA, RB, ST, NS, I0, I1, I2, BO, FI, RG, GU, PU, MA, MN_10, MS, OT, SC], [r0, r1, r2, r3, w, r5, r6, r7, r8], Lg)) o from ev_call (fun v μ => (d + 5, 0, 0, 37, 242, [.val (.ref 1088), .val (.int p1), .val (.int x3), .val (.int x5), .val a_unk], v.toList ++ [.int ((4 * ((u2 MN_6 4 j8 ((3 * x3) + x5)) 0 22)) + 1), .ref 1156], μ)) 12 ze16 e (fun n => Eq.refl _)
        obtain ⟨j11, zh17, h⟩ := bnd h
        have zh17 : ixx 16 ((4 * ((u2 MN_6 4 j8 ((3 * x3) + x5)) 0 22)) + 1) = some j11 := zh17
        suffices e : Ev (d + 5, 0, 0, 37, 243, [.val (.ref 1088), .val (.int p1), .val (.int x3), .val (.int x5), .val a_unk], [], (126, 120, L, [Y, T, HA, HB, RA, RB, ST, NS, I0, I1, I2, BO, FI, RG, GU, PU, MA, (u2 MN_10 4 j11 x9), MS, OT, SC], [r0, r1, r2, r3, w, r5, r6, r7, r8], Lg)) o from ev_opt (fun j11 => (d + 5, 0, 0, 37, 243, [.val (.ref 1088), .val (.int p1), .val (.int x3), .val (.int x5), .val a_unk], [], (126, 120, L, [Y, T, HA, HB, RA, RB, ST, NS, I0, I1, I2, BO, FI, RG, GU, PU, MA, (u2 MN_10 4 j11 x9), MS, OT, SC], [r0, r1, r2, r3, w, r5, r6, r7, r8], Lg))) 1 zh17 e (fun n => Eq.refl _)
        obtain ⟨⟨x12, MN_13⟩, zh18, h⟩ := bnd h
        have zh18 : f_M_readNumber MA (u2 MN_10 4 j11 x9) 0 99 = some (x12, MN_13) := zh18
        have ze19 := R_f_M_readNumber_0 (d + 3) Y T HA HB RA RB ST NS I0 I1 I2 BO FI RG GU PU MA (u2 MN_10 4 j11 x9) MS OT SC r0 r1 r2 r3 w r5 r6 r7 r8 L Lg 0 99 zh18
        suffices e : Ev (d + 5, 0, 0, 37, 262, [.val (.ref 1088), .val (.int p1), .val (.int x3), .val (.int x5), .val a_unk], [.int x12, .int ((4 * ((u2 MN_10 4 j11 x9) 0 22)) + 2), .ref 1156], (126, 120, L, [Y, T, HA, HB, RA, RB, ST, NS, I0, I1, I2, BO, FI, RG, GU, PU, MA, MN_13, MS, OT, SC], [r0, r1, r2, r3, w, r5, r6, r7, r8], Lg)) o from ev_call (fun v μ => (d + 5, 0, 0, 37, 262, [.val (.ref 1088), .val (.int p1), .val (.int x3), .val (.int x5), .val a_unk], v.toList ++ [.int ((4 * ((u2 MN_10 4 j11 x9) 0 22)) + 2), .ref 1156], μ)) 12 ze19 e (fun n => Eq.refl _)
        obtain ⟨j14, zh20, h⟩ := bnd h
        have zh20 : ixx 16 ((4 * ((u2 MN_10 4 j11 x9) 0 22)) + 2) = some j14 := zh20
        suffices e : Ev (d + 5, 0, 0, 37, 263, [.val (.ref 1088), .val (.int p1), .val (.int x3), .val (.int x5), .val a_unk], [], (126, 120, L, [Y, T, HA, HB, RA, RB, ST, NS, I0, I1, I2, BO, FI, RG, GU, PU, MA, (u2 MN_13 4 j14 x12), MS, OT, SC], [r0, r1, r2, r3, w, r5, r6, r7, r8], Lg)) o from ev_opt (fun j14 => (d + 5, 0, 0, 37, 263, [.val (.ref 1088), .val (.int p1), .val (.int x3), .val (.int x5), .val a_unk], [], (126, 120, L, [Y, T, HA, HB, RA, RB, ST, NS, I0, I1, I2, BO, FI, RG, GU, PU, MA, (u2 MN_13 4 j14 x12), MS, OT, SC], [r0, r1, r2, r3, w, r5, r6, r7, r8], Lg))) 1 zh20 e (fun n => Eq.refl _)
        obtain ⟨j15, zh21, h⟩ := bnd h
        have zh21 : ixx 16 ((4 * ((u2 MN_13 4 j14 x12) 0 22)) + 3) = some j15 := zh21
        suffices e : Ev (d + 5, 0, 0, 37, 277, [.val (.ref 1088), .val (.int p1), .val (.int x3), .val (.int x5), .val a_unk], [], (126, 120, L, [Y, T, HA, HB, RA, RB, ST, NS, I0, I1, I2, BO, FI, RG, GU, PU, MA, (u2 (u2 MN_13 4 j14 x12) 4 j15 0), MS, OT, SC], [r0, r1, r2, r3, w, r5, r6, r7, r8], Lg)) o from ev_opt (fun j15 => (d + 5, 0, 0, 37, 277, [.val (.ref 1088), .val (.int p1), .val (.int x3), .val (.int x5), .val a_unk], [], (126, 120, L, [Y, T, HA, HB, RA, RB, ST, NS, I0, I1, I2, BO, FI, RG, GU, PU, MA, (u2 (u2 MN_13 4 j14 x12) 4 j15 0), MS, OT, SC], [r0, r1, r2, r3, w, r5, r6, r7, r8], Lg))) 10 zh21 e (fun n => Eq.refl _)
        have ze22 := Option.some.inj h
        subst ze22
        exact ev_rete 7 ho (fun n => Eq.refl _)
      · have h := itn h zc13
        suffices e : Ev (d + 5, 0, 0, 37, 156, [.val (.ref 1088), .val (.int p1), .val (.int x3), .val (.int x5), .val a_unk], [], (126, 120, L, [Y, T, HA, HB, RA, RB, ST, NS, I0, I1, I2, BO, FI, RG, GU, PU, MA, MN_6, MS, OT, SC], [r0, r1, r2, r3, w, r5, r6, r7, r8], Lg)) o from ev_f (c := p1 ≠ x7) _ _ 1  zc13 e (fun n => Eq.refl _)
        obtain ⟨j16, zh23, h⟩ := bnd h
        have zh23 : ixx 60 (6 * (MN_6 0 21)) = some j16 := zh23
        suffices e : Ev (d + 5, 0, 0, 37, 173, [.val (.ref 1088), .val (.int p1), .val (.int x3), .val (.int x5), .val a_unk], [], (126, 120, L, [Y, T, HA, HB, RA, RB, ST, NS, I0, I1, I2, BO, FI, RG, GU, PU, MA, (u2 MN_6 3 j16 ((3 * x3) + x5)), MS, OT, SC], [r0, r1, r2, r3, w, r5, r6, r7, r8], Lg)) o from ev_opt (fun j16 => (d + 5, 0, 0, 37, 173, [.val (.ref 1088), .val (.int p1), .val (.int x3), .val (.int x5), .val a_unk], [], (126, 120, L, [Y, T, HA, HB, RA, RB, ST, NS, I0, I1, I2, BO, FI, RG, GU, PU, MA, (u2 MN_6 3 j16 ((3 * x3) + x5)), MS, OT, SC], [r0, r1, r2, r3, w, r5, r6, r7, r8], Lg))) 12 zh23 e (fun n => Eq.refl _)
        obtain ⟨⟨x17, MN_18⟩, zh24, h⟩ := bnd h
        have zh24 : f_M_readNumber MA (u2 MN_6 3 j16 ((3 * x3) + x5)) 0 99 = some (x17, MN_18) := zh24
        have ze25 := R_f_M_readNumber_0 (d + 3) Y T HA HB RA RB ST NS I0 I1 I2 BO FI RG GU PU MA (u2 MN_6 3 j16 ((3 * x3) + x5)) MS OT SC r0 r1 r2 r3 w r5 r6 r7 r8 L Lg 0 99 zh24
        suffices e : Ev (d + 5, 0, 0, 37, 193, [.val (.ref 1088), .val (.int p1), .val (.int x3), .val (.int x5), .val a_unk], [.int x17, .int ((6 * ((u2 MN_6 3 j16 ((3 * x3) + x5)) 0 21)) + 1), .ref 1155], (126, 120, L, [Y, T, HA, HB, RA, RB, ST, NS, I0, I1, I2, BO, FI, RG, GU, PU, MA, MN_18, MS, OT, SC], [r0, r1, r2, r3, w, r5, r6, r7, r8], Lg)) o from ev_call (fun v μ => (d + 5, 0, 0, 37, 193, [.val (.ref 1088), .val (.int p1), .val (.int x3), .val (.int x5), .val a_unk], v.toList ++ [.int ((6 * ((u2 MN_6 3 j16 ((3 * x3) + x5)) 0 21)) + 1), .ref 1155], μ)) 12 ze25 e (fun n => Eq.refl _)
        obtain ⟨j19, zh26, h⟩ := bnd h
        have zh26 : ixx 60 ((6 * ((u2 MN_6 3 j16 ((3 * x3) + x5)) 0 21)) + 1) = some j19 := zh26
        suffices e : Ev (d + 5, 0, 0, 37, 194, [.val (.ref 1088), .val (.int p1), .val (.int x3), .val (.int x5), .val a_unk], [], (126, 120, L, [Y, T, HA, HB, RA, RB, ST, NS, I0, I1, I2, BO, FI, RG, GU, PU, MA, (u2 MN_18 3 j19 x17), MS, OT, SC], [r0, r1, r2, r3, w, r5, r6, r7, r8], Lg)) o from ev_opt (fun j19 => (d + 5, 0, 0, 37, 194, [.val (.ref 1088), .val (.int p1), .val (.int x3), .val (.int x5), .val a_unk], [], (126, 120, L, [Y, T, HA, HB, RA, RB, ST, NS, I0, I1, I2, BO, FI, RG, GU, PU, MA, (u2 MN_18 3 j19 x17), MS, OT, SC], [r0, r1, r2, r3, w, r5, r6, r7, r8], Lg))) 1 zh26 e (fun n => Eq.refl _)
        have ze27 := Option.some.inj h
        subst ze27
        exact ev_rete 8 ho (fun n => Eq.refl _)
    · have h := itn h zc6
      suffices e : Ev (d + 5, 0, 0, 37, 77, [.val (.ref 1088), .val (.int p1), .val a_unk, .val a_unk, .val a_unk], [], (126, 120, L, [Y, T, HA, HB, RA, RB, ST, NS, I0, I1, I2, BO, FI, RG, GU, PU, MA, MN, MS, OT, SC], [r0, r1, r2, r3, w, r5, r6, r7, r8], Lg)) o from ev_f (c := p1 ≠ x2) _ _ 1  zc6 e (fun n => Eq.refl _)
      obtain ⟨⟨x20, MN_21⟩, zh28, h⟩ := bnd h
      have zh28 : f_M_readMeeting MA MN = some (x20, MN_21) := zh28
      have ze29 := R_f_M_readMeeting_0 (d + 2) Y T HA HB RA RB ST NS I0 I1 I2 BO FI RG GU PU MA MN MS OT SC r0 r1 r2 r3 w r5 r6 r7 r8 L Lg zh28
      suffices e : Ev (d + 5, 0, 0, 37, 81, [.val (.ref 1088), .val (.int p1), .val a_unk, .val a_unk, .val a_unk], [.int x20], (126, 120, L, [Y, T, HA, HB, RA, RB, ST, NS, I0, I1, I2, BO, FI, RG, GU, PU, MA, MN_21, MS, OT, SC], [r0, r1, r2, r3, w, r5, r6, r7, r8], Lg)) o from ev_call (fun v μ => (d + 5, 0, 0, 37, 81, [.val (.ref 1088), .val (.int p1), .val a_unk, .val a_unk, .val a_unk], v.toList ++ [], μ)) 2 ze29 e (fun n => Eq.refl _)
      obtain ⟨⟨x22, MN_23⟩, zh30, h⟩ := bnd h
      have zh30 : f_M_readHour MA MN_21 = some (x22, MN_23) := zh30
      have ze31 := R_f_M_readHour_0 (d + 2) Y T HA HB RA RB ST NS I0 I1 I2 BO FI RG GU PU MA MN_21 MS OT SC r0 r1 r2 r3 w r5 r6 r7 r8 L Lg zh30
      suffices e : Ev (d + 5, 0, 0, 37, 86, [.val (.ref 1088), .val (.int p1), .val (.int x20), .val a_unk, .val a_unk], [.int x22], (126, 120, L, [Y, T, HA, HB, RA, RB, ST, NS, I0, I1, I2, BO, FI, RG, GU, PU, MA, MN_23, MS, OT, SC], [r0, r1, r2, r3, w, r5, r6, r7, r8], Lg)) o from ev_call (fun v μ => (d + 5, 0, 0, 37, 86, [.val (.ref 1088), .val (.int p1), .val (.int x20), .val a_unk, .val a_unk], v.toList ++ [], μ)) 3 ze31 e (fun n => Eq.refl _)
      obtain ⟨⟨x24, MN_25⟩, zh32, h⟩ := bnd h
      have zh32 : f_M_readNumber MA MN_23 x22 ((MN_23 0 18) - 1) = some (x24, MN_25) := zh32
      have ze33 := R_f_M_readNumber_0 (d + 3) Y T HA HB RA RB ST NS I0 I1 I2 BO FI RG GU PU MA MN_23 MS OT SC r0 r1 r2 r3 w r5 r6 r7 r8 L Lg x22 ((MN_23 0 18) - 1) zh32
      suffices e : Ev (d + 5, 0, 0, 37, 98, [.val (.ref 1088), .val (.int p1), .val (.int x20), .val (.int x22), .val a_unk], [.int x24], (126, 120, L, [Y, T, HA, HB, RA, RB, ST, NS, I0, I1, I2, BO, FI, RG, GU, PU, MA, MN_25, MS, OT, SC], [r0, r1, r2, r3, w, r5, r6, r7, r8], Lg)) o from ev_call (fun v μ => (d + 5, 0, 0, 37, 98, [.val (.ref 1088), .val (.int p1), .val (.int x20), .val (.int x22), .val a_unk], v.toList ++ [], μ)) 8 ze33 e (fun n => Eq.refl _)
      obtain ⟨x26, zh34, h⟩ := bnd h
      have zh34 : f_M_fine MN_25 = some x26 := zh34
      have ze35 := R_f_M_fine_0 (d + 4) Y T HA HB RA RB ST NS I0 I1 I2 BO FI RG GU PU MA MN_25 MS OT SC r0 r1 r2 r3 w r5 r6 r7 r8 L Lg zh34
      suffices e : Ev (d + 5, 0, 0, 37, 104, [.val (.ref 1088), .val (.int p1), .val (.int x20), .val (.int x22), .val (.int x24)], [.int x26], (126, 120, L, [Y, T, HA, HB, RA, RB, ST, NS, I0, I1, I2, BO, FI, RG, GU, PU, MA, MN_25, MS, OT, SC], [r0, r1, r2, r3, w, r5, r6, r7, r8], Lg)) o from ev_call (fun v μ => (d + 5, 0, 0, 37, 104, [.val (.ref 1088), .val (.int p1), .val (.int x20), .val (.int x22), .val (.int x24)], v.toList ++ [], μ)) 3 ze35 e (fun n => Eq.refl _)
      by_cases zc36 : x26 = 0
      · have h := itp h zc36
        suffices e : Ev (d + 5, 0, 0, 37, 127, [.val (.ref 1088), .val (.int p1), .val (.int x20), .val (.int x22), .val (.int x24)], [], (126, 120, L, [Y, T, HA, HB, RA, RB, ST, NS, I0, I1, I2, BO, FI, RG, GU, PU, MA, MN_25, MS, OT, SC], [r0, r1, r2, r3, w, r5, r6, r7, r8], Lg)) o from ev_t (c := x26 = 0) _ _ 1  zc36 e (fun n => Eq.refl _)
        have ze37 := Option.some.inj h
        subst ze37
        exact ev_rete 2 ho (fun n => Eq.refl _)
      · have h := itn h zc36
        suffices e : Ev (d + 5, 0, 0, 37, 107, [.val (.ref 1088), .val (.int p1), .val (.int x20), .val (.int x22), .val (.int x24)], [], (126, 120, L, [Y, T, HA, HB, RA, RB, ST, NS, I0, I1, I2, BO, FI, RG, GU, PU, MA, MN_25, MS, OT, SC], [r0, r1, r2, r3, w, r5, r6, r7, r8], Lg)) o from ev_f (c := x26 = 0) _ _ 1  zc36 e (fun n => Eq.refl _)
        obtain ⟨x27, zh38, h⟩ := bnd h
        have zh38 : rdx (MN_25 3) 60 ((6 * x20) + 3) = some x27 := zh38
        suffices e : Ev (d + 5, 0, 0, 37, 119, [.val (.ref 1088), .val (.int p1), .val (.int x20), .val (.int x22), .val (.int x24)], [.int x27, .int ((6 * x20) + 3), .ref 1155], (126, 120, L, [Y, T, HA, HB, RA, RB, ST, NS, I0, I1, I2, BO, FI, RG, GU, PU, MA, MN_25, MS, OT, SC], [r0, r1, r2, r3, w, r5, r6, r7, r8], Lg)) o from ev_opt (fun x27 => (d + 5, 0, 0, 37, 119, [.val (.ref 1088), .val (.int p1), .val (.int x20), .val (.int x22), .val (.int x24)], [.int x27, .int ((6 * x20) + 3), .ref 1155], (126, 120, L, [Y, T, HA, HB, RA, RB, ST, NS, I0, I1, I2, BO, FI, RG, GU, PU, MA, MN_25, MS, OT, SC], [r0, r1, r2, r3, w, r5, r6, r7, r8], Lg))) 9 zh38 e (fun n => Eq.refl _)
        obtain ⟨x28, zh39, h⟩ := bnd h
        have zh39 : f_M_range x22 x24 = some x28 := zh39
        have ze40 := R_f_M_range_0 (d + 4) Y T HA HB RA RB ST NS I0 I1 I2 BO FI RG GU PU MA MN_25 MS OT SC r0 r1 r2 r3 w r5 r6 r7 r8 L Lg x22 x24 zh39
        suffices e : Ev (d + 5, 0, 0, 37, 125, [.val (.ref 1088), .val (.int p1), .val (.int x20), .val (.int x22), .val (.int x24)], [.int x28, .int x27, .int ((6 * x20) + 3), .ref 1155], (126, 120, L, [Y, T, HA, HB, RA, RB, ST, NS, I0, I1, I2, BO, FI, RG, GU, PU, MA, MN_25, MS, OT, SC], [r0, r1, r2, r3, w, r5, r6, r7, r8], Lg)) o from ev_call (fun v μ => (d + 5, 0, 0, 37, 125, [.val (.ref 1088), .val (.int p1), .val (.int x20), .val (.int x22), .val (.int x24)], v.toList ++ [.int x27, .int ((6 * x20) + 3), .ref 1155], μ)) 3 ze40 e (fun n => Eq.refl _)
        obtain ⟨j29, zh41, h⟩ := bnd h
        have zh41 : ixx 60 ((6 * x20) + 3) = some j29 := zh41
        suffices e : Ev (d + 5, 0, 0, 37, 127, [.val (.ref 1088), .val (.int p1), .val (.int x20), .val (.int x22), .val (.int x24)], [], (126, 120, L, [Y, T, HA, HB, RA, RB, ST, NS, I0, I1, I2, BO, FI, RG, GU, PU, MA, (u2 MN_25 3 j29 (x27 ||| x28)), MS, OT, SC], [r0, r1, r2, r3, w, r5, r6, r7, r8], Lg)) o from ev_opt (fun j29 => (d + 5, 0, 0, 37, 127, [.val (.ref 1088), .val (.int p1), .val (.int x20), .val (.int x22), .val (.int x24)], [], (126, 120, L, [Y, T, HA, HB, RA, RB, ST, NS, I0, I1, I2, BO, FI, RG, GU, PU, MA, (u2 MN_25 3 j29 (x27 ||| x28)), MS, OT, SC], [r0, r1, r2, r3, w, r5, r6, r7, r8], Lg))) 2 zh41 e (fun n => Eq.refl _)
        have ze42 := Option.some.inj h
        subst ze42
        exact ev_rete 2 ho (fun n => Eq.refl _)
  · have h := itn h zc3
    suffices e : Ev (d + 5, 0, 0, 37, 9, [.val (.ref 1088), .val (.int p1), .val a_unk, .val a_unk, .val a_unk], [], (126, 120, L, [Y, T, HA, HB, RA, RB, ST, NS, I0, I1, I2, BO, FI, RG, GU, PU, MA, MN, MS, OT, SC], [r0, r1, r2, r3, w, r5, r6, r7, r8], Lg)) o from ev_f (c := p1 ≠ x1) _ _ 1  zc3 e (fun n => Eq.refl _)
    obtain ⟨⟨x30, MN_31⟩, zh43, h⟩ := bnd h
    have zh43 : f_M_readNumber MA MN 0 ((MN 0 20) - 1) = some (x30, MN_31) := zh43
    have ze44 := R_f_M_readNumber_0 (d + 3) Y T HA HB RA RB ST NS I0 I1 I2 BO FI RG GU PU MA MN MS OT SC r0 r1 r2 r3 w r5 r6 r7 r8 L Lg 0 ((MN 0 20) - 1) zh43
    suffices e : Ev (d + 5, 0, 0, 37, 20, [.val (.ref 1088), .val (.int p1), .val a_unk, .val a_unk, .val a_unk], [.int x30], (126, 120, L, [Y, T, HA, HB, RA, RB, ST, NS, I0, I1, I2, BO, FI, RG, GU, PU, MA, MN_31, MS, OT, SC], [r0, r1, r2, r3, w, r5, r6, r7, r8], Lg)) o from ev_call (fun v μ => (d + 5, 0, 0, 37, 20, [.val (.ref 1088), .val (.int p1), .val a_unk, .val a_unk, .val a_unk], v.toList ++ [], μ)) 7 ze44 e (fun n => Eq.refl _)
    obtain ⟨⟨x32, MN_33⟩, zh45, h⟩ := bnd h
    have zh45 : f_M_readHour MA MN_31 = some (x32, MN_33) := zh45
    have ze46 := R_f_M_readHour_0 (d + 2) Y T HA HB RA RB ST NS I0 I1 I2 BO FI RG GU PU MA MN_31 MS OT SC r0 r1 r2 r3 w r5 r6 r7 r8 L Lg zh45
    suffices e : Ev (d + 5, 0, 0, 37, 25, [.val (.ref 1088), .val (.int p1), .val (.int x30), .val a_unk, .val a_unk], [.int x32], (126, 120, L, [Y, T, HA, HB, RA, RB, ST, NS, I0, I1, I2, BO, FI, RG, GU, PU, MA, MN_33, MS, OT, SC], [r0, r1, r2, r3, w, r5, r6, r7, r8], Lg)) o from ev_call (fun v μ => (d + 5, 0, 0, 37, 25, [.val (.ref 1088), .val (.int p1), .val (.int x30), .val a_unk, .val a_unk], v.toList ++ [], μ)) 3 ze46 e (fun n => Eq.refl _)
    obtain ⟨⟨x34, MN_35⟩, zh47, h⟩ := bnd h
    have zh47 : f_M_readNumber MA MN_33 x32 ((MN_33 0 18) - 1) = some (x34, MN_35) := zh47
    have ze48 := R_f_M_readNumber_0 (d + 3) Y T HA HB RA RB ST NS I0 I1 I2 BO FI RG GU PU MA MN_33 MS OT SC r0 r1 r2 r3 w r5 r6 r7 r8 L Lg x32 ((MN_33 0 18) - 1) zh47
    suffices e : Ev (d + 5, 0, 0, 37, 37, [.val (.ref 1088), .val (.int p1), .val (.int x30), .val (.int x32), .val a_unk], [.int x34], (126, 120, L, [Y, T, HA, HB, RA, RB, ST, NS, I0, I1, I2, BO, FI, RG, GU, PU, MA, MN_35, MS, OT, SC], [r0, r1, r2, r3, w, r5, r6, r7, r8], Lg)) o from ev_call (fun v μ => (d + 5, 0, 0, 37, 37, [.val (.ref 1088), .val (.int p1), .val (.int x30), .val (.int x32), .val a_unk], v.toList ++ [], μ)) 8 ze48 e (fun n => Eq.refl _)
    obtain ⟨x36, zh49, h⟩ := bnd h
    have zh49 : f_M_fine MN_35 = some x36 := zh49
    have ze50 := R_f_M_fine_0 (d + 4) Y T HA HB RA RB ST NS I0 I1 I2 BO FI RG GU PU MA MN_35 MS OT SC r0 r1 r2 r3 w r5 r6 r7 r8 L Lg zh49
    suffices e : Ev (d + 5, 0, 0, 37, 43, [.val (.ref 1088), .val (.int p1), .val (.int x30), .val (.int x32), .val (.int x34)], [.int x36], (126, 120, L, [Y, T, HA, HB, RA, RB, ST, NS, I0, I1, I2, BO, FI, RG, GU, PU, MA, MN_35, MS, OT, SC], [r0, r1, r2, r3, w, r5, r6, r7, r8], Lg)) o from ev_call (fun v μ => (d + 5, 0, 0, 37, 43, [.val (.ref 1088), .val (.int p1), .val (.int x30), .val (.int x32), .val (.int x34)], v.toList ++ [], μ)) 3 ze50 e (fun n => Eq.refl _)
    by_cases zc51 : x36 = 0
    · have h := itp h zc51
      suffices e : Ev (d + 5, 0, 0, 37, 65, [.val (.ref 1088), .val (.int p1), .val (.int x30), .val (.int x32), .val (.int x34)], [], (126, 120, L, [Y, T, HA, HB, RA, RB, ST, NS, I0, I1, I2, BO, FI, RG, GU, PU, MA, MN_35, MS, OT, SC], [r0, r1, r2, r3, w, r5, r6, r7, r8], Lg)) o from ev_t (c := x36 = 0) _ _ 1  zc51 e (fun n => Eq.refl _)
      have ze52 := Option.some.inj h
      subst ze52
      exact ev_rete 2 ho (fun n => Eq.refl _)
    · have h := itn h zc51
      suffices e : Ev (d + 5, 0, 0, 37, 46, [.val (.ref 1088), .val (.int p1), .val (.int x30), .val (.int x32), .val (.int x34)], [], (126, 120, L, [Y, T, HA, HB, RA, RB, ST, NS, I0, I1, I2, BO, FI, RG, GU, PU, MA, MN_35, MS, OT, SC], [r0, r1, r2, r3, w, r5, r6, r7, r8], Lg)) o from ev_f (c := x36 = 0) _ _ 1  zc51 e (fun n => Eq.refl _)
      obtain ⟨x37, zh53, h⟩ := bnd h
      have zh53 : rdx (MN_35 2) 24 ((3 * x30) + 2) = some x37 := zh53
      suffices e : Ev (d + 5, 0, 0, 37, 57, [.val (.ref 1088), .val (.int p1), .val (.int x30), .val (.int x32), .val (.int x34)], [.int x37, .int ((3 * x30) + 2), .ref 1154], (126, 120, L, [Y, T, HA, HB, RA, RB, ST, NS, I0, I1, I2, BO, FI, RG, GU, PU, MA, MN_35, MS, OT, SC], [r0, r1, r2, r3, w, r5, r6, r7, r8], Lg)) o from ev_opt (fun x37 => (d + 5, 0, 0, 37, 57, [.val (.ref 1088), .val (.int p1), .val (.int x30), .val (.int x32), .val (.int x34)], [.int x37, .int ((3 * x30) + 2), .ref 1154], (126, 120, L, [Y, T, HA, HB, RA, RB, ST, NS, I0, I1, I2, BO, FI, RG, GU, PU, MA, MN_35, MS, OT, SC], [r0, r1, r2, r3, w, r5, r6, r7, r8], Lg))) 9 zh53 e (fun n => Eq.refl _)
      obtain ⟨x38, zh54, h⟩ := bnd h
      have zh54 : f_M_range x32 x34 = some x38 := zh54
      have ze55 := R_f_M_range_0 (d + 4) Y T HA HB RA RB ST NS I0 I1 I2 BO FI RG GU PU MA MN_35 MS OT SC r0 r1 r2 r3 w r5 r6 r7 r8 L Lg x32 x34 zh54
      suffices e : Ev (d + 5, 0, 0, 37, 63, [.val (.ref 1088), .val (.int p1), .val (.int x30), .val (.int x32), .val (.int x34)], [.int x38, .int x37, .int ((3 * x30) + 2), .ref 1154], (126, 120, L, [Y, T, HA, HB, RA, RB, ST, NS, I0, I1, I2, BO, FI, RG, GU, PU, MA, MN_35, MS, OT, SC], [r0, r1, r2, r3, w, r5, r6, r7, r8], Lg)) o from ev_call (fun v μ => (d + 5, 0, 0, 37, 63, [.val (.ref 1088), .val (.int p1), .val (.int x30), .val (.int x32), .val (.int x34)], v.toList ++ [.int x37, .int ((3 * x30) + 2), .ref 1154], μ)) 3 ze55 e (fun n => Eq.refl _)
      obtain ⟨j39, zh56, h⟩ := bnd h
      have zh56 : ixx 24 ((3 * x30) + 2) = some j39 := zh56
      suffices e : Ev (d + 5, 0, 0, 37, 65, [.val (.ref 1088), .val (.int p1), .val (.int x30), .val (.int x32), .val (.int x34)], [], (126, 120, L, [Y, T, HA, HB, RA, RB, ST, NS, I0, I1, I2, BO, FI, RG, GU, PU, MA, (u2 MN_35 2 j39 (x37 ||| x38)), MS, OT, SC], [r0, r1, r2, r3, w, r5, r6, r7, r8], Lg)) o from ev_opt (fun j39 => (d + 5, 0, 0, 37, 65, [.val (.ref 1088), .val (.int p1), .val (.int x30), .val (.int x32), .val (.int x34)], [], (126, 120, L, [Y, T, HA, HB, RA, RB, ST, NS, I0, I1, I2, BO, FI, RG, GU, PU, MA, (u2 MN_35 2 j39 (x37 ||| x38)), MS, OT, SC], [r0, r1, r2, r3, w, r5, r6, r7, r8], Lg))) 2 zh56 e (fun n => Eq.refl _)
      have ze57 := Option.some.inj h
      subst ze57
      exact ev_rete 2 ho (fun n => Eq.refl _)
