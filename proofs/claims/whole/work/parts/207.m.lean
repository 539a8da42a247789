/-! printed by program (gen/emitm.py): the reference's methods run as their functions say -/
set_option maxRecDepth 1000000 in
set_option maxHeartbeats 4000000 in
theorem K_grp_mp_0 (n : Nat) : (∀ (d : Nat) (Y T HA HB RA RB ST NS I0 I1 I2 BO FI RG GU PU MA MN MS OT SC : Nat → Nat → Int32) (r0 r1 r2 r3 w r5 r6 r7 r8 : Nat) (L : Nat) (Lg : Int64) (p1 : Int32) (p2 : Int32) (r : Int32 × (Nat → Nat → Int32)), f_grp_mp n 0 MA MS p1 p2 = some r → Ev (d + (2 + n), 0, 0, 89, 0, [.val (.ref 1088), .val (.int p1), .val (.int p2), .val a_unk, .val a_unk], [], (126, 120, L, [Y, T, HA, HB, RA, RB, ST, NS, I0, I1, I2, BO, FI, RG, GU, PU, MA, MN, MS, OT, SC], [r0, r1, r2, r3, w, r5, r6, r7, r8], Lg)) ((0, some (.int r.1), (126, 120, L, [Y, T, HA, HB, RA, RB, ST, NS, I0, I1, I2, BO, FI, RG, GU, PU, MA, MN, r.2, OT, SC], [r0, r1, r2, r3, w, r5, r6, r7, r8], Lg)) : AOut)) := by
  induction n with
  | zero => exact by intros; contradiction
  | succ n ih =>
    have i0 := ih
    refine ?_
    · intro d Y T HA HB RA RB ST NS I0 I1 I2 BO FI RG GU PU MA MN MS OT SC r0 r1 r2 r3 w r5 r6 r7 r8 L Lg p1 p2 r h
      rw [show d + (2 + (n + 1)) = d + n + 3 by omega]
      have j0 : ∀ (Y T HA HB RA RB ST NS I0 I1 I2 BO FI RG GU PU MA MN MS OT SC : Nat → Nat → Int32) (r0 r1 r2 r3 w r5 r6 r7 r8 : Nat) (L : Nat) (Lg : Int64) (p1 : Int32) (p2 : Int32) (r : Int32 × (Nat → Nat → Int32)), f_grp_mp n 0 MA MS p1 p2 = some r → Ev (d + n + 2, 0, 0, 89, 0, [.val (.ref 1088), .val (.int p1), .val (.int p2), .val a_unk, .val a_unk], [], (126, 120, L, [Y, T, HA, HB, RA, RB, ST, NS, I0, I1, I2, BO, FI, RG, GU, PU, MA, MN, MS, OT, SC], [r0, r1, r2, r3, w, r5, r6, r7, r8], Lg)) ((0, some (.int r.1), (126, 120, L, [Y, T, HA, HB, RA, RB, ST, NS, I0, I1, I2, BO, FI, RG, GU, PU, MA, MN, r.2, OT, SC], [r0, r1, r2, r3, w, r5, r6, r7, r8], Lg)) : AOut) := by
        intro Y T HA HB RA RB ST NS I0 I1 I2 BO FI RG GU PU MA MN MS OT SC r0 r1 r2 r3 w r5 r6 r7 r8 L Lg p1 p2 r h
        have e := i0 d Y T HA HB RA RB ST NS I0 I1 I2 BO FI RG GU PU MA MN MS OT SC r0 r1 r2 r3 w r5 r6 r7 r8 L Lg p1 p2 r h
        rw [show d + (2 + n) = d + n + 2 by omega] at e
        exact e
      exact R_f_M_places_B_0 (d + n) (f_grp_mp n) j0 Y T HA HB RA RB ST NS I0 I1 I2 BO FI RG GU PU MA MN MS OT SC r0 r1 r2 r3 w r5 r6 r7 r8 L Lg p1 p2 h

set_option maxRecDepth 1000000 in
set_option maxHeartbeats 4000000 in
theorem R_f_M_isLawful_0 (d : Nat) (Y T HA HB RA RB ST NS I0 I1 I2 BO FI RG GU PU MA MN MS OT SC : Nat → Nat → Int32) (r0 r1 r2 r3 w r5 r6 r7 r8 : Nat) (L : Nat) (Lg : Int64) {r : Int32} (h : f_M_isLawful MA (MS 4) = some r) : Ev (d + 3, 0, 0, 69, 0, [.val (.ref 1088), .val (.ref 1220), .val a_unk], [], (126, 120, L, [Y, T, HA, HB, RA, RB, ST, NS, I0, I1, I2, BO, FI, RG, GU, PU, MA, MN, MS, OT, SC], [r0, r1, r2, r3, w, r5, r6, r7, r8], Lg)) ((0, some (.int r), (126, 120, L, [Y, T, HA, HB, RA, RB, ST, NS, I0, I1, I2, BO, FI, RG, GU, PU, MA, MN, MS, OT, SC], [r0, r1, r2, r3, w, r5, r6, r7, r8], Lg)) : AOut) := by
  suffices key : ∀ o : AOut, ((0, some (.int r), (126, 120, L, [Y, T, HA, HB, RA, RB, ST, NS, I0, I1, I2, BO, FI, RG, GU, PU, MA, MN, MS, OT, SC], [r0, r1, r2, r3, w, r5, r6, r7, r8], Lg)) : AOut) = o → Ev (d + 3, 0, 0, 69, 0, [.val (.ref 1088), .val (.ref 1220), .val a_unk], [], (126, 120, L, [Y, T, HA, HB, RA, RB, ST, NS, I0, I1, I2, BO, FI, RG, GU, PU, MA, MN, MS, OT, SC], [r0, r1, r2, r3, w, r5, r6, r7, r8], Lg)) o from key _ rfl
  intro o ho
  obtain ⟨zb1, zh2, h⟩ := bnd h
  suffices e : Ev (d + 3, 0, 0, 69, 2, [.val (.ref 1088), .val (.ref 1220), .val (.int 0)], [], (126, 120, L, [Y, T, HA, HB, RA, RB, ST, NS, I0, I1, I2, BO, FI, RG, GU, PU, MA, MN, MS, OT, SC], [r0, r1, r2, r3, w, r5, r6, r7, r8], Lg)) o from ev_b 2 e (fun n => Eq.refl _)
  refine ev_loop (δ := Unit) (fun a j => (d + 3, 0, 0, 69, 2, [.val (.ref 1088), .val (.ref 1220), .val (.int a)], [], (126, 120, L, [Y, T, HA, HB, RA, RB, ST, NS, I0, I1, I2, BO, FI, RG, GU, PU, MA, MN, MS, OT, SC], [r0, r1, r2, r3, w, r5, r6, r7, r8], Lg))) (fun b => sumE b (fun b => ∀ s5 : Value, Ev (d + 3, 0, 0, 69, 37, [.val (.ref 1088), .val (.ref 1220), .val s5], [], (126, 120, L, [Y, T, HA, HB, RA, RB, ST, NS, I0, I1, I2, BO, FI, RG, GU, PU, MA, MN, MS, OT, SC], [r0, r1, r2, r3, w, r5, r6, r7, r8], Lg)) o) (fun b => ((0, some (.int b), (126, 120, L, [Y, T, HA, HB, RA, RB, ST, NS, I0, I1, I2, BO, FI, RG, GU, PU, MA, MN, MS, OT, SC], [r0, r1, r2, r3, w, r5, r6, r7, r8], Lg)) : AOut) = o)) ?_ a_F 0 zb1 zh2 ?_ ()
  · rintro v1 zr6 zh5 zi3 zx4 ⟨⟩
    have zh5 : f_M_isLawful_l2 MA (MS 4) v1 = some zr6 := zh5
    by_cases zc7 : (MA 0 26) ≤ v1
    · have zh5 := itp zh5 zc7
      suffices e : Ev (d + 3, 0, 0, 69, 37, [.val (.ref 1088), .val (.ref 1220), .val (.int v1)], [], (126, 120, L, [Y, T, HA, HB, RA, RB, ST, NS, I0, I1, I2, BO, FI, RG, GU, PU, MA, MN, MS, OT, SC], [r0, r1, r2, r3, w, r5, r6, r7, r8], Lg)) o from ev_t (c := (MA 0 26) ≤ v1) _ _ 4  zc7 e (fun n => Eq.refl _)
      exact ev_b 0 (zx4 _ (Option.some.inj zh5).symm (.int v1)) (fun n => Eq.refl _)
    · have zh5 := itn zh5 zc7
      suffices e : Ev (d + 3, 0, 0, 69, 10, [.val (.ref 1088), .val (.ref 1220), .val (.int v1)], [], (126, 120, L, [Y, T, HA, HB, RA, RB, ST, NS, I0, I1, I2, BO, FI, RG, GU, PU, MA, MN, MS, OT, SC], [r0, r1, r2, r3, w, r5, r6, r7, r8], Lg)) o from ev_f (c := (MA 0 26) ≤ v1) _ _ 4  zc7 e (fun n => Eq.refl _)
      obtain ⟨x2, zh8, zh5⟩ := bnd zh5
      have zh8 : rdx (MS 4) 10 v1 = some x2 := zh8
      suffices e : Ev (d + 3, 0, 0, 69, 13, [.val (.ref 1088), .val (.ref 1220), .val (.int v1)], [.int x2], (126, 120, L, [Y, T, HA, HB, RA, RB, ST, NS, I0, I1, I2, BO, FI, RG, GU, PU, MA, MN, MS, OT, SC], [r0, r1, r2, r3, w, r5, r6, r7, r8], Lg)) o from ev_opt (fun x2 => (d + 3, 0, 0, 69, 13, [.val (.ref 1088), .val (.ref 1220), .val (.int v1)], [.int x2], (126, 120, L, [Y, T, HA, HB, RA, RB, ST, NS, I0, I1, I2, BO, FI, RG, GU, PU, MA, MN, MS, OT, SC], [r0, r1, r2, r3, w, r5, r6, r7, r8], Lg))) 3 zh8 e (fun n => Eq.refl _)
      by_cases zc9 : x2 = (-1)
      · have zh5 := itp zh5 zc9
        suffices e : Ev (d + 3, 0, 0, 69, 31, [.val (.ref 1088), .val (.ref 1220), .val (.int v1)], [], (126, 120, L, [Y, T, HA, HB, RA, RB, ST, NS, I0, I1, I2, BO, FI, RG, GU, PU, MA, MN, MS, OT, SC], [r0, r1, r2, r3, w, r5, r6, r7, r8], Lg)) o from ev_t (c := x2 = (-1)) _ _ 2  zc9 e (fun n => Eq.refl _)
        exact ev_b 2 (zi3 _ (Option.some.inj zh5).symm ()) (fun n => Eq.refl _)
      · have zh5 := itn zh5 zc9
        suffices e : Ev (d + 3, 0, 0, 69, 17, [.val (.ref 1088), .val (.ref 1220), .val (.int v1)], [], (126, 120, L, [Y, T, HA, HB, RA, RB, ST, NS, I0, I1, I2, BO, FI, RG, GU, PU, MA, MN, MS, OT, SC], [r0, r1, r2, r3, w, r5, r6, r7, r8], Lg)) o from ev_f (c := x2 = (-1)) _ _ 2  zc9 e (fun n => Eq.refl _)
        obtain ⟨x3, zh10, zh5⟩ := bnd zh5
        have zh10 : rdx (MS 4) 10 v1 = some x3 := zh10
        suffices e : Ev (d + 3, 0, 0, 69, 22, [.val (.ref 1088), .val (.ref 1220), .val (.int v1)], [.int x3, .int v1, .ref 1088], (126, 120, L, [Y, T, HA, HB, RA, RB, ST, NS, I0, I1, I2, BO, FI, RG, GU, PU, MA, MN, MS, OT, SC], [r0, r1, r2, r3, w, r5, r6, r7, r8], Lg)) o from ev_opt (fun x3 => (d + 3, 0, 0, 69, 22, [.val (.ref 1088), .val (.ref 1220), .val (.int v1)], [.int x3, .int v1, .ref 1088], (126, 120, L, [Y, T, HA, HB, RA, RB, ST, NS, I0, I1, I2, BO, FI, RG, GU, PU, MA, MN, MS, OT, SC], [r0, r1, r2, r3, w, r5, r6, r7, r8], Lg))) 5 zh10 e (fun n => Eq.refl _)
        obtain ⟨x4, zh11, zh5⟩ := bnd zh5
        have zh11 : f_M_clashOf MA v1 x3 (MS 4) = some x4 := zh11
        have ze12 := R_f_M_clashOf_1 (d + 0) Y T HA HB RA RB ST NS I0 I1 I2 BO FI RG GU PU MA MN MS OT SC r0 r1 r2 r3 w r5 r6 r7 r8 L Lg v1 x3 zh11
        suffices e : Ev (d + 3, 0, 0, 69, 26, [.val (.ref 1088), .val (.ref 1220), .val (.int v1)], [.int x4], (126, 120, L, [Y, T, HA, HB, RA, RB, ST, NS, I0, I1, I2, BO, FI, RG, GU, PU, MA, MN, MS, OT, SC], [r0, r1, r2, r3, w, r5, r6, r7, r8], Lg)) o from ev_call (fun v μ => (d + 3, 0, 0, 69, 26, [.val (.ref 1088), .val (.ref 1220), .val (.int v1)], v.toList ++ [], μ)) 2 ze12 e (fun n => Eq.refl _)
        by_cases zc13 : x4 = 0
        · have zh5 := itp zh5 zc13
          suffices e : Ev (d + 3, 0, 0, 69, 31, [.val (.ref 1088), .val (.ref 1220), .val (.int v1)], [], (126, 120, L, [Y, T, HA, HB, RA, RB, ST, NS, I0, I1, I2, BO, FI, RG, GU, PU, MA, MN, MS, OT, SC], [r0, r1, r2, r3, w, r5, r6, r7, r8], Lg)) o from ev_t (c := x4 = 0) _ _ 1  zc13 e (fun n => Eq.refl _)
          exact ev_b 2 (zi3 _ (Option.some.inj zh5).symm ()) (fun n => Eq.refl _)
        · have zh5 := itn zh5 zc13
          suffices e : Ev (d + 3, 0, 0, 69, 29, [.val (.ref 1088), .val (.ref 1220), .val (.int v1)], [], (126, 120, L, [Y, T, HA, HB, RA, RB, ST, NS, I0, I1, I2, BO, FI, RG, GU, PU, MA, MN, MS, OT, SC], [r0, r1, r2, r3, w, r5, r6, r7, r8], Lg)) o from ev_f (c := x4 = 0) _ _ 1  zc13 e (fun n => Eq.refl _)
          exact ev_rete 2 (zx4 _ (Option.some.inj zh5).symm) (fun n => Eq.refl _)
  · rcases zb1 with ⟨⟩ | zr6
    · intro s5
      have ze14 := Option.some.inj h
      subst ze14
      exact ev_rete 2 ho (fun n => Eq.refl _)
    · have zh15 : some zr6 = some r := h
      exact (congrArg (fun q => ((0, some (.int q), (126, 120, L, [Y, T, HA, HB, RA, RB, ST, NS, I0, I1, I2, BO, FI, RG, GU, PU, MA, MN, MS, OT, SC], [r0, r1, r2, r3, w, r5, r6, r7, r8], Lg)) : AOut)) (Option.some.inj zh15)).trans ho
set_option maxRecDepth 1000000 in
set_option maxHeartbeats 4000000 in
theorem R_f_M_stay_0 (d : Nat) (Y T HA HB RA RB ST NS I0 I1 I2 BO FI RG GU PU MA MN MS OT SC : Nat → Nat → Int32) (r0 r1 r2 r3 w r5 r6 r7 r8 : Nat) (L : Nat) (Lg : Int64) (p1 : Int32) (p2 : Int32) {r : Int32 × (Nat → Nat → Int32)} (h : f_M_stay MA MS p1 p2 = some r) : Ev (d + 4, 0, 0, 90, 0, [.val (.ref 1088), .val (.int p1), .val (.int p2), .val a_unk], [], (126, 120, L, [Y, T, HA, HB, RA, RB, ST, NS, I0, I1, I2, BO, FI, RG, GU, PU, MA, MN, MS, OT, SC], [r0, r1, r2, r3, w, r5, r6, r7, r8], Lg)) ((0, some (.int r.1), (126, 120, L, [Y, T, HA, HB, RA, RB, ST, NS, I0, I1, I2, BO, FI, RG, GU, PU, MA, MN, r.2, OT, SC], [r0, r1, r2, r3, w, r5, r6, r7, r8], Lg)) : AOut) := by
  suffices key : ∀ o : AOut, ((0, some (.int r.1), (126, 120, L, [Y, T, HA, HB, RA, RB, ST, NS, I0, I1, I2, BO, FI, RG, GU, PU, MA, MN, r.2, OT, SC], [r0, r1, r2, r3, w, r5, r6, r7, r8], Lg)) : AOut) = o → Ev (d + 4, 0, 0, 90, 0, [.val (.ref 1088), .val (.int p1), .val (.int p2), .val a_unk], [], (126, 120, L, [Y, T, HA, HB, RA, RB, ST, NS, I0, I1, I2, BO, FI, RG, GU, PU, MA, MN, MS, OT, SC], [r0, r1, r2, r3, w, r5, r6, r7, r8], Lg)) o from key _ rfl
  intro o ho
  obtain ⟨MS_7, zh2, h⟩ := bnd h
  suffices e : Ev (d + 4, 0, 0, 90, 2, [.val (.ref 1088), .val (.int p1), .val (.int p2), .val (.int 0)], [], (126, 120, L, [Y, T, HA, HB, RA, RB, ST, NS, I0, I1, I2, BO, FI, RG, GU, PU, MA, MN, MS, OT, SC], [r0, r1, r2, r3, w, r5, r6, r7, r8], Lg)) o from ev_b 2 e (fun n => Eq.refl _)
  refine ev_loop (δ := Unit) (fun a j => (d + 4, 0, 0, 90, 2, [.val (.ref 1088), .val (.int p1), .val (.int p2), .val (.int a.1)], [], (126, 120, L, [Y, T, HA, HB, RA, RB, ST, NS, I0, I1, I2, BO, FI, RG, GU, PU, MA, MN, a.2, OT, SC], [r0, r1, r2, r3, w, r5, r6, r7, r8], Lg))) (fun b => ∀ s6 : Value, Ev (d + 4, 0, 0, 90, 46, [.val (.ref 1088), .val (.int p1), .val (.int p2), .val s6], [], (126, 120, L, [Y, T, HA, HB, RA, RB, ST, NS, I0, I1, I2, BO, FI, RG, GU, PU, MA, MN, b, OT, SC], [r0, r1, r2, r3, w, r5, r6, r7, r8], Lg)) o) ?_ a_F (0, MS) MS_7 zh2 ?_ ()
  · rintro ⟨v1, MS_2⟩ zr6 zh5 zi3 zx4 ⟨⟩
    have zh5 : f_M_stay_l2 MA p2 p1 v1 MS_2 = some zr6 := zh5
    by_cases zc7 : (MA 0 26) ≤ v1
    · have zh5 := itp zh5 zc7
      suffices e : Ev (d + 4, 0, 0, 90, 46, [.val (.ref 1088), .val (.int p1), .val (.int p2), .val (.int v1)], [], (126, 120, L, [Y, T, HA, HB, RA, RB, ST, NS, I0, I1, I2, BO, FI, RG, GU, PU, MA, MN, MS_2, OT, SC], [r0, r1, r2, r3, w, r5, r6, r7, r8], Lg)) o from ev_t (c := (MA 0 26) ≤ v1) _ _ 4  zc7 e (fun n => Eq.refl _)
      exact ev_b 0 (zx4 _ (Option.some.inj zh5).symm (.int v1)) (fun n => Eq.refl _)
    · have zh5 := itn zh5 zc7
      suffices e : Ev (d + 4, 0, 0, 90, 10, [.val (.ref 1088), .val (.int p1), .val (.int p2), .val (.int v1)], [], (126, 120, L, [Y, T, HA, HB, RA, RB, ST, NS, I0, I1, I2, BO, FI, RG, GU, PU, MA, MN, MS_2, OT, SC], [r0, r1, r2, r3, w, r5, r6, r7, r8], Lg)) o from ev_f (c := (MA 0 26) ≤ v1) _ _ 4  zc7 e (fun n => Eq.refl _)
      obtain ⟨zt8, zh9, zh5⟩ := bnd zh5
      have zj10 : ∀ (v4 : Int32), v4 = zt8 → Ev (d + 4, 0, 0, 90, 39, [.val (.ref 1088), .val (.int p1), .val (.int p2), .val (.int v1)], [.int v4, .int v1, .ref 1220], (126, 120, L, [Y, T, HA, HB, RA, RB, ST, NS, I0, I1, I2, BO, FI, RG, GU, PU, MA, MN, MS_2, OT, SC], [r0, r1, r2, r3, w, r5, r6, r7, r8], Lg)) o := by
        intro v4 ze11
        subst ze11
        obtain ⟨j5, zh12, zh5⟩ := bnd zh5
        have zh12 : ixx 10 v1 = some j5 := zh12
        suffices e : Ev (d + 4, 0, 0, 90, 40, [.val (.ref 1088), .val (.int p1), .val (.int p2), .val (.int v1)], [], (126, 120, L, [Y, T, HA, HB, RA, RB, ST, NS, I0, I1, I2, BO, FI, RG, GU, PU, MA, MN, (u2 MS_2 4 j5 v4), OT, SC], [r0, r1, r2, r3, w, r5, r6, r7, r8], Lg)) o from ev_opt (fun j5 => (d + 4, 0, 0, 90, 40, [.val (.ref 1088), .val (.int p1), .val (.int p2), .val (.int v1)], [], (126, 120, L, [Y, T, HA, HB, RA, RB, ST, NS, I0, I1, I2, BO, FI, RG, GU, PU, MA, MN, (u2 MS_2 4 j5 v4), OT, SC], [r0, r1, r2, r3, w, r5, r6, r7, r8], Lg))) 1 zh12 e (fun n => Eq.refl _)
        exact ev_b 2 (zi3 _ (Option.some.inj zh5).symm ()) (fun n => Eq.refl _)
      obtain ⟨zt13, zh14, zh9⟩ := bnd zh9
      have zj15 : zt13 = .inl () → Ev (d + 4, 0, 0, 90, 29, [.val (.ref 1088), .val (.int p1), .val (.int p2), .val (.int v1)], [.int v1, .ref 1220], (126, 120, L, [Y, T, HA, HB, RA, RB, ST, NS, I0, I1, I2, BO, FI, RG, GU, PU, MA, MN, MS_2, OT, SC], [r0, r1, r2, r3, w, r5, r6, r7, r8], Lg)) o := by
        intro ze16
        have zh9 := sum_l zh9 ze16
        exact ev_b 2 (zj10 (-1) (Option.some.inj zh9) ) (fun n => Eq.refl _)
      by_cases zc17 : v1 = p2
      · have zh14 := itp zh14 zc17
        suffices e : Ev (d + 4, 0, 0, 90, 29, [.val (.ref 1088), .val (.int p1), .val (.int p2), .val (.int v1)], [.int v1, .ref 1220], (126, 120, L, [Y, T, HA, HB, RA, RB, ST, NS, I0, I1, I2, BO, FI, RG, GU, PU, MA, MN, MS_2, OT, SC], [r0, r1, r2, r3, w, r5, r6, r7, r8], Lg)) o from ev_t (c := v1 = p2) _ _ 6  zc17 e (fun n => Eq.refl _)
        exact ev_b 0 (zj15  (Option.some.inj zh14).symm ) (fun n => Eq.refl _)
      · have zh14 := itn zh14 zc17
        suffices e : Ev (d + 4, 0, 0, 90, 20, [.val (.ref 1088), .val (.int p1), .val (.int p2), .val (.int v1)], [.int v1, .ref 1220], (126, 120, L, [Y, T, HA, HB, RA, RB, ST, NS, I0, I1, I2, BO, FI, RG, GU, PU, MA, MN, MS_2, OT, SC], [r0, r1, r2, r3, w, r5, r6, r7, r8], Lg)) o from ev_f (c := v1 = p2) _ _ 6  zc17 e (fun n => Eq.refl _)
        by_cases zc18 : ((a_shr p1 v1) &&& 1) ≠ 1
        · have zh14 := itp zh14 zc18
          suffices e : Ev (d + 4, 0, 0, 90, 33, [.val (.ref 1088), .val (.int p1), .val (.int p2), .val (.int v1)], [.int v1, .ref 1220], (126, 120, L, [Y, T, HA, HB, RA, RB, ST, NS, I0, I1, I2, BO, FI, RG, GU, PU, MA, MN, MS_2, OT, SC], [r0, r1, r2, r3, w, r5, r6, r7, r8], Lg)) o from ev_t (c := ((a_shr p1 v1) &&& 1) ≠ 1) _ _ 7  zc18 e (fun n => Eq.refl _)
          obtain ⟨x3, zh19, zh14⟩ := bnd zh14
          have zh19 : rdx (MA 7) 10 v1 = some x3 := zh19
          suffices e : Ev (d + 4, 0, 0, 90, 39, [.val (.ref 1088), .val (.int p1), .val (.int p2), .val (.int v1)], [.int x3, .int v1, .ref 1220], (126, 120, L, [Y, T, HA, HB, RA, RB, ST, NS, I0, I1, I2, BO, FI, RG, GU, PU, MA, MN, MS_2, OT, SC], [r0, r1, r2, r3, w, r5, r6, r7, r8], Lg)) o from ev_opt (fun x3 => (d + 4, 0, 0, 90, 39, [.val (.ref 1088), .val (.int p1), .val (.int p2), .val (.int v1)], [.int x3, .int v1, .ref 1220], (126, 120, L, [Y, T, HA, HB, RA, RB, ST, NS, I0, I1, I2, BO, FI, RG, GU, PU, MA, MN, MS_2, OT, SC], [r0, r1, r2, r3, w, r5, r6, r7, r8], Lg))) 4 zh19 e (fun n => Eq.refl _)
          have zh20 := sum_r zh9 (Option.some.inj zh14).symm
          exact ev_b 0 (zj10 x3 (Option.some.inj zh20) ) (fun n => Eq.refl _)
        · have zh14 := itn zh14 zc18
          suffices e : Ev (d + 4, 0, 0, 90, 29, [.val (.ref 1088), .val (.int p1), .val (.int p2), .val (.int v1)], [.int v1, .ref 1220], (126, 120, L, [Y, T, HA, HB, RA, RB, ST, NS, I0, I1, I2, BO, FI, RG, GU, PU, MA, MN, MS_2, OT, SC], [r0, r1, r2, r3, w, r5, r6, r7, r8], Lg)) o from ev_f (c := ((a_shr p1 v1) &&& 1) ≠ 1) _ _ 7  zc18 e (fun n => Eq.refl _)
          exact ev_b 0 (zj15  (Option.some.inj zh14).symm ) (fun n => Eq.refl _)
  · skip
    intro s6
    obtain ⟨x8, zh21, h⟩ := bnd h
    have zh21 : f_M_isLawful MA (MS_7 4) = some x8 := zh21
    have ze22 := R_f_M_isLawful_0 (d + 0) Y T HA HB RA RB ST NS I0 I1 I2 BO FI RG GU PU MA MN MS_7 OT SC r0 r1 r2 r3 w r5 r6 r7 r8 L Lg zh21
    suffices e : Ev (d + 4, 0, 0, 90, 54, [.val (.ref 1088), .val (.int p1), .val (.int p2), .val s6], [.int x8], (126, 120, L, [Y, T, HA, HB, RA, RB, ST, NS, I0, I1, I2, BO, FI, RG, GU, PU, MA, MN, MS_7, OT, SC], [r0, r1, r2, r3, w, r5, r6, r7, r8], Lg)) o from ev_call (fun v μ => (d + 4, 0, 0, 90, 54, [.val (.ref 1088), .val (.int p1), .val (.int p2), .val s6], v.toList ++ [], μ)) 4 ze22 e (fun n => Eq.refl _)
    have ze23 := Option.some.inj h
    subst ze23
    exact ev_rete 1 ho (fun n => Eq.refl _)
set_option maxRecDepth 1000000 in
set_option maxHeartbeats 4000000 in
theorem R_f_M_fitsIn_0 (d : Nat) (Y T HA HB RA RB ST NS I0 I1 I2 BO FI RG GU PU MA MN MS OT SC : Nat → Nat → Int32) (r0 r1 r2 r3 w r5 r6 r7 r8 : Nat) (L : Nat) (Lg : Int64) (p1 : Int32) (p2 : Int32) (p3 : Int32) {r : Int32 × (Nat → Nat → Int32)} (h : f_M_fitsIn MA MS p1 p2 p3 = some r) : Ev (d + 15, 0, 0, 91, 0, [.val (.ref 1088), .val (.int p1), .val (.int p2), .val (.int p3)], [], (126, 120, L, [Y, T, HA, HB, RA, RB, ST, NS, I0, I1, I2, BO, FI, RG, GU, PU, MA, MN, MS, OT, SC], [r0, r1, r2, r3, w, r5, r6, r7, r8], Lg)) ((0, some (.int r.1), (126, 120, L, [Y, T, HA, HB, RA, RB, ST, NS, I0, I1, I2, BO, FI, RG, GU, PU, MA, MN, r.2, OT, SC], [r0, r1, r2, r3, w, r5, r6, r7, r8], Lg)) : AOut) := by
  suffices key : ∀ o : AOut, ((0, some (.int r.1), (126, 120, L, [Y, T, HA, HB, RA, RB, ST, NS, I0, I1, I2, BO, FI, RG, GU, PU, MA, MN, r.2, OT, SC], [r0, r1, r2, r3, w, r5, r6, r7, r8], Lg)) : AOut) = o → Ev (d + 15, 0, 0, 91, 0, [.val (.ref 1088), .val (.int p1), .val (.int p2), .val (.int p3)], [], (126, 120, L, [Y, T, HA, HB, RA, RB, ST, NS, I0, I1, I2, BO, FI, RG, GU, PU, MA, MN, MS, OT, SC], [r0, r1, r2, r3, w, r5, r6, r7, r8], Lg)) o from key _ rfl
  intro o ho
  obtain ⟨⟨x1, MS_2⟩, zh1, h⟩ := bnd h
  have zh1 : f_M_stay MA MS p3 p1 = some (x1, MS_2) := zh1
  have ze2 := R_f_M_stay_0 (d + 10) Y T HA HB RA RB ST NS I0 I1 I2 BO FI RG GU PU MA MN MS OT SC r0 r1 r2 r3 w r5 r6 r7 r8 L Lg p3 p1 zh1
  suffices e : Ev (d + 15, 0, 0, 91, 6, [.val (.ref 1088), .val (.int p1), .val (.int p2), .val (.int p3)], [.int x1], (126, 120, L, [Y, T, HA, HB, RA, RB, ST, NS, I0, I1, I2, BO, FI, RG, GU, PU, MA, MN, MS_2, OT, SC], [r0, r1, r2, r3, w, r5, r6, r7, r8], Lg)) o from ev_call (fun v μ => (d + 15, 0, 0, 91, 6, [.val (.ref 1088), .val (.int p1), .val (.int p2), .val (.int p3)], v.toList ++ [], μ)) 4 ze2 e (fun n => Eq.refl _)
  by_cases zc3 : x1 = 0
  · have h := itp h zc3
    suffices e : Ev (d + 15, 0, 0, 91, 22, [.val (.ref 1088), .val (.int p1), .val (.int p2), .val (.int p3)], [], (126, 120, L, [Y, T, HA, HB, RA, RB, ST, NS, I0, I1, I2, BO, FI, RG, GU, PU, MA, MN, MS_2, OT, SC], [r0, r1, r2, r3, w, r5, r6, r7, r8], Lg)) o from ev_t (c := x1 = 0) _ _ 1  zc3 e (fun n => Eq.refl _)
    have ze4 := Option.some.inj h
    subst ze4
    exact ev_rete 2 ho (fun n => Eq.refl _)
  · have h := itn h zc3
    suffices e : Ev (d + 15, 0, 0, 91, 9, [.val (.ref 1088), .val (.int p1), .val (.int p2), .val (.int p3)], [], (126, 120, L, [Y, T, HA, HB, RA, RB, ST, NS, I0, I1, I2, BO, FI, RG, GU, PU, MA, MN, MS_2, OT, SC], [r0, r1, r2, r3, w, r5, r6, r7, r8], Lg)) o from ev_f (c := x1 = 0) _ _ 1  zc3 e (fun n => Eq.refl _)
    obtain ⟨x3, zh5, h⟩ := bnd h
    have zh5 : f_M_clashOf MA p1 p2 (MS_2 4) = some x3 := zh5
    have ze6 := R_f_M_clashOf_1 (d + 12) Y T HA HB RA RB ST NS I0 I1 I2 BO FI RG GU PU MA MN MS_2 OT SC r0 r1 r2 r3 w r5 r6 r7 r8 L Lg p1 p2 zh5
    suffices e : Ev (d + 15, 0, 0, 91, 19, [.val (.ref 1088), .val (.int p1), .val (.int p2), .val (.int p3)], [.int x3], (126, 120, L, [Y, T, HA, HB, RA, RB, ST, NS, I0, I1, I2, BO, FI, RG, GU, PU, MA, MN, MS_2, OT, SC], [r0, r1, r2, r3, w, r5, r6, r7, r8], Lg)) o from ev_call (fun v μ => (d + 15, 0, 0, 91, 19, [.val (.ref 1088), .val (.int p1), .val (.int p2), .val (.int p3)], v.toList ++ [], μ)) 6 ze6 e (fun n => Eq.refl _)
    by_cases zc7 : x3 = 0
    · have h := itp h zc7
      suffices e : Ev (d + 15, 0, 0, 91, 24, [.val (.ref 1088), .val (.int p1), .val (.int p2), .val (.int p3)], [], (126, 120, L, [Y, T, HA, HB, RA, RB, ST, NS, I0, I1, I2, BO, FI, RG, GU, PU, MA, MN, MS_2, OT, SC], [r0, r1, r2, r3, w, r5, r6, r7, r8], Lg)) o from ev_t (c := x3 = 0) _ _ 1  zc7 e (fun n => Eq.refl _)
      obtain ⟨j4, zh8, h⟩ := bnd h
      have zh8 : ixx 10 p1 = some j4 := zh8
      suffices e : Ev (d + 15, 0, 0, 91, 31, [.val (.ref 1088), .val (.int p1), .val (.int p2), .val (.int p3)], [], (126, 120, L, [Y, T, HA, HB, RA, RB, ST, NS, I0, I1, I2, BO, FI, RG, GU, PU, MA, MN, (u2 MS_2 4 j4 p2), OT, SC], [r0, r1, r2, r3, w, r5, r6, r7, r8], Lg)) o from ev_opt (fun j4 => (d + 15, 0, 0, 91, 31, [.val (.ref 1088), .val (.int p1), .val (.int p2), .val (.int p3)], [], (126, 120, L, [Y, T, HA, HB, RA, RB, ST, NS, I0, I1, I2, BO, FI, RG, GU, PU, MA, MN, (u2 MS_2 4 j4 p2), OT, SC], [r0, r1, r2, r3, w, r5, r6, r7, r8], Lg))) 5 zh8 e (fun n => Eq.refl _)
      obtain ⟨⟨x5, MS_6⟩, zh9, h⟩ := bnd h
      have zh9 : f_grp_mp 12 0 MA (u2 MS_2 4 j4 p2) p3 0 = some (x5, MS_6) := zh9
      have ze10 := (K_grp_mp_0 12) (d + 0) Y T HA HB RA RB ST NS I0 I1 I2 BO FI RG GU PU MA MN (u2 MS_2 4 j4 p2) OT SC r0 r1 r2 r3 w r5 r6 r7 r8 L Lg p3 0 _ zh9
      suffices e : Ev (d + 15, 0, 0, 91, 37, [.val (.ref 1088), .val (.int p1), .val (.int p2), .val (.int p3)], [.int x5], (126, 120, L, [Y, T, HA, HB, RA, RB, ST, NS, I0, I1, I2, BO, FI, RG, GU, PU, MA, MN, MS_6, OT, SC], [r0, r1, r2, r3, w, r5, r6, r7, r8], Lg)) o from ev_call (fun v μ => (d + 15, 0, 0, 91, 37, [.val (.ref 1088), .val (.int p1), .val (.int p2), .val (.int p3)], v.toList ++ [], μ)) 4 ze10 e (fun n => Eq.refl _)
      have ze11 := Option.some.inj h
      subst ze11
      exact ev_rete 1 ho (fun n => Eq.refl _)
    · have h := itn h zc7
      suffices e : Ev (d + 15, 0, 0, 91, 22, [.val (.ref 1088), .val (.int p1), .val (.int p2), .val (.int p3)], [], (126, 120, L, [Y, T, HA, HB, RA, RB, ST, NS, I0, I1, I2, BO, FI, RG, GU, PU, MA, MN, MS_2, OT, SC], [r0, r1, r2, r3, w, r5, r6, r7, r8], Lg)) o from ev_f (c := x3 = 0) _ _ 1  zc7 e (fun n => Eq.refl _)
      have ze12 := Option.some.inj h
      subst ze12
      exact ev_rete 2 ho (fun n => Eq.refl _)
set_option maxRecDepth 1000000 in
set_option maxHeartbeats 4000000 in
theorem R_f_M_costOf_0 (d : Nat) (Y T HA HB RA RB ST NS I0 I1 I2 BO FI RG GU PU MA MN MS OT SC : Nat → Nat → Int32) (r0 r1 r2 r3 w r5 r6 r7 r8 : Nat) (L : Nat) (Lg : Int64) (p1 : Int32) {r : Int32} (h : f_M_costOf MA p1 = some r) : Ev (d + 0, 0, 0, 92, 0, [.val (.ref 1088), .val (.int p1), .val a_unk, .val a_unk], [], (126, 120, L, [Y, T, HA, HB, RA, RB, ST, NS, I0, I1, I2, BO, FI, RG, GU, PU, MA, MN, MS, OT, SC], [r0, r1, r2, r3, w, r5, r6, r7, r8], Lg)) ((0, some (.int r), (126, 120, L, [Y, T, HA, HB, RA, RB, ST, NS, I0, I1, I2, BO, FI, RG, GU, PU, MA, MN, MS, OT, SC], [r0, r1, r2, r3, w, r5, r6, r7, r8], Lg)) : AOut) := by
  suffices key : ∀ o : AOut, ((0, some (.int r), (126, 120, L, [Y, T, HA, HB, RA, RB, ST, NS, I0, I1, I2, BO, FI, RG, GU, PU, MA, MN, MS, OT, SC], [r0, r1, r2, r3, w, r5, r6, r7, r8], Lg)) : AOut) = o → Ev (d + 0, 0, 0, 92, 0, [.val (.ref 1088), .val (.int p1), .val a_unk, .val a_unk], [], (126, 120, L, [Y, T, HA, HB, RA, RB, ST, NS, I0, I1, I2, BO, FI, RG, GU, PU, MA, MN, MS, OT, SC], [r0, r1, r2, r3, w, r5, r6, r7, r8], Lg)) o from key _ rfl
  intro o ho
  obtain ⟨x1, zh1, h⟩ := bnd h
  have zh1 : rdx (MA 5) 60 ((6 * p1) + 1) = some x1 := zh1
  suffices e : Ev (d + 0, 0, 0, 92, 11, [.val (.ref 1088), .val (.int p1), .val a_unk, .val a_unk], [.int x1], (126, 120, L, [Y, T, HA, HB, RA, RB, ST, NS, I0, I1, I2, BO, FI, RG, GU, PU, MA, MN, MS, OT, SC], [r0, r1, r2, r3, w, r5, r6, r7, r8], Lg)) o from ev_opt (fun x1 => (d + 0, 0, 0, 92, 11, [.val (.ref 1088), .val (.int p1), .val a_unk, .val a_unk], [.int x1], (126, 120, L, [Y, T, HA, HB, RA, RB, ST, NS, I0, I1, I2, BO, FI, RG, GU, PU, MA, MN, MS, OT, SC], [r0, r1, r2, r3, w, r5, r6, r7, r8], Lg))) 8 zh1 e (fun n => Eq.refl _)
  obtain ⟨v6, zh3, h⟩ := bnd h
  suffices e : Ev (d + 0, 0, 0, 92, 14, [.val (.ref 1088), .val (.int p1), .val (.int x1), .val (.int 0)], [], (126, 120, L, [Y, T, HA, HB, RA, RB, ST, NS, I0, I1, I2, BO, FI, RG, GU, PU, MA, MN, MS, OT, SC], [r0, r1, r2, r3, w, r5, r6, r7, r8], Lg)) o from ev_b 3 e (fun n => Eq.refl _)
  refine ev_loop (δ := Unit) (fun a j => (d + 0, 0, 0, 92, 14, [.val (.ref 1088), .val (.int p1), .val (.int a.1), .val (.int a.2)], [], (126, 120, L, [Y, T, HA, HB, RA, RB, ST, NS, I0, I1, I2, BO, FI, RG, GU, PU, MA, MN, MS, OT, SC], [r0, r1, r2, r3, w, r5, r6, r7, r8], Lg))) (fun b => ∀ s7 : Value, Ev (d + 0, 0, 0, 92, 62, [.val (.ref 1088), .val (.int p1), .val (.int b), .val s7], [], (126, 120, L, [Y, T, HA, HB, RA, RB, ST, NS, I0, I1, I2, BO, FI, RG, GU, PU, MA, MN, MS, OT, SC], [r0, r1, r2, r3, w, r5, r6, r7, r8], Lg)) o) ?_ a_F (x1, 0) v6 zh3 ?_ ()
  · rintro ⟨v2, v3⟩ zr7 zh6 zi4 zx5 ⟨⟩
    have zh6 : f_M_costOf_l14 MA p1 v2 v3 = some zr7 := zh6
    by_cases zc8 : (MA 0 25) ≤ v3
    · have zh6 := itp zh6 zc8
      suffices e : Ev (d + 0, 0, 0, 92, 62, [.val (.ref 1088), .val (.int p1), .val (.int v2), .val (.int v3)], [], (126, 120, L, [Y, T, HA, HB, RA, RB, ST, NS, I0, I1, I2, BO, FI, RG, GU, PU, MA, MN, MS, OT, SC], [r0, r1, r2, r3, w, r5, r6, r7, r8], Lg)) o from ev_t (c := (MA 0 25) ≤ v3) _ _ 4  zc8 e (fun n => Eq.refl _)
      exact ev_b 0 (zx5 _ (Option.some.inj zh6).symm (.int v3)) (fun n => Eq.refl _)
    · have zh6 := itn zh6 zc8
      suffices e : Ev (d + 0, 0, 0, 92, 22, [.val (.ref 1088), .val (.int p1), .val (.int v2), .val (.int v3)], [], (126, 120, L, [Y, T, HA, HB, RA, RB, ST, NS, I0, I1, I2, BO, FI, RG, GU, PU, MA, MN, MS, OT, SC], [r0, r1, r2, r3, w, r5, r6, r7, r8], Lg)) o from ev_f (c := (MA 0 25) ≤ v3) _ _ 4  zc8 e (fun n => Eq.refl _)
      obtain ⟨x4, zh9, zh6⟩ := bnd zh6
      have zh9 : rdx (MA 5) 60 ((6 * p1) + 2) = some x4 := zh9
      suffices e : Ev (d + 0, 0, 0, 92, 34, [.val (.ref 1088), .val (.int p1), .val (.int v2), .val (.int v3)], [.int x4, .int v2], (126, 120, L, [Y, T, HA, HB, RA, RB, ST, NS, I0, I1, I2, BO, FI, RG, GU, PU, MA, MN, MS, OT, SC], [r0, r1, r2, r3, w, r5, r6, r7, r8], Lg)) o from ev_opt (fun x4 => (d + 0, 0, 0, 92, 34, [.val (.ref 1088), .val (.int p1), .val (.int v2), .val (.int v3)], [.int x4, .int v2], (126, 120, L, [Y, T, HA, HB, RA, RB, ST, NS, I0, I1, I2, BO, FI, RG, GU, PU, MA, MN, MS, OT, SC], [r0, r1, r2, r3, w, r5, r6, r7, r8], Lg))) 9 zh9 e (fun n => Eq.refl _)
      by_cases zc10 : ((a_shr x4 v3) &&& 1) ≠ 1
      · have zh6 := itp zh6 zc10
        suffices e : Ev (d + 0, 0, 0, 92, 53, [.val (.ref 1088), .val (.int p1), .val (.int v2), .val (.int v3)], [.int v2], (126, 120, L, [Y, T, HA, HB, RA, RB, ST, NS, I0, I1, I2, BO, FI, RG, GU, PU, MA, MN, MS, OT, SC], [r0, r1, r2, r3, w, r5, r6, r7, r8], Lg)) o from ev_t (c := ((a_shr x4 v3) &&& 1) ≠ 1) _ _ 6  zc10 e (fun n => Eq.refl _)
        exact ev_b 5 (zi4 _ (Option.some.inj zh6).symm ()) (fun n => Eq.refl _)
      · have zh6 := itn zh6 zc10
        suffices e : Ev (d + 0, 0, 0, 92, 42, [.val (.ref 1088), .val (.int p1), .val (.int v2), .val (.int v3)], [.int v2], (126, 120, L, [Y, T, HA, HB, RA, RB, ST, NS, I0, I1, I2, BO, FI, RG, GU, PU, MA, MN, MS, OT, SC], [r0, r1, r2, r3, w, r5, r6, r7, r8], Lg)) o from ev_f (c := ((a_shr x4 v3) &&& 1) ≠ 1) _ _ 6  zc10 e (fun n => Eq.refl _)
        obtain ⟨x5, zh11, zh6⟩ := bnd zh6
        have zh11 : rdx (MA 4) 24 (3 * v3) = some x5 := zh11
        suffices e : Ev (d + 0, 0, 0, 92, 50, [.val (.ref 1088), .val (.int p1), .val (.int v2), .val (.int v3)], [.int x5, .int v2], (126, 120, L, [Y, T, HA, HB, RA, RB, ST, NS, I0, I1, I2, BO, FI, RG, GU, PU, MA, MN, MS, OT, SC], [r0, r1, r2, r3, w, r5, r6, r7, r8], Lg)) o from ev_opt (fun x5 => (d + 0, 0, 0, 92, 50, [.val (.ref 1088), .val (.int p1), .val (.int v2), .val (.int v3)], [.int x5, .int v2], (126, 120, L, [Y, T, HA, HB, RA, RB, ST, NS, I0, I1, I2, BO, FI, RG, GU, PU, MA, MN, MS, OT, SC], [r0, r1, r2, r3, w, r5, r6, r7, r8], Lg))) 6 zh11 e (fun n => Eq.refl _)
        exact ev_b 5 (zi4 _ (Option.some.inj zh6).symm ()) (fun n => Eq.refl _)
  · skip
    intro s7
    have ze12 := Option.some.inj h
    subst ze12
    exact ev_rete 2 ho (fun n => Eq.refl _)
set_option maxRecDepth 1000000 in
set_option maxHeartbeats 4000000 in
theorem R_f_M_costsOf_0 (d : Nat) (Y T HA HB RA RB ST NS I0 I1 I2 BO FI RG GU PU MA MN MS OT SC : Nat → Nat → Int32) (r0 r1 r2 r3 w r5 r6 r7 r8 : Nat) (L : Nat) (Lg : Int64) (p1 : Int32) {r : Int32} (h : f_M_costsOf MA p1 = some r) : Ev (d + 1, 0, 0, 93, 0, [.val (.ref 1088), .val (.int p1), .val a_unk, .val a_unk], [], (126, 120, L, [Y, T, HA, HB, RA, RB, ST, NS, I0, I1, I2, BO, FI, RG, GU, PU, MA, MN, MS, OT, SC], [r0, r1, r2, r3, w, r5, r6, r7, r8], Lg)) ((0, some (.int r), (126, 120, L, [Y, T, HA, HB, RA, RB, ST, NS, I0, I1, I2, BO, FI, RG, GU, PU, MA, MN, MS, OT, SC], [r0, r1, r2, r3, w, r5, r6, r7, r8], Lg)) : AOut) := by
  suffices key : ∀ o : AOut, ((0, some (.int r), (126, 120, L, [Y, T, HA, HB, RA, RB, ST, NS, I0, I1, I2, BO, FI, RG, GU, PU, MA, MN, MS, OT, SC], [r0, r1, r2, r3, w, r5, r6, r7, r8], Lg)) : AOut) = o → Ev (d + 1, 0, 0, 93, 0, [.val (.ref 1088), .val (.int p1), .val a_unk, .val a_unk], [], (126, 120, L, [Y, T, HA, HB, RA, RB, ST, NS, I0, I1, I2, BO, FI, RG, GU, PU, MA, MN, MS, OT, SC], [r0, r1, r2, r3, w, r5, r6, r7, r8], Lg)) o from key _ rfl
  intro o ho
  obtain ⟨v4, zh2, h⟩ := bnd h
  suffices e : Ev (d + 1, 0, 0, 93, 4, [.val (.ref 1088), .val (.int p1), .val (.int 0), .val (.int 0)], [], (126, 120, L, [Y, T, HA, HB, RA, RB, ST, NS, I0, I1, I2, BO, FI, RG, GU, PU, MA, MN, MS, OT, SC], [r0, r1, r2, r3, w, r5, r6, r7, r8], Lg)) o from ev_b 4 e (fun n => Eq.refl _)
  refine ev_loop (δ := Unit) (fun a j => (d + 1, 0, 0, 93, 4, [.val (.ref 1088), .val (.int p1), .val (.int a.1), .val (.int a.2)], [], (126, 120, L, [Y, T, HA, HB, RA, RB, ST, NS, I0, I1, I2, BO, FI, RG, GU, PU, MA, MN, MS, OT, SC], [r0, r1, r2, r3, w, r5, r6, r7, r8], Lg))) (fun b => ∀ s5 : Value, Ev (d + 1, 0, 0, 93, 39, [.val (.ref 1088), .val (.int p1), .val (.int b), .val s5], [], (126, 120, L, [Y, T, HA, HB, RA, RB, ST, NS, I0, I1, I2, BO, FI, RG, GU, PU, MA, MN, MS, OT, SC], [r0, r1, r2, r3, w, r5, r6, r7, r8], Lg)) o) ?_ a_F (0, 0) v4 zh2 ?_ ()
  · rintro ⟨v1, v2⟩ zr6 zh5 zi3 zx4 ⟨⟩
    have zh5 : f_M_costsOf_l4 MA p1 v1 v2 = some zr6 := zh5
    by_cases zc7 : (MA 0 26) ≤ v2
    · have zh5 := itp zh5 zc7
      suffices e : Ev (d + 1, 0, 0, 93, 39, [.val (.ref 1088), .val (.int p1), .val (.int v1), .val (.int v2)], [], (126, 120, L, [Y, T, HA, HB, RA, RB, ST, NS, I0, I1, I2, BO, FI, RG, GU, PU, MA, MN, MS, OT, SC], [r0, r1, r2, r3, w, r5, r6, r7, r8], Lg)) o from ev_t (c := (MA 0 26) ≤ v2) _ _ 4  zc7 e (fun n => Eq.refl _)
      exact ev_b 0 (zx4 _ (Option.some.inj zh5).symm (.int v2)) (fun n => Eq.refl _)
    · have zh5 := itn zh5 zc7
      suffices e : Ev (d + 1, 0, 0, 93, 12, [.val (.ref 1088), .val (.int p1), .val (.int v1), .val (.int v2)], [], (126, 120, L, [Y, T, HA, HB, RA, RB, ST, NS, I0, I1, I2, BO, FI, RG, GU, PU, MA, MN, MS, OT, SC], [r0, r1, r2, r3, w, r5, r6, r7, r8], Lg)) o from ev_f (c := (MA 0 26) ≤ v2) _ _ 4  zc7 e (fun n => Eq.refl _)
      by_cases zc8 : ((a_shr p1 v2) &&& 1) ≠ 1
      · have zh5 := itp zh5 zc8
        suffices e : Ev (d + 1, 0, 0, 93, 30, [.val (.ref 1088), .val (.int p1), .val (.int v1), .val (.int v2)], [.int v1], (126, 120, L, [Y, T, HA, HB, RA, RB, ST, NS, I0, I1, I2, BO, FI, RG, GU, PU, MA, MN, MS, OT, SC], [r0, r1, r2, r3, w, r5, r6, r7, r8], Lg)) o from ev_t (c := ((a_shr p1 v2) &&& 1) ≠ 1) _ _ 8  zc8 e (fun n => Eq.refl _)
        exact ev_b 5 (zi3 _ (Option.some.inj zh5).symm ()) (fun n => Eq.refl _)
      · have zh5 := itn zh5 zc8
        suffices e : Ev (d + 1, 0, 0, 93, 22, [.val (.ref 1088), .val (.int p1), .val (.int v1), .val (.int v2)], [.int v1], (126, 120, L, [Y, T, HA, HB, RA, RB, ST, NS, I0, I1, I2, BO, FI, RG, GU, PU, MA, MN, MS, OT, SC], [r0, r1, r2, r3, w, r5, r6, r7, r8], Lg)) o from ev_f (c := ((a_shr p1 v2) &&& 1) ≠ 1) _ _ 8  zc8 e (fun n => Eq.refl _)
        obtain ⟨x3, zh9, zh5⟩ := bnd zh5
        have zh9 : f_M_costOf MA v2 = some x3 := zh9
        have ze10 := R_f_M_costOf_0 (d + 0) Y T HA HB RA RB ST NS I0 I1 I2 BO FI RG GU PU MA MN MS OT SC r0 r1 r2 r3 w r5 r6 r7 r8 L Lg v2 zh9
        suffices e : Ev (d + 1, 0, 0, 93, 27, [.val (.ref 1088), .val (.int p1), .val (.int v1), .val (.int v2)], [.int x3, .int v1], (126, 120, L, [Y, T, HA, HB, RA, RB, ST, NS, I0, I1, I2, BO, FI, RG, GU, PU, MA, MN, MS, OT, SC], [r0, r1, r2, r3, w, r5, r6, r7, r8], Lg)) o from ev_call (fun v μ => (d + 1, 0, 0, 93, 27, [.val (.ref 1088), .val (.int p1), .val (.int v1), .val (.int v2)], v.toList ++ [.int v1], μ)) 3 ze10 e (fun n => Eq.refl _)
        exact ev_b 5 (zi3 _ (Option.some.inj zh5).symm ()) (fun n => Eq.refl _)
  · skip
    intro s5
    have ze11 := Option.some.inj h
    subst ze11
    exact ev_rete 2 ho (fun n => Eq.refl _)
set_option maxRecDepth 1000000 in
set_option maxHeartbeats 4000000 in
theorem R_f_M_canMove_0 (d : Nat) (Y T HA HB RA RB ST NS I0 I1 I2 BO FI RG GU PU MA MN MS OT SC : Nat → Nat → Int32) (r0 r1 r2 r3 w r5 r6 r7 r8 : Nat) (L : Nat) (Lg : Int64) (p1 : Int32) {r : Int32} (h : f_M_canMove MA p1 = some r) : Ev (d + 1, 0, 0, 94, 0, [.val (.ref 1088), .val (.int p1), .val a_unk], [], (126, 120, L, [Y, T, HA, HB, RA, RB, ST, NS, I0, I1, I2, BO, FI, RG, GU, PU, MA, MN, MS, OT, SC], [r0, r1, r2, r3, w, r5, r6, r7, r8], Lg)) ((0, some (.int r), (126, 120, L, [Y, T, HA, HB, RA, RB, ST, NS, I0, I1, I2, BO, FI, RG, GU, PU, MA, MN, MS, OT, SC], [r0, r1, r2, r3, w, r5, r6, r7, r8], Lg)) : AOut) := by
  suffices key : ∀ o : AOut, ((0, some (.int r), (126, 120, L, [Y, T, HA, HB, RA, RB, ST, NS, I0, I1, I2, BO, FI, RG, GU, PU, MA, MN, MS, OT, SC], [r0, r1, r2, r3, w, r5, r6, r7, r8], Lg)) : AOut) = o → Ev (d + 1, 0, 0, 94, 0, [.val (.ref 1088), .val (.int p1), .val a_unk], [], (126, 120, L, [Y, T, HA, HB, RA, RB, ST, NS, I0, I1, I2, BO, FI, RG, GU, PU, MA, MN, MS, OT, SC], [r0, r1, r2, r3, w, r5, r6, r7, r8], Lg)) o from key _ rfl
  intro o ho
  obtain ⟨zb1, zh2, h⟩ := bnd h
  suffices e : Ev (d + 1, 0, 0, 94, 2, [.val (.ref 1088), .val (.int p1), .val (.int 0)], [], (126, 120, L, [Y, T, HA, HB, RA, RB, ST, NS, I0, I1, I2, BO, FI, RG, GU, PU, MA, MN, MS, OT, SC], [r0, r1, r2, r3, w, r5, r6, r7, r8], Lg)) o from ev_b 2 e (fun n => Eq.refl _)
  refine ev_loop (δ := Unit) (fun a j => (d + 1, 0, 0, 94, 2, [.val (.ref 1088), .val (.int p1), .val (.int a)], [], (126, 120, L, [Y, T, HA, HB, RA, RB, ST, NS, I0, I1, I2, BO, FI, RG, GU, PU, MA, MN, MS, OT, SC], [r0, r1, r2, r3, w, r5, r6, r7, r8], Lg))) (fun b => sumE b (fun b => ∀ s4 : Value, Ev (d + 1, 0, 0, 94, 45, [.val (.ref 1088), .val (.int p1), .val s4], [], (126, 120, L, [Y, T, HA, HB, RA, RB, ST, NS, I0, I1, I2, BO, FI, RG, GU, PU, MA, MN, MS, OT, SC], [r0, r1, r2, r3, w, r5, r6, r7, r8], Lg)) o) (fun b => ((0, some (.int b), (126, 120, L, [Y, T, HA, HB, RA, RB, ST, NS, I0, I1, I2, BO, FI, RG, GU, PU, MA, MN, MS, OT, SC], [r0, r1, r2, r3, w, r5, r6, r7, r8], Lg)) : AOut) = o)) ?_ a_F 0 zb1 zh2 ?_ ()
  · rintro v1 zr6 zh5 zi3 zx4 ⟨⟩
    have zh5 : f_M_canMove_l2 MA p1 v1 = some zr6 := zh5
    by_cases zc7 : (MA 0 26) ≤ v1
    · have zh5 := itp zh5 zc7
      suffices e : Ev (d + 1, 0, 0, 94, 45, [.val (.ref 1088), .val (.int p1), .val (.int v1)], [], (126, 120, L, [Y, T, HA, HB, RA, RB, ST, NS, I0, I1, I2, BO, FI, RG, GU, PU, MA, MN, MS, OT, SC], [r0, r1, r2, r3, w, r5, r6, r7, r8], Lg)) o from ev_t (c := (MA 0 26) ≤ v1) _ _ 4  zc7 e (fun n => Eq.refl _)
      exact ev_b 0 (zx4 _ (Option.some.inj zh5).symm (.int v1)) (fun n => Eq.refl _)
    · have zh5 := itn zh5 zc7
      suffices e : Ev (d + 1, 0, 0, 94, 10, [.val (.ref 1088), .val (.int p1), .val (.int v1)], [], (126, 120, L, [Y, T, HA, HB, RA, RB, ST, NS, I0, I1, I2, BO, FI, RG, GU, PU, MA, MN, MS, OT, SC], [r0, r1, r2, r3, w, r5, r6, r7, r8], Lg)) o from ev_f (c := (MA 0 26) ≤ v1) _ _ 4  zc7 e (fun n => Eq.refl _)
      by_cases zc8 : ((a_shr p1 v1) &&& 1) ≠ 1
      · have zh5 := itp zh5 zc8
        suffices e : Ev (d + 1, 0, 0, 94, 39, [.val (.ref 1088), .val (.int p1), .val (.int v1)], [], (126, 120, L, [Y, T, HA, HB, RA, RB, ST, NS, I0, I1, I2, BO, FI, RG, GU, PU, MA, MN, MS, OT, SC], [r0, r1, r2, r3, w, r5, r6, r7, r8], Lg)) o from ev_t (c := ((a_shr p1 v1) &&& 1) ≠ 1) _ _ 7  zc8 e (fun n => Eq.refl _)
        exact ev_b 2 (zi3 _ (Option.some.inj zh5).symm ()) (fun n => Eq.refl _)
      · have zh5 := itn zh5 zc8
        suffices e : Ev (d + 1, 0, 0, 94, 19, [.val (.ref 1088), .val (.int p1), .val (.int v1)], [], (126, 120, L, [Y, T, HA, HB, RA, RB, ST, NS, I0, I1, I2, BO, FI, RG, GU, PU, MA, MN, MS, OT, SC], [r0, r1, r2, r3, w, r5, r6, r7, r8], Lg)) o from ev_f (c := ((a_shr p1 v1) &&& 1) ≠ 1) _ _ 7  zc8 e (fun n => Eq.refl _)
        obtain ⟨x2, zh9, zh5⟩ := bnd zh5
        have zh9 : rdx (MA 7) 10 v1 = some x2 := zh9
        suffices e : Ev (d + 1, 0, 0, 94, 25, [.val (.ref 1088), .val (.int p1), .val (.int v1)], [.int x2], (126, 120, L, [Y, T, HA, HB, RA, RB, ST, NS, I0, I1, I2, BO, FI, RG, GU, PU, MA, MN, MS, OT, SC], [r0, r1, r2, r3, w, r5, r6, r7, r8], Lg)) o from ev_opt (fun x2 => (d + 1, 0, 0, 94, 25, [.val (.ref 1088), .val (.int p1), .val (.int v1)], [.int x2], (126, 120, L, [Y, T, HA, HB, RA, RB, ST, NS, I0, I1, I2, BO, FI, RG, GU, PU, MA, MN, MS, OT, SC], [r0, r1, r2, r3, w, r5, r6, r7, r8], Lg))) 4 zh9 e (fun n => Eq.refl _)
        by_cases zc10 : x2 = (-1)
        · have zh5 := itp zh5 zc10
          suffices e : Ev (d + 1, 0, 0, 94, 37, [.val (.ref 1088), .val (.int p1), .val (.int v1)], [], (126, 120, L, [Y, T, HA, HB, RA, RB, ST, NS, I0, I1, I2, BO, FI, RG, GU, PU, MA, MN, MS, OT, SC], [r0, r1, r2, r3, w, r5, r6, r7, r8], Lg)) o from ev_t (c := x2 = (-1)) _ _ 2  zc10 e (fun n => Eq.refl _)
          exact ev_rete 2 (zx4 _ (Option.some.inj zh5).symm) (fun n => Eq.refl _)
        · have zh5 := itn zh5 zc10
          suffices e : Ev (d + 1, 0, 0, 94, 29, [.val (.ref 1088), .val (.int p1), .val (.int v1)], [], (126, 120, L, [Y, T, HA, HB, RA, RB, ST, NS, I0, I1, I2, BO, FI, RG, GU, PU, MA, MN, MS, OT, SC], [r0, r1, r2, r3, w, r5, r6, r7, r8], Lg)) o from ev_f (c := x2 = (-1)) _ _ 2  zc10 e (fun n => Eq.refl _)
          obtain ⟨x3, zh11, zh5⟩ := bnd zh5
          have zh11 : f_M_isFixed MA v1 = some x3 := zh11
          have ze12 := R_f_M_isFixed_0 (d + 0) Y T HA HB RA RB ST NS I0 I1 I2 BO FI RG GU PU MA MN MS OT SC r0 r1 r2 r3 w r5 r6 r7 r8 L Lg v1 zh11
          suffices e : Ev (d + 1, 0, 0, 94, 34, [.val (.ref 1088), .val (.int p1), .val (.int v1)], [.int x3], (126, 120, L, [Y, T, HA, HB, RA, RB, ST, NS, I0, I1, I2, BO, FI, RG, GU, PU, MA, MN, MS, OT, SC], [r0, r1, r2, r3, w, r5, r6, r7, r8], Lg)) o from ev_call (fun v μ => (d + 1, 0, 0, 94, 34, [.val (.ref 1088), .val (.int p1), .val (.int v1)], v.toList ++ [], μ)) 3 ze12 e (fun n => Eq.refl _)
          by_cases zc13 : x3 = 0
          · have zh5 := itp zh5 zc13
            suffices e : Ev (d + 1, 0, 0, 94, 39, [.val (.ref 1088), .val (.int p1), .val (.int v1)], [], (126, 120, L, [Y, T, HA, HB, RA, RB, ST, NS, I0, I1, I2, BO, FI, RG, GU, PU, MA, MN, MS, OT, SC], [r0, r1, r2, r3, w, r5, r6, r7, r8], Lg)) o from ev_t (c := x3 = 0) _ _ 1  zc13 e (fun n => Eq.refl _)
            exact ev_b 2 (zi3 _ (Option.some.inj zh5).symm ()) (fun n => Eq.refl _)
          · have zh5 := itn zh5 zc13
            suffices e : Ev (d + 1, 0, 0, 94, 37, [.val (.ref 1088), .val (.int p1), .val (.int v1)], [], (126, 120, L, [Y, T, HA, HB, RA, RB, ST, NS, I0, I1, I2, BO, FI, RG, GU, PU, MA, MN, MS, OT, SC], [r0, r1, r2, r3, w, r5, r6, r7, r8], Lg)) o from ev_f (c := x3 = 0) _ _ 1  zc13 e (fun n => Eq.refl _)
            exact ev_rete 2 (zx4 _ (Option.some.inj zh5).symm) (fun n => Eq.refl _)
  · rcases zb1 with ⟨⟩ | zr6
    · intro s4
      have ze14 := Option.some.inj h
      subst ze14
      exact ev_rete 2 ho (fun n => Eq.refl _)
    · have zh15 : some zr6 = some r := h
      exact (congrArg (fun q => ((0, some (.int q), (126, 120, L, [Y, T, HA, HB, RA, RB, ST, NS, I0, I1, I2, BO, FI, RG, GU, PU, MA, MN, MS, OT, SC], [r0, r1, r2, r3, w, r5, r6, r7, r8], Lg)) : AOut)) (Option.some.inj zh15)).trans ho
set_option maxRecDepth 1000000 in
set_option maxHeartbeats 4000000 in
theorem R_f_M_findFit_0 (d : Nat) (Y T HA HB RA RB ST NS I0 I1 I2 BO FI RG GU PU MA MN MS OT SC : Nat → Nat → Int32) (r0 r1 r2 r3 w r5 r6 r7 r8 : Nat) (L : Nat) (Lg : Int64) (p1 : Int32) (p2 : Int32) {r : (Nat → Nat → Int32)} (h : f_M_findFit MA MS p1 p2 = some r) : Ev (d + 16, 0, 0, 95, 0, [.val (.ref 1088), .val (.int p1), .val (.int p2), .val a_unk, .val a_unk, .val a_unk, .val a_unk, .val a_unk, .val a_unk], [], (126, 120, L, [Y, T, HA, HB, RA, RB, ST, NS, I0, I1, I2, BO, FI, RG, GU, PU, MA, MN, MS, OT, SC], [r0, r1, r2, r3, w, r5, r6, r7, r8], Lg)) ((0, none, (126, 120, L, [Y, T, HA, HB, RA, RB, ST, NS, I0, I1, I2, BO, FI, RG, GU, PU, MA, MN, r, OT, SC], [r0, r1, r2, r3, w, r5, r6, r7, r8], Lg)) : AOut) := by
  suffices key : ∀ o : AOut, ((0, none, (126, 120, L, [Y, T, HA, HB, RA, RB, ST, NS, I0, I1, I2, BO, FI, RG, GU, PU, MA, MN, r, OT, SC], [r0, r1, r2, r3, w, r5, r6, r7, r8], Lg)) : AOut) = o → Ev (d + 16, 0, 0, 95, 0, [.val (.ref 1088), .val (.int p1), .val (.int p2), .val a_unk, .val a_unk, .val a_unk, .val a_unk, .val a_unk, .val a_unk], [], (126, 120, L, [Y, T, HA, HB, RA, RB, ST, NS, I0, I1, I2, BO, FI, RG, GU, PU, MA, MN, MS, OT, SC], [r0, r1, r2, r3, w, r5, r6, r7, r8], Lg)) o from key _ rfl
  intro o ho
  obtain ⟨x1, zh1, h⟩ := bnd h
  have zh1 : rdx (MA 7) 10 p1 = some x1 := zh1
  suffices e : Ev (d + 16, 0, 0, 95, 16, [.val (.ref 1088), .val (.int p1), .val (.int p2), .val a_unk, .val a_unk, .val a_unk, .val a_unk, .val a_unk, .val a_unk], [.int x1], (126, 120, L, [Y, T, HA, HB, RA, RB, ST, NS, I0, I1, I2, BO, FI, RG, GU, PU, MA, MN, (u2 (u2 MS 0 45 (-1)) 0 48 (-1)), OT, SC], [r0, r1, r2, r3, w, r5, r6, r7, r8], Lg)) o from ev_opt (fun x1 => (d + 16, 0, 0, 95, 16, [.val (.ref 1088), .val (.int p1), .val (.int p2), .val a_unk, .val a_unk, .val a_unk, .val a_unk, .val a_unk, .val a_unk], [.int x1], (126, 120, L, [Y, T, HA, HB, RA, RB, ST, NS, I0, I1, I2, BO, FI, RG, GU, PU, MA, MN, (u2 (u2 MS 0 45 (-1)) 0 48 (-1)), OT, SC], [r0, r1, r2, r3, w, r5, r6, r7, r8], Lg))) 10 zh1 e (fun n => Eq.refl _)
  by_cases zc2 : x1 = (-1)
  · have h := itp h zc2
    suffices e : Ev (d + 16, 0, 0, 95, 40, [.val (.ref 1088), .val (.int p1), .val (.int p2), .val a_unk, .val a_unk, .val a_unk, .val a_unk, .val a_unk, .val a_unk], [], (126, 120, L, [Y, T, HA, HB, RA, RB, ST, NS, I0, I1, I2, BO, FI, RG, GU, PU, MA, MN, (u2 (u2 MS 0 45 (-1)) 0 48 (-1)), OT, SC], [r0, r1, r2, r3, w, r5, r6, r7, r8], Lg)) o from ev_t (c := x1 = (-1)) _ _ 2  zc2 e (fun n => Eq.refl _)
    have ze3 := Option.some.inj h
    subst ze3
    exact ev_rete 1 ho (fun n => Eq.refl _)
  · have h := itn h zc2
    suffices e : Ev (d + 16, 0, 0, 95, 20, [.val (.ref 1088), .val (.int p1), .val (.int p2), .val a_unk, .val a_unk, .val a_unk, .val a_unk, .val a_unk, .val a_unk], [], (126, 120, L, [Y, T, HA, HB, RA, RB, ST, NS, I0, I1, I2, BO, FI, RG, GU, PU, MA, MN, (u2 (u2 MS 0 45 (-1)) 0 48 (-1)), OT, SC], [r0, r1, r2, r3, w, r5, r6, r7, r8], Lg)) o from ev_f (c := x1 = (-1)) _ _ 2  zc2 e (fun n => Eq.refl _)
    obtain ⟨x2, zh4, h⟩ := bnd h
    have zh4 : f_M_isFixed MA p1 = some x2 := zh4
    have ze5 := R_f_M_isFixed_0 (d + 15) Y T HA HB RA RB ST NS I0 I1 I2 BO FI RG GU PU MA MN (u2 (u2 MS 0 45 (-1)) 0 48 (-1)) OT SC r0 r1 r2 r3 w r5 r6 r7 r8 L Lg p1 zh4
    suffices e : Ev (d + 16, 0, 0, 95, 25, [.val (.ref 1088), .val (.int p1), .val (.int p2), .val a_unk, .val a_unk, .val a_unk, .val a_unk, .val a_unk, .val a_unk], [.int x2], (126, 120, L, [Y, T, HA, HB, RA, RB, ST, NS, I0, I1, I2, BO, FI, RG, GU, PU, MA, MN, (u2 (u2 MS 0 45 (-1)) 0 48 (-1)), OT, SC], [r0, r1, r2, r3, w, r5, r6, r7, r8], Lg)) o from ev_call (fun v μ => (d + 16, 0, 0, 95, 25, [.val (.ref 1088), .val (.int p1), .val (.int p2), .val a_unk, .val a_unk, .val a_unk, .val a_unk, .val a_unk, .val a_unk], v.toList ++ [], μ)) 3 ze5 e (fun n => Eq.refl _)
    obtain ⟨zt6, zh7, h⟩ := bnd h
    have zj8 : zt6 = .inl () → Ev (d + 16, 0, 0, 95, 41, [.val (.ref 1088), .val (.int p1), .val (.int p2), .val a_unk, .val a_unk, .val a_unk, .val a_unk, .val a_unk, .val a_unk], [], (126, 120, L, [Y, T, HA, HB, RA, RB, ST, NS, I0, I1, I2, BO, FI, RG, GU, PU, MA, MN, (u2 (u2 MS 0 45 (-1)) 0 48 (-1)), OT, SC], [r0, r1, r2, r3, w, r5, r6, r7, r8], Lg)) o := by
      intro ze9
      have h := sum_l h ze9
      obtain ⟨MS_39, zh11, h⟩ := bnd h
      suffices e : Ev (d + 16, 0, 0, 95, 43, [.val (.ref 1088), .val (.int p1), .val (.int p2), .val (.int 0), .val a_unk, .val a_unk, .val a_unk, .val a_unk, .val a_unk], [], (126, 120, L, [Y, T, HA, HB, RA, RB, ST, NS, I0, I1, I2, BO, FI, RG, GU, PU, MA, MN, (u2 (u2 MS 0 45 (-1)) 0 48 (-1)), OT, SC], [r0, r1, r2, r3, w, r5, r6, r7, r8], Lg)) o from ev_b 2 e (fun n => Eq.refl _)
      refine ev_loop (δ := Value × Value × Value × Value × Value) (fun a j => (d + 16, 0, 0, 95, 43, [.val (.ref 1088), .val (.int p1), .val (.int p2), .val (.int a.1), .val j.1, .val j.2.1, .val j.2.2.1, .val j.2.2.2.1, .val j.2.2.2.2], [], (126, 120, L, [Y, T, HA, HB, RA, RB, ST, NS, I0, I1, I2, BO, FI, RG, GU, PU, MA, MN, a.2, OT, SC], [r0, r1, r2, r3, w, r5, r6, r7, r8], Lg))) (fun b => ∀ s33 : Value, ∀ s34 : Value, ∀ s35 : Value, ∀ s36 : Value, ∀ s37 : Value, ∀ s38 : Value, Ev (d + 16, 0, 0, 95, 274, [.val (.ref 1088), .val (.int p1), .val (.int p2), .val s33, .val s34, .val s35, .val s36, .val s37, .val s38], [], (126, 120, L, [Y, T, HA, HB, RA, RB, ST, NS, I0, I1, I2, BO, FI, RG, GU, PU, MA, MN, b, OT, SC], [r0, r1, r2, r3, w, r5, r6, r7, r8], Lg)) o) ?_ a_F (0, (u2 (u2 MS 0 45 (-1)) 0 48 (-1))) MS_39 zh11 ?_ (a_unk, a_unk, a_unk, a_unk, a_unk)
      · rintro ⟨v4, MS_10⟩ zr15 zh14 zi12 zx13 ⟨s5, s6, s7, s8, s9⟩
        have zh14 : f_M_findFit_l43 MA p1 p2 v4 MS_10 = some zr15 := zh14
        by_cases zc16 : (a_shl 1 (MA 0 26)) ≤ v4
        · have zh14 := itp zh14 zc16
          suffices e : Ev (d + 16, 0, 0, 95, 274, [.val (.ref 1088), .val (.int p1), .val (.int p2), .val (.int v4), .val s5, .val s6, .val s7, .val s8, .val s9], [], (126, 120, L, [Y, T, HA, HB, RA, RB, ST, NS, I0, I1, I2, BO, FI, RG, GU, PU, MA, MN, MS_10, OT, SC], [r0, r1, r2, r3, w, r5, r6, r7, r8], Lg)) o from ev_t (c := (a_shl 1 (MA 0 26)) ≤ v4) _ _ 6  zc16 e (fun n => Eq.refl _)
          exact ev_b 0 (zx13 _ (Option.some.inj zh14).symm (.int v4) s5 s6 s7 s8 s9) (fun n => Eq.refl _)
        · have zh14 := itn zh14 zc16
          suffices e : Ev (d + 16, 0, 0, 95, 53, [.val (.ref 1088), .val (.int p1), .val (.int p2), .val (.int v4), .val s5, .val s6, .val s7, .val s8, .val s9], [], (126, 120, L, [Y, T, HA, HB, RA, RB, ST, NS, I0, I1, I2, BO, FI, RG, GU, PU, MA, MN, MS_10, OT, SC], [r0, r1, r2, r3, w, r5, r6, r7, r8], Lg)) o from ev_f (c := (a_shl 1 (MA 0 26)) ≤ v4) _ _ 6  zc16 e (fun n => Eq.refl _)
          obtain ⟨x11, zh17, zh14⟩ := bnd zh14
          have zh17 : f_M_ones v4 = some x11 := zh17
          have ze18 := R_f_M_ones_0 (d + 15) Y T HA HB RA RB ST NS I0 I1 I2 BO FI RG GU PU MA MN MS_10 OT SC r0 r1 r2 r3 w r5 r6 r7 r8 L Lg v4 zh17
          suffices e : Ev (d + 16, 0, 0, 95, 57, [.val (.ref 1088), .val (.int p1), .val (.int p2), .val (.int v4), .val s5, .val s6, .val s7, .val s8, .val s9], [.int x11], (126, 120, L, [Y, T, HA, HB, RA, RB, ST, NS, I0, I1, I2, BO, FI, RG, GU, PU, MA, MN, MS_10, OT, SC], [r0, r1, r2, r3, w, r5, r6, r7, r8], Lg)) o from ev_call (fun v μ => (d + 16, 0, 0, 95, 57, [.val (.ref 1088), .val (.int p1), .val (.int p2), .val (.int v4), .val s5, .val s6, .val s7, .val s8, .val s9], v.toList ++ [], μ)) 2 ze18 e (fun n => Eq.refl _)
          by_cases zc19 : 3 < x11
          · have zh14 := itp zh14 zc19
            suffices e : Ev (d + 16, 0, 0, 95, 268, [.val (.ref 1088), .val (.int p1), .val (.int p2), .val (.int v4), .val (.int x11), .val s6, .val s7, .val s8, .val s9], [], (126, 120, L, [Y, T, HA, HB, RA, RB, ST, NS, I0, I1, I2, BO, FI, RG, GU, PU, MA, MN, MS_10, OT, SC], [r0, r1, r2, r3, w, r5, r6, r7, r8], Lg)) o from ev_t (c := 3 < x11) _ _ 4  zc19 e (fun n => Eq.refl _)
            exact ev_b 2 (zi12 _ (Option.some.inj zh14).symm ((.int x11), s6, s7, s8, s9)) (fun n => Eq.refl _)
          · have zh14 := itn zh14 zc19
            suffices e : Ev (d + 16, 0, 0, 95, 65, [.val (.ref 1088), .val (.int p1), .val (.int p2), .val (.int v4), .val (.int x11), .val s6, .val s7, .val s8, .val s9], [], (126, 120, L, [Y, T, HA, HB, RA, RB, ST, NS, I0, I1, I2, BO, FI, RG, GU, PU, MA, MN, MS_10, OT, SC], [r0, r1, r2, r3, w, r5, r6, r7, r8], Lg)) o from ev_f (c := 3 < x11) _ _ 4  zc19 e (fun n => Eq.refl _)
            by_cases zc20 : ((a_shr v4 p1) &&& 1) = 1
            · have zh14 := itp zh14 zc20
              suffices e : Ev (d + 16, 0, 0, 95, 268, [.val (.ref 1088), .val (.int p1), .val (.int p2), .val (.int v4), .val (.int x11), .val s6, .val s7, .val s8, .val s9], [], (126, 120, L, [Y, T, HA, HB, RA, RB, ST, NS, I0, I1, I2, BO, FI, RG, GU, PU, MA, MN, MS_10, OT, SC], [r0, r1, r2, r3, w, r5, r6, r7, r8], Lg)) o from ev_t (c := ((a_shr v4 p1) &&& 1) = 1) _ _ 7  zc20 e (fun n => Eq.refl _)
              exact ev_b 2 (zi12 _ (Option.some.inj zh14).symm ((.int x11), s6, s7, s8, s9)) (fun n => Eq.refl _)
            · have zh14 := itn zh14 zc20
              suffices e : Ev (d + 16, 0, 0, 95, 74, [.val (.ref 1088), .val (.int p1), .val (.int p2), .val (.int v4), .val (.int x11), .val s6, .val s7, .val s8, .val s9], [], (126, 120, L, [Y, T, HA, HB, RA, RB, ST, NS, I0, I1, I2, BO, FI, RG, GU, PU, MA, MN, MS_10, OT, SC], [r0, r1, r2, r3, w, r5, r6, r7, r8], Lg)) o from ev_f (c := ((a_shr v4 p1) &&& 1) = 1) _ _ 7  zc20 e (fun n => Eq.refl _)
              obtain ⟨x12, zh21, zh14⟩ := bnd zh14
              have zh21 : f_M_canMove MA v4 = some x12 := zh21
              have ze22 := R_f_M_canMove_0 (d + 14) Y T HA HB RA RB ST NS I0 I1 I2 BO FI RG GU PU MA MN MS_10 OT SC r0 r1 r2 r3 w r5 r6 r7 r8 L Lg v4 zh21
              suffices e : Ev (d + 16, 0, 0, 95, 79, [.val (.ref 1088), .val (.int p1), .val (.int p2), .val (.int v4), .val (.int x11), .val s6, .val s7, .val s8, .val s9], [.int x12], (126, 120, L, [Y, T, HA, HB, RA, RB, ST, NS, I0, I1, I2, BO, FI, RG, GU, PU, MA, MN, MS_10, OT, SC], [r0, r1, r2, r3, w, r5, r6, r7, r8], Lg)) o from ev_call (fun v μ => (d + 16, 0, 0, 95, 79, [.val (.ref 1088), .val (.int p1), .val (.int p2), .val (.int v4), .val (.int x11), .val s6, .val s7, .val s8, .val s9], v.toList ++ [], μ)) 3 ze22 e (fun n => Eq.refl _)
              by_cases zc23 : x12 ≠ 0
              · have zh14 := itp zh14 zc23
                suffices e : Ev (d + 16, 0, 0, 95, 85, [.val (.ref 1088), .val (.int p1), .val (.int p2), .val (.int v4), .val (.int x11), .val s6, .val s7, .val s8, .val s9], [], (126, 120, L, [Y, T, HA, HB, RA, RB, ST, NS, I0, I1, I2, BO, FI, RG, GU, PU, MA, MN, MS_10, OT, SC], [r0, r1, r2, r3, w, r5, r6, r7, r8], Lg)) o from ev_t (c := x12 ≠ 0) _ _ 1  zc23 e (fun n => Eq.refl _)
                obtain ⟨MS_32, zh25, zh14⟩ := bnd zh14
                suffices e : Ev (d + 16, 0, 0, 95, 88, [.val (.ref 1088), .val (.int p1), .val (.int p2), .val (.int v4), .val (.int x11), .val (.int 0), .val s7, .val s8, .val s9], [], (126, 120, L, [Y, T, HA, HB, RA, RB, ST, NS, I0, I1, I2, BO, FI, RG, GU, PU, MA, MN, MS_10, OT, SC], [r0, r1, r2, r3, w, r5, r6, r7, r8], Lg)) o from ev_b 2 e (fun n => Eq.refl _)
                refine ev_loop (δ := Value × Value × Value) (fun a j => (d + 16, 0, 0, 95, 88, [.val (.ref 1088), .val (.int p1), .val (.int p2), .val (.int v4), .val (.int x11), .val (.int a.1), .val j.1, .val j.2.1, .val j.2.2], [], (126, 120, L, [Y, T, HA, HB, RA, RB, ST, NS, I0, I1, I2, BO, FI, RG, GU, PU, MA, MN, a.2, OT, SC], [r0, r1, r2, r3, w, r5, r6, r7, r8], Lg))) (fun b => ∀ s28 : Value, ∀ s29 : Value, ∀ s30 : Value, ∀ s31 : Value, Ev (d + 16, 0, 0, 95, 268, [.val (.ref 1088), .val (.int p1), .val (.int p2), .val (.int v4), .val (.int x11), .val s28, .val s29, .val s30, .val s31], [], (126, 120, L, [Y, T, HA, HB, RA, RB, ST, NS, I0, I1, I2, BO, FI, RG, GU, PU, MA, MN, b, OT, SC], [r0, r1, r2, r3, w, r5, r6, r7, r8], Lg)) o) ?_ a_F (0, MS_10) MS_32 zh25 ?_ (s7, s8, s9)
                · rintro ⟨v13, MS_17⟩ zr29 zh28 zi26 zx27 ⟨s14, s15, s16⟩
                  have zh28 : f_M_findFit_l88 MA p1 p2 v4 x11 v13 MS_17 = some zr29 := zh28
                  by_cases zc30 : (MA 0 24) ≤ v13
                  · have zh28 := itp zh28 zc30
                    suffices e : Ev (d + 16, 0, 0, 95, 268, [.val (.ref 1088), .val (.int p1), .val (.int p2), .val (.int v4), .val (.int x11), .val (.int v13), .val s14, .val s15, .val s16], [], (126, 120, L, [Y, T, HA, HB, RA, RB, ST, NS, I0, I1, I2, BO, FI, RG, GU, PU, MA, MN, MS_17, OT, SC], [r0, r1, r2, r3, w, r5, r6, r7, r8], Lg)) o from ev_t (c := (MA 0 24) ≤ v13) _ _ 4  zc30 e (fun n => Eq.refl _)
                    exact ev_b 0 (zx27 _ (Option.some.inj zh28).symm (.int v13) s14 s15 s16) (fun n => Eq.refl _)
                  · have zh28 := itn zh28 zc30
                    suffices e : Ev (d + 16, 0, 0, 95, 97, [.val (.ref 1088), .val (.int p1), .val (.int p2), .val (.int v4), .val (.int x11), .val (.int v13), .val s14, .val s15, .val s16], [], (126, 120, L, [Y, T, HA, HB, RA, RB, ST, NS, I0, I1, I2, BO, FI, RG, GU, PU, MA, MN, MS_17, OT, SC], [r0, r1, r2, r3, w, r5, r6, r7, r8], Lg)) o from ev_f (c := (MA 0 24) ≤ v13) _ _ 4  zc30 e (fun n => Eq.refl _)
                    obtain ⟨x18, zh31, zh28⟩ := bnd zh28
                    have zh31 : f_M_isFixed MA p1 = some x18 := zh31
                    have ze32 := R_f_M_isFixed_0 (d + 15) Y T HA HB RA RB ST NS I0 I1 I2 BO FI RG GU PU MA MN MS_17 OT SC r0 r1 r2 r3 w r5 r6 r7 r8 L Lg p1 zh31
                    suffices e : Ev (d + 16, 0, 0, 95, 110, [.val (.ref 1088), .val (.int p1), .val (.int p2), .val (.int v4), .val (.int x11), .val (.int v13), .val (.int ((3 * p2) + v13)), .val s15, .val s16], [.int x18], (126, 120, L, [Y, T, HA, HB, RA, RB, ST, NS, I0, I1, I2, BO, FI, RG, GU, PU, MA, MN, MS_17, OT, SC], [r0, r1, r2, r3, w, r5, r6, r7, r8], Lg)) o from ev_call (fun v μ => (d + 16, 0, 0, 95, 110, [.val (.ref 1088), .val (.int p1), .val (.int p2), .val (.int v4), .val (.int x11), .val (.int v13), .val (.int ((3 * p2) + v13)), .val s15, .val s16], v.toList ++ [], μ)) 9 ze32 e (fun n => Eq.refl _)
                    obtain ⟨zt33, zh34, zh28⟩ := bnd zh28
                    have zj35 : zt33 = .inl () → Ev (d + 16, 0, 0, 95, 127, [.val (.ref 1088), .val (.int p1), .val (.int p2), .val (.int v4), .val (.int x11), .val (.int v13), .val (.int ((3 * p2) + v13)), .val s15, .val s16], [], (126, 120, L, [Y, T, HA, HB, RA, RB, ST, NS, I0, I1, I2, BO, FI, RG, GU, PU, MA, MN, MS_17, OT, SC], [r0, r1, r2, r3, w, r5, r6, r7, r8], Lg)) o := by
                      intro ze36
                      have zh28 := sum_l zh28 ze36
                      obtain ⟨x20, zh37, zh28⟩ := bnd zh28
                      have zh37 : f_M_costsOf MA v4 = some x20 := zh37
                      have ze38 := R_f_M_costsOf_0 (d + 14) Y T HA HB RA RB ST NS I0 I1 I2 BO FI RG GU PU MA MN MS_17 OT SC r0 r1 r2 r3 w r5 r6 r7 r8 L Lg v4 zh37
                      suffices e : Ev (d + 16, 0, 0, 95, 132, [.val (.ref 1088), .val (.int p1), .val (.int p2), .val (.int v4), .val (.int x11), .val (.int v13), .val (.int ((3 * p2) + v13)), .val s15, .val s16], [.int x20], (126, 120, L, [Y, T, HA, HB, RA, RB, ST, NS, I0, I1, I2, BO, FI, RG, GU, PU, MA, MN, MS_17, OT, SC], [r0, r1, r2, r3, w, r5, r6, r7, r8], Lg)) o from ev_call (fun v μ => (d + 16, 0, 0, 95, 132, [.val (.ref 1088), .val (.int p1), .val (.int p2), .val (.int v4), .val (.int x11), .val (.int v13), .val (.int ((3 * p2) + v13)), .val s15, .val s16], v.toList ++ [], μ)) 3 ze38 e (fun n => Eq.refl _)
                      obtain ⟨x21, zh39, zh28⟩ := bnd zh28
                      have zh39 : rdx (MA 7) 10 p1 = some x21 := zh39
                      suffices e : Ev (d + 16, 0, 0, 95, 140, [.val (.ref 1088), .val (.int p1), .val (.int p2), .val (.int v4), .val (.int x11), .val (.int v13), .val (.int ((3 * p2) + v13)), .val s15, .val s16], [.int x21, .int ((3 * p2) + v13), .int x20], (126, 120, L, [Y, T, HA, HB, RA, RB, ST, NS, I0, I1, I2, BO, FI, RG, GU, PU, MA, MN, MS_17, OT, SC], [r0, r1, r2, r3, w, r5, r6, r7, r8], Lg)) o from ev_opt (fun x21 => (d + 16, 0, 0, 95, 140, [.val (.ref 1088), .val (.int p1), .val (.int p2), .val (.int v4), .val (.int x11), .val (.int v13), .val (.int ((3 * p2) + v13)), .val s15, .val s16], [.int x21, .int ((3 * p2) + v13), .int x20], (126, 120, L, [Y, T, HA, HB, RA, RB, ST, NS, I0, I1, I2, BO, FI, RG, GU, PU, MA, MN, MS_17, OT, SC], [r0, r1, r2, r3, w, r5, r6, r7, r8], Lg))) 5 zh39 e (fun n => Eq.refl _)
                      obtain ⟨zt40, zh41, zh28⟩ := bnd zh28
                      have zj42 : ∀ (v23 : Int32), v23 = zt40 → Ev (d + 16, 0, 0, 95, 152, [.val (.ref 1088), .val (.int p1), .val (.int p2), .val (.int v4), .val (.int x11), .val (.int v13), .val (.int ((3 * p2) + v13)), .val s15, .val s16], [.int v23, .int x20], (126, 120, L, [Y, T, HA, HB, RA, RB, ST, NS, I0, I1, I2, BO, FI, RG, GU, PU, MA, MN, MS_17, OT, SC], [r0, r1, r2, r3, w, r5, r6, r7, r8], Lg)) o := by
                        intro v23 ze43
                        subst ze43
                        obtain ⟨zt44, zh45, zh28⟩ := bnd zh28
                        have zj46 : ∀ (v24 : Int32), v24 = zt44 → Ev (d + 16, 0, 0, 95, 177, [.val (.ref 1088), .val (.int p1), .val (.int p2), .val (.int v4), .val (.int x11), .val (.int v13), .val (.int ((3 * p2) + v13)), .val (.int (x20 + v23)), .val s16], [.int v24], (126, 120, L, [Y, T, HA, HB, RA, RB, ST, NS, I0, I1, I2, BO, FI, RG, GU, PU, MA, MN, MS_17, OT, SC], [r0, r1, r2, r3, w, r5, r6, r7, r8], Lg)) o := by
                          intro v24 ze47
                          subst ze47
                          obtain ⟨zt48, zh49, zh28⟩ := bnd zh28
                          have zj50 : zt48 = .inl () → Ev (d + 16, 0, 0, 95, 193, [.val (.ref 1088), .val (.int p1), .val (.int p2), .val (.int v4), .val (.int x11), .val (.int v13), .val (.int ((3 * p2) + v13)), .val (.int (x20 + v23)), .val (.int v24)], [], (126, 120, L, [Y, T, HA, HB, RA, RB, ST, NS, I0, I1, I2, BO, FI, RG, GU, PU, MA, MN, MS_17, OT, SC], [r0, r1, r2, r3, w, r5, r6, r7, r8], Lg)) o := by
                            intro ze51
                            have zh28 := sum_l zh28 ze51
                            obtain ⟨⟨x25, MS_26⟩, zh52, zh28⟩ := bnd zh28
                            have zh52 : f_M_fitsIn MA MS_17 p1 ((3 * p2) + v13) v4 = some (x25, MS_26) := zh52
                            have ze53 := R_f_M_fitsIn_0 (d + 0) Y T HA HB RA RB ST NS I0 I1 I2 BO FI RG GU PU MA MN MS_17 OT SC r0 r1 r2 r3 w r5 r6 r7 r8 L Lg p1 ((3 * p2) + v13) v4 zh52
                            suffices e : Ev (d + 16, 0, 0, 95, 201, [.val (.ref 1088), .val (.int p1), .val (.int p2), .val (.int v4), .val (.int x11), .val (.int v13), .val (.int ((3 * p2) + v13)), .val (.int (x20 + v23)), .val (.int v24)], [.int x25], (126, 120, L, [Y, T, HA, HB, RA, RB, ST, NS, I0, I1, I2, BO, FI, RG, GU, PU, MA, MN, MS_26, OT, SC], [r0, r1, r2, r3, w, r5, r6, r7, r8], Lg)) o from ev_call (fun v μ => (d + 16, 0, 0, 95, 201, [.val (.ref 1088), .val (.int p1), .val (.int p2), .val (.int v4), .val (.int x11), .val (.int v13), .val (.int ((3 * p2) + v13)), .val (.int (x20 + v23)), .val (.int v24)], v.toList ++ [], μ)) 5 ze53 e (fun n => Eq.refl _)
                            by_cases zc54 : x25 ≠ 0
                            · have zh28 := itp zh28 zc54
                              suffices e : Ev (d + 16, 0, 0, 95, 207, [.val (.ref 1088), .val (.int p1), .val (.int p2), .val (.int v4), .val (.int x11), .val (.int v13), .val (.int ((3 * p2) + v13)), .val (.int (x20 + v23)), .val (.int v24)], [], (126, 120, L, [Y, T, HA, HB, RA, RB, ST, NS, I0, I1, I2, BO, FI, RG, GU, PU, MA, MN, MS_26, OT, SC], [r0, r1, r2, r3, w, r5, r6, r7, r8], Lg)) o from ev_t (c := x25 ≠ 0) _ _ 1  zc54 e (fun n => Eq.refl _)
                              obtain ⟨zt55, zh56, zh28⟩ := bnd zh28
                              have zj57 : ∀ (v27 : Int32), v27 = zt55 → Ev (d + 16, 0, 0, 95, 234, [.val (.ref 1088), .val (.int p1), .val (.int p2), .val (.int v4), .val (.int x11), .val (.int v13), .val (.int ((3 * p2) + v13)), .val (.int (x20 + v23)), .val (.int v24)], [.int v27, .ref 1088], (126, 120, L, [Y, T, HA, HB, RA, RB, ST, NS, I0, I1, I2, BO, FI, RG, GU, PU, MA, MN, MS_26, OT, SC], [r0, r1, r2, r3, w, r5, r6, r7, r8], Lg)) o := by
                                intro v27 ze58
                                subst ze58
                                by_cases zc59 : v24 ≠ 0
                                · have zh28 := itp zh28 zc59
                                  suffices e : Ev (d + 16, 0, 0, 95, 245, [.val (.ref 1088), .val (.int p1), .val (.int p2), .val (.int v4), .val (.int x11), .val (.int v13), .val (.int ((3 * p2) + v13)), .val (.int (x20 + v23)), .val (.int v24)], [], (126, 120, L, [Y, T, HA, HB, RA, RB, ST, NS, I0, I1, I2, BO, FI, RG, GU, PU, MA, MN, (u2 MS_26 0 48 v27), OT, SC], [r0, r1, r2, r3, w, r5, r6, r7, r8], Lg)) o from ev_t (c := v24 ≠ 0) _ _ 3  zc59 e (fun n => Eq.refl _)
                                  exact ev_b 11 (zi26 _ (Option.some.inj zh28).symm ((.int ((3 * p2) + v13)), (.int (x20 + v23)), (.int v24))) (fun n => Eq.refl _)
                                · have zh28 := itn zh28 zc59
                                  suffices e : Ev (d + 16, 0, 0, 95, 242, [.val (.ref 1088), .val (.int p1), .val (.int p2), .val (.int v4), .val (.int x11), .val (.int v13), .val (.int ((3 * p2) + v13)), .val (.int (x20 + v23)), .val (.int v24)], [], (126, 120, L, [Y, T, HA, HB, RA, RB, ST, NS, I0, I1, I2, BO, FI, RG, GU, PU, MA, MN, (u2 MS_26 0 48 v27), OT, SC], [r0, r1, r2, r3, w, r5, r6, r7, r8], Lg)) o from ev_f (c := v24 ≠ 0) _ _ 3  zc59 e (fun n => Eq.refl _)
                                  exact ev_b 3 (zi26 _ (Option.some.inj zh28).symm ((.int ((3 * p2) + v13)), (.int (x20 + v23)), (.int v24))) (fun n => Eq.refl _)
                              obtain ⟨zt60, zh61, zh56⟩ := bnd zh56
                              have zj62 : zt60 = .inl () → Ev (d + 16, 0, 0, 95, 225, [.val (.ref 1088), .val (.int p1), .val (.int p2), .val (.int v4), .val (.int x11), .val (.int v13), .val (.int ((3 * p2) + v13)), .val (.int (x20 + v23)), .val (.int v24)], [.ref 1088], (126, 120, L, [Y, T, HA, HB, RA, RB, ST, NS, I0, I1, I2, BO, FI, RG, GU, PU, MA, MN, MS_26, OT, SC], [r0, r1, r2, r3, w, r5, r6, r7, r8], Lg)) o := by
                                intro ze63
                                have zh56 := sum_l zh56 ze63
                                exact ev_b 2 (zj57 (x20 + v23) (Option.some.inj zh56) ) (fun n => Eq.refl _)
                              by_cases zc64 : (MS_26 0 48) = (-1)
                              · have zh61 := itp zh61 zc64
                                suffices e : Ev (d + 16, 0, 0, 95, 225, [.val (.ref 1088), .val (.int p1), .val (.int p2), .val (.int v4), .val (.int x11), .val (.int v13), .val (.int ((3 * p2) + v13)), .val (.int (x20 + v23)), .val (.int v24)], [.ref 1088], (126, 120, L, [Y, T, HA, HB, RA, RB, ST, NS, I0, I1, I2, BO, FI, RG, GU, PU, MA, MN, MS_26, OT, SC], [r0, r1, r2, r3, w, r5, r6, r7, r8], Lg)) o from ev_t (c := (MS_26 0 48) = (-1)) _ _ 5  zc64 e (fun n => Eq.refl _)
                                exact ev_b 0 (zj62  (Option.some.inj zh61).symm ) (fun n => Eq.refl _)
                              · have zh61 := itn zh61 zc64
                                suffices e : Ev (d + 16, 0, 0, 95, 216, [.val (.ref 1088), .val (.int p1), .val (.int p2), .val (.int v4), .val (.int x11), .val (.int v13), .val (.int ((3 * p2) + v13)), .val (.int (x20 + v23)), .val (.int v24)], [.ref 1088], (126, 120, L, [Y, T, HA, HB, RA, RB, ST, NS, I0, I1, I2, BO, FI, RG, GU, PU, MA, MN, MS_26, OT, SC], [r0, r1, r2, r3, w, r5, r6, r7, r8], Lg)) o from ev_f (c := (MS_26 0 48) = (-1)) _ _ 5  zc64 e (fun n => Eq.refl _)
                                by_cases zc65 : (MS_26 0 48) ≤ (x20 + v23)
                                · have zh61 := itp zh61 zc65
                                  suffices e : Ev (d + 16, 0, 0, 95, 230, [.val (.ref 1088), .val (.int p1), .val (.int p2), .val (.int v4), .val (.int x11), .val (.int v13), .val (.int ((3 * p2) + v13)), .val (.int (x20 + v23)), .val (.int v24)], [.ref 1088], (126, 120, L, [Y, T, HA, HB, RA, RB, ST, NS, I0, I1, I2, BO, FI, RG, GU, PU, MA, MN, MS_26, OT, SC], [r0, r1, r2, r3, w, r5, r6, r7, r8], Lg)) o from ev_t (c := (MS_26 0 48) ≤ (x20 + v23)) _ _ 4  zc65 e (fun n => Eq.refl _)
                                  have zh66 := sum_r zh56 (Option.some.inj zh61).symm
                                  exact ev_b 2 (zj57 (MS_26 0 48) (Option.some.inj zh66) ) (fun n => Eq.refl _)
                                · have zh61 := itn zh61 zc65
                                  suffices e : Ev (d + 16, 0, 0, 95, 225, [.val (.ref 1088), .val (.int p1), .val (.int p2), .val (.int v4), .val (.int x11), .val (.int v13), .val (.int ((3 * p2) + v13)), .val (.int (x20 + v23)), .val (.int v24)], [.ref 1088], (126, 120, L, [Y, T, HA, HB, RA, RB, ST, NS, I0, I1, I2, BO, FI, RG, GU, PU, MA, MN, MS_26, OT, SC], [r0, r1, r2, r3, w, r5, r6, r7, r8], Lg)) o from ev_f (c := (MS_26 0 48) ≤ (x20 + v23)) _ _ 4  zc65 e (fun n => Eq.refl _)
                                  exact ev_b 0 (zj62  (Option.some.inj zh61).symm ) (fun n => Eq.refl _)
                            · have zh28 := itn zh28 zc54
                              suffices e : Ev (d + 16, 0, 0, 95, 204, [.val (.ref 1088), .val (.int p1), .val (.int p2), .val (.int v4), .val (.int x11), .val (.int v13), .val (.int ((3 * p2) + v13)), .val (.int (x20 + v23)), .val (.int v24)], [], (126, 120, L, [Y, T, HA, HB, RA, RB, ST, NS, I0, I1, I2, BO, FI, RG, GU, PU, MA, MN, MS_26, OT, SC], [r0, r1, r2, r3, w, r5, r6, r7, r8], Lg)) o from ev_f (c := x25 ≠ 0) _ _ 1  zc54 e (fun n => Eq.refl _)
                              exact ev_b 3 (zi26 _ (Option.some.inj zh28).symm ((.int ((3 * p2) + v13)), (.int (x20 + v23)), (.int v24))) (fun n => Eq.refl _)
                          by_cases zc67 : v24 ≠ 0
                          · have zh49 := itp zh49 zc67
                            suffices e : Ev (d + 16, 0, 0, 95, 193, [.val (.ref 1088), .val (.int p1), .val (.int p2), .val (.int v4), .val (.int x11), .val (.int v13), .val (.int ((3 * p2) + v13)), .val (.int (x20 + v23)), .val (.int v24)], [], (126, 120, L, [Y, T, HA, HB, RA, RB, ST, NS, I0, I1, I2, BO, FI, RG, GU, PU, MA, MN, MS_17, OT, SC], [r0, r1, r2, r3, w, r5, r6, r7, r8], Lg)) o from ev_t (c := v24 ≠ 0) _ _ 3  zc67 e (fun n => Eq.refl _)
                            exact ev_b 0 (zj50  (Option.some.inj zh49).symm ) (fun n => Eq.refl _)
                          · have zh49 := itn zh49 zc67
                            suffices e : Ev (d + 16, 0, 0, 95, 184, [.val (.ref 1088), .val (.int p1), .val (.int p2), .val (.int v4), .val (.int x11), .val (.int v13), .val (.int ((3 * p2) + v13)), .val (.int (x20 + v23)), .val (.int v24)], [], (126, 120, L, [Y, T, HA, HB, RA, RB, ST, NS, I0, I1, I2, BO, FI, RG, GU, PU, MA, MN, MS_17, OT, SC], [r0, r1, r2, r3, w, r5, r6, r7, r8], Lg)) o from ev_f (c := v24 ≠ 0) _ _ 3  zc67 e (fun n => Eq.refl _)
                            by_cases zc68 : (MS_17 0 48) ≤ (x20 + v23)
                            · have zh49 := itp zh49 zc68
                              suffices e : Ev (d + 16, 0, 0, 95, 262, [.val (.ref 1088), .val (.int p1), .val (.int p2), .val (.int v4), .val (.int x11), .val (.int v13), .val (.int ((3 * p2) + v13)), .val (.int (x20 + v23)), .val (.int v24)], [], (126, 120, L, [Y, T, HA, HB, RA, RB, ST, NS, I0, I1, I2, BO, FI, RG, GU, PU, MA, MN, MS_17, OT, SC], [r0, r1, r2, r3, w, r5, r6, r7, r8], Lg)) o from ev_t (c := (MS_17 0 48) ≤ (x20 + v23)) _ _ 4  zc68 e (fun n => Eq.refl _)
                              have zh69 := sum_r zh28 (Option.some.inj zh49).symm
                              exact ev_b 2 (zi26 _ (Option.some.inj zh69).symm ((.int ((3 * p2) + v13)), (.int (x20 + v23)), (.int v24))) (fun n => Eq.refl _)
                            · have zh49 := itn zh49 zc68
                              suffices e : Ev (d + 16, 0, 0, 95, 193, [.val (.ref 1088), .val (.int p1), .val (.int p2), .val (.int v4), .val (.int x11), .val (.int v13), .val (.int ((3 * p2) + v13)), .val (.int (x20 + v23)), .val (.int v24)], [], (126, 120, L, [Y, T, HA, HB, RA, RB, ST, NS, I0, I1, I2, BO, FI, RG, GU, PU, MA, MN, MS_17, OT, SC], [r0, r1, r2, r3, w, r5, r6, r7, r8], Lg)) o from ev_f (c := (MS_17 0 48) ≤ (x20 + v23)) _ _ 4  zc68 e (fun n => Eq.refl _)
                              exact ev_b 0 (zj50  (Option.some.inj zh49).symm ) (fun n => Eq.refl _)
                        obtain ⟨zt70, zh71, zh45⟩ := bnd zh45
                        have zj72 : zt70 = .inl () → Ev (d + 16, 0, 0, 95, 172, [.val (.ref 1088), .val (.int p1), .val (.int p2), .val (.int v4), .val (.int x11), .val (.int v13), .val (.int ((3 * p2) + v13)), .val (.int (x20 + v23)), .val s16], [], (126, 120, L, [Y, T, HA, HB, RA, RB, ST, NS, I0, I1, I2, BO, FI, RG, GU, PU, MA, MN, MS_17, OT, SC], [r0, r1, r2, r3, w, r5, r6, r7, r8], Lg)) o := by
                          intro ze73
                          have zh45 := sum_l zh45 ze73
                          exact ev_b 2 (zj46 1 (Option.some.inj zh45) ) (fun n => Eq.refl _)
                        by_cases zc74 : (MS_17 0 45) = (-1)
                        · have zh71 := itp zh71 zc74
                          suffices e : Ev (d + 16, 0, 0, 95, 172, [.val (.ref 1088), .val (.int p1), .val (.int p2), .val (.int v4), .val (.int x11), .val (.int v13), .val (.int ((3 * p2) + v13)), .val (.int (x20 + v23)), .val s16], [], (126, 120, L, [Y, T, HA, HB, RA, RB, ST, NS, I0, I1, I2, BO, FI, RG, GU, PU, MA, MN, MS_17, OT, SC], [r0, r1, r2, r3, w, r5, r6, r7, r8], Lg)) o from ev_t (c := (MS_17 0 45) = (-1)) _ _ 6  zc74 e (fun n => Eq.refl _)
                          exact ev_b 0 (zj72  (Option.some.inj zh71).symm ) (fun n => Eq.refl _)
                        · have zh71 := itn zh71 zc74
                          suffices e : Ev (d + 16, 0, 0, 95, 163, [.val (.ref 1088), .val (.int p1), .val (.int p2), .val (.int v4), .val (.int x11), .val (.int v13), .val (.int ((3 * p2) + v13)), .val (.int (x20 + v23)), .val s16], [], (126, 120, L, [Y, T, HA, HB, RA, RB, ST, NS, I0, I1, I2, BO, FI, RG, GU, PU, MA, MN, MS_17, OT, SC], [r0, r1, r2, r3, w, r5, r6, r7, r8], Lg)) o from ev_f (c := (MS_17 0 45) = (-1)) _ _ 6  zc74 e (fun n => Eq.refl _)
                          by_cases zc75 : (MS_17 0 45) ≤ x11
                          · have zh71 := itp zh71 zc75
                            suffices e : Ev (d + 16, 0, 0, 95, 176, [.val (.ref 1088), .val (.int p1), .val (.int p2), .val (.int v4), .val (.int x11), .val (.int v13), .val (.int ((3 * p2) + v13)), .val (.int (x20 + v23)), .val s16], [], (126, 120, L, [Y, T, HA, HB, RA, RB, ST, NS, I0, I1, I2, BO, FI, RG, GU, PU, MA, MN, MS_17, OT, SC], [r0, r1, r2, r3, w, r5, r6, r7, r8], Lg)) o from ev_t (c := (MS_17 0 45) ≤ x11) _ _ 4  zc75 e (fun n => Eq.refl _)
                            have zh76 := sum_r zh45 (Option.some.inj zh71).symm
                            exact ev_b 1 (zj46 0 (Option.some.inj zh76) ) (fun n => Eq.refl _)
                          · have zh71 := itn zh71 zc75
                            suffices e : Ev (d + 16, 0, 0, 95, 172, [.val (.ref 1088), .val (.int p1), .val (.int p2), .val (.int v4), .val (.int x11), .val (.int v13), .val (.int ((3 * p2) + v13)), .val (.int (x20 + v23)), .val s16], [], (126, 120, L, [Y, T, HA, HB, RA, RB, ST, NS, I0, I1, I2, BO, FI, RG, GU, PU, MA, MN, MS_17, OT, SC], [r0, r1, r2, r3, w, r5, r6, r7, r8], Lg)) o from ev_f (c := (MS_17 0 45) ≤ x11) _ _ 4  zc75 e (fun n => Eq.refl _)
                            exact ev_b 0 (zj72  (Option.some.inj zh71).symm ) (fun n => Eq.refl _)
                      by_cases zc77 : ((3 * p2) + v13) ≠ x21
                      · have zh41 := itp zh41 zc77
                        suffices e : Ev (d + 16, 0, 0, 95, 147, [.val (.ref 1088), .val (.int p1), .val (.int p2), .val (.int v4), .val (.int x11), .val (.int v13), .val (.int ((3 * p2) + v13)), .val s15, .val s16], [.int x20], (126, 120, L, [Y, T, HA, HB, RA, RB, ST, NS, I0, I1, I2, BO, FI, RG, GU, PU, MA, MN, MS_17, OT, SC], [r0, r1, r2, r3, w, r5, r6, r7, r8], Lg)) o from ev_t (c := ((3 * p2) + v13) ≠ x21) _ _ 1  zc77 e (fun n => Eq.refl _)
                        obtain ⟨x22, zh78, zh41⟩ := bnd zh41
                        have zh78 : f_M_costOf MA p1 = some x22 := zh78
                        have ze79 := R_f_M_costOf_0 (d + 15) Y T HA HB RA RB ST NS I0 I1 I2 BO FI RG GU PU MA MN MS_17 OT SC r0 r1 r2 r3 w r5 r6 r7 r8 L Lg p1 zh78
                        suffices e : Ev (d + 16, 0, 0, 95, 152, [.val (.ref 1088), .val (.int p1), .val (.int p2), .val (.int v4), .val (.int x11), .val (.int v13), .val (.int ((3 * p2) + v13)), .val s15, .val s16], [.int x22, .int x20], (126, 120, L, [Y, T, HA, HB, RA, RB, ST, NS, I0, I1, I2, BO, FI, RG, GU, PU, MA, MN, MS_17, OT, SC], [r0, r1, r2, r3, w, r5, r6, r7, r8], Lg)) o from ev_call (fun v μ => (d + 16, 0, 0, 95, 152, [.val (.ref 1088), .val (.int p1), .val (.int p2), .val (.int v4), .val (.int x11), .val (.int v13), .val (.int ((3 * p2) + v13)), .val s15, .val s16], v.toList ++ [.int x20], μ)) 3 ze79 e (fun n => Eq.refl _)
                        exact ev_b 0 (zj42 x22 (Option.some.inj zh41) ) (fun n => Eq.refl _)
                      · have zh41 := itn zh41 zc77
                        suffices e : Ev (d + 16, 0, 0, 95, 143, [.val (.ref 1088), .val (.int p1), .val (.int p2), .val (.int v4), .val (.int x11), .val (.int v13), .val (.int ((3 * p2) + v13)), .val s15, .val s16], [.int x20], (126, 120, L, [Y, T, HA, HB, RA, RB, ST, NS, I0, I1, I2, BO, FI, RG, GU, PU, MA, MN, MS_17, OT, SC], [r0, r1, r2, r3, w, r5, r6, r7, r8], Lg)) o from ev_f (c := ((3 * p2) + v13) ≠ x21) _ _ 1  zc77 e (fun n => Eq.refl _)
                        exact ev_b 2 (zj42 0 (Option.some.inj zh41) ) (fun n => Eq.refl _)
                    by_cases zc80 : x18 = 0
                    · have zh34 := itp zh34 zc80
                      suffices e : Ev (d + 16, 0, 0, 95, 127, [.val (.ref 1088), .val (.int p1), .val (.int p2), .val (.int v4), .val (.int x11), .val (.int v13), .val (.int ((3 * p2) + v13)), .val s15, .val s16], [], (126, 120, L, [Y, T, HA, HB, RA, RB, ST, NS, I0, I1, I2, BO, FI, RG, GU, PU, MA, MN, MS_17, OT, SC], [r0, r1, r2, r3, w, r5, r6, r7, r8], Lg)) o from ev_t (c := x18 = 0) _ _ 1  zc80 e (fun n => Eq.refl _)
                      exact ev_b 0 (zj35  (Option.some.inj zh34).symm ) (fun n => Eq.refl _)
                    · have zh34 := itn zh34 zc80
                      suffices e : Ev (d + 16, 0, 0, 95, 113, [.val (.ref 1088), .val (.int p1), .val (.int p2), .val (.int v4), .val (.int x11), .val (.int v13), .val (.int ((3 * p2) + v13)), .val s15, .val s16], [], (126, 120, L, [Y, T, HA, HB, RA, RB, ST, NS, I0, I1, I2, BO, FI, RG, GU, PU, MA, MN, MS_17, OT, SC], [r0, r1, r2, r3, w, r5, r6, r7, r8], Lg)) o from ev_f (c := x18 = 0) _ _ 1  zc80 e (fun n => Eq.refl _)
                      obtain ⟨x19, zh81, zh34⟩ := bnd zh34
                      have zh81 : rdx (MA 7) 10 p1 = some x19 := zh81
                      suffices e : Ev (d + 16, 0, 0, 95, 121, [.val (.ref 1088), .val (.int p1), .val (.int p2), .val (.int v4), .val (.int x11), .val (.int v13), .val (.int ((3 * p2) + v13)), .val s15, .val s16], [.int x19, .int ((3 * p2) + v13)], (126, 120, L, [Y, T, HA, HB, RA, RB, ST, NS, I0, I1, I2, BO, FI, RG, GU, PU, MA, MN, MS_17, OT, SC], [r0, r1, r2, r3, w, r5, r6, r7, r8], Lg)) o from ev_opt (fun x19 => (d + 16, 0, 0, 95, 121, [.val (.ref 1088), .val (.int p1), .val (.int p2), .val (.int v4), .val (.int x11), .val (.int v13), .val (.int ((3 * p2) + v13)), .val s15, .val s16], [.int x19, .int ((3 * p2) + v13)], (126, 120, L, [Y, T, HA, HB, RA, RB, ST, NS, I0, I1, I2, BO, FI, RG, GU, PU, MA, MN, MS_17, OT, SC], [r0, r1, r2, r3, w, r5, r6, r7, r8], Lg))) 5 zh81 e (fun n => Eq.refl _)
                      by_cases zc82 : ((3 * p2) + v13) = x19
                      · have zh34 := itp zh34 zc82
                        suffices e : Ev (d + 16, 0, 0, 95, 127, [.val (.ref 1088), .val (.int p1), .val (.int p2), .val (.int v4), .val (.int x11), .val (.int v13), .val (.int ((3 * p2) + v13)), .val s15, .val s16], [], (126, 120, L, [Y, T, HA, HB, RA, RB, ST, NS, I0, I1, I2, BO, FI, RG, GU, PU, MA, MN, MS_17, OT, SC], [r0, r1, r2, r3, w, r5, r6, r7, r8], Lg)) o from ev_t (c := ((3 * p2) + v13) = x19) _ _ 1  zc82 e (fun n => Eq.refl _)
                        exact ev_b 0 (zj35  (Option.some.inj zh34).symm ) (fun n => Eq.refl _)
                      · have zh34 := itn zh34 zc82
                        suffices e : Ev (d + 16, 0, 0, 95, 124, [.val (.ref 1088), .val (.int p1), .val (.int p2), .val (.int v4), .val (.int x11), .val (.int v13), .val (.int ((3 * p2) + v13)), .val s15, .val s16], [], (126, 120, L, [Y, T, HA, HB, RA, RB, ST, NS, I0, I1, I2, BO, FI, RG, GU, PU, MA, MN, MS_17, OT, SC], [r0, r1, r2, r3, w, r5, r6, r7, r8], Lg)) o from ev_f (c := ((3 * p2) + v13) = x19) _ _ 1  zc82 e (fun n => Eq.refl _)
                        have zh83 := sum_r zh28 (Option.some.inj zh34).symm
                        exact ev_b 3 (zi26 _ (Option.some.inj zh83).symm ((.int ((3 * p2) + v13)), s15, s16)) (fun n => Eq.refl _)
                · skip
                  intro s28 s29 s30 s31
                  exact ev_b 2 (zi12 _ (Option.some.inj zh14).symm ((.int x11), s28, s29, s30, s31)) (fun n => Eq.refl _)
              · have zh14 := itn zh14 zc23
                suffices e : Ev (d + 16, 0, 0, 95, 82, [.val (.ref 1088), .val (.int p1), .val (.int p2), .val (.int v4), .val (.int x11), .val s6, .val s7, .val s8, .val s9], [], (126, 120, L, [Y, T, HA, HB, RA, RB, ST, NS, I0, I1, I2, BO, FI, RG, GU, PU, MA, MN, MS_10, OT, SC], [r0, r1, r2, r3, w, r5, r6, r7, r8], Lg)) o from ev_f (c := x12 ≠ 0) _ _ 1  zc23 e (fun n => Eq.refl _)
                exact ev_b 3 (zi12 _ (Option.some.inj zh14).symm ((.int x11), s6, s7, s8, s9)) (fun n => Eq.refl _)
      · skip
        intro s33 s34 s35 s36 s37 s38
        have ze84 := Option.some.inj h
        subst ze84
        exact ev_rete 1 ho (fun n => Eq.refl _)
    by_cases zc85 : x2 = 0
    · have zh7 := itp zh7 zc85
      suffices e : Ev (d + 16, 0, 0, 95, 41, [.val (.ref 1088), .val (.int p1), .val (.int p2), .val a_unk, .val a_unk, .val a_unk, .val a_unk, .val a_unk, .val a_unk], [], (126, 120, L, [Y, T, HA, HB, RA, RB, ST, NS, I0, I1, I2, BO, FI, RG, GU, PU, MA, MN, (u2 (u2 MS 0 45 (-1)) 0 48 (-1)), OT, SC], [r0, r1, r2, r3, w, r5, r6, r7, r8], Lg)) o from ev_t (c := x2 = 0) _ _ 1  zc85 e (fun n => Eq.refl _)
      exact ev_b 0 (zj8  (Option.some.inj zh7).symm ) (fun n => Eq.refl _)
    · have zh7 := itn zh7 zc85
      suffices e : Ev (d + 16, 0, 0, 95, 28, [.val (.ref 1088), .val (.int p1), .val (.int p2), .val a_unk, .val a_unk, .val a_unk, .val a_unk, .val a_unk, .val a_unk], [], (126, 120, L, [Y, T, HA, HB, RA, RB, ST, NS, I0, I1, I2, BO, FI, RG, GU, PU, MA, MN, (u2 (u2 MS 0 45 (-1)) 0 48 (-1)), OT, SC], [r0, r1, r2, r3, w, r5, r6, r7, r8], Lg)) o from ev_f (c := x2 = 0) _ _ 1  zc85 e (fun n => Eq.refl _)
      obtain ⟨x3, zh86, zh7⟩ := bnd zh7
      have zh86 : rdx (MA 7) 10 p1 = some x3 := zh86
      suffices e : Ev (d + 16, 0, 0, 95, 34, [.val (.ref 1088), .val (.int p1), .val (.int p2), .val a_unk, .val a_unk, .val a_unk, .val a_unk, .val a_unk, .val a_unk], [.int x3], (126, 120, L, [Y, T, HA, HB, RA, RB, ST, NS, I0, I1, I2, BO, FI, RG, GU, PU, MA, MN, (u2 (u2 MS 0 45 (-1)) 0 48 (-1)), OT, SC], [r0, r1, r2, r3, w, r5, r6, r7, r8], Lg)) o from ev_opt (fun x3 => (d + 16, 0, 0, 95, 34, [.val (.ref 1088), .val (.int p1), .val (.int p2), .val a_unk, .val a_unk, .val a_unk, .val a_unk, .val a_unk, .val a_unk], [.int x3], (126, 120, L, [Y, T, HA, HB, RA, RB, ST, NS, I0, I1, I2, BO, FI, RG, GU, PU, MA, MN, (u2 (u2 MS 0 45 (-1)) 0 48 (-1)), OT, SC], [r0, r1, r2, r3, w, r5, r6, r7, r8], Lg))) 4 zh86 e (fun n => Eq.refl _)
      suffices e : Ev (d + 16, 0, 0, 95, 36, [.val (.ref 1088), .val (.int p1), .val (.int p2), .val a_unk, .val a_unk, .val a_unk, .val a_unk, .val a_unk, .val a_unk], [.int (x3 / 3)], (126, 120, L, [Y, T, HA, HB, RA, RB, ST, NS, I0, I1, I2, BO, FI, RG, GU, PU, MA, MN, (u2 (u2 MS 0 45 (-1)) 0 48 (-1)), OT, SC], [r0, r1, r2, r3, w, r5, r6, r7, r8], Lg)) o from ev_b 2 e (fun n => Eq.refl _)
      by_cases zc87 : (x3 / 3) = p2
      · have zh7 := itp zh7 zc87
        suffices e : Ev (d + 16, 0, 0, 95, 41, [.val (.ref 1088), .val (.int p1), .val (.int p2), .val a_unk, .val a_unk, .val a_unk, .val a_unk, .val a_unk, .val a_unk], [], (126, 120, L, [Y, T, HA, HB, RA, RB, ST, NS, I0, I1, I2, BO, FI, RG, GU, PU, MA, MN, (u2 (u2 MS 0 45 (-1)) 0 48 (-1)), OT, SC], [r0, r1, r2, r3, w, r5, r6, r7, r8], Lg)) o from ev_t (c := (x3 / 3) = p2) _ _ 2  zc87 e (fun n => Eq.refl _)
        exact ev_b 0 (zj8  (Option.some.inj zh7).symm ) (fun n => Eq.refl _)
      · have zh7 := itn zh7 zc87
        suffices e : Ev (d + 16, 0, 0, 95, 40, [.val (.ref 1088), .val (.int p1), .val (.int p2), .val a_unk, .val a_unk, .val a_unk, .val a_unk, .val a_unk, .val a_unk], [], (126, 120, L, [Y, T, HA, HB, RA, RB, ST, NS, I0, I1, I2, BO, FI, RG, GU, PU, MA, MN, (u2 (u2 MS 0 45 (-1)) 0 48 (-1)), OT, SC], [r0, r1, r2, r3, w, r5, r6, r7, r8], Lg)) o from ev_f (c := (x3 / 3) = p2) _ _ 2  zc87 e (fun n => Eq.refl _)
        have zh88 := sum_r h (Option.some.inj zh7).symm
        have ze89 := Option.some.inj zh88
        subst ze89
        exact ev_rete 1 ho (fun n => Eq.refl _)
set_option maxRecDepth 1000000 in
set_option maxHeartbeats 4000000 in
theorem R_f_M_isAsked_0 (d : Nat) (Y T HA HB RA RB ST NS I0 I1 I2 BO FI RG GU PU MA MN MS OT SC : Nat → Nat → Int32) (r0 r1 r2 r3 w r5 r6 r7 r8 : Nat) (L : Nat) (Lg : Int64) (p1 : Int32) (p2 : Int32) (p3 : Int32) {r : Int32 × (Nat → Nat → Int32)} (h : f_M_isAsked MA p1 p2 p3 = some r) : Ev (d + 2, 0, 0, 96, 0, [.val (.ref 1088), .val (.int p1), .val (.int p2), .val (.int p3)], [], (126, 120, L, [Y, T, HA, HB, RA, RB, ST, NS, I0, I1, I2, BO, FI, RG, GU, PU, MA, MN, MS, OT, SC], [r0, r1, r2, r3, w, r5, r6, r7, r8], Lg)) ((0, some (.int r.1), (126, 120, L, [Y, T, HA, HB, RA, RB, ST, NS, I0, I1, I2, BO, FI, RG, GU, PU, r.2, MN, MS, OT, SC], [r0, r1, r2, r3, w, r5, r6, r7, r8], Lg)) : AOut) := by
  suffices key : ∀ o : AOut, ((0, some (.int r.1), (126, 120, L, [Y, T, HA, HB, RA, RB, ST, NS, I0, I1, I2, BO, FI, RG, GU, PU, r.2, MN, MS, OT, SC], [r0, r1, r2, r3, w, r5, r6, r7, r8], Lg)) : AOut) = o → Ev (d + 2, 0, 0, 96, 0, [.val (.ref 1088), .val (.int p1), .val (.int p2), .val (.int p3)], [], (126, 120, L, [Y, T, HA, HB, RA, RB, ST, NS, I0, I1, I2, BO, FI, RG, GU, PU, MA, MN, MS, OT, SC], [r0, r1, r2, r3, w, r5, r6, r7, r8], Lg)) o from key _ rfl
  intro o ho
  obtain ⟨⟨x1, MA_2⟩, zh1, h⟩ := bnd h
  have zh1 : f_M_isMeeting MA p1 1 = some (x1, MA_2) := zh1
  have ze2 := R_f_M_isMeeting_0 (d + 0) Y T HA HB RA RB ST NS I0 I1 I2 BO FI RG GU PU MA MN MS OT SC r0 r1 r2 r3 w r5 r6 r7 r8 L Lg p1 1 zh1
  suffices e : Ev (d + 2, 0, 0, 96, 6, [.val (.ref 1088), .val (.int p1), .val (.int p2), .val (.int p3)], [.int x1], (126, 120, L, [Y, T, HA, HB, RA, RB, ST, NS, I0, I1, I2, BO, FI, RG, GU, PU, MA_2, MN, MS, OT, SC], [r0, r1, r2, r3, w, r5, r6, r7, r8], Lg)) o from ev_call (fun v μ => (d + 2, 0, 0, 96, 6, [.val (.ref 1088), .val (.int p1), .val (.int p2), .val (.int p3)], v.toList ++ [], μ)) 4 ze2 e (fun n => Eq.refl _)
  by_cases zc3 : x1 = 0
  · have h := itp h zc3
    suffices e : Ev (d + 2, 0, 0, 96, 45, [.val (.ref 1088), .val (.int p1), .val (.int p2), .val (.int p3)], [], (126, 120, L, [Y, T, HA, HB, RA, RB, ST, NS, I0, I1, I2, BO, FI, RG, GU, PU, MA_2, MN, MS, OT, SC], [r0, r1, r2, r3, w, r5, r6, r7, r8], Lg)) o from ev_t (c := x1 = 0) _ _ 1  zc3 e (fun n => Eq.refl _)
    have ze4 := Option.some.inj h
    subst ze4
    exact ev_rete 2 ho (fun n => Eq.refl _)
  · have h := itn h zc3
    suffices e : Ev (d + 2, 0, 0, 96, 9, [.val (.ref 1088), .val (.int p1), .val (.int p2), .val (.int p3)], [], (126, 120, L, [Y, T, HA, HB, RA, RB, ST, NS, I0, I1, I2, BO, FI, RG, GU, PU, MA_2, MN, MS, OT, SC], [r0, r1, r2, r3, w, r5, r6, r7, r8], Lg)) o from ev_f (c := x1 = 0) _ _ 1  zc3 e (fun n => Eq.refl _)
    obtain ⟨x3, zh5, h⟩ := bnd h
    have zh5 : f_M_within p2 0 ((MA_2 0 23) - 1) = some x3 := zh5
    have ze6 := R_f_M_within_0 (d + 1) Y T HA HB RA RB ST NS I0 I1 I2 BO FI RG GU PU MA_2 MN MS OT SC r0 r1 r2 r3 w r5 r6 r7 r8 L Lg p2 0 ((MA_2 0 23) - 1) zh5
    suffices e : Ev (d + 2, 0, 0, 96, 21, [.val (.ref 1088), .val (.int p1), .val (.int p2), .val (.int p3)], [.int x3, .ref 1088], (126, 120, L, [Y, T, HA, HB, RA, RB, ST, NS, I0, I1, I2, BO, FI, RG, GU, PU, MA_2, MN, MS, OT, SC], [r0, r1, r2, r3, w, r5, r6, r7, r8], Lg)) o from ev_call (fun v μ => (d + 2, 0, 0, 96, 21, [.val (.ref 1088), .val (.int p1), .val (.int p2), .val (.int p3)], v.toList ++ [.ref 1088], μ)) 8 ze6 e (fun n => Eq.refl _)
    obtain ⟨zt7, zh8, h⟩ := bnd h
    have zj9 : ∀ (v4 : Int32), v4 = zt7 → Ev (d + 2, 0, 0, 96, 33, [.val (.ref 1088), .val (.int p1), .val (.int p2), .val (.int p3)], [.int v4, .ref 1088], (126, 120, L, [Y, T, HA, HB, RA, RB, ST, NS, I0, I1, I2, BO, FI, RG, GU, PU, MA_2, MN, MS, OT, SC], [r0, r1, r2, r3, w, r5, r6, r7, r8], Lg)) o := by
      intro v4 ze10
      subst ze10
      obtain ⟨⟨x5, MA_6⟩, zh11, h⟩ := bnd h
      have zh11 : f_M_may MA_2 v4 2 1 = some (x5, MA_6) := zh11
      have ze12 := R_f_M_may_0 (d + 1) Y T HA HB RA RB ST NS I0 I1 I2 BO FI RG GU PU MA_2 MN MS OT SC r0 r1 r2 r3 w r5 r6 r7 r8 L Lg v4 2 1 zh11
      suffices e : Ev (d + 2, 0, 0, 96, 38, [.val (.ref 1088), .val (.int p1), .val (.int p2), .val (.int p3)], [.int x5], (126, 120, L, [Y, T, HA, HB, RA, RB, ST, NS, I0, I1, I2, BO, FI, RG, GU, PU, MA_6, MN, MS, OT, SC], [r0, r1, r2, r3, w, r5, r6, r7, r8], Lg)) o from ev_call (fun v μ => (d + 2, 0, 0, 96, 38, [.val (.ref 1088), .val (.int p1), .val (.int p2), .val (.int p3)], v.toList ++ [], μ)) 3 ze12 e (fun n => Eq.refl _)
      by_cases zc13 : x5 = 0
      · have h := itp h zc13
        suffices e : Ev (d + 2, 0, 0, 96, 45, [.val (.ref 1088), .val (.int p1), .val (.int p2), .val (.int p3)], [], (126, 120, L, [Y, T, HA, HB, RA, RB, ST, NS, I0, I1, I2, BO, FI, RG, GU, PU, MA_6, MN, MS, OT, SC], [r0, r1, r2, r3, w, r5, r6, r7, r8], Lg)) o from ev_t (c := x5 = 0) _ _ 1  zc13 e (fun n => Eq.refl _)
        have ze14 := Option.some.inj h
        subst ze14
        exact ev_rete 2 ho (fun n => Eq.refl _)
      · have h := itn h zc13
        suffices e : Ev (d + 2, 0, 0, 96, 41, [.val (.ref 1088), .val (.int p1), .val (.int p2), .val (.int p3)], [], (126, 120, L, [Y, T, HA, HB, RA, RB, ST, NS, I0, I1, I2, BO, FI, RG, GU, PU, MA_6, MN, MS, OT, SC], [r0, r1, r2, r3, w, r5, r6, r7, r8], Lg)) o from ev_f (c := x5 = 0) _ _ 1  zc13 e (fun n => Eq.refl _)
        have ze15 := Option.some.inj h
        subst ze15
        exact ev_rete 3 ho (fun n => Eq.refl _)
    obtain ⟨zt16, zh17, zh8⟩ := bnd zh8
    have zj18 : zt16 = .inl () → Ev (d + 2, 0, 0, 96, 32, [.val (.ref 1088), .val (.int p1), .val (.int p2), .val (.int p3)], [.ref 1088], (126, 120, L, [Y, T, HA, HB, RA, RB, ST, NS, I0, I1, I2, BO, FI, RG, GU, PU, MA_2, MN, MS, OT, SC], [r0, r1, r2, r3, w, r5, r6, r7, r8], Lg)) o := by
      intro ze19
      have zh8 := sum_l zh8 ze19
      exact ev_b 1 (zj9 0 (Option.some.inj zh8) ) (fun n => Eq.refl _)
    by_cases zc20 : x3 = 0
    · have zh17 := itp zh17 zc20
      suffices e : Ev (d + 2, 0, 0, 96, 32, [.val (.ref 1088), .val (.int p1), .val (.int p2), .val (.int p3)], [.ref 1088], (126, 120, L, [Y, T, HA, HB, RA, RB, ST, NS, I0, I1, I2, BO, FI, RG, GU, PU, MA_2, MN, MS, OT, SC], [r0, r1, r2, r3, w, r5, r6, r7, r8], Lg)) o from ev_t (c := x3 = 0) _ _ 1  zc20 e (fun n => Eq.refl _)
      exact ev_b 0 (zj18  (Option.some.inj zh17).symm ) (fun n => Eq.refl _)
    · have zh17 := itn zh17 zc20
      suffices e : Ev (d + 2, 0, 0, 96, 24, [.val (.ref 1088), .val (.int p1), .val (.int p2), .val (.int p3)], [.ref 1088], (126, 120, L, [Y, T, HA, HB, RA, RB, ST, NS, I0, I1, I2, BO, FI, RG, GU, PU, MA_2, MN, MS, OT, SC], [r0, r1, r2, r3, w, r5, r6, r7, r8], Lg)) o from ev_f (c := x3 = 0) _ _ 1  zc20 e (fun n => Eq.refl _)
      by_cases zc21 : p3 = 0
      · have zh17 := itp zh17 zc21
        suffices e : Ev (d + 2, 0, 0, 96, 32, [.val (.ref 1088), .val (.int p1), .val (.int p2), .val (.int p3)], [.ref 1088], (126, 120, L, [Y, T, HA, HB, RA, RB, ST, NS, I0, I1, I2, BO, FI, RG, GU, PU, MA_2, MN, MS, OT, SC], [r0, r1, r2, r3, w, r5, r6, r7, r8], Lg)) o from ev_t (c := p3 = 0) _ _ 2  zc21 e (fun n => Eq.refl _)
        exact ev_b 0 (zj18  (Option.some.inj zh17).symm ) (fun n => Eq.refl _)
      · have zh17 := itn zh17 zc21
        suffices e : Ev (d + 2, 0, 0, 96, 28, [.val (.ref 1088), .val (.int p1), .val (.int p2), .val (.int p3)], [.ref 1088], (126, 120, L, [Y, T, HA, HB, RA, RB, ST, NS, I0, I1, I2, BO, FI, RG, GU, PU, MA_2, MN, MS, OT, SC], [r0, r1, r2, r3, w, r5, r6, r7, r8], Lg)) o from ev_f (c := p3 = 0) _ _ 2  zc21 e (fun n => Eq.refl _)
        have zh22 := sum_r zh8 (Option.some.inj zh17).symm
        exact ev_b 2 (zj9 1 (Option.some.inj zh22) ) (fun n => Eq.refl _)
set_option maxRecDepth 1000000 in
set_option maxHeartbeats 4000000 in
theorem R_f_M_fits_0 (d : Nat) (Y T HA HB RA RB ST NS I0 I1 I2 BO FI RG GU PU MA MN MS OT SC : Nat → Nat → Int32) (r0 r1 r2 r3 w r5 r6 r7 r8 : Nat) (L : Nat) (Lg : Int64) (p1 : Int32) (p2 : Int32) (p3 : Int32) {r : Int32 × (Nat → Nat → Int32) × (Nat → Nat → Int32)} (h : f_M_fits MA MS p1 p2 p3 = some r) : Ev (d + 17, 0, 0, 97, 0, [.val (.ref 1088), .val (.int p1), .val (.int p2), .val (.int p3)], [], (126, 120, L, [Y, T, HA, HB, RA, RB, ST, NS, I0, I1, I2, BO, FI, RG, GU, PU, MA, MN, MS, OT, SC], [r0, r1, r2, r3, w, r5, r6, r7, r8], Lg)) ((0, some (.int r.1), (126, 120, L, [Y, T, HA, HB, RA, RB, ST, NS, I0, I1, I2, BO, FI, RG, GU, PU, r.2.1, MN, r.2.2, OT, SC], [r0, r1, r2, r3, w, r5, r6, r7, r8], Lg)) : AOut) := by
  suffices key : ∀ o : AOut, ((0, some (.int r.1), (126, 120, L, [Y, T, HA, HB, RA, RB, ST, NS, I0, I1, I2, BO, FI, RG, GU, PU, r.2.1, MN, r.2.2, OT, SC], [r0, r1, r2, r3, w, r5, r6, r7, r8], Lg)) : AOut) = o → Ev (d + 17, 0, 0, 97, 0, [.val (.ref 1088), .val (.int p1), .val (.int p2), .val (.int p3)], [], (126, 120, L, [Y, T, HA, HB, RA, RB, ST, NS, I0, I1, I2, BO, FI, RG, GU, PU, MA, MN, MS, OT, SC], [r0, r1, r2, r3, w, r5, r6, r7, r8], Lg)) o from key _ rfl
  intro o ho
  obtain ⟨x1, zh1, h⟩ := bnd h
  have zh1 : f_M_within p3 0 3 = some x1 := zh1
  have ze2 := R_f_M_within_0 (d + 16) Y T HA HB RA RB ST NS I0 I1 I2 BO FI RG GU PU (u2 MA 0 0 0) MN MS OT SC r0 r1 r2 r3 w r5 r6 r7 r8 L Lg p3 0 3 zh1
  suffices e : Ev (d + 17, 0, 0, 97, 14, [.val (.ref 1088), .val (.int p1), .val (.int p2), .val (.int p3)], [.int x1, .int p2, .int p1, .ref 1088], (126, 120, L, [Y, T, HA, HB, RA, RB, ST, NS, I0, I1, I2, BO, FI, RG, GU, PU, (u2 MA 0 0 0), MN, MS, OT, SC], [r0, r1, r2, r3, w, r5, r6, r7, r8], Lg)) o from ev_call (fun v μ => (d + 17, 0, 0, 97, 14, [.val (.ref 1088), .val (.int p1), .val (.int p2), .val (.int p3)], v.toList ++ [.int p2, .int p1, .ref 1088], μ)) 10 ze2 e (fun n => Eq.refl _)
  obtain ⟨⟨x2, MA_3⟩, zh3, h⟩ := bnd h
  have zh3 : f_M_isAsked (u2 MA 0 0 0) p1 p2 x1 = some (x2, MA_3) := zh3
  have ze4 := R_f_M_isAsked_0 (d + 14) Y T HA HB RA RB ST NS I0 I1 I2 BO FI RG GU PU (u2 MA 0 0 0) MN MS OT SC r0 r1 r2 r3 w r5 r6 r7 r8 L Lg p1 p2 x1 zh3
  suffices e : Ev (d + 17, 0, 0, 97, 17, [.val (.ref 1088), .val (.int p1), .val (.int p2), .val (.int p3)], [.int x2], (126, 120, L, [Y, T, HA, HB, RA, RB, ST, NS, I0, I1, I2, BO, FI, RG, GU, PU, MA_3, MN, MS, OT, SC], [r0, r1, r2, r3, w, r5, r6, r7, r8], Lg)) o from ev_call (fun v μ => (d + 17, 0, 0, 97, 17, [.val (.ref 1088), .val (.int p1), .val (.int p2), .val (.int p3)], v.toList ++ [], μ)) 1 ze4 e (fun n => Eq.refl _)
  by_cases zc5 : x2 ≠ 0
  · have h := itp h zc5
    suffices e : Ev (d + 17, 0, 0, 97, 22, [.val (.ref 1088), .val (.int p1), .val (.int p2), .val (.int p3)], [], (126, 120, L, [Y, T, HA, HB, RA, RB, ST, NS, I0, I1, I2, BO, FI, RG, GU, PU, MA_3, MN, MS, OT, SC], [r0, r1, r2, r3, w, r5, r6, r7, r8], Lg)) o from ev_t (c := x2 ≠ 0) _ _ 1  zc5 e (fun n => Eq.refl _)
    obtain ⟨MS_4, zh6, h⟩ := bnd h
    have zh6 : f_M_findFit MA_3 MS p1 p2 = some MS_4 := zh6
    have ze7 := R_f_M_findFit_0 (d + 0) Y T HA HB RA RB ST NS I0 I1 I2 BO FI RG GU PU MA_3 MN MS OT SC r0 r1 r2 r3 w r5 r6 r7 r8 L Lg p1 p2 zh6
    suffices e : Ev (d + 17, 0, 0, 97, 28, [.val (.ref 1088), .val (.int p1), .val (.int p2), .val (.int p3)], [], (126, 120, L, [Y, T, HA, HB, RA, RB, ST, NS, I0, I1, I2, BO, FI, RG, GU, PU, MA_3, MN, MS_4, OT, SC], [r0, r1, r2, r3, w, r5, r6, r7, r8], Lg)) o from ev_call (fun v μ => (d + 17, 0, 0, 97, 28, [.val (.ref 1088), .val (.int p1), .val (.int p2), .val (.int p3)], v.toList ++ [], μ)) 4 ze7 e (fun n => Eq.refl _)
    by_cases zc8 : (MS_4 0 45) ≠ (-1)
    · have h := itp h zc8
      suffices e : Ev (d + 17, 0, 0, 97, 38, [.val (.ref 1088), .val (.int p1), .val (.int p2), .val (.int p3)], [], (126, 120, L, [Y, T, HA, HB, RA, RB, ST, NS, I0, I1, I2, BO, FI, RG, GU, PU, MA_3, MN, MS_4, OT, SC], [r0, r1, r2, r3, w, r5, r6, r7, r8], Lg)) o from ev_t (c := (MS_4 0 45) ≠ (-1)) _ _ 4  zc8 e (fun n => Eq.refl _)
      by_cases zc9 : p3 ≠ 0
      · have h := itp h zc9
        suffices e : Ev (d + 17, 0, 0, 97, 49, [.val (.ref 1088), .val (.int p1), .val (.int p2), .val (.int p3)], [], (126, 120, L, [Y, T, HA, HB, RA, RB, ST, NS, I0, I1, I2, BO, FI, RG, GU, PU, MA_3, MN, MS_4, OT, SC], [r0, r1, r2, r3, w, r5, r6, r7, r8], Lg)) o from ev_t (c := p3 ≠ 0) _ _ 2  zc9 e (fun n => Eq.refl _)
        by_cases zc10 : p3 ≠ 1
        · have h := itp h zc10
          suffices e : Ev (d + 17, 0, 0, 97, 61, [.val (.ref 1088), .val (.int p1), .val (.int p2), .val (.int p3)], [], (126, 120, L, [Y, T, HA, HB, RA, RB, ST, NS, I0, I1, I2, BO, FI, RG, GU, PU, MA_3, MN, MS_4, OT, SC], [r0, r1, r2, r3, w, r5, r6, r7, r8], Lg)) o from ev_t (c := p3 ≠ 1) _ _ 3  zc10 e (fun n => Eq.refl _)
          by_cases zc11 : p3 ≠ 2
          · have h := itp h zc11
            suffices e : Ev (d + 17, 0, 0, 97, 73, [.val (.ref 1088), .val (.int p1), .val (.int p2), .val (.int p3)], [], (126, 120, L, [Y, T, HA, HB, RA, RB, ST, NS, I0, I1, I2, BO, FI, RG, GU, PU, MA_3, MN, MS_4, OT, SC], [r0, r1, r2, r3, w, r5, r6, r7, r8], Lg)) o from ev_t (c := p3 ≠ 2) _ _ 3  zc11 e (fun n => Eq.refl _)
            have ze12 := Option.some.inj h
            subst ze12
            exact ev_rete 3 ho (fun n => Eq.refl _)
          · have h := itn h zc11
            suffices e : Ev (d + 17, 0, 0, 97, 66, [.val (.ref 1088), .val (.int p1), .val (.int p2), .val (.int p3)], [], (126, 120, L, [Y, T, HA, HB, RA, RB, ST, NS, I0, I1, I2, BO, FI, RG, GU, PU, MA_3, MN, MS_4, OT, SC], [r0, r1, r2, r3, w, r5, r6, r7, r8], Lg)) o from ev_f (c := p3 ≠ 2) _ _ 3  zc11 e (fun n => Eq.refl _)
            have ze13 := Option.some.inj h
            subst ze13
            exact ev_rete 4 ho (fun n => Eq.refl _)
        · have h := itn h zc10
          suffices e : Ev (d + 17, 0, 0, 97, 54, [.val (.ref 1088), .val (.int p1), .val (.int p2), .val (.int p3)], [], (126, 120, L, [Y, T, HA, HB, RA, RB, ST, NS, I0, I1, I2, BO, FI, RG, GU, PU, MA_3, MN, MS_4, OT, SC], [r0, r1, r2, r3, w, r5, r6, r7, r8], Lg)) o from ev_f (c := p3 ≠ 1) _ _ 3  zc10 e (fun n => Eq.refl _)
          have ze14 := Option.some.inj h
          subst ze14
          exact ev_rete 4 ho (fun n => Eq.refl _)
      · have h := itn h zc9
        suffices e : Ev (d + 17, 0, 0, 97, 42, [.val (.ref 1088), .val (.int p1), .val (.int p2), .val (.int p3)], [], (126, 120, L, [Y, T, HA, HB, RA, RB, ST, NS, I0, I1, I2, BO, FI, RG, GU, PU, MA_3, MN, MS_4, OT, SC], [r0, r1, r2, r3, w, r5, r6, r7, r8], Lg)) o from ev_f (c := p3 ≠ 0) _ _ 2  zc9 e (fun n => Eq.refl _)
        have ze15 := Option.some.inj h
        subst ze15
        exact ev_rete 4 ho (fun n => Eq.refl _)
    · have h := itn h zc8
      suffices e : Ev (d + 17, 0, 0, 97, 36, [.val (.ref 1088), .val (.int p1), .val (.int p2), .val (.int p3)], [], (126, 120, L, [Y, T, HA, HB, RA, RB, ST, NS, I0, I1, I2, BO, FI, RG, GU, PU, MA_3, MN, MS_4, OT, SC], [r0, r1, r2, r3, w, r5, r6, r7, r8], Lg)) o from ev_f (c := (MS_4 0 45) ≠ (-1)) _ _ 4  zc8 e (fun n => Eq.refl _)
      have ze16 := Option.some.inj h
      subst ze16
      exact ev_rete 2 ho (fun n => Eq.refl _)
  · have h := itn h zc5
    suffices e : Ev (d + 17, 0, 0, 97, 20, [.val (.ref 1088), .val (.int p1), .val (.int p2), .val (.int p3)], [], (126, 120, L, [Y, T, HA, HB, RA, RB, ST, NS, I0, I1, I2, BO, FI, RG, GU, PU, MA_3, MN, MS, OT, SC], [r0, r1, r2, r3, w, r5, r6, r7, r8], Lg)) o from ev_f (c := x2 ≠ 0) _ _ 1  zc5 e (fun n => Eq.refl _)
    have ze17 := Option.some.inj h
    subst ze17
    exact ev_rete 2 ho (fun n => Eq.refl _)
set_option maxRecDepth 1000000 in
set_option maxHeartbeats 4000000 in
theorem R_f_M_shown_0 (d : Nat) (Y T HA HB RA RB ST NS I0 I1 I2 BO FI RG GU PU MA MN MS OT SC : Nat → Nat → Int32) (r0 r1 r2 r3 w r5 r6 r7 r8 : Nat) (L : Nat) (Lg : Int64) (p0 : Int32) (p1 : Int32) {r : Int32} (h : f_M_shown p0 p1 = some r) : Ev (d + 0, 0, 0, 98, 0, [.val (.int p0), .val (.int p1)], [], (126, 120, L, [Y, T, HA, HB, RA, RB, ST, NS, I0, I1, I2, BO, FI, RG, GU, PU, MA, MN, MS, OT, SC], [r0, r1, r2, r3, w, r5, r6, r7, r8], Lg)) ((0, some (.int r), (126, 120, L, [Y, T, HA, HB, RA, RB, ST, NS, I0, I1, I2, BO, FI, RG, GU, PU, MA, MN, MS, OT, SC], [r0, r1, r2, r3, w, r5, r6, r7, r8], Lg)) : AOut) := by
  suffices key : ∀ o : AOut, ((0, some (.int r), (126, 120, L, [Y, T, HA, HB, RA, RB, ST, NS, I0, I1, I2, BO, FI, RG, GU, PU, MA, MN, MS, OT, SC], [r0, r1, r2, r3, w, r5, r6, r7, r8], Lg)) : AOut) = o → Ev (d + 0, 0, 0, 98, 0, [.val (.int p0), .val (.int p1)], [], (126, 120, L, [Y, T, HA, HB, RA, RB, ST, NS, I0, I1, I2, BO, FI, RG, GU, PU, MA, MN, MS, OT, SC], [r0, r1, r2, r3, w, r5, r6, r7, r8], Lg)) o from key _ rfl
  intro o ho
  by_cases zc1 : p1 = 0
  · have h := itp h zc1
    suffices e : Ev (d + 0, 0, 0, 98, 17, [.val (.int p0), .val (.int p1)], [], (126, 120, L, [Y, T, HA, HB, RA, RB, ST, NS, I0, I1, I2, BO, FI, RG, GU, PU, MA, MN, MS, OT, SC], [r0, r1, r2, r3, w, r5, r6, r7, r8], Lg)) o from ev_t (c := p1 = 0) _ _ 2  zc1 e (fun n => Eq.refl _)
    have ze2 := Option.some.inj h
    subst ze2
    exact ev_rete 2 ho (fun n => Eq.refl _)
  · have h := itn h zc1
    suffices e : Ev (d + 0, 0, 0, 98, 4, [.val (.int p0), .val (.int p1)], [], (126, 120, L, [Y, T, HA, HB, RA, RB, ST, NS, I0, I1, I2, BO, FI, RG, GU, PU, MA, MN, MS, OT, SC], [r0, r1, r2, r3, w, r5, r6, r7, r8], Lg)) o from ev_f (c := p1 = 0) _ _ 2  zc1 e (fun n => Eq.refl _)
    suffices e : Ev (d + 0, 0, 0, 98, 9, [.val (.int p0), .val (.int p1)], [.int (a_rem p0 3), .int 10], (126, 120, L, [Y, T, HA, HB, RA, RB, ST, NS, I0, I1, I2, BO, FI, RG, GU, PU, MA, MN, MS, OT, SC], [r0, r1, r2, r3, w, r5, r6, r7, r8], Lg)) o from ev_b 4 e (fun n => Eq.refl _)
    suffices e : Ev (d + 0, 0, 0, 98, 13, [.val (.int p0), .val (.int p1)], [.int (p0 / 3), .int (10 * (a_rem p0 3))], (126, 120, L, [Y, T, HA, HB, RA, RB, ST, NS, I0, I1, I2, BO, FI, RG, GU, PU, MA, MN, MS, OT, SC], [r0, r1, r2, r3, w, r5, r6, r7, r8], Lg)) o from ev_b 4 e (fun n => Eq.refl _)
    have ze3 := Option.some.inj h
    subst ze3
    exact ev_rete 3 ho (fun n => Eq.refl _)
set_option maxRecDepth 1000000 in
set_option maxHeartbeats 4000000 in
theorem R_f_M_goes_0 (d : Nat) (Y T HA HB RA RB ST NS I0 I1 I2 BO FI RG GU PU MA MN MS OT SC : Nat → Nat → Int32) (r0 r1 r2 r3 w r5 r6 r7 r8 : Nat) (L : Nat) (Lg : Int64) (p1 : Int32) (p2 : Int32) (p3 : Int32) {r : Int32 × (Nat → Nat → Int32) × (Nat → Nat → Int32)} (h : f_M_goes MA MS p1 p2 p3 = some r) : Ev (d + 17, 0, 0, 99, 0, [.val (.ref 1088), .val (.int p1), .val (.int p2), .val (.int p3)], [], (126, 120, L, [Y, T, HA, HB, RA, RB, ST, NS, I0, I1, I2, BO, FI, RG, GU, PU, MA, MN, MS, OT, SC], [r0, r1, r2, r3, w, r5, r6, r7, r8], Lg)) ((0, some (.int r.1), (126, 120, L, [Y, T, HA, HB, RA, RB, ST, NS, I0, I1, I2, BO, FI, RG, GU, PU, r.2.1, MN, r.2.2, OT, SC], [r0, r1, r2, r3, w, r5, r6, r7, r8], Lg)) : AOut) := by
  suffices key : ∀ o : AOut, ((0, some (.int r.1), (126, 120, L, [Y, T, HA, HB, RA, RB, ST, NS, I0, I1, I2, BO, FI, RG, GU, PU, r.2.1, MN, r.2.2, OT, SC], [r0, r1, r2, r3, w, r5, r6, r7, r8], Lg)) : AOut) = o → Ev (d + 17, 0, 0, 99, 0, [.val (.ref 1088), .val (.int p1), .val (.int p2), .val (.int p3)], [], (126, 120, L, [Y, T, HA, HB, RA, RB, ST, NS, I0, I1, I2, BO, FI, RG, GU, PU, MA, MN, MS, OT, SC], [r0, r1, r2, r3, w, r5, r6, r7, r8], Lg)) o from key _ rfl
  intro o ho
  obtain ⟨⟨x1, MA_2⟩, zh1, h⟩ := bnd h
  have zh1 : f_M_isMeeting (u2 MA 0 0 0) p1 1 = some (x1, MA_2) := zh1
  have ze2 := R_f_M_isMeeting_0 (d + 15) Y T HA HB RA RB ST NS I0 I1 I2 BO FI RG GU PU (u2 MA 0 0 0) MN MS OT SC r0 r1 r2 r3 w r5 r6 r7 r8 L Lg p1 1 zh1
  suffices e : Ev (d + 17, 0, 0, 99, 11, [.val (.ref 1088), .val (.int p1), .val (.int p2), .val (.int p3)], [.int x1], (126, 120, L, [Y, T, HA, HB, RA, RB, ST, NS, I0, I1, I2, BO, FI, RG, GU, PU, MA_2, MN, MS, OT, SC], [r0, r1, r2, r3, w, r5, r6, r7, r8], Lg)) o from ev_call (fun v μ => (d + 17, 0, 0, 99, 11, [.val (.ref 1088), .val (.int p1), .val (.int p2), .val (.int p3)], v.toList ++ [], μ)) 7 ze2 e (fun n => Eq.refl _)
  by_cases zc3 : x1 = 0
  · have h := itp h zc3
    suffices e : Ev (d + 17, 0, 0, 99, 43, [.val (.ref 1088), .val (.int p1), .val (.int p2), .val (.int p3)], [], (126, 120, L, [Y, T, HA, HB, RA, RB, ST, NS, I0, I1, I2, BO, FI, RG, GU, PU, MA_2, MN, MS, OT, SC], [r0, r1, r2, r3, w, r5, r6, r7, r8], Lg)) o from ev_t (c := x1 = 0) _ _ 1  zc3 e (fun n => Eq.refl _)
    have ze4 := Option.some.inj h
    subst ze4
    exact ev_rete 2 ho (fun n => Eq.refl _)
  · have h := itn h zc3
    suffices e : Ev (d + 17, 0, 0, 99, 14, [.val (.ref 1088), .val (.int p1), .val (.int p2), .val (.int p3)], [], (126, 120, L, [Y, T, HA, HB, RA, RB, ST, NS, I0, I1, I2, BO, FI, RG, GU, PU, MA_2, MN, MS, OT, SC], [r0, r1, r2, r3, w, r5, r6, r7, r8], Lg)) o from ev_f (c := x1 = 0) _ _ 1  zc3 e (fun n => Eq.refl _)
    obtain ⟨⟨x3, MA_4⟩, zh5, h⟩ := bnd h
    have zh5 : f_M_isMeeting MA_2 p3 1 = some (x3, MA_4) := zh5
    have ze6 := R_f_M_isMeeting_0 (d + 15) Y T HA HB RA RB ST NS I0 I1 I2 BO FI RG GU PU MA_2 MN MS OT SC r0 r1 r2 r3 w r5 r6 r7 r8 L Lg p3 1 zh5
    suffices e : Ev (d + 17, 0, 0, 99, 20, [.val (.ref 1088), .val (.int p1), .val (.int p2), .val (.int p3)], [.int x3], (126, 120, L, [Y, T, HA, HB, RA, RB, ST, NS, I0, I1, I2, BO, FI, RG, GU, PU, MA_4, MN, MS, OT, SC], [r0, r1, r2, r3, w, r5, r6, r7, r8], Lg)) o from ev_call (fun v μ => (d + 17, 0, 0, 99, 20, [.val (.ref 1088), .val (.int p1), .val (.int p2), .val (.int p3)], v.toList ++ [], μ)) 4 ze6 e (fun n => Eq.refl _)
    by_cases zc7 : x3 = 0
    · have h := itp h zc7
      suffices e : Ev (d + 17, 0, 0, 99, 43, [.val (.ref 1088), .val (.int p1), .val (.int p2), .val (.int p3)], [], (126, 120, L, [Y, T, HA, HB, RA, RB, ST, NS, I0, I1, I2, BO, FI, RG, GU, PU, MA_4, MN, MS, OT, SC], [r0, r1, r2, r3, w, r5, r6, r7, r8], Lg)) o from ev_t (c := x3 = 0) _ _ 1  zc7 e (fun n => Eq.refl _)
      have ze8 := Option.some.inj h
      subst ze8
      exact ev_rete 2 ho (fun n => Eq.refl _)
    · have h := itn h zc7
      suffices e : Ev (d + 17, 0, 0, 99, 23, [.val (.ref 1088), .val (.int p1), .val (.int p2), .val (.int p3)], [], (126, 120, L, [Y, T, HA, HB, RA, RB, ST, NS, I0, I1, I2, BO, FI, RG, GU, PU, MA_4, MN, MS, OT, SC], [r0, r1, r2, r3, w, r5, r6, r7, r8], Lg)) o from ev_f (c := x3 = 0) _ _ 1  zc7 e (fun n => Eq.refl _)
      obtain ⟨x5, zh9, h⟩ := bnd h
      have zh9 : f_M_within p2 0 ((MA_4 0 23) - 1) = some x5 := zh9
      have ze10 := R_f_M_within_0 (d + 16) Y T HA HB RA RB ST NS I0 I1 I2 BO FI RG GU PU MA_4 MN MS OT SC r0 r1 r2 r3 w r5 r6 r7 r8 L Lg p2 0 ((MA_4 0 23) - 1) zh9
      suffices e : Ev (d + 17, 0, 0, 99, 35, [.val (.ref 1088), .val (.int p1), .val (.int p2), .val (.int p3)], [.int x5, .ref 1088], (126, 120, L, [Y, T, HA, HB, RA, RB, ST, NS, I0, I1, I2, BO, FI, RG, GU, PU, MA_4, MN, MS, OT, SC], [r0, r1, r2, r3, w, r5, r6, r7, r8], Lg)) o from ev_call (fun v μ => (d + 17, 0, 0, 99, 35, [.val (.ref 1088), .val (.int p1), .val (.int p2), .val (.int p3)], v.toList ++ [.ref 1088], μ)) 8 ze10 e (fun n => Eq.refl _)
      obtain ⟨⟨x6, MA_7⟩, zh11, h⟩ := bnd h
      have zh11 : f_M_may MA_4 x5 2 1 = some (x6, MA_7) := zh11
      have ze12 := R_f_M_may_0 (d + 16) Y T HA HB RA RB ST NS I0 I1 I2 BO FI RG GU PU MA_4 MN MS OT SC r0 r1 r2 r3 w r5 r6 r7 r8 L Lg x5 2 1 zh11
      suffices e : Ev (d + 17, 0, 0, 99, 40, [.val (.ref 1088), .val (.int p1), .val (.int p2), .val (.int p3)], [.int x6], (126, 120, L, [Y, T, HA, HB, RA, RB, ST, NS, I0, I1, I2, BO, FI, RG, GU, PU, MA_7, MN, MS, OT, SC], [r0, r1, r2, r3, w, r5, r6, r7, r8], Lg)) o from ev_call (fun v μ => (d + 17, 0, 0, 99, 40, [.val (.ref 1088), .val (.int p1), .val (.int p2), .val (.int p3)], v.toList ++ [], μ)) 3 ze12 e (fun n => Eq.refl _)
      by_cases zc13 : x6 ≠ 0
      · have h := itp h zc13
        suffices e : Ev (d + 17, 0, 0, 99, 45, [.val (.ref 1088), .val (.int p1), .val (.int p2), .val (.int p3)], [], (126, 120, L, [Y, T, HA, HB, RA, RB, ST, NS, I0, I1, I2, BO, FI, RG, GU, PU, MA_7, MN, MS, OT, SC], [r0, r1, r2, r3, w, r5, r6, r7, r8], Lg)) o from ev_t (c := x6 ≠ 0) _ _ 1  zc13 e (fun n => Eq.refl _)
        obtain ⟨MS_8, zh14, h⟩ := bnd h
        have zh14 : f_M_findFit MA_7 MS p1 p2 = some MS_8 := zh14
        have ze15 := R_f_M_findFit_0 (d + 0) Y T HA HB RA RB ST NS I0 I1 I2 BO FI RG GU PU MA_7 MN MS OT SC r0 r1 r2 r3 w r5 r6 r7 r8 L Lg p1 p2 zh14
        suffices e : Ev (d + 17, 0, 0, 99, 51, [.val (.ref 1088), .val (.int p1), .val (.int p2), .val (.int p3)], [], (126, 120, L, [Y, T, HA, HB, RA, RB, ST, NS, I0, I1, I2, BO, FI, RG, GU, PU, MA_7, MN, MS_8, OT, SC], [r0, r1, r2, r3, w, r5, r6, r7, r8], Lg)) o from ev_call (fun v μ => (d + 17, 0, 0, 99, 51, [.val (.ref 1088), .val (.int p1), .val (.int p2), .val (.int p3)], v.toList ++ [], μ)) 4 ze15 e (fun n => Eq.refl _)
        by_cases zc16 : (MS_8 0 45) = (-1)
        · have h := itp h zc16
          suffices e : Ev (d + 17, 0, 0, 99, 75, [.val (.ref 1088), .val (.int p1), .val (.int p2), .val (.int p3)], [], (126, 120, L, [Y, T, HA, HB, RA, RB, ST, NS, I0, I1, I2, BO, FI, RG, GU, PU, MA_7, MN, MS_8, OT, SC], [r0, r1, r2, r3, w, r5, r6, r7, r8], Lg)) o from ev_t (c := (MS_8 0 45) = (-1)) _ _ 4  zc16 e (fun n => Eq.refl _)
          have ze17 := Option.some.inj h
          subst ze17
          exact ev_rete 2 ho (fun n => Eq.refl _)
        · have h := itn h zc16
          suffices e : Ev (d + 17, 0, 0, 99, 59, [.val (.ref 1088), .val (.int p1), .val (.int p2), .val (.int p3)], [], (126, 120, L, [Y, T, HA, HB, RA, RB, ST, NS, I0, I1, I2, BO, FI, RG, GU, PU, MA_7, MN, MS_8, OT, SC], [r0, r1, r2, r3, w, r5, r6, r7, r8], Lg)) o from ev_f (c := (MS_8 0 45) = (-1)) _ _ 4  zc16 e (fun n => Eq.refl _)
          obtain ⟨zt18, zh19, h⟩ := bnd h
          have zj20 : zt18 = .inl () → Ev (d + 17, 0, 0, 99, 77, [.val (.ref 1088), .val (.int p1), .val (.int p2), .val (.int p3)], [], (126, 120, L, [Y, T, HA, HB, RA, RB, ST, NS, I0, I1, I2, BO, FI, RG, GU, PU, MA_7, MN, MS_8, OT, SC], [r0, r1, r2, r3, w, r5, r6, r7, r8], Lg)) o := by
            intro ze21
            have h := sum_l h ze21
            obtain ⟨⟨x9, MS_10⟩, zh22, h⟩ := bnd h
            have zh22 : f_M_fitsIn MA_7 MS_8 p1 ((3 * p2) + (MS_8 0 47)) (MS_8 0 46) = some (x9, MS_10) := zh22
            have ze23 := R_f_M_fitsIn_0 (d + 1) Y T HA HB RA RB ST NS I0 I1 I2 BO FI RG GU PU MA_7 MN MS_8 OT SC r0 r1 r2 r3 w r5 r6 r7 r8 L Lg p1 ((3 * p2) + (MS_8 0 47)) (MS_8 0 46) zh22
            suffices e : Ev (d + 17, 0, 0, 99, 94, [.val (.ref 1088), .val (.int p1), .val (.int p2), .val (.int p3)], [.int x9], (126, 120, L, [Y, T, HA, HB, RA, RB, ST, NS, I0, I1, I2, BO, FI, RG, GU, PU, MA_7, MN, MS_10, OT, SC], [r0, r1, r2, r3, w, r5, r6, r7, r8], Lg)) o from ev_call (fun v μ => (d + 17, 0, 0, 99, 94, [.val (.ref 1088), .val (.int p1), .val (.int p2), .val (.int p3)], v.toList ++ [], μ)) 11 ze23 e (fun n => Eq.refl _)
            obtain ⟨x11, zh24, h⟩ := bnd h
            have zh24 : rdx (MS_10 4) 10 p3 = some x11 := zh24
            suffices e : Ev (d + 17, 0, 0, 99, 101, [.val (.ref 1088), .val (.int p1), .val (.int p2), .val (.int p3)], [.int x11], (126, 120, L, [Y, T, HA, HB, RA, RB, ST, NS, I0, I1, I2, BO, FI, RG, GU, PU, MA_7, MN, MS_10, OT, SC], [r0, r1, r2, r3, w, r5, r6, r7, r8], Lg)) o from ev_opt (fun x11 => (d + 17, 0, 0, 99, 101, [.val (.ref 1088), .val (.int p1), .val (.int p2), .val (.int p3)], [.int x11], (126, 120, L, [Y, T, HA, HB, RA, RB, ST, NS, I0, I1, I2, BO, FI, RG, GU, PU, MA_7, MN, MS_10, OT, SC], [r0, r1, r2, r3, w, r5, r6, r7, r8], Lg))) 5 zh24 e (fun n => Eq.refl _)
            obtain ⟨x12, zh25, h⟩ := bnd h
            have zh25 : f_M_shown x11 1 = some x12 := zh25
            have ze26 := R_f_M_shown_0 (d + 16) Y T HA HB RA RB ST NS I0 I1 I2 BO FI RG GU PU MA_7 MN MS_10 OT SC r0 r1 r2 r3 w r5 r6 r7 r8 L Lg x11 1 zh25
            suffices e : Ev (d + 17, 0, 0, 99, 105, [.val (.ref 1088), .val (.int p1), .val (.int p2), .val (.int p3)], [.int x12], (126, 120, L, [Y, T, HA, HB, RA, RB, ST, NS, I0, I1, I2, BO, FI, RG, GU, PU, MA_7, MN, MS_10, OT, SC], [r0, r1, r2, r3, w, r5, r6, r7, r8], Lg)) o from ev_call (fun v μ => (d + 17, 0, 0, 99, 105, [.val (.ref 1088), .val (.int p1), .val (.int p2), .val (.int p3)], v.toList ++ [], μ)) 2 ze26 e (fun n => Eq.refl _)
            have ze27 := Option.some.inj h
            subst ze27
            exact ev_rete 1 ho (fun n => Eq.refl _)
          by_cases zc28 : p3 = p1
          · have zh19 := itp zh19 zc28
            suffices e : Ev (d + 17, 0, 0, 99, 77, [.val (.ref 1088), .val (.int p1), .val (.int p2), .val (.int p3)], [], (126, 120, L, [Y, T, HA, HB, RA, RB, ST, NS, I0, I1, I2, BO, FI, RG, GU, PU, MA_7, MN, MS_8, OT, SC], [r0, r1, r2, r3, w, r5, r6, r7, r8], Lg)) o from ev_t (c := p3 = p1) _ _ 3  zc28 e (fun n => Eq.refl _)
            exact ev_b 0 (zj20  (Option.some.inj zh19).symm ) (fun n => Eq.refl _)
          · have zh19 := itn zh19 zc28
            suffices e : Ev (d + 17, 0, 0, 99, 64, [.val (.ref 1088), .val (.int p1), .val (.int p2), .val (.int p3)], [], (126, 120, L, [Y, T, HA, HB, RA, RB, ST, NS, I0, I1, I2, BO, FI, RG, GU, PU, MA_7, MN, MS_8, OT, SC], [r0, r1, r2, r3, w, r5, r6, r7, r8], Lg)) o from ev_f (c := p3 = p1) _ _ 3  zc28 e (fun n => Eq.refl _)
            by_cases zc29 : ((a_shr (MS_8 0 46) p3) &&& 1) ≠ 0
            · have zh19 := itp zh19 zc29
              suffices e : Ev (d + 17, 0, 0, 99, 77, [.val (.ref 1088), .val (.int p1), .val (.int p2), .val (.int p3)], [], (126, 120, L, [Y, T, HA, HB, RA, RB, ST, NS, I0, I1, I2, BO, FI, RG, GU, PU, MA_7, MN, MS_8, OT, SC], [r0, r1, r2, r3, w, r5, r6, r7, r8], Lg)) o from ev_t (c := ((a_shr (MS_8 0 46) p3) &&& 1) ≠ 0) _ _ 7  zc29 e (fun n => Eq.refl _)
              exact ev_b 0 (zj20  (Option.some.inj zh19).symm ) (fun n => Eq.refl _)
            · have zh19 := itn zh19 zc29
              suffices e : Ev (d + 17, 0, 0, 99, 75, [.val (.ref 1088), .val (.int p1), .val (.int p2), .val (.int p3)], [], (126, 120, L, [Y, T, HA, HB, RA, RB, ST, NS, I0, I1, I2, BO, FI, RG, GU, PU, MA_7, MN, MS_8, OT, SC], [r0, r1, r2, r3, w, r5, r6, r7, r8], Lg)) o from ev_f (c := ((a_shr (MS_8 0 46) p3) &&& 1) ≠ 0) _ _ 7  zc29 e (fun n => Eq.refl _)
              have zh30 := sum_r h (Option.some.inj zh19).symm
              have ze31 := Option.some.inj zh30
              subst ze31
              exact ev_rete 2 ho (fun n => Eq.refl _)
      · have h := itn h zc13
        suffices e : Ev (d + 17, 0, 0, 99, 43, [.val (.ref 1088), .val (.int p1), .val (.int p2), .val (.int p3)], [], (126, 120, L, [Y, T, HA, HB, RA, RB, ST, NS, I0, I1, I2, BO, FI, RG, GU, PU, MA_7, MN, MS, OT, SC], [r0, r1, r2, r3, w, r5, r6, r7, r8], Lg)) o from ev_f (c := x6 ≠ 0) _ _ 1  zc13 e (fun n => Eq.refl _)
        have ze32 := Option.some.inj h
        subst ze32
        exact ev_rete 2 ho (fun n => Eq.refl _)
