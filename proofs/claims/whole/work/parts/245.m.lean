/-! printed by program (gen/emitm.py): the reference's methods run as their functions say -/
set_option maxRecDepth 1000000 in
set_option maxHeartbeats 4000000 in
theorem R_f_Board_runWeek_0 (d : Nat) (Y T H H2 RA RB ST NS I0 I1 I2 BO FI RG GU PU MA MN MS OT SC : Nat → Nat → Int32) (r0 r1 r2 r3 w r6 r7 r8 : Nat) (L : Nat) (Lg : Int64) (p1 : Int32) (p2 : Int32) {r : (Nat → Nat → Int32)} (h : f_Board_runWeek H BO p1 p2 = some r) : Ev (d + 3, 0, 0, 174, 0, [.val (.ref 768), .val (.int p1), .val (.int p2), .val a_unk, .val a_unk, .val a_unk, .val a_unk, .val a_unk, .val a_unk], [], (126, 120, L, [Y, T, H, H2, RA, RB, ST, NS, I0, I1, I2, BO, FI, RG, GU, PU, MA, MN, MS, OT, SC], [r0, r1, r2, r3, w, 192, r6, r7, r8], Lg)) ((0, none, (126, 120, L, [Y, T, H, H2, RA, RB, ST, NS, I0, I1, I2, r, FI, RG, GU, PU, MA, MN, MS, OT, SC], [r0, r1, r2, r3, w, 192, r6, r7, r8], Lg)) : AOut) := by
  suffices key : ∀ o : AOut, ((0, none, (126, 120, L, [Y, T, H, H2, RA, RB, ST, NS, I0, I1, I2, r, FI, RG, GU, PU, MA, MN, MS, OT, SC], [r0, r1, r2, r3, w, 192, r6, r7, r8], Lg)) : AOut) = o → Ev (d + 3, 0, 0, 174, 0, [.val (.ref 768), .val (.int p1), .val (.int p2), .val a_unk, .val a_unk, .val a_unk, .val a_unk, .val a_unk, .val a_unk], [], (126, 120, L, [Y, T, H, H2, RA, RB, ST, NS, I0, I1, I2, BO, FI, RG, GU, PU, MA, MN, MS, OT, SC], [r0, r1, r2, r3, w, 192, r6, r7, r8], Lg)) o from key _ rfl
  intro o ho
  obtain ⟨BO_26, zh2, h⟩ := bnd h
  suffices e : Ev (d + 3, 0, 0, 174, 18, [.val (.ref 768), .val (.int p1), .val (.int p2), .val (.int 0), .val (.int p1), .val (.int 0), .val a_unk, .val a_unk, .val a_unk], [], (126, 120, L, [Y, T, H, H2, RA, RB, ST, NS, I0, I1, I2, (u2 (u2 BO 0 5 0) 0 6 0), FI, RG, GU, PU, MA, MN, MS, OT, SC], [r0, r1, r2, r3, w, 192, r6, r7, r8], Lg)) o from ev_b 12 e (fun n => Eq.refl _)
  refine ev_loop (δ := Value × Value × Value) (fun a j => (d + 3, 0, 0, 174, 18, [.val (.ref 768), .val (.int p1), .val (.int p2), .val (.int a.1), .val (.int a.2.1), .val (.int a.2.2.1), .val j.1, .val j.2.1, .val j.2.2], [], (126, 120, L, [Y, T, H, H2, RA, RB, ST, NS, I0, I1, I2, a.2.2.2, FI, RG, GU, PU, MA, MN, MS, OT, SC], [r0, r1, r2, r3, w, 192, r6, r7, r8], Lg))) (fun b => ∀ s20 : Value, ∀ s21 : Value, ∀ s22 : Value, ∀ s23 : Value, ∀ s24 : Value, ∀ s25 : Value, Ev (d + 3, 0, 0, 174, 159, [.val (.ref 768), .val (.int p1), .val (.int p2), .val s20, .val s21, .val s22, .val s23, .val s24, .val s25], [], (126, 120, L, [Y, T, H, H2, RA, RB, ST, NS, I0, I1, I2, b, FI, RG, GU, PU, MA, MN, MS, OT, SC], [r0, r1, r2, r3, w, 192, r6, r7, r8], Lg)) o) ?_ a_F (0, p1, 0, (u2 (u2 BO 0 5 0) 0 6 0)) BO_26 zh2 ?_ (a_unk, a_unk, a_unk)
  · rintro ⟨v1, v2, v3, BO_7⟩ zr6 zh5 zi3 zx4 ⟨s4, s5, s6⟩
    have zh5 : f_Board_runWeek_l18 H p2 v1 v2 v3 BO_7 = some zr6 := zh5
    by_cases zc7 : p2 ≤ v3
    · have zh5 := itp zh5 zc7
      suffices e : Ev (d + 3, 0, 0, 174, 159, [.val (.ref 768), .val (.int p1), .val (.int p2), .val (.int v1), .val (.int v2), .val (.int v3), .val s4, .val s5, .val s6], [], (126, 120, L, [Y, T, H, H2, RA, RB, ST, NS, I0, I1, I2, BO_7, FI, RG, GU, PU, MA, MN, MS, OT, SC], [r0, r1, r2, r3, w, 192, r6, r7, r8], Lg)) o from ev_t (c := p2 ≤ v3) _ _ 3  zc7 e (fun n => Eq.refl _)
      exact ev_b 0 (zx4 _ (Option.some.inj zh5).symm (.int v1) (.int v2) (.int v3) s4 s5 s6) (fun n => Eq.refl _)
    · have zh5 := itn zh5 zc7
      suffices e : Ev (d + 3, 0, 0, 174, 24, [.val (.ref 768), .val (.int p1), .val (.int p2), .val (.int v1), .val (.int v2), .val (.int v3), .val s4, .val s5, .val s6], [], (126, 120, L, [Y, T, H, H2, RA, RB, ST, NS, I0, I1, I2, BO_7, FI, RG, GU, PU, MA, MN, MS, OT, SC], [r0, r1, r2, r3, w, 192, r6, r7, r8], Lg)) o from ev_f (c := p2 ≤ v3) _ _ 3  zc7 e (fun n => Eq.refl _)
      suffices e : Ev (d + 3, 0, 0, 174, 31, [.val (.ref 768), .val (.int p1), .val (.int p2), .val (.int v1), .val (.int v2), .val (.int v3), .val (.int 0), .val s5, .val s6], [.ref 192], (126, 120, L, [Y, T, H, H2, RA, RB, ST, NS, I0, I1, I2, BO_7, FI, RG, GU, PU, MA, MN, MS, OT, SC], [r0, r1, r2, r3, w, 192, r6, r7, r8], Lg)) o from ev_b 4 e (fun n => Eq.refl _)
      obtain ⟨zt8, zh9, zh5⟩ := bnd zh5
      have zj10 : ∀ (v12 : Int32) (v13 : Int32) (BO_16 : (Nat → Nat → Int32)), (v12, v13, BO_16) = zt8 → ∀ s14 : Value, ∀ s15 : Value, Ev (d + 3, 0, 0, 174, 109, [.val (.ref 768), .val (.int p1), .val (.int p2), .val (.int v1), .val (.int v12), .val (.int v3), .val (.int v13), .val s14, .val s15], [], (126, 120, L, [Y, T, H, H2, RA, RB, ST, NS, I0, I1, I2, BO_16, FI, RG, GU, PU, MA, MN, MS, OT, SC], [r0, r1, r2, r3, w, 192, r6, r7, r8], Lg)) o := by
        intro v12 v13 BO_16 ze11 s14 s15
        subst ze11
        obtain ⟨zt12, zh13, zh5⟩ := bnd zh5
        have zj14 : ∀ (v17 : Int32), v17 = zt12 → Ev (d + 3, 0, 0, 174, 121, [.val (.ref 768), .val (.int p1), .val (.int p2), .val (.int v1), .val (.int v12), .val (.int v3), .val (.int v13), .val s14, .val s15], [.int v17], (126, 120, L, [Y, T, H, H2, RA, RB, ST, NS, I0, I1, I2, BO_16, FI, RG, GU, PU, MA, MN, MS, OT, SC], [r0, r1, r2, r3, w, 192, r6, r7, r8], Lg)) o := by
          intro v17 ze15
          subst ze15
          obtain ⟨x18, zh16, zh5⟩ := bnd zh5
          have zh16 : f_Math_max (BO_16 0 6) v17 = some x18 := zh16
          have ze17 := R_f_Math_max_0 (d + 2) Y T H H2 RA RB ST NS I0 I1 I2 BO_16 FI RG GU PU MA MN MS OT SC r0 r1 r2 r3 w 192 r6 r7 r8 L Lg (BO_16 0 6) v17 zh16
          suffices e : Ev (d + 3, 0, 0, 174, 131, [.val (.ref 768), .val (.int p1), .val (.int p2), .val (.int v17), .val (.int v12), .val (.int v3), .val (.int v13), .val s14, .val s15], [.int x18, .ref 768], (126, 120, L, [Y, T, H, H2, RA, RB, ST, NS, I0, I1, I2, BO_16, FI, RG, GU, PU, MA, MN, MS, OT, SC], [r0, r1, r2, r3, w, 192, r6, r7, r8], Lg)) o from ev_call (fun v μ => (d + 3, 0, 0, 174, 131, [.val (.ref 768), .val (.int p1), .val (.int p2), .val (.int v17), .val (.int v12), .val (.int v3), .val (.int v13), .val s14, .val s15], v.toList ++ [.ref 768], μ)) 6 ze17 e (fun n => Eq.refl _)
          obtain ⟨zt18, zh19, zh5⟩ := bnd zh5
          have zj20 : ∀ (v19 : Int32), v19 = zt18 → Ev (d + 3, 0, 0, 174, 149, [.val (.ref 768), .val (.int p1), .val (.int p2), .val (.int v17), .val (.int v12), .val (.int v3), .val (.int v13), .val s14, .val s15], [.int v19, .int ((u2 BO_16 0 6 x18) 0 5), .ref 768], (126, 120, L, [Y, T, H, H2, RA, RB, ST, NS, I0, I1, I2, (u2 BO_16 0 6 x18), FI, RG, GU, PU, MA, MN, MS, OT, SC], [r0, r1, r2, r3, w, 192, r6, r7, r8], Lg)) o := by
            intro v19 ze21
            subst ze21
            exact ev_b 4 (zi3 _ (Option.some.inj zh5).symm ((.int v13), s14, s15)) (fun n => Eq.refl _)
          by_cases zc22 : v13 = 0
          · have zh19 := itp zh19 zc22
            suffices e : Ev (d + 3, 0, 0, 174, 148, [.val (.ref 768), .val (.int p1), .val (.int p2), .val (.int v17), .val (.int v12), .val (.int v3), .val (.int v13), .val s14, .val s15], [.int ((u2 BO_16 0 6 x18) 0 5), .ref 768], (126, 120, L, [Y, T, H, H2, RA, RB, ST, NS, I0, I1, I2, (u2 BO_16 0 6 x18), FI, RG, GU, PU, MA, MN, MS, OT, SC], [r0, r1, r2, r3, w, 192, r6, r7, r8], Lg)) o from ev_t (c := v13 = 0) _ _ 6  zc22 e (fun n => Eq.refl _)
            exact ev_b 1 (zj20 0 (Option.some.inj zh19) ) (fun n => Eq.refl _)
          · have zh19 := itn zh19 zc22
            suffices e : Ev (d + 3, 0, 0, 174, 144, [.val (.ref 768), .val (.int p1), .val (.int p2), .val (.int v17), .val (.int v12), .val (.int v3), .val (.int v13), .val s14, .val s15], [.int ((u2 BO_16 0 6 x18) 0 5), .ref 768], (126, 120, L, [Y, T, H, H2, RA, RB, ST, NS, I0, I1, I2, (u2 BO_16 0 6 x18), FI, RG, GU, PU, MA, MN, MS, OT, SC], [r0, r1, r2, r3, w, 192, r6, r7, r8], Lg)) o from ev_f (c := v13 = 0) _ _ 6  zc22 e (fun n => Eq.refl _)
            exact ev_b 2 (zj20 1 (Option.some.inj zh19) ) (fun n => Eq.refl _)
        by_cases zc23 : v13 = 0
        · have zh13 := itp zh13 zc23
          suffices e : Ev (d + 3, 0, 0, 174, 118, [.val (.ref 768), .val (.int p1), .val (.int p2), .val (.int v1), .val (.int v12), .val (.int v3), .val (.int v13), .val s14, .val s15], [], (126, 120, L, [Y, T, H, H2, RA, RB, ST, NS, I0, I1, I2, BO_16, FI, RG, GU, PU, MA, MN, MS, OT, SC], [r0, r1, r2, r3, w, 192, r6, r7, r8], Lg)) o from ev_t (c := v13 = 0) _ _ 2  zc23 e (fun n => Eq.refl _)
          exact ev_b 3 (zj14 (v1 + 1) (Option.some.inj zh13) ) (fun n => Eq.refl _)
        · have zh13 := itn zh13 zc23
          suffices e : Ev (d + 3, 0, 0, 174, 114, [.val (.ref 768), .val (.int p1), .val (.int p2), .val (.int v1), .val (.int v12), .val (.int v3), .val (.int v13), .val s14, .val s15], [], (126, 120, L, [Y, T, H, H2, RA, RB, ST, NS, I0, I1, I2, BO_16, FI, RG, GU, PU, MA, MN, MS, OT, SC], [r0, r1, r2, r3, w, 192, r6, r7, r8], Lg)) o from ev_f (c := v13 = 0) _ _ 2  zc23 e (fun n => Eq.refl _)
          exact ev_b 2 (zj14 0 (Option.some.inj zh13) ) (fun n => Eq.refl _)
      by_cases zc24 : (H 0 3) ≤ 0
      · have zh9 := itp zh9 zc24
        suffices e : Ev (d + 3, 0, 0, 174, 109, [.val (.ref 768), .val (.int p1), .val (.int p2), .val (.int v1), .val (.int v2), .val (.int v3), .val (.int 0), .val s5, .val s6], [], (126, 120, L, [Y, T, H, H2, RA, RB, ST, NS, I0, I1, I2, BO_7, FI, RG, GU, PU, MA, MN, MS, OT, SC], [r0, r1, r2, r3, w, 192, r6, r7, r8], Lg)) o from ev_t (c := (H 0 3) ≤ 0) _ _ 2  zc24 e (fun n => Eq.refl _)
        exact ev_b 0 (zj10 v2 0 BO_7 (Option.some.inj zh9) s5 s6) (fun n => Eq.refl _)
      · have zh9 := itn zh9 zc24
        suffices e : Ev (d + 3, 0, 0, 174, 37, [.val (.ref 768), .val (.int p1), .val (.int p2), .val (.int v1), .val (.int v2), .val (.int v3), .val (.int 0), .val s5, .val s6], [], (126, 120, L, [Y, T, H, H2, RA, RB, ST, NS, I0, I1, I2, BO_7, FI, RG, GU, PU, MA, MN, MS, OT, SC], [r0, r1, r2, r3, w, 192, r6, r7, r8], Lg)) o from ev_f (c := (H 0 3) ≤ 0) _ _ 2  zc24 e (fun n => Eq.refl _)
        suffices e : Ev (d + 3, 0, 0, 174, 41, [.val (.ref 768), .val (.int p1), .val (.int p2), .val (.int v1), .val (.int v2), .val (.int v3), .val (.int 0), .val s5, .val s6], [.ref 192], (126, 120, L, [Y, T, H, H2, RA, RB, ST, NS, I0, I1, I2, BO_7, FI, RG, GU, PU, MA, MN, MS, OT, SC], [r0, r1, r2, r3, w, 192, r6, r7, r8], Lg)) o from ev_b 2 e (fun n => Eq.refl _)
        by_cases zc25 : (H 0 0) ≤ 0
        · have zh9 := itp zh9 zc25
          suffices e : Ev (d + 3, 0, 0, 174, 109, [.val (.ref 768), .val (.int p1), .val (.int p2), .val (.int v1), .val (.int v2), .val (.int v3), .val (.int 0), .val s5, .val s6], [], (126, 120, L, [Y, T, H, H2, RA, RB, ST, NS, I0, I1, I2, BO_7, FI, RG, GU, PU, MA, MN, MS, OT, SC], [r0, r1, r2, r3, w, 192, r6, r7, r8], Lg)) o from ev_t (c := (H 0 0) ≤ 0) _ _ 2  zc25 e (fun n => Eq.refl _)
          exact ev_b 0 (zj10 v2 0 BO_7 (Option.some.inj zh9) s5 s6) (fun n => Eq.refl _)
        · have zh9 := itn zh9 zc25
          suffices e : Ev (d + 3, 0, 0, 174, 47, [.val (.ref 768), .val (.int p1), .val (.int p2), .val (.int v1), .val (.int v2), .val (.int v3), .val (.int 0), .val s5, .val s6], [], (126, 120, L, [Y, T, H, H2, RA, RB, ST, NS, I0, I1, I2, BO_7, FI, RG, GU, PU, MA, MN, MS, OT, SC], [r0, r1, r2, r3, w, 192, r6, r7, r8], Lg)) o from ev_f (c := (H 0 0) ≤ 0) _ _ 2  zc25 e (fun n => Eq.refl _)
          obtain ⟨x8, zh26, zh9⟩ := bnd zh9
          have zh26 : f_Board_nextSeed v2 = some x8 := zh26
          have ze27 := R_f_Board_nextSeed_0 (d + 2) Y T H H2 RA RB ST NS I0 I1 I2 BO_7 FI RG GU PU MA MN MS OT SC r0 r1 r2 r3 w r6 r7 r8 L Lg v2 zh26
          suffices e : Ev (d + 3, 0, 0, 174, 52, [.val (.ref 768), .val (.int p1), .val (.int p2), .val (.int v1), .val (.int v2), .val (.int v3), .val (.int 0), .val s5, .val s6], [.int x8], (126, 120, L, [Y, T, H, H2, RA, RB, ST, NS, I0, I1, I2, BO_7, FI, RG, GU, PU, MA, MN, MS, OT, SC], [r0, r1, r2, r3, w, 192, r6, r7, r8], Lg)) o from ev_call (fun v μ => (d + 3, 0, 0, 174, 52, [.val (.ref 768), .val (.int p1), .val (.int p2), .val (.int v1), .val (.int v2), .val (.int v3), .val (.int 0), .val s5, .val s6], v.toList ++ [], μ)) 2 ze27 e (fun n => Eq.refl _)
          suffices e : Ev (d + 3, 0, 0, 174, 67, [.val (.ref 768), .val (.int p1), .val (.int p2), .val (.int v1), .val (.int x8), .val (.int v3), .val (.int 0), .val s5, .val s6], [.ref 192, .int ((a_ushr x8 16) &&& 32767)], (126, 120, L, [Y, T, H, H2, RA, RB, ST, NS, I0, I1, I2, BO_7, FI, RG, GU, PU, MA, MN, MS, OT, SC], [r0, r1, r2, r3, w, 192, r6, r7, r8], Lg)) o from ev_b 8 e (fun n => Eq.refl _)
          by_cases zc28 : (H 0 3) = 0
          · exact nos (itp zh9 zc28)
          have zh9 := itn zh9 zc28
          suffices e : Ev (d + 3, 0, 0, 174, 71, [.val (.ref 768), .val (.int p1), .val (.int p2), .val (.int v1), .val (.int x8), .val (.int v3), .val (.int 0), .val s5, .val s6], [.int (a_rem ((a_ushr x8 16) &&& 32767) (H 0 3))], (126, 120, L, [Y, T, H, H2, RA, RB, ST, NS, I0, I1, I2, BO_7, FI, RG, GU, PU, MA, MN, MS, OT, SC], [r0, r1, r2, r3, w, 192, r6, r7, r8], Lg)) o from ev_d (c := (H 0 3) = 0) _ 2 zc28 e (fun n => Eq.refl _)
          obtain ⟨x9, zh29, zh9⟩ := bnd zh9
          have zh29 : f_Board_nextSeed x8 = some x9 := zh29
          have ze30 := R_f_Board_nextSeed_0 (d + 2) Y T H H2 RA RB ST NS I0 I1 I2 BO_7 FI RG GU PU MA MN MS OT SC r0 r1 r2 r3 w r6 r7 r8 L Lg x8 zh29
          suffices e : Ev (d + 3, 0, 0, 174, 78, [.val (.ref 768), .val (.int p1), .val (.int p2), .val (.int v1), .val (.int x8), .val (.int v3), .val (.int 0), .val (.int (a_rem ((a_ushr x8 16) &&& 32767) (H 0 3))), .val s6], [.int x9], (126, 120, L, [Y, T, H, H2, RA, RB, ST, NS, I0, I1, I2, BO_7, FI, RG, GU, PU, MA, MN, MS, OT, SC], [r0, r1, r2, r3, w, 192, r6, r7, r8], Lg)) o from ev_call (fun v μ => (d + 3, 0, 0, 174, 78, [.val (.ref 768), .val (.int p1), .val (.int p2), .val (.int v1), .val (.int x8), .val (.int v3), .val (.int 0), .val (.int (a_rem ((a_ushr x8 16) &&& 32767) (H 0 3))), .val s6], v.toList ++ [], μ)) 3 ze30 e (fun n => Eq.refl _)
          suffices e : Ev (d + 3, 0, 0, 174, 93, [.val (.ref 768), .val (.int p1), .val (.int p2), .val (.int v1), .val (.int x9), .val (.int v3), .val (.int 0), .val (.int (a_rem ((a_ushr x8 16) &&& 32767) (H 0 3))), .val s6], [.ref 192, .int ((a_ushr x9 16) &&& 32767)], (126, 120, L, [Y, T, H, H2, RA, RB, ST, NS, I0, I1, I2, BO_7, FI, RG, GU, PU, MA, MN, MS, OT, SC], [r0, r1, r2, r3, w, 192, r6, r7, r8], Lg)) o from ev_b 8 e (fun n => Eq.refl _)
          by_cases zc31 : (H 0 0) = 0
          · exact nos (itp zh9 zc31)
          have zh9 := itn zh9 zc31
          suffices e : Ev (d + 3, 0, 0, 174, 97, [.val (.ref 768), .val (.int p1), .val (.int p2), .val (.int v1), .val (.int x9), .val (.int v3), .val (.int 0), .val (.int (a_rem ((a_ushr x8 16) &&& 32767) (H 0 3))), .val s6], [.int (a_rem ((a_ushr x9 16) &&& 32767) (H 0 0))], (126, 120, L, [Y, T, H, H2, RA, RB, ST, NS, I0, I1, I2, BO_7, FI, RG, GU, PU, MA, MN, MS, OT, SC], [r0, r1, r2, r3, w, 192, r6, r7, r8], Lg)) o from ev_d (c := (H 0 0) = 0) _ 2 zc31 e (fun n => Eq.refl _)
          obtain ⟨⟨x10, BO_11⟩, zh32, zh9⟩ := bnd zh9
          have zh32 : f_Board_movesInto H BO_7 (a_rem ((a_ushr x8 16) &&& 32767) (H 0 3)) (a_rem ((a_ushr x9 16) &&& 32767) (H 0 0)) = some (x10, BO_11) := zh32
          have ze33 := R_f_Board_movesInto_0 (d + 0) Y T H H2 RA RB ST NS I0 I1 I2 BO_7 FI RG GU PU MA MN MS OT SC r0 r1 r2 r3 w r6 r7 r8 L Lg (a_rem ((a_ushr x8 16) &&& 32767) (H 0 3)) (a_rem ((a_ushr x9 16) &&& 32767) (H 0 0)) zh32
          suffices e : Ev (d + 3, 0, 0, 174, 107, [.val (.ref 768), .val (.int p1), .val (.int p2), .val (.int v1), .val (.int x9), .val (.int v3), .val (.int 0), .val (.int (a_rem ((a_ushr x8 16) &&& 32767) (H 0 3))), .val (.int (a_rem ((a_ushr x9 16) &&& 32767) (H 0 0)))], [.int x10], (126, 120, L, [Y, T, H, H2, RA, RB, ST, NS, I0, I1, I2, BO_11, FI, RG, GU, PU, MA, MN, MS, OT, SC], [r0, r1, r2, r3, w, 192, r6, r7, r8], Lg)) o from ev_call (fun v μ => (d + 3, 0, 0, 174, 107, [.val (.ref 768), .val (.int p1), .val (.int p2), .val (.int v1), .val (.int x9), .val (.int v3), .val (.int 0), .val (.int (a_rem ((a_ushr x8 16) &&& 32767) (H 0 3))), .val (.int (a_rem ((a_ushr x9 16) &&& 32767) (H 0 0)))], v.toList ++ [], μ)) 5 ze33 e (fun n => Eq.refl _)
          exact ev_b 1 (zj10 x9 x10 BO_11 (Option.some.inj zh9) (.int (a_rem ((a_ushr x8 16) &&& 32767) (H 0 3))) (.int (a_rem ((a_ushr x9 16) &&& 32767) (H 0 0)))) (fun n => Eq.refl _)
  · skip
    intro s20 s21 s22 s23 s24 s25
    have ze34 := Option.some.inj h
    subst ze34
    exact ev_rete 1 ho (fun n => Eq.refl _)
set_option maxRecDepth 1000000 in
set_option maxHeartbeats 4000000 in
theorem R_f_Y_week_0 (d : Nat) (Y T H H2 RU RV ST NS I0 I1 I2 BO FI RG GU PU MA MN MS OT SC : Nat → Nat → Int32) (w r5 : Nat) (L : Nat) (Lg : Int64) (p1 : Int32) (p2 : Int32) (p3 : Int32) {r : Nat × Int32 × (Nat → Nat → Int32) × (Nat → Nat → Int32) × Nat} (h : f_Y_week Y H NS BO 192 r5 p1 p2 p3 = some r) : Ev (d + 4, 1, 8, 326, 0, [.val (.ref 64), .val (.int p1), .val (.int p2), .val (.int p3), .val a_unk], [], (126, 120, L, [Y, T, H, H2, RU, RV, ST, NS, I0, I1, I2, BO, FI, RG, GU, PU, MA, MN, MS, OT, SC], [192, 256, 320, 384, w, r5, 576, 640, 704], Lg)) ((r.1, a_ov r.1 (.int r.2.1), (126, 120, L, [r.2.2.1, T, H, H2, RU, RV, ST, NS, I0, I1, I2, r.2.2.2.1, FI, RG, GU, PU, MA, MN, MS, OT, SC], [192, 256, 320, 384, w, r.2.2.2.2, 576, 640, 704], Lg)) : AOut) := by
  suffices key : ∀ o : AOut, ((r.1, a_ov r.1 (.int r.2.1), (126, 120, L, [r.2.2.1, T, H, H2, RU, RV, ST, NS, I0, I1, I2, r.2.2.2.1, FI, RG, GU, PU, MA, MN, MS, OT, SC], [192, 256, 320, 384, w, r.2.2.2.2, 576, 640, 704], Lg)) : AOut) = o → Ev (d + 4, 1, 8, 326, 0, [.val (.ref 64), .val (.int p1), .val (.int p2), .val (.int p3), .val a_unk], [], (126, 120, L, [Y, T, H, H2, RU, RV, ST, NS, I0, I1, I2, BO, FI, RG, GU, PU, MA, MN, MS, OT, SC], [192, 256, 320, 384, w, r5, 576, 640, 704], Lg)) o from key _ rfl
  intro o ho
  obtain ⟨zt1, zh2, h⟩ := bnd h
  have zj3 : ∀ (v1 : Int32), v1 = zt1 → Ev (d + 4, 1, 8, 326, 26, [.val (.ref 64), .val (.int p1), .val (.int p2), .val (.int p3), .val a_unk], [.int v1, .ref 64], (126, 120, L, [Y, T, H, H2, RU, RV, ST, NS, I0, I1, I2, BO, FI, RG, GU, PU, MA, MN, MS, OT, SC], [192, 256, 320, 384, w, r5, 576, 640, 704], Lg)) o := by
    intro v1 ze4
    subst ze4
    obtain ⟨⟨q2, Y_3⟩, zh5, h⟩ := bnd h
    have zh5 : f_Y_refuseUnless Y v1 = some (q2, Y_3) := zh5
    have ze6 := R_f_Y_refuseUnless_0 (d + 3) Y T H H2 RU RV ST NS I0 I1 I2 BO FI RG GU PU MA MN MS OT SC w r5 L Lg v1 zh5
    cases q2 with
    | zero =>
      have h := itp h rfl
      suffices e : Ev (d + 4, 0, 0, 326, 29, [.val (.ref 64), .val (.int p1), .val (.int p2), .val (.int p3), .val a_unk], [], (126, 120, L, [Y_3, T, H, H2, RU, RV, ST, NS, I0, I1, I2, BO, FI, RG, GU, PU, MA, MN, MS, OT, SC], [192, 256, 320, 384, w, r5, 576, 640, 704], Lg)) o from ev_call (fun v μ => (d + 4, 0, 0, 326, 29, [.val (.ref 64), .val (.int p1), .val (.int p2), .val (.int p3), .val a_unk], v.toList ++ [], μ)) 1 ze6 e (fun n => Eq.refl _)
      obtain ⟨BO_5, zh7, h⟩ := bnd h
      have zh7 : f_Y_lookNow H NS BO = some BO_5 := zh7
      have ze8 := R_f_Y_lookNow_0 (d + 1) Y_3 T H H2 RU RV ST NS I0 I1 I2 BO FI RG GU PU MA MN MS OT SC w r5 L Lg zh7
      suffices e : Ev (d + 4, 0, 0, 326, 33, [.val (.ref 64), .val (.int p1), .val (.int p2), .val (.int p3), .val a_unk], [.ref 768], (126, 120, L, [Y_3, T, H, H2, RU, RV, ST, NS, I0, I1, I2, BO_5, FI, RG, GU, PU, MA, MN, MS, OT, SC], [192, 256, 320, 384, w, 192, 576, 640, 704], Lg)) o from ev_call (fun v μ => (d + 4, 0, 0, 326, 33, [.val (.ref 64), .val (.int p1), .val (.int p2), .val (.int p3), .val a_unk], v.toList ++ [], μ)) 2 ze8 e (fun n => Eq.refl _)
      obtain ⟨BO_6, zh9, h⟩ := bnd h
      have zh9 : f_Board_runWeek H BO_5 p1 p2 = some BO_6 := zh9
      have ze10 := R_f_Board_runWeek_0 (d + 0) Y_3 T H H2 RU RV ST NS I0 I1 I2 BO_5 FI RG GU PU MA MN MS OT SC 192 256 320 384 w 576 640 704 L Lg p1 p2 zh9
      suffices e : Ev (d + 4, 0, 0, 326, 42, [.val (.ref 64), .val (.int p1), .val (.int p2), .val (.int p3), .val (.ref 768)], [], (126, 120, L, [Y_3, T, H, H2, RU, RV, ST, NS, I0, I1, I2, BO_6, FI, RG, GU, PU, MA, MN, MS, OT, SC], [192, 256, 320, 384, w, 192, 576, 640, 704], Lg)) o from ev_call (fun v μ => (d + 4, 0, 0, 326, 42, [.val (.ref 64), .val (.int p1), .val (.int p2), .val (.int p3), .val (.ref 768)], v.toList ++ [], μ)) 5 ze10 e (fun n => Eq.refl _)
      by_cases zc11 : p3 = 0
      · have h := itp h zc11
        suffices e : Ev (d + 4, 0, 0, 326, 68, [.val (.ref 64), .val (.int p1), .val (.int p2), .val (.int p3), .val (.ref 768)], [], (126, 120, L, [Y_3, T, H, H2, RU, RV, ST, NS, I0, I1, I2, BO_6, FI, RG, GU, PU, MA, MN, MS, OT, SC], [192, 256, 320, 384, w, 192, 576, 640, 704], Lg)) o from ev_sw [((0 : Int32), 68), ((1 : Int32), 74)] p3 (fun tt => (d + 4, 0, 0, 326, tt, [.val (.ref 64), .val (.int p1), .val (.int p2), .val (.int p3), .val (.ref 768)], [], (126, 120, L, [Y_3, T, H, H2, RU, RV, ST, NS, I0, I1, I2, BO_6, FI, RG, GU, PU, MA, MN, MS, OT, SC], [192, 256, 320, 384, w, 192, 576, 640, 704], Lg))) 80 68 2 (fun f => by simp only [a_sw, if_pos zc11]) e (fun n => Eq.refl _)
        have ze12 := Option.some.inj h
        subst ze12
        exact ev_rete 3 ho (fun n => Eq.refl _)
      have h := itn h zc11
      by_cases zc13 : p3 = 1
      · have h := itp h zc13
        suffices e : Ev (d + 4, 0, 0, 326, 74, [.val (.ref 64), .val (.int p1), .val (.int p2), .val (.int p3), .val (.ref 768)], [], (126, 120, L, [Y_3, T, H, H2, RU, RV, ST, NS, I0, I1, I2, BO_6, FI, RG, GU, PU, MA, MN, MS, OT, SC], [192, 256, 320, 384, w, 192, 576, 640, 704], Lg)) o from ev_sw [((0 : Int32), 68), ((1 : Int32), 74)] p3 (fun tt => (d + 4, 0, 0, 326, tt, [.val (.ref 64), .val (.int p1), .val (.int p2), .val (.int p3), .val (.ref 768)], [], (126, 120, L, [Y_3, T, H, H2, RU, RV, ST, NS, I0, I1, I2, BO_6, FI, RG, GU, PU, MA, MN, MS, OT, SC], [192, 256, 320, 384, w, 192, 576, 640, 704], Lg))) 80 74 2 (fun f => by simp only [a_sw, if_neg zc11, if_pos zc13]) e (fun n => Eq.refl _)
        have ze14 := Option.some.inj h
        subst ze14
        exact ev_rete 3 ho (fun n => Eq.refl _)
      have h := itn h zc13
      suffices e : Ev (d + 4, 0, 0, 326, 80, [.val (.ref 64), .val (.int p1), .val (.int p2), .val (.int p3), .val (.ref 768)], [], (126, 120, L, [Y_3, T, H, H2, RU, RV, ST, NS, I0, I1, I2, BO_6, FI, RG, GU, PU, MA, MN, MS, OT, SC], [192, 256, 320, 384, w, 192, 576, 640, 704], Lg)) o from ev_sw [((0 : Int32), 68), ((1 : Int32), 74)] p3 (fun tt => (d + 4, 0, 0, 326, tt, [.val (.ref 64), .val (.int p1), .val (.int p2), .val (.int p3), .val (.ref 768)], [], (126, 120, L, [Y_3, T, H, H2, RU, RV, ST, NS, I0, I1, I2, BO_6, FI, RG, GU, PU, MA, MN, MS, OT, SC], [192, 256, 320, 384, w, 192, 576, 640, 704], Lg))) 80 80 2 (fun f => by simp only [a_sw, if_neg zc11, if_neg zc13]) e (fun n => Eq.refl _)
      obtain ⟨x7, zh15, h⟩ := bnd h
      have zh15 : f_Board_mostBorne H BO_6 = some x7 := zh15
      have ze16 := R_f_Board_mostBorne_0 (d + 1) Y_3 T H H2 RU RV ST NS I0 I1 I2 BO_6 FI RG GU PU MA MN MS OT SC 192 256 320 384 w 576 640 704 L Lg zh15
      suffices e : Ev (d + 4, 0, 0, 326, 85, [.val (.ref 64), .val (.int p1), .val (.int p2), .val (.int p3), .val (.ref 768)], [.int x7], (126, 120, L, [Y_3, T, H, H2, RU, RV, ST, NS, I0, I1, I2, BO_6, FI, RG, GU, PU, MA, MN, MS, OT, SC], [192, 256, 320, 384, w, 192, 576, 640, 704], Lg)) o from ev_call (fun v μ => (d + 4, 0, 0, 326, 85, [.val (.ref 64), .val (.int p1), .val (.int p2), .val (.int p3), .val (.ref 768)], v.toList ++ [], μ)) 2 ze16 e (fun n => Eq.refl _)
      have ze17 := Option.some.inj h
      subst ze17
      exact ev_rete 1 ho (fun n => Eq.refl _)
    | succ q2 =>
      have h := itn h (Nat.succ_ne_zero q2)
      have ze18 := Option.some.inj h
      subst ze18
      subst ho
      exact ev_thr (fun v μ => (d + 4, 0, 0, 326, 29, [.val (.ref 64), .val (.int p1), .val (.int p2), .val (.int p3), .val a_unk], v.toList ++ [], μ)) 1 ze6 (fun n => Eq.refl _) (fun n => rfl)
  obtain ⟨zt19, zh20, zh2⟩ := bnd zh2
  have zj21 : zt19 = .inl () → Ev (d + 4, 1, 8, 326, 25, [.val (.ref 64), .val (.int p1), .val (.int p2), .val (.int p3), .val a_unk], [.ref 64], (126, 120, L, [Y, T, H, H2, RU, RV, ST, NS, I0, I1, I2, BO, FI, RG, GU, PU, MA, MN, MS, OT, SC], [192, 256, 320, 384, w, r5, 576, 640, 704], Lg)) o := by
    intro ze22
    have zh2 := sum_l zh2 ze22
    exact ev_b 1 (zj3 0 (Option.some.inj zh2) ) (fun n => Eq.refl _)
  by_cases zc23 : p2 < 1
  · have zh20 := itp zh20 zc23
    suffices e : Ev (d + 4, 1, 8, 326, 25, [.val (.ref 64), .val (.int p1), .val (.int p2), .val (.int p3), .val a_unk], [.ref 64], (126, 120, L, [Y, T, H, H2, RU, RV, ST, NS, I0, I1, I2, BO, FI, RG, GU, PU, MA, MN, MS, OT, SC], [192, 256, 320, 384, w, r5, 576, 640, 704], Lg)) o from ev_t (c := p2 < 1) _ _ 4  zc23 e (fun n => Eq.refl _)
    exact ev_b 0 (zj21  (Option.some.inj zh20).symm ) (fun n => Eq.refl _)
  · have zh20 := itn zh20 zc23
    suffices e : Ev (d + 4, 1, 8, 326, 6, [.val (.ref 64), .val (.int p1), .val (.int p2), .val (.int p3), .val a_unk], [.ref 64], (126, 120, L, [Y, T, H, H2, RU, RV, ST, NS, I0, I1, I2, BO, FI, RG, GU, PU, MA, MN, MS, OT, SC], [192, 256, 320, 384, w, r5, 576, 640, 704], Lg)) o from ev_f (c := p2 < 1) _ _ 4  zc23 e (fun n => Eq.refl _)
    by_cases zc24 : 60 < p2
    · have zh20 := itp zh20 zc24
      suffices e : Ev (d + 4, 1, 8, 326, 25, [.val (.ref 64), .val (.int p1), .val (.int p2), .val (.int p3), .val a_unk], [.ref 64], (126, 120, L, [Y, T, H, H2, RU, RV, ST, NS, I0, I1, I2, BO, FI, RG, GU, PU, MA, MN, MS, OT, SC], [192, 256, 320, 384, w, r5, 576, 640, 704], Lg)) o from ev_t (c := 60 < p2) _ _ 3  zc24 e (fun n => Eq.refl _)
      exact ev_b 0 (zj21  (Option.some.inj zh20).symm ) (fun n => Eq.refl _)
    · have zh20 := itn zh20 zc24
      suffices e : Ev (d + 4, 1, 8, 326, 12, [.val (.ref 64), .val (.int p1), .val (.int p2), .val (.int p3), .val a_unk], [.ref 64], (126, 120, L, [Y, T, H, H2, RU, RV, ST, NS, I0, I1, I2, BO, FI, RG, GU, PU, MA, MN, MS, OT, SC], [192, 256, 320, 384, w, r5, 576, 640, 704], Lg)) o from ev_f (c := 60 < p2) _ _ 3  zc24 e (fun n => Eq.refl _)
      by_cases zc25 : p3 < 0
      · have zh20 := itp zh20 zc25
        suffices e : Ev (d + 4, 1, 8, 326, 25, [.val (.ref 64), .val (.int p1), .val (.int p2), .val (.int p3), .val a_unk], [.ref 64], (126, 120, L, [Y, T, H, H2, RU, RV, ST, NS, I0, I1, I2, BO, FI, RG, GU, PU, MA, MN, MS, OT, SC], [192, 256, 320, 384, w, r5, 576, 640, 704], Lg)) o from ev_t (c := p3 < 0) _ _ 2  zc25 e (fun n => Eq.refl _)
        exact ev_b 0 (zj21  (Option.some.inj zh20).symm ) (fun n => Eq.refl _)
      · have zh20 := itn zh20 zc25
        suffices e : Ev (d + 4, 1, 8, 326, 16, [.val (.ref 64), .val (.int p1), .val (.int p2), .val (.int p3), .val a_unk], [.ref 64], (126, 120, L, [Y, T, H, H2, RU, RV, ST, NS, I0, I1, I2, BO, FI, RG, GU, PU, MA, MN, MS, OT, SC], [192, 256, 320, 384, w, r5, 576, 640, 704], Lg)) o from ev_f (c := p3 < 0) _ _ 2  zc25 e (fun n => Eq.refl _)
        by_cases zc26 : 2 < p3
        · have zh20 := itp zh20 zc26
          suffices e : Ev (d + 4, 1, 8, 326, 25, [.val (.ref 64), .val (.int p1), .val (.int p2), .val (.int p3), .val a_unk], [.ref 64], (126, 120, L, [Y, T, H, H2, RU, RV, ST, NS, I0, I1, I2, BO, FI, RG, GU, PU, MA, MN, MS, OT, SC], [192, 256, 320, 384, w, r5, 576, 640, 704], Lg)) o from ev_t (c := 2 < p3) _ _ 3  zc26 e (fun n => Eq.refl _)
          exact ev_b 0 (zj21  (Option.some.inj zh20).symm ) (fun n => Eq.refl _)
        · have zh20 := itn zh20 zc26
          suffices e : Ev (d + 4, 1, 8, 326, 21, [.val (.ref 64), .val (.int p1), .val (.int p2), .val (.int p3), .val a_unk], [.ref 64], (126, 120, L, [Y, T, H, H2, RU, RV, ST, NS, I0, I1, I2, BO, FI, RG, GU, PU, MA, MN, MS, OT, SC], [192, 256, 320, 384, w, r5, 576, 640, 704], Lg)) o from ev_f (c := 2 < p3) _ _ 3  zc26 e (fun n => Eq.refl _)
          have zh27 := sum_r zh2 (Option.some.inj zh20).symm
          exact ev_b 2 (zj3 1 (Option.some.inj zh27) ) (fun n => Eq.refl _)
set_option maxRecDepth 1000000 in
set_option maxHeartbeats 4000000 in
theorem R_f_Y_week_1 (d : Nat) (Y T H H2 RV RU ST NS I0 I1 I2 BO FI RG GU PU MA MN MS OT SC : Nat → Nat → Int32) (w r5 : Nat) (L : Nat) (Lg : Int64) (p1 : Int32) (p2 : Int32) (p3 : Int32) {r : Nat × Int32 × (Nat → Nat → Int32) × (Nat → Nat → Int32) × Nat} (h : f_Y_week Y H NS BO 192 r5 p1 p2 p3 = some r) : Ev (d + 4, 1, 8, 326, 0, [.val (.ref 64), .val (.int p1), .val (.int p2), .val (.int p3), .val a_unk], [], (126, 120, L, [Y, T, H, H2, RV, RU, ST, NS, I0, I1, I2, BO, FI, RG, GU, PU, MA, MN, MS, OT, SC], [192, 256, 384, 320, w, r5, 576, 640, 704], Lg)) ((r.1, a_ov r.1 (.int r.2.1), (126, 120, L, [r.2.2.1, T, H, H2, RV, RU, ST, NS, I0, I1, I2, r.2.2.2.1, FI, RG, GU, PU, MA, MN, MS, OT, SC], [192, 256, 384, 320, w, r.2.2.2.2, 576, 640, 704], Lg)) : AOut) := by
  suffices key : ∀ o : AOut, ((r.1, a_ov r.1 (.int r.2.1), (126, 120, L, [r.2.2.1, T, H, H2, RV, RU, ST, NS, I0, I1, I2, r.2.2.2.1, FI, RG, GU, PU, MA, MN, MS, OT, SC], [192, 256, 384, 320, w, r.2.2.2.2, 576, 640, 704], Lg)) : AOut) = o → Ev (d + 4, 1, 8, 326, 0, [.val (.ref 64), .val (.int p1), .val (.int p2), .val (.int p3), .val a_unk], [], (126, 120, L, [Y, T, H, H2, RV, RU, ST, NS, I0, I1, I2, BO, FI, RG, GU, PU, MA, MN, MS, OT, SC], [192, 256, 384, 320, w, r5, 576, 640, 704], Lg)) o from key _ rfl
  intro o ho
  obtain ⟨zt1, zh2, h⟩ := bnd h
  have zj3 : ∀ (v1 : Int32), v1 = zt1 → Ev (d + 4, 1, 8, 326, 26, [.val (.ref 64), .val (.int p1), .val (.int p2), .val (.int p3), .val a_unk], [.int v1, .ref 64], (126, 120, L, [Y, T, H, H2, RV, RU, ST, NS, I0, I1, I2, BO, FI, RG, GU, PU, MA, MN, MS, OT, SC], [192, 256, 384, 320, w, r5, 576, 640, 704], Lg)) o := by
    intro v1 ze4
    subst ze4
    obtain ⟨⟨q2, Y_3⟩, zh5, h⟩ := bnd h
    have zh5 : f_Y_refuseUnless Y v1 = some (q2, Y_3) := zh5
    have ze6 := R_f_Y_refuseUnless_1 (d + 3) Y T H H2 RV RU ST NS I0 I1 I2 BO FI RG GU PU MA MN MS OT SC w r5 L Lg v1 zh5
    cases q2 with
    | zero =>
      have h := itp h rfl
      suffices e : Ev (d + 4, 0, 0, 326, 29, [.val (.ref 64), .val (.int p1), .val (.int p2), .val (.int p3), .val a_unk], [], (126, 120, L, [Y_3, T, H, H2, RV, RU, ST, NS, I0, I1, I2, BO, FI, RG, GU, PU, MA, MN, MS, OT, SC], [192, 256, 384, 320, w, r5, 576, 640, 704], Lg)) o from ev_call (fun v μ => (d + 4, 0, 0, 326, 29, [.val (.ref 64), .val (.int p1), .val (.int p2), .val (.int p3), .val a_unk], v.toList ++ [], μ)) 1 ze6 e (fun n => Eq.refl _)
      obtain ⟨BO_5, zh7, h⟩ := bnd h
      have zh7 : f_Y_lookNow H NS BO = some BO_5 := zh7
      have ze8 := R_f_Y_lookNow_1 (d + 1) Y_3 T H H2 RV RU ST NS I0 I1 I2 BO FI RG GU PU MA MN MS OT SC w r5 L Lg zh7
      suffices e : Ev (d + 4, 0, 0, 326, 33, [.val (.ref 64), .val (.int p1), .val (.int p2), .val (.int p3), .val a_unk], [.ref 768], (126, 120, L, [Y_3, T, H, H2, RV, RU, ST, NS, I0, I1, I2, BO_5, FI, RG, GU, PU, MA, MN, MS, OT, SC], [192, 256, 384, 320, w, 192, 576, 640, 704], Lg)) o from ev_call (fun v μ => (d + 4, 0, 0, 326, 33, [.val (.ref 64), .val (.int p1), .val (.int p2), .val (.int p3), .val a_unk], v.toList ++ [], μ)) 2 ze8 e (fun n => Eq.refl _)
      obtain ⟨BO_6, zh9, h⟩ := bnd h
      have zh9 : f_Board_runWeek H BO_5 p1 p2 = some BO_6 := zh9
      have ze10 := R_f_Board_runWeek_0 (d + 0) Y_3 T H H2 RV RU ST NS I0 I1 I2 BO_5 FI RG GU PU MA MN MS OT SC 192 256 384 320 w 576 640 704 L Lg p1 p2 zh9
      suffices e : Ev (d + 4, 0, 0, 326, 42, [.val (.ref 64), .val (.int p1), .val (.int p2), .val (.int p3), .val (.ref 768)], [], (126, 120, L, [Y_3, T, H, H2, RV, RU, ST, NS, I0, I1, I2, BO_6, FI, RG, GU, PU, MA, MN, MS, OT, SC], [192, 256, 384, 320, w, 192, 576, 640, 704], Lg)) o from ev_call (fun v μ => (d + 4, 0, 0, 326, 42, [.val (.ref 64), .val (.int p1), .val (.int p2), .val (.int p3), .val (.ref 768)], v.toList ++ [], μ)) 5 ze10 e (fun n => Eq.refl _)
      by_cases zc11 : p3 = 0
      · have h := itp h zc11
        suffices e : Ev (d + 4, 0, 0, 326, 68, [.val (.ref 64), .val (.int p1), .val (.int p2), .val (.int p3), .val (.ref 768)], [], (126, 120, L, [Y_3, T, H, H2, RV, RU, ST, NS, I0, I1, I2, BO_6, FI, RG, GU, PU, MA, MN, MS, OT, SC], [192, 256, 384, 320, w, 192, 576, 640, 704], Lg)) o from ev_sw [((0 : Int32), 68), ((1 : Int32), 74)] p3 (fun tt => (d + 4, 0, 0, 326, tt, [.val (.ref 64), .val (.int p1), .val (.int p2), .val (.int p3), .val (.ref 768)], [], (126, 120, L, [Y_3, T, H, H2, RV, RU, ST, NS, I0, I1, I2, BO_6, FI, RG, GU, PU, MA, MN, MS, OT, SC], [192, 256, 384, 320, w, 192, 576, 640, 704], Lg))) 80 68 2 (fun f => by simp only [a_sw, if_pos zc11]) e (fun n => Eq.refl _)
        have ze12 := Option.some.inj h
        subst ze12
        exact ev_rete 3 ho (fun n => Eq.refl _)
      have h := itn h zc11
      by_cases zc13 : p3 = 1
      · have h := itp h zc13
        suffices e : Ev (d + 4, 0, 0, 326, 74, [.val (.ref 64), .val (.int p1), .val (.int p2), .val (.int p3), .val (.ref 768)], [], (126, 120, L, [Y_3, T, H, H2, RV, RU, ST, NS, I0, I1, I2, BO_6, FI, RG, GU, PU, MA, MN, MS, OT, SC], [192, 256, 384, 320, w, 192, 576, 640, 704], Lg)) o from ev_sw [((0 : Int32), 68), ((1 : Int32), 74)] p3 (fun tt => (d + 4, 0, 0, 326, tt, [.val (.ref 64), .val (.int p1), .val (.int p2), .val (.int p3), .val (.ref 768)], [], (126, 120, L, [Y_3, T, H, H2, RV, RU, ST, NS, I0, I1, I2, BO_6, FI, RG, GU, PU, MA, MN, MS, OT, SC], [192, 256, 384, 320, w, 192, 576, 640, 704], Lg))) 80 74 2 (fun f => by simp only [a_sw, if_neg zc11, if_pos zc13]) e (fun n => Eq.refl _)
        have ze14 := Option.some.inj h
        subst ze14
        exact ev_rete 3 ho (fun n => Eq.refl _)
      have h := itn h zc13
      suffices e : Ev (d + 4, 0, 0, 326, 80, [.val (.ref 64), .val (.int p1), .val (.int p2), .val (.int p3), .val (.ref 768)], [], (126, 120, L, [Y_3, T, H, H2, RV, RU, ST, NS, I0, I1, I2, BO_6, FI, RG, GU, PU, MA, MN, MS, OT, SC], [192, 256, 384, 320, w, 192, 576, 640, 704], Lg)) o from ev_sw [((0 : Int32), 68), ((1 : Int32), 74)] p3 (fun tt => (d + 4, 0, 0, 326, tt, [.val (.ref 64), .val (.int p1), .val (.int p2), .val (.int p3), .val (.ref 768)], [], (126, 120, L, [Y_3, T, H, H2, RV, RU, ST, NS, I0, I1, I2, BO_6, FI, RG, GU, PU, MA, MN, MS, OT, SC], [192, 256, 384, 320, w, 192, 576, 640, 704], Lg))) 80 80 2 (fun f => by simp only [a_sw, if_neg zc11, if_neg zc13]) e (fun n => Eq.refl _)
      obtain ⟨x7, zh15, h⟩ := bnd h
      have zh15 : f_Board_mostBorne H BO_6 = some x7 := zh15
      have ze16 := R_f_Board_mostBorne_0 (d + 1) Y_3 T H H2 RV RU ST NS I0 I1 I2 BO_6 FI RG GU PU MA MN MS OT SC 192 256 384 320 w 576 640 704 L Lg zh15
      suffices e : Ev (d + 4, 0, 0, 326, 85, [.val (.ref 64), .val (.int p1), .val (.int p2), .val (.int p3), .val (.ref 768)], [.int x7], (126, 120, L, [Y_3, T, H, H2, RV, RU, ST, NS, I0, I1, I2, BO_6, FI, RG, GU, PU, MA, MN, MS, OT, SC], [192, 256, 384, 320, w, 192, 576, 640, 704], Lg)) o from ev_call (fun v μ => (d + 4, 0, 0, 326, 85, [.val (.ref 64), .val (.int p1), .val (.int p2), .val (.int p3), .val (.ref 768)], v.toList ++ [], μ)) 2 ze16 e (fun n => Eq.refl _)
      have ze17 := Option.some.inj h
      subst ze17
      exact ev_rete 1 ho (fun n => Eq.refl _)
    | succ q2 =>
      have h := itn h (Nat.succ_ne_zero q2)
      have ze18 := Option.some.inj h
      subst ze18
      subst ho
      exact ev_thr (fun v μ => (d + 4, 0, 0, 326, 29, [.val (.ref 64), .val (.int p1), .val (.int p2), .val (.int p3), .val a_unk], v.toList ++ [], μ)) 1 ze6 (fun n => Eq.refl _) (fun n => rfl)
  obtain ⟨zt19, zh20, zh2⟩ := bnd zh2
  have zj21 : zt19 = .inl () → Ev (d + 4, 1, 8, 326, 25, [.val (.ref 64), .val (.int p1), .val (.int p2), .val (.int p3), .val a_unk], [.ref 64], (126, 120, L, [Y, T, H, H2, RV, RU, ST, NS, I0, I1, I2, BO, FI, RG, GU, PU, MA, MN, MS, OT, SC], [192, 256, 384, 320, w, r5, 576, 640, 704], Lg)) o := by
    intro ze22
    have zh2 := sum_l zh2 ze22
    exact ev_b 1 (zj3 0 (Option.some.inj zh2) ) (fun n => Eq.refl _)
  by_cases zc23 : p2 < 1
  · have zh20 := itp zh20 zc23
    suffices e : Ev (d + 4, 1, 8, 326, 25, [.val (.ref 64), .val (.int p1), .val (.int p2), .val (.int p3), .val a_unk], [.ref 64], (126, 120, L, [Y, T, H, H2, RV, RU, ST, NS, I0, I1, I2, BO, FI, RG, GU, PU, MA, MN, MS, OT, SC], [192, 256, 384, 320, w, r5, 576, 640, 704], Lg)) o from ev_t (c := p2 < 1) _ _ 4  zc23 e (fun n => Eq.refl _)
    exact ev_b 0 (zj21  (Option.some.inj zh20).symm ) (fun n => Eq.refl _)
  · have zh20 := itn zh20 zc23
    suffices e : Ev (d + 4, 1, 8, 326, 6, [.val (.ref 64), .val (.int p1), .val (.int p2), .val (.int p3), .val a_unk], [.ref 64], (126, 120, L, [Y, T, H, H2, RV, RU, ST, NS, I0, I1, I2, BO, FI, RG, GU, PU, MA, MN, MS, OT, SC], [192, 256, 384, 320, w, r5, 576, 640, 704], Lg)) o from ev_f (c := p2 < 1) _ _ 4  zc23 e (fun n => Eq.refl _)
    by_cases zc24 : 60 < p2
    · have zh20 := itp zh20 zc24
      suffices e : Ev (d + 4, 1, 8, 326, 25, [.val (.ref 64), .val (.int p1), .val (.int p2), .val (.int p3), .val a_unk], [.ref 64], (126, 120, L, [Y, T, H, H2, RV, RU, ST, NS, I0, I1, I2, BO, FI, RG, GU, PU, MA, MN, MS, OT, SC], [192, 256, 384, 320, w, r5, 576, 640, 704], Lg)) o from ev_t (c := 60 < p2) _ _ 3  zc24 e (fun n => Eq.refl _)
      exact ev_b 0 (zj21  (Option.some.inj zh20).symm ) (fun n => Eq.refl _)
    · have zh20 := itn zh20 zc24
      suffices e : Ev (d + 4, 1, 8, 326, 12, [.val (.ref 64), .val (.int p1), .val (.int p2), .val (.int p3), .val a_unk], [.ref 64], (126, 120, L, [Y, T, H, H2, RV, RU, ST, NS, I0, I1, I2, BO, FI, RG, GU, PU, MA, MN, MS, OT, SC], [192, 256, 384, 320, w, r5, 576, 640, 704], Lg)) o from ev_f (c := 60 < p2) _ _ 3  zc24 e (fun n => Eq.refl _)
      by_cases zc25 : p3 < 0
      · have zh20 := itp zh20 zc25
        suffices e : Ev (d + 4, 1, 8, 326, 25, [.val (.ref 64), .val (.int p1), .val (.int p2), .val (.int p3), .val a_unk], [.ref 64], (126, 120, L, [Y, T, H, H2, RV, RU, ST, NS, I0, I1, I2, BO, FI, RG, GU, PU, MA, MN, MS, OT, SC], [192, 256, 384, 320, w, r5, 576, 640, 704], Lg)) o from ev_t (c := p3 < 0) _ _ 2  zc25 e (fun n => Eq.refl _)
        exact ev_b 0 (zj21  (Option.some.inj zh20).symm ) (fun n => Eq.refl _)
      · have zh20 := itn zh20 zc25
        suffices e : Ev (d + 4, 1, 8, 326, 16, [.val (.ref 64), .val (.int p1), .val (.int p2), .val (.int p3), .val a_unk], [.ref 64], (126, 120, L, [Y, T, H, H2, RV, RU, ST, NS, I0, I1, I2, BO, FI, RG, GU, PU, MA, MN, MS, OT, SC], [192, 256, 384, 320, w, r5, 576, 640, 704], Lg)) o from ev_f (c := p3 < 0) _ _ 2  zc25 e (fun n => Eq.refl _)
        by_cases zc26 : 2 < p3
        · have zh20 := itp zh20 zc26
          suffices e : Ev (d + 4, 1, 8, 326, 25, [.val (.ref 64), .val (.int p1), .val (.int p2), .val (.int p3), .val a_unk], [.ref 64], (126, 120, L, [Y, T, H, H2, RV, RU, ST, NS, I0, I1, I2, BO, FI, RG, GU, PU, MA, MN, MS, OT, SC], [192, 256, 384, 320, w, r5, 576, 640, 704], Lg)) o from ev_t (c := 2 < p3) _ _ 3  zc26 e (fun n => Eq.refl _)
          exact ev_b 0 (zj21  (Option.some.inj zh20).symm ) (fun n => Eq.refl _)
        · have zh20 := itn zh20 zc26
          suffices e : Ev (d + 4, 1, 8, 326, 21, [.val (.ref 64), .val (.int p1), .val (.int p2), .val (.int p3), .val a_unk], [.ref 64], (126, 120, L, [Y, T, H, H2, RV, RU, ST, NS, I0, I1, I2, BO, FI, RG, GU, PU, MA, MN, MS, OT, SC], [192, 256, 384, 320, w, r5, 576, 640, 704], Lg)) o from ev_f (c := 2 < p3) _ _ 3  zc26 e (fun n => Eq.refl _)
          have zh27 := sum_r zh2 (Option.some.inj zh20).symm
          exact ev_b 2 (zj3 1 (Option.some.inj zh27) ) (fun n => Eq.refl _)
set_option maxRecDepth 1000000 in
set_option maxHeartbeats 4000000 in
theorem R_f_Board_nextSeed_1 (d : Nat) (Y T HA HB RA RB ST NS I0 I1 I2 BO FI RG GU PU MA MN MS OT SC : Nat → Nat → Int32) (r0 r1 r2 r3 w r6 r7 r8 : Nat) (L : Nat) (Lg : Int64) (p0 : Int32) {r : Int32} (h : f_Board_nextSeed p0 = some r) : Ev (d + 0, 0, 0, 175, 0, [.val (.int p0)], [], (126, 120, L, [Y, T, HA, HB, RA, RB, ST, NS, I0, I1, I2, BO, FI, RG, GU, PU, MA, MN, MS, OT, SC], [r0, r1, r2, r3, w, 256, r6, r7, r8], Lg)) ((0, some (.int r), (126, 120, L, [Y, T, HA, HB, RA, RB, ST, NS, I0, I1, I2, BO, FI, RG, GU, PU, MA, MN, MS, OT, SC], [r0, r1, r2, r3, w, 256, r6, r7, r8], Lg)) : AOut) := by
  suffices key : ∀ o : AOut, ((0, some (.int r), (126, 120, L, [Y, T, HA, HB, RA, RB, ST, NS, I0, I1, I2, BO, FI, RG, GU, PU, MA, MN, MS, OT, SC], [r0, r1, r2, r3, w, 256, r6, r7, r8], Lg)) : AOut) = o → Ev (d + 0, 0, 0, 175, 0, [.val (.int p0)], [], (126, 120, L, [Y, T, HA, HB, RA, RB, ST, NS, I0, I1, I2, BO, FI, RG, GU, PU, MA, MN, MS, OT, SC], [r0, r1, r2, r3, w, 256, r6, r7, r8], Lg)) o from key _ rfl
  intro o ho
  have ze1 := Option.some.inj h
  subst ze1
  exact ev_rete 6 ho (fun n => Eq.refl _)
set_option maxRecDepth 1000000 in
set_option maxHeartbeats 4000000 in
theorem R_f_Board_movesInto_1 (d : Nat) (Y T H2 H RA RB ST NS I0 I1 I2 BO FI RG GU PU MA MN MS OT SC : Nat → Nat → Int32) (r0 r1 r2 r3 w r6 r7 r8 : Nat) (L : Nat) (Lg : Int64) (p1 : Int32) (p2 : Int32) {r : Int32 × (Nat → Nat → Int32)} (h : f_Board_movesInto H BO p1 p2 = some r) : Ev (d + 2, 0, 0, 176, 0, [.val (.ref 768), .val (.int p1), .val (.int p2), .val a_unk], [], (126, 120, L, [Y, T, H2, H, RA, RB, ST, NS, I0, I1, I2, BO, FI, RG, GU, PU, MA, MN, MS, OT, SC], [r0, r1, r2, r3, w, 256, r6, r7, r8], Lg)) ((0, some (.int r.1), (126, 120, L, [Y, T, H2, H, RA, RB, ST, NS, I0, I1, I2, r.2, FI, RG, GU, PU, MA, MN, MS, OT, SC], [r0, r1, r2, r3, w, 256, r6, r7, r8], Lg)) : AOut) := by
  suffices key : ∀ o : AOut, ((0, some (.int r.1), (126, 120, L, [Y, T, H2, H, RA, RB, ST, NS, I0, I1, I2, r.2, FI, RG, GU, PU, MA, MN, MS, OT, SC], [r0, r1, r2, r3, w, 256, r6, r7, r8], Lg)) : AOut) = o → Ev (d + 2, 0, 0, 176, 0, [.val (.ref 768), .val (.int p1), .val (.int p2), .val a_unk], [], (126, 120, L, [Y, T, H2, H, RA, RB, ST, NS, I0, I1, I2, BO, FI, RG, GU, PU, MA, MN, MS, OT, SC], [r0, r1, r2, r3, w, 256, r6, r7, r8], Lg)) o from key _ rfl
  intro o ho
  suffices e : Ev (d + 2, 0, 0, 176, 4, [.val (.ref 768), .val (.int p1), .val (.int p2), .val a_unk], [.ref 256], (126, 120, L, [Y, T, H2, H, RA, RB, ST, NS, I0, I1, I2, BO, FI, RG, GU, PU, MA, MN, MS, OT, SC], [r0, r1, r2, r3, w, 256, r6, r7, r8], Lg)) o from ev_b 2 e (fun n => Eq.refl _)
  obtain ⟨x1, zh1, h⟩ := bnd h
  have zh1 : f_House_isFixed H p1 = some x1 := zh1
  have ze2 := R_f_House_isFixed_1 (d + 1) Y T H2 H RA RB ST NS I0 I1 I2 BO FI RG GU PU MA MN MS OT SC r0 r1 r2 r3 w 256 r6 r7 r8 L Lg p1 zh1
  suffices e : Ev (d + 2, 0, 0, 176, 8, [.val (.ref 768), .val (.int p1), .val (.int p2), .val a_unk], [.int x1], (126, 120, L, [Y, T, H2, H, RA, RB, ST, NS, I0, I1, I2, BO, FI, RG, GU, PU, MA, MN, MS, OT, SC], [r0, r1, r2, r3, w, 256, r6, r7, r8], Lg)) o from ev_call (fun v μ => (d + 2, 0, 0, 176, 8, [.val (.ref 768), .val (.int p1), .val (.int p2), .val a_unk], v.toList ++ [], μ)) 2 ze2 e (fun n => Eq.refl _)
  by_cases zc3 : x1 ≠ 0
  · have h := itp h zc3
    suffices e : Ev (d + 2, 0, 0, 176, 34, [.val (.ref 768), .val (.int p1), .val (.int p2), .val a_unk], [], (126, 120, L, [Y, T, H2, H, RA, RB, ST, NS, I0, I1, I2, BO, FI, RG, GU, PU, MA, MN, MS, OT, SC], [r0, r1, r2, r3, w, 256, r6, r7, r8], Lg)) o from ev_t (c := x1 ≠ 0) _ _ 1  zc3 e (fun n => Eq.refl _)
    have ze4 := Option.some.inj h
    subst ze4
    exact ev_rete 2 ho (fun n => Eq.refl _)
  · have h := itn h zc3
    suffices e : Ev (d + 2, 0, 0, 176, 11, [.val (.ref 768), .val (.int p1), .val (.int p2), .val a_unk], [], (126, 120, L, [Y, T, H2, H, RA, RB, ST, NS, I0, I1, I2, BO, FI, RG, GU, PU, MA, MN, MS, OT, SC], [r0, r1, r2, r3, w, 256, r6, r7, r8], Lg)) o from ev_f (c := x1 ≠ 0) _ _ 1  zc3 e (fun n => Eq.refl _)
    obtain ⟨x2, zh5, h⟩ := bnd h
    have zh5 : rdx (BO 1) 10 p1 = some x2 := zh5
    suffices e : Ev (d + 2, 0, 0, 176, 17, [.val (.ref 768), .val (.int p1), .val (.int p2), .val a_unk], [.int x2], (126, 120, L, [Y, T, H2, H, RA, RB, ST, NS, I0, I1, I2, BO, FI, RG, GU, PU, MA, MN, MS, OT, SC], [r0, r1, r2, r3, w, 256, r6, r7, r8], Lg)) o from ev_opt (fun x2 => (d + 2, 0, 0, 176, 17, [.val (.ref 768), .val (.int p1), .val (.int p2), .val a_unk], [.int x2], (126, 120, L, [Y, T, H2, H, RA, RB, ST, NS, I0, I1, I2, BO, FI, RG, GU, PU, MA, MN, MS, OT, SC], [r0, r1, r2, r3, w, 256, r6, r7, r8], Lg))) 4 zh5 e (fun n => Eq.refl _)
    by_cases zc6 : x2 = (-1)
    · have h := itp h zc6
      suffices e : Ev (d + 2, 0, 0, 176, 34, [.val (.ref 768), .val (.int p1), .val (.int p2), .val a_unk], [], (126, 120, L, [Y, T, H2, H, RA, RB, ST, NS, I0, I1, I2, BO, FI, RG, GU, PU, MA, MN, MS, OT, SC], [r0, r1, r2, r3, w, 256, r6, r7, r8], Lg)) o from ev_t (c := x2 = (-1)) _ _ 2  zc6 e (fun n => Eq.refl _)
      have ze7 := Option.some.inj h
      subst ze7
      exact ev_rete 2 ho (fun n => Eq.refl _)
    · have h := itn h zc6
      suffices e : Ev (d + 2, 0, 0, 176, 21, [.val (.ref 768), .val (.int p1), .val (.int p2), .val a_unk], [], (126, 120, L, [Y, T, H2, H, RA, RB, ST, NS, I0, I1, I2, BO, FI, RG, GU, PU, MA, MN, MS, OT, SC], [r0, r1, r2, r3, w, 256, r6, r7, r8], Lg)) o from ev_f (c := x2 = (-1)) _ _ 2  zc6 e (fun n => Eq.refl _)
      obtain ⟨x3, zh8, h⟩ := bnd h
      have zh8 : rdx (BO 1) 10 p1 = some x3 := zh8
      suffices e : Ev (d + 2, 0, 0, 176, 27, [.val (.ref 768), .val (.int p1), .val (.int p2), .val a_unk], [.int x3], (126, 120, L, [Y, T, H2, H, RA, RB, ST, NS, I0, I1, I2, BO, FI, RG, GU, PU, MA, MN, MS, OT, SC], [r0, r1, r2, r3, w, 256, r6, r7, r8], Lg)) o from ev_opt (fun x3 => (d + 2, 0, 0, 176, 27, [.val (.ref 768), .val (.int p1), .val (.int p2), .val a_unk], [.int x3], (126, 120, L, [Y, T, H2, H, RA, RB, ST, NS, I0, I1, I2, BO, FI, RG, GU, PU, MA, MN, MS, OT, SC], [r0, r1, r2, r3, w, 256, r6, r7, r8], Lg))) 4 zh8 e (fun n => Eq.refl _)
      obtain ⟨x4, zh9, h⟩ := bnd h
      have zh9 : f_Y_hourOf x3 = some x4 := zh9
      have ze10 := R_f_Y_hourOf_0 (d + 1) Y T H2 H RA RB ST NS I0 I1 I2 BO FI RG GU PU MA MN MS OT SC r0 r1 r2 r3 w 256 r6 r7 r8 L Lg x3 zh9
      suffices e : Ev (d + 2, 0, 0, 176, 30, [.val (.ref 768), .val (.int p1), .val (.int p2), .val a_unk], [.int x4], (126, 120, L, [Y, T, H2, H, RA, RB, ST, NS, I0, I1, I2, BO, FI, RG, GU, PU, MA, MN, MS, OT, SC], [r0, r1, r2, r3, w, 256, r6, r7, r8], Lg)) o from ev_call (fun v μ => (d + 2, 0, 0, 176, 30, [.val (.ref 768), .val (.int p1), .val (.int p2), .val a_unk], v.toList ++ [], μ)) 1 ze10 e (fun n => Eq.refl _)
      by_cases zc11 : x4 ≠ p2
      · have h := itp h zc11
        suffices e : Ev (d + 2, 0, 0, 176, 36, [.val (.ref 768), .val (.int p1), .val (.int p2), .val a_unk], [], (126, 120, L, [Y, T, H2, H, RA, RB, ST, NS, I0, I1, I2, BO, FI, RG, GU, PU, MA, MN, MS, OT, SC], [r0, r1, r2, r3, w, 256, r6, r7, r8], Lg)) o from ev_t (c := x4 ≠ p2) _ _ 2  zc11 e (fun n => Eq.refl _)
        obtain ⟨zb12, zh13, h⟩ := bnd h
        suffices e : Ev (d + 2, 0, 0, 176, 38, [.val (.ref 768), .val (.int p1), .val (.int p2), .val (.int 0)], [], (126, 120, L, [Y, T, H2, H, RA, RB, ST, NS, I0, I1, I2, BO, FI, RG, GU, PU, MA, MN, MS, OT, SC], [r0, r1, r2, r3, w, 256, r6, r7, r8], Lg)) o from ev_b 2 e (fun n => Eq.refl _)
        refine ev_loop (δ := Unit) (fun a j => (d + 2, 0, 0, 176, 38, [.val (.ref 768), .val (.int p1), .val (.int p2), .val (.int a.1)], [], (126, 120, L, [Y, T, H2, H, RA, RB, ST, NS, I0, I1, I2, a.2, FI, RG, GU, PU, MA, MN, MS, OT, SC], [r0, r1, r2, r3, w, 256, r6, r7, r8], Lg))) (fun b => sumE b (fun b => ∀ s12 : Value, Ev (d + 2, 0, 0, 176, 91, [.val (.ref 768), .val (.int p1), .val (.int p2), .val s12], [], (126, 120, L, [Y, T, H2, H, RA, RB, ST, NS, I0, I1, I2, b, FI, RG, GU, PU, MA, MN, MS, OT, SC], [r0, r1, r2, r3, w, 256, r6, r7, r8], Lg)) o) (fun b => ((0, some (.int b.1), (126, 120, L, [Y, T, H2, H, RA, RB, ST, NS, I0, I1, I2, b.2, FI, RG, GU, PU, MA, MN, MS, OT, SC], [r0, r1, r2, r3, w, 256, r6, r7, r8], Lg)) : AOut) = o)) ?_ a_F (0, BO) zb12 zh13 ?_ ()
        · rintro ⟨v5, BO_6⟩ zr17 zh16 zi14 zx15 ⟨⟩
          have zh16 : f_Board_movesInto_l38 H p1 p2 v5 BO_6 = some zr17 := zh16
          suffices e : Ev (d + 2, 0, 0, 176, 43, [.val (.ref 768), .val (.int p1), .val (.int p2), .val (.int v5)], [.ref 256, .int v5], (126, 120, L, [Y, T, H2, H, RA, RB, ST, NS, I0, I1, I2, BO_6, FI, RG, GU, PU, MA, MN, MS, OT, SC], [r0, r1, r2, r3, w, 256, r6, r7, r8], Lg)) o from ev_b 3 e (fun n => Eq.refl _)
          by_cases zc18 : (H 0 1) ≤ v5
          · have zh16 := itp zh16 zc18
            suffices e : Ev (d + 2, 0, 0, 176, 91, [.val (.ref 768), .val (.int p1), .val (.int p2), .val (.int v5)], [], (126, 120, L, [Y, T, H2, H, RA, RB, ST, NS, I0, I1, I2, BO_6, FI, RG, GU, PU, MA, MN, MS, OT, SC], [r0, r1, r2, r3, w, 256, r6, r7, r8], Lg)) o from ev_t (c := (H 0 1) ≤ v5) _ _ 2  zc18 e (fun n => Eq.refl _)
            exact ev_b 0 (zx15 _ (Option.some.inj zh16).symm (.int v5)) (fun n => Eq.refl _)
          · have zh16 := itn zh16 zc18
            suffices e : Ev (d + 2, 0, 0, 176, 49, [.val (.ref 768), .val (.int p1), .val (.int p2), .val (.int v5)], [], (126, 120, L, [Y, T, H2, H, RA, RB, ST, NS, I0, I1, I2, BO_6, FI, RG, GU, PU, MA, MN, MS, OT, SC], [r0, r1, r2, r3, w, 256, r6, r7, r8], Lg)) o from ev_f (c := (H 0 1) ≤ v5) _ _ 2  zc18 e (fun n => Eq.refl _)
            obtain ⟨x7, zh19, zh16⟩ := bnd zh16
            have zh19 : f_Board_openHours H BO_6 p1 v5 = some x7 := zh19
            have ze20 := R_f_Board_openHours_1 (d + 0) Y T H2 H RA RB ST NS I0 I1 I2 BO_6 FI RG GU PU MA MN MS OT SC r0 r1 r2 r3 w r6 r7 r8 L Lg p1 v5 zh19
            suffices e : Ev (d + 2, 0, 0, 176, 55, [.val (.ref 768), .val (.int p1), .val (.int p2), .val (.int v5)], [.int x7], (126, 120, L, [Y, T, H2, H, RA, RB, ST, NS, I0, I1, I2, BO_6, FI, RG, GU, PU, MA, MN, MS, OT, SC], [r0, r1, r2, r3, w, 256, r6, r7, r8], Lg)) o from ev_call (fun v μ => (d + 2, 0, 0, 176, 55, [.val (.ref 768), .val (.int p1), .val (.int p2), .val (.int v5)], v.toList ++ [], μ)) 4 ze20 e (fun n => Eq.refl _)
            by_cases zc21 : ((a_shr x7 p2) &&& 1) = 0
            · have zh16 := itp zh16 zc21
              suffices e : Ev (d + 2, 0, 0, 176, 85, [.val (.ref 768), .val (.int p1), .val (.int p2), .val (.int v5)], [], (126, 120, L, [Y, T, H2, H, RA, RB, ST, NS, I0, I1, I2, BO_6, FI, RG, GU, PU, MA, MN, MS, OT, SC], [r0, r1, r2, r3, w, 256, r6, r7, r8], Lg)) o from ev_t (c := ((a_shr x7 p2) &&& 1) = 0) _ _ 5  zc21 e (fun n => Eq.refl _)
              exact ev_b 2 (zi14 _ (Option.some.inj zh16).symm ()) (fun n => Eq.refl _)
            · have zh16 := itn zh16 zc21
              suffices e : Ev (d + 2, 0, 0, 176, 62, [.val (.ref 768), .val (.int p1), .val (.int p2), .val (.int v5)], [], (126, 120, L, [Y, T, H2, H, RA, RB, ST, NS, I0, I1, I2, BO_6, FI, RG, GU, PU, MA, MN, MS, OT, SC], [r0, r1, r2, r3, w, 256, r6, r7, r8], Lg)) o from ev_f (c := ((a_shr x7 p2) &&& 1) = 0) _ _ 5  zc21 e (fun n => Eq.refl _)
              obtain ⟨x8, zh22, zh16⟩ := bnd zh16
              have zh22 : f_Y_placeOf p2 v5 = some x8 := zh22
              have ze23 := R_f_Y_placeOf_0 (d + 1) Y T H2 H RA RB ST NS I0 I1 I2 BO_6 FI RG GU PU MA MN MS OT SC r0 r1 r2 r3 w 256 r6 r7 r8 L Lg p2 v5 zh22
              suffices e : Ev (d + 2, 0, 0, 176, 72, [.val (.ref 768), .val (.int p1), .val (.int p2), .val (.int v5)], [.int x8, .int p1, .ref 769], (126, 120, L, [Y, T, H2, H, RA, RB, ST, NS, I0, I1, I2, BO_6, FI, RG, GU, PU, MA, MN, MS, OT, SC], [r0, r1, r2, r3, w, 256, r6, r7, r8], Lg)) o from ev_call (fun v μ => (d + 2, 0, 0, 176, 72, [.val (.ref 768), .val (.int p1), .val (.int p2), .val (.int v5)], v.toList ++ [.int p1, .ref 769], μ)) 6 ze23 e (fun n => Eq.refl _)
              obtain ⟨j9, zh24, zh16⟩ := bnd zh16
              have zh24 : ixx 10 p1 = some j9 := zh24
              suffices e : Ev (d + 2, 0, 0, 176, 73, [.val (.ref 768), .val (.int p1), .val (.int p2), .val (.int v5)], [], (126, 120, L, [Y, T, H2, H, RA, RB, ST, NS, I0, I1, I2, (u2 BO_6 1 j9 x8), FI, RG, GU, PU, MA, MN, MS, OT, SC], [r0, r1, r2, r3, w, 256, r6, r7, r8], Lg)) o from ev_opt (fun j9 => (d + 2, 0, 0, 176, 73, [.val (.ref 768), .val (.int p1), .val (.int p2), .val (.int v5)], [], (126, 120, L, [Y, T, H2, H, RA, RB, ST, NS, I0, I1, I2, (u2 BO_6 1 j9 x8), FI, RG, GU, PU, MA, MN, MS, OT, SC], [r0, r1, r2, r3, w, 256, r6, r7, r8], Lg))) 1 zh24 e (fun n => Eq.refl _)
              obtain ⟨x10, zh25, zh16⟩ := bnd zh16
              have zh25 : rdx ((u2 BO_6 1 j9 x8) 2) 10 p1 = some x10 := zh25
              suffices e : Ev (d + 2, 0, 0, 176, 80, [.val (.ref 768), .val (.int p1), .val (.int p2), .val (.int v5)], [.int x10, .int p1, .ref 770], (126, 120, L, [Y, T, H2, H, RA, RB, ST, NS, I0, I1, I2, (u2 BO_6 1 j9 x8), FI, RG, GU, PU, MA, MN, MS, OT, SC], [r0, r1, r2, r3, w, 256, r6, r7, r8], Lg)) o from ev_opt (fun x10 => (d + 2, 0, 0, 176, 80, [.val (.ref 768), .val (.int p1), .val (.int p2), .val (.int v5)], [.int x10, .int p1, .ref 770], (126, 120, L, [Y, T, H2, H, RA, RB, ST, NS, I0, I1, I2, (u2 BO_6 1 j9 x8), FI, RG, GU, PU, MA, MN, MS, OT, SC], [r0, r1, r2, r3, w, 256, r6, r7, r8], Lg))) 5 zh25 e (fun n => Eq.refl _)
              obtain ⟨j11, zh26, zh16⟩ := bnd zh16
              have zh26 : ixx 10 p1 = some j11 := zh26
              suffices e : Ev (d + 2, 0, 0, 176, 83, [.val (.ref 768), .val (.int p1), .val (.int p2), .val (.int v5)], [], (126, 120, L, [Y, T, H2, H, RA, RB, ST, NS, I0, I1, I2, (u2 (u2 BO_6 1 j9 x8) 2 j11 (x10 + 1)), FI, RG, GU, PU, MA, MN, MS, OT, SC], [r0, r1, r2, r3, w, 256, r6, r7, r8], Lg)) o from ev_opt (fun j11 => (d + 2, 0, 0, 176, 83, [.val (.ref 768), .val (.int p1), .val (.int p2), .val (.int v5)], [], (126, 120, L, [Y, T, H2, H, RA, RB, ST, NS, I0, I1, I2, (u2 (u2 BO_6 1 j9 x8) 2 j11 (x10 + 1)), FI, RG, GU, PU, MA, MN, MS, OT, SC], [r0, r1, r2, r3, w, 256, r6, r7, r8], Lg))) 3 zh26 e (fun n => Eq.refl _)
              exact ev_rete 2 (zx15 _ (Option.some.inj zh16).symm) (fun n => Eq.refl _)
        · rcases zb12 with BO_13 | zr17
          · intro s12
            have ze27 := Option.some.inj h
            subst ze27
            exact ev_rete 2 ho (fun n => Eq.refl _)
          · have zh28 : some zr17 = some r := h
            exact (congrArg (fun q => ((0, some (.int q.1), (126, 120, L, [Y, T, H2, H, RA, RB, ST, NS, I0, I1, I2, q.2, FI, RG, GU, PU, MA, MN, MS, OT, SC], [r0, r1, r2, r3, w, 256, r6, r7, r8], Lg)) : AOut)) (Option.some.inj zh28)).trans ho
      · have h := itn h zc11
        suffices e : Ev (d + 2, 0, 0, 176, 34, [.val (.ref 768), .val (.int p1), .val (.int p2), .val a_unk], [], (126, 120, L, [Y, T, H2, H, RA, RB, ST, NS, I0, I1, I2, BO, FI, RG, GU, PU, MA, MN, MS, OT, SC], [r0, r1, r2, r3, w, 256, r6, r7, r8], Lg)) o from ev_f (c := x4 ≠ p2) _ _ 2  zc11 e (fun n => Eq.refl _)
        have ze30 := Option.some.inj h
        subst ze30
        exact ev_rete 2 ho (fun n => Eq.refl _)
set_option maxRecDepth 1000000 in
set_option maxHeartbeats 4000000 in
theorem R_f_Board_runWeek_1 (d : Nat) (Y T H2 H RA RB ST NS I0 I1 I2 BO FI RG GU PU MA MN MS OT SC : Nat → Nat → Int32) (r0 r1 r2 r3 w r6 r7 r8 : Nat) (L : Nat) (Lg : Int64) (p1 : Int32) (p2 : Int32) {r : (Nat → Nat → Int32)} (h : f_Board_runWeek H BO p1 p2 = some r) : Ev (d + 3, 0, 0, 174, 0, [.val (.ref 768), .val (.int p1), .val (.int p2), .val a_unk, .val a_unk, .val a_unk, .val a_unk, .val a_unk, .val a_unk], [], (126, 120, L, [Y, T, H2, H, RA, RB, ST, NS, I0, I1, I2, BO, FI, RG, GU, PU, MA, MN, MS, OT, SC], [r0, r1, r2, r3, w, 256, r6, r7, r8], Lg)) ((0, none, (126, 120, L, [Y, T, H2, H, RA, RB, ST, NS, I0, I1, I2, r, FI, RG, GU, PU, MA, MN, MS, OT, SC], [r0, r1, r2, r3, w, 256, r6, r7, r8], Lg)) : AOut) := by
  suffices key : ∀ o : AOut, ((0, none, (126, 120, L, [Y, T, H2, H, RA, RB, ST, NS, I0, I1, I2, r, FI, RG, GU, PU, MA, MN, MS, OT, SC], [r0, r1, r2, r3, w, 256, r6, r7, r8], Lg)) : AOut) = o → Ev (d + 3, 0, 0, 174, 0, [.val (.ref 768), .val (.int p1), .val (.int p2), .val a_unk, .val a_unk, .val a_unk, .val a_unk, .val a_unk, .val a_unk], [], (126, 120, L, [Y, T, H2, H, RA, RB, ST, NS, I0, I1, I2, BO, FI, RG, GU, PU, MA, MN, MS, OT, SC], [r0, r1, r2, r3, w, 256, r6, r7, r8], Lg)) o from key _ rfl
  intro o ho
  obtain ⟨BO_26, zh2, h⟩ := bnd h
  suffices e : Ev (d + 3, 0, 0, 174, 18, [.val (.ref 768), .val (.int p1), .val (.int p2), .val (.int 0), .val (.int p1), .val (.int 0), .val a_unk, .val a_unk, .val a_unk], [], (126, 120, L, [Y, T, H2, H, RA, RB, ST, NS, I0, I1, I2, (u2 (u2 BO 0 5 0) 0 6 0), FI, RG, GU, PU, MA, MN, MS, OT, SC], [r0, r1, r2, r3, w, 256, r6, r7, r8], Lg)) o from ev_b 12 e (fun n => Eq.refl _)
  refine ev_loop (δ := Value × Value × Value) (fun a j => (d + 3, 0, 0, 174, 18, [.val (.ref 768), .val (.int p1), .val (.int p2), .val (.int a.1), .val (.int a.2.1), .val (.int a.2.2.1), .val j.1, .val j.2.1, .val j.2.2], [], (126, 120, L, [Y, T, H2, H, RA, RB, ST, NS, I0, I1, I2, a.2.2.2, FI, RG, GU, PU, MA, MN, MS, OT, SC], [r0, r1, r2, r3, w, 256, r6, r7, r8], Lg))) (fun b => ∀ s20 : Value, ∀ s21 : Value, ∀ s22 : Value, ∀ s23 : Value, ∀ s24 : Value, ∀ s25 : Value, Ev (d + 3, 0, 0, 174, 159, [.val (.ref 768), .val (.int p1), .val (.int p2), .val s20, .val s21, .val s22, .val s23, .val s24, .val s25], [], (126, 120, L, [Y, T, H2, H, RA, RB, ST, NS, I0, I1, I2, b, FI, RG, GU, PU, MA, MN, MS, OT, SC], [r0, r1, r2, r3, w, 256, r6, r7, r8], Lg)) o) ?_ a_F (0, p1, 0, (u2 (u2 BO 0 5 0) 0 6 0)) BO_26 zh2 ?_ (a_unk, a_unk, a_unk)
  · rintro ⟨v1, v2, v3, BO_7⟩ zr6 zh5 zi3 zx4 ⟨s4, s5, s6⟩
    have zh5 : f_Board_runWeek_l18 H p2 v1 v2 v3 BO_7 = some zr6 := zh5
    by_cases zc7 : p2 ≤ v3
    · have zh5 := itp zh5 zc7
      suffices e : Ev (d + 3, 0, 0, 174, 159, [.val (.ref 768), .val (.int p1), .val (.int p2), .val (.int v1), .val (.int v2), .val (.int v3), .val s4, .val s5, .val s6], [], (126, 120, L, [Y, T, H2, H, RA, RB, ST, NS, I0, I1, I2, BO_7, FI, RG, GU, PU, MA, MN, MS, OT, SC], [r0, r1, r2, r3, w, 256, r6, r7, r8], Lg)) o from ev_t (c := p2 ≤ v3) _ _ 3  zc7 e (fun n => Eq.refl _)
      exact ev_b 0 (zx4 _ (Option.some.inj zh5).symm (.int v1) (.int v2) (.int v3) s4 s5 s6) (fun n => Eq.refl _)
    · have zh5 := itn zh5 zc7
      suffices e : Ev (d + 3, 0, 0, 174, 24, [.val (.ref 768), .val (.int p1), .val (.int p2), .val (.int v1), .val (.int v2), .val (.int v3), .val s4, .val s5, .val s6], [], (126, 120, L, [Y, T, H2, H, RA, RB, ST, NS, I0, I1, I2, BO_7, FI, RG, GU, PU, MA, MN, MS, OT, SC], [r0, r1, r2, r3, w, 256, r6, r7, r8], Lg)) o from ev_f (c := p2 ≤ v3) _ _ 3  zc7 e (fun n => Eq.refl _)
      suffices e : Ev (d + 3, 0, 0, 174, 31, [.val (.ref 768), .val (.int p1), .val (.int p2), .val (.int v1), .val (.int v2), .val (.int v3), .val (.int 0), .val s5, .val s6], [.ref 256], (126, 120, L, [Y, T, H2, H, RA, RB, ST, NS, I0, I1, I2, BO_7, FI, RG, GU, PU, MA, MN, MS, OT, SC], [r0, r1, r2, r3, w, 256, r6, r7, r8], Lg)) o from ev_b 4 e (fun n => Eq.refl _)
      obtain ⟨zt8, zh9, zh5⟩ := bnd zh5
      have zj10 : ∀ (v12 : Int32) (v13 : Int32) (BO_16 : (Nat → Nat → Int32)), (v12, v13, BO_16) = zt8 → ∀ s14 : Value, ∀ s15 : Value, Ev (d + 3, 0, 0, 174, 109, [.val (.ref 768), .val (.int p1), .val (.int p2), .val (.int v1), .val (.int v12), .val (.int v3), .val (.int v13), .val s14, .val s15], [], (126, 120, L, [Y, T, H2, H, RA, RB, ST, NS, I0, I1, I2, BO_16, FI, RG, GU, PU, MA, MN, MS, OT, SC], [r0, r1, r2, r3, w, 256, r6, r7, r8], Lg)) o := by
        intro v12 v13 BO_16 ze11 s14 s15
        subst ze11
        obtain ⟨zt12, zh13, zh5⟩ := bnd zh5
        have zj14 : ∀ (v17 : Int32), v17 = zt12 → Ev (d + 3, 0, 0, 174, 121, [.val (.ref 768), .val (.int p1), .val (.int p2), .val (.int v1), .val (.int v12), .val (.int v3), .val (.int v13), .val s14, .val s15], [.int v17], (126, 120, L, [Y, T, H2, H, RA, RB, ST, NS, I0, I1, I2, BO_16, FI, RG, GU, PU, MA, MN, MS, OT, SC], [r0, r1, r2, r3, w, 256, r6, r7, r8], Lg)) o := by
          intro v17 ze15
          subst ze15
          obtain ⟨x18, zh16, zh5⟩ := bnd zh5
          have zh16 : f_Math_max (BO_16 0 6) v17 = some x18 := zh16
          have ze17 := R_f_Math_max_0 (d + 2) Y T H2 H RA RB ST NS I0 I1 I2 BO_16 FI RG GU PU MA MN MS OT SC r0 r1 r2 r3 w 256 r6 r7 r8 L Lg (BO_16 0 6) v17 zh16
          suffices e : Ev (d + 3, 0, 0, 174, 131, [.val (.ref 768), .val (.int p1), .val (.int p2), .val (.int v17), .val (.int v12), .val (.int v3), .val (.int v13), .val s14, .val s15], [.int x18, .ref 768], (126, 120, L, [Y, T, H2, H, RA, RB, ST, NS, I0, I1, I2, BO_16, FI, RG, GU, PU, MA, MN, MS, OT, SC], [r0, r1, r2, r3, w, 256, r6, r7, r8], Lg)) o from ev_call (fun v μ => (d + 3, 0, 0, 174, 131, [.val (.ref 768), .val (.int p1), .val (.int p2), .val (.int v17), .val (.int v12), .val (.int v3), .val (.int v13), .val s14, .val s15], v.toList ++ [.ref 768], μ)) 6 ze17 e (fun n => Eq.refl _)
          obtain ⟨zt18, zh19, zh5⟩ := bnd zh5
          have zj20 : ∀ (v19 : Int32), v19 = zt18 → Ev (d + 3, 0, 0, 174, 149, [.val (.ref 768), .val (.int p1), .val (.int p2), .val (.int v17), .val (.int v12), .val (.int v3), .val (.int v13), .val s14, .val s15], [.int v19, .int ((u2 BO_16 0 6 x18) 0 5), .ref 768], (126, 120, L, [Y, T, H2, H, RA, RB, ST, NS, I0, I1, I2, (u2 BO_16 0 6 x18), FI, RG, GU, PU, MA, MN, MS, OT, SC], [r0, r1, r2, r3, w, 256, r6, r7, r8], Lg)) o := by
            intro v19 ze21
            subst ze21
            exact ev_b 4 (zi3 _ (Option.some.inj zh5).symm ((.int v13), s14, s15)) (fun n => Eq.refl _)
          by_cases zc22 : v13 = 0
          · have zh19 := itp zh19 zc22
            suffices e : Ev (d + 3, 0, 0, 174, 148, [.val (.ref 768), .val (.int p1), .val (.int p2), .val (.int v17), .val (.int v12), .val (.int v3), .val (.int v13), .val s14, .val s15], [.int ((u2 BO_16 0 6 x18) 0 5), .ref 768], (126, 120, L, [Y, T, H2, H, RA, RB, ST, NS, I0, I1, I2, (u2 BO_16 0 6 x18), FI, RG, GU, PU, MA, MN, MS, OT, SC], [r0, r1, r2, r3, w, 256, r6, r7, r8], Lg)) o from ev_t (c := v13 = 0) _ _ 6  zc22 e (fun n => Eq.refl _)
            exact ev_b 1 (zj20 0 (Option.some.inj zh19) ) (fun n => Eq.refl _)
          · have zh19 := itn zh19 zc22
            suffices e : Ev (d + 3, 0, 0, 174, 144, [.val (.ref 768), .val (.int p1), .val (.int p2), .val (.int v17), .val (.int v12), .val (.int v3), .val (.int v13), .val s14, .val s15], [.int ((u2 BO_16 0 6 x18) 0 5), .ref 768], (126, 120, L, [Y, T, H2, H, RA, RB, ST, NS, I0, I1, I2, (u2 BO_16 0 6 x18), FI, RG, GU, PU, MA, MN, MS, OT, SC], [r0, r1, r2, r3, w, 256, r6, r7, r8], Lg)) o from ev_f (c := v13 = 0) _ _ 6  zc22 e (fun n => Eq.refl _)
            exact ev_b 2 (zj20 1 (Option.some.inj zh19) ) (fun n => Eq.refl _)
        by_cases zc23 : v13 = 0
        · have zh13 := itp zh13 zc23
          suffices e : Ev (d + 3, 0, 0, 174, 118, [.val (.ref 768), .val (.int p1), .val (.int p2), .val (.int v1), .val (.int v12), .val (.int v3), .val (.int v13), .val s14, .val s15], [], (126, 120, L, [Y, T, H2, H, RA, RB, ST, NS, I0, I1, I2, BO_16, FI, RG, GU, PU, MA, MN, MS, OT, SC], [r0, r1, r2, r3, w, 256, r6, r7, r8], Lg)) o from ev_t (c := v13 = 0) _ _ 2  zc23 e (fun n => Eq.refl _)
          exact ev_b 3 (zj14 (v1 + 1) (Option.some.inj zh13) ) (fun n => Eq.refl _)
        · have zh13 := itn zh13 zc23
          suffices e : Ev (d + 3, 0, 0, 174, 114, [.val (.ref 768), .val (.int p1), .val (.int p2), .val (.int v1), .val (.int v12), .val (.int v3), .val (.int v13), .val s14, .val s15], [], (126, 120, L, [Y, T, H2, H, RA, RB, ST, NS, I0, I1, I2, BO_16, FI, RG, GU, PU, MA, MN, MS, OT, SC], [r0, r1, r2, r3, w, 256, r6, r7, r8], Lg)) o from ev_f (c := v13 = 0) _ _ 2  zc23 e (fun n => Eq.refl _)
          exact ev_b 2 (zj14 0 (Option.some.inj zh13) ) (fun n => Eq.refl _)
      by_cases zc24 : (H 0 3) ≤ 0
      · have zh9 := itp zh9 zc24
        suffices e : Ev (d + 3, 0, 0, 174, 109, [.val (.ref 768), .val (.int p1), .val (.int p2), .val (.int v1), .val (.int v2), .val (.int v3), .val (.int 0), .val s5, .val s6], [], (126, 120, L, [Y, T, H2, H, RA, RB, ST, NS, I0, I1, I2, BO_7, FI, RG, GU, PU, MA, MN, MS, OT, SC], [r0, r1, r2, r3, w, 256, r6, r7, r8], Lg)) o from ev_t (c := (H 0 3) ≤ 0) _ _ 2  zc24 e (fun n => Eq.refl _)
        exact ev_b 0 (zj10 v2 0 BO_7 (Option.some.inj zh9) s5 s6) (fun n => Eq.refl _)
      · have zh9 := itn zh9 zc24
        suffices e : Ev (d + 3, 0, 0, 174, 37, [.val (.ref 768), .val (.int p1), .val (.int p2), .val (.int v1), .val (.int v2), .val (.int v3), .val (.int 0), .val s5, .val s6], [], (126, 120, L, [Y, T, H2, H, RA, RB, ST, NS, I0, I1, I2, BO_7, FI, RG, GU, PU, MA, MN, MS, OT, SC], [r0, r1, r2, r3, w, 256, r6, r7, r8], Lg)) o from ev_f (c := (H 0 3) ≤ 0) _ _ 2  zc24 e (fun n => Eq.refl _)
        suffices e : Ev (d + 3, 0, 0, 174, 41, [.val (.ref 768), .val (.int p1), .val (.int p2), .val (.int v1), .val (.int v2), .val (.int v3), .val (.int 0), .val s5, .val s6], [.ref 256], (126, 120, L, [Y, T, H2, H, RA, RB, ST, NS, I0, I1, I2, BO_7, FI, RG, GU, PU, MA, MN, MS, OT, SC], [r0, r1, r2, r3, w, 256, r6, r7, r8], Lg)) o from ev_b 2 e (fun n => Eq.refl _)
        by_cases zc25 : (H 0 0) ≤ 0
        · have zh9 := itp zh9 zc25
          suffices e : Ev (d + 3, 0, 0, 174, 109, [.val (.ref 768), .val (.int p1), .val (.int p2), .val (.int v1), .val (.int v2), .val (.int v3), .val (.int 0), .val s5, .val s6], [], (126, 120, L, [Y, T, H2, H, RA, RB, ST, NS, I0, I1, I2, BO_7, FI, RG, GU, PU, MA, MN, MS, OT, SC], [r0, r1, r2, r3, w, 256, r6, r7, r8], Lg)) o from ev_t (c := (H 0 0) ≤ 0) _ _ 2  zc25 e (fun n => Eq.refl _)
          exact ev_b 0 (zj10 v2 0 BO_7 (Option.some.inj zh9) s5 s6) (fun n => Eq.refl _)
        · have zh9 := itn zh9 zc25
          suffices e : Ev (d + 3, 0, 0, 174, 47, [.val (.ref 768), .val (.int p1), .val (.int p2), .val (.int v1), .val (.int v2), .val (.int v3), .val (.int 0), .val s5, .val s6], [], (126, 120, L, [Y, T, H2, H, RA, RB, ST, NS, I0, I1, I2, BO_7, FI, RG, GU, PU, MA, MN, MS, OT, SC], [r0, r1, r2, r3, w, 256, r6, r7, r8], Lg)) o from ev_f (c := (H 0 0) ≤ 0) _ _ 2  zc25 e (fun n => Eq.refl _)
          obtain ⟨x8, zh26, zh9⟩ := bnd zh9
          have zh26 : f_Board_nextSeed v2 = some x8 := zh26
          have ze27 := R_f_Board_nextSeed_1 (d + 2) Y T H2 H RA RB ST NS I0 I1 I2 BO_7 FI RG GU PU MA MN MS OT SC r0 r1 r2 r3 w r6 r7 r8 L Lg v2 zh26
          suffices e : Ev (d + 3, 0, 0, 174, 52, [.val (.ref 768), .val (.int p1), .val (.int p2), .val (.int v1), .val (.int v2), .val (.int v3), .val (.int 0), .val s5, .val s6], [.int x8], (126, 120, L, [Y, T, H2, H, RA, RB, ST, NS, I0, I1, I2, BO_7, FI, RG, GU, PU, MA, MN, MS, OT, SC], [r0, r1, r2, r3, w, 256, r6, r7, r8], Lg)) o from ev_call (fun v μ => (d + 3, 0, 0, 174, 52, [.val (.ref 768), .val (.int p1), .val (.int p2), .val (.int v1), .val (.int v2), .val (.int v3), .val (.int 0), .val s5, .val s6], v.toList ++ [], μ)) 2 ze27 e (fun n => Eq.refl _)
          suffices e : Ev (d + 3, 0, 0, 174, 67, [.val (.ref 768), .val (.int p1), .val (.int p2), .val (.int v1), .val (.int x8), .val (.int v3), .val (.int 0), .val s5, .val s6], [.ref 256, .int ((a_ushr x8 16) &&& 32767)], (126, 120, L, [Y, T, H2, H, RA, RB, ST, NS, I0, I1, I2, BO_7, FI, RG, GU, PU, MA, MN, MS, OT, SC], [r0, r1, r2, r3, w, 256, r6, r7, r8], Lg)) o from ev_b 8 e (fun n => Eq.refl _)
          by_cases zc28 : (H 0 3) = 0
          · exact nos (itp zh9 zc28)
          have zh9 := itn zh9 zc28
          suffices e : Ev (d + 3, 0, 0, 174, 71, [.val (.ref 768), .val (.int p1), .val (.int p2), .val (.int v1), .val (.int x8), .val (.int v3), .val (.int 0), .val s5, .val s6], [.int (a_rem ((a_ushr x8 16) &&& 32767) (H 0 3))], (126, 120, L, [Y, T, H2, H, RA, RB, ST, NS, I0, I1, I2, BO_7, FI, RG, GU, PU, MA, MN, MS, OT, SC], [r0, r1, r2, r3, w, 256, r6, r7, r8], Lg)) o from ev_d (c := (H 0 3) = 0) _ 2 zc28 e (fun n => Eq.refl _)
          obtain ⟨x9, zh29, zh9⟩ := bnd zh9
          have zh29 : f_Board_nextSeed x8 = some x9 := zh29
          have ze30 := R_f_Board_nextSeed_1 (d + 2) Y T H2 H RA RB ST NS I0 I1 I2 BO_7 FI RG GU PU MA MN MS OT SC r0 r1 r2 r3 w r6 r7 r8 L Lg x8 zh29
          suffices e : Ev (d + 3, 0, 0, 174, 78, [.val (.ref 768), .val (.int p1), .val (.int p2), .val (.int v1), .val (.int x8), .val (.int v3), .val (.int 0), .val (.int (a_rem ((a_ushr x8 16) &&& 32767) (H 0 3))), .val s6], [.int x9], (126, 120, L, [Y, T, H2, H, RA, RB, ST, NS, I0, I1, I2, BO_7, FI, RG, GU, PU, MA, MN, MS, OT, SC], [r0, r1, r2, r3, w, 256, r6, r7, r8], Lg)) o from ev_call (fun v μ => (d + 3, 0, 0, 174, 78, [.val (.ref 768), .val (.int p1), .val (.int p2), .val (.int v1), .val (.int x8), .val (.int v3), .val (.int 0), .val (.int (a_rem ((a_ushr x8 16) &&& 32767) (H 0 3))), .val s6], v.toList ++ [], μ)) 3 ze30 e (fun n => Eq.refl _)
          suffices e : Ev (d + 3, 0, 0, 174, 93, [.val (.ref 768), .val (.int p1), .val (.int p2), .val (.int v1), .val (.int x9), .val (.int v3), .val (.int 0), .val (.int (a_rem ((a_ushr x8 16) &&& 32767) (H 0 3))), .val s6], [.ref 256, .int ((a_ushr x9 16) &&& 32767)], (126, 120, L, [Y, T, H2, H, RA, RB, ST, NS, I0, I1, I2, BO_7, FI, RG, GU, PU, MA, MN, MS, OT, SC], [r0, r1, r2, r3, w, 256, r6, r7, r8], Lg)) o from ev_b 8 e (fun n => Eq.refl _)
          by_cases zc31 : (H 0 0) = 0
          · exact nos (itp zh9 zc31)
          have zh9 := itn zh9 zc31
          suffices e : Ev (d + 3, 0, 0, 174, 97, [.val (.ref 768), .val (.int p1), .val (.int p2), .val (.int v1), .val (.int x9), .val (.int v3), .val (.int 0), .val (.int (a_rem ((a_ushr x8 16) &&& 32767) (H 0 3))), .val s6], [.int (a_rem ((a_ushr x9 16) &&& 32767) (H 0 0))], (126, 120, L, [Y, T, H2, H, RA, RB, ST, NS, I0, I1, I2, BO_7, FI, RG, GU, PU, MA, MN, MS, OT, SC], [r0, r1, r2, r3, w, 256, r6, r7, r8], Lg)) o from ev_d (c := (H 0 0) = 0) _ 2 zc31 e (fun n => Eq.refl _)
          obtain ⟨⟨x10, BO_11⟩, zh32, zh9⟩ := bnd zh9
          have zh32 : f_Board_movesInto H BO_7 (a_rem ((a_ushr x8 16) &&& 32767) (H 0 3)) (a_rem ((a_ushr x9 16) &&& 32767) (H 0 0)) = some (x10, BO_11) := zh32
          have ze33 := R_f_Board_movesInto_1 (d + 0) Y T H2 H RA RB ST NS I0 I1 I2 BO_7 FI RG GU PU MA MN MS OT SC r0 r1 r2 r3 w r6 r7 r8 L Lg (a_rem ((a_ushr x8 16) &&& 32767) (H 0 3)) (a_rem ((a_ushr x9 16) &&& 32767) (H 0 0)) zh32
          suffices e : Ev (d + 3, 0, 0, 174, 107, [.val (.ref 768), .val (.int p1), .val (.int p2), .val (.int v1), .val (.int x9), .val (.int v3), .val (.int 0), .val (.int (a_rem ((a_ushr x8 16) &&& 32767) (H 0 3))), .val (.int (a_rem ((a_ushr x9 16) &&& 32767) (H 0 0)))], [.int x10], (126, 120, L, [Y, T, H2, H, RA, RB, ST, NS, I0, I1, I2, BO_11, FI, RG, GU, PU, MA, MN, MS, OT, SC], [r0, r1, r2, r3, w, 256, r6, r7, r8], Lg)) o from ev_call (fun v μ => (d + 3, 0, 0, 174, 107, [.val (.ref 768), .val (.int p1), .val (.int p2), .val (.int v1), .val (.int x9), .val (.int v3), .val (.int 0), .val (.int (a_rem ((a_ushr x8 16) &&& 32767) (H 0 3))), .val (.int (a_rem ((a_ushr x9 16) &&& 32767) (H 0 0)))], v.toList ++ [], μ)) 5 ze33 e (fun n => Eq.refl _)
          exact ev_b 1 (zj10 x9 x10 BO_11 (Option.some.inj zh9) (.int (a_rem ((a_ushr x8 16) &&& 32767) (H 0 3))) (.int (a_rem ((a_ushr x9 16) &&& 32767) (H 0 0)))) (fun n => Eq.refl _)
  · skip
    intro s20 s21 s22 s23 s24 s25
    have ze34 := Option.some.inj h
    subst ze34
    exact ev_rete 1 ho (fun n => Eq.refl _)
set_option maxRecDepth 1000000 in
set_option maxHeartbeats 4000000 in
theorem R_f_Y_week_2 (d : Nat) (Y T H2 H RU RV ST NS I0 I1 I2 BO FI RG GU PU MA MN MS OT SC : Nat → Nat → Int32) (w r5 : Nat) (L : Nat) (Lg : Int64) (p1 : Int32) (p2 : Int32) (p3 : Int32) {r : Nat × Int32 × (Nat → Nat → Int32) × (Nat → Nat → Int32) × Nat} (h : f_Y_week Y H NS BO 256 r5 p1 p2 p3 = some r) : Ev (d + 4, 1, 8, 326, 0, [.val (.ref 64), .val (.int p1), .val (.int p2), .val (.int p3), .val a_unk], [], (126, 120, L, [Y, T, H2, H, RU, RV, ST, NS, I0, I1, I2, BO, FI, RG, GU, PU, MA, MN, MS, OT, SC], [256, 192, 320, 384, w, r5, 576, 640, 704], Lg)) ((r.1, a_ov r.1 (.int r.2.1), (126, 120, L, [r.2.2.1, T, H2, H, RU, RV, ST, NS, I0, I1, I2, r.2.2.2.1, FI, RG, GU, PU, MA, MN, MS, OT, SC], [256, 192, 320, 384, w, r.2.2.2.2, 576, 640, 704], Lg)) : AOut) := by
  suffices key : ∀ o : AOut, ((r.1, a_ov r.1 (.int r.2.1), (126, 120, L, [r.2.2.1, T, H2, H, RU, RV, ST, NS, I0, I1, I2, r.2.2.2.1, FI, RG, GU, PU, MA, MN, MS, OT, SC], [256, 192, 320, 384, w, r.2.2.2.2, 576, 640, 704], Lg)) : AOut) = o → Ev (d + 4, 1, 8, 326, 0, [.val (.ref 64), .val (.int p1), .val (.int p2), .val (.int p3), .val a_unk], [], (126, 120, L, [Y, T, H2, H, RU, RV, ST, NS, I0, I1, I2, BO, FI, RG, GU, PU, MA, MN, MS, OT, SC], [256, 192, 320, 384, w, r5, 576, 640, 704], Lg)) o from key _ rfl
  intro o ho
  obtain ⟨zt1, zh2, h⟩ := bnd h
  have zj3 : ∀ (v1 : Int32), v1 = zt1 → Ev (d + 4, 1, 8, 326, 26, [.val (.ref 64), .val (.int p1), .val (.int p2), .val (.int p3), .val a_unk], [.int v1, .ref 64], (126, 120, L, [Y, T, H2, H, RU, RV, ST, NS, I0, I1, I2, BO, FI, RG, GU, PU, MA, MN, MS, OT, SC], [256, 192, 320, 384, w, r5, 576, 640, 704], Lg)) o := by
    intro v1 ze4
    subst ze4
    obtain ⟨⟨q2, Y_3⟩, zh5, h⟩ := bnd h
    have zh5 : f_Y_refuseUnless Y v1 = some (q2, Y_3) := zh5
    have ze6 := R_f_Y_refuseUnless_2 (d + 3) Y T H2 H RU RV ST NS I0 I1 I2 BO FI RG GU PU MA MN MS OT SC w r5 L Lg v1 zh5
    cases q2 with
    | zero =>
      have h := itp h rfl
      suffices e : Ev (d + 4, 0, 0, 326, 29, [.val (.ref 64), .val (.int p1), .val (.int p2), .val (.int p3), .val a_unk], [], (126, 120, L, [Y_3, T, H2, H, RU, RV, ST, NS, I0, I1, I2, BO, FI, RG, GU, PU, MA, MN, MS, OT, SC], [256, 192, 320, 384, w, r5, 576, 640, 704], Lg)) o from ev_call (fun v μ => (d + 4, 0, 0, 326, 29, [.val (.ref 64), .val (.int p1), .val (.int p2), .val (.int p3), .val a_unk], v.toList ++ [], μ)) 1 ze6 e (fun n => Eq.refl _)
      obtain ⟨BO_5, zh7, h⟩ := bnd h
      have zh7 : f_Y_lookNow H NS BO = some BO_5 := zh7
      have ze8 := R_f_Y_lookNow_2 (d + 1) Y_3 T H2 H RU RV ST NS I0 I1 I2 BO FI RG GU PU MA MN MS OT SC w r5 L Lg zh7
      suffices e : Ev (d + 4, 0, 0, 326, 33, [.val (.ref 64), .val (.int p1), .val (.int p2), .val (.int p3), .val a_unk], [.ref 768], (126, 120, L, [Y_3, T, H2, H, RU, RV, ST, NS, I0, I1, I2, BO_5, FI, RG, GU, PU, MA, MN, MS, OT, SC], [256, 192, 320, 384, w, 256, 576, 640, 704], Lg)) o from ev_call (fun v μ => (d + 4, 0, 0, 326, 33, [.val (.ref 64), .val (.int p1), .val (.int p2), .val (.int p3), .val a_unk], v.toList ++ [], μ)) 2 ze8 e (fun n => Eq.refl _)
      obtain ⟨BO_6, zh9, h⟩ := bnd h
      have zh9 : f_Board_runWeek H BO_5 p1 p2 = some BO_6 := zh9
      have ze10 := R_f_Board_runWeek_1 (d + 0) Y_3 T H2 H RU RV ST NS I0 I1 I2 BO_5 FI RG GU PU MA MN MS OT SC 256 192 320 384 w 576 640 704 L Lg p1 p2 zh9
      suffices e : Ev (d + 4, 0, 0, 326, 42, [.val (.ref 64), .val (.int p1), .val (.int p2), .val (.int p3), .val (.ref 768)], [], (126, 120, L, [Y_3, T, H2, H, RU, RV, ST, NS, I0, I1, I2, BO_6, FI, RG, GU, PU, MA, MN, MS, OT, SC], [256, 192, 320, 384, w, 256, 576, 640, 704], Lg)) o from ev_call (fun v μ => (d + 4, 0, 0, 326, 42, [.val (.ref 64), .val (.int p1), .val (.int p2), .val (.int p3), .val (.ref 768)], v.toList ++ [], μ)) 5 ze10 e (fun n => Eq.refl _)
      by_cases zc11 : p3 = 0
      · have h := itp h zc11
        suffices e : Ev (d + 4, 0, 0, 326, 68, [.val (.ref 64), .val (.int p1), .val (.int p2), .val (.int p3), .val (.ref 768)], [], (126, 120, L, [Y_3, T, H2, H, RU, RV, ST, NS, I0, I1, I2, BO_6, FI, RG, GU, PU, MA, MN, MS, OT, SC], [256, 192, 320, 384, w, 256, 576, 640, 704], Lg)) o from ev_sw [((0 : Int32), 68), ((1 : Int32), 74)] p3 (fun tt => (d + 4, 0, 0, 326, tt, [.val (.ref 64), .val (.int p1), .val (.int p2), .val (.int p3), .val (.ref 768)], [], (126, 120, L, [Y_3, T, H2, H, RU, RV, ST, NS, I0, I1, I2, BO_6, FI, RG, GU, PU, MA, MN, MS, OT, SC], [256, 192, 320, 384, w, 256, 576, 640, 704], Lg))) 80 68 2 (fun f => by simp only [a_sw, if_pos zc11]) e (fun n => Eq.refl _)
        have ze12 := Option.some.inj h
        subst ze12
        exact ev_rete 3 ho (fun n => Eq.refl _)
      have h := itn h zc11
      by_cases zc13 : p3 = 1
      · have h := itp h zc13
        suffices e : Ev (d + 4, 0, 0, 326, 74, [.val (.ref 64), .val (.int p1), .val (.int p2), .val (.int p3), .val (.ref 768)], [], (126, 120, L, [Y_3, T, H2, H, RU, RV, ST, NS, I0, I1, I2, BO_6, FI, RG, GU, PU, MA, MN, MS, OT, SC], [256, 192, 320, 384, w, 256, 576, 640, 704], Lg)) o from ev_sw [((0 : Int32), 68), ((1 : Int32), 74)] p3 (fun tt => (d + 4, 0, 0, 326, tt, [.val (.ref 64), .val (.int p1), .val (.int p2), .val (.int p3), .val (.ref 768)], [], (126, 120, L, [Y_3, T, H2, H, RU, RV, ST, NS, I0, I1, I2, BO_6, FI, RG, GU, PU, MA, MN, MS, OT, SC], [256, 192, 320, 384, w, 256, 576, 640, 704], Lg))) 80 74 2 (fun f => by simp only [a_sw, if_neg zc11, if_pos zc13]) e (fun n => Eq.refl _)
        have ze14 := Option.some.inj h
        subst ze14
        exact ev_rete 3 ho (fun n => Eq.refl _)
      have h := itn h zc13
      suffices e : Ev (d + 4, 0, 0, 326, 80, [.val (.ref 64), .val (.int p1), .val (.int p2), .val (.int p3), .val (.ref 768)], [], (126, 120, L, [Y_3, T, H2, H, RU, RV, ST, NS, I0, I1, I2, BO_6, FI, RG, GU, PU, MA, MN, MS, OT, SC], [256, 192, 320, 384, w, 256, 576, 640, 704], Lg)) o from ev_sw [((0 : Int32), 68), ((1 : Int32), 74)] p3 (fun tt => (d + 4, 0, 0, 326, tt, [.val (.ref 64), .val (.int p1), .val (.int p2), .val (.int p3), .val (.ref 768)], [], (126, 120, L, [Y_3, T, H2, H, RU, RV, ST, NS, I0, I1, I2, BO_6, FI, RG, GU, PU, MA, MN, MS, OT, SC], [256, 192, 320, 384, w, 256, 576, 640, 704], Lg))) 80 80 2 (fun f => by simp only [a_sw, if_neg zc11, if_neg zc13]) e (fun n => Eq.refl _)
      obtain ⟨x7, zh15, h⟩ := bnd h
      have zh15 : f_Board_mostBorne H BO_6 = some x7 := zh15
      have ze16 := R_f_Board_mostBorne_1 (d + 1) Y_3 T H2 H RU RV ST NS I0 I1 I2 BO_6 FI RG GU PU MA MN MS OT SC 256 192 320 384 w 576 640 704 L Lg zh15
      suffices e : Ev (d + 4, 0, 0, 326, 85, [.val (.ref 64), .val (.int p1), .val (.int p2), .val (.int p3), .val (.ref 768)], [.int x7], (126, 120, L, [Y_3, T, H2, H, RU, RV, ST, NS, I0, I1, I2, BO_6, FI, RG, GU, PU, MA, MN, MS, OT, SC], [256, 192, 320, 384, w, 256, 576, 640, 704], Lg)) o from ev_call (fun v μ => (d + 4, 0, 0, 326, 85, [.val (.ref 64), .val (.int p1), .val (.int p2), .val (.int p3), .val (.ref 768)], v.toList ++ [], μ)) 2 ze16 e (fun n => Eq.refl _)
      have ze17 := Option.some.inj h
      subst ze17
      exact ev_rete 1 ho (fun n => Eq.refl _)
    | succ q2 =>
      have h := itn h (Nat.succ_ne_zero q2)
      have ze18 := Option.some.inj h
      subst ze18
      subst ho
      exact ev_thr (fun v μ => (d + 4, 0, 0, 326, 29, [.val (.ref 64), .val (.int p1), .val (.int p2), .val (.int p3), .val a_unk], v.toList ++ [], μ)) 1 ze6 (fun n => Eq.refl _) (fun n => rfl)
  obtain ⟨zt19, zh20, zh2⟩ := bnd zh2
  have zj21 : zt19 = .inl () → Ev (d + 4, 1, 8, 326, 25, [.val (.ref 64), .val (.int p1), .val (.int p2), .val (.int p3), .val a_unk], [.ref 64], (126, 120, L, [Y, T, H2, H, RU, RV, ST, NS, I0, I1, I2, BO, FI, RG, GU, PU, MA, MN, MS, OT, SC], [256, 192, 320, 384, w, r5, 576, 640, 704], Lg)) o := by
    intro ze22
    have zh2 := sum_l zh2 ze22
    exact ev_b 1 (zj3 0 (Option.some.inj zh2) ) (fun n => Eq.refl _)
  by_cases zc23 : p2 < 1
  · have zh20 := itp zh20 zc23
    suffices e : Ev (d + 4, 1, 8, 326, 25, [.val (.ref 64), .val (.int p1), .val (.int p2), .val (.int p3), .val a_unk], [.ref 64], (126, 120, L, [Y, T, H2, H, RU, RV, ST, NS, I0, I1, I2, BO, FI, RG, GU, PU, MA, MN, MS, OT, SC], [256, 192, 320, 384, w, r5, 576, 640, 704], Lg)) o from ev_t (c := p2 < 1) _ _ 4  zc23 e (fun n => Eq.refl _)
    exact ev_b 0 (zj21  (Option.some.inj zh20).symm ) (fun n => Eq.refl _)
  · have zh20 := itn zh20 zc23
    suffices e : Ev (d + 4, 1, 8, 326, 6, [.val (.ref 64), .val (.int p1), .val (.int p2), .val (.int p3), .val a_unk], [.ref 64], (126, 120, L, [Y, T, H2, H, RU, RV, ST, NS, I0, I1, I2, BO, FI, RG, GU, PU, MA, MN, MS, OT, SC], [256, 192, 320, 384, w, r5, 576, 640, 704], Lg)) o from ev_f (c := p2 < 1) _ _ 4  zc23 e (fun n => Eq.refl _)
    by_cases zc24 : 60 < p2
    · have zh20 := itp zh20 zc24
      suffices e : Ev (d + 4, 1, 8, 326, 25, [.val (.ref 64), .val (.int p1), .val (.int p2), .val (.int p3), .val a_unk], [.ref 64], (126, 120, L, [Y, T, H2, H, RU, RV, ST, NS, I0, I1, I2, BO, FI, RG, GU, PU, MA, MN, MS, OT, SC], [256, 192, 320, 384, w, r5, 576, 640, 704], Lg)) o from ev_t (c := 60 < p2) _ _ 3  zc24 e (fun n => Eq.refl _)
      exact ev_b 0 (zj21  (Option.some.inj zh20).symm ) (fun n => Eq.refl _)
    · have zh20 := itn zh20 zc24
      suffices e : Ev (d + 4, 1, 8, 326, 12, [.val (.ref 64), .val (.int p1), .val (.int p2), .val (.int p3), .val a_unk], [.ref 64], (126, 120, L, [Y, T, H2, H, RU, RV, ST, NS, I0, I1, I2, BO, FI, RG, GU, PU, MA, MN, MS, OT, SC], [256, 192, 320, 384, w, r5, 576, 640, 704], Lg)) o from ev_f (c := 60 < p2) _ _ 3  zc24 e (fun n => Eq.refl _)
      by_cases zc25 : p3 < 0
      · have zh20 := itp zh20 zc25
        suffices e : Ev (d + 4, 1, 8, 326, 25, [.val (.ref 64), .val (.int p1), .val (.int p2), .val (.int p3), .val a_unk], [.ref 64], (126, 120, L, [Y, T, H2, H, RU, RV, ST, NS, I0, I1, I2, BO, FI, RG, GU, PU, MA, MN, MS, OT, SC], [256, 192, 320, 384, w, r5, 576, 640, 704], Lg)) o from ev_t (c := p3 < 0) _ _ 2  zc25 e (fun n => Eq.refl _)
        exact ev_b 0 (zj21  (Option.some.inj zh20).symm ) (fun n => Eq.refl _)
      · have zh20 := itn zh20 zc25
        suffices e : Ev (d + 4, 1, 8, 326, 16, [.val (.ref 64), .val (.int p1), .val (.int p2), .val (.int p3), .val a_unk], [.ref 64], (126, 120, L, [Y, T, H2, H, RU, RV, ST, NS, I0, I1, I2, BO, FI, RG, GU, PU, MA, MN, MS, OT, SC], [256, 192, 320, 384, w, r5, 576, 640, 704], Lg)) o from ev_f (c := p3 < 0) _ _ 2  zc25 e (fun n => Eq.refl _)
        by_cases zc26 : 2 < p3
        · have zh20 := itp zh20 zc26
          suffices e : Ev (d + 4, 1, 8, 326, 25, [.val (.ref 64), .val (.int p1), .val (.int p2), .val (.int p3), .val a_unk], [.ref 64], (126, 120, L, [Y, T, H2, H, RU, RV, ST, NS, I0, I1, I2, BO, FI, RG, GU, PU, MA, MN, MS, OT, SC], [256, 192, 320, 384, w, r5, 576, 640, 704], Lg)) o from ev_t (c := 2 < p3) _ _ 3  zc26 e (fun n => Eq.refl _)
          exact ev_b 0 (zj21  (Option.some.inj zh20).symm ) (fun n => Eq.refl _)
        · have zh20 := itn zh20 zc26
          suffices e : Ev (d + 4, 1, 8, 326, 21, [.val (.ref 64), .val (.int p1), .val (.int p2), .val (.int p3), .val a_unk], [.ref 64], (126, 120, L, [Y, T, H2, H, RU, RV, ST, NS, I0, I1, I2, BO, FI, RG, GU, PU, MA, MN, MS, OT, SC], [256, 192, 320, 384, w, r5, 576, 640, 704], Lg)) o from ev_f (c := 2 < p3) _ _ 3  zc26 e (fun n => Eq.refl _)
          have zh27 := sum_r zh2 (Option.some.inj zh20).symm
          exact ev_b 2 (zj3 1 (Option.some.inj zh27) ) (fun n => Eq.refl _)
set_option maxRecDepth 1000000 in
set_option maxHeartbeats 4000000 in
theorem R_f_Y_week_3 (d : Nat) (Y T H2 H RV RU ST NS I0 I1 I2 BO FI RG GU PU MA MN MS OT SC : Nat → Nat → Int32) (w r5 : Nat) (L : Nat) (Lg : Int64) (p1 : Int32) (p2 : Int32) (p3 : Int32) {r : Nat × Int32 × (Nat → Nat → Int32) × (Nat → Nat → Int32) × Nat} (h : f_Y_week Y H NS BO 256 r5 p1 p2 p3 = some r) : Ev (d + 4, 1, 8, 326, 0, [.val (.ref 64), .val (.int p1), .val (.int p2), .val (.int p3), .val a_unk], [], (126, 120, L, [Y, T, H2, H, RV, RU, ST, NS, I0, I1, I2, BO, FI, RG, GU, PU, MA, MN, MS, OT, SC], [256, 192, 384, 320, w, r5, 576, 640, 704], Lg)) ((r.1, a_ov r.1 (.int r.2.1), (126, 120, L, [r.2.2.1, T, H2, H, RV, RU, ST, NS, I0, I1, I2, r.2.2.2.1, FI, RG, GU, PU, MA, MN, MS, OT, SC], [256, 192, 384, 320, w, r.2.2.2.2, 576, 640, 704], Lg)) : AOut) := by
  suffices key : ∀ o : AOut, ((r.1, a_ov r.1 (.int r.2.1), (126, 120, L, [r.2.2.1, T, H2, H, RV, RU, ST, NS, I0, I1, I2, r.2.2.2.1, FI, RG, GU, PU, MA, MN, MS, OT, SC], [256, 192, 384, 320, w, r.2.2.2.2, 576, 640, 704], Lg)) : AOut) = o → Ev (d + 4, 1, 8, 326, 0, [.val (.ref 64), .val (.int p1), .val (.int p2), .val (.int p3), .val a_unk], [], (126, 120, L, [Y, T, H2, H, RV, RU, ST, NS, I0, I1, I2, BO, FI, RG, GU, PU, MA, MN, MS, OT, SC], [256, 192, 384, 320, w, r5, 576, 640, 704], Lg)) o from key _ rfl
  intro o ho
  obtain ⟨zt1, zh2, h⟩ := bnd h
  have zj3 : ∀ (v1 : Int32), v1 = zt1 → Ev (d + 4, 1, 8, 326, 26, [.val (.ref 64), .val (.int p1), .val (.int p2), .val (.int p3), .val a_unk], [.int v1, .ref 64], (126, 120, L, [Y, T, H2, H, RV, RU, ST, NS, I0, I1, I2, BO, FI, RG, GU, PU, MA, MN, MS, OT, SC], [256, 192, 384, 320, w, r5, 576, 640, 704], Lg)) o := by
    intro v1 ze4
    subst ze4
    obtain ⟨⟨q2, Y_3⟩, zh5, h⟩ := bnd h
    have zh5 : f_Y_refuseUnless Y v1 = some (q2, Y_3) := zh5
    have ze6 := R_f_Y_refuseUnless_3 (d + 3) Y T H2 H RV RU ST NS I0 I1 I2 BO FI RG GU PU MA MN MS OT SC w r5 L Lg v1 zh5
    cases q2 with
    | zero =>
      have h := itp h rfl
      suffices e : Ev (d + 4, 0, 0, 326, 29, [.val (.ref 64), .val (.int p1), .val (.int p2), .val (.int p3), .val a_unk], [], (126, 120, L, [Y_3, T, H2, H, RV, RU, ST, NS, I0, I1, I2, BO, FI, RG, GU, PU, MA, MN, MS, OT, SC], [256, 192, 384, 320, w, r5, 576, 640, 704], Lg)) o from ev_call (fun v μ => (d + 4, 0, 0, 326, 29, [.val (.ref 64), .val (.int p1), .val (.int p2), .val (.int p3), .val a_unk], v.toList ++ [], μ)) 1 ze6 e (fun n => Eq.refl _)
      obtain ⟨BO_5, zh7, h⟩ := bnd h
      have zh7 : f_Y_lookNow H NS BO = some BO_5 := zh7
      have ze8 := R_f_Y_lookNow_3 (d + 1) Y_3 T H2 H RV RU ST NS I0 I1 I2 BO FI RG GU PU MA MN MS OT SC w r5 L Lg zh7
      suffices e : Ev (d + 4, 0, 0, 326, 33, [.val (.ref 64), .val (.int p1), .val (.int p2), .val (.int p3), .val a_unk], [.ref 768], (126, 120, L, [Y_3, T, H2, H, RV, RU, ST, NS, I0, I1, I2, BO_5, FI, RG, GU, PU, MA, MN, MS, OT, SC], [256, 192, 384, 320, w, 256, 576, 640, 704], Lg)) o from ev_call (fun v μ => (d + 4, 0, 0, 326, 33, [.val (.ref 64), .val (.int p1), .val (.int p2), .val (.int p3), .val a_unk], v.toList ++ [], μ)) 2 ze8 e (fun n => Eq.refl _)
      obtain ⟨BO_6, zh9, h⟩ := bnd h
      have zh9 : f_Board_runWeek H BO_5 p1 p2 = some BO_6 := zh9
      have ze10 := R_f_Board_runWeek_1 (d + 0) Y_3 T H2 H RV RU ST NS I0 I1 I2 BO_5 FI RG GU PU MA MN MS OT SC 256 192 384 320 w 576 640 704 L Lg p1 p2 zh9
      suffices e : Ev (d + 4, 0, 0, 326, 42, [.val (.ref 64), .val (.int p1), .val (.int p2), .val (.int p3), .val (.ref 768)], [], (126, 120, L, [Y_3, T, H2, H, RV, RU, ST, NS, I0, I1, I2, BO_6, FI, RG, GU, PU, MA, MN, MS, OT, SC], [256, 192, 384, 320, w, 256, 576, 640, 704], Lg)) o from ev_call (fun v μ => (d + 4, 0, 0, 326, 42, [.val (.ref 64), .val (.int p1), .val (.int p2), .val (.int p3), .val (.ref 768)], v.toList ++ [], μ)) 5 ze10 e (fun n => Eq.refl _)
      by_cases zc11 : p3 = 0
      · have h := itp h zc11
        suffices e : Ev (d + 4, 0, 0, 326, 68, [.val (.ref 64), .val (.int p1), .val (.int p2), .val (.int p3), .val (.ref 768)], [], (126, 120, L, [Y_3, T, H2, H, RV, RU, ST, NS, I0, I1, I2, BO_6, FI, RG, GU, PU, MA, MN, MS, OT, SC], [256, 192, 384, 320, w, 256, 576, 640, 704], Lg)) o from ev_sw [((0 : Int32), 68), ((1 : Int32), 74)] p3 (fun tt => (d + 4, 0, 0, 326, tt, [.val (.ref 64), .val (.int p1), .val (.int p2), .val (.int p3), .val (.ref 768)], [], (126, 120, L, [Y_3, T, H2, H, RV, RU, ST, NS, I0, I1, I2, BO_6, FI, RG, GU, PU, MA, MN, MS, OT, SC], [256, 192, 384, 320, w, 256, 576, 640, 704], Lg))) 80 68 2 (fun f => by simp only [a_sw, if_pos zc11]) e (fun n => Eq.refl _)
        have ze12 := Option.some.inj h
        subst ze12
        exact ev_rete 3 ho (fun n => Eq.refl _)
      have h := itn h zc11
      by_cases zc13 : p3 = 1
      · have h := itp h zc13
        suffices e : Ev (d + 4, 0, 0, 326, 74, [.val (.ref 64), .val (.int p1), .val (.int p2), .val (.int p3), .val (.ref 768)], [], (126, 120, L, [Y_3, T, H2, H, RV, RU, ST, NS, I0, I1, I2, BO_6, FI, RG, GU, PU, MA, MN, MS, OT, SC], [256, 192, 384, 320, w, 256, 576, 640, 704], Lg)) o from ev_sw [((0 : Int32), 68), ((1 : Int32), 74)] p3 (fun tt => (d + 4, 0, 0, 326, tt, [.val (.ref 64), .val (.int p1), .val (.int p2), .val (.int p3), .val (.ref 768)], [], (126, 120, L, [Y_3, T, H2, H, RV, RU, ST, NS, I0, I1, I2, BO_6, FI, RG, GU, PU, MA, MN, MS, OT, SC], [256, 192, 384, 320, w, 256, 576, 640, 704], Lg))) 80 74 2 (fun f => by simp only [a_sw, if_neg zc11, if_pos zc13]) e (fun n => Eq.refl _)
        have ze14 := Option.some.inj h
        subst ze14
        exact ev_rete 3 ho (fun n => Eq.refl _)
      have h := itn h zc13
      suffices e : Ev (d + 4, 0, 0, 326, 80, [.val (.ref 64), .val (.int p1), .val (.int p2), .val (.int p3), .val (.ref 768)], [], (126, 120, L, [Y_3, T, H2, H, RV, RU, ST, NS, I0, I1, I2, BO_6, FI, RG, GU, PU, MA, MN, MS, OT, SC], [256, 192, 384, 320, w, 256, 576, 640, 704], Lg)) o from ev_sw [((0 : Int32), 68), ((1 : Int32), 74)] p3 (fun tt => (d + 4, 0, 0, 326, tt, [.val (.ref 64), .val (.int p1), .val (.int p2), .val (.int p3), .val (.ref 768)], [], (126, 120, L, [Y_3, T, H2, H, RV, RU, ST, NS, I0, I1, I2, BO_6, FI, RG, GU, PU, MA, MN, MS, OT, SC], [256, 192, 384, 320, w, 256, 576, 640, 704], Lg))) 80 80 2 (fun f => by simp only [a_sw, if_neg zc11, if_neg zc13]) e (fun n => Eq.refl _)
      obtain ⟨x7, zh15, h⟩ := bnd h
      have zh15 : f_Board_mostBorne H BO_6 = some x7 := zh15
      have ze16 := R_f_Board_mostBorne_1 (d + 1) Y_3 T H2 H RV RU ST NS I0 I1 I2 BO_6 FI RG GU PU MA MN MS OT SC 256 192 384 320 w 576 640 704 L Lg zh15
      suffices e : Ev (d + 4, 0, 0, 326, 85, [.val (.ref 64), .val (.int p1), .val (.int p2), .val (.int p3), .val (.ref 768)], [.int x7], (126, 120, L, [Y_3, T, H2, H, RV, RU, ST, NS, I0, I1, I2, BO_6, FI, RG, GU, PU, MA, MN, MS, OT, SC], [256, 192, 384, 320, w, 256, 576, 640, 704], Lg)) o from ev_call (fun v μ => (d + 4, 0, 0, 326, 85, [.val (.ref 64), .val (.int p1), .val (.int p2), .val (.int p3), .val (.ref 768)], v.toList ++ [], μ)) 2 ze16 e (fun n => Eq.refl _)
      have ze17 := Option.some.inj h
      subst ze17
      exact ev_rete 1 ho (fun n => Eq.refl _)
    | succ q2 =>
      have h := itn h (Nat.succ_ne_zero q2)
      have ze18 := Option.some.inj h
      subst ze18
      subst ho
      exact ev_thr (fun v μ => (d + 4, 0, 0, 326, 29, [.val (.ref 64), .val (.int p1), .val (.int p2), .val (.int p3), .val a_unk], v.toList ++ [], μ)) 1 ze6 (fun n => Eq.refl _) (fun n => rfl)
  obtain ⟨zt19, zh20, zh2⟩ := bnd zh2
  have zj21 : zt19 = .inl () → Ev (d + 4, 1, 8, 326, 25, [.val (.ref 64), .val (.int p1), .val (.int p2), .val (.int p3), .val a_unk], [.ref 64], (126, 120, L, [Y, T, H2, H, RV, RU, ST, NS, I0, I1, I2, BO, FI, RG, GU, PU, MA, MN, MS, OT, SC], [256, 192, 384, 320, w, r5, 576, 640, 704], Lg)) o := by
    intro ze22
    have zh2 := sum_l zh2 ze22
    exact ev_b 1 (zj3 0 (Option.some.inj zh2) ) (fun n => Eq.refl _)
  by_cases zc23 : p2 < 1
  · have zh20 := itp zh20 zc23
    suffices e : Ev (d + 4, 1, 8, 326, 25, [.val (.ref 64), .val (.int p1), .val (.int p2), .val (.int p3), .val a_unk], [.ref 64], (126, 120, L, [Y, T, H2, H, RV, RU, ST, NS, I0, I1, I2, BO, FI, RG, GU, PU, MA, MN, MS, OT, SC], [256, 192, 384, 320, w, r5, 576, 640, 704], Lg)) o from ev_t (c := p2 < 1) _ _ 4  zc23 e (fun n => Eq.refl _)
    exact ev_b 0 (zj21  (Option.some.inj zh20).symm ) (fun n => Eq.refl _)
  · have zh20 := itn zh20 zc23
    suffices e : Ev (d + 4, 1, 8, 326, 6, [.val (.ref 64), .val (.int p1), .val (.int p2), .val (.int p3), .val a_unk], [.ref 64], (126, 120, L, [Y, T, H2, H, RV, RU, ST, NS, I0, I1, I2, BO, FI, RG, GU, PU, MA, MN, MS, OT, SC], [256, 192, 384, 320, w, r5, 576, 640, 704], Lg)) o from ev_f (c := p2 < 1) _ _ 4  zc23 e (fun n => Eq.refl _)
    by_cases zc24 : 60 < p2
    · have zh20 := itp zh20 zc24
      suffices e : Ev (d + 4, 1, 8, 326, 25, [.val (.ref 64), .val (.int p1), .val (.int p2), .val (.int p3), .val a_unk], [.ref 64], (126, 120, L, [Y, T, H2, H, RV, RU, ST, NS, I0, I1, I2, BO, FI, RG, GU, PU, MA, MN, MS, OT, SC], [256, 192, 384, 320, w, r5, 576, 640, 704], Lg)) o from ev_t (c := 60 < p2) _ _ 3  zc24 e (fun n => Eq.refl _)
      exact ev_b 0 (zj21  (Option.some.inj zh20).symm ) (fun n => Eq.refl _)
    · have zh20 := itn zh20 zc24
      suffices e : Ev (d + 4, 1, 8, 326, 12, [.val (.ref 64), .val (.int p1), .val (.int p2), .val (.int p3), .val a_unk], [.ref 64], (126, 120, L, [Y, T, H2, H, RV, RU, ST, NS, I0, I1, I2, BO, FI, RG, GU, PU, MA, MN, MS, OT, SC], [256, 192, 384, 320, w, r5, 576, 640, 704], Lg)) o from ev_f (c := 60 < p2) _ _ 3  zc24 e (fun n => Eq.refl _)
      by_cases zc25 : p3 < 0
      · have zh20 := itp zh20 zc25
        suffices e : Ev (d + 4, 1, 8, 326, 25, [.val (.ref 64), .val (.int p1), .val (.int p2), .val (.int p3), .val a_unk], [.ref 64], (126, 120, L, [Y, T, H2, H, RV, RU, ST, NS, I0, I1, I2, BO, FI, RG, GU, PU, MA, MN, MS, OT, SC], [256, 192, 384, 320, w, r5, 576, 640, 704], Lg)) o from ev_t (c := p3 < 0) _ _ 2  zc25 e (fun n => Eq.refl _)
        exact ev_b 0 (zj21  (Option.some.inj zh20).symm ) (fun n => Eq.refl _)
      · have zh20 := itn zh20 zc25
        suffices e : Ev (d + 4, 1, 8, 326, 16, [.val (.ref 64), .val (.int p1), .val (.int p2), .val (.int p3), .val a_unk], [.ref 64], (126, 120, L, [Y, T, H2, H, RV, RU, ST, NS, I0, I1, I2, BO, FI, RG, GU, PU, MA, MN, MS, OT, SC], [256, 192, 384, 320, w, r5, 576, 640, 704], Lg)) o from ev_f (c := p3 < 0) _ _ 2  zc25 e (fun n => Eq.refl _)
        by_cases zc26 : 2 < p3
        · have zh20 := itp zh20 zc26
          suffices e : Ev (d + 4, 1, 8, 326, 25, [.val (.ref 64), .val (.int p1), .val (.int p2), .val (.int p3), .val a_unk], [.ref 64], (126, 120, L, [Y, T, H2, H, RV, RU, ST, NS, I0, I1, I2, BO, FI, RG, GU, PU, MA, MN, MS, OT, SC], [256, 192, 384, 320, w, r5, 576, 640, 704], Lg)) o from ev_t (c := 2 < p3) _ _ 3  zc26 e (fun n => Eq.refl _)
          exact ev_b 0 (zj21  (Option.some.inj zh20).symm ) (fun n => Eq.refl _)
        · have zh20 := itn zh20 zc26
          suffices e : Ev (d + 4, 1, 8, 326, 21, [.val (.ref 64), .val (.int p1), .val (.int p2), .val (.int p3), .val a_unk], [.ref 64], (126, 120, L, [Y, T, H2, H, RV, RU, ST, NS, I0, I1, I2, BO, FI, RG, GU, PU, MA, MN, MS, OT, SC], [256, 192, 384, 320, w, r5, 576, 640, 704], Lg)) o from ev_f (c := 2 < p3) _ _ 3  zc26 e (fun n => Eq.refl _)
          have zh27 := sum_r zh2 (Option.some.inj zh20).symm
          exact ev_b 2 (zj3 1 (Option.some.inj zh27) ) (fun n => Eq.refl _)
set_option maxRecDepth 1000000 in
set_option maxHeartbeats 4000000 in
theorem R_f_Y_done_0 (d : Nat) (Y T H H2 RU RV ST NS I0 I1 I2 BO FI RG GU PU MA MN MS OT SC : Nat → Nat → Int32) (w r5 : Nat) (L : Nat) (Lg : Int64) (p1 : Int32) (p2 : Int32) {r : Nat × Int32 × (Nat → Nat → Int32) × (Nat → Nat → Int32) × (Nat → Nat → Int32) × Nat} (h : f_Y_done Y H NS BO 192 r5 p1 p2 = some r) : Ev (d + 4, 1, 8, 327, 0, [.val (.ref 64), .val (.int p1), .val (.int p2), .val a_unk], [], (126, 120, L, [Y, T, H, H2, RU, RV, ST, NS, I0, I1, I2, BO, FI, RG, GU, PU, MA, MN, MS, OT, SC], [192, 256, 320, 384, w, r5, 576, 640, 704], Lg)) ((r.1, a_ov r.1 (.int r.2.1), (126, 120, L, [r.2.2.1, T, H, H2, RU, RV, ST, r.2.2.2.1, I0, I1, I2, r.2.2.2.2.1, FI, RG, GU, PU, MA, MN, MS, OT, SC], [192, 256, 320, 384, w, r.2.2.2.2.2, 576, 640, 704], Lg)) : AOut) := by
  suffices key : ∀ o : AOut, ((r.1, a_ov r.1 (.int r.2.1), (126, 120, L, [r.2.2.1, T, H, H2, RU, RV, ST, r.2.2.2.1, I0, I1, I2, r.2.2.2.2.1, FI, RG, GU, PU, MA, MN, MS, OT, SC], [192, 256, 320, 384, w, r.2.2.2.2.2, 576, 640, 704], Lg)) : AOut) = o → Ev (d + 4, 1, 8, 327, 0, [.val (.ref 64), .val (.int p1), .val (.int p2), .val a_unk], [], (126, 120, L, [Y, T, H, H2, RU, RV, ST, NS, I0, I1, I2, BO, FI, RG, GU, PU, MA, MN, MS, OT, SC], [192, 256, 320, 384, w, r5, 576, 640, 704], Lg)) o from key _ rfl
  intro o ho
  obtain ⟨zt1, zh2, h⟩ := bnd h
  have zj3 : ∀ (v1 : Int32), v1 = zt1 → Ev (d + 4, 1, 8, 327, 17, [.val (.ref 64), .val (.int p1), .val (.int p2), .val a_unk], [.int v1, .ref 64], (126, 120, L, [Y, T, H, H2, RU, RV, ST, NS, I0, I1, I2, BO, FI, RG, GU, PU, MA, MN, MS, OT, SC], [192, 256, 320, 384, w, r5, 576, 640, 704], Lg)) o := by
    intro v1 ze4
    subst ze4
    obtain ⟨⟨q2, Y_3⟩, zh5, h⟩ := bnd h
    have zh5 : f_Y_refuseUnless Y v1 = some (q2, Y_3) := zh5
    have ze6 := R_f_Y_refuseUnless_0 (d + 3) Y T H H2 RU RV ST NS I0 I1 I2 BO FI RG GU PU MA MN MS OT SC w r5 L Lg v1 zh5
    cases q2 with
    | zero =>
      have h := itp h rfl
      suffices e : Ev (d + 4, 0, 0, 327, 20, [.val (.ref 64), .val (.int p1), .val (.int p2), .val a_unk], [], (126, 120, L, [Y_3, T, H, H2, RU, RV, ST, NS, I0, I1, I2, BO, FI, RG, GU, PU, MA, MN, MS, OT, SC], [192, 256, 320, 384, w, r5, 576, 640, 704], Lg)) o from ev_call (fun v μ => (d + 4, 0, 0, 327, 20, [.val (.ref 64), .val (.int p1), .val (.int p2), .val a_unk], v.toList ++ [], μ)) 1 ze6 e (fun n => Eq.refl _)
      obtain ⟨x4, zh7, h⟩ := bnd h
      have zh7 : f_State_isFull NS = some x4 := zh7
      have ze8 := R_f_State_isFull_0 (d + 3) Y_3 T H H2 RU RV ST NS I0 I1 I2 BO FI RG GU PU MA MN MS OT SC 192 256 320 384 w r5 576 640 704 L Lg zh7
      suffices e : Ev (d + 4, 0, 0, 327, 27, [.val (.ref 64), .val (.int p1), .val (.int p2), .val a_unk], [.int x4], (126, 120, L, [Y_3, T, H, H2, RU, RV, ST, NS, I0, I1, I2, BO, FI, RG, GU, PU, MA, MN, MS, OT, SC], [192, 256, 320, 384, w, r5, 576, 640, 704], Lg)) o from ev_call (fun v μ => (d + 4, 0, 0, 327, 27, [.val (.ref 64), .val (.int p1), .val (.int p2), .val a_unk], v.toList ++ [], μ)) 3 ze8 e (fun n => Eq.refl _)
      by_cases zc9 : x4 = 0
      · have h := itp h zc9
        suffices e : Ev (d + 4, 0, 0, 327, 33, [.val (.ref 64), .val (.int p1), .val (.int p2), .val a_unk], [], (126, 120, L, [Y_3, T, H, H2, RU, RV, ST, NS, I0, I1, I2, BO, FI, RG, GU, PU, MA, MN, MS, OT, SC], [192, 256, 320, 384, w, r5, 576, 640, 704], Lg)) o from ev_t (c := x4 = 0) _ _ 1  zc9 e (fun n => Eq.refl _)
        obtain ⟨BO_6, zh10, h⟩ := bnd h
        have zh10 : f_Y_lookNow H NS BO = some BO_6 := zh10
        have ze11 := R_f_Y_lookNow_0 (d + 1) Y_3 T H H2 RU RV ST NS I0 I1 I2 BO FI RG GU PU MA MN MS OT SC w r5 L Lg zh10
        suffices e : Ev (d + 4, 0, 0, 327, 37, [.val (.ref 64), .val (.int p1), .val (.int p2), .val a_unk], [.ref 768], (126, 120, L, [Y_3, T, H, H2, RU, RV, ST, NS, I0, I1, I2, BO_6, FI, RG, GU, PU, MA, MN, MS, OT, SC], [192, 256, 320, 384, w, 192, 576, 640, 704], Lg)) o from ev_call (fun v μ => (d + 4, 0, 0, 327, 37, [.val (.ref 64), .val (.int p1), .val (.int p2), .val a_unk], v.toList ++ [], μ)) 2 ze11 e (fun n => Eq.refl _)
        obtain ⟨BO_7, zh12, h⟩ := bnd h
        have zh12 : f_Board_runWeek H BO_6 p1 p2 = some BO_7 := zh12
        have ze13 := R_f_Board_runWeek_0 (d + 0) Y_3 T H H2 RU RV ST NS I0 I1 I2 BO_6 FI RG GU PU MA MN MS OT SC 192 256 320 384 w 576 640 704 L Lg p1 p2 zh12
        suffices e : Ev (d + 4, 0, 0, 327, 44, [.val (.ref 64), .val (.int p1), .val (.int p2), .val (.ref 768)], [], (126, 120, L, [Y_3, T, H, H2, RU, RV, ST, NS, I0, I1, I2, BO_7, FI, RG, GU, PU, MA, MN, MS, OT, SC], [192, 256, 320, 384, w, 192, 576, 640, 704], Lg)) o from ev_call (fun v μ => (d + 4, 0, 0, 327, 44, [.val (.ref 64), .val (.int p1), .val (.int p2), .val (.ref 768)], v.toList ++ [], μ)) 5 ze13 e (fun n => Eq.refl _)
        obtain ⟨NS_8, zh14, h⟩ := bnd h
        have zh14 : f_State_act NS BO_7 = some NS_8 := zh14
        have ze15 := R_f_State_act_0 (d + 2) Y_3 T H H2 RU RV ST NS I0 I1 I2 BO_7 FI RG GU PU MA MN MS OT SC 192 256 320 384 w 192 576 640 704 L Lg zh14
        suffices e : Ev (d + 4, 0, 0, 327, 52, [.val (.ref 64), .val (.int p1), .val (.int p2), .val (.ref 768)], [], (126, 120, L, [Y_3, T, H, H2, RU, RV, ST, NS_8, I0, I1, I2, BO_7, FI, RG, GU, PU, MA, MN, MS, OT, SC], [192, 256, 320, 384, w, 192, 576, 640, 704], Lg)) o from ev_call (fun v μ => (d + 4, 0, 0, 327, 52, [.val (.ref 64), .val (.int p1), .val (.int p2), .val (.ref 768)], v.toList ++ [], μ)) 4 ze15 e (fun n => Eq.refl _)
        have ze16 := Option.some.inj h
        subst ze16
        exact ev_rete 3 ho (fun n => Eq.refl _)
      · have h := itn h zc9
        suffices e : Ev (d + 4, 0, 0, 327, 30, [.val (.ref 64), .val (.int p1), .val (.int p2), .val a_unk], [], (126, 120, L, [Y_3, T, H, H2, RU, RV, ST, NS, I0, I1, I2, BO, FI, RG, GU, PU, MA, MN, MS, OT, SC], [192, 256, 320, 384, w, r5, 576, 640, 704], Lg)) o from ev_f (c := x4 = 0) _ _ 1  zc9 e (fun n => Eq.refl _)
        have ze17 := Option.some.inj h
        subst ze17
        exact ev_rete 2 ho (fun n => Eq.refl _)
    | succ q2 =>
      have h := itn h (Nat.succ_ne_zero q2)
      have ze18 := Option.some.inj h
      subst ze18
      subst ho
      exact ev_thr (fun v μ => (d + 4, 0, 0, 327, 20, [.val (.ref 64), .val (.int p1), .val (.int p2), .val a_unk], v.toList ++ [], μ)) 1 ze6 (fun n => Eq.refl _) (fun n => rfl)
  obtain ⟨zt19, zh20, zh2⟩ := bnd zh2
  have zj21 : zt19 = .inl () → Ev (d + 4, 1, 8, 327, 16, [.val (.ref 64), .val (.int p1), .val (.int p2), .val a_unk], [.ref 64], (126, 120, L, [Y, T, H, H2, RU, RV, ST, NS, I0, I1, I2, BO, FI, RG, GU, PU, MA, MN, MS, OT, SC], [192, 256, 320, 384, w, r5, 576, 640, 704], Lg)) o := by
    intro ze22
    have zh2 := sum_l zh2 ze22
    exact ev_b 1 (zj3 0 (Option.some.inj zh2) ) (fun n => Eq.refl _)
  by_cases zc23 : p2 < 1
  · have zh20 := itp zh20 zc23
    suffices e : Ev (d + 4, 1, 8, 327, 16, [.val (.ref 64), .val (.int p1), .val (.int p2), .val a_unk], [.ref 64], (126, 120, L, [Y, T, H, H2, RU, RV, ST, NS, I0, I1, I2, BO, FI, RG, GU, PU, MA, MN, MS, OT, SC], [192, 256, 320, 384, w, r5, 576, 640, 704], Lg)) o from ev_t (c := p2 < 1) _ _ 4  zc23 e (fun n => Eq.refl _)
    exact ev_b 0 (zj21  (Option.some.inj zh20).symm ) (fun n => Eq.refl _)
  · have zh20 := itn zh20 zc23
    suffices e : Ev (d + 4, 1, 8, 327, 6, [.val (.ref 64), .val (.int p1), .val (.int p2), .val a_unk], [.ref 64], (126, 120, L, [Y, T, H, H2, RU, RV, ST, NS, I0, I1, I2, BO, FI, RG, GU, PU, MA, MN, MS, OT, SC], [192, 256, 320, 384, w, r5, 576, 640, 704], Lg)) o from ev_f (c := p2 < 1) _ _ 4  zc23 e (fun n => Eq.refl _)
    by_cases zc24 : 60 < p2
    · have zh20 := itp zh20 zc24
      suffices e : Ev (d + 4, 1, 8, 327, 16, [.val (.ref 64), .val (.int p1), .val (.int p2), .val a_unk], [.ref 64], (126, 120, L, [Y, T, H, H2, RU, RV, ST, NS, I0, I1, I2, BO, FI, RG, GU, PU, MA, MN, MS, OT, SC], [192, 256, 320, 384, w, r5, 576, 640, 704], Lg)) o from ev_t (c := 60 < p2) _ _ 3  zc24 e (fun n => Eq.refl _)
      exact ev_b 0 (zj21  (Option.some.inj zh20).symm ) (fun n => Eq.refl _)
    · have zh20 := itn zh20 zc24
      suffices e : Ev (d + 4, 1, 8, 327, 12, [.val (.ref 64), .val (.int p1), .val (.int p2), .val a_unk], [.ref 64], (126, 120, L, [Y, T, H, H2, RU, RV, ST, NS, I0, I1, I2, BO, FI, RG, GU, PU, MA, MN, MS, OT, SC], [192, 256, 320, 384, w, r5, 576, 640, 704], Lg)) o from ev_f (c := 60 < p2) _ _ 3  zc24 e (fun n => Eq.refl _)
      have zh25 := sum_r zh2 (Option.some.inj zh20).symm
      exact ev_b 2 (zj3 1 (Option.some.inj zh25) ) (fun n => Eq.refl _)
set_option maxRecDepth 1000000 in
set_option maxHeartbeats 4000000 in
theorem R_f_Y_done_1 (d : Nat) (Y T H H2 RV RU ST NS I0 I1 I2 BO FI RG GU PU MA MN MS OT SC : Nat → Nat → Int32) (w r5 : Nat) (L : Nat) (Lg : Int64) (p1 : Int32) (p2 : Int32) {r : Nat × Int32 × (Nat → Nat → Int32) × (Nat → Nat → Int32) × (Nat → Nat → Int32) × Nat} (h : f_Y_done Y H NS BO 192 r5 p1 p2 = some r) : Ev (d + 4, 1, 8, 327, 0, [.val (.ref 64), .val (.int p1), .val (.int p2), .val a_unk], [], (126, 120, L, [Y, T, H, H2, RV, RU, ST, NS, I0, I1, I2, BO, FI, RG, GU, PU, MA, MN, MS, OT, SC], [192, 256, 384, 320, w, r5, 576, 640, 704], Lg)) ((r.1, a_ov r.1 (.int r.2.1), (126, 120, L, [r.2.2.1, T, H, H2, RV, RU, ST, r.2.2.2.1, I0, I1, I2, r.2.2.2.2.1, FI, RG, GU, PU, MA, MN, MS, OT, SC], [192, 256, 384, 320, w, r.2.2.2.2.2, 576, 640, 704], Lg)) : AOut) := by
  suffices key : ∀ o : AOut, ((r.1, a_ov r.1 (.int r.2.1), (126, 120, L, [r.2.2.1, T, H, H2, RV, RU, ST, r.2.2.2.1, I0, I1, I2, r.2.2.2.2.1, FI, RG, GU, PU, MA, MN, MS, OT, SC], [192, 256, 384, 320, w, r.2.2.2.2.2, 576, 640, 704], Lg)) : AOut) = o → Ev (d + 4, 1, 8, 327, 0, [.val (.ref 64), .val (.int p1), .val (.int p2), .val a_unk], [], (126, 120, L, [Y, T, H, H2, RV, RU, ST, NS, I0, I1, I2, BO, FI, RG, GU, PU, MA, MN, MS, OT, SC], [192, 256, 384, 320, w, r5, 576, 640, 704], Lg)) o from key _ rfl
  intro o ho
  obtain ⟨zt1, zh2, h⟩ := bnd h
  have zj3 : ∀ (v1 : Int32), v1 = zt1 → Ev (d + 4, 1, 8, 327, 17, [.val (.ref 64), .val (.int p1), .val (.int p2), .val a_unk], [.int v1, .ref 64], (126, 120, L, [Y, T, H, H2, RV, RU, ST, NS, I0, I1, I2, BO, FI, RG, GU, PU, MA, MN, MS, OT, SC], [192, 256, 384, 320, w, r5, 576, 640, 704], Lg)) o := by
    intro v1 ze4
    subst ze4
    obtain ⟨⟨q2, Y_3⟩, zh5, h⟩ := bnd h
    have zh5 : f_Y_refuseUnless Y v1 = some (q2, Y_3) := zh5
    have ze6 := R_f_Y_refuseUnless_1 (d + 3) Y T H H2 RV RU ST NS I0 I1 I2 BO FI RG GU PU MA MN MS OT SC w r5 L Lg v1 zh5
    cases q2 with
    | zero =>
      have h := itp h rfl
      suffices e : Ev (d + 4, 0, 0, 327, 20, [.val (.ref 64), .val (.int p1), .val (.int p2), .val a_unk], [], (126, 120, L, [Y_3, T, H, H2, RV, RU, ST, NS, I0, I1, I2, BO, FI, RG, GU, PU, MA, MN, MS, OT, SC], [192, 256, 384, 320, w, r5, 576, 640, 704], Lg)) o from ev_call (fun v μ => (d + 4, 0, 0, 327, 20, [.val (.ref 64), .val (.int p1), .val (.int p2), .val a_unk], v.toList ++ [], μ)) 1 ze6 e (fun n => Eq.refl _)
      obtain ⟨x4, zh7, h⟩ := bnd h
      have zh7 : f_State_isFull NS = some x4 := zh7
      have ze8 := R_f_State_isFull_0 (d + 3) Y_3 T H H2 RV RU ST NS I0 I1 I2 BO FI RG GU PU MA MN MS OT SC 192 256 384 320 w r5 576 640 704 L Lg zh7
      suffices e : Ev (d + 4, 0, 0, 327, 27, [.val (.ref 64), .val (.int p1), .val (.int p2), .val a_unk], [.int x4], (126, 120, L, [Y_3, T, H, H2, RV, RU, ST, NS, I0, I1, I2, BO, FI, RG, GU, PU, MA, MN, MS, OT, SC], [192, 256, 384, 320, w, r5, 576, 640, 704], Lg)) o from ev_call (fun v μ => (d + 4, 0, 0, 327, 27, [.val (.ref 64), .val (.int p1), .val (.int p2), .val a_unk], v.toList ++ [], μ)) 3 ze8 e (fun n => Eq.refl _)
      by_cases zc9 : x4 = 0
      · have h := itp h zc9
        suffices e : Ev (d + 4, 0, 0, 327, 33, [.val (.ref 64), .val (.int p1), .val (.int p2), .val a_unk], [], (126, 120, L, [Y_3, T, H, H2, RV, RU, ST, NS, I0, I1, I2, BO, FI, RG, GU, PU, MA, MN, MS, OT, SC], [192, 256, 384, 320, w, r5, 576, 640, 704], Lg)) o from ev_t (c := x4 = 0) _ _ 1  zc9 e (fun n => Eq.refl _)
        obtain ⟨BO_6, zh10, h⟩ := bnd h
        have zh10 : f_Y_lookNow H NS BO = some BO_6 := zh10
        have ze11 := R_f_Y_lookNow_1 (d + 1) Y_3 T H H2 RV RU ST NS I0 I1 I2 BO FI RG GU PU MA MN MS OT SC w r5 L Lg zh10
        suffices e : Ev (d + 4, 0, 0, 327, 37, [.val (.ref 64), .val (.int p1), .val (.int p2), .val a_unk], [.ref 768], (126, 120, L, [Y_3, T, H, H2, RV, RU, ST, NS, I0, I1, I2, BO_6, FI, RG, GU, PU, MA, MN, MS, OT, SC], [192, 256, 384, 320, w, 192, 576, 640, 704], Lg)) o from ev_call (fun v μ => (d + 4, 0, 0, 327, 37, [.val (.ref 64), .val (.int p1), .val (.int p2), .val a_unk], v.toList ++ [], μ)) 2 ze11 e (fun n => Eq.refl _)
        obtain ⟨BO_7, zh12, h⟩ := bnd h
        have zh12 : f_Board_runWeek H BO_6 p1 p2 = some BO_7 := zh12
        have ze13 := R_f_Board_runWeek_0 (d + 0) Y_3 T H H2 RV RU ST NS I0 I1 I2 BO_6 FI RG GU PU MA MN MS OT SC 192 256 384 320 w 576 640 704 L Lg p1 p2 zh12
        suffices e : Ev (d + 4, 0, 0, 327, 44, [.val (.ref 64), .val (.int p1), .val (.int p2), .val (.ref 768)], [], (126, 120, L, [Y_3, T, H, H2, RV, RU, ST, NS, I0, I1, I2, BO_7, FI, RG, GU, PU, MA, MN, MS, OT, SC], [192, 256, 384, 320, w, 192, 576, 640, 704], Lg)) o from ev_call (fun v μ => (d + 4, 0, 0, 327, 44, [.val (.ref 64), .val (.int p1), .val (.int p2), .val (.ref 768)], v.toList ++ [], μ)) 5 ze13 e (fun n => Eq.refl _)
        obtain ⟨NS_8, zh14, h⟩ := bnd h
        have zh14 : f_State_act NS BO_7 = some NS_8 := zh14
        have ze15 := R_f_State_act_0 (d + 2) Y_3 T H H2 RV RU ST NS I0 I1 I2 BO_7 FI RG GU PU MA MN MS OT SC 192 256 384 320 w 192 576 640 704 L Lg zh14
        suffices e : Ev (d + 4, 0, 0, 327, 52, [.val (.ref 64), .val (.int p1), .val (.int p2), .val (.ref 768)], [], (126, 120, L, [Y_3, T, H, H2, RV, RU, ST, NS_8, I0, I1, I2, BO_7, FI, RG, GU, PU, MA, MN, MS, OT, SC], [192, 256, 384, 320, w, 192, 576, 640, 704], Lg)) o from ev_call (fun v μ => (d + 4, 0, 0, 327, 52, [.val (.ref 64), .val (.int p1), .val (.int p2), .val (.ref 768)], v.toList ++ [], μ)) 4 ze15 e (fun n => Eq.refl _)
        have ze16 := Option.some.inj h
        subst ze16
        exact ev_rete 3 ho (fun n => Eq.refl _)
      · have h := itn h zc9
        suffices e : Ev (d + 4, 0, 0, 327, 30, [.val (.ref 64), .val (.int p1), .val (.int p2), .val a_unk], [], (126, 120, L, [Y_3, T, H, H2, RV, RU, ST, NS, I0, I1, I2, BO, FI, RG, GU, PU, MA, MN, MS, OT, SC], [192, 256, 384, 320, w, r5, 576, 640, 704], Lg)) o from ev_f (c := x4 = 0) _ _ 1  zc9 e (fun n => Eq.refl _)
        have ze17 := Option.some.inj h
        subst ze17
        exact ev_rete 2 ho (fun n => Eq.refl _)
    | succ q2 =>
      have h := itn h (Nat.succ_ne_zero q2)
      have ze18 := Option.some.inj h
      subst ze18
      subst ho
      exact ev_thr (fun v μ => (d + 4, 0, 0, 327, 20, [.val (.ref 64), .val (.int p1), .val (.int p2), .val a_unk], v.toList ++ [], μ)) 1 ze6 (fun n => Eq.refl _) (fun n => rfl)
  obtain ⟨zt19, zh20, zh2⟩ := bnd zh2
  have zj21 : zt19 = .inl () → Ev (d + 4, 1, 8, 327, 16, [.val (.ref 64), .val (.int p1), .val (.int p2), .val a_unk], [.ref 64], (126, 120, L, [Y, T, H, H2, RV, RU, ST, NS, I0, I1, I2, BO, FI, RG, GU, PU, MA, MN, MS, OT, SC], [192, 256, 384, 320, w, r5, 576, 640, 704], Lg)) o := by
    intro ze22
    have zh2 := sum_l zh2 ze22
    exact ev_b 1 (zj3 0 (Option.some.inj zh2) ) (fun n => Eq.refl _)
  by_cases zc23 : p2 < 1
  · have zh20 := itp zh20 zc23
    suffices e : Ev (d + 4, 1, 8, 327, 16, [.val (.ref 64), .val (.int p1), .val (.int p2), .val a_unk], [.ref 64], (126, 120, L, [Y, T, H, H2, RV, RU, ST, NS, I0, I1, I2, BO, FI, RG, GU, PU, MA, MN, MS, OT, SC], [192, 256, 384, 320, w, r5, 576, 640, 704], Lg)) o from ev_t (c := p2 < 1) _ _ 4  zc23 e (fun n => Eq.refl _)
    exact ev_b 0 (zj21  (Option.some.inj zh20).symm ) (fun n => Eq.refl _)
  · have zh20 := itn zh20 zc23
    suffices e : Ev (d + 4, 1, 8, 327, 6, [.val (.ref 64), .val (.int p1), .val (.int p2), .val a_unk], [.ref 64], (126, 120, L, [Y, T, H, H2, RV, RU, ST, NS, I0, I1, I2, BO, FI, RG, GU, PU, MA, MN, MS, OT, SC], [192, 256, 384, 320, w, r5, 576, 640, 704], Lg)) o from ev_f (c := p2 < 1) _ _ 4  zc23 e (fun n => Eq.refl _)
    by_cases zc24 : 60 < p2
    · have zh20 := itp zh20 zc24
      suffices e : Ev (d + 4, 1, 8, 327, 16, [.val (.ref 64), .val (.int p1), .val (.int p2), .val a_unk], [.ref 64], (126, 120, L, [Y, T, H, H2, RV, RU, ST, NS, I0, I1, I2, BO, FI, RG, GU, PU, MA, MN, MS, OT, SC], [192, 256, 384, 320, w, r5, 576, 640, 704], Lg)) o from ev_t (c := 60 < p2) _ _ 3  zc24 e (fun n => Eq.refl _)
      exact ev_b 0 (zj21  (Option.some.inj zh20).symm ) (fun n => Eq.refl _)
    · have zh20 := itn zh20 zc24
      suffices e : Ev (d + 4, 1, 8, 327, 12, [.val (.ref 64), .val (.int p1), .val (.int p2), .val a_unk], [.ref 64], (126, 120, L, [Y, T, H, H2, RV, RU, ST, NS, I0, I1, I2, BO, FI, RG, GU, PU, MA, MN, MS, OT, SC], [192, 256, 384, 320, w, r5, 576, 640, 704], Lg)) o from ev_f (c := 60 < p2) _ _ 3  zc24 e (fun n => Eq.refl _)
      have zh25 := sum_r zh2 (Option.some.inj zh20).symm
      exact ev_b 2 (zj3 1 (Option.some.inj zh25) ) (fun n => Eq.refl _)
