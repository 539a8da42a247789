/-! printed by program (gen/emitm.py): the reference's methods run as their functions say -/
set_option maxRecDepth 1000000 in
set_option maxHeartbeats 4000000 in
theorem R_f_M_readUnit_B_0 (d : Nat) (rc : (Nat → (Nat → Nat → Int32) → (Nat → Nat → Int32) → Option ((Nat → Nat → Int32))))
    (zrc0 : ∀ (Y T HA HB RA RB ST NS I0 I1 I2 BO FI RG GU PU MA MN MS OT SC : Nat → Nat → Int32) (r0 r1 r2 r3 w r5 r6 r7 r8 : Nat) (L : Nat) (Lg : Int64) (r : (Nat → Nat → Int32)), rc 0 MA MN = some r → Ev (d + 5, 0, 0, 46, 0, [.val (.ref 1088)], [], (126, 120, L, [Y, T, HA, HB, RA, RB, ST, NS, I0, I1, I2, BO, FI, RG, GU, PU, MA, MN, MS, OT, SC], [r0, r1, r2, r3, w, r5, r6, r7, r8], Lg)) ((0, none, (126, 120, L, [Y, T, HA, HB, RA, RB, ST, NS, I0, I1, I2, BO, FI, RG, GU, PU, MA, r, MS, OT, SC], [r0, r1, r2, r3, w, r5, r6, r7, r8], Lg)) : AOut))
    (zrc1 : ∀ (Y T HA HB RA RB ST NS I0 I1 I2 BO FI RG GU PU MA MN MS OT SC : Nat → Nat → Int32) (r0 r1 r2 r3 w r5 r6 r7 r8 : Nat) (L : Nat) (Lg : Int64) (r : (Nat → Nat → Int32)), rc 1 MA MN = some r → Ev (d + 5, 0, 0, 47, 0, [.val (.ref 1088)], [], (126, 120, L, [Y, T, HA, HB, RA, RB, ST, NS, I0, I1, I2, BO, FI, RG, GU, PU, MA, MN, MS, OT, SC], [r0, r1, r2, r3, w, r5, r6, r7, r8], Lg)) ((0, none, (126, 120, L, [Y, T, HA, HB, RA, RB, ST, NS, I0, I1, I2, BO, FI, RG, GU, PU, MA, r, MS, OT, SC], [r0, r1, r2, r3, w, r5, r6, r7, r8], Lg)) : AOut))
    (zrc2 : ∀ (Y T HA HB RA RB ST NS I0 I1 I2 BO FI RG GU PU MA MN MS OT SC : Nat → Nat → Int32) (r0 r1 r2 r3 w r5 r6 r7 r8 : Nat) (L : Nat) (Lg : Int64) (r : (Nat → Nat → Int32)), rc 2 MA MN = some r → Ev (d + 5, 0, 0, 48, 0, [.val (.ref 1088), .val a_unk], [], (126, 120, L, [Y, T, HA, HB, RA, RB, ST, NS, I0, I1, I2, BO, FI, RG, GU, PU, MA, MN, MS, OT, SC], [r0, r1, r2, r3, w, r5, r6, r7, r8], Lg)) ((0, none, (126, 120, L, [Y, T, HA, HB, RA, RB, ST, NS, I0, I1, I2, BO, FI, RG, GU, PU, MA, r, MS, OT, SC], [r0, r1, r2, r3, w, r5, r6, r7, r8], Lg)) : AOut))
    (zrc3 : ∀ (Y T HA HB RA RB ST NS I0 I1 I2 BO FI RG GU PU MA MN MS OT SC : Nat → Nat → Int32) (r0 r1 r2 r3 w r5 r6 r7 r8 : Nat) (L : Nat) (Lg : Int64) (r : (Nat → Nat → Int32)), rc 3 MA MN = some r → Ev (d + 5, 0, 0, 49, 0, [.val (.ref 1088), .val a_unk], [], (126, 120, L, [Y, T, HA, HB, RA, RB, ST, NS, I0, I1, I2, BO, FI, RG, GU, PU, MA, MN, MS, OT, SC], [r0, r1, r2, r3, w, r5, r6, r7, r8], Lg)) ((0, none, (126, 120, L, [Y, T, HA, HB, RA, RB, ST, NS, I0, I1, I2, BO, FI, RG, GU, PU, MA, r, MS, OT, SC], [r0, r1, r2, r3, w, r5, r6, r7, r8], Lg)) : AOut))
    (zrc4 : ∀ (Y T HA HB RA RB ST NS I0 I1 I2 BO FI RG GU PU MA MN MS OT SC : Nat → Nat → Int32) (r0 r1 r2 r3 w r5 r6 r7 r8 : Nat) (L : Nat) (Lg : Int64) (r : (Nat → Nat → Int32)), rc 4 MA MN = some r → Ev (d + 5, 0, 0, 50, 0, [.val (.ref 1088)], [], (126, 120, L, [Y, T, HA, HB, RA, RB, ST, NS, I0, I1, I2, BO, FI, RG, GU, PU, MA, MN, MS, OT, SC], [r0, r1, r2, r3, w, r5, r6, r7, r8], Lg)) ((0, none, (126, 120, L, [Y, T, HA, HB, RA, RB, ST, NS, I0, I1, I2, BO, FI, RG, GU, PU, MA, r, MS, OT, SC], [r0, r1, r2, r3, w, r5, r6, r7, r8], Lg)) : AOut))
    (zrc5 : ∀ (Y T HA HB RA RB ST NS I0 I1 I2 BO FI RG GU PU MA MN MS OT SC : Nat → Nat → Int32) (r0 r1 r2 r3 w r5 r6 r7 r8 : Nat) (L : Nat) (Lg : Int64) (r : (Nat → Nat → Int32)), rc 5 MA MN = some r → Ev (d + 5, 0, 0, 53, 0, [.val (.ref 1088), .val a_unk], [], (126, 120, L, [Y, T, HA, HB, RA, RB, ST, NS, I0, I1, I2, BO, FI, RG, GU, PU, MA, MN, MS, OT, SC], [r0, r1, r2, r3, w, r5, r6, r7, r8], Lg)) ((0, none, (126, 120, L, [Y, T, HA, HB, RA, RB, ST, NS, I0, I1, I2, BO, FI, RG, GU, PU, MA, r, MS, OT, SC], [r0, r1, r2, r3, w, r5, r6, r7, r8], Lg)) : AOut))
    (Y T HA HB RA RB ST NS I0 I1 I2 BO FI RG GU PU MA MN MS OT SC : Nat → Nat → Int32) (r0 r1 r2 r3 w r5 r6 r7 r8 : Nat) (L : Nat) (Lg : Int64) {r : (Nat → Nat → Int32)} (h : f_M_readUnit_B rc MA MN = some r) : Ev (d + 6, 0, 0, 53, 0, [.val (.ref 1088), .val a_unk], [], (126, 120, L, [Y, T, HA, HB, RA, RB, ST, NS, I0, I1, I2, BO, FI, RG, GU, PU, MA, MN, MS, OT, SC], [r0, r1, r2, r3, w, r5, r6, r7, r8], Lg)) ((0, none, (126, 120, L, [Y, T, HA, HB, RA, RB, ST, NS, I0, I1, I2, BO, FI, RG, GU, PU, MA, r, MS, OT, SC], [r0, r1, r2, r3, w, r5, r6, r7, r8], Lg)) : AOut) := by
  suffices key : ∀ o : AOut, ((0, none, (126, 120, L, [Y, T, HA, HB, RA, RB, ST, NS, I0, I1, I2, BO, FI, RG, GU, PU, MA, r, MS, OT, SC], [r0, r1, r2, r3, w, r5, r6, r7, r8], Lg)) : AOut) = o → Ev (d + 6, 0, 0, 53, 0, [.val (.ref 1088), .val a_unk], [], (126, 120, L, [Y, T, HA, HB, RA, RB, ST, NS, I0, I1, I2, BO, FI, RG, GU, PU, MA, MN, MS, OT, SC], [r0, r1, r2, r3, w, r5, r6, r7, r8], Lg)) o from key _ rfl
  intro o ho
  obtain ⟨x1, zh1, h⟩ := bnd h
  have zh1 : f_M_fine MN = some x1 := zh1
  have ze2 := R_f_M_fine_0 (d + 5) Y T HA HB RA RB ST NS I0 I1 I2 BO FI RG GU PU MA MN MS OT SC r0 r1 r2 r3 w r5 r6 r7 r8 L Lg zh1
  suffices e : Ev (d + 6, 0, 0, 53, 4, [.val (.ref 1088), .val a_unk], [.int x1], (126, 120, L, [Y, T, HA, HB, RA, RB, ST, NS, I0, I1, I2, BO, FI, RG, GU, PU, MA, MN, MS, OT, SC], [r0, r1, r2, r3, w, r5, r6, r7, r8], Lg)) o from ev_call (fun v μ => (d + 6, 0, 0, 53, 4, [.val (.ref 1088), .val a_unk], v.toList ++ [], μ)) 2 ze2 e (fun n => Eq.refl _)
  by_cases zc3 : x1 ≠ 0
  · have h := itp h zc3
    suffices e : Ev (d + 6, 0, 0, 53, 8, [.val (.ref 1088), .val a_unk], [], (126, 120, L, [Y, T, HA, HB, RA, RB, ST, NS, I0, I1, I2, BO, FI, RG, GU, PU, MA, MN, MS, OT, SC], [r0, r1, r2, r3, w, r5, r6, r7, r8], Lg)) o from ev_t (c := x1 ≠ 0) _ _ 1  zc3 e (fun n => Eq.refl _)
    obtain ⟨⟨x2, MN_3⟩, zh4, h⟩ := bnd h
    have zh4 : f_M_here MA MN = some (x2, MN_3) := zh4
    have ze5 := R_f_M_here_0 (d + 5) Y T HA HB RA RB ST NS I0 I1 I2 BO FI RG GU PU MA MN MS OT SC r0 r1 r2 r3 w r5 r6 r7 r8 L Lg zh4
    suffices e : Ev (d + 6, 0, 0, 53, 12, [.val (.ref 1088), .val a_unk], [.int x2], (126, 120, L, [Y, T, HA, HB, RA, RB, ST, NS, I0, I1, I2, BO, FI, RG, GU, PU, MA, MN_3, MS, OT, SC], [r0, r1, r2, r3, w, r5, r6, r7, r8], Lg)) o from ev_call (fun v μ => (d + 6, 0, 0, 53, 12, [.val (.ref 1088), .val a_unk], v.toList ++ [], μ)) 2 ze5 e (fun n => Eq.refl _)
    by_cases zc6 : x2 ≠ 40
    · have h := itp h zc6
      suffices e : Ev (d + 6, 0, 0, 53, 45, [.val (.ref 1088), .val a_unk], [], (126, 120, L, [Y, T, HA, HB, RA, RB, ST, NS, I0, I1, I2, BO, FI, RG, GU, PU, MA, MN_3, MS, OT, SC], [r0, r1, r2, r3, w, r5, r6, r7, r8], Lg)) o from ev_t (c := x2 ≠ 40) _ _ 2  zc6 e (fun n => Eq.refl _)
      obtain ⟨⟨x4, MN_5⟩, zh7, h⟩ := bnd h
      have zh7 : f_M_here MA MN_3 = some (x4, MN_5) := zh7
      have ze8 := R_f_M_here_0 (d + 5) Y T HA HB RA RB ST NS I0 I1 I2 BO FI RG GU PU MA MN_3 MS OT SC r0 r1 r2 r3 w r5 r6 r7 r8 L Lg zh7
      suffices e : Ev (d + 6, 0, 0, 53, 49, [.val (.ref 1088), .val a_unk], [.int x4], (126, 120, L, [Y, T, HA, HB, RA, RB, ST, NS, I0, I1, I2, BO, FI, RG, GU, PU, MA, MN_5, MS, OT, SC], [r0, r1, r2, r3, w, r5, r6, r7, r8], Lg)) o from ev_call (fun v μ => (d + 6, 0, 0, 53, 49, [.val (.ref 1088), .val a_unk], v.toList ++ [], μ)) 2 ze8 e (fun n => Eq.refl _)
      obtain ⟨x6, zh9, h⟩ := bnd h
      have zh9 : f_M_isDigit x4 = some x6 := zh9
      have ze10 := R_f_M_isDigit_0 (d + 5) Y T HA HB RA RB ST NS I0 I1 I2 BO FI RG GU PU MA MN_5 MS OT SC r0 r1 r2 r3 w r5 r6 r7 r8 L Lg x4 zh9
      suffices e : Ev (d + 6, 0, 0, 53, 52, [.val (.ref 1088), .val a_unk], [.int x6], (126, 120, L, [Y, T, HA, HB, RA, RB, ST, NS, I0, I1, I2, BO, FI, RG, GU, PU, MA, MN_5, MS, OT, SC], [r0, r1, r2, r3, w, r5, r6, r7, r8], Lg)) o from ev_call (fun v μ => (d + 6, 0, 0, 53, 52, [.val (.ref 1088), .val a_unk], v.toList ++ [], μ)) 1 ze10 e (fun n => Eq.refl _)
      by_cases zc11 : x6 = 0
      · have h := itp h zc11
        suffices e : Ev (d + 6, 0, 0, 53, 70, [.val (.ref 1088), .val a_unk], [], (126, 120, L, [Y, T, HA, HB, RA, RB, ST, NS, I0, I1, I2, BO, FI, RG, GU, PU, MA, MN_5, MS, OT, SC], [r0, r1, r2, r3, w, r5, r6, r7, r8], Lg)) o from ev_t (c := x6 = 0) _ _ 1  zc11 e (fun n => Eq.refl _)
        obtain ⟨⟨x7, MN_8⟩, zh12, h⟩ := bnd h
        have zh12 : f_M_factHere MA MN_5 = some (x7, MN_8) := zh12
        have ze13 := R_f_M_factHere_0 (d + 0) Y T HA HB RA RB ST NS I0 I1 I2 BO FI RG GU PU MA MN_5 MS OT SC r0 r1 r2 r3 w r5 r6 r7 r8 L Lg zh12
        suffices e : Ev (d + 6, 0, 0, 53, 74, [.val (.ref 1088), .val a_unk], [.int x7], (126, 120, L, [Y, T, HA, HB, RA, RB, ST, NS, I0, I1, I2, BO, FI, RG, GU, PU, MA, MN_8, MS, OT, SC], [r0, r1, r2, r3, w, r5, r6, r7, r8], Lg)) o from ev_call (fun v μ => (d + 6, 0, 0, 53, 74, [.val (.ref 1088), .val a_unk], v.toList ++ [], μ)) 2 ze13 e (fun n => Eq.refl _)
        obtain ⟨zt14, zh15, h⟩ := bnd h
        have zj16 : ∀ (MN_10 : (Nat → Nat → Int32)), MN_10 = zt14 → Ev (d + 6, 0, 0, 53, 89, [.val (.ref 1088), .val (.int x7)], [], (126, 120, L, [Y, T, HA, HB, RA, RB, ST, NS, I0, I1, I2, BO, FI, RG, GU, PU, MA, MN_10, MS, OT, SC], [r0, r1, r2, r3, w, r5, r6, r7, r8], Lg)) o := by
          intro MN_10 ze17
          subst ze17
          obtain ⟨x11, zh18, h⟩ := bnd h
          have zh18 : f_M_fine MN_10 = some x11 := zh18
          have ze19 := R_f_M_fine_0 (d + 5) Y T HA HB RA RB ST NS I0 I1 I2 BO FI RG GU PU MA MN_10 MS OT SC r0 r1 r2 r3 w r5 r6 r7 r8 L Lg zh18
          suffices e : Ev (d + 6, 0, 0, 53, 93, [.val (.ref 1088), .val (.int x7)], [.int x11], (126, 120, L, [Y, T, HA, HB, RA, RB, ST, NS, I0, I1, I2, BO, FI, RG, GU, PU, MA, MN_10, MS, OT, SC], [r0, r1, r2, r3, w, r5, r6, r7, r8], Lg)) o from ev_call (fun v μ => (d + 6, 0, 0, 53, 93, [.val (.ref 1088), .val (.int x7)], v.toList ++ [], μ)) 2 ze19 e (fun n => Eq.refl _)
          by_cases zc20 : x11 ≠ 0
          · have h := itp h zc20
            suffices e : Ev (d + 6, 0, 0, 53, 97, [.val (.ref 1088), .val (.int x7)], [], (126, 120, L, [Y, T, HA, HB, RA, RB, ST, NS, I0, I1, I2, BO, FI, RG, GU, PU, MA, MN_10, MS, OT, SC], [r0, r1, r2, r3, w, r5, r6, r7, r8], Lg)) o from ev_t (c := x11 ≠ 0) _ _ 1  zc20 e (fun n => Eq.refl _)
            obtain ⟨MN_12, zh21, h⟩ := bnd h
            have zh21 : f_M_pass MA MN_10 = some MN_12 := zh21
            have ze22 := R_f_M_pass_0 (d + 4) Y T HA HB RA RB ST NS I0 I1 I2 BO FI RG GU PU MA MN_10 MS OT SC r0 r1 r2 r3 w r5 r6 r7 r8 L Lg zh21
            suffices e : Ev (d + 6, 0, 0, 53, 101, [.val (.ref 1088), .val (.int x7)], [], (126, 120, L, [Y, T, HA, HB, RA, RB, ST, NS, I0, I1, I2, BO, FI, RG, GU, PU, MA, MN_12, MS, OT, SC], [r0, r1, r2, r3, w, r5, r6, r7, r8], Lg)) o from ev_call (fun v μ => (d + 6, 0, 0, 53, 101, [.val (.ref 1088), .val (.int x7)], v.toList ++ [], μ)) 2 ze22 e (fun n => Eq.refl _)
            obtain ⟨MN_13, zh23, h⟩ := bnd h
            have zh23 : f_M_emit MN_12 1 x7 = some MN_13 := zh23
            have ze24 := R_f_M_emit_0 (d + 4) Y T HA HB RA RB ST NS I0 I1 I2 BO FI RG GU PU MA MN_12 MS OT SC r0 r1 r2 r3 w r5 r6 r7 r8 L Lg 1 x7 zh23
            suffices e : Ev (d + 6, 0, 0, 53, 107, [.val (.ref 1088), .val (.int x7)], [], (126, 120, L, [Y, T, HA, HB, RA, RB, ST, NS, I0, I1, I2, BO, FI, RG, GU, PU, MA, MN_13, MS, OT, SC], [r0, r1, r2, r3, w, r5, r6, r7, r8], Lg)) o from ev_call (fun v μ => (d + 6, 0, 0, 53, 107, [.val (.ref 1088), .val (.int x7)], v.toList ++ [], μ)) 4 ze24 e (fun n => Eq.refl _)
            have ze25 := Option.some.inj h
            subst ze25
            exact ev_rete 1 ho (fun n => Eq.refl _)
          · have h := itn h zc20
            suffices e : Ev (d + 6, 0, 0, 53, 96, [.val (.ref 1088), .val (.int x7)], [], (126, 120, L, [Y, T, HA, HB, RA, RB, ST, NS, I0, I1, I2, BO, FI, RG, GU, PU, MA, MN_10, MS, OT, SC], [r0, r1, r2, r3, w, r5, r6, r7, r8], Lg)) o from ev_f (c := x11 ≠ 0) _ _ 1  zc20 e (fun n => Eq.refl _)
            have ze26 := Option.some.inj h
            subst ze26
            exact ev_rete 1 ho (fun n => Eq.refl _)
        by_cases zc27 : x7 ≠ (-1)
        · have zh15 := itp zh15 zc27
          suffices e : Ev (d + 6, 0, 0, 53, 89, [.val (.ref 1088), .val (.int x7)], [], (126, 120, L, [Y, T, HA, HB, RA, RB, ST, NS, I0, I1, I2, BO, FI, RG, GU, PU, MA, MN_8, MS, OT, SC], [r0, r1, r2, r3, w, r5, r6, r7, r8], Lg)) o from ev_t (c := x7 ≠ (-1)) _ _ 4  zc27 e (fun n => Eq.refl _)
          exact ev_b 0 (zj16 MN_8 (Option.some.inj zh15) ) (fun n => Eq.refl _)
        · have zh15 := itn zh15 zc27
          suffices e : Ev (d + 6, 0, 0, 53, 80, [.val (.ref 1088), .val (.int x7)], [], (126, 120, L, [Y, T, HA, HB, RA, RB, ST, NS, I0, I1, I2, BO, FI, RG, GU, PU, MA, MN_8, MS, OT, SC], [r0, r1, r2, r3, w, r5, r6, r7, r8], Lg)) o from ev_f (c := x7 ≠ (-1)) _ _ 4  zc27 e (fun n => Eq.refl _)
          obtain ⟨MN_9, zh28, zh15⟩ := bnd zh15
          have zh28 : f_M_wrong MN_8 1 (MN_8 0 4) = some MN_9 := zh28
          have ze29 := R_f_M_wrong_0 (d + 5) Y T HA HB RA RB ST NS I0 I1 I2 BO FI RG GU PU MA MN_8 MS OT SC r0 r1 r2 r3 w r5 r6 r7 r8 L Lg 1 (MN_8 0 4) zh28
          suffices e : Ev (d + 6, 0, 0, 53, 89, [.val (.ref 1088), .val (.int x7)], [], (126, 120, L, [Y, T, HA, HB, RA, RB, ST, NS, I0, I1, I2, BO, FI, RG, GU, PU, MA, MN_9, MS, OT, SC], [r0, r1, r2, r3, w, r5, r6, r7, r8], Lg)) o from ev_call (fun v μ => (d + 6, 0, 0, 53, 89, [.val (.ref 1088), .val (.int x7)], v.toList ++ [], μ)) 5 ze29 e (fun n => Eq.refl _)
          exact ev_b 0 (zj16 MN_9 (Option.some.inj zh15) ) (fun n => Eq.refl _)
      · have h := itn h zc11
        suffices e : Ev (d + 6, 0, 0, 53, 55, [.val (.ref 1088), .val a_unk], [], (126, 120, L, [Y, T, HA, HB, RA, RB, ST, NS, I0, I1, I2, BO, FI, RG, GU, PU, MA, MN_5, MS, OT, SC], [r0, r1, r2, r3, w, r5, r6, r7, r8], Lg)) o from ev_f (c := x6 = 0) _ _ 1  zc11 e (fun n => Eq.refl _)
        obtain ⟨⟨x14, MN_15⟩, zh30, h⟩ := bnd h
        have zh30 : f_M_readNumber MA MN_5 0 99 = some (x14, MN_15) := zh30
        have ze31 := R_f_M_readNumber_0 (d + 4) Y T HA HB RA RB ST NS I0 I1 I2 BO FI RG GU PU MA MN_5 MS OT SC r0 r1 r2 r3 w r5 r6 r7 r8 L Lg 0 99 zh30
        suffices e : Ev (d + 6, 0, 0, 53, 64, [.val (.ref 1088), .val a_unk], [.int x14, .int 0, .ref 1088], (126, 120, L, [Y, T, HA, HB, RA, RB, ST, NS, I0, I1, I2, BO, FI, RG, GU, PU, MA, MN_15, MS, OT, SC], [r0, r1, r2, r3, w, r5, r6, r7, r8], Lg)) o from ev_call (fun v μ => (d + 6, 0, 0, 53, 64, [.val (.ref 1088), .val a_unk], v.toList ++ [.int 0, .ref 1088], μ)) 6 ze31 e (fun n => Eq.refl _)
        obtain ⟨MN_16, zh32, h⟩ := bnd h
        have zh32 : f_M_emit MN_15 0 x14 = some MN_16 := zh32
        have ze33 := R_f_M_emit_0 (d + 4) Y T HA HB RA RB ST NS I0 I1 I2 BO FI RG GU PU MA MN_15 MS OT SC r0 r1 r2 r3 w r5 r6 r7 r8 L Lg 0 x14 zh32
        suffices e : Ev (d + 6, 0, 0, 53, 67, [.val (.ref 1088), .val a_unk], [], (126, 120, L, [Y, T, HA, HB, RA, RB, ST, NS, I0, I1, I2, BO, FI, RG, GU, PU, MA, MN_16, MS, OT, SC], [r0, r1, r2, r3, w, r5, r6, r7, r8], Lg)) o from ev_call (fun v μ => (d + 6, 0, 0, 53, 67, [.val (.ref 1088), .val a_unk], v.toList ++ [], μ)) 1 ze33 e (fun n => Eq.refl _)
        have ze34 := Option.some.inj h
        subst ze34
        exact ev_rete 2 ho (fun n => Eq.refl _)
    · have h := itn h zc6
      suffices e : Ev (d + 6, 0, 0, 53, 17, [.val (.ref 1088), .val a_unk], [], (126, 120, L, [Y, T, HA, HB, RA, RB, ST, NS, I0, I1, I2, BO, FI, RG, GU, PU, MA, MN_3, MS, OT, SC], [r0, r1, r2, r3, w, r5, r6, r7, r8], Lg)) o from ev_f (c := x2 ≠ 40) _ _ 2  zc6 e (fun n => Eq.refl _)
      obtain ⟨MN_17, zh35, h⟩ := bnd h
      have zh35 : f_M_opensOne MN_3 1 = some MN_17 := zh35
      have ze36 := R_f_M_opensOne_0 (d + 4) Y T HA HB RA RB ST NS I0 I1 I2 BO FI RG GU PU MA MN_3 MS OT SC r0 r1 r2 r3 w r5 r6 r7 r8 L Lg 1 zh35
      suffices e : Ev (d + 6, 0, 0, 53, 22, [.val (.ref 1088), .val a_unk], [], (126, 120, L, [Y, T, HA, HB, RA, RB, ST, NS, I0, I1, I2, BO, FI, RG, GU, PU, MA, MN_17, MS, OT, SC], [r0, r1, r2, r3, w, r5, r6, r7, r8], Lg)) o from ev_call (fun v μ => (d + 6, 0, 0, 53, 22, [.val (.ref 1088), .val a_unk], v.toList ++ [], μ)) 3 ze36 e (fun n => Eq.refl _)
      obtain ⟨MN_18, zh37, h⟩ := bnd h
      have zh37 : rc 3 MA MN_17 = some MN_18 := zh37
      have ze38 := zrc3 Y T HA HB RA RB ST NS I0 I1 I2 BO FI RG GU PU MA MN_17 MS OT SC r0 r1 r2 r3 w r5 r6 r7 r8 L Lg _ zh37
      suffices e : Ev (d + 6, 0, 0, 53, 26, [.val (.ref 1088), .val a_unk], [], (126, 120, L, [Y, T, HA, HB, RA, RB, ST, NS, I0, I1, I2, BO, FI, RG, GU, PU, MA, MN_18, MS, OT, SC], [r0, r1, r2, r3, w, r5, r6, r7, r8], Lg)) o from ev_call (fun v μ => (d + 6, 0, 0, 53, 26, [.val (.ref 1088), .val a_unk], v.toList ++ [], μ)) 2 ze38 e (fun n => Eq.refl _)
      obtain ⟨MN_19, zh39, h⟩ := bnd h
      have zh39 : f_M_sign MA MN_18 41 = some MN_19 := zh39
      have ze40 := R_f_M_sign_0 (d + 4) Y T HA HB RA RB ST NS I0 I1 I2 BO FI RG GU PU MA MN_18 MS OT SC r0 r1 r2 r3 w r5 r6 r7 r8 L Lg 41 zh39
      suffices e : Ev (d + 6, 0, 0, 53, 32, [.val (.ref 1088), .val a_unk], [], (126, 120, L, [Y, T, HA, HB, RA, RB, ST, NS, I0, I1, I2, BO, FI, RG, GU, PU, MA, MN_19, MS, OT, SC], [r0, r1, r2, r3, w, r5, r6, r7, r8], Lg)) o from ev_call (fun v μ => (d + 6, 0, 0, 53, 32, [.val (.ref 1088), .val a_unk], v.toList ++ [], μ)) 3 ze40 e (fun n => Eq.refl _)
      have ze41 := Option.some.inj h
      subst ze41
      exact ev_rete 8 ho (fun n => Eq.refl _)
  · have h := itn h zc3
    suffices e : Ev (d + 6, 0, 0, 53, 7, [.val (.ref 1088), .val a_unk], [], (126, 120, L, [Y, T, HA, HB, RA, RB, ST, NS, I0, I1, I2, BO, FI, RG, GU, PU, MA, MN, MS, OT, SC], [r0, r1, r2, r3, w, r5, r6, r7, r8], Lg)) o from ev_f (c := x1 ≠ 0) _ _ 1  zc3 e (fun n => Eq.refl _)
    have ze42 := Option.some.inj h
    subst ze42
    exact ev_rete 1 ho (fun n => Eq.refl _)
set_option maxRecDepth 1000000 in
set_option maxHeartbeats 4000000 in
theorem K_grp_mr_0 (n : Nat) : (∀ (d : Nat) (Y T HA HB RA RB ST NS I0 I1 I2 BO FI RG GU PU MA MN MS OT SC : Nat → Nat → Int32) (r0 r1 r2 r3 w r5 r6 r7 r8 : Nat) (L : Nat) (Lg : Int64) (r : (Nat → Nat → Int32)), f_grp_mr n 0 MA MN = some r → Ev (d + (5 + n), 0, 0, 46, 0, [.val (.ref 1088)], [], (126, 120, L, [Y, T, HA, HB, RA, RB, ST, NS, I0, I1, I2, BO, FI, RG, GU, PU, MA, MN, MS, OT, SC], [r0, r1, r2, r3, w, r5, r6, r7, r8], Lg)) ((0, none, (126, 120, L, [Y, T, HA, HB, RA, RB, ST, NS, I0, I1, I2, BO, FI, RG, GU, PU, MA, r, MS, OT, SC], [r0, r1, r2, r3, w, r5, r6, r7, r8], Lg)) : AOut)) ∧ (∀ (d : Nat) (Y T HA HB RA RB ST NS I0 I1 I2 BO FI RG GU PU MA MN MS OT SC : Nat → Nat → Int32) (r0 r1 r2 r3 w r5 r6 r7 r8 : Nat) (L : Nat) (Lg : Int64) (r : (Nat → Nat → Int32)), f_grp_mr n 1 MA MN = some r → Ev (d + (5 + n), 0, 0, 47, 0, [.val (.ref 1088)], [], (126, 120, L, [Y, T, HA, HB, RA, RB, ST, NS, I0, I1, I2, BO, FI, RG, GU, PU, MA, MN, MS, OT, SC], [r0, r1, r2, r3, w, r5, r6, r7, r8], Lg)) ((0, none, (126, 120, L, [Y, T, HA, HB, RA, RB, ST, NS, I0, I1, I2, BO, FI, RG, GU, PU, MA, r, MS, OT, SC], [r0, r1, r2, r3, w, r5, r6, r7, r8], Lg)) : AOut)) ∧ (∀ (d : Nat) (Y T HA HB RA RB ST NS I0 I1 I2 BO FI RG GU PU MA MN MS OT SC : Nat → Nat → Int32) (r0 r1 r2 r3 w r5 r6 r7 r8 : Nat) (L : Nat) (Lg : Int64) (r : (Nat → Nat → Int32)), f_grp_mr n 2 MA MN = some r → Ev (d + (5 + n), 0, 0, 48, 0, [.val (.ref 1088), .val a_unk], [], (126, 120, L, [Y, T, HA, HB, RA, RB, ST, NS, I0, I1, I2, BO, FI, RG, GU, PU, MA, MN, MS, OT, SC], [r0, r1, r2, r3, w, r5, r6, r7, r8], Lg)) ((0, none, (126, 120, L, [Y, T, HA, HB, RA, RB, ST, NS, I0, I1, I2, BO, FI, RG, GU, PU, MA, r, MS, OT, SC], [r0, r1, r2, r3, w, r5, r6, r7, r8], Lg)) : AOut)) ∧ (∀ (d : Nat) (Y T HA HB RA RB ST NS I0 I1 I2 BO FI RG GU PU MA MN MS OT SC : Nat → Nat → Int32) (r0 r1 r2 r3 w r5 r6 r7 r8 : Nat) (L : Nat) (Lg : Int64) (r : (Nat → Nat → Int32)), f_grp_mr n 3 MA MN = some r → Ev (d + (5 + n), 0, 0, 49, 0, [.val (.ref 1088), .val a_unk], [], (126, 120, L, [Y, T, HA, HB, RA, RB, ST, NS, I0, I1, I2, BO, FI, RG, GU, PU, MA, MN, MS, OT, SC], [r0, r1, r2, r3, w, r5, r6, r7, r8], Lg)) ((0, none, (126, 120, L, [Y, T, HA, HB, RA, RB, ST, NS, I0, I1, I2, BO, FI, RG, GU, PU, MA, r, MS, OT, SC], [r0, r1, r2, r3, w, r5, r6, r7, r8], Lg)) : AOut)) ∧ (∀ (d : Nat) (Y T HA HB RA RB ST NS I0 I1 I2 BO FI RG GU PU MA MN MS OT SC : Nat → Nat → Int32) (r0 r1 r2 r3 w r5 r6 r7 r8 : Nat) (L : Nat) (Lg : Int64) (r : (Nat → Nat → Int32)), f_grp_mr n 4 MA MN = some r → Ev (d + (5 + n), 0, 0, 50, 0, [.val (.ref 1088)], [], (126, 120, L, [Y, T, HA, HB, RA, RB, ST, NS, I0, I1, I2, BO, FI, RG, GU, PU, MA, MN, MS, OT, SC], [r0, r1, r2, r3, w, r5, r6, r7, r8], Lg)) ((0, none, (126, 120, L, [Y, T, HA, HB, RA, RB, ST, NS, I0, I1, I2, BO, FI, RG, GU, PU, MA, r, MS, OT, SC], [r0, r1, r2, r3, w, r5, r6, r7, r8], Lg)) : AOut)) ∧ (∀ (d : Nat) (Y T HA HB RA RB ST NS I0 I1 I2 BO FI RG GU PU MA MN MS OT SC : Nat → Nat → Int32) (r0 r1 r2 r3 w r5 r6 r7 r8 : Nat) (L : Nat) (Lg : Int64) (r : (Nat → Nat → Int32)), f_grp_mr n 5 MA MN = some r → Ev (d + (5 + n), 0, 0, 53, 0, [.val (.ref 1088), .val a_unk], [], (126, 120, L, [Y, T, HA, HB, RA, RB, ST, NS, I0, I1, I2, BO, FI, RG, GU, PU, MA, MN, MS, OT, SC], [r0, r1, r2, r3, w, r5, r6, r7, r8], Lg)) ((0, none, (126, 120, L, [Y, T, HA, HB, RA, RB, ST, NS, I0, I1, I2, BO, FI, RG, GU, PU, MA, r, MS, OT, SC], [r0, r1, r2, r3, w, r5, r6, r7, r8], Lg)) : AOut)) := by
  induction n with
  | zero => exact ⟨by intros; contradiction, by intros; contradiction, by intros; contradiction, by intros; contradiction, by intros; contradiction, by intros; contradiction⟩
  | succ n ih =>
    obtain ⟨i0, i1, i2, i3, i4, i5⟩ := ih
    refine ⟨?_, ?_, ?_, ?_, ?_, ?_⟩
    · intro d Y T HA HB RA RB ST NS I0 I1 I2 BO FI RG GU PU MA MN MS OT SC r0 r1 r2 r3 w r5 r6 r7 r8 L Lg r h
      rw [show d + (5 + (n + 1)) = d + n + 6 by omega]
      have j0 : ∀ (Y T HA HB RA RB ST NS I0 I1 I2 BO FI RG GU PU MA MN MS OT SC : Nat → Nat → Int32) (r0 r1 r2 r3 w r5 r6 r7 r8 : Nat) (L : Nat) (Lg : Int64) (r : (Nat → Nat → Int32)), f_grp_mr n 0 MA MN = some r → Ev (d + n + 5, 0, 0, 46, 0, [.val (.ref 1088)], [], (126, 120, L, [Y, T, HA, HB, RA, RB, ST, NS, I0, I1, I2, BO, FI, RG, GU, PU, MA, MN, MS, OT, SC], [r0, r1, r2, r3, w, r5, r6, r7, r8], Lg)) ((0, none, (126, 120, L, [Y, T, HA, HB, RA, RB, ST, NS, I0, I1, I2, BO, FI, RG, GU, PU, MA, r, MS, OT, SC], [r0, r1, r2, r3, w, r5, r6, r7, r8], Lg)) : AOut) := by
        intro Y T HA HB RA RB ST NS I0 I1 I2 BO FI RG GU PU MA MN MS OT SC r0 r1 r2 r3 w r5 r6 r7 r8 L Lg r h
        have e := i0 d Y T HA HB RA RB ST NS I0 I1 I2 BO FI RG GU PU MA MN MS OT SC r0 r1 r2 r3 w r5 r6 r7 r8 L Lg r h
        rw [show d + (5 + n) = d + n + 5 by omega] at e
        exact e
      have j1 : ∀ (Y T HA HB RA RB ST NS I0 I1 I2 BO FI RG GU PU MA MN MS OT SC : Nat → Nat → Int32) (r0 r1 r2 r3 w r5 r6 r7 r8 : Nat) (L : Nat) (Lg : Int64) (r : (Nat → Nat → Int32)), f_grp_mr n 1 MA MN = some r → Ev (d + n + 5, 0, 0, 47, 0, [.val (.ref 1088)], [], (126, 120, L, [Y, T, HA, HB, RA, RB, ST, NS, I0, I1, I2, BO, FI, RG, GU, PU, MA, MN, MS, OT, SC], [r0, r1, r2, r3, w, r5, r6, r7, r8], Lg)) ((0, none, (126, 120, L, [Y, T, HA, HB, RA, RB, ST, NS, I0, I1, I2, BO, FI, RG, GU, PU, MA, r, MS, OT, SC], [r0, r1, r2, r3, w, r5, r6, r7, r8], Lg)) : AOut) := by
        intro Y T HA HB RA RB ST NS I0 I1 I2 BO FI RG GU PU MA MN MS OT SC r0 r1 r2 r3 w r5 r6 r7 r8 L Lg r h
        have e := i1 d Y T HA HB RA RB ST NS I0 I1 I2 BO FI RG GU PU MA MN MS OT SC r0 r1 r2 r3 w r5 r6 r7 r8 L Lg r h
        rw [show d + (5 + n) = d + n + 5 by omega] at e
        exact e
      have j2 : ∀ (Y T HA HB RA RB ST NS I0 I1 I2 BO FI RG GU PU MA MN MS OT SC : Nat → Nat → Int32) (r0 r1 r2 r3 w r5 r6 r7 r8 : Nat) (L : Nat) (Lg : Int64) (r : (Nat → Nat → Int32)), f_grp_mr n 2 MA MN = some r → Ev (d + n + 5, 0, 0, 48, 0, [.val (.ref 1088), .val a_unk], [], (126, 120, L, [Y, T, HA, HB, RA, RB, ST, NS, I0, I1, I2, BO, FI, RG, GU, PU, MA, MN, MS, OT, SC], [r0, r1, r2, r3, w, r5, r6, r7, r8], Lg)) ((0, none, (126, 120, L, [Y, T, HA, HB, RA, RB, ST, NS, I0, I1, I2, BO, FI, RG, GU, PU, MA, r, MS, OT, SC], [r0, r1, r2, r3, w, r5, r6, r7, r8], Lg)) : AOut) := by
        intro Y T HA HB RA RB ST NS I0 I1 I2 BO FI RG GU PU MA MN MS OT SC r0 r1 r2 r3 w r5 r6 r7 r8 L Lg r h
        have e := i2 d Y T HA HB RA RB ST NS I0 I1 I2 BO FI RG GU PU MA MN MS OT SC r0 r1 r2 r3 w r5 r6 r7 r8 L Lg r h
        rw [show d + (5 + n) = d + n + 5 by omega] at e
        exact e
      have j3 : ∀ (Y T HA HB RA RB ST NS I0 I1 I2 BO FI RG GU PU MA MN MS OT SC : Nat → Nat → Int32) (r0 r1 r2 r3 w r5 r6 r7 r8 : Nat) (L : Nat) (Lg : Int64) (r : (Nat → Nat → Int32)), f_grp_mr n 3 MA MN = some r → Ev (d + n + 5, 0, 0, 49, 0, [.val (.ref 1088), .val a_unk], [], (126, 120, L, [Y, T, HA, HB, RA, RB, ST, NS, I0, I1, I2, BO, FI, RG, GU, PU, MA, MN, MS, OT, SC], [r0, r1, r2, r3, w, r5, r6, r7, r8], Lg)) ((0, none, (126, 120, L, [Y, T, HA, HB, RA, RB, ST, NS, I0, I1, I2, BO, FI, RG, GU, PU, MA, r, MS, OT, SC], [r0, r1, r2, r3, w, r5, r6, r7, r8], Lg)) : AOut) := by
        intro Y T HA HB RA RB ST NS I0 I1 I2 BO FI RG GU PU MA MN MS OT SC r0 r1 r2 r3 w r5 r6 r7 r8 L Lg r h
        have e := i3 d Y T HA HB RA RB ST NS I0 I1 I2 BO FI RG GU PU MA MN MS OT SC r0 r1 r2 r3 w r5 r6 r7 r8 L Lg r h
        rw [show d + (5 + n) = d + n + 5 by omega] at e
        exact e
      have j4 : ∀ (Y T HA HB RA RB ST NS I0 I1 I2 BO FI RG GU PU MA MN MS OT SC : Nat → Nat → Int32) (r0 r1 r2 r3 w r5 r6 r7 r8 : Nat) (L : Nat) (Lg : Int64) (r : (Nat → Nat → Int32)), f_grp_mr n 4 MA MN = some r → Ev (d + n + 5, 0, 0, 50, 0, [.val (.ref 1088)], [], (126, 120, L, [Y, T, HA, HB, RA, RB, ST, NS, I0, I1, I2, BO, FI, RG, GU, PU, MA, MN, MS, OT, SC], [r0, r1, r2, r3, w, r5, r6, r7, r8], Lg)) ((0, none, (126, 120, L, [Y, T, HA, HB, RA, RB, ST, NS, I0, I1, I2, BO, FI, RG, GU, PU, MA, r, MS, OT, SC], [r0, r1, r2, r3, w, r5, r6, r7, r8], Lg)) : AOut) := by
        intro Y T HA HB RA RB ST NS I0 I1 I2 BO FI RG GU PU MA MN MS OT SC r0 r1 r2 r3 w r5 r6 r7 r8 L Lg r h
        have e := i4 d Y T HA HB RA RB ST NS I0 I1 I2 BO FI RG GU PU MA MN MS OT SC r0 r1 r2 r3 w r5 r6 r7 r8 L Lg r h
        rw [show d + (5 + n) = d + n + 5 by omega] at e
        exact e
      have j5 : ∀ (Y T HA HB RA RB ST NS I0 I1 I2 BO FI RG GU PU MA MN MS OT SC : Nat → Nat → Int32) (r0 r1 r2 r3 w r5 r6 r7 r8 : Nat) (L : Nat) (Lg : Int64) (r : (Nat → Nat → Int32)), f_grp_mr n 5 MA MN = some r → Ev (d + n + 5, 0, 0, 53, 0, [.val (.ref 1088), .val a_unk], [], (126, 120, L, [Y, T, HA, HB, RA, RB, ST, NS, I0, I1, I2, BO, FI, RG, GU, PU, MA, MN, MS, OT, SC], [r0, r1, r2, r3, w, r5, r6, r7, r8], Lg)) ((0, none, (126, 120, L, [Y, T, HA, HB, RA, RB, ST, NS, I0, I1, I2, BO, FI, RG, GU, PU, MA, r, MS, OT, SC], [r0, r1, r2, r3, w, r5, r6, r7, r8], Lg)) : AOut) := by
        intro Y T HA HB RA RB ST NS I0 I1 I2 BO FI RG GU PU MA MN MS OT SC r0 r1 r2 r3 w r5 r6 r7 r8 L Lg r h
        have e := i5 d Y T HA HB RA RB ST NS I0 I1 I2 BO FI RG GU PU MA MN MS OT SC r0 r1 r2 r3 w r5 r6 r7 r8 L Lg r h
        rw [show d + (5 + n) = d + n + 5 by omega] at e
        exact e
      exact R_f_M_readAny_B_0 (d + n) (f_grp_mr n) j0 j1 j2 j3 j4 j5 Y T HA HB RA RB ST NS I0 I1 I2 BO FI RG GU PU MA MN MS OT SC r0 r1 r2 r3 w r5 r6 r7 r8 L Lg h
    · intro d Y T HA HB RA RB ST NS I0 I1 I2 BO FI RG GU PU MA MN MS OT SC r0 r1 r2 r3 w r5 r6 r7 r8 L Lg r h
      rw [show d + (5 + (n + 1)) = d + n + 6 by omega]
      have j0 : ∀ (Y T HA HB RA RB ST NS I0 I1 I2 BO FI RG GU PU MA MN MS OT SC : Nat → Nat → Int32) (r0 r1 r2 r3 w r5 r6 r7 r8 : Nat) (L : Nat) (Lg : Int64) (r : (Nat → Nat → Int32)), f_grp_mr n 0 MA MN = some r → Ev (d + n + 5, 0, 0, 46, 0, [.val (.ref 1088)], [], (126, 120, L, [Y, T, HA, HB, RA, RB, ST, NS, I0, I1, I2, BO, FI, RG, GU, PU, MA, MN, MS, OT, SC], [r0, r1, r2, r3, w, r5, r6, r7, r8], Lg)) ((0, none, (126, 120, L, [Y, T, HA, HB, RA, RB, ST, NS, I0, I1, I2, BO, FI, RG, GU, PU, MA, r, MS, OT, SC], [r0, r1, r2, r3, w, r5, r6, r7, r8], Lg)) : AOut) := by
        intro Y T HA HB RA RB ST NS I0 I1 I2 BO FI RG GU PU MA MN MS OT SC r0 r1 r2 r3 w r5 r6 r7 r8 L Lg r h
        have e := i0 d Y T HA HB RA RB ST NS I0 I1 I2 BO FI RG GU PU MA MN MS OT SC r0 r1 r2 r3 w r5 r6 r7 r8 L Lg r h
        rw [show d + (5 + n) = d + n + 5 by omega] at e
        exact e
      have j1 : ∀ (Y T HA HB RA RB ST NS I0 I1 I2 BO FI RG GU PU MA MN MS OT SC : Nat → Nat → Int32) (r0 r1 r2 r3 w r5 r6 r7 r8 : Nat) (L : Nat) (Lg : Int64) (r : (Nat → Nat → Int32)), f_grp_mr n 1 MA MN = some r → Ev (d + n + 5, 0, 0, 47, 0, [.val (.ref 1088)], [], (126, 120, L, [Y, T, HA, HB, RA, RB, ST, NS, I0, I1, I2, BO, FI, RG, GU, PU, MA, MN, MS, OT, SC], [r0, r1, r2, r3, w, r5, r6, r7, r8], Lg)) ((0, none, (126, 120, L, [Y, T, HA, HB, RA, RB, ST, NS, I0, I1, I2, BO, FI, RG, GU, PU, MA, r, MS, OT, SC], [r0, r1, r2, r3, w, r5, r6, r7, r8], Lg)) : AOut) := by
        intro Y T HA HB RA RB ST NS I0 I1 I2 BO FI RG GU PU MA MN MS OT SC r0 r1 r2 r3 w r5 r6 r7 r8 L Lg r h
        have e := i1 d Y T HA HB RA RB ST NS I0 I1 I2 BO FI RG GU PU MA MN MS OT SC r0 r1 r2 r3 w r5 r6 r7 r8 L Lg r h
        rw [show d + (5 + n) = d + n + 5 by omega] at e
        exact e
      have j2 : ∀ (Y T HA HB RA RB ST NS I0 I1 I2 BO FI RG GU PU MA MN MS OT SC : Nat → Nat → Int32) (r0 r1 r2 r3 w r5 r6 r7 r8 : Nat) (L : Nat) (Lg : Int64) (r : (Nat → Nat → Int32)), f_grp_mr n 2 MA MN = some r → Ev (d + n + 5, 0, 0, 48, 0, [.val (.ref 1088), .val a_unk], [], (126, 120, L, [Y, T, HA, HB, RA, RB, ST, NS, I0, I1, I2, BO, FI, RG, GU, PU, MA, MN, MS, OT, SC], [r0, r1, r2, r3, w, r5, r6, r7, r8], Lg)) ((0, none, (126, 120, L, [Y, T, HA, HB, RA, RB, ST, NS, I0, I1, I2, BO, FI, RG, GU, PU, MA, r, MS, OT, SC], [r0, r1, r2, r3, w, r5, r6, r7, r8], Lg)) : AOut) := by
        intro Y T HA HB RA RB ST NS I0 I1 I2 BO FI RG GU PU MA MN MS OT SC r0 r1 r2 r3 w r5 r6 r7 r8 L Lg r h
        have e := i2 d Y T HA HB RA RB ST NS I0 I1 I2 BO FI RG GU PU MA MN MS OT SC r0 r1 r2 r3 w r5 r6 r7 r8 L Lg r h
        rw [show d + (5 + n) = d + n + 5 by omega] at e
        exact e
      have j3 : ∀ (Y T HA HB RA RB ST NS I0 I1 I2 BO FI RG GU PU MA MN MS OT SC : Nat → Nat → Int32) (r0 r1 r2 r3 w r5 r6 r7 r8 : Nat) (L : Nat) (Lg : Int64) (r : (Nat → Nat → Int32)), f_grp_mr n 3 MA MN = some r → Ev (d + n + 5, 0, 0, 49, 0, [.val (.ref 1088), .val a_unk], [], (126, 120, L, [Y, T, HA, HB, RA, RB, ST, NS, I0, I1, I2, BO, FI, RG, GU, PU, MA, MN, MS, OT, SC], [r0, r1, r2, r3, w, r5, r6, r7, r8], Lg)) ((0, none, (126, 120, L, [Y, T, HA, HB, RA, RB, ST, NS, I0, I1, I2, BO, FI, RG, GU, PU, MA, r, MS, OT, SC], [r0, r1, r2, r3, w, r5, r6, r7, r8], Lg)) : AOut) := by
        intro Y T HA HB RA RB ST NS I0 I1 I2 BO FI RG GU PU MA MN MS OT SC r0 r1 r2 r3 w r5 r6 r7 r8 L Lg r h
        have e := i3 d Y T HA HB RA RB ST NS I0 I1 I2 BO FI RG GU PU MA MN MS OT SC r0 r1 r2 r3 w r5 r6 r7 r8 L Lg r h
        rw [show d + (5 + n) = d + n + 5 by omega] at e
        exact e
      have j4 : ∀ (Y T HA HB RA RB ST NS I0 I1 I2 BO FI RG GU PU MA MN MS OT SC : Nat → Nat → Int32) (r0 r1 r2 r3 w r5 r6 r7 r8 : Nat) (L : Nat) (Lg : Int64) (r : (Nat → Nat → Int32)), f_grp_mr n 4 MA MN = some r → Ev (d + n + 5, 0, 0, 50, 0, [.val (.ref 1088)], [], (126, 120, L, [Y, T, HA, HB, RA, RB, ST, NS, I0, I1, I2, BO, FI, RG, GU, PU, MA, MN, MS, OT, SC], [r0, r1, r2, r3, w, r5, r6, r7, r8], Lg)) ((0, none, (126, 120, L, [Y, T, HA, HB, RA, RB, ST, NS, I0, I1, I2, BO, FI, RG, GU, PU, MA, r, MS, OT, SC], [r0, r1, r2, r3, w, r5, r6, r7, r8], Lg)) : AOut) := by
        intro Y T HA HB RA RB ST NS I0 I1 I2 BO FI RG GU PU MA MN MS OT SC r0 r1 r2 r3 w r5 r6 r7 r8 L Lg r h
        have e := i4 d Y T HA HB RA RB ST NS I0 I1 I2 BO FI RG GU PU MA MN MS OT SC r0 r1 r2 r3 w r5 r6 r7 r8 L Lg r h
        rw [show d + (5 + n) = d + n + 5 by omega] at e
        exact e
      have j5 : ∀ (Y T HA HB RA RB ST NS I0 I1 I2 BO FI RG GU PU MA MN MS OT SC : Nat → Nat → Int32) (r0 r1 r2 r3 w r5 r6 r7 r8 : Nat) (L : Nat) (Lg : Int64) (r : (Nat → Nat → Int32)), f_grp_mr n 5 MA MN = some r → Ev (d + n + 5, 0, 0, 53, 0, [.val (.ref 1088), .val a_unk], [], (126, 120, L, [Y, T, HA, HB, RA, RB, ST, NS, I0, I1, I2, BO, FI, RG, GU, PU, MA, MN, MS, OT, SC], [r0, r1, r2, r3, w, r5, r6, r7, r8], Lg)) ((0, none, (126, 120, L, [Y, T, HA, HB, RA, RB, ST, NS, I0, I1, I2, BO, FI, RG, GU, PU, MA, r, MS, OT, SC], [r0, r1, r2, r3, w, r5, r6, r7, r8], Lg)) : AOut) := by
        intro Y T HA HB RA RB ST NS I0 I1 I2 BO FI RG GU PU MA MN MS OT SC r0 r1 r2 r3 w r5 r6 r7 r8 L Lg r h
        have e := i5 d Y T HA HB RA RB ST NS I0 I1 I2 BO FI RG GU PU MA MN MS OT SC r0 r1 r2 r3 w r5 r6 r7 r8 L Lg r h
        rw [show d + (5 + n) = d + n + 5 by omega] at e
        exact e
      exact R_f_M_readAll_B_0 (d + n) (f_grp_mr n) j0 j1 j2 j3 j4 j5 Y T HA HB RA RB ST NS I0 I1 I2 BO FI RG GU PU MA MN MS OT SC r0 r1 r2 r3 w r5 r6 r7 r8 L Lg h
    · intro d Y T HA HB RA RB ST NS I0 I1 I2 BO FI RG GU PU MA MN MS OT SC r0 r1 r2 r3 w r5 r6 r7 r8 L Lg r h
      rw [show d + (5 + (n + 1)) = d + n + 6 by omega]
      have j0 : ∀ (Y T HA HB RA RB ST NS I0 I1 I2 BO FI RG GU PU MA MN MS OT SC : Nat → Nat → Int32) (r0 r1 r2 r3 w r5 r6 r7 r8 : Nat) (L : Nat) (Lg : Int64) (r : (Nat → Nat → Int32)), f_grp_mr n 0 MA MN = some r → Ev (d + n + 5, 0, 0, 46, 0, [.val (.ref 1088)], [], (126, 120, L, [Y, T, HA, HB, RA, RB, ST, NS, I0, I1, I2, BO, FI, RG, GU, PU, MA, MN, MS, OT, SC], [r0, r1, r2, r3, w, r5, r6, r7, r8], Lg)) ((0, none, (126, 120, L, [Y, T, HA, HB, RA, RB, ST, NS, I0, I1, I2, BO, FI, RG, GU, PU, MA, r, MS, OT, SC], [r0, r1, r2, r3, w, r5, r6, r7, r8], Lg)) : AOut) := by
        intro Y T HA HB RA RB ST NS I0 I1 I2 BO FI RG GU PU MA MN MS OT SC r0 r1 r2 r3 w r5 r6 r7 r8 L Lg r h
        have e := i0 d Y T HA HB RA RB ST NS I0 I1 I2 BO FI RG GU PU MA MN MS OT SC r0 r1 r2 r3 w r5 r6 r7 r8 L Lg r h
        rw [show d + (5 + n) = d + n + 5 by omega] at e
        exact e
      have j1 : ∀ (Y T HA HB RA RB ST NS I0 I1 I2 BO FI RG GU PU MA MN MS OT SC : Nat → Nat → Int32) (r0 r1 r2 r3 w r5 r6 r7 r8 : Nat) (L : Nat) (Lg : Int64) (r : (Nat → Nat → Int32)), f_grp_mr n 1 MA MN = some r → Ev (d + n + 5, 0, 0, 47, 0, [.val (.ref 1088)], [], (126, 120, L, [Y, T, HA, HB, RA, RB, ST, NS, I0, I1, I2, BO, FI, RG, GU, PU, MA, MN, MS, OT, SC], [r0, r1, r2, r3, w, r5, r6, r7, r8], Lg)) ((0, none, (126, 120, L, [Y, T, HA, HB, RA, RB, ST, NS, I0, I1, I2, BO, FI, RG, GU, PU, MA, r, MS, OT, SC], [r0, r1, r2, r3, w, r5, r6, r7, r8], Lg)) : AOut) := by
        intro Y T HA HB RA RB ST NS I0 I1 I2 BO FI RG GU PU MA MN MS OT SC r0 r1 r2 r3 w r5 r6 r7 r8 L Lg r h
        have e := i1 d Y T HA HB RA RB ST NS I0 I1 I2 BO FI RG GU PU MA MN MS OT SC r0 r1 r2 r3 w r5 r6 r7 r8 L Lg r h
        rw [show d + (5 + n) = d + n + 5 by omega] at e
        exact e
      have j2 : ∀ (Y T HA HB RA RB ST NS I0 I1 I2 BO FI RG GU PU MA MN MS OT SC : Nat → Nat → Int32) (r0 r1 r2 r3 w r5 r6 r7 r8 : Nat) (L : Nat) (Lg : Int64) (r : (Nat → Nat → Int32)), f_grp_mr n 2 MA MN = some r → Ev (d + n + 5, 0, 0, 48, 0, [.val (.ref 1088), .val a_unk], [], (126, 120, L, [Y, T, HA, HB, RA, RB, ST, NS, I0, I1, I2, BO, FI, RG, GU, PU, MA, MN, MS, OT, SC], [r0, r1, r2, r3, w, r5, r6, r7, r8], Lg)) ((0, none, (126, 120, L, [Y, T, HA, HB, RA, RB, ST, NS, I0, I1, I2, BO, FI, RG, GU, PU, MA, r, MS, OT, SC], [r0, r1, r2, r3, w, r5, r6, r7, r8], Lg)) : AOut) := by
        intro Y T HA HB RA RB ST NS I0 I1 I2 BO FI RG GU PU MA MN MS OT SC r0 r1 r2 r3 w r5 r6 r7 r8 L Lg r h
        have e := i2 d Y T HA HB RA RB ST NS I0 I1 I2 BO FI RG GU PU MA MN MS OT SC r0 r1 r2 r3 w r5 r6 r7 r8 L Lg r h
        rw [show d + (5 + n) = d + n + 5 by omega] at e
        exact e
      have j3 : ∀ (Y T HA HB RA RB ST NS I0 I1 I2 BO FI RG GU PU MA MN MS OT SC : Nat → Nat → Int32) (r0 r1 r2 r3 w r5 r6 r7 r8 : Nat) (L : Nat) (Lg : Int64) (r : (Nat → Nat → Int32)), f_grp_mr n 3 MA MN = some r → Ev (d + n + 5, 0, 0, 49, 0, [.val (.ref 1088), .val a_unk], [], (126, 120, L, [Y, T, HA, HB, RA, RB, ST, NS, I0, I1, I2, BO, FI, RG, GU, PU, MA, MN, MS, OT, SC], [r0, r1, r2, r3, w, r5, r6, r7, r8], Lg)) ((0, none, (126, 120, L, [Y, T, HA, HB, RA, RB, ST, NS, I0, I1, I2, BO, FI, RG, GU, PU, MA, r, MS, OT, SC], [r0, r1, r2, r3, w, r5, r6, r7, r8], Lg)) : AOut) := by
        intro Y T HA HB RA RB ST NS I0 I1 I2 BO FI RG GU PU MA MN MS OT SC r0 r1 r2 r3 w r5 r6 r7 r8 L Lg r h
        have e := i3 d Y T HA HB RA RB ST NS I0 I1 I2 BO FI RG GU PU MA MN MS OT SC r0 r1 r2 r3 w r5 r6 r7 r8 L Lg r h
        rw [show d + (5 + n) = d + n + 5 by omega] at e
        exact e
      have j4 : ∀ (Y T HA HB RA RB ST NS I0 I1 I2 BO FI RG GU PU MA MN MS OT SC : Nat → Nat → Int32) (r0 r1 r2 r3 w r5 r6 r7 r8 : Nat) (L : Nat) (Lg : Int64) (r : (Nat → Nat → Int32)), f_grp_mr n 4 MA MN = some r → Ev (d + n + 5, 0, 0, 50, 0, [.val (.ref 1088)], [], (126, 120, L, [Y, T, HA, HB, RA, RB, ST, NS, I0, I1, I2, BO, FI, RG, GU, PU, MA, MN, MS, OT, SC], [r0, r1, r2, r3, w, r5, r6, r7, r8], Lg)) ((0, none, (126, 120, L, [Y, T, HA, HB, RA, RB, ST, NS, I0, I1, I2, BO, FI, RG, GU, PU, MA, r, MS, OT, SC], [r0, r1, r2, r3, w, r5, r6, r7, r8], Lg)) : AOut) := by
        intro Y T HA HB RA RB ST NS I0 I1 I2 BO FI RG GU PU MA MN MS OT SC r0 r1 r2 r3 w r5 r6 r7 r8 L Lg r h
        have e := i4 d Y T HA HB RA RB ST NS I0 I1 I2 BO FI RG GU PU MA MN MS OT SC r0 r1 r2 r3 w r5 r6 r7 r8 L Lg r h
        rw [show d + (5 + n) = d + n + 5 by omega] at e
        exact e
      have j5 : ∀ (Y T HA HB RA RB ST NS I0 I1 I2 BO FI RG GU PU MA MN MS OT SC : Nat → Nat → Int32) (r0 r1 r2 r3 w r5 r6 r7 r8 : Nat) (L : Nat) (Lg : Int64) (r : (Nat → Nat → Int32)), f_grp_mr n 5 MA MN = some r → Ev (d + n + 5, 0, 0, 53, 0, [.val (.ref 1088), .val a_unk], [], (126, 120, L, [Y, T, HA, HB, RA, RB, ST, NS, I0, I1, I2, BO, FI, RG, GU, PU, MA, MN, MS, OT, SC], [r0, r1, r2, r3, w, r5, r6, r7, r8], Lg)) ((0, none, (126, 120, L, [Y, T, HA, HB, RA, RB, ST, NS, I0, I1, I2, BO, FI, RG, GU, PU, MA, r, MS, OT, SC], [r0, r1, r2, r3, w, r5, r6, r7, r8], Lg)) : AOut) := by
        intro Y T HA HB RA RB ST NS I0 I1 I2 BO FI RG GU PU MA MN MS OT SC r0 r1 r2 r3 w r5 r6 r7 r8 L Lg r h
        have e := i5 d Y T HA HB RA RB ST NS I0 I1 I2 BO FI RG GU PU MA MN MS OT SC r0 r1 r2 r3 w r5 r6 r7 r8 L Lg r h
        rw [show d + (5 + n) = d + n + 5 by omega] at e
        exact e
      exact R_f_M_readOne_B_0 (d + n) (f_grp_mr n) j0 j1 j2 j3 j4 j5 Y T HA HB RA RB ST NS I0 I1 I2 BO FI RG GU PU MA MN MS OT SC r0 r1 r2 r3 w r5 r6 r7 r8 L Lg h
    · intro d Y T HA HB RA RB ST NS I0 I1 I2 BO FI RG GU PU MA MN MS OT SC r0 r1 r2 r3 w r5 r6 r7 r8 L Lg r h
      rw [show d + (5 + (n + 1)) = d + n + 6 by omega]
      have j0 : ∀ (Y T HA HB RA RB ST NS I0 I1 I2 BO FI RG GU PU MA MN MS OT SC : Nat → Nat → Int32) (r0 r1 r2 r3 w r5 r6 r7 r8 : Nat) (L : Nat) (Lg : Int64) (r : (Nat → Nat → Int32)), f_grp_mr n 0 MA MN = some r → Ev (d + n + 5, 0, 0, 46, 0, [.val (.ref 1088)], [], (126, 120, L, [Y, T, HA, HB, RA, RB, ST, NS, I0, I1, I2, BO, FI, RG, GU, PU, MA, MN, MS, OT, SC], [r0, r1, r2, r3, w, r5, r6, r7, r8], Lg)) ((0, none, (126, 120, L, [Y, T, HA, HB, RA, RB, ST, NS, I0, I1, I2, BO, FI, RG, GU, PU, MA, r, MS, OT, SC], [r0, r1, r2, r3, w, r5, r6, r7, r8], Lg)) : AOut) := by
        intro Y T HA HB RA RB ST NS I0 I1 I2 BO FI RG GU PU MA MN MS OT SC r0 r1 r2 r3 w r5 r6 r7 r8 L Lg r h
        have e := i0 d Y T HA HB RA RB ST NS I0 I1 I2 BO FI RG GU PU MA MN MS OT SC r0 r1 r2 r3 w r5 r6 r7 r8 L Lg r h
        rw [show d + (5 + n) = d + n + 5 by omega] at e
        exact e
      have j1 : ∀ (Y T HA HB RA RB ST NS I0 I1 I2 BO FI RG GU PU MA MN MS OT SC : Nat → Nat → Int32) (r0 r1 r2 r3 w r5 r6 r7 r8 : Nat) (L : Nat) (Lg : Int64) (r : (Nat → Nat → Int32)), f_grp_mr n 1 MA MN = some r → Ev (d + n + 5, 0, 0, 47, 0, [.val (.ref 1088)], [], (126, 120, L, [Y, T, HA, HB, RA, RB, ST, NS, I0, I1, I2, BO, FI, RG, GU, PU, MA, MN, MS, OT, SC], [r0, r1, r2, r3, w, r5, r6, r7, r8], Lg)) ((0, none, (126, 120, L, [Y, T, HA, HB, RA, RB, ST, NS, I0, I1, I2, BO, FI, RG, GU, PU, MA, r, MS, OT, SC], [r0, r1, r2, r3, w, r5, r6, r7, r8], Lg)) : AOut) := by
        intro Y T HA HB RA RB ST NS I0 I1 I2 BO FI RG GU PU MA MN MS OT SC r0 r1 r2 r3 w r5 r6 r7 r8 L Lg r h
        have e := i1 d Y T HA HB RA RB ST NS I0 I1 I2 BO FI RG GU PU MA MN MS OT SC r0 r1 r2 r3 w r5 r6 r7 r8 L Lg r h
        rw [show d + (5 + n) = d + n + 5 by omega] at e
        exact e
      have j2 : ∀ (Y T HA HB RA RB ST NS I0 I1 I2 BO FI RG GU PU MA MN MS OT SC : Nat → Nat → Int32) (r0 r1 r2 r3 w r5 r6 r7 r8 : Nat) (L : Nat) (Lg : Int64) (r : (Nat → Nat → Int32)), f_grp_mr n 2 MA MN = some r → Ev (d + n + 5, 0, 0, 48, 0, [.val (.ref 1088), .val a_unk], [], (126, 120, L, [Y, T, HA, HB, RA, RB, ST, NS, I0, I1, I2, BO, FI, RG, GU, PU, MA, MN, MS, OT, SC], [r0, r1, r2, r3, w, r5, r6, r7, r8], Lg)) ((0, none, (126, 120, L, [Y, T, HA, HB, RA, RB, ST, NS, I0, I1, I2, BO, FI, RG, GU, PU, MA, r, MS, OT, SC], [r0, r1, r2, r3, w, r5, r6, r7, r8], Lg)) : AOut) := by
        intro Y T HA HB RA RB ST NS I0 I1 I2 BO FI RG GU PU MA MN MS OT SC r0 r1 r2 r3 w r5 r6 r7 r8 L Lg r h
        have e := i2 d Y T HA HB RA RB ST NS I0 I1 I2 BO FI RG GU PU MA MN MS OT SC r0 r1 r2 r3 w r5 r6 r7 r8 L Lg r h
        rw [show d + (5 + n) = d + n + 5 by omega] at e
        exact e
      have j3 : ∀ (Y T HA HB RA RB ST NS I0 I1 I2 BO FI RG GU PU MA MN MS OT SC : Nat → Nat → Int32) (r0 r1 r2 r3 w r5 r6 r7 r8 : Nat) (L : Nat) (Lg : Int64) (r : (Nat → Nat → Int32)), f_grp_mr n 3 MA MN = some r → Ev (d + n + 5, 0, 0, 49, 0, [.val (.ref 1088), .val a_unk], [], (126, 120, L, [Y, T, HA, HB, RA, RB, ST, NS, I0, I1, I2, BO, FI, RG, GU, PU, MA, MN, MS, OT, SC], [r0, r1, r2, r3, w, r5, r6, r7, r8], Lg)) ((0, none, (126, 120, L, [Y, T, HA, HB, RA, RB, ST, NS, I0, I1, I2, BO, FI, RG, GU, PU, MA, r, MS, OT, SC], [r0, r1, r2, r3, w, r5, r6, r7, r8], Lg)) : AOut) := by
        intro Y T HA HB RA RB ST NS I0 I1 I2 BO FI RG GU PU MA MN MS OT SC r0 r1 r2 r3 w r5 r6 r7 r8 L Lg r h
        have e := i3 d Y T HA HB RA RB ST NS I0 I1 I2 BO FI RG GU PU MA MN MS OT SC r0 r1 r2 r3 w r5 r6 r7 r8 L Lg r h
        rw [show d + (5 + n) = d + n + 5 by omega] at e
        exact e
      have j4 : ∀ (Y T HA HB RA RB ST NS I0 I1 I2 BO FI RG GU PU MA MN MS OT SC : Nat → Nat → Int32) (r0 r1 r2 r3 w r5 r6 r7 r8 : Nat) (L : Nat) (Lg : Int64) (r : (Nat → Nat → Int32)), f_grp_mr n 4 MA MN = some r → Ev (d + n + 5, 0, 0, 50, 0, [.val (.ref 1088)], [], (126, 120, L, [Y, T, HA, HB, RA, RB, ST, NS, I0, I1, I2, BO, FI, RG, GU, PU, MA, MN, MS, OT, SC], [r0, r1, r2, r3, w, r5, r6, r7, r8], Lg)) ((0, none, (126, 120, L, [Y, T, HA, HB, RA, RB, ST, NS, I0, I1, I2, BO, FI, RG, GU, PU, MA, r, MS, OT, SC], [r0, r1, r2, r3, w, r5, r6, r7, r8], Lg)) : AOut) := by
        intro Y T HA HB RA RB ST NS I0 I1 I2 BO FI RG GU PU MA MN MS OT SC r0 r1 r2 r3 w r5 r6 r7 r8 L Lg r h
        have e := i4 d Y T HA HB RA RB ST NS I0 I1 I2 BO FI RG GU PU MA MN MS OT SC r0 r1 r2 r3 w r5 r6 r7 r8 L Lg r h
        rw [show d + (5 + n) = d + n + 5 by omega] at e
        exact e
      have j5 : ∀ (Y T HA HB RA RB ST NS I0 I1 I2 BO FI RG GU PU MA MN MS OT SC : Nat → Nat → Int32) (r0 r1 r2 r3 w r5 r6 r7 r8 : Nat) (L : Nat) (Lg : Int64) (r : (Nat → Nat → Int32)), f_grp_mr n 5 MA MN = some r → Ev (d + n + 5, 0, 0, 53, 0, [.val (.ref 1088), .val a_unk], [], (126, 120, L, [Y, T, HA, HB, RA, RB, ST, NS, I0, I1, I2, BO, FI, RG, GU, PU, MA, MN, MS, OT, SC], [r0, r1, r2, r3, w, r5, r6, r7, r8], Lg)) ((0, none, (126, 120, L, [Y, T, HA, HB, RA, RB, ST, NS, I0, I1, I2, BO, FI, RG, GU, PU, MA, r, MS, OT, SC], [r0, r1, r2, r3, w, r5, r6, r7, r8], Lg)) : AOut) := by
        intro Y T HA HB RA RB ST NS I0 I1 I2 BO FI RG GU PU MA MN MS OT SC r0 r1 r2 r3 w r5 r6 r7 r8 L Lg r h
        have e := i5 d Y T HA HB RA RB ST NS I0 I1 I2 BO FI RG GU PU MA MN MS OT SC r0 r1 r2 r3 w r5 r6 r7 r8 L Lg r h
        rw [show d + (5 + n) = d + n + 5 by omega] at e
        exact e
      exact R_f_M_readSum_B_0 (d + n) (f_grp_mr n) j0 j1 j2 j3 j4 j5 Y T HA HB RA RB ST NS I0 I1 I2 BO FI RG GU PU MA MN MS OT SC r0 r1 r2 r3 w r5 r6 r7 r8 L Lg h
    · intro d Y T HA HB RA RB ST NS I0 I1 I2 BO FI RG GU PU MA MN MS OT SC r0 r1 r2 r3 w r5 r6 r7 r8 L Lg r h
      rw [show d + (5 + (n + 1)) = d + n + 6 by omega]
      have j0 : ∀ (Y T HA HB RA RB ST NS I0 I1 I2 BO FI RG GU PU MA MN MS OT SC : Nat → Nat → Int32) (r0 r1 r2 r3 w r5 r6 r7 r8 : Nat) (L : Nat) (Lg : Int64) (r : (Nat → Nat → Int32)), f_grp_mr n 0 MA MN = some r → Ev (d + n + 5, 0, 0, 46, 0, [.val (.ref 1088)], [], (126, 120, L, [Y, T, HA, HB, RA, RB, ST, NS, I0, I1, I2, BO, FI, RG, GU, PU, MA, MN, MS, OT, SC], [r0, r1, r2, r3, w, r5, r6, r7, r8], Lg)) ((0, none, (126, 120, L, [Y, T, HA, HB, RA, RB, ST, NS, I0, I1, I2, BO, FI, RG, GU, PU, MA, r, MS, OT, SC], [r0, r1, r2, r3, w, r5, r6, r7, r8], Lg)) : AOut) := by
        intro Y T HA HB RA RB ST NS I0 I1 I2 BO FI RG GU PU MA MN MS OT SC r0 r1 r2 r3 w r5 r6 r7 r8 L Lg r h
        have e := i0 d Y T HA HB RA RB ST NS I0 I1 I2 BO FI RG GU PU MA MN MS OT SC r0 r1 r2 r3 w r5 r6 r7 r8 L Lg r h
        rw [show d + (5 + n) = d + n + 5 by omega] at e
        exact e
      have j1 : ∀ (Y T HA HB RA RB ST NS I0 I1 I2 BO FI RG GU PU MA MN MS OT SC : Nat → Nat → Int32) (r0 r1 r2 r3 w r5 r6 r7 r8 : Nat) (L : Nat) (Lg : Int64) (r : (Nat → Nat → Int32)), f_grp_mr n 1 MA MN = some r → Ev (d + n + 5, 0, 0, 47, 0, [.val (.ref 1088)], [], (126, 120, L, [Y, T, HA, HB, RA, RB, ST, NS, I0, I1, I2, BO, FI, RG, GU, PU, MA, MN, MS, OT, SC], [r0, r1, r2, r3, w, r5, r6, r7, r8], Lg)) ((0, none, (126, 120, L, [Y, T, HA, HB, RA, RB, ST, NS, I0, I1, I2, BO, FI, RG, GU, PU, MA, r, MS, OT, SC], [r0, r1, r2, r3, w, r5, r6, r7, r8], Lg)) : AOut) := by
        intro Y T HA HB RA RB ST NS I0 I1 I2 BO FI RG GU PU MA MN MS OT SC r0 r1 r2 r3 w r5 r6 r7 r8 L Lg r h
        have e := i1 d Y T HA HB RA RB ST NS I0 I1 I2 BO FI RG GU PU MA MN MS OT SC r0 r1 r2 r3 w r5 r6 r7 r8 L Lg r h
        rw [show d + (5 + n) = d + n + 5 by omega] at e
        exact e
      have j2 : ∀ (Y T HA HB RA RB ST NS I0 I1 I2 BO FI RG GU PU MA MN MS OT SC : Nat → Nat → Int32) (r0 r1 r2 r3 w r5 r6 r7 r8 : Nat) (L : Nat) (Lg : Int64) (r : (Nat → Nat → Int32)), f_grp_mr n 2 MA MN = some r → Ev (d + n + 5, 0, 0, 48, 0, [.val (.ref 1088), .val a_unk], [], (126, 120, L, [Y, T, HA, HB, RA, RB, ST, NS, I0, I1, I2, BO, FI, RG, GU, PU, MA, MN, MS, OT, SC], [r0, r1, r2, r3, w, r5, r6, r7, r8], Lg)) ((0, none, (126, 120, L, [Y, T, HA, HB, RA, RB, ST, NS, I0, I1, I2, BO, FI, RG, GU, PU, MA, r, MS, OT, SC], [r0, r1, r2, r3, w, r5, r6, r7, r8], Lg)) : AOut) := by
        intro Y T HA HB RA RB ST NS I0 I1 I2 BO FI RG GU PU MA MN MS OT SC r0 r1 r2 r3 w r5 r6 r7 r8 L Lg r h
        have e := i2 d Y T HA HB RA RB ST NS I0 I1 I2 BO FI RG GU PU MA MN MS OT SC r0 r1 r2 r3 w r5 r6 r7 r8 L Lg r h
        rw [show d + (5 + n) = d + n + 5 by omega] at e
        exact e
      have j3 : ∀ (Y T HA HB RA RB ST NS I0 I1 I2 BO FI RG GU PU MA MN MS OT SC : Nat → Nat → Int32) (r0 r1 r2 r3 w r5 r6 r7 r8 : Nat) (L : Nat) (Lg : Int64) (r : (Nat → Nat → Int32)), f_grp_mr n 3 MA MN = some r → Ev (d + n + 5, 0, 0, 49, 0, [.val (.ref 1088), .val a_unk], [], (126, 120, L, [Y, T, HA, HB, RA, RB, ST, NS, I0, I1, I2, BO, FI, RG, GU, PU, MA, MN, MS, OT, SC], [r0, r1, r2, r3, w, r5, r6, r7, r8], Lg)) ((0, none, (126, 120, L, [Y, T, HA, HB, RA, RB, ST, NS, I0, I1, I2, BO, FI, RG, GU, PU, MA, r, MS, OT, SC], [r0, r1, r2, r3, w, r5, r6, r7, r8], Lg)) : AOut) := by
        intro Y T HA HB RA RB ST NS I0 I1 I2 BO FI RG GU PU MA MN MS OT SC r0 r1 r2 r3 w r5 r6 r7 r8 L Lg r h
        have e := i3 d Y T HA HB RA RB ST NS I0 I1 I2 BO FI RG GU PU MA MN MS OT SC r0 r1 r2 r3 w r5 r6 r7 r8 L Lg r h
        rw [show d + (5 + n) = d + n + 5 by omega] at e
        exact e
      have j4 : ∀ (Y T HA HB RA RB ST NS I0 I1 I2 BO FI RG GU PU MA MN MS OT SC : Nat → Nat → Int32) (r0 r1 r2 r3 w r5 r6 r7 r8 : Nat) (L : Nat) (Lg : Int64) (r : (Nat → Nat → Int32)), f_grp_mr n 4 MA MN = some r → Ev (d + n + 5, 0, 0, 50, 0, [.val (.ref 1088)], [], (126, 120, L, [Y, T, HA, HB, RA, RB, ST, NS, I0, I1, I2, BO, FI, RG, GU, PU, MA, MN, MS, OT, SC], [r0, r1, r2, r3, w, r5, r6, r7, r8], Lg)) ((0, none, (126, 120, L, [Y, T, HA, HB, RA, RB, ST, NS, I0, I1, I2, BO, FI, RG, GU, PU, MA, r, MS, OT, SC], [r0, r1, r2, r3, w, r5, r6, r7, r8], Lg)) : AOut) := by
        intro Y T HA HB RA RB ST NS I0 I1 I2 BO FI RG GU PU MA MN MS OT SC r0 r1 r2 r3 w r5 r6 r7 r8 L Lg r h
        have e := i4 d Y T HA HB RA RB ST NS I0 I1 I2 BO FI RG GU PU MA MN MS OT SC r0 r1 r2 r3 w r5 r6 r7 r8 L Lg r h
        rw [show d + (5 + n) = d + n + 5 by omega] at e
        exact e
      have j5 : ∀ (Y T HA HB RA RB ST NS I0 I1 I2 BO FI RG GU PU MA MN MS OT SC : Nat → Nat → Int32) (r0 r1 r2 r3 w r5 r6 r7 r8 : Nat) (L : Nat) (Lg : Int64) (r : (Nat → Nat → Int32)), f_grp_mr n 5 MA MN = some r → Ev (d + n + 5, 0, 0, 53, 0, [.val (.ref 1088), .val a_unk], [], (126, 120, L, [Y, T, HA, HB, RA, RB, ST, NS, I0, I1, I2, BO, FI, RG, GU, PU, MA, MN, MS, OT, SC], [r0, r1, r2, r3, w, r5, r6, r7, r8], Lg)) ((0, none, (126, 120, L, [Y, T, HA, HB, RA, RB, ST, NS, I0, I1, I2, BO, FI, RG, GU, PU, MA, r, MS, OT, SC], [r0, r1, r2, r3, w, r5, r6, r7, r8], Lg)) : AOut) := by
        intro Y T HA HB RA RB ST NS I0 I1 I2 BO FI RG GU PU MA MN MS OT SC r0 r1 r2 r3 w r5 r6 r7 r8 L Lg r h
        have e := i5 d Y T HA HB RA RB ST NS I0 I1 I2 BO FI RG GU PU MA MN MS OT SC r0 r1 r2 r3 w r5 r6 r7 r8 L Lg r h
        rw [show d + (5 + n) = d + n + 5 by omega] at e
        exact e
      exact R_f_M_readProduct_B_0 (d + n) (f_grp_mr n) j0 j1 j2 j3 j4 j5 Y T HA HB RA RB ST NS I0 I1 I2 BO FI RG GU PU MA MN MS OT SC r0 r1 r2 r3 w r5 r6 r7 r8 L Lg h
    · intro d Y T HA HB RA RB ST NS I0 I1 I2 BO FI RG GU PU MA MN MS OT SC r0 r1 r2 r3 w r5 r6 r7 r8 L Lg r h
      rw [show d + (5 + (n + 1)) = d + n + 6 by omega]
      have j0 : ∀ (Y T HA HB RA RB ST NS I0 I1 I2 BO FI RG GU PU MA MN MS OT SC : Nat → Nat → Int32) (r0 r1 r2 r3 w r5 r6 r7 r8 : Nat) (L : Nat) (Lg : Int64) (r : (Nat → Nat → Int32)), f_grp_mr n 0 MA MN = some r → Ev (d + n + 5, 0, 0, 46, 0, [.val (.ref 1088)], [], (126, 120, L, [Y, T, HA, HB, RA, RB, ST, NS, I0, I1, I2, BO, FI, RG, GU, PU, MA, MN, MS, OT, SC], [r0, r1, r2, r3, w, r5, r6, r7, r8], Lg)) ((0, none, (126, 120, L, [Y, T, HA, HB, RA, RB, ST, NS, I0, I1, I2, BO, FI, RG, GU, PU, MA, r, MS, OT, SC], [r0, r1, r2, r3, w, r5, r6, r7, r8], Lg)) : AOut) := by
        intro Y T HA HB RA RB ST NS I0 I1 I2 BO FI RG GU PU MA MN MS OT SC r0 r1 r2 r3 w r5 r6 r7 r8 L Lg r h
        have e := i0 d Y T HA HB RA RB ST NS I0 I1 I2 BO FI RG GU PU MA MN MS OT SC r0 r1 r2 r3 w r5 r6 r7 r8 L Lg r h
        rw [show d + (5 + n) = d + n + 5 by omega] at e
        exact e
      have j1 : ∀ (Y T HA HB RA RB ST NS I0 I1 I2 BO FI RG GU PU MA MN MS OT SC : Nat → Nat → Int32) (r0 r1 r2 r3 w r5 r6 r7 r8 : Nat) (L : Nat) (Lg : Int64) (r : (Nat → Nat → Int32)), f_grp_mr n 1 MA MN = some r → Ev (d + n + 5, 0, 0, 47, 0, [.val (.ref 1088)], [], (126, 120, L, [Y, T, HA, HB, RA, RB, ST, NS, I0, I1, I2, BO, FI, RG, GU, PU, MA, MN, MS, OT, SC], [r0, r1, r2, r3, w, r5, r6, r7, r8], Lg)) ((0, none, (126, 120, L, [Y, T, HA, HB, RA, RB, ST, NS, I0, I1, I2, BO, FI, RG, GU, PU, MA, r, MS, OT, SC], [r0, r1, r2, r3, w, r5, r6, r7, r8], Lg)) : AOut) := by
        intro Y T HA HB RA RB ST NS I0 I1 I2 BO FI RG GU PU MA MN MS OT SC r0 r1 r2 r3 w r5 r6 r7 r8 L Lg r h
        have e := i1 d Y T HA HB RA RB ST NS I0 I1 I2 BO FI RG GU PU MA MN MS OT SC r0 r1 r2 r3 w r5 r6 r7 r8 L Lg r h
        rw [show d + (5 + n) = d + n + 5 by omega] at e
        exact e
      have j2 : ∀ (Y T HA HB RA RB ST NS I0 I1 I2 BO FI RG GU PU MA MN MS OT SC : Nat → Nat → Int32) (r0 r1 r2 r3 w r5 r6 r7 r8 : Nat) (L : Nat) (Lg : Int64) (r : (Nat → Nat → Int32)), f_grp_mr n 2 MA MN = some r → Ev (d + n + 5, 0, 0, 48, 0, [.val (.ref 1088), .val a_unk], [], (126, 120, L, [Y, T, HA, HB, RA, RB, ST, NS, I0, I1, I2, BO, FI, RG, GU, PU, MA, MN, MS, OT, SC], [r0, r1, r2, r3, w, r5, r6, r7, r8], Lg)) ((0, none, (126, 120, L, [Y, T, HA, HB, RA, RB, ST, NS, I0, I1, I2, BO, FI, RG, GU, PU, MA, r, MS, OT, SC], [r0, r1, r2, r3, w, r5, r6, r7, r8], Lg)) : AOut) := by
        intro Y T HA HB RA RB ST NS I0 I1 I2 BO FI RG GU PU MA MN MS OT SC r0 r1 r2 r3 w r5 r6 r7 r8 L Lg r h
        have e := i2 d Y T HA HB RA RB ST NS I0 I1 I2 BO FI RG GU PU MA MN MS OT SC r0 r1 r2 r3 w r5 r6 r7 r8 L Lg r h
        rw [show d + (5 + n) = d + n + 5 by omega] at e
        exact e
      have j3 : ∀ (Y T HA HB RA RB ST NS I0 I1 I2 BO FI RG GU PU MA MN MS OT SC : Nat → Nat → Int32) (r0 r1 r2 r3 w r5 r6 r7 r8 : Nat) (L : Nat) (Lg : Int64) (r : (Nat → Nat → Int32)), f_grp_mr n 3 MA MN = some r → Ev (d + n + 5, 0, 0, 49, 0, [.val (.ref 1088), .val a_unk], [], (126, 120, L, [Y, T, HA, HB, RA, RB, ST, NS, I0, I1, I2, BO, FI, RG, GU, PU, MA, MN, MS, OT, SC], [r0, r1, r2, r3, w, r5, r6, r7, r8], Lg)) ((0, none, (126, 120, L, [Y, T, HA, HB, RA, RB, ST, NS, I0, I1, I2, BO, FI, RG, GU, PU, MA, r, MS, OT, SC], [r0, r1, r2, r3, w, r5, r6, r7, r8], Lg)) : AOut) := by
        intro Y T HA HB RA RB ST NS I0 I1 I2 BO FI RG GU PU MA MN MS OT SC r0 r1 r2 r3 w r5 r6 r7 r8 L Lg r h
        have e := i3 d Y T HA HB RA RB ST NS I0 I1 I2 BO FI RG GU PU MA MN MS OT SC r0 r1 r2 r3 w r5 r6 r7 r8 L Lg r h
        rw [show d + (5 + n) = d + n + 5 by omega] at e
        exact e
      have j4 : ∀ (Y T HA HB RA RB ST NS I0 I1 I2 BO FI RG GU PU MA MN MS OT SC : Nat → Nat → Int32) (r0 r1 r2 r3 w r5 r6 r7 r8 : Nat) (L : Nat) (Lg : Int64) (r : (Nat → Nat → Int32)), f_grp_mr n 4 MA MN = some r → Ev (d + n + 5, 0, 0, 50, 0, [.val (.ref 1088)], [], (126, 120, L, [Y, T, HA, HB, RA, RB, ST, NS, I0, I1, I2, BO, FI, RG, GU, PU, MA, MN, MS, OT, SC], [r0, r1, r2, r3, w, r5, r6, r7, r8], Lg)) ((0, none, (126, 120, L, [Y, T, HA, HB, RA, RB, ST, NS, I0, I1, I2, BO, FI, RG, GU, PU, MA, r, MS, OT, SC], [r0, r1, r2, r3, w, r5, r6, r7, r8], Lg)) : AOut) := by
        intro Y T HA HB RA RB ST NS I0 I1 I2 BO FI RG GU PU MA MN MS OT SC r0 r1 r2 r3 w r5 r6 r7 r8 L Lg r h
        have e := i4 d Y T HA HB RA RB ST NS I0 I1 I2 BO FI RG GU PU MA MN MS OT SC r0 r1 r2 r3 w r5 r6 r7 r8 L Lg r h
        rw [show d + (5 + n) = d + n + 5 by omega] at e
        exact e
      have j5 : ∀ (Y T HA HB RA RB ST NS I0 I1 I2 BO FI RG GU PU MA MN MS OT SC : Nat → Nat → Int32) (r0 r1 r2 r3 w r5 r6 r7 r8 : Nat) (L : Nat) (Lg : Int64) (r : (Nat → Nat → Int32)), f_grp_mr n 5 MA MN = some r → Ev (d + n + 5, 0, 0, 53, 0, [.val (.ref 1088), .val a_unk], [], (126, 120, L, [Y, T, HA, HB, RA, RB, ST, NS, I0, I1, I2, BO, FI, RG, GU, PU, MA, MN, MS, OT, SC], [r0, r1, r2, r3, w, r5, r6, r7, r8], Lg)) ((0, none, (126, 120, L, [Y, T, HA, HB, RA, RB, ST, NS, I0, I1, I2, BO, FI, RG, GU, PU, MA, r, MS, OT, SC], [r0, r1, r2, r3, w, r5, r6, r7, r8], Lg)) : AOut) := by
        intro Y T HA HB RA RB ST NS I0 I1 I2 BO FI RG GU PU MA MN MS OT SC r0 r1 r2 r3 w r5 r6 r7 r8 L Lg r h
        have e := i5 d Y T HA HB RA RB ST NS I0 I1 I2 BO FI RG GU PU MA MN MS OT SC r0 r1 r2 r3 w r5 r6 r7 r8 L Lg r h
        rw [show d + (5 + n) = d + n + 5 by omega] at e
        exact e
      exact R_f_M_readUnit_B_0 (d + n) (f_grp_mr n) j0 j1 j2 j3 j4 j5 Y T HA HB RA RB ST NS I0 I1 I2 BO FI RG GU PU MA MN MS OT SC r0 r1 r2 r3 w r5 r6 r7 r8 L Lg h

set_option maxRecDepth 1000000 in
set_option maxHeartbeats 4000000 in
theorem R_f_M_rule_0 (d : Nat) (Y T HA HB RA RB ST NS I0 I1 I2 BO FI RG GU PU MA MN MS OT SC : Nat → Nat → Int32) (r0 r1 r2 r3 w r5 r6 r7 r8 : Nat) (L : Nat) (Lg : Int64) (p1 : Int32) {r : Int32 × (Nat → Nat → Int32) × (Nat → Nat → Int32)} (h : f_M_rule MA MN p1 = some r) : Ev (d + 46, 0, 0, 54, 0, [.val (.ref 1088), .val (.int p1), .val a_unk], [], (126, 120, L, [Y, T, HA, HB, RA, RB, ST, NS, I0, I1, I2, BO, FI, RG, GU, PU, MA, MN, MS, OT, SC], [r0, r1, r2, r3, w, r5, r6, r7, r8], Lg)) ((0, some (.int r.1), (126, 120, L, [Y, T, HA, HB, RA, RB, ST, NS, I0, I1, I2, BO, FI, RG, GU, PU, r.2.1, r.2.2, MS, OT, SC], [r0, r1, r2, r3, w, r5, r6, r7, r8], Lg)) : AOut) := by
  suffices key : ∀ o : AOut, ((0, some (.int r.1), (126, 120, L, [Y, T, HA, HB, RA, RB, ST, NS, I0, I1, I2, BO, FI, RG, GU, PU, r.2.1, r.2.2, MS, OT, SC], [r0, r1, r2, r3, w, r5, r6, r7, r8], Lg)) : AOut) = o → Ev (d + 46, 0, 0, 54, 0, [.val (.ref 1088), .val (.int p1), .val a_unk], [], (126, 120, L, [Y, T, HA, HB, RA, RB, ST, NS, I0, I1, I2, BO, FI, RG, GU, PU, MA, MN, MS, OT, SC], [r0, r1, r2, r3, w, r5, r6, r7, r8], Lg)) o from key _ rfl
  intro o ho
  obtain ⟨zt1, zh2, h⟩ := bnd h
  have zj3 : ∀ (v1 : Int32), v1 = zt1 → Ev (d + 46, 0, 0, 54, 30, [.val (.ref 1088), .val (.int p1), .val a_unk], [.int v1, .ref 1088], (126, 120, L, [Y, T, HA, HB, RA, RB, ST, NS, I0, I1, I2, BO, FI, RG, GU, PU, (u2 MA 0 0 0), MN, MS, OT, SC], [r0, r1, r2, r3, w, r5, r6, r7, r8], Lg)) o := by
    intro v1 ze4
    subst ze4
    obtain ⟨⟨x2, MA_3⟩, zh5, h⟩ := bnd h
    have zh5 : f_M_may (u2 MA 0 0 0) v1 1 1 = some (x2, MA_3) := zh5
    have ze6 := R_f_M_may_0 (d + 45) Y T HA HB RA RB ST NS I0 I1 I2 BO FI RG GU PU (u2 MA 0 0 0) MN MS OT SC r0 r1 r2 r3 w r5 r6 r7 r8 L Lg v1 1 1 zh5
    suffices e : Ev (d + 46, 0, 0, 54, 35, [.val (.ref 1088), .val (.int p1), .val a_unk], [.int x2], (126, 120, L, [Y, T, HA, HB, RA, RB, ST, NS, I0, I1, I2, BO, FI, RG, GU, PU, MA_3, MN, MS, OT, SC], [r0, r1, r2, r3, w, r5, r6, r7, r8], Lg)) o from ev_call (fun v μ => (d + 46, 0, 0, 54, 35, [.val (.ref 1088), .val (.int p1), .val a_unk], v.toList ++ [], μ)) 3 ze6 e (fun n => Eq.refl _)
    by_cases zc7 : x2 ≠ 0
    · have h := itp h zc7
      suffices e : Ev (d + 46, 0, 0, 54, 40, [.val (.ref 1088), .val (.int p1), .val a_unk], [], (126, 120, L, [Y, T, HA, HB, RA, RB, ST, NS, I0, I1, I2, BO, FI, RG, GU, PU, MA_3, MN, MS, OT, SC], [r0, r1, r2, r3, w, r5, r6, r7, r8], Lg)) o from ev_t (c := x2 ≠ 0) _ _ 1  zc7 e (fun n => Eq.refl _)
      obtain ⟨⟨MA_4, MN_5⟩, zh8, h⟩ := bnd h
      have zh8 : f_M_begins MA_3 MN p1 = some (MA_4, MN_5) := zh8
      have ze9 := R_f_M_begins_0 (d + 45) Y T HA HB RA RB ST NS I0 I1 I2 BO FI RG GU PU MA_3 MN MS OT SC r0 r1 r2 r3 w r5 r6 r7 r8 L Lg p1 zh8
      suffices e : Ev (d + 46, 0, 0, 54, 45, [.val (.ref 1088), .val (.int p1), .val a_unk], [], (126, 120, L, [Y, T, HA, HB, RA, RB, ST, NS, I0, I1, I2, BO, FI, RG, GU, PU, MA_4, MN_5, MS, OT, SC], [r0, r1, r2, r3, w, r5, r6, r7, r8], Lg)) o from ev_call (fun v μ => (d + 46, 0, 0, 54, 45, [.val (.ref 1088), .val (.int p1), .val a_unk], v.toList ++ [], μ)) 3 ze9 e (fun n => Eq.refl _)
      obtain ⟨MN_6, zh10, h⟩ := bnd h
      have zh10 : f_grp_mr 40 0 MA_4 (u2 MN_5 0 39 0) = some MN_6 := zh10
      have ze11 := (K_grp_mr_0 40).1 (d + 0) Y T HA HB RA RB ST NS I0 I1 I2 BO FI RG GU PU MA_4 (u2 MN_5 0 39 0) MS OT SC r0 r1 r2 r3 w r5 r6 r7 r8 L Lg _ zh10
      suffices e : Ev (d + 46, 0, 0, 54, 54, [.val (.ref 1088), .val (.int p1), .val a_unk], [], (126, 120, L, [Y, T, HA, HB, RA, RB, ST, NS, I0, I1, I2, BO, FI, RG, GU, PU, MA_4, MN_6, MS, OT, SC], [r0, r1, r2, r3, w, r5, r6, r7, r8], Lg)) o from ev_call (fun v μ => (d + 46, 0, 0, 54, 54, [.val (.ref 1088), .val (.int p1), .val a_unk], v.toList ++ [], μ)) 5 ze11 e (fun n => Eq.refl _)
      obtain ⟨x7, zh12, h⟩ := bnd h
      have zh12 : f_M_fine MN_6 = some x7 := zh12
      have ze13 := R_f_M_fine_0 (d + 45) Y T HA HB RA RB ST NS I0 I1 I2 BO FI RG GU PU MA_4 MN_6 MS OT SC r0 r1 r2 r3 w r5 r6 r7 r8 L Lg zh12
      suffices e : Ev (d + 46, 0, 0, 54, 58, [.val (.ref 1088), .val (.int p1), .val a_unk], [.int x7], (126, 120, L, [Y, T, HA, HB, RA, RB, ST, NS, I0, I1, I2, BO, FI, RG, GU, PU, MA_4, MN_6, MS, OT, SC], [r0, r1, r2, r3, w, r5, r6, r7, r8], Lg)) o from ev_call (fun v μ => (d + 46, 0, 0, 54, 58, [.val (.ref 1088), .val (.int p1), .val a_unk], v.toList ++ [], μ)) 2 ze13 e (fun n => Eq.refl _)
      obtain ⟨zt14, zh15, h⟩ := bnd h
      have zj16 : ∀ (MN_11 : (Nat → Nat → Int32)), MN_11 = zt14 → Ev (d + 46, 0, 0, 54, 77, [.val (.ref 1088), .val (.int p1), .val a_unk], [], (126, 120, L, [Y, T, HA, HB, RA, RB, ST, NS, I0, I1, I2, BO, FI, RG, GU, PU, MA_4, MN_11, MS, OT, SC], [r0, r1, r2, r3, w, r5, r6, r7, r8], Lg)) o := by
        intro MN_11 ze17
        subst ze17
        obtain ⟨⟨x12, MA_13⟩, zh18, h⟩ := bnd h
        have zh18 : f_M_result MA_4 MN_11 1 = some (x12, MA_13) := zh18
        have ze19 := R_f_M_result_0 (d + 44) Y T HA HB RA RB ST NS I0 I1 I2 BO FI RG GU PU MA_4 MN_11 MS OT SC r0 r1 r2 r3 w r5 r6 r7 r8 L Lg 1 zh18
        suffices e : Ev (d + 46, 0, 0, 54, 82, [.val (.ref 1088), .val (.int p1), .val a_unk], [.int x12], (126, 120, L, [Y, T, HA, HB, RA, RB, ST, NS, I0, I1, I2, BO, FI, RG, GU, PU, MA_13, MN_11, MS, OT, SC], [r0, r1, r2, r3, w, r5, r6, r7, r8], Lg)) o from ev_call (fun v μ => (d + 46, 0, 0, 54, 82, [.val (.ref 1088), .val (.int p1), .val a_unk], v.toList ++ [], μ)) 3 ze19 e (fun n => Eq.refl _)
        by_cases zc20 : (MN_11 0 5) = (-1)
        · have h := itp h zc20
          suffices e : Ev (d + 46, 0, 0, 54, 93, [.val (.ref 1088), .val (.int p1), .val (.int x12)], [], (126, 120, L, [Y, T, HA, HB, RA, RB, ST, NS, I0, I1, I2, BO, FI, RG, GU, PU, MA_13, MN_11, MS, OT, SC], [r0, r1, r2, r3, w, r5, r6, r7, r8], Lg)) o from ev_t (c := (MN_11 0 5) = (-1)) _ _ 5  zc20 e (fun n => Eq.refl _)
          obtain ⟨x14, zh21, h⟩ := bnd h
          have ze22 := R_copies (d + 45) 1158 1098 ((u2 MA_13 0 40 (MN_11 0 39)) 0 40) [Y, T, HA, HB, RA, RB, ST, NS, I0, I1, I2, BO, FI, RG, GU, PU, (u2 MA_13 0 40 (MN_11 0 39)), MN_11, MS, OT, SC] [r0, r1, r2, r3, w, r5, r6, r7, r8] (.ref 1088) L Lg 126 120 rfl rfl rfl rfl (Nat.le_of_ble_eq_true rfl) (Nat.le_of_ble_eq_true rfl) (Nat.le_of_ble_eq_true rfl) zh21
          suffices e : Ev (d + 46, 0, 0, 54, 117, [.val (.ref 1088), .val (.int p1), .val (.int x12)], [], (126, 120, L, [Y, T, HA, HB, RA, RB, ST, NS, I0, I1, I2, BO, FI, RG, GU, PU, (u1 (u2 MA_13 0 40 (MN_11 0 39)) 10 x14), MN_11, MS, OT, SC], [r0, r1, r2, r3, w, r5, r6, r7, r8], Lg)) o from ev_call (fun v μ => (d + 46, 0, 0, 54, 117, [.val (.ref 1088), .val (.int p1), .val (.int x12)], v.toList ++ [], μ)) 12 ze22 e (fun n => Eq.refl _)
          obtain ⟨x15, zh23, h⟩ := bnd h
          have ze24 := R_copies (d + 45) 1159 1099 ((u1 (u2 MA_13 0 40 (MN_11 0 39)) 10 x14) 0 40) [Y, T, HA, HB, RA, RB, ST, NS, I0, I1, I2, BO, FI, RG, GU, PU, (u1 (u2 MA_13 0 40 (MN_11 0 39)) 10 x14), MN_11, MS, OT, SC] [r0, r1, r2, r3, w, r5, r6, r7, r8] (.ref 1088) L Lg 126 120 rfl rfl rfl rfl (Nat.le_of_ble_eq_true rfl) (Nat.le_of_ble_eq_true rfl) (Nat.le_of_ble_eq_true rfl) zh23
          suffices e : Ev (d + 46, 0, 0, 54, 133, [.val (.ref 1088), .val (.int p1), .val (.int x12)], [], (126, 120, L, [Y, T, HA, HB, RA, RB, ST, NS, I0, I1, I2, BO, FI, RG, GU, PU, (u1 (u1 (u2 MA_13 0 40 (MN_11 0 39)) 10 x14) 11 x15), MN_11, MS, OT, SC], [r0, r1, r2, r3, w, r5, r6, r7, r8], Lg)) o from ev_call (fun v μ => (d + 46, 0, 0, 54, 133, [.val (.ref 1088), .val (.int p1), .val (.int x12)], v.toList ++ [], μ)) 8 ze24 e (fun n => Eq.refl _)
          have ze25 := Option.some.inj h
          subst ze25
          exact ev_rete 2 ho (fun n => Eq.refl _)
        · have h := itn h zc20
          suffices e : Ev (d + 46, 0, 0, 54, 91, [.val (.ref 1088), .val (.int p1), .val (.int x12)], [], (126, 120, L, [Y, T, HA, HB, RA, RB, ST, NS, I0, I1, I2, BO, FI, RG, GU, PU, MA_13, MN_11, MS, OT, SC], [r0, r1, r2, r3, w, r5, r6, r7, r8], Lg)) o from ev_f (c := (MN_11 0 5) = (-1)) _ _ 5  zc20 e (fun n => Eq.refl _)
          have ze26 := Option.some.inj h
          subst ze26
          exact ev_rete 2 ho (fun n => Eq.refl _)
      by_cases zc27 : x7 = 0
      · have zh15 := itp zh15 zc27
        suffices e : Ev (d + 46, 0, 0, 54, 77, [.val (.ref 1088), .val (.int p1), .val a_unk], [], (126, 120, L, [Y, T, HA, HB, RA, RB, ST, NS, I0, I1, I2, BO, FI, RG, GU, PU, MA_4, MN_6, MS, OT, SC], [r0, r1, r2, r3, w, r5, r6, r7, r8], Lg)) o from ev_t (c := x7 = 0) _ _ 1  zc27 e (fun n => Eq.refl _)
        exact ev_b 0 (zj16 MN_6 (Option.some.inj zh15) ) (fun n => Eq.refl _)
      · have zh15 := itn zh15 zc27
        suffices e : Ev (d + 46, 0, 0, 54, 61, [.val (.ref 1088), .val (.int p1), .val a_unk], [], (126, 120, L, [Y, T, HA, HB, RA, RB, ST, NS, I0, I1, I2, BO, FI, RG, GU, PU, MA_4, MN_6, MS, OT, SC], [r0, r1, r2, r3, w, r5, r6, r7, r8], Lg)) o from ev_f (c := x7 = 0) _ _ 1  zc27 e (fun n => Eq.refl _)
        obtain ⟨⟨x8, MN_9⟩, zh28, zh15⟩ := bnd zh15
        have zh28 : f_M_isMore MA_4 MN_6 = some (x8, MN_9) := zh28
        have ze29 := R_f_M_isMore_0 (d + 44) Y T HA HB RA RB ST NS I0 I1 I2 BO FI RG GU PU MA_4 MN_6 MS OT SC r0 r1 r2 r3 w r5 r6 r7 r8 L Lg zh28
        suffices e : Ev (d + 46, 0, 0, 54, 65, [.val (.ref 1088), .val (.int p1), .val a_unk], [.int x8], (126, 120, L, [Y, T, HA, HB, RA, RB, ST, NS, I0, I1, I2, BO, FI, RG, GU, PU, MA_4, MN_9, MS, OT, SC], [r0, r1, r2, r3, w, r5, r6, r7, r8], Lg)) o from ev_call (fun v μ => (d + 46, 0, 0, 54, 65, [.val (.ref 1088), .val (.int p1), .val a_unk], v.toList ++ [], μ)) 2 ze29 e (fun n => Eq.refl _)
        by_cases zc30 : x8 = 0
        · have zh15 := itp zh15 zc30
          suffices e : Ev (d + 46, 0, 0, 54, 77, [.val (.ref 1088), .val (.int p1), .val a_unk], [], (126, 120, L, [Y, T, HA, HB, RA, RB, ST, NS, I0, I1, I2, BO, FI, RG, GU, PU, MA_4, MN_9, MS, OT, SC], [r0, r1, r2, r3, w, r5, r6, r7, r8], Lg)) o from ev_t (c := x8 = 0) _ _ 1  zc30 e (fun n => Eq.refl _)
          exact ev_b 0 (zj16 MN_9 (Option.some.inj zh15) ) (fun n => Eq.refl _)
        · have zh15 := itn zh15 zc30
          suffices e : Ev (d + 46, 0, 0, 54, 68, [.val (.ref 1088), .val (.int p1), .val a_unk], [], (126, 120, L, [Y, T, HA, HB, RA, RB, ST, NS, I0, I1, I2, BO, FI, RG, GU, PU, MA_4, MN_9, MS, OT, SC], [r0, r1, r2, r3, w, r5, r6, r7, r8], Lg)) o from ev_f (c := x8 = 0) _ _ 1  zc30 e (fun n => Eq.refl _)
          obtain ⟨MN_10, zh31, zh15⟩ := bnd zh15
          have zh31 : f_M_wrong MN_9 1 (MN_9 0 4) = some MN_10 := zh31
          have ze32 := R_f_M_wrong_0 (d + 45) Y T HA HB RA RB ST NS I0 I1 I2 BO FI RG GU PU MA_4 MN_9 MS OT SC r0 r1 r2 r3 w r5 r6 r7 r8 L Lg 1 (MN_9 0 4) zh31
          suffices e : Ev (d + 46, 0, 0, 54, 77, [.val (.ref 1088), .val (.int p1), .val a_unk], [], (126, 120, L, [Y, T, HA, HB, RA, RB, ST, NS, I0, I1, I2, BO, FI, RG, GU, PU, MA_4, MN_10, MS, OT, SC], [r0, r1, r2, r3, w, r5, r6, r7, r8], Lg)) o from ev_call (fun v μ => (d + 46, 0, 0, 54, 77, [.val (.ref 1088), .val (.int p1), .val a_unk], v.toList ++ [], μ)) 5 ze32 e (fun n => Eq.refl _)
          exact ev_b 0 (zj16 MN_10 (Option.some.inj zh15) ) (fun n => Eq.refl _)
    · have h := itn h zc7
      suffices e : Ev (d + 46, 0, 0, 54, 38, [.val (.ref 1088), .val (.int p1), .val a_unk], [], (126, 120, L, [Y, T, HA, HB, RA, RB, ST, NS, I0, I1, I2, BO, FI, RG, GU, PU, MA_3, MN, MS, OT, SC], [r0, r1, r2, r3, w, r5, r6, r7, r8], Lg)) o from ev_f (c := x2 ≠ 0) _ _ 1  zc7 e (fun n => Eq.refl _)
      have ze33 := Option.some.inj h
      subst ze33
      exact ev_rete 2 ho (fun n => Eq.refl _)
  obtain ⟨zt34, zh35, zh2⟩ := bnd zh2
  have zj36 : zt34 = .inl () → Ev (d + 46, 0, 0, 54, 29, [.val (.ref 1088), .val (.int p1), .val a_unk], [.ref 1088], (126, 120, L, [Y, T, HA, HB, RA, RB, ST, NS, I0, I1, I2, BO, FI, RG, GU, PU, (u2 MA 0 0 0), MN, MS, OT, SC], [r0, r1, r2, r3, w, r5, r6, r7, r8], Lg)) o := by
    intro ze37
    have zh2 := sum_l zh2 ze37
    exact ev_b 1 (zj3 0 (Option.some.inj zh2) ) (fun n => Eq.refl _)
  by_cases zc38 : p1 < 0
  · have zh35 := itp zh35 zc38
    suffices e : Ev (d + 46, 0, 0, 54, 29, [.val (.ref 1088), .val (.int p1), .val a_unk], [.ref 1088], (126, 120, L, [Y, T, HA, HB, RA, RB, ST, NS, I0, I1, I2, BO, FI, RG, GU, PU, (u2 MA 0 0 0), MN, MS, OT, SC], [r0, r1, r2, r3, w, r5, r6, r7, r8], Lg)) o from ev_t (c := p1 < 0) _ _ 6  zc38 e (fun n => Eq.refl _)
    exact ev_b 0 (zj36  (Option.some.inj zh35).symm ) (fun n => Eq.refl _)
  · have zh35 := itn zh35 zc38
    suffices e : Ev (d + 46, 0, 0, 54, 10, [.val (.ref 1088), .val (.int p1), .val a_unk], [.ref 1088], (126, 120, L, [Y, T, HA, HB, RA, RB, ST, NS, I0, I1, I2, BO, FI, RG, GU, PU, (u2 MA 0 0 0), MN, MS, OT, SC], [r0, r1, r2, r3, w, r5, r6, r7, r8], Lg)) o from ev_f (c := p1 < 0) _ _ 6  zc38 e (fun n => Eq.refl _)
    by_cases zc39 : ((u2 MA 0 0 0) 0 2) < p1
    · have zh35 := itp zh35 zc39
      suffices e : Ev (d + 46, 0, 0, 54, 29, [.val (.ref 1088), .val (.int p1), .val a_unk], [.ref 1088], (126, 120, L, [Y, T, HA, HB, RA, RB, ST, NS, I0, I1, I2, BO, FI, RG, GU, PU, (u2 MA 0 0 0), MN, MS, OT, SC], [r0, r1, r2, r3, w, r5, r6, r7, r8], Lg)) o from ev_t (c := ((u2 MA 0 0 0) 0 2) < p1) _ _ 4  zc39 e (fun n => Eq.refl _)
      exact ev_b 0 (zj36  (Option.some.inj zh35).symm ) (fun n => Eq.refl _)
    · have zh35 := itn zh35 zc39
      suffices e : Ev (d + 46, 0, 0, 54, 18, [.val (.ref 1088), .val (.int p1), .val a_unk], [.ref 1088], (126, 120, L, [Y, T, HA, HB, RA, RB, ST, NS, I0, I1, I2, BO, FI, RG, GU, PU, (u2 MA 0 0 0), MN, MS, OT, SC], [r0, r1, r2, r3, w, r5, r6, r7, r8], Lg)) o from ev_f (c := ((u2 MA 0 0 0) 0 2) < p1) _ _ 4  zc39 e (fun n => Eq.refl _)
      by_cases zc40 : 150 < p1
      · have zh35 := itp zh35 zc40
        suffices e : Ev (d + 46, 0, 0, 54, 29, [.val (.ref 1088), .val (.int p1), .val a_unk], [.ref 1088], (126, 120, L, [Y, T, HA, HB, RA, RB, ST, NS, I0, I1, I2, BO, FI, RG, GU, PU, (u2 MA 0 0 0), MN, MS, OT, SC], [r0, r1, r2, r3, w, r5, r6, r7, r8], Lg)) o from ev_t (c := 150 < p1) _ _ 3  zc40 e (fun n => Eq.refl _)
        exact ev_b 0 (zj36  (Option.some.inj zh35).symm ) (fun n => Eq.refl _)
      · have zh35 := itn zh35 zc40
        suffices e : Ev (d + 46, 0, 0, 54, 25, [.val (.ref 1088), .val (.int p1), .val a_unk], [.ref 1088], (126, 120, L, [Y, T, HA, HB, RA, RB, ST, NS, I0, I1, I2, BO, FI, RG, GU, PU, (u2 MA 0 0 0), MN, MS, OT, SC], [r0, r1, r2, r3, w, r5, r6, r7, r8], Lg)) o from ev_f (c := 150 < p1) _ _ 3  zc40 e (fun n => Eq.refl _)
        have zh41 := sum_r zh2 (Option.some.inj zh35).symm
        exact ev_b 2 (zj3 1 (Option.some.inj zh41) ) (fun n => Eq.refl _)
set_option maxRecDepth 1000000 in
set_option maxHeartbeats 4000000 in
theorem R_f_M_ones_0 (d : Nat) (Y T HA HB RA RB ST NS I0 I1 I2 BO FI RG GU PU MA MN MS OT SC : Nat → Nat → Int32) (r0 r1 r2 r3 w r5 r6 r7 r8 : Nat) (L : Nat) (Lg : Int64) (p0 : Int32) {r : Int32} (h : f_M_ones p0 = some r) : Ev (d + 0, 0, 0, 57, 0, [.val (.int p0), .val a_unk, .val a_unk], [], (126, 120, L, [Y, T, HA, HB, RA, RB, ST, NS, I0, I1, I2, BO, FI, RG, GU, PU, MA, MN, MS, OT, SC], [r0, r1, r2, r3, w, r5, r6, r7, r8], Lg)) ((0, some (.int r), (126, 120, L, [Y, T, HA, HB, RA, RB, ST, NS, I0, I1, I2, BO, FI, RG, GU, PU, MA, MN, MS, OT, SC], [r0, r1, r2, r3, w, r5, r6, r7, r8], Lg)) : AOut) := by
  suffices key : ∀ o : AOut, ((0, some (.int r), (126, 120, L, [Y, T, HA, HB, RA, RB, ST, NS, I0, I1, I2, BO, FI, RG, GU, PU, MA, MN, MS, OT, SC], [r0, r1, r2, r3, w, r5, r6, r7, r8], Lg)) : AOut) = o → Ev (d + 0, 0, 0, 57, 0, [.val (.int p0), .val a_unk, .val a_unk], [], (126, 120, L, [Y, T, HA, HB, RA, RB, ST, NS, I0, I1, I2, BO, FI, RG, GU, PU, MA, MN, MS, OT, SC], [r0, r1, r2, r3, w, r5, r6, r7, r8], Lg)) o from key _ rfl
  intro o ho
  obtain ⟨v3, zh2, h⟩ := bnd h
  suffices e : Ev (d + 0, 0, 0, 57, 4, [.val (.int p0), .val (.int 0), .val (.int p0)], [], (126, 120, L, [Y, T, HA, HB, RA, RB, ST, NS, I0, I1, I2, BO, FI, RG, GU, PU, MA, MN, MS, OT, SC], [r0, r1, r2, r3, w, r5, r6, r7, r8], Lg)) o from ev_b 4 e (fun n => Eq.refl _)
  refine ev_loop (δ := Unit) (fun a j => (d + 0, 0, 0, 57, 4, [.val (.int p0), .val (.int a.1), .val (.int a.2)], [], (126, 120, L, [Y, T, HA, HB, RA, RB, ST, NS, I0, I1, I2, BO, FI, RG, GU, PU, MA, MN, MS, OT, SC], [r0, r1, r2, r3, w, r5, r6, r7, r8], Lg))) (fun b => ∀ s4 : Value, Ev (d + 0, 0, 0, 57, 20, [.val (.int p0), .val (.int b), .val s4], [], (126, 120, L, [Y, T, HA, HB, RA, RB, ST, NS, I0, I1, I2, BO, FI, RG, GU, PU, MA, MN, MS, OT, SC], [r0, r1, r2, r3, w, r5, r6, r7, r8], Lg)) o) ?_ a_F (0, p0) v3 zh2 ?_ ()
  · rintro ⟨v1, v2⟩ zr6 zh5 zi3 zx4 ⟨⟩
    have zh5 : f_M_ones_l4 v1 v2 = some zr6 := zh5
    by_cases zc7 : v2 = 0
    · have zh5 := itp zh5 zc7
      suffices e : Ev (d + 0, 0, 0, 57, 20, [.val (.int p0), .val (.int v1), .val (.int v2)], [], (126, 120, L, [Y, T, HA, HB, RA, RB, ST, NS, I0, I1, I2, BO, FI, RG, GU, PU, MA, MN, MS, OT, SC], [r0, r1, r2, r3, w, r5, r6, r7, r8], Lg)) o from ev_t (c := v2 = 0) _ _ 2  zc7 e (fun n => Eq.refl _)
      exact ev_b 0 (zx4 _ (Option.some.inj zh5).symm (.int v2)) (fun n => Eq.refl _)
    · have zh5 := itn zh5 zc7
      suffices e : Ev (d + 0, 0, 0, 57, 8, [.val (.int p0), .val (.int v1), .val (.int v2)], [], (126, 120, L, [Y, T, HA, HB, RA, RB, ST, NS, I0, I1, I2, BO, FI, RG, GU, PU, MA, MN, MS, OT, SC], [r0, r1, r2, r3, w, r5, r6, r7, r8], Lg)) o from ev_f (c := v2 = 0) _ _ 2  zc7 e (fun n => Eq.refl _)
      exact ev_b 8 (zi3 _ (Option.some.inj zh5).symm ()) (fun n => Eq.refl _)
  · skip
    intro s4
    have ze8 := Option.some.inj h
    subst ze8
    exact ev_rete 2 ho (fun n => Eq.refl _)
set_option maxRecDepth 1000000 in
set_option maxHeartbeats 4000000 in
theorem R_f_M_both_0 (d : Nat) (Y T HA HB RA RB ST NS I0 I1 I2 BO FI RG GU PU MA MN MS OT SC : Nat → Nat → Int32) (r0 r1 r2 r3 w r5 r6 r7 r8 : Nat) (L : Nat) (Lg : Int64) (p0 : Int32) (p1 : Int32) (p2 : Int32) {r : Int32} (h : f_M_both p0 p1 p2 = some r) : Ev (d + 0, 0, 0, 56, 0, [.val (.int p0), .val (.int p1), .val (.int p2), .val a_unk], [], (126, 120, L, [Y, T, HA, HB, RA, RB, ST, NS, I0, I1, I2, BO, FI, RG, GU, PU, MA, MN, MS, OT, SC], [r0, r1, r2, r3, w, r5, r6, r7, r8], Lg)) ((0, some (.int r), (126, 120, L, [Y, T, HA, HB, RA, RB, ST, NS, I0, I1, I2, BO, FI, RG, GU, PU, MA, MN, MS, OT, SC], [r0, r1, r2, r3, w, r5, r6, r7, r8], Lg)) : AOut) := by
  suffices key : ∀ o : AOut, ((0, some (.int r), (126, 120, L, [Y, T, HA, HB, RA, RB, ST, NS, I0, I1, I2, BO, FI, RG, GU, PU, MA, MN, MS, OT, SC], [r0, r1, r2, r3, w, r5, r6, r7, r8], Lg)) : AOut) = o → Ev (d + 0, 0, 0, 56, 0, [.val (.int p0), .val (.int p1), .val (.int p2), .val a_unk], [], (126, 120, L, [Y, T, HA, HB, RA, RB, ST, NS, I0, I1, I2, BO, FI, RG, GU, PU, MA, MN, MS, OT, SC], [r0, r1, r2, r3, w, r5, r6, r7, r8], Lg)) o from key _ rfl
  intro o ho
  by_cases zc1 : 4 < p0
  · have h := itp h zc1
    suffices e : Ev (d + 0, 0, 0, 56, 31, [.val (.int p0), .val (.int p1), .val (.int p2), .val a_unk], [], (126, 120, L, [Y, T, HA, HB, RA, RB, ST, NS, I0, I1, I2, BO, FI, RG, GU, PU, MA, MN, MS, OT, SC], [r0, r1, r2, r3, w, r5, r6, r7, r8], Lg)) o from ev_t (c := 4 < p0) _ _ 3  zc1 e (fun n => Eq.refl _)
    obtain ⟨zt2, zh3, h⟩ := bnd h
    have zj4 : ∀ (v1 : Int32), v1 = zt2 → Ev (d + 0, 0, 0, 56, 119, [.val (.int p0), .val (.int p1), .val (.int p2), .val a_unk], [.int v1], (126, 120, L, [Y, T, HA, HB, RA, RB, ST, NS, I0, I1, I2, BO, FI, RG, GU, PU, MA, MN, MS, OT, SC], [r0, r1, r2, r3, w, r5, r6, r7, r8], Lg)) o := by
      intro v1 ze5
      subst ze5
      by_cases zc6 : v1 = 0
      · have h := itp h zc6
        suffices e : Ev (d + 0, 0, 0, 56, 128, [.val (.int p0), .val (.int p1), .val (.int p2), .val (.int v1)], [], (126, 120, L, [Y, T, HA, HB, RA, RB, ST, NS, I0, I1, I2, BO, FI, RG, GU, PU, MA, MN, MS, OT, SC], [r0, r1, r2, r3, w, r5, r6, r7, r8], Lg)) o from ev_t (c := v1 = 0) _ _ 3  zc6 e (fun n => Eq.refl _)
        have ze7 := Option.some.inj h
        subst ze7
        exact ev_rete 2 ho (fun n => Eq.refl _)
      · have h := itn h zc6
        suffices e : Ev (d + 0, 0, 0, 56, 124, [.val (.int p0), .val (.int p1), .val (.int p2), .val (.int v1)], [], (126, 120, L, [Y, T, HA, HB, RA, RB, ST, NS, I0, I1, I2, BO, FI, RG, GU, PU, MA, MN, MS, OT, SC], [r0, r1, r2, r3, w, r5, r6, r7, r8], Lg)) o from ev_f (c := v1 = 0) _ _ 3  zc6 e (fun n => Eq.refl _)
        have ze8 := Option.some.inj h
        subst ze8
        exact ev_rete 3 ho (fun n => Eq.refl _)
    by_cases zc9 : p0 ≠ 5
    · have zh3 := itp zh3 zc9
      suffices e : Ev (d + 0, 0, 0, 56, 49, [.val (.int p0), .val (.int p1), .val (.int p2), .val a_unk], [], (126, 120, L, [Y, T, HA, HB, RA, RB, ST, NS, I0, I1, I2, BO, FI, RG, GU, PU, MA, MN, MS, OT, SC], [r0, r1, r2, r3, w, r5, r6, r7, r8], Lg)) o from ev_t (c := p0 ≠ 5) _ _ 3  zc9 e (fun n => Eq.refl _)
      by_cases zc10 : p0 ≠ 6
      · have zh3 := itp zh3 zc10
        suffices e : Ev (d + 0, 0, 0, 56, 68, [.val (.int p0), .val (.int p1), .val (.int p2), .val a_unk], [], (126, 120, L, [Y, T, HA, HB, RA, RB, ST, NS, I0, I1, I2, BO, FI, RG, GU, PU, MA, MN, MS, OT, SC], [r0, r1, r2, r3, w, r5, r6, r7, r8], Lg)) o from ev_t (c := p0 ≠ 6) _ _ 3  zc10 e (fun n => Eq.refl _)
        by_cases zc11 : p0 ≠ 7
        · have zh3 := itp zh3 zc11
          suffices e : Ev (d + 0, 0, 0, 56, 87, [.val (.int p0), .val (.int p1), .val (.int p2), .val a_unk], [], (126, 120, L, [Y, T, HA, HB, RA, RB, ST, NS, I0, I1, I2, BO, FI, RG, GU, PU, MA, MN, MS, OT, SC], [r0, r1, r2, r3, w, r5, r6, r7, r8], Lg)) o from ev_t (c := p0 ≠ 7) _ _ 3  zc11 e (fun n => Eq.refl _)
          by_cases zc12 : p0 ≠ 9
          · have zh3 := itp zh3 zc12
            suffices e : Ev (d + 0, 0, 0, 56, 108, [.val (.int p0), .val (.int p1), .val (.int p2), .val a_unk], [], (126, 120, L, [Y, T, HA, HB, RA, RB, ST, NS, I0, I1, I2, BO, FI, RG, GU, PU, MA, MN, MS, OT, SC], [r0, r1, r2, r3, w, r5, r6, r7, r8], Lg)) o from ev_t (c := p0 ≠ 9) _ _ 3  zc12 e (fun n => Eq.refl _)
            by_cases zc13 : (p1 + p2) ≤ 0
            · have zh3 := itp zh3 zc13
              suffices e : Ev (d + 0, 0, 0, 56, 118, [.val (.int p0), .val (.int p1), .val (.int p2), .val a_unk], [], (126, 120, L, [Y, T, HA, HB, RA, RB, ST, NS, I0, I1, I2, BO, FI, RG, GU, PU, MA, MN, MS, OT, SC], [r0, r1, r2, r3, w, r5, r6, r7, r8], Lg)) o from ev_t (c := (p1 + p2) ≤ 0) _ _ 4  zc13 e (fun n => Eq.refl _)
              exact ev_b 1 (zj4 0 (Option.some.inj zh3) ) (fun n => Eq.refl _)
            · have zh3 := itn zh3 zc13
              suffices e : Ev (d + 0, 0, 0, 56, 114, [.val (.int p0), .val (.int p1), .val (.int p2), .val a_unk], [], (126, 120, L, [Y, T, HA, HB, RA, RB, ST, NS, I0, I1, I2, BO, FI, RG, GU, PU, MA, MN, MS, OT, SC], [r0, r1, r2, r3, w, r5, r6, r7, r8], Lg)) o from ev_f (c := (p1 + p2) ≤ 0) _ _ 4  zc13 e (fun n => Eq.refl _)
              exact ev_b 2 (zj4 1 (Option.some.inj zh3) ) (fun n => Eq.refl _)
          · have zh3 := itn zh3 zc12
            suffices e : Ev (d + 0, 0, 0, 56, 93, [.val (.int p0), .val (.int p1), .val (.int p2), .val a_unk], [], (126, 120, L, [Y, T, HA, HB, RA, RB, ST, NS, I0, I1, I2, BO, FI, RG, GU, PU, MA, MN, MS, OT, SC], [r0, r1, r2, r3, w, r5, r6, r7, r8], Lg)) o from ev_f (c := p0 ≠ 9) _ _ 3  zc12 e (fun n => Eq.refl _)
            by_cases zc14 : (p1 + p2) ≠ 2
            · have zh3 := itp zh3 zc14
              suffices e : Ev (d + 0, 0, 0, 56, 104, [.val (.int p0), .val (.int p1), .val (.int p2), .val a_unk], [], (126, 120, L, [Y, T, HA, HB, RA, RB, ST, NS, I0, I1, I2, BO, FI, RG, GU, PU, MA, MN, MS, OT, SC], [r0, r1, r2, r3, w, r5, r6, r7, r8], Lg)) o from ev_t (c := (p1 + p2) ≠ 2) _ _ 5  zc14 e (fun n => Eq.refl _)
              exact ev_b 2 (zj4 0 (Option.some.inj zh3) ) (fun n => Eq.refl _)
            · have zh3 := itn zh3 zc14
              suffices e : Ev (d + 0, 0, 0, 56, 100, [.val (.int p0), .val (.int p1), .val (.int p2), .val a_unk], [], (126, 120, L, [Y, T, HA, HB, RA, RB, ST, NS, I0, I1, I2, BO, FI, RG, GU, PU, MA, MN, MS, OT, SC], [r0, r1, r2, r3, w, r5, r6, r7, r8], Lg)) o from ev_f (c := (p1 + p2) ≠ 2) _ _ 5  zc14 e (fun n => Eq.refl _)
              exact ev_b 2 (zj4 1 (Option.some.inj zh3) ) (fun n => Eq.refl _)
        · have zh3 := itn zh3 zc11
          suffices e : Ev (d + 0, 0, 0, 56, 74, [.val (.int p0), .val (.int p1), .val (.int p2), .val a_unk], [], (126, 120, L, [Y, T, HA, HB, RA, RB, ST, NS, I0, I1, I2, BO, FI, RG, GU, PU, MA, MN, MS, OT, SC], [r0, r1, r2, r3, w, r5, r6, r7, r8], Lg)) o from ev_f (c := p0 ≠ 7) _ _ 3  zc11 e (fun n => Eq.refl _)
          by_cases zc15 : p1 ≠ p2
          · have zh3 := itp zh3 zc15
            suffices e : Ev (d + 0, 0, 0, 56, 83, [.val (.int p0), .val (.int p1), .val (.int p2), .val a_unk], [], (126, 120, L, [Y, T, HA, HB, RA, RB, ST, NS, I0, I1, I2, BO, FI, RG, GU, PU, MA, MN, MS, OT, SC], [r0, r1, r2, r3, w, r5, r6, r7, r8], Lg)) o from ev_t (c := p1 ≠ p2) _ _ 3  zc15 e (fun n => Eq.refl _)
            exact ev_b 2 (zj4 0 (Option.some.inj zh3) ) (fun n => Eq.refl _)
          · have zh3 := itn zh3 zc15
            suffices e : Ev (d + 0, 0, 0, 56, 79, [.val (.int p0), .val (.int p1), .val (.int p2), .val a_unk], [], (126, 120, L, [Y, T, HA, HB, RA, RB, ST, NS, I0, I1, I2, BO, FI, RG, GU, PU, MA, MN, MS, OT, SC], [r0, r1, r2, r3, w, r5, r6, r7, r8], Lg)) o from ev_f (c := p1 ≠ p2) _ _ 3  zc15 e (fun n => Eq.refl _)
            exact ev_b 2 (zj4 1 (Option.some.inj zh3) ) (fun n => Eq.refl _)
      · have zh3 := itn zh3 zc10
        suffices e : Ev (d + 0, 0, 0, 56, 55, [.val (.int p0), .val (.int p1), .val (.int p2), .val a_unk], [], (126, 120, L, [Y, T, HA, HB, RA, RB, ST, NS, I0, I1, I2, BO, FI, RG, GU, PU, MA, MN, MS, OT, SC], [r0, r1, r2, r3, w, r5, r6, r7, r8], Lg)) o from ev_f (c := p0 ≠ 6) _ _ 3  zc10 e (fun n => Eq.refl _)
        by_cases zc16 : p1 ≤ p2
        · have zh3 := itp zh3 zc16
          suffices e : Ev (d + 0, 0, 0, 56, 64, [.val (.int p0), .val (.int p1), .val (.int p2), .val a_unk], [], (126, 120, L, [Y, T, HA, HB, RA, RB, ST, NS, I0, I1, I2, BO, FI, RG, GU, PU, MA, MN, MS, OT, SC], [r0, r1, r2, r3, w, r5, r6, r7, r8], Lg)) o from ev_t (c := p1 ≤ p2) _ _ 3  zc16 e (fun n => Eq.refl _)
          exact ev_b 2 (zj4 0 (Option.some.inj zh3) ) (fun n => Eq.refl _)
        · have zh3 := itn zh3 zc16
          suffices e : Ev (d + 0, 0, 0, 56, 60, [.val (.int p0), .val (.int p1), .val (.int p2), .val a_unk], [], (126, 120, L, [Y, T, HA, HB, RA, RB, ST, NS, I0, I1, I2, BO, FI, RG, GU, PU, MA, MN, MS, OT, SC], [r0, r1, r2, r3, w, r5, r6, r7, r8], Lg)) o from ev_f (c := p1 ≤ p2) _ _ 3  zc16 e (fun n => Eq.refl _)
          exact ev_b 2 (zj4 1 (Option.some.inj zh3) ) (fun n => Eq.refl _)
    · have zh3 := itn zh3 zc9
      suffices e : Ev (d + 0, 0, 0, 56, 36, [.val (.int p0), .val (.int p1), .val (.int p2), .val a_unk], [], (126, 120, L, [Y, T, HA, HB, RA, RB, ST, NS, I0, I1, I2, BO, FI, RG, GU, PU, MA, MN, MS, OT, SC], [r0, r1, r2, r3, w, r5, r6, r7, r8], Lg)) o from ev_f (c := p0 ≠ 5) _ _ 3  zc9 e (fun n => Eq.refl _)
      by_cases zc17 : p2 ≤ p1
      · have zh3 := itp zh3 zc17
        suffices e : Ev (d + 0, 0, 0, 56, 45, [.val (.int p0), .val (.int p1), .val (.int p2), .val a_unk], [], (126, 120, L, [Y, T, HA, HB, RA, RB, ST, NS, I0, I1, I2, BO, FI, RG, GU, PU, MA, MN, MS, OT, SC], [r0, r1, r2, r3, w, r5, r6, r7, r8], Lg)) o from ev_t (c := p2 ≤ p1) _ _ 3  zc17 e (fun n => Eq.refl _)
        exact ev_b 2 (zj4 0 (Option.some.inj zh3) ) (fun n => Eq.refl _)
      · have zh3 := itn zh3 zc17
        suffices e : Ev (d + 0, 0, 0, 56, 41, [.val (.int p0), .val (.int p1), .val (.int p2), .val a_unk], [], (126, 120, L, [Y, T, HA, HB, RA, RB, ST, NS, I0, I1, I2, BO, FI, RG, GU, PU, MA, MN, MS, OT, SC], [r0, r1, r2, r3, w, r5, r6, r7, r8], Lg)) o from ev_f (c := p2 ≤ p1) _ _ 3  zc17 e (fun n => Eq.refl _)
        exact ev_b 2 (zj4 1 (Option.some.inj zh3) ) (fun n => Eq.refl _)
  · have h := itn h zc1
    suffices e : Ev (d + 0, 0, 0, 56, 5, [.val (.int p0), .val (.int p1), .val (.int p2), .val a_unk], [], (126, 120, L, [Y, T, HA, HB, RA, RB, ST, NS, I0, I1, I2, BO, FI, RG, GU, PU, MA, MN, MS, OT, SC], [r0, r1, r2, r3, w, r5, r6, r7, r8], Lg)) o from ev_f (c := 4 < p0) _ _ 3  zc1 e (fun n => Eq.refl _)
    by_cases zc18 : p0 ≠ 2
    · have h := itp h zc18
      suffices e : Ev (d + 0, 0, 0, 56, 16, [.val (.int p0), .val (.int p1), .val (.int p2), .val a_unk], [], (126, 120, L, [Y, T, HA, HB, RA, RB, ST, NS, I0, I1, I2, BO, FI, RG, GU, PU, MA, MN, MS, OT, SC], [r0, r1, r2, r3, w, r5, r6, r7, r8], Lg)) o from ev_t (c := p0 ≠ 2) _ _ 3  zc18 e (fun n => Eq.refl _)
      by_cases zc19 : p0 ≠ 3
      · have h := itp h zc19
        suffices e : Ev (d + 0, 0, 0, 56, 27, [.val (.int p0), .val (.int p1), .val (.int p2), .val a_unk], [], (126, 120, L, [Y, T, HA, HB, RA, RB, ST, NS, I0, I1, I2, BO, FI, RG, GU, PU, MA, MN, MS, OT, SC], [r0, r1, r2, r3, w, r5, r6, r7, r8], Lg)) o from ev_t (c := p0 ≠ 3) _ _ 3  zc19 e (fun n => Eq.refl _)
        have ze20 := Option.some.inj h
        subst ze20
        exact ev_rete 4 ho (fun n => Eq.refl _)
      · have h := itn h zc19
        suffices e : Ev (d + 0, 0, 0, 56, 21, [.val (.int p0), .val (.int p1), .val (.int p2), .val a_unk], [], (126, 120, L, [Y, T, HA, HB, RA, RB, ST, NS, I0, I1, I2, BO, FI, RG, GU, PU, MA, MN, MS, OT, SC], [r0, r1, r2, r3, w, r5, r6, r7, r8], Lg)) o from ev_f (c := p0 ≠ 3) _ _ 3  zc19 e (fun n => Eq.refl _)
        have ze21 := Option.some.inj h
        subst ze21
        exact ev_rete 5 ho (fun n => Eq.refl _)
    · have h := itn h zc18
      suffices e : Ev (d + 0, 0, 0, 56, 10, [.val (.int p0), .val (.int p1), .val (.int p2), .val a_unk], [], (126, 120, L, [Y, T, HA, HB, RA, RB, ST, NS, I0, I1, I2, BO, FI, RG, GU, PU, MA, MN, MS, OT, SC], [r0, r1, r2, r3, w, r5, r6, r7, r8], Lg)) o from ev_f (c := p0 ≠ 2) _ _ 3  zc18 e (fun n => Eq.refl _)
      have ze22 := Option.some.inj h
      subst ze22
      exact ev_rete 5 ho (fun n => Eq.refl _)
set_option maxRecDepth 1000000 in
set_option maxHeartbeats 4000000 in
theorem R_f_M_yieldsTo_0 (d : Nat) (Y T HA HB RA RB ST NS I0 I1 I2 BO FI RG GU PU MA MN MS OT SC : Nat → Nat → Int32) (r0 r1 r2 r3 w r5 r6 r7 r8 : Nat) (L : Nat) (Lg : Int64) (p1 : Int32) (p2 : Int32) (p3 : Int32) (p4 : Int32) {r : Int32 × (Nat → Nat → Int32)} (h : f_M_yieldsTo MA MS p1 p2 p3 p4 = some r) : Ev (d + 1, 0, 0, 55, 0, [.val (.ref 1088), .val (.int p1), .val (.int p2), .val (.int p3), .val (.int p4), .val a_unk, .val a_unk, .val a_unk], [], (126, 120, L, [Y, T, HA, HB, RA, RB, ST, NS, I0, I1, I2, BO, FI, RG, GU, PU, MA, MN, MS, OT, SC], [r0, r1, r2, r3, w, r5, r6, r7, r8], Lg)) ((0, some (.int r.1), (126, 120, L, [Y, T, HA, HB, RA, RB, ST, NS, I0, I1, I2, BO, FI, RG, GU, PU, MA, MN, r.2, OT, SC], [r0, r1, r2, r3, w, r5, r6, r7, r8], Lg)) : AOut) := by
  suffices key : ∀ o : AOut, ((0, some (.int r.1), (126, 120, L, [Y, T, HA, HB, RA, RB, ST, NS, I0, I1, I2, BO, FI, RG, GU, PU, MA, MN, r.2, OT, SC], [r0, r1, r2, r3, w, r5, r6, r7, r8], Lg)) : AOut) = o → Ev (d + 1, 0, 0, 55, 0, [.val (.ref 1088), .val (.int p1), .val (.int p2), .val (.int p3), .val (.int p4), .val a_unk, .val a_unk, .val a_unk], [], (126, 120, L, [Y, T, HA, HB, RA, RB, ST, NS, I0, I1, I2, BO, FI, RG, GU, PU, MA, MN, MS, OT, SC], [r0, r1, r2, r3, w, r5, r6, r7, r8], Lg)) o from key _ rfl
  intro o ho
  by_cases zc1 : (MA 0 40) ≠ 0
  · have h := itp h zc1
    suffices e : Ev (d + 1, 0, 0, 55, 9, [.val (.ref 1088), .val (.int p1), .val (.int p2), .val (.int p3), .val (.int p4), .val a_unk, .val a_unk, .val a_unk], [], (126, 120, L, [Y, T, HA, HB, RA, RB, ST, NS, I0, I1, I2, BO, FI, RG, GU, PU, MA, MN, MS, OT, SC], [r0, r1, r2, r3, w, r5, r6, r7, r8], Lg)) o from ev_t (c := (MA 0 40) ≠ 0) _ _ 3  zc1 e (fun n => Eq.refl _)
    obtain ⟨MS_15, zh3, h⟩ := bnd h
    suffices e : Ev (d + 1, 0, 0, 55, 12, [.val (.ref 1088), .val (.int p1), .val (.int p2), .val (.int p3), .val (.int p4), .val (.int 0), .val a_unk, .val a_unk], [], (126, 120, L, [Y, T, HA, HB, RA, RB, ST, NS, I0, I1, I2, BO, FI, RG, GU, PU, MA, MN, MS, OT, SC], [r0, r1, r2, r3, w, r5, r6, r7, r8], Lg)) o from ev_b 2 e (fun n => Eq.refl _)
    refine ev_loop (δ := Value) (fun a j => (d + 1, 0, 0, 55, 12, [.val (.ref 1088), .val (.int p1), .val (.int p2), .val (.int p3), .val (.int p4), .val (.int a.1), .val j, .val a_unk], [], (126, 120, L, [Y, T, HA, HB, RA, RB, ST, NS, I0, I1, I2, BO, FI, RG, GU, PU, MA, MN, a.2, OT, SC], [r0, r1, r2, r3, w, r5, r6, r7, r8], Lg))) (fun b => ∀ s13 : Value, ∀ s14 : Value, Ev (d + 1, 0, 0, 55, 114, [.val (.ref 1088), .val (.int p1), .val (.int p2), .val (.int p3), .val (.int p4), .val s13, .val s14, .val a_unk], [], (126, 120, L, [Y, T, HA, HB, RA, RB, ST, NS, I0, I1, I2, BO, FI, RG, GU, PU, MA, MN, b, OT, SC], [r0, r1, r2, r3, w, r5, r6, r7, r8], Lg)) o) ?_ a_F (0, MS) MS_15 zh3 ?_ a_unk
    · rintro ⟨v1, MS_3⟩ zr7 zh6 zi4 zx5 s2
      have zh6 : f_M_yieldsTo_l12 MA p2 p1 v1 MS_3 = some zr7 := zh6
      by_cases zc8 : 2 ≤ v1
      · have zh6 := itp zh6 zc8
        suffices e : Ev (d + 1, 0, 0, 55, 114, [.val (.ref 1088), .val (.int p1), .val (.int p2), .val (.int p3), .val (.int p4), .val (.int v1), .val s2, .val a_unk], [], (126, 120, L, [Y, T, HA, HB, RA, RB, ST, NS, I0, I1, I2, BO, FI, RG, GU, PU, MA, MN, MS_3, OT, SC], [r0, r1, r2, r3, w, r5, r6, r7, r8], Lg)) o from ev_t (c := 2 ≤ v1) _ _ 3  zc8 e (fun n => Eq.refl _)
        exact ev_b 0 (zx5 _ (Option.some.inj zh6).symm (.int v1) s2) (fun n => Eq.refl _)
      · have zh6 := itn zh6 zc8
        suffices e : Ev (d + 1, 0, 0, 55, 18, [.val (.ref 1088), .val (.int p1), .val (.int p2), .val (.int p3), .val (.int p4), .val (.int v1), .val s2, .val a_unk], [], (126, 120, L, [Y, T, HA, HB, RA, RB, ST, NS, I0, I1, I2, BO, FI, RG, GU, PU, MA, MN, MS_3, OT, SC], [r0, r1, r2, r3, w, r5, r6, r7, r8], Lg)) o from ev_f (c := 2 ≤ v1) _ _ 3  zc8 e (fun n => Eq.refl _)
        obtain ⟨zt9, zh10, zh6⟩ := bnd zh6
        have zj11 : ∀ (v4 : Int32), v4 = zt9 → Ev (d + 1, 0, 0, 55, 28, [.val (.ref 1088), .val (.int p1), .val (.int p2), .val (.int p3), .val (.int p4), .val (.int v1), .val s2, .val a_unk], [.int v4], (126, 120, L, [Y, T, HA, HB, RA, RB, ST, NS, I0, I1, I2, BO, FI, RG, GU, PU, MA, MN, MS_3, OT, SC], [r0, r1, r2, r3, w, r5, r6, r7, r8], Lg)) o := by
          intro v4 ze12
          subst ze12
          obtain ⟨x5, zh13, zh6⟩ := bnd zh6
          have zh13 : rdx (MA 5) 60 ((6 * v4) + 1) = some x5 := zh13
          suffices e : Ev (d + 1, 0, 0, 55, 50, [.val (.ref 1088), .val (.int p1), .val (.int p2), .val (.int p3), .val (.int p4), .val (.int v1), .val (.int v4), .val a_unk], [.int x5, .int (4 * v1), .ref 1219], (126, 120, L, [Y, T, HA, HB, RA, RB, ST, NS, I0, I1, I2, BO, FI, RG, GU, PU, MA, MN, MS_3, OT, SC], [r0, r1, r2, r3, w, r5, r6, r7, r8], Lg)) o from ev_opt (fun x5 => (d + 1, 0, 0, 55, 50, [.val (.ref 1088), .val (.int p1), .val (.int p2), .val (.int p3), .val (.int p4), .val (.int v1), .val (.int v4), .val a_unk], [.int x5, .int (4 * v1), .ref 1219], (126, 120, L, [Y, T, HA, HB, RA, RB, ST, NS, I0, I1, I2, BO, FI, RG, GU, PU, MA, MN, MS_3, OT, SC], [r0, r1, r2, r3, w, r5, r6, r7, r8], Lg))) 14 zh13 e (fun n => Eq.refl _)
          obtain ⟨j6, zh14, zh6⟩ := bnd zh6
          have zh14 : ixx 11 (4 * v1) = some j6 := zh14
          suffices e : Ev (d + 1, 0, 0, 55, 51, [.val (.ref 1088), .val (.int p1), .val (.int p2), .val (.int p3), .val (.int p4), .val (.int v1), .val (.int v4), .val a_unk], [], (126, 120, L, [Y, T, HA, HB, RA, RB, ST, NS, I0, I1, I2, BO, FI, RG, GU, PU, MA, MN, (u2 MS_3 3 j6 x5), OT, SC], [r0, r1, r2, r3, w, r5, r6, r7, r8], Lg)) o from ev_opt (fun j6 => (d + 1, 0, 0, 55, 51, [.val (.ref 1088), .val (.int p1), .val (.int p2), .val (.int p3), .val (.int p4), .val (.int v1), .val (.int v4), .val a_unk], [], (126, 120, L, [Y, T, HA, HB, RA, RB, ST, NS, I0, I1, I2, BO, FI, RG, GU, PU, MA, MN, (u2 MS_3 3 j6 x5), OT, SC], [r0, r1, r2, r3, w, r5, r6, r7, r8], Lg))) 1 zh14 e (fun n => Eq.refl _)
          obtain ⟨x7, zh15, zh6⟩ := bnd zh6
          have zh15 : rdx (MA 8) 10 v4 = some x7 := zh15
          suffices e : Ev (d + 1, 0, 0, 55, 68, [.val (.ref 1088), .val (.int p1), .val (.int p2), .val (.int p3), .val (.int p4), .val (.int v1), .val (.int v4), .val a_unk], [.int x7, .int ((4 * v1) + 1), .ref 1219], (126, 120, L, [Y, T, HA, HB, RA, RB, ST, NS, I0, I1, I2, BO, FI, RG, GU, PU, MA, MN, (u2 MS_3 3 j6 x5), OT, SC], [r0, r1, r2, r3, w, r5, r6, r7, r8], Lg)) o from ev_opt (fun x7 => (d + 1, 0, 0, 55, 68, [.val (.ref 1088), .val (.int p1), .val (.int p2), .val (.int p3), .val (.int p4), .val (.int v1), .val (.int v4), .val a_unk], [.int x7, .int ((4 * v1) + 1), .ref 1219], (126, 120, L, [Y, T, HA, HB, RA, RB, ST, NS, I0, I1, I2, BO, FI, RG, GU, PU, MA, MN, (u2 MS_3 3 j6 x5), OT, SC], [r0, r1, r2, r3, w, r5, r6, r7, r8], Lg))) 11 zh15 e (fun n => Eq.refl _)
          obtain ⟨j8, zh16, zh6⟩ := bnd zh6
          have zh16 : ixx 11 ((4 * v1) + 1) = some j8 := zh16
          suffices e : Ev (d + 1, 0, 0, 55, 69, [.val (.ref 1088), .val (.int p1), .val (.int p2), .val (.int p3), .val (.int p4), .val (.int v1), .val (.int v4), .val a_unk], [], (126, 120, L, [Y, T, HA, HB, RA, RB, ST, NS, I0, I1, I2, BO, FI, RG, GU, PU, MA, MN, (u2 (u2 MS_3 3 j6 x5) 3 j8 x7), OT, SC], [r0, r1, r2, r3, w, r5, r6, r7, r8], Lg)) o from ev_opt (fun j8 => (d + 1, 0, 0, 55, 69, [.val (.ref 1088), .val (.int p1), .val (.int p2), .val (.int p3), .val (.int p4), .val (.int v1), .val (.int v4), .val a_unk], [], (126, 120, L, [Y, T, HA, HB, RA, RB, ST, NS, I0, I1, I2, BO, FI, RG, GU, PU, MA, MN, (u2 (u2 MS_3 3 j6 x5) 3 j8 x7), OT, SC], [r0, r1, r2, r3, w, r5, r6, r7, r8], Lg))) 1 zh16 e (fun n => Eq.refl _)
          obtain ⟨x9, zh17, zh6⟩ := bnd zh6
          have zh17 : rdx (MA 5) 60 ((6 * v4) + 2) = some x9 := zh17
          suffices e : Ev (d + 1, 0, 0, 55, 91, [.val (.ref 1088), .val (.int p1), .val (.int p2), .val (.int p3), .val (.int p4), .val (.int v1), .val (.int v4), .val a_unk], [.int x9, .int ((4 * v1) + 2), .ref 1219], (126, 120, L, [Y, T, HA, HB, RA, RB, ST, NS, I0, I1, I2, BO, FI, RG, GU, PU, MA, MN, (u2 (u2 MS_3 3 j6 x5) 3 j8 x7), OT, SC], [r0, r1, r2, r3, w, r5, r6, r7, r8], Lg)) o from ev_opt (fun x9 => (d + 1, 0, 0, 55, 91, [.val (.ref 1088), .val (.int p1), .val (.int p2), .val (.int p3), .val (.int p4), .val (.int v1), .val (.int v4), .val a_unk], [.int x9, .int ((4 * v1) + 2), .ref 1219], (126, 120, L, [Y, T, HA, HB, RA, RB, ST, NS, I0, I1, I2, BO, FI, RG, GU, PU, MA, MN, (u2 (u2 MS_3 3 j6 x5) 3 j8 x7), OT, SC], [r0, r1, r2, r3, w, r5, r6, r7, r8], Lg))) 15 zh17 e (fun n => Eq.refl _)
          obtain ⟨x10, zh18, zh6⟩ := bnd zh6
          have zh18 : f_M_ones x9 = some x10 := zh18
          have ze19 := R_f_M_ones_0 (d + 0) Y T HA HB RA RB ST NS I0 I1 I2 BO FI RG GU PU MA MN (u2 (u2 MS_3 3 j6 x5) 3 j8 x7) OT SC r0 r1 r2 r3 w r5 r6 r7 r8 L Lg x9 zh18
          suffices e : Ev (d + 1, 0, 0, 55, 94, [.val (.ref 1088), .val (.int p1), .val (.int p2), .val (.int p3), .val (.int p4), .val (.int v1), .val (.int v4), .val a_unk], [.int x10, .int ((4 * v1) + 2), .ref 1219], (126, 120, L, [Y, T, HA, HB, RA, RB, ST, NS, I0, I1, I2, BO, FI, RG, GU, PU, MA, MN, (u2 (u2 MS_3 3 j6 x5) 3 j8 x7), OT, SC], [r0, r1, r2, r3, w, r5, r6, r7, r8], Lg)) o from ev_call (fun v μ => (d + 1, 0, 0, 55, 94, [.val (.ref 1088), .val (.int p1), .val (.int p2), .val (.int p3), .val (.int p4), .val (.int v1), .val (.int v4), .val a_unk], v.toList ++ [.int ((4 * v1) + 2), .ref 1219], μ)) 1 ze19 e (fun n => Eq.refl _)
          obtain ⟨j11, zh20, zh6⟩ := bnd zh6
          have zh20 : ixx 11 ((4 * v1) + 2) = some j11 := zh20
          suffices e : Ev (d + 1, 0, 0, 55, 95, [.val (.ref 1088), .val (.int p1), .val (.int p2), .val (.int p3), .val (.int p4), .val (.int v1), .val (.int v4), .val a_unk], [], (126, 120, L, [Y, T, HA, HB, RA, RB, ST, NS, I0, I1, I2, BO, FI, RG, GU, PU, MA, MN, (u2 (u2 (u2 MS_3 3 j6 x5) 3 j8 x7) 3 j11 x10), OT, SC], [r0, r1, r2, r3, w, r5, r6, r7, r8], Lg)) o from ev_opt (fun j11 => (d + 1, 0, 0, 55, 95, [.val (.ref 1088), .val (.int p1), .val (.int p2), .val (.int p3), .val (.int p4), .val (.int v1), .val (.int v4), .val a_unk], [], (126, 120, L, [Y, T, HA, HB, RA, RB, ST, NS, I0, I1, I2, BO, FI, RG, GU, PU, MA, MN, (u2 (u2 (u2 MS_3 3 j6 x5) 3 j8 x7) 3 j11 x10), OT, SC], [r0, r1, r2, r3, w, r5, r6, r7, r8], Lg))) 1 zh20 e (fun n => Eq.refl _)
          obtain ⟨j12, zh21, zh6⟩ := bnd zh6
          have zh21 : ixx 11 ((4 * v1) + 3) = some j12 := zh21
          suffices e : Ev (d + 1, 0, 0, 55, 108, [.val (.ref 1088), .val (.int p1), .val (.int p2), .val (.int p3), .val (.int p4), .val (.int v1), .val (.int v4), .val a_unk], [], (126, 120, L, [Y, T, HA, HB, RA, RB, ST, NS, I0, I1, I2, BO, FI, RG, GU, PU, MA, MN, (u2 (u2 (u2 (u2 MS_3 3 j6 x5) 3 j8 x7) 3 j11 x10) 3 j12 v4), OT, SC], [r0, r1, r2, r3, w, r5, r6, r7, r8], Lg)) o from ev_opt (fun j12 => (d + 1, 0, 0, 55, 108, [.val (.ref 1088), .val (.int p1), .val (.int p2), .val (.int p3), .val (.int p4), .val (.int v1), .val (.int v4), .val a_unk], [], (126, 120, L, [Y, T, HA, HB, RA, RB, ST, NS, I0, I1, I2, BO, FI, RG, GU, PU, MA, MN, (u2 (u2 (u2 (u2 MS_3 3 j6 x5) 3 j8 x7) 3 j11 x10) 3 j12 v4), OT, SC], [r0, r1, r2, r3, w, r5, r6, r7, r8], Lg))) 9 zh21 e (fun n => Eq.refl _)
          exact ev_b 2 (zi4 _ (Option.some.inj zh6).symm (.int v4)) (fun n => Eq.refl _)
        by_cases zc22 : v1 ≠ 0
        · have zh10 := itp zh10 zc22
          suffices e : Ev (d + 1, 0, 0, 55, 27, [.val (.ref 1088), .val (.int p1), .val (.int p2), .val (.int p3), .val (.int p4), .val (.int v1), .val s2, .val a_unk], [], (126, 120, L, [Y, T, HA, HB, RA, RB, ST, NS, I0, I1, I2, BO, FI, RG, GU, PU, MA, MN, MS_3, OT, SC], [r0, r1, r2, r3, w, r5, r6, r7, r8], Lg)) o from ev_t (c := v1 ≠ 0) _ _ 2  zc22 e (fun n => Eq.refl _)
          exact ev_b 1 (zj11 p2 (Option.some.inj zh10) ) (fun n => Eq.refl _)
        · have zh10 := itn zh10 zc22
          suffices e : Ev (d + 1, 0, 0, 55, 23, [.val (.ref 1088), .val (.int p1), .val (.int p2), .val (.int p3), .val (.int p4), .val (.int v1), .val s2, .val a_unk], [], (126, 120, L, [Y, T, HA, HB, RA, RB, ST, NS, I0, I1, I2, BO, FI, RG, GU, PU, MA, MN, MS_3, OT, SC], [r0, r1, r2, r3, w, r5, r6, r7, r8], Lg)) o from ev_f (c := v1 ≠ 0) _ _ 2  zc22 e (fun n => Eq.refl _)
          exact ev_b 2 (zj11 p1 (Option.some.inj zh10) ) (fun n => Eq.refl _)
    · skip
      intro s13 s14
      suffices e : Ev (d + 1, 0, 0, 55, 123, [.val (.ref 1088), .val (.int p1), .val (.int p2), .val (.int p3), .val (.int p4), .val s13, .val s14, .val a_unk], [.int (p3 / 3), .int 8, .ref 1219], (126, 120, L, [Y, T, HA, HB, RA, RB, ST, NS, I0, I1, I2, BO, FI, RG, GU, PU, MA, MN, MS_15, OT, SC], [r0, r1, r2, r3, w, r5, r6, r7, r8], Lg)) o from ev_b 6 e (fun n => Eq.refl _)
      obtain ⟨j16, zh23, h⟩ := bnd h
      have zh23 : ixx 11 8 = some j16 := zh23
      suffices e : Ev (d + 1, 0, 0, 55, 124, [.val (.ref 1088), .val (.int p1), .val (.int p2), .val (.int p3), .val (.int p4), .val s13, .val s14, .val a_unk], [], (126, 120, L, [Y, T, HA, HB, RA, RB, ST, NS, I0, I1, I2, BO, FI, RG, GU, PU, MA, MN, (u2 MS_15 3 j16 (p3 / 3)), OT, SC], [r0, r1, r2, r3, w, r5, r6, r7, r8], Lg)) o from ev_opt (fun j16 => (d + 1, 0, 0, 55, 124, [.val (.ref 1088), .val (.int p1), .val (.int p2), .val (.int p3), .val (.int p4), .val s13, .val s14, .val a_unk], [], (126, 120, L, [Y, T, HA, HB, RA, RB, ST, NS, I0, I1, I2, BO, FI, RG, GU, PU, MA, MN, (u2 MS_15 3 j16 (p3 / 3)), OT, SC], [r0, r1, r2, r3, w, r5, r6, r7, r8], Lg))) 1 zh23 e (fun n => Eq.refl _)
      suffices e : Ev (d + 1, 0, 0, 55, 133, [.val (.ref 1088), .val (.int p1), .val (.int p2), .val (.int p3), .val (.int p4), .val s13, .val s14, .val a_unk], [.int (a_rem p3 3), .int 9, .ref 1219], (126, 120, L, [Y, T, HA, HB, RA, RB, ST, NS, I0, I1, I2, BO, FI, RG, GU, PU, MA, MN, (u2 MS_15 3 j16 (p3 / 3)), OT, SC], [r0, r1, r2, r3, w, r5, r6, r7, r8], Lg)) o from ev_b 6 e (fun n => Eq.refl _)
      obtain ⟨j17, zh24, h⟩ := bnd h
      have zh24 : ixx 11 9 = some j17 := zh24
      suffices e : Ev (d + 1, 0, 0, 55, 134, [.val (.ref 1088), .val (.int p1), .val (.int p2), .val (.int p3), .val (.int p4), .val s13, .val s14, .val a_unk], [], (126, 120, L, [Y, T, HA, HB, RA, RB, ST, NS, I0, I1, I2, BO, FI, RG, GU, PU, MA, MN, (u2 (u2 MS_15 3 j16 (p3 / 3)) 3 j17 (a_rem p3 3)), OT, SC], [r0, r1, r2, r3, w, r5, r6, r7, r8], Lg)) o from ev_opt (fun j17 => (d + 1, 0, 0, 55, 134, [.val (.ref 1088), .val (.int p1), .val (.int p2), .val (.int p3), .val (.int p4), .val s13, .val s14, .val a_unk], [], (126, 120, L, [Y, T, HA, HB, RA, RB, ST, NS, I0, I1, I2, BO, FI, RG, GU, PU, MA, MN, (u2 (u2 MS_15 3 j16 (p3 / 3)) 3 j17 (a_rem p3 3)), OT, SC], [r0, r1, r2, r3, w, r5, r6, r7, r8], Lg))) 1 zh24 e (fun n => Eq.refl _)
      obtain ⟨j18, zh25, h⟩ := bnd h
      have zh25 : ixx 11 10 = some j18 := zh25
      suffices e : Ev (d + 1, 0, 0, 55, 143, [.val (.ref 1088), .val (.int p1), .val (.int p2), .val (.int p3), .val (.int p4), .val s13, .val s14, .val a_unk], [], (126, 120, L, [Y, T, HA, HB, RA, RB, ST, NS, I0, I1, I2, BO, FI, RG, GU, PU, MA, MN, (u2 (u2 (u2 MS_15 3 j16 (p3 / 3)) 3 j17 (a_rem p3 3)) 3 j18 p4), OT, SC], [r0, r1, r2, r3, w, r5, r6, r7, r8], Lg)) o from ev_opt (fun j18 => (d + 1, 0, 0, 55, 143, [.val (.ref 1088), .val (.int p1), .val (.int p2), .val (.int p3), .val (.int p4), .val s13, .val s14, .val a_unk], [], (126, 120, L, [Y, T, HA, HB, RA, RB, ST, NS, I0, I1, I2, BO, FI, RG, GU, PU, MA, MN, (u2 (u2 (u2 MS_15 3 j16 (p3 / 3)) 3 j17 (a_rem p3 3)) 3 j18 p4), OT, SC], [r0, r1, r2, r3, w, r5, r6, r7, r8], Lg))) 5 zh25 e (fun n => Eq.refl _)
      obtain ⟨MS_38, zh27, h⟩ := bnd h
      suffices e : Ev (d + 1, 0, 0, 55, 149, [.val (.ref 1088), .val (.int p1), .val (.int p2), .val (.int p3), .val (.int p4), .val (.int 0), .val (.int 0), .val a_unk], [], (126, 120, L, [Y, T, HA, HB, RA, RB, ST, NS, I0, I1, I2, BO, FI, RG, GU, PU, MA, MN, (u2 (u2 (u2 MS_15 3 j16 (p3 / 3)) 3 j17 (a_rem p3 3)) 3 j18 p4), OT, SC], [r0, r1, r2, r3, w, r5, r6, r7, r8], Lg)) o from ev_b 4 e (fun n => Eq.refl _)
      refine ev_loop (δ := Value) (fun a j => (d + 1, 0, 0, 55, 149, [.val (.ref 1088), .val (.int p1), .val (.int p2), .val (.int p3), .val (.int p4), .val (.int a.1), .val (.int a.2.1), .val j], [], (126, 120, L, [Y, T, HA, HB, RA, RB, ST, NS, I0, I1, I2, BO, FI, RG, GU, PU, MA, MN, a.2.2, OT, SC], [r0, r1, r2, r3, w, r5, r6, r7, r8], Lg))) (fun b => ∀ s35 : Value, ∀ s36 : Value, ∀ s37 : Value, Ev (d + 1, 0, 0, 55, 282, [.val (.ref 1088), .val (.int p1), .val (.int p2), .val (.int p3), .val (.int p4), .val s35, .val s36, .val s37], [], (126, 120, L, [Y, T, HA, HB, RA, RB, ST, NS, I0, I1, I2, BO, FI, RG, GU, PU, MA, MN, b, OT, SC], [r0, r1, r2, r3, w, r5, r6, r7, r8], Lg)) o) ?_ a_F (0, 0, (u2 (u2 (u2 MS_15 3 j16 (p3 / 3)) 3 j17 (a_rem p3 3)) 3 j18 p4)) MS_38 zh27 ?_ a_unk
      · rintro ⟨v19, v20, MS_22⟩ zr31 zh30 zi28 zx29 s21
        have zh30 : f_M_yieldsTo_l149 MA v19 v20 MS_22 = some zr31 := zh30
        by_cases zc32 : (MA 0 40) ≤ v20
        · have zh30 := itp zh30 zc32
          suffices e : Ev (d + 1, 0, 0, 55, 282, [.val (.ref 1088), .val (.int p1), .val (.int p2), .val (.int p3), .val (.int p4), .val (.int v19), .val (.int v20), .val s21], [], (126, 120, L, [Y, T, HA, HB, RA, RB, ST, NS, I0, I1, I2, BO, FI, RG, GU, PU, MA, MN, MS_22, OT, SC], [r0, r1, r2, r3, w, r5, r6, r7, r8], Lg)) o from ev_t (c := (MA 0 40) ≤ v20) _ _ 4  zc32 e (fun n => Eq.refl _)
          exact ev_b 0 (zx29 _ (Option.some.inj zh30).symm (.int v19) (.int v20) s21) (fun n => Eq.refl _)
        · have zh30 := itn zh30 zc32
          suffices e : Ev (d + 1, 0, 0, 55, 158, [.val (.ref 1088), .val (.int p1), .val (.int p2), .val (.int p3), .val (.int p4), .val (.int v19), .val (.int v20), .val s21], [], (126, 120, L, [Y, T, HA, HB, RA, RB, ST, NS, I0, I1, I2, BO, FI, RG, GU, PU, MA, MN, MS_22, OT, SC], [r0, r1, r2, r3, w, r5, r6, r7, r8], Lg)) o from ev_f (c := (MA 0 40) ≤ v20) _ _ 4  zc32 e (fun n => Eq.refl _)
          obtain ⟨x23, zh33, zh30⟩ := bnd zh30
          have zh33 : rdx (MA 10) 150 v20 = some x23 := zh33
          suffices e : Ev (d + 1, 0, 0, 55, 165, [.val (.ref 1088), .val (.int p1), .val (.int p2), .val (.int p3), .val (.int p4), .val (.int v19), .val (.int v20), .val s21], [.int x23], (126, 120, L, [Y, T, HA, HB, RA, RB, ST, NS, I0, I1, I2, BO, FI, RG, GU, PU, MA, MN, MS_22, OT, SC], [r0, r1, r2, r3, w, r5, r6, r7, r8], Lg)) o from ev_opt (fun x23 => (d + 1, 0, 0, 55, 165, [.val (.ref 1088), .val (.int p1), .val (.int p2), .val (.int p3), .val (.int p4), .val (.int v19), .val (.int v20), .val s21], [.int x23], (126, 120, L, [Y, T, HA, HB, RA, RB, ST, NS, I0, I1, I2, BO, FI, RG, GU, PU, MA, MN, MS_22, OT, SC], [r0, r1, r2, r3, w, r5, r6, r7, r8], Lg))) 4 zh33 e (fun n => Eq.refl _)
          by_cases zc34 : 1 < x23
          · have zh30 := itp zh30 zc34
            suffices e : Ev (d + 1, 0, 0, 55, 213, [.val (.ref 1088), .val (.int p1), .val (.int p2), .val (.int p3), .val (.int p4), .val (.int v19), .val (.int v20), .val (.int x23)], [], (126, 120, L, [Y, T, HA, HB, RA, RB, ST, NS, I0, I1, I2, BO, FI, RG, GU, PU, MA, MN, MS_22, OT, SC], [r0, r1, r2, r3, w, r5, r6, r7, r8], Lg)) o from ev_t (c := 1 < x23) _ _ 4  zc34 e (fun n => Eq.refl _)
            by_cases zc35 : x23 ≠ 8
            · have zh30 := itp zh30 zc35
              suffices e : Ev (d + 1, 0, 0, 55, 243, [.val (.ref 1088), .val (.int p1), .val (.int p2), .val (.int p3), .val (.int p4), .val (.int v19), .val (.int v20), .val (.int x23)], [], (126, 120, L, [Y, T, HA, HB, RA, RB, ST, NS, I0, I1, I2, BO, FI, RG, GU, PU, MA, MN, MS_22, OT, SC], [r0, r1, r2, r3, w, r5, r6, r7, r8], Lg)) o from ev_t (c := x23 ≠ 8) _ _ 3  zc35 e (fun n => Eq.refl _)
              suffices e : Ev (d + 1, 0, 0, 55, 246, [.val (.ref 1088), .val (.int p1), .val (.int p2), .val (.int p3), .val (.int p4), .val (.int (v19 + (-1))), .val (.int v20), .val (.int x23)], [], (126, 120, L, [Y, T, HA, HB, RA, RB, ST, NS, I0, I1, I2, BO, FI, RG, GU, PU, MA, MN, MS_22, OT, SC], [r0, r1, r2, r3, w, r5, r6, r7, r8], Lg)) o from ev_b 1 e (fun n => Eq.refl _)
              obtain ⟨x24, zh36, zh30⟩ := bnd zh30
              have zh36 : rdx (MS_22 2) 150 ((v19 + (-1)) - 1) = some x24 := zh36
              suffices e : Ev (d + 1, 0, 0, 55, 265, [.val (.ref 1088), .val (.int p1), .val (.int p2), .val (.int p3), .val (.int p4), .val (.int (v19 + (-1))), .val (.int v20), .val (.int x23)], [.int x24, .int x23, .int ((v19 + (-1)) - 1), .ref 1218], (126, 120, L, [Y, T, HA, HB, RA, RB, ST, NS, I0, I1, I2, BO, FI, RG, GU, PU, MA, MN, MS_22, OT, SC], [r0, r1, r2, r3, w, r5, r6, r7, r8], Lg)) o from ev_opt (fun x24 => (d + 1, 0, 0, 55, 265, [.val (.ref 1088), .val (.int p1), .val (.int p2), .val (.int p3), .val (.int p4), .val (.int (v19 + (-1))), .val (.int v20), .val (.int x23)], [.int x24, .int x23, .int ((v19 + (-1)) - 1), .ref 1218], (126, 120, L, [Y, T, HA, HB, RA, RB, ST, NS, I0, I1, I2, BO, FI, RG, GU, PU, MA, MN, MS_22, OT, SC], [r0, r1, r2, r3, w, r5, r6, r7, r8], Lg))) 12 zh36 e (fun n => Eq.refl _)
              obtain ⟨x25, zh37, zh30⟩ := bnd zh30
              have zh37 : rdx (MS_22 2) 150 (v19 + (-1)) = some x25 := zh37
              suffices e : Ev (d + 1, 0, 0, 55, 272, [.val (.ref 1088), .val (.int p1), .val (.int p2), .val (.int p3), .val (.int p4), .val (.int (v19 + (-1))), .val (.int v20), .val (.int x23)], [.int x25, .int x24, .int x23, .int ((v19 + (-1)) - 1), .ref 1218], (126, 120, L, [Y, T, HA, HB, RA, RB, ST, NS, I0, I1, I2, BO, FI, RG, GU, PU, MA, MN, MS_22, OT, SC], [r0, r1, r2, r3, w, r5, r6, r7, r8], Lg)) o from ev_opt (fun x25 => (d + 1, 0, 0, 55, 272, [.val (.ref 1088), .val (.int p1), .val (.int p2), .val (.int p3), .val (.int p4), .val (.int (v19 + (-1))), .val (.int v20), .val (.int x23)], [.int x25, .int x24, .int x23, .int ((v19 + (-1)) - 1), .ref 1218], (126, 120, L, [Y, T, HA, HB, RA, RB, ST, NS, I0, I1, I2, BO, FI, RG, GU, PU, MA, MN, MS_22, OT, SC], [r0, r1, r2, r3, w, r5, r6, r7, r8], Lg))) 4 zh37 e (fun n => Eq.refl _)
              obtain ⟨x26, zh38, zh30⟩ := bnd zh30
              have zh38 : f_M_both x23 x24 x25 = some x26 := zh38
              have ze39 := R_f_M_both_0 (d + 0) Y T HA HB RA RB ST NS I0 I1 I2 BO FI RG GU PU MA MN MS_22 OT SC r0 r1 r2 r3 w r5 r6 r7 r8 L Lg x23 x24 x25 zh38
              suffices e : Ev (d + 1, 0, 0, 55, 275, [.val (.ref 1088), .val (.int p1), .val (.int p2), .val (.int p3), .val (.int p4), .val (.int (v19 + (-1))), .val (.int v20), .val (.int x23)], [.int x26, .int ((v19 + (-1)) - 1), .ref 1218], (126, 120, L, [Y, T, HA, HB, RA, RB, ST, NS, I0, I1, I2, BO, FI, RG, GU, PU, MA, MN, MS_22, OT, SC], [r0, r1, r2, r3, w, r5, r6, r7, r8], Lg)) o from ev_call (fun v μ => (d + 1, 0, 0, 55, 275, [.val (.ref 1088), .val (.int p1), .val (.int p2), .val (.int p3), .val (.int p4), .val (.int (v19 + (-1))), .val (.int v20), .val (.int x23)], v.toList ++ [.int ((v19 + (-1)) - 1), .ref 1218], μ)) 1 ze39 e (fun n => Eq.refl _)
              obtain ⟨j27, zh40, zh30⟩ := bnd zh30
              have zh40 : ixx 150 ((v19 + (-1)) - 1) = some j27 := zh40
              suffices e : Ev (d + 1, 0, 0, 55, 276, [.val (.ref 1088), .val (.int p1), .val (.int p2), .val (.int p3), .val (.int p4), .val (.int (v19 + (-1))), .val (.int v20), .val (.int x23)], [], (126, 120, L, [Y, T, HA, HB, RA, RB, ST, NS, I0, I1, I2, BO, FI, RG, GU, PU, MA, MN, (u2 MS_22 2 j27 x26), OT, SC], [r0, r1, r2, r3, w, r5, r6, r7, r8], Lg)) o from ev_opt (fun j27 => (d + 1, 0, 0, 55, 276, [.val (.ref 1088), .val (.int p1), .val (.int p2), .val (.int p3), .val (.int p4), .val (.int (v19 + (-1))), .val (.int v20), .val (.int x23)], [], (126, 120, L, [Y, T, HA, HB, RA, RB, ST, NS, I0, I1, I2, BO, FI, RG, GU, PU, MA, MN, (u2 MS_22 2 j27 x26), OT, SC], [r0, r1, r2, r3, w, r5, r6, r7, r8], Lg))) 1 zh40 e (fun n => Eq.refl _)
              exact ev_b 2 (zi28 _ (Option.some.inj zh30).symm (.int x23)) (fun n => Eq.refl _)
            · have zh30 := itn zh30 zc35
              suffices e : Ev (d + 1, 0, 0, 55, 220, [.val (.ref 1088), .val (.int p1), .val (.int p2), .val (.int p3), .val (.int p4), .val (.int v19), .val (.int v20), .val (.int x23)], [], (126, 120, L, [Y, T, HA, HB, RA, RB, ST, NS, I0, I1, I2, BO, FI, RG, GU, PU, MA, MN, MS_22, OT, SC], [r0, r1, r2, r3, w, r5, r6, r7, r8], Lg)) o from ev_f (c := x23 ≠ 8) _ _ 3  zc35 e (fun n => Eq.refl _)
              obtain ⟨x28, zh41, zh30⟩ := bnd zh30
              have zh41 : rdx (MS_22 2) 150 (v19 - 1) = some x28 := zh41
              suffices e : Ev (d + 1, 0, 0, 55, 238, [.val (.ref 1088), .val (.int p1), .val (.int p2), .val (.int p3), .val (.int p4), .val (.int v19), .val (.int v20), .val (.int x23)], [.int x28, .int 1, .int (v19 - 1), .ref 1218], (126, 120, L, [Y, T, HA, HB, RA, RB, ST, NS, I0, I1, I2, BO, FI, RG, GU, PU, MA, MN, MS_22, OT, SC], [r0, r1, r2, r3, w, r5, r6, r7, r8], Lg)) o from ev_opt (fun x28 => (d + 1, 0, 0, 55, 238, [.val (.ref 1088), .val (.int p1), .val (.int p2), .val (.int p3), .val (.int p4), .val (.int v19), .val (.int v20), .val (.int x23)], [.int x28, .int 1, .int (v19 - 1), .ref 1218], (126, 120, L, [Y, T, HA, HB, RA, RB, ST, NS, I0, I1, I2, BO, FI, RG, GU, PU, MA, MN, MS_22, OT, SC], [r0, r1, r2, r3, w, r5, r6, r7, r8], Lg))) 12 zh41 e (fun n => Eq.refl _)
              obtain ⟨j29, zh42, zh30⟩ := bnd zh30
              have zh42 : ixx 150 (v19 - 1) = some j29 := zh42
              suffices e : Ev (d + 1, 0, 0, 55, 240, [.val (.ref 1088), .val (.int p1), .val (.int p2), .val (.int p3), .val (.int p4), .val (.int v19), .val (.int v20), .val (.int x23)], [], (126, 120, L, [Y, T, HA, HB, RA, RB, ST, NS, I0, I1, I2, BO, FI, RG, GU, PU, MA, MN, (u2 MS_22 2 j29 (1 - x28)), OT, SC], [r0, r1, r2, r3, w, r5, r6, r7, r8], Lg)) o from ev_opt (fun j29 => (d + 1, 0, 0, 55, 240, [.val (.ref 1088), .val (.int p1), .val (.int p2), .val (.int p3), .val (.int p4), .val (.int v19), .val (.int v20), .val (.int x23)], [], (126, 120, L, [Y, T, HA, HB, RA, RB, ST, NS, I0, I1, I2, BO, FI, RG, GU, PU, MA, MN, (u2 MS_22 2 j29 (1 - x28)), OT, SC], [r0, r1, r2, r3, w, r5, r6, r7, r8], Lg))) 2 zh42 e (fun n => Eq.refl _)
              exact ev_b 3 (zi28 _ (Option.some.inj zh30).symm (.int x23)) (fun n => Eq.refl _)
          · have zh30 := itn zh30 zc34
            suffices e : Ev (d + 1, 0, 0, 55, 173, [.val (.ref 1088), .val (.int p1), .val (.int p2), .val (.int p3), .val (.int p4), .val (.int v19), .val (.int v20), .val (.int x23)], [], (126, 120, L, [Y, T, HA, HB, RA, RB, ST, NS, I0, I1, I2, BO, FI, RG, GU, PU, MA, MN, MS_22, OT, SC], [r0, r1, r2, r3, w, r5, r6, r7, r8], Lg)) o from ev_f (c := 1 < x23) _ _ 4  zc34 e (fun n => Eq.refl _)
            obtain ⟨zt43, zh44, zh30⟩ := bnd zh30
            have zj45 : ∀ (v33 : Int32), v33 = zt43 → Ev (d + 1, 0, 0, 55, 206, [.val (.ref 1088), .val (.int p1), .val (.int p2), .val (.int p3), .val (.int p4), .val (.int v19), .val (.int v20), .val (.int x23)], [.int v33, .int v19, .ref 1218], (126, 120, L, [Y, T, HA, HB, RA, RB, ST, NS, I0, I1, I2, BO, FI, RG, GU, PU, MA, MN, MS_22, OT, SC], [r0, r1, r2, r3, w, r5, r6, r7, r8], Lg)) o := by
              intro v33 ze46
              subst ze46
              obtain ⟨j34, zh47, zh30⟩ := bnd zh30
              have zh47 : ixx 150 v19 = some j34 := zh47
              suffices e : Ev (d + 1, 0, 0, 55, 207, [.val (.ref 1088), .val (.int p1), .val (.int p2), .val (.int p3), .val (.int p4), .val (.int v19), .val (.int v20), .val (.int x23)], [], (126, 120, L, [Y, T, HA, HB, RA, RB, ST, NS, I0, I1, I2, BO, FI, RG, GU, PU, MA, MN, (u2 MS_22 2 j34 v33), OT, SC], [r0, r1, r2, r3, w, r5, r6, r7, r8], Lg)) o from ev_opt (fun j34 => (d + 1, 0, 0, 55, 207, [.val (.ref 1088), .val (.int p1), .val (.int p2), .val (.int p3), .val (.int p4), .val (.int v19), .val (.int v20), .val (.int x23)], [], (126, 120, L, [Y, T, HA, HB, RA, RB, ST, NS, I0, I1, I2, BO, FI, RG, GU, PU, MA, MN, (u2 MS_22 2 j34 v33), OT, SC], [r0, r1, r2, r3, w, r5, r6, r7, r8], Lg))) 1 zh47 e (fun n => Eq.refl _)
              exact ev_b 4 (zi28 _ (Option.some.inj zh30).symm (.int x23)) (fun n => Eq.refl _)
            by_cases zc48 : x23 ≠ 0
            · have zh44 := itp zh44 zc48
              suffices e : Ev (d + 1, 0, 0, 55, 194, [.val (.ref 1088), .val (.int p1), .val (.int p2), .val (.int p3), .val (.int p4), .val (.int v19), .val (.int v20), .val (.int x23)], [.int v19, .ref 1218], (126, 120, L, [Y, T, HA, HB, RA, RB, ST, NS, I0, I1, I2, BO, FI, RG, GU, PU, MA, MN, MS_22, OT, SC], [r0, r1, r2, r3, w, r5, r6, r7, r8], Lg)) o from ev_t (c := x23 ≠ 0) _ _ 5  zc48 e (fun n => Eq.refl _)
              obtain ⟨x30, zh49, zh44⟩ := bnd zh44
              have zh49 : rdx (MA 11) 150 v20 = some x30 := zh49
              suffices e : Ev (d + 1, 0, 0, 55, 205, [.val (.ref 1088), .val (.int p1), .val (.int p2), .val (.int p3), .val (.int p4), .val (.int v19), .val (.int v20), .val (.int x23)], [.int x30, .ref 1219, .int v19, .ref 1218], (126, 120, L, [Y, T, HA, HB, RA, RB, ST, NS, I0, I1, I2, BO, FI, RG, GU, PU, MA, MN, MS_22, OT, SC], [r0, r1, r2, r3, w, r5, r6, r7, r8], Lg)) o from ev_opt (fun x30 => (d + 1, 0, 0, 55, 205, [.val (.ref 1088), .val (.int p1), .val (.int p2), .val (.int p3), .val (.int p4), .val (.int v19), .val (.int v20), .val (.int x23)], [.int x30, .ref 1219, .int v19, .ref 1218], (126, 120, L, [Y, T, HA, HB, RA, RB, ST, NS, I0, I1, I2, BO, FI, RG, GU, PU, MA, MN, MS_22, OT, SC], [r0, r1, r2, r3, w, r5, r6, r7, r8], Lg))) 6 zh49 e (fun n => Eq.refl _)
              obtain ⟨x31, zh50, zh44⟩ := bnd zh44
              have zh50 : rdx (MS_22 3) 11 x30 = some x31 := zh50
              suffices e : Ev (d + 1, 0, 0, 55, 206, [.val (.ref 1088), .val (.int p1), .val (.int p2), .val (.int p3), .val (.int p4), .val (.int v19), .val (.int v20), .val (.int x23)], [.int x31, .int v19, .ref 1218], (126, 120, L, [Y, T, HA, HB, RA, RB, ST, NS, I0, I1, I2, BO, FI, RG, GU, PU, MA, MN, MS_22, OT, SC], [r0, r1, r2, r3, w, r5, r6, r7, r8], Lg)) o from ev_opt (fun x31 => (d + 1, 0, 0, 55, 206, [.val (.ref 1088), .val (.int p1), .val (.int p2), .val (.int p3), .val (.int p4), .val (.int v19), .val (.int v20), .val (.int x23)], [.int x31, .int v19, .ref 1218], (126, 120, L, [Y, T, HA, HB, RA, RB, ST, NS, I0, I1, I2, BO, FI, RG, GU, PU, MA, MN, MS_22, OT, SC], [r0, r1, r2, r3, w, r5, r6, r7, r8], Lg))) 1 zh50 e (fun n => Eq.refl _)
              exact ev_b 0 (zj45 x31 (Option.some.inj zh44) ) (fun n => Eq.refl _)
            · have zh44 := itn zh44 zc48
              suffices e : Ev (d + 1, 0, 0, 55, 184, [.val (.ref 1088), .val (.int p1), .val (.int p2), .val (.int p3), .val (.int p4), .val (.int v19), .val (.int v20), .val (.int x23)], [.int v19, .ref 1218], (126, 120, L, [Y, T, HA, HB, RA, RB, ST, NS, I0, I1, I2, BO, FI, RG, GU, PU, MA, MN, MS_22, OT, SC], [r0, r1, r2, r3, w, r5, r6, r7, r8], Lg)) o from ev_f (c := x23 ≠ 0) _ _ 5  zc48 e (fun n => Eq.refl _)
              obtain ⟨x32, zh51, zh44⟩ := bnd zh44
              have zh51 : rdx (MA 11) 150 v20 = some x32 := zh51
              suffices e : Ev (d + 1, 0, 0, 55, 191, [.val (.ref 1088), .val (.int p1), .val (.int p2), .val (.int p3), .val (.int p4), .val (.int v19), .val (.int v20), .val (.int x23)], [.int x32, .int v19, .ref 1218], (126, 120, L, [Y, T, HA, HB, RA, RB, ST, NS, I0, I1, I2, BO, FI, RG, GU, PU, MA, MN, MS_22, OT, SC], [r0, r1, r2, r3, w, r5, r6, r7, r8], Lg)) o from ev_opt (fun x32 => (d + 1, 0, 0, 55, 191, [.val (.ref 1088), .val (.int p1), .val (.int p2), .val (.int p3), .val (.int p4), .val (.int v19), .val (.int v20), .val (.int x23)], [.int x32, .int v19, .ref 1218], (126, 120, L, [Y, T, HA, HB, RA, RB, ST, NS, I0, I1, I2, BO, FI, RG, GU, PU, MA, MN, MS_22, OT, SC], [r0, r1, r2, r3, w, r5, r6, r7, r8], Lg))) 4 zh51 e (fun n => Eq.refl _)
              exact ev_b 1 (zj45 x32 (Option.some.inj zh44) ) (fun n => Eq.refl _)
      · skip
        intro s35 s36 s37
        obtain ⟨x39, zh52, h⟩ := bnd h
        have zh52 : rdx (MS_38 2) 150 0 = some x39 := zh52
        suffices e : Ev (d + 1, 0, 0, 55, 288, [.val (.ref 1088), .val (.int p1), .val (.int p2), .val (.int p3), .val (.int p4), .val s35, .val s36, .val s37], [.int x39], (126, 120, L, [Y, T, HA, HB, RA, RB, ST, NS, I0, I1, I2, BO, FI, RG, GU, PU, MA, MN, MS_38, OT, SC], [r0, r1, r2, r3, w, r5, r6, r7, r8], Lg)) o from ev_opt (fun x39 => (d + 1, 0, 0, 55, 288, [.val (.ref 1088), .val (.int p1), .val (.int p2), .val (.int p3), .val (.int p4), .val s35, .val s36, .val s37], [.int x39], (126, 120, L, [Y, T, HA, HB, RA, RB, ST, NS, I0, I1, I2, BO, FI, RG, GU, PU, MA, MN, MS_38, OT, SC], [r0, r1, r2, r3, w, r5, r6, r7, r8], Lg))) 4 zh52 e (fun n => Eq.refl _)
        by_cases zc53 : x39 ≠ 1
        · have h := itp h zc53
          suffices e : Ev (d + 1, 0, 0, 55, 296, [.val (.ref 1088), .val (.int p1), .val (.int p2), .val (.int p3), .val (.int p4), .val s35, .val s36, .val s37], [], (126, 120, L, [Y, T, HA, HB, RA, RB, ST, NS, I0, I1, I2, BO, FI, RG, GU, PU, MA, MN, MS_38, OT, SC], [r0, r1, r2, r3, w, r5, r6, r7, r8], Lg)) o from ev_t (c := x39 ≠ 1) _ _ 2  zc53 e (fun n => Eq.refl _)
          have ze54 := Option.some.inj h
          subst ze54
          exact ev_rete 2 ho (fun n => Eq.refl _)
        · have h := itn h zc53
          suffices e : Ev (d + 1, 0, 0, 55, 292, [.val (.ref 1088), .val (.int p1), .val (.int p2), .val (.int p3), .val (.int p4), .val s35, .val s36, .val s37], [], (126, 120, L, [Y, T, HA, HB, RA, RB, ST, NS, I0, I1, I2, BO, FI, RG, GU, PU, MA, MN, MS_38, OT, SC], [r0, r1, r2, r3, w, r5, r6, r7, r8], Lg)) o from ev_f (c := x39 ≠ 1) _ _ 2  zc53 e (fun n => Eq.refl _)
          have ze55 := Option.some.inj h
          subst ze55
          exact ev_rete 3 ho (fun n => Eq.refl _)
  · have h := itn h zc1
    suffices e : Ev (d + 1, 0, 0, 55, 7, [.val (.ref 1088), .val (.int p1), .val (.int p2), .val (.int p3), .val (.int p4), .val a_unk, .val a_unk, .val a_unk], [], (126, 120, L, [Y, T, HA, HB, RA, RB, ST, NS, I0, I1, I2, BO, FI, RG, GU, PU, MA, MN, MS, OT, SC], [r0, r1, r2, r3, w, r5, r6, r7, r8], Lg)) o from ev_f (c := (MA 0 40) ≠ 0) _ _ 3  zc1 e (fun n => Eq.refl _)
    have ze56 := Option.some.inj h
    subst ze56
    exact ev_rete 2 ho (fun n => Eq.refl _)
