/-! printed by program (gen/emitm.py): the reference's methods run as their functions say -/
set_option maxRecDepth 1000000 in
set_option maxHeartbeats 4000000 in
theorem R_f_Fitter_search_0 (d : Nat) (Y T H H2 RA RB ST NS I0 I1 I2 BO FI RG GU PU MA MN MS OT SC : Nat → Nat → Int32) (r0 r1 r2 r3 w r6 r7 r8 : Nat) (L : Nat) (Lg : Int64) (p1 : Int32) (p2 : Int32) {r : (Nat → Nat → Int32) × (Nat → Nat → Int32)} (h : f_Fitter_search H BO FI p1 p2 = some r) : Ev (d + 17, 0, 0, 178, 0, [.val (.ref 832), .val (.int p1), .val (.int p2), .val a_unk, .val a_unk, .val a_unk, .val a_unk, .val a_unk, .val a_unk], [], (126, 120, L, [Y, T, H, H2, RA, RB, ST, NS, I0, I1, I2, BO, FI, RG, GU, PU, MA, MN, MS, OT, SC], [r0, r1, r2, r3, w, 192, r6, r7, r8], Lg)) ((0, none, (126, 120, L, [Y, T, H, H2, RA, RB, ST, NS, I0, I1, I2, r.1, r.2, RG, GU, PU, MA, MN, MS, OT, SC], [r0, r1, r2, r3, w, 192, r6, r7, r8], Lg)) : AOut) := by
  suffices key : ∀ o : AOut, ((0, none, (126, 120, L, [Y, T, H, H2, RA, RB, ST, NS, I0, I1, I2, r.1, r.2, RG, GU, PU, MA, MN, MS, OT, SC], [r0, r1, r2, r3, w, 192, r6, r7, r8], Lg)) : AOut) = o → Ev (d + 17, 0, 0, 178, 0, [.val (.ref 832), .val (.int p1), .val (.int p2), .val a_unk, .val a_unk, .val a_unk, .val a_unk, .val a_unk, .val a_unk], [], (126, 120, L, [Y, T, H, H2, RA, RB, ST, NS, I0, I1, I2, BO, FI, RG, GU, PU, MA, MN, MS, OT, SC], [r0, r1, r2, r3, w, 192, r6, r7, r8], Lg)) o from key _ rfl
  intro o ho
  have ze1 := R_fill (d + 16) 834 (-1) [Y, T, H, H2, RA, RB, ST, NS, I0, I1, I2, BO, (u2 (u2 (u2 FI 0 8 (-1)) 0 9 0) 0 10 (-1)), RG, GU, PU, MA, MN, MS, OT, SC] [r0, r1, r2, r3, w, 192, r6, r7, r8] L Lg 126 120 rfl rfl (Nat.le_of_ble_eq_true rfl) (Nat.le_of_ble_eq_true rfl)
  suffices e : Ev (d + 17, 0, 0, 178, 23, [.val (.ref 832), .val (.int p1), .val (.int p2), .val a_unk, .val a_unk, .val a_unk, .val a_unk, .val a_unk, .val a_unk], [], (126, 120, L, [Y, T, H, H2, RA, RB, ST, NS, I0, I1, I2, BO, (u1 (u2 (u2 (u2 FI 0 8 (-1)) 0 9 0) 0 10 (-1)) 2 (filM ((u2 (u2 (u2 FI 0 8 (-1)) 0 9 0) 0 10 (-1)) 2) 10 (-1))), RG, GU, PU, MA, MN, MS, OT, SC], [r0, r1, r2, r3, w, 192, r6, r7, r8], Lg)) o from ev_call (fun v μ => (d + 17, 0, 0, 178, 23, [.val (.ref 832), .val (.int p1), .val (.int p2), .val a_unk, .val a_unk, .val a_unk, .val a_unk, .val a_unk, .val a_unk], v.toList ++ [], μ)) 13 ze1 e (fun n => Eq.refl _)
  suffices e : Ev (d + 17, 0, 0, 178, 30, [.val (.ref 832), .val (.int p1), .val (.int p2), .val a_unk, .val a_unk, .val a_unk, .val a_unk, .val a_unk, .val a_unk], [.ref 192], (126, 120, L, [Y, T, H, H2, RA, RB, ST, NS, I0, I1, I2, BO, (u1 (u2 (u2 (u2 FI 0 8 (-1)) 0 9 0) 0 10 (-1)) 2 (filM ((u2 (u2 (u2 FI 0 8 (-1)) 0 9 0) 0 10 (-1)) 2) 10 (-1))), RG, GU, PU, MA, MN, MS, OT, SC], [r0, r1, r2, r3, w, 192, r6, r7, r8], Lg)) o from ev_b 3 e (fun n => Eq.refl _)
  obtain ⟨x1, zh2, h⟩ := bnd h
  have zh2 : rdx (BO 1) 10 p1 = some x1 := zh2
  suffices e : Ev (d + 17, 0, 0, 178, 40, [.val (.ref 832), .val (.int p1), .val (.int p2), .val (.ref 192), .val a_unk, .val a_unk, .val a_unk, .val a_unk, .val a_unk], [.int x1], (126, 120, L, [Y, T, H, H2, RA, RB, ST, NS, I0, I1, I2, BO, (u1 (u2 (u2 (u2 FI 0 8 (-1)) 0 9 0) 0 10 (-1)) 2 (filM ((u2 (u2 (u2 FI 0 8 (-1)) 0 9 0) 0 10 (-1)) 2) 10 (-1))), RG, GU, PU, MA, MN, MS, OT, SC], [r0, r1, r2, r3, w, 192, r6, r7, r8], Lg)) o from ev_opt (fun x1 => (d + 17, 0, 0, 178, 40, [.val (.ref 832), .val (.int p1), .val (.int p2), .val (.ref 192), .val a_unk, .val a_unk, .val a_unk, .val a_unk, .val a_unk], [.int x1], (126, 120, L, [Y, T, H, H2, RA, RB, ST, NS, I0, I1, I2, BO, (u1 (u2 (u2 (u2 FI 0 8 (-1)) 0 9 0) 0 10 (-1)) 2 (filM ((u2 (u2 (u2 FI 0 8 (-1)) 0 9 0) 0 10 (-1)) 2) 10 (-1))), RG, GU, PU, MA, MN, MS, OT, SC], [r0, r1, r2, r3, w, 192, r6, r7, r8], Lg))) 6 zh2 e (fun n => Eq.refl _)
  by_cases zc3 : x1 = (-1)
  · have h := itp h zc3
    suffices e : Ev (d + 17, 0, 0, 178, 65, [.val (.ref 832), .val (.int p1), .val (.int p2), .val (.ref 192), .val (.int x1), .val a_unk, .val a_unk, .val a_unk, .val a_unk], [], (126, 120, L, [Y, T, H, H2, RA, RB, ST, NS, I0, I1, I2, BO, (u1 (u2 (u2 (u2 FI 0 8 (-1)) 0 9 0) 0 10 (-1)) 2 (filM ((u2 (u2 (u2 FI 0 8 (-1)) 0 9 0) 0 10 (-1)) 2) 10 (-1))), RG, GU, PU, MA, MN, MS, OT, SC], [r0, r1, r2, r3, w, 192, r6, r7, r8], Lg)) o from ev_t (c := x1 = (-1)) _ _ 4  zc3 e (fun n => Eq.refl _)
    have ze4 := Option.some.inj h
    subst ze4
    exact ev_rete 1 ho (fun n => Eq.refl _)
  · have h := itn h zc3
    suffices e : Ev (d + 17, 0, 0, 178, 48, [.val (.ref 832), .val (.int p1), .val (.int p2), .val (.ref 192), .val (.int x1), .val a_unk, .val a_unk, .val a_unk, .val a_unk], [], (126, 120, L, [Y, T, H, H2, RA, RB, ST, NS, I0, I1, I2, BO, (u1 (u2 (u2 (u2 FI 0 8 (-1)) 0 9 0) 0 10 (-1)) 2 (filM ((u2 (u2 (u2 FI 0 8 (-1)) 0 9 0) 0 10 (-1)) 2) 10 (-1))), RG, GU, PU, MA, MN, MS, OT, SC], [r0, r1, r2, r3, w, 192, r6, r7, r8], Lg)) o from ev_f (c := x1 = (-1)) _ _ 4  zc3 e (fun n => Eq.refl _)
    obtain ⟨x2, zh5, h⟩ := bnd h
    have zh5 : f_House_isFixed H p1 = some x2 := zh5
    have ze6 := R_f_House_isFixed_0 (d + 16) Y T H H2 RA RB ST NS I0 I1 I2 BO (u1 (u2 (u2 (u2 FI 0 8 (-1)) 0 9 0) 0 10 (-1)) 2 (filM ((u2 (u2 (u2 FI 0 8 (-1)) 0 9 0) 0 10 (-1)) 2) 10 (-1))) RG GU PU MA MN MS OT SC r0 r1 r2 r3 w 192 r6 r7 r8 L Lg p1 zh5
    suffices e : Ev (d + 17, 0, 0, 178, 53, [.val (.ref 832), .val (.int p1), .val (.int p2), .val (.ref 192), .val (.int x1), .val a_unk, .val a_unk, .val a_unk, .val a_unk], [.int x2], (126, 120, L, [Y, T, H, H2, RA, RB, ST, NS, I0, I1, I2, BO, (u1 (u2 (u2 (u2 FI 0 8 (-1)) 0 9 0) 0 10 (-1)) 2 (filM ((u2 (u2 (u2 FI 0 8 (-1)) 0 9 0) 0 10 (-1)) 2) 10 (-1))), RG, GU, PU, MA, MN, MS, OT, SC], [r0, r1, r2, r3, w, 192, r6, r7, r8], Lg)) o from ev_call (fun v μ => (d + 17, 0, 0, 178, 53, [.val (.ref 832), .val (.int p1), .val (.int p2), .val (.ref 192), .val (.int x1), .val a_unk, .val a_unk, .val a_unk, .val a_unk], v.toList ++ [], μ)) 3 ze6 e (fun n => Eq.refl _)
    obtain ⟨zt7, zh8, h⟩ := bnd h
    have zj9 : zt7 = .inl () → Ev (d + 17, 0, 0, 178, 66, [.val (.ref 832), .val (.int p1), .val (.int p2), .val (.ref 192), .val (.int x1), .val a_unk, .val a_unk, .val a_unk, .val a_unk], [], (126, 120, L, [Y, T, H, H2, RA, RB, ST, NS, I0, I1, I2, BO, (u1 (u2 (u2 (u2 FI 0 8 (-1)) 0 9 0) 0 10 (-1)) 2 (filM ((u2 (u2 (u2 FI 0 8 (-1)) 0 9 0) 0 10 (-1)) 2) 10 (-1))), RG, GU, PU, MA, MN, MS, OT, SC], [r0, r1, r2, r3, w, 192, r6, r7, r8], Lg)) o := by
      intro ze10
      have h := sum_l h ze10
      by_cases zc11 : ((0 : Int32) < 0 ∨ (0 : Int32) < 0 ∨ (10 : Int32) < 0 ∨ 10 < (0 : Int32).toNatClampNeg + (10 : Int32).toNatClampNeg ∨ 10 < (0 : Int32).toNatClampNeg + (10 : Int32).toNatClampNeg)
      · exact nos (itp h zc11)
      have h := itn h zc11
      suffices e : Ev (d + 17, 0, 0, 178, 84, [.val (.ref 832), .val (.int p1), .val (.int p2), .val (.ref 192), .val (.int x1), .val a_unk, .val a_unk, .val a_unk, .val a_unk], [], (126, 120, L, [Y, T, H, H2, RA, RB, ST, NS, I0, I1, I2, BO, (u1 (u1 (u2 (u2 (u2 FI 0 8 (-1)) 0 9 0) 0 10 (-1)) 2 (filM ((u2 (u2 (u2 FI 0 8 (-1)) 0 9 0) 0 10 (-1)) 2) 10 (-1))) 1 (a_cpy (BO 1) ((u1 (u2 (u2 (u2 FI 0 8 (-1)) 0 9 0) 0 10 (-1)) 2 (filM ((u2 (u2 (u2 FI 0 8 (-1)) 0 9 0) 0 10 (-1)) 2) 10 (-1))) 1) (0 : Int32).toNatClampNeg (0 : Int32).toNatClampNeg (10 : Int32).toNatClampNeg)), RG, GU, PU, MA, MN, MS, OT, SC], [r0, r1, r2, r3, w, 192, r6, r7, r8], Lg)) o from ev_d (c := ((0 : Int32) < 0 ∨ (0 : Int32) < 0 ∨ (10 : Int32) < 0 ∨ 10 < (0 : Int32).toNatClampNeg + (10 : Int32).toNatClampNeg ∨ 10 < (0 : Int32).toNatClampNeg + (10 : Int32).toNatClampNeg)) _ 9 zc11 e (fun n => Eq.refl _)
      obtain ⟨FI_4, zh12, h⟩ := bnd h
      have zh12 : f_Fitter_collectRubs H BO (u1 (u1 (u2 (u2 (u2 FI 0 8 (-1)) 0 9 0) 0 10 (-1)) 2 (filM ((u2 (u2 (u2 FI 0 8 (-1)) 0 9 0) 0 10 (-1)) 2) 10 (-1))) 1 (a_cpy (BO 1) ((u1 (u2 (u2 (u2 FI 0 8 (-1)) 0 9 0) 0 10 (-1)) 2 (filM ((u2 (u2 (u2 FI 0 8 (-1)) 0 9 0) 0 10 (-1)) 2) 10 (-1))) 1) (0 : Int32).toNatClampNeg (0 : Int32).toNatClampNeg (10 : Int32).toNatClampNeg)) = some FI_4 := zh12
      have ze13 := R_f_Fitter_collectRubs_0 (d + 13) Y T H H2 RA RB ST NS I0 I1 I2 BO (u1 (u1 (u2 (u2 (u2 FI 0 8 (-1)) 0 9 0) 0 10 (-1)) 2 (filM ((u2 (u2 (u2 FI 0 8 (-1)) 0 9 0) 0 10 (-1)) 2) 10 (-1))) 1 (a_cpy (BO 1) ((u1 (u2 (u2 (u2 FI 0 8 (-1)) 0 9 0) 0 10 (-1)) 2 (filM ((u2 (u2 (u2 FI 0 8 (-1)) 0 9 0) 0 10 (-1)) 2) 10 (-1))) 1) (0 : Int32).toNatClampNeg (0 : Int32).toNatClampNeg (10 : Int32).toNatClampNeg)) RG GU PU MA MN MS OT SC r0 r1 r2 r3 w r6 r7 r8 L Lg zh12
      suffices e : Ev (d + 17, 0, 0, 178, 88, [.val (.ref 832), .val (.int p1), .val (.int p2), .val (.ref 192), .val (.int x1), .val a_unk, .val a_unk, .val a_unk, .val a_unk], [], (126, 120, L, [Y, T, H, H2, RA, RB, ST, NS, I0, I1, I2, BO, FI_4, RG, GU, PU, MA, MN, MS, OT, SC], [r0, r1, r2, r3, w, 192, r6, r7, r8], Lg)) o from ev_call (fun v μ => (d + 17, 0, 0, 178, 88, [.val (.ref 832), .val (.int p1), .val (.int p2), .val (.ref 192), .val (.int x1), .val a_unk, .val a_unk, .val a_unk, .val a_unk], v.toList ++ [], μ)) 2 ze13 e (fun n => Eq.refl _)
      obtain ⟨x5, zh14, h⟩ := bnd h
      have zh14 : f_Board_placed H BO = some x5 := zh14
      have ze15 := R_f_Board_placed_0 (d + 16) Y T H H2 RA RB ST NS I0 I1 I2 BO FI_4 RG GU PU MA MN MS OT SC r0 r1 r2 r3 w r6 r7 r8 L Lg zh14
      suffices e : Ev (d + 17, 0, 0, 178, 95, [.val (.ref 832), .val (.int p1), .val (.int p2), .val (.ref 192), .val (.int x1), .val a_unk, .val a_unk, .val a_unk, .val a_unk], [.int x5], (126, 120, L, [Y, T, H, H2, RA, RB, ST, NS, I0, I1, I2, BO, FI_4, RG, GU, PU, MA, MN, MS, OT, SC], [r0, r1, r2, r3, w, 192, r6, r7, r8], Lg)) o from ev_call (fun v μ => (d + 17, 0, 0, 178, 95, [.val (.ref 832), .val (.int p1), .val (.int p2), .val (.ref 192), .val (.int x1), .val a_unk, .val a_unk, .val a_unk, .val a_unk], v.toList ++ [], μ)) 3 ze15 e (fun n => Eq.refl _)
      obtain ⟨zb16, zh17, h⟩ := bnd h
      suffices e : Ev (d + 17, 0, 0, 178, 117, [.val (.ref 832), .val (.int p1), .val (.int p2), .val (.ref 192), .val (.int x1), .val (.int x5), .val (.int ((x5 &&& ((H 0 5) ^^^ (-1))) &&& ((a_shl 1 p1) ^^^ (-1)))), .val (.int 0), .val a_unk], [], (126, 120, L, [Y, T, H, H2, RA, RB, ST, NS, I0, I1, I2, BO, FI_4, RG, GU, PU, MA, MN, MS, OT, SC], [r0, r1, r2, r3, w, 192, r6, r7, r8], Lg)) o from ev_b 16 e (fun n => Eq.refl _)
      refine ev_loop (δ := Value) (fun a j => (d + 17, 0, 0, 178, 117, [.val (.ref 832), .val (.int p1), .val (.int p2), .val (.ref 192), .val (.int x1), .val (.int x5), .val (.int ((x5 &&& ((H 0 5) ^^^ (-1))) &&& ((a_shl 1 p1) ^^^ (-1)))), .val (.int a.1), .val j], [], (126, 120, L, [Y, T, H, H2, RA, RB, ST, NS, I0, I1, I2, a.2.1, a.2.2, RG, GU, PU, MA, MN, MS, OT, SC], [r0, r1, r2, r3, w, 192, r6, r7, r8], Lg))) (fun b => ∀ s15 : Value, ∀ s16 : Value, Ev (d + 17, 0, 0, 178, 193, [.val (.ref 832), .val (.int p1), .val (.int p2), .val (.ref 192), .val (.int x1), .val (.int x5), .val (.int ((x5 &&& ((H 0 5) ^^^ (-1))) &&& ((a_shl 1 p1) ^^^ (-1)))), .val s15, .val s16], [], (126, 120, L, [Y, T, H, H2, RA, RB, ST, NS, I0, I1, I2, b.1, b.2, RG, GU, PU, MA, MN, MS, OT, SC], [r0, r1, r2, r3, w, 192, r6, r7, r8], Lg)) o) ?_ a_F (0, BO, FI_4) zb16 zh17 ?_ a_unk
      · rintro ⟨v6, BO_8, FI_9⟩ zr21 zh20 zi18 zx19 s7
        have zh20 : f_Fitter_search_l117 H x5 p1 p2 v6 BO_8 FI_9 = some zr21 := zh20
        by_cases zc22 : (a_shl 1 (H 0 3)) ≤ v6
        · have zh20 := itp zh20 zc22
          suffices e : Ev (d + 17, 0, 0, 178, 193, [.val (.ref 832), .val (.int p1), .val (.int p2), .val (.ref 192), .val (.int x1), .val (.int x5), .val (.int ((x5 &&& ((H 0 5) ^^^ (-1))) &&& ((a_shl 1 p1) ^^^ (-1)))), .val (.int v6), .val s7], [], (126, 120, L, [Y, T, H, H2, RA, RB, ST, NS, I0, I1, I2, BO_8, FI_9, RG, GU, PU, MA, MN, MS, OT, SC], [r0, r1, r2, r3, w, 192, r6, r7, r8], Lg)) o from ev_t (c := (a_shl 1 (H 0 3)) ≤ v6) _ _ 6  zc22 e (fun n => Eq.refl _)
          exact ev_b 0 (zx19 _ (Option.some.inj zh20).symm (.int v6) s7) (fun n => Eq.refl _)
        · have zh20 := itn zh20 zc22
          suffices e : Ev (d + 17, 0, 0, 178, 128, [.val (.ref 832), .val (.int p1), .val (.int p2), .val (.ref 192), .val (.int x1), .val (.int x5), .val (.int ((x5 &&& ((H 0 5) ^^^ (-1))) &&& ((a_shl 1 p1) ^^^ (-1)))), .val (.int v6), .val s7], [], (126, 120, L, [Y, T, H, H2, RA, RB, ST, NS, I0, I1, I2, BO_8, FI_9, RG, GU, PU, MA, MN, MS, OT, SC], [r0, r1, r2, r3, w, 192, r6, r7, r8], Lg)) o from ev_f (c := (a_shl 1 (H 0 3)) ≤ v6) _ _ 6  zc22 e (fun n => Eq.refl _)
          obtain ⟨zt23, zh24, zh20⟩ := bnd zh20
          have zj25 : ∀ (v11 : Int32), v11 = zt23 → Ev (d + 17, 0, 0, 178, 152, [.val (.ref 832), .val (.int p1), .val (.int p2), .val (.ref 192), .val (.int x1), .val (.int x5), .val (.int ((x5 &&& ((H 0 5) ^^^ (-1))) &&& ((a_shl 1 p1) ^^^ (-1)))), .val (.int v6), .val s7], [.int v11], (126, 120, L, [Y, T, H, H2, RA, RB, ST, NS, I0, I1, I2, BO_8, FI_9, RG, GU, PU, MA, MN, MS, OT, SC], [r0, r1, r2, r3, w, 192, r6, r7, r8], Lg)) o := by
            intro v11 ze26
            subst ze26
            by_cases zc27 : v11 = 0
            · have zh20 := itp zh20 zc27
              suffices e : Ev (d + 17, 0, 0, 178, 187, [.val (.ref 832), .val (.int p1), .val (.int p2), .val (.ref 192), .val (.int x1), .val (.int x5), .val (.int ((x5 &&& ((H 0 5) ^^^ (-1))) &&& ((a_shl 1 p1) ^^^ (-1)))), .val (.int v6), .val (.int v11)], [], (126, 120, L, [Y, T, H, H2, RA, RB, ST, NS, I0, I1, I2, BO_8, FI_9, RG, GU, PU, MA, MN, MS, OT, SC], [r0, r1, r2, r3, w, 192, r6, r7, r8], Lg)) o from ev_t (c := v11 = 0) _ _ 3  zc27 e (fun n => Eq.refl _)
              exact ev_b 2 (zi18 _ (Option.some.inj zh20).symm (.int v11)) (fun n => Eq.refl _)
            · have zh20 := itn zh20 zc27
              suffices e : Ev (d + 17, 0, 0, 178, 159, [.val (.ref 832), .val (.int p1), .val (.int p2), .val (.ref 192), .val (.int x1), .val (.int x5), .val (.int ((x5 &&& ((H 0 5) ^^^ (-1))) &&& ((a_shl 1 p1) ^^^ (-1)))), .val (.int v6), .val (.int v11)], [], (126, 120, L, [Y, T, H, H2, RA, RB, ST, NS, I0, I1, I2, BO_8, FI_9, RG, GU, PU, MA, MN, MS, OT, SC], [r0, r1, r2, r3, w, 192, r6, r7, r8], Lg)) o from ev_f (c := v11 = 0) _ _ 3  zc27 e (fun n => Eq.refl _)
              obtain ⟨x12, zh28, zh20⟩ := bnd zh20
              have zh28 : f_Fitter_restIsLawful H FI_9 ((x5 &&& (v6 ^^^ (-1))) &&& ((a_shl 1 p1) ^^^ (-1))) = some x12 := zh28
              have ze29 := R_f_Fitter_restIsLawful_0 (d + 16) Y T H H2 RA RB ST NS I0 I1 I2 BO_8 FI_9 RG GU PU MA MN MS OT SC r0 r1 r2 r3 w r6 r7 r8 L Lg ((x5 &&& (v6 ^^^ (-1))) &&& ((a_shl 1 p1) ^^^ (-1))) zh28
              suffices e : Ev (d + 17, 0, 0, 178, 176, [.val (.ref 832), .val (.int p1), .val (.int p2), .val (.ref 192), .val (.int x1), .val (.int x5), .val (.int ((x5 &&& ((H 0 5) ^^^ (-1))) &&& ((a_shl 1 p1) ^^^ (-1)))), .val (.int v6), .val (.int v11)], [.int x12], (126, 120, L, [Y, T, H, H2, RA, RB, ST, NS, I0, I1, I2, BO_8, FI_9, RG, GU, PU, MA, MN, MS, OT, SC], [r0, r1, r2, r3, w, 192, r6, r7, r8], Lg)) o from ev_call (fun v μ => (d + 17, 0, 0, 178, 176, [.val (.ref 832), .val (.int p1), .val (.int p2), .val (.ref 192), .val (.int x1), .val (.int x5), .val (.int ((x5 &&& ((H 0 5) ^^^ (-1))) &&& ((a_shl 1 p1) ^^^ (-1)))), .val (.int v6), .val (.int v11)], v.toList ++ [], μ)) 13 ze29 e (fun n => Eq.refl _)
              by_cases zc30 : x12 = 0
              · have zh20 := itp zh20 zc30
                suffices e : Ev (d + 17, 0, 0, 178, 187, [.val (.ref 832), .val (.int p1), .val (.int p2), .val (.ref 192), .val (.int x1), .val (.int x5), .val (.int ((x5 &&& ((H 0 5) ^^^ (-1))) &&& ((a_shl 1 p1) ^^^ (-1)))), .val (.int v6), .val (.int v11)], [], (126, 120, L, [Y, T, H, H2, RA, RB, ST, NS, I0, I1, I2, BO_8, FI_9, RG, GU, PU, MA, MN, MS, OT, SC], [r0, r1, r2, r3, w, 192, r6, r7, r8], Lg)) o from ev_t (c := x12 = 0) _ _ 1  zc30 e (fun n => Eq.refl _)
                exact ev_b 2 (zi18 _ (Option.some.inj zh20).symm (.int v11)) (fun n => Eq.refl _)
              · have zh20 := itn zh20 zc30
                suffices e : Ev (d + 17, 0, 0, 178, 179, [.val (.ref 832), .val (.int p1), .val (.int p2), .val (.ref 192), .val (.int x1), .val (.int x5), .val (.int ((x5 &&& ((H 0 5) ^^^ (-1))) &&& ((a_shl 1 p1) ^^^ (-1)))), .val (.int v6), .val (.int v11)], [], (126, 120, L, [Y, T, H, H2, RA, RB, ST, NS, I0, I1, I2, BO_8, FI_9, RG, GU, PU, MA, MN, MS, OT, SC], [r0, r1, r2, r3, w, 192, r6, r7, r8], Lg)) o from ev_f (c := x12 = 0) _ _ 1  zc30 e (fun n => Eq.refl _)
                obtain ⟨⟨BO_13, FI_14⟩, zh31, zh20⟩ := bnd zh20
                have zh31 : f_Fitter_tryRooms H BO_8 FI_9 p1 p2 v6 = some (BO_13, FI_14) := zh31
                have ze32 := R_f_Fitter_tryRooms_0 (d + 0) Y T H H2 RA RB ST NS I0 I1 I2 BO_8 FI_9 RG GU PU MA MN MS OT SC r0 r1 r2 r3 w r6 r7 r8 L Lg p1 p2 v6 zh31
                suffices e : Ev (d + 17, 0, 0, 178, 187, [.val (.ref 832), .val (.int p1), .val (.int p2), .val (.ref 192), .val (.int x1), .val (.int x5), .val (.int ((x5 &&& ((H 0 5) ^^^ (-1))) &&& ((a_shl 1 p1) ^^^ (-1)))), .val (.int v6), .val (.int v11)], [], (126, 120, L, [Y, T, H, H2, RA, RB, ST, NS, I0, I1, I2, BO_13, FI_14, RG, GU, PU, MA, MN, MS, OT, SC], [r0, r1, r2, r3, w, 192, r6, r7, r8], Lg)) o from ev_call (fun v μ => (d + 17, 0, 0, 178, 187, [.val (.ref 832), .val (.int p1), .val (.int p2), .val (.ref 192), .val (.int x1), .val (.int x5), .val (.int ((x5 &&& ((H 0 5) ^^^ (-1))) &&& ((a_shl 1 p1) ^^^ (-1)))), .val (.int v6), .val (.int v11)], v.toList ++ [], μ)) 5 ze32 e (fun n => Eq.refl _)
                exact ev_b 2 (zi18 _ (Option.some.inj zh20).symm (.int v11)) (fun n => Eq.refl _)
          obtain ⟨zt33, zh34, zh24⟩ := bnd zh24
          have zj35 : zt33 = .inl () → Ev (d + 17, 0, 0, 178, 151, [.val (.ref 832), .val (.int p1), .val (.int p2), .val (.ref 192), .val (.int x1), .val (.int x5), .val (.int ((x5 &&& ((H 0 5) ^^^ (-1))) &&& ((a_shl 1 p1) ^^^ (-1)))), .val (.int v6), .val s7], [], (126, 120, L, [Y, T, H, H2, RA, RB, ST, NS, I0, I1, I2, BO_8, FI_9, RG, GU, PU, MA, MN, MS, OT, SC], [r0, r1, r2, r3, w, 192, r6, r7, r8], Lg)) o := by
            intro ze36
            have zh24 := sum_l zh24 ze36
            exact ev_b 1 (zj25 0 (Option.some.inj zh24) ) (fun n => Eq.refl _)
          by_cases zc37 : (v6 &&& (((x5 &&& ((H 0 5) ^^^ (-1))) &&& ((a_shl 1 p1) ^^^ (-1))) ^^^ (-1))) ≠ 0
          · have zh34 := itp zh34 zc37
            suffices e : Ev (d + 17, 0, 0, 178, 151, [.val (.ref 832), .val (.int p1), .val (.int p2), .val (.ref 192), .val (.int x1), .val (.int x5), .val (.int ((x5 &&& ((H 0 5) ^^^ (-1))) &&& ((a_shl 1 p1) ^^^ (-1)))), .val (.int v6), .val s7], [], (126, 120, L, [Y, T, H, H2, RA, RB, ST, NS, I0, I1, I2, BO_8, FI_9, RG, GU, PU, MA, MN, MS, OT, SC], [r0, r1, r2, r3, w, 192, r6, r7, r8], Lg)) o from ev_t (c := (v6 &&& (((x5 &&& ((H 0 5) ^^^ (-1))) &&& ((a_shl 1 p1) ^^^ (-1))) ^^^ (-1))) ≠ 0) _ _ 6  zc37 e (fun n => Eq.refl _)
            exact ev_b 0 (zj35  (Option.some.inj zh34).symm ) (fun n => Eq.refl _)
          · have zh34 := itn zh34 zc37
            suffices e : Ev (d + 17, 0, 0, 178, 138, [.val (.ref 832), .val (.int p1), .val (.int p2), .val (.ref 192), .val (.int x1), .val (.int x5), .val (.int ((x5 &&& ((H 0 5) ^^^ (-1))) &&& ((a_shl 1 p1) ^^^ (-1)))), .val (.int v6), .val s7], [], (126, 120, L, [Y, T, H, H2, RA, RB, ST, NS, I0, I1, I2, BO_8, FI_9, RG, GU, PU, MA, MN, MS, OT, SC], [r0, r1, r2, r3, w, 192, r6, r7, r8], Lg)) o from ev_f (c := (v6 &&& (((x5 &&& ((H 0 5) ^^^ (-1))) &&& ((a_shl 1 p1) ^^^ (-1))) ^^^ (-1))) ≠ 0) _ _ 6  zc37 e (fun n => Eq.refl _)
            obtain ⟨x10, zh38, zh34⟩ := bnd zh34
            have zh38 : f_Integer_bitCount v6 = some x10 := zh38
            have ze39 := R_f_Integer_bitCount_0 (d + 16) Y T H H2 RA RB ST NS I0 I1 I2 BO_8 FI_9 RG GU PU MA MN MS OT SC r0 r1 r2 r3 w 192 r6 r7 r8 L Lg v6 zh38
            suffices e : Ev (d + 17, 0, 0, 178, 143, [.val (.ref 832), .val (.int p1), .val (.int p2), .val (.ref 192), .val (.int x1), .val (.int x5), .val (.int ((x5 &&& ((H 0 5) ^^^ (-1))) &&& ((a_shl 1 p1) ^^^ (-1)))), .val (.int v6), .val s7], [.int x10], (126, 120, L, [Y, T, H, H2, RA, RB, ST, NS, I0, I1, I2, BO_8, FI_9, RG, GU, PU, MA, MN, MS, OT, SC], [r0, r1, r2, r3, w, 192, r6, r7, r8], Lg)) o from ev_call (fun v μ => (d + 17, 0, 0, 178, 143, [.val (.ref 832), .val (.int p1), .val (.int p2), .val (.ref 192), .val (.int x1), .val (.int x5), .val (.int ((x5 &&& ((H 0 5) ^^^ (-1))) &&& ((a_shl 1 p1) ^^^ (-1)))), .val (.int v6), .val s7], v.toList ++ [], μ)) 2 ze39 e (fun n => Eq.refl _)
            by_cases zc40 : 3 < x10
            · have zh34 := itp zh34 zc40
              suffices e : Ev (d + 17, 0, 0, 178, 151, [.val (.ref 832), .val (.int p1), .val (.int p2), .val (.ref 192), .val (.int x1), .val (.int x5), .val (.int ((x5 &&& ((H 0 5) ^^^ (-1))) &&& ((a_shl 1 p1) ^^^ (-1)))), .val (.int v6), .val s7], [], (126, 120, L, [Y, T, H, H2, RA, RB, ST, NS, I0, I1, I2, BO_8, FI_9, RG, GU, PU, MA, MN, MS, OT, SC], [r0, r1, r2, r3, w, 192, r6, r7, r8], Lg)) o from ev_t (c := 3 < x10) _ _ 2  zc40 e (fun n => Eq.refl _)
              exact ev_b 0 (zj35  (Option.some.inj zh34).symm ) (fun n => Eq.refl _)
            · have zh34 := itn zh34 zc40
              suffices e : Ev (d + 17, 0, 0, 178, 147, [.val (.ref 832), .val (.int p1), .val (.int p2), .val (.ref 192), .val (.int x1), .val (.int x5), .val (.int ((x5 &&& ((H 0 5) ^^^ (-1))) &&& ((a_shl 1 p1) ^^^ (-1)))), .val (.int v6), .val s7], [], (126, 120, L, [Y, T, H, H2, RA, RB, ST, NS, I0, I1, I2, BO_8, FI_9, RG, GU, PU, MA, MN, MS, OT, SC], [r0, r1, r2, r3, w, 192, r6, r7, r8], Lg)) o from ev_f (c := 3 < x10) _ _ 2  zc40 e (fun n => Eq.refl _)
              have zh41 := sum_r zh24 (Option.some.inj zh34).symm
              exact ev_b 2 (zj25 1 (Option.some.inj zh41) ) (fun n => Eq.refl _)
      · obtain ⟨BO_17, FI_18⟩ := zb16
        intro s15 s16
        have ze42 := Option.some.inj h
        subst ze42
        exact ev_rete 1 ho (fun n => Eq.refl _)
    by_cases zc43 : x2 = 0
    · have zh8 := itp zh8 zc43
      suffices e : Ev (d + 17, 0, 0, 178, 66, [.val (.ref 832), .val (.int p1), .val (.int p2), .val (.ref 192), .val (.int x1), .val a_unk, .val a_unk, .val a_unk, .val a_unk], [], (126, 120, L, [Y, T, H, H2, RA, RB, ST, NS, I0, I1, I2, BO, (u1 (u2 (u2 (u2 FI 0 8 (-1)) 0 9 0) 0 10 (-1)) 2 (filM ((u2 (u2 (u2 FI 0 8 (-1)) 0 9 0) 0 10 (-1)) 2) 10 (-1))), RG, GU, PU, MA, MN, MS, OT, SC], [r0, r1, r2, r3, w, 192, r6, r7, r8], Lg)) o from ev_t (c := x2 = 0) _ _ 1  zc43 e (fun n => Eq.refl _)
      exact ev_b 0 (zj9  (Option.some.inj zh8).symm ) (fun n => Eq.refl _)
    · have zh8 := itn zh8 zc43
      suffices e : Ev (d + 17, 0, 0, 178, 56, [.val (.ref 832), .val (.int p1), .val (.int p2), .val (.ref 192), .val (.int x1), .val a_unk, .val a_unk, .val a_unk, .val a_unk], [], (126, 120, L, [Y, T, H, H2, RA, RB, ST, NS, I0, I1, I2, BO, (u1 (u2 (u2 (u2 FI 0 8 (-1)) 0 9 0) 0 10 (-1)) 2 (filM ((u2 (u2 (u2 FI 0 8 (-1)) 0 9 0) 0 10 (-1)) 2) 10 (-1))), RG, GU, PU, MA, MN, MS, OT, SC], [r0, r1, r2, r3, w, 192, r6, r7, r8], Lg)) o from ev_f (c := x2 = 0) _ _ 1  zc43 e (fun n => Eq.refl _)
      obtain ⟨x3, zh44, zh8⟩ := bnd zh8
      have zh44 : f_Y_hourOf x1 = some x3 := zh44
      have ze45 := R_f_Y_hourOf_0 (d + 16) Y T H H2 RA RB ST NS I0 I1 I2 BO (u1 (u2 (u2 (u2 FI 0 8 (-1)) 0 9 0) 0 10 (-1)) 2 (filM ((u2 (u2 (u2 FI 0 8 (-1)) 0 9 0) 0 10 (-1)) 2) 10 (-1))) RG GU PU MA MN MS OT SC r0 r1 r2 r3 w 192 r6 r7 r8 L Lg x1 zh44
      suffices e : Ev (d + 17, 0, 0, 178, 61, [.val (.ref 832), .val (.int p1), .val (.int p2), .val (.ref 192), .val (.int x1), .val a_unk, .val a_unk, .val a_unk, .val a_unk], [.int x3], (126, 120, L, [Y, T, H, H2, RA, RB, ST, NS, I0, I1, I2, BO, (u1 (u2 (u2 (u2 FI 0 8 (-1)) 0 9 0) 0 10 (-1)) 2 (filM ((u2 (u2 (u2 FI 0 8 (-1)) 0 9 0) 0 10 (-1)) 2) 10 (-1))), RG, GU, PU, MA, MN, MS, OT, SC], [r0, r1, r2, r3, w, 192, r6, r7, r8], Lg)) o from ev_call (fun v μ => (d + 17, 0, 0, 178, 61, [.val (.ref 832), .val (.int p1), .val (.int p2), .val (.ref 192), .val (.int x1), .val a_unk, .val a_unk, .val a_unk, .val a_unk], v.toList ++ [], μ)) 2 ze45 e (fun n => Eq.refl _)
      by_cases zc46 : x3 = p2
      · have zh8 := itp zh8 zc46
        suffices e : Ev (d + 17, 0, 0, 178, 66, [.val (.ref 832), .val (.int p1), .val (.int p2), .val (.ref 192), .val (.int x1), .val a_unk, .val a_unk, .val a_unk, .val a_unk], [], (126, 120, L, [Y, T, H, H2, RA, RB, ST, NS, I0, I1, I2, BO, (u1 (u2 (u2 (u2 FI 0 8 (-1)) 0 9 0) 0 10 (-1)) 2 (filM ((u2 (u2 (u2 FI 0 8 (-1)) 0 9 0) 0 10 (-1)) 2) 10 (-1))), RG, GU, PU, MA, MN, MS, OT, SC], [r0, r1, r2, r3, w, 192, r6, r7, r8], Lg)) o from ev_t (c := x3 = p2) _ _ 2  zc46 e (fun n => Eq.refl _)
        exact ev_b 0 (zj9  (Option.some.inj zh8).symm ) (fun n => Eq.refl _)
      · have zh8 := itn zh8 zc46
        suffices e : Ev (d + 17, 0, 0, 178, 65, [.val (.ref 832), .val (.int p1), .val (.int p2), .val (.ref 192), .val (.int x1), .val a_unk, .val a_unk, .val a_unk, .val a_unk], [], (126, 120, L, [Y, T, H, H2, RA, RB, ST, NS, I0, I1, I2, BO, (u1 (u2 (u2 (u2 FI 0 8 (-1)) 0 9 0) 0 10 (-1)) 2 (filM ((u2 (u2 (u2 FI 0 8 (-1)) 0 9 0) 0 10 (-1)) 2) 10 (-1))), RG, GU, PU, MA, MN, MS, OT, SC], [r0, r1, r2, r3, w, 192, r6, r7, r8], Lg)) o from ev_f (c := x3 = p2) _ _ 2  zc46 e (fun n => Eq.refl _)
        have zh47 := sum_r h (Option.some.inj zh8).symm
        have ze48 := Option.some.inj zh47
        subst ze48
        exact ev_rete 1 ho (fun n => Eq.refl _)
set_option maxRecDepth 1000000 in
set_option maxHeartbeats 4000000 in
theorem R_f_Y_fits_0 (d : Nat) (Y T H H2 RU RV ST NS I0 I1 I2 BO FI RG GU PU MA MN MS OT SC : Nat → Nat → Int32) (w r5 : Nat) (L : Nat) (Lg : Int64) (p1 : Int32) (p2 : Int32) (p3 : Int32) {r : Nat × Int32 × (Nat → Nat → Int32) × (Nat → Nat → Int32) × (Nat → Nat → Int32) × Nat} (h : f_Y_fits Y H NS BO FI 192 r5 p1 p2 p3 = some r) : Ev (d + 18, 3, 24, 302, 0, [.val (.ref 64), .val (.int p1), .val (.int p2), .val (.int p3)], [], (126, 120, L, [Y, T, H, H2, RU, RV, ST, NS, I0, I1, I2, BO, FI, RG, GU, PU, MA, MN, MS, OT, SC], [192, 256, 320, 384, w, r5, 576, 640, 704], Lg)) ((r.1, a_ov r.1 (.int r.2.1), (126, 120, L, [r.2.2.1, T, H, H2, RU, RV, ST, NS, I0, I1, I2, r.2.2.2.1, r.2.2.2.2.1, RG, GU, PU, MA, MN, MS, OT, SC], [192, 256, 320, 384, w, r.2.2.2.2.2, 576, 640, 704], Lg)) : AOut) := by
  suffices key : ∀ o : AOut, ((r.1, a_ov r.1 (.int r.2.1), (126, 120, L, [r.2.2.1, T, H, H2, RU, RV, ST, NS, I0, I1, I2, r.2.2.2.1, r.2.2.2.2.1, RG, GU, PU, MA, MN, MS, OT, SC], [192, 256, 320, 384, w, r.2.2.2.2.2, 576, 640, 704], Lg)) : AOut) = o → Ev (d + 18, 3, 24, 302, 0, [.val (.ref 64), .val (.int p1), .val (.int p2), .val (.int p3)], [], (126, 120, L, [Y, T, H, H2, RU, RV, ST, NS, I0, I1, I2, BO, FI, RG, GU, PU, MA, MN, MS, OT, SC], [192, 256, 320, 384, w, r5, 576, 640, 704], Lg)) o from key _ rfl
  intro o ho
  obtain ⟨⟨q1, Y_2⟩, zh1, h⟩ := bnd h
  have zh1 : f_Y_needMeeting Y H p1 = some (q1, Y_2) := zh1
  have ze2 := R_f_Y_needMeeting_0 (d + 16) Y T H H2 RU RV ST NS I0 I1 I2 BO FI RG GU PU MA MN MS OT SC w r5 L Lg p1 zh1
  cases q1 with
  | zero =>
    have h := itp h rfl
    suffices e : Ev (d + 18, 2, 16, 302, 5, [.val (.ref 64), .val (.int p1), .val (.int p2), .val (.int p3)], [], (126, 120, L, [Y_2, T, H, H2, RU, RV, ST, NS, I0, I1, I2, BO, FI, RG, GU, PU, MA, MN, MS, OT, SC], [192, 256, 320, 384, w, r5, 576, 640, 704], Lg)) o from ev_call (fun v μ => (d + 18, 2, 16, 302, 5, [.val (.ref 64), .val (.int p1), .val (.int p2), .val (.int p3)], v.toList ++ [], μ)) 3 ze2 e (fun n => Eq.refl _)
    obtain ⟨⟨q3, Y_4⟩, zh3, h⟩ := bnd h
    have zh3 : f_Y_needHour Y_2 H p2 = some (q3, Y_4) := zh3
    have ze4 := R_f_Y_needHour_0 (d + 16) Y_2 T H H2 RU RV ST NS I0 I1 I2 BO FI RG GU PU MA MN MS OT SC w r5 L Lg p2 zh3
    cases q3 with
    | zero =>
      have h := itp h rfl
      suffices e : Ev (d + 18, 1, 8, 302, 10, [.val (.ref 64), .val (.int p1), .val (.int p2), .val (.int p3)], [], (126, 120, L, [Y_4, T, H, H2, RU, RV, ST, NS, I0, I1, I2, BO, FI, RG, GU, PU, MA, MN, MS, OT, SC], [192, 256, 320, 384, w, r5, 576, 640, 704], Lg)) o from ev_call (fun v μ => (d + 18, 1, 8, 302, 10, [.val (.ref 64), .val (.int p1), .val (.int p2), .val (.int p3)], v.toList ++ [], μ)) 3 ze4 e (fun n => Eq.refl _)
      obtain ⟨zt5, zh6, h⟩ := bnd h
      have zj7 : ∀ (v5 : Int32), v5 = zt5 → Ev (d + 18, 1, 8, 302, 25, [.val (.ref 64), .val (.int p1), .val (.int p2), .val (.int p3)], [.int v5, .ref 64], (126, 120, L, [Y_4, T, H, H2, RU, RV, ST, NS, I0, I1, I2, BO, FI, RG, GU, PU, MA, MN, MS, OT, SC], [192, 256, 320, 384, w, r5, 576, 640, 704], Lg)) o := by
        intro v5 ze8
        subst ze8
        obtain ⟨⟨q6, Y_7⟩, zh9, h⟩ := bnd h
        have zh9 : f_Y_refuseUnless Y_4 v5 = some (q6, Y_7) := zh9
        have ze10 := R_f_Y_refuseUnless_0 (d + 17) Y_4 T H H2 RU RV ST NS I0 I1 I2 BO FI RG GU PU MA MN MS OT SC w r5 L Lg v5 zh9
        cases q6 with
        | zero =>
          have h := itp h rfl
          suffices e : Ev (d + 18, 0, 0, 302, 28, [.val (.ref 64), .val (.int p1), .val (.int p2), .val (.int p3)], [], (126, 120, L, [Y_7, T, H, H2, RU, RV, ST, NS, I0, I1, I2, BO, FI, RG, GU, PU, MA, MN, MS, OT, SC], [192, 256, 320, 384, w, r5, 576, 640, 704], Lg)) o from ev_call (fun v μ => (d + 18, 0, 0, 302, 28, [.val (.ref 64), .val (.int p1), .val (.int p2), .val (.int p3)], v.toList ++ [], μ)) 1 ze10 e (fun n => Eq.refl _)
          obtain ⟨BO_9, zh11, h⟩ := bnd h
          have zh11 : f_Y_lookNow H NS BO = some BO_9 := zh11
          have ze12 := R_f_Y_lookNow_0 (d + 15) Y_7 T H H2 RU RV ST NS I0 I1 I2 BO FI RG GU PU MA MN MS OT SC w r5 L Lg zh11
          suffices e : Ev (d + 18, 0, 0, 302, 32, [.val (.ref 64), .val (.int p1), .val (.int p2), .val (.int p3)], [.ref 768], (126, 120, L, [Y_7, T, H, H2, RU, RV, ST, NS, I0, I1, I2, BO_9, FI, RG, GU, PU, MA, MN, MS, OT, SC], [192, 256, 320, 384, w, 192, 576, 640, 704], Lg)) o from ev_call (fun v μ => (d + 18, 0, 0, 302, 32, [.val (.ref 64), .val (.int p1), .val (.int p2), .val (.int p3)], v.toList ++ [], μ)) 2 ze12 e (fun n => Eq.refl _)
          obtain ⟨⟨BO_10, FI_11⟩, zh13, h⟩ := bnd h
          have zh13 : f_Fitter_search H BO_9 FI p1 p2 = some (BO_10, FI_11) := zh13
          have ze14 := R_f_Fitter_search_0 (d + 0) Y_7 T H H2 RU RV ST NS I0 I1 I2 BO_9 FI RG GU PU MA MN MS OT SC 192 256 320 384 w 576 640 704 L Lg p1 p2 zh13
          suffices e : Ev (d + 18, 0, 0, 302, 42, [.val (.ref 64), .val (.int p1), .val (.int p2), .val (.int p3)], [], (126, 120, L, [Y_7, T, H, H2, RU, RV, ST, NS, I0, I1, I2, BO_10, FI_11, RG, GU, PU, MA, MN, MS, OT, SC], [192, 256, 320, 384, w, 192, 576, 640, 704], Lg)) o from ev_call (fun v μ => (d + 18, 0, 0, 302, 42, [.val (.ref 64), .val (.int p1), .val (.int p2), .val (.int p3)], v.toList ++ [], μ)) 6 ze14 e (fun n => Eq.refl _)
          by_cases zc15 : (FI_11 0 8) ≠ (-1)
          · have h := itp h zc15
            suffices e : Ev (d + 18, 0, 0, 302, 55, [.val (.ref 64), .val (.int p1), .val (.int p2), .val (.int p3)], [], (126, 120, L, [Y_7, T, H, H2, RU, RV, ST, NS, I0, I1, I2, BO_10, FI_11, RG, GU, PU, MA, MN, MS, OT, SC], [192, 256, 320, 384, w, 192, 576, 640, 704], Lg)) o from ev_t (c := (FI_11 0 8) ≠ (-1)) _ _ 5  zc15 e (fun n => Eq.refl _)
            by_cases zc16 : p3 = 0
            · have h := itp h zc16
              suffices e : Ev (d + 18, 0, 0, 302, 84, [.val (.ref 64), .val (.int p1), .val (.int p2), .val (.int p3)], [], (126, 120, L, [Y_7, T, H, H2, RU, RV, ST, NS, I0, I1, I2, BO_10, FI_11, RG, GU, PU, MA, MN, MS, OT, SC], [192, 256, 320, 384, w, 192, 576, 640, 704], Lg)) o from ev_sw [((0 : Int32), 84), ((1 : Int32), 92), ((2 : Int32), 100)] p3 (fun tt => (d + 18, 0, 0, 302, tt, [.val (.ref 64), .val (.int p1), .val (.int p2), .val (.int p3)], [], (126, 120, L, [Y_7, T, H, H2, RU, RV, ST, NS, I0, I1, I2, BO_10, FI_11, RG, GU, PU, MA, MN, MS, OT, SC], [192, 256, 320, 384, w, 192, 576, 640, 704], Lg))) 113 84 2 (fun f => by simp only [a_sw, if_pos zc16]) e (fun n => Eq.refl _)
              have ze17 := Option.some.inj h
              subst ze17
              exact ev_rete 4 ho (fun n => Eq.refl _)
            have h := itn h zc16
            by_cases zc18 : p3 = 1
            · have h := itp h zc18
              suffices e : Ev (d + 18, 0, 0, 302, 92, [.val (.ref 64), .val (.int p1), .val (.int p2), .val (.int p3)], [], (126, 120, L, [Y_7, T, H, H2, RU, RV, ST, NS, I0, I1, I2, BO_10, FI_11, RG, GU, PU, MA, MN, MS, OT, SC], [192, 256, 320, 384, w, 192, 576, 640, 704], Lg)) o from ev_sw [((0 : Int32), 84), ((1 : Int32), 92), ((2 : Int32), 100)] p3 (fun tt => (d + 18, 0, 0, 302, tt, [.val (.ref 64), .val (.int p1), .val (.int p2), .val (.int p3)], [], (126, 120, L, [Y_7, T, H, H2, RU, RV, ST, NS, I0, I1, I2, BO_10, FI_11, RG, GU, PU, MA, MN, MS, OT, SC], [192, 256, 320, 384, w, 192, 576, 640, 704], Lg))) 113 92 2 (fun f => by simp only [a_sw, if_neg zc16, if_pos zc18]) e (fun n => Eq.refl _)
              have ze19 := Option.some.inj h
              subst ze19
              exact ev_rete 4 ho (fun n => Eq.refl _)
            have h := itn h zc18
            by_cases zc20 : p3 = 2
            · have h := itp h zc20
              suffices e : Ev (d + 18, 0, 0, 302, 100, [.val (.ref 64), .val (.int p1), .val (.int p2), .val (.int p3)], [], (126, 120, L, [Y_7, T, H, H2, RU, RV, ST, NS, I0, I1, I2, BO_10, FI_11, RG, GU, PU, MA, MN, MS, OT, SC], [192, 256, 320, 384, w, 192, 576, 640, 704], Lg)) o from ev_sw [((0 : Int32), 84), ((1 : Int32), 92), ((2 : Int32), 100)] p3 (fun tt => (d + 18, 0, 0, 302, tt, [.val (.ref 64), .val (.int p1), .val (.int p2), .val (.int p3)], [], (126, 120, L, [Y_7, T, H, H2, RU, RV, ST, NS, I0, I1, I2, BO_10, FI_11, RG, GU, PU, MA, MN, MS, OT, SC], [192, 256, 320, 384, w, 192, 576, 640, 704], Lg))) 113 100 2 (fun f => by simp only [a_sw, if_neg zc16, if_neg zc18, if_pos zc20]) e (fun n => Eq.refl _)
              obtain ⟨x12, zh21, h⟩ := bnd h
              have zh21 : rdx (FI_11 2) 10 p1 = some x12 := zh21
              suffices e : Ev (d + 18, 0, 0, 302, 109, [.val (.ref 64), .val (.int p1), .val (.int p2), .val (.int p3)], [.int x12], (126, 120, L, [Y_7, T, H, H2, RU, RV, ST, NS, I0, I1, I2, BO_10, FI_11, RG, GU, PU, MA, MN, MS, OT, SC], [192, 256, 320, 384, w, 192, 576, 640, 704], Lg)) o from ev_opt (fun x12 => (d + 18, 0, 0, 302, 109, [.val (.ref 64), .val (.int p1), .val (.int p2), .val (.int p3)], [.int x12], (126, 120, L, [Y_7, T, H, H2, RU, RV, ST, NS, I0, I1, I2, BO_10, FI_11, RG, GU, PU, MA, MN, MS, OT, SC], [192, 256, 320, 384, w, 192, 576, 640, 704], Lg))) 5 zh21 e (fun n => Eq.refl _)
              obtain ⟨x13, zh22, h⟩ := bnd h
              have zh22 : f_Y_roomOf x12 = some x13 := zh22
              have ze23 := R_f_Y_roomOf_0 (d + 17) Y_7 T H H2 RU RV ST NS I0 I1 I2 BO_10 FI_11 RG GU PU MA MN MS OT SC 192 256 320 384 w 192 576 640 704 L Lg x12 zh22
              suffices e : Ev (d + 18, 0, 0, 302, 112, [.val (.ref 64), .val (.int p1), .val (.int p2), .val (.int p3)], [.int x13], (126, 120, L, [Y_7, T, H, H2, RU, RV, ST, NS, I0, I1, I2, BO_10, FI_11, RG, GU, PU, MA, MN, MS, OT, SC], [192, 256, 320, 384, w, 192, 576, 640, 704], Lg)) o from ev_call (fun v μ => (d + 18, 0, 0, 302, 112, [.val (.ref 64), .val (.int p1), .val (.int p2), .val (.int p3)], v.toList ++ [], μ)) 1 ze23 e (fun n => Eq.refl _)
              have ze24 := Option.some.inj h
              subst ze24
              exact ev_rete 1 ho (fun n => Eq.refl _)
            have h := itn h zc20
            suffices e : Ev (d + 18, 0, 0, 302, 113, [.val (.ref 64), .val (.int p1), .val (.int p2), .val (.int p3)], [], (126, 120, L, [Y_7, T, H, H2, RU, RV, ST, NS, I0, I1, I2, BO_10, FI_11, RG, GU, PU, MA, MN, MS, OT, SC], [192, 256, 320, 384, w, 192, 576, 640, 704], Lg)) o from ev_sw [((0 : Int32), 84), ((1 : Int32), 92), ((2 : Int32), 100)] p3 (fun tt => (d + 18, 0, 0, 302, tt, [.val (.ref 64), .val (.int p1), .val (.int p2), .val (.int p3)], [], (126, 120, L, [Y_7, T, H, H2, RU, RV, ST, NS, I0, I1, I2, BO_10, FI_11, RG, GU, PU, MA, MN, MS, OT, SC], [192, 256, 320, 384, w, 192, 576, 640, 704], Lg))) 113 113 2 (fun f => by simp only [a_sw, if_neg zc16, if_neg zc18, if_neg zc20]) e (fun n => Eq.refl _)
            have ze25 := Option.some.inj h
            subst ze25
            exact ev_rete 4 ho (fun n => Eq.refl _)
          · have h := itn h zc15
            suffices e : Ev (d + 18, 0, 0, 302, 53, [.val (.ref 64), .val (.int p1), .val (.int p2), .val (.int p3)], [], (126, 120, L, [Y_7, T, H, H2, RU, RV, ST, NS, I0, I1, I2, BO_10, FI_11, RG, GU, PU, MA, MN, MS, OT, SC], [192, 256, 320, 384, w, 192, 576, 640, 704], Lg)) o from ev_f (c := (FI_11 0 8) ≠ (-1)) _ _ 5  zc15 e (fun n => Eq.refl _)
            have ze26 := Option.some.inj h
            subst ze26
            exact ev_rete 2 ho (fun n => Eq.refl _)
        | succ q6 =>
          have h := itn h (Nat.succ_ne_zero q6)
          have ze27 := Option.some.inj h
          subst ze27
          subst ho
          exact ev_thr (fun v μ => (d + 18, 0, 0, 302, 28, [.val (.ref 64), .val (.int p1), .val (.int p2), .val (.int p3)], v.toList ++ [], μ)) 1 ze10 (fun n => Eq.refl _) (fun n => rfl)
      obtain ⟨zt28, zh29, zh6⟩ := bnd zh6
      have zj30 : zt28 = .inl () → Ev (d + 18, 1, 8, 302, 24, [.val (.ref 64), .val (.int p1), .val (.int p2), .val (.int p3)], [.ref 64], (126, 120, L, [Y_4, T, H, H2, RU, RV, ST, NS, I0, I1, I2, BO, FI, RG, GU, PU, MA, MN, MS, OT, SC], [192, 256, 320, 384, w, r5, 576, 640, 704], Lg)) o := by
        intro ze31
        have zh6 := sum_l zh6 ze31
        exact ev_b 1 (zj7 0 (Option.some.inj zh6) ) (fun n => Eq.refl _)
      by_cases zc32 : p3 < 0
      · have zh29 := itp zh29 zc32
        suffices e : Ev (d + 18, 1, 8, 302, 24, [.val (.ref 64), .val (.int p1), .val (.int p2), .val (.int p3)], [.ref 64], (126, 120, L, [Y_4, T, H, H2, RU, RV, ST, NS, I0, I1, I2, BO, FI, RG, GU, PU, MA, MN, MS, OT, SC], [192, 256, 320, 384, w, r5, 576, 640, 704], Lg)) o from ev_t (c := p3 < 0) _ _ 3  zc32 e (fun n => Eq.refl _)
        exact ev_b 0 (zj30  (Option.some.inj zh29).symm ) (fun n => Eq.refl _)
      · have zh29 := itn zh29 zc32
        suffices e : Ev (d + 18, 1, 8, 302, 15, [.val (.ref 64), .val (.int p1), .val (.int p2), .val (.int p3)], [.ref 64], (126, 120, L, [Y_4, T, H, H2, RU, RV, ST, NS, I0, I1, I2, BO, FI, RG, GU, PU, MA, MN, MS, OT, SC], [192, 256, 320, 384, w, r5, 576, 640, 704], Lg)) o from ev_f (c := p3 < 0) _ _ 3  zc32 e (fun n => Eq.refl _)
        by_cases zc33 : 3 < p3
        · have zh29 := itp zh29 zc33
          suffices e : Ev (d + 18, 1, 8, 302, 24, [.val (.ref 64), .val (.int p1), .val (.int p2), .val (.int p3)], [.ref 64], (126, 120, L, [Y_4, T, H, H2, RU, RV, ST, NS, I0, I1, I2, BO, FI, RG, GU, PU, MA, MN, MS, OT, SC], [192, 256, 320, 384, w, r5, 576, 640, 704], Lg)) o from ev_t (c := 3 < p3) _ _ 3  zc33 e (fun n => Eq.refl _)
          exact ev_b 0 (zj30  (Option.some.inj zh29).symm ) (fun n => Eq.refl _)
        · have zh29 := itn zh29 zc33
          suffices e : Ev (d + 18, 1, 8, 302, 20, [.val (.ref 64), .val (.int p1), .val (.int p2), .val (.int p3)], [.ref 64], (126, 120, L, [Y_4, T, H, H2, RU, RV, ST, NS, I0, I1, I2, BO, FI, RG, GU, PU, MA, MN, MS, OT, SC], [192, 256, 320, 384, w, r5, 576, 640, 704], Lg)) o from ev_f (c := 3 < p3) _ _ 3  zc33 e (fun n => Eq.refl _)
          have zh34 := sum_r zh6 (Option.some.inj zh29).symm
          exact ev_b 2 (zj7 1 (Option.some.inj zh34) ) (fun n => Eq.refl _)
    | succ q3 =>
      have h := itn h (Nat.succ_ne_zero q3)
      have ze35 := Option.some.inj h
      subst ze35
      subst ho
      exact ev_thr (fun v μ => (d + 18, 1, 8, 302, 10, [.val (.ref 64), .val (.int p1), .val (.int p2), .val (.int p3)], v.toList ++ [], μ)) 3 ze4 (fun n => Eq.refl _) (fun n => rfl)
  | succ q1 =>
    have h := itn h (Nat.succ_ne_zero q1)
    have ze36 := Option.some.inj h
    subst ze36
    subst ho
    exact ev_thr (fun v μ => (d + 18, 2, 16, 302, 5, [.val (.ref 64), .val (.int p1), .val (.int p2), .val (.int p3)], v.toList ++ [], μ)) 3 ze2 (fun n => Eq.refl _) (fun n => rfl)
set_option maxRecDepth 1000000 in
set_option maxHeartbeats 4000000 in
theorem R_f_Y_fits_1 (d : Nat) (Y T H H2 RV RU ST NS I0 I1 I2 BO FI RG GU PU MA MN MS OT SC : Nat → Nat → Int32) (w r5 : Nat) (L : Nat) (Lg : Int64) (p1 : Int32) (p2 : Int32) (p3 : Int32) {r : Nat × Int32 × (Nat → Nat → Int32) × (Nat → Nat → Int32) × (Nat → Nat → Int32) × Nat} (h : f_Y_fits Y H NS BO FI 192 r5 p1 p2 p3 = some r) : Ev (d + 18, 3, 24, 302, 0, [.val (.ref 64), .val (.int p1), .val (.int p2), .val (.int p3)], [], (126, 120, L, [Y, T, H, H2, RV, RU, ST, NS, I0, I1, I2, BO, FI, RG, GU, PU, MA, MN, MS, OT, SC], [192, 256, 384, 320, w, r5, 576, 640, 704], Lg)) ((r.1, a_ov r.1 (.int r.2.1), (126, 120, L, [r.2.2.1, T, H, H2, RV, RU, ST, NS, I0, I1, I2, r.2.2.2.1, r.2.2.2.2.1, RG, GU, PU, MA, MN, MS, OT, SC], [192, 256, 384, 320, w, r.2.2.2.2.2, 576, 640, 704], Lg)) : AOut) := by
  suffices key : ∀ o : AOut, ((r.1, a_ov r.1 (.int r.2.1), (126, 120, L, [r.2.2.1, T, H, H2, RV, RU, ST, NS, I0, I1, I2, r.2.2.2.1, r.2.2.2.2.1, RG, GU, PU, MA, MN, MS, OT, SC], [192, 256, 384, 320, w, r.2.2.2.2.2, 576, 640, 704], Lg)) : AOut) = o → Ev (d + 18, 3, 24, 302, 0, [.val (.ref 64), .val (.int p1), .val (.int p2), .val (.int p3)], [], (126, 120, L, [Y, T, H, H2, RV, RU, ST, NS, I0, I1, I2, BO, FI, RG, GU, PU, MA, MN, MS, OT, SC], [192, 256, 384, 320, w, r5, 576, 640, 704], Lg)) o from key _ rfl
  intro o ho
  obtain ⟨⟨q1, Y_2⟩, zh1, h⟩ := bnd h
  have zh1 : f_Y_needMeeting Y H p1 = some (q1, Y_2) := zh1
  have ze2 := R_f_Y_needMeeting_1 (d + 16) Y T H H2 RV RU ST NS I0 I1 I2 BO FI RG GU PU MA MN MS OT SC w r5 L Lg p1 zh1
  cases q1 with
  | zero =>
    have h := itp h rfl
    suffices e : Ev (d + 18, 2, 16, 302, 5, [.val (.ref 64), .val (.int p1), .val (.int p2), .val (.int p3)], [], (126, 120, L, [Y_2, T, H, H2, RV, RU, ST, NS, I0, I1, I2, BO, FI, RG, GU, PU, MA, MN, MS, OT, SC], [192, 256, 384, 320, w, r5, 576, 640, 704], Lg)) o from ev_call (fun v μ => (d + 18, 2, 16, 302, 5, [.val (.ref 64), .val (.int p1), .val (.int p2), .val (.int p3)], v.toList ++ [], μ)) 3 ze2 e (fun n => Eq.refl _)
    obtain ⟨⟨q3, Y_4⟩, zh3, h⟩ := bnd h
    have zh3 : f_Y_needHour Y_2 H p2 = some (q3, Y_4) := zh3
    have ze4 := R_f_Y_needHour_1 (d + 16) Y_2 T H H2 RV RU ST NS I0 I1 I2 BO FI RG GU PU MA MN MS OT SC w r5 L Lg p2 zh3
    cases q3 with
    | zero =>
      have h := itp h rfl
      suffices e : Ev (d + 18, 1, 8, 302, 10, [.val (.ref 64), .val (.int p1), .val (.int p2), .val (.int p3)], [], (126, 120, L, [Y_4, T, H, H2, RV, RU, ST, NS, I0, I1, I2, BO, FI, RG, GU, PU, MA, MN, MS, OT, SC], [192, 256, 384, 320, w, r5, 576, 640, 704], Lg)) o from ev_call (fun v μ => (d + 18, 1, 8, 302, 10, [.val (.ref 64), .val (.int p1), .val (.int p2), .val (.int p3)], v.toList ++ [], μ)) 3 ze4 e (fun n => Eq.refl _)
      obtain ⟨zt5, zh6, h⟩ := bnd h
      have zj7 : ∀ (v5 : Int32), v5 = zt5 → Ev (d + 18, 1, 8, 302, 25, [.val (.ref 64), .val (.int p1), .val (.int p2), .val (.int p3)], [.int v5, .ref 64], (126, 120, L, [Y_4, T, H, H2, RV, RU, ST, NS, I0, I1, I2, BO, FI, RG, GU, PU, MA, MN, MS, OT, SC], [192, 256, 384, 320, w, r5, 576, 640, 704], Lg)) o := by
        intro v5 ze8
        subst ze8
        obtain ⟨⟨q6, Y_7⟩, zh9, h⟩ := bnd h
        have zh9 : f_Y_refuseUnless Y_4 v5 = some (q6, Y_7) := zh9
        have ze10 := R_f_Y_refuseUnless_1 (d + 17) Y_4 T H H2 RV RU ST NS I0 I1 I2 BO FI RG GU PU MA MN MS OT SC w r5 L Lg v5 zh9
        cases q6 with
        | zero =>
          have h := itp h rfl
          suffices e : Ev (d + 18, 0, 0, 302, 28, [.val (.ref 64), .val (.int p1), .val (.int p2), .val (.int p3)], [], (126, 120, L, [Y_7, T, H, H2, RV, RU, ST, NS, I0, I1, I2, BO, FI, RG, GU, PU, MA, MN, MS, OT, SC], [192, 256, 384, 320, w, r5, 576, 640, 704], Lg)) o from ev_call (fun v μ => (d + 18, 0, 0, 302, 28, [.val (.ref 64), .val (.int p1), .val (.int p2), .val (.int p3)], v.toList ++ [], μ)) 1 ze10 e (fun n => Eq.refl _)
          obtain ⟨BO_9, zh11, h⟩ := bnd h
          have zh11 : f_Y_lookNow H NS BO = some BO_9 := zh11
          have ze12 := R_f_Y_lookNow_1 (d + 15) Y_7 T H H2 RV RU ST NS I0 I1 I2 BO FI RG GU PU MA MN MS OT SC w r5 L Lg zh11
          suffices e : Ev (d + 18, 0, 0, 302, 32, [.val (.ref 64), .val (.int p1), .val (.int p2), .val (.int p3)], [.ref 768], (126, 120, L, [Y_7, T, H, H2, RV, RU, ST, NS, I0, I1, I2, BO_9, FI, RG, GU, PU, MA, MN, MS, OT, SC], [192, 256, 384, 320, w, 192, 576, 640, 704], Lg)) o from ev_call (fun v μ => (d + 18, 0, 0, 302, 32, [.val (.ref 64), .val (.int p1), .val (.int p2), .val (.int p3)], v.toList ++ [], μ)) 2 ze12 e (fun n => Eq.refl _)
          obtain ⟨⟨BO_10, FI_11⟩, zh13, h⟩ := bnd h
          have zh13 : f_Fitter_search H BO_9 FI p1 p2 = some (BO_10, FI_11) := zh13
          have ze14 := R_f_Fitter_search_0 (d + 0) Y_7 T H H2 RV RU ST NS I0 I1 I2 BO_9 FI RG GU PU MA MN MS OT SC 192 256 384 320 w 576 640 704 L Lg p1 p2 zh13
          suffices e : Ev (d + 18, 0, 0, 302, 42, [.val (.ref 64), .val (.int p1), .val (.int p2), .val (.int p3)], [], (126, 120, L, [Y_7, T, H, H2, RV, RU, ST, NS, I0, I1, I2, BO_10, FI_11, RG, GU, PU, MA, MN, MS, OT, SC], [192, 256, 384, 320, w, 192, 576, 640, 704], Lg)) o from ev_call (fun v μ => (d + 18, 0, 0, 302, 42, [.val (.ref 64), .val (.int p1), .val (.int p2), .val (.int p3)], v.toList ++ [], μ)) 6 ze14 e (fun n => Eq.refl _)
          by_cases zc15 : (FI_11 0 8) ≠ (-1)
          · have h := itp h zc15
            suffices e : Ev (d + 18, 0, 0, 302, 55, [.val (.ref 64), .val (.int p1), .val (.int p2), .val (.int p3)], [], (126, 120, L, [Y_7, T, H, H2, RV, RU, ST, NS, I0, I1, I2, BO_10, FI_11, RG, GU, PU, MA, MN, MS, OT, SC], [192, 256, 384, 320, w, 192, 576, 640, 704], Lg)) o from ev_t (c := (FI_11 0 8) ≠ (-1)) _ _ 5  zc15 e (fun n => Eq.refl _)
            by_cases zc16 : p3 = 0
            · have h := itp h zc16
              suffices e : Ev (d + 18, 0, 0, 302, 84, [.val (.ref 64), .val (.int p1), .val (.int p2), .val (.int p3)], [], (126, 120, L, [Y_7, T, H, H2, RV, RU, ST, NS, I0, I1, I2, BO_10, FI_11, RG, GU, PU, MA, MN, MS, OT, SC], [192, 256, 384, 320, w, 192, 576, 640, 704], Lg)) o from ev_sw [((0 : Int32), 84), ((1 : Int32), 92), ((2 : Int32), 100)] p3 (fun tt => (d + 18, 0, 0, 302, tt, [.val (.ref 64), .val (.int p1), .val (.int p2), .val (.int p3)], [], (126, 120, L, [Y_7, T, H, H2, RV, RU, ST, NS, I0, I1, I2, BO_10, FI_11, RG, GU, PU, MA, MN, MS, OT, SC], [192, 256, 384, 320, w, 192, 576, 640, 704], Lg))) 113 84 2 (fun f => by simp only [a_sw, if_pos zc16]) e (fun n => Eq.refl _)
              have ze17 := Option.some.inj h
              subst ze17
              exact ev_rete 4 ho (fun n => Eq.refl _)
            have h := itn h zc16
            by_cases zc18 : p3 = 1
            · have h := itp h zc18
              suffices e : Ev (d + 18, 0, 0, 302, 92, [.val (.ref 64), .val (.int p1), .val (.int p2), .val (.int p3)], [], (126, 120, L, [Y_7, T, H, H2, RV, RU, ST, NS, I0, I1, I2, BO_10, FI_11, RG, GU, PU, MA, MN, MS, OT, SC], [192, 256, 384, 320, w, 192, 576, 640, 704], Lg)) o from ev_sw [((0 : Int32), 84), ((1 : Int32), 92), ((2 : Int32), 100)] p3 (fun tt => (d + 18, 0, 0, 302, tt, [.val (.ref 64), .val (.int p1), .val (.int p2), .val (.int p3)], [], (126, 120, L, [Y_7, T, H, H2, RV, RU, ST, NS, I0, I1, I2, BO_10, FI_11, RG, GU, PU, MA, MN, MS, OT, SC], [192, 256, 384, 320, w, 192, 576, 640, 704], Lg))) 113 92 2 (fun f => by simp only [a_sw, if_neg zc16, if_pos zc18]) e (fun n => Eq.refl _)
              have ze19 := Option.some.inj h
              subst ze19
              exact ev_rete 4 ho (fun n => Eq.refl _)
            have h := itn h zc18
            by_cases zc20 : p3 = 2
            · have h := itp h zc20
              suffices e : Ev (d + 18, 0, 0, 302, 100, [.val (.ref 64), .val (.int p1), .val (.int p2), .val (.int p3)], [], (126, 120, L, [Y_7, T, H, H2, RV, RU, ST, NS, I0, I1, I2, BO_10, FI_11, RG, GU, PU, MA, MN, MS, OT, SC], [192, 256, 384, 320, w, 192, 576, 640, 704], Lg)) o from ev_sw [((0 : Int32), 84), ((1 : Int32), 92), ((2 : Int32), 100)] p3 (fun tt => (d + 18, 0, 0, 302, tt, [.val (.ref 64), .val (.int p1), .val (.int p2), .val (.int p3)], [], (126, 120, L, [Y_7, T, H, H2, RV, RU, ST, NS, I0, I1, I2, BO_10, FI_11, RG, GU, PU, MA, MN, MS, OT, SC], [192, 256, 384, 320, w, 192, 576, 640, 704], Lg))) 113 100 2 (fun f => by simp only [a_sw, if_neg zc16, if_neg zc18, if_pos zc20]) e (fun n => Eq.refl _)
              obtain ⟨x12, zh21, h⟩ := bnd h
              have zh21 : rdx (FI_11 2) 10 p1 = some x12 := zh21
              suffices e : Ev (d + 18, 0, 0, 302, 109, [.val (.ref 64), .val (.int p1), .val (.int p2), .val (.int p3)], [.int x12], (126, 120, L, [Y_7, T, H, H2, RV, RU, ST, NS, I0, I1, I2, BO_10, FI_11, RG, GU, PU, MA, MN, MS, OT, SC], [192, 256, 384, 320, w, 192, 576, 640, 704], Lg)) o from ev_opt (fun x12 => (d + 18, 0, 0, 302, 109, [.val (.ref 64), .val (.int p1), .val (.int p2), .val (.int p3)], [.int x12], (126, 120, L, [Y_7, T, H, H2, RV, RU, ST, NS, I0, I1, I2, BO_10, FI_11, RG, GU, PU, MA, MN, MS, OT, SC], [192, 256, 384, 320, w, 192, 576, 640, 704], Lg))) 5 zh21 e (fun n => Eq.refl _)
              obtain ⟨x13, zh22, h⟩ := bnd h
              have zh22 : f_Y_roomOf x12 = some x13 := zh22
              have ze23 := R_f_Y_roomOf_0 (d + 17) Y_7 T H H2 RV RU ST NS I0 I1 I2 BO_10 FI_11 RG GU PU MA MN MS OT SC 192 256 384 320 w 192 576 640 704 L Lg x12 zh22
              suffices e : Ev (d + 18, 0, 0, 302, 112, [.val (.ref 64), .val (.int p1), .val (.int p2), .val (.int p3)], [.int x13], (126, 120, L, [Y_7, T, H, H2, RV, RU, ST, NS, I0, I1, I2, BO_10, FI_11, RG, GU, PU, MA, MN, MS, OT, SC], [192, 256, 384, 320, w, 192, 576, 640, 704], Lg)) o from ev_call (fun v μ => (d + 18, 0, 0, 302, 112, [.val (.ref 64), .val (.int p1), .val (.int p2), .val (.int p3)], v.toList ++ [], μ)) 1 ze23 e (fun n => Eq.refl _)
              have ze24 := Option.some.inj h
              subst ze24
              exact ev_rete 1 ho (fun n => Eq.refl _)
            have h := itn h zc20
            suffices e : Ev (d + 18, 0, 0, 302, 113, [.val (.ref 64), .val (.int p1), .val (.int p2), .val (.int p3)], [], (126, 120, L, [Y_7, T, H, H2, RV, RU, ST, NS, I0, I1, I2, BO_10, FI_11, RG, GU, PU, MA, MN, MS, OT, SC], [192, 256, 384, 320, w, 192, 576, 640, 704], Lg)) o from ev_sw [((0 : Int32), 84), ((1 : Int32), 92), ((2 : Int32), 100)] p3 (fun tt => (d + 18, 0, 0, 302, tt, [.val (.ref 64), .val (.int p1), .val (.int p2), .val (.int p3)], [], (126, 120, L, [Y_7, T, H, H2, RV, RU, ST, NS, I0, I1, I2, BO_10, FI_11, RG, GU, PU, MA, MN, MS, OT, SC], [192, 256, 384, 320, w, 192, 576, 640, 704], Lg))) 113 113 2 (fun f => by simp only [a_sw, if_neg zc16, if_neg zc18, if_neg zc20]) e (fun n => Eq.refl _)
            have ze25 := Option.some.inj h
            subst ze25
            exact ev_rete 4 ho (fun n => Eq.refl _)
          · have h := itn h zc15
            suffices e : Ev (d + 18, 0, 0, 302, 53, [.val (.ref 64), .val (.int p1), .val (.int p2), .val (.int p3)], [], (126, 120, L, [Y_7, T, H, H2, RV, RU, ST, NS, I0, I1, I2, BO_10, FI_11, RG, GU, PU, MA, MN, MS, OT, SC], [192, 256, 384, 320, w, 192, 576, 640, 704], Lg)) o from ev_f (c := (FI_11 0 8) ≠ (-1)) _ _ 5  zc15 e (fun n => Eq.refl _)
            have ze26 := Option.some.inj h
            subst ze26
            exact ev_rete 2 ho (fun n => Eq.refl _)
        | succ q6 =>
          have h := itn h (Nat.succ_ne_zero q6)
          have ze27 := Option.some.inj h
          subst ze27
          subst ho
          exact ev_thr (fun v μ => (d + 18, 0, 0, 302, 28, [.val (.ref 64), .val (.int p1), .val (.int p2), .val (.int p3)], v.toList ++ [], μ)) 1 ze10 (fun n => Eq.refl _) (fun n => rfl)
      obtain ⟨zt28, zh29, zh6⟩ := bnd zh6
      have zj30 : zt28 = .inl () → Ev (d + 18, 1, 8, 302, 24, [.val (.ref 64), .val (.int p1), .val (.int p2), .val (.int p3)], [.ref 64], (126, 120, L, [Y_4, T, H, H2, RV, RU, ST, NS, I0, I1, I2, BO, FI, RG, GU, PU, MA, MN, MS, OT, SC], [192, 256, 384, 320, w, r5, 576, 640, 704], Lg)) o := by
        intro ze31
        have zh6 := sum_l zh6 ze31
        exact ev_b 1 (zj7 0 (Option.some.inj zh6) ) (fun n => Eq.refl _)
      by_cases zc32 : p3 < 0
      · have zh29 := itp zh29 zc32
        suffices e : Ev (d + 18, 1, 8, 302, 24, [.val (.ref 64), .val (.int p1), .val (.int p2), .val (.int p3)], [.ref 64], (126, 120, L, [Y_4, T, H, H2, RV, RU, ST, NS, I0, I1, I2, BO, FI, RG, GU, PU, MA, MN, MS, OT, SC], [192, 256, 384, 320, w, r5, 576, 640, 704], Lg)) o from ev_t (c := p3 < 0) _ _ 3  zc32 e (fun n => Eq.refl _)
        exact ev_b 0 (zj30  (Option.some.inj zh29).symm ) (fun n => Eq.refl _)
      · have zh29 := itn zh29 zc32
        suffices e : Ev (d + 18, 1, 8, 302, 15, [.val (.ref 64), .val (.int p1), .val (.int p2), .val (.int p3)], [.ref 64], (126, 120, L, [Y_4, T, H, H2, RV, RU, ST, NS, I0, I1, I2, BO, FI, RG, GU, PU, MA, MN, MS, OT, SC], [192, 256, 384, 320, w, r5, 576, 640, 704], Lg)) o from ev_f (c := p3 < 0) _ _ 3  zc32 e (fun n => Eq.refl _)
        by_cases zc33 : 3 < p3
        · have zh29 := itp zh29 zc33
          suffices e : Ev (d + 18, 1, 8, 302, 24, [.val (.ref 64), .val (.int p1), .val (.int p2), .val (.int p3)], [.ref 64], (126, 120, L, [Y_4, T, H, H2, RV, RU, ST, NS, I0, I1, I2, BO, FI, RG, GU, PU, MA, MN, MS, OT, SC], [192, 256, 384, 320, w, r5, 576, 640, 704], Lg)) o from ev_t (c := 3 < p3) _ _ 3  zc33 e (fun n => Eq.refl _)
          exact ev_b 0 (zj30  (Option.some.inj zh29).symm ) (fun n => Eq.refl _)
        · have zh29 := itn zh29 zc33
          suffices e : Ev (d + 18, 1, 8, 302, 20, [.val (.ref 64), .val (.int p1), .val (.int p2), .val (.int p3)], [.ref 64], (126, 120, L, [Y_4, T, H, H2, RV, RU, ST, NS, I0, I1, I2, BO, FI, RG, GU, PU, MA, MN, MS, OT, SC], [192, 256, 384, 320, w, r5, 576, 640, 704], Lg)) o from ev_f (c := 3 < p3) _ _ 3  zc33 e (fun n => Eq.refl _)
          have zh34 := sum_r zh6 (Option.some.inj zh29).symm
          exact ev_b 2 (zj7 1 (Option.some.inj zh34) ) (fun n => Eq.refl _)
    | succ q3 =>
      have h := itn h (Nat.succ_ne_zero q3)
      have ze35 := Option.some.inj h
      subst ze35
      subst ho
      exact ev_thr (fun v μ => (d + 18, 1, 8, 302, 10, [.val (.ref 64), .val (.int p1), .val (.int p2), .val (.int p3)], v.toList ++ [], μ)) 3 ze4 (fun n => Eq.refl _) (fun n => rfl)
  | succ q1 =>
    have h := itn h (Nat.succ_ne_zero q1)
    have ze36 := Option.some.inj h
    subst ze36
    subst ho
    exact ev_thr (fun v μ => (d + 18, 2, 16, 302, 5, [.val (.ref 64), .val (.int p1), .val (.int p2), .val (.int p3)], v.toList ++ [], μ)) 3 ze2 (fun n => Eq.refl _) (fun n => rfl)
set_option maxRecDepth 1000000 in
set_option maxHeartbeats 4000000 in
theorem R_f_Board_inWay_1 (d : Nat) (Y T H2 H RA RB ST NS I0 I1 I2 BO FI RG GU PU MA MN MS OT SC : Nat → Nat → Int32) (r0 r1 r2 r3 w r6 r7 r8 : Nat) (L : Nat) (Lg : Int64) (p1 : Int32) (p2 : Int32) {r : Int32} (h : f_Board_inWay H BO p1 p2 = some r) : Ev (d + 2, 0, 0, 162, 0, [.val (.ref 768), .val (.int p1), .val (.int p2), .val a_unk], [], (126, 120, L, [Y, T, H2, H, RA, RB, ST, NS, I0, I1, I2, BO, FI, RG, GU, PU, MA, MN, MS, OT, SC], [r0, r1, r2, r3, w, 256, r6, r7, r8], Lg)) ((0, some (.int r), (126, 120, L, [Y, T, H2, H, RA, RB, ST, NS, I0, I1, I2, BO, FI, RG, GU, PU, MA, MN, MS, OT, SC], [r0, r1, r2, r3, w, 256, r6, r7, r8], Lg)) : AOut) := by
  suffices key : ∀ o : AOut, ((0, some (.int r), (126, 120, L, [Y, T, H2, H, RA, RB, ST, NS, I0, I1, I2, BO, FI, RG, GU, PU, MA, MN, MS, OT, SC], [r0, r1, r2, r3, w, 256, r6, r7, r8], Lg)) : AOut) = o → Ev (d + 2, 0, 0, 162, 0, [.val (.ref 768), .val (.int p1), .val (.int p2), .val a_unk], [], (126, 120, L, [Y, T, H2, H, RA, RB, ST, NS, I0, I1, I2, BO, FI, RG, GU, PU, MA, MN, MS, OT, SC], [r0, r1, r2, r3, w, 256, r6, r7, r8], Lg)) o from key _ rfl
  intro o ho
  obtain ⟨x1, zh1, h⟩ := bnd h
  have zh1 : f_Board_othersThere H BO p1 p2 = some x1 := zh1
  have ze2 := R_f_Board_othersThere_1 (d + 0) Y T H2 H RA RB ST NS I0 I1 I2 BO FI RG GU PU MA MN MS OT SC r0 r1 r2 r3 w r6 r7 r8 L Lg p1 p2 zh1
  suffices e : Ev (d + 2, 0, 0, 162, 6, [.val (.ref 768), .val (.int p1), .val (.int p2), .val a_unk], [.int x1], (126, 120, L, [Y, T, H2, H, RA, RB, ST, NS, I0, I1, I2, BO, FI, RG, GU, PU, MA, MN, MS, OT, SC], [r0, r1, r2, r3, w, 256, r6, r7, r8], Lg)) o from ev_call (fun v μ => (d + 2, 0, 0, 162, 6, [.val (.ref 768), .val (.int p1), .val (.int p2), .val a_unk], v.toList ++ [], μ)) 4 ze2 e (fun n => Eq.refl _)
  have ze3 := Option.some.inj h
  subst ze3
  exact ev_rete 9 ho (fun n => Eq.refl _)
set_option maxRecDepth 1000000 in
set_option maxHeartbeats 4000000 in
theorem R_f_Fitter_collectRubs_1 (d : Nat) (Y T H2 H RA RB ST NS I0 I1 I2 BO FI RG GU PU MA MN MS OT SC : Nat → Nat → Int32) (r0 r1 r2 r3 w r6 r7 r8 : Nat) (L : Nat) (Lg : Int64) {r : (Nat → Nat → Int32)} (h : f_Fitter_collectRubs H BO FI = some r) : Ev (d + 3, 0, 0, 179, 0, [.val (.ref 832), .val a_unk, .val a_unk], [], (126, 120, L, [Y, T, H2, H, RA, RB, ST, NS, I0, I1, I2, BO, FI, RG, GU, PU, MA, MN, MS, OT, SC], [r0, r1, r2, r3, w, 256, r6, r7, r8], Lg)) ((0, none, (126, 120, L, [Y, T, H2, H, RA, RB, ST, NS, I0, I1, I2, BO, r, RG, GU, PU, MA, MN, MS, OT, SC], [r0, r1, r2, r3, w, 256, r6, r7, r8], Lg)) : AOut) := by
  suffices key : ∀ o : AOut, ((0, none, (126, 120, L, [Y, T, H2, H, RA, RB, ST, NS, I0, I1, I2, BO, r, RG, GU, PU, MA, MN, MS, OT, SC], [r0, r1, r2, r3, w, 256, r6, r7, r8], Lg)) : AOut) = o → Ev (d + 3, 0, 0, 179, 0, [.val (.ref 832), .val a_unk, .val a_unk], [], (126, 120, L, [Y, T, H2, H, RA, RB, ST, NS, I0, I1, I2, BO, FI, RG, GU, PU, MA, MN, MS, OT, SC], [r0, r1, r2, r3, w, 256, r6, r7, r8], Lg)) o from key _ rfl
  intro o ho
  obtain ⟨FI_12, zh2, h⟩ := bnd h
  suffices e : Ev (d + 3, 0, 0, 179, 7, [.val (.ref 832), .val (.int 0), .val a_unk], [], (126, 120, L, [Y, T, H2, H, RA, RB, ST, NS, I0, I1, I2, BO, (u2 FI 0 4 0), RG, GU, PU, MA, MN, MS, OT, SC], [r0, r1, r2, r3, w, 256, r6, r7, r8], Lg)) o from ev_b 5 e (fun n => Eq.refl _)
  refine ev_loop (δ := Value) (fun a j => (d + 3, 0, 0, 179, 7, [.val (.ref 832), .val (.int a.1), .val j], [], (126, 120, L, [Y, T, H2, H, RA, RB, ST, NS, I0, I1, I2, BO, a.2, RG, GU, PU, MA, MN, MS, OT, SC], [r0, r1, r2, r3, w, 256, r6, r7, r8], Lg))) (fun b => ∀ s10 : Value, ∀ s11 : Value, Ev (d + 3, 0, 0, 179, 99, [.val (.ref 832), .val s10, .val s11], [], (126, 120, L, [Y, T, H2, H, RA, RB, ST, NS, I0, I1, I2, BO, b, RG, GU, PU, MA, MN, MS, OT, SC], [r0, r1, r2, r3, w, 256, r6, r7, r8], Lg)) o) ?_ a_F (0, (u2 FI 0 4 0)) FI_12 zh2 ?_ a_unk
  · rintro ⟨v1, FI_3⟩ zr6 zh5 zi3 zx4 s2
    have zh5 : f_Fitter_collectRubs_l7 H BO v1 FI_3 = some zr6 := zh5
    suffices e : Ev (d + 3, 0, 0, 179, 15, [.val (.ref 832), .val (.int v1), .val s2], [.ref 256, .int v1], (126, 120, L, [Y, T, H2, H, RA, RB, ST, NS, I0, I1, I2, BO, FI_3, RG, GU, PU, MA, MN, MS, OT, SC], [r0, r1, r2, r3, w, 256, r6, r7, r8], Lg)) o from ev_b 4 e (fun n => Eq.refl _)
    by_cases zc7 : (H 0 3) ≤ v1
    · have zh5 := itp zh5 zc7
      suffices e : Ev (d + 3, 0, 0, 179, 99, [.val (.ref 832), .val (.int v1), .val s2], [], (126, 120, L, [Y, T, H2, H, RA, RB, ST, NS, I0, I1, I2, BO, FI_3, RG, GU, PU, MA, MN, MS, OT, SC], [r0, r1, r2, r3, w, 256, r6, r7, r8], Lg)) o from ev_t (c := (H 0 3) ≤ v1) _ _ 2  zc7 e (fun n => Eq.refl _)
      exact ev_b 0 (zx4 _ (Option.some.inj zh5).symm (.int v1) s2) (fun n => Eq.refl _)
    · have zh5 := itn zh5 zc7
      suffices e : Ev (d + 3, 0, 0, 179, 21, [.val (.ref 832), .val (.int v1), .val s2], [], (126, 120, L, [Y, T, H2, H, RA, RB, ST, NS, I0, I1, I2, BO, FI_3, RG, GU, PU, MA, MN, MS, OT, SC], [r0, r1, r2, r3, w, 256, r6, r7, r8], Lg)) o from ev_f (c := (H 0 3) ≤ v1) _ _ 2  zc7 e (fun n => Eq.refl _)
      obtain ⟨x4, zh8, zh5⟩ := bnd zh5
      have zh8 : rdx (BO 1) 10 v1 = some x4 := zh8
      suffices e : Ev (d + 3, 0, 0, 179, 30, [.val (.ref 832), .val (.int v1), .val s2], [.int x4], (126, 120, L, [Y, T, H2, H, RA, RB, ST, NS, I0, I1, I2, BO, FI_3, RG, GU, PU, MA, MN, MS, OT, SC], [r0, r1, r2, r3, w, 256, r6, r7, r8], Lg)) o from ev_opt (fun x4 => (d + 3, 0, 0, 179, 30, [.val (.ref 832), .val (.int v1), .val s2], [.int x4], (126, 120, L, [Y, T, H2, H, RA, RB, ST, NS, I0, I1, I2, BO, FI_3, RG, GU, PU, MA, MN, MS, OT, SC], [r0, r1, r2, r3, w, 256, r6, r7, r8], Lg))) 5 zh8 e (fun n => Eq.refl _)
      obtain ⟨j5, zh9, zh5⟩ := bnd zh5
      have zh9 : ixx 10 v1 = some j5 := zh9
      suffices e : Ev (d + 3, 0, 0, 179, 38, [.val (.ref 832), .val (.int v1), .val (.int x4)], [], (126, 120, L, [Y, T, H2, H, RA, RB, ST, NS, I0, I1, I2, BO, (u2 FI_3 3 j5 0), RG, GU, PU, MA, MN, MS, OT, SC], [r0, r1, r2, r3, w, 256, r6, r7, r8], Lg)) o from ev_opt (fun j5 => (d + 3, 0, 0, 179, 38, [.val (.ref 832), .val (.int v1), .val (.int x4)], [], (126, 120, L, [Y, T, H2, H, RA, RB, ST, NS, I0, I1, I2, BO, (u2 FI_3 3 j5 0), RG, GU, PU, MA, MN, MS, OT, SC], [r0, r1, r2, r3, w, 256, r6, r7, r8], Lg))) 6 zh9 e (fun n => Eq.refl _)
      by_cases zc10 : x4 = (-1)
      · have zh5 := itp zh5 zc10
        suffices e : Ev (d + 3, 0, 0, 179, 93, [.val (.ref 832), .val (.int v1), .val (.int x4)], [], (126, 120, L, [Y, T, H2, H, RA, RB, ST, NS, I0, I1, I2, BO, (u2 FI_3 3 j5 0), RG, GU, PU, MA, MN, MS, OT, SC], [r0, r1, r2, r3, w, 256, r6, r7, r8], Lg)) o from ev_t (c := x4 = (-1)) _ _ 3  zc10 e (fun n => Eq.refl _)
        exact ev_b 2 (zi3 _ (Option.some.inj zh5).symm (.int x4)) (fun n => Eq.refl _)
      · have zh5 := itn zh5 zc10
        suffices e : Ev (d + 3, 0, 0, 179, 43, [.val (.ref 832), .val (.int v1), .val (.int x4)], [], (126, 120, L, [Y, T, H2, H, RA, RB, ST, NS, I0, I1, I2, BO, (u2 FI_3 3 j5 0), RG, GU, PU, MA, MN, MS, OT, SC], [r0, r1, r2, r3, w, 256, r6, r7, r8], Lg)) o from ev_f (c := x4 = (-1)) _ _ 3  zc10 e (fun n => Eq.refl _)
        obtain ⟨x6, zh11, zh5⟩ := bnd zh5
        have zh11 : f_Board_inWay H BO v1 x4 = some x6 := zh11
        have ze12 := R_f_Board_inWay_1 (d + 0) Y T H2 H RA RB ST NS I0 I1 I2 BO (u2 FI_3 3 j5 0) RG GU PU MA MN MS OT SC r0 r1 r2 r3 w r6 r7 r8 L Lg v1 x4 zh11
        suffices e : Ev (d + 3, 0, 0, 179, 57, [.val (.ref 832), .val (.int v1), .val (.int x4)], [.int x6, .int v1, .ref 835], (126, 120, L, [Y, T, H2, H, RA, RB, ST, NS, I0, I1, I2, BO, (u2 FI_3 3 j5 0), RG, GU, PU, MA, MN, MS, OT, SC], [r0, r1, r2, r3, w, 256, r6, r7, r8], Lg)) o from ev_call (fun v μ => (d + 3, 0, 0, 179, 57, [.val (.ref 832), .val (.int v1), .val (.int x4)], v.toList ++ [.int v1, .ref 835], μ)) 8 ze12 e (fun n => Eq.refl _)
        obtain ⟨j7, zh13, zh5⟩ := bnd zh5
        have zh13 : ixx 10 v1 = some j7 := zh13
        suffices e : Ev (d + 3, 0, 0, 179, 58, [.val (.ref 832), .val (.int v1), .val (.int x4)], [], (126, 120, L, [Y, T, H2, H, RA, RB, ST, NS, I0, I1, I2, BO, (u2 (u2 FI_3 3 j5 0) 3 j7 x6), RG, GU, PU, MA, MN, MS, OT, SC], [r0, r1, r2, r3, w, 256, r6, r7, r8], Lg)) o from ev_opt (fun j7 => (d + 3, 0, 0, 179, 58, [.val (.ref 832), .val (.int v1), .val (.int x4)], [], (126, 120, L, [Y, T, H2, H, RA, RB, ST, NS, I0, I1, I2, BO, (u2 (u2 FI_3 3 j5 0) 3 j7 x6), RG, GU, PU, MA, MN, MS, OT, SC], [r0, r1, r2, r3, w, 256, r6, r7, r8], Lg))) 1 zh13 e (fun n => Eq.refl _)
        obtain ⟨x8, zh14, zh5⟩ := bnd zh5
        have zh14 : f_Board_isHeldPlace BO x4 = some x8 := zh14
        have ze15 := R_f_Board_isHeldPlace_1 (d + 1) Y T H2 H RA RB ST NS I0 I1 I2 BO (u2 (u2 FI_3 3 j5 0) 3 j7 x6) RG GU PU MA MN MS OT SC r0 r1 r2 r3 w r6 r7 r8 L Lg x4 zh14
        suffices e : Ev (d + 3, 0, 0, 179, 66, [.val (.ref 832), .val (.int v1), .val (.int x4)], [.int x8], (126, 120, L, [Y, T, H2, H, RA, RB, ST, NS, I0, I1, I2, BO, (u2 (u2 FI_3 3 j5 0) 3 j7 x6), RG, GU, PU, MA, MN, MS, OT, SC], [r0, r1, r2, r3, w, 256, r6, r7, r8], Lg)) o from ev_call (fun v μ => (d + 3, 0, 0, 179, 66, [.val (.ref 832), .val (.int v1), .val (.int x4)], v.toList ++ [], μ)) 4 ze15 e (fun n => Eq.refl _)
        obtain ⟨zt16, zh17, zh5⟩ := bnd zh5
        have zj18 : zt16 = .inl () → Ev (d + 3, 0, 0, 179, 81, [.val (.ref 832), .val (.int v1), .val (.int x4)], [], (126, 120, L, [Y, T, H2, H, RA, RB, ST, NS, I0, I1, I2, BO, (u2 (u2 FI_3 3 j5 0) 3 j7 x6), RG, GU, PU, MA, MN, MS, OT, SC], [r0, r1, r2, r3, w, 256, r6, r7, r8], Lg)) o := by
          intro ze19
          have zh5 := sum_l zh5 ze19
          exact ev_b 10 (zi3 _ (Option.some.inj zh5).symm (.int x4)) (fun n => Eq.refl _)
        by_cases zc20 : x8 ≠ 0
        · have zh17 := itp zh17 zc20
          suffices e : Ev (d + 3, 0, 0, 179, 81, [.val (.ref 832), .val (.int v1), .val (.int x4)], [], (126, 120, L, [Y, T, H2, H, RA, RB, ST, NS, I0, I1, I2, BO, (u2 (u2 FI_3 3 j5 0) 3 j7 x6), RG, GU, PU, MA, MN, MS, OT, SC], [r0, r1, r2, r3, w, 256, r6, r7, r8], Lg)) o from ev_t (c := x8 ≠ 0) _ _ 1  zc20 e (fun n => Eq.refl _)
          exact ev_b 0 (zj18  (Option.some.inj zh17).symm ) (fun n => Eq.refl _)
        · have zh17 := itn zh17 zc20
          suffices e : Ev (d + 3, 0, 0, 179, 69, [.val (.ref 832), .val (.int v1), .val (.int x4)], [], (126, 120, L, [Y, T, H2, H, RA, RB, ST, NS, I0, I1, I2, BO, (u2 (u2 FI_3 3 j5 0) 3 j7 x6), RG, GU, PU, MA, MN, MS, OT, SC], [r0, r1, r2, r3, w, 256, r6, r7, r8], Lg)) o from ev_f (c := x8 ≠ 0) _ _ 1  zc20 e (fun n => Eq.refl _)
          obtain ⟨x9, zh21, zh17⟩ := bnd zh17
          have zh21 : f_Board_lastingClashes H v1 x4 = some x9 := zh21
          have ze22 := R_f_Board_lastingClashes_1 (d + 1) Y T H2 H RA RB ST NS I0 I1 I2 BO (u2 (u2 FI_3 3 j5 0) 3 j7 x6) RG GU PU MA MN MS OT SC r0 r1 r2 r3 w r6 r7 r8 L Lg v1 x4 zh21
          suffices e : Ev (d + 3, 0, 0, 179, 78, [.val (.ref 832), .val (.int v1), .val (.int x4)], [.int x9], (126, 120, L, [Y, T, H2, H, RA, RB, ST, NS, I0, I1, I2, BO, (u2 (u2 FI_3 3 j5 0) 3 j7 x6), RG, GU, PU, MA, MN, MS, OT, SC], [r0, r1, r2, r3, w, 256, r6, r7, r8], Lg)) o from ev_call (fun v μ => (d + 3, 0, 0, 179, 78, [.val (.ref 832), .val (.int v1), .val (.int x4)], v.toList ++ [], μ)) 5 ze22 e (fun n => Eq.refl _)
          by_cases zc23 : x9 = 0
          · have zh17 := itp zh17 zc23
            suffices e : Ev (d + 3, 0, 0, 179, 93, [.val (.ref 832), .val (.int v1), .val (.int x4)], [], (126, 120, L, [Y, T, H2, H, RA, RB, ST, NS, I0, I1, I2, BO, (u2 (u2 FI_3 3 j5 0) 3 j7 x6), RG, GU, PU, MA, MN, MS, OT, SC], [r0, r1, r2, r3, w, 256, r6, r7, r8], Lg)) o from ev_t (c := x9 = 0) _ _ 1  zc23 e (fun n => Eq.refl _)
            have zh24 := sum_r zh5 (Option.some.inj zh17).symm
            exact ev_b 2 (zi3 _ (Option.some.inj zh24).symm (.int x4)) (fun n => Eq.refl _)
          · have zh17 := itn zh17 zc23
            suffices e : Ev (d + 3, 0, 0, 179, 81, [.val (.ref 832), .val (.int v1), .val (.int x4)], [], (126, 120, L, [Y, T, H2, H, RA, RB, ST, NS, I0, I1, I2, BO, (u2 (u2 FI_3 3 j5 0) 3 j7 x6), RG, GU, PU, MA, MN, MS, OT, SC], [r0, r1, r2, r3, w, 256, r6, r7, r8], Lg)) o from ev_f (c := x9 = 0) _ _ 1  zc23 e (fun n => Eq.refl _)
            exact ev_b 0 (zj18  (Option.some.inj zh17).symm ) (fun n => Eq.refl _)
  · skip
    intro s10 s11
    have ze25 := Option.some.inj h
    subst ze25
    exact ev_rete 1 ho (fun n => Eq.refl _)
set_option maxRecDepth 1000000 in
set_option maxHeartbeats 4000000 in
theorem R_f_Fitter_restIsLawful_1 (d : Nat) (Y T H2 H RA RB ST NS I0 I1 I2 BO FI RG GU PU MA MN MS OT SC : Nat → Nat → Int32) (r0 r1 r2 r3 w r6 r7 r8 : Nat) (L : Nat) (Lg : Int64) (p1 : Int32) {r : Int32} (h : f_Fitter_restIsLawful H FI p1 = some r) : Ev (d + 0, 0, 0, 180, 0, [.val (.ref 832), .val (.int p1), .val a_unk], [], (126, 120, L, [Y, T, H2, H, RA, RB, ST, NS, I0, I1, I2, BO, FI, RG, GU, PU, MA, MN, MS, OT, SC], [r0, r1, r2, r3, w, 256, r6, r7, r8], Lg)) ((0, some (.int r), (126, 120, L, [Y, T, H2, H, RA, RB, ST, NS, I0, I1, I2, BO, FI, RG, GU, PU, MA, MN, MS, OT, SC], [r0, r1, r2, r3, w, 256, r6, r7, r8], Lg)) : AOut) := by
  suffices key : ∀ o : AOut, ((0, some (.int r), (126, 120, L, [Y, T, H2, H, RA, RB, ST, NS, I0, I1, I2, BO, FI, RG, GU, PU, MA, MN, MS, OT, SC], [r0, r1, r2, r3, w, 256, r6, r7, r8], Lg)) : AOut) = o → Ev (d + 0, 0, 0, 180, 0, [.val (.ref 832), .val (.int p1), .val a_unk], [], (126, 120, L, [Y, T, H2, H, RA, RB, ST, NS, I0, I1, I2, BO, FI, RG, GU, PU, MA, MN, MS, OT, SC], [r0, r1, r2, r3, w, 256, r6, r7, r8], Lg)) o from key _ rfl
  intro o ho
  by_cases zc1 : ((FI 0 4) &&& p1) = 0
  · have h := itp h zc1
    suffices e : Ev (d + 0, 0, 0, 180, 11, [.val (.ref 832), .val (.int p1), .val a_unk], [], (126, 120, L, [Y, T, H2, H, RA, RB, ST, NS, I0, I1, I2, BO, FI, RG, GU, PU, MA, MN, MS, OT, SC], [r0, r1, r2, r3, w, 256, r6, r7, r8], Lg)) o from ev_t (c := ((FI 0 4) &&& p1) = 0) _ _ 5  zc1 e (fun n => Eq.refl _)
    obtain ⟨zb2, zh3, h⟩ := bnd h
    suffices e : Ev (d + 0, 0, 0, 180, 13, [.val (.ref 832), .val (.int p1), .val (.int 0)], [], (126, 120, L, [Y, T, H2, H, RA, RB, ST, NS, I0, I1, I2, BO, FI, RG, GU, PU, MA, MN, MS, OT, SC], [r0, r1, r2, r3, w, 256, r6, r7, r8], Lg)) o from ev_b 2 e (fun n => Eq.refl _)
    refine ev_loop (δ := Unit) (fun a j => (d + 0, 0, 0, 180, 13, [.val (.ref 832), .val (.int p1), .val (.int a)], [], (126, 120, L, [Y, T, H2, H, RA, RB, ST, NS, I0, I1, I2, BO, FI, RG, GU, PU, MA, MN, MS, OT, SC], [r0, r1, r2, r3, w, 256, r6, r7, r8], Lg))) (fun b => sumE b (fun b => ∀ s3 : Value, Ev (d + 0, 0, 0, 180, 54, [.val (.ref 832), .val (.int p1), .val s3], [], (126, 120, L, [Y, T, H2, H, RA, RB, ST, NS, I0, I1, I2, BO, FI, RG, GU, PU, MA, MN, MS, OT, SC], [r0, r1, r2, r3, w, 256, r6, r7, r8], Lg)) o) (fun b => ((0, some (.int b), (126, 120, L, [Y, T, H2, H, RA, RB, ST, NS, I0, I1, I2, BO, FI, RG, GU, PU, MA, MN, MS, OT, SC], [r0, r1, r2, r3, w, 256, r6, r7, r8], Lg)) : AOut) = o)) ?_ a_F 0 zb2 zh3 ?_ ()
    · rintro v1 zr7 zh6 zi4 zx5 ⟨⟩
      have zh6 : f_Fitter_restIsLawful_l13 H FI p1 v1 = some zr7 := zh6
      suffices e : Ev (d + 0, 0, 0, 180, 21, [.val (.ref 832), .val (.int p1), .val (.int v1)], [.ref 256, .int v1], (126, 120, L, [Y, T, H2, H, RA, RB, ST, NS, I0, I1, I2, BO, FI, RG, GU, PU, MA, MN, MS, OT, SC], [r0, r1, r2, r3, w, 256, r6, r7, r8], Lg)) o from ev_b 4 e (fun n => Eq.refl _)
      by_cases zc8 : (H 0 3) ≤ v1
      · have zh6 := itp zh6 zc8
        suffices e : Ev (d + 0, 0, 0, 180, 54, [.val (.ref 832), .val (.int p1), .val (.int v1)], [], (126, 120, L, [Y, T, H2, H, RA, RB, ST, NS, I0, I1, I2, BO, FI, RG, GU, PU, MA, MN, MS, OT, SC], [r0, r1, r2, r3, w, 256, r6, r7, r8], Lg)) o from ev_t (c := (H 0 3) ≤ v1) _ _ 2  zc8 e (fun n => Eq.refl _)
        exact ev_b 0 (zx5 _ (Option.some.inj zh6).symm (.int v1)) (fun n => Eq.refl _)
      · have zh6 := itn zh6 zc8
        suffices e : Ev (d + 0, 0, 0, 180, 27, [.val (.ref 832), .val (.int p1), .val (.int v1)], [], (126, 120, L, [Y, T, H2, H, RA, RB, ST, NS, I0, I1, I2, BO, FI, RG, GU, PU, MA, MN, MS, OT, SC], [r0, r1, r2, r3, w, 256, r6, r7, r8], Lg)) o from ev_f (c := (H 0 3) ≤ v1) _ _ 2  zc8 e (fun n => Eq.refl _)
        by_cases zc9 : ((a_shr p1 v1) &&& 1) = 0
        · have zh6 := itp zh6 zc9
          suffices e : Ev (d + 0, 0, 0, 180, 48, [.val (.ref 832), .val (.int p1), .val (.int v1)], [], (126, 120, L, [Y, T, H2, H, RA, RB, ST, NS, I0, I1, I2, BO, FI, RG, GU, PU, MA, MN, MS, OT, SC], [r0, r1, r2, r3, w, 256, r6, r7, r8], Lg)) o from ev_t (c := ((a_shr p1 v1) &&& 1) = 0) _ _ 6  zc9 e (fun n => Eq.refl _)
          exact ev_b 2 (zi4 _ (Option.some.inj zh6).symm ()) (fun n => Eq.refl _)
        · have zh6 := itn zh6 zc9
          suffices e : Ev (d + 0, 0, 0, 180, 35, [.val (.ref 832), .val (.int p1), .val (.int v1)], [], (126, 120, L, [Y, T, H2, H, RA, RB, ST, NS, I0, I1, I2, BO, FI, RG, GU, PU, MA, MN, MS, OT, SC], [r0, r1, r2, r3, w, 256, r6, r7, r8], Lg)) o from ev_f (c := ((a_shr p1 v1) &&& 1) = 0) _ _ 6  zc9 e (fun n => Eq.refl _)
          obtain ⟨x2, zh10, zh6⟩ := bnd zh6
          have zh10 : rdx (FI 3) 10 v1 = some x2 := zh10
          suffices e : Ev (d + 0, 0, 0, 180, 41, [.val (.ref 832), .val (.int p1), .val (.int v1)], [.int x2], (126, 120, L, [Y, T, H2, H, RA, RB, ST, NS, I0, I1, I2, BO, FI, RG, GU, PU, MA, MN, MS, OT, SC], [r0, r1, r2, r3, w, 256, r6, r7, r8], Lg)) o from ev_opt (fun x2 => (d + 0, 0, 0, 180, 41, [.val (.ref 832), .val (.int p1), .val (.int v1)], [.int x2], (126, 120, L, [Y, T, H2, H, RA, RB, ST, NS, I0, I1, I2, BO, FI, RG, GU, PU, MA, MN, MS, OT, SC], [r0, r1, r2, r3, w, 256, r6, r7, r8], Lg))) 4 zh10 e (fun n => Eq.refl _)
          by_cases zc11 : (x2 &&& p1) = 0
          · have zh6 := itp zh6 zc11
            suffices e : Ev (d + 0, 0, 0, 180, 48, [.val (.ref 832), .val (.int p1), .val (.int v1)], [], (126, 120, L, [Y, T, H2, H, RA, RB, ST, NS, I0, I1, I2, BO, FI, RG, GU, PU, MA, MN, MS, OT, SC], [r0, r1, r2, r3, w, 256, r6, r7, r8], Lg)) o from ev_t (c := (x2 &&& p1) = 0) _ _ 3  zc11 e (fun n => Eq.refl _)
            exact ev_b 2 (zi4 _ (Option.some.inj zh6).symm ()) (fun n => Eq.refl _)
          · have zh6 := itn zh6 zc11
            suffices e : Ev (d + 0, 0, 0, 180, 46, [.val (.ref 832), .val (.int p1), .val (.int v1)], [], (126, 120, L, [Y, T, H2, H, RA, RB, ST, NS, I0, I1, I2, BO, FI, RG, GU, PU, MA, MN, MS, OT, SC], [r0, r1, r2, r3, w, 256, r6, r7, r8], Lg)) o from ev_f (c := (x2 &&& p1) = 0) _ _ 3  zc11 e (fun n => Eq.refl _)
            exact ev_rete 2 (zx5 _ (Option.some.inj zh6).symm) (fun n => Eq.refl _)
    · rcases zb2 with ⟨⟩ | zr7
      · intro s3
        have ze12 := Option.some.inj h
        subst ze12
        exact ev_rete 2 ho (fun n => Eq.refl _)
      · have zh13 : some zr7 = some r := h
        exact (congrArg (fun q => ((0, some (.int q), (126, 120, L, [Y, T, H2, H, RA, RB, ST, NS, I0, I1, I2, BO, FI, RG, GU, PU, MA, MN, MS, OT, SC], [r0, r1, r2, r3, w, 256, r6, r7, r8], Lg)) : AOut)) (Option.some.inj zh13)).trans ho
  · have h := itn h zc1
    suffices e : Ev (d + 0, 0, 0, 180, 9, [.val (.ref 832), .val (.int p1), .val a_unk], [], (126, 120, L, [Y, T, H2, H, RA, RB, ST, NS, I0, I1, I2, BO, FI, RG, GU, PU, MA, MN, MS, OT, SC], [r0, r1, r2, r3, w, 256, r6, r7, r8], Lg)) o from ev_f (c := ((FI 0 4) &&& p1) = 0) _ _ 5  zc1 e (fun n => Eq.refl _)
    have ze15 := Option.some.inj h
    subst ze15
    exact ev_rete 2 ho (fun n => Eq.refl _)
set_option maxRecDepth 1000000 in
set_option maxHeartbeats 4000000 in
theorem R_f_Fitter_listOthers_1 (d : Nat) (Y T H2 H RA RB ST NS I0 I1 I2 BO FI RG GU PU MA MN MS OT SC : Nat → Nat → Int32) (r0 r1 r2 r3 w r6 r7 r8 : Nat) (L : Nat) (Lg : Int64) (p1 : Int32) {r : (Nat → Nat → Int32)} (h : f_Fitter_listOthers H FI p1 = some r) : Ev (d + 0, 0, 0, 182, 0, [.val (.ref 832), .val (.int p1), .val a_unk], [], (126, 120, L, [Y, T, H2, H, RA, RB, ST, NS, I0, I1, I2, BO, FI, RG, GU, PU, MA, MN, MS, OT, SC], [r0, r1, r2, r3, w, 256, r6, r7, r8], Lg)) ((0, none, (126, 120, L, [Y, T, H2, H, RA, RB, ST, NS, I0, I1, I2, BO, r, RG, GU, PU, MA, MN, MS, OT, SC], [r0, r1, r2, r3, w, 256, r6, r7, r8], Lg)) : AOut) := by
  suffices key : ∀ o : AOut, ((0, none, (126, 120, L, [Y, T, H2, H, RA, RB, ST, NS, I0, I1, I2, BO, r, RG, GU, PU, MA, MN, MS, OT, SC], [r0, r1, r2, r3, w, 256, r6, r7, r8], Lg)) : AOut) = o → Ev (d + 0, 0, 0, 182, 0, [.val (.ref 832), .val (.int p1), .val a_unk], [], (126, 120, L, [Y, T, H2, H, RA, RB, ST, NS, I0, I1, I2, BO, FI, RG, GU, PU, MA, MN, MS, OT, SC], [r0, r1, r2, r3, w, 256, r6, r7, r8], Lg)) o from key _ rfl
  intro o ho
  obtain ⟨FI_5, zh2, h⟩ := bnd h
  suffices e : Ev (d + 0, 0, 0, 182, 7, [.val (.ref 832), .val (.int p1), .val (.int 0)], [], (126, 120, L, [Y, T, H2, H, RA, RB, ST, NS, I0, I1, I2, BO, (u2 FI 0 6 0), RG, GU, PU, MA, MN, MS, OT, SC], [r0, r1, r2, r3, w, 256, r6, r7, r8], Lg)) o from ev_b 5 e (fun n => Eq.refl _)
  refine ev_loop (δ := Unit) (fun a j => (d + 0, 0, 0, 182, 7, [.val (.ref 832), .val (.int p1), .val (.int a.1)], [], (126, 120, L, [Y, T, H2, H, RA, RB, ST, NS, I0, I1, I2, BO, a.2, RG, GU, PU, MA, MN, MS, OT, SC], [r0, r1, r2, r3, w, 256, r6, r7, r8], Lg))) (fun b => ∀ s4 : Value, Ev (d + 0, 0, 0, 182, 63, [.val (.ref 832), .val (.int p1), .val s4], [], (126, 120, L, [Y, T, H2, H, RA, RB, ST, NS, I0, I1, I2, BO, b, RG, GU, PU, MA, MN, MS, OT, SC], [r0, r1, r2, r3, w, 256, r6, r7, r8], Lg)) o) ?_ a_F (0, (u2 FI 0 6 0)) FI_5 zh2 ?_ ()
  · rintro ⟨v1, FI_2⟩ zr6 zh5 zi3 zx4 ⟨⟩
    have zh5 : f_Fitter_listOthers_l7 H p1 v1 FI_2 = some zr6 := zh5
    suffices e : Ev (d + 0, 0, 0, 182, 15, [.val (.ref 832), .val (.int p1), .val (.int v1)], [.ref 256, .int v1], (126, 120, L, [Y, T, H2, H, RA, RB, ST, NS, I0, I1, I2, BO, FI_2, RG, GU, PU, MA, MN, MS, OT, SC], [r0, r1, r2, r3, w, 256, r6, r7, r8], Lg)) o from ev_b 4 e (fun n => Eq.refl _)
    by_cases zc7 : (H 0 3) ≤ v1
    · have zh5 := itp zh5 zc7
      suffices e : Ev (d + 0, 0, 0, 182, 63, [.val (.ref 832), .val (.int p1), .val (.int v1)], [], (126, 120, L, [Y, T, H2, H, RA, RB, ST, NS, I0, I1, I2, BO, FI_2, RG, GU, PU, MA, MN, MS, OT, SC], [r0, r1, r2, r3, w, 256, r6, r7, r8], Lg)) o from ev_t (c := (H 0 3) ≤ v1) _ _ 2  zc7 e (fun n => Eq.refl _)
      exact ev_b 0 (zx4 _ (Option.some.inj zh5).symm (.int v1)) (fun n => Eq.refl _)
    · have zh5 := itn zh5 zc7
      suffices e : Ev (d + 0, 0, 0, 182, 21, [.val (.ref 832), .val (.int p1), .val (.int v1)], [], (126, 120, L, [Y, T, H2, H, RA, RB, ST, NS, I0, I1, I2, BO, FI_2, RG, GU, PU, MA, MN, MS, OT, SC], [r0, r1, r2, r3, w, 256, r6, r7, r8], Lg)) o from ev_f (c := (H 0 3) ≤ v1) _ _ 2  zc7 e (fun n => Eq.refl _)
      by_cases zc8 : ((a_shr p1 v1) &&& 1) = 0
      · have zh5 := itp zh5 zc8
        suffices e : Ev (d + 0, 0, 0, 182, 57, [.val (.ref 832), .val (.int p1), .val (.int v1)], [], (126, 120, L, [Y, T, H2, H, RA, RB, ST, NS, I0, I1, I2, BO, FI_2, RG, GU, PU, MA, MN, MS, OT, SC], [r0, r1, r2, r3, w, 256, r6, r7, r8], Lg)) o from ev_t (c := ((a_shr p1 v1) &&& 1) = 0) _ _ 6  zc8 e (fun n => Eq.refl _)
        exact ev_b 2 (zi3 _ (Option.some.inj zh5).symm ()) (fun n => Eq.refl _)
      · have zh5 := itn zh5 zc8
        suffices e : Ev (d + 0, 0, 0, 182, 29, [.val (.ref 832), .val (.int p1), .val (.int v1)], [], (126, 120, L, [Y, T, H2, H, RA, RB, ST, NS, I0, I1, I2, BO, FI_2, RG, GU, PU, MA, MN, MS, OT, SC], [r0, r1, r2, r3, w, 256, r6, r7, r8], Lg)) o from ev_f (c := ((a_shr p1 v1) &&& 1) = 0) _ _ 6  zc8 e (fun n => Eq.refl _)
        by_cases zc9 : 3 ≤ (FI_2 0 6)
        · have zh5 := itp zh5 zc9
          suffices e : Ev (d + 0, 0, 0, 182, 57, [.val (.ref 832), .val (.int p1), .val (.int v1)], [], (126, 120, L, [Y, T, H2, H, RA, RB, ST, NS, I0, I1, I2, BO, FI_2, RG, GU, PU, MA, MN, MS, OT, SC], [r0, r1, r2, r3, w, 256, r6, r7, r8], Lg)) o from ev_t (c := 3 ≤ (FI_2 0 6)) _ _ 4  zc9 e (fun n => Eq.refl _)
          exact ev_b 2 (zi3 _ (Option.some.inj zh5).symm ()) (fun n => Eq.refl _)
        · have zh5 := itn zh5 zc9
          suffices e : Ev (d + 0, 0, 0, 182, 37, [.val (.ref 832), .val (.int p1), .val (.int v1)], [], (126, 120, L, [Y, T, H2, H, RA, RB, ST, NS, I0, I1, I2, BO, FI_2, RG, GU, PU, MA, MN, MS, OT, SC], [r0, r1, r2, r3, w, 256, r6, r7, r8], Lg)) o from ev_f (c := 3 ≤ (FI_2 0 6)) _ _ 4  zc9 e (fun n => Eq.refl _)
          obtain ⟨j3, zh10, zh5⟩ := bnd zh5
          have zh10 : ixx 3 (FI_2 0 6) = some j3 := zh10
          suffices e : Ev (d + 0, 0, 0, 182, 47, [.val (.ref 832), .val (.int p1), .val (.int v1)], [], (126, 120, L, [Y, T, H2, H, RA, RB, ST, NS, I0, I1, I2, BO, (u2 FI_2 4 j3 v1), RG, GU, PU, MA, MN, MS, OT, SC], [r0, r1, r2, r3, w, 256, r6, r7, r8], Lg)) o from ev_opt (fun j3 => (d + 0, 0, 0, 182, 47, [.val (.ref 832), .val (.int p1), .val (.int v1)], [], (126, 120, L, [Y, T, H2, H, RA, RB, ST, NS, I0, I1, I2, BO, (u2 FI_2 4 j3 v1), RG, GU, PU, MA, MN, MS, OT, SC], [r0, r1, r2, r3, w, 256, r6, r7, r8], Lg))) 6 zh10 e (fun n => Eq.refl _)
          exact ev_b 8 (zi3 _ (Option.some.inj zh5).symm ()) (fun n => Eq.refl _)
  · skip
    intro s4
    have ze11 := Option.some.inj h
    subst ze11
    exact ev_rete 1 ho (fun n => Eq.refl _)
set_option maxRecDepth 1000000 in
set_option maxHeartbeats 4000000 in
theorem R_f_House_costOf_1 (d : Nat) (Y T H2 H RA RB ST NS I0 I1 I2 BO FI RG GU PU MA MN MS OT SC : Nat → Nat → Int32) (r0 r1 r2 r3 w r5 r6 r7 r8 : Nat) (L : Nat) (Lg : Int64) (p1 : Int32) {r : Int32} (h : f_House_costOf H p1 = some r) : Ev (d + 1, 0, 0, 223, 0, [.val (.ref 256), .val (.int p1), .val a_unk, .val a_unk], [], (126, 120, L, [Y, T, H2, H, RA, RB, ST, NS, I0, I1, I2, BO, FI, RG, GU, PU, MA, MN, MS, OT, SC], [r0, r1, r2, r3, w, r5, r6, r7, r8], Lg)) ((0, some (.int r), (126, 120, L, [Y, T, H2, H, RA, RB, ST, NS, I0, I1, I2, BO, FI, RG, GU, PU, MA, MN, MS, OT, SC], [r0, r1, r2, r3, w, r5, r6, r7, r8], Lg)) : AOut) := by
  suffices key : ∀ o : AOut, ((0, some (.int r), (126, 120, L, [Y, T, H2, H, RA, RB, ST, NS, I0, I1, I2, BO, FI, RG, GU, PU, MA, MN, MS, OT, SC], [r0, r1, r2, r3, w, r5, r6, r7, r8], Lg)) : AOut) = o → Ev (d + 1, 0, 0, 223, 0, [.val (.ref 256), .val (.int p1), .val a_unk, .val a_unk], [], (126, 120, L, [Y, T, H2, H, RA, RB, ST, NS, I0, I1, I2, BO, FI, RG, GU, PU, MA, MN, MS, OT, SC], [r0, r1, r2, r3, w, r5, r6, r7, r8], Lg)) o from key _ rfl
  intro o ho
  obtain ⟨x1, zh1, h⟩ := bnd h
  have zh1 : rdx (H 7) 10 p1 = some x1 := zh1
  suffices e : Ev (d + 1, 0, 0, 223, 6, [.val (.ref 256), .val (.int p1), .val a_unk, .val a_unk], [.int x1], (126, 120, L, [Y, T, H2, H, RA, RB, ST, NS, I0, I1, I2, BO, FI, RG, GU, PU, MA, MN, MS, OT, SC], [r0, r1, r2, r3, w, r5, r6, r7, r8], Lg)) o from ev_opt (fun x1 => (d + 1, 0, 0, 223, 6, [.val (.ref 256), .val (.int p1), .val a_unk, .val a_unk], [.int x1], (126, 120, L, [Y, T, H2, H, RA, RB, ST, NS, I0, I1, I2, BO, FI, RG, GU, PU, MA, MN, MS, OT, SC], [r0, r1, r2, r3, w, r5, r6, r7, r8], Lg))) 4 zh1 e (fun n => Eq.refl _)
  obtain ⟨v6, zh3, h⟩ := bnd h
  suffices e : Ev (d + 1, 0, 0, 223, 9, [.val (.ref 256), .val (.int p1), .val (.int x1), .val (.int 0)], [], (126, 120, L, [Y, T, H2, H, RA, RB, ST, NS, I0, I1, I2, BO, FI, RG, GU, PU, MA, MN, MS, OT, SC], [r0, r1, r2, r3, w, r5, r6, r7, r8], Lg)) o from ev_b 3 e (fun n => Eq.refl _)
  refine ev_loop (δ := Unit) (fun a j => (d + 1, 0, 0, 223, 9, [.val (.ref 256), .val (.int p1), .val (.int a.1), .val (.int a.2)], [], (126, 120, L, [Y, T, H2, H, RA, RB, ST, NS, I0, I1, I2, BO, FI, RG, GU, PU, MA, MN, MS, OT, SC], [r0, r1, r2, r3, w, r5, r6, r7, r8], Lg))) (fun b => ∀ s7 : Value, Ev (d + 1, 0, 0, 223, 41, [.val (.ref 256), .val (.int p1), .val (.int b), .val s7], [], (126, 120, L, [Y, T, H2, H, RA, RB, ST, NS, I0, I1, I2, BO, FI, RG, GU, PU, MA, MN, MS, OT, SC], [r0, r1, r2, r3, w, r5, r6, r7, r8], Lg)) o) ?_ a_F (x1, 0) v6 zh3 ?_ ()
  · rintro ⟨v2, v3⟩ zr7 zh6 zi4 zx5 ⟨⟩
    have zh6 : f_House_costOf_l9 H p1 v2 v3 = some zr7 := zh6
    by_cases zc8 : (H 0 2) ≤ v3
    · have zh6 := itp zh6 zc8
      suffices e : Ev (d + 1, 0, 0, 223, 41, [.val (.ref 256), .val (.int p1), .val (.int v2), .val (.int v3)], [], (126, 120, L, [Y, T, H2, H, RA, RB, ST, NS, I0, I1, I2, BO, FI, RG, GU, PU, MA, MN, MS, OT, SC], [r0, r1, r2, r3, w, r5, r6, r7, r8], Lg)) o from ev_t (c := (H 0 2) ≤ v3) _ _ 4  zc8 e (fun n => Eq.refl _)
      exact ev_b 0 (zx5 _ (Option.some.inj zh6).symm (.int v3)) (fun n => Eq.refl _)
    · have zh6 := itn zh6 zc8
      suffices e : Ev (d + 1, 0, 0, 223, 17, [.val (.ref 256), .val (.int p1), .val (.int v2), .val (.int v3)], [], (126, 120, L, [Y, T, H2, H, RA, RB, ST, NS, I0, I1, I2, BO, FI, RG, GU, PU, MA, MN, MS, OT, SC], [r0, r1, r2, r3, w, r5, r6, r7, r8], Lg)) o from ev_f (c := (H 0 2) ≤ v3) _ _ 4  zc8 e (fun n => Eq.refl _)
      obtain ⟨x4, zh9, zh6⟩ := bnd zh6
      have zh9 : f_House_isMember H p1 v3 = some x4 := zh9
      have ze10 := R_f_House_isMember_1 (d + 0) Y T H2 H RA RB ST NS I0 I1 I2 BO FI RG GU PU MA MN MS OT SC r0 r1 r2 r3 w r5 r6 r7 r8 L Lg p1 v3 zh9
      suffices e : Ev (d + 1, 0, 0, 223, 23, [.val (.ref 256), .val (.int p1), .val (.int v2), .val (.int v3)], [.int x4], (126, 120, L, [Y, T, H2, H, RA, RB, ST, NS, I0, I1, I2, BO, FI, RG, GU, PU, MA, MN, MS, OT, SC], [r0, r1, r2, r3, w, r5, r6, r7, r8], Lg)) o from ev_call (fun v μ => (d + 1, 0, 0, 223, 23, [.val (.ref 256), .val (.int p1), .val (.int v2), .val (.int v3)], v.toList ++ [], μ)) 4 ze10 e (fun n => Eq.refl _)
      by_cases zc11 : x4 = 0
      · have zh6 := itp zh6 zc11
        suffices e : Ev (d + 1, 0, 0, 223, 35, [.val (.ref 256), .val (.int p1), .val (.int v2), .val (.int v3)], [], (126, 120, L, [Y, T, H2, H, RA, RB, ST, NS, I0, I1, I2, BO, FI, RG, GU, PU, MA, MN, MS, OT, SC], [r0, r1, r2, r3, w, r5, r6, r7, r8], Lg)) o from ev_t (c := x4 = 0) _ _ 1  zc11 e (fun n => Eq.refl _)
        exact ev_b 2 (zi4 _ (Option.some.inj zh6).symm ()) (fun n => Eq.refl _)
      · have zh6 := itn zh6 zc11
        suffices e : Ev (d + 1, 0, 0, 223, 26, [.val (.ref 256), .val (.int p1), .val (.int v2), .val (.int v3)], [], (126, 120, L, [Y, T, H2, H, RA, RB, ST, NS, I0, I1, I2, BO, FI, RG, GU, PU, MA, MN, MS, OT, SC], [r0, r1, r2, r3, w, r5, r6, r7, r8], Lg)) o from ev_f (c := x4 = 0) _ _ 1  zc11 e (fun n => Eq.refl _)
        obtain ⟨x5, zh12, zh6⟩ := bnd zh6
        have zh12 : rdx (H 2) 8 v3 = some x5 := zh12
        suffices e : Ev (d + 1, 0, 0, 223, 33, [.val (.ref 256), .val (.int p1), .val (.int v2), .val (.int v3)], [.int x5, .int v2], (126, 120, L, [Y, T, H2, H, RA, RB, ST, NS, I0, I1, I2, BO, FI, RG, GU, PU, MA, MN, MS, OT, SC], [r0, r1, r2, r3, w, r5, r6, r7, r8], Lg)) o from ev_opt (fun x5 => (d + 1, 0, 0, 223, 33, [.val (.ref 256), .val (.int p1), .val (.int v2), .val (.int v3)], [.int x5, .int v2], (126, 120, L, [Y, T, H2, H, RA, RB, ST, NS, I0, I1, I2, BO, FI, RG, GU, PU, MA, MN, MS, OT, SC], [r0, r1, r2, r3, w, r5, r6, r7, r8], Lg))) 5 zh12 e (fun n => Eq.refl _)
        exact ev_b 4 (zi4 _ (Option.some.inj zh6).symm ()) (fun n => Eq.refl _)
  · skip
    intro s7
    have ze13 := Option.some.inj h
    subst ze13
    exact ev_rete 2 ho (fun n => Eq.refl _)
set_option maxRecDepth 1000000 in
set_option maxHeartbeats 4000000 in
theorem R_f_Fitter_findOpen_1 (d : Nat) (Y T H2 H RA RB ST NS I0 I1 I2 BO FI RG GU PU MA MN MS OT SC : Nat → Nat → Int32) (r0 r1 r2 r3 w r6 r7 r8 : Nat) (L : Nat) (Lg : Int64) (p1 : Int32) {r : Int32 × (Nat → Nat → Int32)} (h : f_Fitter_findOpen H BO FI p1 = some r) : Ev (d + 2, 0, 0, 185, 0, [.val (.ref 832), .val (.int p1), .val a_unk, .val a_unk, .val a_unk, .val a_unk], [], (126, 120, L, [Y, T, H2, H, RA, RB, ST, NS, I0, I1, I2, BO, FI, RG, GU, PU, MA, MN, MS, OT, SC], [r0, r1, r2, r3, w, 256, r6, r7, r8], Lg)) ((0, some (.int r.1), (126, 120, L, [Y, T, H2, H, RA, RB, ST, NS, I0, I1, I2, BO, r.2, RG, GU, PU, MA, MN, MS, OT, SC], [r0, r1, r2, r3, w, 256, r6, r7, r8], Lg)) : AOut) := by
  suffices key : ∀ o : AOut, ((0, some (.int r.1), (126, 120, L, [Y, T, H2, H, RA, RB, ST, NS, I0, I1, I2, BO, r.2, RG, GU, PU, MA, MN, MS, OT, SC], [r0, r1, r2, r3, w, 256, r6, r7, r8], Lg)) : AOut) = o → Ev (d + 2, 0, 0, 185, 0, [.val (.ref 832), .val (.int p1), .val a_unk, .val a_unk, .val a_unk, .val a_unk], [], (126, 120, L, [Y, T, H2, H, RA, RB, ST, NS, I0, I1, I2, BO, FI, RG, GU, PU, MA, MN, MS, OT, SC], [r0, r1, r2, r3, w, 256, r6, r7, r8], Lg)) o from key _ rfl
  intro o ho
  by_cases zc1 : (FI 0 6) ≤ p1
  · have h := itp h zc1
    suffices e : Ev (d + 2, 0, 0, 185, 13, [.val (.ref 832), .val (.int p1), .val a_unk, .val a_unk, .val a_unk, .val a_unk], [], (126, 120, L, [Y, T, H2, H, RA, RB, ST, NS, I0, I1, I2, BO, FI, RG, GU, PU, MA, MN, MS, OT, SC], [r0, r1, r2, r3, w, 256, r6, r7, r8], Lg)) o from ev_t (c := (FI 0 6) ≤ p1) _ _ 4  zc1 e (fun n => Eq.refl _)
    have ze2 := Option.some.inj h
    subst ze2
    exact ev_rete 2 ho (fun n => Eq.refl _)
  · have h := itn h zc1
    suffices e : Ev (d + 2, 0, 0, 185, 8, [.val (.ref 832), .val (.int p1), .val a_unk, .val a_unk, .val a_unk, .val a_unk], [], (126, 120, L, [Y, T, H2, H, RA, RB, ST, NS, I0, I1, I2, BO, FI, RG, GU, PU, MA, MN, MS, OT, SC], [r0, r1, r2, r3, w, 256, r6, r7, r8], Lg)) o from ev_f (c := (FI 0 6) ≤ p1) _ _ 4  zc1 e (fun n => Eq.refl _)
    by_cases zc3 : p1 < 3
    · have h := itp h zc3
      suffices e : Ev (d + 2, 0, 0, 185, 15, [.val (.ref 832), .val (.int p1), .val a_unk, .val a_unk, .val a_unk, .val a_unk], [], (126, 120, L, [Y, T, H2, H, RA, RB, ST, NS, I0, I1, I2, BO, FI, RG, GU, PU, MA, MN, MS, OT, SC], [r0, r1, r2, r3, w, 256, r6, r7, r8], Lg)) o from ev_t (c := p1 < 3) _ _ 3  zc3 e (fun n => Eq.refl _)
      obtain ⟨x1, zh4, h⟩ := bnd h
      have zh4 : rdx (FI 4) 3 p1 = some x1 := zh4
      suffices e : Ev (d + 2, 0, 0, 185, 21, [.val (.ref 832), .val (.int p1), .val a_unk, .val a_unk, .val a_unk, .val a_unk], [.int x1], (126, 120, L, [Y, T, H2, H, RA, RB, ST, NS, I0, I1, I2, BO, FI, RG, GU, PU, MA, MN, MS, OT, SC], [r0, r1, r2, r3, w, 256, r6, r7, r8], Lg)) o from ev_opt (fun x1 => (d + 2, 0, 0, 185, 21, [.val (.ref 832), .val (.int p1), .val a_unk, .val a_unk, .val a_unk, .val a_unk], [.int x1], (126, 120, L, [Y, T, H2, H, RA, RB, ST, NS, I0, I1, I2, BO, FI, RG, GU, PU, MA, MN, MS, OT, SC], [r0, r1, r2, r3, w, 256, r6, r7, r8], Lg))) 4 zh4 e (fun n => Eq.refl _)
      obtain ⟨zb5, zh6, h⟩ := bnd h
      suffices e : Ev (d + 2, 0, 0, 185, 27, [.val (.ref 832), .val (.int p1), .val (.int x1), .val (.int 0), .val (.int 0), .val a_unk], [], (126, 120, L, [Y, T, H2, H, RA, RB, ST, NS, I0, I1, I2, BO, FI, RG, GU, PU, MA, MN, MS, OT, SC], [r0, r1, r2, r3, w, 256, r6, r7, r8], Lg)) o from ev_b 5 e (fun n => Eq.refl _)
      refine ev_loop (δ := Value) (fun a j => (d + 2, 0, 0, 185, 27, [.val (.ref 832), .val (.int p1), .val (.int x1), .val (.int a.1), .val (.int a.2.1), .val j], [], (126, 120, L, [Y, T, H2, H, RA, RB, ST, NS, I0, I1, I2, BO, a.2.2, RG, GU, PU, MA, MN, MS, OT, SC], [r0, r1, r2, r3, w, 256, r6, r7, r8], Lg))) (fun b => ∀ s14 : Value, ∀ s15 : Value, Ev (d + 2, 0, 0, 185, 110, [.val (.ref 832), .val (.int p1), .val (.int x1), .val (.int b.1), .val s14, .val s15], [], (126, 120, L, [Y, T, H2, H, RA, RB, ST, NS, I0, I1, I2, BO, b.2, RG, GU, PU, MA, MN, MS, OT, SC], [r0, r1, r2, r3, w, 256, r6, r7, r8], Lg)) o) ?_ a_F (0, 0, FI) zb5 zh6 ?_ a_unk
      · rintro ⟨v2, v3, FI_5⟩ zr10 zh9 zi7 zx8 s4
        have zh9 : f_Fitter_findOpen_l27 H BO x1 p1 v2 v3 FI_5 = some zr10 := zh9
        suffices e : Ev (d + 2, 0, 0, 185, 36, [.val (.ref 832), .val (.int p1), .val (.int x1), .val (.int v2), .val (.int v3), .val s4], [.ref 256, .int v3], (126, 120, L, [Y, T, H2, H, RA, RB, ST, NS, I0, I1, I2, BO, FI_5, RG, GU, PU, MA, MN, MS, OT, SC], [r0, r1, r2, r3, w, 256, r6, r7, r8], Lg)) o from ev_b 4 e (fun n => Eq.refl _)
        by_cases zc11 : (H 0 1) ≤ v3
        · have zh9 := itp zh9 zc11
          suffices e : Ev (d + 2, 0, 0, 185, 110, [.val (.ref 832), .val (.int p1), .val (.int x1), .val (.int v2), .val (.int v3), .val s4], [], (126, 120, L, [Y, T, H2, H, RA, RB, ST, NS, I0, I1, I2, BO, FI_5, RG, GU, PU, MA, MN, MS, OT, SC], [r0, r1, r2, r3, w, 256, r6, r7, r8], Lg)) o from ev_t (c := (H 0 1) ≤ v3) _ _ 2  zc11 e (fun n => Eq.refl _)
          exact ev_b 0 (zx8 _ (Option.some.inj zh9).symm (.int v3) s4) (fun n => Eq.refl _)
        · have zh9 := itn zh9 zc11
          suffices e : Ev (d + 2, 0, 0, 185, 42, [.val (.ref 832), .val (.int p1), .val (.int x1), .val (.int v2), .val (.int v3), .val s4], [], (126, 120, L, [Y, T, H2, H, RA, RB, ST, NS, I0, I1, I2, BO, FI_5, RG, GU, PU, MA, MN, MS, OT, SC], [r0, r1, r2, r3, w, 256, r6, r7, r8], Lg)) o from ev_f (c := (H 0 1) ≤ v3) _ _ 2  zc11 e (fun n => Eq.refl _)
          obtain ⟨x6, zh12, zh9⟩ := bnd zh9
          have zh12 : f_Board_openHours H BO x1 v3 = some x6 := zh12
          have ze13 := R_f_Board_openHours_1 (d + 0) Y T H2 H RA RB ST NS I0 I1 I2 BO FI_5 RG GU PU MA MN MS OT SC r0 r1 r2 r3 w r6 r7 r8 L Lg x1 v3 zh12
          suffices e : Ev (d + 2, 0, 0, 185, 52, [.val (.ref 832), .val (.int p1), .val (.int x1), .val (.int v2), .val (.int v3), .val s4], [.int x6], (126, 120, L, [Y, T, H2, H, RA, RB, ST, NS, I0, I1, I2, BO, FI_5, RG, GU, PU, MA, MN, MS, OT, SC], [r0, r1, r2, r3, w, 256, r6, r7, r8], Lg)) o from ev_call (fun v μ => (d + 2, 0, 0, 185, 52, [.val (.ref 832), .val (.int p1), .val (.int x1), .val (.int v2), .val (.int v3), .val s4], v.toList ++ [], μ)) 5 ze13 e (fun n => Eq.refl _)
          obtain ⟨x7, zh14, zh9⟩ := bnd zh9
          have zh14 : rdx (FI_5 1) 10 x1 = some x7 := zh14
          suffices e : Ev (d + 2, 0, 0, 185, 60, [.val (.ref 832), .val (.int p1), .val (.int x1), .val (.int v2), .val (.int v3), .val (.int x6)], [.int x7], (126, 120, L, [Y, T, H2, H, RA, RB, ST, NS, I0, I1, I2, BO, FI_5, RG, GU, PU, MA, MN, MS, OT, SC], [r0, r1, r2, r3, w, 256, r6, r7, r8], Lg)) o from ev_opt (fun x7 => (d + 2, 0, 0, 185, 60, [.val (.ref 832), .val (.int p1), .val (.int x1), .val (.int v2), .val (.int v3), .val (.int x6)], [.int x7], (126, 120, L, [Y, T, H2, H, RA, RB, ST, NS, I0, I1, I2, BO, FI_5, RG, GU, PU, MA, MN, MS, OT, SC], [r0, r1, r2, r3, w, 256, r6, r7, r8], Lg))) 5 zh14 e (fun n => Eq.refl _)
          obtain ⟨x8, zh15, zh9⟩ := bnd zh9
          have zh15 : f_Y_roomOf x7 = some x8 := zh15
          have ze16 := R_f_Y_roomOf_0 (d + 1) Y T H2 H RA RB ST NS I0 I1 I2 BO FI_5 RG GU PU MA MN MS OT SC r0 r1 r2 r3 w 256 r6 r7 r8 L Lg x7 zh15
          suffices e : Ev (d + 2, 0, 0, 185, 63, [.val (.ref 832), .val (.int p1), .val (.int x1), .val (.int v2), .val (.int v3), .val (.int x6)], [.int x8], (126, 120, L, [Y, T, H2, H, RA, RB, ST, NS, I0, I1, I2, BO, FI_5, RG, GU, PU, MA, MN, MS, OT, SC], [r0, r1, r2, r3, w, 256, r6, r7, r8], Lg)) o from ev_call (fun v μ => (d + 2, 0, 0, 185, 63, [.val (.ref 832), .val (.int p1), .val (.int x1), .val (.int v2), .val (.int v3), .val (.int x6)], v.toList ++ [], μ)) 1 ze16 e (fun n => Eq.refl _)
          obtain ⟨zt17, zh18, zh9⟩ := bnd zh9
          have zj19 : ∀ (v11 : Int32), v11 = zt17 → Ev (d + 2, 0, 0, 185, 86, [.val (.ref 832), .val (.int p1), .val (.int x1), .val (.int v2), .val (.int v3), .val (.int v11)], [], (126, 120, L, [Y, T, H2, H, RA, RB, ST, NS, I0, I1, I2, BO, FI_5, RG, GU, PU, MA, MN, MS, OT, SC], [r0, r1, r2, r3, w, 256, r6, r7, r8], Lg)) o := by
            intro v11 ze20
            subst ze20
            obtain ⟨j12, zh21, zh9⟩ := bnd zh9
            have zh21 : ixx 9 ((p1 * 3) + v3) = some j12 := zh21
            suffices e : Ev (d + 2, 0, 0, 185, 99, [.val (.ref 832), .val (.int p1), .val (.int x1), .val (.int v2), .val (.int v3), .val (.int v11)], [], (126, 120, L, [Y, T, H2, H, RA, RB, ST, NS, I0, I1, I2, BO, (u2 FI_5 5 j12 v11), RG, GU, PU, MA, MN, MS, OT, SC], [r0, r1, r2, r3, w, 256, r6, r7, r8], Lg)) o from ev_opt (fun j12 => (d + 2, 0, 0, 185, 99, [.val (.ref 832), .val (.int p1), .val (.int x1), .val (.int v2), .val (.int v3), .val (.int v11)], [], (126, 120, L, [Y, T, H2, H, RA, RB, ST, NS, I0, I1, I2, BO, (u2 FI_5 5 j12 v11), RG, GU, PU, MA, MN, MS, OT, SC], [r0, r1, r2, r3, w, 256, r6, r7, r8], Lg))) 9 zh21 e (fun n => Eq.refl _)
            exact ev_b 6 (zi7 _ (Option.some.inj zh9).symm (.int v11)) (fun n => Eq.refl _)
          by_cases zc22 : x8 ≠ v3
          · have zh18 := itp zh18 zc22
            suffices e : Ev (d + 2, 0, 0, 185, 86, [.val (.ref 832), .val (.int p1), .val (.int x1), .val (.int v2), .val (.int v3), .val (.int x6)], [], (126, 120, L, [Y, T, H2, H, RA, RB, ST, NS, I0, I1, I2, BO, FI_5, RG, GU, PU, MA, MN, MS, OT, SC], [r0, r1, r2, r3, w, 256, r6, r7, r8], Lg)) o from ev_t (c := x8 ≠ v3) _ _ 2  zc22 e (fun n => Eq.refl _)
            exact ev_b 0 (zj19 x6 (Option.some.inj zh18) ) (fun n => Eq.refl _)
          · have zh18 := itn zh18 zc22
            suffices e : Ev (d + 2, 0, 0, 185, 68, [.val (.ref 832), .val (.int p1), .val (.int x1), .val (.int v2), .val (.int v3), .val (.int x6)], [], (126, 120, L, [Y, T, H2, H, RA, RB, ST, NS, I0, I1, I2, BO, FI_5, RG, GU, PU, MA, MN, MS, OT, SC], [r0, r1, r2, r3, w, 256, r6, r7, r8], Lg)) o from ev_f (c := x8 ≠ v3) _ _ 2  zc22 e (fun n => Eq.refl _)
            obtain ⟨x9, zh23, zh18⟩ := bnd zh18
            have zh23 : rdx (FI_5 1) 10 x1 = some x9 := zh23
            suffices e : Ev (d + 2, 0, 0, 185, 77, [.val (.ref 832), .val (.int p1), .val (.int x1), .val (.int v2), .val (.int v3), .val (.int x6)], [.int x9, .int 1, .int x6], (126, 120, L, [Y, T, H2, H, RA, RB, ST, NS, I0, I1, I2, BO, FI_5, RG, GU, PU, MA, MN, MS, OT, SC], [r0, r1, r2, r3, w, 256, r6, r7, r8], Lg)) o from ev_opt (fun x9 => (d + 2, 0, 0, 185, 77, [.val (.ref 832), .val (.int p1), .val (.int x1), .val (.int v2), .val (.int v3), .val (.int x6)], [.int x9, .int 1, .int x6], (126, 120, L, [Y, T, H2, H, RA, RB, ST, NS, I0, I1, I2, BO, FI_5, RG, GU, PU, MA, MN, MS, OT, SC], [r0, r1, r2, r3, w, 256, r6, r7, r8], Lg))) 6 zh23 e (fun n => Eq.refl _)
            obtain ⟨x10, zh24, zh18⟩ := bnd zh18
            have zh24 : f_Y_hourOf x9 = some x10 := zh24
            have ze25 := R_f_Y_hourOf_0 (d + 1) Y T H2 H RA RB ST NS I0 I1 I2 BO FI_5 RG GU PU MA MN MS OT SC r0 r1 r2 r3 w 256 r6 r7 r8 L Lg x9 zh24
            suffices e : Ev (d + 2, 0, 0, 185, 80, [.val (.ref 832), .val (.int p1), .val (.int x1), .val (.int v2), .val (.int v3), .val (.int x6)], [.int x10, .int 1, .int x6], (126, 120, L, [Y, T, H2, H, RA, RB, ST, NS, I0, I1, I2, BO, FI_5, RG, GU, PU, MA, MN, MS, OT, SC], [r0, r1, r2, r3, w, 256, r6, r7, r8], Lg)) o from ev_call (fun v μ => (d + 2, 0, 0, 185, 80, [.val (.ref 832), .val (.int p1), .val (.int x1), .val (.int v2), .val (.int v3), .val (.int x6)], v.toList ++ [.int 1, .int x6], μ)) 1 ze25 e (fun n => Eq.refl _)
            exact ev_b 5 (zj19 (x6 &&& ((a_shl 1 x10) ^^^ (-1))) (Option.some.inj zh18) ) (fun n => Eq.refl _)
      · obtain ⟨v13, FI_16⟩ := zb5
        intro s14 s15
        by_cases zc26 : v13 = 0
        · have h := itp h zc26
          suffices e : Ev (d + 2, 0, 0, 185, 118, [.val (.ref 832), .val (.int p1), .val (.int x1), .val (.int v13), .val s14, .val s15], [], (126, 120, L, [Y, T, H2, H, RA, RB, ST, NS, I0, I1, I2, BO, FI_16, RG, GU, PU, MA, MN, MS, OT, SC], [r0, r1, r2, r3, w, 256, r6, r7, r8], Lg)) o from ev_t (c := v13 = 0) _ _ 2  zc26 e (fun n => Eq.refl _)
          have ze27 := Option.some.inj h
          subst ze27
          exact ev_rete 2 ho (fun n => Eq.refl _)
        · have h := itn h zc26
          suffices e : Ev (d + 2, 0, 0, 185, 114, [.val (.ref 832), .val (.int p1), .val (.int x1), .val (.int v13), .val s14, .val s15], [], (126, 120, L, [Y, T, H2, H, RA, RB, ST, NS, I0, I1, I2, BO, FI_16, RG, GU, PU, MA, MN, MS, OT, SC], [r0, r1, r2, r3, w, 256, r6, r7, r8], Lg)) o from ev_f (c := v13 = 0) _ _ 2  zc26 e (fun n => Eq.refl _)
          have ze28 := Option.some.inj h
          subst ze28
          exact ev_rete 3 ho (fun n => Eq.refl _)
    · have h := itn h zc3
      suffices e : Ev (d + 2, 0, 0, 185, 13, [.val (.ref 832), .val (.int p1), .val a_unk, .val a_unk, .val a_unk, .val a_unk], [], (126, 120, L, [Y, T, H2, H, RA, RB, ST, NS, I0, I1, I2, BO, FI, RG, GU, PU, MA, MN, MS, OT, SC], [r0, r1, r2, r3, w, 256, r6, r7, r8], Lg)) o from ev_f (c := p1 < 3) _ _ 3  zc3 e (fun n => Eq.refl _)
      have ze29 := Option.some.inj h
      subst ze29
      exact ev_rete 2 ho (fun n => Eq.refl _)
set_option maxRecDepth 1000000 in
set_option maxHeartbeats 4000000 in
theorem R_f_Fitter_seat_B_1 (d : Nat) (rc : (Nat → (Nat → Nat → Int32) → (Nat → Nat → Int32) → (Nat → Nat → Int32) → Int32 → Option (Int32 × (Nat → Nat → Int32) × (Nat → Nat → Int32))))
    (zrc0 : ∀ (Y T H2 H RA RB ST NS I0 I1 I2 BO FI RG GU PU MA MN MS OT SC : Nat → Nat → Int32) (r0 r1 r2 r3 w r6 r7 r8 : Nat) (L : Nat) (Lg : Int64) (p1 : Int32) (r : Int32 × (Nat → Nat → Int32) × (Nat → Nat → Int32)), rc 0 H BO FI p1 = some r → Ev (d + 2, 0, 0, 186, 0, [.val (.ref 832), .val (.int p1), .val a_unk, .val a_unk, .val a_unk], [], (126, 120, L, [Y, T, H2, H, RA, RB, ST, NS, I0, I1, I2, BO, FI, RG, GU, PU, MA, MN, MS, OT, SC], [r0, r1, r2, r3, w, 256, r6, r7, r8], Lg)) ((0, some (.int r.1), (126, 120, L, [Y, T, H2, H, RA, RB, ST, NS, I0, I1, I2, r.2.1, r.2.2, RG, GU, PU, MA, MN, MS, OT, SC], [r0, r1, r2, r3, w, 256, r6, r7, r8], Lg)) : AOut))
    (Y T H2 H RA RB ST NS I0 I1 I2 BO FI RG GU PU MA MN MS OT SC : Nat → Nat → Int32) (r0 r1 r2 r3 w r6 r7 r8 : Nat) (L : Nat) (Lg : Int64) (p1 : Int32) {r : Int32 × (Nat → Nat → Int32) × (Nat → Nat → Int32)} (h : f_Fitter_seat_B rc H BO FI p1 = some r) : Ev (d + 3, 0, 0, 186, 0, [.val (.ref 832), .val (.int p1), .val a_unk, .val a_unk, .val a_unk], [], (126, 120, L, [Y, T, H2, H, RA, RB, ST, NS, I0, I1, I2, BO, FI, RG, GU, PU, MA, MN, MS, OT, SC], [r0, r1, r2, r3, w, 256, r6, r7, r8], Lg)) ((0, some (.int r.1), (126, 120, L, [Y, T, H2, H, RA, RB, ST, NS, I0, I1, I2, r.2.1, r.2.2, RG, GU, PU, MA, MN, MS, OT, SC], [r0, r1, r2, r3, w, 256, r6, r7, r8], Lg)) : AOut) := by
  suffices key : ∀ o : AOut, ((0, some (.int r.1), (126, 120, L, [Y, T, H2, H, RA, RB, ST, NS, I0, I1, I2, r.2.1, r.2.2, RG, GU, PU, MA, MN, MS, OT, SC], [r0, r1, r2, r3, w, 256, r6, r7, r8], Lg)) : AOut) = o → Ev (d + 3, 0, 0, 186, 0, [.val (.ref 832), .val (.int p1), .val a_unk, .val a_unk, .val a_unk], [], (126, 120, L, [Y, T, H2, H, RA, RB, ST, NS, I0, I1, I2, BO, FI, RG, GU, PU, MA, MN, MS, OT, SC], [r0, r1, r2, r3, w, 256, r6, r7, r8], Lg)) o from key _ rfl
  intro o ho
  by_cases zc1 : p1 < (FI 0 6)
  · have h := itp h zc1
    suffices e : Ev (d + 3, 0, 0, 186, 10, [.val (.ref 832), .val (.int p1), .val a_unk, .val a_unk, .val a_unk], [], (126, 120, L, [Y, T, H2, H, RA, RB, ST, NS, I0, I1, I2, BO, FI, RG, GU, PU, MA, MN, MS, OT, SC], [r0, r1, r2, r3, w, 256, r6, r7, r8], Lg)) o from ev_t (c := p1 < (FI 0 6)) _ _ 4  zc1 e (fun n => Eq.refl _)
    obtain ⟨⟨x1, FI_2⟩, zh2, h⟩ := bnd h
    have zh2 : f_Fitter_findOpen H BO FI p1 = some (x1, FI_2) := zh2
    have ze3 := R_f_Fitter_findOpen_1 (d + 0) Y T H2 H RA RB ST NS I0 I1 I2 BO FI RG GU PU MA MN MS OT SC r0 r1 r2 r3 w r6 r7 r8 L Lg p1 zh2
    suffices e : Ev (d + 3, 0, 0, 186, 15, [.val (.ref 832), .val (.int p1), .val a_unk, .val a_unk, .val a_unk], [.int x1], (126, 120, L, [Y, T, H2, H, RA, RB, ST, NS, I0, I1, I2, BO, FI_2, RG, GU, PU, MA, MN, MS, OT, SC], [r0, r1, r2, r3, w, 256, r6, r7, r8], Lg)) o from ev_call (fun v μ => (d + 3, 0, 0, 186, 15, [.val (.ref 832), .val (.int p1), .val a_unk, .val a_unk, .val a_unk], v.toList ++ [], μ)) 3 ze3 e (fun n => Eq.refl _)
    by_cases zc4 : x1 ≠ 0
    · have h := itp h zc4
      suffices e : Ev (d + 3, 0, 0, 186, 20, [.val (.ref 832), .val (.int p1), .val a_unk, .val a_unk, .val a_unk], [], (126, 120, L, [Y, T, H2, H, RA, RB, ST, NS, I0, I1, I2, BO, FI_2, RG, GU, PU, MA, MN, MS, OT, SC], [r0, r1, r2, r3, w, 256, r6, r7, r8], Lg)) o from ev_t (c := x1 ≠ 0) _ _ 1  zc4 e (fun n => Eq.refl _)
      obtain ⟨x3, zh5, h⟩ := bnd h
      have zh5 : rdx (FI_2 4) 3 p1 = some x3 := zh5
      suffices e : Ev (d + 3, 0, 0, 186, 26, [.val (.ref 832), .val (.int p1), .val a_unk, .val a_unk, .val a_unk], [.int x3], (126, 120, L, [Y, T, H2, H, RA, RB, ST, NS, I0, I1, I2, BO, FI_2, RG, GU, PU, MA, MN, MS, OT, SC], [r0, r1, r2, r3, w, 256, r6, r7, r8], Lg)) o from ev_opt (fun x3 => (d + 3, 0, 0, 186, 26, [.val (.ref 832), .val (.int p1), .val a_unk, .val a_unk, .val a_unk], [.int x3], (126, 120, L, [Y, T, H2, H, RA, RB, ST, NS, I0, I1, I2, BO, FI_2, RG, GU, PU, MA, MN, MS, OT, SC], [r0, r1, r2, r3, w, 256, r6, r7, r8], Lg))) 4 zh5 e (fun n => Eq.refl _)
      obtain ⟨zb6, zh7, h⟩ := bnd h
      suffices e : Ev (d + 3, 0, 0, 186, 29, [.val (.ref 832), .val (.int p1), .val (.int x3), .val (.int 0), .val a_unk], [], (126, 120, L, [Y, T, H2, H, RA, RB, ST, NS, I0, I1, I2, BO, FI_2, RG, GU, PU, MA, MN, MS, OT, SC], [r0, r1, r2, r3, w, 256, r6, r7, r8], Lg)) o from ev_b 3 e (fun n => Eq.refl _)
      refine ev_loop (δ := Value) (fun a j => (d + 3, 0, 0, 186, 29, [.val (.ref 832), .val (.int p1), .val (.int x3), .val (.int a.1), .val j], [], (126, 120, L, [Y, T, H2, H, RA, RB, ST, NS, I0, I1, I2, a.2.1, a.2.2, RG, GU, PU, MA, MN, MS, OT, SC], [r0, r1, r2, r3, w, 256, r6, r7, r8], Lg))) (fun b => sumE b (fun b => ∀ s20 : Value, ∀ s21 : Value, Ev (d + 3, 0, 0, 186, 118, [.val (.ref 832), .val (.int p1), .val (.int x3), .val s20, .val s21], [], (126, 120, L, [Y, T, H2, H, RA, RB, ST, NS, I0, I1, I2, b.1, b.2, RG, GU, PU, MA, MN, MS, OT, SC], [r0, r1, r2, r3, w, 256, r6, r7, r8], Lg)) o) (fun b => ((0, some (.int b.1), (126, 120, L, [Y, T, H2, H, RA, RB, ST, NS, I0, I1, I2, b.2.1, b.2.2, RG, GU, PU, MA, MN, MS, OT, SC], [r0, r1, r2, r3, w, 256, r6, r7, r8], Lg)) : AOut) = o)) ?_ a_F (0, BO, FI_2) zb6 zh7 ?_ a_unk
      · rintro ⟨v4, BO_6, FI_7⟩ zr11 zh10 zi8 zx9 s5
        have zh10 : f_Fitter_seat_B_l29 H p1 x3 rc v4 BO_6 FI_7 = some zr11 := zh10
        suffices e : Ev (d + 3, 0, 0, 186, 37, [.val (.ref 832), .val (.int p1), .val (.int x3), .val (.int v4), .val s5], [.ref 256, .int v4], (126, 120, L, [Y, T, H2, H, RA, RB, ST, NS, I0, I1, I2, BO_6, FI_7, RG, GU, PU, MA, MN, MS, OT, SC], [r0, r1, r2, r3, w, 256, r6, r7, r8], Lg)) o from ev_b 4 e (fun n => Eq.refl _)
        by_cases zc12 : (H 0 0) ≤ v4
        · have zh10 := itp zh10 zc12
          suffices e : Ev (d + 3, 0, 0, 186, 118, [.val (.ref 832), .val (.int p1), .val (.int x3), .val (.int v4), .val s5], [], (126, 120, L, [Y, T, H2, H, RA, RB, ST, NS, I0, I1, I2, BO_6, FI_7, RG, GU, PU, MA, MN, MS, OT, SC], [r0, r1, r2, r3, w, 256, r6, r7, r8], Lg)) o from ev_t (c := (H 0 0) ≤ v4) _ _ 2  zc12 e (fun n => Eq.refl _)
          exact ev_b 0 (zx9 _ (Option.some.inj zh10).symm (.int v4) s5) (fun n => Eq.refl _)
        · have zh10 := itn zh10 zc12
          suffices e : Ev (d + 3, 0, 0, 186, 43, [.val (.ref 832), .val (.int p1), .val (.int x3), .val (.int v4), .val s5], [], (126, 120, L, [Y, T, H2, H, RA, RB, ST, NS, I0, I1, I2, BO_6, FI_7, RG, GU, PU, MA, MN, MS, OT, SC], [r0, r1, r2, r3, w, 256, r6, r7, r8], Lg)) o from ev_f (c := (H 0 0) ≤ v4) _ _ 2  zc12 e (fun n => Eq.refl _)
          obtain ⟨zb13, zh14, zh10⟩ := bnd zh10
          suffices e : Ev (d + 3, 0, 0, 186, 46, [.val (.ref 832), .val (.int p1), .val (.int x3), .val (.int v4), .val (.int 0)], [], (126, 120, L, [Y, T, H2, H, RA, RB, ST, NS, I0, I1, I2, BO_6, FI_7, RG, GU, PU, MA, MN, MS, OT, SC], [r0, r1, r2, r3, w, 256, r6, r7, r8], Lg)) o from ev_b 2 e (fun n => Eq.refl _)
          refine ev_loop (δ := Unit) (fun a j => (d + 3, 0, 0, 186, 46, [.val (.ref 832), .val (.int p1), .val (.int x3), .val (.int v4), .val (.int a.1)], [], (126, 120, L, [Y, T, H2, H, RA, RB, ST, NS, I0, I1, I2, a.2.1, a.2.2, RG, GU, PU, MA, MN, MS, OT, SC], [r0, r1, r2, r3, w, 256, r6, r7, r8], Lg))) (fun b => sumE b (fun b => ∀ s17 : Value, Ev (d + 3, 0, 0, 186, 112, [.val (.ref 832), .val (.int p1), .val (.int x3), .val (.int v4), .val s17], [], (126, 120, L, [Y, T, H2, H, RA, RB, ST, NS, I0, I1, I2, b.1, b.2, RG, GU, PU, MA, MN, MS, OT, SC], [r0, r1, r2, r3, w, 256, r6, r7, r8], Lg)) o) (fun b => ∀ c, b = .inr c → (fun b => sumE b (fun b => ∀ s20 : Value, ∀ s21 : Value, Ev (d + 3, 0, 0, 186, 118, [.val (.ref 832), .val (.int p1), .val (.int x3), .val s20, .val s21], [], (126, 120, L, [Y, T, H2, H, RA, RB, ST, NS, I0, I1, I2, b.1, b.2, RG, GU, PU, MA, MN, MS, OT, SC], [r0, r1, r2, r3, w, 256, r6, r7, r8], Lg)) o) (fun b => ((0, some (.int b.1), (126, 120, L, [Y, T, H2, H, RA, RB, ST, NS, I0, I1, I2, b.2.1, b.2.2, RG, GU, PU, MA, MN, MS, OT, SC], [r0, r1, r2, r3, w, 256, r6, r7, r8], Lg)) : AOut) = o)) c)) ?_ a_F (0, BO_6, FI_7) zb13 zh14 ?_ ()
          · rintro ⟨v8, BO_9, FI_10⟩ zr18 zh17 zi15 zx16 ⟨⟩
            have zh17 : f_Fitter_seat_B_l46 H p1 v4 x3 rc v8 BO_9 FI_10 = some zr18 := zh17
            suffices e : Ev (d + 3, 0, 0, 186, 55, [.val (.ref 832), .val (.int p1), .val (.int x3), .val (.int v4), .val (.int v8)], [.ref 256, .int v8], (126, 120, L, [Y, T, H2, H, RA, RB, ST, NS, I0, I1, I2, BO_9, FI_10, RG, GU, PU, MA, MN, MS, OT, SC], [r0, r1, r2, r3, w, 256, r6, r7, r8], Lg)) o from ev_b 4 e (fun n => Eq.refl _)
            by_cases zc19 : (H 0 1) ≤ v8
            · have zh17 := itp zh17 zc19
              suffices e : Ev (d + 3, 0, 0, 186, 112, [.val (.ref 832), .val (.int p1), .val (.int x3), .val (.int v4), .val (.int v8)], [], (126, 120, L, [Y, T, H2, H, RA, RB, ST, NS, I0, I1, I2, BO_9, FI_10, RG, GU, PU, MA, MN, MS, OT, SC], [r0, r1, r2, r3, w, 256, r6, r7, r8], Lg)) o from ev_t (c := (H 0 1) ≤ v8) _ _ 2  zc19 e (fun n => Eq.refl _)
              exact ev_b 0 (zx16 _ (Option.some.inj zh17).symm (.int v8)) (fun n => Eq.refl _)
            · have zh17 := itn zh17 zc19
              suffices e : Ev (d + 3, 0, 0, 186, 61, [.val (.ref 832), .val (.int p1), .val (.int x3), .val (.int v4), .val (.int v8)], [], (126, 120, L, [Y, T, H2, H, RA, RB, ST, NS, I0, I1, I2, BO_9, FI_10, RG, GU, PU, MA, MN, MS, OT, SC], [r0, r1, r2, r3, w, 256, r6, r7, r8], Lg)) o from ev_f (c := (H 0 1) ≤ v8) _ _ 2  zc19 e (fun n => Eq.refl _)
              obtain ⟨x11, zh20, zh17⟩ := bnd zh17
              have zh20 : rdx (FI_10 5) 9 ((p1 * 3) + v8) = some x11 := zh20
              suffices e : Ev (d + 3, 0, 0, 186, 72, [.val (.ref 832), .val (.int p1), .val (.int x3), .val (.int v4), .val (.int v8)], [.int x11], (126, 120, L, [Y, T, H2, H, RA, RB, ST, NS, I0, I1, I2, BO_9, FI_10, RG, GU, PU, MA, MN, MS, OT, SC], [r0, r1, r2, r3, w, 256, r6, r7, r8], Lg)) o from ev_opt (fun x11 => (d + 3, 0, 0, 186, 72, [.val (.ref 832), .val (.int p1), .val (.int x3), .val (.int v4), .val (.int v8)], [.int x11], (126, 120, L, [Y, T, H2, H, RA, RB, ST, NS, I0, I1, I2, BO_9, FI_10, RG, GU, PU, MA, MN, MS, OT, SC], [r0, r1, r2, r3, w, 256, r6, r7, r8], Lg))) 8 zh20 e (fun n => Eq.refl _)
              by_cases zc21 : ((a_shr x11 v4) &&& 1) = 0
              · have zh17 := itp zh17 zc21
                suffices e : Ev (d + 3, 0, 0, 186, 106, [.val (.ref 832), .val (.int p1), .val (.int x3), .val (.int v4), .val (.int v8)], [], (126, 120, L, [Y, T, H2, H, RA, RB, ST, NS, I0, I1, I2, BO_9, FI_10, RG, GU, PU, MA, MN, MS, OT, SC], [r0, r1, r2, r3, w, 256, r6, r7, r8], Lg)) o from ev_t (c := ((a_shr x11 v4) &&& 1) = 0) _ _ 5  zc21 e (fun n => Eq.refl _)
                exact ev_b 2 (zi15 _ (Option.some.inj zh17).symm ()) (fun n => Eq.refl _)
              · have zh17 := itn zh17 zc21
                suffices e : Ev (d + 3, 0, 0, 186, 79, [.val (.ref 832), .val (.int p1), .val (.int x3), .val (.int v4), .val (.int v8)], [], (126, 120, L, [Y, T, H2, H, RA, RB, ST, NS, I0, I1, I2, BO_9, FI_10, RG, GU, PU, MA, MN, MS, OT, SC], [r0, r1, r2, r3, w, 256, r6, r7, r8], Lg)) o from ev_f (c := ((a_shr x11 v4) &&& 1) = 0) _ _ 5  zc21 e (fun n => Eq.refl _)
                obtain ⟨x12, zh22, zh17⟩ := bnd zh17
                have zh22 : f_Y_placeOf v4 v8 = some x12 := zh22
                have ze23 := R_f_Y_placeOf_0 (d + 2) Y T H2 H RA RB ST NS I0 I1 I2 BO_9 FI_10 RG GU PU MA MN MS OT SC r0 r1 r2 r3 w 256 r6 r7 r8 L Lg v4 v8 zh22
                suffices e : Ev (d + 3, 0, 0, 186, 93, [.val (.ref 832), .val (.int p1), .val (.int x3), .val (.int v4), .val (.int v8)], [.int x12, .int x3, .ref 769], (126, 120, L, [Y, T, H2, H, RA, RB, ST, NS, I0, I1, I2, BO_9, FI_10, RG, GU, PU, MA, MN, MS, OT, SC], [r0, r1, r2, r3, w, 256, r6, r7, r8], Lg)) o from ev_call (fun v μ => (d + 3, 0, 0, 186, 93, [.val (.ref 832), .val (.int p1), .val (.int x3), .val (.int v4), .val (.int v8)], v.toList ++ [.int x3, .ref 769], μ)) 7 ze23 e (fun n => Eq.refl _)
                obtain ⟨j13, zh24, zh17⟩ := bnd zh17
                have zh24 : ixx 10 x3 = some j13 := zh24
                suffices e : Ev (d + 3, 0, 0, 186, 94, [.val (.ref 832), .val (.int p1), .val (.int x3), .val (.int v4), .val (.int v8)], [], (126, 120, L, [Y, T, H2, H, RA, RB, ST, NS, I0, I1, I2, (u2 BO_9 1 j13 x12), FI_10, RG, GU, PU, MA, MN, MS, OT, SC], [r0, r1, r2, r3, w, 256, r6, r7, r8], Lg)) o from ev_opt (fun j13 => (d + 3, 0, 0, 186, 94, [.val (.ref 832), .val (.int p1), .val (.int x3), .val (.int v4), .val (.int v8)], [], (126, 120, L, [Y, T, H2, H, RA, RB, ST, NS, I0, I1, I2, (u2 BO_9 1 j13 x12), FI_10, RG, GU, PU, MA, MN, MS, OT, SC], [r0, r1, r2, r3, w, 256, r6, r7, r8], Lg))) 1 zh24 e (fun n => Eq.refl _)
                obtain ⟨⟨x14, BO_15, FI_16⟩, zh25, zh17⟩ := bnd zh17
                have zh25 : rc 0 H (u2 BO_9 1 j13 x12) FI_10 (p1 + 1) = some (x14, BO_15, FI_16) := zh25
                have ze26 := zrc0 Y T H2 H RA RB ST NS I0 I1 I2 (u2 BO_9 1 j13 x12) FI_10 RG GU PU MA MN MS OT SC r0 r1 r2 r3 w r6 r7 r8 L Lg (p1 + 1) _ zh25
                suffices e : Ev (d + 3, 0, 0, 186, 101, [.val (.ref 832), .val (.int p1), .val (.int x3), .val (.int v4), .val (.int v8)], [.int x14], (126, 120, L, [Y, T, H2, H, RA, RB, ST, NS, I0, I1, I2, BO_15, FI_16, RG, GU, PU, MA, MN, MS, OT, SC], [r0, r1, r2, r3, w, 256, r6, r7, r8], Lg)) o from ev_call (fun v μ => (d + 3, 0, 0, 186, 101, [.val (.ref 832), .val (.int p1), .val (.int x3), .val (.int v4), .val (.int v8)], v.toList ++ [], μ)) 5 ze26 e (fun n => Eq.refl _)
                by_cases zc27 : x14 = 0
                · have zh17 := itp zh17 zc27
                  suffices e : Ev (d + 3, 0, 0, 186, 106, [.val (.ref 832), .val (.int p1), .val (.int x3), .val (.int v4), .val (.int v8)], [], (126, 120, L, [Y, T, H2, H, RA, RB, ST, NS, I0, I1, I2, BO_15, FI_16, RG, GU, PU, MA, MN, MS, OT, SC], [r0, r1, r2, r3, w, 256, r6, r7, r8], Lg)) o from ev_t (c := x14 = 0) _ _ 1  zc27 e (fun n => Eq.refl _)
                  exact ev_b 2 (zi15 _ (Option.some.inj zh17).symm ()) (fun n => Eq.refl _)
                · have zh17 := itn zh17 zc27
                  suffices e : Ev (d + 3, 0, 0, 186, 104, [.val (.ref 832), .val (.int p1), .val (.int x3), .val (.int v4), .val (.int v8)], [], (126, 120, L, [Y, T, H2, H, RA, RB, ST, NS, I0, I1, I2, BO_15, FI_16, RG, GU, PU, MA, MN, MS, OT, SC], [r0, r1, r2, r3, w, 256, r6, r7, r8], Lg)) o from ev_f (c := x14 = 0) _ _ 1  zc27 e (fun n => Eq.refl _)
                  exact ev_rete 2 (zx16 _ (Option.some.inj zh17).symm _ rfl) (fun n => Eq.refl _)
          · rcases zb13 with ⟨BO_18, FI_19⟩ | zr18
            · intro s17
              exact ev_b 2 (zi8 _ (Option.some.inj zh10).symm s17) (fun n => Eq.refl _)
            · have zh28 : some zr18 = some _ := zh10
              exact fun c hc => zx9 c ((Option.some.inj zh28).symm.trans hc)
      · rcases zb6 with ⟨BO_22, FI_23⟩ | zr11
        · intro s20 s21
          obtain ⟨j24, zh30, h⟩ := bnd h
          have zh30 : ixx 10 x3 = some j24 := zh30
          suffices e : Ev (d + 3, 0, 0, 186, 128, [.val (.ref 832), .val (.int p1), .val (.int x3), .val s20, .val s21], [], (126, 120, L, [Y, T, H2, H, RA, RB, ST, NS, I0, I1, I2, (u2 BO_22 1 j24 (-1)), FI_23, RG, GU, PU, MA, MN, MS, OT, SC], [r0, r1, r2, r3, w, 256, r6, r7, r8], Lg)) o from ev_opt (fun j24 => (d + 3, 0, 0, 186, 128, [.val (.ref 832), .val (.int p1), .val (.int x3), .val s20, .val s21], [], (126, 120, L, [Y, T, H2, H, RA, RB, ST, NS, I0, I1, I2, (u2 BO_22 1 j24 (-1)), FI_23, RG, GU, PU, MA, MN, MS, OT, SC], [r0, r1, r2, r3, w, 256, r6, r7, r8], Lg))) 6 zh30 e (fun n => Eq.refl _)
          have ze31 := Option.some.inj h
          subst ze31
          exact ev_rete 2 ho (fun n => Eq.refl _)
        · have zh32 : some zr11 = some r := h
          exact (congrArg (fun q => ((0, some (.int q.1), (126, 120, L, [Y, T, H2, H, RA, RB, ST, NS, I0, I1, I2, q.2.1, q.2.2, RG, GU, PU, MA, MN, MS, OT, SC], [r0, r1, r2, r3, w, 256, r6, r7, r8], Lg)) : AOut)) (Option.some.inj zh32)).trans ho
    · have h := itn h zc4
      suffices e : Ev (d + 3, 0, 0, 186, 18, [.val (.ref 832), .val (.int p1), .val a_unk, .val a_unk, .val a_unk], [], (126, 120, L, [Y, T, H2, H, RA, RB, ST, NS, I0, I1, I2, BO, FI_2, RG, GU, PU, MA, MN, MS, OT, SC], [r0, r1, r2, r3, w, 256, r6, r7, r8], Lg)) o from ev_f (c := x1 ≠ 0) _ _ 1  zc4 e (fun n => Eq.refl _)
      have ze34 := Option.some.inj h
      subst ze34
      exact ev_rete 2 ho (fun n => Eq.refl _)
  · have h := itn h zc1
    suffices e : Ev (d + 3, 0, 0, 186, 8, [.val (.ref 832), .val (.int p1), .val a_unk, .val a_unk, .val a_unk], [], (126, 120, L, [Y, T, H2, H, RA, RB, ST, NS, I0, I1, I2, BO, FI, RG, GU, PU, MA, MN, MS, OT, SC], [r0, r1, r2, r3, w, 256, r6, r7, r8], Lg)) o from ev_f (c := p1 < (FI 0 6)) _ _ 4  zc1 e (fun n => Eq.refl _)
    have ze35 := Option.some.inj h
    subst ze35
    exact ev_rete 2 ho (fun n => Eq.refl _)
