/-! printed by program (gen/emitm.py): the reference's methods run as their functions say -/
set_option maxRecDepth 1000000 in
set_option maxHeartbeats 4000000 in
theorem R_f_Target_copy_2_2 (d : Nat) (Y T HA HB RA RB ST SB I0 I1 SA BO FI RG GU PU MA MN MS OT SC : Nat → Nat → Int32) (r0 r1 r2 r3 w r5 r6 r7 r8 : Nat) (L : Nat) (Lg : Int64) {r : (Nat → Nat → Int32)} (h : f_Target_copy_2 SB SA = some r) : Ev (d + 1, 0, 0, 281, 0, [.val (.ref 707), .val (.ref 515)], [], (126, 120, L, [Y, T, HA, HB, RA, RB, ST, SB, I0, I1, SA, BO, FI, RG, GU, PU, MA, MN, MS, OT, SC], [r0, r1, r2, r3, w, r5, r6, r7, r8], Lg)) ((0, none, (126, 120, L, [Y, T, HA, HB, RA, RB, ST, SB, I0, I1, r, BO, FI, RG, GU, PU, MA, MN, MS, OT, SC], [r0, r1, r2, r3, w, r5, r6, r7, r8], Lg)) : AOut) := by
  suffices key : ∀ o : AOut, ((0, none, (126, 120, L, [Y, T, HA, HB, RA, RB, ST, SB, I0, I1, r, BO, FI, RG, GU, PU, MA, MN, MS, OT, SC], [r0, r1, r2, r3, w, r5, r6, r7, r8], Lg)) : AOut) = o → Ev (d + 1, 0, 0, 281, 0, [.val (.ref 707), .val (.ref 515)], [], (126, 120, L, [Y, T, HA, HB, RA, RB, ST, SB, I0, I1, SA, BO, FI, RG, GU, PU, MA, MN, MS, OT, SC], [r0, r1, r2, r3, w, r5, r6, r7, r8], Lg)) o from key _ rfl
  intro o ho
  by_cases zc1 : ((0 : Int32) < 0 ∨ (0 : Int32) < 0 ∨ (10 : Int32) < 0 ∨ 10 < (0 : Int32).toNatClampNeg + (10 : Int32).toNatClampNeg ∨ 10 < (0 : Int32).toNatClampNeg + (10 : Int32).toNatClampNeg)
  · exact nos (itp h zc1)
  have h := itn h zc1
  suffices e : Ev (d + 1, 0, 0, 281, 23, [.val (.ref 707), .val (.ref 515)], [], (126, 120, L, [Y, T, HA, HB, RA, RB, ST, SB, I0, I1, (u1 (u2 SA 3 0 (SB 3 0)) 4 (a_cpy (SB 4) ((u2 SA 3 0 (SB 3 0)) 4) (0 : Int32).toNatClampNeg (0 : Int32).toNatClampNeg (10 : Int32).toNatClampNeg)), BO, FI, RG, GU, PU, MA, MN, MS, OT, SC], [r0, r1, r2, r3, w, r5, r6, r7, r8], Lg)) o from ev_d (c := ((0 : Int32) < 0 ∨ (0 : Int32) < 0 ∨ (10 : Int32) < 0 ∨ 10 < (0 : Int32).toNatClampNeg + (10 : Int32).toNatClampNeg ∨ 10 < (0 : Int32).toNatClampNeg + (10 : Int32).toNatClampNeg)) _ 12 zc1 e (fun n => Eq.refl _)
  by_cases zc2 : ((0 : Int32) < 0 ∨ (0 : Int32) < 0 ∨ (10 : Int32) < 0 ∨ 10 < (0 : Int32).toNatClampNeg + (10 : Int32).toNatClampNeg ∨ 10 < (0 : Int32).toNatClampNeg + (10 : Int32).toNatClampNeg)
  · exact nos (itp h zc2)
  have h := itn h zc2
  suffices e : Ev (d + 1, 0, 0, 281, 38, [.val (.ref 707), .val (.ref 515)], [], (126, 120, L, [Y, T, HA, HB, RA, RB, ST, SB, I0, I1, (u1 (u1 (u2 SA 3 0 (SB 3 0)) 4 (a_cpy (SB 4) ((u2 SA 3 0 (SB 3 0)) 4) (0 : Int32).toNatClampNeg (0 : Int32).toNatClampNeg (10 : Int32).toNatClampNeg)) 5 (a_cpy (SB 5) ((u1 (u2 SA 3 0 (SB 3 0)) 4 (a_cpy (SB 4) ((u2 SA 3 0 (SB 3 0)) 4) (0 : Int32).toNatClampNeg (0 : Int32).toNatClampNeg (10 : Int32).toNatClampNeg)) 5) (0 : Int32).toNatClampNeg (0 : Int32).toNatClampNeg (10 : Int32).toNatClampNeg)), BO, FI, RG, GU, PU, MA, MN, MS, OT, SC], [r0, r1, r2, r3, w, r5, r6, r7, r8], Lg)) o from ev_d (c := ((0 : Int32) < 0 ∨ (0 : Int32) < 0 ∨ (10 : Int32) < 0 ∨ 10 < (0 : Int32).toNatClampNeg + (10 : Int32).toNatClampNeg ∨ 10 < (0 : Int32).toNatClampNeg + (10 : Int32).toNatClampNeg)) _ 8 zc2 e (fun n => Eq.refl _)
  have ze3 := Option.some.inj h
  subst ze3
  exact ev_rete 1 ho (fun n => Eq.refl _)
set_option maxRecDepth 1000000 in
set_option maxHeartbeats 4000000 in
theorem R_f_State_copy_2 (d : Nat) (Y T HA HB RA RB ST SB I0 I1 SA BO FI RG GU PU MA MN MS OT SC : Nat → Nat → Int32) (r0 r1 r2 r3 w r5 r6 r7 r8 : Nat) (L : Nat) (Lg : Int64) {r : (Nat → Nat → Int32)} (h : f_State_copy SB SA = some r) : Ev (d + 2, 0, 0, 258, 0, [.val (.ref 704), .val (.ref 512)], [], (126, 120, L, [Y, T, HA, HB, RA, RB, ST, SB, I0, I1, SA, BO, FI, RG, GU, PU, MA, MN, MS, OT, SC], [r0, r1, r2, r3, w, r5, r6, r7, r8], Lg)) ((0, none, (126, 120, L, [Y, T, HA, HB, RA, RB, ST, SB, I0, I1, r, BO, FI, RG, GU, PU, MA, MN, MS, OT, SC], [r0, r1, r2, r3, w, r5, r6, r7, r8], Lg)) : AOut) := by
  suffices key : ∀ o : AOut, ((0, none, (126, 120, L, [Y, T, HA, HB, RA, RB, ST, SB, I0, I1, r, BO, FI, RG, GU, PU, MA, MN, MS, OT, SC], [r0, r1, r2, r3, w, r5, r6, r7, r8], Lg)) : AOut) = o → Ev (d + 2, 0, 0, 258, 0, [.val (.ref 704), .val (.ref 512)], [], (126, 120, L, [Y, T, HA, HB, RA, RB, ST, SB, I0, I1, SA, BO, FI, RG, GU, PU, MA, MN, MS, OT, SC], [r0, r1, r2, r3, w, r5, r6, r7, r8], Lg)) o from key _ rfl
  intro o ho
  by_cases zc1 : ((0 : Int32) < 0 ∨ (0 : Int32) < 0 ∨ (10 : Int32) < 0 ∨ 10 < (0 : Int32).toNatClampNeg + (10 : Int32).toNatClampNeg ∨ 10 < (0 : Int32).toNatClampNeg + (10 : Int32).toNatClampNeg)
  · exact nos (itp h zc1)
  have h := itn h zc1
  suffices e : Ev (d + 2, 0, 0, 258, 15, [.val (.ref 704), .val (.ref 512)], [], (126, 120, L, [Y, T, HA, HB, RA, RB, ST, SB, I0, I1, (u1 SA 1 (a_cpy (SB 1) (SA 1) (0 : Int32).toNatClampNeg (0 : Int32).toNatClampNeg (10 : Int32).toNatClampNeg)), BO, FI, RG, GU, PU, MA, MN, MS, OT, SC], [r0, r1, r2, r3, w, r5, r6, r7, r8], Lg)) o from ev_d (c := ((0 : Int32) < 0 ∨ (0 : Int32) < 0 ∨ (10 : Int32) < 0 ∨ 10 < (0 : Int32).toNatClampNeg + (10 : Int32).toNatClampNeg ∨ 10 < (0 : Int32).toNatClampNeg + (10 : Int32).toNatClampNeg)) _ 8 zc1 e (fun n => Eq.refl _)
  by_cases zc2 : ((0 : Int32) < 0 ∨ (0 : Int32) < 0 ∨ (10 : Int32) < 0 ∨ 10 < (0 : Int32).toNatClampNeg + (10 : Int32).toNatClampNeg ∨ 10 < (0 : Int32).toNatClampNeg + (10 : Int32).toNatClampNeg)
  · exact nos (itp h zc2)
  have h := itn h zc2
  suffices e : Ev (d + 2, 0, 0, 258, 30, [.val (.ref 704), .val (.ref 512)], [], (126, 120, L, [Y, T, HA, HB, RA, RB, ST, SB, I0, I1, (u1 (u1 SA 1 (a_cpy (SB 1) (SA 1) (0 : Int32).toNatClampNeg (0 : Int32).toNatClampNeg (10 : Int32).toNatClampNeg)) 2 (a_cpy (SB 2) ((u1 SA 1 (a_cpy (SB 1) (SA 1) (0 : Int32).toNatClampNeg (0 : Int32).toNatClampNeg (10 : Int32).toNatClampNeg)) 2) (0 : Int32).toNatClampNeg (0 : Int32).toNatClampNeg (10 : Int32).toNatClampNeg)), BO, FI, RG, GU, PU, MA, MN, MS, OT, SC], [r0, r1, r2, r3, w, r5, r6, r7, r8], Lg)) o from ev_d (c := ((0 : Int32) < 0 ∨ (0 : Int32) < 0 ∨ (10 : Int32) < 0 ∨ 10 < (0 : Int32).toNatClampNeg + (10 : Int32).toNatClampNeg ∨ 10 < (0 : Int32).toNatClampNeg + (10 : Int32).toNatClampNeg)) _ 8 zc2 e (fun n => Eq.refl _)
  obtain ⟨SA_1, zh3, h⟩ := bnd h
  have zh3 : f_Target_copy_2 SB (u1 (u1 SA 1 (a_cpy (SB 1) (SA 1) (0 : Int32).toNatClampNeg (0 : Int32).toNatClampNeg (10 : Int32).toNatClampNeg)) 2 (a_cpy (SB 2) ((u1 SA 1 (a_cpy (SB 1) (SA 1) (0 : Int32).toNatClampNeg (0 : Int32).toNatClampNeg (10 : Int32).toNatClampNeg)) 2) (0 : Int32).toNatClampNeg (0 : Int32).toNatClampNeg (10 : Int32).toNatClampNeg)) = some SA_1 := zh3
  have ze4 := R_f_Target_copy_2_2 (d + 0) Y T HA HB RA RB ST SB I0 I1 (u1 (u1 SA 1 (a_cpy (SB 1) (SA 1) (0 : Int32).toNatClampNeg (0 : Int32).toNatClampNeg (10 : Int32).toNatClampNeg)) 2 (a_cpy (SB 2) ((u1 SA 1 (a_cpy (SB 1) (SA 1) (0 : Int32).toNatClampNeg (0 : Int32).toNatClampNeg (10 : Int32).toNatClampNeg)) 2) (0 : Int32).toNatClampNeg (0 : Int32).toNatClampNeg (10 : Int32).toNatClampNeg)) BO FI RG GU PU MA MN MS OT SC r0 r1 r2 r3 w r5 r6 r7 r8 L Lg zh3
  suffices e : Ev (d + 2, 0, 0, 258, 41, [.val (.ref 704), .val (.ref 512)], [], (126, 120, L, [Y, T, HA, HB, RA, RB, ST, SB, I0, I1, SA_1, BO, FI, RG, GU, PU, MA, MN, MS, OT, SC], [r0, r1, r2, r3, w, r5, r6, r7, r8], Lg)) o from ev_call (fun v μ => (d + 2, 0, 0, 258, 41, [.val (.ref 704), .val (.ref 512)], v.toList ++ [], μ)) 5 ze4 e (fun n => Eq.refl _)
  by_cases zc5 : ((0 : Int32) < 0 ∨ (0 : Int32) < 0 ∨ ((((u2 (u2 SA_1 0 3 (SB 0 3)) 0 4 (SB 0 4)) 0 4) * 10) : Int32) < 0 ∨ 300 < (0 : Int32).toNatClampNeg + ((((u2 (u2 SA_1 0 3 (SB 0 3)) 0 4 (SB 0 4)) 0 4) * 10) : Int32).toNatClampNeg ∨ 300 < (0 : Int32).toNatClampNeg + ((((u2 (u2 SA_1 0 3 (SB 0 3)) 0 4 (SB 0 4)) 0 4) * 10) : Int32).toNatClampNeg)
  · exact nos (itp h zc5)
  have h := itn h zc5
  suffices e : Ev (d + 2, 0, 0, 258, 77, [.val (.ref 704), .val (.ref 512)], [], (126, 120, L, [Y, T, HA, HB, RA, RB, ST, SB, I0, I1, (u1 (u2 (u2 SA_1 0 3 (SB 0 3)) 0 4 (SB 0 4)) 6 (a_cpy (SB 6) ((u2 (u2 SA_1 0 3 (SB 0 3)) 0 4 (SB 0 4)) 6) (0 : Int32).toNatClampNeg (0 : Int32).toNatClampNeg ((((u2 (u2 SA_1 0 3 (SB 0 3)) 0 4 (SB 0 4)) 0 4) * 10) : Int32).toNatClampNeg)), BO, FI, RG, GU, PU, MA, MN, MS, OT, SC], [r0, r1, r2, r3, w, r5, r6, r7, r8], Lg)) o from ev_d (c := ((0 : Int32) < 0 ∨ (0 : Int32) < 0 ∨ ((((u2 (u2 SA_1 0 3 (SB 0 3)) 0 4 (SB 0 4)) 0 4) * 10) : Int32) < 0 ∨ 300 < (0 : Int32).toNatClampNeg + ((((u2 (u2 SA_1 0 3 (SB 0 3)) 0 4 (SB 0 4)) 0 4) * 10) : Int32).toNatClampNeg ∨ 300 < (0 : Int32).toNatClampNeg + ((((u2 (u2 SA_1 0 3 (SB 0 3)) 0 4 (SB 0 4)) 0 4) * 10) : Int32).toNatClampNeg)) _ 19 zc5 e (fun n => Eq.refl _)
  by_cases zc6 : ((0 : Int32) < 0 ∨ (0 : Int32) < 0 ∨ (((u1 (u2 (u2 SA_1 0 3 (SB 0 3)) 0 4 (SB 0 4)) 6 (a_cpy (SB 6) ((u2 (u2 SA_1 0 3 (SB 0 3)) 0 4 (SB 0 4)) 6) (0 : Int32).toNatClampNeg (0 : Int32).toNatClampNeg ((((u2 (u2 SA_1 0 3 (SB 0 3)) 0 4 (SB 0 4)) 0 4) * 10) : Int32).toNatClampNeg)) 0 4) * 10) < 0 ∨ 300 < (0 : Int32).toNatClampNeg + (((u1 (u2 (u2 SA_1 0 3 (SB 0 3)) 0 4 (SB 0 4)) 6 (a_cpy (SB 6) ((u2 (u2 SA_1 0 3 (SB 0 3)) 0 4 (SB 0 4)) 6) (0 : Int32).toNatClampNeg (0 : Int32).toNatClampNeg ((((u2 (u2 SA_1 0 3 (SB 0 3)) 0 4 (SB 0 4)) 0 4) * 10) : Int32).toNatClampNeg)) 0 4) * 10).toNatClampNeg ∨ 300 < (0 : Int32).toNatClampNeg + (((u1 (u2 (u2 SA_1 0 3 (SB 0 3)) 0 4 (SB 0 4)) 6 (a_cpy (SB 6) ((u2 (u2 SA_1 0 3 (SB 0 3)) 0 4 (SB 0 4)) 6) (0 : Int32).toNatClampNeg (0 : Int32).toNatClampNeg ((((u2 (u2 SA_1 0 3 (SB 0 3)) 0 4 (SB 0 4)) 0 4) * 10) : Int32).toNatClampNeg)) 0 4) * 10).toNatClampNeg)
  · exact nos (itp h zc6)
  have h := itn h zc6
  suffices e : Ev (d + 2, 0, 0, 258, 97, [.val (.ref 704), .val (.ref 512)], [], (126, 120, L, [Y, T, HA, HB, RA, RB, ST, SB, I0, I1, (u1 (u1 (u2 (u2 SA_1 0 3 (SB 0 3)) 0 4 (SB 0 4)) 6 (a_cpy (SB 6) ((u2 (u2 SA_1 0 3 (SB 0 3)) 0 4 (SB 0 4)) 6) (0 : Int32).toNatClampNeg (0 : Int32).toNatClampNeg ((((u2 (u2 SA_1 0 3 (SB 0 3)) 0 4 (SB 0 4)) 0 4) * 10) : Int32).toNatClampNeg)) 7 (a_cpy (SB 7) ((u1 (u2 (u2 SA_1 0 3 (SB 0 3)) 0 4 (SB 0 4)) 6 (a_cpy (SB 6) ((u2 (u2 SA_1 0 3 (SB 0 3)) 0 4 (SB 0 4)) 6) (0 : Int32).toNatClampNeg (0 : Int32).toNatClampNeg ((((u2 (u2 SA_1 0 3 (SB 0 3)) 0 4 (SB 0 4)) 0 4) * 10) : Int32).toNatClampNeg)) 7) (0 : Int32).toNatClampNeg (0 : Int32).toNatClampNeg (((u1 (u2 (u2 SA_1 0 3 (SB 0 3)) 0 4 (SB 0 4)) 6 (a_cpy (SB 6) ((u2 (u2 SA_1 0 3 (SB 0 3)) 0 4 (SB 0 4)) 6) (0 : Int32).toNatClampNeg (0 : Int32).toNatClampNeg ((((u2 (u2 SA_1 0 3 (SB 0 3)) 0 4 (SB 0 4)) 0 4) * 10) : Int32).toNatClampNeg)) 0 4) * 10).toNatClampNeg)), BO, FI, RG, GU, PU, MA, MN, MS, OT, SC], [r0, r1, r2, r3, w, r5, r6, r7, r8], Lg)) o from ev_d (c := ((0 : Int32) < 0 ∨ (0 : Int32) < 0 ∨ (((u1 (u2 (u2 SA_1 0 3 (SB 0 3)) 0 4 (SB 0 4)) 6 (a_cpy (SB 6) ((u2 (u2 SA_1 0 3 (SB 0 3)) 0 4 (SB 0 4)) 6) (0 : Int32).toNatClampNeg (0 : Int32).toNatClampNeg ((((u2 (u2 SA_1 0 3 (SB 0 3)) 0 4 (SB 0 4)) 0 4) * 10) : Int32).toNatClampNeg)) 0 4) * 10) < 0 ∨ 300 < (0 : Int32).toNatClampNeg + (((u1 (u2 (u2 SA_1 0 3 (SB 0 3)) 0 4 (SB 0 4)) 6 (a_cpy (SB 6) ((u2 (u2 SA_1 0 3 (SB 0 3)) 0 4 (SB 0 4)) 6) (0 : Int32).toNatClampNeg (0 : Int32).toNatClampNeg ((((u2 (u2 SA_1 0 3 (SB 0 3)) 0 4 (SB 0 4)) 0 4) * 10) : Int32).toNatClampNeg)) 0 4) * 10).toNatClampNeg ∨ 300 < (0 : Int32).toNatClampNeg + (((u1 (u2 (u2 SA_1 0 3 (SB 0 3)) 0 4 (SB 0 4)) 6 (a_cpy (SB 6) ((u2 (u2 SA_1 0 3 (SB 0 3)) 0 4 (SB 0 4)) 6) (0 : Int32).toNatClampNeg (0 : Int32).toNatClampNeg ((((u2 (u2 SA_1 0 3 (SB 0 3)) 0 4 (SB 0 4)) 0 4) * 10) : Int32).toNatClampNeg)) 0 4) * 10).toNatClampNeg)) _ 11 zc6 e (fun n => Eq.refl _)
  have ze7 := Option.some.inj h
  subst ze7
  exact ev_rete 1 ho (fun n => Eq.refl _)
set_option maxRecDepth 1000000 in
set_option maxHeartbeats 4000000 in
theorem R_f_Y_image_0 (d : Nat) (Y T H H2 RU RV ST NS I0 I1 I2 BO FI RG GU PU MA MN MS OT SC : Nat → Nat → Int32) (w r5 : Nat) (L : Nat) (Lg : Int64) {r : Int32 × (Nat → Nat → Int32) × (Nat → Nat → Int32) × (Nat → Nat → Int32) × (Nat → Nat → Int32)} (h : f_Y_image Y NS I0 I1 I2 = some r) : Ev (d + 3, 0, 0, 329, 0, [.val (.ref 64)], [], (126, 120, L, [Y, T, H, H2, RU, RV, ST, NS, I0, I1, I2, BO, FI, RG, GU, PU, MA, MN, MS, OT, SC], [192, 256, 320, 384, w, r5, 576, 640, 704], Lg)) ((0, some (.int r.1), (126, 120, L, [r.2.1, T, H, H2, RU, RV, ST, NS, r.2.2.1, r.2.2.2.1, r.2.2.2.2, BO, FI, RG, GU, PU, MA, MN, MS, OT, SC], [192, 256, 320, 384, w, r5, 576, 640, 704], Lg)) : AOut) := by
  suffices key : ∀ o : AOut, ((0, some (.int r.1), (126, 120, L, [r.2.1, T, H, H2, RU, RV, ST, NS, r.2.2.1, r.2.2.2.1, r.2.2.2.2, BO, FI, RG, GU, PU, MA, MN, MS, OT, SC], [192, 256, 320, 384, w, r5, 576, 640, 704], Lg)) : AOut) = o → Ev (d + 3, 0, 0, 329, 0, [.val (.ref 64)], [], (126, 120, L, [Y, T, H, H2, RU, RV, ST, NS, I0, I1, I2, BO, FI, RG, GU, PU, MA, MN, MS, OT, SC], [192, 256, 320, 384, w, r5, 576, 640, 704], Lg)) o from key _ rfl
  intro o ho
  by_cases zc1 : (Y 0 3) < 3
  · have h := itp h zc1
    suffices e : Ev (d + 3, 0, 0, 329, 10, [.val (.ref 64)], [], (126, 120, L, [Y, T, H, H2, RU, RV, ST, NS, I0, I1, I2, BO, FI, RG, GU, PU, MA, MN, MS, OT, SC], [192, 256, 320, 384, w, r5, 576, 640, 704], Lg)) o from ev_t (c := (Y 0 3) < 3) _ _ 4  zc1 e (fun n => Eq.refl _)
    obtain ⟨j1, zh2, h⟩ := bnd h
    have zh2 : ixx 3 (Y 0 3) = some j1 := zh2
    by_cases zc3 : j1 = 0
    · have h := itp h zc3
      subst zc3
      suffices e : Ev (d + 3, 0, 0, 329, 19, [.val (.ref 64)], [.ref 576], (126, 120, L, [Y, T, H, H2, RU, RV, ST, NS, I0, I1, I2, BO, FI, RG, GU, PU, MA, MN, MS, OT, SC], [192, 256, 320, 384, w, r5, 576, 640, 704], Lg)) o from ev_opt (fun j1 => (d + 3, 0, 0, 329, 19, [.val (.ref 64)], [.ref (a_nth [192, 256, 320, 384, w, r5, 576, 640, 704] 0 (6 + j1))], (126, 120, L, [Y, T, H, H2, RU, RV, ST, NS, I0, I1, I2, BO, FI, RG, GU, PU, MA, MN, MS, OT, SC], [192, 256, 320, 384, w, r5, 576, 640, 704], Lg))) 5 zh2 e (fun n => Eq.refl _)
      obtain ⟨I0_2, zh4, h⟩ := bnd h
      have zh4 : f_State_copy NS I0 = some I0_2 := zh4
      have ze5 := R_f_State_copy_0 (d + 0) Y T H H2 RU RV ST NS I0 I1 I2 BO FI RG GU PU MA MN MS OT SC 192 256 320 384 w r5 576 640 704 L Lg zh4
      suffices e : Ev (d + 3, 0, 0, 329, 26, [.val (.ref 64)], [], (126, 120, L, [Y, T, H, H2, RU, RV, ST, NS, I0_2, I1, I2, BO, FI, RG, GU, PU, MA, MN, MS, OT, SC], [192, 256, 320, 384, w, r5, 576, 640, 704], Lg)) o from ev_call (fun v μ => (d + 3, 0, 0, 329, 26, [.val (.ref 64)], v.toList ++ [], μ)) 3 ze5 e (fun n => Eq.refl _)
      have ze6 := Option.some.inj h
      subst ze6
      exact ev_rete 9 ho (fun n => Eq.refl _)
    have h := itn h zc3
    by_cases zc7 : j1 = 1
    · have h := itp h zc7
      subst zc7
      suffices e : Ev (d + 3, 0, 0, 329, 19, [.val (.ref 64)], [.ref 640], (126, 120, L, [Y, T, H, H2, RU, RV, ST, NS, I0, I1, I2, BO, FI, RG, GU, PU, MA, MN, MS, OT, SC], [192, 256, 320, 384, w, r5, 576, 640, 704], Lg)) o from ev_opt (fun j1 => (d + 3, 0, 0, 329, 19, [.val (.ref 64)], [.ref (a_nth [192, 256, 320, 384, w, r5, 576, 640, 704] 0 (6 + j1))], (126, 120, L, [Y, T, H, H2, RU, RV, ST, NS, I0, I1, I2, BO, FI, RG, GU, PU, MA, MN, MS, OT, SC], [192, 256, 320, 384, w, r5, 576, 640, 704], Lg))) 5 zh2 e (fun n => Eq.refl _)
      obtain ⟨I1_3, zh8, h⟩ := bnd h
      have zh8 : f_State_copy NS I1 = some I1_3 := zh8
      have ze9 := R_f_State_copy_1 (d + 0) Y T H H2 RU RV ST NS I0 I1 I2 BO FI RG GU PU MA MN MS OT SC 192 256 320 384 w r5 576 640 704 L Lg zh8
      suffices e : Ev (d + 3, 0, 0, 329, 26, [.val (.ref 64)], [], (126, 120, L, [Y, T, H, H2, RU, RV, ST, NS, I0, I1_3, I2, BO, FI, RG, GU, PU, MA, MN, MS, OT, SC], [192, 256, 320, 384, w, r5, 576, 640, 704], Lg)) o from ev_call (fun v μ => (d + 3, 0, 0, 329, 26, [.val (.ref 64)], v.toList ++ [], μ)) 3 ze9 e (fun n => Eq.refl _)
      have ze10 := Option.some.inj h
      subst ze10
      exact ev_rete 9 ho (fun n => Eq.refl _)
    have h := itn h zc7
    by_cases zc11 : j1 = 2
    · have h := itp h zc11
      subst zc11
      suffices e : Ev (d + 3, 0, 0, 329, 19, [.val (.ref 64)], [.ref 704], (126, 120, L, [Y, T, H, H2, RU, RV, ST, NS, I0, I1, I2, BO, FI, RG, GU, PU, MA, MN, MS, OT, SC], [192, 256, 320, 384, w, r5, 576, 640, 704], Lg)) o from ev_opt (fun j1 => (d + 3, 0, 0, 329, 19, [.val (.ref 64)], [.ref (a_nth [192, 256, 320, 384, w, r5, 576, 640, 704] 0 (6 + j1))], (126, 120, L, [Y, T, H, H2, RU, RV, ST, NS, I0, I1, I2, BO, FI, RG, GU, PU, MA, MN, MS, OT, SC], [192, 256, 320, 384, w, r5, 576, 640, 704], Lg))) 5 zh2 e (fun n => Eq.refl _)
      obtain ⟨I2_4, zh12, h⟩ := bnd h
      have zh12 : f_State_copy NS I2 = some I2_4 := zh12
      have ze13 := R_f_State_copy_2 (d + 0) Y T H H2 RU RV ST NS I0 I1 I2 BO FI RG GU PU MA MN MS OT SC 192 256 320 384 w r5 576 640 704 L Lg zh12
      suffices e : Ev (d + 3, 0, 0, 329, 26, [.val (.ref 64)], [], (126, 120, L, [Y, T, H, H2, RU, RV, ST, NS, I0, I1, I2_4, BO, FI, RG, GU, PU, MA, MN, MS, OT, SC], [192, 256, 320, 384, w, r5, 576, 640, 704], Lg)) o from ev_call (fun v μ => (d + 3, 0, 0, 329, 26, [.val (.ref 64)], v.toList ++ [], μ)) 3 ze13 e (fun n => Eq.refl _)
      have ze14 := Option.some.inj h
      subst ze14
      exact ev_rete 9 ho (fun n => Eq.refl _)
    have h := itn h zc11
    exact nos h
  · have h := itn h zc1
    suffices e : Ev (d + 3, 0, 0, 329, 8, [.val (.ref 64)], [], (126, 120, L, [Y, T, H, H2, RU, RV, ST, NS, I0, I1, I2, BO, FI, RG, GU, PU, MA, MN, MS, OT, SC], [192, 256, 320, 384, w, r5, 576, 640, 704], Lg)) o from ev_f (c := (Y 0 3) < 3) _ _ 4  zc1 e (fun n => Eq.refl _)
    have ze15 := Option.some.inj h
    subst ze15
    exact ev_rete 2 ho (fun n => Eq.refl _)
set_option maxRecDepth 1000000 in
set_option maxHeartbeats 4000000 in
theorem R_f_Y_image_1 (d : Nat) (Y T H H2 RV RU ST NS I0 I1 I2 BO FI RG GU PU MA MN MS OT SC : Nat → Nat → Int32) (w r5 : Nat) (L : Nat) (Lg : Int64) {r : Int32 × (Nat → Nat → Int32) × (Nat → Nat → Int32) × (Nat → Nat → Int32) × (Nat → Nat → Int32)} (h : f_Y_image Y NS I0 I1 I2 = some r) : Ev (d + 3, 0, 0, 329, 0, [.val (.ref 64)], [], (126, 120, L, [Y, T, H, H2, RV, RU, ST, NS, I0, I1, I2, BO, FI, RG, GU, PU, MA, MN, MS, OT, SC], [192, 256, 384, 320, w, r5, 576, 640, 704], Lg)) ((0, some (.int r.1), (126, 120, L, [r.2.1, T, H, H2, RV, RU, ST, NS, r.2.2.1, r.2.2.2.1, r.2.2.2.2, BO, FI, RG, GU, PU, MA, MN, MS, OT, SC], [192, 256, 384, 320, w, r5, 576, 640, 704], Lg)) : AOut) := by
  suffices key : ∀ o : AOut, ((0, some (.int r.1), (126, 120, L, [r.2.1, T, H, H2, RV, RU, ST, NS, r.2.2.1, r.2.2.2.1, r.2.2.2.2, BO, FI, RG, GU, PU, MA, MN, MS, OT, SC], [192, 256, 384, 320, w, r5, 576, 640, 704], Lg)) : AOut) = o → Ev (d + 3, 0, 0, 329, 0, [.val (.ref 64)], [], (126, 120, L, [Y, T, H, H2, RV, RU, ST, NS, I0, I1, I2, BO, FI, RG, GU, PU, MA, MN, MS, OT, SC], [192, 256, 384, 320, w, r5, 576, 640, 704], Lg)) o from key _ rfl
  intro o ho
  by_cases zc1 : (Y 0 3) < 3
  · have h := itp h zc1
    suffices e : Ev (d + 3, 0, 0, 329, 10, [.val (.ref 64)], [], (126, 120, L, [Y, T, H, H2, RV, RU, ST, NS, I0, I1, I2, BO, FI, RG, GU, PU, MA, MN, MS, OT, SC], [192, 256, 384, 320, w, r5, 576, 640, 704], Lg)) o from ev_t (c := (Y 0 3) < 3) _ _ 4  zc1 e (fun n => Eq.refl _)
    obtain ⟨j1, zh2, h⟩ := bnd h
    have zh2 : ixx 3 (Y 0 3) = some j1 := zh2
    by_cases zc3 : j1 = 0
    · have h := itp h zc3
      subst zc3
      suffices e : Ev (d + 3, 0, 0, 329, 19, [.val (.ref 64)], [.ref 576], (126, 120, L, [Y, T, H, H2, RV, RU, ST, NS, I0, I1, I2, BO, FI, RG, GU, PU, MA, MN, MS, OT, SC], [192, 256, 384, 320, w, r5, 576, 640, 704], Lg)) o from ev_opt (fun j1 => (d + 3, 0, 0, 329, 19, [.val (.ref 64)], [.ref (a_nth [192, 256, 384, 320, w, r5, 576, 640, 704] 0 (6 + j1))], (126, 120, L, [Y, T, H, H2, RV, RU, ST, NS, I0, I1, I2, BO, FI, RG, GU, PU, MA, MN, MS, OT, SC], [192, 256, 384, 320, w, r5, 576, 640, 704], Lg))) 5 zh2 e (fun n => Eq.refl _)
      obtain ⟨I0_2, zh4, h⟩ := bnd h
      have zh4 : f_State_copy NS I0 = some I0_2 := zh4
      have ze5 := R_f_State_copy_0 (d + 0) Y T H H2 RV RU ST NS I0 I1 I2 BO FI RG GU PU MA MN MS OT SC 192 256 384 320 w r5 576 640 704 L Lg zh4
      suffices e : Ev (d + 3, 0, 0, 329, 26, [.val (.ref 64)], [], (126, 120, L, [Y, T, H, H2, RV, RU, ST, NS, I0_2, I1, I2, BO, FI, RG, GU, PU, MA, MN, MS, OT, SC], [192, 256, 384, 320, w, r5, 576, 640, 704], Lg)) o from ev_call (fun v μ => (d + 3, 0, 0, 329, 26, [.val (.ref 64)], v.toList ++ [], μ)) 3 ze5 e (fun n => Eq.refl _)
      have ze6 := Option.some.inj h
      subst ze6
      exact ev_rete 9 ho (fun n => Eq.refl _)
    have h := itn h zc3
    by_cases zc7 : j1 = 1
    · have h := itp h zc7
      subst zc7
      suffices e : Ev (d + 3, 0, 0, 329, 19, [.val (.ref 64)], [.ref 640], (126, 120, L, [Y, T, H, H2, RV, RU, ST, NS, I0, I1, I2, BO, FI, RG, GU, PU, MA, MN, MS, OT, SC], [192, 256, 384, 320, w, r5, 576, 640, 704], Lg)) o from ev_opt (fun j1 => (d + 3, 0, 0, 329, 19, [.val (.ref 64)], [.ref (a_nth [192, 256, 384, 320, w, r5, 576, 640, 704] 0 (6 + j1))], (126, 120, L, [Y, T, H, H2, RV, RU, ST, NS, I0, I1, I2, BO, FI, RG, GU, PU, MA, MN, MS, OT, SC], [192, 256, 384, 320, w, r5, 576, 640, 704], Lg))) 5 zh2 e (fun n => Eq.refl _)
      obtain ⟨I1_3, zh8, h⟩ := bnd h
      have zh8 : f_State_copy NS I1 = some I1_3 := zh8
      have ze9 := R_f_State_copy_1 (d + 0) Y T H H2 RV RU ST NS I0 I1 I2 BO FI RG GU PU MA MN MS OT SC 192 256 384 320 w r5 576 640 704 L Lg zh8
      suffices e : Ev (d + 3, 0, 0, 329, 26, [.val (.ref 64)], [], (126, 120, L, [Y, T, H, H2, RV, RU, ST, NS, I0, I1_3, I2, BO, FI, RG, GU, PU, MA, MN, MS, OT, SC], [192, 256, 384, 320, w, r5, 576, 640, 704], Lg)) o from ev_call (fun v μ => (d + 3, 0, 0, 329, 26, [.val (.ref 64)], v.toList ++ [], μ)) 3 ze9 e (fun n => Eq.refl _)
      have ze10 := Option.some.inj h
      subst ze10
      exact ev_rete 9 ho (fun n => Eq.refl _)
    have h := itn h zc7
    by_cases zc11 : j1 = 2
    · have h := itp h zc11
      subst zc11
      suffices e : Ev (d + 3, 0, 0, 329, 19, [.val (.ref 64)], [.ref 704], (126, 120, L, [Y, T, H, H2, RV, RU, ST, NS, I0, I1, I2, BO, FI, RG, GU, PU, MA, MN, MS, OT, SC], [192, 256, 384, 320, w, r5, 576, 640, 704], Lg)) o from ev_opt (fun j1 => (d + 3, 0, 0, 329, 19, [.val (.ref 64)], [.ref (a_nth [192, 256, 384, 320, w, r5, 576, 640, 704] 0 (6 + j1))], (126, 120, L, [Y, T, H, H2, RV, RU, ST, NS, I0, I1, I2, BO, FI, RG, GU, PU, MA, MN, MS, OT, SC], [192, 256, 384, 320, w, r5, 576, 640, 704], Lg))) 5 zh2 e (fun n => Eq.refl _)
      obtain ⟨I2_4, zh12, h⟩ := bnd h
      have zh12 : f_State_copy NS I2 = some I2_4 := zh12
      have ze13 := R_f_State_copy_2 (d + 0) Y T H H2 RV RU ST NS I0 I1 I2 BO FI RG GU PU MA MN MS OT SC 192 256 384 320 w r5 576 640 704 L Lg zh12
      suffices e : Ev (d + 3, 0, 0, 329, 26, [.val (.ref 64)], [], (126, 120, L, [Y, T, H, H2, RV, RU, ST, NS, I0, I1, I2_4, BO, FI, RG, GU, PU, MA, MN, MS, OT, SC], [192, 256, 384, 320, w, r5, 576, 640, 704], Lg)) o from ev_call (fun v μ => (d + 3, 0, 0, 329, 26, [.val (.ref 64)], v.toList ++ [], μ)) 3 ze13 e (fun n => Eq.refl _)
      have ze14 := Option.some.inj h
      subst ze14
      exact ev_rete 9 ho (fun n => Eq.refl _)
    have h := itn h zc11
    exact nos h
  · have h := itn h zc1
    suffices e : Ev (d + 3, 0, 0, 329, 8, [.val (.ref 64)], [], (126, 120, L, [Y, T, H, H2, RV, RU, ST, NS, I0, I1, I2, BO, FI, RG, GU, PU, MA, MN, MS, OT, SC], [192, 256, 384, 320, w, r5, 576, 640, 704], Lg)) o from ev_f (c := (Y 0 3) < 3) _ _ 4  zc1 e (fun n => Eq.refl _)
    have ze15 := Option.some.inj h
    subst ze15
    exact ev_rete 2 ho (fun n => Eq.refl _)
set_option maxRecDepth 1000000 in
set_option maxHeartbeats 4000000 in
theorem R_f_Y_image_2 (d : Nat) (Y T H2 H RU RV ST NS I0 I1 I2 BO FI RG GU PU MA MN MS OT SC : Nat → Nat → Int32) (w r5 : Nat) (L : Nat) (Lg : Int64) {r : Int32 × (Nat → Nat → Int32) × (Nat → Nat → Int32) × (Nat → Nat → Int32) × (Nat → Nat → Int32)} (h : f_Y_image Y NS I0 I1 I2 = some r) : Ev (d + 3, 0, 0, 329, 0, [.val (.ref 64)], [], (126, 120, L, [Y, T, H2, H, RU, RV, ST, NS, I0, I1, I2, BO, FI, RG, GU, PU, MA, MN, MS, OT, SC], [256, 192, 320, 384, w, r5, 576, 640, 704], Lg)) ((0, some (.int r.1), (126, 120, L, [r.2.1, T, H2, H, RU, RV, ST, NS, r.2.2.1, r.2.2.2.1, r.2.2.2.2, BO, FI, RG, GU, PU, MA, MN, MS, OT, SC], [256, 192, 320, 384, w, r5, 576, 640, 704], Lg)) : AOut) := by
  suffices key : ∀ o : AOut, ((0, some (.int r.1), (126, 120, L, [r.2.1, T, H2, H, RU, RV, ST, NS, r.2.2.1, r.2.2.2.1, r.2.2.2.2, BO, FI, RG, GU, PU, MA, MN, MS, OT, SC], [256, 192, 320, 384, w, r5, 576, 640, 704], Lg)) : AOut) = o → Ev (d + 3, 0, 0, 329, 0, [.val (.ref 64)], [], (126, 120, L, [Y, T, H2, H, RU, RV, ST, NS, I0, I1, I2, BO, FI, RG, GU, PU, MA, MN, MS, OT, SC], [256, 192, 320, 384, w, r5, 576, 640, 704], Lg)) o from key _ rfl
  intro o ho
  by_cases zc1 : (Y 0 3) < 3
  · have h := itp h zc1
    suffices e : Ev (d + 3, 0, 0, 329, 10, [.val (.ref 64)], [], (126, 120, L, [Y, T, H2, H, RU, RV, ST, NS, I0, I1, I2, BO, FI, RG, GU, PU, MA, MN, MS, OT, SC], [256, 192, 320, 384, w, r5, 576, 640, 704], Lg)) o from ev_t (c := (Y 0 3) < 3) _ _ 4  zc1 e (fun n => Eq.refl _)
    obtain ⟨j1, zh2, h⟩ := bnd h
    have zh2 : ixx 3 (Y 0 3) = some j1 := zh2
    by_cases zc3 : j1 = 0
    · have h := itp h zc3
      subst zc3
      suffices e : Ev (d + 3, 0, 0, 329, 19, [.val (.ref 64)], [.ref 576], (126, 120, L, [Y, T, H2, H, RU, RV, ST, NS, I0, I1, I2, BO, FI, RG, GU, PU, MA, MN, MS, OT, SC], [256, 192, 320, 384, w, r5, 576, 640, 704], Lg)) o from ev_opt (fun j1 => (d + 3, 0, 0, 329, 19, [.val (.ref 64)], [.ref (a_nth [256, 192, 320, 384, w, r5, 576, 640, 704] 0 (6 + j1))], (126, 120, L, [Y, T, H2, H, RU, RV, ST, NS, I0, I1, I2, BO, FI, RG, GU, PU, MA, MN, MS, OT, SC], [256, 192, 320, 384, w, r5, 576, 640, 704], Lg))) 5 zh2 e (fun n => Eq.refl _)
      obtain ⟨I0_2, zh4, h⟩ := bnd h
      have zh4 : f_State_copy NS I0 = some I0_2 := zh4
      have ze5 := R_f_State_copy_0 (d + 0) Y T H2 H RU RV ST NS I0 I1 I2 BO FI RG GU PU MA MN MS OT SC 256 192 320 384 w r5 576 640 704 L Lg zh4
      suffices e : Ev (d + 3, 0, 0, 329, 26, [.val (.ref 64)], [], (126, 120, L, [Y, T, H2, H, RU, RV, ST, NS, I0_2, I1, I2, BO, FI, RG, GU, PU, MA, MN, MS, OT, SC], [256, 192, 320, 384, w, r5, 576, 640, 704], Lg)) o from ev_call (fun v μ => (d + 3, 0, 0, 329, 26, [.val (.ref 64)], v.toList ++ [], μ)) 3 ze5 e (fun n => Eq.refl _)
      have ze6 := Option.some.inj h
      subst ze6
      exact ev_rete 9 ho (fun n => Eq.refl _)
    have h := itn h zc3
    by_cases zc7 : j1 = 1
    · have h := itp h zc7
      subst zc7
      suffices e : Ev (d + 3, 0, 0, 329, 19, [.val (.ref 64)], [.ref 640], (126, 120, L, [Y, T, H2, H, RU, RV, ST, NS, I0, I1, I2, BO, FI, RG, GU, PU, MA, MN, MS, OT, SC], [256, 192, 320, 384, w, r5, 576, 640, 704], Lg)) o from ev_opt (fun j1 => (d + 3, 0, 0, 329, 19, [.val (.ref 64)], [.ref (a_nth [256, 192, 320, 384, w, r5, 576, 640, 704] 0 (6 + j1))], (126, 120, L, [Y, T, H2, H, RU, RV, ST, NS, I0, I1, I2, BO, FI, RG, GU, PU, MA, MN, MS, OT, SC], [256, 192, 320, 384, w, r5, 576, 640, 704], Lg))) 5 zh2 e (fun n => Eq.refl _)
      obtain ⟨I1_3, zh8, h⟩ := bnd h
      have zh8 : f_State_copy NS I1 = some I1_3 := zh8
      have ze9 := R_f_State_copy_1 (d + 0) Y T H2 H RU RV ST NS I0 I1 I2 BO FI RG GU PU MA MN MS OT SC 256 192 320 384 w r5 576 640 704 L Lg zh8
      suffices e : Ev (d + 3, 0, 0, 329, 26, [.val (.ref 64)], [], (126, 120, L, [Y, T, H2, H, RU, RV, ST, NS, I0, I1_3, I2, BO, FI, RG, GU, PU, MA, MN, MS, OT, SC], [256, 192, 320, 384, w, r5, 576, 640, 704], Lg)) o from ev_call (fun v μ => (d + 3, 0, 0, 329, 26, [.val (.ref 64)], v.toList ++ [], μ)) 3 ze9 e (fun n => Eq.refl _)
      have ze10 := Option.some.inj h
      subst ze10
      exact ev_rete 9 ho (fun n => Eq.refl _)
    have h := itn h zc7
    by_cases zc11 : j1 = 2
    · have h := itp h zc11
      subst zc11
      suffices e : Ev (d + 3, 0, 0, 329, 19, [.val (.ref 64)], [.ref 704], (126, 120, L, [Y, T, H2, H, RU, RV, ST, NS, I0, I1, I2, BO, FI, RG, GU, PU, MA, MN, MS, OT, SC], [256, 192, 320, 384, w, r5, 576, 640, 704], Lg)) o from ev_opt (fun j1 => (d + 3, 0, 0, 329, 19, [.val (.ref 64)], [.ref (a_nth [256, 192, 320, 384, w, r5, 576, 640, 704] 0 (6 + j1))], (126, 120, L, [Y, T, H2, H, RU, RV, ST, NS, I0, I1, I2, BO, FI, RG, GU, PU, MA, MN, MS, OT, SC], [256, 192, 320, 384, w, r5, 576, 640, 704], Lg))) 5 zh2 e (fun n => Eq.refl _)
      obtain ⟨I2_4, zh12, h⟩ := bnd h
      have zh12 : f_State_copy NS I2 = some I2_4 := zh12
      have ze13 := R_f_State_copy_2 (d + 0) Y T H2 H RU RV ST NS I0 I1 I2 BO FI RG GU PU MA MN MS OT SC 256 192 320 384 w r5 576 640 704 L Lg zh12
      suffices e : Ev (d + 3, 0, 0, 329, 26, [.val (.ref 64)], [], (126, 120, L, [Y, T, H2, H, RU, RV, ST, NS, I0, I1, I2_4, BO, FI, RG, GU, PU, MA, MN, MS, OT, SC], [256, 192, 320, 384, w, r5, 576, 640, 704], Lg)) o from ev_call (fun v μ => (d + 3, 0, 0, 329, 26, [.val (.ref 64)], v.toList ++ [], μ)) 3 ze13 e (fun n => Eq.refl _)
      have ze14 := Option.some.inj h
      subst ze14
      exact ev_rete 9 ho (fun n => Eq.refl _)
    have h := itn h zc11
    exact nos h
  · have h := itn h zc1
    suffices e : Ev (d + 3, 0, 0, 329, 8, [.val (.ref 64)], [], (126, 120, L, [Y, T, H2, H, RU, RV, ST, NS, I0, I1, I2, BO, FI, RG, GU, PU, MA, MN, MS, OT, SC], [256, 192, 320, 384, w, r5, 576, 640, 704], Lg)) o from ev_f (c := (Y 0 3) < 3) _ _ 4  zc1 e (fun n => Eq.refl _)
    have ze15 := Option.some.inj h
    subst ze15
    exact ev_rete 2 ho (fun n => Eq.refl _)
set_option maxRecDepth 1000000 in
set_option maxHeartbeats 4000000 in
theorem R_f_Y_image_3 (d : Nat) (Y T H2 H RV RU ST NS I0 I1 I2 BO FI RG GU PU MA MN MS OT SC : Nat → Nat → Int32) (w r5 : Nat) (L : Nat) (Lg : Int64) {r : Int32 × (Nat → Nat → Int32) × (Nat → Nat → Int32) × (Nat → Nat → Int32) × (Nat → Nat → Int32)} (h : f_Y_image Y NS I0 I1 I2 = some r) : Ev (d + 3, 0, 0, 329, 0, [.val (.ref 64)], [], (126, 120, L, [Y, T, H2, H, RV, RU, ST, NS, I0, I1, I2, BO, FI, RG, GU, PU, MA, MN, MS, OT, SC], [256, 192, 384, 320, w, r5, 576, 640, 704], Lg)) ((0, some (.int r.1), (126, 120, L, [r.2.1, T, H2, H, RV, RU, ST, NS, r.2.2.1, r.2.2.2.1, r.2.2.2.2, BO, FI, RG, GU, PU, MA, MN, MS, OT, SC], [256, 192, 384, 320, w, r5, 576, 640, 704], Lg)) : AOut) := by
  suffices key : ∀ o : AOut, ((0, some (.int r.1), (126, 120, L, [r.2.1, T, H2, H, RV, RU, ST, NS, r.2.2.1, r.2.2.2.1, r.2.2.2.2, BO, FI, RG, GU, PU, MA, MN, MS, OT, SC], [256, 192, 384, 320, w, r5, 576, 640, 704], Lg)) : AOut) = o → Ev (d + 3, 0, 0, 329, 0, [.val (.ref 64)], [], (126, 120, L, [Y, T, H2, H, RV, RU, ST, NS, I0, I1, I2, BO, FI, RG, GU, PU, MA, MN, MS, OT, SC], [256, 192, 384, 320, w, r5, 576, 640, 704], Lg)) o from key _ rfl
  intro o ho
  by_cases zc1 : (Y 0 3) < 3
  · have h := itp h zc1
    suffices e : Ev (d + 3, 0, 0, 329, 10, [.val (.ref 64)], [], (126, 120, L, [Y, T, H2, H, RV, RU, ST, NS, I0, I1, I2, BO, FI, RG, GU, PU, MA, MN, MS, OT, SC], [256, 192, 384, 320, w, r5, 576, 640, 704], Lg)) o from ev_t (c := (Y 0 3) < 3) _ _ 4  zc1 e (fun n => Eq.refl _)
    obtain ⟨j1, zh2, h⟩ := bnd h
    have zh2 : ixx 3 (Y 0 3) = some j1 := zh2
    by_cases zc3 : j1 = 0
    · have h := itp h zc3
      subst zc3
      suffices e : Ev (d + 3, 0, 0, 329, 19, [.val (.ref 64)], [.ref 576], (126, 120, L, [Y, T, H2, H, RV, RU, ST, NS, I0, I1, I2, BO, FI, RG, GU, PU, MA, MN, MS, OT, SC], [256, 192, 384, 320, w, r5, 576, 640, 704], Lg)) o from ev_opt (fun j1 => (d + 3, 0, 0, 329, 19, [.val (.ref 64)], [.ref (a_nth [256, 192, 384, 320, w, r5, 576, 640, 704] 0 (6 + j1))], (126, 120, L, [Y, T, H2, H, RV, RU, ST, NS, I0, I1, I2, BO, FI, RG, GU, PU, MA, MN, MS, OT, SC], [256, 192, 384, 320, w, r5, 576, 640, 704], Lg))) 5 zh2 e (fun n => Eq.refl _)
      obtain ⟨I0_2, zh4, h⟩ := bnd h
      have zh4 : f_State_copy NS I0 = some I0_2 := zh4
      have ze5 := R_f_State_copy_0 (d + 0) Y T H2 H RV RU ST NS I0 I1 I2 BO FI RG GU PU MA MN MS OT SC 256 192 384 320 w r5 576 640 704 L Lg zh4
      suffices e : Ev (d + 3, 0, 0, 329, 26, [.val (.ref 64)], [], (126, 120, L, [Y, T, H2, H, RV, RU, ST, NS, I0_2, I1, I2, BO, FI, RG, GU, PU, MA, MN, MS, OT, SC], [256, 192, 384, 320, w, r5, 576, 640, 704], Lg)) o from ev_call (fun v μ => (d + 3, 0, 0, 329, 26, [.val (.ref 64)], v.toList ++ [], μ)) 3 ze5 e (fun n => Eq.refl _)
      have ze6 := Option.some.inj h
      subst ze6
      exact ev_rete 9 ho (fun n => Eq.refl _)
    have h := itn h zc3
    by_cases zc7 : j1 = 1
    · have h := itp h zc7
      subst zc7
      suffices e : Ev (d + 3, 0, 0, 329, 19, [.val (.ref 64)], [.ref 640], (126, 120, L, [Y, T, H2, H, RV, RU, ST, NS, I0, I1, I2, BO, FI, RG, GU, PU, MA, MN, MS, OT, SC], [256, 192, 384, 320, w, r5, 576, 640, 704], Lg)) o from ev_opt (fun j1 => (d + 3, 0, 0, 329, 19, [.val (.ref 64)], [.ref (a_nth [256, 192, 384, 320, w, r5, 576, 640, 704] 0 (6 + j1))], (126, 120, L, [Y, T, H2, H, RV, RU, ST, NS, I0, I1, I2, BO, FI, RG, GU, PU, MA, MN, MS, OT, SC], [256, 192, 384, 320, w, r5, 576, 640, 704], Lg))) 5 zh2 e (fun n => Eq.refl _)
      obtain ⟨I1_3, zh8, h⟩ := bnd h
      have zh8 : f_State_copy NS I1 = some I1_3 := zh8
      have ze9 := R_f_State_copy_1 (d + 0) Y T H2 H RV RU ST NS I0 I1 I2 BO FI RG GU PU MA MN MS OT SC 256 192 384 320 w r5 576 640 704 L Lg zh8
      suffices e : Ev (d + 3, 0, 0, 329, 26, [.val (.ref 64)], [], (126, 120, L, [Y, T, H2, H, RV, RU, ST, NS, I0, I1_3, I2, BO, FI, RG, GU, PU, MA, MN, MS, OT, SC], [256, 192, 384, 320, w, r5, 576, 640, 704], Lg)) o from ev_call (fun v μ => (d + 3, 0, 0, 329, 26, [.val (.ref 64)], v.toList ++ [], μ)) 3 ze9 e (fun n => Eq.refl _)
      have ze10 := Option.some.inj h
      subst ze10
      exact ev_rete 9 ho (fun n => Eq.refl _)
    have h := itn h zc7
    by_cases zc11 : j1 = 2
    · have h := itp h zc11
      subst zc11
      suffices e : Ev (d + 3, 0, 0, 329, 19, [.val (.ref 64)], [.ref 704], (126, 120, L, [Y, T, H2, H, RV, RU, ST, NS, I0, I1, I2, BO, FI, RG, GU, PU, MA, MN, MS, OT, SC], [256, 192, 384, 320, w, r5, 576, 640, 704], Lg)) o from ev_opt (fun j1 => (d + 3, 0, 0, 329, 19, [.val (.ref 64)], [.ref (a_nth [256, 192, 384, 320, w, r5, 576, 640, 704] 0 (6 + j1))], (126, 120, L, [Y, T, H2, H, RV, RU, ST, NS, I0, I1, I2, BO, FI, RG, GU, PU, MA, MN, MS, OT, SC], [256, 192, 384, 320, w, r5, 576, 640, 704], Lg))) 5 zh2 e (fun n => Eq.refl _)
      obtain ⟨I2_4, zh12, h⟩ := bnd h
      have zh12 : f_State_copy NS I2 = some I2_4 := zh12
      have ze13 := R_f_State_copy_2 (d + 0) Y T H2 H RV RU ST NS I0 I1 I2 BO FI RG GU PU MA MN MS OT SC 256 192 384 320 w r5 576 640 704 L Lg zh12
      suffices e : Ev (d + 3, 0, 0, 329, 26, [.val (.ref 64)], [], (126, 120, L, [Y, T, H2, H, RV, RU, ST, NS, I0, I1, I2_4, BO, FI, RG, GU, PU, MA, MN, MS, OT, SC], [256, 192, 384, 320, w, r5, 576, 640, 704], Lg)) o from ev_call (fun v μ => (d + 3, 0, 0, 329, 26, [.val (.ref 64)], v.toList ++ [], μ)) 3 ze13 e (fun n => Eq.refl _)
      have ze14 := Option.some.inj h
      subst ze14
      exact ev_rete 9 ho (fun n => Eq.refl _)
    have h := itn h zc11
    exact nos h
  · have h := itn h zc1
    suffices e : Ev (d + 3, 0, 0, 329, 8, [.val (.ref 64)], [], (126, 120, L, [Y, T, H2, H, RV, RU, ST, NS, I0, I1, I2, BO, FI, RG, GU, PU, MA, MN, MS, OT, SC], [256, 192, 384, 320, w, r5, 576, 640, 704], Lg)) o from ev_f (c := (Y 0 3) < 3) _ _ 4  zc1 e (fun n => Eq.refl _)
    have ze15 := Option.some.inj h
    subst ze15
    exact ev_rete 2 ho (fun n => Eq.refl _)
set_option maxRecDepth 1000000 in
set_option maxHeartbeats 4000000 in
theorem R_f_Target_copy_2_3 (d : Nat) (Y T HA HB RA RB ST SA SB I1 I2 BO FI RG GU PU MA MN MS OT SC : Nat → Nat → Int32) (r0 r1 r2 r3 w r5 r6 r7 r8 : Nat) (L : Nat) (Lg : Int64) {r : (Nat → Nat → Int32)} (h : f_Target_copy_2 SB SA = some r) : Ev (d + 1, 0, 0, 281, 0, [.val (.ref 515), .val (.ref 579)], [], (126, 120, L, [Y, T, HA, HB, RA, RB, ST, SA, SB, I1, I2, BO, FI, RG, GU, PU, MA, MN, MS, OT, SC], [r0, r1, r2, r3, w, r5, r6, r7, r8], Lg)) ((0, none, (126, 120, L, [Y, T, HA, HB, RA, RB, ST, r, SB, I1, I2, BO, FI, RG, GU, PU, MA, MN, MS, OT, SC], [r0, r1, r2, r3, w, r5, r6, r7, r8], Lg)) : AOut) := by
  suffices key : ∀ o : AOut, ((0, none, (126, 120, L, [Y, T, HA, HB, RA, RB, ST, r, SB, I1, I2, BO, FI, RG, GU, PU, MA, MN, MS, OT, SC], [r0, r1, r2, r3, w, r5, r6, r7, r8], Lg)) : AOut) = o → Ev (d + 1, 0, 0, 281, 0, [.val (.ref 515), .val (.ref 579)], [], (126, 120, L, [Y, T, HA, HB, RA, RB, ST, SA, SB, I1, I2, BO, FI, RG, GU, PU, MA, MN, MS, OT, SC], [r0, r1, r2, r3, w, r5, r6, r7, r8], Lg)) o from key _ rfl
  intro o ho
  by_cases zc1 : ((0 : Int32) < 0 ∨ (0 : Int32) < 0 ∨ (10 : Int32) < 0 ∨ 10 < (0 : Int32).toNatClampNeg + (10 : Int32).toNatClampNeg ∨ 10 < (0 : Int32).toNatClampNeg + (10 : Int32).toNatClampNeg)
  · exact nos (itp h zc1)
  have h := itn h zc1
  suffices e : Ev (d + 1, 0, 0, 281, 23, [.val (.ref 515), .val (.ref 579)], [], (126, 120, L, [Y, T, HA, HB, RA, RB, ST, (u1 (u2 SA 3 0 (SB 3 0)) 4 (a_cpy (SB 4) ((u2 SA 3 0 (SB 3 0)) 4) (0 : Int32).toNatClampNeg (0 : Int32).toNatClampNeg (10 : Int32).toNatClampNeg)), SB, I1, I2, BO, FI, RG, GU, PU, MA, MN, MS, OT, SC], [r0, r1, r2, r3, w, r5, r6, r7, r8], Lg)) o from ev_d (c := ((0 : Int32) < 0 ∨ (0 : Int32) < 0 ∨ (10 : Int32) < 0 ∨ 10 < (0 : Int32).toNatClampNeg + (10 : Int32).toNatClampNeg ∨ 10 < (0 : Int32).toNatClampNeg + (10 : Int32).toNatClampNeg)) _ 12 zc1 e (fun n => Eq.refl _)
  by_cases zc2 : ((0 : Int32) < 0 ∨ (0 : Int32) < 0 ∨ (10 : Int32) < 0 ∨ 10 < (0 : Int32).toNatClampNeg + (10 : Int32).toNatClampNeg ∨ 10 < (0 : Int32).toNatClampNeg + (10 : Int32).toNatClampNeg)
  · exact nos (itp h zc2)
  have h := itn h zc2
  suffices e : Ev (d + 1, 0, 0, 281, 38, [.val (.ref 515), .val (.ref 579)], [], (126, 120, L, [Y, T, HA, HB, RA, RB, ST, (u1 (u1 (u2 SA 3 0 (SB 3 0)) 4 (a_cpy (SB 4) ((u2 SA 3 0 (SB 3 0)) 4) (0 : Int32).toNatClampNeg (0 : Int32).toNatClampNeg (10 : Int32).toNatClampNeg)) 5 (a_cpy (SB 5) ((u1 (u2 SA 3 0 (SB 3 0)) 4 (a_cpy (SB 4) ((u2 SA 3 0 (SB 3 0)) 4) (0 : Int32).toNatClampNeg (0 : Int32).toNatClampNeg (10 : Int32).toNatClampNeg)) 5) (0 : Int32).toNatClampNeg (0 : Int32).toNatClampNeg (10 : Int32).toNatClampNeg)), SB, I1, I2, BO, FI, RG, GU, PU, MA, MN, MS, OT, SC], [r0, r1, r2, r3, w, r5, r6, r7, r8], Lg)) o from ev_d (c := ((0 : Int32) < 0 ∨ (0 : Int32) < 0 ∨ (10 : Int32) < 0 ∨ 10 < (0 : Int32).toNatClampNeg + (10 : Int32).toNatClampNeg ∨ 10 < (0 : Int32).toNatClampNeg + (10 : Int32).toNatClampNeg)) _ 8 zc2 e (fun n => Eq.refl _)
  have ze3 := Option.some.inj h
  subst ze3
  exact ev_rete 1 ho (fun n => Eq.refl _)
set_option maxRecDepth 1000000 in
set_option maxHeartbeats 4000000 in
theorem R_f_State_copy_3 (d : Nat) (Y T HA HB RA RB ST SA SB I1 I2 BO FI RG GU PU MA MN MS OT SC : Nat → Nat → Int32) (r0 r1 r2 r3 w r5 r6 r7 r8 : Nat) (L : Nat) (Lg : Int64) {r : (Nat → Nat → Int32)} (h : f_State_copy SB SA = some r) : Ev (d + 2, 0, 0, 258, 0, [.val (.ref 512), .val (.ref 576)], [], (126, 120, L, [Y, T, HA, HB, RA, RB, ST, SA, SB, I1, I2, BO, FI, RG, GU, PU, MA, MN, MS, OT, SC], [r0, r1, r2, r3, w, r5, r6, r7, r8], Lg)) ((0, none, (126, 120, L, [Y, T, HA, HB, RA, RB, ST, r, SB, I1, I2, BO, FI, RG, GU, PU, MA, MN, MS, OT, SC], [r0, r1, r2, r3, w, r5, r6, r7, r8], Lg)) : AOut) := by
  suffices key : ∀ o : AOut, ((0, none, (126, 120, L, [Y, T, HA, HB, RA, RB, ST, r, SB, I1, I2, BO, FI, RG, GU, PU, MA, MN, MS, OT, SC], [r0, r1, r2, r3, w, r5, r6, r7, r8], Lg)) : AOut) = o → Ev (d + 2, 0, 0, 258, 0, [.val (.ref 512), .val (.ref 576)], [], (126, 120, L, [Y, T, HA, HB, RA, RB, ST, SA, SB, I1, I2, BO, FI, RG, GU, PU, MA, MN, MS, OT, SC], [r0, r1, r2, r3, w, r5, r6, r7, r8], Lg)) o from key _ rfl
  intro o ho
  by_cases zc1 : ((0 : Int32) < 0 ∨ (0 : Int32) < 0 ∨ (10 : Int32) < 0 ∨ 10 < (0 : Int32).toNatClampNeg + (10 : Int32).toNatClampNeg ∨ 10 < (0 : Int32).toNatClampNeg + (10 : Int32).toNatClampNeg)
  · exact nos (itp h zc1)
  have h := itn h zc1
  suffices e : Ev (d + 2, 0, 0, 258, 15, [.val (.ref 512), .val (.ref 576)], [], (126, 120, L, [Y, T, HA, HB, RA, RB, ST, (u1 SA 1 (a_cpy (SB 1) (SA 1) (0 : Int32).toNatClampNeg (0 : Int32).toNatClampNeg (10 : Int32).toNatClampNeg)), SB, I1, I2, BO, FI, RG, GU, PU, MA, MN, MS, OT, SC], [r0, r1, r2, r3, w, r5, r6, r7, r8], Lg)) o from ev_d (c := ((0 : Int32) < 0 ∨ (0 : Int32) < 0 ∨ (10 : Int32) < 0 ∨ 10 < (0 : Int32).toNatClampNeg + (10 : Int32).toNatClampNeg ∨ 10 < (0 : Int32).toNatClampNeg + (10 : Int32).toNatClampNeg)) _ 8 zc1 e (fun n => Eq.refl _)
  by_cases zc2 : ((0 : Int32) < 0 ∨ (0 : Int32) < 0 ∨ (10 : Int32) < 0 ∨ 10 < (0 : Int32).toNatClampNeg + (10 : Int32).toNatClampNeg ∨ 10 < (0 : Int32).toNatClampNeg + (10 : Int32).toNatClampNeg)
  · exact nos (itp h zc2)
  have h := itn h zc2
  suffices e : Ev (d + 2, 0, 0, 258, 30, [.val (.ref 512), .val (.ref 576)], [], (126, 120, L, [Y, T, HA, HB, RA, RB, ST, (u1 (u1 SA 1 (a_cpy (SB 1) (SA 1) (0 : Int32).toNatClampNeg (0 : Int32).toNatClampNeg (10 : Int32).toNatClampNeg)) 2 (a_cpy (SB 2) ((u1 SA 1 (a_cpy (SB 1) (SA 1) (0 : Int32).toNatClampNeg (0 : Int32).toNatClampNeg (10 : Int32).toNatClampNeg)) 2) (0 : Int32).toNatClampNeg (0 : Int32).toNatClampNeg (10 : Int32).toNatClampNeg)), SB, I1, I2, BO, FI, RG, GU, PU, MA, MN, MS, OT, SC], [r0, r1, r2, r3, w, r5, r6, r7, r8], Lg)) o from ev_d (c := ((0 : Int32) < 0 ∨ (0 : Int32) < 0 ∨ (10 : Int32) < 0 ∨ 10 < (0 : Int32).toNatClampNeg + (10 : Int32).toNatClampNeg ∨ 10 < (0 : Int32).toNatClampNeg + (10 : Int32).toNatClampNeg)) _ 8 zc2 e (fun n => Eq.refl _)
  obtain ⟨SA_1, zh3, h⟩ := bnd h
  have zh3 : f_Target_copy_2 SB (u1 (u1 SA 1 (a_cpy (SB 1) (SA 1) (0 : Int32).toNatClampNeg (0 : Int32).toNatClampNeg (10 : Int32).toNatClampNeg)) 2 (a_cpy (SB 2) ((u1 SA 1 (a_cpy (SB 1) (SA 1) (0 : Int32).toNatClampNeg (0 : Int32).toNatClampNeg (10 : Int32).toNatClampNeg)) 2) (0 : Int32).toNatClampNeg (0 : Int32).toNatClampNeg (10 : Int32).toNatClampNeg)) = some SA_1 := zh3
  have ze4 := R_f_Target_copy_2_3 (d + 0) Y T HA HB RA RB ST (u1 (u1 SA 1 (a_cpy (SB 1) (SA 1) (0 : Int32).toNatClampNeg (0 : Int32).toNatClampNeg (10 : Int32).toNatClampNeg)) 2 (a_cpy (SB 2) ((u1 SA 1 (a_cpy (SB 1) (SA 1) (0 : Int32).toNatClampNeg (0 : Int32).toNatClampNeg (10 : Int32).toNatClampNeg)) 2) (0 : Int32).toNatClampNeg (0 : Int32).toNatClampNeg (10 : Int32).toNatClampNeg)) SB I1 I2 BO FI RG GU PU MA MN MS OT SC r0 r1 r2 r3 w r5 r6 r7 r8 L Lg zh3
  suffices e : Ev (d + 2, 0, 0, 258, 41, [.val (.ref 512), .val (.ref 576)], [], (126, 120, L, [Y, T, HA, HB, RA, RB, ST, SA_1, SB, I1, I2, BO, FI, RG, GU, PU, MA, MN, MS, OT, SC], [r0, r1, r2, r3, w, r5, r6, r7, r8], Lg)) o from ev_call (fun v μ => (d + 2, 0, 0, 258, 41, [.val (.ref 512), .val (.ref 576)], v.toList ++ [], μ)) 5 ze4 e (fun n => Eq.refl _)
  by_cases zc5 : ((0 : Int32) < 0 ∨ (0 : Int32) < 0 ∨ ((((u2 (u2 SA_1 0 3 (SB 0 3)) 0 4 (SB 0 4)) 0 4) * 10) : Int32) < 0 ∨ 300 < (0 : Int32).toNatClampNeg + ((((u2 (u2 SA_1 0 3 (SB 0 3)) 0 4 (SB 0 4)) 0 4) * 10) : Int32).toNatClampNeg ∨ 300 < (0 : Int32).toNatClampNeg + ((((u2 (u2 SA_1 0 3 (SB 0 3)) 0 4 (SB 0 4)) 0 4) * 10) : Int32).toNatClampNeg)
  · exact nos (itp h zc5)
  have h := itn h zc5
  suffices e : Ev (d + 2, 0, 0, 258, 77, [.val (.ref 512), .val (.ref 576)], [], (126, 120, L, [Y, T, HA, HB, RA, RB, ST, (u1 (u2 (u2 SA_1 0 3 (SB 0 3)) 0 4 (SB 0 4)) 6 (a_cpy (SB 6) ((u2 (u2 SA_1 0 3 (SB 0 3)) 0 4 (SB 0 4)) 6) (0 : Int32).toNatClampNeg (0 : Int32).toNatClampNeg ((((u2 (u2 SA_1 0 3 (SB 0 3)) 0 4 (SB 0 4)) 0 4) * 10) : Int32).toNatClampNeg)), SB, I1, I2, BO, FI, RG, GU, PU, MA, MN, MS, OT, SC], [r0, r1, r2, r3, w, r5, r6, r7, r8], Lg)) o from ev_d (c := ((0 : Int32) < 0 ∨ (0 : Int32) < 0 ∨ ((((u2 (u2 SA_1 0 3 (SB 0 3)) 0 4 (SB 0 4)) 0 4) * 10) : Int32) < 0 ∨ 300 < (0 : Int32).toNatClampNeg + ((((u2 (u2 SA_1 0 3 (SB 0 3)) 0 4 (SB 0 4)) 0 4) * 10) : Int32).toNatClampNeg ∨ 300 < (0 : Int32).toNatClampNeg + ((((u2 (u2 SA_1 0 3 (SB 0 3)) 0 4 (SB 0 4)) 0 4) * 10) : Int32).toNatClampNeg)) _ 19 zc5 e (fun n => Eq.refl _)
  by_cases zc6 : ((0 : Int32) < 0 ∨ (0 : Int32) < 0 ∨ (((u1 (u2 (u2 SA_1 0 3 (SB 0 3)) 0 4 (SB 0 4)) 6 (a_cpy (SB 6) ((u2 (u2 SA_1 0 3 (SB 0 3)) 0 4 (SB 0 4)) 6) (0 : Int32).toNatClampNeg (0 : Int32).toNatClampNeg ((((u2 (u2 SA_1 0 3 (SB 0 3)) 0 4 (SB 0 4)) 0 4) * 10) : Int32).toNatClampNeg)) 0 4) * 10) < 0 ∨ 300 < (0 : Int32).toNatClampNeg + (((u1 (u2 (u2 SA_1 0 3 (SB 0 3)) 0 4 (SB 0 4)) 6 (a_cpy (SB 6) ((u2 (u2 SA_1 0 3 (SB 0 3)) 0 4 (SB 0 4)) 6) (0 : Int32).toNatClampNeg (0 : Int32).toNatClampNeg ((((u2 (u2 SA_1 0 3 (SB 0 3)) 0 4 (SB 0 4)) 0 4) * 10) : Int32).toNatClampNeg)) 0 4) * 10).toNatClampNeg ∨ 300 < (0 : Int32).toNatClampNeg + (((u1 (u2 (u2 SA_1 0 3 (SB 0 3)) 0 4 (SB 0 4)) 6 (a_cpy (SB 6) ((u2 (u2 SA_1 0 3 (SB 0 3)) 0 4 (SB 0 4)) 6) (0 : Int32).toNatClampNeg (0 : Int32).toNatClampNeg ((((u2 (u2 SA_1 0 3 (SB 0 3)) 0 4 (SB 0 4)) 0 4) * 10) : Int32).toNatClampNeg)) 0 4) * 10).toNatClampNeg)
  · exact nos (itp h zc6)
  have h := itn h zc6
  suffices e : Ev (d + 2, 0, 0, 258, 97, [.val (.ref 512), .val (.ref 576)], [], (126, 120, L, [Y, T, HA, HB, RA, RB, ST, (u1 (u1 (u2 (u2 SA_1 0 3 (SB 0 3)) 0 4 (SB 0 4)) 6 (a_cpy (SB 6) ((u2 (u2 SA_1 0 3 (SB 0 3)) 0 4 (SB 0 4)) 6) (0 : Int32).toNatClampNeg (0 : Int32).toNatClampNeg ((((u2 (u2 SA_1 0 3 (SB 0 3)) 0 4 (SB 0 4)) 0 4) * 10) : Int32).toNatClampNeg)) 7 (a_cpy (SB 7) ((u1 (u2 (u2 SA_1 0 3 (SB 0 3)) 0 4 (SB 0 4)) 6 (a_cpy (SB 6) ((u2 (u2 SA_1 0 3 (SB 0 3)) 0 4 (SB 0 4)) 6) (0 : Int32).toNatClampNeg (0 : Int32).toNatClampNeg ((((u2 (u2 SA_1 0 3 (SB 0 3)) 0 4 (SB 0 4)) 0 4) * 10) : Int32).toNatClampNeg)) 7) (0 : Int32).toNatClampNeg (0 : Int32).toNatClampNeg (((u1 (u2 (u2 SA_1 0 3 (SB 0 3)) 0 4 (SB 0 4)) 6 (a_cpy (SB 6) ((u2 (u2 SA_1 0 3 (SB 0 3)) 0 4 (SB 0 4)) 6) (0 : Int32).toNatClampNeg (0 : Int32).toNatClampNeg ((((u2 (u2 SA_1 0 3 (SB 0 3)) 0 4 (SB 0 4)) 0 4) * 10) : Int32).toNatClampNeg)) 0 4) * 10).toNatClampNeg)), SB, I1, I2, BO, FI, RG, GU, PU, MA, MN, MS, OT, SC], [r0, r1, r2, r3, w, r5, r6, r7, r8], Lg)) o from ev_d (c := ((0 : Int32) < 0 ∨ (0 : Int32) < 0 ∨ (((u1 (u2 (u2 SA_1 0 3 (SB 0 3)) 0 4 (SB 0 4)) 6 (a_cpy (SB 6) ((u2 (u2 SA_1 0 3 (SB 0 3)) 0 4 (SB 0 4)) 6) (0 : Int32).toNatClampNeg (0 : Int32).toNatClampNeg ((((u2 (u2 SA_1 0 3 (SB 0 3)) 0 4 (SB 0 4)) 0 4) * 10) : Int32).toNatClampNeg)) 0 4) * 10) < 0 ∨ 300 < (0 : Int32).toNatClampNeg + (((u1 (u2 (u2 SA_1 0 3 (SB 0 3)) 0 4 (SB 0 4)) 6 (a_cpy (SB 6) ((u2 (u2 SA_1 0 3 (SB 0 3)) 0 4 (SB 0 4)) 6) (0 : Int32).toNatClampNeg (0 : Int32).toNatClampNeg ((((u2 (u2 SA_1 0 3 (SB 0 3)) 0 4 (SB 0 4)) 0 4) * 10) : Int32).toNatClampNeg)) 0 4) * 10).toNatClampNeg ∨ 300 < (0 : Int32).toNatClampNeg + (((u1 (u2 (u2 SA_1 0 3 (SB 0 3)) 0 4 (SB 0 4)) 6 (a_cpy (SB 6) ((u2 (u2 SA_1 0 3 (SB 0 3)) 0 4 (SB 0 4)) 6) (0 : Int32).toNatClampNeg (0 : Int32).toNatClampNeg ((((u2 (u2 SA_1 0 3 (SB 0 3)) 0 4 (SB 0 4)) 0 4) * 10) : Int32).toNatClampNeg)) 0 4) * 10).toNatClampNeg)) _ 11 zc6 e (fun n => Eq.refl _)
  have ze7 := Option.some.inj h
  subst ze7
  exact ev_rete 1 ho (fun n => Eq.refl _)
set_option maxRecDepth 1000000 in
set_option maxHeartbeats 4000000 in
theorem R_f_Target_copy_2_4 (d : Nat) (Y T HA HB RA RB ST SA I0 SB I2 BO FI RG GU PU MA MN MS OT SC : Nat → Nat → Int32) (r0 r1 r2 r3 w r5 r6 r7 r8 : Nat) (L : Nat) (Lg : Int64) {r : (Nat → Nat → Int32)} (h : f_Target_copy_2 SB SA = some r) : Ev (d + 1, 0, 0, 281, 0, [.val (.ref 515), .val (.ref 643)], [], (126, 120, L, [Y, T, HA, HB, RA, RB, ST, SA, I0, SB, I2, BO, FI, RG, GU, PU, MA, MN, MS, OT, SC], [r0, r1, r2, r3, w, r5, r6, r7, r8], Lg)) ((0, none, (126, 120, L, [Y, T, HA, HB, RA, RB, ST, r, I0, SB, I2, BO, FI, RG, GU, PU, MA, MN, MS, OT, SC], [r0, r1, r2, r3, w, r5, r6, r7, r8], Lg)) : AOut) := by
  suffices key : ∀ o : AOut, ((0, none, (126, 120, L, [Y, T, HA, HB, RA, RB, ST, r, I0, SB, I2, BO, FI, RG, GU, PU, MA, MN, MS, OT, SC], [r0, r1, r2, r3, w, r5, r6, r7, r8], Lg)) : AOut) = o → Ev (d + 1, 0, 0, 281, 0, [.val (.ref 515), .val (.ref 643)], [], (126, 120, L, [Y, T, HA, HB, RA, RB, ST, SA, I0, SB, I2, BO, FI, RG, GU, PU, MA, MN, MS, OT, SC], [r0, r1, r2, r3, w, r5, r6, r7, r8], Lg)) o from key _ rfl
  intro o ho
  by_cases zc1 : ((0 : Int32) < 0 ∨ (0 : Int32) < 0 ∨ (10 : Int32) < 0 ∨ 10 < (0 : Int32).toNatClampNeg + (10 : Int32).toNatClampNeg ∨ 10 < (0 : Int32).toNatClampNeg + (10 : Int32).toNatClampNeg)
  · exact nos (itp h zc1)
  have h := itn h zc1
  suffices e : Ev (d + 1, 0, 0, 281, 23, [.val (.ref 515), .val (.ref 643)], [], (126, 120, L, [Y, T, HA, HB, RA, RB, ST, (u1 (u2 SA 3 0 (SB 3 0)) 4 (a_cpy (SB 4) ((u2 SA 3 0 (SB 3 0)) 4) (0 : Int32).toNatClampNeg (0 : Int32).toNatClampNeg (10 : Int32).toNatClampNeg)), I0, SB, I2, BO, FI, RG, GU, PU, MA, MN, MS, OT, SC], [r0, r1, r2, r3, w, r5, r6, r7, r8], Lg)) o from ev_d (c := ((0 : Int32) < 0 ∨ (0 : Int32) < 0 ∨ (10 : Int32) < 0 ∨ 10 < (0 : Int32).toNatClampNeg + (10 : Int32).toNatClampNeg ∨ 10 < (0 : Int32).toNatClampNeg + (10 : Int32).toNatClampNeg)) _ 12 zc1 e (fun n => Eq.refl _)
  by_cases zc2 : ((0 : Int32) < 0 ∨ (0 : Int32) < 0 ∨ (10 : Int32) < 0 ∨ 10 < (0 : Int32).toNatClampNeg + (10 : Int32).toNatClampNeg ∨ 10 < (0 : Int32).toNatClampNeg + (10 : Int32).toNatClampNeg)
  · exact nos (itp h zc2)
  have h := itn h zc2
  suffices e : Ev (d + 1, 0, 0, 281, 38, [.val (.ref 515), .val (.ref 643)], [], (126, 120, L, [Y, T, HA, HB, RA, RB, ST, (u1 (u1 (u2 SA 3 0 (SB 3 0)) 4 (a_cpy (SB 4) ((u2 SA 3 0 (SB 3 0)) 4) (0 : Int32).toNatClampNeg (0 : Int32).toNatClampNeg (10 : Int32).toNatClampNeg)) 5 (a_cpy (SB 5) ((u1 (u2 SA 3 0 (SB 3 0)) 4 (a_cpy (SB 4) ((u2 SA 3 0 (SB 3 0)) 4) (0 : Int32).toNatClampNeg (0 : Int32).toNatClampNeg (10 : Int32).toNatClampNeg)) 5) (0 : Int32).toNatClampNeg (0 : Int32).toNatClampNeg (10 : Int32).toNatClampNeg)), I0, SB, I2, BO, FI, RG, GU, PU, MA, MN, MS, OT, SC], [r0, r1, r2, r3, w, r5, r6, r7, r8], Lg)) o from ev_d (c := ((0 : Int32) < 0 ∨ (0 : Int32) < 0 ∨ (10 : Int32) < 0 ∨ 10 < (0 : Int32).toNatClampNeg + (10 : Int32).toNatClampNeg ∨ 10 < (0 : Int32).toNatClampNeg + (10 : Int32).toNatClampNeg)) _ 8 zc2 e (fun n => Eq.refl _)
  have ze3 := Option.some.inj h
  subst ze3
  exact ev_rete 1 ho (fun n => Eq.refl _)
set_option maxRecDepth 1000000 in
set_option maxHeartbeats 4000000 in
theorem R_f_State_copy_4 (d : Nat) (Y T HA HB RA RB ST SA I0 SB I2 BO FI RG GU PU MA MN MS OT SC : Nat → Nat → Int32) (r0 r1 r2 r3 w r5 r6 r7 r8 : Nat) (L : Nat) (Lg : Int64) {r : (Nat → Nat → Int32)} (h : f_State_copy SB SA = some r) : Ev (d + 2, 0, 0, 258, 0, [.val (.ref 512), .val (.ref 640)], [], (126, 120, L, [Y, T, HA, HB, RA, RB, ST, SA, I0, SB, I2, BO, FI, RG, GU, PU, MA, MN, MS, OT, SC], [r0, r1, r2, r3, w, r5, r6, r7, r8], Lg)) ((0, none, (126, 120, L, [Y, T, HA, HB, RA, RB, ST, r, I0, SB, I2, BO, FI, RG, GU, PU, MA, MN, MS, OT, SC], [r0, r1, r2, r3, w, r5, r6, r7, r8], Lg)) : AOut) := by
  suffices key : ∀ o : AOut, ((0, none, (126, 120, L, [Y, T, HA, HB, RA, RB, ST, r, I0, SB, I2, BO, FI, RG, GU, PU, MA, MN, MS, OT, SC], [r0, r1, r2, r3, w, r5, r6, r7, r8], Lg)) : AOut) = o → Ev (d + 2, 0, 0, 258, 0, [.val (.ref 512), .val (.ref 640)], [], (126, 120, L, [Y, T, HA, HB, RA, RB, ST, SA, I0, SB, I2, BO, FI, RG, GU, PU, MA, MN, MS, OT, SC], [r0, r1, r2, r3, w, r5, r6, r7, r8], Lg)) o from key _ rfl
  intro o ho
  by_cases zc1 : ((0 : Int32) < 0 ∨ (0 : Int32) < 0 ∨ (10 : Int32) < 0 ∨ 10 < (0 : Int32).toNatClampNeg + (10 : Int32).toNatClampNeg ∨ 10 < (0 : Int32).toNatClampNeg + (10 : Int32).toNatClampNeg)
  · exact nos (itp h zc1)
  have h := itn h zc1
  suffices e : Ev (d + 2, 0, 0, 258, 15, [.val (.ref 512), .val (.ref 640)], [], (126, 120, L, [Y, T, HA, HB, RA, RB, ST, (u1 SA 1 (a_cpy (SB 1) (SA 1) (0 : Int32).toNatClampNeg (0 : Int32).toNatClampNeg (10 : Int32).toNatClampNeg)), I0, SB, I2, BO, FI, RG, GU, PU, MA, MN, MS, OT, SC], [r0, r1, r2, r3, w, r5, r6, r7, r8], Lg)) o from ev_d (c := ((0 : Int32) < 0 ∨ (0 : Int32) < 0 ∨ (10 : Int32) < 0 ∨ 10 < (0 : Int32).toNatClampNeg + (10 : Int32).toNatClampNeg ∨ 10 < (0 : Int32).toNatClampNeg + (10 : Int32).toNatClampNeg)) _ 8 zc1 e (fun n => Eq.refl _)
  by_cases zc2 : ((0 : Int32) < 0 ∨ (0 : Int32) < 0 ∨ (10 : Int32) < 0 ∨ 10 < (0 : Int32).toNatClampNeg + (10 : Int32).toNatClampNeg ∨ 10 < (0 : Int32).toNatClampNeg + (10 : Int32).toNatClampNeg)
  · exact nos (itp h zc2)
  have h := itn h zc2
  suffices e : Ev (d + 2, 0, 0, 258, 30, [.val (.ref 512), .val (.ref 640)], [], (126, 120, L, [Y, T, HA, HB, RA, RB, ST, (u1 (u1 SA 1 (a_cpy (SB 1) (SA 1) (0 : Int32).toNatClampNeg (0 : Int32).toNatClampNeg (10 : Int32).toNatClampNeg)) 2 (a_cpy (SB 2) ((u1 SA 1 (a_cpy (SB 1) (SA 1) (0 : Int32).toNatClampNeg (0 : Int32).toNatClampNeg (10 : Int32).toNatClampNeg)) 2) (0 : Int32).toNatClampNeg (0 : Int32).toNatClampNeg (10 : Int32).toNatClampNeg)), I0, SB, I2, BO, FI, RG, GU, PU, MA, MN, MS, OT, SC], [r0, r1, r2, r3, w, r5, r6, r7, r8], Lg)) o from ev_d (c := ((0 : Int32) < 0 ∨ (0 : Int32) < 0 ∨ (10 : Int32) < 0 ∨ 10 < (0 : Int32).toNatClampNeg + (10 : Int32).toNatClampNeg ∨ 10 < (0 : Int32).toNatClampNeg + (10 : Int32).toNatClampNeg)) _ 8 zc2 e (fun n => Eq.refl _)
  obtain ⟨SA_1, zh3, h⟩ := bnd h
  have zh3 : f_Target_copy_2 SB (u1 (u1 SA 1 (a_cpy (SB 1) (SA 1) (0 : Int32).toNatClampNeg (0 : Int32).toNatClampNeg (10 : Int32).toNatClampNeg)) 2 (a_cpy (SB 2) ((u1 SA 1 (a_cpy (SB 1) (SA 1) (0 : Int32).toNatClampNeg (0 : Int32).toNatClampNeg (10 : Int32).toNatClampNeg)) 2) (0 : Int32).toNatClampNeg (0 : Int32).toNatClampNeg (10 : Int32).toNatClampNeg)) = some SA_1 := zh3
  have ze4 := R_f_Target_copy_2_4 (d + 0) Y T HA HB RA RB ST (u1 (u1 SA 1 (a_cpy (SB 1) (SA 1) (0 : Int32).toNatClampNeg (0 : Int32).toNatClampNeg (10 : Int32).toNatClampNeg)) 2 (a_cpy (SB 2) ((u1 SA 1 (a_cpy (SB 1) (SA 1) (0 : Int32).toNatClampNeg (0 : Int32).toNatClampNeg (10 : Int32).toNatClampNeg)) 2) (0 : Int32).toNatClampNeg (0 : Int32).toNatClampNeg (10 : Int32).toNatClampNeg)) I0 SB I2 BO FI RG GU PU MA MN MS OT SC r0 r1 r2 r3 w r5 r6 r7 r8 L Lg zh3
  suffices e : Ev (d + 2, 0, 0, 258, 41, [.val (.ref 512), .val (.ref 640)], [], (126, 120, L, [Y, T, HA, HB, RA, RB, ST, SA_1, I0, SB, I2, BO, FI, RG, GU, PU, MA, MN, MS, OT, SC], [r0, r1, r2, r3, w, r5, r6, r7, r8], Lg)) o from ev_call (fun v μ => (d + 2, 0, 0, 258, 41, [.val (.ref 512), .val (.ref 640)], v.toList ++ [], μ)) 5 ze4 e (fun n => Eq.refl _)
  by_cases zc5 : ((0 : Int32) < 0 ∨ (0 : Int32) < 0 ∨ ((((u2 (u2 SA_1 0 3 (SB 0 3)) 0 4 (SB 0 4)) 0 4) * 10) : Int32) < 0 ∨ 300 < (0 : Int32).toNatClampNeg + ((((u2 (u2 SA_1 0 3 (SB 0 3)) 0 4 (SB 0 4)) 0 4) * 10) : Int32).toNatClampNeg ∨ 300 < (0 : Int32).toNatClampNeg + ((((u2 (u2 SA_1 0 3 (SB 0 3)) 0 4 (SB 0 4)) 0 4) * 10) : Int32).toNatClampNeg)
  · exact nos (itp h zc5)
  have h := itn h zc5
  suffices e : Ev (d + 2, 0, 0, 258, 77, [.val (.ref 512), .val (.ref 640)], [], (126, 120, L, [Y, T, HA, HB, RA, RB, ST, (u1 (u2 (u2 SA_1 0 3 (SB 0 3)) 0 4 (SB 0 4)) 6 (a_cpy (SB 6) ((u2 (u2 SA_1 0 3 (SB 0 3)) 0 4 (SB 0 4)) 6) (0 : Int32).toNatClampNeg (0 : Int32).toNatClampNeg ((((u2 (u2 SA_1 0 3 (SB 0 3)) 0 4 (SB 0 4)) 0 4) * 10) : Int32).toNatClampNeg)), I0, SB, I2, BO, FI, RG, GU, PU, MA, MN, MS, OT, SC], [r0, r1, r2, r3, w, r5, r6, r7, r8], Lg)) o from ev_d (c := ((0 : Int32) < 0 ∨ (0 : Int32) < 0 ∨ ((((u2 (u2 SA_1 0 3 (SB 0 3)) 0 4 (SB 0 4)) 0 4) * 10) : Int32) < 0 ∨ 300 < (0 : Int32).toNatClampNeg + ((((u2 (u2 SA_1 0 3 (SB 0 3)) 0 4 (SB 0 4)) 0 4) * 10) : Int32).toNatClampNeg ∨ 300 < (0 : Int32).toNatClampNeg + ((((u2 (u2 SA_1 0 3 (SB 0 3)) 0 4 (SB 0 4)) 0 4) * 10) : Int32).toNatClampNeg)) _ 19 zc5 e (fun n => Eq.refl _)
  by_cases zc6 : ((0 : Int32) < 0 ∨ (0 : Int32) < 0 ∨ (((u1 (u2 (u2 SA_1 0 3 (SB 0 3)) 0 4 (SB 0 4)) 6 (a_cpy (SB 6) ((u2 (u2 SA_1 0 3 (SB 0 3)) 0 4 (SB 0 4)) 6) (0 : Int32).toNatClampNeg (0 : Int32).toNatClampNeg ((((u2 (u2 SA_1 0 3 (SB 0 3)) 0 4 (SB 0 4)) 0 4) * 10) : Int32).toNatClampNeg)) 0 4) * 10) < 0 ∨ 300 < (0 : Int32).toNatClampNeg + (((u1 (u2 (u2 SA_1 0 3 (SB 0 3)) 0 4 (SB 0 4)) 6 (a_cpy (SB 6) ((u2 (u2 SA_1 0 3 (SB 0 3)) 0 4 (SB 0 4)) 6) (0 : Int32).toNatClampNeg (0 : Int32).toNatClampNeg ((((u2 (u2 SA_1 0 3 (SB 0 3)) 0 4 (SB 0 4)) 0 4) * 10) : Int32).toNatClampNeg)) 0 4) * 10).toNatClampNeg ∨ 300 < (0 : Int32).toNatClampNeg + (((u1 (u2 (u2 SA_1 0 3 (SB 0 3)) 0 4 (SB 0 4)) 6 (a_cpy (SB 6) ((u2 (u2 SA_1 0 3 (SB 0 3)) 0 4 (SB 0 4)) 6) (0 : Int32).toNatClampNeg (0 : Int32).toNatClampNeg ((((u2 (u2 SA_1 0 3 (SB 0 3)) 0 4 (SB 0 4)) 0 4) * 10) : Int32).toNatClampNeg)) 0 4) * 10).toNatClampNeg)
  · exact nos (itp h zc6)
  have h := itn h zc6
  suffices e : Ev (d + 2, 0, 0, 258, 97, [.val (.ref 512), .val (.ref 640)], [], (126, 120, L, [Y, T, HA, HB, RA, RB, ST, (u1 (u1 (u2 (u2 SA_1 0 3 (SB 0 3)) 0 4 (SB 0 4)) 6 (a_cpy (SB 6) ((u2 (u2 SA_1 0 3 (SB 0 3)) 0 4 (SB 0 4)) 6) (0 : Int32).toNatClampNeg (0 : Int32).toNatClampNeg ((((u2 (u2 SA_1 0 3 (SB 0 3)) 0 4 (SB 0 4)) 0 4) * 10) : Int32).toNatClampNeg)) 7 (a_cpy (SB 7) ((u1 (u2 (u2 SA_1 0 3 (SB 0 3)) 0 4 (SB 0 4)) 6 (a_cpy (SB 6) ((u2 (u2 SA_1 0 3 (SB 0 3)) 0 4 (SB 0 4)) 6) (0 : Int32).toNatClampNeg (0 : Int32).toNatClampNeg ((((u2 (u2 SA_1 0 3 (SB 0 3)) 0 4 (SB 0 4)) 0 4) * 10) : Int32).toNatClampNeg)) 7) (0 : Int32).toNatClampNeg (0 : Int32).toNatClampNeg (((u1 (u2 (u2 SA_1 0 3 (SB 0 3)) 0 4 (SB 0 4)) 6 (a_cpy (SB 6) ((u2 (u2 SA_1 0 3 (SB 0 3)) 0 4 (SB 0 4)) 6) (0 : Int32).toNatClampNeg (0 : Int32).toNatClampNeg ((((u2 (u2 SA_1 0 3 (SB 0 3)) 0 4 (SB 0 4)) 0 4) * 10) : Int32).toNatClampNeg)) 0 4) * 10).toNatClampNeg)), I0, SB, I2, BO, FI, RG, GU, PU, MA, MN, MS, OT, SC], [r0, r1, r2, r3, w, r5, r6, r7, r8], Lg)) o from ev_d (c := ((0 : Int32) < 0 ∨ (0 : Int32) < 0 ∨ (((u1 (u2 (u2 SA_1 0 3 (SB 0 3)) 0 4 (SB 0 4)) 6 (a_cpy (SB 6) ((u2 (u2 SA_1 0 3 (SB 0 3)) 0 4 (SB 0 4)) 6) (0 : Int32).toNatClampNeg (0 : Int32).toNatClampNeg ((((u2 (u2 SA_1 0 3 (SB 0 3)) 0 4 (SB 0 4)) 0 4) * 10) : Int32).toNatClampNeg)) 0 4) * 10) < 0 ∨ 300 < (0 : Int32).toNatClampNeg + (((u1 (u2 (u2 SA_1 0 3 (SB 0 3)) 0 4 (SB 0 4)) 6 (a_cpy (SB 6) ((u2 (u2 SA_1 0 3 (SB 0 3)) 0 4 (SB 0 4)) 6) (0 : Int32).toNatClampNeg (0 : Int32).toNatClampNeg ((((u2 (u2 SA_1 0 3 (SB 0 3)) 0 4 (SB 0 4)) 0 4) * 10) : Int32).toNatClampNeg)) 0 4) * 10).toNatClampNeg ∨ 300 < (0 : Int32).toNatClampNeg + (((u1 (u2 (u2 SA_1 0 3 (SB 0 3)) 0 4 (SB 0 4)) 6 (a_cpy (SB 6) ((u2 (u2 SA_1 0 3 (SB 0 3)) 0 4 (SB 0 4)) 6) (0 : Int32).toNatClampNeg (0 : Int32).toNatClampNeg ((((u2 (u2 SA_1 0 3 (SB 0 3)) 0 4 (SB 0 4)) 0 4) * 10) : Int32).toNatClampNeg)) 0 4) * 10).toNatClampNeg)) _ 11 zc6 e (fun n => Eq.refl _)
  have ze7 := Option.some.inj h
  subst ze7
  exact ev_rete 1 ho (fun n => Eq.refl _)
set_option maxRecDepth 1000000 in
set_option maxHeartbeats 4000000 in
theorem R_f_Target_copy_2_5 (d : Nat) (Y T HA HB RA RB ST SA I0 I1 SB BO FI RG GU PU MA MN MS OT SC : Nat → Nat → Int32) (r0 r1 r2 r3 w r5 r6 r7 r8 : Nat) (L : Nat) (Lg : Int64) {r : (Nat → Nat → Int32)} (h : f_Target_copy_2 SB SA = some r) : Ev (d + 1, 0, 0, 281, 0, [.val (.ref 515), .val (.ref 707)], [], (126, 120, L, [Y, T, HA, HB, RA, RB, ST, SA, I0, I1, SB, BO, FI, RG, GU, PU, MA, MN, MS, OT, SC], [r0, r1, r2, r3, w, r5, r6, r7, r8], Lg)) ((0, none, (126, 120, L, [Y, T, HA, HB, RA, RB, ST, r, I0, I1, SB, BO, FI, RG, GU, PU, MA, MN, MS, OT, SC], [r0, r1, r2, r3, w, r5, r6, r7, r8], Lg)) : AOut) := by
  suffices key : ∀ o : AOut, ((0, none, (126, 120, L, [Y, T, HA, HB, RA, RB, ST, r, I0, I1, SB, BO, FI, RG, GU, PU, MA, MN, MS, OT, SC], [r0, r1, r2, r3, w, r5, r6, r7, r8], Lg)) : AOut) = o → Ev (d + 1, 0, 0, 281, 0, [.val (.ref 515), .val (.ref 707)], [], (126, 120, L, [Y, T, HA, HB, RA, RB, ST, SA, I0, I1, SB, BO, FI, RG, GU, PU, MA, MN, MS, OT, SC], [r0, r1, r2, r3, w, r5, r6, r7, r8], Lg)) o from key _ rfl
  intro o ho
  by_cases zc1 : ((0 : Int32) < 0 ∨ (0 : Int32) < 0 ∨ (10 : Int32) < 0 ∨ 10 < (0 : Int32).toNatClampNeg + (10 : Int32).toNatClampNeg ∨ 10 < (0 : Int32).toNatClampNeg + (10 : Int32).toNatClampNeg)
  · exact nos (itp h zc1)
  have h := itn h zc1
  suffices e : Ev (d + 1, 0, 0, 281, 23, [.val (.ref 515), .val (.ref 707)], [], (126, 120, L, [Y, T, HA, HB, RA, RB, ST, (u1 (u2 SA 3 0 (SB 3 0)) 4 (a_cpy (SB 4) ((u2 SA 3 0 (SB 3 0)) 4) (0 : Int32).toNatClampNeg (0 : Int32).toNatClampNeg (10 : Int32).toNatClampNeg)), I0, I1, SB, BO, FI, RG, GU, PU, MA, MN, MS, OT, SC], [r0, r1, r2, r3, w, r5, r6, r7, r8], Lg)) o from ev_d (c := ((0 : Int32) < 0 ∨ (0 : Int32) < 0 ∨ (10 : Int32) < 0 ∨ 10 < (0 : Int32).toNatClampNeg + (10 : Int32).toNatClampNeg ∨ 10 < (0 : Int32).toNatClampNeg + (10 : Int32).toNatClampNeg)) _ 12 zc1 e (fun n => Eq.refl _)
  by_cases zc2 : ((0 : Int32) < 0 ∨ (0 : Int32) < 0 ∨ (10 : Int32) < 0 ∨ 10 < (0 : Int32).toNatClampNeg + (10 : Int32).toNatClampNeg ∨ 10 < (0 : Int32).toNatClampNeg + (10 : Int32).toNatClampNeg)
  · exact nos (itp h zc2)
  have h := itn h zc2
  suffices e : Ev (d + 1, 0, 0, 281, 38, [.val (.ref 515), .val (.ref 707)], [], (126, 120, L, [Y, T, HA, HB, RA, RB, ST, (u1 (u1 (u2 SA 3 0 (SB 3 0)) 4 (a_cpy (SB 4) ((u2 SA 3 0 (SB 3 0)) 4) (0 : Int32).toNatClampNeg (0 : Int32).toNatClampNeg (10 : Int32).toNatClampNeg)) 5 (a_cpy (SB 5) ((u1 (u2 SA 3 0 (SB 3 0)) 4 (a_cpy (SB 4) ((u2 SA 3 0 (SB 3 0)) 4) (0 : Int32).toNatClampNeg (0 : Int32).toNatClampNeg (10 : Int32).toNatClampNeg)) 5) (0 : Int32).toNatClampNeg (0 : Int32).toNatClampNeg (10 : Int32).toNatClampNeg)), I0, I1, SB, BO, FI, RG, GU, PU, MA, MN, MS, OT, SC], [r0, r1, r2, r3, w, r5, r6, r7, r8], Lg)) o from ev_d (c := ((0 : Int32) < 0 ∨ (0 : Int32) < 0 ∨ (10 : Int32) < 0 ∨ 10 < (0 : Int32).toNatClampNeg + (10 : Int32).toNatClampNeg ∨ 10 < (0 : Int32).toNatClampNeg + (10 : Int32).toNatClampNeg)) _ 8 zc2 e (fun n => Eq.refl _)
  have ze3 := Option.some.inj h
  subst ze3
  exact ev_rete 1 ho (fun n => Eq.refl _)
set_option maxRecDepth 1000000 in
set_option maxHeartbeats 4000000 in
theorem R_f_State_copy_5 (d : Nat) (Y T HA HB RA RB ST SA I0 I1 SB BO FI RG GU PU MA MN MS OT SC : Nat → Nat → Int32) (r0 r1 r2 r3 w r5 r6 r7 r8 : Nat) (L : Nat) (Lg : Int64) {r : (Nat → Nat → Int32)} (h : f_State_copy SB SA = some r) : Ev (d + 2, 0, 0, 258, 0, [.val (.ref 512), .val (.ref 704)], [], (126, 120, L, [Y, T, HA, HB, RA, RB, ST, SA, I0, I1, SB, BO, FI, RG, GU, PU, MA, MN, MS, OT, SC], [r0, r1, r2, r3, w, r5, r6, r7, r8], Lg)) ((0, none, (126, 120, L, [Y, T, HA, HB, RA, RB, ST, r, I0, I1, SB, BO, FI, RG, GU, PU, MA, MN, MS, OT, SC], [r0, r1, r2, r3, w, r5, r6, r7, r8], Lg)) : AOut) := by
  suffices key : ∀ o : AOut, ((0, none, (126, 120, L, [Y, T, HA, HB, RA, RB, ST, r, I0, I1, SB, BO, FI, RG, GU, PU, MA, MN, MS, OT, SC], [r0, r1, r2, r3, w, r5, r6, r7, r8], Lg)) : AOut) = o → Ev (d + 2, 0, 0, 258, 0, [.val (.ref 512), .val (.ref 704)], [], (126, 120, L, [Y, T, HA, HB, RA, RB, ST, SA, I0, I1, SB, BO, FI, RG, GU, PU, MA, MN, MS, OT, SC], [r0, r1, r2, r3, w, r5, r6, r7, r8], Lg)) o from key _ rfl
  intro o ho
  by_cases zc1 : ((0 : Int32) < 0 ∨ (0 : Int32) < 0 ∨ (10 : Int32) < 0 ∨ 10 < (0 : Int32).toNatClampNeg + (10 : Int32).toNatClampNeg ∨ 10 < (0 : Int32).toNatClampNeg + (10 : Int32).toNatClampNeg)
  · exact nos (itp h zc1)
  have h := itn h zc1
  suffices e : Ev (d + 2, 0, 0, 258, 15, [.val (.ref 512), .val (.ref 704)], [], (126, 120, L, [Y, T, HA, HB, RA, RB, ST, (u1 SA 1 (a_cpy (SB 1) (SA 1) (0 : Int32).toNatClampNeg (0 : Int32).toNatClampNeg (10 : Int32).toNatClampNeg)), I0, I1, SB, BO, FI, RG, GU, PU, MA, MN, MS, OT, SC], [r0, r1, r2, r3, w, r5, r6, r7, r8], Lg)) o from ev_d (c := ((0 : Int32) < 0 ∨ (0 : Int32) < 0 ∨ (10 : Int32) < 0 ∨ 10 < (0 : Int32).toNatClampNeg + (10 : Int32).toNatClampNeg ∨ 10 < (0 : Int32).toNatClampNeg + (10 : Int32).toNatClampNeg)) _ 8 zc1 e (fun n => Eq.refl _)
  by_cases zc2 : ((0 : Int32) < 0 ∨ (0 : Int32) < 0 ∨ (10 : Int32) < 0 ∨ 10 < (0 : Int32).toNatClampNeg + (10 : Int32).toNatClampNeg ∨ 10 < (0 : Int32).toNatClampNeg + (10 : Int32).toNatClampNeg)
  · exact nos (itp h zc2)
  have h := itn h zc2
  suffices e : Ev (d + 2, 0, 0, 258, 30, [.val (.ref 512), .val (.ref 704)], [], (126, 120, L, [Y, T, HA, HB, RA, RB, ST, (u1 (u1 SA 1 (a_cpy (SB 1) (SA 1) (0 : Int32).toNatClampNeg (0 : Int32).toNatClampNeg (10 : Int32).toNatClampNeg)) 2 (a_cpy (SB 2) ((u1 SA 1 (a_cpy (SB 1) (SA 1) (0 : Int32).toNatClampNeg (0 : Int32).toNatClampNeg (10 : Int32).toNatClampNeg)) 2) (0 : Int32).toNatClampNeg (0 : Int32).toNatClampNeg (10 : Int32).toNatClampNeg)), I0, I1, SB, BO, FI, RG, GU, PU, MA, MN, MS, OT, SC], [r0, r1, r2, r3, w, r5, r6, r7, r8], Lg)) o from ev_d (c := ((0 : Int32) < 0 ∨ (0 : Int32) < 0 ∨ (10 : Int32) < 0 ∨ 10 < (0 : Int32).toNatClampNeg + (10 : Int32).toNatClampNeg ∨ 10 < (0 : Int32).toNatClampNeg + (10 : Int32).toNatClampNeg)) _ 8 zc2 e (fun n => Eq.refl _)
  obtain ⟨SA_1, zh3, h⟩ := bnd h
  have zh3 : f_Target_copy_2 SB (u1 (u1 SA 1 (a_cpy (SB 1) (SA 1) (0 : Int32).toNatClampNeg (0 : Int32).toNatClampNeg (10 : Int32).toNatClampNeg)) 2 (a_cpy (SB 2) ((u1 SA 1 (a_cpy (SB 1) (SA 1) (0 : Int32).toNatClampNeg (0 : Int32).toNatClampNeg (10 : Int32).toNatClampNeg)) 2) (0 : Int32).toNatClampNeg (0 : Int32).toNatClampNeg (10 : Int32).toNatClampNeg)) = some SA_1 := zh3
  have ze4 := R_f_Target_copy_2_5 (d + 0) Y T HA HB RA RB ST (u1 (u1 SA 1 (a_cpy (SB 1) (SA 1) (0 : Int32).toNatClampNeg (0 : Int32).toNatClampNeg (10 : Int32).toNatClampNeg)) 2 (a_cpy (SB 2) ((u1 SA 1 (a_cpy (SB 1) (SA 1) (0 : Int32).toNatClampNeg (0 : Int32).toNatClampNeg (10 : Int32).toNatClampNeg)) 2) (0 : Int32).toNatClampNeg (0 : Int32).toNatClampNeg (10 : Int32).toNatClampNeg)) I0 I1 SB BO FI RG GU PU MA MN MS OT SC r0 r1 r2 r3 w r5 r6 r7 r8 L Lg zh3
  suffices e : Ev (d + 2, 0, 0, 258, 41, [.val (.ref 512), .val (.ref 704)], [], (126, 120, L, [Y, T, HA, HB, RA, RB, ST, SA_1, I0, I1, SB, BO, FI, RG, GU, PU, MA, MN, MS, OT, SC], [r0, r1, r2, r3, w, r5, r6, r7, r8], Lg)) o from ev_call (fun v μ => (d + 2, 0, 0, 258, 41, [.val (.ref 512), .val (.ref 704)], v.toList ++ [], μ)) 5 ze4 e (fun n => Eq.refl _)
  by_cases zc5 : ((0 : Int32) < 0 ∨ (0 : Int32) < 0 ∨ ((((u2 (u2 SA_1 0 3 (SB 0 3)) 0 4 (SB 0 4)) 0 4) * 10) : Int32) < 0 ∨ 300 < (0 : Int32).toNatClampNeg + ((((u2 (u2 SA_1 0 3 (SB 0 3)) 0 4 (SB 0 4)) 0 4) * 10) : Int32).toNatClampNeg ∨ 300 < (0 : Int32).toNatClampNeg + ((((u2 (u2 SA_1 0 3 (SB 0 3)) 0 4 (SB 0 4)) 0 4) * 10) : Int32).toNatClampNeg)
  · exact nos (itp h zc5)
  have h := itn h zc5
  suffices e : Ev (d + 2, 0, 0, 258, 77, [.val (.ref 512), .val (.ref 704)], [], (126, 120, L, [Y, T, HA, HB, RA, RB, ST, (u1 (u2 (u2 SA_1 0 3 (SB 0 3)) 0 4 (SB 0 4)) 6 (a_cpy (SB 6) ((u2 (u2 SA_1 0 3 (SB 0 3)) 0 4 (SB 0 4)) 6) (0 : Int32).toNatClampNeg (0 : Int32).toNatClampNeg ((((u2 (u2 SA_1 0 3 (SB 0 3)) 0 4 (SB 0 4)) 0 4) * 10) : Int32).toNatClampNeg)), I0, I1, SB, BO, FI, RG, GU, PU, MA, MN, MS, OT, SC], [r0, r1, r2, r3, w, r5, r6, r7, r8], Lg)) o from ev_d (c := ((0 : Int32) < 0 ∨ (0 : Int32) < 0 ∨ ((((u2 (u2 SA_1 0 3 (SB 0 3)) 0 4 (SB 0 4)) 0 4) * 10) : Int32) < 0 ∨ 300 < (0 : Int32).toNatClampNeg + ((((u2 (u2 SA_1 0 3 (SB 0 3)) 0 4 (SB 0 4)) 0 4) * 10) : Int32).toNatClampNeg ∨ 300 < (0 : Int32).toNatClampNeg + ((((u2 (u2 SA_1 0 3 (SB 0 3)) 0 4 (SB 0 4)) 0 4) * 10) : Int32).toNatClampNeg)) _ 19 zc5 e (fun n => Eq.refl _)
  by_cases zc6 : ((0 : Int32) < 0 ∨ (0 : Int32) < 0 ∨ (((u1 (u2 (u2 SA_1 0 3 (SB 0 3)) 0 4 (SB 0 4)) 6 (a_cpy (SB 6) ((u2 (u2 SA_1 0 3 (SB 0 3)) 0 4 (SB 0 4)) 6) (0 : Int32).toNatClampNeg (0 : Int32).toNatClampNeg ((((u2 (u2 SA_1 0 3 (SB 0 3)) 0 4 (SB 0 4)) 0 4) * 10) : Int32).toNatClampNeg)) 0 4) * 10) < 0 ∨ 300 < (0 : Int32).toNatClampNeg + (((u1 (u2 (u2 SA_1 0 3 (SB 0 3)) 0 4 (SB 0 4)) 6 (a_cpy (SB 6) ((u2 (u2 SA_1 0 3 (SB 0 3)) 0 4 (SB 0 4)) 6) (0 : Int32).toNatClampNeg (0 : Int32).toNatClampNeg ((((u2 (u2 SA_1 0 3 (SB 0 3)) 0 4 (SB 0 4)) 0 4) * 10) : Int32).toNatClampNeg)) 0 4) * 10).toNatClampNeg ∨ 300 < (0 : Int32).toNatClampNeg + (((u1 (u2 (u2 SA_1 0 3 (SB 0 3)) 0 4 (SB 0 4)) 6 (a_cpy (SB 6) ((u2 (u2 SA_1 0 3 (SB 0 3)) 0 4 (SB 0 4)) 6) (0 : Int32).toNatClampNeg (0 : Int32).toNatClampNeg ((((u2 (u2 SA_1 0 3 (SB 0 3)) 0 4 (SB 0 4)) 0 4) * 10) : Int32).toNatClampNeg)) 0 4) * 10).toNatClampNeg)
  · exact nos (itp h zc6)
  have h := itn h zc6
  suffices e : Ev (d + 2, 0, 0, 258, 97, [.val (.ref 512), .val (.ref 704)], [], (126, 120, L, [Y, T, HA, HB, RA, RB, ST, (u1 (u1 (u2 (u2 SA_1 0 3 (SB 0 3)) 0 4 (SB 0 4)) 6 (a_cpy (SB 6) ((u2 (u2 SA_1 0 3 (SB 0 3)) 0 4 (SB 0 4)) 6) (0 : Int32).toNatClampNeg (0 : Int32).toNatClampNeg ((((u2 (u2 SA_1 0 3 (SB 0 3)) 0 4 (SB 0 4)) 0 4) * 10) : Int32).toNatClampNeg)) 7 (a_cpy (SB 7) ((u1 (u2 (u2 SA_1 0 3 (SB 0 3)) 0 4 (SB 0 4)) 6 (a_cpy (SB 6) ((u2 (u2 SA_1 0 3 (SB 0 3)) 0 4 (SB 0 4)) 6) (0 : Int32).toNatClampNeg (0 : Int32).toNatClampNeg ((((u2 (u2 SA_1 0 3 (SB 0 3)) 0 4 (SB 0 4)) 0 4) * 10) : Int32).toNatClampNeg)) 7) (0 : Int32).toNatClampNeg (0 : Int32).toNatClampNeg (((u1 (u2 (u2 SA_1 0 3 (SB 0 3)) 0 4 (SB 0 4)) 6 (a_cpy (SB 6) ((u2 (u2 SA_1 0 3 (SB 0 3)) 0 4 (SB 0 4)) 6) (0 : Int32).toNatClampNeg (0 : Int32).toNatClampNeg ((((u2 (u2 SA_1 0 3 (SB 0 3)) 0 4 (SB 0 4)) 0 4) * 10) : Int32).toNatClampNeg)) 0 4) * 10).toNatClampNeg)), I0, I1, SB, BO, FI, RG, GU, PU, MA, MN, MS, OT, SC], [r0, r1, r2, r3, w, r5, r6, r7, r8], Lg)) o from ev_d (c := ((0 : Int32) < 0 ∨ (0 : Int32) < 0 ∨ (((u1 (u2 (u2 SA_1 0 3 (SB 0 3)) 0 4 (SB 0 4)) 6 (a_cpy (SB 6) ((u2 (u2 SA_1 0 3 (SB 0 3)) 0 4 (SB 0 4)) 6) (0 : Int32).toNatClampNeg (0 : Int32).toNatClampNeg ((((u2 (u2 SA_1 0 3 (SB 0 3)) 0 4 (SB 0 4)) 0 4) * 10) : Int32).toNatClampNeg)) 0 4) * 10) < 0 ∨ 300 < (0 : Int32).toNatClampNeg + (((u1 (u2 (u2 SA_1 0 3 (SB 0 3)) 0 4 (SB 0 4)) 6 (a_cpy (SB 6) ((u2 (u2 SA_1 0 3 (SB 0 3)) 0 4 (SB 0 4)) 6) (0 : Int32).toNatClampNeg (0 : Int32).toNatClampNeg ((((u2 (u2 SA_1 0 3 (SB 0 3)) 0 4 (SB 0 4)) 0 4) * 10) : Int32).toNatClampNeg)) 0 4) * 10).toNatClampNeg ∨ 300 < (0 : Int32).toNatClampNeg + (((u1 (u2 (u2 SA_1 0 3 (SB 0 3)) 0 4 (SB 0 4)) 6 (a_cpy (SB 6) ((u2 (u2 SA_1 0 3 (SB 0 3)) 0 4 (SB 0 4)) 6) (0 : Int32).toNatClampNeg (0 : Int32).toNatClampNeg ((((u2 (u2 SA_1 0 3 (SB 0 3)) 0 4 (SB 0 4)) 0 4) * 10) : Int32).toNatClampNeg)) 0 4) * 10).toNatClampNeg)) _ 11 zc6 e (fun n => Eq.refl _)
  have ze7 := Option.some.inj h
  subst ze7
  exact ev_rete 1 ho (fun n => Eq.refl _)
set_option maxRecDepth 1000000 in
set_option maxHeartbeats 4000000 in
theorem R_f_Y_restore_0 (d : Nat) (Y T H H2 RU RV ST NS I0 I1 I2 BO FI RG GU PU MA MN MS OT SC : Nat → Nat → Int32) (w r5 : Nat) (L : Nat) (Lg : Int64) {r : Int32 × (Nat → Nat → Int32) × (Nat → Nat → Int32)} (h : f_Y_restore Y NS I0 I1 I2 = some r) : Ev (d + 3, 0, 0, 330, 0, [.val (.ref 64)], [], (126, 120, L, [Y, T, H, H2, RU, RV, ST, NS, I0, I1, I2, BO, FI, RG, GU, PU, MA, MN, MS, OT, SC], [192, 256, 320, 384, w, r5, 576, 640, 704], Lg)) ((0, some (.int r.1), (126, 120, L, [r.2.1, T, H, H2, RU, RV, ST, r.2.2, I0, I1, I2, BO, FI, RG, GU, PU, MA, MN, MS, OT, SC], [192, 256, 320, 384, w, r5, 576, 640, 704], Lg)) : AOut) := by
  suffices key : ∀ o : AOut, ((0, some (.int r.1), (126, 120, L, [r.2.1, T, H, H2, RU, RV, ST, r.2.2, I0, I1, I2, BO, FI, RG, GU, PU, MA, MN, MS, OT, SC], [192, 256, 320, 384, w, r5, 576, 640, 704], Lg)) : AOut) = o → Ev (d + 3, 0, 0, 330, 0, [.val (.ref 64)], [], (126, 120, L, [Y, T, H, H2, RU, RV, ST, NS, I0, I1, I2, BO, FI, RG, GU, PU, MA, MN, MS, OT, SC], [192, 256, 320, 384, w, r5, 576, 640, 704], Lg)) o from key _ rfl
  intro o ho
  by_cases zc1 : 0 < (Y 0 3)
  · have h := itp h zc1
    suffices e : Ev (d + 3, 0, 0, 330, 9, [.val (.ref 64)], [], (126, 120, L, [Y, T, H, H2, RU, RV, ST, NS, I0, I1, I2, BO, FI, RG, GU, PU, MA, MN, MS, OT, SC], [192, 256, 320, 384, w, r5, 576, 640, 704], Lg)) o from ev_t (c := 0 < (Y 0 3)) _ _ 3  zc1 e (fun n => Eq.refl _)
    obtain ⟨j1, zh2, h⟩ := bnd h
    have zh2 : ixx 3 ((u2 Y 0 3 ((Y 0 3) - 1)) 0 3) = some j1 := zh2
    by_cases zc3 : j1 = 0
    · have h := itp h zc3
      subst zc3
      suffices e : Ev (d + 3, 0, 0, 330, 32, [.val (.ref 64)], [.ref 576, .ref 512], (126, 120, L, [(u2 Y 0 3 ((Y 0 3) - 1)), T, H, H2, RU, RV, ST, NS, I0, I1, I2, BO, FI, RG, GU, PU, MA, MN, MS, OT, SC], [192, 256, 320, 384, w, r5, 576, 640, 704], Lg)) o from ev_opt (fun j1 => (d + 3, 0, 0, 330, 32, [.val (.ref 64)], [.ref (a_nth [192, 256, 320, 384, w, r5, 576, 640, 704] 0 (6 + j1)), .ref 512], (126, 120, L, [(u2 Y 0 3 ((Y 0 3) - 1)), T, H, H2, RU, RV, ST, NS, I0, I1, I2, BO, FI, RG, GU, PU, MA, MN, MS, OT, SC], [192, 256, 320, 384, w, r5, 576, 640, 704], Lg))) 13 zh2 e (fun n => Eq.refl _)
      obtain ⟨NS_2, zh4, h⟩ := bnd h
      have zh4 : f_State_copy I0 NS = some NS_2 := zh4
      have ze5 := R_f_State_copy_3 (d + 0) (u2 Y 0 3 ((Y 0 3) - 1)) T H H2 RU RV ST NS I0 I1 I2 BO FI RG GU PU MA MN MS OT SC 192 256 320 384 w r5 576 640 704 L Lg zh4
      suffices e : Ev (d + 3, 0, 0, 330, 35, [.val (.ref 64)], [], (126, 120, L, [(u2 Y 0 3 ((Y 0 3) - 1)), T, H, H2, RU, RV, ST, NS_2, I0, I1, I2, BO, FI, RG, GU, PU, MA, MN, MS, OT, SC], [192, 256, 320, 384, w, r5, 576, 640, 704], Lg)) o from ev_call (fun v μ => (d + 3, 0, 0, 330, 35, [.val (.ref 64)], v.toList ++ [], μ)) 1 ze5 e (fun n => Eq.refl _)
      have ze6 := Option.some.inj h
      subst ze6
      exact ev_rete 3 ho (fun n => Eq.refl _)
    have h := itn h zc3
    by_cases zc7 : j1 = 1
    · have h := itp h zc7
      subst zc7
      suffices e : Ev (d + 3, 0, 0, 330, 32, [.val (.ref 64)], [.ref 640, .ref 512], (126, 120, L, [(u2 Y 0 3 ((Y 0 3) - 1)), T, H, H2, RU, RV, ST, NS, I0, I1, I2, BO, FI, RG, GU, PU, MA, MN, MS, OT, SC], [192, 256, 320, 384, w, r5, 576, 640, 704], Lg)) o from ev_opt (fun j1 => (d + 3, 0, 0, 330, 32, [.val (.ref 64)], [.ref (a_nth [192, 256, 320, 384, w, r5, 576, 640, 704] 0 (6 + j1)), .ref 512], (126, 120, L, [(u2 Y 0 3 ((Y 0 3) - 1)), T, H, H2, RU, RV, ST, NS, I0, I1, I2, BO, FI, RG, GU, PU, MA, MN, MS, OT, SC], [192, 256, 320, 384, w, r5, 576, 640, 704], Lg))) 13 zh2 e (fun n => Eq.refl _)
      obtain ⟨NS_3, zh8, h⟩ := bnd h
      have zh8 : f_State_copy I1 NS = some NS_3 := zh8
      have ze9 := R_f_State_copy_4 (d + 0) (u2 Y 0 3 ((Y 0 3) - 1)) T H H2 RU RV ST NS I0 I1 I2 BO FI RG GU PU MA MN MS OT SC 192 256 320 384 w r5 576 640 704 L Lg zh8
      suffices e : Ev (d + 3, 0, 0, 330, 35, [.val (.ref 64)], [], (126, 120, L, [(u2 Y 0 3 ((Y 0 3) - 1)), T, H, H2, RU, RV, ST, NS_3, I0, I1, I2, BO, FI, RG, GU, PU, MA, MN, MS, OT, SC], [192, 256, 320, 384, w, r5, 576, 640, 704], Lg)) o from ev_call (fun v μ => (d + 3, 0, 0, 330, 35, [.val (.ref 64)], v.toList ++ [], μ)) 1 ze9 e (fun n => Eq.refl _)
      have ze10 := Option.some.inj h
      subst ze10
      exact ev_rete 3 ho (fun n => Eq.refl _)
    have h := itn h zc7
    by_cases zc11 : j1 = 2
    · have h := itp h zc11
      subst zc11
      suffices e : Ev (d + 3, 0, 0, 330, 32, [.val (.ref 64)], [.ref 704, .ref 512], (126, 120, L, [(u2 Y 0 3 ((Y 0 3) - 1)), T, H, H2, RU, RV, ST, NS, I0, I1, I2, BO, FI, RG, GU, PU, MA, MN, MS, OT, SC], [192, 256, 320, 384, w, r5, 576, 640, 704], Lg)) o from ev_opt (fun j1 => (d + 3, 0, 0, 330, 32, [.val (.ref 64)], [.ref (a_nth [192, 256, 320, 384, w, r5, 576, 640, 704] 0 (6 + j1)), .ref 512], (126, 120, L, [(u2 Y 0 3 ((Y 0 3) - 1)), T, H, H2, RU, RV, ST, NS, I0, I1, I2, BO, FI, RG, GU, PU, MA, MN, MS, OT, SC], [192, 256, 320, 384, w, r5, 576, 640, 704], Lg))) 13 zh2 e (fun n => Eq.refl _)
      obtain ⟨NS_4, zh12, h⟩ := bnd h
      have zh12 : f_State_copy I2 NS = some NS_4 := zh12
      have ze13 := R_f_State_copy_5 (d + 0) (u2 Y 0 3 ((Y 0 3) - 1)) T H H2 RU RV ST NS I0 I1 I2 BO FI RG GU PU MA MN MS OT SC 192 256 320 384 w r5 576 640 704 L Lg zh12
      suffices e : Ev (d + 3, 0, 0, 330, 35, [.val (.ref 64)], [], (126, 120, L, [(u2 Y 0 3 ((Y 0 3) - 1)), T, H, H2, RU, RV, ST, NS_4, I0, I1, I2, BO, FI, RG, GU, PU, MA, MN, MS, OT, SC], [192, 256, 320, 384, w, r5, 576, 640, 704], Lg)) o from ev_call (fun v μ => (d + 3, 0, 0, 330, 35, [.val (.ref 64)], v.toList ++ [], μ)) 1 ze13 e (fun n => Eq.refl _)
      have ze14 := Option.some.inj h
      subst ze14
      exact ev_rete 3 ho (fun n => Eq.refl _)
    have h := itn h zc11
    exact nos h
  · have h := itn h zc1
    suffices e : Ev (d + 3, 0, 0, 330, 7, [.val (.ref 64)], [], (126, 120, L, [Y, T, H, H2, RU, RV, ST, NS, I0, I1, I2, BO, FI, RG, GU, PU, MA, MN, MS, OT, SC], [192, 256, 320, 384, w, r5, 576, 640, 704], Lg)) o from ev_f (c := 0 < (Y 0 3)) _ _ 3  zc1 e (fun n => Eq.refl _)
    have ze15 := Option.some.inj h
    subst ze15
    exact ev_rete 2 ho (fun n => Eq.refl _)
set_option maxRecDepth 1000000 in
set_option maxHeartbeats 4000000 in
theorem R_f_Y_restore_1 (d : Nat) (Y T H H2 RV RU ST NS I0 I1 I2 BO FI RG GU PU MA MN MS OT SC : Nat → Nat → Int32) (w r5 : Nat) (L : Nat) (Lg : Int64) {r : Int32 × (Nat → Nat → Int32) × (Nat → Nat → Int32)} (h : f_Y_restore Y NS I0 I1 I2 = some r) : Ev (d + 3, 0, 0, 330, 0, [.val (.ref 64)], [], (126, 120, L, [Y, T, H, H2, RV, RU, ST, NS, I0, I1, I2, BO, FI, RG, GU, PU, MA, MN, MS, OT, SC], [192, 256, 384, 320, w, r5, 576, 640, 704], Lg)) ((0, some (.int r.1), (126, 120, L, [r.2.1, T, H, H2, RV, RU, ST, r.2.2, I0, I1, I2, BO, FI, RG, GU, PU, MA, MN, MS, OT, SC], [192, 256, 384, 320, w, r5, 576, 640, 704], Lg)) : AOut) := by
  suffices key : ∀ o : AOut, ((0, some (.int r.1), (126, 120, L, [r.2.1, T, H, H2, RV, RU, ST, r.2.2, I0, I1, I2, BO, FI, RG, GU, PU, MA, MN, MS, OT, SC], [192, 256, 384, 320, w, r5, 576, 640, 704], Lg)) : AOut) = o → Ev (d + 3, 0, 0, 330, 0, [.val (.ref 64)], [], (126, 120, L, [Y, T, H, H2, RV, RU, ST, NS, I0, I1, I2, BO, FI, RG, GU, PU, MA, MN, MS, OT, SC], [192, 256, 384, 320, w, r5, 576, 640, 704], Lg)) o from key _ rfl
  intro o ho
  by_cases zc1 : 0 < (Y 0 3)
  · have h := itp h zc1
    suffices e : Ev (d + 3, 0, 0, 330, 9, [.val (.ref 64)], [], (126, 120, L, [Y, T, H, H2, RV, RU, ST, NS, I0, I1, I2, BO, FI, RG, GU, PU, MA, MN, MS, OT, SC], [192, 256, 384, 320, w, r5, 576, 640, 704], Lg)) o from ev_t (c := 0 < (Y 0 3)) _ _ 3  zc1 e (fun n => Eq.refl _)
    obtain ⟨j1, zh2, h⟩ := bnd h
    have zh2 : ixx 3 ((u2 Y 0 3 ((Y 0 3) - 1)) 0 3) = some j1 := zh2
    by_cases zc3 : j1 = 0
    · have h := itp h zc3
      subst zc3
      suffices e : Ev (d + 3, 0, 0, 330, 32, [.val (.ref 64)], [.ref 576, .ref 512], (126, 120, L, [(u2 Y 0 3 ((Y 0 3) - 1)), T, H, H2, RV, RU, ST, NS, I0, I1, I2, BO, FI, RG, GU, PU, MA, MN, MS, OT, SC], [192, 256, 384, 320, w, r5, 576, 640, 704], Lg)) o from ev_opt (fun j1 => (d + 3, 0, 0, 330, 32, [.val (.ref 64)], [.ref (a_nth [192, 256, 384, 320, w, r5, 576, 640, 704] 0 (6 + j1)), .ref 512], (126, 120, L, [(u2 Y 0 3 ((Y 0 3) - 1)), T, H, H2, RV, RU, ST, NS, I0, I1, I2, BO, FI, RG, GU, PU, MA, MN, MS, OT, SC], [192, 256, 384, 320, w, r5, 576, 640, 704], Lg))) 13 zh2 e (fun n => Eq.refl _)
      obtain ⟨NS_2, zh4, h⟩ := bnd h
      have zh4 : f_State_copy I0 NS = some NS_2 := zh4
      have ze5 := R_f_State_copy_3 (d + 0) (u2 Y 0 3 ((Y 0 3) - 1)) T H H2 RV RU ST NS I0 I1 I2 BO FI RG GU PU MA MN MS OT SC 192 256 384 320 w r5 576 640 704 L Lg zh4
      suffices e : Ev (d + 3, 0, 0, 330, 35, [.val (.ref 64)], [], (126, 120, L, [(u2 Y 0 3 ((Y 0 3) - 1)), T, H, H2, RV, RU, ST, NS_2, I0, I1, I2, BO, FI, RG, GU, PU, MA, MN, MS, OT, SC], [192, 256, 384, 320, w, r5, 576, 640, 704], Lg)) o from ev_call (fun v μ => (d + 3, 0, 0, 330, 35, [.val (.ref 64)], v.toList ++ [], μ)) 1 ze5 e (fun n => Eq.refl _)
      have ze6 := Option.some.inj h
      subst ze6
      exact ev_rete 3 ho (fun n => Eq.refl _)
    have h := itn h zc3
    by_cases zc7 : j1 = 1
    · have h := itp h zc7
      subst zc7
      suffices e : Ev (d + 3, 0, 0, 330, 32, [.val (.ref 64)], [.ref 640, .ref 512], (126, 120, L, [(u2 Y 0 3 ((Y 0 3) - 1)), T, H, H2, RV, RU, ST, NS, I0, I1, I2, BO, FI, RG, GU, PU, MA, MN, MS, OT, SC], [192, 256, 384, 320, w, r5, 576, 640, 704], Lg)) o from ev_opt (fun j1 => (d + 3, 0, 0, 330, 32, [.val (.ref 64)], [.ref (a_nth [192, 256, 384, 320, w, r5, 576, 640, 704] 0 (6 + j1)), .ref 512], (126, 120, L, [(u2 Y 0 3 ((Y 0 3) - 1)), T, H, H2, RV, RU, ST, NS, I0, I1, I2, BO, FI, RG, GU, PU, MA, MN, MS, OT, SC], [192, 256, 384, 320, w, r5, 576, 640, 704], Lg))) 13 zh2 e (fun n => Eq.refl _)
      obtain ⟨NS_3, zh8, h⟩ := bnd h
      have zh8 : f_State_copy I1 NS = some NS_3 := zh8
      have ze9 := R_f_State_copy_4 (d + 0) (u2 Y 0 3 ((Y 0 3) - 1)) T H H2 RV RU ST NS I0 I1 I2 BO FI RG GU PU MA MN MS OT SC 192 256 384 320 w r5 576 640 704 L Lg zh8
      suffices e : Ev (d + 3, 0, 0, 330, 35, [.val (.ref 64)], [], (126, 120, L, [(u2 Y 0 3 ((Y 0 3) - 1)), T, H, H2, RV, RU, ST, NS_3, I0, I1, I2, BO, FI, RG, GU, PU, MA, MN, MS, OT, SC], [192, 256, 384, 320, w, r5, 576, 640, 704], Lg)) o from ev_call (fun v μ => (d + 3, 0, 0, 330, 35, [.val (.ref 64)], v.toList ++ [], μ)) 1 ze9 e (fun n => Eq.refl _)
      have ze10 := Option.some.inj h
      subst ze10
      exact ev_rete 3 ho (fun n => Eq.refl _)
    have h := itn h zc7
    by_cases zc11 : j1 = 2
    · have h := itp h zc11
      subst zc11
      suffices e : Ev (d + 3, 0, 0, 330, 32, [.val (.ref 64)], [.ref 704, .ref 512], (126, 120, L, [(u2 Y 0 3 ((Y 0 3) - 1)), T, H, H2, RV, RU, ST, NS, I0, I1, I2, BO, FI, RG, GU, PU, MA, MN, MS, OT, SC], [192, 256, 384, 320, w, r5, 576, 640, 704], Lg)) o from ev_opt (fun j1 => (d + 3, 0, 0, 330, 32, [.val (.ref 64)], [.ref (a_nth [192, 256, 384, 320, w, r5, 576, 640, 704] 0 (6 + j1)), .ref 512], (126, 120, L, [(u2 Y 0 3 ((Y 0 3) - 1)), T, H, H2, RV, RU, ST, NS, I0, I1, I2, BO, FI, RG, GU, PU, MA, MN, MS, OT, SC], [192, 256, 384, 320, w, r5, 576, 640, 704], Lg))) 13 zh2 e (fun n => Eq.refl _)
      obtain ⟨NS_4, zh12, h⟩ := bnd h
      have zh12 : f_State_copy I2 NS = some NS_4 := zh12
      have ze13 := R_f_State_copy_5 (d + 0) (u2 Y 0 3 ((Y 0 3) - 1)) T H H2 RV RU ST NS I0 I1 I2 BO FI RG GU PU MA MN MS OT SC 192 256 384 320 w r5 576 640 704 L Lg zh12
      suffices e : Ev (d + 3, 0, 0, 330, 35, [.val (.ref 64)], [], (126, 120, L, [(u2 Y 0 3 ((Y 0 3) - 1)), T, H, H2, RV, RU, ST, NS_4, I0, I1, I2, BO, FI, RG, GU, PU, MA, MN, MS, OT, SC], [192, 256, 384, 320, w, r5, 576, 640, 704], Lg)) o from ev_call (fun v μ => (d + 3, 0, 0, 330, 35, [.val (.ref 64)], v.toList ++ [], μ)) 1 ze13 e (fun n => Eq.refl _)
      have ze14 := Option.some.inj h
      subst ze14
      exact ev_rete 3 ho (fun n => Eq.refl _)
    have h := itn h zc11
    exact nos h
  · have h := itn h zc1
    suffices e : Ev (d + 3, 0, 0, 330, 7, [.val (.ref 64)], [], (126, 120, L, [Y, T, H, H2, RV, RU, ST, NS, I0, I1, I2, BO, FI, RG, GU, PU, MA, MN, MS, OT, SC], [192, 256, 384, 320, w, r5, 576, 640, 704], Lg)) o from ev_f (c := 0 < (Y 0 3)) _ _ 3  zc1 e (fun n => Eq.refl _)
    have ze15 := Option.some.inj h
    subst ze15
    exact ev_rete 2 ho (fun n => Eq.refl _)
set_option maxRecDepth 1000000 in
set_option maxHeartbeats 4000000 in
theorem R_f_Y_restore_2 (d : Nat) (Y T H2 H RU RV ST NS I0 I1 I2 BO FI RG GU PU MA MN MS OT SC : Nat → Nat → Int32) (w r5 : Nat) (L : Nat) (Lg : Int64) {r : Int32 × (Nat → Nat → Int32) × (Nat → Nat → Int32)} (h : f_Y_restore Y NS I0 I1 I2 = some r) : Ev (d + 3, 0, 0, 330, 0, [.val (.ref 64)], [], (126, 120, L, [Y, T, H2, H, RU, RV, ST, NS, I0, I1, I2, BO, FI, RG, GU, PU, MA, MN, MS, OT, SC], [256, 192, 320, 384, w, r5, 576, 640, 704], Lg)) ((0, some (.int r.1), (126, 120, L, [r.2.1, T, H2, H, RU, RV, ST, r.2.2, I0, I1, I2, BO, FI, RG, GU, PU, MA, MN, MS, OT, SC], [256, 192, 320, 384, w, r5, 576, 640, 704], Lg)) : AOut) := by
  suffices key : ∀ o : AOut, ((0, some (.int r.1), (126, 120, L, [r.2.1, T, H2, H, RU, RV, ST, r.2.2, I0, I1, I2, BO, FI, RG, GU, PU, MA, MN, MS, OT, SC], [256, 192, 320, 384, w, r5, 576, 640, 704], Lg)) : AOut) = o → Ev (d + 3, 0, 0, 330, 0, [.val (.ref 64)], [], (126, 120, L, [Y, T, H2, H, RU, RV, ST, NS, I0, I1, I2, BO, FI, RG, GU, PU, MA, MN, MS, OT, SC], [256, 192, 320, 384, w, r5, 576, 640, 704], Lg)) o from key _ rfl
  intro o ho
  by_cases zc1 : 0 < (Y 0 3)
  · have h := itp h zc1
    suffices e : Ev (d + 3, 0, 0, 330, 9, [.val (.ref 64)], [], (126, 120, L, [Y, T, H2, H, RU, RV, ST, NS, I0, I1, I2, BO, FI, RG, GU, PU, MA, MN, MS, OT, SC], [256, 192, 320, 384, w, r5, 576, 640, 704], Lg)) o from ev_t (c := 0 < (Y 0 3)) _ _ 3  zc1 e (fun n => Eq.refl _)
    obtain ⟨j1, zh2, h⟩ := bnd h
    have zh2 : ixx 3 ((u2 Y 0 3 ((Y 0 3) - 1)) 0 3) = some j1 := zh2
    by_cases zc3 : j1 = 0
    · have h := itp h zc3
      subst zc3
      suffices e : Ev (d + 3, 0, 0, 330, 32, [.val (.ref 64)], [.ref 576, .ref 512], (126, 120, L, [(u2 Y 0 3 ((Y 0 3) - 1)), T, H2, H, RU, RV, ST, NS, I0, I1, I2, BO, FI, RG, GU, PU, MA, MN, MS, OT, SC], [256, 192, 320, 384, w, r5, 576, 640, 704], Lg)) o from ev_opt (fun j1 => (d + 3, 0, 0, 330, 32, [.val (.ref 64)], [.ref (a_nth [256, 192, 320, 384, w, r5, 576, 640, 704] 0 (6 + j1)), .ref 512], (126, 120, L, [(u2 Y 0 3 ((Y 0 3) - 1)), T, H2, H, RU, RV, ST, NS, I0, I1, I2, BO, FI, RG, GU, PU, MA, MN, MS, OT, SC], [256, 192, 320, 384, w, r5, 576, 640, 704], Lg))) 13 zh2 e (fun n => Eq.refl _)
      obtain ⟨NS_2, zh4, h⟩ := bnd h
      have zh4 : f_State_copy I0 NS = some NS_2 := zh4
      have ze5 := R_f_State_copy_3 (d + 0) (u2 Y 0 3 ((Y 0 3) - 1)) T H2 H RU RV ST NS I0 I1 I2 BO FI RG GU PU MA MN MS OT SC 256 192 320 384 w r5 576 640 704 L Lg zh4
      suffices e : Ev (d + 3, 0, 0, 330, 35, [.val (.ref 64)], [], (126, 120, L, [(u2 Y 0 3 ((Y 0 3) - 1)), T, H2, H, RU, RV, ST, NS_2, I0, I1, I2, BO, FI, RG, GU, PU, MA, MN, MS, OT, SC], [256, 192, 320, 384, w, r5, 576, 640, 704], Lg)) o from ev_call (fun v μ => (d + 3, 0, 0, 330, 35, [.val (.ref 64)], v.toList ++ [], μ)) 1 ze5 e (fun n => Eq.refl _)
      have ze6 := Option.some.inj h
      subst ze6
      exact ev_rete 3 ho (fun n => Eq.refl _)
    have h := itn h zc3
    by_cases zc7 : j1 = 1
    · have h := itp h zc7
      subst zc7
      suffices e : Ev (d + 3, 0, 0, 330, 32, [.val (.ref 64)], [.ref 640, .ref 512], (126, 120, L, [(u2 Y 0 3 ((Y 0 3) - 1)), T, H2, H, RU, RV, ST, NS, I0, I1, I2, BO, FI, RG, GU, PU, MA, MN, MS, OT, SC], [256, 192, 320, 384, w, r5, 576, 640, 704], Lg)) o from ev_opt (fun j1 => (d + 3, 0, 0, 330, 32, [.val (.ref 64)], [.ref (a_nth [256, 192, 320, 384, w, r5, 576, 640, 704] 0 (6 + j1)), .ref 512], (126, 120, L, [(u2 Y 0 3 ((Y 0 3) - 1)), T, H2, H, RU, RV, ST, NS, I0, I1, I2, BO, FI, RG, GU, PU, MA, MN, MS, OT, SC], [256, 192, 320, 384, w, r5, 576, 640, 704], Lg))) 13 zh2 e (fun n => Eq.refl _)
      obtain ⟨NS_3, zh8, h⟩ := bnd h
      have zh8 : f_State_copy I1 NS = some NS_3 := zh8
      have ze9 := R_f_State_copy_4 (d + 0) (u2 Y 0 3 ((Y 0 3) - 1)) T H2 H RU RV ST NS I0 I1 I2 BO FI RG GU PU MA MN MS OT SC 256 192 320 384 w r5 576 640 704 L Lg zh8
      suffices e : Ev (d + 3, 0, 0, 330, 35, [.val (.ref 64)], [], (126, 120, L, [(u2 Y 0 3 ((Y 0 3) - 1)), T, H2, H, RU, RV, ST, NS_3, I0, I1, I2, BO, FI, RG, GU, PU, MA, MN, MS, OT, SC], [256, 192, 320, 384, w, r5, 576, 640, 704], Lg)) o from ev_call (fun v μ => (d + 3, 0, 0, 330, 35, [.val (.ref 64)], v.toList ++ [], μ)) 1 ze9 e (fun n => Eq.refl _)
      have ze10 := Option.some.inj h
      subst ze10
      exact ev_rete 3 ho (fun n => Eq.refl _)
    have h := itn h zc7
    by_cases zc11 : j1 = 2
    · have h := itp h zc11
      subst zc11
      suffices e : Ev (d + 3, 0, 0, 330, 32, [.val (.ref 64)], [.ref 704, .ref 512], (126, 120, L, [(u2 Y 0 3 ((Y 0 3) - 1)), T, H2, H, RU, RV, ST, NS, I0, I1, I2, BO, FI, RG, GU, PU, MA, MN, MS, OT, SC], [256, 192, 320, 384, w, r5, 576, 640, 704], Lg)) o from ev_opt (fun j1 => (d + 3, 0, 0, 330, 32, [.val (.ref 64)], [.ref (a_nth [256, 192, 320, 384, w, r5, 576, 640, 704] 0 (6 + j1)), .ref 512], (126, 120, L, [(u2 Y 0 3 ((Y 0 3) - 1)), T, H2, H, RU, RV, ST, NS, I0, I1, I2, BO, FI, RG, GU, PU, MA, MN, MS, OT, SC], [256, 192, 320, 384, w, r5, 576, 640, 704], Lg))) 13 zh2 e (fun n => Eq.refl _)
      obtain ⟨NS_4, zh12, h⟩ := bnd h
      have zh12 : f_State_copy I2 NS = some NS_4 := zh12
      have ze13 := R_f_State_copy_5 (d + 0) (u2 Y 0 3 ((Y 0 3) - 1)) T H2 H RU RV ST NS I0 I1 I2 BO FI RG GU PU MA MN MS OT SC 256 192 320 384 w r5 576 640 704 L Lg zh12
      suffices e : Ev (d + 3, 0, 0, 330, 35, [.val (.ref 64)], [], (126, 120, L, [(u2 Y 0 3 ((Y 0 3) - 1)), T, H2, H, RU, RV, ST, NS_4, I0, I1, I2, BO, FI, RG, GU, PU, MA, MN, MS, OT, SC], [256, 192, 320, 384, w, r5, 576, 640, 704], Lg)) o from ev_call (fun v μ => (d + 3, 0, 0, 330, 35, [.val (.ref 64)], v.toList ++ [], μ)) 1 ze13 e (fun n => Eq.refl _)
      have ze14 := Option.some.inj h
      subst ze14
      exact ev_rete 3 ho (fun n => Eq.refl _)
    have h := itn h zc11
    exact nos h
  · have h := itn h zc1
    suffices e : Ev (d + 3, 0, 0, 330, 7, [.val (.ref 64)], [], (126, 120, L, [Y, T, H2, H, RU, RV, ST, NS, I0, I1, I2, BO, FI, RG, GU, PU, MA, MN, MS, OT, SC], [256, 192, 320, 384, w, r5, 576, 640, 704], Lg)) o from ev_f (c := 0 < (Y 0 3)) _ _ 3  zc1 e (fun n => Eq.refl _)
    have ze15 := Option.some.inj h
    subst ze15
    exact ev_rete 2 ho (fun n => Eq.refl _)
set_option maxRecDepth 1000000 in
set_option maxHeartbeats 4000000 in
theorem R_f_Y_restore_3 (d : Nat) (Y T H2 H RV RU ST NS I0 I1 I2 BO FI RG GU PU MA MN MS OT SC : Nat → Nat → Int32) (w r5 : Nat) (L : Nat) (Lg : Int64) {r : Int32 × (Nat → Nat → Int32) × (Nat → Nat → Int32)} (h : f_Y_restore Y NS I0 I1 I2 = some r) : Ev (d + 3, 0, 0, 330, 0, [.val (.ref 64)], [], (126, 120, L, [Y, T, H2, H, RV, RU, ST, NS, I0, I1, I2, BO, FI, RG, GU, PU, MA, MN, MS, OT, SC], [256, 192, 384, 320, w, r5, 576, 640, 704], Lg)) ((0, some (.int r.1), (126, 120, L, [r.2.1, T, H2, H, RV, RU, ST, r.2.2, I0, I1, I2, BO, FI, RG, GU, PU, MA, MN, MS, OT, SC], [256, 192, 384, 320, w, r5, 576, 640, 704], Lg)) : AOut) := by
  suffices key : ∀ o : AOut, ((0, some (.int r.1), (126, 120, L, [r.2.1, T, H2, H, RV, RU, ST, r.2.2, I0, I1, I2, BO, FI, RG, GU, PU, MA, MN, MS, OT, SC], [256, 192, 384, 320, w, r5, 576, 640, 704], Lg)) : AOut) = o → Ev (d + 3, 0, 0, 330, 0, [.val (.ref 64)], [], (126, 120, L, [Y, T, H2, H, RV, RU, ST, NS, I0, I1, I2, BO, FI, RG, GU, PU, MA, MN, MS, OT, SC], [256, 192, 384, 320, w, r5, 576, 640, 704], Lg)) o from key _ rfl
  intro o ho
  by_cases zc1 : 0 < (Y 0 3)
  · have h := itp h zc1
    suffices e : Ev (d + 3, 0, 0, 330, 9, [.val (.ref 64)], [], (126, 120, L, [Y, T, H2, H, RV, RU, ST, NS, I0, I1, I2, BO, FI, RG, GU, PU, MA, MN, MS, OT, SC], [256, 192, 384, 320, w, r5, 576, 640, 704], Lg)) o from ev_t (c := 0 < (Y 0 3)) _ _ 3  zc1 e (fun n => Eq.refl _)
    obtain ⟨j1, zh2, h⟩ := bnd h
    have zh2 : ixx 3 ((u2 Y 0 3 ((Y 0 3) - 1)) 0 3) = some j1 := zh2
    by_cases zc3 : j1 = 0
    · have h := itp h zc3
      subst zc3
      suffices e : Ev (d + 3, 0, 0, 330, 32, [.val (.ref 64)], [.ref 576, .ref 512], (126, 120, L, [(u2 Y 0 3 ((Y 0 3) - 1)), T, H2, H, RV, RU, ST, NS, I0, I1, I2, BO, FI, RG, GU, PU, MA, MN, MS, OT, SC], [256, 192, 384, 320, w, r5, 576, 640, 704], Lg)) o from ev_opt (fun j1 => (d + 3, 0, 0, 330, 32, [.val (.ref 64)], [.ref (a_nth [256, 192, 384, 320, w, r5, 576, 640, 704] 0 (6 + j1)), .ref 512], (126, 120, L, [(u2 Y 0 3 ((Y 0 3) - 1)), T, H2, H, RV, RU, ST, NS, I0, I1, I2, BO, FI, RG, GU, PU, MA, MN, MS, OT, SC], [256, 192, 384, 320, w, r5, 576, 640, 704], Lg))) 13 zh2 e (fun n => Eq.refl _)
      obtain ⟨NS_2, zh4, h⟩ := bnd h
      have zh4 : f_State_copy I0 NS = some NS_2 := zh4
      have ze5 := R_f_State_copy_3 (d + 0) (u2 Y 0 3 ((Y 0 3) - 1)) T H2 H RV RU ST NS I0 I1 I2 BO FI RG GU PU MA MN MS OT SC 256 192 384 320 w r5 576 640 704 L Lg zh4
      suffices e : Ev (d + 3, 0, 0, 330, 35, [.val (.ref 64)], [], (126, 120, L, [(u2 Y 0 3 ((Y 0 3) - 1)), T, H2, H, RV, RU, ST, NS_2, I0, I1, I2, BO, FI, RG, GU, PU, MA, MN, MS, OT, SC], [256, 192, 384, 320, w, r5, 576, 640, 704], Lg)) o from ev_call (fun v μ => (d + 3, 0, 0, 330, 35, [.val (.ref 64)], v.toList ++ [], μ)) 1 ze5 e (fun n => Eq.refl _)
      have ze6 := Option.some.inj h
      subst ze6
      exact ev_rete 3 ho (fun n => Eq.refl _)
    have h := itn h zc3
    by_cases zc7 : j1 = 1
    · have h := itp h zc7
      subst zc7
      suffices e : Ev (d + 3, 0, 0, 330, 32, [.val (.ref 64)], [.ref 640, .ref 512], (126, 120, L, [(u2 Y 0 3 ((Y 0 3) - 1)), T, H2, H, RV, RU, ST, NS, I0, I1, I2, BO, FI, RG, GU, PU, MA, MN, MS, OT, SC], [256, 192, 384, 320, w, r5, 576, 640, 704], Lg)) o from ev_opt (fun j1 => (d + 3, 0, 0, 330, 32, [.val (.ref 64)], [.ref (a_nth [256, 192, 384, 320, w, r5, 576, 640, 704] 0 (6 + j1)), .ref 512], (126, 120, L, [(u2 Y 0 3 ((Y 0 3) - 1)), T, H2, H, RV, RU, ST, NS, I0, I1, I2, BO, FI, RG, GU, PU, MA, MN, MS, OT, SC], [256, 192, 384, 320, w, r5, 576, 640, 704], Lg))) 13 zh2 e (fun n => Eq.refl _)
      obtain ⟨NS_3, zh8, h⟩ := bnd h
      have zh8 : f_State_copy I1 NS = some NS_3 := zh8
      have ze9 := R_f_State_copy_4 (d + 0) (u2 Y 0 3 ((Y 0 3) - 1)) T H2 H RV RU ST NS I0 I1 I2 BO FI RG GU PU MA MN MS OT SC 256 192 384 320 w r5 576 640 704 L Lg zh8
      suffices e : Ev (d + 3, 0, 0, 330, 35, [.val (.ref 64)], [], (126, 120, L, [(u2 Y 0 3 ((Y 0 3) - 1)), T, H2, H, RV, RU, ST, NS_3, I0, I1, I2, BO, FI, RG, GU, PU, MA, MN, MS, OT, SC], [256, 192, 384, 320, w, r5, 576, 640, 704], Lg)) o from ev_call (fun v μ => (d + 3, 0, 0, 330, 35, [.val (.ref 64)], v.toList ++ [], μ)) 1 ze9 e (fun n => Eq.refl _)
      have ze10 := Option.some.inj h
      subst ze10
      exact ev_rete 3 ho (fun n => Eq.refl _)
    have h := itn h zc7
    by_cases zc11 : j1 = 2
    · have h := itp h zc11
      subst zc11
      suffices e : Ev (d + 3, 0, 0, 330, 32, [.val (.ref 64)], [.ref 704, .ref 512], (126, 120, L, [(u2 Y 0 3 ((Y 0 3) - 1)), T, H2, H, RV, RU, ST, NS, I0, I1, I2, BO, FI, RG, GU, PU, MA, MN, MS, OT, SC], [256, 192, 384, 320, w, r5, 576, 640, 704], Lg)) o from ev_opt (fun j1 => (d + 3, 0, 0, 330, 32, [.val (.ref 64)], [.ref (a_nth [256, 192, 384, 320, w, r5, 576, 640, 704] 0 (6 + j1)), .ref 512], (126, 120, L, [(u2 Y 0 3 ((Y 0 3) - 1)), T, H2, H, RV, RU, ST, NS, I0, I1, I2, BO, FI, RG, GU, PU, MA, MN, MS, OT, SC], [256, 192, 384, 320, w, r5, 576, 640, 704], Lg))) 13 zh2 e (fun n => Eq.refl _)
      obtain ⟨NS_4, zh12, h⟩ := bnd h
      have zh12 : f_State_copy I2 NS = some NS_4 := zh12
      have ze13 := R_f_State_copy_5 (d + 0) (u2 Y 0 3 ((Y 0 3) - 1)) T H2 H RV RU ST NS I0 I1 I2 BO FI RG GU PU MA MN MS OT SC 256 192 384 320 w r5 576 640 704 L Lg zh12
      suffices e : Ev (d + 3, 0, 0, 330, 35, [.val (.ref 64)], [], (126, 120, L, [(u2 Y 0 3 ((Y 0 3) - 1)), T, H2, H, RV, RU, ST, NS_4, I0, I1, I2, BO, FI, RG, GU, PU, MA, MN, MS, OT, SC], [256, 192, 384, 320, w, r5, 576, 640, 704], Lg)) o from ev_call (fun v μ => (d + 3, 0, 0, 330, 35, [.val (.ref 64)], v.toList ++ [], μ)) 1 ze13 e (fun n => Eq.refl _)
      have ze14 := Option.some.inj h
      subst ze14
      exact ev_rete 3 ho (fun n => Eq.refl _)
    have h := itn h zc11
    exact nos h
  · have h := itn h zc1
    suffices e : Ev (d + 3, 0, 0, 330, 7, [.val (.ref 64)], [], (126, 120, L, [Y, T, H2, H, RV, RU, ST, NS, I0, I1, I2, BO, FI, RG, GU, PU, MA, MN, MS, OT, SC], [256, 192, 384, 320, w, r5, 576, 640, 704], Lg)) o from ev_f (c := 0 < (Y 0 3)) _ _ 3  zc1 e (fun n => Eq.refl _)
    have ze15 := Option.some.inj h
    subst ze15
    exact ev_rete 2 ho (fun n => Eq.refl _)
set_option maxRecDepth 1000000 in
set_option maxHeartbeats 4000000 in
theorem R_f_Y_status_0 (d : Nat) (Y T H H2 RU RV ST NS I0 I1 I2 BO FI RG GU PU MA MN MS OT SC : Nat → Nat → Int32) (w r5 : Nat) (L : Nat) (Lg : Int64) (p1 : Int32) {r : Int32} (h : f_Y_status Y p1 = some r) : Ev (d + 0, 0, 0, 331, 0, [.val (.ref 64), .val (.int p1)], [], (126, 120, L, [Y, T, H, H2, RU, RV, ST, NS, I0, I1, I2, BO, FI, RG, GU, PU, MA, MN, MS, OT, SC], [192, 256, 320, 384, w, r5, 576, 640, 704], Lg)) ((0, some (.int r), (126, 120, L, [Y, T, H, H2, RU, RV, ST, NS, I0, I1, I2, BO, FI, RG, GU, PU, MA, MN, MS, OT, SC], [192, 256, 320, 384, w, r5, 576, 640, 704], Lg)) : AOut) := by
  suffices key : ∀ o : AOut, ((0, some (.int r), (126, 120, L, [Y, T, H, H2, RU, RV, ST, NS, I0, I1, I2, BO, FI, RG, GU, PU, MA, MN, MS, OT, SC], [192, 256, 320, 384, w, r5, 576, 640, 704], Lg)) : AOut) = o → Ev (d + 0, 0, 0, 331, 0, [.val (.ref 64), .val (.int p1)], [], (126, 120, L, [Y, T, H, H2, RU, RV, ST, NS, I0, I1, I2, BO, FI, RG, GU, PU, MA, MN, MS, OT, SC], [192, 256, 320, 384, w, r5, 576, 640, 704], Lg)) o from key _ rfl
  intro o ho
  by_cases zc1 : p1 = 0
  · have h := itp h zc1
    suffices e : Ev (d + 0, 0, 0, 331, 28, [.val (.ref 64), .val (.int p1)], [], (126, 120, L, [Y, T, H, H2, RU, RV, ST, NS, I0, I1, I2, BO, FI, RG, GU, PU, MA, MN, MS, OT, SC], [192, 256, 320, 384, w, r5, 576, 640, 704], Lg)) o from ev_sw [((0 : Int32), 28), ((1 : Int32), 33)] p1 (fun tt => (d + 0, 0, 0, 331, tt, [.val (.ref 64), .val (.int p1)], [], (126, 120, L, [Y, T, H, H2, RU, RV, ST, NS, I0, I1, I2, BO, FI, RG, GU, PU, MA, MN, MS, OT, SC], [192, 256, 320, 384, w, r5, 576, 640, 704], Lg))) 38 28 2 (fun f => by simp only [a_sw, if_pos zc1]) e (fun n => Eq.refl _)
    have ze2 := Option.some.inj h
    subst ze2
    exact ev_rete 3 ho (fun n => Eq.refl _)
  have h := itn h zc1
  by_cases zc3 : p1 = 1
  · have h := itp h zc3
    suffices e : Ev (d + 0, 0, 0, 331, 33, [.val (.ref 64), .val (.int p1)], [], (126, 120, L, [Y, T, H, H2, RU, RV, ST, NS, I0, I1, I2, BO, FI, RG, GU, PU, MA, MN, MS, OT, SC], [192, 256, 320, 384, w, r5, 576, 640, 704], Lg)) o from ev_sw [((0 : Int32), 28), ((1 : Int32), 33)] p1 (fun tt => (d + 0, 0, 0, 331, tt, [.val (.ref 64), .val (.int p1)], [], (126, 120, L, [Y, T, H, H2, RU, RV, ST, NS, I0, I1, I2, BO, FI, RG, GU, PU, MA, MN, MS, OT, SC], [192, 256, 320, 384, w, r5, 576, 640, 704], Lg))) 38 33 2 (fun f => by simp only [a_sw, if_neg zc1, if_pos zc3]) e (fun n => Eq.refl _)
    have ze4 := Option.some.inj h
    subst ze4
    exact ev_rete 3 ho (fun n => Eq.refl _)
  have h := itn h zc3
  suffices e : Ev (d + 0, 0, 0, 331, 38, [.val (.ref 64), .val (.int p1)], [], (126, 120, L, [Y, T, H, H2, RU, RV, ST, NS, I0, I1, I2, BO, FI, RG, GU, PU, MA, MN, MS, OT, SC], [192, 256, 320, 384, w, r5, 576, 640, 704], Lg)) o from ev_sw [((0 : Int32), 28), ((1 : Int32), 33)] p1 (fun tt => (d + 0, 0, 0, 331, tt, [.val (.ref 64), .val (.int p1)], [], (126, 120, L, [Y, T, H, H2, RU, RV, ST, NS, I0, I1, I2, BO, FI, RG, GU, PU, MA, MN, MS, OT, SC], [192, 256, 320, 384, w, r5, 576, 640, 704], Lg))) 38 38 2 (fun f => by simp only [a_sw, if_neg zc1, if_neg zc3]) e (fun n => Eq.refl _)
  have ze5 := Option.some.inj h
  subst ze5
  exact ev_rete 2 ho (fun n => Eq.refl _)
set_option maxRecDepth 1000000 in
set_option maxHeartbeats 4000000 in
theorem R_f_Y_status_1 (d : Nat) (Y T H H2 RV RU ST NS I0 I1 I2 BO FI RG GU PU MA MN MS OT SC : Nat → Nat → Int32) (w r5 : Nat) (L : Nat) (Lg : Int64) (p1 : Int32) {r : Int32} (h : f_Y_status Y p1 = some r) : Ev (d + 0, 0, 0, 331, 0, [.val (.ref 64), .val (.int p1)], [], (126, 120, L, [Y, T, H, H2, RV, RU, ST, NS, I0, I1, I2, BO, FI, RG, GU, PU, MA, MN, MS, OT, SC], [192, 256, 384, 320, w, r5, 576, 640, 704], Lg)) ((0, some (.int r), (126, 120, L, [Y, T, H, H2, RV, RU, ST, NS, I0, I1, I2, BO, FI, RG, GU, PU, MA, MN, MS, OT, SC], [192, 256, 384, 320, w, r5, 576, 640, 704], Lg)) : AOut) := by
  suffices key : ∀ o : AOut, ((0, some (.int r), (126, 120, L, [Y, T, H, H2, RV, RU, ST, NS, I0, I1, I2, BO, FI, RG, GU, PU, MA, MN, MS, OT, SC], [192, 256, 384, 320, w, r5, 576, 640, 704], Lg)) : AOut) = o → Ev (d + 0, 0, 0, 331, 0, [.val (.ref 64), .val (.int p1)], [], (126, 120, L, [Y, T, H, H2, RV, RU, ST, NS, I0, I1, I2, BO, FI, RG, GU, PU, MA, MN, MS, OT, SC], [192, 256, 384, 320, w, r5, 576, 640, 704], Lg)) o from key _ rfl
  intro o ho
  by_cases zc1 : p1 = 0
  · have h := itp h zc1
    suffices e : Ev (d + 0, 0, 0, 331, 28, [.val (.ref 64), .val (.int p1)], [], (126, 120, L, [Y, T, H, H2, RV, RU, ST, NS, I0, I1, I2, BO, FI, RG, GU, PU, MA, MN, MS, OT, SC], [192, 256, 384, 320, w, r5, 576, 640, 704], Lg)) o from ev_sw [((0 : Int32), 28), ((1 : Int32), 33)] p1 (fun tt => (d + 0, 0, 0, 331, tt, [.val (.ref 64), .val (.int p1)], [], (126, 120, L, [Y, T, H, H2, RV, RU, ST, NS, I0, I1, I2, BO, FI, RG, GU, PU, MA, MN, MS, OT, SC], [192, 256, 384, 320, w, r5, 576, 640, 704], Lg))) 38 28 2 (fun f => by simp only [a_sw, if_pos zc1]) e (fun n => Eq.refl _)
    have ze2 := Option.some.inj h
    subst ze2
    exact ev_rete 3 ho (fun n => Eq.refl _)
  have h := itn h zc1
  by_cases zc3 : p1 = 1
  · have h := itp h zc3
    suffices e : Ev (d + 0, 0, 0, 331, 33, [.val (.ref 64), .val (.int p1)], [], (126, 120, L, [Y, T, H, H2, RV, RU, ST, NS, I0, I1, I2, BO, FI, RG, GU, PU, MA, MN, MS, OT, SC], [192, 256, 384, 320, w, r5, 576, 640, 704], Lg)) o from ev_sw [((0 : Int32), 28), ((1 : Int32), 33)] p1 (fun tt => (d + 0, 0, 0, 331, tt, [.val (.ref 64), .val (.int p1)], [], (126, 120, L, [Y, T, H, H2, RV, RU, ST, NS, I0, I1, I2, BO, FI, RG, GU, PU, MA, MN, MS, OT, SC], [192, 256, 384, 320, w, r5, 576, 640, 704], Lg))) 38 33 2 (fun f => by simp only [a_sw, if_neg zc1, if_pos zc3]) e (fun n => Eq.refl _)
    have ze4 := Option.some.inj h
    subst ze4
    exact ev_rete 3 ho (fun n => Eq.refl _)
  have h := itn h zc3
  suffices e : Ev (d + 0, 0, 0, 331, 38, [.val (.ref 64), .val (.int p1)], [], (126, 120, L, [Y, T, H, H2, RV, RU, ST, NS, I0, I1, I2, BO, FI, RG, GU, PU, MA, MN, MS, OT, SC], [192, 256, 384, 320, w, r5, 576, 640, 704], Lg)) o from ev_sw [((0 : Int32), 28), ((1 : Int32), 33)] p1 (fun tt => (d + 0, 0, 0, 331, tt, [.val (.ref 64), .val (.int p1)], [], (126, 120, L, [Y, T, H, H2, RV, RU, ST, NS, I0, I1, I2, BO, FI, RG, GU, PU, MA, MN, MS, OT, SC], [192, 256, 384, 320, w, r5, 576, 640, 704], Lg))) 38 38 2 (fun f => by simp only [a_sw, if_neg zc1, if_neg zc3]) e (fun n => Eq.refl _)
  have ze5 := Option.some.inj h
  subst ze5
  exact ev_rete 2 ho (fun n => Eq.refl _)
set_option maxRecDepth 1000000 in
set_option maxHeartbeats 4000000 in
theorem R_f_Y_status_2 (d : Nat) (Y T H2 H RU RV ST NS I0 I1 I2 BO FI RG GU PU MA MN MS OT SC : Nat → Nat → Int32) (w r5 : Nat) (L : Nat) (Lg : Int64) (p1 : Int32) {r : Int32} (h : f_Y_status Y p1 = some r) : Ev (d + 0, 0, 0, 331, 0, [.val (.ref 64), .val (.int p1)], [], (126, 120, L, [Y, T, H2, H, RU, RV, ST, NS, I0, I1, I2, BO, FI, RG, GU, PU, MA, MN, MS, OT, SC], [256, 192, 320, 384, w, r5, 576, 640, 704], Lg)) ((0, some (.int r), (126, 120, L, [Y, T, H2, H, RU, RV, ST, NS, I0, I1, I2, BO, FI, RG, GU, PU, MA, MN, MS, OT, SC], [256, 192, 320, 384, w, r5, 576, 640, 704], Lg)) : AOut) := by
  suffices key : ∀ o : AOut, ((0, some (.int r), (126, 120, L, [Y, T, H2, H, RU, RV, ST, NS, I0, I1, I2, BO, FI, RG, GU, PU, MA, MN, MS, OT, SC], [256, 192, 320, 384, w, r5, 576, 640, 704], Lg)) : AOut) = o → Ev (d + 0, 0, 0, 331, 0, [.val (.ref 64), .val (.int p1)], [], (126, 120, L, [Y, T, H2, H, RU, RV, ST, NS, I0, I1, I2, BO, FI, RG, GU, PU, MA, MN, MS, OT, SC], [256, 192, 320, 384, w, r5, 576, 640, 704], Lg)) o from key _ rfl
  intro o ho
  by_cases zc1 : p1 = 0
  · have h := itp h zc1
    suffices e : Ev (d + 0, 0, 0, 331, 28, [.val (.ref 64), .val (.int p1)], [], (126, 120, L, [Y, T, H2, H, RU, RV, ST, NS, I0, I1, I2, BO, FI, RG, GU, PU, MA, MN, MS, OT, SC], [256, 192, 320, 384, w, r5, 576, 640, 704], Lg)) o from ev_sw [((0 : Int32), 28), ((1 : Int32), 33)] p1 (fun tt => (d + 0, 0, 0, 331, tt, [.val (.ref 64), .val (.int p1)], [], (126, 120, L, [Y, T, H2, H, RU, RV, ST, NS, I0, I1, I2, BO, FI, RG, GU, PU, MA, MN, MS, OT, SC], [256, 192, 320, 384, w, r5, 576, 640, 704], Lg))) 38 28 2 (fun f => by simp only [a_sw, if_pos zc1]) e (fun n => Eq.refl _)
    have ze2 := Option.some.inj h
    subst ze2
    exact ev_rete 3 ho (fun n => Eq.refl _)
  have h := itn h zc1
  by_cases zc3 : p1 = 1
  · have h := itp h zc3
    suffices e : Ev (d + 0, 0, 0, 331, 33, [.val (.ref 64), .val (.int p1)], [], (126, 120, L, [Y, T, H2, H, RU, RV, ST, NS, I0, I1, I2, BO, FI, RG, GU, PU, MA, MN, MS, OT, SC], [256, 192, 320, 384, w, r5, 576, 640, 704], Lg)) o from ev_sw [((0 : Int32), 28), ((1 : Int32), 33)] p1 (fun tt => (d + 0, 0, 0, 331, tt, [.val (.ref 64), .val (.int p1)], [], (126, 120, L, [Y, T, H2, H, RU, RV, ST, NS, I0, I1, I2, BO, FI, RG, GU, PU, MA, MN, MS, OT, SC], [256, 192, 320, 384, w, r5, 576, 640, 704], Lg))) 38 33 2 (fun f => by simp only [a_sw, if_neg zc1, if_pos zc3]) e (fun n => Eq.refl _)
    have ze4 := Option.some.inj h
    subst ze4
    exact ev_rete 3 ho (fun n => Eq.refl _)
  have h := itn h zc3
  suffices e : Ev (d + 0, 0, 0, 331, 38, [.val (.ref 64), .val (.int p1)], [], (126, 120, L, [Y, T, H2, H, RU, RV, ST, NS, I0, I1, I2, BO, FI, RG, GU, PU, MA, MN, MS, OT, SC], [256, 192, 320, 384, w, r5, 576, 640, 704], Lg)) o from ev_sw [((0 : Int32), 28), ((1 : Int32), 33)] p1 (fun tt => (d + 0, 0, 0, 331, tt, [.val (.ref 64), .val (.int p1)], [], (126, 120, L, [Y, T, H2, H, RU, RV, ST, NS, I0, I1, I2, BO, FI, RG, GU, PU, MA, MN, MS, OT, SC], [256, 192, 320, 384, w, r5, 576, 640, 704], Lg))) 38 38 2 (fun f => by simp only [a_sw, if_neg zc1, if_neg zc3]) e (fun n => Eq.refl _)
  have ze5 := Option.some.inj h
  subst ze5
  exact ev_rete 2 ho (fun n => Eq.refl _)
set_option maxRecDepth 1000000 in
set_option maxHeartbeats 4000000 in
theorem R_f_Y_status_3 (d : Nat) (Y T H2 H RV RU ST NS I0 I1 I2 BO FI RG GU PU MA MN MS OT SC : Nat → Nat → Int32) (w r5 : Nat) (L : Nat) (Lg : Int64) (p1 : Int32) {r : Int32} (h : f_Y_status Y p1 = some r) : Ev (d + 0, 0, 0, 331, 0, [.val (.ref 64), .val (.int p1)], [], (126, 120, L, [Y, T, H2, H, RV, RU, ST, NS, I0, I1, I2, BO, FI, RG, GU, PU, MA, MN, MS, OT, SC], [256, 192, 384, 320, w, r5, 576, 640, 704], Lg)) ((0, some (.int r), (126, 120, L, [Y, T, H2, H, RV, RU, ST, NS, I0, I1, I2, BO, FI, RG, GU, PU, MA, MN, MS, OT, SC], [256, 192, 384, 320, w, r5, 576, 640, 704], Lg)) : AOut) := by
  suffices key : ∀ o : AOut, ((0, some (.int r), (126, 120, L, [Y, T, H2, H, RV, RU, ST, NS, I0, I1, I2, BO, FI, RG, GU, PU, MA, MN, MS, OT, SC], [256, 192, 384, 320, w, r5, 576, 640, 704], Lg)) : AOut) = o → Ev (d + 0, 0, 0, 331, 0, [.val (.ref 64), .val (.int p1)], [], (126, 120, L, [Y, T, H2, H, RV, RU, ST, NS, I0, I1, I2, BO, FI, RG, GU, PU, MA, MN, MS, OT, SC], [256, 192, 384, 320, w, r5, 576, 640, 704], Lg)) o from key _ rfl
  intro o ho
  by_cases zc1 : p1 = 0
  · have h := itp h zc1
    suffices e : Ev (d + 0, 0, 0, 331, 28, [.val (.ref 64), .val (.int p1)], [], (126, 120, L, [Y, T, H2, H, RV, RU, ST, NS, I0, I1, I2, BO, FI, RG, GU, PU, MA, MN, MS, OT, SC], [256, 192, 384, 320, w, r5, 576, 640, 704], Lg)) o from ev_sw [((0 : Int32), 28), ((1 : Int32), 33)] p1 (fun tt => (d + 0, 0, 0, 331, tt, [.val (.ref 64), .val (.int p1)], [], (126, 120, L, [Y, T, H2, H, RV, RU, ST, NS, I0, I1, I2, BO, FI, RG, GU, PU, MA, MN, MS, OT, SC], [256, 192, 384, 320, w, r5, 576, 640, 704], Lg))) 38 28 2 (fun f => by simp only [a_sw, if_pos zc1]) e (fun n => Eq.refl _)
    have ze2 := Option.some.inj h
    subst ze2
    exact ev_rete 3 ho (fun n => Eq.refl _)
  have h := itn h zc1
  by_cases zc3 : p1 = 1
  · have h := itp h zc3
    suffices e : Ev (d + 0, 0, 0, 331, 33, [.val (.ref 64), .val (.int p1)], [], (126, 120, L, [Y, T, H2, H, RV, RU, ST, NS, I0, I1, I2, BO, FI, RG, GU, PU, MA, MN, MS, OT, SC], [256, 192, 384, 320, w, r5, 576, 640, 704], Lg)) o from ev_sw [((0 : Int32), 28), ((1 : Int32), 33)] p1 (fun tt => (d + 0, 0, 0, 331, tt, [.val (.ref 64), .val (.int p1)], [], (126, 120, L, [Y, T, H2, H, RV, RU, ST, NS, I0, I1, I2, BO, FI, RG, GU, PU, MA, MN, MS, OT, SC], [256, 192, 384, 320, w, r5, 576, 640, 704], Lg))) 38 33 2 (fun f => by simp only [a_sw, if_neg zc1, if_pos zc3]) e (fun n => Eq.refl _)
    have ze4 := Option.some.inj h
    subst ze4
    exact ev_rete 3 ho (fun n => Eq.refl _)
  have h := itn h zc3
  suffices e : Ev (d + 0, 0, 0, 331, 38, [.val (.ref 64), .val (.int p1)], [], (126, 120, L, [Y, T, H2, H, RV, RU, ST, NS, I0, I1, I2, BO, FI, RG, GU, PU, MA, MN, MS, OT, SC], [256, 192, 384, 320, w, r5, 576, 640, 704], Lg)) o from ev_sw [((0 : Int32), 28), ((1 : Int32), 33)] p1 (fun tt => (d + 0, 0, 0, 331, tt, [.val (.ref 64), .val (.int p1)], [], (126, 120, L, [Y, T, H2, H, RV, RU, ST, NS, I0, I1, I2, BO, FI, RG, GU, PU, MA, MN, MS, OT, SC], [256, 192, 384, 320, w, r5, 576, 640, 704], Lg))) 38 38 2 (fun f => by simp only [a_sw, if_neg zc1, if_neg zc3]) e (fun n => Eq.refl _)
  have ze5 := Option.some.inj h
  subst ze5
  exact ev_rete 2 ho (fun n => Eq.refl _)
set_option maxRecDepth 1000000 in
set_option maxHeartbeats 4000000 in
theorem R_f_Y_count_0 (d : Nat) (Y T H H2 RU RV ST NS I0 I1 I2 BO FI RG GU PU MA MN MS OT SC : Nat → Nat → Int32) (w r5 : Nat) (L : Nat) (Lg : Int64) (p1 : Int32) {r : Int32} (h : f_Y_count Y T NS p1 = some r) : Ev (d + 0, 0, 0, 332, 0, [.val (.ref 64), .val (.int p1)], [], (126, 120, L, [Y, T, H, H2, RU, RV, ST, NS, I0, I1, I2, BO, FI, RG, GU, PU, MA, MN, MS, OT, SC], [192, 256, 320, 384, w, r5, 576, 640, 704], Lg)) ((0, some (.int r), (126, 120, L, [Y, T, H, H2, RU, RV, ST, NS, I0, I1, I2, BO, FI, RG, GU, PU, MA, MN, MS, OT, SC], [192, 256, 320, 384, w, r5, 576, 640, 704], Lg)) : AOut) := by
  suffices key : ∀ o : AOut, ((0, some (.int r), (126, 120, L, [Y, T, H, H2, RU, RV, ST, NS, I0, I1, I2, BO, FI, RG, GU, PU, MA, MN, MS, OT, SC], [192, 256, 320, 384, w, r5, 576, 640, 704], Lg)) : AOut) = o → Ev (d + 0, 0, 0, 332, 0, [.val (.ref 64), .val (.int p1)], [], (126, 120, L, [Y, T, H, H2, RU, RV, ST, NS, I0, I1, I2, BO, FI, RG, GU, PU, MA, MN, MS, OT, SC], [192, 256, 320, 384, w, r5, 576, 640, 704], Lg)) o from key _ rfl
  intro o ho
  by_cases zc1 : p1 = 0
  · have h := itp h zc1
    suffices e : Ev (d + 0, 0, 0, 332, 28, [.val (.ref 64), .val (.int p1)], [], (126, 120, L, [Y, T, H, H2, RU, RV, ST, NS, I0, I1, I2, BO, FI, RG, GU, PU, MA, MN, MS, OT, SC], [192, 256, 320, 384, w, r5, 576, 640, 704], Lg)) o from ev_sw [((0 : Int32), 28), ((1 : Int32), 33), ((2 : Int32), 41)] p1 (fun tt => (d + 0, 0, 0, 332, tt, [.val (.ref 64), .val (.int p1)], [], (126, 120, L, [Y, T, H, H2, RU, RV, ST, NS, I0, I1, I2, BO, FI, RG, GU, PU, MA, MN, MS, OT, SC], [192, 256, 320, 384, w, r5, 576, 640, 704], Lg))) 49 28 2 (fun f => by simp only [a_sw, if_pos zc1]) e (fun n => Eq.refl _)
    have ze2 := Option.some.inj h
    subst ze2
    exact ev_rete 3 ho (fun n => Eq.refl _)
  have h := itn h zc1
  by_cases zc3 : p1 = 1
  · have h := itp h zc3
    suffices e : Ev (d + 0, 0, 0, 332, 33, [.val (.ref 64), .val (.int p1)], [], (126, 120, L, [Y, T, H, H2, RU, RV, ST, NS, I0, I1, I2, BO, FI, RG, GU, PU, MA, MN, MS, OT, SC], [192, 256, 320, 384, w, r5, 576, 640, 704], Lg)) o from ev_sw [((0 : Int32), 28), ((1 : Int32), 33), ((2 : Int32), 41)] p1 (fun tt => (d + 0, 0, 0, 332, tt, [.val (.ref 64), .val (.int p1)], [], (126, 120, L, [Y, T, H, H2, RU, RV, ST, NS, I0, I1, I2, BO, FI, RG, GU, PU, MA, MN, MS, OT, SC], [192, 256, 320, 384, w, r5, 576, 640, 704], Lg))) 49 33 2 (fun f => by simp only [a_sw, if_neg zc1, if_pos zc3]) e (fun n => Eq.refl _)
    have ze4 := Option.some.inj h
    subst ze4
    exact ev_rete 4 ho (fun n => Eq.refl _)
  have h := itn h zc3
  by_cases zc5 : p1 = 2
  · have h := itp h zc5
    suffices e : Ev (d + 0, 0, 0, 332, 41, [.val (.ref 64), .val (.int p1)], [], (126, 120, L, [Y, T, H, H2, RU, RV, ST, NS, I0, I1, I2, BO, FI, RG, GU, PU, MA, MN, MS, OT, SC], [192, 256, 320, 384, w, r5, 576, 640, 704], Lg)) o from ev_sw [((0 : Int32), 28), ((1 : Int32), 33), ((2 : Int32), 41)] p1 (fun tt => (d + 0, 0, 0, 332, tt, [.val (.ref 64), .val (.int p1)], [], (126, 120, L, [Y, T, H, H2, RU, RV, ST, NS, I0, I1, I2, BO, FI, RG, GU, PU, MA, MN, MS, OT, SC], [192, 256, 320, 384, w, r5, 576, 640, 704], Lg))) 49 41 2 (fun f => by simp only [a_sw, if_neg zc1, if_neg zc3, if_pos zc5]) e (fun n => Eq.refl _)
    have ze6 := Option.some.inj h
    subst ze6
    exact ev_rete 4 ho (fun n => Eq.refl _)
  have h := itn h zc5
  suffices e : Ev (d + 0, 0, 0, 332, 49, [.val (.ref 64), .val (.int p1)], [], (126, 120, L, [Y, T, H, H2, RU, RV, ST, NS, I0, I1, I2, BO, FI, RG, GU, PU, MA, MN, MS, OT, SC], [192, 256, 320, 384, w, r5, 576, 640, 704], Lg)) o from ev_sw [((0 : Int32), 28), ((1 : Int32), 33), ((2 : Int32), 41)] p1 (fun tt => (d + 0, 0, 0, 332, tt, [.val (.ref 64), .val (.int p1)], [], (126, 120, L, [Y, T, H, H2, RU, RV, ST, NS, I0, I1, I2, BO, FI, RG, GU, PU, MA, MN, MS, OT, SC], [192, 256, 320, 384, w, r5, 576, 640, 704], Lg))) 49 49 2 (fun f => by simp only [a_sw, if_neg zc1, if_neg zc3, if_neg zc5]) e (fun n => Eq.refl _)
  have ze7 := Option.some.inj h
  subst ze7
  exact ev_rete 2 ho (fun n => Eq.refl _)
