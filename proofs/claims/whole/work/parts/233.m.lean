/-! printed by program (gen/emitm.py): the reference's methods run as their functions say -/
set_option maxRecDepth 1000000 in
set_option maxHeartbeats 4000000 in
theorem R_f_Rings_turns_1 (d : Nat) (Y T H2 H RA RB ST NS I0 I1 I2 BO FI RG GU PU MA MN MS OT SC : Nat → Nat → Int32) (r0 r1 r2 r3 w r6 r7 r8 : Nat) (L : Nat) (Lg : Int64) {r : Int32 × (Nat → Nat → Int32) × (Nat → Nat → Int32)} (h : f_Rings_turns H BO RG = some r) : Ev (d + 4, 0, 0, 237, 0, [.val (.ref 896), .val a_unk, .val a_unk], [], (126, 120, L, [Y, T, H2, H, RA, RB, ST, NS, I0, I1, I2, BO, FI, RG, GU, PU, MA, MN, MS, OT, SC], [r0, r1, r2, r3, w, 256, r6, r7, r8], Lg)) ((0, some (.int r.1), (126, 120, L, [Y, T, H2, H, RA, RB, ST, NS, I0, I1, I2, r.2.1, FI, r.2.2, GU, PU, MA, MN, MS, OT, SC], [r0, r1, r2, r3, w, 256, r6, r7, r8], Lg)) : AOut) := by
  suffices key : ∀ o : AOut, ((0, some (.int r.1), (126, 120, L, [Y, T, H2, H, RA, RB, ST, NS, I0, I1, I2, r.2.1, FI, r.2.2, GU, PU, MA, MN, MS, OT, SC], [r0, r1, r2, r3, w, 256, r6, r7, r8], Lg)) : AOut) = o → Ev (d + 4, 0, 0, 237, 0, [.val (.ref 896), .val a_unk, .val a_unk], [], (126, 120, L, [Y, T, H2, H, RA, RB, ST, NS, I0, I1, I2, BO, FI, RG, GU, PU, MA, MN, MS, OT, SC], [r0, r1, r2, r3, w, 256, r6, r7, r8], Lg)) o from key _ rfl
  intro o ho
  by_cases zc1 : ((0 : Int32) < 0 ∨ (0 : Int32) < 0 ∨ (10 : Int32) < 0 ∨ 10 < (0 : Int32).toNatClampNeg + (10 : Int32).toNatClampNeg ∨ 10 < (0 : Int32).toNatClampNeg + (10 : Int32).toNatClampNeg)
  · exact nos (itp h zc1)
  have h := itn h zc1
  suffices e : Ev (d + 4, 0, 0, 237, 18, [.val (.ref 896), .val a_unk, .val a_unk], [], (126, 120, L, [Y, T, H2, H, RA, RB, ST, NS, I0, I1, I2, BO, FI, (u1 RG 2 (a_cpy (BO 1) (RG 2) (0 : Int32).toNatClampNeg (0 : Int32).toNatClampNeg (10 : Int32).toNatClampNeg)), GU, PU, MA, MN, MS, OT, SC], [r0, r1, r2, r3, w, 256, r6, r7, r8], Lg)) o from ev_d (c := ((0 : Int32) < 0 ∨ (0 : Int32) < 0 ∨ (10 : Int32) < 0 ∨ 10 < (0 : Int32).toNatClampNeg + (10 : Int32).toNatClampNeg ∨ 10 < (0 : Int32).toNatClampNeg + (10 : Int32).toNatClampNeg)) _ 9 zc1 e (fun n => Eq.refl _)
  obtain ⟨BO_11, zh3, h⟩ := bnd h
  suffices e : Ev (d + 4, 0, 0, 237, 20, [.val (.ref 896), .val (.int 0), .val a_unk], [], (126, 120, L, [Y, T, H2, H, RA, RB, ST, NS, I0, I1, I2, BO, FI, (u1 RG 2 (a_cpy (BO 1) (RG 2) (0 : Int32).toNatClampNeg (0 : Int32).toNatClampNeg (10 : Int32).toNatClampNeg)), GU, PU, MA, MN, MS, OT, SC], [r0, r1, r2, r3, w, 256, r6, r7, r8], Lg)) o from ev_b 2 e (fun n => Eq.refl _)
  refine ev_loop (δ := Value) (fun a j => (d + 4, 0, 0, 237, 20, [.val (.ref 896), .val (.int a.1), .val j], [], (126, 120, L, [Y, T, H2, H, RA, RB, ST, NS, I0, I1, I2, a.2, FI, (u1 RG 2 (a_cpy (BO 1) (RG 2) (0 : Int32).toNatClampNeg (0 : Int32).toNatClampNeg (10 : Int32).toNatClampNeg)), GU, PU, MA, MN, MS, OT, SC], [r0, r1, r2, r3, w, 256, r6, r7, r8], Lg))) (fun b => ∀ s9 : Value, ∀ s10 : Value, Ev (d + 4, 0, 0, 237, 77, [.val (.ref 896), .val s9, .val s10], [], (126, 120, L, [Y, T, H2, H, RA, RB, ST, NS, I0, I1, I2, b, FI, (u1 RG 2 (a_cpy (BO 1) (RG 2) (0 : Int32).toNatClampNeg (0 : Int32).toNatClampNeg (10 : Int32).toNatClampNeg)), GU, PU, MA, MN, MS, OT, SC], [r0, r1, r2, r3, w, 256, r6, r7, r8], Lg)) o) ?_ a_F (0, BO) BO_11 zh3 ?_ a_unk
  · rintro ⟨v1, BO_3⟩ zr7 zh6 zi4 zx5 s2
    have zh6 : f_Rings_turns_l20 BO RG v1 BO_3 = some zr7 := zh6
    by_cases zc8 : ((u1 RG 2 (a_cpy (BO 1) (RG 2) (0 : Int32).toNatClampNeg (0 : Int32).toNatClampNeg (10 : Int32).toNatClampNeg)) 0 3) ≤ v1
    · have zh6 := itp zh6 zc8
      suffices e : Ev (d + 4, 0, 0, 237, 77, [.val (.ref 896), .val (.int v1), .val s2], [], (126, 120, L, [Y, T, H2, H, RA, RB, ST, NS, I0, I1, I2, BO_3, FI, (u1 RG 2 (a_cpy (BO 1) (RG 2) (0 : Int32).toNatClampNeg (0 : Int32).toNatClampNeg (10 : Int32).toNatClampNeg)), GU, PU, MA, MN, MS, OT, SC], [r0, r1, r2, r3, w, 256, r6, r7, r8], Lg)) o from ev_t (c := ((u1 RG 2 (a_cpy (BO 1) (RG 2) (0 : Int32).toNatClampNeg (0 : Int32).toNatClampNeg (10 : Int32).toNatClampNeg)) 0 3) ≤ v1) _ _ 4  zc8 e (fun n => Eq.refl _)
      exact ev_b 0 (zx5 _ (Option.some.inj zh6).symm (.int v1) s2) (fun n => Eq.refl _)
    · have zh6 := itn zh6 zc8
      suffices e : Ev (d + 4, 0, 0, 237, 28, [.val (.ref 896), .val (.int v1), .val s2], [], (126, 120, L, [Y, T, H2, H, RA, RB, ST, NS, I0, I1, I2, BO_3, FI, (u1 RG 2 (a_cpy (BO 1) (RG 2) (0 : Int32).toNatClampNeg (0 : Int32).toNatClampNeg (10 : Int32).toNatClampNeg)), GU, PU, MA, MN, MS, OT, SC], [r0, r1, r2, r3, w, 256, r6, r7, r8], Lg)) o from ev_f (c := ((u1 RG 2 (a_cpy (BO 1) (RG 2) (0 : Int32).toNatClampNeg (0 : Int32).toNatClampNeg (10 : Int32).toNatClampNeg)) 0 3) ≤ v1) _ _ 4  zc8 e (fun n => Eq.refl _)
      obtain ⟨zt9, zh10, zh6⟩ := bnd zh6
      have zj11 : ∀ (v4 : Int32), v4 = zt9 → Ev (d + 4, 0, 0, 237, 45, [.val (.ref 896), .val (.int v1), .val s2], [.int v4], (126, 120, L, [Y, T, H2, H, RA, RB, ST, NS, I0, I1, I2, BO_3, FI, (u1 RG 2 (a_cpy (BO 1) (RG 2) (0 : Int32).toNatClampNeg (0 : Int32).toNatClampNeg (10 : Int32).toNatClampNeg)), GU, PU, MA, MN, MS, OT, SC], [r0, r1, r2, r3, w, 256, r6, r7, r8], Lg)) o := by
        intro v4 ze12
        subst ze12
        obtain ⟨x5, zh13, zh6⟩ := bnd zh6
        have zh13 : rdx ((u1 RG 2 (a_cpy (BO 1) (RG 2) (0 : Int32).toNatClampNeg (0 : Int32).toNatClampNeg (10 : Int32).toNatClampNeg)) 1) 4 v1 = some x5 := zh13
        suffices e : Ev (d + 4, 0, 0, 237, 59, [.val (.ref 896), .val (.int v1), .val (.int v4)], [.int x5, .ref 769], (126, 120, L, [Y, T, H2, H, RA, RB, ST, NS, I0, I1, I2, BO_3, FI, (u1 RG 2 (a_cpy (BO 1) (RG 2) (0 : Int32).toNatClampNeg (0 : Int32).toNatClampNeg (10 : Int32).toNatClampNeg)), GU, PU, MA, MN, MS, OT, SC], [r0, r1, r2, r3, w, 256, r6, r7, r8], Lg)) o from ev_opt (fun x5 => (d + 4, 0, 0, 237, 59, [.val (.ref 896), .val (.int v1), .val (.int v4)], [.int x5, .ref 769], (126, 120, L, [Y, T, H2, H, RA, RB, ST, NS, I0, I1, I2, BO_3, FI, (u1 RG 2 (a_cpy (BO 1) (RG 2) (0 : Int32).toNatClampNeg (0 : Int32).toNatClampNeg (10 : Int32).toNatClampNeg)), GU, PU, MA, MN, MS, OT, SC], [r0, r1, r2, r3, w, 256, r6, r7, r8], Lg))) 8 zh13 e (fun n => Eq.refl _)
        obtain ⟨x6, zh14, zh6⟩ := bnd zh6
        have zh14 : rdx ((u1 RG 2 (a_cpy (BO 1) (RG 2) (0 : Int32).toNatClampNeg (0 : Int32).toNatClampNeg (10 : Int32).toNatClampNeg)) 1) 4 v4 = some x6 := zh14
        suffices e : Ev (d + 4, 0, 0, 237, 69, [.val (.ref 896), .val (.int v1), .val (.int v4)], [.int x6, .ref 898, .int x5, .ref 769], (126, 120, L, [Y, T, H2, H, RA, RB, ST, NS, I0, I1, I2, BO_3, FI, (u1 RG 2 (a_cpy (BO 1) (RG 2) (0 : Int32).toNatClampNeg (0 : Int32).toNatClampNeg (10 : Int32).toNatClampNeg)), GU, PU, MA, MN, MS, OT, SC], [r0, r1, r2, r3, w, 256, r6, r7, r8], Lg)) o from ev_opt (fun x6 => (d + 4, 0, 0, 237, 69, [.val (.ref 896), .val (.int v1), .val (.int v4)], [.int x6, .ref 898, .int x5, .ref 769], (126, 120, L, [Y, T, H2, H, RA, RB, ST, NS, I0, I1, I2, BO_3, FI, (u1 RG 2 (a_cpy (BO 1) (RG 2) (0 : Int32).toNatClampNeg (0 : Int32).toNatClampNeg (10 : Int32).toNatClampNeg)), GU, PU, MA, MN, MS, OT, SC], [r0, r1, r2, r3, w, 256, r6, r7, r8], Lg))) 6 zh14 e (fun n => Eq.refl _)
        obtain ⟨x7, zh15, zh6⟩ := bnd zh6
        have zh15 : rdx ((u1 RG 2 (a_cpy (BO 1) (RG 2) (0 : Int32).toNatClampNeg (0 : Int32).toNatClampNeg (10 : Int32).toNatClampNeg)) 2) 10 x6 = some x7 := zh15
        suffices e : Ev (d + 4, 0, 0, 237, 70, [.val (.ref 896), .val (.int v1), .val (.int v4)], [.int x7, .int x5, .ref 769], (126, 120, L, [Y, T, H2, H, RA, RB, ST, NS, I0, I1, I2, BO_3, FI, (u1 RG 2 (a_cpy (BO 1) (RG 2) (0 : Int32).toNatClampNeg (0 : Int32).toNatClampNeg (10 : Int32).toNatClampNeg)), GU, PU, MA, MN, MS, OT, SC], [r0, r1, r2, r3, w, 256, r6, r7, r8], Lg)) o from ev_opt (fun x7 => (d + 4, 0, 0, 237, 70, [.val (.ref 896), .val (.int v1), .val (.int v4)], [.int x7, .int x5, .ref 769], (126, 120, L, [Y, T, H2, H, RA, RB, ST, NS, I0, I1, I2, BO_3, FI, (u1 RG 2 (a_cpy (BO 1) (RG 2) (0 : Int32).toNatClampNeg (0 : Int32).toNatClampNeg (10 : Int32).toNatClampNeg)), GU, PU, MA, MN, MS, OT, SC], [r0, r1, r2, r3, w, 256, r6, r7, r8], Lg))) 1 zh15 e (fun n => Eq.refl _)
        obtain ⟨j8, zh16, zh6⟩ := bnd zh6
        have zh16 : ixx 10 x5 = some j8 := zh16
        suffices e : Ev (d + 4, 0, 0, 237, 71, [.val (.ref 896), .val (.int v1), .val (.int v4)], [], (126, 120, L, [Y, T, H2, H, RA, RB, ST, NS, I0, I1, I2, (u2 BO_3 1 j8 x7), FI, (u1 RG 2 (a_cpy (BO 1) (RG 2) (0 : Int32).toNatClampNeg (0 : Int32).toNatClampNeg (10 : Int32).toNatClampNeg)), GU, PU, MA, MN, MS, OT, SC], [r0, r1, r2, r3, w, 256, r6, r7, r8], Lg)) o from ev_opt (fun j8 => (d + 4, 0, 0, 237, 71, [.val (.ref 896), .val (.int v1), .val (.int v4)], [], (126, 120, L, [Y, T, H2, H, RA, RB, ST, NS, I0, I1, I2, (u2 BO_3 1 j8 x7), FI, (u1 RG 2 (a_cpy (BO 1) (RG 2) (0 : Int32).toNatClampNeg (0 : Int32).toNatClampNeg (10 : Int32).toNatClampNeg)), GU, PU, MA, MN, MS, OT, SC], [r0, r1, r2, r3, w, 256, r6, r7, r8], Lg))) 1 zh16 e (fun n => Eq.refl _)
        exact ev_b 2 (zi4 _ (Option.some.inj zh6).symm (.int v4)) (fun n => Eq.refl _)
      by_cases zc17 : ((u1 RG 2 (a_cpy (BO 1) (RG 2) (0 : Int32).toNatClampNeg (0 : Int32).toNatClampNeg (10 : Int32).toNatClampNeg)) 0 3) ≤ (v1 + 1)
      · have zh10 := itp zh10 zc17
        suffices e : Ev (d + 4, 0, 0, 237, 44, [.val (.ref 896), .val (.int v1), .val s2], [], (126, 120, L, [Y, T, H2, H, RA, RB, ST, NS, I0, I1, I2, BO_3, FI, (u1 RG 2 (a_cpy (BO 1) (RG 2) (0 : Int32).toNatClampNeg (0 : Int32).toNatClampNeg (10 : Int32).toNatClampNeg)), GU, PU, MA, MN, MS, OT, SC], [r0, r1, r2, r3, w, 256, r6, r7, r8], Lg)) o from ev_t (c := ((u1 RG 2 (a_cpy (BO 1) (RG 2) (0 : Int32).toNatClampNeg (0 : Int32).toNatClampNeg (10 : Int32).toNatClampNeg)) 0 3) ≤ (v1 + 1)) _ _ 6  zc17 e (fun n => Eq.refl _)
        exact ev_b 1 (zj11 0 (Option.some.inj zh10) ) (fun n => Eq.refl _)
      · have zh10 := itn zh10 zc17
        suffices e : Ev (d + 4, 0, 0, 237, 38, [.val (.ref 896), .val (.int v1), .val s2], [], (126, 120, L, [Y, T, H2, H, RA, RB, ST, NS, I0, I1, I2, BO_3, FI, (u1 RG 2 (a_cpy (BO 1) (RG 2) (0 : Int32).toNatClampNeg (0 : Int32).toNatClampNeg (10 : Int32).toNatClampNeg)), GU, PU, MA, MN, MS, OT, SC], [r0, r1, r2, r3, w, 256, r6, r7, r8], Lg)) o from ev_f (c := ((u1 RG 2 (a_cpy (BO 1) (RG 2) (0 : Int32).toNatClampNeg (0 : Int32).toNatClampNeg (10 : Int32).toNatClampNeg)) 0 3) ≤ (v1 + 1)) _ _ 6  zc17 e (fun n => Eq.refl _)
        exact ev_b 4 (zj11 (v1 + 1) (Option.some.inj zh10) ) (fun n => Eq.refl _)
  · skip
    intro s9 s10
    obtain ⟨x12, zh18, h⟩ := bnd h
    have zh18 : f_Board_isLawful H BO_11 = some x12 := zh18
    have ze19 := R_f_Board_isLawful_1 (d + 0) Y T H2 H RA RB ST NS I0 I1 I2 BO_11 FI (u1 RG 2 (a_cpy (BO 1) (RG 2) (0 : Int32).toNatClampNeg (0 : Int32).toNatClampNeg (10 : Int32).toNatClampNeg)) GU PU MA MN MS OT SC r0 r1 r2 r3 w r6 r7 r8 L Lg zh18
    suffices e : Ev (d + 4, 0, 0, 237, 84, [.val (.ref 896), .val s9, .val s10], [.int x12], (126, 120, L, [Y, T, H2, H, RA, RB, ST, NS, I0, I1, I2, BO_11, FI, (u1 RG 2 (a_cpy (BO 1) (RG 2) (0 : Int32).toNatClampNeg (0 : Int32).toNatClampNeg (10 : Int32).toNatClampNeg)), GU, PU, MA, MN, MS, OT, SC], [r0, r1, r2, r3, w, 256, r6, r7, r8], Lg)) o from ev_call (fun v μ => (d + 4, 0, 0, 237, 84, [.val (.ref 896), .val s9, .val s10], v.toList ++ [], μ)) 3 ze19 e (fun n => Eq.refl _)
    by_cases zc20 : ((0 : Int32) < 0 ∨ (0 : Int32) < 0 ∨ (10 : Int32) < 0 ∨ 10 < (0 : Int32).toNatClampNeg + (10 : Int32).toNatClampNeg ∨ 10 < (0 : Int32).toNatClampNeg + (10 : Int32).toNatClampNeg)
    · exact nos (itp h zc20)
    have h := itn h zc20
    suffices e : Ev (d + 4, 0, 0, 237, 103, [.val (.ref 896), .val (.int x12), .val s10], [], (126, 120, L, [Y, T, H2, H, RA, RB, ST, NS, I0, I1, I2, (u1 BO_11 1 (a_cpy ((u1 RG 2 (a_cpy (BO 1) (RG 2) (0 : Int32).toNatClampNeg (0 : Int32).toNatClampNeg (10 : Int32).toNatClampNeg)) 2) (BO_11 1) (0 : Int32).toNatClampNeg (0 : Int32).toNatClampNeg (10 : Int32).toNatClampNeg)), FI, (u1 RG 2 (a_cpy (BO 1) (RG 2) (0 : Int32).toNatClampNeg (0 : Int32).toNatClampNeg (10 : Int32).toNatClampNeg)), GU, PU, MA, MN, MS, OT, SC], [r0, r1, r2, r3, w, 256, r6, r7, r8], Lg)) o from ev_d (c := ((0 : Int32) < 0 ∨ (0 : Int32) < 0 ∨ (10 : Int32) < 0 ∨ 10 < (0 : Int32).toNatClampNeg + (10 : Int32).toNatClampNeg ∨ 10 < (0 : Int32).toNatClampNeg + (10 : Int32).toNatClampNeg)) _ 10 zc20 e (fun n => Eq.refl _)
    have ze21 := Option.some.inj h
    subst ze21
    exact ev_rete 2 ho (fun n => Eq.refl _)
set_option maxRecDepth 1000000 in
set_option maxHeartbeats 4000000 in
theorem R_f_Rings_couldSwap_1 (d : Nat) (Y T H2 H RA RB ST NS I0 I1 I2 BO FI RG GU PU MA MN MS OT SC : Nat → Nat → Int32) (r0 r1 r2 r3 w r6 r7 r8 : Nat) (L : Nat) (Lg : Int64) (p1 : Int32) (p2 : Int32) {r : Int32 × (Nat → Nat → Int32) × (Nat → Nat → Int32)} (h : f_Rings_couldSwap H BO RG p1 p2 = some r) : Ev (d + 5, 0, 0, 233, 0, [.val (.ref 896), .val (.int p1), .val (.int p2)], [], (126, 120, L, [Y, T, H2, H, RA, RB, ST, NS, I0, I1, I2, BO, FI, RG, GU, PU, MA, MN, MS, OT, SC], [r0, r1, r2, r3, w, 256, r6, r7, r8], Lg)) ((0, some (.int r.1), (126, 120, L, [Y, T, H2, H, RA, RB, ST, NS, I0, I1, I2, r.2.1, FI, r.2.2, GU, PU, MA, MN, MS, OT, SC], [r0, r1, r2, r3, w, 256, r6, r7, r8], Lg)) : AOut) := by
  suffices key : ∀ o : AOut, ((0, some (.int r.1), (126, 120, L, [Y, T, H2, H, RA, RB, ST, NS, I0, I1, I2, r.2.1, FI, r.2.2, GU, PU, MA, MN, MS, OT, SC], [r0, r1, r2, r3, w, 256, r6, r7, r8], Lg)) : AOut) = o → Ev (d + 5, 0, 0, 233, 0, [.val (.ref 896), .val (.int p1), .val (.int p2)], [], (126, 120, L, [Y, T, H2, H, RA, RB, ST, NS, I0, I1, I2, BO, FI, RG, GU, PU, MA, MN, MS, OT, SC], [r0, r1, r2, r3, w, 256, r6, r7, r8], Lg)) o from key _ rfl
  intro o ho
  obtain ⟨j1, zh1, h⟩ := bnd h
  have zh1 : ixx 4 0 = some j1 := zh1
  suffices e : Ev (d + 5, 0, 0, 233, 12, [.val (.ref 896), .val (.int p1), .val (.int p2)], [], (126, 120, L, [Y, T, H2, H, RA, RB, ST, NS, I0, I1, I2, BO, FI, (u2 (u2 RG 0 3 2) 1 j1 p1), GU, PU, MA, MN, MS, OT, SC], [r0, r1, r2, r3, w, 256, r6, r7, r8], Lg)) o from ev_opt (fun j1 => (d + 5, 0, 0, 233, 12, [.val (.ref 896), .val (.int p1), .val (.int p2)], [], (126, 120, L, [Y, T, H2, H, RA, RB, ST, NS, I0, I1, I2, BO, FI, (u2 (u2 RG 0 3 2) 1 j1 p1), GU, PU, MA, MN, MS, OT, SC], [r0, r1, r2, r3, w, 256, r6, r7, r8], Lg))) 8 zh1 e (fun n => Eq.refl _)
  obtain ⟨j2, zh2, h⟩ := bnd h
  have zh2 : ixx 4 1 = some j2 := zh2
  suffices e : Ev (d + 5, 0, 0, 233, 19, [.val (.ref 896), .val (.int p1), .val (.int p2)], [], (126, 120, L, [Y, T, H2, H, RA, RB, ST, NS, I0, I1, I2, BO, FI, (u2 (u2 (u2 RG 0 3 2) 1 j1 p1) 1 j2 p2), GU, PU, MA, MN, MS, OT, SC], [r0, r1, r2, r3, w, 256, r6, r7, r8], Lg)) o from ev_opt (fun j2 => (d + 5, 0, 0, 233, 19, [.val (.ref 896), .val (.int p1), .val (.int p2)], [], (126, 120, L, [Y, T, H2, H, RA, RB, ST, NS, I0, I1, I2, BO, FI, (u2 (u2 (u2 RG 0 3 2) 1 j1 p1) 1 j2 p2), GU, PU, MA, MN, MS, OT, SC], [r0, r1, r2, r3, w, 256, r6, r7, r8], Lg))) 5 zh2 e (fun n => Eq.refl _)
  obtain ⟨x3, zh3, h⟩ := bnd h
  have zh3 : f_Rings_mayTurn H BO p1 = some x3 := zh3
  have ze4 := R_f_Rings_mayTurn_1 (d + 3) Y T H2 H RA RB ST NS I0 I1 I2 BO FI (u2 (u2 (u2 RG 0 3 2) 1 j1 p1) 1 j2 p2) GU PU MA MN MS OT SC r0 r1 r2 r3 w r6 r7 r8 L Lg p1 zh3
  suffices e : Ev (d + 5, 0, 0, 233, 24, [.val (.ref 896), .val (.int p1), .val (.int p2)], [.int x3], (126, 120, L, [Y, T, H2, H, RA, RB, ST, NS, I0, I1, I2, BO, FI, (u2 (u2 (u2 RG 0 3 2) 1 j1 p1) 1 j2 p2), GU, PU, MA, MN, MS, OT, SC], [r0, r1, r2, r3, w, 256, r6, r7, r8], Lg)) o from ev_call (fun v μ => (d + 5, 0, 0, 233, 24, [.val (.ref 896), .val (.int p1), .val (.int p2)], v.toList ++ [], μ)) 3 ze4 e (fun n => Eq.refl _)
  by_cases zc5 : x3 = 0
  · have h := itp h zc5
    suffices e : Ev (d + 5, 0, 0, 233, 46, [.val (.ref 896), .val (.int p1), .val (.int p2)], [], (126, 120, L, [Y, T, H2, H, RA, RB, ST, NS, I0, I1, I2, BO, FI, (u2 (u2 (u2 RG 0 3 2) 1 j1 p1) 1 j2 p2), GU, PU, MA, MN, MS, OT, SC], [r0, r1, r2, r3, w, 256, r6, r7, r8], Lg)) o from ev_t (c := x3 = 0) _ _ 1  zc5 e (fun n => Eq.refl _)
    have ze6 := Option.some.inj h
    subst ze6
    exact ev_rete 2 ho (fun n => Eq.refl _)
  · have h := itn h zc5
    suffices e : Ev (d + 5, 0, 0, 233, 27, [.val (.ref 896), .val (.int p1), .val (.int p2)], [], (126, 120, L, [Y, T, H2, H, RA, RB, ST, NS, I0, I1, I2, BO, FI, (u2 (u2 (u2 RG 0 3 2) 1 j1 p1) 1 j2 p2), GU, PU, MA, MN, MS, OT, SC], [r0, r1, r2, r3, w, 256, r6, r7, r8], Lg)) o from ev_f (c := x3 = 0) _ _ 1  zc5 e (fun n => Eq.refl _)
    obtain ⟨x4, zh7, h⟩ := bnd h
    have zh7 : f_Rings_mayTurn H BO p2 = some x4 := zh7
    have ze8 := R_f_Rings_mayTurn_1 (d + 3) Y T H2 H RA RB ST NS I0 I1 I2 BO FI (u2 (u2 (u2 RG 0 3 2) 1 j1 p1) 1 j2 p2) GU PU MA MN MS OT SC r0 r1 r2 r3 w r6 r7 r8 L Lg p2 zh7
    suffices e : Ev (d + 5, 0, 0, 233, 32, [.val (.ref 896), .val (.int p1), .val (.int p2)], [.int x4], (126, 120, L, [Y, T, H2, H, RA, RB, ST, NS, I0, I1, I2, BO, FI, (u2 (u2 (u2 RG 0 3 2) 1 j1 p1) 1 j2 p2), GU, PU, MA, MN, MS, OT, SC], [r0, r1, r2, r3, w, 256, r6, r7, r8], Lg)) o from ev_call (fun v μ => (d + 5, 0, 0, 233, 32, [.val (.ref 896), .val (.int p1), .val (.int p2)], v.toList ++ [], μ)) 3 ze8 e (fun n => Eq.refl _)
    by_cases zc9 : x4 = 0
    · have h := itp h zc9
      suffices e : Ev (d + 5, 0, 0, 233, 46, [.val (.ref 896), .val (.int p1), .val (.int p2)], [], (126, 120, L, [Y, T, H2, H, RA, RB, ST, NS, I0, I1, I2, BO, FI, (u2 (u2 (u2 RG 0 3 2) 1 j1 p1) 1 j2 p2), GU, PU, MA, MN, MS, OT, SC], [r0, r1, r2, r3, w, 256, r6, r7, r8], Lg)) o from ev_t (c := x4 = 0) _ _ 1  zc9 e (fun n => Eq.refl _)
      have ze10 := Option.some.inj h
      subst ze10
      exact ev_rete 2 ho (fun n => Eq.refl _)
    · have h := itn h zc9
      suffices e : Ev (d + 5, 0, 0, 233, 35, [.val (.ref 896), .val (.int p1), .val (.int p2)], [], (126, 120, L, [Y, T, H2, H, RA, RB, ST, NS, I0, I1, I2, BO, FI, (u2 (u2 (u2 RG 0 3 2) 1 j1 p1) 1 j2 p2), GU, PU, MA, MN, MS, OT, SC], [r0, r1, r2, r3, w, 256, r6, r7, r8], Lg)) o from ev_f (c := x4 = 0) _ _ 1  zc9 e (fun n => Eq.refl _)
      obtain ⟨⟨x5, BO_6, RG_7⟩, zh11, h⟩ := bnd h
      have zh11 : f_Rings_turns H BO (u2 (u2 (u2 RG 0 3 2) 1 j1 p1) 1 j2 p2) = some (x5, BO_6, RG_7) := zh11
      have ze12 := R_f_Rings_turns_1 (d + 0) Y T H2 H RA RB ST NS I0 I1 I2 BO FI (u2 (u2 (u2 RG 0 3 2) 1 j1 p1) 1 j2 p2) GU PU MA MN MS OT SC r0 r1 r2 r3 w r6 r7 r8 L Lg zh11
      suffices e : Ev (d + 5, 0, 0, 233, 39, [.val (.ref 896), .val (.int p1), .val (.int p2)], [.int x5], (126, 120, L, [Y, T, H2, H, RA, RB, ST, NS, I0, I1, I2, BO_6, FI, RG_7, GU, PU, MA, MN, MS, OT, SC], [r0, r1, r2, r3, w, 256, r6, r7, r8], Lg)) o from ev_call (fun v μ => (d + 5, 0, 0, 233, 39, [.val (.ref 896), .val (.int p1), .val (.int p2)], v.toList ++ [], μ)) 2 ze12 e (fun n => Eq.refl _)
      by_cases zc13 : x5 = 0
      · have h := itp h zc13
        suffices e : Ev (d + 5, 0, 0, 233, 46, [.val (.ref 896), .val (.int p1), .val (.int p2)], [], (126, 120, L, [Y, T, H2, H, RA, RB, ST, NS, I0, I1, I2, BO_6, FI, RG_7, GU, PU, MA, MN, MS, OT, SC], [r0, r1, r2, r3, w, 256, r6, r7, r8], Lg)) o from ev_t (c := x5 = 0) _ _ 1  zc13 e (fun n => Eq.refl _)
        have ze14 := Option.some.inj h
        subst ze14
        exact ev_rete 2 ho (fun n => Eq.refl _)
      · have h := itn h zc13
        suffices e : Ev (d + 5, 0, 0, 233, 42, [.val (.ref 896), .val (.int p1), .val (.int p2)], [], (126, 120, L, [Y, T, H2, H, RA, RB, ST, NS, I0, I1, I2, BO_6, FI, RG_7, GU, PU, MA, MN, MS, OT, SC], [r0, r1, r2, r3, w, 256, r6, r7, r8], Lg)) o from ev_f (c := x5 = 0) _ _ 1  zc13 e (fun n => Eq.refl _)
        have ze15 := Option.some.inj h
        subst ze15
        exact ev_rete 3 ho (fun n => Eq.refl _)
set_option maxRecDepth 1000000 in
set_option maxHeartbeats 4000000 in
theorem R_f_Y_swap_2 (d : Nat) (Y T H2 H RU RV ST NS I0 I1 I2 BO FI RG GU PU MA MN MS OT SC : Nat → Nat → Int32) (w r5 : Nat) (L : Nat) (Lg : Int64) (p1 : Int32) (p2 : Int32) {r : Nat × Int32 × (Nat → Nat → Int32) × (Nat → Nat → Int32) × (Nat → Nat → Int32) × Nat} (h : f_Y_swap Y H NS BO RG 256 r5 p1 p2 = some r) : Ev (d + 6, 3, 24, 305, 0, [.val (.ref 64), .val (.int p1), .val (.int p2)], [], (126, 120, L, [Y, T, H2, H, RU, RV, ST, NS, I0, I1, I2, BO, FI, RG, GU, PU, MA, MN, MS, OT, SC], [256, 192, 320, 384, w, r5, 576, 640, 704], Lg)) ((r.1, a_ov r.1 (.int r.2.1), (126, 120, L, [r.2.2.1, T, H2, H, RU, RV, ST, NS, I0, I1, I2, r.2.2.2.1, FI, r.2.2.2.2.1, GU, PU, MA, MN, MS, OT, SC], [256, 192, 320, 384, w, r.2.2.2.2.2, 576, 640, 704], Lg)) : AOut) := by
  suffices key : ∀ o : AOut, ((r.1, a_ov r.1 (.int r.2.1), (126, 120, L, [r.2.2.1, T, H2, H, RU, RV, ST, NS, I0, I1, I2, r.2.2.2.1, FI, r.2.2.2.2.1, GU, PU, MA, MN, MS, OT, SC], [256, 192, 320, 384, w, r.2.2.2.2.2, 576, 640, 704], Lg)) : AOut) = o → Ev (d + 6, 3, 24, 305, 0, [.val (.ref 64), .val (.int p1), .val (.int p2)], [], (126, 120, L, [Y, T, H2, H, RU, RV, ST, NS, I0, I1, I2, BO, FI, RG, GU, PU, MA, MN, MS, OT, SC], [256, 192, 320, 384, w, r5, 576, 640, 704], Lg)) o from key _ rfl
  intro o ho
  obtain ⟨⟨q1, Y_2⟩, zh1, h⟩ := bnd h
  have zh1 : f_Y_needMeeting Y H p1 = some (q1, Y_2) := zh1
  have ze2 := R_f_Y_needMeeting_2 (d + 4) Y T H2 H RU RV ST NS I0 I1 I2 BO FI RG GU PU MA MN MS OT SC w r5 L Lg p1 zh1
  cases q1 with
  | zero =>
    have h := itp h rfl
    suffices e : Ev (d + 6, 2, 16, 305, 5, [.val (.ref 64), .val (.int p1), .val (.int p2)], [], (126, 120, L, [Y_2, T, H2, H, RU, RV, ST, NS, I0, I1, I2, BO, FI, RG, GU, PU, MA, MN, MS, OT, SC], [256, 192, 320, 384, w, r5, 576, 640, 704], Lg)) o from ev_call (fun v μ => (d + 6, 2, 16, 305, 5, [.val (.ref 64), .val (.int p1), .val (.int p2)], v.toList ++ [], μ)) 3 ze2 e (fun n => Eq.refl _)
    obtain ⟨⟨q3, Y_4⟩, zh3, h⟩ := bnd h
    have zh3 : f_Y_needMeeting Y_2 H p2 = some (q3, Y_4) := zh3
    have ze4 := R_f_Y_needMeeting_2 (d + 4) Y_2 T H2 H RU RV ST NS I0 I1 I2 BO FI RG GU PU MA MN MS OT SC w r5 L Lg p2 zh3
    cases q3 with
    | zero =>
      have h := itp h rfl
      suffices e : Ev (d + 6, 1, 8, 305, 10, [.val (.ref 64), .val (.int p1), .val (.int p2)], [], (126, 120, L, [Y_4, T, H2, H, RU, RV, ST, NS, I0, I1, I2, BO, FI, RG, GU, PU, MA, MN, MS, OT, SC], [256, 192, 320, 384, w, r5, 576, 640, 704], Lg)) o from ev_call (fun v μ => (d + 6, 1, 8, 305, 10, [.val (.ref 64), .val (.int p1), .val (.int p2)], v.toList ++ [], μ)) 3 ze4 e (fun n => Eq.refl _)
      obtain ⟨zt5, zh6, h⟩ := bnd h
      have zj7 : ∀ (v5 : Int32), v5 = zt5 → Ev (d + 6, 1, 8, 305, 21, [.val (.ref 64), .val (.int p1), .val (.int p2)], [.int v5, .ref 64], (126, 120, L, [Y_4, T, H2, H, RU, RV, ST, NS, I0, I1, I2, BO, FI, RG, GU, PU, MA, MN, MS, OT, SC], [256, 192, 320, 384, w, r5, 576, 640, 704], Lg)) o := by
        intro v5 ze8
        subst ze8
        obtain ⟨⟨q6, Y_7⟩, zh9, h⟩ := bnd h
        have zh9 : f_Y_refuseUnless Y_4 v5 = some (q6, Y_7) := zh9
        have ze10 := R_f_Y_refuseUnless_2 (d + 5) Y_4 T H2 H RU RV ST NS I0 I1 I2 BO FI RG GU PU MA MN MS OT SC w r5 L Lg v5 zh9
        cases q6 with
        | zero =>
          have h := itp h rfl
          suffices e : Ev (d + 6, 0, 0, 305, 24, [.val (.ref 64), .val (.int p1), .val (.int p2)], [], (126, 120, L, [Y_7, T, H2, H, RU, RV, ST, NS, I0, I1, I2, BO, FI, RG, GU, PU, MA, MN, MS, OT, SC], [256, 192, 320, 384, w, r5, 576, 640, 704], Lg)) o from ev_call (fun v μ => (d + 6, 0, 0, 305, 24, [.val (.ref 64), .val (.int p1), .val (.int p2)], v.toList ++ [], μ)) 1 ze10 e (fun n => Eq.refl _)
          obtain ⟨BO_9, zh11, h⟩ := bnd h
          have zh11 : f_Y_lookNow H NS BO = some BO_9 := zh11
          have ze12 := R_f_Y_lookNow_2 (d + 3) Y_7 T H2 H RU RV ST NS I0 I1 I2 BO FI RG GU PU MA MN MS OT SC w r5 L Lg zh11
          suffices e : Ev (d + 6, 0, 0, 305, 28, [.val (.ref 64), .val (.int p1), .val (.int p2)], [.ref 768], (126, 120, L, [Y_7, T, H2, H, RU, RV, ST, NS, I0, I1, I2, BO_9, FI, RG, GU, PU, MA, MN, MS, OT, SC], [256, 192, 320, 384, w, 256, 576, 640, 704], Lg)) o from ev_call (fun v μ => (d + 6, 0, 0, 305, 28, [.val (.ref 64), .val (.int p1), .val (.int p2)], v.toList ++ [], μ)) 2 ze12 e (fun n => Eq.refl _)
          obtain ⟨⟨x10, BO_11, RG_12⟩, zh13, h⟩ := bnd h
          have zh13 : f_Rings_couldSwap H BO_9 RG p1 p2 = some (x10, BO_11, RG_12) := zh13
          have ze14 := R_f_Rings_couldSwap_1 (d + 0) Y_7 T H2 H RU RV ST NS I0 I1 I2 BO_9 FI RG GU PU MA MN MS OT SC 256 192 320 384 w 576 640 704 L Lg p1 p2 zh13
          suffices e : Ev (d + 6, 0, 0, 305, 38, [.val (.ref 64), .val (.int p1), .val (.int p2)], [.int x10], (126, 120, L, [Y_7, T, H2, H, RU, RV, ST, NS, I0, I1, I2, BO_11, FI, RG_12, GU, PU, MA, MN, MS, OT, SC], [256, 192, 320, 384, w, 256, 576, 640, 704], Lg)) o from ev_call (fun v μ => (d + 6, 0, 0, 305, 38, [.val (.ref 64), .val (.int p1), .val (.int p2)], v.toList ++ [], μ)) 6 ze14 e (fun n => Eq.refl _)
          have ze15 := Option.some.inj h
          subst ze15
          exact ev_rete 1 ho (fun n => Eq.refl _)
        | succ q6 =>
          have h := itn h (Nat.succ_ne_zero q6)
          have ze16 := Option.some.inj h
          subst ze16
          subst ho
          exact ev_thr (fun v μ => (d + 6, 0, 0, 305, 24, [.val (.ref 64), .val (.int p1), .val (.int p2)], v.toList ++ [], μ)) 1 ze10 (fun n => Eq.refl _) (fun n => rfl)
      by_cases zc17 : p1 = p2
      · have zh6 := itp zh6 zc17
        suffices e : Ev (d + 6, 1, 8, 305, 20, [.val (.ref 64), .val (.int p1), .val (.int p2)], [.ref 64], (126, 120, L, [Y_4, T, H2, H, RU, RV, ST, NS, I0, I1, I2, BO, FI, RG, GU, PU, MA, MN, MS, OT, SC], [256, 192, 320, 384, w, r5, 576, 640, 704], Lg)) o from ev_t (c := p1 = p2) _ _ 4  zc17 e (fun n => Eq.refl _)
        exact ev_b 1 (zj7 0 (Option.some.inj zh6) ) (fun n => Eq.refl _)
      · have zh6 := itn zh6 zc17
        suffices e : Ev (d + 6, 1, 8, 305, 16, [.val (.ref 64), .val (.int p1), .val (.int p2)], [.ref 64], (126, 120, L, [Y_4, T, H2, H, RU, RV, ST, NS, I0, I1, I2, BO, FI, RG, GU, PU, MA, MN, MS, OT, SC], [256, 192, 320, 384, w, r5, 576, 640, 704], Lg)) o from ev_f (c := p1 = p2) _ _ 4  zc17 e (fun n => Eq.refl _)
        exact ev_b 2 (zj7 1 (Option.some.inj zh6) ) (fun n => Eq.refl _)
    | succ q3 =>
      have h := itn h (Nat.succ_ne_zero q3)
      have ze18 := Option.some.inj h
      subst ze18
      subst ho
      exact ev_thr (fun v μ => (d + 6, 1, 8, 305, 10, [.val (.ref 64), .val (.int p1), .val (.int p2)], v.toList ++ [], μ)) 3 ze4 (fun n => Eq.refl _) (fun n => rfl)
  | succ q1 =>
    have h := itn h (Nat.succ_ne_zero q1)
    have ze19 := Option.some.inj h
    subst ze19
    subst ho
    exact ev_thr (fun v μ => (d + 6, 2, 16, 305, 5, [.val (.ref 64), .val (.int p1), .val (.int p2)], v.toList ++ [], μ)) 3 ze2 (fun n => Eq.refl _) (fun n => rfl)
set_option maxRecDepth 1000000 in
set_option maxHeartbeats 4000000 in
theorem R_f_Y_swap_3 (d : Nat) (Y T H2 H RV RU ST NS I0 I1 I2 BO FI RG GU PU MA MN MS OT SC : Nat → Nat → Int32) (w r5 : Nat) (L : Nat) (Lg : Int64) (p1 : Int32) (p2 : Int32) {r : Nat × Int32 × (Nat → Nat → Int32) × (Nat → Nat → Int32) × (Nat → Nat → Int32) × Nat} (h : f_Y_swap Y H NS BO RG 256 r5 p1 p2 = some r) : Ev (d + 6, 3, 24, 305, 0, [.val (.ref 64), .val (.int p1), .val (.int p2)], [], (126, 120, L, [Y, T, H2, H, RV, RU, ST, NS, I0, I1, I2, BO, FI, RG, GU, PU, MA, MN, MS, OT, SC], [256, 192, 384, 320, w, r5, 576, 640, 704], Lg)) ((r.1, a_ov r.1 (.int r.2.1), (126, 120, L, [r.2.2.1, T, H2, H, RV, RU, ST, NS, I0, I1, I2, r.2.2.2.1, FI, r.2.2.2.2.1, GU, PU, MA, MN, MS, OT, SC], [256, 192, 384, 320, w, r.2.2.2.2.2, 576, 640, 704], Lg)) : AOut) := by
  suffices key : ∀ o : AOut, ((r.1, a_ov r.1 (.int r.2.1), (126, 120, L, [r.2.2.1, T, H2, H, RV, RU, ST, NS, I0, I1, I2, r.2.2.2.1, FI, r.2.2.2.2.1, GU, PU, MA, MN, MS, OT, SC], [256, 192, 384, 320, w, r.2.2.2.2.2, 576, 640, 704], Lg)) : AOut) = o → Ev (d + 6, 3, 24, 305, 0, [.val (.ref 64), .val (.int p1), .val (.int p2)], [], (126, 120, L, [Y, T, H2, H, RV, RU, ST, NS, I0, I1, I2, BO, FI, RG, GU, PU, MA, MN, MS, OT, SC], [256, 192, 384, 320, w, r5, 576, 640, 704], Lg)) o from key _ rfl
  intro o ho
  obtain ⟨⟨q1, Y_2⟩, zh1, h⟩ := bnd h
  have zh1 : f_Y_needMeeting Y H p1 = some (q1, Y_2) := zh1
  have ze2 := R_f_Y_needMeeting_3 (d + 4) Y T H2 H RV RU ST NS I0 I1 I2 BO FI RG GU PU MA MN MS OT SC w r5 L Lg p1 zh1
  cases q1 with
  | zero =>
    have h := itp h rfl
    suffices e : Ev (d + 6, 2, 16, 305, 5, [.val (.ref 64), .val (.int p1), .val (.int p2)], [], (126, 120, L, [Y_2, T, H2, H, RV, RU, ST, NS, I0, I1, I2, BO, FI, RG, GU, PU, MA, MN, MS, OT, SC], [256, 192, 384, 320, w, r5, 576, 640, 704], Lg)) o from ev_call (fun v μ => (d + 6, 2, 16, 305, 5, [.val (.ref 64), .val (.int p1), .val (.int p2)], v.toList ++ [], μ)) 3 ze2 e (fun n => Eq.refl _)
    obtain ⟨⟨q3, Y_4⟩, zh3, h⟩ := bnd h
    have zh3 : f_Y_needMeeting Y_2 H p2 = some (q3, Y_4) := zh3
    have ze4 := R_f_Y_needMeeting_3 (d + 4) Y_2 T H2 H RV RU ST NS I0 I1 I2 BO FI RG GU PU MA MN MS OT SC w r5 L Lg p2 zh3
    cases q3 with
    | zero =>
      have h := itp h rfl
      suffices e : Ev (d + 6, 1, 8, 305, 10, [.val (.ref 64), .val (.int p1), .val (.int p2)], [], (126, 120, L, [Y_4, T, H2, H, RV, RU, ST, NS, I0, I1, I2, BO, FI, RG, GU, PU, MA, MN, MS, OT, SC], [256, 192, 384, 320, w, r5, 576, 640, 704], Lg)) o from ev_call (fun v μ => (d + 6, 1, 8, 305, 10, [.val (.ref 64), .val (.int p1), .val (.int p2)], v.toList ++ [], μ)) 3 ze4 e (fun n => Eq.refl _)
      obtain ⟨zt5, zh6, h⟩ := bnd h
      have zj7 : ∀ (v5 : Int32), v5 = zt5 → Ev (d + 6, 1, 8, 305, 21, [.val (.ref 64), .val (.int p1), .val (.int p2)], [.int v5, .ref 64], (126, 120, L, [Y_4, T, H2, H, RV, RU, ST, NS, I0, I1, I2, BO, FI, RG, GU, PU, MA, MN, MS, OT, SC], [256, 192, 384, 320, w, r5, 576, 640, 704], Lg)) o := by
        intro v5 ze8
        subst ze8
        obtain ⟨⟨q6, Y_7⟩, zh9, h⟩ := bnd h
        have zh9 : f_Y_refuseUnless Y_4 v5 = some (q6, Y_7) := zh9
        have ze10 := R_f_Y_refuseUnless_3 (d + 5) Y_4 T H2 H RV RU ST NS I0 I1 I2 BO FI RG GU PU MA MN MS OT SC w r5 L Lg v5 zh9
        cases q6 with
        | zero =>
          have h := itp h rfl
          suffices e : Ev (d + 6, 0, 0, 305, 24, [.val (.ref 64), .val (.int p1), .val (.int p2)], [], (126, 120, L, [Y_7, T, H2, H, RV, RU, ST, NS, I0, I1, I2, BO, FI, RG, GU, PU, MA, MN, MS, OT, SC], [256, 192, 384, 320, w, r5, 576, 640, 704], Lg)) o from ev_call (fun v μ => (d + 6, 0, 0, 305, 24, [.val (.ref 64), .val (.int p1), .val (.int p2)], v.toList ++ [], μ)) 1 ze10 e (fun n => Eq.refl _)
          obtain ⟨BO_9, zh11, h⟩ := bnd h
          have zh11 : f_Y_lookNow H NS BO = some BO_9 := zh11
          have ze12 := R_f_Y_lookNow_3 (d + 3) Y_7 T H2 H RV RU ST NS I0 I1 I2 BO FI RG GU PU MA MN MS OT SC w r5 L Lg zh11
          suffices e : Ev (d + 6, 0, 0, 305, 28, [.val (.ref 64), .val (.int p1), .val (.int p2)], [.ref 768], (126, 120, L, [Y_7, T, H2, H, RV, RU, ST, NS, I0, I1, I2, BO_9, FI, RG, GU, PU, MA, MN, MS, OT, SC], [256, 192, 384, 320, w, 256, 576, 640, 704], Lg)) o from ev_call (fun v μ => (d + 6, 0, 0, 305, 28, [.val (.ref 64), .val (.int p1), .val (.int p2)], v.toList ++ [], μ)) 2 ze12 e (fun n => Eq.refl _)
          obtain ⟨⟨x10, BO_11, RG_12⟩, zh13, h⟩ := bnd h
          have zh13 : f_Rings_couldSwap H BO_9 RG p1 p2 = some (x10, BO_11, RG_12) := zh13
          have ze14 := R_f_Rings_couldSwap_1 (d + 0) Y_7 T H2 H RV RU ST NS I0 I1 I2 BO_9 FI RG GU PU MA MN MS OT SC 256 192 384 320 w 576 640 704 L Lg p1 p2 zh13
          suffices e : Ev (d + 6, 0, 0, 305, 38, [.val (.ref 64), .val (.int p1), .val (.int p2)], [.int x10], (126, 120, L, [Y_7, T, H2, H, RV, RU, ST, NS, I0, I1, I2, BO_11, FI, RG_12, GU, PU, MA, MN, MS, OT, SC], [256, 192, 384, 320, w, 256, 576, 640, 704], Lg)) o from ev_call (fun v μ => (d + 6, 0, 0, 305, 38, [.val (.ref 64), .val (.int p1), .val (.int p2)], v.toList ++ [], μ)) 6 ze14 e (fun n => Eq.refl _)
          have ze15 := Option.some.inj h
          subst ze15
          exact ev_rete 1 ho (fun n => Eq.refl _)
        | succ q6 =>
          have h := itn h (Nat.succ_ne_zero q6)
          have ze16 := Option.some.inj h
          subst ze16
          subst ho
          exact ev_thr (fun v μ => (d + 6, 0, 0, 305, 24, [.val (.ref 64), .val (.int p1), .val (.int p2)], v.toList ++ [], μ)) 1 ze10 (fun n => Eq.refl _) (fun n => rfl)
      by_cases zc17 : p1 = p2
      · have zh6 := itp zh6 zc17
        suffices e : Ev (d + 6, 1, 8, 305, 20, [.val (.ref 64), .val (.int p1), .val (.int p2)], [.ref 64], (126, 120, L, [Y_4, T, H2, H, RV, RU, ST, NS, I0, I1, I2, BO, FI, RG, GU, PU, MA, MN, MS, OT, SC], [256, 192, 384, 320, w, r5, 576, 640, 704], Lg)) o from ev_t (c := p1 = p2) _ _ 4  zc17 e (fun n => Eq.refl _)
        exact ev_b 1 (zj7 0 (Option.some.inj zh6) ) (fun n => Eq.refl _)
      · have zh6 := itn zh6 zc17
        suffices e : Ev (d + 6, 1, 8, 305, 16, [.val (.ref 64), .val (.int p1), .val (.int p2)], [.ref 64], (126, 120, L, [Y_4, T, H2, H, RV, RU, ST, NS, I0, I1, I2, BO, FI, RG, GU, PU, MA, MN, MS, OT, SC], [256, 192, 384, 320, w, r5, 576, 640, 704], Lg)) o from ev_f (c := p1 = p2) _ _ 4  zc17 e (fun n => Eq.refl _)
        exact ev_b 2 (zj7 1 (Option.some.inj zh6) ) (fun n => Eq.refl _)
    | succ q3 =>
      have h := itn h (Nat.succ_ne_zero q3)
      have ze18 := Option.some.inj h
      subst ze18
      subst ho
      exact ev_thr (fun v μ => (d + 6, 1, 8, 305, 10, [.val (.ref 64), .val (.int p1), .val (.int p2)], v.toList ++ [], μ)) 3 ze4 (fun n => Eq.refl _) (fun n => rfl)
  | succ q1 =>
    have h := itn h (Nat.succ_ne_zero q1)
    have ze19 := Option.some.inj h
    subst ze19
    subst ho
    exact ev_thr (fun v μ => (d + 6, 2, 16, 305, 5, [.val (.ref 64), .val (.int p1), .val (.int p2)], v.toList ++ [], μ)) 3 ze2 (fun n => Eq.refl _) (fun n => rfl)
set_option maxRecDepth 1000000 in
set_option maxHeartbeats 4000000 in
theorem R_f_Rings_keep_0 (d : Nat) (Y T H H2 RA RB ST NS I0 I1 I2 BO FI RG GU PU MA MN MS OT SC : Nat → Nat → Int32) (r0 r1 r2 r3 w r6 r7 r8 : Nat) (L : Nat) (Lg : Int64) {r : (Nat → Nat → Int32)} (h : f_Rings_keep RG = some r) : Ev (d + 0, 0, 0, 238, 0, [.val (.ref 896), .val a_unk], [], (126, 120, L, [Y, T, H, H2, RA, RB, ST, NS, I0, I1, I2, BO, FI, RG, GU, PU, MA, MN, MS, OT, SC], [r0, r1, r2, r3, w, 192, r6, r7, r8], Lg)) ((0, none, (126, 120, L, [Y, T, H, H2, RA, RB, ST, NS, I0, I1, I2, BO, FI, r, GU, PU, MA, MN, MS, OT, SC], [r0, r1, r2, r3, w, 192, r6, r7, r8], Lg)) : AOut) := by
  suffices key : ∀ o : AOut, ((0, none, (126, 120, L, [Y, T, H, H2, RA, RB, ST, NS, I0, I1, I2, BO, FI, r, GU, PU, MA, MN, MS, OT, SC], [r0, r1, r2, r3, w, 192, r6, r7, r8], Lg)) : AOut) = o → Ev (d + 0, 0, 0, 238, 0, [.val (.ref 896), .val a_unk], [], (126, 120, L, [Y, T, H, H2, RA, RB, ST, NS, I0, I1, I2, BO, FI, RG, GU, PU, MA, MN, MS, OT, SC], [r0, r1, r2, r3, w, 192, r6, r7, r8], Lg)) o from key _ rfl
  intro o ho
  obtain ⟨zt1, zh2, h⟩ := bnd h
  have zj3 : ∀ (RG_7 : (Nat → Nat → Int32)), RG_7 = zt1 → ∀ s6 : Value, Ev (d + 0, 0, 0, 238, 46, [.val (.ref 896), .val s6], [], (126, 120, L, [Y, T, H, H2, RA, RB, ST, NS, I0, I1, I2, BO, FI, RG_7, GU, PU, MA, MN, MS, OT, SC], [r0, r1, r2, r3, w, 192, r6, r7, r8], Lg)) o := by
    intro RG_7 ze4 s6
    subst ze4
    have ze5 := Option.some.inj h
    subst ze5
    exact ev_rete 7 ho (fun n => Eq.refl _)
  by_cases zc6 : (RG 0 4) ≠ 0
  · have zh2 := itp zh2 zc6
    suffices e : Ev (d + 0, 0, 0, 238, 46, [.val (.ref 896), .val a_unk], [], (126, 120, L, [Y, T, H, H2, RA, RB, ST, NS, I0, I1, I2, BO, FI, RG, GU, PU, MA, MN, MS, OT, SC], [r0, r1, r2, r3, w, 192, r6, r7, r8], Lg)) o from ev_t (c := (RG 0 4) ≠ 0) _ _ 3  zc6 e (fun n => Eq.refl _)
    exact ev_b 0 (zj3 RG (Option.some.inj zh2) a_unk) (fun n => Eq.refl _)
  · have zh2 := itn zh2 zc6
    suffices e : Ev (d + 0, 0, 0, 238, 7, [.val (.ref 896), .val a_unk], [], (126, 120, L, [Y, T, H, H2, RA, RB, ST, NS, I0, I1, I2, BO, FI, RG, GU, PU, MA, MN, MS, OT, SC], [r0, r1, r2, r3, w, 192, r6, r7, r8], Lg)) o from ev_f (c := (RG 0 4) ≠ 0) _ _ 3  zc6 e (fun n => Eq.refl _)
    obtain ⟨RG_5, zh8, zh2⟩ := bnd zh2
    suffices e : Ev (d + 0, 0, 0, 238, 14, [.val (.ref 896), .val (.int 0)], [], (126, 120, L, [Y, T, H, H2, RA, RB, ST, NS, I0, I1, I2, BO, FI, (u2 RG 0 5 0), GU, PU, MA, MN, MS, OT, SC], [r0, r1, r2, r3, w, 192, r6, r7, r8], Lg)) o from ev_b 5 e (fun n => Eq.refl _)
    refine ev_loop (δ := Unit) (fun a j => (d + 0, 0, 0, 238, 14, [.val (.ref 896), .val (.int a.1)], [], (126, 120, L, [Y, T, H, H2, RA, RB, ST, NS, I0, I1, I2, BO, FI, a.2, GU, PU, MA, MN, MS, OT, SC], [r0, r1, r2, r3, w, 192, r6, r7, r8], Lg))) (fun b => ∀ s4 : Value, Ev (d + 0, 0, 0, 238, 46, [.val (.ref 896), .val s4], [], (126, 120, L, [Y, T, H, H2, RA, RB, ST, NS, I0, I1, I2, BO, FI, b, GU, PU, MA, MN, MS, OT, SC], [r0, r1, r2, r3, w, 192, r6, r7, r8], Lg)) o) ?_ a_F (0, (u2 RG 0 5 0)) RG_5 zh8 ?_ ()
    · rintro ⟨v1, RG_2⟩ zr12 zh11 zi9 zx10 ⟨⟩
      have zh11 : f_Rings_keep_l14 v1 RG_2 = some zr12 := zh11
      by_cases zc13 : (RG_2 0 3) ≤ v1
      · have zh11 := itp zh11 zc13
        suffices e : Ev (d + 0, 0, 0, 238, 46, [.val (.ref 896), .val (.int v1)], [], (126, 120, L, [Y, T, H, H2, RA, RB, ST, NS, I0, I1, I2, BO, FI, RG_2, GU, PU, MA, MN, MS, OT, SC], [r0, r1, r2, r3, w, 192, r6, r7, r8], Lg)) o from ev_t (c := (RG_2 0 3) ≤ v1) _ _ 4  zc13 e (fun n => Eq.refl _)
        exact ev_b 0 (zx10 _ (Option.some.inj zh11).symm (.int v1)) (fun n => Eq.refl _)
      · have zh11 := itn zh11 zc13
        suffices e : Ev (d + 0, 0, 0, 238, 22, [.val (.ref 896), .val (.int v1)], [], (126, 120, L, [Y, T, H, H2, RA, RB, ST, NS, I0, I1, I2, BO, FI, RG_2, GU, PU, MA, MN, MS, OT, SC], [r0, r1, r2, r3, w, 192, r6, r7, r8], Lg)) o from ev_f (c := (RG_2 0 3) ≤ v1) _ _ 4  zc13 e (fun n => Eq.refl _)
        obtain ⟨x3, zh14, zh11⟩ := bnd zh11
        have zh14 : rdx (RG_2 1) 4 v1 = some x3 := zh14
        suffices e : Ev (d + 0, 0, 0, 238, 36, [.val (.ref 896), .val (.int v1)], [.int x3, .int ((RG_2 0 5) * 10), .ref 896], (126, 120, L, [Y, T, H, H2, RA, RB, ST, NS, I0, I1, I2, BO, FI, RG_2, GU, PU, MA, MN, MS, OT, SC], [r0, r1, r2, r3, w, 192, r6, r7, r8], Lg)) o from ev_opt (fun x3 => (d + 0, 0, 0, 238, 36, [.val (.ref 896), .val (.int v1)], [.int x3, .int ((RG_2 0 5) * 10), .ref 896], (126, 120, L, [Y, T, H, H2, RA, RB, ST, NS, I0, I1, I2, BO, FI, RG_2, GU, PU, MA, MN, MS, OT, SC], [r0, r1, r2, r3, w, 192, r6, r7, r8], Lg))) 9 zh14 e (fun n => Eq.refl _)
        exact ev_b 4 (zi9 _ (Option.some.inj zh11).symm ()) (fun n => Eq.refl _)
    · skip
      intro s4
      exact ev_b 0 (zj3 RG_5 (Option.some.inj zh2) s4) (fun n => Eq.refl _)
set_option maxRecDepth 1000000 in
set_option maxHeartbeats 4000000 in
theorem R_f_Rings_extend_B_0 (d : Nat) (rc : (Nat → (Nat → Nat → Int32) → (Nat → Nat → Int32) → (Nat → Nat → Int32) → Int32 → Int32 → Option ((Nat → Nat → Int32) × (Nat → Nat → Int32))))
    (zrc0 : ∀ (Y T H H2 RA RB ST NS I0 I1 I2 BO FI RG GU PU MA MN MS OT SC : Nat → Nat → Int32) (r0 r1 r2 r3 w r6 r7 r8 : Nat) (L : Nat) (Lg : Int64) (p1 : Int32) (p2 : Int32) (r : (Nat → Nat → Int32) × (Nat → Nat → Int32)), rc 0 H BO RG p1 p2 = some r → Ev (d + 4, 0, 0, 236, 0, [.val (.ref 896), .val (.int p1), .val (.int p2), .val a_unk, .val a_unk], [], (126, 120, L, [Y, T, H, H2, RA, RB, ST, NS, I0, I1, I2, BO, FI, RG, GU, PU, MA, MN, MS, OT, SC], [r0, r1, r2, r3, w, 192, r6, r7, r8], Lg)) ((0, none, (126, 120, L, [Y, T, H, H2, RA, RB, ST, NS, I0, I1, I2, r.1, FI, r.2, GU, PU, MA, MN, MS, OT, SC], [r0, r1, r2, r3, w, 192, r6, r7, r8], Lg)) : AOut))
    (Y T H H2 RA RB ST NS I0 I1 I2 BO FI RG GU PU MA MN MS OT SC : Nat → Nat → Int32) (r0 r1 r2 r3 w r6 r7 r8 : Nat) (L : Nat) (Lg : Int64) (p1 : Int32) (p2 : Int32) {r : (Nat → Nat → Int32) × (Nat → Nat → Int32)} (h : f_Rings_extend_B rc H BO RG p1 p2 = some r) : Ev (d + 5, 0, 0, 236, 0, [.val (.ref 896), .val (.int p1), .val (.int p2), .val a_unk, .val a_unk], [], (126, 120, L, [Y, T, H, H2, RA, RB, ST, NS, I0, I1, I2, BO, FI, RG, GU, PU, MA, MN, MS, OT, SC], [r0, r1, r2, r3, w, 192, r6, r7, r8], Lg)) ((0, none, (126, 120, L, [Y, T, H, H2, RA, RB, ST, NS, I0, I1, I2, r.1, FI, r.2, GU, PU, MA, MN, MS, OT, SC], [r0, r1, r2, r3, w, 192, r6, r7, r8], Lg)) : AOut) := by
  suffices key : ∀ o : AOut, ((0, none, (126, 120, L, [Y, T, H, H2, RA, RB, ST, NS, I0, I1, I2, r.1, FI, r.2, GU, PU, MA, MN, MS, OT, SC], [r0, r1, r2, r3, w, 192, r6, r7, r8], Lg)) : AOut) = o → Ev (d + 5, 0, 0, 236, 0, [.val (.ref 896), .val (.int p1), .val (.int p2), .val a_unk, .val a_unk], [], (126, 120, L, [Y, T, H, H2, RA, RB, ST, NS, I0, I1, I2, BO, FI, RG, GU, PU, MA, MN, MS, OT, SC], [r0, r1, r2, r3, w, 192, r6, r7, r8], Lg)) o from key _ rfl
  intro o ho
  by_cases zc1 : p1 < (RG 0 3)
  · have h := itp h zc1
    suffices e : Ev (d + 5, 0, 0, 236, 20, [.val (.ref 896), .val (.int p1), .val (.int p2), .val a_unk, .val a_unk], [], (126, 120, L, [Y, T, H, H2, RA, RB, ST, NS, I0, I1, I2, BO, FI, RG, GU, PU, MA, MN, MS, OT, SC], [r0, r1, r2, r3, w, 192, r6, r7, r8], Lg)) o from ev_t (c := p1 < (RG 0 3)) _ _ 4  zc1 e (fun n => Eq.refl _)
    obtain ⟨zt2, zh3, h⟩ := bnd h
    have zj4 : ∀ (v2 : Int32), v2 = zt2 → Ev (d + 5, 0, 0, 236, 36, [.val (.ref 896), .val (.int p1), .val (.int p2), .val a_unk, .val a_unk], [.int v2], (126, 120, L, [Y, T, H, H2, RA, RB, ST, NS, I0, I1, I2, BO, FI, RG, GU, PU, MA, MN, MS, OT, SC], [r0, r1, r2, r3, w, 192, r6, r7, r8], Lg)) o := by
      intro v2 ze5
      subst ze5
      obtain ⟨zb6, zh7, h⟩ := bnd h
      suffices e : Ev (d + 5, 0, 0, 236, 40, [.val (.ref 896), .val (.int p1), .val (.int p2), .val (.int v2), .val (.int v2)], [], (126, 120, L, [Y, T, H, H2, RA, RB, ST, NS, I0, I1, I2, BO, FI, RG, GU, PU, MA, MN, MS, OT, SC], [r0, r1, r2, r3, w, 192, r6, r7, r8], Lg)) o from ev_b 3 e (fun n => Eq.refl _)
      refine ev_loop (δ := Unit) (fun a j => (d + 5, 0, 0, 236, 40, [.val (.ref 896), .val (.int p1), .val (.int p2), .val (.int v2), .val (.int a.1)], [], (126, 120, L, [Y, T, H, H2, RA, RB, ST, NS, I0, I1, I2, a.2.1, FI, a.2.2, GU, PU, MA, MN, MS, OT, SC], [r0, r1, r2, r3, w, 192, r6, r7, r8], Lg))) (fun b => ∀ s10 : Value, Ev (d + 5, 0, 0, 236, 100, [.val (.ref 896), .val (.int p1), .val (.int p2), .val (.int v2), .val s10], [], (126, 120, L, [Y, T, H, H2, RA, RB, ST, NS, I0, I1, I2, b.1, FI, b.2, GU, PU, MA, MN, MS, OT, SC], [r0, r1, r2, r3, w, 192, r6, r7, r8], Lg)) o) ?_ a_F (v2, BO, RG) zb6 zh7 ?_ ()
      · rintro ⟨v3, BO_4, RG_5⟩ zr11 zh10 zi8 zx9 ⟨⟩
        have zh10 : f_Rings_extend_B_l40 H p2 p1 rc v3 BO_4 RG_5 = some zr11 := zh10
        suffices e : Ev (d + 5, 0, 0, 236, 49, [.val (.ref 896), .val (.int p1), .val (.int p2), .val (.int v2), .val (.int v3)], [.ref 192, .int v3], (126, 120, L, [Y, T, H, H2, RA, RB, ST, NS, I0, I1, I2, BO_4, FI, RG_5, GU, PU, MA, MN, MS, OT, SC], [r0, r1, r2, r3, w, 192, r6, r7, r8], Lg)) o from ev_b 4 e (fun n => Eq.refl _)
        by_cases zc12 : (H 0 3) ≤ v3
        · have zh10 := itp zh10 zc12
          suffices e : Ev (d + 5, 0, 0, 236, 100, [.val (.ref 896), .val (.int p1), .val (.int p2), .val (.int v2), .val (.int v3)], [], (126, 120, L, [Y, T, H, H2, RA, RB, ST, NS, I0, I1, I2, BO_4, FI, RG_5, GU, PU, MA, MN, MS, OT, SC], [r0, r1, r2, r3, w, 192, r6, r7, r8], Lg)) o from ev_t (c := (H 0 3) ≤ v3) _ _ 2  zc12 e (fun n => Eq.refl _)
          exact ev_b 0 (zx9 _ (Option.some.inj zh10).symm (.int v3)) (fun n => Eq.refl _)
        · have zh10 := itn zh10 zc12
          suffices e : Ev (d + 5, 0, 0, 236, 55, [.val (.ref 896), .val (.int p1), .val (.int p2), .val (.int v2), .val (.int v3)], [], (126, 120, L, [Y, T, H, H2, RA, RB, ST, NS, I0, I1, I2, BO_4, FI, RG_5, GU, PU, MA, MN, MS, OT, SC], [r0, r1, r2, r3, w, 192, r6, r7, r8], Lg)) o from ev_f (c := (H 0 3) ≤ v3) _ _ 2  zc12 e (fun n => Eq.refl _)
          by_cases zc13 : ((a_shr p2 v3) &&& 1) ≠ 0
          · have zh10 := itp zh10 zc13
            suffices e : Ev (d + 5, 0, 0, 236, 94, [.val (.ref 896), .val (.int p1), .val (.int p2), .val (.int v2), .val (.int v3)], [], (126, 120, L, [Y, T, H, H2, RA, RB, ST, NS, I0, I1, I2, BO_4, FI, RG_5, GU, PU, MA, MN, MS, OT, SC], [r0, r1, r2, r3, w, 192, r6, r7, r8], Lg)) o from ev_t (c := ((a_shr p2 v3) &&& 1) ≠ 0) _ _ 6  zc13 e (fun n => Eq.refl _)
            exact ev_b 2 (zi8 _ (Option.some.inj zh10).symm ()) (fun n => Eq.refl _)
          · have zh10 := itn zh10 zc13
            suffices e : Ev (d + 5, 0, 0, 236, 64, [.val (.ref 896), .val (.int p1), .val (.int p2), .val (.int v2), .val (.int v3)], [], (126, 120, L, [Y, T, H, H2, RA, RB, ST, NS, I0, I1, I2, BO_4, FI, RG_5, GU, PU, MA, MN, MS, OT, SC], [r0, r1, r2, r3, w, 192, r6, r7, r8], Lg)) o from ev_f (c := ((a_shr p2 v3) &&& 1) ≠ 0) _ _ 6  zc13 e (fun n => Eq.refl _)
            obtain ⟨x6, zh14, zh10⟩ := bnd zh10
            have zh14 : f_Rings_mayTurn H BO_4 v3 = some x6 := zh14
            have ze15 := R_f_Rings_mayTurn_0 (d + 3) Y T H H2 RA RB ST NS I0 I1 I2 BO_4 FI RG_5 GU PU MA MN MS OT SC r0 r1 r2 r3 w r6 r7 r8 L Lg v3 zh14
            suffices e : Ev (d + 5, 0, 0, 236, 70, [.val (.ref 896), .val (.int p1), .val (.int p2), .val (.int v2), .val (.int v3)], [.int x6], (126, 120, L, [Y, T, H, H2, RA, RB, ST, NS, I0, I1, I2, BO_4, FI, RG_5, GU, PU, MA, MN, MS, OT, SC], [r0, r1, r2, r3, w, 192, r6, r7, r8], Lg)) o from ev_call (fun v μ => (d + 5, 0, 0, 236, 70, [.val (.ref 896), .val (.int p1), .val (.int p2), .val (.int v2), .val (.int v3)], v.toList ++ [], μ)) 3 ze15 e (fun n => Eq.refl _)
            by_cases zc16 : x6 = 0
            · have zh10 := itp zh10 zc16
              suffices e : Ev (d + 5, 0, 0, 236, 94, [.val (.ref 896), .val (.int p1), .val (.int p2), .val (.int v2), .val (.int v3)], [], (126, 120, L, [Y, T, H, H2, RA, RB, ST, NS, I0, I1, I2, BO_4, FI, RG_5, GU, PU, MA, MN, MS, OT, SC], [r0, r1, r2, r3, w, 192, r6, r7, r8], Lg)) o from ev_t (c := x6 = 0) _ _ 1  zc16 e (fun n => Eq.refl _)
              exact ev_b 2 (zi8 _ (Option.some.inj zh10).symm ()) (fun n => Eq.refl _)
            · have zh10 := itn zh10 zc16
              suffices e : Ev (d + 5, 0, 0, 236, 73, [.val (.ref 896), .val (.int p1), .val (.int p2), .val (.int v2), .val (.int v3)], [], (126, 120, L, [Y, T, H, H2, RA, RB, ST, NS, I0, I1, I2, BO_4, FI, RG_5, GU, PU, MA, MN, MS, OT, SC], [r0, r1, r2, r3, w, 192, r6, r7, r8], Lg)) o from ev_f (c := x6 = 0) _ _ 1  zc16 e (fun n => Eq.refl _)
              obtain ⟨j7, zh17, zh10⟩ := bnd zh10
              have zh17 : ixx 4 p1 = some j7 := zh17
              suffices e : Ev (d + 5, 0, 0, 236, 81, [.val (.ref 896), .val (.int p1), .val (.int p2), .val (.int v2), .val (.int v3)], [], (126, 120, L, [Y, T, H, H2, RA, RB, ST, NS, I0, I1, I2, BO_4, FI, (u2 RG_5 1 j7 v3), GU, PU, MA, MN, MS, OT, SC], [r0, r1, r2, r3, w, 192, r6, r7, r8], Lg)) o from ev_opt (fun j7 => (d + 5, 0, 0, 236, 81, [.val (.ref 896), .val (.int p1), .val (.int p2), .val (.int v2), .val (.int v3)], [], (126, 120, L, [Y, T, H, H2, RA, RB, ST, NS, I0, I1, I2, BO_4, FI, (u2 RG_5 1 j7 v3), GU, PU, MA, MN, MS, OT, SC], [r0, r1, r2, r3, w, 192, r6, r7, r8], Lg))) 5 zh17 e (fun n => Eq.refl _)
              obtain ⟨⟨BO_8, RG_9⟩, zh18, zh10⟩ := bnd zh10
              have zh18 : rc 0 H BO_4 (u2 RG_5 1 j7 v3) (p1 + 1) (p2 ||| (a_shl 1 v3)) = some (BO_8, RG_9) := zh18
              have ze19 := zrc0 Y T H H2 RA RB ST NS I0 I1 I2 BO_4 FI (u2 RG_5 1 j7 v3) GU PU MA MN MS OT SC r0 r1 r2 r3 w r6 r7 r8 L Lg (p1 + 1) (p2 ||| (a_shl 1 v3)) _ zh18
              suffices e : Ev (d + 5, 0, 0, 236, 94, [.val (.ref 896), .val (.int p1), .val (.int p2), .val (.int v2), .val (.int v3)], [], (126, 120, L, [Y, T, H, H2, RA, RB, ST, NS, I0, I1, I2, BO_8, FI, RG_9, GU, PU, MA, MN, MS, OT, SC], [r0, r1, r2, r3, w, 192, r6, r7, r8], Lg)) o from ev_call (fun v μ => (d + 5, 0, 0, 236, 94, [.val (.ref 896), .val (.int p1), .val (.int p2), .val (.int v2), .val (.int v3)], v.toList ++ [], μ)) 10 ze19 e (fun n => Eq.refl _)
              exact ev_b 2 (zi8 _ (Option.some.inj zh10).symm ()) (fun n => Eq.refl _)
      · obtain ⟨BO_11, RG_12⟩ := zb6
        intro s10
        have ze20 := Option.some.inj h
        subst ze20
        exact ev_rete 1 ho (fun n => Eq.refl _)
    by_cases zc21 : p1 ≠ 0
    · have zh3 := itp zh3 zc21
      suffices e : Ev (d + 5, 0, 0, 236, 28, [.val (.ref 896), .val (.int p1), .val (.int p2), .val a_unk, .val a_unk], [], (126, 120, L, [Y, T, H, H2, RA, RB, ST, NS, I0, I1, I2, BO, FI, RG, GU, PU, MA, MN, MS, OT, SC], [r0, r1, r2, r3, w, 192, r6, r7, r8], Lg)) o from ev_t (c := p1 ≠ 0) _ _ 2  zc21 e (fun n => Eq.refl _)
      obtain ⟨x1, zh22, zh3⟩ := bnd zh3
      have zh22 : rdx (RG 1) 4 0 = some x1 := zh22
      suffices e : Ev (d + 5, 0, 0, 236, 34, [.val (.ref 896), .val (.int p1), .val (.int p2), .val a_unk, .val a_unk], [.int x1], (126, 120, L, [Y, T, H, H2, RA, RB, ST, NS, I0, I1, I2, BO, FI, RG, GU, PU, MA, MN, MS, OT, SC], [r0, r1, r2, r3, w, 192, r6, r7, r8], Lg)) o from ev_opt (fun x1 => (d + 5, 0, 0, 236, 34, [.val (.ref 896), .val (.int p1), .val (.int p2), .val a_unk, .val a_unk], [.int x1], (126, 120, L, [Y, T, H, H2, RA, RB, ST, NS, I0, I1, I2, BO, FI, RG, GU, PU, MA, MN, MS, OT, SC], [r0, r1, r2, r3, w, 192, r6, r7, r8], Lg))) 4 zh22 e (fun n => Eq.refl _)
      exact ev_b 2 (zj4 (x1 + 1) (Option.some.inj zh3) ) (fun n => Eq.refl _)
    · have zh3 := itn zh3 zc21
      suffices e : Ev (d + 5, 0, 0, 236, 24, [.val (.ref 896), .val (.int p1), .val (.int p2), .val a_unk, .val a_unk], [], (126, 120, L, [Y, T, H, H2, RA, RB, ST, NS, I0, I1, I2, BO, FI, RG, GU, PU, MA, MN, MS, OT, SC], [r0, r1, r2, r3, w, 192, r6, r7, r8], Lg)) o from ev_f (c := p1 ≠ 0) _ _ 2  zc21 e (fun n => Eq.refl _)
      exact ev_b 2 (zj4 0 (Option.some.inj zh3) ) (fun n => Eq.refl _)
  · have h := itn h zc1
    suffices e : Ev (d + 5, 0, 0, 236, 8, [.val (.ref 896), .val (.int p1), .val (.int p2), .val a_unk, .val a_unk], [], (126, 120, L, [Y, T, H, H2, RA, RB, ST, NS, I0, I1, I2, BO, FI, RG, GU, PU, MA, MN, MS, OT, SC], [r0, r1, r2, r3, w, 192, r6, r7, r8], Lg)) o from ev_f (c := p1 < (RG 0 3)) _ _ 4  zc1 e (fun n => Eq.refl _)
    obtain ⟨⟨x13, BO_14, RG_15⟩, zh23, h⟩ := bnd h
    have zh23 : f_Rings_turns H BO RG = some (x13, BO_14, RG_15) := zh23
    have ze24 := R_f_Rings_turns_0 (d + 0) Y T H H2 RA RB ST NS I0 I1 I2 BO FI RG GU PU MA MN MS OT SC r0 r1 r2 r3 w r6 r7 r8 L Lg zh23
    suffices e : Ev (d + 5, 0, 0, 236, 12, [.val (.ref 896), .val (.int p1), .val (.int p2), .val a_unk, .val a_unk], [.int x13], (126, 120, L, [Y, T, H, H2, RA, RB, ST, NS, I0, I1, I2, BO_14, FI, RG_15, GU, PU, MA, MN, MS, OT, SC], [r0, r1, r2, r3, w, 192, r6, r7, r8], Lg)) o from ev_call (fun v μ => (d + 5, 0, 0, 236, 12, [.val (.ref 896), .val (.int p1), .val (.int p2), .val a_unk, .val a_unk], v.toList ++ [], μ)) 2 ze24 e (fun n => Eq.refl _)
    by_cases zc25 : x13 = 0
    · have h := itp h zc25
      suffices e : Ev (d + 5, 0, 0, 236, 19, [.val (.ref 896), .val (.int p1), .val (.int p2), .val a_unk, .val a_unk], [], (126, 120, L, [Y, T, H, H2, RA, RB, ST, NS, I0, I1, I2, BO_14, FI, RG_15, GU, PU, MA, MN, MS, OT, SC], [r0, r1, r2, r3, w, 192, r6, r7, r8], Lg)) o from ev_t (c := x13 = 0) _ _ 1  zc25 e (fun n => Eq.refl _)
      have ze26 := Option.some.inj h
      subst ze26
      exact ev_rete 1 ho (fun n => Eq.refl _)
    · have h := itn h zc25
      suffices e : Ev (d + 5, 0, 0, 236, 15, [.val (.ref 896), .val (.int p1), .val (.int p2), .val a_unk, .val a_unk], [], (126, 120, L, [Y, T, H, H2, RA, RB, ST, NS, I0, I1, I2, BO_14, FI, RG_15, GU, PU, MA, MN, MS, OT, SC], [r0, r1, r2, r3, w, 192, r6, r7, r8], Lg)) o from ev_f (c := x13 = 0) _ _ 1  zc25 e (fun n => Eq.refl _)
      obtain ⟨RG_16, zh27, h⟩ := bnd h
      have zh27 : f_Rings_keep RG_15 = some RG_16 := zh27
      have ze28 := R_f_Rings_keep_0 (d + 4) Y T H H2 RA RB ST NS I0 I1 I2 BO_14 FI RG_15 GU PU MA MN MS OT SC r0 r1 r2 r3 w r6 r7 r8 L Lg zh27
      suffices e : Ev (d + 5, 0, 0, 236, 19, [.val (.ref 896), .val (.int p1), .val (.int p2), .val a_unk, .val a_unk], [], (126, 120, L, [Y, T, H, H2, RA, RB, ST, NS, I0, I1, I2, BO_14, FI, RG_16, GU, PU, MA, MN, MS, OT, SC], [r0, r1, r2, r3, w, 192, r6, r7, r8], Lg)) o from ev_call (fun v μ => (d + 5, 0, 0, 236, 19, [.val (.ref 896), .val (.int p1), .val (.int p2), .val a_unk, .val a_unk], v.toList ++ [], μ)) 2 ze28 e (fun n => Eq.refl _)
      have ze29 := Option.some.inj h
      subst ze29
      exact ev_rete 1 ho (fun n => Eq.refl _)
set_option maxRecDepth 1000000 in
set_option maxHeartbeats 4000000 in
theorem K_grp_ce_0 (n : Nat) : (∀ (d : Nat) (Y T H H2 RA RB ST NS I0 I1 I2 BO FI RG GU PU MA MN MS OT SC : Nat → Nat → Int32) (r0 r1 r2 r3 w r6 r7 r8 : Nat) (L : Nat) (Lg : Int64) (p1 : Int32) (p2 : Int32) (r : (Nat → Nat → Int32) × (Nat → Nat → Int32)), f_grp_ce n 0 H BO RG p1 p2 = some r → Ev (d + (4 + n), 0, 0, 236, 0, [.val (.ref 896), .val (.int p1), .val (.int p2), .val a_unk, .val a_unk], [], (126, 120, L, [Y, T, H, H2, RA, RB, ST, NS, I0, I1, I2, BO, FI, RG, GU, PU, MA, MN, MS, OT, SC], [r0, r1, r2, r3, w, 192, r6, r7, r8], Lg)) ((0, none, (126, 120, L, [Y, T, H, H2, RA, RB, ST, NS, I0, I1, I2, r.1, FI, r.2, GU, PU, MA, MN, MS, OT, SC], [r0, r1, r2, r3, w, 192, r6, r7, r8], Lg)) : AOut)) := by
  induction n with
  | zero => exact by intros; contradiction
  | succ n ih =>
    have i0 := ih
    refine ?_
    · intro d Y T H H2 RA RB ST NS I0 I1 I2 BO FI RG GU PU MA MN MS OT SC r0 r1 r2 r3 w r6 r7 r8 L Lg p1 p2 r h
      rw [show d + (4 + (n + 1)) = d + n + 5 by omega]
      have j0 : ∀ (Y T H H2 RA RB ST NS I0 I1 I2 BO FI RG GU PU MA MN MS OT SC : Nat → Nat → Int32) (r0 r1 r2 r3 w r6 r7 r8 : Nat) (L : Nat) (Lg : Int64) (p1 : Int32) (p2 : Int32) (r : (Nat → Nat → Int32) × (Nat → Nat → Int32)), f_grp_ce n 0 H BO RG p1 p2 = some r → Ev (d + n + 4, 0, 0, 236, 0, [.val (.ref 896), .val (.int p1), .val (.int p2), .val a_unk, .val a_unk], [], (126, 120, L, [Y, T, H, H2, RA, RB, ST, NS, I0, I1, I2, BO, FI, RG, GU, PU, MA, MN, MS, OT, SC], [r0, r1, r2, r3, w, 192, r6, r7, r8], Lg)) ((0, none, (126, 120, L, [Y, T, H, H2, RA, RB, ST, NS, I0, I1, I2, r.1, FI, r.2, GU, PU, MA, MN, MS, OT, SC], [r0, r1, r2, r3, w, 192, r6, r7, r8], Lg)) : AOut) := by
        intro Y T H H2 RA RB ST NS I0 I1 I2 BO FI RG GU PU MA MN MS OT SC r0 r1 r2 r3 w r6 r7 r8 L Lg p1 p2 r h
        have e := i0 d Y T H H2 RA RB ST NS I0 I1 I2 BO FI RG GU PU MA MN MS OT SC r0 r1 r2 r3 w r6 r7 r8 L Lg p1 p2 r h
        rw [show d + (4 + n) = d + n + 4 by omega] at e
        exact e
      exact R_f_Rings_extend_B_0 (d + n) (f_grp_ce n) j0 Y T H H2 RA RB ST NS I0 I1 I2 BO FI RG GU PU MA MN MS OT SC r0 r1 r2 r3 w r6 r7 r8 L Lg p1 p2 h

set_option maxRecDepth 1000000 in
set_option maxHeartbeats 4000000 in
theorem R_f_Rings_search_0 (d : Nat) (Y T H H2 RA RB ST NS I0 I1 I2 BO FI RG GU PU MA MN MS OT SC : Nat → Nat → Int32) (r0 r1 r2 r3 w r6 r7 r8 : Nat) (L : Nat) (Lg : Int64) (p1 : Int32) {r : (Nat → Nat → Int32) × (Nat → Nat → Int32)} (h : f_Rings_search H BO RG p1 = some r) : Ev (d + 17, 0, 0, 234, 0, [.val (.ref 896), .val (.int p1)], [], (126, 120, L, [Y, T, H, H2, RA, RB, ST, NS, I0, I1, I2, BO, FI, RG, GU, PU, MA, MN, MS, OT, SC], [r0, r1, r2, r3, w, 192, r6, r7, r8], Lg)) ((0, none, (126, 120, L, [Y, T, H, H2, RA, RB, ST, NS, I0, I1, I2, r.1, FI, r.2, GU, PU, MA, MN, MS, OT, SC], [r0, r1, r2, r3, w, 192, r6, r7, r8], Lg)) : AOut) := by
  suffices key : ∀ o : AOut, ((0, none, (126, 120, L, [Y, T, H, H2, RA, RB, ST, NS, I0, I1, I2, r.1, FI, r.2, GU, PU, MA, MN, MS, OT, SC], [r0, r1, r2, r3, w, 192, r6, r7, r8], Lg)) : AOut) = o → Ev (d + 17, 0, 0, 234, 0, [.val (.ref 896), .val (.int p1)], [], (126, 120, L, [Y, T, H, H2, RA, RB, ST, NS, I0, I1, I2, BO, FI, RG, GU, PU, MA, MN, MS, OT, SC], [r0, r1, r2, r3, w, 192, r6, r7, r8], Lg)) o from key _ rfl
  intro o ho
  obtain ⟨x1, zh1, h⟩ := bnd h
  have zh1 : f_Math_min p1 4 = some x1 := zh1
  have ze2 := R_f_Math_min_0 (d + 16) Y T H H2 RA RB ST NS I0 I1 I2 BO FI RG GU PU MA MN MS OT SC r0 r1 r2 r3 w 192 r6 r7 r8 L Lg p1 4 zh1
  suffices e : Ev (d + 17, 0, 0, 234, 6, [.val (.ref 896), .val (.int p1)], [.int x1, .ref 896], (126, 120, L, [Y, T, H, H2, RA, RB, ST, NS, I0, I1, I2, BO, FI, RG, GU, PU, MA, MN, MS, OT, SC], [r0, r1, r2, r3, w, 192, r6, r7, r8], Lg)) o from ev_call (fun v μ => (d + 17, 0, 0, 234, 6, [.val (.ref 896), .val (.int p1)], v.toList ++ [.ref 896], μ)) 4 ze2 e (fun n => Eq.refl _)
  obtain ⟨⟨BO_2, RG_3⟩, zh3, h⟩ := bnd h
  have zh3 : f_grp_ce 12 0 H BO (u2 (u2 (u2 RG 0 3 x1) 0 4 0) 0 5 (-1)) 0 0 = some (BO_2, RG_3) := zh3
  have ze4 := (K_grp_ce_0 12) (d + 0) Y T H H2 RA RB ST NS I0 I1 I2 BO FI (u2 (u2 (u2 RG 0 3 x1) 0 4 0) 0 5 (-1)) GU PU MA MN MS OT SC r0 r1 r2 r3 w r6 r7 r8 L Lg 0 0 _ zh3
  suffices e : Ev (d + 17, 0, 0, 234, 25, [.val (.ref 896), .val (.int p1)], [], (126, 120, L, [Y, T, H, H2, RA, RB, ST, NS, I0, I1, I2, BO_2, FI, RG_3, GU, PU, MA, MN, MS, OT, SC], [r0, r1, r2, r3, w, 192, r6, r7, r8], Lg)) o from ev_call (fun v μ => (d + 17, 0, 0, 234, 25, [.val (.ref 896), .val (.int p1)], v.toList ++ [], μ)) 11 ze4 e (fun n => Eq.refl _)
  have ze5 := Option.some.inj h
  subst ze5
  exact ev_rete 1 ho (fun n => Eq.refl _)
set_option maxRecDepth 1000000 in
set_option maxHeartbeats 4000000 in
theorem R_f_Y_rings_0 (d : Nat) (Y T H H2 RU RV ST NS I0 I1 I2 BO FI RG GU PU MA MN MS OT SC : Nat → Nat → Int32) (w r5 : Nat) (L : Nat) (Lg : Int64) (p1 : Int32) (p2 : Int32) {r : Nat × Int32 × (Nat → Nat → Int32) × (Nat → Nat → Int32) × (Nat → Nat → Int32) × Nat} (h : f_Y_rings Y H NS BO RG 192 r5 p1 p2 = some r) : Ev (d + 18, 1, 8, 306, 0, [.val (.ref 64), .val (.int p1), .val (.int p2)], [], (126, 120, L, [Y, T, H, H2, RU, RV, ST, NS, I0, I1, I2, BO, FI, RG, GU, PU, MA, MN, MS, OT, SC], [192, 256, 320, 384, w, r5, 576, 640, 704], Lg)) ((r.1, a_ov r.1 (.int r.2.1), (126, 120, L, [r.2.2.1, T, H, H2, RU, RV, ST, NS, I0, I1, I2, r.2.2.2.1, FI, r.2.2.2.2.1, GU, PU, MA, MN, MS, OT, SC], [192, 256, 320, 384, w, r.2.2.2.2.2, 576, 640, 704], Lg)) : AOut) := by
  suffices key : ∀ o : AOut, ((r.1, a_ov r.1 (.int r.2.1), (126, 120, L, [r.2.2.1, T, H, H2, RU, RV, ST, NS, I0, I1, I2, r.2.2.2.1, FI, r.2.2.2.2.1, GU, PU, MA, MN, MS, OT, SC], [192, 256, 320, 384, w, r.2.2.2.2.2, 576, 640, 704], Lg)) : AOut) = o → Ev (d + 18, 1, 8, 306, 0, [.val (.ref 64), .val (.int p1), .val (.int p2)], [], (126, 120, L, [Y, T, H, H2, RU, RV, ST, NS, I0, I1, I2, BO, FI, RG, GU, PU, MA, MN, MS, OT, SC], [192, 256, 320, 384, w, r5, 576, 640, 704], Lg)) o from key _ rfl
  intro o ho
  obtain ⟨zt1, zh2, h⟩ := bnd h
  have zj3 : ∀ (v1 : Int32), v1 = zt1 → Ev (d + 18, 1, 8, 306, 25, [.val (.ref 64), .val (.int p1), .val (.int p2)], [.int v1, .ref 64], (126, 120, L, [Y, T, H, H2, RU, RV, ST, NS, I0, I1, I2, BO, FI, RG, GU, PU, MA, MN, MS, OT, SC], [192, 256, 320, 384, w, r5, 576, 640, 704], Lg)) o := by
    intro v1 ze4
    subst ze4
    obtain ⟨⟨q2, Y_3⟩, zh5, h⟩ := bnd h
    have zh5 : f_Y_refuseUnless Y v1 = some (q2, Y_3) := zh5
    have ze6 := R_f_Y_refuseUnless_0 (d + 17) Y T H H2 RU RV ST NS I0 I1 I2 BO FI RG GU PU MA MN MS OT SC w r5 L Lg v1 zh5
    cases q2 with
    | zero =>
      have h := itp h rfl
      suffices e : Ev (d + 18, 0, 0, 306, 28, [.val (.ref 64), .val (.int p1), .val (.int p2)], [], (126, 120, L, [Y_3, T, H, H2, RU, RV, ST, NS, I0, I1, I2, BO, FI, RG, GU, PU, MA, MN, MS, OT, SC], [192, 256, 320, 384, w, r5, 576, 640, 704], Lg)) o from ev_call (fun v μ => (d + 18, 0, 0, 306, 28, [.val (.ref 64), .val (.int p1), .val (.int p2)], v.toList ++ [], μ)) 1 ze6 e (fun n => Eq.refl _)
      obtain ⟨BO_5, zh7, h⟩ := bnd h
      have zh7 : f_Y_lookNow H NS BO = some BO_5 := zh7
      have ze8 := R_f_Y_lookNow_0 (d + 15) Y_3 T H H2 RU RV ST NS I0 I1 I2 BO FI RG GU PU MA MN MS OT SC w r5 L Lg zh7
      suffices e : Ev (d + 18, 0, 0, 306, 32, [.val (.ref 64), .val (.int p1), .val (.int p2)], [.ref 768], (126, 120, L, [Y_3, T, H, H2, RU, RV, ST, NS, I0, I1, I2, BO_5, FI, RG, GU, PU, MA, MN, MS, OT, SC], [192, 256, 320, 384, w, 192, 576, 640, 704], Lg)) o from ev_call (fun v μ => (d + 18, 0, 0, 306, 32, [.val (.ref 64), .val (.int p1), .val (.int p2)], v.toList ++ [], μ)) 2 ze8 e (fun n => Eq.refl _)
      obtain ⟨⟨BO_6, RG_7⟩, zh9, h⟩ := bnd h
      have zh9 : f_Rings_search H BO_5 RG p1 = some (BO_6, RG_7) := zh9
      have ze10 := R_f_Rings_search_0 (d + 0) Y_3 T H H2 RU RV ST NS I0 I1 I2 BO_5 FI RG GU PU MA MN MS OT SC 192 256 320 384 w 576 640 704 L Lg p1 zh9
      suffices e : Ev (d + 18, 0, 0, 306, 41, [.val (.ref 64), .val (.int p1), .val (.int p2)], [], (126, 120, L, [Y_3, T, H, H2, RU, RV, ST, NS, I0, I1, I2, BO_6, FI, RG_7, GU, PU, MA, MN, MS, OT, SC], [192, 256, 320, 384, w, 192, 576, 640, 704], Lg)) o from ev_call (fun v μ => (d + 18, 0, 0, 306, 41, [.val (.ref 64), .val (.int p1), .val (.int p2)], v.toList ++ [], μ)) 5 ze10 e (fun n => Eq.refl _)
      by_cases zc11 : p2 ≠ 0
      · have h := itp h zc11
        suffices e : Ev (d + 18, 0, 0, 306, 55, [.val (.ref 64), .val (.int p1), .val (.int p2)], [], (126, 120, L, [Y_3, T, H, H2, RU, RV, ST, NS, I0, I1, I2, BO_6, FI, RG_7, GU, PU, MA, MN, MS, OT, SC], [192, 256, 320, 384, w, 192, 576, 640, 704], Lg)) o from ev_t (c := p2 ≠ 0) _ _ 2  zc11 e (fun n => Eq.refl _)
        have ze12 := Option.some.inj h
        subst ze12
        exact ev_rete 4 ho (fun n => Eq.refl _)
      · have h := itn h zc11
        suffices e : Ev (d + 18, 0, 0, 306, 45, [.val (.ref 64), .val (.int p1), .val (.int p2)], [], (126, 120, L, [Y_3, T, H, H2, RU, RV, ST, NS, I0, I1, I2, BO_6, FI, RG_7, GU, PU, MA, MN, MS, OT, SC], [192, 256, 320, 384, w, 192, 576, 640, 704], Lg)) o from ev_f (c := p2 ≠ 0) _ _ 2  zc11 e (fun n => Eq.refl _)
        have ze13 := Option.some.inj h
        subst ze13
        exact ev_rete 5 ho (fun n => Eq.refl _)
    | succ q2 =>
      have h := itn h (Nat.succ_ne_zero q2)
      have ze14 := Option.some.inj h
      subst ze14
      subst ho
      exact ev_thr (fun v μ => (d + 18, 0, 0, 306, 28, [.val (.ref 64), .val (.int p1), .val (.int p2)], v.toList ++ [], μ)) 1 ze6 (fun n => Eq.refl _) (fun n => rfl)
  obtain ⟨zt15, zh16, zh2⟩ := bnd zh2
  have zj17 : zt15 = .inl () → Ev (d + 18, 1, 8, 306, 24, [.val (.ref 64), .val (.int p1), .val (.int p2)], [.ref 64], (126, 120, L, [Y, T, H, H2, RU, RV, ST, NS, I0, I1, I2, BO, FI, RG, GU, PU, MA, MN, MS, OT, SC], [192, 256, 320, 384, w, r5, 576, 640, 704], Lg)) o := by
    intro ze18
    have zh2 := sum_l zh2 ze18
    exact ev_b 1 (zj3 0 (Option.some.inj zh2) ) (fun n => Eq.refl _)
  by_cases zc19 : p1 < 2
  · have zh16 := itp zh16 zc19
    suffices e : Ev (d + 18, 1, 8, 306, 24, [.val (.ref 64), .val (.int p1), .val (.int p2)], [.ref 64], (126, 120, L, [Y, T, H, H2, RU, RV, ST, NS, I0, I1, I2, BO, FI, RG, GU, PU, MA, MN, MS, OT, SC], [192, 256, 320, 384, w, r5, 576, 640, 704], Lg)) o from ev_t (c := p1 < 2) _ _ 4  zc19 e (fun n => Eq.refl _)
    exact ev_b 0 (zj17  (Option.some.inj zh16).symm ) (fun n => Eq.refl _)
  · have zh16 := itn zh16 zc19
    suffices e : Ev (d + 18, 1, 8, 306, 6, [.val (.ref 64), .val (.int p1), .val (.int p2)], [.ref 64], (126, 120, L, [Y, T, H, H2, RU, RV, ST, NS, I0, I1, I2, BO, FI, RG, GU, PU, MA, MN, MS, OT, SC], [192, 256, 320, 384, w, r5, 576, 640, 704], Lg)) o from ev_f (c := p1 < 2) _ _ 4  zc19 e (fun n => Eq.refl _)
    by_cases zc20 : 4 < p1
    · have zh16 := itp zh16 zc20
      suffices e : Ev (d + 18, 1, 8, 306, 24, [.val (.ref 64), .val (.int p1), .val (.int p2)], [.ref 64], (126, 120, L, [Y, T, H, H2, RU, RV, ST, NS, I0, I1, I2, BO, FI, RG, GU, PU, MA, MN, MS, OT, SC], [192, 256, 320, 384, w, r5, 576, 640, 704], Lg)) o from ev_t (c := 4 < p1) _ _ 3  zc20 e (fun n => Eq.refl _)
      exact ev_b 0 (zj17  (Option.some.inj zh16).symm ) (fun n => Eq.refl _)
    · have zh16 := itn zh16 zc20
      suffices e : Ev (d + 18, 1, 8, 306, 11, [.val (.ref 64), .val (.int p1), .val (.int p2)], [.ref 64], (126, 120, L, [Y, T, H, H2, RU, RV, ST, NS, I0, I1, I2, BO, FI, RG, GU, PU, MA, MN, MS, OT, SC], [192, 256, 320, 384, w, r5, 576, 640, 704], Lg)) o from ev_f (c := 4 < p1) _ _ 3  zc20 e (fun n => Eq.refl _)
      by_cases zc21 : p2 < 0
      · have zh16 := itp zh16 zc21
        suffices e : Ev (d + 18, 1, 8, 306, 24, [.val (.ref 64), .val (.int p1), .val (.int p2)], [.ref 64], (126, 120, L, [Y, T, H, H2, RU, RV, ST, NS, I0, I1, I2, BO, FI, RG, GU, PU, MA, MN, MS, OT, SC], [192, 256, 320, 384, w, r5, 576, 640, 704], Lg)) o from ev_t (c := p2 < 0) _ _ 2  zc21 e (fun n => Eq.refl _)
        exact ev_b 0 (zj17  (Option.some.inj zh16).symm ) (fun n => Eq.refl _)
      · have zh16 := itn zh16 zc21
        suffices e : Ev (d + 18, 1, 8, 306, 15, [.val (.ref 64), .val (.int p1), .val (.int p2)], [.ref 64], (126, 120, L, [Y, T, H, H2, RU, RV, ST, NS, I0, I1, I2, BO, FI, RG, GU, PU, MA, MN, MS, OT, SC], [192, 256, 320, 384, w, r5, 576, 640, 704], Lg)) o from ev_f (c := p2 < 0) _ _ 2  zc21 e (fun n => Eq.refl _)
        by_cases zc22 : 1 < p2
        · have zh16 := itp zh16 zc22
          suffices e : Ev (d + 18, 1, 8, 306, 24, [.val (.ref 64), .val (.int p1), .val (.int p2)], [.ref 64], (126, 120, L, [Y, T, H, H2, RU, RV, ST, NS, I0, I1, I2, BO, FI, RG, GU, PU, MA, MN, MS, OT, SC], [192, 256, 320, 384, w, r5, 576, 640, 704], Lg)) o from ev_t (c := 1 < p2) _ _ 3  zc22 e (fun n => Eq.refl _)
          exact ev_b 0 (zj17  (Option.some.inj zh16).symm ) (fun n => Eq.refl _)
        · have zh16 := itn zh16 zc22
          suffices e : Ev (d + 18, 1, 8, 306, 20, [.val (.ref 64), .val (.int p1), .val (.int p2)], [.ref 64], (126, 120, L, [Y, T, H, H2, RU, RV, ST, NS, I0, I1, I2, BO, FI, RG, GU, PU, MA, MN, MS, OT, SC], [192, 256, 320, 384, w, r5, 576, 640, 704], Lg)) o from ev_f (c := 1 < p2) _ _ 3  zc22 e (fun n => Eq.refl _)
          have zh23 := sum_r zh2 (Option.some.inj zh16).symm
          exact ev_b 2 (zj3 1 (Option.some.inj zh23) ) (fun n => Eq.refl _)
set_option maxRecDepth 1000000 in
set_option maxHeartbeats 4000000 in
theorem R_f_Y_rings_1 (d : Nat) (Y T H H2 RV RU ST NS I0 I1 I2 BO FI RG GU PU MA MN MS OT SC : Nat → Nat → Int32) (w r5 : Nat) (L : Nat) (Lg : Int64) (p1 : Int32) (p2 : Int32) {r : Nat × Int32 × (Nat → Nat → Int32) × (Nat → Nat → Int32) × (Nat → Nat → Int32) × Nat} (h : f_Y_rings Y H NS BO RG 192 r5 p1 p2 = some r) : Ev (d + 18, 1, 8, 306, 0, [.val (.ref 64), .val (.int p1), .val (.int p2)], [], (126, 120, L, [Y, T, H, H2, RV, RU, ST, NS, I0, I1, I2, BO, FI, RG, GU, PU, MA, MN, MS, OT, SC], [192, 256, 384, 320, w, r5, 576, 640, 704], Lg)) ((r.1, a_ov r.1 (.int r.2.1), (126, 120, L, [r.2.2.1, T, H, H2, RV, RU, ST, NS, I0, I1, I2, r.2.2.2.1, FI, r.2.2.2.2.1, GU, PU, MA, MN, MS, OT, SC], [192, 256, 384, 320, w, r.2.2.2.2.2, 576, 640, 704], Lg)) : AOut) := by
  suffices key : ∀ o : AOut, ((r.1, a_ov r.1 (.int r.2.1), (126, 120, L, [r.2.2.1, T, H, H2, RV, RU, ST, NS, I0, I1, I2, r.2.2.2.1, FI, r.2.2.2.2.1, GU, PU, MA, MN, MS, OT, SC], [192, 256, 384, 320, w, r.2.2.2.2.2, 576, 640, 704], Lg)) : AOut) = o → Ev (d + 18, 1, 8, 306, 0, [.val (.ref 64), .val (.int p1), .val (.int p2)], [], (126, 120, L, [Y, T, H, H2, RV, RU, ST, NS, I0, I1, I2, BO, FI, RG, GU, PU, MA, MN, MS, OT, SC], [192, 256, 384, 320, w, r5, 576, 640, 704], Lg)) o from key _ rfl
  intro o ho
  obtain ⟨zt1, zh2, h⟩ := bnd h
  have zj3 : ∀ (v1 : Int32), v1 = zt1 → Ev (d + 18, 1, 8, 306, 25, [.val (.ref 64), .val (.int p1), .val (.int p2)], [.int v1, .ref 64], (126, 120, L, [Y, T, H, H2, RV, RU, ST, NS, I0, I1, I2, BO, FI, RG, GU, PU, MA, MN, MS, OT, SC], [192, 256, 384, 320, w, r5, 576, 640, 704], Lg)) o := by
    intro v1 ze4
    subst ze4
    obtain ⟨⟨q2, Y_3⟩, zh5, h⟩ := bnd h
    have zh5 : f_Y_refuseUnless Y v1 = some (q2, Y_3) := zh5
    have ze6 := R_f_Y_refuseUnless_1 (d + 17) Y T H H2 RV RU ST NS I0 I1 I2 BO FI RG GU PU MA MN MS OT SC w r5 L Lg v1 zh5
    cases q2 with
    | zero =>
      have h := itp h rfl
      suffices e : Ev (d + 18, 0, 0, 306, 28, [.val (.ref 64), .val (.int p1), .val (.int p2)], [], (126, 120, L, [Y_3, T, H, H2, RV, RU, ST, NS, I0, I1, I2, BO, FI, RG, GU, PU, MA, MN, MS, OT, SC], [192, 256, 384, 320, w, r5, 576, 640, 704], Lg)) o from ev_call (fun v μ => (d + 18, 0, 0, 306, 28, [.val (.ref 64), .val (.int p1), .val (.int p2)], v.toList ++ [], μ)) 1 ze6 e (fun n => Eq.refl _)
      obtain ⟨BO_5, zh7, h⟩ := bnd h
      have zh7 : f_Y_lookNow H NS BO = some BO_5 := zh7
      have ze8 := R_f_Y_lookNow_1 (d + 15) Y_3 T H H2 RV RU ST NS I0 I1 I2 BO FI RG GU PU MA MN MS OT SC w r5 L Lg zh7
      suffices e : Ev (d + 18, 0, 0, 306, 32, [.val (.ref 64), .val (.int p1), .val (.int p2)], [.ref 768], (126, 120, L, [Y_3, T, H, H2, RV, RU, ST, NS, I0, I1, I2, BO_5, FI, RG, GU, PU, MA, MN, MS, OT, SC], [192, 256, 384, 320, w, 192, 576, 640, 704], Lg)) o from ev_call (fun v μ => (d + 18, 0, 0, 306, 32, [.val (.ref 64), .val (.int p1), .val (.int p2)], v.toList ++ [], μ)) 2 ze8 e (fun n => Eq.refl _)
      obtain ⟨⟨BO_6, RG_7⟩, zh9, h⟩ := bnd h
      have zh9 : f_Rings_search H BO_5 RG p1 = some (BO_6, RG_7) := zh9
      have ze10 := R_f_Rings_search_0 (d + 0) Y_3 T H H2 RV RU ST NS I0 I1 I2 BO_5 FI RG GU PU MA MN MS OT SC 192 256 384 320 w 576 640 704 L Lg p1 zh9
      suffices e : Ev (d + 18, 0, 0, 306, 41, [.val (.ref 64), .val (.int p1), .val (.int p2)], [], (126, 120, L, [Y_3, T, H, H2, RV, RU, ST, NS, I0, I1, I2, BO_6, FI, RG_7, GU, PU, MA, MN, MS, OT, SC], [192, 256, 384, 320, w, 192, 576, 640, 704], Lg)) o from ev_call (fun v μ => (d + 18, 0, 0, 306, 41, [.val (.ref 64), .val (.int p1), .val (.int p2)], v.toList ++ [], μ)) 5 ze10 e (fun n => Eq.refl _)
      by_cases zc11 : p2 ≠ 0
      · have h := itp h zc11
        suffices e : Ev (d + 18, 0, 0, 306, 55, [.val (.ref 64), .val (.int p1), .val (.int p2)], [], (126, 120, L, [Y_3, T, H, H2, RV, RU, ST, NS, I0, I1, I2, BO_6, FI, RG_7, GU, PU, MA, MN, MS, OT, SC], [192, 256, 384, 320, w, 192, 576, 640, 704], Lg)) o from ev_t (c := p2 ≠ 0) _ _ 2  zc11 e (fun n => Eq.refl _)
        have ze12 := Option.some.inj h
        subst ze12
        exact ev_rete 4 ho (fun n => Eq.refl _)
      · have h := itn h zc11
        suffices e : Ev (d + 18, 0, 0, 306, 45, [.val (.ref 64), .val (.int p1), .val (.int p2)], [], (126, 120, L, [Y_3, T, H, H2, RV, RU, ST, NS, I0, I1, I2, BO_6, FI, RG_7, GU, PU, MA, MN, MS, OT, SC], [192, 256, 384, 320, w, 192, 576, 640, 704], Lg)) o from ev_f (c := p2 ≠ 0) _ _ 2  zc11 e (fun n => Eq.refl _)
        have ze13 := Option.some.inj h
        subst ze13
        exact ev_rete 5 ho (fun n => Eq.refl _)
    | succ q2 =>
      have h := itn h (Nat.succ_ne_zero q2)
      have ze14 := Option.some.inj h
      subst ze14
      subst ho
      exact ev_thr (fun v μ => (d + 18, 0, 0, 306, 28, [.val (.ref 64), .val (.int p1), .val (.int p2)], v.toList ++ [], μ)) 1 ze6 (fun n => Eq.refl _) (fun n => rfl)
  obtain ⟨zt15, zh16, zh2⟩ := bnd zh2
  have zj17 : zt15 = .inl () → Ev (d + 18, 1, 8, 306, 24, [.val (.ref 64), .val (.int p1), .val (.int p2)], [.ref 64], (126, 120, L, [Y, T, H, H2, RV, RU, ST, NS, I0, I1, I2, BO, FI, RG, GU, PU, MA, MN, MS, OT, SC], [192, 256, 384, 320, w, r5, 576, 640, 704], Lg)) o := by
    intro ze18
    have zh2 := sum_l zh2 ze18
    exact ev_b 1 (zj3 0 (Option.some.inj zh2) ) (fun n => Eq.refl _)
  by_cases zc19 : p1 < 2
  · have zh16 := itp zh16 zc19
    suffices e : Ev (d + 18, 1, 8, 306, 24, [.val (.ref 64), .val (.int p1), .val (.int p2)], [.ref 64], (126, 120, L, [Y, T, H, H2, RV, RU, ST, NS, I0, I1, I2, BO, FI, RG, GU, PU, MA, MN, MS, OT, SC], [192, 256, 384, 320, w, r5, 576, 640, 704], Lg)) o from ev_t (c := p1 < 2) _ _ 4  zc19 e (fun n => Eq.refl _)
    exact ev_b 0 (zj17  (Option.some.inj zh16).symm ) (fun n => Eq.refl _)
  · have zh16 := itn zh16 zc19
    suffices e : Ev (d + 18, 1, 8, 306, 6, [.val (.ref 64), .val (.int p1), .val (.int p2)], [.ref 64], (126, 120, L, [Y, T, H, H2, RV, RU, ST, NS, I0, I1, I2, BO, FI, RG, GU, PU, MA, MN, MS, OT, SC], [192, 256, 384, 320, w, r5, 576, 640, 704], Lg)) o from ev_f (c := p1 < 2) _ _ 4  zc19 e (fun n => Eq.refl _)
    by_cases zc20 : 4 < p1
    · have zh16 := itp zh16 zc20
      suffices e : Ev (d + 18, 1, 8, 306, 24, [.val (.ref 64), .val (.int p1), .val (.int p2)], [.ref 64], (126, 120, L, [Y, T, H, H2, RV, RU, ST, NS, I0, I1, I2, BO, FI, RG, GU, PU, MA, MN, MS, OT, SC], [192, 256, 384, 320, w, r5, 576, 640, 704], Lg)) o from ev_t (c := 4 < p1) _ _ 3  zc20 e (fun n => Eq.refl _)
      exact ev_b 0 (zj17  (Option.some.inj zh16).symm ) (fun n => Eq.refl _)
    · have zh16 := itn zh16 zc20
      suffices e : Ev (d + 18, 1, 8, 306, 11, [.val (.ref 64), .val (.int p1), .val (.int p2)], [.ref 64], (126, 120, L, [Y, T, H, H2, RV, RU, ST, NS, I0, I1, I2, BO, FI, RG, GU, PU, MA, MN, MS, OT, SC], [192, 256, 384, 320, w, r5, 576, 640, 704], Lg)) o from ev_f (c := 4 < p1) _ _ 3  zc20 e (fun n => Eq.refl _)
      by_cases zc21 : p2 < 0
      · have zh16 := itp zh16 zc21
        suffices e : Ev (d + 18, 1, 8, 306, 24, [.val (.ref 64), .val (.int p1), .val (.int p2)], [.ref 64], (126, 120, L, [Y, T, H, H2, RV, RU, ST, NS, I0, I1, I2, BO, FI, RG, GU, PU, MA, MN, MS, OT, SC], [192, 256, 384, 320, w, r5, 576, 640, 704], Lg)) o from ev_t (c := p2 < 0) _ _ 2  zc21 e (fun n => Eq.refl _)
        exact ev_b 0 (zj17  (Option.some.inj zh16).symm ) (fun n => Eq.refl _)
      · have zh16 := itn zh16 zc21
        suffices e : Ev (d + 18, 1, 8, 306, 15, [.val (.ref 64), .val (.int p1), .val (.int p2)], [.ref 64], (126, 120, L, [Y, T, H, H2, RV, RU, ST, NS, I0, I1, I2, BO, FI, RG, GU, PU, MA, MN, MS, OT, SC], [192, 256, 384, 320, w, r5, 576, 640, 704], Lg)) o from ev_f (c := p2 < 0) _ _ 2  zc21 e (fun n => Eq.refl _)
        by_cases zc22 : 1 < p2
        · have zh16 := itp zh16 zc22
          suffices e : Ev (d + 18, 1, 8, 306, 24, [.val (.ref 64), .val (.int p1), .val (.int p2)], [.ref 64], (126, 120, L, [Y, T, H, H2, RV, RU, ST, NS, I0, I1, I2, BO, FI, RG, GU, PU, MA, MN, MS, OT, SC], [192, 256, 384, 320, w, r5, 576, 640, 704], Lg)) o from ev_t (c := 1 < p2) _ _ 3  zc22 e (fun n => Eq.refl _)
          exact ev_b 0 (zj17  (Option.some.inj zh16).symm ) (fun n => Eq.refl _)
        · have zh16 := itn zh16 zc22
          suffices e : Ev (d + 18, 1, 8, 306, 20, [.val (.ref 64), .val (.int p1), .val (.int p2)], [.ref 64], (126, 120, L, [Y, T, H, H2, RV, RU, ST, NS, I0, I1, I2, BO, FI, RG, GU, PU, MA, MN, MS, OT, SC], [192, 256, 384, 320, w, r5, 576, 640, 704], Lg)) o from ev_f (c := 1 < p2) _ _ 3  zc22 e (fun n => Eq.refl _)
          have zh23 := sum_r zh2 (Option.some.inj zh16).symm
          exact ev_b 2 (zj3 1 (Option.some.inj zh23) ) (fun n => Eq.refl _)
set_option maxRecDepth 1000000 in
set_option maxHeartbeats 4000000 in
theorem R_f_Rings_keep_1 (d : Nat) (Y T H2 H RA RB ST NS I0 I1 I2 BO FI RG GU PU MA MN MS OT SC : Nat → Nat → Int32) (r0 r1 r2 r3 w r6 r7 r8 : Nat) (L : Nat) (Lg : Int64) {r : (Nat → Nat → Int32)} (h : f_Rings_keep RG = some r) : Ev (d + 0, 0, 0, 238, 0, [.val (.ref 896), .val a_unk], [], (126, 120, L, [Y, T, H2, H, RA, RB, ST, NS, I0, I1, I2, BO, FI, RG, GU, PU, MA, MN, MS, OT, SC], [r0, r1, r2, r3, w, 256, r6, r7, r8], Lg)) ((0, none, (126, 120, L, [Y, T, H2, H, RA, RB, ST, NS, I0, I1, I2, BO, FI, r, GU, PU, MA, MN, MS, OT, SC], [r0, r1, r2, r3, w, 256, r6, r7, r8], Lg)) : AOut) := by
  suffices key : ∀ o : AOut, ((0, none, (126, 120, L, [Y, T, H2, H, RA, RB, ST, NS, I0, I1, I2, BO, FI, r, GU, PU, MA, MN, MS, OT, SC], [r0, r1, r2, r3, w, 256, r6, r7, r8], Lg)) : AOut) = o → Ev (d + 0, 0, 0, 238, 0, [.val (.ref 896), .val a_unk], [], (126, 120, L, [Y, T, H2, H, RA, RB, ST, NS, I0, I1, I2, BO, FI, RG, GU, PU, MA, MN, MS, OT, SC], [r0, r1, r2, r3, w, 256, r6, r7, r8], Lg)) o from key _ rfl
  intro o ho
  obtain ⟨zt1, zh2, h⟩ := bnd h
  have zj3 : ∀ (RG_7 : (Nat → Nat → Int32)), RG_7 = zt1 → ∀ s6 : Value, Ev (d + 0, 0, 0, 238, 46, [.val (.ref 896), .val s6], [], (126, 120, L, [Y, T, H2, H, RA, RB, ST, NS, I0, I1, I2, BO, FI, RG_7, GU, PU, MA, MN, MS, OT, SC], [r0, r1, r2, r3, w, 256, r6, r7, r8], Lg)) o := by
    intro RG_7 ze4 s6
    subst ze4
    have ze5 := Option.some.inj h
    subst ze5
    exact ev_rete 7 ho (fun n => Eq.refl _)
  by_cases zc6 : (RG 0 4) ≠ 0
  · have zh2 := itp zh2 zc6
    suffices e : Ev (d + 0, 0, 0, 238, 46, [.val (.ref 896), .val a_unk], [], (126, 120, L, [Y, T, H2, H, RA, RB, ST, NS, I0, I1, I2, BO, FI, RG, GU, PU, MA, MN, MS, OT, SC], [r0, r1, r2, r3, w, 256, r6, r7, r8], Lg)) o from ev_t (c := (RG 0 4) ≠ 0) _ _ 3  zc6 e (fun n => Eq.refl _)
    exact ev_b 0 (zj3 RG (Option.some.inj zh2) a_unk) (fun n => Eq.refl _)
  · have zh2 := itn zh2 zc6
    suffices e : Ev (d + 0, 0, 0, 238, 7, [.val (.ref 896), .val a_unk], [], (126, 120, L, [Y, T, H2, H, RA, RB, ST, NS, I0, I1, I2, BO, FI, RG, GU, PU, MA, MN, MS, OT, SC], [r0, r1, r2, r3, w, 256, r6, r7, r8], Lg)) o from ev_f (c := (RG 0 4) ≠ 0) _ _ 3  zc6 e (fun n => Eq.refl _)
    obtain ⟨RG_5, zh8, zh2⟩ := bnd zh2
    suffices e : Ev (d + 0, 0, 0, 238, 14, [.val (.ref 896), .val (.int 0)], [], (126, 120, L, [Y, T, H2, H, RA, RB, ST, NS, I0, I1, I2, BO, FI, (u2 RG 0 5 0), GU, PU, MA, MN, MS, OT, SC], [r0, r1, r2, r3, w, 256, r6, r7, r8], Lg)) o from ev_b 5 e (fun n => Eq.refl _)
    refine ev_loop (δ := Unit) (fun a j => (d + 0, 0, 0, 238, 14, [.val (.ref 896), .val (.int a.1)], [], (126, 120, L, [Y, T, H2, H, RA, RB, ST, NS, I0, I1, I2, BO, FI, a.2, GU, PU, MA, MN, MS, OT, SC], [r0, r1, r2, r3, w, 256, r6, r7, r8], Lg))) (fun b => ∀ s4 : Value, Ev (d + 0, 0, 0, 238, 46, [.val (.ref 896), .val s4], [], (126, 120, L, [Y, T, H2, H, RA, RB, ST, NS, I0, I1, I2, BO, FI, b, GU, PU, MA, MN, MS, OT, SC], [r0, r1, r2, r3, w, 256, r6, r7, r8], Lg)) o) ?_ a_F (0, (u2 RG 0 5 0)) RG_5 zh8 ?_ ()
    · rintro ⟨v1, RG_2⟩ zr12 zh11 zi9 zx10 ⟨⟩
      have zh11 : f_Rings_keep_l14 v1 RG_2 = some zr12 := zh11
      by_cases zc13 : (RG_2 0 3) ≤ v1
      · have zh11 := itp zh11 zc13
        suffices e : Ev (d + 0, 0, 0, 238, 46, [.val (.ref 896), .val (.int v1)], [], (126, 120, L, [Y, T, H2, H, RA, RB, ST, NS, I0, I1, I2, BO, FI, RG_2, GU, PU, MA, MN, MS, OT, SC], [r0, r1, r2, r3, w, 256, r6, r7, r8], Lg)) o from ev_t (c := (RG_2 0 3) ≤ v1) _ _ 4  zc13 e (fun n => Eq.refl _)
        exact ev_b 0 (zx10 _ (Option.some.inj zh11).symm (.int v1)) (fun n => Eq.refl _)
      · have zh11 := itn zh11 zc13
        suffices e : Ev (d + 0, 0, 0, 238, 22, [.val (.ref 896), .val (.int v1)], [], (126, 120, L, [Y, T, H2, H, RA, RB, ST, NS, I0, I1, I2, BO, FI, RG_2, GU, PU, MA, MN, MS, OT, SC], [r0, r1, r2, r3, w, 256, r6, r7, r8], Lg)) o from ev_f (c := (RG_2 0 3) ≤ v1) _ _ 4  zc13 e (fun n => Eq.refl _)
        obtain ⟨x3, zh14, zh11⟩ := bnd zh11
        have zh14 : rdx (RG_2 1) 4 v1 = some x3 := zh14
        suffices e : Ev (d + 0, 0, 0, 238, 36, [.val (.ref 896), .val (.int v1)], [.int x3, .int ((RG_2 0 5) * 10), .ref 896], (126, 120, L, [Y, T, H2, H, RA, RB, ST, NS, I0, I1, I2, BO, FI, RG_2, GU, PU, MA, MN, MS, OT, SC], [r0, r1, r2, r3, w, 256, r6, r7, r8], Lg)) o from ev_opt (fun x3 => (d + 0, 0, 0, 238, 36, [.val (.ref 896), .val (.int v1)], [.int x3, .int ((RG_2 0 5) * 10), .ref 896], (126, 120, L, [Y, T, H2, H, RA, RB, ST, NS, I0, I1, I2, BO, FI, RG_2, GU, PU, MA, MN, MS, OT, SC], [r0, r1, r2, r3, w, 256, r6, r7, r8], Lg))) 9 zh14 e (fun n => Eq.refl _)
        exact ev_b 4 (zi9 _ (Option.some.inj zh11).symm ()) (fun n => Eq.refl _)
    · skip
      intro s4
      exact ev_b 0 (zj3 RG_5 (Option.some.inj zh2) s4) (fun n => Eq.refl _)
set_option maxRecDepth 1000000 in
set_option maxHeartbeats 4000000 in
theorem R_f_Rings_extend_B_1 (d : Nat) (rc : (Nat → (Nat → Nat → Int32) → (Nat → Nat → Int32) → (Nat → Nat → Int32) → Int32 → Int32 → Option ((Nat → Nat → Int32) × (Nat → Nat → Int32))))
    (zrc0 : ∀ (Y T H2 H RA RB ST NS I0 I1 I2 BO FI RG GU PU MA MN MS OT SC : Nat → Nat → Int32) (r0 r1 r2 r3 w r6 r7 r8 : Nat) (L : Nat) (Lg : Int64) (p1 : Int32) (p2 : Int32) (r : (Nat → Nat → Int32) × (Nat → Nat → Int32)), rc 0 H BO RG p1 p2 = some r → Ev (d + 4, 0, 0, 236, 0, [.val (.ref 896), .val (.int p1), .val (.int p2), .val a_unk, .val a_unk], [], (126, 120, L, [Y, T, H2, H, RA, RB, ST, NS, I0, I1, I2, BO, FI, RG, GU, PU, MA, MN, MS, OT, SC], [r0, r1, r2, r3, w, 256, r6, r7, r8], Lg)) ((0, none, (126, 120, L, [Y, T, H2, H, RA, RB, ST, NS, I0, I1, I2, r.1, FI, r.2, GU, PU, MA, MN, MS, OT, SC], [r0, r1, r2, r3, w, 256, r6, r7, r8], Lg)) : AOut))
    (Y T H2 H RA RB ST NS I0 I1 I2 BO FI RG GU PU MA MN MS OT SC : Nat → Nat → Int32) (r0 r1 r2 r3 w r6 r7 r8 : Nat) (L : Nat) (Lg : Int64) (p1 : Int32) (p2 : Int32) {r : (Nat → Nat → Int32) × (Nat → Nat → Int32)} (h : f_Rings_extend_B rc H BO RG p1 p2 = some r) : Ev (d + 5, 0, 0, 236, 0, [.val (.ref 896), .val (.int p1), .val (.int p2), .val a_unk, .val a_unk], [], (126, 120, L, [Y, T, H2, H, RA, RB, ST, NS, I0, I1, I2, BO, FI, RG, GU, PU, MA, MN, MS, OT, SC], [r0, r1, r2, r3, w, 256, r6, r7, r8], Lg)) ((0, none, (126, 120, L, [Y, T, H2, H, RA, RB, ST, NS, I0, I1, I2, r.1, FI, r.2, GU, PU, MA, MN, MS, OT, SC], [r0, r1, r2, r3, w, 256, r6, r7, r8], Lg)) : AOut) := by
  suffices key : ∀ o : AOut, ((0, none, (126, 120, L, [Y, T, H2, H, RA, RB, ST, NS, I0, I1, I2, r.1, FI, r.2, GU, PU, MA, MN, MS, OT, SC], [r0, r1, r2, r3, w, 256, r6, r7, r8], Lg)) : AOut) = o → Ev (d + 5, 0, 0, 236, 0, [.val (.ref 896), .val (.int p1), .val (.int p2), .val a_unk, .val a_unk], [], (126, 120, L, [Y, T, H2, H, RA, RB, ST, NS, I0, I1, I2, BO, FI, RG, GU, PU, MA, MN, MS, OT, SC], [r0, r1, r2, r3, w, 256, r6, r7, r8], Lg)) o from key _ rfl
  intro o ho
  by_cases zc1 : p1 < (RG 0 3)
  · have h := itp h zc1
    suffices e : Ev (d + 5, 0, 0, 236, 20, [.val (.ref 896), .val (.int p1), .val (.int p2), .val a_unk, .val a_unk], [], (126, 120, L, [Y, T, H2, H, RA, RB, ST, NS, I0, I1, I2, BO, FI, RG, GU, PU, MA, MN, MS, OT, SC], [r0, r1, r2, r3, w, 256, r6, r7, r8], Lg)) o from ev_t (c := p1 < (RG 0 3)) _ _ 4  zc1 e (fun n => Eq.refl _)
    obtain ⟨zt2, zh3, h⟩ := bnd h
    have zj4 : ∀ (v2 : Int32), v2 = zt2 → Ev (d + 5, 0, 0, 236, 36, [.val (.ref 896), .val (.int p1), .val (.int p2), .val a_unk, .val a_unk], [.int v2], (126, 120, L, [Y, T, H2, H, RA, RB, ST, NS, I0, I1, I2, BO, FI, RG, GU, PU, MA, MN, MS, OT, SC], [r0, r1, r2, r3, w, 256, r6, r7, r8], Lg)) o := by
      intro v2 ze5
      subst ze5
      obtain ⟨zb6, zh7, h⟩ := bnd h
      suffices e : Ev (d + 5, 0, 0, 236, 40, [.val (.ref 896), .val (.int p1), .val (.int p2), .val (.int v2), .val (.int v2)], [], (126, 120, L, [Y, T, H2, H, RA, RB, ST, NS, I0, I1, I2, BO, FI, RG, GU, PU, MA, MN, MS, OT, SC], [r0, r1, r2, r3, w, 256, r6, r7, r8], Lg)) o from ev_b 3 e (fun n => Eq.refl _)
      refine ev_loop (δ := Unit) (fun a j => (d + 5, 0, 0, 236, 40, [.val (.ref 896), .val (.int p1), .val (.int p2), .val (.int v2), .val (.int a.1)], [], (126, 120, L, [Y, T, H2, H, RA, RB, ST, NS, I0, I1, I2, a.2.1, FI, a.2.2, GU, PU, MA, MN, MS, OT, SC], [r0, r1, r2, r3, w, 256, r6, r7, r8], Lg))) (fun b => ∀ s10 : Value, Ev (d + 5, 0, 0, 236, 100, [.val (.ref 896), .val (.int p1), .val (.int p2), .val (.int v2), .val s10], [], (126, 120, L, [Y, T, H2, H, RA, RB, ST, NS, I0, I1, I2, b.1, FI, b.2, GU, PU, MA, MN, MS, OT, SC], [r0, r1, r2, r3, w, 256, r6, r7, r8], Lg)) o) ?_ a_F (v2, BO, RG) zb6 zh7 ?_ ()
      · rintro ⟨v3, BO_4, RG_5⟩ zr11 zh10 zi8 zx9 ⟨⟩
        have zh10 : f_Rings_extend_B_l40 H p2 p1 rc v3 BO_4 RG_5 = some zr11 := zh10
        suffices e : Ev (d + 5, 0, 0, 236, 49, [.val (.ref 896), .val (.int p1), .val (.int p2), .val (.int v2), .val (.int v3)], [.ref 256, .int v3], (126, 120, L, [Y, T, H2, H, RA, RB, ST, NS, I0, I1, I2, BO_4, FI, RG_5, GU, PU, MA, MN, MS, OT, SC], [r0, r1, r2, r3, w, 256, r6, r7, r8], Lg)) o from ev_b 4 e (fun n => Eq.refl _)
        by_cases zc12 : (H 0 3) ≤ v3
        · have zh10 := itp zh10 zc12
          suffices e : Ev (d + 5, 0, 0, 236, 100, [.val (.ref 896), .val (.int p1), .val (.int p2), .val (.int v2), .val (.int v3)], [], (126, 120, L, [Y, T, H2, H, RA, RB, ST, NS, I0, I1, I2, BO_4, FI, RG_5, GU, PU, MA, MN, MS, OT, SC], [r0, r1, r2, r3, w, 256, r6, r7, r8], Lg)) o from ev_t (c := (H 0 3) ≤ v3) _ _ 2  zc12 e (fun n => Eq.refl _)
          exact ev_b 0 (zx9 _ (Option.some.inj zh10).symm (.int v3)) (fun n => Eq.refl _)
        · have zh10 := itn zh10 zc12
          suffices e : Ev (d + 5, 0, 0, 236, 55, [.val (.ref 896), .val (.int p1), .val (.int p2), .val (.int v2), .val (.int v3)], [], (126, 120, L, [Y, T, H2, H, RA, RB, ST, NS, I0, I1, I2, BO_4, FI, RG_5, GU, PU, MA, MN, MS, OT, SC], [r0, r1, r2, r3, w, 256, r6, r7, r8], Lg)) o from ev_f (c := (H 0 3) ≤ v3) _ _ 2  zc12 e (fun n => Eq.refl _)
          by_cases zc13 : ((a_shr p2 v3) &&& 1) ≠ 0
          · have zh10 := itp zh10 zc13
            suffices e : Ev (d + 5, 0, 0, 236, 94, [.val (.ref 896), .val (.int p1), .val (.int p2), .val (.int v2), .val (.int v3)], [], (126, 120, L, [Y, T, H2, H, RA, RB, ST, NS, I0, I1, I2, BO_4, FI, RG_5, GU, PU, MA, MN, MS, OT, SC], [r0, r1, r2, r3, w, 256, r6, r7, r8], Lg)) o from ev_t (c := ((a_shr p2 v3) &&& 1) ≠ 0) _ _ 6  zc13 e (fun n => Eq.refl _)
            exact ev_b 2 (zi8 _ (Option.some.inj zh10).symm ()) (fun n => Eq.refl _)
          · have zh10 := itn zh10 zc13
            suffices e : Ev (d + 5, 0, 0, 236, 64, [.val (.ref 896), .val (.int p1), .val (.int p2), .val (.int v2), .val (.int v3)], [], (126, 120, L, [Y, T, H2, H, RA, RB, ST, NS, I0, I1, I2, BO_4, FI, RG_5, GU, PU, MA, MN, MS, OT, SC], [r0, r1, r2, r3, w, 256, r6, r7, r8], Lg)) o from ev_f (c := ((a_shr p2 v3) &&& 1) ≠ 0) _ _ 6  zc13 e (fun n => Eq.refl _)
            obtain ⟨x6, zh14, zh10⟩ := bnd zh10
            have zh14 : f_Rings_mayTurn H BO_4 v3 = some x6 := zh14
            have ze15 := R_f_Rings_mayTurn_1 (d + 3) Y T H2 H RA RB ST NS I0 I1 I2 BO_4 FI RG_5 GU PU MA MN MS OT SC r0 r1 r2 r3 w r6 r7 r8 L Lg v3 zh14
            suffices e : Ev (d + 5, 0, 0, 236, 70, [.val (.ref 896), .val (.int p1), .val (.int p2), .val (.int v2), .val (.int v3)], [.int x6], (126, 120, L, [Y, T, H2, H, RA, RB, ST, NS, I0, I1, I2, BO_4, FI, RG_5, GU, PU, MA, MN, MS, OT, SC], [r0, r1, r2, r3, w, 256, r6, r7, r8], Lg)) o from ev_call (fun v μ => (d + 5, 0, 0, 236, 70, [.val (.ref 896), .val (.int p1), .val (.int p2), .val (.int v2), .val (.int v3)], v.toList ++ [], μ)) 3 ze15 e (fun n => Eq.refl _)
            by_cases zc16 : x6 = 0
            · have zh10 := itp zh10 zc16
              suffices e : Ev (d + 5, 0, 0, 236, 94, [.val (.ref 896), .val (.int p1), .val (.int p2), .val (.int v2), .val (.int v3)], [], (126, 120, L, [Y, T, H2, H, RA, RB, ST, NS, I0, I1, I2, BO_4, FI, RG_5, GU, PU, MA, MN, MS, OT, SC], [r0, r1, r2, r3, w, 256, r6, r7, r8], Lg)) o from ev_t (c := x6 = 0) _ _ 1  zc16 e (fun n => Eq.refl _)
              exact ev_b 2 (zi8 _ (Option.some.inj zh10).symm ()) (fun n => Eq.refl _)
            · have zh10 := itn zh10 zc16
              suffices e : Ev (d + 5, 0, 0, 236, 73, [.val (.ref 896), .val (.int p1), .val (.int p2), .val (.int v2), .val (.int v3)], [], (126, 120, L, [Y, T, H2, H, RA, RB, ST, NS, I0, I1, I2, BO_4, FI, RG_5, GU, PU, MA, MN, MS, OT, SC], [r0, r1, r2, r3, w, 256, r6, r7, r8], Lg)) o from ev_f (c := x6 = 0) _ _ 1  zc16 e (fun n => Eq.refl _)
              obtain ⟨j7, zh17, zh10⟩ := bnd zh10
              have zh17 : ixx 4 p1 = some j7 := zh17
              suffices e : Ev (d + 5, 0, 0, 236, 81, [.val (.ref 896), .val (.int p1), .val (.int p2), .val (.int v2), .val (.int v3)], [], (126, 120, L, [Y, T, H2, H, RA, RB, ST, NS, I0, I1, I2, BO_4, FI, (u2 RG_5 1 j7 v3), GU, PU, MA, MN, MS, OT, SC], [r0, r1, r2, r3, w, 256, r6, r7, r8], Lg)) o from ev_opt (fun j7 => (d + 5, 0, 0, 236, 81, [.val (.ref 896), .val (.int p1), .val (.int p2), .val (.int v2), .val (.int v3)], [], (126, 120, L, [Y, T, H2, H, RA, RB, ST, NS, I0, I1, I2, BO_4, FI, (u2 RG_5 1 j7 v3), GU, PU, MA, MN, MS, OT, SC], [r0, r1, r2, r3, w, 256, r6, r7, r8], Lg))) 5 zh17 e (fun n => Eq.refl _)
              obtain ⟨⟨BO_8, RG_9⟩, zh18, zh10⟩ := bnd zh10
              have zh18 : rc 0 H BO_4 (u2 RG_5 1 j7 v3) (p1 + 1) (p2 ||| (a_shl 1 v3)) = some (BO_8, RG_9) := zh18
              have ze19 := zrc0 Y T H2 H RA RB ST NS I0 I1 I2 BO_4 FI (u2 RG_5 1 j7 v3) GU PU MA MN MS OT SC r0 r1 r2 r3 w r6 r7 r8 L Lg (p1 + 1) (p2 ||| (a_shl 1 v3)) _ zh18
              suffices e : Ev (d + 5, 0, 0, 236, 94, [.val (.ref 896), .val (.int p1), .val (.int p2), .val (.int v2), .val (.int v3)], [], (126, 120, L, [Y, T, H2, H, RA, RB, ST, NS, I0, I1, I2, BO_8, FI, RG_9, GU, PU, MA, MN, MS, OT, SC], [r0, r1, r2, r3, w, 256, r6, r7, r8], Lg)) o from ev_call (fun v μ => (d + 5, 0, 0, 236, 94, [.val (.ref 896), .val (.int p1), .val (.int p2), .val (.int v2), .val (.int v3)], v.toList ++ [], μ)) 10 ze19 e (fun n => Eq.refl _)
              exact ev_b 2 (zi8 _ (Option.some.inj zh10).symm ()) (fun n => Eq.refl _)
      · obtain ⟨BO_11, RG_12⟩ := zb6
        intro s10
        have ze20 := Option.some.inj h
        subst ze20
        exact ev_rete 1 ho (fun n => Eq.refl _)
    by_cases zc21 : p1 ≠ 0
    · have zh3 := itp zh3 zc21
      suffices e : Ev (d + 5, 0, 0, 236, 28, [.val (.ref 896), .val (.int p1), .val (.int p2), .val a_unk, .val a_unk], [], (126, 120, L, [Y, T, H2, H, RA, RB, ST, NS, I0, I1, I2, BO, FI, RG, GU, PU, MA, MN, MS, OT, SC], [r0, r1, r2, r3, w, 256, r6, r7, r8], Lg)) o from ev_t (c := p1 ≠ 0) _ _ 2  zc21 e (fun n => Eq.refl _)
      obtain ⟨x1, zh22, zh3⟩ := bnd zh3
      have zh22 : rdx (RG 1) 4 0 = some x1 := zh22
      suffices e : Ev (d + 5, 0, 0, 236, 34, [.val (.ref 896), .val (.int p1), .val (.int p2), .val a_unk, .val a_unk], [.int x1], (126, 120, L, [Y, T, H2, H, RA, RB, ST, NS, I0, I1, I2, BO, FI, RG, GU, PU, MA, MN, MS, OT, SC], [r0, r1, r2, r3, w, 256, r6, r7, r8], Lg)) o from ev_opt (fun x1 => (d + 5, 0, 0, 236, 34, [.val (.ref 896), .val (.int p1), .val (.int p2), .val a_unk, .val a_unk], [.int x1], (126, 120, L, [Y, T, H2, H, RA, RB, ST, NS, I0, I1, I2, BO, FI, RG, GU, PU, MA, MN, MS, OT, SC], [r0, r1, r2, r3, w, 256, r6, r7, r8], Lg))) 4 zh22 e (fun n => Eq.refl _)
      exact ev_b 2 (zj4 (x1 + 1) (Option.some.inj zh3) ) (fun n => Eq.refl _)
    · have zh3 := itn zh3 zc21
      suffices e : Ev (d + 5, 0, 0, 236, 24, [.val (.ref 896), .val (.int p1), .val (.int p2), .val a_unk, .val a_unk], [], (126, 120, L, [Y, T, H2, H, RA, RB, ST, NS, I0, I1, I2, BO, FI, RG, GU, PU, MA, MN, MS, OT, SC], [r0, r1, r2, r3, w, 256, r6, r7, r8], Lg)) o from ev_f (c := p1 ≠ 0) _ _ 2  zc21 e (fun n => Eq.refl _)
      exact ev_b 2 (zj4 0 (Option.some.inj zh3) ) (fun n => Eq.refl _)
  · have h := itn h zc1
    suffices e : Ev (d + 5, 0, 0, 236, 8, [.val (.ref 896), .val (.int p1), .val (.int p2), .val a_unk, .val a_unk], [], (126, 120, L, [Y, T, H2, H, RA, RB, ST, NS, I0, I1, I2, BO, FI, RG, GU, PU, MA, MN, MS, OT, SC], [r0, r1, r2, r3, w, 256, r6, r7, r8], Lg)) o from ev_f (c := p1 < (RG 0 3)) _ _ 4  zc1 e (fun n => Eq.refl _)
    obtain ⟨⟨x13, BO_14, RG_15⟩, zh23, h⟩ := bnd h
    have zh23 : f_Rings_turns H BO RG = some (x13, BO_14, RG_15) := zh23
    have ze24 := R_f_Rings_turns_1 (d + 0) Y T H2 H RA RB ST NS I0 I1 I2 BO FI RG GU PU MA MN MS OT SC r0 r1 r2 r3 w r6 r7 r8 L Lg zh23
    suffices e : Ev (d + 5, 0, 0, 236, 12, [.val (.ref 896), .val (.int p1), .val (.int p2), .val a_unk, .val a_unk], [.int x13], (126, 120, L, [Y, T, H2, H, RA, RB, ST, NS, I0, I1, I2, BO_14, FI, RG_15, GU, PU, MA, MN, MS, OT, SC], [r0, r1, r2, r3, w, 256, r6, r7, r8], Lg)) o from ev_call (fun v μ => (d + 5, 0, 0, 236, 12, [.val (.ref 896), .val (.int p1), .val (.int p2), .val a_unk, .val a_unk], v.toList ++ [], μ)) 2 ze24 e (fun n => Eq.refl _)
    by_cases zc25 : x13 = 0
    · have h := itp h zc25
      suffices e : Ev (d + 5, 0, 0, 236, 19, [.val (.ref 896), .val (.int p1), .val (.int p2), .val a_unk, .val a_unk], [], (126, 120, L, [Y, T, H2, H, RA, RB, ST, NS, I0, I1, I2, BO_14, FI, RG_15, GU, PU, MA, MN, MS, OT, SC], [r0, r1, r2, r3, w, 256, r6, r7, r8], Lg)) o from ev_t (c := x13 = 0) _ _ 1  zc25 e (fun n => Eq.refl _)
      have ze26 := Option.some.inj h
      subst ze26
      exact ev_rete 1 ho (fun n => Eq.refl _)
    · have h := itn h zc25
      suffices e : Ev (d + 5, 0, 0, 236, 15, [.val (.ref 896), .val (.int p1), .val (.int p2), .val a_unk, .val a_unk], [], (126, 120, L, [Y, T, H2, H, RA, RB, ST, NS, I0, I1, I2, BO_14, FI, RG_15, GU, PU, MA, MN, MS, OT, SC], [r0, r1, r2, r3, w, 256, r6, r7, r8], Lg)) o from ev_f (c := x13 = 0) _ _ 1  zc25 e (fun n => Eq.refl _)
      obtain ⟨RG_16, zh27, h⟩ := bnd h
      have zh27 : f_Rings_keep RG_15 = some RG_16 := zh27
      have ze28 := R_f_Rings_keep_1 (d + 4) Y T H2 H RA RB ST NS I0 I1 I2 BO_14 FI RG_15 GU PU MA MN MS OT SC r0 r1 r2 r3 w r6 r7 r8 L Lg zh27
      suffices e : Ev (d + 5, 0, 0, 236, 19, [.val (.ref 896), .val (.int p1), .val (.int p2), .val a_unk, .val a_unk], [], (126, 120, L, [Y, T, H2, H, RA, RB, ST, NS, I0, I1, I2, BO_14, FI, RG_16, GU, PU, MA, MN, MS, OT, SC], [r0, r1, r2, r3, w, 256, r6, r7, r8], Lg)) o from ev_call (fun v μ => (d + 5, 0, 0, 236, 19, [.val (.ref 896), .val (.int p1), .val (.int p2), .val a_unk, .val a_unk], v.toList ++ [], μ)) 2 ze28 e (fun n => Eq.refl _)
      have ze29 := Option.some.inj h
      subst ze29
      exact ev_rete 1 ho (fun n => Eq.refl _)
set_option maxRecDepth 1000000 in
set_option maxHeartbeats 4000000 in
theorem K_grp_ce_1 (n : Nat) : (∀ (d : Nat) (Y T H2 H RA RB ST NS I0 I1 I2 BO FI RG GU PU MA MN MS OT SC : Nat → Nat → Int32) (r0 r1 r2 r3 w r6 r7 r8 : Nat) (L : Nat) (Lg : Int64) (p1 : Int32) (p2 : Int32) (r : (Nat → Nat → Int32) × (Nat → Nat → Int32)), f_grp_ce n 0 H BO RG p1 p2 = some r → Ev (d + (4 + n), 0, 0, 236, 0, [.val (.ref 896), .val (.int p1), .val (.int p2), .val a_unk, .val a_unk], [], (126, 120, L, [Y, T, H2, H, RA, RB, ST, NS, I0, I1, I2, BO, FI, RG, GU, PU, MA, MN, MS, OT, SC], [r0, r1, r2, r3, w, 256, r6, r7, r8], Lg)) ((0, none, (126, 120, L, [Y, T, H2, H, RA, RB, ST, NS, I0, I1, I2, r.1, FI, r.2, GU, PU, MA, MN, MS, OT, SC], [r0, r1, r2, r3, w, 256, r6, r7, r8], Lg)) : AOut)) := by
  induction n with
  | zero => exact by intros; contradiction
  | succ n ih =>
    have i0 := ih
    refine ?_
    · intro d Y T H2 H RA RB ST NS I0 I1 I2 BO FI RG GU PU MA MN MS OT SC r0 r1 r2 r3 w r6 r7 r8 L Lg p1 p2 r h
      rw [show d + (4 + (n + 1)) = d + n + 5 by omega]
      have j0 : ∀ (Y T H2 H RA RB ST NS I0 I1 I2 BO FI RG GU PU MA MN MS OT SC : Nat → Nat → Int32) (r0 r1 r2 r3 w r6 r7 r8 : Nat) (L : Nat) (Lg : Int64) (p1 : Int32) (p2 : Int32) (r : (Nat → Nat → Int32) × (Nat → Nat → Int32)), f_grp_ce n 0 H BO RG p1 p2 = some r → Ev (d + n + 4, 0, 0, 236, 0, [.val (.ref 896), .val (.int p1), .val (.int p2), .val a_unk, .val a_unk], [], (126, 120, L, [Y, T, H2, H, RA, RB, ST, NS, I0, I1, I2, BO, FI, RG, GU, PU, MA, MN, MS, OT, SC], [r0, r1, r2, r3, w, 256, r6, r7, r8], Lg)) ((0, none, (126, 120, L, [Y, T, H2, H, RA, RB, ST, NS, I0, I1, I2, r.1, FI, r.2, GU, PU, MA, MN, MS, OT, SC], [r0, r1, r2, r3, w, 256, r6, r7, r8], Lg)) : AOut) := by
        intro Y T H2 H RA RB ST NS I0 I1 I2 BO FI RG GU PU MA MN MS OT SC r0 r1 r2 r3 w r6 r7 r8 L Lg p1 p2 r h
        have e := i0 d Y T H2 H RA RB ST NS I0 I1 I2 BO FI RG GU PU MA MN MS OT SC r0 r1 r2 r3 w r6 r7 r8 L Lg p1 p2 r h
        rw [show d + (4 + n) = d + n + 4 by omega] at e
        exact e
      exact R_f_Rings_extend_B_1 (d + n) (f_grp_ce n) j0 Y T H2 H RA RB ST NS I0 I1 I2 BO FI RG GU PU MA MN MS OT SC r0 r1 r2 r3 w r6 r7 r8 L Lg p1 p2 h

set_option maxRecDepth 1000000 in
set_option maxHeartbeats 4000000 in
theorem R_f_Rings_search_1 (d : Nat) (Y T H2 H RA RB ST NS I0 I1 I2 BO FI RG GU PU MA MN MS OT SC : Nat → Nat → Int32) (r0 r1 r2 r3 w r6 r7 r8 : Nat) (L : Nat) (Lg : Int64) (p1 : Int32) {r : (Nat → Nat → Int32) × (Nat → Nat → Int32)} (h : f_Rings_search H BO RG p1 = some r) : Ev (d + 17, 0, 0, 234, 0, [.val (.ref 896), .val (.int p1)], [], (126, 120, L, [Y, T, H2, H, RA, RB, ST, NS, I0, I1, I2, BO, FI, RG, GU, PU, MA, MN, MS, OT, SC], [r0, r1, r2, r3, w, 256, r6, r7, r8], Lg)) ((0, none, (126, 120, L, [Y, T, H2, H, RA, RB, ST, NS, I0, I1, I2, r.1, FI, r.2, GU, PU, MA, MN, MS, OT, SC], [r0, r1, r2, r3, w, 256, r6, r7, r8], Lg)) : AOut) := by
  suffices key : ∀ o : AOut, ((0, none, (126, 120, L, [Y, T, H2, H, RA, RB, ST, NS, I0, I1, I2, r.1, FI, r.2, GU, PU, MA, MN, MS, OT, SC], [r0, r1, r2, r3, w, 256, r6, r7, r8], Lg)) : AOut) = o → Ev (d + 17, 0, 0, 234, 0, [.val (.ref 896), .val (.int p1)], [], (126, 120, L, [Y, T, H2, H, RA, RB, ST, NS, I0, I1, I2, BO, FI, RG, GU, PU, MA, MN, MS, OT, SC], [r0, r1, r2, r3, w, 256, r6, r7, r8], Lg)) o from key _ rfl
  intro o ho
  obtain ⟨x1, zh1, h⟩ := bnd h
  have zh1 : f_Math_min p1 4 = some x1 := zh1
  have ze2 := R_f_Math_min_0 (d + 16) Y T H2 H RA RB ST NS I0 I1 I2 BO FI RG GU PU MA MN MS OT SC r0 r1 r2 r3 w 256 r6 r7 r8 L Lg p1 4 zh1
  suffices e : Ev (d + 17, 0, 0, 234, 6, [.val (.ref 896), .val (.int p1)], [.int x1, .ref 896], (126, 120, L, [Y, T, H2, H, RA, RB, ST, NS, I0, I1, I2, BO, FI, RG, GU, PU, MA, MN, MS, OT, SC], [r0, r1, r2, r3, w, 256, r6, r7, r8], Lg)) o from ev_call (fun v μ => (d + 17, 0, 0, 234, 6, [.val (.ref 896), .val (.int p1)], v.toList ++ [.ref 896], μ)) 4 ze2 e (fun n => Eq.refl _)
  obtain ⟨⟨BO_2, RG_3⟩, zh3, h⟩ := bnd h
  have zh3 : f_grp_ce 12 0 H BO (u2 (u2 (u2 RG 0 3 x1) 0 4 0) 0 5 (-1)) 0 0 = some (BO_2, RG_3) := zh3
  have ze4 := (K_grp_ce_1 12) (d + 0) Y T H2 H RA RB ST NS I0 I1 I2 BO FI (u2 (u2 (u2 RG 0 3 x1) 0 4 0) 0 5 (-1)) GU PU MA MN MS OT SC r0 r1 r2 r3 w r6 r7 r8 L Lg 0 0 _ zh3
  suffices e : Ev (d + 17, 0, 0, 234, 25, [.val (.ref 896), .val (.int p1)], [], (126, 120, L, [Y, T, H2, H, RA, RB, ST, NS, I0, I1, I2, BO_2, FI, RG_3, GU, PU, MA, MN, MS, OT, SC], [r0, r1, r2, r3, w, 256, r6, r7, r8], Lg)) o from ev_call (fun v μ => (d + 17, 0, 0, 234, 25, [.val (.ref 896), .val (.int p1)], v.toList ++ [], μ)) 11 ze4 e (fun n => Eq.refl _)
  have ze5 := Option.some.inj h
  subst ze5
  exact ev_rete 1 ho (fun n => Eq.refl _)
set_option maxRecDepth 1000000 in
set_option maxHeartbeats 4000000 in
theorem R_f_Y_rings_2 (d : Nat) (Y T H2 H RU RV ST NS I0 I1 I2 BO FI RG GU PU MA MN MS OT SC : Nat → Nat → Int32) (w r5 : Nat) (L : Nat) (Lg : Int64) (p1 : Int32) (p2 : Int32) {r : Nat × Int32 × (Nat → Nat → Int32) × (Nat → Nat → Int32) × (Nat → Nat → Int32) × Nat} (h : f_Y_rings Y H NS BO RG 256 r5 p1 p2 = some r) : Ev (d + 18, 1, 8, 306, 0, [.val (.ref 64), .val (.int p1), .val (.int p2)], [], (126, 120, L, [Y, T, H2, H, RU, RV, ST, NS, I0, I1, I2, BO, FI, RG, GU, PU, MA, MN, MS, OT, SC], [256, 192, 320, 384, w, r5, 576, 640, 704], Lg)) ((r.1, a_ov r.1 (.int r.2.1), (126, 120, L, [r.2.2.1, T, H2, H, RU, RV, ST, NS, I0, I1, I2, r.2.2.2.1, FI, r.2.2.2.2.1, GU, PU, MA, MN, MS, OT, SC], [256, 192, 320, 384, w, r.2.2.2.2.2, 576, 640, 704], Lg)) : AOut) := by
  suffices key : ∀ o : AOut, ((r.1, a_ov r.1 (.int r.2.1), (126, 120, L, [r.2.2.1, T, H2, H, RU, RV, ST, NS, I0, I1, I2, r.2.2.2.1, FI, r.2.2.2.2.1, GU, PU, MA, MN, MS, OT, SC], [256, 192, 320, 384, w, r.2.2.2.2.2, 576, 640, 704], Lg)) : AOut) = o → Ev (d + 18, 1, 8, 306, 0, [.val (.ref 64), .val (.int p1), .val (.int p2)], [], (126, 120, L, [Y, T, H2, H, RU, RV, ST, NS, I0, I1, I2, BO, FI, RG, GU, PU, MA, MN, MS, OT, SC], [256, 192, 320, 384, w, r5, 576, 640, 704], Lg)) o from key _ rfl
  intro o ho
  obtain ⟨zt1, zh2, h⟩ := bnd h
  have zj3 : ∀ (v1 : Int32), v1 = zt1 → Ev (d + 18, 1, 8, 306, 25, [.val (.ref 64), .val (.int p1), .val (.int p2)], [.int v1, .ref 64], (126, 120, L, [Y, T, H2, H, RU, RV, ST, NS, I0, I1, I2, BO, FI, RG, GU, PU, MA, MN, MS, OT, SC], [256, 192, 320, 384, w, r5, 576, 640, 704], Lg)) o := by
    intro v1 ze4
    subst ze4
    obtain ⟨⟨q2, Y_3⟩, zh5, h⟩ := bnd h
    have zh5 : f_Y_refuseUnless Y v1 = some (q2, Y_3) := zh5
    have ze6 := R_f_Y_refuseUnless_2 (d + 17) Y T H2 H RU RV ST NS I0 I1 I2 BO FI RG GU PU MA MN MS OT SC w r5 L Lg v1 zh5
    cases q2 with
    | zero =>
      have h := itp h rfl
      suffices e : Ev (d + 18, 0, 0, 306, 28, [.val (.ref 64), .val (.int p1), .val (.int p2)], [], (126, 120, L, [Y_3, T, H2, H, RU, RV, ST, NS, I0, I1, I2, BO, FI, RG, GU, PU, MA, MN, MS, OT, SC], [256, 192, 320, 384, w, r5, 576, 640, 704], Lg)) o from ev_call (fun v μ => (d + 18, 0, 0, 306, 28, [.val (.ref 64), .val (.int p1), .val (.int p2)], v.toList ++ [], μ)) 1 ze6 e (fun n => Eq.refl _)
      obtain ⟨BO_5, zh7, h⟩ := bnd h
      have zh7 : f_Y_lookNow H NS BO = some BO_5 := zh7
      have ze8 := R_f_Y_lookNow_2 (d + 15) Y_3 T H2 H RU RV ST NS I0 I1 I2 BO FI RG GU PU MA MN MS OT SC w r5 L Lg zh7
      suffices e : Ev (d + 18, 0, 0, 306, 32, [.val (.ref 64), .val (.int p1), .val (.int p2)], [.ref 768], (126, 120, L, [Y_3, T, H2, H, RU, RV, ST, NS, I0, I1, I2, BO_5, FI, RG, GU, PU, MA, MN, MS, OT, SC], [256, 192, 320, 384, w, 256, 576, 640, 704], Lg)) o from ev_call (fun v μ => (d + 18, 0, 0, 306, 32, [.val (.ref 64), .val (.int p1), .val (.int p2)], v.toList ++ [], μ)) 2 ze8 e (fun n => Eq.refl _)
      obtain ⟨⟨BO_6, RG_7⟩, zh9, h⟩ := bnd h
      have zh9 : f_Rings_search H BO_5 RG p1 = some (BO_6, RG_7) := zh9
      have ze10 := R_f_Rings_search_1 (d + 0) Y_3 T H2 H RU RV ST NS I0 I1 I2 BO_5 FI RG GU PU MA MN MS OT SC 256 192 320 384 w 576 640 704 L Lg p1 zh9
      suffices e : Ev (d + 18, 0, 0, 306, 41, [.val (.ref 64), .val (.int p1), .val (.int p2)], [], (126, 120, L, [Y_3, T, H2, H, RU, RV, ST, NS, I0, I1, I2, BO_6, FI, RG_7, GU, PU, MA, MN, MS, OT, SC], [256, 192, 320, 384, w, 256, 576, 640, 704], Lg)) o from ev_call (fun v μ => (d + 18, 0, 0, 306, 41, [.val (.ref 64), .val (.int p1), .val (.int p2)], v.toList ++ [], μ)) 5 ze10 e (fun n => Eq.refl _)
      by_cases zc11 : p2 ≠ 0
      · have h := itp h zc11
        suffices e : Ev (d + 18, 0, 0, 306, 55, [.val (.ref 64), .val (.int p1), .val (.int p2)], [], (126, 120, L, [Y_3, T, H2, H, RU, RV, ST, NS, I0, I1, I2, BO_6, FI, RG_7, GU, PU, MA, MN, MS, OT, SC], [256, 192, 320, 384, w, 256, 576, 640, 704], Lg)) o from ev_t (c := p2 ≠ 0) _ _ 2  zc11 e (fun n => Eq.refl _)
        have ze12 := Option.some.inj h
        subst ze12
        exact ev_rete 4 ho (fun n => Eq.refl _)
      · have h := itn h zc11
        suffices e : Ev (d + 18, 0, 0, 306, 45, [.val (.ref 64), .val (.int p1), .val (.int p2)], [], (126, 120, L, [Y_3, T, H2, H, RU, RV, ST, NS, I0, I1, I2, BO_6, FI, RG_7, GU, PU, MA, MN, MS, OT, SC], [256, 192, 320, 384, w, 256, 576, 640, 704], Lg)) o from ev_f (c := p2 ≠ 0) _ _ 2  zc11 e (fun n => Eq.refl _)
        have ze13 := Option.some.inj h
        subst ze13
        exact ev_rete 5 ho (fun n => Eq.refl _)
    | succ q2 =>
      have h := itn h (Nat.succ_ne_zero q2)
      have ze14 := Option.some.inj h
      subst ze14
      subst ho
      exact ev_thr (fun v μ => (d + 18, 0, 0, 306, 28, [.val (.ref 64), .val (.int p1), .val (.int p2)], v.toList ++ [], μ)) 1 ze6 (fun n => Eq.refl _) (fun n => rfl)
  obtain ⟨zt15, zh16, zh2⟩ := bnd zh2
  have zj17 : zt15 = .inl () → Ev (d + 18, 1, 8, 306, 24, [.val (.ref 64), .val (.int p1), .val (.int p2)], [.ref 64], (126, 120, L, [Y, T, H2, H, RU, RV, ST, NS, I0, I1, I2, BO, FI, RG, GU, PU, MA, MN, MS, OT, SC], [256, 192, 320, 384, w, r5, 576, 640, 704], Lg)) o := by
    intro ze18
    have zh2 := sum_l zh2 ze18
    exact ev_b 1 (zj3 0 (Option.some.inj zh2) ) (fun n => Eq.refl _)
  by_cases zc19 : p1 < 2
  · have zh16 := itp zh16 zc19
    suffices e : Ev (d + 18, 1, 8, 306, 24, [.val (.ref 64), .val (.int p1), .val (.int p2)], [.ref 64], (126, 120, L, [Y, T, H2, H, RU, RV, ST, NS, I0, I1, I2, BO, FI, RG, GU, PU, MA, MN, MS, OT, SC], [256, 192, 320, 384, w, r5, 576, 640, 704], Lg)) o from ev_t (c := p1 < 2) _ _ 4  zc19 e (fun n => Eq.refl _)
    exact ev_b 0 (zj17  (Option.some.inj zh16).symm ) (fun n => Eq.refl _)
  · have zh16 := itn zh16 zc19
    suffices e : Ev (d + 18, 1, 8, 306, 6, [.val (.ref 64), .val (.int p1), .val (.int p2)], [.ref 64], (126, 120, L, [Y, T, H2, H, RU, RV, ST, NS, I0, I1, I2, BO, FI, RG, GU, PU, MA, MN, MS, OT, SC], [256, 192, 320, 384, w, r5, 576, 640, 704], Lg)) o from ev_f (c := p1 < 2) _ _ 4  zc19 e (fun n => Eq.refl _)
    by_cases zc20 : 4 < p1
    · have zh16 := itp zh16 zc20
      suffices e : Ev (d + 18, 1, 8, 306, 24, [.val (.ref 64), .val (.int p1), .val (.int p2)], [.ref 64], (126, 120, L, [Y, T, H2, H, RU, RV, ST, NS, I0, I1, I2, BO, FI, RG, GU, PU, MA, MN, MS, OT, SC], [256, 192, 320, 384, w, r5, 576, 640, 704], Lg)) o from ev_t (c := 4 < p1) _ _ 3  zc20 e (fun n => Eq.refl _)
      exact ev_b 0 (zj17  (Option.some.inj zh16).symm ) (fun n => Eq.refl _)
    · have zh16 := itn zh16 zc20
      suffices e : Ev (d + 18, 1, 8, 306, 11, [.val (.ref 64), .val (.int p1), .val (.int p2)], [.ref 64], (126, 120, L, [Y, T, H2, H, RU, RV, ST, NS, I0, I1, I2, BO, FI, RG, GU, PU, MA, MN, MS, OT, SC], [256, 192, 320, 384, w, r5, 576, 640, 704], Lg)) o from ev_f (c := 4 < p1) _ _ 3  zc20 e (fun n => Eq.refl _)
      by_cases zc21 : p2 < 0
      · have zh16 := itp zh16 zc21
        suffices e : Ev (d + 18, 1, 8, 306, 24, [.val (.ref 64), .val (.int p1), .val (.int p2)], [.ref 64], (126, 120, L, [Y, T, H2, H, RU, RV, ST, NS, I0, I1, I2, BO, FI, RG, GU, PU, MA, MN, MS, OT, SC], [256, 192, 320, 384, w, r5, 576, 640, 704], Lg)) o from ev_t (c := p2 < 0) _ _ 2  zc21 e (fun n => Eq.refl _)
        exact ev_b 0 (zj17  (Option.some.inj zh16).symm ) (fun n => Eq.refl _)
      · have zh16 := itn zh16 zc21
        suffices e : Ev (d + 18, 1, 8, 306, 15, [.val (.ref 64), .val (.int p1), .val (.int p2)], [.ref 64], (126, 120, L, [Y, T, H2, H, RU, RV, ST, NS, I0, I1, I2, BO, FI, RG, GU, PU, MA, MN, MS, OT, SC], [256, 192, 320, 384, w, r5, 576, 640, 704], Lg)) o from ev_f (c := p2 < 0) _ _ 2  zc21 e (fun n => Eq.refl _)
        by_cases zc22 : 1 < p2
        · have zh16 := itp zh16 zc22
          suffices e : Ev (d + 18, 1, 8, 306, 24, [.val (.ref 64), .val (.int p1), .val (.int p2)], [.ref 64], (126, 120, L, [Y, T, H2, H, RU, RV, ST, NS, I0, I1, I2, BO, FI, RG, GU, PU, MA, MN, MS, OT, SC], [256, 192, 320, 384, w, r5, 576, 640, 704], Lg)) o from ev_t (c := 1 < p2) _ _ 3  zc22 e (fun n => Eq.refl _)
          exact ev_b 0 (zj17  (Option.some.inj zh16).symm ) (fun n => Eq.refl _)
        · have zh16 := itn zh16 zc22
          suffices e : Ev (d + 18, 1, 8, 306, 20, [.val (.ref 64), .val (.int p1), .val (.int p2)], [.ref 64], (126, 120, L, [Y, T, H2, H, RU, RV, ST, NS, I0, I1, I2, BO, FI, RG, GU, PU, MA, MN, MS, OT, SC], [256, 192, 320, 384, w, r5, 576, 640, 704], Lg)) o from ev_f (c := 1 < p2) _ _ 3  zc22 e (fun n => Eq.refl _)
          have zh23 := sum_r zh2 (Option.some.inj zh16).symm
          exact ev_b 2 (zj3 1 (Option.some.inj zh23) ) (fun n => Eq.refl _)
set_option maxRecDepth 1000000 in
set_option maxHeartbeats 4000000 in
theorem R_f_Y_rings_3 (d : Nat) (Y T H2 H RV RU ST NS I0 I1 I2 BO FI RG GU PU MA MN MS OT SC : Nat → Nat → Int32) (w r5 : Nat) (L : Nat) (Lg : Int64) (p1 : Int32) (p2 : Int32) {r : Nat × Int32 × (Nat → Nat → Int32) × (Nat → Nat → Int32) × (Nat → Nat → Int32) × Nat} (h : f_Y_rings Y H NS BO RG 256 r5 p1 p2 = some r) : Ev (d + 18, 1, 8, 306, 0, [.val (.ref 64), .val (.int p1), .val (.int p2)], [], (126, 120, L, [Y, T, H2, H, RV, RU, ST, NS, I0, I1, I2, BO, FI, RG, GU, PU, MA, MN, MS, OT, SC], [256, 192, 384, 320, w, r5, 576, 640, 704], Lg)) ((r.1, a_ov r.1 (.int r.2.1), (126, 120, L, [r.2.2.1, T, H2, H, RV, RU, ST, NS, I0, I1, I2, r.2.2.2.1, FI, r.2.2.2.2.1, GU, PU, MA, MN, MS, OT, SC], [256, 192, 384, 320, w, r.2.2.2.2.2, 576, 640, 704], Lg)) : AOut) := by
  suffices key : ∀ o : AOut, ((r.1, a_ov r.1 (.int r.2.1), (126, 120, L, [r.2.2.1, T, H2, H, RV, RU, ST, NS, I0, I1, I2, r.2.2.2.1, FI, r.2.2.2.2.1, GU, PU, MA, MN, MS, OT, SC], [256, 192, 384, 320, w, r.2.2.2.2.2, 576, 640, 704], Lg)) : AOut) = o → Ev (d + 18, 1, 8, 306, 0, [.val (.ref 64), .val (.int p1), .val (.int p2)], [], (126, 120, L, [Y, T, H2, H, RV, RU, ST, NS, I0, I1, I2, BO, FI, RG, GU, PU, MA, MN, MS, OT, SC], [256, 192, 384, 320, w, r5, 576, 640, 704], Lg)) o from key _ rfl
  intro o ho
  obtain ⟨zt1, zh2, h⟩ := bnd h
  have zj3 : ∀ (v1 : Int32), v1 = zt1 → Ev (d + 18, 1, 8, 306, 25, [.val (.ref 64), .val (.int p1), .val (.int p2)], [.int v1, .ref 64], (126, 120, L, [Y, T, H2, H, RV, RU, ST, NS, I0, I1, I2, BO, FI, RG, GU, PU, MA, MN, MS, OT, SC], [256, 192, 384, 320, w, r5, 576, 640, 704], Lg)) o := by
    intro v1 ze4
    subst ze4
    obtain ⟨⟨q2, Y_3⟩, zh5, h⟩ := bnd h
    have zh5 : f_Y_refuseUnless Y v1 = some (q2, Y_3) := zh5
    have ze6 := R_f_Y_refuseUnless_3 (d + 17) Y T H2 H RV RU ST NS I0 I1 I2 BO FI RG GU PU MA MN MS OT SC w r5 L Lg v1 zh5
    cases q2 with
    | zero =>
      have h := itp h rfl
      suffices e : Ev (d + 18, 0, 0, 306, 28, [.val (.ref 64), .val (.int p1), .val (.int p2)], [], (126, 120, L, [Y_3, T, H2, H, RV, RU, ST, NS, I0, I1, I2, BO, FI, RG, GU, PU, MA, MN, MS, OT, SC], [256, 192, 384, 320, w, r5, 576, 640, 704], Lg)) o from ev_call (fun v μ => (d + 18, 0, 0, 306, 28, [.val (.ref 64), .val (.int p1), .val (.int p2)], v.toList ++ [], μ)) 1 ze6 e (fun n => Eq.refl _)
      obtain ⟨BO_5, zh7, h⟩ := bnd h
      have zh7 : f_Y_lookNow H NS BO = some BO_5 := zh7
      have ze8 := R_f_Y_lookNow_3 (d + 15) Y_3 T H2 H RV RU ST NS I0 I1 I2 BO FI RG GU PU MA MN MS OT SC w r5 L Lg zh7
      suffices e : Ev (d + 18, 0, 0, 306, 32, [.val (.ref 64), .val (.int p1), .val (.int p2)], [.ref 768], (126, 120, L, [Y_3, T, H2, H, RV, RU, ST, NS, I0, I1, I2, BO_5, FI, RG, GU, PU, MA, MN, MS, OT, SC], [256, 192, 384, 320, w, 256, 576, 640, 704], Lg)) o from ev_call (fun v μ => (d + 18, 0, 0, 306, 32, [.val (.ref 64), .val (.int p1), .val (.int p2)], v.toList ++ [], μ)) 2 ze8 e (fun n => Eq.refl _)
      obtain ⟨⟨BO_6, RG_7⟩, zh9, h⟩ := bnd h
      have zh9 : f_Rings_search H BO_5 RG p1 = some (BO_6, RG_7) := zh9
      have ze10 := R_f_Rings_search_1 (d + 0) Y_3 T H2 H RV RU ST NS I0 I1 I2 BO_5 FI RG GU PU MA MN MS OT SC 256 192 384 320 w 576 640 704 L Lg p1 zh9
      suffices e : Ev (d + 18, 0, 0, 306, 41, [.val (.ref 64), .val (.int p1), .val (.int p2)], [], (126, 120, L, [Y_3, T, H2, H, RV, RU, ST, NS, I0, I1, I2, BO_6, FI, RG_7, GU, PU, MA, MN, MS, OT, SC], [256, 192, 384, 320, w, 256, 576, 640, 704], Lg)) o from ev_call (fun v μ => (d + 18, 0, 0, 306, 41, [.val (.ref 64), .val (.int p1), .val (.int p2)], v.toList ++ [], μ)) 5 ze10 e (fun n => Eq.refl _)
      by_cases zc11 : p2 ≠ 0
      · have h := itp h zc11
        suffices e : Ev (d + 18, 0, 0, 306, 55, [.val (.ref 64), .val (.int p1), .val (.int p2)], [], (126, 120, L, [Y_3, T, H2, H, RV, RU, ST, NS, I0, I1, I2, BO_6, FI, RG_7, GU, PU, MA, MN, MS, OT, SC], [256, 192, 384, 320, w, 256, 576, 640, 704], Lg)) o from ev_t (c := p2 ≠ 0) _ _ 2  zc11 e (fun n => Eq.refl _)
        have ze12 := Option.some.inj h
        subst ze12
        exact ev_rete 4 ho (fun n => Eq.refl _)
      · have h := itn h zc11
        suffices e : Ev (d + 18, 0, 0, 306, 45, [.val (.ref 64), .val (.int p1), .val (.int p2)], [], (126, 120, L, [Y_3, T, H2, H, RV, RU, ST, NS, I0, I1, I2, BO_6, FI, RG_7, GU, PU, MA, MN, MS, OT, SC], [256, 192, 384, 320, w, 256, 576, 640, 704], Lg)) o from ev_f (c := p2 ≠ 0) _ _ 2  zc11 e (fun n => Eq.refl _)
        have ze13 := Option.some.inj h
        subst ze13
        exact ev_rete 5 ho (fun n => Eq.refl _)
    | succ q2 =>
      have h := itn h (Nat.succ_ne_zero q2)
      have ze14 := Option.some.inj h
      subst ze14
      subst ho
      exact ev_thr (fun v μ => (d + 18, 0, 0, 306, 28, [.val (.ref 64), .val (.int p1), .val (.int p2)], v.toList ++ [], μ)) 1 ze6 (fun n => Eq.refl _) (fun n => rfl)
  obtain ⟨zt15, zh16, zh2⟩ := bnd zh2
  have zj17 : zt15 = .inl () → Ev (d + 18, 1, 8, 306, 24, [.val (.ref 64), .val (.int p1), .val (.int p2)], [.ref 64], (126, 120, L, [Y, T, H2, H, RV, RU, ST, NS, I0, I1, I2, BO, FI, RG, GU, PU, MA, MN, MS, OT, SC], [256, 192, 384, 320, w, r5, 576, 640, 704], Lg)) o := by
    intro ze18
    have zh2 := sum_l zh2 ze18
    exact ev_b 1 (zj3 0 (Option.some.inj zh2) ) (fun n => Eq.refl _)
  by_cases zc19 : p1 < 2
  · have zh16 := itp zh16 zc19
    suffices e : Ev (d + 18, 1, 8, 306, 24, [.val (.ref 64), .val (.int p1), .val (.int p2)], [.ref 64], (126, 120, L, [Y, T, H2, H, RV, RU, ST, NS, I0, I1, I2, BO, FI, RG, GU, PU, MA, MN, MS, OT, SC], [256, 192, 384, 320, w, r5, 576, 640, 704], Lg)) o from ev_t (c := p1 < 2) _ _ 4  zc19 e (fun n => Eq.refl _)
    exact ev_b 0 (zj17  (Option.some.inj zh16).symm ) (fun n => Eq.refl _)
  · have zh16 := itn zh16 zc19
    suffices e : Ev (d + 18, 1, 8, 306, 6, [.val (.ref 64), .val (.int p1), .val (.int p2)], [.ref 64], (126, 120, L, [Y, T, H2, H, RV, RU, ST, NS, I0, I1, I2, BO, FI, RG, GU, PU, MA, MN, MS, OT, SC], [256, 192, 384, 320, w, r5, 576, 640, 704], Lg)) o from ev_f (c := p1 < 2) _ _ 4  zc19 e (fun n => Eq.refl _)
    by_cases zc20 : 4 < p1
    · have zh16 := itp zh16 zc20
      suffices e : Ev (d + 18, 1, 8, 306, 24, [.val (.ref 64), .val (.int p1), .val (.int p2)], [.ref 64], (126, 120, L, [Y, T, H2, H, RV, RU, ST, NS, I0, I1, I2, BO, FI, RG, GU, PU, MA, MN, MS, OT, SC], [256, 192, 384, 320, w, r5, 576, 640, 704], Lg)) o from ev_t (c := 4 < p1) _ _ 3  zc20 e (fun n => Eq.refl _)
      exact ev_b 0 (zj17  (Option.some.inj zh16).symm ) (fun n => Eq.refl _)
    · have zh16 := itn zh16 zc20
      suffices e : Ev (d + 18, 1, 8, 306, 11, [.val (.ref 64), .val (.int p1), .val (.int p2)], [.ref 64], (126, 120, L, [Y, T, H2, H, RV, RU, ST, NS, I0, I1, I2, BO, FI, RG, GU, PU, MA, MN, MS, OT, SC], [256, 192, 384, 320, w, r5, 576, 640, 704], Lg)) o from ev_f (c := 4 < p1) _ _ 3  zc20 e (fun n => Eq.refl _)
      by_cases zc21 : p2 < 0
      · have zh16 := itp zh16 zc21
        suffices e : Ev (d + 18, 1, 8, 306, 24, [.val (.ref 64), .val (.int p1), .val (.int p2)], [.ref 64], (126, 120, L, [Y, T, H2, H, RV, RU, ST, NS, I0, I1, I2, BO, FI, RG, GU, PU, MA, MN, MS, OT, SC], [256, 192, 384, 320, w, r5, 576, 640, 704], Lg)) o from ev_t (c := p2 < 0) _ _ 2  zc21 e (fun n => Eq.refl _)
        exact ev_b 0 (zj17  (Option.some.inj zh16).symm ) (fun n => Eq.refl _)
      · have zh16 := itn zh16 zc21
        suffices e : Ev (d + 18, 1, 8, 306, 15, [.val (.ref 64), .val (.int p1), .val (.int p2)], [.ref 64], (126, 120, L, [Y, T, H2, H, RV, RU, ST, NS, I0, I1, I2, BO, FI, RG, GU, PU, MA, MN, MS, OT, SC], [256, 192, 384, 320, w, r5, 576, 640, 704], Lg)) o from ev_f (c := p2 < 0) _ _ 2  zc21 e (fun n => Eq.refl _)
        by_cases zc22 : 1 < p2
        · have zh16 := itp zh16 zc22
          suffices e : Ev (d + 18, 1, 8, 306, 24, [.val (.ref 64), .val (.int p1), .val (.int p2)], [.ref 64], (126, 120, L, [Y, T, H2, H, RV, RU, ST, NS, I0, I1, I2, BO, FI, RG, GU, PU, MA, MN, MS, OT, SC], [256, 192, 384, 320, w, r5, 576, 640, 704], Lg)) o from ev_t (c := 1 < p2) _ _ 3  zc22 e (fun n => Eq.refl _)
          exact ev_b 0 (zj17  (Option.some.inj zh16).symm ) (fun n => Eq.refl _)
        · have zh16 := itn zh16 zc22
          suffices e : Ev (d + 18, 1, 8, 306, 20, [.val (.ref 64), .val (.int p1), .val (.int p2)], [.ref 64], (126, 120, L, [Y, T, H2, H, RV, RU, ST, NS, I0, I1, I2, BO, FI, RG, GU, PU, MA, MN, MS, OT, SC], [256, 192, 384, 320, w, r5, 576, 640, 704], Lg)) o from ev_f (c := 1 < p2) _ _ 3  zc22 e (fun n => Eq.refl _)
          have zh23 := sum_r zh2 (Option.some.inj zh16).symm
          exact ev_b 2 (zj3 1 (Option.some.inj zh23) ) (fun n => Eq.refl _)
