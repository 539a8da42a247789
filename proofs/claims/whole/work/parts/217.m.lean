/-! printed by program (gen/emitm.py): the reference's methods run as their functions say -/
set_option maxRecDepth 1000000 in
set_option maxHeartbeats 4000000 in
theorem R_f_Target_copy_0 (d : Nat) (Y T HA HB RA RB SB SA I0 I1 I2 BO FI RG GU PU MA MN MS OT SC : Nat → Nat → Int32) (r0 r1 r2 r3 w r5 r6 r7 r8 : Nat) (L : Nat) (Lg : Int64) {r : (Nat → Nat → Int32)} (h : f_Target_copy SB SA = some r) : Ev (d + 1, 0, 0, 281, 0, [.val (.ref 515), .val (.ref 448)], [], (126, 120, L, [Y, T, HA, HB, RA, RB, SB, SA, I0, I1, I2, BO, FI, RG, GU, PU, MA, MN, MS, OT, SC], [r0, r1, r2, r3, w, r5, r6, r7, r8], Lg)) ((0, none, (126, 120, L, [Y, T, HA, HB, RA, RB, SB, r, I0, I1, I2, BO, FI, RG, GU, PU, MA, MN, MS, OT, SC], [r0, r1, r2, r3, w, r5, r6, r7, r8], Lg)) : AOut) := by
  suffices key : ∀ o : AOut, ((0, none, (126, 120, L, [Y, T, HA, HB, RA, RB, SB, r, I0, I1, I2, BO, FI, RG, GU, PU, MA, MN, MS, OT, SC], [r0, r1, r2, r3, w, r5, r6, r7, r8], Lg)) : AOut) = o → Ev (d + 1, 0, 0, 281, 0, [.val (.ref 515), .val (.ref 448)], [], (126, 120, L, [Y, T, HA, HB, RA, RB, SB, SA, I0, I1, I2, BO, FI, RG, GU, PU, MA, MN, MS, OT, SC], [r0, r1, r2, r3, w, r5, r6, r7, r8], Lg)) o from key _ rfl
  intro o ho
  by_cases zc1 : ((0 : Int32) < 0 ∨ (0 : Int32) < 0 ∨ (10 : Int32) < 0 ∨ 10 < (0 : Int32).toNatClampNeg + (10 : Int32).toNatClampNeg ∨ 10 < (0 : Int32).toNatClampNeg + (10 : Int32).toNatClampNeg)
  · exact nos (itp h zc1)
  have h := itn h zc1
  suffices e : Ev (d + 1, 0, 0, 281, 23, [.val (.ref 515), .val (.ref 448)], [], (126, 120, L, [Y, T, HA, HB, RA, RB, SB, (u1 (u2 SA 3 0 (SB 0 0)) 4 (a_cpy (SB 1) ((u2 SA 3 0 (SB 0 0)) 4) (0 : Int32).toNatClampNeg (0 : Int32).toNatClampNeg (10 : Int32).toNatClampNeg)), I0, I1, I2, BO, FI, RG, GU, PU, MA, MN, MS, OT, SC], [r0, r1, r2, r3, w, r5, r6, r7, r8], Lg)) o from ev_d (c := ((0 : Int32) < 0 ∨ (0 : Int32) < 0 ∨ (10 : Int32) < 0 ∨ 10 < (0 : Int32).toNatClampNeg + (10 : Int32).toNatClampNeg ∨ 10 < (0 : Int32).toNatClampNeg + (10 : Int32).toNatClampNeg)) _ 12 zc1 e (fun n => Eq.refl _)
  by_cases zc2 : ((0 : Int32) < 0 ∨ (0 : Int32) < 0 ∨ (10 : Int32) < 0 ∨ 10 < (0 : Int32).toNatClampNeg + (10 : Int32).toNatClampNeg ∨ 10 < (0 : Int32).toNatClampNeg + (10 : Int32).toNatClampNeg)
  · exact nos (itp h zc2)
  have h := itn h zc2
  suffices e : Ev (d + 1, 0, 0, 281, 38, [.val (.ref 515), .val (.ref 448)], [], (126, 120, L, [Y, T, HA, HB, RA, RB, SB, (u1 (u1 (u2 SA 3 0 (SB 0 0)) 4 (a_cpy (SB 1) ((u2 SA 3 0 (SB 0 0)) 4) (0 : Int32).toNatClampNeg (0 : Int32).toNatClampNeg (10 : Int32).toNatClampNeg)) 5 (a_cpy (SB 2) ((u1 (u2 SA 3 0 (SB 0 0)) 4 (a_cpy (SB 1) ((u2 SA 3 0 (SB 0 0)) 4) (0 : Int32).toNatClampNeg (0 : Int32).toNatClampNeg (10 : Int32).toNatClampNeg)) 5) (0 : Int32).toNatClampNeg (0 : Int32).toNatClampNeg (10 : Int32).toNatClampNeg)), I0, I1, I2, BO, FI, RG, GU, PU, MA, MN, MS, OT, SC], [r0, r1, r2, r3, w, r5, r6, r7, r8], Lg)) o from ev_d (c := ((0 : Int32) < 0 ∨ (0 : Int32) < 0 ∨ (10 : Int32) < 0 ∨ 10 < (0 : Int32).toNatClampNeg + (10 : Int32).toNatClampNeg ∨ 10 < (0 : Int32).toNatClampNeg + (10 : Int32).toNatClampNeg)) _ 8 zc2 e (fun n => Eq.refl _)
  have ze3 := Option.some.inj h
  subst ze3
  exact ev_rete 1 ho (fun n => Eq.refl _)
set_option maxRecDepth 1000000 in
set_option maxHeartbeats 4000000 in
theorem R_f_Y_target_0 (d : Nat) (Y T H H2 RU RV ST NS I0 I1 I2 BO FI RG GU PU MA MN MS OT SC : Nat → Nat → Int32) (w r5 : Nat) (L : Nat) (Lg : Int64) (p1 : Int32) {r : Nat × Int32 × (Nat → Nat → Int32) × (Nat → Nat → Int32) × (Nat → Nat → Int32) × (Nat → Nat → Int32) × Nat} (h : f_Y_target Y T H ST NS w p1 = some r) : Ev (d + 8, 1, 8, 285, 0, [.val (.ref 64), .val (.int p1)], [], (126, 120, L, [Y, T, H, H2, RU, RV, ST, NS, I0, I1, I2, BO, FI, RG, GU, PU, MA, MN, MS, OT, SC], [192, 256, 320, 384, w, r5, 576, 640, 704], Lg)) ((r.1, a_ov r.1 (.int r.2.1), (126, 120, L, [r.2.2.1, r.2.2.2.1, H, H2, RU, RV, r.2.2.2.2.1, r.2.2.2.2.2.1, I0, I1, I2, BO, FI, RG, GU, PU, MA, MN, MS, OT, SC], [192, 256, 320, 384, r.2.2.2.2.2.2, r5, 576, 640, 704], Lg)) : AOut) := by
  suffices key : ∀ o : AOut, ((r.1, a_ov r.1 (.int r.2.1), (126, 120, L, [r.2.2.1, r.2.2.2.1, H, H2, RU, RV, r.2.2.2.2.1, r.2.2.2.2.2.1, I0, I1, I2, BO, FI, RG, GU, PU, MA, MN, MS, OT, SC], [192, 256, 320, 384, r.2.2.2.2.2.2, r5, 576, 640, 704], Lg)) : AOut) = o → Ev (d + 8, 1, 8, 285, 0, [.val (.ref 64), .val (.int p1)], [], (126, 120, L, [Y, T, H, H2, RU, RV, ST, NS, I0, I1, I2, BO, FI, RG, GU, PU, MA, MN, MS, OT, SC], [192, 256, 320, 384, w, r5, 576, 640, 704], Lg)) o from key _ rfl
  intro o ho
  obtain ⟨zt1, zh2, h⟩ := bnd h
  have zj3 : ∀ (v1 : Int32), v1 = zt1 → Ev (d + 8, 1, 8, 285, 27, [.val (.ref 64), .val (.int p1)], [.int v1, .ref 64], (126, 120, L, [Y, T, H, H2, RU, RV, ST, NS, I0, I1, I2, BO, FI, RG, GU, PU, MA, MN, MS, OT, SC], [192, 256, 320, 384, w, r5, 576, 640, 704], Lg)) o := by
    intro v1 ze4
    subst ze4
    obtain ⟨⟨q2, Y_3⟩, zh5, h⟩ := bnd h
    have zh5 : f_Y_refuseUnless Y v1 = some (q2, Y_3) := zh5
    have ze6 := R_f_Y_refuseUnless_0 (d + 7) Y T H H2 RU RV ST NS I0 I1 I2 BO FI RG GU PU MA MN MS OT SC w r5 L Lg v1 zh5
    cases q2 with
    | zero =>
      have h := itp h rfl
      suffices e : Ev (d + 8, 0, 0, 285, 30, [.val (.ref 64), .val (.int p1)], [], (126, 120, L, [Y_3, T, H, H2, RU, RV, ST, NS, I0, I1, I2, BO, FI, RG, GU, PU, MA, MN, MS, OT, SC], [192, 256, 320, 384, w, r5, 576, 640, 704], Lg)) o from ev_call (fun v μ => (d + 8, 0, 0, 285, 30, [.val (.ref 64), .val (.int p1)], v.toList ++ [], μ)) 1 ze6 e (fun n => Eq.refl _)
      obtain ⟨⟨T_4, w5⟩, zh7, h⟩ := bnd h
      have zh7 : f_Tape_open T p1 = some (T_4, w5) := zh7
      have ze8 := R_f_Tape_open_0 (d + 1) Y_3 T H H2 RU RV ST NS I0 I1 I2 BO FI RG GU PU MA MN MS OT SC 192 256 320 384 w r5 576 640 704 L Lg p1 zh7
      suffices e : Ev (d + 8, 0, 0, 285, 38, [.val (.ref 64), .val (.int p1)], [], (126, 120, L, [Y_3, T_4, H, H2, RU, RV, ST, NS, I0, I1, I2, BO, FI, RG, GU, PU, MA, MN, MS, OT, SC], [192, 256, 320, 384, w5, r5, 576, 640, 704], Lg)) o from ev_call (fun v μ => (d + 8, 0, 0, 285, 38, [.val (.ref 64), .val (.int p1)], v.toList ++ [], μ)) 4 ze8 e (fun n => Eq.refl _)
      suffices e : Ev (d + 8, 0, 0, 285, 50, [.val (.ref 64), .val (.int p1)], [.ref 192, .ref 128, .ref 448], (126, 120, L, [Y_3, T_4, H, H2, RU, RV, ST, NS, I0, I1, I2, BO, FI, RG, GU, PU, MA, MN, MS, OT, SC], [192, 256, 320, 384, w5, r5, 576, 640, 704], Lg)) o from ev_b 6 e (fun n => Eq.refl _)
      obtain ⟨⟨T_6, ST_7, w8⟩, zh9, h⟩ := bnd h
      have zh9 : f_Target_read T_4 H ST w5 = some (T_6, ST_7, w8) := zh9
      have ze10 := R_f_Target_read_0 (d + 0) Y_3 T_4 H H2 RU RV ST NS I0 I1 I2 BO FI RG GU PU MA MN MS OT SC 192 256 320 384 w5 r5 576 640 704 L Lg zh9
      suffices e : Ev (d + 8, 0, 0, 285, 53, [.val (.ref 64), .val (.int p1)], [], (126, 120, L, [Y_3, T_6, H, H2, RU, RV, ST_7, NS, I0, I1, I2, BO, FI, RG, GU, PU, MA, MN, MS, OT, SC], [192, 256, 320, 384, w8, r5, 576, 640, 704], Lg)) o from ev_call (fun v μ => (d + 8, 0, 0, 285, 53, [.val (.ref 64), .val (.int p1)], v.toList ++ [], μ)) 1 ze10 e (fun n => Eq.refl _)
      obtain ⟨T_9, zh11, h⟩ := bnd h
      have zh11 : f_Tape_empty T_6 = some T_9 := zh11
      have ze12 := R_f_Tape_empty_0 (d + 7) Y_3 T_6 H H2 RU RV ST_7 NS I0 I1 I2 BO FI RG GU PU MA MN MS OT SC 192 256 320 384 w8 r5 576 640 704 L Lg zh11
      suffices e : Ev (d + 8, 0, 0, 285, 60, [.val (.ref 64), .val (.int p1)], [], (126, 120, L, [Y_3, T_9, H, H2, RU, RV, ST_7, NS, I0, I1, I2, BO, FI, RG, GU, PU, MA, MN, MS, OT, SC], [192, 256, 320, 384, w8, r5, 576, 640, 704], Lg)) o from ev_call (fun v μ => (d + 8, 0, 0, 285, 60, [.val (.ref 64), .val (.int p1)], v.toList ++ [], μ)) 3 ze12 e (fun n => Eq.refl _)
      obtain ⟨x10, zh13, h⟩ := bnd h
      have zh13 : f_Tape_failed T_9 = some x10 := zh13
      have ze14 := R_f_Tape_failed_0 (d + 7) Y_3 T_9 H H2 RU RV ST_7 NS I0 I1 I2 BO FI RG GU PU MA MN MS OT SC 192 256 320 384 w8 r5 576 640 704 L Lg zh13
      suffices e : Ev (d + 8, 0, 0, 285, 67, [.val (.ref 64), .val (.int p1)], [.int x10], (126, 120, L, [Y_3, T_9, H, H2, RU, RV, ST_7, NS, I0, I1, I2, BO, FI, RG, GU, PU, MA, MN, MS, OT, SC], [192, 256, 320, 384, w8, r5, 576, 640, 704], Lg)) o from ev_call (fun v μ => (d + 8, 0, 0, 285, 67, [.val (.ref 64), .val (.int p1)], v.toList ++ [], μ)) 3 ze14 e (fun n => Eq.refl _)
      by_cases zc15 : x10 = 0
      · have h := itp h zc15
        suffices e : Ev (d + 8, 0, 0, 285, 81, [.val (.ref 64), .val (.int p1)], [], (126, 120, L, [Y_3, T_9, H, H2, RU, RV, ST_7, NS, I0, I1, I2, BO, FI, RG, GU, PU, MA, MN, MS, OT, SC], [192, 256, 320, 384, w8, r5, 576, 640, 704], Lg)) o from ev_t (c := x10 = 0) _ _ 1  zc15 e (fun n => Eq.refl _)
        obtain ⟨NS_11, zh16, h⟩ := bnd h
        have zh16 : f_Target_copy ST_7 NS = some NS_11 := zh16
        have ze17 := R_f_Target_copy_0 (d + 6) Y_3 T_9 H H2 RU RV ST_7 NS I0 I1 I2 BO FI RG GU PU MA MN MS OT SC 192 256 320 384 w8 r5 576 640 704 L Lg zh16
        suffices e : Ev (d + 8, 0, 0, 285, 95, [.val (.ref 64), .val (.int p1)], [], (126, 120, L, [Y_3, T_9, H, H2, RU, RV, ST_7, NS_11, I0, I1, I2, BO, FI, RG, GU, PU, MA, MN, MS, OT, SC], [192, 256, 320, 384, w8, r5, 576, 640, 704], Lg)) o from ev_call (fun v μ => (d + 8, 0, 0, 285, 95, [.val (.ref 64), .val (.int p1)], v.toList ++ [], μ)) 6 ze17 e (fun n => Eq.refl _)
        have ze18 := Option.some.inj h
        subst ze18
        exact ev_rete 5 ho (fun n => Eq.refl _)
      · have h := itn h zc15
        suffices e : Ev (d + 8, 0, 0, 285, 70, [.val (.ref 64), .val (.int p1)], [], (126, 120, L, [Y_3, T_9, H, H2, RU, RV, ST_7, NS, I0, I1, I2, BO, FI, RG, GU, PU, MA, MN, MS, OT, SC], [192, 256, 320, 384, w8, r5, 576, 640, 704], Lg)) o from ev_f (c := x10 = 0) _ _ 1  zc15 e (fun n => Eq.refl _)
        have ze19 := Option.some.inj h
        subst ze19
        exact ev_rete 6 ho (fun n => Eq.refl _)
    | succ q2 =>
      have h := itn h (Nat.succ_ne_zero q2)
      have ze20 := Option.some.inj h
      subst ze20
      subst ho
      exact ev_thr (fun v μ => (d + 8, 0, 0, 285, 30, [.val (.ref 64), .val (.int p1)], v.toList ++ [], μ)) 1 ze6 (fun n => Eq.refl _) (fun n => rfl)
  obtain ⟨zt21, zh22, zh2⟩ := bnd zh2
  have zj23 : zt21 = .inl () → Ev (d + 8, 1, 8, 285, 26, [.val (.ref 64), .val (.int p1)], [.ref 64], (126, 120, L, [Y, T, H, H2, RU, RV, ST, NS, I0, I1, I2, BO, FI, RG, GU, PU, MA, MN, MS, OT, SC], [192, 256, 320, 384, w, r5, 576, 640, 704], Lg)) o := by
    intro ze24
    have zh2 := sum_l zh2 ze24
    exact ev_b 1 (zj3 0 (Option.some.inj zh2) ) (fun n => Eq.refl _)
  by_cases zc25 : p1 < 0
  · have zh22 := itp zh22 zc25
    suffices e : Ev (d + 8, 1, 8, 285, 26, [.val (.ref 64), .val (.int p1)], [.ref 64], (126, 120, L, [Y, T, H, H2, RU, RV, ST, NS, I0, I1, I2, BO, FI, RG, GU, PU, MA, MN, MS, OT, SC], [192, 256, 320, 384, w, r5, 576, 640, 704], Lg)) o from ev_t (c := p1 < 0) _ _ 3  zc25 e (fun n => Eq.refl _)
    exact ev_b 0 (zj23  (Option.some.inj zh22).symm ) (fun n => Eq.refl _)
  · have zh22 := itn zh22 zc25
    suffices e : Ev (d + 8, 1, 8, 285, 5, [.val (.ref 64), .val (.int p1)], [.ref 64], (126, 120, L, [Y, T, H, H2, RU, RV, ST, NS, I0, I1, I2, BO, FI, RG, GU, PU, MA, MN, MS, OT, SC], [192, 256, 320, 384, w, r5, 576, 640, 704], Lg)) o from ev_f (c := p1 < 0) _ _ 3  zc25 e (fun n => Eq.refl _)
    by_cases zc26 : (T 0 1) < p1
    · have zh22 := itp zh22 zc26
      suffices e : Ev (d + 8, 1, 8, 285, 26, [.val (.ref 64), .val (.int p1)], [.ref 64], (126, 120, L, [Y, T, H, H2, RU, RV, ST, NS, I0, I1, I2, BO, FI, RG, GU, PU, MA, MN, MS, OT, SC], [192, 256, 320, 384, w, r5, 576, 640, 704], Lg)) o from ev_t (c := (T 0 1) < p1) _ _ 5  zc26 e (fun n => Eq.refl _)
      exact ev_b 0 (zj23  (Option.some.inj zh22).symm ) (fun n => Eq.refl _)
    · have zh22 := itn zh22 zc26
      suffices e : Ev (d + 8, 1, 8, 285, 16, [.val (.ref 64), .val (.int p1)], [.ref 64], (126, 120, L, [Y, T, H, H2, RU, RV, ST, NS, I0, I1, I2, BO, FI, RG, GU, PU, MA, MN, MS, OT, SC], [192, 256, 320, 384, w, r5, 576, 640, 704], Lg)) o from ev_f (c := (T 0 1) < p1) _ _ 5  zc26 e (fun n => Eq.refl _)
      by_cases zc27 : 120 < p1
      · have zh22 := itp zh22 zc27
        suffices e : Ev (d + 8, 1, 8, 285, 26, [.val (.ref 64), .val (.int p1)], [.ref 64], (126, 120, L, [Y, T, H, H2, RU, RV, ST, NS, I0, I1, I2, BO, FI, RG, GU, PU, MA, MN, MS, OT, SC], [192, 256, 320, 384, w, r5, 576, 640, 704], Lg)) o from ev_t (c := 120 < p1) _ _ 3  zc27 e (fun n => Eq.refl _)
        exact ev_b 0 (zj23  (Option.some.inj zh22).symm ) (fun n => Eq.refl _)
      · have zh22 := itn zh22 zc27
        suffices e : Ev (d + 8, 1, 8, 285, 22, [.val (.ref 64), .val (.int p1)], [.ref 64], (126, 120, L, [Y, T, H, H2, RU, RV, ST, NS, I0, I1, I2, BO, FI, RG, GU, PU, MA, MN, MS, OT, SC], [192, 256, 320, 384, w, r5, 576, 640, 704], Lg)) o from ev_f (c := 120 < p1) _ _ 3  zc27 e (fun n => Eq.refl _)
        have zh28 := sum_r zh2 (Option.some.inj zh22).symm
        exact ev_b 2 (zj3 1 (Option.some.inj zh28) ) (fun n => Eq.refl _)
set_option maxRecDepth 1000000 in
set_option maxHeartbeats 4000000 in
theorem R_f_Y_target_1 (d : Nat) (Y T H H2 RV RU ST NS I0 I1 I2 BO FI RG GU PU MA MN MS OT SC : Nat → Nat → Int32) (w r5 : Nat) (L : Nat) (Lg : Int64) (p1 : Int32) {r : Nat × Int32 × (Nat → Nat → Int32) × (Nat → Nat → Int32) × (Nat → Nat → Int32) × (Nat → Nat → Int32) × Nat} (h : f_Y_target Y T H ST NS w p1 = some r) : Ev (d + 8, 1, 8, 285, 0, [.val (.ref 64), .val (.int p1)], [], (126, 120, L, [Y, T, H, H2, RV, RU, ST, NS, I0, I1, I2, BO, FI, RG, GU, PU, MA, MN, MS, OT, SC], [192, 256, 384, 320, w, r5, 576, 640, 704], Lg)) ((r.1, a_ov r.1 (.int r.2.1), (126, 120, L, [r.2.2.1, r.2.2.2.1, H, H2, RV, RU, r.2.2.2.2.1, r.2.2.2.2.2.1, I0, I1, I2, BO, FI, RG, GU, PU, MA, MN, MS, OT, SC], [192, 256, 384, 320, r.2.2.2.2.2.2, r5, 576, 640, 704], Lg)) : AOut) := by
  suffices key : ∀ o : AOut, ((r.1, a_ov r.1 (.int r.2.1), (126, 120, L, [r.2.2.1, r.2.2.2.1, H, H2, RV, RU, r.2.2.2.2.1, r.2.2.2.2.2.1, I0, I1, I2, BO, FI, RG, GU, PU, MA, MN, MS, OT, SC], [192, 256, 384, 320, r.2.2.2.2.2.2, r5, 576, 640, 704], Lg)) : AOut) = o → Ev (d + 8, 1, 8, 285, 0, [.val (.ref 64), .val (.int p1)], [], (126, 120, L, [Y, T, H, H2, RV, RU, ST, NS, I0, I1, I2, BO, FI, RG, GU, PU, MA, MN, MS, OT, SC], [192, 256, 384, 320, w, r5, 576, 640, 704], Lg)) o from key _ rfl
  intro o ho
  obtain ⟨zt1, zh2, h⟩ := bnd h
  have zj3 : ∀ (v1 : Int32), v1 = zt1 → Ev (d + 8, 1, 8, 285, 27, [.val (.ref 64), .val (.int p1)], [.int v1, .ref 64], (126, 120, L, [Y, T, H, H2, RV, RU, ST, NS, I0, I1, I2, BO, FI, RG, GU, PU, MA, MN, MS, OT, SC], [192, 256, 384, 320, w, r5, 576, 640, 704], Lg)) o := by
    intro v1 ze4
    subst ze4
    obtain ⟨⟨q2, Y_3⟩, zh5, h⟩ := bnd h
    have zh5 : f_Y_refuseUnless Y v1 = some (q2, Y_3) := zh5
    have ze6 := R_f_Y_refuseUnless_1 (d + 7) Y T H H2 RV RU ST NS I0 I1 I2 BO FI RG GU PU MA MN MS OT SC w r5 L Lg v1 zh5
    cases q2 with
    | zero =>
      have h := itp h rfl
      suffices e : Ev (d + 8, 0, 0, 285, 30, [.val (.ref 64), .val (.int p1)], [], (126, 120, L, [Y_3, T, H, H2, RV, RU, ST, NS, I0, I1, I2, BO, FI, RG, GU, PU, MA, MN, MS, OT, SC], [192, 256, 384, 320, w, r5, 576, 640, 704], Lg)) o from ev_call (fun v μ => (d + 8, 0, 0, 285, 30, [.val (.ref 64), .val (.int p1)], v.toList ++ [], μ)) 1 ze6 e (fun n => Eq.refl _)
      obtain ⟨⟨T_4, w5⟩, zh7, h⟩ := bnd h
      have zh7 : f_Tape_open T p1 = some (T_4, w5) := zh7
      have ze8 := R_f_Tape_open_0 (d + 1) Y_3 T H H2 RV RU ST NS I0 I1 I2 BO FI RG GU PU MA MN MS OT SC 192 256 384 320 w r5 576 640 704 L Lg p1 zh7
      suffices e : Ev (d + 8, 0, 0, 285, 38, [.val (.ref 64), .val (.int p1)], [], (126, 120, L, [Y_3, T_4, H, H2, RV, RU, ST, NS, I0, I1, I2, BO, FI, RG, GU, PU, MA, MN, MS, OT, SC], [192, 256, 384, 320, w5, r5, 576, 640, 704], Lg)) o from ev_call (fun v μ => (d + 8, 0, 0, 285, 38, [.val (.ref 64), .val (.int p1)], v.toList ++ [], μ)) 4 ze8 e (fun n => Eq.refl _)
      suffices e : Ev (d + 8, 0, 0, 285, 50, [.val (.ref 64), .val (.int p1)], [.ref 192, .ref 128, .ref 448], (126, 120, L, [Y_3, T_4, H, H2, RV, RU, ST, NS, I0, I1, I2, BO, FI, RG, GU, PU, MA, MN, MS, OT, SC], [192, 256, 384, 320, w5, r5, 576, 640, 704], Lg)) o from ev_b 6 e (fun n => Eq.refl _)
      obtain ⟨⟨T_6, ST_7, w8⟩, zh9, h⟩ := bnd h
      have zh9 : f_Target_read T_4 H ST w5 = some (T_6, ST_7, w8) := zh9
      have ze10 := R_f_Target_read_0 (d + 0) Y_3 T_4 H H2 RV RU ST NS I0 I1 I2 BO FI RG GU PU MA MN MS OT SC 192 256 384 320 w5 r5 576 640 704 L Lg zh9
      suffices e : Ev (d + 8, 0, 0, 285, 53, [.val (.ref 64), .val (.int p1)], [], (126, 120, L, [Y_3, T_6, H, H2, RV, RU, ST_7, NS, I0, I1, I2, BO, FI, RG, GU, PU, MA, MN, MS, OT, SC], [192, 256, 384, 320, w8, r5, 576, 640, 704], Lg)) o from ev_call (fun v μ => (d + 8, 0, 0, 285, 53, [.val (.ref 64), .val (.int p1)], v.toList ++ [], μ)) 1 ze10 e (fun n => Eq.refl _)
      obtain ⟨T_9, zh11, h⟩ := bnd h
      have zh11 : f_Tape_empty T_6 = some T_9 := zh11
      have ze12 := R_f_Tape_empty_0 (d + 7) Y_3 T_6 H H2 RV RU ST_7 NS I0 I1 I2 BO FI RG GU PU MA MN MS OT SC 192 256 384 320 w8 r5 576 640 704 L Lg zh11
      suffices e : Ev (d + 8, 0, 0, 285, 60, [.val (.ref 64), .val (.int p1)], [], (126, 120, L, [Y_3, T_9, H, H2, RV, RU, ST_7, NS, I0, I1, I2, BO, FI, RG, GU, PU, MA, MN, MS, OT, SC], [192, 256, 384, 320, w8, r5, 576, 640, 704], Lg)) o from ev_call (fun v μ => (d + 8, 0, 0, 285, 60, [.val (.ref 64), .val (.int p1)], v.toList ++ [], μ)) 3 ze12 e (fun n => Eq.refl _)
      obtain ⟨x10, zh13, h⟩ := bnd h
      have zh13 : f_Tape_failed T_9 = some x10 := zh13
      have ze14 := R_f_Tape_failed_0 (d + 7) Y_3 T_9 H H2 RV RU ST_7 NS I0 I1 I2 BO FI RG GU PU MA MN MS OT SC 192 256 384 320 w8 r5 576 640 704 L Lg zh13
      suffices e : Ev (d + 8, 0, 0, 285, 67, [.val (.ref 64), .val (.int p1)], [.int x10], (126, 120, L, [Y_3, T_9, H, H2, RV, RU, ST_7, NS, I0, I1, I2, BO, FI, RG, GU, PU, MA, MN, MS, OT, SC], [192, 256, 384, 320, w8, r5, 576, 640, 704], Lg)) o from ev_call (fun v μ => (d + 8, 0, 0, 285, 67, [.val (.ref 64), .val (.int p1)], v.toList ++ [], μ)) 3 ze14 e (fun n => Eq.refl _)
      by_cases zc15 : x10 = 0
      · have h := itp h zc15
        suffices e : Ev (d + 8, 0, 0, 285, 81, [.val (.ref 64), .val (.int p1)], [], (126, 120, L, [Y_3, T_9, H, H2, RV, RU, ST_7, NS, I0, I1, I2, BO, FI, RG, GU, PU, MA, MN, MS, OT, SC], [192, 256, 384, 320, w8, r5, 576, 640, 704], Lg)) o from ev_t (c := x10 = 0) _ _ 1  zc15 e (fun n => Eq.refl _)
        obtain ⟨NS_11, zh16, h⟩ := bnd h
        have zh16 : f_Target_copy ST_7 NS = some NS_11 := zh16
        have ze17 := R_f_Target_copy_0 (d + 6) Y_3 T_9 H H2 RV RU ST_7 NS I0 I1 I2 BO FI RG GU PU MA MN MS OT SC 192 256 384 320 w8 r5 576 640 704 L Lg zh16
        suffices e : Ev (d + 8, 0, 0, 285, 95, [.val (.ref 64), .val (.int p1)], [], (126, 120, L, [Y_3, T_9, H, H2, RV, RU, ST_7, NS_11, I0, I1, I2, BO, FI, RG, GU, PU, MA, MN, MS, OT, SC], [192, 256, 384, 320, w8, r5, 576, 640, 704], Lg)) o from ev_call (fun v μ => (d + 8, 0, 0, 285, 95, [.val (.ref 64), .val (.int p1)], v.toList ++ [], μ)) 6 ze17 e (fun n => Eq.refl _)
        have ze18 := Option.some.inj h
        subst ze18
        exact ev_rete 5 ho (fun n => Eq.refl _)
      · have h := itn h zc15
        suffices e : Ev (d + 8, 0, 0, 285, 70, [.val (.ref 64), .val (.int p1)], [], (126, 120, L, [Y_3, T_9, H, H2, RV, RU, ST_7, NS, I0, I1, I2, BO, FI, RG, GU, PU, MA, MN, MS, OT, SC], [192, 256, 384, 320, w8, r5, 576, 640, 704], Lg)) o from ev_f (c := x10 = 0) _ _ 1  zc15 e (fun n => Eq.refl _)
        have ze19 := Option.some.inj h
        subst ze19
        exact ev_rete 6 ho (fun n => Eq.refl _)
    | succ q2 =>
      have h := itn h (Nat.succ_ne_zero q2)
      have ze20 := Option.some.inj h
      subst ze20
      subst ho
      exact ev_thr (fun v μ => (d + 8, 0, 0, 285, 30, [.val (.ref 64), .val (.int p1)], v.toList ++ [], μ)) 1 ze6 (fun n => Eq.refl _) (fun n => rfl)
  obtain ⟨zt21, zh22, zh2⟩ := bnd zh2
  have zj23 : zt21 = .inl () → Ev (d + 8, 1, 8, 285, 26, [.val (.ref 64), .val (.int p1)], [.ref 64], (126, 120, L, [Y, T, H, H2, RV, RU, ST, NS, I0, I1, I2, BO, FI, RG, GU, PU, MA, MN, MS, OT, SC], [192, 256, 384, 320, w, r5, 576, 640, 704], Lg)) o := by
    intro ze24
    have zh2 := sum_l zh2 ze24
    exact ev_b 1 (zj3 0 (Option.some.inj zh2) ) (fun n => Eq.refl _)
  by_cases zc25 : p1 < 0
  · have zh22 := itp zh22 zc25
    suffices e : Ev (d + 8, 1, 8, 285, 26, [.val (.ref 64), .val (.int p1)], [.ref 64], (126, 120, L, [Y, T, H, H2, RV, RU, ST, NS, I0, I1, I2, BO, FI, RG, GU, PU, MA, MN, MS, OT, SC], [192, 256, 384, 320, w, r5, 576, 640, 704], Lg)) o from ev_t (c := p1 < 0) _ _ 3  zc25 e (fun n => Eq.refl _)
    exact ev_b 0 (zj23  (Option.some.inj zh22).symm ) (fun n => Eq.refl _)
  · have zh22 := itn zh22 zc25
    suffices e : Ev (d + 8, 1, 8, 285, 5, [.val (.ref 64), .val (.int p1)], [.ref 64], (126, 120, L, [Y, T, H, H2, RV, RU, ST, NS, I0, I1, I2, BO, FI, RG, GU, PU, MA, MN, MS, OT, SC], [192, 256, 384, 320, w, r5, 576, 640, 704], Lg)) o from ev_f (c := p1 < 0) _ _ 3  zc25 e (fun n => Eq.refl _)
    by_cases zc26 : (T 0 1) < p1
    · have zh22 := itp zh22 zc26
      suffices e : Ev (d + 8, 1, 8, 285, 26, [.val (.ref 64), .val (.int p1)], [.ref 64], (126, 120, L, [Y, T, H, H2, RV, RU, ST, NS, I0, I1, I2, BO, FI, RG, GU, PU, MA, MN, MS, OT, SC], [192, 256, 384, 320, w, r5, 576, 640, 704], Lg)) o from ev_t (c := (T 0 1) < p1) _ _ 5  zc26 e (fun n => Eq.refl _)
      exact ev_b 0 (zj23  (Option.some.inj zh22).symm ) (fun n => Eq.refl _)
    · have zh22 := itn zh22 zc26
      suffices e : Ev (d + 8, 1, 8, 285, 16, [.val (.ref 64), .val (.int p1)], [.ref 64], (126, 120, L, [Y, T, H, H2, RV, RU, ST, NS, I0, I1, I2, BO, FI, RG, GU, PU, MA, MN, MS, OT, SC], [192, 256, 384, 320, w, r5, 576, 640, 704], Lg)) o from ev_f (c := (T 0 1) < p1) _ _ 5  zc26 e (fun n => Eq.refl _)
      by_cases zc27 : 120 < p1
      · have zh22 := itp zh22 zc27
        suffices e : Ev (d + 8, 1, 8, 285, 26, [.val (.ref 64), .val (.int p1)], [.ref 64], (126, 120, L, [Y, T, H, H2, RV, RU, ST, NS, I0, I1, I2, BO, FI, RG, GU, PU, MA, MN, MS, OT, SC], [192, 256, 384, 320, w, r5, 576, 640, 704], Lg)) o from ev_t (c := 120 < p1) _ _ 3  zc27 e (fun n => Eq.refl _)
        exact ev_b 0 (zj23  (Option.some.inj zh22).symm ) (fun n => Eq.refl _)
      · have zh22 := itn zh22 zc27
        suffices e : Ev (d + 8, 1, 8, 285, 22, [.val (.ref 64), .val (.int p1)], [.ref 64], (126, 120, L, [Y, T, H, H2, RV, RU, ST, NS, I0, I1, I2, BO, FI, RG, GU, PU, MA, MN, MS, OT, SC], [192, 256, 384, 320, w, r5, 576, 640, 704], Lg)) o from ev_f (c := 120 < p1) _ _ 3  zc27 e (fun n => Eq.refl _)
        have zh28 := sum_r zh2 (Option.some.inj zh22).symm
        exact ev_b 2 (zj3 1 (Option.some.inj zh28) ) (fun n => Eq.refl _)
set_option maxRecDepth 1000000 in
set_option maxHeartbeats 4000000 in
theorem R_f_Target_read_1 (d : Nat) (Y T H2 H RA RB ST NS I0 I1 I2 BO FI RG GU PU MA MN MS OT SC : Nat → Nat → Int32) (r0 r1 r2 r3 w r5 r6 r7 r8 : Nat) (L : Nat) (Lg : Int64) {r : (Nat → Nat → Int32) × (Nat → Nat → Int32) × Nat} (h : f_Target_read T H ST w = some r) : Ev (d + 7, 0, 0, 280, 0, [.val (.ref 448), .val (.ref 128), .val (.ref 256), .val a_unk, .val a_unk, .val a_unk, .val a_unk, .val a_unk], [], (126, 120, L, [Y, T, H2, H, RA, RB, ST, NS, I0, I1, I2, BO, FI, RG, GU, PU, MA, MN, MS, OT, SC], [r0, r1, r2, r3, w, r5, r6, r7, r8], Lg)) ((0, none, (126, 120, L, [Y, r.1, H2, H, RA, RB, r.2.1, NS, I0, I1, I2, BO, FI, RG, GU, PU, MA, MN, MS, OT, SC], [r0, r1, r2, r3, r.2.2, r5, r6, r7, r8], Lg)) : AOut) := by
  suffices key : ∀ o : AOut, ((0, none, (126, 120, L, [Y, r.1, H2, H, RA, RB, r.2.1, NS, I0, I1, I2, BO, FI, RG, GU, PU, MA, MN, MS, OT, SC], [r0, r1, r2, r3, r.2.2, r5, r6, r7, r8], Lg)) : AOut) = o → Ev (d + 7, 0, 0, 280, 0, [.val (.ref 448), .val (.ref 128), .val (.ref 256), .val a_unk, .val a_unk, .val a_unk, .val a_unk, .val a_unk], [], (126, 120, L, [Y, T, H2, H, RA, RB, ST, NS, I0, I1, I2, BO, FI, RG, GU, PU, MA, MN, MS, OT, SC], [r0, r1, r2, r3, w, r5, r6, r7, r8], Lg)) o from key _ rfl
  intro o ho
  obtain ⟨zb1, zh2, h⟩ := bnd h
  suffices e : Ev (d + 7, 0, 0, 280, 10, [.val (.ref 448), .val (.ref 128), .val (.ref 256), .val (.int 0), .val (.int 0), .val a_unk, .val a_unk, .val a_unk], [], (126, 120, L, [Y, T, H2, H, RA, RB, (u2 ST 0 0 0), NS, I0, I1, I2, BO, FI, RG, GU, PU, MA, MN, MS, OT, SC], [r0, r1, r2, r3, w, r5, r6, r7, r8], Lg)) o from ev_b 7 e (fun n => Eq.refl _)
  refine ev_loop (δ := Value × Value × Value) (fun a j => (d + 7, 0, 0, 280, 10, [.val (.ref 448), .val (.ref 128), .val (.ref 256), .val (.int a.1), .val (.int a.2.1), .val j.1, .val j.2.1, .val j.2.2], [], (126, 120, L, [Y, a.2.2.1, H2, H, RA, RB, a.2.2.2.1, NS, I0, I1, I2, BO, FI, RG, GU, PU, MA, MN, MS, OT, SC], [r0, r1, r2, r3, a.2.2.2.2, r5, r6, r7, r8], Lg))) (fun b => ∀ s28 : Value, ∀ s29 : Value, ∀ s30 : Value, ∀ s31 : Value, ∀ s32 : Value, Ev (d + 7, 0, 0, 280, 173, [.val (.ref 448), .val (.ref 128), .val (.ref 256), .val s28, .val s29, .val s30, .val s31, .val s32], [], (126, 120, L, [Y, b.1, H2, H, RA, RB, b.2.1, NS, I0, I1, I2, BO, FI, RG, GU, PU, MA, MN, MS, OT, SC], [r0, r1, r2, r3, b.2.2, r5, r6, r7, r8], Lg)) o) ?_ a_F (0, 0, T, (u2 ST 0 0 0), w) zb1 zh2 ?_ (a_unk, a_unk, a_unk)
  · rintro ⟨v1, v2, T_6, ST_7, w8⟩ zr6 zh5 zi3 zx4 ⟨s3, s4, s5⟩
    have zh5 : f_Target_read_l10 H v1 v2 T_6 ST_7 w8 = some zr6 := zh5
    by_cases zc7 : 10 < v2
    · have zh5 := itp zh5 zc7
      suffices e : Ev (d + 7, 0, 0, 280, 173, [.val (.ref 448), .val (.ref 128), .val (.ref 256), .val (.int v1), .val (.int v2), .val s3, .val s4, .val s5], [], (126, 120, L, [Y, T_6, H2, H, RA, RB, ST_7, NS, I0, I1, I2, BO, FI, RG, GU, PU, MA, MN, MS, OT, SC], [r0, r1, r2, r3, w8, r5, r6, r7, r8], Lg)) o from ev_t (c := 10 < v2) _ _ 3  zc7 e (fun n => Eq.refl _)
      exact ev_b 0 (zx4 _ (Option.some.inj zh5).symm (.int v1) (.int v2) s3 s4 s5) (fun n => Eq.refl _)
    · have zh5 := itn zh5 zc7
      suffices e : Ev (d + 7, 0, 0, 280, 17, [.val (.ref 448), .val (.ref 128), .val (.ref 256), .val (.int v1), .val (.int v2), .val s3, .val s4, .val s5], [], (126, 120, L, [Y, T_6, H2, H, RA, RB, ST_7, NS, I0, I1, I2, BO, FI, RG, GU, PU, MA, MN, MS, OT, SC], [r0, r1, r2, r3, w8, r5, r6, r7, r8], Lg)) o from ev_f (c := 10 < v2) _ _ 3  zc7 e (fun n => Eq.refl _)
      obtain ⟨x9, zh8, zh5⟩ := bnd zh5
      have zh8 : f_Tape_failed T_6 = some x9 := zh8
      have ze9 := R_f_Tape_failed_0 (d + 6) Y T_6 H2 H RA RB ST_7 NS I0 I1 I2 BO FI RG GU PU MA MN MS OT SC r0 r1 r2 r3 w8 r5 r6 r7 r8 L Lg zh8
      suffices e : Ev (d + 7, 0, 0, 280, 21, [.val (.ref 448), .val (.ref 128), .val (.ref 256), .val (.int v1), .val (.int v2), .val s3, .val s4, .val s5], [.int x9], (126, 120, L, [Y, T_6, H2, H, RA, RB, ST_7, NS, I0, I1, I2, BO, FI, RG, GU, PU, MA, MN, MS, OT, SC], [r0, r1, r2, r3, w8, r5, r6, r7, r8], Lg)) o from ev_call (fun v μ => (d + 7, 0, 0, 280, 21, [.val (.ref 448), .val (.ref 128), .val (.ref 256), .val (.int v1), .val (.int v2), .val s3, .val s4, .val s5], v.toList ++ [], μ)) 2 ze9 e (fun n => Eq.refl _)
      by_cases zc10 : x9 ≠ 0
      · have zh5 := itp zh5 zc10
        suffices e : Ev (d + 7, 0, 0, 280, 173, [.val (.ref 448), .val (.ref 128), .val (.ref 256), .val (.int v1), .val (.int v2), .val s3, .val s4, .val s5], [], (126, 120, L, [Y, T_6, H2, H, RA, RB, ST_7, NS, I0, I1, I2, BO, FI, RG, GU, PU, MA, MN, MS, OT, SC], [r0, r1, r2, r3, w8, r5, r6, r7, r8], Lg)) o from ev_t (c := x9 ≠ 0) _ _ 1  zc10 e (fun n => Eq.refl _)
        exact ev_b 0 (zx4 _ (Option.some.inj zh5).symm (.int v1) (.int v2) s3 s4 s5) (fun n => Eq.refl _)
      · have zh5 := itn zh5 zc10
        suffices e : Ev (d + 7, 0, 0, 280, 24, [.val (.ref 448), .val (.ref 128), .val (.ref 256), .val (.int v1), .val (.int v2), .val s3, .val s4, .val s5], [], (126, 120, L, [Y, T_6, H2, H, RA, RB, ST_7, NS, I0, I1, I2, BO, FI, RG, GU, PU, MA, MN, MS, OT, SC], [r0, r1, r2, r3, w8, r5, r6, r7, r8], Lg)) o from ev_f (c := x9 ≠ 0) _ _ 1  zc10 e (fun n => Eq.refl _)
        obtain ⟨x10, zh11, zh5⟩ := bnd zh5
        have zh11 : f_Tape_atEnd T_6 = some x10 := zh11
        have ze12 := R_f_Tape_atEnd_0 (d + 6) Y T_6 H2 H RA RB ST_7 NS I0 I1 I2 BO FI RG GU PU MA MN MS OT SC r0 r1 r2 r3 w8 r5 r6 r7 r8 L Lg zh11
        suffices e : Ev (d + 7, 0, 0, 280, 28, [.val (.ref 448), .val (.ref 128), .val (.ref 256), .val (.int v1), .val (.int v2), .val s3, .val s4, .val s5], [.int x10], (126, 120, L, [Y, T_6, H2, H, RA, RB, ST_7, NS, I0, I1, I2, BO, FI, RG, GU, PU, MA, MN, MS, OT, SC], [r0, r1, r2, r3, w8, r5, r6, r7, r8], Lg)) o from ev_call (fun v μ => (d + 7, 0, 0, 280, 28, [.val (.ref 448), .val (.ref 128), .val (.ref 256), .val (.int v1), .val (.int v2), .val s3, .val s4, .val s5], v.toList ++ [], μ)) 2 ze12 e (fun n => Eq.refl _)
        by_cases zc13 : x10 ≠ 0
        · have zh5 := itp zh5 zc13
          suffices e : Ev (d + 7, 0, 0, 280, 173, [.val (.ref 448), .val (.ref 128), .val (.ref 256), .val (.int v1), .val (.int v2), .val s3, .val s4, .val s5], [], (126, 120, L, [Y, T_6, H2, H, RA, RB, ST_7, NS, I0, I1, I2, BO, FI, RG, GU, PU, MA, MN, MS, OT, SC], [r0, r1, r2, r3, w8, r5, r6, r7, r8], Lg)) o from ev_t (c := x10 ≠ 0) _ _ 1  zc13 e (fun n => Eq.refl _)
          exact ev_b 0 (zx4 _ (Option.some.inj zh5).symm (.int v1) (.int v2) s3 s4 s5) (fun n => Eq.refl _)
        · have zh5 := itn zh5 zc13
          suffices e : Ev (d + 7, 0, 0, 280, 31, [.val (.ref 448), .val (.ref 128), .val (.ref 256), .val (.int v1), .val (.int v2), .val s3, .val s4, .val s5], [], (126, 120, L, [Y, T_6, H2, H, RA, RB, ST_7, NS, I0, I1, I2, BO, FI, RG, GU, PU, MA, MN, MS, OT, SC], [r0, r1, r2, r3, w8, r5, r6, r7, r8], Lg)) o from ev_f (c := x10 ≠ 0) _ _ 1  zc13 e (fun n => Eq.refl _)
          obtain ⟨zt14, zh15, zh5⟩ := bnd zh5
          have zj16 : ∀ (T_12 : (Nat → Nat → Int32)), T_12 = zt14 → Ev (d + 7, 0, 0, 280, 66, [.val (.ref 448), .val (.ref 128), .val (.ref 256), .val (.int v1), .val (.int v2), .val s3, .val s4, .val s5], [], (126, 120, L, [Y, T_12, H2, H, RA, RB, ST_7, NS, I0, I1, I2, BO, FI, RG, GU, PU, MA, MN, MS, OT, SC], [r0, r1, r2, r3, w8, r5, r6, r7, r8], Lg)) o := by
            intro T_12 ze17
            subst ze17
            obtain ⟨⟨x13, T_14, w15⟩, zh18, zh5⟩ := bnd zh5
            have zh18 : f_Tape_number T_12 w8 0 ((H 0 3) - 1) = some (x13, T_14, w15) := zh18
            have ze19 := R_f_Tape_number_0 (d + 0) Y T_12 H2 H RA RB ST_7 NS I0 I1 I2 BO FI RG GU PU MA MN MS OT SC r0 r1 r2 r3 w8 r5 r6 r7 r8 L Lg 0 ((H 0 3) - 1) zh18
            suffices e : Ev (d + 7, 0, 0, 280, 77, [.val (.ref 448), .val (.ref 128), .val (.ref 256), .val (.int v1), .val (.int v2), .val s3, .val s4, .val s5], [.int x13], (126, 120, L, [Y, T_14, H2, H, RA, RB, ST_7, NS, I0, I1, I2, BO, FI, RG, GU, PU, MA, MN, MS, OT, SC], [r0, r1, r2, r3, w15, r5, r6, r7, r8], Lg)) o from ev_call (fun v μ => (d + 7, 0, 0, 280, 77, [.val (.ref 448), .val (.ref 128), .val (.ref 256), .val (.int v1), .val (.int v2), .val s3, .val s4, .val s5], v.toList ++ [], μ)) 7 ze19 e (fun n => Eq.refl _)
            obtain ⟨⟨x16, T_17, w18⟩, zh20, zh5⟩ := bnd zh5
            have zh20 : f_Tape_number T_14 w15 0 ((H 0 0) - 1) = some (x16, T_17, w18) := zh20
            have ze21 := R_f_Tape_number_0 (d + 0) Y T_14 H2 H RA RB ST_7 NS I0 I1 I2 BO FI RG GU PU MA MN MS OT SC r0 r1 r2 r3 w15 r5 r6 r7 r8 L Lg 0 ((H 0 0) - 1) zh20
            suffices e : Ev (d + 7, 0, 0, 280, 90, [.val (.ref 448), .val (.ref 128), .val (.ref 256), .val (.int v1), .val (.int v2), .val (.int x13), .val s4, .val s5], [.int x16], (126, 120, L, [Y, T_17, H2, H, RA, RB, ST_7, NS, I0, I1, I2, BO, FI, RG, GU, PU, MA, MN, MS, OT, SC], [r0, r1, r2, r3, w18, r5, r6, r7, r8], Lg)) o from ev_call (fun v μ => (d + 7, 0, 0, 280, 90, [.val (.ref 448), .val (.ref 128), .val (.ref 256), .val (.int v1), .val (.int v2), .val (.int x13), .val s4, .val s5], v.toList ++ [], μ)) 8 ze21 e (fun n => Eq.refl _)
            obtain ⟨⟨x19, T_20, w21⟩, zh22, zh5⟩ := bnd zh5
            have zh22 : f_Tape_number T_17 w18 0 ((H 0 1) - 1) = some (x19, T_20, w21) := zh22
            have ze23 := R_f_Tape_number_0 (d + 0) Y T_17 H2 H RA RB ST_7 NS I0 I1 I2 BO FI RG GU PU MA MN MS OT SC r0 r1 r2 r3 w18 r5 r6 r7 r8 L Lg 0 ((H 0 1) - 1) zh22
            suffices e : Ev (d + 7, 0, 0, 280, 103, [.val (.ref 448), .val (.ref 128), .val (.ref 256), .val (.int v1), .val (.int v2), .val (.int x13), .val (.int x16), .val s5], [.int x19], (126, 120, L, [Y, T_20, H2, H, RA, RB, ST_7, NS, I0, I1, I2, BO, FI, RG, GU, PU, MA, MN, MS, OT, SC], [r0, r1, r2, r3, w21, r5, r6, r7, r8], Lg)) o from ev_call (fun v μ => (d + 7, 0, 0, 280, 103, [.val (.ref 448), .val (.ref 128), .val (.ref 256), .val (.int v1), .val (.int v2), .val (.int x13), .val (.int x16), .val s5], v.toList ++ [], μ)) 8 ze23 e (fun n => Eq.refl _)
            obtain ⟨⟨x22, T_23, w24⟩, zh24, zh5⟩ := bnd zh5
            have zh24 : f_Tape_pass T_20 w21 59 = some (x22, T_23, w24) := zh24
            have ze25 := R_f_Tape_pass_0 (d + 0) Y T_20 H2 H RA RB ST_7 NS I0 I1 I2 BO FI RG GU PU MA MN MS OT SC r0 r1 r2 r3 w21 r5 r6 r7 r8 L Lg 59 zh24
            suffices e : Ev (d + 7, 0, 0, 280, 111, [.val (.ref 448), .val (.ref 128), .val (.ref 256), .val (.int v1), .val (.int v2), .val (.int x13), .val (.int x16), .val (.int x19)], [.int x22], (126, 120, L, [Y, T_23, H2, H, RA, RB, ST_7, NS, I0, I1, I2, BO, FI, RG, GU, PU, MA, MN, MS, OT, SC], [r0, r1, r2, r3, w24, r5, r6, r7, r8], Lg)) o from ev_call (fun v μ => (d + 7, 0, 0, 280, 111, [.val (.ref 448), .val (.ref 128), .val (.ref 256), .val (.int v1), .val (.int v2), .val (.int x13), .val (.int x16), .val (.int x19)], v.toList ++ [], μ)) 4 ze25 e (fun n => Eq.refl _)
            by_cases zc26 : x22 = 0
            · have zh5 := itp zh5 zc26
              suffices e : Ev (d + 7, 0, 0, 280, 167, [.val (.ref 448), .val (.ref 128), .val (.ref 256), .val (.int v1), .val (.int v2), .val (.int x13), .val (.int x16), .val (.int x19)], [], (126, 120, L, [Y, T_23, H2, H, RA, RB, ST_7, NS, I0, I1, I2, BO, FI, RG, GU, PU, MA, MN, MS, OT, SC], [r0, r1, r2, r3, w24, r5, r6, r7, r8], Lg)) o from ev_t (c := x22 = 0) _ _ 1  zc26 e (fun n => Eq.refl _)
              exact ev_b 2 (zi3 _ (Option.some.inj zh5).symm ((.int x13), (.int x16), (.int x19))) (fun n => Eq.refl _)
            · have zh5 := itn zh5 zc26
              suffices e : Ev (d + 7, 0, 0, 280, 114, [.val (.ref 448), .val (.ref 128), .val (.ref 256), .val (.int v1), .val (.int v2), .val (.int x13), .val (.int x16), .val (.int x19)], [], (126, 120, L, [Y, T_23, H2, H, RA, RB, ST_7, NS, I0, I1, I2, BO, FI, RG, GU, PU, MA, MN, MS, OT, SC], [r0, r1, r2, r3, w24, r5, r6, r7, r8], Lg)) o from ev_f (c := x22 = 0) _ _ 1  zc26 e (fun n => Eq.refl _)
              by_cases zc27 : 10 ≤ (ST_7 0 0)
              · have zh5 := itp zh5 zc27
                suffices e : Ev (d + 7, 0, 0, 280, 167, [.val (.ref 448), .val (.ref 128), .val (.ref 256), .val (.int v1), .val (.int v2), .val (.int x13), .val (.int x16), .val (.int x19)], [], (126, 120, L, [Y, T_23, H2, H, RA, RB, ST_7, NS, I0, I1, I2, BO, FI, RG, GU, PU, MA, MN, MS, OT, SC], [r0, r1, r2, r3, w24, r5, r6, r7, r8], Lg)) o from ev_t (c := 10 ≤ (ST_7 0 0)) _ _ 4  zc27 e (fun n => Eq.refl _)
                exact ev_b 2 (zi3 _ (Option.some.inj zh5).symm ((.int x13), (.int x16), (.int x19))) (fun n => Eq.refl _)
              · have zh5 := itn zh5 zc27
                suffices e : Ev (d + 7, 0, 0, 280, 123, [.val (.ref 448), .val (.ref 128), .val (.ref 256), .val (.int v1), .val (.int v2), .val (.int x13), .val (.int x16), .val (.int x19)], [], (126, 120, L, [Y, T_23, H2, H, RA, RB, ST_7, NS, I0, I1, I2, BO, FI, RG, GU, PU, MA, MN, MS, OT, SC], [r0, r1, r2, r3, w24, r5, r6, r7, r8], Lg)) o from ev_f (c := 10 ≤ (ST_7 0 0)) _ _ 4  zc27 e (fun n => Eq.refl _)
                obtain ⟨j25, zh28, zh5⟩ := bnd zh5
                have zh28 : ixx 10 (ST_7 0 0) = some j25 := zh28
                suffices e : Ev (d + 7, 0, 0, 280, 141, [.val (.ref 448), .val (.ref 128), .val (.ref 256), .val (.int (v1 ||| (a_shl 1 x13))), .val (.int v2), .val (.int x13), .val (.int x16), .val (.int x19)], [], (126, 120, L, [Y, T_23, H2, H, RA, RB, (u2 ST_7 1 j25 x13), NS, I0, I1, I2, BO, FI, RG, GU, PU, MA, MN, MS, OT, SC], [r0, r1, r2, r3, w24, r5, r6, r7, r8], Lg)) o from ev_opt (fun j25 => (d + 7, 0, 0, 280, 141, [.val (.ref 448), .val (.ref 128), .val (.ref 256), .val (.int (v1 ||| (a_shl 1 x13))), .val (.int v2), .val (.int x13), .val (.int x16), .val (.int x19)], [], (126, 120, L, [Y, T_23, H2, H, RA, RB, (u2 ST_7 1 j25 x13), NS, I0, I1, I2, BO, FI, RG, GU, PU, MA, MN, MS, OT, SC], [r0, r1, r2, r3, w24, r5, r6, r7, r8], Lg))) 12 zh28 e (fun n => Eq.refl _)
                obtain ⟨x26, zh29, zh5⟩ := bnd zh5
                have zh29 : f_Y_placeOf x16 x19 = some x26 := zh29
                have ze30 := R_f_Y_placeOf_0 (d + 6) Y T_23 H2 H RA RB (u2 ST_7 1 j25 x13) NS I0 I1 I2 BO FI RG GU PU MA MN MS OT SC r0 r1 r2 r3 w24 r5 r6 r7 r8 L Lg x16 x19 zh29
                suffices e : Ev (d + 7, 0, 0, 280, 156, [.val (.ref 448), .val (.ref 128), .val (.ref 256), .val (.int (v1 ||| (a_shl 1 x13))), .val (.int v2), .val (.int x13), .val (.int x16), .val (.int x19)], [.int x26, .int ((u2 ST_7 1 j25 x13) 0 0), .ref 450], (126, 120, L, [Y, T_23, H2, H, RA, RB, (u2 ST_7 1 j25 x13), NS, I0, I1, I2, BO, FI, RG, GU, PU, MA, MN, MS, OT, SC], [r0, r1, r2, r3, w24, r5, r6, r7, r8], Lg)) o from ev_call (fun v μ => (d + 7, 0, 0, 280, 156, [.val (.ref 448), .val (.ref 128), .val (.ref 256), .val (.int (v1 ||| (a_shl 1 x13))), .val (.int v2), .val (.int x13), .val (.int x16), .val (.int x19)], v.toList ++ [.int ((u2 ST_7 1 j25 x13) 0 0), .ref 450], μ)) 7 ze30 e (fun n => Eq.refl _)
                obtain ⟨j27, zh31, zh5⟩ := bnd zh5
                have zh31 : ixx 10 ((u2 ST_7 1 j25 x13) 0 0) = some j27 := zh31
                suffices e : Ev (d + 7, 0, 0, 280, 157, [.val (.ref 448), .val (.ref 128), .val (.ref 256), .val (.int (v1 ||| (a_shl 1 x13))), .val (.int v2), .val (.int x13), .val (.int x16), .val (.int x19)], [], (126, 120, L, [Y, T_23, H2, H, RA, RB, (u2 (u2 ST_7 1 j25 x13) 2 j27 x26), NS, I0, I1, I2, BO, FI, RG, GU, PU, MA, MN, MS, OT, SC], [r0, r1, r2, r3, w24, r5, r6, r7, r8], Lg)) o from ev_opt (fun j27 => (d + 7, 0, 0, 280, 157, [.val (.ref 448), .val (.ref 128), .val (.ref 256), .val (.int (v1 ||| (a_shl 1 x13))), .val (.int v2), .val (.int x13), .val (.int x16), .val (.int x19)], [], (126, 120, L, [Y, T_23, H2, H, RA, RB, (u2 (u2 ST_7 1 j25 x13) 2 j27 x26), NS, I0, I1, I2, BO, FI, RG, GU, PU, MA, MN, MS, OT, SC], [r0, r1, r2, r3, w24, r5, r6, r7, r8], Lg))) 1 zh31 e (fun n => Eq.refl _)
                exact ev_b 8 (zi3 _ (Option.some.inj zh5).symm ((.int x13), (.int x16), (.int x19))) (fun n => Eq.refl _)
          by_cases zc32 : (T_6 0 3) ≠ 1
          · have zh15 := itp zh15 zc32
            suffices e : Ev (d + 7, 0, 0, 280, 66, [.val (.ref 448), .val (.ref 128), .val (.ref 256), .val (.int v1), .val (.int v2), .val s3, .val s4, .val s5], [], (126, 120, L, [Y, T_6, H2, H, RA, RB, ST_7, NS, I0, I1, I2, BO, FI, RG, GU, PU, MA, MN, MS, OT, SC], [r0, r1, r2, r3, w8, r5, r6, r7, r8], Lg)) o from ev_t (c := (T_6 0 3) ≠ 1) _ _ 4  zc32 e (fun n => Eq.refl _)
            exact ev_b 0 (zj16 T_6 (Option.some.inj zh15) ) (fun n => Eq.refl _)
          · have zh15 := itn zh15 zc32
            suffices e : Ev (d + 7, 0, 0, 280, 39, [.val (.ref 448), .val (.ref 128), .val (.ref 256), .val (.int v1), .val (.int v2), .val s3, .val s4, .val s5], [], (126, 120, L, [Y, T_6, H2, H, RA, RB, ST_7, NS, I0, I1, I2, BO, FI, RG, GU, PU, MA, MN, MS, OT, SC], [r0, r1, r2, r3, w8, r5, r6, r7, r8], Lg)) o from ev_f (c := (T_6 0 3) ≠ 1) _ _ 4  zc32 e (fun n => Eq.refl _)
            by_cases zc33 : (H 0 3) ≤ (T_6 0 6)
            · have zh15 := itp zh15 zc33
              suffices e : Ev (d + 7, 0, 0, 280, 66, [.val (.ref 448), .val (.ref 128), .val (.ref 256), .val (.int v1), .val (.int v2), .val s3, .val s4, .val s5], [], (126, 120, L, [Y, T_6, H2, H, RA, RB, ST_7, NS, I0, I1, I2, BO, FI, RG, GU, PU, MA, MN, MS, OT, SC], [r0, r1, r2, r3, w8, r5, r6, r7, r8], Lg)) o from ev_t (c := (H 0 3) ≤ (T_6 0 6)) _ _ 5  zc33 e (fun n => Eq.refl _)
              exact ev_b 0 (zj16 T_6 (Option.some.inj zh15) ) (fun n => Eq.refl _)
            · have zh15 := itn zh15 zc33
              suffices e : Ev (d + 7, 0, 0, 280, 50, [.val (.ref 448), .val (.ref 128), .val (.ref 256), .val (.int v1), .val (.int v2), .val s3, .val s4, .val s5], [], (126, 120, L, [Y, T_6, H2, H, RA, RB, ST_7, NS, I0, I1, I2, BO, FI, RG, GU, PU, MA, MN, MS, OT, SC], [r0, r1, r2, r3, w8, r5, r6, r7, r8], Lg)) o from ev_f (c := (H 0 3) ≤ (T_6 0 6)) _ _ 5  zc33 e (fun n => Eq.refl _)
              by_cases zc34 : ((a_shr v1 (T_6 0 6)) &&& 1) = 0
              · have zh15 := itp zh15 zc34
                suffices e : Ev (d + 7, 0, 0, 280, 66, [.val (.ref 448), .val (.ref 128), .val (.ref 256), .val (.int v1), .val (.int v2), .val s3, .val s4, .val s5], [], (126, 120, L, [Y, T_6, H2, H, RA, RB, ST_7, NS, I0, I1, I2, BO, FI, RG, GU, PU, MA, MN, MS, OT, SC], [r0, r1, r2, r3, w8, r5, r6, r7, r8], Lg)) o from ev_t (c := ((a_shr v1 (T_6 0 6)) &&& 1) = 0) _ _ 7  zc34 e (fun n => Eq.refl _)
                exact ev_b 0 (zj16 T_6 (Option.some.inj zh15) ) (fun n => Eq.refl _)
              · have zh15 := itn zh15 zc34
                suffices e : Ev (d + 7, 0, 0, 280, 61, [.val (.ref 448), .val (.ref 128), .val (.ref 256), .val (.int v1), .val (.int v2), .val s3, .val s4, .val s5], [], (126, 120, L, [Y, T_6, H2, H, RA, RB, ST_7, NS, I0, I1, I2, BO, FI, RG, GU, PU, MA, MN, MS, OT, SC], [r0, r1, r2, r3, w8, r5, r6, r7, r8], Lg)) o from ev_f (c := ((a_shr v1 (T_6 0 6)) &&& 1) = 0) _ _ 7  zc34 e (fun n => Eq.refl _)
                obtain ⟨T_11, zh35, zh15⟩ := bnd zh15
                have zh35 : f_Tape_fail T_6 2 = some T_11 := zh35
                have ze36 := R_f_Tape_fail_0 (d + 6) Y T_6 H2 H RA RB ST_7 NS I0 I1 I2 BO FI RG GU PU MA MN MS OT SC r0 r1 r2 r3 w8 r5 r6 r7 r8 L Lg 2 zh35
                suffices e : Ev (d + 7, 0, 0, 280, 66, [.val (.ref 448), .val (.ref 128), .val (.ref 256), .val (.int v1), .val (.int v2), .val s3, .val s4, .val s5], [], (126, 120, L, [Y, T_11, H2, H, RA, RB, ST_7, NS, I0, I1, I2, BO, FI, RG, GU, PU, MA, MN, MS, OT, SC], [r0, r1, r2, r3, w8, r5, r6, r7, r8], Lg)) o from ev_call (fun v μ => (d + 7, 0, 0, 280, 66, [.val (.ref 448), .val (.ref 128), .val (.ref 256), .val (.int v1), .val (.int v2), .val s3, .val s4, .val s5], v.toList ++ [], μ)) 3 ze36 e (fun n => Eq.refl _)
                exact ev_b 0 (zj16 T_11 (Option.some.inj zh15) ) (fun n => Eq.refl _)
  · obtain ⟨T_33, ST_34, w35⟩ := zb1
    intro s28 s29 s30 s31 s32
    have ze37 := Option.some.inj h
    subst ze37
    exact ev_rete 1 ho (fun n => Eq.refl _)
set_option maxRecDepth 1000000 in
set_option maxHeartbeats 4000000 in
theorem R_f_Y_target_2 (d : Nat) (Y T H2 H RU RV ST NS I0 I1 I2 BO FI RG GU PU MA MN MS OT SC : Nat → Nat → Int32) (w r5 : Nat) (L : Nat) (Lg : Int64) (p1 : Int32) {r : Nat × Int32 × (Nat → Nat → Int32) × (Nat → Nat → Int32) × (Nat → Nat → Int32) × (Nat → Nat → Int32) × Nat} (h : f_Y_target Y T H ST NS w p1 = some r) : Ev (d + 8, 1, 8, 285, 0, [.val (.ref 64), .val (.int p1)], [], (126, 120, L, [Y, T, H2, H, RU, RV, ST, NS, I0, I1, I2, BO, FI, RG, GU, PU, MA, MN, MS, OT, SC], [256, 192, 320, 384, w, r5, 576, 640, 704], Lg)) ((r.1, a_ov r.1 (.int r.2.1), (126, 120, L, [r.2.2.1, r.2.2.2.1, H2, H, RU, RV, r.2.2.2.2.1, r.2.2.2.2.2.1, I0, I1, I2, BO, FI, RG, GU, PU, MA, MN, MS, OT, SC], [256, 192, 320, 384, r.2.2.2.2.2.2, r5, 576, 640, 704], Lg)) : AOut) := by
  suffices key : ∀ o : AOut, ((r.1, a_ov r.1 (.int r.2.1), (126, 120, L, [r.2.2.1, r.2.2.2.1, H2, H, RU, RV, r.2.2.2.2.1, r.2.2.2.2.2.1, I0, I1, I2, BO, FI, RG, GU, PU, MA, MN, MS, OT, SC], [256, 192, 320, 384, r.2.2.2.2.2.2, r5, 576, 640, 704], Lg)) : AOut) = o → Ev (d + 8, 1, 8, 285, 0, [.val (.ref 64), .val (.int p1)], [], (126, 120, L, [Y, T, H2, H, RU, RV, ST, NS, I0, I1, I2, BO, FI, RG, GU, PU, MA, MN, MS, OT, SC], [256, 192, 320, 384, w, r5, 576, 640, 704], Lg)) o from key _ rfl
  intro o ho
  obtain ⟨zt1, zh2, h⟩ := bnd h
  have zj3 : ∀ (v1 : Int32), v1 = zt1 → Ev (d + 8, 1, 8, 285, 27, [.val (.ref 64), .val (.int p1)], [.int v1, .ref 64], (126, 120, L, [Y, T, H2, H, RU, RV, ST, NS, I0, I1, I2, BO, FI, RG, GU, PU, MA, MN, MS, OT, SC], [256, 192, 320, 384, w, r5, 576, 640, 704], Lg)) o := by
    intro v1 ze4
    subst ze4
    obtain ⟨⟨q2, Y_3⟩, zh5, h⟩ := bnd h
    have zh5 : f_Y_refuseUnless Y v1 = some (q2, Y_3) := zh5
    have ze6 := R_f_Y_refuseUnless_2 (d + 7) Y T H2 H RU RV ST NS I0 I1 I2 BO FI RG GU PU MA MN MS OT SC w r5 L Lg v1 zh5
    cases q2 with
    | zero =>
      have h := itp h rfl
      suffices e : Ev (d + 8, 0, 0, 285, 30, [.val (.ref 64), .val (.int p1)], [], (126, 120, L, [Y_3, T, H2, H, RU, RV, ST, NS, I0, I1, I2, BO, FI, RG, GU, PU, MA, MN, MS, OT, SC], [256, 192, 320, 384, w, r5, 576, 640, 704], Lg)) o from ev_call (fun v μ => (d + 8, 0, 0, 285, 30, [.val (.ref 64), .val (.int p1)], v.toList ++ [], μ)) 1 ze6 e (fun n => Eq.refl _)
      obtain ⟨⟨T_4, w5⟩, zh7, h⟩ := bnd h
      have zh7 : f_Tape_open T p1 = some (T_4, w5) := zh7
      have ze8 := R_f_Tape_open_0 (d + 1) Y_3 T H2 H RU RV ST NS I0 I1 I2 BO FI RG GU PU MA MN MS OT SC 256 192 320 384 w r5 576 640 704 L Lg p1 zh7
      suffices e : Ev (d + 8, 0, 0, 285, 38, [.val (.ref 64), .val (.int p1)], [], (126, 120, L, [Y_3, T_4, H2, H, RU, RV, ST, NS, I0, I1, I2, BO, FI, RG, GU, PU, MA, MN, MS, OT, SC], [256, 192, 320, 384, w5, r5, 576, 640, 704], Lg)) o from ev_call (fun v μ => (d + 8, 0, 0, 285, 38, [.val (.ref 64), .val (.int p1)], v.toList ++ [], μ)) 4 ze8 e (fun n => Eq.refl _)
      suffices e : Ev (d + 8, 0, 0, 285, 50, [.val (.ref 64), .val (.int p1)], [.ref 256, .ref 128, .ref 448], (126, 120, L, [Y_3, T_4, H2, H, RU, RV, ST, NS, I0, I1, I2, BO, FI, RG, GU, PU, MA, MN, MS, OT, SC], [256, 192, 320, 384, w5, r5, 576, 640, 704], Lg)) o from ev_b 6 e (fun n => Eq.refl _)
      obtain ⟨⟨T_6, ST_7, w8⟩, zh9, h⟩ := bnd h
      have zh9 : f_Target_read T_4 H ST w5 = some (T_6, ST_7, w8) := zh9
      have ze10 := R_f_Target_read_1 (d + 0) Y_3 T_4 H2 H RU RV ST NS I0 I1 I2 BO FI RG GU PU MA MN MS OT SC 256 192 320 384 w5 r5 576 640 704 L Lg zh9
      suffices e : Ev (d + 8, 0, 0, 285, 53, [.val (.ref 64), .val (.int p1)], [], (126, 120, L, [Y_3, T_6, H2, H, RU, RV, ST_7, NS, I0, I1, I2, BO, FI, RG, GU, PU, MA, MN, MS, OT, SC], [256, 192, 320, 384, w8, r5, 576, 640, 704], Lg)) o from ev_call (fun v μ => (d + 8, 0, 0, 285, 53, [.val (.ref 64), .val (.int p1)], v.toList ++ [], μ)) 1 ze10 e (fun n => Eq.refl _)
      obtain ⟨T_9, zh11, h⟩ := bnd h
      have zh11 : f_Tape_empty T_6 = some T_9 := zh11
      have ze12 := R_f_Tape_empty_0 (d + 7) Y_3 T_6 H2 H RU RV ST_7 NS I0 I1 I2 BO FI RG GU PU MA MN MS OT SC 256 192 320 384 w8 r5 576 640 704 L Lg zh11
      suffices e : Ev (d + 8, 0, 0, 285, 60, [.val (.ref 64), .val (.int p1)], [], (126, 120, L, [Y_3, T_9, H2, H, RU, RV, ST_7, NS, I0, I1, I2, BO, FI, RG, GU, PU, MA, MN, MS, OT, SC], [256, 192, 320, 384, w8, r5, 576, 640, 704], Lg)) o from ev_call (fun v μ => (d + 8, 0, 0, 285, 60, [.val (.ref 64), .val (.int p1)], v.toList ++ [], μ)) 3 ze12 e (fun n => Eq.refl _)
      obtain ⟨x10, zh13, h⟩ := bnd h
      have zh13 : f_Tape_failed T_9 = some x10 := zh13
      have ze14 := R_f_Tape_failed_0 (d + 7) Y_3 T_9 H2 H RU RV ST_7 NS I0 I1 I2 BO FI RG GU PU MA MN MS OT SC 256 192 320 384 w8 r5 576 640 704 L Lg zh13
      suffices e : Ev (d + 8, 0, 0, 285, 67, [.val (.ref 64), .val (.int p1)], [.int x10], (126, 120, L, [Y_3, T_9, H2, H, RU, RV, ST_7, NS, I0, I1, I2, BO, FI, RG, GU, PU, MA, MN, MS, OT, SC], [256, 192, 320, 384, w8, r5, 576, 640, 704], Lg)) o from ev_call (fun v μ => (d + 8, 0, 0, 285, 67, [.val (.ref 64), .val (.int p1)], v.toList ++ [], μ)) 3 ze14 e (fun n => Eq.refl _)
      by_cases zc15 : x10 = 0
      · have h := itp h zc15
        suffices e : Ev (d + 8, 0, 0, 285, 81, [.val (.ref 64), .val (.int p1)], [], (126, 120, L, [Y_3, T_9, H2, H, RU, RV, ST_7, NS, I0, I1, I2, BO, FI, RG, GU, PU, MA, MN, MS, OT, SC], [256, 192, 320, 384, w8, r5, 576, 640, 704], Lg)) o from ev_t (c := x10 = 0) _ _ 1  zc15 e (fun n => Eq.refl _)
        obtain ⟨NS_11, zh16, h⟩ := bnd h
        have zh16 : f_Target_copy ST_7 NS = some NS_11 := zh16
        have ze17 := R_f_Target_copy_0 (d + 6) Y_3 T_9 H2 H RU RV ST_7 NS I0 I1 I2 BO FI RG GU PU MA MN MS OT SC 256 192 320 384 w8 r5 576 640 704 L Lg zh16
        suffices e : Ev (d + 8, 0, 0, 285, 95, [.val (.ref 64), .val (.int p1)], [], (126, 120, L, [Y_3, T_9, H2, H, RU, RV, ST_7, NS_11, I0, I1, I2, BO, FI, RG, GU, PU, MA, MN, MS, OT, SC], [256, 192, 320, 384, w8, r5, 576, 640, 704], Lg)) o from ev_call (fun v μ => (d + 8, 0, 0, 285, 95, [.val (.ref 64), .val (.int p1)], v.toList ++ [], μ)) 6 ze17 e (fun n => Eq.refl _)
        have ze18 := Option.some.inj h
        subst ze18
        exact ev_rete 5 ho (fun n => Eq.refl _)
      · have h := itn h zc15
        suffices e : Ev (d + 8, 0, 0, 285, 70, [.val (.ref 64), .val (.int p1)], [], (126, 120, L, [Y_3, T_9, H2, H, RU, RV, ST_7, NS, I0, I1, I2, BO, FI, RG, GU, PU, MA, MN, MS, OT, SC], [256, 192, 320, 384, w8, r5, 576, 640, 704], Lg)) o from ev_f (c := x10 = 0) _ _ 1  zc15 e (fun n => Eq.refl _)
        have ze19 := Option.some.inj h
        subst ze19
        exact ev_rete 6 ho (fun n => Eq.refl _)
    | succ q2 =>
      have h := itn h (Nat.succ_ne_zero q2)
      have ze20 := Option.some.inj h
      subst ze20
      subst ho
      exact ev_thr (fun v μ => (d + 8, 0, 0, 285, 30, [.val (.ref 64), .val (.int p1)], v.toList ++ [], μ)) 1 ze6 (fun n => Eq.refl _) (fun n => rfl)
  obtain ⟨zt21, zh22, zh2⟩ := bnd zh2
  have zj23 : zt21 = .inl () → Ev (d + 8, 1, 8, 285, 26, [.val (.ref 64), .val (.int p1)], [.ref 64], (126, 120, L, [Y, T, H2, H, RU, RV, ST, NS, I0, I1, I2, BO, FI, RG, GU, PU, MA, MN, MS, OT, SC], [256, 192, 320, 384, w, r5, 576, 640, 704], Lg)) o := by
    intro ze24
    have zh2 := sum_l zh2 ze24
    exact ev_b 1 (zj3 0 (Option.some.inj zh2) ) (fun n => Eq.refl _)
  by_cases zc25 : p1 < 0
  · have zh22 := itp zh22 zc25
    suffices e : Ev (d + 8, 1, 8, 285, 26, [.val (.ref 64), .val (.int p1)], [.ref 64], (126, 120, L, [Y, T, H2, H, RU, RV, ST, NS, I0, I1, I2, BO, FI, RG, GU, PU, MA, MN, MS, OT, SC], [256, 192, 320, 384, w, r5, 576, 640, 704], Lg)) o from ev_t (c := p1 < 0) _ _ 3  zc25 e (fun n => Eq.refl _)
    exact ev_b 0 (zj23  (Option.some.inj zh22).symm ) (fun n => Eq.refl _)
  · have zh22 := itn zh22 zc25
    suffices e : Ev (d + 8, 1, 8, 285, 5, [.val (.ref 64), .val (.int p1)], [.ref 64], (126, 120, L, [Y, T, H2, H, RU, RV, ST, NS, I0, I1, I2, BO, FI, RG, GU, PU, MA, MN, MS, OT, SC], [256, 192, 320, 384, w, r5, 576, 640, 704], Lg)) o from ev_f (c := p1 < 0) _ _ 3  zc25 e (fun n => Eq.refl _)
    by_cases zc26 : (T 0 1) < p1
    · have zh22 := itp zh22 zc26
      suffices e : Ev (d + 8, 1, 8, 285, 26, [.val (.ref 64), .val (.int p1)], [.ref 64], (126, 120, L, [Y, T, H2, H, RU, RV, ST, NS, I0, I1, I2, BO, FI, RG, GU, PU, MA, MN, MS, OT, SC], [256, 192, 320, 384, w, r5, 576, 640, 704], Lg)) o from ev_t (c := (T 0 1) < p1) _ _ 5  zc26 e (fun n => Eq.refl _)
      exact ev_b 0 (zj23  (Option.some.inj zh22).symm ) (fun n => Eq.refl _)
    · have zh22 := itn zh22 zc26
      suffices e : Ev (d + 8, 1, 8, 285, 16, [.val (.ref 64), .val (.int p1)], [.ref 64], (126, 120, L, [Y, T, H2, H, RU, RV, ST, NS, I0, I1, I2, BO, FI, RG, GU, PU, MA, MN, MS, OT, SC], [256, 192, 320, 384, w, r5, 576, 640, 704], Lg)) o from ev_f (c := (T 0 1) < p1) _ _ 5  zc26 e (fun n => Eq.refl _)
      by_cases zc27 : 120 < p1
      · have zh22 := itp zh22 zc27
        suffices e : Ev (d + 8, 1, 8, 285, 26, [.val (.ref 64), .val (.int p1)], [.ref 64], (126, 120, L, [Y, T, H2, H, RU, RV, ST, NS, I0, I1, I2, BO, FI, RG, GU, PU, MA, MN, MS, OT, SC], [256, 192, 320, 384, w, r5, 576, 640, 704], Lg)) o from ev_t (c := 120 < p1) _ _ 3  zc27 e (fun n => Eq.refl _)
        exact ev_b 0 (zj23  (Option.some.inj zh22).symm ) (fun n => Eq.refl _)
      · have zh22 := itn zh22 zc27
        suffices e : Ev (d + 8, 1, 8, 285, 22, [.val (.ref 64), .val (.int p1)], [.ref 64], (126, 120, L, [Y, T, H2, H, RU, RV, ST, NS, I0, I1, I2, BO, FI, RG, GU, PU, MA, MN, MS, OT, SC], [256, 192, 320, 384, w, r5, 576, 640, 704], Lg)) o from ev_f (c := 120 < p1) _ _ 3  zc27 e (fun n => Eq.refl _)
        have zh28 := sum_r zh2 (Option.some.inj zh22).symm
        exact ev_b 2 (zj3 1 (Option.some.inj zh28) ) (fun n => Eq.refl _)
set_option maxRecDepth 1000000 in
set_option maxHeartbeats 4000000 in
theorem R_f_Y_target_3 (d : Nat) (Y T H2 H RV RU ST NS I0 I1 I2 BO FI RG GU PU MA MN MS OT SC : Nat → Nat → Int32) (w r5 : Nat) (L : Nat) (Lg : Int64) (p1 : Int32) {r : Nat × Int32 × (Nat → Nat → Int32) × (Nat → Nat → Int32) × (Nat → Nat → Int32) × (Nat → Nat → Int32) × Nat} (h : f_Y_target Y T H ST NS w p1 = some r) : Ev (d + 8, 1, 8, 285, 0, [.val (.ref 64), .val (.int p1)], [], (126, 120, L, [Y, T, H2, H, RV, RU, ST, NS, I0, I1, I2, BO, FI, RG, GU, PU, MA, MN, MS, OT, SC], [256, 192, 384, 320, w, r5, 576, 640, 704], Lg)) ((r.1, a_ov r.1 (.int r.2.1), (126, 120, L, [r.2.2.1, r.2.2.2.1, H2, H, RV, RU, r.2.2.2.2.1, r.2.2.2.2.2.1, I0, I1, I2, BO, FI, RG, GU, PU, MA, MN, MS, OT, SC], [256, 192, 384, 320, r.2.2.2.2.2.2, r5, 576, 640, 704], Lg)) : AOut) := by
  suffices key : ∀ o : AOut, ((r.1, a_ov r.1 (.int r.2.1), (126, 120, L, [r.2.2.1, r.2.2.2.1, H2, H, RV, RU, r.2.2.2.2.1, r.2.2.2.2.2.1, I0, I1, I2, BO, FI, RG, GU, PU, MA, MN, MS, OT, SC], [256, 192, 384, 320, r.2.2.2.2.2.2, r5, 576, 640, 704], Lg)) : AOut) = o → Ev (d + 8, 1, 8, 285, 0, [.val (.ref 64), .val (.int p1)], [], (126, 120, L, [Y, T, H2, H, RV, RU, ST, NS, I0, I1, I2, BO, FI, RG, GU, PU, MA, MN, MS, OT, SC], [256, 192, 384, 320, w, r5, 576, 640, 704], Lg)) o from key _ rfl
  intro o ho
  obtain ⟨zt1, zh2, h⟩ := bnd h
  have zj3 : ∀ (v1 : Int32), v1 = zt1 → Ev (d + 8, 1, 8, 285, 27, [.val (.ref 64), .val (.int p1)], [.int v1, .ref 64], (126, 120, L, [Y, T, H2, H, RV, RU, ST, NS, I0, I1, I2, BO, FI, RG, GU, PU, MA, MN, MS, OT, SC], [256, 192, 384, 320, w, r5, 576, 640, 704], Lg)) o := by
    intro v1 ze4
    subst ze4
    obtain ⟨⟨q2, Y_3⟩, zh5, h⟩ := bnd h
    have zh5 : f_Y_refuseUnless Y v1 = some (q2, Y_3) := zh5
    have ze6 := R_f_Y_refuseUnless_3 (d + 7) Y T H2 H RV RU ST NS I0 I1 I2 BO FI RG GU PU MA MN MS OT SC w r5 L Lg v1 zh5
    cases q2 with
    | zero =>
      have h := itp h rfl
      suffices e : Ev (d + 8, 0, 0, 285, 30, [.val (.ref 64), .val (.int p1)], [], (126, 120, L, [Y_3, T, H2, H, RV, RU, ST, NS, I0, I1, I2, BO, FI, RG, GU, PU, MA, MN, MS, OT, SC], [256, 192, 384, 320, w, r5, 576, 640, 704], Lg)) o from ev_call (fun v μ => (d + 8, 0, 0, 285, 30, [.val (.ref 64), .val (.int p1)], v.toList ++ [], μ)) 1 ze6 e (fun n => Eq.refl _)
      obtain ⟨⟨T_4, w5⟩, zh7, h⟩ := bnd h
      have zh7 : f_Tape_open T p1 = some (T_4, w5) := zh7
      have ze8 := R_f_Tape_open_0 (d + 1) Y_3 T H2 H RV RU ST NS I0 I1 I2 BO FI RG GU PU MA MN MS OT SC 256 192 384 320 w r5 576 640 704 L Lg p1 zh7
      suffices e : Ev (d + 8, 0, 0, 285, 38, [.val (.ref 64), .val (.int p1)], [], (126, 120, L, [Y_3, T_4, H2, H, RV, RU, ST, NS, I0, I1, I2, BO, FI, RG, GU, PU, MA, MN, MS, OT, SC], [256, 192, 384, 320, w5, r5, 576, 640, 704], Lg)) o from ev_call (fun v μ => (d + 8, 0, 0, 285, 38, [.val (.ref 64), .val (.int p1)], v.toList ++ [], μ)) 4 ze8 e (fun n => Eq.refl _)
      suffices e : Ev (d + 8, 0, 0, 285, 50, [.val (.ref 64), .val (.int p1)], [.ref 256, .ref 128, .ref 448], (126, 120, L, [Y_3, T_4, H2, H, RV, RU, ST, NS, I0, I1, I2, BO, FI, RG, GU, PU, MA, MN, MS, OT, SC], [256, 192, 384, 320, w5, r5, 576, 640, 704], Lg)) o from ev_b 6 e (fun n => Eq.refl _)
      obtain ⟨⟨T_6, ST_7, w8⟩, zh9, h⟩ := bnd h
      have zh9 : f_Target_read T_4 H ST w5 = some (T_6, ST_7, w8) := zh9
      have ze10 := R_f_Target_read_1 (d + 0) Y_3 T_4 H2 H RV RU ST NS I0 I1 I2 BO FI RG GU PU MA MN MS OT SC 256 192 384 320 w5 r5 576 640 704 L Lg zh9
      suffices e : Ev (d + 8, 0, 0, 285, 53, [.val (.ref 64), .val (.int p1)], [], (126, 120, L, [Y_3, T_6, H2, H, RV, RU, ST_7, NS, I0, I1, I2, BO, FI, RG, GU, PU, MA, MN, MS, OT, SC], [256, 192, 384, 320, w8, r5, 576, 640, 704], Lg)) o from ev_call (fun v μ => (d + 8, 0, 0, 285, 53, [.val (.ref 64), .val (.int p1)], v.toList ++ [], μ)) 1 ze10 e (fun n => Eq.refl _)
      obtain ⟨T_9, zh11, h⟩ := bnd h
      have zh11 : f_Tape_empty T_6 = some T_9 := zh11
      have ze12 := R_f_Tape_empty_0 (d + 7) Y_3 T_6 H2 H RV RU ST_7 NS I0 I1 I2 BO FI RG GU PU MA MN MS OT SC 256 192 384 320 w8 r5 576 640 704 L Lg zh11
      suffices e : Ev (d + 8, 0, 0, 285, 60, [.val (.ref 64), .val (.int p1)], [], (126, 120, L, [Y_3, T_9, H2, H, RV, RU, ST_7, NS, I0, I1, I2, BO, FI, RG, GU, PU, MA, MN, MS, OT, SC], [256, 192, 384, 320, w8, r5, 576, 640, 704], Lg)) o from ev_call (fun v μ => (d + 8, 0, 0, 285, 60, [.val (.ref 64), .val (.int p1)], v.toList ++ [], μ)) 3 ze12 e (fun n => Eq.refl _)
      obtain ⟨x10, zh13, h⟩ := bnd h
      have zh13 : f_Tape_failed T_9 = some x10 := zh13
      have ze14 := R_f_Tape_failed_0 (d + 7) Y_3 T_9 H2 H RV RU ST_7 NS I0 I1 I2 BO FI RG GU PU MA MN MS OT SC 256 192 384 320 w8 r5 576 640 704 L Lg zh13
      suffices e : Ev (d + 8, 0, 0, 285, 67, [.val (.ref 64), .val (.int p1)], [.int x10], (126, 120, L, [Y_3, T_9, H2, H, RV, RU, ST_7, NS, I0, I1, I2, BO, FI, RG, GU, PU, MA, MN, MS, OT, SC], [256, 192, 384, 320, w8, r5, 576, 640, 704], Lg)) o from ev_call (fun v μ => (d + 8, 0, 0, 285, 67, [.val (.ref 64), .val (.int p1)], v.toList ++ [], μ)) 3 ze14 e (fun n => Eq.refl _)
      by_cases zc15 : x10 = 0
      · have h := itp h zc15
        suffices e : Ev (d + 8, 0, 0, 285, 81, [.val (.ref 64), .val (.int p1)], [], (126, 120, L, [Y_3, T_9, H2, H, RV, RU, ST_7, NS, I0, I1, I2, BO, FI, RG, GU, PU, MA, MN, MS, OT, SC], [256, 192, 384, 320, w8, r5, 576, 640, 704], Lg)) o from ev_t (c := x10 = 0) _ _ 1  zc15 e (fun n => Eq.refl _)
        obtain ⟨NS_11, zh16, h⟩ := bnd h
        have zh16 : f_Target_copy ST_7 NS = some NS_11 := zh16
        have ze17 := R_f_Target_copy_0 (d + 6) Y_3 T_9 H2 H RV RU ST_7 NS I0 I1 I2 BO FI RG GU PU MA MN MS OT SC 256 192 384 320 w8 r5 576 640 704 L Lg zh16
        suffices e : Ev (d + 8, 0, 0, 285, 95, [.val (.ref 64), .val (.int p1)], [], (126, 120, L, [Y_3, T_9, H2, H, RV, RU, ST_7, NS_11, I0, I1, I2, BO, FI, RG, GU, PU, MA, MN, MS, OT, SC], [256, 192, 384, 320, w8, r5, 576, 640, 704], Lg)) o from ev_call (fun v μ => (d + 8, 0, 0, 285, 95, [.val (.ref 64), .val (.int p1)], v.toList ++ [], μ)) 6 ze17 e (fun n => Eq.refl _)
        have ze18 := Option.some.inj h
        subst ze18
        exact ev_rete 5 ho (fun n => Eq.refl _)
      · have h := itn h zc15
        suffices e : Ev (d + 8, 0, 0, 285, 70, [.val (.ref 64), .val (.int p1)], [], (126, 120, L, [Y_3, T_9, H2, H, RV, RU, ST_7, NS, I0, I1, I2, BO, FI, RG, GU, PU, MA, MN, MS, OT, SC], [256, 192, 384, 320, w8, r5, 576, 640, 704], Lg)) o from ev_f (c := x10 = 0) _ _ 1  zc15 e (fun n => Eq.refl _)
        have ze19 := Option.some.inj h
        subst ze19
        exact ev_rete 6 ho (fun n => Eq.refl _)
    | succ q2 =>
      have h := itn h (Nat.succ_ne_zero q2)
      have ze20 := Option.some.inj h
      subst ze20
      subst ho
      exact ev_thr (fun v μ => (d + 8, 0, 0, 285, 30, [.val (.ref 64), .val (.int p1)], v.toList ++ [], μ)) 1 ze6 (fun n => Eq.refl _) (fun n => rfl)
  obtain ⟨zt21, zh22, zh2⟩ := bnd zh2
  have zj23 : zt21 = .inl () → Ev (d + 8, 1, 8, 285, 26, [.val (.ref 64), .val (.int p1)], [.ref 64], (126, 120, L, [Y, T, H2, H, RV, RU, ST, NS, I0, I1, I2, BO, FI, RG, GU, PU, MA, MN, MS, OT, SC], [256, 192, 384, 320, w, r5, 576, 640, 704], Lg)) o := by
    intro ze24
    have zh2 := sum_l zh2 ze24
    exact ev_b 1 (zj3 0 (Option.some.inj zh2) ) (fun n => Eq.refl _)
  by_cases zc25 : p1 < 0
  · have zh22 := itp zh22 zc25
    suffices e : Ev (d + 8, 1, 8, 285, 26, [.val (.ref 64), .val (.int p1)], [.ref 64], (126, 120, L, [Y, T, H2, H, RV, RU, ST, NS, I0, I1, I2, BO, FI, RG, GU, PU, MA, MN, MS, OT, SC], [256, 192, 384, 320, w, r5, 576, 640, 704], Lg)) o from ev_t (c := p1 < 0) _ _ 3  zc25 e (fun n => Eq.refl _)
    exact ev_b 0 (zj23  (Option.some.inj zh22).symm ) (fun n => Eq.refl _)
  · have zh22 := itn zh22 zc25
    suffices e : Ev (d + 8, 1, 8, 285, 5, [.val (.ref 64), .val (.int p1)], [.ref 64], (126, 120, L, [Y, T, H2, H, RV, RU, ST, NS, I0, I1, I2, BO, FI, RG, GU, PU, MA, MN, MS, OT, SC], [256, 192, 384, 320, w, r5, 576, 640, 704], Lg)) o from ev_f (c := p1 < 0) _ _ 3  zc25 e (fun n => Eq.refl _)
    by_cases zc26 : (T 0 1) < p1
    · have zh22 := itp zh22 zc26
      suffices e : Ev (d + 8, 1, 8, 285, 26, [.val (.ref 64), .val (.int p1)], [.ref 64], (126, 120, L, [Y, T, H2, H, RV, RU, ST, NS, I0, I1, I2, BO, FI, RG, GU, PU, MA, MN, MS, OT, SC], [256, 192, 384, 320, w, r5, 576, 640, 704], Lg)) o from ev_t (c := (T 0 1) < p1) _ _ 5  zc26 e (fun n => Eq.refl _)
      exact ev_b 0 (zj23  (Option.some.inj zh22).symm ) (fun n => Eq.refl _)
    · have zh22 := itn zh22 zc26
      suffices e : Ev (d + 8, 1, 8, 285, 16, [.val (.ref 64), .val (.int p1)], [.ref 64], (126, 120, L, [Y, T, H2, H, RV, RU, ST, NS, I0, I1, I2, BO, FI, RG, GU, PU, MA, MN, MS, OT, SC], [256, 192, 384, 320, w, r5, 576, 640, 704], Lg)) o from ev_f (c := (T 0 1) < p1) _ _ 5  zc26 e (fun n => Eq.refl _)
      by_cases zc27 : 120 < p1
      · have zh22 := itp zh22 zc27
        suffices e : Ev (d + 8, 1, 8, 285, 26, [.val (.ref 64), .val (.int p1)], [.ref 64], (126, 120, L, [Y, T, H2, H, RV, RU, ST, NS, I0, I1, I2, BO, FI, RG, GU, PU, MA, MN, MS, OT, SC], [256, 192, 384, 320, w, r5, 576, 640, 704], Lg)) o from ev_t (c := 120 < p1) _ _ 3  zc27 e (fun n => Eq.refl _)
        exact ev_b 0 (zj23  (Option.some.inj zh22).symm ) (fun n => Eq.refl _)
      · have zh22 := itn zh22 zc27
        suffices e : Ev (d + 8, 1, 8, 285, 22, [.val (.ref 64), .val (.int p1)], [.ref 64], (126, 120, L, [Y, T, H2, H, RV, RU, ST, NS, I0, I1, I2, BO, FI, RG, GU, PU, MA, MN, MS, OT, SC], [256, 192, 384, 320, w, r5, 576, 640, 704], Lg)) o from ev_f (c := 120 < p1) _ _ 3  zc27 e (fun n => Eq.refl _)
        have zh28 := sum_r zh2 (Option.some.inj zh22).symm
        exact ev_b 2 (zj3 1 (Option.some.inj zh28) ) (fun n => Eq.refl _)
set_option maxRecDepth 1000000 in
set_option maxHeartbeats 4000000 in
theorem R_f_Rule_emit_0 (d : Nat) (Y T HA HB RV RU ST NS I0 I1 I2 BO FI RG GU PU MA MN MS OT SC : Nat → Nat → Int32) (r0 r1 r2 r3 w r5 r6 r7 r8 : Nat) (L : Nat) (Lg : Int64) (p1 : Int32) {r : (Nat → Nat → Int32)} (h : f_Rule_emit RU p1 = some r) : Ev (d + 0, 0, 0, 242, 0, [.val (.ref 384), .val (.int p1)], [], (126, 120, L, [Y, T, HA, HB, RV, RU, ST, NS, I0, I1, I2, BO, FI, RG, GU, PU, MA, MN, MS, OT, SC], [r0, r1, r2, r3, w, r5, r6, r7, r8], Lg)) ((0, none, (126, 120, L, [Y, T, HA, HB, RV, r, ST, NS, I0, I1, I2, BO, FI, RG, GU, PU, MA, MN, MS, OT, SC], [r0, r1, r2, r3, w, r5, r6, r7, r8], Lg)) : AOut) := by
  suffices key : ∀ o : AOut, ((0, none, (126, 120, L, [Y, T, HA, HB, RV, r, ST, NS, I0, I1, I2, BO, FI, RG, GU, PU, MA, MN, MS, OT, SC], [r0, r1, r2, r3, w, r5, r6, r7, r8], Lg)) : AOut) = o → Ev (d + 0, 0, 0, 242, 0, [.val (.ref 384), .val (.int p1)], [], (126, 120, L, [Y, T, HA, HB, RV, RU, ST, NS, I0, I1, I2, BO, FI, RG, GU, PU, MA, MN, MS, OT, SC], [r0, r1, r2, r3, w, r5, r6, r7, r8], Lg)) o from key _ rfl
  intro o ho
  by_cases zc1 : 150 ≤ (RU 0 1)
  · have h := itp h zc1
    suffices e : Ev (d + 0, 0, 0, 242, 30, [.val (.ref 384), .val (.int p1)], [], (126, 120, L, [Y, T, HA, HB, RV, RU, ST, NS, I0, I1, I2, BO, FI, RG, GU, PU, MA, MN, MS, OT, SC], [r0, r1, r2, r3, w, r5, r6, r7, r8], Lg)) o from ev_t (c := 150 ≤ (RU 0 1)) _ _ 4  zc1 e (fun n => Eq.refl _)
    have ze2 := Option.some.inj h
    subst ze2
    exact ev_rete 1 ho (fun n => Eq.refl _)
  · have h := itn h zc1
    suffices e : Ev (d + 0, 0, 0, 242, 10, [.val (.ref 384), .val (.int p1)], [], (126, 120, L, [Y, T, HA, HB, RV, RU, ST, NS, I0, I1, I2, BO, FI, RG, GU, PU, MA, MN, MS, OT, SC], [r0, r1, r2, r3, w, r5, r6, r7, r8], Lg)) o from ev_f (c := 150 ≤ (RU 0 1)) _ _ 4  zc1 e (fun n => Eq.refl _)
    obtain ⟨j1, zh3, h⟩ := bnd h
    have zh3 : ixx 150 (RU 0 1) = some j1 := zh3
    suffices e : Ev (d + 0, 0, 0, 242, 20, [.val (.ref 384), .val (.int p1)], [], (126, 120, L, [Y, T, HA, HB, RV, (u2 RU 1 j1 p1), ST, NS, I0, I1, I2, BO, FI, RG, GU, PU, MA, MN, MS, OT, SC], [r0, r1, r2, r3, w, r5, r6, r7, r8], Lg)) o from ev_opt (fun j1 => (d + 0, 0, 0, 242, 20, [.val (.ref 384), .val (.int p1)], [], (126, 120, L, [Y, T, HA, HB, RV, (u2 RU 1 j1 p1), ST, NS, I0, I1, I2, BO, FI, RG, GU, PU, MA, MN, MS, OT, SC], [r0, r1, r2, r3, w, r5, r6, r7, r8], Lg))) 6 zh3 e (fun n => Eq.refl _)
    have ze4 := Option.some.inj h
    subst ze4
    exact ev_rete 7 ho (fun n => Eq.refl _)
set_option maxRecDepth 1000000 in
set_option maxHeartbeats 4000000 in
theorem R_f_Rule_opens_0 (d : Nat) (Y T HA HB RV RU ST NS I0 I1 I2 BO FI RG GU PU MA MN MS OT SC : Nat → Nat → Int32) (r0 r1 r2 r3 w r5 r6 r7 r8 : Nat) (L : Nat) (Lg : Int64) (p2 : Int32) {r : Int32 × (Nat → Nat → Int32) × Nat} (h : f_Rule_opens T w p2 = some r) : Ev (d + 6, 0, 0, 246, 0, [.val (.ref 384), .val (.ref 128), .val (.int p2)], [], (126, 120, L, [Y, T, HA, HB, RV, RU, ST, NS, I0, I1, I2, BO, FI, RG, GU, PU, MA, MN, MS, OT, SC], [r0, r1, r2, r3, w, r5, r6, r7, r8], Lg)) ((0, some (.int r.1), (126, 120, L, [Y, r.2.1, HA, HB, RV, RU, ST, NS, I0, I1, I2, BO, FI, RG, GU, PU, MA, MN, MS, OT, SC], [r0, r1, r2, r3, r.2.2, r5, r6, r7, r8], Lg)) : AOut) := by
  suffices key : ∀ o : AOut, ((0, some (.int r.1), (126, 120, L, [Y, r.2.1, HA, HB, RV, RU, ST, NS, I0, I1, I2, BO, FI, RG, GU, PU, MA, MN, MS, OT, SC], [r0, r1, r2, r3, r.2.2, r5, r6, r7, r8], Lg)) : AOut) = o → Ev (d + 6, 0, 0, 246, 0, [.val (.ref 384), .val (.ref 128), .val (.int p2)], [], (126, 120, L, [Y, T, HA, HB, RV, RU, ST, NS, I0, I1, I2, BO, FI, RG, GU, PU, MA, MN, MS, OT, SC], [r0, r1, r2, r3, w, r5, r6, r7, r8], Lg)) o from key _ rfl
  intro o ho
  by_cases zc1 : p2 < 6
  · have h := itp h zc1
    suffices e : Ev (d + 6, 0, 0, 246, 13, [.val (.ref 384), .val (.ref 128), .val (.int p2)], [], (126, 120, L, [Y, T, HA, HB, RV, RU, ST, NS, I0, I1, I2, BO, FI, RG, GU, PU, MA, MN, MS, OT, SC], [r0, r1, r2, r3, w, r5, r6, r7, r8], Lg)) o from ev_t (c := p2 < 6) _ _ 3  zc1 e (fun n => Eq.refl _)
    obtain ⟨⟨T_1, w2⟩, zh2, h⟩ := bnd h
    have zh2 : f_Tape_advance T = some (T_1, w2) := zh2
    have ze3 := R_f_Tape_advance_0 (d + 0) Y T HA HB RV RU ST NS I0 I1 I2 BO FI RG GU PU MA MN MS OT SC r0 r1 r2 r3 w r5 r6 r7 r8 L Lg zh2
    suffices e : Ev (d + 6, 0, 0, 246, 17, [.val (.ref 384), .val (.ref 128), .val (.int p2)], [], (126, 120, L, [Y, T_1, HA, HB, RV, RU, ST, NS, I0, I1, I2, BO, FI, RG, GU, PU, MA, MN, MS, OT, SC], [r0, r1, r2, r3, w2, r5, r6, r7, r8], Lg)) o from ev_call (fun v μ => (d + 6, 0, 0, 246, 17, [.val (.ref 384), .val (.ref 128), .val (.int p2)], v.toList ++ [], μ)) 2 ze3 e (fun n => Eq.refl _)
    have ze4 := Option.some.inj h
    subst ze4
    exact ev_rete 2 ho (fun n => Eq.refl _)
  · have h := itn h zc1
    suffices e : Ev (d + 6, 0, 0, 246, 6, [.val (.ref 384), .val (.ref 128), .val (.int p2)], [], (126, 120, L, [Y, T, HA, HB, RV, RU, ST, NS, I0, I1, I2, BO, FI, RG, GU, PU, MA, MN, MS, OT, SC], [r0, r1, r2, r3, w, r5, r6, r7, r8], Lg)) o from ev_f (c := p2 < 6) _ _ 3  zc1 e (fun n => Eq.refl _)
    obtain ⟨T_3, zh5, h⟩ := bnd h
    have zh5 : f_Tape_fail T 3 = some T_3 := zh5
    have ze6 := R_f_Tape_fail_0 (d + 5) Y T HA HB RV RU ST NS I0 I1 I2 BO FI RG GU PU MA MN MS OT SC r0 r1 r2 r3 w r5 r6 r7 r8 L Lg 3 zh5
    suffices e : Ev (d + 6, 0, 0, 246, 11, [.val (.ref 384), .val (.ref 128), .val (.int p2)], [], (126, 120, L, [Y, T_3, HA, HB, RV, RU, ST, NS, I0, I1, I2, BO, FI, RG, GU, PU, MA, MN, MS, OT, SC], [r0, r1, r2, r3, w, r5, r6, r7, r8], Lg)) o from ev_call (fun v μ => (d + 6, 0, 0, 246, 11, [.val (.ref 384), .val (.ref 128), .val (.int p2)], v.toList ++ [], μ)) 3 ze6 e (fun n => Eq.refl _)
    have ze7 := Option.some.inj h
    subst ze7
    exact ev_rete 2 ho (fun n => Eq.refl _)
set_option maxRecDepth 1000000 in
set_option maxHeartbeats 4000000 in
theorem R_f_Rule_readAny_B_0 (d : Nat) (rc : (Nat → (Nat → Nat → Int32) → (Nat → Nat → Int32) → Nat → Int32 → Option ((Nat → Nat → Int32) × (Nat → Nat → Int32) × Nat)))
    (zrc0 : ∀ (Y T HA HB RV RU ST NS I0 I1 I2 BO FI RG GU PU MA MN MS OT SC : Nat → Nat → Int32) (r0 r1 r2 r3 w r5 r6 r7 r8 : Nat) (L : Nat) (Lg : Int64) (p2 : Int32) (r : (Nat → Nat → Int32) × (Nat → Nat → Int32) × Nat), rc 0 T RU w p2 = some r → Ev (d + 6, 0, 0, 243, 0, [.val (.ref 384), .val (.ref 128), .val (.int p2), .val a_unk], [], (126, 120, L, [Y, T, HA, HB, RV, RU, ST, NS, I0, I1, I2, BO, FI, RG, GU, PU, MA, MN, MS, OT, SC], [r0, r1, r2, r3, w, r5, r6, r7, r8], Lg)) ((0, none, (126, 120, L, [Y, r.1, HA, HB, RV, r.2.1, ST, NS, I0, I1, I2, BO, FI, RG, GU, PU, MA, MN, MS, OT, SC], [r0, r1, r2, r3, r.2.2, r5, r6, r7, r8], Lg)) : AOut))
    (zrc1 : ∀ (Y T HA HB RV RU ST NS I0 I1 I2 BO FI RG GU PU MA MN MS OT SC : Nat → Nat → Int32) (r0 r1 r2 r3 w r5 r6 r7 r8 : Nat) (L : Nat) (Lg : Int64) (p2 : Int32) (r : (Nat → Nat → Int32) × (Nat → Nat → Int32) × Nat), rc 1 T RU w p2 = some r → Ev (d + 6, 0, 0, 244, 0, [.val (.ref 384), .val (.ref 128), .val (.int p2), .val a_unk], [], (126, 120, L, [Y, T, HA, HB, RV, RU, ST, NS, I0, I1, I2, BO, FI, RG, GU, PU, MA, MN, MS, OT, SC], [r0, r1, r2, r3, w, r5, r6, r7, r8], Lg)) ((0, none, (126, 120, L, [Y, r.1, HA, HB, RV, r.2.1, ST, NS, I0, I1, I2, BO, FI, RG, GU, PU, MA, MN, MS, OT, SC], [r0, r1, r2, r3, r.2.2, r5, r6, r7, r8], Lg)) : AOut))
    (zrc2 : ∀ (Y T HA HB RV RU ST NS I0 I1 I2 BO FI RG GU PU MA MN MS OT SC : Nat → Nat → Int32) (r0 r1 r2 r3 w r5 r6 r7 r8 : Nat) (L : Nat) (Lg : Int64) (p2 : Int32) (r : (Nat → Nat → Int32) × (Nat → Nat → Int32) × Nat), rc 2 T RU w p2 = some r → Ev (d + 6, 0, 0, 245, 0, [.val (.ref 384), .val (.ref 128), .val (.int p2)], [], (126, 120, L, [Y, T, HA, HB, RV, RU, ST, NS, I0, I1, I2, BO, FI, RG, GU, PU, MA, MN, MS, OT, SC], [r0, r1, r2, r3, w, r5, r6, r7, r8], Lg)) ((0, none, (126, 120, L, [Y, r.1, HA, HB, RV, r.2.1, ST, NS, I0, I1, I2, BO, FI, RG, GU, PU, MA, MN, MS, OT, SC], [r0, r1, r2, r3, r.2.2, r5, r6, r7, r8], Lg)) : AOut))
    (zrc3 : ∀ (Y T HA HB RV RU ST NS I0 I1 I2 BO FI RG GU PU MA MN MS OT SC : Nat → Nat → Int32) (r0 r1 r2 r3 w r5 r6 r7 r8 : Nat) (L : Nat) (Lg : Int64) (p2 : Int32) (r : (Nat → Nat → Int32) × (Nat → Nat → Int32) × Nat), rc 3 T RU w p2 = some r → Ev (d + 6, 0, 0, 248, 0, [.val (.ref 384), .val (.ref 128), .val (.int p2), .val a_unk, .val a_unk], [], (126, 120, L, [Y, T, HA, HB, RV, RU, ST, NS, I0, I1, I2, BO, FI, RG, GU, PU, MA, MN, MS, OT, SC], [r0, r1, r2, r3, w, r5, r6, r7, r8], Lg)) ((0, none, (126, 120, L, [Y, r.1, HA, HB, RV, r.2.1, ST, NS, I0, I1, I2, BO, FI, RG, GU, PU, MA, MN, MS, OT, SC], [r0, r1, r2, r3, r.2.2, r5, r6, r7, r8], Lg)) : AOut))
    (zrc4 : ∀ (Y T HA HB RV RU ST NS I0 I1 I2 BO FI RG GU PU MA MN MS OT SC : Nat → Nat → Int32) (r0 r1 r2 r3 w r5 r6 r7 r8 : Nat) (L : Nat) (Lg : Int64) (p2 : Int32) (r : (Nat → Nat → Int32) × (Nat → Nat → Int32) × Nat), rc 4 T RU w p2 = some r → Ev (d + 6, 0, 0, 249, 0, [.val (.ref 384), .val (.ref 128), .val (.int p2), .val a_unk], [], (126, 120, L, [Y, T, HA, HB, RV, RU, ST, NS, I0, I1, I2, BO, FI, RG, GU, PU, MA, MN, MS, OT, SC], [r0, r1, r2, r3, w, r5, r6, r7, r8], Lg)) ((0, none, (126, 120, L, [Y, r.1, HA, HB, RV, r.2.1, ST, NS, I0, I1, I2, BO, FI, RG, GU, PU, MA, MN, MS, OT, SC], [r0, r1, r2, r3, r.2.2, r5, r6, r7, r8], Lg)) : AOut))
    (zrc5 : ∀ (Y T HA HB RV RU ST NS I0 I1 I2 BO FI RG GU PU MA MN MS OT SC : Nat → Nat → Int32) (r0 r1 r2 r3 w r5 r6 r7 r8 : Nat) (L : Nat) (Lg : Int64) (p2 : Int32) (r : (Nat → Nat → Int32) × (Nat → Nat → Int32) × Nat), rc 5 T RU w p2 = some r → Ev (d + 6, 0, 0, 250, 0, [.val (.ref 384), .val (.ref 128), .val (.int p2), .val a_unk], [], (126, 120, L, [Y, T, HA, HB, RV, RU, ST, NS, I0, I1, I2, BO, FI, RG, GU, PU, MA, MN, MS, OT, SC], [r0, r1, r2, r3, w, r5, r6, r7, r8], Lg)) ((0, none, (126, 120, L, [Y, r.1, HA, HB, RV, r.2.1, ST, NS, I0, I1, I2, BO, FI, RG, GU, PU, MA, MN, MS, OT, SC], [r0, r1, r2, r3, r.2.2, r5, r6, r7, r8], Lg)) : AOut))
    (zrc6 : ∀ (Y T HA HB RV RU ST NS I0 I1 I2 BO FI RG GU PU MA MN MS OT SC : Nat → Nat → Int32) (r0 r1 r2 r3 w r5 r6 r7 r8 : Nat) (L : Nat) (Lg : Int64) (p2 : Int32) (r : (Nat → Nat → Int32) × (Nat → Nat → Int32) × Nat), rc 6 T RU w p2 = some r → Ev (d + 6, 0, 0, 247, 0, [.val (.ref 384), .val (.ref 128), .val (.int p2), .val a_unk], [], (126, 120, L, [Y, T, HA, HB, RV, RU, ST, NS, I0, I1, I2, BO, FI, RG, GU, PU, MA, MN, MS, OT, SC], [r0, r1, r2, r3, w, r5, r6, r7, r8], Lg)) ((0, none, (126, 120, L, [Y, r.1, HA, HB, RV, r.2.1, ST, NS, I0, I1, I2, BO, FI, RG, GU, PU, MA, MN, MS, OT, SC], [r0, r1, r2, r3, r.2.2, r5, r6, r7, r8], Lg)) : AOut))
    (Y T HA HB RV RU ST NS I0 I1 I2 BO FI RG GU PU MA MN MS OT SC : Nat → Nat → Int32) (r0 r1 r2 r3 w r5 r6 r7 r8 : Nat) (L : Nat) (Lg : Int64) (p2 : Int32) {r : (Nat → Nat → Int32) × (Nat → Nat → Int32) × Nat} (h : f_Rule_readAny_B rc T RU w p2 = some r) : Ev (d + 7, 0, 0, 243, 0, [.val (.ref 384), .val (.ref 128), .val (.int p2), .val a_unk], [], (126, 120, L, [Y, T, HA, HB, RV, RU, ST, NS, I0, I1, I2, BO, FI, RG, GU, PU, MA, MN, MS, OT, SC], [r0, r1, r2, r3, w, r5, r6, r7, r8], Lg)) ((0, none, (126, 120, L, [Y, r.1, HA, HB, RV, r.2.1, ST, NS, I0, I1, I2, BO, FI, RG, GU, PU, MA, MN, MS, OT, SC], [r0, r1, r2, r3, r.2.2, r5, r6, r7, r8], Lg)) : AOut) := by
  suffices key : ∀ o : AOut, ((0, none, (126, 120, L, [Y, r.1, HA, HB, RV, r.2.1, ST, NS, I0, I1, I2, BO, FI, RG, GU, PU, MA, MN, MS, OT, SC], [r0, r1, r2, r3, r.2.2, r5, r6, r7, r8], Lg)) : AOut) = o → Ev (d + 7, 0, 0, 243, 0, [.val (.ref 384), .val (.ref 128), .val (.int p2), .val a_unk], [], (126, 120, L, [Y, T, HA, HB, RV, RU, ST, NS, I0, I1, I2, BO, FI, RG, GU, PU, MA, MN, MS, OT, SC], [r0, r1, r2, r3, w, r5, r6, r7, r8], Lg)) o from key _ rfl
  intro o ho
  obtain ⟨⟨T_1, RU_2, w3⟩, zh1, h⟩ := bnd h
  have zh1 : rc 1 T RU w p2 = some (T_1, RU_2, w3) := zh1
  have ze2 := zrc1 Y T HA HB RV RU ST NS I0 I1 I2 BO FI RG GU PU MA MN MS OT SC r0 r1 r2 r3 w r5 r6 r7 r8 L Lg p2 _ zh1
  suffices e : Ev (d + 7, 0, 0, 243, 6, [.val (.ref 384), .val (.ref 128), .val (.int p2), .val a_unk], [], (126, 120, L, [Y, T_1, HA, HB, RV, RU_2, ST, NS, I0, I1, I2, BO, FI, RG, GU, PU, MA, MN, MS, OT, SC], [r0, r1, r2, r3, w3, r5, r6, r7, r8], Lg)) o from ev_call (fun v μ => (d + 7, 0, 0, 243, 6, [.val (.ref 384), .val (.ref 128), .val (.int p2), .val a_unk], v.toList ++ [], μ)) 4 ze2 e (fun n => Eq.refl _)
  obtain ⟨zb3, zh4, h⟩ := bnd h
  suffices e : Ev (d + 7, 0, 0, 243, 8, [.val (.ref 384), .val (.ref 128), .val (.int p2), .val (.int 0)], [], (126, 120, L, [Y, T_1, HA, HB, RV, RU_2, ST, NS, I0, I1, I2, BO, FI, RG, GU, PU, MA, MN, MS, OT, SC], [r0, r1, r2, r3, w3, r5, r6, r7, r8], Lg)) o from ev_b 2 e (fun n => Eq.refl _)
  refine ev_loop (δ := Unit) (fun a j => (d + 7, 0, 0, 243, 8, [.val (.ref 384), .val (.ref 128), .val (.int p2), .val (.int a.1)], [], (126, 120, L, [Y, a.2.1, HA, HB, RV, a.2.2.1, ST, NS, I0, I1, I2, BO, FI, RG, GU, PU, MA, MN, MS, OT, SC], [r0, r1, r2, r3, a.2.2.2, r5, r6, r7, r8], Lg))) (fun b => ∀ s15 : Value, Ev (d + 7, 0, 0, 243, 55, [.val (.ref 384), .val (.ref 128), .val (.int p2), .val s15], [], (126, 120, L, [Y, b.1, HA, HB, RV, b.2.1, ST, NS, I0, I1, I2, BO, FI, RG, GU, PU, MA, MN, MS, OT, SC], [r0, r1, r2, r3, b.2.2, r5, r6, r7, r8], Lg)) o) ?_ a_F (0, T_1, RU_2, w3) zb3 zh4 ?_ ()
  · rintro ⟨v4, T_5, RU_6, w7⟩ zr8 zh7 zi5 zx6 ⟨⟩
    have zh7 : f_Rule_readAny_B_l8 rc p2 v4 T_5 RU_6 w7 = some zr8 := zh7
    by_cases zc9 : 150 ≤ v4
    · have zh7 := itp zh7 zc9
      suffices e : Ev (d + 7, 0, 0, 243, 55, [.val (.ref 384), .val (.ref 128), .val (.int p2), .val (.int v4)], [], (126, 120, L, [Y, T_5, HA, HB, RV, RU_6, ST, NS, I0, I1, I2, BO, FI, RG, GU, PU, MA, MN, MS, OT, SC], [r0, r1, r2, r3, w7, r5, r6, r7, r8], Lg)) o from ev_t (c := 150 ≤ v4) _ _ 3  zc9 e (fun n => Eq.refl _)
      exact ev_b 0 (zx6 _ (Option.some.inj zh7).symm (.int v4)) (fun n => Eq.refl _)
    · have zh7 := itn zh7 zc9
      suffices e : Ev (d + 7, 0, 0, 243, 15, [.val (.ref 384), .val (.ref 128), .val (.int p2), .val (.int v4)], [], (126, 120, L, [Y, T_5, HA, HB, RV, RU_6, ST, NS, I0, I1, I2, BO, FI, RG, GU, PU, MA, MN, MS, OT, SC], [r0, r1, r2, r3, w7, r5, r6, r7, r8], Lg)) o from ev_f (c := 150 ≤ v4) _ _ 3  zc9 e (fun n => Eq.refl _)
      obtain ⟨x8, zh10, zh7⟩ := bnd zh7
      have zh10 : f_Tape_failed T_5 = some x8 := zh10
      have ze11 := R_f_Tape_failed_0 (d + 6) Y T_5 HA HB RV RU_6 ST NS I0 I1 I2 BO FI RG GU PU MA MN MS OT SC r0 r1 r2 r3 w7 r5 r6 r7 r8 L Lg zh10
      suffices e : Ev (d + 7, 0, 0, 243, 19, [.val (.ref 384), .val (.ref 128), .val (.int p2), .val (.int v4)], [.int x8], (126, 120, L, [Y, T_5, HA, HB, RV, RU_6, ST, NS, I0, I1, I2, BO, FI, RG, GU, PU, MA, MN, MS, OT, SC], [r0, r1, r2, r3, w7, r5, r6, r7, r8], Lg)) o from ev_call (fun v μ => (d + 7, 0, 0, 243, 19, [.val (.ref 384), .val (.ref 128), .val (.int p2), .val (.int v4)], v.toList ++ [], μ)) 2 ze11 e (fun n => Eq.refl _)
      by_cases zc12 : x8 ≠ 0
      · have zh7 := itp zh7 zc12
        suffices e : Ev (d + 7, 0, 0, 243, 55, [.val (.ref 384), .val (.ref 128), .val (.int p2), .val (.int v4)], [], (126, 120, L, [Y, T_5, HA, HB, RV, RU_6, ST, NS, I0, I1, I2, BO, FI, RG, GU, PU, MA, MN, MS, OT, SC], [r0, r1, r2, r3, w7, r5, r6, r7, r8], Lg)) o from ev_t (c := x8 ≠ 0) _ _ 1  zc12 e (fun n => Eq.refl _)
        exact ev_b 0 (zx6 _ (Option.some.inj zh7).symm (.int v4)) (fun n => Eq.refl _)
      · have zh7 := itn zh7 zc12
        suffices e : Ev (d + 7, 0, 0, 243, 22, [.val (.ref 384), .val (.ref 128), .val (.int p2), .val (.int v4)], [], (126, 120, L, [Y, T_5, HA, HB, RV, RU_6, ST, NS, I0, I1, I2, BO, FI, RG, GU, PU, MA, MN, MS, OT, SC], [r0, r1, r2, r3, w7, r5, r6, r7, r8], Lg)) o from ev_f (c := x8 ≠ 0) _ _ 1  zc12 e (fun n => Eq.refl _)
        by_cases zg14 : ¬ (okW w7 ∧ okW 2570)
        · exact nos (itn zh7 zg14)
        have zg14 := Decidable.not_not.mp zg14
        have zh7 := itp zh7 zg14
        by_cases zc13 : w7 = 2570
        · have zh7 := itp zh7 zc13
          suffices e : Ev (d + 7, 0, 0, 243, 32, [.val (.ref 384), .val (.ref 128), .val (.int p2), .val (.int v4)], [], (126, 120, L, [Y, T_5, HA, HB, RV, RU_6, ST, NS, I0, I1, I2, BO, FI, RG, GU, PU, MA, MN, MS, OT, SC], [r0, r1, r2, r3, w7, r5, r6, r7, r8], Lg)) o from ev_gt (c := w7 = 2570) _ _ 4 zg14 zc13 e (fun n => Eq.refl _)
          obtain ⟨⟨T_9, w10⟩, zh15, zh7⟩ := bnd zh7
          have zh15 : f_Tape_advance T_5 = some (T_9, w10) := zh15
          have ze16 := R_f_Tape_advance_0 (d + 1) Y T_5 HA HB RV RU_6 ST NS I0 I1 I2 BO FI RG GU PU MA MN MS OT SC r0 r1 r2 r3 w7 r5 r6 r7 r8 L Lg zh15
          suffices e : Ev (d + 7, 0, 0, 243, 36, [.val (.ref 384), .val (.ref 128), .val (.int p2), .val (.int v4)], [], (126, 120, L, [Y, T_9, HA, HB, RV, RU_6, ST, NS, I0, I1, I2, BO, FI, RG, GU, PU, MA, MN, MS, OT, SC], [r0, r1, r2, r3, w10, r5, r6, r7, r8], Lg)) o from ev_call (fun v μ => (d + 7, 0, 0, 243, 36, [.val (.ref 384), .val (.ref 128), .val (.int p2), .val (.int v4)], v.toList ++ [], μ)) 2 ze16 e (fun n => Eq.refl _)
          obtain ⟨⟨T_11, RU_12, w13⟩, zh17, zh7⟩ := bnd zh7
          have zh17 : rc 1 T_9 RU_6 w10 p2 = some (T_11, RU_12, w13) := zh17
          have ze18 := zrc1 Y T_9 HA HB RV RU_6 ST NS I0 I1 I2 BO FI RG GU PU MA MN MS OT SC r0 r1 r2 r3 w10 r5 r6 r7 r8 L Lg p2 _ zh17
          suffices e : Ev (d + 7, 0, 0, 243, 42, [.val (.ref 384), .val (.ref 128), .val (.int p2), .val (.int v4)], [], (126, 120, L, [Y, T_11, HA, HB, RV, RU_12, ST, NS, I0, I1, I2, BO, FI, RG, GU, PU, MA, MN, MS, OT, SC], [r0, r1, r2, r3, w13, r5, r6, r7, r8], Lg)) o from ev_call (fun v μ => (d + 7, 0, 0, 243, 42, [.val (.ref 384), .val (.ref 128), .val (.int p2), .val (.int v4)], v.toList ++ [], μ)) 4 ze18 e (fun n => Eq.refl _)
          obtain ⟨RU_14, zh19, zh7⟩ := bnd zh7
          have zh19 : f_Rule_emit RU_12 202 = some RU_14 := zh19
          have ze20 := R_f_Rule_emit_0 (d + 6) Y T_11 HA HB RV RU_12 ST NS I0 I1 I2 BO FI RG GU PU MA MN MS OT SC r0 r1 r2 r3 w13 r5 r6 r7 r8 L Lg 202 zh19
          suffices e : Ev (d + 7, 0, 0, 243, 49, [.val (.ref 384), .val (.ref 128), .val (.int p2), .val (.int v4)], [], (126, 120, L, [Y, T_11, HA, HB, RV, RU_14, ST, NS, I0, I1, I2, BO, FI, RG, GU, PU, MA, MN, MS, OT, SC], [r0, r1, r2, r3, w13, r5, r6, r7, r8], Lg)) o from ev_call (fun v μ => (d + 7, 0, 0, 243, 49, [.val (.ref 384), .val (.ref 128), .val (.int p2), .val (.int v4)], v.toList ++ [], μ)) 3 ze20 e (fun n => Eq.refl _)
          exact ev_b 2 (zi5 _ (Option.some.inj zh7).symm ()) (fun n => Eq.refl _)
        · have zh7 := itn zh7 zc13
          suffices e : Ev (d + 7, 0, 0, 243, 55, [.val (.ref 384), .val (.ref 128), .val (.int p2), .val (.int v4)], [], (126, 120, L, [Y, T_5, HA, HB, RV, RU_6, ST, NS, I0, I1, I2, BO, FI, RG, GU, PU, MA, MN, MS, OT, SC], [r0, r1, r2, r3, w7, r5, r6, r7, r8], Lg)) o from ev_gf (c := w7 = 2570) _ _ 4 zg14 zc13 e (fun n => Eq.refl _)
          exact ev_b 0 (zx6 _ (Option.some.inj zh7).symm (.int v4)) (fun n => Eq.refl _)
  · obtain ⟨T_16, RU_17, w18⟩ := zb3
    intro s15
    have ze21 := Option.some.inj h
    subst ze21
    exact ev_rete 1 ho (fun n => Eq.refl _)
set_option maxRecDepth 1000000 in
set_option maxHeartbeats 4000000 in
theorem R_f_Rule_readAll_B_0 (d : Nat) (rc : (Nat → (Nat → Nat → Int32) → (Nat → Nat → Int32) → Nat → Int32 → Option ((Nat → Nat → Int32) × (Nat → Nat → Int32) × Nat)))
    (zrc0 : ∀ (Y T HA HB RV RU ST NS I0 I1 I2 BO FI RG GU PU MA MN MS OT SC : Nat → Nat → Int32) (r0 r1 r2 r3 w r5 r6 r7 r8 : Nat) (L : Nat) (Lg : Int64) (p2 : Int32) (r : (Nat → Nat → Int32) × (Nat → Nat → Int32) × Nat), rc 0 T RU w p2 = some r → Ev (d + 6, 0, 0, 243, 0, [.val (.ref 384), .val (.ref 128), .val (.int p2), .val a_unk], [], (126, 120, L, [Y, T, HA, HB, RV, RU, ST, NS, I0, I1, I2, BO, FI, RG, GU, PU, MA, MN, MS, OT, SC], [r0, r1, r2, r3, w, r5, r6, r7, r8], Lg)) ((0, none, (126, 120, L, [Y, r.1, HA, HB, RV, r.2.1, ST, NS, I0, I1, I2, BO, FI, RG, GU, PU, MA, MN, MS, OT, SC], [r0, r1, r2, r3, r.2.2, r5, r6, r7, r8], Lg)) : AOut))
    (zrc1 : ∀ (Y T HA HB RV RU ST NS I0 I1 I2 BO FI RG GU PU MA MN MS OT SC : Nat → Nat → Int32) (r0 r1 r2 r3 w r5 r6 r7 r8 : Nat) (L : Nat) (Lg : Int64) (p2 : Int32) (r : (Nat → Nat → Int32) × (Nat → Nat → Int32) × Nat), rc 1 T RU w p2 = some r → Ev (d + 6, 0, 0, 244, 0, [.val (.ref 384), .val (.ref 128), .val (.int p2), .val a_unk], [], (126, 120, L, [Y, T, HA, HB, RV, RU, ST, NS, I0, I1, I2, BO, FI, RG, GU, PU, MA, MN, MS, OT, SC], [r0, r1, r2, r3, w, r5, r6, r7, r8], Lg)) ((0, none, (126, 120, L, [Y, r.1, HA, HB, RV, r.2.1, ST, NS, I0, I1, I2, BO, FI, RG, GU, PU, MA, MN, MS, OT, SC], [r0, r1, r2, r3, r.2.2, r5, r6, r7, r8], Lg)) : AOut))
    (zrc2 : ∀ (Y T HA HB RV RU ST NS I0 I1 I2 BO FI RG GU PU MA MN MS OT SC : Nat → Nat → Int32) (r0 r1 r2 r3 w r5 r6 r7 r8 : Nat) (L : Nat) (Lg : Int64) (p2 : Int32) (r : (Nat → Nat → Int32) × (Nat → Nat → Int32) × Nat), rc 2 T RU w p2 = some r → Ev (d + 6, 0, 0, 245, 0, [.val (.ref 384), .val (.ref 128), .val (.int p2)], [], (126, 120, L, [Y, T, HA, HB, RV, RU, ST, NS, I0, I1, I2, BO, FI, RG, GU, PU, MA, MN, MS, OT, SC], [r0, r1, r2, r3, w, r5, r6, r7, r8], Lg)) ((0, none, (126, 120, L, [Y, r.1, HA, HB, RV, r.2.1, ST, NS, I0, I1, I2, BO, FI, RG, GU, PU, MA, MN, MS, OT, SC], [r0, r1, r2, r3, r.2.2, r5, r6, r7, r8], Lg)) : AOut))
    (zrc3 : ∀ (Y T HA HB RV RU ST NS I0 I1 I2 BO FI RG GU PU MA MN MS OT SC : Nat → Nat → Int32) (r0 r1 r2 r3 w r5 r6 r7 r8 : Nat) (L : Nat) (Lg : Int64) (p2 : Int32) (r : (Nat → Nat → Int32) × (Nat → Nat → Int32) × Nat), rc 3 T RU w p2 = some r → Ev (d + 6, 0, 0, 248, 0, [.val (.ref 384), .val (.ref 128), .val (.int p2), .val a_unk, .val a_unk], [], (126, 120, L, [Y, T, HA, HB, RV, RU, ST, NS, I0, I1, I2, BO, FI, RG, GU, PU, MA, MN, MS, OT, SC], [r0, r1, r2, r3, w, r5, r6, r7, r8], Lg)) ((0, none, (126, 120, L, [Y, r.1, HA, HB, RV, r.2.1, ST, NS, I0, I1, I2, BO, FI, RG, GU, PU, MA, MN, MS, OT, SC], [r0, r1, r2, r3, r.2.2, r5, r6, r7, r8], Lg)) : AOut))
    (zrc4 : ∀ (Y T HA HB RV RU ST NS I0 I1 I2 BO FI RG GU PU MA MN MS OT SC : Nat → Nat → Int32) (r0 r1 r2 r3 w r5 r6 r7 r8 : Nat) (L : Nat) (Lg : Int64) (p2 : Int32) (r : (Nat → Nat → Int32) × (Nat → Nat → Int32) × Nat), rc 4 T RU w p2 = some r → Ev (d + 6, 0, 0, 249, 0, [.val (.ref 384), .val (.ref 128), .val (.int p2), .val a_unk], [], (126, 120, L, [Y, T, HA, HB, RV, RU, ST, NS, I0, I1, I2, BO, FI, RG, GU, PU, MA, MN, MS, OT, SC], [r0, r1, r2, r3, w, r5, r6, r7, r8], Lg)) ((0, none, (126, 120, L, [Y, r.1, HA, HB, RV, r.2.1, ST, NS, I0, I1, I2, BO, FI, RG, GU, PU, MA, MN, MS, OT, SC], [r0, r1, r2, r3, r.2.2, r5, r6, r7, r8], Lg)) : AOut))
    (zrc5 : ∀ (Y T HA HB RV RU ST NS I0 I1 I2 BO FI RG GU PU MA MN MS OT SC : Nat → Nat → Int32) (r0 r1 r2 r3 w r5 r6 r7 r8 : Nat) (L : Nat) (Lg : Int64) (p2 : Int32) (r : (Nat → Nat → Int32) × (Nat → Nat → Int32) × Nat), rc 5 T RU w p2 = some r → Ev (d + 6, 0, 0, 250, 0, [.val (.ref 384), .val (.ref 128), .val (.int p2), .val a_unk], [], (126, 120, L, [Y, T, HA, HB, RV, RU, ST, NS, I0, I1, I2, BO, FI, RG, GU, PU, MA, MN, MS, OT, SC], [r0, r1, r2, r3, w, r5, r6, r7, r8], Lg)) ((0, none, (126, 120, L, [Y, r.1, HA, HB, RV, r.2.1, ST, NS, I0, I1, I2, BO, FI, RG, GU, PU, MA, MN, MS, OT, SC], [r0, r1, r2, r3, r.2.2, r5, r6, r7, r8], Lg)) : AOut))
    (zrc6 : ∀ (Y T HA HB RV RU ST NS I0 I1 I2 BO FI RG GU PU MA MN MS OT SC : Nat → Nat → Int32) (r0 r1 r2 r3 w r5 r6 r7 r8 : Nat) (L : Nat) (Lg : Int64) (p2 : Int32) (r : (Nat → Nat → Int32) × (Nat → Nat → Int32) × Nat), rc 6 T RU w p2 = some r → Ev (d + 6, 0, 0, 247, 0, [.val (.ref 384), .val (.ref 128), .val (.int p2), .val a_unk], [], (126, 120, L, [Y, T, HA, HB, RV, RU, ST, NS, I0, I1, I2, BO, FI, RG, GU, PU, MA, MN, MS, OT, SC], [r0, r1, r2, r3, w, r5, r6, r7, r8], Lg)) ((0, none, (126, 120, L, [Y, r.1, HA, HB, RV, r.2.1, ST, NS, I0, I1, I2, BO, FI, RG, GU, PU, MA, MN, MS, OT, SC], [r0, r1, r2, r3, r.2.2, r5, r6, r7, r8], Lg)) : AOut))
    (Y T HA HB RV RU ST NS I0 I1 I2 BO FI RG GU PU MA MN MS OT SC : Nat → Nat → Int32) (r0 r1 r2 r3 w r5 r6 r7 r8 : Nat) (L : Nat) (Lg : Int64) (p2 : Int32) {r : (Nat → Nat → Int32) × (Nat → Nat → Int32) × Nat} (h : f_Rule_readAll_B rc T RU w p2 = some r) : Ev (d + 7, 0, 0, 244, 0, [.val (.ref 384), .val (.ref 128), .val (.int p2), .val a_unk], [], (126, 120, L, [Y, T, HA, HB, RV, RU, ST, NS, I0, I1, I2, BO, FI, RG, GU, PU, MA, MN, MS, OT, SC], [r0, r1, r2, r3, w, r5, r6, r7, r8], Lg)) ((0, none, (126, 120, L, [Y, r.1, HA, HB, RV, r.2.1, ST, NS, I0, I1, I2, BO, FI, RG, GU, PU, MA, MN, MS, OT, SC], [r0, r1, r2, r3, r.2.2, r5, r6, r7, r8], Lg)) : AOut) := by
  suffices key : ∀ o : AOut, ((0, none, (126, 120, L, [Y, r.1, HA, HB, RV, r.2.1, ST, NS, I0, I1, I2, BO, FI, RG, GU, PU, MA, MN, MS, OT, SC], [r0, r1, r2, r3, r.2.2, r5, r6, r7, r8], Lg)) : AOut) = o → Ev (d + 7, 0, 0, 244, 0, [.val (.ref 384), .val (.ref 128), .val (.int p2), .val a_unk], [], (126, 120, L, [Y, T, HA, HB, RV, RU, ST, NS, I0, I1, I2, BO, FI, RG, GU, PU, MA, MN, MS, OT, SC], [r0, r1, r2, r3, w, r5, r6, r7, r8], Lg)) o from key _ rfl
  intro o ho
  obtain ⟨⟨T_1, RU_2, w3⟩, zh1, h⟩ := bnd h
  have zh1 : rc 2 T RU w p2 = some (T_1, RU_2, w3) := zh1
  have ze2 := zrc2 Y T HA HB RV RU ST NS I0 I1 I2 BO FI RG GU PU MA MN MS OT SC r0 r1 r2 r3 w r5 r6 r7 r8 L Lg p2 _ zh1
  suffices e : Ev (d + 7, 0, 0, 244, 6, [.val (.ref 384), .val (.ref 128), .val (.int p2), .val a_unk], [], (126, 120, L, [Y, T_1, HA, HB, RV, RU_2, ST, NS, I0, I1, I2, BO, FI, RG, GU, PU, MA, MN, MS, OT, SC], [r0, r1, r2, r3, w3, r5, r6, r7, r8], Lg)) o from ev_call (fun v μ => (d + 7, 0, 0, 244, 6, [.val (.ref 384), .val (.ref 128), .val (.int p2), .val a_unk], v.toList ++ [], μ)) 4 ze2 e (fun n => Eq.refl _)
  obtain ⟨zb3, zh4, h⟩ := bnd h
  suffices e : Ev (d + 7, 0, 0, 244, 8, [.val (.ref 384), .val (.ref 128), .val (.int p2), .val (.int 0)], [], (126, 120, L, [Y, T_1, HA, HB, RV, RU_2, ST, NS, I0, I1, I2, BO, FI, RG, GU, PU, MA, MN, MS, OT, SC], [r0, r1, r2, r3, w3, r5, r6, r7, r8], Lg)) o from ev_b 2 e (fun n => Eq.refl _)
  refine ev_loop (δ := Unit) (fun a j => (d + 7, 0, 0, 244, 8, [.val (.ref 384), .val (.ref 128), .val (.int p2), .val (.int a.1)], [], (126, 120, L, [Y, a.2.1, HA, HB, RV, a.2.2.1, ST, NS, I0, I1, I2, BO, FI, RG, GU, PU, MA, MN, MS, OT, SC], [r0, r1, r2, r3, a.2.2.2, r5, r6, r7, r8], Lg))) (fun b => ∀ s15 : Value, Ev (d + 7, 0, 0, 244, 55, [.val (.ref 384), .val (.ref 128), .val (.int p2), .val s15], [], (126, 120, L, [Y, b.1, HA, HB, RV, b.2.1, ST, NS, I0, I1, I2, BO, FI, RG, GU, PU, MA, MN, MS, OT, SC], [r0, r1, r2, r3, b.2.2, r5, r6, r7, r8], Lg)) o) ?_ a_F (0, T_1, RU_2, w3) zb3 zh4 ?_ ()
  · rintro ⟨v4, T_5, RU_6, w7⟩ zr8 zh7 zi5 zx6 ⟨⟩
    have zh7 : f_Rule_readAll_B_l8 rc p2 v4 T_5 RU_6 w7 = some zr8 := zh7
    by_cases zc9 : 150 ≤ v4
    · have zh7 := itp zh7 zc9
      suffices e : Ev (d + 7, 0, 0, 244, 55, [.val (.ref 384), .val (.ref 128), .val (.int p2), .val (.int v4)], [], (126, 120, L, [Y, T_5, HA, HB, RV, RU_6, ST, NS, I0, I1, I2, BO, FI, RG, GU, PU, MA, MN, MS, OT, SC], [r0, r1, r2, r3, w7, r5, r6, r7, r8], Lg)) o from ev_t (c := 150 ≤ v4) _ _ 3  zc9 e (fun n => Eq.refl _)
      exact ev_b 0 (zx6 _ (Option.some.inj zh7).symm (.int v4)) (fun n => Eq.refl _)
    · have zh7 := itn zh7 zc9
      suffices e : Ev (d + 7, 0, 0, 244, 15, [.val (.ref 384), .val (.ref 128), .val (.int p2), .val (.int v4)], [], (126, 120, L, [Y, T_5, HA, HB, RV, RU_6, ST, NS, I0, I1, I2, BO, FI, RG, GU, PU, MA, MN, MS, OT, SC], [r0, r1, r2, r3, w7, r5, r6, r7, r8], Lg)) o from ev_f (c := 150 ≤ v4) _ _ 3  zc9 e (fun n => Eq.refl _)
      obtain ⟨x8, zh10, zh7⟩ := bnd zh7
      have zh10 : f_Tape_failed T_5 = some x8 := zh10
      have ze11 := R_f_Tape_failed_0 (d + 6) Y T_5 HA HB RV RU_6 ST NS I0 I1 I2 BO FI RG GU PU MA MN MS OT SC r0 r1 r2 r3 w7 r5 r6 r7 r8 L Lg zh10
      suffices e : Ev (d + 7, 0, 0, 244, 19, [.val (.ref 384), .val (.ref 128), .val (.int p2), .val (.int v4)], [.int x8], (126, 120, L, [Y, T_5, HA, HB, RV, RU_6, ST, NS, I0, I1, I2, BO, FI, RG, GU, PU, MA, MN, MS, OT, SC], [r0, r1, r2, r3, w7, r5, r6, r7, r8], Lg)) o from ev_call (fun v μ => (d + 7, 0, 0, 244, 19, [.val (.ref 384), .val (.ref 128), .val (.int p2), .val (.int v4)], v.toList ++ [], μ)) 2 ze11 e (fun n => Eq.refl _)
      by_cases zc12 : x8 ≠ 0
      · have zh7 := itp zh7 zc12
        suffices e : Ev (d + 7, 0, 0, 244, 55, [.val (.ref 384), .val (.ref 128), .val (.int p2), .val (.int v4)], [], (126, 120, L, [Y, T_5, HA, HB, RV, RU_6, ST, NS, I0, I1, I2, BO, FI, RG, GU, PU, MA, MN, MS, OT, SC], [r0, r1, r2, r3, w7, r5, r6, r7, r8], Lg)) o from ev_t (c := x8 ≠ 0) _ _ 1  zc12 e (fun n => Eq.refl _)
        exact ev_b 0 (zx6 _ (Option.some.inj zh7).symm (.int v4)) (fun n => Eq.refl _)
      · have zh7 := itn zh7 zc12
        suffices e : Ev (d + 7, 0, 0, 244, 22, [.val (.ref 384), .val (.ref 128), .val (.int p2), .val (.int v4)], [], (126, 120, L, [Y, T_5, HA, HB, RV, RU_6, ST, NS, I0, I1, I2, BO, FI, RG, GU, PU, MA, MN, MS, OT, SC], [r0, r1, r2, r3, w7, r5, r6, r7, r8], Lg)) o from ev_f (c := x8 ≠ 0) _ _ 1  zc12 e (fun n => Eq.refl _)
        by_cases zg14 : ¬ (okW w7 ∧ okW 2571)
        · exact nos (itn zh7 zg14)
        have zg14 := Decidable.not_not.mp zg14
        have zh7 := itp zh7 zg14
        by_cases zc13 : w7 = 2571
        · have zh7 := itp zh7 zc13
          suffices e : Ev (d + 7, 0, 0, 244, 32, [.val (.ref 384), .val (.ref 128), .val (.int p2), .val (.int v4)], [], (126, 120, L, [Y, T_5, HA, HB, RV, RU_6, ST, NS, I0, I1, I2, BO, FI, RG, GU, PU, MA, MN, MS, OT, SC], [r0, r1, r2, r3, w7, r5, r6, r7, r8], Lg)) o from ev_gt (c := w7 = 2571) _ _ 4 zg14 zc13 e (fun n => Eq.refl _)
          obtain ⟨⟨T_9, w10⟩, zh15, zh7⟩ := bnd zh7
          have zh15 : f_Tape_advance T_5 = some (T_9, w10) := zh15
          have ze16 := R_f_Tape_advance_0 (d + 1) Y T_5 HA HB RV RU_6 ST NS I0 I1 I2 BO FI RG GU PU MA MN MS OT SC r0 r1 r2 r3 w7 r5 r6 r7 r8 L Lg zh15
          suffices e : Ev (d + 7, 0, 0, 244, 36, [.val (.ref 384), .val (.ref 128), .val (.int p2), .val (.int v4)], [], (126, 120, L, [Y, T_9, HA, HB, RV, RU_6, ST, NS, I0, I1, I2, BO, FI, RG, GU, PU, MA, MN, MS, OT, SC], [r0, r1, r2, r3, w10, r5, r6, r7, r8], Lg)) o from ev_call (fun v μ => (d + 7, 0, 0, 244, 36, [.val (.ref 384), .val (.ref 128), .val (.int p2), .val (.int v4)], v.toList ++ [], μ)) 2 ze16 e (fun n => Eq.refl _)
          obtain ⟨⟨T_11, RU_12, w13⟩, zh17, zh7⟩ := bnd zh7
          have zh17 : rc 2 T_9 RU_6 w10 p2 = some (T_11, RU_12, w13) := zh17
          have ze18 := zrc2 Y T_9 HA HB RV RU_6 ST NS I0 I1 I2 BO FI RG GU PU MA MN MS OT SC r0 r1 r2 r3 w10 r5 r6 r7 r8 L Lg p2 _ zh17
          suffices e : Ev (d + 7, 0, 0, 244, 42, [.val (.ref 384), .val (.ref 128), .val (.int p2), .val (.int v4)], [], (126, 120, L, [Y, T_11, HA, HB, RV, RU_12, ST, NS, I0, I1, I2, BO, FI, RG, GU, PU, MA, MN, MS, OT, SC], [r0, r1, r2, r3, w13, r5, r6, r7, r8], Lg)) o from ev_call (fun v μ => (d + 7, 0, 0, 244, 42, [.val (.ref 384), .val (.ref 128), .val (.int p2), .val (.int v4)], v.toList ++ [], μ)) 4 ze18 e (fun n => Eq.refl _)
          obtain ⟨RU_14, zh19, zh7⟩ := bnd zh7
          have zh19 : f_Rule_emit RU_12 201 = some RU_14 := zh19
          have ze20 := R_f_Rule_emit_0 (d + 6) Y T_11 HA HB RV RU_12 ST NS I0 I1 I2 BO FI RG GU PU MA MN MS OT SC r0 r1 r2 r3 w13 r5 r6 r7 r8 L Lg 201 zh19
          suffices e : Ev (d + 7, 0, 0, 244, 49, [.val (.ref 384), .val (.ref 128), .val (.int p2), .val (.int v4)], [], (126, 120, L, [Y, T_11, HA, HB, RV, RU_14, ST, NS, I0, I1, I2, BO, FI, RG, GU, PU, MA, MN, MS, OT, SC], [r0, r1, r2, r3, w13, r5, r6, r7, r8], Lg)) o from ev_call (fun v μ => (d + 7, 0, 0, 244, 49, [.val (.ref 384), .val (.ref 128), .val (.int p2), .val (.int v4)], v.toList ++ [], μ)) 3 ze20 e (fun n => Eq.refl _)
          exact ev_b 2 (zi5 _ (Option.some.inj zh7).symm ()) (fun n => Eq.refl _)
        · have zh7 := itn zh7 zc13
          suffices e : Ev (d + 7, 0, 0, 244, 55, [.val (.ref 384), .val (.ref 128), .val (.int p2), .val (.int v4)], [], (126, 120, L, [Y, T_5, HA, HB, RV, RU_6, ST, NS, I0, I1, I2, BO, FI, RG, GU, PU, MA, MN, MS, OT, SC], [r0, r1, r2, r3, w7, r5, r6, r7, r8], Lg)) o from ev_gf (c := w7 = 2571) _ _ 4 zg14 zc13 e (fun n => Eq.refl _)
          exact ev_b 0 (zx6 _ (Option.some.inj zh7).symm (.int v4)) (fun n => Eq.refl _)
  · obtain ⟨T_16, RU_17, w18⟩ := zb3
    intro s15
    have ze21 := Option.some.inj h
    subst ze21
    exact ev_rete 1 ho (fun n => Eq.refl _)
set_option maxRecDepth 1000000 in
set_option maxHeartbeats 4000000 in
theorem R_f_Rule_readOne_B_0 (d : Nat) (rc : (Nat → (Nat → Nat → Int32) → (Nat → Nat → Int32) → Nat → Int32 → Option ((Nat → Nat → Int32) × (Nat → Nat → Int32) × Nat)))
    (zrc0 : ∀ (Y T HA HB RV RU ST NS I0 I1 I2 BO FI RG GU PU MA MN MS OT SC : Nat → Nat → Int32) (r0 r1 r2 r3 w r5 r6 r7 r8 : Nat) (L : Nat) (Lg : Int64) (p2 : Int32) (r : (Nat → Nat → Int32) × (Nat → Nat → Int32) × Nat), rc 0 T RU w p2 = some r → Ev (d + 6, 0, 0, 243, 0, [.val (.ref 384), .val (.ref 128), .val (.int p2), .val a_unk], [], (126, 120, L, [Y, T, HA, HB, RV, RU, ST, NS, I0, I1, I2, BO, FI, RG, GU, PU, MA, MN, MS, OT, SC], [r0, r1, r2, r3, w, r5, r6, r7, r8], Lg)) ((0, none, (126, 120, L, [Y, r.1, HA, HB, RV, r.2.1, ST, NS, I0, I1, I2, BO, FI, RG, GU, PU, MA, MN, MS, OT, SC], [r0, r1, r2, r3, r.2.2, r5, r6, r7, r8], Lg)) : AOut))
    (zrc1 : ∀ (Y T HA HB RV RU ST NS I0 I1 I2 BO FI RG GU PU MA MN MS OT SC : Nat → Nat → Int32) (r0 r1 r2 r3 w r5 r6 r7 r8 : Nat) (L : Nat) (Lg : Int64) (p2 : Int32) (r : (Nat → Nat → Int32) × (Nat → Nat → Int32) × Nat), rc 1 T RU w p2 = some r → Ev (d + 6, 0, 0, 244, 0, [.val (.ref 384), .val (.ref 128), .val (.int p2), .val a_unk], [], (126, 120, L, [Y, T, HA, HB, RV, RU, ST, NS, I0, I1, I2, BO, FI, RG, GU, PU, MA, MN, MS, OT, SC], [r0, r1, r2, r3, w, r5, r6, r7, r8], Lg)) ((0, none, (126, 120, L, [Y, r.1, HA, HB, RV, r.2.1, ST, NS, I0, I1, I2, BO, FI, RG, GU, PU, MA, MN, MS, OT, SC], [r0, r1, r2, r3, r.2.2, r5, r6, r7, r8], Lg)) : AOut))
    (zrc2 : ∀ (Y T HA HB RV RU ST NS I0 I1 I2 BO FI RG GU PU MA MN MS OT SC : Nat → Nat → Int32) (r0 r1 r2 r3 w r5 r6 r7 r8 : Nat) (L : Nat) (Lg : Int64) (p2 : Int32) (r : (Nat → Nat → Int32) × (Nat → Nat → Int32) × Nat), rc 2 T RU w p2 = some r → Ev (d + 6, 0, 0, 245, 0, [.val (.ref 384), .val (.ref 128), .val (.int p2)], [], (126, 120, L, [Y, T, HA, HB, RV, RU, ST, NS, I0, I1, I2, BO, FI, RG, GU, PU, MA, MN, MS, OT, SC], [r0, r1, r2, r3, w, r5, r6, r7, r8], Lg)) ((0, none, (126, 120, L, [Y, r.1, HA, HB, RV, r.2.1, ST, NS, I0, I1, I2, BO, FI, RG, GU, PU, MA, MN, MS, OT, SC], [r0, r1, r2, r3, r.2.2, r5, r6, r7, r8], Lg)) : AOut))
    (zrc3 : ∀ (Y T HA HB RV RU ST NS I0 I1 I2 BO FI RG GU PU MA MN MS OT SC : Nat → Nat → Int32) (r0 r1 r2 r3 w r5 r6 r7 r8 : Nat) (L : Nat) (Lg : Int64) (p2 : Int32) (r : (Nat → Nat → Int32) × (Nat → Nat → Int32) × Nat), rc 3 T RU w p2 = some r → Ev (d + 6, 0, 0, 248, 0, [.val (.ref 384), .val (.ref 128), .val (.int p2), .val a_unk, .val a_unk], [], (126, 120, L, [Y, T, HA, HB, RV, RU, ST, NS, I0, I1, I2, BO, FI, RG, GU, PU, MA, MN, MS, OT, SC], [r0, r1, r2, r3, w, r5, r6, r7, r8], Lg)) ((0, none, (126, 120, L, [Y, r.1, HA, HB, RV, r.2.1, ST, NS, I0, I1, I2, BO, FI, RG, GU, PU, MA, MN, MS, OT, SC], [r0, r1, r2, r3, r.2.2, r5, r6, r7, r8], Lg)) : AOut))
    (zrc4 : ∀ (Y T HA HB RV RU ST NS I0 I1 I2 BO FI RG GU PU MA MN MS OT SC : Nat → Nat → Int32) (r0 r1 r2 r3 w r5 r6 r7 r8 : Nat) (L : Nat) (Lg : Int64) (p2 : Int32) (r : (Nat → Nat → Int32) × (Nat → Nat → Int32) × Nat), rc 4 T RU w p2 = some r → Ev (d + 6, 0, 0, 249, 0, [.val (.ref 384), .val (.ref 128), .val (.int p2), .val a_unk], [], (126, 120, L, [Y, T, HA, HB, RV, RU, ST, NS, I0, I1, I2, BO, FI, RG, GU, PU, MA, MN, MS, OT, SC], [r0, r1, r2, r3, w, r5, r6, r7, r8], Lg)) ((0, none, (126, 120, L, [Y, r.1, HA, HB, RV, r.2.1, ST, NS, I0, I1, I2, BO, FI, RG, GU, PU, MA, MN, MS, OT, SC], [r0, r1, r2, r3, r.2.2, r5, r6, r7, r8], Lg)) : AOut))
    (zrc5 : ∀ (Y T HA HB RV RU ST NS I0 I1 I2 BO FI RG GU PU MA MN MS OT SC : Nat → Nat → Int32) (r0 r1 r2 r3 w r5 r6 r7 r8 : Nat) (L : Nat) (Lg : Int64) (p2 : Int32) (r : (Nat → Nat → Int32) × (Nat → Nat → Int32) × Nat), rc 5 T RU w p2 = some r → Ev (d + 6, 0, 0, 250, 0, [.val (.ref 384), .val (.ref 128), .val (.int p2), .val a_unk], [], (126, 120, L, [Y, T, HA, HB, RV, RU, ST, NS, I0, I1, I2, BO, FI, RG, GU, PU, MA, MN, MS, OT, SC], [r0, r1, r2, r3, w, r5, r6, r7, r8], Lg)) ((0, none, (126, 120, L, [Y, r.1, HA, HB, RV, r.2.1, ST, NS, I0, I1, I2, BO, FI, RG, GU, PU, MA, MN, MS, OT, SC], [r0, r1, r2, r3, r.2.2, r5, r6, r7, r8], Lg)) : AOut))
    (zrc6 : ∀ (Y T HA HB RV RU ST NS I0 I1 I2 BO FI RG GU PU MA MN MS OT SC : Nat → Nat → Int32) (r0 r1 r2 r3 w r5 r6 r7 r8 : Nat) (L : Nat) (Lg : Int64) (p2 : Int32) (r : (Nat → Nat → Int32) × (Nat → Nat → Int32) × Nat), rc 6 T RU w p2 = some r → Ev (d + 6, 0, 0, 247, 0, [.val (.ref 384), .val (.ref 128), .val (.int p2), .val a_unk], [], (126, 120, L, [Y, T, HA, HB, RV, RU, ST, NS, I0, I1, I2, BO, FI, RG, GU, PU, MA, MN, MS, OT, SC], [r0, r1, r2, r3, w, r5, r6, r7, r8], Lg)) ((0, none, (126, 120, L, [Y, r.1, HA, HB, RV, r.2.1, ST, NS, I0, I1, I2, BO, FI, RG, GU, PU, MA, MN, MS, OT, SC], [r0, r1, r2, r3, r.2.2, r5, r6, r7, r8], Lg)) : AOut))
    (Y T HA HB RV RU ST NS I0 I1 I2 BO FI RG GU PU MA MN MS OT SC : Nat → Nat → Int32) (r0 r1 r2 r3 w r5 r6 r7 r8 : Nat) (L : Nat) (Lg : Int64) (p2 : Int32) {r : (Nat → Nat → Int32) × (Nat → Nat → Int32) × Nat} (h : f_Rule_readOne_B rc T RU w p2 = some r) : Ev (d + 7, 0, 0, 245, 0, [.val (.ref 384), .val (.ref 128), .val (.int p2)], [], (126, 120, L, [Y, T, HA, HB, RV, RU, ST, NS, I0, I1, I2, BO, FI, RG, GU, PU, MA, MN, MS, OT, SC], [r0, r1, r2, r3, w, r5, r6, r7, r8], Lg)) ((0, none, (126, 120, L, [Y, r.1, HA, HB, RV, r.2.1, ST, NS, I0, I1, I2, BO, FI, RG, GU, PU, MA, MN, MS, OT, SC], [r0, r1, r2, r3, r.2.2, r5, r6, r7, r8], Lg)) : AOut) := by
  suffices key : ∀ o : AOut, ((0, none, (126, 120, L, [Y, r.1, HA, HB, RV, r.2.1, ST, NS, I0, I1, I2, BO, FI, RG, GU, PU, MA, MN, MS, OT, SC], [r0, r1, r2, r3, r.2.2, r5, r6, r7, r8], Lg)) : AOut) = o → Ev (d + 7, 0, 0, 245, 0, [.val (.ref 384), .val (.ref 128), .val (.int p2)], [], (126, 120, L, [Y, T, HA, HB, RV, RU, ST, NS, I0, I1, I2, BO, FI, RG, GU, PU, MA, MN, MS, OT, SC], [r0, r1, r2, r3, w, r5, r6, r7, r8], Lg)) o from key _ rfl
  intro o ho
  obtain ⟨x1, zh1, h⟩ := bnd h
  have zh1 : f_Tape_failed T = some x1 := zh1
  have ze2 := R_f_Tape_failed_0 (d + 6) Y T HA HB RV RU ST NS I0 I1 I2 BO FI RG GU PU MA MN MS OT SC r0 r1 r2 r3 w r5 r6 r7 r8 L Lg zh1
  suffices e : Ev (d + 7, 0, 0, 245, 4, [.val (.ref 384), .val (.ref 128), .val (.int p2)], [.int x1], (126, 120, L, [Y, T, HA, HB, RV, RU, ST, NS, I0, I1, I2, BO, FI, RG, GU, PU, MA, MN, MS, OT, SC], [r0, r1, r2, r3, w, r5, r6, r7, r8], Lg)) o from ev_call (fun v μ => (d + 7, 0, 0, 245, 4, [.val (.ref 384), .val (.ref 128), .val (.int p2)], v.toList ++ [], μ)) 2 ze2 e (fun n => Eq.refl _)
  by_cases zc3 : x1 = 0
  · have h := itp h zc3
    suffices e : Ev (d + 7, 0, 0, 245, 8, [.val (.ref 384), .val (.ref 128), .val (.int p2)], [], (126, 120, L, [Y, T, HA, HB, RV, RU, ST, NS, I0, I1, I2, BO, FI, RG, GU, PU, MA, MN, MS, OT, SC], [r0, r1, r2, r3, w, r5, r6, r7, r8], Lg)) o from ev_t (c := x1 = 0) _ _ 1  zc3 e (fun n => Eq.refl _)
    by_cases zg5 : ¬ (okW w ∧ okW 2572)
    · exact nos (itn h zg5)
    have zg5 := Decidable.not_not.mp zg5
    have h := itp h zg5
    by_cases zc4 : w = 2572
    · have h := itp h zc4
      suffices e : Ev (d + 7, 0, 0, 245, 18, [.val (.ref 384), .val (.ref 128), .val (.int p2)], [], (126, 120, L, [Y, T, HA, HB, RV, RU, ST, NS, I0, I1, I2, BO, FI, RG, GU, PU, MA, MN, MS, OT, SC], [r0, r1, r2, r3, w, r5, r6, r7, r8], Lg)) o from ev_gt (c := w = 2572) _ _ 4 zg5 zc4 e (fun n => Eq.refl _)
      obtain ⟨⟨x2, T_3, w4⟩, zh6, h⟩ := bnd h
      have zh6 : f_Rule_opens T w p2 = some (x2, T_3, w4) := zh6
      have ze7 := R_f_Rule_opens_0 (d + 0) Y T HA HB RV RU ST NS I0 I1 I2 BO FI RG GU PU MA MN MS OT SC r0 r1 r2 r3 w r5 r6 r7 r8 L Lg p2 zh6
      suffices e : Ev (d + 7, 0, 0, 245, 24, [.val (.ref 384), .val (.ref 128), .val (.int p2)], [.int x2], (126, 120, L, [Y, T_3, HA, HB, RV, RU, ST, NS, I0, I1, I2, BO, FI, RG, GU, PU, MA, MN, MS, OT, SC], [r0, r1, r2, r3, w4, r5, r6, r7, r8], Lg)) o from ev_call (fun v μ => (d + 7, 0, 0, 245, 24, [.val (.ref 384), .val (.ref 128), .val (.int p2)], v.toList ++ [], μ)) 4 ze7 e (fun n => Eq.refl _)
      by_cases zc8 : x2 = 0
      · have h := itp h zc8
        suffices e : Ev (d + 7, 0, 0, 245, 87, [.val (.ref 384), .val (.ref 128), .val (.int p2)], [], (126, 120, L, [Y, T_3, HA, HB, RV, RU, ST, NS, I0, I1, I2, BO, FI, RG, GU, PU, MA, MN, MS, OT, SC], [r0, r1, r2, r3, w4, r5, r6, r7, r8], Lg)) o from ev_t (c := x2 = 0) _ _ 1  zc8 e (fun n => Eq.refl _)
        have ze9 := Option.some.inj h
        subst ze9
        exact ev_rete 1 ho (fun n => Eq.refl _)
      · have h := itn h zc8
        suffices e : Ev (d + 7, 0, 0, 245, 27, [.val (.ref 384), .val (.ref 128), .val (.int p2)], [], (126, 120, L, [Y, T_3, HA, HB, RV, RU, ST, NS, I0, I1, I2, BO, FI, RG, GU, PU, MA, MN, MS, OT, SC], [r0, r1, r2, r3, w4, r5, r6, r7, r8], Lg)) o from ev_f (c := x2 = 0) _ _ 1  zc8 e (fun n => Eq.refl _)
        obtain ⟨⟨T_5, RU_6, w7⟩, zh10, h⟩ := bnd h
        have zh10 : rc 2 T_3 RU w4 (p2 + 1) = some (T_5, RU_6, w7) := zh10
        have ze11 := zrc2 Y T_3 HA HB RV RU ST NS I0 I1 I2 BO FI RG GU PU MA MN MS OT SC r0 r1 r2 r3 w4 r5 r6 r7 r8 L Lg (p2 + 1) _ zh10
        suffices e : Ev (d + 7, 0, 0, 245, 35, [.val (.ref 384), .val (.ref 128), .val (.int p2)], [], (126, 120, L, [Y, T_5, HA, HB, RV, RU_6, ST, NS, I0, I1, I2, BO, FI, RG, GU, PU, MA, MN, MS, OT, SC], [r0, r1, r2, r3, w7, r5, r6, r7, r8], Lg)) o from ev_call (fun v μ => (d + 7, 0, 0, 245, 35, [.val (.ref 384), .val (.ref 128), .val (.int p2)], v.toList ++ [], μ)) 6 ze11 e (fun n => Eq.refl _)
        obtain ⟨RU_8, zh12, h⟩ := bnd h
        have zh12 : f_Rule_emit RU_6 200 = some RU_8 := zh12
        have ze13 := R_f_Rule_emit_0 (d + 6) Y T_5 HA HB RV RU_6 ST NS I0 I1 I2 BO FI RG GU PU MA MN MS OT SC r0 r1 r2 r3 w7 r5 r6 r7 r8 L Lg 200 zh12
        suffices e : Ev (d + 7, 0, 0, 245, 42, [.val (.ref 384), .val (.ref 128), .val (.int p2)], [], (126, 120, L, [Y, T_5, HA, HB, RV, RU_8, ST, NS, I0, I1, I2, BO, FI, RG, GU, PU, MA, MN, MS, OT, SC], [r0, r1, r2, r3, w7, r5, r6, r7, r8], Lg)) o from ev_call (fun v μ => (d + 7, 0, 0, 245, 42, [.val (.ref 384), .val (.ref 128), .val (.int p2)], v.toList ++ [], μ)) 3 ze13 e (fun n => Eq.refl _)
        have ze14 := Option.some.inj h
        subst ze14
        exact ev_rete 2 ho (fun n => Eq.refl _)
    · have h := itn h zc4
      suffices e : Ev (d + 7, 0, 0, 245, 45, [.val (.ref 384), .val (.ref 128), .val (.int p2)], [], (126, 120, L, [Y, T, HA, HB, RV, RU, ST, NS, I0, I1, I2, BO, FI, RG, GU, PU, MA, MN, MS, OT, SC], [r0, r1, r2, r3, w, r5, r6, r7, r8], Lg)) o from ev_gf (c := w = 2572) _ _ 4 zg5 zc4 e (fun n => Eq.refl _)
      obtain ⟨x9, zh15, h⟩ := bnd h
      have zh15 : f_Tape_atSign T 91 = some x9 := zh15
      have ze16 := R_f_Tape_atSign_0 (d + 6) Y T HA HB RV RU ST NS I0 I1 I2 BO FI RG GU PU MA MN MS OT SC r0 r1 r2 r3 w r5 r6 r7 r8 L Lg 91 zh15
      suffices e : Ev (d + 7, 0, 0, 245, 51, [.val (.ref 384), .val (.ref 128), .val (.int p2)], [.int x9], (126, 120, L, [Y, T, HA, HB, RV, RU, ST, NS, I0, I1, I2, BO, FI, RG, GU, PU, MA, MN, MS, OT, SC], [r0, r1, r2, r3, w, r5, r6, r7, r8], Lg)) o from ev_call (fun v μ => (d + 7, 0, 0, 245, 51, [.val (.ref 384), .val (.ref 128), .val (.int p2)], v.toList ++ [], μ)) 3 ze16 e (fun n => Eq.refl _)
      by_cases zc17 : x9 = 0
      · have h := itp h zc17
        suffices e : Ev (d + 7, 0, 0, 245, 81, [.val (.ref 384), .val (.ref 128), .val (.int p2)], [], (126, 120, L, [Y, T, HA, HB, RV, RU, ST, NS, I0, I1, I2, BO, FI, RG, GU, PU, MA, MN, MS, OT, SC], [r0, r1, r2, r3, w, r5, r6, r7, r8], Lg)) o from ev_t (c := x9 = 0) _ _ 1  zc17 e (fun n => Eq.refl _)
        obtain ⟨⟨T_10, RU_11, w12⟩, zh18, h⟩ := bnd h
        have zh18 : rc 6 T RU w p2 = some (T_10, RU_11, w12) := zh18
        have ze19 := zrc6 Y T HA HB RV RU ST NS I0 I1 I2 BO FI RG GU PU MA MN MS OT SC r0 r1 r2 r3 w r5 r6 r7 r8 L Lg p2 _ zh18
        suffices e : Ev (d + 7, 0, 0, 245, 87, [.val (.ref 384), .val (.ref 128), .val (.int p2)], [], (126, 120, L, [Y, T_10, HA, HB, RV, RU_11, ST, NS, I0, I1, I2, BO, FI, RG, GU, PU, MA, MN, MS, OT, SC], [r0, r1, r2, r3, w12, r5, r6, r7, r8], Lg)) o from ev_call (fun v μ => (d + 7, 0, 0, 245, 87, [.val (.ref 384), .val (.ref 128), .val (.int p2)], v.toList ++ [], μ)) 4 ze19 e (fun n => Eq.refl _)
        have ze20 := Option.some.inj h
        subst ze20
        exact ev_rete 1 ho (fun n => Eq.refl _)
      · have h := itn h zc17
        suffices e : Ev (d + 7, 0, 0, 245, 54, [.val (.ref 384), .val (.ref 128), .val (.int p2)], [], (126, 120, L, [Y, T, HA, HB, RV, RU, ST, NS, I0, I1, I2, BO, FI, RG, GU, PU, MA, MN, MS, OT, SC], [r0, r1, r2, r3, w, r5, r6, r7, r8], Lg)) o from ev_f (c := x9 = 0) _ _ 1  zc17 e (fun n => Eq.refl _)
        obtain ⟨⟨x13, T_14, w15⟩, zh21, h⟩ := bnd h
        have zh21 : f_Rule_opens T w p2 = some (x13, T_14, w15) := zh21
        have ze22 := R_f_Rule_opens_0 (d + 0) Y T HA HB RV RU ST NS I0 I1 I2 BO FI RG GU PU MA MN MS OT SC r0 r1 r2 r3 w r5 r6 r7 r8 L Lg p2 zh21
        suffices e : Ev (d + 7, 0, 0, 245, 60, [.val (.ref 384), .val (.ref 128), .val (.int p2)], [.int x13], (126, 120, L, [Y, T_14, HA, HB, RV, RU, ST, NS, I0, I1, I2, BO, FI, RG, GU, PU, MA, MN, MS, OT, SC], [r0, r1, r2, r3, w15, r5, r6, r7, r8], Lg)) o from ev_call (fun v μ => (d + 7, 0, 0, 245, 60, [.val (.ref 384), .val (.ref 128), .val (.int p2)], v.toList ++ [], μ)) 4 ze22 e (fun n => Eq.refl _)
        by_cases zc23 : x13 = 0
        · have h := itp h zc23
          suffices e : Ev (d + 7, 0, 0, 245, 87, [.val (.ref 384), .val (.ref 128), .val (.int p2)], [], (126, 120, L, [Y, T_14, HA, HB, RV, RU, ST, NS, I0, I1, I2, BO, FI, RG, GU, PU, MA, MN, MS, OT, SC], [r0, r1, r2, r3, w15, r5, r6, r7, r8], Lg)) o from ev_t (c := x13 = 0) _ _ 1  zc23 e (fun n => Eq.refl _)
          have ze24 := Option.some.inj h
          subst ze24
          exact ev_rete 1 ho (fun n => Eq.refl _)
        · have h := itn h zc23
          suffices e : Ev (d + 7, 0, 0, 245, 63, [.val (.ref 384), .val (.ref 128), .val (.int p2)], [], (126, 120, L, [Y, T_14, HA, HB, RV, RU, ST, NS, I0, I1, I2, BO, FI, RG, GU, PU, MA, MN, MS, OT, SC], [r0, r1, r2, r3, w15, r5, r6, r7, r8], Lg)) o from ev_f (c := x13 = 0) _ _ 1  zc23 e (fun n => Eq.refl _)
          obtain ⟨⟨T_16, RU_17, w18⟩, zh25, h⟩ := bnd h
          have zh25 : rc 0 T_14 RU w15 (p2 + 1) = some (T_16, RU_17, w18) := zh25
          have ze26 := zrc0 Y T_14 HA HB RV RU ST NS I0 I1 I2 BO FI RG GU PU MA MN MS OT SC r0 r1 r2 r3 w15 r5 r6 r7 r8 L Lg (p2 + 1) _ zh25
          suffices e : Ev (d + 7, 0, 0, 245, 71, [.val (.ref 384), .val (.ref 128), .val (.int p2)], [], (126, 120, L, [Y, T_16, HA, HB, RV, RU_17, ST, NS, I0, I1, I2, BO, FI, RG, GU, PU, MA, MN, MS, OT, SC], [r0, r1, r2, r3, w18, r5, r6, r7, r8], Lg)) o from ev_call (fun v μ => (d + 7, 0, 0, 245, 71, [.val (.ref 384), .val (.ref 128), .val (.int p2)], v.toList ++ [], μ)) 6 ze26 e (fun n => Eq.refl _)
          obtain ⟨⟨x19, T_20, w21⟩, zh27, h⟩ := bnd h
          have zh27 : f_Tape_pass T_16 w18 93 = some (x19, T_20, w21) := zh27
          have ze28 := R_f_Tape_pass_0 (d + 0) Y T_16 HA HB RV RU_17 ST NS I0 I1 I2 BO FI RG GU PU MA MN MS OT SC r0 r1 r2 r3 w18 r5 r6 r7 r8 L Lg 93 zh27
          suffices e : Ev (d + 7, 0, 0, 245, 77, [.val (.ref 384), .val (.ref 128), .val (.int p2)], [.int x19], (126, 120, L, [Y, T_20, HA, HB, RV, RU_17, ST, NS, I0, I1, I2, BO, FI, RG, GU, PU, MA, MN, MS, OT, SC], [r0, r1, r2, r3, w21, r5, r6, r7, r8], Lg)) o from ev_call (fun v μ => (d + 7, 0, 0, 245, 77, [.val (.ref 384), .val (.ref 128), .val (.int p2)], v.toList ++ [], μ)) 3 ze28 e (fun n => Eq.refl _)
          have ze29 := Option.some.inj h
          subst ze29
          exact ev_rete 3 ho (fun n => Eq.refl _)
  · have h := itn h zc3
    suffices e : Ev (d + 7, 0, 0, 245, 7, [.val (.ref 384), .val (.ref 128), .val (.int p2)], [], (126, 120, L, [Y, T, HA, HB, RV, RU, ST, NS, I0, I1, I2, BO, FI, RG, GU, PU, MA, MN, MS, OT, SC], [r0, r1, r2, r3, w, r5, r6, r7, r8], Lg)) o from ev_f (c := x1 = 0) _ _ 1  zc3 e (fun n => Eq.refl _)
    have ze30 := Option.some.inj h
    subst ze30
    exact ev_rete 1 ho (fun n => Eq.refl _)
