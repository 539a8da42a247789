/-! printed by program (gen/emitm.py): the reference's methods run as their functions say -/
set_option maxRecDepth 1000000 in
set_option maxHeartbeats 4000000 in
theorem R_f_Rule_read_0 (d : Nat) (Y T HA HB RV RU ST NS I0 I1 I2 BO FI RG GU PU MA MN MS OT SC : Nat → Nat → Int32) (r0 r1 r2 r3 w r5 r6 r7 r8 : Nat) (L : Nat) (Lg : Int64) {r : (Nat → Nat → Int32) × (Nat → Nat → Int32) × Nat} (h : f_Rule_read T RU w = some r) : Ev (d + 47, 0, 0, 241, 0, [.val (.ref 384), .val (.ref 128)], [], (126, 120, L, [Y, T, HA, HB, RV, RU, ST, NS, I0, I1, I2, BO, FI, RG, GU, PU, MA, MN, MS, OT, SC], [r0, r1, r2, r3, w, r5, r6, r7, r8], Lg)) ((0, none, (126, 120, L, [Y, r.1, HA, HB, RV, r.2.1, ST, NS, I0, I1, I2, BO, FI, RG, GU, PU, MA, MN, MS, OT, SC], [r0, r1, r2, r3, r.2.2, r5, r6, r7, r8], Lg)) : AOut) := by
  suffices key : ∀ o : AOut, ((0, none, (126, 120, L, [Y, r.1, HA, HB, RV, r.2.1, ST, NS, I0, I1, I2, BO, FI, RG, GU, PU, MA, MN, MS, OT, SC], [r0, r1, r2, r3, r.2.2, r5, r6, r7, r8], Lg)) : AOut) = o → Ev (d + 47, 0, 0, 241, 0, [.val (.ref 384), .val (.ref 128)], [], (126, 120, L, [Y, T, HA, HB, RV, RU, ST, NS, I0, I1, I2, BO, FI, RG, GU, PU, MA, MN, MS, OT, SC], [r0, r1, r2, r3, w, r5, r6, r7, r8], Lg)) o from key _ rfl
  intro o ho
  obtain ⟨RU_1, zh1, h⟩ := bnd h
  have zh1 : f_Rule_forget RU = some RU_1 := zh1
  have ze2 := R_f_Rule_forget_1 (d + 46) Y T HA HB RV RU ST NS I0 I1 I2 BO FI RG GU PU MA MN MS OT SC r0 r1 r2 r3 w r5 r6 r7 r8 L Lg zh1
  suffices e : Ev (d + 47, 0, 0, 241, 4, [.val (.ref 384), .val (.ref 128)], [], (126, 120, L, [Y, T, HA, HB, RV, RU_1, ST, NS, I0, I1, I2, BO, FI, RG, GU, PU, MA, MN, MS, OT, SC], [r0, r1, r2, r3, w, r5, r6, r7, r8], Lg)) o from ev_call (fun v μ => (d + 47, 0, 0, 241, 4, [.val (.ref 384), .val (.ref 128)], v.toList ++ [], μ)) 2 ze2 e (fun n => Eq.refl _)
  obtain ⟨⟨T_2, RU_3, w4⟩, zh3, h⟩ := bnd h
  have zh3 : f_grp_cr 40 0 T RU_1 w 0 = some (T_2, RU_3, w4) := zh3
  have ze4 := (K_grp_cr_0 40).1 (d + 0) Y T HA HB RV RU_1 ST NS I0 I1 I2 BO FI RG GU PU MA MN MS OT SC r0 r1 r2 r3 w r5 r6 r7 r8 L Lg 0 _ zh3
  suffices e : Ev (d + 47, 0, 0, 241, 10, [.val (.ref 384), .val (.ref 128)], [], (126, 120, L, [Y, T_2, HA, HB, RV, RU_3, ST, NS, I0, I1, I2, BO, FI, RG, GU, PU, MA, MN, MS, OT, SC], [r0, r1, r2, r3, w4, r5, r6, r7, r8], Lg)) o from ev_call (fun v μ => (d + 47, 0, 0, 241, 10, [.val (.ref 384), .val (.ref 128)], v.toList ++ [], μ)) 4 ze4 e (fun n => Eq.refl _)
  obtain ⟨x5, zh5, h⟩ := bnd h
  have zh5 : f_Tape_atEnd T_2 = some x5 := zh5
  have ze6 := R_f_Tape_atEnd_0 (d + 46) Y T_2 HA HB RV RU_3 ST NS I0 I1 I2 BO FI RG GU PU MA MN MS OT SC r0 r1 r2 r3 w4 r5 r6 r7 r8 L Lg zh5
  suffices e : Ev (d + 47, 0, 0, 241, 14, [.val (.ref 384), .val (.ref 128)], [.int x5], (126, 120, L, [Y, T_2, HA, HB, RV, RU_3, ST, NS, I0, I1, I2, BO, FI, RG, GU, PU, MA, MN, MS, OT, SC], [r0, r1, r2, r3, w4, r5, r6, r7, r8], Lg)) o from ev_call (fun v μ => (d + 47, 0, 0, 241, 14, [.val (.ref 384), .val (.ref 128)], v.toList ++ [], μ)) 2 ze6 e (fun n => Eq.refl _)
  by_cases zc7 : x5 ≠ 0
  · have h := itp h zc7
    suffices e : Ev (d + 47, 0, 0, 241, 22, [.val (.ref 384), .val (.ref 128)], [], (126, 120, L, [Y, T_2, HA, HB, RV, RU_3, ST, NS, I0, I1, I2, BO, FI, RG, GU, PU, MA, MN, MS, OT, SC], [r0, r1, r2, r3, w4, r5, r6, r7, r8], Lg)) o from ev_t (c := x5 ≠ 0) _ _ 1  zc7 e (fun n => Eq.refl _)
    have ze8 := Option.some.inj h
    subst ze8
    exact ev_rete 1 ho (fun n => Eq.refl _)
  · have h := itn h zc7
    suffices e : Ev (d + 47, 0, 0, 241, 17, [.val (.ref 384), .val (.ref 128)], [], (126, 120, L, [Y, T_2, HA, HB, RV, RU_3, ST, NS, I0, I1, I2, BO, FI, RG, GU, PU, MA, MN, MS, OT, SC], [r0, r1, r2, r3, w4, r5, r6, r7, r8], Lg)) o from ev_f (c := x5 ≠ 0) _ _ 1  zc7 e (fun n => Eq.refl _)
    obtain ⟨T_6, zh9, h⟩ := bnd h
    have zh9 : f_Tape_fail T_2 1 = some T_6 := zh9
    have ze10 := R_f_Tape_fail_0 (d + 46) Y T_2 HA HB RV RU_3 ST NS I0 I1 I2 BO FI RG GU PU MA MN MS OT SC r0 r1 r2 r3 w4 r5 r6 r7 r8 L Lg 1 zh9
    suffices e : Ev (d + 47, 0, 0, 241, 22, [.val (.ref 384), .val (.ref 128)], [], (126, 120, L, [Y, T_6, HA, HB, RV, RU_3, ST, NS, I0, I1, I2, BO, FI, RG, GU, PU, MA, MN, MS, OT, SC], [r0, r1, r2, r3, w4, r5, r6, r7, r8], Lg)) o from ev_call (fun v μ => (d + 47, 0, 0, 241, 22, [.val (.ref 384), .val (.ref 128)], v.toList ++ [], μ)) 3 ze10 e (fun n => Eq.refl _)
    have ze11 := Option.some.inj h
    subst ze11
    exact ev_rete 1 ho (fun n => Eq.refl _)
set_option maxRecDepth 1000000 in
set_option maxHeartbeats 4000000 in
theorem R_f_Y_rule_0 (d : Nat) (Y T H H2 RU RV ST NS I0 I1 I2 BO FI RG GU PU MA MN MS OT SC : Nat → Nat → Int32) (w r5 : Nat) (L : Nat) (Lg : Int64) (p1 : Int32) {r : Nat × Int32 × (Nat → Nat → Int32) × (Nat → Nat → Int32) × (Nat → Nat → Int32) × Nat × Nat × Nat} (h : f_Y_rule Y T RV 384 320 w p1 = some r) : Ev (d + 48, 1, 8, 286, 0, [.val (.ref 64), .val (.int p1), .val a_unk], [], (126, 120, L, [Y, T, H, H2, RU, RV, ST, NS, I0, I1, I2, BO, FI, RG, GU, PU, MA, MN, MS, OT, SC], [192, 256, 320, 384, w, r5, 576, 640, 704], Lg)) ((r.1, a_ov r.1 (.int r.2.1), (126, 120, L, [r.2.2.1, r.2.2.2.1, H, H2, RU, r.2.2.2.2.1, ST, NS, I0, I1, I2, BO, FI, RG, GU, PU, MA, MN, MS, OT, SC], [192, 256, r.2.2.2.2.2.1, r.2.2.2.2.2.2.1, r.2.2.2.2.2.2.2, r5, 576, 640, 704], Lg)) : AOut) := by
  suffices key : ∀ o : AOut, ((r.1, a_ov r.1 (.int r.2.1), (126, 120, L, [r.2.2.1, r.2.2.2.1, H, H2, RU, r.2.2.2.2.1, ST, NS, I0, I1, I2, BO, FI, RG, GU, PU, MA, MN, MS, OT, SC], [192, 256, r.2.2.2.2.2.1, r.2.2.2.2.2.2.1, r.2.2.2.2.2.2.2, r5, 576, 640, 704], Lg)) : AOut) = o → Ev (d + 48, 1, 8, 286, 0, [.val (.ref 64), .val (.int p1), .val a_unk], [], (126, 120, L, [Y, T, H, H2, RU, RV, ST, NS, I0, I1, I2, BO, FI, RG, GU, PU, MA, MN, MS, OT, SC], [192, 256, 320, 384, w, r5, 576, 640, 704], Lg)) o from key _ rfl
  intro o ho
  obtain ⟨zt1, zh2, h⟩ := bnd h
  have zj3 : ∀ (v1 : Int32), v1 = zt1 → Ev (d + 48, 1, 8, 286, 28, [.val (.ref 64), .val (.int p1), .val a_unk], [.int v1, .ref 64], (126, 120, L, [Y, T, H, H2, RU, RV, ST, NS, I0, I1, I2, BO, FI, RG, GU, PU, MA, MN, MS, OT, SC], [192, 256, 320, 384, w, r5, 576, 640, 704], Lg)) o := by
    intro v1 ze4
    subst ze4
    obtain ⟨⟨q2, Y_3⟩, zh5, h⟩ := bnd h
    have zh5 : f_Y_refuseUnless Y v1 = some (q2, Y_3) := zh5
    have ze6 := R_f_Y_refuseUnless_0 (d + 47) Y T H H2 RU RV ST NS I0 I1 I2 BO FI RG GU PU MA MN MS OT SC w r5 L Lg v1 zh5
    cases q2 with
    | zero =>
      have h := itp h rfl
      suffices e : Ev (d + 48, 0, 0, 286, 31, [.val (.ref 64), .val (.int p1), .val a_unk], [], (126, 120, L, [Y_3, T, H, H2, RU, RV, ST, NS, I0, I1, I2, BO, FI, RG, GU, PU, MA, MN, MS, OT, SC], [192, 256, 320, 384, w, r5, 576, 640, 704], Lg)) o from ev_call (fun v μ => (d + 48, 0, 0, 286, 31, [.val (.ref 64), .val (.int p1), .val a_unk], v.toList ++ [], μ)) 1 ze6 e (fun n => Eq.refl _)
      obtain ⟨⟨T_4, w5⟩, zh7, h⟩ := bnd h
      have zh7 : f_Tape_open T p1 = some (T_4, w5) := zh7
      have ze8 := R_f_Tape_open_0 (d + 41) Y_3 T H H2 RU RV ST NS I0 I1 I2 BO FI RG GU PU MA MN MS OT SC 192 256 320 384 w r5 576 640 704 L Lg p1 zh7
      suffices e : Ev (d + 48, 0, 0, 286, 39, [.val (.ref 64), .val (.int p1), .val a_unk], [], (126, 120, L, [Y_3, T_4, H, H2, RU, RV, ST, NS, I0, I1, I2, BO, FI, RG, GU, PU, MA, MN, MS, OT, SC], [192, 256, 320, 384, w5, r5, 576, 640, 704], Lg)) o from ev_call (fun v μ => (d + 48, 0, 0, 286, 39, [.val (.ref 64), .val (.int p1), .val a_unk], v.toList ++ [], μ)) 4 ze8 e (fun n => Eq.refl _)
      suffices e : Ev (d + 48, 0, 0, 286, 43, [.val (.ref 64), .val (.int p1), .val a_unk], [.ref 384], (126, 120, L, [Y_3, T_4, H, H2, RU, RV, ST, NS, I0, I1, I2, BO, FI, RG, GU, PU, MA, MN, MS, OT, SC], [192, 256, 320, 384, w5, r5, 576, 640, 704], Lg)) o from ev_b 2 e (fun n => Eq.refl _)
      obtain ⟨⟨T_6, RV_7, w8⟩, zh9, h⟩ := bnd h
      have zh9 : f_Rule_read T_4 RV w5 = some (T_6, RV_7, w8) := zh9
      have ze10 := R_f_Rule_read_0 (d + 0) Y_3 T_4 H H2 RU RV ST NS I0 I1 I2 BO FI RG GU PU MA MN MS OT SC 192 256 320 384 w5 r5 576 640 704 L Lg zh9
      suffices e : Ev (d + 48, 0, 0, 286, 50, [.val (.ref 64), .val (.int p1), .val a_unk], [], (126, 120, L, [Y_3, T_6, H, H2, RU, RV_7, ST, NS, I0, I1, I2, BO, FI, RG, GU, PU, MA, MN, MS, OT, SC], [192, 256, 320, 384, w8, r5, 576, 640, 704], Lg)) o from ev_call (fun v μ => (d + 48, 0, 0, 286, 50, [.val (.ref 64), .val (.int p1), .val a_unk], v.toList ++ [], μ)) 3 ze10 e (fun n => Eq.refl _)
      obtain ⟨T_9, zh11, h⟩ := bnd h
      have zh11 : f_Tape_empty T_6 = some T_9 := zh11
      have ze12 := R_f_Tape_empty_0 (d + 47) Y_3 T_6 H H2 RU RV_7 ST NS I0 I1 I2 BO FI RG GU PU MA MN MS OT SC 192 256 320 384 w8 r5 576 640 704 L Lg zh11
      suffices e : Ev (d + 48, 0, 0, 286, 57, [.val (.ref 64), .val (.int p1), .val a_unk], [], (126, 120, L, [Y_3, T_9, H, H2, RU, RV_7, ST, NS, I0, I1, I2, BO, FI, RG, GU, PU, MA, MN, MS, OT, SC], [192, 256, 320, 384, w8, r5, 576, 640, 704], Lg)) o from ev_call (fun v μ => (d + 48, 0, 0, 286, 57, [.val (.ref 64), .val (.int p1), .val a_unk], v.toList ++ [], μ)) 3 ze12 e (fun n => Eq.refl _)
      obtain ⟨x10, zh13, h⟩ := bnd h
      have zh13 : f_Tape_failed T_9 = some x10 := zh13
      have ze14 := R_f_Tape_failed_0 (d + 47) Y_3 T_9 H H2 RU RV_7 ST NS I0 I1 I2 BO FI RG GU PU MA MN MS OT SC 192 256 320 384 w8 r5 576 640 704 L Lg zh13
      suffices e : Ev (d + 48, 0, 0, 286, 64, [.val (.ref 64), .val (.int p1), .val a_unk], [.int x10], (126, 120, L, [Y_3, T_9, H, H2, RU, RV_7, ST, NS, I0, I1, I2, BO, FI, RG, GU, PU, MA, MN, MS, OT, SC], [192, 256, 320, 384, w8, r5, 576, 640, 704], Lg)) o from ev_call (fun v μ => (d + 48, 0, 0, 286, 64, [.val (.ref 64), .val (.int p1), .val a_unk], v.toList ++ [], μ)) 3 ze14 e (fun n => Eq.refl _)
      by_cases zc15 : x10 = 0
      · have h := itp h zc15
        suffices e : Ev (d + 48, 0, 0, 286, 78, [.val (.ref 64), .val (.int p1), .val a_unk], [], (126, 120, L, [Y_3, T_9, H, H2, RU, RV_7, ST, NS, I0, I1, I2, BO, FI, RG, GU, PU, MA, MN, MS, OT, SC], [192, 256, 320, 384, w8, r5, 576, 640, 704], Lg)) o from ev_t (c := x10 = 0) _ _ 1  zc15 e (fun n => Eq.refl _)
        suffices e : Ev (d + 48, 0, 0, 286, 82, [.val (.ref 64), .val (.int p1), .val a_unk], [.ref 320], (126, 120, L, [Y_3, T_9, H, H2, RU, RV_7, ST, NS, I0, I1, I2, BO, FI, RG, GU, PU, MA, MN, MS, OT, SC], [192, 256, 320, 384, w8, r5, 576, 640, 704], Lg)) o from ev_b 2 e (fun n => Eq.refl _)
        suffices e : Ev (d + 48, 0, 0, 286, 88, [.val (.ref 64), .val (.int p1), .val (.ref 320)], [.ref 384, .ref 64], (126, 120, L, [Y_3, T_9, H, H2, RU, RV_7, ST, NS, I0, I1, I2, BO, FI, RG, GU, PU, MA, MN, MS, OT, SC], [192, 256, 320, 384, w8, r5, 576, 640, 704], Lg)) o from ev_b 4 e (fun n => Eq.refl _)
        have ze16 := Option.some.inj h
        subst ze16
        exact ev_rete 6 ho (fun n => Eq.refl _)
      · have h := itn h zc15
        suffices e : Ev (d + 48, 0, 0, 286, 67, [.val (.ref 64), .val (.int p1), .val a_unk], [], (126, 120, L, [Y_3, T_9, H, H2, RU, RV_7, ST, NS, I0, I1, I2, BO, FI, RG, GU, PU, MA, MN, MS, OT, SC], [192, 256, 320, 384, w8, r5, 576, 640, 704], Lg)) o from ev_f (c := x10 = 0) _ _ 1  zc15 e (fun n => Eq.refl _)
        have ze17 := Option.some.inj h
        subst ze17
        exact ev_rete 6 ho (fun n => Eq.refl _)
    | succ q2 =>
      have h := itn h (Nat.succ_ne_zero q2)
      have ze18 := Option.some.inj h
      subst ze18
      subst ho
      exact ev_thr (fun v μ => (d + 48, 0, 0, 286, 31, [.val (.ref 64), .val (.int p1), .val a_unk], v.toList ++ [], μ)) 1 ze6 (fun n => Eq.refl _) (fun n => rfl)
  obtain ⟨zt19, zh20, zh2⟩ := bnd zh2
  have zj21 : zt19 = .inl () → Ev (d + 48, 1, 8, 286, 27, [.val (.ref 64), .val (.int p1), .val a_unk], [.ref 64], (126, 120, L, [Y, T, H, H2, RU, RV, ST, NS, I0, I1, I2, BO, FI, RG, GU, PU, MA, MN, MS, OT, SC], [192, 256, 320, 384, w, r5, 576, 640, 704], Lg)) o := by
    intro ze22
    have zh2 := sum_l zh2 ze22
    exact ev_b 1 (zj3 0 (Option.some.inj zh2) ) (fun n => Eq.refl _)
  by_cases zc23 : p1 < 0
  · have zh20 := itp zh20 zc23
    suffices e : Ev (d + 48, 1, 8, 286, 27, [.val (.ref 64), .val (.int p1), .val a_unk], [.ref 64], (126, 120, L, [Y, T, H, H2, RU, RV, ST, NS, I0, I1, I2, BO, FI, RG, GU, PU, MA, MN, MS, OT, SC], [192, 256, 320, 384, w, r5, 576, 640, 704], Lg)) o from ev_t (c := p1 < 0) _ _ 3  zc23 e (fun n => Eq.refl _)
    exact ev_b 0 (zj21  (Option.some.inj zh20).symm ) (fun n => Eq.refl _)
  · have zh20 := itn zh20 zc23
    suffices e : Ev (d + 48, 1, 8, 286, 5, [.val (.ref 64), .val (.int p1), .val a_unk], [.ref 64], (126, 120, L, [Y, T, H, H2, RU, RV, ST, NS, I0, I1, I2, BO, FI, RG, GU, PU, MA, MN, MS, OT, SC], [192, 256, 320, 384, w, r5, 576, 640, 704], Lg)) o from ev_f (c := p1 < 0) _ _ 3  zc23 e (fun n => Eq.refl _)
    by_cases zc24 : (T 0 1) < p1
    · have zh20 := itp zh20 zc24
      suffices e : Ev (d + 48, 1, 8, 286, 27, [.val (.ref 64), .val (.int p1), .val a_unk], [.ref 64], (126, 120, L, [Y, T, H, H2, RU, RV, ST, NS, I0, I1, I2, BO, FI, RG, GU, PU, MA, MN, MS, OT, SC], [192, 256, 320, 384, w, r5, 576, 640, 704], Lg)) o from ev_t (c := (T 0 1) < p1) _ _ 5  zc24 e (fun n => Eq.refl _)
      exact ev_b 0 (zj21  (Option.some.inj zh20).symm ) (fun n => Eq.refl _)
    · have zh20 := itn zh20 zc24
      suffices e : Ev (d + 48, 1, 8, 286, 16, [.val (.ref 64), .val (.int p1), .val a_unk], [.ref 64], (126, 120, L, [Y, T, H, H2, RU, RV, ST, NS, I0, I1, I2, BO, FI, RG, GU, PU, MA, MN, MS, OT, SC], [192, 256, 320, 384, w, r5, 576, 640, 704], Lg)) o from ev_f (c := (T 0 1) < p1) _ _ 5  zc24 e (fun n => Eq.refl _)
      by_cases zc25 : 150 < p1
      · have zh20 := itp zh20 zc25
        suffices e : Ev (d + 48, 1, 8, 286, 27, [.val (.ref 64), .val (.int p1), .val a_unk], [.ref 64], (126, 120, L, [Y, T, H, H2, RU, RV, ST, NS, I0, I1, I2, BO, FI, RG, GU, PU, MA, MN, MS, OT, SC], [192, 256, 320, 384, w, r5, 576, 640, 704], Lg)) o from ev_t (c := 150 < p1) _ _ 3  zc25 e (fun n => Eq.refl _)
        exact ev_b 0 (zj21  (Option.some.inj zh20).symm ) (fun n => Eq.refl _)
      · have zh20 := itn zh20 zc25
        suffices e : Ev (d + 48, 1, 8, 286, 23, [.val (.ref 64), .val (.int p1), .val a_unk], [.ref 64], (126, 120, L, [Y, T, H, H2, RU, RV, ST, NS, I0, I1, I2, BO, FI, RG, GU, PU, MA, MN, MS, OT, SC], [192, 256, 320, 384, w, r5, 576, 640, 704], Lg)) o from ev_f (c := 150 < p1) _ _ 3  zc25 e (fun n => Eq.refl _)
        have zh26 := sum_r zh2 (Option.some.inj zh20).symm
        exact ev_b 2 (zj3 1 (Option.some.inj zh26) ) (fun n => Eq.refl _)
set_option maxRecDepth 1000000 in
set_option maxHeartbeats 4000000 in
theorem R_f_Rule_emit_1 (d : Nat) (Y T HA HB RU RV ST NS I0 I1 I2 BO FI RG GU PU MA MN MS OT SC : Nat → Nat → Int32) (r0 r1 r2 r3 w r5 r6 r7 r8 : Nat) (L : Nat) (Lg : Int64) (p1 : Int32) {r : (Nat → Nat → Int32)} (h : f_Rule_emit RU p1 = some r) : Ev (d + 0, 0, 0, 242, 0, [.val (.ref 320), .val (.int p1)], [], (126, 120, L, [Y, T, HA, HB, RU, RV, ST, NS, I0, I1, I2, BO, FI, RG, GU, PU, MA, MN, MS, OT, SC], [r0, r1, r2, r3, w, r5, r6, r7, r8], Lg)) ((0, none, (126, 120, L, [Y, T, HA, HB, r, RV, ST, NS, I0, I1, I2, BO, FI, RG, GU, PU, MA, MN, MS, OT, SC], [r0, r1, r2, r3, w, r5, r6, r7, r8], Lg)) : AOut) := by
  suffices key : ∀ o : AOut, ((0, none, (126, 120, L, [Y, T, HA, HB, r, RV, ST, NS, I0, I1, I2, BO, FI, RG, GU, PU, MA, MN, MS, OT, SC], [r0, r1, r2, r3, w, r5, r6, r7, r8], Lg)) : AOut) = o → Ev (d + 0, 0, 0, 242, 0, [.val (.ref 320), .val (.int p1)], [], (126, 120, L, [Y, T, HA, HB, RU, RV, ST, NS, I0, I1, I2, BO, FI, RG, GU, PU, MA, MN, MS, OT, SC], [r0, r1, r2, r3, w, r5, r6, r7, r8], Lg)) o from key _ rfl
  intro o ho
  by_cases zc1 : 150 ≤ (RU 0 1)
  · have h := itp h zc1
    suffices e : Ev (d + 0, 0, 0, 242, 30, [.val (.ref 320), .val (.int p1)], [], (126, 120, L, [Y, T, HA, HB, RU, RV, ST, NS, I0, I1, I2, BO, FI, RG, GU, PU, MA, MN, MS, OT, SC], [r0, r1, r2, r3, w, r5, r6, r7, r8], Lg)) o from ev_t (c := 150 ≤ (RU 0 1)) _ _ 4  zc1 e (fun n => Eq.refl _)
    have ze2 := Option.some.inj h
    subst ze2
    exact ev_rete 1 ho (fun n => Eq.refl _)
  · have h := itn h zc1
    suffices e : Ev (d + 0, 0, 0, 242, 10, [.val (.ref 320), .val (.int p1)], [], (126, 120, L, [Y, T, HA, HB, RU, RV, ST, NS, I0, I1, I2, BO, FI, RG, GU, PU, MA, MN, MS, OT, SC], [r0, r1, r2, r3, w, r5, r6, r7, r8], Lg)) o from ev_f (c := 150 ≤ (RU 0 1)) _ _ 4  zc1 e (fun n => Eq.refl _)
    obtain ⟨j1, zh3, h⟩ := bnd h
    have zh3 : ixx 150 (RU 0 1) = some j1 := zh3
    suffices e : Ev (d + 0, 0, 0, 242, 20, [.val (.ref 320), .val (.int p1)], [], (126, 120, L, [Y, T, HA, HB, (u2 RU 1 j1 p1), RV, ST, NS, I0, I1, I2, BO, FI, RG, GU, PU, MA, MN, MS, OT, SC], [r0, r1, r2, r3, w, r5, r6, r7, r8], Lg)) o from ev_opt (fun j1 => (d + 0, 0, 0, 242, 20, [.val (.ref 320), .val (.int p1)], [], (126, 120, L, [Y, T, HA, HB, (u2 RU 1 j1 p1), RV, ST, NS, I0, I1, I2, BO, FI, RG, GU, PU, MA, MN, MS, OT, SC], [r0, r1, r2, r3, w, r5, r6, r7, r8], Lg))) 6 zh3 e (fun n => Eq.refl _)
    have ze4 := Option.some.inj h
    subst ze4
    exact ev_rete 7 ho (fun n => Eq.refl _)
set_option maxRecDepth 1000000 in
set_option maxHeartbeats 4000000 in
theorem R_f_Rule_readAny_B_1 (d : Nat) (rc : (Nat → (Nat → Nat → Int32) → (Nat → Nat → Int32) → Nat → Int32 → Option ((Nat → Nat → Int32) × (Nat → Nat → Int32) × Nat)))
    (zrc0 : ∀ (Y T HA HB RU RV ST NS I0 I1 I2 BO FI RG GU PU MA MN MS OT SC : Nat → Nat → Int32) (r0 r1 r2 r3 w r5 r6 r7 r8 : Nat) (L : Nat) (Lg : Int64) (p2 : Int32) (r : (Nat → Nat → Int32) × (Nat → Nat → Int32) × Nat), rc 0 T RU w p2 = some r → Ev (d + 6, 0, 0, 243, 0, [.val (.ref 320), .val (.ref 128), .val (.int p2), .val a_unk], [], (126, 120, L, [Y, T, HA, HB, RU, RV, ST, NS, I0, I1, I2, BO, FI, RG, GU, PU, MA, MN, MS, OT, SC], [r0, r1, r2, r3, w, r5, r6, r7, r8], Lg)) ((0, none, (126, 120, L, [Y, r.1, HA, HB, r.2.1, RV, ST, NS, I0, I1, I2, BO, FI, RG, GU, PU, MA, MN, MS, OT, SC], [r0, r1, r2, r3, r.2.2, r5, r6, r7, r8], Lg)) : AOut))
    (zrc1 : ∀ (Y T HA HB RU RV ST NS I0 I1 I2 BO FI RG GU PU MA MN MS OT SC : Nat → Nat → Int32) (r0 r1 r2 r3 w r5 r6 r7 r8 : Nat) (L : Nat) (Lg : Int64) (p2 : Int32) (r : (Nat → Nat → Int32) × (Nat → Nat → Int32) × Nat), rc 1 T RU w p2 = some r → Ev (d + 6, 0, 0, 244, 0, [.val (.ref 320), .val (.ref 128), .val (.int p2), .val a_unk], [], (126, 120, L, [Y, T, HA, HB, RU, RV, ST, NS, I0, I1, I2, BO, FI, RG, GU, PU, MA, MN, MS, OT, SC], [r0, r1, r2, r3, w, r5, r6, r7, r8], Lg)) ((0, none, (126, 120, L, [Y, r.1, HA, HB, r.2.1, RV, ST, NS, I0, I1, I2, BO, FI, RG, GU, PU, MA, MN, MS, OT, SC], [r0, r1, r2, r3, r.2.2, r5, r6, r7, r8], Lg)) : AOut))
    (zrc2 : ∀ (Y T HA HB RU RV ST NS I0 I1 I2 BO FI RG GU PU MA MN MS OT SC : Nat → Nat → Int32) (r0 r1 r2 r3 w r5 r6 r7 r8 : Nat) (L : Nat) (Lg : Int64) (p2 : Int32) (r : (Nat → Nat → Int32) × (Nat → Nat → Int32) × Nat), rc 2 T RU w p2 = some r → Ev (d + 6, 0, 0, 245, 0, [.val (.ref 320), .val (.ref 128), .val (.int p2)], [], (126, 120, L, [Y, T, HA, HB, RU, RV, ST, NS, I0, I1, I2, BO, FI, RG, GU, PU, MA, MN, MS, OT, SC], [r0, r1, r2, r3, w, r5, r6, r7, r8], Lg)) ((0, none, (126, 120, L, [Y, r.1, HA, HB, r.2.1, RV, ST, NS, I0, I1, I2, BO, FI, RG, GU, PU, MA, MN, MS, OT, SC], [r0, r1, r2, r3, r.2.2, r5, r6, r7, r8], Lg)) : AOut))
    (zrc3 : ∀ (Y T HA HB RU RV ST NS I0 I1 I2 BO FI RG GU PU MA MN MS OT SC : Nat → Nat → Int32) (r0 r1 r2 r3 w r5 r6 r7 r8 : Nat) (L : Nat) (Lg : Int64) (p2 : Int32) (r : (Nat → Nat → Int32) × (Nat → Nat → Int32) × Nat), rc 3 T RU w p2 = some r → Ev (d + 6, 0, 0, 248, 0, [.val (.ref 320), .val (.ref 128), .val (.int p2), .val a_unk, .val a_unk], [], (126, 120, L, [Y, T, HA, HB, RU, RV, ST, NS, I0, I1, I2, BO, FI, RG, GU, PU, MA, MN, MS, OT, SC], [r0, r1, r2, r3, w, r5, r6, r7, r8], Lg)) ((0, none, (126, 120, L, [Y, r.1, HA, HB, r.2.1, RV, ST, NS, I0, I1, I2, BO, FI, RG, GU, PU, MA, MN, MS, OT, SC], [r0, r1, r2, r3, r.2.2, r5, r6, r7, r8], Lg)) : AOut))
    (zrc4 : ∀ (Y T HA HB RU RV ST NS I0 I1 I2 BO FI RG GU PU MA MN MS OT SC : Nat → Nat → Int32) (r0 r1 r2 r3 w r5 r6 r7 r8 : Nat) (L : Nat) (Lg : Int64) (p2 : Int32) (r : (Nat → Nat → Int32) × (Nat → Nat → Int32) × Nat), rc 4 T RU w p2 = some r → Ev (d + 6, 0, 0, 249, 0, [.val (.ref 320), .val (.ref 128), .val (.int p2), .val a_unk], [], (126, 120, L, [Y, T, HA, HB, RU, RV, ST, NS, I0, I1, I2, BO, FI, RG, GU, PU, MA, MN, MS, OT, SC], [r0, r1, r2, r3, w, r5, r6, r7, r8], Lg)) ((0, none, (126, 120, L, [Y, r.1, HA, HB, r.2.1, RV, ST, NS, I0, I1, I2, BO, FI, RG, GU, PU, MA, MN, MS, OT, SC], [r0, r1, r2, r3, r.2.2, r5, r6, r7, r8], Lg)) : AOut))
    (zrc5 : ∀ (Y T HA HB RU RV ST NS I0 I1 I2 BO FI RG GU PU MA MN MS OT SC : Nat → Nat → Int32) (r0 r1 r2 r3 w r5 r6 r7 r8 : Nat) (L : Nat) (Lg : Int64) (p2 : Int32) (r : (Nat → Nat → Int32) × (Nat → Nat → Int32) × Nat), rc 5 T RU w p2 = some r → Ev (d + 6, 0, 0, 250, 0, [.val (.ref 320), .val (.ref 128), .val (.int p2), .val a_unk], [], (126, 120, L, [Y, T, HA, HB, RU, RV, ST, NS, I0, I1, I2, BO, FI, RG, GU, PU, MA, MN, MS, OT, SC], [r0, r1, r2, r3, w, r5, r6, r7, r8], Lg)) ((0, none, (126, 120, L, [Y, r.1, HA, HB, r.2.1, RV, ST, NS, I0, I1, I2, BO, FI, RG, GU, PU, MA, MN, MS, OT, SC], [r0, r1, r2, r3, r.2.2, r5, r6, r7, r8], Lg)) : AOut))
    (zrc6 : ∀ (Y T HA HB RU RV ST NS I0 I1 I2 BO FI RG GU PU MA MN MS OT SC : Nat → Nat → Int32) (r0 r1 r2 r3 w r5 r6 r7 r8 : Nat) (L : Nat) (Lg : Int64) (p2 : Int32) (r : (Nat → Nat → Int32) × (Nat → Nat → Int32) × Nat), rc 6 T RU w p2 = some r → Ev (d + 6, 0, 0, 247, 0, [.val (.ref 320), .val (.ref 128), .val (.int p2), .val a_unk], [], (126, 120, L, [Y, T, HA, HB, RU, RV, ST, NS, I0, I1, I2, BO, FI, RG, GU, PU, MA, MN, MS, OT, SC], [r0, r1, r2, r3, w, r5, r6, r7, r8], Lg)) ((0, none, (126, 120, L, [Y, r.1, HA, HB, r.2.1, RV, ST, NS, I0, I1, I2, BO, FI, RG, GU, PU, MA, MN, MS, OT, SC], [r0, r1, r2, r3, r.2.2, r5, r6, r7, r8], Lg)) : AOut))
    (Y T HA HB RU RV ST NS I0 I1 I2 BO FI RG GU PU MA MN MS OT SC : Nat → Nat → Int32) (r0 r1 r2 r3 w r5 r6 r7 r8 : Nat) (L : Nat) (Lg : Int64) (p2 : Int32) {r : (Nat → Nat → Int32) × (Nat → Nat → Int32) × Nat} (h : f_Rule_readAny_B rc T RU w p2 = some r) : Ev (d + 7, 0, 0, 243, 0, [.val (.ref 320), .val (.ref 128), .val (.int p2), .val a_unk], [], (126, 120, L, [Y, T, HA, HB, RU, RV, ST, NS, I0, I1, I2, BO, FI, RG, GU, PU, MA, MN, MS, OT, SC], [r0, r1, r2, r3, w, r5, r6, r7, r8], Lg)) ((0, none, (126, 120, L, [Y, r.1, HA, HB, r.2.1, RV, ST, NS, I0, I1, I2, BO, FI, RG, GU, PU, MA, MN, MS, OT, SC], [r0, r1, r2, r3, r.2.2, r5, r6, r7, r8], Lg)) : AOut) := by
  suffices key : ∀ o : AOut, ((0, none, (126, 120, L, [Y, r.1, HA, HB, r.2.1, RV, ST, NS, I0, I1, I2, BO, FI, RG, GU, PU, MA, MN, MS, OT, SC], [r0, r1, r2, r3, r.2.2, r5, r6, r7, r8], Lg)) : AOut) = o → Ev (d + 7, 0, 0, 243, 0, [.val (.ref 320), .val (.ref 128), .val (.int p2), .val a_unk], [], (126, 120, L, [Y, T, HA, HB, RU, RV, ST, NS, I0, I1, I2, BO, FI, RG, GU, PU, MA, MN, MS, OT, SC], [r0, r1, r2, r3, w, r5, r6, r7, r8], Lg)) o from key _ rfl
  intro o ho
  obtain ⟨⟨T_1, RU_2, w3⟩, zh1, h⟩ := bnd h
  have zh1 : rc 1 T RU w p2 = some (T_1, RU_2, w3) := zh1
  have ze2 := zrc1 Y T HA HB RU RV ST NS I0 I1 I2 BO FI RG GU PU MA MN MS OT SC r0 r1 r2 r3 w r5 r6 r7 r8 L Lg p2 _ zh1
  suffices e : Ev (d + 7, 0, 0, 243, 6, [.val (.ref 320), .val (.ref 128), .val (.int p2), .val a_unk], [], (126, 120, L, [Y, T_1, HA, HB, RU_2, RV, ST, NS, I0, I1, I2, BO, FI, RG, GU, PU, MA, MN, MS, OT, SC], [r0, r1, r2, r3, w3, r5, r6, r7, r8], Lg)) o from ev_call (fun v μ => (d + 7, 0, 0, 243, 6, [.val (.ref 320), .val (.ref 128), .val (.int p2), .val a_unk], v.toList ++ [], μ)) 4 ze2 e (fun n => Eq.refl _)
  obtain ⟨zb3, zh4, h⟩ := bnd h
  suffices e : Ev (d + 7, 0, 0, 243, 8, [.val (.ref 320), .val (.ref 128), .val (.int p2), .val (.int 0)], [], (126, 120, L, [Y, T_1, HA, HB, RU_2, RV, ST, NS, I0, I1, I2, BO, FI, RG, GU, PU, MA, MN, MS, OT, SC], [r0, r1, r2, r3, w3, r5, r6, r7, r8], Lg)) o from ev_b 2 e (fun n => Eq.refl _)
  refine ev_loop (δ := Unit) (fun a j => (d + 7, 0, 0, 243, 8, [.val (.ref 320), .val (.ref 128), .val (.int p2), .val (.int a.1)], [], (126, 120, L, [Y, a.2.1, HA, HB, a.2.2.1, RV, ST, NS, I0, I1, I2, BO, FI, RG, GU, PU, MA, MN, MS, OT, SC], [r0, r1, r2, r3, a.2.2.2, r5, r6, r7, r8], Lg))) (fun b => ∀ s15 : Value, Ev (d + 7, 0, 0, 243, 55, [.val (.ref 320), .val (.ref 128), .val (.int p2), .val s15], [], (126, 120, L, [Y, b.1, HA, HB, b.2.1, RV, ST, NS, I0, I1, I2, BO, FI, RG, GU, PU, MA, MN, MS, OT, SC], [r0, r1, r2, r3, b.2.2, r5, r6, r7, r8], Lg)) o) ?_ a_F (0, T_1, RU_2, w3) zb3 zh4 ?_ ()
  · rintro ⟨v4, T_5, RU_6, w7⟩ zr8 zh7 zi5 zx6 ⟨⟩
    have zh7 : f_Rule_readAny_B_l8 rc p2 v4 T_5 RU_6 w7 = some zr8 := zh7
    by_cases zc9 : 150 ≤ v4
    · have zh7 := itp zh7 zc9
      suffices e : Ev (d + 7, 0, 0, 243, 55, [.val (.ref 320), .val (.ref 128), .val (.int p2), .val (.int v4)], [], (126, 120, L, [Y, T_5, HA, HB, RU_6, RV, ST, NS, I0, I1, I2, BO, FI, RG, GU, PU, MA, MN, MS, OT, SC], [r0, r1, r2, r3, w7, r5, r6, r7, r8], Lg)) o from ev_t (c := 150 ≤ v4) _ _ 3  zc9 e (fun n => Eq.refl _)
      exact ev_b 0 (zx6 _ (Option.some.inj zh7).symm (.int v4)) (fun n => Eq.refl _)
    · have zh7 := itn zh7 zc9
      suffices e : Ev (d + 7, 0, 0, 243, 15, [.val (.ref 320), .val (.ref 128), .val (.int p2), .val (.int v4)], [], (126, 120, L, [Y, T_5, HA, HB, RU_6, RV, ST, NS, I0, I1, I2, BO, FI, RG, GU, PU, MA, MN, MS, OT, SC], [r0, r1, r2, r3, w7, r5, r6, r7, r8], Lg)) o from ev_f (c := 150 ≤ v4) _ _ 3  zc9 e (fun n => Eq.refl _)
      obtain ⟨x8, zh10, zh7⟩ := bnd zh7
      have zh10 : f_Tape_failed T_5 = some x8 := zh10
      have ze11 := R_f_Tape_failed_0 (d + 6) Y T_5 HA HB RU_6 RV ST NS I0 I1 I2 BO FI RG GU PU MA MN MS OT SC r0 r1 r2 r3 w7 r5 r6 r7 r8 L Lg zh10
      suffices e : Ev (d + 7, 0, 0, 243, 19, [.val (.ref 320), .val (.ref 128), .val (.int p2), .val (.int v4)], [.int x8], (126, 120, L, [Y, T_5, HA, HB, RU_6, RV, ST, NS, I0, I1, I2, BO, FI, RG, GU, PU, MA, MN, MS, OT, SC], [r0, r1, r2, r3, w7, r5, r6, r7, r8], Lg)) o from ev_call (fun v μ => (d + 7, 0, 0, 243, 19, [.val (.ref 320), .val (.ref 128), .val (.int p2), .val (.int v4)], v.toList ++ [], μ)) 2 ze11 e (fun n => Eq.refl _)
      by_cases zc12 : x8 ≠ 0
      · have zh7 := itp zh7 zc12
        suffices e : Ev (d + 7, 0, 0, 243, 55, [.val (.ref 320), .val (.ref 128), .val (.int p2), .val (.int v4)], [], (126, 120, L, [Y, T_5, HA, HB, RU_6, RV, ST, NS, I0, I1, I2, BO, FI, RG, GU, PU, MA, MN, MS, OT, SC], [r0, r1, r2, r3, w7, r5, r6, r7, r8], Lg)) o from ev_t (c := x8 ≠ 0) _ _ 1  zc12 e (fun n => Eq.refl _)
        exact ev_b 0 (zx6 _ (Option.some.inj zh7).symm (.int v4)) (fun n => Eq.refl _)
      · have zh7 := itn zh7 zc12
        suffices e : Ev (d + 7, 0, 0, 243, 22, [.val (.ref 320), .val (.ref 128), .val (.int p2), .val (.int v4)], [], (126, 120, L, [Y, T_5, HA, HB, RU_6, RV, ST, NS, I0, I1, I2, BO, FI, RG, GU, PU, MA, MN, MS, OT, SC], [r0, r1, r2, r3, w7, r5, r6, r7, r8], Lg)) o from ev_f (c := x8 ≠ 0) _ _ 1  zc12 e (fun n => Eq.refl _)
        by_cases zg14 : ¬ (okW w7 ∧ okW 2570)
        · exact nos (itn zh7 zg14)
        have zg14 := Decidable.not_not.mp zg14
        have zh7 := itp zh7 zg14
        by_cases zc13 : w7 = 2570
        · have zh7 := itp zh7 zc13
          suffices e : Ev (d + 7, 0, 0, 243, 32, [.val (.ref 320), .val (.ref 128), .val (.int p2), .val (.int v4)], [], (126, 120, L, [Y, T_5, HA, HB, RU_6, RV, ST, NS, I0, I1, I2, BO, FI, RG, GU, PU, MA, MN, MS, OT, SC], [r0, r1, r2, r3, w7, r5, r6, r7, r8], Lg)) o from ev_gt (c := w7 = 2570) _ _ 4 zg14 zc13 e (fun n => Eq.refl _)
          obtain ⟨⟨T_9, w10⟩, zh15, zh7⟩ := bnd zh7
          have zh15 : f_Tape_advance T_5 = some (T_9, w10) := zh15
          have ze16 := R_f_Tape_advance_0 (d + 1) Y T_5 HA HB RU_6 RV ST NS I0 I1 I2 BO FI RG GU PU MA MN MS OT SC r0 r1 r2 r3 w7 r5 r6 r7 r8 L Lg zh15
          suffices e : Ev (d + 7, 0, 0, 243, 36, [.val (.ref 320), .val (.ref 128), .val (.int p2), .val (.int v4)], [], (126, 120, L, [Y, T_9, HA, HB, RU_6, RV, ST, NS, I0, I1, I2, BO, FI, RG, GU, PU, MA, MN, MS, OT, SC], [r0, r1, r2, r3, w10, r5, r6, r7, r8], Lg)) o from ev_call (fun v μ => (d + 7, 0, 0, 243, 36, [.val (.ref 320), .val (.ref 128), .val (.int p2), .val (.int v4)], v.toList ++ [], μ)) 2 ze16 e (fun n => Eq.refl _)
          obtain ⟨⟨T_11, RU_12, w13⟩, zh17, zh7⟩ := bnd zh7
          have zh17 : rc 1 T_9 RU_6 w10 p2 = some (T_11, RU_12, w13) := zh17
          have ze18 := zrc1 Y T_9 HA HB RU_6 RV ST NS I0 I1 I2 BO FI RG GU PU MA MN MS OT SC r0 r1 r2 r3 w10 r5 r6 r7 r8 L Lg p2 _ zh17
          suffices e : Ev (d + 7, 0, 0, 243, 42, [.val (.ref 320), .val (.ref 128), .val (.int p2), .val (.int v4)], [], (126, 120, L, [Y, T_11, HA, HB, RU_12, RV, ST, NS, I0, I1, I2, BO, FI, RG, GU, PU, MA, MN, MS, OT, SC], [r0, r1, r2, r3, w13, r5, r6, r7, r8], Lg)) o from ev_call (fun v μ => (d + 7, 0, 0, 243, 42, [.val (.ref 320), .val (.ref 128), .val (.int p2), .val (.int v4)], v.toList ++ [], μ)) 4 ze18 e (fun n => Eq.refl _)
          obtain ⟨RU_14, zh19, zh7⟩ := bnd zh7
          have zh19 : f_Rule_emit RU_12 202 = some RU_14 := zh19
          have ze20 := R_f_Rule_emit_1 (d + 6) Y T_11 HA HB RU_12 RV ST NS I0 I1 I2 BO FI RG GU PU MA MN MS OT SC r0 r1 r2 r3 w13 r5 r6 r7 r8 L Lg 202 zh19
          suffices e : Ev (d + 7, 0, 0, 243, 49, [.val (.ref 320), .val (.ref 128), .val (.int p2), .val (.int v4)], [], (126, 120, L, [Y, T_11, HA, HB, RU_14, RV, ST, NS, I0, I1, I2, BO, FI, RG, GU, PU, MA, MN, MS, OT, SC], [r0, r1, r2, r3, w13, r5, r6, r7, r8], Lg)) o from ev_call (fun v μ => (d + 7, 0, 0, 243, 49, [.val (.ref 320), .val (.ref 128), .val (.int p2), .val (.int v4)], v.toList ++ [], μ)) 3 ze20 e (fun n => Eq.refl _)
          exact ev_b 2 (zi5 _ (Option.some.inj zh7).symm ()) (fun n => Eq.refl _)
        · have zh7 := itn zh7 zc13
          suffices e : Ev (d + 7, 0, 0, 243, 55, [.val (.ref 320), .val (.ref 128), .val (.int p2), .val (.int v4)], [], (126, 120, L, [Y, T_5, HA, HB, RU_6, RV, ST, NS, I0, I1, I2, BO, FI, RG, GU, PU, MA, MN, MS, OT, SC], [r0, r1, r2, r3, w7, r5, r6, r7, r8], Lg)) o from ev_gf (c := w7 = 2570) _ _ 4 zg14 zc13 e (fun n => Eq.refl _)
          exact ev_b 0 (zx6 _ (Option.some.inj zh7).symm (.int v4)) (fun n => Eq.refl _)
  · obtain ⟨T_16, RU_17, w18⟩ := zb3
    intro s15
    have ze21 := Option.some.inj h
    subst ze21
    exact ev_rete 1 ho (fun n => Eq.refl _)
set_option maxRecDepth 1000000 in
set_option maxHeartbeats 4000000 in
theorem R_f_Rule_readAll_B_1 (d : Nat) (rc : (Nat → (Nat → Nat → Int32) → (Nat → Nat → Int32) → Nat → Int32 → Option ((Nat → Nat → Int32) × (Nat → Nat → Int32) × Nat)))
    (zrc0 : ∀ (Y T HA HB RU RV ST NS I0 I1 I2 BO FI RG GU PU MA MN MS OT SC : Nat → Nat → Int32) (r0 r1 r2 r3 w r5 r6 r7 r8 : Nat) (L : Nat) (Lg : Int64) (p2 : Int32) (r : (Nat → Nat → Int32) × (Nat → Nat → Int32) × Nat), rc 0 T RU w p2 = some r → Ev (d + 6, 0, 0, 243, 0, [.val (.ref 320), .val (.ref 128), .val (.int p2), .val a_unk], [], (126, 120, L, [Y, T, HA, HB, RU, RV, ST, NS, I0, I1, I2, BO, FI, RG, GU, PU, MA, MN, MS, OT, SC], [r0, r1, r2, r3, w, r5, r6, r7, r8], Lg)) ((0, none, (126, 120, L, [Y, r.1, HA, HB, r.2.1, RV, ST, NS, I0, I1, I2, BO, FI, RG, GU, PU, MA, MN, MS, OT, SC], [r0, r1, r2, r3, r.2.2, r5, r6, r7, r8], Lg)) : AOut))
    (zrc1 : ∀ (Y T HA HB RU RV ST NS I0 I1 I2 BO FI RG GU PU MA MN MS OT SC : Nat → Nat → Int32) (r0 r1 r2 r3 w r5 r6 r7 r8 : Nat) (L : Nat) (Lg : Int64) (p2 : Int32) (r : (Nat → Nat → Int32) × (Nat → Nat → Int32) × Nat), rc 1 T RU w p2 = some r → Ev (d + 6, 0, 0, 244, 0, [.val (.ref 320), .val (.ref 128), .val (.int p2), .val a_unk], [], (126, 120, L, [Y, T, HA, HB, RU, RV, ST, NS, I0, I1, I2, BO, FI, RG, GU, PU, MA, MN, MS, OT, SC], [r0, r1, r2, r3, w, r5, r6, r7, r8], Lg)) ((0, none, (126, 120, L, [Y, r.1, HA, HB, r.2.1, RV, ST, NS, I0, I1, I2, BO, FI, RG, GU, PU, MA, MN, MS, OT, SC], [r0, r1, r2, r3, r.2.2, r5, r6, r7, r8], Lg)) : AOut))
    (zrc2 : ∀ (Y T HA HB RU RV ST NS I0 I1 I2 BO FI RG GU PU MA MN MS OT SC : Nat → Nat → Int32) (r0 r1 r2 r3 w r5 r6 r7 r8 : Nat) (L : Nat) (Lg : Int64) (p2 : Int32) (r : (Nat → Nat → Int32) × (Nat → Nat → Int32) × Nat), rc 2 T RU w p2 = some r → Ev (d + 6, 0, 0, 245, 0, [.val (.ref 320), .val (.ref 128), .val (.int p2)], [], (126, 120, L, [Y, T, HA, HB, RU, RV, ST, NS, I0, I1, I2, BO, FI, RG, GU, PU, MA, MN, MS, OT, SC], [r0, r1, r2, r3, w, r5, r6, r7, r8], Lg)) ((0, none, (126, 120, L, [Y, r.1, HA, HB, r.2.1, RV, ST, NS, I0, I1, I2, BO, FI, RG, GU, PU, MA, MN, MS, OT, SC], [r0, r1, r2, r3, r.2.2, r5, r6, r7, r8], Lg)) : AOut))
    (zrc3 : ∀ (Y T HA HB RU RV ST NS I0 I1 I2 BO FI RG GU PU MA MN MS OT SC : Nat → Nat → Int32) (r0 r1 r2 r3 w r5 r6 r7 r8 : Nat) (L : Nat) (Lg : Int64) (p2 : Int32) (r : (Nat → Nat → Int32) × (Nat → Nat → Int32) × Nat), rc 3 T RU w p2 = some r → Ev (d + 6, 0, 0, 248, 0, [.val (.ref 320), .val (.ref 128), .val (.int p2), .val a_unk, .val a_unk], [], (126, 120, L, [Y, T, HA, HB, RU, RV, ST, NS, I0, I1, I2, BO, FI, RG, GU, PU, MA, MN, MS, OT, SC], [r0, r1, r2, r3, w, r5, r6, r7, r8], Lg)) ((0, none, (126, 120, L, [Y, r.1, HA, HB, r.2.1, RV, ST, NS, I0, I1, I2, BO, FI, RG, GU, PU, MA, MN, MS, OT, SC], [r0, r1, r2, r3, r.2.2, r5, r6, r7, r8], Lg)) : AOut))
    (zrc4 : ∀ (Y T HA HB RU RV ST NS I0 I1 I2 BO FI RG GU PU MA MN MS OT SC : Nat → Nat → Int32) (r0 r1 r2 r3 w r5 r6 r7 r8 : Nat) (L : Nat) (Lg : Int64) (p2 : Int32) (r : (Nat → Nat → Int32) × (Nat → Nat → Int32) × Nat), rc 4 T RU w p2 = some r → Ev (d + 6, 0, 0, 249, 0, [.val (.ref 320), .val (.ref 128), .val (.int p2), .val a_unk], [], (126, 120, L, [Y, T, HA, HB, RU, RV, ST, NS, I0, I1, I2, BO, FI, RG, GU, PU, MA, MN, MS, OT, SC], [r0, r1, r2, r3, w, r5, r6, r7, r8], Lg)) ((0, none, (126, 120, L, [Y, r.1, HA, HB, r.2.1, RV, ST, NS, I0, I1, I2, BO, FI, RG, GU, PU, MA, MN, MS, OT, SC], [r0, r1, r2, r3, r.2.2, r5, r6, r7, r8], Lg)) : AOut))
    (zrc5 : ∀ (Y T HA HB RU RV ST NS I0 I1 I2 BO FI RG GU PU MA MN MS OT SC : Nat → Nat → Int32) (r0 r1 r2 r3 w r5 r6 r7 r8 : Nat) (L : Nat) (Lg : Int64) (p2 : Int32) (r : (Nat → Nat → Int32) × (Nat → Nat → Int32) × Nat), rc 5 T RU w p2 = some r → Ev (d + 6, 0, 0, 250, 0, [.val (.ref 320), .val (.ref 128), .val (.int p2), .val a_unk], [], (126, 120, L, [Y, T, HA, HB, RU, RV, ST, NS, I0, I1, I2, BO, FI, RG, GU, PU, MA, MN, MS, OT, SC], [r0, r1, r2, r3, w, r5, r6, r7, r8], Lg)) ((0, none, (126, 120, L, [Y, r.1, HA, HB, r.2.1, RV, ST, NS, I0, I1, I2, BO, FI, RG, GU, PU, MA, MN, MS, OT, SC], [r0, r1, r2, r3, r.2.2, r5, r6, r7, r8], Lg)) : AOut))
    (zrc6 : ∀ (Y T HA HB RU RV ST NS I0 I1 I2 BO FI RG GU PU MA MN MS OT SC : Nat → Nat → Int32) (r0 r1 r2 r3 w r5 r6 r7 r8 : Nat) (L : Nat) (Lg : Int64) (p2 : Int32) (r : (Nat → Nat → Int32) × (Nat → Nat → Int32) × Nat), rc 6 T RU w p2 = some r → Ev (d + 6, 0, 0, 247, 0, [.val (.ref 320), .val (.ref 128), .val (.int p2), .val a_unk], [], (126, 120, L, [Y, T, HA, HB, RU, RV, ST, NS, I0, I1, I2, BO, FI, RG, GU, PU, MA, MN, MS, OT, SC], [r0, r1, r2, r3, w, r5, r6, r7, r8], Lg)) ((0, none, (126, 120, L, [Y, r.1, HA, HB, r.2.1, RV, ST, NS, I0, I1, I2, BO, FI, RG, GU, PU, MA, MN, MS, OT, SC], [r0, r1, r2, r3, r.2.2, r5, r6, r7, r8], Lg)) : AOut))
    (Y T HA HB RU RV ST NS I0 I1 I2 BO FI RG GU PU MA MN MS OT SC : Nat → Nat → Int32) (r0 r1 r2 r3 w r5 r6 r7 r8 : Nat) (L : Nat) (Lg : Int64) (p2 : Int32) {r : (Nat → Nat → Int32) × (Nat → Nat → Int32) × Nat} (h : f_Rule_readAll_B rc T RU w p2 = some r) : Ev (d + 7, 0, 0, 244, 0, [.val (.ref 320), .val (.ref 128), .val (.int p2), .val a_unk], [], (126, 120, L, [Y, T, HA, HB, RU, RV, ST, NS, I0, I1, I2, BO, FI, RG, GU, PU, MA, MN, MS, OT, SC], [r0, r1, r2, r3, w, r5, r6, r7, r8], Lg)) ((0, none, (126, 120, L, [Y, r.1, HA, HB, r.2.1, RV, ST, NS, I0, I1, I2, BO, FI, RG, GU, PU, MA, MN, MS, OT, SC], [r0, r1, r2, r3, r.2.2, r5, r6, r7, r8], Lg)) : AOut) := by
  suffices key : ∀ o : AOut, ((0, none, (126, 120, L, [Y, r.1, HA, HB, r.2.1, RV, ST, NS, I0, I1, I2, BO, FI, RG, GU, PU, MA, MN, MS, OT, SC], [r0, r1, r2, r3, r.2.2, r5, r6, r7, r8], Lg)) : AOut) = o → Ev (d + 7, 0, 0, 244, 0, [.val (.ref 320), .val (.ref 128), .val (.int p2), .val a_unk], [], (126, 120, L, [Y, T, HA, HB, RU, RV, ST, NS, I0, I1, I2, BO, FI, RG, GU, PU, MA, MN, MS, OT, SC], [r0, r1, r2, r3, w, r5, r6, r7, r8], Lg)) o from key _ rfl
  intro o ho
  obtain ⟨⟨T_1, RU_2, w3⟩, zh1, h⟩ := bnd h
  have zh1 : rc 2 T RU w p2 = some (T_1, RU_2, w3) := zh1
  have ze2 := zrc2 Y T HA HB RU RV ST NS I0 I1 I2 BO FI RG GU PU MA MN MS OT SC r0 r1 r2 r3 w r5 r6 r7 r8 L Lg p2 _ zh1
  suffices e : Ev (d + 7, 0, 0, 244, 6, [.val (.ref 320), .val (.ref 128), .val (.int p2), .val a_unk], [], (126, 120, L, [Y, T_1, HA, HB, RU_2, RV, ST, NS, I0, I1, I2, BO, FI, RG, GU, PU, MA, MN, MS, OT, SC], [r0, r1, r2, r3, w3, r5, r6, r7, r8], Lg)) o from ev_call (fun v μ => (d + 7, 0, 0, 244, 6, [.val (.ref 320), .val (.ref 128), .val (.int p2), .val a_unk], v.toList ++ [], μ)) 4 ze2 e (fun n => Eq.refl _)
  obtain ⟨zb3, zh4, h⟩ := bnd h
  suffices e : Ev (d + 7, 0, 0, 244, 8, [.val (.ref 320), .val (.ref 128), .val (.int p2), .val (.int 0)], [], (126, 120, L, [Y, T_1, HA, HB, RU_2, RV, ST, NS, I0, I1, I2, BO, FI, RG, GU, PU, MA, MN, MS, OT, SC], [r0, r1, r2, r3, w3, r5, r6, r7, r8], Lg)) o from ev_b 2 e (fun n => Eq.refl _)
  refine ev_loop (δ := Unit) (fun a j => (d + 7, 0, 0, 244, 8, [.val (.ref 320), .val (.ref 128), .val (.int p2), .val (.int a.1)], [], (126, 120, L, [Y, a.2.1, HA, HB, a.2.2.1, RV, ST, NS, I0, I1, I2, BO, FI, RG, GU, PU, MA, MN, MS, OT, SC], [r0, r1, r2, r3, a.2.2.2, r5, r6, r7, r8], Lg))) (fun b => ∀ s15 : Value, Ev (d + 7, 0, 0, 244, 55, [.val (.ref 320), .val (.ref 128), .val (.int p2), .val s15], [], (126, 120, L, [Y, b.1, HA, HB, b.2.1, RV, ST, NS, I0, I1, I2, BO, FI, RG, GU, PU, MA, MN, MS, OT, SC], [r0, r1, r2, r3, b.2.2, r5, r6, r7, r8], Lg)) o) ?_ a_F (0, T_1, RU_2, w3) zb3 zh4 ?_ ()
  · rintro ⟨v4, T_5, RU_6, w7⟩ zr8 zh7 zi5 zx6 ⟨⟩
    have zh7 : f_Rule_readAll_B_l8 rc p2 v4 T_5 RU_6 w7 = some zr8 := zh7
    by_cases zc9 : 150 ≤ v4
    · have zh7 := itp zh7 zc9
      suffices e : Ev (d + 7, 0, 0, 244, 55, [.val (.ref 320), .val (.ref 128), .val (.int p2), .val (.int v4)], [], (126, 120, L, [Y, T_5, HA, HB, RU_6, RV, ST, NS, I0, I1, I2, BO, FI, RG, GU, PU, MA, MN, MS, OT, SC], [r0, r1, r2, r3, w7, r5, r6, r7, r8], Lg)) o from ev_t (c := 150 ≤ v4) _ _ 3  zc9 e (fun n => Eq.refl _)
      exact ev_b 0 (zx6 _ (Option.some.inj zh7).symm (.int v4)) (fun n => Eq.refl _)
    · have zh7 := itn zh7 zc9
      suffices e : Ev (d + 7, 0, 0, 244, 15, [.val (.ref 320), .val (.ref 128), .val (.int p2), .val (.int v4)], [], (126, 120, L, [Y, T_5, HA, HB, RU_6, RV, ST, NS, I0, I1, I2, BO, FI, RG, GU, PU, MA, MN, MS, OT, SC], [r0, r1, r2, r3, w7, r5, r6, r7, r8], Lg)) o from ev_f (c := 150 ≤ v4) _ _ 3  zc9 e (fun n => Eq.refl _)
      obtain ⟨x8, zh10, zh7⟩ := bnd zh7
      have zh10 : f_Tape_failed T_5 = some x8 := zh10
      have ze11 := R_f_Tape_failed_0 (d + 6) Y T_5 HA HB RU_6 RV ST NS I0 I1 I2 BO FI RG GU PU MA MN MS OT SC r0 r1 r2 r3 w7 r5 r6 r7 r8 L Lg zh10
      suffices e : Ev (d + 7, 0, 0, 244, 19, [.val (.ref 320), .val (.ref 128), .val (.int p2), .val (.int v4)], [.int x8], (126, 120, L, [Y, T_5, HA, HB, RU_6, RV, ST, NS, I0, I1, I2, BO, FI, RG, GU, PU, MA, MN, MS, OT, SC], [r0, r1, r2, r3, w7, r5, r6, r7, r8], Lg)) o from ev_call (fun v μ => (d + 7, 0, 0, 244, 19, [.val (.ref 320), .val (.ref 128), .val (.int p2), .val (.int v4)], v.toList ++ [], μ)) 2 ze11 e (fun n => Eq.refl _)
      by_cases zc12 : x8 ≠ 0
      · have zh7 := itp zh7 zc12
        suffices e : Ev (d + 7, 0, 0, 244, 55, [.val (.ref 320), .val (.ref 128), .val (.int p2), .val (.int v4)], [], (126, 120, L, [Y, T_5, HA, HB, RU_6, RV, ST, NS, I0, I1, I2, BO, FI, RG, GU, PU, MA, MN, MS, OT, SC], [r0, r1, r2, r3, w7, r5, r6, r7, r8], Lg)) o from ev_t (c := x8 ≠ 0) _ _ 1  zc12 e (fun n => Eq.refl _)
        exact ev_b 0 (zx6 _ (Option.some.inj zh7).symm (.int v4)) (fun n => Eq.refl _)
      · have zh7 := itn zh7 zc12
        suffices e : Ev (d + 7, 0, 0, 244, 22, [.val (.ref 320), .val (.ref 128), .val (.int p2), .val (.int v4)], [], (126, 120, L, [Y, T_5, HA, HB, RU_6, RV, ST, NS, I0, I1, I2, BO, FI, RG, GU, PU, MA, MN, MS, OT, SC], [r0, r1, r2, r3, w7, r5, r6, r7, r8], Lg)) o from ev_f (c := x8 ≠ 0) _ _ 1  zc12 e (fun n => Eq.refl _)
        by_cases zg14 : ¬ (okW w7 ∧ okW 2571)
        · exact nos (itn zh7 zg14)
        have zg14 := Decidable.not_not.mp zg14
        have zh7 := itp zh7 zg14
        by_cases zc13 : w7 = 2571
        · have zh7 := itp zh7 zc13
          suffices e : Ev (d + 7, 0, 0, 244, 32, [.val (.ref 320), .val (.ref 128), .val (.int p2), .val (.int v4)], [], (126, 120, L, [Y, T_5, HA, HB, RU_6, RV, ST, NS, I0, I1, I2, BO, FI, RG, GU, PU, MA, MN, MS, OT, SC], [r0, r1, r2, r3, w7, r5, r6, r7, r8], Lg)) o from ev_gt (c := w7 = 2571) _ _ 4 zg14 zc13 e (fun n => Eq.refl _)
          obtain ⟨⟨T_9, w10⟩, zh15, zh7⟩ := bnd zh7
          have zh15 : f_Tape_advance T_5 = some (T_9, w10) := zh15
          have ze16 := R_f_Tape_advance_0 (d + 1) Y T_5 HA HB RU_6 RV ST NS I0 I1 I2 BO FI RG GU PU MA MN MS OT SC r0 r1 r2 r3 w7 r5 r6 r7 r8 L Lg zh15
          suffices e : Ev (d + 7, 0, 0, 244, 36, [.val (.ref 320), .val (.ref 128), .val (.int p2), .val (.int v4)], [], (126, 120, L, [Y, T_9, HA, HB, RU_6, RV, ST, NS, I0, I1, I2, BO, FI, RG, GU, PU, MA, MN, MS, OT, SC], [r0, r1, r2, r3, w10, r5, r6, r7, r8], Lg)) o from ev_call (fun v μ => (d + 7, 0, 0, 244, 36, [.val (.ref 320), .val (.ref 128), .val (.int p2), .val (.int v4)], v.toList ++ [], μ)) 2 ze16 e (fun n => Eq.refl _)
          obtain ⟨⟨T_11, RU_12, w13⟩, zh17, zh7⟩ := bnd zh7
          have zh17 : rc 2 T_9 RU_6 w10 p2 = some (T_11, RU_12, w13) := zh17
          have ze18 := zrc2 Y T_9 HA HB RU_6 RV ST NS I0 I1 I2 BO FI RG GU PU MA MN MS OT SC r0 r1 r2 r3 w10 r5 r6 r7 r8 L Lg p2 _ zh17
          suffices e : Ev (d + 7, 0, 0, 244, 42, [.val (.ref 320), .val (.ref 128), .val (.int p2), .val (.int v4)], [], (126, 120, L, [Y, T_11, HA, HB, RU_12, RV, ST, NS, I0, I1, I2, BO, FI, RG, GU, PU, MA, MN, MS, OT, SC], [r0, r1, r2, r3, w13, r5, r6, r7, r8], Lg)) o from ev_call (fun v μ => (d + 7, 0, 0, 244, 42, [.val (.ref 320), .val (.ref 128), .val (.int p2), .val (.int v4)], v.toList ++ [], μ)) 4 ze18 e (fun n => Eq.refl _)
          obtain ⟨RU_14, zh19, zh7⟩ := bnd zh7
          have zh19 : f_Rule_emit RU_12 201 = some RU_14 := zh19
          have ze20 := R_f_Rule_emit_1 (d + 6) Y T_11 HA HB RU_12 RV ST NS I0 I1 I2 BO FI RG GU PU MA MN MS OT SC r0 r1 r2 r3 w13 r5 r6 r7 r8 L Lg 201 zh19
          suffices e : Ev (d + 7, 0, 0, 244, 49, [.val (.ref 320), .val (.ref 128), .val (.int p2), .val (.int v4)], [], (126, 120, L, [Y, T_11, HA, HB, RU_14, RV, ST, NS, I0, I1, I2, BO, FI, RG, GU, PU, MA, MN, MS, OT, SC], [r0, r1, r2, r3, w13, r5, r6, r7, r8], Lg)) o from ev_call (fun v μ => (d + 7, 0, 0, 244, 49, [.val (.ref 320), .val (.ref 128), .val (.int p2), .val (.int v4)], v.toList ++ [], μ)) 3 ze20 e (fun n => Eq.refl _)
          exact ev_b 2 (zi5 _ (Option.some.inj zh7).symm ()) (fun n => Eq.refl _)
        · have zh7 := itn zh7 zc13
          suffices e : Ev (d + 7, 0, 0, 244, 55, [.val (.ref 320), .val (.ref 128), .val (.int p2), .val (.int v4)], [], (126, 120, L, [Y, T_5, HA, HB, RU_6, RV, ST, NS, I0, I1, I2, BO, FI, RG, GU, PU, MA, MN, MS, OT, SC], [r0, r1, r2, r3, w7, r5, r6, r7, r8], Lg)) o from ev_gf (c := w7 = 2571) _ _ 4 zg14 zc13 e (fun n => Eq.refl _)
          exact ev_b 0 (zx6 _ (Option.some.inj zh7).symm (.int v4)) (fun n => Eq.refl _)
  · obtain ⟨T_16, RU_17, w18⟩ := zb3
    intro s15
    have ze21 := Option.some.inj h
    subst ze21
    exact ev_rete 1 ho (fun n => Eq.refl _)
set_option maxRecDepth 1000000 in
set_option maxHeartbeats 4000000 in
theorem R_f_Rule_opens_1 (d : Nat) (Y T HA HB RU RV ST NS I0 I1 I2 BO FI RG GU PU MA MN MS OT SC : Nat → Nat → Int32) (r0 r1 r2 r3 w r5 r6 r7 r8 : Nat) (L : Nat) (Lg : Int64) (p2 : Int32) {r : Int32 × (Nat → Nat → Int32) × Nat} (h : f_Rule_opens T w p2 = some r) : Ev (d + 6, 0, 0, 246, 0, [.val (.ref 320), .val (.ref 128), .val (.int p2)], [], (126, 120, L, [Y, T, HA, HB, RU, RV, ST, NS, I0, I1, I2, BO, FI, RG, GU, PU, MA, MN, MS, OT, SC], [r0, r1, r2, r3, w, r5, r6, r7, r8], Lg)) ((0, some (.int r.1), (126, 120, L, [Y, r.2.1, HA, HB, RU, RV, ST, NS, I0, I1, I2, BO, FI, RG, GU, PU, MA, MN, MS, OT, SC], [r0, r1, r2, r3, r.2.2, r5, r6, r7, r8], Lg)) : AOut) := by
  suffices key : ∀ o : AOut, ((0, some (.int r.1), (126, 120, L, [Y, r.2.1, HA, HB, RU, RV, ST, NS, I0, I1, I2, BO, FI, RG, GU, PU, MA, MN, MS, OT, SC], [r0, r1, r2, r3, r.2.2, r5, r6, r7, r8], Lg)) : AOut) = o → Ev (d + 6, 0, 0, 246, 0, [.val (.ref 320), .val (.ref 128), .val (.int p2)], [], (126, 120, L, [Y, T, HA, HB, RU, RV, ST, NS, I0, I1, I2, BO, FI, RG, GU, PU, MA, MN, MS, OT, SC], [r0, r1, r2, r3, w, r5, r6, r7, r8], Lg)) o from key _ rfl
  intro o ho
  by_cases zc1 : p2 < 6
  · have h := itp h zc1
    suffices e : Ev (d + 6, 0, 0, 246, 13, [.val (.ref 320), .val (.ref 128), .val (.int p2)], [], (126, 120, L, [Y, T, HA, HB, RU, RV, ST, NS, I0, I1, I2, BO, FI, RG, GU, PU, MA, MN, MS, OT, SC], [r0, r1, r2, r3, w, r5, r6, r7, r8], Lg)) o from ev_t (c := p2 < 6) _ _ 3  zc1 e (fun n => Eq.refl _)
    obtain ⟨⟨T_1, w2⟩, zh2, h⟩ := bnd h
    have zh2 : f_Tape_advance T = some (T_1, w2) := zh2
    have ze3 := R_f_Tape_advance_0 (d + 0) Y T HA HB RU RV ST NS I0 I1 I2 BO FI RG GU PU MA MN MS OT SC r0 r1 r2 r3 w r5 r6 r7 r8 L Lg zh2
    suffices e : Ev (d + 6, 0, 0, 246, 17, [.val (.ref 320), .val (.ref 128), .val (.int p2)], [], (126, 120, L, [Y, T_1, HA, HB, RU, RV, ST, NS, I0, I1, I2, BO, FI, RG, GU, PU, MA, MN, MS, OT, SC], [r0, r1, r2, r3, w2, r5, r6, r7, r8], Lg)) o from ev_call (fun v μ => (d + 6, 0, 0, 246, 17, [.val (.ref 320), .val (.ref 128), .val (.int p2)], v.toList ++ [], μ)) 2 ze3 e (fun n => Eq.refl _)
    have ze4 := Option.some.inj h
    subst ze4
    exact ev_rete 2 ho (fun n => Eq.refl _)
  · have h := itn h zc1
    suffices e : Ev (d + 6, 0, 0, 246, 6, [.val (.ref 320), .val (.ref 128), .val (.int p2)], [], (126, 120, L, [Y, T, HA, HB, RU, RV, ST, NS, I0, I1, I2, BO, FI, RG, GU, PU, MA, MN, MS, OT, SC], [r0, r1, r2, r3, w, r5, r6, r7, r8], Lg)) o from ev_f (c := p2 < 6) _ _ 3  zc1 e (fun n => Eq.refl _)
    obtain ⟨T_3, zh5, h⟩ := bnd h
    have zh5 : f_Tape_fail T 3 = some T_3 := zh5
    have ze6 := R_f_Tape_fail_0 (d + 5) Y T HA HB RU RV ST NS I0 I1 I2 BO FI RG GU PU MA MN MS OT SC r0 r1 r2 r3 w r5 r6 r7 r8 L Lg 3 zh5
    suffices e : Ev (d + 6, 0, 0, 246, 11, [.val (.ref 320), .val (.ref 128), .val (.int p2)], [], (126, 120, L, [Y, T_3, HA, HB, RU, RV, ST, NS, I0, I1, I2, BO, FI, RG, GU, PU, MA, MN, MS, OT, SC], [r0, r1, r2, r3, w, r5, r6, r7, r8], Lg)) o from ev_call (fun v μ => (d + 6, 0, 0, 246, 11, [.val (.ref 320), .val (.ref 128), .val (.int p2)], v.toList ++ [], μ)) 3 ze6 e (fun n => Eq.refl _)
    have ze7 := Option.some.inj h
    subst ze7
    exact ev_rete 2 ho (fun n => Eq.refl _)
set_option maxRecDepth 1000000 in
set_option maxHeartbeats 4000000 in
theorem R_f_Rule_readOne_B_1 (d : Nat) (rc : (Nat → (Nat → Nat → Int32) → (Nat → Nat → Int32) → Nat → Int32 → Option ((Nat → Nat → Int32) × (Nat → Nat → Int32) × Nat)))
    (zrc0 : ∀ (Y T HA HB RU RV ST NS I0 I1 I2 BO FI RG GU PU MA MN MS OT SC : Nat → Nat → Int32) (r0 r1 r2 r3 w r5 r6 r7 r8 : Nat) (L : Nat) (Lg : Int64) (p2 : Int32) (r : (Nat → Nat → Int32) × (Nat → Nat → Int32) × Nat), rc 0 T RU w p2 = some r → Ev (d + 6, 0, 0, 243, 0, [.val (.ref 320), .val (.ref 128), .val (.int p2), .val a_unk], [], (126, 120, L, [Y, T, HA, HB, RU, RV, ST, NS, I0, I1, I2, BO, FI, RG, GU, PU, MA, MN, MS, OT, SC], [r0, r1, r2, r3, w, r5, r6, r7, r8], Lg)) ((0, none, (126, 120, L, [Y, r.1, HA, HB, r.2.1, RV, ST, NS, I0, I1, I2, BO, FI, RG, GU, PU, MA, MN, MS, OT, SC], [r0, r1, r2, r3, r.2.2, r5, r6, r7, r8], Lg)) : AOut))
    (zrc1 : ∀ (Y T HA HB RU RV ST NS I0 I1 I2 BO FI RG GU PU MA MN MS OT SC : Nat → Nat → Int32) (r0 r1 r2 r3 w r5 r6 r7 r8 : Nat) (L : Nat) (Lg : Int64) (p2 : Int32) (r : (Nat → Nat → Int32) × (Nat → Nat → Int32) × Nat), rc 1 T RU w p2 = some r → Ev (d + 6, 0, 0, 244, 0, [.val (.ref 320), .val (.ref 128), .val (.int p2), .val a_unk], [], (126, 120, L, [Y, T, HA, HB, RU, RV, ST, NS, I0, I1, I2, BO, FI, RG, GU, PU, MA, MN, MS, OT, SC], [r0, r1, r2, r3, w, r5, r6, r7, r8], Lg)) ((0, none, (126, 120, L, [Y, r.1, HA, HB, r.2.1, RV, ST, NS, I0, I1, I2, BO, FI, RG, GU, PU, MA, MN, MS, OT, SC], [r0, r1, r2, r3, r.2.2, r5, r6, r7, r8], Lg)) : AOut))
    (zrc2 : ∀ (Y T HA HB RU RV ST NS I0 I1 I2 BO FI RG GU PU MA MN MS OT SC : Nat → Nat → Int32) (r0 r1 r2 r3 w r5 r6 r7 r8 : Nat) (L : Nat) (Lg : Int64) (p2 : Int32) (r : (Nat → Nat → Int32) × (Nat → Nat → Int32) × Nat), rc 2 T RU w p2 = some r → Ev (d + 6, 0, 0, 245, 0, [.val (.ref 320), .val (.ref 128), .val (.int p2)], [], (126, 120, L, [Y, T, HA, HB, RU, RV, ST, NS, I0, I1, I2, BO, FI, RG, GU, PU, MA, MN, MS, OT, SC], [r0, r1, r2, r3, w, r5, r6, r7, r8], Lg)) ((0, none, (126, 120, L, [Y, r.1, HA, HB, r.2.1, RV, ST, NS, I0, I1, I2, BO, FI, RG, GU, PU, MA, MN, MS, OT, SC], [r0, r1, r2, r3, r.2.2, r5, r6, r7, r8], Lg)) : AOut))
    (zrc3 : ∀ (Y T HA HB RU RV ST NS I0 I1 I2 BO FI RG GU PU MA MN MS OT SC : Nat → Nat → Int32) (r0 r1 r2 r3 w r5 r6 r7 r8 : Nat) (L : Nat) (Lg : Int64) (p2 : Int32) (r : (Nat → Nat → Int32) × (Nat → Nat → Int32) × Nat), rc 3 T RU w p2 = some r → Ev (d + 6, 0, 0, 248, 0, [.val (.ref 320), .val (.ref 128), .val (.int p2), .val a_unk, .val a_unk], [], (126, 120, L, [Y, T, HA, HB, RU, RV, ST, NS, I0, I1, I2, BO, FI, RG, GU, PU, MA, MN, MS, OT, SC], [r0, r1, r2, r3, w, r5, r6, r7, r8], Lg)) ((0, none, (126, 120, L, [Y, r.1, HA, HB, r.2.1, RV, ST, NS, I0, I1, I2, BO, FI, RG, GU, PU, MA, MN, MS, OT, SC], [r0, r1, r2, r3, r.2.2, r5, r6, r7, r8], Lg)) : AOut))
    (zrc4 : ∀ (Y T HA HB RU RV ST NS I0 I1 I2 BO FI RG GU PU MA MN MS OT SC : Nat → Nat → Int32) (r0 r1 r2 r3 w r5 r6 r7 r8 : Nat) (L : Nat) (Lg : Int64) (p2 : Int32) (r : (Nat → Nat → Int32) × (Nat → Nat → Int32) × Nat), rc 4 T RU w p2 = some r → Ev (d + 6, 0, 0, 249, 0, [.val (.ref 320), .val (.ref 128), .val (.int p2), .val a_unk], [], (126, 120, L, [Y, T, HA, HB, RU, RV, ST, NS, I0, I1, I2, BO, FI, RG, GU, PU, MA, MN, MS, OT, SC], [r0, r1, r2, r3, w, r5, r6, r7, r8], Lg)) ((0, none, (126, 120, L, [Y, r.1, HA, HB, r.2.1, RV, ST, NS, I0, I1, I2, BO, FI, RG, GU, PU, MA, MN, MS, OT, SC], [r0, r1, r2, r3, r.2.2, r5, r6, r7, r8], Lg)) : AOut))
    (zrc5 : ∀ (Y T HA HB RU RV ST NS I0 I1 I2 BO FI RG GU PU MA MN MS OT SC : Nat → Nat → Int32) (r0 r1 r2 r3 w r5 r6 r7 r8 : Nat) (L : Nat) (Lg : Int64) (p2 : Int32) (r : (Nat → Nat → Int32) × (Nat → Nat → Int32) × Nat), rc 5 T RU w p2 = some r → Ev (d + 6, 0, 0, 250, 0, [.val (.ref 320), .val (.ref 128), .val (.int p2), .val a_unk], [], (126, 120, L, [Y, T, HA, HB, RU, RV, ST, NS, I0, I1, I2, BO, FI, RG, GU, PU, MA, MN, MS, OT, SC], [r0, r1, r2, r3, w, r5, r6, r7, r8], Lg)) ((0, none, (126, 120, L, [Y, r.1, HA, HB, r.2.1, RV, ST, NS, I0, I1, I2, BO, FI, RG, GU, PU, MA, MN, MS, OT, SC], [r0, r1, r2, r3, r.2.2, r5, r6, r7, r8], Lg)) : AOut))
    (zrc6 : ∀ (Y T HA HB RU RV ST NS I0 I1 I2 BO FI RG GU PU MA MN MS OT SC : Nat → Nat → Int32) (r0 r1 r2 r3 w r5 r6 r7 r8 : Nat) (L : Nat) (Lg : Int64) (p2 : Int32) (r : (Nat → Nat → Int32) × (Nat → Nat → Int32) × Nat), rc 6 T RU w p2 = some r → Ev (d + 6, 0, 0, 247, 0, [.val (.ref 320), .val (.ref 128), .val (.int p2), .val a_unk], [], (126, 120, L, [Y, T, HA, HB, RU, RV, ST, NS, I0, I1, I2, BO, FI, RG, GU, PU, MA, MN, MS, OT, SC], [r0, r1, r2, r3, w, r5, r6, r7, r8], Lg)) ((0, none, (126, 120, L, [Y, r.1, HA, HB, r.2.1, RV, ST, NS, I0, I1, I2, BO, FI, RG, GU, PU, MA, MN, MS, OT, SC], [r0, r1, r2, r3, r.2.2, r5, r6, r7, r8], Lg)) : AOut))
    (Y T HA HB RU RV ST NS I0 I1 I2 BO FI RG GU PU MA MN MS OT SC : Nat → Nat → Int32) (r0 r1 r2 r3 w r5 r6 r7 r8 : Nat) (L : Nat) (Lg : Int64) (p2 : Int32) {r : (Nat → Nat → Int32) × (Nat → Nat → Int32) × Nat} (h : f_Rule_readOne_B rc T RU w p2 = some r) : Ev (d + 7, 0, 0, 245, 0, [.val (.ref 320), .val (.ref 128), .val (.int p2)], [], (126, 120, L, [Y, T, HA, HB, RU, RV, ST, NS, I0, I1, I2, BO, FI, RG, GU, PU, MA, MN, MS, OT, SC], [r0, r1, r2, r3, w, r5, r6, r7, r8], Lg)) ((0, none, (126, 120, L, [Y, r.1, HA, HB, r.2.1, RV, ST, NS, I0, I1, I2, BO, FI, RG, GU, PU, MA, MN, MS, OT, SC], [r0, r1, r2, r3, r.2.2, r5, r6, r7, r8], Lg)) : AOut) := by
  suffices key : ∀ o : AOut, ((0, none, (126, 120, L, [Y, r.1, HA, HB, r.2.1, RV, ST, NS, I0, I1, I2, BO, FI, RG, GU, PU, MA, MN, MS, OT, SC], [r0, r1, r2, r3, r.2.2, r5, r6, r7, r8], Lg)) : AOut) = o → Ev (d + 7, 0, 0, 245, 0, [.val (.ref 320), .val (.ref 128), .val (.int p2)], [], (126, 120, L, [Y, T, HA, HB, RU, RV, ST, NS, I0, I1, I2, BO, FI, RG, GU, PU, MA, MN, MS, OT, SC], [r0, r1, r2, r3, w, r5, r6, r7, r8], Lg)) o from key _ rfl
  intro o ho
  obtain ⟨x1, zh1, h⟩ := bnd h
  have zh1 : f_Tape_failed T = some x1 := zh1
  have ze2 := R_f_Tape_failed_0 (d + 6) Y T HA HB RU RV ST NS I0 I1 I2 BO FI RG GU PU MA MN MS OT SC r0 r1 r2 r3 w r5 r6 r7 r8 L Lg zh1
  suffices e : Ev (d + 7, 0, 0, 245, 4, [.val (.ref 320), .val (.ref 128), .val (.int p2)], [.int x1], (126, 120, L, [Y, T, HA, HB, RU, RV, ST, NS, I0, I1, I2, BO, FI, RG, GU, PU, MA, MN, MS, OT, SC], [r0, r1, r2, r3, w, r5, r6, r7, r8], Lg)) o from ev_call (fun v μ => (d + 7, 0, 0, 245, 4, [.val (.ref 320), .val (.ref 128), .val (.int p2)], v.toList ++ [], μ)) 2 ze2 e (fun n => Eq.refl _)
  by_cases zc3 : x1 = 0
  · have h := itp h zc3
    suffices e : Ev (d + 7, 0, 0, 245, 8, [.val (.ref 320), .val (.ref 128), .val (.int p2)], [], (126, 120, L, [Y, T, HA, HB, RU, RV, ST, NS, I0, I1, I2, BO, FI, RG, GU, PU, MA, MN, MS, OT, SC], [r0, r1, r2, r3, w, r5, r6, r7, r8], Lg)) o from ev_t (c := x1 = 0) _ _ 1  zc3 e (fun n => Eq.refl _)
    by_cases zg5 : ¬ (okW w ∧ okW 2572)
    · exact nos (itn h zg5)
    have zg5 := Decidable.not_not.mp zg5
    have h := itp h zg5
    by_cases zc4 : w = 2572
    · have h := itp h zc4
      suffices e : Ev (d + 7, 0, 0, 245, 18, [.val (.ref 320), .val (.ref 128), .val (.int p2)], [], (126, 120, L, [Y, T, HA, HB, RU, RV, ST, NS, I0, I1, I2, BO, FI, RG, GU, PU, MA, MN, MS, OT, SC], [r0, r1, r2, r3, w, r5, r6, r7, r8], Lg)) o from ev_gt (c := w = 2572) _ _ 4 zg5 zc4 e (fun n => Eq.refl _)
      obtain ⟨⟨x2, T_3, w4⟩, zh6, h⟩ := bnd h
      have zh6 : f_Rule_opens T w p2 = some (x2, T_3, w4) := zh6
      have ze7 := R_f_Rule_opens_1 (d + 0) Y T HA HB RU RV ST NS I0 I1 I2 BO FI RG GU PU MA MN MS OT SC r0 r1 r2 r3 w r5 r6 r7 r8 L Lg p2 zh6
      suffices e : Ev (d + 7, 0, 0, 245, 24, [.val (.ref 320), .val (.ref 128), .val (.int p2)], [.int x2], (126, 120, L, [Y, T_3, HA, HB, RU, RV, ST, NS, I0, I1, I2, BO, FI, RG, GU, PU, MA, MN, MS, OT, SC], [r0, r1, r2, r3, w4, r5, r6, r7, r8], Lg)) o from ev_call (fun v μ => (d + 7, 0, 0, 245, 24, [.val (.ref 320), .val (.ref 128), .val (.int p2)], v.toList ++ [], μ)) 4 ze7 e (fun n => Eq.refl _)
      by_cases zc8 : x2 = 0
      · have h := itp h zc8
        suffices e : Ev (d + 7, 0, 0, 245, 87, [.val (.ref 320), .val (.ref 128), .val (.int p2)], [], (126, 120, L, [Y, T_3, HA, HB, RU, RV, ST, NS, I0, I1, I2, BO, FI, RG, GU, PU, MA, MN, MS, OT, SC], [r0, r1, r2, r3, w4, r5, r6, r7, r8], Lg)) o from ev_t (c := x2 = 0) _ _ 1  zc8 e (fun n => Eq.refl _)
        have ze9 := Option.some.inj h
        subst ze9
        exact ev_rete 1 ho (fun n => Eq.refl _)
      · have h := itn h zc8
        suffices e : Ev (d + 7, 0, 0, 245, 27, [.val (.ref 320), .val (.ref 128), .val (.int p2)], [], (126, 120, L, [Y, T_3, HA, HB, RU, RV, ST, NS, I0, I1, I2, BO, FI, RG, GU, PU, MA, MN, MS, OT, SC], [r0, r1, r2, r3, w4, r5, r6, r7, r8], Lg)) o from ev_f (c := x2 = 0) _ _ 1  zc8 e (fun n => Eq.refl _)
        obtain ⟨⟨T_5, RU_6, w7⟩, zh10, h⟩ := bnd h
        have zh10 : rc 2 T_3 RU w4 (p2 + 1) = some (T_5, RU_6, w7) := zh10
        have ze11 := zrc2 Y T_3 HA HB RU RV ST NS I0 I1 I2 BO FI RG GU PU MA MN MS OT SC r0 r1 r2 r3 w4 r5 r6 r7 r8 L Lg (p2 + 1) _ zh10
        suffices e : Ev (d + 7, 0, 0, 245, 35, [.val (.ref 320), .val (.ref 128), .val (.int p2)], [], (126, 120, L, [Y, T_5, HA, HB, RU_6, RV, ST, NS, I0, I1, I2, BO, FI, RG, GU, PU, MA, MN, MS, OT, SC], [r0, r1, r2, r3, w7, r5, r6, r7, r8], Lg)) o from ev_call (fun v μ => (d + 7, 0, 0, 245, 35, [.val (.ref 320), .val (.ref 128), .val (.int p2)], v.toList ++ [], μ)) 6 ze11 e (fun n => Eq.refl _)
        obtain ⟨RU_8, zh12, h⟩ := bnd h
        have zh12 : f_Rule_emit RU_6 200 = some RU_8 := zh12
        have ze13 := R_f_Rule_emit_1 (d + 6) Y T_5 HA HB RU_6 RV ST NS I0 I1 I2 BO FI RG GU PU MA MN MS OT SC r0 r1 r2 r3 w7 r5 r6 r7 r8 L Lg 200 zh12
        suffices e : Ev (d + 7, 0, 0, 245, 42, [.val (.ref 320), .val (.ref 128), .val (.int p2)], [], (126, 120, L, [Y, T_5, HA, HB, RU_8, RV, ST, NS, I0, I1, I2, BO, FI, RG, GU, PU, MA, MN, MS, OT, SC], [r0, r1, r2, r3, w7, r5, r6, r7, r8], Lg)) o from ev_call (fun v μ => (d + 7, 0, 0, 245, 42, [.val (.ref 320), .val (.ref 128), .val (.int p2)], v.toList ++ [], μ)) 3 ze13 e (fun n => Eq.refl _)
        have ze14 := Option.some.inj h
        subst ze14
        exact ev_rete 2 ho (fun n => Eq.refl _)
    · have h := itn h zc4
      suffices e : Ev (d + 7, 0, 0, 245, 45, [.val (.ref 320), .val (.ref 128), .val (.int p2)], [], (126, 120, L, [Y, T, HA, HB, RU, RV, ST, NS, I0, I1, I2, BO, FI, RG, GU, PU, MA, MN, MS, OT, SC], [r0, r1, r2, r3, w, r5, r6, r7, r8], Lg)) o from ev_gf (c := w = 2572) _ _ 4 zg5 zc4 e (fun n => Eq.refl _)
      obtain ⟨x9, zh15, h⟩ := bnd h
      have zh15 : f_Tape_atSign T 91 = some x9 := zh15
      have ze16 := R_f_Tape_atSign_0 (d + 6) Y T HA HB RU RV ST NS I0 I1 I2 BO FI RG GU PU MA MN MS OT SC r0 r1 r2 r3 w r5 r6 r7 r8 L Lg 91 zh15
      suffices e : Ev (d + 7, 0, 0, 245, 51, [.val (.ref 320), .val (.ref 128), .val (.int p2)], [.int x9], (126, 120, L, [Y, T, HA, HB, RU, RV, ST, NS, I0, I1, I2, BO, FI, RG, GU, PU, MA, MN, MS, OT, SC], [r0, r1, r2, r3, w, r5, r6, r7, r8], Lg)) o from ev_call (fun v μ => (d + 7, 0, 0, 245, 51, [.val (.ref 320), .val (.ref 128), .val (.int p2)], v.toList ++ [], μ)) 3 ze16 e (fun n => Eq.refl _)
      by_cases zc17 : x9 = 0
      · have h := itp h zc17
        suffices e : Ev (d + 7, 0, 0, 245, 81, [.val (.ref 320), .val (.ref 128), .val (.int p2)], [], (126, 120, L, [Y, T, HA, HB, RU, RV, ST, NS, I0, I1, I2, BO, FI, RG, GU, PU, MA, MN, MS, OT, SC], [r0, r1, r2, r3, w, r5, r6, r7, r8], Lg)) o from ev_t (c := x9 = 0) _ _ 1  zc17 e (fun n => Eq.refl _)
        obtain ⟨⟨T_10, RU_11, w12⟩, zh18, h⟩ := bnd h
        have zh18 : rc 6 T RU w p2 = some (T_10, RU_11, w12) := zh18
        have ze19 := zrc6 Y T HA HB RU RV ST NS I0 I1 I2 BO FI RG GU PU MA MN MS OT SC r0 r1 r2 r3 w r5 r6 r7 r8 L Lg p2 _ zh18
        suffices e : Ev (d + 7, 0, 0, 245, 87, [.val (.ref 320), .val (.ref 128), .val (.int p2)], [], (126, 120, L, [Y, T_10, HA, HB, RU_11, RV, ST, NS, I0, I1, I2, BO, FI, RG, GU, PU, MA, MN, MS, OT, SC], [r0, r1, r2, r3, w12, r5, r6, r7, r8], Lg)) o from ev_call (fun v μ => (d + 7, 0, 0, 245, 87, [.val (.ref 320), .val (.ref 128), .val (.int p2)], v.toList ++ [], μ)) 4 ze19 e (fun n => Eq.refl _)
        have ze20 := Option.some.inj h
        subst ze20
        exact ev_rete 1 ho (fun n => Eq.refl _)
      · have h := itn h zc17
        suffices e : Ev (d + 7, 0, 0, 245, 54, [.val (.ref 320), .val (.ref 128), .val (.int p2)], [], (126, 120, L, [Y, T, HA, HB, RU, RV, ST, NS, I0, I1, I2, BO, FI, RG, GU, PU, MA, MN, MS, OT, SC], [r0, r1, r2, r3, w, r5, r6, r7, r8], Lg)) o from ev_f (c := x9 = 0) _ _ 1  zc17 e (fun n => Eq.refl _)
        obtain ⟨⟨x13, T_14, w15⟩, zh21, h⟩ := bnd h
        have zh21 : f_Rule_opens T w p2 = some (x13, T_14, w15) := zh21
        have ze22 := R_f_Rule_opens_1 (d + 0) Y T HA HB RU RV ST NS I0 I1 I2 BO FI RG GU PU MA MN MS OT SC r0 r1 r2 r3 w r5 r6 r7 r8 L Lg p2 zh21
        suffices e : Ev (d + 7, 0, 0, 245, 60, [.val (.ref 320), .val (.ref 128), .val (.int p2)], [.int x13], (126, 120, L, [Y, T_14, HA, HB, RU, RV, ST, NS, I0, I1, I2, BO, FI, RG, GU, PU, MA, MN, MS, OT, SC], [r0, r1, r2, r3, w15, r5, r6, r7, r8], Lg)) o from ev_call (fun v μ => (d + 7, 0, 0, 245, 60, [.val (.ref 320), .val (.ref 128), .val (.int p2)], v.toList ++ [], μ)) 4 ze22 e (fun n => Eq.refl _)
        by_cases zc23 : x13 = 0
        · have h := itp h zc23
          suffices e : Ev (d + 7, 0, 0, 245, 87, [.val (.ref 320), .val (.ref 128), .val (.int p2)], [], (126, 120, L, [Y, T_14, HA, HB, RU, RV, ST, NS, I0, I1, I2, BO, FI, RG, GU, PU, MA, MN, MS, OT, SC], [r0, r1, r2, r3, w15, r5, r6, r7, r8], Lg)) o from ev_t (c := x13 = 0) _ _ 1  zc23 e (fun n => Eq.refl _)
          have ze24 := Option.some.inj h
          subst ze24
          exact ev_rete 1 ho (fun n => Eq.refl _)
        · have h := itn h zc23
          suffices e : Ev (d + 7, 0, 0, 245, 63, [.val (.ref 320), .val (.ref 128), .val (.int p2)], [], (126, 120, L, [Y, T_14, HA, HB, RU, RV, ST, NS, I0, I1, I2, BO, FI, RG, GU, PU, MA, MN, MS, OT, SC], [r0, r1, r2, r3, w15, r5, r6, r7, r8], Lg)) o from ev_f (c := x13 = 0) _ _ 1  zc23 e (fun n => Eq.refl _)
          obtain ⟨⟨T_16, RU_17, w18⟩, zh25, h⟩ := bnd h
          have zh25 : rc 0 T_14 RU w15 (p2 + 1) = some (T_16, RU_17, w18) := zh25
          have ze26 := zrc0 Y T_14 HA HB RU RV ST NS I0 I1 I2 BO FI RG GU PU MA MN MS OT SC r0 r1 r2 r3 w15 r5 r6 r7 r8 L Lg (p2 + 1) _ zh25
          suffices e : Ev (d + 7, 0, 0, 245, 71, [.val (.ref 320), .val (.ref 128), .val (.int p2)], [], (126, 120, L, [Y, T_16, HA, HB, RU_17, RV, ST, NS, I0, I1, I2, BO, FI, RG, GU, PU, MA, MN, MS, OT, SC], [r0, r1, r2, r3, w18, r5, r6, r7, r8], Lg)) o from ev_call (fun v μ => (d + 7, 0, 0, 245, 71, [.val (.ref 320), .val (.ref 128), .val (.int p2)], v.toList ++ [], μ)) 6 ze26 e (fun n => Eq.refl _)
          obtain ⟨⟨x19, T_20, w21⟩, zh27, h⟩ := bnd h
          have zh27 : f_Tape_pass T_16 w18 93 = some (x19, T_20, w21) := zh27
          have ze28 := R_f_Tape_pass_0 (d + 0) Y T_16 HA HB RU_17 RV ST NS I0 I1 I2 BO FI RG GU PU MA MN MS OT SC r0 r1 r2 r3 w18 r5 r6 r7 r8 L Lg 93 zh27
          suffices e : Ev (d + 7, 0, 0, 245, 77, [.val (.ref 320), .val (.ref 128), .val (.int p2)], [.int x19], (126, 120, L, [Y, T_20, HA, HB, RU_17, RV, ST, NS, I0, I1, I2, BO, FI, RG, GU, PU, MA, MN, MS, OT, SC], [r0, r1, r2, r3, w21, r5, r6, r7, r8], Lg)) o from ev_call (fun v μ => (d + 7, 0, 0, 245, 77, [.val (.ref 320), .val (.ref 128), .val (.int p2)], v.toList ++ [], μ)) 3 ze28 e (fun n => Eq.refl _)
          have ze29 := Option.some.inj h
          subst ze29
          exact ev_rete 3 ho (fun n => Eq.refl _)
  · have h := itn h zc3
    suffices e : Ev (d + 7, 0, 0, 245, 7, [.val (.ref 320), .val (.ref 128), .val (.int p2)], [], (126, 120, L, [Y, T, HA, HB, RU, RV, ST, NS, I0, I1, I2, BO, FI, RG, GU, PU, MA, MN, MS, OT, SC], [r0, r1, r2, r3, w, r5, r6, r7, r8], Lg)) o from ev_f (c := x1 = 0) _ _ 1  zc3 e (fun n => Eq.refl _)
    have ze30 := Option.some.inj h
    subst ze30
    exact ev_rete 1 ho (fun n => Eq.refl _)
set_option maxRecDepth 1000000 in
set_option maxHeartbeats 4000000 in
theorem R_f_Rule_readSum_B_1 (d : Nat) (rc : (Nat → (Nat → Nat → Int32) → (Nat → Nat → Int32) → Nat → Int32 → Option ((Nat → Nat → Int32) × (Nat → Nat → Int32) × Nat)))
    (zrc0 : ∀ (Y T HA HB RU RV ST NS I0 I1 I2 BO FI RG GU PU MA MN MS OT SC : Nat → Nat → Int32) (r0 r1 r2 r3 w r5 r6 r7 r8 : Nat) (L : Nat) (Lg : Int64) (p2 : Int32) (r : (Nat → Nat → Int32) × (Nat → Nat → Int32) × Nat), rc 0 T RU w p2 = some r → Ev (d + 6, 0, 0, 243, 0, [.val (.ref 320), .val (.ref 128), .val (.int p2), .val a_unk], [], (126, 120, L, [Y, T, HA, HB, RU, RV, ST, NS, I0, I1, I2, BO, FI, RG, GU, PU, MA, MN, MS, OT, SC], [r0, r1, r2, r3, w, r5, r6, r7, r8], Lg)) ((0, none, (126, 120, L, [Y, r.1, HA, HB, r.2.1, RV, ST, NS, I0, I1, I2, BO, FI, RG, GU, PU, MA, MN, MS, OT, SC], [r0, r1, r2, r3, r.2.2, r5, r6, r7, r8], Lg)) : AOut))
    (zrc1 : ∀ (Y T HA HB RU RV ST NS I0 I1 I2 BO FI RG GU PU MA MN MS OT SC : Nat → Nat → Int32) (r0 r1 r2 r3 w r5 r6 r7 r8 : Nat) (L : Nat) (Lg : Int64) (p2 : Int32) (r : (Nat → Nat → Int32) × (Nat → Nat → Int32) × Nat), rc 1 T RU w p2 = some r → Ev (d + 6, 0, 0, 244, 0, [.val (.ref 320), .val (.ref 128), .val (.int p2), .val a_unk], [], (126, 120, L, [Y, T, HA, HB, RU, RV, ST, NS, I0, I1, I2, BO, FI, RG, GU, PU, MA, MN, MS, OT, SC], [r0, r1, r2, r3, w, r5, r6, r7, r8], Lg)) ((0, none, (126, 120, L, [Y, r.1, HA, HB, r.2.1, RV, ST, NS, I0, I1, I2, BO, FI, RG, GU, PU, MA, MN, MS, OT, SC], [r0, r1, r2, r3, r.2.2, r5, r6, r7, r8], Lg)) : AOut))
    (zrc2 : ∀ (Y T HA HB RU RV ST NS I0 I1 I2 BO FI RG GU PU MA MN MS OT SC : Nat → Nat → Int32) (r0 r1 r2 r3 w r5 r6 r7 r8 : Nat) (L : Nat) (Lg : Int64) (p2 : Int32) (r : (Nat → Nat → Int32) × (Nat → Nat → Int32) × Nat), rc 2 T RU w p2 = some r → Ev (d + 6, 0, 0, 245, 0, [.val (.ref 320), .val (.ref 128), .val (.int p2)], [], (126, 120, L, [Y, T, HA, HB, RU, RV, ST, NS, I0, I1, I2, BO, FI, RG, GU, PU, MA, MN, MS, OT, SC], [r0, r1, r2, r3, w, r5, r6, r7, r8], Lg)) ((0, none, (126, 120, L, [Y, r.1, HA, HB, r.2.1, RV, ST, NS, I0, I1, I2, BO, FI, RG, GU, PU, MA, MN, MS, OT, SC], [r0, r1, r2, r3, r.2.2, r5, r6, r7, r8], Lg)) : AOut))
    (zrc3 : ∀ (Y T HA HB RU RV ST NS I0 I1 I2 BO FI RG GU PU MA MN MS OT SC : Nat → Nat → Int32) (r0 r1 r2 r3 w r5 r6 r7 r8 : Nat) (L : Nat) (Lg : Int64) (p2 : Int32) (r : (Nat → Nat → Int32) × (Nat → Nat → Int32) × Nat), rc 3 T RU w p2 = some r → Ev (d + 6, 0, 0, 248, 0, [.val (.ref 320), .val (.ref 128), .val (.int p2), .val a_unk, .val a_unk], [], (126, 120, L, [Y, T, HA, HB, RU, RV, ST, NS, I0, I1, I2, BO, FI, RG, GU, PU, MA, MN, MS, OT, SC], [r0, r1, r2, r3, w, r5, r6, r7, r8], Lg)) ((0, none, (126, 120, L, [Y, r.1, HA, HB, r.2.1, RV, ST, NS, I0, I1, I2, BO, FI, RG, GU, PU, MA, MN, MS, OT, SC], [r0, r1, r2, r3, r.2.2, r5, r6, r7, r8], Lg)) : AOut))
    (zrc4 : ∀ (Y T HA HB RU RV ST NS I0 I1 I2 BO FI RG GU PU MA MN MS OT SC : Nat → Nat → Int32) (r0 r1 r2 r3 w r5 r6 r7 r8 : Nat) (L : Nat) (Lg : Int64) (p2 : Int32) (r : (Nat → Nat → Int32) × (Nat → Nat → Int32) × Nat), rc 4 T RU w p2 = some r → Ev (d + 6, 0, 0, 249, 0, [.val (.ref 320), .val (.ref 128), .val (.int p2), .val a_unk], [], (126, 120, L, [Y, T, HA, HB, RU, RV, ST, NS, I0, I1, I2, BO, FI, RG, GU, PU, MA, MN, MS, OT, SC], [r0, r1, r2, r3, w, r5, r6, r7, r8], Lg)) ((0, none, (126, 120, L, [Y, r.1, HA, HB, r.2.1, RV, ST, NS, I0, I1, I2, BO, FI, RG, GU, PU, MA, MN, MS, OT, SC], [r0, r1, r2, r3, r.2.2, r5, r6, r7, r8], Lg)) : AOut))
    (zrc5 : ∀ (Y T HA HB RU RV ST NS I0 I1 I2 BO FI RG GU PU MA MN MS OT SC : Nat → Nat → Int32) (r0 r1 r2 r3 w r5 r6 r7 r8 : Nat) (L : Nat) (Lg : Int64) (p2 : Int32) (r : (Nat → Nat → Int32) × (Nat → Nat → Int32) × Nat), rc 5 T RU w p2 = some r → Ev (d + 6, 0, 0, 250, 0, [.val (.ref 320), .val (.ref 128), .val (.int p2), .val a_unk], [], (126, 120, L, [Y, T, HA, HB, RU, RV, ST, NS, I0, I1, I2, BO, FI, RG, GU, PU, MA, MN, MS, OT, SC], [r0, r1, r2, r3, w, r5, r6, r7, r8], Lg)) ((0, none, (126, 120, L, [Y, r.1, HA, HB, r.2.1, RV, ST, NS, I0, I1, I2, BO, FI, RG, GU, PU, MA, MN, MS, OT, SC], [r0, r1, r2, r3, r.2.2, r5, r6, r7, r8], Lg)) : AOut))
    (zrc6 : ∀ (Y T HA HB RU RV ST NS I0 I1 I2 BO FI RG GU PU MA MN MS OT SC : Nat → Nat → Int32) (r0 r1 r2 r3 w r5 r6 r7 r8 : Nat) (L : Nat) (Lg : Int64) (p2 : Int32) (r : (Nat → Nat → Int32) × (Nat → Nat → Int32) × Nat), rc 6 T RU w p2 = some r → Ev (d + 6, 0, 0, 247, 0, [.val (.ref 320), .val (.ref 128), .val (.int p2), .val a_unk], [], (126, 120, L, [Y, T, HA, HB, RU, RV, ST, NS, I0, I1, I2, BO, FI, RG, GU, PU, MA, MN, MS, OT, SC], [r0, r1, r2, r3, w, r5, r6, r7, r8], Lg)) ((0, none, (126, 120, L, [Y, r.1, HA, HB, r.2.1, RV, ST, NS, I0, I1, I2, BO, FI, RG, GU, PU, MA, MN, MS, OT, SC], [r0, r1, r2, r3, r.2.2, r5, r6, r7, r8], Lg)) : AOut))
    (Y T HA HB RU RV ST NS I0 I1 I2 BO FI RG GU PU MA MN MS OT SC : Nat → Nat → Int32) (r0 r1 r2 r3 w r5 r6 r7 r8 : Nat) (L : Nat) (Lg : Int64) (p2 : Int32) {r : (Nat → Nat → Int32) × (Nat → Nat → Int32) × Nat} (h : f_Rule_readSum_B rc T RU w p2 = some r) : Ev (d + 7, 0, 0, 248, 0, [.val (.ref 320), .val (.ref 128), .val (.int p2), .val a_unk, .val a_unk], [], (126, 120, L, [Y, T, HA, HB, RU, RV, ST, NS, I0, I1, I2, BO, FI, RG, GU, PU, MA, MN, MS, OT, SC], [r0, r1, r2, r3, w, r5, r6, r7, r8], Lg)) ((0, none, (126, 120, L, [Y, r.1, HA, HB, r.2.1, RV, ST, NS, I0, I1, I2, BO, FI, RG, GU, PU, MA, MN, MS, OT, SC], [r0, r1, r2, r3, r.2.2, r5, r6, r7, r8], Lg)) : AOut) := by
  suffices key : ∀ o : AOut, ((0, none, (126, 120, L, [Y, r.1, HA, HB, r.2.1, RV, ST, NS, I0, I1, I2, BO, FI, RG, GU, PU, MA, MN, MS, OT, SC], [r0, r1, r2, r3, r.2.2, r5, r6, r7, r8], Lg)) : AOut) = o → Ev (d + 7, 0, 0, 248, 0, [.val (.ref 320), .val (.ref 128), .val (.int p2), .val a_unk, .val a_unk], [], (126, 120, L, [Y, T, HA, HB, RU, RV, ST, NS, I0, I1, I2, BO, FI, RG, GU, PU, MA, MN, MS, OT, SC], [r0, r1, r2, r3, w, r5, r6, r7, r8], Lg)) o from key _ rfl
  intro o ho
  obtain ⟨⟨T_1, RU_2, w3⟩, zh1, h⟩ := bnd h
  have zh1 : rc 4 T RU w p2 = some (T_1, RU_2, w3) := zh1
  have ze2 := zrc4 Y T HA HB RU RV ST NS I0 I1 I2 BO FI RG GU PU MA MN MS OT SC r0 r1 r2 r3 w r5 r6 r7 r8 L Lg p2 _ zh1
  suffices e : Ev (d + 7, 0, 0, 248, 6, [.val (.ref 320), .val (.ref 128), .val (.int p2), .val a_unk, .val a_unk], [], (126, 120, L, [Y, T_1, HA, HB, RU_2, RV, ST, NS, I0, I1, I2, BO, FI, RG, GU, PU, MA, MN, MS, OT, SC], [r0, r1, r2, r3, w3, r5, r6, r7, r8], Lg)) o from ev_call (fun v μ => (d + 7, 0, 0, 248, 6, [.val (.ref 320), .val (.ref 128), .val (.int p2), .val a_unk, .val a_unk], v.toList ++ [], μ)) 4 ze2 e (fun n => Eq.refl _)
  obtain ⟨zb3, zh4, h⟩ := bnd h
  suffices e : Ev (d + 7, 0, 0, 248, 8, [.val (.ref 320), .val (.ref 128), .val (.int p2), .val (.int 0), .val a_unk], [], (126, 120, L, [Y, T_1, HA, HB, RU_2, RV, ST, NS, I0, I1, I2, BO, FI, RG, GU, PU, MA, MN, MS, OT, SC], [r0, r1, r2, r3, w3, r5, r6, r7, r8], Lg)) o from ev_b 2 e (fun n => Eq.refl _)
  refine ev_loop (δ := Value) (fun a j => (d + 7, 0, 0, 248, 8, [.val (.ref 320), .val (.ref 128), .val (.int p2), .val (.int a.1), .val j], [], (126, 120, L, [Y, a.2.1, HA, HB, a.2.2.1, RV, ST, NS, I0, I1, I2, BO, FI, RG, GU, PU, MA, MN, MS, OT, SC], [r0, r1, r2, r3, a.2.2.2, r5, r6, r7, r8], Lg))) (fun b => ∀ s20 : Value, ∀ s21 : Value, Ev (d + 7, 0, 0, 248, 82, [.val (.ref 320), .val (.ref 128), .val (.int p2), .val s20, .val s21], [], (126, 120, L, [Y, b.1, HA, HB, b.2.1, RV, ST, NS, I0, I1, I2, BO, FI, RG, GU, PU, MA, MN, MS, OT, SC], [r0, r1, r2, r3, b.2.2, r5, r6, r7, r8], Lg)) o) ?_ a_F (0, T_1, RU_2, w3) zb3 zh4 ?_ a_unk
  · rintro ⟨v4, T_6, RU_7, w8⟩ zr8 zh7 zi5 zx6 s5
    have zh7 : f_Rule_readSum_B_l8 rc p2 v4 T_6 RU_7 w8 = some zr8 := zh7
    by_cases zc9 : 150 ≤ v4
    · have zh7 := itp zh7 zc9
      suffices e : Ev (d + 7, 0, 0, 248, 82, [.val (.ref 320), .val (.ref 128), .val (.int p2), .val (.int v4), .val s5], [], (126, 120, L, [Y, T_6, HA, HB, RU_7, RV, ST, NS, I0, I1, I2, BO, FI, RG, GU, PU, MA, MN, MS, OT, SC], [r0, r1, r2, r3, w8, r5, r6, r7, r8], Lg)) o from ev_t (c := 150 ≤ v4) _ _ 3  zc9 e (fun n => Eq.refl _)
      exact ev_b 0 (zx6 _ (Option.some.inj zh7).symm (.int v4) s5) (fun n => Eq.refl _)
    · have zh7 := itn zh7 zc9
      suffices e : Ev (d + 7, 0, 0, 248, 15, [.val (.ref 320), .val (.ref 128), .val (.int p2), .val (.int v4), .val s5], [], (126, 120, L, [Y, T_6, HA, HB, RU_7, RV, ST, NS, I0, I1, I2, BO, FI, RG, GU, PU, MA, MN, MS, OT, SC], [r0, r1, r2, r3, w8, r5, r6, r7, r8], Lg)) o from ev_f (c := 150 ≤ v4) _ _ 3  zc9 e (fun n => Eq.refl _)
      obtain ⟨x9, zh10, zh7⟩ := bnd zh7
      have zh10 : f_Tape_failed T_6 = some x9 := zh10
      have ze11 := R_f_Tape_failed_0 (d + 6) Y T_6 HA HB RU_7 RV ST NS I0 I1 I2 BO FI RG GU PU MA MN MS OT SC r0 r1 r2 r3 w8 r5 r6 r7 r8 L Lg zh10
      suffices e : Ev (d + 7, 0, 0, 248, 19, [.val (.ref 320), .val (.ref 128), .val (.int p2), .val (.int v4), .val s5], [.int x9], (126, 120, L, [Y, T_6, HA, HB, RU_7, RV, ST, NS, I0, I1, I2, BO, FI, RG, GU, PU, MA, MN, MS, OT, SC], [r0, r1, r2, r3, w8, r5, r6, r7, r8], Lg)) o from ev_call (fun v μ => (d + 7, 0, 0, 248, 19, [.val (.ref 320), .val (.ref 128), .val (.int p2), .val (.int v4), .val s5], v.toList ++ [], μ)) 2 ze11 e (fun n => Eq.refl _)
      by_cases zc12 : x9 ≠ 0
      · have zh7 := itp zh7 zc12
        suffices e : Ev (d + 7, 0, 0, 248, 82, [.val (.ref 320), .val (.ref 128), .val (.int p2), .val (.int v4), .val s5], [], (126, 120, L, [Y, T_6, HA, HB, RU_7, RV, ST, NS, I0, I1, I2, BO, FI, RG, GU, PU, MA, MN, MS, OT, SC], [r0, r1, r2, r3, w8, r5, r6, r7, r8], Lg)) o from ev_t (c := x9 ≠ 0) _ _ 1  zc12 e (fun n => Eq.refl _)
        exact ev_b 0 (zx6 _ (Option.some.inj zh7).symm (.int v4) s5) (fun n => Eq.refl _)
      · have zh7 := itn zh7 zc12
        suffices e : Ev (d + 7, 0, 0, 248, 22, [.val (.ref 320), .val (.ref 128), .val (.int p2), .val (.int v4), .val s5], [], (126, 120, L, [Y, T_6, HA, HB, RU_7, RV, ST, NS, I0, I1, I2, BO, FI, RG, GU, PU, MA, MN, MS, OT, SC], [r0, r1, r2, r3, w8, r5, r6, r7, r8], Lg)) o from ev_f (c := x9 ≠ 0) _ _ 1  zc12 e (fun n => Eq.refl _)
        obtain ⟨x10, zh13, zh7⟩ := bnd zh7
        have zh13 : f_Tape_atSign T_6 43 = some x10 := zh13
        have ze14 := R_f_Tape_atSign_0 (d + 6) Y T_6 HA HB RU_7 RV ST NS I0 I1 I2 BO FI RG GU PU MA MN MS OT SC r0 r1 r2 r3 w8 r5 r6 r7 r8 L Lg 43 zh13
        suffices e : Ev (d + 7, 0, 0, 248, 28, [.val (.ref 320), .val (.ref 128), .val (.int p2), .val (.int v4), .val s5], [.int x10], (126, 120, L, [Y, T_6, HA, HB, RU_7, RV, ST, NS, I0, I1, I2, BO, FI, RG, GU, PU, MA, MN, MS, OT, SC], [r0, r1, r2, r3, w8, r5, r6, r7, r8], Lg)) o from ev_call (fun v μ => (d + 7, 0, 0, 248, 28, [.val (.ref 320), .val (.ref 128), .val (.int p2), .val (.int v4), .val s5], v.toList ++ [], μ)) 3 ze14 e (fun n => Eq.refl _)
        obtain ⟨zt15, zh16, zh7⟩ := bnd zh7
        have zj17 : zt15 = .inl () → Ev (d + 7, 0, 0, 248, 40, [.val (.ref 320), .val (.ref 128), .val (.int p2), .val (.int v4), .val s5], [], (126, 120, L, [Y, T_6, HA, HB, RU_7, RV, ST, NS, I0, I1, I2, BO, FI, RG, GU, PU, MA, MN, MS, OT, SC], [r0, r1, r2, r3, w8, r5, r6, r7, r8], Lg)) o := by
          intro ze18
          have zh7 := sum_l zh7 ze18
          obtain ⟨x12, zh19, zh7⟩ := bnd zh7
          have zh19 : f_Tape_atSign T_6 43 = some x12 := zh19
          have ze20 := R_f_Tape_atSign_0 (d + 6) Y T_6 HA HB RU_7 RV ST NS I0 I1 I2 BO FI RG GU PU MA MN MS OT SC r0 r1 r2 r3 w8 r5 r6 r7 r8 L Lg 43 zh19
          suffices e : Ev (d + 7, 0, 0, 248, 46, [.val (.ref 320), .val (.ref 128), .val (.int p2), .val (.int v4), .val s5], [.int x12], (126, 120, L, [Y, T_6, HA, HB, RU_7, RV, ST, NS, I0, I1, I2, BO, FI, RG, GU, PU, MA, MN, MS, OT, SC], [r0, r1, r2, r3, w8, r5, r6, r7, r8], Lg)) o from ev_call (fun v μ => (d + 7, 0, 0, 248, 46, [.val (.ref 320), .val (.ref 128), .val (.int p2), .val (.int v4), .val s5], v.toList ++ [], μ)) 3 ze20 e (fun n => Eq.refl _)
          obtain ⟨zt21, zh22, zh7⟩ := bnd zh7
          have zj23 : ∀ (v13 : Int32), v13 = zt21 → Ev (d + 7, 0, 0, 248, 58, [.val (.ref 320), .val (.ref 128), .val (.int p2), .val (.int v4), .val s5], [.int v13], (126, 120, L, [Y, T_6, HA, HB, RU_7, RV, ST, NS, I0, I1, I2, BO, FI, RG, GU, PU, MA, MN, MS, OT, SC], [r0, r1, r2, r3, w8, r5, r6, r7, r8], Lg)) o := by
            intro v13 ze24
            subst ze24
            obtain ⟨⟨T_14, w15⟩, zh25, zh7⟩ := bnd zh7
            have zh25 : f_Tape_advance T_6 = some (T_14, w15) := zh25
            have ze26 := R_f_Tape_advance_0 (d + 1) Y T_6 HA HB RU_7 RV ST NS I0 I1 I2 BO FI RG GU PU MA MN MS OT SC r0 r1 r2 r3 w8 r5 r6 r7 r8 L Lg zh25
            suffices e : Ev (d + 7, 0, 0, 248, 64, [.val (.ref 320), .val (.ref 128), .val (.int p2), .val (.int v4), .val (.int v13)], [], (126, 120, L, [Y, T_14, HA, HB, RU_7, RV, ST, NS, I0, I1, I2, BO, FI, RG, GU, PU, MA, MN, MS, OT, SC], [r0, r1, r2, r3, w15, r5, r6, r7, r8], Lg)) o from ev_call (fun v μ => (d + 7, 0, 0, 248, 64, [.val (.ref 320), .val (.ref 128), .val (.int p2), .val (.int v4), .val (.int v13)], v.toList ++ [], μ)) 3 ze26 e (fun n => Eq.refl _)
            obtain ⟨⟨T_16, RU_17, w18⟩, zh27, zh7⟩ := bnd zh7
            have zh27 : rc 4 T_14 RU_7 w15 p2 = some (T_16, RU_17, w18) := zh27
            have ze28 := zrc4 Y T_14 HA HB RU_7 RV ST NS I0 I1 I2 BO FI RG GU PU MA MN MS OT SC r0 r1 r2 r3 w15 r5 r6 r7 r8 L Lg p2 _ zh27
            suffices e : Ev (d + 7, 0, 0, 248, 70, [.val (.ref 320), .val (.ref 128), .val (.int p2), .val (.int v4), .val (.int v13)], [], (126, 120, L, [Y, T_16, HA, HB, RU_17, RV, ST, NS, I0, I1, I2, BO, FI, RG, GU, PU, MA, MN, MS, OT, SC], [r0, r1, r2, r3, w18, r5, r6, r7, r8], Lg)) o from ev_call (fun v μ => (d + 7, 0, 0, 248, 70, [.val (.ref 320), .val (.ref 128), .val (.int p2), .val (.int v4), .val (.int v13)], v.toList ++ [], μ)) 4 ze28 e (fun n => Eq.refl _)
            obtain ⟨RU_19, zh29, zh7⟩ := bnd zh7
            have zh29 : f_Rule_emit RU_17 v13 = some RU_19 := zh29
            have ze30 := R_f_Rule_emit_1 (d + 6) Y T_16 HA HB RU_17 RV ST NS I0 I1 I2 BO FI RG GU PU MA MN MS OT SC r0 r1 r2 r3 w18 r5 r6 r7 r8 L Lg v13 zh29
            suffices e : Ev (d + 7, 0, 0, 248, 76, [.val (.ref 320), .val (.ref 128), .val (.int p2), .val (.int v4), .val (.int v13)], [], (126, 120, L, [Y, T_16, HA, HB, RU_19, RV, ST, NS, I0, I1, I2, BO, FI, RG, GU, PU, MA, MN, MS, OT, SC], [r0, r1, r2, r3, w18, r5, r6, r7, r8], Lg)) o from ev_call (fun v μ => (d + 7, 0, 0, 248, 76, [.val (.ref 320), .val (.ref 128), .val (.int p2), .val (.int v4), .val (.int v13)], v.toList ++ [], μ)) 3 ze30 e (fun n => Eq.refl _)
            exact ev_b 2 (zi5 _ (Option.some.inj zh7).symm (.int v13)) (fun n => Eq.refl _)
          by_cases zc31 : x12 = 0
          · have zh22 := itp zh22 zc31
            suffices e : Ev (d + 7, 0, 0, 248, 55, [.val (.ref 320), .val (.ref 128), .val (.int p2), .val (.int v4), .val s5], [], (126, 120, L, [Y, T_6, HA, HB, RU_7, RV, ST, NS, I0, I1, I2, BO, FI, RG, GU, PU, MA, MN, MS, OT, SC], [r0, r1, r2, r3, w8, r5, r6, r7, r8], Lg)) o from ev_t (c := x12 = 0) _ _ 1  zc31 e (fun n => Eq.refl _)
            exact ev_b 1 (zj23 207 (Option.some.inj zh22) ) (fun n => Eq.refl _)
          · have zh22 := itn zh22 zc31
            suffices e : Ev (d + 7, 0, 0, 248, 49, [.val (.ref 320), .val (.ref 128), .val (.int p2), .val (.int v4), .val s5], [], (126, 120, L, [Y, T_6, HA, HB, RU_7, RV, ST, NS, I0, I1, I2, BO, FI, RG, GU, PU, MA, MN, MS, OT, SC], [r0, r1, r2, r3, w8, r5, r6, r7, r8], Lg)) o from ev_f (c := x12 = 0) _ _ 1  zc31 e (fun n => Eq.refl _)
            exact ev_b 2 (zj23 206 (Option.some.inj zh22) ) (fun n => Eq.refl _)
        by_cases zc32 : x10 ≠ 0
        · have zh16 := itp zh16 zc32
          suffices e : Ev (d + 7, 0, 0, 248, 40, [.val (.ref 320), .val (.ref 128), .val (.int p2), .val (.int v4), .val s5], [], (126, 120, L, [Y, T_6, HA, HB, RU_7, RV, ST, NS, I0, I1, I2, BO, FI, RG, GU, PU, MA, MN, MS, OT, SC], [r0, r1, r2, r3, w8, r5, r6, r7, r8], Lg)) o from ev_t (c := x10 ≠ 0) _ _ 1  zc32 e (fun n => Eq.refl _)
          exact ev_b 0 (zj17  (Option.some.inj zh16).symm ) (fun n => Eq.refl _)
        · have zh16 := itn zh16 zc32
          suffices e : Ev (d + 7, 0, 0, 248, 31, [.val (.ref 320), .val (.ref 128), .val (.int p2), .val (.int v4), .val s5], [], (126, 120, L, [Y, T_6, HA, HB, RU_7, RV, ST, NS, I0, I1, I2, BO, FI, RG, GU, PU, MA, MN, MS, OT, SC], [r0, r1, r2, r3, w8, r5, r6, r7, r8], Lg)) o from ev_f (c := x10 ≠ 0) _ _ 1  zc32 e (fun n => Eq.refl _)
          obtain ⟨x11, zh33, zh16⟩ := bnd zh16
          have zh33 : f_Tape_atSign T_6 45 = some x11 := zh33
          have ze34 := R_f_Tape_atSign_0 (d + 6) Y T_6 HA HB RU_7 RV ST NS I0 I1 I2 BO FI RG GU PU MA MN MS OT SC r0 r1 r2 r3 w8 r5 r6 r7 r8 L Lg 45 zh33
          suffices e : Ev (d + 7, 0, 0, 248, 37, [.val (.ref 320), .val (.ref 128), .val (.int p2), .val (.int v4), .val s5], [.int x11], (126, 120, L, [Y, T_6, HA, HB, RU_7, RV, ST, NS, I0, I1, I2, BO, FI, RG, GU, PU, MA, MN, MS, OT, SC], [r0, r1, r2, r3, w8, r5, r6, r7, r8], Lg)) o from ev_call (fun v μ => (d + 7, 0, 0, 248, 37, [.val (.ref 320), .val (.ref 128), .val (.int p2), .val (.int v4), .val s5], v.toList ++ [], μ)) 3 ze34 e (fun n => Eq.refl _)
          by_cases zc35 : x11 = 0
          · have zh16 := itp zh16 zc35
            suffices e : Ev (d + 7, 0, 0, 248, 82, [.val (.ref 320), .val (.ref 128), .val (.int p2), .val (.int v4), .val s5], [], (126, 120, L, [Y, T_6, HA, HB, RU_7, RV, ST, NS, I0, I1, I2, BO, FI, RG, GU, PU, MA, MN, MS, OT, SC], [r0, r1, r2, r3, w8, r5, r6, r7, r8], Lg)) o from ev_t (c := x11 = 0) _ _ 1  zc35 e (fun n => Eq.refl _)
            have zh36 := sum_r zh7 (Option.some.inj zh16).symm
            exact ev_b 0 (zx6 _ (Option.some.inj zh36).symm (.int v4) s5) (fun n => Eq.refl _)
          · have zh16 := itn zh16 zc35
            suffices e : Ev (d + 7, 0, 0, 248, 40, [.val (.ref 320), .val (.ref 128), .val (.int p2), .val (.int v4), .val s5], [], (126, 120, L, [Y, T_6, HA, HB, RU_7, RV, ST, NS, I0, I1, I2, BO, FI, RG, GU, PU, MA, MN, MS, OT, SC], [r0, r1, r2, r3, w8, r5, r6, r7, r8], Lg)) o from ev_f (c := x11 = 0) _ _ 1  zc35 e (fun n => Eq.refl _)
            exact ev_b 0 (zj17  (Option.some.inj zh16).symm ) (fun n => Eq.refl _)
  · obtain ⟨T_22, RU_23, w24⟩ := zb3
    intro s20 s21
    have ze37 := Option.some.inj h
    subst ze37
    exact ev_rete 1 ho (fun n => Eq.refl _)
set_option maxRecDepth 1000000 in
set_option maxHeartbeats 4000000 in
theorem R_f_Rule_readProduct_B_1 (d : Nat) (rc : (Nat → (Nat → Nat → Int32) → (Nat → Nat → Int32) → Nat → Int32 → Option ((Nat → Nat → Int32) × (Nat → Nat → Int32) × Nat)))
    (zrc0 : ∀ (Y T HA HB RU RV ST NS I0 I1 I2 BO FI RG GU PU MA MN MS OT SC : Nat → Nat → Int32) (r0 r1 r2 r3 w r5 r6 r7 r8 : Nat) (L : Nat) (Lg : Int64) (p2 : Int32) (r : (Nat → Nat → Int32) × (Nat → Nat → Int32) × Nat), rc 0 T RU w p2 = some r → Ev (d + 6, 0, 0, 243, 0, [.val (.ref 320), .val (.ref 128), .val (.int p2), .val a_unk], [], (126, 120, L, [Y, T, HA, HB, RU, RV, ST, NS, I0, I1, I2, BO, FI, RG, GU, PU, MA, MN, MS, OT, SC], [r0, r1, r2, r3, w, r5, r6, r7, r8], Lg)) ((0, none, (126, 120, L, [Y, r.1, HA, HB, r.2.1, RV, ST, NS, I0, I1, I2, BO, FI, RG, GU, PU, MA, MN, MS, OT, SC], [r0, r1, r2, r3, r.2.2, r5, r6, r7, r8], Lg)) : AOut))
    (zrc1 : ∀ (Y T HA HB RU RV ST NS I0 I1 I2 BO FI RG GU PU MA MN MS OT SC : Nat → Nat → Int32) (r0 r1 r2 r3 w r5 r6 r7 r8 : Nat) (L : Nat) (Lg : Int64) (p2 : Int32) (r : (Nat → Nat → Int32) × (Nat → Nat → Int32) × Nat), rc 1 T RU w p2 = some r → Ev (d + 6, 0, 0, 244, 0, [.val (.ref 320), .val (.ref 128), .val (.int p2), .val a_unk], [], (126, 120, L, [Y, T, HA, HB, RU, RV, ST, NS, I0, I1, I2, BO, FI, RG, GU, PU, MA, MN, MS, OT, SC], [r0, r1, r2, r3, w, r5, r6, r7, r8], Lg)) ((0, none, (126, 120, L, [Y, r.1, HA, HB, r.2.1, RV, ST, NS, I0, I1, I2, BO, FI, RG, GU, PU, MA, MN, MS, OT, SC], [r0, r1, r2, r3, r.2.2, r5, r6, r7, r8], Lg)) : AOut))
    (zrc2 : ∀ (Y T HA HB RU RV ST NS I0 I1 I2 BO FI RG GU PU MA MN MS OT SC : Nat → Nat → Int32) (r0 r1 r2 r3 w r5 r6 r7 r8 : Nat) (L : Nat) (Lg : Int64) (p2 : Int32) (r : (Nat → Nat → Int32) × (Nat → Nat → Int32) × Nat), rc 2 T RU w p2 = some r → Ev (d + 6, 0, 0, 245, 0, [.val (.ref 320), .val (.ref 128), .val (.int p2)], [], (126, 120, L, [Y, T, HA, HB, RU, RV, ST, NS, I0, I1, I2, BO, FI, RG, GU, PU, MA, MN, MS, OT, SC], [r0, r1, r2, r3, w, r5, r6, r7, r8], Lg)) ((0, none, (126, 120, L, [Y, r.1, HA, HB, r.2.1, RV, ST, NS, I0, I1, I2, BO, FI, RG, GU, PU, MA, MN, MS, OT, SC], [r0, r1, r2, r3, r.2.2, r5, r6, r7, r8], Lg)) : AOut))
    (zrc3 : ∀ (Y T HA HB RU RV ST NS I0 I1 I2 BO FI RG GU PU MA MN MS OT SC : Nat → Nat → Int32) (r0 r1 r2 r3 w r5 r6 r7 r8 : Nat) (L : Nat) (Lg : Int64) (p2 : Int32) (r : (Nat → Nat → Int32) × (Nat → Nat → Int32) × Nat), rc 3 T RU w p2 = some r → Ev (d + 6, 0, 0, 248, 0, [.val (.ref 320), .val (.ref 128), .val (.int p2), .val a_unk, .val a_unk], [], (126, 120, L, [Y, T, HA, HB, RU, RV, ST, NS, I0, I1, I2, BO, FI, RG, GU, PU, MA, MN, MS, OT, SC], [r0, r1, r2, r3, w, r5, r6, r7, r8], Lg)) ((0, none, (126, 120, L, [Y, r.1, HA, HB, r.2.1, RV, ST, NS, I0, I1, I2, BO, FI, RG, GU, PU, MA, MN, MS, OT, SC], [r0, r1, r2, r3, r.2.2, r5, r6, r7, r8], Lg)) : AOut))
    (zrc4 : ∀ (Y T HA HB RU RV ST NS I0 I1 I2 BO FI RG GU PU MA MN MS OT SC : Nat → Nat → Int32) (r0 r1 r2 r3 w r5 r6 r7 r8 : Nat) (L : Nat) (Lg : Int64) (p2 : Int32) (r : (Nat → Nat → Int32) × (Nat → Nat → Int32) × Nat), rc 4 T RU w p2 = some r → Ev (d + 6, 0, 0, 249, 0, [.val (.ref 320), .val (.ref 128), .val (.int p2), .val a_unk], [], (126, 120, L, [Y, T, HA, HB, RU, RV, ST, NS, I0, I1, I2, BO, FI, RG, GU, PU, MA, MN, MS, OT, SC], [r0, r1, r2, r3, w, r5, r6, r7, r8], Lg)) ((0, none, (126, 120, L, [Y, r.1, HA, HB, r.2.1, RV, ST, NS, I0, I1, I2, BO, FI, RG, GU, PU, MA, MN, MS, OT, SC], [r0, r1, r2, r3, r.2.2, r5, r6, r7, r8], Lg)) : AOut))
    (zrc5 : ∀ (Y T HA HB RU RV ST NS I0 I1 I2 BO FI RG GU PU MA MN MS OT SC : Nat → Nat → Int32) (r0 r1 r2 r3 w r5 r6 r7 r8 : Nat) (L : Nat) (Lg : Int64) (p2 : Int32) (r : (Nat → Nat → Int32) × (Nat → Nat → Int32) × Nat), rc 5 T RU w p2 = some r → Ev (d + 6, 0, 0, 250, 0, [.val (.ref 320), .val (.ref 128), .val (.int p2), .val a_unk], [], (126, 120, L, [Y, T, HA, HB, RU, RV, ST, NS, I0, I1, I2, BO, FI, RG, GU, PU, MA, MN, MS, OT, SC], [r0, r1, r2, r3, w, r5, r6, r7, r8], Lg)) ((0, none, (126, 120, L, [Y, r.1, HA, HB, r.2.1, RV, ST, NS, I0, I1, I2, BO, FI, RG, GU, PU, MA, MN, MS, OT, SC], [r0, r1, r2, r3, r.2.2, r5, r6, r7, r8], Lg)) : AOut))
    (zrc6 : ∀ (Y T HA HB RU RV ST NS I0 I1 I2 BO FI RG GU PU MA MN MS OT SC : Nat → Nat → Int32) (r0 r1 r2 r3 w r5 r6 r7 r8 : Nat) (L : Nat) (Lg : Int64) (p2 : Int32) (r : (Nat → Nat → Int32) × (Nat → Nat → Int32) × Nat), rc 6 T RU w p2 = some r → Ev (d + 6, 0, 0, 247, 0, [.val (.ref 320), .val (.ref 128), .val (.int p2), .val a_unk], [], (126, 120, L, [Y, T, HA, HB, RU, RV, ST, NS, I0, I1, I2, BO, FI, RG, GU, PU, MA, MN, MS, OT, SC], [r0, r1, r2, r3, w, r5, r6, r7, r8], Lg)) ((0, none, (126, 120, L, [Y, r.1, HA, HB, r.2.1, RV, ST, NS, I0, I1, I2, BO, FI, RG, GU, PU, MA, MN, MS, OT, SC], [r0, r1, r2, r3, r.2.2, r5, r6, r7, r8], Lg)) : AOut))
    (Y T HA HB RU RV ST NS I0 I1 I2 BO FI RG GU PU MA MN MS OT SC : Nat → Nat → Int32) (r0 r1 r2 r3 w r5 r6 r7 r8 : Nat) (L : Nat) (Lg : Int64) (p2 : Int32) {r : (Nat → Nat → Int32) × (Nat → Nat → Int32) × Nat} (h : f_Rule_readProduct_B rc T RU w p2 = some r) : Ev (d + 7, 0, 0, 249, 0, [.val (.ref 320), .val (.ref 128), .val (.int p2), .val a_unk], [], (126, 120, L, [Y, T, HA, HB, RU, RV, ST, NS, I0, I1, I2, BO, FI, RG, GU, PU, MA, MN, MS, OT, SC], [r0, r1, r2, r3, w, r5, r6, r7, r8], Lg)) ((0, none, (126, 120, L, [Y, r.1, HA, HB, r.2.1, RV, ST, NS, I0, I1, I2, BO, FI, RG, GU, PU, MA, MN, MS, OT, SC], [r0, r1, r2, r3, r.2.2, r5, r6, r7, r8], Lg)) : AOut) := by
  suffices key : ∀ o : AOut, ((0, none, (126, 120, L, [Y, r.1, HA, HB, r.2.1, RV, ST, NS, I0, I1, I2, BO, FI, RG, GU, PU, MA, MN, MS, OT, SC], [r0, r1, r2, r3, r.2.2, r5, r6, r7, r8], Lg)) : AOut) = o → Ev (d + 7, 0, 0, 249, 0, [.val (.ref 320), .val (.ref 128), .val (.int p2), .val a_unk], [], (126, 120, L, [Y, T, HA, HB, RU, RV, ST, NS, I0, I1, I2, BO, FI, RG, GU, PU, MA, MN, MS, OT, SC], [r0, r1, r2, r3, w, r5, r6, r7, r8], Lg)) o from key _ rfl
  intro o ho
  obtain ⟨⟨T_1, RU_2, w3⟩, zh1, h⟩ := bnd h
  have zh1 : rc 5 T RU w p2 = some (T_1, RU_2, w3) := zh1
  have ze2 := zrc5 Y T HA HB RU RV ST NS I0 I1 I2 BO FI RG GU PU MA MN MS OT SC r0 r1 r2 r3 w r5 r6 r7 r8 L Lg p2 _ zh1
  suffices e : Ev (d + 7, 0, 0, 249, 6, [.val (.ref 320), .val (.ref 128), .val (.int p2), .val a_unk], [], (126, 120, L, [Y, T_1, HA, HB, RU_2, RV, ST, NS, I0, I1, I2, BO, FI, RG, GU, PU, MA, MN, MS, OT, SC], [r0, r1, r2, r3, w3, r5, r6, r7, r8], Lg)) o from ev_call (fun v μ => (d + 7, 0, 0, 249, 6, [.val (.ref 320), .val (.ref 128), .val (.int p2), .val a_unk], v.toList ++ [], μ)) 4 ze2 e (fun n => Eq.refl _)
  obtain ⟨zb3, zh4, h⟩ := bnd h
  suffices e : Ev (d + 7, 0, 0, 249, 8, [.val (.ref 320), .val (.ref 128), .val (.int p2), .val (.int 0)], [], (126, 120, L, [Y, T_1, HA, HB, RU_2, RV, ST, NS, I0, I1, I2, BO, FI, RG, GU, PU, MA, MN, MS, OT, SC], [r0, r1, r2, r3, w3, r5, r6, r7, r8], Lg)) o from ev_b 2 e (fun n => Eq.refl _)
  refine ev_loop (δ := Unit) (fun a j => (d + 7, 0, 0, 249, 8, [.val (.ref 320), .val (.ref 128), .val (.int p2), .val (.int a.1)], [], (126, 120, L, [Y, a.2.1, HA, HB, a.2.2.1, RV, ST, NS, I0, I1, I2, BO, FI, RG, GU, PU, MA, MN, MS, OT, SC], [r0, r1, r2, r3, a.2.2.2, r5, r6, r7, r8], Lg))) (fun b => ∀ s16 : Value, Ev (d + 7, 0, 0, 249, 54, [.val (.ref 320), .val (.ref 128), .val (.int p2), .val s16], [], (126, 120, L, [Y, b.1, HA, HB, b.2.1, RV, ST, NS, I0, I1, I2, BO, FI, RG, GU, PU, MA, MN, MS, OT, SC], [r0, r1, r2, r3, b.2.2, r5, r6, r7, r8], Lg)) o) ?_ a_F (0, T_1, RU_2, w3) zb3 zh4 ?_ ()
  · rintro ⟨v4, T_5, RU_6, w7⟩ zr8 zh7 zi5 zx6 ⟨⟩
    have zh7 : f_Rule_readProduct_B_l8 rc p2 v4 T_5 RU_6 w7 = some zr8 := zh7
    by_cases zc9 : 150 ≤ v4
    · have zh7 := itp zh7 zc9
      suffices e : Ev (d + 7, 0, 0, 249, 54, [.val (.ref 320), .val (.ref 128), .val (.int p2), .val (.int v4)], [], (126, 120, L, [Y, T_5, HA, HB, RU_6, RV, ST, NS, I0, I1, I2, BO, FI, RG, GU, PU, MA, MN, MS, OT, SC], [r0, r1, r2, r3, w7, r5, r6, r7, r8], Lg)) o from ev_t (c := 150 ≤ v4) _ _ 3  zc9 e (fun n => Eq.refl _)
      exact ev_b 0 (zx6 _ (Option.some.inj zh7).symm (.int v4)) (fun n => Eq.refl _)
    · have zh7 := itn zh7 zc9
      suffices e : Ev (d + 7, 0, 0, 249, 15, [.val (.ref 320), .val (.ref 128), .val (.int p2), .val (.int v4)], [], (126, 120, L, [Y, T_5, HA, HB, RU_6, RV, ST, NS, I0, I1, I2, BO, FI, RG, GU, PU, MA, MN, MS, OT, SC], [r0, r1, r2, r3, w7, r5, r6, r7, r8], Lg)) o from ev_f (c := 150 ≤ v4) _ _ 3  zc9 e (fun n => Eq.refl _)
      obtain ⟨x8, zh10, zh7⟩ := bnd zh7
      have zh10 : f_Tape_failed T_5 = some x8 := zh10
      have ze11 := R_f_Tape_failed_0 (d + 6) Y T_5 HA HB RU_6 RV ST NS I0 I1 I2 BO FI RG GU PU MA MN MS OT SC r0 r1 r2 r3 w7 r5 r6 r7 r8 L Lg zh10
      suffices e : Ev (d + 7, 0, 0, 249, 19, [.val (.ref 320), .val (.ref 128), .val (.int p2), .val (.int v4)], [.int x8], (126, 120, L, [Y, T_5, HA, HB, RU_6, RV, ST, NS, I0, I1, I2, BO, FI, RG, GU, PU, MA, MN, MS, OT, SC], [r0, r1, r2, r3, w7, r5, r6, r7, r8], Lg)) o from ev_call (fun v μ => (d + 7, 0, 0, 249, 19, [.val (.ref 320), .val (.ref 128), .val (.int p2), .val (.int v4)], v.toList ++ [], μ)) 2 ze11 e (fun n => Eq.refl _)
      by_cases zc12 : x8 ≠ 0
      · have zh7 := itp zh7 zc12
        suffices e : Ev (d + 7, 0, 0, 249, 54, [.val (.ref 320), .val (.ref 128), .val (.int p2), .val (.int v4)], [], (126, 120, L, [Y, T_5, HA, HB, RU_6, RV, ST, NS, I0, I1, I2, BO, FI, RG, GU, PU, MA, MN, MS, OT, SC], [r0, r1, r2, r3, w7, r5, r6, r7, r8], Lg)) o from ev_t (c := x8 ≠ 0) _ _ 1  zc12 e (fun n => Eq.refl _)
        exact ev_b 0 (zx6 _ (Option.some.inj zh7).symm (.int v4)) (fun n => Eq.refl _)
      · have zh7 := itn zh7 zc12
        suffices e : Ev (d + 7, 0, 0, 249, 22, [.val (.ref 320), .val (.ref 128), .val (.int p2), .val (.int v4)], [], (126, 120, L, [Y, T_5, HA, HB, RU_6, RV, ST, NS, I0, I1, I2, BO, FI, RG, GU, PU, MA, MN, MS, OT, SC], [r0, r1, r2, r3, w7, r5, r6, r7, r8], Lg)) o from ev_f (c := x8 ≠ 0) _ _ 1  zc12 e (fun n => Eq.refl _)
        obtain ⟨x9, zh13, zh7⟩ := bnd zh7
        have zh13 : f_Tape_atSign T_5 42 = some x9 := zh13
        have ze14 := R_f_Tape_atSign_0 (d + 6) Y T_5 HA HB RU_6 RV ST NS I0 I1 I2 BO FI RG GU PU MA MN MS OT SC r0 r1 r2 r3 w7 r5 r6 r7 r8 L Lg 42 zh13
        suffices e : Ev (d + 7, 0, 0, 249, 28, [.val (.ref 320), .val (.ref 128), .val (.int p2), .val (.int v4)], [.int x9], (126, 120, L, [Y, T_5, HA, HB, RU_6, RV, ST, NS, I0, I1, I2, BO, FI, RG, GU, PU, MA, MN, MS, OT, SC], [r0, r1, r2, r3, w7, r5, r6, r7, r8], Lg)) o from ev_call (fun v μ => (d + 7, 0, 0, 249, 28, [.val (.ref 320), .val (.ref 128), .val (.int p2), .val (.int v4)], v.toList ++ [], μ)) 3 ze14 e (fun n => Eq.refl _)
        by_cases zc15 : x9 = 0
        · have zh7 := itp zh7 zc15
          suffices e : Ev (d + 7, 0, 0, 249, 54, [.val (.ref 320), .val (.ref 128), .val (.int p2), .val (.int v4)], [], (126, 120, L, [Y, T_5, HA, HB, RU_6, RV, ST, NS, I0, I1, I2, BO, FI, RG, GU, PU, MA, MN, MS, OT, SC], [r0, r1, r2, r3, w7, r5, r6, r7, r8], Lg)) o from ev_t (c := x9 = 0) _ _ 1  zc15 e (fun n => Eq.refl _)
          exact ev_b 0 (zx6 _ (Option.some.inj zh7).symm (.int v4)) (fun n => Eq.refl _)
        · have zh7 := itn zh7 zc15
          suffices e : Ev (d + 7, 0, 0, 249, 31, [.val (.ref 320), .val (.ref 128), .val (.int p2), .val (.int v4)], [], (126, 120, L, [Y, T_5, HA, HB, RU_6, RV, ST, NS, I0, I1, I2, BO, FI, RG, GU, PU, MA, MN, MS, OT, SC], [r0, r1, r2, r3, w7, r5, r6, r7, r8], Lg)) o from ev_f (c := x9 = 0) _ _ 1  zc15 e (fun n => Eq.refl _)
          obtain ⟨⟨T_10, w11⟩, zh16, zh7⟩ := bnd zh7
          have zh16 : f_Tape_advance T_5 = some (T_10, w11) := zh16
          have ze17 := R_f_Tape_advance_0 (d + 1) Y T_5 HA HB RU_6 RV ST NS I0 I1 I2 BO FI RG GU PU MA MN MS OT SC r0 r1 r2 r3 w7 r5 r6 r7 r8 L Lg zh16
          suffices e : Ev (d + 7, 0, 0, 249, 35, [.val (.ref 320), .val (.ref 128), .val (.int p2), .val (.int v4)], [], (126, 120, L, [Y, T_10, HA, HB, RU_6, RV, ST, NS, I0, I1, I2, BO, FI, RG, GU, PU, MA, MN, MS, OT, SC], [r0, r1, r2, r3, w11, r5, r6, r7, r8], Lg)) o from ev_call (fun v μ => (d + 7, 0, 0, 249, 35, [.val (.ref 320), .val (.ref 128), .val (.int p2), .val (.int v4)], v.toList ++ [], μ)) 2 ze17 e (fun n => Eq.refl _)
          obtain ⟨⟨T_12, RU_13, w14⟩, zh18, zh7⟩ := bnd zh7
          have zh18 : rc 5 T_10 RU_6 w11 p2 = some (T_12, RU_13, w14) := zh18
          have ze19 := zrc5 Y T_10 HA HB RU_6 RV ST NS I0 I1 I2 BO FI RG GU PU MA MN MS OT SC r0 r1 r2 r3 w11 r5 r6 r7 r8 L Lg p2 _ zh18
          suffices e : Ev (d + 7, 0, 0, 249, 41, [.val (.ref 320), .val (.ref 128), .val (.int p2), .val (.int v4)], [], (126, 120, L, [Y, T_12, HA, HB, RU_13, RV, ST, NS, I0, I1, I2, BO, FI, RG, GU, PU, MA, MN, MS, OT, SC], [r0, r1, r2, r3, w14, r5, r6, r7, r8], Lg)) o from ev_call (fun v μ => (d + 7, 0, 0, 249, 41, [.val (.ref 320), .val (.ref 128), .val (.int p2), .val (.int v4)], v.toList ++ [], μ)) 4 ze19 e (fun n => Eq.refl _)
          obtain ⟨RU_15, zh20, zh7⟩ := bnd zh7
          have zh20 : f_Rule_emit RU_13 208 = some RU_15 := zh20
          have ze21 := R_f_Rule_emit_1 (d + 6) Y T_12 HA HB RU_13 RV ST NS I0 I1 I2 BO FI RG GU PU MA MN MS OT SC r0 r1 r2 r3 w14 r5 r6 r7 r8 L Lg 208 zh20
          suffices e : Ev (d + 7, 0, 0, 249, 48, [.val (.ref 320), .val (.ref 128), .val (.int p2), .val (.int v4)], [], (126, 120, L, [Y, T_12, HA, HB, RU_15, RV, ST, NS, I0, I1, I2, BO, FI, RG, GU, PU, MA, MN, MS, OT, SC], [r0, r1, r2, r3, w14, r5, r6, r7, r8], Lg)) o from ev_call (fun v μ => (d + 7, 0, 0, 249, 48, [.val (.ref 320), .val (.ref 128), .val (.int p2), .val (.int v4)], v.toList ++ [], μ)) 3 ze21 e (fun n => Eq.refl _)
          exact ev_b 2 (zi5 _ (Option.some.inj zh7).symm ()) (fun n => Eq.refl _)
  · obtain ⟨T_17, RU_18, w19⟩ := zb3
    intro s16
    have ze22 := Option.some.inj h
    subst ze22
    exact ev_rete 1 ho (fun n => Eq.refl _)
set_option maxRecDepth 1000000 in
set_option maxHeartbeats 4000000 in
theorem R_f_Rule_readUnit_B_1 (d : Nat) (rc : (Nat → (Nat → Nat → Int32) → (Nat → Nat → Int32) → Nat → Int32 → Option ((Nat → Nat → Int32) × (Nat → Nat → Int32) × Nat)))
    (zrc0 : ∀ (Y T HA HB RU RV ST NS I0 I1 I2 BO FI RG GU PU MA MN MS OT SC : Nat → Nat → Int32) (r0 r1 r2 r3 w r5 r6 r7 r8 : Nat) (L : Nat) (Lg : Int64) (p2 : Int32) (r : (Nat → Nat → Int32) × (Nat → Nat → Int32) × Nat), rc 0 T RU w p2 = some r → Ev (d + 6, 0, 0, 243, 0, [.val (.ref 320), .val (.ref 128), .val (.int p2), .val a_unk], [], (126, 120, L, [Y, T, HA, HB, RU, RV, ST, NS, I0, I1, I2, BO, FI, RG, GU, PU, MA, MN, MS, OT, SC], [r0, r1, r2, r3, w, r5, r6, r7, r8], Lg)) ((0, none, (126, 120, L, [Y, r.1, HA, HB, r.2.1, RV, ST, NS, I0, I1, I2, BO, FI, RG, GU, PU, MA, MN, MS, OT, SC], [r0, r1, r2, r3, r.2.2, r5, r6, r7, r8], Lg)) : AOut))
    (zrc1 : ∀ (Y T HA HB RU RV ST NS I0 I1 I2 BO FI RG GU PU MA MN MS OT SC : Nat → Nat → Int32) (r0 r1 r2 r3 w r5 r6 r7 r8 : Nat) (L : Nat) (Lg : Int64) (p2 : Int32) (r : (Nat → Nat → Int32) × (Nat → Nat → Int32) × Nat), rc 1 T RU w p2 = some r → Ev (d + 6, 0, 0, 244, 0, [.val (.ref 320), .val (.ref 128), .val (.int p2), .val a_unk], [], (126, 120, L, [Y, T, HA, HB, RU, RV, ST, NS, I0, I1, I2, BO, FI, RG, GU, PU, MA, MN, MS, OT, SC], [r0, r1, r2, r3, w, r5, r6, r7, r8], Lg)) ((0, none, (126, 120, L, [Y, r.1, HA, HB, r.2.1, RV, ST, NS, I0, I1, I2, BO, FI, RG, GU, PU, MA, MN, MS, OT, SC], [r0, r1, r2, r3, r.2.2, r5, r6, r7, r8], Lg)) : AOut))
    (zrc2 : ∀ (Y T HA HB RU RV ST NS I0 I1 I2 BO FI RG GU PU MA MN MS OT SC : Nat → Nat → Int32) (r0 r1 r2 r3 w r5 r6 r7 r8 : Nat) (L : Nat) (Lg : Int64) (p2 : Int32) (r : (Nat → Nat → Int32) × (Nat → Nat → Int32) × Nat), rc 2 T RU w p2 = some r → Ev (d + 6, 0, 0, 245, 0, [.val (.ref 320), .val (.ref 128), .val (.int p2)], [], (126, 120, L, [Y, T, HA, HB, RU, RV, ST, NS, I0, I1, I2, BO, FI, RG, GU, PU, MA, MN, MS, OT, SC], [r0, r1, r2, r3, w, r5, r6, r7, r8], Lg)) ((0, none, (126, 120, L, [Y, r.1, HA, HB, r.2.1, RV, ST, NS, I0, I1, I2, BO, FI, RG, GU, PU, MA, MN, MS, OT, SC], [r0, r1, r2, r3, r.2.2, r5, r6, r7, r8], Lg)) : AOut))
    (zrc3 : ∀ (Y T HA HB RU RV ST NS I0 I1 I2 BO FI RG GU PU MA MN MS OT SC : Nat → Nat → Int32) (r0 r1 r2 r3 w r5 r6 r7 r8 : Nat) (L : Nat) (Lg : Int64) (p2 : Int32) (r : (Nat → Nat → Int32) × (Nat → Nat → Int32) × Nat), rc 3 T RU w p2 = some r → Ev (d + 6, 0, 0, 248, 0, [.val (.ref 320), .val (.ref 128), .val (.int p2), .val a_unk, .val a_unk], [], (126, 120, L, [Y, T, HA, HB, RU, RV, ST, NS, I0, I1, I2, BO, FI, RG, GU, PU, MA, MN, MS, OT, SC], [r0, r1, r2, r3, w, r5, r6, r7, r8], Lg)) ((0, none, (126, 120, L, [Y, r.1, HA, HB, r.2.1, RV, ST, NS, I0, I1, I2, BO, FI, RG, GU, PU, MA, MN, MS, OT, SC], [r0, r1, r2, r3, r.2.2, r5, r6, r7, r8], Lg)) : AOut))
    (zrc4 : ∀ (Y T HA HB RU RV ST NS I0 I1 I2 BO FI RG GU PU MA MN MS OT SC : Nat → Nat → Int32) (r0 r1 r2 r3 w r5 r6 r7 r8 : Nat) (L : Nat) (Lg : Int64) (p2 : Int32) (r : (Nat → Nat → Int32) × (Nat → Nat → Int32) × Nat), rc 4 T RU w p2 = some r → Ev (d + 6, 0, 0, 249, 0, [.val (.ref 320), .val (.ref 128), .val (.int p2), .val a_unk], [], (126, 120, L, [Y, T, HA, HB, RU, RV, ST, NS, I0, I1, I2, BO, FI, RG, GU, PU, MA, MN, MS, OT, SC], [r0, r1, r2, r3, w, r5, r6, r7, r8], Lg)) ((0, none, (126, 120, L, [Y, r.1, HA, HB, r.2.1, RV, ST, NS, I0, I1, I2, BO, FI, RG, GU, PU, MA, MN, MS, OT, SC], [r0, r1, r2, r3, r.2.2, r5, r6, r7, r8], Lg)) : AOut))
    (zrc5 : ∀ (Y T HA HB RU RV ST NS I0 I1 I2 BO FI RG GU PU MA MN MS OT SC : Nat → Nat → Int32) (r0 r1 r2 r3 w r5 r6 r7 r8 : Nat) (L : Nat) (Lg : Int64) (p2 : Int32) (r : (Nat → Nat → Int32) × (Nat → Nat → Int32) × Nat), rc 5 T RU w p2 = some r → Ev (d + 6, 0, 0, 250, 0, [.val (.ref 320), .val (.ref 128), .val (.int p2), .val a_unk], [], (126, 120, L, [Y, T, HA, HB, RU, RV, ST, NS, I0, I1, I2, BO, FI, RG, GU, PU, MA, MN, MS, OT, SC], [r0, r1, r2, r3, w, r5, r6, r7, r8], Lg)) ((0, none, (126, 120, L, [Y, r.1, HA, HB, r.2.1, RV, ST, NS, I0, I1, I2, BO, FI, RG, GU, PU, MA, MN, MS, OT, SC], [r0, r1, r2, r3, r.2.2, r5, r6, r7, r8], Lg)) : AOut))
    (zrc6 : ∀ (Y T HA HB RU RV ST NS I0 I1 I2 BO FI RG GU PU MA MN MS OT SC : Nat → Nat → Int32) (r0 r1 r2 r3 w r5 r6 r7 r8 : Nat) (L : Nat) (Lg : Int64) (p2 : Int32) (r : (Nat → Nat → Int32) × (Nat → Nat → Int32) × Nat), rc 6 T RU w p2 = some r → Ev (d + 6, 0, 0, 247, 0, [.val (.ref 320), .val (.ref 128), .val (.int p2), .val a_unk], [], (126, 120, L, [Y, T, HA, HB, RU, RV, ST, NS, I0, I1, I2, BO, FI, RG, GU, PU, MA, MN, MS, OT, SC], [r0, r1, r2, r3, w, r5, r6, r7, r8], Lg)) ((0, none, (126, 120, L, [Y, r.1, HA, HB, r.2.1, RV, ST, NS, I0, I1, I2, BO, FI, RG, GU, PU, MA, MN, MS, OT, SC], [r0, r1, r2, r3, r.2.2, r5, r6, r7, r8], Lg)) : AOut))
    (Y T HA HB RU RV ST NS I0 I1 I2 BO FI RG GU PU MA MN MS OT SC : Nat → Nat → Int32) (r0 r1 r2 r3 w r5 r6 r7 r8 : Nat) (L : Nat) (Lg : Int64) (p2 : Int32) {r : (Nat → Nat → Int32) × (Nat → Nat → Int32) × Nat} (h : f_Rule_readUnit_B rc T RU w p2 = some r) : Ev (d + 7, 0, 0, 250, 0, [.val (.ref 320), .val (.ref 128), .val (.int p2), .val a_unk], [], (126, 120, L, [Y, T, HA, HB, RU, RV, ST, NS, I0, I1, I2, BO, FI, RG, GU, PU, MA, MN, MS, OT, SC], [r0, r1, r2, r3, w, r5, r6, r7, r8], Lg)) ((0, none, (126, 120, L, [Y, r.1, HA, HB, r.2.1, RV, ST, NS, I0, I1, I2, BO, FI, RG, GU, PU, MA, MN, MS, OT, SC], [r0, r1, r2, r3, r.2.2, r5, r6, r7, r8], Lg)) : AOut) := by
  suffices key : ∀ o : AOut, ((0, none, (126, 120, L, [Y, r.1, HA, HB, r.2.1, RV, ST, NS, I0, I1, I2, BO, FI, RG, GU, PU, MA, MN, MS, OT, SC], [r0, r1, r2, r3, r.2.2, r5, r6, r7, r8], Lg)) : AOut) = o → Ev (d + 7, 0, 0, 250, 0, [.val (.ref 320), .val (.ref 128), .val (.int p2), .val a_unk], [], (126, 120, L, [Y, T, HA, HB, RU, RV, ST, NS, I0, I1, I2, BO, FI, RG, GU, PU, MA, MN, MS, OT, SC], [r0, r1, r2, r3, w, r5, r6, r7, r8], Lg)) o from key _ rfl
  intro o ho
  obtain ⟨x1, zh1, h⟩ := bnd h
  have zh1 : f_Tape_failed T = some x1 := zh1
  have ze2 := R_f_Tape_failed_0 (d + 6) Y T HA HB RU RV ST NS I0 I1 I2 BO FI RG GU PU MA MN MS OT SC r0 r1 r2 r3 w r5 r6 r7 r8 L Lg zh1
  suffices e : Ev (d + 7, 0, 0, 250, 4, [.val (.ref 320), .val (.ref 128), .val (.int p2), .val a_unk], [.int x1], (126, 120, L, [Y, T, HA, HB, RU, RV, ST, NS, I0, I1, I2, BO, FI, RG, GU, PU, MA, MN, MS, OT, SC], [r0, r1, r2, r3, w, r5, r6, r7, r8], Lg)) o from ev_call (fun v μ => (d + 7, 0, 0, 250, 4, [.val (.ref 320), .val (.ref 128), .val (.int p2), .val a_unk], v.toList ++ [], μ)) 2 ze2 e (fun n => Eq.refl _)
  by_cases zc3 : x1 = 0
  · have h := itp h zc3
    suffices e : Ev (d + 7, 0, 0, 250, 8, [.val (.ref 320), .val (.ref 128), .val (.int p2), .val a_unk], [], (126, 120, L, [Y, T, HA, HB, RU, RV, ST, NS, I0, I1, I2, BO, FI, RG, GU, PU, MA, MN, MS, OT, SC], [r0, r1, r2, r3, w, r5, r6, r7, r8], Lg)) o from ev_t (c := x1 = 0) _ _ 1  zc3 e (fun n => Eq.refl _)
    obtain ⟨zt4, zh5, h⟩ := bnd h
    have zj6 : zt4 = .inl () → Ev (d + 7, 0, 0, 250, 43, [.val (.ref 320), .val (.ref 128), .val (.int p2), .val (.ref w)], [], (126, 120, L, [Y, T, HA, HB, RU, RV, ST, NS, I0, I1, I2, BO, FI, RG, GU, PU, MA, MN, MS, OT, SC], [r0, r1, r2, r3, w, r5, r6, r7, r8], Lg)) o := by
      intro ze7
      have h := sum_l h ze7
      obtain ⟨x5, zh8, h⟩ := bnd h
      have zh8 : f_Tape_atSign T 40 = some x5 := zh8
      have ze9 := R_f_Tape_atSign_0 (d + 6) Y T HA HB RU RV ST NS I0 I1 I2 BO FI RG GU PU MA MN MS OT SC r0 r1 r2 r3 w r5 r6 r7 r8 L Lg 40 zh8
      suffices e : Ev (d + 7, 0, 0, 250, 49, [.val (.ref 320), .val (.ref 128), .val (.int p2), .val (.ref w)], [.int x5], (126, 120, L, [Y, T, HA, HB, RU, RV, ST, NS, I0, I1, I2, BO, FI, RG, GU, PU, MA, MN, MS, OT, SC], [r0, r1, r2, r3, w, r5, r6, r7, r8], Lg)) o from ev_call (fun v μ => (d + 7, 0, 0, 250, 49, [.val (.ref 320), .val (.ref 128), .val (.int p2), .val (.ref w)], v.toList ++ [], μ)) 3 ze9 e (fun n => Eq.refl _)
      by_cases zc10 : x5 = 0
      · have h := itp h zc10
        suffices e : Ev (d + 7, 0, 0, 250, 79, [.val (.ref 320), .val (.ref 128), .val (.int p2), .val (.ref w)], [], (126, 120, L, [Y, T, HA, HB, RU, RV, ST, NS, I0, I1, I2, BO, FI, RG, GU, PU, MA, MN, MS, OT, SC], [r0, r1, r2, r3, w, r5, r6, r7, r8], Lg)) o from ev_t (c := x5 = 0) _ _ 1  zc10 e (fun n => Eq.refl _)
        obtain ⟨⟨x6, T_7, w8⟩, zh11, h⟩ := bnd h
        have zh11 : f_Tape_number T w 0 99 = some (x6, T_7, w8) := zh11
        have ze12 := R_f_Tape_number_0 (d + 0) Y T HA HB RU RV ST NS I0 I1 I2 BO FI RG GU PU MA MN MS OT SC r0 r1 r2 r3 w r5 r6 r7 r8 L Lg 0 99 zh11
        suffices e : Ev (d + 7, 0, 0, 250, 87, [.val (.ref 320), .val (.ref 128), .val (.int p2), .val (.ref w)], [.int x6, .ref 320], (126, 120, L, [Y, T_7, HA, HB, RU, RV, ST, NS, I0, I1, I2, BO, FI, RG, GU, PU, MA, MN, MS, OT, SC], [r0, r1, r2, r3, w8, r5, r6, r7, r8], Lg)) o from ev_call (fun v μ => (d + 7, 0, 0, 250, 87, [.val (.ref 320), .val (.ref 128), .val (.int p2), .val (.ref w)], v.toList ++ [.ref 320], μ)) 5 ze12 e (fun n => Eq.refl _)
        obtain ⟨RU_9, zh13, h⟩ := bnd h
        have zh13 : f_Rule_emit RU x6 = some RU_9 := zh13
        have ze14 := R_f_Rule_emit_1 (d + 6) Y T_7 HA HB RU RV ST NS I0 I1 I2 BO FI RG GU PU MA MN MS OT SC r0 r1 r2 r3 w8 r5 r6 r7 r8 L Lg x6 zh13
        suffices e : Ev (d + 7, 0, 0, 250, 90, [.val (.ref 320), .val (.ref 128), .val (.int p2), .val (.ref w)], [], (126, 120, L, [Y, T_7, HA, HB, RU_9, RV, ST, NS, I0, I1, I2, BO, FI, RG, GU, PU, MA, MN, MS, OT, SC], [r0, r1, r2, r3, w8, r5, r6, r7, r8], Lg)) o from ev_call (fun v μ => (d + 7, 0, 0, 250, 90, [.val (.ref 320), .val (.ref 128), .val (.int p2), .val (.ref w)], v.toList ++ [], μ)) 1 ze14 e (fun n => Eq.refl _)
        have ze15 := Option.some.inj h
        subst ze15
        exact ev_rete 1 ho (fun n => Eq.refl _)
      · have h := itn h zc10
        suffices e : Ev (d + 7, 0, 0, 250, 52, [.val (.ref 320), .val (.ref 128), .val (.int p2), .val (.ref w)], [], (126, 120, L, [Y, T, HA, HB, RU, RV, ST, NS, I0, I1, I2, BO, FI, RG, GU, PU, MA, MN, MS, OT, SC], [r0, r1, r2, r3, w, r5, r6, r7, r8], Lg)) o from ev_f (c := x5 = 0) _ _ 1  zc10 e (fun n => Eq.refl _)
        obtain ⟨⟨x10, T_11, w12⟩, zh16, h⟩ := bnd h
        have zh16 : f_Rule_opens T w p2 = some (x10, T_11, w12) := zh16
        have ze17 := R_f_Rule_opens_1 (d + 0) Y T HA HB RU RV ST NS I0 I1 I2 BO FI RG GU PU MA MN MS OT SC r0 r1 r2 r3 w r5 r6 r7 r8 L Lg p2 zh16
        suffices e : Ev (d + 7, 0, 0, 250, 58, [.val (.ref 320), .val (.ref 128), .val (.int p2), .val (.ref w)], [.int x10], (126, 120, L, [Y, T_11, HA, HB, RU, RV, ST, NS, I0, I1, I2, BO, FI, RG, GU, PU, MA, MN, MS, OT, SC], [r0, r1, r2, r3, w12, r5, r6, r7, r8], Lg)) o from ev_call (fun v μ => (d + 7, 0, 0, 250, 58, [.val (.ref 320), .val (.ref 128), .val (.int p2), .val (.ref w)], v.toList ++ [], μ)) 4 ze17 e (fun n => Eq.refl _)
        by_cases zc18 : x10 = 0
        · have h := itp h zc18
          suffices e : Ev (d + 7, 0, 0, 250, 90, [.val (.ref 320), .val (.ref 128), .val (.int p2), .val (.ref w)], [], (126, 120, L, [Y, T_11, HA, HB, RU, RV, ST, NS, I0, I1, I2, BO, FI, RG, GU, PU, MA, MN, MS, OT, SC], [r0, r1, r2, r3, w12, r5, r6, r7, r8], Lg)) o from ev_t (c := x10 = 0) _ _ 1  zc18 e (fun n => Eq.refl _)
          have ze19 := Option.some.inj h
          subst ze19
          exact ev_rete 1 ho (fun n => Eq.refl _)
        · have h := itn h zc18
          suffices e : Ev (d + 7, 0, 0, 250, 61, [.val (.ref 320), .val (.ref 128), .val (.int p2), .val (.ref w)], [], (126, 120, L, [Y, T_11, HA, HB, RU, RV, ST, NS, I0, I1, I2, BO, FI, RG, GU, PU, MA, MN, MS, OT, SC], [r0, r1, r2, r3, w12, r5, r6, r7, r8], Lg)) o from ev_f (c := x10 = 0) _ _ 1  zc18 e (fun n => Eq.refl _)
          obtain ⟨⟨T_13, RU_14, w15⟩, zh20, h⟩ := bnd h
          have zh20 : rc 3 T_11 RU w12 (p2 + 1) = some (T_13, RU_14, w15) := zh20
          have ze21 := zrc3 Y T_11 HA HB RU RV ST NS I0 I1 I2 BO FI RG GU PU MA MN MS OT SC r0 r1 r2 r3 w12 r5 r6 r7 r8 L Lg (p2 + 1) _ zh20
          suffices e : Ev (d + 7, 0, 0, 250, 69, [.val (.ref 320), .val (.ref 128), .val (.int p2), .val (.ref w)], [], (126, 120, L, [Y, T_13, HA, HB, RU_14, RV, ST, NS, I0, I1, I2, BO, FI, RG, GU, PU, MA, MN, MS, OT, SC], [r0, r1, r2, r3, w15, r5, r6, r7, r8], Lg)) o from ev_call (fun v μ => (d + 7, 0, 0, 250, 69, [.val (.ref 320), .val (.ref 128), .val (.int p2), .val (.ref w)], v.toList ++ [], μ)) 6 ze21 e (fun n => Eq.refl _)
          obtain ⟨⟨x16, T_17, w18⟩, zh22, h⟩ := bnd h
          have zh22 : f_Tape_pass T_13 w15 41 = some (x16, T_17, w18) := zh22
          have ze23 := R_f_Tape_pass_0 (d + 0) Y T_13 HA HB RU_14 RV ST NS I0 I1 I2 BO FI RG GU PU MA MN MS OT SC r0 r1 r2 r3 w15 r5 r6 r7 r8 L Lg 41 zh22
          suffices e : Ev (d + 7, 0, 0, 250, 75, [.val (.ref 320), .val (.ref 128), .val (.int p2), .val (.ref w)], [.int x16], (126, 120, L, [Y, T_17, HA, HB, RU_14, RV, ST, NS, I0, I1, I2, BO, FI, RG, GU, PU, MA, MN, MS, OT, SC], [r0, r1, r2, r3, w18, r5, r6, r7, r8], Lg)) o from ev_call (fun v μ => (d + 7, 0, 0, 250, 75, [.val (.ref 320), .val (.ref 128), .val (.int p2), .val (.ref w)], v.toList ++ [], μ)) 3 ze23 e (fun n => Eq.refl _)
          have ze24 := Option.some.inj h
          subst ze24
          exact ev_rete 3 ho (fun n => Eq.refl _)
    by_cases zg26 : ¬ (okW w)
    · exact nos (itn zh5 zg26)
    have zg26 := Decidable.not_not.mp zg26
    have zh5 := itp zh5 zg26
    by_cases zc25 : w = 0
    · have zh5 := itp zh5 zc25
      suffices e : Ev (d + 7, 0, 0, 250, 43, [.val (.ref 320), .val (.ref 128), .val (.int p2), .val (.ref w)], [], (126, 120, L, [Y, T, HA, HB, RU, RV, ST, NS, I0, I1, I2, BO, FI, RG, GU, PU, MA, MN, MS, OT, SC], [r0, r1, r2, r3, w, r5, r6, r7, r8], Lg)) o from ev_gt (c := w = 0) _ _ 5 zg26 zc25 e (fun n => Eq.refl _)
      exact ev_b 0 (zj6  (Option.some.inj zh5).symm ) (fun n => Eq.refl _)
    · have zh5 := itn zh5 zc25
      suffices e : Ev (d + 7, 0, 0, 250, 17, [.val (.ref 320), .val (.ref 128), .val (.int p2), .val (.ref w)], [], (126, 120, L, [Y, T, HA, HB, RU, RV, ST, NS, I0, I1, I2, BO, FI, RG, GU, PU, MA, MN, MS, OT, SC], [r0, r1, r2, r3, w, r5, r6, r7, r8], Lg)) o from ev_gf (c := w = 0) _ _ 5 zg26 zc25 e (fun n => Eq.refl _)
      by_cases zg27 : ¬ (isW w)
      · exact nos (itn zh5 zg27)
      have zg27 := Decidable.not_not.mp zg27
      have zh5 := itp zh5 zg27
      suffices e : Ev (d + 7, 0, 0, 250, 18, [.val (.ref 320), .val (.ref 128), .val (.int p2), .val (.ref w)], [.ref w], (126, 120, L, [Y, T, HA, HB, RU, RV, ST, NS, I0, I1, I2, BO, FI, RG, GU, PU, MA, MN, MS, OT, SC], [r0, r1, r2, r3, w, r5, r6, r7, r8], Lg)) o from ev_b 1 e (fun n => Eq.refl _)
      refine r_cgetf (q := 0) rfl (cW zg27).1 (cW zg27).2.1 rfl (cW zg27).2.2.2.1 ?_
      by_cases zc28 : (w_slot w) = (-1)
      · have zh5 := itp zh5 zc28
        suffices e : Ev (d + 7, 0, 0, 250, 43, [.val (.ref 320), .val (.ref 128), .val (.int p2), .val (.ref w)], [], (126, 120, L, [Y, T, HA, HB, RU, RV, ST, NS, I0, I1, I2, BO, FI, RG, GU, PU, MA, MN, MS, OT, SC], [r0, r1, r2, r3, w, r5, r6, r7, r8], Lg)) o from ev_t (c := (w_slot w) = (-1)) _ _ 2  zc28 e (fun n => Eq.refl _)
        exact ev_b 0 (zj6  (Option.some.inj zh5).symm ) (fun n => Eq.refl _)
      · have zh5 := itn zh5 zc28
        suffices e : Ev (d + 7, 0, 0, 250, 25, [.val (.ref 320), .val (.ref 128), .val (.int p2), .val (.ref w)], [], (126, 120, L, [Y, T, HA, HB, RU, RV, ST, NS, I0, I1, I2, BO, FI, RG, GU, PU, MA, MN, MS, OT, SC], [r0, r1, r2, r3, w, r5, r6, r7, r8], Lg)) o from ev_f (c := (w_slot w) = (-1)) _ _ 2  zc28 e (fun n => Eq.refl _)
        by_cases zg29 : ¬ (isW w)
        · exact nos (itn zh5 zg29)
        have zg29 := Decidable.not_not.mp zg29
        have zh5 := itp zh5 zg29
        suffices e : Ev (d + 7, 0, 0, 250, 29, [.val (.ref 320), .val (.ref 128), .val (.int p2), .val (.ref w)], [.ref w, .int 100, .ref 320], (126, 120, L, [Y, T, HA, HB, RU, RV, ST, NS, I0, I1, I2, BO, FI, RG, GU, PU, MA, MN, MS, OT, SC], [r0, r1, r2, r3, w, r5, r6, r7, r8], Lg)) o from ev_b 3 e (fun n => Eq.refl _)
        refine r_cgetf (q := 0) rfl (cW zg29).1 (cW zg29).2.1 rfl (cW zg29).2.2.2.1 ?_
        obtain ⟨RU_2, zh30, zh5⟩ := bnd zh5
        have zh30 : f_Rule_emit RU (100 + (w_slot w)) = some RU_2 := zh30
        have ze31 := R_f_Rule_emit_1 (d + 6) Y T HA HB RU RV ST NS I0 I1 I2 BO FI RG GU PU MA MN MS OT SC r0 r1 r2 r3 w r5 r6 r7 r8 L Lg (100 + (w_slot w)) zh30
        suffices e : Ev (d + 7, 0, 0, 250, 36, [.val (.ref 320), .val (.ref 128), .val (.int p2), .val (.ref w)], [], (126, 120, L, [Y, T, HA, HB, RU_2, RV, ST, NS, I0, I1, I2, BO, FI, RG, GU, PU, MA, MN, MS, OT, SC], [r0, r1, r2, r3, w, r5, r6, r7, r8], Lg)) o from ev_call (fun v μ => (d + 7, 0, 0, 250, 36, [.val (.ref 320), .val (.ref 128), .val (.int p2), .val (.ref w)], v.toList ++ [], μ)) 2 ze31 e (fun n => Eq.refl _)
        obtain ⟨⟨T_3, w4⟩, zh32, zh5⟩ := bnd zh5
        have zh32 : f_Tape_advance T = some (T_3, w4) := zh32
        have ze33 := R_f_Tape_advance_0 (d + 1) Y T HA HB RU_2 RV ST NS I0 I1 I2 BO FI RG GU PU MA MN MS OT SC r0 r1 r2 r3 w r5 r6 r7 r8 L Lg zh32
        suffices e : Ev (d + 7, 0, 0, 250, 40, [.val (.ref 320), .val (.ref 128), .val (.int p2), .val (.ref w)], [], (126, 120, L, [Y, T_3, HA, HB, RU_2, RV, ST, NS, I0, I1, I2, BO, FI, RG, GU, PU, MA, MN, MS, OT, SC], [r0, r1, r2, r3, w4, r5, r6, r7, r8], Lg)) o from ev_call (fun v μ => (d + 7, 0, 0, 250, 40, [.val (.ref 320), .val (.ref 128), .val (.int p2), .val (.ref w)], v.toList ++ [], μ)) 2 ze33 e (fun n => Eq.refl _)
        have zh34 := sum_r h (Option.some.inj zh5).symm
        have ze35 := Option.some.inj zh34
        subst ze35
        exact ev_rete 2 ho (fun n => Eq.refl _)
  · have h := itn h zc3
    suffices e : Ev (d + 7, 0, 0, 250, 7, [.val (.ref 320), .val (.ref 128), .val (.int p2), .val a_unk], [], (126, 120, L, [Y, T, HA, HB, RU, RV, ST, NS, I0, I1, I2, BO, FI, RG, GU, PU, MA, MN, MS, OT, SC], [r0, r1, r2, r3, w, r5, r6, r7, r8], Lg)) o from ev_f (c := x1 = 0) _ _ 1  zc3 e (fun n => Eq.refl _)
    have ze36 := Option.some.inj h
    subst ze36
    exact ev_rete 1 ho (fun n => Eq.refl _)
