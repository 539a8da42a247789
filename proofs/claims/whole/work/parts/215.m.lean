/-! printed by program (gen/emitm.py): the reference's methods run as their functions say -/
set_option maxRecDepth 1000000 in
set_option maxHeartbeats 4000000 in
theorem R_f_House_read_0 (d : Nat) (Y T H2 H RA RB ST NS I0 I1 I2 BO FI RG GU PU MA MN MS OT SC : Nat → Nat → Int32) (r0 r1 r2 r3 w r5 r6 r7 r8 : Nat) (L : Nat) (Lg : Int64) {r : (Nat → Nat → Int32) × (Nat → Nat → Int32) × Nat} (h : f_House_read T H w = some r) : Ev (d + 9, 0, 0, 201, 0, [.val (.ref 256), .val (.ref 128), .val a_unk, .val a_unk, .val a_unk], [], (126, 120, L, [Y, T, H2, H, RA, RB, ST, NS, I0, I1, I2, BO, FI, RG, GU, PU, MA, MN, MS, OT, SC], [r0, r1, r2, r3, w, r5, r6, r7, r8], Lg)) ((0, none, (126, 120, L, [Y, r.1, H2, r.2.1, RA, RB, ST, NS, I0, I1, I2, BO, FI, RG, GU, PU, MA, MN, MS, OT, SC], [r0, r1, r2, r3, r.2.2, r5, r6, r7, r8], Lg)) : AOut) := by
  suffices key : ∀ o : AOut, ((0, none, (126, 120, L, [Y, r.1, H2, r.2.1, RA, RB, ST, NS, I0, I1, I2, BO, FI, RG, GU, PU, MA, MN, MS, OT, SC], [r0, r1, r2, r3, r.2.2, r5, r6, r7, r8], Lg)) : AOut) = o → Ev (d + 9, 0, 0, 201, 0, [.val (.ref 256), .val (.ref 128), .val a_unk, .val a_unk, .val a_unk], [], (126, 120, L, [Y, T, H2, H, RA, RB, ST, NS, I0, I1, I2, BO, FI, RG, GU, PU, MA, MN, MS, OT, SC], [r0, r1, r2, r3, w, r5, r6, r7, r8], Lg)) o from key _ rfl
  intro o ho
  obtain ⟨H_1, zh1, h⟩ := bnd h
  have zh1 : f_House_forget H = some H_1 := zh1
  have ze2 := R_f_House_forget_0 (d + 7) Y T H2 H RA RB ST NS I0 I1 I2 BO FI RG GU PU MA MN MS OT SC r0 r1 r2 r3 w r5 r6 r7 r8 L Lg zh1
  suffices e : Ev (d + 9, 0, 0, 201, 4, [.val (.ref 256), .val (.ref 128), .val a_unk, .val a_unk, .val a_unk], [], (126, 120, L, [Y, T, H2, H_1, RA, RB, ST, NS, I0, I1, I2, BO, FI, RG, GU, PU, MA, MN, MS, OT, SC], [r0, r1, r2, r3, w, r5, r6, r7, r8], Lg)) o from ev_call (fun v μ => (d + 9, 0, 0, 201, 4, [.val (.ref 256), .val (.ref 128), .val a_unk, .val a_unk, .val a_unk], v.toList ++ [], μ)) 2 ze2 e (fun n => Eq.refl _)
  obtain ⟨zb3, zh4, h⟩ := bnd h
  suffices e : Ev (d + 9, 0, 0, 201, 6, [.val (.ref 256), .val (.ref 128), .val (.int 0), .val a_unk, .val a_unk], [], (126, 120, L, [Y, T, H2, H_1, RA, RB, ST, NS, I0, I1, I2, BO, FI, RG, GU, PU, MA, MN, MS, OT, SC], [r0, r1, r2, r3, w, r5, r6, r7, r8], Lg)) o from ev_b 2 e (fun n => Eq.refl _)
  refine ev_loop (δ := Value × Value) (fun a j => (d + 9, 0, 0, 201, 6, [.val (.ref 256), .val (.ref 128), .val (.int a.1), .val j.1, .val j.2], [], (126, 120, L, [Y, a.2.1, H2, a.2.2.1, RA, RB, ST, NS, I0, I1, I2, BO, FI, RG, GU, PU, MA, MN, MS, OT, SC], [r0, r1, r2, r3, a.2.2.2, r5, r6, r7, r8], Lg))) (fun b => ∀ s17 : Value, ∀ s18 : Value, ∀ s19 : Value, Ev (d + 9, 0, 0, 201, 69, [.val (.ref 256), .val (.ref 128), .val s17, .val s18, .val s19], [], (126, 120, L, [Y, b.1, H2, b.2.1, RA, RB, ST, NS, I0, I1, I2, BO, FI, RG, GU, PU, MA, MN, MS, OT, SC], [r0, r1, r2, r3, b.2.2, r5, r6, r7, r8], Lg)) o) ?_ a_F (0, T, H_1, w) zb3 zh4 ?_ (a_unk, a_unk)
  · rintro ⟨v2, T_5, H_6, w7⟩ zr8 zh7 zi5 zx6 ⟨s3, s4⟩
    have zh7 : f_House_read_l6 v2 T_5 H_6 w7 = some zr8 := zh7
    by_cases zc9 : 60 < v2
    · have zh7 := itp zh7 zc9
      suffices e : Ev (d + 9, 0, 0, 201, 69, [.val (.ref 256), .val (.ref 128), .val (.int v2), .val s3, .val s4], [], (126, 120, L, [Y, T_5, H2, H_6, RA, RB, ST, NS, I0, I1, I2, BO, FI, RG, GU, PU, MA, MN, MS, OT, SC], [r0, r1, r2, r3, w7, r5, r6, r7, r8], Lg)) o from ev_t (c := 60 < v2) _ _ 3  zc9 e (fun n => Eq.refl _)
      exact ev_b 0 (zx6 _ (Option.some.inj zh7).symm (.int v2) s3 s4) (fun n => Eq.refl _)
    · have zh7 := itn zh7 zc9
      suffices e : Ev (d + 9, 0, 0, 201, 12, [.val (.ref 256), .val (.ref 128), .val (.int v2), .val s3, .val s4], [], (126, 120, L, [Y, T_5, H2, H_6, RA, RB, ST, NS, I0, I1, I2, BO, FI, RG, GU, PU, MA, MN, MS, OT, SC], [r0, r1, r2, r3, w7, r5, r6, r7, r8], Lg)) o from ev_f (c := 60 < v2) _ _ 3  zc9 e (fun n => Eq.refl _)
      obtain ⟨x8, zh10, zh7⟩ := bnd zh7
      have zh10 : f_Tape_failed T_5 = some x8 := zh10
      have ze11 := R_f_Tape_failed_0 (d + 8) Y T_5 H2 H_6 RA RB ST NS I0 I1 I2 BO FI RG GU PU MA MN MS OT SC r0 r1 r2 r3 w7 r5 r6 r7 r8 L Lg zh10
      suffices e : Ev (d + 9, 0, 0, 201, 16, [.val (.ref 256), .val (.ref 128), .val (.int v2), .val s3, .val s4], [.int x8], (126, 120, L, [Y, T_5, H2, H_6, RA, RB, ST, NS, I0, I1, I2, BO, FI, RG, GU, PU, MA, MN, MS, OT, SC], [r0, r1, r2, r3, w7, r5, r6, r7, r8], Lg)) o from ev_call (fun v μ => (d + 9, 0, 0, 201, 16, [.val (.ref 256), .val (.ref 128), .val (.int v2), .val s3, .val s4], v.toList ++ [], μ)) 2 ze11 e (fun n => Eq.refl _)
      by_cases zc12 : x8 ≠ 0
      · have zh7 := itp zh7 zc12
        suffices e : Ev (d + 9, 0, 0, 201, 69, [.val (.ref 256), .val (.ref 128), .val (.int v2), .val s3, .val s4], [], (126, 120, L, [Y, T_5, H2, H_6, RA, RB, ST, NS, I0, I1, I2, BO, FI, RG, GU, PU, MA, MN, MS, OT, SC], [r0, r1, r2, r3, w7, r5, r6, r7, r8], Lg)) o from ev_t (c := x8 ≠ 0) _ _ 1  zc12 e (fun n => Eq.refl _)
        exact ev_b 0 (zx6 _ (Option.some.inj zh7).symm (.int v2) s3 s4) (fun n => Eq.refl _)
      · have zh7 := itn zh7 zc12
        suffices e : Ev (d + 9, 0, 0, 201, 19, [.val (.ref 256), .val (.ref 128), .val (.int v2), .val s3, .val s4], [], (126, 120, L, [Y, T_5, H2, H_6, RA, RB, ST, NS, I0, I1, I2, BO, FI, RG, GU, PU, MA, MN, MS, OT, SC], [r0, r1, r2, r3, w7, r5, r6, r7, r8], Lg)) o from ev_f (c := x8 ≠ 0) _ _ 1  zc12 e (fun n => Eq.refl _)
        obtain ⟨x9, zh13, zh7⟩ := bnd zh7
        have zh13 : f_Tape_atEnd T_5 = some x9 := zh13
        have ze14 := R_f_Tape_atEnd_0 (d + 8) Y T_5 H2 H_6 RA RB ST NS I0 I1 I2 BO FI RG GU PU MA MN MS OT SC r0 r1 r2 r3 w7 r5 r6 r7 r8 L Lg zh13
        suffices e : Ev (d + 9, 0, 0, 201, 23, [.val (.ref 256), .val (.ref 128), .val (.int v2), .val s3, .val s4], [.int x9], (126, 120, L, [Y, T_5, H2, H_6, RA, RB, ST, NS, I0, I1, I2, BO, FI, RG, GU, PU, MA, MN, MS, OT, SC], [r0, r1, r2, r3, w7, r5, r6, r7, r8], Lg)) o from ev_call (fun v μ => (d + 9, 0, 0, 201, 23, [.val (.ref 256), .val (.ref 128), .val (.int v2), .val s3, .val s4], v.toList ++ [], μ)) 2 ze14 e (fun n => Eq.refl _)
        by_cases zc15 : x9 ≠ 0
        · have zh7 := itp zh7 zc15
          suffices e : Ev (d + 9, 0, 0, 201, 69, [.val (.ref 256), .val (.ref 128), .val (.int v2), .val s3, .val s4], [], (126, 120, L, [Y, T_5, H2, H_6, RA, RB, ST, NS, I0, I1, I2, BO, FI, RG, GU, PU, MA, MN, MS, OT, SC], [r0, r1, r2, r3, w7, r5, r6, r7, r8], Lg)) o from ev_t (c := x9 ≠ 0) _ _ 1  zc15 e (fun n => Eq.refl _)
          exact ev_b 0 (zx6 _ (Option.some.inj zh7).symm (.int v2) s3 s4) (fun n => Eq.refl _)
        · have zh7 := itn zh7 zc15
          suffices e : Ev (d + 9, 0, 0, 201, 26, [.val (.ref 256), .val (.ref 128), .val (.int v2), .val s3, .val s4], [], (126, 120, L, [Y, T_5, H2, H_6, RA, RB, ST, NS, I0, I1, I2, BO, FI, RG, GU, PU, MA, MN, MS, OT, SC], [r0, r1, r2, r3, w7, r5, r6, r7, r8], Lg)) o from ev_f (c := x9 ≠ 0) _ _ 1  zc15 e (fun n => Eq.refl _)
          obtain ⟨x10, zh16, zh7⟩ := bnd zh7
          have zh16 : f_House_wordFault H_6 w7 v2 = some x10 := zh16
          have ze17 := R_f_House_wordFault_0 (d + 7) Y T_5 H2 H_6 RA RB ST NS I0 I1 I2 BO FI RG GU PU MA MN MS OT SC r0 r1 r2 r3 w7 r5 r6 r7 r8 L Lg w7 v2 zh16
          suffices e : Ev (d + 9, 0, 0, 201, 37, [.val (.ref 256), .val (.ref 128), .val (.int v2), .val (.ref w7), .val s4], [.int x10], (126, 120, L, [Y, T_5, H2, H_6, RA, RB, ST, NS, I0, I1, I2, BO, FI, RG, GU, PU, MA, MN, MS, OT, SC], [r0, r1, r2, r3, w7, r5, r6, r7, r8], Lg)) o from ev_call (fun v μ => (d + 9, 0, 0, 201, 37, [.val (.ref 256), .val (.ref 128), .val (.int v2), .val (.ref w7), .val s4], v.toList ++ [], μ)) 7 ze17 e (fun n => Eq.refl _)
          by_cases zc18 : x10 = 0
          · have zh7 := itp zh7 zc18
            suffices e : Ev (d + 9, 0, 0, 201, 53, [.val (.ref 256), .val (.ref 128), .val (.int v2), .val (.ref w7), .val (.int x10)], [], (126, 120, L, [Y, T_5, H2, H_6, RA, RB, ST, NS, I0, I1, I2, BO, FI, RG, GU, PU, MA, MN, MS, OT, SC], [r0, r1, r2, r3, w7, r5, r6, r7, r8], Lg)) o from ev_t (c := x10 = 0) _ _ 3  zc18 e (fun n => Eq.refl _)
            obtain ⟨⟨T_11, w12⟩, zh19, zh7⟩ := bnd zh7
            have zh19 : f_Tape_advance T_5 = some (T_11, w12) := zh19
            have ze20 := R_f_Tape_advance_0 (d + 3) Y T_5 H2 H_6 RA RB ST NS I0 I1 I2 BO FI RG GU PU MA MN MS OT SC r0 r1 r2 r3 w7 r5 r6 r7 r8 L Lg zh19
            suffices e : Ev (d + 9, 0, 0, 201, 57, [.val (.ref 256), .val (.ref 128), .val (.int v2), .val (.ref w7), .val (.int x10)], [], (126, 120, L, [Y, T_11, H2, H_6, RA, RB, ST, NS, I0, I1, I2, BO, FI, RG, GU, PU, MA, MN, MS, OT, SC], [r0, r1, r2, r3, w12, r5, r6, r7, r8], Lg)) o from ev_call (fun v μ => (d + 9, 0, 0, 201, 57, [.val (.ref 256), .val (.ref 128), .val (.int v2), .val (.ref w7), .val (.int x10)], v.toList ++ [], μ)) 2 ze20 e (fun n => Eq.refl _)
            obtain ⟨⟨T_13, H_14, w15⟩, zh21, zh7⟩ := bnd zh7
            have zh21 : f_House_readClause T_11 H_6 w12 w7 = some (T_13, H_14, w15) := zh21
            have ze22 := R_f_House_readClause_0 (d + 0) Y T_11 H2 H_6 RA RB ST NS I0 I1 I2 BO FI RG GU PU MA MN MS OT SC r0 r1 r2 r3 w12 r5 r6 r7 r8 L Lg w7 zh21
            suffices e : Ev (d + 9, 0, 0, 201, 63, [.val (.ref 256), .val (.ref 128), .val (.int v2), .val (.ref w7), .val (.int x10)], [], (126, 120, L, [Y, T_13, H2, H_14, RA, RB, ST, NS, I0, I1, I2, BO, FI, RG, GU, PU, MA, MN, MS, OT, SC], [r0, r1, r2, r3, w15, r5, r6, r7, r8], Lg)) o from ev_call (fun v μ => (d + 9, 0, 0, 201, 63, [.val (.ref 256), .val (.ref 128), .val (.int v2), .val (.ref w7), .val (.int x10)], v.toList ++ [], μ)) 4 ze22 e (fun n => Eq.refl _)
            exact ev_b 2 (zi5 _ (Option.some.inj zh7).symm ((.ref w7), (.int x10))) (fun n => Eq.refl _)
          · have zh7 := itn zh7 zc18
            suffices e : Ev (d + 9, 0, 0, 201, 44, [.val (.ref 256), .val (.ref 128), .val (.int v2), .val (.ref w7), .val (.int x10)], [], (126, 120, L, [Y, T_5, H2, H_6, RA, RB, ST, NS, I0, I1, I2, BO, FI, RG, GU, PU, MA, MN, MS, OT, SC], [r0, r1, r2, r3, w7, r5, r6, r7, r8], Lg)) o from ev_f (c := x10 = 0) _ _ 3  zc18 e (fun n => Eq.refl _)
            obtain ⟨T_16, zh23, zh7⟩ := bnd zh7
            have zh23 : f_Tape_fail T_5 x10 = some T_16 := zh23
            have ze24 := R_f_Tape_fail_0 (d + 8) Y T_5 H2 H_6 RA RB ST NS I0 I1 I2 BO FI RG GU PU MA MN MS OT SC r0 r1 r2 r3 w7 r5 r6 r7 r8 L Lg x10 zh23
            suffices e : Ev (d + 9, 0, 0, 201, 50, [.val (.ref 256), .val (.ref 128), .val (.int v2), .val (.ref w7), .val (.int x10)], [], (126, 120, L, [Y, T_16, H2, H_6, RA, RB, ST, NS, I0, I1, I2, BO, FI, RG, GU, PU, MA, MN, MS, OT, SC], [r0, r1, r2, r3, w7, r5, r6, r7, r8], Lg)) o from ev_call (fun v μ => (d + 9, 0, 0, 201, 50, [.val (.ref 256), .val (.ref 128), .val (.int v2), .val (.ref w7), .val (.int x10)], v.toList ++ [], μ)) 3 ze24 e (fun n => Eq.refl _)
            exact ev_b 3 (zi5 _ (Option.some.inj zh7).symm ((.ref w7), (.int x10))) (fun n => Eq.refl _)
  · obtain ⟨T_20, H_21, w22⟩ := zb3
    intro s17 s18 s19
    obtain ⟨H_23, zh25, h⟩ := bnd h
    have zh25 : f_House_settle H_21 = some H_23 := zh25
    have ze26 := R_f_House_settle_0 (d + 7) Y T_20 H2 H_21 RA RB ST NS I0 I1 I2 BO FI RG GU PU MA MN MS OT SC r0 r1 r2 r3 w22 r5 r6 r7 r8 L Lg zh25
    suffices e : Ev (d + 9, 0, 0, 201, 73, [.val (.ref 256), .val (.ref 128), .val s17, .val s18, .val s19], [], (126, 120, L, [Y, T_20, H2, H_23, RA, RB, ST, NS, I0, I1, I2, BO, FI, RG, GU, PU, MA, MN, MS, OT, SC], [r0, r1, r2, r3, w22, r5, r6, r7, r8], Lg)) o from ev_call (fun v μ => (d + 9, 0, 0, 201, 73, [.val (.ref 256), .val (.ref 128), .val s17, .val s18, .val s19], v.toList ++ [], μ)) 2 ze26 e (fun n => Eq.refl _)
    have ze27 := Option.some.inj h
    subst ze27
    exact ev_rete 1 ho (fun n => Eq.refl _)
set_option maxRecDepth 1000000 in
set_option maxHeartbeats 4000000 in
theorem R_f_Tape_empty_0 (d : Nat) (Y T HA HB RA RB ST NS I0 I1 I2 BO FI RG GU PU MA MN MS OT SC : Nat → Nat → Int32) (r0 r1 r2 r3 w r5 r6 r7 r8 : Nat) (L : Nat) (Lg : Int64) {r : (Nat → Nat → Int32)} (h : f_Tape_empty T = some r) : Ev (d + 0, 0, 0, 266, 0, [.val (.ref 128)], [], (126, 120, L, [Y, T, HA, HB, RA, RB, ST, NS, I0, I1, I2, BO, FI, RG, GU, PU, MA, MN, MS, OT, SC], [r0, r1, r2, r3, w, r5, r6, r7, r8], Lg)) ((0, none, (126, 120, L, [Y, r, HA, HB, RA, RB, ST, NS, I0, I1, I2, BO, FI, RG, GU, PU, MA, MN, MS, OT, SC], [r0, r1, r2, r3, w, r5, r6, r7, r8], Lg)) : AOut) := by
  suffices key : ∀ o : AOut, ((0, none, (126, 120, L, [Y, r, HA, HB, RA, RB, ST, NS, I0, I1, I2, BO, FI, RG, GU, PU, MA, MN, MS, OT, SC], [r0, r1, r2, r3, w, r5, r6, r7, r8], Lg)) : AOut) = o → Ev (d + 0, 0, 0, 266, 0, [.val (.ref 128)], [], (126, 120, L, [Y, T, HA, HB, RA, RB, ST, NS, I0, I1, I2, BO, FI, RG, GU, PU, MA, MN, MS, OT, SC], [r0, r1, r2, r3, w, r5, r6, r7, r8], Lg)) o from key _ rfl
  intro o ho
  have ze1 := Option.some.inj h
  subst ze1
  exact ev_rete 4 ho (fun n => Eq.refl _)
set_option maxRecDepth 1000000 in
set_option maxHeartbeats 4000000 in
theorem R_f_Rule_forget_0 (d : Nat) (Y T HA HB RU RV ST NS I0 I1 I2 BO FI RG GU PU MA MN MS OT SC : Nat → Nat → Int32) (r0 r1 r2 r3 w r5 r6 r7 r8 : Nat) (L : Nat) (Lg : Int64) {r : (Nat → Nat → Int32)} (h : f_Rule_forget RU = some r) : Ev (d + 0, 0, 0, 240, 0, [.val (.ref 320)], [], (126, 120, L, [Y, T, HA, HB, RU, RV, ST, NS, I0, I1, I2, BO, FI, RG, GU, PU, MA, MN, MS, OT, SC], [r0, r1, r2, r3, w, r5, r6, r7, r8], Lg)) ((0, none, (126, 120, L, [Y, T, HA, HB, r, RV, ST, NS, I0, I1, I2, BO, FI, RG, GU, PU, MA, MN, MS, OT, SC], [r0, r1, r2, r3, w, r5, r6, r7, r8], Lg)) : AOut) := by
  suffices key : ∀ o : AOut, ((0, none, (126, 120, L, [Y, T, HA, HB, r, RV, ST, NS, I0, I1, I2, BO, FI, RG, GU, PU, MA, MN, MS, OT, SC], [r0, r1, r2, r3, w, r5, r6, r7, r8], Lg)) : AOut) = o → Ev (d + 0, 0, 0, 240, 0, [.val (.ref 320)], [], (126, 120, L, [Y, T, HA, HB, RU, RV, ST, NS, I0, I1, I2, BO, FI, RG, GU, PU, MA, MN, MS, OT, SC], [r0, r1, r2, r3, w, r5, r6, r7, r8], Lg)) o from key _ rfl
  intro o ho
  have ze1 := Option.some.inj h
  subst ze1
  exact ev_rete 4 ho (fun n => Eq.refl _)
set_option maxRecDepth 1000000 in
set_option maxHeartbeats 4000000 in
theorem R_f_State_start_0 (d : Nat) (Y T H2 H RA RB ST NS I0 I1 I2 BO FI RG GU PU MA MN MS OT SC : Nat → Nat → Int32) (r0 r1 r2 r3 w r5 r6 r7 r8 : Nat) (L : Nat) (Lg : Int64) {r : (Nat → Nat → Int32)} (h : f_State_start H NS = some r) : Ev (d + 1, 0, 0, 257, 0, [.val (.ref 512), .val (.ref 256)], [], (126, 120, L, [Y, T, H2, H, RA, RB, ST, NS, I0, I1, I2, BO, FI, RG, GU, PU, MA, MN, MS, OT, SC], [r0, r1, r2, r3, w, r5, r6, r7, r8], Lg)) ((0, none, (126, 120, L, [Y, T, H2, H, RA, RB, ST, r, I0, I1, I2, BO, FI, RG, GU, PU, MA, MN, MS, OT, SC], [r0, r1, r2, r3, w, r5, r6, r7, r8], Lg)) : AOut) := by
  suffices key : ∀ o : AOut, ((0, none, (126, 120, L, [Y, T, H2, H, RA, RB, ST, r, I0, I1, I2, BO, FI, RG, GU, PU, MA, MN, MS, OT, SC], [r0, r1, r2, r3, w, r5, r6, r7, r8], Lg)) : AOut) = o → Ev (d + 1, 0, 0, 257, 0, [.val (.ref 512), .val (.ref 256)], [], (126, 120, L, [Y, T, H2, H, RA, RB, ST, NS, I0, I1, I2, BO, FI, RG, GU, PU, MA, MN, MS, OT, SC], [r0, r1, r2, r3, w, r5, r6, r7, r8], Lg)) o from key _ rfl
  intro o ho
  by_cases zc1 : ((0 : Int32) < 0 ∨ (0 : Int32) < 0 ∨ (10 : Int32) < 0 ∨ 10 < (0 : Int32).toNatClampNeg + (10 : Int32).toNatClampNeg ∨ 10 < (0 : Int32).toNatClampNeg + (10 : Int32).toNatClampNeg)
  · exact nos (itp h zc1)
  have h := itn h zc1
  suffices e : Ev (d + 1, 0, 0, 257, 15, [.val (.ref 512), .val (.ref 256)], [], (126, 120, L, [Y, T, H2, H, RA, RB, ST, (u1 NS 1 (a_cpy (H 5) (NS 1) (0 : Int32).toNatClampNeg (0 : Int32).toNatClampNeg (10 : Int32).toNatClampNeg)), I0, I1, I2, BO, FI, RG, GU, PU, MA, MN, MS, OT, SC], [r0, r1, r2, r3, w, r5, r6, r7, r8], Lg)) o from ev_d (c := ((0 : Int32) < 0 ∨ (0 : Int32) < 0 ∨ (10 : Int32) < 0 ∨ 10 < (0 : Int32).toNatClampNeg + (10 : Int32).toNatClampNeg ∨ 10 < (0 : Int32).toNatClampNeg + (10 : Int32).toNatClampNeg)) _ 8 zc1 e (fun n => Eq.refl _)
  by_cases zc2 : ((0 : Int32) < 0 ∨ (0 : Int32) < 0 ∨ (10 : Int32) < 0 ∨ 10 < (0 : Int32).toNatClampNeg + (10 : Int32).toNatClampNeg ∨ 10 < (0 : Int32).toNatClampNeg + (10 : Int32).toNatClampNeg)
  · exact nos (itp h zc2)
  have h := itn h zc2
  suffices e : Ev (d + 1, 0, 0, 257, 30, [.val (.ref 512), .val (.ref 256)], [], (126, 120, L, [Y, T, H2, H, RA, RB, ST, (u1 (u1 NS 1 (a_cpy (H 5) (NS 1) (0 : Int32).toNatClampNeg (0 : Int32).toNatClampNeg (10 : Int32).toNatClampNeg)) 2 (a_cpy (H 6) ((u1 NS 1 (a_cpy (H 5) (NS 1) (0 : Int32).toNatClampNeg (0 : Int32).toNatClampNeg (10 : Int32).toNatClampNeg)) 2) (0 : Int32).toNatClampNeg (0 : Int32).toNatClampNeg (10 : Int32).toNatClampNeg)), I0, I1, I2, BO, FI, RG, GU, PU, MA, MN, MS, OT, SC], [r0, r1, r2, r3, w, r5, r6, r7, r8], Lg)) o from ev_d (c := ((0 : Int32) < 0 ∨ (0 : Int32) < 0 ∨ (10 : Int32) < 0 ∨ 10 < (0 : Int32).toNatClampNeg + (10 : Int32).toNatClampNeg ∨ 10 < (0 : Int32).toNatClampNeg + (10 : Int32).toNatClampNeg)) _ 8 zc2 e (fun n => Eq.refl _)
  have ze3 := Option.some.inj h
  subst ze3
  exact ev_rete 11 ho (fun n => Eq.refl _)
set_option maxRecDepth 1000000 in
set_option maxHeartbeats 4000000 in
theorem R_f_Y_house_0 (d : Nat) (Y T H H2 RU RV ST NS I0 I1 I2 BO FI RG GU PU MA MN MS OT SC : Nat → Nat → Int32) (w r5 : Nat) (L : Nat) (Lg : Int64) (p1 : Int32) {r : Nat × Int32 × (Nat → Nat → Int32) × (Nat → Nat → Int32) × (Nat → Nat → Int32) × (Nat → Nat → Int32) × (Nat → Nat → Int32) × Nat × Nat × Nat} (h : f_Y_house Y T H2 RU NS 256 192 w p1 = some r) : Ev (d + 10, 1, 8, 284, 0, [.val (.ref 64), .val (.int p1), .val a_unk], [], (126, 120, L, [Y, T, H, H2, RU, RV, ST, NS, I0, I1, I2, BO, FI, RG, GU, PU, MA, MN, MS, OT, SC], [192, 256, 320, 384, w, r5, 576, 640, 704], Lg)) ((r.1, a_ov r.1 (.int r.2.1), (126, 120, L, [r.2.2.1, r.2.2.2.1, H, r.2.2.2.2.1, r.2.2.2.2.2.1, RV, ST, r.2.2.2.2.2.2.1, I0, I1, I2, BO, FI, RG, GU, PU, MA, MN, MS, OT, SC], [r.2.2.2.2.2.2.2.1, r.2.2.2.2.2.2.2.2.1, 320, 384, r.2.2.2.2.2.2.2.2.2, r5, 576, 640, 704], Lg)) : AOut) := by
  suffices key : ∀ o : AOut, ((r.1, a_ov r.1 (.int r.2.1), (126, 120, L, [r.2.2.1, r.2.2.2.1, H, r.2.2.2.2.1, r.2.2.2.2.2.1, RV, ST, r.2.2.2.2.2.2.1, I0, I1, I2, BO, FI, RG, GU, PU, MA, MN, MS, OT, SC], [r.2.2.2.2.2.2.2.1, r.2.2.2.2.2.2.2.2.1, 320, 384, r.2.2.2.2.2.2.2.2.2, r5, 576, 640, 704], Lg)) : AOut) = o → Ev (d + 10, 1, 8, 284, 0, [.val (.ref 64), .val (.int p1), .val a_unk], [], (126, 120, L, [Y, T, H, H2, RU, RV, ST, NS, I0, I1, I2, BO, FI, RG, GU, PU, MA, MN, MS, OT, SC], [192, 256, 320, 384, w, r5, 576, 640, 704], Lg)) o from key _ rfl
  intro o ho
  obtain ⟨zt1, zh2, h⟩ := bnd h
  have zj3 : ∀ (v1 : Int32), v1 = zt1 → Ev (d + 10, 1, 8, 284, 21, [.val (.ref 64), .val (.int p1), .val a_unk], [.int v1, .ref 64], (126, 120, L, [Y, T, H, H2, RU, RV, ST, NS, I0, I1, I2, BO, FI, RG, GU, PU, MA, MN, MS, OT, SC], [192, 256, 320, 384, w, r5, 576, 640, 704], Lg)) o := by
    intro v1 ze4
    subst ze4
    obtain ⟨⟨q2, Y_3⟩, zh5, h⟩ := bnd h
    have zh5 : f_Y_refuseUnless Y v1 = some (q2, Y_3) := zh5
    have ze6 := R_f_Y_refuseUnless_0 (d + 9) Y T H H2 RU RV ST NS I0 I1 I2 BO FI RG GU PU MA MN MS OT SC w r5 L Lg v1 zh5
    cases q2 with
    | zero =>
      have h := itp h rfl
      suffices e : Ev (d + 10, 0, 0, 284, 24, [.val (.ref 64), .val (.int p1), .val a_unk], [], (126, 120, L, [Y_3, T, H, H2, RU, RV, ST, NS, I0, I1, I2, BO, FI, RG, GU, PU, MA, MN, MS, OT, SC], [192, 256, 320, 384, w, r5, 576, 640, 704], Lg)) o from ev_call (fun v μ => (d + 10, 0, 0, 284, 24, [.val (.ref 64), .val (.int p1), .val a_unk], v.toList ++ [], μ)) 1 ze6 e (fun n => Eq.refl _)
      obtain ⟨⟨T_4, w5⟩, zh7, h⟩ := bnd h
      have zh7 : f_Tape_open T p1 = some (T_4, w5) := zh7
      have ze8 := R_f_Tape_open_0 (d + 3) Y_3 T H H2 RU RV ST NS I0 I1 I2 BO FI RG GU PU MA MN MS OT SC 192 256 320 384 w r5 576 640 704 L Lg p1 zh7
      suffices e : Ev (d + 10, 0, 0, 284, 32, [.val (.ref 64), .val (.int p1), .val a_unk], [], (126, 120, L, [Y_3, T_4, H, H2, RU, RV, ST, NS, I0, I1, I2, BO, FI, RG, GU, PU, MA, MN, MS, OT, SC], [192, 256, 320, 384, w5, r5, 576, 640, 704], Lg)) o from ev_call (fun v μ => (d + 10, 0, 0, 284, 32, [.val (.ref 64), .val (.int p1), .val a_unk], v.toList ++ [], μ)) 4 ze8 e (fun n => Eq.refl _)
      suffices e : Ev (d + 10, 0, 0, 284, 36, [.val (.ref 64), .val (.int p1), .val a_unk], [.ref 256], (126, 120, L, [Y_3, T_4, H, H2, RU, RV, ST, NS, I0, I1, I2, BO, FI, RG, GU, PU, MA, MN, MS, OT, SC], [192, 256, 320, 384, w5, r5, 576, 640, 704], Lg)) o from ev_b 2 e (fun n => Eq.refl _)
      obtain ⟨⟨T_6, H2_7, w8⟩, zh9, h⟩ := bnd h
      have zh9 : f_House_read T_4 H2 w5 = some (T_6, H2_7, w8) := zh9
      have ze10 := R_f_House_read_0 (d + 0) Y_3 T_4 H H2 RU RV ST NS I0 I1 I2 BO FI RG GU PU MA MN MS OT SC 192 256 320 384 w5 r5 576 640 704 L Lg zh9
      suffices e : Ev (d + 10, 0, 0, 284, 43, [.val (.ref 64), .val (.int p1), .val a_unk], [], (126, 120, L, [Y_3, T_6, H, H2_7, RU, RV, ST, NS, I0, I1, I2, BO, FI, RG, GU, PU, MA, MN, MS, OT, SC], [192, 256, 320, 384, w8, r5, 576, 640, 704], Lg)) o from ev_call (fun v μ => (d + 10, 0, 0, 284, 43, [.val (.ref 64), .val (.int p1), .val a_unk], v.toList ++ [], μ)) 3 ze10 e (fun n => Eq.refl _)
      obtain ⟨T_9, zh11, h⟩ := bnd h
      have zh11 : f_Tape_empty T_6 = some T_9 := zh11
      have ze12 := R_f_Tape_empty_0 (d + 9) Y_3 T_6 H H2_7 RU RV ST NS I0 I1 I2 BO FI RG GU PU MA MN MS OT SC 192 256 320 384 w8 r5 576 640 704 L Lg zh11
      suffices e : Ev (d + 10, 0, 0, 284, 50, [.val (.ref 64), .val (.int p1), .val a_unk], [], (126, 120, L, [Y_3, T_9, H, H2_7, RU, RV, ST, NS, I0, I1, I2, BO, FI, RG, GU, PU, MA, MN, MS, OT, SC], [192, 256, 320, 384, w8, r5, 576, 640, 704], Lg)) o from ev_call (fun v μ => (d + 10, 0, 0, 284, 50, [.val (.ref 64), .val (.int p1), .val a_unk], v.toList ++ [], μ)) 3 ze12 e (fun n => Eq.refl _)
      obtain ⟨x10, zh13, h⟩ := bnd h
      have zh13 : f_Tape_failed T_9 = some x10 := zh13
      have ze14 := R_f_Tape_failed_0 (d + 9) Y_3 T_9 H H2_7 RU RV ST NS I0 I1 I2 BO FI RG GU PU MA MN MS OT SC 192 256 320 384 w8 r5 576 640 704 L Lg zh13
      suffices e : Ev (d + 10, 0, 0, 284, 57, [.val (.ref 64), .val (.int p1), .val a_unk], [.int x10], (126, 120, L, [Y_3, T_9, H, H2_7, RU, RV, ST, NS, I0, I1, I2, BO, FI, RG, GU, PU, MA, MN, MS, OT, SC], [192, 256, 320, 384, w8, r5, 576, 640, 704], Lg)) o from ev_call (fun v μ => (d + 10, 0, 0, 284, 57, [.val (.ref 64), .val (.int p1), .val a_unk], v.toList ++ [], μ)) 3 ze14 e (fun n => Eq.refl _)
      by_cases zc15 : x10 = 0
      · have h := itp h zc15
        suffices e : Ev (d + 10, 0, 0, 284, 71, [.val (.ref 64), .val (.int p1), .val a_unk], [], (126, 120, L, [Y_3, T_9, H, H2_7, RU, RV, ST, NS, I0, I1, I2, BO, FI, RG, GU, PU, MA, MN, MS, OT, SC], [192, 256, 320, 384, w8, r5, 576, 640, 704], Lg)) o from ev_t (c := x10 = 0) _ _ 1  zc15 e (fun n => Eq.refl _)
        suffices e : Ev (d + 10, 0, 0, 284, 75, [.val (.ref 64), .val (.int p1), .val a_unk], [.ref 192], (126, 120, L, [Y_3, T_9, H, H2_7, RU, RV, ST, NS, I0, I1, I2, BO, FI, RG, GU, PU, MA, MN, MS, OT, SC], [192, 256, 320, 384, w8, r5, 576, 640, 704], Lg)) o from ev_b 2 e (fun n => Eq.refl _)
        suffices e : Ev (d + 10, 0, 0, 284, 81, [.val (.ref 64), .val (.int p1), .val (.ref 192)], [.ref 256, .ref 64], (126, 120, L, [Y_3, T_9, H, H2_7, RU, RV, ST, NS, I0, I1, I2, BO, FI, RG, GU, PU, MA, MN, MS, OT, SC], [192, 256, 320, 384, w8, r5, 576, 640, 704], Lg)) o from ev_b 4 e (fun n => Eq.refl _)
        suffices e : Ev (d + 10, 0, 0, 284, 93, [.val (.ref 64), .val (.int p1), .val (.ref 192)], [.ref 320], (126, 120, L, [Y_3, T_9, H, H2_7, RU, RV, ST, NS, I0, I1, I2, BO, FI, RG, GU, PU, MA, MN, MS, OT, SC], [256, 192, 320, 384, w8, r5, 576, 640, 704], Lg)) o from ev_b 6 e (fun n => Eq.refl _)
        obtain ⟨RU_11, zh16, h⟩ := bnd h
        have zh16 : f_Rule_forget RU = some RU_11 := zh16
        have ze17 := R_f_Rule_forget_0 (d + 9) Y_3 T_9 H H2_7 RU RV ST NS I0 I1 I2 BO FI RG GU PU MA MN MS OT SC 256 192 320 384 w8 r5 576 640 704 L Lg zh16
        suffices e : Ev (d + 10, 0, 0, 284, 96, [.val (.ref 64), .val (.int p1), .val (.ref 192)], [], (126, 120, L, [Y_3, T_9, H, H2_7, RU_11, RV, ST, NS, I0, I1, I2, BO, FI, RG, GU, PU, MA, MN, MS, OT, SC], [256, 192, 320, 384, w8, r5, 576, 640, 704], Lg)) o from ev_call (fun v μ => (d + 10, 0, 0, 284, 96, [.val (.ref 64), .val (.int p1), .val (.ref 192)], v.toList ++ [], μ)) 1 ze17 e (fun n => Eq.refl _)
        suffices e : Ev (d + 10, 0, 0, 284, 109, [.val (.ref 64), .val (.int p1), .val (.ref 192)], [.ref 256, .ref 512], (126, 120, L, [(u2 Y_3 0 3 0), T_9, H, H2_7, RU_11, RV, ST, NS, I0, I1, I2, BO, FI, RG, GU, PU, MA, MN, MS, OT, SC], [256, 192, 320, 384, w8, r5, 576, 640, 704], Lg)) o from ev_b 7 e (fun n => Eq.refl _)
        obtain ⟨NS_12, zh18, h⟩ := bnd h
        have zh18 : f_State_start H2_7 NS = some NS_12 := zh18
        have ze19 := R_f_State_start_0 (d + 8) (u2 Y_3 0 3 0) T_9 H H2_7 RU_11 RV ST NS I0 I1 I2 BO FI RG GU PU MA MN MS OT SC 256 192 320 384 w8 r5 576 640 704 L Lg zh18
        suffices e : Ev (d + 10, 0, 0, 284, 112, [.val (.ref 64), .val (.int p1), .val (.ref 192)], [], (126, 120, L, [(u2 Y_3 0 3 0), T_9, H, H2_7, RU_11, RV, ST, NS_12, I0, I1, I2, BO, FI, RG, GU, PU, MA, MN, MS, OT, SC], [256, 192, 320, 384, w8, r5, 576, 640, 704], Lg)) o from ev_call (fun v μ => (d + 10, 0, 0, 284, 112, [.val (.ref 64), .val (.int p1), .val (.ref 192)], v.toList ++ [], μ)) 1 ze19 e (fun n => Eq.refl _)
        suffices e : Ev (d + 10, 0, 0, 284, 116, [.val (.ref 64), .val (.int p1), .val (.ref 192)], [.ref 256], (126, 120, L, [(u2 Y_3 0 3 0), T_9, H, H2_7, RU_11, RV, ST, NS_12, I0, I1, I2, BO, FI, RG, GU, PU, MA, MN, MS, OT, SC], [256, 192, 320, 384, w8, r5, 576, 640, 704], Lg)) o from ev_b 2 e (fun n => Eq.refl _)
        have ze20 := Option.some.inj h
        subst ze20
        exact ev_rete 2 ho (fun n => Eq.refl _)
      · have h := itn h zc15
        suffices e : Ev (d + 10, 0, 0, 284, 60, [.val (.ref 64), .val (.int p1), .val a_unk], [], (126, 120, L, [Y_3, T_9, H, H2_7, RU, RV, ST, NS, I0, I1, I2, BO, FI, RG, GU, PU, MA, MN, MS, OT, SC], [192, 256, 320, 384, w8, r5, 576, 640, 704], Lg)) o from ev_f (c := x10 = 0) _ _ 1  zc15 e (fun n => Eq.refl _)
        have ze21 := Option.some.inj h
        subst ze21
        exact ev_rete 6 ho (fun n => Eq.refl _)
    | succ q2 =>
      have h := itn h (Nat.succ_ne_zero q2)
      have ze22 := Option.some.inj h
      subst ze22
      subst ho
      exact ev_thr (fun v μ => (d + 10, 0, 0, 284, 24, [.val (.ref 64), .val (.int p1), .val a_unk], v.toList ++ [], μ)) 1 ze6 (fun n => Eq.refl _) (fun n => rfl)
  obtain ⟨zt23, zh24, zh2⟩ := bnd zh2
  have zj25 : zt23 = .inl () → Ev (d + 10, 1, 8, 284, 20, [.val (.ref 64), .val (.int p1), .val a_unk], [.ref 64], (126, 120, L, [Y, T, H, H2, RU, RV, ST, NS, I0, I1, I2, BO, FI, RG, GU, PU, MA, MN, MS, OT, SC], [192, 256, 320, 384, w, r5, 576, 640, 704], Lg)) o := by
    intro ze26
    have zh2 := sum_l zh2 ze26
    exact ev_b 1 (zj3 0 (Option.some.inj zh2) ) (fun n => Eq.refl _)
  by_cases zc27 : p1 < 0
  · have zh24 := itp zh24 zc27
    suffices e : Ev (d + 10, 1, 8, 284, 20, [.val (.ref 64), .val (.int p1), .val a_unk], [.ref 64], (126, 120, L, [Y, T, H, H2, RU, RV, ST, NS, I0, I1, I2, BO, FI, RG, GU, PU, MA, MN, MS, OT, SC], [192, 256, 320, 384, w, r5, 576, 640, 704], Lg)) o from ev_t (c := p1 < 0) _ _ 3  zc27 e (fun n => Eq.refl _)
    exact ev_b 0 (zj25  (Option.some.inj zh24).symm ) (fun n => Eq.refl _)
  · have zh24 := itn zh24 zc27
    suffices e : Ev (d + 10, 1, 8, 284, 5, [.val (.ref 64), .val (.int p1), .val a_unk], [.ref 64], (126, 120, L, [Y, T, H, H2, RU, RV, ST, NS, I0, I1, I2, BO, FI, RG, GU, PU, MA, MN, MS, OT, SC], [192, 256, 320, 384, w, r5, 576, 640, 704], Lg)) o from ev_f (c := p1 < 0) _ _ 3  zc27 e (fun n => Eq.refl _)
    by_cases zc28 : (T 0 1) < p1
    · have zh24 := itp zh24 zc28
      suffices e : Ev (d + 10, 1, 8, 284, 20, [.val (.ref 64), .val (.int p1), .val a_unk], [.ref 64], (126, 120, L, [Y, T, H, H2, RU, RV, ST, NS, I0, I1, I2, BO, FI, RG, GU, PU, MA, MN, MS, OT, SC], [192, 256, 320, 384, w, r5, 576, 640, 704], Lg)) o from ev_t (c := (T 0 1) < p1) _ _ 5  zc28 e (fun n => Eq.refl _)
      exact ev_b 0 (zj25  (Option.some.inj zh24).symm ) (fun n => Eq.refl _)
    · have zh24 := itn zh24 zc28
      suffices e : Ev (d + 10, 1, 8, 284, 16, [.val (.ref 64), .val (.int p1), .val a_unk], [.ref 64], (126, 120, L, [Y, T, H, H2, RU, RV, ST, NS, I0, I1, I2, BO, FI, RG, GU, PU, MA, MN, MS, OT, SC], [192, 256, 320, 384, w, r5, 576, 640, 704], Lg)) o from ev_f (c := (T 0 1) < p1) _ _ 5  zc28 e (fun n => Eq.refl _)
      have zh29 := sum_r zh2 (Option.some.inj zh24).symm
      exact ev_b 2 (zj3 1 (Option.some.inj zh29) ) (fun n => Eq.refl _)
set_option maxRecDepth 1000000 in
set_option maxHeartbeats 4000000 in
theorem R_f_Y_refuseUnless_1 (d : Nat) (Y T H H2 RV RU ST NS I0 I1 I2 BO FI RG GU PU MA MN MS OT SC : Nat → Nat → Int32) (w r5 : Nat) (L : Nat) (Lg : Int64) (p1 : Int32) {r : Nat × (Nat → Nat → Int32)} (h : f_Y_refuseUnless Y p1 = some r) : Ev (d + 0, 1, 8, 333, 0, [.val (.ref 64), .val (.int p1)], [], (126, 120, L, [Y, T, H, H2, RV, RU, ST, NS, I0, I1, I2, BO, FI, RG, GU, PU, MA, MN, MS, OT, SC], [192, 256, 384, 320, w, r5, 576, 640, 704], Lg)) ((r.1, none, (126, 120, L, [r.2, T, H, H2, RV, RU, ST, NS, I0, I1, I2, BO, FI, RG, GU, PU, MA, MN, MS, OT, SC], [192, 256, 384, 320, w, r5, 576, 640, 704], Lg)) : AOut) := by
  suffices key : ∀ o : AOut, ((r.1, none, (126, 120, L, [r.2, T, H, H2, RV, RU, ST, NS, I0, I1, I2, BO, FI, RG, GU, PU, MA, MN, MS, OT, SC], [192, 256, 384, 320, w, r5, 576, 640, 704], Lg)) : AOut) = o → Ev (d + 0, 1, 8, 333, 0, [.val (.ref 64), .val (.int p1)], [], (126, 120, L, [Y, T, H, H2, RV, RU, ST, NS, I0, I1, I2, BO, FI, RG, GU, PU, MA, MN, MS, OT, SC], [192, 256, 384, 320, w, r5, 576, 640, 704], Lg)) o from key _ rfl
  intro o ho
  by_cases zc1 : p1 ≠ 0
  · have h := itp h zc1
    suffices e : Ev (d + 0, 1, 8, 333, 22, [.val (.ref 64), .val (.int p1)], [], (126, 120, L, [Y, T, H, H2, RV, RU, ST, NS, I0, I1, I2, BO, FI, RG, GU, PU, MA, MN, MS, OT, SC], [192, 256, 384, 320, w, r5, 576, 640, 704], Lg)) o from ev_t (c := p1 ≠ 0) _ _ 2  zc1 e (fun n => Eq.refl _)
    have ze2 := Option.some.inj h
    subst ze2
    exact ev_rete 1 ho (fun n => Eq.refl _)
  · have h := itn h zc1
    suffices e : Ev (d + 0, 1, 8, 333, 4, [.val (.ref 64), .val (.int p1)], [], (126, 120, L, [Y, T, H, H2, RV, RU, ST, NS, I0, I1, I2, BO, FI, RG, GU, PU, MA, MN, MS, OT, SC], [192, 256, 384, 320, w, r5, 576, 640, 704], Lg)) o from ev_f (c := p1 ≠ 0) _ _ 2  zc1 e (fun n => Eq.refl _)
    have ze3 := Option.some.inj h
    subst ze3
    exact ev_rete 7 ho (fun n => Eq.refl _)
set_option maxRecDepth 1000000 in
set_option maxHeartbeats 4000000 in
theorem R_f_Rule_forget_1 (d : Nat) (Y T HA HB RV RU ST NS I0 I1 I2 BO FI RG GU PU MA MN MS OT SC : Nat → Nat → Int32) (r0 r1 r2 r3 w r5 r6 r7 r8 : Nat) (L : Nat) (Lg : Int64) {r : (Nat → Nat → Int32)} (h : f_Rule_forget RU = some r) : Ev (d + 0, 0, 0, 240, 0, [.val (.ref 384)], [], (126, 120, L, [Y, T, HA, HB, RV, RU, ST, NS, I0, I1, I2, BO, FI, RG, GU, PU, MA, MN, MS, OT, SC], [r0, r1, r2, r3, w, r5, r6, r7, r8], Lg)) ((0, none, (126, 120, L, [Y, T, HA, HB, RV, r, ST, NS, I0, I1, I2, BO, FI, RG, GU, PU, MA, MN, MS, OT, SC], [r0, r1, r2, r3, w, r5, r6, r7, r8], Lg)) : AOut) := by
  suffices key : ∀ o : AOut, ((0, none, (126, 120, L, [Y, T, HA, HB, RV, r, ST, NS, I0, I1, I2, BO, FI, RG, GU, PU, MA, MN, MS, OT, SC], [r0, r1, r2, r3, w, r5, r6, r7, r8], Lg)) : AOut) = o → Ev (d + 0, 0, 0, 240, 0, [.val (.ref 384)], [], (126, 120, L, [Y, T, HA, HB, RV, RU, ST, NS, I0, I1, I2, BO, FI, RG, GU, PU, MA, MN, MS, OT, SC], [r0, r1, r2, r3, w, r5, r6, r7, r8], Lg)) o from key _ rfl
  intro o ho
  have ze1 := Option.some.inj h
  subst ze1
  exact ev_rete 4 ho (fun n => Eq.refl _)
set_option maxRecDepth 1000000 in
set_option maxHeartbeats 4000000 in
theorem R_f_Y_house_1 (d : Nat) (Y T H H2 RV RU ST NS I0 I1 I2 BO FI RG GU PU MA MN MS OT SC : Nat → Nat → Int32) (w r5 : Nat) (L : Nat) (Lg : Int64) (p1 : Int32) {r : Nat × Int32 × (Nat → Nat → Int32) × (Nat → Nat → Int32) × (Nat → Nat → Int32) × (Nat → Nat → Int32) × (Nat → Nat → Int32) × Nat × Nat × Nat} (h : f_Y_house Y T H2 RU NS 256 192 w p1 = some r) : Ev (d + 10, 1, 8, 284, 0, [.val (.ref 64), .val (.int p1), .val a_unk], [], (126, 120, L, [Y, T, H, H2, RV, RU, ST, NS, I0, I1, I2, BO, FI, RG, GU, PU, MA, MN, MS, OT, SC], [192, 256, 384, 320, w, r5, 576, 640, 704], Lg)) ((r.1, a_ov r.1 (.int r.2.1), (126, 120, L, [r.2.2.1, r.2.2.2.1, H, r.2.2.2.2.1, RV, r.2.2.2.2.2.1, ST, r.2.2.2.2.2.2.1, I0, I1, I2, BO, FI, RG, GU, PU, MA, MN, MS, OT, SC], [r.2.2.2.2.2.2.2.1, r.2.2.2.2.2.2.2.2.1, 384, 320, r.2.2.2.2.2.2.2.2.2, r5, 576, 640, 704], Lg)) : AOut) := by
  suffices key : ∀ o : AOut, ((r.1, a_ov r.1 (.int r.2.1), (126, 120, L, [r.2.2.1, r.2.2.2.1, H, r.2.2.2.2.1, RV, r.2.2.2.2.2.1, ST, r.2.2.2.2.2.2.1, I0, I1, I2, BO, FI, RG, GU, PU, MA, MN, MS, OT, SC], [r.2.2.2.2.2.2.2.1, r.2.2.2.2.2.2.2.2.1, 384, 320, r.2.2.2.2.2.2.2.2.2, r5, 576, 640, 704], Lg)) : AOut) = o → Ev (d + 10, 1, 8, 284, 0, [.val (.ref 64), .val (.int p1), .val a_unk], [], (126, 120, L, [Y, T, H, H2, RV, RU, ST, NS, I0, I1, I2, BO, FI, RG, GU, PU, MA, MN, MS, OT, SC], [192, 256, 384, 320, w, r5, 576, 640, 704], Lg)) o from key _ rfl
  intro o ho
  obtain ⟨zt1, zh2, h⟩ := bnd h
  have zj3 : ∀ (v1 : Int32), v1 = zt1 → Ev (d + 10, 1, 8, 284, 21, [.val (.ref 64), .val (.int p1), .val a_unk], [.int v1, .ref 64], (126, 120, L, [Y, T, H, H2, RV, RU, ST, NS, I0, I1, I2, BO, FI, RG, GU, PU, MA, MN, MS, OT, SC], [192, 256, 384, 320, w, r5, 576, 640, 704], Lg)) o := by
    intro v1 ze4
    subst ze4
    obtain ⟨⟨q2, Y_3⟩, zh5, h⟩ := bnd h
    have zh5 : f_Y_refuseUnless Y v1 = some (q2, Y_3) := zh5
    have ze6 := R_f_Y_refuseUnless_1 (d + 9) Y T H H2 RV RU ST NS I0 I1 I2 BO FI RG GU PU MA MN MS OT SC w r5 L Lg v1 zh5
    cases q2 with
    | zero =>
      have h := itp h rfl
      suffices e : Ev (d + 10, 0, 0, 284, 24, [.val (.ref 64), .val (.int p1), .val a_unk], [], (126, 120, L, [Y_3, T, H, H2, RV, RU, ST, NS, I0, I1, I2, BO, FI, RG, GU, PU, MA, MN, MS, OT, SC], [192, 256, 384, 320, w, r5, 576, 640, 704], Lg)) o from ev_call (fun v μ => (d + 10, 0, 0, 284, 24, [.val (.ref 64), .val (.int p1), .val a_unk], v.toList ++ [], μ)) 1 ze6 e (fun n => Eq.refl _)
      obtain ⟨⟨T_4, w5⟩, zh7, h⟩ := bnd h
      have zh7 : f_Tape_open T p1 = some (T_4, w5) := zh7
      have ze8 := R_f_Tape_open_0 (d + 3) Y_3 T H H2 RV RU ST NS I0 I1 I2 BO FI RG GU PU MA MN MS OT SC 192 256 384 320 w r5 576 640 704 L Lg p1 zh7
      suffices e : Ev (d + 10, 0, 0, 284, 32, [.val (.ref 64), .val (.int p1), .val a_unk], [], (126, 120, L, [Y_3, T_4, H, H2, RV, RU, ST, NS, I0, I1, I2, BO, FI, RG, GU, PU, MA, MN, MS, OT, SC], [192, 256, 384, 320, w5, r5, 576, 640, 704], Lg)) o from ev_call (fun v μ => (d + 10, 0, 0, 284, 32, [.val (.ref 64), .val (.int p1), .val a_unk], v.toList ++ [], μ)) 4 ze8 e (fun n => Eq.refl _)
      suffices e : Ev (d + 10, 0, 0, 284, 36, [.val (.ref 64), .val (.int p1), .val a_unk], [.ref 256], (126, 120, L, [Y_3, T_4, H, H2, RV, RU, ST, NS, I0, I1, I2, BO, FI, RG, GU, PU, MA, MN, MS, OT, SC], [192, 256, 384, 320, w5, r5, 576, 640, 704], Lg)) o from ev_b 2 e (fun n => Eq.refl _)
      obtain ⟨⟨T_6, H2_7, w8⟩, zh9, h⟩ := bnd h
      have zh9 : f_House_read T_4 H2 w5 = some (T_6, H2_7, w8) := zh9
      have ze10 := R_f_House_read_0 (d + 0) Y_3 T_4 H H2 RV RU ST NS I0 I1 I2 BO FI RG GU PU MA MN MS OT SC 192 256 384 320 w5 r5 576 640 704 L Lg zh9
      suffices e : Ev (d + 10, 0, 0, 284, 43, [.val (.ref 64), .val (.int p1), .val a_unk], [], (126, 120, L, [Y_3, T_6, H, H2_7, RV, RU, ST, NS, I0, I1, I2, BO, FI, RG, GU, PU, MA, MN, MS, OT, SC], [192, 256, 384, 320, w8, r5, 576, 640, 704], Lg)) o from ev_call (fun v μ => (d + 10, 0, 0, 284, 43, [.val (.ref 64), .val (.int p1), .val a_unk], v.toList ++ [], μ)) 3 ze10 e (fun n => Eq.refl _)
      obtain ⟨T_9, zh11, h⟩ := bnd h
      have zh11 : f_Tape_empty T_6 = some T_9 := zh11
      have ze12 := R_f_Tape_empty_0 (d + 9) Y_3 T_6 H H2_7 RV RU ST NS I0 I1 I2 BO FI RG GU PU MA MN MS OT SC 192 256 384 320 w8 r5 576 640 704 L Lg zh11
      suffices e : Ev (d + 10, 0, 0, 284, 50, [.val (.ref 64), .val (.int p1), .val a_unk], [], (126, 120, L, [Y_3, T_9, H, H2_7, RV, RU, ST, NS, I0, I1, I2, BO, FI, RG, GU, PU, MA, MN, MS, OT, SC], [192, 256, 384, 320, w8, r5, 576, 640, 704], Lg)) o from ev_call (fun v μ => (d + 10, 0, 0, 284, 50, [.val (.ref 64), .val (.int p1), .val a_unk], v.toList ++ [], μ)) 3 ze12 e (fun n => Eq.refl _)
      obtain ⟨x10, zh13, h⟩ := bnd h
      have zh13 : f_Tape_failed T_9 = some x10 := zh13
      have ze14 := R_f_Tape_failed_0 (d + 9) Y_3 T_9 H H2_7 RV RU ST NS I0 I1 I2 BO FI RG GU PU MA MN MS OT SC 192 256 384 320 w8 r5 576 640 704 L Lg zh13
      suffices e : Ev (d + 10, 0, 0, 284, 57, [.val (.ref 64), .val (.int p1), .val a_unk], [.int x10], (126, 120, L, [Y_3, T_9, H, H2_7, RV, RU, ST, NS, I0, I1, I2, BO, FI, RG, GU, PU, MA, MN, MS, OT, SC], [192, 256, 384, 320, w8, r5, 576, 640, 704], Lg)) o from ev_call (fun v μ => (d + 10, 0, 0, 284, 57, [.val (.ref 64), .val (.int p1), .val a_unk], v.toList ++ [], μ)) 3 ze14 e (fun n => Eq.refl _)
      by_cases zc15 : x10 = 0
      · have h := itp h zc15
        suffices e : Ev (d + 10, 0, 0, 284, 71, [.val (.ref 64), .val (.int p1), .val a_unk], [], (126, 120, L, [Y_3, T_9, H, H2_7, RV, RU, ST, NS, I0, I1, I2, BO, FI, RG, GU, PU, MA, MN, MS, OT, SC], [192, 256, 384, 320, w8, r5, 576, 640, 704], Lg)) o from ev_t (c := x10 = 0) _ _ 1  zc15 e (fun n => Eq.refl _)
        suffices e : Ev (d + 10, 0, 0, 284, 75, [.val (.ref 64), .val (.int p1), .val a_unk], [.ref 192], (126, 120, L, [Y_3, T_9, H, H2_7, RV, RU, ST, NS, I0, I1, I2, BO, FI, RG, GU, PU, MA, MN, MS, OT, SC], [192, 256, 384, 320, w8, r5, 576, 640, 704], Lg)) o from ev_b 2 e (fun n => Eq.refl _)
        suffices e : Ev (d + 10, 0, 0, 284, 81, [.val (.ref 64), .val (.int p1), .val (.ref 192)], [.ref 256, .ref 64], (126, 120, L, [Y_3, T_9, H, H2_7, RV, RU, ST, NS, I0, I1, I2, BO, FI, RG, GU, PU, MA, MN, MS, OT, SC], [192, 256, 384, 320, w8, r5, 576, 640, 704], Lg)) o from ev_b 4 e (fun n => Eq.refl _)
        suffices e : Ev (d + 10, 0, 0, 284, 93, [.val (.ref 64), .val (.int p1), .val (.ref 192)], [.ref 384], (126, 120, L, [Y_3, T_9, H, H2_7, RV, RU, ST, NS, I0, I1, I2, BO, FI, RG, GU, PU, MA, MN, MS, OT, SC], [256, 192, 384, 320, w8, r5, 576, 640, 704], Lg)) o from ev_b 6 e (fun n => Eq.refl _)
        obtain ⟨RU_11, zh16, h⟩ := bnd h
        have zh16 : f_Rule_forget RU = some RU_11 := zh16
        have ze17 := R_f_Rule_forget_1 (d + 9) Y_3 T_9 H H2_7 RV RU ST NS I0 I1 I2 BO FI RG GU PU MA MN MS OT SC 256 192 384 320 w8 r5 576 640 704 L Lg zh16
        suffices e : Ev (d + 10, 0, 0, 284, 96, [.val (.ref 64), .val (.int p1), .val (.ref 192)], [], (126, 120, L, [Y_3, T_9, H, H2_7, RV, RU_11, ST, NS, I0, I1, I2, BO, FI, RG, GU, PU, MA, MN, MS, OT, SC], [256, 192, 384, 320, w8, r5, 576, 640, 704], Lg)) o from ev_call (fun v μ => (d + 10, 0, 0, 284, 96, [.val (.ref 64), .val (.int p1), .val (.ref 192)], v.toList ++ [], μ)) 1 ze17 e (fun n => Eq.refl _)
        suffices e : Ev (d + 10, 0, 0, 284, 109, [.val (.ref 64), .val (.int p1), .val (.ref 192)], [.ref 256, .ref 512], (126, 120, L, [(u2 Y_3 0 3 0), T_9, H, H2_7, RV, RU_11, ST, NS, I0, I1, I2, BO, FI, RG, GU, PU, MA, MN, MS, OT, SC], [256, 192, 384, 320, w8, r5, 576, 640, 704], Lg)) o from ev_b 7 e (fun n => Eq.refl _)
        obtain ⟨NS_12, zh18, h⟩ := bnd h
        have zh18 : f_State_start H2_7 NS = some NS_12 := zh18
        have ze19 := R_f_State_start_0 (d + 8) (u2 Y_3 0 3 0) T_9 H H2_7 RV RU_11 ST NS I0 I1 I2 BO FI RG GU PU MA MN MS OT SC 256 192 384 320 w8 r5 576 640 704 L Lg zh18
        suffices e : Ev (d + 10, 0, 0, 284, 112, [.val (.ref 64), .val (.int p1), .val (.ref 192)], [], (126, 120, L, [(u2 Y_3 0 3 0), T_9, H, H2_7, RV, RU_11, ST, NS_12, I0, I1, I2, BO, FI, RG, GU, PU, MA, MN, MS, OT, SC], [256, 192, 384, 320, w8, r5, 576, 640, 704], Lg)) o from ev_call (fun v μ => (d + 10, 0, 0, 284, 112, [.val (.ref 64), .val (.int p1), .val (.ref 192)], v.toList ++ [], μ)) 1 ze19 e (fun n => Eq.refl _)
        suffices e : Ev (d + 10, 0, 0, 284, 116, [.val (.ref 64), .val (.int p1), .val (.ref 192)], [.ref 256], (126, 120, L, [(u2 Y_3 0 3 0), T_9, H, H2_7, RV, RU_11, ST, NS_12, I0, I1, I2, BO, FI, RG, GU, PU, MA, MN, MS, OT, SC], [256, 192, 384, 320, w8, r5, 576, 640, 704], Lg)) o from ev_b 2 e (fun n => Eq.refl _)
        have ze20 := Option.some.inj h
        subst ze20
        exact ev_rete 2 ho (fun n => Eq.refl _)
      · have h := itn h zc15
        suffices e : Ev (d + 10, 0, 0, 284, 60, [.val (.ref 64), .val (.int p1), .val a_unk], [], (126, 120, L, [Y_3, T_9, H, H2_7, RV, RU, ST, NS, I0, I1, I2, BO, FI, RG, GU, PU, MA, MN, MS, OT, SC], [192, 256, 384, 320, w8, r5, 576, 640, 704], Lg)) o from ev_f (c := x10 = 0) _ _ 1  zc15 e (fun n => Eq.refl _)
        have ze21 := Option.some.inj h
        subst ze21
        exact ev_rete 6 ho (fun n => Eq.refl _)
    | succ q2 =>
      have h := itn h (Nat.succ_ne_zero q2)
      have ze22 := Option.some.inj h
      subst ze22
      subst ho
      exact ev_thr (fun v μ => (d + 10, 0, 0, 284, 24, [.val (.ref 64), .val (.int p1), .val a_unk], v.toList ++ [], μ)) 1 ze6 (fun n => Eq.refl _) (fun n => rfl)
  obtain ⟨zt23, zh24, zh2⟩ := bnd zh2
  have zj25 : zt23 = .inl () → Ev (d + 10, 1, 8, 284, 20, [.val (.ref 64), .val (.int p1), .val a_unk], [.ref 64], (126, 120, L, [Y, T, H, H2, RV, RU, ST, NS, I0, I1, I2, BO, FI, RG, GU, PU, MA, MN, MS, OT, SC], [192, 256, 384, 320, w, r5, 576, 640, 704], Lg)) o := by
    intro ze26
    have zh2 := sum_l zh2 ze26
    exact ev_b 1 (zj3 0 (Option.some.inj zh2) ) (fun n => Eq.refl _)
  by_cases zc27 : p1 < 0
  · have zh24 := itp zh24 zc27
    suffices e : Ev (d + 10, 1, 8, 284, 20, [.val (.ref 64), .val (.int p1), .val a_unk], [.ref 64], (126, 120, L, [Y, T, H, H2, RV, RU, ST, NS, I0, I1, I2, BO, FI, RG, GU, PU, MA, MN, MS, OT, SC], [192, 256, 384, 320, w, r5, 576, 640, 704], Lg)) o from ev_t (c := p1 < 0) _ _ 3  zc27 e (fun n => Eq.refl _)
    exact ev_b 0 (zj25  (Option.some.inj zh24).symm ) (fun n => Eq.refl _)
  · have zh24 := itn zh24 zc27
    suffices e : Ev (d + 10, 1, 8, 284, 5, [.val (.ref 64), .val (.int p1), .val a_unk], [.ref 64], (126, 120, L, [Y, T, H, H2, RV, RU, ST, NS, I0, I1, I2, BO, FI, RG, GU, PU, MA, MN, MS, OT, SC], [192, 256, 384, 320, w, r5, 576, 640, 704], Lg)) o from ev_f (c := p1 < 0) _ _ 3  zc27 e (fun n => Eq.refl _)
    by_cases zc28 : (T 0 1) < p1
    · have zh24 := itp zh24 zc28
      suffices e : Ev (d + 10, 1, 8, 284, 20, [.val (.ref 64), .val (.int p1), .val a_unk], [.ref 64], (126, 120, L, [Y, T, H, H2, RV, RU, ST, NS, I0, I1, I2, BO, FI, RG, GU, PU, MA, MN, MS, OT, SC], [192, 256, 384, 320, w, r5, 576, 640, 704], Lg)) o from ev_t (c := (T 0 1) < p1) _ _ 5  zc28 e (fun n => Eq.refl _)
      exact ev_b 0 (zj25  (Option.some.inj zh24).symm ) (fun n => Eq.refl _)
    · have zh24 := itn zh24 zc28
      suffices e : Ev (d + 10, 1, 8, 284, 16, [.val (.ref 64), .val (.int p1), .val a_unk], [.ref 64], (126, 120, L, [Y, T, H, H2, RV, RU, ST, NS, I0, I1, I2, BO, FI, RG, GU, PU, MA, MN, MS, OT, SC], [192, 256, 384, 320, w, r5, 576, 640, 704], Lg)) o from ev_f (c := (T 0 1) < p1) _ _ 5  zc28 e (fun n => Eq.refl _)
      have zh29 := sum_r zh2 (Option.some.inj zh24).symm
      exact ev_b 2 (zj3 1 (Option.some.inj zh29) ) (fun n => Eq.refl _)
set_option maxRecDepth 1000000 in
set_option maxHeartbeats 4000000 in
theorem R_f_Y_refuseUnless_2 (d : Nat) (Y T H2 H RU RV ST NS I0 I1 I2 BO FI RG GU PU MA MN MS OT SC : Nat → Nat → Int32) (w r5 : Nat) (L : Nat) (Lg : Int64) (p1 : Int32) {r : Nat × (Nat → Nat → Int32)} (h : f_Y_refuseUnless Y p1 = some r) : Ev (d + 0, 1, 8, 333, 0, [.val (.ref 64), .val (.int p1)], [], (126, 120, L, [Y, T, H2, H, RU, RV, ST, NS, I0, I1, I2, BO, FI, RG, GU, PU, MA, MN, MS, OT, SC], [256, 192, 320, 384, w, r5, 576, 640, 704], Lg)) ((r.1, none, (126, 120, L, [r.2, T, H2, H, RU, RV, ST, NS, I0, I1, I2, BO, FI, RG, GU, PU, MA, MN, MS, OT, SC], [256, 192, 320, 384, w, r5, 576, 640, 704], Lg)) : AOut) := by
  suffices key : ∀ o : AOut, ((r.1, none, (126, 120, L, [r.2, T, H2, H, RU, RV, ST, NS, I0, I1, I2, BO, FI, RG, GU, PU, MA, MN, MS, OT, SC], [256, 192, 320, 384, w, r5, 576, 640, 704], Lg)) : AOut) = o → Ev (d + 0, 1, 8, 333, 0, [.val (.ref 64), .val (.int p1)], [], (126, 120, L, [Y, T, H2, H, RU, RV, ST, NS, I0, I1, I2, BO, FI, RG, GU, PU, MA, MN, MS, OT, SC], [256, 192, 320, 384, w, r5, 576, 640, 704], Lg)) o from key _ rfl
  intro o ho
  by_cases zc1 : p1 ≠ 0
  · have h := itp h zc1
    suffices e : Ev (d + 0, 1, 8, 333, 22, [.val (.ref 64), .val (.int p1)], [], (126, 120, L, [Y, T, H2, H, RU, RV, ST, NS, I0, I1, I2, BO, FI, RG, GU, PU, MA, MN, MS, OT, SC], [256, 192, 320, 384, w, r5, 576, 640, 704], Lg)) o from ev_t (c := p1 ≠ 0) _ _ 2  zc1 e (fun n => Eq.refl _)
    have ze2 := Option.some.inj h
    subst ze2
    exact ev_rete 1 ho (fun n => Eq.refl _)
  · have h := itn h zc1
    suffices e : Ev (d + 0, 1, 8, 333, 4, [.val (.ref 64), .val (.int p1)], [], (126, 120, L, [Y, T, H2, H, RU, RV, ST, NS, I0, I1, I2, BO, FI, RG, GU, PU, MA, MN, MS, OT, SC], [256, 192, 320, 384, w, r5, 576, 640, 704], Lg)) o from ev_f (c := p1 ≠ 0) _ _ 2  zc1 e (fun n => Eq.refl _)
    have ze3 := Option.some.inj h
    subst ze3
    exact ev_rete 7 ho (fun n => Eq.refl _)
set_option maxRecDepth 1000000 in
set_option maxHeartbeats 4000000 in
theorem R_f_House_forget_1 (d : Nat) (Y T H H2 RA RB ST NS I0 I1 I2 BO FI RG GU PU MA MN MS OT SC : Nat → Nat → Int32) (r0 r1 r2 r3 w r5 r6 r7 r8 : Nat) (L : Nat) (Lg : Int64) {r : (Nat → Nat → Int32)} (h : f_House_forget H = some r) : Ev (d + 1, 0, 0, 202, 0, [.val (.ref 192)], [], (126, 120, L, [Y, T, H, H2, RA, RB, ST, NS, I0, I1, I2, BO, FI, RG, GU, PU, MA, MN, MS, OT, SC], [r0, r1, r2, r3, w, r5, r6, r7, r8], Lg)) ((0, none, (126, 120, L, [Y, T, r, H2, RA, RB, ST, NS, I0, I1, I2, BO, FI, RG, GU, PU, MA, MN, MS, OT, SC], [r0, r1, r2, r3, w, r5, r6, r7, r8], Lg)) : AOut) := by
  suffices key : ∀ o : AOut, ((0, none, (126, 120, L, [Y, T, r, H2, RA, RB, ST, NS, I0, I1, I2, BO, FI, RG, GU, PU, MA, MN, MS, OT, SC], [r0, r1, r2, r3, w, r5, r6, r7, r8], Lg)) : AOut) = o → Ev (d + 1, 0, 0, 202, 0, [.val (.ref 192)], [], (126, 120, L, [Y, T, H, H2, RA, RB, ST, NS, I0, I1, I2, BO, FI, RG, GU, PU, MA, MN, MS, OT, SC], [r0, r1, r2, r3, w, r5, r6, r7, r8], Lg)) o from key _ rfl
  intro o ho
  have ze1 := R_fill (d + 0) 196 0 [Y, T, (u2 (u2 (u2 (u2 (u2 (u2 H 0 0 8) 0 1 0) 0 2 0) 0 3 0) 0 4 0) 0 5 0), H2, RA, RB, ST, NS, I0, I1, I2, BO, FI, RG, GU, PU, MA, MN, MS, OT, SC] [r0, r1, r2, r3, w, r5, r6, r7, r8] L Lg 126 120 rfl rfl (Nat.le_of_ble_eq_true rfl) (Nat.le_of_ble_eq_true rfl)
  suffices e : Ev (d + 1, 0, 0, 202, 39, [.val (.ref 192)], [], (126, 120, L, [Y, T, (u1 (u2 (u2 (u2 (u2 (u2 (u2 H 0 0 8) 0 1 0) 0 2 0) 0 3 0) 0 4 0) 0 5 0) 4 (filM ((u2 (u2 (u2 (u2 (u2 (u2 H 0 0 8) 0 1 0) 0 2 0) 0 3 0) 0 4 0) 0 5 0) 4) 8 0)), H2, RA, RB, ST, NS, I0, I1, I2, BO, FI, RG, GU, PU, MA, MN, MS, OT, SC], [r0, r1, r2, r3, w, r5, r6, r7, r8], Lg)) o from ev_call (fun v μ => (d + 1, 0, 0, 202, 39, [.val (.ref 192)], v.toList ++ [], μ)) 22 ze1 e (fun n => Eq.refl _)
  have ze2 := R_fill (d + 0) 198 0 [Y, T, (u1 (u2 (u2 (u2 (u2 (u2 (u2 H 0 0 8) 0 1 0) 0 2 0) 0 3 0) 0 4 0) 0 5 0) 4 (filM ((u2 (u2 (u2 (u2 (u2 (u2 H 0 0 8) 0 1 0) 0 2 0) 0 3 0) 0 4 0) 0 5 0) 4) 8 0)), H2, RA, RB, ST, NS, I0, I1, I2, BO, FI, RG, GU, PU, MA, MN, MS, OT, SC] [r0, r1, r2, r3, w, r5, r6, r7, r8] L Lg 126 120 rfl rfl (Nat.le_of_ble_eq_true rfl) (Nat.le_of_ble_eq_true rfl)
  suffices e : Ev (d + 1, 0, 0, 202, 47, [.val (.ref 192)], [], (126, 120, L, [Y, T, (u1 (u1 (u2 (u2 (u2 (u2 (u2 (u2 H 0 0 8) 0 1 0) 0 2 0) 0 3 0) 0 4 0) 0 5 0) 4 (filM ((u2 (u2 (u2 (u2 (u2 (u2 H 0 0 8) 0 1 0) 0 2 0) 0 3 0) 0 4 0) 0 5 0) 4) 8 0)) 6 (filM ((u1 (u2 (u2 (u2 (u2 (u2 (u2 H 0 0 8) 0 1 0) 0 2 0) 0 3 0) 0 4 0) 0 5 0) 4 (filM ((u2 (u2 (u2 (u2 (u2 (u2 H 0 0 8) 0 1 0) 0 2 0) 0 3 0) 0 4 0) 0 5 0) 4) 8 0)) 6) 10 0)), H2, RA, RB, ST, NS, I0, I1, I2, BO, FI, RG, GU, PU, MA, MN, MS, OT, SC], [r0, r1, r2, r3, w, r5, r6, r7, r8], Lg)) o from ev_call (fun v μ => (d + 1, 0, 0, 202, 47, [.val (.ref 192)], v.toList ++ [], μ)) 4 ze2 e (fun n => Eq.refl _)
  have ze3 := R_fill (d + 0) 200 0 [Y, T, (u1 (u1 (u2 (u2 (u2 (u2 (u2 (u2 H 0 0 8) 0 1 0) 0 2 0) 0 3 0) 0 4 0) 0 5 0) 4 (filM ((u2 (u2 (u2 (u2 (u2 (u2 H 0 0 8) 0 1 0) 0 2 0) 0 3 0) 0 4 0) 0 5 0) 4) 8 0)) 6 (filM ((u1 (u2 (u2 (u2 (u2 (u2 (u2 H 0 0 8) 0 1 0) 0 2 0) 0 3 0) 0 4 0) 0 5 0) 4 (filM ((u2 (u2 (u2 (u2 (u2 (u2 H 0 0 8) 0 1 0) 0 2 0) 0 3 0) 0 4 0) 0 5 0) 4) 8 0)) 6) 10 0)), H2, RA, RB, ST, NS, I0, I1, I2, BO, FI, RG, GU, PU, MA, MN, MS, OT, SC] [r0, r1, r2, r3, w, r5, r6, r7, r8] L Lg 126 120 rfl rfl (Nat.le_of_ble_eq_true rfl) (Nat.le_of_ble_eq_true rfl)
  suffices e : Ev (d + 1, 0, 0, 202, 55, [.val (.ref 192)], [], (126, 120, L, [Y, T, (u1 (u1 (u1 (u2 (u2 (u2 (u2 (u2 (u2 H 0 0 8) 0 1 0) 0 2 0) 0 3 0) 0 4 0) 0 5 0) 4 (filM ((u2 (u2 (u2 (u2 (u2 (u2 H 0 0 8) 0 1 0) 0 2 0) 0 3 0) 0 4 0) 0 5 0) 4) 8 0)) 6 (filM ((u1 (u2 (u2 (u2 (u2 (u2 (u2 H 0 0 8) 0 1 0) 0 2 0) 0 3 0) 0 4 0) 0 5 0) 4 (filM ((u2 (u2 (u2 (u2 (u2 (u2 H 0 0 8) 0 1 0) 0 2 0) 0 3 0) 0 4 0) 0 5 0) 4) 8 0)) 6) 10 0)) 8 (filM ((u1 (u1 (u2 (u2 (u2 (u2 (u2 (u2 H 0 0 8) 0 1 0) 0 2 0) 0 3 0) 0 4 0) 0 5 0) 4 (filM ((u2 (u2 (u2 (u2 (u2 (u2 H 0 0 8) 0 1 0) 0 2 0) 0 3 0) 0 4 0) 0 5 0) 4) 8 0)) 6 (filM ((u1 (u2 (u2 (u2 (u2 (u2 (u2 H 0 0 8) 0 1 0) 0 2 0) 0 3 0) 0 4 0) 0 5 0) 4 (filM ((u2 (u2 (u2 (u2 (u2 (u2 H 0 0 8) 0 1 0) 0 2 0) 0 3 0) 0 4 0) 0 5 0) 4) 8 0)) 6) 10 0)) 8) 10 0)), H2, RA, RB, ST, NS, I0, I1, I2, BO, FI, RG, GU, PU, MA, MN, MS, OT, SC], [r0, r1, r2, r3, w, r5, r6, r7, r8], Lg)) o from ev_call (fun v μ => (d + 1, 0, 0, 202, 55, [.val (.ref 192)], v.toList ++ [], μ)) 4 ze3 e (fun n => Eq.refl _)
  have ze4 := R_fill (d + 0) 201 0 [Y, T, (u1 (u1 (u1 (u2 (u2 (u2 (u2 (u2 (u2 H 0 0 8) 0 1 0) 0 2 0) 0 3 0) 0 4 0) 0 5 0) 4 (filM ((u2 (u2 (u2 (u2 (u2 (u2 H 0 0 8) 0 1 0) 0 2 0) 0 3 0) 0 4 0) 0 5 0) 4) 8 0)) 6 (filM ((u1 (u2 (u2 (u2 (u2 (u2 (u2 H 0 0 8) 0 1 0) 0 2 0) 0 3 0) 0 4 0) 0 5 0) 4 (filM ((u2 (u2 (u2 (u2 (u2 (u2 H 0 0 8) 0 1 0) 0 2 0) 0 3 0) 0 4 0) 0 5 0) 4) 8 0)) 6) 10 0)) 8 (filM ((u1 (u1 (u2 (u2 (u2 (u2 (u2 (u2 H 0 0 8) 0 1 0) 0 2 0) 0 3 0) 0 4 0) 0 5 0) 4 (filM ((u2 (u2 (u2 (u2 (u2 (u2 H 0 0 8) 0 1 0) 0 2 0) 0 3 0) 0 4 0) 0 5 0) 4) 8 0)) 6 (filM ((u1 (u2 (u2 (u2 (u2 (u2 (u2 H 0 0 8) 0 1 0) 0 2 0) 0 3 0) 0 4 0) 0 5 0) 4 (filM ((u2 (u2 (u2 (u2 (u2 (u2 H 0 0 8) 0 1 0) 0 2 0) 0 3 0) 0 4 0) 0 5 0) 4) 8 0)) 6) 10 0)) 8) 10 0)), H2, RA, RB, ST, NS, I0, I1, I2, BO, FI, RG, GU, PU, MA, MN, MS, OT, SC] [r0, r1, r2, r3, w, r5, r6, r7, r8] L Lg 126 120 rfl rfl (Nat.le_of_ble_eq_true rfl) (Nat.le_of_ble_eq_true rfl)
  suffices e : Ev (d + 1, 0, 0, 202, 63, [.val (.ref 192)], [], (126, 120, L, [Y, T, (u1 (u1 (u1 (u1 (u2 (u2 (u2 (u2 (u2 (u2 H 0 0 8) 0 1 0) 0 2 0) 0 3 0) 0 4 0) 0 5 0) 4 (filM ((u2 (u2 (u2 (u2 (u2 (u2 H 0 0 8) 0 1 0) 0 2 0) 0 3 0) 0 4 0) 0 5 0) 4) 8 0)) 6 (filM ((u1 (u2 (u2 (u2 (u2 (u2 (u2 H 0 0 8) 0 1 0) 0 2 0) 0 3 0) 0 4 0) 0 5 0) 4 (filM ((u2 (u2 (u2 (u2 (u2 (u2 H 0 0 8) 0 1 0) 0 2 0) 0 3 0) 0 4 0) 0 5 0) 4) 8 0)) 6) 10 0)) 8 (filM ((u1 (u1 (u2 (u2 (u2 (u2 (u2 (u2 H 0 0 8) 0 1 0) 0 2 0) 0 3 0) 0 4 0) 0 5 0) 4 (filM ((u2 (u2 (u2 (u2 (u2 (u2 H 0 0 8) 0 1 0) 0 2 0) 0 3 0) 0 4 0) 0 5 0) 4) 8 0)) 6 (filM ((u1 (u2 (u2 (u2 (u2 (u2 (u2 H 0 0 8) 0 1 0) 0 2 0) 0 3 0) 0 4 0) 0 5 0) 4 (filM ((u2 (u2 (u2 (u2 (u2 (u2 H 0 0 8) 0 1 0) 0 2 0) 0 3 0) 0 4 0) 0 5 0) 4) 8 0)) 6) 10 0)) 8) 10 0)) 9 (filM ((u1 (u1 (u1 (u2 (u2 (u2 (u2 (u2 (u2 H 0 0 8) 0 1 0) 0 2 0) 0 3 0) 0 4 0) 0 5 0) 4 (filM ((u2 (u2 (u2 (u2 (u2 (u2 H 0 0 8) 0 1 0) 0 2 0) 0 3 0) 0 4 0) 0 5 0) 4) 8 0)) 6 (filM ((u1 (u2 (u2 (u2 (u2 (u2 (u2 H 0 0 8) 0 1 0) 0 2 0) 0 3 0) 0 4 0) 0 5 0) 4 (filM ((u2 (u2 (u2 (u2 (u2 (u2 H 0 0 8) 0 1 0) 0 2 0) 0 3 0) 0 4 0) 0 5 0) 4) 8 0)) 6) 10 0)) 8 (filM ((u1 (u1 (u2 (u2 (u2 (u2 (u2 (u2 H 0 0 8) 0 1 0) 0 2 0) 0 3 0) 0 4 0) 0 5 0) 4 (filM ((u2 (u2 (u2 (u2 (u2 (u2 H 0 0 8) 0 1 0) 0 2 0) 0 3 0) 0 4 0) 0 5 0) 4) 8 0)) 6 (filM ((u1 (u2 (u2 (u2 (u2 (u2 (u2 H 0 0 8) 0 1 0) 0 2 0) 0 3 0) 0 4 0) 0 5 0) 4 (filM ((u2 (u2 (u2 (u2 (u2 (u2 H 0 0 8) 0 1 0) 0 2 0) 0 3 0) 0 4 0) 0 5 0) 4) 8 0)) 6) 10 0)) 8) 10 0)) 9) 10 0)), H2, RA, RB, ST, NS, I0, I1, I2, BO, FI, RG, GU, PU, MA, MN, MS, OT, SC], [r0, r1, r2, r3, w, r5, r6, r7, r8], Lg)) o from ev_call (fun v μ => (d + 1, 0, 0, 202, 63, [.val (.ref 192)], v.toList ++ [], μ)) 4 ze4 e (fun n => Eq.refl _)
  have ze5 := Option.some.inj h
  subst ze5
  exact ev_rete 1 ho (fun n => Eq.refl _)
set_option maxRecDepth 1000000 in
set_option maxHeartbeats 4000000 in
theorem R_f_House_wordFault_1 (d : Nat) (Y T H H2 RA RB ST NS I0 I1 I2 BO FI RG GU PU MA MN MS OT SC : Nat → Nat → Int32) (r0 r1 r2 r3 w r5 r6 r7 r8 : Nat) (L : Nat) (Lg : Int64) (s1 : Nat) (p2 : Int32) {r : Int32} (h : f_House_wordFault H s1 p2 = some r) : Ev (d + 1, 0, 0, 203, 0, [.val (.ref 192), .val (.ref s1), .val (.int p2), .val a_unk], [], (126, 120, L, [Y, T, H, H2, RA, RB, ST, NS, I0, I1, I2, BO, FI, RG, GU, PU, MA, MN, MS, OT, SC], [r0, r1, r2, r3, w, r5, r6, r7, r8], Lg)) ((0, some (.int r), (126, 120, L, [Y, T, H, H2, RA, RB, ST, NS, I0, I1, I2, BO, FI, RG, GU, PU, MA, MN, MS, OT, SC], [r0, r1, r2, r3, w, r5, r6, r7, r8], Lg)) : AOut) := by
  suffices key : ∀ o : AOut, ((0, some (.int r), (126, 120, L, [Y, T, H, H2, RA, RB, ST, NS, I0, I1, I2, BO, FI, RG, GU, PU, MA, MN, MS, OT, SC], [r0, r1, r2, r3, w, r5, r6, r7, r8], Lg)) : AOut) = o → Ev (d + 1, 0, 0, 203, 0, [.val (.ref 192), .val (.ref s1), .val (.int p2), .val a_unk], [], (126, 120, L, [Y, T, H, H2, RA, RB, ST, NS, I0, I1, I2, BO, FI, RG, GU, PU, MA, MN, MS, OT, SC], [r0, r1, r2, r3, w, r5, r6, r7, r8], Lg)) o from key _ rfl
  intro o ho
  by_cases zg2 : ¬ (okW s1)
  · exact nos (itn h zg2)
  have zg2 := Decidable.not_not.mp zg2
  have h := itp h zg2
  by_cases zc1 : s1 = 0
  · have h := itp h zc1
    suffices e : Ev (d + 1, 0, 0, 203, 4, [.val (.ref 192), .val (.ref s1), .val (.int p2), .val a_unk], [], (126, 120, L, [Y, T, H, H2, RA, RB, ST, NS, I0, I1, I2, BO, FI, RG, GU, PU, MA, MN, MS, OT, SC], [r0, r1, r2, r3, w, r5, r6, r7, r8], Lg)) o from ev_gt (c := s1 = 0) _ _ 2 zg2 zc1 e (fun n => Eq.refl _)
    have ze3 := Option.some.inj h
    subst ze3
    exact ev_rete 2 ho (fun n => Eq.refl _)
  · have h := itn h zc1
    suffices e : Ev (d + 1, 0, 0, 203, 6, [.val (.ref 192), .val (.ref s1), .val (.int p2), .val a_unk], [], (126, 120, L, [Y, T, H, H2, RA, RB, ST, NS, I0, I1, I2, BO, FI, RG, GU, PU, MA, MN, MS, OT, SC], [r0, r1, r2, r3, w, r5, r6, r7, r8], Lg)) o from ev_gf (c := s1 = 0) _ _ 2 zg2 zc1 e (fun n => Eq.refl _)
    obtain ⟨zt4, zh5, h⟩ := bnd h
    have zj6 : ∀ (v1 : Int32), v1 = zt4 → Ev (d + 1, 0, 0, 203, 17, [.val (.ref 192), .val (.ref s1), .val (.int p2), .val a_unk], [.int v1], (126, 120, L, [Y, T, H, H2, RA, RB, ST, NS, I0, I1, I2, BO, FI, RG, GU, PU, MA, MN, MS, OT, SC], [r0, r1, r2, r3, w, r5, r6, r7, r8], Lg)) o := by
      intro v1 ze7
      subst ze7
      by_cases zg8 : ¬ (isW s1)
      · exact nos (itn h zg8)
      have zg8 := Decidable.not_not.mp zg8
      have h := itp h zg8
      suffices e : Ev (d + 1, 0, 0, 203, 22, [.val (.ref 192), .val (.ref s1), .val (.int p2), .val (.int v1)], [.ref s1, .ref 2753], (126, 120, L, [Y, T, H, H2, RA, RB, ST, NS, I0, I1, I2, BO, FI, RG, GU, PU, MA, MN, MS, OT, SC], [r0, r1, r2, r3, w, r5, r6, r7, r8], Lg)) o from ev_b 3 e (fun n => Eq.refl _)
      refine r_inv (args := []) (rest := [.ref 2753]) rfl rfl rfl rfl (cW zg8).1 (cW zg8).2.1 rfl (R_ord (d + 0) s1 (126, 120, L, [Y, T, H, H2, RA, RB, ST, NS, I0, I1, I2, BO, FI, RG, GU, PU, MA, MN, MS, OT, SC], [r0, r1, r2, r3, w, r5, r6, r7, r8], Lg) zg8) ?_
      obtain ⟨x2, zh9, h⟩ := bnd h
      have zh9 : rdx (a_ca 2753) 23 (w_ord s1) = some x2 := zh9
      suffices e : Ev (d + 1, 0, 0, 203, 26, [.val (.ref 192), .val (.ref s1), .val (.int p2), .val (.int v1)], [.int x2], (126, 120, L, [Y, T, H, H2, RA, RB, ST, NS, I0, I1, I2, BO, FI, RG, GU, PU, MA, MN, MS, OT, SC], [r0, r1, r2, r3, w, r5, r6, r7, r8], Lg)) o from ev_opt (fun x2 => (d + 1, 0, 0, 203, 26, [.val (.ref 192), .val (.ref s1), .val (.int p2), .val (.int v1)], [.int x2], (126, 120, L, [Y, T, H, H2, RA, RB, ST, NS, I0, I1, I2, BO, FI, RG, GU, PU, MA, MN, MS, OT, SC], [r0, r1, r2, r3, w, r5, r6, r7, r8], Lg))) 1 zh9 e (fun n => Eq.refl _)
      by_cases zc10 : x2 = 1
      · have h := itp h zc10
        suffices e : Ev (d + 1, 0, 0, 203, 80, [.val (.ref 192), .val (.ref s1), .val (.int p2), .val (.int v1)], [], (126, 120, L, [Y, T, H, H2, RA, RB, ST, NS, I0, I1, I2, BO, FI, RG, GU, PU, MA, MN, MS, OT, SC], [r0, r1, r2, r3, w, r5, r6, r7, r8], Lg)) o from ev_sw [((1 : Int32), 80), ((2 : Int32), 98), ((3 : Int32), 116), ((4 : Int32), 135), ((5 : Int32), 154), ((6 : Int32), 172), ((7 : Int32), 172), ((8 : Int32), 172), ((9 : Int32), 172), ((10 : Int32), 172)] x2 (fun tt => (d + 1, 0, 0, 203, tt, [.val (.ref 192), .val (.ref s1), .val (.int p2), .val (.int v1)], [], (126, 120, L, [Y, T, H, H2, RA, RB, ST, NS, I0, I1, I2, BO, FI, RG, GU, PU, MA, MN, MS, OT, SC], [r0, r1, r2, r3, w, r5, r6, r7, r8], Lg))) 182 80 1 (fun f => by simp only [a_sw, if_pos zc10]) e (fun n => Eq.refl _)
        by_cases zc11 : v1 = 0
        · have h := itp h zc11
          suffices e : Ev (d + 1, 0, 0, 203, 88, [.val (.ref 192), .val (.ref s1), .val (.int p2), .val (.int v1)], [], (126, 120, L, [Y, T, H, H2, RA, RB, ST, NS, I0, I1, I2, BO, FI, RG, GU, PU, MA, MN, MS, OT, SC], [r0, r1, r2, r3, w, r5, r6, r7, r8], Lg)) o from ev_t (c := v1 = 0) _ _ 2  zc11 e (fun n => Eq.refl _)
          by_cases zc12 : p2 ≤ 0
          · have h := itp h zc12
            suffices e : Ev (d + 1, 0, 0, 203, 96, [.val (.ref 192), .val (.ref s1), .val (.int p2), .val (.int v1)], [], (126, 120, L, [Y, T, H, H2, RA, RB, ST, NS, I0, I1, I2, BO, FI, RG, GU, PU, MA, MN, MS, OT, SC], [r0, r1, r2, r3, w, r5, r6, r7, r8], Lg)) o from ev_t (c := p2 ≤ 0) _ _ 2  zc12 e (fun n => Eq.refl _)
            have ze13 := Option.some.inj h
            subst ze13
            exact ev_rete 2 ho (fun n => Eq.refl _)
          · have h := itn h zc12
            suffices e : Ev (d + 1, 0, 0, 203, 92, [.val (.ref 192), .val (.ref s1), .val (.int p2), .val (.int v1)], [], (126, 120, L, [Y, T, H, H2, RA, RB, ST, NS, I0, I1, I2, BO, FI, RG, GU, PU, MA, MN, MS, OT, SC], [r0, r1, r2, r3, w, r5, r6, r7, r8], Lg)) o from ev_f (c := p2 ≤ 0) _ _ 2  zc12 e (fun n => Eq.refl _)
            have ze14 := Option.some.inj h
            subst ze14
            exact ev_rete 3 ho (fun n => Eq.refl _)
        · have h := itn h zc11
          suffices e : Ev (d + 1, 0, 0, 203, 84, [.val (.ref 192), .val (.ref s1), .val (.int p2), .val (.int v1)], [], (126, 120, L, [Y, T, H, H2, RA, RB, ST, NS, I0, I1, I2, BO, FI, RG, GU, PU, MA, MN, MS, OT, SC], [r0, r1, r2, r3, w, r5, r6, r7, r8], Lg)) o from ev_f (c := v1 = 0) _ _ 2  zc11 e (fun n => Eq.refl _)
          have ze15 := Option.some.inj h
          subst ze15
          exact ev_rete 3 ho (fun n => Eq.refl _)
      have h := itn h zc10
      by_cases zc16 : x2 = 2
      · have h := itp h zc16
        suffices e : Ev (d + 1, 0, 0, 203, 98, [.val (.ref 192), .val (.ref s1), .val (.int p2), .val (.int v1)], [], (126, 120, L, [Y, T, H, H2, RA, RB, ST, NS, I0, I1, I2, BO, FI, RG, GU, PU, MA, MN, MS, OT, SC], [r0, r1, r2, r3, w, r5, r6, r7, r8], Lg)) o from ev_sw [((1 : Int32), 80), ((2 : Int32), 98), ((3 : Int32), 116), ((4 : Int32), 135), ((5 : Int32), 154), ((6 : Int32), 172), ((7 : Int32), 172), ((8 : Int32), 172), ((9 : Int32), 172), ((10 : Int32), 172)] x2 (fun tt => (d + 1, 0, 0, 203, tt, [.val (.ref 192), .val (.ref s1), .val (.int p2), .val (.int v1)], [], (126, 120, L, [Y, T, H, H2, RA, RB, ST, NS, I0, I1, I2, BO, FI, RG, GU, PU, MA, MN, MS, OT, SC], [r0, r1, r2, r3, w, r5, r6, r7, r8], Lg))) 182 98 1 (fun f => by simp only [a_sw, if_neg zc10, if_pos zc16]) e (fun n => Eq.refl _)
        by_cases zc17 : v1 ≠ 0
        · have h := itp h zc17
          suffices e : Ev (d + 1, 0, 0, 203, 110, [.val (.ref 192), .val (.ref s1), .val (.int p2), .val (.int v1)], [], (126, 120, L, [Y, T, H, H2, RA, RB, ST, NS, I0, I1, I2, BO, FI, RG, GU, PU, MA, MN, MS, OT, SC], [r0, r1, r2, r3, w, r5, r6, r7, r8], Lg)) o from ev_t (c := v1 ≠ 0) _ _ 2  zc17 e (fun n => Eq.refl _)
          have ze18 := Option.some.inj h
          subst ze18
          exact ev_rete 3 ho (fun n => Eq.refl _)
        · have h := itn h zc17
          suffices e : Ev (d + 1, 0, 0, 203, 102, [.val (.ref 192), .val (.ref s1), .val (.int p2), .val (.int v1)], [], (126, 120, L, [Y, T, H, H2, RA, RB, ST, NS, I0, I1, I2, BO, FI, RG, GU, PU, MA, MN, MS, OT, SC], [r0, r1, r2, r3, w, r5, r6, r7, r8], Lg)) o from ev_f (c := v1 ≠ 0) _ _ 2  zc17 e (fun n => Eq.refl _)
          by_cases zc19 : (H 0 1) < 3
          · have h := itp h zc19
            suffices e : Ev (d + 1, 0, 0, 203, 114, [.val (.ref 192), .val (.ref s1), .val (.int p2), .val (.int v1)], [], (126, 120, L, [Y, T, H, H2, RA, RB, ST, NS, I0, I1, I2, BO, FI, RG, GU, PU, MA, MN, MS, OT, SC], [r0, r1, r2, r3, w, r5, r6, r7, r8], Lg)) o from ev_t (c := (H 0 1) < 3) _ _ 4  zc19 e (fun n => Eq.refl _)
            have ze20 := Option.some.inj h
            subst ze20
            exact ev_rete 2 ho (fun n => Eq.refl _)
          · have h := itn h zc19
            suffices e : Ev (d + 1, 0, 0, 203, 110, [.val (.ref 192), .val (.ref s1), .val (.int p2), .val (.int v1)], [], (126, 120, L, [Y, T, H, H2, RA, RB, ST, NS, I0, I1, I2, BO, FI, RG, GU, PU, MA, MN, MS, OT, SC], [r0, r1, r2, r3, w, r5, r6, r7, r8], Lg)) o from ev_f (c := (H 0 1) < 3) _ _ 4  zc19 e (fun n => Eq.refl _)
            have ze21 := Option.some.inj h
            subst ze21
            exact ev_rete 3 ho (fun n => Eq.refl _)
      have h := itn h zc16
      by_cases zc22 : x2 = 3
      · have h := itp h zc22
        suffices e : Ev (d + 1, 0, 0, 203, 116, [.val (.ref 192), .val (.ref s1), .val (.int p2), .val (.int v1)], [], (126, 120, L, [Y, T, H, H2, RA, RB, ST, NS, I0, I1, I2, BO, FI, RG, GU, PU, MA, MN, MS, OT, SC], [r0, r1, r2, r3, w, r5, r6, r7, r8], Lg)) o from ev_sw [((1 : Int32), 80), ((2 : Int32), 98), ((3 : Int32), 116), ((4 : Int32), 135), ((5 : Int32), 154), ((6 : Int32), 172), ((7 : Int32), 172), ((8 : Int32), 172), ((9 : Int32), 172), ((10 : Int32), 172)] x2 (fun tt => (d + 1, 0, 0, 203, tt, [.val (.ref 192), .val (.ref s1), .val (.int p2), .val (.int v1)], [], (126, 120, L, [Y, T, H, H2, RA, RB, ST, NS, I0, I1, I2, BO, FI, RG, GU, PU, MA, MN, MS, OT, SC], [r0, r1, r2, r3, w, r5, r6, r7, r8], Lg))) 182 116 1 (fun f => by simp only [a_sw, if_neg zc10, if_neg zc16, if_pos zc22]) e (fun n => Eq.refl _)
        by_cases zc23 : v1 ≠ 0
        · have h := itp h zc23
          suffices e : Ev (d + 1, 0, 0, 203, 129, [.val (.ref 192), .val (.ref s1), .val (.int p2), .val (.int v1)], [], (126, 120, L, [Y, T, H, H2, RA, RB, ST, NS, I0, I1, I2, BO, FI, RG, GU, PU, MA, MN, MS, OT, SC], [r0, r1, r2, r3, w, r5, r6, r7, r8], Lg)) o from ev_t (c := v1 ≠ 0) _ _ 2  zc23 e (fun n => Eq.refl _)
          have ze24 := Option.some.inj h
          subst ze24
          exact ev_rete 3 ho (fun n => Eq.refl _)
        · have h := itn h zc23
          suffices e : Ev (d + 1, 0, 0, 203, 120, [.val (.ref 192), .val (.ref s1), .val (.int p2), .val (.int v1)], [], (126, 120, L, [Y, T, H, H2, RA, RB, ST, NS, I0, I1, I2, BO, FI, RG, GU, PU, MA, MN, MS, OT, SC], [r0, r1, r2, r3, w, r5, r6, r7, r8], Lg)) o from ev_f (c := v1 ≠ 0) _ _ 2  zc23 e (fun n => Eq.refl _)
          by_cases zc25 : (H 0 2) < 8
          · have h := itp h zc25
            suffices e : Ev (d + 1, 0, 0, 203, 133, [.val (.ref 192), .val (.ref s1), .val (.int p2), .val (.int v1)], [], (126, 120, L, [Y, T, H, H2, RA, RB, ST, NS, I0, I1, I2, BO, FI, RG, GU, PU, MA, MN, MS, OT, SC], [r0, r1, r2, r3, w, r5, r6, r7, r8], Lg)) o from ev_t (c := (H 0 2) < 8) _ _ 4  zc25 e (fun n => Eq.refl _)
            have ze26 := Option.some.inj h
            subst ze26
            exact ev_rete 2 ho (fun n => Eq.refl _)
          · have h := itn h zc25
            suffices e : Ev (d + 1, 0, 0, 203, 129, [.val (.ref 192), .val (.ref s1), .val (.int p2), .val (.int v1)], [], (126, 120, L, [Y, T, H, H2, RA, RB, ST, NS, I0, I1, I2, BO, FI, RG, GU, PU, MA, MN, MS, OT, SC], [r0, r1, r2, r3, w, r5, r6, r7, r8], Lg)) o from ev_f (c := (H 0 2) < 8) _ _ 4  zc25 e (fun n => Eq.refl _)
            have ze27 := Option.some.inj h
            subst ze27
            exact ev_rete 3 ho (fun n => Eq.refl _)
      have h := itn h zc22
      by_cases zc28 : x2 = 4
      · have h := itp h zc28
        suffices e : Ev (d + 1, 0, 0, 203, 135, [.val (.ref 192), .val (.ref s1), .val (.int p2), .val (.int v1)], [], (126, 120, L, [Y, T, H, H2, RA, RB, ST, NS, I0, I1, I2, BO, FI, RG, GU, PU, MA, MN, MS, OT, SC], [r0, r1, r2, r3, w, r5, r6, r7, r8], Lg)) o from ev_sw [((1 : Int32), 80), ((2 : Int32), 98), ((3 : Int32), 116), ((4 : Int32), 135), ((5 : Int32), 154), ((6 : Int32), 172), ((7 : Int32), 172), ((8 : Int32), 172), ((9 : Int32), 172), ((10 : Int32), 172)] x2 (fun tt => (d + 1, 0, 0, 203, tt, [.val (.ref 192), .val (.ref s1), .val (.int p2), .val (.int v1)], [], (126, 120, L, [Y, T, H, H2, RA, RB, ST, NS, I0, I1, I2, BO, FI, RG, GU, PU, MA, MN, MS, OT, SC], [r0, r1, r2, r3, w, r5, r6, r7, r8], Lg))) 182 135 1 (fun f => by simp only [a_sw, if_neg zc10, if_neg zc16, if_neg zc22, if_pos zc28]) e (fun n => Eq.refl _)
        by_cases zc29 : v1 ≠ 0
        · have h := itp h zc29
          suffices e : Ev (d + 1, 0, 0, 203, 148, [.val (.ref 192), .val (.ref s1), .val (.int p2), .val (.int v1)], [], (126, 120, L, [Y, T, H, H2, RA, RB, ST, NS, I0, I1, I2, BO, FI, RG, GU, PU, MA, MN, MS, OT, SC], [r0, r1, r2, r3, w, r5, r6, r7, r8], Lg)) o from ev_t (c := v1 ≠ 0) _ _ 2  zc29 e (fun n => Eq.refl _)
          have ze30 := Option.some.inj h
          subst ze30
          exact ev_rete 3 ho (fun n => Eq.refl _)
        · have h := itn h zc29
          suffices e : Ev (d + 1, 0, 0, 203, 139, [.val (.ref 192), .val (.ref s1), .val (.int p2), .val (.int v1)], [], (126, 120, L, [Y, T, H, H2, RA, RB, ST, NS, I0, I1, I2, BO, FI, RG, GU, PU, MA, MN, MS, OT, SC], [r0, r1, r2, r3, w, r5, r6, r7, r8], Lg)) o from ev_f (c := v1 ≠ 0) _ _ 2  zc29 e (fun n => Eq.refl _)
          by_cases zc31 : (H 0 3) < 10
          · have h := itp h zc31
            suffices e : Ev (d + 1, 0, 0, 203, 152, [.val (.ref 192), .val (.ref s1), .val (.int p2), .val (.int v1)], [], (126, 120, L, [Y, T, H, H2, RA, RB, ST, NS, I0, I1, I2, BO, FI, RG, GU, PU, MA, MN, MS, OT, SC], [r0, r1, r2, r3, w, r5, r6, r7, r8], Lg)) o from ev_t (c := (H 0 3) < 10) _ _ 4  zc31 e (fun n => Eq.refl _)
            have ze32 := Option.some.inj h
            subst ze32
            exact ev_rete 2 ho (fun n => Eq.refl _)
          · have h := itn h zc31
            suffices e : Ev (d + 1, 0, 0, 203, 148, [.val (.ref 192), .val (.ref s1), .val (.int p2), .val (.int v1)], [], (126, 120, L, [Y, T, H, H2, RA, RB, ST, NS, I0, I1, I2, BO, FI, RG, GU, PU, MA, MN, MS, OT, SC], [r0, r1, r2, r3, w, r5, r6, r7, r8], Lg)) o from ev_f (c := (H 0 3) < 10) _ _ 4  zc31 e (fun n => Eq.refl _)
            have ze33 := Option.some.inj h
            subst ze33
            exact ev_rete 3 ho (fun n => Eq.refl _)
      have h := itn h zc28
      by_cases zc34 : x2 = 5
      · have h := itp h zc34
        suffices e : Ev (d + 1, 0, 0, 203, 154, [.val (.ref 192), .val (.ref s1), .val (.int p2), .val (.int v1)], [], (126, 120, L, [Y, T, H, H2, RA, RB, ST, NS, I0, I1, I2, BO, FI, RG, GU, PU, MA, MN, MS, OT, SC], [r0, r1, r2, r3, w, r5, r6, r7, r8], Lg)) o from ev_sw [((1 : Int32), 80), ((2 : Int32), 98), ((3 : Int32), 116), ((4 : Int32), 135), ((5 : Int32), 154), ((6 : Int32), 172), ((7 : Int32), 172), ((8 : Int32), 172), ((9 : Int32), 172), ((10 : Int32), 172)] x2 (fun tt => (d + 1, 0, 0, 203, tt, [.val (.ref 192), .val (.ref s1), .val (.int p2), .val (.int v1)], [], (126, 120, L, [Y, T, H, H2, RA, RB, ST, NS, I0, I1, I2, BO, FI, RG, GU, PU, MA, MN, MS, OT, SC], [r0, r1, r2, r3, w, r5, r6, r7, r8], Lg))) 182 154 1 (fun f => by simp only [a_sw, if_neg zc10, if_neg zc16, if_neg zc22, if_neg zc28, if_pos zc34]) e (fun n => Eq.refl _)
        by_cases zc35 : v1 ≠ 0
        · have h := itp h zc35
          suffices e : Ev (d + 1, 0, 0, 203, 166, [.val (.ref 192), .val (.ref s1), .val (.int p2), .val (.int v1)], [], (126, 120, L, [Y, T, H, H2, RA, RB, ST, NS, I0, I1, I2, BO, FI, RG, GU, PU, MA, MN, MS, OT, SC], [r0, r1, r2, r3, w, r5, r6, r7, r8], Lg)) o from ev_t (c := v1 ≠ 0) _ _ 2  zc35 e (fun n => Eq.refl _)
          have ze36 := Option.some.inj h
          subst ze36
          exact ev_rete 3 ho (fun n => Eq.refl _)
        · have h := itn h zc35
          suffices e : Ev (d + 1, 0, 0, 203, 158, [.val (.ref 192), .val (.ref s1), .val (.int p2), .val (.int v1)], [], (126, 120, L, [Y, T, H, H2, RA, RB, ST, NS, I0, I1, I2, BO, FI, RG, GU, PU, MA, MN, MS, OT, SC], [r0, r1, r2, r3, w, r5, r6, r7, r8], Lg)) o from ev_f (c := v1 ≠ 0) _ _ 2  zc35 e (fun n => Eq.refl _)
          by_cases zc37 : (H 0 4) < 4
          · have h := itp h zc37
            suffices e : Ev (d + 1, 0, 0, 203, 170, [.val (.ref 192), .val (.ref s1), .val (.int p2), .val (.int v1)], [], (126, 120, L, [Y, T, H, H2, RA, RB, ST, NS, I0, I1, I2, BO, FI, RG, GU, PU, MA, MN, MS, OT, SC], [r0, r1, r2, r3, w, r5, r6, r7, r8], Lg)) o from ev_t (c := (H 0 4) < 4) _ _ 4  zc37 e (fun n => Eq.refl _)
            have ze38 := Option.some.inj h
            subst ze38
            exact ev_rete 2 ho (fun n => Eq.refl _)
          · have h := itn h zc37
            suffices e : Ev (d + 1, 0, 0, 203, 166, [.val (.ref 192), .val (.ref s1), .val (.int p2), .val (.int v1)], [], (126, 120, L, [Y, T, H, H2, RA, RB, ST, NS, I0, I1, I2, BO, FI, RG, GU, PU, MA, MN, MS, OT, SC], [r0, r1, r2, r3, w, r5, r6, r7, r8], Lg)) o from ev_f (c := (H 0 4) < 4) _ _ 4  zc37 e (fun n => Eq.refl _)
            have ze39 := Option.some.inj h
            subst ze39
            exact ev_rete 3 ho (fun n => Eq.refl _)
      have h := itn h zc34
      by_cases zc40 : x2 = 6
      · have h := itp h zc40
        suffices e : Ev (d + 1, 0, 0, 203, 172, [.val (.ref 192), .val (.ref s1), .val (.int p2), .val (.int v1)], [], (126, 120, L, [Y, T, H, H2, RA, RB, ST, NS, I0, I1, I2, BO, FI, RG, GU, PU, MA, MN, MS, OT, SC], [r0, r1, r2, r3, w, r5, r6, r7, r8], Lg)) o from ev_sw [((1 : Int32), 80), ((2 : Int32), 98), ((3 : Int32), 116), ((4 : Int32), 135), ((5 : Int32), 154), ((6 : Int32), 172), ((7 : Int32), 172), ((8 : Int32), 172), ((9 : Int32), 172), ((10 : Int32), 172)] x2 (fun tt => (d + 1, 0, 0, 203, tt, [.val (.ref 192), .val (.ref s1), .val (.int p2), .val (.int v1)], [], (126, 120, L, [Y, T, H, H2, RA, RB, ST, NS, I0, I1, I2, BO, FI, RG, GU, PU, MA, MN, MS, OT, SC], [r0, r1, r2, r3, w, r5, r6, r7, r8], Lg))) 182 172 1 (fun f => by simp only [a_sw, if_neg zc10, if_neg zc16, if_neg zc22, if_neg zc28, if_neg zc34, if_pos zc40]) e (fun n => Eq.refl _)
        by_cases zc41 : v1 = 0
        · have h := itp h zc41
          suffices e : Ev (d + 1, 0, 0, 203, 180, [.val (.ref 192), .val (.ref s1), .val (.int p2), .val (.int v1)], [], (126, 120, L, [Y, T, H, H2, RA, RB, ST, NS, I0, I1, I2, BO, FI, RG, GU, PU, MA, MN, MS, OT, SC], [r0, r1, r2, r3, w, r5, r6, r7, r8], Lg)) o from ev_t (c := v1 = 0) _ _ 2  zc41 e (fun n => Eq.refl _)
          have ze42 := Option.some.inj h
          subst ze42
          exact ev_rete 2 ho (fun n => Eq.refl _)
        · have h := itn h zc41
          suffices e : Ev (d + 1, 0, 0, 203, 176, [.val (.ref 192), .val (.ref s1), .val (.int p2), .val (.int v1)], [], (126, 120, L, [Y, T, H, H2, RA, RB, ST, NS, I0, I1, I2, BO, FI, RG, GU, PU, MA, MN, MS, OT, SC], [r0, r1, r2, r3, w, r5, r6, r7, r8], Lg)) o from ev_f (c := v1 = 0) _ _ 2  zc41 e (fun n => Eq.refl _)
          have ze43 := Option.some.inj h
          subst ze43
          exact ev_rete 3 ho (fun n => Eq.refl _)
      have h := itn h zc40
      by_cases zc44 : x2 = 7
      · have h := itp h zc44
        suffices e : Ev (d + 1, 0, 0, 203, 172, [.val (.ref 192), .val (.ref s1), .val (.int p2), .val (.int v1)], [], (126, 120, L, [Y, T, H, H2, RA, RB, ST, NS, I0, I1, I2, BO, FI, RG, GU, PU, MA, MN, MS, OT, SC], [r0, r1, r2, r3, w, r5, r6, r7, r8], Lg)) o from ev_sw [((1 : Int32), 80), ((2 : Int32), 98), ((3 : Int32), 116), ((4 : Int32), 135), ((5 : Int32), 154), ((6 : Int32), 172), ((7 : Int32), 172), ((8 : Int32), 172), ((9 : Int32), 172), ((10 : Int32), 172)] x2 (fun tt => (d + 1, 0, 0, 203, tt, [.val (.ref 192), .val (.ref s1), .val (.int p2), .val (.int v1)], [], (126, 120, L, [Y, T, H, H2, RA, RB, ST, NS, I0, I1, I2, BO, FI, RG, GU, PU, MA, MN, MS, OT, SC], [r0, r1, r2, r3, w, r5, r6, r7, r8], Lg))) 182 172 1 (fun f => by simp only [a_sw, if_neg zc10, if_neg zc16, if_neg zc22, if_neg zc28, if_neg zc34, if_neg zc40, if_pos zc44]) e (fun n => Eq.refl _)
        by_cases zc45 : v1 = 0
        · have h := itp h zc45
          suffices e : Ev (d + 1, 0, 0, 203, 180, [.val (.ref 192), .val (.ref s1), .val (.int p2), .val (.int v1)], [], (126, 120, L, [Y, T, H, H2, RA, RB, ST, NS, I0, I1, I2, BO, FI, RG, GU, PU, MA, MN, MS, OT, SC], [r0, r1, r2, r3, w, r5, r6, r7, r8], Lg)) o from ev_t (c := v1 = 0) _ _ 2  zc45 e (fun n => Eq.refl _)
          have ze46 := Option.some.inj h
          subst ze46
          exact ev_rete 2 ho (fun n => Eq.refl _)
        · have h := itn h zc45
          suffices e : Ev (d + 1, 0, 0, 203, 176, [.val (.ref 192), .val (.ref s1), .val (.int p2), .val (.int v1)], [], (126, 120, L, [Y, T, H, H2, RA, RB, ST, NS, I0, I1, I2, BO, FI, RG, GU, PU, MA, MN, MS, OT, SC], [r0, r1, r2, r3, w, r5, r6, r7, r8], Lg)) o from ev_f (c := v1 = 0) _ _ 2  zc45 e (fun n => Eq.refl _)
          have ze47 := Option.some.inj h
          subst ze47
          exact ev_rete 3 ho (fun n => Eq.refl _)
      have h := itn h zc44
      by_cases zc48 : x2 = 8
      · have h := itp h zc48
        suffices e : Ev (d + 1, 0, 0, 203, 172, [.val (.ref 192), .val (.ref s1), .val (.int p2), .val (.int v1)], [], (126, 120, L, [Y, T, H, H2, RA, RB, ST, NS, I0, I1, I2, BO, FI, RG, GU, PU, MA, MN, MS, OT, SC], [r0, r1, r2, r3, w, r5, r6, r7, r8], Lg)) o from ev_sw [((1 : Int32), 80), ((2 : Int32), 98), ((3 : Int32), 116), ((4 : Int32), 135), ((5 : Int32), 154), ((6 : Int32), 172), ((7 : Int32), 172), ((8 : Int32), 172), ((9 : Int32), 172), ((10 : Int32), 172)] x2 (fun tt => (d + 1, 0, 0, 203, tt, [.val (.ref 192), .val (.ref s1), .val (.int p2), .val (.int v1)], [], (126, 120, L, [Y, T, H, H2, RA, RB, ST, NS, I0, I1, I2, BO, FI, RG, GU, PU, MA, MN, MS, OT, SC], [r0, r1, r2, r3, w, r5, r6, r7, r8], Lg))) 182 172 1 (fun f => by simp only [a_sw, if_neg zc10, if_neg zc16, if_neg zc22, if_neg zc28, if_neg zc34, if_neg zc40, if_neg zc44, if_pos zc48]) e (fun n => Eq.refl _)
        by_cases zc49 : v1 = 0
        · have h := itp h zc49
          suffices e : Ev (d + 1, 0, 0, 203, 180, [.val (.ref 192), .val (.ref s1), .val (.int p2), .val (.int v1)], [], (126, 120, L, [Y, T, H, H2, RA, RB, ST, NS, I0, I1, I2, BO, FI, RG, GU, PU, MA, MN, MS, OT, SC], [r0, r1, r2, r3, w, r5, r6, r7, r8], Lg)) o from ev_t (c := v1 = 0) _ _ 2  zc49 e (fun n => Eq.refl _)
          have ze50 := Option.some.inj h
          subst ze50
          exact ev_rete 2 ho (fun n => Eq.refl _)
        · have h := itn h zc49
          suffices e : Ev (d + 1, 0, 0, 203, 176, [.val (.ref 192), .val (.ref s1), .val (.int p2), .val (.int v1)], [], (126, 120, L, [Y, T, H, H2, RA, RB, ST, NS, I0, I1, I2, BO, FI, RG, GU, PU, MA, MN, MS, OT, SC], [r0, r1, r2, r3, w, r5, r6, r7, r8], Lg)) o from ev_f (c := v1 = 0) _ _ 2  zc49 e (fun n => Eq.refl _)
          have ze51 := Option.some.inj h
          subst ze51
          exact ev_rete 3 ho (fun n => Eq.refl _)
      have h := itn h zc48
      by_cases zc52 : x2 = 9
      · have h := itp h zc52
        suffices e : Ev (d + 1, 0, 0, 203, 172, [.val (.ref 192), .val (.ref s1), .val (.int p2), .val (.int v1)], [], (126, 120, L, [Y, T, H, H2, RA, RB, ST, NS, I0, I1, I2, BO, FI, RG, GU, PU, MA, MN, MS, OT, SC], [r0, r1, r2, r3, w, r5, r6, r7, r8], Lg)) o from ev_sw [((1 : Int32), 80), ((2 : Int32), 98), ((3 : Int32), 116), ((4 : Int32), 135), ((5 : Int32), 154), ((6 : Int32), 172), ((7 : Int32), 172), ((8 : Int32), 172), ((9 : Int32), 172), ((10 : Int32), 172)] x2 (fun tt => (d + 1, 0, 0, 203, tt, [.val (.ref 192), .val (.ref s1), .val (.int p2), .val (.int v1)], [], (126, 120, L, [Y, T, H, H2, RA, RB, ST, NS, I0, I1, I2, BO, FI, RG, GU, PU, MA, MN, MS, OT, SC], [r0, r1, r2, r3, w, r5, r6, r7, r8], Lg))) 182 172 1 (fun f => by simp only [a_sw, if_neg zc10, if_neg zc16, if_neg zc22, if_neg zc28, if_neg zc34, if_neg zc40, if_neg zc44, if_neg zc48, if_pos zc52]) e (fun n => Eq.refl _)
        by_cases zc53 : v1 = 0
        · have h := itp h zc53
          suffices e : Ev (d + 1, 0, 0, 203, 180, [.val (.ref 192), .val (.ref s1), .val (.int p2), .val (.int v1)], [], (126, 120, L, [Y, T, H, H2, RA, RB, ST, NS, I0, I1, I2, BO, FI, RG, GU, PU, MA, MN, MS, OT, SC], [r0, r1, r2, r3, w, r5, r6, r7, r8], Lg)) o from ev_t (c := v1 = 0) _ _ 2  zc53 e (fun n => Eq.refl _)
          have ze54 := Option.some.inj h
          subst ze54
          exact ev_rete 2 ho (fun n => Eq.refl _)
        · have h := itn h zc53
          suffices e : Ev (d + 1, 0, 0, 203, 176, [.val (.ref 192), .val (.ref s1), .val (.int p2), .val (.int v1)], [], (126, 120, L, [Y, T, H, H2, RA, RB, ST, NS, I0, I1, I2, BO, FI, RG, GU, PU, MA, MN, MS, OT, SC], [r0, r1, r2, r3, w, r5, r6, r7, r8], Lg)) o from ev_f (c := v1 = 0) _ _ 2  zc53 e (fun n => Eq.refl _)
          have ze55 := Option.some.inj h
          subst ze55
          exact ev_rete 3 ho (fun n => Eq.refl _)
      have h := itn h zc52
      by_cases zc56 : x2 = 10
      · have h := itp h zc56
        suffices e : Ev (d + 1, 0, 0, 203, 172, [.val (.ref 192), .val (.ref s1), .val (.int p2), .val (.int v1)], [], (126, 120, L, [Y, T, H, H2, RA, RB, ST, NS, I0, I1, I2, BO, FI, RG, GU, PU, MA, MN, MS, OT, SC], [r0, r1, r2, r3, w, r5, r6, r7, r8], Lg)) o from ev_sw [((1 : Int32), 80), ((2 : Int32), 98), ((3 : Int32), 116), ((4 : Int32), 135), ((5 : Int32), 154), ((6 : Int32), 172), ((7 : Int32), 172), ((8 : Int32), 172), ((9 : Int32), 172), ((10 : Int32), 172)] x2 (fun tt => (d + 1, 0, 0, 203, tt, [.val (.ref 192), .val (.ref s1), .val (.int p2), .val (.int v1)], [], (126, 120, L, [Y, T, H, H2, RA, RB, ST, NS, I0, I1, I2, BO, FI, RG, GU, PU, MA, MN, MS, OT, SC], [r0, r1, r2, r3, w, r5, r6, r7, r8], Lg))) 182 172 1 (fun f => by simp only [a_sw, if_neg zc10, if_neg zc16, if_neg zc22, if_neg zc28, if_neg zc34, if_neg zc40, if_neg zc44, if_neg zc48, if_neg zc52, if_pos zc56]) e (fun n => Eq.refl _)
        by_cases zc57 : v1 = 0
        · have h := itp h zc57
          suffices e : Ev (d + 1, 0, 0, 203, 180, [.val (.ref 192), .val (.ref s1), .val (.int p2), .val (.int v1)], [], (126, 120, L, [Y, T, H, H2, RA, RB, ST, NS, I0, I1, I2, BO, FI, RG, GU, PU, MA, MN, MS, OT, SC], [r0, r1, r2, r3, w, r5, r6, r7, r8], Lg)) o from ev_t (c := v1 = 0) _ _ 2  zc57 e (fun n => Eq.refl _)
          have ze58 := Option.some.inj h
          subst ze58
          exact ev_rete 2 ho (fun n => Eq.refl _)
        · have h := itn h zc57
          suffices e : Ev (d + 1, 0, 0, 203, 176, [.val (.ref 192), .val (.ref s1), .val (.int p2), .val (.int v1)], [], (126, 120, L, [Y, T, H, H2, RA, RB, ST, NS, I0, I1, I2, BO, FI, RG, GU, PU, MA, MN, MS, OT, SC], [r0, r1, r2, r3, w, r5, r6, r7, r8], Lg)) o from ev_f (c := v1 = 0) _ _ 2  zc57 e (fun n => Eq.refl _)
          have ze59 := Option.some.inj h
          subst ze59
          exact ev_rete 3 ho (fun n => Eq.refl _)
      have h := itn h zc56
      suffices e : Ev (d + 1, 0, 0, 203, 182, [.val (.ref 192), .val (.ref s1), .val (.int p2), .val (.int v1)], [], (126, 120, L, [Y, T, H, H2, RA, RB, ST, NS, I0, I1, I2, BO, FI, RG, GU, PU, MA, MN, MS, OT, SC], [r0, r1, r2, r3, w, r5, r6, r7, r8], Lg)) o from ev_sw [((1 : Int32), 80), ((2 : Int32), 98), ((3 : Int32), 116), ((4 : Int32), 135), ((5 : Int32), 154), ((6 : Int32), 172), ((7 : Int32), 172), ((8 : Int32), 172), ((9 : Int32), 172), ((10 : Int32), 172)] x2 (fun tt => (d + 1, 0, 0, 203, tt, [.val (.ref 192), .val (.ref s1), .val (.int p2), .val (.int v1)], [], (126, 120, L, [Y, T, H, H2, RA, RB, ST, NS, I0, I1, I2, BO, FI, RG, GU, PU, MA, MN, MS, OT, SC], [r0, r1, r2, r3, w, r5, r6, r7, r8], Lg))) 182 182 1 (fun f => by simp only [a_sw, if_neg zc10, if_neg zc16, if_neg zc22, if_neg zc28, if_neg zc34, if_neg zc40, if_neg zc44, if_neg zc48, if_neg zc52, if_neg zc56]) e (fun n => Eq.refl _)
      have ze60 := Option.some.inj h
      subst ze60
      exact ev_rete 2 ho (fun n => Eq.refl _)
    by_cases zc61 : p2 < 60
    · have zh5 := itp zh5 zc61
      suffices e : Ev (d + 1, 0, 0, 203, 16, [.val (.ref 192), .val (.ref s1), .val (.int p2), .val a_unk], [], (126, 120, L, [Y, T, H, H2, RA, RB, ST, NS, I0, I1, I2, BO, FI, RG, GU, PU, MA, MN, MS, OT, SC], [r0, r1, r2, r3, w, r5, r6, r7, r8], Lg)) o from ev_t (c := p2 < 60) _ _ 3  zc61 e (fun n => Eq.refl _)
      exact ev_b 1 (zj6 0 (Option.some.inj zh5) ) (fun n => Eq.refl _)
    · have zh5 := itn zh5 zc61
      suffices e : Ev (d + 1, 0, 0, 203, 12, [.val (.ref 192), .val (.ref s1), .val (.int p2), .val a_unk], [], (126, 120, L, [Y, T, H, H2, RA, RB, ST, NS, I0, I1, I2, BO, FI, RG, GU, PU, MA, MN, MS, OT, SC], [r0, r1, r2, r3, w, r5, r6, r7, r8], Lg)) o from ev_f (c := p2 < 60) _ _ 3  zc61 e (fun n => Eq.refl _)
      exact ev_b 2 (zj6 1 (Option.some.inj zh5) ) (fun n => Eq.refl _)
set_option maxRecDepth 1000000 in
set_option maxHeartbeats 4000000 in
theorem R_f_House_readHours_1 (d : Nat) (Y T H H2 RA RB ST NS I0 I1 I2 BO FI RG GU PU MA MN MS OT SC : Nat → Nat → Int32) (r0 r1 r2 r3 w r5 r6 r7 r8 : Nat) (L : Nat) (Lg : Int64) {r : (Nat → Nat → Int32) × (Nat → Nat → Int32) × Nat} (h : f_House_readHours T H w = some r) : Ev (d + 7, 0, 0, 205, 0, [.val (.ref 192), .val (.ref 128), .val a_unk], [], (126, 120, L, [Y, T, H, H2, RA, RB, ST, NS, I0, I1, I2, BO, FI, RG, GU, PU, MA, MN, MS, OT, SC], [r0, r1, r2, r3, w, r5, r6, r7, r8], Lg)) ((0, none, (126, 120, L, [Y, r.1, r.2.1, H2, RA, RB, ST, NS, I0, I1, I2, BO, FI, RG, GU, PU, MA, MN, MS, OT, SC], [r0, r1, r2, r3, r.2.2, r5, r6, r7, r8], Lg)) : AOut) := by
  suffices key : ∀ o : AOut, ((0, none, (126, 120, L, [Y, r.1, r.2.1, H2, RA, RB, ST, NS, I0, I1, I2, BO, FI, RG, GU, PU, MA, MN, MS, OT, SC], [r0, r1, r2, r3, r.2.2, r5, r6, r7, r8], Lg)) : AOut) = o → Ev (d + 7, 0, 0, 205, 0, [.val (.ref 192), .val (.ref 128), .val a_unk], [], (126, 120, L, [Y, T, H, H2, RA, RB, ST, NS, I0, I1, I2, BO, FI, RG, GU, PU, MA, MN, MS, OT, SC], [r0, r1, r2, r3, w, r5, r6, r7, r8], Lg)) o from key _ rfl
  intro o ho
  obtain ⟨⟨x1, T_2, w3⟩, zh1, h⟩ := bnd h
  have zh1 : f_Tape_number T w 1 10 = some (x1, T_2, w3) := zh1
  have ze2 := R_f_Tape_number_0 (d + 0) Y T H H2 RA RB ST NS I0 I1 I2 BO FI RG GU PU MA MN MS OT SC r0 r1 r2 r3 w r5 r6 r7 r8 L Lg 1 10 zh1
  suffices e : Ev (d + 7, 0, 0, 205, 7, [.val (.ref 192), .val (.ref 128), .val a_unk], [.int x1], (126, 120, L, [Y, T_2, H, H2, RA, RB, ST, NS, I0, I1, I2, BO, FI, RG, GU, PU, MA, MN, MS, OT, SC], [r0, r1, r2, r3, w3, r5, r6, r7, r8], Lg)) o from ev_call (fun v μ => (d + 7, 0, 0, 205, 7, [.val (.ref 192), .val (.ref 128), .val a_unk], v.toList ++ [], μ)) 4 ze2 e (fun n => Eq.refl _)
  obtain ⟨⟨x4, T_5, w6⟩, zh3, h⟩ := bnd h
  have zh3 : f_Tape_pass T_2 w3 59 = some (x4, T_5, w6) := zh3
  have ze4 := R_f_Tape_pass_0 (d + 0) Y T_2 H H2 RA RB ST NS I0 I1 I2 BO FI RG GU PU MA MN MS OT SC r0 r1 r2 r3 w3 r5 r6 r7 r8 L Lg 59 zh3
  suffices e : Ev (d + 7, 0, 0, 205, 14, [.val (.ref 192), .val (.ref 128), .val (.int x1)], [.int x4], (126, 120, L, [Y, T_5, H, H2, RA, RB, ST, NS, I0, I1, I2, BO, FI, RG, GU, PU, MA, MN, MS, OT, SC], [r0, r1, r2, r3, w6, r5, r6, r7, r8], Lg)) o from ev_call (fun v μ => (d + 7, 0, 0, 205, 14, [.val (.ref 192), .val (.ref 128), .val (.int x1)], v.toList ++ [], μ)) 4 ze4 e (fun n => Eq.refl _)
  by_cases zc5 : x4 = 0
  · have h := itp h zc5
    suffices e : Ev (d + 7, 0, 0, 205, 22, [.val (.ref 192), .val (.ref 128), .val (.int x1)], [], (126, 120, L, [Y, T_5, H, H2, RA, RB, ST, NS, I0, I1, I2, BO, FI, RG, GU, PU, MA, MN, MS, OT, SC], [r0, r1, r2, r3, w6, r5, r6, r7, r8], Lg)) o from ev_t (c := x4 = 0) _ _ 1  zc5 e (fun n => Eq.refl _)
    have ze6 := Option.some.inj h
    subst ze6
    exact ev_rete 1 ho (fun n => Eq.refl _)
  · have h := itn h zc5
    suffices e : Ev (d + 7, 0, 0, 205, 17, [.val (.ref 192), .val (.ref 128), .val (.int x1)], [], (126, 120, L, [Y, T_5, H, H2, RA, RB, ST, NS, I0, I1, I2, BO, FI, RG, GU, PU, MA, MN, MS, OT, SC], [r0, r1, r2, r3, w6, r5, r6, r7, r8], Lg)) o from ev_f (c := x4 = 0) _ _ 1  zc5 e (fun n => Eq.refl _)
    have ze7 := Option.some.inj h
    subst ze7
    exact ev_rete 4 ho (fun n => Eq.refl _)
set_option maxRecDepth 1000000 in
set_option maxHeartbeats 4000000 in
theorem R_f_House_readRoom_1 (d : Nat) (Y T H H2 RA RB ST NS I0 I1 I2 BO FI RG GU PU MA MN MS OT SC : Nat → Nat → Int32) (r0 r1 r2 r3 w r5 r6 r7 r8 : Nat) (L : Nat) (Lg : Int64) {r : (Nat → Nat → Int32) × (Nat → Nat → Int32) × Nat} (h : f_House_readRoom T H w = some r) : Ev (d + 7, 0, 0, 206, 0, [.val (.ref 192), .val (.ref 128), .val a_unk], [], (126, 120, L, [Y, T, H, H2, RA, RB, ST, NS, I0, I1, I2, BO, FI, RG, GU, PU, MA, MN, MS, OT, SC], [r0, r1, r2, r3, w, r5, r6, r7, r8], Lg)) ((0, none, (126, 120, L, [Y, r.1, r.2.1, H2, RA, RB, ST, NS, I0, I1, I2, BO, FI, RG, GU, PU, MA, MN, MS, OT, SC], [r0, r1, r2, r3, r.2.2, r5, r6, r7, r8], Lg)) : AOut) := by
  suffices key : ∀ o : AOut, ((0, none, (126, 120, L, [Y, r.1, r.2.1, H2, RA, RB, ST, NS, I0, I1, I2, BO, FI, RG, GU, PU, MA, MN, MS, OT, SC], [r0, r1, r2, r3, r.2.2, r5, r6, r7, r8], Lg)) : AOut) = o → Ev (d + 7, 0, 0, 206, 0, [.val (.ref 192), .val (.ref 128), .val a_unk], [], (126, 120, L, [Y, T, H, H2, RA, RB, ST, NS, I0, I1, I2, BO, FI, RG, GU, PU, MA, MN, MS, OT, SC], [r0, r1, r2, r3, w, r5, r6, r7, r8], Lg)) o from key _ rfl
  intro o ho
  obtain ⟨⟨x1, T_2, w3⟩, zh1, h⟩ := bnd h
  have zh1 : f_Tape_number T w 0 20 = some (x1, T_2, w3) := zh1
  have ze2 := R_f_Tape_number_0 (d + 0) Y T H H2 RA RB ST NS I0 I1 I2 BO FI RG GU PU MA MN MS OT SC r0 r1 r2 r3 w r5 r6 r7 r8 L Lg 0 20 zh1
  suffices e : Ev (d + 7, 0, 0, 206, 7, [.val (.ref 192), .val (.ref 128), .val a_unk], [.int x1], (126, 120, L, [Y, T_2, H, H2, RA, RB, ST, NS, I0, I1, I2, BO, FI, RG, GU, PU, MA, MN, MS, OT, SC], [r0, r1, r2, r3, w3, r5, r6, r7, r8], Lg)) o from ev_call (fun v μ => (d + 7, 0, 0, 206, 7, [.val (.ref 192), .val (.ref 128), .val a_unk], v.toList ++ [], μ)) 4 ze2 e (fun n => Eq.refl _)
  obtain ⟨⟨x4, T_5, w6⟩, zh3, h⟩ := bnd h
  have zh3 : f_Tape_pass T_2 w3 59 = some (x4, T_5, w6) := zh3
  have ze4 := R_f_Tape_pass_0 (d + 0) Y T_2 H H2 RA RB ST NS I0 I1 I2 BO FI RG GU PU MA MN MS OT SC r0 r1 r2 r3 w3 r5 r6 r7 r8 L Lg 59 zh3
  suffices e : Ev (d + 7, 0, 0, 206, 14, [.val (.ref 192), .val (.ref 128), .val (.int x1)], [.int x4], (126, 120, L, [Y, T_5, H, H2, RA, RB, ST, NS, I0, I1, I2, BO, FI, RG, GU, PU, MA, MN, MS, OT, SC], [r0, r1, r2, r3, w6, r5, r6, r7, r8], Lg)) o from ev_call (fun v μ => (d + 7, 0, 0, 206, 14, [.val (.ref 192), .val (.ref 128), .val (.int x1)], v.toList ++ [], μ)) 4 ze4 e (fun n => Eq.refl _)
  by_cases zc5 : x4 = 0
  · have h := itp h zc5
    suffices e : Ev (d + 7, 0, 0, 206, 45, [.val (.ref 192), .val (.ref 128), .val (.int x1)], [], (126, 120, L, [Y, T_5, H, H2, RA, RB, ST, NS, I0, I1, I2, BO, FI, RG, GU, PU, MA, MN, MS, OT, SC], [r0, r1, r2, r3, w6, r5, r6, r7, r8], Lg)) o from ev_t (c := x4 = 0) _ _ 1  zc5 e (fun n => Eq.refl _)
    have ze6 := Option.some.inj h
    subst ze6
    exact ev_rete 1 ho (fun n => Eq.refl _)
  · have h := itn h zc5
    suffices e : Ev (d + 7, 0, 0, 206, 17, [.val (.ref 192), .val (.ref 128), .val (.int x1)], [], (126, 120, L, [Y, T_5, H, H2, RA, RB, ST, NS, I0, I1, I2, BO, FI, RG, GU, PU, MA, MN, MS, OT, SC], [r0, r1, r2, r3, w6, r5, r6, r7, r8], Lg)) o from ev_f (c := x4 = 0) _ _ 1  zc5 e (fun n => Eq.refl _)
    by_cases zc7 : 3 ≤ (H 0 1)
    · have h := itp h zc7
      suffices e : Ev (d + 7, 0, 0, 206, 45, [.val (.ref 192), .val (.ref 128), .val (.int x1)], [], (126, 120, L, [Y, T_5, H, H2, RA, RB, ST, NS, I0, I1, I2, BO, FI, RG, GU, PU, MA, MN, MS, OT, SC], [r0, r1, r2, r3, w6, r5, r6, r7, r8], Lg)) o from ev_t (c := 3 ≤ (H 0 1)) _ _ 4  zc7 e (fun n => Eq.refl _)
      have ze8 := Option.some.inj h
      subst ze8
      exact ev_rete 1 ho (fun n => Eq.refl _)
    · have h := itn h zc7
      suffices e : Ev (d + 7, 0, 0, 206, 25, [.val (.ref 192), .val (.ref 128), .val (.int x1)], [], (126, 120, L, [Y, T_5, H, H2, RA, RB, ST, NS, I0, I1, I2, BO, FI, RG, GU, PU, MA, MN, MS, OT, SC], [r0, r1, r2, r3, w6, r5, r6, r7, r8], Lg)) o from ev_f (c := 3 ≤ (H 0 1)) _ _ 4  zc7 e (fun n => Eq.refl _)
      obtain ⟨j7, zh9, h⟩ := bnd h
      have zh9 : ixx 3 (H 0 1) = some j7 := zh9
      suffices e : Ev (d + 7, 0, 0, 206, 35, [.val (.ref 192), .val (.ref 128), .val (.int x1)], [], (126, 120, L, [Y, T_5, (u2 H 1 j7 x1), H2, RA, RB, ST, NS, I0, I1, I2, BO, FI, RG, GU, PU, MA, MN, MS, OT, SC], [r0, r1, r2, r3, w6, r5, r6, r7, r8], Lg)) o from ev_opt (fun j7 => (d + 7, 0, 0, 206, 35, [.val (.ref 192), .val (.ref 128), .val (.int x1)], [], (126, 120, L, [Y, T_5, (u2 H 1 j7 x1), H2, RA, RB, ST, NS, I0, I1, I2, BO, FI, RG, GU, PU, MA, MN, MS, OT, SC], [r0, r1, r2, r3, w6, r5, r6, r7, r8], Lg))) 6 zh9 e (fun n => Eq.refl _)
      have ze10 := Option.some.inj h
      subst ze10
      exact ev_rete 7 ho (fun n => Eq.refl _)
set_option maxRecDepth 1000000 in
set_option maxHeartbeats 4000000 in
theorem R_f_House_readPerson_1 (d : Nat) (Y T H H2 RA RB ST NS I0 I1 I2 BO FI RG GU PU MA MN MS OT SC : Nat → Nat → Int32) (r0 r1 r2 r3 w r5 r6 r7 r8 : Nat) (L : Nat) (Lg : Int64) {r : (Nat → Nat → Int32) × (Nat → Nat → Int32) × Nat} (h : f_House_readPerson T H w = some r) : Ev (d + 7, 0, 0, 207, 0, [.val (.ref 192), .val (.ref 128), .val a_unk, .val a_unk], [], (126, 120, L, [Y, T, H, H2, RA, RB, ST, NS, I0, I1, I2, BO, FI, RG, GU, PU, MA, MN, MS, OT, SC], [r0, r1, r2, r3, w, r5, r6, r7, r8], Lg)) ((0, none, (126, 120, L, [Y, r.1, r.2.1, H2, RA, RB, ST, NS, I0, I1, I2, BO, FI, RG, GU, PU, MA, MN, MS, OT, SC], [r0, r1, r2, r3, r.2.2, r5, r6, r7, r8], Lg)) : AOut) := by
  suffices key : ∀ o : AOut, ((0, none, (126, 120, L, [Y, r.1, r.2.1, H2, RA, RB, ST, NS, I0, I1, I2, BO, FI, RG, GU, PU, MA, MN, MS, OT, SC], [r0, r1, r2, r3, r.2.2, r5, r6, r7, r8], Lg)) : AOut) = o → Ev (d + 7, 0, 0, 207, 0, [.val (.ref 192), .val (.ref 128), .val a_unk, .val a_unk], [], (126, 120, L, [Y, T, H, H2, RA, RB, ST, NS, I0, I1, I2, BO, FI, RG, GU, PU, MA, MN, MS, OT, SC], [r0, r1, r2, r3, w, r5, r6, r7, r8], Lg)) o from key _ rfl
  intro o ho
  obtain ⟨⟨x1, T_2, w3⟩, zh1, h⟩ := bnd h
  have zh1 : f_Tape_number T w 0 9 = some (x1, T_2, w3) := zh1
  have ze2 := R_f_Tape_number_0 (d + 0) Y T H H2 RA RB ST NS I0 I1 I2 BO FI RG GU PU MA MN MS OT SC r0 r1 r2 r3 w r5 r6 r7 r8 L Lg 0 9 zh1
  suffices e : Ev (d + 7, 0, 0, 207, 7, [.val (.ref 192), .val (.ref 128), .val a_unk, .val a_unk], [.int x1], (126, 120, L, [Y, T_2, H, H2, RA, RB, ST, NS, I0, I1, I2, BO, FI, RG, GU, PU, MA, MN, MS, OT, SC], [r0, r1, r2, r3, w3, r5, r6, r7, r8], Lg)) o from ev_call (fun v μ => (d + 7, 0, 0, 207, 7, [.val (.ref 192), .val (.ref 128), .val a_unk, .val a_unk], v.toList ++ [], μ)) 4 ze2 e (fun n => Eq.refl _)
  obtain ⟨⟨x4, T_5, w6⟩, zh3, h⟩ := bnd h
  have zh3 : f_Tape_number T_2 w3 0 9 = some (x4, T_5, w6) := zh3
  have ze4 := R_f_Tape_number_0 (d + 0) Y T_2 H H2 RA RB ST NS I0 I1 I2 BO FI RG GU PU MA MN MS OT SC r0 r1 r2 r3 w3 r5 r6 r7 r8 L Lg 0 9 zh3
  suffices e : Ev (d + 7, 0, 0, 207, 15, [.val (.ref 192), .val (.ref 128), .val (.int x1), .val a_unk], [.int x4], (126, 120, L, [Y, T_5, H, H2, RA, RB, ST, NS, I0, I1, I2, BO, FI, RG, GU, PU, MA, MN, MS, OT, SC], [r0, r1, r2, r3, w6, r5, r6, r7, r8], Lg)) o from ev_call (fun v μ => (d + 7, 0, 0, 207, 15, [.val (.ref 192), .val (.ref 128), .val (.int x1), .val a_unk], v.toList ++ [], μ)) 5 ze4 e (fun n => Eq.refl _)
  obtain ⟨⟨x7, T_8, w9⟩, zh5, h⟩ := bnd h
  have zh5 : f_Tape_pass T_5 w6 59 = some (x7, T_8, w9) := zh5
  have ze6 := R_f_Tape_pass_0 (d + 0) Y T_5 H H2 RA RB ST NS I0 I1 I2 BO FI RG GU PU MA MN MS OT SC r0 r1 r2 r3 w6 r5 r6 r7 r8 L Lg 59 zh5
  suffices e : Ev (d + 7, 0, 0, 207, 22, [.val (.ref 192), .val (.ref 128), .val (.int x1), .val (.int x4)], [.int x7], (126, 120, L, [Y, T_8, H, H2, RA, RB, ST, NS, I0, I1, I2, BO, FI, RG, GU, PU, MA, MN, MS, OT, SC], [r0, r1, r2, r3, w9, r5, r6, r7, r8], Lg)) o from ev_call (fun v μ => (d + 7, 0, 0, 207, 22, [.val (.ref 192), .val (.ref 128), .val (.int x1), .val (.int x4)], v.toList ++ [], μ)) 4 ze6 e (fun n => Eq.refl _)
  by_cases zc7 : x7 = 0
  · have h := itp h zc7
    suffices e : Ev (d + 7, 0, 0, 207, 64, [.val (.ref 192), .val (.ref 128), .val (.int x1), .val (.int x4)], [], (126, 120, L, [Y, T_8, H, H2, RA, RB, ST, NS, I0, I1, I2, BO, FI, RG, GU, PU, MA, MN, MS, OT, SC], [r0, r1, r2, r3, w9, r5, r6, r7, r8], Lg)) o from ev_t (c := x7 = 0) _ _ 1  zc7 e (fun n => Eq.refl _)
    have ze8 := Option.some.inj h
    subst ze8
    exact ev_rete 1 ho (fun n => Eq.refl _)
  · have h := itn h zc7
    suffices e : Ev (d + 7, 0, 0, 207, 25, [.val (.ref 192), .val (.ref 128), .val (.int x1), .val (.int x4)], [], (126, 120, L, [Y, T_8, H, H2, RA, RB, ST, NS, I0, I1, I2, BO, FI, RG, GU, PU, MA, MN, MS, OT, SC], [r0, r1, r2, r3, w9, r5, r6, r7, r8], Lg)) o from ev_f (c := x7 = 0) _ _ 1  zc7 e (fun n => Eq.refl _)
    by_cases zc9 : 8 ≤ (H 0 2)
    · have h := itp h zc9
      suffices e : Ev (d + 7, 0, 0, 207, 64, [.val (.ref 192), .val (.ref 128), .val (.int x1), .val (.int x4)], [], (126, 120, L, [Y, T_8, H, H2, RA, RB, ST, NS, I0, I1, I2, BO, FI, RG, GU, PU, MA, MN, MS, OT, SC], [r0, r1, r2, r3, w9, r5, r6, r7, r8], Lg)) o from ev_t (c := 8 ≤ (H 0 2)) _ _ 4  zc9 e (fun n => Eq.refl _)
      have ze10 := Option.some.inj h
      subst ze10
      exact ev_rete 1 ho (fun n => Eq.refl _)
    · have h := itn h zc9
      suffices e : Ev (d + 7, 0, 0, 207, 34, [.val (.ref 192), .val (.ref 128), .val (.int x1), .val (.int x4)], [], (126, 120, L, [Y, T_8, H, H2, RA, RB, ST, NS, I0, I1, I2, BO, FI, RG, GU, PU, MA, MN, MS, OT, SC], [r0, r1, r2, r3, w9, r5, r6, r7, r8], Lg)) o from ev_f (c := 8 ≤ (H 0 2)) _ _ 4  zc9 e (fun n => Eq.refl _)
      obtain ⟨j10, zh11, h⟩ := bnd h
      have zh11 : ixx 8 (H 0 2) = some j10 := zh11
      suffices e : Ev (d + 7, 0, 0, 207, 44, [.val (.ref 192), .val (.ref 128), .val (.int x1), .val (.int x4)], [], (126, 120, L, [Y, T_8, (u2 H 2 j10 x1), H2, RA, RB, ST, NS, I0, I1, I2, BO, FI, RG, GU, PU, MA, MN, MS, OT, SC], [r0, r1, r2, r3, w9, r5, r6, r7, r8], Lg)) o from ev_opt (fun j10 => (d + 7, 0, 0, 207, 44, [.val (.ref 192), .val (.ref 128), .val (.int x1), .val (.int x4)], [], (126, 120, L, [Y, T_8, (u2 H 2 j10 x1), H2, RA, RB, ST, NS, I0, I1, I2, BO, FI, RG, GU, PU, MA, MN, MS, OT, SC], [r0, r1, r2, r3, w9, r5, r6, r7, r8], Lg))) 6 zh11 e (fun n => Eq.refl _)
      obtain ⟨j11, zh12, h⟩ := bnd h
      have zh12 : ixx 8 ((u2 H 2 j10 x1) 0 2) = some j11 := zh12
      suffices e : Ev (d + 7, 0, 0, 207, 54, [.val (.ref 192), .val (.ref 128), .val (.int x1), .val (.int x4)], [], (126, 120, L, [Y, T_8, (u2 (u2 H 2 j10 x1) 3 j11 x4), H2, RA, RB, ST, NS, I0, I1, I2, BO, FI, RG, GU, PU, MA, MN, MS, OT, SC], [r0, r1, r2, r3, w9, r5, r6, r7, r8], Lg)) o from ev_opt (fun j11 => (d + 7, 0, 0, 207, 54, [.val (.ref 192), .val (.ref 128), .val (.int x1), .val (.int x4)], [], (126, 120, L, [Y, T_8, (u2 (u2 H 2 j10 x1) 3 j11 x4), H2, RA, RB, ST, NS, I0, I1, I2, BO, FI, RG, GU, PU, MA, MN, MS, OT, SC], [r0, r1, r2, r3, w9, r5, r6, r7, r8], Lg))) 6 zh12 e (fun n => Eq.refl _)
      have ze13 := Option.some.inj h
      subst ze13
      exact ev_rete 7 ho (fun n => Eq.refl _)
set_option maxRecDepth 1000000 in
set_option maxHeartbeats 4000000 in
theorem R_f_House_readMeet_1 (d : Nat) (Y T H H2 RA RB ST NS I0 I1 I2 BO FI RG GU PU MA MN MS OT SC : Nat → Nat → Int32) (r0 r1 r2 r3 w r5 r6 r7 r8 : Nat) (L : Nat) (Lg : Int64) {r : (Nat → Nat → Int32) × (Nat → Nat → Int32) × Nat} (h : f_House_readMeet T H w = some r) : Ev (d + 7, 0, 0, 209, 0, [.val (.ref 192), .val (.ref 128), .val a_unk, .val a_unk, .val a_unk], [], (126, 120, L, [Y, T, H, H2, RA, RB, ST, NS, I0, I1, I2, BO, FI, RG, GU, PU, MA, MN, MS, OT, SC], [r0, r1, r2, r3, w, r5, r6, r7, r8], Lg)) ((0, none, (126, 120, L, [Y, r.1, r.2.1, H2, RA, RB, ST, NS, I0, I1, I2, BO, FI, RG, GU, PU, MA, MN, MS, OT, SC], [r0, r1, r2, r3, r.2.2, r5, r6, r7, r8], Lg)) : AOut) := by
  suffices key : ∀ o : AOut, ((0, none, (126, 120, L, [Y, r.1, r.2.1, H2, RA, RB, ST, NS, I0, I1, I2, BO, FI, RG, GU, PU, MA, MN, MS, OT, SC], [r0, r1, r2, r3, r.2.2, r5, r6, r7, r8], Lg)) : AOut) = o → Ev (d + 7, 0, 0, 209, 0, [.val (.ref 192), .val (.ref 128), .val a_unk, .val a_unk, .val a_unk], [], (126, 120, L, [Y, T, H, H2, RA, RB, ST, NS, I0, I1, I2, BO, FI, RG, GU, PU, MA, MN, MS, OT, SC], [r0, r1, r2, r3, w, r5, r6, r7, r8], Lg)) o from key _ rfl
  intro o ho
  obtain ⟨⟨x1, T_2, w3⟩, zh1, h⟩ := bnd h
  have zh1 : f_Tape_number T w 0 ((H 0 0) - 1) = some (x1, T_2, w3) := zh1
  have ze2 := R_f_Tape_number_0 (d + 0) Y T H H2 RA RB ST NS I0 I1 I2 BO FI RG GU PU MA MN MS OT SC r0 r1 r2 r3 w r5 r6 r7 r8 L Lg 0 ((H 0 0) - 1) zh1
  suffices e : Ev (d + 7, 0, 0, 209, 11, [.val (.ref 192), .val (.ref 128), .val a_unk, .val a_unk, .val a_unk], [.int x1], (126, 120, L, [Y, T_2, H, H2, RA, RB, ST, NS, I0, I1, I2, BO, FI, RG, GU, PU, MA, MN, MS, OT, SC], [r0, r1, r2, r3, w3, r5, r6, r7, r8], Lg)) o from ev_call (fun v μ => (d + 7, 0, 0, 209, 11, [.val (.ref 192), .val (.ref 128), .val a_unk, .val a_unk, .val a_unk], v.toList ++ [], μ)) 7 ze2 e (fun n => Eq.refl _)
  obtain ⟨⟨x4, T_5, w6⟩, zh3, h⟩ := bnd h
  have zh3 : f_Tape_number T_2 w3 0 ((H 0 1) - 1) = some (x4, T_5, w6) := zh3
  have ze4 := R_f_Tape_number_0 (d + 0) Y T_2 H H2 RA RB ST NS I0 I1 I2 BO FI RG GU PU MA MN MS OT SC r0 r1 r2 r3 w3 r5 r6 r7 r8 L Lg 0 ((H 0 1) - 1) zh3
  suffices e : Ev (d + 7, 0, 0, 209, 23, [.val (.ref 192), .val (.ref 128), .val (.int x1), .val a_unk, .val a_unk], [.int x4], (126, 120, L, [Y, T_5, H, H2, RA, RB, ST, NS, I0, I1, I2, BO, FI, RG, GU, PU, MA, MN, MS, OT, SC], [r0, r1, r2, r3, w6, r5, r6, r7, r8], Lg)) o from ev_call (fun v μ => (d + 7, 0, 0, 209, 23, [.val (.ref 192), .val (.ref 128), .val (.int x1), .val a_unk, .val a_unk], v.toList ++ [], μ)) 8 ze4 e (fun n => Eq.refl _)
  obtain ⟨⟨x7, T_8, w9⟩, zh5, h⟩ := bnd h
  have zh5 : f_Tape_number T_5 w6 0 99 = some (x7, T_8, w9) := zh5
  have ze6 := R_f_Tape_number_0 (d + 0) Y T_5 H H2 RA RB ST NS I0 I1 I2 BO FI RG GU PU MA MN MS OT SC r0 r1 r2 r3 w6 r5 r6 r7 r8 L Lg 0 99 zh5
  suffices e : Ev (d + 7, 0, 0, 209, 31, [.val (.ref 192), .val (.ref 128), .val (.int x1), .val (.int x4), .val a_unk], [.int x7], (126, 120, L, [Y, T_8, H, H2, RA, RB, ST, NS, I0, I1, I2, BO, FI, RG, GU, PU, MA, MN, MS, OT, SC], [r0, r1, r2, r3, w9, r5, r6, r7, r8], Lg)) o from ev_call (fun v μ => (d + 7, 0, 0, 209, 31, [.val (.ref 192), .val (.ref 128), .val (.int x1), .val (.int x4), .val a_unk], v.toList ++ [], μ)) 5 ze6 e (fun n => Eq.refl _)
  obtain ⟨⟨x10, T_11, w12⟩, zh7, h⟩ := bnd h
  have zh7 : f_Tape_pass T_8 w9 59 = some (x10, T_11, w12) := zh7
  have ze8 := R_f_Tape_pass_0 (d + 0) Y T_8 H H2 RA RB ST NS I0 I1 I2 BO FI RG GU PU MA MN MS OT SC r0 r1 r2 r3 w9 r5 r6 r7 r8 L Lg 59 zh7
  suffices e : Ev (d + 7, 0, 0, 209, 39, [.val (.ref 192), .val (.ref 128), .val (.int x1), .val (.int x4), .val (.int x7)], [.int x10], (126, 120, L, [Y, T_11, H, H2, RA, RB, ST, NS, I0, I1, I2, BO, FI, RG, GU, PU, MA, MN, MS, OT, SC], [r0, r1, r2, r3, w12, r5, r6, r7, r8], Lg)) o from ev_call (fun v μ => (d + 7, 0, 0, 209, 39, [.val (.ref 192), .val (.ref 128), .val (.int x1), .val (.int x4), .val (.int x7)], v.toList ++ [], μ)) 4 ze8 e (fun n => Eq.refl _)
  by_cases zc9 : x10 = 0
  · have h := itp h zc9
    suffices e : Ev (d + 7, 0, 0, 209, 86, [.val (.ref 192), .val (.ref 128), .val (.int x1), .val (.int x4), .val (.int x7)], [], (126, 120, L, [Y, T_11, H, H2, RA, RB, ST, NS, I0, I1, I2, BO, FI, RG, GU, PU, MA, MN, MS, OT, SC], [r0, r1, r2, r3, w12, r5, r6, r7, r8], Lg)) o from ev_t (c := x10 = 0) _ _ 1  zc9 e (fun n => Eq.refl _)
    have ze10 := Option.some.inj h
    subst ze10
    exact ev_rete 1 ho (fun n => Eq.refl _)
  · have h := itn h zc9
    suffices e : Ev (d + 7, 0, 0, 209, 42, [.val (.ref 192), .val (.ref 128), .val (.int x1), .val (.int x4), .val (.int x7)], [], (126, 120, L, [Y, T_11, H, H2, RA, RB, ST, NS, I0, I1, I2, BO, FI, RG, GU, PU, MA, MN, MS, OT, SC], [r0, r1, r2, r3, w12, r5, r6, r7, r8], Lg)) o from ev_f (c := x10 = 0) _ _ 1  zc9 e (fun n => Eq.refl _)
    by_cases zc11 : 10 ≤ (H 0 3)
    · have h := itp h zc11
      suffices e : Ev (d + 7, 0, 0, 209, 86, [.val (.ref 192), .val (.ref 128), .val (.int x1), .val (.int x4), .val (.int x7)], [], (126, 120, L, [Y, T_11, H, H2, RA, RB, ST, NS, I0, I1, I2, BO, FI, RG, GU, PU, MA, MN, MS, OT, SC], [r0, r1, r2, r3, w12, r5, r6, r7, r8], Lg)) o from ev_t (c := 10 ≤ (H 0 3)) _ _ 4  zc11 e (fun n => Eq.refl _)
      have ze12 := Option.some.inj h
      subst ze12
      exact ev_rete 1 ho (fun n => Eq.refl _)
    · have h := itn h zc11
      suffices e : Ev (d + 7, 0, 0, 209, 51, [.val (.ref 192), .val (.ref 128), .val (.int x1), .val (.int x4), .val (.int x7)], [], (126, 120, L, [Y, T_11, H, H2, RA, RB, ST, NS, I0, I1, I2, BO, FI, RG, GU, PU, MA, MN, MS, OT, SC], [r0, r1, r2, r3, w12, r5, r6, r7, r8], Lg)) o from ev_f (c := 10 ≤ (H 0 3)) _ _ 4  zc11 e (fun n => Eq.refl _)
      obtain ⟨x13, zh13, h⟩ := bnd h
      have zh13 : f_Y_placeOf x1 x4 = some x13 := zh13
      have ze14 := R_f_Y_placeOf_0 (d + 6) Y T_11 H H2 RA RB ST NS I0 I1 I2 BO FI RG GU PU MA MN MS OT SC r0 r1 r2 r3 w12 r5 r6 r7 r8 L Lg x1 x4 zh13
      suffices e : Ev (d + 7, 0, 0, 209, 64, [.val (.ref 192), .val (.ref 128), .val (.int x1), .val (.int x4), .val (.int x7)], [.int x13, .int (H 0 3), .ref 197], (126, 120, L, [Y, T_11, H, H2, RA, RB, ST, NS, I0, I1, I2, BO, FI, RG, GU, PU, MA, MN, MS, OT, SC], [r0, r1, r2, r3, w12, r5, r6, r7, r8], Lg)) o from ev_call (fun v μ => (d + 7, 0, 0, 209, 64, [.val (.ref 192), .val (.ref 128), .val (.int x1), .val (.int x4), .val (.int x7)], v.toList ++ [.int (H 0 3), .ref 197], μ)) 7 ze14 e (fun n => Eq.refl _)
      obtain ⟨j14, zh15, h⟩ := bnd h
      have zh15 : ixx 10 (H 0 3) = some j14 := zh15
      suffices e : Ev (d + 7, 0, 0, 209, 65, [.val (.ref 192), .val (.ref 128), .val (.int x1), .val (.int x4), .val (.int x7)], [], (126, 120, L, [Y, T_11, (u2 H 5 j14 x13), H2, RA, RB, ST, NS, I0, I1, I2, BO, FI, RG, GU, PU, MA, MN, MS, OT, SC], [r0, r1, r2, r3, w12, r5, r6, r7, r8], Lg)) o from ev_opt (fun j14 => (d + 7, 0, 0, 209, 65, [.val (.ref 192), .val (.ref 128), .val (.int x1), .val (.int x4), .val (.int x7)], [], (126, 120, L, [Y, T_11, (u2 H 5 j14 x13), H2, RA, RB, ST, NS, I0, I1, I2, BO, FI, RG, GU, PU, MA, MN, MS, OT, SC], [r0, r1, r2, r3, w12, r5, r6, r7, r8], Lg))) 1 zh15 e (fun n => Eq.refl _)
      obtain ⟨j15, zh16, h⟩ := bnd h
      have zh16 : ixx 10 ((u2 H 5 j14 x13) 0 3) = some j15 := zh16
      suffices e : Ev (d + 7, 0, 0, 209, 76, [.val (.ref 192), .val (.ref 128), .val (.int x1), .val (.int x4), .val (.int x7)], [], (126, 120, L, [Y, T_11, (u2 (u2 H 5 j14 x13) 7 j15 x7), H2, RA, RB, ST, NS, I0, I1, I2, BO, FI, RG, GU, PU, MA, MN, MS, OT, SC], [r0, r1, r2, r3, w12, r5, r6, r7, r8], Lg)) o from ev_opt (fun j15 => (d + 7, 0, 0, 209, 76, [.val (.ref 192), .val (.ref 128), .val (.int x1), .val (.int x4), .val (.int x7)], [], (126, 120, L, [Y, T_11, (u2 (u2 H 5 j14 x13) 7 j15 x7), H2, RA, RB, ST, NS, I0, I1, I2, BO, FI, RG, GU, PU, MA, MN, MS, OT, SC], [r0, r1, r2, r3, w12, r5, r6, r7, r8], Lg))) 6 zh16 e (fun n => Eq.refl _)
      have ze17 := Option.some.inj h
      subst ze17
      exact ev_rete 7 ho (fun n => Eq.refl _)
set_option maxRecDepth 1000000 in
set_option maxHeartbeats 4000000 in
theorem R_f_House_readHold_1 (d : Nat) (Y T H H2 RA RB ST NS I0 I1 I2 BO FI RG GU PU MA MN MS OT SC : Nat → Nat → Int32) (r0 r1 r2 r3 w r5 r6 r7 r8 : Nat) (L : Nat) (Lg : Int64) {r : (Nat → Nat → Int32) × (Nat → Nat → Int32) × Nat} (h : f_House_readHold T H w = some r) : Ev (d + 7, 0, 0, 210, 0, [.val (.ref 192), .val (.ref 128), .val a_unk, .val a_unk, .val a_unk, .val a_unk], [], (126, 120, L, [Y, T, H, H2, RA, RB, ST, NS, I0, I1, I2, BO, FI, RG, GU, PU, MA, MN, MS, OT, SC], [r0, r1, r2, r3, w, r5, r6, r7, r8], Lg)) ((0, none, (126, 120, L, [Y, r.1, r.2.1, H2, RA, RB, ST, NS, I0, I1, I2, BO, FI, RG, GU, PU, MA, MN, MS, OT, SC], [r0, r1, r2, r3, r.2.2, r5, r6, r7, r8], Lg)) : AOut) := by
  suffices key : ∀ o : AOut, ((0, none, (126, 120, L, [Y, r.1, r.2.1, H2, RA, RB, ST, NS, I0, I1, I2, BO, FI, RG, GU, PU, MA, MN, MS, OT, SC], [r0, r1, r2, r3, r.2.2, r5, r6, r7, r8], Lg)) : AOut) = o → Ev (d + 7, 0, 0, 210, 0, [.val (.ref 192), .val (.ref 128), .val a_unk, .val a_unk, .val a_unk, .val a_unk], [], (126, 120, L, [Y, T, H, H2, RA, RB, ST, NS, I0, I1, I2, BO, FI, RG, GU, PU, MA, MN, MS, OT, SC], [r0, r1, r2, r3, w, r5, r6, r7, r8], Lg)) o from key _ rfl
  intro o ho
  obtain ⟨⟨x1, T_2, w3⟩, zh1, h⟩ := bnd h
  have zh1 : f_Tape_number T w 0 ((H 0 0) - 1) = some (x1, T_2, w3) := zh1
  have ze2 := R_f_Tape_number_0 (d + 0) Y T H H2 RA RB ST NS I0 I1 I2 BO FI RG GU PU MA MN MS OT SC r0 r1 r2 r3 w r5 r6 r7 r8 L Lg 0 ((H 0 0) - 1) zh1
  suffices e : Ev (d + 7, 0, 0, 210, 11, [.val (.ref 192), .val (.ref 128), .val a_unk, .val a_unk, .val a_unk, .val a_unk], [.int x1], (126, 120, L, [Y, T_2, H, H2, RA, RB, ST, NS, I0, I1, I2, BO, FI, RG, GU, PU, MA, MN, MS, OT, SC], [r0, r1, r2, r3, w3, r5, r6, r7, r8], Lg)) o from ev_call (fun v μ => (d + 7, 0, 0, 210, 11, [.val (.ref 192), .val (.ref 128), .val a_unk, .val a_unk, .val a_unk, .val a_unk], v.toList ++ [], μ)) 7 ze2 e (fun n => Eq.refl _)
  obtain ⟨⟨x4, T_5, w6⟩, zh3, h⟩ := bnd h
  have zh3 : f_Tape_number T_2 w3 0 ((H 0 1) - 1) = some (x4, T_5, w6) := zh3
  have ze4 := R_f_Tape_number_0 (d + 0) Y T_2 H H2 RA RB ST NS I0 I1 I2 BO FI RG GU PU MA MN MS OT SC r0 r1 r2 r3 w3 r5 r6 r7 r8 L Lg 0 ((H 0 1) - 1) zh3
  suffices e : Ev (d + 7, 0, 0, 210, 23, [.val (.ref 192), .val (.ref 128), .val (.int x1), .val a_unk, .val a_unk, .val a_unk], [.int x4], (126, 120, L, [Y, T_5, H, H2, RA, RB, ST, NS, I0, I1, I2, BO, FI, RG, GU, PU, MA, MN, MS, OT, SC], [r0, r1, r2, r3, w6, r5, r6, r7, r8], Lg)) o from ev_call (fun v μ => (d + 7, 0, 0, 210, 23, [.val (.ref 192), .val (.ref 128), .val (.int x1), .val a_unk, .val a_unk, .val a_unk], v.toList ++ [], μ)) 8 ze4 e (fun n => Eq.refl _)
  obtain ⟨⟨x7, T_8, w9⟩, zh5, h⟩ := bnd h
  have zh5 : f_Tape_number T_5 w6 0 16 = some (x7, T_8, w9) := zh5
  have ze6 := R_f_Tape_number_0 (d + 0) Y T_5 H H2 RA RB ST NS I0 I1 I2 BO FI RG GU PU MA MN MS OT SC r0 r1 r2 r3 w6 r5 r6 r7 r8 L Lg 0 16 zh5
  suffices e : Ev (d + 7, 0, 0, 210, 31, [.val (.ref 192), .val (.ref 128), .val (.int x1), .val (.int x4), .val a_unk, .val a_unk], [.int x7], (126, 120, L, [Y, T_8, H, H2, RA, RB, ST, NS, I0, I1, I2, BO, FI, RG, GU, PU, MA, MN, MS, OT, SC], [r0, r1, r2, r3, w9, r5, r6, r7, r8], Lg)) o from ev_call (fun v μ => (d + 7, 0, 0, 210, 31, [.val (.ref 192), .val (.ref 128), .val (.int x1), .val (.int x4), .val a_unk, .val a_unk], v.toList ++ [], μ)) 5 ze6 e (fun n => Eq.refl _)
  obtain ⟨⟨x10, T_11, w12⟩, zh7, h⟩ := bnd h
  have zh7 : f_Tape_number T_8 w9 0 99 = some (x10, T_11, w12) := zh7
  have ze8 := R_f_Tape_number_0 (d + 0) Y T_8 H H2 RA RB ST NS I0 I1 I2 BO FI RG GU PU MA MN MS OT SC r0 r1 r2 r3 w9 r5 r6 r7 r8 L Lg 0 99 zh7
  suffices e : Ev (d + 7, 0, 0, 210, 40, [.val (.ref 192), .val (.ref 128), .val (.int x1), .val (.int x4), .val (.int x7), .val a_unk], [.int x10], (126, 120, L, [Y, T_11, H, H2, RA, RB, ST, NS, I0, I1, I2, BO, FI, RG, GU, PU, MA, MN, MS, OT, SC], [r0, r1, r2, r3, w12, r5, r6, r7, r8], Lg)) o from ev_call (fun v μ => (d + 7, 0, 0, 210, 40, [.val (.ref 192), .val (.ref 128), .val (.int x1), .val (.int x4), .val (.int x7), .val a_unk], v.toList ++ [], μ)) 5 ze8 e (fun n => Eq.refl _)
  obtain ⟨⟨x13, T_14, w15⟩, zh9, h⟩ := bnd h
  have zh9 : f_Tape_pass T_11 w12 59 = some (x13, T_14, w15) := zh9
  have ze10 := R_f_Tape_pass_0 (d + 0) Y T_11 H H2 RA RB ST NS I0 I1 I2 BO FI RG GU PU MA MN MS OT SC r0 r1 r2 r3 w12 r5 r6 r7 r8 L Lg 59 zh9
  suffices e : Ev (d + 7, 0, 0, 210, 48, [.val (.ref 192), .val (.ref 128), .val (.int x1), .val (.int x4), .val (.int x7), .val (.int x10)], [.int x13], (126, 120, L, [Y, T_14, H, H2, RA, RB, ST, NS, I0, I1, I2, BO, FI, RG, GU, PU, MA, MN, MS, OT, SC], [r0, r1, r2, r3, w15, r5, r6, r7, r8], Lg)) o from ev_call (fun v μ => (d + 7, 0, 0, 210, 48, [.val (.ref 192), .val (.ref 128), .val (.int x1), .val (.int x4), .val (.int x7), .val (.int x10)], v.toList ++ [], μ)) 4 ze10 e (fun n => Eq.refl _)
  by_cases zc11 : x13 = 0
  · have h := itp h zc11
    suffices e : Ev (d + 7, 0, 0, 210, 97, [.val (.ref 192), .val (.ref 128), .val (.int x1), .val (.int x4), .val (.int x7), .val (.int x10)], [], (126, 120, L, [Y, T_14, H, H2, RA, RB, ST, NS, I0, I1, I2, BO, FI, RG, GU, PU, MA, MN, MS, OT, SC], [r0, r1, r2, r3, w15, r5, r6, r7, r8], Lg)) o from ev_t (c := x13 = 0) _ _ 1  zc11 e (fun n => Eq.refl _)
    have ze12 := Option.some.inj h
    subst ze12
    exact ev_rete 1 ho (fun n => Eq.refl _)
  · have h := itn h zc11
    suffices e : Ev (d + 7, 0, 0, 210, 51, [.val (.ref 192), .val (.ref 128), .val (.int x1), .val (.int x4), .val (.int x7), .val (.int x10)], [], (126, 120, L, [Y, T_14, H, H2, RA, RB, ST, NS, I0, I1, I2, BO, FI, RG, GU, PU, MA, MN, MS, OT, SC], [r0, r1, r2, r3, w15, r5, r6, r7, r8], Lg)) o from ev_f (c := x13 = 0) _ _ 1  zc11 e (fun n => Eq.refl _)
    by_cases zc13 : 4 ≤ (H 0 4)
    · have h := itp h zc13
      suffices e : Ev (d + 7, 0, 0, 210, 97, [.val (.ref 192), .val (.ref 128), .val (.int x1), .val (.int x4), .val (.int x7), .val (.int x10)], [], (126, 120, L, [Y, T_14, H, H2, RA, RB, ST, NS, I0, I1, I2, BO, FI, RG, GU, PU, MA, MN, MS, OT, SC], [r0, r1, r2, r3, w15, r5, r6, r7, r8], Lg)) o from ev_t (c := 4 ≤ (H 0 4)) _ _ 4  zc13 e (fun n => Eq.refl _)
      have ze14 := Option.some.inj h
      subst ze14
      exact ev_rete 1 ho (fun n => Eq.refl _)
    · have h := itn h zc13
      suffices e : Ev (d + 7, 0, 0, 210, 59, [.val (.ref 192), .val (.ref 128), .val (.int x1), .val (.int x4), .val (.int x7), .val (.int x10)], [], (126, 120, L, [Y, T_14, H, H2, RA, RB, ST, NS, I0, I1, I2, BO, FI, RG, GU, PU, MA, MN, MS, OT, SC], [r0, r1, r2, r3, w15, r5, r6, r7, r8], Lg)) o from ev_f (c := 4 ≤ (H 0 4)) _ _ 4  zc13 e (fun n => Eq.refl _)
      obtain ⟨x16, zh15, h⟩ := bnd h
      have zh15 : f_Y_placeOf x1 x4 = some x16 := zh15
      have ze16 := R_f_Y_placeOf_0 (d + 6) Y T_14 H H2 RA RB ST NS I0 I1 I2 BO FI RG GU PU MA MN MS OT SC r0 r1 r2 r3 w15 r5 r6 r7 r8 L Lg x1 x4 zh15
      suffices e : Ev (d + 7, 0, 0, 210, 72, [.val (.ref 192), .val (.ref 128), .val (.int x1), .val (.int x4), .val (.int x7), .val (.int x10)], [.int x16, .int (H 0 4), .ref 203], (126, 120, L, [Y, T_14, H, H2, RA, RB, ST, NS, I0, I1, I2, BO, FI, RG, GU, PU, MA, MN, MS, OT, SC], [r0, r1, r2, r3, w15, r5, r6, r7, r8], Lg)) o from ev_call (fun v μ => (d + 7, 0, 0, 210, 72, [.val (.ref 192), .val (.ref 128), .val (.int x1), .val (.int x4), .val (.int x7), .val (.int x10)], v.toList ++ [.int (H 0 4), .ref 203], μ)) 7 ze16 e (fun n => Eq.refl _)
      obtain ⟨j17, zh17, h⟩ := bnd h
      have zh17 : ixx 4 (H 0 4) = some j17 := zh17
      suffices e : Ev (d + 7, 0, 0, 210, 73, [.val (.ref 192), .val (.ref 128), .val (.int x1), .val (.int x4), .val (.int x7), .val (.int x10)], [], (126, 120, L, [Y, T_14, (u2 H 11 j17 x16), H2, RA, RB, ST, NS, I0, I1, I2, BO, FI, RG, GU, PU, MA, MN, MS, OT, SC], [r0, r1, r2, r3, w15, r5, r6, r7, r8], Lg)) o from ev_opt (fun j17 => (d + 7, 0, 0, 210, 73, [.val (.ref 192), .val (.ref 128), .val (.int x1), .val (.int x4), .val (.int x7), .val (.int x10)], [], (126, 120, L, [Y, T_14, (u2 H 11 j17 x16), H2, RA, RB, ST, NS, I0, I1, I2, BO, FI, RG, GU, PU, MA, MN, MS, OT, SC], [r0, r1, r2, r3, w15, r5, r6, r7, r8], Lg))) 1 zh17 e (fun n => Eq.refl _)
      obtain ⟨j18, zh18, h⟩ := bnd h
      have zh18 : ixx 4 ((u2 H 11 j17 x16) 0 4) = some j18 := zh18
      suffices e : Ev (d + 7, 0, 0, 210, 87, [.val (.ref 192), .val (.ref 128), .val (.int x1), .val (.int x4), .val (.int x7), .val (.int x10)], [], (126, 120, L, [Y, T_14, (u2 (u2 H 11 j17 x16) 12 j18 (x7 * x10)), H2, RA, RB, ST, NS, I0, I1, I2, BO, FI, RG, GU, PU, MA, MN, MS, OT, SC], [r0, r1, r2, r3, w15, r5, r6, r7, r8], Lg)) o from ev_opt (fun j18 => (d + 7, 0, 0, 210, 87, [.val (.ref 192), .val (.ref 128), .val (.int x1), .val (.int x4), .val (.int x7), .val (.int x10)], [], (126, 120, L, [Y, T_14, (u2 (u2 H 11 j17 x16) 12 j18 (x7 * x10)), H2, RA, RB, ST, NS, I0, I1, I2, BO, FI, RG, GU, PU, MA, MN, MS, OT, SC], [r0, r1, r2, r3, w15, r5, r6, r7, r8], Lg))) 8 zh18 e (fun n => Eq.refl _)
      have ze19 := Option.some.inj h
      subst ze19
      exact ev_rete 7 ho (fun n => Eq.refl _)
