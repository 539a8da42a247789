/-! printed by program (gen/emitm.py): the reference's methods run as their functions say -/
set_option maxRecDepth 1000000 in
set_option maxHeartbeats 4000000 in
theorem R_f_House_readBusy_1 (d : Nat) (Y T H H2 RA RB ST NS I0 I1 I2 BO FI RG GU PU MA MN MS OT SC : Nat → Nat → Int32) (r0 r1 r2 r3 w r5 r6 r7 r8 : Nat) (L : Nat) (Lg : Int64) {r : (Nat → Nat → Int32) × (Nat → Nat → Int32) × Nat} (h : f_House_readBusy T H w = some r) : Ev (d + 7, 0, 0, 208, 0, [.val (.ref 192), .val (.ref 128), .val a_unk, .val a_unk, .val a_unk], [], (126, 120, L, [Y, T, H, H2, RA, RB, ST, NS, I0, I1, I2, BO, FI, RG, GU, PU, MA, MN, MS, OT, SC], [r0, r1, r2, r3, w, r5, r6, r7, r8], Lg)) ((0, none, (126, 120, L, [Y, r.1, r.2.1, H2, RA, RB, ST, NS, I0, I1, I2, BO, FI, RG, GU, PU, MA, MN, MS, OT, SC], [r0, r1, r2, r3, r.2.2, r5, r6, r7, r8], Lg)) : AOut) := by
  suffices key : ∀ o : AOut, ((0, none, (126, 120, L, [Y, r.1, r.2.1, H2, RA, RB, ST, NS, I0, I1, I2, BO, FI, RG, GU, PU, MA, MN, MS, OT, SC], [r0, r1, r2, r3, r.2.2, r5, r6, r7, r8], Lg)) : AOut) = o → Ev (d + 7, 0, 0, 208, 0, [.val (.ref 192), .val (.ref 128), .val a_unk, .val a_unk, .val a_unk], [], (126, 120, L, [Y, T, H, H2, RA, RB, ST, NS, I0, I1, I2, BO, FI, RG, GU, PU, MA, MN, MS, OT, SC], [r0, r1, r2, r3, w, r5, r6, r7, r8], Lg)) o from key _ rfl
  intro o ho
  obtain ⟨⟨x1, T_2, w3⟩, zh1, h⟩ := bnd h
  have zh1 : f_Tape_number T w 0 ((H 0 2) - 1) = some (x1, T_2, w3) := zh1
  have ze2 := R_f_Tape_number_0 (d + 0) Y T H H2 RA RB ST NS I0 I1 I2 BO FI RG GU PU MA MN MS OT SC r0 r1 r2 r3 w r5 r6 r7 r8 L Lg 0 ((H 0 2) - 1) zh1
  suffices e : Ev (d + 7, 0, 0, 208, 11, [.val (.ref 192), .val (.ref 128), .val a_unk, .val a_unk, .val a_unk], [.int x1], (126, 120, L, [Y, T_2, H, H2, RA, RB, ST, NS, I0, I1, I2, BO, FI, RG, GU, PU, MA, MN, MS, OT, SC], [r0, r1, r2, r3, w3, r5, r6, r7, r8], Lg)) o from ev_call (fun v μ => (d + 7, 0, 0, 208, 11, [.val (.ref 192), .val (.ref 128), .val a_unk, .val a_unk, .val a_unk], v.toList ++ [], μ)) 7 ze2 e (fun n => Eq.refl _)
  obtain ⟨⟨x4, T_5, w6⟩, zh3, h⟩ := bnd h
  have zh3 : f_Tape_number T_2 w3 0 ((H 0 0) - 1) = some (x4, T_5, w6) := zh3
  have ze4 := R_f_Tape_number_0 (d + 0) Y T_2 H H2 RA RB ST NS I0 I1 I2 BO FI RG GU PU MA MN MS OT SC r0 r1 r2 r3 w3 r5 r6 r7 r8 L Lg 0 ((H 0 0) - 1) zh3
  suffices e : Ev (d + 7, 0, 0, 208, 23, [.val (.ref 192), .val (.ref 128), .val (.int x1), .val a_unk, .val a_unk], [.int x4], (126, 120, L, [Y, T_5, H, H2, RA, RB, ST, NS, I0, I1, I2, BO, FI, RG, GU, PU, MA, MN, MS, OT, SC], [r0, r1, r2, r3, w6, r5, r6, r7, r8], Lg)) o from ev_call (fun v μ => (d + 7, 0, 0, 208, 23, [.val (.ref 192), .val (.ref 128), .val (.int x1), .val a_unk, .val a_unk], v.toList ++ [], μ)) 8 ze4 e (fun n => Eq.refl _)
  obtain ⟨⟨x7, T_8, w9⟩, zh5, h⟩ := bnd h
  have zh5 : f_Tape_number T_5 w6 x4 ((H 0 0) - 1) = some (x7, T_8, w9) := zh5
  have ze6 := R_f_Tape_number_0 (d + 0) Y T_5 H H2 RA RB ST NS I0 I1 I2 BO FI RG GU PU MA MN MS OT SC r0 r1 r2 r3 w6 r5 r6 r7 r8 L Lg x4 ((H 0 0) - 1) zh5
  suffices e : Ev (d + 7, 0, 0, 208, 35, [.val (.ref 192), .val (.ref 128), .val (.int x1), .val (.int x4), .val a_unk], [.int x7], (126, 120, L, [Y, T_8, H, H2, RA, RB, ST, NS, I0, I1, I2, BO, FI, RG, GU, PU, MA, MN, MS, OT, SC], [r0, r1, r2, r3, w9, r5, r6, r7, r8], Lg)) o from ev_call (fun v μ => (d + 7, 0, 0, 208, 35, [.val (.ref 192), .val (.ref 128), .val (.int x1), .val (.int x4), .val a_unk], v.toList ++ [], μ)) 8 ze6 e (fun n => Eq.refl _)
  obtain ⟨⟨x10, T_11, w12⟩, zh7, h⟩ := bnd h
  have zh7 : f_Tape_pass T_8 w9 59 = some (x10, T_11, w12) := zh7
  have ze8 := R_f_Tape_pass_0 (d + 0) Y T_8 H H2 RA RB ST NS I0 I1 I2 BO FI RG GU PU MA MN MS OT SC r0 r1 r2 r3 w9 r5 r6 r7 r8 L Lg 59 zh7
  suffices e : Ev (d + 7, 0, 0, 208, 43, [.val (.ref 192), .val (.ref 128), .val (.int x1), .val (.int x4), .val (.int x7)], [.int x10], (126, 120, L, [Y, T_11, H, H2, RA, RB, ST, NS, I0, I1, I2, BO, FI, RG, GU, PU, MA, MN, MS, OT, SC], [r0, r1, r2, r3, w12, r5, r6, r7, r8], Lg)) o from ev_call (fun v μ => (d + 7, 0, 0, 208, 43, [.val (.ref 192), .val (.ref 128), .val (.int x1), .val (.int x4), .val (.int x7)], v.toList ++ [], μ)) 4 ze8 e (fun n => Eq.refl _)
  by_cases zc9 : x10 = 0
  · have h := itp h zc9
    suffices e : Ev (d + 7, 0, 0, 208, 61, [.val (.ref 192), .val (.ref 128), .val (.int x1), .val (.int x4), .val (.int x7)], [], (126, 120, L, [Y, T_11, H, H2, RA, RB, ST, NS, I0, I1, I2, BO, FI, RG, GU, PU, MA, MN, MS, OT, SC], [r0, r1, r2, r3, w12, r5, r6, r7, r8], Lg)) o from ev_t (c := x10 = 0) _ _ 1  zc9 e (fun n => Eq.refl _)
    have ze10 := Option.some.inj h
    subst ze10
    exact ev_rete 1 ho (fun n => Eq.refl _)
  · have h := itn h zc9
    suffices e : Ev (d + 7, 0, 0, 208, 46, [.val (.ref 192), .val (.ref 128), .val (.int x1), .val (.int x4), .val (.int x7)], [], (126, 120, L, [Y, T_11, H, H2, RA, RB, ST, NS, I0, I1, I2, BO, FI, RG, GU, PU, MA, MN, MS, OT, SC], [r0, r1, r2, r3, w12, r5, r6, r7, r8], Lg)) o from ev_f (c := x10 = 0) _ _ 1  zc9 e (fun n => Eq.refl _)
    obtain ⟨x13, zh11, h⟩ := bnd h
    have zh11 : rdx (H 4) 8 x1 = some x13 := zh11
    suffices e : Ev (d + 7, 0, 0, 208, 53, [.val (.ref 192), .val (.ref 128), .val (.int x1), .val (.int x4), .val (.int x7)], [.int x13, .int x1, .ref 196], (126, 120, L, [Y, T_11, H, H2, RA, RB, ST, NS, I0, I1, I2, BO, FI, RG, GU, PU, MA, MN, MS, OT, SC], [r0, r1, r2, r3, w12, r5, r6, r7, r8], Lg)) o from ev_opt (fun x13 => (d + 7, 0, 0, 208, 53, [.val (.ref 192), .val (.ref 128), .val (.int x1), .val (.int x4), .val (.int x7)], [.int x13, .int x1, .ref 196], (126, 120, L, [Y, T_11, H, H2, RA, RB, ST, NS, I0, I1, I2, BO, FI, RG, GU, PU, MA, MN, MS, OT, SC], [r0, r1, r2, r3, w12, r5, r6, r7, r8], Lg))) 5 zh11 e (fun n => Eq.refl _)
    obtain ⟨x14, zh12, h⟩ := bnd h
    have zh12 : f_House_hourBits x4 x7 = some x14 := zh12
    have ze13 := R_f_House_hourBits_0 (d + 6) Y T_11 H H2 RA RB ST NS I0 I1 I2 BO FI RG GU PU MA MN MS OT SC r0 r1 r2 r3 w12 r5 r6 r7 r8 L Lg x4 x7 zh12
    suffices e : Ev (d + 7, 0, 0, 208, 59, [.val (.ref 192), .val (.ref 128), .val (.int x1), .val (.int x4), .val (.int x7)], [.int x14, .int x13, .int x1, .ref 196], (126, 120, L, [Y, T_11, H, H2, RA, RB, ST, NS, I0, I1, I2, BO, FI, RG, GU, PU, MA, MN, MS, OT, SC], [r0, r1, r2, r3, w12, r5, r6, r7, r8], Lg)) o from ev_call (fun v μ => (d + 7, 0, 0, 208, 59, [.val (.ref 192), .val (.ref 128), .val (.int x1), .val (.int x4), .val (.int x7)], v.toList ++ [.int x13, .int x1, .ref 196], μ)) 3 ze13 e (fun n => Eq.refl _)
    obtain ⟨j15, zh14, h⟩ := bnd h
    have zh14 : ixx 8 x1 = some j15 := zh14
    suffices e : Ev (d + 7, 0, 0, 208, 61, [.val (.ref 192), .val (.ref 128), .val (.int x1), .val (.int x4), .val (.int x7)], [], (126, 120, L, [Y, T_11, (u2 H 4 j15 (x13 ||| x14)), H2, RA, RB, ST, NS, I0, I1, I2, BO, FI, RG, GU, PU, MA, MN, MS, OT, SC], [r0, r1, r2, r3, w12, r5, r6, r7, r8], Lg)) o from ev_opt (fun j15 => (d + 7, 0, 0, 208, 61, [.val (.ref 192), .val (.ref 128), .val (.int x1), .val (.int x4), .val (.int x7)], [], (126, 120, L, [Y, T_11, (u2 H 4 j15 (x13 ||| x14)), H2, RA, RB, ST, NS, I0, I1, I2, BO, FI, RG, GU, PU, MA, MN, MS, OT, SC], [r0, r1, r2, r3, w12, r5, r6, r7, r8], Lg))) 2 zh14 e (fun n => Eq.refl _)
    have ze15 := Option.some.inj h
    subst ze15
    exact ev_rete 1 ho (fun n => Eq.refl _)
set_option maxRecDepth 1000000 in
set_option maxHeartbeats 4000000 in
theorem R_f_House_readWho_1 (d : Nat) (Y T H H2 RA RB ST NS I0 I1 I2 BO FI RG GU PU MA MN MS OT SC : Nat → Nat → Int32) (r0 r1 r2 r3 w r5 r6 r7 r8 : Nat) (L : Nat) (Lg : Int64) {r : (Nat → Nat → Int32) × (Nat → Nat → Int32) × Nat} (h : f_House_readWho T H w = some r) : Ev (d + 7, 0, 0, 211, 0, [.val (.ref 192), .val (.ref 128), .val a_unk, .val a_unk], [], (126, 120, L, [Y, T, H, H2, RA, RB, ST, NS, I0, I1, I2, BO, FI, RG, GU, PU, MA, MN, MS, OT, SC], [r0, r1, r2, r3, w, r5, r6, r7, r8], Lg)) ((0, none, (126, 120, L, [Y, r.1, r.2.1, H2, RA, RB, ST, NS, I0, I1, I2, BO, FI, RG, GU, PU, MA, MN, MS, OT, SC], [r0, r1, r2, r3, r.2.2, r5, r6, r7, r8], Lg)) : AOut) := by
  suffices key : ∀ o : AOut, ((0, none, (126, 120, L, [Y, r.1, r.2.1, H2, RA, RB, ST, NS, I0, I1, I2, BO, FI, RG, GU, PU, MA, MN, MS, OT, SC], [r0, r1, r2, r3, r.2.2, r5, r6, r7, r8], Lg)) : AOut) = o → Ev (d + 7, 0, 0, 211, 0, [.val (.ref 192), .val (.ref 128), .val a_unk, .val a_unk], [], (126, 120, L, [Y, T, H, H2, RA, RB, ST, NS, I0, I1, I2, BO, FI, RG, GU, PU, MA, MN, MS, OT, SC], [r0, r1, r2, r3, w, r5, r6, r7, r8], Lg)) o from key _ rfl
  intro o ho
  obtain ⟨⟨x1, T_2, w3⟩, zh1, h⟩ := bnd h
  have zh1 : f_Tape_number T w 0 ((H 0 3) - 1) = some (x1, T_2, w3) := zh1
  have ze2 := R_f_Tape_number_0 (d + 0) Y T H H2 RA RB ST NS I0 I1 I2 BO FI RG GU PU MA MN MS OT SC r0 r1 r2 r3 w r5 r6 r7 r8 L Lg 0 ((H 0 3) - 1) zh1
  suffices e : Ev (d + 7, 0, 0, 211, 11, [.val (.ref 192), .val (.ref 128), .val a_unk, .val a_unk], [.int x1], (126, 120, L, [Y, T_2, H, H2, RA, RB, ST, NS, I0, I1, I2, BO, FI, RG, GU, PU, MA, MN, MS, OT, SC], [r0, r1, r2, r3, w3, r5, r6, r7, r8], Lg)) o from ev_call (fun v μ => (d + 7, 0, 0, 211, 11, [.val (.ref 192), .val (.ref 128), .val a_unk, .val a_unk], v.toList ++ [], μ)) 7 ze2 e (fun n => Eq.refl _)
  obtain ⟨⟨x4, T_5, w6⟩, zh3, h⟩ := bnd h
  have zh3 : f_Tape_number T_2 w3 0 ((H 0 2) - 1) = some (x4, T_5, w6) := zh3
  have ze4 := R_f_Tape_number_0 (d + 0) Y T_2 H H2 RA RB ST NS I0 I1 I2 BO FI RG GU PU MA MN MS OT SC r0 r1 r2 r3 w3 r5 r6 r7 r8 L Lg 0 ((H 0 2) - 1) zh3
  suffices e : Ev (d + 7, 0, 0, 211, 23, [.val (.ref 192), .val (.ref 128), .val (.int x1), .val a_unk], [.int x4], (126, 120, L, [Y, T_5, H, H2, RA, RB, ST, NS, I0, I1, I2, BO, FI, RG, GU, PU, MA, MN, MS, OT, SC], [r0, r1, r2, r3, w6, r5, r6, r7, r8], Lg)) o from ev_call (fun v μ => (d + 7, 0, 0, 211, 23, [.val (.ref 192), .val (.ref 128), .val (.int x1), .val a_unk], v.toList ++ [], μ)) 8 ze4 e (fun n => Eq.refl _)
  obtain ⟨⟨x7, T_8, w9⟩, zh5, h⟩ := bnd h
  have zh5 : f_Tape_pass T_5 w6 59 = some (x7, T_8, w9) := zh5
  have ze6 := R_f_Tape_pass_0 (d + 0) Y T_5 H H2 RA RB ST NS I0 I1 I2 BO FI RG GU PU MA MN MS OT SC r0 r1 r2 r3 w6 r5 r6 r7 r8 L Lg 59 zh5
  suffices e : Ev (d + 7, 0, 0, 211, 30, [.val (.ref 192), .val (.ref 128), .val (.int x1), .val (.int x4)], [.int x7], (126, 120, L, [Y, T_8, H, H2, RA, RB, ST, NS, I0, I1, I2, BO, FI, RG, GU, PU, MA, MN, MS, OT, SC], [r0, r1, r2, r3, w9, r5, r6, r7, r8], Lg)) o from ev_call (fun v μ => (d + 7, 0, 0, 211, 30, [.val (.ref 192), .val (.ref 128), .val (.int x1), .val (.int x4)], v.toList ++ [], μ)) 4 ze6 e (fun n => Eq.refl _)
  by_cases zc7 : x7 = 0
  · have h := itp h zc7
    suffices e : Ev (d + 7, 0, 0, 211, 45, [.val (.ref 192), .val (.ref 128), .val (.int x1), .val (.int x4)], [], (126, 120, L, [Y, T_8, H, H2, RA, RB, ST, NS, I0, I1, I2, BO, FI, RG, GU, PU, MA, MN, MS, OT, SC], [r0, r1, r2, r3, w9, r5, r6, r7, r8], Lg)) o from ev_t (c := x7 = 0) _ _ 1  zc7 e (fun n => Eq.refl _)
    have ze8 := Option.some.inj h
    subst ze8
    exact ev_rete 1 ho (fun n => Eq.refl _)
  · have h := itn h zc7
    suffices e : Ev (d + 7, 0, 0, 211, 33, [.val (.ref 192), .val (.ref 128), .val (.int x1), .val (.int x4)], [], (126, 120, L, [Y, T_8, H, H2, RA, RB, ST, NS, I0, I1, I2, BO, FI, RG, GU, PU, MA, MN, MS, OT, SC], [r0, r1, r2, r3, w9, r5, r6, r7, r8], Lg)) o from ev_f (c := x7 = 0) _ _ 1  zc7 e (fun n => Eq.refl _)
    obtain ⟨x10, zh9, h⟩ := bnd h
    have zh9 : rdx (H 8) 10 x1 = some x10 := zh9
    suffices e : Ev (d + 7, 0, 0, 211, 40, [.val (.ref 192), .val (.ref 128), .val (.int x1), .val (.int x4)], [.int x10, .int x1, .ref 200], (126, 120, L, [Y, T_8, H, H2, RA, RB, ST, NS, I0, I1, I2, BO, FI, RG, GU, PU, MA, MN, MS, OT, SC], [r0, r1, r2, r3, w9, r5, r6, r7, r8], Lg)) o from ev_opt (fun x10 => (d + 7, 0, 0, 211, 40, [.val (.ref 192), .val (.ref 128), .val (.int x1), .val (.int x4)], [.int x10, .int x1, .ref 200], (126, 120, L, [Y, T_8, H, H2, RA, RB, ST, NS, I0, I1, I2, BO, FI, RG, GU, PU, MA, MN, MS, OT, SC], [r0, r1, r2, r3, w9, r5, r6, r7, r8], Lg))) 5 zh9 e (fun n => Eq.refl _)
    obtain ⟨j11, zh10, h⟩ := bnd h
    have zh10 : ixx 10 x1 = some j11 := zh10
    suffices e : Ev (d + 7, 0, 0, 211, 45, [.val (.ref 192), .val (.ref 128), .val (.int x1), .val (.int x4)], [], (126, 120, L, [Y, T_8, (u2 H 8 j11 (x10 ||| (a_shl 1 x4))), H2, RA, RB, ST, NS, I0, I1, I2, BO, FI, RG, GU, PU, MA, MN, MS, OT, SC], [r0, r1, r2, r3, w9, r5, r6, r7, r8], Lg)) o from ev_opt (fun j11 => (d + 7, 0, 0, 211, 45, [.val (.ref 192), .val (.ref 128), .val (.int x1), .val (.int x4)], [], (126, 120, L, [Y, T_8, (u2 H 8 j11 (x10 ||| (a_shl 1 x4))), H2, RA, RB, ST, NS, I0, I1, I2, BO, FI, RG, GU, PU, MA, MN, MS, OT, SC], [r0, r1, r2, r3, w9, r5, r6, r7, r8], Lg))) 5 zh10 e (fun n => Eq.refl _)
    have ze11 := Option.some.inj h
    subst ze11
    exact ev_rete 1 ho (fun n => Eq.refl _)
set_option maxRecDepth 1000000 in
set_option maxHeartbeats 4000000 in
theorem R_f_House_readMay_1 (d : Nat) (Y T H H2 RA RB ST NS I0 I1 I2 BO FI RG GU PU MA MN MS OT SC : Nat → Nat → Int32) (r0 r1 r2 r3 w r5 r6 r7 r8 : Nat) (L : Nat) (Lg : Int64) {r : (Nat → Nat → Int32) × (Nat → Nat → Int32) × Nat} (h : f_House_readMay T H w = some r) : Ev (d + 7, 0, 0, 212, 0, [.val (.ref 192), .val (.ref 128), .val a_unk, .val a_unk, .val a_unk], [], (126, 120, L, [Y, T, H, H2, RA, RB, ST, NS, I0, I1, I2, BO, FI, RG, GU, PU, MA, MN, MS, OT, SC], [r0, r1, r2, r3, w, r5, r6, r7, r8], Lg)) ((0, none, (126, 120, L, [Y, r.1, r.2.1, H2, RA, RB, ST, NS, I0, I1, I2, BO, FI, RG, GU, PU, MA, MN, MS, OT, SC], [r0, r1, r2, r3, r.2.2, r5, r6, r7, r8], Lg)) : AOut) := by
  suffices key : ∀ o : AOut, ((0, none, (126, 120, L, [Y, r.1, r.2.1, H2, RA, RB, ST, NS, I0, I1, I2, BO, FI, RG, GU, PU, MA, MN, MS, OT, SC], [r0, r1, r2, r3, r.2.2, r5, r6, r7, r8], Lg)) : AOut) = o → Ev (d + 7, 0, 0, 212, 0, [.val (.ref 192), .val (.ref 128), .val a_unk, .val a_unk, .val a_unk], [], (126, 120, L, [Y, T, H, H2, RA, RB, ST, NS, I0, I1, I2, BO, FI, RG, GU, PU, MA, MN, MS, OT, SC], [r0, r1, r2, r3, w, r5, r6, r7, r8], Lg)) o from key _ rfl
  intro o ho
  obtain ⟨⟨x1, T_2, w3⟩, zh1, h⟩ := bnd h
  have zh1 : f_Tape_number T w 0 ((H 0 3) - 1) = some (x1, T_2, w3) := zh1
  have ze2 := R_f_Tape_number_0 (d + 0) Y T H H2 RA RB ST NS I0 I1 I2 BO FI RG GU PU MA MN MS OT SC r0 r1 r2 r3 w r5 r6 r7 r8 L Lg 0 ((H 0 3) - 1) zh1
  suffices e : Ev (d + 7, 0, 0, 212, 11, [.val (.ref 192), .val (.ref 128), .val a_unk, .val a_unk, .val a_unk], [.int x1], (126, 120, L, [Y, T_2, H, H2, RA, RB, ST, NS, I0, I1, I2, BO, FI, RG, GU, PU, MA, MN, MS, OT, SC], [r0, r1, r2, r3, w3, r5, r6, r7, r8], Lg)) o from ev_call (fun v μ => (d + 7, 0, 0, 212, 11, [.val (.ref 192), .val (.ref 128), .val a_unk, .val a_unk, .val a_unk], v.toList ++ [], μ)) 7 ze2 e (fun n => Eq.refl _)
  obtain ⟨⟨x4, T_5, w6⟩, zh3, h⟩ := bnd h
  have zh3 : f_Tape_number T_2 w3 0 ((H 0 0) - 1) = some (x4, T_5, w6) := zh3
  have ze4 := R_f_Tape_number_0 (d + 0) Y T_2 H H2 RA RB ST NS I0 I1 I2 BO FI RG GU PU MA MN MS OT SC r0 r1 r2 r3 w3 r5 r6 r7 r8 L Lg 0 ((H 0 0) - 1) zh3
  suffices e : Ev (d + 7, 0, 0, 212, 23, [.val (.ref 192), .val (.ref 128), .val (.int x1), .val a_unk, .val a_unk], [.int x4], (126, 120, L, [Y, T_5, H, H2, RA, RB, ST, NS, I0, I1, I2, BO, FI, RG, GU, PU, MA, MN, MS, OT, SC], [r0, r1, r2, r3, w6, r5, r6, r7, r8], Lg)) o from ev_call (fun v μ => (d + 7, 0, 0, 212, 23, [.val (.ref 192), .val (.ref 128), .val (.int x1), .val a_unk, .val a_unk], v.toList ++ [], μ)) 8 ze4 e (fun n => Eq.refl _)
  obtain ⟨⟨x7, T_8, w9⟩, zh5, h⟩ := bnd h
  have zh5 : f_Tape_number T_5 w6 x4 ((H 0 0) - 1) = some (x7, T_8, w9) := zh5
  have ze6 := R_f_Tape_number_0 (d + 0) Y T_5 H H2 RA RB ST NS I0 I1 I2 BO FI RG GU PU MA MN MS OT SC r0 r1 r2 r3 w6 r5 r6 r7 r8 L Lg x4 ((H 0 0) - 1) zh5
  suffices e : Ev (d + 7, 0, 0, 212, 35, [.val (.ref 192), .val (.ref 128), .val (.int x1), .val (.int x4), .val a_unk], [.int x7], (126, 120, L, [Y, T_8, H, H2, RA, RB, ST, NS, I0, I1, I2, BO, FI, RG, GU, PU, MA, MN, MS, OT, SC], [r0, r1, r2, r3, w9, r5, r6, r7, r8], Lg)) o from ev_call (fun v μ => (d + 7, 0, 0, 212, 35, [.val (.ref 192), .val (.ref 128), .val (.int x1), .val (.int x4), .val a_unk], v.toList ++ [], μ)) 8 ze6 e (fun n => Eq.refl _)
  obtain ⟨⟨x10, T_11, w12⟩, zh7, h⟩ := bnd h
  have zh7 : f_Tape_pass T_8 w9 59 = some (x10, T_11, w12) := zh7
  have ze8 := R_f_Tape_pass_0 (d + 0) Y T_8 H H2 RA RB ST NS I0 I1 I2 BO FI RG GU PU MA MN MS OT SC r0 r1 r2 r3 w9 r5 r6 r7 r8 L Lg 59 zh7
  suffices e : Ev (d + 7, 0, 0, 212, 43, [.val (.ref 192), .val (.ref 128), .val (.int x1), .val (.int x4), .val (.int x7)], [.int x10], (126, 120, L, [Y, T_11, H, H2, RA, RB, ST, NS, I0, I1, I2, BO, FI, RG, GU, PU, MA, MN, MS, OT, SC], [r0, r1, r2, r3, w12, r5, r6, r7, r8], Lg)) o from ev_call (fun v μ => (d + 7, 0, 0, 212, 43, [.val (.ref 192), .val (.ref 128), .val (.int x1), .val (.int x4), .val (.int x7)], v.toList ++ [], μ)) 4 ze8 e (fun n => Eq.refl _)
  by_cases zc9 : x10 = 0
  · have h := itp h zc9
    suffices e : Ev (d + 7, 0, 0, 212, 61, [.val (.ref 192), .val (.ref 128), .val (.int x1), .val (.int x4), .val (.int x7)], [], (126, 120, L, [Y, T_11, H, H2, RA, RB, ST, NS, I0, I1, I2, BO, FI, RG, GU, PU, MA, MN, MS, OT, SC], [r0, r1, r2, r3, w12, r5, r6, r7, r8], Lg)) o from ev_t (c := x10 = 0) _ _ 1  zc9 e (fun n => Eq.refl _)
    have ze10 := Option.some.inj h
    subst ze10
    exact ev_rete 1 ho (fun n => Eq.refl _)
  · have h := itn h zc9
    suffices e : Ev (d + 7, 0, 0, 212, 46, [.val (.ref 192), .val (.ref 128), .val (.int x1), .val (.int x4), .val (.int x7)], [], (126, 120, L, [Y, T_11, H, H2, RA, RB, ST, NS, I0, I1, I2, BO, FI, RG, GU, PU, MA, MN, MS, OT, SC], [r0, r1, r2, r3, w12, r5, r6, r7, r8], Lg)) o from ev_f (c := x10 = 0) _ _ 1  zc9 e (fun n => Eq.refl _)
    obtain ⟨x13, zh11, h⟩ := bnd h
    have zh11 : rdx (H 9) 10 x1 = some x13 := zh11
    suffices e : Ev (d + 7, 0, 0, 212, 53, [.val (.ref 192), .val (.ref 128), .val (.int x1), .val (.int x4), .val (.int x7)], [.int x13, .int x1, .ref 201], (126, 120, L, [Y, T_11, H, H2, RA, RB, ST, NS, I0, I1, I2, BO, FI, RG, GU, PU, MA, MN, MS, OT, SC], [r0, r1, r2, r3, w12, r5, r6, r7, r8], Lg)) o from ev_opt (fun x13 => (d + 7, 0, 0, 212, 53, [.val (.ref 192), .val (.ref 128), .val (.int x1), .val (.int x4), .val (.int x7)], [.int x13, .int x1, .ref 201], (126, 120, L, [Y, T_11, H, H2, RA, RB, ST, NS, I0, I1, I2, BO, FI, RG, GU, PU, MA, MN, MS, OT, SC], [r0, r1, r2, r3, w12, r5, r6, r7, r8], Lg))) 5 zh11 e (fun n => Eq.refl _)
    obtain ⟨x14, zh12, h⟩ := bnd h
    have zh12 : f_House_hourBits x4 x7 = some x14 := zh12
    have ze13 := R_f_House_hourBits_0 (d + 6) Y T_11 H H2 RA RB ST NS I0 I1 I2 BO FI RG GU PU MA MN MS OT SC r0 r1 r2 r3 w12 r5 r6 r7 r8 L Lg x4 x7 zh12
    suffices e : Ev (d + 7, 0, 0, 212, 59, [.val (.ref 192), .val (.ref 128), .val (.int x1), .val (.int x4), .val (.int x7)], [.int x14, .int x13, .int x1, .ref 201], (126, 120, L, [Y, T_11, H, H2, RA, RB, ST, NS, I0, I1, I2, BO, FI, RG, GU, PU, MA, MN, MS, OT, SC], [r0, r1, r2, r3, w12, r5, r6, r7, r8], Lg)) o from ev_call (fun v μ => (d + 7, 0, 0, 212, 59, [.val (.ref 192), .val (.ref 128), .val (.int x1), .val (.int x4), .val (.int x7)], v.toList ++ [.int x13, .int x1, .ref 201], μ)) 3 ze13 e (fun n => Eq.refl _)
    obtain ⟨j15, zh14, h⟩ := bnd h
    have zh14 : ixx 10 x1 = some j15 := zh14
    suffices e : Ev (d + 7, 0, 0, 212, 61, [.val (.ref 192), .val (.ref 128), .val (.int x1), .val (.int x4), .val (.int x7)], [], (126, 120, L, [Y, T_11, (u2 H 9 j15 (x13 ||| x14)), H2, RA, RB, ST, NS, I0, I1, I2, BO, FI, RG, GU, PU, MA, MN, MS, OT, SC], [r0, r1, r2, r3, w12, r5, r6, r7, r8], Lg)) o from ev_opt (fun j15 => (d + 7, 0, 0, 212, 61, [.val (.ref 192), .val (.ref 128), .val (.int x1), .val (.int x4), .val (.int x7)], [], (126, 120, L, [Y, T_11, (u2 H 9 j15 (x13 ||| x14)), H2, RA, RB, ST, NS, I0, I1, I2, BO, FI, RG, GU, PU, MA, MN, MS, OT, SC], [r0, r1, r2, r3, w12, r5, r6, r7, r8], Lg))) 2 zh14 e (fun n => Eq.refl _)
    have ze15 := Option.some.inj h
    subst ze15
    exact ev_rete 1 ho (fun n => Eq.refl _)
set_option maxRecDepth 1000000 in
set_option maxHeartbeats 4000000 in
theorem R_f_House_readFixed_1 (d : Nat) (Y T H H2 RA RB ST NS I0 I1 I2 BO FI RG GU PU MA MN MS OT SC : Nat → Nat → Int32) (r0 r1 r2 r3 w r5 r6 r7 r8 : Nat) (L : Nat) (Lg : Int64) {r : (Nat → Nat → Int32) × (Nat → Nat → Int32) × Nat} (h : f_House_readFixed T H w = some r) : Ev (d + 7, 0, 0, 213, 0, [.val (.ref 192), .val (.ref 128), .val a_unk], [], (126, 120, L, [Y, T, H, H2, RA, RB, ST, NS, I0, I1, I2, BO, FI, RG, GU, PU, MA, MN, MS, OT, SC], [r0, r1, r2, r3, w, r5, r6, r7, r8], Lg)) ((0, none, (126, 120, L, [Y, r.1, r.2.1, H2, RA, RB, ST, NS, I0, I1, I2, BO, FI, RG, GU, PU, MA, MN, MS, OT, SC], [r0, r1, r2, r3, r.2.2, r5, r6, r7, r8], Lg)) : AOut) := by
  suffices key : ∀ o : AOut, ((0, none, (126, 120, L, [Y, r.1, r.2.1, H2, RA, RB, ST, NS, I0, I1, I2, BO, FI, RG, GU, PU, MA, MN, MS, OT, SC], [r0, r1, r2, r3, r.2.2, r5, r6, r7, r8], Lg)) : AOut) = o → Ev (d + 7, 0, 0, 213, 0, [.val (.ref 192), .val (.ref 128), .val a_unk], [], (126, 120, L, [Y, T, H, H2, RA, RB, ST, NS, I0, I1, I2, BO, FI, RG, GU, PU, MA, MN, MS, OT, SC], [r0, r1, r2, r3, w, r5, r6, r7, r8], Lg)) o from key _ rfl
  intro o ho
  obtain ⟨⟨x1, T_2, w3⟩, zh1, h⟩ := bnd h
  have zh1 : f_Tape_number T w 0 ((H 0 3) - 1) = some (x1, T_2, w3) := zh1
  have ze2 := R_f_Tape_number_0 (d + 0) Y T H H2 RA RB ST NS I0 I1 I2 BO FI RG GU PU MA MN MS OT SC r0 r1 r2 r3 w r5 r6 r7 r8 L Lg 0 ((H 0 3) - 1) zh1
  suffices e : Ev (d + 7, 0, 0, 213, 11, [.val (.ref 192), .val (.ref 128), .val a_unk], [.int x1], (126, 120, L, [Y, T_2, H, H2, RA, RB, ST, NS, I0, I1, I2, BO, FI, RG, GU, PU, MA, MN, MS, OT, SC], [r0, r1, r2, r3, w3, r5, r6, r7, r8], Lg)) o from ev_call (fun v μ => (d + 7, 0, 0, 213, 11, [.val (.ref 192), .val (.ref 128), .val a_unk], v.toList ++ [], μ)) 7 ze2 e (fun n => Eq.refl _)
  obtain ⟨⟨x4, T_5, w6⟩, zh3, h⟩ := bnd h
  have zh3 : f_Tape_pass T_2 w3 59 = some (x4, T_5, w6) := zh3
  have ze4 := R_f_Tape_pass_0 (d + 0) Y T_2 H H2 RA RB ST NS I0 I1 I2 BO FI RG GU PU MA MN MS OT SC r0 r1 r2 r3 w3 r5 r6 r7 r8 L Lg 59 zh3
  suffices e : Ev (d + 7, 0, 0, 213, 18, [.val (.ref 192), .val (.ref 128), .val (.int x1)], [.int x4], (126, 120, L, [Y, T_5, H, H2, RA, RB, ST, NS, I0, I1, I2, BO, FI, RG, GU, PU, MA, MN, MS, OT, SC], [r0, r1, r2, r3, w6, r5, r6, r7, r8], Lg)) o from ev_call (fun v μ => (d + 7, 0, 0, 213, 18, [.val (.ref 192), .val (.ref 128), .val (.int x1)], v.toList ++ [], μ)) 4 ze4 e (fun n => Eq.refl _)
  by_cases zc5 : x4 = 0
  · have h := itp h zc5
    suffices e : Ev (d + 7, 0, 0, 213, 33, [.val (.ref 192), .val (.ref 128), .val (.int x1)], [], (126, 120, L, [Y, T_5, H, H2, RA, RB, ST, NS, I0, I1, I2, BO, FI, RG, GU, PU, MA, MN, MS, OT, SC], [r0, r1, r2, r3, w6, r5, r6, r7, r8], Lg)) o from ev_t (c := x4 = 0) _ _ 1  zc5 e (fun n => Eq.refl _)
    have ze6 := Option.some.inj h
    subst ze6
    exact ev_rete 1 ho (fun n => Eq.refl _)
  · have h := itn h zc5
    suffices e : Ev (d + 7, 0, 0, 213, 21, [.val (.ref 192), .val (.ref 128), .val (.int x1)], [], (126, 120, L, [Y, T_5, H, H2, RA, RB, ST, NS, I0, I1, I2, BO, FI, RG, GU, PU, MA, MN, MS, OT, SC], [r0, r1, r2, r3, w6, r5, r6, r7, r8], Lg)) o from ev_f (c := x4 = 0) _ _ 1  zc5 e (fun n => Eq.refl _)
    have ze7 := Option.some.inj h
    subst ze7
    exact ev_rete 9 ho (fun n => Eq.refl _)
set_option maxRecDepth 1000000 in
set_option maxHeartbeats 4000000 in
theorem R_f_House_readMoved_1 (d : Nat) (Y T H H2 RA RB ST NS I0 I1 I2 BO FI RG GU PU MA MN MS OT SC : Nat → Nat → Int32) (r0 r1 r2 r3 w r5 r6 r7 r8 : Nat) (L : Nat) (Lg : Int64) {r : (Nat → Nat → Int32) × (Nat → Nat → Int32) × Nat} (h : f_House_readMoved T H w = some r) : Ev (d + 7, 0, 0, 214, 0, [.val (.ref 192), .val (.ref 128), .val a_unk, .val a_unk], [], (126, 120, L, [Y, T, H, H2, RA, RB, ST, NS, I0, I1, I2, BO, FI, RG, GU, PU, MA, MN, MS, OT, SC], [r0, r1, r2, r3, w, r5, r6, r7, r8], Lg)) ((0, none, (126, 120, L, [Y, r.1, r.2.1, H2, RA, RB, ST, NS, I0, I1, I2, BO, FI, RG, GU, PU, MA, MN, MS, OT, SC], [r0, r1, r2, r3, r.2.2, r5, r6, r7, r8], Lg)) : AOut) := by
  suffices key : ∀ o : AOut, ((0, none, (126, 120, L, [Y, r.1, r.2.1, H2, RA, RB, ST, NS, I0, I1, I2, BO, FI, RG, GU, PU, MA, MN, MS, OT, SC], [r0, r1, r2, r3, r.2.2, r5, r6, r7, r8], Lg)) : AOut) = o → Ev (d + 7, 0, 0, 214, 0, [.val (.ref 192), .val (.ref 128), .val a_unk, .val a_unk], [], (126, 120, L, [Y, T, H, H2, RA, RB, ST, NS, I0, I1, I2, BO, FI, RG, GU, PU, MA, MN, MS, OT, SC], [r0, r1, r2, r3, w, r5, r6, r7, r8], Lg)) o from key _ rfl
  intro o ho
  obtain ⟨⟨x1, T_2, w3⟩, zh1, h⟩ := bnd h
  have zh1 : f_Tape_number T w 0 ((H 0 3) - 1) = some (x1, T_2, w3) := zh1
  have ze2 := R_f_Tape_number_0 (d + 0) Y T H H2 RA RB ST NS I0 I1 I2 BO FI RG GU PU MA MN MS OT SC r0 r1 r2 r3 w r5 r6 r7 r8 L Lg 0 ((H 0 3) - 1) zh1
  suffices e : Ev (d + 7, 0, 0, 214, 11, [.val (.ref 192), .val (.ref 128), .val a_unk, .val a_unk], [.int x1], (126, 120, L, [Y, T_2, H, H2, RA, RB, ST, NS, I0, I1, I2, BO, FI, RG, GU, PU, MA, MN, MS, OT, SC], [r0, r1, r2, r3, w3, r5, r6, r7, r8], Lg)) o from ev_call (fun v μ => (d + 7, 0, 0, 214, 11, [.val (.ref 192), .val (.ref 128), .val a_unk, .val a_unk], v.toList ++ [], μ)) 7 ze2 e (fun n => Eq.refl _)
  obtain ⟨⟨x4, T_5, w6⟩, zh3, h⟩ := bnd h
  have zh3 : f_Tape_number T_2 w3 0 99 = some (x4, T_5, w6) := zh3
  have ze4 := R_f_Tape_number_0 (d + 0) Y T_2 H H2 RA RB ST NS I0 I1 I2 BO FI RG GU PU MA MN MS OT SC r0 r1 r2 r3 w3 r5 r6 r7 r8 L Lg 0 99 zh3
  suffices e : Ev (d + 7, 0, 0, 214, 19, [.val (.ref 192), .val (.ref 128), .val (.int x1), .val a_unk], [.int x4], (126, 120, L, [Y, T_5, H, H2, RA, RB, ST, NS, I0, I1, I2, BO, FI, RG, GU, PU, MA, MN, MS, OT, SC], [r0, r1, r2, r3, w6, r5, r6, r7, r8], Lg)) o from ev_call (fun v μ => (d + 7, 0, 0, 214, 19, [.val (.ref 192), .val (.ref 128), .val (.int x1), .val a_unk], v.toList ++ [], μ)) 5 ze4 e (fun n => Eq.refl _)
  obtain ⟨⟨x7, T_8, w9⟩, zh5, h⟩ := bnd h
  have zh5 : f_Tape_pass T_5 w6 59 = some (x7, T_8, w9) := zh5
  have ze6 := R_f_Tape_pass_0 (d + 0) Y T_5 H H2 RA RB ST NS I0 I1 I2 BO FI RG GU PU MA MN MS OT SC r0 r1 r2 r3 w6 r5 r6 r7 r8 L Lg 59 zh5
  suffices e : Ev (d + 7, 0, 0, 214, 26, [.val (.ref 192), .val (.ref 128), .val (.int x1), .val (.int x4)], [.int x7], (126, 120, L, [Y, T_8, H, H2, RA, RB, ST, NS, I0, I1, I2, BO, FI, RG, GU, PU, MA, MN, MS, OT, SC], [r0, r1, r2, r3, w9, r5, r6, r7, r8], Lg)) o from ev_call (fun v μ => (d + 7, 0, 0, 214, 26, [.val (.ref 192), .val (.ref 128), .val (.int x1), .val (.int x4)], v.toList ++ [], μ)) 4 ze6 e (fun n => Eq.refl _)
  by_cases zc7 : x7 = 0
  · have h := itp h zc7
    suffices e : Ev (d + 7, 0, 0, 214, 36, [.val (.ref 192), .val (.ref 128), .val (.int x1), .val (.int x4)], [], (126, 120, L, [Y, T_8, H, H2, RA, RB, ST, NS, I0, I1, I2, BO, FI, RG, GU, PU, MA, MN, MS, OT, SC], [r0, r1, r2, r3, w9, r5, r6, r7, r8], Lg)) o from ev_t (c := x7 = 0) _ _ 1  zc7 e (fun n => Eq.refl _)
    have ze8 := Option.some.inj h
    subst ze8
    exact ev_rete 1 ho (fun n => Eq.refl _)
  · have h := itn h zc7
    suffices e : Ev (d + 7, 0, 0, 214, 29, [.val (.ref 192), .val (.ref 128), .val (.int x1), .val (.int x4)], [], (126, 120, L, [Y, T_8, H, H2, RA, RB, ST, NS, I0, I1, I2, BO, FI, RG, GU, PU, MA, MN, MS, OT, SC], [r0, r1, r2, r3, w9, r5, r6, r7, r8], Lg)) o from ev_f (c := x7 = 0) _ _ 1  zc7 e (fun n => Eq.refl _)
    obtain ⟨j10, zh9, h⟩ := bnd h
    have zh9 : ixx 10 x1 = some j10 := zh9
    suffices e : Ev (d + 7, 0, 0, 214, 36, [.val (.ref 192), .val (.ref 128), .val (.int x1), .val (.int x4)], [], (126, 120, L, [Y, T_8, (u2 H 6 j10 x4), H2, RA, RB, ST, NS, I0, I1, I2, BO, FI, RG, GU, PU, MA, MN, MS, OT, SC], [r0, r1, r2, r3, w9, r5, r6, r7, r8], Lg)) o from ev_opt (fun j10 => (d + 7, 0, 0, 214, 36, [.val (.ref 192), .val (.ref 128), .val (.int x1), .val (.int x4)], [], (126, 120, L, [Y, T_8, (u2 H 6 j10 x4), H2, RA, RB, ST, NS, I0, I1, I2, BO, FI, RG, GU, PU, MA, MN, MS, OT, SC], [r0, r1, r2, r3, w9, r5, r6, r7, r8], Lg))) 5 zh9 e (fun n => Eq.refl _)
    have ze10 := Option.some.inj h
    subst ze10
    exact ev_rete 1 ho (fun n => Eq.refl _)
set_option maxRecDepth 1000000 in
set_option maxHeartbeats 4000000 in
theorem R_f_House_readClause_1 (d : Nat) (Y T H H2 RA RB ST NS I0 I1 I2 BO FI RG GU PU MA MN MS OT SC : Nat → Nat → Int32) (r0 r1 r2 r3 w r5 r6 r7 r8 : Nat) (L : Nat) (Lg : Int64) (s2 : Nat) {r : (Nat → Nat → Int32) × (Nat → Nat → Int32) × Nat} (h : f_House_readClause T H w s2 = some r) : Ev (d + 8, 0, 0, 204, 0, [.val (.ref 192), .val (.ref 128), .val (.ref s2)], [], (126, 120, L, [Y, T, H, H2, RA, RB, ST, NS, I0, I1, I2, BO, FI, RG, GU, PU, MA, MN, MS, OT, SC], [r0, r1, r2, r3, w, r5, r6, r7, r8], Lg)) ((0, none, (126, 120, L, [Y, r.1, r.2.1, H2, RA, RB, ST, NS, I0, I1, I2, BO, FI, RG, GU, PU, MA, MN, MS, OT, SC], [r0, r1, r2, r3, r.2.2, r5, r6, r7, r8], Lg)) : AOut) := by
  suffices key : ∀ o : AOut, ((0, none, (126, 120, L, [Y, r.1, r.2.1, H2, RA, RB, ST, NS, I0, I1, I2, BO, FI, RG, GU, PU, MA, MN, MS, OT, SC], [r0, r1, r2, r3, r.2.2, r5, r6, r7, r8], Lg)) : AOut) = o → Ev (d + 8, 0, 0, 204, 0, [.val (.ref 192), .val (.ref 128), .val (.ref s2)], [], (126, 120, L, [Y, T, H, H2, RA, RB, ST, NS, I0, I1, I2, BO, FI, RG, GU, PU, MA, MN, MS, OT, SC], [r0, r1, r2, r3, w, r5, r6, r7, r8], Lg)) o from key _ rfl
  intro o ho
  by_cases zg2 : ¬ (okW s2)
  · exact nos (itn h zg2)
  have zg2 := Decidable.not_not.mp zg2
  have h := itp h zg2
  by_cases zc1 : s2 = 0
  · have h := itp h zc1
    suffices e : Ev (d + 8, 0, 0, 204, 4, [.val (.ref 192), .val (.ref 128), .val (.ref s2)], [], (126, 120, L, [Y, T, H, H2, RA, RB, ST, NS, I0, I1, I2, BO, FI, RG, GU, PU, MA, MN, MS, OT, SC], [r0, r1, r2, r3, w, r5, r6, r7, r8], Lg)) o from ev_gt (c := s2 = 0) _ _ 2 zg2 zc1 e (fun n => Eq.refl _)
    have ze3 := Option.some.inj h
    subst ze3
    exact ev_rete 1 ho (fun n => Eq.refl _)
  · have h := itn h zc1
    suffices e : Ev (d + 8, 0, 0, 204, 5, [.val (.ref 192), .val (.ref 128), .val (.ref s2)], [], (126, 120, L, [Y, T, H, H2, RA, RB, ST, NS, I0, I1, I2, BO, FI, RG, GU, PU, MA, MN, MS, OT, SC], [r0, r1, r2, r3, w, r5, r6, r7, r8], Lg)) o from ev_gf (c := s2 = 0) _ _ 2 zg2 zc1 e (fun n => Eq.refl _)
    by_cases zg4 : ¬ (isW s2)
    · exact nos (itn h zg4)
    have zg4 := Decidable.not_not.mp zg4
    have h := itp h zg4
    suffices e : Ev (d + 8, 0, 0, 204, 9, [.val (.ref 192), .val (.ref 128), .val (.ref s2)], [.ref s2, .ref 2753], (126, 120, L, [Y, T, H, H2, RA, RB, ST, NS, I0, I1, I2, BO, FI, RG, GU, PU, MA, MN, MS, OT, SC], [r0, r1, r2, r3, w, r5, r6, r7, r8], Lg)) o from ev_b 2 e (fun n => Eq.refl _)
    refine r_inv (args := []) (rest := [.ref 2753]) rfl rfl rfl rfl (cW zg4).1 (cW zg4).2.1 rfl (R_ord (d + 7) s2 (126, 120, L, [Y, T, H, H2, RA, RB, ST, NS, I0, I1, I2, BO, FI, RG, GU, PU, MA, MN, MS, OT, SC], [r0, r1, r2, r3, w, r5, r6, r7, r8], Lg) zg4) ?_
    obtain ⟨x1, zh5, h⟩ := bnd h
    have zh5 : rdx (a_ca 2753) 23 (w_ord s2) = some x1 := zh5
    suffices e : Ev (d + 8, 0, 0, 204, 13, [.val (.ref 192), .val (.ref 128), .val (.ref s2)], [.int x1], (126, 120, L, [Y, T, H, H2, RA, RB, ST, NS, I0, I1, I2, BO, FI, RG, GU, PU, MA, MN, MS, OT, SC], [r0, r1, r2, r3, w, r5, r6, r7, r8], Lg)) o from ev_opt (fun x1 => (d + 8, 0, 0, 204, 13, [.val (.ref 192), .val (.ref 128), .val (.ref s2)], [.int x1], (126, 120, L, [Y, T, H, H2, RA, RB, ST, NS, I0, I1, I2, BO, FI, RG, GU, PU, MA, MN, MS, OT, SC], [r0, r1, r2, r3, w, r5, r6, r7, r8], Lg))) 1 zh5 e (fun n => Eq.refl _)
    by_cases zc6 : x1 = 1
    · have h := itp h zc6
      suffices e : Ev (d + 8, 0, 0, 204, 68, [.val (.ref 192), .val (.ref 128), .val (.ref s2)], [], (126, 120, L, [Y, T, H, H2, RA, RB, ST, NS, I0, I1, I2, BO, FI, RG, GU, PU, MA, MN, MS, OT, SC], [r0, r1, r2, r3, w, r5, r6, r7, r8], Lg)) o from ev_sw [((1 : Int32), 68), ((2 : Int32), 76), ((3 : Int32), 84), ((4 : Int32), 100), ((5 : Int32), 140), ((6 : Int32), 92), ((7 : Int32), 108), ((8 : Int32), 116), ((9 : Int32), 124), ((10 : Int32), 132)] x1 (fun tt => (d + 8, 0, 0, 204, tt, [.val (.ref 192), .val (.ref 128), .val (.ref s2)], [], (126, 120, L, [Y, T, H, H2, RA, RB, ST, NS, I0, I1, I2, BO, FI, RG, GU, PU, MA, MN, MS, OT, SC], [r0, r1, r2, r3, w, r5, r6, r7, r8], Lg))) 140 68 1 (fun f => by simp only [a_sw, if_pos zc6]) e (fun n => Eq.refl _)
      obtain ⟨⟨T_2, H_3, w4⟩, zh7, h⟩ := bnd h
      have zh7 : f_House_readHours T H w = some (T_2, H_3, w4) := zh7
      have ze8 := R_f_House_readHours_1 (d + 0) Y T H H2 RA RB ST NS I0 I1 I2 BO FI RG GU PU MA MN MS OT SC r0 r1 r2 r3 w r5 r6 r7 r8 L Lg zh7
      suffices e : Ev (d + 8, 0, 0, 204, 73, [.val (.ref 192), .val (.ref 128), .val (.ref s2)], [], (126, 120, L, [Y, T_2, H_3, H2, RA, RB, ST, NS, I0, I1, I2, BO, FI, RG, GU, PU, MA, MN, MS, OT, SC], [r0, r1, r2, r3, w4, r5, r6, r7, r8], Lg)) o from ev_call (fun v μ => (d + 8, 0, 0, 204, 73, [.val (.ref 192), .val (.ref 128), .val (.ref s2)], v.toList ++ [], μ)) 3 ze8 e (fun n => Eq.refl _)
      have ze9 := Option.some.inj h
      subst ze9
      exact ev_rete 2 ho (fun n => Eq.refl _)
    have h := itn h zc6
    by_cases zc10 : x1 = 2
    · have h := itp h zc10
      suffices e : Ev (d + 8, 0, 0, 204, 76, [.val (.ref 192), .val (.ref 128), .val (.ref s2)], [], (126, 120, L, [Y, T, H, H2, RA, RB, ST, NS, I0, I1, I2, BO, FI, RG, GU, PU, MA, MN, MS, OT, SC], [r0, r1, r2, r3, w, r5, r6, r7, r8], Lg)) o from ev_sw [((1 : Int32), 68), ((2 : Int32), 76), ((3 : Int32), 84), ((4 : Int32), 100), ((5 : Int32), 140), ((6 : Int32), 92), ((7 : Int32), 108), ((8 : Int32), 116), ((9 : Int32), 124), ((10 : Int32), 132)] x1 (fun tt => (d + 8, 0, 0, 204, tt, [.val (.ref 192), .val (.ref 128), .val (.ref s2)], [], (126, 120, L, [Y, T, H, H2, RA, RB, ST, NS, I0, I1, I2, BO, FI, RG, GU, PU, MA, MN, MS, OT, SC], [r0, r1, r2, r3, w, r5, r6, r7, r8], Lg))) 140 76 1 (fun f => by simp only [a_sw, if_neg zc6, if_pos zc10]) e (fun n => Eq.refl _)
      obtain ⟨⟨T_5, H_6, w7⟩, zh11, h⟩ := bnd h
      have zh11 : f_House_readRoom T H w = some (T_5, H_6, w7) := zh11
      have ze12 := R_f_House_readRoom_1 (d + 0) Y T H H2 RA RB ST NS I0 I1 I2 BO FI RG GU PU MA MN MS OT SC r0 r1 r2 r3 w r5 r6 r7 r8 L Lg zh11
      suffices e : Ev (d + 8, 0, 0, 204, 81, [.val (.ref 192), .val (.ref 128), .val (.ref s2)], [], (126, 120, L, [Y, T_5, H_6, H2, RA, RB, ST, NS, I0, I1, I2, BO, FI, RG, GU, PU, MA, MN, MS, OT, SC], [r0, r1, r2, r3, w7, r5, r6, r7, r8], Lg)) o from ev_call (fun v μ => (d + 8, 0, 0, 204, 81, [.val (.ref 192), .val (.ref 128), .val (.ref s2)], v.toList ++ [], μ)) 3 ze12 e (fun n => Eq.refl _)
      have ze13 := Option.some.inj h
      subst ze13
      exact ev_rete 2 ho (fun n => Eq.refl _)
    have h := itn h zc10
    by_cases zc14 : x1 = 3
    · have h := itp h zc14
      suffices e : Ev (d + 8, 0, 0, 204, 84, [.val (.ref 192), .val (.ref 128), .val (.ref s2)], [], (126, 120, L, [Y, T, H, H2, RA, RB, ST, NS, I0, I1, I2, BO, FI, RG, GU, PU, MA, MN, MS, OT, SC], [r0, r1, r2, r3, w, r5, r6, r7, r8], Lg)) o from ev_sw [((1 : Int32), 68), ((2 : Int32), 76), ((3 : Int32), 84), ((4 : Int32), 100), ((5 : Int32), 140), ((6 : Int32), 92), ((7 : Int32), 108), ((8 : Int32), 116), ((9 : Int32), 124), ((10 : Int32), 132)] x1 (fun tt => (d + 8, 0, 0, 204, tt, [.val (.ref 192), .val (.ref 128), .val (.ref s2)], [], (126, 120, L, [Y, T, H, H2, RA, RB, ST, NS, I0, I1, I2, BO, FI, RG, GU, PU, MA, MN, MS, OT, SC], [r0, r1, r2, r3, w, r5, r6, r7, r8], Lg))) 140 84 1 (fun f => by simp only [a_sw, if_neg zc6, if_neg zc10, if_pos zc14]) e (fun n => Eq.refl _)
      obtain ⟨⟨T_8, H_9, w10⟩, zh15, h⟩ := bnd h
      have zh15 : f_House_readPerson T H w = some (T_8, H_9, w10) := zh15
      have ze16 := R_f_House_readPerson_1 (d + 0) Y T H H2 RA RB ST NS I0 I1 I2 BO FI RG GU PU MA MN MS OT SC r0 r1 r2 r3 w r5 r6 r7 r8 L Lg zh15
      suffices e : Ev (d + 8, 0, 0, 204, 89, [.val (.ref 192), .val (.ref 128), .val (.ref s2)], [], (126, 120, L, [Y, T_8, H_9, H2, RA, RB, ST, NS, I0, I1, I2, BO, FI, RG, GU, PU, MA, MN, MS, OT, SC], [r0, r1, r2, r3, w10, r5, r6, r7, r8], Lg)) o from ev_call (fun v μ => (d + 8, 0, 0, 204, 89, [.val (.ref 192), .val (.ref 128), .val (.ref s2)], v.toList ++ [], μ)) 3 ze16 e (fun n => Eq.refl _)
      have ze17 := Option.some.inj h
      subst ze17
      exact ev_rete 2 ho (fun n => Eq.refl _)
    have h := itn h zc14
    by_cases zc18 : x1 = 4
    · have h := itp h zc18
      suffices e : Ev (d + 8, 0, 0, 204, 100, [.val (.ref 192), .val (.ref 128), .val (.ref s2)], [], (126, 120, L, [Y, T, H, H2, RA, RB, ST, NS, I0, I1, I2, BO, FI, RG, GU, PU, MA, MN, MS, OT, SC], [r0, r1, r2, r3, w, r5, r6, r7, r8], Lg)) o from ev_sw [((1 : Int32), 68), ((2 : Int32), 76), ((3 : Int32), 84), ((4 : Int32), 100), ((5 : Int32), 140), ((6 : Int32), 92), ((7 : Int32), 108), ((8 : Int32), 116), ((9 : Int32), 124), ((10 : Int32), 132)] x1 (fun tt => (d + 8, 0, 0, 204, tt, [.val (.ref 192), .val (.ref 128), .val (.ref s2)], [], (126, 120, L, [Y, T, H, H2, RA, RB, ST, NS, I0, I1, I2, BO, FI, RG, GU, PU, MA, MN, MS, OT, SC], [r0, r1, r2, r3, w, r5, r6, r7, r8], Lg))) 140 100 1 (fun f => by simp only [a_sw, if_neg zc6, if_neg zc10, if_neg zc14, if_pos zc18]) e (fun n => Eq.refl _)
      obtain ⟨⟨T_11, H_12, w13⟩, zh19, h⟩ := bnd h
      have zh19 : f_House_readMeet T H w = some (T_11, H_12, w13) := zh19
      have ze20 := R_f_House_readMeet_1 (d + 0) Y T H H2 RA RB ST NS I0 I1 I2 BO FI RG GU PU MA MN MS OT SC r0 r1 r2 r3 w r5 r6 r7 r8 L Lg zh19
      suffices e : Ev (d + 8, 0, 0, 204, 105, [.val (.ref 192), .val (.ref 128), .val (.ref s2)], [], (126, 120, L, [Y, T_11, H_12, H2, RA, RB, ST, NS, I0, I1, I2, BO, FI, RG, GU, PU, MA, MN, MS, OT, SC], [r0, r1, r2, r3, w13, r5, r6, r7, r8], Lg)) o from ev_call (fun v μ => (d + 8, 0, 0, 204, 105, [.val (.ref 192), .val (.ref 128), .val (.ref s2)], v.toList ++ [], μ)) 3 ze20 e (fun n => Eq.refl _)
      have ze21 := Option.some.inj h
      subst ze21
      exact ev_rete 2 ho (fun n => Eq.refl _)
    have h := itn h zc18
    by_cases zc22 : x1 = 5
    · have h := itp h zc22
      suffices e : Ev (d + 8, 0, 0, 204, 140, [.val (.ref 192), .val (.ref 128), .val (.ref s2)], [], (126, 120, L, [Y, T, H, H2, RA, RB, ST, NS, I0, I1, I2, BO, FI, RG, GU, PU, MA, MN, MS, OT, SC], [r0, r1, r2, r3, w, r5, r6, r7, r8], Lg)) o from ev_sw [((1 : Int32), 68), ((2 : Int32), 76), ((3 : Int32), 84), ((4 : Int32), 100), ((5 : Int32), 140), ((6 : Int32), 92), ((7 : Int32), 108), ((8 : Int32), 116), ((9 : Int32), 124), ((10 : Int32), 132)] x1 (fun tt => (d + 8, 0, 0, 204, tt, [.val (.ref 192), .val (.ref 128), .val (.ref s2)], [], (126, 120, L, [Y, T, H, H2, RA, RB, ST, NS, I0, I1, I2, BO, FI, RG, GU, PU, MA, MN, MS, OT, SC], [r0, r1, r2, r3, w, r5, r6, r7, r8], Lg))) 140 140 1 (fun f => by simp only [a_sw, if_neg zc6, if_neg zc10, if_neg zc14, if_neg zc18, if_pos zc22]) e (fun n => Eq.refl _)
      obtain ⟨⟨T_14, H_15, w16⟩, zh23, h⟩ := bnd h
      have zh23 : f_House_readHold T H w = some (T_14, H_15, w16) := zh23
      have ze24 := R_f_House_readHold_1 (d + 0) Y T H H2 RA RB ST NS I0 I1 I2 BO FI RG GU PU MA MN MS OT SC r0 r1 r2 r3 w r5 r6 r7 r8 L Lg zh23
      suffices e : Ev (d + 8, 0, 0, 204, 145, [.val (.ref 192), .val (.ref 128), .val (.ref s2)], [], (126, 120, L, [Y, T_14, H_15, H2, RA, RB, ST, NS, I0, I1, I2, BO, FI, RG, GU, PU, MA, MN, MS, OT, SC], [r0, r1, r2, r3, w16, r5, r6, r7, r8], Lg)) o from ev_call (fun v μ => (d + 8, 0, 0, 204, 145, [.val (.ref 192), .val (.ref 128), .val (.ref s2)], v.toList ++ [], μ)) 3 ze24 e (fun n => Eq.refl _)
      have ze25 := Option.some.inj h
      subst ze25
      exact ev_rete 1 ho (fun n => Eq.refl _)
    have h := itn h zc22
    by_cases zc26 : x1 = 6
    · have h := itp h zc26
      suffices e : Ev (d + 8, 0, 0, 204, 92, [.val (.ref 192), .val (.ref 128), .val (.ref s2)], [], (126, 120, L, [Y, T, H, H2, RA, RB, ST, NS, I0, I1, I2, BO, FI, RG, GU, PU, MA, MN, MS, OT, SC], [r0, r1, r2, r3, w, r5, r6, r7, r8], Lg)) o from ev_sw [((1 : Int32), 68), ((2 : Int32), 76), ((3 : Int32), 84), ((4 : Int32), 100), ((5 : Int32), 140), ((6 : Int32), 92), ((7 : Int32), 108), ((8 : Int32), 116), ((9 : Int32), 124), ((10 : Int32), 132)] x1 (fun tt => (d + 8, 0, 0, 204, tt, [.val (.ref 192), .val (.ref 128), .val (.ref s2)], [], (126, 120, L, [Y, T, H, H2, RA, RB, ST, NS, I0, I1, I2, BO, FI, RG, GU, PU, MA, MN, MS, OT, SC], [r0, r1, r2, r3, w, r5, r6, r7, r8], Lg))) 140 92 1 (fun f => by simp only [a_sw, if_neg zc6, if_neg zc10, if_neg zc14, if_neg zc18, if_neg zc22, if_pos zc26]) e (fun n => Eq.refl _)
      obtain ⟨⟨T_17, H_18, w19⟩, zh27, h⟩ := bnd h
      have zh27 : f_House_readBusy T H w = some (T_17, H_18, w19) := zh27
      have ze28 := R_f_House_readBusy_1 (d + 0) Y T H H2 RA RB ST NS I0 I1 I2 BO FI RG GU PU MA MN MS OT SC r0 r1 r2 r3 w r5 r6 r7 r8 L Lg zh27
      suffices e : Ev (d + 8, 0, 0, 204, 97, [.val (.ref 192), .val (.ref 128), .val (.ref s2)], [], (126, 120, L, [Y, T_17, H_18, H2, RA, RB, ST, NS, I0, I1, I2, BO, FI, RG, GU, PU, MA, MN, MS, OT, SC], [r0, r1, r2, r3, w19, r5, r6, r7, r8], Lg)) o from ev_call (fun v μ => (d + 8, 0, 0, 204, 97, [.val (.ref 192), .val (.ref 128), .val (.ref s2)], v.toList ++ [], μ)) 3 ze28 e (fun n => Eq.refl _)
      have ze29 := Option.some.inj h
      subst ze29
      exact ev_rete 2 ho (fun n => Eq.refl _)
    have h := itn h zc26
    by_cases zc30 : x1 = 7
    · have h := itp h zc30
      suffices e : Ev (d + 8, 0, 0, 204, 108, [.val (.ref 192), .val (.ref 128), .val (.ref s2)], [], (126, 120, L, [Y, T, H, H2, RA, RB, ST, NS, I0, I1, I2, BO, FI, RG, GU, PU, MA, MN, MS, OT, SC], [r0, r1, r2, r3, w, r5, r6, r7, r8], Lg)) o from ev_sw [((1 : Int32), 68), ((2 : Int32), 76), ((3 : Int32), 84), ((4 : Int32), 100), ((5 : Int32), 140), ((6 : Int32), 92), ((7 : Int32), 108), ((8 : Int32), 116), ((9 : Int32), 124), ((10 : Int32), 132)] x1 (fun tt => (d + 8, 0, 0, 204, tt, [.val (.ref 192), .val (.ref 128), .val (.ref s2)], [], (126, 120, L, [Y, T, H, H2, RA, RB, ST, NS, I0, I1, I2, BO, FI, RG, GU, PU, MA, MN, MS, OT, SC], [r0, r1, r2, r3, w, r5, r6, r7, r8], Lg))) 140 108 1 (fun f => by simp only [a_sw, if_neg zc6, if_neg zc10, if_neg zc14, if_neg zc18, if_neg zc22, if_neg zc26, if_pos zc30]) e (fun n => Eq.refl _)
      obtain ⟨⟨T_20, H_21, w22⟩, zh31, h⟩ := bnd h
      have zh31 : f_House_readWho T H w = some (T_20, H_21, w22) := zh31
      have ze32 := R_f_House_readWho_1 (d + 0) Y T H H2 RA RB ST NS I0 I1 I2 BO FI RG GU PU MA MN MS OT SC r0 r1 r2 r3 w r5 r6 r7 r8 L Lg zh31
      suffices e : Ev (d + 8, 0, 0, 204, 113, [.val (.ref 192), .val (.ref 128), .val (.ref s2)], [], (126, 120, L, [Y, T_20, H_21, H2, RA, RB, ST, NS, I0, I1, I2, BO, FI, RG, GU, PU, MA, MN, MS, OT, SC], [r0, r1, r2, r3, w22, r5, r6, r7, r8], Lg)) o from ev_call (fun v μ => (d + 8, 0, 0, 204, 113, [.val (.ref 192), .val (.ref 128), .val (.ref s2)], v.toList ++ [], μ)) 3 ze32 e (fun n => Eq.refl _)
      have ze33 := Option.some.inj h
      subst ze33
      exact ev_rete 2 ho (fun n => Eq.refl _)
    have h := itn h zc30
    by_cases zc34 : x1 = 8
    · have h := itp h zc34
      suffices e : Ev (d + 8, 0, 0, 204, 116, [.val (.ref 192), .val (.ref 128), .val (.ref s2)], [], (126, 120, L, [Y, T, H, H2, RA, RB, ST, NS, I0, I1, I2, BO, FI, RG, GU, PU, MA, MN, MS, OT, SC], [r0, r1, r2, r3, w, r5, r6, r7, r8], Lg)) o from ev_sw [((1 : Int32), 68), ((2 : Int32), 76), ((3 : Int32), 84), ((4 : Int32), 100), ((5 : Int32), 140), ((6 : Int32), 92), ((7 : Int32), 108), ((8 : Int32), 116), ((9 : Int32), 124), ((10 : Int32), 132)] x1 (fun tt => (d + 8, 0, 0, 204, tt, [.val (.ref 192), .val (.ref 128), .val (.ref s2)], [], (126, 120, L, [Y, T, H, H2, RA, RB, ST, NS, I0, I1, I2, BO, FI, RG, GU, PU, MA, MN, MS, OT, SC], [r0, r1, r2, r3, w, r5, r6, r7, r8], Lg))) 140 116 1 (fun f => by simp only [a_sw, if_neg zc6, if_neg zc10, if_neg zc14, if_neg zc18, if_neg zc22, if_neg zc26, if_neg zc30, if_pos zc34]) e (fun n => Eq.refl _)
      obtain ⟨⟨T_23, H_24, w25⟩, zh35, h⟩ := bnd h
      have zh35 : f_House_readMay T H w = some (T_23, H_24, w25) := zh35
      have ze36 := R_f_House_readMay_1 (d + 0) Y T H H2 RA RB ST NS I0 I1 I2 BO FI RG GU PU MA MN MS OT SC r0 r1 r2 r3 w r5 r6 r7 r8 L Lg zh35
      suffices e : Ev (d + 8, 0, 0, 204, 121, [.val (.ref 192), .val (.ref 128), .val (.ref s2)], [], (126, 120, L, [Y, T_23, H_24, H2, RA, RB, ST, NS, I0, I1, I2, BO, FI, RG, GU, PU, MA, MN, MS, OT, SC], [r0, r1, r2, r3, w25, r5, r6, r7, r8], Lg)) o from ev_call (fun v μ => (d + 8, 0, 0, 204, 121, [.val (.ref 192), .val (.ref 128), .val (.ref s2)], v.toList ++ [], μ)) 3 ze36 e (fun n => Eq.refl _)
      have ze37 := Option.some.inj h
      subst ze37
      exact ev_rete 2 ho (fun n => Eq.refl _)
    have h := itn h zc34
    by_cases zc38 : x1 = 9
    · have h := itp h zc38
      suffices e : Ev (d + 8, 0, 0, 204, 124, [.val (.ref 192), .val (.ref 128), .val (.ref s2)], [], (126, 120, L, [Y, T, H, H2, RA, RB, ST, NS, I0, I1, I2, BO, FI, RG, GU, PU, MA, MN, MS, OT, SC], [r0, r1, r2, r3, w, r5, r6, r7, r8], Lg)) o from ev_sw [((1 : Int32), 68), ((2 : Int32), 76), ((3 : Int32), 84), ((4 : Int32), 100), ((5 : Int32), 140), ((6 : Int32), 92), ((7 : Int32), 108), ((8 : Int32), 116), ((9 : Int32), 124), ((10 : Int32), 132)] x1 (fun tt => (d + 8, 0, 0, 204, tt, [.val (.ref 192), .val (.ref 128), .val (.ref s2)], [], (126, 120, L, [Y, T, H, H2, RA, RB, ST, NS, I0, I1, I2, BO, FI, RG, GU, PU, MA, MN, MS, OT, SC], [r0, r1, r2, r3, w, r5, r6, r7, r8], Lg))) 140 124 1 (fun f => by simp only [a_sw, if_neg zc6, if_neg zc10, if_neg zc14, if_neg zc18, if_neg zc22, if_neg zc26, if_neg zc30, if_neg zc34, if_pos zc38]) e (fun n => Eq.refl _)
      obtain ⟨⟨T_26, H_27, w28⟩, zh39, h⟩ := bnd h
      have zh39 : f_House_readFixed T H w = some (T_26, H_27, w28) := zh39
      have ze40 := R_f_House_readFixed_1 (d + 0) Y T H H2 RA RB ST NS I0 I1 I2 BO FI RG GU PU MA MN MS OT SC r0 r1 r2 r3 w r5 r6 r7 r8 L Lg zh39
      suffices e : Ev (d + 8, 0, 0, 204, 129, [.val (.ref 192), .val (.ref 128), .val (.ref s2)], [], (126, 120, L, [Y, T_26, H_27, H2, RA, RB, ST, NS, I0, I1, I2, BO, FI, RG, GU, PU, MA, MN, MS, OT, SC], [r0, r1, r2, r3, w28, r5, r6, r7, r8], Lg)) o from ev_call (fun v μ => (d + 8, 0, 0, 204, 129, [.val (.ref 192), .val (.ref 128), .val (.ref s2)], v.toList ++ [], μ)) 3 ze40 e (fun n => Eq.refl _)
      have ze41 := Option.some.inj h
      subst ze41
      exact ev_rete 2 ho (fun n => Eq.refl _)
    have h := itn h zc38
    by_cases zc42 : x1 = 10
    · have h := itp h zc42
      suffices e : Ev (d + 8, 0, 0, 204, 132, [.val (.ref 192), .val (.ref 128), .val (.ref s2)], [], (126, 120, L, [Y, T, H, H2, RA, RB, ST, NS, I0, I1, I2, BO, FI, RG, GU, PU, MA, MN, MS, OT, SC], [r0, r1, r2, r3, w, r5, r6, r7, r8], Lg)) o from ev_sw [((1 : Int32), 68), ((2 : Int32), 76), ((3 : Int32), 84), ((4 : Int32), 100), ((5 : Int32), 140), ((6 : Int32), 92), ((7 : Int32), 108), ((8 : Int32), 116), ((9 : Int32), 124), ((10 : Int32), 132)] x1 (fun tt => (d + 8, 0, 0, 204, tt, [.val (.ref 192), .val (.ref 128), .val (.ref s2)], [], (126, 120, L, [Y, T, H, H2, RA, RB, ST, NS, I0, I1, I2, BO, FI, RG, GU, PU, MA, MN, MS, OT, SC], [r0, r1, r2, r3, w, r5, r6, r7, r8], Lg))) 140 132 1 (fun f => by simp only [a_sw, if_neg zc6, if_neg zc10, if_neg zc14, if_neg zc18, if_neg zc22, if_neg zc26, if_neg zc30, if_neg zc34, if_neg zc38, if_pos zc42]) e (fun n => Eq.refl _)
      obtain ⟨⟨T_29, H_30, w31⟩, zh43, h⟩ := bnd h
      have zh43 : f_House_readMoved T H w = some (T_29, H_30, w31) := zh43
      have ze44 := R_f_House_readMoved_1 (d + 0) Y T H H2 RA RB ST NS I0 I1 I2 BO FI RG GU PU MA MN MS OT SC r0 r1 r2 r3 w r5 r6 r7 r8 L Lg zh43
      suffices e : Ev (d + 8, 0, 0, 204, 137, [.val (.ref 192), .val (.ref 128), .val (.ref s2)], [], (126, 120, L, [Y, T_29, H_30, H2, RA, RB, ST, NS, I0, I1, I2, BO, FI, RG, GU, PU, MA, MN, MS, OT, SC], [r0, r1, r2, r3, w31, r5, r6, r7, r8], Lg)) o from ev_call (fun v μ => (d + 8, 0, 0, 204, 137, [.val (.ref 192), .val (.ref 128), .val (.ref s2)], v.toList ++ [], μ)) 3 ze44 e (fun n => Eq.refl _)
      have ze45 := Option.some.inj h
      subst ze45
      exact ev_rete 2 ho (fun n => Eq.refl _)
    have h := itn h zc42
    suffices e : Ev (d + 8, 0, 0, 204, 140, [.val (.ref 192), .val (.ref 128), .val (.ref s2)], [], (126, 120, L, [Y, T, H, H2, RA, RB, ST, NS, I0, I1, I2, BO, FI, RG, GU, PU, MA, MN, MS, OT, SC], [r0, r1, r2, r3, w, r5, r6, r7, r8], Lg)) o from ev_sw [((1 : Int32), 68), ((2 : Int32), 76), ((3 : Int32), 84), ((4 : Int32), 100), ((5 : Int32), 140), ((6 : Int32), 92), ((7 : Int32), 108), ((8 : Int32), 116), ((9 : Int32), 124), ((10 : Int32), 132)] x1 (fun tt => (d + 8, 0, 0, 204, tt, [.val (.ref 192), .val (.ref 128), .val (.ref s2)], [], (126, 120, L, [Y, T, H, H2, RA, RB, ST, NS, I0, I1, I2, BO, FI, RG, GU, PU, MA, MN, MS, OT, SC], [r0, r1, r2, r3, w, r5, r6, r7, r8], Lg))) 140 140 1 (fun f => by simp only [a_sw, if_neg zc6, if_neg zc10, if_neg zc14, if_neg zc18, if_neg zc22, if_neg zc26, if_neg zc30, if_neg zc34, if_neg zc38, if_neg zc42]) e (fun n => Eq.refl _)
    obtain ⟨⟨T_32, H_33, w34⟩, zh46, h⟩ := bnd h
    have zh46 : f_House_readHold T H w = some (T_32, H_33, w34) := zh46
    have ze47 := R_f_House_readHold_1 (d + 0) Y T H H2 RA RB ST NS I0 I1 I2 BO FI RG GU PU MA MN MS OT SC r0 r1 r2 r3 w r5 r6 r7 r8 L Lg zh46
    suffices e : Ev (d + 8, 0, 0, 204, 145, [.val (.ref 192), .val (.ref 128), .val (.ref s2)], [], (126, 120, L, [Y, T_32, H_33, H2, RA, RB, ST, NS, I0, I1, I2, BO, FI, RG, GU, PU, MA, MN, MS, OT, SC], [r0, r1, r2, r3, w34, r5, r6, r7, r8], Lg)) o from ev_call (fun v μ => (d + 8, 0, 0, 204, 145, [.val (.ref 192), .val (.ref 128), .val (.ref s2)], v.toList ++ [], μ)) 3 ze47 e (fun n => Eq.refl _)
    have ze48 := Option.some.inj h
    subst ze48
    exact ev_rete 1 ho (fun n => Eq.refl _)
set_option maxRecDepth 1000000 in
set_option maxHeartbeats 4000000 in
theorem R_f_House_mayHours_1 (d : Nat) (Y T H H2 RA RB ST NS I0 I1 I2 BO FI RG GU PU MA MN MS OT SC : Nat → Nat → Int32) (r0 r1 r2 r3 w r5 r6 r7 r8 : Nat) (L : Nat) (Lg : Int64) (p1 : Int32) {r : Int32} (h : f_House_mayHours H p1 = some r) : Ev (d + 0, 0, 0, 218, 0, [.val (.ref 192), .val (.int p1)], [], (126, 120, L, [Y, T, H, H2, RA, RB, ST, NS, I0, I1, I2, BO, FI, RG, GU, PU, MA, MN, MS, OT, SC], [r0, r1, r2, r3, w, r5, r6, r7, r8], Lg)) ((0, some (.int r), (126, 120, L, [Y, T, H, H2, RA, RB, ST, NS, I0, I1, I2, BO, FI, RG, GU, PU, MA, MN, MS, OT, SC], [r0, r1, r2, r3, w, r5, r6, r7, r8], Lg)) : AOut) := by
  suffices key : ∀ o : AOut, ((0, some (.int r), (126, 120, L, [Y, T, H, H2, RA, RB, ST, NS, I0, I1, I2, BO, FI, RG, GU, PU, MA, MN, MS, OT, SC], [r0, r1, r2, r3, w, r5, r6, r7, r8], Lg)) : AOut) = o → Ev (d + 0, 0, 0, 218, 0, [.val (.ref 192), .val (.int p1)], [], (126, 120, L, [Y, T, H, H2, RA, RB, ST, NS, I0, I1, I2, BO, FI, RG, GU, PU, MA, MN, MS, OT, SC], [r0, r1, r2, r3, w, r5, r6, r7, r8], Lg)) o from key _ rfl
  intro o ho
  obtain ⟨x1, zh1, h⟩ := bnd h
  have zh1 : rdx (H 9) 10 p1 = some x1 := zh1
  suffices e : Ev (d + 0, 0, 0, 218, 6, [.val (.ref 192), .val (.int p1)], [.int x1], (126, 120, L, [Y, T, H, H2, RA, RB, ST, NS, I0, I1, I2, BO, FI, RG, GU, PU, MA, MN, MS, OT, SC], [r0, r1, r2, r3, w, r5, r6, r7, r8], Lg)) o from ev_opt (fun x1 => (d + 0, 0, 0, 218, 6, [.val (.ref 192), .val (.int p1)], [.int x1], (126, 120, L, [Y, T, H, H2, RA, RB, ST, NS, I0, I1, I2, BO, FI, RG, GU, PU, MA, MN, MS, OT, SC], [r0, r1, r2, r3, w, r5, r6, r7, r8], Lg))) 4 zh1 e (fun n => Eq.refl _)
  by_cases zc2 : x1 ≠ 0
  · have h := itp h zc2
    suffices e : Ev (d + 0, 0, 0, 218, 20, [.val (.ref 192), .val (.int p1)], [], (126, 120, L, [Y, T, H, H2, RA, RB, ST, NS, I0, I1, I2, BO, FI, RG, GU, PU, MA, MN, MS, OT, SC], [r0, r1, r2, r3, w, r5, r6, r7, r8], Lg)) o from ev_t (c := x1 ≠ 0) _ _ 1  zc2 e (fun n => Eq.refl _)
    obtain ⟨x2, zh3, h⟩ := bnd h
    have zh3 : rdx (H 9) 10 p1 = some x2 := zh3
    suffices e : Ev (d + 0, 0, 0, 218, 26, [.val (.ref 192), .val (.int p1)], [.int x2], (126, 120, L, [Y, T, H, H2, RA, RB, ST, NS, I0, I1, I2, BO, FI, RG, GU, PU, MA, MN, MS, OT, SC], [r0, r1, r2, r3, w, r5, r6, r7, r8], Lg)) o from ev_opt (fun x2 => (d + 0, 0, 0, 218, 26, [.val (.ref 192), .val (.int p1)], [.int x2], (126, 120, L, [Y, T, H, H2, RA, RB, ST, NS, I0, I1, I2, BO, FI, RG, GU, PU, MA, MN, MS, OT, SC], [r0, r1, r2, r3, w, r5, r6, r7, r8], Lg))) 4 zh3 e (fun n => Eq.refl _)
    have ze4 := Option.some.inj h
    subst ze4
    exact ev_rete 1 ho (fun n => Eq.refl _)
  · have h := itn h zc2
    suffices e : Ev (d + 0, 0, 0, 218, 9, [.val (.ref 192), .val (.int p1)], [], (126, 120, L, [Y, T, H, H2, RA, RB, ST, NS, I0, I1, I2, BO, FI, RG, GU, PU, MA, MN, MS, OT, SC], [r0, r1, r2, r3, w, r5, r6, r7, r8], Lg)) o from ev_f (c := x1 ≠ 0) _ _ 1  zc2 e (fun n => Eq.refl _)
    have ze5 := Option.some.inj h
    subst ze5
    exact ev_rete 8 ho (fun n => Eq.refl _)
set_option maxRecDepth 1000000 in
set_option maxHeartbeats 4000000 in
theorem R_f_House_busyHoursOf_1 (d : Nat) (Y T H H2 RA RB ST NS I0 I1 I2 BO FI RG GU PU MA MN MS OT SC : Nat → Nat → Int32) (r0 r1 r2 r3 w r5 r6 r7 r8 : Nat) (L : Nat) (Lg : Int64) (p1 : Int32) {r : Int32} (h : f_House_busyHoursOf H p1 = some r) : Ev (d + 0, 0, 0, 219, 0, [.val (.ref 192), .val (.int p1), .val a_unk, .val a_unk], [], (126, 120, L, [Y, T, H, H2, RA, RB, ST, NS, I0, I1, I2, BO, FI, RG, GU, PU, MA, MN, MS, OT, SC], [r0, r1, r2, r3, w, r5, r6, r7, r8], Lg)) ((0, some (.int r), (126, 120, L, [Y, T, H, H2, RA, RB, ST, NS, I0, I1, I2, BO, FI, RG, GU, PU, MA, MN, MS, OT, SC], [r0, r1, r2, r3, w, r5, r6, r7, r8], Lg)) : AOut) := by
  suffices key : ∀ o : AOut, ((0, some (.int r), (126, 120, L, [Y, T, H, H2, RA, RB, ST, NS, I0, I1, I2, BO, FI, RG, GU, PU, MA, MN, MS, OT, SC], [r0, r1, r2, r3, w, r5, r6, r7, r8], Lg)) : AOut) = o → Ev (d + 0, 0, 0, 219, 0, [.val (.ref 192), .val (.int p1), .val a_unk, .val a_unk], [], (126, 120, L, [Y, T, H, H2, RA, RB, ST, NS, I0, I1, I2, BO, FI, RG, GU, PU, MA, MN, MS, OT, SC], [r0, r1, r2, r3, w, r5, r6, r7, r8], Lg)) o from key _ rfl
  intro o ho
  obtain ⟨v4, zh2, h⟩ := bnd h
  suffices e : Ev (d + 0, 0, 0, 219, 4, [.val (.ref 192), .val (.int p1), .val (.int 0), .val (.int 0)], [], (126, 120, L, [Y, T, H, H2, RA, RB, ST, NS, I0, I1, I2, BO, FI, RG, GU, PU, MA, MN, MS, OT, SC], [r0, r1, r2, r3, w, r5, r6, r7, r8], Lg)) o from ev_b 4 e (fun n => Eq.refl _)
  refine ev_loop (δ := Unit) (fun a j => (d + 0, 0, 0, 219, 4, [.val (.ref 192), .val (.int p1), .val (.int a.1), .val (.int a.2)], [], (126, 120, L, [Y, T, H, H2, RA, RB, ST, NS, I0, I1, I2, BO, FI, RG, GU, PU, MA, MN, MS, OT, SC], [r0, r1, r2, r3, w, r5, r6, r7, r8], Lg))) (fun b => ∀ s5 : Value, Ev (d + 0, 0, 0, 219, 35, [.val (.ref 192), .val (.int p1), .val (.int b), .val s5], [], (126, 120, L, [Y, T, H, H2, RA, RB, ST, NS, I0, I1, I2, BO, FI, RG, GU, PU, MA, MN, MS, OT, SC], [r0, r1, r2, r3, w, r5, r6, r7, r8], Lg)) o) ?_ a_F (0, 0) v4 zh2 ?_ ()
  · rintro ⟨v1, v2⟩ zr6 zh5 zi3 zx4 ⟨⟩
    have zh5 : f_House_busyHoursOf_l4 H p1 v1 v2 = some zr6 := zh5
    by_cases zc7 : (H 0 2) ≤ v2
    · have zh5 := itp zh5 zc7
      suffices e : Ev (d + 0, 0, 0, 219, 35, [.val (.ref 192), .val (.int p1), .val (.int v1), .val (.int v2)], [], (126, 120, L, [Y, T, H, H2, RA, RB, ST, NS, I0, I1, I2, BO, FI, RG, GU, PU, MA, MN, MS, OT, SC], [r0, r1, r2, r3, w, r5, r6, r7, r8], Lg)) o from ev_t (c := (H 0 2) ≤ v2) _ _ 4  zc7 e (fun n => Eq.refl _)
      exact ev_b 0 (zx4 _ (Option.some.inj zh5).symm (.int v2)) (fun n => Eq.refl _)
    · have zh5 := itn zh5 zc7
      suffices e : Ev (d + 0, 0, 0, 219, 12, [.val (.ref 192), .val (.int p1), .val (.int v1), .val (.int v2)], [], (126, 120, L, [Y, T, H, H2, RA, RB, ST, NS, I0, I1, I2, BO, FI, RG, GU, PU, MA, MN, MS, OT, SC], [r0, r1, r2, r3, w, r5, r6, r7, r8], Lg)) o from ev_f (c := (H 0 2) ≤ v2) _ _ 4  zc7 e (fun n => Eq.refl _)
      by_cases zc8 : ((a_shr p1 v2) &&& 1) = 0
      · have zh5 := itp zh5 zc8
        suffices e : Ev (d + 0, 0, 0, 219, 29, [.val (.ref 192), .val (.int p1), .val (.int v1), .val (.int v2)], [], (126, 120, L, [Y, T, H, H2, RA, RB, ST, NS, I0, I1, I2, BO, FI, RG, GU, PU, MA, MN, MS, OT, SC], [r0, r1, r2, r3, w, r5, r6, r7, r8], Lg)) o from ev_t (c := ((a_shr p1 v2) &&& 1) = 0) _ _ 6  zc8 e (fun n => Eq.refl _)
        exact ev_b 2 (zi3 _ (Option.some.inj zh5).symm ()) (fun n => Eq.refl _)
      · have zh5 := itn zh5 zc8
        suffices e : Ev (d + 0, 0, 0, 219, 20, [.val (.ref 192), .val (.int p1), .val (.int v1), .val (.int v2)], [], (126, 120, L, [Y, T, H, H2, RA, RB, ST, NS, I0, I1, I2, BO, FI, RG, GU, PU, MA, MN, MS, OT, SC], [r0, r1, r2, r3, w, r5, r6, r7, r8], Lg)) o from ev_f (c := ((a_shr p1 v2) &&& 1) = 0) _ _ 6  zc8 e (fun n => Eq.refl _)
        obtain ⟨x3, zh9, zh5⟩ := bnd zh5
        have zh9 : rdx (H 4) 8 v2 = some x3 := zh9
        suffices e : Ev (d + 0, 0, 0, 219, 27, [.val (.ref 192), .val (.int p1), .val (.int v1), .val (.int v2)], [.int x3, .int v1], (126, 120, L, [Y, T, H, H2, RA, RB, ST, NS, I0, I1, I2, BO, FI, RG, GU, PU, MA, MN, MS, OT, SC], [r0, r1, r2, r3, w, r5, r6, r7, r8], Lg)) o from ev_opt (fun x3 => (d + 0, 0, 0, 219, 27, [.val (.ref 192), .val (.int p1), .val (.int v1), .val (.int v2)], [.int x3, .int v1], (126, 120, L, [Y, T, H, H2, RA, RB, ST, NS, I0, I1, I2, BO, FI, RG, GU, PU, MA, MN, MS, OT, SC], [r0, r1, r2, r3, w, r5, r6, r7, r8], Lg))) 5 zh9 e (fun n => Eq.refl _)
        exact ev_b 4 (zi3 _ (Option.some.inj zh5).symm ()) (fun n => Eq.refl _)
  · skip
    intro s5
    have ze10 := Option.some.inj h
    subst ze10
    exact ev_rete 2 ho (fun n => Eq.refl _)
set_option maxRecDepth 1000000 in
set_option maxHeartbeats 4000000 in
theorem R_f_House_settle_1 (d : Nat) (Y T H H2 RA RB ST NS I0 I1 I2 BO FI RG GU PU MA MN MS OT SC : Nat → Nat → Int32) (r0 r1 r2 r3 w r5 r6 r7 r8 : Nat) (L : Nat) (Lg : Int64) {r : (Nat → Nat → Int32)} (h : f_House_settle H = some r) : Ev (d + 1, 0, 0, 216, 0, [.val (.ref 192), .val a_unk], [], (126, 120, L, [Y, T, H, H2, RA, RB, ST, NS, I0, I1, I2, BO, FI, RG, GU, PU, MA, MN, MS, OT, SC], [r0, r1, r2, r3, w, r5, r6, r7, r8], Lg)) ((0, none, (126, 120, L, [Y, T, r, H2, RA, RB, ST, NS, I0, I1, I2, BO, FI, RG, GU, PU, MA, MN, MS, OT, SC], [r0, r1, r2, r3, w, r5, r6, r7, r8], Lg)) : AOut) := by
  suffices key : ∀ o : AOut, ((0, none, (126, 120, L, [Y, T, r, H2, RA, RB, ST, NS, I0, I1, I2, BO, FI, RG, GU, PU, MA, MN, MS, OT, SC], [r0, r1, r2, r3, w, r5, r6, r7, r8], Lg)) : AOut) = o → Ev (d + 1, 0, 0, 216, 0, [.val (.ref 192), .val a_unk], [], (126, 120, L, [Y, T, H, H2, RA, RB, ST, NS, I0, I1, I2, BO, FI, RG, GU, PU, MA, MN, MS, OT, SC], [r0, r1, r2, r3, w, r5, r6, r7, r8], Lg)) o from key _ rfl
  intro o ho
  obtain ⟨H_8, zh2, h⟩ := bnd h
  suffices e : Ev (d + 1, 0, 0, 216, 2, [.val (.ref 192), .val (.int 0)], [], (126, 120, L, [Y, T, H, H2, RA, RB, ST, NS, I0, I1, I2, BO, FI, RG, GU, PU, MA, MN, MS, OT, SC], [r0, r1, r2, r3, w, r5, r6, r7, r8], Lg)) o from ev_b 2 e (fun n => Eq.refl _)
  refine ev_loop (δ := Unit) (fun a j => (d + 1, 0, 0, 216, 2, [.val (.ref 192), .val (.int a.1)], [], (126, 120, L, [Y, T, a.2, H2, RA, RB, ST, NS, I0, I1, I2, BO, FI, RG, GU, PU, MA, MN, MS, OT, SC], [r0, r1, r2, r3, w, r5, r6, r7, r8], Lg))) (fun b => ∀ s7 : Value, Ev (d + 1, 0, 0, 216, 40, [.val (.ref 192), .val s7], [], (126, 120, L, [Y, T, b, H2, RA, RB, ST, NS, I0, I1, I2, BO, FI, RG, GU, PU, MA, MN, MS, OT, SC], [r0, r1, r2, r3, w, r5, r6, r7, r8], Lg)) o) ?_ a_F (0, H) H_8 zh2 ?_ ()
  · rintro ⟨v1, H_2⟩ zr6 zh5 zi3 zx4 ⟨⟩
    have zh5 : f_House_settle_l2 v1 H_2 = some zr6 := zh5
    by_cases zc7 : (H_2 0 3) ≤ v1
    · have zh5 := itp zh5 zc7
      suffices e : Ev (d + 1, 0, 0, 216, 40, [.val (.ref 192), .val (.int v1)], [], (126, 120, L, [Y, T, H_2, H2, RA, RB, ST, NS, I0, I1, I2, BO, FI, RG, GU, PU, MA, MN, MS, OT, SC], [r0, r1, r2, r3, w, r5, r6, r7, r8], Lg)) o from ev_t (c := (H_2 0 3) ≤ v1) _ _ 4  zc7 e (fun n => Eq.refl _)
      exact ev_b 0 (zx4 _ (Option.some.inj zh5).symm (.int v1)) (fun n => Eq.refl _)
    · have zh5 := itn zh5 zc7
      suffices e : Ev (d + 1, 0, 0, 216, 10, [.val (.ref 192), .val (.int v1)], [], (126, 120, L, [Y, T, H_2, H2, RA, RB, ST, NS, I0, I1, I2, BO, FI, RG, GU, PU, MA, MN, MS, OT, SC], [r0, r1, r2, r3, w, r5, r6, r7, r8], Lg)) o from ev_f (c := (H_2 0 3) ≤ v1) _ _ 4  zc7 e (fun n => Eq.refl _)
      obtain ⟨x3, zh8, zh5⟩ := bnd zh5
      have zh8 : f_House_mayHours H_2 v1 = some x3 := zh8
      have ze9 := R_f_House_mayHours_1 (d + 0) Y T H_2 H2 RA RB ST NS I0 I1 I2 BO FI RG GU PU MA MN MS OT SC r0 r1 r2 r3 w r5 r6 r7 r8 L Lg v1 zh8
      suffices e : Ev (d + 1, 0, 0, 216, 20, [.val (.ref 192), .val (.int v1)], [.int x3, .int v1, .ref 202], (126, 120, L, [Y, T, H_2, H2, RA, RB, ST, NS, I0, I1, I2, BO, FI, RG, GU, PU, MA, MN, MS, OT, SC], [r0, r1, r2, r3, w, r5, r6, r7, r8], Lg)) o from ev_call (fun v μ => (d + 1, 0, 0, 216, 20, [.val (.ref 192), .val (.int v1)], v.toList ++ [.int v1, .ref 202], μ)) 6 ze9 e (fun n => Eq.refl _)
      obtain ⟨x4, zh10, zh5⟩ := bnd zh5
      have zh10 : rdx (H_2 8) 10 v1 = some x4 := zh10
      suffices e : Ev (d + 1, 0, 0, 216, 27, [.val (.ref 192), .val (.int v1)], [.int x4, .ref 192, .int x3, .int v1, .ref 202], (126, 120, L, [Y, T, H_2, H2, RA, RB, ST, NS, I0, I1, I2, BO, FI, RG, GU, PU, MA, MN, MS, OT, SC], [r0, r1, r2, r3, w, r5, r6, r7, r8], Lg)) o from ev_opt (fun x4 => (d + 1, 0, 0, 216, 27, [.val (.ref 192), .val (.int v1)], [.int x4, .ref 192, .int x3, .int v1, .ref 202], (126, 120, L, [Y, T, H_2, H2, RA, RB, ST, NS, I0, I1, I2, BO, FI, RG, GU, PU, MA, MN, MS, OT, SC], [r0, r1, r2, r3, w, r5, r6, r7, r8], Lg))) 5 zh10 e (fun n => Eq.refl _)
      obtain ⟨x5, zh11, zh5⟩ := bnd zh5
      have zh11 : f_House_busyHoursOf H_2 x4 = some x5 := zh11
      have ze12 := R_f_House_busyHoursOf_1 (d + 0) Y T H_2 H2 RA RB ST NS I0 I1 I2 BO FI RG GU PU MA MN MS OT SC r0 r1 r2 r3 w r5 r6 r7 r8 L Lg x4 zh11
      suffices e : Ev (d + 1, 0, 0, 216, 30, [.val (.ref 192), .val (.int v1)], [.int x5, .int x3, .int v1, .ref 202], (126, 120, L, [Y, T, H_2, H2, RA, RB, ST, NS, I0, I1, I2, BO, FI, RG, GU, PU, MA, MN, MS, OT, SC], [r0, r1, r2, r3, w, r5, r6, r7, r8], Lg)) o from ev_call (fun v μ => (d + 1, 0, 0, 216, 30, [.val (.ref 192), .val (.int v1)], v.toList ++ [.int x3, .int v1, .ref 202], μ)) 1 ze12 e (fun n => Eq.refl _)
      obtain ⟨j6, zh13, zh5⟩ := bnd zh5
      have zh13 : ixx 10 v1 = some j6 := zh13
      suffices e : Ev (d + 1, 0, 0, 216, 34, [.val (.ref 192), .val (.int v1)], [], (126, 120, L, [Y, T, (u2 H_2 10 j6 (x3 &&& (x5 ^^^ (-1)))), H2, RA, RB, ST, NS, I0, I1, I2, BO, FI, RG, GU, PU, MA, MN, MS, OT, SC], [r0, r1, r2, r3, w, r5, r6, r7, r8], Lg)) o from ev_opt (fun j6 => (d + 1, 0, 0, 216, 34, [.val (.ref 192), .val (.int v1)], [], (126, 120, L, [Y, T, (u2 H_2 10 j6 (x3 &&& (x5 ^^^ (-1)))), H2, RA, RB, ST, NS, I0, I1, I2, BO, FI, RG, GU, PU, MA, MN, MS, OT, SC], [r0, r1, r2, r3, w, r5, r6, r7, r8], Lg))) 4 zh13 e (fun n => Eq.refl _)
      exact ev_b 2 (zi3 _ (Option.some.inj zh5).symm ()) (fun n => Eq.refl _)
  · skip
    intro s7
    have ze14 := Option.some.inj h
    subst ze14
    exact ev_rete 1 ho (fun n => Eq.refl _)
set_option maxRecDepth 1000000 in
set_option maxHeartbeats 4000000 in
theorem R_f_House_read_1 (d : Nat) (Y T H H2 RA RB ST NS I0 I1 I2 BO FI RG GU PU MA MN MS OT SC : Nat → Nat → Int32) (r0 r1 r2 r3 w r5 r6 r7 r8 : Nat) (L : Nat) (Lg : Int64) {r : (Nat → Nat → Int32) × (Nat → Nat → Int32) × Nat} (h : f_House_read T H w = some r) : Ev (d + 9, 0, 0, 201, 0, [.val (.ref 192), .val (.ref 128), .val a_unk, .val a_unk, .val a_unk], [], (126, 120, L, [Y, T, H, H2, RA, RB, ST, NS, I0, I1, I2, BO, FI, RG, GU, PU, MA, MN, MS, OT, SC], [r0, r1, r2, r3, w, r5, r6, r7, r8], Lg)) ((0, none, (126, 120, L, [Y, r.1, r.2.1, H2, RA, RB, ST, NS, I0, I1, I2, BO, FI, RG, GU, PU, MA, MN, MS, OT, SC], [r0, r1, r2, r3, r.2.2, r5, r6, r7, r8], Lg)) : AOut) := by
  suffices key : ∀ o : AOut, ((0, none, (126, 120, L, [Y, r.1, r.2.1, H2, RA, RB, ST, NS, I0, I1, I2, BO, FI, RG, GU, PU, MA, MN, MS, OT, SC], [r0, r1, r2, r3, r.2.2, r5, r6, r7, r8], Lg)) : AOut) = o → Ev (d + 9, 0, 0, 201, 0, [.val (.ref 192), .val (.ref 128), .val a_unk, .val a_unk, .val a_unk], [], (126, 120, L, [Y, T, H, H2, RA, RB, ST, NS, I0, I1, I2, BO, FI, RG, GU, PU, MA, MN, MS, OT, SC], [r0, r1, r2, r3, w, r5, r6, r7, r8], Lg)) o from key _ rfl
  intro o ho
  obtain ⟨H_1, zh1, h⟩ := bnd h
  have zh1 : f_House_forget H = some H_1 := zh1
  have ze2 := R_f_House_forget_1 (d + 7) Y T H H2 RA RB ST NS I0 I1 I2 BO FI RG GU PU MA MN MS OT SC r0 r1 r2 r3 w r5 r6 r7 r8 L Lg zh1
  suffices e : Ev (d + 9, 0, 0, 201, 4, [.val (.ref 192), .val (.ref 128), .val a_unk, .val a_unk, .val a_unk], [], (126, 120, L, [Y, T, H_1, H2, RA, RB, ST, NS, I0, I1, I2, BO, FI, RG, GU, PU, MA, MN, MS, OT, SC], [r0, r1, r2, r3, w, r5, r6, r7, r8], Lg)) o from ev_call (fun v μ => (d + 9, 0, 0, 201, 4, [.val (.ref 192), .val (.ref 128), .val a_unk, .val a_unk, .val a_unk], v.toList ++ [], μ)) 2 ze2 e (fun n => Eq.refl _)
  obtain ⟨zb3, zh4, h⟩ := bnd h
  suffices e : Ev (d + 9, 0, 0, 201, 6, [.val (.ref 192), .val (.ref 128), .val (.int 0), .val a_unk, .val a_unk], [], (126, 120, L, [Y, T, H_1, H2, RA, RB, ST, NS, I0, I1, I2, BO, FI, RG, GU, PU, MA, MN, MS, OT, SC], [r0, r1, r2, r3, w, r5, r6, r7, r8], Lg)) o from ev_b 2 e (fun n => Eq.refl _)
  refine ev_loop (δ := Value × Value) (fun a j => (d + 9, 0, 0, 201, 6, [.val (.ref 192), .val (.ref 128), .val (.int a.1), .val j.1, .val j.2], [], (126, 120, L, [Y, a.2.1, a.2.2.1, H2, RA, RB, ST, NS, I0, I1, I2, BO, FI, RG, GU, PU, MA, MN, MS, OT, SC], [r0, r1, r2, r3, a.2.2.2, r5, r6, r7, r8], Lg))) (fun b => ∀ s17 : Value, ∀ s18 : Value, ∀ s19 : Value, Ev (d + 9, 0, 0, 201, 69, [.val (.ref 192), .val (.ref 128), .val s17, .val s18, .val s19], [], (126, 120, L, [Y, b.1, b.2.1, H2, RA, RB, ST, NS, I0, I1, I2, BO, FI, RG, GU, PU, MA, MN, MS, OT, SC], [r0, r1, r2, r3, b.2.2, r5, r6, r7, r8], Lg)) o) ?_ a_F (0, T, H_1, w) zb3 zh4 ?_ (a_unk, a_unk)
  · rintro ⟨v2, T_5, H_6, w7⟩ zr8 zh7 zi5 zx6 ⟨s3, s4⟩
    have zh7 : f_House_read_l6 v2 T_5 H_6 w7 = some zr8 := zh7
    by_cases zc9 : 60 < v2
    · have zh7 := itp zh7 zc9
      suffices e : Ev (d + 9, 0, 0, 201, 69, [.val (.ref 192), .val (.ref 128), .val (.int v2), .val s3, .val s4], [], (126, 120, L, [Y, T_5, H_6, H2, RA, RB, ST, NS, I0, I1, I2, BO, FI, RG, GU, PU, MA, MN, MS, OT, SC], [r0, r1, r2, r3, w7, r5, r6, r7, r8], Lg)) o from ev_t (c := 60 < v2) _ _ 3  zc9 e (fun n => Eq.refl _)
      exact ev_b 0 (zx6 _ (Option.some.inj zh7).symm (.int v2) s3 s4) (fun n => Eq.refl _)
    · have zh7 := itn zh7 zc9
      suffices e : Ev (d + 9, 0, 0, 201, 12, [.val (.ref 192), .val (.ref 128), .val (.int v2), .val s3, .val s4], [], (126, 120, L, [Y, T_5, H_6, H2, RA, RB, ST, NS, I0, I1, I2, BO, FI, RG, GU, PU, MA, MN, MS, OT, SC], [r0, r1, r2, r3, w7, r5, r6, r7, r8], Lg)) o from ev_f (c := 60 < v2) _ _ 3  zc9 e (fun n => Eq.refl _)
      obtain ⟨x8, zh10, zh7⟩ := bnd zh7
      have zh10 : f_Tape_failed T_5 = some x8 := zh10
      have ze11 := R_f_Tape_failed_0 (d + 8) Y T_5 H_6 H2 RA RB ST NS I0 I1 I2 BO FI RG GU PU MA MN MS OT SC r0 r1 r2 r3 w7 r5 r6 r7 r8 L Lg zh10
      suffices e : Ev (d + 9, 0, 0, 201, 16, [.val (.ref 192), .val (.ref 128), .val (.int v2), .val s3, .val s4], [.int x8], (126, 120, L, [Y, T_5, H_6, H2, RA, RB, ST, NS, I0, I1, I2, BO, FI, RG, GU, PU, MA, MN, MS, OT, SC], [r0, r1, r2, r3, w7, r5, r6, r7, r8], Lg)) o from ev_call (fun v μ => (d + 9, 0, 0, 201, 16, [.val (.ref 192), .val (.ref 128), .val (.int v2), .val s3, .val s4], v.toList ++ [], μ)) 2 ze11 e (fun n => Eq.refl _)
      by_cases zc12 : x8 ≠ 0
      · have zh7 := itp zh7 zc12
        suffices e : Ev (d + 9, 0, 0, 201, 69, [.val (.ref 192), .val (.ref 128), .val (.int v2), .val s3, .val s4], [], (126, 120, L, [Y, T_5, H_6, H2, RA, RB, ST, NS, I0, I1, I2, BO, FI, RG, GU, PU, MA, MN, MS, OT, SC], [r0, r1, r2, r3, w7, r5, r6, r7, r8], Lg)) o from ev_t (c := x8 ≠ 0) _ _ 1  zc12 e (fun n => Eq.refl _)
        exact ev_b 0 (zx6 _ (Option.some.inj zh7).symm (.int v2) s3 s4) (fun n => Eq.refl _)
      · have zh7 := itn zh7 zc12
        suffices e : Ev (d + 9, 0, 0, 201, 19, [.val (.ref 192), .val (.ref 128), .val (.int v2), .val s3, .val s4], [], (126, 120, L, [Y, T_5, H_6, H2, RA, RB, ST, NS, I0, I1, I2, BO, FI, RG, GU, PU, MA, MN, MS, OT, SC], [r0, r1, r2, r3, w7, r5, r6, r7, r8], Lg)) o from ev_f (c := x8 ≠ 0) _ _ 1  zc12 e (fun n => Eq.refl _)
        obtain ⟨x9, zh13, zh7⟩ := bnd zh7
        have zh13 : f_Tape_atEnd T_5 = some x9 := zh13
        have ze14 := R_f_Tape_atEnd_0 (d + 8) Y T_5 H_6 H2 RA RB ST NS I0 I1 I2 BO FI RG GU PU MA MN MS OT SC r0 r1 r2 r3 w7 r5 r6 r7 r8 L Lg zh13
        suffices e : Ev (d + 9, 0, 0, 201, 23, [.val (.ref 192), .val (.ref 128), .val (.int v2), .val s3, .val s4], [.int x9], (126, 120, L, [Y, T_5, H_6, H2, RA, RB, ST, NS, I0, I1, I2, BO, FI, RG, GU, PU, MA, MN, MS, OT, SC], [r0, r1, r2, r3, w7, r5, r6, r7, r8], Lg)) o from ev_call (fun v μ => (d + 9, 0, 0, 201, 23, [.val (.ref 192), .val (.ref 128), .val (.int v2), .val s3, .val s4], v.toList ++ [], μ)) 2 ze14 e (fun n => Eq.refl _)
        by_cases zc15 : x9 ≠ 0
        · have zh7 := itp zh7 zc15
          suffices e : Ev (d + 9, 0, 0, 201, 69, [.val (.ref 192), .val (.ref 128), .val (.int v2), .val s3, .val s4], [], (126, 120, L, [Y, T_5, H_6, H2, RA, RB, ST, NS, I0, I1, I2, BO, FI, RG, GU, PU, MA, MN, MS, OT, SC], [r0, r1, r2, r3, w7, r5, r6, r7, r8], Lg)) o from ev_t (c := x9 ≠ 0) _ _ 1  zc15 e (fun n => Eq.refl _)
          exact ev_b 0 (zx6 _ (Option.some.inj zh7).symm (.int v2) s3 s4) (fun n => Eq.refl _)
        · have zh7 := itn zh7 zc15
          suffices e : Ev (d + 9, 0, 0, 201, 26, [.val (.ref 192), .val (.ref 128), .val (.int v2), .val s3, .val s4], [], (126, 120, L, [Y, T_5, H_6, H2, RA, RB, ST, NS, I0, I1, I2, BO, FI, RG, GU, PU, MA, MN, MS, OT, SC], [r0, r1, r2, r3, w7, r5, r6, r7, r8], Lg)) o from ev_f (c := x9 ≠ 0) _ _ 1  zc15 e (fun n => Eq.refl _)
          obtain ⟨x10, zh16, zh7⟩ := bnd zh7
          have zh16 : f_House_wordFault H_6 w7 v2 = some x10 := zh16
          have ze17 := R_f_House_wordFault_1 (d + 7) Y T_5 H_6 H2 RA RB ST NS I0 I1 I2 BO FI RG GU PU MA MN MS OT SC r0 r1 r2 r3 w7 r5 r6 r7 r8 L Lg w7 v2 zh16
          suffices e : Ev (d + 9, 0, 0, 201, 37, [.val (.ref 192), .val (.ref 128), .val (.int v2), .val (.ref w7), .val s4], [.int x10], (126, 120, L, [Y, T_5, H_6, H2, RA, RB, ST, NS, I0, I1, I2, BO, FI, RG, GU, PU, MA, MN, MS, OT, SC], [r0, r1, r2, r3, w7, r5, r6, r7, r8], Lg)) o from ev_call (fun v μ => (d + 9, 0, 0, 201, 37, [.val (.ref 192), .val (.ref 128), .val (.int v2), .val (.ref w7), .val s4], v.toList ++ [], μ)) 7 ze17 e (fun n => Eq.refl _)
          by_cases zc18 : x10 = 0
          · have zh7 := itp zh7 zc18
            suffices e : Ev (d + 9, 0, 0, 201, 53, [.val (.ref 192), .val (.ref 128), .val (.int v2), .val (.ref w7), .val (.int x10)], [], (126, 120, L, [Y, T_5, H_6, H2, RA, RB, ST, NS, I0, I1, I2, BO, FI, RG, GU, PU, MA, MN, MS, OT, SC], [r0, r1, r2, r3, w7, r5, r6, r7, r8], Lg)) o from ev_t (c := x10 = 0) _ _ 3  zc18 e (fun n => Eq.refl _)
            obtain ⟨⟨T_11, w12⟩, zh19, zh7⟩ := bnd zh7
            have zh19 : f_Tape_advance T_5 = some (T_11, w12) := zh19
            have ze20 := R_f_Tape_advance_0 (d + 3) Y T_5 H_6 H2 RA RB ST NS I0 I1 I2 BO FI RG GU PU MA MN MS OT SC r0 r1 r2 r3 w7 r5 r6 r7 r8 L Lg zh19
            suffices e : Ev (d + 9, 0, 0, 201, 57, [.val (.ref 192), .val (.ref 128), .val (.int v2), .val (.ref w7), .val (.int x10)], [], (126, 120, L, [Y, T_11, H_6, H2, RA, RB, ST, NS, I0, I1, I2, BO, FI, RG, GU, PU, MA, MN, MS, OT, SC], [r0, r1, r2, r3, w12, r5, r6, r7, r8], Lg)) o from ev_call (fun v μ => (d + 9, 0, 0, 201, 57, [.val (.ref 192), .val (.ref 128), .val (.int v2), .val (.ref w7), .val (.int x10)], v.toList ++ [], μ)) 2 ze20 e (fun n => Eq.refl _)
            obtain ⟨⟨T_13, H_14, w15⟩, zh21, zh7⟩ := bnd zh7
            have zh21 : f_House_readClause T_11 H_6 w12 w7 = some (T_13, H_14, w15) := zh21
            have ze22 := R_f_House_readClause_1 (d + 0) Y T_11 H_6 H2 RA RB ST NS I0 I1 I2 BO FI RG GU PU MA MN MS OT SC r0 r1 r2 r3 w12 r5 r6 r7 r8 L Lg w7 zh21
            suffices e : Ev (d + 9, 0, 0, 201, 63, [.val (.ref 192), .val (.ref 128), .val (.int v2), .val (.ref w7), .val (.int x10)], [], (126, 120, L, [Y, T_13, H_14, H2, RA, RB, ST, NS, I0, I1, I2, BO, FI, RG, GU, PU, MA, MN, MS, OT, SC], [r0, r1, r2, r3, w15, r5, r6, r7, r8], Lg)) o from ev_call (fun v μ => (d + 9, 0, 0, 201, 63, [.val (.ref 192), .val (.ref 128), .val (.int v2), .val (.ref w7), .val (.int x10)], v.toList ++ [], μ)) 4 ze22 e (fun n => Eq.refl _)
            exact ev_b 2 (zi5 _ (Option.some.inj zh7).symm ((.ref w7), (.int x10))) (fun n => Eq.refl _)
          · have zh7 := itn zh7 zc18
            suffices e : Ev (d + 9, 0, 0, 201, 44, [.val (.ref 192), .val (.ref 128), .val (.int v2), .val (.ref w7), .val (.int x10)], [], (126, 120, L, [Y, T_5, H_6, H2, RA, RB, ST, NS, I0, I1, I2, BO, FI, RG, GU, PU, MA, MN, MS, OT, SC], [r0, r1, r2, r3, w7, r5, r6, r7, r8], Lg)) o from ev_f (c := x10 = 0) _ _ 3  zc18 e (fun n => Eq.refl _)
            obtain ⟨T_16, zh23, zh7⟩ := bnd zh7
            have zh23 : f_Tape_fail T_5 x10 = some T_16 := zh23
            have ze24 := R_f_Tape_fail_0 (d + 8) Y T_5 H_6 H2 RA RB ST NS I0 I1 I2 BO FI RG GU PU MA MN MS OT SC r0 r1 r2 r3 w7 r5 r6 r7 r8 L Lg x10 zh23
            suffices e : Ev (d + 9, 0, 0, 201, 50, [.val (.ref 192), .val (.ref 128), .val (.int v2), .val (.ref w7), .val (.int x10)], [], (126, 120, L, [Y, T_16, H_6, H2, RA, RB, ST, NS, I0, I1, I2, BO, FI, RG, GU, PU, MA, MN, MS, OT, SC], [r0, r1, r2, r3, w7, r5, r6, r7, r8], Lg)) o from ev_call (fun v μ => (d + 9, 0, 0, 201, 50, [.val (.ref 192), .val (.ref 128), .val (.int v2), .val (.ref w7), .val (.int x10)], v.toList ++ [], μ)) 3 ze24 e (fun n => Eq.refl _)
            exact ev_b 3 (zi5 _ (Option.some.inj zh7).symm ((.ref w7), (.int x10))) (fun n => Eq.refl _)
  · obtain ⟨T_20, H_21, w22⟩ := zb3
    intro s17 s18 s19
    obtain ⟨H_23, zh25, h⟩ := bnd h
    have zh25 : f_House_settle H_21 = some H_23 := zh25
    have ze26 := R_f_House_settle_1 (d + 7) Y T_20 H_21 H2 RA RB ST NS I0 I1 I2 BO FI RG GU PU MA MN MS OT SC r0 r1 r2 r3 w22 r5 r6 r7 r8 L Lg zh25
    suffices e : Ev (d + 9, 0, 0, 201, 73, [.val (.ref 192), .val (.ref 128), .val s17, .val s18, .val s19], [], (126, 120, L, [Y, T_20, H_23, H2, RA, RB, ST, NS, I0, I1, I2, BO, FI, RG, GU, PU, MA, MN, MS, OT, SC], [r0, r1, r2, r3, w22, r5, r6, r7, r8], Lg)) o from ev_call (fun v μ => (d + 9, 0, 0, 201, 73, [.val (.ref 192), .val (.ref 128), .val s17, .val s18, .val s19], v.toList ++ [], μ)) 2 ze26 e (fun n => Eq.refl _)
    have ze27 := Option.some.inj h
    subst ze27
    exact ev_rete 1 ho (fun n => Eq.refl _)
set_option maxRecDepth 1000000 in
set_option maxHeartbeats 4000000 in
theorem R_f_State_start_1 (d : Nat) (Y T H H2 RA RB ST NS I0 I1 I2 BO FI RG GU PU MA MN MS OT SC : Nat → Nat → Int32) (r0 r1 r2 r3 w r5 r6 r7 r8 : Nat) (L : Nat) (Lg : Int64) {r : (Nat → Nat → Int32)} (h : f_State_start H NS = some r) : Ev (d + 1, 0, 0, 257, 0, [.val (.ref 512), .val (.ref 192)], [], (126, 120, L, [Y, T, H, H2, RA, RB, ST, NS, I0, I1, I2, BO, FI, RG, GU, PU, MA, MN, MS, OT, SC], [r0, r1, r2, r3, w, r5, r6, r7, r8], Lg)) ((0, none, (126, 120, L, [Y, T, H, H2, RA, RB, ST, r, I0, I1, I2, BO, FI, RG, GU, PU, MA, MN, MS, OT, SC], [r0, r1, r2, r3, w, r5, r6, r7, r8], Lg)) : AOut) := by
  suffices key : ∀ o : AOut, ((0, none, (126, 120, L, [Y, T, H, H2, RA, RB, ST, r, I0, I1, I2, BO, FI, RG, GU, PU, MA, MN, MS, OT, SC], [r0, r1, r2, r3, w, r5, r6, r7, r8], Lg)) : AOut) = o → Ev (d + 1, 0, 0, 257, 0, [.val (.ref 512), .val (.ref 192)], [], (126, 120, L, [Y, T, H, H2, RA, RB, ST, NS, I0, I1, I2, BO, FI, RG, GU, PU, MA, MN, MS, OT, SC], [r0, r1, r2, r3, w, r5, r6, r7, r8], Lg)) o from key _ rfl
  intro o ho
  by_cases zc1 : ((0 : Int32) < 0 ∨ (0 : Int32) < 0 ∨ (10 : Int32) < 0 ∨ 10 < (0 : Int32).toNatClampNeg + (10 : Int32).toNatClampNeg ∨ 10 < (0 : Int32).toNatClampNeg + (10 : Int32).toNatClampNeg)
  · exact nos (itp h zc1)
  have h := itn h zc1
  suffices e : Ev (d + 1, 0, 0, 257, 15, [.val (.ref 512), .val (.ref 192)], [], (126, 120, L, [Y, T, H, H2, RA, RB, ST, (u1 NS 1 (a_cpy (H 5) (NS 1) (0 : Int32).toNatClampNeg (0 : Int32).toNatClampNeg (10 : Int32).toNatClampNeg)), I0, I1, I2, BO, FI, RG, GU, PU, MA, MN, MS, OT, SC], [r0, r1, r2, r3, w, r5, r6, r7, r8], Lg)) o from ev_d (c := ((0 : Int32) < 0 ∨ (0 : Int32) < 0 ∨ (10 : Int32) < 0 ∨ 10 < (0 : Int32).toNatClampNeg + (10 : Int32).toNatClampNeg ∨ 10 < (0 : Int32).toNatClampNeg + (10 : Int32).toNatClampNeg)) _ 8 zc1 e (fun n => Eq.refl _)
  by_cases zc2 : ((0 : Int32) < 0 ∨ (0 : Int32) < 0 ∨ (10 : Int32) < 0 ∨ 10 < (0 : Int32).toNatClampNeg + (10 : Int32).toNatClampNeg ∨ 10 < (0 : Int32).toNatClampNeg + (10 : Int32).toNatClampNeg)
  · exact nos (itp h zc2)
  have h := itn h zc2
  suffices e : Ev (d + 1, 0, 0, 257, 30, [.val (.ref 512), .val (.ref 192)], [], (126, 120, L, [Y, T, H, H2, RA, RB, ST, (u1 (u1 NS 1 (a_cpy (H 5) (NS 1) (0 : Int32).toNatClampNeg (0 : Int32).toNatClampNeg (10 : Int32).toNatClampNeg)) 2 (a_cpy (H 6) ((u1 NS 1 (a_cpy (H 5) (NS 1) (0 : Int32).toNatClampNeg (0 : Int32).toNatClampNeg (10 : Int32).toNatClampNeg)) 2) (0 : Int32).toNatClampNeg (0 : Int32).toNatClampNeg (10 : Int32).toNatClampNeg)), I0, I1, I2, BO, FI, RG, GU, PU, MA, MN, MS, OT, SC], [r0, r1, r2, r3, w, r5, r6, r7, r8], Lg)) o from ev_d (c := ((0 : Int32) < 0 ∨ (0 : Int32) < 0 ∨ (10 : Int32) < 0 ∨ 10 < (0 : Int32).toNatClampNeg + (10 : Int32).toNatClampNeg ∨ 10 < (0 : Int32).toNatClampNeg + (10 : Int32).toNatClampNeg)) _ 8 zc2 e (fun n => Eq.refl _)
  have ze3 := Option.some.inj h
  subst ze3
  exact ev_rete 11 ho (fun n => Eq.refl _)
set_option maxRecDepth 1000000 in
set_option maxHeartbeats 4000000 in
theorem R_f_Y_house_2 (d : Nat) (Y T H2 H RU RV ST NS I0 I1 I2 BO FI RG GU PU MA MN MS OT SC : Nat → Nat → Int32) (w r5 : Nat) (L : Nat) (Lg : Int64) (p1 : Int32) {r : Nat × Int32 × (Nat → Nat → Int32) × (Nat → Nat → Int32) × (Nat → Nat → Int32) × (Nat → Nat → Int32) × (Nat → Nat → Int32) × Nat × Nat × Nat} (h : f_Y_house Y T H2 RU NS 192 256 w p1 = some r) : Ev (d + 10, 1, 8, 284, 0, [.val (.ref 64), .val (.int p1), .val a_unk], [], (126, 120, L, [Y, T, H2, H, RU, RV, ST, NS, I0, I1, I2, BO, FI, RG, GU, PU, MA, MN, MS, OT, SC], [256, 192, 320, 384, w, r5, 576, 640, 704], Lg)) ((r.1, a_ov r.1 (.int r.2.1), (126, 120, L, [r.2.2.1, r.2.2.2.1, r.2.2.2.2.1, H, r.2.2.2.2.2.1, RV, ST, r.2.2.2.2.2.2.1, I0, I1, I2, BO, FI, RG, GU, PU, MA, MN, MS, OT, SC], [r.2.2.2.2.2.2.2.1, r.2.2.2.2.2.2.2.2.1, 320, 384, r.2.2.2.2.2.2.2.2.2, r5, 576, 640, 704], Lg)) : AOut) := by
  suffices key : ∀ o : AOut, ((r.1, a_ov r.1 (.int r.2.1), (126, 120, L, [r.2.2.1, r.2.2.2.1, r.2.2.2.2.1, H, r.2.2.2.2.2.1, RV, ST, r.2.2.2.2.2.2.1, I0, I1, I2, BO, FI, RG, GU, PU, MA, MN, MS, OT, SC], [r.2.2.2.2.2.2.2.1, r.2.2.2.2.2.2.2.2.1, 320, 384, r.2.2.2.2.2.2.2.2.2, r5, 576, 640, 704], Lg)) : AOut) = o → Ev (d + 10, 1, 8, 284, 0, [.val (.ref 64), .val (.int p1), .val a_unk], [], (126, 120, L, [Y, T, H2, H, RU, RV, ST, NS, I0, I1, I2, BO, FI, RG, GU, PU, MA, MN, MS, OT, SC], [256, 192, 320, 384, w, r5, 576, 640, 704], Lg)) o from key _ rfl
  intro o ho
  obtain ⟨zt1, zh2, h⟩ := bnd h
  have zj3 : ∀ (v1 : Int32), v1 = zt1 → Ev (d + 10, 1, 8, 284, 21, [.val (.ref 64), .val (.int p1), .val a_unk], [.int v1, .ref 64], (126, 120, L, [Y, T, H2, H, RU, RV, ST, NS, I0, I1, I2, BO, FI, RG, GU, PU, MA, MN, MS, OT, SC], [256, 192, 320, 384, w, r5, 576, 640, 704], Lg)) o := by
    intro v1 ze4
    subst ze4
    obtain ⟨⟨q2, Y_3⟩, zh5, h⟩ := bnd h
    have zh5 : f_Y_refuseUnless Y v1 = some (q2, Y_3) := zh5
    have ze6 := R_f_Y_refuseUnless_2 (d + 9) Y T H2 H RU RV ST NS I0 I1 I2 BO FI RG GU PU MA MN MS OT SC w r5 L Lg v1 zh5
    cases q2 with
    | zero =>
      have h := itp h rfl
      suffices e : Ev (d + 10, 0, 0, 284, 24, [.val (.ref 64), .val (.int p1), .val a_unk], [], (126, 120, L, [Y_3, T, H2, H, RU, RV, ST, NS, I0, I1, I2, BO, FI, RG, GU, PU, MA, MN, MS, OT, SC], [256, 192, 320, 384, w, r5, 576, 640, 704], Lg)) o from ev_call (fun v μ => (d + 10, 0, 0, 284, 24, [.val (.ref 64), .val (.int p1), .val a_unk], v.toList ++ [], μ)) 1 ze6 e (fun n => Eq.refl _)
      obtain ⟨⟨T_4, w5⟩, zh7, h⟩ := bnd h
      have zh7 : f_Tape_open T p1 = some (T_4, w5) := zh7
      have ze8 := R_f_Tape_open_0 (d + 3) Y_3 T H2 H RU RV ST NS I0 I1 I2 BO FI RG GU PU MA MN MS OT SC 256 192 320 384 w r5 576 640 704 L Lg p1 zh7
      suffices e : Ev (d + 10, 0, 0, 284, 32, [.val (.ref 64), .val (.int p1), .val a_unk], [], (126, 120, L, [Y_3, T_4, H2, H, RU, RV, ST, NS, I0, I1, I2, BO, FI, RG, GU, PU, MA, MN, MS, OT, SC], [256, 192, 320, 384, w5, r5, 576, 640, 704], Lg)) o from ev_call (fun v μ => (d + 10, 0, 0, 284, 32, [.val (.ref 64), .val (.int p1), .val a_unk], v.toList ++ [], μ)) 4 ze8 e (fun n => Eq.refl _)
      suffices e : Ev (d + 10, 0, 0, 284, 36, [.val (.ref 64), .val (.int p1), .val a_unk], [.ref 192], (126, 120, L, [Y_3, T_4, H2, H, RU, RV, ST, NS, I0, I1, I2, BO, FI, RG, GU, PU, MA, MN, MS, OT, SC], [256, 192, 320, 384, w5, r5, 576, 640, 704], Lg)) o from ev_b 2 e (fun n => Eq.refl _)
      obtain ⟨⟨T_6, H2_7, w8⟩, zh9, h⟩ := bnd h
      have zh9 : f_House_read T_4 H2 w5 = some (T_6, H2_7, w8) := zh9
      have ze10 := R_f_House_read_1 (d + 0) Y_3 T_4 H2 H RU RV ST NS I0 I1 I2 BO FI RG GU PU MA MN MS OT SC 256 192 320 384 w5 r5 576 640 704 L Lg zh9
      suffices e : Ev (d + 10, 0, 0, 284, 43, [.val (.ref 64), .val (.int p1), .val a_unk], [], (126, 120, L, [Y_3, T_6, H2_7, H, RU, RV, ST, NS, I0, I1, I2, BO, FI, RG, GU, PU, MA, MN, MS, OT, SC], [256, 192, 320, 384, w8, r5, 576, 640, 704], Lg)) o from ev_call (fun v μ => (d + 10, 0, 0, 284, 43, [.val (.ref 64), .val (.int p1), .val a_unk], v.toList ++ [], μ)) 3 ze10 e (fun n => Eq.refl _)
      obtain ⟨T_9, zh11, h⟩ := bnd h
      have zh11 : f_Tape_empty T_6 = some T_9 := zh11
      have ze12 := R_f_Tape_empty_0 (d + 9) Y_3 T_6 H2_7 H RU RV ST NS I0 I1 I2 BO FI RG GU PU MA MN MS OT SC 256 192 320 384 w8 r5 576 640 704 L Lg zh11
      suffices e : Ev (d + 10, 0, 0, 284, 50, [.val (.ref 64), .val (.int p1), .val a_unk], [], (126, 120, L, [Y_3, T_9, H2_7, H, RU, RV, ST, NS, I0, I1, I2, BO, FI, RG, GU, PU, MA, MN, MS, OT, SC], [256, 192, 320, 384, w8, r5, 576, 640, 704], Lg)) o from ev_call (fun v μ => (d + 10, 0, 0, 284, 50, [.val (.ref 64), .val (.int p1), .val a_unk], v.toList ++ [], μ)) 3 ze12 e (fun n => Eq.refl _)
      obtain ⟨x10, zh13, h⟩ := bnd h
      have zh13 : f_Tape_failed T_9 = some x10 := zh13
      have ze14 := R_f_Tape_failed_0 (d + 9) Y_3 T_9 H2_7 H RU RV ST NS I0 I1 I2 BO FI RG GU PU MA MN MS OT SC 256 192 320 384 w8 r5 576 640 704 L Lg zh13
      suffices e : Ev (d + 10, 0, 0, 284, 57, [.val (.ref 64), .val (.int p1), .val a_unk], [.int x10], (126, 120, L, [Y_3, T_9, H2_7, H, RU, RV, ST, NS, I0, I1, I2, BO, FI, RG, GU, PU, MA, MN, MS, OT, SC], [256, 192, 320, 384, w8, r5, 576, 640, 704], Lg)) o from ev_call (fun v μ => (d + 10, 0, 0, 284, 57, [.val (.ref 64), .val (.int p1), .val a_unk], v.toList ++ [], μ)) 3 ze14 e (fun n => Eq.refl _)
      by_cases zc15 : x10 = 0
      · have h := itp h zc15
        suffices e : Ev (d + 10, 0, 0, 284, 71, [.val (.ref 64), .val (.int p1), .val a_unk], [], (126, 120, L, [Y_3, T_9, H2_7, H, RU, RV, ST, NS, I0, I1, I2, BO, FI, RG, GU, PU, MA, MN, MS, OT, SC], [256, 192, 320, 384, w8, r5, 576, 640, 704], Lg)) o from ev_t (c := x10 = 0) _ _ 1  zc15 e (fun n => Eq.refl _)
        suffices e : Ev (d + 10, 0, 0, 284, 75, [.val (.ref 64), .val (.int p1), .val a_unk], [.ref 256], (126, 120, L, [Y_3, T_9, H2_7, H, RU, RV, ST, NS, I0, I1, I2, BO, FI, RG, GU, PU, MA, MN, MS, OT, SC], [256, 192, 320, 384, w8, r5, 576, 640, 704], Lg)) o from ev_b 2 e (fun n => Eq.refl _)
        suffices e : Ev (d + 10, 0, 0, 284, 81, [.val (.ref 64), .val (.int p1), .val (.ref 256)], [.ref 192, .ref 64], (126, 120, L, [Y_3, T_9, H2_7, H, RU, RV, ST, NS, I0, I1, I2, BO, FI, RG, GU, PU, MA, MN, MS, OT, SC], [256, 192, 320, 384, w8, r5, 576, 640, 704], Lg)) o from ev_b 4 e (fun n => Eq.refl _)
        suffices e : Ev (d + 10, 0, 0, 284, 93, [.val (.ref 64), .val (.int p1), .val (.ref 256)], [.ref 320], (126, 120, L, [Y_3, T_9, H2_7, H, RU, RV, ST, NS, I0, I1, I2, BO, FI, RG, GU, PU, MA, MN, MS, OT, SC], [192, 256, 320, 384, w8, r5, 576, 640, 704], Lg)) o from ev_b 6 e (fun n => Eq.refl _)
        obtain ⟨RU_11, zh16, h⟩ := bnd h
        have zh16 : f_Rule_forget RU = some RU_11 := zh16
        have ze17 := R_f_Rule_forget_0 (d + 9) Y_3 T_9 H2_7 H RU RV ST NS I0 I1 I2 BO FI RG GU PU MA MN MS OT SC 192 256 320 384 w8 r5 576 640 704 L Lg zh16
        suffices e : Ev (d + 10, 0, 0, 284, 96, [.val (.ref 64), .val (.int p1), .val (.ref 256)], [], (126, 120, L, [Y_3, T_9, H2_7, H, RU_11, RV, ST, NS, I0, I1, I2, BO, FI, RG, GU, PU, MA, MN, MS, OT, SC], [192, 256, 320, 384, w8, r5, 576, 640, 704], Lg)) o from ev_call (fun v μ => (d + 10, 0, 0, 284, 96, [.val (.ref 64), .val (.int p1), .val (.ref 256)], v.toList ++ [], μ)) 1 ze17 e (fun n => Eq.refl _)
        suffices e : Ev (d + 10, 0, 0, 284, 109, [.val (.ref 64), .val (.int p1), .val (.ref 256)], [.ref 192, .ref 512], (126, 120, L, [(u2 Y_3 0 3 0), T_9, H2_7, H, RU_11, RV, ST, NS, I0, I1, I2, BO, FI, RG, GU, PU, MA, MN, MS, OT, SC], [192, 256, 320, 384, w8, r5, 576, 640, 704], Lg)) o from ev_b 7 e (fun n => Eq.refl _)
        obtain ⟨NS_12, zh18, h⟩ := bnd h
        have zh18 : f_State_start H2_7 NS = some NS_12 := zh18
        have ze19 := R_f_State_start_1 (d + 8) (u2 Y_3 0 3 0) T_9 H2_7 H RU_11 RV ST NS I0 I1 I2 BO FI RG GU PU MA MN MS OT SC 192 256 320 384 w8 r5 576 640 704 L Lg zh18
        suffices e : Ev (d + 10, 0, 0, 284, 112, [.val (.ref 64), .val (.int p1), .val (.ref 256)], [], (126, 120, L, [(u2 Y_3 0 3 0), T_9, H2_7, H, RU_11, RV, ST, NS_12, I0, I1, I2, BO, FI, RG, GU, PU, MA, MN, MS, OT, SC], [192, 256, 320, 384, w8, r5, 576, 640, 704], Lg)) o from ev_call (fun v μ => (d + 10, 0, 0, 284, 112, [.val (.ref 64), .val (.int p1), .val (.ref 256)], v.toList ++ [], μ)) 1 ze19 e (fun n => Eq.refl _)
        suffices e : Ev (d + 10, 0, 0, 284, 116, [.val (.ref 64), .val (.int p1), .val (.ref 256)], [.ref 192], (126, 120, L, [(u2 Y_3 0 3 0), T_9, H2_7, H, RU_11, RV, ST, NS_12, I0, I1, I2, BO, FI, RG, GU, PU, MA, MN, MS, OT, SC], [192, 256, 320, 384, w8, r5, 576, 640, 704], Lg)) o from ev_b 2 e (fun n => Eq.refl _)
        have ze20 := Option.some.inj h
        subst ze20
        exact ev_rete 2 ho (fun n => Eq.refl _)
      · have h := itn h zc15
        suffices e : Ev (d + 10, 0, 0, 284, 60, [.val (.ref 64), .val (.int p1), .val a_unk], [], (126, 120, L, [Y_3, T_9, H2_7, H, RU, RV, ST, NS, I0, I1, I2, BO, FI, RG, GU, PU, MA, MN, MS, OT, SC], [256, 192, 320, 384, w8, r5, 576, 640, 704], Lg)) o from ev_f (c := x10 = 0) _ _ 1  zc15 e (fun n => Eq.refl _)
        have ze21 := Option.some.inj h
        subst ze21
        exact ev_rete 6 ho (fun n => Eq.refl _)
    | succ q2 =>
      have h := itn h (Nat.succ_ne_zero q2)
      have ze22 := Option.some.inj h
      subst ze22
      subst ho
      exact ev_thr (fun v μ => (d + 10, 0, 0, 284, 24, [.val (.ref 64), .val (.int p1), .val a_unk], v.toList ++ [], μ)) 1 ze6 (fun n => Eq.refl _) (fun n => rfl)
  obtain ⟨zt23, zh24, zh2⟩ := bnd zh2
  have zj25 : zt23 = .inl () → Ev (d + 10, 1, 8, 284, 20, [.val (.ref 64), .val (.int p1), .val a_unk], [.ref 64], (126, 120, L, [Y, T, H2, H, RU, RV, ST, NS, I0, I1, I2, BO, FI, RG, GU, PU, MA, MN, MS, OT, SC], [256, 192, 320, 384, w, r5, 576, 640, 704], Lg)) o := by
    intro ze26
    have zh2 := sum_l zh2 ze26
    exact ev_b 1 (zj3 0 (Option.some.inj zh2) ) (fun n => Eq.refl _)
  by_cases zc27 : p1 < 0
  · have zh24 := itp zh24 zc27
    suffices e : Ev (d + 10, 1, 8, 284, 20, [.val (.ref 64), .val (.int p1), .val a_unk], [.ref 64], (126, 120, L, [Y, T, H2, H, RU, RV, ST, NS, I0, I1, I2, BO, FI, RG, GU, PU, MA, MN, MS, OT, SC], [256, 192, 320, 384, w, r5, 576, 640, 704], Lg)) o from ev_t (c := p1 < 0) _ _ 3  zc27 e (fun n => Eq.refl _)
    exact ev_b 0 (zj25  (Option.some.inj zh24).symm ) (fun n => Eq.refl _)
  · have zh24 := itn zh24 zc27
    suffices e : Ev (d + 10, 1, 8, 284, 5, [.val (.ref 64), .val (.int p1), .val a_unk], [.ref 64], (126, 120, L, [Y, T, H2, H, RU, RV, ST, NS, I0, I1, I2, BO, FI, RG, GU, PU, MA, MN, MS, OT, SC], [256, 192, 320, 384, w, r5, 576, 640, 704], Lg)) o from ev_f (c := p1 < 0) _ _ 3  zc27 e (fun n => Eq.refl _)
    by_cases zc28 : (T 0 1) < p1
    · have zh24 := itp zh24 zc28
      suffices e : Ev (d + 10, 1, 8, 284, 20, [.val (.ref 64), .val (.int p1), .val a_unk], [.ref 64], (126, 120, L, [Y, T, H2, H, RU, RV, ST, NS, I0, I1, I2, BO, FI, RG, GU, PU, MA, MN, MS, OT, SC], [256, 192, 320, 384, w, r5, 576, 640, 704], Lg)) o from ev_t (c := (T 0 1) < p1) _ _ 5  zc28 e (fun n => Eq.refl _)
      exact ev_b 0 (zj25  (Option.some.inj zh24).symm ) (fun n => Eq.refl _)
    · have zh24 := itn zh24 zc28
      suffices e : Ev (d + 10, 1, 8, 284, 16, [.val (.ref 64), .val (.int p1), .val a_unk], [.ref 64], (126, 120, L, [Y, T, H2, H, RU, RV, ST, NS, I0, I1, I2, BO, FI, RG, GU, PU, MA, MN, MS, OT, SC], [256, 192, 320, 384, w, r5, 576, 640, 704], Lg)) o from ev_f (c := (T 0 1) < p1) _ _ 5  zc28 e (fun n => Eq.refl _)
      have zh29 := sum_r zh2 (Option.some.inj zh24).symm
      exact ev_b 2 (zj3 1 (Option.some.inj zh29) ) (fun n => Eq.refl _)
set_option maxRecDepth 1000000 in
set_option maxHeartbeats 4000000 in
theorem R_f_Y_refuseUnless_3 (d : Nat) (Y T H2 H RV RU ST NS I0 I1 I2 BO FI RG GU PU MA MN MS OT SC : Nat → Nat → Int32) (w r5 : Nat) (L : Nat) (Lg : Int64) (p1 : Int32) {r : Nat × (Nat → Nat → Int32)} (h : f_Y_refuseUnless Y p1 = some r) : Ev (d + 0, 1, 8, 333, 0, [.val (.ref 64), .val (.int p1)], [], (126, 120, L, [Y, T, H2, H, RV, RU, ST, NS, I0, I1, I2, BO, FI, RG, GU, PU, MA, MN, MS, OT, SC], [256, 192, 384, 320, w, r5, 576, 640, 704], Lg)) ((r.1, none, (126, 120, L, [r.2, T, H2, H, RV, RU, ST, NS, I0, I1, I2, BO, FI, RG, GU, PU, MA, MN, MS, OT, SC], [256, 192, 384, 320, w, r5, 576, 640, 704], Lg)) : AOut) := by
  suffices key : ∀ o : AOut, ((r.1, none, (126, 120, L, [r.2, T, H2, H, RV, RU, ST, NS, I0, I1, I2, BO, FI, RG, GU, PU, MA, MN, MS, OT, SC], [256, 192, 384, 320, w, r5, 576, 640, 704], Lg)) : AOut) = o → Ev (d + 0, 1, 8, 333, 0, [.val (.ref 64), .val (.int p1)], [], (126, 120, L, [Y, T, H2, H, RV, RU, ST, NS, I0, I1, I2, BO, FI, RG, GU, PU, MA, MN, MS, OT, SC], [256, 192, 384, 320, w, r5, 576, 640, 704], Lg)) o from key _ rfl
  intro o ho
  by_cases zc1 : p1 ≠ 0
  · have h := itp h zc1
    suffices e : Ev (d + 0, 1, 8, 333, 22, [.val (.ref 64), .val (.int p1)], [], (126, 120, L, [Y, T, H2, H, RV, RU, ST, NS, I0, I1, I2, BO, FI, RG, GU, PU, MA, MN, MS, OT, SC], [256, 192, 384, 320, w, r5, 576, 640, 704], Lg)) o from ev_t (c := p1 ≠ 0) _ _ 2  zc1 e (fun n => Eq.refl _)
    have ze2 := Option.some.inj h
    subst ze2
    exact ev_rete 1 ho (fun n => Eq.refl _)
  · have h := itn h zc1
    suffices e : Ev (d + 0, 1, 8, 333, 4, [.val (.ref 64), .val (.int p1)], [], (126, 120, L, [Y, T, H2, H, RV, RU, ST, NS, I0, I1, I2, BO, FI, RG, GU, PU, MA, MN, MS, OT, SC], [256, 192, 384, 320, w, r5, 576, 640, 704], Lg)) o from ev_f (c := p1 ≠ 0) _ _ 2  zc1 e (fun n => Eq.refl _)
    have ze3 := Option.some.inj h
    subst ze3
    exact ev_rete 7 ho (fun n => Eq.refl _)
set_option maxRecDepth 1000000 in
set_option maxHeartbeats 4000000 in
theorem R_f_Y_house_3 (d : Nat) (Y T H2 H RV RU ST NS I0 I1 I2 BO FI RG GU PU MA MN MS OT SC : Nat → Nat → Int32) (w r5 : Nat) (L : Nat) (Lg : Int64) (p1 : Int32) {r : Nat × Int32 × (Nat → Nat → Int32) × (Nat → Nat → Int32) × (Nat → Nat → Int32) × (Nat → Nat → Int32) × (Nat → Nat → Int32) × Nat × Nat × Nat} (h : f_Y_house Y T H2 RU NS 192 256 w p1 = some r) : Ev (d + 10, 1, 8, 284, 0, [.val (.ref 64), .val (.int p1), .val a_unk], [], (126, 120, L, [Y, T, H2, H, RV, RU, ST, NS, I0, I1, I2, BO, FI, RG, GU, PU, MA, MN, MS, OT, SC], [256, 192, 384, 320, w, r5, 576, 640, 704], Lg)) ((r.1, a_ov r.1 (.int r.2.1), (126, 120, L, [r.2.2.1, r.2.2.2.1, r.2.2.2.2.1, H, RV, r.2.2.2.2.2.1, ST, r.2.2.2.2.2.2.1, I0, I1, I2, BO, FI, RG, GU, PU, MA, MN, MS, OT, SC], [r.2.2.2.2.2.2.2.1, r.2.2.2.2.2.2.2.2.1, 384, 320, r.2.2.2.2.2.2.2.2.2, r5, 576, 640, 704], Lg)) : AOut) := by
  suffices key : ∀ o : AOut, ((r.1, a_ov r.1 (.int r.2.1), (126, 120, L, [r.2.2.1, r.2.2.2.1, r.2.2.2.2.1, H, RV, r.2.2.2.2.2.1, ST, r.2.2.2.2.2.2.1, I0, I1, I2, BO, FI, RG, GU, PU, MA, MN, MS, OT, SC], [r.2.2.2.2.2.2.2.1, r.2.2.2.2.2.2.2.2.1, 384, 320, r.2.2.2.2.2.2.2.2.2, r5, 576, 640, 704], Lg)) : AOut) = o → Ev (d + 10, 1, 8, 284, 0, [.val (.ref 64), .val (.int p1), .val a_unk], [], (126, 120, L, [Y, T, H2, H, RV, RU, ST, NS, I0, I1, I2, BO, FI, RG, GU, PU, MA, MN, MS, OT, SC], [256, 192, 384, 320, w, r5, 576, 640, 704], Lg)) o from key _ rfl
  intro o ho
  obtain ⟨zt1, zh2, h⟩ := bnd h
  have zj3 : ∀ (v1 : Int32), v1 = zt1 → Ev (d + 10, 1, 8, 284, 21, [.val (.ref 64), .val (.int p1), .val a_unk], [.int v1, .ref 64], (126, 120, L, [Y, T, H2, H, RV, RU, ST, NS, I0, I1, I2, BO, FI, RG, GU, PU, MA, MN, MS, OT, SC], [256, 192, 384, 320, w, r5, 576, 640, 704], Lg)) o := by
    intro v1 ze4
    subst ze4
    obtain ⟨⟨q2, Y_3⟩, zh5, h⟩ := bnd h
    have zh5 : f_Y_refuseUnless Y v1 = some (q2, Y_3) := zh5
    have ze6 := R_f_Y_refuseUnless_3 (d + 9) Y T H2 H RV RU ST NS I0 I1 I2 BO FI RG GU PU MA MN MS OT SC w r5 L Lg v1 zh5
    cases q2 with
    | zero =>
      have h := itp h rfl
      suffices e : Ev (d + 10, 0, 0, 284, 24, [.val (.ref 64), .val (.int p1), .val a_unk], [], (126, 120, L, [Y_3, T, H2, H, RV, RU, ST, NS, I0, I1, I2, BO, FI, RG, GU, PU, MA, MN, MS, OT, SC], [256, 192, 384, 320, w, r5, 576, 640, 704], Lg)) o from ev_call (fun v μ => (d + 10, 0, 0, 284, 24, [.val (.ref 64), .val (.int p1), .val a_unk], v.toList ++ [], μ)) 1 ze6 e (fun n => Eq.refl _)
      obtain ⟨⟨T_4, w5⟩, zh7, h⟩ := bnd h
      have zh7 : f_Tape_open T p1 = some (T_4, w5) := zh7
      have ze8 := R_f_Tape_open_0 (d + 3) Y_3 T H2 H RV RU ST NS I0 I1 I2 BO FI RG GU PU MA MN MS OT SC 256 192 384 320 w r5 576 640 704 L Lg p1 zh7
      suffices e : Ev (d + 10, 0, 0, 284, 32, [.val (.ref 64), .val (.int p1), .val a_unk], [], (126, 120, L, [Y_3, T_4, H2, H, RV, RU, ST, NS, I0, I1, I2, BO, FI, RG, GU, PU, MA, MN, MS, OT, SC], [256, 192, 384, 320, w5, r5, 576, 640, 704], Lg)) o from ev_call (fun v μ => (d + 10, 0, 0, 284, 32, [.val (.ref 64), .val (.int p1), .val a_unk], v.toList ++ [], μ)) 4 ze8 e (fun n => Eq.refl _)
      suffices e : Ev (d + 10, 0, 0, 284, 36, [.val (.ref 64), .val (.int p1), .val a_unk], [.ref 192], (126, 120, L, [Y_3, T_4, H2, H, RV, RU, ST, NS, I0, I1, I2, BO, FI, RG, GU, PU, MA, MN, MS, OT, SC], [256, 192, 384, 320, w5, r5, 576, 640, 704], Lg)) o from ev_b 2 e (fun n => Eq.refl _)
      obtain ⟨⟨T_6, H2_7, w8⟩, zh9, h⟩ := bnd h
      have zh9 : f_House_read T_4 H2 w5 = some (T_6, H2_7, w8) := zh9
      have ze10 := R_f_House_read_1 (d + 0) Y_3 T_4 H2 H RV RU ST NS I0 I1 I2 BO FI RG GU PU MA MN MS OT SC 256 192 384 320 w5 r5 576 640 704 L Lg zh9
      suffices e : Ev (d + 10, 0, 0, 284, 43, [.val (.ref 64), .val (.int p1), .val a_unk], [], (126, 120, L, [Y_3, T_6, H2_7, H, RV, RU, ST, NS, I0, I1, I2, BO, FI, RG, GU, PU, MA, MN, MS, OT, SC], [256, 192, 384, 320, w8, r5, 576, 640, 704], Lg)) o from ev_call (fun v μ => (d + 10, 0, 0, 284, 43, [.val (.ref 64), .val (.int p1), .val a_unk], v.toList ++ [], μ)) 3 ze10 e (fun n => Eq.refl _)
      obtain ⟨T_9, zh11, h⟩ := bnd h
      have zh11 : f_Tape_empty T_6 = some T_9 := zh11
      have ze12 := R_f_Tape_empty_0 (d + 9) Y_3 T_6 H2_7 H RV RU ST NS I0 I1 I2 BO FI RG GU PU MA MN MS OT SC 256 192 384 320 w8 r5 576 640 704 L Lg zh11
      suffices e : Ev (d + 10, 0, 0, 284, 50, [.val (.ref 64), .val (.int p1), .val a_unk], [], (126, 120, L, [Y_3, T_9, H2_7, H, RV, RU, ST, NS, I0, I1, I2, BO, FI, RG, GU, PU, MA, MN, MS, OT, SC], [256, 192, 384, 320, w8, r5, 576, 640, 704], Lg)) o from ev_call (fun v μ => (d + 10, 0, 0, 284, 50, [.val (.ref 64), .val (.int p1), .val a_unk], v.toList ++ [], μ)) 3 ze12 e (fun n => Eq.refl _)
      obtain ⟨x10, zh13, h⟩ := bnd h
      have zh13 : f_Tape_failed T_9 = some x10 := zh13
      have ze14 := R_f_Tape_failed_0 (d + 9) Y_3 T_9 H2_7 H RV RU ST NS I0 I1 I2 BO FI RG GU PU MA MN MS OT SC 256 192 384 320 w8 r5 576 640 704 L Lg zh13
      suffices e : Ev (d + 10, 0, 0, 284, 57, [.val (.ref 64), .val (.int p1), .val a_unk], [.int x10], (126, 120, L, [Y_3, T_9, H2_7, H, RV, RU, ST, NS, I0, I1, I2, BO, FI, RG, GU, PU, MA, MN, MS, OT, SC], [256, 192, 384, 320, w8, r5, 576, 640, 704], Lg)) o from ev_call (fun v μ => (d + 10, 0, 0, 284, 57, [.val (.ref 64), .val (.int p1), .val a_unk], v.toList ++ [], μ)) 3 ze14 e (fun n => Eq.refl _)
      by_cases zc15 : x10 = 0
      · have h := itp h zc15
        suffices e : Ev (d + 10, 0, 0, 284, 71, [.val (.ref 64), .val (.int p1), .val a_unk], [], (126, 120, L, [Y_3, T_9, H2_7, H, RV, RU, ST, NS, I0, I1, I2, BO, FI, RG, GU, PU, MA, MN, MS, OT, SC], [256, 192, 384, 320, w8, r5, 576, 640, 704], Lg)) o from ev_t (c := x10 = 0) _ _ 1  zc15 e (fun n => Eq.refl _)
        suffices e : Ev (d + 10, 0, 0, 284, 75, [.val (.ref 64), .val (.int p1), .val a_unk], [.ref 256], (126, 120, L, [Y_3, T_9, H2_7, H, RV, RU, ST, NS, I0, I1, I2, BO, FI, RG, GU, PU, MA, MN, MS, OT, SC], [256, 192, 384, 320, w8, r5, 576, 640, 704], Lg)) o from ev_b 2 e (fun n => Eq.refl _)
        suffices e : Ev (d + 10, 0, 0, 284, 81, [.val (.ref 64), .val (.int p1), .val (.ref 256)], [.ref 192, .ref 64], (126, 120, L, [Y_3, T_9, H2_7, H, RV, RU, ST, NS, I0, I1, I2, BO, FI, RG, GU, PU, MA, MN, MS, OT, SC], [256, 192, 384, 320, w8, r5, 576, 640, 704], Lg)) o from ev_b 4 e (fun n => Eq.refl _)
        suffices e : Ev (d + 10, 0, 0, 284, 93, [.val (.ref 64), .val (.int p1), .val (.ref 256)], [.ref 384], (126, 120, L, [Y_3, T_9, H2_7, H, RV, RU, ST, NS, I0, I1, I2, BO, FI, RG, GU, PU, MA, MN, MS, OT, SC], [192, 256, 384, 320, w8, r5, 576, 640, 704], Lg)) o from ev_b 6 e (fun n => Eq.refl _)
        obtain ⟨RU_11, zh16, h⟩ := bnd h
        have zh16 : f_Rule_forget RU = some RU_11 := zh16
        have ze17 := R_f_Rule_forget_1 (d + 9) Y_3 T_9 H2_7 H RV RU ST NS I0 I1 I2 BO FI RG GU PU MA MN MS OT SC 192 256 384 320 w8 r5 576 640 704 L Lg zh16
        suffices e : Ev (d + 10, 0, 0, 284, 96, [.val (.ref 64), .val (.int p1), .val (.ref 256)], [], (126, 120, L, [Y_3, T_9, H2_7, H, RV, RU_11, ST, NS, I0, I1, I2, BO, FI, RG, GU, PU, MA, MN, MS, OT, SC], [192, 256, 384, 320, w8, r5, 576, 640, 704], Lg)) o from ev_call (fun v μ => (d + 10, 0, 0, 284, 96, [.val (.ref 64), .val (.int p1), .val (.ref 256)], v.toList ++ [], μ)) 1 ze17 e (fun n => Eq.refl _)
        suffices e : Ev (d + 10, 0, 0, 284, 109, [.val (.ref 64), .val (.int p1), .val (.ref 256)], [.ref 192, .ref 512], (126, 120, L, [(u2 Y_3 0 3 0), T_9, H2_7, H, RV, RU_11, ST, NS, I0, I1, I2, BO, FI, RG, GU, PU, MA, MN, MS, OT, SC], [192, 256, 384, 320, w8, r5, 576, 640, 704], Lg)) o from ev_b 7 e (fun n => Eq.refl _)
        obtain ⟨NS_12, zh18, h⟩ := bnd h
        have zh18 : f_State_start H2_7 NS = some NS_12 := zh18
        have ze19 := R_f_State_start_1 (d + 8) (u2 Y_3 0 3 0) T_9 H2_7 H RV RU_11 ST NS I0 I1 I2 BO FI RG GU PU MA MN MS OT SC 192 256 384 320 w8 r5 576 640 704 L Lg zh18
        suffices e : Ev (d + 10, 0, 0, 284, 112, [.val (.ref 64), .val (.int p1), .val (.ref 256)], [], (126, 120, L, [(u2 Y_3 0 3 0), T_9, H2_7, H, RV, RU_11, ST, NS_12, I0, I1, I2, BO, FI, RG, GU, PU, MA, MN, MS, OT, SC], [192, 256, 384, 320, w8, r5, 576, 640, 704], Lg)) o from ev_call (fun v μ => (d + 10, 0, 0, 284, 112, [.val (.ref 64), .val (.int p1), .val (.ref 256)], v.toList ++ [], μ)) 1 ze19 e (fun n => Eq.refl _)
        suffices e : Ev (d + 10, 0, 0, 284, 116, [.val (.ref 64), .val (.int p1), .val (.ref 256)], [.ref 192], (126, 120, L, [(u2 Y_3 0 3 0), T_9, H2_7, H, RV, RU_11, ST, NS_12, I0, I1, I2, BO, FI, RG, GU, PU, MA, MN, MS, OT, SC], [192, 256, 384, 320, w8, r5, 576, 640, 704], Lg)) o from ev_b 2 e (fun n => Eq.refl _)
        have ze20 := Option.some.inj h
        subst ze20
        exact ev_rete 2 ho (fun n => Eq.refl _)
      · have h := itn h zc15
        suffices e : Ev (d + 10, 0, 0, 284, 60, [.val (.ref 64), .val (.int p1), .val a_unk], [], (126, 120, L, [Y_3, T_9, H2_7, H, RV, RU, ST, NS, I0, I1, I2, BO, FI, RG, GU, PU, MA, MN, MS, OT, SC], [256, 192, 384, 320, w8, r5, 576, 640, 704], Lg)) o from ev_f (c := x10 = 0) _ _ 1  zc15 e (fun n => Eq.refl _)
        have ze21 := Option.some.inj h
        subst ze21
        exact ev_rete 6 ho (fun n => Eq.refl _)
    | succ q2 =>
      have h := itn h (Nat.succ_ne_zero q2)
      have ze22 := Option.some.inj h
      subst ze22
      subst ho
      exact ev_thr (fun v μ => (d + 10, 0, 0, 284, 24, [.val (.ref 64), .val (.int p1), .val a_unk], v.toList ++ [], μ)) 1 ze6 (fun n => Eq.refl _) (fun n => rfl)
  obtain ⟨zt23, zh24, zh2⟩ := bnd zh2
  have zj25 : zt23 = .inl () → Ev (d + 10, 1, 8, 284, 20, [.val (.ref 64), .val (.int p1), .val a_unk], [.ref 64], (126, 120, L, [Y, T, H2, H, RV, RU, ST, NS, I0, I1, I2, BO, FI, RG, GU, PU, MA, MN, MS, OT, SC], [256, 192, 384, 320, w, r5, 576, 640, 704], Lg)) o := by
    intro ze26
    have zh2 := sum_l zh2 ze26
    exact ev_b 1 (zj3 0 (Option.some.inj zh2) ) (fun n => Eq.refl _)
  by_cases zc27 : p1 < 0
  · have zh24 := itp zh24 zc27
    suffices e : Ev (d + 10, 1, 8, 284, 20, [.val (.ref 64), .val (.int p1), .val a_unk], [.ref 64], (126, 120, L, [Y, T, H2, H, RV, RU, ST, NS, I0, I1, I2, BO, FI, RG, GU, PU, MA, MN, MS, OT, SC], [256, 192, 384, 320, w, r5, 576, 640, 704], Lg)) o from ev_t (c := p1 < 0) _ _ 3  zc27 e (fun n => Eq.refl _)
    exact ev_b 0 (zj25  (Option.some.inj zh24).symm ) (fun n => Eq.refl _)
  · have zh24 := itn zh24 zc27
    suffices e : Ev (d + 10, 1, 8, 284, 5, [.val (.ref 64), .val (.int p1), .val a_unk], [.ref 64], (126, 120, L, [Y, T, H2, H, RV, RU, ST, NS, I0, I1, I2, BO, FI, RG, GU, PU, MA, MN, MS, OT, SC], [256, 192, 384, 320, w, r5, 576, 640, 704], Lg)) o from ev_f (c := p1 < 0) _ _ 3  zc27 e (fun n => Eq.refl _)
    by_cases zc28 : (T 0 1) < p1
    · have zh24 := itp zh24 zc28
      suffices e : Ev (d + 10, 1, 8, 284, 20, [.val (.ref 64), .val (.int p1), .val a_unk], [.ref 64], (126, 120, L, [Y, T, H2, H, RV, RU, ST, NS, I0, I1, I2, BO, FI, RG, GU, PU, MA, MN, MS, OT, SC], [256, 192, 384, 320, w, r5, 576, 640, 704], Lg)) o from ev_t (c := (T 0 1) < p1) _ _ 5  zc28 e (fun n => Eq.refl _)
      exact ev_b 0 (zj25  (Option.some.inj zh24).symm ) (fun n => Eq.refl _)
    · have zh24 := itn zh24 zc28
      suffices e : Ev (d + 10, 1, 8, 284, 16, [.val (.ref 64), .val (.int p1), .val a_unk], [.ref 64], (126, 120, L, [Y, T, H2, H, RV, RU, ST, NS, I0, I1, I2, BO, FI, RG, GU, PU, MA, MN, MS, OT, SC], [256, 192, 384, 320, w, r5, 576, 640, 704], Lg)) o from ev_f (c := (T 0 1) < p1) _ _ 5  zc28 e (fun n => Eq.refl _)
      have zh29 := sum_r zh2 (Option.some.inj zh24).symm
      exact ev_b 2 (zj3 1 (Option.some.inj zh29) ) (fun n => Eq.refl _)
set_option maxRecDepth 1000000 in
set_option maxHeartbeats 4000000 in
theorem R_f_Target_read_0 (d : Nat) (Y T H H2 RA RB ST NS I0 I1 I2 BO FI RG GU PU MA MN MS OT SC : Nat → Nat → Int32) (r0 r1 r2 r3 w r5 r6 r7 r8 : Nat) (L : Nat) (Lg : Int64) {r : (Nat → Nat → Int32) × (Nat → Nat → Int32) × Nat} (h : f_Target_read T H ST w = some r) : Ev (d + 7, 0, 0, 280, 0, [.val (.ref 448), .val (.ref 128), .val (.ref 192), .val a_unk, .val a_unk, .val a_unk, .val a_unk, .val a_unk], [], (126, 120, L, [Y, T, H, H2, RA, RB, ST, NS, I0, I1, I2, BO, FI, RG, GU, PU, MA, MN, MS, OT, SC], [r0, r1, r2, r3, w, r5, r6, r7, r8], Lg)) ((0, none, (126, 120, L, [Y, r.1, H, H2, RA, RB, r.2.1, NS, I0, I1, I2, BO, FI, RG, GU, PU, MA, MN, MS, OT, SC], [r0, r1, r2, r3, r.2.2, r5, r6, r7, r8], Lg)) : AOut) := by
  suffices key : ∀ o : AOut, ((0, none, (126, 120, L, [Y, r.1, H, H2, RA, RB, r.2.1, NS, I0, I1, I2, BO, FI, RG, GU, PU, MA, MN, MS, OT, SC], [r0, r1, r2, r3, r.2.2, r5, r6, r7, r8], Lg)) : AOut) = o → Ev (d + 7, 0, 0, 280, 0, [.val (.ref 448), .val (.ref 128), .val (.ref 192), .val a_unk, .val a_unk, .val a_unk, .val a_unk, .val a_unk], [], (126, 120, L, [Y, T, H, H2, RA, RB, ST, NS, I0, I1, I2, BO, FI, RG, GU, PU, MA, MN, MS, OT, SC], [r0, r1, r2, r3, w, r5, r6, r7, r8], Lg)) o from key _ rfl
  intro o ho
  obtain ⟨zb1, zh2, h⟩ := bnd h
  suffices e : Ev (d + 7, 0, 0, 280, 10, [.val (.ref 448), .val (.ref 128), .val (.ref 192), .val (.int 0), .val (.int 0), .val a_unk, .val a_unk, .val a_unk], [], (126, 120, L, [Y, T, H, H2, RA, RB, (u2 ST 0 0 0), NS, I0, I1, I2, BO, FI, RG, GU, PU, MA, MN, MS, OT, SC], [r0, r1, r2, r3, w, r5, r6, r7, r8], Lg)) o from ev_b 7 e (fun n => Eq.refl _)
  refine ev_loop (δ := Value × Value × Value) (fun a j => (d + 7, 0, 0, 280, 10, [.val (.ref 448), .val (.ref 128), .val (.ref 192), .val (.int a.1), .val (.int a.2.1), .val j.1, .val j.2.1, .val j.2.2], [], (126, 120, L, [Y, a.2.2.1, H, H2, RA, RB, a.2.2.2.1, NS, I0, I1, I2, BO, FI, RG, GU, PU, MA, MN, MS, OT, SC], [r0, r1, r2, r3, a.2.2.2.2, r5, r6, r7, r8], Lg))) (fun b => ∀ s28 : Value, ∀ s29 : Value, ∀ s30 : Value, ∀ s31 : Value, ∀ s32 : Value, Ev (d + 7, 0, 0, 280, 173, [.val (.ref 448), .val (.ref 128), .val (.ref 192), .val s28, .val s29, .val s30, .val s31, .val s32], [], (126, 120, L, [Y, b.1, H, H2, RA, RB, b.2.1, NS, I0, I1, I2, BO, FI, RG, GU, PU, MA, MN, MS, OT, SC], [r0, r1, r2, r3, b.2.2, r5, r6, r7, r8], Lg)) o) ?_ a_F (0, 0, T, (u2 ST 0 0 0), w) zb1 zh2 ?_ (a_unk, a_unk, a_unk)
  · rintro ⟨v1, v2, T_6, ST_7, w8⟩ zr6 zh5 zi3 zx4 ⟨s3, s4, s5⟩
    have zh5 : f_Target_read_l10 H v1 v2 T_6 ST_7 w8 = some zr6 := zh5
    by_cases zc7 : 10 < v2
    · have zh5 := itp zh5 zc7
      suffices e : Ev (d + 7, 0, 0, 280, 173, [.val (.ref 448), .val (.ref 128), .val (.ref 192), .val (.int v1), .val (.int v2), .val s3, .val s4, .val s5], [], (126, 120, L, [Y, T_6, H, H2, RA, RB, ST_7, NS, I0, I1, I2, BO, FI, RG, GU, PU, MA, MN, MS, OT, SC], [r0, r1, r2, r3, w8, r5, r6, r7, r8], Lg)) o from ev_t (c := 10 < v2) _ _ 3  zc7 e (fun n => Eq.refl _)
      exact ev_b 0 (zx4 _ (Option.some.inj zh5).symm (.int v1) (.int v2) s3 s4 s5) (fun n => Eq.refl _)
    · have zh5 := itn zh5 zc7
      suffices e : Ev (d + 7, 0, 0, 280, 17, [.val (.ref 448), .val (.ref 128), .val (.ref 192), .val (.int v1), .val (.int v2), .val s3, .val s4, .val s5], [], (126, 120, L, [Y, T_6, H, H2, RA, RB, ST_7, NS, I0, I1, I2, BO, FI, RG, GU, PU, MA, MN, MS, OT, SC], [r0, r1, r2, r3, w8, r5, r6, r7, r8], Lg)) o from ev_f (c := 10 < v2) _ _ 3  zc7 e (fun n => Eq.refl _)
      obtain ⟨x9, zh8, zh5⟩ := bnd zh5
      have zh8 : f_Tape_failed T_6 = some x9 := zh8
      have ze9 := R_f_Tape_failed_0 (d + 6) Y T_6 H H2 RA RB ST_7 NS I0 I1 I2 BO FI RG GU PU MA MN MS OT SC r0 r1 r2 r3 w8 r5 r6 r7 r8 L Lg zh8
      suffices e : Ev (d + 7, 0, 0, 280, 21, [.val (.ref 448), .val (.ref 128), .val (.ref 192), .val (.int v1), .val (.int v2), .val s3, .val s4, .val s5], [.int x9], (126, 120, L, [Y, T_6, H, H2, RA, RB, ST_7, NS, I0, I1, I2, BO, FI, RG, GU, PU, MA, MN, MS, OT, SC], [r0, r1, r2, r3, w8, r5, r6, r7, r8], Lg)) o from ev_call (fun v μ => (d + 7, 0, 0, 280, 21, [.val (.ref 448), .val (.ref 128), .val (.ref 192), .val (.int v1), .val (.int v2), .val s3, .val s4, .val s5], v.toList ++ [], μ)) 2 ze9 e (fun n => Eq.refl _)
      by_cases zc10 : x9 ≠ 0
      · have zh5 := itp zh5 zc10
        suffices e : Ev (d + 7, 0, 0, 280, 173, [.val (.ref 448), .val (.ref 128), .val (.ref 192), .val (.int v1), .val (.int v2), .val s3, .val s4, .val s5], [], (126, 120, L, [Y, T_6, H, H2, RA, RB, ST_7, NS, I0, I1, I2, BO, FI, RG, GU, PU, MA, MN, MS, OT, SC], [r0, r1, r2, r3, w8, r5, r6, r7, r8], Lg)) o from ev_t (c := x9 ≠ 0) _ _ 1  zc10 e (fun n => Eq.refl _)
        exact ev_b 0 (zx4 _ (Option.some.inj zh5).symm (.int v1) (.int v2) s3 s4 s5) (fun n => Eq.refl _)
      · have zh5 := itn zh5 zc10
        suffices e : Ev (d + 7, 0, 0, 280, 24, [.val (.ref 448), .val (.ref 128), .val (.ref 192), .val (.int v1), .val (.int v2), .val s3, .val s4, .val s5], [], (126, 120, L, [Y, T_6, H, H2, RA, RB, ST_7, NS, I0, I1, I2, BO, FI, RG, GU, PU, MA, MN, MS, OT, SC], [r0, r1, r2, r3, w8, r5, r6, r7, r8], Lg)) o from ev_f (c := x9 ≠ 0) _ _ 1  zc10 e (fun n => Eq.refl _)
        obtain ⟨x10, zh11, zh5⟩ := bnd zh5
        have zh11 : f_Tape_atEnd T_6 = some x10 := zh11
        have ze12 := R_f_Tape_atEnd_0 (d + 6) Y T_6 H H2 RA RB ST_7 NS I0 I1 I2 BO FI RG GU PU MA MN MS OT SC r0 r1 r2 r3 w8 r5 r6 r7 r8 L Lg zh11
        suffices e : Ev (d + 7, 0, 0, 280, 28, [.val (.ref 448), .val (.ref 128), .val (.ref 192), .val (.int v1), .val (.int v2), .val s3, .val s4, .val s5], [.int x10], (126, 120, L, [Y, T_6, H, H2, RA, RB, ST_7, NS, I0, I1, I2, BO, FI, RG, GU, PU, MA, MN, MS, OT, SC], [r0, r1, r2, r3, w8, r5, r6, r7, r8], Lg)) o from ev_call (fun v μ => (d + 7, 0, 0, 280, 28, [.val (.ref 448), .val (.ref 128), .val (.ref 192), .val (.int v1), .val (.int v2), .val s3, .val s4, .val s5], v.toList ++ [], μ)) 2 ze12 e (fun n => Eq.refl _)
        by_cases zc13 : x10 ≠ 0
        · have zh5 := itp zh5 zc13
          suffices e : Ev (d + 7, 0, 0, 280, 173, [.val (.ref 448), .val (.ref 128), .val (.ref 192), .val (.int v1), .val (.int v2), .val s3, .val s4, .val s5], [], (126, 120, L, [Y, T_6, H, H2, RA, RB, ST_7, NS, I0, I1, I2, BO, FI, RG, GU, PU, MA, MN, MS, OT, SC], [r0, r1, r2, r3, w8, r5, r6, r7, r8], Lg)) o from ev_t (c := x10 ≠ 0) _ _ 1  zc13 e (fun n => Eq.refl _)
          exact ev_b 0 (zx4 _ (Option.some.inj zh5).symm (.int v1) (.int v2) s3 s4 s5) (fun n => Eq.refl _)
        · have zh5 := itn zh5 zc13
          suffices e : Ev (d + 7, 0, 0, 280, 31, [.val (.ref 448), .val (.ref 128), .val (.ref 192), .val (.int v1), .val (.int v2), .val s3, .val s4, .val s5], [], (126, 120, L, [Y, T_6, H, H2, RA, RB, ST_7, NS, I0, I1, I2, BO, FI, RG, GU, PU, MA, MN, MS, OT, SC], [r0, r1, r2, r3, w8, r5, r6, r7, r8], Lg)) o from ev_f (c := x10 ≠ 0) _ _ 1  zc13 e (fun n => Eq.refl _)
          obtain ⟨zt14, zh15, zh5⟩ := bnd zh5
          have zj16 : ∀ (T_12 : (Nat → Nat → Int32)), T_12 = zt14 → Ev (d + 7, 0, 0, 280, 66, [.val (.ref 448), .val (.ref 128), .val (.ref 192), .val (.int v1), .val (.int v2), .val s3, .val s4, .val s5], [], (126, 120, L, [Y, T_12, H, H2, RA, RB, ST_7, NS, I0, I1, I2, BO, FI, RG, GU, PU, MA, MN, MS, OT, SC], [r0, r1, r2, r3, w8, r5, r6, r7, r8], Lg)) o := by
            intro T_12 ze17
            subst ze17
            obtain ⟨⟨x13, T_14, w15⟩, zh18, zh5⟩ := bnd zh5
            have zh18 : f_Tape_number T_12 w8 0 ((H 0 3) - 1) = some (x13, T_14, w15) := zh18
            have ze19 := R_f_Tape_number_0 (d + 0) Y T_12 H H2 RA RB ST_7 NS I0 I1 I2 BO FI RG GU PU MA MN MS OT SC r0 r1 r2 r3 w8 r5 r6 r7 r8 L Lg 0 ((H 0 3) - 1) zh18
            suffices e : Ev (d + 7, 0, 0, 280, 77, [.val (.ref 448), .val (.ref 128), .val (.ref 192), .val (.int v1), .val (.int v2), .val s3, .val s4, .val s5], [.int x13], (126, 120, L, [Y, T_14, H, H2, RA, RB, ST_7, NS, I0, I1, I2, BO, FI, RG, GU, PU, MA, MN, MS, OT, SC], [r0, r1, r2, r3, w15, r5, r6, r7, r8], Lg)) o from ev_call (fun v μ => (d + 7, 0, 0, 280, 77, [.val (.ref 448), .val (.ref 128), .val (.ref 192), .val (.int v1), .val (.int v2), .val s3, .val s4, .val s5], v.toList ++ [], μ)) 7 ze19 e (fun n => Eq.refl _)
            obtain ⟨⟨x16, T_17, w18⟩, zh20, zh5⟩ := bnd zh5
            have zh20 : f_Tape_number T_14 w15 0 ((H 0 0) - 1) = some (x16, T_17, w18) := zh20
            have ze21 := R_f_Tape_number_0 (d + 0) Y T_14 H H2 RA RB ST_7 NS I0 I1 I2 BO FI RG GU PU MA MN MS OT SC r0 r1 r2 r3 w15 r5 r6 r7 r8 L Lg 0 ((H 0 0) - 1) zh20
            suffices e : Ev (d + 7, 0, 0, 280, 90, [.val (.ref 448), .val (.ref 128), .val (.ref 192), .val (.int v1), .val (.int v2), .val (.int x13), .val s4, .val s5], [.int x16], (126, 120, L, [Y, T_17, H, H2, RA, RB, ST_7, NS, I0, I1, I2, BO, FI, RG, GU, PU, MA, MN, MS, OT, SC], [r0, r1, r2, r3, w18, r5, r6, r7, r8], Lg)) o from ev_call (fun v μ => (d + 7, 0, 0, 280, 90, [.val (.ref 448), .val (.ref 128), .val (.ref 192), .val (.int v1), .val (.int v2), .val (.int x13), .val s4, .val s5], v.toList ++ [], μ)) 8 ze21 e (fun n => Eq.refl _)
            obtain ⟨⟨x19, T_20, w21⟩, zh22, zh5⟩ := bnd zh5
            have zh22 : f_Tape_number T_17 w18 0 ((H 0 1) - 1) = some (x19, T_20, w21) := zh22
            have ze23 := R_f_Tape_number_0 (d + 0) Y T_17 H H2 RA RB ST_7 NS I0 I1 I2 BO FI RG GU PU MA MN MS OT SC r0 r1 r2 r3 w18 r5 r6 r7 r8 L Lg 0 ((H 0 1) - 1) zh22
            suffices e : Ev (d + 7, 0, 0, 280, 103, [.val (.ref 448), .val (.ref 128), .val (.ref 192), .val (.int v1), .val (.int v2), .val (.int x13), .val (.int x16), .val s5], [.int x19], (126, 120, L, [Y, T_20, H, H2, RA, RB, ST_7, NS, I0, I1, I2, BO, FI, RG, GU, PU, MA, MN, MS, OT, SC], [r0, r1, r2, r3, w21, r5, r6, r7, r8], Lg)) o from ev_call (fun v μ => (d + 7, 0, 0, 280, 103, [.val (.ref 448), .val (.ref 128), .val (.ref 192), .val (.int v1), .val (.int v2), .val (.int x13), .val (.int x16), .val s5], v.toList ++ [], μ)) 8 ze23 e (fun n => Eq.refl _)
            obtain ⟨⟨x22, T_23, w24⟩, zh24, zh5⟩ := bnd zh5
            have zh24 : f_Tape_pass T_20 w21 59 = some (x22, T_23, w24) := zh24
            have ze25 := R_f_Tape_pass_0 (d + 0) Y T_20 H H2 RA RB ST_7 NS I0 I1 I2 BO FI RG GU PU MA MN MS OT SC r0 r1 r2 r3 w21 r5 r6 r7 r8 L Lg 59 zh24
            suffices e : Ev (d + 7, 0, 0, 280, 111, [.val (.ref 448), .val (.ref 128), .val (.ref 192), .val (.int v1), .val (.int v2), .val (.int x13), .val (.int x16), .val (.int x19)], [.int x22], (126, 120, L, [Y, T_23, H, H2, RA, RB, ST_7, NS, I0, I1, I2, BO, FI, RG, GU, PU, MA, MN, MS, OT, SC], [r0, r1, r2, r3, w24, r5, r6, r7, r8], Lg)) o from ev_call (fun v μ => (d + 7, 0, 0, 280, 111, [.val (.ref 448), .val (.ref 128), .val (.ref 192), .val (.int v1), .val (.int v2), .val (.int x13), .val (.int x16), .val (.int x19)], v.toList ++ [], μ)) 4 ze25 e (fun n => Eq.refl _)
            by_cases zc26 : x22 = 0
            · have zh5 := itp zh5 zc26
              suffices e : Ev (d + 7, 0, 0, 280, 167, [.val (.ref 448), .val (.ref 128), .val (.ref 192), .val (.int v1), .val (.int v2), .val (.int x13), .val (.int x16), .val (.int x19)], [], (126, 120, L, [Y, T_23, H, H2, RA, RB, ST_7, NS, I0, I1, I2, BO, FI, RG, GU, PU, MA, MN, MS, OT, SC], [r0, r1, r2, r3, w24, r5, r6, r7, r8], Lg)) o from ev_t (c := x22 = 0) _ _ 1  zc26 e (fun n => Eq.refl _)
              exact ev_b 2 (zi3 _ (Option.some.inj zh5).symm ((.int x13), (.int x16), (.int x19))) (fun n => Eq.refl _)
            · have zh5 := itn zh5 zc26
              suffices e : Ev (d + 7, 0, 0, 280, 114, [.val (.ref 448), .val (.ref 128), .val (.ref 192), .val (.int v1), .val (.int v2), .val (.int x13), .val (.int x16), .val (.int x19)], [], (126, 120, L, [Y, T_23, H, H2, RA, RB, ST_7, NS, I0, I1, I2, BO, FI, RG, GU, PU, MA, MN, MS, OT, SC], [r0, r1, r2, r3, w24, r5, r6, r7, r8], Lg)) o from ev_f (c := x22 = 0) _ _ 1  zc26 e (fun n => Eq.refl _)
              by_cases zc27 : 10 ≤ (ST_7 0 0)
              · have zh5 := itp zh5 zc27
                suffices e : Ev (d + 7, 0, 0, 280, 167, [.val (.ref 448), .val (.ref 128), .val (.ref 192), .val (.int v1), .val (.int v2), .val (.int x13), .val (.int x16), .val (.int x19)], [], (126, 120, L, [Y, T_23, H, H2, RA, RB, ST_7, NS, I0, I1, I2, BO, FI, RG, GU, PU, MA, MN, MS, OT, SC], [r0, r1, r2, r3, w24, r5, r6, r7, r8], Lg)) o from ev_t (c := 10 ≤ (ST_7 0 0)) _ _ 4  zc27 e (fun n => Eq.refl _)
                exact ev_b 2 (zi3 _ (Option.some.inj zh5).symm ((.int x13), (.int x16), (.int x19))) (fun n => Eq.refl _)
              · have zh5 := itn zh5 zc27
                suffices e : Ev (d + 7, 0, 0, 280, 123, [.val (.ref 448), .val (.ref 128), .val (.ref 192), .val (.int v1), .val (.int v2), .val (.int x13), .val (.int x16), .val (.int x19)], [], (126, 120, L, [Y, T_23, H, H2, RA, RB, ST_7, NS, I0, I1, I2, BO, FI, RG, GU, PU, MA, MN, MS, OT, SC], [r0, r1, r2, r3, w24, r5, r6, r7, r8], Lg)) o from ev_f (c := 10 ≤ (ST_7 0 0)) _ _ 4  zc27 e (fun n => Eq.refl _)
                obtain ⟨j25, zh28, zh5⟩ := bnd zh5
                have zh28 : ixx 10 (ST_7 0 0) = some j25 := zh28
                suffices e : Ev (d + 7, 0, 0, 280, 141, [.val (.ref 448), .val (.ref 128), .val (.ref 192), .val (.int (v1 ||| (a_shl 1 x13))), .val (.int v2), .val (.int x13), .val (.int x16), .val (.int x19)], [], (126, 120, L, [Y, T_23, H, H2, RA, RB, (u2 ST_7 1 j25 x13), NS, I0, I1, I2, BO, FI, RG, GU, PU, MA, MN, MS, OT, SC], [r0, r1, r2, r3, w24, r5, r6, r7, r8], Lg)) o from ev_opt (fun j25 => (d + 7, 0, 0, 280, 141, [.val (.ref 448), .val (.ref 128), .val (.ref 192), .val (.int (v1 ||| (a_shl 1 x13))), .val (.int v2), .val (.int x13), .val (.int x16), .val (.int x19)], [], (126, 120, L, [Y, T_23, H, H2, RA, RB, (u2 ST_7 1 j25 x13), NS, I0, I1, I2, BO, FI, RG, GU, PU, MA, MN, MS, OT, SC], [r0, r1, r2, r3, w24, r5, r6, r7, r8], Lg))) 12 zh28 e (fun n => Eq.refl _)
                obtain ⟨x26, zh29, zh5⟩ := bnd zh5
                have zh29 : f_Y_placeOf x16 x19 = some x26 := zh29
                have ze30 := R_f_Y_placeOf_0 (d + 6) Y T_23 H H2 RA RB (u2 ST_7 1 j25 x13) NS I0 I1 I2 BO FI RG GU PU MA MN MS OT SC r0 r1 r2 r3 w24 r5 r6 r7 r8 L Lg x16 x19 zh29
                suffices e : Ev (d + 7, 0, 0, 280, 156, [.val (.ref 448), .val (.ref 128), .val (.ref 192), .val (.int (v1 ||| (a_shl 1 x13))), .val (.int v2), .val (.int x13), .val (.int x16), .val (.int x19)], [.int x26, .int ((u2 ST_7 1 j25 x13) 0 0), .ref 450], (126, 120, L, [Y, T_23, H, H2, RA, RB, (u2 ST_7 1 j25 x13), NS, I0, I1, I2, BO, FI, RG, GU, PU, MA, MN, MS, OT, SC], [r0, r1, r2, r3, w24, r5, r6, r7, r8], Lg)) o from ev_call (fun v μ => (d + 7, 0, 0, 280, 156, [.val (.ref 448), .val (.ref 128), .val (.ref 192), .val (.int (v1 ||| (a_shl 1 x13))), .val (.int v2), .val (.int x13), .val (.int x16), .val (.int x19)], v.toList ++ [.int ((u2 ST_7 1 j25 x13) 0 0), .ref 450], μ)) 7 ze30 e (fun n => Eq.refl _)
                obtain ⟨j27, zh31, zh5⟩ := bnd zh5
                have zh31 : ixx 10 ((u2 ST_7 1 j25 x13) 0 0) = some j27 := zh31
                suffices e : Ev (d + 7, 0, 0, 280, 157, [.val (.ref 448), .val (.ref 128), .val (.ref 192), .val (.int (v1 ||| (a_shl 1 x13))), .val (.int v2), .val (.int x13), .val (.int x16), .val (.int x19)], [], (126, 120, L, [Y, T_23, H, H2, RA, RB, (u2 (u2 ST_7 1 j25 x13) 2 j27 x26), NS, I0, I1, I2, BO, FI, RG, GU, PU, MA, MN, MS, OT, SC], [r0, r1, r2, r3, w24, r5, r6, r7, r8], Lg)) o from ev_opt (fun j27 => (d + 7, 0, 0, 280, 157, [.val (.ref 448), .val (.ref 128), .val (.ref 192), .val (.int (v1 ||| (a_shl 1 x13))), .val (.int v2), .val (.int x13), .val (.int x16), .val (.int x19)], [], (126, 120, L, [Y, T_23, H, H2, RA, RB, (u2 (u2 ST_7 1 j25 x13) 2 j27 x26), NS, I0, I1, I2, BO, FI, RG, GU, PU, MA, MN, MS, OT, SC], [r0, r1, r2, r3, w24, r5, r6, r7, r8], Lg))) 1 zh31 e (fun n => Eq.refl _)
                exact ev_b 8 (zi3 _ (Option.some.inj zh5).symm ((.int x13), (.int x16), (.int x19))) (fun n => Eq.refl _)
          by_cases zc32 : (T_6 0 3) ≠ 1
          · have zh15 := itp zh15 zc32
            suffices e : Ev (d + 7, 0, 0, 280, 66, [.val (.ref 448), .val (.ref 128), .val (.ref 192), .val (.int v1), .val (.int v2), .val s3, .val s4, .val s5], [], (126, 120, L, [Y, T_6, H, H2, RA, RB, ST_7, NS, I0, I1, I2, BO, FI, RG, GU, PU, MA, MN, MS, OT, SC], [r0, r1, r2, r3, w8, r5, r6, r7, r8], Lg)) o from ev_t (c := (T_6 0 3) ≠ 1) _ _ 4  zc32 e (fun n => Eq.refl _)
            exact ev_b 0 (zj16 T_6 (Option.some.inj zh15) ) (fun n => Eq.refl _)
          · have zh15 := itn zh15 zc32
            suffices e : Ev (d + 7, 0, 0, 280, 39, [.val (.ref 448), .val (.ref 128), .val (.ref 192), .val (.int v1), .val (.int v2), .val s3, .val s4, .val s5], [], (126, 120, L, [Y, T_6, H, H2, RA, RB, ST_7, NS, I0, I1, I2, BO, FI, RG, GU, PU, MA, MN, MS, OT, SC], [r0, r1, r2, r3, w8, r5, r6, r7, r8], Lg)) o from ev_f (c := (T_6 0 3) ≠ 1) _ _ 4  zc32 e (fun n => Eq.refl _)
            by_cases zc33 : (H 0 3) ≤ (T_6 0 6)
            · have zh15 := itp zh15 zc33
              suffices e : Ev (d + 7, 0, 0, 280, 66, [.val (.ref 448), .val (.ref 128), .val (.ref 192), .val (.int v1), .val (.int v2), .val s3, .val s4, .val s5], [], (126, 120, L, [Y, T_6, H, H2, RA, RB, ST_7, NS, I0, I1, I2, BO, FI, RG, GU, PU, MA, MN, MS, OT, SC], [r0, r1, r2, r3, w8, r5, r6, r7, r8], Lg)) o from ev_t (c := (H 0 3) ≤ (T_6 0 6)) _ _ 5  zc33 e (fun n => Eq.refl _)
              exact ev_b 0 (zj16 T_6 (Option.some.inj zh15) ) (fun n => Eq.refl _)
            · have zh15 := itn zh15 zc33
              suffices e : Ev (d + 7, 0, 0, 280, 50, [.val (.ref 448), .val (.ref 128), .val (.ref 192), .val (.int v1), .val (.int v2), .val s3, .val s4, .val s5], [], (126, 120, L, [Y, T_6, H, H2, RA, RB, ST_7, NS, I0, I1, I2, BO, FI, RG, GU, PU, MA, MN, MS, OT, SC], [r0, r1, r2, r3, w8, r5, r6, r7, r8], Lg)) o from ev_f (c := (H 0 3) ≤ (T_6 0 6)) _ _ 5  zc33 e (fun n => Eq.refl _)
              by_cases zc34 : ((a_shr v1 (T_6 0 6)) &&& 1) = 0
              · have zh15 := itp zh15 zc34
                suffices e : Ev (d + 7, 0, 0, 280, 66, [.val (.ref 448), .val (.ref 128), .val (.ref 192), .val (.int v1), .val (.int v2), .val s3, .val s4, .val s5], [], (126, 120, L, [Y, T_6, H, H2, RA, RB, ST_7, NS, I0, I1, I2, BO, FI, RG, GU, PU, MA, MN, MS, OT, SC], [r0, r1, r2, r3, w8, r5, r6, r7, r8], Lg)) o from ev_t (c := ((a_shr v1 (T_6 0 6)) &&& 1) = 0) _ _ 7  zc34 e (fun n => Eq.refl _)
                exact ev_b 0 (zj16 T_6 (Option.some.inj zh15) ) (fun n => Eq.refl _)
              · have zh15 := itn zh15 zc34
                suffices e : Ev (d + 7, 0, 0, 280, 61, [.val (.ref 448), .val (.ref 128), .val (.ref 192), .val (.int v1), .val (.int v2), .val s3, .val s4, .val s5], [], (126, 120, L, [Y, T_6, H, H2, RA, RB, ST_7, NS, I0, I1, I2, BO, FI, RG, GU, PU, MA, MN, MS, OT, SC], [r0, r1, r2, r3, w8, r5, r6, r7, r8], Lg)) o from ev_f (c := ((a_shr v1 (T_6 0 6)) &&& 1) = 0) _ _ 7  zc34 e (fun n => Eq.refl _)
                obtain ⟨T_11, zh35, zh15⟩ := bnd zh15
                have zh35 : f_Tape_fail T_6 2 = some T_11 := zh35
                have ze36 := R_f_Tape_fail_0 (d + 6) Y T_6 H H2 RA RB ST_7 NS I0 I1 I2 BO FI RG GU PU MA MN MS OT SC r0 r1 r2 r3 w8 r5 r6 r7 r8 L Lg 2 zh35
                suffices e : Ev (d + 7, 0, 0, 280, 66, [.val (.ref 448), .val (.ref 128), .val (.ref 192), .val (.int v1), .val (.int v2), .val s3, .val s4, .val s5], [], (126, 120, L, [Y, T_11, H, H2, RA, RB, ST_7, NS, I0, I1, I2, BO, FI, RG, GU, PU, MA, MN, MS, OT, SC], [r0, r1, r2, r3, w8, r5, r6, r7, r8], Lg)) o from ev_call (fun v μ => (d + 7, 0, 0, 280, 66, [.val (.ref 448), .val (.ref 128), .val (.ref 192), .val (.int v1), .val (.int v2), .val s3, .val s4, .val s5], v.toList ++ [], μ)) 3 ze36 e (fun n => Eq.refl _)
                exact ev_b 0 (zj16 T_11 (Option.some.inj zh15) ) (fun n => Eq.refl _)
  · obtain ⟨T_33, ST_34, w35⟩ := zb1
    intro s28 s29 s30 s31 s32
    have ze37 := Option.some.inj h
    subst ze37
    exact ev_rete 1 ho (fun n => Eq.refl _)
