/-! printed by program (gen/emitm.py): the reference's methods run as their functions say -/
set_option maxRecDepth 1000000 in
set_option maxHeartbeats 4000000 in
theorem R_f_Tape_fail_0 (d : Nat) (Y T HA HB RA RB ST NS I0 I1 I2 BO FI RG GU PU MA MN MS OT SC : Nat → Nat → Int32) (r0 r1 r2 r3 w r5 r6 r7 r8 : Nat) (L : Nat) (Lg : Int64) (p1 : Int32) {r : (Nat → Nat → Int32)} (h : f_Tape_fail T p1 = some r) : Ev (d + 0, 0, 0, 268, 0, [.val (.ref 128), .val (.int p1)], [], (126, 120, L, [Y, T, HA, HB, RA, RB, ST, NS, I0, I1, I2, BO, FI, RG, GU, PU, MA, MN, MS, OT, SC], [r0, r1, r2, r3, w, r5, r6, r7, r8], Lg)) ((0, none, (126, 120, L, [Y, r, HA, HB, RA, RB, ST, NS, I0, I1, I2, BO, FI, RG, GU, PU, MA, MN, MS, OT, SC], [r0, r1, r2, r3, w, r5, r6, r7, r8], Lg)) : AOut) := by
  suffices key : ∀ o : AOut, ((0, none, (126, 120, L, [Y, r, HA, HB, RA, RB, ST, NS, I0, I1, I2, BO, FI, RG, GU, PU, MA, MN, MS, OT, SC], [r0, r1, r2, r3, w, r5, r6, r7, r8], Lg)) : AOut) = o → Ev (d + 0, 0, 0, 268, 0, [.val (.ref 128), .val (.int p1)], [], (126, 120, L, [Y, T, HA, HB, RA, RB, ST, NS, I0, I1, I2, BO, FI, RG, GU, PU, MA, MN, MS, OT, SC], [r0, r1, r2, r3, w, r5, r6, r7, r8], Lg)) o from key _ rfl
  intro o ho
  by_cases zc1 : (T 0 8) ≠ 0
  · have h := itp h zc1
    suffices e : Ev (d + 0, 0, 0, 268, 20, [.val (.ref 128), .val (.int p1)], [], (126, 120, L, [Y, T, HA, HB, RA, RB, ST, NS, I0, I1, I2, BO, FI, RG, GU, PU, MA, MN, MS, OT, SC], [r0, r1, r2, r3, w, r5, r6, r7, r8], Lg)) o from ev_t (c := (T 0 8) ≠ 0) _ _ 3  zc1 e (fun n => Eq.refl _)
    have ze2 := Option.some.inj h
    subst ze2
    exact ev_rete 1 ho (fun n => Eq.refl _)
  · have h := itn h zc1
    suffices e : Ev (d + 0, 0, 0, 268, 7, [.val (.ref 128), .val (.int p1)], [], (126, 120, L, [Y, T, HA, HB, RA, RB, ST, NS, I0, I1, I2, BO, FI, RG, GU, PU, MA, MN, MS, OT, SC], [r0, r1, r2, r3, w, r5, r6, r7, r8], Lg)) o from ev_f (c := (T 0 8) ≠ 0) _ _ 3  zc1 e (fun n => Eq.refl _)
    have ze3 := Option.some.inj h
    subst ze3
    exact ev_rete 8 ho (fun n => Eq.refl _)
set_option maxRecDepth 1000000 in
set_option maxHeartbeats 4000000 in
theorem R_f_Tape_number_0 (d : Nat) (Y T HA HB RA RB ST NS I0 I1 I2 BO FI RG GU PU MA MN MS OT SC : Nat → Nat → Int32) (r0 r1 r2 r3 w r5 r6 r7 r8 : Nat) (L : Nat) (Lg : Int64) (p1 : Int32) (p2 : Int32) {r : Int32 × (Nat → Nat → Int32) × Nat} (h : f_Tape_number T w p1 p2 = some r) : Ev (d + 6, 0, 0, 277, 0, [.val (.ref 128), .val (.int p1), .val (.int p2), .val a_unk], [], (126, 120, L, [Y, T, HA, HB, RA, RB, ST, NS, I0, I1, I2, BO, FI, RG, GU, PU, MA, MN, MS, OT, SC], [r0, r1, r2, r3, w, r5, r6, r7, r8], Lg)) ((0, some (.int r.1), (126, 120, L, [Y, r.2.1, HA, HB, RA, RB, ST, NS, I0, I1, I2, BO, FI, RG, GU, PU, MA, MN, MS, OT, SC], [r0, r1, r2, r3, r.2.2, r5, r6, r7, r8], Lg)) : AOut) := by
  suffices key : ∀ o : AOut, ((0, some (.int r.1), (126, 120, L, [Y, r.2.1, HA, HB, RA, RB, ST, NS, I0, I1, I2, BO, FI, RG, GU, PU, MA, MN, MS, OT, SC], [r0, r1, r2, r3, r.2.2, r5, r6, r7, r8], Lg)) : AOut) = o → Ev (d + 6, 0, 0, 277, 0, [.val (.ref 128), .val (.int p1), .val (.int p2), .val a_unk], [], (126, 120, L, [Y, T, HA, HB, RA, RB, ST, NS, I0, I1, I2, BO, FI, RG, GU, PU, MA, MN, MS, OT, SC], [r0, r1, r2, r3, w, r5, r6, r7, r8], Lg)) o from key _ rfl
  intro o ho
  obtain ⟨x1, zh1, h⟩ := bnd h
  have zh1 : f_Tape_failed T = some x1 := zh1
  have ze2 := R_f_Tape_failed_0 (d + 5) Y T HA HB RA RB ST NS I0 I1 I2 BO FI RG GU PU MA MN MS OT SC r0 r1 r2 r3 w r5 r6 r7 r8 L Lg zh1
  suffices e : Ev (d + 6, 0, 0, 277, 4, [.val (.ref 128), .val (.int p1), .val (.int p2), .val a_unk], [.int x1], (126, 120, L, [Y, T, HA, HB, RA, RB, ST, NS, I0, I1, I2, BO, FI, RG, GU, PU, MA, MN, MS, OT, SC], [r0, r1, r2, r3, w, r5, r6, r7, r8], Lg)) o from ev_call (fun v μ => (d + 6, 0, 0, 277, 4, [.val (.ref 128), .val (.int p1), .val (.int p2), .val a_unk], v.toList ++ [], μ)) 2 ze2 e (fun n => Eq.refl _)
  by_cases zc3 : x1 = 0
  · have h := itp h zc3
    suffices e : Ev (d + 6, 0, 0, 277, 9, [.val (.ref 128), .val (.int p1), .val (.int p2), .val a_unk], [], (126, 120, L, [Y, T, HA, HB, RA, RB, ST, NS, I0, I1, I2, BO, FI, RG, GU, PU, MA, MN, MS, OT, SC], [r0, r1, r2, r3, w, r5, r6, r7, r8], Lg)) o from ev_t (c := x1 = 0) _ _ 1  zc3 e (fun n => Eq.refl _)
    by_cases zc4 : (T 0 3) = 1
    · have h := itp h zc4
      suffices e : Ev (d + 6, 0, 0, 277, 24, [.val (.ref 128), .val (.int p1), .val (.int p2), .val a_unk], [], (126, 120, L, [Y, T, HA, HB, RA, RB, ST, NS, I0, I1, I2, BO, FI, RG, GU, PU, MA, MN, MS, OT, SC], [r0, r1, r2, r3, w, r5, r6, r7, r8], Lg)) o from ev_t (c := (T 0 3) = 1) _ _ 4  zc4 e (fun n => Eq.refl _)
      obtain ⟨zt5, zh6, h⟩ := bnd h
      have zj7 : zt5 = .inl () → Ev (d + 6, 0, 0, 277, 40, [.val (.ref 128), .val (.int p1), .val (.int p2), .val a_unk], [], (126, 120, L, [Y, T, HA, HB, RA, RB, ST, NS, I0, I1, I2, BO, FI, RG, GU, PU, MA, MN, MS, OT, SC], [r0, r1, r2, r3, w, r5, r6, r7, r8], Lg)) o := by
        intro ze8
        have h := sum_l h ze8
        obtain ⟨T_4, zh9, h⟩ := bnd h
        have zh9 : f_Tape_fail T 2 = some T_4 := zh9
        have ze10 := R_f_Tape_fail_0 (d + 5) Y T HA HB RA RB ST NS I0 I1 I2 BO FI RG GU PU MA MN MS OT SC r0 r1 r2 r3 w r5 r6 r7 r8 L Lg 2 zh9
        suffices e : Ev (d + 6, 0, 0, 277, 45, [.val (.ref 128), .val (.int p1), .val (.int p2), .val a_unk], [], (126, 120, L, [Y, T_4, HA, HB, RA, RB, ST, NS, I0, I1, I2, BO, FI, RG, GU, PU, MA, MN, MS, OT, SC], [r0, r1, r2, r3, w, r5, r6, r7, r8], Lg)) o from ev_call (fun v μ => (d + 6, 0, 0, 277, 45, [.val (.ref 128), .val (.int p1), .val (.int p2), .val a_unk], v.toList ++ [], μ)) 3 ze10 e (fun n => Eq.refl _)
        have ze11 := Option.some.inj h
        subst ze11
        exact ev_rete 2 ho (fun n => Eq.refl _)
      by_cases zc12 : (T 0 6) < p1
      · have zh6 := itp zh6 zc12
        suffices e : Ev (d + 6, 0, 0, 277, 40, [.val (.ref 128), .val (.int p1), .val (.int p2), .val a_unk], [], (126, 120, L, [Y, T, HA, HB, RA, RB, ST, NS, I0, I1, I2, BO, FI, RG, GU, PU, MA, MN, MS, OT, SC], [r0, r1, r2, r3, w, r5, r6, r7, r8], Lg)) o from ev_t (c := (T 0 6) < p1) _ _ 4  zc12 e (fun n => Eq.refl _)
        exact ev_b 0 (zj7  (Option.some.inj zh6).symm ) (fun n => Eq.refl _)
      · have zh6 := itn zh6 zc12
        suffices e : Ev (d + 6, 0, 0, 277, 32, [.val (.ref 128), .val (.int p1), .val (.int p2), .val a_unk], [], (126, 120, L, [Y, T, HA, HB, RA, RB, ST, NS, I0, I1, I2, BO, FI, RG, GU, PU, MA, MN, MS, OT, SC], [r0, r1, r2, r3, w, r5, r6, r7, r8], Lg)) o from ev_f (c := (T 0 6) < p1) _ _ 4  zc12 e (fun n => Eq.refl _)
        by_cases zc13 : (T 0 6) ≤ p2
        · have zh6 := itp zh6 zc13
          suffices e : Ev (d + 6, 0, 0, 277, 47, [.val (.ref 128), .val (.int p1), .val (.int p2), .val a_unk], [], (126, 120, L, [Y, T, HA, HB, RA, RB, ST, NS, I0, I1, I2, BO, FI, RG, GU, PU, MA, MN, MS, OT, SC], [r0, r1, r2, r3, w, r5, r6, r7, r8], Lg)) o from ev_t (c := (T 0 6) ≤ p2) _ _ 4  zc13 e (fun n => Eq.refl _)
          obtain ⟨⟨T_2, w3⟩, zh14, zh6⟩ := bnd zh6
          have zh14 : f_Tape_advance T = some (T_2, w3) := zh14
          have ze15 := R_f_Tape_advance_0 (d + 0) Y T HA HB RA RB ST NS I0 I1 I2 BO FI RG GU PU MA MN MS OT SC r0 r1 r2 r3 w r5 r6 r7 r8 L Lg zh14
          suffices e : Ev (d + 6, 0, 0, 277, 56, [.val (.ref 128), .val (.int p1), .val (.int p2), .val (.int (T 0 6))], [], (126, 120, L, [Y, T_2, HA, HB, RA, RB, ST, NS, I0, I1, I2, BO, FI, RG, GU, PU, MA, MN, MS, OT, SC], [r0, r1, r2, r3, w3, r5, r6, r7, r8], Lg)) o from ev_call (fun v μ => (d + 6, 0, 0, 277, 56, [.val (.ref 128), .val (.int p1), .val (.int p2), .val (.int (T 0 6))], v.toList ++ [], μ)) 5 ze15 e (fun n => Eq.refl _)
          have zh16 := sum_r h (Option.some.inj zh6).symm
          have ze17 := Option.some.inj zh16
          subst ze17
          exact ev_rete 2 ho (fun n => Eq.refl _)
        · have zh6 := itn zh6 zc13
          suffices e : Ev (d + 6, 0, 0, 277, 40, [.val (.ref 128), .val (.int p1), .val (.int p2), .val a_unk], [], (126, 120, L, [Y, T, HA, HB, RA, RB, ST, NS, I0, I1, I2, BO, FI, RG, GU, PU, MA, MN, MS, OT, SC], [r0, r1, r2, r3, w, r5, r6, r7, r8], Lg)) o from ev_f (c := (T 0 6) ≤ p2) _ _ 4  zc13 e (fun n => Eq.refl _)
          exact ev_b 0 (zj7  (Option.some.inj zh6).symm ) (fun n => Eq.refl _)
    · have h := itn h zc4
      suffices e : Ev (d + 6, 0, 0, 277, 17, [.val (.ref 128), .val (.int p1), .val (.int p2), .val a_unk], [], (126, 120, L, [Y, T, HA, HB, RA, RB, ST, NS, I0, I1, I2, BO, FI, RG, GU, PU, MA, MN, MS, OT, SC], [r0, r1, r2, r3, w, r5, r6, r7, r8], Lg)) o from ev_f (c := (T 0 3) = 1) _ _ 4  zc4 e (fun n => Eq.refl _)
      obtain ⟨T_5, zh18, h⟩ := bnd h
      have zh18 : f_Tape_fail T 1 = some T_5 := zh18
      have ze19 := R_f_Tape_fail_0 (d + 5) Y T HA HB RA RB ST NS I0 I1 I2 BO FI RG GU PU MA MN MS OT SC r0 r1 r2 r3 w r5 r6 r7 r8 L Lg 1 zh18
      suffices e : Ev (d + 6, 0, 0, 277, 22, [.val (.ref 128), .val (.int p1), .val (.int p2), .val a_unk], [], (126, 120, L, [Y, T_5, HA, HB, RA, RB, ST, NS, I0, I1, I2, BO, FI, RG, GU, PU, MA, MN, MS, OT, SC], [r0, r1, r2, r3, w, r5, r6, r7, r8], Lg)) o from ev_call (fun v μ => (d + 6, 0, 0, 277, 22, [.val (.ref 128), .val (.int p1), .val (.int p2), .val a_unk], v.toList ++ [], μ)) 3 ze19 e (fun n => Eq.refl _)
      have ze20 := Option.some.inj h
      subst ze20
      exact ev_rete 2 ho (fun n => Eq.refl _)
  · have h := itn h zc3
    suffices e : Ev (d + 6, 0, 0, 277, 7, [.val (.ref 128), .val (.int p1), .val (.int p2), .val a_unk], [], (126, 120, L, [Y, T, HA, HB, RA, RB, ST, NS, I0, I1, I2, BO, FI, RG, GU, PU, MA, MN, MS, OT, SC], [r0, r1, r2, r3, w, r5, r6, r7, r8], Lg)) o from ev_f (c := x1 = 0) _ _ 1  zc3 e (fun n => Eq.refl _)
    have ze21 := Option.some.inj h
    subst ze21
    exact ev_rete 2 ho (fun n => Eq.refl _)
set_option maxRecDepth 1000000 in
set_option maxHeartbeats 4000000 in
theorem R_f_Tape_atSign_0 (d : Nat) (Y T HA HB RA RB ST NS I0 I1 I2 BO FI RG GU PU MA MN MS OT SC : Nat → Nat → Int32) (r0 r1 r2 r3 w r5 r6 r7 r8 : Nat) (L : Nat) (Lg : Int64) (p1 : Int32) {r : Int32} (h : f_Tape_atSign T p1 = some r) : Ev (d + 0, 0, 0, 270, 0, [.val (.ref 128), .val (.int p1)], [], (126, 120, L, [Y, T, HA, HB, RA, RB, ST, NS, I0, I1, I2, BO, FI, RG, GU, PU, MA, MN, MS, OT, SC], [r0, r1, r2, r3, w, r5, r6, r7, r8], Lg)) ((0, some (.int r), (126, 120, L, [Y, T, HA, HB, RA, RB, ST, NS, I0, I1, I2, BO, FI, RG, GU, PU, MA, MN, MS, OT, SC], [r0, r1, r2, r3, w, r5, r6, r7, r8], Lg)) : AOut) := by
  suffices key : ∀ o : AOut, ((0, some (.int r), (126, 120, L, [Y, T, HA, HB, RA, RB, ST, NS, I0, I1, I2, BO, FI, RG, GU, PU, MA, MN, MS, OT, SC], [r0, r1, r2, r3, w, r5, r6, r7, r8], Lg)) : AOut) = o → Ev (d + 0, 0, 0, 270, 0, [.val (.ref 128), .val (.int p1)], [], (126, 120, L, [Y, T, HA, HB, RA, RB, ST, NS, I0, I1, I2, BO, FI, RG, GU, PU, MA, MN, MS, OT, SC], [r0, r1, r2, r3, w, r5, r6, r7, r8], Lg)) o from key _ rfl
  intro o ho
  by_cases zc1 : (T 0 3) ≠ 3
  · have h := itp h zc1
    suffices e : Ev (d + 0, 0, 0, 270, 20, [.val (.ref 128), .val (.int p1)], [], (126, 120, L, [Y, T, HA, HB, RA, RB, ST, NS, I0, I1, I2, BO, FI, RG, GU, PU, MA, MN, MS, OT, SC], [r0, r1, r2, r3, w, r5, r6, r7, r8], Lg)) o from ev_t (c := (T 0 3) ≠ 3) _ _ 4  zc1 e (fun n => Eq.refl _)
    have ze2 := Option.some.inj h
    subst ze2
    exact ev_rete 2 ho (fun n => Eq.refl _)
  · have h := itn h zc1
    suffices e : Ev (d + 0, 0, 0, 270, 8, [.val (.ref 128), .val (.int p1)], [], (126, 120, L, [Y, T, HA, HB, RA, RB, ST, NS, I0, I1, I2, BO, FI, RG, GU, PU, MA, MN, MS, OT, SC], [r0, r1, r2, r3, w, r5, r6, r7, r8], Lg)) o from ev_f (c := (T 0 3) ≠ 3) _ _ 4  zc1 e (fun n => Eq.refl _)
    by_cases zc3 : (T 0 6) ≠ p1
    · have h := itp h zc3
      suffices e : Ev (d + 0, 0, 0, 270, 20, [.val (.ref 128), .val (.int p1)], [], (126, 120, L, [Y, T, HA, HB, RA, RB, ST, NS, I0, I1, I2, BO, FI, RG, GU, PU, MA, MN, MS, OT, SC], [r0, r1, r2, r3, w, r5, r6, r7, r8], Lg)) o from ev_t (c := (T 0 6) ≠ p1) _ _ 4  zc3 e (fun n => Eq.refl _)
      have ze4 := Option.some.inj h
      subst ze4
      exact ev_rete 2 ho (fun n => Eq.refl _)
    · have h := itn h zc3
      suffices e : Ev (d + 0, 0, 0, 270, 16, [.val (.ref 128), .val (.int p1)], [], (126, 120, L, [Y, T, HA, HB, RA, RB, ST, NS, I0, I1, I2, BO, FI, RG, GU, PU, MA, MN, MS, OT, SC], [r0, r1, r2, r3, w, r5, r6, r7, r8], Lg)) o from ev_f (c := (T 0 6) ≠ p1) _ _ 4  zc3 e (fun n => Eq.refl _)
      have ze5 := Option.some.inj h
      subst ze5
      exact ev_rete 3 ho (fun n => Eq.refl _)
set_option maxRecDepth 1000000 in
set_option maxHeartbeats 4000000 in
theorem R_f_Tape_pass_0 (d : Nat) (Y T HA HB RA RB ST NS I0 I1 I2 BO FI RG GU PU MA MN MS OT SC : Nat → Nat → Int32) (r0 r1 r2 r3 w r5 r6 r7 r8 : Nat) (L : Nat) (Lg : Int64) (p1 : Int32) {r : Int32 × (Nat → Nat → Int32) × Nat} (h : f_Tape_pass T w p1 = some r) : Ev (d + 6, 0, 0, 278, 0, [.val (.ref 128), .val (.int p1)], [], (126, 120, L, [Y, T, HA, HB, RA, RB, ST, NS, I0, I1, I2, BO, FI, RG, GU, PU, MA, MN, MS, OT, SC], [r0, r1, r2, r3, w, r5, r6, r7, r8], Lg)) ((0, some (.int r.1), (126, 120, L, [Y, r.2.1, HA, HB, RA, RB, ST, NS, I0, I1, I2, BO, FI, RG, GU, PU, MA, MN, MS, OT, SC], [r0, r1, r2, r3, r.2.2, r5, r6, r7, r8], Lg)) : AOut) := by
  suffices key : ∀ o : AOut, ((0, some (.int r.1), (126, 120, L, [Y, r.2.1, HA, HB, RA, RB, ST, NS, I0, I1, I2, BO, FI, RG, GU, PU, MA, MN, MS, OT, SC], [r0, r1, r2, r3, r.2.2, r5, r6, r7, r8], Lg)) : AOut) = o → Ev (d + 6, 0, 0, 278, 0, [.val (.ref 128), .val (.int p1)], [], (126, 120, L, [Y, T, HA, HB, RA, RB, ST, NS, I0, I1, I2, BO, FI, RG, GU, PU, MA, MN, MS, OT, SC], [r0, r1, r2, r3, w, r5, r6, r7, r8], Lg)) o from key _ rfl
  intro o ho
  obtain ⟨x1, zh1, h⟩ := bnd h
  have zh1 : f_Tape_failed T = some x1 := zh1
  have ze2 := R_f_Tape_failed_0 (d + 5) Y T HA HB RA RB ST NS I0 I1 I2 BO FI RG GU PU MA MN MS OT SC r0 r1 r2 r3 w r5 r6 r7 r8 L Lg zh1
  suffices e : Ev (d + 6, 0, 0, 278, 4, [.val (.ref 128), .val (.int p1)], [.int x1], (126, 120, L, [Y, T, HA, HB, RA, RB, ST, NS, I0, I1, I2, BO, FI, RG, GU, PU, MA, MN, MS, OT, SC], [r0, r1, r2, r3, w, r5, r6, r7, r8], Lg)) o from ev_call (fun v μ => (d + 6, 0, 0, 278, 4, [.val (.ref 128), .val (.int p1)], v.toList ++ [], μ)) 2 ze2 e (fun n => Eq.refl _)
  by_cases zc3 : x1 = 0
  · have h := itp h zc3
    suffices e : Ev (d + 6, 0, 0, 278, 9, [.val (.ref 128), .val (.int p1)], [], (126, 120, L, [Y, T, HA, HB, RA, RB, ST, NS, I0, I1, I2, BO, FI, RG, GU, PU, MA, MN, MS, OT, SC], [r0, r1, r2, r3, w, r5, r6, r7, r8], Lg)) o from ev_t (c := x1 = 0) _ _ 1  zc3 e (fun n => Eq.refl _)
    obtain ⟨x2, zh4, h⟩ := bnd h
    have zh4 : f_Tape_atSign T p1 = some x2 := zh4
    have ze5 := R_f_Tape_atSign_0 (d + 5) Y T HA HB RA RB ST NS I0 I1 I2 BO FI RG GU PU MA MN MS OT SC r0 r1 r2 r3 w r5 r6 r7 r8 L Lg p1 zh4
    suffices e : Ev (d + 6, 0, 0, 278, 14, [.val (.ref 128), .val (.int p1)], [.int x2], (126, 120, L, [Y, T, HA, HB, RA, RB, ST, NS, I0, I1, I2, BO, FI, RG, GU, PU, MA, MN, MS, OT, SC], [r0, r1, r2, r3, w, r5, r6, r7, r8], Lg)) o from ev_call (fun v μ => (d + 6, 0, 0, 278, 14, [.val (.ref 128), .val (.int p1)], v.toList ++ [], μ)) 3 ze5 e (fun n => Eq.refl _)
    by_cases zc6 : x2 ≠ 0
    · have h := itp h zc6
      suffices e : Ev (d + 6, 0, 0, 278, 24, [.val (.ref 128), .val (.int p1)], [], (126, 120, L, [Y, T, HA, HB, RA, RB, ST, NS, I0, I1, I2, BO, FI, RG, GU, PU, MA, MN, MS, OT, SC], [r0, r1, r2, r3, w, r5, r6, r7, r8], Lg)) o from ev_t (c := x2 ≠ 0) _ _ 1  zc6 e (fun n => Eq.refl _)
      obtain ⟨⟨T_3, w4⟩, zh7, h⟩ := bnd h
      have zh7 : f_Tape_advance T = some (T_3, w4) := zh7
      have ze8 := R_f_Tape_advance_0 (d + 0) Y T HA HB RA RB ST NS I0 I1 I2 BO FI RG GU PU MA MN MS OT SC r0 r1 r2 r3 w r5 r6 r7 r8 L Lg zh7
      suffices e : Ev (d + 6, 0, 0, 278, 28, [.val (.ref 128), .val (.int p1)], [], (126, 120, L, [Y, T_3, HA, HB, RA, RB, ST, NS, I0, I1, I2, BO, FI, RG, GU, PU, MA, MN, MS, OT, SC], [r0, r1, r2, r3, w4, r5, r6, r7, r8], Lg)) o from ev_call (fun v μ => (d + 6, 0, 0, 278, 28, [.val (.ref 128), .val (.int p1)], v.toList ++ [], μ)) 2 ze8 e (fun n => Eq.refl _)
      have ze9 := Option.some.inj h
      subst ze9
      exact ev_rete 2 ho (fun n => Eq.refl _)
    · have h := itn h zc6
      suffices e : Ev (d + 6, 0, 0, 278, 17, [.val (.ref 128), .val (.int p1)], [], (126, 120, L, [Y, T, HA, HB, RA, RB, ST, NS, I0, I1, I2, BO, FI, RG, GU, PU, MA, MN, MS, OT, SC], [r0, r1, r2, r3, w, r5, r6, r7, r8], Lg)) o from ev_f (c := x2 ≠ 0) _ _ 1  zc6 e (fun n => Eq.refl _)
      obtain ⟨T_5, zh10, h⟩ := bnd h
      have zh10 : f_Tape_fail T 1 = some T_5 := zh10
      have ze11 := R_f_Tape_fail_0 (d + 5) Y T HA HB RA RB ST NS I0 I1 I2 BO FI RG GU PU MA MN MS OT SC r0 r1 r2 r3 w r5 r6 r7 r8 L Lg 1 zh10
      suffices e : Ev (d + 6, 0, 0, 278, 22, [.val (.ref 128), .val (.int p1)], [], (126, 120, L, [Y, T_5, HA, HB, RA, RB, ST, NS, I0, I1, I2, BO, FI, RG, GU, PU, MA, MN, MS, OT, SC], [r0, r1, r2, r3, w, r5, r6, r7, r8], Lg)) o from ev_call (fun v μ => (d + 6, 0, 0, 278, 22, [.val (.ref 128), .val (.int p1)], v.toList ++ [], μ)) 3 ze11 e (fun n => Eq.refl _)
      have ze12 := Option.some.inj h
      subst ze12
      exact ev_rete 2 ho (fun n => Eq.refl _)
  · have h := itn h zc3
    suffices e : Ev (d + 6, 0, 0, 278, 7, [.val (.ref 128), .val (.int p1)], [], (126, 120, L, [Y, T, HA, HB, RA, RB, ST, NS, I0, I1, I2, BO, FI, RG, GU, PU, MA, MN, MS, OT, SC], [r0, r1, r2, r3, w, r5, r6, r7, r8], Lg)) o from ev_f (c := x1 = 0) _ _ 1  zc3 e (fun n => Eq.refl _)
    have ze13 := Option.some.inj h
    subst ze13
    exact ev_rete 2 ho (fun n => Eq.refl _)
set_option maxRecDepth 1000000 in
set_option maxHeartbeats 4000000 in
theorem R_f_House_readHours_0 (d : Nat) (Y T H2 H RA RB ST NS I0 I1 I2 BO FI RG GU PU MA MN MS OT SC : Nat → Nat → Int32) (r0 r1 r2 r3 w r5 r6 r7 r8 : Nat) (L : Nat) (Lg : Int64) {r : (Nat → Nat → Int32) × (Nat → Nat → Int32) × Nat} (h : f_House_readHours T H w = some r) : Ev (d + 7, 0, 0, 205, 0, [.val (.ref 256), .val (.ref 128), .val a_unk], [], (126, 120, L, [Y, T, H2, H, RA, RB, ST, NS, I0, I1, I2, BO, FI, RG, GU, PU, MA, MN, MS, OT, SC], [r0, r1, r2, r3, w, r5, r6, r7, r8], Lg)) ((0, none, (126, 120, L, [Y, r.1, H2, r.2.1, RA, RB, ST, NS, I0, I1, I2, BO, FI, RG, GU, PU, MA, MN, MS, OT, SC], [r0, r1, r2, r3, r.2.2, r5, r6, r7, r8], Lg)) : AOut) := by
  suffices key : ∀ o : AOut, ((0, none, (126, 120, L, [Y, r.1, H2, r.2.1, RA, RB, ST, NS, I0, I1, I2, BO, FI, RG, GU, PU, MA, MN, MS, OT, SC], [r0, r1, r2, r3, r.2.2, r5, r6, r7, r8], Lg)) : AOut) = o → Ev (d + 7, 0, 0, 205, 0, [.val (.ref 256), .val (.ref 128), .val a_unk], [], (126, 120, L, [Y, T, H2, H, RA, RB, ST, NS, I0, I1, I2, BO, FI, RG, GU, PU, MA, MN, MS, OT, SC], [r0, r1, r2, r3, w, r5, r6, r7, r8], Lg)) o from key _ rfl
  intro o ho
  obtain ⟨⟨x1, T_2, w3⟩, zh1, h⟩ := bnd h
  have zh1 : f_Tape_number T w 1 10 = some (x1, T_2, w3) := zh1
  have ze2 := R_f_Tape_number_0 (d + 0) Y T H2 H RA RB ST NS I0 I1 I2 BO FI RG GU PU MA MN MS OT SC r0 r1 r2 r3 w r5 r6 r7 r8 L Lg 1 10 zh1
  suffices e : Ev (d + 7, 0, 0, 205, 7, [.val (.ref 256), .val (.ref 128), .val a_unk], [.int x1], (126, 120, L, [Y, T_2, H2, H, RA, RB, ST, NS, I0, I1, I2, BO, FI, RG, GU, PU, MA, MN, MS, OT, SC], [r0, r1, r2, r3, w3, r5, r6, r7, r8], Lg)) o from ev_call (fun v μ => (d + 7, 0, 0, 205, 7, [.val (.ref 256), .val (.ref 128), .val a_unk], v.toList ++ [], μ)) 4 ze2 e (fun n => Eq.refl _)
  obtain ⟨⟨x4, T_5, w6⟩, zh3, h⟩ := bnd h
  have zh3 : f_Tape_pass T_2 w3 59 = some (x4, T_5, w6) := zh3
  have ze4 := R_f_Tape_pass_0 (d + 0) Y T_2 H2 H RA RB ST NS I0 I1 I2 BO FI RG GU PU MA MN MS OT SC r0 r1 r2 r3 w3 r5 r6 r7 r8 L Lg 59 zh3
  suffices e : Ev (d + 7, 0, 0, 205, 14, [.val (.ref 256), .val (.ref 128), .val (.int x1)], [.int x4], (126, 120, L, [Y, T_5, H2, H, RA, RB, ST, NS, I0, I1, I2, BO, FI, RG, GU, PU, MA, MN, MS, OT, SC], [r0, r1, r2, r3, w6, r5, r6, r7, r8], Lg)) o from ev_call (fun v μ => (d + 7, 0, 0, 205, 14, [.val (.ref 256), .val (.ref 128), .val (.int x1)], v.toList ++ [], μ)) 4 ze4 e (fun n => Eq.refl _)
  by_cases zc5 : x4 = 0
  · have h := itp h zc5
    suffices e : Ev (d + 7, 0, 0, 205, 22, [.val (.ref 256), .val (.ref 128), .val (.int x1)], [], (126, 120, L, [Y, T_5, H2, H, RA, RB, ST, NS, I0, I1, I2, BO, FI, RG, GU, PU, MA, MN, MS, OT, SC], [r0, r1, r2, r3, w6, r5, r6, r7, r8], Lg)) o from ev_t (c := x4 = 0) _ _ 1  zc5 e (fun n => Eq.refl _)
    have ze6 := Option.some.inj h
    subst ze6
    exact ev_rete 1 ho (fun n => Eq.refl _)
  · have h := itn h zc5
    suffices e : Ev (d + 7, 0, 0, 205, 17, [.val (.ref 256), .val (.ref 128), .val (.int x1)], [], (126, 120, L, [Y, T_5, H2, H, RA, RB, ST, NS, I0, I1, I2, BO, FI, RG, GU, PU, MA, MN, MS, OT, SC], [r0, r1, r2, r3, w6, r5, r6, r7, r8], Lg)) o from ev_f (c := x4 = 0) _ _ 1  zc5 e (fun n => Eq.refl _)
    have ze7 := Option.some.inj h
    subst ze7
    exact ev_rete 4 ho (fun n => Eq.refl _)
set_option maxRecDepth 1000000 in
set_option maxHeartbeats 4000000 in
theorem R_f_House_readRoom_0 (d : Nat) (Y T H2 H RA RB ST NS I0 I1 I2 BO FI RG GU PU MA MN MS OT SC : Nat → Nat → Int32) (r0 r1 r2 r3 w r5 r6 r7 r8 : Nat) (L : Nat) (Lg : Int64) {r : (Nat → Nat → Int32) × (Nat → Nat → Int32) × Nat} (h : f_House_readRoom T H w = some r) : Ev (d + 7, 0, 0, 206, 0, [.val (.ref 256), .val (.ref 128), .val a_unk], [], (126, 120, L, [Y, T, H2, H, RA, RB, ST, NS, I0, I1, I2, BO, FI, RG, GU, PU, MA, MN, MS, OT, SC], [r0, r1, r2, r3, w, r5, r6, r7, r8], Lg)) ((0, none, (126, 120, L, [Y, r.1, H2, r.2.1, RA, RB, ST, NS, I0, I1, I2, BO, FI, RG, GU, PU, MA, MN, MS, OT, SC], [r0, r1, r2, r3, r.2.2, r5, r6, r7, r8], Lg)) : AOut) := by
  suffices key : ∀ o : AOut, ((0, none, (126, 120, L, [Y, r.1, H2, r.2.1, RA, RB, ST, NS, I0, I1, I2, BO, FI, RG, GU, PU, MA, MN, MS, OT, SC], [r0, r1, r2, r3, r.2.2, r5, r6, r7, r8], Lg)) : AOut) = o → Ev (d + 7, 0, 0, 206, 0, [.val (.ref 256), .val (.ref 128), .val a_unk], [], (126, 120, L, [Y, T, H2, H, RA, RB, ST, NS, I0, I1, I2, BO, FI, RG, GU, PU, MA, MN, MS, OT, SC], [r0, r1, r2, r3, w, r5, r6, r7, r8], Lg)) o from key _ rfl
  intro o ho
  obtain ⟨⟨x1, T_2, w3⟩, zh1, h⟩ := bnd h
  have zh1 : f_Tape_number T w 0 20 = some (x1, T_2, w3) := zh1
  have ze2 := R_f_Tape_number_0 (d + 0) Y T H2 H RA RB ST NS I0 I1 I2 BO FI RG GU PU MA MN MS OT SC r0 r1 r2 r3 w r5 r6 r7 r8 L Lg 0 20 zh1
  suffices e : Ev (d + 7, 0, 0, 206, 7, [.val (.ref 256), .val (.ref 128), .val a_unk], [.int x1], (126, 120, L, [Y, T_2, H2, H, RA, RB, ST, NS, I0, I1, I2, BO, FI, RG, GU, PU, MA, MN, MS, OT, SC], [r0, r1, r2, r3, w3, r5, r6, r7, r8], Lg)) o from ev_call (fun v μ => (d + 7, 0, 0, 206, 7, [.val (.ref 256), .val (.ref 128), .val a_unk], v.toList ++ [], μ)) 4 ze2 e (fun n => Eq.refl _)
  obtain ⟨⟨x4, T_5, w6⟩, zh3, h⟩ := bnd h
  have zh3 : f_Tape_pass T_2 w3 59 = some (x4, T_5, w6) := zh3
  have ze4 := R_f_Tape_pass_0 (d + 0) Y T_2 H2 H RA RB ST NS I0 I1 I2 BO FI RG GU PU MA MN MS OT SC r0 r1 r2 r3 w3 r5 r6 r7 r8 L Lg 59 zh3
  suffices e : Ev (d + 7, 0, 0, 206, 14, [.val (.ref 256), .val (.ref 128), .val (.int x1)], [.int x4], (126, 120, L, [Y, T_5, H2, H, RA, RB, ST, NS, I0, I1, I2, BO, FI, RG, GU, PU, MA, MN, MS, OT, SC], [r0, r1, r2, r3, w6, r5, r6, r7, r8], Lg)) o from ev_call (fun v μ => (d + 7, 0, 0, 206, 14, [.val (.ref 256), .val (.ref 128), .val (.int x1)], v.toList ++ [], μ)) 4 ze4 e (fun n => Eq.refl _)
  by_cases zc5 : x4 = 0
  · have h := itp h zc5
    suffices e : Ev (d + 7, 0, 0, 206, 45, [.val (.ref 256), .val (.ref 128), .val (.int x1)], [], (126, 120, L, [Y, T_5, H2, H, RA, RB, ST, NS, I0, I1, I2, BO, FI, RG, GU, PU, MA, MN, MS, OT, SC], [r0, r1, r2, r3, w6, r5, r6, r7, r8], Lg)) o from ev_t (c := x4 = 0) _ _ 1  zc5 e (fun n => Eq.refl _)
    have ze6 := Option.some.inj h
    subst ze6
    exact ev_rete 1 ho (fun n => Eq.refl _)
  · have h := itn h zc5
    suffices e : Ev (d + 7, 0, 0, 206, 17, [.val (.ref 256), .val (.ref 128), .val (.int x1)], [], (126, 120, L, [Y, T_5, H2, H, RA, RB, ST, NS, I0, I1, I2, BO, FI, RG, GU, PU, MA, MN, MS, OT, SC], [r0, r1, r2, r3, w6, r5, r6, r7, r8], Lg)) o from ev_f (c := x4 = 0) _ _ 1  zc5 e (fun n => Eq.refl _)
    by_cases zc7 : 3 ≤ (H 0 1)
    · have h := itp h zc7
      suffices e : Ev (d + 7, 0, 0, 206, 45, [.val (.ref 256), .val (.ref 128), .val (.int x1)], [], (126, 120, L, [Y, T_5, H2, H, RA, RB, ST, NS, I0, I1, I2, BO, FI, RG, GU, PU, MA, MN, MS, OT, SC], [r0, r1, r2, r3, w6, r5, r6, r7, r8], Lg)) o from ev_t (c := 3 ≤ (H 0 1)) _ _ 4  zc7 e (fun n => Eq.refl _)
      have ze8 := Option.some.inj h
      subst ze8
      exact ev_rete 1 ho (fun n => Eq.refl _)
    · have h := itn h zc7
      suffices e : Ev (d + 7, 0, 0, 206, 25, [.val (.ref 256), .val (.ref 128), .val (.int x1)], [], (126, 120, L, [Y, T_5, H2, H, RA, RB, ST, NS, I0, I1, I2, BO, FI, RG, GU, PU, MA, MN, MS, OT, SC], [r0, r1, r2, r3, w6, r5, r6, r7, r8], Lg)) o from ev_f (c := 3 ≤ (H 0 1)) _ _ 4  zc7 e (fun n => Eq.refl _)
      obtain ⟨j7, zh9, h⟩ := bnd h
      have zh9 : ixx 3 (H 0 1) = some j7 := zh9
      suffices e : Ev (d + 7, 0, 0, 206, 35, [.val (.ref 256), .val (.ref 128), .val (.int x1)], [], (126, 120, L, [Y, T_5, H2, (u2 H 1 j7 x1), RA, RB, ST, NS, I0, I1, I2, BO, FI, RG, GU, PU, MA, MN, MS, OT, SC], [r0, r1, r2, r3, w6, r5, r6, r7, r8], Lg)) o from ev_opt (fun j7 => (d + 7, 0, 0, 206, 35, [.val (.ref 256), .val (.ref 128), .val (.int x1)], [], (126, 120, L, [Y, T_5, H2, (u2 H 1 j7 x1), RA, RB, ST, NS, I0, I1, I2, BO, FI, RG, GU, PU, MA, MN, MS, OT, SC], [r0, r1, r2, r3, w6, r5, r6, r7, r8], Lg))) 6 zh9 e (fun n => Eq.refl _)
      have ze10 := Option.some.inj h
      subst ze10
      exact ev_rete 7 ho (fun n => Eq.refl _)
set_option maxRecDepth 1000000 in
set_option maxHeartbeats 4000000 in
theorem R_f_House_readPerson_0 (d : Nat) (Y T H2 H RA RB ST NS I0 I1 I2 BO FI RG GU PU MA MN MS OT SC : Nat → Nat → Int32) (r0 r1 r2 r3 w r5 r6 r7 r8 : Nat) (L : Nat) (Lg : Int64) {r : (Nat → Nat → Int32) × (Nat → Nat → Int32) × Nat} (h : f_House_readPerson T H w = some r) : Ev (d + 7, 0, 0, 207, 0, [.val (.ref 256), .val (.ref 128), .val a_unk, .val a_unk], [], (126, 120, L, [Y, T, H2, H, RA, RB, ST, NS, I0, I1, I2, BO, FI, RG, GU, PU, MA, MN, MS, OT, SC], [r0, r1, r2, r3, w, r5, r6, r7, r8], Lg)) ((0, none, (126, 120, L, [Y, r.1, H2, r.2.1, RA, RB, ST, NS, I0, I1, I2, BO, FI, RG, GU, PU, MA, MN, MS, OT, SC], [r0, r1, r2, r3, r.2.2, r5, r6, r7, r8], Lg)) : AOut) := by
  suffices key : ∀ o : AOut, ((0, none, (126, 120, L, [Y, r.1, H2, r.2.1, RA, RB, ST, NS, I0, I1, I2, BO, FI, RG, GU, PU, MA, MN, MS, OT, SC], [r0, r1, r2, r3, r.2.2, r5, r6, r7, r8], Lg)) : AOut) = o → Ev (d + 7, 0, 0, 207, 0, [.val (.ref 256), .val (.ref 128), .val a_unk, .val a_unk], [], (126, 120, L, [Y, T, H2, H, RA, RB, ST, NS, I0, I1, I2, BO, FI, RG, GU, PU, MA, MN, MS, OT, SC], [r0, r1, r2, r3, w, r5, r6, r7, r8], Lg)) o from key _ rfl
  intro o ho
  obtain ⟨⟨x1, T_2, w3⟩, zh1, h⟩ := bnd h
  have zh1 : f_Tape_number T w 0 9 = some (x1, T_2, w3) := zh1
  have ze2 := R_f_Tape_number_0 (d + 0) Y T H2 H RA RB ST NS I0 I1 I2 BO FI RG GU PU MA MN MS OT SC r0 r1 r2 r3 w r5 r6 r7 r8 L Lg 0 9 zh1
  suffices e : Ev (d + 7, 0, 0, 207, 7, [.val (.ref 256), .val (.ref 128), .val a_unk, .val a_unk], [.int x1], (126, 120, L, [Y, T_2, H2, H, RA, RB, ST, NS, I0, I1, I2, BO, FI, RG, GU, PU, MA, MN, MS, OT, SC], [r0, r1, r2, r3, w3, r5, r6, r7, r8], Lg)) o from ev_call (fun v μ => (d + 7, 0, 0, 207, 7, [.val (.ref 256), .val (.ref 128), .val a_unk, .val a_unk], v.toList ++ [], μ)) 4 ze2 e (fun n => Eq.refl _)
  obtain ⟨⟨x4, T_5, w6⟩, zh3, h⟩ := bnd h
  have zh3 : f_Tape_number T_2 w3 0 9 = some (x4, T_5, w6) := zh3
  have ze4 := R_f_Tape_number_0 (d + 0) Y T_2 H2 H RA RB ST NS I0 I1 I2 BO FI RG GU PU MA MN MS OT SC r0 r1 r2 r3 w3 r5 r6 r7 r8 L Lg 0 9 zh3
  suffices e : Ev (d + 7, 0, 0, 207, 15, [.val (.ref 256), .val (.ref 128), .val (.int x1), .val a_unk], [.int x4], (126, 120, L, [Y, T_5, H2, H, RA, RB, ST, NS, I0, I1, I2, BO, FI, RG, GU, PU, MA, MN, MS, OT, SC], [r0, r1, r2, r3, w6, r5, r6, r7, r8], Lg)) o from ev_call (fun v μ => (d + 7, 0, 0, 207, 15, [.val (.ref 256), .val (.ref 128), .val (.int x1), .val a_unk], v.toList ++ [], μ)) 5 ze4 e (fun n => Eq.refl _)
  obtain ⟨⟨x7, T_8, w9⟩, zh5, h⟩ := bnd h
  have zh5 : f_Tape_pass T_5 w6 59 = some (x7, T_8, w9) := zh5
  have ze6 := R_f_Tape_pass_0 (d + 0) Y T_5 H2 H RA RB ST NS I0 I1 I2 BO FI RG GU PU MA MN MS OT SC r0 r1 r2 r3 w6 r5 r6 r7 r8 L Lg 59 zh5
  suffices e : Ev (d + 7, 0, 0, 207, 22, [.val (.ref 256), .val (.ref 128), .val (.int x1), .val (.int x4)], [.int x7], (126, 120, L, [Y, T_8, H2, H, RA, RB, ST, NS, I0, I1, I2, BO, FI, RG, GU, PU, MA, MN, MS, OT, SC], [r0, r1, r2, r3, w9, r5, r6, r7, r8], Lg)) o from ev_call (fun v μ => (d + 7, 0, 0, 207, 22, [.val (.ref 256), .val (.ref 128), .val (.int x1), .val (.int x4)], v.toList ++ [], μ)) 4 ze6 e (fun n => Eq.refl _)
  by_cases zc7 : x7 = 0
  · have h := itp h zc7
    suffices e : Ev (d + 7, 0, 0, 207, 64, [.val (.ref 256), .val (.ref 128), .val (.int x1), .val (.int x4)], [], (126, 120, L, [Y, T_8, H2, H, RA, RB, ST, NS, I0, I1, I2, BO, FI, RG, GU, PU, MA, MN, MS, OT, SC], [r0, r1, r2, r3, w9, r5, r6, r7, r8], Lg)) o from ev_t (c := x7 = 0) _ _ 1  zc7 e (fun n => Eq.refl _)
    have ze8 := Option.some.inj h
    subst ze8
    exact ev_rete 1 ho (fun n => Eq.refl _)
  · have h := itn h zc7
    suffices e : Ev (d + 7, 0, 0, 207, 25, [.val (.ref 256), .val (.ref 128), .val (.int x1), .val (.int x4)], [], (126, 120, L, [Y, T_8, H2, H, RA, RB, ST, NS, I0, I1, I2, BO, FI, RG, GU, PU, MA, MN, MS, OT, SC], [r0, r1, r2, r3, w9, r5, r6, r7, r8], Lg)) o from ev_f (c := x7 = 0) _ _ 1  zc7 e (fun n => Eq.refl _)
    by_cases zc9 : 8 ≤ (H 0 2)
    · have h := itp h zc9
      suffices e : Ev (d + 7, 0, 0, 207, 64, [.val (.ref 256), .val (.ref 128), .val (.int x1), .val (.int x4)], [], (126, 120, L, [Y, T_8, H2, H, RA, RB, ST, NS, I0, I1, I2, BO, FI, RG, GU, PU, MA, MN, MS, OT, SC], [r0, r1, r2, r3, w9, r5, r6, r7, r8], Lg)) o from ev_t (c := 8 ≤ (H 0 2)) _ _ 4  zc9 e (fun n => Eq.refl _)
      have ze10 := Option.some.inj h
      subst ze10
      exact ev_rete 1 ho (fun n => Eq.refl _)
    · have h := itn h zc9
      suffices e : Ev (d + 7, 0, 0, 207, 34, [.val (.ref 256), .val (.ref 128), .val (.int x1), .val (.int x4)], [], (126, 120, L, [Y, T_8, H2, H, RA, RB, ST, NS, I0, I1, I2, BO, FI, RG, GU, PU, MA, MN, MS, OT, SC], [r0, r1, r2, r3, w9, r5, r6, r7, r8], Lg)) o from ev_f (c := 8 ≤ (H 0 2)) _ _ 4  zc9 e (fun n => Eq.refl _)
      obtain ⟨j10, zh11, h⟩ := bnd h
      have zh11 : ixx 8 (H 0 2) = some j10 := zh11
      suffices e : Ev (d + 7, 0, 0, 207, 44, [.val (.ref 256), .val (.ref 128), .val (.int x1), .val (.int x4)], [], (126, 120, L, [Y, T_8, H2, (u2 H 2 j10 x1), RA, RB, ST, NS, I0, I1, I2, BO, FI, RG, GU, PU, MA, MN, MS, OT, SC], [r0, r1, r2, r3, w9, r5, r6, r7, r8], Lg)) o from ev_opt (fun j10 => (d + 7, 0, 0, 207, 44, [.val (.ref 256), .val (.ref 128), .val (.int x1), .val (.int x4)], [], (126, 120, L, [Y, T_8, H2, (u2 H 2 j10 x1), RA, RB, ST, NS, I0, I1, I2, BO, FI, RG, GU, PU, MA, MN, MS, OT, SC], [r0, r1, r2, r3, w9, r5, r6, r7, r8], Lg))) 6 zh11 e (fun n => Eq.refl _)
      obtain ⟨j11, zh12, h⟩ := bnd h
      have zh12 : ixx 8 ((u2 H 2 j10 x1) 0 2) = some j11 := zh12
      suffices e : Ev (d + 7, 0, 0, 207, 54, [.val (.ref 256), .val (.ref 128), .val (.int x1), .val (.int x4)], [], (126, 120, L, [Y, T_8, H2, (u2 (u2 H 2 j10 x1) 3 j11 x4), RA, RB, ST, NS, I0, I1, I2, BO, FI, RG, GU, PU, MA, MN, MS, OT, SC], [r0, r1, r2, r3, w9, r5, r6, r7, r8], Lg)) o from ev_opt (fun j11 => (d + 7, 0, 0, 207, 54, [.val (.ref 256), .val (.ref 128), .val (.int x1), .val (.int x4)], [], (126, 120, L, [Y, T_8, H2, (u2 (u2 H 2 j10 x1) 3 j11 x4), RA, RB, ST, NS, I0, I1, I2, BO, FI, RG, GU, PU, MA, MN, MS, OT, SC], [r0, r1, r2, r3, w9, r5, r6, r7, r8], Lg))) 6 zh12 e (fun n => Eq.refl _)
      have ze13 := Option.some.inj h
      subst ze13
      exact ev_rete 7 ho (fun n => Eq.refl _)
set_option maxRecDepth 1000000 in
set_option maxHeartbeats 4000000 in
theorem R_f_Y_placeOf_0 (d : Nat) (Y T HA HB RA RB ST NS I0 I1 I2 BO FI RG GU PU MA MN MS OT SC : Nat → Nat → Int32) (r0 r1 r2 r3 w r5 r6 r7 r8 : Nat) (L : Nat) (Lg : Int64) (p0 : Int32) (p1 : Int32) {r : Int32} (h : f_Y_placeOf p0 p1 = some r) : Ev (d + 0, 0, 0, 345, 0, [.val (.int p0), .val (.int p1)], [], (126, 120, L, [Y, T, HA, HB, RA, RB, ST, NS, I0, I1, I2, BO, FI, RG, GU, PU, MA, MN, MS, OT, SC], [r0, r1, r2, r3, w, r5, r6, r7, r8], Lg)) ((0, some (.int r), (126, 120, L, [Y, T, HA, HB, RA, RB, ST, NS, I0, I1, I2, BO, FI, RG, GU, PU, MA, MN, MS, OT, SC], [r0, r1, r2, r3, w, r5, r6, r7, r8], Lg)) : AOut) := by
  suffices key : ∀ o : AOut, ((0, some (.int r), (126, 120, L, [Y, T, HA, HB, RA, RB, ST, NS, I0, I1, I2, BO, FI, RG, GU, PU, MA, MN, MS, OT, SC], [r0, r1, r2, r3, w, r5, r6, r7, r8], Lg)) : AOut) = o → Ev (d + 0, 0, 0, 345, 0, [.val (.int p0), .val (.int p1)], [], (126, 120, L, [Y, T, HA, HB, RA, RB, ST, NS, I0, I1, I2, BO, FI, RG, GU, PU, MA, MN, MS, OT, SC], [r0, r1, r2, r3, w, r5, r6, r7, r8], Lg)) o from key _ rfl
  intro o ho
  have ze1 := Option.some.inj h
  subst ze1
  exact ev_rete 6 ho (fun n => Eq.refl _)
set_option maxRecDepth 1000000 in
set_option maxHeartbeats 4000000 in
theorem R_f_House_readMeet_0 (d : Nat) (Y T H2 H RA RB ST NS I0 I1 I2 BO FI RG GU PU MA MN MS OT SC : Nat → Nat → Int32) (r0 r1 r2 r3 w r5 r6 r7 r8 : Nat) (L : Nat) (Lg : Int64) {r : (Nat → Nat → Int32) × (Nat → Nat → Int32) × Nat} (h : f_House_readMeet T H w = some r) : Ev (d + 7, 0, 0, 209, 0, [.val (.ref 256), .val (.ref 128), .val a_unk, .val a_unk, .val a_unk], [], (126, 120, L, [Y, T, H2, H, RA, RB, ST, NS, I0, I1, I2, BO, FI, RG, GU, PU, MA, MN, MS, OT, SC], [r0, r1, r2, r3, w, r5, r6, r7, r8], Lg)) ((0, none, (126, 120, L, [Y, r.1, H2, r.2.1, RA, RB, ST, NS, I0, I1, I2, BO, FI, RG, GU, PU, MA, MN, MS, OT, SC], [r0, r1, r2, r3, r.2.2, r5, r6, r7, r8], Lg)) : AOut) := by
  suffices key : ∀ o : AOut, ((0, none, (126, 120, L, [Y, r.1, H2, r.2.1, RA, RB, ST, NS, I0, I1, I2, BO, FI, RG, GU, PU, MA, MN, MS, OT, SC], [r0, r1, r2, r3, r.2.2, r5, r6, r7, r8], Lg)) : AOut) = o → Ev (d + 7, 0, 0, 209, 0, [.val (.ref 256), .val (.ref 128), .val a_unk, .val a_unk, .val a_unk], [], (126, 120, L, [Y, T, H2, H, RA, RB, ST, NS, I0, I1, I2, BO, FI, RG, GU, PU, MA, MN, MS, OT, SC], [r0, r1, r2, r3, w, r5, r6, r7, r8], Lg)) o from key _ rfl
  intro o ho
  obtain ⟨⟨x1, T_2, w3⟩, zh1, h⟩ := bnd h
  have zh1 : f_Tape_number T w 0 ((H 0 0) - 1) = some (x1, T_2, w3) := zh1
  have ze2 := R_f_Tape_number_0 (d + 0) Y T H2 H RA RB ST NS I0 I1 I2 BO FI RG GU PU MA MN MS OT SC r0 r1 r2 r3 w r5 r6 r7 r8 L Lg 0 ((H 0 0) - 1) zh1
  suffices e : Ev (d + 7, 0, 0, 209, 11, [.val (.ref 256), .val (.ref 128), .val a_unk, .val a_unk, .val a_unk], [.int x1], (126, 120, L, [Y, T_2, H2, H, RA, RB, ST, NS, I0, I1, I2, BO, FI, RG, GU, PU, MA, MN, MS, OT, SC], [r0, r1, r2, r3, w3, r5, r6, r7, r8], Lg)) o from ev_call (fun v μ => (d + 7, 0, 0, 209, 11, [.val (.ref 256), .val (.ref 128), .val a_unk, .val a_unk, .val a_unk], v.toList ++ [], μ)) 7 ze2 e (fun n => Eq.refl _)
  obtain ⟨⟨x4, T_5, w6⟩, zh3, h⟩ := bnd h
  have zh3 : f_Tape_number T_2 w3 0 ((H 0 1) - 1) = some (x4, T_5, w6) := zh3
  have ze4 := R_f_Tape_number_0 (d + 0) Y T_2 H2 H RA RB ST NS I0 I1 I2 BO FI RG GU PU MA MN MS OT SC r0 r1 r2 r3 w3 r5 r6 r7 r8 L Lg 0 ((H 0 1) - 1) zh3
  suffices e : Ev (d + 7, 0, 0, 209, 23, [.val (.ref 256), .val (.ref 128), .val (.int x1), .val a_unk, .val a_unk], [.int x4], (126, 120, L, [Y, T_5, H2, H, RA, RB, ST, NS, I0, I1, I2, BO, FI, RG, GU, PU, MA, MN, MS, OT, SC], [r0, r1, r2, r3, w6, r5, r6, r7, r8], Lg)) o from ev_call (fun v μ => (d + 7, 0, 0, 209, 23, [.val (.ref 256), .val (.ref 128), .val (.int x1), .val a_unk, .val a_unk], v.toList ++ [], μ)) 8 ze4 e (fun n => Eq.refl _)
  obtain ⟨⟨x7, T_8, w9⟩, zh5, h⟩ := bnd h
  have zh5 : f_Tape_number T_5 w6 0 99 = some (x7, T_8, w9) := zh5
  have ze6 := R_f_Tape_number_0 (d + 0) Y T_5 H2 H RA RB ST NS I0 I1 I2 BO FI RG GU PU MA MN MS OT SC r0 r1 r2 r3 w6 r5 r6 r7 r8 L Lg 0 99 zh5
  suffices e : Ev (d + 7, 0, 0, 209, 31, [.val (.ref 256), .val (.ref 128), .val (.int x1), .val (.int x4), .val a_unk], [.int x7], (126, 120, L, [Y, T_8, H2, H, RA, RB, ST, NS, I0, I1, I2, BO, FI, RG, GU, PU, MA, MN, MS, OT, SC], [r0, r1, r2, r3, w9, r5, r6, r7, r8], Lg)) o from ev_call (fun v μ => (d + 7, 0, 0, 209, 31, [.val (.ref 256), .val (.ref 128), .val (.int x1), .val (.int x4), .val a_unk], v.toList ++ [], μ)) 5 ze6 e (fun n => Eq.refl _)
  obtain ⟨⟨x10, T_11, w12⟩, zh7, h⟩ := bnd h
  have zh7 : f_Tape_pass T_8 w9 59 = some (x10, T_11, w12) := zh7
  have ze8 := R_f_Tape_pass_0 (d + 0) Y T_8 H2 H RA RB ST NS I0 I1 I2 BO FI RG GU PU MA MN MS OT SC r0 r1 r2 r3 w9 r5 r6 r7 r8 L Lg 59 zh7
  suffices e : Ev (d + 7, 0, 0, 209, 39, [.val (.ref 256), .val (.ref 128), .val (.int x1), .val (.int x4), .val (.int x7)], [.int x10], (126, 120, L, [Y, T_11, H2, H, RA, RB, ST, NS, I0, I1, I2, BO, FI, RG, GU, PU, MA, MN, MS, OT, SC], [r0, r1, r2, r3, w12, r5, r6, r7, r8], Lg)) o from ev_call (fun v μ => (d + 7, 0, 0, 209, 39, [.val (.ref 256), .val (.ref 128), .val (.int x1), .val (.int x4), .val (.int x7)], v.toList ++ [], μ)) 4 ze8 e (fun n => Eq.refl _)
  by_cases zc9 : x10 = 0
  · have h := itp h zc9
    suffices e : Ev (d + 7, 0, 0, 209, 86, [.val (.ref 256), .val (.ref 128), .val (.int x1), .val (.int x4), .val (.int x7)], [], (126, 120, L, [Y, T_11, H2, H, RA, RB, ST, NS, I0, I1, I2, BO, FI, RG, GU, PU, MA, MN, MS, OT, SC], [r0, r1, r2, r3, w12, r5, r6, r7, r8], Lg)) o from ev_t (c := x10 = 0) _ _ 1  zc9 e (fun n => Eq.refl _)
    have ze10 := Option.some.inj h
    subst ze10
    exact ev_rete 1 ho (fun n => Eq.refl _)
  · have h := itn h zc9
    suffices e : Ev (d + 7, 0, 0, 209, 42, [.val (.ref 256), .val (.ref 128), .val (.int x1), .val (.int x4), .val (.int x7)], [], (126, 120, L, [Y, T_11, H2, H, RA, RB, ST, NS, I0, I1, I2, BO, FI, RG, GU, PU, MA, MN, MS, OT, SC], [r0, r1, r2, r3, w12, r5, r6, r7, r8], Lg)) o from ev_f (c := x10 = 0) _ _ 1  zc9 e (fun n => Eq.refl _)
    by_cases zc11 : 10 ≤ (H 0 3)
    · have h := itp h zc11
      suffices e : Ev (d + 7, 0, 0, 209, 86, [.val (.ref 256), .val (.ref 128), .val (.int x1), .val (.int x4), .val (.int x7)], [], (126, 120, L, [Y, T_11, H2, H, RA, RB, ST, NS, I0, I1, I2, BO, FI, RG, GU, PU, MA, MN, MS, OT, SC], [r0, r1, r2, r3, w12, r5, r6, r7, r8], Lg)) o from ev_t (c := 10 ≤ (H 0 3)) _ _ 4  zc11 e (fun n => Eq.refl _)
      have ze12 := Option.some.inj h
      subst ze12
      exact ev_rete 1 ho (fun n => Eq.refl _)
    · have h := itn h zc11
      suffices e : Ev (d + 7, 0, 0, 209, 51, [.val (.ref 256), .val (.ref 128), .val (.int x1), .val (.int x4), .val (.int x7)], [], (126, 120, L, [Y, T_11, H2, H, RA, RB, ST, NS, I0, I1, I2, BO, FI, RG, GU, PU, MA, MN, MS, OT, SC], [r0, r1, r2, r3, w12, r5, r6, r7, r8], Lg)) o from ev_f (c := 10 ≤ (H 0 3)) _ _ 4  zc11 e (fun n => Eq.refl _)
      obtain ⟨x13, zh13, h⟩ := bnd h
      have zh13 : f_Y_placeOf x1 x4 = some x13 := zh13
      have ze14 := R_f_Y_placeOf_0 (d + 6) Y T_11 H2 H RA RB ST NS I0 I1 I2 BO FI RG GU PU MA MN MS OT SC r0 r1 r2 r3 w12 r5 r6 r7 r8 L Lg x1 x4 zh13
      suffices e : Ev (d + 7, 0, 0, 209, 64, [.val (.ref 256), .val (.ref 128), .val (.int x1), .val (.int x4), .val (.int x7)], [.int x13, .int (H 0 3), .ref 261], (126, 120, L, [Y, T_11, H2, H, RA, RB, ST, NS, I0, I1, I2, BO, FI, RG, GU, PU, MA, MN, MS, OT, SC], [r0, r1, r2, r3, w12, r5, r6, r7, r8], Lg)) o from ev_call (fun v μ => (d + 7, 0, 0, 209, 64, [.val (.ref 256), .val (.ref 128), .val (.int x1), .val (.int x4), .val (.int x7)], v.toList ++ [.int (H 0 3), .ref 261], μ)) 7 ze14 e (fun n => Eq.refl _)
      obtain ⟨j14, zh15, h⟩ := bnd h
      have zh15 : ixx 10 (H 0 3) = some j14 := zh15
      suffices e : Ev (d + 7, 0, 0, 209, 65, [.val (.ref 256), .val (.ref 128), .val (.int x1), .val (.int x4), .val (.int x7)], [], (126, 120, L, [Y, T_11, H2, (u2 H 5 j14 x13), RA, RB, ST, NS, I0, I1, I2, BO, FI, RG, GU, PU, MA, MN, MS, OT, SC], [r0, r1, r2, r3, w12, r5, r6, r7, r8], Lg)) o from ev_opt (fun j14 => (d + 7, 0, 0, 209, 65, [.val (.ref 256), .val (.ref 128), .val (.int x1), .val (.int x4), .val (.int x7)], [], (126, 120, L, [Y, T_11, H2, (u2 H 5 j14 x13), RA, RB, ST, NS, I0, I1, I2, BO, FI, RG, GU, PU, MA, MN, MS, OT, SC], [r0, r1, r2, r3, w12, r5, r6, r7, r8], Lg))) 1 zh15 e (fun n => Eq.refl _)
      obtain ⟨j15, zh16, h⟩ := bnd h
      have zh16 : ixx 10 ((u2 H 5 j14 x13) 0 3) = some j15 := zh16
      suffices e : Ev (d + 7, 0, 0, 209, 76, [.val (.ref 256), .val (.ref 128), .val (.int x1), .val (.int x4), .val (.int x7)], [], (126, 120, L, [Y, T_11, H2, (u2 (u2 H 5 j14 x13) 7 j15 x7), RA, RB, ST, NS, I0, I1, I2, BO, FI, RG, GU, PU, MA, MN, MS, OT, SC], [r0, r1, r2, r3, w12, r5, r6, r7, r8], Lg)) o from ev_opt (fun j15 => (d + 7, 0, 0, 209, 76, [.val (.ref 256), .val (.ref 128), .val (.int x1), .val (.int x4), .val (.int x7)], [], (126, 120, L, [Y, T_11, H2, (u2 (u2 H 5 j14 x13) 7 j15 x7), RA, RB, ST, NS, I0, I1, I2, BO, FI, RG, GU, PU, MA, MN, MS, OT, SC], [r0, r1, r2, r3, w12, r5, r6, r7, r8], Lg))) 6 zh16 e (fun n => Eq.refl _)
      have ze17 := Option.some.inj h
      subst ze17
      exact ev_rete 7 ho (fun n => Eq.refl _)
set_option maxRecDepth 1000000 in
set_option maxHeartbeats 4000000 in
theorem R_f_House_readHold_0 (d : Nat) (Y T H2 H RA RB ST NS I0 I1 I2 BO FI RG GU PU MA MN MS OT SC : Nat → Nat → Int32) (r0 r1 r2 r3 w r5 r6 r7 r8 : Nat) (L : Nat) (Lg : Int64) {r : (Nat → Nat → Int32) × (Nat → Nat → Int32) × Nat} (h : f_House_readHold T H w = some r) : Ev (d + 7, 0, 0, 210, 0, [.val (.ref 256), .val (.ref 128), .val a_unk, .val a_unk, .val a_unk, .val a_unk], [], (126, 120, L, [Y, T, H2, H, RA, RB, ST, NS, I0, I1, I2, BO, FI, RG, GU, PU, MA, MN, MS, OT, SC], [r0, r1, r2, r3, w, r5, r6, r7, r8], Lg)) ((0, none, (126, 120, L, [Y, r.1, H2, r.2.1, RA, RB, ST, NS, I0, I1, I2, BO, FI, RG, GU, PU, MA, MN, MS, OT, SC], [r0, r1, r2, r3, r.2.2, r5, r6, r7, r8], Lg)) : AOut) := by
  suffices key : ∀ o : AOut, ((0, none, (126, 120, L, [Y, r.1, H2, r.2.1, RA, RB, ST, NS, I0, I1, I2, BO, FI, RG, GU, PU, MA, MN, MS, OT, SC], [r0, r1, r2, r3, r.2.2, r5, r6, r7, r8], Lg)) : AOut) = o → Ev (d + 7, 0, 0, 210, 0, [.val (.ref 256), .val (.ref 128), .val a_unk, .val a_unk, .val a_unk, .val a_unk], [], (126, 120, L, [Y, T, H2, H, RA, RB, ST, NS, I0, I1, I2, BO, FI, RG, GU, PU, MA, MN, MS, OT, SC], [r0, r1, r2, r3, w, r5, r6, r7, r8], Lg)) o from key _ rfl
  intro o ho
  obtain ⟨⟨x1, T_2, w3⟩, zh1, h⟩ := bnd h
  have zh1 : f_Tape_number T w 0 ((H 0 0) - 1) = some (x1, T_2, w3) := zh1
  have ze2 := R_f_Tape_number_0 (d + 0) Y T H2 H RA RB ST NS I0 I1 I2 BO FI RG GU PU MA MN MS OT SC r0 r1 r2 r3 w r5 r6 r7 r8 L Lg 0 ((H 0 0) - 1) zh1
  suffices e : Ev (d + 7, 0, 0, 210, 11, [.val (.ref 256), .val (.ref 128), .val a_unk, .val a_unk, .val a_unk, .val a_unk], [.int x1], (126, 120, L, [Y, T_2, H2, H, RA, RB, ST, NS, I0, I1, I2, BO, FI, RG, GU, PU, MA, MN, MS, OT, SC], [r0, r1, r2, r3, w3, r5, r6, r7, r8], Lg)) o from ev_call (fun v μ => (d + 7, 0, 0, 210, 11, [.val (.ref 256), .val (.ref 128), .val a_unk, .val a_unk, .val a_unk, .val a_unk], v.toList ++ [], μ)) 7 ze2 e (fun n => Eq.refl _)
  obtain ⟨⟨x4, T_5, w6⟩, zh3, h⟩ := bnd h
  have zh3 : f_Tape_number T_2 w3 0 ((H 0 1) - 1) = some (x4, T_5, w6) := zh3
  have ze4 := R_f_Tape_number_0 (d + 0) Y T_2 H2 H RA RB ST NS I0 I1 I2 BO FI RG GU PU MA MN MS OT SC r0 r1 r2 r3 w3 r5 r6 r7 r8 L Lg 0 ((H 0 1) - 1) zh3
  suffices e : Ev (d + 7, 0, 0, 210, 23, [.val (.ref 256), .val (.ref 128), .val (.int x1), .val a_unk, .val a_unk, .val a_unk], [.int x4], (126, 120, L, [Y, T_5, H2, H, RA, RB, ST, NS, I0, I1, I2, BO, FI, RG, GU, PU, MA, MN, MS, OT, SC], [r0, r1, r2, r3, w6, r5, r6, r7, r8], Lg)) o from ev_call (fun v μ => (d + 7, 0, 0, 210, 23, [.val (.ref 256), .val (.ref 128), .val (.int x1), .val a_unk, .val a_unk, .val a_unk], v.toList ++ [], μ)) 8 ze4 e (fun n => Eq.refl _)
  obtain ⟨⟨x7, T_8, w9⟩, zh5, h⟩ := bnd h
  have zh5 : f_Tape_number T_5 w6 0 16 = some (x7, T_8, w9) := zh5
  have ze6 := R_f_Tape_number_0 (d + 0) Y T_5 H2 H RA RB ST NS I0 I1 I2 BO FI RG GU PU MA MN MS OT SC r0 r1 r2 r3 w6 r5 r6 r7 r8 L Lg 0 16 zh5
  suffices e : Ev (d + 7, 0, 0, 210, 31, [.val (.ref 256), .val (.ref 128), .val (.int x1), .val (.int x4), .val a_unk, .val a_unk], [.int x7], (126, 120, L, [Y, T_8, H2, H, RA, RB, ST, NS, I0, I1, I2, BO, FI, RG, GU, PU, MA, MN, MS, OT, SC], [r0, r1, r2, r3, w9, r5, r6, r7, r8], Lg)) o from ev_call (fun v μ => (d + 7, 0, 0, 210, 31, [.val (.ref 256), .val (.ref 128), .val (.int x1), .val (.int x4), .val a_unk, .val a_unk], v.toList ++ [], μ)) 5 ze6 e (fun n => Eq.refl _)
  obtain ⟨⟨x10, T_11, w12⟩, zh7, h⟩ := bnd h
  have zh7 : f_Tape_number T_8 w9 0 99 = some (x10, T_11, w12) := zh7
  have ze8 := R_f_Tape_number_0 (d + 0) Y T_8 H2 H RA RB ST NS I0 I1 I2 BO FI RG GU PU MA MN MS OT SC r0 r1 r2 r3 w9 r5 r6 r7 r8 L Lg 0 99 zh7
  suffices e : Ev (d + 7, 0, 0, 210, 40, [.val (.ref 256), .val (.ref 128), .val (.int x1), .val (.int x4), .val (.int x7), .val a_unk], [.int x10], (126, 120, L, [Y, T_11, H2, H, RA, RB, ST, NS, I0, I1, I2, BO, FI, RG, GU, PU, MA, MN, MS, OT, SC], [r0, r1, r2, r3, w12, r5, r6, r7, r8], Lg)) o from ev_call (fun v μ => (d + 7, 0, 0, 210, 40, [.val (.ref 256), .val (.ref 128), .val (.int x1), .val (.int x4), .val (.int x7), .val a_unk], v.toList ++ [], μ)) 5 ze8 e (fun n => Eq.refl _)
  obtain ⟨⟨x13, T_14, w15⟩, zh9, h⟩ := bnd h
  have zh9 : f_Tape_pass T_11 w12 59 = some (x13, T_14, w15) := zh9
  have ze10 := R_f_Tape_pass_0 (d + 0) Y T_11 H2 H RA RB ST NS I0 I1 I2 BO FI RG GU PU MA MN MS OT SC r0 r1 r2 r3 w12 r5 r6 r7 r8 L Lg 59 zh9
  suffices e : Ev (d + 7, 0, 0, 210, 48, [.val (.ref 256), .val (.ref 128), .val (.int x1), .val (.int x4), .val (.int x7), .val (.int x10)], [.int x13], (126, 120, L, [Y, T_14, H2, H, RA, RB, ST, NS, I0, I1, I2, BO, FI, RG, GU, PU, MA, MN, MS, OT, SC], [r0, r1, r2, r3, w15, r5, r6, r7, r8], Lg)) o from ev_call (fun v μ => (d + 7, 0, 0, 210, 48, [.val (.ref 256), .val (.ref 128), .val (.int x1), .val (.int x4), .val (.int x7), .val (.int x10)], v.toList ++ [], μ)) 4 ze10 e (fun n => Eq.refl _)
  by_cases zc11 : x13 = 0
  · have h := itp h zc11
    suffices e : Ev (d + 7, 0, 0, 210, 97, [.val (.ref 256), .val (.ref 128), .val (.int x1), .val (.int x4), .val (.int x7), .val (.int x10)], [], (126, 120, L, [Y, T_14, H2, H, RA, RB, ST, NS, I0, I1, I2, BO, FI, RG, GU, PU, MA, MN, MS, OT, SC], [r0, r1, r2, r3, w15, r5, r6, r7, r8], Lg)) o from ev_t (c := x13 = 0) _ _ 1  zc11 e (fun n => Eq.refl _)
    have ze12 := Option.some.inj h
    subst ze12
    exact ev_rete 1 ho (fun n => Eq.refl _)
  · have h := itn h zc11
    suffices e : Ev (d + 7, 0, 0, 210, 51, [.val (.ref 256), .val (.ref 128), .val (.int x1), .val (.int x4), .val (.int x7), .val (.int x10)], [], (126, 120, L, [Y, T_14, H2, H, RA, RB, ST, NS, I0, I1, I2, BO, FI, RG, GU, PU, MA, MN, MS, OT, SC], [r0, r1, r2, r3, w15, r5, r6, r7, r8], Lg)) o from ev_f (c := x13 = 0) _ _ 1  zc11 e (fun n => Eq.refl _)
    by_cases zc13 : 4 ≤ (H 0 4)
    · have h := itp h zc13
      suffices e : Ev (d + 7, 0, 0, 210, 97, [.val (.ref 256), .val (.ref 128), .val (.int x1), .val (.int x4), .val (.int x7), .val (.int x10)], [], (126, 120, L, [Y, T_14, H2, H, RA, RB, ST, NS, I0, I1, I2, BO, FI, RG, GU, PU, MA, MN, MS, OT, SC], [r0, r1, r2, r3, w15, r5, r6, r7, r8], Lg)) o from ev_t (c := 4 ≤ (H 0 4)) _ _ 4  zc13 e (fun n => Eq.refl _)
      have ze14 := Option.some.inj h
      subst ze14
      exact ev_rete 1 ho (fun n => Eq.refl _)
    · have h := itn h zc13
      suffices e : Ev (d + 7, 0, 0, 210, 59, [.val (.ref 256), .val (.ref 128), .val (.int x1), .val (.int x4), .val (.int x7), .val (.int x10)], [], (126, 120, L, [Y, T_14, H2, H, RA, RB, ST, NS, I0, I1, I2, BO, FI, RG, GU, PU, MA, MN, MS, OT, SC], [r0, r1, r2, r3, w15, r5, r6, r7, r8], Lg)) o from ev_f (c := 4 ≤ (H 0 4)) _ _ 4  zc13 e (fun n => Eq.refl _)
      obtain ⟨x16, zh15, h⟩ := bnd h
      have zh15 : f_Y_placeOf x1 x4 = some x16 := zh15
      have ze16 := R_f_Y_placeOf_0 (d + 6) Y T_14 H2 H RA RB ST NS I0 I1 I2 BO FI RG GU PU MA MN MS OT SC r0 r1 r2 r3 w15 r5 r6 r7 r8 L Lg x1 x4 zh15
      suffices e : Ev (d + 7, 0, 0, 210, 72, [.val (.ref 256), .val (.ref 128), .val (.int x1), .val (.int x4), .val (.int x7), .val (.int x10)], [.int x16, .int (H 0 4), .ref 267], (126, 120, L, [Y, T_14, H2, H, RA, RB, ST, NS, I0, I1, I2, BO, FI, RG, GU, PU, MA, MN, MS, OT, SC], [r0, r1, r2, r3, w15, r5, r6, r7, r8], Lg)) o from ev_call (fun v μ => (d + 7, 0, 0, 210, 72, [.val (.ref 256), .val (.ref 128), .val (.int x1), .val (.int x4), .val (.int x7), .val (.int x10)], v.toList ++ [.int (H 0 4), .ref 267], μ)) 7 ze16 e (fun n => Eq.refl _)
      obtain ⟨j17, zh17, h⟩ := bnd h
      have zh17 : ixx 4 (H 0 4) = some j17 := zh17
      suffices e : Ev (d + 7, 0, 0, 210, 73, [.val (.ref 256), .val (.ref 128), .val (.int x1), .val (.int x4), .val (.int x7), .val (.int x10)], [], (126, 120, L, [Y, T_14, H2, (u2 H 11 j17 x16), RA, RB, ST, NS, I0, I1, I2, BO, FI, RG, GU, PU, MA, MN, MS, OT, SC], [r0, r1, r2, r3, w15, r5, r6, r7, r8], Lg)) o from ev_opt (fun j17 => (d + 7, 0, 0, 210, 73, [.val (.ref 256), .val (.ref 128), .val (.int x1), .val (.int x4), .val (.int x7), .val (.int x10)], [], (126, 120, L, [Y, T_14, H2, (u2 H 11 j17 x16), RA, RB, ST, NS, I0, I1, I2, BO, FI, RG, GU, PU, MA, MN, MS, OT, SC], [r0, r1, r2, r3, w15, r5, r6, r7, r8], Lg))) 1 zh17 e (fun n => Eq.refl _)
      obtain ⟨j18, zh18, h⟩ := bnd h
      have zh18 : ixx 4 ((u2 H 11 j17 x16) 0 4) = some j18 := zh18
      suffices e : Ev (d + 7, 0, 0, 210, 87, [.val (.ref 256), .val (.ref 128), .val (.int x1), .val (.int x4), .val (.int x7), .val (.int x10)], [], (126, 120, L, [Y, T_14, H2, (u2 (u2 H 11 j17 x16) 12 j18 (x7 * x10)), RA, RB, ST, NS, I0, I1, I2, BO, FI, RG, GU, PU, MA, MN, MS, OT, SC], [r0, r1, r2, r3, w15, r5, r6, r7, r8], Lg)) o from ev_opt (fun j18 => (d + 7, 0, 0, 210, 87, [.val (.ref 256), .val (.ref 128), .val (.int x1), .val (.int x4), .val (.int x7), .val (.int x10)], [], (126, 120, L, [Y, T_14, H2, (u2 (u2 H 11 j17 x16) 12 j18 (x7 * x10)), RA, RB, ST, NS, I0, I1, I2, BO, FI, RG, GU, PU, MA, MN, MS, OT, SC], [r0, r1, r2, r3, w15, r5, r6, r7, r8], Lg))) 8 zh18 e (fun n => Eq.refl _)
      have ze19 := Option.some.inj h
      subst ze19
      exact ev_rete 7 ho (fun n => Eq.refl _)
set_option maxRecDepth 1000000 in
set_option maxHeartbeats 4000000 in
theorem R_f_House_hourBits_0 (d : Nat) (Y T HA HB RA RB ST NS I0 I1 I2 BO FI RG GU PU MA MN MS OT SC : Nat → Nat → Int32) (r0 r1 r2 r3 w r5 r6 r7 r8 : Nat) (L : Nat) (Lg : Int64) (p0 : Int32) (p1 : Int32) {r : Int32} (h : f_House_hourBits p0 p1 = some r) : Ev (d + 0, 0, 0, 215, 0, [.val (.int p0), .val (.int p1)], [], (126, 120, L, [Y, T, HA, HB, RA, RB, ST, NS, I0, I1, I2, BO, FI, RG, GU, PU, MA, MN, MS, OT, SC], [r0, r1, r2, r3, w, r5, r6, r7, r8], Lg)) ((0, some (.int r), (126, 120, L, [Y, T, HA, HB, RA, RB, ST, NS, I0, I1, I2, BO, FI, RG, GU, PU, MA, MN, MS, OT, SC], [r0, r1, r2, r3, w, r5, r6, r7, r8], Lg)) : AOut) := by
  suffices key : ∀ o : AOut, ((0, some (.int r), (126, 120, L, [Y, T, HA, HB, RA, RB, ST, NS, I0, I1, I2, BO, FI, RG, GU, PU, MA, MN, MS, OT, SC], [r0, r1, r2, r3, w, r5, r6, r7, r8], Lg)) : AOut) = o → Ev (d + 0, 0, 0, 215, 0, [.val (.int p0), .val (.int p1)], [], (126, 120, L, [Y, T, HA, HB, RA, RB, ST, NS, I0, I1, I2, BO, FI, RG, GU, PU, MA, MN, MS, OT, SC], [r0, r1, r2, r3, w, r5, r6, r7, r8], Lg)) o from key _ rfl
  intro o ho
  have ze1 := Option.some.inj h
  subst ze1
  exact ev_rete 10 ho (fun n => Eq.refl _)
set_option maxRecDepth 1000000 in
set_option maxHeartbeats 4000000 in
theorem R_f_House_readBusy_0 (d : Nat) (Y T H2 H RA RB ST NS I0 I1 I2 BO FI RG GU PU MA MN MS OT SC : Nat → Nat → Int32) (r0 r1 r2 r3 w r5 r6 r7 r8 : Nat) (L : Nat) (Lg : Int64) {r : (Nat → Nat → Int32) × (Nat → Nat → Int32) × Nat} (h : f_House_readBusy T H w = some r) : Ev (d + 7, 0, 0, 208, 0, [.val (.ref 256), .val (.ref 128), .val a_unk, .val a_unk, .val a_unk], [], (126, 120, L, [Y, T, H2, H, RA, RB, ST, NS, I0, I1, I2, BO, FI, RG, GU, PU, MA, MN, MS, OT, SC], [r0, r1, r2, r3, w, r5, r6, r7, r8], Lg)) ((0, none, (126, 120, L, [Y, r.1, H2, r.2.1, RA, RB, ST, NS, I0, I1, I2, BO, FI, RG, GU, PU, MA, MN, MS, OT, SC], [r0, r1, r2, r3, r.2.2, r5, r6, r7, r8], Lg)) : AOut) := by
  suffices key : ∀ o : AOut, ((0, none, (126, 120, L, [Y, r.1, H2, r.2.1, RA, RB, ST, NS, I0, I1, I2, BO, FI, RG, GU, PU, MA, MN, MS, OT, SC], [r0, r1, r2, r3, r.2.2, r5, r6, r7, r8], Lg)) : AOut) = o → Ev (d + 7, 0, 0, 208, 0, [.val (.ref 256), .val (.ref 128), .val a_unk, .val a_unk, .val a_unk], [], (126, 120, L, [Y, T, H2, H, RA, RB, ST, NS, I0, I1, I2, BO, FI, RG, GU, PU, MA, MN, MS, OT, SC], [r0, r1, r2, r3, w, r5, r6, r7, r8], Lg)) o from key _ rfl
  intro o ho
  obtain ⟨⟨x1, T_2, w3⟩, zh1, h⟩ := bnd h
  have zh1 : f_Tape_number T w 0 ((H 0 2) - 1) = some (x1, T_2, w3) := zh1
  have ze2 := R_f_Tape_number_0 (d + 0) Y T H2 H RA RB ST NS I0 I1 I2 BO FI RG GU PU MA MN MS OT SC r0 r1 r2 r3 w r5 r6 r7 r8 L Lg 0 ((H 0 2) - 1) zh1
  suffices e : Ev (d + 7, 0, 0, 208, 11, [.val (.ref 256), .val (.ref 128), .val a_unk, .val a_unk, .val a_unk], [.int x1], (126, 120, L, [Y, T_2, H2, H, RA, RB, ST, NS, I0, I1, I2, BO, FI, RG, GU, PU, MA, MN, MS, OT, SC], [r0, r1, r2, r3, w3, r5, r6, r7, r8], Lg)) o from ev_call (fun v μ => (d + 7, 0, 0, 208, 11, [.val (.ref 256), .val (.ref 128), .val a_unk, .val a_unk, .val a_unk], v.toList ++ [], μ)) 7 ze2 e (fun n => Eq.refl _)
  obtain ⟨⟨x4, T_5, w6⟩, zh3, h⟩ := bnd h
  have zh3 : f_Tape_number T_2 w3 0 ((H 0 0) - 1) = some (x4, T_5, w6) := zh3
  have ze4 := R_f_Tape_number_0 (d + 0) Y T_2 H2 H RA RB ST NS I0 I1 I2 BO FI RG GU PU MA MN MS OT SC r0 r1 r2 r3 w3 r5 r6 r7 r8 L Lg 0 ((H 0 0) - 1) zh3
  suffices e : Ev (d + 7, 0, 0, 208, 23, [.val (.ref 256), .val (.ref 128), .val (.int x1), .val a_unk, .val a_unk], [.int x4], (126, 120, L, [Y, T_5, H2, H, RA, RB, ST, NS, I0, I1, I2, BO, FI, RG, GU, PU, MA, MN, MS, OT, SC], [r0, r1, r2, r3, w6, r5, r6, r7, r8], Lg)) o from ev_call (fun v μ => (d + 7, 0, 0, 208, 23, [.val (.ref 256), .val (.ref 128), .val (.int x1), .val a_unk, .val a_unk], v.toList ++ [], μ)) 8 ze4 e (fun n => Eq.refl _)
  obtain ⟨⟨x7, T_8, w9⟩, zh5, h⟩ := bnd h
  have zh5 : f_Tape_number T_5 w6 x4 ((H 0 0) - 1) = some (x7, T_8, w9) := zh5
  have ze6 := R_f_Tape_number_0 (d + 0) Y T_5 H2 H RA RB ST NS I0 I1 I2 BO FI RG GU PU MA MN MS OT SC r0 r1 r2 r3 w6 r5 r6 r7 r8 L Lg x4 ((H 0 0) - 1) zh5
  suffices e : Ev (d + 7, 0, 0, 208, 35, [.val (.ref 256), .val (.ref 128), .val (.int x1), .val (.int x4), .val a_unk], [.int x7], (126, 120, L, [Y, T_8, H2, H, RA, RB, ST, NS, I0, I1, I2, BO, FI, RG, GU, PU, MA, MN, MS, OT, SC], [r0, r1, r2, r3, w9, r5, r6, r7, r8], Lg)) o from ev_call (fun v μ => (d + 7, 0, 0, 208, 35, [.val (.ref 256), .val (.ref 128), .val (.int x1), .val (.int x4), .val a_unk], v.toList ++ [], μ)) 8 ze6 e (fun n => Eq.refl _)
  obtain ⟨⟨x10, T_11, w12⟩, zh7, h⟩ := bnd h
  have zh7 : f_Tape_pass T_8 w9 59 = some (x10, T_11, w12) := zh7
  have ze8 := R_f_Tape_pass_0 (d + 0) Y T_8 H2 H RA RB ST NS I0 I1 I2 BO FI RG GU PU MA MN MS OT SC r0 r1 r2 r3 w9 r5 r6 r7 r8 L Lg 59 zh7
  suffices e : Ev (d + 7, 0, 0, 208, 43, [.val (.ref 256), .val (.ref 128), .val (.int x1), .val (.int x4), .val (.int x7)], [.int x10], (126, 120, L, [Y, T_11, H2, H, RA, RB, ST, NS, I0, I1, I2, BO, FI, RG, GU, PU, MA, MN, MS, OT, SC], [r0, r1, r2, r3, w12, r5, r6, r7, r8], Lg)) o from ev_call (fun v μ => (d + 7, 0, 0, 208, 43, [.val (.ref 256), .val (.ref 128), .val (.int x1), .val (.int x4), .val (.int x7)], v.toList ++ [], μ)) 4 ze8 e (fun n => Eq.refl _)
  by_cases zc9 : x10 = 0
  · have h := itp h zc9
    suffices e : Ev (d + 7, 0, 0, 208, 61, [.val (.ref 256), .val (.ref 128), .val (.int x1), .val (.int x4), .val (.int x7)], [], (126, 120, L, [Y, T_11, H2, H, RA, RB, ST, NS, I0, I1, I2, BO, FI, RG, GU, PU, MA, MN, MS, OT, SC], [r0, r1, r2, r3, w12, r5, r6, r7, r8], Lg)) o from ev_t (c := x10 = 0) _ _ 1  zc9 e (fun n => Eq.refl _)
    have ze10 := Option.some.inj h
    subst ze10
    exact ev_rete 1 ho (fun n => Eq.refl _)
  · have h := itn h zc9
    suffices e : Ev (d + 7, 0, 0, 208, 46, [.val (.ref 256), .val (.ref 128), .val (.int x1), .val (.int x4), .val (.int x7)], [], (126, 120, L, [Y, T_11, H2, H, RA, RB, ST, NS, I0, I1, I2, BO, FI, RG, GU, PU, MA, MN, MS, OT, SC], [r0, r1, r2, r3, w12, r5, r6, r7, r8], Lg)) o from ev_f (c := x10 = 0) _ _ 1  zc9 e (fun n => Eq.refl _)
    obtain ⟨x13, zh11, h⟩ := bnd h
    have zh11 : rdx (H 4) 8 x1 = some x13 := zh11
    suffices e : Ev (d + 7, 0, 0, 208, 53, [.val (.ref 256), .val (.ref 128), .val (.int x1), .val (.int x4), .val (.int x7)], [.int x13, .int x1, .ref 260], (126, 120, L, [Y, T_11, H2, H, RA, RB, ST, NS, I0, I1, I2, BO, FI, RG, GU, PU, MA, MN, MS, OT, SC], [r0, r1, r2, r3, w12, r5, r6, r7, r8], Lg)) o from ev_opt (fun x13 => (d + 7, 0, 0, 208, 53, [.val (.ref 256), .val (.ref 128), .val (.int x1), .val (.int x4), .val (.int x7)], [.int x13, .int x1, .ref 260], (126, 120, L, [Y, T_11, H2, H, RA, RB, ST, NS, I0, I1, I2, BO, FI, RG, GU, PU, MA, MN, MS, OT, SC], [r0, r1, r2, r3, w12, r5, r6, r7, r8], Lg))) 5 zh11 e (fun n => Eq.refl _)
    obtain ⟨x14, zh12, h⟩ := bnd h
    have zh12 : f_House_hourBits x4 x7 = some x14 := zh12
    have ze13 := R_f_House_hourBits_0 (d + 6) Y T_11 H2 H RA RB ST NS I0 I1 I2 BO FI RG GU PU MA MN MS OT SC r0 r1 r2 r3 w12 r5 r6 r7 r8 L Lg x4 x7 zh12
    suffices e : Ev (d + 7, 0, 0, 208, 59, [.val (.ref 256), .val (.ref 128), .val (.int x1), .val (.int x4), .val (.int x7)], [.int x14, .int x13, .int x1, .ref 260], (126, 120, L, [Y, T_11, H2, H, RA, RB, ST, NS, I0, I1, I2, BO, FI, RG, GU, PU, MA, MN, MS, OT, SC], [r0, r1, r2, r3, w12, r5, r6, r7, r8], Lg)) o from ev_call (fun v μ => (d + 7, 0, 0, 208, 59, [.val (.ref 256), .val (.ref 128), .val (.int x1), .val (.int x4), .val (.int x7)], v.toList ++ [.int x13, .int x1, .ref 260], μ)) 3 ze13 e (fun n => Eq.refl _)
    obtain ⟨j15, zh14, h⟩ := bnd h
    have zh14 : ixx 8 x1 = some j15 := zh14
    suffices e : Ev (d + 7, 0, 0, 208, 61, [.val (.ref 256), .val (.ref 128), .val (.int x1), .val (.int x4), .val (.int x7)], [], (126, 120, L, [Y, T_11, H2, (u2 H 4 j15 (x13 ||| x14)), RA, RB, ST, NS, I0, I1, I2, BO, FI, RG, GU, PU, MA, MN, MS, OT, SC], [r0, r1, r2, r3, w12, r5, r6, r7, r8], Lg)) o from ev_opt (fun j15 => (d + 7, 0, 0, 208, 61, [.val (.ref 256), .val (.ref 128), .val (.int x1), .val (.int x4), .val (.int x7)], [], (126, 120, L, [Y, T_11, H2, (u2 H 4 j15 (x13 ||| x14)), RA, RB, ST, NS, I0, I1, I2, BO, FI, RG, GU, PU, MA, MN, MS, OT, SC], [r0, r1, r2, r3, w12, r5, r6, r7, r8], Lg))) 2 zh14 e (fun n => Eq.refl _)
    have ze15 := Option.some.inj h
    subst ze15
    exact ev_rete 1 ho (fun n => Eq.refl _)
set_option maxRecDepth 1000000 in
set_option maxHeartbeats 4000000 in
theorem R_f_House_readWho_0 (d : Nat) (Y T H2 H RA RB ST NS I0 I1 I2 BO FI RG GU PU MA MN MS OT SC : Nat → Nat → Int32) (r0 r1 r2 r3 w r5 r6 r7 r8 : Nat) (L : Nat) (Lg : Int64) {r : (Nat → Nat → Int32) × (Nat → Nat → Int32) × Nat} (h : f_House_readWho T H w = some r) : Ev (d + 7, 0, 0, 211, 0, [.val (.ref 256), .val (.ref 128), .val a_unk, .val a_unk], [], (126, 120, L, [Y, T, H2, H, RA, RB, ST, NS, I0, I1, I2, BO, FI, RG, GU, PU, MA, MN, MS, OT, SC], [r0, r1, r2, r3, w, r5, r6, r7, r8], Lg)) ((0, none, (126, 120, L, [Y, r.1, H2, r.2.1, RA, RB, ST, NS, I0, I1, I2, BO, FI, RG, GU, PU, MA, MN, MS, OT, SC], [r0, r1, r2, r3, r.2.2, r5, r6, r7, r8], Lg)) : AOut) := by
  suffices key : ∀ o : AOut, ((0, none, (126, 120, L, [Y, r.1, H2, r.2.1, RA, RB, ST, NS, I0, I1, I2, BO, FI, RG, GU, PU, MA, MN, MS, OT, SC], [r0, r1, r2, r3, r.2.2, r5, r6, r7, r8], Lg)) : AOut) = o → Ev (d + 7, 0, 0, 211, 0, [.val (.ref 256), .val (.ref 128), .val a_unk, .val a_unk], [], (126, 120, L, [Y, T, H2, H, RA, RB, ST, NS, I0, I1, I2, BO, FI, RG, GU, PU, MA, MN, MS, OT, SC], [r0, r1, r2, r3, w, r5, r6, r7, r8], Lg)) o from key _ rfl
  intro o ho
  obtain ⟨⟨x1, T_2, w3⟩, zh1, h⟩ := bnd h
  have zh1 : f_Tape_number T w 0 ((H 0 3) - 1) = some (x1, T_2, w3) := zh1
  have ze2 := R_f_Tape_number_0 (d + 0) Y T H2 H RA RB ST NS I0 I1 I2 BO FI RG GU PU MA MN MS OT SC r0 r1 r2 r3 w r5 r6 r7 r8 L Lg 0 ((H 0 3) - 1) zh1
  suffices e : Ev (d + 7, 0, 0, 211, 11, [.val (.ref 256), .val (.ref 128), .val a_unk, .val a_unk], [.int x1], (126, 120, L, [Y, T_2, H2, H, RA, RB, ST, NS, I0, I1, I2, BO, FI, RG, GU, PU, MA, MN, MS, OT, SC], [r0, r1, r2, r3, w3, r5, r6, r7, r8], Lg)) o from ev_call (fun v μ => (d + 7, 0, 0, 211, 11, [.val (.ref 256), .val (.ref 128), .val a_unk, .val a_unk], v.toList ++ [], μ)) 7 ze2 e (fun n => Eq.refl _)
  obtain ⟨⟨x4, T_5, w6⟩, zh3, h⟩ := bnd h
  have zh3 : f_Tape_number T_2 w3 0 ((H 0 2) - 1) = some (x4, T_5, w6) := zh3
  have ze4 := R_f_Tape_number_0 (d + 0) Y T_2 H2 H RA RB ST NS I0 I1 I2 BO FI RG GU PU MA MN MS OT SC r0 r1 r2 r3 w3 r5 r6 r7 r8 L Lg 0 ((H 0 2) - 1) zh3
  suffices e : Ev (d + 7, 0, 0, 211, 23, [.val (.ref 256), .val (.ref 128), .val (.int x1), .val a_unk], [.int x4], (126, 120, L, [Y, T_5, H2, H, RA, RB, ST, NS, I0, I1, I2, BO, FI, RG, GU, PU, MA, MN, MS, OT, SC], [r0, r1, r2, r3, w6, r5, r6, r7, r8], Lg)) o from ev_call (fun v μ => (d + 7, 0, 0, 211, 23, [.val (.ref 256), .val (.ref 128), .val (.int x1), .val a_unk], v.toList ++ [], μ)) 8 ze4 e (fun n => Eq.refl _)
  obtain ⟨⟨x7, T_8, w9⟩, zh5, h⟩ := bnd h
  have zh5 : f_Tape_pass T_5 w6 59 = some (x7, T_8, w9) := zh5
  have ze6 := R_f_Tape_pass_0 (d + 0) Y T_5 H2 H RA RB ST NS I0 I1 I2 BO FI RG GU PU MA MN MS OT SC r0 r1 r2 r3 w6 r5 r6 r7 r8 L Lg 59 zh5
  suffices e : Ev (d + 7, 0, 0, 211, 30, [.val (.ref 256), .val (.ref 128), .val (.int x1), .val (.int x4)], [.int x7], (126, 120, L, [Y, T_8, H2, H, RA, RB, ST, NS, I0, I1, I2, BO, FI, RG, GU, PU, MA, MN, MS, OT, SC], [r0, r1, r2, r3, w9, r5, r6, r7, r8], Lg)) o from ev_call (fun v μ => (d + 7, 0, 0, 211, 30, [.val (.ref 256), .val (.ref 128), .val (.int x1), .val (.int x4)], v.toList ++ [], μ)) 4 ze6 e (fun n => Eq.refl _)
  by_cases zc7 : x7 = 0
  · have h := itp h zc7
    suffices e : Ev (d + 7, 0, 0, 211, 45, [.val (.ref 256), .val (.ref 128), .val (.int x1), .val (.int x4)], [], (126, 120, L, [Y, T_8, H2, H, RA, RB, ST, NS, I0, I1, I2, BO, FI, RG, GU, PU, MA, MN, MS, OT, SC], [r0, r1, r2, r3, w9, r5, r6, r7, r8], Lg)) o from ev_t (c := x7 = 0) _ _ 1  zc7 e (fun n => Eq.refl _)
    have ze8 := Option.some.inj h
    subst ze8
    exact ev_rete 1 ho (fun n => Eq.refl _)
  · have h := itn h zc7
    suffices e : Ev (d + 7, 0, 0, 211, 33, [.val (.ref 256), .val (.ref 128), .val (.int x1), .val (.int x4)], [], (126, 120, L, [Y, T_8, H2, H, RA, RB, ST, NS, I0, I1, I2, BO, FI, RG, GU, PU, MA, MN, MS, OT, SC], [r0, r1, r2, r3, w9, r5, r6, r7, r8], Lg)) o from ev_f (c := x7 = 0) _ _ 1  zc7 e (fun n => Eq.refl _)
    obtain ⟨x10, zh9, h⟩ := bnd h
    have zh9 : rdx (H 8) 10 x1 = some x10 := zh9
    suffices e : Ev (d + 7, 0, 0, 211, 40, [.val (.ref 256), .val (.ref 128), .val (.int x1), .val (.int x4)], [.int x10, .int x1, .ref 264], (126, 120, L, [Y, T_8, H2, H, RA, RB, ST, NS, I0, I1, I2, BO, FI, RG, GU, PU, MA, MN, MS, OT, SC], [r0, r1, r2, r3, w9, r5, r6, r7, r8], Lg)) o from ev_opt (fun x10 => (d + 7, 0, 0, 211, 40, [.val (.ref 256), .val (.ref 128), .val (.int x1), .val (.int x4)], [.int x10, .int x1, .ref 264], (126, 120, L, [Y, T_8, H2, H, RA, RB, ST, NS, I0, I1, I2, BO, FI, RG, GU, PU, MA, MN, MS, OT, SC], [r0, r1, r2, r3, w9, r5, r6, r7, r8], Lg))) 5 zh9 e (fun n => Eq.refl _)
    obtain ⟨j11, zh10, h⟩ := bnd h
    have zh10 : ixx 10 x1 = some j11 := zh10
    suffices e : Ev (d + 7, 0, 0, 211, 45, [.val (.ref 256), .val (.ref 128), .val (.int x1), .val (.int x4)], [], (126, 120, L, [Y, T_8, H2, (u2 H 8 j11 (x10 ||| (a_shl 1 x4))), RA, RB, ST, NS, I0, I1, I2, BO, FI, RG, GU, PU, MA, MN, MS, OT, SC], [r0, r1, r2, r3, w9, r5, r6, r7, r8], Lg)) o from ev_opt (fun j11 => (d + 7, 0, 0, 211, 45, [.val (.ref 256), .val (.ref 128), .val (.int x1), .val (.int x4)], [], (126, 120, L, [Y, T_8, H2, (u2 H 8 j11 (x10 ||| (a_shl 1 x4))), RA, RB, ST, NS, I0, I1, I2, BO, FI, RG, GU, PU, MA, MN, MS, OT, SC], [r0, r1, r2, r3, w9, r5, r6, r7, r8], Lg))) 5 zh10 e (fun n => Eq.refl _)
    have ze11 := Option.some.inj h
    subst ze11
    exact ev_rete 1 ho (fun n => Eq.refl _)
set_option maxRecDepth 1000000 in
set_option maxHeartbeats 4000000 in
theorem R_f_House_readMay_0 (d : Nat) (Y T H2 H RA RB ST NS I0 I1 I2 BO FI RG GU PU MA MN MS OT SC : Nat → Nat → Int32) (r0 r1 r2 r3 w r5 r6 r7 r8 : Nat) (L : Nat) (Lg : Int64) {r : (Nat → Nat → Int32) × (Nat → Nat → Int32) × Nat} (h : f_House_readMay T H w = some r) : Ev (d + 7, 0, 0, 212, 0, [.val (.ref 256), .val (.ref 128), .val a_unk, .val a_unk, .val a_unk], [], (126, 120, L, [Y, T, H2, H, RA, RB, ST, NS, I0, I1, I2, BO, FI, RG, GU, PU, MA, MN, MS, OT, SC], [r0, r1, r2, r3, w, r5, r6, r7, r8], Lg)) ((0, none, (126, 120, L, [Y, r.1, H2, r.2.1, RA, RB, ST, NS, I0, I1, I2, BO, FI, RG, GU, PU, MA, MN, MS, OT, SC], [r0, r1, r2, r3, r.2.2, r5, r6, r7, r8], Lg)) : AOut) := by
  suffices key : ∀ o : AOut, ((0, none, (126, 120, L, [Y, r.1, H2, r.2.1, RA, RB, ST, NS, I0, I1, I2, BO, FI, RG, GU, PU, MA, MN, MS, OT, SC], [r0, r1, r2, r3, r.2.2, r5, r6, r7, r8], Lg)) : AOut) = o → Ev (d + 7, 0, 0, 212, 0, [.val (.ref 256), .val (.ref 128), .val a_unk, .val a_unk, .val a_unk], [], (126, 120, L, [Y, T, H2, H, RA, RB, ST, NS, I0, I1, I2, BO, FI, RG, GU, PU, MA, MN, MS, OT, SC], [r0, r1, r2, r3, w, r5, r6, r7, r8], Lg)) o from key _ rfl
  intro o ho
  obtain ⟨⟨x1, T_2, w3⟩, zh1, h⟩ := bnd h
  have zh1 : f_Tape_number T w 0 ((H 0 3) - 1) = some (x1, T_2, w3) := zh1
  have ze2 := R_f_Tape_number_0 (d + 0) Y T H2 H RA RB ST NS I0 I1 I2 BO FI RG GU PU MA MN MS OT SC r0 r1 r2 r3 w r5 r6 r7 r8 L Lg 0 ((H 0 3) - 1) zh1
  suffices e : Ev (d + 7, 0, 0, 212, 11, [.val (.ref 256), .val (.ref 128), .val a_unk, .val a_unk, .val a_unk], [.int x1], (126, 120, L, [Y, T_2, H2, H, RA, RB, ST, NS, I0, I1, I2, BO, FI, RG, GU, PU, MA, MN, MS, OT, SC], [r0, r1, r2, r3, w3, r5, r6, r7, r8], Lg)) o from ev_call (fun v μ => (d + 7, 0, 0, 212, 11, [.val (.ref 256), .val (.ref 128), .val a_unk, .val a_unk, .val a_unk], v.toList ++ [], μ)) 7 ze2 e (fun n => Eq.refl _)
  obtain ⟨⟨x4, T_5, w6⟩, zh3, h⟩ := bnd h
  have zh3 : f_Tape_number T_2 w3 0 ((H 0 0) - 1) = some (x4, T_5, w6) := zh3
  have ze4 := R_f_Tape_number_0 (d + 0) Y T_2 H2 H RA RB ST NS I0 I1 I2 BO FI RG GU PU MA MN MS OT SC r0 r1 r2 r3 w3 r5 r6 r7 r8 L Lg 0 ((H 0 0) - 1) zh3
  suffices e : Ev (d + 7, 0, 0, 212, 23, [.val (.ref 256), .val (.ref 128), .val (.int x1), .val a_unk, .val a_unk], [.int x4], (126, 120, L, [Y, T_5, H2, H, RA, RB, ST, NS, I0, I1, I2, BO, FI, RG, GU, PU, MA, MN, MS, OT, SC], [r0, r1, r2, r3, w6, r5, r6, r7, r8], Lg)) o from ev_call (fun v μ => (d + 7, 0, 0, 212, 23, [.val (.ref 256), .val (.ref 128), .val (.int x1), .val a_unk, .val a_unk], v.toList ++ [], μ)) 8 ze4 e (fun n => Eq.refl _)
  obtain ⟨⟨x7, T_8, w9⟩, zh5, h⟩ := bnd h
  have zh5 : f_Tape_number T_5 w6 x4 ((H 0 0) - 1) = some (x7, T_8, w9) := zh5
  have ze6 := R_f_Tape_number_0 (d + 0) Y T_5 H2 H RA RB ST NS I0 I1 I2 BO FI RG GU PU MA MN MS OT SC r0 r1 r2 r3 w6 r5 r6 r7 r8 L Lg x4 ((H 0 0) - 1) zh5
  suffices e : Ev (d + 7, 0, 0, 212, 35, [.val (.ref 256), .val (.ref 128), .val (.int x1), .val (.int x4), .val a_unk], [.int x7], (126, 120, L, [Y, T_8, H2, H, RA, RB, ST, NS, I0, I1, I2, BO, FI, RG, GU, PU, MA, MN, MS, OT, SC], [r0, r1, r2, r3, w9, r5, r6, r7, r8], Lg)) o from ev_call (fun v μ => (d + 7, 0, 0, 212, 35, [.val (.ref 256), .val (.ref 128), .val (.int x1), .val (.int x4), .val a_unk], v.toList ++ [], μ)) 8 ze6 e (fun n => Eq.refl _)
  obtain ⟨⟨x10, T_11, w12⟩, zh7, h⟩ := bnd h
  have zh7 : f_Tape_pass T_8 w9 59 = some (x10, T_11, w12) := zh7
  have ze8 := R_f_Tape_pass_0 (d + 0) Y T_8 H2 H RA RB ST NS I0 I1 I2 BO FI RG GU PU MA MN MS OT SC r0 r1 r2 r3 w9 r5 r6 r7 r8 L Lg 59 zh7
  suffices e : Ev (d + 7, 0, 0, 212, 43, [.val (.ref 256), .val (.ref 128), .val (.int x1), .val (.int x4), .val (.int x7)], [.int x10], (126, 120, L, [Y, T_11, H2, H, RA, RB, ST, NS, I0, I1, I2, BO, FI, RG, GU, PU, MA, MN, MS, OT, SC], [r0, r1, r2, r3, w12, r5, r6, r7, r8], Lg)) o from ev_call (fun v μ => (d + 7, 0, 0, 212, 43, [.val (.ref 256), .val (.ref 128), .val (.int x1), .val (.int x4), .val (.int x7)], v.toList ++ [], μ)) 4 ze8 e (fun n => Eq.refl _)
  by_cases zc9 : x10 = 0
  · have h := itp h zc9
    suffices e : Ev (d + 7, 0, 0, 212, 61, [.val (.ref 256), .val (.ref 128), .val (.int x1), .val (.int x4), .val (.int x7)], [], (126, 120, L, [Y, T_11, H2, H, RA, RB, ST, NS, I0, I1, I2, BO, FI, RG, GU, PU, MA, MN, MS, OT, SC], [r0, r1, r2, r3, w12, r5, r6, r7, r8], Lg)) o from ev_t (c := x10 = 0) _ _ 1  zc9 e (fun n => Eq.refl _)
    have ze10 := Option.some.inj h
    subst ze10
    exact ev_rete 1 ho (fun n => Eq.refl _)
  · have h := itn h zc9
    suffices e : Ev (d + 7, 0, 0, 212, 46, [.val (.ref 256), .val (.ref 128), .val (.int x1), .val (.int x4), .val (.int x7)], [], (126, 120, L, [Y, T_11, H2, H, RA, RB, ST, NS, I0, I1, I2, BO, FI, RG, GU, PU, MA, MN, MS, OT, SC], [r0, r1, r2, r3, w12, r5, r6, r7, r8], Lg)) o from ev_f (c := x10 = 0) _ _ 1  zc9 e (fun n => Eq.refl _)
    obtain ⟨x13, zh11, h⟩ := bnd h
    have zh11 : rdx (H 9) 10 x1 = some x13 := zh11
    suffices e : Ev (d + 7, 0, 0, 212, 53, [.val (.ref 256), .val (.ref 128), .val (.int x1), .val (.int x4), .val (.int x7)], [.int x13, .int x1, .ref 265], (126, 120, L, [Y, T_11, H2, H, RA, RB, ST, NS, I0, I1, I2, BO, FI, RG, GU, PU, MA, MN, MS, OT, SC], [r0, r1, r2, r3, w12, r5, r6, r7, r8], Lg)) o from ev_opt (fun x13 => (d + 7, 0, 0, 212, 53, [.val (.ref 256), .val (.ref 128), .val (.int x1), .val (.int x4), .val (.int x7)], [.int x13, .int x1, .ref 265], (126, 120, L, [Y, T_11, H2, H, RA, RB, ST, NS, I0, I1, I2, BO, FI, RG, GU, PU, MA, MN, MS, OT, SC], [r0, r1, r2, r3, w12, r5, r6, r7, r8], Lg))) 5 zh11 e (fun n => Eq.refl _)
    obtain ⟨x14, zh12, h⟩ := bnd h
    have zh12 : f_House_hourBits x4 x7 = some x14 := zh12
    have ze13 := R_f_House_hourBits_0 (d + 6) Y T_11 H2 H RA RB ST NS I0 I1 I2 BO FI RG GU PU MA MN MS OT SC r0 r1 r2 r3 w12 r5 r6 r7 r8 L Lg x4 x7 zh12
    suffices e : Ev (d + 7, 0, 0, 212, 59, [.val (.ref 256), .val (.ref 128), .val (.int x1), .val (.int x4), .val (.int x7)], [.int x14, .int x13, .int x1, .ref 265], (126, 120, L, [Y, T_11, H2, H, RA, RB, ST, NS, I0, I1, I2, BO, FI, RG, GU, PU, MA, MN, MS, OT, SC], [r0, r1, r2, r3, w12, r5, r6, r7, r8], Lg)) o from ev_call (fun v μ => (d + 7, 0, 0, 212, 59, [.val (.ref 256), .val (.ref 128), .val (.int x1), .val (.int x4), .val (.int x7)], v.toList ++ [.int x13, .int x1, .ref 265], μ)) 3 ze13 e (fun n => Eq.refl _)
    obtain ⟨j15, zh14, h⟩ := bnd h
    have zh14 : ixx 10 x1 = some j15 := zh14
    suffices e : Ev (d + 7, 0, 0, 212, 61, [.val (.ref 256), .val (.ref 128), .val (.int x1), .val (.int x4), .val (.int x7)], [], (126, 120, L, [Y, T_11, H2, (u2 H 9 j15 (x13 ||| x14)), RA, RB, ST, NS, I0, I1, I2, BO, FI, RG, GU, PU, MA, MN, MS, OT, SC], [r0, r1, r2, r3, w12, r5, r6, r7, r8], Lg)) o from ev_opt (fun j15 => (d + 7, 0, 0, 212, 61, [.val (.ref 256), .val (.ref 128), .val (.int x1), .val (.int x4), .val (.int x7)], [], (126, 120, L, [Y, T_11, H2, (u2 H 9 j15 (x13 ||| x14)), RA, RB, ST, NS, I0, I1, I2, BO, FI, RG, GU, PU, MA, MN, MS, OT, SC], [r0, r1, r2, r3, w12, r5, r6, r7, r8], Lg))) 2 zh14 e (fun n => Eq.refl _)
    have ze15 := Option.some.inj h
    subst ze15
    exact ev_rete 1 ho (fun n => Eq.refl _)
set_option maxRecDepth 1000000 in
set_option maxHeartbeats 4000000 in
theorem R_f_House_readFixed_0 (d : Nat) (Y T H2 H RA RB ST NS I0 I1 I2 BO FI RG GU PU MA MN MS OT SC : Nat → Nat → Int32) (r0 r1 r2 r3 w r5 r6 r7 r8 : Nat) (L : Nat) (Lg : Int64) {r : (Nat → Nat → Int32) × (Nat → Nat → Int32) × Nat} (h : f_House_readFixed T H w = some r) : Ev (d + 7, 0, 0, 213, 0, [.val (.ref 256), .val (.ref 128), .val a_unk], [], (126, 120, L, [Y, T, H2, H, RA, RB, ST, NS, I0, I1, I2, BO, FI, RG, GU, PU, MA, MN, MS, OT, SC], [r0, r1, r2, r3, w, r5, r6, r7, r8], Lg)) ((0, none, (126, 120, L, [Y, r.1, H2, r.2.1, RA, RB, ST, NS, I0, I1, I2, BO, FI, RG, GU, PU, MA, MN, MS, OT, SC], [r0, r1, r2, r3, r.2.2, r5, r6, r7, r8], Lg)) : AOut) := by
  suffices key : ∀ o : AOut, ((0, none, (126, 120, L, [Y, r.1, H2, r.2.1, RA, RB, ST, NS, I0, I1, I2, BO, FI, RG, GU, PU, MA, MN, MS, OT, SC], [r0, r1, r2, r3, r.2.2, r5, r6, r7, r8], Lg)) : AOut) = o → Ev (d + 7, 0, 0, 213, 0, [.val (.ref 256), .val (.ref 128), .val a_unk], [], (126, 120, L, [Y, T, H2, H, RA, RB, ST, NS, I0, I1, I2, BO, FI, RG, GU, PU, MA, MN, MS, OT, SC], [r0, r1, r2, r3, w, r5, r6, r7, r8], Lg)) o from key _ rfl
  intro o ho
  obtain ⟨⟨x1, T_2, w3⟩, zh1, h⟩ := bnd h
  have zh1 : f_Tape_number T w 0 ((H 0 3) - 1) = some (x1, T_2, w3) := zh1
  have ze2 := R_f_Tape_number_0 (d + 0) Y T H2 H RA RB ST NS I0 I1 I2 BO FI RG GU PU MA MN MS OT SC r0 r1 r2 r3 w r5 r6 r7 r8 L Lg 0 ((H 0 3) - 1) zh1
  suffices e : Ev (d + 7, 0, 0, 213, 11, [.val (.ref 256), .val (.ref 128), .val a_unk], [.int x1], (126, 120, L, [Y, T_2, H2, H, RA, RB, ST, NS, I0, I1, I2, BO, FI, RG, GU, PU, MA, MN, MS, OT, SC], [r0, r1, r2, r3, w3, r5, r6, r7, r8], Lg)) o from ev_call (fun v μ => (d + 7, 0, 0, 213, 11, [.val (.ref 256), .val (.ref 128), .val a_unk], v.toList ++ [], μ)) 7 ze2 e (fun n => Eq.refl _)
  obtain ⟨⟨x4, T_5, w6⟩, zh3, h⟩ := bnd h
  have zh3 : f_Tape_pass T_2 w3 59 = some (x4, T_5, w6) := zh3
  have ze4 := R_f_Tape_pass_0 (d + 0) Y T_2 H2 H RA RB ST NS I0 I1 I2 BO FI RG GU PU MA MN MS OT SC r0 r1 r2 r3 w3 r5 r6 r7 r8 L Lg 59 zh3
  suffices e : Ev (d + 7, 0, 0, 213, 18, [.val (.ref 256), .val (.ref 128), .val (.int x1)], [.int x4], (126, 120, L, [Y, T_5, H2, H, RA, RB, ST, NS, I0, I1, I2, BO, FI, RG, GU, PU, MA, MN, MS, OT, SC], [r0, r1, r2, r3, w6, r5, r6, r7, r8], Lg)) o from ev_call (fun v μ => (d + 7, 0, 0, 213, 18, [.val (.ref 256), .val (.ref 128), .val (.int x1)], v.toList ++ [], μ)) 4 ze4 e (fun n => Eq.refl _)
  by_cases zc5 : x4 = 0
  · have h := itp h zc5
    suffices e : Ev (d + 7, 0, 0, 213, 33, [.val (.ref 256), .val (.ref 128), .val (.int x1)], [], (126, 120, L, [Y, T_5, H2, H, RA, RB, ST, NS, I0, I1, I2, BO, FI, RG, GU, PU, MA, MN, MS, OT, SC], [r0, r1, r2, r3, w6, r5, r6, r7, r8], Lg)) o from ev_t (c := x4 = 0) _ _ 1  zc5 e (fun n => Eq.refl _)
    have ze6 := Option.some.inj h
    subst ze6
    exact ev_rete 1 ho (fun n => Eq.refl _)
  · have h := itn h zc5
    suffices e : Ev (d + 7, 0, 0, 213, 21, [.val (.ref 256), .val (.ref 128), .val (.int x1)], [], (126, 120, L, [Y, T_5, H2, H, RA, RB, ST, NS, I0, I1, I2, BO, FI, RG, GU, PU, MA, MN, MS, OT, SC], [r0, r1, r2, r3, w6, r5, r6, r7, r8], Lg)) o from ev_f (c := x4 = 0) _ _ 1  zc5 e (fun n => Eq.refl _)
    have ze7 := Option.some.inj h
    subst ze7
    exact ev_rete 9 ho (fun n => Eq.refl _)
set_option maxRecDepth 1000000 in
set_option maxHeartbeats 4000000 in
theorem R_f_House_readMoved_0 (d : Nat) (Y T H2 H RA RB ST NS I0 I1 I2 BO FI RG GU PU MA MN MS OT SC : Nat → Nat → Int32) (r0 r1 r2 r3 w r5 r6 r7 r8 : Nat) (L : Nat) (Lg : Int64) {r : (Nat → Nat → Int32) × (Nat → Nat → Int32) × Nat} (h : f_House_readMoved T H w = some r) : Ev (d + 7, 0, 0, 214, 0, [.val (.ref 256), .val (.ref 128), .val a_unk, .val a_unk], [], (126, 120, L, [Y, T, H2, H, RA, RB, ST, NS, I0, I1, I2, BO, FI, RG, GU, PU, MA, MN, MS, OT, SC], [r0, r1, r2, r3, w, r5, r6, r7, r8], Lg)) ((0, none, (126, 120, L, [Y, r.1, H2, r.2.1, RA, RB, ST, NS, I0, I1, I2, BO, FI, RG, GU, PU, MA, MN, MS, OT, SC], [r0, r1, r2, r3, r.2.2, r5, r6, r7, r8], Lg)) : AOut) := by
  suffices key : ∀ o : AOut, ((0, none, (126, 120, L, [Y, r.1, H2, r.2.1, RA, RB, ST, NS, I0, I1, I2, BO, FI, RG, GU, PU, MA, MN, MS, OT, SC], [r0, r1, r2, r3, r.2.2, r5, r6, r7, r8], Lg)) : AOut) = o → Ev (d + 7, 0, 0, 214, 0, [.val (.ref 256), .val (.ref 128), .val a_unk, .val a_unk], [], (126, 120, L, [Y, T, H2, H, RA, RB, ST, NS, I0, I1, I2, BO, FI, RG, GU, PU, MA, MN, MS, OT, SC], [r0, r1, r2, r3, w, r5, r6, r7, r8], Lg)) o from key _ rfl
  intro o ho
  obtain ⟨⟨x1, T_2, w3⟩, zh1, h⟩ := bnd h
  have zh1 : f_Tape_number T w 0 ((H 0 3) - 1) = some (x1, T_2, w3) := zh1
  have ze2 := R_f_Tape_number_0 (d + 0) Y T H2 H RA RB ST NS I0 I1 I2 BO FI RG GU PU MA MN MS OT SC r0 r1 r2 r3 w r5 r6 r7 r8 L Lg 0 ((H 0 3) - 1) zh1
  suffices e : Ev (d + 7, 0, 0, 214, 11, [.val (.ref 256), .val (.ref 128), .val a_unk, .val a_unk], [.int x1], (126, 120, L, [Y, T_2, H2, H, RA, RB, ST, NS, I0, I1, I2, BO, FI, RG, GU, PU, MA, MN, MS, OT, SC], [r0, r1, r2, r3, w3, r5, r6, r7, r8], Lg)) o from ev_call (fun v μ => (d + 7, 0, 0, 214, 11, [.val (.ref 256), .val (.ref 128), .val a_unk, .val a_unk], v.toList ++ [], μ)) 7 ze2 e (fun n => Eq.refl _)
  obtain ⟨⟨x4, T_5, w6⟩, zh3, h⟩ := bnd h
  have zh3 : f_Tape_number T_2 w3 0 99 = some (x4, T_5, w6) := zh3
  have ze4 := R_f_Tape_number_0 (d + 0) Y T_2 H2 H RA RB ST NS I0 I1 I2 BO FI RG GU PU MA MN MS OT SC r0 r1 r2 r3 w3 r5 r6 r7 r8 L Lg 0 99 zh3
  suffices e : Ev (d + 7, 0, 0, 214, 19, [.val (.ref 256), .val (.ref 128), .val (.int x1), .val a_unk], [.int x4], (126, 120, L, [Y, T_5, H2, H, RA, RB, ST, NS, I0, I1, I2, BO, FI, RG, GU, PU, MA, MN, MS, OT, SC], [r0, r1, r2, r3, w6, r5, r6, r7, r8], Lg)) o from ev_call (fun v μ => (d + 7, 0, 0, 214, 19, [.val (.ref 256), .val (.ref 128), .val (.int x1), .val a_unk], v.toList ++ [], μ)) 5 ze4 e (fun n => Eq.refl _)
  obtain ⟨⟨x7, T_8, w9⟩, zh5, h⟩ := bnd h
  have zh5 : f_Tape_pass T_5 w6 59 = some (x7, T_8, w9) := zh5
  have ze6 := R_f_Tape_pass_0 (d + 0) Y T_5 H2 H RA RB ST NS I0 I1 I2 BO FI RG GU PU MA MN MS OT SC r0 r1 r2 r3 w6 r5 r6 r7 r8 L Lg 59 zh5
  suffices e : Ev (d + 7, 0, 0, 214, 26, [.val (.ref 256), .val (.ref 128), .val (.int x1), .val (.int x4)], [.int x7], (126, 120, L, [Y, T_8, H2, H, RA, RB, ST, NS, I0, I1, I2, BO, FI, RG, GU, PU, MA, MN, MS, OT, SC], [r0, r1, r2, r3, w9, r5, r6, r7, r8], Lg)) o from ev_call (fun v μ => (d + 7, 0, 0, 214, 26, [.val (.ref 256), .val (.ref 128), .val (.int x1), .val (.int x4)], v.toList ++ [], μ)) 4 ze6 e (fun n => Eq.refl _)
  by_cases zc7 : x7 = 0
  · have h := itp h zc7
    suffices e : Ev (d + 7, 0, 0, 214, 36, [.val (.ref 256), .val (.ref 128), .val (.int x1), .val (.int x4)], [], (126, 120, L, [Y, T_8, H2, H, RA, RB, ST, NS, I0, I1, I2, BO, FI, RG, GU, PU, MA, MN, MS, OT, SC], [r0, r1, r2, r3, w9, r5, r6, r7, r8], Lg)) o from ev_t (c := x7 = 0) _ _ 1  zc7 e (fun n => Eq.refl _)
    have ze8 := Option.some.inj h
    subst ze8
    exact ev_rete 1 ho (fun n => Eq.refl _)
  · have h := itn h zc7
    suffices e : Ev (d + 7, 0, 0, 214, 29, [.val (.ref 256), .val (.ref 128), .val (.int x1), .val (.int x4)], [], (126, 120, L, [Y, T_8, H2, H, RA, RB, ST, NS, I0, I1, I2, BO, FI, RG, GU, PU, MA, MN, MS, OT, SC], [r0, r1, r2, r3, w9, r5, r6, r7, r8], Lg)) o from ev_f (c := x7 = 0) _ _ 1  zc7 e (fun n => Eq.refl _)
    obtain ⟨j10, zh9, h⟩ := bnd h
    have zh9 : ixx 10 x1 = some j10 := zh9
    suffices e : Ev (d + 7, 0, 0, 214, 36, [.val (.ref 256), .val (.ref 128), .val (.int x1), .val (.int x4)], [], (126, 120, L, [Y, T_8, H2, (u2 H 6 j10 x4), RA, RB, ST, NS, I0, I1, I2, BO, FI, RG, GU, PU, MA, MN, MS, OT, SC], [r0, r1, r2, r3, w9, r5, r6, r7, r8], Lg)) o from ev_opt (fun j10 => (d + 7, 0, 0, 214, 36, [.val (.ref 256), .val (.ref 128), .val (.int x1), .val (.int x4)], [], (126, 120, L, [Y, T_8, H2, (u2 H 6 j10 x4), RA, RB, ST, NS, I0, I1, I2, BO, FI, RG, GU, PU, MA, MN, MS, OT, SC], [r0, r1, r2, r3, w9, r5, r6, r7, r8], Lg))) 5 zh9 e (fun n => Eq.refl _)
    have ze10 := Option.some.inj h
    subst ze10
    exact ev_rete 1 ho (fun n => Eq.refl _)
set_option maxRecDepth 1000000 in
set_option maxHeartbeats 4000000 in
theorem R_f_House_readClause_0 (d : Nat) (Y T H2 H RA RB ST NS I0 I1 I2 BO FI RG GU PU MA MN MS OT SC : Nat → Nat → Int32) (r0 r1 r2 r3 w r5 r6 r7 r8 : Nat) (L : Nat) (Lg : Int64) (s2 : Nat) {r : (Nat → Nat → Int32) × (Nat → Nat → Int32) × Nat} (h : f_House_readClause T H w s2 = some r) : Ev (d + 8, 0, 0, 204, 0, [.val (.ref 256), .val (.ref 128), .val (.ref s2)], [], (126, 120, L, [Y, T, H2, H, RA, RB, ST, NS, I0, I1, I2, BO, FI, RG, GU, PU, MA, MN, MS, OT, SC], [r0, r1, r2, r3, w, r5, r6, r7, r8], Lg)) ((0, none, (126, 120, L, [Y, r.1, H2, r.2.1, RA, RB, ST, NS, I0, I1, I2, BO, FI, RG, GU, PU, MA, MN, MS, OT, SC], [r0, r1, r2, r3, r.2.2, r5, r6, r7, r8], Lg)) : AOut) := by
  suffices key : ∀ o : AOut, ((0, none, (126, 120, L, [Y, r.1, H2, r.2.1, RA, RB, ST, NS, I0, I1, I2, BO, FI, RG, GU, PU, MA, MN, MS, OT, SC], [r0, r1, r2, r3, r.2.2, r5, r6, r7, r8], Lg)) : AOut) = o → Ev (d + 8, 0, 0, 204, 0, [.val (.ref 256), .val (.ref 128), .val (.ref s2)], [], (126, 120, L, [Y, T, H2, H, RA, RB, ST, NS, I0, I1, I2, BO, FI, RG, GU, PU, MA, MN, MS, OT, SC], [r0, r1, r2, r3, w, r5, r6, r7, r8], Lg)) o from key _ rfl
  intro o ho
  by_cases zg2 : ¬ (okW s2)
  · exact nos (itn h zg2)
  have zg2 := Decidable.not_not.mp zg2
  have h := itp h zg2
  by_cases zc1 : s2 = 0
  · have h := itp h zc1
    suffices e : Ev (d + 8, 0, 0, 204, 4, [.val (.ref 256), .val (.ref 128), .val (.ref s2)], [], (126, 120, L, [Y, T, H2, H, RA, RB, ST, NS, I0, I1, I2, BO, FI, RG, GU, PU, MA, MN, MS, OT, SC], [r0, r1, r2, r3, w, r5, r6, r7, r8], Lg)) o from ev_gt (c := s2 = 0) _ _ 2 zg2 zc1 e (fun n => Eq.refl _)
    have ze3 := Option.some.inj h
    subst ze3
    exact ev_rete 1 ho (fun n => Eq.refl _)
  · have h := itn h zc1
    suffices e : Ev (d + 8, 0, 0, 204, 5, [.val (.ref 256), .val (.ref 128), .val (.ref s2)], [], (126, 120, L, [Y, T, H2, H, RA, RB, ST, NS, I0, I1, I2, BO, FI, RG, GU, PU, MA, MN, MS, OT, SC], [r0, r1, r2, r3, w, r5, r6, r7, r8], Lg)) o from ev_gf (c := s2 = 0) _ _ 2 zg2 zc1 e (fun n => Eq.refl _)
    by_cases zg4 : ¬ (isW s2)
    · exact nos (itn h zg4)
    have zg4 := Decidable.not_not.mp zg4
    have h := itp h zg4
    suffices e : Ev (d + 8, 0, 0, 204, 9, [.val (.ref 256), .val (.ref 128), .val (.ref s2)], [.ref s2, .ref 2753], (126, 120, L, [Y, T, H2, H, RA, RB, ST, NS, I0, I1, I2, BO, FI, RG, GU, PU, MA, MN, MS, OT, SC], [r0, r1, r2, r3, w, r5, r6, r7, r8], Lg)) o from ev_b 2 e (fun n => Eq.refl _)
    refine r_inv (args := []) (rest := [.ref 2753]) rfl rfl rfl rfl (cW zg4).1 (cW zg4).2.1 rfl (R_ord (d + 7) s2 (126, 120, L, [Y, T, H2, H, RA, RB, ST, NS, I0, I1, I2, BO, FI, RG, GU, PU, MA, MN, MS, OT, SC], [r0, r1, r2, r3, w, r5, r6, r7, r8], Lg) zg4) ?_
    obtain ⟨x1, zh5, h⟩ := bnd h
    have zh5 : rdx (a_ca 2753) 23 (w_ord s2) = some x1 := zh5
    suffices e : Ev (d + 8, 0, 0, 204, 13, [.val (.ref 256), .val (.ref 128), .val (.ref s2)], [.int x1], (126, 120, L, [Y, T, H2, H, RA, RB, ST, NS, I0, I1, I2, BO, FI, RG, GU, PU, MA, MN, MS, OT, SC], [r0, r1, r2, r3, w, r5, r6, r7, r8], Lg)) o from ev_opt (fun x1 => (d + 8, 0, 0, 204, 13, [.val (.ref 256), .val (.ref 128), .val (.ref s2)], [.int x1], (126, 120, L, [Y, T, H2, H, RA, RB, ST, NS, I0, I1, I2, BO, FI, RG, GU, PU, MA, MN, MS, OT, SC], [r0, r1, r2, r3, w, r5, r6, r7, r8], Lg))) 1 zh5 e (fun n => Eq.refl _)
    by_cases zc6 : x1 = 1
    · have h := itp h zc6
      suffices e : Ev (d + 8, 0, 0, 204, 68, [.val (.ref 256), .val (.ref 128), .val (.ref s2)], [], (126, 120, L, [Y, T, H2, H, RA, RB, ST, NS, I0, I1, I2, BO, FI, RG, GU, PU, MA, MN, MS, OT, SC], [r0, r1, r2, r3, w, r5, r6, r7, r8], Lg)) o from ev_sw [((1 : Int32), 68), ((2 : Int32), 76), ((3 : Int32), 84), ((4 : Int32), 100), ((5 : Int32), 140), ((6 : Int32), 92), ((7 : Int32), 108), ((8 : Int32), 116), ((9 : Int32), 124), ((10 : Int32), 132)] x1 (fun tt => (d + 8, 0, 0, 204, tt, [.val (.ref 256), .val (.ref 128), .val (.ref s2)], [], (126, 120, L, [Y, T, H2, H, RA, RB, ST, NS, I0, I1, I2, BO, FI, RG, GU, PU, MA, MN, MS, OT, SC], [r0, r1, r2, r3, w, r5, r6, r7, r8], Lg))) 140 68 1 (fun f => by simp only [a_sw, if_pos zc6]) e (fun n => Eq.refl _)
      obtain ⟨⟨T_2, H_3, w4⟩, zh7, h⟩ := bnd h
      have zh7 : f_House_readHours T H w = some (T_2, H_3, w4) := zh7
      have ze8 := R_f_House_readHours_0 (d + 0) Y T H2 H RA RB ST NS I0 I1 I2 BO FI RG GU PU MA MN MS OT SC r0 r1 r2 r3 w r5 r6 r7 r8 L Lg zh7
      suffices e : Ev (d + 8, 0, 0, 204, 73, [.val (.ref 256), .val (.ref 128), .val (.ref s2)], [], (126, 120, L, [Y, T_2, H2, H_3, RA, RB, ST, NS, I0, I1, I2, BO, FI, RG, GU, PU, MA, MN, MS, OT, SC], [r0, r1, r2, r3, w4, r5, r6, r7, r8], Lg)) o from ev_call (fun v μ => (d + 8, 0, 0, 204, 73, [.val (.ref 256), .val (.ref 128), .val (.ref s2)], v.toList ++ [], μ)) 3 ze8 e (fun n => Eq.refl _)
      have ze9 := Option.some.inj h
      subst ze9
      exact ev_rete 2 ho (fun n => Eq.refl _)
    have h := itn h zc6
    by_cases zc10 : x1 = 2
    · have h := itp h zc10
      suffices e : Ev (d + 8, 0, 0, 204, 76, [.val (.ref 256), .val (.ref 128), .val (.ref s2)], [], (126, 120, L, [Y, T, H2, H, RA, RB, ST, NS, I0, I1, I2, BO, FI, RG, GU, PU, MA, MN, MS, OT, SC], [r0, r1, r2, r3, w, r5, r6, r7, r8], Lg)) o from ev_sw [((1 : Int32), 68), ((2 : Int32), 76), ((3 : Int32), 84), ((4 : Int32), 100), ((5 : Int32), 140), ((6 : Int32), 92), ((7 : Int32), 108), ((8 : Int32), 116), ((9 : Int32), 124), ((10 : Int32), 132)] x1 (fun tt => (d + 8, 0, 0, 204, tt, [.val (.ref 256), .val (.ref 128), .val (.ref s2)], [], (126, 120, L, [Y, T, H2, H, RA, RB, ST, NS, I0, I1, I2, BO, FI, RG, GU, PU, MA, MN, MS, OT, SC], [r0, r1, r2, r3, w, r5, r6, r7, r8], Lg))) 140 76 1 (fun f => by simp only [a_sw, if_neg zc6, if_pos zc10]) e (fun n => Eq.refl _)
      obtain ⟨⟨T_5, H_6, w7⟩, zh11, h⟩ := bnd h
      have zh11 : f_House_readRoom T H w = some (T_5, H_6, w7) := zh11
      have ze12 := R_f_House_readRoom_0 (d + 0) Y T H2 H RA RB ST NS I0 I1 I2 BO FI RG GU PU MA MN MS OT SC r0 r1 r2 r3 w r5 r6 r7 r8 L Lg zh11
      suffices e : Ev (d + 8, 0, 0, 204, 81, [.val (.ref 256), .val (.ref 128), .val (.ref s2)], [], (126, 120, L, [Y, T_5, H2, H_6, RA, RB, ST, NS, I0, I1, I2, BO, FI, RG, GU, PU, MA, MN, MS, OT, SC], [r0, r1, r2, r3, w7, r5, r6, r7, r8], Lg)) o from ev_call (fun v μ => (d + 8, 0, 0, 204, 81, [.val (.ref 256), .val (.ref 128), .val (.ref s2)], v.toList ++ [], μ)) 3 ze12 e (fun n => Eq.refl _)
      have ze13 := Option.some.inj h
      subst ze13
      exact ev_rete 2 ho (fun n => Eq.refl _)
    have h := itn h zc10
    by_cases zc14 : x1 = 3
    · have h := itp h zc14
      suffices e : Ev (d + 8, 0, 0, 204, 84, [.val (.ref 256), .val (.ref 128), .val (.ref s2)], [], (126, 120, L, [Y, T, H2, H, RA, RB, ST, NS, I0, I1, I2, BO, FI, RG, GU, PU, MA, MN, MS, OT, SC], [r0, r1, r2, r3, w, r5, r6, r7, r8], Lg)) o from ev_sw [((1 : Int32), 68), ((2 : Int32), 76), ((3 : Int32), 84), ((4 : Int32), 100), ((5 : Int32), 140), ((6 : Int32), 92), ((7 : Int32), 108), ((8 : Int32), 116), ((9 : Int32), 124), ((10 : Int32), 132)] x1 (fun tt => (d + 8, 0, 0, 204, tt, [.val (.ref 256), .val (.ref 128), .val (.ref s2)], [], (126, 120, L, [Y, T, H2, H, RA, RB, ST, NS, I0, I1, I2, BO, FI, RG, GU, PU, MA, MN, MS, OT, SC], [r0, r1, r2, r3, w, r5, r6, r7, r8], Lg))) 140 84 1 (fun f => by simp only [a_sw, if_neg zc6, if_neg zc10, if_pos zc14]) e (fun n => Eq.refl _)
      obtain ⟨⟨T_8, H_9, w10⟩, zh15, h⟩ := bnd h
      have zh15 : f_House_readPerson T H w = some (T_8, H_9, w10) := zh15
      have ze16 := R_f_House_readPerson_0 (d + 0) Y T H2 H RA RB ST NS I0 I1 I2 BO FI RG GU PU MA MN MS OT SC r0 r1 r2 r3 w r5 r6 r7 r8 L Lg zh15
      suffices e : Ev (d + 8, 0, 0, 204, 89, [.val (.ref 256), .val (.ref 128), .val (.ref s2)], [], (126, 120, L, [Y, T_8, H2, H_9, RA, RB, ST, NS, I0, I1, I2, BO, FI, RG, GU, PU, MA, MN, MS, OT, SC], [r0, r1, r2, r3, w10, r5, r6, r7, r8], Lg)) o from ev_call (fun v μ => (d + 8, 0, 0, 204, 89, [.val (.ref 256), .val (.ref 128), .val (.ref s2)], v.toList ++ [], μ)) 3 ze16 e (fun n => Eq.refl _)
      have ze17 := Option.some.inj h
      subst ze17
      exact ev_rete 2 ho (fun n => Eq.refl _)
    have h := itn h zc14
    by_cases zc18 : x1 = 4
    · have h := itp h zc18
      suffices e : Ev (d + 8, 0, 0, 204, 100, [.val (.ref 256), .val (.ref 128), .val (.ref s2)], [], (126, 120, L, [Y, T, H2, H, RA, RB, ST, NS, I0, I1, I2, BO, FI, RG, GU, PU, MA, MN, MS, OT, SC], [r0, r1, r2, r3, w, r5, r6, r7, r8], Lg)) o from ev_sw [((1 : Int32), 68), ((2 : Int32), 76), ((3 : Int32), 84), ((4 : Int32), 100), ((5 : Int32), 140), ((6 : Int32), 92), ((7 : Int32), 108), ((8 : Int32), 116), ((9 : Int32), 124), ((10 : Int32), 132)] x1 (fun tt => (d + 8, 0, 0, 204, tt, [.val (.ref 256), .val (.ref 128), .val (.ref s2)], [], (126, 120, L, [Y, T, H2, H, RA, RB, ST, NS, I0, I1, I2, BO, FI, RG, GU, PU, MA, MN, MS, OT, SC], [r0, r1, r2, r3, w, r5, r6, r7, r8], Lg))) 140 100 1 (fun f => by simp only [a_sw, if_neg zc6, if_neg zc10, if_neg zc14, if_pos zc18]) e (fun n => Eq.refl _)
      obtain ⟨⟨T_11, H_12, w13⟩, zh19, h⟩ := bnd h
      have zh19 : f_House_readMeet T H w = some (T_11, H_12, w13) := zh19
      have ze20 := R_f_House_readMeet_0 (d + 0) Y T H2 H RA RB ST NS I0 I1 I2 BO FI RG GU PU MA MN MS OT SC r0 r1 r2 r3 w r5 r6 r7 r8 L Lg zh19
      suffices e : Ev (d + 8, 0, 0, 204, 105, [.val (.ref 256), .val (.ref 128), .val (.ref s2)], [], (126, 120, L, [Y, T_11, H2, H_12, RA, RB, ST, NS, I0, I1, I2, BO, FI, RG, GU, PU, MA, MN, MS, OT, SC], [r0, r1, r2, r3, w13, r5, r6, r7, r8], Lg)) o from ev_call (fun v μ => (d + 8, 0, 0, 204, 105, [.val (.ref 256), .val (.ref 128), .val (.ref s2)], v.toList ++ [], μ)) 3 ze20 e (fun n => Eq.refl _)
      have ze21 := Option.some.inj h
      subst ze21
      exact ev_rete 2 ho (fun n => Eq.refl _)
    have h := itn h zc18
    by_cases zc22 : x1 = 5
    · have h := itp h zc22
      suffices e : Ev (d + 8, 0, 0, 204, 140, [.val (.ref 256), .val (.ref 128), .val (.ref s2)], [], (126, 120, L, [Y, T, H2, H, RA, RB, ST, NS, I0, I1, I2, BO, FI, RG, GU, PU, MA, MN, MS, OT, SC], [r0, r1, r2, r3, w, r5, r6, r7, r8], Lg)) o from ev_sw [((1 : Int32), 68), ((2 : Int32), 76), ((3 : Int32), 84), ((4 : Int32), 100), ((5 : Int32), 140), ((6 : Int32), 92), ((7 : Int32), 108), ((8 : Int32), 116), ((9 : Int32), 124), ((10 : Int32), 132)] x1 (fun tt => (d + 8, 0, 0, 204, tt, [.val (.ref 256), .val (.ref 128), .val (.ref s2)], [], (126, 120, L, [Y, T, H2, H, RA, RB, ST, NS, I0, I1, I2, BO, FI, RG, GU, PU, MA, MN, MS, OT, SC], [r0, r1, r2, r3, w, r5, r6, r7, r8], Lg))) 140 140 1 (fun f => by simp only [a_sw, if_neg zc6, if_neg zc10, if_neg zc14, if_neg zc18, if_pos zc22]) e (fun n => Eq.refl _)
      obtain ⟨⟨T_14, H_15, w16⟩, zh23, h⟩ := bnd h
      have zh23 : f_House_readHold T H w = some (T_14, H_15, w16) := zh23
      have ze24 := R_f_House_readHold_0 (d + 0) Y T H2 H RA RB ST NS I0 I1 I2 BO FI RG GU PU MA MN MS OT SC r0 r1 r2 r3 w r5 r6 r7 r8 L Lg zh23
      suffices e : Ev (d + 8, 0, 0, 204, 145, [.val (.ref 256), .val (.ref 128), .val (.ref s2)], [], (126, 120, L, [Y, T_14, H2, H_15, RA, RB, ST, NS, I0, I1, I2, BO, FI, RG, GU, PU, MA, MN, MS, OT, SC], [r0, r1, r2, r3, w16, r5, r6, r7, r8], Lg)) o from ev_call (fun v μ => (d + 8, 0, 0, 204, 145, [.val (.ref 256), .val (.ref 128), .val (.ref s2)], v.toList ++ [], μ)) 3 ze24 e (fun n => Eq.refl _)
      have ze25 := Option.some.inj h
      subst ze25
      exact ev_rete 1 ho (fun n => Eq.refl _)
    have h := itn h zc22
    by_cases zc26 : x1 = 6
    · have h := itp h zc26
      suffices e : Ev (d + 8, 0, 0, 204, 92, [.val (.ref 256), .val (.ref 128), .val (.ref s2)], [], (126, 120, L, [Y, T, H2, H, RA, RB, ST, NS, I0, I1, I2, BO, FI, RG, GU, PU, MA, MN, MS, OT, SC], [r0, r1, r2, r3, w, r5, r6, r7, r8], Lg)) o from ev_sw [((1 : Int32), 68), ((2 : Int32), 76), ((3 : Int32), 84), ((4 : Int32), 100), ((5 : Int32), 140), ((6 : Int32), 92), ((7 : Int32), 108), ((8 : Int32), 116), ((9 : Int32), 124), ((10 : Int32), 132)] x1 (fun tt => (d + 8, 0, 0, 204, tt, [.val (.ref 256), .val (.ref 128), .val (.ref s2)], [], (126, 120, L, [Y, T, H2, H, RA, RB, ST, NS, I0, I1, I2, BO, FI, RG, GU, PU, MA, MN, MS, OT, SC], [r0, r1, r2, r3, w, r5, r6, r7, r8], Lg))) 140 92 1 (fun f => by simp only [a_sw, if_neg zc6, if_neg zc10, if_neg zc14, if_neg zc18, if_neg zc22, if_pos zc26]) e (fun n => Eq.refl _)
      obtain ⟨⟨T_17, H_18, w19⟩, zh27, h⟩ := bnd h
      have zh27 : f_House_readBusy T H w = some (T_17, H_18, w19) := zh27
      have ze28 := R_f_House_readBusy_0 (d + 0) Y T H2 H RA RB ST NS I0 I1 I2 BO FI RG GU PU MA MN MS OT SC r0 r1 r2 r3 w r5 r6 r7 r8 L Lg zh27
      suffices e : Ev (d + 8, 0, 0, 204, 97, [.val (.ref 256), .val (.ref 128), .val (.ref s2)], [], (126, 120, L, [Y, T_17, H2, H_18, RA, RB, ST, NS, I0, I1, I2, BO, FI, RG, GU, PU, MA, MN, MS, OT, SC], [r0, r1, r2, r3, w19, r5, r6, r7, r8], Lg)) o from ev_call (fun v μ => (d + 8, 0, 0, 204, 97, [.val (.ref 256), .val (.ref 128), .val (.ref s2)], v.toList ++ [], μ)) 3 ze28 e (fun n => Eq.refl _)
      have ze29 := Option.some.inj h
      subst ze29
      exact ev_rete 2 ho (fun n => Eq.refl _)
    have h := itn h zc26
    by_cases zc30 : x1 = 7
    · have h := itp h zc30
      suffices e : Ev (d + 8, 0, 0, 204, 108, [.val (.ref 256), .val (.ref 128), .val (.ref s2)], [], (126, 120, L, [Y, T, H2, H, RA, RB, ST, NS, I0, I1, I2, BO, FI, RG, GU, PU, MA, MN, MS, OT, SC], [r0, r1, r2, r3, w, r5, r6, r7, r8], Lg)) o from ev_sw [((1 : Int32), 68), ((2 : Int32), 76), ((3 : Int32), 84), ((4 : Int32), 100), ((5 : Int32), 140), ((6 : Int32), 92), ((7 : Int32), 108), ((8 : Int32), 116), ((9 : Int32), 124), ((10 : Int32), 132)] x1 (fun tt => (d + 8, 0, 0, 204, tt, [.val (.ref 256), .val (.ref 128), .val (.ref s2)], [], (126, 120, L, [Y, T, H2, H, RA, RB, ST, NS, I0, I1, I2, BO, FI, RG, GU, PU, MA, MN, MS, OT, SC], [r0, r1, r2, r3, w, r5, r6, r7, r8], Lg))) 140 108 1 (fun f => by simp only [a_sw, if_neg zc6, if_neg zc10, if_neg zc14, if_neg zc18, if_neg zc22, if_neg zc26, if_pos zc30]) e (fun n => Eq.refl _)
      obtain ⟨⟨T_20, H_21, w22⟩, zh31, h⟩ := bnd h
      have zh31 : f_House_readWho T H w = some (T_20, H_21, w22) := zh31
      have ze32 := R_f_House_readWho_0 (d + 0) Y T H2 H RA RB ST NS I0 I1 I2 BO FI RG GU PU MA MN MS OT SC r0 r1 r2 r3 w r5 r6 r7 r8 L Lg zh31
      suffices e : Ev (d + 8, 0, 0, 204, 113, [.val (.ref 256), .val (.ref 128), .val (.ref s2)], [], (126, 120, L, [Y, T_20, H2, H_21, RA, RB, ST, NS, I0, I1, I2, BO, FI, RG, GU, PU, MA, MN, MS, OT, SC], [r0, r1, r2, r3, w22, r5, r6, r7, r8], Lg)) o from ev_call (fun v μ => (d + 8, 0, 0, 204, 113, [.val (.ref 256), .val (.ref 128), .val (.ref s2)], v.toList ++ [], μ)) 3 ze32 e (fun n => Eq.refl _)
      have ze33 := Option.some.inj h
      subst ze33
      exact ev_rete 2 ho (fun n => Eq.refl _)
    have h := itn h zc30
    by_cases zc34 : x1 = 8
    · have h := itp h zc34
      suffices e : Ev (d + 8, 0, 0, 204, 116, [.val (.ref 256), .val (.ref 128), .val (.ref s2)], [], (126, 120, L, [Y, T, H2, H, RA, RB, ST, NS, I0, I1, I2, BO, FI, RG, GU, PU, MA, MN, MS, OT, SC], [r0, r1, r2, r3, w, r5, r6, r7, r8], Lg)) o from ev_sw [((1 : Int32), 68), ((2 : Int32), 76), ((3 : Int32), 84), ((4 : Int32), 100), ((5 : Int32), 140), ((6 : Int32), 92), ((7 : Int32), 108), ((8 : Int32), 116), ((9 : Int32), 124), ((10 : Int32), 132)] x1 (fun tt => (d + 8, 0, 0, 204, tt, [.val (.ref 256), .val (.ref 128), .val (.ref s2)], [], (126, 120, L, [Y, T, H2, H, RA, RB, ST, NS, I0, I1, I2, BO, FI, RG, GU, PU, MA, MN, MS, OT, SC], [r0, r1, r2, r3, w, r5, r6, r7, r8], Lg))) 140 116 1 (fun f => by simp only [a_sw, if_neg zc6, if_neg zc10, if_neg zc14, if_neg zc18, if_neg zc22, if_neg zc26, if_neg zc30, if_pos zc34]) e (fun n => Eq.refl _)
      obtain ⟨⟨T_23, H_24, w25⟩, zh35, h⟩ := bnd h
      have zh35 : f_House_readMay T H w = some (T_23, H_24, w25) := zh35
      have ze36 := R_f_House_readMay_0 (d + 0) Y T H2 H RA RB ST NS I0 I1 I2 BO FI RG GU PU MA MN MS OT SC r0 r1 r2 r3 w r5 r6 r7 r8 L Lg zh35
      suffices e : Ev (d + 8, 0, 0, 204, 121, [.val (.ref 256), .val (.ref 128), .val (.ref s2)], [], (126, 120, L, [Y, T_23, H2, H_24, RA, RB, ST, NS, I0, I1, I2, BO, FI, RG, GU, PU, MA, MN, MS, OT, SC], [r0, r1, r2, r3, w25, r5, r6, r7, r8], Lg)) o from ev_call (fun v μ => (d + 8, 0, 0, 204, 121, [.val (.ref 256), .val (.ref 128), .val (.ref s2)], v.toList ++ [], μ)) 3 ze36 e (fun n => Eq.refl _)
      have ze37 := Option.some.inj h
      subst ze37
      exact ev_rete 2 ho (fun n => Eq.refl _)
    have h := itn h zc34
    by_cases zc38 : x1 = 9
    · have h := itp h zc38
      suffices e : Ev (d + 8, 0, 0, 204, 124, [.val (.ref 256), .val (.ref 128), .val (.ref s2)], [], (126, 120, L, [Y, T, H2, H, RA, RB, ST, NS, I0, I1, I2, BO, FI, RG, GU, PU, MA, MN, MS, OT, SC], [r0, r1, r2, r3, w, r5, r6, r7, r8], Lg)) o from ev_sw [((1 : Int32), 68), ((2 : Int32), 76), ((3 : Int32), 84), ((4 : Int32), 100), ((5 : Int32), 140), ((6 : Int32), 92), ((7 : Int32), 108), ((8 : Int32), 116), ((9 : Int32), 124), ((10 : Int32), 132)] x1 (fun tt => (d + 8, 0, 0, 204, tt, [.val (.ref 256), .val (.ref 128), .val (.ref s2)], [], (126, 120, L, [Y, T, H2, H, RA, RB, ST, NS, I0, I1, I2, BO, FI, RG, GU, PU, MA, MN, MS, OT, SC], [r0, r1, r2, r3, w, r5, r6, r7, r8], Lg))) 140 124 1 (fun f => by simp only [a_sw, if_neg zc6, if_neg zc10, if_neg zc14, if_neg zc18, if_neg zc22, if_neg zc26, if_neg zc30, if_neg zc34, if_pos zc38]) e (fun n => Eq.refl _)
      obtain ⟨⟨T_26, H_27, w28⟩, zh39, h⟩ := bnd h
      have zh39 : f_House_readFixed T H w = some (T_26, H_27, w28) := zh39
      have ze40 := R_f_House_readFixed_0 (d + 0) Y T H2 H RA RB ST NS I0 I1 I2 BO FI RG GU PU MA MN MS OT SC r0 r1 r2 r3 w r5 r6 r7 r8 L Lg zh39
      suffices e : Ev (d + 8, 0, 0, 204, 129, [.val (.ref 256), .val (.ref 128), .val (.ref s2)], [], (126, 120, L, [Y, T_26, H2, H_27, RA, RB, ST, NS, I0, I1, I2, BO, FI, RG, GU, PU, MA, MN, MS, OT, SC], [r0, r1, r2, r3, w28, r5, r6, r7, r8], Lg)) o from ev_call (fun v μ => (d + 8, 0, 0, 204, 129, [.val (.ref 256), .val (.ref 128), .val (.ref s2)], v.toList ++ [], μ)) 3 ze40 e (fun n => Eq.refl _)
      have ze41 := Option.some.inj h
      subst ze41
      exact ev_rete 2 ho (fun n => Eq.refl _)
    have h := itn h zc38
    by_cases zc42 : x1 = 10
    · have h := itp h zc42
      suffices e : Ev (d + 8, 0, 0, 204, 132, [.val (.ref 256), .val (.ref 128), .val (.ref s2)], [], (126, 120, L, [Y, T, H2, H, RA, RB, ST, NS, I0, I1, I2, BO, FI, RG, GU, PU, MA, MN, MS, OT, SC], [r0, r1, r2, r3, w, r5, r6, r7, r8], Lg)) o from ev_sw [((1 : Int32), 68), ((2 : Int32), 76), ((3 : Int32), 84), ((4 : Int32), 100), ((5 : Int32), 140), ((6 : Int32), 92), ((7 : Int32), 108), ((8 : Int32), 116), ((9 : Int32), 124), ((10 : Int32), 132)] x1 (fun tt => (d + 8, 0, 0, 204, tt, [.val (.ref 256), .val (.ref 128), .val (.ref s2)], [], (126, 120, L, [Y, T, H2, H, RA, RB, ST, NS, I0, I1, I2, BO, FI, RG, GU, PU, MA, MN, MS, OT, SC], [r0, r1, r2, r3, w, r5, r6, r7, r8], Lg))) 140 132 1 (fun f => by simp only [a_sw, if_neg zc6, if_neg zc10, if_neg zc14, if_neg zc18, if_neg zc22, if_neg zc26, if_neg zc30, if_neg zc34, if_neg zc38, if_pos zc42]) e (fun n => Eq.refl _)
      obtain ⟨⟨T_29, H_30, w31⟩, zh43, h⟩ := bnd h
      have zh43 : f_House_readMoved T H w = some (T_29, H_30, w31) := zh43
      have ze44 := R_f_House_readMoved_0 (d + 0) Y T H2 H RA RB ST NS I0 I1 I2 BO FI RG GU PU MA MN MS OT SC r0 r1 r2 r3 w r5 r6 r7 r8 L Lg zh43
      suffices e : Ev (d + 8, 0, 0, 204, 137, [.val (.ref 256), .val (.ref 128), .val (.ref s2)], [], (126, 120, L, [Y, T_29, H2, H_30, RA, RB, ST, NS, I0, I1, I2, BO, FI, RG, GU, PU, MA, MN, MS, OT, SC], [r0, r1, r2, r3, w31, r5, r6, r7, r8], Lg)) o from ev_call (fun v μ => (d + 8, 0, 0, 204, 137, [.val (.ref 256), .val (.ref 128), .val (.ref s2)], v.toList ++ [], μ)) 3 ze44 e (fun n => Eq.refl _)
      have ze45 := Option.some.inj h
      subst ze45
      exact ev_rete 2 ho (fun n => Eq.refl _)
    have h := itn h zc42
    suffices e : Ev (d + 8, 0, 0, 204, 140, [.val (.ref 256), .val (.ref 128), .val (.ref s2)], [], (126, 120, L, [Y, T, H2, H, RA, RB, ST, NS, I0, I1, I2, BO, FI, RG, GU, PU, MA, MN, MS, OT, SC], [r0, r1, r2, r3, w, r5, r6, r7, r8], Lg)) o from ev_sw [((1 : Int32), 68), ((2 : Int32), 76), ((3 : Int32), 84), ((4 : Int32), 100), ((5 : Int32), 140), ((6 : Int32), 92), ((7 : Int32), 108), ((8 : Int32), 116), ((9 : Int32), 124), ((10 : Int32), 132)] x1 (fun tt => (d + 8, 0, 0, 204, tt, [.val (.ref 256), .val (.ref 128), .val (.ref s2)], [], (126, 120, L, [Y, T, H2, H, RA, RB, ST, NS, I0, I1, I2, BO, FI, RG, GU, PU, MA, MN, MS, OT, SC], [r0, r1, r2, r3, w, r5, r6, r7, r8], Lg))) 140 140 1 (fun f => by simp only [a_sw, if_neg zc6, if_neg zc10, if_neg zc14, if_neg zc18, if_neg zc22, if_neg zc26, if_neg zc30, if_neg zc34, if_neg zc38, if_neg zc42]) e (fun n => Eq.refl _)
    obtain ⟨⟨T_32, H_33, w34⟩, zh46, h⟩ := bnd h
    have zh46 : f_House_readHold T H w = some (T_32, H_33, w34) := zh46
    have ze47 := R_f_House_readHold_0 (d + 0) Y T H2 H RA RB ST NS I0 I1 I2 BO FI RG GU PU MA MN MS OT SC r0 r1 r2 r3 w r5 r6 r7 r8 L Lg zh46
    suffices e : Ev (d + 8, 0, 0, 204, 145, [.val (.ref 256), .val (.ref 128), .val (.ref s2)], [], (126, 120, L, [Y, T_32, H2, H_33, RA, RB, ST, NS, I0, I1, I2, BO, FI, RG, GU, PU, MA, MN, MS, OT, SC], [r0, r1, r2, r3, w34, r5, r6, r7, r8], Lg)) o from ev_call (fun v μ => (d + 8, 0, 0, 204, 145, [.val (.ref 256), .val (.ref 128), .val (.ref s2)], v.toList ++ [], μ)) 3 ze47 e (fun n => Eq.refl _)
    have ze48 := Option.some.inj h
    subst ze48
    exact ev_rete 1 ho (fun n => Eq.refl _)
set_option maxRecDepth 1000000 in
set_option maxHeartbeats 4000000 in
theorem R_f_House_mayHours_0 (d : Nat) (Y T H2 H RA RB ST NS I0 I1 I2 BO FI RG GU PU MA MN MS OT SC : Nat → Nat → Int32) (r0 r1 r2 r3 w r5 r6 r7 r8 : Nat) (L : Nat) (Lg : Int64) (p1 : Int32) {r : Int32} (h : f_House_mayHours H p1 = some r) : Ev (d + 0, 0, 0, 218, 0, [.val (.ref 256), .val (.int p1)], [], (126, 120, L, [Y, T, H2, H, RA, RB, ST, NS, I0, I1, I2, BO, FI, RG, GU, PU, MA, MN, MS, OT, SC], [r0, r1, r2, r3, w, r5, r6, r7, r8], Lg)) ((0, some (.int r), (126, 120, L, [Y, T, H2, H, RA, RB, ST, NS, I0, I1, I2, BO, FI, RG, GU, PU, MA, MN, MS, OT, SC], [r0, r1, r2, r3, w, r5, r6, r7, r8], Lg)) : AOut) := by
  suffices key : ∀ o : AOut, ((0, some (.int r), (126, 120, L, [Y, T, H2, H, RA, RB, ST, NS, I0, I1, I2, BO, FI, RG, GU, PU, MA, MN, MS, OT, SC], [r0, r1, r2, r3, w, r5, r6, r7, r8], Lg)) : AOut) = o → Ev (d + 0, 0, 0, 218, 0, [.val (.ref 256), .val (.int p1)], [], (126, 120, L, [Y, T, H2, H, RA, RB, ST, NS, I0, I1, I2, BO, FI, RG, GU, PU, MA, MN, MS, OT, SC], [r0, r1, r2, r3, w, r5, r6, r7, r8], Lg)) o from key _ rfl
  intro o ho
  obtain ⟨x1, zh1, h⟩ := bnd h
  have zh1 : rdx (H 9) 10 p1 = some x1 := zh1
  suffices e : Ev (d + 0, 0, 0, 218, 6, [.val (.ref 256), .val (.int p1)], [.int x1], (126, 120, L, [Y, T, H2, H, RA, RB, ST, NS, I0, I1, I2, BO, FI, RG, GU, PU, MA, MN, MS, OT, SC], [r0, r1, r2, r3, w, r5, r6, r7, r8], Lg)) o from ev_opt (fun x1 => (d + 0, 0, 0, 218, 6, [.val (.ref 256), .val (.int p1)], [.int x1], (126, 120, L, [Y, T, H2, H, RA, RB, ST, NS, I0, I1, I2, BO, FI, RG, GU, PU, MA, MN, MS, OT, SC], [r0, r1, r2, r3, w, r5, r6, r7, r8], Lg))) 4 zh1 e (fun n => Eq.refl _)
  by_cases zc2 : x1 ≠ 0
  · have h := itp h zc2
    suffices e : Ev (d + 0, 0, 0, 218, 20, [.val (.ref 256), .val (.int p1)], [], (126, 120, L, [Y, T, H2, H, RA, RB, ST, NS, I0, I1, I2, BO, FI, RG, GU, PU, MA, MN, MS, OT, SC], [r0, r1, r2, r3, w, r5, r6, r7, r8], Lg)) o from ev_t (c := x1 ≠ 0) _ _ 1  zc2 e (fun n => Eq.refl _)
    obtain ⟨x2, zh3, h⟩ := bnd h
    have zh3 : rdx (H 9) 10 p1 = some x2 := zh3
    suffices e : Ev (d + 0, 0, 0, 218, 26, [.val (.ref 256), .val (.int p1)], [.int x2], (126, 120, L, [Y, T, H2, H, RA, RB, ST, NS, I0, I1, I2, BO, FI, RG, GU, PU, MA, MN, MS, OT, SC], [r0, r1, r2, r3, w, r5, r6, r7, r8], Lg)) o from ev_opt (fun x2 => (d + 0, 0, 0, 218, 26, [.val (.ref 256), .val (.int p1)], [.int x2], (126, 120, L, [Y, T, H2, H, RA, RB, ST, NS, I0, I1, I2, BO, FI, RG, GU, PU, MA, MN, MS, OT, SC], [r0, r1, r2, r3, w, r5, r6, r7, r8], Lg))) 4 zh3 e (fun n => Eq.refl _)
    have ze4 := Option.some.inj h
    subst ze4
    exact ev_rete 1 ho (fun n => Eq.refl _)
  · have h := itn h zc2
    suffices e : Ev (d + 0, 0, 0, 218, 9, [.val (.ref 256), .val (.int p1)], [], (126, 120, L, [Y, T, H2, H, RA, RB, ST, NS, I0, I1, I2, BO, FI, RG, GU, PU, MA, MN, MS, OT, SC], [r0, r1, r2, r3, w, r5, r6, r7, r8], Lg)) o from ev_f (c := x1 ≠ 0) _ _ 1  zc2 e (fun n => Eq.refl _)
    have ze5 := Option.some.inj h
    subst ze5
    exact ev_rete 8 ho (fun n => Eq.refl _)
set_option maxRecDepth 1000000 in
set_option maxHeartbeats 4000000 in
theorem R_f_House_busyHoursOf_0 (d : Nat) (Y T H2 H RA RB ST NS I0 I1 I2 BO FI RG GU PU MA MN MS OT SC : Nat → Nat → Int32) (r0 r1 r2 r3 w r5 r6 r7 r8 : Nat) (L : Nat) (Lg : Int64) (p1 : Int32) {r : Int32} (h : f_House_busyHoursOf H p1 = some r) : Ev (d + 0, 0, 0, 219, 0, [.val (.ref 256), .val (.int p1), .val a_unk, .val a_unk], [], (126, 120, L, [Y, T, H2, H, RA, RB, ST, NS, I0, I1, I2, BO, FI, RG, GU, PU, MA, MN, MS, OT, SC], [r0, r1, r2, r3, w, r5, r6, r7, r8], Lg)) ((0, some (.int r), (126, 120, L, [Y, T, H2, H, RA, RB, ST, NS, I0, I1, I2, BO, FI, RG, GU, PU, MA, MN, MS, OT, SC], [r0, r1, r2, r3, w, r5, r6, r7, r8], Lg)) : AOut) := by
  suffices key : ∀ o : AOut, ((0, some (.int r), (126, 120, L, [Y, T, H2, H, RA, RB, ST, NS, I0, I1, I2, BO, FI, RG, GU, PU, MA, MN, MS, OT, SC], [r0, r1, r2, r3, w, r5, r6, r7, r8], Lg)) : AOut) = o → Ev (d + 0, 0, 0, 219, 0, [.val (.ref 256), .val (.int p1), .val a_unk, .val a_unk], [], (126, 120, L, [Y, T, H2, H, RA, RB, ST, NS, I0, I1, I2, BO, FI, RG, GU, PU, MA, MN, MS, OT, SC], [r0, r1, r2, r3, w, r5, r6, r7, r8], Lg)) o from key _ rfl
  intro o ho
  obtain ⟨v4, zh2, h⟩ := bnd h
  suffices e : Ev (d + 0, 0, 0, 219, 4, [.val (.ref 256), .val (.int p1), .val (.int 0), .val (.int 0)], [], (126, 120, L, [Y, T, H2, H, RA, RB, ST, NS, I0, I1, I2, BO, FI, RG, GU, PU, MA, MN, MS, OT, SC], [r0, r1, r2, r3, w, r5, r6, r7, r8], Lg)) o from ev_b 4 e (fun n => Eq.refl _)
  refine ev_loop (δ := Unit) (fun a j => (d + 0, 0, 0, 219, 4, [.val (.ref 256), .val (.int p1), .val (.int a.1), .val (.int a.2)], [], (126, 120, L, [Y, T, H2, H, RA, RB, ST, NS, I0, I1, I2, BO, FI, RG, GU, PU, MA, MN, MS, OT, SC], [r0, r1, r2, r3, w, r5, r6, r7, r8], Lg))) (fun b => ∀ s5 : Value, Ev (d + 0, 0, 0, 219, 35, [.val (.ref 256), .val (.int p1), .val (.int b), .val s5], [], (126, 120, L, [Y, T, H2, H, RA, RB, ST, NS, I0, I1, I2, BO, FI, RG, GU, PU, MA, MN, MS, OT, SC], [r0, r1, r2, r3, w, r5, r6, r7, r8], Lg)) o) ?_ a_F (0, 0) v4 zh2 ?_ ()
  · rintro ⟨v1, v2⟩ zr6 zh5 zi3 zx4 ⟨⟩
    have zh5 : f_House_busyHoursOf_l4 H p1 v1 v2 = some zr6 := zh5
    by_cases zc7 : (H 0 2) ≤ v2
    · have zh5 := itp zh5 zc7
      suffices e : Ev (d + 0, 0, 0, 219, 35, [.val (.ref 256), .val (.int p1), .val (.int v1), .val (.int v2)], [], (126, 120, L, [Y, T, H2, H, RA, RB, ST, NS, I0, I1, I2, BO, FI, RG, GU, PU, MA, MN, MS, OT, SC], [r0, r1, r2, r3, w, r5, r6, r7, r8], Lg)) o from ev_t (c := (H 0 2) ≤ v2) _ _ 4  zc7 e (fun n => Eq.refl _)
      exact ev_b 0 (zx4 _ (Option.some.inj zh5).symm (.int v2)) (fun n => Eq.refl _)
    · have zh5 := itn zh5 zc7
      suffices e : Ev (d + 0, 0, 0, 219, 12, [.val (.ref 256), .val (.int p1), .val (.int v1), .val (.int v2)], [], (126, 120, L, [Y, T, H2, H, RA, RB, ST, NS, I0, I1, I2, BO, FI, RG, GU, PU, MA, MN, MS, OT, SC], [r0, r1, r2, r3, w, r5, r6, r7, r8], Lg)) o from ev_f (c := (H 0 2) ≤ v2) _ _ 4  zc7 e (fun n => Eq.refl _)
      by_cases zc8 : ((a_shr p1 v2) &&& 1) = 0
      · have zh5 := itp zh5 zc8
        suffices e : Ev (d + 0, 0, 0, 219, 29, [.val (.ref 256), .val (.int p1), .val (.int v1), .val (.int v2)], [], (126, 120, L, [Y, T, H2, H, RA, RB, ST, NS, I0, I1, I2, BO, FI, RG, GU, PU, MA, MN, MS, OT, SC], [r0, r1, r2, r3, w, r5, r6, r7, r8], Lg)) o from ev_t (c := ((a_shr p1 v2) &&& 1) = 0) _ _ 6  zc8 e (fun n => Eq.refl _)
        exact ev_b 2 (zi3 _ (Option.some.inj zh5).symm ()) (fun n => Eq.refl _)
      · have zh5 := itn zh5 zc8
        suffices e : Ev (d + 0, 0, 0, 219, 20, [.val (.ref 256), .val (.int p1), .val (.int v1), .val (.int v2)], [], (126, 120, L, [Y, T, H2, H, RA, RB, ST, NS, I0, I1, I2, BO, FI, RG, GU, PU, MA, MN, MS, OT, SC], [r0, r1, r2, r3, w, r5, r6, r7, r8], Lg)) o from ev_f (c := ((a_shr p1 v2) &&& 1) = 0) _ _ 6  zc8 e (fun n => Eq.refl _)
        obtain ⟨x3, zh9, zh5⟩ := bnd zh5
        have zh9 : rdx (H 4) 8 v2 = some x3 := zh9
        suffices e : Ev (d + 0, 0, 0, 219, 27, [.val (.ref 256), .val (.int p1), .val (.int v1), .val (.int v2)], [.int x3, .int v1], (126, 120, L, [Y, T, H2, H, RA, RB, ST, NS, I0, I1, I2, BO, FI, RG, GU, PU, MA, MN, MS, OT, SC], [r0, r1, r2, r3, w, r5, r6, r7, r8], Lg)) o from ev_opt (fun x3 => (d + 0, 0, 0, 219, 27, [.val (.ref 256), .val (.int p1), .val (.int v1), .val (.int v2)], [.int x3, .int v1], (126, 120, L, [Y, T, H2, H, RA, RB, ST, NS, I0, I1, I2, BO, FI, RG, GU, PU, MA, MN, MS, OT, SC], [r0, r1, r2, r3, w, r5, r6, r7, r8], Lg))) 5 zh9 e (fun n => Eq.refl _)
        exact ev_b 4 (zi3 _ (Option.some.inj zh5).symm ()) (fun n => Eq.refl _)
  · skip
    intro s5
    have ze10 := Option.some.inj h
    subst ze10
    exact ev_rete 2 ho (fun n => Eq.refl _)
set_option maxRecDepth 1000000 in
set_option maxHeartbeats 4000000 in
theorem R_f_House_settle_0 (d : Nat) (Y T H2 H RA RB ST NS I0 I1 I2 BO FI RG GU PU MA MN MS OT SC : Nat → Nat → Int32) (r0 r1 r2 r3 w r5 r6 r7 r8 : Nat) (L : Nat) (Lg : Int64) {r : (Nat → Nat → Int32)} (h : f_House_settle H = some r) : Ev (d + 1, 0, 0, 216, 0, [.val (.ref 256), .val a_unk], [], (126, 120, L, [Y, T, H2, H, RA, RB, ST, NS, I0, I1, I2, BO, FI, RG, GU, PU, MA, MN, MS, OT, SC], [r0, r1, r2, r3, w, r5, r6, r7, r8], Lg)) ((0, none, (126, 120, L, [Y, T, H2, r, RA, RB, ST, NS, I0, I1, I2, BO, FI, RG, GU, PU, MA, MN, MS, OT, SC], [r0, r1, r2, r3, w, r5, r6, r7, r8], Lg)) : AOut) := by
  suffices key : ∀ o : AOut, ((0, none, (126, 120, L, [Y, T, H2, r, RA, RB, ST, NS, I0, I1, I2, BO, FI, RG, GU, PU, MA, MN, MS, OT, SC], [r0, r1, r2, r3, w, r5, r6, r7, r8], Lg)) : AOut) = o → Ev (d + 1, 0, 0, 216, 0, [.val (.ref 256), .val a_unk], [], (126, 120, L, [Y, T, H2, H, RA, RB, ST, NS, I0, I1, I2, BO, FI, RG, GU, PU, MA, MN, MS, OT, SC], [r0, r1, r2, r3, w, r5, r6, r7, r8], Lg)) o from key _ rfl
  intro o ho
  obtain ⟨H_8, zh2, h⟩ := bnd h
  suffices e : Ev (d + 1, 0, 0, 216, 2, [.val (.ref 256), .val (.int 0)], [], (126, 120, L, [Y, T, H2, H, RA, RB, ST, NS, I0, I1, I2, BO, FI, RG, GU, PU, MA, MN, MS, OT, SC], [r0, r1, r2, r3, w, r5, r6, r7, r8], Lg)) o from ev_b 2 e (fun n => Eq.refl _)
  refine ev_loop (δ := Unit) (fun a j => (d + 1, 0, 0, 216, 2, [.val (.ref 256), .val (.int a.1)], [], (126, 120, L, [Y, T, H2, a.2, RA, RB, ST, NS, I0, I1, I2, BO, FI, RG, GU, PU, MA, MN, MS, OT, SC], [r0, r1, r2, r3, w, r5, r6, r7, r8], Lg))) (fun b => ∀ s7 : Value, Ev (d + 1, 0, 0, 216, 40, [.val (.ref 256), .val s7], [], (126, 120, L, [Y, T, H2, b, RA, RB, ST, NS, I0, I1, I2, BO, FI, RG, GU, PU, MA, MN, MS, OT, SC], [r0, r1, r2, r3, w, r5, r6, r7, r8], Lg)) o) ?_ a_F (0, H) H_8 zh2 ?_ ()
  · rintro ⟨v1, H_2⟩ zr6 zh5 zi3 zx4 ⟨⟩
    have zh5 : f_House_settle_l2 v1 H_2 = some zr6 := zh5
    by_cases zc7 : (H_2 0 3) ≤ v1
    · have zh5 := itp zh5 zc7
      suffices e : Ev (d + 1, 0, 0, 216, 40, [.val (.ref 256), .val (.int v1)], [], (126, 120, L, [Y, T, H2, H_2, RA, RB, ST, NS, I0, I1, I2, BO, FI, RG, GU, PU, MA, MN, MS, OT, SC], [r0, r1, r2, r3, w, r5, r6, r7, r8], Lg)) o from ev_t (c := (H_2 0 3) ≤ v1) _ _ 4  zc7 e (fun n => Eq.refl _)
      exact ev_b 0 (zx4 _ (Option.some.inj zh5).symm (.int v1)) (fun n => Eq.refl _)
    · have zh5 := itn zh5 zc7
      suffices e : Ev (d + 1, 0, 0, 216, 10, [.val (.ref 256), .val (.int v1)], [], (126, 120, L, [Y, T, H2, H_2, RA, RB, ST, NS, I0, I1, I2, BO, FI, RG, GU, PU, MA, MN, MS, OT, SC], [r0, r1, r2, r3, w, r5, r6, r7, r8], Lg)) o from ev_f (c := (H_2 0 3) ≤ v1) _ _ 4  zc7 e (fun n => Eq.refl _)
      obtain ⟨x3, zh8, zh5⟩ := bnd zh5
      have zh8 : f_House_mayHours H_2 v1 = some x3 := zh8
      have ze9 := R_f_House_mayHours_0 (d + 0) Y T H2 H_2 RA RB ST NS I0 I1 I2 BO FI RG GU PU MA MN MS OT SC r0 r1 r2 r3 w r5 r6 r7 r8 L Lg v1 zh8
      suffices e : Ev (d + 1, 0, 0, 216, 20, [.val (.ref 256), .val (.int v1)], [.int x3, .int v1, .ref 266], (126, 120, L, [Y, T, H2, H_2, RA, RB, ST, NS, I0, I1, I2, BO, FI, RG, GU, PU, MA, MN, MS, OT, SC], [r0, r1, r2, r3, w, r5, r6, r7, r8], Lg)) o from ev_call (fun v μ => (d + 1, 0, 0, 216, 20, [.val (.ref 256), .val (.int v1)], v.toList ++ [.int v1, .ref 266], μ)) 6 ze9 e (fun n => Eq.refl _)
      obtain ⟨x4, zh10, zh5⟩ := bnd zh5
      have zh10 : rdx (H_2 8) 10 v1 = some x4 := zh10
      suffices e : Ev (d + 1, 0, 0, 216, 27, [.val (.ref 256), .val (.int v1)], [.int x4, .ref 256, .int x3, .int v1, .ref 266], (126, 120, L, [Y, T, H2, H_2, RA, RB, ST, NS, I0, I1, I2, BO, FI, RG, GU, PU, MA, MN, MS, OT, SC], [r0, r1, r2, r3, w, r5, r6, r7, r8], Lg)) o from ev_opt (fun x4 => (d + 1, 0, 0, 216, 27, [.val (.ref 256), .val (.int v1)], [.int x4, .ref 256, .int x3, .int v1, .ref 266], (126, 120, L, [Y, T, H2, H_2, RA, RB, ST, NS, I0, I1, I2, BO, FI, RG, GU, PU, MA, MN, MS, OT, SC], [r0, r1, r2, r3, w, r5, r6, r7, r8], Lg))) 5 zh10 e (fun n => Eq.refl _)
      obtain ⟨x5, zh11, zh5⟩ := bnd zh5
      have zh11 : f_House_busyHoursOf H_2 x4 = some x5 := zh11
      have ze12 := R_f_House_busyHoursOf_0 (d + 0) Y T H2 H_2 RA RB ST NS I0 I1 I2 BO FI RG GU PU MA MN MS OT SC r0 r1 r2 r3 w r5 r6 r7 r8 L Lg x4 zh11
      suffices e : Ev (d + 1, 0, 0, 216, 30, [.val (.ref 256), .val (.int v1)], [.int x5, .int x3, .int v1, .ref 266], (126, 120, L, [Y, T, H2, H_2, RA, RB, ST, NS, I0, I1, I2, BO, FI, RG, GU, PU, MA, MN, MS, OT, SC], [r0, r1, r2, r3, w, r5, r6, r7, r8], Lg)) o from ev_call (fun v μ => (d + 1, 0, 0, 216, 30, [.val (.ref 256), .val (.int v1)], v.toList ++ [.int x3, .int v1, .ref 266], μ)) 1 ze12 e (fun n => Eq.refl _)
      obtain ⟨j6, zh13, zh5⟩ := bnd zh5
      have zh13 : ixx 10 v1 = some j6 := zh13
      suffices e : Ev (d + 1, 0, 0, 216, 34, [.val (.ref 256), .val (.int v1)], [], (126, 120, L, [Y, T, H2, (u2 H_2 10 j6 (x3 &&& (x5 ^^^ (-1)))), RA, RB, ST, NS, I0, I1, I2, BO, FI, RG, GU, PU, MA, MN, MS, OT, SC], [r0, r1, r2, r3, w, r5, r6, r7, r8], Lg)) o from ev_opt (fun j6 => (d + 1, 0, 0, 216, 34, [.val (.ref 256), .val (.int v1)], [], (126, 120, L, [Y, T, H2, (u2 H_2 10 j6 (x3 &&& (x5 ^^^ (-1)))), RA, RB, ST, NS, I0, I1, I2, BO, FI, RG, GU, PU, MA, MN, MS, OT, SC], [r0, r1, r2, r3, w, r5, r6, r7, r8], Lg))) 4 zh13 e (fun n => Eq.refl _)
      exact ev_b 2 (zi3 _ (Option.some.inj zh5).symm ()) (fun n => Eq.refl _)
  · skip
    intro s7
    have ze14 := Option.some.inj h
    subst ze14
    exact ev_rete 1 ho (fun n => Eq.refl _)
