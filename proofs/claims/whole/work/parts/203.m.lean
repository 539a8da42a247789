/-! printed by program (gen/emitm.py): the reference's methods run as their functions say -/
set_option maxRecDepth 1000000 in
set_option maxHeartbeats 4000000 in
theorem R_f_M_findGoals_0 (d : Nat) (Y T HA HB RA RB ST NS I0 I1 I2 BO FI RG GU PU MA MN MS OT SC : Nat → Nat → Int32) (r0 r1 r2 r3 w r5 r6 r7 r8 : Nat) (L : Nat) (Lg : Int64) {r : (Nat → Nat → Int32)} (h : f_M_findGoals MA MS = some r) : Ev (d + 1, 0, 0, 43, 0, [.val (.ref 1088), .val a_unk], [], (126, 120, L, [Y, T, HA, HB, RA, RB, ST, NS, I0, I1, I2, BO, FI, RG, GU, PU, MA, MN, MS, OT, SC], [r0, r1, r2, r3, w, r5, r6, r7, r8], Lg)) ((0, none, (126, 120, L, [Y, T, HA, HB, RA, RB, ST, NS, I0, I1, I2, BO, FI, RG, GU, PU, MA, MN, r, OT, SC], [r0, r1, r2, r3, w, r5, r6, r7, r8], Lg)) : AOut) := by
  suffices key : ∀ o : AOut, ((0, none, (126, 120, L, [Y, T, HA, HB, RA, RB, ST, NS, I0, I1, I2, BO, FI, RG, GU, PU, MA, MN, r, OT, SC], [r0, r1, r2, r3, w, r5, r6, r7, r8], Lg)) : AOut) = o → Ev (d + 1, 0, 0, 43, 0, [.val (.ref 1088), .val a_unk], [], (126, 120, L, [Y, T, HA, HB, RA, RB, ST, NS, I0, I1, I2, BO, FI, RG, GU, PU, MA, MN, MS, OT, SC], [r0, r1, r2, r3, w, r5, r6, r7, r8], Lg)) o from key _ rfl
  intro o ho
  obtain ⟨x1, zh1, h⟩ := bnd h
  have ze2 := R_copies (d + 0) 1095 1217 10 [Y, T, HA, HB, RA, RB, ST, NS, I0, I1, I2, BO, FI, RG, GU, PU, MA, MN, MS, OT, SC] [r0, r1, r2, r3, w, r5, r6, r7, r8] (.ref 1088) L Lg 126 120 rfl rfl rfl rfl (Nat.le_of_ble_eq_true rfl) (Nat.le_of_ble_eq_true rfl) (Nat.le_of_ble_eq_true rfl) zh1
  suffices e : Ev (d + 1, 0, 0, 43, 14, [.val (.ref 1088), .val a_unk], [], (126, 120, L, [Y, T, HA, HB, RA, RB, ST, NS, I0, I1, I2, BO, FI, RG, GU, PU, MA, MN, (u1 MS 1 x1), OT, SC], [r0, r1, r2, r3, w, r5, r6, r7, r8], Lg)) o from ev_call (fun v μ => (d + 1, 0, 0, 43, 14, [.val (.ref 1088), .val a_unk], v.toList ++ [], μ)) 7 ze2 e (fun n => Eq.refl _)
  obtain ⟨MS_8, zh4, h⟩ := bnd h
  suffices e : Ev (d + 1, 0, 0, 43, 16, [.val (.ref 1088), .val (.int 0)], [], (126, 120, L, [Y, T, HA, HB, RA, RB, ST, NS, I0, I1, I2, BO, FI, RG, GU, PU, MA, MN, (u1 MS 1 x1), OT, SC], [r0, r1, r2, r3, w, r5, r6, r7, r8], Lg)) o from ev_b 2 e (fun n => Eq.refl _)
  refine ev_loop (δ := Unit) (fun a j => (d + 1, 0, 0, 43, 16, [.val (.ref 1088), .val (.int a.1)], [], (126, 120, L, [Y, T, HA, HB, RA, RB, ST, NS, I0, I1, I2, BO, FI, RG, GU, PU, MA, MN, a.2, OT, SC], [r0, r1, r2, r3, w, r5, r6, r7, r8], Lg))) (fun b => ∀ s7 : Value, Ev (d + 1, 0, 0, 43, 53, [.val (.ref 1088), .val s7], [], (126, 120, L, [Y, T, HA, HB, RA, RB, ST, NS, I0, I1, I2, BO, FI, RG, GU, PU, MA, MN, b, OT, SC], [r0, r1, r2, r3, w, r5, r6, r7, r8], Lg)) o) ?_ a_F (0, (u1 MS 1 x1)) MS_8 zh4 ?_ ()
  · rintro ⟨v2, MS_3⟩ zr8 zh7 zi5 zx6 ⟨⟩
    have zh7 : f_M_findGoals_l16 MA v2 MS_3 = some zr8 := zh7
    by_cases zc9 : (MA 0 33) ≤ v2
    · have zh7 := itp zh7 zc9
      suffices e : Ev (d + 1, 0, 0, 43, 53, [.val (.ref 1088), .val (.int v2)], [], (126, 120, L, [Y, T, HA, HB, RA, RB, ST, NS, I0, I1, I2, BO, FI, RG, GU, PU, MA, MN, MS_3, OT, SC], [r0, r1, r2, r3, w, r5, r6, r7, r8], Lg)) o from ev_t (c := (MA 0 33) ≤ v2) _ _ 4  zc9 e (fun n => Eq.refl _)
      exact ev_b 0 (zx6 _ (Option.some.inj zh7).symm (.int v2)) (fun n => Eq.refl _)
    · have zh7 := itn zh7 zc9
      suffices e : Ev (d + 1, 0, 0, 43, 24, [.val (.ref 1088), .val (.int v2)], [], (126, 120, L, [Y, T, HA, HB, RA, RB, ST, NS, I0, I1, I2, BO, FI, RG, GU, PU, MA, MN, MS_3, OT, SC], [r0, r1, r2, r3, w, r5, r6, r7, r8], Lg)) o from ev_f (c := (MA 0 33) ≤ v2) _ _ 4  zc9 e (fun n => Eq.refl _)
      obtain ⟨x4, zh10, zh7⟩ := bnd zh7
      have zh10 : rdx (MA 9) 20 (2 * v2) = some x4 := zh10
      suffices e : Ev (d + 1, 0, 0, 43, 36, [.val (.ref 1088), .val (.int v2)], [.int x4, .ref 1217], (126, 120, L, [Y, T, HA, HB, RA, RB, ST, NS, I0, I1, I2, BO, FI, RG, GU, PU, MA, MN, MS_3, OT, SC], [r0, r1, r2, r3, w, r5, r6, r7, r8], Lg)) o from ev_opt (fun x4 => (d + 1, 0, 0, 43, 36, [.val (.ref 1088), .val (.int v2)], [.int x4, .ref 1217], (126, 120, L, [Y, T, HA, HB, RA, RB, ST, NS, I0, I1, I2, BO, FI, RG, GU, PU, MA, MN, MS_3, OT, SC], [r0, r1, r2, r3, w, r5, r6, r7, r8], Lg))) 8 zh10 e (fun n => Eq.refl _)
      obtain ⟨x5, zh11, zh7⟩ := bnd zh7
      have zh11 : rdx (MA 9) 20 ((2 * v2) + 1) = some x5 := zh11
      suffices e : Ev (d + 1, 0, 0, 43, 46, [.val (.ref 1088), .val (.int v2)], [.int x5, .int x4, .ref 1217], (126, 120, L, [Y, T, HA, HB, RA, RB, ST, NS, I0, I1, I2, BO, FI, RG, GU, PU, MA, MN, MS_3, OT, SC], [r0, r1, r2, r3, w, r5, r6, r7, r8], Lg)) o from ev_opt (fun x5 => (d + 1, 0, 0, 43, 46, [.val (.ref 1088), .val (.int v2)], [.int x5, .int x4, .ref 1217], (126, 120, L, [Y, T, HA, HB, RA, RB, ST, NS, I0, I1, I2, BO, FI, RG, GU, PU, MA, MN, MS_3, OT, SC], [r0, r1, r2, r3, w, r5, r6, r7, r8], Lg))) 8 zh11 e (fun n => Eq.refl _)
      obtain ⟨j6, zh12, zh7⟩ := bnd zh7
      have zh12 : ixx 10 x4 = some j6 := zh12
      suffices e : Ev (d + 1, 0, 0, 43, 47, [.val (.ref 1088), .val (.int v2)], [], (126, 120, L, [Y, T, HA, HB, RA, RB, ST, NS, I0, I1, I2, BO, FI, RG, GU, PU, MA, MN, (u2 MS_3 1 j6 x5), OT, SC], [r0, r1, r2, r3, w, r5, r6, r7, r8], Lg)) o from ev_opt (fun j6 => (d + 1, 0, 0, 43, 47, [.val (.ref 1088), .val (.int v2)], [], (126, 120, L, [Y, T, HA, HB, RA, RB, ST, NS, I0, I1, I2, BO, FI, RG, GU, PU, MA, MN, (u2 MS_3 1 j6 x5), OT, SC], [r0, r1, r2, r3, w, r5, r6, r7, r8], Lg))) 1 zh12 e (fun n => Eq.refl _)
      exact ev_b 2 (zi5 _ (Option.some.inj zh7).symm ()) (fun n => Eq.refl _)
  · skip
    intro s7
    have ze13 := Option.some.inj h
    subst ze13
    exact ev_rete 1 ho (fun n => Eq.refl _)
set_option maxRecDepth 1000000 in
set_option maxHeartbeats 4000000 in
theorem R_f_M_emit_0 (d : Nat) (Y T HA HB RA RB ST NS I0 I1 I2 BO FI RG GU PU MA MN MS OT SC : Nat → Nat → Int32) (r0 r1 r2 r3 w r5 r6 r7 r8 : Nat) (L : Nat) (Lg : Int64) (p1 : Int32) (p2 : Int32) {r : (Nat → Nat → Int32)} (h : f_M_emit MN p1 p2 = some r) : Ev (d + 1, 0, 0, 44, 0, [.val (.ref 1088), .val (.int p1), .val (.int p2)], [], (126, 120, L, [Y, T, HA, HB, RA, RB, ST, NS, I0, I1, I2, BO, FI, RG, GU, PU, MA, MN, MS, OT, SC], [r0, r1, r2, r3, w, r5, r6, r7, r8], Lg)) ((0, none, (126, 120, L, [Y, T, HA, HB, RA, RB, ST, NS, I0, I1, I2, BO, FI, RG, GU, PU, MA, r, MS, OT, SC], [r0, r1, r2, r3, w, r5, r6, r7, r8], Lg)) : AOut) := by
  suffices key : ∀ o : AOut, ((0, none, (126, 120, L, [Y, T, HA, HB, RA, RB, ST, NS, I0, I1, I2, BO, FI, RG, GU, PU, MA, r, MS, OT, SC], [r0, r1, r2, r3, w, r5, r6, r7, r8], Lg)) : AOut) = o → Ev (d + 1, 0, 0, 44, 0, [.val (.ref 1088), .val (.int p1), .val (.int p2)], [], (126, 120, L, [Y, T, HA, HB, RA, RB, ST, NS, I0, I1, I2, BO, FI, RG, GU, PU, MA, MN, MS, OT, SC], [r0, r1, r2, r3, w, r5, r6, r7, r8], Lg)) o from key _ rfl
  intro o ho
  obtain ⟨x1, zh1, h⟩ := bnd h
  have zh1 : f_M_fine MN = some x1 := zh1
  have ze2 := R_f_M_fine_0 (d + 0) Y T HA HB RA RB ST NS I0 I1 I2 BO FI RG GU PU MA MN MS OT SC r0 r1 r2 r3 w r5 r6 r7 r8 L Lg zh1
  suffices e : Ev (d + 1, 0, 0, 44, 4, [.val (.ref 1088), .val (.int p1), .val (.int p2)], [.int x1], (126, 120, L, [Y, T, HA, HB, RA, RB, ST, NS, I0, I1, I2, BO, FI, RG, GU, PU, MA, MN, MS, OT, SC], [r0, r1, r2, r3, w, r5, r6, r7, r8], Lg)) o from ev_call (fun v μ => (d + 1, 0, 0, 44, 4, [.val (.ref 1088), .val (.int p1), .val (.int p2)], v.toList ++ [], μ)) 2 ze2 e (fun n => Eq.refl _)
  by_cases zc3 : x1 ≠ 0
  · have h := itp h zc3
    suffices e : Ev (d + 1, 0, 0, 44, 8, [.val (.ref 1088), .val (.int p1), .val (.int p2)], [], (126, 120, L, [Y, T, HA, HB, RA, RB, ST, NS, I0, I1, I2, BO, FI, RG, GU, PU, MA, MN, MS, OT, SC], [r0, r1, r2, r3, w, r5, r6, r7, r8], Lg)) o from ev_t (c := x1 ≠ 0) _ _ 1  zc3 e (fun n => Eq.refl _)
    obtain ⟨j2, zh4, h⟩ := bnd h
    have zh4 : ixx 150 (MN 0 39) = some j2 := zh4
    suffices e : Ev (d + 1, 0, 0, 44, 18, [.val (.ref 1088), .val (.int p1), .val (.int p2)], [], (126, 120, L, [Y, T, HA, HB, RA, RB, ST, NS, I0, I1, I2, BO, FI, RG, GU, PU, MA, (u2 MN 6 j2 p1), MS, OT, SC], [r0, r1, r2, r3, w, r5, r6, r7, r8], Lg)) o from ev_opt (fun j2 => (d + 1, 0, 0, 44, 18, [.val (.ref 1088), .val (.int p1), .val (.int p2)], [], (126, 120, L, [Y, T, HA, HB, RA, RB, ST, NS, I0, I1, I2, BO, FI, RG, GU, PU, MA, (u2 MN 6 j2 p1), MS, OT, SC], [r0, r1, r2, r3, w, r5, r6, r7, r8], Lg))) 6 zh4 e (fun n => Eq.refl _)
    obtain ⟨j3, zh5, h⟩ := bnd h
    have zh5 : ixx 150 ((u2 MN 6 j2 p1) 0 39) = some j3 := zh5
    suffices e : Ev (d + 1, 0, 0, 44, 28, [.val (.ref 1088), .val (.int p1), .val (.int p2)], [], (126, 120, L, [Y, T, HA, HB, RA, RB, ST, NS, I0, I1, I2, BO, FI, RG, GU, PU, MA, (u2 (u2 MN 6 j2 p1) 7 j3 p2), MS, OT, SC], [r0, r1, r2, r3, w, r5, r6, r7, r8], Lg)) o from ev_opt (fun j3 => (d + 1, 0, 0, 44, 28, [.val (.ref 1088), .val (.int p1), .val (.int p2)], [], (126, 120, L, [Y, T, HA, HB, RA, RB, ST, NS, I0, I1, I2, BO, FI, RG, GU, PU, MA, (u2 (u2 MN 6 j2 p1) 7 j3 p2), MS, OT, SC], [r0, r1, r2, r3, w, r5, r6, r7, r8], Lg))) 6 zh5 e (fun n => Eq.refl _)
    have ze6 := Option.some.inj h
    subst ze6
    exact ev_rete 7 ho (fun n => Eq.refl _)
  · have h := itn h zc3
    suffices e : Ev (d + 1, 0, 0, 44, 7, [.val (.ref 1088), .val (.int p1), .val (.int p2)], [], (126, 120, L, [Y, T, HA, HB, RA, RB, ST, NS, I0, I1, I2, BO, FI, RG, GU, PU, MA, MN, MS, OT, SC], [r0, r1, r2, r3, w, r5, r6, r7, r8], Lg)) o from ev_f (c := x1 ≠ 0) _ _ 1  zc3 e (fun n => Eq.refl _)
    have ze7 := Option.some.inj h
    subst ze7
    exact ev_rete 1 ho (fun n => Eq.refl _)
set_option maxRecDepth 1000000 in
set_option maxHeartbeats 4000000 in
theorem R_f_M_opensOne_0 (d : Nat) (Y T HA HB RA RB ST NS I0 I1 I2 BO FI RG GU PU MA MN MS OT SC : Nat → Nat → Int32) (r0 r1 r2 r3 w r5 r6 r7 r8 : Nat) (L : Nat) (Lg : Int64) (p1 : Int32) {r : (Nat → Nat → Int32)} (h : f_M_opensOne MN p1 = some r) : Ev (d + 1, 0, 0, 45, 0, [.val (.ref 1088), .val (.int p1)], [], (126, 120, L, [Y, T, HA, HB, RA, RB, ST, NS, I0, I1, I2, BO, FI, RG, GU, PU, MA, MN, MS, OT, SC], [r0, r1, r2, r3, w, r5, r6, r7, r8], Lg)) ((0, none, (126, 120, L, [Y, T, HA, HB, RA, RB, ST, NS, I0, I1, I2, BO, FI, RG, GU, PU, MA, r, MS, OT, SC], [r0, r1, r2, r3, w, r5, r6, r7, r8], Lg)) : AOut) := by
  suffices key : ∀ o : AOut, ((0, none, (126, 120, L, [Y, T, HA, HB, RA, RB, ST, NS, I0, I1, I2, BO, FI, RG, GU, PU, MA, r, MS, OT, SC], [r0, r1, r2, r3, w, r5, r6, r7, r8], Lg)) : AOut) = o → Ev (d + 1, 0, 0, 45, 0, [.val (.ref 1088), .val (.int p1)], [], (126, 120, L, [Y, T, HA, HB, RA, RB, ST, NS, I0, I1, I2, BO, FI, RG, GU, PU, MA, MN, MS, OT, SC], [r0, r1, r2, r3, w, r5, r6, r7, r8], Lg)) o from key _ rfl
  intro o ho
  obtain ⟨x1, zh1, h⟩ := bnd h
  have zh1 : f_M_fine MN = some x1 := zh1
  have ze2 := R_f_M_fine_0 (d + 0) Y T HA HB RA RB ST NS I0 I1 I2 BO FI RG GU PU MA MN MS OT SC r0 r1 r2 r3 w r5 r6 r7 r8 L Lg zh1
  suffices e : Ev (d + 1, 0, 0, 45, 4, [.val (.ref 1088), .val (.int p1)], [.int x1], (126, 120, L, [Y, T, HA, HB, RA, RB, ST, NS, I0, I1, I2, BO, FI, RG, GU, PU, MA, MN, MS, OT, SC], [r0, r1, r2, r3, w, r5, r6, r7, r8], Lg)) o from ev_call (fun v μ => (d + 1, 0, 0, 45, 4, [.val (.ref 1088), .val (.int p1)], v.toList ++ [], μ)) 2 ze2 e (fun n => Eq.refl _)
  obtain ⟨zt3, zh4, h⟩ := bnd h
  have zj5 : ∀ (MN_3 : (Nat → Nat → Int32)), MN_3 = zt3 → Ev (d + 1, 0, 0, 45, 25, [.val (.ref 1088), .val (.int p1)], [], (126, 120, L, [Y, T, HA, HB, RA, RB, ST, NS, I0, I1, I2, BO, FI, RG, GU, PU, MA, MN_3, MS, OT, SC], [r0, r1, r2, r3, w, r5, r6, r7, r8], Lg)) o := by
    intro MN_3 ze6
    subst ze6
    obtain ⟨x4, zh7, h⟩ := bnd h
    have zh7 : f_M_fine MN_3 = some x4 := zh7
    have ze8 := R_f_M_fine_0 (d + 0) Y T HA HB RA RB ST NS I0 I1 I2 BO FI RG GU PU MA MN_3 MS OT SC r0 r1 r2 r3 w r5 r6 r7 r8 L Lg zh7
    suffices e : Ev (d + 1, 0, 0, 45, 29, [.val (.ref 1088), .val (.int p1)], [.int x4], (126, 120, L, [Y, T, HA, HB, RA, RB, ST, NS, I0, I1, I2, BO, FI, RG, GU, PU, MA, MN_3, MS, OT, SC], [r0, r1, r2, r3, w, r5, r6, r7, r8], Lg)) o from ev_call (fun v μ => (d + 1, 0, 0, 45, 29, [.val (.ref 1088), .val (.int p1)], v.toList ++ [], μ)) 2 ze8 e (fun n => Eq.refl _)
    obtain ⟨zt9, zh10, h⟩ := bnd h
    have zj11 : ∀ (MN_5 : (Nat → Nat → Int32)), MN_5 = zt9 → Ev (d + 1, 0, 0, 45, 42, [.val (.ref 1088), .val (.int p1)], [], (126, 120, L, [Y, T, HA, HB, RA, RB, ST, NS, I0, I1, I2, BO, FI, RG, GU, PU, MA, MN_5, MS, OT, SC], [r0, r1, r2, r3, w, r5, r6, r7, r8], Lg)) o := by
      intro MN_5 ze12
      subst ze12
      have ze13 := Option.some.inj h
      subst ze13
      exact ev_rete 7 ho (fun n => Eq.refl _)
    by_cases zc14 : x4 = 0
    · have zh10 := itp zh10 zc14
      suffices e : Ev (d + 1, 0, 0, 45, 42, [.val (.ref 1088), .val (.int p1)], [], (126, 120, L, [Y, T, HA, HB, RA, RB, ST, NS, I0, I1, I2, BO, FI, RG, GU, PU, MA, MN_3, MS, OT, SC], [r0, r1, r2, r3, w, r5, r6, r7, r8], Lg)) o from ev_t (c := x4 = 0) _ _ 1  zc14 e (fun n => Eq.refl _)
      exact ev_b 0 (zj11 MN_3 (Option.some.inj zh10) ) (fun n => Eq.refl _)
    · have zh10 := itn zh10 zc14
      suffices e : Ev (d + 1, 0, 0, 45, 32, [.val (.ref 1088), .val (.int p1)], [], (126, 120, L, [Y, T, HA, HB, RA, RB, ST, NS, I0, I1, I2, BO, FI, RG, GU, PU, MA, MN_3, MS, OT, SC], [r0, r1, r2, r3, w, r5, r6, r7, r8], Lg)) o from ev_f (c := x4 = 0) _ _ 1  zc14 e (fun n => Eq.refl _)
      exact ev_b 6 (zj11 (u2 MN_3 0 4 ((MN_3 0 4) + p1)) (Option.some.inj zh10) ) (fun n => Eq.refl _)
  by_cases zc15 : x1 = 0
  · have zh4 := itp zh4 zc15
    suffices e : Ev (d + 1, 0, 0, 45, 25, [.val (.ref 1088), .val (.int p1)], [], (126, 120, L, [Y, T, HA, HB, RA, RB, ST, NS, I0, I1, I2, BO, FI, RG, GU, PU, MA, MN, MS, OT, SC], [r0, r1, r2, r3, w, r5, r6, r7, r8], Lg)) o from ev_t (c := x1 = 0) _ _ 1  zc15 e (fun n => Eq.refl _)
    exact ev_b 0 (zj5 MN (Option.some.inj zh4) ) (fun n => Eq.refl _)
  · have zh4 := itn zh4 zc15
    suffices e : Ev (d + 1, 0, 0, 45, 7, [.val (.ref 1088), .val (.int p1)], [], (126, 120, L, [Y, T, HA, HB, RA, RB, ST, NS, I0, I1, I2, BO, FI, RG, GU, PU, MA, MN, MS, OT, SC], [r0, r1, r2, r3, w, r5, r6, r7, r8], Lg)) o from ev_f (c := x1 = 0) _ _ 1  zc15 e (fun n => Eq.refl _)
    by_cases zc16 : (MN 0 7) ≠ 6
    · have zh4 := itp zh4 zc16
      suffices e : Ev (d + 1, 0, 0, 45, 25, [.val (.ref 1088), .val (.int p1)], [], (126, 120, L, [Y, T, HA, HB, RA, RB, ST, NS, I0, I1, I2, BO, FI, RG, GU, PU, MA, MN, MS, OT, SC], [r0, r1, r2, r3, w, r5, r6, r7, r8], Lg)) o from ev_t (c := (MN 0 7) ≠ 6) _ _ 4  zc16 e (fun n => Eq.refl _)
      exact ev_b 0 (zj5 MN (Option.some.inj zh4) ) (fun n => Eq.refl _)
    · have zh4 := itn zh4 zc16
      suffices e : Ev (d + 1, 0, 0, 45, 16, [.val (.ref 1088), .val (.int p1)], [], (126, 120, L, [Y, T, HA, HB, RA, RB, ST, NS, I0, I1, I2, BO, FI, RG, GU, PU, MA, MN, MS, OT, SC], [r0, r1, r2, r3, w, r5, r6, r7, r8], Lg)) o from ev_f (c := (MN 0 7) ≠ 6) _ _ 4  zc16 e (fun n => Eq.refl _)
      obtain ⟨MN_2, zh17, zh4⟩ := bnd zh4
      have zh17 : f_M_wrong MN 3 (MN 0 4) = some MN_2 := zh17
      have ze18 := R_f_M_wrong_0 (d + 0) Y T HA HB RA RB ST NS I0 I1 I2 BO FI RG GU PU MA MN MS OT SC r0 r1 r2 r3 w r5 r6 r7 r8 L Lg 3 (MN 0 4) zh17
      suffices e : Ev (d + 1, 0, 0, 45, 25, [.val (.ref 1088), .val (.int p1)], [], (126, 120, L, [Y, T, HA, HB, RA, RB, ST, NS, I0, I1, I2, BO, FI, RG, GU, PU, MA, MN_2, MS, OT, SC], [r0, r1, r2, r3, w, r5, r6, r7, r8], Lg)) o from ev_call (fun v μ => (d + 1, 0, 0, 45, 25, [.val (.ref 1088), .val (.int p1)], v.toList ++ [], μ)) 5 ze18 e (fun n => Eq.refl _)
      exact ev_b 0 (zj5 MN_2 (Option.some.inj zh4) ) (fun n => Eq.refl _)
set_option maxRecDepth 1000000 in
set_option maxHeartbeats 4000000 in
theorem R_f_M_stands_0 (d : Nat) (Y T HA HB RA RB ST NS I0 I1 I2 BO FI RG GU PU MA MN MS OT SC : Nat → Nat → Int32) (r0 r1 r2 r3 w r5 r6 r7 r8 : Nat) (L : Nat) (Lg : Int64) (s1 : Nat) {r : Int32 × (Nat → Nat → Int32)} (h : f_M_stands MA MN s1 = some r) : Ev (d + 4, 0, 0, 51, 0, [.val (.ref 1088), .val (.ref s1), .val a_unk, .val a_unk], [], (126, 120, L, [Y, T, HA, HB, RA, RB, ST, NS, I0, I1, I2, BO, FI, RG, GU, PU, MA, MN, MS, OT, SC], [r0, r1, r2, r3, w, r5, r6, r7, r8], Lg)) ((0, some (.int r.1), (126, 120, L, [Y, T, HA, HB, RA, RB, ST, NS, I0, I1, I2, BO, FI, RG, GU, PU, MA, r.2, MS, OT, SC], [r0, r1, r2, r3, w, r5, r6, r7, r8], Lg)) : AOut) := by
  suffices key : ∀ o : AOut, ((0, some (.int r.1), (126, 120, L, [Y, T, HA, HB, RA, RB, ST, NS, I0, I1, I2, BO, FI, RG, GU, PU, MA, r.2, MS, OT, SC], [r0, r1, r2, r3, w, r5, r6, r7, r8], Lg)) : AOut) = o → Ev (d + 4, 0, 0, 51, 0, [.val (.ref 1088), .val (.ref s1), .val a_unk, .val a_unk], [], (126, 120, L, [Y, T, HA, HB, RA, RB, ST, NS, I0, I1, I2, BO, FI, RG, GU, PU, MA, MN, MS, OT, SC], [r0, r1, r2, r3, w, r5, r6, r7, r8], Lg)) o from key _ rfl
  intro o ho
  obtain ⟨⟨x1, MN_2⟩, zh1, h⟩ := bnd h
  have zh1 : f_M_here MA MN = some (x1, MN_2) := zh1
  have ze2 := R_f_M_here_0 (d + 3) Y T HA HB RA RB ST NS I0 I1 I2 BO FI RG GU PU MA MN MS OT SC r0 r1 r2 r3 w r5 r6 r7 r8 L Lg zh1
  suffices e : Ev (d + 4, 0, 0, 51, 4, [.val (.ref 1088), .val (.ref s1), .val a_unk, .val a_unk], [.int x1], (126, 120, L, [Y, T, HA, HB, RA, RB, ST, NS, I0, I1, I2, BO, FI, RG, GU, PU, MA, MN_2, MS, OT, SC], [r0, r1, r2, r3, w, r5, r6, r7, r8], Lg)) o from ev_call (fun v μ => (d + 4, 0, 0, 51, 4, [.val (.ref 1088), .val (.ref s1), .val a_unk, .val a_unk], v.toList ++ [], μ)) 2 ze2 e (fun n => Eq.refl _)
  obtain ⟨zb3, zh4, h⟩ := bnd h
  suffices e : Ev (d + 4, 0, 0, 51, 12, [.val (.ref 1088), .val (.ref s1), .val (.int (MN_2 0 4)), .val (.int 0)], [], (126, 120, L, [Y, T, HA, HB, RA, RB, ST, NS, I0, I1, I2, BO, FI, RG, GU, PU, MA, MN_2, MS, OT, SC], [r0, r1, r2, r3, w, r5, r6, r7, r8], Lg)) o from ev_b 6 e (fun n => Eq.refl _)
  refine ev_loop (δ := Unit) (fun a j => (d + 4, 0, 0, 51, 12, [.val (.ref 1088), .val (.ref s1), .val (.int (MN_2 0 4)), .val (.int a)], [], (126, 120, L, [Y, T, HA, HB, RA, RB, ST, NS, I0, I1, I2, BO, FI, RG, GU, PU, MA, MN_2, MS, OT, SC], [r0, r1, r2, r3, w, r5, r6, r7, r8], Lg))) (fun b => sumE b (fun b => ∀ s6 : Value, Ev (d + 4, 0, 0, 51, 54, [.val (.ref 1088), .val (.ref s1), .val (.int (MN_2 0 4)), .val s6], [], (126, 120, L, [Y, T, HA, HB, RA, RB, ST, NS, I0, I1, I2, BO, FI, RG, GU, PU, MA, MN_2, MS, OT, SC], [r0, r1, r2, r3, w, r5, r6, r7, r8], Lg)) o) (fun b => ((0, some (.int b.1), (126, 120, L, [Y, T, HA, HB, RA, RB, ST, NS, I0, I1, I2, BO, FI, RG, GU, PU, MA, b.2, MS, OT, SC], [r0, r1, r2, r3, w, r5, r6, r7, r8], Lg)) : AOut) = o)) ?_ a_F 0 zb3 zh4 ?_ ()
  · rintro v3 zr8 zh7 zi5 zx6 ⟨⟩
    have zh7 : f_M_stands_l12 MA s1 MN_2 v3 = some zr8 := zh7
    by_cases zg9 : ¬ (isS s1)
    · exact nos (itn zh7 zg9)
    have zg9 := Decidable.not_not.mp zg9
    have zh7 := itp zh7 zg9
    suffices e : Ev (d + 4, 0, 0, 51, 14, [.val (.ref 1088), .val (.ref s1), .val (.int (MN_2 0 4)), .val (.int v3)], [.ref s1, .int v3], (126, 120, L, [Y, T, HA, HB, RA, RB, ST, NS, I0, I1, I2, BO, FI, RG, GU, PU, MA, MN_2, MS, OT, SC], [r0, r1, r2, r3, w, r5, r6, r7, r8], Lg)) o from ev_b 2 e (fun n => Eq.refl _)
    refine r_inv (args := []) (rest := [.int v3]) rfl rfl rfl rfl (cS zg9).1 (cS zg9).2.1 rfl (R_len (d + 2) s1 (126, 120, L, [Y, T, HA, HB, RA, RB, ST, NS, I0, I1, I2, BO, FI, RG, GU, PU, MA, MN_2, MS, OT, SC], [r0, r1, r2, r3, w, r5, r6, r7, r8], Lg) zg9) ?_
    by_cases zc10 : (s_len s1) ≤ v3
    · have zh7 := itp zh7 zc10
      suffices e : Ev (d + 4, 0, 0, 51, 54, [.val (.ref 1088), .val (.ref s1), .val (.int (MN_2 0 4)), .val (.int v3)], [], (126, 120, L, [Y, T, HA, HB, RA, RB, ST, NS, I0, I1, I2, BO, FI, RG, GU, PU, MA, MN_2, MS, OT, SC], [r0, r1, r2, r3, w, r5, r6, r7, r8], Lg)) o from ev_t (c := (s_len s1) ≤ v3) _ _ 1  zc10 e (fun n => Eq.refl _)
      exact ev_b 0 (zx6 _ (Option.some.inj zh7).symm (.int v3)) (fun n => Eq.refl _)
    · have zh7 := itn zh7 zc10
      suffices e : Ev (d + 4, 0, 0, 51, 20, [.val (.ref 1088), .val (.ref s1), .val (.int (MN_2 0 4)), .val (.int v3)], [], (126, 120, L, [Y, T, HA, HB, RA, RB, ST, NS, I0, I1, I2, BO, FI, RG, GU, PU, MA, MN_2, MS, OT, SC], [r0, r1, r2, r3, w, r5, r6, r7, r8], Lg)) o from ev_f (c := (s_len s1) ≤ v3) _ _ 1  zc10 e (fun n => Eq.refl _)
      by_cases zc11 : (MN_2 0 3) ≤ ((MN_2 0 4) + v3)
      · have zh7 := itp zh7 zc11
        suffices e : Ev (d + 4, 0, 0, 51, 46, [.val (.ref 1088), .val (.ref s1), .val (.int (MN_2 0 4)), .val (.int v3)], [], (126, 120, L, [Y, T, HA, HB, RA, RB, ST, NS, I0, I1, I2, BO, FI, RG, GU, PU, MA, MN_2, MS, OT, SC], [r0, r1, r2, r3, w, r5, r6, r7, r8], Lg)) o from ev_t (c := (MN_2 0 3) ≤ ((MN_2 0 4) + v3)) _ _ 6  zc11 e (fun n => Eq.refl _)
        exact ev_rete 2 (zx6 _ (Option.some.inj zh7).symm) (fun n => Eq.refl _)
      · have zh7 := itn zh7 zc11
        suffices e : Ev (d + 4, 0, 0, 51, 30, [.val (.ref 1088), .val (.ref s1), .val (.int (MN_2 0 4)), .val (.int v3)], [], (126, 120, L, [Y, T, HA, HB, RA, RB, ST, NS, I0, I1, I2, BO, FI, RG, GU, PU, MA, MN_2, MS, OT, SC], [r0, r1, r2, r3, w, r5, r6, r7, r8], Lg)) o from ev_f (c := (MN_2 0 3) ≤ ((MN_2 0 4) + v3)) _ _ 6  zc11 e (fun n => Eq.refl _)
        obtain ⟨x4, zh12, zh7⟩ := bnd zh7
        have zh12 : rdx (MA 2) 600 ((MN_2 0 4) + v3) = some x4 := zh12
        suffices e : Ev (d + 4, 0, 0, 51, 38, [.val (.ref 1088), .val (.ref s1), .val (.int (MN_2 0 4)), .val (.int v3)], [.int x4], (126, 120, L, [Y, T, HA, HB, RA, RB, ST, NS, I0, I1, I2, BO, FI, RG, GU, PU, MA, MN_2, MS, OT, SC], [r0, r1, r2, r3, w, r5, r6, r7, r8], Lg)) o from ev_opt (fun x4 => (d + 4, 0, 0, 51, 38, [.val (.ref 1088), .val (.ref s1), .val (.int (MN_2 0 4)), .val (.int v3)], [.int x4], (126, 120, L, [Y, T, HA, HB, RA, RB, ST, NS, I0, I1, I2, BO, FI, RG, GU, PU, MA, MN_2, MS, OT, SC], [r0, r1, r2, r3, w, r5, r6, r7, r8], Lg))) 6 zh12 e (fun n => Eq.refl _)
        by_cases zg13 : ¬ (isS s1)
        · exact nos (itn zh7 zg13)
        have zg13 := Decidable.not_not.mp zg13
        have zh7 := itp zh7 zg13
        obtain ⟨x5, zh14, zh7⟩ := bnd zh7
        suffices e : Ev (d + 4, 0, 0, 51, 40, [.val (.ref 1088), .val (.ref s1), .val (.int (MN_2 0 4)), .val (.int v3)], [.int v3, .ref s1, .int x4], (126, 120, L, [Y, T, HA, HB, RA, RB, ST, NS, I0, I1, I2, BO, FI, RG, GU, PU, MA, MN_2, MS, OT, SC], [r0, r1, r2, r3, w, r5, r6, r7, r8], Lg)) o from ev_b 2 e (fun n => Eq.refl _)
        refine r_inv (args := [.int v3]) (rest := [.int x4]) rfl rfl rfl rfl (cS zg13).1 (cS zg13).2.1 rfl (R_ch (d + 0) s1 v3 x5 (126, 120, L, [Y, T, HA, HB, RA, RB, ST, NS, I0, I1, I2, BO, FI, RG, GU, PU, MA, MN_2, MS, OT, SC], [r0, r1, r2, r3, w, r5, r6, r7, r8], Lg) zg13 zh14) ?_
        by_cases zc15 : x4 = x5
        · have zh7 := itp zh7 zc15
          suffices e : Ev (d + 4, 0, 0, 51, 48, [.val (.ref 1088), .val (.ref s1), .val (.int (MN_2 0 4)), .val (.int v3)], [], (126, 120, L, [Y, T, HA, HB, RA, RB, ST, NS, I0, I1, I2, BO, FI, RG, GU, PU, MA, MN_2, MS, OT, SC], [r0, r1, r2, r3, w, r5, r6, r7, r8], Lg)) o from ev_t (c := x4 = x5) _ _ 1  zc15 e (fun n => Eq.refl _)
          exact ev_b 2 (zi5 _ (Option.some.inj zh7).symm ()) (fun n => Eq.refl _)
        · have zh7 := itn zh7 zc15
          suffices e : Ev (d + 4, 0, 0, 51, 46, [.val (.ref 1088), .val (.ref s1), .val (.int (MN_2 0 4)), .val (.int v3)], [], (126, 120, L, [Y, T, HA, HB, RA, RB, ST, NS, I0, I1, I2, BO, FI, RG, GU, PU, MA, MN_2, MS, OT, SC], [r0, r1, r2, r3, w, r5, r6, r7, r8], Lg)) o from ev_f (c := x4 = x5) _ _ 1  zc15 e (fun n => Eq.refl _)
          exact ev_rete 2 (zx6 _ (Option.some.inj zh7).symm) (fun n => Eq.refl _)
  · rcases zb3 with ⟨⟩ | zr8
    · intro s6
      by_cases zg16 : ¬ (isS s1)
      · exact nos (itn h zg16)
      have zg16 := Decidable.not_not.mp zg16
      have h := itp h zg16
      suffices e : Ev (d + 4, 0, 0, 51, 56, [.val (.ref 1088), .val (.ref s1), .val (.int (MN_2 0 4)), .val s6], [.ref s1, .int (MN_2 0 4)], (126, 120, L, [Y, T, HA, HB, RA, RB, ST, NS, I0, I1, I2, BO, FI, RG, GU, PU, MA, MN_2, MS, OT, SC], [r0, r1, r2, r3, w, r5, r6, r7, r8], Lg)) o from ev_b 2 e (fun n => Eq.refl _)
      refine r_inv (args := []) (rest := [.int (MN_2 0 4)]) rfl rfl rfl rfl (cS zg16).1 (cS zg16).2.1 rfl (R_len (d + 2) s1 (126, 120, L, [Y, T, HA, HB, RA, RB, ST, NS, I0, I1, I2, BO, FI, RG, GU, PU, MA, MN_2, MS, OT, SC], [r0, r1, r2, r3, w, r5, r6, r7, r8], Lg) zg16) ?_
      by_cases zc17 : (MN_2 0 3) ≤ ((MN_2 0 4) + (s_len s1))
      · have h := itp h zc17
        suffices e : Ev (d + 4, 0, 0, 51, 84, [.val (.ref 1088), .val (.ref s1), .val (.int (MN_2 0 4)), .val s6], [], (126, 120, L, [Y, T, HA, HB, RA, RB, ST, NS, I0, I1, I2, BO, FI, RG, GU, PU, MA, MN_2, MS, OT, SC], [r0, r1, r2, r3, w, r5, r6, r7, r8], Lg)) o from ev_t (c := (MN_2 0 3) ≤ ((MN_2 0 4) + (s_len s1))) _ _ 4  zc17 e (fun n => Eq.refl _)
        have ze18 := Option.some.inj h
        subst ze18
        exact ev_rete 3 ho (fun n => Eq.refl _)
      · have h := itn h zc17
        suffices e : Ev (d + 4, 0, 0, 51, 67, [.val (.ref 1088), .val (.ref s1), .val (.int (MN_2 0 4)), .val s6], [], (126, 120, L, [Y, T, HA, HB, RA, RB, ST, NS, I0, I1, I2, BO, FI, RG, GU, PU, MA, MN_2, MS, OT, SC], [r0, r1, r2, r3, w, r5, r6, r7, r8], Lg)) o from ev_f (c := (MN_2 0 3) ≤ ((MN_2 0 4) + (s_len s1))) _ _ 4  zc17 e (fun n => Eq.refl _)
        by_cases zg19 : ¬ (isS s1)
        · exact nos (itn h zg19)
        have zg19 := Decidable.not_not.mp zg19
        have h := itp h zg19
        suffices e : Ev (d + 4, 0, 0, 51, 73, [.val (.ref 1088), .val (.ref s1), .val (.int (MN_2 0 4)), .val s6], [.ref s1, .int (MN_2 0 4), .ref 1090], (126, 120, L, [Y, T, HA, HB, RA, RB, ST, NS, I0, I1, I2, BO, FI, RG, GU, PU, MA, MN_2, MS, OT, SC], [r0, r1, r2, r3, w, r5, r6, r7, r8], Lg)) o from ev_b 4 e (fun n => Eq.refl _)
        refine r_inv (args := []) (rest := [.int (MN_2 0 4), .ref 1090]) rfl rfl rfl rfl (cS zg19).1 (cS zg19).2.1 rfl (R_len (d + 2) s1 (126, 120, L, [Y, T, HA, HB, RA, RB, ST, NS, I0, I1, I2, BO, FI, RG, GU, PU, MA, MN_2, MS, OT, SC], [r0, r1, r2, r3, w, r5, r6, r7, r8], Lg) zg19) ?_
        obtain ⟨x7, zh20, h⟩ := bnd h
        have zh20 : rdx (MA 2) 600 ((MN_2 0 4) + (s_len s1)) = some x7 := zh20
        suffices e : Ev (d + 4, 0, 0, 51, 78, [.val (.ref 1088), .val (.ref s1), .val (.int (MN_2 0 4)), .val s6], [.int x7], (126, 120, L, [Y, T, HA, HB, RA, RB, ST, NS, I0, I1, I2, BO, FI, RG, GU, PU, MA, MN_2, MS, OT, SC], [r0, r1, r2, r3, w, r5, r6, r7, r8], Lg)) o from ev_opt (fun x7 => (d + 4, 0, 0, 51, 78, [.val (.ref 1088), .val (.ref s1), .val (.int (MN_2 0 4)), .val s6], [.int x7], (126, 120, L, [Y, T, HA, HB, RA, RB, ST, NS, I0, I1, I2, BO, FI, RG, GU, PU, MA, MN_2, MS, OT, SC], [r0, r1, r2, r3, w, r5, r6, r7, r8], Lg))) 2 zh20 e (fun n => Eq.refl _)
        obtain ⟨x8, zh21, h⟩ := bnd h
        have zh21 : f_M_isSmall x7 = some x8 := zh21
        have ze22 := R_f_M_isSmall_0 (d + 3) Y T HA HB RA RB ST NS I0 I1 I2 BO FI RG GU PU MA MN_2 MS OT SC r0 r1 r2 r3 w r5 r6 r7 r8 L Lg x7 zh21
        suffices e : Ev (d + 4, 0, 0, 51, 81, [.val (.ref 1088), .val (.ref s1), .val (.int (MN_2 0 4)), .val s6], [.int x8], (126, 120, L, [Y, T, HA, HB, RA, RB, ST, NS, I0, I1, I2, BO, FI, RG, GU, PU, MA, MN_2, MS, OT, SC], [r0, r1, r2, r3, w, r5, r6, r7, r8], Lg)) o from ev_call (fun v μ => (d + 4, 0, 0, 51, 81, [.val (.ref 1088), .val (.ref s1), .val (.int (MN_2 0 4)), .val s6], v.toList ++ [], μ)) 1 ze22 e (fun n => Eq.refl _)
        by_cases zc23 : x8 ≠ 0
        · have h := itp h zc23
          suffices e : Ev (d + 4, 0, 0, 51, 88, [.val (.ref 1088), .val (.ref s1), .val (.int (MN_2 0 4)), .val s6], [], (126, 120, L, [Y, T, HA, HB, RA, RB, ST, NS, I0, I1, I2, BO, FI, RG, GU, PU, MA, MN_2, MS, OT, SC], [r0, r1, r2, r3, w, r5, r6, r7, r8], Lg)) o from ev_t (c := x8 ≠ 0) _ _ 1  zc23 e (fun n => Eq.refl _)
          have ze24 := Option.some.inj h
          subst ze24
          exact ev_rete 2 ho (fun n => Eq.refl _)
        · have h := itn h zc23
          suffices e : Ev (d + 4, 0, 0, 51, 84, [.val (.ref 1088), .val (.ref s1), .val (.int (MN_2 0 4)), .val s6], [], (126, 120, L, [Y, T, HA, HB, RA, RB, ST, NS, I0, I1, I2, BO, FI, RG, GU, PU, MA, MN_2, MS, OT, SC], [r0, r1, r2, r3, w, r5, r6, r7, r8], Lg)) o from ev_f (c := x8 ≠ 0) _ _ 1  zc23 e (fun n => Eq.refl _)
          have ze25 := Option.some.inj h
          subst ze25
          exact ev_rete 3 ho (fun n => Eq.refl _)
    · have zh26 : some zr8 = some r := h
      exact (congrArg (fun q => ((0, some (.int q.1), (126, 120, L, [Y, T, HA, HB, RA, RB, ST, NS, I0, I1, I2, BO, FI, RG, GU, PU, MA, q.2, MS, OT, SC], [r0, r1, r2, r3, w, r5, r6, r7, r8], Lg)) : AOut)) (Option.some.inj zh26)).trans ho
set_option maxRecDepth 1000000 in
set_option maxHeartbeats 4000000 in
theorem R_f_M_factHere_0 (d : Nat) (Y T HA HB RA RB ST NS I0 I1 I2 BO FI RG GU PU MA MN MS OT SC : Nat → Nat → Int32) (r0 r1 r2 r3 w r5 r6 r7 r8 : Nat) (L : Nat) (Lg : Int64) {r : Int32 × (Nat → Nat → Int32)} (h : f_M_factHere MA MN = some r) : Ev (d + 5, 0, 0, 52, 0, [.val (.ref 1088), .val a_unk], [], (126, 120, L, [Y, T, HA, HB, RA, RB, ST, NS, I0, I1, I2, BO, FI, RG, GU, PU, MA, MN, MS, OT, SC], [r0, r1, r2, r3, w, r5, r6, r7, r8], Lg)) ((0, some (.int r.1), (126, 120, L, [Y, T, HA, HB, RA, RB, ST, NS, I0, I1, I2, BO, FI, RG, GU, PU, MA, r.2, MS, OT, SC], [r0, r1, r2, r3, w, r5, r6, r7, r8], Lg)) : AOut) := by
  suffices key : ∀ o : AOut, ((0, some (.int r.1), (126, 120, L, [Y, T, HA, HB, RA, RB, ST, NS, I0, I1, I2, BO, FI, RG, GU, PU, MA, r.2, MS, OT, SC], [r0, r1, r2, r3, w, r5, r6, r7, r8], Lg)) : AOut) = o → Ev (d + 5, 0, 0, 52, 0, [.val (.ref 1088), .val a_unk], [], (126, 120, L, [Y, T, HA, HB, RA, RB, ST, NS, I0, I1, I2, BO, FI, RG, GU, PU, MA, MN, MS, OT, SC], [r0, r1, r2, r3, w, r5, r6, r7, r8], Lg)) o from key _ rfl
  intro o ho
  obtain ⟨⟨x1, MN_2⟩, zh1, h⟩ := bnd h
  have zh1 : f_M_word MA MN = some (x1, MN_2) := zh1
  have ze2 := R_f_M_word_0 (d + 3) Y T HA HB RA RB ST NS I0 I1 I2 BO FI RG GU PU MA MN MS OT SC r0 r1 r2 r3 w r5 r6 r7 r8 L Lg zh1
  suffices e : Ev (d + 5, 0, 0, 52, 4, [.val (.ref 1088), .val a_unk], [.int x1], (126, 120, L, [Y, T, HA, HB, RA, RB, ST, NS, I0, I1, I2, BO, FI, RG, GU, PU, MA, MN_2, MS, OT, SC], [r0, r1, r2, r3, w, r5, r6, r7, r8], Lg)) o from ev_call (fun v μ => (d + 5, 0, 0, 52, 4, [.val (.ref 1088), .val a_unk], v.toList ++ [], μ)) 2 ze2 e (fun n => Eq.refl _)
  obtain ⟨⟨x3, MN_4⟩, zh3, h⟩ := bnd h
  have zh3 : f_M_stands MA MN_2 2660 = some (x3, MN_4) := zh3
  have ze4 := R_f_M_stands_0 (d + 0) Y T HA HB RA RB ST NS I0 I1 I2 BO FI RG GU PU MA MN_2 MS OT SC r0 r1 r2 r3 w r5 r6 r7 r8 L Lg 2660 zh3
  suffices e : Ev (d + 5, 0, 0, 52, 12, [.val (.ref 1088), .val (.int x1)], [.int x3], (126, 120, L, [Y, T, HA, HB, RA, RB, ST, NS, I0, I1, I2, BO, FI, RG, GU, PU, MA, MN_4, MS, OT, SC], [r0, r1, r2, r3, w, r5, r6, r7, r8], Lg)) o from ev_call (fun v μ => (d + 5, 0, 0, 52, 12, [.val (.ref 1088), .val (.int x1)], v.toList ++ [], μ)) 4 ze4 e (fun n => Eq.refl _)
  by_cases zc5 : x3 = 0
  · have h := itp h zc5
    suffices e : Ev (d + 5, 0, 0, 52, 18, [.val (.ref 1088), .val (.int x1)], [], (126, 120, L, [Y, T, HA, HB, RA, RB, ST, NS, I0, I1, I2, BO, FI, RG, GU, PU, MA, MN_4, MS, OT, SC], [r0, r1, r2, r3, w, r5, r6, r7, r8], Lg)) o from ev_t (c := x3 = 0) _ _ 1  zc5 e (fun n => Eq.refl _)
    obtain ⟨⟨x5, MN_6⟩, zh6, h⟩ := bnd h
    have zh6 : f_M_stands MA MN_4 2661 = some (x5, MN_6) := zh6
    have ze7 := R_f_M_stands_0 (d + 0) Y T HA HB RA RB ST NS I0 I1 I2 BO FI RG GU PU MA MN_4 MS OT SC r0 r1 r2 r3 w r5 r6 r7 r8 L Lg 2661 zh6
    suffices e : Ev (d + 5, 0, 0, 52, 25, [.val (.ref 1088), .val (.int x1)], [.int x5], (126, 120, L, [Y, T, HA, HB, RA, RB, ST, NS, I0, I1, I2, BO, FI, RG, GU, PU, MA, MN_6, MS, OT, SC], [r0, r1, r2, r3, w, r5, r6, r7, r8], Lg)) o from ev_call (fun v μ => (d + 5, 0, 0, 52, 25, [.val (.ref 1088), .val (.int x1)], v.toList ++ [], μ)) 3 ze7 e (fun n => Eq.refl _)
    by_cases zc8 : x5 = 0
    · have h := itp h zc8
      suffices e : Ev (d + 5, 0, 0, 52, 30, [.val (.ref 1088), .val (.int x1)], [], (126, 120, L, [Y, T, HA, HB, RA, RB, ST, NS, I0, I1, I2, BO, FI, RG, GU, PU, MA, MN_6, MS, OT, SC], [r0, r1, r2, r3, w, r5, r6, r7, r8], Lg)) o from ev_t (c := x5 = 0) _ _ 1  zc8 e (fun n => Eq.refl _)
      obtain ⟨x7, zh9, h⟩ := bnd h
      have zh9 : f_M_of 2662 = some x7 := zh9
      have ze10 := R_f_M_of_0 (d + 0) Y T HA HB RA RB ST NS I0 I1 I2 BO FI RG GU PU MA MN_6 MS OT SC r0 r1 r2 r3 w r5 r6 r7 r8 L Lg 2662 zh9
      suffices e : Ev (d + 5, 0, 0, 52, 37, [.val (.ref 1088), .val (.int x1)], [.int x7, .int x1], (126, 120, L, [Y, T, HA, HB, RA, RB, ST, NS, I0, I1, I2, BO, FI, RG, GU, PU, MA, MN_6, MS, OT, SC], [r0, r1, r2, r3, w, r5, r6, r7, r8], Lg)) o from ev_call (fun v μ => (d + 5, 0, 0, 52, 37, [.val (.ref 1088), .val (.int x1)], v.toList ++ [.int x1], μ)) 3 ze10 e (fun n => Eq.refl _)
      by_cases zc11 : x1 ≠ x7
      · have h := itp h zc11
        suffices e : Ev (d + 5, 0, 0, 52, 44, [.val (.ref 1088), .val (.int x1)], [], (126, 120, L, [Y, T, HA, HB, RA, RB, ST, NS, I0, I1, I2, BO, FI, RG, GU, PU, MA, MN_6, MS, OT, SC], [r0, r1, r2, r3, w, r5, r6, r7, r8], Lg)) o from ev_t (c := x1 ≠ x7) _ _ 1  zc11 e (fun n => Eq.refl _)
        obtain ⟨x8, zh12, h⟩ := bnd h
        have zh12 : f_M_of 2663 = some x8 := zh12
        have ze13 := R_f_M_of_0 (d + 0) Y T HA HB RA RB ST NS I0 I1 I2 BO FI RG GU PU MA MN_6 MS OT SC r0 r1 r2 r3 w r5 r6 r7 r8 L Lg 2663 zh12
        suffices e : Ev (d + 5, 0, 0, 52, 51, [.val (.ref 1088), .val (.int x1)], [.int x8, .int x1], (126, 120, L, [Y, T, HA, HB, RA, RB, ST, NS, I0, I1, I2, BO, FI, RG, GU, PU, MA, MN_6, MS, OT, SC], [r0, r1, r2, r3, w, r5, r6, r7, r8], Lg)) o from ev_call (fun v μ => (d + 5, 0, 0, 52, 51, [.val (.ref 1088), .val (.int x1)], v.toList ++ [.int x1], μ)) 3 ze13 e (fun n => Eq.refl _)
        by_cases zc14 : x1 ≠ x8
        · have h := itp h zc14
          suffices e : Ev (d + 5, 0, 0, 52, 58, [.val (.ref 1088), .val (.int x1)], [], (126, 120, L, [Y, T, HA, HB, RA, RB, ST, NS, I0, I1, I2, BO, FI, RG, GU, PU, MA, MN_6, MS, OT, SC], [r0, r1, r2, r3, w, r5, r6, r7, r8], Lg)) o from ev_t (c := x1 ≠ x8) _ _ 1  zc14 e (fun n => Eq.refl _)
          obtain ⟨x9, zh15, h⟩ := bnd h
          have zh15 : f_M_of 2664 = some x9 := zh15
          have ze16 := R_f_M_of_0 (d + 0) Y T HA HB RA RB ST NS I0 I1 I2 BO FI RG GU PU MA MN_6 MS OT SC r0 r1 r2 r3 w r5 r6 r7 r8 L Lg 2664 zh15
          suffices e : Ev (d + 5, 0, 0, 52, 65, [.val (.ref 1088), .val (.int x1)], [.int x9, .int x1], (126, 120, L, [Y, T, HA, HB, RA, RB, ST, NS, I0, I1, I2, BO, FI, RG, GU, PU, MA, MN_6, MS, OT, SC], [r0, r1, r2, r3, w, r5, r6, r7, r8], Lg)) o from ev_call (fun v μ => (d + 5, 0, 0, 52, 65, [.val (.ref 1088), .val (.int x1)], v.toList ++ [.int x1], μ)) 3 ze16 e (fun n => Eq.refl _)
          by_cases zc17 : x1 ≠ x9
          · have h := itp h zc17
            suffices e : Ev (d + 5, 0, 0, 52, 72, [.val (.ref 1088), .val (.int x1)], [], (126, 120, L, [Y, T, HA, HB, RA, RB, ST, NS, I0, I1, I2, BO, FI, RG, GU, PU, MA, MN_6, MS, OT, SC], [r0, r1, r2, r3, w, r5, r6, r7, r8], Lg)) o from ev_t (c := x1 ≠ x9) _ _ 1  zc17 e (fun n => Eq.refl _)
            obtain ⟨x10, zh18, h⟩ := bnd h
            have zh18 : f_M_of 2665 = some x10 := zh18
            have ze19 := R_f_M_of_0 (d + 0) Y T HA HB RA RB ST NS I0 I1 I2 BO FI RG GU PU MA MN_6 MS OT SC r0 r1 r2 r3 w r5 r6 r7 r8 L Lg 2665 zh18
            suffices e : Ev (d + 5, 0, 0, 52, 79, [.val (.ref 1088), .val (.int x1)], [.int x10, .int x1], (126, 120, L, [Y, T, HA, HB, RA, RB, ST, NS, I0, I1, I2, BO, FI, RG, GU, PU, MA, MN_6, MS, OT, SC], [r0, r1, r2, r3, w, r5, r6, r7, r8], Lg)) o from ev_call (fun v μ => (d + 5, 0, 0, 52, 79, [.val (.ref 1088), .val (.int x1)], v.toList ++ [.int x1], μ)) 3 ze19 e (fun n => Eq.refl _)
            by_cases zc20 : x1 ≠ x10
            · have h := itp h zc20
              suffices e : Ev (d + 5, 0, 0, 52, 86, [.val (.ref 1088), .val (.int x1)], [], (126, 120, L, [Y, T, HA, HB, RA, RB, ST, NS, I0, I1, I2, BO, FI, RG, GU, PU, MA, MN_6, MS, OT, SC], [r0, r1, r2, r3, w, r5, r6, r7, r8], Lg)) o from ev_t (c := x1 ≠ x10) _ _ 1  zc20 e (fun n => Eq.refl _)
              obtain ⟨x11, zh21, h⟩ := bnd h
              have zh21 : f_M_of 2666 = some x11 := zh21
              have ze22 := R_f_M_of_0 (d + 0) Y T HA HB RA RB ST NS I0 I1 I2 BO FI RG GU PU MA MN_6 MS OT SC r0 r1 r2 r3 w r5 r6 r7 r8 L Lg 2666 zh21
              suffices e : Ev (d + 5, 0, 0, 52, 93, [.val (.ref 1088), .val (.int x1)], [.int x11, .int x1], (126, 120, L, [Y, T, HA, HB, RA, RB, ST, NS, I0, I1, I2, BO, FI, RG, GU, PU, MA, MN_6, MS, OT, SC], [r0, r1, r2, r3, w, r5, r6, r7, r8], Lg)) o from ev_call (fun v μ => (d + 5, 0, 0, 52, 93, [.val (.ref 1088), .val (.int x1)], v.toList ++ [.int x1], μ)) 3 ze22 e (fun n => Eq.refl _)
              by_cases zc23 : x1 ≠ x11
              · have h := itp h zc23
                suffices e : Ev (d + 5, 0, 0, 52, 100, [.val (.ref 1088), .val (.int x1)], [], (126, 120, L, [Y, T, HA, HB, RA, RB, ST, NS, I0, I1, I2, BO, FI, RG, GU, PU, MA, MN_6, MS, OT, SC], [r0, r1, r2, r3, w, r5, r6, r7, r8], Lg)) o from ev_t (c := x1 ≠ x11) _ _ 1  zc23 e (fun n => Eq.refl _)
                obtain ⟨x12, zh24, h⟩ := bnd h
                have zh24 : f_M_of 2667 = some x12 := zh24
                have ze25 := R_f_M_of_0 (d + 0) Y T HA HB RA RB ST NS I0 I1 I2 BO FI RG GU PU MA MN_6 MS OT SC r0 r1 r2 r3 w r5 r6 r7 r8 L Lg 2667 zh24
                suffices e : Ev (d + 5, 0, 0, 52, 107, [.val (.ref 1088), .val (.int x1)], [.int x12, .int x1], (126, 120, L, [Y, T, HA, HB, RA, RB, ST, NS, I0, I1, I2, BO, FI, RG, GU, PU, MA, MN_6, MS, OT, SC], [r0, r1, r2, r3, w, r5, r6, r7, r8], Lg)) o from ev_call (fun v μ => (d + 5, 0, 0, 52, 107, [.val (.ref 1088), .val (.int x1)], v.toList ++ [.int x1], μ)) 3 ze25 e (fun n => Eq.refl _)
                by_cases zc26 : x1 ≠ x12
                · have h := itp h zc26
                  suffices e : Ev (d + 5, 0, 0, 52, 115, [.val (.ref 1088), .val (.int x1)], [], (126, 120, L, [Y, T, HA, HB, RA, RB, ST, NS, I0, I1, I2, BO, FI, RG, GU, PU, MA, MN_6, MS, OT, SC], [r0, r1, r2, r3, w, r5, r6, r7, r8], Lg)) o from ev_t (c := x1 ≠ x12) _ _ 1  zc26 e (fun n => Eq.refl _)
                  obtain ⟨x13, zh27, h⟩ := bnd h
                  have zh27 : f_M_of 2668 = some x13 := zh27
                  have ze28 := R_f_M_of_0 (d + 0) Y T HA HB RA RB ST NS I0 I1 I2 BO FI RG GU PU MA MN_6 MS OT SC r0 r1 r2 r3 w r5 r6 r7 r8 L Lg 2668 zh27
                  suffices e : Ev (d + 5, 0, 0, 52, 122, [.val (.ref 1088), .val (.int x1)], [.int x13, .int x1], (126, 120, L, [Y, T, HA, HB, RA, RB, ST, NS, I0, I1, I2, BO, FI, RG, GU, PU, MA, MN_6, MS, OT, SC], [r0, r1, r2, r3, w, r5, r6, r7, r8], Lg)) o from ev_call (fun v μ => (d + 5, 0, 0, 52, 122, [.val (.ref 1088), .val (.int x1)], v.toList ++ [.int x1], μ)) 3 ze28 e (fun n => Eq.refl _)
                  by_cases zc29 : x1 ≠ x13
                  · have h := itp h zc29
                    suffices e : Ev (d + 5, 0, 0, 52, 130, [.val (.ref 1088), .val (.int x1)], [], (126, 120, L, [Y, T, HA, HB, RA, RB, ST, NS, I0, I1, I2, BO, FI, RG, GU, PU, MA, MN_6, MS, OT, SC], [r0, r1, r2, r3, w, r5, r6, r7, r8], Lg)) o from ev_t (c := x1 ≠ x13) _ _ 1  zc29 e (fun n => Eq.refl _)
                    obtain ⟨x14, zh30, h⟩ := bnd h
                    have zh30 : f_M_of 2651 = some x14 := zh30
                    have ze31 := R_f_M_of_0 (d + 0) Y T HA HB RA RB ST NS I0 I1 I2 BO FI RG GU PU MA MN_6 MS OT SC r0 r1 r2 r3 w r5 r6 r7 r8 L Lg 2651 zh30
                    suffices e : Ev (d + 5, 0, 0, 52, 136, [.val (.ref 1088), .val (.int x1)], [.int x14, .int x1], (126, 120, L, [Y, T, HA, HB, RA, RB, ST, NS, I0, I1, I2, BO, FI, RG, GU, PU, MA, MN_6, MS, OT, SC], [r0, r1, r2, r3, w, r5, r6, r7, r8], Lg)) o from ev_call (fun v μ => (d + 5, 0, 0, 52, 136, [.val (.ref 1088), .val (.int x1)], v.toList ++ [.int x1], μ)) 3 ze31 e (fun n => Eq.refl _)
                    by_cases zc32 : x1 ≠ x14
                    · have h := itp h zc32
                      suffices e : Ev (d + 5, 0, 0, 52, 144, [.val (.ref 1088), .val (.int x1)], [], (126, 120, L, [Y, T, HA, HB, RA, RB, ST, NS, I0, I1, I2, BO, FI, RG, GU, PU, MA, MN_6, MS, OT, SC], [r0, r1, r2, r3, w, r5, r6, r7, r8], Lg)) o from ev_t (c := x1 ≠ x14) _ _ 1  zc32 e (fun n => Eq.refl _)
                      obtain ⟨x15, zh33, h⟩ := bnd h
                      have zh33 : f_M_of 2669 = some x15 := zh33
                      have ze34 := R_f_M_of_0 (d + 0) Y T HA HB RA RB ST NS I0 I1 I2 BO FI RG GU PU MA MN_6 MS OT SC r0 r1 r2 r3 w r5 r6 r7 r8 L Lg 2669 zh33
                      suffices e : Ev (d + 5, 0, 0, 52, 151, [.val (.ref 1088), .val (.int x1)], [.int x15, .int x1], (126, 120, L, [Y, T, HA, HB, RA, RB, ST, NS, I0, I1, I2, BO, FI, RG, GU, PU, MA, MN_6, MS, OT, SC], [r0, r1, r2, r3, w, r5, r6, r7, r8], Lg)) o from ev_call (fun v μ => (d + 5, 0, 0, 52, 151, [.val (.ref 1088), .val (.int x1)], v.toList ++ [.int x1], μ)) 3 ze34 e (fun n => Eq.refl _)
                      by_cases zc35 : x1 ≠ x15
                      · have h := itp h zc35
                        suffices e : Ev (d + 5, 0, 0, 52, 159, [.val (.ref 1088), .val (.int x1)], [], (126, 120, L, [Y, T, HA, HB, RA, RB, ST, NS, I0, I1, I2, BO, FI, RG, GU, PU, MA, MN_6, MS, OT, SC], [r0, r1, r2, r3, w, r5, r6, r7, r8], Lg)) o from ev_t (c := x1 ≠ x15) _ _ 1  zc35 e (fun n => Eq.refl _)
                        have ze36 := Option.some.inj h
                        subst ze36
                        exact ev_rete 2 ho (fun n => Eq.refl _)
                      · have h := itn h zc35
                        suffices e : Ev (d + 5, 0, 0, 52, 154, [.val (.ref 1088), .val (.int x1)], [], (126, 120, L, [Y, T, HA, HB, RA, RB, ST, NS, I0, I1, I2, BO, FI, RG, GU, PU, MA, MN_6, MS, OT, SC], [r0, r1, r2, r3, w, r5, r6, r7, r8], Lg)) o from ev_f (c := x1 ≠ x15) _ _ 1  zc35 e (fun n => Eq.refl _)
                        have ze37 := Option.some.inj h
                        subst ze37
                        exact ev_rete 3 ho (fun n => Eq.refl _)
                    · have h := itn h zc32
                      suffices e : Ev (d + 5, 0, 0, 52, 139, [.val (.ref 1088), .val (.int x1)], [], (126, 120, L, [Y, T, HA, HB, RA, RB, ST, NS, I0, I1, I2, BO, FI, RG, GU, PU, MA, MN_6, MS, OT, SC], [r0, r1, r2, r3, w, r5, r6, r7, r8], Lg)) o from ev_f (c := x1 ≠ x14) _ _ 1  zc32 e (fun n => Eq.refl _)
                      have ze38 := Option.some.inj h
                      subst ze38
                      exact ev_rete 3 ho (fun n => Eq.refl _)
                  · have h := itn h zc29
                    suffices e : Ev (d + 5, 0, 0, 52, 125, [.val (.ref 1088), .val (.int x1)], [], (126, 120, L, [Y, T, HA, HB, RA, RB, ST, NS, I0, I1, I2, BO, FI, RG, GU, PU, MA, MN_6, MS, OT, SC], [r0, r1, r2, r3, w, r5, r6, r7, r8], Lg)) o from ev_f (c := x1 ≠ x13) _ _ 1  zc29 e (fun n => Eq.refl _)
                    have ze39 := Option.some.inj h
                    subst ze39
                    exact ev_rete 3 ho (fun n => Eq.refl _)
                · have h := itn h zc26
                  suffices e : Ev (d + 5, 0, 0, 52, 110, [.val (.ref 1088), .val (.int x1)], [], (126, 120, L, [Y, T, HA, HB, RA, RB, ST, NS, I0, I1, I2, BO, FI, RG, GU, PU, MA, MN_6, MS, OT, SC], [r0, r1, r2, r3, w, r5, r6, r7, r8], Lg)) o from ev_f (c := x1 ≠ x12) _ _ 1  zc26 e (fun n => Eq.refl _)
                  have ze40 := Option.some.inj h
                  subst ze40
                  exact ev_rete 3 ho (fun n => Eq.refl _)
              · have h := itn h zc23
                suffices e : Ev (d + 5, 0, 0, 52, 96, [.val (.ref 1088), .val (.int x1)], [], (126, 120, L, [Y, T, HA, HB, RA, RB, ST, NS, I0, I1, I2, BO, FI, RG, GU, PU, MA, MN_6, MS, OT, SC], [r0, r1, r2, r3, w, r5, r6, r7, r8], Lg)) o from ev_f (c := x1 ≠ x11) _ _ 1  zc23 e (fun n => Eq.refl _)
                have ze41 := Option.some.inj h
                subst ze41
                exact ev_rete 3 ho (fun n => Eq.refl _)
            · have h := itn h zc20
              suffices e : Ev (d + 5, 0, 0, 52, 82, [.val (.ref 1088), .val (.int x1)], [], (126, 120, L, [Y, T, HA, HB, RA, RB, ST, NS, I0, I1, I2, BO, FI, RG, GU, PU, MA, MN_6, MS, OT, SC], [r0, r1, r2, r3, w, r5, r6, r7, r8], Lg)) o from ev_f (c := x1 ≠ x10) _ _ 1  zc20 e (fun n => Eq.refl _)
              have ze42 := Option.some.inj h
              subst ze42
              exact ev_rete 3 ho (fun n => Eq.refl _)
          · have h := itn h zc17
            suffices e : Ev (d + 5, 0, 0, 52, 68, [.val (.ref 1088), .val (.int x1)], [], (126, 120, L, [Y, T, HA, HB, RA, RB, ST, NS, I0, I1, I2, BO, FI, RG, GU, PU, MA, MN_6, MS, OT, SC], [r0, r1, r2, r3, w, r5, r6, r7, r8], Lg)) o from ev_f (c := x1 ≠ x9) _ _ 1  zc17 e (fun n => Eq.refl _)
            have ze43 := Option.some.inj h
            subst ze43
            exact ev_rete 3 ho (fun n => Eq.refl _)
        · have h := itn h zc14
          suffices e : Ev (d + 5, 0, 0, 52, 54, [.val (.ref 1088), .val (.int x1)], [], (126, 120, L, [Y, T, HA, HB, RA, RB, ST, NS, I0, I1, I2, BO, FI, RG, GU, PU, MA, MN_6, MS, OT, SC], [r0, r1, r2, r3, w, r5, r6, r7, r8], Lg)) o from ev_f (c := x1 ≠ x8) _ _ 1  zc14 e (fun n => Eq.refl _)
          have ze44 := Option.some.inj h
          subst ze44
          exact ev_rete 3 ho (fun n => Eq.refl _)
      · have h := itn h zc11
        suffices e : Ev (d + 5, 0, 0, 52, 40, [.val (.ref 1088), .val (.int x1)], [], (126, 120, L, [Y, T, HA, HB, RA, RB, ST, NS, I0, I1, I2, BO, FI, RG, GU, PU, MA, MN_6, MS, OT, SC], [r0, r1, r2, r3, w, r5, r6, r7, r8], Lg)) o from ev_f (c := x1 ≠ x7) _ _ 1  zc11 e (fun n => Eq.refl _)
        have ze45 := Option.some.inj h
        subst ze45
        exact ev_rete 3 ho (fun n => Eq.refl _)
    · have h := itn h zc8
      suffices e : Ev (d + 5, 0, 0, 52, 28, [.val (.ref 1088), .val (.int x1)], [], (126, 120, L, [Y, T, HA, HB, RA, RB, ST, NS, I0, I1, I2, BO, FI, RG, GU, PU, MA, MN_6, MS, OT, SC], [r0, r1, r2, r3, w, r5, r6, r7, r8], Lg)) o from ev_f (c := x5 = 0) _ _ 1  zc8 e (fun n => Eq.refl _)
      have ze46 := Option.some.inj h
      subst ze46
      exact ev_rete 2 ho (fun n => Eq.refl _)
  · have h := itn h zc5
    suffices e : Ev (d + 5, 0, 0, 52, 15, [.val (.ref 1088), .val (.int x1)], [], (126, 120, L, [Y, T, HA, HB, RA, RB, ST, NS, I0, I1, I2, BO, FI, RG, GU, PU, MA, MN_4, MS, OT, SC], [r0, r1, r2, r3, w, r5, r6, r7, r8], Lg)) o from ev_f (c := x3 = 0) _ _ 1  zc5 e (fun n => Eq.refl _)
    have ze47 := Option.some.inj h
    subst ze47
    exact ev_rete 2 ho (fun n => Eq.refl _)
set_option maxRecDepth 1000000 in
set_option maxHeartbeats 4000000 in
theorem R_f_M_readAny_B_0 (d : Nat) (rc : (Nat → (Nat → Nat → Int32) → (Nat → Nat → Int32) → Option ((Nat → Nat → Int32))))
    (zrc0 : ∀ (Y T HA HB RA RB ST NS I0 I1 I2 BO FI RG GU PU MA MN MS OT SC : Nat → Nat → Int32) (r0 r1 r2 r3 w r5 r6 r7 r8 : Nat) (L : Nat) (Lg : Int64) (r : (Nat → Nat → Int32)), rc 0 MA MN = some r → Ev (d + 5, 0, 0, 46, 0, [.val (.ref 1088)], [], (126, 120, L, [Y, T, HA, HB, RA, RB, ST, NS, I0, I1, I2, BO, FI, RG, GU, PU, MA, MN, MS, OT, SC], [r0, r1, r2, r3, w, r5, r6, r7, r8], Lg)) ((0, none, (126, 120, L, [Y, T, HA, HB, RA, RB, ST, NS, I0, I1, I2, BO, FI, RG, GU, PU, MA, r, MS, OT, SC], [r0, r1, r2, r3, w, r5, r6, r7, r8], Lg)) : AOut))
    (zrc1 : ∀ (Y T HA HB RA RB ST NS I0 I1 I2 BO FI RG GU PU MA MN MS OT SC : Nat → Nat → Int32) (r0 r1 r2 r3 w r5 r6 r7 r8 : Nat) (L : Nat) (Lg : Int64) (r : (Nat → Nat → Int32)), rc 1 MA MN = some r → Ev (d + 5, 0, 0, 47, 0, [.val (.ref 1088)], [], (126, 120, L, [Y, T, HA, HB, RA, RB, ST, NS, I0, I1, I2, BO, FI, RG, GU, PU, MA, MN, MS, OT, SC], [r0, r1, r2, r3, w, r5, r6, r7, r8], Lg)) ((0, none, (126, 120, L, [Y, T, HA, HB, RA, RB, ST, NS, I0, I1, I2, BO, FI, RG, GU, PU, MA, r, MS, OT, SC], [r0, r1, r2, r3, w, r5, r6, r7, r8], Lg)) : AOut))
    (zrc2 : ∀ (Y T HA HB RA RB ST NS I0 I1 I2 BO FI RG GU PU MA MN MS OT SC : Nat → Nat → Int32) (r0 r1 r2 r3 w r5 r6 r7 r8 : Nat) (L : Nat) (Lg : Int64) (r : (Nat → Nat → Int32)), rc 2 MA MN = some r → Ev (d + 5, 0, 0, 48, 0, [.val (.ref 1088), .val a_unk], [], (126, 120, L, [Y, T, HA, HB, RA, RB, ST, NS, I0, I1, I2, BO, FI, RG, GU, PU, MA, MN, MS, OT, SC], [r0, r1, r2, r3, w, r5, r6, r7, r8], Lg)) ((0, none, (126, 120, L, [Y, T, HA, HB, RA, RB, ST, NS, I0, I1, I2, BO, FI, RG, GU, PU, MA, r, MS, OT, SC], [r0, r1, r2, r3, w, r5, r6, r7, r8], Lg)) : AOut))
    (zrc3 : ∀ (Y T HA HB RA RB ST NS I0 I1 I2 BO FI RG GU PU MA MN MS OT SC : Nat → Nat → Int32) (r0 r1 r2 r3 w r5 r6 r7 r8 : Nat) (L : Nat) (Lg : Int64) (r : (Nat → Nat → Int32)), rc 3 MA MN = some r → Ev (d + 5, 0, 0, 49, 0, [.val (.ref 1088), .val a_unk], [], (126, 120, L, [Y, T, HA, HB, RA, RB, ST, NS, I0, I1, I2, BO, FI, RG, GU, PU, MA, MN, MS, OT, SC], [r0, r1, r2, r3, w, r5, r6, r7, r8], Lg)) ((0, none, (126, 120, L, [Y, T, HA, HB, RA, RB, ST, NS, I0, I1, I2, BO, FI, RG, GU, PU, MA, r, MS, OT, SC], [r0, r1, r2, r3, w, r5, r6, r7, r8], Lg)) : AOut))
    (zrc4 : ∀ (Y T HA HB RA RB ST NS I0 I1 I2 BO FI RG GU PU MA MN MS OT SC : Nat → Nat → Int32) (r0 r1 r2 r3 w r5 r6 r7 r8 : Nat) (L : Nat) (Lg : Int64) (r : (Nat → Nat → Int32)), rc 4 MA MN = some r → Ev (d + 5, 0, 0, 50, 0, [.val (.ref 1088)], [], (126, 120, L, [Y, T, HA, HB, RA, RB, ST, NS, I0, I1, I2, BO, FI, RG, GU, PU, MA, MN, MS, OT, SC], [r0, r1, r2, r3, w, r5, r6, r7, r8], Lg)) ((0, none, (126, 120, L, [Y, T, HA, HB, RA, RB, ST, NS, I0, I1, I2, BO, FI, RG, GU, PU, MA, r, MS, OT, SC], [r0, r1, r2, r3, w, r5, r6, r7, r8], Lg)) : AOut))
    (zrc5 : ∀ (Y T HA HB RA RB ST NS I0 I1 I2 BO FI RG GU PU MA MN MS OT SC : Nat → Nat → Int32) (r0 r1 r2 r3 w r5 r6 r7 r8 : Nat) (L : Nat) (Lg : Int64) (r : (Nat → Nat → Int32)), rc 5 MA MN = some r → Ev (d + 5, 0, 0, 53, 0, [.val (.ref 1088), .val a_unk], [], (126, 120, L, [Y, T, HA, HB, RA, RB, ST, NS, I0, I1, I2, BO, FI, RG, GU, PU, MA, MN, MS, OT, SC], [r0, r1, r2, r3, w, r5, r6, r7, r8], Lg)) ((0, none, (126, 120, L, [Y, T, HA, HB, RA, RB, ST, NS, I0, I1, I2, BO, FI, RG, GU, PU, MA, r, MS, OT, SC], [r0, r1, r2, r3, w, r5, r6, r7, r8], Lg)) : AOut))
    (Y T HA HB RA RB ST NS I0 I1 I2 BO FI RG GU PU MA MN MS OT SC : Nat → Nat → Int32) (r0 r1 r2 r3 w r5 r6 r7 r8 : Nat) (L : Nat) (Lg : Int64) {r : (Nat → Nat → Int32)} (h : f_M_readAny_B rc MA MN = some r) : Ev (d + 6, 0, 0, 46, 0, [.val (.ref 1088)], [], (126, 120, L, [Y, T, HA, HB, RA, RB, ST, NS, I0, I1, I2, BO, FI, RG, GU, PU, MA, MN, MS, OT, SC], [r0, r1, r2, r3, w, r5, r6, r7, r8], Lg)) ((0, none, (126, 120, L, [Y, T, HA, HB, RA, RB, ST, NS, I0, I1, I2, BO, FI, RG, GU, PU, MA, r, MS, OT, SC], [r0, r1, r2, r3, w, r5, r6, r7, r8], Lg)) : AOut) := by
  suffices key : ∀ o : AOut, ((0, none, (126, 120, L, [Y, T, HA, HB, RA, RB, ST, NS, I0, I1, I2, BO, FI, RG, GU, PU, MA, r, MS, OT, SC], [r0, r1, r2, r3, w, r5, r6, r7, r8], Lg)) : AOut) = o → Ev (d + 6, 0, 0, 46, 0, [.val (.ref 1088)], [], (126, 120, L, [Y, T, HA, HB, RA, RB, ST, NS, I0, I1, I2, BO, FI, RG, GU, PU, MA, MN, MS, OT, SC], [r0, r1, r2, r3, w, r5, r6, r7, r8], Lg)) o from key _ rfl
  intro o ho
  obtain ⟨MN_1, zh1, h⟩ := bnd h
  have zh1 : rc 1 MA MN = some MN_1 := zh1
  have ze2 := zrc1 Y T HA HB RA RB ST NS I0 I1 I2 BO FI RG GU PU MA MN MS OT SC r0 r1 r2 r3 w r5 r6 r7 r8 L Lg _ zh1
  suffices e : Ev (d + 6, 0, 0, 46, 4, [.val (.ref 1088)], [], (126, 120, L, [Y, T, HA, HB, RA, RB, ST, NS, I0, I1, I2, BO, FI, RG, GU, PU, MA, MN_1, MS, OT, SC], [r0, r1, r2, r3, w, r5, r6, r7, r8], Lg)) o from ev_call (fun v μ => (d + 6, 0, 0, 46, 4, [.val (.ref 1088)], v.toList ++ [], μ)) 2 ze2 e (fun n => Eq.refl _)
  obtain ⟨MN_10, zh4, h⟩ := bnd h
  suffices e : Ev (d + 6, 0, 0, 46, 4, [.val (.ref 1088)], [], (126, 120, L, [Y, T, HA, HB, RA, RB, ST, NS, I0, I1, I2, BO, FI, RG, GU, PU, MA, MN_1, MS, OT, SC], [r0, r1, r2, r3, w, r5, r6, r7, r8], Lg)) o from ev_b 0 e (fun n => Eq.refl _)
  refine ev_loop (δ := Unit) (fun a j => (d + 6, 0, 0, 46, 4, [.val (.ref 1088)], [], (126, 120, L, [Y, T, HA, HB, RA, RB, ST, NS, I0, I1, I2, BO, FI, RG, GU, PU, MA, a, MS, OT, SC], [r0, r1, r2, r3, w, r5, r6, r7, r8], Lg))) (fun b => Ev (d + 6, 0, 0, 46, 42, [.val (.ref 1088)], [], (126, 120, L, [Y, T, HA, HB, RA, RB, ST, NS, I0, I1, I2, BO, FI, RG, GU, PU, MA, b, MS, OT, SC], [r0, r1, r2, r3, w, r5, r6, r7, r8], Lg)) o) ?_ a_F MN_1 MN_10 zh4 ?_ ()
  · rintro MN_2 zr8 zh7 zi5 zx6 ⟨⟩
    have zh7 : f_M_readAny_B_l4 MA rc MN_2 = some zr8 := zh7
    obtain ⟨x3, zh9, zh7⟩ := bnd zh7
    have zh9 : f_M_fine MN_2 = some x3 := zh9
    have ze10 := R_f_M_fine_0 (d + 5) Y T HA HB RA RB ST NS I0 I1 I2 BO FI RG GU PU MA MN_2 MS OT SC r0 r1 r2 r3 w r5 r6 r7 r8 L Lg zh9
    suffices e : Ev (d + 6, 0, 0, 46, 8, [.val (.ref 1088)], [.int x3], (126, 120, L, [Y, T, HA, HB, RA, RB, ST, NS, I0, I1, I2, BO, FI, RG, GU, PU, MA, MN_2, MS, OT, SC], [r0, r1, r2, r3, w, r5, r6, r7, r8], Lg)) o from ev_call (fun v μ => (d + 6, 0, 0, 46, 8, [.val (.ref 1088)], v.toList ++ [], μ)) 2 ze10 e (fun n => Eq.refl _)
    by_cases zc11 : x3 = 0
    · have zh7 := itp zh7 zc11
      suffices e : Ev (d + 6, 0, 0, 46, 42, [.val (.ref 1088)], [], (126, 120, L, [Y, T, HA, HB, RA, RB, ST, NS, I0, I1, I2, BO, FI, RG, GU, PU, MA, MN_2, MS, OT, SC], [r0, r1, r2, r3, w, r5, r6, r7, r8], Lg)) o from ev_t (c := x3 = 0) _ _ 1  zc11 e (fun n => Eq.refl _)
      exact ev_b 0 (zx6 _ (Option.some.inj zh7).symm ) (fun n => Eq.refl _)
    · have zh7 := itn zh7 zc11
      suffices e : Ev (d + 6, 0, 0, 46, 11, [.val (.ref 1088)], [], (126, 120, L, [Y, T, HA, HB, RA, RB, ST, NS, I0, I1, I2, BO, FI, RG, GU, PU, MA, MN_2, MS, OT, SC], [r0, r1, r2, r3, w, r5, r6, r7, r8], Lg)) o from ev_f (c := x3 = 0) _ _ 1  zc11 e (fun n => Eq.refl _)
      obtain ⟨⟨x4, MN_5⟩, zh12, zh7⟩ := bnd zh7
      have zh12 : f_M_word MA MN_2 = some (x4, MN_5) := zh12
      have ze13 := R_f_M_word_0 (d + 4) Y T HA HB RA RB ST NS I0 I1 I2 BO FI RG GU PU MA MN_2 MS OT SC r0 r1 r2 r3 w r5 r6 r7 r8 L Lg zh12
      suffices e : Ev (d + 6, 0, 0, 46, 15, [.val (.ref 1088)], [.int x4], (126, 120, L, [Y, T, HA, HB, RA, RB, ST, NS, I0, I1, I2, BO, FI, RG, GU, PU, MA, MN_5, MS, OT, SC], [r0, r1, r2, r3, w, r5, r6, r7, r8], Lg)) o from ev_call (fun v μ => (d + 6, 0, 0, 46, 15, [.val (.ref 1088)], v.toList ++ [], μ)) 2 ze13 e (fun n => Eq.refl _)
      obtain ⟨x6, zh14, zh7⟩ := bnd zh7
      have zh14 : f_M_of 2657 = some x6 := zh14
      have ze15 := R_f_M_of_0 (d + 1) Y T HA HB RA RB ST NS I0 I1 I2 BO FI RG GU PU MA MN_5 MS OT SC r0 r1 r2 r3 w r5 r6 r7 r8 L Lg 2657 zh14
      suffices e : Ev (d + 6, 0, 0, 46, 21, [.val (.ref 1088)], [.int x6, .int x4], (126, 120, L, [Y, T, HA, HB, RA, RB, ST, NS, I0, I1, I2, BO, FI, RG, GU, PU, MA, MN_5, MS, OT, SC], [r0, r1, r2, r3, w, r5, r6, r7, r8], Lg)) o from ev_call (fun v μ => (d + 6, 0, 0, 46, 21, [.val (.ref 1088)], v.toList ++ [.int x4], μ)) 2 ze15 e (fun n => Eq.refl _)
      by_cases zc16 : x4 ≠ x6
      · have zh7 := itp zh7 zc16
        suffices e : Ev (d + 6, 0, 0, 46, 42, [.val (.ref 1088)], [], (126, 120, L, [Y, T, HA, HB, RA, RB, ST, NS, I0, I1, I2, BO, FI, RG, GU, PU, MA, MN_5, MS, OT, SC], [r0, r1, r2, r3, w, r5, r6, r7, r8], Lg)) o from ev_t (c := x4 ≠ x6) _ _ 1  zc16 e (fun n => Eq.refl _)
        exact ev_b 0 (zx6 _ (Option.some.inj zh7).symm ) (fun n => Eq.refl _)
      · have zh7 := itn zh7 zc16
        suffices e : Ev (d + 6, 0, 0, 46, 24, [.val (.ref 1088)], [], (126, 120, L, [Y, T, HA, HB, RA, RB, ST, NS, I0, I1, I2, BO, FI, RG, GU, PU, MA, MN_5, MS, OT, SC], [r0, r1, r2, r3, w, r5, r6, r7, r8], Lg)) o from ev_f (c := x4 ≠ x6) _ _ 1  zc16 e (fun n => Eq.refl _)
        obtain ⟨MN_7, zh17, zh7⟩ := bnd zh7
        have zh17 : f_M_pass MA MN_5 = some MN_7 := zh17
        have ze18 := R_f_M_pass_0 (d + 4) Y T HA HB RA RB ST NS I0 I1 I2 BO FI RG GU PU MA MN_5 MS OT SC r0 r1 r2 r3 w r5 r6 r7 r8 L Lg zh17
        suffices e : Ev (d + 6, 0, 0, 46, 28, [.val (.ref 1088)], [], (126, 120, L, [Y, T, HA, HB, RA, RB, ST, NS, I0, I1, I2, BO, FI, RG, GU, PU, MA, MN_7, MS, OT, SC], [r0, r1, r2, r3, w, r5, r6, r7, r8], Lg)) o from ev_call (fun v μ => (d + 6, 0, 0, 46, 28, [.val (.ref 1088)], v.toList ++ [], μ)) 2 ze18 e (fun n => Eq.refl _)
        obtain ⟨MN_8, zh19, zh7⟩ := bnd zh7
        have zh19 : rc 1 MA MN_7 = some MN_8 := zh19
        have ze20 := zrc1 Y T HA HB RA RB ST NS I0 I1 I2 BO FI RG GU PU MA MN_7 MS OT SC r0 r1 r2 r3 w r5 r6 r7 r8 L Lg _ zh19
        suffices e : Ev (d + 6, 0, 0, 46, 32, [.val (.ref 1088)], [], (126, 120, L, [Y, T, HA, HB, RA, RB, ST, NS, I0, I1, I2, BO, FI, RG, GU, PU, MA, MN_8, MS, OT, SC], [r0, r1, r2, r3, w, r5, r6, r7, r8], Lg)) o from ev_call (fun v μ => (d + 6, 0, 0, 46, 32, [.val (.ref 1088)], v.toList ++ [], μ)) 2 ze20 e (fun n => Eq.refl _)
        obtain ⟨MN_9, zh21, zh7⟩ := bnd zh7
        have zh21 : f_M_emit MN_8 10 0 = some MN_9 := zh21
        have ze22 := R_f_M_emit_0 (d + 4) Y T HA HB RA RB ST NS I0 I1 I2 BO FI RG GU PU MA MN_8 MS OT SC r0 r1 r2 r3 w r5 r6 r7 r8 L Lg 10 0 zh21
        suffices e : Ev (d + 6, 0, 0, 46, 39, [.val (.ref 1088)], [], (126, 120, L, [Y, T, HA, HB, RA, RB, ST, NS, I0, I1, I2, BO, FI, RG, GU, PU, MA, MN_9, MS, OT, SC], [r0, r1, r2, r3, w, r5, r6, r7, r8], Lg)) o from ev_call (fun v μ => (d + 6, 0, 0, 46, 39, [.val (.ref 1088)], v.toList ++ [], μ)) 4 ze22 e (fun n => Eq.refl _)
        exact ev_b 1 (zi5 _ (Option.some.inj zh7).symm ()) (fun n => Eq.refl _)
  · skip
    have ze23 := Option.some.inj h
    subst ze23
    exact ev_rete 1 ho (fun n => Eq.refl _)
set_option maxRecDepth 1000000 in
set_option maxHeartbeats 4000000 in
theorem R_f_M_readAll_B_0 (d : Nat) (rc : (Nat → (Nat → Nat → Int32) → (Nat → Nat → Int32) → Option ((Nat → Nat → Int32))))
    (zrc0 : ∀ (Y T HA HB RA RB ST NS I0 I1 I2 BO FI RG GU PU MA MN MS OT SC : Nat → Nat → Int32) (r0 r1 r2 r3 w r5 r6 r7 r8 : Nat) (L : Nat) (Lg : Int64) (r : (Nat → Nat → Int32)), rc 0 MA MN = some r → Ev (d + 5, 0, 0, 46, 0, [.val (.ref 1088)], [], (126, 120, L, [Y, T, HA, HB, RA, RB, ST, NS, I0, I1, I2, BO, FI, RG, GU, PU, MA, MN, MS, OT, SC], [r0, r1, r2, r3, w, r5, r6, r7, r8], Lg)) ((0, none, (126, 120, L, [Y, T, HA, HB, RA, RB, ST, NS, I0, I1, I2, BO, FI, RG, GU, PU, MA, r, MS, OT, SC], [r0, r1, r2, r3, w, r5, r6, r7, r8], Lg)) : AOut))
    (zrc1 : ∀ (Y T HA HB RA RB ST NS I0 I1 I2 BO FI RG GU PU MA MN MS OT SC : Nat → Nat → Int32) (r0 r1 r2 r3 w r5 r6 r7 r8 : Nat) (L : Nat) (Lg : Int64) (r : (Nat → Nat → Int32)), rc 1 MA MN = some r → Ev (d + 5, 0, 0, 47, 0, [.val (.ref 1088)], [], (126, 120, L, [Y, T, HA, HB, RA, RB, ST, NS, I0, I1, I2, BO, FI, RG, GU, PU, MA, MN, MS, OT, SC], [r0, r1, r2, r3, w, r5, r6, r7, r8], Lg)) ((0, none, (126, 120, L, [Y, T, HA, HB, RA, RB, ST, NS, I0, I1, I2, BO, FI, RG, GU, PU, MA, r, MS, OT, SC], [r0, r1, r2, r3, w, r5, r6, r7, r8], Lg)) : AOut))
    (zrc2 : ∀ (Y T HA HB RA RB ST NS I0 I1 I2 BO FI RG GU PU MA MN MS OT SC : Nat → Nat → Int32) (r0 r1 r2 r3 w r5 r6 r7 r8 : Nat) (L : Nat) (Lg : Int64) (r : (Nat → Nat → Int32)), rc 2 MA MN = some r → Ev (d + 5, 0, 0, 48, 0, [.val (.ref 1088), .val a_unk], [], (126, 120, L, [Y, T, HA, HB, RA, RB, ST, NS, I0, I1, I2, BO, FI, RG, GU, PU, MA, MN, MS, OT, SC], [r0, r1, r2, r3, w, r5, r6, r7, r8], Lg)) ((0, none, (126, 120, L, [Y, T, HA, HB, RA, RB, ST, NS, I0, I1, I2, BO, FI, RG, GU, PU, MA, r, MS, OT, SC], [r0, r1, r2, r3, w, r5, r6, r7, r8], Lg)) : AOut))
    (zrc3 : ∀ (Y T HA HB RA RB ST NS I0 I1 I2 BO FI RG GU PU MA MN MS OT SC : Nat → Nat → Int32) (r0 r1 r2 r3 w r5 r6 r7 r8 : Nat) (L : Nat) (Lg : Int64) (r : (Nat → Nat → Int32)), rc 3 MA MN = some r → Ev (d + 5, 0, 0, 49, 0, [.val (.ref 1088), .val a_unk], [], (126, 120, L, [Y, T, HA, HB, RA, RB, ST, NS, I0, I1, I2, BO, FI, RG, GU, PU, MA, MN, MS, OT, SC], [r0, r1, r2, r3, w, r5, r6, r7, r8], Lg)) ((0, none, (126, 120, L, [Y, T, HA, HB, RA, RB, ST, NS, I0, I1, I2, BO, FI, RG, GU, PU, MA, r, MS, OT, SC], [r0, r1, r2, r3, w, r5, r6, r7, r8], Lg)) : AOut))
    (zrc4 : ∀ (Y T HA HB RA RB ST NS I0 I1 I2 BO FI RG GU PU MA MN MS OT SC : Nat → Nat → Int32) (r0 r1 r2 r3 w r5 r6 r7 r8 : Nat) (L : Nat) (Lg : Int64) (r : (Nat → Nat → Int32)), rc 4 MA MN = some r → Ev (d + 5, 0, 0, 50, 0, [.val (.ref 1088)], [], (126, 120, L, [Y, T, HA, HB, RA, RB, ST, NS, I0, I1, I2, BO, FI, RG, GU, PU, MA, MN, MS, OT, SC], [r0, r1, r2, r3, w, r5, r6, r7, r8], Lg)) ((0, none, (126, 120, L, [Y, T, HA, HB, RA, RB, ST, NS, I0, I1, I2, BO, FI, RG, GU, PU, MA, r, MS, OT, SC], [r0, r1, r2, r3, w, r5, r6, r7, r8], Lg)) : AOut))
    (zrc5 : ∀ (Y T HA HB RA RB ST NS I0 I1 I2 BO FI RG GU PU MA MN MS OT SC : Nat → Nat → Int32) (r0 r1 r2 r3 w r5 r6 r7 r8 : Nat) (L : Nat) (Lg : Int64) (r : (Nat → Nat → Int32)), rc 5 MA MN = some r → Ev (d + 5, 0, 0, 53, 0, [.val (.ref 1088), .val a_unk], [], (126, 120, L, [Y, T, HA, HB, RA, RB, ST, NS, I0, I1, I2, BO, FI, RG, GU, PU, MA, MN, MS, OT, SC], [r0, r1, r2, r3, w, r5, r6, r7, r8], Lg)) ((0, none, (126, 120, L, [Y, T, HA, HB, RA, RB, ST, NS, I0, I1, I2, BO, FI, RG, GU, PU, MA, r, MS, OT, SC], [r0, r1, r2, r3, w, r5, r6, r7, r8], Lg)) : AOut))
    (Y T HA HB RA RB ST NS I0 I1 I2 BO FI RG GU PU MA MN MS OT SC : Nat → Nat → Int32) (r0 r1 r2 r3 w r5 r6 r7 r8 : Nat) (L : Nat) (Lg : Int64) {r : (Nat → Nat → Int32)} (h : f_M_readAll_B rc MA MN = some r) : Ev (d + 6, 0, 0, 47, 0, [.val (.ref 1088)], [], (126, 120, L, [Y, T, HA, HB, RA, RB, ST, NS, I0, I1, I2, BO, FI, RG, GU, PU, MA, MN, MS, OT, SC], [r0, r1, r2, r3, w, r5, r6, r7, r8], Lg)) ((0, none, (126, 120, L, [Y, T, HA, HB, RA, RB, ST, NS, I0, I1, I2, BO, FI, RG, GU, PU, MA, r, MS, OT, SC], [r0, r1, r2, r3, w, r5, r6, r7, r8], Lg)) : AOut) := by
  suffices key : ∀ o : AOut, ((0, none, (126, 120, L, [Y, T, HA, HB, RA, RB, ST, NS, I0, I1, I2, BO, FI, RG, GU, PU, MA, r, MS, OT, SC], [r0, r1, r2, r3, w, r5, r6, r7, r8], Lg)) : AOut) = o → Ev (d + 6, 0, 0, 47, 0, [.val (.ref 1088)], [], (126, 120, L, [Y, T, HA, HB, RA, RB, ST, NS, I0, I1, I2, BO, FI, RG, GU, PU, MA, MN, MS, OT, SC], [r0, r1, r2, r3, w, r5, r6, r7, r8], Lg)) o from key _ rfl
  intro o ho
  obtain ⟨MN_1, zh1, h⟩ := bnd h
  have zh1 : rc 2 MA MN = some MN_1 := zh1
  have ze2 := zrc2 Y T HA HB RA RB ST NS I0 I1 I2 BO FI RG GU PU MA MN MS OT SC r0 r1 r2 r3 w r5 r6 r7 r8 L Lg _ zh1
  suffices e : Ev (d + 6, 0, 0, 47, 4, [.val (.ref 1088)], [], (126, 120, L, [Y, T, HA, HB, RA, RB, ST, NS, I0, I1, I2, BO, FI, RG, GU, PU, MA, MN_1, MS, OT, SC], [r0, r1, r2, r3, w, r5, r6, r7, r8], Lg)) o from ev_call (fun v μ => (d + 6, 0, 0, 47, 4, [.val (.ref 1088)], v.toList ++ [], μ)) 2 ze2 e (fun n => Eq.refl _)
  obtain ⟨MN_10, zh4, h⟩ := bnd h
  suffices e : Ev (d + 6, 0, 0, 47, 4, [.val (.ref 1088)], [], (126, 120, L, [Y, T, HA, HB, RA, RB, ST, NS, I0, I1, I2, BO, FI, RG, GU, PU, MA, MN_1, MS, OT, SC], [r0, r1, r2, r3, w, r5, r6, r7, r8], Lg)) o from ev_b 0 e (fun n => Eq.refl _)
  refine ev_loop (δ := Unit) (fun a j => (d + 6, 0, 0, 47, 4, [.val (.ref 1088)], [], (126, 120, L, [Y, T, HA, HB, RA, RB, ST, NS, I0, I1, I2, BO, FI, RG, GU, PU, MA, a, MS, OT, SC], [r0, r1, r2, r3, w, r5, r6, r7, r8], Lg))) (fun b => Ev (d + 6, 0, 0, 47, 42, [.val (.ref 1088)], [], (126, 120, L, [Y, T, HA, HB, RA, RB, ST, NS, I0, I1, I2, BO, FI, RG, GU, PU, MA, b, MS, OT, SC], [r0, r1, r2, r3, w, r5, r6, r7, r8], Lg)) o) ?_ a_F MN_1 MN_10 zh4 ?_ ()
  · rintro MN_2 zr8 zh7 zi5 zx6 ⟨⟩
    have zh7 : f_M_readAll_B_l4 MA rc MN_2 = some zr8 := zh7
    obtain ⟨x3, zh9, zh7⟩ := bnd zh7
    have zh9 : f_M_fine MN_2 = some x3 := zh9
    have ze10 := R_f_M_fine_0 (d + 5) Y T HA HB RA RB ST NS I0 I1 I2 BO FI RG GU PU MA MN_2 MS OT SC r0 r1 r2 r3 w r5 r6 r7 r8 L Lg zh9
    suffices e : Ev (d + 6, 0, 0, 47, 8, [.val (.ref 1088)], [.int x3], (126, 120, L, [Y, T, HA, HB, RA, RB, ST, NS, I0, I1, I2, BO, FI, RG, GU, PU, MA, MN_2, MS, OT, SC], [r0, r1, r2, r3, w, r5, r6, r7, r8], Lg)) o from ev_call (fun v μ => (d + 6, 0, 0, 47, 8, [.val (.ref 1088)], v.toList ++ [], μ)) 2 ze10 e (fun n => Eq.refl _)
    by_cases zc11 : x3 = 0
    · have zh7 := itp zh7 zc11
      suffices e : Ev (d + 6, 0, 0, 47, 42, [.val (.ref 1088)], [], (126, 120, L, [Y, T, HA, HB, RA, RB, ST, NS, I0, I1, I2, BO, FI, RG, GU, PU, MA, MN_2, MS, OT, SC], [r0, r1, r2, r3, w, r5, r6, r7, r8], Lg)) o from ev_t (c := x3 = 0) _ _ 1  zc11 e (fun n => Eq.refl _)
      exact ev_b 0 (zx6 _ (Option.some.inj zh7).symm ) (fun n => Eq.refl _)
    · have zh7 := itn zh7 zc11
      suffices e : Ev (d + 6, 0, 0, 47, 11, [.val (.ref 1088)], [], (126, 120, L, [Y, T, HA, HB, RA, RB, ST, NS, I0, I1, I2, BO, FI, RG, GU, PU, MA, MN_2, MS, OT, SC], [r0, r1, r2, r3, w, r5, r6, r7, r8], Lg)) o from ev_f (c := x3 = 0) _ _ 1  zc11 e (fun n => Eq.refl _)
      obtain ⟨⟨x4, MN_5⟩, zh12, zh7⟩ := bnd zh7
      have zh12 : f_M_word MA MN_2 = some (x4, MN_5) := zh12
      have ze13 := R_f_M_word_0 (d + 4) Y T HA HB RA RB ST NS I0 I1 I2 BO FI RG GU PU MA MN_2 MS OT SC r0 r1 r2 r3 w r5 r6 r7 r8 L Lg zh12
      suffices e : Ev (d + 6, 0, 0, 47, 15, [.val (.ref 1088)], [.int x4], (126, 120, L, [Y, T, HA, HB, RA, RB, ST, NS, I0, I1, I2, BO, FI, RG, GU, PU, MA, MN_5, MS, OT, SC], [r0, r1, r2, r3, w, r5, r6, r7, r8], Lg)) o from ev_call (fun v μ => (d + 6, 0, 0, 47, 15, [.val (.ref 1088)], v.toList ++ [], μ)) 2 ze13 e (fun n => Eq.refl _)
      obtain ⟨x6, zh14, zh7⟩ := bnd zh7
      have zh14 : f_M_of 2658 = some x6 := zh14
      have ze15 := R_f_M_of_0 (d + 1) Y T HA HB RA RB ST NS I0 I1 I2 BO FI RG GU PU MA MN_5 MS OT SC r0 r1 r2 r3 w r5 r6 r7 r8 L Lg 2658 zh14
      suffices e : Ev (d + 6, 0, 0, 47, 21, [.val (.ref 1088)], [.int x6, .int x4], (126, 120, L, [Y, T, HA, HB, RA, RB, ST, NS, I0, I1, I2, BO, FI, RG, GU, PU, MA, MN_5, MS, OT, SC], [r0, r1, r2, r3, w, r5, r6, r7, r8], Lg)) o from ev_call (fun v μ => (d + 6, 0, 0, 47, 21, [.val (.ref 1088)], v.toList ++ [.int x4], μ)) 2 ze15 e (fun n => Eq.refl _)
      by_cases zc16 : x4 ≠ x6
      · have zh7 := itp zh7 zc16
        suffices e : Ev (d + 6, 0, 0, 47, 42, [.val (.ref 1088)], [], (126, 120, L, [Y, T, HA, HB, RA, RB, ST, NS, I0, I1, I2, BO, FI, RG, GU, PU, MA, MN_5, MS, OT, SC], [r0, r1, r2, r3, w, r5, r6, r7, r8], Lg)) o from ev_t (c := x4 ≠ x6) _ _ 1  zc16 e (fun n => Eq.refl _)
        exact ev_b 0 (zx6 _ (Option.some.inj zh7).symm ) (fun n => Eq.refl _)
      · have zh7 := itn zh7 zc16
        suffices e : Ev (d + 6, 0, 0, 47, 24, [.val (.ref 1088)], [], (126, 120, L, [Y, T, HA, HB, RA, RB, ST, NS, I0, I1, I2, BO, FI, RG, GU, PU, MA, MN_5, MS, OT, SC], [r0, r1, r2, r3, w, r5, r6, r7, r8], Lg)) o from ev_f (c := x4 ≠ x6) _ _ 1  zc16 e (fun n => Eq.refl _)
        obtain ⟨MN_7, zh17, zh7⟩ := bnd zh7
        have zh17 : f_M_pass MA MN_5 = some MN_7 := zh17
        have ze18 := R_f_M_pass_0 (d + 4) Y T HA HB RA RB ST NS I0 I1 I2 BO FI RG GU PU MA MN_5 MS OT SC r0 r1 r2 r3 w r5 r6 r7 r8 L Lg zh17
        suffices e : Ev (d + 6, 0, 0, 47, 28, [.val (.ref 1088)], [], (126, 120, L, [Y, T, HA, HB, RA, RB, ST, NS, I0, I1, I2, BO, FI, RG, GU, PU, MA, MN_7, MS, OT, SC], [r0, r1, r2, r3, w, r5, r6, r7, r8], Lg)) o from ev_call (fun v μ => (d + 6, 0, 0, 47, 28, [.val (.ref 1088)], v.toList ++ [], μ)) 2 ze18 e (fun n => Eq.refl _)
        obtain ⟨MN_8, zh19, zh7⟩ := bnd zh7
        have zh19 : rc 2 MA MN_7 = some MN_8 := zh19
        have ze20 := zrc2 Y T HA HB RA RB ST NS I0 I1 I2 BO FI RG GU PU MA MN_7 MS OT SC r0 r1 r2 r3 w r5 r6 r7 r8 L Lg _ zh19
        suffices e : Ev (d + 6, 0, 0, 47, 32, [.val (.ref 1088)], [], (126, 120, L, [Y, T, HA, HB, RA, RB, ST, NS, I0, I1, I2, BO, FI, RG, GU, PU, MA, MN_8, MS, OT, SC], [r0, r1, r2, r3, w, r5, r6, r7, r8], Lg)) o from ev_call (fun v μ => (d + 6, 0, 0, 47, 32, [.val (.ref 1088)], v.toList ++ [], μ)) 2 ze20 e (fun n => Eq.refl _)
        obtain ⟨MN_9, zh21, zh7⟩ := bnd zh7
        have zh21 : f_M_emit MN_8 9 0 = some MN_9 := zh21
        have ze22 := R_f_M_emit_0 (d + 4) Y T HA HB RA RB ST NS I0 I1 I2 BO FI RG GU PU MA MN_8 MS OT SC r0 r1 r2 r3 w r5 r6 r7 r8 L Lg 9 0 zh21
        suffices e : Ev (d + 6, 0, 0, 47, 39, [.val (.ref 1088)], [], (126, 120, L, [Y, T, HA, HB, RA, RB, ST, NS, I0, I1, I2, BO, FI, RG, GU, PU, MA, MN_9, MS, OT, SC], [r0, r1, r2, r3, w, r5, r6, r7, r8], Lg)) o from ev_call (fun v μ => (d + 6, 0, 0, 47, 39, [.val (.ref 1088)], v.toList ++ [], μ)) 4 ze22 e (fun n => Eq.refl _)
        exact ev_b 1 (zi5 _ (Option.some.inj zh7).symm ()) (fun n => Eq.refl _)
  · skip
    have ze23 := Option.some.inj h
    subst ze23
    exact ev_rete 1 ho (fun n => Eq.refl _)
set_option maxRecDepth 1000000 in
set_option maxHeartbeats 4000000 in
theorem R_f_M_readOne_B_0 (d : Nat) (rc : (Nat → (Nat → Nat → Int32) → (Nat → Nat → Int32) → Option ((Nat → Nat → Int32))))
    (zrc0 : ∀ (Y T HA HB RA RB ST NS I0 I1 I2 BO FI RG GU PU MA MN MS OT SC : Nat → Nat → Int32) (r0 r1 r2 r3 w r5 r6 r7 r8 : Nat) (L : Nat) (Lg : Int64) (r : (Nat → Nat → Int32)), rc 0 MA MN = some r → Ev (d + 5, 0, 0, 46, 0, [.val (.ref 1088)], [], (126, 120, L, [Y, T, HA, HB, RA, RB, ST, NS, I0, I1, I2, BO, FI, RG, GU, PU, MA, MN, MS, OT, SC], [r0, r1, r2, r3, w, r5, r6, r7, r8], Lg)) ((0, none, (126, 120, L, [Y, T, HA, HB, RA, RB, ST, NS, I0, I1, I2, BO, FI, RG, GU, PU, MA, r, MS, OT, SC], [r0, r1, r2, r3, w, r5, r6, r7, r8], Lg)) : AOut))
    (zrc1 : ∀ (Y T HA HB RA RB ST NS I0 I1 I2 BO FI RG GU PU MA MN MS OT SC : Nat → Nat → Int32) (r0 r1 r2 r3 w r5 r6 r7 r8 : Nat) (L : Nat) (Lg : Int64) (r : (Nat → Nat → Int32)), rc 1 MA MN = some r → Ev (d + 5, 0, 0, 47, 0, [.val (.ref 1088)], [], (126, 120, L, [Y, T, HA, HB, RA, RB, ST, NS, I0, I1, I2, BO, FI, RG, GU, PU, MA, MN, MS, OT, SC], [r0, r1, r2, r3, w, r5, r6, r7, r8], Lg)) ((0, none, (126, 120, L, [Y, T, HA, HB, RA, RB, ST, NS, I0, I1, I2, BO, FI, RG, GU, PU, MA, r, MS, OT, SC], [r0, r1, r2, r3, w, r5, r6, r7, r8], Lg)) : AOut))
    (zrc2 : ∀ (Y T HA HB RA RB ST NS I0 I1 I2 BO FI RG GU PU MA MN MS OT SC : Nat → Nat → Int32) (r0 r1 r2 r3 w r5 r6 r7 r8 : Nat) (L : Nat) (Lg : Int64) (r : (Nat → Nat → Int32)), rc 2 MA MN = some r → Ev (d + 5, 0, 0, 48, 0, [.val (.ref 1088), .val a_unk], [], (126, 120, L, [Y, T, HA, HB, RA, RB, ST, NS, I0, I1, I2, BO, FI, RG, GU, PU, MA, MN, MS, OT, SC], [r0, r1, r2, r3, w, r5, r6, r7, r8], Lg)) ((0, none, (126, 120, L, [Y, T, HA, HB, RA, RB, ST, NS, I0, I1, I2, BO, FI, RG, GU, PU, MA, r, MS, OT, SC], [r0, r1, r2, r3, w, r5, r6, r7, r8], Lg)) : AOut))
    (zrc3 : ∀ (Y T HA HB RA RB ST NS I0 I1 I2 BO FI RG GU PU MA MN MS OT SC : Nat → Nat → Int32) (r0 r1 r2 r3 w r5 r6 r7 r8 : Nat) (L : Nat) (Lg : Int64) (r : (Nat → Nat → Int32)), rc 3 MA MN = some r → Ev (d + 5, 0, 0, 49, 0, [.val (.ref 1088), .val a_unk], [], (126, 120, L, [Y, T, HA, HB, RA, RB, ST, NS, I0, I1, I2, BO, FI, RG, GU, PU, MA, MN, MS, OT, SC], [r0, r1, r2, r3, w, r5, r6, r7, r8], Lg)) ((0, none, (126, 120, L, [Y, T, HA, HB, RA, RB, ST, NS, I0, I1, I2, BO, FI, RG, GU, PU, MA, r, MS, OT, SC], [r0, r1, r2, r3, w, r5, r6, r7, r8], Lg)) : AOut))
    (zrc4 : ∀ (Y T HA HB RA RB ST NS I0 I1 I2 BO FI RG GU PU MA MN MS OT SC : Nat → Nat → Int32) (r0 r1 r2 r3 w r5 r6 r7 r8 : Nat) (L : Nat) (Lg : Int64) (r : (Nat → Nat → Int32)), rc 4 MA MN = some r → Ev (d + 5, 0, 0, 50, 0, [.val (.ref 1088)], [], (126, 120, L, [Y, T, HA, HB, RA, RB, ST, NS, I0, I1, I2, BO, FI, RG, GU, PU, MA, MN, MS, OT, SC], [r0, r1, r2, r3, w, r5, r6, r7, r8], Lg)) ((0, none, (126, 120, L, [Y, T, HA, HB, RA, RB, ST, NS, I0, I1, I2, BO, FI, RG, GU, PU, MA, r, MS, OT, SC], [r0, r1, r2, r3, w, r5, r6, r7, r8], Lg)) : AOut))
    (zrc5 : ∀ (Y T HA HB RA RB ST NS I0 I1 I2 BO FI RG GU PU MA MN MS OT SC : Nat → Nat → Int32) (r0 r1 r2 r3 w r5 r6 r7 r8 : Nat) (L : Nat) (Lg : Int64) (r : (Nat → Nat → Int32)), rc 5 MA MN = some r → Ev (d + 5, 0, 0, 53, 0, [.val (.ref 1088), .val a_unk], [], (126, 120, L, [Y, T, HA, HB, RA, RB, ST, NS, I0, I1, I2, BO, FI, RG, GU, PU, MA, MN, MS, OT, SC], [r0, r1, r2, r3, w, r5, r6, r7, r8], Lg)) ((0, none, (126, 120, L, [Y, T, HA, HB, RA, RB, ST, NS, I0, I1, I2, BO, FI, RG, GU, PU, MA, r, MS, OT, SC], [r0, r1, r2, r3, w, r5, r6, r7, r8], Lg)) : AOut))
    (Y T HA HB RA RB ST NS I0 I1 I2 BO FI RG GU PU MA MN MS OT SC : Nat → Nat → Int32) (r0 r1 r2 r3 w r5 r6 r7 r8 : Nat) (L : Nat) (Lg : Int64) {r : (Nat → Nat → Int32)} (h : f_M_readOne_B rc MA MN = some r) : Ev (d + 6, 0, 0, 48, 0, [.val (.ref 1088), .val a_unk], [], (126, 120, L, [Y, T, HA, HB, RA, RB, ST, NS, I0, I1, I2, BO, FI, RG, GU, PU, MA, MN, MS, OT, SC], [r0, r1, r2, r3, w, r5, r6, r7, r8], Lg)) ((0, none, (126, 120, L, [Y, T, HA, HB, RA, RB, ST, NS, I0, I1, I2, BO, FI, RG, GU, PU, MA, r, MS, OT, SC], [r0, r1, r2, r3, w, r5, r6, r7, r8], Lg)) : AOut) := by
  suffices key : ∀ o : AOut, ((0, none, (126, 120, L, [Y, T, HA, HB, RA, RB, ST, NS, I0, I1, I2, BO, FI, RG, GU, PU, MA, r, MS, OT, SC], [r0, r1, r2, r3, w, r5, r6, r7, r8], Lg)) : AOut) = o → Ev (d + 6, 0, 0, 48, 0, [.val (.ref 1088), .val a_unk], [], (126, 120, L, [Y, T, HA, HB, RA, RB, ST, NS, I0, I1, I2, BO, FI, RG, GU, PU, MA, MN, MS, OT, SC], [r0, r1, r2, r3, w, r5, r6, r7, r8], Lg)) o from key _ rfl
  intro o ho
  obtain ⟨x1, zh1, h⟩ := bnd h
  have zh1 : f_M_fine MN = some x1 := zh1
  have ze2 := R_f_M_fine_0 (d + 5) Y T HA HB RA RB ST NS I0 I1 I2 BO FI RG GU PU MA MN MS OT SC r0 r1 r2 r3 w r5 r6 r7 r8 L Lg zh1
  suffices e : Ev (d + 6, 0, 0, 48, 4, [.val (.ref 1088), .val a_unk], [.int x1], (126, 120, L, [Y, T, HA, HB, RA, RB, ST, NS, I0, I1, I2, BO, FI, RG, GU, PU, MA, MN, MS, OT, SC], [r0, r1, r2, r3, w, r5, r6, r7, r8], Lg)) o from ev_call (fun v μ => (d + 6, 0, 0, 48, 4, [.val (.ref 1088), .val a_unk], v.toList ++ [], μ)) 2 ze2 e (fun n => Eq.refl _)
  by_cases zc3 : x1 ≠ 0
  · have h := itp h zc3
    suffices e : Ev (d + 6, 0, 0, 48, 8, [.val (.ref 1088), .val a_unk], [], (126, 120, L, [Y, T, HA, HB, RA, RB, ST, NS, I0, I1, I2, BO, FI, RG, GU, PU, MA, MN, MS, OT, SC], [r0, r1, r2, r3, w, r5, r6, r7, r8], Lg)) o from ev_t (c := x1 ≠ 0) _ _ 1  zc3 e (fun n => Eq.refl _)
    obtain ⟨⟨x2, MN_3⟩, zh4, h⟩ := bnd h
    have zh4 : f_M_here MA MN = some (x2, MN_3) := zh4
    have ze5 := R_f_M_here_0 (d + 5) Y T HA HB RA RB ST NS I0 I1 I2 BO FI RG GU PU MA MN MS OT SC r0 r1 r2 r3 w r5 r6 r7 r8 L Lg zh4
    suffices e : Ev (d + 6, 0, 0, 48, 12, [.val (.ref 1088), .val a_unk], [.int x2], (126, 120, L, [Y, T, HA, HB, RA, RB, ST, NS, I0, I1, I2, BO, FI, RG, GU, PU, MA, MN_3, MS, OT, SC], [r0, r1, r2, r3, w, r5, r6, r7, r8], Lg)) o from ev_call (fun v μ => (d + 6, 0, 0, 48, 12, [.val (.ref 1088), .val a_unk], v.toList ++ [], μ)) 2 ze5 e (fun n => Eq.refl _)
    by_cases zc6 : x2 ≠ 91
    · have h := itp h zc6
      suffices e : Ev (d + 6, 0, 0, 48, 45, [.val (.ref 1088), .val a_unk], [], (126, 120, L, [Y, T, HA, HB, RA, RB, ST, NS, I0, I1, I2, BO, FI, RG, GU, PU, MA, MN_3, MS, OT, SC], [r0, r1, r2, r3, w, r5, r6, r7, r8], Lg)) o from ev_t (c := x2 ≠ 91) _ _ 2  zc6 e (fun n => Eq.refl _)
      obtain ⟨⟨x4, MN_5⟩, zh7, h⟩ := bnd h
      have zh7 : f_M_word MA MN_3 = some (x4, MN_5) := zh7
      have ze8 := R_f_M_word_0 (d + 4) Y T HA HB RA RB ST NS I0 I1 I2 BO FI RG GU PU MA MN_3 MS OT SC r0 r1 r2 r3 w r5 r6 r7 r8 L Lg zh7
      suffices e : Ev (d + 6, 0, 0, 48, 49, [.val (.ref 1088), .val a_unk], [.int x4], (126, 120, L, [Y, T, HA, HB, RA, RB, ST, NS, I0, I1, I2, BO, FI, RG, GU, PU, MA, MN_5, MS, OT, SC], [r0, r1, r2, r3, w, r5, r6, r7, r8], Lg)) o from ev_call (fun v μ => (d + 6, 0, 0, 48, 49, [.val (.ref 1088), .val a_unk], v.toList ++ [], μ)) 2 ze8 e (fun n => Eq.refl _)
      obtain ⟨x6, zh9, h⟩ := bnd h
      have zh9 : f_M_of 2659 = some x6 := zh9
      have ze10 := R_f_M_of_0 (d + 1) Y T HA HB RA RB ST NS I0 I1 I2 BO FI RG GU PU MA MN_5 MS OT SC r0 r1 r2 r3 w r5 r6 r7 r8 L Lg 2659 zh9
      suffices e : Ev (d + 6, 0, 0, 48, 55, [.val (.ref 1088), .val a_unk], [.int x6, .int x4], (126, 120, L, [Y, T, HA, HB, RA, RB, ST, NS, I0, I1, I2, BO, FI, RG, GU, PU, MA, MN_5, MS, OT, SC], [r0, r1, r2, r3, w, r5, r6, r7, r8], Lg)) o from ev_call (fun v μ => (d + 6, 0, 0, 48, 55, [.val (.ref 1088), .val a_unk], v.toList ++ [.int x4], μ)) 2 ze10 e (fun n => Eq.refl _)
      by_cases zc11 : x4 ≠ x6
      · have h := itp h zc11
        suffices e : Ev (d + 6, 0, 0, 48, 87, [.val (.ref 1088), .val a_unk], [], (126, 120, L, [Y, T, HA, HB, RA, RB, ST, NS, I0, I1, I2, BO, FI, RG, GU, PU, MA, MN_5, MS, OT, SC], [r0, r1, r2, r3, w, r5, r6, r7, r8], Lg)) o from ev_t (c := x4 ≠ x6) _ _ 1  zc11 e (fun n => Eq.refl _)
        obtain ⟨MN_7, zh12, h⟩ := bnd h
        have zh12 : rc 3 MA MN_5 = some MN_7 := zh12
        have ze13 := zrc3 Y T HA HB RA RB ST NS I0 I1 I2 BO FI RG GU PU MA MN_5 MS OT SC r0 r1 r2 r3 w r5 r6 r7 r8 L Lg _ zh12
        suffices e : Ev (d + 6, 0, 0, 48, 91, [.val (.ref 1088), .val a_unk], [], (126, 120, L, [Y, T, HA, HB, RA, RB, ST, NS, I0, I1, I2, BO, FI, RG, GU, PU, MA, MN_7, MS, OT, SC], [r0, r1, r2, r3, w, r5, r6, r7, r8], Lg)) o from ev_call (fun v μ => (d + 6, 0, 0, 48, 91, [.val (.ref 1088), .val a_unk], v.toList ++ [], μ)) 2 ze13 e (fun n => Eq.refl _)
        obtain ⟨⟨x8, MN_9⟩, zh14, h⟩ := bnd h
        have zh14 : f_M_here MA MN_7 = some (x8, MN_9) := zh14
        have ze15 := R_f_M_here_0 (d + 5) Y T HA HB RA RB ST NS I0 I1 I2 BO FI RG GU PU MA MN_7 MS OT SC r0 r1 r2 r3 w r5 r6 r7 r8 L Lg zh14
        suffices e : Ev (d + 6, 0, 0, 48, 95, [.val (.ref 1088), .val a_unk], [.int x8], (126, 120, L, [Y, T, HA, HB, RA, RB, ST, NS, I0, I1, I2, BO, FI, RG, GU, PU, MA, MN_9, MS, OT, SC], [r0, r1, r2, r3, w, r5, r6, r7, r8], Lg)) o from ev_call (fun v μ => (d + 6, 0, 0, 48, 95, [.val (.ref 1088), .val a_unk], v.toList ++ [], μ)) 2 ze15 e (fun n => Eq.refl _)
        obtain ⟨zt16, zh17, h⟩ := bnd h
        have zj18 : ∀ (MN_11 : (Nat → Nat → Int32)), MN_11 = zt16 → Ev (d + 6, 0, 0, 48, 123, [.val (.ref 1088), .val (.int x8)], [], (126, 120, L, [Y, T, HA, HB, RA, RB, ST, NS, I0, I1, I2, BO, FI, RG, GU, PU, MA, MN_11, MS, OT, SC], [r0, r1, r2, r3, w, r5, r6, r7, r8], Lg)) o := by
          intro MN_11 ze19
          subst ze19
          obtain ⟨x12, zh20, h⟩ := bnd h
          have zh20 : f_M_fine MN_11 = some x12 := zh20
          have ze21 := R_f_M_fine_0 (d + 5) Y T HA HB RA RB ST NS I0 I1 I2 BO FI RG GU PU MA MN_11 MS OT SC r0 r1 r2 r3 w r5 r6 r7 r8 L Lg zh20
          suffices e : Ev (d + 6, 0, 0, 48, 127, [.val (.ref 1088), .val (.int x8)], [.int x12], (126, 120, L, [Y, T, HA, HB, RA, RB, ST, NS, I0, I1, I2, BO, FI, RG, GU, PU, MA, MN_11, MS, OT, SC], [r0, r1, r2, r3, w, r5, r6, r7, r8], Lg)) o from ev_call (fun v μ => (d + 6, 0, 0, 48, 127, [.val (.ref 1088), .val (.int x8)], v.toList ++ [], μ)) 2 ze21 e (fun n => Eq.refl _)
          by_cases zc22 : x12 ≠ 0
          · have h := itp h zc22
            suffices e : Ev (d + 6, 0, 0, 48, 131, [.val (.ref 1088), .val (.int x8)], [], (126, 120, L, [Y, T, HA, HB, RA, RB, ST, NS, I0, I1, I2, BO, FI, RG, GU, PU, MA, MN_11, MS, OT, SC], [r0, r1, r2, r3, w, r5, r6, r7, r8], Lg)) o from ev_t (c := x12 ≠ 0) _ _ 1  zc22 e (fun n => Eq.refl _)
            obtain ⟨MN_13, zh23, h⟩ := bnd h
            have zh23 : rc 3 MA (u2 MN_11 0 4 ((MN_11 0 4) + 1)) = some MN_13 := zh23
            have ze24 := zrc3 Y T HA HB RA RB ST NS I0 I1 I2 BO FI RG GU PU MA (u2 MN_11 0 4 ((MN_11 0 4) + 1)) MS OT SC r0 r1 r2 r3 w r5 r6 r7 r8 L Lg _ zh23
            suffices e : Ev (d + 6, 0, 0, 48, 145, [.val (.ref 1088), .val (.int x8)], [], (126, 120, L, [Y, T, HA, HB, RA, RB, ST, NS, I0, I1, I2, BO, FI, RG, GU, PU, MA, MN_13, MS, OT, SC], [r0, r1, r2, r3, w, r5, r6, r7, r8], Lg)) o from ev_call (fun v μ => (d + 6, 0, 0, 48, 145, [.val (.ref 1088), .val (.int x8)], v.toList ++ [], μ)) 8 ze24 e (fun n => Eq.refl _)
            obtain ⟨zt25, zh26, h⟩ := bnd h
            have zj27 : ∀ (v14 : Int32), v14 = zt25 → Ev (d + 6, 0, 0, 48, 169, [.val (.ref 1088), .val (.int x8)], [.int v14, .ref 1088], (126, 120, L, [Y, T, HA, HB, RA, RB, ST, NS, I0, I1, I2, BO, FI, RG, GU, PU, MA, MN_13, MS, OT, SC], [r0, r1, r2, r3, w, r5, r6, r7, r8], Lg)) o := by
              intro v14 ze28
              subst ze28
              obtain ⟨MN_15, zh29, h⟩ := bnd h
              have zh29 : f_M_emit MN_13 v14 0 = some MN_15 := zh29
              have ze30 := R_f_M_emit_0 (d + 4) Y T HA HB RA RB ST NS I0 I1 I2 BO FI RG GU PU MA MN_13 MS OT SC r0 r1 r2 r3 w r5 r6 r7 r8 L Lg v14 0 zh29
              suffices e : Ev (d + 6, 0, 0, 48, 173, [.val (.ref 1088), .val (.int x8)], [], (126, 120, L, [Y, T, HA, HB, RA, RB, ST, NS, I0, I1, I2, BO, FI, RG, GU, PU, MA, MN_15, MS, OT, SC], [r0, r1, r2, r3, w, r5, r6, r7, r8], Lg)) o from ev_call (fun v μ => (d + 6, 0, 0, 48, 173, [.val (.ref 1088), .val (.int x8)], v.toList ++ [], μ)) 2 ze30 e (fun n => Eq.refl _)
              have ze31 := Option.some.inj h
              subst ze31
              exact ev_rete 1 ho (fun n => Eq.refl _)
            by_cases zc32 : x8 ≠ 60
            · have zh26 := itp zh26 zc32
              suffices e : Ev (d + 6, 0, 0, 48, 156, [.val (.ref 1088), .val (.int x8)], [.ref 1088], (126, 120, L, [Y, T, HA, HB, RA, RB, ST, NS, I0, I1, I2, BO, FI, RG, GU, PU, MA, MN_13, MS, OT, SC], [r0, r1, r2, r3, w, r5, r6, r7, r8], Lg)) o from ev_t (c := x8 ≠ 60) _ _ 4  zc32 e (fun n => Eq.refl _)
              by_cases zc33 : x8 ≠ 62
              · have zh26 := itp zh26 zc33
                suffices e : Ev (d + 6, 0, 0, 48, 167, [.val (.ref 1088), .val (.int x8)], [.ref 1088], (126, 120, L, [Y, T, HA, HB, RA, RB, ST, NS, I0, I1, I2, BO, FI, RG, GU, PU, MA, MN_13, MS, OT, SC], [r0, r1, r2, r3, w, r5, r6, r7, r8], Lg)) o from ev_t (c := x8 ≠ 62) _ _ 3  zc33 e (fun n => Eq.refl _)
                exact ev_b 1 (zj27 7 (Option.some.inj zh26) ) (fun n => Eq.refl _)
              · have zh26 := itn zh26 zc33
                suffices e : Ev (d + 6, 0, 0, 48, 162, [.val (.ref 1088), .val (.int x8)], [.ref 1088], (126, 120, L, [Y, T, HA, HB, RA, RB, ST, NS, I0, I1, I2, BO, FI, RG, GU, PU, MA, MN_13, MS, OT, SC], [r0, r1, r2, r3, w, r5, r6, r7, r8], Lg)) o from ev_f (c := x8 ≠ 62) _ _ 3  zc33 e (fun n => Eq.refl _)
                exact ev_b 2 (zj27 6 (Option.some.inj zh26) ) (fun n => Eq.refl _)
            · have zh26 := itn zh26 zc32
              suffices e : Ev (d + 6, 0, 0, 48, 152, [.val (.ref 1088), .val (.int x8)], [.ref 1088], (126, 120, L, [Y, T, HA, HB, RA, RB, ST, NS, I0, I1, I2, BO, FI, RG, GU, PU, MA, MN_13, MS, OT, SC], [r0, r1, r2, r3, w, r5, r6, r7, r8], Lg)) o from ev_f (c := x8 ≠ 60) _ _ 4  zc32 e (fun n => Eq.refl _)
              exact ev_b 2 (zj27 5 (Option.some.inj zh26) ) (fun n => Eq.refl _)
          · have h := itn h zc22
            suffices e : Ev (d + 6, 0, 0, 48, 130, [.val (.ref 1088), .val (.int x8)], [], (126, 120, L, [Y, T, HA, HB, RA, RB, ST, NS, I0, I1, I2, BO, FI, RG, GU, PU, MA, MN_11, MS, OT, SC], [r0, r1, r2, r3, w, r5, r6, r7, r8], Lg)) o from ev_f (c := x12 ≠ 0) _ _ 1  zc22 e (fun n => Eq.refl _)
            have ze34 := Option.some.inj h
            subst ze34
            exact ev_rete 1 ho (fun n => Eq.refl _)
        by_cases zc35 : x8 = 60
        · have zh17 := itp zh17 zc35
          suffices e : Ev (d + 6, 0, 0, 48, 123, [.val (.ref 1088), .val (.int x8)], [], (126, 120, L, [Y, T, HA, HB, RA, RB, ST, NS, I0, I1, I2, BO, FI, RG, GU, PU, MA, MN_9, MS, OT, SC], [r0, r1, r2, r3, w, r5, r6, r7, r8], Lg)) o from ev_t (c := x8 = 60) _ _ 4  zc35 e (fun n => Eq.refl _)
          exact ev_b 0 (zj18 MN_9 (Option.some.inj zh17) ) (fun n => Eq.refl _)
        · have zh17 := itn zh17 zc35
          suffices e : Ev (d + 6, 0, 0, 48, 102, [.val (.ref 1088), .val (.int x8)], [], (126, 120, L, [Y, T, HA, HB, RA, RB, ST, NS, I0, I1, I2, BO, FI, RG, GU, PU, MA, MN_9, MS, OT, SC], [r0, r1, r2, r3, w, r5, r6, r7, r8], Lg)) o from ev_f (c := x8 = 60) _ _ 4  zc35 e (fun n => Eq.refl _)
          by_cases zc36 : x8 = 62
          · have zh17 := itp zh17 zc36
            suffices e : Ev (d + 6, 0, 0, 48, 123, [.val (.ref 1088), .val (.int x8)], [], (126, 120, L, [Y, T, HA, HB, RA, RB, ST, NS, I0, I1, I2, BO, FI, RG, GU, PU, MA, MN_9, MS, OT, SC], [r0, r1, r2, r3, w, r5, r6, r7, r8], Lg)) o from ev_t (c := x8 = 62) _ _ 3  zc36 e (fun n => Eq.refl _)
            exact ev_b 0 (zj18 MN_9 (Option.some.inj zh17) ) (fun n => Eq.refl _)
          · have zh17 := itn zh17 zc36
            suffices e : Ev (d + 6, 0, 0, 48, 108, [.val (.ref 1088), .val (.int x8)], [], (126, 120, L, [Y, T, HA, HB, RA, RB, ST, NS, I0, I1, I2, BO, FI, RG, GU, PU, MA, MN_9, MS, OT, SC], [r0, r1, r2, r3, w, r5, r6, r7, r8], Lg)) o from ev_f (c := x8 = 62) _ _ 3  zc36 e (fun n => Eq.refl _)
            by_cases zc37 : x8 = 61
            · have zh17 := itp zh17 zc37
              suffices e : Ev (d + 6, 0, 0, 48, 123, [.val (.ref 1088), .val (.int x8)], [], (126, 120, L, [Y, T, HA, HB, RA, RB, ST, NS, I0, I1, I2, BO, FI, RG, GU, PU, MA, MN_9, MS, OT, SC], [r0, r1, r2, r3, w, r5, r6, r7, r8], Lg)) o from ev_t (c := x8 = 61) _ _ 3  zc37 e (fun n => Eq.refl _)
              exact ev_b 0 (zj18 MN_9 (Option.some.inj zh17) ) (fun n => Eq.refl _)
            · have zh17 := itn zh17 zc37
              suffices e : Ev (d + 6, 0, 0, 48, 114, [.val (.ref 1088), .val (.int x8)], [], (126, 120, L, [Y, T, HA, HB, RA, RB, ST, NS, I0, I1, I2, BO, FI, RG, GU, PU, MA, MN_9, MS, OT, SC], [r0, r1, r2, r3, w, r5, r6, r7, r8], Lg)) o from ev_f (c := x8 = 61) _ _ 3  zc37 e (fun n => Eq.refl _)
              obtain ⟨MN_10, zh38, zh17⟩ := bnd zh17
              have zh38 : f_M_wrong MN_9 1 (MN_9 0 4) = some MN_10 := zh38
              have ze39 := R_f_M_wrong_0 (d + 5) Y T HA HB RA RB ST NS I0 I1 I2 BO FI RG GU PU MA MN_9 MS OT SC r0 r1 r2 r3 w r5 r6 r7 r8 L Lg 1 (MN_9 0 4) zh38
              suffices e : Ev (d + 6, 0, 0, 48, 123, [.val (.ref 1088), .val (.int x8)], [], (126, 120, L, [Y, T, HA, HB, RA, RB, ST, NS, I0, I1, I2, BO, FI, RG, GU, PU, MA, MN_10, MS, OT, SC], [r0, r1, r2, r3, w, r5, r6, r7, r8], Lg)) o from ev_call (fun v μ => (d + 6, 0, 0, 48, 123, [.val (.ref 1088), .val (.int x8)], v.toList ++ [], μ)) 5 ze39 e (fun n => Eq.refl _)
              exact ev_b 0 (zj18 MN_10 (Option.some.inj zh17) ) (fun n => Eq.refl _)
      · have h := itn h zc11
        suffices e : Ev (d + 6, 0, 0, 48, 58, [.val (.ref 1088), .val a_unk], [], (126, 120, L, [Y, T, HA, HB, RA, RB, ST, NS, I0, I1, I2, BO, FI, RG, GU, PU, MA, MN_5, MS, OT, SC], [r0, r1, r2, r3, w, r5, r6, r7, r8], Lg)) o from ev_f (c := x4 ≠ x6) _ _ 1  zc11 e (fun n => Eq.refl _)
        obtain ⟨MN_16, zh40, h⟩ := bnd h
        have zh40 : f_M_opensOne MN_5 3 = some MN_16 := zh40
        have ze41 := R_f_M_opensOne_0 (d + 4) Y T HA HB RA RB ST NS I0 I1 I2 BO FI RG GU PU MA MN_5 MS OT SC r0 r1 r2 r3 w r5 r6 r7 r8 L Lg 3 zh40
        suffices e : Ev (d + 6, 0, 0, 48, 63, [.val (.ref 1088), .val a_unk], [], (126, 120, L, [Y, T, HA, HB, RA, RB, ST, NS, I0, I1, I2, BO, FI, RG, GU, PU, MA, MN_16, MS, OT, SC], [r0, r1, r2, r3, w, r5, r6, r7, r8], Lg)) o from ev_call (fun v μ => (d + 6, 0, 0, 48, 63, [.val (.ref 1088), .val a_unk], v.toList ++ [], μ)) 3 ze41 e (fun n => Eq.refl _)
        obtain ⟨MN_17, zh42, h⟩ := bnd h
        have zh42 : rc 2 MA MN_16 = some MN_17 := zh42
        have ze43 := zrc2 Y T HA HB RA RB ST NS I0 I1 I2 BO FI RG GU PU MA MN_16 MS OT SC r0 r1 r2 r3 w r5 r6 r7 r8 L Lg _ zh42
        suffices e : Ev (d + 6, 0, 0, 48, 67, [.val (.ref 1088), .val a_unk], [], (126, 120, L, [Y, T, HA, HB, RA, RB, ST, NS, I0, I1, I2, BO, FI, RG, GU, PU, MA, MN_17, MS, OT, SC], [r0, r1, r2, r3, w, r5, r6, r7, r8], Lg)) o from ev_call (fun v μ => (d + 6, 0, 0, 48, 67, [.val (.ref 1088), .val a_unk], v.toList ++ [], μ)) 2 ze43 e (fun n => Eq.refl _)
        obtain ⟨MN_18, zh44, h⟩ := bnd h
        have zh44 : f_M_emit (u2 MN_17 0 7 ((MN_17 0 7) - 1)) 8 0 = some MN_18 := zh44
        have ze45 := R_f_M_emit_0 (d + 4) Y T HA HB RA RB ST NS I0 I1 I2 BO FI RG GU PU MA (u2 MN_17 0 7 ((MN_17 0 7) - 1)) MS OT SC r0 r1 r2 r3 w r5 r6 r7 r8 L Lg 8 0 zh44
        suffices e : Ev (d + 6, 0, 0, 48, 84, [.val (.ref 1088), .val a_unk], [], (126, 120, L, [Y, T, HA, HB, RA, RB, ST, NS, I0, I1, I2, BO, FI, RG, GU, PU, MA, MN_18, MS, OT, SC], [r0, r1, r2, r3, w, r5, r6, r7, r8], Lg)) o from ev_call (fun v μ => (d + 6, 0, 0, 48, 84, [.val (.ref 1088), .val a_unk], v.toList ++ [], μ)) 10 ze45 e (fun n => Eq.refl _)
        have ze46 := Option.some.inj h
        subst ze46
        exact ev_rete 2 ho (fun n => Eq.refl _)
    · have h := itn h zc6
      suffices e : Ev (d + 6, 0, 0, 48, 17, [.val (.ref 1088), .val a_unk], [], (126, 120, L, [Y, T, HA, HB, RA, RB, ST, NS, I0, I1, I2, BO, FI, RG, GU, PU, MA, MN_3, MS, OT, SC], [r0, r1, r2, r3, w, r5, r6, r7, r8], Lg)) o from ev_f (c := x2 ≠ 91) _ _ 2  zc6 e (fun n => Eq.refl _)
      obtain ⟨MN_19, zh47, h⟩ := bnd h
      have zh47 : f_M_opensOne MN_3 1 = some MN_19 := zh47
      have ze48 := R_f_M_opensOne_0 (d + 4) Y T HA HB RA RB ST NS I0 I1 I2 BO FI RG GU PU MA MN_3 MS OT SC r0 r1 r2 r3 w r5 r6 r7 r8 L Lg 1 zh47
      suffices e : Ev (d + 6, 0, 0, 48, 22, [.val (.ref 1088), .val a_unk], [], (126, 120, L, [Y, T, HA, HB, RA, RB, ST, NS, I0, I1, I2, BO, FI, RG, GU, PU, MA, MN_19, MS, OT, SC], [r0, r1, r2, r3, w, r5, r6, r7, r8], Lg)) o from ev_call (fun v μ => (d + 6, 0, 0, 48, 22, [.val (.ref 1088), .val a_unk], v.toList ++ [], μ)) 3 ze48 e (fun n => Eq.refl _)
      obtain ⟨MN_20, zh49, h⟩ := bnd h
      have zh49 : rc 0 MA MN_19 = some MN_20 := zh49
      have ze50 := zrc0 Y T HA HB RA RB ST NS I0 I1 I2 BO FI RG GU PU MA MN_19 MS OT SC r0 r1 r2 r3 w r5 r6 r7 r8 L Lg _ zh49
      suffices e : Ev (d + 6, 0, 0, 48, 26, [.val (.ref 1088), .val a_unk], [], (126, 120, L, [Y, T, HA, HB, RA, RB, ST, NS, I0, I1, I2, BO, FI, RG, GU, PU, MA, MN_20, MS, OT, SC], [r0, r1, r2, r3, w, r5, r6, r7, r8], Lg)) o from ev_call (fun v μ => (d + 6, 0, 0, 48, 26, [.val (.ref 1088), .val a_unk], v.toList ++ [], μ)) 2 ze50 e (fun n => Eq.refl _)
      obtain ⟨MN_21, zh51, h⟩ := bnd h
      have zh51 : f_M_sign MA MN_20 93 = some MN_21 := zh51
      have ze52 := R_f_M_sign_0 (d + 4) Y T HA HB RA RB ST NS I0 I1 I2 BO FI RG GU PU MA MN_20 MS OT SC r0 r1 r2 r3 w r5 r6 r7 r8 L Lg 93 zh51
      suffices e : Ev (d + 6, 0, 0, 48, 32, [.val (.ref 1088), .val a_unk], [], (126, 120, L, [Y, T, HA, HB, RA, RB, ST, NS, I0, I1, I2, BO, FI, RG, GU, PU, MA, MN_21, MS, OT, SC], [r0, r1, r2, r3, w, r5, r6, r7, r8], Lg)) o from ev_call (fun v μ => (d + 6, 0, 0, 48, 32, [.val (.ref 1088), .val a_unk], v.toList ++ [], μ)) 3 ze52 e (fun n => Eq.refl _)
      have ze53 := Option.some.inj h
      subst ze53
      exact ev_rete 8 ho (fun n => Eq.refl _)
  · have h := itn h zc3
    suffices e : Ev (d + 6, 0, 0, 48, 7, [.val (.ref 1088), .val a_unk], [], (126, 120, L, [Y, T, HA, HB, RA, RB, ST, NS, I0, I1, I2, BO, FI, RG, GU, PU, MA, MN, MS, OT, SC], [r0, r1, r2, r3, w, r5, r6, r7, r8], Lg)) o from ev_f (c := x1 ≠ 0) _ _ 1  zc3 e (fun n => Eq.refl _)
    have ze54 := Option.some.inj h
    subst ze54
    exact ev_rete 1 ho (fun n => Eq.refl _)
set_option maxRecDepth 1000000 in
set_option maxHeartbeats 4000000 in
theorem R_f_M_readSum_B_0 (d : Nat) (rc : (Nat → (Nat → Nat → Int32) → (Nat → Nat → Int32) → Option ((Nat → Nat → Int32))))
    (zrc0 : ∀ (Y T HA HB RA RB ST NS I0 I1 I2 BO FI RG GU PU MA MN MS OT SC : Nat → Nat → Int32) (r0 r1 r2 r3 w r5 r6 r7 r8 : Nat) (L : Nat) (Lg : Int64) (r : (Nat → Nat → Int32)), rc 0 MA MN = some r → Ev (d + 5, 0, 0, 46, 0, [.val (.ref 1088)], [], (126, 120, L, [Y, T, HA, HB, RA, RB, ST, NS, I0, I1, I2, BO, FI, RG, GU, PU, MA, MN, MS, OT, SC], [r0, r1, r2, r3, w, r5, r6, r7, r8], Lg)) ((0, none, (126, 120, L, [Y, T, HA, HB, RA, RB, ST, NS, I0, I1, I2, BO, FI, RG, GU, PU, MA, r, MS, OT, SC], [r0, r1, r2, r3, w, r5, r6, r7, r8], Lg)) : AOut))
    (zrc1 : ∀ (Y T HA HB RA RB ST NS I0 I1 I2 BO FI RG GU PU MA MN MS OT SC : Nat → Nat → Int32) (r0 r1 r2 r3 w r5 r6 r7 r8 : Nat) (L : Nat) (Lg : Int64) (r : (Nat → Nat → Int32)), rc 1 MA MN = some r → Ev (d + 5, 0, 0, 47, 0, [.val (.ref 1088)], [], (126, 120, L, [Y, T, HA, HB, RA, RB, ST, NS, I0, I1, I2, BO, FI, RG, GU, PU, MA, MN, MS, OT, SC], [r0, r1, r2, r3, w, r5, r6, r7, r8], Lg)) ((0, none, (126, 120, L, [Y, T, HA, HB, RA, RB, ST, NS, I0, I1, I2, BO, FI, RG, GU, PU, MA, r, MS, OT, SC], [r0, r1, r2, r3, w, r5, r6, r7, r8], Lg)) : AOut))
    (zrc2 : ∀ (Y T HA HB RA RB ST NS I0 I1 I2 BO FI RG GU PU MA MN MS OT SC : Nat → Nat → Int32) (r0 r1 r2 r3 w r5 r6 r7 r8 : Nat) (L : Nat) (Lg : Int64) (r : (Nat → Nat → Int32)), rc 2 MA MN = some r → Ev (d + 5, 0, 0, 48, 0, [.val (.ref 1088), .val a_unk], [], (126, 120, L, [Y, T, HA, HB, RA, RB, ST, NS, I0, I1, I2, BO, FI, RG, GU, PU, MA, MN, MS, OT, SC], [r0, r1, r2, r3, w, r5, r6, r7, r8], Lg)) ((0, none, (126, 120, L, [Y, T, HA, HB, RA, RB, ST, NS, I0, I1, I2, BO, FI, RG, GU, PU, MA, r, MS, OT, SC], [r0, r1, r2, r3, w, r5, r6, r7, r8], Lg)) : AOut))
    (zrc3 : ∀ (Y T HA HB RA RB ST NS I0 I1 I2 BO FI RG GU PU MA MN MS OT SC : Nat → Nat → Int32) (r0 r1 r2 r3 w r5 r6 r7 r8 : Nat) (L : Nat) (Lg : Int64) (r : (Nat → Nat → Int32)), rc 3 MA MN = some r → Ev (d + 5, 0, 0, 49, 0, [.val (.ref 1088), .val a_unk], [], (126, 120, L, [Y, T, HA, HB, RA, RB, ST, NS, I0, I1, I2, BO, FI, RG, GU, PU, MA, MN, MS, OT, SC], [r0, r1, r2, r3, w, r5, r6, r7, r8], Lg)) ((0, none, (126, 120, L, [Y, T, HA, HB, RA, RB, ST, NS, I0, I1, I2, BO, FI, RG, GU, PU, MA, r, MS, OT, SC], [r0, r1, r2, r3, w, r5, r6, r7, r8], Lg)) : AOut))
    (zrc4 : ∀ (Y T HA HB RA RB ST NS I0 I1 I2 BO FI RG GU PU MA MN MS OT SC : Nat → Nat → Int32) (r0 r1 r2 r3 w r5 r6 r7 r8 : Nat) (L : Nat) (Lg : Int64) (r : (Nat → Nat → Int32)), rc 4 MA MN = some r → Ev (d + 5, 0, 0, 50, 0, [.val (.ref 1088)], [], (126, 120, L, [Y, T, HA, HB, RA, RB, ST, NS, I0, I1, I2, BO, FI, RG, GU, PU, MA, MN, MS, OT, SC], [r0, r1, r2, r3, w, r5, r6, r7, r8], Lg)) ((0, none, (126, 120, L, [Y, T, HA, HB, RA, RB, ST, NS, I0, I1, I2, BO, FI, RG, GU, PU, MA, r, MS, OT, SC], [r0, r1, r2, r3, w, r5, r6, r7, r8], Lg)) : AOut))
    (zrc5 : ∀ (Y T HA HB RA RB ST NS I0 I1 I2 BO FI RG GU PU MA MN MS OT SC : Nat → Nat → Int32) (r0 r1 r2 r3 w r5 r6 r7 r8 : Nat) (L : Nat) (Lg : Int64) (r : (Nat → Nat → Int32)), rc 5 MA MN = some r → Ev (d + 5, 0, 0, 53, 0, [.val (.ref 1088), .val a_unk], [], (126, 120, L, [Y, T, HA, HB, RA, RB, ST, NS, I0, I1, I2, BO, FI, RG, GU, PU, MA, MN, MS, OT, SC], [r0, r1, r2, r3, w, r5, r6, r7, r8], Lg)) ((0, none, (126, 120, L, [Y, T, HA, HB, RA, RB, ST, NS, I0, I1, I2, BO, FI, RG, GU, PU, MA, r, MS, OT, SC], [r0, r1, r2, r3, w, r5, r6, r7, r8], Lg)) : AOut))
    (Y T HA HB RA RB ST NS I0 I1 I2 BO FI RG GU PU MA MN MS OT SC : Nat → Nat → Int32) (r0 r1 r2 r3 w r5 r6 r7 r8 : Nat) (L : Nat) (Lg : Int64) {r : (Nat → Nat → Int32)} (h : f_M_readSum_B rc MA MN = some r) : Ev (d + 6, 0, 0, 49, 0, [.val (.ref 1088), .val a_unk], [], (126, 120, L, [Y, T, HA, HB, RA, RB, ST, NS, I0, I1, I2, BO, FI, RG, GU, PU, MA, MN, MS, OT, SC], [r0, r1, r2, r3, w, r5, r6, r7, r8], Lg)) ((0, none, (126, 120, L, [Y, T, HA, HB, RA, RB, ST, NS, I0, I1, I2, BO, FI, RG, GU, PU, MA, r, MS, OT, SC], [r0, r1, r2, r3, w, r5, r6, r7, r8], Lg)) : AOut) := by
  suffices key : ∀ o : AOut, ((0, none, (126, 120, L, [Y, T, HA, HB, RA, RB, ST, NS, I0, I1, I2, BO, FI, RG, GU, PU, MA, r, MS, OT, SC], [r0, r1, r2, r3, w, r5, r6, r7, r8], Lg)) : AOut) = o → Ev (d + 6, 0, 0, 49, 0, [.val (.ref 1088), .val a_unk], [], (126, 120, L, [Y, T, HA, HB, RA, RB, ST, NS, I0, I1, I2, BO, FI, RG, GU, PU, MA, MN, MS, OT, SC], [r0, r1, r2, r3, w, r5, r6, r7, r8], Lg)) o from key _ rfl
  intro o ho
  obtain ⟨MN_1, zh1, h⟩ := bnd h
  have zh1 : rc 4 MA MN = some MN_1 := zh1
  have ze2 := zrc4 Y T HA HB RA RB ST NS I0 I1 I2 BO FI RG GU PU MA MN MS OT SC r0 r1 r2 r3 w r5 r6 r7 r8 L Lg _ zh1
  suffices e : Ev (d + 6, 0, 0, 49, 4, [.val (.ref 1088), .val a_unk], [], (126, 120, L, [Y, T, HA, HB, RA, RB, ST, NS, I0, I1, I2, BO, FI, RG, GU, PU, MA, MN_1, MS, OT, SC], [r0, r1, r2, r3, w, r5, r6, r7, r8], Lg)) o from ev_call (fun v μ => (d + 6, 0, 0, 49, 4, [.val (.ref 1088), .val a_unk], v.toList ++ [], μ)) 2 ze2 e (fun n => Eq.refl _)
  obtain ⟨MN_16, zh4, h⟩ := bnd h
  suffices e : Ev (d + 6, 0, 0, 49, 4, [.val (.ref 1088), .val a_unk], [], (126, 120, L, [Y, T, HA, HB, RA, RB, ST, NS, I0, I1, I2, BO, FI, RG, GU, PU, MA, MN_1, MS, OT, SC], [r0, r1, r2, r3, w, r5, r6, r7, r8], Lg)) o from ev_b 0 e (fun n => Eq.refl _)
  refine ev_loop (δ := Value) (fun a j => (d + 6, 0, 0, 49, 4, [.val (.ref 1088), .val j], [], (126, 120, L, [Y, T, HA, HB, RA, RB, ST, NS, I0, I1, I2, BO, FI, RG, GU, PU, MA, a, MS, OT, SC], [r0, r1, r2, r3, w, r5, r6, r7, r8], Lg))) (fun b => ∀ s15 : Value, Ev (d + 6, 0, 0, 49, 67, [.val (.ref 1088), .val s15], [], (126, 120, L, [Y, T, HA, HB, RA, RB, ST, NS, I0, I1, I2, BO, FI, RG, GU, PU, MA, b, MS, OT, SC], [r0, r1, r2, r3, w, r5, r6, r7, r8], Lg)) o) ?_ a_F MN_1 MN_16 zh4 ?_ a_unk
  · rintro MN_3 zr8 zh7 zi5 zx6 s2
    have zh7 : f_M_readSum_B_l4 MA rc MN_3 = some zr8 := zh7
    obtain ⟨x4, zh9, zh7⟩ := bnd zh7
    have zh9 : f_M_fine MN_3 = some x4 := zh9
    have ze10 := R_f_M_fine_0 (d + 5) Y T HA HB RA RB ST NS I0 I1 I2 BO FI RG GU PU MA MN_3 MS OT SC r0 r1 r2 r3 w r5 r6 r7 r8 L Lg zh9
    suffices e : Ev (d + 6, 0, 0, 49, 8, [.val (.ref 1088), .val s2], [.int x4], (126, 120, L, [Y, T, HA, HB, RA, RB, ST, NS, I0, I1, I2, BO, FI, RG, GU, PU, MA, MN_3, MS, OT, SC], [r0, r1, r2, r3, w, r5, r6, r7, r8], Lg)) o from ev_call (fun v μ => (d + 6, 0, 0, 49, 8, [.val (.ref 1088), .val s2], v.toList ++ [], μ)) 2 ze10 e (fun n => Eq.refl _)
    by_cases zc11 : x4 = 0
    · have zh7 := itp zh7 zc11
      suffices e : Ev (d + 6, 0, 0, 49, 67, [.val (.ref 1088), .val s2], [], (126, 120, L, [Y, T, HA, HB, RA, RB, ST, NS, I0, I1, I2, BO, FI, RG, GU, PU, MA, MN_3, MS, OT, SC], [r0, r1, r2, r3, w, r5, r6, r7, r8], Lg)) o from ev_t (c := x4 = 0) _ _ 1  zc11 e (fun n => Eq.refl _)
      exact ev_b 0 (zx6 _ (Option.some.inj zh7).symm s2) (fun n => Eq.refl _)
    · have zh7 := itn zh7 zc11
      suffices e : Ev (d + 6, 0, 0, 49, 11, [.val (.ref 1088), .val s2], [], (126, 120, L, [Y, T, HA, HB, RA, RB, ST, NS, I0, I1, I2, BO, FI, RG, GU, PU, MA, MN_3, MS, OT, SC], [r0, r1, r2, r3, w, r5, r6, r7, r8], Lg)) o from ev_f (c := x4 = 0) _ _ 1  zc11 e (fun n => Eq.refl _)
      obtain ⟨⟨x5, MN_6⟩, zh12, zh7⟩ := bnd zh7
      have zh12 : f_M_here MA MN_3 = some (x5, MN_6) := zh12
      have ze13 := R_f_M_here_0 (d + 5) Y T HA HB RA RB ST NS I0 I1 I2 BO FI RG GU PU MA MN_3 MS OT SC r0 r1 r2 r3 w r5 r6 r7 r8 L Lg zh12
      suffices e : Ev (d + 6, 0, 0, 49, 15, [.val (.ref 1088), .val s2], [.int x5], (126, 120, L, [Y, T, HA, HB, RA, RB, ST, NS, I0, I1, I2, BO, FI, RG, GU, PU, MA, MN_6, MS, OT, SC], [r0, r1, r2, r3, w, r5, r6, r7, r8], Lg)) o from ev_call (fun v μ => (d + 6, 0, 0, 49, 15, [.val (.ref 1088), .val s2], v.toList ++ [], μ)) 2 ze13 e (fun n => Eq.refl _)
      obtain ⟨zt14, zh15, zh7⟩ := bnd zh7
      have zj16 : ∀ (MN_9 : (Nat → Nat → Int32)), zt14 = .inl MN_9 → Ev (d + 6, 0, 0, 49, 29, [.val (.ref 1088), .val s2], [], (126, 120, L, [Y, T, HA, HB, RA, RB, ST, NS, I0, I1, I2, BO, FI, RG, GU, PU, MA, MN_9, MS, OT, SC], [r0, r1, r2, r3, w, r5, r6, r7, r8], Lg)) o := by
        intro MN_9 ze17
        have zh7 := sum_l zh7 ze17
        obtain ⟨⟨x10, MN_11⟩, zh18, zh7⟩ := bnd zh7
        have zh18 : f_M_here MA MN_9 = some (x10, MN_11) := zh18
        have ze19 := R_f_M_here_0 (d + 5) Y T HA HB RA RB ST NS I0 I1 I2 BO FI RG GU PU MA MN_9 MS OT SC r0 r1 r2 r3 w r5 r6 r7 r8 L Lg zh18
        suffices e : Ev (d + 6, 0, 0, 49, 33, [.val (.ref 1088), .val s2], [.int x10], (126, 120, L, [Y, T, HA, HB, RA, RB, ST, NS, I0, I1, I2, BO, FI, RG, GU, PU, MA, MN_11, MS, OT, SC], [r0, r1, r2, r3, w, r5, r6, r7, r8], Lg)) o from ev_call (fun v μ => (d + 6, 0, 0, 49, 33, [.val (.ref 1088), .val s2], v.toList ++ [], μ)) 2 ze19 e (fun n => Eq.refl _)
        obtain ⟨zt20, zh21, zh7⟩ := bnd zh7
        have zj22 : ∀ (v12 : Int32), v12 = zt20 → Ev (d + 6, 0, 0, 49, 43, [.val (.ref 1088), .val s2], [.int v12], (126, 120, L, [Y, T, HA, HB, RA, RB, ST, NS, I0, I1, I2, BO, FI, RG, GU, PU, MA, MN_11, MS, OT, SC], [r0, r1, r2, r3, w, r5, r6, r7, r8], Lg)) o := by
          intro v12 ze23
          subst ze23
          obtain ⟨MN_13, zh24, zh7⟩ := bnd zh7
          have zh24 : rc 4 MA (u2 MN_11 0 4 ((MN_11 0 4) + 1)) = some MN_13 := zh24
          have ze25 := zrc4 Y T HA HB RA RB ST NS I0 I1 I2 BO FI RG GU PU MA (u2 MN_11 0 4 ((MN_11 0 4) + 1)) MS OT SC r0 r1 r2 r3 w r5 r6 r7 r8 L Lg _ zh24
          suffices e : Ev (d + 6, 0, 0, 49, 58, [.val (.ref 1088), .val (.int v12)], [], (126, 120, L, [Y, T, HA, HB, RA, RB, ST, NS, I0, I1, I2, BO, FI, RG, GU, PU, MA, MN_13, MS, OT, SC], [r0, r1, r2, r3, w, r5, r6, r7, r8], Lg)) o from ev_call (fun v μ => (d + 6, 0, 0, 49, 58, [.val (.ref 1088), .val (.int v12)], v.toList ++ [], μ)) 9 ze25 e (fun n => Eq.refl _)
          obtain ⟨MN_14, zh26, zh7⟩ := bnd zh7
          have zh26 : f_M_emit MN_13 v12 0 = some MN_14 := zh26
          have ze27 := R_f_M_emit_0 (d + 4) Y T HA HB RA RB ST NS I0 I1 I2 BO FI RG GU PU MA MN_13 MS OT SC r0 r1 r2 r3 w r5 r6 r7 r8 L Lg v12 0 zh26
          suffices e : Ev (d + 6, 0, 0, 49, 64, [.val (.ref 1088), .val (.int v12)], [], (126, 120, L, [Y, T, HA, HB, RA, RB, ST, NS, I0, I1, I2, BO, FI, RG, GU, PU, MA, MN_14, MS, OT, SC], [r0, r1, r2, r3, w, r5, r6, r7, r8], Lg)) o from ev_call (fun v μ => (d + 6, 0, 0, 49, 64, [.val (.ref 1088), .val (.int v12)], v.toList ++ [], μ)) 4 ze27 e (fun n => Eq.refl _)
          exact ev_b 1 (zi5 _ (Option.some.inj zh7).symm (.int v12)) (fun n => Eq.refl _)
        by_cases zc28 : x10 ≠ 43
        · have zh21 := itp zh21 zc28
          suffices e : Ev (d + 6, 0, 0, 49, 42, [.val (.ref 1088), .val s2], [], (126, 120, L, [Y, T, HA, HB, RA, RB, ST, NS, I0, I1, I2, BO, FI, RG, GU, PU, MA, MN_11, MS, OT, SC], [r0, r1, r2, r3, w, r5, r6, r7, r8], Lg)) o from ev_t (c := x10 ≠ 43) _ _ 2  zc28 e (fun n => Eq.refl _)
          exact ev_b 1 (zj22 3 (Option.some.inj zh21) ) (fun n => Eq.refl _)
        · have zh21 := itn zh21 zc28
          suffices e : Ev (d + 6, 0, 0, 49, 38, [.val (.ref 1088), .val s2], [], (126, 120, L, [Y, T, HA, HB, RA, RB, ST, NS, I0, I1, I2, BO, FI, RG, GU, PU, MA, MN_11, MS, OT, SC], [r0, r1, r2, r3, w, r5, r6, r7, r8], Lg)) o from ev_f (c := x10 ≠ 43) _ _ 2  zc28 e (fun n => Eq.refl _)
          exact ev_b 2 (zj22 2 (Option.some.inj zh21) ) (fun n => Eq.refl _)
      by_cases zc29 : x5 = 43
      · have zh15 := itp zh15 zc29
        suffices e : Ev (d + 6, 0, 0, 49, 29, [.val (.ref 1088), .val s2], [], (126, 120, L, [Y, T, HA, HB, RA, RB, ST, NS, I0, I1, I2, BO, FI, RG, GU, PU, MA, MN_6, MS, OT, SC], [r0, r1, r2, r3, w, r5, r6, r7, r8], Lg)) o from ev_t (c := x5 = 43) _ _ 2  zc29 e (fun n => Eq.refl _)
        exact ev_b 0 (zj16 MN_6 (Option.some.inj zh15).symm ) (fun n => Eq.refl _)
      · have zh15 := itn zh15 zc29
        suffices e : Ev (d + 6, 0, 0, 49, 20, [.val (.ref 1088), .val s2], [], (126, 120, L, [Y, T, HA, HB, RA, RB, ST, NS, I0, I1, I2, BO, FI, RG, GU, PU, MA, MN_6, MS, OT, SC], [r0, r1, r2, r3, w, r5, r6, r7, r8], Lg)) o from ev_f (c := x5 = 43) _ _ 2  zc29 e (fun n => Eq.refl _)
        obtain ⟨⟨x7, MN_8⟩, zh30, zh15⟩ := bnd zh15
        have zh30 : f_M_here MA MN_6 = some (x7, MN_8) := zh30
        have ze31 := R_f_M_here_0 (d + 5) Y T HA HB RA RB ST NS I0 I1 I2 BO FI RG GU PU MA MN_6 MS OT SC r0 r1 r2 r3 w r5 r6 r7 r8 L Lg zh30
        suffices e : Ev (d + 6, 0, 0, 49, 24, [.val (.ref 1088), .val s2], [.int x7], (126, 120, L, [Y, T, HA, HB, RA, RB, ST, NS, I0, I1, I2, BO, FI, RG, GU, PU, MA, MN_8, MS, OT, SC], [r0, r1, r2, r3, w, r5, r6, r7, r8], Lg)) o from ev_call (fun v μ => (d + 6, 0, 0, 49, 24, [.val (.ref 1088), .val s2], v.toList ++ [], μ)) 2 ze31 e (fun n => Eq.refl _)
        by_cases zc32 : x7 ≠ 45
        · have zh15 := itp zh15 zc32
          suffices e : Ev (d + 6, 0, 0, 49, 67, [.val (.ref 1088), .val s2], [], (126, 120, L, [Y, T, HA, HB, RA, RB, ST, NS, I0, I1, I2, BO, FI, RG, GU, PU, MA, MN_8, MS, OT, SC], [r0, r1, r2, r3, w, r5, r6, r7, r8], Lg)) o from ev_t (c := x7 ≠ 45) _ _ 2  zc32 e (fun n => Eq.refl _)
          have zh33 := sum_r zh7 (Option.some.inj zh15).symm
          exact ev_b 0 (zx6 _ (Option.some.inj zh33).symm s2) (fun n => Eq.refl _)
        · have zh15 := itn zh15 zc32
          suffices e : Ev (d + 6, 0, 0, 49, 29, [.val (.ref 1088), .val s2], [], (126, 120, L, [Y, T, HA, HB, RA, RB, ST, NS, I0, I1, I2, BO, FI, RG, GU, PU, MA, MN_8, MS, OT, SC], [r0, r1, r2, r3, w, r5, r6, r7, r8], Lg)) o from ev_f (c := x7 ≠ 45) _ _ 2  zc32 e (fun n => Eq.refl _)
          exact ev_b 0 (zj16 MN_8 (Option.some.inj zh15).symm ) (fun n => Eq.refl _)
  · skip
    intro s15
    have ze34 := Option.some.inj h
    subst ze34
    exact ev_rete 1 ho (fun n => Eq.refl _)
set_option maxRecDepth 1000000 in
set_option maxHeartbeats 4000000 in
theorem R_f_M_readProduct_B_0 (d : Nat) (rc : (Nat → (Nat → Nat → Int32) → (Nat → Nat → Int32) → Option ((Nat → Nat → Int32))))
    (zrc0 : ∀ (Y T HA HB RA RB ST NS I0 I1 I2 BO FI RG GU PU MA MN MS OT SC : Nat → Nat → Int32) (r0 r1 r2 r3 w r5 r6 r7 r8 : Nat) (L : Nat) (Lg : Int64) (r : (Nat → Nat → Int32)), rc 0 MA MN = some r → Ev (d + 5, 0, 0, 46, 0, [.val (.ref 1088)], [], (126, 120, L, [Y, T, HA, HB, RA, RB, ST, NS, I0, I1, I2, BO, FI, RG, GU, PU, MA, MN, MS, OT, SC], [r0, r1, r2, r3, w, r5, r6, r7, r8], Lg)) ((0, none, (126, 120, L, [Y, T, HA, HB, RA, RB, ST, NS, I0, I1, I2, BO, FI, RG, GU, PU, MA, r, MS, OT, SC], [r0, r1, r2, r3, w, r5, r6, r7, r8], Lg)) : AOut))
    (zrc1 : ∀ (Y T HA HB RA RB ST NS I0 I1 I2 BO FI RG GU PU MA MN MS OT SC : Nat → Nat → Int32) (r0 r1 r2 r3 w r5 r6 r7 r8 : Nat) (L : Nat) (Lg : Int64) (r : (Nat → Nat → Int32)), rc 1 MA MN = some r → Ev (d + 5, 0, 0, 47, 0, [.val (.ref 1088)], [], (126, 120, L, [Y, T, HA, HB, RA, RB, ST, NS, I0, I1, I2, BO, FI, RG, GU, PU, MA, MN, MS, OT, SC], [r0, r1, r2, r3, w, r5, r6, r7, r8], Lg)) ((0, none, (126, 120, L, [Y, T, HA, HB, RA, RB, ST, NS, I0, I1, I2, BO, FI, RG, GU, PU, MA, r, MS, OT, SC], [r0, r1, r2, r3, w, r5, r6, r7, r8], Lg)) : AOut))
    (zrc2 : ∀ (Y T HA HB RA RB ST NS I0 I1 I2 BO FI RG GU PU MA MN MS OT SC : Nat → Nat → Int32) (r0 r1 r2 r3 w r5 r6 r7 r8 : Nat) (L : Nat) (Lg : Int64) (r : (Nat → Nat → Int32)), rc 2 MA MN = some r → Ev (d + 5, 0, 0, 48, 0, [.val (.ref 1088), .val a_unk], [], (126, 120, L, [Y, T, HA, HB, RA, RB, ST, NS, I0, I1, I2, BO, FI, RG, GU, PU, MA, MN, MS, OT, SC], [r0, r1, r2, r3, w, r5, r6, r7, r8], Lg)) ((0, none, (126, 120, L, [Y, T, HA, HB, RA, RB, ST, NS, I0, I1, I2, BO, FI, RG, GU, PU, MA, r, MS, OT, SC], [r0, r1, r2, r3, w, r5, r6, r7, r8], Lg)) : AOut))
    (zrc3 : ∀ (Y T HA HB RA RB ST NS I0 I1 I2 BO FI RG GU PU MA MN MS OT SC : Nat → Nat → Int32) (r0 r1 r2 r3 w r5 r6 r7 r8 : Nat) (L : Nat) (Lg : Int64) (r : (Nat → Nat → Int32)), rc 3 MA MN = some r → Ev (d + 5, 0, 0, 49, 0, [.val (.ref 1088), .val a_unk], [], (126, 120, L, [Y, T, HA, HB, RA, RB, ST, NS, I0, I1, I2, BO, FI, RG, GU, PU, MA, MN, MS, OT, SC], [r0, r1, r2, r3, w, r5, r6, r7, r8], Lg)) ((0, none, (126, 120, L, [Y, T, HA, HB, RA, RB, ST, NS, I0, I1, I2, BO, FI, RG, GU, PU, MA, r, MS, OT, SC], [r0, r1, r2, r3, w, r5, r6, r7, r8], Lg)) : AOut))
    (zrc4 : ∀ (Y T HA HB RA RB ST NS I0 I1 I2 BO FI RG GU PU MA MN MS OT SC : Nat → Nat → Int32) (r0 r1 r2 r3 w r5 r6 r7 r8 : Nat) (L : Nat) (Lg : Int64) (r : (Nat → Nat → Int32)), rc 4 MA MN = some r → Ev (d + 5, 0, 0, 50, 0, [.val (.ref 1088)], [], (126, 120, L, [Y, T, HA, HB, RA, RB, ST, NS, I0, I1, I2, BO, FI, RG, GU, PU, MA, MN, MS, OT, SC], [r0, r1, r2, r3, w, r5, r6, r7, r8], Lg)) ((0, none, (126, 120, L, [Y, T, HA, HB, RA, RB, ST, NS, I0, I1, I2, BO, FI, RG, GU, PU, MA, r, MS, OT, SC], [r0, r1, r2, r3, w, r5, r6, r7, r8], Lg)) : AOut))
    (zrc5 : ∀ (Y T HA HB RA RB ST NS I0 I1 I2 BO FI RG GU PU MA MN MS OT SC : Nat → Nat → Int32) (r0 r1 r2 r3 w r5 r6 r7 r8 : Nat) (L : Nat) (Lg : Int64) (r : (Nat → Nat → Int32)), rc 5 MA MN = some r → Ev (d + 5, 0, 0, 53, 0, [.val (.ref 1088), .val a_unk], [], (126, 120, L, [Y, T, HA, HB, RA, RB, ST, NS, I0, I1, I2, BO, FI, RG, GU, PU, MA, MN, MS, OT, SC], [r0, r1, r2, r3, w, r5, r6, r7, r8], Lg)) ((0, none, (126, 120, L, [Y, T, HA, HB, RA, RB, ST, NS, I0, I1, I2, BO, FI, RG, GU, PU, MA, r, MS, OT, SC], [r0, r1, r2, r3, w, r5, r6, r7, r8], Lg)) : AOut))
    (Y T HA HB RA RB ST NS I0 I1 I2 BO FI RG GU PU MA MN MS OT SC : Nat → Nat → Int32) (r0 r1 r2 r3 w r5 r6 r7 r8 : Nat) (L : Nat) (Lg : Int64) {r : (Nat → Nat → Int32)} (h : f_M_readProduct_B rc MA MN = some r) : Ev (d + 6, 0, 0, 50, 0, [.val (.ref 1088)], [], (126, 120, L, [Y, T, HA, HB, RA, RB, ST, NS, I0, I1, I2, BO, FI, RG, GU, PU, MA, MN, MS, OT, SC], [r0, r1, r2, r3, w, r5, r6, r7, r8], Lg)) ((0, none, (126, 120, L, [Y, T, HA, HB, RA, RB, ST, NS, I0, I1, I2, BO, FI, RG, GU, PU, MA, r, MS, OT, SC], [r0, r1, r2, r3, w, r5, r6, r7, r8], Lg)) : AOut) := by
  suffices key : ∀ o : AOut, ((0, none, (126, 120, L, [Y, T, HA, HB, RA, RB, ST, NS, I0, I1, I2, BO, FI, RG, GU, PU, MA, r, MS, OT, SC], [r0, r1, r2, r3, w, r5, r6, r7, r8], Lg)) : AOut) = o → Ev (d + 6, 0, 0, 50, 0, [.val (.ref 1088)], [], (126, 120, L, [Y, T, HA, HB, RA, RB, ST, NS, I0, I1, I2, BO, FI, RG, GU, PU, MA, MN, MS, OT, SC], [r0, r1, r2, r3, w, r5, r6, r7, r8], Lg)) o from key _ rfl
  intro o ho
  obtain ⟨MN_1, zh1, h⟩ := bnd h
  have zh1 : rc 5 MA MN = some MN_1 := zh1
  have ze2 := zrc5 Y T HA HB RA RB ST NS I0 I1 I2 BO FI RG GU PU MA MN MS OT SC r0 r1 r2 r3 w r5 r6 r7 r8 L Lg _ zh1
  suffices e : Ev (d + 6, 0, 0, 50, 4, [.val (.ref 1088)], [], (126, 120, L, [Y, T, HA, HB, RA, RB, ST, NS, I0, I1, I2, BO, FI, RG, GU, PU, MA, MN_1, MS, OT, SC], [r0, r1, r2, r3, w, r5, r6, r7, r8], Lg)) o from ev_call (fun v μ => (d + 6, 0, 0, 50, 4, [.val (.ref 1088)], v.toList ++ [], μ)) 2 ze2 e (fun n => Eq.refl _)
  obtain ⟨MN_8, zh4, h⟩ := bnd h
  suffices e : Ev (d + 6, 0, 0, 50, 4, [.val (.ref 1088)], [], (126, 120, L, [Y, T, HA, HB, RA, RB, ST, NS, I0, I1, I2, BO, FI, RG, GU, PU, MA, MN_1, MS, OT, SC], [r0, r1, r2, r3, w, r5, r6, r7, r8], Lg)) o from ev_b 0 e (fun n => Eq.refl _)
  refine ev_loop (δ := Unit) (fun a j => (d + 6, 0, 0, 50, 4, [.val (.ref 1088)], [], (126, 120, L, [Y, T, HA, HB, RA, RB, ST, NS, I0, I1, I2, BO, FI, RG, GU, PU, MA, a, MS, OT, SC], [r0, r1, r2, r3, w, r5, r6, r7, r8], Lg))) (fun b => Ev (d + 6, 0, 0, 50, 43, [.val (.ref 1088)], [], (126, 120, L, [Y, T, HA, HB, RA, RB, ST, NS, I0, I1, I2, BO, FI, RG, GU, PU, MA, b, MS, OT, SC], [r0, r1, r2, r3, w, r5, r6, r7, r8], Lg)) o) ?_ a_F MN_1 MN_8 zh4 ?_ ()
  · rintro MN_2 zr8 zh7 zi5 zx6 ⟨⟩
    have zh7 : f_M_readProduct_B_l4 MA rc MN_2 = some zr8 := zh7
    obtain ⟨x3, zh9, zh7⟩ := bnd zh7
    have zh9 : f_M_fine MN_2 = some x3 := zh9
    have ze10 := R_f_M_fine_0 (d + 5) Y T HA HB RA RB ST NS I0 I1 I2 BO FI RG GU PU MA MN_2 MS OT SC r0 r1 r2 r3 w r5 r6 r7 r8 L Lg zh9
    suffices e : Ev (d + 6, 0, 0, 50, 8, [.val (.ref 1088)], [.int x3], (126, 120, L, [Y, T, HA, HB, RA, RB, ST, NS, I0, I1, I2, BO, FI, RG, GU, PU, MA, MN_2, MS, OT, SC], [r0, r1, r2, r3, w, r5, r6, r7, r8], Lg)) o from ev_call (fun v μ => (d + 6, 0, 0, 50, 8, [.val (.ref 1088)], v.toList ++ [], μ)) 2 ze10 e (fun n => Eq.refl _)
    by_cases zc11 : x3 = 0
    · have zh7 := itp zh7 zc11
      suffices e : Ev (d + 6, 0, 0, 50, 43, [.val (.ref 1088)], [], (126, 120, L, [Y, T, HA, HB, RA, RB, ST, NS, I0, I1, I2, BO, FI, RG, GU, PU, MA, MN_2, MS, OT, SC], [r0, r1, r2, r3, w, r5, r6, r7, r8], Lg)) o from ev_t (c := x3 = 0) _ _ 1  zc11 e (fun n => Eq.refl _)
      exact ev_b 0 (zx6 _ (Option.some.inj zh7).symm ) (fun n => Eq.refl _)
    · have zh7 := itn zh7 zc11
      suffices e : Ev (d + 6, 0, 0, 50, 11, [.val (.ref 1088)], [], (126, 120, L, [Y, T, HA, HB, RA, RB, ST, NS, I0, I1, I2, BO, FI, RG, GU, PU, MA, MN_2, MS, OT, SC], [r0, r1, r2, r3, w, r5, r6, r7, r8], Lg)) o from ev_f (c := x3 = 0) _ _ 1  zc11 e (fun n => Eq.refl _)
      obtain ⟨⟨x4, MN_5⟩, zh12, zh7⟩ := bnd zh7
      have zh12 : f_M_here MA MN_2 = some (x4, MN_5) := zh12
      have ze13 := R_f_M_here_0 (d + 5) Y T HA HB RA RB ST NS I0 I1 I2 BO FI RG GU PU MA MN_2 MS OT SC r0 r1 r2 r3 w r5 r6 r7 r8 L Lg zh12
      suffices e : Ev (d + 6, 0, 0, 50, 15, [.val (.ref 1088)], [.int x4], (126, 120, L, [Y, T, HA, HB, RA, RB, ST, NS, I0, I1, I2, BO, FI, RG, GU, PU, MA, MN_5, MS, OT, SC], [r0, r1, r2, r3, w, r5, r6, r7, r8], Lg)) o from ev_call (fun v μ => (d + 6, 0, 0, 50, 15, [.val (.ref 1088)], v.toList ++ [], μ)) 2 ze13 e (fun n => Eq.refl _)
      by_cases zc14 : x4 ≠ 42
      · have zh7 := itp zh7 zc14
        suffices e : Ev (d + 6, 0, 0, 50, 43, [.val (.ref 1088)], [], (126, 120, L, [Y, T, HA, HB, RA, RB, ST, NS, I0, I1, I2, BO, FI, RG, GU, PU, MA, MN_5, MS, OT, SC], [r0, r1, r2, r3, w, r5, r6, r7, r8], Lg)) o from ev_t (c := x4 ≠ 42) _ _ 2  zc14 e (fun n => Eq.refl _)
        exact ev_b 0 (zx6 _ (Option.some.inj zh7).symm ) (fun n => Eq.refl _)
      · have zh7 := itn zh7 zc14
        suffices e : Ev (d + 6, 0, 0, 50, 20, [.val (.ref 1088)], [], (126, 120, L, [Y, T, HA, HB, RA, RB, ST, NS, I0, I1, I2, BO, FI, RG, GU, PU, MA, MN_5, MS, OT, SC], [r0, r1, r2, r3, w, r5, r6, r7, r8], Lg)) o from ev_f (c := x4 ≠ 42) _ _ 2  zc14 e (fun n => Eq.refl _)
        obtain ⟨MN_6, zh15, zh7⟩ := bnd zh7
        have zh15 : rc 5 MA (u2 MN_5 0 4 ((MN_5 0 4) + 1)) = some MN_6 := zh15
        have ze16 := zrc5 Y T HA HB RA RB ST NS I0 I1 I2 BO FI RG GU PU MA (u2 MN_5 0 4 ((MN_5 0 4) + 1)) MS OT SC r0 r1 r2 r3 w r5 r6 r7 r8 L Lg _ zh15
        suffices e : Ev (d + 6, 0, 0, 50, 34, [.val (.ref 1088)], [], (126, 120, L, [Y, T, HA, HB, RA, RB, ST, NS, I0, I1, I2, BO, FI, RG, GU, PU, MA, MN_6, MS, OT, SC], [r0, r1, r2, r3, w, r5, r6, r7, r8], Lg)) o from ev_call (fun v μ => (d + 6, 0, 0, 50, 34, [.val (.ref 1088)], v.toList ++ [], μ)) 8 ze16 e (fun n => Eq.refl _)
        obtain ⟨MN_7, zh17, zh7⟩ := bnd zh7
        have zh17 : f_M_emit MN_6 4 0 = some MN_7 := zh17
        have ze18 := R_f_M_emit_0 (d + 4) Y T HA HB RA RB ST NS I0 I1 I2 BO FI RG GU PU MA MN_6 MS OT SC r0 r1 r2 r3 w r5 r6 r7 r8 L Lg 4 0 zh17
        suffices e : Ev (d + 6, 0, 0, 50, 40, [.val (.ref 1088)], [], (126, 120, L, [Y, T, HA, HB, RA, RB, ST, NS, I0, I1, I2, BO, FI, RG, GU, PU, MA, MN_7, MS, OT, SC], [r0, r1, r2, r3, w, r5, r6, r7, r8], Lg)) o from ev_call (fun v μ => (d + 6, 0, 0, 50, 40, [.val (.ref 1088)], v.toList ++ [], μ)) 4 ze18 e (fun n => Eq.refl _)
        exact ev_b 1 (zi5 _ (Option.some.inj zh7).symm ()) (fun n => Eq.refl _)
  · skip
    have ze19 := Option.some.inj h
    subst ze19
    exact ev_rete 1 ho (fun n => Eq.refl _)
