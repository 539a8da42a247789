/-! printed by program (gen/emitm.py): the reference's methods run as their functions say -/
set_option maxRecDepth 1000000 in
set_option maxHeartbeats 4000000 in
theorem R_f_M_hours_0 (d : Nat) (Y T HA HB RA RB ST NS I0 I1 I2 BO FI RG GU PU MA MN MS OT SC : Nat → Nat → Int32) (r0 r1 r2 r3 w r5 r6 r7 r8 : Nat) (L : Nat) (Lg : Int64) (p1 : Int32) {r : Int32 × (Nat → Nat → Int32) × (Nat → Nat → Int32)} (h : f_M_hours MA MS p1 = some r) : Ev (d + 17, 0, 0, 100, 0, [.val (.ref 1088), .val (.int p1), .val a_unk, .val a_unk], [], (126, 120, L, [Y, T, HA, HB, RA, RB, ST, NS, I0, I1, I2, BO, FI, RG, GU, PU, MA, MN, MS, OT, SC], [r0, r1, r2, r3, w, r5, r6, r7, r8], Lg)) ((0, some (.int r.1), (126, 120, L, [Y, T, HA, HB, RA, RB, ST, NS, I0, I1, I2, BO, FI, RG, GU, PU, r.2.1, MN, r.2.2, OT, SC], [r0, r1, r2, r3, w, r5, r6, r7, r8], Lg)) : AOut) := by
  suffices key : ∀ o : AOut, ((0, some (.int r.1), (126, 120, L, [Y, T, HA, HB, RA, RB, ST, NS, I0, I1, I2, BO, FI, RG, GU, PU, r.2.1, MN, r.2.2, OT, SC], [r0, r1, r2, r3, w, r5, r6, r7, r8], Lg)) : AOut) = o → Ev (d + 17, 0, 0, 100, 0, [.val (.ref 1088), .val (.int p1), .val a_unk, .val a_unk], [], (126, 120, L, [Y, T, HA, HB, RA, RB, ST, NS, I0, I1, I2, BO, FI, RG, GU, PU, MA, MN, MS, OT, SC], [r0, r1, r2, r3, w, r5, r6, r7, r8], Lg)) o from key _ rfl
  intro o ho
  obtain ⟨⟨x1, MA_2⟩, zh1, h⟩ := bnd h
  have zh1 : f_M_isMeeting (u2 MA 0 0 0) p1 1 = some (x1, MA_2) := zh1
  have ze2 := R_f_M_isMeeting_0 (d + 15) Y T HA HB RA RB ST NS I0 I1 I2 BO FI RG GU PU (u2 MA 0 0 0) MN MS OT SC r0 r1 r2 r3 w r5 r6 r7 r8 L Lg p1 1 zh1
  suffices e : Ev (d + 17, 0, 0, 100, 11, [.val (.ref 1088), .val (.int p1), .val a_unk, .val a_unk], [.int x1], (126, 120, L, [Y, T, HA, HB, RA, RB, ST, NS, I0, I1, I2, BO, FI, RG, GU, PU, MA_2, MN, MS, OT, SC], [r0, r1, r2, r3, w, r5, r6, r7, r8], Lg)) o from ev_call (fun v μ => (d + 17, 0, 0, 100, 11, [.val (.ref 1088), .val (.int p1), .val a_unk, .val a_unk], v.toList ++ [], μ)) 7 ze2 e (fun n => Eq.refl _)
  by_cases zc3 : x1 ≠ 0
  · have h := itp h zc3
    suffices e : Ev (d + 17, 0, 0, 100, 16, [.val (.ref 1088), .val (.int p1), .val a_unk, .val a_unk], [], (126, 120, L, [Y, T, HA, HB, RA, RB, ST, NS, I0, I1, I2, BO, FI, RG, GU, PU, MA_2, MN, MS, OT, SC], [r0, r1, r2, r3, w, r5, r6, r7, r8], Lg)) o from ev_t (c := x1 ≠ 0) _ _ 1  zc3 e (fun n => Eq.refl _)
    obtain ⟨zb4, zh5, h⟩ := bnd h
    suffices e : Ev (d + 17, 0, 0, 100, 20, [.val (.ref 1088), .val (.int p1), .val (.int 0), .val (.int 0)], [], (126, 120, L, [Y, T, HA, HB, RA, RB, ST, NS, I0, I1, I2, BO, FI, RG, GU, PU, MA_2, MN, MS, OT, SC], [r0, r1, r2, r3, w, r5, r6, r7, r8], Lg)) o from ev_b 4 e (fun n => Eq.refl _)
    refine ev_loop (δ := Unit) (fun a j => (d + 17, 0, 0, 100, 20, [.val (.ref 1088), .val (.int p1), .val (.int a.1), .val (.int a.2.1)], [], (126, 120, L, [Y, T, HA, HB, RA, RB, ST, NS, I0, I1, I2, BO, FI, RG, GU, PU, MA_2, MN, a.2.2, OT, SC], [r0, r1, r2, r3, w, r5, r6, r7, r8], Lg))) (fun b => ∀ s8 : Value, Ev (d + 17, 0, 0, 100, 56, [.val (.ref 1088), .val (.int p1), .val (.int b.1), .val s8], [], (126, 120, L, [Y, T, HA, HB, RA, RB, ST, NS, I0, I1, I2, BO, FI, RG, GU, PU, MA_2, MN, b.2, OT, SC], [r0, r1, r2, r3, w, r5, r6, r7, r8], Lg)) o) ?_ a_F (0, 0, MS) zb4 zh5 ?_ ()
    · rintro ⟨v3, v4, MS_5⟩ zr9 zh8 zi6 zx7 ⟨⟩
      have zh8 : f_M_hours_l20 MA_2 p1 v3 v4 MS_5 = some zr9 := zh8
      by_cases zc10 : (MA_2 0 23) ≤ v4
      · have zh8 := itp zh8 zc10
        suffices e : Ev (d + 17, 0, 0, 100, 56, [.val (.ref 1088), .val (.int p1), .val (.int v3), .val (.int v4)], [], (126, 120, L, [Y, T, HA, HB, RA, RB, ST, NS, I0, I1, I2, BO, FI, RG, GU, PU, MA_2, MN, MS_5, OT, SC], [r0, r1, r2, r3, w, r5, r6, r7, r8], Lg)) o from ev_t (c := (MA_2 0 23) ≤ v4) _ _ 4  zc10 e (fun n => Eq.refl _)
        exact ev_b 0 (zx7 _ (Option.some.inj zh8).symm (.int v4)) (fun n => Eq.refl _)
      · have zh8 := itn zh8 zc10
        suffices e : Ev (d + 17, 0, 0, 100, 28, [.val (.ref 1088), .val (.int p1), .val (.int v3), .val (.int v4)], [], (126, 120, L, [Y, T, HA, HB, RA, RB, ST, NS, I0, I1, I2, BO, FI, RG, GU, PU, MA_2, MN, MS_5, OT, SC], [r0, r1, r2, r3, w, r5, r6, r7, r8], Lg)) o from ev_f (c := (MA_2 0 23) ≤ v4) _ _ 4  zc10 e (fun n => Eq.refl _)
        obtain ⟨MS_6, zh11, zh8⟩ := bnd zh8
        have zh11 : f_M_findFit MA_2 MS_5 p1 v4 = some MS_6 := zh11
        have ze12 := R_f_M_findFit_0 (d + 0) Y T HA HB RA RB ST NS I0 I1 I2 BO FI RG GU PU MA_2 MN MS_5 OT SC r0 r1 r2 r3 w r5 r6 r7 r8 L Lg p1 v4 zh11
        suffices e : Ev (d + 17, 0, 0, 100, 34, [.val (.ref 1088), .val (.int p1), .val (.int v3), .val (.int v4)], [], (126, 120, L, [Y, T, HA, HB, RA, RB, ST, NS, I0, I1, I2, BO, FI, RG, GU, PU, MA_2, MN, MS_6, OT, SC], [r0, r1, r2, r3, w, r5, r6, r7, r8], Lg)) o from ev_call (fun v μ => (d + 17, 0, 0, 100, 34, [.val (.ref 1088), .val (.int p1), .val (.int v3), .val (.int v4)], v.toList ++ [], μ)) 4 ze12 e (fun n => Eq.refl _)
        by_cases zc13 : (MS_6 0 45) ≠ (-1)
        · have zh8 := itp zh8 zc13
          suffices e : Ev (d + 17, 0, 0, 100, 47, [.val (.ref 1088), .val (.int p1), .val (.int v3), .val (.int v4)], [.int v3], (126, 120, L, [Y, T, HA, HB, RA, RB, ST, NS, I0, I1, I2, BO, FI, RG, GU, PU, MA_2, MN, MS_6, OT, SC], [r0, r1, r2, r3, w, r5, r6, r7, r8], Lg)) o from ev_t (c := (MS_6 0 45) ≠ (-1)) _ _ 5  zc13 e (fun n => Eq.refl _)
          exact ev_b 5 (zi6 _ (Option.some.inj zh8).symm ()) (fun n => Eq.refl _)
        · have zh8 := itn zh8 zc13
          suffices e : Ev (d + 17, 0, 0, 100, 43, [.val (.ref 1088), .val (.int p1), .val (.int v3), .val (.int v4)], [.int v3], (126, 120, L, [Y, T, HA, HB, RA, RB, ST, NS, I0, I1, I2, BO, FI, RG, GU, PU, MA_2, MN, MS_6, OT, SC], [r0, r1, r2, r3, w, r5, r6, r7, r8], Lg)) o from ev_f (c := (MS_6 0 45) ≠ (-1)) _ _ 5  zc13 e (fun n => Eq.refl _)
          exact ev_b 6 (zi6 _ (Option.some.inj zh8).symm ()) (fun n => Eq.refl _)
    · obtain ⟨v7, MS_9⟩ := zb4
      intro s8
      have ze14 := Option.some.inj h
      subst ze14
      exact ev_rete 2 ho (fun n => Eq.refl _)
  · have h := itn h zc3
    suffices e : Ev (d + 17, 0, 0, 100, 14, [.val (.ref 1088), .val (.int p1), .val a_unk, .val a_unk], [], (126, 120, L, [Y, T, HA, HB, RA, RB, ST, NS, I0, I1, I2, BO, FI, RG, GU, PU, MA_2, MN, MS, OT, SC], [r0, r1, r2, r3, w, r5, r6, r7, r8], Lg)) o from ev_f (c := x1 ≠ 0) _ _ 1  zc3 e (fun n => Eq.refl _)
    have ze15 := Option.some.inj h
    subst ze15
    exact ev_rete 2 ho (fun n => Eq.refl _)
set_option maxRecDepth 1000000 in
set_option maxHeartbeats 4000000 in
theorem R_f_M_isRing_0 (d : Nat) (Y T HA HB RA RB ST NS I0 I1 I2 BO FI RG GU PU MA MN MS OT SC : Nat → Nat → Int32) (r0 r1 r2 r3 w r5 r6 r7 r8 : Nat) (L : Nat) (Lg : Int64) (p1 : Int32) {r : Int32 × (Nat → Nat → Int32)} (h : f_M_isRing MA MS p1 = some r) : Ev (d + 4, 0, 0, 101, 0, [.val (.ref 1088), .val (.int p1), .val a_unk], [], (126, 120, L, [Y, T, HA, HB, RA, RB, ST, NS, I0, I1, I2, BO, FI, RG, GU, PU, MA, MN, MS, OT, SC], [r0, r1, r2, r3, w, r5, r6, r7, r8], Lg)) ((0, some (.int r.1), (126, 120, L, [Y, T, HA, HB, RA, RB, ST, NS, I0, I1, I2, BO, FI, RG, GU, PU, MA, MN, r.2, OT, SC], [r0, r1, r2, r3, w, r5, r6, r7, r8], Lg)) : AOut) := by
  suffices key : ∀ o : AOut, ((0, some (.int r.1), (126, 120, L, [Y, T, HA, HB, RA, RB, ST, NS, I0, I1, I2, BO, FI, RG, GU, PU, MA, MN, r.2, OT, SC], [r0, r1, r2, r3, w, r5, r6, r7, r8], Lg)) : AOut) = o → Ev (d + 4, 0, 0, 101, 0, [.val (.ref 1088), .val (.int p1), .val a_unk], [], (126, 120, L, [Y, T, HA, HB, RA, RB, ST, NS, I0, I1, I2, BO, FI, RG, GU, PU, MA, MN, MS, OT, SC], [r0, r1, r2, r3, w, r5, r6, r7, r8], Lg)) o from key _ rfl
  intro o ho
  obtain ⟨x1, zh1, h⟩ := bnd h
  have ze2 := R_copies (d + 3) 1095 1220 10 [Y, T, HA, HB, RA, RB, ST, NS, I0, I1, I2, BO, FI, RG, GU, PU, MA, MN, MS, OT, SC] [r0, r1, r2, r3, w, r5, r6, r7, r8] (.ref 1088) L Lg 126 120 rfl rfl rfl rfl (Nat.le_of_ble_eq_true rfl) (Nat.le_of_ble_eq_true rfl) (Nat.le_of_ble_eq_true rfl) zh1
  suffices e : Ev (d + 4, 0, 0, 101, 14, [.val (.ref 1088), .val (.int p1), .val a_unk], [], (126, 120, L, [Y, T, HA, HB, RA, RB, ST, NS, I0, I1, I2, BO, FI, RG, GU, PU, MA, MN, (u1 MS 4 x1), OT, SC], [r0, r1, r2, r3, w, r5, r6, r7, r8], Lg)) o from ev_call (fun v μ => (d + 4, 0, 0, 101, 14, [.val (.ref 1088), .val (.int p1), .val a_unk], v.toList ++ [], μ)) 7 ze2 e (fun n => Eq.refl _)
  obtain ⟨MS_9, zh4, h⟩ := bnd h
  suffices e : Ev (d + 4, 0, 0, 101, 16, [.val (.ref 1088), .val (.int p1), .val (.int 0)], [], (126, 120, L, [Y, T, HA, HB, RA, RB, ST, NS, I0, I1, I2, BO, FI, RG, GU, PU, MA, MN, (u1 MS 4 x1), OT, SC], [r0, r1, r2, r3, w, r5, r6, r7, r8], Lg)) o from ev_b 2 e (fun n => Eq.refl _)
  refine ev_loop (δ := Unit) (fun a j => (d + 4, 0, 0, 101, 16, [.val (.ref 1088), .val (.int p1), .val (.int a.1)], [], (126, 120, L, [Y, T, HA, HB, RA, RB, ST, NS, I0, I1, I2, BO, FI, RG, GU, PU, MA, MN, a.2, OT, SC], [r0, r1, r2, r3, w, r5, r6, r7, r8], Lg))) (fun b => ∀ s8 : Value, Ev (d + 4, 0, 0, 101, 53, [.val (.ref 1088), .val (.int p1), .val s8], [], (126, 120, L, [Y, T, HA, HB, RA, RB, ST, NS, I0, I1, I2, BO, FI, RG, GU, PU, MA, MN, b, OT, SC], [r0, r1, r2, r3, w, r5, r6, r7, r8], Lg)) o) ?_ a_F (0, (u1 MS 4 x1)) MS_9 zh4 ?_ ()
  · rintro ⟨v2, MS_3⟩ zr8 zh7 zi5 zx6 ⟨⟩
    have zh7 : f_M_isRing_l16 MA p1 v2 MS_3 = some zr8 := zh7
    by_cases zc9 : p1 ≤ v2
    · have zh7 := itp zh7 zc9
      suffices e : Ev (d + 4, 0, 0, 101, 53, [.val (.ref 1088), .val (.int p1), .val (.int v2)], [], (126, 120, L, [Y, T, HA, HB, RA, RB, ST, NS, I0, I1, I2, BO, FI, RG, GU, PU, MA, MN, MS_3, OT, SC], [r0, r1, r2, r3, w, r5, r6, r7, r8], Lg)) o from ev_t (c := p1 ≤ v2) _ _ 3  zc9 e (fun n => Eq.refl _)
      exact ev_b 0 (zx6 _ (Option.some.inj zh7).symm (.int v2)) (fun n => Eq.refl _)
    · have zh7 := itn zh7 zc9
      suffices e : Ev (d + 4, 0, 0, 101, 21, [.val (.ref 1088), .val (.int p1), .val (.int v2)], [], (126, 120, L, [Y, T, HA, HB, RA, RB, ST, NS, I0, I1, I2, BO, FI, RG, GU, PU, MA, MN, MS_3, OT, SC], [r0, r1, r2, r3, w, r5, r6, r7, r8], Lg)) o from ev_f (c := p1 ≤ v2) _ _ 3  zc9 e (fun n => Eq.refl _)
      obtain ⟨x4, zh10, zh7⟩ := bnd zh7
      have zh10 : rdx (MS_3 5) 4 v2 = some x4 := zh10
      suffices e : Ev (d + 4, 0, 0, 101, 31, [.val (.ref 1088), .val (.int p1), .val (.int v2)], [.int x4, .ref 1220], (126, 120, L, [Y, T, HA, HB, RA, RB, ST, NS, I0, I1, I2, BO, FI, RG, GU, PU, MA, MN, MS_3, OT, SC], [r0, r1, r2, r3, w, r5, r6, r7, r8], Lg)) o from ev_opt (fun x4 => (d + 4, 0, 0, 101, 31, [.val (.ref 1088), .val (.int p1), .val (.int v2)], [.int x4, .ref 1220], (126, 120, L, [Y, T, HA, HB, RA, RB, ST, NS, I0, I1, I2, BO, FI, RG, GU, PU, MA, MN, MS_3, OT, SC], [r0, r1, r2, r3, w, r5, r6, r7, r8], Lg))) 6 zh10 e (fun n => Eq.refl _)
      by_cases zc11 : p1 = 0
      · exact nos (itp zh7 zc11)
      have zh7 := itn zh7 zc11
      suffices e : Ev (d + 4, 0, 0, 101, 44, [.val (.ref 1088), .val (.int p1), .val (.int v2)], [.int (a_rem (v2 + 1) p1), .ref 1221, .ref 1095, .int x4, .ref 1220], (126, 120, L, [Y, T, HA, HB, RA, RB, ST, NS, I0, I1, I2, BO, FI, RG, GU, PU, MA, MN, MS_3, OT, SC], [r0, r1, r2, r3, w, r5, r6, r7, r8], Lg)) o from ev_d (c := p1 = 0) _ 9 zc11 e (fun n => Eq.refl _)
      obtain ⟨x5, zh12, zh7⟩ := bnd zh7
      have zh12 : rdx (MS_3 5) 4 (a_rem (v2 + 1) p1) = some x5 := zh12
      suffices e : Ev (d + 4, 0, 0, 101, 45, [.val (.ref 1088), .val (.int p1), .val (.int v2)], [.int x5, .ref 1095, .int x4, .ref 1220], (126, 120, L, [Y, T, HA, HB, RA, RB, ST, NS, I0, I1, I2, BO, FI, RG, GU, PU, MA, MN, MS_3, OT, SC], [r0, r1, r2, r3, w, r5, r6, r7, r8], Lg)) o from ev_opt (fun x5 => (d + 4, 0, 0, 101, 45, [.val (.ref 1088), .val (.int p1), .val (.int v2)], [.int x5, .ref 1095, .int x4, .ref 1220], (126, 120, L, [Y, T, HA, HB, RA, RB, ST, NS, I0, I1, I2, BO, FI, RG, GU, PU, MA, MN, MS_3, OT, SC], [r0, r1, r2, r3, w, r5, r6, r7, r8], Lg))) 1 zh12 e (fun n => Eq.refl _)
      obtain ⟨x6, zh13, zh7⟩ := bnd zh7
      have zh13 : rdx (MA 7) 10 x5 = some x6 := zh13
      suffices e : Ev (d + 4, 0, 0, 101, 46, [.val (.ref 1088), .val (.int p1), .val (.int v2)], [.int x6, .int x4, .ref 1220], (126, 120, L, [Y, T, HA, HB, RA, RB, ST, NS, I0, I1, I2, BO, FI, RG, GU, PU, MA, MN, MS_3, OT, SC], [r0, r1, r2, r3, w, r5, r6, r7, r8], Lg)) o from ev_opt (fun x6 => (d + 4, 0, 0, 101, 46, [.val (.ref 1088), .val (.int p1), .val (.int v2)], [.int x6, .int x4, .ref 1220], (126, 120, L, [Y, T, HA, HB, RA, RB, ST, NS, I0, I1, I2, BO, FI, RG, GU, PU, MA, MN, MS_3, OT, SC], [r0, r1, r2, r3, w, r5, r6, r7, r8], Lg))) 1 zh13 e (fun n => Eq.refl _)
      obtain ⟨j7, zh14, zh7⟩ := bnd zh7
      have zh14 : ixx 10 x4 = some j7 := zh14
      suffices e : Ev (d + 4, 0, 0, 101, 47, [.val (.ref 1088), .val (.int p1), .val (.int v2)], [], (126, 120, L, [Y, T, HA, HB, RA, RB, ST, NS, I0, I1, I2, BO, FI, RG, GU, PU, MA, MN, (u2 MS_3 4 j7 x6), OT, SC], [r0, r1, r2, r3, w, r5, r6, r7, r8], Lg)) o from ev_opt (fun j7 => (d + 4, 0, 0, 101, 47, [.val (.ref 1088), .val (.int p1), .val (.int v2)], [], (126, 120, L, [Y, T, HA, HB, RA, RB, ST, NS, I0, I1, I2, BO, FI, RG, GU, PU, MA, MN, (u2 MS_3 4 j7 x6), OT, SC], [r0, r1, r2, r3, w, r5, r6, r7, r8], Lg))) 1 zh14 e (fun n => Eq.refl _)
      exact ev_b 2 (zi5 _ (Option.some.inj zh7).symm ()) (fun n => Eq.refl _)
  · skip
    intro s8
    obtain ⟨x10, zh15, h⟩ := bnd h
    have zh15 : f_M_isLawful MA (MS_9 4) = some x10 := zh15
    have ze16 := R_f_M_isLawful_0 (d + 0) Y T HA HB RA RB ST NS I0 I1 I2 BO FI RG GU PU MA MN MS_9 OT SC r0 r1 r2 r3 w r5 r6 r7 r8 L Lg zh15
    suffices e : Ev (d + 4, 0, 0, 101, 61, [.val (.ref 1088), .val (.int p1), .val s8], [.int x10], (126, 120, L, [Y, T, HA, HB, RA, RB, ST, NS, I0, I1, I2, BO, FI, RG, GU, PU, MA, MN, MS_9, OT, SC], [r0, r1, r2, r3, w, r5, r6, r7, r8], Lg)) o from ev_call (fun v μ => (d + 4, 0, 0, 101, 61, [.val (.ref 1088), .val (.int p1), .val s8], v.toList ++ [], μ)) 4 ze16 e (fun n => Eq.refl _)
    have ze17 := Option.some.inj h
    subst ze17
    exact ev_rete 1 ho (fun n => Eq.refl _)
set_option maxRecDepth 1000000 in
set_option maxHeartbeats 4000000 in
theorem R_f_M_canRing_0 (d : Nat) (Y T HA HB RA RB ST NS I0 I1 I2 BO FI RG GU PU MA MN MS OT SC : Nat → Nat → Int32) (r0 r1 r2 r3 w r5 r6 r7 r8 : Nat) (L : Nat) (Lg : Int64) (p1 : Int32) {r : Int32} (h : f_M_canRing MA p1 = some r) : Ev (d + 1, 0, 0, 102, 0, [.val (.ref 1088), .val (.int p1)], [], (126, 120, L, [Y, T, HA, HB, RA, RB, ST, NS, I0, I1, I2, BO, FI, RG, GU, PU, MA, MN, MS, OT, SC], [r0, r1, r2, r3, w, r5, r6, r7, r8], Lg)) ((0, some (.int r), (126, 120, L, [Y, T, HA, HB, RA, RB, ST, NS, I0, I1, I2, BO, FI, RG, GU, PU, MA, MN, MS, OT, SC], [r0, r1, r2, r3, w, r5, r6, r7, r8], Lg)) : AOut) := by
  suffices key : ∀ o : AOut, ((0, some (.int r), (126, 120, L, [Y, T, HA, HB, RA, RB, ST, NS, I0, I1, I2, BO, FI, RG, GU, PU, MA, MN, MS, OT, SC], [r0, r1, r2, r3, w, r5, r6, r7, r8], Lg)) : AOut) = o → Ev (d + 1, 0, 0, 102, 0, [.val (.ref 1088), .val (.int p1)], [], (126, 120, L, [Y, T, HA, HB, RA, RB, ST, NS, I0, I1, I2, BO, FI, RG, GU, PU, MA, MN, MS, OT, SC], [r0, r1, r2, r3, w, r5, r6, r7, r8], Lg)) o from key _ rfl
  intro o ho
  obtain ⟨x1, zh1, h⟩ := bnd h
  have zh1 : rdx (MA 7) 10 p1 = some x1 := zh1
  suffices e : Ev (d + 1, 0, 0, 102, 6, [.val (.ref 1088), .val (.int p1)], [.int x1], (126, 120, L, [Y, T, HA, HB, RA, RB, ST, NS, I0, I1, I2, BO, FI, RG, GU, PU, MA, MN, MS, OT, SC], [r0, r1, r2, r3, w, r5, r6, r7, r8], Lg)) o from ev_opt (fun x1 => (d + 1, 0, 0, 102, 6, [.val (.ref 1088), .val (.int p1)], [.int x1], (126, 120, L, [Y, T, HA, HB, RA, RB, ST, NS, I0, I1, I2, BO, FI, RG, GU, PU, MA, MN, MS, OT, SC], [r0, r1, r2, r3, w, r5, r6, r7, r8], Lg))) 4 zh1 e (fun n => Eq.refl _)
  by_cases zc2 : x1 = (-1)
  · have h := itp h zc2
    suffices e : Ev (d + 1, 0, 0, 102, 22, [.val (.ref 1088), .val (.int p1)], [], (126, 120, L, [Y, T, HA, HB, RA, RB, ST, NS, I0, I1, I2, BO, FI, RG, GU, PU, MA, MN, MS, OT, SC], [r0, r1, r2, r3, w, r5, r6, r7, r8], Lg)) o from ev_t (c := x1 = (-1)) _ _ 2  zc2 e (fun n => Eq.refl _)
    have ze3 := Option.some.inj h
    subst ze3
    exact ev_rete 2 ho (fun n => Eq.refl _)
  · have h := itn h zc2
    suffices e : Ev (d + 1, 0, 0, 102, 10, [.val (.ref 1088), .val (.int p1)], [], (126, 120, L, [Y, T, HA, HB, RA, RB, ST, NS, I0, I1, I2, BO, FI, RG, GU, PU, MA, MN, MS, OT, SC], [r0, r1, r2, r3, w, r5, r6, r7, r8], Lg)) o from ev_f (c := x1 = (-1)) _ _ 2  zc2 e (fun n => Eq.refl _)
    obtain ⟨x2, zh4, h⟩ := bnd h
    have zh4 : f_M_isFixed MA p1 = some x2 := zh4
    have ze5 := R_f_M_isFixed_0 (d + 0) Y T HA HB RA RB ST NS I0 I1 I2 BO FI RG GU PU MA MN MS OT SC r0 r1 r2 r3 w r5 r6 r7 r8 L Lg p1 zh4
    suffices e : Ev (d + 1, 0, 0, 102, 15, [.val (.ref 1088), .val (.int p1)], [.int x2], (126, 120, L, [Y, T, HA, HB, RA, RB, ST, NS, I0, I1, I2, BO, FI, RG, GU, PU, MA, MN, MS, OT, SC], [r0, r1, r2, r3, w, r5, r6, r7, r8], Lg)) o from ev_call (fun v μ => (d + 1, 0, 0, 102, 15, [.val (.ref 1088), .val (.int p1)], v.toList ++ [], μ)) 3 ze5 e (fun n => Eq.refl _)
    by_cases zc6 : x2 ≠ 0
    · have h := itp h zc6
      suffices e : Ev (d + 1, 0, 0, 102, 22, [.val (.ref 1088), .val (.int p1)], [], (126, 120, L, [Y, T, HA, HB, RA, RB, ST, NS, I0, I1, I2, BO, FI, RG, GU, PU, MA, MN, MS, OT, SC], [r0, r1, r2, r3, w, r5, r6, r7, r8], Lg)) o from ev_t (c := x2 ≠ 0) _ _ 1  zc6 e (fun n => Eq.refl _)
      have ze7 := Option.some.inj h
      subst ze7
      exact ev_rete 2 ho (fun n => Eq.refl _)
    · have h := itn h zc6
      suffices e : Ev (d + 1, 0, 0, 102, 18, [.val (.ref 1088), .val (.int p1)], [], (126, 120, L, [Y, T, HA, HB, RA, RB, ST, NS, I0, I1, I2, BO, FI, RG, GU, PU, MA, MN, MS, OT, SC], [r0, r1, r2, r3, w, r5, r6, r7, r8], Lg)) o from ev_f (c := x2 ≠ 0) _ _ 1  zc6 e (fun n => Eq.refl _)
      have ze8 := Option.some.inj h
      subst ze8
      exact ev_rete 3 ho (fun n => Eq.refl _)
set_option maxRecDepth 1000000 in
set_option maxHeartbeats 4000000 in
theorem R_f_M_goesRound_B_0 (d : Nat) (rc : (Nat → (Nat → Nat → Int32) → (Nat → Nat → Int32) → Int32 → Int32 → Int32 → Option ((Nat → Nat → Int32))))
    (zrc0 : ∀ (Y T HA HB RA RB ST NS I0 I1 I2 BO FI RG GU PU MA MN MS OT SC : Nat → Nat → Int32) (r0 r1 r2 r3 w r5 r6 r7 r8 : Nat) (L : Nat) (Lg : Int64) (p1 : Int32) (p2 : Int32) (p3 : Int32) (r : (Nat → Nat → Int32)), rc 0 MA MS p1 p2 p3 = some r → Ev (d + 4, 0, 0, 103, 0, [.val (.ref 1088), .val (.int p1), .val (.int p2), .val (.int p3), .val a_unk], [], (126, 120, L, [Y, T, HA, HB, RA, RB, ST, NS, I0, I1, I2, BO, FI, RG, GU, PU, MA, MN, MS, OT, SC], [r0, r1, r2, r3, w, r5, r6, r7, r8], Lg)) ((0, none, (126, 120, L, [Y, T, HA, HB, RA, RB, ST, NS, I0, I1, I2, BO, FI, RG, GU, PU, MA, MN, r, OT, SC], [r0, r1, r2, r3, w, r5, r6, r7, r8], Lg)) : AOut))
    (Y T HA HB RA RB ST NS I0 I1 I2 BO FI RG GU PU MA MN MS OT SC : Nat → Nat → Int32) (r0 r1 r2 r3 w r5 r6 r7 r8 : Nat) (L : Nat) (Lg : Int64) (p1 : Int32) (p2 : Int32) (p3 : Int32) {r : (Nat → Nat → Int32)} (h : f_M_goesRound_B rc MA MS p1 p2 p3 = some r) : Ev (d + 5, 0, 0, 103, 0, [.val (.ref 1088), .val (.int p1), .val (.int p2), .val (.int p3), .val a_unk], [], (126, 120, L, [Y, T, HA, HB, RA, RB, ST, NS, I0, I1, I2, BO, FI, RG, GU, PU, MA, MN, MS, OT, SC], [r0, r1, r2, r3, w, r5, r6, r7, r8], Lg)) ((0, none, (126, 120, L, [Y, T, HA, HB, RA, RB, ST, NS, I0, I1, I2, BO, FI, RG, GU, PU, MA, MN, r, OT, SC], [r0, r1, r2, r3, w, r5, r6, r7, r8], Lg)) : AOut) := by
  suffices key : ∀ o : AOut, ((0, none, (126, 120, L, [Y, T, HA, HB, RA, RB, ST, NS, I0, I1, I2, BO, FI, RG, GU, PU, MA, MN, r, OT, SC], [r0, r1, r2, r3, w, r5, r6, r7, r8], Lg)) : AOut) = o → Ev (d + 5, 0, 0, 103, 0, [.val (.ref 1088), .val (.int p1), .val (.int p2), .val (.int p3), .val a_unk], [], (126, 120, L, [Y, T, HA, HB, RA, RB, ST, NS, I0, I1, I2, BO, FI, RG, GU, PU, MA, MN, MS, OT, SC], [r0, r1, r2, r3, w, r5, r6, r7, r8], Lg)) o from key _ rfl
  intro o ho
  by_cases zc1 : p1 ≠ p2
  · have h := itp h zc1
    suffices e : Ev (d + 5, 0, 0, 103, 71, [.val (.ref 1088), .val (.int p1), .val (.int p2), .val (.int p3), .val a_unk], [], (126, 120, L, [Y, T, HA, HB, RA, RB, ST, NS, I0, I1, I2, BO, FI, RG, GU, PU, MA, MN, MS, OT, SC], [r0, r1, r2, r3, w, r5, r6, r7, r8], Lg)) o from ev_t (c := p1 ≠ p2) _ _ 3  zc1 e (fun n => Eq.refl _)
    obtain ⟨zt2, zh3, h⟩ := bnd h
    have zj4 : ∀ (v2 : Int32), v2 = zt2 → Ev (d + 5, 0, 0, 103, 87, [.val (.ref 1088), .val (.int p1), .val (.int p2), .val (.int p3), .val a_unk], [.int v2], (126, 120, L, [Y, T, HA, HB, RA, RB, ST, NS, I0, I1, I2, BO, FI, RG, GU, PU, MA, MN, MS, OT, SC], [r0, r1, r2, r3, w, r5, r6, r7, r8], Lg)) o := by
      intro v2 ze5
      subst ze5
      obtain ⟨MS_9, zh7, h⟩ := bnd h
      suffices e : Ev (d + 5, 0, 0, 103, 89, [.val (.ref 1088), .val (.int p1), .val (.int p2), .val (.int p3), .val (.int v2)], [], (126, 120, L, [Y, T, HA, HB, RA, RB, ST, NS, I0, I1, I2, BO, FI, RG, GU, PU, MA, MN, MS, OT, SC], [r0, r1, r2, r3, w, r5, r6, r7, r8], Lg)) o from ev_b 1 e (fun n => Eq.refl _)
      refine ev_loop (δ := Unit) (fun a j => (d + 5, 0, 0, 103, 89, [.val (.ref 1088), .val (.int p1), .val (.int p2), .val (.int p3), .val (.int a.1)], [], (126, 120, L, [Y, T, HA, HB, RA, RB, ST, NS, I0, I1, I2, BO, FI, RG, GU, PU, MA, MN, a.2, OT, SC], [r0, r1, r2, r3, w, r5, r6, r7, r8], Lg))) (fun b => ∀ s8 : Value, Ev (d + 5, 0, 0, 103, 148, [.val (.ref 1088), .val (.int p1), .val (.int p2), .val (.int p3), .val s8], [], (126, 120, L, [Y, T, HA, HB, RA, RB, ST, NS, I0, I1, I2, BO, FI, RG, GU, PU, MA, MN, b, OT, SC], [r0, r1, r2, r3, w, r5, r6, r7, r8], Lg)) o) ?_ a_F (v2, MS) MS_9 zh7 ?_ ()
      · rintro ⟨v3, MS_4⟩ zr11 zh10 zi8 zx9 ⟨⟩
        have zh10 : f_M_goesRound_B_l89 MA p3 p1 rc p2 v3 MS_4 = some zr11 := zh10
        by_cases zc12 : (MA 0 26) ≤ v3
        · have zh10 := itp zh10 zc12
          suffices e : Ev (d + 5, 0, 0, 103, 148, [.val (.ref 1088), .val (.int p1), .val (.int p2), .val (.int p3), .val (.int v3)], [], (126, 120, L, [Y, T, HA, HB, RA, RB, ST, NS, I0, I1, I2, BO, FI, RG, GU, PU, MA, MN, MS_4, OT, SC], [r0, r1, r2, r3, w, r5, r6, r7, r8], Lg)) o from ev_t (c := (MA 0 26) ≤ v3) _ _ 4  zc12 e (fun n => Eq.refl _)
          exact ev_b 0 (zx9 _ (Option.some.inj zh10).symm (.int v3)) (fun n => Eq.refl _)
        · have zh10 := itn zh10 zc12
          suffices e : Ev (d + 5, 0, 0, 103, 98, [.val (.ref 1088), .val (.int p1), .val (.int p2), .val (.int p3), .val (.int v3)], [], (126, 120, L, [Y, T, HA, HB, RA, RB, ST, NS, I0, I1, I2, BO, FI, RG, GU, PU, MA, MN, MS_4, OT, SC], [r0, r1, r2, r3, w, r5, r6, r7, r8], Lg)) o from ev_f (c := (MA 0 26) ≤ v3) _ _ 4  zc12 e (fun n => Eq.refl _)
          by_cases zc13 : ((a_shr p3 v3) &&& 1) = 1
          · have zh10 := itp zh10 zc13
            suffices e : Ev (d + 5, 0, 0, 103, 142, [.val (.ref 1088), .val (.int p1), .val (.int p2), .val (.int p3), .val (.int v3)], [], (126, 120, L, [Y, T, HA, HB, RA, RB, ST, NS, I0, I1, I2, BO, FI, RG, GU, PU, MA, MN, MS_4, OT, SC], [r0, r1, r2, r3, w, r5, r6, r7, r8], Lg)) o from ev_t (c := ((a_shr p3 v3) &&& 1) = 1) _ _ 7  zc13 e (fun n => Eq.refl _)
            exact ev_b 2 (zi8 _ (Option.some.inj zh10).symm ()) (fun n => Eq.refl _)
          · have zh10 := itn zh10 zc13
            suffices e : Ev (d + 5, 0, 0, 103, 108, [.val (.ref 1088), .val (.int p1), .val (.int p2), .val (.int p3), .val (.int v3)], [], (126, 120, L, [Y, T, HA, HB, RA, RB, ST, NS, I0, I1, I2, BO, FI, RG, GU, PU, MA, MN, MS_4, OT, SC], [r0, r1, r2, r3, w, r5, r6, r7, r8], Lg)) o from ev_f (c := ((a_shr p3 v3) &&& 1) = 1) _ _ 7  zc13 e (fun n => Eq.refl _)
            obtain ⟨x5, zh14, zh10⟩ := bnd zh10
            have zh14 : f_M_canRing MA v3 = some x5 := zh14
            have ze15 := R_f_M_canRing_0 (d + 3) Y T HA HB RA RB ST NS I0 I1 I2 BO FI RG GU PU MA MN MS_4 OT SC r0 r1 r2 r3 w r5 r6 r7 r8 L Lg v3 zh14
            suffices e : Ev (d + 5, 0, 0, 103, 114, [.val (.ref 1088), .val (.int p1), .val (.int p2), .val (.int p3), .val (.int v3)], [.int x5], (126, 120, L, [Y, T, HA, HB, RA, RB, ST, NS, I0, I1, I2, BO, FI, RG, GU, PU, MA, MN, MS_4, OT, SC], [r0, r1, r2, r3, w, r5, r6, r7, r8], Lg)) o from ev_call (fun v μ => (d + 5, 0, 0, 103, 114, [.val (.ref 1088), .val (.int p1), .val (.int p2), .val (.int p3), .val (.int v3)], v.toList ++ [], μ)) 3 ze15 e (fun n => Eq.refl _)
            by_cases zc16 : x5 ≠ 0
            · have zh10 := itp zh10 zc16
              suffices e : Ev (d + 5, 0, 0, 103, 120, [.val (.ref 1088), .val (.int p1), .val (.int p2), .val (.int p3), .val (.int v3)], [], (126, 120, L, [Y, T, HA, HB, RA, RB, ST, NS, I0, I1, I2, BO, FI, RG, GU, PU, MA, MN, MS_4, OT, SC], [r0, r1, r2, r3, w, r5, r6, r7, r8], Lg)) o from ev_t (c := x5 ≠ 0) _ _ 1  zc16 e (fun n => Eq.refl _)
              obtain ⟨j6, zh17, zh10⟩ := bnd zh10
              have zh17 : ixx 4 p1 = some j6 := zh17
              suffices e : Ev (d + 5, 0, 0, 103, 128, [.val (.ref 1088), .val (.int p1), .val (.int p2), .val (.int p3), .val (.int v3)], [], (126, 120, L, [Y, T, HA, HB, RA, RB, ST, NS, I0, I1, I2, BO, FI, RG, GU, PU, MA, MN, (u2 MS_4 5 j6 v3), OT, SC], [r0, r1, r2, r3, w, r5, r6, r7, r8], Lg)) o from ev_opt (fun j6 => (d + 5, 0, 0, 103, 128, [.val (.ref 1088), .val (.int p1), .val (.int p2), .val (.int p3), .val (.int v3)], [], (126, 120, L, [Y, T, HA, HB, RA, RB, ST, NS, I0, I1, I2, BO, FI, RG, GU, PU, MA, MN, (u2 MS_4 5 j6 v3), OT, SC], [r0, r1, r2, r3, w, r5, r6, r7, r8], Lg))) 5 zh17 e (fun n => Eq.refl _)
              obtain ⟨MS_7, zh18, zh10⟩ := bnd zh10
              have zh18 : rc 0 MA (u2 MS_4 5 j6 v3) (p1 + 1) p2 (p3 ||| (a_shl 1 v3)) = some MS_7 := zh18
              have ze19 := zrc0 Y T HA HB RA RB ST NS I0 I1 I2 BO FI RG GU PU MA MN (u2 MS_4 5 j6 v3) OT SC r0 r1 r2 r3 w r5 r6 r7 r8 L Lg (p1 + 1) p2 (p3 ||| (a_shl 1 v3)) _ zh18
              suffices e : Ev (d + 5, 0, 0, 103, 142, [.val (.ref 1088), .val (.int p1), .val (.int p2), .val (.int p3), .val (.int v3)], [], (126, 120, L, [Y, T, HA, HB, RA, RB, ST, NS, I0, I1, I2, BO, FI, RG, GU, PU, MA, MN, MS_7, OT, SC], [r0, r1, r2, r3, w, r5, r6, r7, r8], Lg)) o from ev_call (fun v μ => (d + 5, 0, 0, 103, 142, [.val (.ref 1088), .val (.int p1), .val (.int p2), .val (.int p3), .val (.int v3)], v.toList ++ [], μ)) 11 ze19 e (fun n => Eq.refl _)
              exact ev_b 2 (zi8 _ (Option.some.inj zh10).symm ()) (fun n => Eq.refl _)
            · have zh10 := itn zh10 zc16
              suffices e : Ev (d + 5, 0, 0, 103, 117, [.val (.ref 1088), .val (.int p1), .val (.int p2), .val (.int p3), .val (.int v3)], [], (126, 120, L, [Y, T, HA, HB, RA, RB, ST, NS, I0, I1, I2, BO, FI, RG, GU, PU, MA, MN, MS_4, OT, SC], [r0, r1, r2, r3, w, r5, r6, r7, r8], Lg)) o from ev_f (c := x5 ≠ 0) _ _ 1  zc16 e (fun n => Eq.refl _)
              exact ev_b 3 (zi8 _ (Option.some.inj zh10).symm ()) (fun n => Eq.refl _)
      · skip
        intro s8
        have ze20 := Option.some.inj h
        subst ze20
        exact ev_rete 1 ho (fun n => Eq.refl _)
    by_cases zc21 : p1 ≠ 0
    · have zh3 := itp zh3 zc21
      suffices e : Ev (d + 5, 0, 0, 103, 79, [.val (.ref 1088), .val (.int p1), .val (.int p2), .val (.int p3), .val a_unk], [], (126, 120, L, [Y, T, HA, HB, RA, RB, ST, NS, I0, I1, I2, BO, FI, RG, GU, PU, MA, MN, MS, OT, SC], [r0, r1, r2, r3, w, r5, r6, r7, r8], Lg)) o from ev_t (c := p1 ≠ 0) _ _ 2  zc21 e (fun n => Eq.refl _)
      obtain ⟨x1, zh22, zh3⟩ := bnd zh3
      have zh22 : rdx (MS 5) 4 0 = some x1 := zh22
      suffices e : Ev (d + 5, 0, 0, 103, 85, [.val (.ref 1088), .val (.int p1), .val (.int p2), .val (.int p3), .val a_unk], [.int x1], (126, 120, L, [Y, T, HA, HB, RA, RB, ST, NS, I0, I1, I2, BO, FI, RG, GU, PU, MA, MN, MS, OT, SC], [r0, r1, r2, r3, w, r5, r6, r7, r8], Lg)) o from ev_opt (fun x1 => (d + 5, 0, 0, 103, 85, [.val (.ref 1088), .val (.int p1), .val (.int p2), .val (.int p3), .val a_unk], [.int x1], (126, 120, L, [Y, T, HA, HB, RA, RB, ST, NS, I0, I1, I2, BO, FI, RG, GU, PU, MA, MN, MS, OT, SC], [r0, r1, r2, r3, w, r5, r6, r7, r8], Lg))) 4 zh22 e (fun n => Eq.refl _)
      exact ev_b 2 (zj4 (x1 + 1) (Option.some.inj zh3) ) (fun n => Eq.refl _)
    · have zh3 := itn zh3 zc21
      suffices e : Ev (d + 5, 0, 0, 103, 75, [.val (.ref 1088), .val (.int p1), .val (.int p2), .val (.int p3), .val a_unk], [], (126, 120, L, [Y, T, HA, HB, RA, RB, ST, NS, I0, I1, I2, BO, FI, RG, GU, PU, MA, MN, MS, OT, SC], [r0, r1, r2, r3, w, r5, r6, r7, r8], Lg)) o from ev_f (c := p1 ≠ 0) _ _ 2  zc21 e (fun n => Eq.refl _)
      exact ev_b 2 (zj4 0 (Option.some.inj zh3) ) (fun n => Eq.refl _)
  · have h := itn h zc1
    suffices e : Ev (d + 5, 0, 0, 103, 5, [.val (.ref 1088), .val (.int p1), .val (.int p2), .val (.int p3), .val a_unk], [], (126, 120, L, [Y, T, HA, HB, RA, RB, ST, NS, I0, I1, I2, BO, FI, RG, GU, PU, MA, MN, MS, OT, SC], [r0, r1, r2, r3, w, r5, r6, r7, r8], Lg)) o from ev_f (c := p1 ≠ p2) _ _ 3  zc1 e (fun n => Eq.refl _)
    obtain ⟨⟨x10, MS_11⟩, zh23, h⟩ := bnd h
    have zh23 : f_M_isRing MA MS p2 = some (x10, MS_11) := zh23
    have ze24 := R_f_M_isRing_0 (d + 0) Y T HA HB RA RB ST NS I0 I1 I2 BO FI RG GU PU MA MN MS OT SC r0 r1 r2 r3 w r5 r6 r7 r8 L Lg p2 zh23
    suffices e : Ev (d + 5, 0, 0, 103, 10, [.val (.ref 1088), .val (.int p1), .val (.int p2), .val (.int p3), .val a_unk], [.int x10], (126, 120, L, [Y, T, HA, HB, RA, RB, ST, NS, I0, I1, I2, BO, FI, RG, GU, PU, MA, MN, MS_11, OT, SC], [r0, r1, r2, r3, w, r5, r6, r7, r8], Lg)) o from ev_call (fun v μ => (d + 5, 0, 0, 103, 10, [.val (.ref 1088), .val (.int p1), .val (.int p2), .val (.int p3), .val a_unk], v.toList ++ [], μ)) 3 ze24 e (fun n => Eq.refl _)
    by_cases zc25 : x10 ≠ 0
    · have h := itp h zc25
      suffices e : Ev (d + 5, 0, 0, 103, 14, [.val (.ref 1088), .val (.int p1), .val (.int p2), .val (.int p3), .val a_unk], [], (126, 120, L, [Y, T, HA, HB, RA, RB, ST, NS, I0, I1, I2, BO, FI, RG, GU, PU, MA, MN, MS_11, OT, SC], [r0, r1, r2, r3, w, r5, r6, r7, r8], Lg)) o from ev_t (c := x10 ≠ 0) _ _ 1  zc25 e (fun n => Eq.refl _)
      obtain ⟨zt26, zh27, h⟩ := bnd h
      have zj28 : ∀ (MS_18 : (Nat → Nat → Int32)), MS_18 = zt26 → ∀ s17 : Value, Ev (d + 5, 0, 0, 103, 60, [.val (.ref 1088), .val (.int p1), .val (.int p2), .val (.int p3), .val s17], [], (126, 120, L, [Y, T, HA, HB, RA, RB, ST, NS, I0, I1, I2, BO, FI, RG, GU, PU, MA, MN, MS_18, OT, SC], [r0, r1, r2, r3, w, r5, r6, r7, r8], Lg)) o := by
        intro MS_18 ze29 s17
        subst ze29
        have ze30 := Option.some.inj h
        subst ze30
        exact ev_rete 7 ho (fun n => Eq.refl _)
      by_cases zc31 : (MS_11 0 50) ≠ 0
      · have zh27 := itp zh27 zc31
        suffices e : Ev (d + 5, 0, 0, 103, 60, [.val (.ref 1088), .val (.int p1), .val (.int p2), .val (.int p3), .val a_unk], [], (126, 120, L, [Y, T, HA, HB, RA, RB, ST, NS, I0, I1, I2, BO, FI, RG, GU, PU, MA, MN, MS_11, OT, SC], [r0, r1, r2, r3, w, r5, r6, r7, r8], Lg)) o from ev_t (c := (MS_11 0 50) ≠ 0) _ _ 3  zc31 e (fun n => Eq.refl _)
        exact ev_b 0 (zj28 MS_11 (Option.some.inj zh27) a_unk) (fun n => Eq.refl _)
      · have zh27 := itn zh27 zc31
        suffices e : Ev (d + 5, 0, 0, 103, 21, [.val (.ref 1088), .val (.int p1), .val (.int p2), .val (.int p3), .val a_unk], [], (126, 120, L, [Y, T, HA, HB, RA, RB, ST, NS, I0, I1, I2, BO, FI, RG, GU, PU, MA, MN, MS_11, OT, SC], [r0, r1, r2, r3, w, r5, r6, r7, r8], Lg)) o from ev_f (c := (MS_11 0 50) ≠ 0) _ _ 3  zc31 e (fun n => Eq.refl _)
        obtain ⟨MS_16, zh33, zh27⟩ := bnd zh27
        suffices e : Ev (d + 5, 0, 0, 103, 29, [.val (.ref 1088), .val (.int p1), .val (.int p2), .val (.int p3), .val (.int 0)], [], (126, 120, L, [Y, T, HA, HB, RA, RB, ST, NS, I0, I1, I2, BO, FI, RG, GU, PU, MA, MN, (u2 MS_11 0 51 0), OT, SC], [r0, r1, r2, r3, w, r5, r6, r7, r8], Lg)) o from ev_b 5 e (fun n => Eq.refl _)
        refine ev_loop (δ := Unit) (fun a j => (d + 5, 0, 0, 103, 29, [.val (.ref 1088), .val (.int p1), .val (.int p2), .val (.int p3), .val (.int a.1)], [], (126, 120, L, [Y, T, HA, HB, RA, RB, ST, NS, I0, I1, I2, BO, FI, RG, GU, PU, MA, MN, a.2, OT, SC], [r0, r1, r2, r3, w, r5, r6, r7, r8], Lg))) (fun b => ∀ s15 : Value, Ev (d + 5, 0, 0, 103, 60, [.val (.ref 1088), .val (.int p1), .val (.int p2), .val (.int p3), .val s15], [], (126, 120, L, [Y, T, HA, HB, RA, RB, ST, NS, I0, I1, I2, BO, FI, RG, GU, PU, MA, MN, b, OT, SC], [r0, r1, r2, r3, w, r5, r6, r7, r8], Lg)) o) ?_ a_F (0, (u2 MS_11 0 51 0)) MS_16 zh33 ?_ ()
        · rintro ⟨v12, MS_13⟩ zr37 zh36 zi34 zx35 ⟨⟩
          have zh36 : f_M_goesRound_B_l29 p2 v12 MS_13 = some zr37 := zh36
          by_cases zc38 : p2 ≤ v12
          · have zh36 := itp zh36 zc38
            suffices e : Ev (d + 5, 0, 0, 103, 60, [.val (.ref 1088), .val (.int p1), .val (.int p2), .val (.int p3), .val (.int v12)], [], (126, 120, L, [Y, T, HA, HB, RA, RB, ST, NS, I0, I1, I2, BO, FI, RG, GU, PU, MA, MN, MS_13, OT, SC], [r0, r1, r2, r3, w, r5, r6, r7, r8], Lg)) o from ev_t (c := p2 ≤ v12) _ _ 3  zc38 e (fun n => Eq.refl _)
            exact ev_b 0 (zx35 _ (Option.some.inj zh36).symm (.int v12)) (fun n => Eq.refl _)
          · have zh36 := itn zh36 zc38
            suffices e : Ev (d + 5, 0, 0, 103, 35, [.val (.ref 1088), .val (.int p1), .val (.int p2), .val (.int p3), .val (.int v12)], [], (126, 120, L, [Y, T, HA, HB, RA, RB, ST, NS, I0, I1, I2, BO, FI, RG, GU, PU, MA, MN, MS_13, OT, SC], [r0, r1, r2, r3, w, r5, r6, r7, r8], Lg)) o from ev_f (c := p2 ≤ v12) _ _ 3  zc38 e (fun n => Eq.refl _)
            obtain ⟨x14, zh39, zh36⟩ := bnd zh36
            have zh39 : rdx (MS_13 5) 4 v12 = some x14 := zh39
            suffices e : Ev (d + 5, 0, 0, 103, 50, [.val (.ref 1088), .val (.int p1), .val (.int p2), .val (.int p3), .val (.int v12)], [.int x14, .int (10 * (MS_13 0 51)), .ref 1088], (126, 120, L, [Y, T, HA, HB, RA, RB, ST, NS, I0, I1, I2, BO, FI, RG, GU, PU, MA, MN, MS_13, OT, SC], [r0, r1, r2, r3, w, r5, r6, r7, r8], Lg)) o from ev_opt (fun x14 => (d + 5, 0, 0, 103, 50, [.val (.ref 1088), .val (.int p1), .val (.int p2), .val (.int p3), .val (.int v12)], [.int x14, .int (10 * (MS_13 0 51)), .ref 1088], (126, 120, L, [Y, T, HA, HB, RA, RB, ST, NS, I0, I1, I2, BO, FI, RG, GU, PU, MA, MN, MS_13, OT, SC], [r0, r1, r2, r3, w, r5, r6, r7, r8], Lg))) 9 zh39 e (fun n => Eq.refl _)
            exact ev_b 4 (zi34 _ (Option.some.inj zh36).symm ()) (fun n => Eq.refl _)
        · skip
          intro s15
          exact ev_b 0 (zj28 MS_16 (Option.some.inj zh27) s15) (fun n => Eq.refl _)
    · have h := itn h zc25
      suffices e : Ev (d + 5, 0, 0, 103, 13, [.val (.ref 1088), .val (.int p1), .val (.int p2), .val (.int p3), .val a_unk], [], (126, 120, L, [Y, T, HA, HB, RA, RB, ST, NS, I0, I1, I2, BO, FI, RG, GU, PU, MA, MN, MS_11, OT, SC], [r0, r1, r2, r3, w, r5, r6, r7, r8], Lg)) o from ev_f (c := x10 ≠ 0) _ _ 1  zc25 e (fun n => Eq.refl _)
      have ze40 := Option.some.inj h
      subst ze40
      exact ev_rete 1 ho (fun n => Eq.refl _)
set_option maxRecDepth 1000000 in
set_option maxHeartbeats 4000000 in
theorem K_grp_mg_0 (n : Nat) : (∀ (d : Nat) (Y T HA HB RA RB ST NS I0 I1 I2 BO FI RG GU PU MA MN MS OT SC : Nat → Nat → Int32) (r0 r1 r2 r3 w r5 r6 r7 r8 : Nat) (L : Nat) (Lg : Int64) (p1 : Int32) (p2 : Int32) (p3 : Int32) (r : (Nat → Nat → Int32)), f_grp_mg n 0 MA MS p1 p2 p3 = some r → Ev (d + (4 + n), 0, 0, 103, 0, [.val (.ref 1088), .val (.int p1), .val (.int p2), .val (.int p3), .val a_unk], [], (126, 120, L, [Y, T, HA, HB, RA, RB, ST, NS, I0, I1, I2, BO, FI, RG, GU, PU, MA, MN, MS, OT, SC], [r0, r1, r2, r3, w, r5, r6, r7, r8], Lg)) ((0, none, (126, 120, L, [Y, T, HA, HB, RA, RB, ST, NS, I0, I1, I2, BO, FI, RG, GU, PU, MA, MN, r, OT, SC], [r0, r1, r2, r3, w, r5, r6, r7, r8], Lg)) : AOut)) := by
  induction n with
  | zero => exact by intros; contradiction
  | succ n ih =>
    have i0 := ih
    refine ?_
    · intro d Y T HA HB RA RB ST NS I0 I1 I2 BO FI RG GU PU MA MN MS OT SC r0 r1 r2 r3 w r5 r6 r7 r8 L Lg p1 p2 p3 r h
      rw [show d + (4 + (n + 1)) = d + n + 5 by omega]
      have j0 : ∀ (Y T HA HB RA RB ST NS I0 I1 I2 BO FI RG GU PU MA MN MS OT SC : Nat → Nat → Int32) (r0 r1 r2 r3 w r5 r6 r7 r8 : Nat) (L : Nat) (Lg : Int64) (p1 : Int32) (p2 : Int32) (p3 : Int32) (r : (Nat → Nat → Int32)), f_grp_mg n 0 MA MS p1 p2 p3 = some r → Ev (d + n + 4, 0, 0, 103, 0, [.val (.ref 1088), .val (.int p1), .val (.int p2), .val (.int p3), .val a_unk], [], (126, 120, L, [Y, T, HA, HB, RA, RB, ST, NS, I0, I1, I2, BO, FI, RG, GU, PU, MA, MN, MS, OT, SC], [r0, r1, r2, r3, w, r5, r6, r7, r8], Lg)) ((0, none, (126, 120, L, [Y, T, HA, HB, RA, RB, ST, NS, I0, I1, I2, BO, FI, RG, GU, PU, MA, MN, r, OT, SC], [r0, r1, r2, r3, w, r5, r6, r7, r8], Lg)) : AOut) := by
        intro Y T HA HB RA RB ST NS I0 I1 I2 BO FI RG GU PU MA MN MS OT SC r0 r1 r2 r3 w r5 r6 r7 r8 L Lg p1 p2 p3 r h
        have e := i0 d Y T HA HB RA RB ST NS I0 I1 I2 BO FI RG GU PU MA MN MS OT SC r0 r1 r2 r3 w r5 r6 r7 r8 L Lg p1 p2 p3 r h
        rw [show d + (4 + n) = d + n + 4 by omega] at e
        exact e
      exact R_f_M_goesRound_B_0 (d + n) (f_grp_mg n) j0 Y T HA HB RA RB ST NS I0 I1 I2 BO FI RG GU PU MA MN MS OT SC r0 r1 r2 r3 w r5 r6 r7 r8 L Lg p1 p2 p3 h

set_option maxRecDepth 1000000 in
set_option maxHeartbeats 4000000 in
theorem R_f_M_swap_0 (d : Nat) (Y T HA HB RA RB ST NS I0 I1 I2 BO FI RG GU PU MA MN MS OT SC : Nat → Nat → Int32) (r0 r1 r2 r3 w r5 r6 r7 r8 : Nat) (L : Nat) (Lg : Int64) (p1 : Int32) (p2 : Int32) {r : Int32 × (Nat → Nat → Int32) × (Nat → Nat → Int32)} (h : f_M_swap MA MS p1 p2 = some r) : Ev (d + 5, 0, 0, 104, 0, [.val (.ref 1088), .val (.int p1), .val (.int p2)], [], (126, 120, L, [Y, T, HA, HB, RA, RB, ST, NS, I0, I1, I2, BO, FI, RG, GU, PU, MA, MN, MS, OT, SC], [r0, r1, r2, r3, w, r5, r6, r7, r8], Lg)) ((0, some (.int r.1), (126, 120, L, [Y, T, HA, HB, RA, RB, ST, NS, I0, I1, I2, BO, FI, RG, GU, PU, r.2.1, MN, r.2.2, OT, SC], [r0, r1, r2, r3, w, r5, r6, r7, r8], Lg)) : AOut) := by
  suffices key : ∀ o : AOut, ((0, some (.int r.1), (126, 120, L, [Y, T, HA, HB, RA, RB, ST, NS, I0, I1, I2, BO, FI, RG, GU, PU, r.2.1, MN, r.2.2, OT, SC], [r0, r1, r2, r3, w, r5, r6, r7, r8], Lg)) : AOut) = o → Ev (d + 5, 0, 0, 104, 0, [.val (.ref 1088), .val (.int p1), .val (.int p2)], [], (126, 120, L, [Y, T, HA, HB, RA, RB, ST, NS, I0, I1, I2, BO, FI, RG, GU, PU, MA, MN, MS, OT, SC], [r0, r1, r2, r3, w, r5, r6, r7, r8], Lg)) o from key _ rfl
  intro o ho
  obtain ⟨⟨x1, MA_2⟩, zh1, h⟩ := bnd h
  have zh1 : f_M_isMeeting (u2 MA 0 0 0) p1 1 = some (x1, MA_2) := zh1
  have ze2 := R_f_M_isMeeting_0 (d + 3) Y T HA HB RA RB ST NS I0 I1 I2 BO FI RG GU PU (u2 MA 0 0 0) MN MS OT SC r0 r1 r2 r3 w r5 r6 r7 r8 L Lg p1 1 zh1
  suffices e : Ev (d + 5, 0, 0, 104, 11, [.val (.ref 1088), .val (.int p1), .val (.int p2)], [.int x1], (126, 120, L, [Y, T, HA, HB, RA, RB, ST, NS, I0, I1, I2, BO, FI, RG, GU, PU, MA_2, MN, MS, OT, SC], [r0, r1, r2, r3, w, r5, r6, r7, r8], Lg)) o from ev_call (fun v μ => (d + 5, 0, 0, 104, 11, [.val (.ref 1088), .val (.int p1), .val (.int p2)], v.toList ++ [], μ)) 7 ze2 e (fun n => Eq.refl _)
  by_cases zc3 : x1 = 0
  · have h := itp h zc3
    suffices e : Ev (d + 5, 0, 0, 104, 42, [.val (.ref 1088), .val (.int p1), .val (.int p2)], [], (126, 120, L, [Y, T, HA, HB, RA, RB, ST, NS, I0, I1, I2, BO, FI, RG, GU, PU, MA_2, MN, MS, OT, SC], [r0, r1, r2, r3, w, r5, r6, r7, r8], Lg)) o from ev_t (c := x1 = 0) _ _ 1  zc3 e (fun n => Eq.refl _)
    have ze4 := Option.some.inj h
    subst ze4
    exact ev_rete 2 ho (fun n => Eq.refl _)
  · have h := itn h zc3
    suffices e : Ev (d + 5, 0, 0, 104, 14, [.val (.ref 1088), .val (.int p1), .val (.int p2)], [], (126, 120, L, [Y, T, HA, HB, RA, RB, ST, NS, I0, I1, I2, BO, FI, RG, GU, PU, MA_2, MN, MS, OT, SC], [r0, r1, r2, r3, w, r5, r6, r7, r8], Lg)) o from ev_f (c := x1 = 0) _ _ 1  zc3 e (fun n => Eq.refl _)
    obtain ⟨⟨x3, MA_4⟩, zh5, h⟩ := bnd h
    have zh5 : f_M_isMeeting MA_2 p2 1 = some (x3, MA_4) := zh5
    have ze6 := R_f_M_isMeeting_0 (d + 3) Y T HA HB RA RB ST NS I0 I1 I2 BO FI RG GU PU MA_2 MN MS OT SC r0 r1 r2 r3 w r5 r6 r7 r8 L Lg p2 1 zh5
    suffices e : Ev (d + 5, 0, 0, 104, 20, [.val (.ref 1088), .val (.int p1), .val (.int p2)], [.int x3], (126, 120, L, [Y, T, HA, HB, RA, RB, ST, NS, I0, I1, I2, BO, FI, RG, GU, PU, MA_4, MN, MS, OT, SC], [r0, r1, r2, r3, w, r5, r6, r7, r8], Lg)) o from ev_call (fun v μ => (d + 5, 0, 0, 104, 20, [.val (.ref 1088), .val (.int p1), .val (.int p2)], v.toList ++ [], μ)) 4 ze6 e (fun n => Eq.refl _)
    by_cases zc7 : x3 = 0
    · have h := itp h zc7
      suffices e : Ev (d + 5, 0, 0, 104, 42, [.val (.ref 1088), .val (.int p1), .val (.int p2)], [], (126, 120, L, [Y, T, HA, HB, RA, RB, ST, NS, I0, I1, I2, BO, FI, RG, GU, PU, MA_4, MN, MS, OT, SC], [r0, r1, r2, r3, w, r5, r6, r7, r8], Lg)) o from ev_t (c := x3 = 0) _ _ 1  zc7 e (fun n => Eq.refl _)
      have ze8 := Option.some.inj h
      subst ze8
      exact ev_rete 2 ho (fun n => Eq.refl _)
    · have h := itn h zc7
      suffices e : Ev (d + 5, 0, 0, 104, 23, [.val (.ref 1088), .val (.int p1), .val (.int p2)], [], (126, 120, L, [Y, T, HA, HB, RA, RB, ST, NS, I0, I1, I2, BO, FI, RG, GU, PU, MA_4, MN, MS, OT, SC], [r0, r1, r2, r3, w, r5, r6, r7, r8], Lg)) o from ev_f (c := x3 = 0) _ _ 1  zc7 e (fun n => Eq.refl _)
      obtain ⟨zt9, zh10, h⟩ := bnd h
      have zj11 : ∀ (v5 : Int32), v5 = zt9 → Ev (d + 5, 0, 0, 104, 34, [.val (.ref 1088), .val (.int p1), .val (.int p2)], [.int v5, .ref 1088], (126, 120, L, [Y, T, HA, HB, RA, RB, ST, NS, I0, I1, I2, BO, FI, RG, GU, PU, MA_4, MN, MS, OT, SC], [r0, r1, r2, r3, w, r5, r6, r7, r8], Lg)) o := by
        intro v5 ze12
        subst ze12
        obtain ⟨⟨x6, MA_7⟩, zh13, h⟩ := bnd h
        have zh13 : f_M_may MA_4 v5 2 1 = some (x6, MA_7) := zh13
        have ze14 := R_f_M_may_0 (d + 4) Y T HA HB RA RB ST NS I0 I1 I2 BO FI RG GU PU MA_4 MN MS OT SC r0 r1 r2 r3 w r5 r6 r7 r8 L Lg v5 2 1 zh13
        suffices e : Ev (d + 5, 0, 0, 104, 39, [.val (.ref 1088), .val (.int p1), .val (.int p2)], [.int x6], (126, 120, L, [Y, T, HA, HB, RA, RB, ST, NS, I0, I1, I2, BO, FI, RG, GU, PU, MA_7, MN, MS, OT, SC], [r0, r1, r2, r3, w, r5, r6, r7, r8], Lg)) o from ev_call (fun v μ => (d + 5, 0, 0, 104, 39, [.val (.ref 1088), .val (.int p1), .val (.int p2)], v.toList ++ [], μ)) 3 ze14 e (fun n => Eq.refl _)
        by_cases zc15 : x6 ≠ 0
        · have h := itp h zc15
          suffices e : Ev (d + 5, 0, 0, 104, 44, [.val (.ref 1088), .val (.int p1), .val (.int p2)], [], (126, 120, L, [Y, T, HA, HB, RA, RB, ST, NS, I0, I1, I2, BO, FI, RG, GU, PU, MA_7, MN, MS, OT, SC], [r0, r1, r2, r3, w, r5, r6, r7, r8], Lg)) o from ev_t (c := x6 ≠ 0) _ _ 1  zc15 e (fun n => Eq.refl _)
          obtain ⟨x8, zh16, h⟩ := bnd h
          have zh16 : f_M_canRing MA_7 p1 = some x8 := zh16
          have ze17 := R_f_M_canRing_0 (d + 3) Y T HA HB RA RB ST NS I0 I1 I2 BO FI RG GU PU MA_7 MN MS OT SC r0 r1 r2 r3 w r5 r6 r7 r8 L Lg p1 zh16
          suffices e : Ev (d + 5, 0, 0, 104, 49, [.val (.ref 1088), .val (.int p1), .val (.int p2)], [.int x8], (126, 120, L, [Y, T, HA, HB, RA, RB, ST, NS, I0, I1, I2, BO, FI, RG, GU, PU, MA_7, MN, MS, OT, SC], [r0, r1, r2, r3, w, r5, r6, r7, r8], Lg)) o from ev_call (fun v μ => (d + 5, 0, 0, 104, 49, [.val (.ref 1088), .val (.int p1), .val (.int p2)], v.toList ++ [], μ)) 3 ze17 e (fun n => Eq.refl _)
          by_cases zc18 : x8 = 0
          · have h := itp h zc18
            suffices e : Ev (d + 5, 0, 0, 104, 60, [.val (.ref 1088), .val (.int p1), .val (.int p2)], [], (126, 120, L, [Y, T, HA, HB, RA, RB, ST, NS, I0, I1, I2, BO, FI, RG, GU, PU, MA_7, MN, MS, OT, SC], [r0, r1, r2, r3, w, r5, r6, r7, r8], Lg)) o from ev_t (c := x8 = 0) _ _ 1  zc18 e (fun n => Eq.refl _)
            have ze19 := Option.some.inj h
            subst ze19
            exact ev_rete 2 ho (fun n => Eq.refl _)
          · have h := itn h zc18
            suffices e : Ev (d + 5, 0, 0, 104, 52, [.val (.ref 1088), .val (.int p1), .val (.int p2)], [], (126, 120, L, [Y, T, HA, HB, RA, RB, ST, NS, I0, I1, I2, BO, FI, RG, GU, PU, MA_7, MN, MS, OT, SC], [r0, r1, r2, r3, w, r5, r6, r7, r8], Lg)) o from ev_f (c := x8 = 0) _ _ 1  zc18 e (fun n => Eq.refl _)
            obtain ⟨x9, zh20, h⟩ := bnd h
            have zh20 : f_M_canRing MA_7 p2 = some x9 := zh20
            have ze21 := R_f_M_canRing_0 (d + 3) Y T HA HB RA RB ST NS I0 I1 I2 BO FI RG GU PU MA_7 MN MS OT SC r0 r1 r2 r3 w r5 r6 r7 r8 L Lg p2 zh20
            suffices e : Ev (d + 5, 0, 0, 104, 57, [.val (.ref 1088), .val (.int p1), .val (.int p2)], [.int x9], (126, 120, L, [Y, T, HA, HB, RA, RB, ST, NS, I0, I1, I2, BO, FI, RG, GU, PU, MA_7, MN, MS, OT, SC], [r0, r1, r2, r3, w, r5, r6, r7, r8], Lg)) o from ev_call (fun v μ => (d + 5, 0, 0, 104, 57, [.val (.ref 1088), .val (.int p1), .val (.int p2)], v.toList ++ [], μ)) 3 ze21 e (fun n => Eq.refl _)
            by_cases zc22 : x9 ≠ 0
            · have h := itp h zc22
              suffices e : Ev (d + 5, 0, 0, 104, 62, [.val (.ref 1088), .val (.int p1), .val (.int p2)], [], (126, 120, L, [Y, T, HA, HB, RA, RB, ST, NS, I0, I1, I2, BO, FI, RG, GU, PU, MA_7, MN, MS, OT, SC], [r0, r1, r2, r3, w, r5, r6, r7, r8], Lg)) o from ev_t (c := x9 ≠ 0) _ _ 1  zc22 e (fun n => Eq.refl _)
              obtain ⟨j10, zh23, h⟩ := bnd h
              have zh23 : ixx 4 0 = some j10 := zh23
              suffices e : Ev (d + 5, 0, 0, 104, 69, [.val (.ref 1088), .val (.int p1), .val (.int p2)], [], (126, 120, L, [Y, T, HA, HB, RA, RB, ST, NS, I0, I1, I2, BO, FI, RG, GU, PU, MA_7, MN, (u2 MS 5 j10 p1), OT, SC], [r0, r1, r2, r3, w, r5, r6, r7, r8], Lg)) o from ev_opt (fun j10 => (d + 5, 0, 0, 104, 69, [.val (.ref 1088), .val (.int p1), .val (.int p2)], [], (126, 120, L, [Y, T, HA, HB, RA, RB, ST, NS, I0, I1, I2, BO, FI, RG, GU, PU, MA_7, MN, (u2 MS 5 j10 p1), OT, SC], [r0, r1, r2, r3, w, r5, r6, r7, r8], Lg))) 5 zh23 e (fun n => Eq.refl _)
              obtain ⟨j11, zh24, h⟩ := bnd h
              have zh24 : ixx 4 1 = some j11 := zh24
              suffices e : Ev (d + 5, 0, 0, 104, 76, [.val (.ref 1088), .val (.int p1), .val (.int p2)], [], (126, 120, L, [Y, T, HA, HB, RA, RB, ST, NS, I0, I1, I2, BO, FI, RG, GU, PU, MA_7, MN, (u2 (u2 MS 5 j10 p1) 5 j11 p2), OT, SC], [r0, r1, r2, r3, w, r5, r6, r7, r8], Lg)) o from ev_opt (fun j11 => (d + 5, 0, 0, 104, 76, [.val (.ref 1088), .val (.int p1), .val (.int p2)], [], (126, 120, L, [Y, T, HA, HB, RA, RB, ST, NS, I0, I1, I2, BO, FI, RG, GU, PU, MA_7, MN, (u2 (u2 MS 5 j10 p1) 5 j11 p2), OT, SC], [r0, r1, r2, r3, w, r5, r6, r7, r8], Lg))) 5 zh24 e (fun n => Eq.refl _)
              obtain ⟨⟨x12, MS_13⟩, zh25, h⟩ := bnd h
              have zh25 : f_M_isRing MA_7 (u2 (u2 MS 5 j10 p1) 5 j11 p2) 2 = some (x12, MS_13) := zh25
              have ze26 := R_f_M_isRing_0 (d + 0) Y T HA HB RA RB ST NS I0 I1 I2 BO FI RG GU PU MA_7 MN (u2 (u2 MS 5 j10 p1) 5 j11 p2) OT SC r0 r1 r2 r3 w r5 r6 r7 r8 L Lg 2 zh25
              suffices e : Ev (d + 5, 0, 0, 104, 81, [.val (.ref 1088), .val (.int p1), .val (.int p2)], [.int x12], (126, 120, L, [Y, T, HA, HB, RA, RB, ST, NS, I0, I1, I2, BO, FI, RG, GU, PU, MA_7, MN, MS_13, OT, SC], [r0, r1, r2, r3, w, r5, r6, r7, r8], Lg)) o from ev_call (fun v μ => (d + 5, 0, 0, 104, 81, [.val (.ref 1088), .val (.int p1), .val (.int p2)], v.toList ++ [], μ)) 3 ze26 e (fun n => Eq.refl _)
              have ze27 := Option.some.inj h
              subst ze27
              exact ev_rete 1 ho (fun n => Eq.refl _)
            · have h := itn h zc22
              suffices e : Ev (d + 5, 0, 0, 104, 60, [.val (.ref 1088), .val (.int p1), .val (.int p2)], [], (126, 120, L, [Y, T, HA, HB, RA, RB, ST, NS, I0, I1, I2, BO, FI, RG, GU, PU, MA_7, MN, MS, OT, SC], [r0, r1, r2, r3, w, r5, r6, r7, r8], Lg)) o from ev_f (c := x9 ≠ 0) _ _ 1  zc22 e (fun n => Eq.refl _)
              have ze28 := Option.some.inj h
              subst ze28
              exact ev_rete 2 ho (fun n => Eq.refl _)
        · have h := itn h zc15
          suffices e : Ev (d + 5, 0, 0, 104, 42, [.val (.ref 1088), .val (.int p1), .val (.int p2)], [], (126, 120, L, [Y, T, HA, HB, RA, RB, ST, NS, I0, I1, I2, BO, FI, RG, GU, PU, MA_7, MN, MS, OT, SC], [r0, r1, r2, r3, w, r5, r6, r7, r8], Lg)) o from ev_f (c := x6 ≠ 0) _ _ 1  zc15 e (fun n => Eq.refl _)
          have ze29 := Option.some.inj h
          subst ze29
          exact ev_rete 2 ho (fun n => Eq.refl _)
      by_cases zc30 : p1 = p2
      · have zh10 := itp zh10 zc30
        suffices e : Ev (d + 5, 0, 0, 104, 33, [.val (.ref 1088), .val (.int p1), .val (.int p2)], [.ref 1088], (126, 120, L, [Y, T, HA, HB, RA, RB, ST, NS, I0, I1, I2, BO, FI, RG, GU, PU, MA_4, MN, MS, OT, SC], [r0, r1, r2, r3, w, r5, r6, r7, r8], Lg)) o from ev_t (c := p1 = p2) _ _ 4  zc30 e (fun n => Eq.refl _)
        exact ev_b 1 (zj11 0 (Option.some.inj zh10) ) (fun n => Eq.refl _)
      · have zh10 := itn zh10 zc30
        suffices e : Ev (d + 5, 0, 0, 104, 29, [.val (.ref 1088), .val (.int p1), .val (.int p2)], [.ref 1088], (126, 120, L, [Y, T, HA, HB, RA, RB, ST, NS, I0, I1, I2, BO, FI, RG, GU, PU, MA_4, MN, MS, OT, SC], [r0, r1, r2, r3, w, r5, r6, r7, r8], Lg)) o from ev_f (c := p1 = p2) _ _ 4  zc30 e (fun n => Eq.refl _)
        exact ev_b 2 (zj11 1 (Option.some.inj zh10) ) (fun n => Eq.refl _)
set_option maxRecDepth 1000000 in
set_option maxHeartbeats 4000000 in
theorem R_f_M_rings_0 (d : Nat) (Y T HA HB RA RB ST NS I0 I1 I2 BO FI RG GU PU MA MN MS OT SC : Nat → Nat → Int32) (r0 r1 r2 r3 w r5 r6 r7 r8 : Nat) (L : Nat) (Lg : Int64) (p1 : Int32) (p2 : Int32) {r : Int32 × (Nat → Nat → Int32) × (Nat → Nat → Int32)} (h : f_M_rings MA MS p1 p2 = some r) : Ev (d + 17, 0, 0, 105, 0, [.val (.ref 1088), .val (.int p1), .val (.int p2)], [], (126, 120, L, [Y, T, HA, HB, RA, RB, ST, NS, I0, I1, I2, BO, FI, RG, GU, PU, MA, MN, MS, OT, SC], [r0, r1, r2, r3, w, r5, r6, r7, r8], Lg)) ((0, some (.int r.1), (126, 120, L, [Y, T, HA, HB, RA, RB, ST, NS, I0, I1, I2, BO, FI, RG, GU, PU, r.2.1, MN, r.2.2, OT, SC], [r0, r1, r2, r3, w, r5, r6, r7, r8], Lg)) : AOut) := by
  suffices key : ∀ o : AOut, ((0, some (.int r.1), (126, 120, L, [Y, T, HA, HB, RA, RB, ST, NS, I0, I1, I2, BO, FI, RG, GU, PU, r.2.1, MN, r.2.2, OT, SC], [r0, r1, r2, r3, w, r5, r6, r7, r8], Lg)) : AOut) = o → Ev (d + 17, 0, 0, 105, 0, [.val (.ref 1088), .val (.int p1), .val (.int p2)], [], (126, 120, L, [Y, T, HA, HB, RA, RB, ST, NS, I0, I1, I2, BO, FI, RG, GU, PU, MA, MN, MS, OT, SC], [r0, r1, r2, r3, w, r5, r6, r7, r8], Lg)) o from key _ rfl
  intro o ho
  obtain ⟨x1, zh1, h⟩ := bnd h
  have zh1 : f_M_within p1 2 4 = some x1 := zh1
  have ze2 := R_f_M_within_0 (d + 16) Y T HA HB RA RB ST NS I0 I1 I2 BO FI RG GU PU (u2 MA 0 0 0) MN MS OT SC r0 r1 r2 r3 w r5 r6 r7 r8 L Lg p1 2 4 zh1
  suffices e : Ev (d + 17, 0, 0, 105, 12, [.val (.ref 1088), .val (.int p1), .val (.int p2)], [.int x1, .ref 1088], (126, 120, L, [Y, T, HA, HB, RA, RB, ST, NS, I0, I1, I2, BO, FI, RG, GU, PU, (u2 MA 0 0 0), MN, MS, OT, SC], [r0, r1, r2, r3, w, r5, r6, r7, r8], Lg)) o from ev_call (fun v μ => (d + 17, 0, 0, 105, 12, [.val (.ref 1088), .val (.int p1), .val (.int p2)], v.toList ++ [.ref 1088], μ)) 8 ze2 e (fun n => Eq.refl _)
  obtain ⟨zt3, zh4, h⟩ := bnd h
  have zj5 : ∀ (v3 : Int32), v3 = zt3 → Ev (d + 17, 0, 0, 105, 29, [.val (.ref 1088), .val (.int p1), .val (.int p2)], [.int v3, .ref 1088], (126, 120, L, [Y, T, HA, HB, RA, RB, ST, NS, I0, I1, I2, BO, FI, RG, GU, PU, (u2 MA 0 0 0), MN, MS, OT, SC], [r0, r1, r2, r3, w, r5, r6, r7, r8], Lg)) o := by
    intro v3 ze6
    subst ze6
    obtain ⟨⟨x4, MA_5⟩, zh7, h⟩ := bnd h
    have zh7 : f_M_may (u2 MA 0 0 0) v3 1 1 = some (x4, MA_5) := zh7
    have ze8 := R_f_M_may_0 (d + 16) Y T HA HB RA RB ST NS I0 I1 I2 BO FI RG GU PU (u2 MA 0 0 0) MN MS OT SC r0 r1 r2 r3 w r5 r6 r7 r8 L Lg v3 1 1 zh7
    suffices e : Ev (d + 17, 0, 0, 105, 34, [.val (.ref 1088), .val (.int p1), .val (.int p2)], [.int x4], (126, 120, L, [Y, T, HA, HB, RA, RB, ST, NS, I0, I1, I2, BO, FI, RG, GU, PU, MA_5, MN, MS, OT, SC], [r0, r1, r2, r3, w, r5, r6, r7, r8], Lg)) o from ev_call (fun v μ => (d + 17, 0, 0, 105, 34, [.val (.ref 1088), .val (.int p1), .val (.int p2)], v.toList ++ [], μ)) 3 ze8 e (fun n => Eq.refl _)
    by_cases zc9 : x4 ≠ 0
    · have h := itp h zc9
      suffices e : Ev (d + 17, 0, 0, 105, 39, [.val (.ref 1088), .val (.int p1), .val (.int p2)], [], (126, 120, L, [Y, T, HA, HB, RA, RB, ST, NS, I0, I1, I2, BO, FI, RG, GU, PU, MA_5, MN, MS, OT, SC], [r0, r1, r2, r3, w, r5, r6, r7, r8], Lg)) o from ev_t (c := x4 ≠ 0) _ _ 1  zc9 e (fun n => Eq.refl _)
      obtain ⟨MS_6, zh10, h⟩ := bnd h
      have zh10 : f_grp_mg 12 0 MA_5 (u2 (u2 MS 0 50 0) 0 51 (-1)) 0 p1 0 = some MS_6 := zh10
      have ze11 := (K_grp_mg_0 12) (d + 0) Y T HA HB RA RB ST NS I0 I1 I2 BO FI RG GU PU MA_5 MN (u2 (u2 MS 0 50 0) 0 51 (-1)) OT SC r0 r1 r2 r3 w r5 r6 r7 r8 L Lg 0 p1 0 _ zh10
      suffices e : Ev (d + 17, 0, 0, 105, 56, [.val (.ref 1088), .val (.int p1), .val (.int p2)], [], (126, 120, L, [Y, T, HA, HB, RA, RB, ST, NS, I0, I1, I2, BO, FI, RG, GU, PU, MA_5, MN, MS_6, OT, SC], [r0, r1, r2, r3, w, r5, r6, r7, r8], Lg)) o from ev_call (fun v μ => (d + 17, 0, 0, 105, 56, [.val (.ref 1088), .val (.int p1), .val (.int p2)], v.toList ++ [], μ)) 11 ze11 e (fun n => Eq.refl _)
      by_cases zc12 : p2 ≠ 0
      · have h := itp h zc12
        suffices e : Ev (d + 17, 0, 0, 105, 67, [.val (.ref 1088), .val (.int p1), .val (.int p2)], [], (126, 120, L, [Y, T, HA, HB, RA, RB, ST, NS, I0, I1, I2, BO, FI, RG, GU, PU, MA_5, MN, MS_6, OT, SC], [r0, r1, r2, r3, w, r5, r6, r7, r8], Lg)) o from ev_t (c := p2 ≠ 0) _ _ 2  zc12 e (fun n => Eq.refl _)
        have ze13 := Option.some.inj h
        subst ze13
        exact ev_rete 3 ho (fun n => Eq.refl _)
      · have h := itn h zc12
        suffices e : Ev (d + 17, 0, 0, 105, 60, [.val (.ref 1088), .val (.int p1), .val (.int p2)], [], (126, 120, L, [Y, T, HA, HB, RA, RB, ST, NS, I0, I1, I2, BO, FI, RG, GU, PU, MA_5, MN, MS_6, OT, SC], [r0, r1, r2, r3, w, r5, r6, r7, r8], Lg)) o from ev_f (c := p2 ≠ 0) _ _ 2  zc12 e (fun n => Eq.refl _)
        have ze14 := Option.some.inj h
        subst ze14
        exact ev_rete 4 ho (fun n => Eq.refl _)
    · have h := itn h zc9
      suffices e : Ev (d + 17, 0, 0, 105, 37, [.val (.ref 1088), .val (.int p1), .val (.int p2)], [], (126, 120, L, [Y, T, HA, HB, RA, RB, ST, NS, I0, I1, I2, BO, FI, RG, GU, PU, MA_5, MN, MS, OT, SC], [r0, r1, r2, r3, w, r5, r6, r7, r8], Lg)) o from ev_f (c := x4 ≠ 0) _ _ 1  zc9 e (fun n => Eq.refl _)
      have ze15 := Option.some.inj h
      subst ze15
      exact ev_rete 2 ho (fun n => Eq.refl _)
  obtain ⟨zt16, zh17, zh4⟩ := bnd zh4
  have zj18 : zt16 = .inl () → Ev (d + 17, 0, 0, 105, 28, [.val (.ref 1088), .val (.int p1), .val (.int p2)], [.ref 1088], (126, 120, L, [Y, T, HA, HB, RA, RB, ST, NS, I0, I1, I2, BO, FI, RG, GU, PU, (u2 MA 0 0 0), MN, MS, OT, SC], [r0, r1, r2, r3, w, r5, r6, r7, r8], Lg)) o := by
    intro ze19
    have zh4 := sum_l zh4 ze19
    exact ev_b 1 (zj5 0 (Option.some.inj zh4) ) (fun n => Eq.refl _)
  by_cases zc20 : x1 = 0
  · have zh17 := itp zh17 zc20
    suffices e : Ev (d + 17, 0, 0, 105, 28, [.val (.ref 1088), .val (.int p1), .val (.int p2)], [.ref 1088], (126, 120, L, [Y, T, HA, HB, RA, RB, ST, NS, I0, I1, I2, BO, FI, RG, GU, PU, (u2 MA 0 0 0), MN, MS, OT, SC], [r0, r1, r2, r3, w, r5, r6, r7, r8], Lg)) o from ev_t (c := x1 = 0) _ _ 1  zc20 e (fun n => Eq.refl _)
    exact ev_b 0 (zj18  (Option.some.inj zh17).symm ) (fun n => Eq.refl _)
  · have zh17 := itn zh17 zc20
    suffices e : Ev (d + 17, 0, 0, 105, 15, [.val (.ref 1088), .val (.int p1), .val (.int p2)], [.ref 1088], (126, 120, L, [Y, T, HA, HB, RA, RB, ST, NS, I0, I1, I2, BO, FI, RG, GU, PU, (u2 MA 0 0 0), MN, MS, OT, SC], [r0, r1, r2, r3, w, r5, r6, r7, r8], Lg)) o from ev_f (c := x1 = 0) _ _ 1  zc20 e (fun n => Eq.refl _)
    obtain ⟨x2, zh21, zh17⟩ := bnd zh17
    have zh21 : f_M_within p2 0 1 = some x2 := zh21
    have ze22 := R_f_M_within_0 (d + 16) Y T HA HB RA RB ST NS I0 I1 I2 BO FI RG GU PU (u2 MA 0 0 0) MN MS OT SC r0 r1 r2 r3 w r5 r6 r7 r8 L Lg p2 0 1 zh21
    suffices e : Ev (d + 17, 0, 0, 105, 21, [.val (.ref 1088), .val (.int p1), .val (.int p2)], [.int x2, .ref 1088], (126, 120, L, [Y, T, HA, HB, RA, RB, ST, NS, I0, I1, I2, BO, FI, RG, GU, PU, (u2 MA 0 0 0), MN, MS, OT, SC], [r0, r1, r2, r3, w, r5, r6, r7, r8], Lg)) o from ev_call (fun v μ => (d + 17, 0, 0, 105, 21, [.val (.ref 1088), .val (.int p1), .val (.int p2)], v.toList ++ [.ref 1088], μ)) 4 ze22 e (fun n => Eq.refl _)
    by_cases zc23 : x2 = 0
    · have zh17 := itp zh17 zc23
      suffices e : Ev (d + 17, 0, 0, 105, 28, [.val (.ref 1088), .val (.int p1), .val (.int p2)], [.ref 1088], (126, 120, L, [Y, T, HA, HB, RA, RB, ST, NS, I0, I1, I2, BO, FI, RG, GU, PU, (u2 MA 0 0 0), MN, MS, OT, SC], [r0, r1, r2, r3, w, r5, r6, r7, r8], Lg)) o from ev_t (c := x2 = 0) _ _ 1  zc23 e (fun n => Eq.refl _)
      exact ev_b 0 (zj18  (Option.some.inj zh17).symm ) (fun n => Eq.refl _)
    · have zh17 := itn zh17 zc23
      suffices e : Ev (d + 17, 0, 0, 105, 24, [.val (.ref 1088), .val (.int p1), .val (.int p2)], [.ref 1088], (126, 120, L, [Y, T, HA, HB, RA, RB, ST, NS, I0, I1, I2, BO, FI, RG, GU, PU, (u2 MA 0 0 0), MN, MS, OT, SC], [r0, r1, r2, r3, w, r5, r6, r7, r8], Lg)) o from ev_f (c := x2 = 0) _ _ 1  zc23 e (fun n => Eq.refl _)
      have zh24 := sum_r zh4 (Option.some.inj zh17).symm
      exact ev_b 2 (zj5 1 (Option.some.inj zh24) ) (fun n => Eq.refl _)
set_option maxRecDepth 1000000 in
set_option maxHeartbeats 4000000 in
theorem R_f_M_apartNow_0 (d : Nat) (Y T HA HB RA RB ST NS I0 I1 I2 BO FI RG GU PU MA MN MS OT SC : Nat → Nat → Int32) (r0 r1 r2 r3 w r5 r6 r7 r8 : Nat) (L : Nat) (Lg : Int64) {r : Int32 × (Nat → Nat → Int32)} (h : f_M_apartNow MA MS = some r) : Ev (d + 2, 0, 0, 106, 0, [.val (.ref 1088), .val a_unk, .val a_unk], [], (126, 120, L, [Y, T, HA, HB, RA, RB, ST, NS, I0, I1, I2, BO, FI, RG, GU, PU, MA, MN, MS, OT, SC], [r0, r1, r2, r3, w, r5, r6, r7, r8], Lg)) ((0, some (.int r.1), (126, 120, L, [Y, T, HA, HB, RA, RB, ST, NS, I0, I1, I2, BO, FI, RG, GU, PU, MA, MN, r.2, OT, SC], [r0, r1, r2, r3, w, r5, r6, r7, r8], Lg)) : AOut) := by
  suffices key : ∀ o : AOut, ((0, some (.int r.1), (126, 120, L, [Y, T, HA, HB, RA, RB, ST, NS, I0, I1, I2, BO, FI, RG, GU, PU, MA, MN, r.2, OT, SC], [r0, r1, r2, r3, w, r5, r6, r7, r8], Lg)) : AOut) = o → Ev (d + 2, 0, 0, 106, 0, [.val (.ref 1088), .val a_unk, .val a_unk], [], (126, 120, L, [Y, T, HA, HB, RA, RB, ST, NS, I0, I1, I2, BO, FI, RG, GU, PU, MA, MN, MS, OT, SC], [r0, r1, r2, r3, w, r5, r6, r7, r8], Lg)) o from key _ rfl
  intro o ho
  obtain ⟨MS_1, zh1, h⟩ := bnd h
  have zh1 : f_M_findGoals MA MS = some MS_1 := zh1
  have ze2 := R_f_M_findGoals_0 (d + 0) Y T HA HB RA RB ST NS I0 I1 I2 BO FI RG GU PU MA MN MS OT SC r0 r1 r2 r3 w r5 r6 r7 r8 L Lg zh1
  suffices e : Ev (d + 2, 0, 0, 106, 4, [.val (.ref 1088), .val a_unk, .val a_unk], [], (126, 120, L, [Y, T, HA, HB, RA, RB, ST, NS, I0, I1, I2, BO, FI, RG, GU, PU, MA, MN, MS_1, OT, SC], [r0, r1, r2, r3, w, r5, r6, r7, r8], Lg)) o from ev_call (fun v μ => (d + 2, 0, 0, 106, 4, [.val (.ref 1088), .val a_unk, .val a_unk], v.toList ++ [], μ)) 2 ze2 e (fun n => Eq.refl _)
  obtain ⟨v7, zh4, h⟩ := bnd h
  suffices e : Ev (d + 2, 0, 0, 106, 8, [.val (.ref 1088), .val (.int 0), .val (.int 0)], [], (126, 120, L, [Y, T, HA, HB, RA, RB, ST, NS, I0, I1, I2, BO, FI, RG, GU, PU, MA, MN, MS_1, OT, SC], [r0, r1, r2, r3, w, r5, r6, r7, r8], Lg)) o from ev_b 4 e (fun n => Eq.refl _)
  refine ev_loop (δ := Unit) (fun a j => (d + 2, 0, 0, 106, 8, [.val (.ref 1088), .val (.int a.1), .val (.int a.2)], [], (126, 120, L, [Y, T, HA, HB, RA, RB, ST, NS, I0, I1, I2, BO, FI, RG, GU, PU, MA, MN, MS_1, OT, SC], [r0, r1, r2, r3, w, r5, r6, r7, r8], Lg))) (fun b => ∀ s8 : Value, Ev (d + 2, 0, 0, 106, 47, [.val (.ref 1088), .val (.int b), .val s8], [], (126, 120, L, [Y, T, HA, HB, RA, RB, ST, NS, I0, I1, I2, BO, FI, RG, GU, PU, MA, MN, MS_1, OT, SC], [r0, r1, r2, r3, w, r5, r6, r7, r8], Lg)) o) ?_ a_F (0, 0) v7 zh4 ?_ ()
  · rintro ⟨v2, v3⟩ zr8 zh7 zi5 zx6 ⟨⟩
    have zh7 : f_M_apartNow_l8 MA MS_1 v2 v3 = some zr8 := zh7
    by_cases zc9 : (MA 0 26) ≤ v3
    · have zh7 := itp zh7 zc9
      suffices e : Ev (d + 2, 0, 0, 106, 47, [.val (.ref 1088), .val (.int v2), .val (.int v3)], [], (126, 120, L, [Y, T, HA, HB, RA, RB, ST, NS, I0, I1, I2, BO, FI, RG, GU, PU, MA, MN, MS_1, OT, SC], [r0, r1, r2, r3, w, r5, r6, r7, r8], Lg)) o from ev_t (c := (MA 0 26) ≤ v3) _ _ 4  zc9 e (fun n => Eq.refl _)
      exact ev_b 0 (zx6 _ (Option.some.inj zh7).symm (.int v3)) (fun n => Eq.refl _)
    · have zh7 := itn zh7 zc9
      suffices e : Ev (d + 2, 0, 0, 106, 16, [.val (.ref 1088), .val (.int v2), .val (.int v3)], [], (126, 120, L, [Y, T, HA, HB, RA, RB, ST, NS, I0, I1, I2, BO, FI, RG, GU, PU, MA, MN, MS_1, OT, SC], [r0, r1, r2, r3, w, r5, r6, r7, r8], Lg)) o from ev_f (c := (MA 0 26) ≤ v3) _ _ 4  zc9 e (fun n => Eq.refl _)
      obtain ⟨x4, zh10, zh7⟩ := bnd zh7
      have zh10 : rdx (MS_1 1) 10 v3 = some x4 := zh10
      suffices e : Ev (d + 2, 0, 0, 106, 23, [.val (.ref 1088), .val (.int v2), .val (.int v3)], [.int x4, .int v2], (126, 120, L, [Y, T, HA, HB, RA, RB, ST, NS, I0, I1, I2, BO, FI, RG, GU, PU, MA, MN, MS_1, OT, SC], [r0, r1, r2, r3, w, r5, r6, r7, r8], Lg)) o from ev_opt (fun x4 => (d + 2, 0, 0, 106, 23, [.val (.ref 1088), .val (.int v2), .val (.int v3)], [.int x4, .int v2], (126, 120, L, [Y, T, HA, HB, RA, RB, ST, NS, I0, I1, I2, BO, FI, RG, GU, PU, MA, MN, MS_1, OT, SC], [r0, r1, r2, r3, w, r5, r6, r7, r8], Lg))) 5 zh10 e (fun n => Eq.refl _)
      obtain ⟨x5, zh11, zh7⟩ := bnd zh7
      have zh11 : rdx (MA 7) 10 v3 = some x5 := zh11
      suffices e : Ev (d + 2, 0, 0, 106, 29, [.val (.ref 1088), .val (.int v2), .val (.int v3)], [.int x5, .int x4, .int v2], (126, 120, L, [Y, T, HA, HB, RA, RB, ST, NS, I0, I1, I2, BO, FI, RG, GU, PU, MA, MN, MS_1, OT, SC], [r0, r1, r2, r3, w, r5, r6, r7, r8], Lg)) o from ev_opt (fun x5 => (d + 2, 0, 0, 106, 29, [.val (.ref 1088), .val (.int v2), .val (.int v3)], [.int x5, .int x4, .int v2], (126, 120, L, [Y, T, HA, HB, RA, RB, ST, NS, I0, I1, I2, BO, FI, RG, GU, PU, MA, MN, MS_1, OT, SC], [r0, r1, r2, r3, w, r5, r6, r7, r8], Lg))) 4 zh11 e (fun n => Eq.refl _)
      obtain ⟨zt12, zh13, zh7⟩ := bnd zh7
      have zj14 : ∀ (v6 : Int32), v6 = zt12 → Ev (d + 2, 0, 0, 106, 39, [.val (.ref 1088), .val (.int v2), .val (.int v3)], [.int v6, .int v2], (126, 120, L, [Y, T, HA, HB, RA, RB, ST, NS, I0, I1, I2, BO, FI, RG, GU, PU, MA, MN, MS_1, OT, SC], [r0, r1, r2, r3, w, r5, r6, r7, r8], Lg)) o := by
        intro v6 ze15
        subst ze15
        exact ev_b 4 (zi5 _ (Option.some.inj zh7).symm ()) (fun n => Eq.refl _)
      by_cases zc16 : x4 = x5
      · have zh13 := itp zh13 zc16
        suffices e : Ev (d + 2, 0, 0, 106, 38, [.val (.ref 1088), .val (.int v2), .val (.int v3)], [.int v2], (126, 120, L, [Y, T, HA, HB, RA, RB, ST, NS, I0, I1, I2, BO, FI, RG, GU, PU, MA, MN, MS_1, OT, SC], [r0, r1, r2, r3, w, r5, r6, r7, r8], Lg)) o from ev_t (c := x4 = x5) _ _ 1  zc16 e (fun n => Eq.refl _)
        exact ev_b 1 (zj14 0 (Option.some.inj zh13) ) (fun n => Eq.refl _)
      · have zh13 := itn zh13 zc16
        suffices e : Ev (d + 2, 0, 0, 106, 32, [.val (.ref 1088), .val (.int v2), .val (.int v3)], [.int v2], (126, 120, L, [Y, T, HA, HB, RA, RB, ST, NS, I0, I1, I2, BO, FI, RG, GU, PU, MA, MN, MS_1, OT, SC], [r0, r1, r2, r3, w, r5, r6, r7, r8], Lg)) o from ev_f (c := x4 = x5) _ _ 1  zc16 e (fun n => Eq.refl _)
        exact ev_b 4 (zj14 (a_shl 1 v3) (Option.some.inj zh13) ) (fun n => Eq.refl _)
  · skip
    intro s8
    have ze17 := Option.some.inj h
    subst ze17
    exact ev_rete 2 ho (fun n => Eq.refl _)
set_option maxRecDepth 1000000 in
set_option maxHeartbeats 4000000 in
theorem R_f_M_apart_0 (d : Nat) (Y T HA HB RA RB ST NS I0 I1 I2 BO FI RG GU PU MA MN MS OT SC : Nat → Nat → Int32) (r0 r1 r2 r3 w r5 r6 r7 r8 : Nat) (L : Nat) (Lg : Int64) {r : Int32 × (Nat → Nat → Int32) × (Nat → Nat → Int32)} (h : f_M_apart MA MS = some r) : Ev (d + 3, 0, 0, 107, 0, [.val (.ref 1088)], [], (126, 120, L, [Y, T, HA, HB, RA, RB, ST, NS, I0, I1, I2, BO, FI, RG, GU, PU, MA, MN, MS, OT, SC], [r0, r1, r2, r3, w, r5, r6, r7, r8], Lg)) ((0, some (.int r.1), (126, 120, L, [Y, T, HA, HB, RA, RB, ST, NS, I0, I1, I2, BO, FI, RG, GU, PU, r.2.1, MN, r.2.2, OT, SC], [r0, r1, r2, r3, w, r5, r6, r7, r8], Lg)) : AOut) := by
  suffices key : ∀ o : AOut, ((0, some (.int r.1), (126, 120, L, [Y, T, HA, HB, RA, RB, ST, NS, I0, I1, I2, BO, FI, RG, GU, PU, r.2.1, MN, r.2.2, OT, SC], [r0, r1, r2, r3, w, r5, r6, r7, r8], Lg)) : AOut) = o → Ev (d + 3, 0, 0, 107, 0, [.val (.ref 1088)], [], (126, 120, L, [Y, T, HA, HB, RA, RB, ST, NS, I0, I1, I2, BO, FI, RG, GU, PU, MA, MN, MS, OT, SC], [r0, r1, r2, r3, w, r5, r6, r7, r8], Lg)) o from key _ rfl
  intro o ho
  obtain ⟨⟨x1, MS_2⟩, zh1, h⟩ := bnd h
  have zh1 : f_M_apartNow (u2 MA 0 0 0) MS = some (x1, MS_2) := zh1
  have ze2 := R_f_M_apartNow_0 (d + 0) Y T HA HB RA RB ST NS I0 I1 I2 BO FI RG GU PU (u2 MA 0 0 0) MN MS OT SC r0 r1 r2 r3 w r5 r6 r7 r8 L Lg zh1
  suffices e : Ev (d + 3, 0, 0, 107, 9, [.val (.ref 1088)], [.int x1], (126, 120, L, [Y, T, HA, HB, RA, RB, ST, NS, I0, I1, I2, BO, FI, RG, GU, PU, (u2 MA 0 0 0), MN, MS_2, OT, SC], [r0, r1, r2, r3, w, r5, r6, r7, r8], Lg)) o from ev_call (fun v μ => (d + 3, 0, 0, 107, 9, [.val (.ref 1088)], v.toList ++ [], μ)) 5 ze2 e (fun n => Eq.refl _)
  have ze3 := Option.some.inj h
  subst ze3
  exact ev_rete 1 ho (fun n => Eq.refl _)
set_option maxRecDepth 1000000 in
set_option maxHeartbeats 4000000 in
theorem R_f_M_clashOf_2 (d : Nat) (Y T HA HB RA RB ST NS I0 I1 I2 BO FI RG GU PU MA MN MS OT SC : Nat → Nat → Int32) (r0 r1 r2 r3 w r5 r6 r7 r8 : Nat) (L : Nat) (Lg : Int64) (p1 : Int32) (p2 : Int32) {r : Int32} (h : f_M_clashOf MA p1 p2 (MS 1) = some r) : Ev (d + 2, 0, 0, 68, 0, [.val (.ref 1088), .val (.int p1), .val (.int p2), .val (.ref 1217), .val a_unk, .val a_unk], [], (126, 120, L, [Y, T, HA, HB, RA, RB, ST, NS, I0, I1, I2, BO, FI, RG, GU, PU, MA, MN, MS, OT, SC], [r0, r1, r2, r3, w, r5, r6, r7, r8], Lg)) ((0, some (.int r), (126, 120, L, [Y, T, HA, HB, RA, RB, ST, NS, I0, I1, I2, BO, FI, RG, GU, PU, MA, MN, MS, OT, SC], [r0, r1, r2, r3, w, r5, r6, r7, r8], Lg)) : AOut) := by
  suffices key : ∀ o : AOut, ((0, some (.int r), (126, 120, L, [Y, T, HA, HB, RA, RB, ST, NS, I0, I1, I2, BO, FI, RG, GU, PU, MA, MN, MS, OT, SC], [r0, r1, r2, r3, w, r5, r6, r7, r8], Lg)) : AOut) = o → Ev (d + 2, 0, 0, 68, 0, [.val (.ref 1088), .val (.int p1), .val (.int p2), .val (.ref 1217), .val a_unk, .val a_unk], [], (126, 120, L, [Y, T, HA, HB, RA, RB, ST, NS, I0, I1, I2, BO, FI, RG, GU, PU, MA, MN, MS, OT, SC], [r0, r1, r2, r3, w, r5, r6, r7, r8], Lg)) o from key _ rfl
  intro o ho
  obtain ⟨x1, zh1, h⟩ := bnd h
  have zh1 : f_M_ownClash MA p1 p2 = some x1 := zh1
  have ze2 := R_f_M_ownClash_0 (d + 0) Y T HA HB RA RB ST NS I0 I1 I2 BO FI RG GU PU MA MN MS OT SC r0 r1 r2 r3 w r5 r6 r7 r8 L Lg p1 p2 zh1
  suffices e : Ev (d + 2, 0, 0, 68, 6, [.val (.ref 1088), .val (.int p1), .val (.int p2), .val (.ref 1217), .val a_unk, .val a_unk], [.int x1], (126, 120, L, [Y, T, HA, HB, RA, RB, ST, NS, I0, I1, I2, BO, FI, RG, GU, PU, MA, MN, MS, OT, SC], [r0, r1, r2, r3, w, r5, r6, r7, r8], Lg)) o from ev_call (fun v μ => (d + 2, 0, 0, 68, 6, [.val (.ref 1088), .val (.int p1), .val (.int p2), .val (.ref 1217), .val a_unk, .val a_unk], v.toList ++ [], μ)) 4 ze2 e (fun n => Eq.refl _)
  obtain ⟨v6, zh4, h⟩ := bnd h
  suffices e : Ev (d + 2, 0, 0, 68, 11, [.val (.ref 1088), .val (.int p1), .val (.int p2), .val (.ref 1217), .val (.int x1), .val (.int 0)], [], (126, 120, L, [Y, T, HA, HB, RA, RB, ST, NS, I0, I1, I2, BO, FI, RG, GU, PU, MA, MN, MS, OT, SC], [r0, r1, r2, r3, w, r5, r6, r7, r8], Lg)) o from ev_b 3 e (fun n => Eq.refl _)
  refine ev_loop (δ := Unit) (fun a j => (d + 2, 0, 0, 68, 11, [.val (.ref 1088), .val (.int p1), .val (.int p2), .val (.ref 1217), .val (.int a.1), .val (.int a.2)], [], (126, 120, L, [Y, T, HA, HB, RA, RB, ST, NS, I0, I1, I2, BO, FI, RG, GU, PU, MA, MN, MS, OT, SC], [r0, r1, r2, r3, w, r5, r6, r7, r8], Lg))) (fun b => ∀ s7 : Value, Ev (d + 2, 0, 0, 68, 43, [.val (.ref 1088), .val (.int p1), .val (.int p2), .val (.ref 1217), .val (.int b), .val s7], [], (126, 120, L, [Y, T, HA, HB, RA, RB, ST, NS, I0, I1, I2, BO, FI, RG, GU, PU, MA, MN, MS, OT, SC], [r0, r1, r2, r3, w, r5, r6, r7, r8], Lg)) o) ?_ a_F (x1, 0) v6 zh4 ?_ ()
  · rintro ⟨v2, v3⟩ zr8 zh7 zi5 zx6 ⟨⟩
    have zh7 : f_M_clashOf_l11 MA (MS 1) p1 p2 v2 v3 = some zr8 := zh7
    by_cases zc9 : (MA 0 26) ≤ v3
    · have zh7 := itp zh7 zc9
      suffices e : Ev (d + 2, 0, 0, 68, 43, [.val (.ref 1088), .val (.int p1), .val (.int p2), .val (.ref 1217), .val (.int v2), .val (.int v3)], [], (126, 120, L, [Y, T, HA, HB, RA, RB, ST, NS, I0, I1, I2, BO, FI, RG, GU, PU, MA, MN, MS, OT, SC], [r0, r1, r2, r3, w, r5, r6, r7, r8], Lg)) o from ev_t (c := (MA 0 26) ≤ v3) _ _ 4  zc9 e (fun n => Eq.refl _)
      exact ev_b 0 (zx6 _ (Option.some.inj zh7).symm (.int v3)) (fun n => Eq.refl _)
    · have zh7 := itn zh7 zc9
      suffices e : Ev (d + 2, 0, 0, 68, 20, [.val (.ref 1088), .val (.int p1), .val (.int p2), .val (.ref 1217), .val (.int v2), .val (.int v3)], [], (126, 120, L, [Y, T, HA, HB, RA, RB, ST, NS, I0, I1, I2, BO, FI, RG, GU, PU, MA, MN, MS, OT, SC], [r0, r1, r2, r3, w, r5, r6, r7, r8], Lg)) o from ev_f (c := (MA 0 26) ≤ v3) _ _ 4  zc9 e (fun n => Eq.refl _)
      obtain ⟨x4, zh10, zh7⟩ := bnd zh7
      have zh10 : rdx (MS 1) 10 v3 = some x4 := zh10
      suffices e : Ev (d + 2, 0, 0, 68, 31, [.val (.ref 1088), .val (.int p1), .val (.int p2), .val (.ref 1217), .val (.int v2), .val (.int v3)], [.int x4, .int v3, .int p2, .int p1, .ref 1088, .int v2], (126, 120, L, [Y, T, HA, HB, RA, RB, ST, NS, I0, I1, I2, BO, FI, RG, GU, PU, MA, MN, MS, OT, SC], [r0, r1, r2, r3, w, r5, r6, r7, r8], Lg)) o from ev_opt (fun x4 => (d + 2, 0, 0, 68, 31, [.val (.ref 1088), .val (.int p1), .val (.int p2), .val (.ref 1217), .val (.int v2), .val (.int v3)], [.int x4, .int v3, .int p2, .int p1, .ref 1088, .int v2], (126, 120, L, [Y, T, HA, HB, RA, RB, ST, NS, I0, I1, I2, BO, FI, RG, GU, PU, MA, MN, MS, OT, SC], [r0, r1, r2, r3, w, r5, r6, r7, r8], Lg))) 8 zh10 e (fun n => Eq.refl _)
      obtain ⟨x5, zh11, zh7⟩ := bnd zh7
      have zh11 : f_M_clashWith MA p1 p2 v3 x4 = some x5 := zh11
      have ze12 := R_f_M_clashWith_0 (d + 1) Y T HA HB RA RB ST NS I0 I1 I2 BO FI RG GU PU MA MN MS OT SC r0 r1 r2 r3 w r5 r6 r7 r8 L Lg p1 p2 v3 x4 zh11
      suffices e : Ev (d + 2, 0, 0, 68, 34, [.val (.ref 1088), .val (.int p1), .val (.int p2), .val (.ref 1217), .val (.int v2), .val (.int v3)], [.int x5, .int v2], (126, 120, L, [Y, T, HA, HB, RA, RB, ST, NS, I0, I1, I2, BO, FI, RG, GU, PU, MA, MN, MS, OT, SC], [r0, r1, r2, r3, w, r5, r6, r7, r8], Lg)) o from ev_call (fun v μ => (d + 2, 0, 0, 68, 34, [.val (.ref 1088), .val (.int p1), .val (.int p2), .val (.ref 1217), .val (.int v2), .val (.int v3)], v.toList ++ [.int v2], μ)) 1 ze12 e (fun n => Eq.refl _)
      exact ev_b 4 (zi5 _ (Option.some.inj zh7).symm ()) (fun n => Eq.refl _)
  · skip
    intro s7
    have ze13 := Option.some.inj h
    subst ze13
    exact ev_rete 2 ho (fun n => Eq.refl _)
set_option maxRecDepth 1000000 in
set_option maxHeartbeats 4000000 in
theorem R_f_M_isLawful_1 (d : Nat) (Y T HA HB RA RB ST NS I0 I1 I2 BO FI RG GU PU MA MN MS OT SC : Nat → Nat → Int32) (r0 r1 r2 r3 w r5 r6 r7 r8 : Nat) (L : Nat) (Lg : Int64) {r : Int32} (h : f_M_isLawful MA (MS 1) = some r) : Ev (d + 3, 0, 0, 69, 0, [.val (.ref 1088), .val (.ref 1217), .val a_unk], [], (126, 120, L, [Y, T, HA, HB, RA, RB, ST, NS, I0, I1, I2, BO, FI, RG, GU, PU, MA, MN, MS, OT, SC], [r0, r1, r2, r3, w, r5, r6, r7, r8], Lg)) ((0, some (.int r), (126, 120, L, [Y, T, HA, HB, RA, RB, ST, NS, I0, I1, I2, BO, FI, RG, GU, PU, MA, MN, MS, OT, SC], [r0, r1, r2, r3, w, r5, r6, r7, r8], Lg)) : AOut) := by
  suffices key : ∀ o : AOut, ((0, some (.int r), (126, 120, L, [Y, T, HA, HB, RA, RB, ST, NS, I0, I1, I2, BO, FI, RG, GU, PU, MA, MN, MS, OT, SC], [r0, r1, r2, r3, w, r5, r6, r7, r8], Lg)) : AOut) = o → Ev (d + 3, 0, 0, 69, 0, [.val (.ref 1088), .val (.ref 1217), .val a_unk], [], (126, 120, L, [Y, T, HA, HB, RA, RB, ST, NS, I0, I1, I2, BO, FI, RG, GU, PU, MA, MN, MS, OT, SC], [r0, r1, r2, r3, w, r5, r6, r7, r8], Lg)) o from key _ rfl
  intro o ho
  obtain ⟨zb1, zh2, h⟩ := bnd h
  suffices e : Ev (d + 3, 0, 0, 69, 2, [.val (.ref 1088), .val (.ref 1217), .val (.int 0)], [], (126, 120, L, [Y, T, HA, HB, RA, RB, ST, NS, I0, I1, I2, BO, FI, RG, GU, PU, MA, MN, MS, OT, SC], [r0, r1, r2, r3, w, r5, r6, r7, r8], Lg)) o from ev_b 2 e (fun n => Eq.refl _)
  refine ev_loop (δ := Unit) (fun a j => (d + 3, 0, 0, 69, 2, [.val (.ref 1088), .val (.ref 1217), .val (.int a)], [], (126, 120, L, [Y, T, HA, HB, RA, RB, ST, NS, I0, I1, I2, BO, FI, RG, GU, PU, MA, MN, MS, OT, SC], [r0, r1, r2, r3, w, r5, r6, r7, r8], Lg))) (fun b => sumE b (fun b => ∀ s5 : Value, Ev (d + 3, 0, 0, 69, 37, [.val (.ref 1088), .val (.ref 1217), .val s5], [], (126, 120, L, [Y, T, HA, HB, RA, RB, ST, NS, I0, I1, I2, BO, FI, RG, GU, PU, MA, MN, MS, OT, SC], [r0, r1, r2, r3, w, r5, r6, r7, r8], Lg)) o) (fun b => ((0, some (.int b), (126, 120, L, [Y, T, HA, HB, RA, RB, ST, NS, I0, I1, I2, BO, FI, RG, GU, PU, MA, MN, MS, OT, SC], [r0, r1, r2, r3, w, r5, r6, r7, r8], Lg)) : AOut) = o)) ?_ a_F 0 zb1 zh2 ?_ ()
  · rintro v1 zr6 zh5 zi3 zx4 ⟨⟩
    have zh5 : f_M_isLawful_l2 MA (MS 1) v1 = some zr6 := zh5
    by_cases zc7 : (MA 0 26) ≤ v1
    · have zh5 := itp zh5 zc7
      suffices e : Ev (d + 3, 0, 0, 69, 37, [.val (.ref 1088), .val (.ref 1217), .val (.int v1)], [], (126, 120, L, [Y, T, HA, HB, RA, RB, ST, NS, I0, I1, I2, BO, FI, RG, GU, PU, MA, MN, MS, OT, SC], [r0, r1, r2, r3, w, r5, r6, r7, r8], Lg)) o from ev_t (c := (MA 0 26) ≤ v1) _ _ 4  zc7 e (fun n => Eq.refl _)
      exact ev_b 0 (zx4 _ (Option.some.inj zh5).symm (.int v1)) (fun n => Eq.refl _)
    · have zh5 := itn zh5 zc7
      suffices e : Ev (d + 3, 0, 0, 69, 10, [.val (.ref 1088), .val (.ref 1217), .val (.int v1)], [], (126, 120, L, [Y, T, HA, HB, RA, RB, ST, NS, I0, I1, I2, BO, FI, RG, GU, PU, MA, MN, MS, OT, SC], [r0, r1, r2, r3, w, r5, r6, r7, r8], Lg)) o from ev_f (c := (MA 0 26) ≤ v1) _ _ 4  zc7 e (fun n => Eq.refl _)
      obtain ⟨x2, zh8, zh5⟩ := bnd zh5
      have zh8 : rdx (MS 1) 10 v1 = some x2 := zh8
      suffices e : Ev (d + 3, 0, 0, 69, 13, [.val (.ref 1088), .val (.ref 1217), .val (.int v1)], [.int x2], (126, 120, L, [Y, T, HA, HB, RA, RB, ST, NS, I0, I1, I2, BO, FI, RG, GU, PU, MA, MN, MS, OT, SC], [r0, r1, r2, r3, w, r5, r6, r7, r8], Lg)) o from ev_opt (fun x2 => (d + 3, 0, 0, 69, 13, [.val (.ref 1088), .val (.ref 1217), .val (.int v1)], [.int x2], (126, 120, L, [Y, T, HA, HB, RA, RB, ST, NS, I0, I1, I2, BO, FI, RG, GU, PU, MA, MN, MS, OT, SC], [r0, r1, r2, r3, w, r5, r6, r7, r8], Lg))) 3 zh8 e (fun n => Eq.refl _)
      by_cases zc9 : x2 = (-1)
      · have zh5 := itp zh5 zc9
        suffices e : Ev (d + 3, 0, 0, 69, 31, [.val (.ref 1088), .val (.ref 1217), .val (.int v1)], [], (126, 120, L, [Y, T, HA, HB, RA, RB, ST, NS, I0, I1, I2, BO, FI, RG, GU, PU, MA, MN, MS, OT, SC], [r0, r1, r2, r3, w, r5, r6, r7, r8], Lg)) o from ev_t (c := x2 = (-1)) _ _ 2  zc9 e (fun n => Eq.refl _)
        exact ev_b 2 (zi3 _ (Option.some.inj zh5).symm ()) (fun n => Eq.refl _)
      · have zh5 := itn zh5 zc9
        suffices e : Ev (d + 3, 0, 0, 69, 17, [.val (.ref 1088), .val (.ref 1217), .val (.int v1)], [], (126, 120, L, [Y, T, HA, HB, RA, RB, ST, NS, I0, I1, I2, BO, FI, RG, GU, PU, MA, MN, MS, OT, SC], [r0, r1, r2, r3, w, r5, r6, r7, r8], Lg)) o from ev_f (c := x2 = (-1)) _ _ 2  zc9 e (fun n => Eq.refl _)
        obtain ⟨x3, zh10, zh5⟩ := bnd zh5
        have zh10 : rdx (MS 1) 10 v1 = some x3 := zh10
        suffices e : Ev (d + 3, 0, 0, 69, 22, [.val (.ref 1088), .val (.ref 1217), .val (.int v1)], [.int x3, .int v1, .ref 1088], (126, 120, L, [Y, T, HA, HB, RA, RB, ST, NS, I0, I1, I2, BO, FI, RG, GU, PU, MA, MN, MS, OT, SC], [r0, r1, r2, r3, w, r5, r6, r7, r8], Lg)) o from ev_opt (fun x3 => (d + 3, 0, 0, 69, 22, [.val (.ref 1088), .val (.ref 1217), .val (.int v1)], [.int x3, .int v1, .ref 1088], (126, 120, L, [Y, T, HA, HB, RA, RB, ST, NS, I0, I1, I2, BO, FI, RG, GU, PU, MA, MN, MS, OT, SC], [r0, r1, r2, r3, w, r5, r6, r7, r8], Lg))) 5 zh10 e (fun n => Eq.refl _)
        obtain ⟨x4, zh11, zh5⟩ := bnd zh5
        have zh11 : f_M_clashOf MA v1 x3 (MS 1) = some x4 := zh11
        have ze12 := R_f_M_clashOf_2 (d + 0) Y T HA HB RA RB ST NS I0 I1 I2 BO FI RG GU PU MA MN MS OT SC r0 r1 r2 r3 w r5 r6 r7 r8 L Lg v1 x3 zh11
        suffices e : Ev (d + 3, 0, 0, 69, 26, [.val (.ref 1088), .val (.ref 1217), .val (.int v1)], [.int x4], (126, 120, L, [Y, T, HA, HB, RA, RB, ST, NS, I0, I1, I2, BO, FI, RG, GU, PU, MA, MN, MS, OT, SC], [r0, r1, r2, r3, w, r5, r6, r7, r8], Lg)) o from ev_call (fun v μ => (d + 3, 0, 0, 69, 26, [.val (.ref 1088), .val (.ref 1217), .val (.int v1)], v.toList ++ [], μ)) 2 ze12 e (fun n => Eq.refl _)
        by_cases zc13 : x4 = 0
        · have zh5 := itp zh5 zc13
          suffices e : Ev (d + 3, 0, 0, 69, 31, [.val (.ref 1088), .val (.ref 1217), .val (.int v1)], [], (126, 120, L, [Y, T, HA, HB, RA, RB, ST, NS, I0, I1, I2, BO, FI, RG, GU, PU, MA, MN, MS, OT, SC], [r0, r1, r2, r3, w, r5, r6, r7, r8], Lg)) o from ev_t (c := x4 = 0) _ _ 1  zc13 e (fun n => Eq.refl _)
          exact ev_b 2 (zi3 _ (Option.some.inj zh5).symm ()) (fun n => Eq.refl _)
        · have zh5 := itn zh5 zc13
          suffices e : Ev (d + 3, 0, 0, 69, 29, [.val (.ref 1088), .val (.ref 1217), .val (.int v1)], [], (126, 120, L, [Y, T, HA, HB, RA, RB, ST, NS, I0, I1, I2, BO, FI, RG, GU, PU, MA, MN, MS, OT, SC], [r0, r1, r2, r3, w, r5, r6, r7, r8], Lg)) o from ev_f (c := x4 = 0) _ _ 1  zc13 e (fun n => Eq.refl _)
          exact ev_rete 2 (zx4 _ (Option.some.inj zh5).symm) (fun n => Eq.refl _)
  · rcases zb1 with ⟨⟩ | zr6
    · intro s5
      have ze14 := Option.some.inj h
      subst ze14
      exact ev_rete 2 ho (fun n => Eq.refl _)
    · have zh15 : some zr6 = some r := h
      exact (congrArg (fun q => ((0, some (.int q), (126, 120, L, [Y, T, HA, HB, RA, RB, ST, NS, I0, I1, I2, BO, FI, RG, GU, PU, MA, MN, MS, OT, SC], [r0, r1, r2, r3, w, r5, r6, r7, r8], Lg)) : AOut)) (Option.some.inj zh15)).trans ho
set_option maxRecDepth 1000000 in
set_option maxHeartbeats 4000000 in
theorem R_f_M_once_0 (d : Nat) (Y T HA HB RA RB ST NS I0 I1 I2 BO FI RG GU PU MA MN MS OT SC : Nat → Nat → Int32) (r0 r1 r2 r3 w r5 r6 r7 r8 : Nat) (L : Nat) (Lg : Int64) {r : Int32 × (Nat → Nat → Int32) × (Nat → Nat → Int32)} (h : f_M_once MA MS = some r) : Ev (d + 4, 0, 0, 108, 0, [.val (.ref 1088)], [], (126, 120, L, [Y, T, HA, HB, RA, RB, ST, NS, I0, I1, I2, BO, FI, RG, GU, PU, MA, MN, MS, OT, SC], [r0, r1, r2, r3, w, r5, r6, r7, r8], Lg)) ((0, some (.int r.1), (126, 120, L, [Y, T, HA, HB, RA, RB, ST, NS, I0, I1, I2, BO, FI, RG, GU, PU, r.2.1, MN, r.2.2, OT, SC], [r0, r1, r2, r3, w, r5, r6, r7, r8], Lg)) : AOut) := by
  suffices key : ∀ o : AOut, ((0, some (.int r.1), (126, 120, L, [Y, T, HA, HB, RA, RB, ST, NS, I0, I1, I2, BO, FI, RG, GU, PU, r.2.1, MN, r.2.2, OT, SC], [r0, r1, r2, r3, w, r5, r6, r7, r8], Lg)) : AOut) = o → Ev (d + 4, 0, 0, 108, 0, [.val (.ref 1088)], [], (126, 120, L, [Y, T, HA, HB, RA, RB, ST, NS, I0, I1, I2, BO, FI, RG, GU, PU, MA, MN, MS, OT, SC], [r0, r1, r2, r3, w, r5, r6, r7, r8], Lg)) o from key _ rfl
  intro o ho
  obtain ⟨MS_1, zh1, h⟩ := bnd h
  have zh1 : f_M_findGoals (u2 MA 0 0 0) MS = some MS_1 := zh1
  have ze2 := R_f_M_findGoals_0 (d + 2) Y T HA HB RA RB ST NS I0 I1 I2 BO FI RG GU PU (u2 MA 0 0 0) MN MS OT SC r0 r1 r2 r3 w r5 r6 r7 r8 L Lg zh1
  suffices e : Ev (d + 4, 0, 0, 108, 9, [.val (.ref 1088)], [], (126, 120, L, [Y, T, HA, HB, RA, RB, ST, NS, I0, I1, I2, BO, FI, RG, GU, PU, (u2 MA 0 0 0), MN, MS_1, OT, SC], [r0, r1, r2, r3, w, r5, r6, r7, r8], Lg)) o from ev_call (fun v μ => (d + 4, 0, 0, 108, 9, [.val (.ref 1088)], v.toList ++ [], μ)) 5 ze2 e (fun n => Eq.refl _)
  obtain ⟨x2, zh3, h⟩ := bnd h
  have zh3 : f_M_isLawful (u2 MA 0 0 0) (MS_1 1) = some x2 := zh3
  have ze4 := R_f_M_isLawful_1 (d + 0) Y T HA HB RA RB ST NS I0 I1 I2 BO FI RG GU PU (u2 MA 0 0 0) MN MS_1 OT SC r0 r1 r2 r3 w r5 r6 r7 r8 L Lg zh3
  suffices e : Ev (d + 4, 0, 0, 108, 17, [.val (.ref 1088)], [.int x2], (126, 120, L, [Y, T, HA, HB, RA, RB, ST, NS, I0, I1, I2, BO, FI, RG, GU, PU, (u2 MA 0 0 0), MN, MS_1, OT, SC], [r0, r1, r2, r3, w, r5, r6, r7, r8], Lg)) o from ev_call (fun v μ => (d + 4, 0, 0, 108, 17, [.val (.ref 1088)], v.toList ++ [], μ)) 4 ze4 e (fun n => Eq.refl _)
  have ze5 := Option.some.inj h
  subst ze5
  exact ev_rete 1 ho (fun n => Eq.refl _)
set_option maxRecDepth 1000000 in
set_option maxHeartbeats 4000000 in
theorem R_f_M_goneBy_0 (d : Nat) (Y T HA HB RA RB ST NS I0 I1 I2 BO FI RG GU PU MA MN MS OT SC : Nat → Nat → Int32) (r0 r1 r2 r3 w r5 r6 r7 r8 : Nat) (L : Nat) (Lg : Int64) (p1 : Int32) {r : (Nat → Nat → Int32)} (h : f_M_goneBy MA MS p1 = some r) : Ev (d + 0, 0, 0, 109, 0, [.val (.ref 1088), .val (.int p1), .val a_unk], [], (126, 120, L, [Y, T, HA, HB, RA, RB, ST, NS, I0, I1, I2, BO, FI, RG, GU, PU, MA, MN, MS, OT, SC], [r0, r1, r2, r3, w, r5, r6, r7, r8], Lg)) ((0, none, (126, 120, L, [Y, T, HA, HB, RA, RB, ST, NS, I0, I1, I2, BO, FI, RG, GU, PU, MA, MN, r, OT, SC], [r0, r1, r2, r3, w, r5, r6, r7, r8], Lg)) : AOut) := by
  suffices key : ∀ o : AOut, ((0, none, (126, 120, L, [Y, T, HA, HB, RA, RB, ST, NS, I0, I1, I2, BO, FI, RG, GU, PU, MA, MN, r, OT, SC], [r0, r1, r2, r3, w, r5, r6, r7, r8], Lg)) : AOut) = o → Ev (d + 0, 0, 0, 109, 0, [.val (.ref 1088), .val (.int p1), .val a_unk], [], (126, 120, L, [Y, T, HA, HB, RA, RB, ST, NS, I0, I1, I2, BO, FI, RG, GU, PU, MA, MN, MS, OT, SC], [r0, r1, r2, r3, w, r5, r6, r7, r8], Lg)) o from key _ rfl
  intro o ho
  obtain ⟨MS_8, zh2, h⟩ := bnd h
  suffices e : Ev (d + 0, 0, 0, 109, 2, [.val (.ref 1088), .val (.int p1), .val (.int 0)], [], (126, 120, L, [Y, T, HA, HB, RA, RB, ST, NS, I0, I1, I2, BO, FI, RG, GU, PU, MA, MN, MS, OT, SC], [r0, r1, r2, r3, w, r5, r6, r7, r8], Lg)) o from ev_b 2 e (fun n => Eq.refl _)
  refine ev_loop (δ := Unit) (fun a j => (d + 0, 0, 0, 109, 2, [.val (.ref 1088), .val (.int p1), .val (.int a.1)], [], (126, 120, L, [Y, T, HA, HB, RA, RB, ST, NS, I0, I1, I2, BO, FI, RG, GU, PU, MA, MN, a.2, OT, SC], [r0, r1, r2, r3, w, r5, r6, r7, r8], Lg))) (fun b => ∀ s7 : Value, Ev (d + 0, 0, 0, 109, 44, [.val (.ref 1088), .val (.int p1), .val s7], [], (126, 120, L, [Y, T, HA, HB, RA, RB, ST, NS, I0, I1, I2, BO, FI, RG, GU, PU, MA, MN, b, OT, SC], [r0, r1, r2, r3, w, r5, r6, r7, r8], Lg)) o) ?_ a_F (0, MS) MS_8 zh2 ?_ ()
  · rintro ⟨v1, MS_2⟩ zr6 zh5 zi3 zx4 ⟨⟩
    have zh5 : f_M_goneBy_l2 MA p1 v1 MS_2 = some zr6 := zh5
    by_cases zc7 : 10 ≤ v1
    · have zh5 := itp zh5 zc7
      suffices e : Ev (d + 0, 0, 0, 109, 44, [.val (.ref 1088), .val (.int p1), .val (.int v1)], [], (126, 120, L, [Y, T, HA, HB, RA, RB, ST, NS, I0, I1, I2, BO, FI, RG, GU, PU, MA, MN, MS_2, OT, SC], [r0, r1, r2, r3, w, r5, r6, r7, r8], Lg)) o from ev_t (c := 10 ≤ v1) _ _ 3  zc7 e (fun n => Eq.refl _)
      exact ev_b 0 (zx4 _ (Option.some.inj zh5).symm (.int v1)) (fun n => Eq.refl _)
    · have zh5 := itn zh5 zc7
      suffices e : Ev (d + 0, 0, 0, 109, 8, [.val (.ref 1088), .val (.int p1), .val (.int v1)], [], (126, 120, L, [Y, T, HA, HB, RA, RB, ST, NS, I0, I1, I2, BO, FI, RG, GU, PU, MA, MN, MS_2, OT, SC], [r0, r1, r2, r3, w, r5, r6, r7, r8], Lg)) o from ev_f (c := 10 ≤ v1) _ _ 3  zc7 e (fun n => Eq.refl _)
      obtain ⟨zt8, zh9, zh5⟩ := bnd zh5
      have zj10 : ∀ (v5 : Int32), v5 = zt8 → Ev (d + 0, 0, 0, 109, 37, [.val (.ref 1088), .val (.int p1), .val (.int v1)], [.int v5, .int v1, .ref 1220], (126, 120, L, [Y, T, HA, HB, RA, RB, ST, NS, I0, I1, I2, BO, FI, RG, GU, PU, MA, MN, MS_2, OT, SC], [r0, r1, r2, r3, w, r5, r6, r7, r8], Lg)) o := by
        intro v5 ze11
        subst ze11
        obtain ⟨j6, zh12, zh5⟩ := bnd zh5
        have zh12 : ixx 10 v1 = some j6 := zh12
        suffices e : Ev (d + 0, 0, 0, 109, 38, [.val (.ref 1088), .val (.int p1), .val (.int v1)], [], (126, 120, L, [Y, T, HA, HB, RA, RB, ST, NS, I0, I1, I2, BO, FI, RG, GU, PU, MA, MN, (u2 MS_2 4 j6 v5), OT, SC], [r0, r1, r2, r3, w, r5, r6, r7, r8], Lg)) o from ev_opt (fun j6 => (d + 0, 0, 0, 109, 38, [.val (.ref 1088), .val (.int p1), .val (.int v1)], [], (126, 120, L, [Y, T, HA, HB, RA, RB, ST, NS, I0, I1, I2, BO, FI, RG, GU, PU, MA, MN, (u2 MS_2 4 j6 v5), OT, SC], [r0, r1, r2, r3, w, r5, r6, r7, r8], Lg))) 1 zh12 e (fun n => Eq.refl _)
        exact ev_b 2 (zi3 _ (Option.some.inj zh5).symm ()) (fun n => Eq.refl _)
      by_cases zc13 : ((a_shr p1 v1) &&& 1) ≠ 1
      · have zh9 := itp zh9 zc13
        suffices e : Ev (d + 0, 0, 0, 109, 31, [.val (.ref 1088), .val (.int p1), .val (.int v1)], [.int v1, .ref 1220], (126, 120, L, [Y, T, HA, HB, RA, RB, ST, NS, I0, I1, I2, BO, FI, RG, GU, PU, MA, MN, MS_2, OT, SC], [r0, r1, r2, r3, w, r5, r6, r7, r8], Lg)) o from ev_t (c := ((a_shr p1 v1) &&& 1) ≠ 1) _ _ 10  zc13 e (fun n => Eq.refl _)
        obtain ⟨x3, zh14, zh9⟩ := bnd zh9
        have zh14 : rdx (MA 7) 10 v1 = some x3 := zh14
        suffices e : Ev (d + 0, 0, 0, 109, 37, [.val (.ref 1088), .val (.int p1), .val (.int v1)], [.int x3, .int v1, .ref 1220], (126, 120, L, [Y, T, HA, HB, RA, RB, ST, NS, I0, I1, I2, BO, FI, RG, GU, PU, MA, MN, MS_2, OT, SC], [r0, r1, r2, r3, w, r5, r6, r7, r8], Lg)) o from ev_opt (fun x3 => (d + 0, 0, 0, 109, 37, [.val (.ref 1088), .val (.int p1), .val (.int v1)], [.int x3, .int v1, .ref 1220], (126, 120, L, [Y, T, HA, HB, RA, RB, ST, NS, I0, I1, I2, BO, FI, RG, GU, PU, MA, MN, MS_2, OT, SC], [r0, r1, r2, r3, w, r5, r6, r7, r8], Lg))) 4 zh14 e (fun n => Eq.refl _)
        exact ev_b 0 (zj10 x3 (Option.some.inj zh9) ) (fun n => Eq.refl _)
      · have zh9 := itn zh9 zc13
        suffices e : Ev (d + 0, 0, 0, 109, 22, [.val (.ref 1088), .val (.int p1), .val (.int v1)], [.int v1, .ref 1220], (126, 120, L, [Y, T, HA, HB, RA, RB, ST, NS, I0, I1, I2, BO, FI, RG, GU, PU, MA, MN, MS_2, OT, SC], [r0, r1, r2, r3, w, r5, r6, r7, r8], Lg)) o from ev_f (c := ((a_shr p1 v1) &&& 1) ≠ 1) _ _ 10  zc13 e (fun n => Eq.refl _)
        obtain ⟨x4, zh15, zh9⟩ := bnd zh9
        have zh15 : rdx (MS_2 1) 10 v1 = some x4 := zh15
        suffices e : Ev (d + 0, 0, 0, 109, 28, [.val (.ref 1088), .val (.int p1), .val (.int v1)], [.int x4, .int v1, .ref 1220], (126, 120, L, [Y, T, HA, HB, RA, RB, ST, NS, I0, I1, I2, BO, FI, RG, GU, PU, MA, MN, MS_2, OT, SC], [r0, r1, r2, r3, w, r5, r6, r7, r8], Lg)) o from ev_opt (fun x4 => (d + 0, 0, 0, 109, 28, [.val (.ref 1088), .val (.int p1), .val (.int v1)], [.int x4, .int v1, .ref 1220], (126, 120, L, [Y, T, HA, HB, RA, RB, ST, NS, I0, I1, I2, BO, FI, RG, GU, PU, MA, MN, MS_2, OT, SC], [r0, r1, r2, r3, w, r5, r6, r7, r8], Lg))) 4 zh15 e (fun n => Eq.refl _)
        exact ev_b 1 (zj10 x4 (Option.some.inj zh9) ) (fun n => Eq.refl _)
  · skip
    intro s7
    have ze16 := Option.some.inj h
    subst ze16
    exact ev_rete 1 ho (fun n => Eq.refl _)
set_option maxRecDepth 1000000 in
set_option maxHeartbeats 4000000 in
theorem R_f_M_canGo_0 (d : Nat) (Y T HA HB RA RB ST NS I0 I1 I2 BO FI RG GU PU MA MN MS OT SC : Nat → Nat → Int32) (r0 r1 r2 r3 w r5 r6 r7 r8 : Nat) (L : Nat) (Lg : Int64) (p1 : Int32) (p2 : Int32) (p3 : Int32) {r : Int32 × (Nat → Nat → Int32)} (h : f_M_canGo MA MS p1 p2 p3 = some r) : Ev (d + 4, 0, 0, 111, 0, [.val (.ref 1088), .val (.int p1), .val (.int p2), .val (.int p3)], [], (126, 120, L, [Y, T, HA, HB, RA, RB, ST, NS, I0, I1, I2, BO, FI, RG, GU, PU, MA, MN, MS, OT, SC], [r0, r1, r2, r3, w, r5, r6, r7, r8], Lg)) ((0, some (.int r.1), (126, 120, L, [Y, T, HA, HB, RA, RB, ST, NS, I0, I1, I2, BO, FI, RG, GU, PU, MA, MN, r.2, OT, SC], [r0, r1, r2, r3, w, r5, r6, r7, r8], Lg)) : AOut) := by
  suffices key : ∀ o : AOut, ((0, some (.int r.1), (126, 120, L, [Y, T, HA, HB, RA, RB, ST, NS, I0, I1, I2, BO, FI, RG, GU, PU, MA, MN, r.2, OT, SC], [r0, r1, r2, r3, w, r5, r6, r7, r8], Lg)) : AOut) = o → Ev (d + 4, 0, 0, 111, 0, [.val (.ref 1088), .val (.int p1), .val (.int p2), .val (.int p3)], [], (126, 120, L, [Y, T, HA, HB, RA, RB, ST, NS, I0, I1, I2, BO, FI, RG, GU, PU, MA, MN, MS, OT, SC], [r0, r1, r2, r3, w, r5, r6, r7, r8], Lg)) o from key _ rfl
  intro o ho
  by_cases zc1 : ((a_shr p3 p1) &&& 1) = 0
  · have h := itp h zc1
    suffices e : Ev (d + 4, 0, 0, 111, 25, [.val (.ref 1088), .val (.int p1), .val (.int p2), .val (.int p3)], [], (126, 120, L, [Y, T, HA, HB, RA, RB, ST, NS, I0, I1, I2, BO, FI, RG, GU, PU, MA, MN, MS, OT, SC], [r0, r1, r2, r3, w, r5, r6, r7, r8], Lg)) o from ev_t (c := ((a_shr p3 p1) &&& 1) = 0) _ _ 6  zc1 e (fun n => Eq.refl _)
    have ze2 := Option.some.inj h
    subst ze2
    exact ev_rete 2 ho (fun n => Eq.refl _)
  · have h := itn h zc1
    suffices e : Ev (d + 4, 0, 0, 111, 8, [.val (.ref 1088), .val (.int p1), .val (.int p2), .val (.int p3)], [], (126, 120, L, [Y, T, HA, HB, RA, RB, ST, NS, I0, I1, I2, BO, FI, RG, GU, PU, MA, MN, MS, OT, SC], [r0, r1, r2, r3, w, r5, r6, r7, r8], Lg)) o from ev_f (c := ((a_shr p3 p1) &&& 1) = 0) _ _ 6  zc1 e (fun n => Eq.refl _)
    by_cases zc3 : ((a_shr p2 p1) &&& 1) = 1
    · have h := itp h zc3
      suffices e : Ev (d + 4, 0, 0, 111, 25, [.val (.ref 1088), .val (.int p1), .val (.int p2), .val (.int p3)], [], (126, 120, L, [Y, T, HA, HB, RA, RB, ST, NS, I0, I1, I2, BO, FI, RG, GU, PU, MA, MN, MS, OT, SC], [r0, r1, r2, r3, w, r5, r6, r7, r8], Lg)) o from ev_t (c := ((a_shr p2 p1) &&& 1) = 1) _ _ 7  zc3 e (fun n => Eq.refl _)
      have ze4 := Option.some.inj h
      subst ze4
      exact ev_rete 2 ho (fun n => Eq.refl _)
    · have h := itn h zc3
      suffices e : Ev (d + 4, 0, 0, 111, 17, [.val (.ref 1088), .val (.int p1), .val (.int p2), .val (.int p3)], [], (126, 120, L, [Y, T, HA, HB, RA, RB, ST, NS, I0, I1, I2, BO, FI, RG, GU, PU, MA, MN, MS, OT, SC], [r0, r1, r2, r3, w, r5, r6, r7, r8], Lg)) o from ev_f (c := ((a_shr p2 p1) &&& 1) = 1) _ _ 7  zc3 e (fun n => Eq.refl _)
      obtain ⟨x1, zh5, h⟩ := bnd h
      have zh5 : f_M_isFixed MA p1 = some x1 := zh5
      have ze6 := R_f_M_isFixed_0 (d + 3) Y T HA HB RA RB ST NS I0 I1 I2 BO FI RG GU PU MA MN MS OT SC r0 r1 r2 r3 w r5 r6 r7 r8 L Lg p1 zh5
      suffices e : Ev (d + 4, 0, 0, 111, 22, [.val (.ref 1088), .val (.int p1), .val (.int p2), .val (.int p3)], [.int x1], (126, 120, L, [Y, T, HA, HB, RA, RB, ST, NS, I0, I1, I2, BO, FI, RG, GU, PU, MA, MN, MS, OT, SC], [r0, r1, r2, r3, w, r5, r6, r7, r8], Lg)) o from ev_call (fun v μ => (d + 4, 0, 0, 111, 22, [.val (.ref 1088), .val (.int p1), .val (.int p2), .val (.int p3)], v.toList ++ [], μ)) 3 ze6 e (fun n => Eq.refl _)
      by_cases zc7 : x1 = 0
      · have h := itp h zc7
        suffices e : Ev (d + 4, 0, 0, 111, 27, [.val (.ref 1088), .val (.int p1), .val (.int p2), .val (.int p3)], [], (126, 120, L, [Y, T, HA, HB, RA, RB, ST, NS, I0, I1, I2, BO, FI, RG, GU, PU, MA, MN, MS, OT, SC], [r0, r1, r2, r3, w, r5, r6, r7, r8], Lg)) o from ev_t (c := x1 = 0) _ _ 1  zc7 e (fun n => Eq.refl _)
        obtain ⟨MS_2, zh8, h⟩ := bnd h
        have zh8 : f_M_goneBy MA MS (p2 ||| (a_shl 1 p1)) = some MS_2 := zh8
        have ze9 := R_f_M_goneBy_0 (d + 3) Y T HA HB RA RB ST NS I0 I1 I2 BO FI RG GU PU MA MN MS OT SC r0 r1 r2 r3 w r5 r6 r7 r8 L Lg (p2 ||| (a_shl 1 p1)) zh8
        suffices e : Ev (d + 4, 0, 0, 111, 36, [.val (.ref 1088), .val (.int p1), .val (.int p2), .val (.int p3)], [], (126, 120, L, [Y, T, HA, HB, RA, RB, ST, NS, I0, I1, I2, BO, FI, RG, GU, PU, MA, MN, MS_2, OT, SC], [r0, r1, r2, r3, w, r5, r6, r7, r8], Lg)) o from ev_call (fun v μ => (d + 4, 0, 0, 111, 36, [.val (.ref 1088), .val (.int p1), .val (.int p2), .val (.int p3)], v.toList ++ [], μ)) 7 ze9 e (fun n => Eq.refl _)
        obtain ⟨x3, zh10, h⟩ := bnd h
        have zh10 : f_M_isLawful MA (MS_2 4) = some x3 := zh10
        have ze11 := R_f_M_isLawful_0 (d + 0) Y T HA HB RA RB ST NS I0 I1 I2 BO FI RG GU PU MA MN MS_2 OT SC r0 r1 r2 r3 w r5 r6 r7 r8 L Lg zh10
        suffices e : Ev (d + 4, 0, 0, 111, 44, [.val (.ref 1088), .val (.int p1), .val (.int p2), .val (.int p3)], [.int x3], (126, 120, L, [Y, T, HA, HB, RA, RB, ST, NS, I0, I1, I2, BO, FI, RG, GU, PU, MA, MN, MS_2, OT, SC], [r0, r1, r2, r3, w, r5, r6, r7, r8], Lg)) o from ev_call (fun v μ => (d + 4, 0, 0, 111, 44, [.val (.ref 1088), .val (.int p1), .val (.int p2), .val (.int p3)], v.toList ++ [], μ)) 4 ze11 e (fun n => Eq.refl _)
        have ze12 := Option.some.inj h
        subst ze12
        exact ev_rete 1 ho (fun n => Eq.refl _)
      · have h := itn h zc7
        suffices e : Ev (d + 4, 0, 0, 111, 25, [.val (.ref 1088), .val (.int p1), .val (.int p2), .val (.int p3)], [], (126, 120, L, [Y, T, HA, HB, RA, RB, ST, NS, I0, I1, I2, BO, FI, RG, GU, PU, MA, MN, MS, OT, SC], [r0, r1, r2, r3, w, r5, r6, r7, r8], Lg)) o from ev_f (c := x1 = 0) _ _ 1  zc7 e (fun n => Eq.refl _)
        have ze13 := Option.some.inj h
        subst ze13
        exact ev_rete 2 ho (fun n => Eq.refl _)
set_option maxRecDepth 1000000 in
set_option maxHeartbeats 4000000 in
theorem R_f_M_goesOn_B_0 (d : Nat) (rc : (Nat → (Nat → Nat → Int32) → (Nat → Nat → Int32) → Int32 → Int32 → Option (Int32 × (Nat → Nat → Int32))))
    (zrc0 : ∀ (Y T HA HB RA RB ST NS I0 I1 I2 BO FI RG GU PU MA MN MS OT SC : Nat → Nat → Int32) (r0 r1 r2 r3 w r5 r6 r7 r8 : Nat) (L : Nat) (Lg : Int64) (p1 : Int32) (p2 : Int32) (r : Int32 × (Nat → Nat → Int32)), rc 0 MA MS p1 p2 = some r → Ev (d + 4, 0, 0, 110, 0, [.val (.ref 1088), .val (.int p1), .val (.int p2), .val a_unk], [], (126, 120, L, [Y, T, HA, HB, RA, RB, ST, NS, I0, I1, I2, BO, FI, RG, GU, PU, MA, MN, MS, OT, SC], [r0, r1, r2, r3, w, r5, r6, r7, r8], Lg)) ((0, some (.int r.1), (126, 120, L, [Y, T, HA, HB, RA, RB, ST, NS, I0, I1, I2, BO, FI, RG, GU, PU, MA, MN, r.2, OT, SC], [r0, r1, r2, r3, w, r5, r6, r7, r8], Lg)) : AOut))
    (Y T HA HB RA RB ST NS I0 I1 I2 BO FI RG GU PU MA MN MS OT SC : Nat → Nat → Int32) (r0 r1 r2 r3 w r5 r6 r7 r8 : Nat) (L : Nat) (Lg : Int64) (p1 : Int32) (p2 : Int32) {r : Int32 × (Nat → Nat → Int32)} (h : f_M_goesOn_B rc MA MS p1 p2 = some r) : Ev (d + 5, 0, 0, 110, 0, [.val (.ref 1088), .val (.int p1), .val (.int p2), .val a_unk], [], (126, 120, L, [Y, T, HA, HB, RA, RB, ST, NS, I0, I1, I2, BO, FI, RG, GU, PU, MA, MN, MS, OT, SC], [r0, r1, r2, r3, w, r5, r6, r7, r8], Lg)) ((0, some (.int r.1), (126, 120, L, [Y, T, HA, HB, RA, RB, ST, NS, I0, I1, I2, BO, FI, RG, GU, PU, MA, MN, r.2, OT, SC], [r0, r1, r2, r3, w, r5, r6, r7, r8], Lg)) : AOut) := by
  suffices key : ∀ o : AOut, ((0, some (.int r.1), (126, 120, L, [Y, T, HA, HB, RA, RB, ST, NS, I0, I1, I2, BO, FI, RG, GU, PU, MA, MN, r.2, OT, SC], [r0, r1, r2, r3, w, r5, r6, r7, r8], Lg)) : AOut) = o → Ev (d + 5, 0, 0, 110, 0, [.val (.ref 1088), .val (.int p1), .val (.int p2), .val a_unk], [], (126, 120, L, [Y, T, HA, HB, RA, RB, ST, NS, I0, I1, I2, BO, FI, RG, GU, PU, MA, MN, MS, OT, SC], [r0, r1, r2, r3, w, r5, r6, r7, r8], Lg)) o from key _ rfl
  intro o ho
  by_cases zc1 : p1 ≠ p2
  · have h := itp h zc1
    suffices e : Ev (d + 5, 0, 0, 110, 7, [.val (.ref 1088), .val (.int p1), .val (.int p2), .val a_unk], [], (126, 120, L, [Y, T, HA, HB, RA, RB, ST, NS, I0, I1, I2, BO, FI, RG, GU, PU, MA, MN, MS, OT, SC], [r0, r1, r2, r3, w, r5, r6, r7, r8], Lg)) o from ev_t (c := p1 ≠ p2) _ _ 3  zc1 e (fun n => Eq.refl _)
    obtain ⟨x1, zh2, h⟩ := bnd h
    have zh2 : rdx (MS 6) 1024 p1 = some x1 := zh2
    suffices e : Ev (d + 5, 0, 0, 110, 13, [.val (.ref 1088), .val (.int p1), .val (.int p2), .val a_unk], [.int x1], (126, 120, L, [Y, T, HA, HB, RA, RB, ST, NS, I0, I1, I2, BO, FI, RG, GU, PU, MA, MN, MS, OT, SC], [r0, r1, r2, r3, w, r5, r6, r7, r8], Lg)) o from ev_opt (fun x1 => (d + 5, 0, 0, 110, 13, [.val (.ref 1088), .val (.int p1), .val (.int p2), .val a_unk], [.int x1], (126, 120, L, [Y, T, HA, HB, RA, RB, ST, NS, I0, I1, I2, BO, FI, RG, GU, PU, MA, MN, MS, OT, SC], [r0, r1, r2, r3, w, r5, r6, r7, r8], Lg))) 4 zh2 e (fun n => Eq.refl _)
    by_cases zc3 : x1 = 0
    · have h := itp h zc3
      suffices e : Ev (d + 5, 0, 0, 110, 32, [.val (.ref 1088), .val (.int p1), .val (.int p2), .val a_unk], [], (126, 120, L, [Y, T, HA, HB, RA, RB, ST, NS, I0, I1, I2, BO, FI, RG, GU, PU, MA, MN, MS, OT, SC], [r0, r1, r2, r3, w, r5, r6, r7, r8], Lg)) o from ev_t (c := x1 = 0) _ _ 1  zc3 e (fun n => Eq.refl _)
      obtain ⟨j2, zh4, h⟩ := bnd h
      have zh4 : ixx 1024 p1 = some j2 := zh4
      suffices e : Ev (d + 5, 0, 0, 110, 39, [.val (.ref 1088), .val (.int p1), .val (.int p2), .val a_unk], [], (126, 120, L, [Y, T, HA, HB, RA, RB, ST, NS, I0, I1, I2, BO, FI, RG, GU, PU, MA, MN, (u2 MS 6 j2 2), OT, SC], [r0, r1, r2, r3, w, r5, r6, r7, r8], Lg)) o from ev_opt (fun j2 => (d + 5, 0, 0, 110, 39, [.val (.ref 1088), .val (.int p1), .val (.int p2), .val a_unk], [], (126, 120, L, [Y, T, HA, HB, RA, RB, ST, NS, I0, I1, I2, BO, FI, RG, GU, PU, MA, MN, (u2 MS 6 j2 2), OT, SC], [r0, r1, r2, r3, w, r5, r6, r7, r8], Lg))) 5 zh4 e (fun n => Eq.refl _)
      obtain ⟨MS_12, zh6, h⟩ := bnd h
      suffices e : Ev (d + 5, 0, 0, 110, 41, [.val (.ref 1088), .val (.int p1), .val (.int p2), .val (.int 0)], [], (126, 120, L, [Y, T, HA, HB, RA, RB, ST, NS, I0, I1, I2, BO, FI, RG, GU, PU, MA, MN, (u2 MS 6 j2 2), OT, SC], [r0, r1, r2, r3, w, r5, r6, r7, r8], Lg)) o from ev_b 2 e (fun n => Eq.refl _)
      refine ev_loop (δ := Unit) (fun a j => (d + 5, 0, 0, 110, 41, [.val (.ref 1088), .val (.int p1), .val (.int p2), .val (.int a.1)], [], (126, 120, L, [Y, T, HA, HB, RA, RB, ST, NS, I0, I1, I2, BO, FI, RG, GU, PU, MA, MN, a.2, OT, SC], [r0, r1, r2, r3, w, r5, r6, r7, r8], Lg))) (fun b => ∀ s11 : Value, Ev (d + 5, 0, 0, 110, 95, [.val (.ref 1088), .val (.int p1), .val (.int p2), .val s11], [], (126, 120, L, [Y, T, HA, HB, RA, RB, ST, NS, I0, I1, I2, BO, FI, RG, GU, PU, MA, MN, b, OT, SC], [r0, r1, r2, r3, w, r5, r6, r7, r8], Lg)) o) ?_ a_F (0, (u2 MS 6 j2 2)) MS_12 zh6 ?_ ()
      · rintro ⟨v3, MS_4⟩ zr10 zh9 zi7 zx8 ⟨⟩
        have zh9 : f_M_goesOn_B_l41 MA p1 p2 rc v3 MS_4 = some zr10 := zh9
        by_cases zc11 : (MA 0 26) ≤ v3
        · have zh9 := itp zh9 zc11
          suffices e : Ev (d + 5, 0, 0, 110, 95, [.val (.ref 1088), .val (.int p1), .val (.int p2), .val (.int v3)], [], (126, 120, L, [Y, T, HA, HB, RA, RB, ST, NS, I0, I1, I2, BO, FI, RG, GU, PU, MA, MN, MS_4, OT, SC], [r0, r1, r2, r3, w, r5, r6, r7, r8], Lg)) o from ev_t (c := (MA 0 26) ≤ v3) _ _ 4  zc11 e (fun n => Eq.refl _)
          exact ev_b 0 (zx8 _ (Option.some.inj zh9).symm (.int v3)) (fun n => Eq.refl _)
        · have zh9 := itn zh9 zc11
          suffices e : Ev (d + 5, 0, 0, 110, 49, [.val (.ref 1088), .val (.int p1), .val (.int p2), .val (.int v3)], [], (126, 120, L, [Y, T, HA, HB, RA, RB, ST, NS, I0, I1, I2, BO, FI, RG, GU, PU, MA, MN, MS_4, OT, SC], [r0, r1, r2, r3, w, r5, r6, r7, r8], Lg)) o from ev_f (c := (MA 0 26) ≤ v3) _ _ 4  zc11 e (fun n => Eq.refl _)
          obtain ⟨x5, zh12, zh9⟩ := bnd zh9
          have zh12 : rdx (MS_4 6) 1024 p1 = some x5 := zh12
          suffices e : Ev (d + 5, 0, 0, 110, 55, [.val (.ref 1088), .val (.int p1), .val (.int p2), .val (.int v3)], [.int x5], (126, 120, L, [Y, T, HA, HB, RA, RB, ST, NS, I0, I1, I2, BO, FI, RG, GU, PU, MA, MN, MS_4, OT, SC], [r0, r1, r2, r3, w, r5, r6, r7, r8], Lg)) o from ev_opt (fun x5 => (d + 5, 0, 0, 110, 55, [.val (.ref 1088), .val (.int p1), .val (.int p2), .val (.int v3)], [.int x5], (126, 120, L, [Y, T, HA, HB, RA, RB, ST, NS, I0, I1, I2, BO, FI, RG, GU, PU, MA, MN, MS_4, OT, SC], [r0, r1, r2, r3, w, r5, r6, r7, r8], Lg))) 4 zh12 e (fun n => Eq.refl _)
          by_cases zc13 : x5 ≠ 2
          · have zh9 := itp zh9 zc13
            suffices e : Ev (d + 5, 0, 0, 110, 95, [.val (.ref 1088), .val (.int p1), .val (.int p2), .val (.int v3)], [], (126, 120, L, [Y, T, HA, HB, RA, RB, ST, NS, I0, I1, I2, BO, FI, RG, GU, PU, MA, MN, MS_4, OT, SC], [r0, r1, r2, r3, w, r5, r6, r7, r8], Lg)) o from ev_t (c := x5 ≠ 2) _ _ 2  zc13 e (fun n => Eq.refl _)
            exact ev_b 0 (zx8 _ (Option.some.inj zh9).symm (.int v3)) (fun n => Eq.refl _)
          · have zh9 := itn zh9 zc13
            suffices e : Ev (d + 5, 0, 0, 110, 59, [.val (.ref 1088), .val (.int p1), .val (.int p2), .val (.int v3)], [], (126, 120, L, [Y, T, HA, HB, RA, RB, ST, NS, I0, I1, I2, BO, FI, RG, GU, PU, MA, MN, MS_4, OT, SC], [r0, r1, r2, r3, w, r5, r6, r7, r8], Lg)) o from ev_f (c := x5 ≠ 2) _ _ 2  zc13 e (fun n => Eq.refl _)
            obtain ⟨⟨x6, MS_7⟩, zh14, zh9⟩ := bnd zh9
            have zh14 : f_M_canGo MA MS_4 v3 p1 p2 = some (x6, MS_7) := zh14
            have ze15 := R_f_M_canGo_0 (d + 0) Y T HA HB RA RB ST NS I0 I1 I2 BO FI RG GU PU MA MN MS_4 OT SC r0 r1 r2 r3 w r5 r6 r7 r8 L Lg v3 p1 p2 zh14
            suffices e : Ev (d + 5, 0, 0, 110, 66, [.val (.ref 1088), .val (.int p1), .val (.int p2), .val (.int v3)], [.int x6], (126, 120, L, [Y, T, HA, HB, RA, RB, ST, NS, I0, I1, I2, BO, FI, RG, GU, PU, MA, MN, MS_7, OT, SC], [r0, r1, r2, r3, w, r5, r6, r7, r8], Lg)) o from ev_call (fun v μ => (d + 5, 0, 0, 110, 66, [.val (.ref 1088), .val (.int p1), .val (.int p2), .val (.int v3)], v.toList ++ [], μ)) 5 ze15 e (fun n => Eq.refl _)
            by_cases zc16 : x6 = 0
            · have zh9 := itp zh9 zc16
              suffices e : Ev (d + 5, 0, 0, 110, 89, [.val (.ref 1088), .val (.int p1), .val (.int p2), .val (.int v3)], [], (126, 120, L, [Y, T, HA, HB, RA, RB, ST, NS, I0, I1, I2, BO, FI, RG, GU, PU, MA, MN, MS_7, OT, SC], [r0, r1, r2, r3, w, r5, r6, r7, r8], Lg)) o from ev_t (c := x6 = 0) _ _ 1  zc16 e (fun n => Eq.refl _)
              exact ev_b 2 (zi7 _ (Option.some.inj zh9).symm ()) (fun n => Eq.refl _)
            · have zh9 := itn zh9 zc16
              suffices e : Ev (d + 5, 0, 0, 110, 69, [.val (.ref 1088), .val (.int p1), .val (.int p2), .val (.int v3)], [], (126, 120, L, [Y, T, HA, HB, RA, RB, ST, NS, I0, I1, I2, BO, FI, RG, GU, PU, MA, MN, MS_7, OT, SC], [r0, r1, r2, r3, w, r5, r6, r7, r8], Lg)) o from ev_f (c := x6 = 0) _ _ 1  zc16 e (fun n => Eq.refl _)
              obtain ⟨⟨x8, MS_9⟩, zh17, zh9⟩ := bnd zh9
              have zh17 : rc 0 MA MS_7 (p1 ||| (a_shl 1 v3)) p2 = some (x8, MS_9) := zh17
              have ze18 := zrc0 Y T HA HB RA RB ST NS I0 I1 I2 BO FI RG GU PU MA MN MS_7 OT SC r0 r1 r2 r3 w r5 r6 r7 r8 L Lg (p1 ||| (a_shl 1 v3)) p2 _ zh17
              suffices e : Ev (d + 5, 0, 0, 110, 79, [.val (.ref 1088), .val (.int p1), .val (.int p2), .val (.int v3)], [.int x8], (126, 120, L, [Y, T, HA, HB, RA, RB, ST, NS, I0, I1, I2, BO, FI, RG, GU, PU, MA, MN, MS_9, OT, SC], [r0, r1, r2, r3, w, r5, r6, r7, r8], Lg)) o from ev_call (fun v μ => (d + 5, 0, 0, 110, 79, [.val (.ref 1088), .val (.int p1), .val (.int p2), .val (.int v3)], v.toList ++ [], μ)) 8 ze18 e (fun n => Eq.refl _)
              by_cases zc19 : x8 = 0
              · have zh9 := itp zh9 zc19
                suffices e : Ev (d + 5, 0, 0, 110, 89, [.val (.ref 1088), .val (.int p1), .val (.int p2), .val (.int v3)], [], (126, 120, L, [Y, T, HA, HB, RA, RB, ST, NS, I0, I1, I2, BO, FI, RG, GU, PU, MA, MN, MS_9, OT, SC], [r0, r1, r2, r3, w, r5, r6, r7, r8], Lg)) o from ev_t (c := x8 = 0) _ _ 1  zc19 e (fun n => Eq.refl _)
                exact ev_b 2 (zi7 _ (Option.some.inj zh9).symm ()) (fun n => Eq.refl _)
              · have zh9 := itn zh9 zc19
                suffices e : Ev (d + 5, 0, 0, 110, 82, [.val (.ref 1088), .val (.int p1), .val (.int p2), .val (.int v3)], [], (126, 120, L, [Y, T, HA, HB, RA, RB, ST, NS, I0, I1, I2, BO, FI, RG, GU, PU, MA, MN, MS_9, OT, SC], [r0, r1, r2, r3, w, r5, r6, r7, r8], Lg)) o from ev_f (c := x8 = 0) _ _ 1  zc19 e (fun n => Eq.refl _)
                obtain ⟨j10, zh20, zh9⟩ := bnd zh9
                have zh20 : ixx 1024 p1 = some j10 := zh20
                suffices e : Ev (d + 5, 0, 0, 110, 89, [.val (.ref 1088), .val (.int p1), .val (.int p2), .val (.int v3)], [], (126, 120, L, [Y, T, HA, HB, RA, RB, ST, NS, I0, I1, I2, BO, FI, RG, GU, PU, MA, MN, (u2 MS_9 6 j10 1), OT, SC], [r0, r1, r2, r3, w, r5, r6, r7, r8], Lg)) o from ev_opt (fun j10 => (d + 5, 0, 0, 110, 89, [.val (.ref 1088), .val (.int p1), .val (.int p2), .val (.int v3)], [], (126, 120, L, [Y, T, HA, HB, RA, RB, ST, NS, I0, I1, I2, BO, FI, RG, GU, PU, MA, MN, (u2 MS_9 6 j10 1), OT, SC], [r0, r1, r2, r3, w, r5, r6, r7, r8], Lg))) 5 zh20 e (fun n => Eq.refl _)
                exact ev_b 2 (zi7 _ (Option.some.inj zh9).symm ()) (fun n => Eq.refl _)
      · skip
        intro s11
        obtain ⟨x13, zh21, h⟩ := bnd h
        have zh21 : rdx (MS_12 6) 1024 p1 = some x13 := zh21
        suffices e : Ev (d + 5, 0, 0, 110, 101, [.val (.ref 1088), .val (.int p1), .val (.int p2), .val s11], [.int x13], (126, 120, L, [Y, T, HA, HB, RA, RB, ST, NS, I0, I1, I2, BO, FI, RG, GU, PU, MA, MN, MS_12, OT, SC], [r0, r1, r2, r3, w, r5, r6, r7, r8], Lg)) o from ev_opt (fun x13 => (d + 5, 0, 0, 110, 101, [.val (.ref 1088), .val (.int p1), .val (.int p2), .val s11], [.int x13], (126, 120, L, [Y, T, HA, HB, RA, RB, ST, NS, I0, I1, I2, BO, FI, RG, GU, PU, MA, MN, MS_12, OT, SC], [r0, r1, r2, r3, w, r5, r6, r7, r8], Lg))) 4 zh21 e (fun n => Eq.refl _)
        by_cases zc22 : x13 ≠ 1
        · have h := itp h zc22
          suffices e : Ev (d + 5, 0, 0, 110, 109, [.val (.ref 1088), .val (.int p1), .val (.int p2), .val s11], [], (126, 120, L, [Y, T, HA, HB, RA, RB, ST, NS, I0, I1, I2, BO, FI, RG, GU, PU, MA, MN, MS_12, OT, SC], [r0, r1, r2, r3, w, r5, r6, r7, r8], Lg)) o from ev_t (c := x13 ≠ 1) _ _ 2  zc22 e (fun n => Eq.refl _)
          have ze23 := Option.some.inj h
          subst ze23
          exact ev_rete 2 ho (fun n => Eq.refl _)
        · have h := itn h zc22
          suffices e : Ev (d + 5, 0, 0, 110, 105, [.val (.ref 1088), .val (.int p1), .val (.int p2), .val s11], [], (126, 120, L, [Y, T, HA, HB, RA, RB, ST, NS, I0, I1, I2, BO, FI, RG, GU, PU, MA, MN, MS_12, OT, SC], [r0, r1, r2, r3, w, r5, r6, r7, r8], Lg)) o from ev_f (c := x13 ≠ 1) _ _ 2  zc22 e (fun n => Eq.refl _)
          have ze24 := Option.some.inj h
          subst ze24
          exact ev_rete 3 ho (fun n => Eq.refl _)
    · have h := itn h zc3
      suffices e : Ev (d + 5, 0, 0, 110, 16, [.val (.ref 1088), .val (.int p1), .val (.int p2), .val a_unk], [], (126, 120, L, [Y, T, HA, HB, RA, RB, ST, NS, I0, I1, I2, BO, FI, RG, GU, PU, MA, MN, MS, OT, SC], [r0, r1, r2, r3, w, r5, r6, r7, r8], Lg)) o from ev_f (c := x1 = 0) _ _ 1  zc3 e (fun n => Eq.refl _)
      obtain ⟨x14, zh25, h⟩ := bnd h
      have zh25 : rdx (MS 6) 1024 p1 = some x14 := zh25
      suffices e : Ev (d + 5, 0, 0, 110, 22, [.val (.ref 1088), .val (.int p1), .val (.int p2), .val a_unk], [.int x14], (126, 120, L, [Y, T, HA, HB, RA, RB, ST, NS, I0, I1, I2, BO, FI, RG, GU, PU, MA, MN, MS, OT, SC], [r0, r1, r2, r3, w, r5, r6, r7, r8], Lg)) o from ev_opt (fun x14 => (d + 5, 0, 0, 110, 22, [.val (.ref 1088), .val (.int p1), .val (.int p2), .val a_unk], [.int x14], (126, 120, L, [Y, T, HA, HB, RA, RB, ST, NS, I0, I1, I2, BO, FI, RG, GU, PU, MA, MN, MS, OT, SC], [r0, r1, r2, r3, w, r5, r6, r7, r8], Lg))) 4 zh25 e (fun n => Eq.refl _)
      by_cases zc26 : x14 ≠ 1
      · have h := itp h zc26
        suffices e : Ev (d + 5, 0, 0, 110, 30, [.val (.ref 1088), .val (.int p1), .val (.int p2), .val a_unk], [], (126, 120, L, [Y, T, HA, HB, RA, RB, ST, NS, I0, I1, I2, BO, FI, RG, GU, PU, MA, MN, MS, OT, SC], [r0, r1, r2, r3, w, r5, r6, r7, r8], Lg)) o from ev_t (c := x14 ≠ 1) _ _ 2  zc26 e (fun n => Eq.refl _)
        have ze27 := Option.some.inj h
        subst ze27
        exact ev_rete 2 ho (fun n => Eq.refl _)
      · have h := itn h zc26
        suffices e : Ev (d + 5, 0, 0, 110, 26, [.val (.ref 1088), .val (.int p1), .val (.int p2), .val a_unk], [], (126, 120, L, [Y, T, HA, HB, RA, RB, ST, NS, I0, I1, I2, BO, FI, RG, GU, PU, MA, MN, MS, OT, SC], [r0, r1, r2, r3, w, r5, r6, r7, r8], Lg)) o from ev_f (c := x14 ≠ 1) _ _ 2  zc26 e (fun n => Eq.refl _)
        have ze28 := Option.some.inj h
        subst ze28
        exact ev_rete 3 ho (fun n => Eq.refl _)
  · have h := itn h zc1
    suffices e : Ev (d + 5, 0, 0, 110, 5, [.val (.ref 1088), .val (.int p1), .val (.int p2), .val a_unk], [], (126, 120, L, [Y, T, HA, HB, RA, RB, ST, NS, I0, I1, I2, BO, FI, RG, GU, PU, MA, MN, MS, OT, SC], [r0, r1, r2, r3, w, r5, r6, r7, r8], Lg)) o from ev_f (c := p1 ≠ p2) _ _ 3  zc1 e (fun n => Eq.refl _)
    have ze29 := Option.some.inj h
    subst ze29
    exact ev_rete 2 ho (fun n => Eq.refl _)
set_option maxRecDepth 1000000 in
set_option maxHeartbeats 4000000 in
theorem K_grp_mo_0 (n : Nat) : (∀ (d : Nat) (Y T HA HB RA RB ST NS I0 I1 I2 BO FI RG GU PU MA MN MS OT SC : Nat → Nat → Int32) (r0 r1 r2 r3 w r5 r6 r7 r8 : Nat) (L : Nat) (Lg : Int64) (p1 : Int32) (p2 : Int32) (r : Int32 × (Nat → Nat → Int32)), f_grp_mo n 0 MA MS p1 p2 = some r → Ev (d + (4 + n), 0, 0, 110, 0, [.val (.ref 1088), .val (.int p1), .val (.int p2), .val a_unk], [], (126, 120, L, [Y, T, HA, HB, RA, RB, ST, NS, I0, I1, I2, BO, FI, RG, GU, PU, MA, MN, MS, OT, SC], [r0, r1, r2, r3, w, r5, r6, r7, r8], Lg)) ((0, some (.int r.1), (126, 120, L, [Y, T, HA, HB, RA, RB, ST, NS, I0, I1, I2, BO, FI, RG, GU, PU, MA, MN, r.2, OT, SC], [r0, r1, r2, r3, w, r5, r6, r7, r8], Lg)) : AOut)) := by
  induction n with
  | zero => exact by intros; contradiction
  | succ n ih =>
    have i0 := ih
    refine ?_
    · intro d Y T HA HB RA RB ST NS I0 I1 I2 BO FI RG GU PU MA MN MS OT SC r0 r1 r2 r3 w r5 r6 r7 r8 L Lg p1 p2 r h
      rw [show d + (4 + (n + 1)) = d + n + 5 by omega]
      have j0 : ∀ (Y T HA HB RA RB ST NS I0 I1 I2 BO FI RG GU PU MA MN MS OT SC : Nat → Nat → Int32) (r0 r1 r2 r3 w r5 r6 r7 r8 : Nat) (L : Nat) (Lg : Int64) (p1 : Int32) (p2 : Int32) (r : Int32 × (Nat → Nat → Int32)), f_grp_mo n 0 MA MS p1 p2 = some r → Ev (d + n + 4, 0, 0, 110, 0, [.val (.ref 1088), .val (.int p1), .val (.int p2), .val a_unk], [], (126, 120, L, [Y, T, HA, HB, RA, RB, ST, NS, I0, I1, I2, BO, FI, RG, GU, PU, MA, MN, MS, OT, SC], [r0, r1, r2, r3, w, r5, r6, r7, r8], Lg)) ((0, some (.int r.1), (126, 120, L, [Y, T, HA, HB, RA, RB, ST, NS, I0, I1, I2, BO, FI, RG, GU, PU, MA, MN, r.2, OT, SC], [r0, r1, r2, r3, w, r5, r6, r7, r8], Lg)) : AOut) := by
        intro Y T HA HB RA RB ST NS I0 I1 I2 BO FI RG GU PU MA MN MS OT SC r0 r1 r2 r3 w r5 r6 r7 r8 L Lg p1 p2 r h
        have e := i0 d Y T HA HB RA RB ST NS I0 I1 I2 BO FI RG GU PU MA MN MS OT SC r0 r1 r2 r3 w r5 r6 r7 r8 L Lg p1 p2 r h
        rw [show d + (4 + n) = d + n + 4 by omega] at e
        exact e
      exact R_f_M_goesOn_B_0 (d + n) (f_grp_mo n) j0 Y T HA HB RA RB ST NS I0 I1 I2 BO FI RG GU PU MA MN MS OT SC r0 r1 r2 r3 w r5 r6 r7 r8 L Lg p1 p2 h

