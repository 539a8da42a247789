/-! printed by program (gen/emitm.py): the reference's methods run as their functions say -/
set_option maxRecDepth 1000000 in
set_option maxHeartbeats 4000000 in
theorem R_f_M_isEnough_0 (d : Nat) (Y T HA HB RA RB ST NS I0 I1 I2 BO FI RG GU PU MA MN MS OT SC : Nat → Nat → Int32) (r0 r1 r2 r3 w r5 r6 r7 r8 : Nat) (L : Nat) (Lg : Int64) {r : Int32} (h : f_M_isEnough MS = some r) : Ev (d + 0, 0, 0, 122, 0, [.val (.ref 1088), .val a_unk], [], (126, 120, L, [Y, T, HA, HB, RA, RB, ST, NS, I0, I1, I2, BO, FI, RG, GU, PU, MA, MN, MS, OT, SC], [r0, r1, r2, r3, w, r5, r6, r7, r8], Lg)) ((0, some (.int r), (126, 120, L, [Y, T, HA, HB, RA, RB, ST, NS, I0, I1, I2, BO, FI, RG, GU, PU, MA, MN, MS, OT, SC], [r0, r1, r2, r3, w, r5, r6, r7, r8], Lg)) : AOut) := by
  suffices key : ∀ o : AOut, ((0, some (.int r), (126, 120, L, [Y, T, HA, HB, RA, RB, ST, NS, I0, I1, I2, BO, FI, RG, GU, PU, MA, MN, MS, OT, SC], [r0, r1, r2, r3, w, r5, r6, r7, r8], Lg)) : AOut) = o → Ev (d + 0, 0, 0, 122, 0, [.val (.ref 1088), .val a_unk], [], (126, 120, L, [Y, T, HA, HB, RA, RB, ST, NS, I0, I1, I2, BO, FI, RG, GU, PU, MA, MN, MS, OT, SC], [r0, r1, r2, r3, w, r5, r6, r7, r8], Lg)) o from key _ rfl
  intro o ho
  obtain ⟨zb1, zh2, h⟩ := bnd h
  suffices e : Ev (d + 0, 0, 0, 122, 2, [.val (.ref 1088), .val (.int 0)], [], (126, 120, L, [Y, T, HA, HB, RA, RB, ST, NS, I0, I1, I2, BO, FI, RG, GU, PU, MA, MN, MS, OT, SC], [r0, r1, r2, r3, w, r5, r6, r7, r8], Lg)) o from ev_b 2 e (fun n => Eq.refl _)
  refine ev_loop (δ := Unit) (fun a j => (d + 0, 0, 0, 122, 2, [.val (.ref 1088), .val (.int a)], [], (126, 120, L, [Y, T, HA, HB, RA, RB, ST, NS, I0, I1, I2, BO, FI, RG, GU, PU, MA, MN, MS, OT, SC], [r0, r1, r2, r3, w, r5, r6, r7, r8], Lg))) (fun b => sumE b (fun b => ∀ s4 : Value, Ev (d + 0, 0, 0, 122, 31, [.val (.ref 1088), .val s4], [], (126, 120, L, [Y, T, HA, HB, RA, RB, ST, NS, I0, I1, I2, BO, FI, RG, GU, PU, MA, MN, MS, OT, SC], [r0, r1, r2, r3, w, r5, r6, r7, r8], Lg)) o) (fun b => ((0, some (.int b), (126, 120, L, [Y, T, HA, HB, RA, RB, ST, NS, I0, I1, I2, BO, FI, RG, GU, PU, MA, MN, MS, OT, SC], [r0, r1, r2, r3, w, r5, r6, r7, r8], Lg)) : AOut) = o)) ?_ a_F 0 zb1 zh2 ?_ ()
  · rintro v1 zr6 zh5 zi3 zx4 ⟨⟩
    have zh5 : f_M_isEnough_l2 MS v1 = some zr6 := zh5
    by_cases zc7 : 8 ≤ v1
    · have zh5 := itp zh5 zc7
      suffices e : Ev (d + 0, 0, 0, 122, 31, [.val (.ref 1088), .val (.int v1)], [], (126, 120, L, [Y, T, HA, HB, RA, RB, ST, NS, I0, I1, I2, BO, FI, RG, GU, PU, MA, MN, MS, OT, SC], [r0, r1, r2, r3, w, r5, r6, r7, r8], Lg)) o from ev_t (c := 8 ≤ v1) _ _ 3  zc7 e (fun n => Eq.refl _)
      exact ev_b 0 (zx4 _ (Option.some.inj zh5).symm (.int v1)) (fun n => Eq.refl _)
    · have zh5 := itn zh5 zc7
      suffices e : Ev (d + 0, 0, 0, 122, 8, [.val (.ref 1088), .val (.int v1)], [], (126, 120, L, [Y, T, HA, HB, RA, RB, ST, NS, I0, I1, I2, BO, FI, RG, GU, PU, MA, MN, MS, OT, SC], [r0, r1, r2, r3, w, r5, r6, r7, r8], Lg)) o from ev_f (c := 8 ≤ v1) _ _ 3  zc7 e (fun n => Eq.refl _)
      obtain ⟨x2, zh8, zh5⟩ := bnd zh5
      have zh8 : rdx (MS 7) 8 v1 = some x2 := zh8
      suffices e : Ev (d + 0, 0, 0, 122, 14, [.val (.ref 1088), .val (.int v1)], [.int x2], (126, 120, L, [Y, T, HA, HB, RA, RB, ST, NS, I0, I1, I2, BO, FI, RG, GU, PU, MA, MN, MS, OT, SC], [r0, r1, r2, r3, w, r5, r6, r7, r8], Lg)) o from ev_opt (fun x2 => (d + 0, 0, 0, 122, 14, [.val (.ref 1088), .val (.int v1)], [.int x2], (126, 120, L, [Y, T, HA, HB, RA, RB, ST, NS, I0, I1, I2, BO, FI, RG, GU, PU, MA, MN, MS, OT, SC], [r0, r1, r2, r3, w, r5, r6, r7, r8], Lg))) 4 zh8 e (fun n => Eq.refl _)
      obtain ⟨x3, zh9, zh5⟩ := bnd zh5
      have zh9 : rdx (MS 8) 8 v1 = some x3 := zh9
      suffices e : Ev (d + 0, 0, 0, 122, 20, [.val (.ref 1088), .val (.int v1)], [.int x3, .int x2], (126, 120, L, [Y, T, HA, HB, RA, RB, ST, NS, I0, I1, I2, BO, FI, RG, GU, PU, MA, MN, MS, OT, SC], [r0, r1, r2, r3, w, r5, r6, r7, r8], Lg)) o from ev_opt (fun x3 => (d + 0, 0, 0, 122, 20, [.val (.ref 1088), .val (.int v1)], [.int x3, .int x2], (126, 120, L, [Y, T, HA, HB, RA, RB, ST, NS, I0, I1, I2, BO, FI, RG, GU, PU, MA, MN, MS, OT, SC], [r0, r1, r2, r3, w, r5, r6, r7, r8], Lg))) 4 zh9 e (fun n => Eq.refl _)
      by_cases zc10 : x2 = x3
      · have zh5 := itp zh5 zc10
        suffices e : Ev (d + 0, 0, 0, 122, 25, [.val (.ref 1088), .val (.int v1)], [], (126, 120, L, [Y, T, HA, HB, RA, RB, ST, NS, I0, I1, I2, BO, FI, RG, GU, PU, MA, MN, MS, OT, SC], [r0, r1, r2, r3, w, r5, r6, r7, r8], Lg)) o from ev_t (c := x2 = x3) _ _ 1  zc10 e (fun n => Eq.refl _)
        exact ev_b 2 (zi3 _ (Option.some.inj zh5).symm ()) (fun n => Eq.refl _)
      · have zh5 := itn zh5 zc10
        suffices e : Ev (d + 0, 0, 0, 122, 23, [.val (.ref 1088), .val (.int v1)], [], (126, 120, L, [Y, T, HA, HB, RA, RB, ST, NS, I0, I1, I2, BO, FI, RG, GU, PU, MA, MN, MS, OT, SC], [r0, r1, r2, r3, w, r5, r6, r7, r8], Lg)) o from ev_f (c := x2 = x3) _ _ 1  zc10 e (fun n => Eq.refl _)
        exact ev_rete 2 (zx4 _ (Option.some.inj zh5).symm) (fun n => Eq.refl _)
  · rcases zb1 with ⟨⟩ | zr6
    · intro s4
      have ze11 := Option.some.inj h
      subst ze11
      exact ev_rete 2 ho (fun n => Eq.refl _)
    · have zh12 : some zr6 = some r := h
      exact (congrArg (fun q => ((0, some (.int q), (126, 120, L, [Y, T, HA, HB, RA, RB, ST, NS, I0, I1, I2, BO, FI, RG, GU, PU, MA, MN, MS, OT, SC], [r0, r1, r2, r3, w, r5, r6, r7, r8], Lg)) : AOut)) (Option.some.inj zh12)).trans ho
set_option maxRecDepth 1000000 in
set_option maxHeartbeats 4000000 in
theorem R_f_M_findMeets_0 (d : Nat) (Y T HA HB RA RB ST NS I0 I1 I2 BO FI RG GU PU MA MN MS OT SC : Nat → Nat → Int32) (r0 r1 r2 r3 w r5 r6 r7 r8 : Nat) (L : Nat) (Lg : Int64) (p1 : Int32) {r : (Nat → Nat → Int32)} (h : f_M_findMeets MA MS p1 = some r) : Ev (d + 0, 0, 0, 121, 0, [.val (.ref 1088), .val (.int p1), .val (.ref 1223), .val a_unk, .val a_unk], [], (126, 120, L, [Y, T, HA, HB, RA, RB, ST, NS, I0, I1, I2, BO, FI, RG, GU, PU, MA, MN, MS, OT, SC], [r0, r1, r2, r3, w, r5, r6, r7, r8], Lg)) ((0, none, (126, 120, L, [Y, T, HA, HB, RA, RB, ST, NS, I0, I1, I2, BO, FI, RG, GU, PU, MA, MN, r, OT, SC], [r0, r1, r2, r3, w, r5, r6, r7, r8], Lg)) : AOut) := by
  suffices key : ∀ o : AOut, ((0, none, (126, 120, L, [Y, T, HA, HB, RA, RB, ST, NS, I0, I1, I2, BO, FI, RG, GU, PU, MA, MN, r, OT, SC], [r0, r1, r2, r3, w, r5, r6, r7, r8], Lg)) : AOut) = o → Ev (d + 0, 0, 0, 121, 0, [.val (.ref 1088), .val (.int p1), .val (.ref 1223), .val a_unk, .val a_unk], [], (126, 120, L, [Y, T, HA, HB, RA, RB, ST, NS, I0, I1, I2, BO, FI, RG, GU, PU, MA, MN, MS, OT, SC], [r0, r1, r2, r3, w, r5, r6, r7, r8], Lg)) o from key _ rfl
  intro o ho
  obtain ⟨MS_17, zh2, h⟩ := bnd h
  suffices e : Ev (d + 0, 0, 0, 121, 2, [.val (.ref 1088), .val (.int p1), .val (.ref 1223), .val (.int 0), .val a_unk], [], (126, 120, L, [Y, T, HA, HB, RA, RB, ST, NS, I0, I1, I2, BO, FI, RG, GU, PU, MA, MN, MS, OT, SC], [r0, r1, r2, r3, w, r5, r6, r7, r8], Lg)) o from ev_b 2 e (fun n => Eq.refl _)
  refine ev_loop (δ := Value) (fun a j => (d + 0, 0, 0, 121, 2, [.val (.ref 1088), .val (.int p1), .val (.ref 1223), .val (.int a.1), .val j], [], (126, 120, L, [Y, T, HA, HB, RA, RB, ST, NS, I0, I1, I2, BO, FI, RG, GU, PU, MA, MN, a.2, OT, SC], [r0, r1, r2, r3, w, r5, r6, r7, r8], Lg))) (fun b => ∀ s15 : Value, ∀ s16 : Value, Ev (d + 0, 0, 0, 121, 104, [.val (.ref 1088), .val (.int p1), .val (.ref 1223), .val s15, .val s16], [], (126, 120, L, [Y, T, HA, HB, RA, RB, ST, NS, I0, I1, I2, BO, FI, RG, GU, PU, MA, MN, b, OT, SC], [r0, r1, r2, r3, w, r5, r6, r7, r8], Lg)) o) ?_ a_F (0, MS) MS_17 zh2 ?_ a_unk
  · rintro ⟨v1, MS_3⟩ zr6 zh5 zi3 zx4 s2
    have zh5 : f_M_findMeets_l2 MA p1 v1 MS_3 = some zr6 := zh5
    by_cases zc7 : 8 ≤ v1
    · have zh5 := itp zh5 zc7
      suffices e : Ev (d + 0, 0, 0, 121, 104, [.val (.ref 1088), .val (.int p1), .val (.ref 1223), .val (.int v1), .val s2], [], (126, 120, L, [Y, T, HA, HB, RA, RB, ST, NS, I0, I1, I2, BO, FI, RG, GU, PU, MA, MN, MS_3, OT, SC], [r0, r1, r2, r3, w, r5, r6, r7, r8], Lg)) o from ev_t (c := 8 ≤ v1) _ _ 3  zc7 e (fun n => Eq.refl _)
      exact ev_b 0 (zx4 _ (Option.some.inj zh5).symm (.int v1) s2) (fun n => Eq.refl _)
    · have zh5 := itn zh5 zc7
      suffices e : Ev (d + 0, 0, 0, 121, 8, [.val (.ref 1088), .val (.int p1), .val (.ref 1223), .val (.int v1), .val s2], [], (126, 120, L, [Y, T, HA, HB, RA, RB, ST, NS, I0, I1, I2, BO, FI, RG, GU, PU, MA, MN, MS_3, OT, SC], [r0, r1, r2, r3, w, r5, r6, r7, r8], Lg)) o from ev_f (c := 8 ≤ v1) _ _ 3  zc7 e (fun n => Eq.refl _)
      obtain ⟨j4, zh8, zh5⟩ := bnd zh5
      have zh8 : ixx 8 v1 = some j4 := zh8
      suffices e : Ev (d + 0, 0, 0, 121, 12, [.val (.ref 1088), .val (.int p1), .val (.ref 1223), .val (.int v1), .val s2], [], (126, 120, L, [Y, T, HA, HB, RA, RB, ST, NS, I0, I1, I2, BO, FI, RG, GU, PU, MA, MN, (u2 MS_3 7 j4 0), OT, SC], [r0, r1, r2, r3, w, r5, r6, r7, r8], Lg)) o from ev_opt (fun j4 => (d + 0, 0, 0, 121, 12, [.val (.ref 1088), .val (.int p1), .val (.ref 1223), .val (.int v1), .val s2], [], (126, 120, L, [Y, T, HA, HB, RA, RB, ST, NS, I0, I1, I2, BO, FI, RG, GU, PU, MA, MN, (u2 MS_3 7 j4 0), OT, SC], [r0, r1, r2, r3, w, r5, r6, r7, r8], Lg))) 4 zh8 e (fun n => Eq.refl _)
      obtain ⟨MS_14, zh10, zh5⟩ := bnd zh5
      suffices e : Ev (d + 0, 0, 0, 121, 15, [.val (.ref 1088), .val (.int p1), .val (.ref 1223), .val (.int v1), .val (.int 0)], [], (126, 120, L, [Y, T, HA, HB, RA, RB, ST, NS, I0, I1, I2, BO, FI, RG, GU, PU, MA, MN, (u2 MS_3 7 j4 0), OT, SC], [r0, r1, r2, r3, w, r5, r6, r7, r8], Lg)) o from ev_b 2 e (fun n => Eq.refl _)
      refine ev_loop (δ := Unit) (fun a j => (d + 0, 0, 0, 121, 15, [.val (.ref 1088), .val (.int p1), .val (.ref 1223), .val (.int v1), .val (.int a.1)], [], (126, 120, L, [Y, T, HA, HB, RA, RB, ST, NS, I0, I1, I2, BO, FI, RG, GU, PU, MA, MN, a.2, OT, SC], [r0, r1, r2, r3, w, r5, r6, r7, r8], Lg))) (fun b => ∀ s13 : Value, Ev (d + 0, 0, 0, 121, 98, [.val (.ref 1088), .val (.int p1), .val (.ref 1223), .val (.int v1), .val s13], [], (126, 120, L, [Y, T, HA, HB, RA, RB, ST, NS, I0, I1, I2, BO, FI, RG, GU, PU, MA, MN, b, OT, SC], [r0, r1, r2, r3, w, r5, r6, r7, r8], Lg)) o) ?_ a_F (0, (u2 MS_3 7 j4 0)) MS_14 zh10 ?_ ()
      · rintro ⟨v5, MS_6⟩ zr14 zh13 zi11 zx12 ⟨⟩
        have zh13 : f_M_findMeets_l15 MA v1 p1 v5 MS_6 = some zr14 := zh13
        by_cases zc15 : (MA 0 26) ≤ v5
        · have zh13 := itp zh13 zc15
          suffices e : Ev (d + 0, 0, 0, 121, 98, [.val (.ref 1088), .val (.int p1), .val (.ref 1223), .val (.int v1), .val (.int v5)], [], (126, 120, L, [Y, T, HA, HB, RA, RB, ST, NS, I0, I1, I2, BO, FI, RG, GU, PU, MA, MN, MS_6, OT, SC], [r0, r1, r2, r3, w, r5, r6, r7, r8], Lg)) o from ev_t (c := (MA 0 26) ≤ v5) _ _ 4  zc15 e (fun n => Eq.refl _)
          exact ev_b 0 (zx12 _ (Option.some.inj zh13).symm (.int v5)) (fun n => Eq.refl _)
        · have zh13 := itn zh13 zc15
          suffices e : Ev (d + 0, 0, 0, 121, 24, [.val (.ref 1088), .val (.int p1), .val (.ref 1223), .val (.int v1), .val (.int v5)], [], (126, 120, L, [Y, T, HA, HB, RA, RB, ST, NS, I0, I1, I2, BO, FI, RG, GU, PU, MA, MN, MS_6, OT, SC], [r0, r1, r2, r3, w, r5, r6, r7, r8], Lg)) o from ev_f (c := (MA 0 26) ≤ v5) _ _ 4  zc15 e (fun n => Eq.refl _)
          obtain ⟨x7, zh16, zh13⟩ := bnd zh13
          have zh16 : rdx (MS_6 7) 8 v1 = some x7 := zh16
          suffices e : Ev (d + 0, 0, 0, 121, 28, [.val (.ref 1088), .val (.int p1), .val (.ref 1223), .val (.int v1), .val (.int v5)], [.int x7, .int v1, .ref 1223], (126, 120, L, [Y, T, HA, HB, RA, RB, ST, NS, I0, I1, I2, BO, FI, RG, GU, PU, MA, MN, MS_6, OT, SC], [r0, r1, r2, r3, w, r5, r6, r7, r8], Lg)) o from ev_opt (fun x7 => (d + 0, 0, 0, 121, 28, [.val (.ref 1088), .val (.int p1), .val (.ref 1223), .val (.int v1), .val (.int v5)], [.int x7, .int v1, .ref 1223], (126, 120, L, [Y, T, HA, HB, RA, RB, ST, NS, I0, I1, I2, BO, FI, RG, GU, PU, MA, MN, MS_6, OT, SC], [r0, r1, r2, r3, w, r5, r6, r7, r8], Lg))) 4 zh16 e (fun n => Eq.refl _)
          obtain ⟨x8, zh17, zh13⟩ := bnd zh13
          have zh17 : rdx (MA 7) 10 v5 = some x8 := zh17
          suffices e : Ev (d + 0, 0, 0, 121, 35, [.val (.ref 1088), .val (.int p1), .val (.ref 1223), .val (.int v1), .val (.int v5)], [.int x8, .int x7, .int v1, .ref 1223], (126, 120, L, [Y, T, HA, HB, RA, RB, ST, NS, I0, I1, I2, BO, FI, RG, GU, PU, MA, MN, MS_6, OT, SC], [r0, r1, r2, r3, w, r5, r6, r7, r8], Lg)) o from ev_opt (fun x8 => (d + 0, 0, 0, 121, 35, [.val (.ref 1088), .val (.int p1), .val (.ref 1223), .val (.int v1), .val (.int v5)], [.int x8, .int x7, .int v1, .ref 1223], (126, 120, L, [Y, T, HA, HB, RA, RB, ST, NS, I0, I1, I2, BO, FI, RG, GU, PU, MA, MN, MS_6, OT, SC], [r0, r1, r2, r3, w, r5, r6, r7, r8], Lg))) 4 zh17 e (fun n => Eq.refl _)
          obtain ⟨zt18, zh19, zh13⟩ := bnd zh13
          have zj20 : ∀ (v11 : Int32), v11 = zt18 → Ev (d + 0, 0, 0, 121, 90, [.val (.ref 1088), .val (.int p1), .val (.ref 1223), .val (.int v1), .val (.int v5)], [.int v11, .int x7, .int v1, .ref 1223], (126, 120, L, [Y, T, HA, HB, RA, RB, ST, NS, I0, I1, I2, BO, FI, RG, GU, PU, MA, MN, MS_6, OT, SC], [r0, r1, r2, r3, w, r5, r6, r7, r8], Lg)) o := by
            intro v11 ze21
            subst ze21
            obtain ⟨j12, zh22, zh13⟩ := bnd zh13
            have zh22 : ixx 8 v1 = some j12 := zh22
            suffices e : Ev (d + 0, 0, 0, 121, 92, [.val (.ref 1088), .val (.int p1), .val (.ref 1223), .val (.int v1), .val (.int v5)], [], (126, 120, L, [Y, T, HA, HB, RA, RB, ST, NS, I0, I1, I2, BO, FI, RG, GU, PU, MA, MN, (u2 MS_6 7 j12 (x7 ||| v11)), OT, SC], [r0, r1, r2, r3, w, r5, r6, r7, r8], Lg)) o from ev_opt (fun j12 => (d + 0, 0, 0, 121, 92, [.val (.ref 1088), .val (.int p1), .val (.ref 1223), .val (.int v1), .val (.int v5)], [], (126, 120, L, [Y, T, HA, HB, RA, RB, ST, NS, I0, I1, I2, BO, FI, RG, GU, PU, MA, MN, (u2 MS_6 7 j12 (x7 ||| v11)), OT, SC], [r0, r1, r2, r3, w, r5, r6, r7, r8], Lg))) 2 zh22 e (fun n => Eq.refl _)
            exact ev_b 2 (zi11 _ (Option.some.inj zh13).symm ()) (fun n => Eq.refl _)
          obtain ⟨zt23, zh24, zh19⟩ := bnd zh19
          have zj25 : zt23 = .inl () → Ev (d + 0, 0, 0, 121, 89, [.val (.ref 1088), .val (.int p1), .val (.ref 1223), .val (.int v1), .val (.int v5)], [.int x7, .int v1, .ref 1223], (126, 120, L, [Y, T, HA, HB, RA, RB, ST, NS, I0, I1, I2, BO, FI, RG, GU, PU, MA, MN, MS_6, OT, SC], [r0, r1, r2, r3, w, r5, r6, r7, r8], Lg)) o := by
            intro ze26
            have zh19 := sum_l zh19 ze26
            exact ev_b 1 (zj20 0 (Option.some.inj zh19) ) (fun n => Eq.refl _)
          by_cases zc27 : x8 = (-1)
          · have zh24 := itp zh24 zc27
            suffices e : Ev (d + 0, 0, 0, 121, 89, [.val (.ref 1088), .val (.int p1), .val (.ref 1223), .val (.int v1), .val (.int v5)], [.int x7, .int v1, .ref 1223], (126, 120, L, [Y, T, HA, HB, RA, RB, ST, NS, I0, I1, I2, BO, FI, RG, GU, PU, MA, MN, MS_6, OT, SC], [r0, r1, r2, r3, w, r5, r6, r7, r8], Lg)) o from ev_t (c := x8 = (-1)) _ _ 2  zc27 e (fun n => Eq.refl _)
            exact ev_b 0 (zj25  (Option.some.inj zh24).symm ) (fun n => Eq.refl _)
          · have zh24 := itn zh24 zc27
            suffices e : Ev (d + 0, 0, 0, 121, 39, [.val (.ref 1088), .val (.int p1), .val (.ref 1223), .val (.int v1), .val (.int v5)], [.int x7, .int v1, .ref 1223], (126, 120, L, [Y, T, HA, HB, RA, RB, ST, NS, I0, I1, I2, BO, FI, RG, GU, PU, MA, MN, MS_6, OT, SC], [r0, r1, r2, r3, w, r5, r6, r7, r8], Lg)) o from ev_f (c := x8 = (-1)) _ _ 2  zc27 e (fun n => Eq.refl _)
            by_cases zc28 : ((a_shr p1 v5) &&& 1) ≠ 0
            · have zh24 := itp zh24 zc28
              suffices e : Ev (d + 0, 0, 0, 121, 89, [.val (.ref 1088), .val (.int p1), .val (.ref 1223), .val (.int v1), .val (.int v5)], [.int x7, .int v1, .ref 1223], (126, 120, L, [Y, T, HA, HB, RA, RB, ST, NS, I0, I1, I2, BO, FI, RG, GU, PU, MA, MN, MS_6, OT, SC], [r0, r1, r2, r3, w, r5, r6, r7, r8], Lg)) o from ev_t (c := ((a_shr p1 v5) &&& 1) ≠ 0) _ _ 6  zc28 e (fun n => Eq.refl _)
              exact ev_b 0 (zj25  (Option.some.inj zh24).symm ) (fun n => Eq.refl _)
            · have zh24 := itn zh24 zc28
              suffices e : Ev (d + 0, 0, 0, 121, 48, [.val (.ref 1088), .val (.int p1), .val (.ref 1223), .val (.int v1), .val (.int v5)], [.int x7, .int v1, .ref 1223], (126, 120, L, [Y, T, HA, HB, RA, RB, ST, NS, I0, I1, I2, BO, FI, RG, GU, PU, MA, MN, MS_6, OT, SC], [r0, r1, r2, r3, w, r5, r6, r7, r8], Lg)) o from ev_f (c := ((a_shr p1 v5) &&& 1) ≠ 0) _ _ 6  zc28 e (fun n => Eq.refl _)
              obtain ⟨x9, zh29, zh24⟩ := bnd zh24
              have zh29 : rdx (MA 5) 60 ((6 * v5) + 2) = some x9 := zh29
              suffices e : Ev (d + 0, 0, 0, 121, 60, [.val (.ref 1088), .val (.int p1), .val (.ref 1223), .val (.int v1), .val (.int v5)], [.int x9, .int x7, .int v1, .ref 1223], (126, 120, L, [Y, T, HA, HB, RA, RB, ST, NS, I0, I1, I2, BO, FI, RG, GU, PU, MA, MN, MS_6, OT, SC], [r0, r1, r2, r3, w, r5, r6, r7, r8], Lg)) o from ev_opt (fun x9 => (d + 0, 0, 0, 121, 60, [.val (.ref 1088), .val (.int p1), .val (.ref 1223), .val (.int v1), .val (.int v5)], [.int x9, .int x7, .int v1, .ref 1223], (126, 120, L, [Y, T, HA, HB, RA, RB, ST, NS, I0, I1, I2, BO, FI, RG, GU, PU, MA, MN, MS_6, OT, SC], [r0, r1, r2, r3, w, r5, r6, r7, r8], Lg))) 8 zh29 e (fun n => Eq.refl _)
              by_cases zc30 : ((a_shr x9 v1) &&& 1) ≠ 1
              · have zh24 := itp zh24 zc30
                suffices e : Ev (d + 0, 0, 0, 121, 89, [.val (.ref 1088), .val (.int p1), .val (.ref 1223), .val (.int v1), .val (.int v5)], [.int x7, .int v1, .ref 1223], (126, 120, L, [Y, T, HA, HB, RA, RB, ST, NS, I0, I1, I2, BO, FI, RG, GU, PU, MA, MN, MS_6, OT, SC], [r0, r1, r2, r3, w, r5, r6, r7, r8], Lg)) o from ev_t (c := ((a_shr x9 v1) &&& 1) ≠ 1) _ _ 6  zc30 e (fun n => Eq.refl _)
                exact ev_b 0 (zj25  (Option.some.inj zh24).symm ) (fun n => Eq.refl _)
              · have zh24 := itn zh24 zc30
                suffices e : Ev (d + 0, 0, 0, 121, 68, [.val (.ref 1088), .val (.int p1), .val (.ref 1223), .val (.int v1), .val (.int v5)], [.int x7, .int v1, .ref 1223], (126, 120, L, [Y, T, HA, HB, RA, RB, ST, NS, I0, I1, I2, BO, FI, RG, GU, PU, MA, MN, MS_6, OT, SC], [r0, r1, r2, r3, w, r5, r6, r7, r8], Lg)) o from ev_f (c := ((a_shr x9 v1) &&& 1) ≠ 1) _ _ 6  zc30 e (fun n => Eq.refl _)
                obtain ⟨x10, zh31, zh24⟩ := bnd zh24
                have zh31 : rdx (MA 5) 60 ((6 * v5) + 2) = some x10 := zh31
                suffices e : Ev (d + 0, 0, 0, 121, 80, [.val (.ref 1088), .val (.int p1), .val (.ref 1223), .val (.int v1), .val (.int v5)], [.int x10, .int x7, .int v1, .ref 1223], (126, 120, L, [Y, T, HA, HB, RA, RB, ST, NS, I0, I1, I2, BO, FI, RG, GU, PU, MA, MN, MS_6, OT, SC], [r0, r1, r2, r3, w, r5, r6, r7, r8], Lg)) o from ev_opt (fun x10 => (d + 0, 0, 0, 121, 80, [.val (.ref 1088), .val (.int p1), .val (.ref 1223), .val (.int v1), .val (.int v5)], [.int x10, .int x7, .int v1, .ref 1223], (126, 120, L, [Y, T, HA, HB, RA, RB, ST, NS, I0, I1, I2, BO, FI, RG, GU, PU, MA, MN, MS_6, OT, SC], [r0, r1, r2, r3, w, r5, r6, r7, r8], Lg))) 8 zh31 e (fun n => Eq.refl _)
                have zh32 := sum_r zh19 (Option.some.inj zh24).symm
                exact ev_b 7 (zj20 (x10 &&& ((a_shl 1 v1) ^^^ (-1))) (Option.some.inj zh32) ) (fun n => Eq.refl _)
      · skip
        intro s13
        exact ev_b 2 (zi3 _ (Option.some.inj zh5).symm s13) (fun n => Eq.refl _)
  · skip
    intro s15 s16
    have ze33 := Option.some.inj h
    subst ze33
    exact ev_rete 1 ho (fun n => Eq.refl _)
set_option maxRecDepth 1000000 in
set_option maxHeartbeats 4000000 in
theorem R_f_M_findMeets_2_0 (d : Nat) (Y T HA HB RA RB ST NS I0 I1 I2 BO FI RG GU PU MA MN MS OT SC : Nat → Nat → Int32) (r0 r1 r2 r3 w r5 r6 r7 r8 : Nat) (L : Nat) (Lg : Int64) (p1 : Int32) {r : (Nat → Nat → Int32)} (h : f_M_findMeets_2 MA MS p1 = some r) : Ev (d + 0, 0, 0, 121, 0, [.val (.ref 1088), .val (.int p1), .val (.ref 1224), .val a_unk, .val a_unk], [], (126, 120, L, [Y, T, HA, HB, RA, RB, ST, NS, I0, I1, I2, BO, FI, RG, GU, PU, MA, MN, MS, OT, SC], [r0, r1, r2, r3, w, r5, r6, r7, r8], Lg)) ((0, none, (126, 120, L, [Y, T, HA, HB, RA, RB, ST, NS, I0, I1, I2, BO, FI, RG, GU, PU, MA, MN, r, OT, SC], [r0, r1, r2, r3, w, r5, r6, r7, r8], Lg)) : AOut) := by
  suffices key : ∀ o : AOut, ((0, none, (126, 120, L, [Y, T, HA, HB, RA, RB, ST, NS, I0, I1, I2, BO, FI, RG, GU, PU, MA, MN, r, OT, SC], [r0, r1, r2, r3, w, r5, r6, r7, r8], Lg)) : AOut) = o → Ev (d + 0, 0, 0, 121, 0, [.val (.ref 1088), .val (.int p1), .val (.ref 1224), .val a_unk, .val a_unk], [], (126, 120, L, [Y, T, HA, HB, RA, RB, ST, NS, I0, I1, I2, BO, FI, RG, GU, PU, MA, MN, MS, OT, SC], [r0, r1, r2, r3, w, r5, r6, r7, r8], Lg)) o from key _ rfl
  intro o ho
  obtain ⟨MS_17, zh2, h⟩ := bnd h
  suffices e : Ev (d + 0, 0, 0, 121, 2, [.val (.ref 1088), .val (.int p1), .val (.ref 1224), .val (.int 0), .val a_unk], [], (126, 120, L, [Y, T, HA, HB, RA, RB, ST, NS, I0, I1, I2, BO, FI, RG, GU, PU, MA, MN, MS, OT, SC], [r0, r1, r2, r3, w, r5, r6, r7, r8], Lg)) o from ev_b 2 e (fun n => Eq.refl _)
  refine ev_loop (δ := Value) (fun a j => (d + 0, 0, 0, 121, 2, [.val (.ref 1088), .val (.int p1), .val (.ref 1224), .val (.int a.1), .val j], [], (126, 120, L, [Y, T, HA, HB, RA, RB, ST, NS, I0, I1, I2, BO, FI, RG, GU, PU, MA, MN, a.2, OT, SC], [r0, r1, r2, r3, w, r5, r6, r7, r8], Lg))) (fun b => ∀ s15 : Value, ∀ s16 : Value, Ev (d + 0, 0, 0, 121, 104, [.val (.ref 1088), .val (.int p1), .val (.ref 1224), .val s15, .val s16], [], (126, 120, L, [Y, T, HA, HB, RA, RB, ST, NS, I0, I1, I2, BO, FI, RG, GU, PU, MA, MN, b, OT, SC], [r0, r1, r2, r3, w, r5, r6, r7, r8], Lg)) o) ?_ a_F (0, MS) MS_17 zh2 ?_ a_unk
  · rintro ⟨v1, MS_3⟩ zr6 zh5 zi3 zx4 s2
    have zh5 : f_M_findMeets_2_l2 MA p1 v1 MS_3 = some zr6 := zh5
    by_cases zc7 : 8 ≤ v1
    · have zh5 := itp zh5 zc7
      suffices e : Ev (d + 0, 0, 0, 121, 104, [.val (.ref 1088), .val (.int p1), .val (.ref 1224), .val (.int v1), .val s2], [], (126, 120, L, [Y, T, HA, HB, RA, RB, ST, NS, I0, I1, I2, BO, FI, RG, GU, PU, MA, MN, MS_3, OT, SC], [r0, r1, r2, r3, w, r5, r6, r7, r8], Lg)) o from ev_t (c := 8 ≤ v1) _ _ 3  zc7 e (fun n => Eq.refl _)
      exact ev_b 0 (zx4 _ (Option.some.inj zh5).symm (.int v1) s2) (fun n => Eq.refl _)
    · have zh5 := itn zh5 zc7
      suffices e : Ev (d + 0, 0, 0, 121, 8, [.val (.ref 1088), .val (.int p1), .val (.ref 1224), .val (.int v1), .val s2], [], (126, 120, L, [Y, T, HA, HB, RA, RB, ST, NS, I0, I1, I2, BO, FI, RG, GU, PU, MA, MN, MS_3, OT, SC], [r0, r1, r2, r3, w, r5, r6, r7, r8], Lg)) o from ev_f (c := 8 ≤ v1) _ _ 3  zc7 e (fun n => Eq.refl _)
      obtain ⟨j4, zh8, zh5⟩ := bnd zh5
      have zh8 : ixx 8 v1 = some j4 := zh8
      suffices e : Ev (d + 0, 0, 0, 121, 12, [.val (.ref 1088), .val (.int p1), .val (.ref 1224), .val (.int v1), .val s2], [], (126, 120, L, [Y, T, HA, HB, RA, RB, ST, NS, I0, I1, I2, BO, FI, RG, GU, PU, MA, MN, (u2 MS_3 8 j4 0), OT, SC], [r0, r1, r2, r3, w, r5, r6, r7, r8], Lg)) o from ev_opt (fun j4 => (d + 0, 0, 0, 121, 12, [.val (.ref 1088), .val (.int p1), .val (.ref 1224), .val (.int v1), .val s2], [], (126, 120, L, [Y, T, HA, HB, RA, RB, ST, NS, I0, I1, I2, BO, FI, RG, GU, PU, MA, MN, (u2 MS_3 8 j4 0), OT, SC], [r0, r1, r2, r3, w, r5, r6, r7, r8], Lg))) 4 zh8 e (fun n => Eq.refl _)
      obtain ⟨MS_14, zh10, zh5⟩ := bnd zh5
      suffices e : Ev (d + 0, 0, 0, 121, 15, [.val (.ref 1088), .val (.int p1), .val (.ref 1224), .val (.int v1), .val (.int 0)], [], (126, 120, L, [Y, T, HA, HB, RA, RB, ST, NS, I0, I1, I2, BO, FI, RG, GU, PU, MA, MN, (u2 MS_3 8 j4 0), OT, SC], [r0, r1, r2, r3, w, r5, r6, r7, r8], Lg)) o from ev_b 2 e (fun n => Eq.refl _)
      refine ev_loop (δ := Unit) (fun a j => (d + 0, 0, 0, 121, 15, [.val (.ref 1088), .val (.int p1), .val (.ref 1224), .val (.int v1), .val (.int a.1)], [], (126, 120, L, [Y, T, HA, HB, RA, RB, ST, NS, I0, I1, I2, BO, FI, RG, GU, PU, MA, MN, a.2, OT, SC], [r0, r1, r2, r3, w, r5, r6, r7, r8], Lg))) (fun b => ∀ s13 : Value, Ev (d + 0, 0, 0, 121, 98, [.val (.ref 1088), .val (.int p1), .val (.ref 1224), .val (.int v1), .val s13], [], (126, 120, L, [Y, T, HA, HB, RA, RB, ST, NS, I0, I1, I2, BO, FI, RG, GU, PU, MA, MN, b, OT, SC], [r0, r1, r2, r3, w, r5, r6, r7, r8], Lg)) o) ?_ a_F (0, (u2 MS_3 8 j4 0)) MS_14 zh10 ?_ ()
      · rintro ⟨v5, MS_6⟩ zr14 zh13 zi11 zx12 ⟨⟩
        have zh13 : f_M_findMeets_2_l15 MA v1 p1 v5 MS_6 = some zr14 := zh13
        by_cases zc15 : (MA 0 26) ≤ v5
        · have zh13 := itp zh13 zc15
          suffices e : Ev (d + 0, 0, 0, 121, 98, [.val (.ref 1088), .val (.int p1), .val (.ref 1224), .val (.int v1), .val (.int v5)], [], (126, 120, L, [Y, T, HA, HB, RA, RB, ST, NS, I0, I1, I2, BO, FI, RG, GU, PU, MA, MN, MS_6, OT, SC], [r0, r1, r2, r3, w, r5, r6, r7, r8], Lg)) o from ev_t (c := (MA 0 26) ≤ v5) _ _ 4  zc15 e (fun n => Eq.refl _)
          exact ev_b 0 (zx12 _ (Option.some.inj zh13).symm (.int v5)) (fun n => Eq.refl _)
        · have zh13 := itn zh13 zc15
          suffices e : Ev (d + 0, 0, 0, 121, 24, [.val (.ref 1088), .val (.int p1), .val (.ref 1224), .val (.int v1), .val (.int v5)], [], (126, 120, L, [Y, T, HA, HB, RA, RB, ST, NS, I0, I1, I2, BO, FI, RG, GU, PU, MA, MN, MS_6, OT, SC], [r0, r1, r2, r3, w, r5, r6, r7, r8], Lg)) o from ev_f (c := (MA 0 26) ≤ v5) _ _ 4  zc15 e (fun n => Eq.refl _)
          obtain ⟨x7, zh16, zh13⟩ := bnd zh13
          have zh16 : rdx (MS_6 8) 8 v1 = some x7 := zh16
          suffices e : Ev (d + 0, 0, 0, 121, 28, [.val (.ref 1088), .val (.int p1), .val (.ref 1224), .val (.int v1), .val (.int v5)], [.int x7, .int v1, .ref 1224], (126, 120, L, [Y, T, HA, HB, RA, RB, ST, NS, I0, I1, I2, BO, FI, RG, GU, PU, MA, MN, MS_6, OT, SC], [r0, r1, r2, r3, w, r5, r6, r7, r8], Lg)) o from ev_opt (fun x7 => (d + 0, 0, 0, 121, 28, [.val (.ref 1088), .val (.int p1), .val (.ref 1224), .val (.int v1), .val (.int v5)], [.int x7, .int v1, .ref 1224], (126, 120, L, [Y, T, HA, HB, RA, RB, ST, NS, I0, I1, I2, BO, FI, RG, GU, PU, MA, MN, MS_6, OT, SC], [r0, r1, r2, r3, w, r5, r6, r7, r8], Lg))) 4 zh16 e (fun n => Eq.refl _)
          obtain ⟨x8, zh17, zh13⟩ := bnd zh13
          have zh17 : rdx (MA 7) 10 v5 = some x8 := zh17
          suffices e : Ev (d + 0, 0, 0, 121, 35, [.val (.ref 1088), .val (.int p1), .val (.ref 1224), .val (.int v1), .val (.int v5)], [.int x8, .int x7, .int v1, .ref 1224], (126, 120, L, [Y, T, HA, HB, RA, RB, ST, NS, I0, I1, I2, BO, FI, RG, GU, PU, MA, MN, MS_6, OT, SC], [r0, r1, r2, r3, w, r5, r6, r7, r8], Lg)) o from ev_opt (fun x8 => (d + 0, 0, 0, 121, 35, [.val (.ref 1088), .val (.int p1), .val (.ref 1224), .val (.int v1), .val (.int v5)], [.int x8, .int x7, .int v1, .ref 1224], (126, 120, L, [Y, T, HA, HB, RA, RB, ST, NS, I0, I1, I2, BO, FI, RG, GU, PU, MA, MN, MS_6, OT, SC], [r0, r1, r2, r3, w, r5, r6, r7, r8], Lg))) 4 zh17 e (fun n => Eq.refl _)
          obtain ⟨zt18, zh19, zh13⟩ := bnd zh13
          have zj20 : ∀ (v11 : Int32), v11 = zt18 → Ev (d + 0, 0, 0, 121, 90, [.val (.ref 1088), .val (.int p1), .val (.ref 1224), .val (.int v1), .val (.int v5)], [.int v11, .int x7, .int v1, .ref 1224], (126, 120, L, [Y, T, HA, HB, RA, RB, ST, NS, I0, I1, I2, BO, FI, RG, GU, PU, MA, MN, MS_6, OT, SC], [r0, r1, r2, r3, w, r5, r6, r7, r8], Lg)) o := by
            intro v11 ze21
            subst ze21
            obtain ⟨j12, zh22, zh13⟩ := bnd zh13
            have zh22 : ixx 8 v1 = some j12 := zh22
            suffices e : Ev (d + 0, 0, 0, 121, 92, [.val (.ref 1088), .val (.int p1), .val (.ref 1224), .val (.int v1), .val (.int v5)], [], (126, 120, L, [Y, T, HA, HB, RA, RB, ST, NS, I0, I1, I2, BO, FI, RG, GU, PU, MA, MN, (u2 MS_6 8 j12 (x7 ||| v11)), OT, SC], [r0, r1, r2, r3, w, r5, r6, r7, r8], Lg)) o from ev_opt (fun j12 => (d + 0, 0, 0, 121, 92, [.val (.ref 1088), .val (.int p1), .val (.ref 1224), .val (.int v1), .val (.int v5)], [], (126, 120, L, [Y, T, HA, HB, RA, RB, ST, NS, I0, I1, I2, BO, FI, RG, GU, PU, MA, MN, (u2 MS_6 8 j12 (x7 ||| v11)), OT, SC], [r0, r1, r2, r3, w, r5, r6, r7, r8], Lg))) 2 zh22 e (fun n => Eq.refl _)
            exact ev_b 2 (zi11 _ (Option.some.inj zh13).symm ()) (fun n => Eq.refl _)
          obtain ⟨zt23, zh24, zh19⟩ := bnd zh19
          have zj25 : zt23 = .inl () → Ev (d + 0, 0, 0, 121, 89, [.val (.ref 1088), .val (.int p1), .val (.ref 1224), .val (.int v1), .val (.int v5)], [.int x7, .int v1, .ref 1224], (126, 120, L, [Y, T, HA, HB, RA, RB, ST, NS, I0, I1, I2, BO, FI, RG, GU, PU, MA, MN, MS_6, OT, SC], [r0, r1, r2, r3, w, r5, r6, r7, r8], Lg)) o := by
            intro ze26
            have zh19 := sum_l zh19 ze26
            exact ev_b 1 (zj20 0 (Option.some.inj zh19) ) (fun n => Eq.refl _)
          by_cases zc27 : x8 = (-1)
          · have zh24 := itp zh24 zc27
            suffices e : Ev (d + 0, 0, 0, 121, 89, [.val (.ref 1088), .val (.int p1), .val (.ref 1224), .val (.int v1), .val (.int v5)], [.int x7, .int v1, .ref 1224], (126, 120, L, [Y, T, HA, HB, RA, RB, ST, NS, I0, I1, I2, BO, FI, RG, GU, PU, MA, MN, MS_6, OT, SC], [r0, r1, r2, r3, w, r5, r6, r7, r8], Lg)) o from ev_t (c := x8 = (-1)) _ _ 2  zc27 e (fun n => Eq.refl _)
            exact ev_b 0 (zj25  (Option.some.inj zh24).symm ) (fun n => Eq.refl _)
          · have zh24 := itn zh24 zc27
            suffices e : Ev (d + 0, 0, 0, 121, 39, [.val (.ref 1088), .val (.int p1), .val (.ref 1224), .val (.int v1), .val (.int v5)], [.int x7, .int v1, .ref 1224], (126, 120, L, [Y, T, HA, HB, RA, RB, ST, NS, I0, I1, I2, BO, FI, RG, GU, PU, MA, MN, MS_6, OT, SC], [r0, r1, r2, r3, w, r5, r6, r7, r8], Lg)) o from ev_f (c := x8 = (-1)) _ _ 2  zc27 e (fun n => Eq.refl _)
            by_cases zc28 : ((a_shr p1 v5) &&& 1) ≠ 0
            · have zh24 := itp zh24 zc28
              suffices e : Ev (d + 0, 0, 0, 121, 89, [.val (.ref 1088), .val (.int p1), .val (.ref 1224), .val (.int v1), .val (.int v5)], [.int x7, .int v1, .ref 1224], (126, 120, L, [Y, T, HA, HB, RA, RB, ST, NS, I0, I1, I2, BO, FI, RG, GU, PU, MA, MN, MS_6, OT, SC], [r0, r1, r2, r3, w, r5, r6, r7, r8], Lg)) o from ev_t (c := ((a_shr p1 v5) &&& 1) ≠ 0) _ _ 6  zc28 e (fun n => Eq.refl _)
              exact ev_b 0 (zj25  (Option.some.inj zh24).symm ) (fun n => Eq.refl _)
            · have zh24 := itn zh24 zc28
              suffices e : Ev (d + 0, 0, 0, 121, 48, [.val (.ref 1088), .val (.int p1), .val (.ref 1224), .val (.int v1), .val (.int v5)], [.int x7, .int v1, .ref 1224], (126, 120, L, [Y, T, HA, HB, RA, RB, ST, NS, I0, I1, I2, BO, FI, RG, GU, PU, MA, MN, MS_6, OT, SC], [r0, r1, r2, r3, w, r5, r6, r7, r8], Lg)) o from ev_f (c := ((a_shr p1 v5) &&& 1) ≠ 0) _ _ 6  zc28 e (fun n => Eq.refl _)
              obtain ⟨x9, zh29, zh24⟩ := bnd zh24
              have zh29 : rdx (MA 5) 60 ((6 * v5) + 2) = some x9 := zh29
              suffices e : Ev (d + 0, 0, 0, 121, 60, [.val (.ref 1088), .val (.int p1), .val (.ref 1224), .val (.int v1), .val (.int v5)], [.int x9, .int x7, .int v1, .ref 1224], (126, 120, L, [Y, T, HA, HB, RA, RB, ST, NS, I0, I1, I2, BO, FI, RG, GU, PU, MA, MN, MS_6, OT, SC], [r0, r1, r2, r3, w, r5, r6, r7, r8], Lg)) o from ev_opt (fun x9 => (d + 0, 0, 0, 121, 60, [.val (.ref 1088), .val (.int p1), .val (.ref 1224), .val (.int v1), .val (.int v5)], [.int x9, .int x7, .int v1, .ref 1224], (126, 120, L, [Y, T, HA, HB, RA, RB, ST, NS, I0, I1, I2, BO, FI, RG, GU, PU, MA, MN, MS_6, OT, SC], [r0, r1, r2, r3, w, r5, r6, r7, r8], Lg))) 8 zh29 e (fun n => Eq.refl _)
              by_cases zc30 : ((a_shr x9 v1) &&& 1) ≠ 1
              · have zh24 := itp zh24 zc30
                suffices e : Ev (d + 0, 0, 0, 121, 89, [.val (.ref 1088), .val (.int p1), .val (.ref 1224), .val (.int v1), .val (.int v5)], [.int x7, .int v1, .ref 1224], (126, 120, L, [Y, T, HA, HB, RA, RB, ST, NS, I0, I1, I2, BO, FI, RG, GU, PU, MA, MN, MS_6, OT, SC], [r0, r1, r2, r3, w, r5, r6, r7, r8], Lg)) o from ev_t (c := ((a_shr x9 v1) &&& 1) ≠ 1) _ _ 6  zc30 e (fun n => Eq.refl _)
                exact ev_b 0 (zj25  (Option.some.inj zh24).symm ) (fun n => Eq.refl _)
              · have zh24 := itn zh24 zc30
                suffices e : Ev (d + 0, 0, 0, 121, 68, [.val (.ref 1088), .val (.int p1), .val (.ref 1224), .val (.int v1), .val (.int v5)], [.int x7, .int v1, .ref 1224], (126, 120, L, [Y, T, HA, HB, RA, RB, ST, NS, I0, I1, I2, BO, FI, RG, GU, PU, MA, MN, MS_6, OT, SC], [r0, r1, r2, r3, w, r5, r6, r7, r8], Lg)) o from ev_f (c := ((a_shr x9 v1) &&& 1) ≠ 1) _ _ 6  zc30 e (fun n => Eq.refl _)
                obtain ⟨x10, zh31, zh24⟩ := bnd zh24
                have zh31 : rdx (MA 5) 60 ((6 * v5) + 2) = some x10 := zh31
                suffices e : Ev (d + 0, 0, 0, 121, 80, [.val (.ref 1088), .val (.int p1), .val (.ref 1224), .val (.int v1), .val (.int v5)], [.int x10, .int x7, .int v1, .ref 1224], (126, 120, L, [Y, T, HA, HB, RA, RB, ST, NS, I0, I1, I2, BO, FI, RG, GU, PU, MA, MN, MS_6, OT, SC], [r0, r1, r2, r3, w, r5, r6, r7, r8], Lg)) o from ev_opt (fun x10 => (d + 0, 0, 0, 121, 80, [.val (.ref 1088), .val (.int p1), .val (.ref 1224), .val (.int v1), .val (.int v5)], [.int x10, .int x7, .int v1, .ref 1224], (126, 120, L, [Y, T, HA, HB, RA, RB, ST, NS, I0, I1, I2, BO, FI, RG, GU, PU, MA, MN, MS_6, OT, SC], [r0, r1, r2, r3, w, r5, r6, r7, r8], Lg))) 8 zh31 e (fun n => Eq.refl _)
                have zh32 := sum_r zh19 (Option.some.inj zh24).symm
                exact ev_b 7 (zj20 (x10 &&& ((a_shl 1 v1) ^^^ (-1))) (Option.some.inj zh32) ) (fun n => Eq.refl _)
      · skip
        intro s13
        exact ev_b 2 (zi3 _ (Option.some.inj zh5).symm s13) (fun n => Eq.refl _)
  · skip
    intro s15 s16
    have ze33 := Option.some.inj h
    subst ze33
    exact ev_rete 1 ho (fun n => Eq.refl _)
set_option maxRecDepth 1000000 in
set_option maxHeartbeats 4000000 in
theorem R_f_M_drops_0 (d : Nat) (Y T HA HB RA RB ST NS I0 I1 I2 BO FI RG GU PU MA MN MS OT SC : Nat → Nat → Int32) (r0 r1 r2 r3 w r5 r6 r7 r8 : Nat) (L : Nat) (Lg : Int64) {r : Int32 × (Nat → Nat → Int32) × (Nat → Nat → Int32)} (h : f_M_drops MA MS = some r) : Ev (d + 2, 0, 0, 123, 0, [.val (.ref 1088), .val a_unk, .val a_unk], [], (126, 120, L, [Y, T, HA, HB, RA, RB, ST, NS, I0, I1, I2, BO, FI, RG, GU, PU, MA, MN, MS, OT, SC], [r0, r1, r2, r3, w, r5, r6, r7, r8], Lg)) ((0, some (.int r.1), (126, 120, L, [Y, T, HA, HB, RA, RB, ST, NS, I0, I1, I2, BO, FI, RG, GU, PU, r.2.1, MN, r.2.2, OT, SC], [r0, r1, r2, r3, w, r5, r6, r7, r8], Lg)) : AOut) := by
  suffices key : ∀ o : AOut, ((0, some (.int r.1), (126, 120, L, [Y, T, HA, HB, RA, RB, ST, NS, I0, I1, I2, BO, FI, RG, GU, PU, r.2.1, MN, r.2.2, OT, SC], [r0, r1, r2, r3, w, r5, r6, r7, r8], Lg)) : AOut) = o → Ev (d + 2, 0, 0, 123, 0, [.val (.ref 1088), .val a_unk, .val a_unk], [], (126, 120, L, [Y, T, HA, HB, RA, RB, ST, NS, I0, I1, I2, BO, FI, RG, GU, PU, MA, MN, MS, OT, SC], [r0, r1, r2, r3, w, r5, r6, r7, r8], Lg)) o from key _ rfl
  intro o ho
  obtain ⟨MS_1, zh1, h⟩ := bnd h
  have zh1 : f_M_findMeets (u2 MA 0 0 0) MS 0 = some MS_1 := zh1
  have ze2 := R_f_M_findMeets_0 (d + 1) Y T HA HB RA RB ST NS I0 I1 I2 BO FI RG GU PU (u2 MA 0 0 0) MN MS OT SC r0 r1 r2 r3 w r5 r6 r7 r8 L Lg 0 zh1
  suffices e : Ev (d + 2, 0, 0, 123, 14, [.val (.ref 1088), .val a_unk, .val a_unk], [], (126, 120, L, [Y, T, HA, HB, RA, RB, ST, NS, I0, I1, I2, BO, FI, RG, GU, PU, (u2 MA 0 0 0), MN, MS_1, OT, SC], [r0, r1, r2, r3, w, r5, r6, r7, r8], Lg)) o from ev_call (fun v μ => (d + 2, 0, 0, 123, 14, [.val (.ref 1088), .val a_unk, .val a_unk], v.toList ++ [], μ)) 8 ze2 e (fun n => Eq.refl _)
  obtain ⟨zb3, zh4, h⟩ := bnd h
  suffices e : Ev (d + 2, 0, 0, 123, 18, [.val (.ref 1088), .val (.int 0), .val (.int 1)], [], (126, 120, L, [Y, T, HA, HB, RA, RB, ST, NS, I0, I1, I2, BO, FI, RG, GU, PU, (u2 MA 0 0 0), MN, MS_1, OT, SC], [r0, r1, r2, r3, w, r5, r6, r7, r8], Lg)) o from ev_b 4 e (fun n => Eq.refl _)
  refine ev_loop (δ := Unit) (fun a j => (d + 2, 0, 0, 123, 18, [.val (.ref 1088), .val (.int a.1), .val (.int a.2.1)], [], (126, 120, L, [Y, T, HA, HB, RA, RB, ST, NS, I0, I1, I2, BO, FI, RG, GU, PU, (u2 MA 0 0 0), MN, a.2.2, OT, SC], [r0, r1, r2, r3, w, r5, r6, r7, r8], Lg))) (fun b => ∀ s11 : Value, Ev (d + 2, 0, 0, 123, 74, [.val (.ref 1088), .val (.int b.1), .val s11], [], (126, 120, L, [Y, T, HA, HB, RA, RB, ST, NS, I0, I1, I2, BO, FI, RG, GU, PU, (u2 MA 0 0 0), MN, b.2, OT, SC], [r0, r1, r2, r3, w, r5, r6, r7, r8], Lg)) o) ?_ a_F (0, 1, MS_1) zb3 zh4 ?_ ()
  · rintro ⟨v2, v3, MS_4⟩ zr8 zh7 zi5 zx6 ⟨⟩
    have zh7 : f_M_drops_l18 MA v2 v3 MS_4 = some zr8 := zh7
    by_cases zc9 : (a_shl 1 ((u2 MA 0 0 0) 0 26)) ≤ v3
    · have zh7 := itp zh7 zc9
      suffices e : Ev (d + 2, 0, 0, 123, 74, [.val (.ref 1088), .val (.int v2), .val (.int v3)], [], (126, 120, L, [Y, T, HA, HB, RA, RB, ST, NS, I0, I1, I2, BO, FI, RG, GU, PU, (u2 MA 0 0 0), MN, MS_4, OT, SC], [r0, r1, r2, r3, w, r5, r6, r7, r8], Lg)) o from ev_t (c := (a_shl 1 ((u2 MA 0 0 0) 0 26)) ≤ v3) _ _ 6  zc9 e (fun n => Eq.refl _)
      exact ev_b 0 (zx6 _ (Option.some.inj zh7).symm (.int v3)) (fun n => Eq.refl _)
    · have zh7 := itn zh7 zc9
      suffices e : Ev (d + 2, 0, 0, 123, 28, [.val (.ref 1088), .val (.int v2), .val (.int v3)], [], (126, 120, L, [Y, T, HA, HB, RA, RB, ST, NS, I0, I1, I2, BO, FI, RG, GU, PU, (u2 MA 0 0 0), MN, MS_4, OT, SC], [r0, r1, r2, r3, w, r5, r6, r7, r8], Lg)) o from ev_f (c := (a_shl 1 ((u2 MA 0 0 0) 0 26)) ≤ v3) _ _ 6  zc9 e (fun n => Eq.refl _)
      obtain ⟨x5, zh10, zh7⟩ := bnd zh7
      have zh10 : f_M_ones v3 = some x5 := zh10
      have ze11 := R_f_M_ones_0 (d + 1) Y T HA HB RA RB ST NS I0 I1 I2 BO FI RG GU PU (u2 MA 0 0 0) MN MS_4 OT SC r0 r1 r2 r3 w r5 r6 r7 r8 L Lg v3 zh10
      suffices e : Ev (d + 2, 0, 0, 123, 32, [.val (.ref 1088), .val (.int v2), .val (.int v3)], [.int x5], (126, 120, L, [Y, T, HA, HB, RA, RB, ST, NS, I0, I1, I2, BO, FI, RG, GU, PU, (u2 MA 0 0 0), MN, MS_4, OT, SC], [r0, r1, r2, r3, w, r5, r6, r7, r8], Lg)) o from ev_call (fun v μ => (d + 2, 0, 0, 123, 32, [.val (.ref 1088), .val (.int v2), .val (.int v3)], v.toList ++ [], μ)) 2 ze11 e (fun n => Eq.refl _)
      obtain ⟨x6, zh12, zh7⟩ := bnd zh7
      have zh12 : f_M_ones v2 = some x6 := zh12
      have ze13 := R_f_M_ones_0 (d + 1) Y T HA HB RA RB ST NS I0 I1 I2 BO FI RG GU PU (u2 MA 0 0 0) MN MS_4 OT SC r0 r1 r2 r3 w r5 r6 r7 r8 L Lg v2 zh12
      suffices e : Ev (d + 2, 0, 0, 123, 36, [.val (.ref 1088), .val (.int v2), .val (.int v3)], [.int x6, .int x5], (126, 120, L, [Y, T, HA, HB, RA, RB, ST, NS, I0, I1, I2, BO, FI, RG, GU, PU, (u2 MA 0 0 0), MN, MS_4, OT, SC], [r0, r1, r2, r3, w, r5, r6, r7, r8], Lg)) o from ev_call (fun v μ => (d + 2, 0, 0, 123, 36, [.val (.ref 1088), .val (.int v2), .val (.int v3)], v.toList ++ [.int x5], μ)) 2 ze13 e (fun n => Eq.refl _)
      by_cases zc14 : x5 ≤ x6
      · have zh7 := itp zh7 zc14
        suffices e : Ev (d + 2, 0, 0, 123, 68, [.val (.ref 1088), .val (.int v2), .val (.int v3)], [], (126, 120, L, [Y, T, HA, HB, RA, RB, ST, NS, I0, I1, I2, BO, FI, RG, GU, PU, (u2 MA 0 0 0), MN, MS_4, OT, SC], [r0, r1, r2, r3, w, r5, r6, r7, r8], Lg)) o from ev_t (c := x5 ≤ x6) _ _ 1  zc14 e (fun n => Eq.refl _)
        exact ev_b 2 (zi5 _ (Option.some.inj zh7).symm ()) (fun n => Eq.refl _)
      · have zh7 := itn zh7 zc14
        suffices e : Ev (d + 2, 0, 0, 123, 39, [.val (.ref 1088), .val (.int v2), .val (.int v3)], [], (126, 120, L, [Y, T, HA, HB, RA, RB, ST, NS, I0, I1, I2, BO, FI, RG, GU, PU, (u2 MA 0 0 0), MN, MS_4, OT, SC], [r0, r1, r2, r3, w, r5, r6, r7, r8], Lg)) o from ev_f (c := x5 ≤ x6) _ _ 1  zc14 e (fun n => Eq.refl _)
        obtain ⟨x7, zh15, zh7⟩ := bnd zh7
        have zh15 : f_M_canMove (u2 MA 0 0 0) v3 = some x7 := zh15
        have ze16 := R_f_M_canMove_0 (d + 0) Y T HA HB RA RB ST NS I0 I1 I2 BO FI RG GU PU (u2 MA 0 0 0) MN MS_4 OT SC r0 r1 r2 r3 w r5 r6 r7 r8 L Lg v3 zh15
        suffices e : Ev (d + 2, 0, 0, 123, 44, [.val (.ref 1088), .val (.int v2), .val (.int v3)], [.int x7], (126, 120, L, [Y, T, HA, HB, RA, RB, ST, NS, I0, I1, I2, BO, FI, RG, GU, PU, (u2 MA 0 0 0), MN, MS_4, OT, SC], [r0, r1, r2, r3, w, r5, r6, r7, r8], Lg)) o from ev_call (fun v μ => (d + 2, 0, 0, 123, 44, [.val (.ref 1088), .val (.int v2), .val (.int v3)], v.toList ++ [], μ)) 3 ze16 e (fun n => Eq.refl _)
        by_cases zc17 : x7 ≠ 0
        · have zh7 := itp zh7 zc17
          suffices e : Ev (d + 2, 0, 0, 123, 50, [.val (.ref 1088), .val (.int v2), .val (.int v3)], [], (126, 120, L, [Y, T, HA, HB, RA, RB, ST, NS, I0, I1, I2, BO, FI, RG, GU, PU, (u2 MA 0 0 0), MN, MS_4, OT, SC], [r0, r1, r2, r3, w, r5, r6, r7, r8], Lg)) o from ev_t (c := x7 ≠ 0) _ _ 1  zc17 e (fun n => Eq.refl _)
          obtain ⟨MS_8, zh18, zh7⟩ := bnd zh7
          have zh18 : f_M_findMeets_2 (u2 MA 0 0 0) MS_4 v3 = some MS_8 := zh18
          have ze19 := R_f_M_findMeets_2_0 (d + 1) Y T HA HB RA RB ST NS I0 I1 I2 BO FI RG GU PU (u2 MA 0 0 0) MN MS_4 OT SC r0 r1 r2 r3 w r5 r6 r7 r8 L Lg v3 zh18
          suffices e : Ev (d + 2, 0, 0, 123, 59, [.val (.ref 1088), .val (.int v2), .val (.int v3)], [], (126, 120, L, [Y, T, HA, HB, RA, RB, ST, NS, I0, I1, I2, BO, FI, RG, GU, PU, (u2 MA 0 0 0), MN, MS_8, OT, SC], [r0, r1, r2, r3, w, r5, r6, r7, r8], Lg)) o from ev_call (fun v μ => (d + 2, 0, 0, 123, 59, [.val (.ref 1088), .val (.int v2), .val (.int v3)], v.toList ++ [], μ)) 5 ze19 e (fun n => Eq.refl _)
          obtain ⟨x9, zh20, zh7⟩ := bnd zh7
          have zh20 : f_M_isEnough MS_8 = some x9 := zh20
          have ze21 := R_f_M_isEnough_0 (d + 1) Y T HA HB RA RB ST NS I0 I1 I2 BO FI RG GU PU (u2 MA 0 0 0) MN MS_8 OT SC r0 r1 r2 r3 w r5 r6 r7 r8 L Lg zh20
          suffices e : Ev (d + 2, 0, 0, 123, 63, [.val (.ref 1088), .val (.int v2), .val (.int v3)], [.int x9], (126, 120, L, [Y, T, HA, HB, RA, RB, ST, NS, I0, I1, I2, BO, FI, RG, GU, PU, (u2 MA 0 0 0), MN, MS_8, OT, SC], [r0, r1, r2, r3, w, r5, r6, r7, r8], Lg)) o from ev_call (fun v μ => (d + 2, 0, 0, 123, 63, [.val (.ref 1088), .val (.int v2), .val (.int v3)], v.toList ++ [], μ)) 2 ze21 e (fun n => Eq.refl _)
          by_cases zc22 : x9 = 0
          · have zh7 := itp zh7 zc22
            suffices e : Ev (d + 2, 0, 0, 123, 68, [.val (.ref 1088), .val (.int v2), .val (.int v3)], [], (126, 120, L, [Y, T, HA, HB, RA, RB, ST, NS, I0, I1, I2, BO, FI, RG, GU, PU, (u2 MA 0 0 0), MN, MS_8, OT, SC], [r0, r1, r2, r3, w, r5, r6, r7, r8], Lg)) o from ev_t (c := x9 = 0) _ _ 1  zc22 e (fun n => Eq.refl _)
            exact ev_b 2 (zi5 _ (Option.some.inj zh7).symm ()) (fun n => Eq.refl _)
          · have zh7 := itn zh7 zc22
            suffices e : Ev (d + 2, 0, 0, 123, 66, [.val (.ref 1088), .val (.int v2), .val (.int v3)], [], (126, 120, L, [Y, T, HA, HB, RA, RB, ST, NS, I0, I1, I2, BO, FI, RG, GU, PU, (u2 MA 0 0 0), MN, MS_8, OT, SC], [r0, r1, r2, r3, w, r5, r6, r7, r8], Lg)) o from ev_f (c := x9 = 0) _ _ 1  zc22 e (fun n => Eq.refl _)
            exact ev_b 4 (zi5 _ (Option.some.inj zh7).symm ()) (fun n => Eq.refl _)
        · have zh7 := itn zh7 zc17
          suffices e : Ev (d + 2, 0, 0, 123, 47, [.val (.ref 1088), .val (.int v2), .val (.int v3)], [], (126, 120, L, [Y, T, HA, HB, RA, RB, ST, NS, I0, I1, I2, BO, FI, RG, GU, PU, (u2 MA 0 0 0), MN, MS_4, OT, SC], [r0, r1, r2, r3, w, r5, r6, r7, r8], Lg)) o from ev_f (c := x7 ≠ 0) _ _ 1  zc17 e (fun n => Eq.refl _)
          exact ev_b 3 (zi5 _ (Option.some.inj zh7).symm ()) (fun n => Eq.refl _)
  · obtain ⟨v10, MS_12⟩ := zb3
    intro s11
    have ze23 := Option.some.inj h
    subst ze23
    exact ev_rete 2 ho (fun n => Eq.refl _)
set_option maxRecDepth 1000000 in
set_option maxHeartbeats 4000000 in
theorem R_f_M_gapOf_0 (d : Nat) (Y T HA HB RA RB ST NS I0 I1 I2 BO FI RG GU PU MA MN MS OT SC : Nat → Nat → Int32) (r0 r1 r2 r3 w r5 r6 r7 r8 : Nat) (L : Nat) (Lg : Int64) (p1 : Int32) {r : Int32} (h : f_M_gapOf MA p1 = some r) : Ev (d + 0, 0, 0, 124, 0, [.val (.ref 1088), .val (.int p1), .val a_unk, .val a_unk], [], (126, 120, L, [Y, T, HA, HB, RA, RB, ST, NS, I0, I1, I2, BO, FI, RG, GU, PU, MA, MN, MS, OT, SC], [r0, r1, r2, r3, w, r5, r6, r7, r8], Lg)) ((0, some (.int r), (126, 120, L, [Y, T, HA, HB, RA, RB, ST, NS, I0, I1, I2, BO, FI, RG, GU, PU, MA, MN, MS, OT, SC], [r0, r1, r2, r3, w, r5, r6, r7, r8], Lg)) : AOut) := by
  suffices key : ∀ o : AOut, ((0, some (.int r), (126, 120, L, [Y, T, HA, HB, RA, RB, ST, NS, I0, I1, I2, BO, FI, RG, GU, PU, MA, MN, MS, OT, SC], [r0, r1, r2, r3, w, r5, r6, r7, r8], Lg)) : AOut) = o → Ev (d + 0, 0, 0, 124, 0, [.val (.ref 1088), .val (.int p1), .val a_unk, .val a_unk], [], (126, 120, L, [Y, T, HA, HB, RA, RB, ST, NS, I0, I1, I2, BO, FI, RG, GU, PU, MA, MN, MS, OT, SC], [r0, r1, r2, r3, w, r5, r6, r7, r8], Lg)) o from key _ rfl
  intro o ho
  obtain ⟨v5, zh2, h⟩ := bnd h
  suffices e : Ev (d + 0, 0, 0, 124, 11, [.val (.ref 1088), .val (.int p1), .val (.int ((a_shl 1 (MA 0 23)) - 1)), .val (.int 0)], [], (126, 120, L, [Y, T, HA, HB, RA, RB, ST, NS, I0, I1, I2, BO, FI, RG, GU, PU, MA, MN, MS, OT, SC], [r0, r1, r2, r3, w, r5, r6, r7, r8], Lg)) o from ev_b 9 e (fun n => Eq.refl _)
  refine ev_loop (δ := Unit) (fun a j => (d + 0, 0, 0, 124, 11, [.val (.ref 1088), .val (.int p1), .val (.int a.1), .val (.int a.2)], [], (126, 120, L, [Y, T, HA, HB, RA, RB, ST, NS, I0, I1, I2, BO, FI, RG, GU, PU, MA, MN, MS, OT, SC], [r0, r1, r2, r3, w, r5, r6, r7, r8], Lg))) (fun b => ∀ s6 : Value, Ev (d + 0, 0, 0, 124, 53, [.val (.ref 1088), .val (.int p1), .val (.int b), .val s6], [], (126, 120, L, [Y, T, HA, HB, RA, RB, ST, NS, I0, I1, I2, BO, FI, RG, GU, PU, MA, MN, MS, OT, SC], [r0, r1, r2, r3, w, r5, r6, r7, r8], Lg)) o) ?_ a_F (((a_shl 1 (MA 0 23)) - 1), 0) v5 zh2 ?_ ()
  · rintro ⟨v1, v2⟩ zr6 zh5 zi3 zx4 ⟨⟩
    have zh5 : f_M_gapOf_l11 MA p1 v1 v2 = some zr6 := zh5
    by_cases zc7 : (MA 0 25) ≤ v2
    · have zh5 := itp zh5 zc7
      suffices e : Ev (d + 0, 0, 0, 124, 53, [.val (.ref 1088), .val (.int p1), .val (.int v1), .val (.int v2)], [], (126, 120, L, [Y, T, HA, HB, RA, RB, ST, NS, I0, I1, I2, BO, FI, RG, GU, PU, MA, MN, MS, OT, SC], [r0, r1, r2, r3, w, r5, r6, r7, r8], Lg)) o from ev_t (c := (MA 0 25) ≤ v2) _ _ 4  zc7 e (fun n => Eq.refl _)
      exact ev_b 0 (zx4 _ (Option.some.inj zh5).symm (.int v2)) (fun n => Eq.refl _)
    · have zh5 := itn zh5 zc7
      suffices e : Ev (d + 0, 0, 0, 124, 19, [.val (.ref 1088), .val (.int p1), .val (.int v1), .val (.int v2)], [], (126, 120, L, [Y, T, HA, HB, RA, RB, ST, NS, I0, I1, I2, BO, FI, RG, GU, PU, MA, MN, MS, OT, SC], [r0, r1, r2, r3, w, r5, r6, r7, r8], Lg)) o from ev_f (c := (MA 0 25) ≤ v2) _ _ 4  zc7 e (fun n => Eq.refl _)
      obtain ⟨zt8, zh9, zh5⟩ := bnd zh5
      have zj10 : ∀ (v4 : Int32), v4 = zt8 → Ev (d + 0, 0, 0, 124, 45, [.val (.ref 1088), .val (.int p1), .val (.int v1), .val (.int v2)], [.int v4, .int v1], (126, 120, L, [Y, T, HA, HB, RA, RB, ST, NS, I0, I1, I2, BO, FI, RG, GU, PU, MA, MN, MS, OT, SC], [r0, r1, r2, r3, w, r5, r6, r7, r8], Lg)) o := by
        intro v4 ze11
        subst ze11
        exact ev_b 4 (zi3 _ (Option.some.inj zh5).symm ()) (fun n => Eq.refl _)
      by_cases zc12 : ((a_shr p1 v2) &&& 1) ≠ 1
      · have zh9 := itp zh9 zc12
        suffices e : Ev (d + 0, 0, 0, 124, 44, [.val (.ref 1088), .val (.int p1), .val (.int v1), .val (.int v2)], [.int v1], (126, 120, L, [Y, T, HA, HB, RA, RB, ST, NS, I0, I1, I2, BO, FI, RG, GU, PU, MA, MN, MS, OT, SC], [r0, r1, r2, r3, w, r5, r6, r7, r8], Lg)) o from ev_t (c := ((a_shr p1 v2) &&& 1) ≠ 1) _ _ 8  zc12 e (fun n => Eq.refl _)
        exact ev_b 1 (zj10 (-1) (Option.some.inj zh9) ) (fun n => Eq.refl _)
      · have zh9 := itn zh9 zc12
        suffices e : Ev (d + 0, 0, 0, 124, 29, [.val (.ref 1088), .val (.int p1), .val (.int v1), .val (.int v2)], [.int v1], (126, 120, L, [Y, T, HA, HB, RA, RB, ST, NS, I0, I1, I2, BO, FI, RG, GU, PU, MA, MN, MS, OT, SC], [r0, r1, r2, r3, w, r5, r6, r7, r8], Lg)) o from ev_f (c := ((a_shr p1 v2) &&& 1) ≠ 1) _ _ 8  zc12 e (fun n => Eq.refl _)
        obtain ⟨x3, zh13, zh9⟩ := bnd zh9
        have zh13 : rdx (MA 4) 24 ((3 * v2) + 2) = some x3 := zh13
        suffices e : Ev (d + 0, 0, 0, 124, 39, [.val (.ref 1088), .val (.int p1), .val (.int v1), .val (.int v2)], [.int x3, .int v1], (126, 120, L, [Y, T, HA, HB, RA, RB, ST, NS, I0, I1, I2, BO, FI, RG, GU, PU, MA, MN, MS, OT, SC], [r0, r1, r2, r3, w, r5, r6, r7, r8], Lg)) o from ev_opt (fun x3 => (d + 0, 0, 0, 124, 39, [.val (.ref 1088), .val (.int p1), .val (.int v1), .val (.int v2)], [.int x3, .int v1], (126, 120, L, [Y, T, HA, HB, RA, RB, ST, NS, I0, I1, I2, BO, FI, RG, GU, PU, MA, MN, MS, OT, SC], [r0, r1, r2, r3, w, r5, r6, r7, r8], Lg))) 8 zh13 e (fun n => Eq.refl _)
        exact ev_b 3 (zj10 (x3 ^^^ (-1)) (Option.some.inj zh9) ) (fun n => Eq.refl _)
  · skip
    intro s6
    obtain ⟨v12, zh15, h⟩ := bnd h
    suffices e : Ev (d + 0, 0, 0, 124, 55, [.val (.ref 1088), .val (.int p1), .val (.int v5), .val (.int 0)], [], (126, 120, L, [Y, T, HA, HB, RA, RB, ST, NS, I0, I1, I2, BO, FI, RG, GU, PU, MA, MN, MS, OT, SC], [r0, r1, r2, r3, w, r5, r6, r7, r8], Lg)) o from ev_b 2 e (fun n => Eq.refl _)
    refine ev_loop (δ := Unit) (fun a j => (d + 0, 0, 0, 124, 55, [.val (.ref 1088), .val (.int p1), .val (.int a.1), .val (.int a.2)], [], (126, 120, L, [Y, T, HA, HB, RA, RB, ST, NS, I0, I1, I2, BO, FI, RG, GU, PU, MA, MN, MS, OT, SC], [r0, r1, r2, r3, w, r5, r6, r7, r8], Lg))) (fun b => ∀ s13 : Value, Ev (d + 0, 0, 0, 124, 110, [.val (.ref 1088), .val (.int p1), .val (.int b), .val s13], [], (126, 120, L, [Y, T, HA, HB, RA, RB, ST, NS, I0, I1, I2, BO, FI, RG, GU, PU, MA, MN, MS, OT, SC], [r0, r1, r2, r3, w, r5, r6, r7, r8], Lg)) o) ?_ a_F (v5, 0) v12 zh15 ?_ ()
    · rintro ⟨v7, v8⟩ zr19 zh18 zi16 zx17 ⟨⟩
      have zh18 : f_M_gapOf_l55 MA p1 v7 v8 = some zr19 := zh18
      by_cases zc20 : (MA 0 26) ≤ v8
      · have zh18 := itp zh18 zc20
        suffices e : Ev (d + 0, 0, 0, 124, 110, [.val (.ref 1088), .val (.int p1), .val (.int v7), .val (.int v8)], [], (126, 120, L, [Y, T, HA, HB, RA, RB, ST, NS, I0, I1, I2, BO, FI, RG, GU, PU, MA, MN, MS, OT, SC], [r0, r1, r2, r3, w, r5, r6, r7, r8], Lg)) o from ev_t (c := (MA 0 26) ≤ v8) _ _ 4  zc20 e (fun n => Eq.refl _)
        exact ev_b 0 (zx17 _ (Option.some.inj zh18).symm (.int v8)) (fun n => Eq.refl _)
      · have zh18 := itn zh18 zc20
        suffices e : Ev (d + 0, 0, 0, 124, 63, [.val (.ref 1088), .val (.int p1), .val (.int v7), .val (.int v8)], [], (126, 120, L, [Y, T, HA, HB, RA, RB, ST, NS, I0, I1, I2, BO, FI, RG, GU, PU, MA, MN, MS, OT, SC], [r0, r1, r2, r3, w, r5, r6, r7, r8], Lg)) o from ev_f (c := (MA 0 26) ≤ v8) _ _ 4  zc20 e (fun n => Eq.refl _)
        obtain ⟨x9, zh21, zh18⟩ := bnd zh18
        have zh21 : rdx (MA 7) 10 v8 = some x9 := zh21
        suffices e : Ev (d + 0, 0, 0, 124, 69, [.val (.ref 1088), .val (.int p1), .val (.int v7), .val (.int v8)], [.int x9], (126, 120, L, [Y, T, HA, HB, RA, RB, ST, NS, I0, I1, I2, BO, FI, RG, GU, PU, MA, MN, MS, OT, SC], [r0, r1, r2, r3, w, r5, r6, r7, r8], Lg)) o from ev_opt (fun x9 => (d + 0, 0, 0, 124, 69, [.val (.ref 1088), .val (.int p1), .val (.int v7), .val (.int v8)], [.int x9], (126, 120, L, [Y, T, HA, HB, RA, RB, ST, NS, I0, I1, I2, BO, FI, RG, GU, PU, MA, MN, MS, OT, SC], [r0, r1, r2, r3, w, r5, r6, r7, r8], Lg))) 4 zh21 e (fun n => Eq.refl _)
        by_cases zc22 : x9 = (-1)
        · have zh18 := itp zh18 zc22
          suffices e : Ev (d + 0, 0, 0, 124, 104, [.val (.ref 1088), .val (.int p1), .val (.int v7), .val (.int v8)], [], (126, 120, L, [Y, T, HA, HB, RA, RB, ST, NS, I0, I1, I2, BO, FI, RG, GU, PU, MA, MN, MS, OT, SC], [r0, r1, r2, r3, w, r5, r6, r7, r8], Lg)) o from ev_t (c := x9 = (-1)) _ _ 2  zc22 e (fun n => Eq.refl _)
          exact ev_b 2 (zi16 _ (Option.some.inj zh18).symm ()) (fun n => Eq.refl _)
        · have zh18 := itn zh18 zc22
          suffices e : Ev (d + 0, 0, 0, 124, 73, [.val (.ref 1088), .val (.int p1), .val (.int v7), .val (.int v8)], [], (126, 120, L, [Y, T, HA, HB, RA, RB, ST, NS, I0, I1, I2, BO, FI, RG, GU, PU, MA, MN, MS, OT, SC], [r0, r1, r2, r3, w, r5, r6, r7, r8], Lg)) o from ev_f (c := x9 = (-1)) _ _ 2  zc22 e (fun n => Eq.refl _)
          obtain ⟨x10, zh23, zh18⟩ := bnd zh18
          have zh23 : rdx (MA 5) 60 ((6 * v8) + 2) = some x10 := zh23
          suffices e : Ev (d + 0, 0, 0, 124, 84, [.val (.ref 1088), .val (.int p1), .val (.int v7), .val (.int v8)], [.int x10], (126, 120, L, [Y, T, HA, HB, RA, RB, ST, NS, I0, I1, I2, BO, FI, RG, GU, PU, MA, MN, MS, OT, SC], [r0, r1, r2, r3, w, r5, r6, r7, r8], Lg)) o from ev_opt (fun x10 => (d + 0, 0, 0, 124, 84, [.val (.ref 1088), .val (.int p1), .val (.int v7), .val (.int v8)], [.int x10], (126, 120, L, [Y, T, HA, HB, RA, RB, ST, NS, I0, I1, I2, BO, FI, RG, GU, PU, MA, MN, MS, OT, SC], [r0, r1, r2, r3, w, r5, r6, r7, r8], Lg))) 8 zh23 e (fun n => Eq.refl _)
          by_cases zc24 : (x10 &&& p1) = 0
          · have zh18 := itp zh18 zc24
            suffices e : Ev (d + 0, 0, 0, 124, 104, [.val (.ref 1088), .val (.int p1), .val (.int v7), .val (.int v8)], [], (126, 120, L, [Y, T, HA, HB, RA, RB, ST, NS, I0, I1, I2, BO, FI, RG, GU, PU, MA, MN, MS, OT, SC], [r0, r1, r2, r3, w, r5, r6, r7, r8], Lg)) o from ev_t (c := (x10 &&& p1) = 0) _ _ 3  zc24 e (fun n => Eq.refl _)
            exact ev_b 2 (zi16 _ (Option.some.inj zh18).symm ()) (fun n => Eq.refl _)
          · have zh18 := itn zh18 zc24
            suffices e : Ev (d + 0, 0, 0, 124, 89, [.val (.ref 1088), .val (.int p1), .val (.int v7), .val (.int v8)], [], (126, 120, L, [Y, T, HA, HB, RA, RB, ST, NS, I0, I1, I2, BO, FI, RG, GU, PU, MA, MN, MS, OT, SC], [r0, r1, r2, r3, w, r5, r6, r7, r8], Lg)) o from ev_f (c := (x10 &&& p1) = 0) _ _ 3  zc24 e (fun n => Eq.refl _)
            obtain ⟨x11, zh25, zh18⟩ := bnd zh18
            have zh25 : rdx (MA 7) 10 v8 = some x11 := zh25
            suffices e : Ev (d + 0, 0, 0, 124, 97, [.val (.ref 1088), .val (.int p1), .val (.int v7), .val (.int v8)], [.int x11, .int 1, .int v7], (126, 120, L, [Y, T, HA, HB, RA, RB, ST, NS, I0, I1, I2, BO, FI, RG, GU, PU, MA, MN, MS, OT, SC], [r0, r1, r2, r3, w, r5, r6, r7, r8], Lg)) o from ev_opt (fun x11 => (d + 0, 0, 0, 124, 97, [.val (.ref 1088), .val (.int p1), .val (.int v7), .val (.int v8)], [.int x11, .int 1, .int v7], (126, 120, L, [Y, T, HA, HB, RA, RB, ST, NS, I0, I1, I2, BO, FI, RG, GU, PU, MA, MN, MS, OT, SC], [r0, r1, r2, r3, w, r5, r6, r7, r8], Lg))) 6 zh25 e (fun n => Eq.refl _)
            suffices e : Ev (d + 0, 0, 0, 124, 99, [.val (.ref 1088), .val (.int p1), .val (.int v7), .val (.int v8)], [.int (x11 / 3), .int 1, .int v7], (126, 120, L, [Y, T, HA, HB, RA, RB, ST, NS, I0, I1, I2, BO, FI, RG, GU, PU, MA, MN, MS, OT, SC], [r0, r1, r2, r3, w, r5, r6, r7, r8], Lg)) o from ev_b 2 e (fun n => Eq.refl _)
            exact ev_b 7 (zi16 _ (Option.some.inj zh18).symm ()) (fun n => Eq.refl _)
    · skip
      intro s13
      have ze26 := Option.some.inj h
      subst ze26
      exact ev_rete 2 ho (fun n => Eq.refl _)
set_option maxRecDepth 1000000 in
set_option maxHeartbeats 4000000 in
theorem R_f_M_arePeople_0 (d : Nat) (Y T HA HB RA RB ST NS I0 I1 I2 BO FI RG GU PU MA MN MS OT SC : Nat → Nat → Int32) (r0 r1 r2 r3 w r5 r6 r7 r8 : Nat) (L : Nat) (Lg : Int64) (p1 : Int32) (p2 : Int32) {r : Int32 × (Nat → Nat → Int32)} (h : f_M_arePeople MA p1 p2 = some r) : Ev (d + 1, 0, 0, 125, 0, [.val (.ref 1088), .val (.int p1), .val (.int p2)], [], (126, 120, L, [Y, T, HA, HB, RA, RB, ST, NS, I0, I1, I2, BO, FI, RG, GU, PU, MA, MN, MS, OT, SC], [r0, r1, r2, r3, w, r5, r6, r7, r8], Lg)) ((0, some (.int r.1), (126, 120, L, [Y, T, HA, HB, RA, RB, ST, NS, I0, I1, I2, BO, FI, RG, GU, PU, r.2, MN, MS, OT, SC], [r0, r1, r2, r3, w, r5, r6, r7, r8], Lg)) : AOut) := by
  suffices key : ∀ o : AOut, ((0, some (.int r.1), (126, 120, L, [Y, T, HA, HB, RA, RB, ST, NS, I0, I1, I2, BO, FI, RG, GU, PU, r.2, MN, MS, OT, SC], [r0, r1, r2, r3, w, r5, r6, r7, r8], Lg)) : AOut) = o → Ev (d + 1, 0, 0, 125, 0, [.val (.ref 1088), .val (.int p1), .val (.int p2)], [], (126, 120, L, [Y, T, HA, HB, RA, RB, ST, NS, I0, I1, I2, BO, FI, RG, GU, PU, MA, MN, MS, OT, SC], [r0, r1, r2, r3, w, r5, r6, r7, r8], Lg)) o from key _ rfl
  intro o ho
  obtain ⟨x1, zh1, h⟩ := bnd h
  have zh1 : f_M_within p1 0 ((a_shl 1 (MA 0 25)) - 1) = some x1 := zh1
  have ze2 := R_f_M_within_0 (d + 0) Y T HA HB RA RB ST NS I0 I1 I2 BO FI RG GU PU MA MN MS OT SC r0 r1 r2 r3 w r5 r6 r7 r8 L Lg p1 0 ((a_shl 1 (MA 0 25)) - 1) zh1
  suffices e : Ev (d + 1, 0, 0, 125, 14, [.val (.ref 1088), .val (.int p1), .val (.int p2)], [.int x1, .ref 1088], (126, 120, L, [Y, T, HA, HB, RA, RB, ST, NS, I0, I1, I2, BO, FI, RG, GU, PU, MA, MN, MS, OT, SC], [r0, r1, r2, r3, w, r5, r6, r7, r8], Lg)) o from ev_call (fun v μ => (d + 1, 0, 0, 125, 14, [.val (.ref 1088), .val (.int p1), .val (.int p2)], v.toList ++ [.ref 1088], μ)) 10 ze2 e (fun n => Eq.refl _)
  obtain ⟨zt3, zh4, h⟩ := bnd h
  have zj5 : ∀ (v2 : Int32), v2 = zt3 → Ev (d + 1, 0, 0, 125, 26, [.val (.ref 1088), .val (.int p1), .val (.int p2)], [.int v2, .ref 1088], (126, 120, L, [Y, T, HA, HB, RA, RB, ST, NS, I0, I1, I2, BO, FI, RG, GU, PU, MA, MN, MS, OT, SC], [r0, r1, r2, r3, w, r5, r6, r7, r8], Lg)) o := by
    intro v2 ze6
    subst ze6
    obtain ⟨⟨x3, MA_4⟩, zh7, h⟩ := bnd h
    have zh7 : f_M_may MA v2 1 1 = some (x3, MA_4) := zh7
    have ze8 := R_f_M_may_0 (d + 0) Y T HA HB RA RB ST NS I0 I1 I2 BO FI RG GU PU MA MN MS OT SC r0 r1 r2 r3 w r5 r6 r7 r8 L Lg v2 1 1 zh7
    suffices e : Ev (d + 1, 0, 0, 125, 31, [.val (.ref 1088), .val (.int p1), .val (.int p2)], [.int x3], (126, 120, L, [Y, T, HA, HB, RA, RB, ST, NS, I0, I1, I2, BO, FI, RG, GU, PU, MA_4, MN, MS, OT, SC], [r0, r1, r2, r3, w, r5, r6, r7, r8], Lg)) o from ev_call (fun v μ => (d + 1, 0, 0, 125, 31, [.val (.ref 1088), .val (.int p1), .val (.int p2)], v.toList ++ [], μ)) 3 ze8 e (fun n => Eq.refl _)
    have ze9 := Option.some.inj h
    subst ze9
    exact ev_rete 1 ho (fun n => Eq.refl _)
  obtain ⟨zt10, zh11, zh4⟩ := bnd zh4
  have zj12 : zt10 = .inl () → Ev (d + 1, 0, 0, 125, 25, [.val (.ref 1088), .val (.int p1), .val (.int p2)], [.ref 1088], (126, 120, L, [Y, T, HA, HB, RA, RB, ST, NS, I0, I1, I2, BO, FI, RG, GU, PU, MA, MN, MS, OT, SC], [r0, r1, r2, r3, w, r5, r6, r7, r8], Lg)) o := by
    intro ze13
    have zh4 := sum_l zh4 ze13
    exact ev_b 1 (zj5 0 (Option.some.inj zh4) ) (fun n => Eq.refl _)
  by_cases zc14 : x1 = 0
  · have zh11 := itp zh11 zc14
    suffices e : Ev (d + 1, 0, 0, 125, 25, [.val (.ref 1088), .val (.int p1), .val (.int p2)], [.ref 1088], (126, 120, L, [Y, T, HA, HB, RA, RB, ST, NS, I0, I1, I2, BO, FI, RG, GU, PU, MA, MN, MS, OT, SC], [r0, r1, r2, r3, w, r5, r6, r7, r8], Lg)) o from ev_t (c := x1 = 0) _ _ 1  zc14 e (fun n => Eq.refl _)
    exact ev_b 0 (zj12  (Option.some.inj zh11).symm ) (fun n => Eq.refl _)
  · have zh11 := itn zh11 zc14
    suffices e : Ev (d + 1, 0, 0, 125, 17, [.val (.ref 1088), .val (.int p1), .val (.int p2)], [.ref 1088], (126, 120, L, [Y, T, HA, HB, RA, RB, ST, NS, I0, I1, I2, BO, FI, RG, GU, PU, MA, MN, MS, OT, SC], [r0, r1, r2, r3, w, r5, r6, r7, r8], Lg)) o from ev_f (c := x1 = 0) _ _ 1  zc14 e (fun n => Eq.refl _)
    by_cases zc15 : p2 = 0
    · have zh11 := itp zh11 zc15
      suffices e : Ev (d + 1, 0, 0, 125, 25, [.val (.ref 1088), .val (.int p1), .val (.int p2)], [.ref 1088], (126, 120, L, [Y, T, HA, HB, RA, RB, ST, NS, I0, I1, I2, BO, FI, RG, GU, PU, MA, MN, MS, OT, SC], [r0, r1, r2, r3, w, r5, r6, r7, r8], Lg)) o from ev_t (c := p2 = 0) _ _ 2  zc15 e (fun n => Eq.refl _)
      exact ev_b 0 (zj12  (Option.some.inj zh11).symm ) (fun n => Eq.refl _)
    · have zh11 := itn zh11 zc15
      suffices e : Ev (d + 1, 0, 0, 125, 21, [.val (.ref 1088), .val (.int p1), .val (.int p2)], [.ref 1088], (126, 120, L, [Y, T, HA, HB, RA, RB, ST, NS, I0, I1, I2, BO, FI, RG, GU, PU, MA, MN, MS, OT, SC], [r0, r1, r2, r3, w, r5, r6, r7, r8], Lg)) o from ev_f (c := p2 = 0) _ _ 2  zc15 e (fun n => Eq.refl _)
      have zh16 := sum_r zh4 (Option.some.inj zh11).symm
      exact ev_b 2 (zj5 1 (Option.some.inj zh16) ) (fun n => Eq.refl _)
set_option maxRecDepth 1000000 in
set_option maxHeartbeats 4000000 in
theorem R_f_M_gap_0 (d : Nat) (Y T HA HB RA RB ST NS I0 I1 I2 BO FI RG GU PU MA MN MS OT SC : Nat → Nat → Int32) (r0 r1 r2 r3 w r5 r6 r7 r8 : Nat) (L : Nat) (Lg : Int64) (p1 : Int32) {r : Int32 × (Nat → Nat → Int32)} (h : f_M_gap MA p1 = some r) : Ev (d + 2, 0, 0, 126, 0, [.val (.ref 1088), .val (.int p1)], [], (126, 120, L, [Y, T, HA, HB, RA, RB, ST, NS, I0, I1, I2, BO, FI, RG, GU, PU, MA, MN, MS, OT, SC], [r0, r1, r2, r3, w, r5, r6, r7, r8], Lg)) ((0, some (.int r.1), (126, 120, L, [Y, T, HA, HB, RA, RB, ST, NS, I0, I1, I2, BO, FI, RG, GU, PU, r.2, MN, MS, OT, SC], [r0, r1, r2, r3, w, r5, r6, r7, r8], Lg)) : AOut) := by
  suffices key : ∀ o : AOut, ((0, some (.int r.1), (126, 120, L, [Y, T, HA, HB, RA, RB, ST, NS, I0, I1, I2, BO, FI, RG, GU, PU, r.2, MN, MS, OT, SC], [r0, r1, r2, r3, w, r5, r6, r7, r8], Lg)) : AOut) = o → Ev (d + 2, 0, 0, 126, 0, [.val (.ref 1088), .val (.int p1)], [], (126, 120, L, [Y, T, HA, HB, RA, RB, ST, NS, I0, I1, I2, BO, FI, RG, GU, PU, MA, MN, MS, OT, SC], [r0, r1, r2, r3, w, r5, r6, r7, r8], Lg)) o from key _ rfl
  intro o ho
  obtain ⟨⟨x1, MA_2⟩, zh1, h⟩ := bnd h
  have zh1 : f_M_arePeople (u2 MA 0 0 0) p1 1 = some (x1, MA_2) := zh1
  have ze2 := R_f_M_arePeople_0 (d + 0) Y T HA HB RA RB ST NS I0 I1 I2 BO FI RG GU PU (u2 MA 0 0 0) MN MS OT SC r0 r1 r2 r3 w r5 r6 r7 r8 L Lg p1 1 zh1
  suffices e : Ev (d + 2, 0, 0, 126, 11, [.val (.ref 1088), .val (.int p1)], [.int x1], (126, 120, L, [Y, T, HA, HB, RA, RB, ST, NS, I0, I1, I2, BO, FI, RG, GU, PU, MA_2, MN, MS, OT, SC], [r0, r1, r2, r3, w, r5, r6, r7, r8], Lg)) o from ev_call (fun v μ => (d + 2, 0, 0, 126, 11, [.val (.ref 1088), .val (.int p1)], v.toList ++ [], μ)) 7 ze2 e (fun n => Eq.refl _)
  by_cases zc3 : x1 ≠ 0
  · have h := itp h zc3
    suffices e : Ev (d + 2, 0, 0, 126, 16, [.val (.ref 1088), .val (.int p1)], [], (126, 120, L, [Y, T, HA, HB, RA, RB, ST, NS, I0, I1, I2, BO, FI, RG, GU, PU, MA_2, MN, MS, OT, SC], [r0, r1, r2, r3, w, r5, r6, r7, r8], Lg)) o from ev_t (c := x1 ≠ 0) _ _ 1  zc3 e (fun n => Eq.refl _)
    obtain ⟨x3, zh4, h⟩ := bnd h
    have zh4 : f_M_gapOf MA_2 p1 = some x3 := zh4
    have ze5 := R_f_M_gapOf_0 (d + 1) Y T HA HB RA RB ST NS I0 I1 I2 BO FI RG GU PU MA_2 MN MS OT SC r0 r1 r2 r3 w r5 r6 r7 r8 L Lg p1 zh4
    suffices e : Ev (d + 2, 0, 0, 126, 21, [.val (.ref 1088), .val (.int p1)], [.int x3], (126, 120, L, [Y, T, HA, HB, RA, RB, ST, NS, I0, I1, I2, BO, FI, RG, GU, PU, MA_2, MN, MS, OT, SC], [r0, r1, r2, r3, w, r5, r6, r7, r8], Lg)) o from ev_call (fun v μ => (d + 2, 0, 0, 126, 21, [.val (.ref 1088), .val (.int p1)], v.toList ++ [], μ)) 3 ze5 e (fun n => Eq.refl _)
    have ze6 := Option.some.inj h
    subst ze6
    exact ev_rete 1 ho (fun n => Eq.refl _)
  · have h := itn h zc3
    suffices e : Ev (d + 2, 0, 0, 126, 14, [.val (.ref 1088), .val (.int p1)], [], (126, 120, L, [Y, T, HA, HB, RA, RB, ST, NS, I0, I1, I2, BO, FI, RG, GU, PU, MA_2, MN, MS, OT, SC], [r0, r1, r2, r3, w, r5, r6, r7, r8], Lg)) o from ev_f (c := x1 ≠ 0) _ _ 1  zc3 e (fun n => Eq.refl _)
    have ze7 := Option.some.inj h
    subst ze7
    exact ev_rete 2 ho (fun n => Eq.refl _)
set_option maxRecDepth 1000000 in
set_option maxHeartbeats 4000000 in
theorem R_f_M_together_0 (d : Nat) (Y T HA HB RA RB ST NS I0 I1 I2 BO FI RG GU PU MA MN MS OT SC : Nat → Nat → Int32) (r0 r1 r2 r3 w r5 r6 r7 r8 : Nat) (L : Nat) (Lg : Int64) (p1 : Int32) (p2 : Int32) {r : Int32 × (Nat → Nat → Int32)} (h : f_M_together MA p1 p2 = some r) : Ev (d + 2, 0, 0, 127, 0, [.val (.ref 1088), .val (.int p1), .val (.int p2), .val a_unk, .val a_unk, .val a_unk], [], (126, 120, L, [Y, T, HA, HB, RA, RB, ST, NS, I0, I1, I2, BO, FI, RG, GU, PU, MA, MN, MS, OT, SC], [r0, r1, r2, r3, w, r5, r6, r7, r8], Lg)) ((0, some (.int r.1), (126, 120, L, [Y, T, HA, HB, RA, RB, ST, NS, I0, I1, I2, BO, FI, RG, GU, PU, r.2, MN, MS, OT, SC], [r0, r1, r2, r3, w, r5, r6, r7, r8], Lg)) : AOut) := by
  suffices key : ∀ o : AOut, ((0, some (.int r.1), (126, 120, L, [Y, T, HA, HB, RA, RB, ST, NS, I0, I1, I2, BO, FI, RG, GU, PU, r.2, MN, MS, OT, SC], [r0, r1, r2, r3, w, r5, r6, r7, r8], Lg)) : AOut) = o → Ev (d + 2, 0, 0, 127, 0, [.val (.ref 1088), .val (.int p1), .val (.int p2), .val a_unk, .val a_unk, .val a_unk], [], (126, 120, L, [Y, T, HA, HB, RA, RB, ST, NS, I0, I1, I2, BO, FI, RG, GU, PU, MA, MN, MS, OT, SC], [r0, r1, r2, r3, w, r5, r6, r7, r8], Lg)) o from key _ rfl
  intro o ho
  obtain ⟨x1, zh1, h⟩ := bnd h
  have zh1 : f_M_within p2 1 10 = some x1 := zh1
  have ze2 := R_f_M_within_0 (d + 1) Y T HA HB RA RB ST NS I0 I1 I2 BO FI RG GU PU (u2 MA 0 0 0) MN MS OT SC r0 r1 r2 r3 w r5 r6 r7 r8 L Lg p2 1 10 zh1
  suffices e : Ev (d + 2, 0, 0, 127, 14, [.val (.ref 1088), .val (.int p1), .val (.int p2), .val a_unk, .val a_unk, .val a_unk], [.int x1, .int p1, .ref 1088], (126, 120, L, [Y, T, HA, HB, RA, RB, ST, NS, I0, I1, I2, BO, FI, RG, GU, PU, (u2 MA 0 0 0), MN, MS, OT, SC], [r0, r1, r2, r3, w, r5, r6, r7, r8], Lg)) o from ev_call (fun v μ => (d + 2, 0, 0, 127, 14, [.val (.ref 1088), .val (.int p1), .val (.int p2), .val a_unk, .val a_unk, .val a_unk], v.toList ++ [.int p1, .ref 1088], μ)) 9 ze2 e (fun n => Eq.refl _)
  obtain ⟨⟨x2, MA_3⟩, zh3, h⟩ := bnd h
  have zh3 : f_M_arePeople (u2 MA 0 0 0) p1 x1 = some (x2, MA_3) := zh3
  have ze4 := R_f_M_arePeople_0 (d + 0) Y T HA HB RA RB ST NS I0 I1 I2 BO FI RG GU PU (u2 MA 0 0 0) MN MS OT SC r0 r1 r2 r3 w r5 r6 r7 r8 L Lg p1 x1 zh3
  suffices e : Ev (d + 2, 0, 0, 127, 17, [.val (.ref 1088), .val (.int p1), .val (.int p2), .val a_unk, .val a_unk, .val a_unk], [.int x2], (126, 120, L, [Y, T, HA, HB, RA, RB, ST, NS, I0, I1, I2, BO, FI, RG, GU, PU, MA_3, MN, MS, OT, SC], [r0, r1, r2, r3, w, r5, r6, r7, r8], Lg)) o from ev_call (fun v μ => (d + 2, 0, 0, 127, 17, [.val (.ref 1088), .val (.int p1), .val (.int p2), .val a_unk, .val a_unk, .val a_unk], v.toList ++ [], μ)) 1 ze4 e (fun n => Eq.refl _)
  by_cases zc5 : x2 ≠ 0
  · have h := itp h zc5
    suffices e : Ev (d + 2, 0, 0, 127, 22, [.val (.ref 1088), .val (.int p1), .val (.int p2), .val a_unk, .val a_unk, .val a_unk], [], (126, 120, L, [Y, T, HA, HB, RA, RB, ST, NS, I0, I1, I2, BO, FI, RG, GU, PU, MA_3, MN, MS, OT, SC], [r0, r1, r2, r3, w, r5, r6, r7, r8], Lg)) o from ev_t (c := x2 ≠ 0) _ _ 1  zc5 e (fun n => Eq.refl _)
    obtain ⟨x4, zh6, h⟩ := bnd h
    have zh6 : f_M_gapOf MA_3 p1 = some x4 := zh6
    have ze7 := R_f_M_gapOf_0 (d + 1) Y T HA HB RA RB ST NS I0 I1 I2 BO FI RG GU PU MA_3 MN MS OT SC r0 r1 r2 r3 w r5 r6 r7 r8 L Lg p1 zh6
    suffices e : Ev (d + 2, 0, 0, 127, 27, [.val (.ref 1088), .val (.int p1), .val (.int p2), .val a_unk, .val a_unk, .val a_unk], [.int x4], (126, 120, L, [Y, T, HA, HB, RA, RB, ST, NS, I0, I1, I2, BO, FI, RG, GU, PU, MA_3, MN, MS, OT, SC], [r0, r1, r2, r3, w, r5, r6, r7, r8], Lg)) o from ev_call (fun v μ => (d + 2, 0, 0, 127, 27, [.val (.ref 1088), .val (.int p1), .val (.int p2), .val a_unk, .val a_unk, .val a_unk], v.toList ++ [], μ)) 3 ze7 e (fun n => Eq.refl _)
    obtain ⟨zb8, zh9, h⟩ := bnd h
    suffices e : Ev (d + 2, 0, 0, 127, 38, [.val (.ref 1088), .val (.int p1), .val (.int p2), .val (.int x4), .val (.int ((a_shl 1 p2) - 1)), .val (.int 0)], [], (126, 120, L, [Y, T, HA, HB, RA, RB, ST, NS, I0, I1, I2, BO, FI, RG, GU, PU, MA_3, MN, MS, OT, SC], [r0, r1, r2, r3, w, r5, r6, r7, r8], Lg)) o from ev_b 9 e (fun n => Eq.refl _)
    refine ev_loop (δ := Unit) (fun a j => (d + 2, 0, 0, 127, 38, [.val (.ref 1088), .val (.int p1), .val (.int p2), .val (.int x4), .val (.int ((a_shl 1 p2) - 1)), .val (.int a)], [], (126, 120, L, [Y, T, HA, HB, RA, RB, ST, NS, I0, I1, I2, BO, FI, RG, GU, PU, MA_3, MN, MS, OT, SC], [r0, r1, r2, r3, w, r5, r6, r7, r8], Lg))) (fun b => sumE b (fun b => ∀ s6 : Value, Ev (d + 2, 0, 0, 127, 70, [.val (.ref 1088), .val (.int p1), .val (.int p2), .val (.int x4), .val (.int ((a_shl 1 p2) - 1)), .val s6], [], (126, 120, L, [Y, T, HA, HB, RA, RB, ST, NS, I0, I1, I2, BO, FI, RG, GU, PU, MA_3, MN, MS, OT, SC], [r0, r1, r2, r3, w, r5, r6, r7, r8], Lg)) o) (fun b => ((0, some (.int b.1), (126, 120, L, [Y, T, HA, HB, RA, RB, ST, NS, I0, I1, I2, BO, FI, RG, GU, PU, b.2, MN, MS, OT, SC], [r0, r1, r2, r3, w, r5, r6, r7, r8], Lg)) : AOut) = o)) ?_ a_F 0 zb8 zh9 ?_ ()
    · rintro v5 zr13 zh12 zi10 zx11 ⟨⟩
      have zh12 : f_M_together_l38 MA_3 p2 x4 v5 = some zr13 := zh12
      by_cases zc14 : (MA_3 0 23) < (v5 + p2)
      · have zh12 := itp zh12 zc14
        suffices e : Ev (d + 2, 0, 0, 127, 70, [.val (.ref 1088), .val (.int p1), .val (.int p2), .val (.int x4), .val (.int ((a_shl 1 p2) - 1)), .val (.int v5)], [], (126, 120, L, [Y, T, HA, HB, RA, RB, ST, NS, I0, I1, I2, BO, FI, RG, GU, PU, MA_3, MN, MS, OT, SC], [r0, r1, r2, r3, w, r5, r6, r7, r8], Lg)) o from ev_t (c := (MA_3 0 23) < (v5 + p2)) _ _ 6  zc14 e (fun n => Eq.refl _)
        exact ev_b 0 (zx11 _ (Option.some.inj zh12).symm (.int v5)) (fun n => Eq.refl _)
      · have zh12 := itn zh12 zc14
        suffices e : Ev (d + 2, 0, 0, 127, 49, [.val (.ref 1088), .val (.int p1), .val (.int p2), .val (.int x4), .val (.int ((a_shl 1 p2) - 1)), .val (.int v5)], [], (126, 120, L, [Y, T, HA, HB, RA, RB, ST, NS, I0, I1, I2, BO, FI, RG, GU, PU, MA_3, MN, MS, OT, SC], [r0, r1, r2, r3, w, r5, r6, r7, r8], Lg)) o from ev_f (c := (MA_3 0 23) < (v5 + p2)) _ _ 6  zc14 e (fun n => Eq.refl _)
        by_cases zc15 : ((a_shr x4 v5) &&& ((a_shl 1 p2) - 1)) ≠ ((a_shl 1 p2) - 1)
        · have zh12 := itp zh12 zc15
          suffices e : Ev (d + 2, 0, 0, 127, 64, [.val (.ref 1088), .val (.int p1), .val (.int p2), .val (.int x4), .val (.int ((a_shl 1 p2) - 1)), .val (.int v5)], [], (126, 120, L, [Y, T, HA, HB, RA, RB, ST, NS, I0, I1, I2, BO, FI, RG, GU, PU, MA_3, MN, MS, OT, SC], [r0, r1, r2, r3, w, r5, r6, r7, r8], Lg)) o from ev_t (c := ((a_shr x4 v5) &&& ((a_shl 1 p2) - 1)) ≠ ((a_shl 1 p2) - 1)) _ _ 7  zc15 e (fun n => Eq.refl _)
          exact ev_b 2 (zi10 _ (Option.some.inj zh12).symm ()) (fun n => Eq.refl _)
        · have zh12 := itn zh12 zc15
          suffices e : Ev (d + 2, 0, 0, 127, 61, [.val (.ref 1088), .val (.int p1), .val (.int p2), .val (.int x4), .val (.int ((a_shl 1 p2) - 1)), .val (.int v5)], [], (126, 120, L, [Y, T, HA, HB, RA, RB, ST, NS, I0, I1, I2, BO, FI, RG, GU, PU, MA_3, MN, MS, OT, SC], [r0, r1, r2, r3, w, r5, r6, r7, r8], Lg)) o from ev_f (c := ((a_shr x4 v5) &&& ((a_shl 1 p2) - 1)) ≠ ((a_shl 1 p2) - 1)) _ _ 7  zc15 e (fun n => Eq.refl _)
          exact ev_rete 2 (zx11 _ (Option.some.inj zh12).symm) (fun n => Eq.refl _)
    · rcases zb8 with ⟨⟩ | zr13
      · intro s6
        have ze16 := Option.some.inj h
        subst ze16
        exact ev_rete 2 ho (fun n => Eq.refl _)
      · have zh17 : some zr13 = some r := h
        exact (congrArg (fun q => ((0, some (.int q.1), (126, 120, L, [Y, T, HA, HB, RA, RB, ST, NS, I0, I1, I2, BO, FI, RG, GU, PU, q.2, MN, MS, OT, SC], [r0, r1, r2, r3, w, r5, r6, r7, r8], Lg)) : AOut)) (Option.some.inj zh17)).trans ho
  · have h := itn h zc5
    suffices e : Ev (d + 2, 0, 0, 127, 20, [.val (.ref 1088), .val (.int p1), .val (.int p2), .val a_unk, .val a_unk, .val a_unk], [], (126, 120, L, [Y, T, HA, HB, RA, RB, ST, NS, I0, I1, I2, BO, FI, RG, GU, PU, MA_3, MN, MS, OT, SC], [r0, r1, r2, r3, w, r5, r6, r7, r8], Lg)) o from ev_f (c := x2 ≠ 0) _ _ 1  zc5 e (fun n => Eq.refl _)
    have ze19 := Option.some.inj h
    subst ze19
    exact ev_rete 2 ho (fun n => Eq.refl _)
set_option maxRecDepth 1000000 in
set_option maxHeartbeats 4000000 in
theorem R_f_M_fair_0 (d : Nat) (Y T HA HB RA RB ST NS I0 I1 I2 BO FI RG GU PU MA MN MS OT SC : Nat → Nat → Int32) (r0 r1 r2 r3 w r5 r6 r7 r8 : Nat) (L : Nat) (Lg : Int64) (p1 : Int32) {r : Int32 × (Nat → Nat → Int32)} (h : f_M_fair MA p1 = some r) : Ev (d + 1, 0, 0, 128, 0, [.val (.ref 1088), .val (.int p1), .val a_unk, .val a_unk, .val a_unk], [], (126, 120, L, [Y, T, HA, HB, RA, RB, ST, NS, I0, I1, I2, BO, FI, RG, GU, PU, MA, MN, MS, OT, SC], [r0, r1, r2, r3, w, r5, r6, r7, r8], Lg)) ((0, some (.int r.1), (126, 120, L, [Y, T, HA, HB, RA, RB, ST, NS, I0, I1, I2, BO, FI, RG, GU, PU, r.2, MN, MS, OT, SC], [r0, r1, r2, r3, w, r5, r6, r7, r8], Lg)) : AOut) := by
  suffices key : ∀ o : AOut, ((0, some (.int r.1), (126, 120, L, [Y, T, HA, HB, RA, RB, ST, NS, I0, I1, I2, BO, FI, RG, GU, PU, r.2, MN, MS, OT, SC], [r0, r1, r2, r3, w, r5, r6, r7, r8], Lg)) : AOut) = o → Ev (d + 1, 0, 0, 128, 0, [.val (.ref 1088), .val (.int p1), .val a_unk, .val a_unk, .val a_unk], [], (126, 120, L, [Y, T, HA, HB, RA, RB, ST, NS, I0, I1, I2, BO, FI, RG, GU, PU, MA, MN, MS, OT, SC], [r0, r1, r2, r3, w, r5, r6, r7, r8], Lg)) o from key _ rfl
  intro o ho
  obtain ⟨x1, zh1, h⟩ := bnd h
  have zh1 : f_M_within p1 0 1 = some x1 := zh1
  have ze2 := R_f_M_within_0 (d + 0) Y T HA HB RA RB ST NS I0 I1 I2 BO FI RG GU PU (u2 MA 0 0 0) MN MS OT SC r0 r1 r2 r3 w r5 r6 r7 r8 L Lg p1 0 1 zh1
  suffices e : Ev (d + 1, 0, 0, 128, 12, [.val (.ref 1088), .val (.int p1), .val a_unk, .val a_unk, .val a_unk], [.int x1, .ref 1088], (126, 120, L, [Y, T, HA, HB, RA, RB, ST, NS, I0, I1, I2, BO, FI, RG, GU, PU, (u2 MA 0 0 0), MN, MS, OT, SC], [r0, r1, r2, r3, w, r5, r6, r7, r8], Lg)) o from ev_call (fun v μ => (d + 1, 0, 0, 128, 12, [.val (.ref 1088), .val (.int p1), .val a_unk, .val a_unk, .val a_unk], v.toList ++ [.ref 1088], μ)) 8 ze2 e (fun n => Eq.refl _)
  obtain ⟨⟨x2, MA_3⟩, zh3, h⟩ := bnd h
  have zh3 : f_M_may (u2 MA 0 0 0) x1 1 1 = some (x2, MA_3) := zh3
  have ze4 := R_f_M_may_0 (d + 0) Y T HA HB RA RB ST NS I0 I1 I2 BO FI RG GU PU (u2 MA 0 0 0) MN MS OT SC r0 r1 r2 r3 w r5 r6 r7 r8 L Lg x1 1 1 zh3
  suffices e : Ev (d + 1, 0, 0, 128, 17, [.val (.ref 1088), .val (.int p1), .val a_unk, .val a_unk, .val a_unk], [.int x2], (126, 120, L, [Y, T, HA, HB, RA, RB, ST, NS, I0, I1, I2, BO, FI, RG, GU, PU, MA_3, MN, MS, OT, SC], [r0, r1, r2, r3, w, r5, r6, r7, r8], Lg)) o from ev_call (fun v μ => (d + 1, 0, 0, 128, 17, [.val (.ref 1088), .val (.int p1), .val a_unk, .val a_unk, .val a_unk], v.toList ++ [], μ)) 3 ze4 e (fun n => Eq.refl _)
  by_cases zc5 : x2 ≠ 0
  · have h := itp h zc5
    suffices e : Ev (d + 1, 0, 0, 128, 22, [.val (.ref 1088), .val (.int p1), .val a_unk, .val a_unk, .val a_unk], [], (126, 120, L, [Y, T, HA, HB, RA, RB, ST, NS, I0, I1, I2, BO, FI, RG, GU, PU, MA_3, MN, MS, OT, SC], [r0, r1, r2, r3, w, r5, r6, r7, r8], Lg)) o from ev_t (c := x2 ≠ 0) _ _ 1  zc5 e (fun n => Eq.refl _)
    obtain ⟨zb6, zh7, h⟩ := bnd h
    suffices e : Ev (d + 1, 0, 0, 128, 29, [.val (.ref 1088), .val (.int p1), .val (.int (-1)), .val (.int 0), .val (.int 0)], [], (126, 120, L, [Y, T, HA, HB, RA, RB, ST, NS, I0, I1, I2, BO, FI, RG, GU, PU, MA_3, MN, MS, OT, SC], [r0, r1, r2, r3, w, r5, r6, r7, r8], Lg)) o from ev_b 6 e (fun n => Eq.refl _)
    refine ev_loop (δ := Unit) (fun a j => (d + 1, 0, 0, 128, 29, [.val (.ref 1088), .val (.int p1), .val (.int a.1), .val (.int a.2.1), .val (.int a.2.2)], [], (126, 120, L, [Y, T, HA, HB, RA, RB, ST, NS, I0, I1, I2, BO, FI, RG, GU, PU, MA_3, MN, MS, OT, SC], [r0, r1, r2, r3, w, r5, r6, r7, r8], Lg))) (fun b => ∀ s14 : Value, Ev (d + 1, 0, 0, 128, 92, [.val (.ref 1088), .val (.int p1), .val (.int b.1), .val (.int b.2), .val s14], [], (126, 120, L, [Y, T, HA, HB, RA, RB, ST, NS, I0, I1, I2, BO, FI, RG, GU, PU, MA_3, MN, MS, OT, SC], [r0, r1, r2, r3, w, r5, r6, r7, r8], Lg)) o) ?_ a_F ((-1), 0, 0) zb6 zh7 ?_ ()
    · rintro ⟨v4, v5, v6⟩ zr11 zh10 zi8 zx9 ⟨⟩
      have zh10 : f_M_fair_l29 MA_3 v4 v5 v6 = some zr11 := zh10
      by_cases zc12 : (MA_3 0 25) ≤ v6
      · have zh10 := itp zh10 zc12
        suffices e : Ev (d + 1, 0, 0, 128, 92, [.val (.ref 1088), .val (.int p1), .val (.int v4), .val (.int v5), .val (.int v6)], [], (126, 120, L, [Y, T, HA, HB, RA, RB, ST, NS, I0, I1, I2, BO, FI, RG, GU, PU, MA_3, MN, MS, OT, SC], [r0, r1, r2, r3, w, r5, r6, r7, r8], Lg)) o from ev_t (c := (MA_3 0 25) ≤ v6) _ _ 4  zc12 e (fun n => Eq.refl _)
        exact ev_b 0 (zx9 _ (Option.some.inj zh10).symm (.int v6)) (fun n => Eq.refl _)
      · have zh10 := itn zh10 zc12
        suffices e : Ev (d + 1, 0, 0, 128, 38, [.val (.ref 1088), .val (.int p1), .val (.int v4), .val (.int v5), .val (.int v6)], [], (126, 120, L, [Y, T, HA, HB, RA, RB, ST, NS, I0, I1, I2, BO, FI, RG, GU, PU, MA_3, MN, MS, OT, SC], [r0, r1, r2, r3, w, r5, r6, r7, r8], Lg)) o from ev_f (c := (MA_3 0 25) ≤ v6) _ _ 4  zc12 e (fun n => Eq.refl _)
        obtain ⟨zt13, zh14, zh10⟩ := bnd zh10
        have zj15 : ∀ (v9 : Int32), v9 = zt13 → Ev (d + 1, 0, 0, 128, 63, [.val (.ref 1088), .val (.int p1), .val (.int v4), .val (.int v5), .val (.int v6)], [.int v9], (126, 120, L, [Y, T, HA, HB, RA, RB, ST, NS, I0, I1, I2, BO, FI, RG, GU, PU, MA_3, MN, MS, OT, SC], [r0, r1, r2, r3, w, r5, r6, r7, r8], Lg)) o := by
          intro v9 ze16
          subst ze16
          by_cases zc17 : v4 = (-1)
          · have zh10 := itp zh10 zc17
            suffices e : Ev (d + 1, 0, 0, 128, 83, [.val (.ref 1088), .val (.int p1), .val (.int v4), .val (.int v9), .val (.int v6)], [], (126, 120, L, [Y, T, HA, HB, RA, RB, ST, NS, I0, I1, I2, BO, FI, RG, GU, PU, MA_3, MN, MS, OT, SC], [r0, r1, r2, r3, w, r5, r6, r7, r8], Lg)) o from ev_t (c := v4 = (-1)) _ _ 4  zc17 e (fun n => Eq.refl _)
            exact ev_b 4 (zi8 _ (Option.some.inj zh10).symm ()) (fun n => Eq.refl _)
          · have zh10 := itn zh10 zc17
            suffices e : Ev (d + 1, 0, 0, 128, 69, [.val (.ref 1088), .val (.int p1), .val (.int v4), .val (.int v9), .val (.int v6)], [], (126, 120, L, [Y, T, HA, HB, RA, RB, ST, NS, I0, I1, I2, BO, FI, RG, GU, PU, MA_3, MN, MS, OT, SC], [r0, r1, r2, r3, w, r5, r6, r7, r8], Lg)) o from ev_f (c := v4 = (-1)) _ _ 4  zc17 e (fun n => Eq.refl _)
            obtain ⟨x10, zh18, zh10⟩ := bnd zh10
            have zh18 : f_M_bornBy MA_3 v6 = some x10 := zh18
            have ze19 := R_f_M_bornBy_0 (d + 0) Y T HA HB RA RB ST NS I0 I1 I2 BO FI RG GU PU MA_3 MN MS OT SC r0 r1 r2 r3 w r5 r6 r7 r8 L Lg v6 zh18
            suffices e : Ev (d + 1, 0, 0, 128, 75, [.val (.ref 1088), .val (.int p1), .val (.int v4), .val (.int v9), .val (.int v6)], [.int x10], (126, 120, L, [Y, T, HA, HB, RA, RB, ST, NS, I0, I1, I2, BO, FI, RG, GU, PU, MA_3, MN, MS, OT, SC], [r0, r1, r2, r3, w, r5, r6, r7, r8], Lg)) o from ev_call (fun v μ => (d + 1, 0, 0, 128, 75, [.val (.ref 1088), .val (.int p1), .val (.int v4), .val (.int v9), .val (.int v6)], v.toList ++ [], μ)) 3 ze19 e (fun n => Eq.refl _)
            obtain ⟨x11, zh20, zh10⟩ := bnd zh10
            have zh20 : f_M_bornBy MA_3 v4 = some x11 := zh20
            have ze21 := R_f_M_bornBy_0 (d + 0) Y T HA HB RA RB ST NS I0 I1 I2 BO FI RG GU PU MA_3 MN MS OT SC r0 r1 r2 r3 w r5 r6 r7 r8 L Lg v4 zh20
            suffices e : Ev (d + 1, 0, 0, 128, 80, [.val (.ref 1088), .val (.int p1), .val (.int v4), .val (.int v9), .val (.int v6)], [.int x11, .int x10], (126, 120, L, [Y, T, HA, HB, RA, RB, ST, NS, I0, I1, I2, BO, FI, RG, GU, PU, MA_3, MN, MS, OT, SC], [r0, r1, r2, r3, w, r5, r6, r7, r8], Lg)) o from ev_call (fun v μ => (d + 1, 0, 0, 128, 80, [.val (.ref 1088), .val (.int p1), .val (.int v4), .val (.int v9), .val (.int v6)], v.toList ++ [.int x10], μ)) 3 ze21 e (fun n => Eq.refl _)
            by_cases zc22 : x10 ≤ x11
            · have zh10 := itp zh10 zc22
              suffices e : Ev (d + 1, 0, 0, 128, 86, [.val (.ref 1088), .val (.int p1), .val (.int v4), .val (.int v9), .val (.int v6)], [], (126, 120, L, [Y, T, HA, HB, RA, RB, ST, NS, I0, I1, I2, BO, FI, RG, GU, PU, MA_3, MN, MS, OT, SC], [r0, r1, r2, r3, w, r5, r6, r7, r8], Lg)) o from ev_t (c := x10 ≤ x11) _ _ 1  zc22 e (fun n => Eq.refl _)
              exact ev_b 2 (zi8 _ (Option.some.inj zh10).symm ()) (fun n => Eq.refl _)
            · have zh10 := itn zh10 zc22
              suffices e : Ev (d + 1, 0, 0, 128, 83, [.val (.ref 1088), .val (.int p1), .val (.int v4), .val (.int v9), .val (.int v6)], [], (126, 120, L, [Y, T, HA, HB, RA, RB, ST, NS, I0, I1, I2, BO, FI, RG, GU, PU, MA_3, MN, MS, OT, SC], [r0, r1, r2, r3, w, r5, r6, r7, r8], Lg)) o from ev_f (c := x10 ≤ x11) _ _ 1  zc22 e (fun n => Eq.refl _)
              exact ev_b 4 (zi8 _ (Option.some.inj zh10).symm ()) (fun n => Eq.refl _)
        obtain ⟨zt23, zh24, zh14⟩ := bnd zh14
        have zj25 : zt23 = .inl () → Ev (d + 1, 0, 0, 128, 53, [.val (.ref 1088), .val (.int p1), .val (.int v4), .val (.int v5), .val (.int v6)], [], (126, 120, L, [Y, T, HA, HB, RA, RB, ST, NS, I0, I1, I2, BO, FI, RG, GU, PU, MA_3, MN, MS, OT, SC], [r0, r1, r2, r3, w, r5, r6, r7, r8], Lg)) o := by
          intro ze26
          have zh14 := sum_l zh14 ze26
          obtain ⟨x8, zh27, zh14⟩ := bnd zh14
          have zh27 : f_M_bornBy MA_3 v6 = some x8 := zh27
          have ze28 := R_f_M_bornBy_0 (d + 0) Y T HA HB RA RB ST NS I0 I1 I2 BO FI RG GU PU MA_3 MN MS OT SC r0 r1 r2 r3 w r5 r6 r7 r8 L Lg v6 zh27
          suffices e : Ev (d + 1, 0, 0, 128, 59, [.val (.ref 1088), .val (.int p1), .val (.int v4), .val (.int v5), .val (.int v6)], [.int x8], (126, 120, L, [Y, T, HA, HB, RA, RB, ST, NS, I0, I1, I2, BO, FI, RG, GU, PU, MA_3, MN, MS, OT, SC], [r0, r1, r2, r3, w, r5, r6, r7, r8], Lg)) o from ev_call (fun v μ => (d + 1, 0, 0, 128, 59, [.val (.ref 1088), .val (.int p1), .val (.int v4), .val (.int v5), .val (.int v6)], v.toList ++ [], μ)) 3 ze28 e (fun n => Eq.refl _)
          exact ev_b 1 (zj15 x8 (Option.some.inj zh14) ) (fun n => Eq.refl _)
        by_cases zc29 : v6 = 0
        · have zh24 := itp zh24 zc29
          suffices e : Ev (d + 1, 0, 0, 128, 53, [.val (.ref 1088), .val (.int p1), .val (.int v4), .val (.int v5), .val (.int v6)], [], (126, 120, L, [Y, T, HA, HB, RA, RB, ST, NS, I0, I1, I2, BO, FI, RG, GU, PU, MA_3, MN, MS, OT, SC], [r0, r1, r2, r3, w, r5, r6, r7, r8], Lg)) o from ev_t (c := v6 = 0) _ _ 2  zc29 e (fun n => Eq.refl _)
          exact ev_b 0 (zj25  (Option.some.inj zh24).symm ) (fun n => Eq.refl _)
        · have zh24 := itn zh24 zc29
          suffices e : Ev (d + 1, 0, 0, 128, 43, [.val (.ref 1088), .val (.int p1), .val (.int v4), .val (.int v5), .val (.int v6)], [], (126, 120, L, [Y, T, HA, HB, RA, RB, ST, NS, I0, I1, I2, BO, FI, RG, GU, PU, MA_3, MN, MS, OT, SC], [r0, r1, r2, r3, w, r5, r6, r7, r8], Lg)) o from ev_f (c := v6 = 0) _ _ 2  zc29 e (fun n => Eq.refl _)
          obtain ⟨x7, zh30, zh24⟩ := bnd zh24
          have zh30 : f_M_bornBy MA_3 v6 = some x7 := zh30
          have ze31 := R_f_M_bornBy_0 (d + 0) Y T HA HB RA RB ST NS I0 I1 I2 BO FI RG GU PU MA_3 MN MS OT SC r0 r1 r2 r3 w r5 r6 r7 r8 L Lg v6 zh30
          suffices e : Ev (d + 1, 0, 0, 128, 49, [.val (.ref 1088), .val (.int p1), .val (.int v4), .val (.int v5), .val (.int v6)], [.int x7], (126, 120, L, [Y, T, HA, HB, RA, RB, ST, NS, I0, I1, I2, BO, FI, RG, GU, PU, MA_3, MN, MS, OT, SC], [r0, r1, r2, r3, w, r5, r6, r7, r8], Lg)) o from ev_call (fun v μ => (d + 1, 0, 0, 128, 49, [.val (.ref 1088), .val (.int p1), .val (.int v4), .val (.int v5), .val (.int v6)], v.toList ++ [], μ)) 3 ze31 e (fun n => Eq.refl _)
          by_cases zc32 : v5 ≤ x7
          · have zh24 := itp zh24 zc32
            suffices e : Ev (d + 1, 0, 0, 128, 62, [.val (.ref 1088), .val (.int p1), .val (.int v4), .val (.int v5), .val (.int v6)], [], (126, 120, L, [Y, T, HA, HB, RA, RB, ST, NS, I0, I1, I2, BO, FI, RG, GU, PU, MA_3, MN, MS, OT, SC], [r0, r1, r2, r3, w, r5, r6, r7, r8], Lg)) o from ev_t (c := v5 ≤ x7) _ _ 2  zc32 e (fun n => Eq.refl _)
            have zh33 := sum_r zh14 (Option.some.inj zh24).symm
            exact ev_b 1 (zj15 v5 (Option.some.inj zh33) ) (fun n => Eq.refl _)
          · have zh24 := itn zh24 zc32
            suffices e : Ev (d + 1, 0, 0, 128, 53, [.val (.ref 1088), .val (.int p1), .val (.int v4), .val (.int v5), .val (.int v6)], [], (126, 120, L, [Y, T, HA, HB, RA, RB, ST, NS, I0, I1, I2, BO, FI, RG, GU, PU, MA_3, MN, MS, OT, SC], [r0, r1, r2, r3, w, r5, r6, r7, r8], Lg)) o from ev_f (c := v5 ≤ x7) _ _ 2  zc32 e (fun n => Eq.refl _)
            exact ev_b 0 (zj25  (Option.some.inj zh24).symm ) (fun n => Eq.refl _)
    · obtain ⟨v12, v13⟩ := zb6
      intro s14
      by_cases zc34 : p1 ≠ 1
      · have h := itp h zc34
        suffices e : Ev (d + 1, 0, 0, 128, 101, [.val (.ref 1088), .val (.int p1), .val (.int v12), .val (.int v13), .val s14], [], (126, 120, L, [Y, T, HA, HB, RA, RB, ST, NS, I0, I1, I2, BO, FI, RG, GU, PU, MA_3, MN, MS, OT, SC], [r0, r1, r2, r3, w, r5, r6, r7, r8], Lg)) o from ev_t (c := p1 ≠ 1) _ _ 3  zc34 e (fun n => Eq.refl _)
        by_cases zc35 : v12 ≠ (-1)
        · have h := itp h zc35
          suffices e : Ev (d + 1, 0, 0, 128, 110, [.val (.ref 1088), .val (.int p1), .val (.int v12), .val (.int v13), .val s14], [], (126, 120, L, [Y, T, HA, HB, RA, RB, ST, NS, I0, I1, I2, BO, FI, RG, GU, PU, MA_3, MN, MS, OT, SC], [r0, r1, r2, r3, w, r5, r6, r7, r8], Lg)) o from ev_t (c := v12 ≠ (-1)) _ _ 3  zc35 e (fun n => Eq.refl _)
          obtain ⟨x15, zh36, h⟩ := bnd h
          have zh36 : f_M_bornBy MA_3 v12 = some x15 := zh36
          have ze37 := R_f_M_bornBy_0 (d + 0) Y T HA HB RA RB ST NS I0 I1 I2 BO FI RG GU PU MA_3 MN MS OT SC r0 r1 r2 r3 w r5 r6 r7 r8 L Lg v12 zh36
          suffices e : Ev (d + 1, 0, 0, 128, 115, [.val (.ref 1088), .val (.int p1), .val (.int v12), .val (.int v13), .val s14], [.int x15], (126, 120, L, [Y, T, HA, HB, RA, RB, ST, NS, I0, I1, I2, BO, FI, RG, GU, PU, MA_3, MN, MS, OT, SC], [r0, r1, r2, r3, w, r5, r6, r7, r8], Lg)) o from ev_call (fun v μ => (d + 1, 0, 0, 128, 115, [.val (.ref 1088), .val (.int p1), .val (.int v12), .val (.int v13), .val s14], v.toList ++ [], μ)) 3 ze37 e (fun n => Eq.refl _)
          have ze38 := Option.some.inj h
          subst ze38
          exact ev_rete 3 ho (fun n => Eq.refl _)
        · have h := itn h zc35
          suffices e : Ev (d + 1, 0, 0, 128, 106, [.val (.ref 1088), .val (.int p1), .val (.int v12), .val (.int v13), .val s14], [], (126, 120, L, [Y, T, HA, HB, RA, RB, ST, NS, I0, I1, I2, BO, FI, RG, GU, PU, MA_3, MN, MS, OT, SC], [r0, r1, r2, r3, w, r5, r6, r7, r8], Lg)) o from ev_f (c := v12 ≠ (-1)) _ _ 3  zc35 e (fun n => Eq.refl _)
          have ze39 := Option.some.inj h
          subst ze39
          exact ev_rete 3 ho (fun n => Eq.refl _)
      · have h := itn h zc34
        suffices e : Ev (d + 1, 0, 0, 128, 97, [.val (.ref 1088), .val (.int p1), .val (.int v12), .val (.int v13), .val s14], [], (126, 120, L, [Y, T, HA, HB, RA, RB, ST, NS, I0, I1, I2, BO, FI, RG, GU, PU, MA_3, MN, MS, OT, SC], [r0, r1, r2, r3, w, r5, r6, r7, r8], Lg)) o from ev_f (c := p1 ≠ 1) _ _ 3  zc34 e (fun n => Eq.refl _)
        have ze40 := Option.some.inj h
        subst ze40
        exact ev_rete 3 ho (fun n => Eq.refl _)
  · have h := itn h zc5
    suffices e : Ev (d + 1, 0, 0, 128, 20, [.val (.ref 1088), .val (.int p1), .val a_unk, .val a_unk, .val a_unk], [], (126, 120, L, [Y, T, HA, HB, RA, RB, ST, NS, I0, I1, I2, BO, FI, RG, GU, PU, MA_3, MN, MS, OT, SC], [r0, r1, r2, r3, w, r5, r6, r7, r8], Lg)) o from ev_f (c := x2 ≠ 0) _ _ 1  zc5 e (fun n => Eq.refl _)
    have ze41 := Option.some.inj h
    subst ze41
    exact ev_rete 2 ho (fun n => Eq.refl _)
set_option maxRecDepth 1000000 in
set_option maxHeartbeats 4000000 in
theorem R_f_M_yields_0 (d : Nat) (Y T HA HB RA RB ST NS I0 I1 I2 BO FI RG GU PU MA MN MS OT SC : Nat → Nat → Int32) (r0 r1 r2 r3 w r5 r6 r7 r8 : Nat) (L : Nat) (Lg : Int64) (p1 : Int32) (p2 : Int32) {r : Int32 × (Nat → Nat → Int32) × (Nat → Nat → Int32)} (h : f_M_yields MA MS p1 p2 = some r) : Ev (d + 2, 0, 0, 129, 0, [.val (.ref 1088), .val (.int p1), .val (.int p2)], [], (126, 120, L, [Y, T, HA, HB, RA, RB, ST, NS, I0, I1, I2, BO, FI, RG, GU, PU, MA, MN, MS, OT, SC], [r0, r1, r2, r3, w, r5, r6, r7, r8], Lg)) ((0, some (.int r.1), (126, 120, L, [Y, T, HA, HB, RA, RB, ST, NS, I0, I1, I2, BO, FI, RG, GU, PU, r.2.1, MN, r.2.2, OT, SC], [r0, r1, r2, r3, w, r5, r6, r7, r8], Lg)) : AOut) := by
  suffices key : ∀ o : AOut, ((0, some (.int r.1), (126, 120, L, [Y, T, HA, HB, RA, RB, ST, NS, I0, I1, I2, BO, FI, RG, GU, PU, r.2.1, MN, r.2.2, OT, SC], [r0, r1, r2, r3, w, r5, r6, r7, r8], Lg)) : AOut) = o → Ev (d + 2, 0, 0, 129, 0, [.val (.ref 1088), .val (.int p1), .val (.int p2)], [], (126, 120, L, [Y, T, HA, HB, RA, RB, ST, NS, I0, I1, I2, BO, FI, RG, GU, PU, MA, MN, MS, OT, SC], [r0, r1, r2, r3, w, r5, r6, r7, r8], Lg)) o from key _ rfl
  intro o ho
  obtain ⟨⟨x1, MA_2⟩, zh1, h⟩ := bnd h
  have zh1 : f_M_isMeeting (u2 MA 0 0 0) p1 1 = some (x1, MA_2) := zh1
  have ze2 := R_f_M_isMeeting_0 (d + 0) Y T HA HB RA RB ST NS I0 I1 I2 BO FI RG GU PU (u2 MA 0 0 0) MN MS OT SC r0 r1 r2 r3 w r5 r6 r7 r8 L Lg p1 1 zh1
  suffices e : Ev (d + 2, 0, 0, 129, 11, [.val (.ref 1088), .val (.int p1), .val (.int p2)], [.int x1], (126, 120, L, [Y, T, HA, HB, RA, RB, ST, NS, I0, I1, I2, BO, FI, RG, GU, PU, MA_2, MN, MS, OT, SC], [r0, r1, r2, r3, w, r5, r6, r7, r8], Lg)) o from ev_call (fun v μ => (d + 2, 0, 0, 129, 11, [.val (.ref 1088), .val (.int p1), .val (.int p2)], v.toList ++ [], μ)) 7 ze2 e (fun n => Eq.refl _)
  by_cases zc3 : x1 = 0
  · have h := itp h zc3
    suffices e : Ev (d + 2, 0, 0, 129, 52, [.val (.ref 1088), .val (.int p1), .val (.int p2)], [], (126, 120, L, [Y, T, HA, HB, RA, RB, ST, NS, I0, I1, I2, BO, FI, RG, GU, PU, MA_2, MN, MS, OT, SC], [r0, r1, r2, r3, w, r5, r6, r7, r8], Lg)) o from ev_t (c := x1 = 0) _ _ 1  zc3 e (fun n => Eq.refl _)
    have ze4 := Option.some.inj h
    subst ze4
    exact ev_rete 2 ho (fun n => Eq.refl _)
  · have h := itn h zc3
    suffices e : Ev (d + 2, 0, 0, 129, 14, [.val (.ref 1088), .val (.int p1), .val (.int p2)], [], (126, 120, L, [Y, T, HA, HB, RA, RB, ST, NS, I0, I1, I2, BO, FI, RG, GU, PU, MA_2, MN, MS, OT, SC], [r0, r1, r2, r3, w, r5, r6, r7, r8], Lg)) o from ev_f (c := x1 = 0) _ _ 1  zc3 e (fun n => Eq.refl _)
    obtain ⟨⟨x3, MA_4⟩, zh5, h⟩ := bnd h
    have zh5 : f_M_isMeeting MA_2 p2 1 = some (x3, MA_4) := zh5
    have ze6 := R_f_M_isMeeting_0 (d + 0) Y T HA HB RA RB ST NS I0 I1 I2 BO FI RG GU PU MA_2 MN MS OT SC r0 r1 r2 r3 w r5 r6 r7 r8 L Lg p2 1 zh5
    suffices e : Ev (d + 2, 0, 0, 129, 20, [.val (.ref 1088), .val (.int p1), .val (.int p2)], [.int x3], (126, 120, L, [Y, T, HA, HB, RA, RB, ST, NS, I0, I1, I2, BO, FI, RG, GU, PU, MA_4, MN, MS, OT, SC], [r0, r1, r2, r3, w, r5, r6, r7, r8], Lg)) o from ev_call (fun v μ => (d + 2, 0, 0, 129, 20, [.val (.ref 1088), .val (.int p1), .val (.int p2)], v.toList ++ [], μ)) 4 ze6 e (fun n => Eq.refl _)
    by_cases zc7 : x3 = 0
    · have h := itp h zc7
      suffices e : Ev (d + 2, 0, 0, 129, 52, [.val (.ref 1088), .val (.int p1), .val (.int p2)], [], (126, 120, L, [Y, T, HA, HB, RA, RB, ST, NS, I0, I1, I2, BO, FI, RG, GU, PU, MA_4, MN, MS, OT, SC], [r0, r1, r2, r3, w, r5, r6, r7, r8], Lg)) o from ev_t (c := x3 = 0) _ _ 1  zc7 e (fun n => Eq.refl _)
      have ze8 := Option.some.inj h
      subst ze8
      exact ev_rete 2 ho (fun n => Eq.refl _)
    · have h := itn h zc7
      suffices e : Ev (d + 2, 0, 0, 129, 23, [.val (.ref 1088), .val (.int p1), .val (.int p2)], [], (126, 120, L, [Y, T, HA, HB, RA, RB, ST, NS, I0, I1, I2, BO, FI, RG, GU, PU, MA_4, MN, MS, OT, SC], [r0, r1, r2, r3, w, r5, r6, r7, r8], Lg)) o from ev_f (c := x3 = 0) _ _ 1  zc7 e (fun n => Eq.refl _)
      obtain ⟨zt9, zh10, h⟩ := bnd h
      have zj11 : ∀ (v6 : Int32), v6 = zt9 → Ev (d + 2, 0, 0, 129, 44, [.val (.ref 1088), .val (.int p1), .val (.int p2)], [.int v6, .ref 1088], (126, 120, L, [Y, T, HA, HB, RA, RB, ST, NS, I0, I1, I2, BO, FI, RG, GU, PU, MA_4, MN, MS, OT, SC], [r0, r1, r2, r3, w, r5, r6, r7, r8], Lg)) o := by
        intro v6 ze12
        subst ze12
        obtain ⟨⟨x7, MA_8⟩, zh13, h⟩ := bnd h
        have zh13 : f_M_may MA_4 v6 2 1 = some (x7, MA_8) := zh13
        have ze14 := R_f_M_may_0 (d + 1) Y T HA HB RA RB ST NS I0 I1 I2 BO FI RG GU PU MA_4 MN MS OT SC r0 r1 r2 r3 w r5 r6 r7 r8 L Lg v6 2 1 zh13
        suffices e : Ev (d + 2, 0, 0, 129, 49, [.val (.ref 1088), .val (.int p1), .val (.int p2)], [.int x7], (126, 120, L, [Y, T, HA, HB, RA, RB, ST, NS, I0, I1, I2, BO, FI, RG, GU, PU, MA_8, MN, MS, OT, SC], [r0, r1, r2, r3, w, r5, r6, r7, r8], Lg)) o from ev_call (fun v μ => (d + 2, 0, 0, 129, 49, [.val (.ref 1088), .val (.int p1), .val (.int p2)], v.toList ++ [], μ)) 3 ze14 e (fun n => Eq.refl _)
        by_cases zc15 : x7 ≠ 0
        · have h := itp h zc15
          suffices e : Ev (d + 2, 0, 0, 129, 54, [.val (.ref 1088), .val (.int p1), .val (.int p2)], [], (126, 120, L, [Y, T, HA, HB, RA, RB, ST, NS, I0, I1, I2, BO, FI, RG, GU, PU, MA_8, MN, MS, OT, SC], [r0, r1, r2, r3, w, r5, r6, r7, r8], Lg)) o from ev_t (c := x7 ≠ 0) _ _ 1  zc15 e (fun n => Eq.refl _)
          obtain ⟨x9, zh16, h⟩ := bnd h
          have zh16 : rdx (MA_8 7) 10 p1 = some x9 := zh16
          suffices e : Ev (d + 2, 0, 0, 129, 63, [.val (.ref 1088), .val (.int p1), .val (.int p2)], [.int x9, .int p2, .int p1, .ref 1088], (126, 120, L, [Y, T, HA, HB, RA, RB, ST, NS, I0, I1, I2, BO, FI, RG, GU, PU, MA_8, MN, MS, OT, SC], [r0, r1, r2, r3, w, r5, r6, r7, r8], Lg)) o from ev_opt (fun x9 => (d + 2, 0, 0, 129, 63, [.val (.ref 1088), .val (.int p1), .val (.int p2)], [.int x9, .int p2, .int p1, .ref 1088], (126, 120, L, [Y, T, HA, HB, RA, RB, ST, NS, I0, I1, I2, BO, FI, RG, GU, PU, MA_8, MN, MS, OT, SC], [r0, r1, r2, r3, w, r5, r6, r7, r8], Lg))) 7 zh16 e (fun n => Eq.refl _)
          obtain ⟨⟨x10, MS_11⟩, zh17, h⟩ := bnd h
          have zh17 : f_M_yieldsTo MA_8 MS p1 p2 x9 0 = some (x10, MS_11) := zh17
          have ze18 := R_f_M_yieldsTo_0 (d + 0) Y T HA HB RA RB ST NS I0 I1 I2 BO FI RG GU PU MA_8 MN MS OT SC r0 r1 r2 r3 w r5 r6 r7 r8 L Lg p1 p2 x9 0 zh17
          suffices e : Ev (d + 2, 0, 0, 129, 67, [.val (.ref 1088), .val (.int p1), .val (.int p2)], [.int x10], (126, 120, L, [Y, T, HA, HB, RA, RB, ST, NS, I0, I1, I2, BO, FI, RG, GU, PU, MA_8, MN, MS_11, OT, SC], [r0, r1, r2, r3, w, r5, r6, r7, r8], Lg)) o from ev_call (fun v μ => (d + 2, 0, 0, 129, 67, [.val (.ref 1088), .val (.int p1), .val (.int p2)], v.toList ++ [], μ)) 2 ze18 e (fun n => Eq.refl _)
          have ze19 := Option.some.inj h
          subst ze19
          exact ev_rete 1 ho (fun n => Eq.refl _)
        · have h := itn h zc15
          suffices e : Ev (d + 2, 0, 0, 129, 52, [.val (.ref 1088), .val (.int p1), .val (.int p2)], [], (126, 120, L, [Y, T, HA, HB, RA, RB, ST, NS, I0, I1, I2, BO, FI, RG, GU, PU, MA_8, MN, MS, OT, SC], [r0, r1, r2, r3, w, r5, r6, r7, r8], Lg)) o from ev_f (c := x7 ≠ 0) _ _ 1  zc15 e (fun n => Eq.refl _)
          have ze20 := Option.some.inj h
          subst ze20
          exact ev_rete 2 ho (fun n => Eq.refl _)
      obtain ⟨zt21, zh22, zh10⟩ := bnd zh10
      have zj23 : zt21 = .inl () → Ev (d + 2, 0, 0, 129, 43, [.val (.ref 1088), .val (.int p1), .val (.int p2)], [.ref 1088], (126, 120, L, [Y, T, HA, HB, RA, RB, ST, NS, I0, I1, I2, BO, FI, RG, GU, PU, MA_4, MN, MS, OT, SC], [r0, r1, r2, r3, w, r5, r6, r7, r8], Lg)) o := by
        intro ze24
        have zh10 := sum_l zh10 ze24
        exact ev_b 1 (zj11 0 (Option.some.inj zh10) ) (fun n => Eq.refl _)
      by_cases zc25 : p1 = p2
      · have zh22 := itp zh22 zc25
        suffices e : Ev (d + 2, 0, 0, 129, 43, [.val (.ref 1088), .val (.int p1), .val (.int p2)], [.ref 1088], (126, 120, L, [Y, T, HA, HB, RA, RB, ST, NS, I0, I1, I2, BO, FI, RG, GU, PU, MA_4, MN, MS, OT, SC], [r0, r1, r2, r3, w, r5, r6, r7, r8], Lg)) o from ev_t (c := p1 = p2) _ _ 4  zc25 e (fun n => Eq.refl _)
        exact ev_b 0 (zj23  (Option.some.inj zh22).symm ) (fun n => Eq.refl _)
      · have zh22 := itn zh22 zc25
        suffices e : Ev (d + 2, 0, 0, 129, 29, [.val (.ref 1088), .val (.int p1), .val (.int p2)], [.ref 1088], (126, 120, L, [Y, T, HA, HB, RA, RB, ST, NS, I0, I1, I2, BO, FI, RG, GU, PU, MA_4, MN, MS, OT, SC], [r0, r1, r2, r3, w, r5, r6, r7, r8], Lg)) o from ev_f (c := p1 = p2) _ _ 4  zc25 e (fun n => Eq.refl _)
        obtain ⟨x5, zh26, zh22⟩ := bnd zh22
        have zh26 : rdx (MA_4 7) 10 p1 = some x5 := zh26
        suffices e : Ev (d + 2, 0, 0, 129, 35, [.val (.ref 1088), .val (.int p1), .val (.int p2)], [.int x5, .ref 1088], (126, 120, L, [Y, T, HA, HB, RA, RB, ST, NS, I0, I1, I2, BO, FI, RG, GU, PU, MA_4, MN, MS, OT, SC], [r0, r1, r2, r3, w, r5, r6, r7, r8], Lg)) o from ev_opt (fun x5 => (d + 2, 0, 0, 129, 35, [.val (.ref 1088), .val (.int p1), .val (.int p2)], [.int x5, .ref 1088], (126, 120, L, [Y, T, HA, HB, RA, RB, ST, NS, I0, I1, I2, BO, FI, RG, GU, PU, MA_4, MN, MS, OT, SC], [r0, r1, r2, r3, w, r5, r6, r7, r8], Lg))) 4 zh26 e (fun n => Eq.refl _)
        by_cases zc27 : x5 = (-1)
        · have zh22 := itp zh22 zc27
          suffices e : Ev (d + 2, 0, 0, 129, 43, [.val (.ref 1088), .val (.int p1), .val (.int p2)], [.ref 1088], (126, 120, L, [Y, T, HA, HB, RA, RB, ST, NS, I0, I1, I2, BO, FI, RG, GU, PU, MA_4, MN, MS, OT, SC], [r0, r1, r2, r3, w, r5, r6, r7, r8], Lg)) o from ev_t (c := x5 = (-1)) _ _ 2  zc27 e (fun n => Eq.refl _)
          exact ev_b 0 (zj23  (Option.some.inj zh22).symm ) (fun n => Eq.refl _)
        · have zh22 := itn zh22 zc27
          suffices e : Ev (d + 2, 0, 0, 129, 39, [.val (.ref 1088), .val (.int p1), .val (.int p2)], [.ref 1088], (126, 120, L, [Y, T, HA, HB, RA, RB, ST, NS, I0, I1, I2, BO, FI, RG, GU, PU, MA_4, MN, MS, OT, SC], [r0, r1, r2, r3, w, r5, r6, r7, r8], Lg)) o from ev_f (c := x5 = (-1)) _ _ 2  zc27 e (fun n => Eq.refl _)
          have zh28 := sum_r zh10 (Option.some.inj zh22).symm
          exact ev_b 2 (zj11 1 (Option.some.inj zh28) ) (fun n => Eq.refl _)
set_option maxRecDepth 1000000 in
set_option maxHeartbeats 4000000 in
theorem R_f_M_inWay_0 (d : Nat) (Y T HA HB RA RB ST NS I0 I1 I2 BO FI RG GU PU MA MN MS OT SC : Nat → Nat → Int32) (r0 r1 r2 r3 w r5 r6 r7 r8 : Nat) (L : Nat) (Lg : Int64) (p1 : Int32) (p2 : Int32) {r : Int32} (h : f_M_inWay MA MS p1 p2 = some r) : Ev (d + 1, 0, 0, 130, 0, [.val (.ref 1088), .val (.int p1), .val (.int p2), .val a_unk, .val a_unk], [], (126, 120, L, [Y, T, HA, HB, RA, RB, ST, NS, I0, I1, I2, BO, FI, RG, GU, PU, MA, MN, MS, OT, SC], [r0, r1, r2, r3, w, r5, r6, r7, r8], Lg)) ((0, some (.int r), (126, 120, L, [Y, T, HA, HB, RA, RB, ST, NS, I0, I1, I2, BO, FI, RG, GU, PU, MA, MN, MS, OT, SC], [r0, r1, r2, r3, w, r5, r6, r7, r8], Lg)) : AOut) := by
  suffices key : ∀ o : AOut, ((0, some (.int r), (126, 120, L, [Y, T, HA, HB, RA, RB, ST, NS, I0, I1, I2, BO, FI, RG, GU, PU, MA, MN, MS, OT, SC], [r0, r1, r2, r3, w, r5, r6, r7, r8], Lg)) : AOut) = o → Ev (d + 1, 0, 0, 130, 0, [.val (.ref 1088), .val (.int p1), .val (.int p2), .val a_unk, .val a_unk], [], (126, 120, L, [Y, T, HA, HB, RA, RB, ST, NS, I0, I1, I2, BO, FI, RG, GU, PU, MA, MN, MS, OT, SC], [r0, r1, r2, r3, w, r5, r6, r7, r8], Lg)) o from key _ rfl
  intro o ho
  obtain ⟨v6, zh2, h⟩ := bnd h
  suffices e : Ev (d + 1, 0, 0, 130, 5, [.val (.ref 1088), .val (.int p1), .val (.int p2), .val (.int 0), .val (.int 0)], [], (126, 120, L, [Y, T, HA, HB, RA, RB, ST, NS, I0, I1, I2, BO, FI, RG, GU, PU, MA, MN, MS, OT, SC], [r0, r1, r2, r3, w, r5, r6, r7, r8], Lg)) o from ev_b 4 e (fun n => Eq.refl _)
  refine ev_loop (δ := Unit) (fun a j => (d + 1, 0, 0, 130, 5, [.val (.ref 1088), .val (.int p1), .val (.int p2), .val (.int a.1), .val (.int a.2)], [], (126, 120, L, [Y, T, HA, HB, RA, RB, ST, NS, I0, I1, I2, BO, FI, RG, GU, PU, MA, MN, MS, OT, SC], [r0, r1, r2, r3, w, r5, r6, r7, r8], Lg))) (fun b => ∀ s7 : Value, Ev (d + 1, 0, 0, 130, 49, [.val (.ref 1088), .val (.int p1), .val (.int p2), .val (.int b), .val s7], [], (126, 120, L, [Y, T, HA, HB, RA, RB, ST, NS, I0, I1, I2, BO, FI, RG, GU, PU, MA, MN, MS, OT, SC], [r0, r1, r2, r3, w, r5, r6, r7, r8], Lg)) o) ?_ a_F (0, 0) v6 zh2 ?_ ()
  · rintro ⟨v1, v2⟩ zr6 zh5 zi3 zx4 ⟨⟩
    have zh5 : f_M_inWay_l5 MA MS p1 p2 v1 v2 = some zr6 := zh5
    by_cases zc7 : (MA 0 26) ≤ v2
    · have zh5 := itp zh5 zc7
      suffices e : Ev (d + 1, 0, 0, 130, 49, [.val (.ref 1088), .val (.int p1), .val (.int p2), .val (.int v1), .val (.int v2)], [], (126, 120, L, [Y, T, HA, HB, RA, RB, ST, NS, I0, I1, I2, BO, FI, RG, GU, PU, MA, MN, MS, OT, SC], [r0, r1, r2, r3, w, r5, r6, r7, r8], Lg)) o from ev_t (c := (MA 0 26) ≤ v2) _ _ 4  zc7 e (fun n => Eq.refl _)
      exact ev_b 0 (zx4 _ (Option.some.inj zh5).symm (.int v2)) (fun n => Eq.refl _)
    · have zh5 := itn zh5 zc7
      suffices e : Ev (d + 1, 0, 0, 130, 14, [.val (.ref 1088), .val (.int p1), .val (.int p2), .val (.int v1), .val (.int v2)], [], (126, 120, L, [Y, T, HA, HB, RA, RB, ST, NS, I0, I1, I2, BO, FI, RG, GU, PU, MA, MN, MS, OT, SC], [r0, r1, r2, r3, w, r5, r6, r7, r8], Lg)) o from ev_f (c := (MA 0 26) ≤ v2) _ _ 4  zc7 e (fun n => Eq.refl _)
      obtain ⟨x3, zh8, zh5⟩ := bnd zh5
      have zh8 : rdx (MS 4) 10 v2 = some x3 := zh8
      suffices e : Ev (d + 1, 0, 0, 130, 27, [.val (.ref 1088), .val (.int p1), .val (.int p2), .val (.int v1), .val (.int v2)], [.int x3, .int v2, .int p2, .int p1, .ref 1088, .int v1], (126, 120, L, [Y, T, HA, HB, RA, RB, ST, NS, I0, I1, I2, BO, FI, RG, GU, PU, MA, MN, MS, OT, SC], [r0, r1, r2, r3, w, r5, r6, r7, r8], Lg)) o from ev_opt (fun x3 => (d + 1, 0, 0, 130, 27, [.val (.ref 1088), .val (.int p1), .val (.int p2), .val (.int v1), .val (.int v2)], [.int x3, .int v2, .int p2, .int p1, .ref 1088, .int v1], (126, 120, L, [Y, T, HA, HB, RA, RB, ST, NS, I0, I1, I2, BO, FI, RG, GU, PU, MA, MN, MS, OT, SC], [r0, r1, r2, r3, w, r5, r6, r7, r8], Lg))) 9 zh8 e (fun n => Eq.refl _)
      obtain ⟨x4, zh9, zh5⟩ := bnd zh5
      have zh9 : f_M_clashWith MA p1 p2 v2 x3 = some x4 := zh9
      have ze10 := R_f_M_clashWith_0 (d + 0) Y T HA HB RA RB ST NS I0 I1 I2 BO FI RG GU PU MA MN MS OT SC r0 r1 r2 r3 w r5 r6 r7 r8 L Lg p1 p2 v2 x3 zh9
      suffices e : Ev (d + 1, 0, 0, 130, 30, [.val (.ref 1088), .val (.int p1), .val (.int p2), .val (.int v1), .val (.int v2)], [.int x4, .int v1], (126, 120, L, [Y, T, HA, HB, RA, RB, ST, NS, I0, I1, I2, BO, FI, RG, GU, PU, MA, MN, MS, OT, SC], [r0, r1, r2, r3, w, r5, r6, r7, r8], Lg)) o from ev_call (fun v μ => (d + 1, 0, 0, 130, 30, [.val (.ref 1088), .val (.int p1), .val (.int p2), .val (.int v1), .val (.int v2)], v.toList ++ [.int v1], μ)) 1 ze10 e (fun n => Eq.refl _)
      obtain ⟨zt11, zh12, zh5⟩ := bnd zh5
      have zj13 : ∀ (v5 : Int32), v5 = zt11 → Ev (d + 1, 0, 0, 130, 41, [.val (.ref 1088), .val (.int p1), .val (.int p2), .val (.int v1), .val (.int v2)], [.int v5, .int v1], (126, 120, L, [Y, T, HA, HB, RA, RB, ST, NS, I0, I1, I2, BO, FI, RG, GU, PU, MA, MN, MS, OT, SC], [r0, r1, r2, r3, w, r5, r6, r7, r8], Lg)) o := by
        intro v5 ze14
        subst ze14
        exact ev_b 4 (zi3 _ (Option.some.inj zh5).symm ()) (fun n => Eq.refl _)
      by_cases zc15 : x4 = 0
      · have zh12 := itp zh12 zc15
        suffices e : Ev (d + 1, 0, 0, 130, 40, [.val (.ref 1088), .val (.int p1), .val (.int p2), .val (.int v1), .val (.int v2)], [.int v1], (126, 120, L, [Y, T, HA, HB, RA, RB, ST, NS, I0, I1, I2, BO, FI, RG, GU, PU, MA, MN, MS, OT, SC], [r0, r1, r2, r3, w, r5, r6, r7, r8], Lg)) o from ev_t (c := x4 = 0) _ _ 1  zc15 e (fun n => Eq.refl _)
        exact ev_b 1 (zj13 0 (Option.some.inj zh12) ) (fun n => Eq.refl _)
      · have zh12 := itn zh12 zc15
        suffices e : Ev (d + 1, 0, 0, 130, 33, [.val (.ref 1088), .val (.int p1), .val (.int p2), .val (.int v1), .val (.int v2)], [.int v1], (126, 120, L, [Y, T, HA, HB, RA, RB, ST, NS, I0, I1, I2, BO, FI, RG, GU, PU, MA, MN, MS, OT, SC], [r0, r1, r2, r3, w, r5, r6, r7, r8], Lg)) o from ev_f (c := x4 = 0) _ _ 1  zc15 e (fun n => Eq.refl _)
        exact ev_b 4 (zj13 (a_shl 1 v2) (Option.some.inj zh12) ) (fun n => Eq.refl _)
  · skip
    intro s7
    have ze16 := Option.some.inj h
    subst ze16
    exact ev_rete 2 ho (fun n => Eq.refl _)
set_option maxRecDepth 1000000 in
set_option maxHeartbeats 4000000 in
theorem R_f_M_areFree_0 (d : Nat) (Y T HA HB RA RB ST NS I0 I1 I2 BO FI RG GU PU MA MN MS OT SC : Nat → Nat → Int32) (r0 r1 r2 r3 w r5 r6 r7 r8 : Nat) (L : Nat) (Lg : Int64) (p1 : Int32) {r : Int32} (h : f_M_areFree MA p1 = some r) : Ev (d + 1, 0, 0, 131, 0, [.val (.ref 1088), .val (.int p1), .val a_unk], [], (126, 120, L, [Y, T, HA, HB, RA, RB, ST, NS, I0, I1, I2, BO, FI, RG, GU, PU, MA, MN, MS, OT, SC], [r0, r1, r2, r3, w, r5, r6, r7, r8], Lg)) ((0, some (.int r), (126, 120, L, [Y, T, HA, HB, RA, RB, ST, NS, I0, I1, I2, BO, FI, RG, GU, PU, MA, MN, MS, OT, SC], [r0, r1, r2, r3, w, r5, r6, r7, r8], Lg)) : AOut) := by
  suffices key : ∀ o : AOut, ((0, some (.int r), (126, 120, L, [Y, T, HA, HB, RA, RB, ST, NS, I0, I1, I2, BO, FI, RG, GU, PU, MA, MN, MS, OT, SC], [r0, r1, r2, r3, w, r5, r6, r7, r8], Lg)) : AOut) = o → Ev (d + 1, 0, 0, 131, 0, [.val (.ref 1088), .val (.int p1), .val a_unk], [], (126, 120, L, [Y, T, HA, HB, RA, RB, ST, NS, I0, I1, I2, BO, FI, RG, GU, PU, MA, MN, MS, OT, SC], [r0, r1, r2, r3, w, r5, r6, r7, r8], Lg)) o from key _ rfl
  intro o ho
  obtain ⟨zb1, zh2, h⟩ := bnd h
  suffices e : Ev (d + 1, 0, 0, 131, 2, [.val (.ref 1088), .val (.int p1), .val (.int 0)], [], (126, 120, L, [Y, T, HA, HB, RA, RB, ST, NS, I0, I1, I2, BO, FI, RG, GU, PU, MA, MN, MS, OT, SC], [r0, r1, r2, r3, w, r5, r6, r7, r8], Lg)) o from ev_b 2 e (fun n => Eq.refl _)
  refine ev_loop (δ := Unit) (fun a j => (d + 1, 0, 0, 131, 2, [.val (.ref 1088), .val (.int p1), .val (.int a)], [], (126, 120, L, [Y, T, HA, HB, RA, RB, ST, NS, I0, I1, I2, BO, FI, RG, GU, PU, MA, MN, MS, OT, SC], [r0, r1, r2, r3, w, r5, r6, r7, r8], Lg))) (fun b => sumE b (fun b => ∀ s3 : Value, Ev (d + 1, 0, 0, 131, 35, [.val (.ref 1088), .val (.int p1), .val s3], [], (126, 120, L, [Y, T, HA, HB, RA, RB, ST, NS, I0, I1, I2, BO, FI, RG, GU, PU, MA, MN, MS, OT, SC], [r0, r1, r2, r3, w, r5, r6, r7, r8], Lg)) o) (fun b => ((0, some (.int b), (126, 120, L, [Y, T, HA, HB, RA, RB, ST, NS, I0, I1, I2, BO, FI, RG, GU, PU, MA, MN, MS, OT, SC], [r0, r1, r2, r3, w, r5, r6, r7, r8], Lg)) : AOut) = o)) ?_ a_F 0 zb1 zh2 ?_ ()
  · rintro v1 zr6 zh5 zi3 zx4 ⟨⟩
    have zh5 : f_M_areFree_l2 MA p1 v1 = some zr6 := zh5
    by_cases zc7 : (MA 0 26) ≤ v1
    · have zh5 := itp zh5 zc7
      suffices e : Ev (d + 1, 0, 0, 131, 35, [.val (.ref 1088), .val (.int p1), .val (.int v1)], [], (126, 120, L, [Y, T, HA, HB, RA, RB, ST, NS, I0, I1, I2, BO, FI, RG, GU, PU, MA, MN, MS, OT, SC], [r0, r1, r2, r3, w, r5, r6, r7, r8], Lg)) o from ev_t (c := (MA 0 26) ≤ v1) _ _ 4  zc7 e (fun n => Eq.refl _)
      exact ev_b 0 (zx4 _ (Option.some.inj zh5).symm (.int v1)) (fun n => Eq.refl _)
    · have zh5 := itn zh5 zc7
      suffices e : Ev (d + 1, 0, 0, 131, 10, [.val (.ref 1088), .val (.int p1), .val (.int v1)], [], (126, 120, L, [Y, T, HA, HB, RA, RB, ST, NS, I0, I1, I2, BO, FI, RG, GU, PU, MA, MN, MS, OT, SC], [r0, r1, r2, r3, w, r5, r6, r7, r8], Lg)) o from ev_f (c := (MA 0 26) ≤ v1) _ _ 4  zc7 e (fun n => Eq.refl _)
      by_cases zc8 : ((a_shr p1 v1) &&& 1) ≠ 1
      · have zh5 := itp zh5 zc8
        suffices e : Ev (d + 1, 0, 0, 131, 29, [.val (.ref 1088), .val (.int p1), .val (.int v1)], [], (126, 120, L, [Y, T, HA, HB, RA, RB, ST, NS, I0, I1, I2, BO, FI, RG, GU, PU, MA, MN, MS, OT, SC], [r0, r1, r2, r3, w, r5, r6, r7, r8], Lg)) o from ev_t (c := ((a_shr p1 v1) &&& 1) ≠ 1) _ _ 7  zc8 e (fun n => Eq.refl _)
        exact ev_b 2 (zi3 _ (Option.some.inj zh5).symm ()) (fun n => Eq.refl _)
      · have zh5 := itn zh5 zc8
        suffices e : Ev (d + 1, 0, 0, 131, 19, [.val (.ref 1088), .val (.int p1), .val (.int v1)], [], (126, 120, L, [Y, T, HA, HB, RA, RB, ST, NS, I0, I1, I2, BO, FI, RG, GU, PU, MA, MN, MS, OT, SC], [r0, r1, r2, r3, w, r5, r6, r7, r8], Lg)) o from ev_f (c := ((a_shr p1 v1) &&& 1) ≠ 1) _ _ 7  zc8 e (fun n => Eq.refl _)
        obtain ⟨x2, zh9, zh5⟩ := bnd zh5
        have zh9 : f_M_isFixed MA v1 = some x2 := zh9
        have ze10 := R_f_M_isFixed_0 (d + 0) Y T HA HB RA RB ST NS I0 I1 I2 BO FI RG GU PU MA MN MS OT SC r0 r1 r2 r3 w r5 r6 r7 r8 L Lg v1 zh9
        suffices e : Ev (d + 1, 0, 0, 131, 24, [.val (.ref 1088), .val (.int p1), .val (.int v1)], [.int x2], (126, 120, L, [Y, T, HA, HB, RA, RB, ST, NS, I0, I1, I2, BO, FI, RG, GU, PU, MA, MN, MS, OT, SC], [r0, r1, r2, r3, w, r5, r6, r7, r8], Lg)) o from ev_call (fun v μ => (d + 1, 0, 0, 131, 24, [.val (.ref 1088), .val (.int p1), .val (.int v1)], v.toList ++ [], μ)) 3 ze10 e (fun n => Eq.refl _)
        by_cases zc11 : x2 = 0
        · have zh5 := itp zh5 zc11
          suffices e : Ev (d + 1, 0, 0, 131, 29, [.val (.ref 1088), .val (.int p1), .val (.int v1)], [], (126, 120, L, [Y, T, HA, HB, RA, RB, ST, NS, I0, I1, I2, BO, FI, RG, GU, PU, MA, MN, MS, OT, SC], [r0, r1, r2, r3, w, r5, r6, r7, r8], Lg)) o from ev_t (c := x2 = 0) _ _ 1  zc11 e (fun n => Eq.refl _)
          exact ev_b 2 (zi3 _ (Option.some.inj zh5).symm ()) (fun n => Eq.refl _)
        · have zh5 := itn zh5 zc11
          suffices e : Ev (d + 1, 0, 0, 131, 27, [.val (.ref 1088), .val (.int p1), .val (.int v1)], [], (126, 120, L, [Y, T, HA, HB, RA, RB, ST, NS, I0, I1, I2, BO, FI, RG, GU, PU, MA, MN, MS, OT, SC], [r0, r1, r2, r3, w, r5, r6, r7, r8], Lg)) o from ev_f (c := x2 = 0) _ _ 1  zc11 e (fun n => Eq.refl _)
          exact ev_rete 2 (zx4 _ (Option.some.inj zh5).symm) (fun n => Eq.refl _)
  · rcases zb1 with ⟨⟩ | zr6
    · intro s3
      have ze12 := Option.some.inj h
      subst ze12
      exact ev_rete 2 ho (fun n => Eq.refl _)
    · have zh13 : some zr6 = some r := h
      exact (congrArg (fun q => ((0, some (.int q), (126, 120, L, [Y, T, HA, HB, RA, RB, ST, NS, I0, I1, I2, BO, FI, RG, GU, PU, MA, MN, MS, OT, SC], [r0, r1, r2, r3, w, r5, r6, r7, r8], Lg)) : AOut)) (Option.some.inj zh13)).trans ho
set_option maxRecDepth 1000000 in
set_option maxHeartbeats 4000000 in
theorem R_f_M_takes_0 (d : Nat) (Y T HA HB RA RB ST NS I0 I1 I2 BO FI RG GU PU MA MN MS OT SC : Nat → Nat → Int32) (r0 r1 r2 r3 w r5 r6 r7 r8 : Nat) (L : Nat) (Lg : Int64) (p1 : Int32) (p2 : Int32) {r : (Nat → Nat → Int32)} (h : f_M_takes MA MS p1 p2 = some r) : Ev (d + 2, 0, 0, 132, 0, [.val (.ref 1088), .val (.int p1), .val (.int p2), .val a_unk, .val a_unk], [], (126, 120, L, [Y, T, HA, HB, RA, RB, ST, NS, I0, I1, I2, BO, FI, RG, GU, PU, MA, MN, MS, OT, SC], [r0, r1, r2, r3, w, r5, r6, r7, r8], Lg)) ((0, none, (126, 120, L, [Y, T, HA, HB, RA, RB, ST, NS, I0, I1, I2, BO, FI, RG, GU, PU, MA, MN, r, OT, SC], [r0, r1, r2, r3, w, r5, r6, r7, r8], Lg)) : AOut) := by
  suffices key : ∀ o : AOut, ((0, none, (126, 120, L, [Y, T, HA, HB, RA, RB, ST, NS, I0, I1, I2, BO, FI, RG, GU, PU, MA, MN, r, OT, SC], [r0, r1, r2, r3, w, r5, r6, r7, r8], Lg)) : AOut) = o → Ev (d + 2, 0, 0, 132, 0, [.val (.ref 1088), .val (.int p1), .val (.int p2), .val a_unk, .val a_unk], [], (126, 120, L, [Y, T, HA, HB, RA, RB, ST, NS, I0, I1, I2, BO, FI, RG, GU, PU, MA, MN, MS, OT, SC], [r0, r1, r2, r3, w, r5, r6, r7, r8], Lg)) o from key _ rfl
  intro o ho
  obtain ⟨x1, zh1, h⟩ := bnd h
  have zh1 : f_M_inWay MA MS p1 p2 = some x1 := zh1
  have ze2 := R_f_M_inWay_0 (d + 0) Y T HA HB RA RB ST NS I0 I1 I2 BO FI RG GU PU MA MN MS OT SC r0 r1 r2 r3 w r5 r6 r7 r8 L Lg p1 p2 zh1
  suffices e : Ev (d + 2, 0, 0, 132, 6, [.val (.ref 1088), .val (.int p1), .val (.int p2), .val a_unk, .val a_unk], [.int x1], (126, 120, L, [Y, T, HA, HB, RA, RB, ST, NS, I0, I1, I2, BO, FI, RG, GU, PU, MA, MN, MS, OT, SC], [r0, r1, r2, r3, w, r5, r6, r7, r8], Lg)) o from ev_call (fun v μ => (d + 2, 0, 0, 132, 6, [.val (.ref 1088), .val (.int p1), .val (.int p2), .val a_unk, .val a_unk], v.toList ++ [], μ)) 4 ze2 e (fun n => Eq.refl _)
  obtain ⟨MS_7, zh4, h⟩ := bnd h
  suffices e : Ev (d + 2, 0, 0, 132, 10, [.val (.ref 1088), .val (.int p1), .val (.int p2), .val (.int x1), .val (.int 0)], [], (126, 120, L, [Y, T, HA, HB, RA, RB, ST, NS, I0, I1, I2, BO, FI, RG, GU, PU, MA, MN, MS, OT, SC], [r0, r1, r2, r3, w, r5, r6, r7, r8], Lg)) o from ev_b 3 e (fun n => Eq.refl _)
  refine ev_loop (δ := Unit) (fun a j => (d + 2, 0, 0, 132, 10, [.val (.ref 1088), .val (.int p1), .val (.int p2), .val (.int x1), .val (.int a.1)], [], (126, 120, L, [Y, T, HA, HB, RA, RB, ST, NS, I0, I1, I2, BO, FI, RG, GU, PU, MA, MN, a.2, OT, SC], [r0, r1, r2, r3, w, r5, r6, r7, r8], Lg))) (fun b => ∀ s6 : Value, Ev (d + 2, 0, 0, 132, 66, [.val (.ref 1088), .val (.int p1), .val (.int p2), .val (.int x1), .val s6], [], (126, 120, L, [Y, T, HA, HB, RA, RB, ST, NS, I0, I1, I2, BO, FI, RG, GU, PU, MA, MN, b, OT, SC], [r0, r1, r2, r3, w, r5, r6, r7, r8], Lg)) o) ?_ a_F (0, MS) MS_7 zh4 ?_ ()
  · rintro ⟨v2, MS_3⟩ zr8 zh7 zi5 zx6 ⟨⟩
    have zh7 : f_M_takes_l10 MA x1 v2 MS_3 = some zr8 := zh7
    by_cases zc9 : (MA 0 26) ≤ v2
    · have zh7 := itp zh7 zc9
      suffices e : Ev (d + 2, 0, 0, 132, 66, [.val (.ref 1088), .val (.int p1), .val (.int p2), .val (.int x1), .val (.int v2)], [], (126, 120, L, [Y, T, HA, HB, RA, RB, ST, NS, I0, I1, I2, BO, FI, RG, GU, PU, MA, MN, MS_3, OT, SC], [r0, r1, r2, r3, w, r5, r6, r7, r8], Lg)) o from ev_t (c := (MA 0 26) ≤ v2) _ _ 4  zc9 e (fun n => Eq.refl _)
      exact ev_b 0 (zx6 _ (Option.some.inj zh7).symm (.int v2)) (fun n => Eq.refl _)
    · have zh7 := itn zh7 zc9
      suffices e : Ev (d + 2, 0, 0, 132, 19, [.val (.ref 1088), .val (.int p1), .val (.int p2), .val (.int x1), .val (.int v2)], [], (126, 120, L, [Y, T, HA, HB, RA, RB, ST, NS, I0, I1, I2, BO, FI, RG, GU, PU, MA, MN, MS_3, OT, SC], [r0, r1, r2, r3, w, r5, r6, r7, r8], Lg)) o from ev_f (c := (MA 0 26) ≤ v2) _ _ 4  zc9 e (fun n => Eq.refl _)
      by_cases zc10 : ((a_shr x1 v2) &&& 1) ≠ 0
      · have zh7 := itp zh7 zc10
        suffices e : Ev (d + 2, 0, 0, 132, 31, [.val (.ref 1088), .val (.int p1), .val (.int p2), .val (.int x1), .val (.int v2)], [], (126, 120, L, [Y, T, HA, HB, RA, RB, ST, NS, I0, I1, I2, BO, FI, RG, GU, PU, MA, MN, MS_3, OT, SC], [r0, r1, r2, r3, w, r5, r6, r7, r8], Lg)) o from ev_t (c := ((a_shr x1 v2) &&& 1) ≠ 0) _ _ 6  zc10 e (fun n => Eq.refl _)
        obtain ⟨j4, zh11, zh7⟩ := bnd zh7
        have zh11 : ixx 10 v2 = some j4 := zh11
        suffices e : Ev (d + 2, 0, 0, 132, 39, [.val (.ref 1088), .val (.int p1), .val (.int p2), .val (.int x1), .val (.int v2)], [], (126, 120, L, [Y, T, HA, HB, RA, RB, ST, NS, I0, I1, I2, BO, FI, RG, GU, PU, MA, MN, (u2 MS_3 4 j4 (-1)), OT, SC], [r0, r1, r2, r3, w, r5, r6, r7, r8], Lg)) o from ev_opt (fun j4 => (d + 2, 0, 0, 132, 39, [.val (.ref 1088), .val (.int p1), .val (.int p2), .val (.int x1), .val (.int v2)], [], (126, 120, L, [Y, T, HA, HB, RA, RB, ST, NS, I0, I1, I2, BO, FI, RG, GU, PU, MA, MN, (u2 MS_3 4 j4 (-1)), OT, SC], [r0, r1, r2, r3, w, r5, r6, r7, r8], Lg))) 5 zh11 e (fun n => Eq.refl _)
        obtain ⟨j5, zh12, zh7⟩ := bnd zh7
        have zh12 : ixx 1100 ((u2 MS_3 4 j4 (-1)) 0 57) = some j5 := zh12
        suffices e : Ev (d + 2, 0, 0, 132, 50, [.val (.ref 1088), .val (.int p1), .val (.int p2), .val (.int x1), .val (.int v2)], [], (126, 120, L, [Y, T, HA, HB, RA, RB, ST, NS, I0, I1, I2, BO, FI, RG, GU, PU, MA, MN, (u2 (u2 MS_3 4 j4 (-1)) 9 j5 v2), OT, SC], [r0, r1, r2, r3, w, r5, r6, r7, r8], Lg)) o from ev_opt (fun j5 => (d + 2, 0, 0, 132, 50, [.val (.ref 1088), .val (.int p1), .val (.int p2), .val (.int x1), .val (.int v2)], [], (126, 120, L, [Y, T, HA, HB, RA, RB, ST, NS, I0, I1, I2, BO, FI, RG, GU, PU, MA, MN, (u2 (u2 MS_3 4 j4 (-1)) 9 j5 v2), OT, SC], [r0, r1, r2, r3, w, r5, r6, r7, r8], Lg))) 6 zh12 e (fun n => Eq.refl _)
        exact ev_b 8 (zi5 _ (Option.some.inj zh7).symm ()) (fun n => Eq.refl _)
      · have zh7 := itn zh7 zc10
        suffices e : Ev (d + 2, 0, 0, 132, 28, [.val (.ref 1088), .val (.int p1), .val (.int p2), .val (.int x1), .val (.int v2)], [], (126, 120, L, [Y, T, HA, HB, RA, RB, ST, NS, I0, I1, I2, BO, FI, RG, GU, PU, MA, MN, MS_3, OT, SC], [r0, r1, r2, r3, w, r5, r6, r7, r8], Lg)) o from ev_f (c := ((a_shr x1 v2) &&& 1) ≠ 0) _ _ 6  zc10 e (fun n => Eq.refl _)
        exact ev_b 3 (zi5 _ (Option.some.inj zh7).symm ()) (fun n => Eq.refl _)
  · skip
    intro s6
    obtain ⟨j8, zh13, h⟩ := bnd h
    have zh13 : ixx 10 p1 = some j8 := zh13
    suffices e : Ev (d + 2, 0, 0, 132, 73, [.val (.ref 1088), .val (.int p1), .val (.int p2), .val (.int x1), .val s6], [], (126, 120, L, [Y, T, HA, HB, RA, RB, ST, NS, I0, I1, I2, BO, FI, RG, GU, PU, MA, MN, (u2 MS_7 4 j8 p2), OT, SC], [r0, r1, r2, r3, w, r5, r6, r7, r8], Lg)) o from ev_opt (fun j8 => (d + 2, 0, 0, 132, 73, [.val (.ref 1088), .val (.int p1), .val (.int p2), .val (.int x1), .val s6], [], (126, 120, L, [Y, T, HA, HB, RA, RB, ST, NS, I0, I1, I2, BO, FI, RG, GU, PU, MA, MN, (u2 MS_7 4 j8 p2), OT, SC], [r0, r1, r2, r3, w, r5, r6, r7, r8], Lg))) 5 zh13 e (fun n => Eq.refl _)
    have ze14 := Option.some.inj h
    subst ze14
    exact ev_rete 1 ho (fun n => Eq.refl _)
