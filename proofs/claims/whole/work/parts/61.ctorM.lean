/-! ===== printed by program (gen/ctors.py): the reference's constructor ===== -/
set_option maxRecDepth 1000000 in
set_option maxHeartbeats 4000000 in
theorem R_f_M_clears_c (d : Nat) (Y T HA HB RA RB ST NS I0 I1 I2 BO FI RG GU PU MA MN MS OT SC : Nat → Nat → Int32) (r0 r1 r2 r3 w r5 r6 r7 r8 : Nat) (L : Nat) (Lg : Int64) {r : (Nat → Nat → Int32)} (h : f_M_clears MN = some r) : Ev (d + 0, 0, 0, 31, 0, [.val (.ref 1088), .val a_unk], [], (125, 120, L, [Y, T, HA, HB, RA, RB, ST, NS, I0, I1, I2, BO, FI, RG, GU, PU, MA, MN, MS, OT, SC], [r0, r1, r2, r3, w, r5, r6, r7, r8], Lg)) ((0, none, (125, 120, L, [Y, T, HA, HB, RA, RB, ST, NS, I0, I1, I2, BO, FI, RG, GU, PU, MA, r, MS, OT, SC], [r0, r1, r2, r3, w, r5, r6, r7, r8], Lg)) : AOut) := by
  suffices key : ∀ o : AOut, ((0, none, (125, 120, L, [Y, T, HA, HB, RA, RB, ST, NS, I0, I1, I2, BO, FI, RG, GU, PU, MA, r, MS, OT, SC], [r0, r1, r2, r3, w, r5, r6, r7, r8], Lg)) : AOut) = o → Ev (d + 0, 0, 0, 31, 0, [.val (.ref 1088), .val a_unk], [], (125, 120, L, [Y, T, HA, HB, RA, RB, ST, NS, I0, I1, I2, BO, FI, RG, GU, PU, MA, MN, MS, OT, SC], [r0, r1, r2, r3, w, r5, r6, r7, r8], Lg)) o from key _ rfl
  intro o ho
  obtain ⟨MN_5, zh2, h⟩ := bnd h
  suffices e : Ev (d + 0, 0, 0, 31, 28, [.val (.ref 1088), .val (.int 0)], [], (125, 120, L, [Y, T, HA, HB, RA, RB, ST, NS, I0, I1, I2, BO, FI, RG, GU, PU, MA, (u2 (u2 (u2 (u2 (u2 MN 0 18 8) 0 19 0) 0 20 0) 0 21 0) 0 22 0), MS, OT, SC], [r0, r1, r2, r3, w, r5, r6, r7, r8], Lg)) o from ev_b 17 e (fun n => Eq.refl _)
  refine ev_loop (δ := Unit) (fun a j => (d + 0, 0, 0, 31, 28, [.val (.ref 1088), .val (.int a.1)], [], (125, 120, L, [Y, T, HA, HB, RA, RB, ST, NS, I0, I1, I2, BO, FI, RG, GU, PU, MA, a.2, MS, OT, SC], [r0, r1, r2, r3, w, r5, r6, r7, r8], Lg))) (fun b => ∀ s4 : Value, Ev (d + 0, 0, 0, 31, 47, [.val (.ref 1088), .val s4], [], (125, 120, L, [Y, T, HA, HB, RA, RB, ST, NS, I0, I1, I2, BO, FI, RG, GU, PU, MA, b, MS, OT, SC], [r0, r1, r2, r3, w, r5, r6, r7, r8], Lg)) o) ?_ a_F (0, (u2 (u2 (u2 (u2 (u2 MN 0 18 8) 0 19 0) 0 20 0) 0 21 0) 0 22 0)) MN_5 zh2 ?_ ()
  · rintro ⟨v1, MN_2⟩ zr6 zh5 zi3 zx4 ⟨⟩
    have zh5 : f_M_clears_l28 v1 MN_2 = some zr6 := zh5
    by_cases zc7 : 60 ≤ v1
    · have zh5 := itp zh5 zc7
      suffices e : Ev (d + 0, 0, 0, 31, 47, [.val (.ref 1088), .val (.int v1)], [], (125, 120, L, [Y, T, HA, HB, RA, RB, ST, NS, I0, I1, I2, BO, FI, RG, GU, PU, MA, MN_2, MS, OT, SC], [r0, r1, r2, r3, w, r5, r6, r7, r8], Lg)) o from ev_t (c := 60 ≤ v1) _ _ 3  zc7 e (fun n => Eq.refl _)
      exact ev_b 0 (zx4 _ (Option.some.inj zh5).symm (.int v1)) (fun n => Eq.refl _)
    · have zh5 := itn zh5 zc7
      suffices e : Ev (d + 0, 0, 0, 31, 34, [.val (.ref 1088), .val (.int v1)], [], (125, 120, L, [Y, T, HA, HB, RA, RB, ST, NS, I0, I1, I2, BO, FI, RG, GU, PU, MA, MN_2, MS, OT, SC], [r0, r1, r2, r3, w, r5, r6, r7, r8], Lg)) o from ev_f (c := 60 ≤ v1) _ _ 3  zc7 e (fun n => Eq.refl _)
      obtain ⟨j3, zh8, zh5⟩ := bnd zh5
      have zh8 : ixx 60 v1 = some j3 := zh8
      suffices e : Ev (d + 0, 0, 0, 31, 41, [.val (.ref 1088), .val (.int v1)], [], (125, 120, L, [Y, T, HA, HB, RA, RB, ST, NS, I0, I1, I2, BO, FI, RG, GU, PU, MA, (u2 MN_2 3 j3 0), MS, OT, SC], [r0, r1, r2, r3, w, r5, r6, r7, r8], Lg)) o from ev_opt (fun j3 => (d + 0, 0, 0, 31, 41, [.val (.ref 1088), .val (.int v1)], [], (125, 120, L, [Y, T, HA, HB, RA, RB, ST, NS, I0, I1, I2, BO, FI, RG, GU, PU, MA, (u2 MN_2 3 j3 0), MS, OT, SC], [r0, r1, r2, r3, w, r5, r6, r7, r8], Lg))) 5 zh8 e (fun n => Eq.refl _)
      exact ev_b 2 (zi3 _ (Option.some.inj zh5).symm ()) (fun n => Eq.refl _)
  · skip
    intro s4
    have ze9 := Option.some.inj h
    subst ze9
    exact ev_rete 1 ho (fun n => Eq.refl _)
set_option maxRecDepth 1000000 in
set_option maxHeartbeats 4000000 in
theorem R_f_M_sets_c (d : Nat) (Y T HA HB RA RB ST NS I0 I1 I2 BO FI RG GU PU MA MN MS OT SC : Nat → Nat → Int32) (r0 r1 r2 r3 w r5 r6 r7 r8 : Nat) (L : Nat) (Lg : Int64) {r : (Nat → Nat → Int32)} (h : f_M_sets MA MN = some r) : Ev (d + 1, 0, 0, 33, 0, [.val (.ref 1088), .val a_unk], [], (125, 120, L, [Y, T, HA, HB, RA, RB, ST, NS, I0, I1, I2, BO, FI, RG, GU, PU, MA, MN, MS, OT, SC], [r0, r1, r2, r3, w, r5, r6, r7, r8], Lg)) ((0, none, (125, 120, L, [Y, T, HA, HB, RA, RB, ST, NS, I0, I1, I2, BO, FI, RG, GU, PU, r, MN, MS, OT, SC], [r0, r1, r2, r3, w, r5, r6, r7, r8], Lg)) : AOut) := by
  suffices key : ∀ o : AOut, ((0, none, (125, 120, L, [Y, T, HA, HB, RA, RB, ST, NS, I0, I1, I2, BO, FI, RG, GU, PU, r, MN, MS, OT, SC], [r0, r1, r2, r3, w, r5, r6, r7, r8], Lg)) : AOut) = o → Ev (d + 1, 0, 0, 33, 0, [.val (.ref 1088), .val a_unk], [], (125, 120, L, [Y, T, HA, HB, RA, RB, ST, NS, I0, I1, I2, BO, FI, RG, GU, PU, MA, MN, MS, OT, SC], [r0, r1, r2, r3, w, r5, r6, r7, r8], Lg)) o from key _ rfl
  intro o ho
  obtain ⟨x1, zh1, h⟩ := bnd h
  have ze2 := R_copies (d + 0) 1153 1091 3 [Y, T, HA, HB, RA, RB, ST, NS, I0, I1, I2, BO, FI, RG, GU, PU, (u2 (u2 (u2 (u2 (u2 MA 0 23 (MN 0 18)) 0 24 (MN 0 19)) 0 25 (MN 0 20)) 0 26 (MN 0 21)) 0 27 (MN 0 22)), MN, MS, OT, SC] [r0, r1, r2, r3, w, r5, r6, r7, r8] (.ref 1088) L Lg 125 120 rfl rfl rfl rfl (Nat.le_of_ble_eq_true rfl) (Nat.le_of_ble_eq_true rfl) (Nat.le_of_ble_eq_true rfl) zh1
  suffices e : Ev (d + 1, 0, 0, 33, 53, [.val (.ref 1088), .val a_unk], [], (125, 120, L, [Y, T, HA, HB, RA, RB, ST, NS, I0, I1, I2, BO, FI, RG, GU, PU, (u1 (u2 (u2 (u2 (u2 (u2 MA 0 23 (MN 0 18)) 0 24 (MN 0 19)) 0 25 (MN 0 20)) 0 26 (MN 0 21)) 0 27 (MN 0 22)) 3 x1), MN, MS, OT, SC], [r0, r1, r2, r3, w, r5, r6, r7, r8], Lg)) o from ev_call (fun v μ => (d + 1, 0, 0, 33, 53, [.val (.ref 1088), .val a_unk], v.toList ++ [], μ)) 27 ze2 e (fun n => Eq.refl _)
  obtain ⟨x2, zh3, h⟩ := bnd h
  have ze4 := R_copies (d + 0) 1154 1092 24 [Y, T, HA, HB, RA, RB, ST, NS, I0, I1, I2, BO, FI, RG, GU, PU, (u1 (u2 (u2 (u2 (u2 (u2 MA 0 23 (MN 0 18)) 0 24 (MN 0 19)) 0 25 (MN 0 20)) 0 26 (MN 0 21)) 0 27 (MN 0 22)) 3 x1), MN, MS, OT, SC] [r0, r1, r2, r3, w, r5, r6, r7, r8] (.ref 1088) L Lg 125 120 rfl rfl rfl rfl (Nat.le_of_ble_eq_true rfl) (Nat.le_of_ble_eq_true rfl) (Nat.le_of_ble_eq_true rfl) zh3
  suffices e : Ev (d + 1, 0, 0, 33, 67, [.val (.ref 1088), .val a_unk], [], (125, 120, L, [Y, T, HA, HB, RA, RB, ST, NS, I0, I1, I2, BO, FI, RG, GU, PU, (u1 (u1 (u2 (u2 (u2 (u2 (u2 MA 0 23 (MN 0 18)) 0 24 (MN 0 19)) 0 25 (MN 0 20)) 0 26 (MN 0 21)) 0 27 (MN 0 22)) 3 x1) 4 x2), MN, MS, OT, SC], [r0, r1, r2, r3, w, r5, r6, r7, r8], Lg)) o from ev_call (fun v μ => (d + 1, 0, 0, 33, 67, [.val (.ref 1088), .val a_unk], v.toList ++ [], μ)) 7 ze4 e (fun n => Eq.refl _)
  obtain ⟨x3, zh5, h⟩ := bnd h
  have ze6 := R_copies (d + 0) 1155 1093 60 [Y, T, HA, HB, RA, RB, ST, NS, I0, I1, I2, BO, FI, RG, GU, PU, (u1 (u1 (u2 (u2 (u2 (u2 (u2 MA 0 23 (MN 0 18)) 0 24 (MN 0 19)) 0 25 (MN 0 20)) 0 26 (MN 0 21)) 0 27 (MN 0 22)) 3 x1) 4 x2), MN, MS, OT, SC] [r0, r1, r2, r3, w, r5, r6, r7, r8] (.ref 1088) L Lg 125 120 rfl rfl rfl rfl (Nat.le_of_ble_eq_true rfl) (Nat.le_of_ble_eq_true rfl) (Nat.le_of_ble_eq_true rfl) zh5
  suffices e : Ev (d + 1, 0, 0, 33, 81, [.val (.ref 1088), .val a_unk], [], (125, 120, L, [Y, T, HA, HB, RA, RB, ST, NS, I0, I1, I2, BO, FI, RG, GU, PU, (u1 (u1 (u1 (u2 (u2 (u2 (u2 (u2 MA 0 23 (MN 0 18)) 0 24 (MN 0 19)) 0 25 (MN 0 20)) 0 26 (MN 0 21)) 0 27 (MN 0 22)) 3 x1) 4 x2) 5 x3), MN, MS, OT, SC], [r0, r1, r2, r3, w, r5, r6, r7, r8], Lg)) o from ev_call (fun v μ => (d + 1, 0, 0, 33, 81, [.val (.ref 1088), .val a_unk], v.toList ++ [], μ)) 7 ze6 e (fun n => Eq.refl _)
  obtain ⟨x4, zh7, h⟩ := bnd h
  have ze8 := R_copies (d + 0) 1156 1094 16 [Y, T, HA, HB, RA, RB, ST, NS, I0, I1, I2, BO, FI, RG, GU, PU, (u1 (u1 (u1 (u2 (u2 (u2 (u2 (u2 MA 0 23 (MN 0 18)) 0 24 (MN 0 19)) 0 25 (MN 0 20)) 0 26 (MN 0 21)) 0 27 (MN 0 22)) 3 x1) 4 x2) 5 x3), MN, MS, OT, SC] [r0, r1, r2, r3, w, r5, r6, r7, r8] (.ref 1088) L Lg 125 120 rfl rfl rfl rfl (Nat.le_of_ble_eq_true rfl) (Nat.le_of_ble_eq_true rfl) (Nat.le_of_ble_eq_true rfl) zh7
  suffices e : Ev (d + 1, 0, 0, 33, 95, [.val (.ref 1088), .val a_unk], [], (125, 120, L, [Y, T, HA, HB, RA, RB, ST, NS, I0, I1, I2, BO, FI, RG, GU, PU, (u1 (u1 (u1 (u1 (u2 (u2 (u2 (u2 (u2 MA 0 23 (MN 0 18)) 0 24 (MN 0 19)) 0 25 (MN 0 20)) 0 26 (MN 0 21)) 0 27 (MN 0 22)) 3 x1) 4 x2) 5 x3) 6 x4), MN, MS, OT, SC], [r0, r1, r2, r3, w, r5, r6, r7, r8], Lg)) o from ev_call (fun v μ => (d + 1, 0, 0, 33, 95, [.val (.ref 1088), .val a_unk], v.toList ++ [], μ)) 7 ze8 e (fun n => Eq.refl _)
  obtain ⟨MA_14, zh10, h⟩ := bnd h
  suffices e : Ev (d + 1, 0, 0, 33, 97, [.val (.ref 1088), .val (.int 0)], [], (125, 120, L, [Y, T, HA, HB, RA, RB, ST, NS, I0, I1, I2, BO, FI, RG, GU, PU, (u1 (u1 (u1 (u1 (u2 (u2 (u2 (u2 (u2 MA 0 23 (MN 0 18)) 0 24 (MN 0 19)) 0 25 (MN 0 20)) 0 26 (MN 0 21)) 0 27 (MN 0 22)) 3 x1) 4 x2) 5 x3) 6 x4), MN, MS, OT, SC], [r0, r1, r2, r3, w, r5, r6, r7, r8], Lg)) o from ev_b 2 e (fun n => Eq.refl _)
  refine ev_loop (δ := Unit) (fun a j => (d + 1, 0, 0, 33, 97, [.val (.ref 1088), .val (.int a.1)], [], (125, 120, L, [Y, T, HA, HB, RA, RB, ST, NS, I0, I1, I2, BO, FI, RG, GU, PU, a.2, MN, MS, OT, SC], [r0, r1, r2, r3, w, r5, r6, r7, r8], Lg))) (fun b => ∀ s13 : Value, Ev (d + 1, 0, 0, 33, 165, [.val (.ref 1088), .val s13], [], (125, 120, L, [Y, T, HA, HB, RA, RB, ST, NS, I0, I1, I2, BO, FI, RG, GU, PU, b, MN, MS, OT, SC], [r0, r1, r2, r3, w, r5, r6, r7, r8], Lg)) o) ?_ a_F (0, (u1 (u1 (u1 (u1 (u2 (u2 (u2 (u2 (u2 MA 0 23 (MN 0 18)) 0 24 (MN 0 19)) 0 25 (MN 0 20)) 0 26 (MN 0 21)) 0 27 (MN 0 22)) 3 x1) 4 x2) 5 x3) 6 x4)) MA_14 zh10 ?_ ()
  · rintro ⟨v5, MA_6⟩ zr14 zh13 zi11 zx12 ⟨⟩
    have zh13 : f_M_sets_l97 v5 MA_6 = some zr14 := zh13
    by_cases zc15 : 10 ≤ v5
    · have zh13 := itp zh13 zc15
      suffices e : Ev (d + 1, 0, 0, 33, 165, [.val (.ref 1088), .val (.int v5)], [], (125, 120, L, [Y, T, HA, HB, RA, RB, ST, NS, I0, I1, I2, BO, FI, RG, GU, PU, MA_6, MN, MS, OT, SC], [r0, r1, r2, r3, w, r5, r6, r7, r8], Lg)) o from ev_t (c := 10 ≤ v5) _ _ 3  zc15 e (fun n => Eq.refl _)
      exact ev_b 0 (zx12 _ (Option.some.inj zh13).symm (.int v5)) (fun n => Eq.refl _)
    · have zh13 := itn zh13 zc15
      suffices e : Ev (d + 1, 0, 0, 33, 103, [.val (.ref 1088), .val (.int v5)], [], (125, 120, L, [Y, T, HA, HB, RA, RB, ST, NS, I0, I1, I2, BO, FI, RG, GU, PU, MA_6, MN, MS, OT, SC], [r0, r1, r2, r3, w, r5, r6, r7, r8], Lg)) o from ev_f (c := 10 ≤ v5) _ _ 3  zc15 e (fun n => Eq.refl _)
      obtain ⟨zt16, zh17, zh13⟩ := bnd zh13
      have zj18 : ∀ (v8 : Int32), v8 = zt16 → Ev (d + 1, 0, 0, 33, 129, [.val (.ref 1088), .val (.int v5)], [.int v8, .int v5, .ref 1095], (125, 120, L, [Y, T, HA, HB, RA, RB, ST, NS, I0, I1, I2, BO, FI, RG, GU, PU, MA_6, MN, MS, OT, SC], [r0, r1, r2, r3, w, r5, r6, r7, r8], Lg)) o := by
        intro v8 ze19
        subst ze19
        obtain ⟨j9, zh20, zh13⟩ := bnd zh13
        have zh20 : ixx 10 v5 = some j9 := zh20
        suffices e : Ev (d + 1, 0, 0, 33, 130, [.val (.ref 1088), .val (.int v5)], [], (125, 120, L, [Y, T, HA, HB, RA, RB, ST, NS, I0, I1, I2, BO, FI, RG, GU, PU, (u2 MA_6 7 j9 v8), MN, MS, OT, SC], [r0, r1, r2, r3, w, r5, r6, r7, r8], Lg)) o from ev_opt (fun j9 => (d + 1, 0, 0, 33, 130, [.val (.ref 1088), .val (.int v5)], [], (125, 120, L, [Y, T, HA, HB, RA, RB, ST, NS, I0, I1, I2, BO, FI, RG, GU, PU, (u2 MA_6 7 j9 v8), MN, MS, OT, SC], [r0, r1, r2, r3, w, r5, r6, r7, r8], Lg))) 1 zh20 e (fun n => Eq.refl _)
        obtain ⟨zt21, zh22, zh13⟩ := bnd zh13
        have zj23 : ∀ (v11 : Int32), v11 = zt21 → Ev (d + 1, 0, 0, 33, 158, [.val (.ref 1088), .val (.int v5)], [.int v11, .int v5, .ref 1096], (125, 120, L, [Y, T, HA, HB, RA, RB, ST, NS, I0, I1, I2, BO, FI, RG, GU, PU, (u2 MA_6 7 j9 v8), MN, MS, OT, SC], [r0, r1, r2, r3, w, r5, r6, r7, r8], Lg)) o := by
          intro v11 ze24
          subst ze24
          obtain ⟨j12, zh25, zh13⟩ := bnd zh13
          have zh25 : ixx 10 v5 = some j12 := zh25
          suffices e : Ev (d + 1, 0, 0, 33, 159, [.val (.ref 1088), .val (.int v5)], [], (125, 120, L, [Y, T, HA, HB, RA, RB, ST, NS, I0, I1, I2, BO, FI, RG, GU, PU, (u2 (u2 MA_6 7 j9 v8) 8 j12 v11), MN, MS, OT, SC], [r0, r1, r2, r3, w, r5, r6, r7, r8], Lg)) o from ev_opt (fun j12 => (d + 1, 0, 0, 33, 159, [.val (.ref 1088), .val (.int v5)], [], (125, 120, L, [Y, T, HA, HB, RA, RB, ST, NS, I0, I1, I2, BO, FI, RG, GU, PU, (u2 (u2 MA_6 7 j9 v8) 8 j12 v11), MN, MS, OT, SC], [r0, r1, r2, r3, w, r5, r6, r7, r8], Lg))) 1 zh25 e (fun n => Eq.refl _)
          exact ev_b 2 (zi11 _ (Option.some.inj zh13).symm ()) (fun n => Eq.refl _)
        by_cases zc26 : ((u2 MA_6 7 j9 v8) 0 26) ≤ v5
        · have zh22 := itp zh22 zc26
          suffices e : Ev (d + 1, 0, 0, 33, 157, [.val (.ref 1088), .val (.int v5)], [.int v5, .ref 1096], (125, 120, L, [Y, T, HA, HB, RA, RB, ST, NS, I0, I1, I2, BO, FI, RG, GU, PU, (u2 MA_6 7 j9 v8), MN, MS, OT, SC], [r0, r1, r2, r3, w, r5, r6, r7, r8], Lg)) o from ev_t (c := ((u2 MA_6 7 j9 v8) 0 26) ≤ v5) _ _ 7  zc26 e (fun n => Eq.refl _)
          exact ev_b 1 (zj23 0 (Option.some.inj zh22) ) (fun n => Eq.refl _)
        · have zh22 := itn zh22 zc26
          suffices e : Ev (d + 1, 0, 0, 33, 143, [.val (.ref 1088), .val (.int v5)], [.int v5, .ref 1096], (125, 120, L, [Y, T, HA, HB, RA, RB, ST, NS, I0, I1, I2, BO, FI, RG, GU, PU, (u2 MA_6 7 j9 v8), MN, MS, OT, SC], [r0, r1, r2, r3, w, r5, r6, r7, r8], Lg)) o from ev_f (c := ((u2 MA_6 7 j9 v8) 0 26) ≤ v5) _ _ 7  zc26 e (fun n => Eq.refl _)
          obtain ⟨x10, zh27, zh22⟩ := bnd zh22
          have zh27 : rdx ((u2 MA_6 7 j9 v8) 5) 60 ((6 * v5) + 5) = some x10 := zh27
          suffices e : Ev (d + 1, 0, 0, 33, 154, [.val (.ref 1088), .val (.int v5)], [.int x10, .int v5, .ref 1096], (125, 120, L, [Y, T, HA, HB, RA, RB, ST, NS, I0, I1, I2, BO, FI, RG, GU, PU, (u2 MA_6 7 j9 v8), MN, MS, OT, SC], [r0, r1, r2, r3, w, r5, r6, r7, r8], Lg)) o from ev_opt (fun x10 => (d + 1, 0, 0, 33, 154, [.val (.ref 1088), .val (.int v5)], [.int x10, .int v5, .ref 1096], (125, 120, L, [Y, T, HA, HB, RA, RB, ST, NS, I0, I1, I2, BO, FI, RG, GU, PU, (u2 MA_6 7 j9 v8), MN, MS, OT, SC], [r0, r1, r2, r3, w, r5, r6, r7, r8], Lg))) 8 zh27 e (fun n => Eq.refl _)
          exact ev_b 1 (zj23 x10 (Option.some.inj zh22) ) (fun n => Eq.refl _)
      by_cases zc28 : (MA_6 0 26) ≤ v5
      · have zh17 := itp zh17 zc28
        suffices e : Ev (d + 1, 0, 0, 33, 128, [.val (.ref 1088), .val (.int v5)], [.int v5, .ref 1095], (125, 120, L, [Y, T, HA, HB, RA, RB, ST, NS, I0, I1, I2, BO, FI, RG, GU, PU, MA_6, MN, MS, OT, SC], [r0, r1, r2, r3, w, r5, r6, r7, r8], Lg)) o from ev_t (c := (MA_6 0 26) ≤ v5) _ _ 7  zc28 e (fun n => Eq.refl _)
        exact ev_b 1 (zj18 (-1) (Option.some.inj zh17) ) (fun n => Eq.refl _)
      · have zh17 := itn zh17 zc28
        suffices e : Ev (d + 1, 0, 0, 33, 116, [.val (.ref 1088), .val (.int v5)], [.int v5, .ref 1095], (125, 120, L, [Y, T, HA, HB, RA, RB, ST, NS, I0, I1, I2, BO, FI, RG, GU, PU, MA_6, MN, MS, OT, SC], [r0, r1, r2, r3, w, r5, r6, r7, r8], Lg)) o from ev_f (c := (MA_6 0 26) ≤ v5) _ _ 7  zc28 e (fun n => Eq.refl _)
        obtain ⟨x7, zh29, zh17⟩ := bnd zh17
        have zh29 : rdx (MA_6 5) 60 (6 * v5) = some x7 := zh29
        suffices e : Ev (d + 1, 0, 0, 33, 125, [.val (.ref 1088), .val (.int v5)], [.int x7, .int v5, .ref 1095], (125, 120, L, [Y, T, HA, HB, RA, RB, ST, NS, I0, I1, I2, BO, FI, RG, GU, PU, MA_6, MN, MS, OT, SC], [r0, r1, r2, r3, w, r5, r6, r7, r8], Lg)) o from ev_opt (fun x7 => (d + 1, 0, 0, 33, 125, [.val (.ref 1088), .val (.int v5)], [.int x7, .int v5, .ref 1095], (125, 120, L, [Y, T, HA, HB, RA, RB, ST, NS, I0, I1, I2, BO, FI, RG, GU, PU, MA_6, MN, MS, OT, SC], [r0, r1, r2, r3, w, r5, r6, r7, r8], Lg))) 6 zh29 e (fun n => Eq.refl _)
        exact ev_b 1 (zj18 x7 (Option.some.inj zh17) ) (fun n => Eq.refl _)
  · skip
    intro s13
    have ze30 := Option.some.inj h
    subst ze30
    exact ev_rete 13 ho (fun n => Eq.refl _)
def kx_1088_MS (A : Nat → Nat → Int32) : Nat → Nat → Int32 := (u1 (u1 (u1 (u1 (u1 (u1 (u1 (u1 (u1 (u1 (u1 A 1 a_zz) 2 a_zz) 3 a_zz) 4 a_zz) 5 a_zz) 6 a_zz) 7 a_zz) 8 a_zz) 9 a_zz) 10 a_zz) 11 a_zz)
set_option maxRecDepth 1000000 in
set_option maxHeartbeats 4000000 in
theorem K_1088 (d : Nat) (Y T HA HB RA RB ST NS I0 I1 I2 BO FI RG GU PU MA MN MS OT SC : Nat → Nat → Int32) (r0 r1 r2 r3 r4 r5 r6 r7 r8 : Nat) (L : Nat) (Lg : Int64) {MN1 : (Nat → Nat → Int32)} (g1 : f_M_clears (u1 (u1 (u1 (u1 (u1 (u1 (u1 MN 1 a_zz) 2 a_zz) 3 a_zz) 4 a_zz) 5 a_zz) 6 a_zz) 7 a_zz) = some MN1) {MA1 : (Nat → Nat → Int32)} (g2 : f_M_sets (u1 (u1 (u1 (u1 (u1 (u1 (u1 (u1 (u1 (u1 (u1 (u1 (u2 (u1 MA 1 a_zz) 0 8 (-1)) 2 a_zz) 3 a_zz) 4 a_zz) 5 a_zz) 6 a_zz) 7 a_zz) 8 a_zz) 9 a_zz) 10 a_zz) 11 a_zz) 12 a_zz) 13 a_zz) MN1 = some MA1) : Ev (d + 2, 31, 6387, 15, 0, [.val (.ref 1088)], [], (94, 89, L, [Y, T, HA, HB, RA, RB, ST, NS, I0, I1, I2, BO, FI, RG, GU, PU, MA, MN, MS, OT, SC], [r0, r1, r2, r3, r4, r5, r6, r7, r8], Lg)) ((0, none, (125, 120, L, [Y, T, HA, HB, RA, RB, ST, NS, I0, I1, I2, BO, FI, RG, GU, PU, MA1, MN1, (kx_1088_MS MS), OT, SC], [r0, r1, r2, r3, r4, r5, r6, r7, r8], Lg)) : AOut) := by
  suffices key : ∀ o : AOut, ((0, none, (125, 120, L, [Y, T, HA, HB, RA, RB, ST, NS, I0, I1, I2, BO, FI, RG, GU, PU, MA1, MN1, (kx_1088_MS MS), OT, SC], [r0, r1, r2, r3, r4, r5, r6, r7, r8], Lg)) : AOut) = o → Ev (d + 2, 31, 6387, 15, 0, [.val (.ref 1088)], [], (94, 89, L, [Y, T, HA, HB, RA, RB, ST, NS, I0, I1, I2, BO, FI, RG, GU, PU, MA, MN, MS, OT, SC], [r0, r1, r2, r3, r4, r5, r6, r7, r8], Lg)) o from key _ rfl
  intro o ho
  suffices e : Ev (d + 2, 25, 5682, 15, 57, [.val (.ref 1088)], [.ref 1088], (100, 95, L, [Y, T, HA, HB, RA, RB, ST, NS, I0, I1, I2, BO, FI, RG, GU, PU, (u1 (u2 (u1 MA 1 a_zz) 0 8 (-1)) 2 a_zz), (u1 (u1 (u1 (u1 MN 1 a_zz) 2 a_zz) 3 a_zz) 4 a_zz), MS, OT, SC], [r0, r1, r2, r3, r4, r5, r6, r7, r8], Lg)) o from ev_b 30 e (fun n => Eq.refl _)
  suffices e : Ev (d + 2, 17, 5519, 15, 116, [.val (.ref 1088)], [.ref 1097, .ref 1088], (108, 102, L, [Y, T, HA, HB, RA, RB, ST, NS, I0, I1, I2, BO, FI, RG, GU, PU, (u1 (u1 (u1 (u1 (u1 (u1 (u1 (u1 (u2 (u1 MA 1 a_zz) 0 8 (-1)) 2 a_zz) 3 a_zz) 4 a_zz) 5 a_zz) 6 a_zz) 7 a_zz) 8 a_zz) 9 a_zz), (u1 (u1 (u1 (u1 (u1 MN 1 a_zz) 2 a_zz) 3 a_zz) 4 a_zz) 5 a_zz), MS, OT, SC], [r0, r1, r2, r3, r4, r5, r6, r7, r8], Lg)) o from ev_b 30 e (fun n => Eq.refl _)
  suffices e : Ev (d + 2, 10, 4748, 15, 181, [.val (.ref 1088)], [.ref 1088], (115, 110, L, [Y, T, HA, HB, RA, RB, ST, NS, I0, I1, I2, BO, FI, RG, GU, PU, (u1 (u1 (u1 (u1 (u1 (u1 (u1 (u1 (u1 (u1 (u2 (u1 MA 1 a_zz) 0 8 (-1)) 2 a_zz) 3 a_zz) 4 a_zz) 5 a_zz) 6 a_zz) 7 a_zz) 8 a_zz) 9 a_zz) 10 a_zz) 11 a_zz), (u1 (u1 (u1 (u1 (u1 (u1 (u1 MN 1 a_zz) 2 a_zz) 3 a_zz) 4 a_zz) 5 a_zz) 6 a_zz) 7 a_zz), (u1 (u1 (u1 MS 1 a_zz) 2 a_zz) 3 a_zz), OT, SC], [r0, r1, r2, r3, r4, r5, r6, r7, r8], Lg)) o from ev_b 30 e (fun n => Eq.refl _)
  suffices e : Ev (d + 2, 2, 1984, 15, 243, [.val (.ref 1088)], [.ref 1226, .ref 1088], (123, 117, L, [Y, T, HA, HB, RA, RB, ST, NS, I0, I1, I2, BO, FI, RG, GU, PU, (u1 (u1 (u1 (u1 (u1 (u1 (u1 (u1 (u1 (u1 (u1 (u2 (u1 MA 1 a_zz) 0 8 (-1)) 2 a_zz) 3 a_zz) 4 a_zz) 5 a_zz) 6 a_zz) 7 a_zz) 8 a_zz) 9 a_zz) 10 a_zz) 11 a_zz) 12 a_zz), (u1 (u1 (u1 (u1 (u1 (u1 (u1 MN 1 a_zz) 2 a_zz) 3 a_zz) 4 a_zz) 5 a_zz) 6 a_zz) 7 a_zz), (u1 (u1 (u1 (u1 (u1 (u1 (u1 (u1 (u1 (u1 MS 1 a_zz) 2 a_zz) 3 a_zz) 4 a_zz) 5 a_zz) 6 a_zz) 7 a_zz) 8 a_zz) 9 a_zz) 10 a_zz), OT, SC], [r0, r1, r2, r3, r4, r5, r6, r7, r8], Lg)) o from ev_b 30 e (fun n => Eq.refl _)
  have h1 := R_f_M_clears_c (d + 1) Y T HA HB RA RB ST NS I0 I1 I2 BO FI RG GU PU (u1 (u1 (u1 (u1 (u1 (u1 (u1 (u1 (u1 (u1 (u1 (u1 (u2 (u1 MA 1 a_zz) 0 8 (-1)) 2 a_zz) 3 a_zz) 4 a_zz) 5 a_zz) 6 a_zz) 7 a_zz) 8 a_zz) 9 a_zz) 10 a_zz) 11 a_zz) 12 a_zz) 13 a_zz) (u1 (u1 (u1 (u1 (u1 (u1 (u1 MN 1 a_zz) 2 a_zz) 3 a_zz) 4 a_zz) 5 a_zz) 6 a_zz) 7 a_zz) (u1 (u1 (u1 (u1 (u1 (u1 (u1 (u1 (u1 (u1 (u1 MS 1 a_zz) 2 a_zz) 3 a_zz) 4 a_zz) 5 a_zz) 6 a_zz) 7 a_zz) 8 a_zz) 9 a_zz) 10 a_zz) 11 a_zz) OT SC r0 r1 r2 r3 r4 r5 r6 r7 r8 L Lg g1
  suffices e : Ev (d + 2, 0, 0, 15, 267, [.val (.ref 1088)], [], (125, 120, L, [Y, T, HA, HB, RA, RB, ST, NS, I0, I1, I2, BO, FI, RG, GU, PU, (u1 (u1 (u1 (u1 (u1 (u1 (u1 (u1 (u1 (u1 (u1 (u1 (u2 (u1 MA 1 a_zz) 0 8 (-1)) 2 a_zz) 3 a_zz) 4 a_zz) 5 a_zz) 6 a_zz) 7 a_zz) 8 a_zz) 9 a_zz) 10 a_zz) 11 a_zz) 12 a_zz) 13 a_zz), MN1, (u1 (u1 (u1 (u1 (u1 (u1 (u1 (u1 (u1 (u1 (u1 MS 1 a_zz) 2 a_zz) 3 a_zz) 4 a_zz) 5 a_zz) 6 a_zz) 7 a_zz) 8 a_zz) 9 a_zz) 10 a_zz) 11 a_zz), OT, SC], [r0, r1, r2, r3, r4, r5, r6, r7, r8], Lg)) o from ev_call (fun v μ => (d + 2, 0, 0, 15, 267, [.val (.ref 1088)], v.toList ++ [], μ)) 11 h1 e (fun n => Eq.refl _)
  have h2 := R_f_M_sets_c (d + 0) Y T HA HB RA RB ST NS I0 I1 I2 BO FI RG GU PU (u1 (u1 (u1 (u1 (u1 (u1 (u1 (u1 (u1 (u1 (u1 (u1 (u2 (u1 MA 1 a_zz) 0 8 (-1)) 2 a_zz) 3 a_zz) 4 a_zz) 5 a_zz) 6 a_zz) 7 a_zz) 8 a_zz) 9 a_zz) 10 a_zz) 11 a_zz) 12 a_zz) 13 a_zz) MN1 (u1 (u1 (u1 (u1 (u1 (u1 (u1 (u1 (u1 (u1 (u1 MS 1 a_zz) 2 a_zz) 3 a_zz) 4 a_zz) 5 a_zz) 6 a_zz) 7 a_zz) 8 a_zz) 9 a_zz) 10 a_zz) 11 a_zz) OT SC r0 r1 r2 r3 r4 r5 r6 r7 r8 L Lg g2
  suffices e : Ev (d + 2, 0, 0, 15, 271, [.val (.ref 1088)], [], (125, 120, L, [Y, T, HA, HB, RA, RB, ST, NS, I0, I1, I2, BO, FI, RG, GU, PU, MA1, MN1, (u1 (u1 (u1 (u1 (u1 (u1 (u1 (u1 (u1 (u1 (u1 MS 1 a_zz) 2 a_zz) 3 a_zz) 4 a_zz) 5 a_zz) 6 a_zz) 7 a_zz) 8 a_zz) 9 a_zz) 10 a_zz) 11 a_zz), OT, SC], [r0, r1, r2, r3, r4, r5, r6, r7, r8], Lg)) o from ev_call (fun v μ => (d + 2, 0, 0, 15, 271, [.val (.ref 1088)], v.toList ++ [], μ)) 2 h2 e (fun n => Eq.refl _)
  exact ev_rete 1 ho (fun n => Eq.refl _)
