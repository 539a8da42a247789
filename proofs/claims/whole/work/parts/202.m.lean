/-! printed by program (gen/emitm.py): the reference's methods run as their functions say -/
set_option maxRecDepth 100000 in
set_option maxHeartbeats 4000000 in
theorem R_f_M_clears_0 (d : Nat) (Y T HA HB RA RB ST NS I0 I1 I2 BO FI RG GU PU MA MN MS OT SC : Nat → Nat → Int32) (r0 r1 r2 r3 w r5 r6 r7 r8 : Nat) (L : Nat) (Lg : Int64) {r : (Nat → Nat → Int32)} (h : f_M_clears MN = some r) : Ev (d + 0, 0, 0, 31, 0, [.val (.ref 1088), .val a_unk], [], (126, 120, L, [Y, T, HA, HB, RA, RB, ST, NS, I0, I1, I2, BO, FI, RG, GU, PU, MA, MN, MS, OT, SC], [r0, r1, r2, r3, w, r5, r6, r7, r8], Lg)) ((0, none, (126, 120, L, [Y, T, HA, HB, RA, RB, ST, NS, I0, I1, I2, BO, FI, RG, GU, PU, MA, r, MS, OT, SC], [r0, r1, r2, r3, w, r5, r6, r7, r8], Lg)) : AOut) := by
  suffices key : ∀ o : AOut, ((0, none, (126, 120, L, [Y, T, HA, HB, RA, RB, ST, NS, I0, I1, I2, BO, FI, RG, GU, PU, MA, r, MS, OT, SC], [r0, r1, r2, r3, w, r5, r6, r7, r8], Lg)) : AOut) = o → Ev (d + 0, 0, 0, 31, 0, [.val (.ref 1088), .val a_unk], [], (126, 120, L, [Y, T, HA, HB, RA, RB, ST, NS, I0, I1, I2, BO, FI, RG, GU, PU, MA, MN, MS, OT, SC], [r0, r1, r2, r3, w, r5, r6, r7, r8], Lg)) o from key _ rfl
  intro o ho
  obtain ⟨MN_5, zh2, h⟩ := bnd h
  refine ev_b (C' := (d + 0, 0, 0, 31, 28, [.val (.ref 1088), .val (.int 0)], [], (126, 120, L, [Y, T, HA, HB, RA, RB, ST, NS, I0, I1, I2, BO, FI, RG, GU, PU, MA, (u2 (u2 (u2 (u2 (u2 MN 0 18 8) 0 19 0) 0 20 0) 0 21 0) 0 22 0), MS, OT, SC], [r0, r1, r2, r3, w, r5, r6, r7, r8], Lg))) 17 ?_ (fun n => Eq.refl _)
  refine ev_loop (δ := Unit) (fun a j => (d + 0, 0, 0, 31, 28, [.val (.ref 1088), .val (.int a.1)], [], (126, 120, L, [Y, T, HA, HB, RA, RB, ST, NS, I0, I1, I2, BO, FI, RG, GU, PU, MA, a.2, MS, OT, SC], [r0, r1, r2, r3, w, r5, r6, r7, r8], Lg))) (fun b => ∀ s4 : Value, Ev (d + 0, 0, 0, 31, 47, [.val (.ref 1088), .val s4], [], (126, 120, L, [Y, T, HA, HB, RA, RB, ST, NS, I0, I1, I2, BO, FI, RG, GU, PU, MA, b, MS, OT, SC], [r0, r1, r2, r3, w, r5, r6, r7, r8], Lg)) o) ?_ a_F (0, (u2 (u2 (u2 (u2 (u2 MN 0 18 8) 0 19 0) 0 20 0) 0 21 0) 0 22 0)) MN_5 zh2 ?_ ()
  · rintro ⟨v1, MN_2⟩ zr6 zh5 zi3 zx4 ⟨⟩
    by_cases zc7 : 60 ≤ v1
    · have zh5 := itp zh5 zc7
      refine ev_t (c := 60 ≤ v1) ((d + 0, 0, 0, 31, 47, [.val (.ref 1088), .val (.int v1)], [], (126, 120, L, [Y, T, HA, HB, RA, RB, ST, NS, I0, I1, I2, BO, FI, RG, GU, PU, MA, MN_2, MS, OT, SC], [r0, r1, r2, r3, w, r5, r6, r7, r8], Lg))) ((d + 0, 0, 0, 31, 34, [.val (.ref 1088), .val (.int v1)], [], (126, 120, L, [Y, T, HA, HB, RA, RB, ST, NS, I0, I1, I2, BO, FI, RG, GU, PU, MA, MN_2, MS, OT, SC], [r0, r1, r2, r3, w, r5, r6, r7, r8], Lg))) 3 zc7 ?_ (fun n => Eq.refl _)
      exact ev_b 0 (zx4 _ (Option.some.inj zh5).symm (.int v1)) (fun n => Eq.refl _)
    · have zh5 := itn zh5 zc7
      refine ev_f (c := 60 ≤ v1) ((d + 0, 0, 0, 31, 47, [.val (.ref 1088), .val (.int v1)], [], (126, 120, L, [Y, T, HA, HB, RA, RB, ST, NS, I0, I1, I2, BO, FI, RG, GU, PU, MA, MN_2, MS, OT, SC], [r0, r1, r2, r3, w, r5, r6, r7, r8], Lg))) ((d + 0, 0, 0, 31, 34, [.val (.ref 1088), .val (.int v1)], [], (126, 120, L, [Y, T, HA, HB, RA, RB, ST, NS, I0, I1, I2, BO, FI, RG, GU, PU, MA, MN_2, MS, OT, SC], [r0, r1, r2, r3, w, r5, r6, r7, r8], Lg))) 3 zc7 ?_ (fun n => Eq.refl _)
      obtain ⟨j3, zh8, zh5⟩ := bnd zh5
      refine ev_opt (fun j3 => (d + 0, 0, 0, 31, 41, [.val (.ref 1088), .val (.int v1)], [], (126, 120, L, [Y, T, HA, HB, RA, RB, ST, NS, I0, I1, I2, BO, FI, RG, GU, PU, MA, (u2 MN_2 3 j3 0), MS, OT, SC], [r0, r1, r2, r3, w, r5, r6, r7, r8], Lg))) 5 zh8 ?_ (fun n => Eq.refl _)
      exact ev_b 2 (zi3 _ (Option.some.inj zh5).symm ()) (fun n => Eq.refl _)
  · skip
    intro s4
    have ze9 := Option.some.inj h
    subst ze9
    exact ev_rete 1 ho (fun n => Eq.refl _)
set_option maxRecDepth 100000 in
set_option maxHeartbeats 4000000 in
theorem R_f_M_sets_0 (d : Nat) (Y T HA HB RA RB ST NS I0 I1 I2 BO FI RG GU PU MA MN MS OT SC : Nat → Nat → Int32) (r0 r1 r2 r3 w r5 r6 r7 r8 : Nat) (L : Nat) (Lg : Int64) {r : (Nat → Nat → Int32)} (h : f_M_sets MA MN = some r) : Ev (d + 1, 0, 0, 33, 0, [.val (.ref 1088), .val a_unk], [], (126, 120, L, [Y, T, HA, HB, RA, RB, ST, NS, I0, I1, I2, BO, FI, RG, GU, PU, MA, MN, MS, OT, SC], [r0, r1, r2, r3, w, r5, r6, r7, r8], Lg)) ((0, none, (126, 120, L, [Y, T, HA, HB, RA, RB, ST, NS, I0, I1, I2, BO, FI, RG, GU, PU, r, MN, MS, OT, SC], [r0, r1, r2, r3, w, r5, r6, r7, r8], Lg)) : AOut) := by
  suffices key : ∀ o : AOut, ((0, none, (126, 120, L, [Y, T, HA, HB, RA, RB, ST, NS, I0, I1, I2, BO, FI, RG, GU, PU, r, MN, MS, OT, SC], [r0, r1, r2, r3, w, r5, r6, r7, r8], Lg)) : AOut) = o → Ev (d + 1, 0, 0, 33, 0, [.val (.ref 1088), .val a_unk], [], (126, 120, L, [Y, T, HA, HB, RA, RB, ST, NS, I0, I1, I2, BO, FI, RG, GU, PU, MA, MN, MS, OT, SC], [r0, r1, r2, r3, w, r5, r6, r7, r8], Lg)) o from key _ rfl
  intro o ho
  obtain ⟨x1, zh1, h⟩ := bnd h
  have ze2 := R_copies (d + 0) 1153 1091 3 [Y, T, HA, HB, RA, RB, ST, NS, I0, I1, I2, BO, FI, RG, GU, PU, (u2 (u2 (u2 (u2 (u2 MA 0 23 (MN 0 18)) 0 24 (MN 0 19)) 0 25 (MN 0 20)) 0 26 (MN 0 21)) 0 27 (MN 0 22)), MN, MS, OT, SC] [r0, r1, r2, r3, w, r5, r6, r7, r8] (.ref 1088) L Lg 126 120 rfl rfl rfl rfl (Nat.le_of_ble_eq_true rfl) (Nat.le_of_ble_eq_true rfl) (Nat.le_of_ble_eq_true rfl) zh1
  refine ev_call (fun v μ => (d + 1, 0, 0, 33, 53, [.val (.ref 1088), .val a_unk], v.toList ++ [], μ)) 27 ze2 ?_ (fun n => Eq.refl _)
  refine ev_b (C' := (d + 1, 0, 0, 33, 53, [.val (.ref 1088), .val a_unk], [], (126, 120, L, [Y, T, HA, HB, RA, RB, ST, NS, I0, I1, I2, BO, FI, RG, GU, PU, (u1 (u2 (u2 (u2 (u2 (u2 MA 0 23 (MN 0 18)) 0 24 (MN 0 19)) 0 25 (MN 0 20)) 0 26 (MN 0 21)) 0 27 (MN 0 22)) 3 x1), MN, MS, OT, SC], [r0, r1, r2, r3, w, r5, r6, r7, r8], Lg))) 0 ?_ (fun n => Eq.refl _)
  obtain ⟨x2, zh3, h⟩ := bnd h
  have ze4 := R_copies (d + 0) 1154 1092 24 [Y, T, HA, HB, RA, RB, ST, NS, I0, I1, I2, BO, FI, RG, GU, PU, (u1 (u2 (u2 (u2 (u2 (u2 MA 0 23 (MN 0 18)) 0 24 (MN 0 19)) 0 25 (MN 0 20)) 0 26 (MN 0 21)) 0 27 (MN 0 22)) 3 x1), MN, MS, OT, SC] [r0, r1, r2, r3, w, r5, r6, r7, r8] (.ref 1088) L Lg 126 120 rfl rfl rfl rfl (Nat.le_of_ble_eq_true rfl) (Nat.le_of_ble_eq_true rfl) (Nat.le_of_ble_eq_true rfl) zh3
  refine ev_call (fun v μ => (d + 1, 0, 0, 33, 67, [.val (.ref 1088), .val a_unk], v.toList ++ [], μ)) 7 ze4 ?_ (fun n => Eq.refl _)
  refine ev_b (C' := (d + 1, 0, 0, 33, 67, [.val (.ref 1088), .val a_unk], [], (126, 120, L, [Y, T, HA, HB, RA, RB, ST, NS, I0, I1, I2, BO, FI, RG, GU, PU, (u1 (u1 (u2 (u2 (u2 (u2 (u2 MA 0 23 (MN 0 18)) 0 24 (MN 0 19)) 0 25 (MN 0 20)) 0 26 (MN 0 21)) 0 27 (MN 0 22)) 3 x1) 4 x2), MN, MS, OT, SC], [r0, r1, r2, r3, w, r5, r6, r7, r8], Lg))) 0 ?_ (fun n => Eq.refl _)
  obtain ⟨x3, zh5, h⟩ := bnd h
  have ze6 := R_copies (d + 0) 1155 1093 60 [Y, T, HA, HB, RA, RB, ST, NS, I0, I1, I2, BO, FI, RG, GU, PU, (u1 (u1 (u2 (u2 (u2 (u2 (u2 MA 0 23 (MN 0 18)) 0 24 (MN 0 19)) 0 25 (MN 0 20)) 0 26 (MN 0 21)) 0 27 (MN 0 22)) 3 x1) 4 x2), MN, MS, OT, SC] [r0, r1, r2, r3, w, r5, r6, r7, r8] (.ref 1088) L Lg 126 120 rfl rfl rfl rfl (Nat.le_of_ble_eq_true rfl) (Nat.le_of_ble_eq_true rfl) (Nat.le_of_ble_eq_true rfl) zh5
  refine ev_call (fun v μ => (d + 1, 0, 0, 33, 81, [.val (.ref 1088), .val a_unk], v.toList ++ [], μ)) 7 ze6 ?_ (fun n => Eq.refl _)
  refine ev_b (C' := (d + 1, 0, 0, 33, 81, [.val (.ref 1088), .val a_unk], [], (126, 120, L, [Y, T, HA, HB, RA, RB, ST, NS, I0, I1, I2, BO, FI, RG, GU, PU, (u1 (u1 (u1 (u2 (u2 (u2 (u2 (u2 MA 0 23 (MN 0 18)) 0 24 (MN 0 19)) 0 25 (MN 0 20)) 0 26 (MN 0 21)) 0 27 (MN 0 22)) 3 x1) 4 x2) 5 x3), MN, MS, OT, SC], [r0, r1, r2, r3, w, r5, r6, r7, r8], Lg))) 0 ?_ (fun n => Eq.refl _)
  obtain ⟨x4, zh7, h⟩ := bnd h
  have ze8 := R_copies (d + 0) 1156 1094 16 [Y, T, HA, HB, RA, RB, ST, NS, I0, I1, I2, BO, FI, RG, GU, PU, (u1 (u1 (u1 (u2 (u2 (u2 (u2 (u2 MA 0 23 (MN 0 18)) 0 24 (MN 0 19)) 0 25 (MN 0 20)) 0 26 (MN 0 21)) 0 27 (MN 0 22)) 3 x1) 4 x2) 5 x3), MN, MS, OT, SC] [r0, r1, r2, r3, w, r5, r6, r7, r8] (.ref 1088) L Lg 126 120 rfl rfl rfl rfl (Nat.le_of_ble_eq_true rfl) (Nat.le_of_ble_eq_true rfl) (Nat.le_of_ble_eq_true rfl) zh7
  refine ev_call (fun v μ => (d + 1, 0, 0, 33, 95, [.val (.ref 1088), .val a_unk], v.toList ++ [], μ)) 7 ze8 ?_ (fun n => Eq.refl _)
  refine ev_b (C' := (d + 1, 0, 0, 33, 95, [.val (.ref 1088), .val a_unk], [], (126, 120, L, [Y, T, HA, HB, RA, RB, ST, NS, I0, I1, I2, BO, FI, RG, GU, PU, (u1 (u1 (u1 (u1 (u2 (u2 (u2 (u2 (u2 MA 0 23 (MN 0 18)) 0 24 (MN 0 19)) 0 25 (MN 0 20)) 0 26 (MN 0 21)) 0 27 (MN 0 22)) 3 x1) 4 x2) 5 x3) 6 x4), MN, MS, OT, SC], [r0, r1, r2, r3, w, r5, r6, r7, r8], Lg))) 0 ?_ (fun n => Eq.refl _)
  obtain ⟨MA_14, zh10, h⟩ := bnd h
  refine ev_b (C' := (d + 1, 0, 0, 33, 97, [.val (.ref 1088), .val (.int 0)], [], (126, 120, L, [Y, T, HA, HB, RA, RB, ST, NS, I0, I1, I2, BO, FI, RG, GU, PU, (u1 (u1 (u1 (u1 (u2 (u2 (u2 (u2 (u2 MA 0 23 (MN 0 18)) 0 24 (MN 0 19)) 0 25 (MN 0 20)) 0 26 (MN 0 21)) 0 27 (MN 0 22)) 3 x1) 4 x2) 5 x3) 6 x4), MN, MS, OT, SC], [r0, r1, r2, r3, w, r5, r6, r7, r8], Lg))) 2 ?_ (fun n => Eq.refl _)
  refine ev_loop (δ := Unit) (fun a j => (d + 1, 0, 0, 33, 97, [.val (.ref 1088), .val (.int a.1)], [], (126, 120, L, [Y, T, HA, HB, RA, RB, ST, NS, I0, I1, I2, BO, FI, RG, GU, PU, a.2, MN, MS, OT, SC], [r0, r1, r2, r3, w, r5, r6, r7, r8], Lg))) (fun b => ∀ s13 : Value, Ev (d + 1, 0, 0, 33, 165, [.val (.ref 1088), .val s13], [], (126, 120, L, [Y, T, HA, HB, RA, RB, ST, NS, I0, I1, I2, BO, FI, RG, GU, PU, b, MN, MS, OT, SC], [r0, r1, r2, r3, w, r5, r6, r7, r8], Lg)) o) ?_ a_F (0, (u1 (u1 (u1 (u1 (u2 (u2 (u2 (u2 (u2 MA 0 23 (MN 0 18)) 0 24 (MN 0 19)) 0 25 (MN 0 20)) 0 26 (MN 0 21)) 0 27 (MN 0 22)) 3 x1) 4 x2) 5 x3) 6 x4)) MA_14 zh10 ?_ ()
  · rintro ⟨v5, MA_6⟩ zr14 zh13 zi11 zx12 ⟨⟩
    by_cases zc15 : 10 ≤ v5
    · have zh13 := itp zh13 zc15
      refine ev_t (c := 10 ≤ v5) ((d + 1, 0, 0, 33, 165, [.val (.ref 1088), .val (.int v5)], [], (126, 120, L, [Y, T, HA, HB, RA, RB, ST, NS, I0, I1, I2, BO, FI, RG, GU, PU, MA_6, MN, MS, OT, SC], [r0, r1, r2, r3, w, r5, r6, r7, r8], Lg))) ((d + 1, 0, 0, 33, 103, [.val (.ref 1088), .val (.int v5)], [], (126, 120, L, [Y, T, HA, HB, RA, RB, ST, NS, I0, I1, I2, BO, FI, RG, GU, PU, MA_6, MN, MS, OT, SC], [r0, r1, r2, r3, w, r5, r6, r7, r8], Lg))) 3 zc15 ?_ (fun n => Eq.refl _)
      exact ev_b 0 (zx12 _ (Option.some.inj zh13).symm (.int v5)) (fun n => Eq.refl _)
    · have zh13 := itn zh13 zc15
      refine ev_f (c := 10 ≤ v5) ((d + 1, 0, 0, 33, 165, [.val (.ref 1088), .val (.int v5)], [], (126, 120, L, [Y, T, HA, HB, RA, RB, ST, NS, I0, I1, I2, BO, FI, RG, GU, PU, MA_6, MN, MS, OT, SC], [r0, r1, r2, r3, w, r5, r6, r7, r8], Lg))) ((d + 1, 0, 0, 33, 103, [.val (.ref 1088), .val (.int v5)], [], (126, 120, L, [Y, T, HA, HB, RA, RB, ST, NS, I0, I1, I2, BO, FI, RG, GU, PU, MA_6, MN, MS, OT, SC], [r0, r1, r2, r3, w, r5, r6, r7, r8], Lg))) 3 zc15 ?_ (fun n => Eq.refl _)
      obtain ⟨zt16, zh17, zh13⟩ := bnd zh13
      have zj18 : ∀ (v8 : Int32), v8 = zt16 → Ev (d + 1, 0, 0, 33, 129, [.val (.ref 1088), .val (.int v5)], [.int v8, .int v5, .ref 1095], (126, 120, L, [Y, T, HA, HB, RA, RB, ST, NS, I0, I1, I2, BO, FI, RG, GU, PU, MA_6, MN, MS, OT, SC], [r0, r1, r2, r3, w, r5, r6, r7, r8], Lg)) o := by
        intro v8 ze19
        subst ze19
        obtain ⟨j9, zh20, zh13⟩ := bnd zh13
        refine ev_opt (fun j9 => (d + 1, 0, 0, 33, 130, [.val (.ref 1088), .val (.int v5)], [], (126, 120, L, [Y, T, HA, HB, RA, RB, ST, NS, I0, I1, I2, BO, FI, RG, GU, PU, (u2 MA_6 7 j9 v8), MN, MS, OT, SC], [r0, r1, r2, r3, w, r5, r6, r7, r8], Lg))) 1 zh20 ?_ (fun n => Eq.refl _)
        obtain ⟨zt21, zh22, zh13⟩ := bnd zh13
        have zj23 : ∀ (v11 : Int32), v11 = zt21 → Ev (d + 1, 0, 0, 33, 158, [.val (.ref 1088), .val (.int v5)], [.int v11, .int v5, .ref 1096], (126, 120, L, [Y, T, HA, HB, RA, RB, ST, NS, I0, I1, I2, BO, FI, RG, GU, PU, (u2 MA_6 7 j9 v8), MN, MS, OT, SC], [r0, r1, r2, r3, w, r5, r6, r7, r8], Lg)) o := by
          intro v11 ze24
          subst ze24
          obtain ⟨j12, zh25, zh13⟩ := bnd zh13
          refine ev_opt (fun j12 => (d + 1, 0, 0, 33, 159, [.val (.ref 1088), .val (.int v5)], [], (126, 120, L, [Y, T, HA, HB, RA, RB, ST, NS, I0, I1, I2, BO, FI, RG, GU, PU, (u2 (u2 MA_6 7 j9 v8) 8 j12 v11), MN, MS, OT, SC], [r0, r1, r2, r3, w, r5, r6, r7, r8], Lg))) 1 zh25 ?_ (fun n => Eq.refl _)
          exact ev_b 2 (zi11 _ (Option.some.inj zh13).symm ()) (fun n => Eq.refl _)
        by_cases zc26 : ((u2 MA_6 7 j9 v8) 0 26) ≤ v5
        · have zh22 := itp zh22 zc26
          refine ev_t (c := ((u2 MA_6 7 j9 v8) 0 26) ≤ v5) ((d + 1, 0, 0, 33, 157, [.val (.ref 1088), .val (.int v5)], [.int v5, .ref 1096], (126, 120, L, [Y, T, HA, HB, RA, RB, ST, NS, I0, I1, I2, BO, FI, RG, GU, PU, (u2 MA_6 7 j9 v8), MN, MS, OT, SC], [r0, r1, r2, r3, w, r5, r6, r7, r8], Lg))) ((d + 1, 0, 0, 33, 143, [.val (.ref 1088), .val (.int v5)], [.int v5, .ref 1096], (126, 120, L, [Y, T, HA, HB, RA, RB, ST, NS, I0, I1, I2, BO, FI, RG, GU, PU, (u2 MA_6 7 j9 v8), MN, MS, OT, SC], [r0, r1, r2, r3, w, r5, r6, r7, r8], Lg))) 7 zc26 ?_ (fun n => Eq.refl _)
          exact ev_b 1 (zj23 0 (Option.some.inj zh22) ) (fun n => Eq.refl _)
        · have zh22 := itn zh22 zc26
          refine ev_f (c := ((u2 MA_6 7 j9 v8) 0 26) ≤ v5) ((d + 1, 0, 0, 33, 157, [.val (.ref 1088), .val (.int v5)], [.int v5, .ref 1096], (126, 120, L, [Y, T, HA, HB, RA, RB, ST, NS, I0, I1, I2, BO, FI, RG, GU, PU, (u2 MA_6 7 j9 v8), MN, MS, OT, SC], [r0, r1, r2, r3, w, r5, r6, r7, r8], Lg))) ((d + 1, 0, 0, 33, 143, [.val (.ref 1088), .val (.int v5)], [.int v5, .ref 1096], (126, 120, L, [Y, T, HA, HB, RA, RB, ST, NS, I0, I1, I2, BO, FI, RG, GU, PU, (u2 MA_6 7 j9 v8), MN, MS, OT, SC], [r0, r1, r2, r3, w, r5, r6, r7, r8], Lg))) 7 zc26 ?_ (fun n => Eq.refl _)
          obtain ⟨x10, zh27, zh22⟩ := bnd zh22
          refine ev_opt (fun x10 => (d + 1, 0, 0, 33, 154, [.val (.ref 1088), .val (.int v5)], [.int x10, .int v5, .ref 1096], (126, 120, L, [Y, T, HA, HB, RA, RB, ST, NS, I0, I1, I2, BO, FI, RG, GU, PU, (u2 MA_6 7 j9 v8), MN, MS, OT, SC], [r0, r1, r2, r3, w, r5, r6, r7, r8], Lg))) 8 zh27 ?_ (fun n => Eq.refl _)
          exact ev_b 1 (zj23 x10 (Option.some.inj zh22) ) (fun n => Eq.refl _)
      by_cases zc28 : (MA_6 0 26) ≤ v5
      · have zh17 := itp zh17 zc28
        refine ev_t (c := (MA_6 0 26) ≤ v5) ((d + 1, 0, 0, 33, 128, [.val (.ref 1088), .val (.int v5)], [.int v5, .ref 1095], (126, 120, L, [Y, T, HA, HB, RA, RB, ST, NS, I0, I1, I2, BO, FI, RG, GU, PU, MA_6, MN, MS, OT, SC], [r0, r1, r2, r3, w, r5, r6, r7, r8], Lg))) ((d + 1, 0, 0, 33, 116, [.val (.ref 1088), .val (.int v5)], [.int v5, .ref 1095], (126, 120, L, [Y, T, HA, HB, RA, RB, ST, NS, I0, I1, I2, BO, FI, RG, GU, PU, MA_6, MN, MS, OT, SC], [r0, r1, r2, r3, w, r5, r6, r7, r8], Lg))) 7 zc28 ?_ (fun n => Eq.refl _)
        exact ev_b 1 (zj18 (-1) (Option.some.inj zh17) ) (fun n => Eq.refl _)
      · have zh17 := itn zh17 zc28
        refine ev_f (c := (MA_6 0 26) ≤ v5) ((d + 1, 0, 0, 33, 128, [.val (.ref 1088), .val (.int v5)], [.int v5, .ref 1095], (126, 120, L, [Y, T, HA, HB, RA, RB, ST, NS, I0, I1, I2, BO, FI, RG, GU, PU, MA_6, MN, MS, OT, SC], [r0, r1, r2, r3, w, r5, r6, r7, r8], Lg))) ((d + 1, 0, 0, 33, 116, [.val (.ref 1088), .val (.int v5)], [.int v5, .ref 1095], (126, 120, L, [Y, T, HA, HB, RA, RB, ST, NS, I0, I1, I2, BO, FI, RG, GU, PU, MA_6, MN, MS, OT, SC], [r0, r1, r2, r3, w, r5, r6, r7, r8], Lg))) 7 zc28 ?_ (fun n => Eq.refl _)
        obtain ⟨x7, zh29, zh17⟩ := bnd zh17
        refine ev_opt (fun x7 => (d + 1, 0, 0, 33, 125, [.val (.ref 1088), .val (.int v5)], [.int x7, .int v5, .ref 1095], (126, 120, L, [Y, T, HA, HB, RA, RB, ST, NS, I0, I1, I2, BO, FI, RG, GU, PU, MA_6, MN, MS, OT, SC], [r0, r1, r2, r3, w, r5, r6, r7, r8], Lg))) 6 zh29 ?_ (fun n => Eq.refl _)
        exact ev_b 1 (zj18 x7 (Option.some.inj zh17) ) (fun n => Eq.refl _)
  · skip
    intro s13
    have ze30 := Option.some.inj h
    subst ze30
    exact ev_rete 13 ho (fun n => Eq.refl _)
set_option maxRecDepth 100000 in
set_option maxHeartbeats 4000000 in
theorem R_f_M_readHour_0 (d : Nat) (Y T HA HB RA RB ST NS I0 I1 I2 BO FI RG GU PU MA MN MS OT SC : Nat → Nat → Int32) (r0 r1 r2 r3 w r5 r6 r7 r8 : Nat) (L : Nat) (Lg : Int64) {r : Int32 × (Nat → Nat → Int32)} (h : f_M_readHour MA MN = some r) : Ev (d + 2, 0, 0, 34, 0, [.val (.ref 1088)], [], (126, 120, L, [Y, T, HA, HB, RA, RB, ST, NS, I0, I1, I2, BO, FI, RG, GU, PU, MA, MN, MS, OT, SC], [r0, r1, r2, r3, w, r5, r6, r7, r8], Lg)) ((0, some (.int r.1), (126, 120, L, [Y, T, HA, HB, RA, RB, ST, NS, I0, I1, I2, BO, FI, RG, GU, PU, MA, r.2, MS, OT, SC], [r0, r1, r2, r3, w, r5, r6, r7, r8], Lg)) : AOut) := by
  suffices key : ∀ o : AOut, ((0, some (.int r.1), (126, 120, L, [Y, T, HA, HB, RA, RB, ST, NS, I0, I1, I2, BO, FI, RG, GU, PU, MA, r.2, MS, OT, SC], [r0, r1, r2, r3, w, r5, r6, r7, r8], Lg)) : AOut) = o → Ev (d + 2, 0, 0, 34, 0, [.val (.ref 1088)], [], (126, 120, L, [Y, T, HA, HB, RA, RB, ST, NS, I0, I1, I2, BO, FI, RG, GU, PU, MA, MN, MS, OT, SC], [r0, r1, r2, r3, w, r5, r6, r7, r8], Lg)) o from key _ rfl
  intro o ho
  obtain ⟨⟨x1, MN_2⟩, zh1, h⟩ := bnd h
  have ze2 := R_f_M_readNumber_0 (d + 0) Y T HA HB RA RB ST NS I0 I1 I2 BO FI RG GU PU MA MN MS OT SC r0 r1 r2 r3 w r5 r6 r7 r8 L Lg 0 ((MN 0 18) - 1) zh1
  refine ev_call (fun v μ => (d + 2, 0, 0, 34, 11, [.val (.ref 1088)], v.toList ++ [], μ)) 7 ze2 ?_ (fun n => Eq.refl _)
  have ze3 := Option.some.inj h
  subst ze3
  exact ev_rete 1 ho (fun n => Eq.refl _)
set_option maxRecDepth 100000 in
set_option maxHeartbeats 4000000 in
theorem R_f_M_readMeeting_0 (d : Nat) (Y T HA HB RA RB ST NS I0 I1 I2 BO FI RG GU PU MA MN MS OT SC : Nat → Nat → Int32) (r0 r1 r2 r3 w r5 r6 r7 r8 : Nat) (L : Nat) (Lg : Int64) {r : Int32 × (Nat → Nat → Int32)} (h : f_M_readMeeting MA MN = some r) : Ev (d + 2, 0, 0, 35, 0, [.val (.ref 1088)], [], (126, 120, L, [Y, T, HA, HB, RA, RB, ST, NS, I0, I1, I2, BO, FI, RG, GU, PU, MA, MN, MS, OT, SC], [r0, r1, r2, r3, w, r5, r6, r7, r8], Lg)) ((0, some (.int r.1), (126, 120, L, [Y, T, HA, HB, RA, RB, ST, NS, I0, I1, I2, BO, FI, RG, GU, PU, MA, r.2, MS, OT, SC], [r0, r1, r2, r3, w, r5, r6, r7, r8], Lg)) : AOut) := by
  suffices key : ∀ o : AOut, ((0, some (.int r.1), (126, 120, L, [Y, T, HA, HB, RA, RB, ST, NS, I0, I1, I2, BO, FI, RG, GU, PU, MA, r.2, MS, OT, SC], [r0, r1, r2, r3, w, r5, r6, r7, r8], Lg)) : AOut) = o → Ev (d + 2, 0, 0, 35, 0, [.val (.ref 1088)], [], (126, 120, L, [Y, T, HA, HB, RA, RB, ST, NS, I0, I1, I2, BO, FI, RG, GU, PU, MA, MN, MS, OT, SC], [r0, r1, r2, r3, w, r5, r6, r7, r8], Lg)) o from key _ rfl
  intro o ho
  obtain ⟨⟨x1, MN_2⟩, zh1, h⟩ := bnd h
  have ze2 := R_f_M_readNumber_0 (d + 0) Y T HA HB RA RB ST NS I0 I1 I2 BO FI RG GU PU MA MN MS OT SC r0 r1 r2 r3 w r5 r6 r7 r8 L Lg 0 ((MN 0 21) - 1) zh1
  refine ev_call (fun v μ => (d + 2, 0, 0, 35, 11, [.val (.ref 1088)], v.toList ++ [], μ)) 7 ze2 ?_ (fun n => Eq.refl _)
  have ze3 := Option.some.inj h
  subst ze3
  exact ev_rete 1 ho (fun n => Eq.refl _)
set_option maxRecDepth 100000 in
set_option maxHeartbeats 4000000 in
theorem R_f_M_range_0 (d : Nat) (Y T HA HB RA RB ST NS I0 I1 I2 BO FI RG GU PU MA MN MS OT SC : Nat → Nat → Int32) (r0 r1 r2 r3 w r5 r6 r7 r8 : Nat) (L : Nat) (Lg : Int64) (p0 : Int32) (p1 : Int32) {r : Int32} (h : f_M_range p0 p1 = some r) : Ev (d + 0, 0, 0, 36, 0, [.val (.int p0), .val (.int p1)], [], (126, 120, L, [Y, T, HA, HB, RA, RB, ST, NS, I0, I1, I2, BO, FI, RG, GU, PU, MA, MN, MS, OT, SC], [r0, r1, r2, r3, w, r5, r6, r7, r8], Lg)) ((0, some (.int r), (126, 120, L, [Y, T, HA, HB, RA, RB, ST, NS, I0, I1, I2, BO, FI, RG, GU, PU, MA, MN, MS, OT, SC], [r0, r1, r2, r3, w, r5, r6, r7, r8], Lg)) : AOut) := by
  suffices key : ∀ o : AOut, ((0, some (.int r), (126, 120, L, [Y, T, HA, HB, RA, RB, ST, NS, I0, I1, I2, BO, FI, RG, GU, PU, MA, MN, MS, OT, SC], [r0, r1, r2, r3, w, r5, r6, r7, r8], Lg)) : AOut) = o → Ev (d + 0, 0, 0, 36, 0, [.val (.int p0), .val (.int p1)], [], (126, 120, L, [Y, T, HA, HB, RA, RB, ST, NS, I0, I1, I2, BO, FI, RG, GU, PU, MA, MN, MS, OT, SC], [r0, r1, r2, r3, w, r5, r6, r7, r8], Lg)) o from key _ rfl
  intro o ho
  have ze1 := Option.some.inj h
  subst ze1
  exact ev_rete 10 ho (fun n => Eq.refl _)
set_option maxRecDepth 100000 in
set_option maxHeartbeats 4000000 in
theorem R_f_M_readPlaces_0 (d : Nat) (Y T HA HB RA RB ST NS I0 I1 I2 BO FI RG GU PU MA MN MS OT SC : Nat → Nat → Int32) (r0 r1 r2 r3 w r5 r6 r7 r8 : Nat) (L : Nat) (Lg : Int64) (p1 : Int32) {r : (Nat → Nat → Int32)} (h : f_M_readPlaces MA MN p1 = some r) : Ev (d + 5, 0, 0, 37, 0, [.val (.ref 1088), .val (.int p1), .val a_unk, .val a_unk, .val a_unk], [], (126, 120, L, [Y, T, HA, HB, RA, RB, ST, NS, I0, I1, I2, BO, FI, RG, GU, PU, MA, MN, MS, OT, SC], [r0, r1, r2, r3, w, r5, r6, r7, r8], Lg)) ((0, none, (126, 120, L, [Y, T, HA, HB, RA, RB, ST, NS, I0, I1, I2, BO, FI, RG, GU, PU, MA, r, MS, OT, SC], [r0, r1, r2, r3, w, r5, r6, r7, r8], Lg)) : AOut) := by
  suffices key : ∀ o : AOut, ((0, none, (126, 120, L, [Y, T, HA, HB, RA, RB, ST, NS, I0, I1, I2, BO, FI, RG, GU, PU, MA, r, MS, OT, SC], [r0, r1, r2, r3, w, r5, r6, r7, r8], Lg)) : AOut) = o → Ev (d + 5, 0, 0, 37, 0, [.val (.ref 1088), .val (.int p1), .val a_unk, .val a_unk, .val a_unk], [], (126, 120, L, [Y, T, HA, HB, RA, RB, ST, NS, I0, I1, I2, BO, FI, RG, GU, PU, MA, MN, MS, OT, SC], [r0, r1, r2, r3, w, r5, r6, r7, r8], Lg)) o from key _ rfl
  intro o ho
  obtain ⟨x1, zh1, h⟩ := bnd h
  have ze2 := R_f_M_of_0 (d + 0) Y T HA HB RA RB ST NS I0 I1 I2 BO FI RG GU PU MA MN MS OT SC r0 r1 r2 r3 w r5 r6 r7 r8 L Lg 2647 zh1
  refine ev_call (fun v μ => (d + 5, 0, 0, 37, 6, [.val (.ref 1088), .val (.int p1), .val a_unk, .val a_unk, .val a_unk], v.toList ++ [.int p1], μ)) 3 ze2 ?_ (fun n => Eq.refl _)
  by_cases zc3 : p1 ≠ x1
  · have h := itp h zc3
    refine ev_t (c := p1 ≠ x1) ((d + 5, 0, 0, 37, 68, [.val (.ref 1088), .val (.int p1), .val a_unk, .val a_unk, .val a_unk], [], (126, 120, L, [Y, T, HA, HB, RA, RB, ST, NS, I0, I1, I2, BO, FI, RG, GU, PU, MA, MN, MS, OT, SC], [r0, r1, r2, r3, w, r5, r6, r7, r8], Lg))) ((d + 5, 0, 0, 37, 9, [.val (.ref 1088), .val (.int p1), .val a_unk, .val a_unk, .val a_unk], [], (126, 120, L, [Y, T, HA, HB, RA, RB, ST, NS, I0, I1, I2, BO, FI, RG, GU, PU, MA, MN, MS, OT, SC], [r0, r1, r2, r3, w, r5, r6, r7, r8], Lg))) 1 zc3 ?_ (fun n => Eq.refl _)
    obtain ⟨x2, zh4, h⟩ := bnd h
    have ze5 := R_f_M_of_0 (d + 0) Y T HA HB RA RB ST NS I0 I1 I2 BO FI RG GU PU MA MN MS OT SC r0 r1 r2 r3 w r5 r6 r7 r8 L Lg 2648 zh4
    refine ev_call (fun v μ => (d + 5, 0, 0, 37, 74, [.val (.ref 1088), .val (.int p1), .val a_unk, .val a_unk, .val a_unk], v.toList ++ [.int p1], μ)) 3 ze5 ?_ (fun n => Eq.refl _)
    by_cases zc6 : p1 ≠ x2
    · have h := itp h zc6
      refine ev_t (c := p1 ≠ x2) ((d + 5, 0, 0, 37, 130, [.val (.ref 1088), .val (.int p1), .val a_unk, .val a_unk, .val a_unk], [], (126, 120, L, [Y, T, HA, HB, RA, RB, ST, NS, I0, I1, I2, BO, FI, RG, GU, PU, MA, MN, MS, OT, SC], [r0, r1, r2, r3, w, r5, r6, r7, r8], Lg))) ((d + 5, 0, 0, 37, 77, [.val (.ref 1088), .val (.int p1), .val a_unk, .val a_unk, .val a_unk], [], (126, 120, L, [Y, T, HA, HB, RA, RB, ST, NS, I0, I1, I2, BO, FI, RG, GU, PU, MA, MN, MS, OT, SC], [r0, r1, r2, r3, w, r5, r6, r7, r8], Lg))) 1 zc6 ?_ (fun n => Eq.refl _)
      obtain ⟨⟨x3, MN_4⟩, zh7, h⟩ := bnd h
      have ze8 := R_f_M_readHour_0 (d + 2) Y T HA HB RA RB ST NS I0 I1 I2 BO FI RG GU PU MA MN MS OT SC r0 r1 r2 r3 w r5 r6 r7 r8 L Lg zh7
      refine ev_call (fun v μ => (d + 5, 0, 0, 37, 134, [.val (.ref 1088), .val (.int p1), .val a_unk, .val a_unk, .val a_unk], v.toList ++ [], μ)) 2 ze8 ?_ (fun n => Eq.refl _)
      obtain ⟨⟨x5, MN_6⟩, zh9, h⟩ := bnd h
      have ze10 := R_f_M_readNumber_0 (d + 3) Y T HA HB RA RB ST NS I0 I1 I2 BO FI RG GU PU MA MN_4 MS OT SC r0 r1 r2 r3 w r5 r6 r7 r8 L Lg 0 ((MN_4 0 19) - 1) zh9
      refine ev_call (fun v μ => (d + 5, 0, 0, 37, 146, [.val (.ref 1088), .val (.int p1), .val (.int x3), .val a_unk, .val a_unk], v.toList ++ [], μ)) 8 ze10 ?_ (fun n => Eq.refl _)
      obtain ⟨x7, zh11, h⟩ := bnd h
      have ze12 := R_f_M_of_0 (d + 0) Y T HA HB RA RB ST NS I0 I1 I2 BO FI RG GU PU MA MN_6 MS OT SC r0 r1 r2 r3 w r5 r6 r7 r8 L Lg 2649 zh11
      refine ev_call (fun v μ => (d + 5, 0, 0, 37, 153, [.val (.ref 1088), .val (.int p1), .val (.int x3), .val (.int x5), .val a_unk], v.toList ++ [.int p1], μ)) 4 ze12 ?_ (fun n => Eq.refl _)
      by_cases zc13 : p1 ≠ x7
      · have h := itp h zc13
        refine ev_t (c := p1 ≠ x7) ((d + 5, 0, 0, 37, 207, [.val (.ref 1088), .val (.int p1), .val (.int x3), .val (.int x5), .val a_unk], [], (126, 120, L, [Y, T, HA, HB, RA, RB, ST, NS, I0, I1, I2, BO, FI, RG, GU, PU, MA, MN_6, MS, OT, SC], [r0, r1, r2, r3, w, r5, r6, r7, r8], Lg))) ((d + 5, 0, 0, 37, 156, [.val (.ref 1088), .val (.int p1), .val (.int x3), .val (.int x5), .val a_unk], [], (126, 120, L, [Y, T, HA, HB, RA, RB, ST, NS, I0, I1, I2, BO, FI, RG, GU, PU, MA, MN_6, MS, OT, SC], [r0, r1, r2, r3, w, r5, r6, r7, r8], Lg))) 1 zc13 ?_ (fun n => Eq.refl _)
        obtain ⟨j8, zh14, h⟩ := bnd h
        refine ev_opt (fun j8 => (d + 5, 0, 0, 37, 223, [.val (.ref 1088), .val (.int p1), .val (.int x3), .val (.int x5), .val a_unk], [], (126, 120, L, [Y, T, HA, HB, RA, RB, ST, NS, I0, I1, I2, BO, FI, RG, GU, PU, MA, (u2 MN_6 4 j8 ((3 * x3) + x5)), MS, OT, SC], [r0, r1, r2, r3, w, r5, r6, r7, r8], Lg))) 12 zh14 ?_ (fun n => Eq.refl _)
        obtain ⟨⟨x9, MN_10⟩, zh15, h⟩ := bnd h
        have ze16 := R_f_M_readNumber_0 (d + 3) Y T HA HB RA RB ST NS I0 I1 I2 BO FI RG GU PU MA (u2 MN_6 4 j8 ((3 * x3) + x5)) MS OT SC r0 r1 r2 r3 w r5 r6 r7 r8 L Lg 0 16 zh15
        refine ev_call (fun v μ => (d + 5, 0, 0, 37, 242, [.val (.ref 1088), .val (.int p1), .val (.int x3), .val (.int x5), .val a_unk], v.toList ++ [.int ((4 * ((u2 MN_6 4 j8 ((3 * x3) + x5)) 0 22)) + 1), .ref 1156], μ)) 12 ze16 ?_ (fun n => Eq.refl _)
        obtain ⟨j11, zh17, h⟩ := bnd h
        refine ev_opt (fun j11 => (d + 5, 0, 0, 37, 243, [.val (.ref 1088), .val (.int p1), .val (.int x3), .val (.int x5), .val a_unk], [], (126, 120, L, [Y, T, HA, HB, RA, RB, ST, NS, I0, I1, I2, BO, FI, RG, GU, PU, MA, (u2 MN_10 4 j11 x9), MS, OT, SC], [r0, r1, r2, r3, w, r5, r6, r7, r8], Lg))) 1 zh17 ?_ (fun n => Eq.refl _)
        obtain ⟨⟨x12, MN_13⟩, zh18, h⟩ := bnd h
        have ze19 := R_f_M_readNumber_0 (d + 3) Y T HA HB RA RB ST NS I0 I1 I2 BO FI RG GU PU MA (u2 MN_10 4 j11 x9) MS OT SC r0 r1 r2 r3 w r5 r6 r7 r8 L Lg 0 99 zh18
        refine ev_call (fun v μ => (d + 5, 0, 0, 37, 262, [.val (.ref 1088), .val (.int p1), .val (.int x3), .val (.int x5), .val a_unk], v.toList ++ [.int ((4 * ((u2 MN_10 4 j11 x9) 0 22)) + 2), .ref 1156], μ)) 12 ze19 ?_ (fun n => Eq.refl _)
        obtain ⟨j14, zh20, h⟩ := bnd h
        refine ev_opt (fun j14 => (d + 5, 0, 0, 37, 263, [.val (.ref 1088), .val (.int p1), .val (.int x3), .val (.int x5), .val a_unk], [], (126, 120, L, [Y, T, HA, HB, RA, RB, ST, NS, I0, I1, I2, BO, FI, RG, GU, PU, MA, (u2 MN_13 4 j14 x12), MS, OT, SC], [r0, r1, r2, r3, w, r5, r6, r7, r8], Lg))) 1 zh20 ?_ (fun n => Eq.refl _)
        obtain ⟨j15, zh21, h⟩ := bnd h
        refine ev_opt (fun j15 => (d + 5, 0, 0, 37, 277, [.val (.ref 1088), .val (.int p1), .val (.int x3), .val (.int x5), .val a_unk], [], (126, 120, L, [Y, T, HA, HB, RA, RB, ST, NS, I0, I1, I2, BO, FI, RG, GU, PU, MA, (u2 (u2 MN_13 4 j14 x12) 4 j15 0), MS, OT, SC], [r0, r1, r2, r3, w, r5, r6, r7, r8], Lg))) 10 zh21 ?_ (fun n => Eq.refl _)
        have ze22 := Option.some.inj h
        subst ze22
        exact ev_rete 7 ho (fun n => Eq.refl _)
      · have h := itn h zc13
        refine ev_f (c := p1 ≠ x7) ((d + 5, 0, 0, 37, 207, [.val (.ref 1088), .val (.int p1), .val (.int x3), .val (.int x5), .val a_unk], [], (126, 120, L, [Y, T, HA, HB, RA, RB, ST, NS, I0, I1, I2, BO, FI, RG, GU, PU, MA, MN_6, MS, OT, SC], [r0, r1, r2, r3, w, r5, r6, r7, r8], Lg))) ((d + 5, 0, 0, 37, 156, [.val (.ref 1088), .val (.int p1), .val (.int x3), .val (.int x5), .val a_unk], [], (126, 120, L, [Y, T, HA, HB, RA, RB, ST, NS, I0, I1, I2, BO, FI, RG, GU, PU, MA, MN_6, MS, OT, SC], [r0, r1, r2, r3, w, r5, r6, r7, r8], Lg))) 1 zc13 ?_ (fun n => Eq.refl _)
        obtain ⟨j16, zh23, h⟩ := bnd h
        refine ev_opt (fun j16 => (d + 5, 0, 0, 37, 173, [.val (.ref 1088), .val (.int p1), .val (.int x3), .val (.int x5), .val a_unk], [], (126, 120, L, [Y, T, HA, HB, RA, RB, ST, NS, I0, I1, I2, BO, FI, RG, GU, PU, MA, (u2 MN_6 3 j16 ((3 * x3) + x5)), MS, OT, SC], [r0, r1, r2, r3, w, r5, r6, r7, r8], Lg))) 12 zh23 ?_ (fun n => Eq.refl _)
        obtain ⟨⟨x17, MN_18⟩, zh24, h⟩ := bnd h
        have ze25 := R_f_M_readNumber_0 (d + 3) Y T HA HB RA RB ST NS I0 I1 I2 BO FI RG GU PU MA (u2 MN_6 3 j16 ((3 * x3) + x5)) MS OT SC r0 r1 r2 r3 w r5 r6 r7 r8 L Lg 0 99 zh24
        refine ev_call (fun v μ => (d + 5, 0, 0, 37, 193, [.val (.ref 1088), .val (.int p1), .val (.int x3), .val (.int x5), .val a_unk], v.toList ++ [.int ((6 * ((u2 MN_6 3 j16 ((3 * x3) + x5)) 0 21)) + 1), .ref 1155], μ)) 12 ze25 ?_ (fun n => Eq.refl _)
        obtain ⟨j19, zh26, h⟩ := bnd h
        refine ev_opt (fun j19 => (d + 5, 0, 0, 37, 194, [.val (.ref 1088), .val (.int p1), .val (.int x3), .val (.int x5), .val a_unk], [], (126, 120, L, [Y, T, HA, HB, RA, RB, ST, NS, I0, I1, I2, BO, FI, RG, GU, PU, MA, (u2 MN_18 3 j19 x17), MS, OT, SC], [r0, r1, r2, r3, w, r5, r6, r7, r8], Lg))) 1 zh26 ?_ (fun n => Eq.refl _)
        have ze27 := Option.some.inj h
        subst ze27
        exact ev_rete 8 ho (fun n => Eq.refl _)
    · have h := itn h zc6
      refine ev_f (c := p1 ≠ x2) ((d + 5, 0, 0, 37, 130, [.val (.ref 1088), .val (.int p1), .val a_unk, .val a_unk, .val a_unk], [], (126, 120, L, [Y, T, HA, HB, RA, RB, ST, NS, I0, I1, I2, BO, FI, RG, GU, PU, MA, MN, MS, OT, SC], [r0, r1, r2, r3, w, r5, r6, r7, r8], Lg))) ((d + 5, 0, 0, 37, 77, [.val (.ref 1088), .val (.int p1), .val a_unk, .val a_unk, .val a_unk], [], (126, 120, L, [Y, T, HA, HB, RA, RB, ST, NS, I0, I1, I2, BO, FI, RG, GU, PU, MA, MN, MS, OT, SC], [r0, r1, r2, r3, w, r5, r6, r7, r8], Lg))) 1 zc6 ?_ (fun n => Eq.refl _)
      obtain ⟨⟨x20, MN_21⟩, zh28, h⟩ := bnd h
      have ze29 := R_f_M_readMeeting_0 (d + 2) Y T HA HB RA RB ST NS I0 I1 I2 BO FI RG GU PU MA MN MS OT SC r0 r1 r2 r3 w r5 r6 r7 r8 L Lg zh28
      refine ev_call (fun v μ => (d + 5, 0, 0, 37, 81, [.val (.ref 1088), .val (.int p1), .val a_unk, .val a_unk, .val a_unk], v.toList ++ [], μ)) 2 ze29 ?_ (fun n => Eq.refl _)
      obtain ⟨⟨x22, MN_23⟩, zh30, h⟩ := bnd h
      have ze31 := R_f_M_readHour_0 (d + 2) Y T HA HB RA RB ST NS I0 I1 I2 BO FI RG GU PU MA MN_21 MS OT SC r0 r1 r2 r3 w r5 r6 r7 r8 L Lg zh30
      refine ev_call (fun v μ => (d + 5, 0, 0, 37, 86, [.val (.ref 1088), .val (.int p1), .val (.int x20), .val a_unk, .val a_unk], v.toList ++ [], μ)) 3 ze31 ?_ (fun n => Eq.refl _)
      obtain ⟨⟨x24, MN_25⟩, zh32, h⟩ := bnd h
      have ze33 := R_f_M_readNumber_0 (d + 3) Y T HA HB RA RB ST NS I0 I1 I2 BO FI RG GU PU MA MN_23 MS OT SC r0 r1 r2 r3 w r5 r6 r7 r8 L Lg x22 ((MN_23 0 18) - 1) zh32
      refine ev_call (fun v μ => (d + 5, 0, 0, 37, 98, [.val (.ref 1088), .val (.int p1), .val (.int x20), .val (.int x22), .val a_unk], v.toList ++ [], μ)) 8 ze33 ?_ (fun n => Eq.refl _)
      obtain ⟨x26, zh34, h⟩ := bnd h
      have ze35 := R_f_M_fine_0 (d + 4) Y T HA HB RA RB ST NS I0 I1 I2 BO FI RG GU PU MA MN_25 MS OT SC r0 r1 r2 r3 w r5 r6 r7 r8 L Lg zh34
      refine ev_call (fun v μ => (d + 5, 0, 0, 37, 104, [.val (.ref 1088), .val (.int p1), .val (.int x20), .val (.int x22), .val (.int x24)], v.toList ++ [], μ)) 3 ze35 ?_ (fun n => Eq.refl _)
      by_cases zc36 : x26 = 0
      · have h := itp h zc36
        refine ev_t (c := x26 = 0) ((d + 5, 0, 0, 37, 127, [.val (.ref 1088), .val (.int p1), .val (.int x20), .val (.int x22), .val (.int x24)], [], (126, 120, L, [Y, T, HA, HB, RA, RB, ST, NS, I0, I1, I2, BO, FI, RG, GU, PU, MA, MN_25, MS, OT, SC], [r0, r1, r2, r3, w, r5, r6, r7, r8], Lg))) ((d + 5, 0, 0, 37, 107, [.val (.ref 1088), .val (.int p1), .val (.int x20), .val (.int x22), .val (.int x24)], [], (126, 120, L, [Y, T, HA, HB, RA, RB, ST, NS, I0, I1, I2, BO, FI, RG, GU, PU, MA, MN_25, MS, OT, SC], [r0, r1, r2, r3, w, r5, r6, r7, r8], Lg))) 1 zc36 ?_ (fun n => Eq.refl _)
        have ze37 := Option.some.inj h
        subst ze37
        exact ev_rete 2 ho (fun n => Eq.refl _)
      · have h := itn h zc36
        refine ev_f (c := x26 = 0) ((d + 5, 0, 0, 37, 127, [.val (.ref 1088), .val (.int p1), .val (.int x20), .val (.int x22), .val (.int x24)], [], (126, 120, L, [Y, T, HA, HB, RA, RB, ST, NS, I0, I1, I2, BO, FI, RG, GU, PU, MA, MN_25, MS, OT, SC], [r0, r1, r2, r3, w, r5, r6, r7, r8], Lg))) ((d + 5, 0, 0, 37, 107, [.val (.ref 1088), .val (.int p1), .val (.int x20), .val (.int x22), .val (.int x24)], [], (126, 120, L, [Y, T, HA, HB, RA, RB, ST, NS, I0, I1, I2, BO, FI, RG, GU, PU, MA, MN_25, MS, OT, SC], [r0, r1, r2, r3, w, r5, r6, r7, r8], Lg))) 1 zc36 ?_ (fun n => Eq.refl _)
        obtain ⟨x27, zh38, h⟩ := bnd h
        refine ev_opt (fun x27 => (d + 5, 0, 0, 37, 119, [.val (.ref 1088), .val (.int p1), .val (.int x20), .val (.int x22), .val (.int x24)], [.int x27, .int ((6 * x20) + 3), .ref 1155], (126, 120, L, [Y, T, HA, HB, RA, RB, ST, NS, I0, I1, I2, BO, FI, RG, GU, PU, MA, MN_25, MS, OT, SC], [r0, r1, r2, r3, w, r5, r6, r7, r8], Lg))) 9 zh38 ?_ (fun n => Eq.refl _)
        obtain ⟨x28, zh39, h⟩ := bnd h
        have ze40 := R_f_M_range_0 (d + 4) Y T HA HB RA RB ST NS I0 I1 I2 BO FI RG GU PU MA MN_25 MS OT SC r0 r1 r2 r3 w r5 r6 r7 r8 L Lg x22 x24 zh39
        refine ev_call (fun v μ => (d + 5, 0, 0, 37, 125, [.val (.ref 1088), .val (.int p1), .val (.int x20), .val (.int x22), .val (.int x24)], v.toList ++ [.int x27, .int ((6 * x20) + 3), .ref 1155], μ)) 3 ze40 ?_ (fun n => Eq.refl _)
        obtain ⟨j29, zh41, h⟩ := bnd h
        refine ev_opt (fun j29 => (d + 5, 0, 0, 37, 127, [.val (.ref 1088), .val (.int p1), .val (.int x20), .val (.int x22), .val (.int x24)], [], (126, 120, L, [Y, T, HA, HB, RA, RB, ST, NS, I0, I1, I2, BO, FI, RG, GU, PU, MA, (u2 MN_25 3 j29 (x27 ||| x28)), MS, OT, SC], [r0, r1, r2, r3, w, r5, r6, r7, r8], Lg))) 2 zh41 ?_ (fun n => Eq.refl _)
        have ze42 := Option.some.inj h
        subst ze42
        exact ev_rete 2 ho (fun n => Eq.refl _)
  · have h := itn h zc3
    refine ev_f (c := p1 ≠ x1) ((d + 5, 0, 0, 37, 68, [.val (.ref 1088), .val (.int p1), .val a_unk, .val a_unk, .val a_unk], [], (126, 120, L, [Y, T, HA, HB, RA, RB, ST, NS, I0, I1, I2, BO, FI, RG, GU, PU, MA, MN, MS, OT, SC], [r0, r1, r2, r3, w, r5, r6, r7, r8], Lg))) ((d + 5, 0, 0, 37, 9, [.val (.ref 1088), .val (.int p1), .val a_unk, .val a_unk, .val a_unk], [], (126, 120, L, [Y, T, HA, HB, RA, RB, ST, NS, I0, I1, I2, BO, FI, RG, GU, PU, MA, MN, MS, OT, SC], [r0, r1, r2, r3, w, r5, r6, r7, r8], Lg))) 1 zc3 ?_ (fun n => Eq.refl _)
    obtain ⟨⟨x30, MN_31⟩, zh43, h⟩ := bnd h
    have ze44 := R_f_M_readNumber_0 (d + 3) Y T HA HB RA RB ST NS I0 I1 I2 BO FI RG GU PU MA MN MS OT SC r0 r1 r2 r3 w r5 r6 r7 r8 L Lg 0 ((MN 0 20) - 1) zh43
    refine ev_call (fun v μ => (d + 5, 0, 0, 37, 20, [.val (.ref 1088), .val (.int p1), .val a_unk, .val a_unk, .val a_unk], v.toList ++ [], μ)) 7 ze44 ?_ (fun n => Eq.refl _)
    obtain ⟨⟨x32, MN_33⟩, zh45, h⟩ := bnd h
    have ze46 := R_f_M_readHour_0 (d + 2) Y T HA HB RA RB ST NS I0 I1 I2 BO FI RG GU PU MA MN_31 MS OT SC r0 r1 r2 r3 w r5 r6 r7 r8 L Lg zh45
    refine ev_call (fun v μ => (d + 5, 0, 0, 37, 25, [.val (.ref 1088), .val (.int p1), .val (.int x30), .val a_unk, .val a_unk], v.toList ++ [], μ)) 3 ze46 ?_ (fun n => Eq.refl _)
    obtain ⟨⟨x34, MN_35⟩, zh47, h⟩ := bnd h
    have ze48 := R_f_M_readNumber_0 (d + 3) Y T HA HB RA RB ST NS I0 I1 I2 BO FI RG GU PU MA MN_33 MS OT SC r0 r1 r2 r3 w r5 r6 r7 r8 L Lg x32 ((MN_33 0 18) - 1) zh47
    refine ev_call (fun v μ => (d + 5, 0, 0, 37, 37, [.val (.ref 1088), .val (.int p1), .val (.int x30), .val (.int x32), .val a_unk], v.toList ++ [], μ)) 8 ze48 ?_ (fun n => Eq.refl _)
    obtain ⟨x36, zh49, h⟩ := bnd h
    have ze50 := R_f_M_fine_0 (d + 4) Y T HA HB RA RB ST NS I0 I1 I2 BO FI RG GU PU MA MN_35 MS OT SC r0 r1 r2 r3 w r5 r6 r7 r8 L Lg zh49
    refine ev_call (fun v μ => (d + 5, 0, 0, 37, 43, [.val (.ref 1088), .val (.int p1), .val (.int x30), .val (.int x32), .val (.int x34)], v.toList ++ [], μ)) 3 ze50 ?_ (fun n => Eq.refl _)
    by_cases zc51 : x36 = 0
    · have h := itp h zc51
      refine ev_t (c := x36 = 0) ((d + 5, 0, 0, 37, 65, [.val (.ref 1088), .val (.int p1), .val (.int x30), .val (.int x32), .val (.int x34)], [], (126, 120, L, [Y, T, HA, HB, RA, RB, ST, NS, I0, I1, I2, BO, FI, RG, GU, PU, MA, MN_35, MS, OT, SC], [r0, r1, r2, r3, w, r5, r6, r7, r8], Lg))) ((d + 5, 0, 0, 37, 46, [.val (.ref 1088), .val (.int p1), .val (.int x30), .val (.int x32), .val (.int x34)], [], (126, 120, L, [Y, T, HA, HB, RA, RB, ST, NS, I0, I1, I2, BO, FI, RG, GU, PU, MA, MN_35, MS, OT, SC], [r0, r1, r2, r3, w, r5, r6, r7, r8], Lg))) 1 zc51 ?_ (fun n => Eq.refl _)
      have ze52 := Option.some.inj h
      subst ze52
      exact ev_rete 2 ho (fun n => Eq.refl _)
    · have h := itn h zc51
      refine ev_f (c := x36 = 0) ((d + 5, 0, 0, 37, 65, [.val (.ref 1088), .val (.int p1), .val (.int x30), .val (.int x32), .val (.int x34)], [], (126, 120, L, [Y, T, HA, HB, RA, RB, ST, NS, I0, I1, I2, BO, FI, RG, GU, PU, MA, MN_35, MS, OT, SC], [r0, r1, r2, r3, w, r5, r6, r7, r8], Lg))) ((d + 5, 0, 0, 37, 46, [.val (.ref 1088), .val (.int p1), .val (.int x30), .val (.int x32), .val (.int x34)], [], (126, 120, L, [Y, T, HA, HB, RA, RB, ST, NS, I0, I1, I2, BO, FI, RG, GU, PU, MA, MN_35, MS, OT, SC], [r0, r1, r2, r3, w, r5, r6, r7, r8], Lg))) 1 zc51 ?_ (fun n => Eq.refl _)
      obtain ⟨x37, zh53, h⟩ := bnd h
      refine ev_opt (fun x37 => (d + 5, 0, 0, 37, 57, [.val (.ref 1088), .val (.int p1), .val (.int x30), .val (.int x32), .val (.int x34)], [.int x37, .int ((3 * x30) + 2), .ref 1154], (126, 120, L, [Y, T, HA, HB, RA, RB, ST, NS, I0, I1, I2, BO, FI, RG, GU, PU, MA, MN_35, MS, OT, SC], [r0, r1, r2, r3, w, r5, r6, r7, r8], Lg))) 9 zh53 ?_ (fun n => Eq.refl _)
      obtain ⟨x38, zh54, h⟩ := bnd h
      have ze55 := R_f_M_range_0 (d + 4) Y T HA HB RA RB ST NS I0 I1 I2 BO FI RG GU PU MA MN_35 MS OT SC r0 r1 r2 r3 w r5 r6 r7 r8 L Lg x32 x34 zh54
      refine ev_call (fun v μ => (d + 5, 0, 0, 37, 63, [.val (.ref 1088), .val (.int p1), .val (.int x30), .val (.int x32), .val (.int x34)], v.toList ++ [.int x37, .int ((3 * x30) + 2), .ref 1154], μ)) 3 ze55 ?_ (fun n => Eq.refl _)
      obtain ⟨j39, zh56, h⟩ := bnd h
      refine ev_opt (fun j39 => (d + 5, 0, 0, 37, 65, [.val (.ref 1088), .val (.int p1), .val (.int x30), .val (.int x32), .val (.int x34)], [], (126, 120, L, [Y, T, HA, HB, RA, RB, ST, NS, I0, I1, I2, BO, FI, RG, GU, PU, MA, (u2 MN_35 2 j39 (x37 ||| x38)), MS, OT, SC], [r0, r1, r2, r3, w, r5, r6, r7, r8], Lg))) 2 zh56 ?_ (fun n => Eq.refl _)
      have ze57 := Option.some.inj h
      subst ze57
      exact ev_rete 2 ho (fun n => Eq.refl _)
set_option maxRecDepth 100000 in
set_option maxHeartbeats 4000000 in
theorem R_f_M_readClause_0 (d : Nat) (Y T HA HB RA RB ST NS I0 I1 I2 BO FI RG GU PU MA MN MS OT SC : Nat → Nat → Int32) (r0 r1 r2 r3 w r5 r6 r7 r8 : Nat) (L : Nat) (Lg : Int64) (p1 : Int32) {r : (Nat → Nat → Int32)} (h : f_M_readClause MA MN p1 = some r) : Ev (d + 6, 0, 0, 38, 0, [.val (.ref 1088), .val (.int p1), .val a_unk, .val a_unk], [], (126, 120, L, [Y, T, HA, HB, RA, RB, ST, NS, I0, I1, I2, BO, FI, RG, GU, PU, MA, MN, MS, OT, SC], [r0, r1, r2, r3, w, r5, r6, r7, r8], Lg)) ((0, none, (126, 120, L, [Y, T, HA, HB, RA, RB, ST, NS, I0, I1, I2, BO, FI, RG, GU, PU, MA, r, MS, OT, SC], [r0, r1, r2, r3, w, r5, r6, r7, r8], Lg)) : AOut) := by
  suffices key : ∀ o : AOut, ((0, none, (126, 120, L, [Y, T, HA, HB, RA, RB, ST, NS, I0, I1, I2, BO, FI, RG, GU, PU, MA, r, MS, OT, SC], [r0, r1, r2, r3, w, r5, r6, r7, r8], Lg)) : AOut) = o → Ev (d + 6, 0, 0, 38, 0, [.val (.ref 1088), .val (.int p1), .val a_unk, .val a_unk], [], (126, 120, L, [Y, T, HA, HB, RA, RB, ST, NS, I0, I1, I2, BO, FI, RG, GU, PU, MA, MN, MS, OT, SC], [r0, r1, r2, r3, w, r5, r6, r7, r8], Lg)) o from key _ rfl
  intro o ho
  obtain ⟨x1, zh1, h⟩ := bnd h
  have ze2 := R_f_M_of_0 (d + 1) Y T HA HB RA RB ST NS I0 I1 I2 BO FI RG GU PU MA MN MS OT SC r0 r1 r2 r3 w r5 r6 r7 r8 L Lg 2650 zh1
  refine ev_call (fun v μ => (d + 6, 0, 0, 38, 6, [.val (.ref 1088), .val (.int p1), .val a_unk, .val a_unk], v.toList ++ [.int p1], μ)) 3 ze2 ?_ (fun n => Eq.refl _)
  by_cases zc3 : p1 ≠ x1
  · have h := itp h zc3
    refine ev_t (c := p1 ≠ x1) ((d + 6, 0, 0, 38, 23, [.val (.ref 1088), .val (.int p1), .val a_unk, .val a_unk], [], (126, 120, L, [Y, T, HA, HB, RA, RB, ST, NS, I0, I1, I2, BO, FI, RG, GU, PU, MA, MN, MS, OT, SC], [r0, r1, r2, r3, w, r5, r6, r7, r8], Lg))) ((d + 6, 0, 0, 38, 9, [.val (.ref 1088), .val (.int p1), .val a_unk, .val a_unk], [], (126, 120, L, [Y, T, HA, HB, RA, RB, ST, NS, I0, I1, I2, BO, FI, RG, GU, PU, MA, MN, MS, OT, SC], [r0, r1, r2, r3, w, r5, r6, r7, r8], Lg))) 1 zc3 ?_ (fun n => Eq.refl _)
    obtain ⟨x2, zh4, h⟩ := bnd h
    have ze5 := R_f_M_of_0 (d + 1) Y T HA HB RA RB ST NS I0 I1 I2 BO FI RG GU PU MA MN MS OT SC r0 r1 r2 r3 w r5 r6 r7 r8 L Lg 2651 zh4
    refine ev_call (fun v μ => (d + 6, 0, 0, 38, 29, [.val (.ref 1088), .val (.int p1), .val a_unk, .val a_unk], v.toList ++ [.int p1], μ)) 3 ze5 ?_ (fun n => Eq.refl _)
    by_cases zc6 : p1 ≠ x2
    · have h := itp h zc6
      refine ev_t (c := p1 ≠ x2) ((d + 6, 0, 0, 38, 61, [.val (.ref 1088), .val (.int p1), .val a_unk, .val a_unk], [], (126, 120, L, [Y, T, HA, HB, RA, RB, ST, NS, I0, I1, I2, BO, FI, RG, GU, PU, MA, MN, MS, OT, SC], [r0, r1, r2, r3, w, r5, r6, r7, r8], Lg))) ((d + 6, 0, 0, 38, 32, [.val (.ref 1088), .val (.int p1), .val a_unk, .val a_unk], [], (126, 120, L, [Y, T, HA, HB, RA, RB, ST, NS, I0, I1, I2, BO, FI, RG, GU, PU, MA, MN, MS, OT, SC], [r0, r1, r2, r3, w, r5, r6, r7, r8], Lg))) 1 zc6 ?_ (fun n => Eq.refl _)
      obtain ⟨x3, zh7, h⟩ := bnd h
      have ze8 := R_f_M_of_0 (d + 1) Y T HA HB RA RB ST NS I0 I1 I2 BO FI RG GU PU MA MN MS OT SC r0 r1 r2 r3 w r5 r6 r7 r8 L Lg 2652 zh7
      refine ev_call (fun v μ => (d + 6, 0, 0, 38, 67, [.val (.ref 1088), .val (.int p1), .val a_unk, .val a_unk], v.toList ++ [.int p1], μ)) 3 ze8 ?_ (fun n => Eq.refl _)
      by_cases zc9 : p1 ≠ x3
      · have h := itp h zc9
        refine ev_t (c := p1 ≠ x3) ((d + 6, 0, 0, 38, 135, [.val (.ref 1088), .val (.int p1), .val a_unk, .val a_unk], [], (126, 120, L, [Y, T, HA, HB, RA, RB, ST, NS, I0, I1, I2, BO, FI, RG, GU, PU, MA, MN, MS, OT, SC], [r0, r1, r2, r3, w, r5, r6, r7, r8], Lg))) ((d + 6, 0, 0, 38, 70, [.val (.ref 1088), .val (.int p1), .val a_unk, .val a_unk], [], (126, 120, L, [Y, T, HA, HB, RA, RB, ST, NS, I0, I1, I2, BO, FI, RG, GU, PU, MA, MN, MS, OT, SC], [r0, r1, r2, r3, w, r5, r6, r7, r8], Lg))) 1 zc9 ?_ (fun n => Eq.refl _)
        obtain ⟨x4, zh10, h⟩ := bnd h
        have ze11 := R_f_M_of_0 (d + 1) Y T HA HB RA RB ST NS I0 I1 I2 BO FI RG GU PU MA MN MS OT SC r0 r1 r2 r3 w r5 r6 r7 r8 L Lg 2653 zh10
        refine ev_call (fun v μ => (d + 6, 0, 0, 38, 141, [.val (.ref 1088), .val (.int p1), .val a_unk, .val a_unk], v.toList ++ [.int p1], μ)) 3 ze11 ?_ (fun n => Eq.refl _)
        by_cases zc12 : p1 ≠ x4
        · have h := itp h zc12
          refine ev_t (c := p1 ≠ x4) ((d + 6, 0, 0, 38, 188, [.val (.ref 1088), .val (.int p1), .val a_unk, .val a_unk], [], (126, 120, L, [Y, T, HA, HB, RA, RB, ST, NS, I0, I1, I2, BO, FI, RG, GU, PU, MA, MN, MS, OT, SC], [r0, r1, r2, r3, w, r5, r6, r7, r8], Lg))) ((d + 6, 0, 0, 38, 144, [.val (.ref 1088), .val (.int p1), .val a_unk, .val a_unk], [], (126, 120, L, [Y, T, HA, HB, RA, RB, ST, NS, I0, I1, I2, BO, FI, RG, GU, PU, MA, MN, MS, OT, SC], [r0, r1, r2, r3, w, r5, r6, r7, r8], Lg))) 1 zc12 ?_ (fun n => Eq.refl _)
          obtain ⟨x5, zh13, h⟩ := bnd h
          have ze14 := R_f_M_of_0 (d + 1) Y T HA HB RA RB ST NS I0 I1 I2 BO FI RG GU PU MA MN MS OT SC r0 r1 r2 r3 w r5 r6 r7 r8 L Lg 2654 zh13
          refine ev_call (fun v μ => (d + 6, 0, 0, 38, 194, [.val (.ref 1088), .val (.int p1), .val a_unk, .val a_unk], v.toList ++ [.int p1], μ)) 3 ze14 ?_ (fun n => Eq.refl _)
          by_cases zc15 : p1 ≠ x5
          · have h := itp h zc15
            refine ev_t (c := p1 ≠ x5) ((d + 6, 0, 0, 38, 224, [.val (.ref 1088), .val (.int p1), .val a_unk, .val a_unk], [], (126, 120, L, [Y, T, HA, HB, RA, RB, ST, NS, I0, I1, I2, BO, FI, RG, GU, PU, MA, MN, MS, OT, SC], [r0, r1, r2, r3, w, r5, r6, r7, r8], Lg))) ((d + 6, 0, 0, 38, 197, [.val (.ref 1088), .val (.int p1), .val a_unk, .val a_unk], [], (126, 120, L, [Y, T, HA, HB, RA, RB, ST, NS, I0, I1, I2, BO, FI, RG, GU, PU, MA, MN, MS, OT, SC], [r0, r1, r2, r3, w, r5, r6, r7, r8], Lg))) 1 zc15 ?_ (fun n => Eq.refl _)
            obtain ⟨x6, zh16, h⟩ := bnd h
            have ze17 := R_f_M_of_0 (d + 1) Y T HA HB RA RB ST NS I0 I1 I2 BO FI RG GU PU MA MN MS OT SC r0 r1 r2 r3 w r5 r6 r7 r8 L Lg 2655 zh16
            refine ev_call (fun v μ => (d + 6, 0, 0, 38, 230, [.val (.ref 1088), .val (.int p1), .val a_unk, .val a_unk], v.toList ++ [.int p1], μ)) 3 ze17 ?_ (fun n => Eq.refl _)
            by_cases zc18 : p1 ≠ x6
            · have h := itp h zc18
              refine ev_t (c := p1 ≠ x6) ((d + 6, 0, 0, 38, 268, [.val (.ref 1088), .val (.int p1), .val a_unk, .val a_unk], [], (126, 120, L, [Y, T, HA, HB, RA, RB, ST, NS, I0, I1, I2, BO, FI, RG, GU, PU, MA, MN, MS, OT, SC], [r0, r1, r2, r3, w, r5, r6, r7, r8], Lg))) ((d + 6, 0, 0, 38, 233, [.val (.ref 1088), .val (.int p1), .val a_unk, .val a_unk], [], (126, 120, L, [Y, T, HA, HB, RA, RB, ST, NS, I0, I1, I2, BO, FI, RG, GU, PU, MA, MN, MS, OT, SC], [r0, r1, r2, r3, w, r5, r6, r7, r8], Lg))) 1 zc18 ?_ (fun n => Eq.refl _)
              obtain ⟨MN_7, zh19, h⟩ := bnd h
              have ze20 := R_f_M_readPlaces_0 (d + 0) Y T HA HB RA RB ST NS I0 I1 I2 BO FI RG GU PU MA MN MS OT SC r0 r1 r2 r3 w r5 r6 r7 r8 L Lg p1 zh19
              refine ev_call (fun v μ => (d + 6, 0, 0, 38, 273, [.val (.ref 1088), .val (.int p1), .val a_unk, .val a_unk], v.toList ++ [], μ)) 3 ze20 ?_ (fun n => Eq.refl _)
              have ze21 := Option.some.inj h
              subst ze21
              exact ev_rete 1 ho (fun n => Eq.refl _)
            · have h := itn h zc18
              refine ev_f (c := p1 ≠ x6) ((d + 6, 0, 0, 38, 268, [.val (.ref 1088), .val (.int p1), .val a_unk, .val a_unk], [], (126, 120, L, [Y, T, HA, HB, RA, RB, ST, NS, I0, I1, I2, BO, FI, RG, GU, PU, MA, MN, MS, OT, SC], [r0, r1, r2, r3, w, r5, r6, r7, r8], Lg))) ((d + 6, 0, 0, 38, 233, [.val (.ref 1088), .val (.int p1), .val a_unk, .val a_unk], [], (126, 120, L, [Y, T, HA, HB, RA, RB, ST, NS, I0, I1, I2, BO, FI, RG, GU, PU, MA, MN, MS, OT, SC], [r0, r1, r2, r3, w, r5, r6, r7, r8], Lg))) 1 zc18 ?_ (fun n => Eq.refl _)
              obtain ⟨⟨x8, MN_9⟩, zh22, h⟩ := bnd h
              have ze23 := R_f_M_readMeeting_0 (d + 3) Y T HA HB RA RB ST NS I0 I1 I2 BO FI RG GU PU MA MN MS OT SC r0 r1 r2 r3 w r5 r6 r7 r8 L Lg zh22
              refine ev_call (fun v μ => (d + 6, 0, 0, 38, 237, [.val (.ref 1088), .val (.int p1), .val a_unk, .val a_unk], v.toList ++ [], μ)) 2 ze23 ?_ (fun n => Eq.refl _)
              obtain ⟨⟨x10, MN_11⟩, zh24, h⟩ := bnd h
              have ze25 := R_f_M_readNumber_0 (d + 4) Y T HA HB RA RB ST NS I0 I1 I2 BO FI RG GU PU MA MN_9 MS OT SC r0 r1 r2 r3 w r5 r6 r7 r8 L Lg 0 99 zh24
              refine ev_call (fun v μ => (d + 6, 0, 0, 38, 245, [.val (.ref 1088), .val (.int p1), .val (.int x8), .val a_unk], v.toList ++ [], μ)) 5 ze25 ?_ (fun n => Eq.refl _)
              obtain ⟨x12, zh26, h⟩ := bnd h
              have ze27 := R_f_M_fine_0 (d + 5) Y T HA HB RA RB ST NS I0 I1 I2 BO FI RG GU PU MA MN_11 MS OT SC r0 r1 r2 r3 w r5 r6 r7 r8 L Lg zh26
              refine ev_call (fun v μ => (d + 6, 0, 0, 38, 250, [.val (.ref 1088), .val (.int p1), .val (.int x8), .val (.int x10)], v.toList ++ [], μ)) 3 ze27 ?_ (fun n => Eq.refl _)
              by_cases zc28 : x12 = 0
              · have h := itp h zc28
                refine ev_t (c := x12 = 0) ((d + 6, 0, 0, 38, 265, [.val (.ref 1088), .val (.int p1), .val (.int x8), .val (.int x10)], [], (126, 120, L, [Y, T, HA, HB, RA, RB, ST, NS, I0, I1, I2, BO, FI, RG, GU, PU, MA, MN_11, MS, OT, SC], [r0, r1, r2, r3, w, r5, r6, r7, r8], Lg))) ((d + 6, 0, 0, 38, 253, [.val (.ref 1088), .val (.int p1), .val (.int x8), .val (.int x10)], [], (126, 120, L, [Y, T, HA, HB, RA, RB, ST, NS, I0, I1, I2, BO, FI, RG, GU, PU, MA, MN_11, MS, OT, SC], [r0, r1, r2, r3, w, r5, r6, r7, r8], Lg))) 1 zc28 ?_ (fun n => Eq.refl _)
                have ze29 := Option.some.inj h
                subst ze29
                exact ev_rete 2 ho (fun n => Eq.refl _)
              · have h := itn h zc28
                refine ev_f (c := x12 = 0) ((d + 6, 0, 0, 38, 265, [.val (.ref 1088), .val (.int p1), .val (.int x8), .val (.int x10)], [], (126, 120, L, [Y, T, HA, HB, RA, RB, ST, NS, I0, I1, I2, BO, FI, RG, GU, PU, MA, MN_11, MS, OT, SC], [r0, r1, r2, r3, w, r5, r6, r7, r8], Lg))) ((d + 6, 0, 0, 38, 253, [.val (.ref 1088), .val (.int p1), .val (.int x8), .val (.int x10)], [], (126, 120, L, [Y, T, HA, HB, RA, RB, ST, NS, I0, I1, I2, BO, FI, RG, GU, PU, MA, MN_11, MS, OT, SC], [r0, r1, r2, r3, w, r5, r6, r7, r8], Lg))) 1 zc28 ?_ (fun n => Eq.refl _)
                obtain ⟨j13, zh30, h⟩ := bnd h
                refine ev_opt (fun j13 => (d + 6, 0, 0, 38, 265, [.val (.ref 1088), .val (.int p1), .val (.int x8), .val (.int x10)], [], (126, 120, L, [Y, T, HA, HB, RA, RB, ST, NS, I0, I1, I2, BO, FI, RG, GU, PU, MA, (u2 MN_11 3 j13 x10), MS, OT, SC], [r0, r1, r2, r3, w, r5, r6, r7, r8], Lg))) 9 zh30 ?_ (fun n => Eq.refl _)
                have ze31 := Option.some.inj h
                subst ze31
                exact ev_rete 2 ho (fun n => Eq.refl _)
          · have h := itn h zc15
            refine ev_f (c := p1 ≠ x5) ((d + 6, 0, 0, 38, 224, [.val (.ref 1088), .val (.int p1), .val a_unk, .val a_unk], [], (126, 120, L, [Y, T, HA, HB, RA, RB, ST, NS, I0, I1, I2, BO, FI, RG, GU, PU, MA, MN, MS, OT, SC], [r0, r1, r2, r3, w, r5, r6, r7, r8], Lg))) ((d + 6, 0, 0, 38, 197, [.val (.ref 1088), .val (.int p1), .val a_unk, .val a_unk], [], (126, 120, L, [Y, T, HA, HB, RA, RB, ST, NS, I0, I1, I2, BO, FI, RG, GU, PU, MA, MN, MS, OT, SC], [r0, r1, r2, r3, w, r5, r6, r7, r8], Lg))) 1 zc15 ?_ (fun n => Eq.refl _)
            obtain ⟨⟨x14, MN_15⟩, zh32, h⟩ := bnd h
            have ze33 := R_f_M_readMeeting_0 (d + 3) Y T HA HB RA RB ST NS I0 I1 I2 BO FI RG GU PU MA MN MS OT SC r0 r1 r2 r3 w r5 r6 r7 r8 L Lg zh32
            refine ev_call (fun v μ => (d + 6, 0, 0, 38, 201, [.val (.ref 1088), .val (.int p1), .val a_unk, .val a_unk], v.toList ++ [], μ)) 2 ze33 ?_ (fun n => Eq.refl _)
            obtain ⟨x16, zh34, h⟩ := bnd h
            have ze35 := R_f_M_fine_0 (d + 5) Y T HA HB RA RB ST NS I0 I1 I2 BO FI RG GU PU MA MN_15 MS OT SC r0 r1 r2 r3 w r5 r6 r7 r8 L Lg zh34
            refine ev_call (fun v μ => (d + 6, 0, 0, 38, 206, [.val (.ref 1088), .val (.int p1), .val (.int x14), .val a_unk], v.toList ++ [], μ)) 3 ze35 ?_ (fun n => Eq.refl _)
            by_cases zc36 : x16 = 0
            · have h := itp h zc36
              refine ev_t (c := x16 = 0) ((d + 6, 0, 0, 38, 221, [.val (.ref 1088), .val (.int p1), .val (.int x14), .val a_unk], [], (126, 120, L, [Y, T, HA, HB, RA, RB, ST, NS, I0, I1, I2, BO, FI, RG, GU, PU, MA, MN_15, MS, OT, SC], [r0, r1, r2, r3, w, r5, r6, r7, r8], Lg))) ((d + 6, 0, 0, 38, 209, [.val (.ref 1088), .val (.int p1), .val (.int x14), .val a_unk], [], (126, 120, L, [Y, T, HA, HB, RA, RB, ST, NS, I0, I1, I2, BO, FI, RG, GU, PU, MA, MN_15, MS, OT, SC], [r0, r1, r2, r3, w, r5, r6, r7, r8], Lg))) 1 zc36 ?_ (fun n => Eq.refl _)
              have ze37 := Option.some.inj h
              subst ze37
              exact ev_rete 2 ho (fun n => Eq.refl _)
            · have h := itn h zc36
              refine ev_f (c := x16 = 0) ((d + 6, 0, 0, 38, 221, [.val (.ref 1088), .val (.int p1), .val (.int x14), .val a_unk], [], (126, 120, L, [Y, T, HA, HB, RA, RB, ST, NS, I0, I1, I2, BO, FI, RG, GU, PU, MA, MN_15, MS, OT, SC], [r0, r1, r2, r3, w, r5, r6, r7, r8], Lg))) ((d + 6, 0, 0, 38, 209, [.val (.ref 1088), .val (.int p1), .val (.int x14), .val a_unk], [], (126, 120, L, [Y, T, HA, HB, RA, RB, ST, NS, I0, I1, I2, BO, FI, RG, GU, PU, MA, MN_15, MS, OT, SC], [r0, r1, r2, r3, w, r5, r6, r7, r8], Lg))) 1 zc36 ?_ (fun n => Eq.refl _)
              obtain ⟨j17, zh38, h⟩ := bnd h
              refine ev_opt (fun j17 => (d + 6, 0, 0, 38, 221, [.val (.ref 1088), .val (.int p1), .val (.int x14), .val a_unk], [], (126, 120, L, [Y, T, HA, HB, RA, RB, ST, NS, I0, I1, I2, BO, FI, RG, GU, PU, MA, (u2 MN_15 3 j17 1), MS, OT, SC], [r0, r1, r2, r3, w, r5, r6, r7, r8], Lg))) 9 zh38 ?_ (fun n => Eq.refl _)
              have ze39 := Option.some.inj h
              subst ze39
              exact ev_rete 2 ho (fun n => Eq.refl _)
        · have h := itn h zc12
          refine ev_f (c := p1 ≠ x4) ((d + 6, 0, 0, 38, 188, [.val (.ref 1088), .val (.int p1), .val a_unk, .val a_unk], [], (126, 120, L, [Y, T, HA, HB, RA, RB, ST, NS, I0, I1, I2, BO, FI, RG, GU, PU, MA, MN, MS, OT, SC], [r0, r1, r2, r3, w, r5, r6, r7, r8], Lg))) ((d + 6, 0, 0, 38, 144, [.val (.ref 1088), .val (.int p1), .val a_unk, .val a_unk], [], (126, 120, L, [Y, T, HA, HB, RA, RB, ST, NS, I0, I1, I2, BO, FI, RG, GU, PU, MA, MN, MS, OT, SC], [r0, r1, r2, r3, w, r5, r6, r7, r8], Lg))) 1 zc12 ?_ (fun n => Eq.refl _)
          obtain ⟨⟨x18, MN_19⟩, zh40, h⟩ := bnd h
          have ze41 := R_f_M_readMeeting_0 (d + 3) Y T HA HB RA RB ST NS I0 I1 I2 BO FI RG GU PU MA MN MS OT SC r0 r1 r2 r3 w r5 r6 r7 r8 L Lg zh40
          refine ev_call (fun v μ => (d + 6, 0, 0, 38, 148, [.val (.ref 1088), .val (.int p1), .val a_unk, .val a_unk], v.toList ++ [], μ)) 2 ze41 ?_ (fun n => Eq.refl _)
          obtain ⟨⟨x20, MN_21⟩, zh42, h⟩ := bnd h
          have ze43 := R_f_M_readNumber_0 (d + 4) Y T HA HB RA RB ST NS I0 I1 I2 BO FI RG GU PU MA MN_19 MS OT SC r0 r1 r2 r3 w r5 r6 r7 r8 L Lg 0 ((MN_19 0 20) - 1) zh42
          refine ev_call (fun v μ => (d + 6, 0, 0, 38, 160, [.val (.ref 1088), .val (.int p1), .val (.int x18), .val a_unk], v.toList ++ [], μ)) 8 ze43 ?_ (fun n => Eq.refl _)
          obtain ⟨x22, zh44, h⟩ := bnd h
          have ze45 := R_f_M_fine_0 (d + 5) Y T HA HB RA RB ST NS I0 I1 I2 BO FI RG GU PU MA MN_21 MS OT SC r0 r1 r2 r3 w r5 r6 r7 r8 L Lg zh44
          refine ev_call (fun v μ => (d + 6, 0, 0, 38, 165, [.val (.ref 1088), .val (.int p1), .val (.int x18), .val (.int x20)], v.toList ++ [], μ)) 3 ze45 ?_ (fun n => Eq.refl _)
          by_cases zc46 : x22 = 0
          · have h := itp h zc46
            refine ev_t (c := x22 = 0) ((d + 6, 0, 0, 38, 185, [.val (.ref 1088), .val (.int p1), .val (.int x18), .val (.int x20)], [], (126, 120, L, [Y, T, HA, HB, RA, RB, ST, NS, I0, I1, I2, BO, FI, RG, GU, PU, MA, MN_21, MS, OT, SC], [r0, r1, r2, r3, w, r5, r6, r7, r8], Lg))) ((d + 6, 0, 0, 38, 168, [.val (.ref 1088), .val (.int p1), .val (.int x18), .val (.int x20)], [], (126, 120, L, [Y, T, HA, HB, RA, RB, ST, NS, I0, I1, I2, BO, FI, RG, GU, PU, MA, MN_21, MS, OT, SC], [r0, r1, r2, r3, w, r5, r6, r7, r8], Lg))) 1 zc46 ?_ (fun n => Eq.refl _)
            have ze47 := Option.some.inj h
            subst ze47
            exact ev_rete 2 ho (fun n => Eq.refl _)
          · have h := itn h zc46
            refine ev_f (c := x22 = 0) ((d + 6, 0, 0, 38, 185, [.val (.ref 1088), .val (.int p1), .val (.int x18), .val (.int x20)], [], (126, 120, L, [Y, T, HA, HB, RA, RB, ST, NS, I0, I1, I2, BO, FI, RG, GU, PU, MA, MN_21, MS, OT, SC], [r0, r1, r2, r3, w, r5, r6, r7, r8], Lg))) ((d + 6, 0, 0, 38, 168, [.val (.ref 1088), .val (.int p1), .val (.int x18), .val (.int x20)], [], (126, 120, L, [Y, T, HA, HB, RA, RB, ST, NS, I0, I1, I2, BO, FI, RG, GU, PU, MA, MN_21, MS, OT, SC], [r0, r1, r2, r3, w, r5, r6, r7, r8], Lg))) 1 zc46 ?_ (fun n => Eq.refl _)
            obtain ⟨x23, zh48, h⟩ := bnd h
            refine ev_opt (fun x23 => (d + 6, 0, 0, 38, 180, [.val (.ref 1088), .val (.int p1), .val (.int x18), .val (.int x20)], [.int x23, .int ((6 * x18) + 2), .ref 1155], (126, 120, L, [Y, T, HA, HB, RA, RB, ST, NS, I0, I1, I2, BO, FI, RG, GU, PU, MA, MN_21, MS, OT, SC], [r0, r1, r2, r3, w, r5, r6, r7, r8], Lg))) 9 zh48 ?_ (fun n => Eq.refl _)
            obtain ⟨j24, zh49, h⟩ := bnd h
            refine ev_opt (fun j24 => (d + 6, 0, 0, 38, 185, [.val (.ref 1088), .val (.int p1), .val (.int x18), .val (.int x20)], [], (126, 120, L, [Y, T, HA, HB, RA, RB, ST, NS, I0, I1, I2, BO, FI, RG, GU, PU, MA, (u2 MN_21 3 j24 (x23 ||| (a_shl 1 x20))), MS, OT, SC], [r0, r1, r2, r3, w, r5, r6, r7, r8], Lg))) 5 zh49 ?_ (fun n => Eq.refl _)
            have ze50 := Option.some.inj h
            subst ze50
            exact ev_rete 2 ho (fun n => Eq.refl _)
      · have h := itn h zc9
        refine ev_f (c := p1 ≠ x3) ((d + 6, 0, 0, 38, 135, [.val (.ref 1088), .val (.int p1), .val a_unk, .val a_unk], [], (126, 120, L, [Y, T, HA, HB, RA, RB, ST, NS, I0, I1, I2, BO, FI, RG, GU, PU, MA, MN, MS, OT, SC], [r0, r1, r2, r3, w, r5, r6, r7, r8], Lg))) ((d + 6, 0, 0, 38, 70, [.val (.ref 1088), .val (.int p1), .val a_unk, .val a_unk], [], (126, 120, L, [Y, T, HA, HB, RA, RB, ST, NS, I0, I1, I2, BO, FI, RG, GU, PU, MA, MN, MS, OT, SC], [r0, r1, r2, r3, w, r5, r6, r7, r8], Lg))) 1 zc9 ?_ (fun n => Eq.refl _)
        obtain ⟨⟨x25, MN_26⟩, zh51, h⟩ := bnd h
        have ze52 := R_f_M_readNumber_0 (d + 4) Y T HA HB RA RB ST NS I0 I1 I2 BO FI RG GU PU MA MN MS OT SC r0 r1 r2 r3 w r5 r6 r7 r8 L Lg 0 9 zh51
        refine ev_call (fun v μ => (d + 6, 0, 0, 38, 87, [.val (.ref 1088), .val (.int p1), .val a_unk, .val a_unk], v.toList ++ [.int (3 * (MN 0 20)), .ref 1154], μ)) 10 ze52 ?_ (fun n => Eq.refl _)
        obtain ⟨j27, zh53, h⟩ := bnd h
        refine ev_opt (fun j27 => (d + 6, 0, 0, 38, 88, [.val (.ref 1088), .val (.int p1), .val a_unk, .val a_unk], [], (126, 120, L, [Y, T, HA, HB, RA, RB, ST, NS, I0, I1, I2, BO, FI, RG, GU, PU, MA, (u2 MN_26 2 j27 x25), MS, OT, SC], [r0, r1, r2, r3, w, r5, r6, r7, r8], Lg))) 1 zh53 ?_ (fun n => Eq.refl _)
        obtain ⟨⟨x28, MN_29⟩, zh54, h⟩ := bnd h
        have ze55 := R_f_M_readNumber_0 (d + 4) Y T HA HB RA RB ST NS I0 I1 I2 BO FI RG GU PU MA (u2 MN_26 2 j27 x25) MS OT SC r0 r1 r2 r3 w r5 r6 r7 r8 L Lg 0 9 zh54
        refine ev_call (fun v μ => (d + 6, 0, 0, 38, 107, [.val (.ref 1088), .val (.int p1), .val a_unk, .val a_unk], v.toList ++ [.int ((3 * ((u2 MN_26 2 j27 x25) 0 20)) + 1), .ref 1154], μ)) 12 ze55 ?_ (fun n => Eq.refl _)
        obtain ⟨j30, zh56, h⟩ := bnd h
        refine ev_opt (fun j30 => (d + 6, 0, 0, 38, 108, [.val (.ref 1088), .val (.int p1), .val a_unk, .val a_unk], [], (126, 120, L, [Y, T, HA, HB, RA, RB, ST, NS, I0, I1, I2, BO, FI, RG, GU, PU, MA, (u2 MN_29 2 j30 x28), MS, OT, SC], [r0, r1, r2, r3, w, r5, r6, r7, r8], Lg))) 1 zh56 ?_ (fun n => Eq.refl _)
        obtain ⟨j31, zh57, h⟩ := bnd h
        refine ev_opt (fun j31 => (d + 6, 0, 0, 38, 122, [.val (.ref 1088), .val (.int p1), .val a_unk, .val a_unk], [], (126, 120, L, [Y, T, HA, HB, RA, RB, ST, NS, I0, I1, I2, BO, FI, RG, GU, PU, MA, (u2 (u2 MN_29 2 j30 x28) 2 j31 0), MS, OT, SC], [r0, r1, r2, r3, w, r5, r6, r7, r8], Lg))) 10 zh57 ?_ (fun n => Eq.refl _)
        have ze58 := Option.some.inj h
        subst ze58
        exact ev_rete 8 ho (fun n => Eq.refl _)
    · have h := itn h zc6
      refine ev_f (c := p1 ≠ x2) ((d + 6, 0, 0, 38, 61, [.val (.ref 1088), .val (.int p1), .val a_unk, .val a_unk], [], (126, 120, L, [Y, T, HA, HB, RA, RB, ST, NS, I0, I1, I2, BO, FI, RG, GU, PU, MA, MN, MS, OT, SC], [r0, r1, r2, r3, w, r5, r6, r7, r8], Lg))) ((d + 6, 0, 0, 38, 32, [.val (.ref 1088), .val (.int p1), .val a_unk, .val a_unk], [], (126, 120, L, [Y, T, HA, HB, RA, RB, ST, NS, I0, I1, I2, BO, FI, RG, GU, PU, MA, MN, MS, OT, SC], [r0, r1, r2, r3, w, r5, r6, r7, r8], Lg))) 1 zc6 ?_ (fun n => Eq.refl _)
      obtain ⟨⟨x32, MN_33⟩, zh59, h⟩ := bnd h
      have ze60 := R_f_M_readNumber_0 (d + 4) Y T HA HB RA RB ST NS I0 I1 I2 BO FI RG GU PU MA MN MS OT SC r0 r1 r2 r3 w r5 r6 r7 r8 L Lg 0 20 zh59
      refine ev_call (fun v μ => (d + 6, 0, 0, 38, 47, [.val (.ref 1088), .val (.int p1), .val a_unk, .val a_unk], v.toList ++ [.int (MN 0 19), .ref 1153], μ)) 8 ze60 ?_ (fun n => Eq.refl _)
      obtain ⟨j34, zh61, h⟩ := bnd h
      refine ev_opt (fun j34 => (d + 6, 0, 0, 38, 48, [.val (.ref 1088), .val (.int p1), .val a_unk, .val a_unk], [], (126, 120, L, [Y, T, HA, HB, RA, RB, ST, NS, I0, I1, I2, BO, FI, RG, GU, PU, MA, (u2 MN_33 1 j34 x32), MS, OT, SC], [r0, r1, r2, r3, w, r5, r6, r7, r8], Lg))) 1 zh61 ?_ (fun n => Eq.refl _)
      have ze62 := Option.some.inj h
      subst ze62
      exact ev_rete 8 ho (fun n => Eq.refl _)
  · have h := itn h zc3
    refine ev_f (c := p1 ≠ x1) ((d + 6, 0, 0, 38, 23, [.val (.ref 1088), .val (.int p1), .val a_unk, .val a_unk], [], (126, 120, L, [Y, T, HA, HB, RA, RB, ST, NS, I0, I1, I2, BO, FI, RG, GU, PU, MA, MN, MS, OT, SC], [r0, r1, r2, r3, w, r5, r6, r7, r8], Lg))) ((d + 6, 0, 0, 38, 9, [.val (.ref 1088), .val (.int p1), .val a_unk, .val a_unk], [], (126, 120, L, [Y, T, HA, HB, RA, RB, ST, NS, I0, I1, I2, BO, FI, RG, GU, PU, MA, MN, MS, OT, SC], [r0, r1, r2, r3, w, r5, r6, r7, r8], Lg))) 1 zc3 ?_ (fun n => Eq.refl _)
    obtain ⟨⟨x35, MN_36⟩, zh63, h⟩ := bnd h
    have ze64 := R_f_M_readNumber_0 (d + 4) Y T HA HB RA RB ST NS I0 I1 I2 BO FI RG GU PU MA MN MS OT SC r0 r1 r2 r3 w r5 r6 r7 r8 L Lg 1 10 zh63
    refine ev_call (fun v μ => (d + 6, 0, 0, 38, 17, [.val (.ref 1088), .val (.int p1), .val a_unk, .val a_unk], v.toList ++ [.ref 1088], μ)) 5 ze64 ?_ (fun n => Eq.refl _)
    have ze65 := Option.some.inj h
    subst ze65
    exact ev_rete 3 ho (fun n => Eq.refl _)
set_option maxRecDepth 100000 in
set_option maxHeartbeats 4000000 in
theorem R_f_M_isClause_0 (d : Nat) (Y T HA HB RA RB ST NS I0 I1 I2 BO FI RG GU PU MA MN MS OT SC : Nat → Nat → Int32) (r0 r1 r2 r3 w r5 r6 r7 r8 : Nat) (L : Nat) (Lg : Int64) (p0 : Int32) {r : Int32} (h : f_M_isClause p0 = some r) : Ev (d + 5, 0, 0, 39, 0, [.val (.int p0)], [], (126, 120, L, [Y, T, HA, HB, RA, RB, ST, NS, I0, I1, I2, BO, FI, RG, GU, PU, MA, MN, MS, OT, SC], [r0, r1, r2, r3, w, r5, r6, r7, r8], Lg)) ((0, some (.int r), (126, 120, L, [Y, T, HA, HB, RA, RB, ST, NS, I0, I1, I2, BO, FI, RG, GU, PU, MA, MN, MS, OT, SC], [r0, r1, r2, r3, w, r5, r6, r7, r8], Lg)) : AOut) := by
  suffices key : ∀ o : AOut, ((0, some (.int r), (126, 120, L, [Y, T, HA, HB, RA, RB, ST, NS, I0, I1, I2, BO, FI, RG, GU, PU, MA, MN, MS, OT, SC], [r0, r1, r2, r3, w, r5, r6, r7, r8], Lg)) : AOut) = o → Ev (d + 5, 0, 0, 39, 0, [.val (.int p0)], [], (126, 120, L, [Y, T, HA, HB, RA, RB, ST, NS, I0, I1, I2, BO, FI, RG, GU, PU, MA, MN, MS, OT, SC], [r0, r1, r2, r3, w, r5, r6, r7, r8], Lg)) o from key _ rfl
  intro o ho
  obtain ⟨x1, zh1, h⟩ := bnd h
  have ze2 := R_f_M_of_0 (d + 0) Y T HA HB RA RB ST NS I0 I1 I2 BO FI RG GU PU MA MN MS OT SC r0 r1 r2 r3 w r5 r6 r7 r8 L Lg 2650 zh1
  refine ev_call (fun v μ => (d + 5, 0, 0, 39, 6, [.val (.int p0)], v.toList ++ [.int p0], μ)) 3 ze2 ?_ (fun n => Eq.refl _)
  by_cases zc3 : p0 = x1
  · have h := itp h zc3
    refine ev_t (c := p0 = x1) ((d + 5, 0, 0, 39, 90, [.val (.int p0)], [], (126, 120, L, [Y, T, HA, HB, RA, RB, ST, NS, I0, I1, I2, BO, FI, RG, GU, PU, MA, MN, MS, OT, SC], [r0, r1, r2, r3, w, r5, r6, r7, r8], Lg))) ((d + 5, 0, 0, 39, 9, [.val (.int p0)], [], (126, 120, L, [Y, T, HA, HB, RA, RB, ST, NS, I0, I1, I2, BO, FI, RG, GU, PU, MA, MN, MS, OT, SC], [r0, r1, r2, r3, w, r5, r6, r7, r8], Lg))) 1 zc3 ?_ (fun n => Eq.refl _)
    have ze4 := Option.some.inj h
    subst ze4
    exact ev_rete 3 ho (fun n => Eq.refl _)
  · have h := itn h zc3
    refine ev_f (c := p0 = x1) ((d + 5, 0, 0, 39, 90, [.val (.int p0)], [], (126, 120, L, [Y, T, HA, HB, RA, RB, ST, NS, I0, I1, I2, BO, FI, RG, GU, PU, MA, MN, MS, OT, SC], [r0, r1, r2, r3, w, r5, r6, r7, r8], Lg))) ((d + 5, 0, 0, 39, 9, [.val (.int p0)], [], (126, 120, L, [Y, T, HA, HB, RA, RB, ST, NS, I0, I1, I2, BO, FI, RG, GU, PU, MA, MN, MS, OT, SC], [r0, r1, r2, r3, w, r5, r6, r7, r8], Lg))) 1 zc3 ?_ (fun n => Eq.refl _)
    obtain ⟨x2, zh5, h⟩ := bnd h
    have ze6 := R_f_M_of_0 (d + 0) Y T HA HB RA RB ST NS I0 I1 I2 BO FI RG GU PU MA MN MS OT SC r0 r1 r2 r3 w r5 r6 r7 r8 L Lg 2651 zh5
    refine ev_call (fun v μ => (d + 5, 0, 0, 39, 15, [.val (.int p0)], v.toList ++ [.int p0], μ)) 3 ze6 ?_ (fun n => Eq.refl _)
    by_cases zc7 : p0 = x2
    · have h := itp h zc7
      refine ev_t (c := p0 = x2) ((d + 5, 0, 0, 39, 90, [.val (.int p0)], [], (126, 120, L, [Y, T, HA, HB, RA, RB, ST, NS, I0, I1, I2, BO, FI, RG, GU, PU, MA, MN, MS, OT, SC], [r0, r1, r2, r3, w, r5, r6, r7, r8], Lg))) ((d + 5, 0, 0, 39, 18, [.val (.int p0)], [], (126, 120, L, [Y, T, HA, HB, RA, RB, ST, NS, I0, I1, I2, BO, FI, RG, GU, PU, MA, MN, MS, OT, SC], [r0, r1, r2, r3, w, r5, r6, r7, r8], Lg))) 1 zc7 ?_ (fun n => Eq.refl _)
      have ze8 := Option.some.inj h
      subst ze8
      exact ev_rete 3 ho (fun n => Eq.refl _)
    · have h := itn h zc7
      refine ev_f (c := p0 = x2) ((d + 5, 0, 0, 39, 90, [.val (.int p0)], [], (126, 120, L, [Y, T, HA, HB, RA, RB, ST, NS, I0, I1, I2, BO, FI, RG, GU, PU, MA, MN, MS, OT, SC], [r0, r1, r2, r3, w, r5, r6, r7, r8], Lg))) ((d + 5, 0, 0, 39, 18, [.val (.int p0)], [], (126, 120, L, [Y, T, HA, HB, RA, RB, ST, NS, I0, I1, I2, BO, FI, RG, GU, PU, MA, MN, MS, OT, SC], [r0, r1, r2, r3, w, r5, r6, r7, r8], Lg))) 1 zc7 ?_ (fun n => Eq.refl _)
      obtain ⟨x3, zh9, h⟩ := bnd h
      have ze10 := R_f_M_of_0 (d + 0) Y T HA HB RA RB ST NS I0 I1 I2 BO FI RG GU PU MA MN MS OT SC r0 r1 r2 r3 w r5 r6 r7 r8 L Lg 2652 zh9
      refine ev_call (fun v μ => (d + 5, 0, 0, 39, 24, [.val (.int p0)], v.toList ++ [.int p0], μ)) 3 ze10 ?_ (fun n => Eq.refl _)
      by_cases zc11 : p0 = x3
      · have h := itp h zc11
        refine ev_t (c := p0 = x3) ((d + 5, 0, 0, 39, 90, [.val (.int p0)], [], (126, 120, L, [Y, T, HA, HB, RA, RB, ST, NS, I0, I1, I2, BO, FI, RG, GU, PU, MA, MN, MS, OT, SC], [r0, r1, r2, r3, w, r5, r6, r7, r8], Lg))) ((d + 5, 0, 0, 39, 27, [.val (.int p0)], [], (126, 120, L, [Y, T, HA, HB, RA, RB, ST, NS, I0, I1, I2, BO, FI, RG, GU, PU, MA, MN, MS, OT, SC], [r0, r1, r2, r3, w, r5, r6, r7, r8], Lg))) 1 zc11 ?_ (fun n => Eq.refl _)
        have ze12 := Option.some.inj h
        subst ze12
        exact ev_rete 3 ho (fun n => Eq.refl _)
      · have h := itn h zc11
        refine ev_f (c := p0 = x3) ((d + 5, 0, 0, 39, 90, [.val (.int p0)], [], (126, 120, L, [Y, T, HA, HB, RA, RB, ST, NS, I0, I1, I2, BO, FI, RG, GU, PU, MA, MN, MS, OT, SC], [r0, r1, r2, r3, w, r5, r6, r7, r8], Lg))) ((d + 5, 0, 0, 39, 27, [.val (.int p0)], [], (126, 120, L, [Y, T, HA, HB, RA, RB, ST, NS, I0, I1, I2, BO, FI, RG, GU, PU, MA, MN, MS, OT, SC], [r0, r1, r2, r3, w, r5, r6, r7, r8], Lg))) 1 zc11 ?_ (fun n => Eq.refl _)
        obtain ⟨x4, zh13, h⟩ := bnd h
        have ze14 := R_f_M_of_0 (d + 0) Y T HA HB RA RB ST NS I0 I1 I2 BO FI RG GU PU MA MN MS OT SC r0 r1 r2 r3 w r5 r6 r7 r8 L Lg 2647 zh13
        refine ev_call (fun v μ => (d + 5, 0, 0, 39, 33, [.val (.int p0)], v.toList ++ [.int p0], μ)) 3 ze14 ?_ (fun n => Eq.refl _)
        by_cases zc15 : p0 = x4
        · have h := itp h zc15
          refine ev_t (c := p0 = x4) ((d + 5, 0, 0, 39, 90, [.val (.int p0)], [], (126, 120, L, [Y, T, HA, HB, RA, RB, ST, NS, I0, I1, I2, BO, FI, RG, GU, PU, MA, MN, MS, OT, SC], [r0, r1, r2, r3, w, r5, r6, r7, r8], Lg))) ((d + 5, 0, 0, 39, 36, [.val (.int p0)], [], (126, 120, L, [Y, T, HA, HB, RA, RB, ST, NS, I0, I1, I2, BO, FI, RG, GU, PU, MA, MN, MS, OT, SC], [r0, r1, r2, r3, w, r5, r6, r7, r8], Lg))) 1 zc15 ?_ (fun n => Eq.refl _)
          have ze16 := Option.some.inj h
          subst ze16
          exact ev_rete 3 ho (fun n => Eq.refl _)
        · have h := itn h zc15
          refine ev_f (c := p0 = x4) ((d + 5, 0, 0, 39, 90, [.val (.int p0)], [], (126, 120, L, [Y, T, HA, HB, RA, RB, ST, NS, I0, I1, I2, BO, FI, RG, GU, PU, MA, MN, MS, OT, SC], [r0, r1, r2, r3, w, r5, r6, r7, r8], Lg))) ((d + 5, 0, 0, 39, 36, [.val (.int p0)], [], (126, 120, L, [Y, T, HA, HB, RA, RB, ST, NS, I0, I1, I2, BO, FI, RG, GU, PU, MA, MN, MS, OT, SC], [r0, r1, r2, r3, w, r5, r6, r7, r8], Lg))) 1 zc15 ?_ (fun n => Eq.refl _)
          obtain ⟨x5, zh17, h⟩ := bnd h
          have ze18 := R_f_M_of_0 (d + 0) Y T HA HB RA RB ST NS I0 I1 I2 BO FI RG GU PU MA MN MS OT SC r0 r1 r2 r3 w r5 r6 r7 r8 L Lg 2649 zh17
          refine ev_call (fun v μ => (d + 5, 0, 0, 39, 42, [.val (.int p0)], v.toList ++ [.int p0], μ)) 3 ze18 ?_ (fun n => Eq.refl _)
          by_cases zc19 : p0 = x5
          · have h := itp h zc19
            refine ev_t (c := p0 = x5) ((d + 5, 0, 0, 39, 90, [.val (.int p0)], [], (126, 120, L, [Y, T, HA, HB, RA, RB, ST, NS, I0, I1, I2, BO, FI, RG, GU, PU, MA, MN, MS, OT, SC], [r0, r1, r2, r3, w, r5, r6, r7, r8], Lg))) ((d + 5, 0, 0, 39, 45, [.val (.int p0)], [], (126, 120, L, [Y, T, HA, HB, RA, RB, ST, NS, I0, I1, I2, BO, FI, RG, GU, PU, MA, MN, MS, OT, SC], [r0, r1, r2, r3, w, r5, r6, r7, r8], Lg))) 1 zc19 ?_ (fun n => Eq.refl _)
            have ze20 := Option.some.inj h
            subst ze20
            exact ev_rete 3 ho (fun n => Eq.refl _)
          · have h := itn h zc19
            refine ev_f (c := p0 = x5) ((d + 5, 0, 0, 39, 90, [.val (.int p0)], [], (126, 120, L, [Y, T, HA, HB, RA, RB, ST, NS, I0, I1, I2, BO, FI, RG, GU, PU, MA, MN, MS, OT, SC], [r0, r1, r2, r3, w, r5, r6, r7, r8], Lg))) ((d + 5, 0, 0, 39, 45, [.val (.int p0)], [], (126, 120, L, [Y, T, HA, HB, RA, RB, ST, NS, I0, I1, I2, BO, FI, RG, GU, PU, MA, MN, MS, OT, SC], [r0, r1, r2, r3, w, r5, r6, r7, r8], Lg))) 1 zc19 ?_ (fun n => Eq.refl _)
            obtain ⟨x6, zh21, h⟩ := bnd h
            have ze22 := R_f_M_of_0 (d + 0) Y T HA HB RA RB ST NS I0 I1 I2 BO FI RG GU PU MA MN MS OT SC r0 r1 r2 r3 w r5 r6 r7 r8 L Lg 2653 zh21
            refine ev_call (fun v μ => (d + 5, 0, 0, 39, 51, [.val (.int p0)], v.toList ++ [.int p0], μ)) 3 ze22 ?_ (fun n => Eq.refl _)
            by_cases zc23 : p0 = x6
            · have h := itp h zc23
              refine ev_t (c := p0 = x6) ((d + 5, 0, 0, 39, 90, [.val (.int p0)], [], (126, 120, L, [Y, T, HA, HB, RA, RB, ST, NS, I0, I1, I2, BO, FI, RG, GU, PU, MA, MN, MS, OT, SC], [r0, r1, r2, r3, w, r5, r6, r7, r8], Lg))) ((d + 5, 0, 0, 39, 54, [.val (.int p0)], [], (126, 120, L, [Y, T, HA, HB, RA, RB, ST, NS, I0, I1, I2, BO, FI, RG, GU, PU, MA, MN, MS, OT, SC], [r0, r1, r2, r3, w, r5, r6, r7, r8], Lg))) 1 zc23 ?_ (fun n => Eq.refl _)
              have ze24 := Option.some.inj h
              subst ze24
              exact ev_rete 3 ho (fun n => Eq.refl _)
            · have h := itn h zc23
              refine ev_f (c := p0 = x6) ((d + 5, 0, 0, 39, 90, [.val (.int p0)], [], (126, 120, L, [Y, T, HA, HB, RA, RB, ST, NS, I0, I1, I2, BO, FI, RG, GU, PU, MA, MN, MS, OT, SC], [r0, r1, r2, r3, w, r5, r6, r7, r8], Lg))) ((d + 5, 0, 0, 39, 54, [.val (.int p0)], [], (126, 120, L, [Y, T, HA, HB, RA, RB, ST, NS, I0, I1, I2, BO, FI, RG, GU, PU, MA, MN, MS, OT, SC], [r0, r1, r2, r3, w, r5, r6, r7, r8], Lg))) 1 zc23 ?_ (fun n => Eq.refl _)
              obtain ⟨x7, zh25, h⟩ := bnd h
              have ze26 := R_f_M_of_0 (d + 0) Y T HA HB RA RB ST NS I0 I1 I2 BO FI RG GU PU MA MN MS OT SC r0 r1 r2 r3 w r5 r6 r7 r8 L Lg 2648 zh25
              refine ev_call (fun v μ => (d + 5, 0, 0, 39, 60, [.val (.int p0)], v.toList ++ [.int p0], μ)) 3 ze26 ?_ (fun n => Eq.refl _)
              by_cases zc27 : p0 = x7
              · have h := itp h zc27
                refine ev_t (c := p0 = x7) ((d + 5, 0, 0, 39, 90, [.val (.int p0)], [], (126, 120, L, [Y, T, HA, HB, RA, RB, ST, NS, I0, I1, I2, BO, FI, RG, GU, PU, MA, MN, MS, OT, SC], [r0, r1, r2, r3, w, r5, r6, r7, r8], Lg))) ((d + 5, 0, 0, 39, 63, [.val (.int p0)], [], (126, 120, L, [Y, T, HA, HB, RA, RB, ST, NS, I0, I1, I2, BO, FI, RG, GU, PU, MA, MN, MS, OT, SC], [r0, r1, r2, r3, w, r5, r6, r7, r8], Lg))) 1 zc27 ?_ (fun n => Eq.refl _)
                have ze28 := Option.some.inj h
                subst ze28
                exact ev_rete 3 ho (fun n => Eq.refl _)
              · have h := itn h zc27
                refine ev_f (c := p0 = x7) ((d + 5, 0, 0, 39, 90, [.val (.int p0)], [], (126, 120, L, [Y, T, HA, HB, RA, RB, ST, NS, I0, I1, I2, BO, FI, RG, GU, PU, MA, MN, MS, OT, SC], [r0, r1, r2, r3, w, r5, r6, r7, r8], Lg))) ((d + 5, 0, 0, 39, 63, [.val (.int p0)], [], (126, 120, L, [Y, T, HA, HB, RA, RB, ST, NS, I0, I1, I2, BO, FI, RG, GU, PU, MA, MN, MS, OT, SC], [r0, r1, r2, r3, w, r5, r6, r7, r8], Lg))) 1 zc27 ?_ (fun n => Eq.refl _)
                obtain ⟨x8, zh29, h⟩ := bnd h
                have ze30 := R_f_M_of_0 (d + 0) Y T HA HB RA RB ST NS I0 I1 I2 BO FI RG GU PU MA MN MS OT SC r0 r1 r2 r3 w r5 r6 r7 r8 L Lg 2654 zh29
                refine ev_call (fun v μ => (d + 5, 0, 0, 39, 69, [.val (.int p0)], v.toList ++ [.int p0], μ)) 3 ze30 ?_ (fun n => Eq.refl _)
                by_cases zc31 : p0 = x8
                · have h := itp h zc31
                  refine ev_t (c := p0 = x8) ((d + 5, 0, 0, 39, 90, [.val (.int p0)], [], (126, 120, L, [Y, T, HA, HB, RA, RB, ST, NS, I0, I1, I2, BO, FI, RG, GU, PU, MA, MN, MS, OT, SC], [r0, r1, r2, r3, w, r5, r6, r7, r8], Lg))) ((d + 5, 0, 0, 39, 72, [.val (.int p0)], [], (126, 120, L, [Y, T, HA, HB, RA, RB, ST, NS, I0, I1, I2, BO, FI, RG, GU, PU, MA, MN, MS, OT, SC], [r0, r1, r2, r3, w, r5, r6, r7, r8], Lg))) 1 zc31 ?_ (fun n => Eq.refl _)
                  have ze32 := Option.some.inj h
                  subst ze32
                  exact ev_rete 3 ho (fun n => Eq.refl _)
                · have h := itn h zc31
                  refine ev_f (c := p0 = x8) ((d + 5, 0, 0, 39, 90, [.val (.int p0)], [], (126, 120, L, [Y, T, HA, HB, RA, RB, ST, NS, I0, I1, I2, BO, FI, RG, GU, PU, MA, MN, MS, OT, SC], [r0, r1, r2, r3, w, r5, r6, r7, r8], Lg))) ((d + 5, 0, 0, 39, 72, [.val (.int p0)], [], (126, 120, L, [Y, T, HA, HB, RA, RB, ST, NS, I0, I1, I2, BO, FI, RG, GU, PU, MA, MN, MS, OT, SC], [r0, r1, r2, r3, w, r5, r6, r7, r8], Lg))) 1 zc31 ?_ (fun n => Eq.refl _)
                  obtain ⟨x9, zh33, h⟩ := bnd h
                  have ze34 := R_f_M_of_0 (d + 0) Y T HA HB RA RB ST NS I0 I1 I2 BO FI RG GU PU MA MN MS OT SC r0 r1 r2 r3 w r5 r6 r7 r8 L Lg 2655 zh33
                  refine ev_call (fun v μ => (d + 5, 0, 0, 39, 78, [.val (.int p0)], v.toList ++ [.int p0], μ)) 3 ze34 ?_ (fun n => Eq.refl _)
                  by_cases zc35 : p0 = x9
                  · have h := itp h zc35
                    refine ev_t (c := p0 = x9) ((d + 5, 0, 0, 39, 90, [.val (.int p0)], [], (126, 120, L, [Y, T, HA, HB, RA, RB, ST, NS, I0, I1, I2, BO, FI, RG, GU, PU, MA, MN, MS, OT, SC], [r0, r1, r2, r3, w, r5, r6, r7, r8], Lg))) ((d + 5, 0, 0, 39, 81, [.val (.int p0)], [], (126, 120, L, [Y, T, HA, HB, RA, RB, ST, NS, I0, I1, I2, BO, FI, RG, GU, PU, MA, MN, MS, OT, SC], [r0, r1, r2, r3, w, r5, r6, r7, r8], Lg))) 1 zc35 ?_ (fun n => Eq.refl _)
                    have ze36 := Option.some.inj h
                    subst ze36
                    exact ev_rete 3 ho (fun n => Eq.refl _)
                  · have h := itn h zc35
                    refine ev_f (c := p0 = x9) ((d + 5, 0, 0, 39, 90, [.val (.int p0)], [], (126, 120, L, [Y, T, HA, HB, RA, RB, ST, NS, I0, I1, I2, BO, FI, RG, GU, PU, MA, MN, MS, OT, SC], [r0, r1, r2, r3, w, r5, r6, r7, r8], Lg))) ((d + 5, 0, 0, 39, 81, [.val (.int p0)], [], (126, 120, L, [Y, T, HA, HB, RA, RB, ST, NS, I0, I1, I2, BO, FI, RG, GU, PU, MA, MN, MS, OT, SC], [r0, r1, r2, r3, w, r5, r6, r7, r8], Lg))) 1 zc35 ?_ (fun n => Eq.refl _)
                    obtain ⟨x10, zh37, h⟩ := bnd h
                    have ze38 := R_f_M_of_0 (d + 0) Y T HA HB RA RB ST NS I0 I1 I2 BO FI RG GU PU MA MN MS OT SC r0 r1 r2 r3 w r5 r6 r7 r8 L Lg 2656 zh37
                    refine ev_call (fun v μ => (d + 5, 0, 0, 39, 87, [.val (.int p0)], v.toList ++ [.int p0], μ)) 3 ze38 ?_ (fun n => Eq.refl _)
                    by_cases zc39 : p0 ≠ x10
                    · have h := itp h zc39
                      refine ev_t (c := p0 ≠ x10) ((d + 5, 0, 0, 39, 94, [.val (.int p0)], [], (126, 120, L, [Y, T, HA, HB, RA, RB, ST, NS, I0, I1, I2, BO, FI, RG, GU, PU, MA, MN, MS, OT, SC], [r0, r1, r2, r3, w, r5, r6, r7, r8], Lg))) ((d + 5, 0, 0, 39, 90, [.val (.int p0)], [], (126, 120, L, [Y, T, HA, HB, RA, RB, ST, NS, I0, I1, I2, BO, FI, RG, GU, PU, MA, MN, MS, OT, SC], [r0, r1, r2, r3, w, r5, r6, r7, r8], Lg))) 1 zc39 ?_ (fun n => Eq.refl _)
                      have ze40 := Option.some.inj h
                      subst ze40
                      exact ev_rete 2 ho (fun n => Eq.refl _)
                    · have h := itn h zc39
                      refine ev_f (c := p0 ≠ x10) ((d + 5, 0, 0, 39, 94, [.val (.int p0)], [], (126, 120, L, [Y, T, HA, HB, RA, RB, ST, NS, I0, I1, I2, BO, FI, RG, GU, PU, MA, MN, MS, OT, SC], [r0, r1, r2, r3, w, r5, r6, r7, r8], Lg))) ((d + 5, 0, 0, 39, 90, [.val (.int p0)], [], (126, 120, L, [Y, T, HA, HB, RA, RB, ST, NS, I0, I1, I2, BO, FI, RG, GU, PU, MA, MN, MS, OT, SC], [r0, r1, r2, r3, w, r5, r6, r7, r8], Lg))) 1 zc39 ?_ (fun n => Eq.refl _)
                      have ze41 := Option.some.inj h
                      subst ze41
                      exact ev_rete 3 ho (fun n => Eq.refl _)
set_option maxRecDepth 100000 in
set_option maxHeartbeats 4000000 in
theorem R_f_M_house_0 (d : Nat) (Y T HA HB RA RB ST NS I0 I1 I2 BO FI RG GU PU MA MN MS OT SC : Nat → Nat → Int32) (r0 r1 r2 r3 w r5 r6 r7 r8 : Nat) (L : Nat) (Lg : Int64) (p1 : Int32) {r : Int32 × (Nat → Nat → Int32) × (Nat → Nat → Int32)} (h : f_M_house MA MN p1 = some r) : Ev (d + 7, 0, 0, 40, 0, [.val (.ref 1088), .val (.int p1), .val a_unk, .val a_unk], [], (126, 120, L, [Y, T, HA, HB, RA, RB, ST, NS, I0, I1, I2, BO, FI, RG, GU, PU, MA, MN, MS, OT, SC], [r0, r1, r2, r3, w, r5, r6, r7, r8], Lg)) ((0, some (.int r.1), (126, 120, L, [Y, T, HA, HB, RA, RB, ST, NS, I0, I1, I2, BO, FI, RG, GU, PU, r.2.1, r.2.2, MS, OT, SC], [r0, r1, r2, r3, w, r5, r6, r7, r8], Lg)) : AOut) := by
  suffices key : ∀ o : AOut, ((0, some (.int r.1), (126, 120, L, [Y, T, HA, HB, RA, RB, ST, NS, I0, I1, I2, BO, FI, RG, GU, PU, r.2.1, r.2.2, MS, OT, SC], [r0, r1, r2, r3, w, r5, r6, r7, r8], Lg)) : AOut) = o → Ev (d + 7, 0, 0, 40, 0, [.val (.ref 1088), .val (.int p1), .val a_unk, .val a_unk], [], (126, 120, L, [Y, T, HA, HB, RA, RB, ST, NS, I0, I1, I2, BO, FI, RG, GU, PU, MA, MN, MS, OT, SC], [r0, r1, r2, r3, w, r5, r6, r7, r8], Lg)) o from key _ rfl
  intro o ho
  obtain ⟨zt1, zh2, h⟩ := bnd h
  have zj3 : ∀ (v1 : Int32), v1 = zt1 → Ev (d + 7, 0, 0, 40, 23, [.val (.ref 1088), .val (.int p1), .val a_unk, .val a_unk], [.int v1, .ref 1088], (126, 120, L, [Y, T, HA, HB, RA, RB, ST, NS, I0, I1, I2, BO, FI, RG, GU, PU, (u2 MA 0 0 0), MN, MS, OT, SC], [r0, r1, r2, r3, w, r5, r6, r7, r8], Lg)) o := by
    intro v1 ze4
    subst ze4
    obtain ⟨⟨x2, MA_3⟩, zh5, h⟩ := bnd h
    have ze6 := R_f_M_may_0 (d + 6) Y T HA HB RA RB ST NS I0 I1 I2 BO FI RG GU PU (u2 MA 0 0 0) MN MS OT SC r0 r1 r2 r3 w r5 r6 r7 r8 L Lg v1 1 1 zh5
    refine ev_call (fun v μ => (d + 7, 0, 0, 40, 28, [.val (.ref 1088), .val (.int p1), .val a_unk, .val a_unk], v.toList ++ [], μ)) 3 ze6 ?_ (fun n => Eq.refl _)
    by_cases zc7 : x2 ≠ 0
    · have h := itp h zc7
      refine ev_t (c := x2 ≠ 0) ((d + 7, 0, 0, 40, 33, [.val (.ref 1088), .val (.int p1), .val a_unk, .val a_unk], [], (126, 120, L, [Y, T, HA, HB, RA, RB, ST, NS, I0, I1, I2, BO, FI, RG, GU, PU, MA_3, MN, MS, OT, SC], [r0, r1, r2, r3, w, r5, r6, r7, r8], Lg))) ((d + 7, 0, 0, 40, 31, [.val (.ref 1088), .val (.int p1), .val a_unk, .val a_unk], [], (126, 120, L, [Y, T, HA, HB, RA, RB, ST, NS, I0, I1, I2, BO, FI, RG, GU, PU, MA_3, MN, MS, OT, SC], [r0, r1, r2, r3, w, r5, r6, r7, r8], Lg))) 1 zc7 ?_ (fun n => Eq.refl _)
      obtain ⟨⟨MA_4, MN_5⟩, zh8, h⟩ := bnd h
      have ze9 := R_f_M_begins_0 (d + 6) Y T HA HB RA RB ST NS I0 I1 I2 BO FI RG GU PU MA_3 MN MS OT SC r0 r1 r2 r3 w r5 r6 r7 r8 L Lg p1 zh8
      refine ev_call (fun v μ => (d + 7, 0, 0, 40, 38, [.val (.ref 1088), .val (.int p1), .val a_unk, .val a_unk], v.toList ++ [], μ)) 3 ze9 ?_ (fun n => Eq.refl _)
      obtain ⟨MN_6, zh10, h⟩ := bnd h
      have ze11 := R_f_M_clears_0 (d + 6) Y T HA HB RA RB ST NS I0 I1 I2 BO FI RG GU PU MA_4 MN_5 MS OT SC r0 r1 r2 r3 w r5 r6 r7 r8 L Lg zh10
      refine ev_call (fun v μ => (d + 7, 0, 0, 40, 42, [.val (.ref 1088), .val (.int p1), .val a_unk, .val a_unk], v.toList ++ [], μ)) 2 ze11 ?_ (fun n => Eq.refl _)
      obtain ⟨MN_31, zh13, h⟩ := bnd h
      refine ev_b (C' := (d + 7, 0, 0, 40, 44, [.val (.ref 1088), .val (.int p1), .val (.int 0), .val a_unk], [], (126, 120, L, [Y, T, HA, HB, RA, RB, ST, NS, I0, I1, I2, BO, FI, RG, GU, PU, MA_4, MN_6, MS, OT, SC], [r0, r1, r2, r3, w, r5, r6, r7, r8], Lg))) 2 ?_ (fun n => Eq.refl _)
      refine ev_loop (δ := Value) (fun a j => (d + 7, 0, 0, 40, 44, [.val (.ref 1088), .val (.int p1), .val (.int a.1), .val j], [], (126, 120, L, [Y, T, HA, HB, RA, RB, ST, NS, I0, I1, I2, BO, FI, RG, GU, PU, MA_4, a.2, MS, OT, SC], [r0, r1, r2, r3, w, r5, r6, r7, r8], Lg))) (fun b => ∀ s29 : Value, ∀ s30 : Value, Ev (d + 7, 0, 0, 40, 223, [.val (.ref 1088), .val (.int p1), .val s29, .val s30], [], (126, 120, L, [Y, T, HA, HB, RA, RB, ST, NS, I0, I1, I2, BO, FI, RG, GU, PU, MA_4, b, MS, OT, SC], [r0, r1, r2, r3, w, r5, r6, r7, r8], Lg)) o) ?_ a_F (0, MN_6) MN_31 zh13 ?_ a_unk
      · rintro ⟨v7, MN_9⟩ zr17 zh16 zi14 zx15 s8
        obtain ⟨x10, zh18, zh16⟩ := bnd zh16
        have ze19 := R_f_M_fine_0 (d + 6) Y T HA HB RA RB ST NS I0 I1 I2 BO FI RG GU PU MA_4 MN_9 MS OT SC r0 r1 r2 r3 w r5 r6 r7 r8 L Lg zh18
        refine ev_call (fun v μ => (d + 7, 0, 0, 40, 48, [.val (.ref 1088), .val (.int p1), .val (.int v7), .val s8], v.toList ++ [], μ)) 2 ze19 ?_ (fun n => Eq.refl _)
        by_cases zc20 : x10 = 0
        · have zh16 := itp zh16 zc20
          refine ev_t (c := x10 = 0) ((d + 7, 0, 0, 40, 223, [.val (.ref 1088), .val (.int p1), .val (.int v7), .val s8], [], (126, 120, L, [Y, T, HA, HB, RA, RB, ST, NS, I0, I1, I2, BO, FI, RG, GU, PU, MA_4, MN_9, MS, OT, SC], [r0, r1, r2, r3, w, r5, r6, r7, r8], Lg))) ((d + 7, 0, 0, 40, 51, [.val (.ref 1088), .val (.int p1), .val (.int v7), .val s8], [], (126, 120, L, [Y, T, HA, HB, RA, RB, ST, NS, I0, I1, I2, BO, FI, RG, GU, PU, MA_4, MN_9, MS, OT, SC], [r0, r1, r2, r3, w, r5, r6, r7, r8], Lg))) 1 zc20 ?_ (fun n => Eq.refl _)
          exact ev_b 0 (zx15 _ (Option.some.inj zh16).symm (.int v7) s8) (fun n => Eq.refl _)
        · have zh16 := itn zh16 zc20
          refine ev_f (c := x10 = 0) ((d + 7, 0, 0, 40, 223, [.val (.ref 1088), .val (.int p1), .val (.int v7), .val s8], [], (126, 120, L, [Y, T, HA, HB, RA, RB, ST, NS, I0, I1, I2, BO, FI, RG, GU, PU, MA_4, MN_9, MS, OT, SC], [r0, r1, r2, r3, w, r5, r6, r7, r8], Lg))) ((d + 7, 0, 0, 40, 51, [.val (.ref 1088), .val (.int p1), .val (.int v7), .val s8], [], (126, 120, L, [Y, T, HA, HB, RA, RB, ST, NS, I0, I1, I2, BO, FI, RG, GU, PU, MA_4, MN_9, MS, OT, SC], [r0, r1, r2, r3, w, r5, r6, r7, r8], Lg))) 1 zc20 ?_ (fun n => Eq.refl _)
          obtain ⟨⟨x11, MN_12⟩, zh21, zh16⟩ := bnd zh16
          have ze22 := R_f_M_isMore_0 (d + 5) Y T HA HB RA RB ST NS I0 I1 I2 BO FI RG GU PU MA_4 MN_9 MS OT SC r0 r1 r2 r3 w r5 r6 r7 r8 L Lg zh21
          refine ev_call (fun v μ => (d + 7, 0, 0, 40, 55, [.val (.ref 1088), .val (.int p1), .val (.int v7), .val s8], v.toList ++ [], μ)) 2 ze22 ?_ (fun n => Eq.refl _)
          by_cases zc23 : x11 = 0
          · have zh16 := itp zh16 zc23
            refine ev_t (c := x11 = 0) ((d + 7, 0, 0, 40, 223, [.val (.ref 1088), .val (.int p1), .val (.int v7), .val s8], [], (126, 120, L, [Y, T, HA, HB, RA, RB, ST, NS, I0, I1, I2, BO, FI, RG, GU, PU, MA_4, MN_12, MS, OT, SC], [r0, r1, r2, r3, w, r5, r6, r7, r8], Lg))) ((d + 7, 0, 0, 40, 58, [.val (.ref 1088), .val (.int p1), .val (.int v7), .val s8], [], (126, 120, L, [Y, T, HA, HB, RA, RB, ST, NS, I0, I1, I2, BO, FI, RG, GU, PU, MA_4, MN_12, MS, OT, SC], [r0, r1, r2, r3, w, r5, r6, r7, r8], Lg))) 1 zc23 ?_ (fun n => Eq.refl _)
            exact ev_b 0 (zx15 _ (Option.some.inj zh16).symm (.int v7) s8) (fun n => Eq.refl _)
          · have zh16 := itn zh16 zc23
            refine ev_f (c := x11 = 0) ((d + 7, 0, 0, 40, 223, [.val (.ref 1088), .val (.int p1), .val (.int v7), .val s8], [], (126, 120, L, [Y, T, HA, HB, RA, RB, ST, NS, I0, I1, I2, BO, FI, RG, GU, PU, MA_4, MN_12, MS, OT, SC], [r0, r1, r2, r3, w, r5, r6, r7, r8], Lg))) ((d + 7, 0, 0, 40, 58, [.val (.ref 1088), .val (.int p1), .val (.int v7), .val s8], [], (126, 120, L, [Y, T, HA, HB, RA, RB, ST, NS, I0, I1, I2, BO, FI, RG, GU, PU, MA_4, MN_12, MS, OT, SC], [r0, r1, r2, r3, w, r5, r6, r7, r8], Lg))) 1 zc23 ?_ (fun n => Eq.refl _)
            obtain ⟨⟨x13, MN_14⟩, zh24, zh16⟩ := bnd zh16
            have ze25 := R_f_M_word_0 (d + 5) Y T HA HB RA RB ST NS I0 I1 I2 BO FI RG GU PU MA_4 MN_12 MS OT SC r0 r1 r2 r3 w r5 r6 r7 r8 L Lg zh24
            refine ev_call (fun v μ => (d + 7, 0, 0, 40, 62, [.val (.ref 1088), .val (.int p1), .val (.int v7), .val s8], v.toList ++ [], μ)) 2 ze25 ?_ (fun n => Eq.refl _)
            obtain ⟨x15, zh26, zh16⟩ := bnd zh16
            have ze27 := R_f_M_isClause_0 (d + 1) Y T HA HB RA RB ST NS I0 I1 I2 BO FI RG GU PU MA_4 MN_14 MS OT SC r0 r1 r2 r3 w r5 r6 r7 r8 L Lg x13 zh26
            refine ev_call (fun v μ => (d + 7, 0, 0, 40, 67, [.val (.ref 1088), .val (.int p1), .val (.int v7), .val (.int x13)], v.toList ++ [], μ)) 3 ze27 ?_ (fun n => Eq.refl _)
            obtain ⟨zt28, zh29, zh16⟩ := bnd zh16
            have zj30 : ∀ (MN_24 : (Nat → Nat → Int32)), MN_24 = zt28 → Ev (d + 7, 0, 0, 40, 192, [.val (.ref 1088), .val (.int p1), .val (.int v7), .val (.int x13)], [], (126, 120, L, [Y, T, HA, HB, RA, RB, ST, NS, I0, I1, I2, BO, FI, RG, GU, PU, MA_4, MN_24, MS, OT, SC], [r0, r1, r2, r3, w, r5, r6, r7, r8], Lg)) o := by
              intro MN_24 ze31
              subst ze31
              obtain ⟨x25, zh32, zh16⟩ := bnd zh16
              have ze33 := R_f_M_fine_0 (d + 6) Y T HA HB RA RB ST NS I0 I1 I2 BO FI RG GU PU MA_4 MN_24 MS OT SC r0 r1 r2 r3 w r5 r6 r7 r8 L Lg zh32
              refine ev_call (fun v μ => (d + 7, 0, 0, 40, 196, [.val (.ref 1088), .val (.int p1), .val (.int v7), .val (.int x13)], v.toList ++ [], μ)) 2 ze33 ?_ (fun n => Eq.refl _)
              by_cases zc34 : x25 ≠ 0
              · have zh16 := itp zh16 zc34
                refine ev_t (c := x25 ≠ 0) ((d + 7, 0, 0, 40, 202, [.val (.ref 1088), .val (.int p1), .val (.int v7), .val (.int x13)], [], (126, 120, L, [Y, T, HA, HB, RA, RB, ST, NS, I0, I1, I2, BO, FI, RG, GU, PU, MA_4, MN_24, MS, OT, SC], [r0, r1, r2, r3, w, r5, r6, r7, r8], Lg))) ((d + 7, 0, 0, 40, 199, [.val (.ref 1088), .val (.int p1), .val (.int v7), .val (.int x13)], [], (126, 120, L, [Y, T, HA, HB, RA, RB, ST, NS, I0, I1, I2, BO, FI, RG, GU, PU, MA_4, MN_24, MS, OT, SC], [r0, r1, r2, r3, w, r5, r6, r7, r8], Lg))) 1 zc34 ?_ (fun n => Eq.refl _)
                obtain ⟨MN_26, zh35, zh16⟩ := bnd zh16
                have ze36 := R_f_M_pass_0 (d + 5) Y T HA HB RA RB ST NS I0 I1 I2 BO FI RG GU PU MA_4 MN_24 MS OT SC r0 r1 r2 r3 w r5 r6 r7 r8 L Lg zh35
                refine ev_call (fun v μ => (d + 7, 0, 0, 40, 206, [.val (.ref 1088), .val (.int p1), .val (.int v7), .val (.int x13)], v.toList ++ [], μ)) 2 ze36 ?_ (fun n => Eq.refl _)
                obtain ⟨MN_27, zh37, zh16⟩ := bnd zh16
                have ze38 := R_f_M_readClause_0 (d + 0) Y T HA HB RA RB ST NS I0 I1 I2 BO FI RG GU PU MA_4 MN_26 MS OT SC r0 r1 r2 r3 w r5 r6 r7 r8 L Lg x13 zh37
                refine ev_call (fun v μ => (d + 7, 0, 0, 40, 211, [.val (.ref 1088), .val (.int p1), .val (.int v7), .val (.int x13)], v.toList ++ [], μ)) 3 ze38 ?_ (fun n => Eq.refl _)
                obtain ⟨MN_28, zh39, zh16⟩ := bnd zh16
                have ze40 := R_f_M_sign_0 (d + 5) Y T HA HB RA RB ST NS I0 I1 I2 BO FI RG GU PU MA_4 MN_27 MS OT SC r0 r1 r2 r3 w r5 r6 r7 r8 L Lg 59 zh39
                refine ev_call (fun v μ => (d + 7, 0, 0, 40, 217, [.val (.ref 1088), .val (.int p1), .val (.int v7), .val (.int x13)], v.toList ++ [], μ)) 3 ze40 ?_ (fun n => Eq.refl _)
                exact ev_b 2 (zi14 _ (Option.some.inj zh16).symm (.int x13)) (fun n => Eq.refl _)
              · have zh16 := itn zh16 zc34
                refine ev_f (c := x25 ≠ 0) ((d + 7, 0, 0, 40, 202, [.val (.ref 1088), .val (.int p1), .val (.int v7), .val (.int x13)], [], (126, 120, L, [Y, T, HA, HB, RA, RB, ST, NS, I0, I1, I2, BO, FI, RG, GU, PU, MA_4, MN_24, MS, OT, SC], [r0, r1, r2, r3, w, r5, r6, r7, r8], Lg))) ((d + 7, 0, 0, 40, 199, [.val (.ref 1088), .val (.int p1), .val (.int v7), .val (.int x13)], [], (126, 120, L, [Y, T, HA, HB, RA, RB, ST, NS, I0, I1, I2, BO, FI, RG, GU, PU, MA_4, MN_24, MS, OT, SC], [r0, r1, r2, r3, w, r5, r6, r7, r8], Lg))) 1 zc34 ?_ (fun n => Eq.refl _)
                exact ev_b 1 (zx15 _ (Option.some.inj zh16).symm (.int v7) (.int x13)) (fun n => Eq.refl _)
            by_cases zc41 : x15 ≠ 0
            · have zh29 := itp zh29 zc41
              refine ev_t (c := x15 ≠ 0) ((d + 7, 0, 0, 40, 82, [.val (.ref 1088), .val (.int p1), .val (.int v7), .val (.int x13)], [], (126, 120, L, [Y, T, HA, HB, RA, RB, ST, NS, I0, I1, I2, BO, FI, RG, GU, PU, MA_4, MN_14, MS, OT, SC], [r0, r1, r2, r3, w, r5, r6, r7, r8], Lg))) ((d + 7, 0, 0, 40, 70, [.val (.ref 1088), .val (.int p1), .val (.int v7), .val (.int x13)], [], (126, 120, L, [Y, T, HA, HB, RA, RB, ST, NS, I0, I1, I2, BO, FI, RG, GU, PU, MA_4, MN_14, MS, OT, SC], [r0, r1, r2, r3, w, r5, r6, r7, r8], Lg))) 1 zc41 ?_ (fun n => Eq.refl _)
              obtain ⟨zt42, zh43, zh29⟩ := bnd zh29
              have zj44 : zt42 = .inl () → Ev (d + 7, 0, 0, 40, 158, [.val (.ref 1088), .val (.int p1), .val (.int v7), .val (.int x13)], [], (126, 120, L, [Y, T, HA, HB, RA, RB, ST, NS, I0, I1, I2, BO, FI, RG, GU, PU, MA_4, MN_14, MS, OT, SC], [r0, r1, r2, r3, w, r5, r6, r7, r8], Lg)) o := by
                intro ze45
                have zh29 := sum_l zh29 ze45
                obtain ⟨MN_22, zh46, zh29⟩ := bnd zh29
                have ze47 := R_f_M_wrong_0 (d + 6) Y T HA HB RA RB ST NS I0 I1 I2 BO FI RG GU PU MA_4 MN_14 MS OT SC r0 r1 r2 r3 w r5 r6 r7 r8 L Lg 3 (MN_14 0 4) zh46
                refine ev_call (fun v μ => (d + 7, 0, 0, 40, 167, [.val (.ref 1088), .val (.int p1), .val (.int v7), .val (.int x13)], v.toList ++ [], μ)) 5 ze47 ?_ (fun n => Eq.refl _)
                exact ev_b 1 (zj30 MN_22 (Option.some.inj zh29) ) (fun n => Eq.refl _)
              by_cases zc48 : v7 = 60
              · have zh43 := itp zh43 zc48
                refine ev_t (c := v7 = 60) ((d + 7, 0, 0, 40, 158, [.val (.ref 1088), .val (.int p1), .val (.int v7), .val (.int x13)], [], (126, 120, L, [Y, T, HA, HB, RA, RB, ST, NS, I0, I1, I2, BO, FI, RG, GU, PU, MA_4, MN_14, MS, OT, SC], [r0, r1, r2, r3, w, r5, r6, r7, r8], Lg))) ((d + 7, 0, 0, 40, 88, [.val (.ref 1088), .val (.int p1), .val (.int v7), .val (.int x13)], [], (126, 120, L, [Y, T, HA, HB, RA, RB, ST, NS, I0, I1, I2, BO, FI, RG, GU, PU, MA_4, MN_14, MS, OT, SC], [r0, r1, r2, r3, w, r5, r6, r7, r8], Lg))) 3 zc48 ?_ (fun n => Eq.refl _)
                exact ev_b 0 (zj44  (Option.some.inj zh43).symm ) (fun n => Eq.refl _)
              · have zh43 := itn zh43 zc48
                refine ev_f (c := v7 = 60) ((d + 7, 0, 0, 40, 158, [.val (.ref 1088), .val (.int p1), .val (.int v7), .val (.int x13)], [], (126, 120, L, [Y, T, HA, HB, RA, RB, ST, NS, I0, I1, I2, BO, FI, RG, GU, PU, MA_4, MN_14, MS, OT, SC], [r0, r1, r2, r3, w, r5, r6, r7, r8], Lg))) ((d + 7, 0, 0, 40, 88, [.val (.ref 1088), .val (.int p1), .val (.int v7), .val (.int x13)], [], (126, 120, L, [Y, T, HA, HB, RA, RB, ST, NS, I0, I1, I2, BO, FI, RG, GU, PU, MA_4, MN_14, MS, OT, SC], [r0, r1, r2, r3, w, r5, r6, r7, r8], Lg))) 3 zc48 ?_ (fun n => Eq.refl _)
                obtain ⟨x16, zh49, zh43⟩ := bnd zh43
                have ze50 := R_f_M_of_0 (d + 2) Y T HA HB RA RB ST NS I0 I1 I2 BO FI RG GU PU MA_4 MN_14 MS OT SC r0 r1 r2 r3 w r5 r6 r7 r8 L Lg 2651 zh49
                refine ev_call (fun v μ => (d + 7, 0, 0, 40, 94, [.val (.ref 1088), .val (.int p1), .val (.int v7), .val (.int x13)], v.toList ++ [.int x13], μ)) 3 ze50 ?_ (fun n => Eq.refl _)
                obtain ⟨zt51, zh52, zh43⟩ := bnd zh43
                have zj53 : zt51 = .inl () → Ev (d + 7, 0, 0, 40, 105, [.val (.ref 1088), .val (.int p1), .val (.int v7), .val (.int x13)], [], (126, 120, L, [Y, T, HA, HB, RA, RB, ST, NS, I0, I1, I2, BO, FI, RG, GU, PU, MA_4, MN_14, MS, OT, SC], [r0, r1, r2, r3, w, r5, r6, r7, r8], Lg)) o := by
                  intro ze54
                  have zh43 := sum_l zh43 ze54
                  obtain ⟨x17, zh55, zh43⟩ := bnd zh43
                  have ze56 := R_f_M_of_0 (d + 2) Y T HA HB RA RB ST NS I0 I1 I2 BO FI RG GU PU MA_4 MN_14 MS OT SC r0 r1 r2 r3 w r5 r6 r7 r8 L Lg 2652 zh55
                  refine ev_call (fun v μ => (d + 7, 0, 0, 40, 111, [.val (.ref 1088), .val (.int p1), .val (.int v7), .val (.int x13)], v.toList ++ [.int x13], μ)) 3 ze56 ?_ (fun n => Eq.refl _)
                  obtain ⟨zt57, zh58, zh43⟩ := bnd zh43
                  have zj59 : zt57 = .inl () → Ev (d + 7, 0, 0, 40, 123, [.val (.ref 1088), .val (.int p1), .val (.int v7), .val (.int x13)], [], (126, 120, L, [Y, T, HA, HB, RA, RB, ST, NS, I0, I1, I2, BO, FI, RG, GU, PU, MA_4, MN_14, MS, OT, SC], [r0, r1, r2, r3, w, r5, r6, r7, r8], Lg)) o := by
                    intro ze60
                    have zh43 := sum_l zh43 ze60
                    obtain ⟨x18, zh61, zh43⟩ := bnd zh43
                    have ze62 := R_f_M_of_0 (d + 2) Y T HA HB RA RB ST NS I0 I1 I2 BO FI RG GU PU MA_4 MN_14 MS OT SC r0 r1 r2 r3 w r5 r6 r7 r8 L Lg 2649 zh61
                    refine ev_call (fun v μ => (d + 7, 0, 0, 40, 129, [.val (.ref 1088), .val (.int p1), .val (.int v7), .val (.int x13)], v.toList ++ [.int x13], μ)) 3 ze62 ?_ (fun n => Eq.refl _)
                    obtain ⟨zt63, zh64, zh43⟩ := bnd zh43
                    have zj65 : zt63 = .inl () → Ev (d + 7, 0, 0, 40, 141, [.val (.ref 1088), .val (.int p1), .val (.int v7), .val (.int x13)], [], (126, 120, L, [Y, T, HA, HB, RA, RB, ST, NS, I0, I1, I2, BO, FI, RG, GU, PU, MA_4, MN_14, MS, OT, SC], [r0, r1, r2, r3, w, r5, r6, r7, r8], Lg)) o := by
                      intro ze66
                      have zh43 := sum_l zh43 ze66
                      obtain ⟨x19, zh67, zh43⟩ := bnd zh43
                      have ze68 := R_f_M_of_0 (d + 2) Y T HA HB RA RB ST NS I0 I1 I2 BO FI RG GU PU MA_4 MN_14 MS OT SC r0 r1 r2 r3 w r5 r6 r7 r8 L Lg 2656 zh67
                      refine ev_call (fun v μ => (d + 7, 0, 0, 40, 147, [.val (.ref 1088), .val (.int p1), .val (.int v7), .val (.int x13)], v.toList ++ [.int x13], μ)) 3 ze68 ?_ (fun n => Eq.refl _)
                      obtain ⟨zt69, zh70, zh43⟩ := bnd zh43
                      have zj71 : zt69 = .inl () → Ev (d + 7, 0, 0, 40, 170, [.val (.ref 1088), .val (.int p1), .val (.int v7), .val (.int x13)], [], (126, 120, L, [Y, T, HA, HB, RA, RB, ST, NS, I0, I1, I2, BO, FI, RG, GU, PU, MA_4, MN_14, MS, OT, SC], [r0, r1, r2, r3, w, r5, r6, r7, r8], Lg)) o := by
                        intro ze72
                        have zh43 := sum_l zh43 ze72
                        obtain ⟨x20, zh73, zh43⟩ := bnd zh43
                        have ze74 := R_f_M_of_0 (d + 2) Y T HA HB RA RB ST NS I0 I1 I2 BO FI RG GU PU MA_4 MN_14 MS OT SC r0 r1 r2 r3 w r5 r6 r7 r8 L Lg 2650 zh73
                        refine ev_call (fun v μ => (d + 7, 0, 0, 40, 176, [.val (.ref 1088), .val (.int p1), .val (.int v7), .val (.int x13)], v.toList ++ [.int x13], μ)) 3 ze74 ?_ (fun n => Eq.refl _)
                        by_cases zc75 : x13 ≠ x20
                        · have zh43 := itp zh43 zc75
                          refine ev_t (c := x13 ≠ x20) ((d + 7, 0, 0, 40, 192, [.val (.ref 1088), .val (.int p1), .val (.int v7), .val (.int x13)], [], (126, 120, L, [Y, T, HA, HB, RA, RB, ST, NS, I0, I1, I2, BO, FI, RG, GU, PU, MA_4, MN_14, MS, OT, SC], [r0, r1, r2, r3, w, r5, r6, r7, r8], Lg))) ((d + 7, 0, 0, 40, 179, [.val (.ref 1088), .val (.int p1), .val (.int v7), .val (.int x13)], [], (126, 120, L, [Y, T, HA, HB, RA, RB, ST, NS, I0, I1, I2, BO, FI, RG, GU, PU, MA_4, MN_14, MS, OT, SC], [r0, r1, r2, r3, w, r5, r6, r7, r8], Lg))) 1 zc75 ?_ (fun n => Eq.refl _)
                          have zh76 := sum_r zh29 (Option.some.inj zh43).symm
                          exact ev_b 0 (zj30 MN_14 (Option.some.inj zh76) ) (fun n => Eq.refl _)
                        · have zh43 := itn zh43 zc75
                          refine ev_f (c := x13 ≠ x20) ((d + 7, 0, 0, 40, 192, [.val (.ref 1088), .val (.int p1), .val (.int v7), .val (.int x13)], [], (126, 120, L, [Y, T, HA, HB, RA, RB, ST, NS, I0, I1, I2, BO, FI, RG, GU, PU, MA_4, MN_14, MS, OT, SC], [r0, r1, r2, r3, w, r5, r6, r7, r8], Lg))) ((d + 7, 0, 0, 40, 179, [.val (.ref 1088), .val (.int p1), .val (.int v7), .val (.int x13)], [], (126, 120, L, [Y, T, HA, HB, RA, RB, ST, NS, I0, I1, I2, BO, FI, RG, GU, PU, MA_4, MN_14, MS, OT, SC], [r0, r1, r2, r3, w, r5, r6, r7, r8], Lg))) 1 zc75 ?_ (fun n => Eq.refl _)
                          by_cases zc77 : v7 ≤ 0
                          · have zh43 := itp zh43 zc77
                            refine ev_t (c := v7 ≤ 0) ((d + 7, 0, 0, 40, 192, [.val (.ref 1088), .val (.int p1), .val (.int v7), .val (.int x13)], [], (126, 120, L, [Y, T, HA, HB, RA, RB, ST, NS, I0, I1, I2, BO, FI, RG, GU, PU, MA_4, MN_14, MS, OT, SC], [r0, r1, r2, r3, w, r5, r6, r7, r8], Lg))) ((d + 7, 0, 0, 40, 183, [.val (.ref 1088), .val (.int p1), .val (.int v7), .val (.int x13)], [], (126, 120, L, [Y, T, HA, HB, RA, RB, ST, NS, I0, I1, I2, BO, FI, RG, GU, PU, MA_4, MN_14, MS, OT, SC], [r0, r1, r2, r3, w, r5, r6, r7, r8], Lg))) 2 zc77 ?_ (fun n => Eq.refl _)
                            have zh78 := sum_r zh29 (Option.some.inj zh43).symm
                            exact ev_b 0 (zj30 MN_14 (Option.some.inj zh78) ) (fun n => Eq.refl _)
                          · have zh43 := itn zh43 zc77
                            refine ev_f (c := v7 ≤ 0) ((d + 7, 0, 0, 40, 192, [.val (.ref 1088), .val (.int p1), .val (.int v7), .val (.int x13)], [], (126, 120, L, [Y, T, HA, HB, RA, RB, ST, NS, I0, I1, I2, BO, FI, RG, GU, PU, MA_4, MN_14, MS, OT, SC], [r0, r1, r2, r3, w, r5, r6, r7, r8], Lg))) ((d + 7, 0, 0, 40, 183, [.val (.ref 1088), .val (.int p1), .val (.int v7), .val (.int x13)], [], (126, 120, L, [Y, T, HA, HB, RA, RB, ST, NS, I0, I1, I2, BO, FI, RG, GU, PU, MA_4, MN_14, MS, OT, SC], [r0, r1, r2, r3, w, r5, r6, r7, r8], Lg))) 2 zc77 ?_ (fun n => Eq.refl _)
                            obtain ⟨MN_21, zh79, zh43⟩ := bnd zh43
                            have ze80 := R_f_M_wrong_0 (d + 6) Y T HA HB RA RB ST NS I0 I1 I2 BO FI RG GU PU MA_4 MN_14 MS OT SC r0 r1 r2 r3 w r5 r6 r7 r8 L Lg 4 (MN_14 0 4) zh79
                            refine ev_call (fun v μ => (d + 7, 0, 0, 40, 192, [.val (.ref 1088), .val (.int p1), .val (.int v7), .val (.int x13)], v.toList ++ [], μ)) 5 ze80 ?_ (fun n => Eq.refl _)
                            have zh81 := sum_r zh29 (Option.some.inj zh43).symm
                            exact ev_b 0 (zj30 MN_21 (Option.some.inj zh81) ) (fun n => Eq.refl _)
                      by_cases zc82 : x13 ≠ x19
                      · have zh70 := itp zh70 zc82
                        refine ev_t (c := x13 ≠ x19) ((d + 7, 0, 0, 40, 170, [.val (.ref 1088), .val (.int p1), .val (.int v7), .val (.int x13)], [], (126, 120, L, [Y, T, HA, HB, RA, RB, ST, NS, I0, I1, I2, BO, FI, RG, GU, PU, MA_4, MN_14, MS, OT, SC], [r0, r1, r2, r3, w, r5, r6, r7, r8], Lg))) ((d + 7, 0, 0, 40, 150, [.val (.ref 1088), .val (.int p1), .val (.int v7), .val (.int x13)], [], (126, 120, L, [Y, T, HA, HB, RA, RB, ST, NS, I0, I1, I2, BO, FI, RG, GU, PU, MA_4, MN_14, MS, OT, SC], [r0, r1, r2, r3, w, r5, r6, r7, r8], Lg))) 1 zc82 ?_ (fun n => Eq.refl _)
                        exact ev_b 0 (zj71  (Option.some.inj zh70).symm ) (fun n => Eq.refl _)
                      · have zh70 := itn zh70 zc82
                        refine ev_f (c := x13 ≠ x19) ((d + 7, 0, 0, 40, 170, [.val (.ref 1088), .val (.int p1), .val (.int v7), .val (.int x13)], [], (126, 120, L, [Y, T, HA, HB, RA, RB, ST, NS, I0, I1, I2, BO, FI, RG, GU, PU, MA_4, MN_14, MS, OT, SC], [r0, r1, r2, r3, w, r5, r6, r7, r8], Lg))) ((d + 7, 0, 0, 40, 150, [.val (.ref 1088), .val (.int p1), .val (.int v7), .val (.int x13)], [], (126, 120, L, [Y, T, HA, HB, RA, RB, ST, NS, I0, I1, I2, BO, FI, RG, GU, PU, MA_4, MN_14, MS, OT, SC], [r0, r1, r2, r3, w, r5, r6, r7, r8], Lg))) 1 zc82 ?_ (fun n => Eq.refl _)
                        by_cases zc83 : (MN_14 0 22) ≠ 4
                        · have zh70 := itp zh70 zc83
                          refine ev_t (c := (MN_14 0 22) ≠ 4) ((d + 7, 0, 0, 40, 170, [.val (.ref 1088), .val (.int p1), .val (.int v7), .val (.int x13)], [], (126, 120, L, [Y, T, HA, HB, RA, RB, ST, NS, I0, I1, I2, BO, FI, RG, GU, PU, MA_4, MN_14, MS, OT, SC], [r0, r1, r2, r3, w, r5, r6, r7, r8], Lg))) ((d + 7, 0, 0, 40, 158, [.val (.ref 1088), .val (.int p1), .val (.int v7), .val (.int x13)], [], (126, 120, L, [Y, T, HA, HB, RA, RB, ST, NS, I0, I1, I2, BO, FI, RG, GU, PU, MA_4, MN_14, MS, OT, SC], [r0, r1, r2, r3, w, r5, r6, r7, r8], Lg))) 4 zc83 ?_ (fun n => Eq.refl _)
                          exact ev_b 0 (zj71  (Option.some.inj zh70).symm ) (fun n => Eq.refl _)
                        · have zh70 := itn zh70 zc83
                          refine ev_f (c := (MN_14 0 22) ≠ 4) ((d + 7, 0, 0, 40, 170, [.val (.ref 1088), .val (.int p1), .val (.int v7), .val (.int x13)], [], (126, 120, L, [Y, T, HA, HB, RA, RB, ST, NS, I0, I1, I2, BO, FI, RG, GU, PU, MA_4, MN_14, MS, OT, SC], [r0, r1, r2, r3, w, r5, r6, r7, r8], Lg))) ((d + 7, 0, 0, 40, 158, [.val (.ref 1088), .val (.int p1), .val (.int v7), .val (.int x13)], [], (126, 120, L, [Y, T, HA, HB, RA, RB, ST, NS, I0, I1, I2, BO, FI, RG, GU, PU, MA_4, MN_14, MS, OT, SC], [r0, r1, r2, r3, w, r5, r6, r7, r8], Lg))) 4 zc83 ?_ (fun n => Eq.refl _)
                          have zh84 := sum_r zh43 (Option.some.inj zh70).symm
                          exact ev_b 0 (zj44  (Option.some.inj zh84).symm ) (fun n => Eq.refl _)
                    by_cases zc85 : x13 ≠ x18
                    · have zh64 := itp zh64 zc85
                      refine ev_t (c := x13 ≠ x18) ((d + 7, 0, 0, 40, 141, [.val (.ref 1088), .val (.int p1), .val (.int v7), .val (.int x13)], [], (126, 120, L, [Y, T, HA, HB, RA, RB, ST, NS, I0, I1, I2, BO, FI, RG, GU, PU, MA_4, MN_14, MS, OT, SC], [r0, r1, r2, r3, w, r5, r6, r7, r8], Lg))) ((d + 7, 0, 0, 40, 132, [.val (.ref 1088), .val (.int p1), .val (.int v7), .val (.int x13)], [], (126, 120, L, [Y, T, HA, HB, RA, RB, ST, NS, I0, I1, I2, BO, FI, RG, GU, PU, MA_4, MN_14, MS, OT, SC], [r0, r1, r2, r3, w, r5, r6, r7, r8], Lg))) 1 zc85 ?_ (fun n => Eq.refl _)
                      exact ev_b 0 (zj65  (Option.some.inj zh64).symm ) (fun n => Eq.refl _)
                    · have zh64 := itn zh64 zc85
                      refine ev_f (c := x13 ≠ x18) ((d + 7, 0, 0, 40, 141, [.val (.ref 1088), .val (.int p1), .val (.int v7), .val (.int x13)], [], (126, 120, L, [Y, T, HA, HB, RA, RB, ST, NS, I0, I1, I2, BO, FI, RG, GU, PU, MA_4, MN_14, MS, OT, SC], [r0, r1, r2, r3, w, r5, r6, r7, r8], Lg))) ((d + 7, 0, 0, 40, 132, [.val (.ref 1088), .val (.int p1), .val (.int v7), .val (.int x13)], [], (126, 120, L, [Y, T, HA, HB, RA, RB, ST, NS, I0, I1, I2, BO, FI, RG, GU, PU, MA_4, MN_14, MS, OT, SC], [r0, r1, r2, r3, w, r5, r6, r7, r8], Lg))) 1 zc85 ?_ (fun n => Eq.refl _)
                      by_cases zc86 : (MN_14 0 21) = 10
                      · have zh64 := itp zh64 zc86
                        refine ev_t (c := (MN_14 0 21) = 10) ((d + 7, 0, 0, 40, 158, [.val (.ref 1088), .val (.int p1), .val (.int v7), .val (.int x13)], [], (126, 120, L, [Y, T, HA, HB, RA, RB, ST, NS, I0, I1, I2, BO, FI, RG, GU, PU, MA_4, MN_14, MS, OT, SC], [r0, r1, r2, r3, w, r5, r6, r7, r8], Lg))) ((d + 7, 0, 0, 40, 141, [.val (.ref 1088), .val (.int p1), .val (.int v7), .val (.int x13)], [], (126, 120, L, [Y, T, HA, HB, RA, RB, ST, NS, I0, I1, I2, BO, FI, RG, GU, PU, MA_4, MN_14, MS, OT, SC], [r0, r1, r2, r3, w, r5, r6, r7, r8], Lg))) 4 zc86 ?_ (fun n => Eq.refl _)
                        have zh87 := sum_r zh43 (Option.some.inj zh64).symm
                        exact ev_b 0 (zj44  (Option.some.inj zh87).symm ) (fun n => Eq.refl _)
                      · have zh64 := itn zh64 zc86
                        refine ev_f (c := (MN_14 0 21) = 10) ((d + 7, 0, 0, 40, 158, [.val (.ref 1088), .val (.int p1), .val (.int v7), .val (.int x13)], [], (126, 120, L, [Y, T, HA, HB, RA, RB, ST, NS, I0, I1, I2, BO, FI, RG, GU, PU, MA_4, MN_14, MS, OT, SC], [r0, r1, r2, r3, w, r5, r6, r7, r8], Lg))) ((d + 7, 0, 0, 40, 141, [.val (.ref 1088), .val (.int p1), .val (.int v7), .val (.int x13)], [], (126, 120, L, [Y, T, HA, HB, RA, RB, ST, NS, I0, I1, I2, BO, FI, RG, GU, PU, MA_4, MN_14, MS, OT, SC], [r0, r1, r2, r3, w, r5, r6, r7, r8], Lg))) 4 zc86 ?_ (fun n => Eq.refl _)
                        exact ev_b 0 (zj65  (Option.some.inj zh64).symm ) (fun n => Eq.refl _)
                  by_cases zc88 : x13 ≠ x17
                  · have zh58 := itp zh58 zc88
                    refine ev_t (c := x13 ≠ x17) ((d + 7, 0, 0, 40, 123, [.val (.ref 1088), .val (.int p1), .val (.int v7), .val (.int x13)], [], (126, 120, L, [Y, T, HA, HB, RA, RB, ST, NS, I0, I1, I2, BO, FI, RG, GU, PU, MA_4, MN_14, MS, OT, SC], [r0, r1, r2, r3, w, r5, r6, r7, r8], Lg))) ((d + 7, 0, 0, 40, 114, [.val (.ref 1088), .val (.int p1), .val (.int v7), .val (.int x13)], [], (126, 120, L, [Y, T, HA, HB, RA, RB, ST, NS, I0, I1, I2, BO, FI, RG, GU, PU, MA_4, MN_14, MS, OT, SC], [r0, r1, r2, r3, w, r5, r6, r7, r8], Lg))) 1 zc88 ?_ (fun n => Eq.refl _)
                    exact ev_b 0 (zj59  (Option.some.inj zh58).symm ) (fun n => Eq.refl _)
                  · have zh58 := itn zh58 zc88
                    refine ev_f (c := x13 ≠ x17) ((d + 7, 0, 0, 40, 123, [.val (.ref 1088), .val (.int p1), .val (.int v7), .val (.int x13)], [], (126, 120, L, [Y, T, HA, HB, RA, RB, ST, NS, I0, I1, I2, BO, FI, RG, GU, PU, MA_4, MN_14, MS, OT, SC], [r0, r1, r2, r3, w, r5, r6, r7, r8], Lg))) ((d + 7, 0, 0, 40, 114, [.val (.ref 1088), .val (.int p1), .val (.int v7), .val (.int x13)], [], (126, 120, L, [Y, T, HA, HB, RA, RB, ST, NS, I0, I1, I2, BO, FI, RG, GU, PU, MA_4, MN_14, MS, OT, SC], [r0, r1, r2, r3, w, r5, r6, r7, r8], Lg))) 1 zc88 ?_ (fun n => Eq.refl _)
                    by_cases zc89 : (MN_14 0 20) = 8
                    · have zh58 := itp zh58 zc89
                      refine ev_t (c := (MN_14 0 20) = 8) ((d + 7, 0, 0, 40, 158, [.val (.ref 1088), .val (.int p1), .val (.int v7), .val (.int x13)], [], (126, 120, L, [Y, T, HA, HB, RA, RB, ST, NS, I0, I1, I2, BO, FI, RG, GU, PU, MA_4, MN_14, MS, OT, SC], [r0, r1, r2, r3, w, r5, r6, r7, r8], Lg))) ((d + 7, 0, 0, 40, 123, [.val (.ref 1088), .val (.int p1), .val (.int v7), .val (.int x13)], [], (126, 120, L, [Y, T, HA, HB, RA, RB, ST, NS, I0, I1, I2, BO, FI, RG, GU, PU, MA_4, MN_14, MS, OT, SC], [r0, r1, r2, r3, w, r5, r6, r7, r8], Lg))) 4 zc89 ?_ (fun n => Eq.refl _)
                      have zh90 := sum_r zh43 (Option.some.inj zh58).symm
                      exact ev_b 0 (zj44  (Option.some.inj zh90).symm ) (fun n => Eq.refl _)
                    · have zh58 := itn zh58 zc89
                      refine ev_f (c := (MN_14 0 20) = 8) ((d + 7, 0, 0, 40, 158, [.val (.ref 1088), .val (.int p1), .val (.int v7), .val (.int x13)], [], (126, 120, L, [Y, T, HA, HB, RA, RB, ST, NS, I0, I1, I2, BO, FI, RG, GU, PU, MA_4, MN_14, MS, OT, SC], [r0, r1, r2, r3, w, r5, r6, r7, r8], Lg))) ((d + 7, 0, 0, 40, 123, [.val (.ref 1088), .val (.int p1), .val (.int v7), .val (.int x13)], [], (126, 120, L, [Y, T, HA, HB, RA, RB, ST, NS, I0, I1, I2, BO, FI, RG, GU, PU, MA_4, MN_14, MS, OT, SC], [r0, r1, r2, r3, w, r5, r6, r7, r8], Lg))) 4 zc89 ?_ (fun n => Eq.refl _)
                      exact ev_b 0 (zj59  (Option.some.inj zh58).symm ) (fun n => Eq.refl _)
                by_cases zc91 : x13 ≠ x16
                · have zh52 := itp zh52 zc91
                  refine ev_t (c := x13 ≠ x16) ((d + 7, 0, 0, 40, 105, [.val (.ref 1088), .val (.int p1), .val (.int v7), .val (.int x13)], [], (126, 120, L, [Y, T, HA, HB, RA, RB, ST, NS, I0, I1, I2, BO, FI, RG, GU, PU, MA_4, MN_14, MS, OT, SC], [r0, r1, r2, r3, w, r5, r6, r7, r8], Lg))) ((d + 7, 0, 0, 40, 97, [.val (.ref 1088), .val (.int p1), .val (.int v7), .val (.int x13)], [], (126, 120, L, [Y, T, HA, HB, RA, RB, ST, NS, I0, I1, I2, BO, FI, RG, GU, PU, MA_4, MN_14, MS, OT, SC], [r0, r1, r2, r3, w, r5, r6, r7, r8], Lg))) 1 zc91 ?_ (fun n => Eq.refl _)
                  exact ev_b 0 (zj53  (Option.some.inj zh52).symm ) (fun n => Eq.refl _)
                · have zh52 := itn zh52 zc91
                  refine ev_f (c := x13 ≠ x16) ((d + 7, 0, 0, 40, 105, [.val (.ref 1088), .val (.int p1), .val (.int v7), .val (.int x13)], [], (126, 120, L, [Y, T, HA, HB, RA, RB, ST, NS, I0, I1, I2, BO, FI, RG, GU, PU, MA_4, MN_14, MS, OT, SC], [r0, r1, r2, r3, w, r5, r6, r7, r8], Lg))) ((d + 7, 0, 0, 40, 97, [.val (.ref 1088), .val (.int p1), .val (.int v7), .val (.int x13)], [], (126, 120, L, [Y, T, HA, HB, RA, RB, ST, NS, I0, I1, I2, BO, FI, RG, GU, PU, MA_4, MN_14, MS, OT, SC], [r0, r1, r2, r3, w, r5, r6, r7, r8], Lg))) 1 zc91 ?_ (fun n => Eq.refl _)
                  by_cases zc92 : (MN_14 0 19) = 3
                  · have zh52 := itp zh52 zc92
                    refine ev_t (c := (MN_14 0 19) = 3) ((d + 7, 0, 0, 40, 158, [.val (.ref 1088), .val (.int p1), .val (.int v7), .val (.int x13)], [], (126, 120, L, [Y, T, HA, HB, RA, RB, ST, NS, I0, I1, I2, BO, FI, RG, GU, PU, MA_4, MN_14, MS, OT, SC], [r0, r1, r2, r3, w, r5, r6, r7, r8], Lg))) ((d + 7, 0, 0, 40, 105, [.val (.ref 1088), .val (.int p1), .val (.int v7), .val (.int x13)], [], (126, 120, L, [Y, T, HA, HB, RA, RB, ST, NS, I0, I1, I2, BO, FI, RG, GU, PU, MA_4, MN_14, MS, OT, SC], [r0, r1, r2, r3, w, r5, r6, r7, r8], Lg))) 4 zc92 ?_ (fun n => Eq.refl _)
                    have zh93 := sum_r zh43 (Option.some.inj zh52).symm
                    exact ev_b 0 (zj44  (Option.some.inj zh93).symm ) (fun n => Eq.refl _)
                  · have zh52 := itn zh52 zc92
                    refine ev_f (c := (MN_14 0 19) = 3) ((d + 7, 0, 0, 40, 158, [.val (.ref 1088), .val (.int p1), .val (.int v7), .val (.int x13)], [], (126, 120, L, [Y, T, HA, HB, RA, RB, ST, NS, I0, I1, I2, BO, FI, RG, GU, PU, MA_4, MN_14, MS, OT, SC], [r0, r1, r2, r3, w, r5, r6, r7, r8], Lg))) ((d + 7, 0, 0, 40, 105, [.val (.ref 1088), .val (.int p1), .val (.int v7), .val (.int x13)], [], (126, 120, L, [Y, T, HA, HB, RA, RB, ST, NS, I0, I1, I2, BO, FI, RG, GU, PU, MA_4, MN_14, MS, OT, SC], [r0, r1, r2, r3, w, r5, r6, r7, r8], Lg))) 4 zc92 ?_ (fun n => Eq.refl _)
                    exact ev_b 0 (zj53  (Option.some.inj zh52).symm ) (fun n => Eq.refl _)
            · have zh29 := itn zh29 zc41
              refine ev_f (c := x15 ≠ 0) ((d + 7, 0, 0, 40, 82, [.val (.ref 1088), .val (.int p1), .val (.int v7), .val (.int x13)], [], (126, 120, L, [Y, T, HA, HB, RA, RB, ST, NS, I0, I1, I2, BO, FI, RG, GU, PU, MA_4, MN_14, MS, OT, SC], [r0, r1, r2, r3, w, r5, r6, r7, r8], Lg))) ((d + 7, 0, 0, 40, 70, [.val (.ref 1088), .val (.int p1), .val (.int v7), .val (.int x13)], [], (126, 120, L, [Y, T, HA, HB, RA, RB, ST, NS, I0, I1, I2, BO, FI, RG, GU, PU, MA_4, MN_14, MS, OT, SC], [r0, r1, r2, r3, w, r5, r6, r7, r8], Lg))) 1 zc41 ?_ (fun n => Eq.refl _)
              obtain ⟨MN_23, zh94, zh29⟩ := bnd zh29
              have ze95 := R_f_M_wrong_0 (d + 6) Y T HA HB RA RB ST NS I0 I1 I2 BO FI RG GU PU MA_4 MN_14 MS OT SC r0 r1 r2 r3 w r5 r6 r7 r8 L Lg 1 (MN_14 0 4) zh94
              refine ev_call (fun v μ => (d + 7, 0, 0, 40, 79, [.val (.ref 1088), .val (.int p1), .val (.int v7), .val (.int x13)], v.toList ++ [], μ)) 5 ze95 ?_ (fun n => Eq.refl _)
              exact ev_b 1 (zj30 MN_23 (Option.some.inj zh29) ) (fun n => Eq.refl _)
      · skip
        intro s29 s30
        obtain ⟨⟨x32, MA_33⟩, zh96, h⟩ := bnd h
        have ze97 := R_f_M_result_0 (d + 5) Y T HA HB RA RB ST NS I0 I1 I2 BO FI RG GU PU MA_4 MN_31 MS OT SC r0 r1 r2 r3 w r5 r6 r7 r8 L Lg (MN_31 0 21) zh96
        refine ev_call (fun v μ => (d + 7, 0, 0, 40, 231, [.val (.ref 1088), .val (.int p1), .val s29, .val s30], v.toList ++ [], μ)) 4 ze97 ?_ (fun n => Eq.refl _)
        by_cases zc98 : (MN_31 0 5) ≠ (-1)
        · have h := itp h zc98
          refine ev_t (c := (MN_31 0 5) ≠ (-1)) ((d + 7, 0, 0, 40, 244, [.val (.ref 1088), .val (.int p1), .val s29, .val (.int x32)], [], (126, 120, L, [Y, T, HA, HB, RA, RB, ST, NS, I0, I1, I2, BO, FI, RG, GU, PU, MA_33, MN_31, MS, OT, SC], [r0, r1, r2, r3, w, r5, r6, r7, r8], Lg))) ((d + 7, 0, 0, 40, 240, [.val (.ref 1088), .val (.int p1), .val s29, .val (.int x32)], [], (126, 120, L, [Y, T, HA, HB, RA, RB, ST, NS, I0, I1, I2, BO, FI, RG, GU, PU, MA_33, MN_31, MS, OT, SC], [r0, r1, r2, r3, w, r5, r6, r7, r8], Lg))) 5 zc98 ?_ (fun n => Eq.refl _)
          have ze99 := Option.some.inj h
          subst ze99
          exact ev_rete 2 ho (fun n => Eq.refl _)
        · have h := itn h zc98
          refine ev_f (c := (MN_31 0 5) ≠ (-1)) ((d + 7, 0, 0, 40, 244, [.val (.ref 1088), .val (.int p1), .val s29, .val (.int x32)], [], (126, 120, L, [Y, T, HA, HB, RA, RB, ST, NS, I0, I1, I2, BO, FI, RG, GU, PU, MA_33, MN_31, MS, OT, SC], [r0, r1, r2, r3, w, r5, r6, r7, r8], Lg))) ((d + 7, 0, 0, 40, 240, [.val (.ref 1088), .val (.int p1), .val s29, .val (.int x32)], [], (126, 120, L, [Y, T, HA, HB, RA, RB, ST, NS, I0, I1, I2, BO, FI, RG, GU, PU, MA_33, MN_31, MS, OT, SC], [r0, r1, r2, r3, w, r5, r6, r7, r8], Lg))) 5 zc98 ?_ (fun n => Eq.refl _)
          obtain ⟨MA_34, zh100, h⟩ := bnd h
          have ze101 := R_f_M_sets_0 (d + 5) Y T HA HB RA RB ST NS I0 I1 I2 BO FI RG GU PU MA_33 MN_31 MS OT SC r0 r1 r2 r3 w r5 r6 r7 r8 L Lg zh100
          refine ev_call (fun v μ => (d + 7, 0, 0, 40, 244, [.val (.ref 1088), .val (.int p1), .val s29, .val (.int x32)], v.toList ++ [], μ)) 2 ze101 ?_ (fun n => Eq.refl _)
          have ze102 := Option.some.inj h
          subst ze102
          exact ev_rete 2 ho (fun n => Eq.refl _)
    · have h := itn h zc7
      refine ev_f (c := x2 ≠ 0) ((d + 7, 0, 0, 40, 33, [.val (.ref 1088), .val (.int p1), .val a_unk, .val a_unk], [], (126, 120, L, [Y, T, HA, HB, RA, RB, ST, NS, I0, I1, I2, BO, FI, RG, GU, PU, MA_3, MN, MS, OT, SC], [r0, r1, r2, r3, w, r5, r6, r7, r8], Lg))) ((d + 7, 0, 0, 40, 31, [.val (.ref 1088), .val (.int p1), .val a_unk, .val a_unk], [], (126, 120, L, [Y, T, HA, HB, RA, RB, ST, NS, I0, I1, I2, BO, FI, RG, GU, PU, MA_3, MN, MS, OT, SC], [r0, r1, r2, r3, w, r5, r6, r7, r8], Lg))) 1 zc7 ?_ (fun n => Eq.refl _)
      have ze103 := Option.some.inj h
      subst ze103
      exact ev_rete 2 ho (fun n => Eq.refl _)
  obtain ⟨zt104, zh105, zh2⟩ := bnd zh2
  have zj106 : zt104 = .inl () → Ev (d + 7, 0, 0, 40, 22, [.val (.ref 1088), .val (.int p1), .val a_unk, .val a_unk], [.ref 1088], (126, 120, L, [Y, T, HA, HB, RA, RB, ST, NS, I0, I1, I2, BO, FI, RG, GU, PU, (u2 MA 0 0 0), MN, MS, OT, SC], [r0, r1, r2, r3, w, r5, r6, r7, r8], Lg)) o := by
    intro ze107
    have zh2 := sum_l zh2 ze107
    exact ev_b 1 (zj3 0 (Option.some.inj zh2) ) (fun n => Eq.refl _)
  by_cases zc108 : p1 < 0
  · have zh105 := itp zh105 zc108
    refine ev_t (c := p1 < 0) ((d + 7, 0, 0, 40, 22, [.val (.ref 1088), .val (.int p1), .val a_unk, .val a_unk], [.ref 1088], (126, 120, L, [Y, T, HA, HB, RA, RB, ST, NS, I0, I1, I2, BO, FI, RG, GU, PU, (u2 MA 0 0 0), MN, MS, OT, SC], [r0, r1, r2, r3, w, r5, r6, r7, r8], Lg))) ((d + 7, 0, 0, 40, 10, [.val (.ref 1088), .val (.int p1), .val a_unk, .val a_unk], [.ref 1088], (126, 120, L, [Y, T, HA, HB, RA, RB, ST, NS, I0, I1, I2, BO, FI, RG, GU, PU, (u2 MA 0 0 0), MN, MS, OT, SC], [r0, r1, r2, r3, w, r5, r6, r7, r8], Lg))) 6 zc108 ?_ (fun n => Eq.refl _)
    exact ev_b 0 (zj106  (Option.some.inj zh105).symm ) (fun n => Eq.refl _)
  · have zh105 := itn zh105 zc108
    refine ev_f (c := p1 < 0) ((d + 7, 0, 0, 40, 22, [.val (.ref 1088), .val (.int p1), .val a_unk, .val a_unk], [.ref 1088], (126, 120, L, [Y, T, HA, HB, RA, RB, ST, NS, I0, I1, I2, BO, FI, RG, GU, PU, (u2 MA 0 0 0), MN, MS, OT, SC], [r0, r1, r2, r3, w, r5, r6, r7, r8], Lg))) ((d + 7, 0, 0, 40, 10, [.val (.ref 1088), .val (.int p1), .val a_unk, .val a_unk], [.ref 1088], (126, 120, L, [Y, T, HA, HB, RA, RB, ST, NS, I0, I1, I2, BO, FI, RG, GU, PU, (u2 MA 0 0 0), MN, MS, OT, SC], [r0, r1, r2, r3, w, r5, r6, r7, r8], Lg))) 6 zc108 ?_ (fun n => Eq.refl _)
    by_cases zc109 : ((u2 MA 0 0 0) 0 2) < p1
    · have zh105 := itp zh105 zc109
      refine ev_t (c := ((u2 MA 0 0 0) 0 2) < p1) ((d + 7, 0, 0, 40, 22, [.val (.ref 1088), .val (.int p1), .val a_unk, .val a_unk], [.ref 1088], (126, 120, L, [Y, T, HA, HB, RA, RB, ST, NS, I0, I1, I2, BO, FI, RG, GU, PU, (u2 MA 0 0 0), MN, MS, OT, SC], [r0, r1, r2, r3, w, r5, r6, r7, r8], Lg))) ((d + 7, 0, 0, 40, 18, [.val (.ref 1088), .val (.int p1), .val a_unk, .val a_unk], [.ref 1088], (126, 120, L, [Y, T, HA, HB, RA, RB, ST, NS, I0, I1, I2, BO, FI, RG, GU, PU, (u2 MA 0 0 0), MN, MS, OT, SC], [r0, r1, r2, r3, w, r5, r6, r7, r8], Lg))) 4 zc109 ?_ (fun n => Eq.refl _)
      exact ev_b 0 (zj106  (Option.some.inj zh105).symm ) (fun n => Eq.refl _)
    · have zh105 := itn zh105 zc109
      refine ev_f (c := ((u2 MA 0 0 0) 0 2) < p1) ((d + 7, 0, 0, 40, 22, [.val (.ref 1088), .val (.int p1), .val a_unk, .val a_unk], [.ref 1088], (126, 120, L, [Y, T, HA, HB, RA, RB, ST, NS, I0, I1, I2, BO, FI, RG, GU, PU, (u2 MA 0 0 0), MN, MS, OT, SC], [r0, r1, r2, r3, w, r5, r6, r7, r8], Lg))) ((d + 7, 0, 0, 40, 18, [.val (.ref 1088), .val (.int p1), .val a_unk, .val a_unk], [.ref 1088], (126, 120, L, [Y, T, HA, HB, RA, RB, ST, NS, I0, I1, I2, BO, FI, RG, GU, PU, (u2 MA 0 0 0), MN, MS, OT, SC], [r0, r1, r2, r3, w, r5, r6, r7, r8], Lg))) 4 zc109 ?_ (fun n => Eq.refl _)
      have zh110 := sum_r zh2 (Option.some.inj zh105).symm
      exact ev_b 2 (zj3 1 (Option.some.inj zh110) ) (fun n => Eq.refl _)
