/-! printed by program (gen/emitm.py): the reference's methods run as their functions say -/
set_option maxRecDepth 1000000 in
set_option maxHeartbeats 4000000 in
theorem R_f_M_aside_0 (d : Nat) (Y T HA HB RA RB ST NS I0 I1 I2 BO FI RG GU PU MA MN MS OT SC : Nat → Nat → Int32) (r0 r1 r2 r3 w r5 r6 r7 r8 : Nat) (L : Nat) (Lg : Int64) {r : (Nat → Nat → Int32)} (h : f_M_aside MA MS = some r) : Ev (d + 1, 0, 0, 142, 0, [.val (.ref 1088)], [], (126, 120, L, [Y, T, HA, HB, RA, RB, ST, NS, I0, I1, I2, BO, FI, RG, GU, PU, MA, MN, MS, OT, SC], [r0, r1, r2, r3, w, r5, r6, r7, r8], Lg)) ((0, none, (126, 120, L, [Y, T, HA, HB, RA, RB, ST, NS, I0, I1, I2, BO, FI, RG, GU, PU, MA, MN, r, OT, SC], [r0, r1, r2, r3, w, r5, r6, r7, r8], Lg)) : AOut) := by
  suffices key : ∀ o : AOut, ((0, none, (126, 120, L, [Y, T, HA, HB, RA, RB, ST, NS, I0, I1, I2, BO, FI, RG, GU, PU, MA, MN, r, OT, SC], [r0, r1, r2, r3, w, r5, r6, r7, r8], Lg)) : AOut) = o → Ev (d + 1, 0, 0, 142, 0, [.val (.ref 1088)], [], (126, 120, L, [Y, T, HA, HB, RA, RB, ST, NS, I0, I1, I2, BO, FI, RG, GU, PU, MA, MN, MS, OT, SC], [r0, r1, r2, r3, w, r5, r6, r7, r8], Lg)) o from key _ rfl
  intro o ho
  obtain ⟨x1, zh1, h⟩ := bnd h
  have ze2 := R_copies (d + 0) 1095 1226 10 [Y, T, HA, HB, RA, RB, ST, NS, I0, I1, I2, BO, FI, RG, GU, PU, MA, MN, MS, OT, SC] [r0, r1, r2, r3, w, r5, r6, r7, r8] (.ref 1088) L Lg 126 120 rfl rfl rfl rfl (Nat.le_of_ble_eq_true rfl) (Nat.le_of_ble_eq_true rfl) (Nat.le_of_ble_eq_true rfl) zh1
  suffices e : Ev (d + 1, 0, 0, 142, 14, [.val (.ref 1088)], [], (126, 120, L, [Y, T, HA, HB, RA, RB, ST, NS, I0, I1, I2, BO, FI, RG, GU, PU, MA, MN, (u1 MS 10 x1), OT, SC], [r0, r1, r2, r3, w, r5, r6, r7, r8], Lg)) o from ev_call (fun v μ => (d + 1, 0, 0, 142, 14, [.val (.ref 1088)], v.toList ++ [], μ)) 7 ze2 e (fun n => Eq.refl _)
  obtain ⟨x2, zh3, h⟩ := bnd h
  have ze4 := R_copies (d + 0) 1096 1227 10 [Y, T, HA, HB, RA, RB, ST, NS, I0, I1, I2, BO, FI, RG, GU, PU, MA, MN, (u1 MS 10 x1), OT, SC] [r0, r1, r2, r3, w, r5, r6, r7, r8] (.ref 1088) L Lg 126 120 rfl rfl rfl rfl (Nat.le_of_ble_eq_true rfl) (Nat.le_of_ble_eq_true rfl) (Nat.le_of_ble_eq_true rfl) zh3
  suffices e : Ev (d + 1, 0, 0, 142, 28, [.val (.ref 1088)], [], (126, 120, L, [Y, T, HA, HB, RA, RB, ST, NS, I0, I1, I2, BO, FI, RG, GU, PU, MA, MN, (u1 (u1 MS 10 x1) 11 x2), OT, SC], [r0, r1, r2, r3, w, r5, r6, r7, r8], Lg)) o from ev_call (fun v μ => (d + 1, 0, 0, 142, 28, [.val (.ref 1088)], v.toList ++ [], μ)) 7 ze4 e (fun n => Eq.refl _)
  have ze5 := Option.some.inj h
  subst ze5
  exact ev_rete 1 ho (fun n => Eq.refl _)
set_option maxRecDepth 1000000 in
set_option maxHeartbeats 4000000 in
theorem R_f_M_back_0 (d : Nat) (Y T HA HB RA RB ST NS I0 I1 I2 BO FI RG GU PU MA MN MS OT SC : Nat → Nat → Int32) (r0 r1 r2 r3 w r5 r6 r7 r8 : Nat) (L : Nat) (Lg : Int64) {r : (Nat → Nat → Int32)} (h : f_M_back MA MS = some r) : Ev (d + 1, 0, 0, 143, 0, [.val (.ref 1088)], [], (126, 120, L, [Y, T, HA, HB, RA, RB, ST, NS, I0, I1, I2, BO, FI, RG, GU, PU, MA, MN, MS, OT, SC], [r0, r1, r2, r3, w, r5, r6, r7, r8], Lg)) ((0, none, (126, 120, L, [Y, T, HA, HB, RA, RB, ST, NS, I0, I1, I2, BO, FI, RG, GU, PU, r, MN, MS, OT, SC], [r0, r1, r2, r3, w, r5, r6, r7, r8], Lg)) : AOut) := by
  suffices key : ∀ o : AOut, ((0, none, (126, 120, L, [Y, T, HA, HB, RA, RB, ST, NS, I0, I1, I2, BO, FI, RG, GU, PU, r, MN, MS, OT, SC], [r0, r1, r2, r3, w, r5, r6, r7, r8], Lg)) : AOut) = o → Ev (d + 1, 0, 0, 143, 0, [.val (.ref 1088)], [], (126, 120, L, [Y, T, HA, HB, RA, RB, ST, NS, I0, I1, I2, BO, FI, RG, GU, PU, MA, MN, MS, OT, SC], [r0, r1, r2, r3, w, r5, r6, r7, r8], Lg)) o from key _ rfl
  intro o ho
  obtain ⟨x1, zh1, h⟩ := bnd h
  have ze2 := R_copies (d + 0) 1226 1095 10 [Y, T, HA, HB, RA, RB, ST, NS, I0, I1, I2, BO, FI, RG, GU, PU, MA, MN, MS, OT, SC] [r0, r1, r2, r3, w, r5, r6, r7, r8] (.ref 1088) L Lg 126 120 rfl rfl rfl rfl (Nat.le_of_ble_eq_true rfl) (Nat.le_of_ble_eq_true rfl) (Nat.le_of_ble_eq_true rfl) zh1
  suffices e : Ev (d + 1, 0, 0, 143, 14, [.val (.ref 1088)], [], (126, 120, L, [Y, T, HA, HB, RA, RB, ST, NS, I0, I1, I2, BO, FI, RG, GU, PU, (u1 MA 7 x1), MN, MS, OT, SC], [r0, r1, r2, r3, w, r5, r6, r7, r8], Lg)) o from ev_call (fun v μ => (d + 1, 0, 0, 143, 14, [.val (.ref 1088)], v.toList ++ [], μ)) 7 ze2 e (fun n => Eq.refl _)
  obtain ⟨x2, zh3, h⟩ := bnd h
  have ze4 := R_copies (d + 0) 1227 1096 10 [Y, T, HA, HB, RA, RB, ST, NS, I0, I1, I2, BO, FI, RG, GU, PU, (u1 MA 7 x1), MN, MS, OT, SC] [r0, r1, r2, r3, w, r5, r6, r7, r8] (.ref 1088) L Lg 126 120 rfl rfl rfl rfl (Nat.le_of_ble_eq_true rfl) (Nat.le_of_ble_eq_true rfl) (Nat.le_of_ble_eq_true rfl) zh3
  suffices e : Ev (d + 1, 0, 0, 143, 28, [.val (.ref 1088)], [], (126, 120, L, [Y, T, HA, HB, RA, RB, ST, NS, I0, I1, I2, BO, FI, RG, GU, PU, (u1 (u1 MA 7 x1) 8 x2), MN, MS, OT, SC], [r0, r1, r2, r3, w, r5, r6, r7, r8], Lg)) o from ev_call (fun v μ => (d + 1, 0, 0, 143, 28, [.val (.ref 1088)], v.toList ++ [], μ)) 7 ze4 e (fun n => Eq.refl _)
  have ze5 := Option.some.inj h
  subst ze5
  exact ev_rete 1 ho (fun n => Eq.refl _)
set_option maxRecDepth 1000000 in
set_option maxHeartbeats 4000000 in
theorem R_f_M_mostBorn_0 (d : Nat) (Y T HA HB RA RB ST NS I0 I1 I2 BO FI RG GU PU MA MN MS OT SC : Nat → Nat → Int32) (r0 r1 r2 r3 w r5 r6 r7 r8 : Nat) (L : Nat) (Lg : Int64) {r : Int32} (h : f_M_mostBorn MA = some r) : Ev (d + 1, 0, 0, 144, 0, [.val (.ref 1088), .val a_unk, .val a_unk], [], (126, 120, L, [Y, T, HA, HB, RA, RB, ST, NS, I0, I1, I2, BO, FI, RG, GU, PU, MA, MN, MS, OT, SC], [r0, r1, r2, r3, w, r5, r6, r7, r8], Lg)) ((0, some (.int r), (126, 120, L, [Y, T, HA, HB, RA, RB, ST, NS, I0, I1, I2, BO, FI, RG, GU, PU, MA, MN, MS, OT, SC], [r0, r1, r2, r3, w, r5, r6, r7, r8], Lg)) : AOut) := by
  suffices key : ∀ o : AOut, ((0, some (.int r), (126, 120, L, [Y, T, HA, HB, RA, RB, ST, NS, I0, I1, I2, BO, FI, RG, GU, PU, MA, MN, MS, OT, SC], [r0, r1, r2, r3, w, r5, r6, r7, r8], Lg)) : AOut) = o → Ev (d + 1, 0, 0, 144, 0, [.val (.ref 1088), .val a_unk, .val a_unk], [], (126, 120, L, [Y, T, HA, HB, RA, RB, ST, NS, I0, I1, I2, BO, FI, RG, GU, PU, MA, MN, MS, OT, SC], [r0, r1, r2, r3, w, r5, r6, r7, r8], Lg)) o from key _ rfl
  intro o ho
  obtain ⟨v5, zh2, h⟩ := bnd h
  suffices e : Ev (d + 1, 0, 0, 144, 4, [.val (.ref 1088), .val (.int 0), .val (.int 0)], [], (126, 120, L, [Y, T, HA, HB, RA, RB, ST, NS, I0, I1, I2, BO, FI, RG, GU, PU, MA, MN, MS, OT, SC], [r0, r1, r2, r3, w, r5, r6, r7, r8], Lg)) o from ev_b 4 e (fun n => Eq.refl _)
  refine ev_loop (δ := Unit) (fun a j => (d + 1, 0, 0, 144, 4, [.val (.ref 1088), .val (.int a.1), .val (.int a.2)], [], (126, 120, L, [Y, T, HA, HB, RA, RB, ST, NS, I0, I1, I2, BO, FI, RG, GU, PU, MA, MN, MS, OT, SC], [r0, r1, r2, r3, w, r5, r6, r7, r8], Lg))) (fun b => ∀ s6 : Value, Ev (d + 1, 0, 0, 144, 37, [.val (.ref 1088), .val (.int b), .val s6], [], (126, 120, L, [Y, T, HA, HB, RA, RB, ST, NS, I0, I1, I2, BO, FI, RG, GU, PU, MA, MN, MS, OT, SC], [r0, r1, r2, r3, w, r5, r6, r7, r8], Lg)) o) ?_ a_F (0, 0) v5 zh2 ?_ ()
  · rintro ⟨v1, v2⟩ zr6 zh5 zi3 zx4 ⟨⟩
    have zh5 : f_M_mostBorn_l4 MA v1 v2 = some zr6 := zh5
    by_cases zc7 : (MA 0 25) ≤ v2
    · have zh5 := itp zh5 zc7
      suffices e : Ev (d + 1, 0, 0, 144, 37, [.val (.ref 1088), .val (.int v1), .val (.int v2)], [], (126, 120, L, [Y, T, HA, HB, RA, RB, ST, NS, I0, I1, I2, BO, FI, RG, GU, PU, MA, MN, MS, OT, SC], [r0, r1, r2, r3, w, r5, r6, r7, r8], Lg)) o from ev_t (c := (MA 0 25) ≤ v2) _ _ 4  zc7 e (fun n => Eq.refl _)
      exact ev_b 0 (zx4 _ (Option.some.inj zh5).symm (.int v2)) (fun n => Eq.refl _)
    · have zh5 := itn zh5 zc7
      suffices e : Ev (d + 1, 0, 0, 144, 12, [.val (.ref 1088), .val (.int v1), .val (.int v2)], [], (126, 120, L, [Y, T, HA, HB, RA, RB, ST, NS, I0, I1, I2, BO, FI, RG, GU, PU, MA, MN, MS, OT, SC], [r0, r1, r2, r3, w, r5, r6, r7, r8], Lg)) o from ev_f (c := (MA 0 25) ≤ v2) _ _ 4  zc7 e (fun n => Eq.refl _)
      obtain ⟨x3, zh8, zh5⟩ := bnd zh5
      have zh8 : f_M_bornBy MA v2 = some x3 := zh8
      have ze9 := R_f_M_bornBy_0 (d + 0) Y T HA HB RA RB ST NS I0 I1 I2 BO FI RG GU PU MA MN MS OT SC r0 r1 r2 r3 w r5 r6 r7 r8 L Lg v2 zh8
      suffices e : Ev (d + 1, 0, 0, 144, 17, [.val (.ref 1088), .val (.int v1), .val (.int v2)], [.int x3], (126, 120, L, [Y, T, HA, HB, RA, RB, ST, NS, I0, I1, I2, BO, FI, RG, GU, PU, MA, MN, MS, OT, SC], [r0, r1, r2, r3, w, r5, r6, r7, r8], Lg)) o from ev_call (fun v μ => (d + 1, 0, 0, 144, 17, [.val (.ref 1088), .val (.int v1), .val (.int v2)], v.toList ++ [], μ)) 3 ze9 e (fun n => Eq.refl _)
      by_cases zc10 : x3 ≤ v1
      · have zh5 := itp zh5 zc10
        suffices e : Ev (d + 1, 0, 0, 144, 29, [.val (.ref 1088), .val (.int v1), .val (.int v2)], [], (126, 120, L, [Y, T, HA, HB, RA, RB, ST, NS, I0, I1, I2, BO, FI, RG, GU, PU, MA, MN, MS, OT, SC], [r0, r1, r2, r3, w, r5, r6, r7, r8], Lg)) o from ev_t (c := x3 ≤ v1) _ _ 2  zc10 e (fun n => Eq.refl _)
        exact ev_b 4 (zi3 _ (Option.some.inj zh5).symm ()) (fun n => Eq.refl _)
      · have zh5 := itn zh5 zc10
        suffices e : Ev (d + 1, 0, 0, 144, 21, [.val (.ref 1088), .val (.int v1), .val (.int v2)], [], (126, 120, L, [Y, T, HA, HB, RA, RB, ST, NS, I0, I1, I2, BO, FI, RG, GU, PU, MA, MN, MS, OT, SC], [r0, r1, r2, r3, w, r5, r6, r7, r8], Lg)) o from ev_f (c := x3 ≤ v1) _ _ 2  zc10 e (fun n => Eq.refl _)
        obtain ⟨x4, zh11, zh5⟩ := bnd zh5
        have zh11 : f_M_bornBy MA v2 = some x4 := zh11
        have ze12 := R_f_M_bornBy_0 (d + 0) Y T HA HB RA RB ST NS I0 I1 I2 BO FI RG GU PU MA MN MS OT SC r0 r1 r2 r3 w r5 r6 r7 r8 L Lg v2 zh11
        suffices e : Ev (d + 1, 0, 0, 144, 26, [.val (.ref 1088), .val (.int v1), .val (.int v2)], [.int x4], (126, 120, L, [Y, T, HA, HB, RA, RB, ST, NS, I0, I1, I2, BO, FI, RG, GU, PU, MA, MN, MS, OT, SC], [r0, r1, r2, r3, w, r5, r6, r7, r8], Lg)) o from ev_call (fun v μ => (d + 1, 0, 0, 144, 26, [.val (.ref 1088), .val (.int v1), .val (.int v2)], v.toList ++ [], μ)) 3 ze12 e (fun n => Eq.refl _)
        exact ev_b 4 (zi3 _ (Option.some.inj zh5).symm ()) (fun n => Eq.refl _)
  · skip
    intro s6
    have ze13 := Option.some.inj h
    subst ze13
    exact ev_rete 2 ho (fun n => Eq.refl _)
set_option maxRecDepth 1000000 in
set_option maxHeartbeats 4000000 in
theorem R_f_M_week_0 (d : Nat) (Y T HA HB RA RB ST NS I0 I1 I2 BO FI RG GU PU MA MN MS OT SC : Nat → Nat → Int32) (r0 r1 r2 r3 w r5 r6 r7 r8 : Nat) (L : Nat) (Lg : Int64) (p1 : Int32) (p2 : Int32) (p3 : Int32) {r : Int32 × (Nat → Nat → Int32) × (Nat → Nat → Int32)} (h : f_M_week MA MS p1 p2 p3 = some r) : Ev (d + 5, 0, 0, 145, 0, [.val (.ref 1088), .val (.int p1), .val (.int p2), .val (.int p3), .val a_unk], [], (126, 120, L, [Y, T, HA, HB, RA, RB, ST, NS, I0, I1, I2, BO, FI, RG, GU, PU, MA, MN, MS, OT, SC], [r0, r1, r2, r3, w, r5, r6, r7, r8], Lg)) ((0, some (.int r.1), (126, 120, L, [Y, T, HA, HB, RA, RB, ST, NS, I0, I1, I2, BO, FI, RG, GU, PU, r.2.1, MN, r.2.2, OT, SC], [r0, r1, r2, r3, w, r5, r6, r7, r8], Lg)) : AOut) := by
  suffices key : ∀ o : AOut, ((0, some (.int r.1), (126, 120, L, [Y, T, HA, HB, RA, RB, ST, NS, I0, I1, I2, BO, FI, RG, GU, PU, r.2.1, MN, r.2.2, OT, SC], [r0, r1, r2, r3, w, r5, r6, r7, r8], Lg)) : AOut) = o → Ev (d + 5, 0, 0, 145, 0, [.val (.ref 1088), .val (.int p1), .val (.int p2), .val (.int p3), .val a_unk], [], (126, 120, L, [Y, T, HA, HB, RA, RB, ST, NS, I0, I1, I2, BO, FI, RG, GU, PU, MA, MN, MS, OT, SC], [r0, r1, r2, r3, w, r5, r6, r7, r8], Lg)) o from key _ rfl
  intro o ho
  obtain ⟨x1, zh1, h⟩ := bnd h
  have zh1 : f_M_within p2 1 60 = some x1 := zh1
  have ze2 := R_f_M_within_0 (d + 4) Y T HA HB RA RB ST NS I0 I1 I2 BO FI RG GU PU (u2 MA 0 0 0) MN MS OT SC r0 r1 r2 r3 w r5 r6 r7 r8 L Lg p2 1 60 zh1
  suffices e : Ev (d + 5, 0, 0, 145, 13, [.val (.ref 1088), .val (.int p1), .val (.int p2), .val (.int p3), .val a_unk], [.int x1, .ref 1088], (126, 120, L, [Y, T, HA, HB, RA, RB, ST, NS, I0, I1, I2, BO, FI, RG, GU, PU, (u2 MA 0 0 0), MN, MS, OT, SC], [r0, r1, r2, r3, w, r5, r6, r7, r8], Lg)) o from ev_call (fun v μ => (d + 5, 0, 0, 145, 13, [.val (.ref 1088), .val (.int p1), .val (.int p2), .val (.int p3), .val a_unk], v.toList ++ [.ref 1088], μ)) 8 ze2 e (fun n => Eq.refl _)
  obtain ⟨zt3, zh4, h⟩ := bnd h
  have zj5 : ∀ (v3 : Int32), v3 = zt3 → Ev (d + 5, 0, 0, 145, 30, [.val (.ref 1088), .val (.int p1), .val (.int p2), .val (.int p3), .val a_unk], [.int v3, .ref 1088], (126, 120, L, [Y, T, HA, HB, RA, RB, ST, NS, I0, I1, I2, BO, FI, RG, GU, PU, (u2 MA 0 0 0), MN, MS, OT, SC], [r0, r1, r2, r3, w, r5, r6, r7, r8], Lg)) o := by
    intro v3 ze6
    subst ze6
    obtain ⟨⟨x4, MA_5⟩, zh7, h⟩ := bnd h
    have zh7 : f_M_may (u2 MA 0 0 0) v3 1 1 = some (x4, MA_5) := zh7
    have ze8 := R_f_M_may_0 (d + 4) Y T HA HB RA RB ST NS I0 I1 I2 BO FI RG GU PU (u2 MA 0 0 0) MN MS OT SC r0 r1 r2 r3 w r5 r6 r7 r8 L Lg v3 1 1 zh7
    suffices e : Ev (d + 5, 0, 0, 145, 35, [.val (.ref 1088), .val (.int p1), .val (.int p2), .val (.int p3), .val a_unk], [.int x4], (126, 120, L, [Y, T, HA, HB, RA, RB, ST, NS, I0, I1, I2, BO, FI, RG, GU, PU, MA_5, MN, MS, OT, SC], [r0, r1, r2, r3, w, r5, r6, r7, r8], Lg)) o from ev_call (fun v μ => (d + 5, 0, 0, 145, 35, [.val (.ref 1088), .val (.int p1), .val (.int p2), .val (.int p3), .val a_unk], v.toList ++ [], μ)) 3 ze8 e (fun n => Eq.refl _)
    by_cases zc9 : x4 ≠ 0
    · have h := itp h zc9
      suffices e : Ev (d + 5, 0, 0, 145, 40, [.val (.ref 1088), .val (.int p1), .val (.int p2), .val (.int p3), .val a_unk], [], (126, 120, L, [Y, T, HA, HB, RA, RB, ST, NS, I0, I1, I2, BO, FI, RG, GU, PU, MA_5, MN, MS, OT, SC], [r0, r1, r2, r3, w, r5, r6, r7, r8], Lg)) o from ev_t (c := x4 ≠ 0) _ _ 1  zc9 e (fun n => Eq.refl _)
      obtain ⟨MS_6, zh10, h⟩ := bnd h
      have zh10 : f_M_aside MA_5 MS = some MS_6 := zh10
      have ze11 := R_f_M_aside_0 (d + 3) Y T HA HB RA RB ST NS I0 I1 I2 BO FI RG GU PU MA_5 MN MS OT SC r0 r1 r2 r3 w r5 r6 r7 r8 L Lg zh10
      suffices e : Ev (d + 5, 0, 0, 145, 44, [.val (.ref 1088), .val (.int p1), .val (.int p2), .val (.int p3), .val a_unk], [], (126, 120, L, [Y, T, HA, HB, RA, RB, ST, NS, I0, I1, I2, BO, FI, RG, GU, PU, MA_5, MN, MS_6, OT, SC], [r0, r1, r2, r3, w, r5, r6, r7, r8], Lg)) o from ev_call (fun v μ => (d + 5, 0, 0, 145, 44, [.val (.ref 1088), .val (.int p1), .val (.int p2), .val (.int p3), .val a_unk], v.toList ++ [], μ)) 2 ze11 e (fun n => Eq.refl _)
      obtain ⟨⟨MA_7, MS_8⟩, zh12, h⟩ := bnd h
      have zh12 : f_M_weekGoes MA_5 MS_6 p1 p2 = some (MA_7, MS_8) := zh12
      have ze13 := R_f_M_weekGoes_0 (d + 0) Y T HA HB RA RB ST NS I0 I1 I2 BO FI RG GU PU MA_5 MN MS_6 OT SC r0 r1 r2 r3 w r5 r6 r7 r8 L Lg p1 p2 zh12
      suffices e : Ev (d + 5, 0, 0, 145, 50, [.val (.ref 1088), .val (.int p1), .val (.int p2), .val (.int p3), .val a_unk], [], (126, 120, L, [Y, T, HA, HB, RA, RB, ST, NS, I0, I1, I2, BO, FI, RG, GU, PU, MA_7, MN, MS_8, OT, SC], [r0, r1, r2, r3, w, r5, r6, r7, r8], Lg)) o from ev_call (fun v μ => (d + 5, 0, 0, 145, 50, [.val (.ref 1088), .val (.int p1), .val (.int p2), .val (.int p3), .val a_unk], v.toList ++ [], μ)) 4 ze13 e (fun n => Eq.refl _)
      obtain ⟨x9, zh14, h⟩ := bnd h
      have zh14 : f_M_mostBorn MA_7 = some x9 := zh14
      have ze15 := R_f_M_mostBorn_0 (d + 3) Y T HA HB RA RB ST NS I0 I1 I2 BO FI RG GU PU MA_7 MN MS_8 OT SC r0 r1 r2 r3 w r5 r6 r7 r8 L Lg zh14
      suffices e : Ev (d + 5, 0, 0, 145, 54, [.val (.ref 1088), .val (.int p1), .val (.int p2), .val (.int p3), .val a_unk], [.int x9], (126, 120, L, [Y, T, HA, HB, RA, RB, ST, NS, I0, I1, I2, BO, FI, RG, GU, PU, MA_7, MN, MS_8, OT, SC], [r0, r1, r2, r3, w, r5, r6, r7, r8], Lg)) o from ev_call (fun v μ => (d + 5, 0, 0, 145, 54, [.val (.ref 1088), .val (.int p1), .val (.int p2), .val (.int p3), .val a_unk], v.toList ++ [], μ)) 2 ze15 e (fun n => Eq.refl _)
      obtain ⟨MA_10, zh16, h⟩ := bnd h
      have zh16 : f_M_back MA_7 MS_8 = some MA_10 := zh16
      have ze17 := R_f_M_back_0 (d + 3) Y T HA HB RA RB ST NS I0 I1 I2 BO FI RG GU PU MA_7 MN MS_8 OT SC r0 r1 r2 r3 w r5 r6 r7 r8 L Lg zh16
      suffices e : Ev (d + 5, 0, 0, 145, 60, [.val (.ref 1088), .val (.int p1), .val (.int p2), .val (.int p3), .val (.int x9)], [], (126, 120, L, [Y, T, HA, HB, RA, RB, ST, NS, I0, I1, I2, BO, FI, RG, GU, PU, MA_10, MN, MS_8, OT, SC], [r0, r1, r2, r3, w, r5, r6, r7, r8], Lg)) o from ev_call (fun v μ => (d + 5, 0, 0, 145, 60, [.val (.ref 1088), .val (.int p1), .val (.int p2), .val (.int p3), .val (.int x9)], v.toList ++ [], μ)) 3 ze17 e (fun n => Eq.refl _)
      by_cases zc18 : p3 ≠ 0
      · have h := itp h zc18
        suffices e : Ev (d + 5, 0, 0, 145, 71, [.val (.ref 1088), .val (.int p1), .val (.int p2), .val (.int p3), .val (.int x9)], [], (126, 120, L, [Y, T, HA, HB, RA, RB, ST, NS, I0, I1, I2, BO, FI, RG, GU, PU, MA_10, MN, MS_8, OT, SC], [r0, r1, r2, r3, w, r5, r6, r7, r8], Lg)) o from ev_t (c := p3 ≠ 0) _ _ 2  zc18 e (fun n => Eq.refl _)
        by_cases zc19 : p3 ≠ 1
        · have h := itp h zc19
          suffices e : Ev (d + 5, 0, 0, 145, 83, [.val (.ref 1088), .val (.int p1), .val (.int p2), .val (.int p3), .val (.int x9)], [], (126, 120, L, [Y, T, HA, HB, RA, RB, ST, NS, I0, I1, I2, BO, FI, RG, GU, PU, MA_10, MN, MS_8, OT, SC], [r0, r1, r2, r3, w, r5, r6, r7, r8], Lg)) o from ev_t (c := p3 ≠ 1) _ _ 3  zc19 e (fun n => Eq.refl _)
          have ze20 := Option.some.inj h
          subst ze20
          exact ev_rete 2 ho (fun n => Eq.refl _)
        · have h := itn h zc19
          suffices e : Ev (d + 5, 0, 0, 145, 76, [.val (.ref 1088), .val (.int p1), .val (.int p2), .val (.int p3), .val (.int x9)], [], (126, 120, L, [Y, T, HA, HB, RA, RB, ST, NS, I0, I1, I2, BO, FI, RG, GU, PU, MA_10, MN, MS_8, OT, SC], [r0, r1, r2, r3, w, r5, r6, r7, r8], Lg)) o from ev_f (c := p3 ≠ 1) _ _ 3  zc19 e (fun n => Eq.refl _)
          have ze21 := Option.some.inj h
          subst ze21
          exact ev_rete 4 ho (fun n => Eq.refl _)
      · have h := itn h zc18
        suffices e : Ev (d + 5, 0, 0, 145, 64, [.val (.ref 1088), .val (.int p1), .val (.int p2), .val (.int p3), .val (.int x9)], [], (126, 120, L, [Y, T, HA, HB, RA, RB, ST, NS, I0, I1, I2, BO, FI, RG, GU, PU, MA_10, MN, MS_8, OT, SC], [r0, r1, r2, r3, w, r5, r6, r7, r8], Lg)) o from ev_f (c := p3 ≠ 0) _ _ 2  zc18 e (fun n => Eq.refl _)
        have ze22 := Option.some.inj h
        subst ze22
        exact ev_rete 4 ho (fun n => Eq.refl _)
    · have h := itn h zc9
      suffices e : Ev (d + 5, 0, 0, 145, 38, [.val (.ref 1088), .val (.int p1), .val (.int p2), .val (.int p3), .val a_unk], [], (126, 120, L, [Y, T, HA, HB, RA, RB, ST, NS, I0, I1, I2, BO, FI, RG, GU, PU, MA_5, MN, MS, OT, SC], [r0, r1, r2, r3, w, r5, r6, r7, r8], Lg)) o from ev_f (c := x4 ≠ 0) _ _ 1  zc9 e (fun n => Eq.refl _)
      have ze23 := Option.some.inj h
      subst ze23
      exact ev_rete 2 ho (fun n => Eq.refl _)
  obtain ⟨zt24, zh25, zh4⟩ := bnd zh4
  have zj26 : zt24 = .inl () → Ev (d + 5, 0, 0, 145, 29, [.val (.ref 1088), .val (.int p1), .val (.int p2), .val (.int p3), .val a_unk], [.ref 1088], (126, 120, L, [Y, T, HA, HB, RA, RB, ST, NS, I0, I1, I2, BO, FI, RG, GU, PU, (u2 MA 0 0 0), MN, MS, OT, SC], [r0, r1, r2, r3, w, r5, r6, r7, r8], Lg)) o := by
    intro ze27
    have zh4 := sum_l zh4 ze27
    exact ev_b 1 (zj5 0 (Option.some.inj zh4) ) (fun n => Eq.refl _)
  by_cases zc28 : x1 = 0
  · have zh25 := itp zh25 zc28
    suffices e : Ev (d + 5, 0, 0, 145, 29, [.val (.ref 1088), .val (.int p1), .val (.int p2), .val (.int p3), .val a_unk], [.ref 1088], (126, 120, L, [Y, T, HA, HB, RA, RB, ST, NS, I0, I1, I2, BO, FI, RG, GU, PU, (u2 MA 0 0 0), MN, MS, OT, SC], [r0, r1, r2, r3, w, r5, r6, r7, r8], Lg)) o from ev_t (c := x1 = 0) _ _ 1  zc28 e (fun n => Eq.refl _)
    exact ev_b 0 (zj26  (Option.some.inj zh25).symm ) (fun n => Eq.refl _)
  · have zh25 := itn zh25 zc28
    suffices e : Ev (d + 5, 0, 0, 145, 16, [.val (.ref 1088), .val (.int p1), .val (.int p2), .val (.int p3), .val a_unk], [.ref 1088], (126, 120, L, [Y, T, HA, HB, RA, RB, ST, NS, I0, I1, I2, BO, FI, RG, GU, PU, (u2 MA 0 0 0), MN, MS, OT, SC], [r0, r1, r2, r3, w, r5, r6, r7, r8], Lg)) o from ev_f (c := x1 = 0) _ _ 1  zc28 e (fun n => Eq.refl _)
    obtain ⟨x2, zh29, zh25⟩ := bnd zh25
    have zh29 : f_M_within p3 0 2 = some x2 := zh29
    have ze30 := R_f_M_within_0 (d + 4) Y T HA HB RA RB ST NS I0 I1 I2 BO FI RG GU PU (u2 MA 0 0 0) MN MS OT SC r0 r1 r2 r3 w r5 r6 r7 r8 L Lg p3 0 2 zh29
    suffices e : Ev (d + 5, 0, 0, 145, 22, [.val (.ref 1088), .val (.int p1), .val (.int p2), .val (.int p3), .val a_unk], [.int x2, .ref 1088], (126, 120, L, [Y, T, HA, HB, RA, RB, ST, NS, I0, I1, I2, BO, FI, RG, GU, PU, (u2 MA 0 0 0), MN, MS, OT, SC], [r0, r1, r2, r3, w, r5, r6, r7, r8], Lg)) o from ev_call (fun v μ => (d + 5, 0, 0, 145, 22, [.val (.ref 1088), .val (.int p1), .val (.int p2), .val (.int p3), .val a_unk], v.toList ++ [.ref 1088], μ)) 4 ze30 e (fun n => Eq.refl _)
    by_cases zc31 : x2 = 0
    · have zh25 := itp zh25 zc31
      suffices e : Ev (d + 5, 0, 0, 145, 29, [.val (.ref 1088), .val (.int p1), .val (.int p2), .val (.int p3), .val a_unk], [.ref 1088], (126, 120, L, [Y, T, HA, HB, RA, RB, ST, NS, I0, I1, I2, BO, FI, RG, GU, PU, (u2 MA 0 0 0), MN, MS, OT, SC], [r0, r1, r2, r3, w, r5, r6, r7, r8], Lg)) o from ev_t (c := x2 = 0) _ _ 1  zc31 e (fun n => Eq.refl _)
      exact ev_b 0 (zj26  (Option.some.inj zh25).symm ) (fun n => Eq.refl _)
    · have zh25 := itn zh25 zc31
      suffices e : Ev (d + 5, 0, 0, 145, 25, [.val (.ref 1088), .val (.int p1), .val (.int p2), .val (.int p3), .val a_unk], [.ref 1088], (126, 120, L, [Y, T, HA, HB, RA, RB, ST, NS, I0, I1, I2, BO, FI, RG, GU, PU, (u2 MA 0 0 0), MN, MS, OT, SC], [r0, r1, r2, r3, w, r5, r6, r7, r8], Lg)) o from ev_f (c := x2 = 0) _ _ 1  zc31 e (fun n => Eq.refl _)
      have zh32 := sum_r zh4 (Option.some.inj zh25).symm
      exact ev_b 2 (zj5 1 (Option.some.inj zh32) ) (fun n => Eq.refl _)
set_option maxRecDepth 1000000 in
set_option maxHeartbeats 4000000 in
theorem R_f_M_done_0 (d : Nat) (Y T HA HB RA RB ST NS I0 I1 I2 BO FI RG GU PU MA MN MS OT SC : Nat → Nat → Int32) (r0 r1 r2 r3 w r5 r6 r7 r8 : Nat) (L : Nat) (Lg : Int64) (p1 : Int32) (p2 : Int32) {r : Int32 × (Nat → Nat → Int32) × (Nat → Nat → Int32)} (h : f_M_done MA MS p1 p2 = some r) : Ev (d + 5, 0, 0, 146, 0, [.val (.ref 1088), .val (.int p1), .val (.int p2)], [], (126, 120, L, [Y, T, HA, HB, RA, RB, ST, NS, I0, I1, I2, BO, FI, RG, GU, PU, MA, MN, MS, OT, SC], [r0, r1, r2, r3, w, r5, r6, r7, r8], Lg)) ((0, some (.int r.1), (126, 120, L, [Y, T, HA, HB, RA, RB, ST, NS, I0, I1, I2, BO, FI, RG, GU, PU, r.2.1, MN, r.2.2, OT, SC], [r0, r1, r2, r3, w, r5, r6, r7, r8], Lg)) : AOut) := by
  suffices key : ∀ o : AOut, ((0, some (.int r.1), (126, 120, L, [Y, T, HA, HB, RA, RB, ST, NS, I0, I1, I2, BO, FI, RG, GU, PU, r.2.1, MN, r.2.2, OT, SC], [r0, r1, r2, r3, w, r5, r6, r7, r8], Lg)) : AOut) = o → Ev (d + 5, 0, 0, 146, 0, [.val (.ref 1088), .val (.int p1), .val (.int p2)], [], (126, 120, L, [Y, T, HA, HB, RA, RB, ST, NS, I0, I1, I2, BO, FI, RG, GU, PU, MA, MN, MS, OT, SC], [r0, r1, r2, r3, w, r5, r6, r7, r8], Lg)) o from key _ rfl
  intro o ho
  obtain ⟨x1, zh1, h⟩ := bnd h
  have zh1 : f_M_within p2 1 60 = some x1 := zh1
  have ze2 := R_f_M_within_0 (d + 4) Y T HA HB RA RB ST NS I0 I1 I2 BO FI RG GU PU (u2 MA 0 0 0) MN MS OT SC r0 r1 r2 r3 w r5 r6 r7 r8 L Lg p2 1 60 zh1
  suffices e : Ev (d + 5, 0, 0, 146, 13, [.val (.ref 1088), .val (.int p1), .val (.int p2)], [.int x1, .ref 1088], (126, 120, L, [Y, T, HA, HB, RA, RB, ST, NS, I0, I1, I2, BO, FI, RG, GU, PU, (u2 MA 0 0 0), MN, MS, OT, SC], [r0, r1, r2, r3, w, r5, r6, r7, r8], Lg)) o from ev_call (fun v μ => (d + 5, 0, 0, 146, 13, [.val (.ref 1088), .val (.int p1), .val (.int p2)], v.toList ++ [.ref 1088], μ)) 8 ze2 e (fun n => Eq.refl _)
  obtain ⟨⟨x2, MA_3⟩, zh3, h⟩ := bnd h
  have zh3 : f_M_may (u2 MA 0 0 0) x1 1 1 = some (x2, MA_3) := zh3
  have ze4 := R_f_M_may_0 (d + 4) Y T HA HB RA RB ST NS I0 I1 I2 BO FI RG GU PU (u2 MA 0 0 0) MN MS OT SC r0 r1 r2 r3 w r5 r6 r7 r8 L Lg x1 1 1 zh3
  suffices e : Ev (d + 5, 0, 0, 146, 18, [.val (.ref 1088), .val (.int p1), .val (.int p2)], [.int x2], (126, 120, L, [Y, T, HA, HB, RA, RB, ST, NS, I0, I1, I2, BO, FI, RG, GU, PU, MA_3, MN, MS, OT, SC], [r0, r1, r2, r3, w, r5, r6, r7, r8], Lg)) o from ev_call (fun v μ => (d + 5, 0, 0, 146, 18, [.val (.ref 1088), .val (.int p1), .val (.int p2)], v.toList ++ [], μ)) 3 ze4 e (fun n => Eq.refl _)
  by_cases zc5 : x2 ≠ 0
  · have h := itp h zc5
    suffices e : Ev (d + 5, 0, 0, 146, 23, [.val (.ref 1088), .val (.int p1), .val (.int p2)], [], (126, 120, L, [Y, T, HA, HB, RA, RB, ST, NS, I0, I1, I2, BO, FI, RG, GU, PU, MA_3, MN, MS, OT, SC], [r0, r1, r2, r3, w, r5, r6, r7, r8], Lg)) o from ev_t (c := x2 ≠ 0) _ _ 1  zc5 e (fun n => Eq.refl _)
    by_cases zc6 : (MA_3 0 43) ≠ 30
    · have h := itp h zc6
      suffices e : Ev (d + 5, 0, 0, 146, 35, [.val (.ref 1088), .val (.int p1), .val (.int p2)], [], (126, 120, L, [Y, T, HA, HB, RA, RB, ST, NS, I0, I1, I2, BO, FI, RG, GU, PU, MA_3, MN, MS, OT, SC], [r0, r1, r2, r3, w, r5, r6, r7, r8], Lg)) o from ev_t (c := (MA_3 0 43) ≠ 30) _ _ 4  zc6 e (fun n => Eq.refl _)
      obtain ⟨MA_4, zh7, h⟩ := bnd h
      have zh7 : f_M_keepsAct MA_3 = some MA_4 := zh7
      have ze8 := R_f_M_keepsAct_0 (d + 4) Y T HA HB RA RB ST NS I0 I1 I2 BO FI RG GU PU MA_3 MN MS OT SC r0 r1 r2 r3 w r5 r6 r7 r8 L Lg zh7
      suffices e : Ev (d + 5, 0, 0, 146, 39, [.val (.ref 1088), .val (.int p1), .val (.int p2)], [], (126, 120, L, [Y, T, HA, HB, RA, RB, ST, NS, I0, I1, I2, BO, FI, RG, GU, PU, MA_4, MN, MS, OT, SC], [r0, r1, r2, r3, w, r5, r6, r7, r8], Lg)) o from ev_call (fun v μ => (d + 5, 0, 0, 146, 39, [.val (.ref 1088), .val (.int p1), .val (.int p2)], v.toList ++ [], μ)) 2 ze8 e (fun n => Eq.refl _)
      obtain ⟨⟨MA_5, MS_6⟩, zh9, h⟩ := bnd h
      have zh9 : f_M_weekGoes MA_4 MS p1 p2 = some (MA_5, MS_6) := zh9
      have ze10 := R_f_M_weekGoes_0 (d + 0) Y T HA HB RA RB ST NS I0 I1 I2 BO FI RG GU PU MA_4 MN MS OT SC r0 r1 r2 r3 w r5 r6 r7 r8 L Lg p1 p2 zh9
      suffices e : Ev (d + 5, 0, 0, 146, 45, [.val (.ref 1088), .val (.int p1), .val (.int p2)], [], (126, 120, L, [Y, T, HA, HB, RA, RB, ST, NS, I0, I1, I2, BO, FI, RG, GU, PU, MA_5, MN, MS_6, OT, SC], [r0, r1, r2, r3, w, r5, r6, r7, r8], Lg)) o from ev_call (fun v μ => (d + 5, 0, 0, 146, 45, [.val (.ref 1088), .val (.int p1), .val (.int p2)], v.toList ++ [], μ)) 4 ze10 e (fun n => Eq.refl _)
      have ze11 := Option.some.inj h
      subst ze11
      exact ev_rete 3 ho (fun n => Eq.refl _)
    · have h := itn h zc6
      suffices e : Ev (d + 5, 0, 0, 146, 32, [.val (.ref 1088), .val (.int p1), .val (.int p2)], [], (126, 120, L, [Y, T, HA, HB, RA, RB, ST, NS, I0, I1, I2, BO, FI, RG, GU, PU, MA_3, MN, MS, OT, SC], [r0, r1, r2, r3, w, r5, r6, r7, r8], Lg)) o from ev_f (c := (MA_3 0 43) ≠ 30) _ _ 4  zc6 e (fun n => Eq.refl _)
      have ze12 := Option.some.inj h
      subst ze12
      exact ev_rete 2 ho (fun n => Eq.refl _)
  · have h := itn h zc5
    suffices e : Ev (d + 5, 0, 0, 146, 21, [.val (.ref 1088), .val (.int p1), .val (.int p2)], [], (126, 120, L, [Y, T, HA, HB, RA, RB, ST, NS, I0, I1, I2, BO, FI, RG, GU, PU, MA_3, MN, MS, OT, SC], [r0, r1, r2, r3, w, r5, r6, r7, r8], Lg)) o from ev_f (c := x2 ≠ 0) _ _ 1  zc5 e (fun n => Eq.refl _)
    have ze13 := Option.some.inj h
    subst ze13
    exact ev_rete 2 ho (fun n => Eq.refl _)
set_option maxRecDepth 1000000 in
set_option maxHeartbeats 4000000 in
theorem R_f_M_span_0 (d : Nat) (Y T HA HB RA RB ST NS I0 I1 I2 BO FI RG GU PU MA MN MS OT SC : Nat → Nat → Int32) (r0 r1 r2 r3 w r5 r6 r7 r8 : Nat) (L : Nat) (Lg : Int64) (p1 : Int32) (p2 : Int32) (p3 : Int32) (p4 : Int32) {r : Int32 × (Nat → Nat → Int32) × (Nat → Nat → Int32)} (h : f_M_span MA MS p1 p2 p3 p4 = some r) : Ev (d + 5, 0, 0, 147, 0, [.val (.ref 1088), .val (.int p1), .val (.int p2), .val (.int p3), .val (.int p4), .val a_unk, .val a_unk, .val a_unk, .val a_unk], [], (126, 120, L, [Y, T, HA, HB, RA, RB, ST, NS, I0, I1, I2, BO, FI, RG, GU, PU, MA, MN, MS, OT, SC], [r0, r1, r2, r3, w, r5, r6, r7, r8], Lg)) ((0, some (.int r.1), (126, 120, L, [Y, T, HA, HB, RA, RB, ST, NS, I0, I1, I2, BO, FI, RG, GU, PU, r.2.1, MN, r.2.2, OT, SC], [r0, r1, r2, r3, w, r5, r6, r7, r8], Lg)) : AOut) := by
  suffices key : ∀ o : AOut, ((0, some (.int r.1), (126, 120, L, [Y, T, HA, HB, RA, RB, ST, NS, I0, I1, I2, BO, FI, RG, GU, PU, r.2.1, MN, r.2.2, OT, SC], [r0, r1, r2, r3, w, r5, r6, r7, r8], Lg)) : AOut) = o → Ev (d + 5, 0, 0, 147, 0, [.val (.ref 1088), .val (.int p1), .val (.int p2), .val (.int p3), .val (.int p4), .val a_unk, .val a_unk, .val a_unk, .val a_unk], [], (126, 120, L, [Y, T, HA, HB, RA, RB, ST, NS, I0, I1, I2, BO, FI, RG, GU, PU, MA, MN, MS, OT, SC], [r0, r1, r2, r3, w, r5, r6, r7, r8], Lg)) o from key _ rfl
  intro o ho
  obtain ⟨x1, zh1, h⟩ := bnd h
  have zh1 : f_M_within p2 1 20 = some x1 := zh1
  have ze2 := R_f_M_within_0 (d + 4) Y T HA HB RA RB ST NS I0 I1 I2 BO FI RG GU PU (u2 MA 0 0 0) MN MS OT SC r0 r1 r2 r3 w r5 r6 r7 r8 L Lg p2 1 20 zh1
  suffices e : Ev (d + 5, 0, 0, 147, 13, [.val (.ref 1088), .val (.int p1), .val (.int p2), .val (.int p3), .val (.int p4), .val a_unk, .val a_unk, .val a_unk, .val a_unk], [.int x1, .ref 1088], (126, 120, L, [Y, T, HA, HB, RA, RB, ST, NS, I0, I1, I2, BO, FI, RG, GU, PU, (u2 MA 0 0 0), MN, MS, OT, SC], [r0, r1, r2, r3, w, r5, r6, r7, r8], Lg)) o from ev_call (fun v μ => (d + 5, 0, 0, 147, 13, [.val (.ref 1088), .val (.int p1), .val (.int p2), .val (.int p3), .val (.int p4), .val a_unk, .val a_unk, .val a_unk, .val a_unk], v.toList ++ [.ref 1088], μ)) 8 ze2 e (fun n => Eq.refl _)
  obtain ⟨zt3, zh4, h⟩ := bnd h
  have zj5 : ∀ (v4 : Int32), v4 = zt3 → Ev (d + 5, 0, 0, 147, 41, [.val (.ref 1088), .val (.int p1), .val (.int p2), .val (.int p3), .val (.int p4), .val a_unk, .val a_unk, .val a_unk, .val a_unk], [.int v4, .ref 1088], (126, 120, L, [Y, T, HA, HB, RA, RB, ST, NS, I0, I1, I2, BO, FI, RG, GU, PU, (u2 MA 0 0 0), MN, MS, OT, SC], [r0, r1, r2, r3, w, r5, r6, r7, r8], Lg)) o := by
    intro v4 ze6
    subst ze6
    obtain ⟨⟨x5, MA_6⟩, zh7, h⟩ := bnd h
    have zh7 : f_M_may (u2 MA 0 0 0) v4 1 1 = some (x5, MA_6) := zh7
    have ze8 := R_f_M_may_0 (d + 4) Y T HA HB RA RB ST NS I0 I1 I2 BO FI RG GU PU (u2 MA 0 0 0) MN MS OT SC r0 r1 r2 r3 w r5 r6 r7 r8 L Lg v4 1 1 zh7
    suffices e : Ev (d + 5, 0, 0, 147, 46, [.val (.ref 1088), .val (.int p1), .val (.int p2), .val (.int p3), .val (.int p4), .val a_unk, .val a_unk, .val a_unk, .val a_unk], [.int x5], (126, 120, L, [Y, T, HA, HB, RA, RB, ST, NS, I0, I1, I2, BO, FI, RG, GU, PU, MA_6, MN, MS, OT, SC], [r0, r1, r2, r3, w, r5, r6, r7, r8], Lg)) o from ev_call (fun v μ => (d + 5, 0, 0, 147, 46, [.val (.ref 1088), .val (.int p1), .val (.int p2), .val (.int p3), .val (.int p4), .val a_unk, .val a_unk, .val a_unk, .val a_unk], v.toList ++ [], μ)) 3 ze8 e (fun n => Eq.refl _)
    by_cases zc9 : x5 ≠ 0
    · have h := itp h zc9
      suffices e : Ev (d + 5, 0, 0, 147, 51, [.val (.ref 1088), .val (.int p1), .val (.int p2), .val (.int p3), .val (.int p4), .val a_unk, .val a_unk, .val a_unk, .val a_unk], [], (126, 120, L, [Y, T, HA, HB, RA, RB, ST, NS, I0, I1, I2, BO, FI, RG, GU, PU, MA_6, MN, MS, OT, SC], [r0, r1, r2, r3, w, r5, r6, r7, r8], Lg)) o from ev_t (c := x5 ≠ 0) _ _ 1  zc9 e (fun n => Eq.refl _)
      obtain ⟨MS_7, zh10, h⟩ := bnd h
      have zh10 : f_M_aside MA_6 MS = some MS_7 := zh10
      have ze11 := R_f_M_aside_0 (d + 3) Y T HA HB RA RB ST NS I0 I1 I2 BO FI RG GU PU MA_6 MN MS OT SC r0 r1 r2 r3 w r5 r6 r7 r8 L Lg zh10
      suffices e : Ev (d + 5, 0, 0, 147, 64, [.val (.ref 1088), .val (.int p1), .val (.int p2), .val (.int p3), .val (.int p4), .val (.int (-1)), .val (.int 0), .val (.int 0), .val a_unk], [], (126, 120, L, [Y, T, HA, HB, RA, RB, ST, NS, I0, I1, I2, BO, FI, RG, GU, PU, MA_6, MN, MS_7, OT, SC], [r0, r1, r2, r3, w, r5, r6, r7, r8], Lg)) o from ev_call (fun v μ => (d + 5, 0, 0, 147, 64, [.val (.ref 1088), .val (.int p1), .val (.int p2), .val (.int p3), .val (.int p4), .val (.int (-1)), .val (.int 0), .val (.int 0), .val a_unk], v.toList ++ [], μ)) 8 ze11 e (fun n => Eq.refl _)
      obtain ⟨zb12, zh13, h⟩ := bnd h
      suffices e : Ev (d + 5, 0, 0, 147, 67, [.val (.ref 1088), .val (.int p1), .val (.int p2), .val (.int p3), .val (.int p4), .val (.int (-1)), .val (.int 0), .val (.int 0), .val (.int 0)], [], (126, 120, L, [Y, T, HA, HB, RA, RB, ST, NS, I0, I1, I2, BO, FI, RG, GU, PU, MA_6, MN, MS_7, OT, SC], [r0, r1, r2, r3, w, r5, r6, r7, r8], Lg)) o from ev_b 2 e (fun n => Eq.refl _)
      refine ev_loop (δ := Unit) (fun a j => (d + 5, 0, 0, 147, 67, [.val (.ref 1088), .val (.int p1), .val (.int p2), .val (.int p3), .val (.int p4), .val (.int a.1), .val (.int a.2.1), .val (.int a.2.2.1), .val (.int a.2.2.2.1)], [], (126, 120, L, [Y, T, HA, HB, RA, RB, ST, NS, I0, I1, I2, BO, FI, RG, GU, PU, a.2.2.2.2.1, MN, a.2.2.2.2.2, OT, SC], [r0, r1, r2, r3, w, r5, r6, r7, r8], Lg))) (fun b => ∀ s22 : Value, Ev (d + 5, 0, 0, 147, 147, [.val (.ref 1088), .val (.int p1), .val (.int p2), .val (.int p3), .val (.int p4), .val (.int b.1), .val (.int b.2.1), .val (.int b.2.2.1), .val s22], [], (126, 120, L, [Y, T, HA, HB, RA, RB, ST, NS, I0, I1, I2, BO, FI, RG, GU, PU, b.2.2.2.1, MN, b.2.2.2.2, OT, SC], [r0, r1, r2, r3, w, r5, r6, r7, r8], Lg)) o) ?_ a_F ((-1), 0, 0, 0, MA_6, MS_7) zb12 zh13 ?_ ()
      · rintro ⟨v8, v9, v10, v11, MA_12, MS_13⟩ zr17 zh16 zi14 zx15 ⟨⟩
        have zh16 : f_M_span_l67 p2 p1 p3 v8 v9 v10 v11 MA_12 MS_13 = some zr17 := zh16
        by_cases zc18 : p2 ≤ v11
        · have zh16 := itp zh16 zc18
          suffices e : Ev (d + 5, 0, 0, 147, 147, [.val (.ref 1088), .val (.int p1), .val (.int p2), .val (.int p3), .val (.int p4), .val (.int v8), .val (.int v9), .val (.int v10), .val (.int v11)], [], (126, 120, L, [Y, T, HA, HB, RA, RB, ST, NS, I0, I1, I2, BO, FI, RG, GU, PU, MA_12, MN, MS_13, OT, SC], [r0, r1, r2, r3, w, r5, r6, r7, r8], Lg)) o from ev_t (c := p2 ≤ v11) _ _ 3  zc18 e (fun n => Eq.refl _)
          exact ev_b 0 (zx15 _ (Option.some.inj zh16).symm (.int v11)) (fun n => Eq.refl _)
        · have zh16 := itn zh16 zc18
          suffices e : Ev (d + 5, 0, 0, 147, 73, [.val (.ref 1088), .val (.int p1), .val (.int p2), .val (.int p3), .val (.int p4), .val (.int v8), .val (.int v9), .val (.int v10), .val (.int v11)], [], (126, 120, L, [Y, T, HA, HB, RA, RB, ST, NS, I0, I1, I2, BO, FI, RG, GU, PU, MA_12, MN, MS_13, OT, SC], [r0, r1, r2, r3, w, r5, r6, r7, r8], Lg)) o from ev_f (c := p2 ≤ v11) _ _ 3  zc18 e (fun n => Eq.refl _)
          obtain ⟨⟨MA_14, MS_15⟩, zh19, zh16⟩ := bnd zh16
          have zh19 : f_M_weekGoes MA_12 MS_13 (p1 + v11) p3 = some (MA_14, MS_15) := zh19
          have ze20 := R_f_M_weekGoes_0 (d + 0) Y T HA HB RA RB ST NS I0 I1 I2 BO FI RG GU PU MA_12 MN MS_13 OT SC r0 r1 r2 r3 w r5 r6 r7 r8 L Lg (p1 + v11) p3 zh19
          suffices e : Ev (d + 5, 0, 0, 147, 82, [.val (.ref 1088), .val (.int p1), .val (.int p2), .val (.int p3), .val (.int p4), .val (.int v8), .val (.int v9), .val (.int v10), .val (.int v11)], [], (126, 120, L, [Y, T, HA, HB, RA, RB, ST, NS, I0, I1, I2, BO, FI, RG, GU, PU, MA_14, MN, MS_15, OT, SC], [r0, r1, r2, r3, w, r5, r6, r7, r8], Lg)) o from ev_call (fun v μ => (d + 5, 0, 0, 147, 82, [.val (.ref 1088), .val (.int p1), .val (.int p2), .val (.int p3), .val (.int p4), .val (.int v8), .val (.int v9), .val (.int v10), .val (.int v11)], v.toList ++ [], μ)) 6 ze20 e (fun n => Eq.refl _)
          obtain ⟨MA_16, zh21, zh16⟩ := bnd zh16
          have zh21 : f_M_back MA_14 MS_15 = some MA_16 := zh21
          have ze22 := R_f_M_back_0 (d + 3) Y T HA HB RA RB ST NS I0 I1 I2 BO FI RG GU PU MA_14 MN MS_15 OT SC r0 r1 r2 r3 w r5 r6 r7 r8 L Lg zh21
          suffices e : Ev (d + 5, 0, 0, 147, 86, [.val (.ref 1088), .val (.int p1), .val (.int p2), .val (.int p3), .val (.int p4), .val (.int v8), .val (.int v9), .val (.int v10), .val (.int v11)], [], (126, 120, L, [Y, T, HA, HB, RA, RB, ST, NS, I0, I1, I2, BO, FI, RG, GU, PU, MA_16, MN, MS_15, OT, SC], [r0, r1, r2, r3, w, r5, r6, r7, r8], Lg)) o from ev_call (fun v μ => (d + 5, 0, 0, 147, 86, [.val (.ref 1088), .val (.int p1), .val (.int p2), .val (.int p3), .val (.int p4), .val (.int v8), .val (.int v9), .val (.int v10), .val (.int v11)], v.toList ++ [], μ)) 2 ze22 e (fun n => Eq.refl _)
          obtain ⟨zt23, zh24, zh16⟩ := bnd zh16
          have zj25 : ∀ (v17 : Int32), v17 = zt23 → Ev (d + 5, 0, 0, 147, 110, [.val (.ref 1088), .val (.int p1), .val (.int p2), .val (.int p3), .val (.int p4), .val (.int v8), .val (.int v9), .val (.int v10), .val (.int v11)], [.int v17], (126, 120, L, [Y, T, HA, HB, RA, RB, ST, NS, I0, I1, I2, BO, FI, RG, GU, PU, MA_16, MN, MS_15, OT, SC], [r0, r1, r2, r3, w, r5, r6, r7, r8], Lg)) o := by
            intro v17 ze26
            subst ze26
            obtain ⟨zt27, zh28, zh16⟩ := bnd zh16
            have zj29 : ∀ (v18 : Int32), v18 = zt27 → Ev (d + 5, 0, 0, 147, 130, [.val (.ref 1088), .val (.int p1), .val (.int p2), .val (.int p3), .val (.int p4), .val (.int v17), .val (.int v9), .val (.int v10), .val (.int v11)], [.int v18], (126, 120, L, [Y, T, HA, HB, RA, RB, ST, NS, I0, I1, I2, BO, FI, RG, GU, PU, MA_16, MN, MS_15, OT, SC], [r0, r1, r2, r3, w, r5, r6, r7, r8], Lg)) o := by
              intro v18 ze30
              subst ze30
              exact ev_b 8 (zi14 _ (Option.some.inj zh16).symm ()) (fun n => Eq.refl _)
            by_cases zc31 : (MS_15 0 60) ≤ v9
            · have zh28 := itp zh28 zc31
              suffices e : Ev (d + 5, 0, 0, 147, 128, [.val (.ref 1088), .val (.int p1), .val (.int p2), .val (.int p3), .val (.int p4), .val (.int v17), .val (.int v9), .val (.int v10), .val (.int v11)], [], (126, 120, L, [Y, T, HA, HB, RA, RB, ST, NS, I0, I1, I2, BO, FI, RG, GU, PU, MA_16, MN, MS_15, OT, SC], [r0, r1, r2, r3, w, r5, r6, r7, r8], Lg)) o from ev_t (c := (MS_15 0 60) ≤ v9) _ _ 5  zc31 e (fun n => Eq.refl _)
              exact ev_b 1 (zj29 v9 (Option.some.inj zh28) ) (fun n => Eq.refl _)
            · have zh28 := itn zh28 zc31
              suffices e : Ev (d + 5, 0, 0, 147, 121, [.val (.ref 1088), .val (.int p1), .val (.int p2), .val (.int p3), .val (.int p4), .val (.int v17), .val (.int v9), .val (.int v10), .val (.int v11)], [], (126, 120, L, [Y, T, HA, HB, RA, RB, ST, NS, I0, I1, I2, BO, FI, RG, GU, PU, MA_16, MN, MS_15, OT, SC], [r0, r1, r2, r3, w, r5, r6, r7, r8], Lg)) o from ev_f (c := (MS_15 0 60) ≤ v9) _ _ 5  zc31 e (fun n => Eq.refl _)
              exact ev_b 3 (zj29 (MS_15 0 60) (Option.some.inj zh28) ) (fun n => Eq.refl _)
          obtain ⟨zt32, zh33, zh24⟩ := bnd zh24
          have zj34 : zt32 = .inl () → Ev (d + 5, 0, 0, 147, 101, [.val (.ref 1088), .val (.int p1), .val (.int p2), .val (.int p3), .val (.int p4), .val (.int v8), .val (.int v9), .val (.int v10), .val (.int v11)], [], (126, 120, L, [Y, T, HA, HB, RA, RB, ST, NS, I0, I1, I2, BO, FI, RG, GU, PU, MA_16, MN, MS_15, OT, SC], [r0, r1, r2, r3, w, r5, r6, r7, r8], Lg)) o := by
            intro ze35
            have zh24 := sum_l zh24 ze35
            exact ev_b 3 (zj25 (MS_15 0 60) (Option.some.inj zh24) ) (fun n => Eq.refl _)
          by_cases zc36 : v8 = (-1)
          · have zh33 := itp zh33 zc36
            suffices e : Ev (d + 5, 0, 0, 147, 101, [.val (.ref 1088), .val (.int p1), .val (.int p2), .val (.int p3), .val (.int p4), .val (.int v8), .val (.int v9), .val (.int v10), .val (.int v11)], [], (126, 120, L, [Y, T, HA, HB, RA, RB, ST, NS, I0, I1, I2, BO, FI, RG, GU, PU, MA_16, MN, MS_15, OT, SC], [r0, r1, r2, r3, w, r5, r6, r7, r8], Lg)) o from ev_t (c := v8 = (-1)) _ _ 3  zc36 e (fun n => Eq.refl _)
            exact ev_b 0 (zj34  (Option.some.inj zh33).symm ) (fun n => Eq.refl _)
          · have zh33 := itn zh33 zc36
            suffices e : Ev (d + 5, 0, 0, 147, 92, [.val (.ref 1088), .val (.int p1), .val (.int p2), .val (.int p3), .val (.int p4), .val (.int v8), .val (.int v9), .val (.int v10), .val (.int v11)], [], (126, 120, L, [Y, T, HA, HB, RA, RB, ST, NS, I0, I1, I2, BO, FI, RG, GU, PU, MA_16, MN, MS_15, OT, SC], [r0, r1, r2, r3, w, r5, r6, r7, r8], Lg)) o from ev_f (c := v8 = (-1)) _ _ 3  zc36 e (fun n => Eq.refl _)
            by_cases zc37 : v8 ≤ (MS_15 0 60)
            · have zh33 := itp zh33 zc37
              suffices e : Ev (d + 5, 0, 0, 147, 108, [.val (.ref 1088), .val (.int p1), .val (.int p2), .val (.int p3), .val (.int p4), .val (.int v8), .val (.int v9), .val (.int v10), .val (.int v11)], [], (126, 120, L, [Y, T, HA, HB, RA, RB, ST, NS, I0, I1, I2, BO, FI, RG, GU, PU, MA_16, MN, MS_15, OT, SC], [r0, r1, r2, r3, w, r5, r6, r7, r8], Lg)) o from ev_t (c := v8 ≤ (MS_15 0 60)) _ _ 4  zc37 e (fun n => Eq.refl _)
              have zh38 := sum_r zh24 (Option.some.inj zh33).symm
              exact ev_b 1 (zj25 v8 (Option.some.inj zh38) ) (fun n => Eq.refl _)
            · have zh33 := itn zh33 zc37
              suffices e : Ev (d + 5, 0, 0, 147, 101, [.val (.ref 1088), .val (.int p1), .val (.int p2), .val (.int p3), .val (.int p4), .val (.int v8), .val (.int v9), .val (.int v10), .val (.int v11)], [], (126, 120, L, [Y, T, HA, HB, RA, RB, ST, NS, I0, I1, I2, BO, FI, RG, GU, PU, MA_16, MN, MS_15, OT, SC], [r0, r1, r2, r3, w, r5, r6, r7, r8], Lg)) o from ev_f (c := v8 ≤ (MS_15 0 60)) _ _ 4  zc37 e (fun n => Eq.refl _)
              exact ev_b 0 (zj34  (Option.some.inj zh33).symm ) (fun n => Eq.refl _)
      · obtain ⟨v19, v20, v21, MA_23, MS_24⟩ := zb12
        intro s22
        by_cases zc39 : p4 ≠ 0
        · have h := itp h zc39
          suffices e : Ev (d + 5, 0, 0, 147, 157, [.val (.ref 1088), .val (.int p1), .val (.int p2), .val (.int p3), .val (.int p4), .val (.int v19), .val (.int v20), .val (.int v21), .val s22], [], (126, 120, L, [Y, T, HA, HB, RA, RB, ST, NS, I0, I1, I2, BO, FI, RG, GU, PU, MA_23, MN, MS_24, OT, SC], [r0, r1, r2, r3, w, r5, r6, r7, r8], Lg)) o from ev_t (c := p4 ≠ 0) _ _ 2  zc39 e (fun n => Eq.refl _)
          by_cases zc40 : p4 ≠ 1
          · have h := itp h zc40
            suffices e : Ev (d + 5, 0, 0, 147, 168, [.val (.ref 1088), .val (.int p1), .val (.int p2), .val (.int p3), .val (.int p4), .val (.int v19), .val (.int v20), .val (.int v21), .val s22], [], (126, 120, L, [Y, T, HA, HB, RA, RB, ST, NS, I0, I1, I2, BO, FI, RG, GU, PU, MA_23, MN, MS_24, OT, SC], [r0, r1, r2, r3, w, r5, r6, r7, r8], Lg)) o from ev_t (c := p4 ≠ 1) _ _ 3  zc40 e (fun n => Eq.refl _)
            have ze41 := Option.some.inj h
            subst ze41
            exact ev_rete 2 ho (fun n => Eq.refl _)
          · have h := itn h zc40
            suffices e : Ev (d + 5, 0, 0, 147, 163, [.val (.ref 1088), .val (.int p1), .val (.int p2), .val (.int p3), .val (.int p4), .val (.int v19), .val (.int v20), .val (.int v21), .val s22], [], (126, 120, L, [Y, T, HA, HB, RA, RB, ST, NS, I0, I1, I2, BO, FI, RG, GU, PU, MA_23, MN, MS_24, OT, SC], [r0, r1, r2, r3, w, r5, r6, r7, r8], Lg)) o from ev_f (c := p4 ≠ 1) _ _ 3  zc40 e (fun n => Eq.refl _)
            have ze42 := Option.some.inj h
            subst ze42
            exact ev_rete 3 ho (fun n => Eq.refl _)
        · have h := itn h zc39
          suffices e : Ev (d + 5, 0, 0, 147, 152, [.val (.ref 1088), .val (.int p1), .val (.int p2), .val (.int p3), .val (.int p4), .val (.int v19), .val (.int v20), .val (.int v21), .val s22], [], (126, 120, L, [Y, T, HA, HB, RA, RB, ST, NS, I0, I1, I2, BO, FI, RG, GU, PU, MA_23, MN, MS_24, OT, SC], [r0, r1, r2, r3, w, r5, r6, r7, r8], Lg)) o from ev_f (c := p4 ≠ 0) _ _ 2  zc39 e (fun n => Eq.refl _)
          have ze43 := Option.some.inj h
          subst ze43
          exact ev_rete 3 ho (fun n => Eq.refl _)
    · have h := itn h zc9
      suffices e : Ev (d + 5, 0, 0, 147, 49, [.val (.ref 1088), .val (.int p1), .val (.int p2), .val (.int p3), .val (.int p4), .val a_unk, .val a_unk, .val a_unk, .val a_unk], [], (126, 120, L, [Y, T, HA, HB, RA, RB, ST, NS, I0, I1, I2, BO, FI, RG, GU, PU, MA_6, MN, MS, OT, SC], [r0, r1, r2, r3, w, r5, r6, r7, r8], Lg)) o from ev_f (c := x5 ≠ 0) _ _ 1  zc9 e (fun n => Eq.refl _)
      have ze44 := Option.some.inj h
      subst ze44
      exact ev_rete 2 ho (fun n => Eq.refl _)
  obtain ⟨zt45, zh46, zh4⟩ := bnd zh4
  have zj47 : zt45 = .inl () → Ev (d + 5, 0, 0, 147, 40, [.val (.ref 1088), .val (.int p1), .val (.int p2), .val (.int p3), .val (.int p4), .val a_unk, .val a_unk, .val a_unk, .val a_unk], [.ref 1088], (126, 120, L, [Y, T, HA, HB, RA, RB, ST, NS, I0, I1, I2, BO, FI, RG, GU, PU, (u2 MA 0 0 0), MN, MS, OT, SC], [r0, r1, r2, r3, w, r5, r6, r7, r8], Lg)) o := by
    intro ze48
    have zh4 := sum_l zh4 ze48
    exact ev_b 1 (zj5 0 (Option.some.inj zh4) ) (fun n => Eq.refl _)
  by_cases zc49 : x1 = 0
  · have zh46 := itp zh46 zc49
    suffices e : Ev (d + 5, 0, 0, 147, 40, [.val (.ref 1088), .val (.int p1), .val (.int p2), .val (.int p3), .val (.int p4), .val a_unk, .val a_unk, .val a_unk, .val a_unk], [.ref 1088], (126, 120, L, [Y, T, HA, HB, RA, RB, ST, NS, I0, I1, I2, BO, FI, RG, GU, PU, (u2 MA 0 0 0), MN, MS, OT, SC], [r0, r1, r2, r3, w, r5, r6, r7, r8], Lg)) o from ev_t (c := x1 = 0) _ _ 1  zc49 e (fun n => Eq.refl _)
    exact ev_b 0 (zj47  (Option.some.inj zh46).symm ) (fun n => Eq.refl _)
  · have zh46 := itn zh46 zc49
    suffices e : Ev (d + 5, 0, 0, 147, 16, [.val (.ref 1088), .val (.int p1), .val (.int p2), .val (.int p3), .val (.int p4), .val a_unk, .val a_unk, .val a_unk, .val a_unk], [.ref 1088], (126, 120, L, [Y, T, HA, HB, RA, RB, ST, NS, I0, I1, I2, BO, FI, RG, GU, PU, (u2 MA 0 0 0), MN, MS, OT, SC], [r0, r1, r2, r3, w, r5, r6, r7, r8], Lg)) o from ev_f (c := x1 = 0) _ _ 1  zc49 e (fun n => Eq.refl _)
    obtain ⟨x2, zh50, zh46⟩ := bnd zh46
    have zh50 : f_M_within p3 1 60 = some x2 := zh50
    have ze51 := R_f_M_within_0 (d + 4) Y T HA HB RA RB ST NS I0 I1 I2 BO FI RG GU PU (u2 MA 0 0 0) MN MS OT SC r0 r1 r2 r3 w r5 r6 r7 r8 L Lg p3 1 60 zh50
    suffices e : Ev (d + 5, 0, 0, 147, 23, [.val (.ref 1088), .val (.int p1), .val (.int p2), .val (.int p3), .val (.int p4), .val a_unk, .val a_unk, .val a_unk, .val a_unk], [.int x2, .ref 1088], (126, 120, L, [Y, T, HA, HB, RA, RB, ST, NS, I0, I1, I2, BO, FI, RG, GU, PU, (u2 MA 0 0 0), MN, MS, OT, SC], [r0, r1, r2, r3, w, r5, r6, r7, r8], Lg)) o from ev_call (fun v μ => (d + 5, 0, 0, 147, 23, [.val (.ref 1088), .val (.int p1), .val (.int p2), .val (.int p3), .val (.int p4), .val a_unk, .val a_unk, .val a_unk, .val a_unk], v.toList ++ [.ref 1088], μ)) 4 ze51 e (fun n => Eq.refl _)
    by_cases zc52 : x2 = 0
    · have zh46 := itp zh46 zc52
      suffices e : Ev (d + 5, 0, 0, 147, 40, [.val (.ref 1088), .val (.int p1), .val (.int p2), .val (.int p3), .val (.int p4), .val a_unk, .val a_unk, .val a_unk, .val a_unk], [.ref 1088], (126, 120, L, [Y, T, HA, HB, RA, RB, ST, NS, I0, I1, I2, BO, FI, RG, GU, PU, (u2 MA 0 0 0), MN, MS, OT, SC], [r0, r1, r2, r3, w, r5, r6, r7, r8], Lg)) o from ev_t (c := x2 = 0) _ _ 1  zc52 e (fun n => Eq.refl _)
      exact ev_b 0 (zj47  (Option.some.inj zh46).symm ) (fun n => Eq.refl _)
    · have zh46 := itn zh46 zc52
      suffices e : Ev (d + 5, 0, 0, 147, 26, [.val (.ref 1088), .val (.int p1), .val (.int p2), .val (.int p3), .val (.int p4), .val a_unk, .val a_unk, .val a_unk, .val a_unk], [.ref 1088], (126, 120, L, [Y, T, HA, HB, RA, RB, ST, NS, I0, I1, I2, BO, FI, RG, GU, PU, (u2 MA 0 0 0), MN, MS, OT, SC], [r0, r1, r2, r3, w, r5, r6, r7, r8], Lg)) o from ev_f (c := x2 = 0) _ _ 1  zc52 e (fun n => Eq.refl _)
      obtain ⟨x3, zh53, zh46⟩ := bnd zh46
      have zh53 : f_M_within p4 0 2 = some x3 := zh53
      have ze54 := R_f_M_within_0 (d + 4) Y T HA HB RA RB ST NS I0 I1 I2 BO FI RG GU PU (u2 MA 0 0 0) MN MS OT SC r0 r1 r2 r3 w r5 r6 r7 r8 L Lg p4 0 2 zh53
      suffices e : Ev (d + 5, 0, 0, 147, 33, [.val (.ref 1088), .val (.int p1), .val (.int p2), .val (.int p3), .val (.int p4), .val a_unk, .val a_unk, .val a_unk, .val a_unk], [.int x3, .ref 1088], (126, 120, L, [Y, T, HA, HB, RA, RB, ST, NS, I0, I1, I2, BO, FI, RG, GU, PU, (u2 MA 0 0 0), MN, MS, OT, SC], [r0, r1, r2, r3, w, r5, r6, r7, r8], Lg)) o from ev_call (fun v μ => (d + 5, 0, 0, 147, 33, [.val (.ref 1088), .val (.int p1), .val (.int p2), .val (.int p3), .val (.int p4), .val a_unk, .val a_unk, .val a_unk, .val a_unk], v.toList ++ [.ref 1088], μ)) 4 ze54 e (fun n => Eq.refl _)
      by_cases zc55 : x3 = 0
      · have zh46 := itp zh46 zc55
        suffices e : Ev (d + 5, 0, 0, 147, 40, [.val (.ref 1088), .val (.int p1), .val (.int p2), .val (.int p3), .val (.int p4), .val a_unk, .val a_unk, .val a_unk, .val a_unk], [.ref 1088], (126, 120, L, [Y, T, HA, HB, RA, RB, ST, NS, I0, I1, I2, BO, FI, RG, GU, PU, (u2 MA 0 0 0), MN, MS, OT, SC], [r0, r1, r2, r3, w, r5, r6, r7, r8], Lg)) o from ev_t (c := x3 = 0) _ _ 1  zc55 e (fun n => Eq.refl _)
        exact ev_b 0 (zj47  (Option.some.inj zh46).symm ) (fun n => Eq.refl _)
      · have zh46 := itn zh46 zc55
        suffices e : Ev (d + 5, 0, 0, 147, 36, [.val (.ref 1088), .val (.int p1), .val (.int p2), .val (.int p3), .val (.int p4), .val a_unk, .val a_unk, .val a_unk, .val a_unk], [.ref 1088], (126, 120, L, [Y, T, HA, HB, RA, RB, ST, NS, I0, I1, I2, BO, FI, RG, GU, PU, (u2 MA 0 0 0), MN, MS, OT, SC], [r0, r1, r2, r3, w, r5, r6, r7, r8], Lg)) o from ev_f (c := x3 = 0) _ _ 1  zc55 e (fun n => Eq.refl _)
        have zh56 := sum_r zh4 (Option.some.inj zh46).symm
        exact ev_b 2 (zj5 1 (Option.some.inj zh56) ) (fun n => Eq.refl _)
set_option maxRecDepth 1000000 in
set_option maxHeartbeats 4000000 in
theorem R_f_M_keepsRow_0 (d : Nat) (Y T HA HB RA RB ST NS I0 I1 I2 BO FI RG GU PU MA MN MS OT SC : Nat → Nat → Int32) (r0 r1 r2 r3 w r5 r6 r7 r8 : Nat) (L : Nat) (Lg : Int64) (p1 : Int32) (p3 : Int32) (p4 : Int32) {r : Int32 × (Nat → Nat → Int32)} (h : f_M_keepsRow MA p1 p3 p4 = some r) : Ev (d + 0, 0, 0, 148, 0, [.val (.ref 1088), .val (.int p1), .val (.ref 1095), .val (.int p3), .val (.int p4), .val a_unk], [], (126, 120, L, [Y, T, HA, HB, RA, RB, ST, NS, I0, I1, I2, BO, FI, RG, GU, PU, MA, MN, MS, OT, SC], [r0, r1, r2, r3, w, r5, r6, r7, r8], Lg)) ((0, some (.int r.1), (126, 120, L, [Y, T, HA, HB, RA, RB, ST, NS, I0, I1, I2, BO, FI, RG, GU, PU, r.2, MN, MS, OT, SC], [r0, r1, r2, r3, w, r5, r6, r7, r8], Lg)) : AOut) := by
  suffices key : ∀ o : AOut, ((0, some (.int r.1), (126, 120, L, [Y, T, HA, HB, RA, RB, ST, NS, I0, I1, I2, BO, FI, RG, GU, PU, r.2, MN, MS, OT, SC], [r0, r1, r2, r3, w, r5, r6, r7, r8], Lg)) : AOut) = o → Ev (d + 0, 0, 0, 148, 0, [.val (.ref 1088), .val (.int p1), .val (.ref 1095), .val (.int p3), .val (.int p4), .val a_unk], [], (126, 120, L, [Y, T, HA, HB, RA, RB, ST, NS, I0, I1, I2, BO, FI, RG, GU, PU, MA, MN, MS, OT, SC], [r0, r1, r2, r3, w, r5, r6, r7, r8], Lg)) o from key _ rfl
  intro o ho
  obtain ⟨MA_8, zh2, h⟩ := bnd h
  suffices e : Ev (d + 0, 0, 0, 148, 3, [.val (.ref 1088), .val (.int p1), .val (.ref 1095), .val (.int p3), .val (.int p4), .val (.int 0)], [], (126, 120, L, [Y, T, HA, HB, RA, RB, ST, NS, I0, I1, I2, BO, FI, RG, GU, PU, MA, MN, MS, OT, SC], [r0, r1, r2, r3, w, r5, r6, r7, r8], Lg)) o from ev_b 2 e (fun n => Eq.refl _)
  refine ev_loop (δ := Unit) (fun a j => (d + 0, 0, 0, 148, 3, [.val (.ref 1088), .val (.int p1), .val (.ref 1095), .val (.int p3), .val (.int p4), .val (.int a.1)], [], (126, 120, L, [Y, T, HA, HB, RA, RB, ST, NS, I0, I1, I2, BO, FI, RG, GU, PU, a.2, MN, MS, OT, SC], [r0, r1, r2, r3, w, r5, r6, r7, r8], Lg))) (fun b => ∀ s7 : Value, Ev (d + 0, 0, 0, 148, 49, [.val (.ref 1088), .val (.int p1), .val (.ref 1095), .val (.int p3), .val (.int p4), .val s7], [], (126, 120, L, [Y, T, HA, HB, RA, RB, ST, NS, I0, I1, I2, BO, FI, RG, GU, PU, b, MN, MS, OT, SC], [r0, r1, r2, r3, w, r5, r6, r7, r8], Lg)) o) ?_ a_F (0, MA) MA_8 zh2 ?_ ()
  · rintro ⟨v1, MA_2⟩ zr6 zh5 zi3 zx4 ⟨⟩
    have zh5 : f_M_keepsRow_l3 p3 p4 p1 v1 MA_2 = some zr6 := zh5
    by_cases zc7 : p3 ≤ v1
    · have zh5 := itp zh5 zc7
      suffices e : Ev (d + 0, 0, 0, 148, 49, [.val (.ref 1088), .val (.int p1), .val (.ref 1095), .val (.int p3), .val (.int p4), .val (.int v1)], [], (126, 120, L, [Y, T, HA, HB, RA, RB, ST, NS, I0, I1, I2, BO, FI, RG, GU, PU, MA_2, MN, MS, OT, SC], [r0, r1, r2, r3, w, r5, r6, r7, r8], Lg)) o from ev_t (c := p3 ≤ v1) _ _ 3  zc7 e (fun n => Eq.refl _)
      exact ev_b 0 (zx4 _ (Option.some.inj zh5).symm (.int v1)) (fun n => Eq.refl _)
    · have zh5 := itn zh5 zc7
      suffices e : Ev (d + 0, 0, 0, 148, 9, [.val (.ref 1088), .val (.int p1), .val (.ref 1095), .val (.int p3), .val (.int p4), .val (.int v1)], [], (126, 120, L, [Y, T, HA, HB, RA, RB, ST, NS, I0, I1, I2, BO, FI, RG, GU, PU, MA_2, MN, MS, OT, SC], [r0, r1, r2, r3, w, r5, r6, r7, r8], Lg)) o from ev_f (c := p3 ≤ v1) _ _ 3  zc7 e (fun n => Eq.refl _)
      by_cases zc8 : p4 = 0
      · have zh5 := itp zh5 zc8
        suffices e : Ev (d + 0, 0, 0, 148, 30, [.val (.ref 1088), .val (.int p1), .val (.ref 1095), .val (.int p3), .val (.int p4), .val (.int v1)], [], (126, 120, L, [Y, T, HA, HB, RA, RB, ST, NS, I0, I1, I2, BO, FI, RG, GU, PU, MA_2, MN, MS, OT, SC], [r0, r1, r2, r3, w, r5, r6, r7, r8], Lg)) o from ev_t (c := p4 = 0) _ _ 2  zc8 e (fun n => Eq.refl _)
        obtain ⟨x3, zh9, zh5⟩ := bnd zh5
        have zh9 : rdx (MA_2 13) 1974 (p1 + v1) = some x3 := zh9
        suffices e : Ev (d + 0, 0, 0, 148, 42, [.val (.ref 1088), .val (.int p1), .val (.ref 1095), .val (.int p3), .val (.int p4), .val (.int v1)], [.int x3, .int v1, .ref 1095], (126, 120, L, [Y, T, HA, HB, RA, RB, ST, NS, I0, I1, I2, BO, FI, RG, GU, PU, MA_2, MN, MS, OT, SC], [r0, r1, r2, r3, w, r5, r6, r7, r8], Lg)) o from ev_opt (fun x3 => (d + 0, 0, 0, 148, 42, [.val (.ref 1088), .val (.int p1), .val (.ref 1095), .val (.int p3), .val (.int p4), .val (.int v1)], [.int x3, .int v1, .ref 1095], (126, 120, L, [Y, T, HA, HB, RA, RB, ST, NS, I0, I1, I2, BO, FI, RG, GU, PU, MA_2, MN, MS, OT, SC], [r0, r1, r2, r3, w, r5, r6, r7, r8], Lg))) 8 zh9 e (fun n => Eq.refl _)
        obtain ⟨j4, zh10, zh5⟩ := bnd zh5
        have zh10 : ixx 10 v1 = some j4 := zh10
        suffices e : Ev (d + 0, 0, 0, 148, 43, [.val (.ref 1088), .val (.int p1), .val (.ref 1095), .val (.int p3), .val (.int p4), .val (.int v1)], [], (126, 120, L, [Y, T, HA, HB, RA, RB, ST, NS, I0, I1, I2, BO, FI, RG, GU, PU, (u2 MA_2 7 j4 x3), MN, MS, OT, SC], [r0, r1, r2, r3, w, r5, r6, r7, r8], Lg)) o from ev_opt (fun j4 => (d + 0, 0, 0, 148, 43, [.val (.ref 1088), .val (.int p1), .val (.ref 1095), .val (.int p3), .val (.int p4), .val (.int v1)], [], (126, 120, L, [Y, T, HA, HB, RA, RB, ST, NS, I0, I1, I2, BO, FI, RG, GU, PU, (u2 MA_2 7 j4 x3), MN, MS, OT, SC], [r0, r1, r2, r3, w, r5, r6, r7, r8], Lg))) 1 zh10 e (fun n => Eq.refl _)
        exact ev_b 2 (zi3 _ (Option.some.inj zh5).symm ()) (fun n => Eq.refl _)
      · have zh5 := itn zh5 zc8
        suffices e : Ev (d + 0, 0, 0, 148, 14, [.val (.ref 1088), .val (.int p1), .val (.ref 1095), .val (.int p3), .val (.int p4), .val (.int v1)], [], (126, 120, L, [Y, T, HA, HB, RA, RB, ST, NS, I0, I1, I2, BO, FI, RG, GU, PU, MA_2, MN, MS, OT, SC], [r0, r1, r2, r3, w, r5, r6, r7, r8], Lg)) o from ev_f (c := p4 = 0) _ _ 2  zc8 e (fun n => Eq.refl _)
        obtain ⟨x5, zh11, zh5⟩ := bnd zh5
        have zh11 : rdx (MA_2 7) 10 v1 = some x5 := zh11
        suffices e : Ev (d + 0, 0, 0, 148, 26, [.val (.ref 1088), .val (.int p1), .val (.ref 1095), .val (.int p3), .val (.int p4), .val (.int v1)], [.int x5, .int (p1 + v1), .ref 1101], (126, 120, L, [Y, T, HA, HB, RA, RB, ST, NS, I0, I1, I2, BO, FI, RG, GU, PU, MA_2, MN, MS, OT, SC], [r0, r1, r2, r3, w, r5, r6, r7, r8], Lg)) o from ev_opt (fun x5 => (d + 0, 0, 0, 148, 26, [.val (.ref 1088), .val (.int p1), .val (.ref 1095), .val (.int p3), .val (.int p4), .val (.int v1)], [.int x5, .int (p1 + v1), .ref 1101], (126, 120, L, [Y, T, HA, HB, RA, RB, ST, NS, I0, I1, I2, BO, FI, RG, GU, PU, MA_2, MN, MS, OT, SC], [r0, r1, r2, r3, w, r5, r6, r7, r8], Lg))) 8 zh11 e (fun n => Eq.refl _)
        obtain ⟨j6, zh12, zh5⟩ := bnd zh5
        have zh12 : ixx 1974 (p1 + v1) = some j6 := zh12
        suffices e : Ev (d + 0, 0, 0, 148, 27, [.val (.ref 1088), .val (.int p1), .val (.ref 1095), .val (.int p3), .val (.int p4), .val (.int v1)], [], (126, 120, L, [Y, T, HA, HB, RA, RB, ST, NS, I0, I1, I2, BO, FI, RG, GU, PU, (u2 MA_2 13 j6 x5), MN, MS, OT, SC], [r0, r1, r2, r3, w, r5, r6, r7, r8], Lg)) o from ev_opt (fun j6 => (d + 0, 0, 0, 148, 27, [.val (.ref 1088), .val (.int p1), .val (.ref 1095), .val (.int p3), .val (.int p4), .val (.int v1)], [], (126, 120, L, [Y, T, HA, HB, RA, RB, ST, NS, I0, I1, I2, BO, FI, RG, GU, PU, (u2 MA_2 13 j6 x5), MN, MS, OT, SC], [r0, r1, r2, r3, w, r5, r6, r7, r8], Lg))) 1 zh12 e (fun n => Eq.refl _)
        exact ev_b 3 (zi3 _ (Option.some.inj zh5).symm ()) (fun n => Eq.refl _)
  · skip
    intro s7
    have ze13 := Option.some.inj h
    subst ze13
    exact ev_rete 4 ho (fun n => Eq.refl _)
set_option maxRecDepth 1000000 in
set_option maxHeartbeats 4000000 in
theorem R_f_M_keepsRow_2_0 (d : Nat) (Y T HA HB RA RB ST NS I0 I1 I2 BO FI RG GU PU MA MN MS OT SC : Nat → Nat → Int32) (r0 r1 r2 r3 w r5 r6 r7 r8 : Nat) (L : Nat) (Lg : Int64) (p1 : Int32) (p3 : Int32) (p4 : Int32) {r : Int32 × (Nat → Nat → Int32)} (h : f_M_keepsRow_2 MA p1 p3 p4 = some r) : Ev (d + 0, 0, 0, 148, 0, [.val (.ref 1088), .val (.int p1), .val (.ref 1096), .val (.int p3), .val (.int p4), .val a_unk], [], (126, 120, L, [Y, T, HA, HB, RA, RB, ST, NS, I0, I1, I2, BO, FI, RG, GU, PU, MA, MN, MS, OT, SC], [r0, r1, r2, r3, w, r5, r6, r7, r8], Lg)) ((0, some (.int r.1), (126, 120, L, [Y, T, HA, HB, RA, RB, ST, NS, I0, I1, I2, BO, FI, RG, GU, PU, r.2, MN, MS, OT, SC], [r0, r1, r2, r3, w, r5, r6, r7, r8], Lg)) : AOut) := by
  suffices key : ∀ o : AOut, ((0, some (.int r.1), (126, 120, L, [Y, T, HA, HB, RA, RB, ST, NS, I0, I1, I2, BO, FI, RG, GU, PU, r.2, MN, MS, OT, SC], [r0, r1, r2, r3, w, r5, r6, r7, r8], Lg)) : AOut) = o → Ev (d + 0, 0, 0, 148, 0, [.val (.ref 1088), .val (.int p1), .val (.ref 1096), .val (.int p3), .val (.int p4), .val a_unk], [], (126, 120, L, [Y, T, HA, HB, RA, RB, ST, NS, I0, I1, I2, BO, FI, RG, GU, PU, MA, MN, MS, OT, SC], [r0, r1, r2, r3, w, r5, r6, r7, r8], Lg)) o from key _ rfl
  intro o ho
  obtain ⟨MA_8, zh2, h⟩ := bnd h
  suffices e : Ev (d + 0, 0, 0, 148, 3, [.val (.ref 1088), .val (.int p1), .val (.ref 1096), .val (.int p3), .val (.int p4), .val (.int 0)], [], (126, 120, L, [Y, T, HA, HB, RA, RB, ST, NS, I0, I1, I2, BO, FI, RG, GU, PU, MA, MN, MS, OT, SC], [r0, r1, r2, r3, w, r5, r6, r7, r8], Lg)) o from ev_b 2 e (fun n => Eq.refl _)
  refine ev_loop (δ := Unit) (fun a j => (d + 0, 0, 0, 148, 3, [.val (.ref 1088), .val (.int p1), .val (.ref 1096), .val (.int p3), .val (.int p4), .val (.int a.1)], [], (126, 120, L, [Y, T, HA, HB, RA, RB, ST, NS, I0, I1, I2, BO, FI, RG, GU, PU, a.2, MN, MS, OT, SC], [r0, r1, r2, r3, w, r5, r6, r7, r8], Lg))) (fun b => ∀ s7 : Value, Ev (d + 0, 0, 0, 148, 49, [.val (.ref 1088), .val (.int p1), .val (.ref 1096), .val (.int p3), .val (.int p4), .val s7], [], (126, 120, L, [Y, T, HA, HB, RA, RB, ST, NS, I0, I1, I2, BO, FI, RG, GU, PU, b, MN, MS, OT, SC], [r0, r1, r2, r3, w, r5, r6, r7, r8], Lg)) o) ?_ a_F (0, MA) MA_8 zh2 ?_ ()
  · rintro ⟨v1, MA_2⟩ zr6 zh5 zi3 zx4 ⟨⟩
    have zh5 : f_M_keepsRow_2_l3 p3 p4 p1 v1 MA_2 = some zr6 := zh5
    by_cases zc7 : p3 ≤ v1
    · have zh5 := itp zh5 zc7
      suffices e : Ev (d + 0, 0, 0, 148, 49, [.val (.ref 1088), .val (.int p1), .val (.ref 1096), .val (.int p3), .val (.int p4), .val (.int v1)], [], (126, 120, L, [Y, T, HA, HB, RA, RB, ST, NS, I0, I1, I2, BO, FI, RG, GU, PU, MA_2, MN, MS, OT, SC], [r0, r1, r2, r3, w, r5, r6, r7, r8], Lg)) o from ev_t (c := p3 ≤ v1) _ _ 3  zc7 e (fun n => Eq.refl _)
      exact ev_b 0 (zx4 _ (Option.some.inj zh5).symm (.int v1)) (fun n => Eq.refl _)
    · have zh5 := itn zh5 zc7
      suffices e : Ev (d + 0, 0, 0, 148, 9, [.val (.ref 1088), .val (.int p1), .val (.ref 1096), .val (.int p3), .val (.int p4), .val (.int v1)], [], (126, 120, L, [Y, T, HA, HB, RA, RB, ST, NS, I0, I1, I2, BO, FI, RG, GU, PU, MA_2, MN, MS, OT, SC], [r0, r1, r2, r3, w, r5, r6, r7, r8], Lg)) o from ev_f (c := p3 ≤ v1) _ _ 3  zc7 e (fun n => Eq.refl _)
      by_cases zc8 : p4 = 0
      · have zh5 := itp zh5 zc8
        suffices e : Ev (d + 0, 0, 0, 148, 30, [.val (.ref 1088), .val (.int p1), .val (.ref 1096), .val (.int p3), .val (.int p4), .val (.int v1)], [], (126, 120, L, [Y, T, HA, HB, RA, RB, ST, NS, I0, I1, I2, BO, FI, RG, GU, PU, MA_2, MN, MS, OT, SC], [r0, r1, r2, r3, w, r5, r6, r7, r8], Lg)) o from ev_t (c := p4 = 0) _ _ 2  zc8 e (fun n => Eq.refl _)
        obtain ⟨x3, zh9, zh5⟩ := bnd zh5
        have zh9 : rdx (MA_2 13) 1974 (p1 + v1) = some x3 := zh9
        suffices e : Ev (d + 0, 0, 0, 148, 42, [.val (.ref 1088), .val (.int p1), .val (.ref 1096), .val (.int p3), .val (.int p4), .val (.int v1)], [.int x3, .int v1, .ref 1096], (126, 120, L, [Y, T, HA, HB, RA, RB, ST, NS, I0, I1, I2, BO, FI, RG, GU, PU, MA_2, MN, MS, OT, SC], [r0, r1, r2, r3, w, r5, r6, r7, r8], Lg)) o from ev_opt (fun x3 => (d + 0, 0, 0, 148, 42, [.val (.ref 1088), .val (.int p1), .val (.ref 1096), .val (.int p3), .val (.int p4), .val (.int v1)], [.int x3, .int v1, .ref 1096], (126, 120, L, [Y, T, HA, HB, RA, RB, ST, NS, I0, I1, I2, BO, FI, RG, GU, PU, MA_2, MN, MS, OT, SC], [r0, r1, r2, r3, w, r5, r6, r7, r8], Lg))) 8 zh9 e (fun n => Eq.refl _)
        obtain ⟨j4, zh10, zh5⟩ := bnd zh5
        have zh10 : ixx 10 v1 = some j4 := zh10
        suffices e : Ev (d + 0, 0, 0, 148, 43, [.val (.ref 1088), .val (.int p1), .val (.ref 1096), .val (.int p3), .val (.int p4), .val (.int v1)], [], (126, 120, L, [Y, T, HA, HB, RA, RB, ST, NS, I0, I1, I2, BO, FI, RG, GU, PU, (u2 MA_2 8 j4 x3), MN, MS, OT, SC], [r0, r1, r2, r3, w, r5, r6, r7, r8], Lg)) o from ev_opt (fun j4 => (d + 0, 0, 0, 148, 43, [.val (.ref 1088), .val (.int p1), .val (.ref 1096), .val (.int p3), .val (.int p4), .val (.int v1)], [], (126, 120, L, [Y, T, HA, HB, RA, RB, ST, NS, I0, I1, I2, BO, FI, RG, GU, PU, (u2 MA_2 8 j4 x3), MN, MS, OT, SC], [r0, r1, r2, r3, w, r5, r6, r7, r8], Lg))) 1 zh10 e (fun n => Eq.refl _)
        exact ev_b 2 (zi3 _ (Option.some.inj zh5).symm ()) (fun n => Eq.refl _)
      · have zh5 := itn zh5 zc8
        suffices e : Ev (d + 0, 0, 0, 148, 14, [.val (.ref 1088), .val (.int p1), .val (.ref 1096), .val (.int p3), .val (.int p4), .val (.int v1)], [], (126, 120, L, [Y, T, HA, HB, RA, RB, ST, NS, I0, I1, I2, BO, FI, RG, GU, PU, MA_2, MN, MS, OT, SC], [r0, r1, r2, r3, w, r5, r6, r7, r8], Lg)) o from ev_f (c := p4 = 0) _ _ 2  zc8 e (fun n => Eq.refl _)
        obtain ⟨x5, zh11, zh5⟩ := bnd zh5
        have zh11 : rdx (MA_2 8) 10 v1 = some x5 := zh11
        suffices e : Ev (d + 0, 0, 0, 148, 26, [.val (.ref 1088), .val (.int p1), .val (.ref 1096), .val (.int p3), .val (.int p4), .val (.int v1)], [.int x5, .int (p1 + v1), .ref 1101], (126, 120, L, [Y, T, HA, HB, RA, RB, ST, NS, I0, I1, I2, BO, FI, RG, GU, PU, MA_2, MN, MS, OT, SC], [r0, r1, r2, r3, w, r5, r6, r7, r8], Lg)) o from ev_opt (fun x5 => (d + 0, 0, 0, 148, 26, [.val (.ref 1088), .val (.int p1), .val (.ref 1096), .val (.int p3), .val (.int p4), .val (.int v1)], [.int x5, .int (p1 + v1), .ref 1101], (126, 120, L, [Y, T, HA, HB, RA, RB, ST, NS, I0, I1, I2, BO, FI, RG, GU, PU, MA_2, MN, MS, OT, SC], [r0, r1, r2, r3, w, r5, r6, r7, r8], Lg))) 8 zh11 e (fun n => Eq.refl _)
        obtain ⟨j6, zh12, zh5⟩ := bnd zh5
        have zh12 : ixx 1974 (p1 + v1) = some j6 := zh12
        suffices e : Ev (d + 0, 0, 0, 148, 27, [.val (.ref 1088), .val (.int p1), .val (.ref 1096), .val (.int p3), .val (.int p4), .val (.int v1)], [], (126, 120, L, [Y, T, HA, HB, RA, RB, ST, NS, I0, I1, I2, BO, FI, RG, GU, PU, (u2 MA_2 13 j6 x5), MN, MS, OT, SC], [r0, r1, r2, r3, w, r5, r6, r7, r8], Lg)) o from ev_opt (fun j6 => (d + 0, 0, 0, 148, 27, [.val (.ref 1088), .val (.int p1), .val (.ref 1096), .val (.int p3), .val (.int p4), .val (.int v1)], [], (126, 120, L, [Y, T, HA, HB, RA, RB, ST, NS, I0, I1, I2, BO, FI, RG, GU, PU, (u2 MA_2 13 j6 x5), MN, MS, OT, SC], [r0, r1, r2, r3, w, r5, r6, r7, r8], Lg))) 1 zh12 e (fun n => Eq.refl _)
        exact ev_b 3 (zi3 _ (Option.some.inj zh5).symm ()) (fun n => Eq.refl _)
  · skip
    intro s7
    have ze13 := Option.some.inj h
    subst ze13
    exact ev_rete 4 ho (fun n => Eq.refl _)
set_option maxRecDepth 1000000 in
set_option maxHeartbeats 4000000 in
theorem R_f_M_keepsRow_3_0 (d : Nat) (Y T HA HB RA RB ST NS I0 I1 I2 BO FI RG GU PU MA MN MS OT SC : Nat → Nat → Int32) (r0 r1 r2 r3 w r5 r6 r7 r8 : Nat) (L : Nat) (Lg : Int64) (p1 : Int32) (p3 : Int32) (p4 : Int32) {r : Int32 × (Nat → Nat → Int32)} (h : f_M_keepsRow_3 MA p1 p3 p4 = some r) : Ev (d + 0, 0, 0, 148, 0, [.val (.ref 1088), .val (.int p1), .val (.ref 1097), .val (.int p3), .val (.int p4), .val a_unk], [], (126, 120, L, [Y, T, HA, HB, RA, RB, ST, NS, I0, I1, I2, BO, FI, RG, GU, PU, MA, MN, MS, OT, SC], [r0, r1, r2, r3, w, r5, r6, r7, r8], Lg)) ((0, some (.int r.1), (126, 120, L, [Y, T, HA, HB, RA, RB, ST, NS, I0, I1, I2, BO, FI, RG, GU, PU, r.2, MN, MS, OT, SC], [r0, r1, r2, r3, w, r5, r6, r7, r8], Lg)) : AOut) := by
  suffices key : ∀ o : AOut, ((0, some (.int r.1), (126, 120, L, [Y, T, HA, HB, RA, RB, ST, NS, I0, I1, I2, BO, FI, RG, GU, PU, r.2, MN, MS, OT, SC], [r0, r1, r2, r3, w, r5, r6, r7, r8], Lg)) : AOut) = o → Ev (d + 0, 0, 0, 148, 0, [.val (.ref 1088), .val (.int p1), .val (.ref 1097), .val (.int p3), .val (.int p4), .val a_unk], [], (126, 120, L, [Y, T, HA, HB, RA, RB, ST, NS, I0, I1, I2, BO, FI, RG, GU, PU, MA, MN, MS, OT, SC], [r0, r1, r2, r3, w, r5, r6, r7, r8], Lg)) o from key _ rfl
  intro o ho
  obtain ⟨MA_8, zh2, h⟩ := bnd h
  suffices e : Ev (d + 0, 0, 0, 148, 3, [.val (.ref 1088), .val (.int p1), .val (.ref 1097), .val (.int p3), .val (.int p4), .val (.int 0)], [], (126, 120, L, [Y, T, HA, HB, RA, RB, ST, NS, I0, I1, I2, BO, FI, RG, GU, PU, MA, MN, MS, OT, SC], [r0, r1, r2, r3, w, r5, r6, r7, r8], Lg)) o from ev_b 2 e (fun n => Eq.refl _)
  refine ev_loop (δ := Unit) (fun a j => (d + 0, 0, 0, 148, 3, [.val (.ref 1088), .val (.int p1), .val (.ref 1097), .val (.int p3), .val (.int p4), .val (.int a.1)], [], (126, 120, L, [Y, T, HA, HB, RA, RB, ST, NS, I0, I1, I2, BO, FI, RG, GU, PU, a.2, MN, MS, OT, SC], [r0, r1, r2, r3, w, r5, r6, r7, r8], Lg))) (fun b => ∀ s7 : Value, Ev (d + 0, 0, 0, 148, 49, [.val (.ref 1088), .val (.int p1), .val (.ref 1097), .val (.int p3), .val (.int p4), .val s7], [], (126, 120, L, [Y, T, HA, HB, RA, RB, ST, NS, I0, I1, I2, BO, FI, RG, GU, PU, b, MN, MS, OT, SC], [r0, r1, r2, r3, w, r5, r6, r7, r8], Lg)) o) ?_ a_F (0, MA) MA_8 zh2 ?_ ()
  · rintro ⟨v1, MA_2⟩ zr6 zh5 zi3 zx4 ⟨⟩
    have zh5 : f_M_keepsRow_3_l3 p3 p4 p1 v1 MA_2 = some zr6 := zh5
    by_cases zc7 : p3 ≤ v1
    · have zh5 := itp zh5 zc7
      suffices e : Ev (d + 0, 0, 0, 148, 49, [.val (.ref 1088), .val (.int p1), .val (.ref 1097), .val (.int p3), .val (.int p4), .val (.int v1)], [], (126, 120, L, [Y, T, HA, HB, RA, RB, ST, NS, I0, I1, I2, BO, FI, RG, GU, PU, MA_2, MN, MS, OT, SC], [r0, r1, r2, r3, w, r5, r6, r7, r8], Lg)) o from ev_t (c := p3 ≤ v1) _ _ 3  zc7 e (fun n => Eq.refl _)
      exact ev_b 0 (zx4 _ (Option.some.inj zh5).symm (.int v1)) (fun n => Eq.refl _)
    · have zh5 := itn zh5 zc7
      suffices e : Ev (d + 0, 0, 0, 148, 9, [.val (.ref 1088), .val (.int p1), .val (.ref 1097), .val (.int p3), .val (.int p4), .val (.int v1)], [], (126, 120, L, [Y, T, HA, HB, RA, RB, ST, NS, I0, I1, I2, BO, FI, RG, GU, PU, MA_2, MN, MS, OT, SC], [r0, r1, r2, r3, w, r5, r6, r7, r8], Lg)) o from ev_f (c := p3 ≤ v1) _ _ 3  zc7 e (fun n => Eq.refl _)
      by_cases zc8 : p4 = 0
      · have zh5 := itp zh5 zc8
        suffices e : Ev (d + 0, 0, 0, 148, 30, [.val (.ref 1088), .val (.int p1), .val (.ref 1097), .val (.int p3), .val (.int p4), .val (.int v1)], [], (126, 120, L, [Y, T, HA, HB, RA, RB, ST, NS, I0, I1, I2, BO, FI, RG, GU, PU, MA_2, MN, MS, OT, SC], [r0, r1, r2, r3, w, r5, r6, r7, r8], Lg)) o from ev_t (c := p4 = 0) _ _ 2  zc8 e (fun n => Eq.refl _)
        obtain ⟨x3, zh9, zh5⟩ := bnd zh5
        have zh9 : rdx (MA_2 13) 1974 (p1 + v1) = some x3 := zh9
        suffices e : Ev (d + 0, 0, 0, 148, 42, [.val (.ref 1088), .val (.int p1), .val (.ref 1097), .val (.int p3), .val (.int p4), .val (.int v1)], [.int x3, .int v1, .ref 1097], (126, 120, L, [Y, T, HA, HB, RA, RB, ST, NS, I0, I1, I2, BO, FI, RG, GU, PU, MA_2, MN, MS, OT, SC], [r0, r1, r2, r3, w, r5, r6, r7, r8], Lg)) o from ev_opt (fun x3 => (d + 0, 0, 0, 148, 42, [.val (.ref 1088), .val (.int p1), .val (.ref 1097), .val (.int p3), .val (.int p4), .val (.int v1)], [.int x3, .int v1, .ref 1097], (126, 120, L, [Y, T, HA, HB, RA, RB, ST, NS, I0, I1, I2, BO, FI, RG, GU, PU, MA_2, MN, MS, OT, SC], [r0, r1, r2, r3, w, r5, r6, r7, r8], Lg))) 8 zh9 e (fun n => Eq.refl _)
        obtain ⟨j4, zh10, zh5⟩ := bnd zh5
        have zh10 : ixx 20 v1 = some j4 := zh10
        suffices e : Ev (d + 0, 0, 0, 148, 43, [.val (.ref 1088), .val (.int p1), .val (.ref 1097), .val (.int p3), .val (.int p4), .val (.int v1)], [], (126, 120, L, [Y, T, HA, HB, RA, RB, ST, NS, I0, I1, I2, BO, FI, RG, GU, PU, (u2 MA_2 9 j4 x3), MN, MS, OT, SC], [r0, r1, r2, r3, w, r5, r6, r7, r8], Lg)) o from ev_opt (fun j4 => (d + 0, 0, 0, 148, 43, [.val (.ref 1088), .val (.int p1), .val (.ref 1097), .val (.int p3), .val (.int p4), .val (.int v1)], [], (126, 120, L, [Y, T, HA, HB, RA, RB, ST, NS, I0, I1, I2, BO, FI, RG, GU, PU, (u2 MA_2 9 j4 x3), MN, MS, OT, SC], [r0, r1, r2, r3, w, r5, r6, r7, r8], Lg))) 1 zh10 e (fun n => Eq.refl _)
        exact ev_b 2 (zi3 _ (Option.some.inj zh5).symm ()) (fun n => Eq.refl _)
      · have zh5 := itn zh5 zc8
        suffices e : Ev (d + 0, 0, 0, 148, 14, [.val (.ref 1088), .val (.int p1), .val (.ref 1097), .val (.int p3), .val (.int p4), .val (.int v1)], [], (126, 120, L, [Y, T, HA, HB, RA, RB, ST, NS, I0, I1, I2, BO, FI, RG, GU, PU, MA_2, MN, MS, OT, SC], [r0, r1, r2, r3, w, r5, r6, r7, r8], Lg)) o from ev_f (c := p4 = 0) _ _ 2  zc8 e (fun n => Eq.refl _)
        obtain ⟨x5, zh11, zh5⟩ := bnd zh5
        have zh11 : rdx (MA_2 9) 20 v1 = some x5 := zh11
        suffices e : Ev (d + 0, 0, 0, 148, 26, [.val (.ref 1088), .val (.int p1), .val (.ref 1097), .val (.int p3), .val (.int p4), .val (.int v1)], [.int x5, .int (p1 + v1), .ref 1101], (126, 120, L, [Y, T, HA, HB, RA, RB, ST, NS, I0, I1, I2, BO, FI, RG, GU, PU, MA_2, MN, MS, OT, SC], [r0, r1, r2, r3, w, r5, r6, r7, r8], Lg)) o from ev_opt (fun x5 => (d + 0, 0, 0, 148, 26, [.val (.ref 1088), .val (.int p1), .val (.ref 1097), .val (.int p3), .val (.int p4), .val (.int v1)], [.int x5, .int (p1 + v1), .ref 1101], (126, 120, L, [Y, T, HA, HB, RA, RB, ST, NS, I0, I1, I2, BO, FI, RG, GU, PU, MA_2, MN, MS, OT, SC], [r0, r1, r2, r3, w, r5, r6, r7, r8], Lg))) 8 zh11 e (fun n => Eq.refl _)
        obtain ⟨j6, zh12, zh5⟩ := bnd zh5
        have zh12 : ixx 1974 (p1 + v1) = some j6 := zh12
        suffices e : Ev (d + 0, 0, 0, 148, 27, [.val (.ref 1088), .val (.int p1), .val (.ref 1097), .val (.int p3), .val (.int p4), .val (.int v1)], [], (126, 120, L, [Y, T, HA, HB, RA, RB, ST, NS, I0, I1, I2, BO, FI, RG, GU, PU, (u2 MA_2 13 j6 x5), MN, MS, OT, SC], [r0, r1, r2, r3, w, r5, r6, r7, r8], Lg)) o from ev_opt (fun j6 => (d + 0, 0, 0, 148, 27, [.val (.ref 1088), .val (.int p1), .val (.ref 1097), .val (.int p3), .val (.int p4), .val (.int v1)], [], (126, 120, L, [Y, T, HA, HB, RA, RB, ST, NS, I0, I1, I2, BO, FI, RG, GU, PU, (u2 MA_2 13 j6 x5), MN, MS, OT, SC], [r0, r1, r2, r3, w, r5, r6, r7, r8], Lg))) 1 zh12 e (fun n => Eq.refl _)
        exact ev_b 3 (zi3 _ (Option.some.inj zh5).symm ()) (fun n => Eq.refl _)
  · skip
    intro s7
    have ze13 := Option.some.inj h
    subst ze13
    exact ev_rete 4 ho (fun n => Eq.refl _)
set_option maxRecDepth 1000000 in
set_option maxHeartbeats 4000000 in
theorem R_f_M_keepsRow_4_0 (d : Nat) (Y T HA HB RA RB ST NS I0 I1 I2 BO FI RG GU PU MA MN MS OT SC : Nat → Nat → Int32) (r0 r1 r2 r3 w r5 r6 r7 r8 : Nat) (L : Nat) (Lg : Int64) (p1 : Int32) (p3 : Int32) (p4 : Int32) {r : Int32 × (Nat → Nat → Int32)} (h : f_M_keepsRow_4 MA p1 p3 p4 = some r) : Ev (d + 0, 0, 0, 148, 0, [.val (.ref 1088), .val (.int p1), .val (.ref 1094), .val (.int p3), .val (.int p4), .val a_unk], [], (126, 120, L, [Y, T, HA, HB, RA, RB, ST, NS, I0, I1, I2, BO, FI, RG, GU, PU, MA, MN, MS, OT, SC], [r0, r1, r2, r3, w, r5, r6, r7, r8], Lg)) ((0, some (.int r.1), (126, 120, L, [Y, T, HA, HB, RA, RB, ST, NS, I0, I1, I2, BO, FI, RG, GU, PU, r.2, MN, MS, OT, SC], [r0, r1, r2, r3, w, r5, r6, r7, r8], Lg)) : AOut) := by
  suffices key : ∀ o : AOut, ((0, some (.int r.1), (126, 120, L, [Y, T, HA, HB, RA, RB, ST, NS, I0, I1, I2, BO, FI, RG, GU, PU, r.2, MN, MS, OT, SC], [r0, r1, r2, r3, w, r5, r6, r7, r8], Lg)) : AOut) = o → Ev (d + 0, 0, 0, 148, 0, [.val (.ref 1088), .val (.int p1), .val (.ref 1094), .val (.int p3), .val (.int p4), .val a_unk], [], (126, 120, L, [Y, T, HA, HB, RA, RB, ST, NS, I0, I1, I2, BO, FI, RG, GU, PU, MA, MN, MS, OT, SC], [r0, r1, r2, r3, w, r5, r6, r7, r8], Lg)) o from key _ rfl
  intro o ho
  obtain ⟨MA_8, zh2, h⟩ := bnd h
  suffices e : Ev (d + 0, 0, 0, 148, 3, [.val (.ref 1088), .val (.int p1), .val (.ref 1094), .val (.int p3), .val (.int p4), .val (.int 0)], [], (126, 120, L, [Y, T, HA, HB, RA, RB, ST, NS, I0, I1, I2, BO, FI, RG, GU, PU, MA, MN, MS, OT, SC], [r0, r1, r2, r3, w, r5, r6, r7, r8], Lg)) o from ev_b 2 e (fun n => Eq.refl _)
  refine ev_loop (δ := Unit) (fun a j => (d + 0, 0, 0, 148, 3, [.val (.ref 1088), .val (.int p1), .val (.ref 1094), .val (.int p3), .val (.int p4), .val (.int a.1)], [], (126, 120, L, [Y, T, HA, HB, RA, RB, ST, NS, I0, I1, I2, BO, FI, RG, GU, PU, a.2, MN, MS, OT, SC], [r0, r1, r2, r3, w, r5, r6, r7, r8], Lg))) (fun b => ∀ s7 : Value, Ev (d + 0, 0, 0, 148, 49, [.val (.ref 1088), .val (.int p1), .val (.ref 1094), .val (.int p3), .val (.int p4), .val s7], [], (126, 120, L, [Y, T, HA, HB, RA, RB, ST, NS, I0, I1, I2, BO, FI, RG, GU, PU, b, MN, MS, OT, SC], [r0, r1, r2, r3, w, r5, r6, r7, r8], Lg)) o) ?_ a_F (0, MA) MA_8 zh2 ?_ ()
  · rintro ⟨v1, MA_2⟩ zr6 zh5 zi3 zx4 ⟨⟩
    have zh5 : f_M_keepsRow_4_l3 p3 p4 p1 v1 MA_2 = some zr6 := zh5
    by_cases zc7 : p3 ≤ v1
    · have zh5 := itp zh5 zc7
      suffices e : Ev (d + 0, 0, 0, 148, 49, [.val (.ref 1088), .val (.int p1), .val (.ref 1094), .val (.int p3), .val (.int p4), .val (.int v1)], [], (126, 120, L, [Y, T, HA, HB, RA, RB, ST, NS, I0, I1, I2, BO, FI, RG, GU, PU, MA_2, MN, MS, OT, SC], [r0, r1, r2, r3, w, r5, r6, r7, r8], Lg)) o from ev_t (c := p3 ≤ v1) _ _ 3  zc7 e (fun n => Eq.refl _)
      exact ev_b 0 (zx4 _ (Option.some.inj zh5).symm (.int v1)) (fun n => Eq.refl _)
    · have zh5 := itn zh5 zc7
      suffices e : Ev (d + 0, 0, 0, 148, 9, [.val (.ref 1088), .val (.int p1), .val (.ref 1094), .val (.int p3), .val (.int p4), .val (.int v1)], [], (126, 120, L, [Y, T, HA, HB, RA, RB, ST, NS, I0, I1, I2, BO, FI, RG, GU, PU, MA_2, MN, MS, OT, SC], [r0, r1, r2, r3, w, r5, r6, r7, r8], Lg)) o from ev_f (c := p3 ≤ v1) _ _ 3  zc7 e (fun n => Eq.refl _)
      by_cases zc8 : p4 = 0
      · have zh5 := itp zh5 zc8
        suffices e : Ev (d + 0, 0, 0, 148, 30, [.val (.ref 1088), .val (.int p1), .val (.ref 1094), .val (.int p3), .val (.int p4), .val (.int v1)], [], (126, 120, L, [Y, T, HA, HB, RA, RB, ST, NS, I0, I1, I2, BO, FI, RG, GU, PU, MA_2, MN, MS, OT, SC], [r0, r1, r2, r3, w, r5, r6, r7, r8], Lg)) o from ev_t (c := p4 = 0) _ _ 2  zc8 e (fun n => Eq.refl _)
        obtain ⟨x3, zh9, zh5⟩ := bnd zh5
        have zh9 : rdx (MA_2 13) 1974 (p1 + v1) = some x3 := zh9
        suffices e : Ev (d + 0, 0, 0, 148, 42, [.val (.ref 1088), .val (.int p1), .val (.ref 1094), .val (.int p3), .val (.int p4), .val (.int v1)], [.int x3, .int v1, .ref 1094], (126, 120, L, [Y, T, HA, HB, RA, RB, ST, NS, I0, I1, I2, BO, FI, RG, GU, PU, MA_2, MN, MS, OT, SC], [r0, r1, r2, r3, w, r5, r6, r7, r8], Lg)) o from ev_opt (fun x3 => (d + 0, 0, 0, 148, 42, [.val (.ref 1088), .val (.int p1), .val (.ref 1094), .val (.int p3), .val (.int p4), .val (.int v1)], [.int x3, .int v1, .ref 1094], (126, 120, L, [Y, T, HA, HB, RA, RB, ST, NS, I0, I1, I2, BO, FI, RG, GU, PU, MA_2, MN, MS, OT, SC], [r0, r1, r2, r3, w, r5, r6, r7, r8], Lg))) 8 zh9 e (fun n => Eq.refl _)
        obtain ⟨j4, zh10, zh5⟩ := bnd zh5
        have zh10 : ixx 16 v1 = some j4 := zh10
        suffices e : Ev (d + 0, 0, 0, 148, 43, [.val (.ref 1088), .val (.int p1), .val (.ref 1094), .val (.int p3), .val (.int p4), .val (.int v1)], [], (126, 120, L, [Y, T, HA, HB, RA, RB, ST, NS, I0, I1, I2, BO, FI, RG, GU, PU, (u2 MA_2 6 j4 x3), MN, MS, OT, SC], [r0, r1, r2, r3, w, r5, r6, r7, r8], Lg)) o from ev_opt (fun j4 => (d + 0, 0, 0, 148, 43, [.val (.ref 1088), .val (.int p1), .val (.ref 1094), .val (.int p3), .val (.int p4), .val (.int v1)], [], (126, 120, L, [Y, T, HA, HB, RA, RB, ST, NS, I0, I1, I2, BO, FI, RG, GU, PU, (u2 MA_2 6 j4 x3), MN, MS, OT, SC], [r0, r1, r2, r3, w, r5, r6, r7, r8], Lg))) 1 zh10 e (fun n => Eq.refl _)
        exact ev_b 2 (zi3 _ (Option.some.inj zh5).symm ()) (fun n => Eq.refl _)
      · have zh5 := itn zh5 zc8
        suffices e : Ev (d + 0, 0, 0, 148, 14, [.val (.ref 1088), .val (.int p1), .val (.ref 1094), .val (.int p3), .val (.int p4), .val (.int v1)], [], (126, 120, L, [Y, T, HA, HB, RA, RB, ST, NS, I0, I1, I2, BO, FI, RG, GU, PU, MA_2, MN, MS, OT, SC], [r0, r1, r2, r3, w, r5, r6, r7, r8], Lg)) o from ev_f (c := p4 = 0) _ _ 2  zc8 e (fun n => Eq.refl _)
        obtain ⟨x5, zh11, zh5⟩ := bnd zh5
        have zh11 : rdx (MA_2 6) 16 v1 = some x5 := zh11
        suffices e : Ev (d + 0, 0, 0, 148, 26, [.val (.ref 1088), .val (.int p1), .val (.ref 1094), .val (.int p3), .val (.int p4), .val (.int v1)], [.int x5, .int (p1 + v1), .ref 1101], (126, 120, L, [Y, T, HA, HB, RA, RB, ST, NS, I0, I1, I2, BO, FI, RG, GU, PU, MA_2, MN, MS, OT, SC], [r0, r1, r2, r3, w, r5, r6, r7, r8], Lg)) o from ev_opt (fun x5 => (d + 0, 0, 0, 148, 26, [.val (.ref 1088), .val (.int p1), .val (.ref 1094), .val (.int p3), .val (.int p4), .val (.int v1)], [.int x5, .int (p1 + v1), .ref 1101], (126, 120, L, [Y, T, HA, HB, RA, RB, ST, NS, I0, I1, I2, BO, FI, RG, GU, PU, MA_2, MN, MS, OT, SC], [r0, r1, r2, r3, w, r5, r6, r7, r8], Lg))) 8 zh11 e (fun n => Eq.refl _)
        obtain ⟨j6, zh12, zh5⟩ := bnd zh5
        have zh12 : ixx 1974 (p1 + v1) = some j6 := zh12
        suffices e : Ev (d + 0, 0, 0, 148, 27, [.val (.ref 1088), .val (.int p1), .val (.ref 1094), .val (.int p3), .val (.int p4), .val (.int v1)], [], (126, 120, L, [Y, T, HA, HB, RA, RB, ST, NS, I0, I1, I2, BO, FI, RG, GU, PU, (u2 MA_2 13 j6 x5), MN, MS, OT, SC], [r0, r1, r2, r3, w, r5, r6, r7, r8], Lg)) o from ev_opt (fun j6 => (d + 0, 0, 0, 148, 27, [.val (.ref 1088), .val (.int p1), .val (.ref 1094), .val (.int p3), .val (.int p4), .val (.int v1)], [], (126, 120, L, [Y, T, HA, HB, RA, RB, ST, NS, I0, I1, I2, BO, FI, RG, GU, PU, (u2 MA_2 13 j6 x5), MN, MS, OT, SC], [r0, r1, r2, r3, w, r5, r6, r7, r8], Lg))) 1 zh12 e (fun n => Eq.refl _)
        exact ev_b 3 (zi3 _ (Option.some.inj zh5).symm ()) (fun n => Eq.refl _)
  · skip
    intro s7
    have ze13 := Option.some.inj h
    subst ze13
    exact ev_rete 4 ho (fun n => Eq.refl _)
set_option maxRecDepth 1000000 in
set_option maxHeartbeats 4000000 in
theorem R_f_M_keepsRow_5_0 (d : Nat) (Y T HA HB RA RB ST NS I0 I1 I2 BO FI RG GU PU MA MN MS OT SC : Nat → Nat → Int32) (r0 r1 r2 r3 w r5 r6 r7 r8 : Nat) (L : Nat) (Lg : Int64) (p1 : Int32) (p3 : Int32) (p4 : Int32) {r : Int32 × (Nat → Nat → Int32)} (h : f_M_keepsRow_5 MA p1 p3 p4 = some r) : Ev (d + 0, 0, 0, 148, 0, [.val (.ref 1088), .val (.int p1), .val (.ref 1100), .val (.int p3), .val (.int p4), .val a_unk], [], (126, 120, L, [Y, T, HA, HB, RA, RB, ST, NS, I0, I1, I2, BO, FI, RG, GU, PU, MA, MN, MS, OT, SC], [r0, r1, r2, r3, w, r5, r6, r7, r8], Lg)) ((0, some (.int r.1), (126, 120, L, [Y, T, HA, HB, RA, RB, ST, NS, I0, I1, I2, BO, FI, RG, GU, PU, r.2, MN, MS, OT, SC], [r0, r1, r2, r3, w, r5, r6, r7, r8], Lg)) : AOut) := by
  suffices key : ∀ o : AOut, ((0, some (.int r.1), (126, 120, L, [Y, T, HA, HB, RA, RB, ST, NS, I0, I1, I2, BO, FI, RG, GU, PU, r.2, MN, MS, OT, SC], [r0, r1, r2, r3, w, r5, r6, r7, r8], Lg)) : AOut) = o → Ev (d + 0, 0, 0, 148, 0, [.val (.ref 1088), .val (.int p1), .val (.ref 1100), .val (.int p3), .val (.int p4), .val a_unk], [], (126, 120, L, [Y, T, HA, HB, RA, RB, ST, NS, I0, I1, I2, BO, FI, RG, GU, PU, MA, MN, MS, OT, SC], [r0, r1, r2, r3, w, r5, r6, r7, r8], Lg)) o from key _ rfl
  intro o ho
  obtain ⟨MA_8, zh2, h⟩ := bnd h
  suffices e : Ev (d + 0, 0, 0, 148, 3, [.val (.ref 1088), .val (.int p1), .val (.ref 1100), .val (.int p3), .val (.int p4), .val (.int 0)], [], (126, 120, L, [Y, T, HA, HB, RA, RB, ST, NS, I0, I1, I2, BO, FI, RG, GU, PU, MA, MN, MS, OT, SC], [r0, r1, r2, r3, w, r5, r6, r7, r8], Lg)) o from ev_b 2 e (fun n => Eq.refl _)
  refine ev_loop (δ := Unit) (fun a j => (d + 0, 0, 0, 148, 3, [.val (.ref 1088), .val (.int p1), .val (.ref 1100), .val (.int p3), .val (.int p4), .val (.int a.1)], [], (126, 120, L, [Y, T, HA, HB, RA, RB, ST, NS, I0, I1, I2, BO, FI, RG, GU, PU, a.2, MN, MS, OT, SC], [r0, r1, r2, r3, w, r5, r6, r7, r8], Lg))) (fun b => ∀ s7 : Value, Ev (d + 0, 0, 0, 148, 49, [.val (.ref 1088), .val (.int p1), .val (.ref 1100), .val (.int p3), .val (.int p4), .val s7], [], (126, 120, L, [Y, T, HA, HB, RA, RB, ST, NS, I0, I1, I2, BO, FI, RG, GU, PU, b, MN, MS, OT, SC], [r0, r1, r2, r3, w, r5, r6, r7, r8], Lg)) o) ?_ a_F (0, MA) MA_8 zh2 ?_ ()
  · rintro ⟨v1, MA_2⟩ zr6 zh5 zi3 zx4 ⟨⟩
    have zh5 : f_M_keepsRow_5_l3 p3 p4 p1 v1 MA_2 = some zr6 := zh5
    by_cases zc7 : p3 ≤ v1
    · have zh5 := itp zh5 zc7
      suffices e : Ev (d + 0, 0, 0, 148, 49, [.val (.ref 1088), .val (.int p1), .val (.ref 1100), .val (.int p3), .val (.int p4), .val (.int v1)], [], (126, 120, L, [Y, T, HA, HB, RA, RB, ST, NS, I0, I1, I2, BO, FI, RG, GU, PU, MA_2, MN, MS, OT, SC], [r0, r1, r2, r3, w, r5, r6, r7, r8], Lg)) o from ev_t (c := p3 ≤ v1) _ _ 3  zc7 e (fun n => Eq.refl _)
      exact ev_b 0 (zx4 _ (Option.some.inj zh5).symm (.int v1)) (fun n => Eq.refl _)
    · have zh5 := itn zh5 zc7
      suffices e : Ev (d + 0, 0, 0, 148, 9, [.val (.ref 1088), .val (.int p1), .val (.ref 1100), .val (.int p3), .val (.int p4), .val (.int v1)], [], (126, 120, L, [Y, T, HA, HB, RA, RB, ST, NS, I0, I1, I2, BO, FI, RG, GU, PU, MA_2, MN, MS, OT, SC], [r0, r1, r2, r3, w, r5, r6, r7, r8], Lg)) o from ev_f (c := p3 ≤ v1) _ _ 3  zc7 e (fun n => Eq.refl _)
      by_cases zc8 : p4 = 0
      · have zh5 := itp zh5 zc8
        suffices e : Ev (d + 0, 0, 0, 148, 30, [.val (.ref 1088), .val (.int p1), .val (.ref 1100), .val (.int p3), .val (.int p4), .val (.int v1)], [], (126, 120, L, [Y, T, HA, HB, RA, RB, ST, NS, I0, I1, I2, BO, FI, RG, GU, PU, MA_2, MN, MS, OT, SC], [r0, r1, r2, r3, w, r5, r6, r7, r8], Lg)) o from ev_t (c := p4 = 0) _ _ 2  zc8 e (fun n => Eq.refl _)
        obtain ⟨x3, zh9, zh5⟩ := bnd zh5
        have zh9 : rdx (MA_2 13) 1974 (p1 + v1) = some x3 := zh9
        suffices e : Ev (d + 0, 0, 0, 148, 42, [.val (.ref 1088), .val (.int p1), .val (.ref 1100), .val (.int p3), .val (.int p4), .val (.int v1)], [.int x3, .int v1, .ref 1100], (126, 120, L, [Y, T, HA, HB, RA, RB, ST, NS, I0, I1, I2, BO, FI, RG, GU, PU, MA_2, MN, MS, OT, SC], [r0, r1, r2, r3, w, r5, r6, r7, r8], Lg)) o from ev_opt (fun x3 => (d + 0, 0, 0, 148, 42, [.val (.ref 1088), .val (.int p1), .val (.ref 1100), .val (.int p3), .val (.int p4), .val (.int v1)], [.int x3, .int v1, .ref 1100], (126, 120, L, [Y, T, HA, HB, RA, RB, ST, NS, I0, I1, I2, BO, FI, RG, GU, PU, MA_2, MN, MS, OT, SC], [r0, r1, r2, r3, w, r5, r6, r7, r8], Lg))) 8 zh9 e (fun n => Eq.refl _)
        obtain ⟨j4, zh10, zh5⟩ := bnd zh5
        have zh10 : ixx 600 v1 = some j4 := zh10
        suffices e : Ev (d + 0, 0, 0, 148, 43, [.val (.ref 1088), .val (.int p1), .val (.ref 1100), .val (.int p3), .val (.int p4), .val (.int v1)], [], (126, 120, L, [Y, T, HA, HB, RA, RB, ST, NS, I0, I1, I2, BO, FI, RG, GU, PU, (u2 MA_2 12 j4 x3), MN, MS, OT, SC], [r0, r1, r2, r3, w, r5, r6, r7, r8], Lg)) o from ev_opt (fun j4 => (d + 0, 0, 0, 148, 43, [.val (.ref 1088), .val (.int p1), .val (.ref 1100), .val (.int p3), .val (.int p4), .val (.int v1)], [], (126, 120, L, [Y, T, HA, HB, RA, RB, ST, NS, I0, I1, I2, BO, FI, RG, GU, PU, (u2 MA_2 12 j4 x3), MN, MS, OT, SC], [r0, r1, r2, r3, w, r5, r6, r7, r8], Lg))) 1 zh10 e (fun n => Eq.refl _)
        exact ev_b 2 (zi3 _ (Option.some.inj zh5).symm ()) (fun n => Eq.refl _)
      · have zh5 := itn zh5 zc8
        suffices e : Ev (d + 0, 0, 0, 148, 14, [.val (.ref 1088), .val (.int p1), .val (.ref 1100), .val (.int p3), .val (.int p4), .val (.int v1)], [], (126, 120, L, [Y, T, HA, HB, RA, RB, ST, NS, I0, I1, I2, BO, FI, RG, GU, PU, MA_2, MN, MS, OT, SC], [r0, r1, r2, r3, w, r5, r6, r7, r8], Lg)) o from ev_f (c := p4 = 0) _ _ 2  zc8 e (fun n => Eq.refl _)
        obtain ⟨x5, zh11, zh5⟩ := bnd zh5
        have zh11 : rdx (MA_2 12) 600 v1 = some x5 := zh11
        suffices e : Ev (d + 0, 0, 0, 148, 26, [.val (.ref 1088), .val (.int p1), .val (.ref 1100), .val (.int p3), .val (.int p4), .val (.int v1)], [.int x5, .int (p1 + v1), .ref 1101], (126, 120, L, [Y, T, HA, HB, RA, RB, ST, NS, I0, I1, I2, BO, FI, RG, GU, PU, MA_2, MN, MS, OT, SC], [r0, r1, r2, r3, w, r5, r6, r7, r8], Lg)) o from ev_opt (fun x5 => (d + 0, 0, 0, 148, 26, [.val (.ref 1088), .val (.int p1), .val (.ref 1100), .val (.int p3), .val (.int p4), .val (.int v1)], [.int x5, .int (p1 + v1), .ref 1101], (126, 120, L, [Y, T, HA, HB, RA, RB, ST, NS, I0, I1, I2, BO, FI, RG, GU, PU, MA_2, MN, MS, OT, SC], [r0, r1, r2, r3, w, r5, r6, r7, r8], Lg))) 8 zh11 e (fun n => Eq.refl _)
        obtain ⟨j6, zh12, zh5⟩ := bnd zh5
        have zh12 : ixx 1974 (p1 + v1) = some j6 := zh12
        suffices e : Ev (d + 0, 0, 0, 148, 27, [.val (.ref 1088), .val (.int p1), .val (.ref 1100), .val (.int p3), .val (.int p4), .val (.int v1)], [], (126, 120, L, [Y, T, HA, HB, RA, RB, ST, NS, I0, I1, I2, BO, FI, RG, GU, PU, (u2 MA_2 13 j6 x5), MN, MS, OT, SC], [r0, r1, r2, r3, w, r5, r6, r7, r8], Lg)) o from ev_opt (fun j6 => (d + 0, 0, 0, 148, 27, [.val (.ref 1088), .val (.int p1), .val (.ref 1100), .val (.int p3), .val (.int p4), .val (.int v1)], [], (126, 120, L, [Y, T, HA, HB, RA, RB, ST, NS, I0, I1, I2, BO, FI, RG, GU, PU, (u2 MA_2 13 j6 x5), MN, MS, OT, SC], [r0, r1, r2, r3, w, r5, r6, r7, r8], Lg))) 1 zh12 e (fun n => Eq.refl _)
        exact ev_b 3 (zi3 _ (Option.some.inj zh5).symm ()) (fun n => Eq.refl _)
  · skip
    intro s7
    have ze13 := Option.some.inj h
    subst ze13
    exact ev_rete 4 ho (fun n => Eq.refl _)
set_option maxRecDepth 1000000 in
set_option maxHeartbeats 4000000 in
theorem R_f_M_keepsAll_0 (d : Nat) (Y T HA HB RA RB ST NS I0 I1 I2 BO FI RG GU PU MA MN MS OT SC : Nat → Nat → Int32) (r0 r1 r2 r3 w r5 r6 r7 r8 : Nat) (L : Nat) (Lg : Int64) (p1 : Int32) (p2 : Int32) {r : (Nat → Nat → Int32)} (h : f_M_keepsAll MA p1 p2 = some r) : Ev (d + 1, 0, 0, 149, 0, [.val (.ref 1088), .val (.int p1), .val (.int p2), .val a_unk], [], (126, 120, L, [Y, T, HA, HB, RA, RB, ST, NS, I0, I1, I2, BO, FI, RG, GU, PU, MA, MN, MS, OT, SC], [r0, r1, r2, r3, w, r5, r6, r7, r8], Lg)) ((0, none, (126, 120, L, [Y, T, HA, HB, RA, RB, ST, NS, I0, I1, I2, BO, FI, RG, GU, PU, r, MN, MS, OT, SC], [r0, r1, r2, r3, w, r5, r6, r7, r8], Lg)) : AOut) := by
  suffices key : ∀ o : AOut, ((0, none, (126, 120, L, [Y, T, HA, HB, RA, RB, ST, NS, I0, I1, I2, BO, FI, RG, GU, PU, r, MN, MS, OT, SC], [r0, r1, r2, r3, w, r5, r6, r7, r8], Lg)) : AOut) = o → Ev (d + 1, 0, 0, 149, 0, [.val (.ref 1088), .val (.int p1), .val (.int p2), .val a_unk], [], (126, 120, L, [Y, T, HA, HB, RA, RB, ST, NS, I0, I1, I2, BO, FI, RG, GU, PU, MA, MN, MS, OT, SC], [r0, r1, r2, r3, w, r5, r6, r7, r8], Lg)) o from key _ rfl
  intro o ho
  obtain ⟨⟨x1, MA_2⟩, zh1, h⟩ := bnd h
  have zh1 : f_M_keepsRow MA (658 * p1) 10 p2 = some (x1, MA_2) := zh1
  have ze2 := R_f_M_keepsRow_0 (d + 0) Y T HA HB RA RB ST NS I0 I1 I2 BO FI RG GU PU MA MN MS OT SC r0 r1 r2 r3 w r5 r6 r7 r8 L Lg (658 * p1) 10 p2 zh1
  suffices e : Ev (d + 1, 0, 0, 149, 16, [.val (.ref 1088), .val (.int p1), .val (.int p2), .val a_unk], [.int x1], (126, 120, L, [Y, T, HA, HB, RA, RB, ST, NS, I0, I1, I2, BO, FI, RG, GU, PU, MA_2, MN, MS, OT, SC], [r0, r1, r2, r3, w, r5, r6, r7, r8], Lg)) o from ev_call (fun v μ => (d + 1, 0, 0, 149, 16, [.val (.ref 1088), .val (.int p1), .val (.int p2), .val a_unk], v.toList ++ [], μ)) 9 ze2 e (fun n => Eq.refl _)
  obtain ⟨⟨x3, MA_4⟩, zh3, h⟩ := bnd h
  have zh3 : f_M_keepsRow_2 MA_2 x1 10 p2 = some (x3, MA_4) := zh3
  have ze4 := R_f_M_keepsRow_2_0 (d + 0) Y T HA HB RA RB ST NS I0 I1 I2 BO FI RG GU PU MA_2 MN MS OT SC r0 r1 r2 r3 w r5 r6 r7 r8 L Lg x1 10 p2 zh3
  suffices e : Ev (d + 1, 0, 0, 149, 29, [.val (.ref 1088), .val (.int p1), .val (.int p2), .val (.int x1)], [.int x3], (126, 120, L, [Y, T, HA, HB, RA, RB, ST, NS, I0, I1, I2, BO, FI, RG, GU, PU, MA_4, MN, MS, OT, SC], [r0, r1, r2, r3, w, r5, r6, r7, r8], Lg)) o from ev_call (fun v μ => (d + 1, 0, 0, 149, 29, [.val (.ref 1088), .val (.int p1), .val (.int p2), .val (.int x1)], v.toList ++ [], μ)) 8 ze4 e (fun n => Eq.refl _)
  obtain ⟨⟨x5, MA_6⟩, zh5, h⟩ := bnd h
  have zh5 : f_M_keepsRow_3 MA_4 x3 20 p2 = some (x5, MA_6) := zh5
  have ze6 := R_f_M_keepsRow_3_0 (d + 0) Y T HA HB RA RB ST NS I0 I1 I2 BO FI RG GU PU MA_4 MN MS OT SC r0 r1 r2 r3 w r5 r6 r7 r8 L Lg x3 20 p2 zh5
  suffices e : Ev (d + 1, 0, 0, 149, 42, [.val (.ref 1088), .val (.int p1), .val (.int p2), .val (.int x3)], [.int x5], (126, 120, L, [Y, T, HA, HB, RA, RB, ST, NS, I0, I1, I2, BO, FI, RG, GU, PU, MA_6, MN, MS, OT, SC], [r0, r1, r2, r3, w, r5, r6, r7, r8], Lg)) o from ev_call (fun v μ => (d + 1, 0, 0, 149, 42, [.val (.ref 1088), .val (.int p1), .val (.int p2), .val (.int x3)], v.toList ++ [], μ)) 8 ze6 e (fun n => Eq.refl _)
  obtain ⟨⟨x7, MA_8⟩, zh7, h⟩ := bnd h
  have zh7 : f_M_keepsRow_4 MA_6 x5 16 p2 = some (x7, MA_8) := zh7
  have ze8 := R_f_M_keepsRow_4_0 (d + 0) Y T HA HB RA RB ST NS I0 I1 I2 BO FI RG GU PU MA_6 MN MS OT SC r0 r1 r2 r3 w r5 r6 r7 r8 L Lg x5 16 p2 zh7
  suffices e : Ev (d + 1, 0, 0, 149, 55, [.val (.ref 1088), .val (.int p1), .val (.int p2), .val (.int x5)], [.int x7], (126, 120, L, [Y, T, HA, HB, RA, RB, ST, NS, I0, I1, I2, BO, FI, RG, GU, PU, MA_8, MN, MS, OT, SC], [r0, r1, r2, r3, w, r5, r6, r7, r8], Lg)) o from ev_call (fun v μ => (d + 1, 0, 0, 149, 55, [.val (.ref 1088), .val (.int p1), .val (.int p2), .val (.int x5)], v.toList ++ [], μ)) 8 ze8 e (fun n => Eq.refl _)
  obtain ⟨⟨x9, MA_10⟩, zh9, h⟩ := bnd h
  have zh9 : f_M_keepsRow_5 MA_8 x7 600 p2 = some (x9, MA_10) := zh9
  have ze10 := R_f_M_keepsRow_5_0 (d + 0) Y T HA HB RA RB ST NS I0 I1 I2 BO FI RG GU PU MA_8 MN MS OT SC r0 r1 r2 r3 w r5 r6 r7 r8 L Lg x7 600 p2 zh9
  suffices e : Ev (d + 1, 0, 0, 149, 69, [.val (.ref 1088), .val (.int p1), .val (.int p2), .val (.int x7)], [.int x9], (126, 120, L, [Y, T, HA, HB, RA, RB, ST, NS, I0, I1, I2, BO, FI, RG, GU, PU, MA_10, MN, MS, OT, SC], [r0, r1, r2, r3, w, r5, r6, r7, r8], Lg)) o from ev_call (fun v μ => (d + 1, 0, 0, 149, 69, [.val (.ref 1088), .val (.int p1), .val (.int p2), .val (.int x7)], v.toList ++ [], μ)) 8 ze10 e (fun n => Eq.refl _)
  by_cases zc11 : p2 = 0
  · have h := itp h zc11
    suffices e : Ev (d + 1, 0, 0, 149, 99, [.val (.ref 1088), .val (.int p1), .val (.int p2), .val (.int x9)], [], (126, 120, L, [Y, T, HA, HB, RA, RB, ST, NS, I0, I1, I2, BO, FI, RG, GU, PU, MA_10, MN, MS, OT, SC], [r0, r1, r2, r3, w, r5, r6, r7, r8], Lg)) o from ev_t (c := p2 = 0) _ _ 3  zc11 e (fun n => Eq.refl _)
    obtain ⟨x11, zh12, h⟩ := bnd h
    have zh12 : rdx (MA_10 13) 1974 x9 = some x11 := zh12
    suffices e : Ev (d + 1, 0, 0, 149, 106, [.val (.ref 1088), .val (.int p1), .val (.int p2), .val (.int x9)], [.int x11, .ref 1088], (126, 120, L, [Y, T, HA, HB, RA, RB, ST, NS, I0, I1, I2, BO, FI, RG, GU, PU, MA_10, MN, MS, OT, SC], [r0, r1, r2, r3, w, r5, r6, r7, r8], Lg)) o from ev_opt (fun x11 => (d + 1, 0, 0, 149, 106, [.val (.ref 1088), .val (.int p1), .val (.int p2), .val (.int x9)], [.int x11, .ref 1088], (126, 120, L, [Y, T, HA, HB, RA, RB, ST, NS, I0, I1, I2, BO, FI, RG, GU, PU, MA_10, MN, MS, OT, SC], [r0, r1, r2, r3, w, r5, r6, r7, r8], Lg))) 5 zh12 e (fun n => Eq.refl _)
    obtain ⟨x12, zh13, h⟩ := bnd h
    have zh13 : rdx ((u2 MA_10 0 33 x11) 13) 1974 (x9 + 1) = some x12 := zh13
    suffices e : Ev (d + 1, 0, 0, 149, 118, [.val (.ref 1088), .val (.int p1), .val (.int p2), .val (.int x9)], [.int x12, .ref 1088], (126, 120, L, [Y, T, HA, HB, RA, RB, ST, NS, I0, I1, I2, BO, FI, RG, GU, PU, (u2 MA_10 0 33 x11), MN, MS, OT, SC], [r0, r1, r2, r3, w, r5, r6, r7, r8], Lg)) o from ev_opt (fun x12 => (d + 1, 0, 0, 149, 118, [.val (.ref 1088), .val (.int p1), .val (.int p2), .val (.int x9)], [.int x12, .ref 1088], (126, 120, L, [Y, T, HA, HB, RA, RB, ST, NS, I0, I1, I2, BO, FI, RG, GU, PU, (u2 MA_10 0 33 x11), MN, MS, OT, SC], [r0, r1, r2, r3, w, r5, r6, r7, r8], Lg))) 8 zh13 e (fun n => Eq.refl _)
    have ze14 := Option.some.inj h
    subst ze14
    exact ev_rete 2 ho (fun n => Eq.refl _)
  · have h := itn h zc11
    suffices e : Ev (d + 1, 0, 0, 149, 74, [.val (.ref 1088), .val (.int p1), .val (.int p2), .val (.int x9)], [], (126, 120, L, [Y, T, HA, HB, RA, RB, ST, NS, I0, I1, I2, BO, FI, RG, GU, PU, MA_10, MN, MS, OT, SC], [r0, r1, r2, r3, w, r5, r6, r7, r8], Lg)) o from ev_f (c := p2 = 0) _ _ 3  zc11 e (fun n => Eq.refl _)
    obtain ⟨j13, zh15, h⟩ := bnd h
    have zh15 : ixx 1974 x9 = some j13 := zh15
    suffices e : Ev (d + 1, 0, 0, 149, 84, [.val (.ref 1088), .val (.int p1), .val (.int p2), .val (.int x9)], [], (126, 120, L, [Y, T, HA, HB, RA, RB, ST, NS, I0, I1, I2, BO, FI, RG, GU, PU, (u2 MA_10 13 j13 (MA_10 0 33)), MN, MS, OT, SC], [r0, r1, r2, r3, w, r5, r6, r7, r8], Lg)) o from ev_opt (fun j13 => (d + 1, 0, 0, 149, 84, [.val (.ref 1088), .val (.int p1), .val (.int p2), .val (.int x9)], [], (126, 120, L, [Y, T, HA, HB, RA, RB, ST, NS, I0, I1, I2, BO, FI, RG, GU, PU, (u2 MA_10 13 j13 (MA_10 0 33)), MN, MS, OT, SC], [r0, r1, r2, r3, w, r5, r6, r7, r8], Lg))) 6 zh15 e (fun n => Eq.refl _)
    obtain ⟨j14, zh16, h⟩ := bnd h
    have zh16 : ixx 1974 (x9 + 1) = some j14 := zh16
    suffices e : Ev (d + 1, 0, 0, 149, 96, [.val (.ref 1088), .val (.int p1), .val (.int p2), .val (.int x9)], [], (126, 120, L, [Y, T, HA, HB, RA, RB, ST, NS, I0, I1, I2, BO, FI, RG, GU, PU, (u2 (u2 MA_10 13 j13 (MA_10 0 33)) 13 j14 ((u2 MA_10 13 j13 (MA_10 0 33)) 0 43)), MN, MS, OT, SC], [r0, r1, r2, r3, w, r5, r6, r7, r8], Lg)) o from ev_opt (fun j14 => (d + 1, 0, 0, 149, 96, [.val (.ref 1088), .val (.int p1), .val (.int p2), .val (.int x9)], [], (126, 120, L, [Y, T, HA, HB, RA, RB, ST, NS, I0, I1, I2, BO, FI, RG, GU, PU, (u2 (u2 MA_10 13 j13 (MA_10 0 33)) 13 j14 ((u2 MA_10 13 j13 (MA_10 0 33)) 0 43)), MN, MS, OT, SC], [r0, r1, r2, r3, w, r5, r6, r7, r8], Lg))) 8 zh16 e (fun n => Eq.refl _)
    have ze17 := Option.some.inj h
    subst ze17
    exact ev_rete 2 ho (fun n => Eq.refl _)
set_option maxRecDepth 1000000 in
set_option maxHeartbeats 4000000 in
theorem R_f_M_image_0 (d : Nat) (Y T HA HB RA RB ST NS I0 I1 I2 BO FI RG GU PU MA MN MS OT SC : Nat → Nat → Int32) (r0 r1 r2 r3 w r5 r6 r7 r8 : Nat) (L : Nat) (Lg : Int64) {r : Int32 × (Nat → Nat → Int32)} (h : f_M_image MA = some r) : Ev (d + 2, 0, 0, 150, 0, [.val (.ref 1088)], [], (126, 120, L, [Y, T, HA, HB, RA, RB, ST, NS, I0, I1, I2, BO, FI, RG, GU, PU, MA, MN, MS, OT, SC], [r0, r1, r2, r3, w, r5, r6, r7, r8], Lg)) ((0, some (.int r.1), (126, 120, L, [Y, T, HA, HB, RA, RB, ST, NS, I0, I1, I2, BO, FI, RG, GU, PU, r.2, MN, MS, OT, SC], [r0, r1, r2, r3, w, r5, r6, r7, r8], Lg)) : AOut) := by
  suffices key : ∀ o : AOut, ((0, some (.int r.1), (126, 120, L, [Y, T, HA, HB, RA, RB, ST, NS, I0, I1, I2, BO, FI, RG, GU, PU, r.2, MN, MS, OT, SC], [r0, r1, r2, r3, w, r5, r6, r7, r8], Lg)) : AOut) = o → Ev (d + 2, 0, 0, 150, 0, [.val (.ref 1088)], [], (126, 120, L, [Y, T, HA, HB, RA, RB, ST, NS, I0, I1, I2, BO, FI, RG, GU, PU, MA, MN, MS, OT, SC], [r0, r1, r2, r3, w, r5, r6, r7, r8], Lg)) o from key _ rfl
  intro o ho
  by_cases zc1 : ((u2 MA 0 0 0) 0 65) ≠ 3
  · have h := itp h zc1
    suffices e : Ev (d + 2, 0, 0, 150, 15, [.val (.ref 1088)], [], (126, 120, L, [Y, T, HA, HB, RA, RB, ST, NS, I0, I1, I2, BO, FI, RG, GU, PU, (u2 MA 0 0 0), MN, MS, OT, SC], [r0, r1, r2, r3, w, r5, r6, r7, r8], Lg)) o from ev_t (c := ((u2 MA 0 0 0) 0 65) ≠ 3) _ _ 7  zc1 e (fun n => Eq.refl _)
    obtain ⟨MA_1, zh2, h⟩ := bnd h
    have zh2 : f_M_keepsAll (u2 MA 0 0 0) ((u2 MA 0 0 0) 0 65) 1 = some MA_1 := zh2
    have ze3 := R_f_M_keepsAll_0 (d + 0) Y T HA HB RA RB ST NS I0 I1 I2 BO FI RG GU PU (u2 MA 0 0 0) MN MS OT SC r0 r1 r2 r3 w r5 r6 r7 r8 L Lg ((u2 MA 0 0 0) 0 65) 1 zh2
    suffices e : Ev (d + 2, 0, 0, 150, 24, [.val (.ref 1088)], [], (126, 120, L, [Y, T, HA, HB, RA, RB, ST, NS, I0, I1, I2, BO, FI, RG, GU, PU, MA_1, MN, MS, OT, SC], [r0, r1, r2, r3, w, r5, r6, r7, r8], Lg)) o from ev_call (fun v μ => (d + 2, 0, 0, 150, 24, [.val (.ref 1088)], v.toList ++ [], μ)) 5 ze3 e (fun n => Eq.refl _)
    have ze4 := Option.some.inj h
    subst ze4
    exact ev_rete 9 ho (fun n => Eq.refl _)
  · have h := itn h zc1
    suffices e : Ev (d + 2, 0, 0, 150, 13, [.val (.ref 1088)], [], (126, 120, L, [Y, T, HA, HB, RA, RB, ST, NS, I0, I1, I2, BO, FI, RG, GU, PU, (u2 MA 0 0 0), MN, MS, OT, SC], [r0, r1, r2, r3, w, r5, r6, r7, r8], Lg)) o from ev_f (c := ((u2 MA 0 0 0) 0 65) ≠ 3) _ _ 7  zc1 e (fun n => Eq.refl _)
    have ze5 := Option.some.inj h
    subst ze5
    exact ev_rete 2 ho (fun n => Eq.refl _)
set_option maxRecDepth 1000000 in
set_option maxHeartbeats 4000000 in
theorem R_f_M_restore_0 (d : Nat) (Y T HA HB RA RB ST NS I0 I1 I2 BO FI RG GU PU MA MN MS OT SC : Nat → Nat → Int32) (r0 r1 r2 r3 w r5 r6 r7 r8 : Nat) (L : Nat) (Lg : Int64) {r : Int32 × (Nat → Nat → Int32)} (h : f_M_restore MA = some r) : Ev (d + 2, 0, 0, 151, 0, [.val (.ref 1088)], [], (126, 120, L, [Y, T, HA, HB, RA, RB, ST, NS, I0, I1, I2, BO, FI, RG, GU, PU, MA, MN, MS, OT, SC], [r0, r1, r2, r3, w, r5, r6, r7, r8], Lg)) ((0, some (.int r.1), (126, 120, L, [Y, T, HA, HB, RA, RB, ST, NS, I0, I1, I2, BO, FI, RG, GU, PU, r.2, MN, MS, OT, SC], [r0, r1, r2, r3, w, r5, r6, r7, r8], Lg)) : AOut) := by
  suffices key : ∀ o : AOut, ((0, some (.int r.1), (126, 120, L, [Y, T, HA, HB, RA, RB, ST, NS, I0, I1, I2, BO, FI, RG, GU, PU, r.2, MN, MS, OT, SC], [r0, r1, r2, r3, w, r5, r6, r7, r8], Lg)) : AOut) = o → Ev (d + 2, 0, 0, 151, 0, [.val (.ref 1088)], [], (126, 120, L, [Y, T, HA, HB, RA, RB, ST, NS, I0, I1, I2, BO, FI, RG, GU, PU, MA, MN, MS, OT, SC], [r0, r1, r2, r3, w, r5, r6, r7, r8], Lg)) o from key _ rfl
  intro o ho
  by_cases zc1 : ((u2 MA 0 0 0) 0 65) ≠ 0
  · have h := itp h zc1
    suffices e : Ev (d + 2, 0, 0, 151, 14, [.val (.ref 1088)], [], (126, 120, L, [Y, T, HA, HB, RA, RB, ST, NS, I0, I1, I2, BO, FI, RG, GU, PU, (u2 MA 0 0 0), MN, MS, OT, SC], [r0, r1, r2, r3, w, r5, r6, r7, r8], Lg)) o from ev_t (c := ((u2 MA 0 0 0) 0 65) ≠ 0) _ _ 6  zc1 e (fun n => Eq.refl _)
    obtain ⟨MA_1, zh2, h⟩ := bnd h
    have zh2 : f_M_keepsAll (u2 (u2 MA 0 0 0) 0 65 (((u2 MA 0 0 0) 0 65) - 1)) ((u2 (u2 MA 0 0 0) 0 65 (((u2 MA 0 0 0) 0 65) - 1)) 0 65) 0 = some MA_1 := zh2
    have ze3 := R_f_M_keepsAll_0 (d + 0) Y T HA HB RA RB ST NS I0 I1 I2 BO FI RG GU PU (u2 (u2 MA 0 0 0) 0 65 (((u2 MA 0 0 0) 0 65) - 1)) MN MS OT SC r0 r1 r2 r3 w r5 r6 r7 r8 L Lg ((u2 (u2 MA 0 0 0) 0 65 (((u2 MA 0 0 0) 0 65) - 1)) 0 65) 0 zh2
    suffices e : Ev (d + 2, 0, 0, 151, 33, [.val (.ref 1088)], [], (126, 120, L, [Y, T, HA, HB, RA, RB, ST, NS, I0, I1, I2, BO, FI, RG, GU, PU, MA_1, MN, MS, OT, SC], [r0, r1, r2, r3, w, r5, r6, r7, r8], Lg)) o from ev_call (fun v μ => (d + 2, 0, 0, 151, 33, [.val (.ref 1088)], v.toList ++ [], μ)) 11 ze3 e (fun n => Eq.refl _)
    have ze4 := Option.some.inj h
    subst ze4
    exact ev_rete 3 ho (fun n => Eq.refl _)
  · have h := itn h zc1
    suffices e : Ev (d + 2, 0, 0, 151, 12, [.val (.ref 1088)], [], (126, 120, L, [Y, T, HA, HB, RA, RB, ST, NS, I0, I1, I2, BO, FI, RG, GU, PU, (u2 MA 0 0 0), MN, MS, OT, SC], [r0, r1, r2, r3, w, r5, r6, r7, r8], Lg)) o from ev_f (c := ((u2 MA 0 0 0) 0 65) ≠ 0) _ _ 6  zc1 e (fun n => Eq.refl _)
    have ze5 := Option.some.inj h
    subst ze5
    exact ev_rete 2 ho (fun n => Eq.refl _)
set_option maxRecDepth 1000000 in
set_option maxHeartbeats 4000000 in
theorem R_f_M_status_0 (d : Nat) (Y T HA HB RA RB ST NS I0 I1 I2 BO FI RG GU PU MA MN MS OT SC : Nat → Nat → Int32) (r0 r1 r2 r3 w r5 r6 r7 r8 : Nat) (L : Nat) (Lg : Int64) (p1 : Int32) {r : Int32 × (Nat → Nat → Int32)} (h : f_M_status MA p1 = some r) : Ev (d + 1, 0, 0, 152, 0, [.val (.ref 1088), .val (.int p1)], [], (126, 120, L, [Y, T, HA, HB, RA, RB, ST, NS, I0, I1, I2, BO, FI, RG, GU, PU, MA, MN, MS, OT, SC], [r0, r1, r2, r3, w, r5, r6, r7, r8], Lg)) ((0, some (.int r.1), (126, 120, L, [Y, T, HA, HB, RA, RB, ST, NS, I0, I1, I2, BO, FI, RG, GU, PU, r.2, MN, MS, OT, SC], [r0, r1, r2, r3, w, r5, r6, r7, r8], Lg)) : AOut) := by
  suffices key : ∀ o : AOut, ((0, some (.int r.1), (126, 120, L, [Y, T, HA, HB, RA, RB, ST, NS, I0, I1, I2, BO, FI, RG, GU, PU, r.2, MN, MS, OT, SC], [r0, r1, r2, r3, w, r5, r6, r7, r8], Lg)) : AOut) = o → Ev (d + 1, 0, 0, 152, 0, [.val (.ref 1088), .val (.int p1)], [], (126, 120, L, [Y, T, HA, HB, RA, RB, ST, NS, I0, I1, I2, BO, FI, RG, GU, PU, MA, MN, MS, OT, SC], [r0, r1, r2, r3, w, r5, r6, r7, r8], Lg)) o from key _ rfl
  intro o ho
  obtain ⟨x1, zh1, h⟩ := bnd h
  have zh1 : f_M_within p1 0 1 = some x1 := zh1
  have ze2 := R_f_M_within_0 (d + 0) Y T HA HB RA RB ST NS I0 I1 I2 BO FI RG GU PU (u2 MA 0 0 0) MN MS OT SC r0 r1 r2 r3 w r5 r6 r7 r8 L Lg p1 0 1 zh1
  suffices e : Ev (d + 1, 0, 0, 152, 11, [.val (.ref 1088), .val (.int p1)], [.int x1], (126, 120, L, [Y, T, HA, HB, RA, RB, ST, NS, I0, I1, I2, BO, FI, RG, GU, PU, (u2 MA 0 0 0), MN, MS, OT, SC], [r0, r1, r2, r3, w, r5, r6, r7, r8], Lg)) o from ev_call (fun v μ => (d + 1, 0, 0, 152, 11, [.val (.ref 1088), .val (.int p1)], v.toList ++ [], μ)) 7 ze2 e (fun n => Eq.refl _)
  by_cases zc3 : x1 = 0
  · have h := itp h zc3
    suffices e : Ev (d + 1, 0, 0, 152, 23, [.val (.ref 1088), .val (.int p1)], [], (126, 120, L, [Y, T, HA, HB, RA, RB, ST, NS, I0, I1, I2, BO, FI, RG, GU, PU, (u2 MA 0 0 0), MN, MS, OT, SC], [r0, r1, r2, r3, w, r5, r6, r7, r8], Lg)) o from ev_t (c := x1 = 0) _ _ 1  zc3 e (fun n => Eq.refl _)
    have ze4 := Option.some.inj h
    subst ze4
    exact ev_rete 2 ho (fun n => Eq.refl _)
  · have h := itn h zc3
    suffices e : Ev (d + 1, 0, 0, 152, 14, [.val (.ref 1088), .val (.int p1)], [], (126, 120, L, [Y, T, HA, HB, RA, RB, ST, NS, I0, I1, I2, BO, FI, RG, GU, PU, (u2 MA 0 0 0), MN, MS, OT, SC], [r0, r1, r2, r3, w, r5, r6, r7, r8], Lg)) o from ev_f (c := x1 = 0) _ _ 1  zc3 e (fun n => Eq.refl _)
    obtain ⟨x2, zh5, h⟩ := bnd h
    have zh5 : rdx ((u2 MA 0 0 0) 1) 2 p1 = some x2 := zh5
    suffices e : Ev (d + 1, 0, 0, 152, 20, [.val (.ref 1088), .val (.int p1)], [.int x2], (126, 120, L, [Y, T, HA, HB, RA, RB, ST, NS, I0, I1, I2, BO, FI, RG, GU, PU, (u2 MA 0 0 0), MN, MS, OT, SC], [r0, r1, r2, r3, w, r5, r6, r7, r8], Lg)) o from ev_opt (fun x2 => (d + 1, 0, 0, 152, 20, [.val (.ref 1088), .val (.int p1)], [.int x2], (126, 120, L, [Y, T, HA, HB, RA, RB, ST, NS, I0, I1, I2, BO, FI, RG, GU, PU, (u2 MA 0 0 0), MN, MS, OT, SC], [r0, r1, r2, r3, w, r5, r6, r7, r8], Lg))) 4 zh5 e (fun n => Eq.refl _)
    have ze6 := Option.some.inj h
    subst ze6
    exact ev_rete 2 ho (fun n => Eq.refl _)
set_option maxRecDepth 1000000 in
set_option maxHeartbeats 4000000 in
theorem R_f_M_count_0 (d : Nat) (Y T HA HB RA RB ST NS I0 I1 I2 BO FI RG GU PU MA MN MS OT SC : Nat → Nat → Int32) (r0 r1 r2 r3 w r5 r6 r7 r8 : Nat) (L : Nat) (Lg : Int64) (p1 : Int32) {r : Int32 × (Nat → Nat → Int32)} (h : f_M_count MA p1 = some r) : Ev (d + 0, 0, 0, 153, 0, [.val (.ref 1088), .val (.int p1)], [], (126, 120, L, [Y, T, HA, HB, RA, RB, ST, NS, I0, I1, I2, BO, FI, RG, GU, PU, MA, MN, MS, OT, SC], [r0, r1, r2, r3, w, r5, r6, r7, r8], Lg)) ((0, some (.int r.1), (126, 120, L, [Y, T, HA, HB, RA, RB, ST, NS, I0, I1, I2, BO, FI, RG, GU, PU, r.2, MN, MS, OT, SC], [r0, r1, r2, r3, w, r5, r6, r7, r8], Lg)) : AOut) := by
  suffices key : ∀ o : AOut, ((0, some (.int r.1), (126, 120, L, [Y, T, HA, HB, RA, RB, ST, NS, I0, I1, I2, BO, FI, RG, GU, PU, r.2, MN, MS, OT, SC], [r0, r1, r2, r3, w, r5, r6, r7, r8], Lg)) : AOut) = o → Ev (d + 0, 0, 0, 153, 0, [.val (.ref 1088), .val (.int p1)], [], (126, 120, L, [Y, T, HA, HB, RA, RB, ST, NS, I0, I1, I2, BO, FI, RG, GU, PU, MA, MN, MS, OT, SC], [r0, r1, r2, r3, w, r5, r6, r7, r8], Lg)) o from key _ rfl
  intro o ho
  by_cases zc1 : p1 ≠ 0
  · have h := itp h zc1
    suffices e : Ev (d + 0, 0, 0, 153, 16, [.val (.ref 1088), .val (.int p1)], [], (126, 120, L, [Y, T, HA, HB, RA, RB, ST, NS, I0, I1, I2, BO, FI, RG, GU, PU, (u2 MA 0 0 0), MN, MS, OT, SC], [r0, r1, r2, r3, w, r5, r6, r7, r8], Lg)) o from ev_t (c := p1 ≠ 0) _ _ 5  zc1 e (fun n => Eq.refl _)
    by_cases zc2 : p1 ≠ 1
    · have h := itp h zc2
      suffices e : Ev (d + 0, 0, 0, 153, 28, [.val (.ref 1088), .val (.int p1)], [], (126, 120, L, [Y, T, HA, HB, RA, RB, ST, NS, I0, I1, I2, BO, FI, RG, GU, PU, (u2 MA 0 0 0), MN, MS, OT, SC], [r0, r1, r2, r3, w, r5, r6, r7, r8], Lg)) o from ev_t (c := p1 ≠ 1) _ _ 3  zc2 e (fun n => Eq.refl _)
      by_cases zc3 : p1 ≠ 2
      · have h := itp h zc3
        suffices e : Ev (d + 0, 0, 0, 153, 40, [.val (.ref 1088), .val (.int p1)], [], (126, 120, L, [Y, T, HA, HB, RA, RB, ST, NS, I0, I1, I2, BO, FI, RG, GU, PU, (u2 MA 0 0 0), MN, MS, OT, SC], [r0, r1, r2, r3, w, r5, r6, r7, r8], Lg)) o from ev_t (c := p1 ≠ 2) _ _ 3  zc3 e (fun n => Eq.refl _)
        have ze4 := Option.some.inj h
        subst ze4
        exact ev_rete 2 ho (fun n => Eq.refl _)
      · have h := itn h zc3
        suffices e : Ev (d + 0, 0, 0, 153, 33, [.val (.ref 1088), .val (.int p1)], [], (126, 120, L, [Y, T, HA, HB, RA, RB, ST, NS, I0, I1, I2, BO, FI, RG, GU, PU, (u2 MA 0 0 0), MN, MS, OT, SC], [r0, r1, r2, r3, w, r5, r6, r7, r8], Lg)) o from ev_f (c := p1 ≠ 2) _ _ 3  zc3 e (fun n => Eq.refl _)
        have ze5 := Option.some.inj h
        subst ze5
        exact ev_rete 4 ho (fun n => Eq.refl _)
    · have h := itn h zc2
      suffices e : Ev (d + 0, 0, 0, 153, 21, [.val (.ref 1088), .val (.int p1)], [], (126, 120, L, [Y, T, HA, HB, RA, RB, ST, NS, I0, I1, I2, BO, FI, RG, GU, PU, (u2 MA 0 0 0), MN, MS, OT, SC], [r0, r1, r2, r3, w, r5, r6, r7, r8], Lg)) o from ev_f (c := p1 ≠ 1) _ _ 3  zc2 e (fun n => Eq.refl _)
      have ze6 := Option.some.inj h
      subst ze6
      exact ev_rete 4 ho (fun n => Eq.refl _)
  · have h := itn h zc1
    suffices e : Ev (d + 0, 0, 0, 153, 9, [.val (.ref 1088), .val (.int p1)], [], (126, 120, L, [Y, T, HA, HB, RA, RB, ST, NS, I0, I1, I2, BO, FI, RG, GU, PU, (u2 MA 0 0 0), MN, MS, OT, SC], [r0, r1, r2, r3, w, r5, r6, r7, r8], Lg)) o from ev_f (c := p1 ≠ 0) _ _ 5  zc1 e (fun n => Eq.refl _)
    have ze7 := Option.some.inj h
    subst ze7
    exact ev_rete 4 ho (fun n => Eq.refl _)
set_option maxRecDepth 1000000 in
set_option maxHeartbeats 4000000 in
theorem R_f_Tape_append_0 (d : Nat) (Y T HA HB RA RB ST NS I0 I1 I2 BO FI RG GU PU MA MN MS OT SC : Nat → Nat → Int32) (r0 r1 r2 r3 w r5 r6 r7 r8 : Nat) (L : Nat) (Lg : Int64) (p1 : Int32) {r : (Nat → Nat → Int32)} (h : f_Tape_append T p1 = some r) : Ev (d + 0, 0, 0, 264, 0, [.val (.ref 128), .val (.int p1), .val a_unk], [], (126, 120, L, [Y, T, HA, HB, RA, RB, ST, NS, I0, I1, I2, BO, FI, RG, GU, PU, MA, MN, MS, OT, SC], [r0, r1, r2, r3, w, r5, r6, r7, r8], Lg)) ((0, none, (126, 120, L, [Y, r, HA, HB, RA, RB, ST, NS, I0, I1, I2, BO, FI, RG, GU, PU, MA, MN, MS, OT, SC], [r0, r1, r2, r3, w, r5, r6, r7, r8], Lg)) : AOut) := by
  suffices key : ∀ o : AOut, ((0, none, (126, 120, L, [Y, r, HA, HB, RA, RB, ST, NS, I0, I1, I2, BO, FI, RG, GU, PU, MA, MN, MS, OT, SC], [r0, r1, r2, r3, w, r5, r6, r7, r8], Lg)) : AOut) = o → Ev (d + 0, 0, 0, 264, 0, [.val (.ref 128), .val (.int p1), .val a_unk], [], (126, 120, L, [Y, T, HA, HB, RA, RB, ST, NS, I0, I1, I2, BO, FI, RG, GU, PU, MA, MN, MS, OT, SC], [r0, r1, r2, r3, w, r5, r6, r7, r8], Lg)) o from key _ rfl
  intro o ho
  obtain ⟨T_5, zh2, h⟩ := bnd h
  suffices e : Ev (d + 0, 0, 0, 264, 3, [.val (.ref 128), .val (.int p1), .val (.int 24)], [], (126, 120, L, [Y, T, HA, HB, RA, RB, ST, NS, I0, I1, I2, BO, FI, RG, GU, PU, MA, MN, MS, OT, SC], [r0, r1, r2, r3, w, r5, r6, r7, r8], Lg)) o from ev_b 2 e (fun n => Eq.refl _)
  refine ev_loop (δ := Unit) (fun a j => (d + 0, 0, 0, 264, 3, [.val (.ref 128), .val (.int p1), .val (.int a.1)], [], (126, 120, L, [Y, a.2, HA, HB, RA, RB, ST, NS, I0, I1, I2, BO, FI, RG, GU, PU, MA, MN, MS, OT, SC], [r0, r1, r2, r3, w, r5, r6, r7, r8], Lg))) (fun b => ∀ s4 : Value, Ev (d + 0, 0, 0, 264, 49, [.val (.ref 128), .val (.int p1), .val s4], [], (126, 120, L, [Y, b, HA, HB, RA, RB, ST, NS, I0, I1, I2, BO, FI, RG, GU, PU, MA, MN, MS, OT, SC], [r0, r1, r2, r3, w, r5, r6, r7, r8], Lg)) o) ?_ a_F (24, T) T_5 zh2 ?_ ()
  · rintro ⟨v1, T_2⟩ zr6 zh5 zi3 zx4 ⟨⟩
    have zh5 : f_Tape_append_l3 p1 v1 T_2 = some zr6 := zh5
    by_cases zc7 : v1 < 0
    · have zh5 := itp zh5 zc7
      suffices e : Ev (d + 0, 0, 0, 264, 49, [.val (.ref 128), .val (.int p1), .val (.int v1)], [], (126, 120, L, [Y, T_2, HA, HB, RA, RB, ST, NS, I0, I1, I2, BO, FI, RG, GU, PU, MA, MN, MS, OT, SC], [r0, r1, r2, r3, w, r5, r6, r7, r8], Lg)) o from ev_t (c := v1 < 0) _ _ 2  zc7 e (fun n => Eq.refl _)
      exact ev_b 0 (zx4 _ (Option.some.inj zh5).symm (.int v1)) (fun n => Eq.refl _)
    · have zh5 := itn zh5 zc7
      suffices e : Ev (d + 0, 0, 0, 264, 7, [.val (.ref 128), .val (.int p1), .val (.int v1)], [], (126, 120, L, [Y, T_2, HA, HB, RA, RB, ST, NS, I0, I1, I2, BO, FI, RG, GU, PU, MA, MN, MS, OT, SC], [r0, r1, r2, r3, w, r5, r6, r7, r8], Lg)) o from ev_f (c := v1 < 0) _ _ 2  zc7 e (fun n => Eq.refl _)
      by_cases zc8 : 600 ≤ (T_2 0 1)
      · have zh5 := itp zh5 zc8
        suffices e : Ev (d + 0, 0, 0, 264, 43, [.val (.ref 128), .val (.int p1), .val (.int v1)], [], (126, 120, L, [Y, T_2, HA, HB, RA, RB, ST, NS, I0, I1, I2, BO, FI, RG, GU, PU, MA, MN, MS, OT, SC], [r0, r1, r2, r3, w, r5, r6, r7, r8], Lg)) o from ev_t (c := 600 ≤ (T_2 0 1)) _ _ 4  zc8 e (fun n => Eq.refl _)
        suffices e : Ev (d + 0, 0, 0, 264, 46, [.val (.ref 128), .val (.int p1), .val (.int (v1 + (-8)))], [], (126, 120, L, [Y, T_2, HA, HB, RA, RB, ST, NS, I0, I1, I2, BO, FI, RG, GU, PU, MA, MN, MS, OT, SC], [r0, r1, r2, r3, w, r5, r6, r7, r8], Lg)) o from ev_b 1 e (fun n => Eq.refl _)
        exact ev_b 1 (zi3 _ (Option.some.inj zh5).symm ()) (fun n => Eq.refl _)
      · have zh5 := itn zh5 zc8
        suffices e : Ev (d + 0, 0, 0, 264, 17, [.val (.ref 128), .val (.int p1), .val (.int v1)], [], (126, 120, L, [Y, T_2, HA, HB, RA, RB, ST, NS, I0, I1, I2, BO, FI, RG, GU, PU, MA, MN, MS, OT, SC], [r0, r1, r2, r3, w, r5, r6, r7, r8], Lg)) o from ev_f (c := 600 ≤ (T_2 0 1)) _ _ 4  zc8 e (fun n => Eq.refl _)
        obtain ⟨j3, zh9, zh5⟩ := bnd zh5
        have zh9 : ixx 600 (T_2 0 1) = some j3 := zh9
        suffices e : Ev (d + 0, 0, 0, 264, 33, [.val (.ref 128), .val (.int p1), .val (.int v1)], [], (126, 120, L, [Y, (u2 T_2 1 j3 ((a_ushr p1 v1) &&& 255)), HA, HB, RA, RB, ST, NS, I0, I1, I2, BO, FI, RG, GU, PU, MA, MN, MS, OT, SC], [r0, r1, r2, r3, w, r5, r6, r7, r8], Lg)) o from ev_opt (fun j3 => (d + 0, 0, 0, 264, 33, [.val (.ref 128), .val (.int p1), .val (.int v1)], [], (126, 120, L, [Y, (u2 T_2 1 j3 ((a_ushr p1 v1) &&& 255)), HA, HB, RA, RB, ST, NS, I0, I1, I2, BO, FI, RG, GU, PU, MA, MN, MS, OT, SC], [r0, r1, r2, r3, w, r5, r6, r7, r8], Lg))) 10 zh9 e (fun n => Eq.refl _)
        suffices e : Ev (d + 0, 0, 0, 264, 46, [.val (.ref 128), .val (.int p1), .val (.int (v1 + (-8)))], [], (126, 120, L, [Y, (u2 (u2 T_2 1 j3 ((a_ushr p1 v1) &&& 255)) 0 1 (((u2 T_2 1 j3 ((a_ushr p1 v1) &&& 255)) 0 1) + 1)), HA, HB, RA, RB, ST, NS, I0, I1, I2, BO, FI, RG, GU, PU, MA, MN, MS, OT, SC], [r0, r1, r2, r3, w, r5, r6, r7, r8], Lg)) o from ev_b 7 e (fun n => Eq.refl _)
        exact ev_b 1 (zi3 _ (Option.some.inj zh5).symm ()) (fun n => Eq.refl _)
  · skip
    intro s4
    have ze10 := Option.some.inj h
    subst ze10
    exact ev_rete 1 ho (fun n => Eq.refl _)
