/-! printed by program (gen/emitm.py): the reference's methods run as their functions say -/
set_option maxRecDepth 1000000 in
set_option maxHeartbeats 4000000 in
theorem R_f_Y_fault_3 (d : Nat) (Y T H2 H RV RU ST NS I0 I1 I2 BO FI RG GU PU MA MN MS OT SC : Nat → Nat → Int32) (w r5 : Nat) (L : Nat) (Lg : Int64) {r : Int32} (h : f_Y_fault T = some r) : Ev (d + 0, 0, 0, 287, 0, [.val (.ref 64)], [], (126, 120, L, [Y, T, H2, H, RV, RU, ST, NS, I0, I1, I2, BO, FI, RG, GU, PU, MA, MN, MS, OT, SC], [256, 192, 384, 320, w, r5, 576, 640, 704], Lg)) ((0, some (.int r), (126, 120, L, [Y, T, H2, H, RV, RU, ST, NS, I0, I1, I2, BO, FI, RG, GU, PU, MA, MN, MS, OT, SC], [256, 192, 384, 320, w, r5, 576, 640, 704], Lg)) : AOut) := by
  suffices key : ∀ o : AOut, ((0, some (.int r), (126, 120, L, [Y, T, H2, H, RV, RU, ST, NS, I0, I1, I2, BO, FI, RG, GU, PU, MA, MN, MS, OT, SC], [256, 192, 384, 320, w, r5, 576, 640, 704], Lg)) : AOut) = o → Ev (d + 0, 0, 0, 287, 0, [.val (.ref 64)], [], (126, 120, L, [Y, T, H2, H, RV, RU, ST, NS, I0, I1, I2, BO, FI, RG, GU, PU, MA, MN, MS, OT, SC], [256, 192, 384, 320, w, r5, 576, 640, 704], Lg)) o from key _ rfl
  intro o ho
  have ze1 := Option.some.inj h
  subst ze1
  exact ev_rete 4 ho (fun n => Eq.refl _)
set_option maxRecDepth 1000000 in
set_option maxHeartbeats 4000000 in
theorem R_f_State_isHeld_0 (d : Nat) (Y T HA HB RA RB ST NS I0 I1 I2 BO FI RG GU PU MA MN MS OT SC : Nat → Nat → Int32) (r0 r1 r2 r3 w r5 r6 r7 r8 : Nat) (L : Nat) (Lg : Int64) (p1 : Int32) {r : Int32} (h : f_State_isHeld NS p1 = some r) : Ev (d + 0, 0, 0, 259, 0, [.val (.ref 512), .val (.int p1)], [], (126, 120, L, [Y, T, HA, HB, RA, RB, ST, NS, I0, I1, I2, BO, FI, RG, GU, PU, MA, MN, MS, OT, SC], [r0, r1, r2, r3, w, r5, r6, r7, r8], Lg)) ((0, some (.int r), (126, 120, L, [Y, T, HA, HB, RA, RB, ST, NS, I0, I1, I2, BO, FI, RG, GU, PU, MA, MN, MS, OT, SC], [r0, r1, r2, r3, w, r5, r6, r7, r8], Lg)) : AOut) := by
  suffices key : ∀ o : AOut, ((0, some (.int r), (126, 120, L, [Y, T, HA, HB, RA, RB, ST, NS, I0, I1, I2, BO, FI, RG, GU, PU, MA, MN, MS, OT, SC], [r0, r1, r2, r3, w, r5, r6, r7, r8], Lg)) : AOut) = o → Ev (d + 0, 0, 0, 259, 0, [.val (.ref 512), .val (.int p1)], [], (126, 120, L, [Y, T, HA, HB, RA, RB, ST, NS, I0, I1, I2, BO, FI, RG, GU, PU, MA, MN, MS, OT, SC], [r0, r1, r2, r3, w, r5, r6, r7, r8], Lg)) o from key _ rfl
  intro o ho
  by_cases zc1 : ((a_shr (NS 0 3) p1) &&& 1) ≠ 0
  · have h := itp h zc1
    suffices e : Ev (d + 0, 0, 0, 259, 15, [.val (.ref 512), .val (.int p1)], [], (126, 120, L, [Y, T, HA, HB, RA, RB, ST, NS, I0, I1, I2, BO, FI, RG, GU, PU, MA, MN, MS, OT, SC], [r0, r1, r2, r3, w, r5, r6, r7, r8], Lg)) o from ev_t (c := ((a_shr (NS 0 3) p1) &&& 1) ≠ 0) _ _ 7  zc1 e (fun n => Eq.refl _)
    have ze2 := Option.some.inj h
    subst ze2
    exact ev_rete 2 ho (fun n => Eq.refl _)
  · have h := itn h zc1
    suffices e : Ev (d + 0, 0, 0, 259, 11, [.val (.ref 512), .val (.int p1)], [], (126, 120, L, [Y, T, HA, HB, RA, RB, ST, NS, I0, I1, I2, BO, FI, RG, GU, PU, MA, MN, MS, OT, SC], [r0, r1, r2, r3, w, r5, r6, r7, r8], Lg)) o from ev_f (c := ((a_shr (NS 0 3) p1) &&& 1) ≠ 0) _ _ 7  zc1 e (fun n => Eq.refl _)
    have ze3 := Option.some.inj h
    subst ze3
    exact ev_rete 3 ho (fun n => Eq.refl _)
set_option maxRecDepth 1000000 in
set_option maxHeartbeats 4000000 in
theorem R_f_Y_roomOf_0 (d : Nat) (Y T HA HB RA RB ST NS I0 I1 I2 BO FI RG GU PU MA MN MS OT SC : Nat → Nat → Int32) (r0 r1 r2 r3 w r5 r6 r7 r8 : Nat) (L : Nat) (Lg : Int64) (p0 : Int32) {r : Int32} (h : f_Y_roomOf p0 = some r) : Ev (d + 0, 0, 0, 347, 0, [.val (.int p0)], [], (126, 120, L, [Y, T, HA, HB, RA, RB, ST, NS, I0, I1, I2, BO, FI, RG, GU, PU, MA, MN, MS, OT, SC], [r0, r1, r2, r3, w, r5, r6, r7, r8], Lg)) ((0, some (.int r), (126, 120, L, [Y, T, HA, HB, RA, RB, ST, NS, I0, I1, I2, BO, FI, RG, GU, PU, MA, MN, MS, OT, SC], [r0, r1, r2, r3, w, r5, r6, r7, r8], Lg)) : AOut) := by
  suffices key : ∀ o : AOut, ((0, some (.int r), (126, 120, L, [Y, T, HA, HB, RA, RB, ST, NS, I0, I1, I2, BO, FI, RG, GU, PU, MA, MN, MS, OT, SC], [r0, r1, r2, r3, w, r5, r6, r7, r8], Lg)) : AOut) = o → Ev (d + 0, 0, 0, 347, 0, [.val (.int p0)], [], (126, 120, L, [Y, T, HA, HB, RA, RB, ST, NS, I0, I1, I2, BO, FI, RG, GU, PU, MA, MN, MS, OT, SC], [r0, r1, r2, r3, w, r5, r6, r7, r8], Lg)) o from key _ rfl
  intro o ho
  suffices e : Ev (d + 0, 0, 0, 347, 3, [.val (.int p0)], [.int (a_rem p0 3)], (126, 120, L, [Y, T, HA, HB, RA, RB, ST, NS, I0, I1, I2, BO, FI, RG, GU, PU, MA, MN, MS, OT, SC], [r0, r1, r2, r3, w, r5, r6, r7, r8], Lg)) o from ev_b 3 e (fun n => Eq.refl _)
  have ze1 := Option.some.inj h
  subst ze1
  exact ev_rete 1 ho (fun n => Eq.refl _)
set_option maxRecDepth 1000000 in
set_option maxHeartbeats 4000000 in
theorem R_f_Y_hourOf_0 (d : Nat) (Y T HA HB RA RB ST NS I0 I1 I2 BO FI RG GU PU MA MN MS OT SC : Nat → Nat → Int32) (r0 r1 r2 r3 w r5 r6 r7 r8 : Nat) (L : Nat) (Lg : Int64) (p0 : Int32) {r : Int32} (h : f_Y_hourOf p0 = some r) : Ev (d + 0, 0, 0, 346, 0, [.val (.int p0)], [], (126, 120, L, [Y, T, HA, HB, RA, RB, ST, NS, I0, I1, I2, BO, FI, RG, GU, PU, MA, MN, MS, OT, SC], [r0, r1, r2, r3, w, r5, r6, r7, r8], Lg)) ((0, some (.int r), (126, 120, L, [Y, T, HA, HB, RA, RB, ST, NS, I0, I1, I2, BO, FI, RG, GU, PU, MA, MN, MS, OT, SC], [r0, r1, r2, r3, w, r5, r6, r7, r8], Lg)) : AOut) := by
  suffices key : ∀ o : AOut, ((0, some (.int r), (126, 120, L, [Y, T, HA, HB, RA, RB, ST, NS, I0, I1, I2, BO, FI, RG, GU, PU, MA, MN, MS, OT, SC], [r0, r1, r2, r3, w, r5, r6, r7, r8], Lg)) : AOut) = o → Ev (d + 0, 0, 0, 346, 0, [.val (.int p0)], [], (126, 120, L, [Y, T, HA, HB, RA, RB, ST, NS, I0, I1, I2, BO, FI, RG, GU, PU, MA, MN, MS, OT, SC], [r0, r1, r2, r3, w, r5, r6, r7, r8], Lg)) o from key _ rfl
  intro o ho
  suffices e : Ev (d + 0, 0, 0, 346, 3, [.val (.int p0)], [.int (p0 / 3)], (126, 120, L, [Y, T, HA, HB, RA, RB, ST, NS, I0, I1, I2, BO, FI, RG, GU, PU, MA, MN, MS, OT, SC], [r0, r1, r2, r3, w, r5, r6, r7, r8], Lg)) o from ev_b 3 e (fun n => Eq.refl _)
  have ze1 := Option.some.inj h
  subst ze1
  exact ev_rete 1 ho (fun n => Eq.refl _)
set_option maxRecDepth 1000000 in
set_option maxHeartbeats 4000000 in
theorem R_f_Board_load_0 (d : Nat) (Y T H H2 RA RB ST NS I0 I1 I2 BO FI RG GU PU MA MN MS OT SC : Nat → Nat → Int32) (r0 r1 r2 r3 w r5 r6 r7 r8 : Nat) (L : Nat) (Lg : Int64) {r : (Nat → Nat → Int32)} (h : f_Board_load H NS BO = some r) : Ev (d + 1, 0, 0, 155, 0, [.val (.ref 768), .val (.ref 192), .val (.ref 512), .val a_unk], [], (126, 120, L, [Y, T, H, H2, RA, RB, ST, NS, I0, I1, I2, BO, FI, RG, GU, PU, MA, MN, MS, OT, SC], [r0, r1, r2, r3, w, r5, r6, r7, r8], Lg)) ((0, none, (126, 120, L, [Y, T, H, H2, RA, RB, ST, NS, I0, I1, I2, r, FI, RG, GU, PU, MA, MN, MS, OT, SC], [r0, r1, r2, r3, w, 192, r6, r7, r8], Lg)) : AOut) := by
  suffices key : ∀ o : AOut, ((0, none, (126, 120, L, [Y, T, H, H2, RA, RB, ST, NS, I0, I1, I2, r, FI, RG, GU, PU, MA, MN, MS, OT, SC], [r0, r1, r2, r3, w, 192, r6, r7, r8], Lg)) : AOut) = o → Ev (d + 1, 0, 0, 155, 0, [.val (.ref 768), .val (.ref 192), .val (.ref 512), .val a_unk], [], (126, 120, L, [Y, T, H, H2, RA, RB, ST, NS, I0, I1, I2, BO, FI, RG, GU, PU, MA, MN, MS, OT, SC], [r0, r1, r2, r3, w, r5, r6, r7, r8], Lg)) o from key _ rfl
  intro o ho
  by_cases zc1 : ((0 : Int32) < 0 ∨ (0 : Int32) < 0 ∨ (10 : Int32) < 0 ∨ 10 < (0 : Int32).toNatClampNeg + (10 : Int32).toNatClampNeg ∨ 10 < (0 : Int32).toNatClampNeg + (10 : Int32).toNatClampNeg)
  · exact nos (itp h zc1)
  have h := itn h zc1
  suffices e : Ev (d + 1, 0, 0, 155, 20, [.val (.ref 768), .val (.ref 192), .val (.ref 512), .val a_unk], [], (126, 120, L, [Y, T, H, H2, RA, RB, ST, NS, I0, I1, I2, (u1 BO 1 (a_cpy (NS 1) (BO 1) (0 : Int32).toNatClampNeg (0 : Int32).toNatClampNeg (10 : Int32).toNatClampNeg)), FI, RG, GU, PU, MA, MN, MS, OT, SC], [r0, r1, r2, r3, w, 192, r6, r7, r8], Lg)) o from ev_d (c := ((0 : Int32) < 0 ∨ (0 : Int32) < 0 ∨ (10 : Int32) < 0 ∨ 10 < (0 : Int32).toNatClampNeg + (10 : Int32).toNatClampNeg ∨ 10 < (0 : Int32).toNatClampNeg + (10 : Int32).toNatClampNeg)) _ 11 zc1 e (fun n => Eq.refl _)
  by_cases zc2 : ((0 : Int32) < 0 ∨ (0 : Int32) < 0 ∨ (10 : Int32) < 0 ∨ 10 < (0 : Int32).toNatClampNeg + (10 : Int32).toNatClampNeg ∨ 10 < (0 : Int32).toNatClampNeg + (10 : Int32).toNatClampNeg)
  · exact nos (itp h zc2)
  have h := itn h zc2
  suffices e : Ev (d + 1, 0, 0, 155, 35, [.val (.ref 768), .val (.ref 192), .val (.ref 512), .val a_unk], [], (126, 120, L, [Y, T, H, H2, RA, RB, ST, NS, I0, I1, I2, (u1 (u1 BO 1 (a_cpy (NS 1) (BO 1) (0 : Int32).toNatClampNeg (0 : Int32).toNatClampNeg (10 : Int32).toNatClampNeg)) 2 (a_cpy (NS 2) ((u1 BO 1 (a_cpy (NS 1) (BO 1) (0 : Int32).toNatClampNeg (0 : Int32).toNatClampNeg (10 : Int32).toNatClampNeg)) 2) (0 : Int32).toNatClampNeg (0 : Int32).toNatClampNeg (10 : Int32).toNatClampNeg)), FI, RG, GU, PU, MA, MN, MS, OT, SC], [r0, r1, r2, r3, w, 192, r6, r7, r8], Lg)) o from ev_d (c := ((0 : Int32) < 0 ∨ (0 : Int32) < 0 ∨ (10 : Int32) < 0 ∨ 10 < (0 : Int32).toNatClampNeg + (10 : Int32).toNatClampNeg ∨ 10 < (0 : Int32).toNatClampNeg + (10 : Int32).toNatClampNeg)) _ 8 zc2 e (fun n => Eq.refl _)
  have ze3 := R_fill (d + 0) 771 0 [Y, T, H, H2, RA, RB, ST, NS, I0, I1, I2, (u1 (u1 BO 1 (a_cpy (NS 1) (BO 1) (0 : Int32).toNatClampNeg (0 : Int32).toNatClampNeg (10 : Int32).toNatClampNeg)) 2 (a_cpy (NS 2) ((u1 BO 1 (a_cpy (NS 1) (BO 1) (0 : Int32).toNatClampNeg (0 : Int32).toNatClampNeg (10 : Int32).toNatClampNeg)) 2) (0 : Int32).toNatClampNeg (0 : Int32).toNatClampNeg (10 : Int32).toNatClampNeg)), FI, RG, GU, PU, MA, MN, MS, OT, SC] [r0, r1, r2, r3, w, 192, r6, r7, r8] L Lg 126 120 rfl rfl (Nat.le_of_ble_eq_true rfl) (Nat.le_of_ble_eq_true rfl)
  suffices e : Ev (d + 1, 0, 0, 155, 43, [.val (.ref 768), .val (.ref 192), .val (.ref 512), .val a_unk], [], (126, 120, L, [Y, T, H, H2, RA, RB, ST, NS, I0, I1, I2, (u1 (u1 (u1 BO 1 (a_cpy (NS 1) (BO 1) (0 : Int32).toNatClampNeg (0 : Int32).toNatClampNeg (10 : Int32).toNatClampNeg)) 2 (a_cpy (NS 2) ((u1 BO 1 (a_cpy (NS 1) (BO 1) (0 : Int32).toNatClampNeg (0 : Int32).toNatClampNeg (10 : Int32).toNatClampNeg)) 2) (0 : Int32).toNatClampNeg (0 : Int32).toNatClampNeg (10 : Int32).toNatClampNeg)) 3 (filM ((u1 (u1 BO 1 (a_cpy (NS 1) (BO 1) (0 : Int32).toNatClampNeg (0 : Int32).toNatClampNeg (10 : Int32).toNatClampNeg)) 2 (a_cpy (NS 2) ((u1 BO 1 (a_cpy (NS 1) (BO 1) (0 : Int32).toNatClampNeg (0 : Int32).toNatClampNeg (10 : Int32).toNatClampNeg)) 2) (0 : Int32).toNatClampNeg (0 : Int32).toNatClampNeg (10 : Int32).toNatClampNeg)) 3) 3 0)), FI, RG, GU, PU, MA, MN, MS, OT, SC], [r0, r1, r2, r3, w, 192, r6, r7, r8], Lg)) o from ev_call (fun v μ => (d + 1, 0, 0, 155, 43, [.val (.ref 768), .val (.ref 192), .val (.ref 512), .val a_unk], v.toList ++ [], μ)) 4 ze3 e (fun n => Eq.refl _)
  obtain ⟨BO_11, zh5, h⟩ := bnd h
  suffices e : Ev (d + 1, 0, 0, 155, 45, [.val (.ref 768), .val (.ref 192), .val (.ref 512), .val (.int 0)], [], (126, 120, L, [Y, T, H, H2, RA, RB, ST, NS, I0, I1, I2, (u1 (u1 (u1 BO 1 (a_cpy (NS 1) (BO 1) (0 : Int32).toNatClampNeg (0 : Int32).toNatClampNeg (10 : Int32).toNatClampNeg)) 2 (a_cpy (NS 2) ((u1 BO 1 (a_cpy (NS 1) (BO 1) (0 : Int32).toNatClampNeg (0 : Int32).toNatClampNeg (10 : Int32).toNatClampNeg)) 2) (0 : Int32).toNatClampNeg (0 : Int32).toNatClampNeg (10 : Int32).toNatClampNeg)) 3 (filM ((u1 (u1 BO 1 (a_cpy (NS 1) (BO 1) (0 : Int32).toNatClampNeg (0 : Int32).toNatClampNeg (10 : Int32).toNatClampNeg)) 2 (a_cpy (NS 2) ((u1 BO 1 (a_cpy (NS 1) (BO 1) (0 : Int32).toNatClampNeg (0 : Int32).toNatClampNeg (10 : Int32).toNatClampNeg)) 2) (0 : Int32).toNatClampNeg (0 : Int32).toNatClampNeg (10 : Int32).toNatClampNeg)) 3) 3 0)), FI, RG, GU, PU, MA, MN, MS, OT, SC], [r0, r1, r2, r3, w, 192, r6, r7, r8], Lg)) o from ev_b 2 e (fun n => Eq.refl _)
  refine ev_loop (δ := Unit) (fun a j => (d + 1, 0, 0, 155, 45, [.val (.ref 768), .val (.ref 192), .val (.ref 512), .val (.int a.1)], [], (126, 120, L, [Y, T, H, H2, RA, RB, ST, NS, I0, I1, I2, a.2, FI, RG, GU, PU, MA, MN, MS, OT, SC], [r0, r1, r2, r3, w, 192, r6, r7, r8], Lg))) (fun b => ∀ s10 : Value, Ev (d + 1, 0, 0, 155, 95, [.val (.ref 768), .val (.ref 192), .val (.ref 512), .val s10], [], (126, 120, L, [Y, T, H, H2, RA, RB, ST, NS, I0, I1, I2, b, FI, RG, GU, PU, MA, MN, MS, OT, SC], [r0, r1, r2, r3, w, 192, r6, r7, r8], Lg)) o) ?_ a_F (0, (u1 (u1 (u1 BO 1 (a_cpy (NS 1) (BO 1) (0 : Int32).toNatClampNeg (0 : Int32).toNatClampNeg (10 : Int32).toNatClampNeg)) 2 (a_cpy (NS 2) ((u1 BO 1 (a_cpy (NS 1) (BO 1) (0 : Int32).toNatClampNeg (0 : Int32).toNatClampNeg (10 : Int32).toNatClampNeg)) 2) (0 : Int32).toNatClampNeg (0 : Int32).toNatClampNeg (10 : Int32).toNatClampNeg)) 3 (filM ((u1 (u1 BO 1 (a_cpy (NS 1) (BO 1) (0 : Int32).toNatClampNeg (0 : Int32).toNatClampNeg (10 : Int32).toNatClampNeg)) 2 (a_cpy (NS 2) ((u1 BO 1 (a_cpy (NS 1) (BO 1) (0 : Int32).toNatClampNeg (0 : Int32).toNatClampNeg (10 : Int32).toNatClampNeg)) 2) (0 : Int32).toNatClampNeg (0 : Int32).toNatClampNeg (10 : Int32).toNatClampNeg)) 3) 3 0))) BO_11 zh5 ?_ ()
  · rintro ⟨v1, BO_2⟩ zr9 zh8 zi6 zx7 ⟨⟩
    have zh8 : f_Board_load_l45 H NS v1 BO_2 = some zr9 := zh8
    by_cases zc10 : (H 0 4) ≤ v1
    · have zh8 := itp zh8 zc10
      suffices e : Ev (d + 1, 0, 0, 155, 95, [.val (.ref 768), .val (.ref 192), .val (.ref 512), .val (.int v1)], [], (126, 120, L, [Y, T, H, H2, RA, RB, ST, NS, I0, I1, I2, BO_2, FI, RG, GU, PU, MA, MN, MS, OT, SC], [r0, r1, r2, r3, w, 192, r6, r7, r8], Lg)) o from ev_t (c := (H 0 4) ≤ v1) _ _ 4  zc10 e (fun n => Eq.refl _)
      exact ev_b 0 (zx7 _ (Option.some.inj zh8).symm (.int v1)) (fun n => Eq.refl _)
    · have zh8 := itn zh8 zc10
      suffices e : Ev (d + 1, 0, 0, 155, 53, [.val (.ref 768), .val (.ref 192), .val (.ref 512), .val (.int v1)], [], (126, 120, L, [Y, T, H, H2, RA, RB, ST, NS, I0, I1, I2, BO_2, FI, RG, GU, PU, MA, MN, MS, OT, SC], [r0, r1, r2, r3, w, 192, r6, r7, r8], Lg)) o from ev_f (c := (H 0 4) ≤ v1) _ _ 4  zc10 e (fun n => Eq.refl _)
      obtain ⟨x3, zh11, zh8⟩ := bnd zh8
      have zh11 : f_State_isHeld NS v1 = some x3 := zh11
      have ze12 := R_f_State_isHeld_0 (d + 0) Y T H H2 RA RB ST NS I0 I1 I2 BO_2 FI RG GU PU MA MN MS OT SC r0 r1 r2 r3 w 192 r6 r7 r8 L Lg v1 zh11
      suffices e : Ev (d + 1, 0, 0, 155, 58, [.val (.ref 768), .val (.ref 192), .val (.ref 512), .val (.int v1)], [.int x3], (126, 120, L, [Y, T, H, H2, RA, RB, ST, NS, I0, I1, I2, BO_2, FI, RG, GU, PU, MA, MN, MS, OT, SC], [r0, r1, r2, r3, w, 192, r6, r7, r8], Lg)) o from ev_call (fun v μ => (d + 1, 0, 0, 155, 58, [.val (.ref 768), .val (.ref 192), .val (.ref 512), .val (.int v1)], v.toList ++ [], μ)) 3 ze12 e (fun n => Eq.refl _)
      by_cases zc13 : x3 = 0
      · have zh8 := itp zh8 zc13
        suffices e : Ev (d + 1, 0, 0, 155, 89, [.val (.ref 768), .val (.ref 192), .val (.ref 512), .val (.int v1)], [], (126, 120, L, [Y, T, H, H2, RA, RB, ST, NS, I0, I1, I2, BO_2, FI, RG, GU, PU, MA, MN, MS, OT, SC], [r0, r1, r2, r3, w, 192, r6, r7, r8], Lg)) o from ev_t (c := x3 = 0) _ _ 1  zc13 e (fun n => Eq.refl _)
        exact ev_b 2 (zi6 _ (Option.some.inj zh8).symm ()) (fun n => Eq.refl _)
      · have zh8 := itn zh8 zc13
        suffices e : Ev (d + 1, 0, 0, 155, 61, [.val (.ref 768), .val (.ref 192), .val (.ref 512), .val (.int v1)], [], (126, 120, L, [Y, T, H, H2, RA, RB, ST, NS, I0, I1, I2, BO_2, FI, RG, GU, PU, MA, MN, MS, OT, SC], [r0, r1, r2, r3, w, 192, r6, r7, r8], Lg)) o from ev_f (c := x3 = 0) _ _ 1  zc13 e (fun n => Eq.refl _)
        obtain ⟨x4, zh14, zh8⟩ := bnd zh8
        have zh14 : rdx (H 11) 4 v1 = some x4 := zh14
        suffices e : Ev (d + 1, 0, 0, 155, 71, [.val (.ref 768), .val (.ref 192), .val (.ref 512), .val (.int v1)], [.int x4, .ref 771], (126, 120, L, [Y, T, H, H2, RA, RB, ST, NS, I0, I1, I2, BO_2, FI, RG, GU, PU, MA, MN, MS, OT, SC], [r0, r1, r2, r3, w, 192, r6, r7, r8], Lg)) o from ev_opt (fun x4 => (d + 1, 0, 0, 155, 71, [.val (.ref 768), .val (.ref 192), .val (.ref 512), .val (.int v1)], [.int x4, .ref 771], (126, 120, L, [Y, T, H, H2, RA, RB, ST, NS, I0, I1, I2, BO_2, FI, RG, GU, PU, MA, MN, MS, OT, SC], [r0, r1, r2, r3, w, 192, r6, r7, r8], Lg))) 6 zh14 e (fun n => Eq.refl _)
        obtain ⟨x5, zh15, zh8⟩ := bnd zh8
        have zh15 : f_Y_roomOf x4 = some x5 := zh15
        have ze16 := R_f_Y_roomOf_0 (d + 0) Y T H H2 RA RB ST NS I0 I1 I2 BO_2 FI RG GU PU MA MN MS OT SC r0 r1 r2 r3 w 192 r6 r7 r8 L Lg x4 zh15
        suffices e : Ev (d + 1, 0, 0, 155, 74, [.val (.ref 768), .val (.ref 192), .val (.ref 512), .val (.int v1)], [.int x5, .ref 771], (126, 120, L, [Y, T, H, H2, RA, RB, ST, NS, I0, I1, I2, BO_2, FI, RG, GU, PU, MA, MN, MS, OT, SC], [r0, r1, r2, r3, w, 192, r6, r7, r8], Lg)) o from ev_call (fun v μ => (d + 1, 0, 0, 155, 74, [.val (.ref 768), .val (.ref 192), .val (.ref 512), .val (.int v1)], v.toList ++ [.ref 771], μ)) 1 ze16 e (fun n => Eq.refl _)
        obtain ⟨x6, zh17, zh8⟩ := bnd zh8
        have zh17 : rdx (BO_2 3) 3 x5 = some x6 := zh17
        suffices e : Ev (d + 1, 0, 0, 155, 76, [.val (.ref 768), .val (.ref 192), .val (.ref 512), .val (.int v1)], [.int x6, .int x5, .ref 771], (126, 120, L, [Y, T, H, H2, RA, RB, ST, NS, I0, I1, I2, BO_2, FI, RG, GU, PU, MA, MN, MS, OT, SC], [r0, r1, r2, r3, w, 192, r6, r7, r8], Lg)) o from ev_opt (fun x6 => (d + 1, 0, 0, 155, 76, [.val (.ref 768), .val (.ref 192), .val (.ref 512), .val (.int v1)], [.int x6, .int x5, .ref 771], (126, 120, L, [Y, T, H, H2, RA, RB, ST, NS, I0, I1, I2, BO_2, FI, RG, GU, PU, MA, MN, MS, OT, SC], [r0, r1, r2, r3, w, 192, r6, r7, r8], Lg))) 2 zh17 e (fun n => Eq.refl _)
        obtain ⟨x7, zh18, zh8⟩ := bnd zh8
        have zh18 : rdx (H 11) 4 v1 = some x7 := zh18
        suffices e : Ev (d + 1, 0, 0, 155, 83, [.val (.ref 768), .val (.ref 192), .val (.ref 512), .val (.int v1)], [.int x7, .int 1, .int x6, .int x5, .ref 771], (126, 120, L, [Y, T, H, H2, RA, RB, ST, NS, I0, I1, I2, BO_2, FI, RG, GU, PU, MA, MN, MS, OT, SC], [r0, r1, r2, r3, w, 192, r6, r7, r8], Lg)) o from ev_opt (fun x7 => (d + 1, 0, 0, 155, 83, [.val (.ref 768), .val (.ref 192), .val (.ref 512), .val (.int v1)], [.int x7, .int 1, .int x6, .int x5, .ref 771], (126, 120, L, [Y, T, H, H2, RA, RB, ST, NS, I0, I1, I2, BO_2, FI, RG, GU, PU, MA, MN, MS, OT, SC], [r0, r1, r2, r3, w, 192, r6, r7, r8], Lg))) 5 zh18 e (fun n => Eq.refl _)
        obtain ⟨x8, zh19, zh8⟩ := bnd zh8
        have zh19 : f_Y_hourOf x7 = some x8 := zh19
        have ze20 := R_f_Y_hourOf_0 (d + 0) Y T H H2 RA RB ST NS I0 I1 I2 BO_2 FI RG GU PU MA MN MS OT SC r0 r1 r2 r3 w 192 r6 r7 r8 L Lg x7 zh19
        suffices e : Ev (d + 1, 0, 0, 155, 86, [.val (.ref 768), .val (.ref 192), .val (.ref 512), .val (.int v1)], [.int x8, .int 1, .int x6, .int x5, .ref 771], (126, 120, L, [Y, T, H, H2, RA, RB, ST, NS, I0, I1, I2, BO_2, FI, RG, GU, PU, MA, MN, MS, OT, SC], [r0, r1, r2, r3, w, 192, r6, r7, r8], Lg)) o from ev_call (fun v μ => (d + 1, 0, 0, 155, 86, [.val (.ref 768), .val (.ref 192), .val (.ref 512), .val (.int v1)], v.toList ++ [.int 1, .int x6, .int x5, .ref 771], μ)) 1 ze20 e (fun n => Eq.refl _)
        obtain ⟨j9, zh21, zh8⟩ := bnd zh8
        have zh21 : ixx 3 x5 = some j9 := zh21
        suffices e : Ev (d + 1, 0, 0, 155, 89, [.val (.ref 768), .val (.ref 192), .val (.ref 512), .val (.int v1)], [], (126, 120, L, [Y, T, H, H2, RA, RB, ST, NS, I0, I1, I2, (u2 BO_2 3 j9 (x6 ||| (a_shl 1 x8))), FI, RG, GU, PU, MA, MN, MS, OT, SC], [r0, r1, r2, r3, w, 192, r6, r7, r8], Lg)) o from ev_opt (fun j9 => (d + 1, 0, 0, 155, 89, [.val (.ref 768), .val (.ref 192), .val (.ref 512), .val (.int v1)], [], (126, 120, L, [Y, T, H, H2, RA, RB, ST, NS, I0, I1, I2, (u2 BO_2 3 j9 (x6 ||| (a_shl 1 x8))), FI, RG, GU, PU, MA, MN, MS, OT, SC], [r0, r1, r2, r3, w, 192, r6, r7, r8], Lg))) 3 zh21 e (fun n => Eq.refl _)
        exact ev_b 2 (zi6 _ (Option.some.inj zh8).symm ()) (fun n => Eq.refl _)
  · skip
    intro s10
    have ze22 := Option.some.inj h
    subst ze22
    exact ev_rete 1 ho (fun n => Eq.refl _)
set_option maxRecDepth 1000000 in
set_option maxHeartbeats 4000000 in
theorem R_f_Y_lookNow_0 (d : Nat) (Y T H H2 RU RV ST NS I0 I1 I2 BO FI RG GU PU MA MN MS OT SC : Nat → Nat → Int32) (w r5 : Nat) (L : Nat) (Lg : Int64) {r : (Nat → Nat → Int32)} (h : f_Y_lookNow H NS BO = some r) : Ev (d + 2, 0, 0, 342, 0, [.val (.ref 64)], [], (126, 120, L, [Y, T, H, H2, RU, RV, ST, NS, I0, I1, I2, BO, FI, RG, GU, PU, MA, MN, MS, OT, SC], [192, 256, 320, 384, w, r5, 576, 640, 704], Lg)) ((0, some (.ref 768), (126, 120, L, [Y, T, H, H2, RU, RV, ST, NS, I0, I1, I2, r, FI, RG, GU, PU, MA, MN, MS, OT, SC], [192, 256, 320, 384, w, 192, 576, 640, 704], Lg)) : AOut) := by
  suffices key : ∀ o : AOut, ((0, some (.ref 768), (126, 120, L, [Y, T, H, H2, RU, RV, ST, NS, I0, I1, I2, r, FI, RG, GU, PU, MA, MN, MS, OT, SC], [192, 256, 320, 384, w, 192, 576, 640, 704], Lg)) : AOut) = o → Ev (d + 2, 0, 0, 342, 0, [.val (.ref 64)], [], (126, 120, L, [Y, T, H, H2, RU, RV, ST, NS, I0, I1, I2, BO, FI, RG, GU, PU, MA, MN, MS, OT, SC], [192, 256, 320, 384, w, r5, 576, 640, 704], Lg)) o from key _ rfl
  intro o ho
  suffices e : Ev (d + 2, 0, 0, 342, 8, [.val (.ref 64)], [.ref 192, .ref 768], (126, 120, L, [Y, T, H, H2, RU, RV, ST, NS, I0, I1, I2, BO, FI, RG, GU, PU, MA, MN, MS, OT, SC], [192, 256, 320, 384, w, r5, 576, 640, 704], Lg)) o from ev_b 4 e (fun n => Eq.refl _)
  obtain ⟨BO_1, zh1, h⟩ := bnd h
  have zh1 : f_Board_load H NS BO = some BO_1 := zh1
  have ze2 := R_f_Board_load_0 (d + 0) Y T H H2 RU RV ST NS I0 I1 I2 BO FI RG GU PU MA MN MS OT SC 192 256 320 384 w r5 576 640 704 L Lg zh1
  suffices e : Ev (d + 2, 0, 0, 342, 15, [.val (.ref 64)], [], (126, 120, L, [Y, T, H, H2, RU, RV, ST, NS, I0, I1, I2, BO_1, FI, RG, GU, PU, MA, MN, MS, OT, SC], [192, 256, 320, 384, w, 192, 576, 640, 704], Lg)) o from ev_call (fun v μ => (d + 2, 0, 0, 342, 15, [.val (.ref 64)], v.toList ++ [], μ)) 3 ze2 e (fun n => Eq.refl _)
  have ze3 := Option.some.inj h
  subst ze3
  exact ev_rete 3 ho (fun n => Eq.refl _)
set_option maxRecDepth 1000000 in
set_option maxHeartbeats 4000000 in
theorem R_f_Board_placed_0 (d : Nat) (Y T H H2 RA RB ST NS I0 I1 I2 BO FI RG GU PU MA MN MS OT SC : Nat → Nat → Int32) (r0 r1 r2 r3 w r6 r7 r8 : Nat) (L : Nat) (Lg : Int64) {r : Int32} (h : f_Board_placed H BO = some r) : Ev (d + 0, 0, 0, 156, 0, [.val (.ref 768), .val a_unk, .val a_unk], [], (126, 120, L, [Y, T, H, H2, RA, RB, ST, NS, I0, I1, I2, BO, FI, RG, GU, PU, MA, MN, MS, OT, SC], [r0, r1, r2, r3, w, 192, r6, r7, r8], Lg)) ((0, some (.int r), (126, 120, L, [Y, T, H, H2, RA, RB, ST, NS, I0, I1, I2, BO, FI, RG, GU, PU, MA, MN, MS, OT, SC], [r0, r1, r2, r3, w, 192, r6, r7, r8], Lg)) : AOut) := by
  suffices key : ∀ o : AOut, ((0, some (.int r), (126, 120, L, [Y, T, H, H2, RA, RB, ST, NS, I0, I1, I2, BO, FI, RG, GU, PU, MA, MN, MS, OT, SC], [r0, r1, r2, r3, w, 192, r6, r7, r8], Lg)) : AOut) = o → Ev (d + 0, 0, 0, 156, 0, [.val (.ref 768), .val a_unk, .val a_unk], [], (126, 120, L, [Y, T, H, H2, RA, RB, ST, NS, I0, I1, I2, BO, FI, RG, GU, PU, MA, MN, MS, OT, SC], [r0, r1, r2, r3, w, 192, r6, r7, r8], Lg)) o from key _ rfl
  intro o ho
  obtain ⟨v4, zh2, h⟩ := bnd h
  suffices e : Ev (d + 0, 0, 0, 156, 4, [.val (.ref 768), .val (.int 0), .val (.int 0)], [], (126, 120, L, [Y, T, H, H2, RA, RB, ST, NS, I0, I1, I2, BO, FI, RG, GU, PU, MA, MN, MS, OT, SC], [r0, r1, r2, r3, w, 192, r6, r7, r8], Lg)) o from ev_b 4 e (fun n => Eq.refl _)
  refine ev_loop (δ := Unit) (fun a j => (d + 0, 0, 0, 156, 4, [.val (.ref 768), .val (.int a.1), .val (.int a.2)], [], (126, 120, L, [Y, T, H, H2, RA, RB, ST, NS, I0, I1, I2, BO, FI, RG, GU, PU, MA, MN, MS, OT, SC], [r0, r1, r2, r3, w, 192, r6, r7, r8], Lg))) (fun b => ∀ s5 : Value, Ev (d + 0, 0, 0, 156, 37, [.val (.ref 768), .val (.int b), .val s5], [], (126, 120, L, [Y, T, H, H2, RA, RB, ST, NS, I0, I1, I2, BO, FI, RG, GU, PU, MA, MN, MS, OT, SC], [r0, r1, r2, r3, w, 192, r6, r7, r8], Lg)) o) ?_ a_F (0, 0) v4 zh2 ?_ ()
  · rintro ⟨v1, v2⟩ zr6 zh5 zi3 zx4 ⟨⟩
    have zh5 : f_Board_placed_l4 H BO v1 v2 = some zr6 := zh5
    suffices e : Ev (d + 0, 0, 0, 156, 9, [.val (.ref 768), .val (.int v1), .val (.int v2)], [.ref 192, .int v2], (126, 120, L, [Y, T, H, H2, RA, RB, ST, NS, I0, I1, I2, BO, FI, RG, GU, PU, MA, MN, MS, OT, SC], [r0, r1, r2, r3, w, 192, r6, r7, r8], Lg)) o from ev_b 3 e (fun n => Eq.refl _)
    by_cases zc7 : (H 0 3) ≤ v2
    · have zh5 := itp zh5 zc7
      suffices e : Ev (d + 0, 0, 0, 156, 37, [.val (.ref 768), .val (.int v1), .val (.int v2)], [], (126, 120, L, [Y, T, H, H2, RA, RB, ST, NS, I0, I1, I2, BO, FI, RG, GU, PU, MA, MN, MS, OT, SC], [r0, r1, r2, r3, w, 192, r6, r7, r8], Lg)) o from ev_t (c := (H 0 3) ≤ v2) _ _ 2  zc7 e (fun n => Eq.refl _)
      exact ev_b 0 (zx4 _ (Option.some.inj zh5).symm (.int v2)) (fun n => Eq.refl _)
    · have zh5 := itn zh5 zc7
      suffices e : Ev (d + 0, 0, 0, 156, 15, [.val (.ref 768), .val (.int v1), .val (.int v2)], [], (126, 120, L, [Y, T, H, H2, RA, RB, ST, NS, I0, I1, I2, BO, FI, RG, GU, PU, MA, MN, MS, OT, SC], [r0, r1, r2, r3, w, 192, r6, r7, r8], Lg)) o from ev_f (c := (H 0 3) ≤ v2) _ _ 2  zc7 e (fun n => Eq.refl _)
      obtain ⟨x3, zh8, zh5⟩ := bnd zh5
      have zh8 : rdx (BO 1) 10 v2 = some x3 := zh8
      suffices e : Ev (d + 0, 0, 0, 156, 21, [.val (.ref 768), .val (.int v1), .val (.int v2)], [.int x3], (126, 120, L, [Y, T, H, H2, RA, RB, ST, NS, I0, I1, I2, BO, FI, RG, GU, PU, MA, MN, MS, OT, SC], [r0, r1, r2, r3, w, 192, r6, r7, r8], Lg)) o from ev_opt (fun x3 => (d + 0, 0, 0, 156, 21, [.val (.ref 768), .val (.int v1), .val (.int v2)], [.int x3], (126, 120, L, [Y, T, H, H2, RA, RB, ST, NS, I0, I1, I2, BO, FI, RG, GU, PU, MA, MN, MS, OT, SC], [r0, r1, r2, r3, w, 192, r6, r7, r8], Lg))) 4 zh8 e (fun n => Eq.refl _)
      by_cases zc9 : x3 = (-1)
      · have zh5 := itp zh5 zc9
        suffices e : Ev (d + 0, 0, 0, 156, 31, [.val (.ref 768), .val (.int v1), .val (.int v2)], [], (126, 120, L, [Y, T, H, H2, RA, RB, ST, NS, I0, I1, I2, BO, FI, RG, GU, PU, MA, MN, MS, OT, SC], [r0, r1, r2, r3, w, 192, r6, r7, r8], Lg)) o from ev_t (c := x3 = (-1)) _ _ 2  zc9 e (fun n => Eq.refl _)
        exact ev_b 2 (zi3 _ (Option.some.inj zh5).symm ()) (fun n => Eq.refl _)
      · have zh5 := itn zh5 zc9
        suffices e : Ev (d + 0, 0, 0, 156, 25, [.val (.ref 768), .val (.int v1), .val (.int v2)], [], (126, 120, L, [Y, T, H, H2, RA, RB, ST, NS, I0, I1, I2, BO, FI, RG, GU, PU, MA, MN, MS, OT, SC], [r0, r1, r2, r3, w, 192, r6, r7, r8], Lg)) o from ev_f (c := x3 = (-1)) _ _ 2  zc9 e (fun n => Eq.refl _)
        exact ev_b 8 (zi3 _ (Option.some.inj zh5).symm ()) (fun n => Eq.refl _)
  · skip
    intro s5
    have ze10 := Option.some.inj h
    subst ze10
    exact ev_rete 2 ho (fun n => Eq.refl _)
set_option maxRecDepth 1000000 in
set_option maxHeartbeats 4000000 in
theorem R_f_Integer_bitCount_0 (d : Nat) (Y T HA HB RA RB ST NS I0 I1 I2 BO FI RG GU PU MA MN MS OT SC : Nat → Nat → Int32) (r0 r1 r2 r3 w r5 r6 r7 r8 : Nat) (L : Nat) (Lg : Int64) (p0 : Int32) {r : Int32} (h : f_Integer_bitCount p0 = some r) : Ev (d + 0, 0, 0, 1, 0, [.val (.int p0)], [], (126, 120, L, [Y, T, HA, HB, RA, RB, ST, NS, I0, I1, I2, BO, FI, RG, GU, PU, MA, MN, MS, OT, SC], [r0, r1, r2, r3, w, r5, r6, r7, r8], Lg)) ((0, some (.int r), (126, 120, L, [Y, T, HA, HB, RA, RB, ST, NS, I0, I1, I2, BO, FI, RG, GU, PU, MA, MN, MS, OT, SC], [r0, r1, r2, r3, w, r5, r6, r7, r8], Lg)) : AOut) := by
  suffices key : ∀ o : AOut, ((0, some (.int r), (126, 120, L, [Y, T, HA, HB, RA, RB, ST, NS, I0, I1, I2, BO, FI, RG, GU, PU, MA, MN, MS, OT, SC], [r0, r1, r2, r3, w, r5, r6, r7, r8], Lg)) : AOut) = o → Ev (d + 0, 0, 0, 1, 0, [.val (.int p0)], [], (126, 120, L, [Y, T, HA, HB, RA, RB, ST, NS, I0, I1, I2, BO, FI, RG, GU, PU, MA, MN, MS, OT, SC], [r0, r1, r2, r3, w, r5, r6, r7, r8], Lg)) o from key _ rfl
  intro o ho
  have ze1 := Option.some.inj h
  subst ze1
  exact ev_rete 42 ho (fun n => Eq.refl _)
set_option maxRecDepth 1000000 in
set_option maxHeartbeats 4000000 in
theorem R_f_Y_told_0 (d : Nat) (Y T H H2 RU RV ST NS I0 I1 I2 BO FI RG GU PU MA MN MS OT SC : Nat → Nat → Int32) (w r5 : Nat) (L : Nat) (Lg : Int64) (p1 : Int32) {r : Nat × Int32 × (Nat → Nat → Int32) × (Nat → Nat → Int32) × Nat} (h : f_Y_told Y H NS BO r5 192 p1 = some r) : Ev (d + 3, 1, 8, 288, 0, [.val (.ref 64), .val (.int p1)], [], (126, 120, L, [Y, T, H, H2, RU, RV, ST, NS, I0, I1, I2, BO, FI, RG, GU, PU, MA, MN, MS, OT, SC], [192, 256, 320, 384, w, r5, 576, 640, 704], Lg)) ((r.1, a_ov r.1 (.int r.2.1), (126, 120, L, [r.2.2.1, T, H, H2, RU, RV, ST, NS, I0, I1, I2, r.2.2.2.1, FI, RG, GU, PU, MA, MN, MS, OT, SC], [192, 256, 320, 384, w, r.2.2.2.2, 576, 640, 704], Lg)) : AOut) := by
  suffices key : ∀ o : AOut, ((r.1, a_ov r.1 (.int r.2.1), (126, 120, L, [r.2.2.1, T, H, H2, RU, RV, ST, NS, I0, I1, I2, r.2.2.2.1, FI, RG, GU, PU, MA, MN, MS, OT, SC], [192, 256, 320, 384, w, r.2.2.2.2, 576, 640, 704], Lg)) : AOut) = o → Ev (d + 3, 1, 8, 288, 0, [.val (.ref 64), .val (.int p1)], [], (126, 120, L, [Y, T, H, H2, RU, RV, ST, NS, I0, I1, I2, BO, FI, RG, GU, PU, MA, MN, MS, OT, SC], [192, 256, 320, 384, w, r5, 576, 640, 704], Lg)) o from key _ rfl
  intro o ho
  obtain ⟨zt1, zh2, h⟩ := bnd h
  have zj3 : ∀ (v1 : Int32), v1 = zt1 → Ev (d + 3, 1, 8, 288, 16, [.val (.ref 64), .val (.int p1)], [.int v1, .ref 64], (126, 120, L, [Y, T, H, H2, RU, RV, ST, NS, I0, I1, I2, BO, FI, RG, GU, PU, MA, MN, MS, OT, SC], [192, 256, 320, 384, w, r5, 576, 640, 704], Lg)) o := by
    intro v1 ze4
    subst ze4
    obtain ⟨⟨q2, Y_3⟩, zh5, h⟩ := bnd h
    have zh5 : f_Y_refuseUnless Y v1 = some (q2, Y_3) := zh5
    have ze6 := R_f_Y_refuseUnless_0 (d + 2) Y T H H2 RU RV ST NS I0 I1 I2 BO FI RG GU PU MA MN MS OT SC w r5 L Lg v1 zh5
    cases q2 with
    | zero =>
      have h := itp h rfl
      suffices e : Ev (d + 3, 0, 0, 288, 19, [.val (.ref 64), .val (.int p1)], [], (126, 120, L, [Y_3, T, H, H2, RU, RV, ST, NS, I0, I1, I2, BO, FI, RG, GU, PU, MA, MN, MS, OT, SC], [192, 256, 320, 384, w, r5, 576, 640, 704], Lg)) o from ev_call (fun v μ => (d + 3, 0, 0, 288, 19, [.val (.ref 64), .val (.int p1)], v.toList ++ [], μ)) 1 ze6 e (fun n => Eq.refl _)
      by_cases zc7 : p1 = 0
      · have h := itp h zc7
        suffices e : Ev (d + 3, 0, 0, 288, 60, [.val (.ref 64), .val (.int p1)], [], (126, 120, L, [Y_3, T, H, H2, RU, RV, ST, NS, I0, I1, I2, BO, FI, RG, GU, PU, MA, MN, MS, OT, SC], [192, 256, 320, 384, w, r5, 576, 640, 704], Lg)) o from ev_sw [((0 : Int32), 60), ((1 : Int32), 68), ((2 : Int32), 76), ((3 : Int32), 84), ((4 : Int32), 92), ((5 : Int32), 100)] p1 (fun tt => (d + 3, 0, 0, 288, tt, [.val (.ref 64), .val (.int p1)], [], (126, 120, L, [Y_3, T, H, H2, RU, RV, ST, NS, I0, I1, I2, BO, FI, RG, GU, PU, MA, MN, MS, OT, SC], [192, 256, 320, 384, w, r5, 576, 640, 704], Lg))) 111 60 2 (fun f => by simp only [a_sw, if_pos zc7]) e (fun n => Eq.refl _)
        suffices e : Ev (d + 3, 0, 0, 288, 64, [.val (.ref 64), .val (.int p1)], [.ref 192], (126, 120, L, [Y_3, T, H, H2, RU, RV, ST, NS, I0, I1, I2, BO, FI, RG, GU, PU, MA, MN, MS, OT, SC], [192, 256, 320, 384, w, r5, 576, 640, 704], Lg)) o from ev_b 2 e (fun n => Eq.refl _)
        have ze8 := Option.some.inj h
        subst ze8
        exact ev_rete 2 ho (fun n => Eq.refl _)
      have h := itn h zc7
      by_cases zc9 : p1 = 1
      · have h := itp h zc9
        suffices e : Ev (d + 3, 0, 0, 288, 68, [.val (.ref 64), .val (.int p1)], [], (126, 120, L, [Y_3, T, H, H2, RU, RV, ST, NS, I0, I1, I2, BO, FI, RG, GU, PU, MA, MN, MS, OT, SC], [192, 256, 320, 384, w, r5, 576, 640, 704], Lg)) o from ev_sw [((0 : Int32), 60), ((1 : Int32), 68), ((2 : Int32), 76), ((3 : Int32), 84), ((4 : Int32), 92), ((5 : Int32), 100)] p1 (fun tt => (d + 3, 0, 0, 288, tt, [.val (.ref 64), .val (.int p1)], [], (126, 120, L, [Y_3, T, H, H2, RU, RV, ST, NS, I0, I1, I2, BO, FI, RG, GU, PU, MA, MN, MS, OT, SC], [192, 256, 320, 384, w, r5, 576, 640, 704], Lg))) 111 68 2 (fun f => by simp only [a_sw, if_neg zc7, if_pos zc9]) e (fun n => Eq.refl _)
        suffices e : Ev (d + 3, 0, 0, 288, 72, [.val (.ref 64), .val (.int p1)], [.ref 192], (126, 120, L, [Y_3, T, H, H2, RU, RV, ST, NS, I0, I1, I2, BO, FI, RG, GU, PU, MA, MN, MS, OT, SC], [192, 256, 320, 384, w, r5, 576, 640, 704], Lg)) o from ev_b 2 e (fun n => Eq.refl _)
        have ze10 := Option.some.inj h
        subst ze10
        exact ev_rete 2 ho (fun n => Eq.refl _)
      have h := itn h zc9
      by_cases zc11 : p1 = 2
      · have h := itp h zc11
        suffices e : Ev (d + 3, 0, 0, 288, 76, [.val (.ref 64), .val (.int p1)], [], (126, 120, L, [Y_3, T, H, H2, RU, RV, ST, NS, I0, I1, I2, BO, FI, RG, GU, PU, MA, MN, MS, OT, SC], [192, 256, 320, 384, w, r5, 576, 640, 704], Lg)) o from ev_sw [((0 : Int32), 60), ((1 : Int32), 68), ((2 : Int32), 76), ((3 : Int32), 84), ((4 : Int32), 92), ((5 : Int32), 100)] p1 (fun tt => (d + 3, 0, 0, 288, tt, [.val (.ref 64), .val (.int p1)], [], (126, 120, L, [Y_3, T, H, H2, RU, RV, ST, NS, I0, I1, I2, BO, FI, RG, GU, PU, MA, MN, MS, OT, SC], [192, 256, 320, 384, w, r5, 576, 640, 704], Lg))) 111 76 2 (fun f => by simp only [a_sw, if_neg zc7, if_neg zc9, if_pos zc11]) e (fun n => Eq.refl _)
        suffices e : Ev (d + 3, 0, 0, 288, 80, [.val (.ref 64), .val (.int p1)], [.ref 192], (126, 120, L, [Y_3, T, H, H2, RU, RV, ST, NS, I0, I1, I2, BO, FI, RG, GU, PU, MA, MN, MS, OT, SC], [192, 256, 320, 384, w, r5, 576, 640, 704], Lg)) o from ev_b 2 e (fun n => Eq.refl _)
        have ze12 := Option.some.inj h
        subst ze12
        exact ev_rete 2 ho (fun n => Eq.refl _)
      have h := itn h zc11
      by_cases zc13 : p1 = 3
      · have h := itp h zc13
        suffices e : Ev (d + 3, 0, 0, 288, 84, [.val (.ref 64), .val (.int p1)], [], (126, 120, L, [Y_3, T, H, H2, RU, RV, ST, NS, I0, I1, I2, BO, FI, RG, GU, PU, MA, MN, MS, OT, SC], [192, 256, 320, 384, w, r5, 576, 640, 704], Lg)) o from ev_sw [((0 : Int32), 60), ((1 : Int32), 68), ((2 : Int32), 76), ((3 : Int32), 84), ((4 : Int32), 92), ((5 : Int32), 100)] p1 (fun tt => (d + 3, 0, 0, 288, tt, [.val (.ref 64), .val (.int p1)], [], (126, 120, L, [Y_3, T, H, H2, RU, RV, ST, NS, I0, I1, I2, BO, FI, RG, GU, PU, MA, MN, MS, OT, SC], [192, 256, 320, 384, w, r5, 576, 640, 704], Lg))) 111 84 2 (fun f => by simp only [a_sw, if_neg zc7, if_neg zc9, if_neg zc11, if_pos zc13]) e (fun n => Eq.refl _)
        suffices e : Ev (d + 3, 0, 0, 288, 88, [.val (.ref 64), .val (.int p1)], [.ref 192], (126, 120, L, [Y_3, T, H, H2, RU, RV, ST, NS, I0, I1, I2, BO, FI, RG, GU, PU, MA, MN, MS, OT, SC], [192, 256, 320, 384, w, r5, 576, 640, 704], Lg)) o from ev_b 2 e (fun n => Eq.refl _)
        have ze14 := Option.some.inj h
        subst ze14
        exact ev_rete 2 ho (fun n => Eq.refl _)
      have h := itn h zc13
      by_cases zc15 : p1 = 4
      · have h := itp h zc15
        suffices e : Ev (d + 3, 0, 0, 288, 92, [.val (.ref 64), .val (.int p1)], [], (126, 120, L, [Y_3, T, H, H2, RU, RV, ST, NS, I0, I1, I2, BO, FI, RG, GU, PU, MA, MN, MS, OT, SC], [192, 256, 320, 384, w, r5, 576, 640, 704], Lg)) o from ev_sw [((0 : Int32), 60), ((1 : Int32), 68), ((2 : Int32), 76), ((3 : Int32), 84), ((4 : Int32), 92), ((5 : Int32), 100)] p1 (fun tt => (d + 3, 0, 0, 288, tt, [.val (.ref 64), .val (.int p1)], [], (126, 120, L, [Y_3, T, H, H2, RU, RV, ST, NS, I0, I1, I2, BO, FI, RG, GU, PU, MA, MN, MS, OT, SC], [192, 256, 320, 384, w, r5, 576, 640, 704], Lg))) 111 92 2 (fun f => by simp only [a_sw, if_neg zc7, if_neg zc9, if_neg zc11, if_neg zc13, if_pos zc15]) e (fun n => Eq.refl _)
        suffices e : Ev (d + 3, 0, 0, 288, 96, [.val (.ref 64), .val (.int p1)], [.ref 192], (126, 120, L, [Y_3, T, H, H2, RU, RV, ST, NS, I0, I1, I2, BO, FI, RG, GU, PU, MA, MN, MS, OT, SC], [192, 256, 320, 384, w, r5, 576, 640, 704], Lg)) o from ev_b 2 e (fun n => Eq.refl _)
        have ze16 := Option.some.inj h
        subst ze16
        exact ev_rete 2 ho (fun n => Eq.refl _)
      have h := itn h zc15
      by_cases zc17 : p1 = 5
      · have h := itp h zc17
        suffices e : Ev (d + 3, 0, 0, 288, 100, [.val (.ref 64), .val (.int p1)], [], (126, 120, L, [Y_3, T, H, H2, RU, RV, ST, NS, I0, I1, I2, BO, FI, RG, GU, PU, MA, MN, MS, OT, SC], [192, 256, 320, 384, w, r5, 576, 640, 704], Lg)) o from ev_sw [((0 : Int32), 60), ((1 : Int32), 68), ((2 : Int32), 76), ((3 : Int32), 84), ((4 : Int32), 92), ((5 : Int32), 100)] p1 (fun tt => (d + 3, 0, 0, 288, tt, [.val (.ref 64), .val (.int p1)], [], (126, 120, L, [Y_3, T, H, H2, RU, RV, ST, NS, I0, I1, I2, BO, FI, RG, GU, PU, MA, MN, MS, OT, SC], [192, 256, 320, 384, w, r5, 576, 640, 704], Lg))) 111 100 2 (fun f => by simp only [a_sw, if_neg zc7, if_neg zc9, if_neg zc11, if_neg zc13, if_neg zc15, if_pos zc17]) e (fun n => Eq.refl _)
        have ze18 := Option.some.inj h
        subst ze18
        exact ev_rete 5 ho (fun n => Eq.refl _)
      have h := itn h zc17
      suffices e : Ev (d + 3, 0, 0, 288, 111, [.val (.ref 64), .val (.int p1)], [], (126, 120, L, [Y_3, T, H, H2, RU, RV, ST, NS, I0, I1, I2, BO, FI, RG, GU, PU, MA, MN, MS, OT, SC], [192, 256, 320, 384, w, r5, 576, 640, 704], Lg)) o from ev_sw [((0 : Int32), 60), ((1 : Int32), 68), ((2 : Int32), 76), ((3 : Int32), 84), ((4 : Int32), 92), ((5 : Int32), 100)] p1 (fun tt => (d + 3, 0, 0, 288, tt, [.val (.ref 64), .val (.int p1)], [], (126, 120, L, [Y_3, T, H, H2, RU, RV, ST, NS, I0, I1, I2, BO, FI, RG, GU, PU, MA, MN, MS, OT, SC], [192, 256, 320, 384, w, r5, 576, 640, 704], Lg))) 111 111 2 (fun f => by simp only [a_sw, if_neg zc7, if_neg zc9, if_neg zc11, if_neg zc13, if_neg zc15, if_neg zc17]) e (fun n => Eq.refl _)
      suffices e : Ev (d + 3, 0, 0, 288, 115, [.val (.ref 64), .val (.int p1)], [.ref 192], (126, 120, L, [Y_3, T, H, H2, RU, RV, ST, NS, I0, I1, I2, BO, FI, RG, GU, PU, MA, MN, MS, OT, SC], [192, 256, 320, 384, w, r5, 576, 640, 704], Lg)) o from ev_b 2 e (fun n => Eq.refl _)
      obtain ⟨BO_5, zh19, h⟩ := bnd h
      have zh19 : f_Y_lookNow H NS BO = some BO_5 := zh19
      have ze20 := R_f_Y_lookNow_0 (d + 0) Y_3 T H H2 RU RV ST NS I0 I1 I2 BO FI RG GU PU MA MN MS OT SC w r5 L Lg zh19
      suffices e : Ev (d + 3, 0, 0, 288, 122, [.val (.ref 64), .val (.int p1)], [.ref 768, .int (H 0 3)], (126, 120, L, [Y_3, T, H, H2, RU, RV, ST, NS, I0, I1, I2, BO_5, FI, RG, GU, PU, MA, MN, MS, OT, SC], [192, 256, 320, 384, w, 192, 576, 640, 704], Lg)) o from ev_call (fun v μ => (d + 3, 0, 0, 288, 122, [.val (.ref 64), .val (.int p1)], v.toList ++ [.int (H 0 3)], μ)) 3 ze20 e (fun n => Eq.refl _)
      obtain ⟨x6, zh21, h⟩ := bnd h
      have zh21 : f_Board_placed H BO_5 = some x6 := zh21
      have ze22 := R_f_Board_placed_0 (d + 2) Y_3 T H H2 RU RV ST NS I0 I1 I2 BO_5 FI RG GU PU MA MN MS OT SC 192 256 320 384 w 576 640 704 L Lg zh21
      suffices e : Ev (d + 3, 0, 0, 288, 125, [.val (.ref 64), .val (.int p1)], [.int x6, .int (H 0 3)], (126, 120, L, [Y_3, T, H, H2, RU, RV, ST, NS, I0, I1, I2, BO_5, FI, RG, GU, PU, MA, MN, MS, OT, SC], [192, 256, 320, 384, w, 192, 576, 640, 704], Lg)) o from ev_call (fun v μ => (d + 3, 0, 0, 288, 125, [.val (.ref 64), .val (.int p1)], v.toList ++ [.int (H 0 3)], μ)) 1 ze22 e (fun n => Eq.refl _)
      obtain ⟨x7, zh23, h⟩ := bnd h
      have zh23 : f_Integer_bitCount x6 = some x7 := zh23
      have ze24 := R_f_Integer_bitCount_0 (d + 2) Y_3 T H H2 RU RV ST NS I0 I1 I2 BO_5 FI RG GU PU MA MN MS OT SC 192 256 320 384 w 192 576 640 704 L Lg x6 zh23
      suffices e : Ev (d + 3, 0, 0, 288, 128, [.val (.ref 64), .val (.int p1)], [.int x7, .int (H 0 3)], (126, 120, L, [Y_3, T, H, H2, RU, RV, ST, NS, I0, I1, I2, BO_5, FI, RG, GU, PU, MA, MN, MS, OT, SC], [192, 256, 320, 384, w, 192, 576, 640, 704], Lg)) o from ev_call (fun v μ => (d + 3, 0, 0, 288, 128, [.val (.ref 64), .val (.int p1)], v.toList ++ [.int (H 0 3)], μ)) 1 ze24 e (fun n => Eq.refl _)
      have ze25 := Option.some.inj h
      subst ze25
      exact ev_rete 2 ho (fun n => Eq.refl _)
    | succ q2 =>
      have h := itn h (Nat.succ_ne_zero q2)
      have ze26 := Option.some.inj h
      subst ze26
      subst ho
      exact ev_thr (fun v μ => (d + 3, 0, 0, 288, 19, [.val (.ref 64), .val (.int p1)], v.toList ++ [], μ)) 1 ze6 (fun n => Eq.refl _) (fun n => rfl)
  obtain ⟨zt27, zh28, zh2⟩ := bnd zh2
  have zj29 : zt27 = .inl () → Ev (d + 3, 1, 8, 288, 15, [.val (.ref 64), .val (.int p1)], [.ref 64], (126, 120, L, [Y, T, H, H2, RU, RV, ST, NS, I0, I1, I2, BO, FI, RG, GU, PU, MA, MN, MS, OT, SC], [192, 256, 320, 384, w, r5, 576, 640, 704], Lg)) o := by
    intro ze30
    have zh2 := sum_l zh2 ze30
    exact ev_b 1 (zj3 0 (Option.some.inj zh2) ) (fun n => Eq.refl _)
  by_cases zc31 : p1 < 0
  · have zh28 := itp zh28 zc31
    suffices e : Ev (d + 3, 1, 8, 288, 15, [.val (.ref 64), .val (.int p1)], [.ref 64], (126, 120, L, [Y, T, H, H2, RU, RV, ST, NS, I0, I1, I2, BO, FI, RG, GU, PU, MA, MN, MS, OT, SC], [192, 256, 320, 384, w, r5, 576, 640, 704], Lg)) o from ev_t (c := p1 < 0) _ _ 3  zc31 e (fun n => Eq.refl _)
    exact ev_b 0 (zj29  (Option.some.inj zh28).symm ) (fun n => Eq.refl _)
  · have zh28 := itn zh28 zc31
    suffices e : Ev (d + 3, 1, 8, 288, 5, [.val (.ref 64), .val (.int p1)], [.ref 64], (126, 120, L, [Y, T, H, H2, RU, RV, ST, NS, I0, I1, I2, BO, FI, RG, GU, PU, MA, MN, MS, OT, SC], [192, 256, 320, 384, w, r5, 576, 640, 704], Lg)) o from ev_f (c := p1 < 0) _ _ 3  zc31 e (fun n => Eq.refl _)
    by_cases zc32 : 6 < p1
    · have zh28 := itp zh28 zc32
      suffices e : Ev (d + 3, 1, 8, 288, 15, [.val (.ref 64), .val (.int p1)], [.ref 64], (126, 120, L, [Y, T, H, H2, RU, RV, ST, NS, I0, I1, I2, BO, FI, RG, GU, PU, MA, MN, MS, OT, SC], [192, 256, 320, 384, w, r5, 576, 640, 704], Lg)) o from ev_t (c := 6 < p1) _ _ 3  zc32 e (fun n => Eq.refl _)
      exact ev_b 0 (zj29  (Option.some.inj zh28).symm ) (fun n => Eq.refl _)
    · have zh28 := itn zh28 zc32
      suffices e : Ev (d + 3, 1, 8, 288, 11, [.val (.ref 64), .val (.int p1)], [.ref 64], (126, 120, L, [Y, T, H, H2, RU, RV, ST, NS, I0, I1, I2, BO, FI, RG, GU, PU, MA, MN, MS, OT, SC], [192, 256, 320, 384, w, r5, 576, 640, 704], Lg)) o from ev_f (c := 6 < p1) _ _ 3  zc32 e (fun n => Eq.refl _)
      have zh33 := sum_r zh2 (Option.some.inj zh28).symm
      exact ev_b 2 (zj3 1 (Option.some.inj zh33) ) (fun n => Eq.refl _)
set_option maxRecDepth 1000000 in
set_option maxHeartbeats 4000000 in
theorem R_f_Y_lookNow_1 (d : Nat) (Y T H H2 RV RU ST NS I0 I1 I2 BO FI RG GU PU MA MN MS OT SC : Nat → Nat → Int32) (w r5 : Nat) (L : Nat) (Lg : Int64) {r : (Nat → Nat → Int32)} (h : f_Y_lookNow H NS BO = some r) : Ev (d + 2, 0, 0, 342, 0, [.val (.ref 64)], [], (126, 120, L, [Y, T, H, H2, RV, RU, ST, NS, I0, I1, I2, BO, FI, RG, GU, PU, MA, MN, MS, OT, SC], [192, 256, 384, 320, w, r5, 576, 640, 704], Lg)) ((0, some (.ref 768), (126, 120, L, [Y, T, H, H2, RV, RU, ST, NS, I0, I1, I2, r, FI, RG, GU, PU, MA, MN, MS, OT, SC], [192, 256, 384, 320, w, 192, 576, 640, 704], Lg)) : AOut) := by
  suffices key : ∀ o : AOut, ((0, some (.ref 768), (126, 120, L, [Y, T, H, H2, RV, RU, ST, NS, I0, I1, I2, r, FI, RG, GU, PU, MA, MN, MS, OT, SC], [192, 256, 384, 320, w, 192, 576, 640, 704], Lg)) : AOut) = o → Ev (d + 2, 0, 0, 342, 0, [.val (.ref 64)], [], (126, 120, L, [Y, T, H, H2, RV, RU, ST, NS, I0, I1, I2, BO, FI, RG, GU, PU, MA, MN, MS, OT, SC], [192, 256, 384, 320, w, r5, 576, 640, 704], Lg)) o from key _ rfl
  intro o ho
  suffices e : Ev (d + 2, 0, 0, 342, 8, [.val (.ref 64)], [.ref 192, .ref 768], (126, 120, L, [Y, T, H, H2, RV, RU, ST, NS, I0, I1, I2, BO, FI, RG, GU, PU, MA, MN, MS, OT, SC], [192, 256, 384, 320, w, r5, 576, 640, 704], Lg)) o from ev_b 4 e (fun n => Eq.refl _)
  obtain ⟨BO_1, zh1, h⟩ := bnd h
  have zh1 : f_Board_load H NS BO = some BO_1 := zh1
  have ze2 := R_f_Board_load_0 (d + 0) Y T H H2 RV RU ST NS I0 I1 I2 BO FI RG GU PU MA MN MS OT SC 192 256 384 320 w r5 576 640 704 L Lg zh1
  suffices e : Ev (d + 2, 0, 0, 342, 15, [.val (.ref 64)], [], (126, 120, L, [Y, T, H, H2, RV, RU, ST, NS, I0, I1, I2, BO_1, FI, RG, GU, PU, MA, MN, MS, OT, SC], [192, 256, 384, 320, w, 192, 576, 640, 704], Lg)) o from ev_call (fun v μ => (d + 2, 0, 0, 342, 15, [.val (.ref 64)], v.toList ++ [], μ)) 3 ze2 e (fun n => Eq.refl _)
  have ze3 := Option.some.inj h
  subst ze3
  exact ev_rete 3 ho (fun n => Eq.refl _)
set_option maxRecDepth 1000000 in
set_option maxHeartbeats 4000000 in
theorem R_f_Y_told_1 (d : Nat) (Y T H H2 RV RU ST NS I0 I1 I2 BO FI RG GU PU MA MN MS OT SC : Nat → Nat → Int32) (w r5 : Nat) (L : Nat) (Lg : Int64) (p1 : Int32) {r : Nat × Int32 × (Nat → Nat → Int32) × (Nat → Nat → Int32) × Nat} (h : f_Y_told Y H NS BO r5 192 p1 = some r) : Ev (d + 3, 1, 8, 288, 0, [.val (.ref 64), .val (.int p1)], [], (126, 120, L, [Y, T, H, H2, RV, RU, ST, NS, I0, I1, I2, BO, FI, RG, GU, PU, MA, MN, MS, OT, SC], [192, 256, 384, 320, w, r5, 576, 640, 704], Lg)) ((r.1, a_ov r.1 (.int r.2.1), (126, 120, L, [r.2.2.1, T, H, H2, RV, RU, ST, NS, I0, I1, I2, r.2.2.2.1, FI, RG, GU, PU, MA, MN, MS, OT, SC], [192, 256, 384, 320, w, r.2.2.2.2, 576, 640, 704], Lg)) : AOut) := by
  suffices key : ∀ o : AOut, ((r.1, a_ov r.1 (.int r.2.1), (126, 120, L, [r.2.2.1, T, H, H2, RV, RU, ST, NS, I0, I1, I2, r.2.2.2.1, FI, RG, GU, PU, MA, MN, MS, OT, SC], [192, 256, 384, 320, w, r.2.2.2.2, 576, 640, 704], Lg)) : AOut) = o → Ev (d + 3, 1, 8, 288, 0, [.val (.ref 64), .val (.int p1)], [], (126, 120, L, [Y, T, H, H2, RV, RU, ST, NS, I0, I1, I2, BO, FI, RG, GU, PU, MA, MN, MS, OT, SC], [192, 256, 384, 320, w, r5, 576, 640, 704], Lg)) o from key _ rfl
  intro o ho
  obtain ⟨zt1, zh2, h⟩ := bnd h
  have zj3 : ∀ (v1 : Int32), v1 = zt1 → Ev (d + 3, 1, 8, 288, 16, [.val (.ref 64), .val (.int p1)], [.int v1, .ref 64], (126, 120, L, [Y, T, H, H2, RV, RU, ST, NS, I0, I1, I2, BO, FI, RG, GU, PU, MA, MN, MS, OT, SC], [192, 256, 384, 320, w, r5, 576, 640, 704], Lg)) o := by
    intro v1 ze4
    subst ze4
    obtain ⟨⟨q2, Y_3⟩, zh5, h⟩ := bnd h
    have zh5 : f_Y_refuseUnless Y v1 = some (q2, Y_3) := zh5
    have ze6 := R_f_Y_refuseUnless_1 (d + 2) Y T H H2 RV RU ST NS I0 I1 I2 BO FI RG GU PU MA MN MS OT SC w r5 L Lg v1 zh5
    cases q2 with
    | zero =>
      have h := itp h rfl
      suffices e : Ev (d + 3, 0, 0, 288, 19, [.val (.ref 64), .val (.int p1)], [], (126, 120, L, [Y_3, T, H, H2, RV, RU, ST, NS, I0, I1, I2, BO, FI, RG, GU, PU, MA, MN, MS, OT, SC], [192, 256, 384, 320, w, r5, 576, 640, 704], Lg)) o from ev_call (fun v μ => (d + 3, 0, 0, 288, 19, [.val (.ref 64), .val (.int p1)], v.toList ++ [], μ)) 1 ze6 e (fun n => Eq.refl _)
      by_cases zc7 : p1 = 0
      · have h := itp h zc7
        suffices e : Ev (d + 3, 0, 0, 288, 60, [.val (.ref 64), .val (.int p1)], [], (126, 120, L, [Y_3, T, H, H2, RV, RU, ST, NS, I0, I1, I2, BO, FI, RG, GU, PU, MA, MN, MS, OT, SC], [192, 256, 384, 320, w, r5, 576, 640, 704], Lg)) o from ev_sw [((0 : Int32), 60), ((1 : Int32), 68), ((2 : Int32), 76), ((3 : Int32), 84), ((4 : Int32), 92), ((5 : Int32), 100)] p1 (fun tt => (d + 3, 0, 0, 288, tt, [.val (.ref 64), .val (.int p1)], [], (126, 120, L, [Y_3, T, H, H2, RV, RU, ST, NS, I0, I1, I2, BO, FI, RG, GU, PU, MA, MN, MS, OT, SC], [192, 256, 384, 320, w, r5, 576, 640, 704], Lg))) 111 60 2 (fun f => by simp only [a_sw, if_pos zc7]) e (fun n => Eq.refl _)
        suffices e : Ev (d + 3, 0, 0, 288, 64, [.val (.ref 64), .val (.int p1)], [.ref 192], (126, 120, L, [Y_3, T, H, H2, RV, RU, ST, NS, I0, I1, I2, BO, FI, RG, GU, PU, MA, MN, MS, OT, SC], [192, 256, 384, 320, w, r5, 576, 640, 704], Lg)) o from ev_b 2 e (fun n => Eq.refl _)
        have ze8 := Option.some.inj h
        subst ze8
        exact ev_rete 2 ho (fun n => Eq.refl _)
      have h := itn h zc7
      by_cases zc9 : p1 = 1
      · have h := itp h zc9
        suffices e : Ev (d + 3, 0, 0, 288, 68, [.val (.ref 64), .val (.int p1)], [], (126, 120, L, [Y_3, T, H, H2, RV, RU, ST, NS, I0, I1, I2, BO, FI, RG, GU, PU, MA, MN, MS, OT, SC], [192, 256, 384, 320, w, r5, 576, 640, 704], Lg)) o from ev_sw [((0 : Int32), 60), ((1 : Int32), 68), ((2 : Int32), 76), ((3 : Int32), 84), ((4 : Int32), 92), ((5 : Int32), 100)] p1 (fun tt => (d + 3, 0, 0, 288, tt, [.val (.ref 64), .val (.int p1)], [], (126, 120, L, [Y_3, T, H, H2, RV, RU, ST, NS, I0, I1, I2, BO, FI, RG, GU, PU, MA, MN, MS, OT, SC], [192, 256, 384, 320, w, r5, 576, 640, 704], Lg))) 111 68 2 (fun f => by simp only [a_sw, if_neg zc7, if_pos zc9]) e (fun n => Eq.refl _)
        suffices e : Ev (d + 3, 0, 0, 288, 72, [.val (.ref 64), .val (.int p1)], [.ref 192], (126, 120, L, [Y_3, T, H, H2, RV, RU, ST, NS, I0, I1, I2, BO, FI, RG, GU, PU, MA, MN, MS, OT, SC], [192, 256, 384, 320, w, r5, 576, 640, 704], Lg)) o from ev_b 2 e (fun n => Eq.refl _)
        have ze10 := Option.some.inj h
        subst ze10
        exact ev_rete 2 ho (fun n => Eq.refl _)
      have h := itn h zc9
      by_cases zc11 : p1 = 2
      · have h := itp h zc11
        suffices e : Ev (d + 3, 0, 0, 288, 76, [.val (.ref 64), .val (.int p1)], [], (126, 120, L, [Y_3, T, H, H2, RV, RU, ST, NS, I0, I1, I2, BO, FI, RG, GU, PU, MA, MN, MS, OT, SC], [192, 256, 384, 320, w, r5, 576, 640, 704], Lg)) o from ev_sw [((0 : Int32), 60), ((1 : Int32), 68), ((2 : Int32), 76), ((3 : Int32), 84), ((4 : Int32), 92), ((5 : Int32), 100)] p1 (fun tt => (d + 3, 0, 0, 288, tt, [.val (.ref 64), .val (.int p1)], [], (126, 120, L, [Y_3, T, H, H2, RV, RU, ST, NS, I0, I1, I2, BO, FI, RG, GU, PU, MA, MN, MS, OT, SC], [192, 256, 384, 320, w, r5, 576, 640, 704], Lg))) 111 76 2 (fun f => by simp only [a_sw, if_neg zc7, if_neg zc9, if_pos zc11]) e (fun n => Eq.refl _)
        suffices e : Ev (d + 3, 0, 0, 288, 80, [.val (.ref 64), .val (.int p1)], [.ref 192], (126, 120, L, [Y_3, T, H, H2, RV, RU, ST, NS, I0, I1, I2, BO, FI, RG, GU, PU, MA, MN, MS, OT, SC], [192, 256, 384, 320, w, r5, 576, 640, 704], Lg)) o from ev_b 2 e (fun n => Eq.refl _)
        have ze12 := Option.some.inj h
        subst ze12
        exact ev_rete 2 ho (fun n => Eq.refl _)
      have h := itn h zc11
      by_cases zc13 : p1 = 3
      · have h := itp h zc13
        suffices e : Ev (d + 3, 0, 0, 288, 84, [.val (.ref 64), .val (.int p1)], [], (126, 120, L, [Y_3, T, H, H2, RV, RU, ST, NS, I0, I1, I2, BO, FI, RG, GU, PU, MA, MN, MS, OT, SC], [192, 256, 384, 320, w, r5, 576, 640, 704], Lg)) o from ev_sw [((0 : Int32), 60), ((1 : Int32), 68), ((2 : Int32), 76), ((3 : Int32), 84), ((4 : Int32), 92), ((5 : Int32), 100)] p1 (fun tt => (d + 3, 0, 0, 288, tt, [.val (.ref 64), .val (.int p1)], [], (126, 120, L, [Y_3, T, H, H2, RV, RU, ST, NS, I0, I1, I2, BO, FI, RG, GU, PU, MA, MN, MS, OT, SC], [192, 256, 384, 320, w, r5, 576, 640, 704], Lg))) 111 84 2 (fun f => by simp only [a_sw, if_neg zc7, if_neg zc9, if_neg zc11, if_pos zc13]) e (fun n => Eq.refl _)
        suffices e : Ev (d + 3, 0, 0, 288, 88, [.val (.ref 64), .val (.int p1)], [.ref 192], (126, 120, L, [Y_3, T, H, H2, RV, RU, ST, NS, I0, I1, I2, BO, FI, RG, GU, PU, MA, MN, MS, OT, SC], [192, 256, 384, 320, w, r5, 576, 640, 704], Lg)) o from ev_b 2 e (fun n => Eq.refl _)
        have ze14 := Option.some.inj h
        subst ze14
        exact ev_rete 2 ho (fun n => Eq.refl _)
      have h := itn h zc13
      by_cases zc15 : p1 = 4
      · have h := itp h zc15
        suffices e : Ev (d + 3, 0, 0, 288, 92, [.val (.ref 64), .val (.int p1)], [], (126, 120, L, [Y_3, T, H, H2, RV, RU, ST, NS, I0, I1, I2, BO, FI, RG, GU, PU, MA, MN, MS, OT, SC], [192, 256, 384, 320, w, r5, 576, 640, 704], Lg)) o from ev_sw [((0 : Int32), 60), ((1 : Int32), 68), ((2 : Int32), 76), ((3 : Int32), 84), ((4 : Int32), 92), ((5 : Int32), 100)] p1 (fun tt => (d + 3, 0, 0, 288, tt, [.val (.ref 64), .val (.int p1)], [], (126, 120, L, [Y_3, T, H, H2, RV, RU, ST, NS, I0, I1, I2, BO, FI, RG, GU, PU, MA, MN, MS, OT, SC], [192, 256, 384, 320, w, r5, 576, 640, 704], Lg))) 111 92 2 (fun f => by simp only [a_sw, if_neg zc7, if_neg zc9, if_neg zc11, if_neg zc13, if_pos zc15]) e (fun n => Eq.refl _)
        suffices e : Ev (d + 3, 0, 0, 288, 96, [.val (.ref 64), .val (.int p1)], [.ref 192], (126, 120, L, [Y_3, T, H, H2, RV, RU, ST, NS, I0, I1, I2, BO, FI, RG, GU, PU, MA, MN, MS, OT, SC], [192, 256, 384, 320, w, r5, 576, 640, 704], Lg)) o from ev_b 2 e (fun n => Eq.refl _)
        have ze16 := Option.some.inj h
        subst ze16
        exact ev_rete 2 ho (fun n => Eq.refl _)
      have h := itn h zc15
      by_cases zc17 : p1 = 5
      · have h := itp h zc17
        suffices e : Ev (d + 3, 0, 0, 288, 100, [.val (.ref 64), .val (.int p1)], [], (126, 120, L, [Y_3, T, H, H2, RV, RU, ST, NS, I0, I1, I2, BO, FI, RG, GU, PU, MA, MN, MS, OT, SC], [192, 256, 384, 320, w, r5, 576, 640, 704], Lg)) o from ev_sw [((0 : Int32), 60), ((1 : Int32), 68), ((2 : Int32), 76), ((3 : Int32), 84), ((4 : Int32), 92), ((5 : Int32), 100)] p1 (fun tt => (d + 3, 0, 0, 288, tt, [.val (.ref 64), .val (.int p1)], [], (126, 120, L, [Y_3, T, H, H2, RV, RU, ST, NS, I0, I1, I2, BO, FI, RG, GU, PU, MA, MN, MS, OT, SC], [192, 256, 384, 320, w, r5, 576, 640, 704], Lg))) 111 100 2 (fun f => by simp only [a_sw, if_neg zc7, if_neg zc9, if_neg zc11, if_neg zc13, if_neg zc15, if_pos zc17]) e (fun n => Eq.refl _)
        have ze18 := Option.some.inj h
        subst ze18
        exact ev_rete 5 ho (fun n => Eq.refl _)
      have h := itn h zc17
      suffices e : Ev (d + 3, 0, 0, 288, 111, [.val (.ref 64), .val (.int p1)], [], (126, 120, L, [Y_3, T, H, H2, RV, RU, ST, NS, I0, I1, I2, BO, FI, RG, GU, PU, MA, MN, MS, OT, SC], [192, 256, 384, 320, w, r5, 576, 640, 704], Lg)) o from ev_sw [((0 : Int32), 60), ((1 : Int32), 68), ((2 : Int32), 76), ((3 : Int32), 84), ((4 : Int32), 92), ((5 : Int32), 100)] p1 (fun tt => (d + 3, 0, 0, 288, tt, [.val (.ref 64), .val (.int p1)], [], (126, 120, L, [Y_3, T, H, H2, RV, RU, ST, NS, I0, I1, I2, BO, FI, RG, GU, PU, MA, MN, MS, OT, SC], [192, 256, 384, 320, w, r5, 576, 640, 704], Lg))) 111 111 2 (fun f => by simp only [a_sw, if_neg zc7, if_neg zc9, if_neg zc11, if_neg zc13, if_neg zc15, if_neg zc17]) e (fun n => Eq.refl _)
      suffices e : Ev (d + 3, 0, 0, 288, 115, [.val (.ref 64), .val (.int p1)], [.ref 192], (126, 120, L, [Y_3, T, H, H2, RV, RU, ST, NS, I0, I1, I2, BO, FI, RG, GU, PU, MA, MN, MS, OT, SC], [192, 256, 384, 320, w, r5, 576, 640, 704], Lg)) o from ev_b 2 e (fun n => Eq.refl _)
      obtain ⟨BO_5, zh19, h⟩ := bnd h
      have zh19 : f_Y_lookNow H NS BO = some BO_5 := zh19
      have ze20 := R_f_Y_lookNow_1 (d + 0) Y_3 T H H2 RV RU ST NS I0 I1 I2 BO FI RG GU PU MA MN MS OT SC w r5 L Lg zh19
      suffices e : Ev (d + 3, 0, 0, 288, 122, [.val (.ref 64), .val (.int p1)], [.ref 768, .int (H 0 3)], (126, 120, L, [Y_3, T, H, H2, RV, RU, ST, NS, I0, I1, I2, BO_5, FI, RG, GU, PU, MA, MN, MS, OT, SC], [192, 256, 384, 320, w, 192, 576, 640, 704], Lg)) o from ev_call (fun v μ => (d + 3, 0, 0, 288, 122, [.val (.ref 64), .val (.int p1)], v.toList ++ [.int (H 0 3)], μ)) 3 ze20 e (fun n => Eq.refl _)
      obtain ⟨x6, zh21, h⟩ := bnd h
      have zh21 : f_Board_placed H BO_5 = some x6 := zh21
      have ze22 := R_f_Board_placed_0 (d + 2) Y_3 T H H2 RV RU ST NS I0 I1 I2 BO_5 FI RG GU PU MA MN MS OT SC 192 256 384 320 w 576 640 704 L Lg zh21
      suffices e : Ev (d + 3, 0, 0, 288, 125, [.val (.ref 64), .val (.int p1)], [.int x6, .int (H 0 3)], (126, 120, L, [Y_3, T, H, H2, RV, RU, ST, NS, I0, I1, I2, BO_5, FI, RG, GU, PU, MA, MN, MS, OT, SC], [192, 256, 384, 320, w, 192, 576, 640, 704], Lg)) o from ev_call (fun v μ => (d + 3, 0, 0, 288, 125, [.val (.ref 64), .val (.int p1)], v.toList ++ [.int (H 0 3)], μ)) 1 ze22 e (fun n => Eq.refl _)
      obtain ⟨x7, zh23, h⟩ := bnd h
      have zh23 : f_Integer_bitCount x6 = some x7 := zh23
      have ze24 := R_f_Integer_bitCount_0 (d + 2) Y_3 T H H2 RV RU ST NS I0 I1 I2 BO_5 FI RG GU PU MA MN MS OT SC 192 256 384 320 w 192 576 640 704 L Lg x6 zh23
      suffices e : Ev (d + 3, 0, 0, 288, 128, [.val (.ref 64), .val (.int p1)], [.int x7, .int (H 0 3)], (126, 120, L, [Y_3, T, H, H2, RV, RU, ST, NS, I0, I1, I2, BO_5, FI, RG, GU, PU, MA, MN, MS, OT, SC], [192, 256, 384, 320, w, 192, 576, 640, 704], Lg)) o from ev_call (fun v μ => (d + 3, 0, 0, 288, 128, [.val (.ref 64), .val (.int p1)], v.toList ++ [.int (H 0 3)], μ)) 1 ze24 e (fun n => Eq.refl _)
      have ze25 := Option.some.inj h
      subst ze25
      exact ev_rete 2 ho (fun n => Eq.refl _)
    | succ q2 =>
      have h := itn h (Nat.succ_ne_zero q2)
      have ze26 := Option.some.inj h
      subst ze26
      subst ho
      exact ev_thr (fun v μ => (d + 3, 0, 0, 288, 19, [.val (.ref 64), .val (.int p1)], v.toList ++ [], μ)) 1 ze6 (fun n => Eq.refl _) (fun n => rfl)
  obtain ⟨zt27, zh28, zh2⟩ := bnd zh2
  have zj29 : zt27 = .inl () → Ev (d + 3, 1, 8, 288, 15, [.val (.ref 64), .val (.int p1)], [.ref 64], (126, 120, L, [Y, T, H, H2, RV, RU, ST, NS, I0, I1, I2, BO, FI, RG, GU, PU, MA, MN, MS, OT, SC], [192, 256, 384, 320, w, r5, 576, 640, 704], Lg)) o := by
    intro ze30
    have zh2 := sum_l zh2 ze30
    exact ev_b 1 (zj3 0 (Option.some.inj zh2) ) (fun n => Eq.refl _)
  by_cases zc31 : p1 < 0
  · have zh28 := itp zh28 zc31
    suffices e : Ev (d + 3, 1, 8, 288, 15, [.val (.ref 64), .val (.int p1)], [.ref 64], (126, 120, L, [Y, T, H, H2, RV, RU, ST, NS, I0, I1, I2, BO, FI, RG, GU, PU, MA, MN, MS, OT, SC], [192, 256, 384, 320, w, r5, 576, 640, 704], Lg)) o from ev_t (c := p1 < 0) _ _ 3  zc31 e (fun n => Eq.refl _)
    exact ev_b 0 (zj29  (Option.some.inj zh28).symm ) (fun n => Eq.refl _)
  · have zh28 := itn zh28 zc31
    suffices e : Ev (d + 3, 1, 8, 288, 5, [.val (.ref 64), .val (.int p1)], [.ref 64], (126, 120, L, [Y, T, H, H2, RV, RU, ST, NS, I0, I1, I2, BO, FI, RG, GU, PU, MA, MN, MS, OT, SC], [192, 256, 384, 320, w, r5, 576, 640, 704], Lg)) o from ev_f (c := p1 < 0) _ _ 3  zc31 e (fun n => Eq.refl _)
    by_cases zc32 : 6 < p1
    · have zh28 := itp zh28 zc32
      suffices e : Ev (d + 3, 1, 8, 288, 15, [.val (.ref 64), .val (.int p1)], [.ref 64], (126, 120, L, [Y, T, H, H2, RV, RU, ST, NS, I0, I1, I2, BO, FI, RG, GU, PU, MA, MN, MS, OT, SC], [192, 256, 384, 320, w, r5, 576, 640, 704], Lg)) o from ev_t (c := 6 < p1) _ _ 3  zc32 e (fun n => Eq.refl _)
      exact ev_b 0 (zj29  (Option.some.inj zh28).symm ) (fun n => Eq.refl _)
    · have zh28 := itn zh28 zc32
      suffices e : Ev (d + 3, 1, 8, 288, 11, [.val (.ref 64), .val (.int p1)], [.ref 64], (126, 120, L, [Y, T, H, H2, RV, RU, ST, NS, I0, I1, I2, BO, FI, RG, GU, PU, MA, MN, MS, OT, SC], [192, 256, 384, 320, w, r5, 576, 640, 704], Lg)) o from ev_f (c := 6 < p1) _ _ 3  zc32 e (fun n => Eq.refl _)
      have zh33 := sum_r zh2 (Option.some.inj zh28).symm
      exact ev_b 2 (zj3 1 (Option.some.inj zh33) ) (fun n => Eq.refl _)
set_option maxRecDepth 1000000 in
set_option maxHeartbeats 4000000 in
theorem R_f_Board_load_1 (d : Nat) (Y T H2 H RA RB ST NS I0 I1 I2 BO FI RG GU PU MA MN MS OT SC : Nat → Nat → Int32) (r0 r1 r2 r3 w r5 r6 r7 r8 : Nat) (L : Nat) (Lg : Int64) {r : (Nat → Nat → Int32)} (h : f_Board_load H NS BO = some r) : Ev (d + 1, 0, 0, 155, 0, [.val (.ref 768), .val (.ref 256), .val (.ref 512), .val a_unk], [], (126, 120, L, [Y, T, H2, H, RA, RB, ST, NS, I0, I1, I2, BO, FI, RG, GU, PU, MA, MN, MS, OT, SC], [r0, r1, r2, r3, w, r5, r6, r7, r8], Lg)) ((0, none, (126, 120, L, [Y, T, H2, H, RA, RB, ST, NS, I0, I1, I2, r, FI, RG, GU, PU, MA, MN, MS, OT, SC], [r0, r1, r2, r3, w, 256, r6, r7, r8], Lg)) : AOut) := by
  suffices key : ∀ o : AOut, ((0, none, (126, 120, L, [Y, T, H2, H, RA, RB, ST, NS, I0, I1, I2, r, FI, RG, GU, PU, MA, MN, MS, OT, SC], [r0, r1, r2, r3, w, 256, r6, r7, r8], Lg)) : AOut) = o → Ev (d + 1, 0, 0, 155, 0, [.val (.ref 768), .val (.ref 256), .val (.ref 512), .val a_unk], [], (126, 120, L, [Y, T, H2, H, RA, RB, ST, NS, I0, I1, I2, BO, FI, RG, GU, PU, MA, MN, MS, OT, SC], [r0, r1, r2, r3, w, r5, r6, r7, r8], Lg)) o from key _ rfl
  intro o ho
  by_cases zc1 : ((0 : Int32) < 0 ∨ (0 : Int32) < 0 ∨ (10 : Int32) < 0 ∨ 10 < (0 : Int32).toNatClampNeg + (10 : Int32).toNatClampNeg ∨ 10 < (0 : Int32).toNatClampNeg + (10 : Int32).toNatClampNeg)
  · exact nos (itp h zc1)
  have h := itn h zc1
  suffices e : Ev (d + 1, 0, 0, 155, 20, [.val (.ref 768), .val (.ref 256), .val (.ref 512), .val a_unk], [], (126, 120, L, [Y, T, H2, H, RA, RB, ST, NS, I0, I1, I2, (u1 BO 1 (a_cpy (NS 1) (BO 1) (0 : Int32).toNatClampNeg (0 : Int32).toNatClampNeg (10 : Int32).toNatClampNeg)), FI, RG, GU, PU, MA, MN, MS, OT, SC], [r0, r1, r2, r3, w, 256, r6, r7, r8], Lg)) o from ev_d (c := ((0 : Int32) < 0 ∨ (0 : Int32) < 0 ∨ (10 : Int32) < 0 ∨ 10 < (0 : Int32).toNatClampNeg + (10 : Int32).toNatClampNeg ∨ 10 < (0 : Int32).toNatClampNeg + (10 : Int32).toNatClampNeg)) _ 11 zc1 e (fun n => Eq.refl _)
  by_cases zc2 : ((0 : Int32) < 0 ∨ (0 : Int32) < 0 ∨ (10 : Int32) < 0 ∨ 10 < (0 : Int32).toNatClampNeg + (10 : Int32).toNatClampNeg ∨ 10 < (0 : Int32).toNatClampNeg + (10 : Int32).toNatClampNeg)
  · exact nos (itp h zc2)
  have h := itn h zc2
  suffices e : Ev (d + 1, 0, 0, 155, 35, [.val (.ref 768), .val (.ref 256), .val (.ref 512), .val a_unk], [], (126, 120, L, [Y, T, H2, H, RA, RB, ST, NS, I0, I1, I2, (u1 (u1 BO 1 (a_cpy (NS 1) (BO 1) (0 : Int32).toNatClampNeg (0 : Int32).toNatClampNeg (10 : Int32).toNatClampNeg)) 2 (a_cpy (NS 2) ((u1 BO 1 (a_cpy (NS 1) (BO 1) (0 : Int32).toNatClampNeg (0 : Int32).toNatClampNeg (10 : Int32).toNatClampNeg)) 2) (0 : Int32).toNatClampNeg (0 : Int32).toNatClampNeg (10 : Int32).toNatClampNeg)), FI, RG, GU, PU, MA, MN, MS, OT, SC], [r0, r1, r2, r3, w, 256, r6, r7, r8], Lg)) o from ev_d (c := ((0 : Int32) < 0 ∨ (0 : Int32) < 0 ∨ (10 : Int32) < 0 ∨ 10 < (0 : Int32).toNatClampNeg + (10 : Int32).toNatClampNeg ∨ 10 < (0 : Int32).toNatClampNeg + (10 : Int32).toNatClampNeg)) _ 8 zc2 e (fun n => Eq.refl _)
  have ze3 := R_fill (d + 0) 771 0 [Y, T, H2, H, RA, RB, ST, NS, I0, I1, I2, (u1 (u1 BO 1 (a_cpy (NS 1) (BO 1) (0 : Int32).toNatClampNeg (0 : Int32).toNatClampNeg (10 : Int32).toNatClampNeg)) 2 (a_cpy (NS 2) ((u1 BO 1 (a_cpy (NS 1) (BO 1) (0 : Int32).toNatClampNeg (0 : Int32).toNatClampNeg (10 : Int32).toNatClampNeg)) 2) (0 : Int32).toNatClampNeg (0 : Int32).toNatClampNeg (10 : Int32).toNatClampNeg)), FI, RG, GU, PU, MA, MN, MS, OT, SC] [r0, r1, r2, r3, w, 256, r6, r7, r8] L Lg 126 120 rfl rfl (Nat.le_of_ble_eq_true rfl) (Nat.le_of_ble_eq_true rfl)
  suffices e : Ev (d + 1, 0, 0, 155, 43, [.val (.ref 768), .val (.ref 256), .val (.ref 512), .val a_unk], [], (126, 120, L, [Y, T, H2, H, RA, RB, ST, NS, I0, I1, I2, (u1 (u1 (u1 BO 1 (a_cpy (NS 1) (BO 1) (0 : Int32).toNatClampNeg (0 : Int32).toNatClampNeg (10 : Int32).toNatClampNeg)) 2 (a_cpy (NS 2) ((u1 BO 1 (a_cpy (NS 1) (BO 1) (0 : Int32).toNatClampNeg (0 : Int32).toNatClampNeg (10 : Int32).toNatClampNeg)) 2) (0 : Int32).toNatClampNeg (0 : Int32).toNatClampNeg (10 : Int32).toNatClampNeg)) 3 (filM ((u1 (u1 BO 1 (a_cpy (NS 1) (BO 1) (0 : Int32).toNatClampNeg (0 : Int32).toNatClampNeg (10 : Int32).toNatClampNeg)) 2 (a_cpy (NS 2) ((u1 BO 1 (a_cpy (NS 1) (BO 1) (0 : Int32).toNatClampNeg (0 : Int32).toNatClampNeg (10 : Int32).toNatClampNeg)) 2) (0 : Int32).toNatClampNeg (0 : Int32).toNatClampNeg (10 : Int32).toNatClampNeg)) 3) 3 0)), FI, RG, GU, PU, MA, MN, MS, OT, SC], [r0, r1, r2, r3, w, 256, r6, r7, r8], Lg)) o from ev_call (fun v μ => (d + 1, 0, 0, 155, 43, [.val (.ref 768), .val (.ref 256), .val (.ref 512), .val a_unk], v.toList ++ [], μ)) 4 ze3 e (fun n => Eq.refl _)
  obtain ⟨BO_11, zh5, h⟩ := bnd h
  suffices e : Ev (d + 1, 0, 0, 155, 45, [.val (.ref 768), .val (.ref 256), .val (.ref 512), .val (.int 0)], [], (126, 120, L, [Y, T, H2, H, RA, RB, ST, NS, I0, I1, I2, (u1 (u1 (u1 BO 1 (a_cpy (NS 1) (BO 1) (0 : Int32).toNatClampNeg (0 : Int32).toNatClampNeg (10 : Int32).toNatClampNeg)) 2 (a_cpy (NS 2) ((u1 BO 1 (a_cpy (NS 1) (BO 1) (0 : Int32).toNatClampNeg (0 : Int32).toNatClampNeg (10 : Int32).toNatClampNeg)) 2) (0 : Int32).toNatClampNeg (0 : Int32).toNatClampNeg (10 : Int32).toNatClampNeg)) 3 (filM ((u1 (u1 BO 1 (a_cpy (NS 1) (BO 1) (0 : Int32).toNatClampNeg (0 : Int32).toNatClampNeg (10 : Int32).toNatClampNeg)) 2 (a_cpy (NS 2) ((u1 BO 1 (a_cpy (NS 1) (BO 1) (0 : Int32).toNatClampNeg (0 : Int32).toNatClampNeg (10 : Int32).toNatClampNeg)) 2) (0 : Int32).toNatClampNeg (0 : Int32).toNatClampNeg (10 : Int32).toNatClampNeg)) 3) 3 0)), FI, RG, GU, PU, MA, MN, MS, OT, SC], [r0, r1, r2, r3, w, 256, r6, r7, r8], Lg)) o from ev_b 2 e (fun n => Eq.refl _)
  refine ev_loop (δ := Unit) (fun a j => (d + 1, 0, 0, 155, 45, [.val (.ref 768), .val (.ref 256), .val (.ref 512), .val (.int a.1)], [], (126, 120, L, [Y, T, H2, H, RA, RB, ST, NS, I0, I1, I2, a.2, FI, RG, GU, PU, MA, MN, MS, OT, SC], [r0, r1, r2, r3, w, 256, r6, r7, r8], Lg))) (fun b => ∀ s10 : Value, Ev (d + 1, 0, 0, 155, 95, [.val (.ref 768), .val (.ref 256), .val (.ref 512), .val s10], [], (126, 120, L, [Y, T, H2, H, RA, RB, ST, NS, I0, I1, I2, b, FI, RG, GU, PU, MA, MN, MS, OT, SC], [r0, r1, r2, r3, w, 256, r6, r7, r8], Lg)) o) ?_ a_F (0, (u1 (u1 (u1 BO 1 (a_cpy (NS 1) (BO 1) (0 : Int32).toNatClampNeg (0 : Int32).toNatClampNeg (10 : Int32).toNatClampNeg)) 2 (a_cpy (NS 2) ((u1 BO 1 (a_cpy (NS 1) (BO 1) (0 : Int32).toNatClampNeg (0 : Int32).toNatClampNeg (10 : Int32).toNatClampNeg)) 2) (0 : Int32).toNatClampNeg (0 : Int32).toNatClampNeg (10 : Int32).toNatClampNeg)) 3 (filM ((u1 (u1 BO 1 (a_cpy (NS 1) (BO 1) (0 : Int32).toNatClampNeg (0 : Int32).toNatClampNeg (10 : Int32).toNatClampNeg)) 2 (a_cpy (NS 2) ((u1 BO 1 (a_cpy (NS 1) (BO 1) (0 : Int32).toNatClampNeg (0 : Int32).toNatClampNeg (10 : Int32).toNatClampNeg)) 2) (0 : Int32).toNatClampNeg (0 : Int32).toNatClampNeg (10 : Int32).toNatClampNeg)) 3) 3 0))) BO_11 zh5 ?_ ()
  · rintro ⟨v1, BO_2⟩ zr9 zh8 zi6 zx7 ⟨⟩
    have zh8 : f_Board_load_l45 H NS v1 BO_2 = some zr9 := zh8
    by_cases zc10 : (H 0 4) ≤ v1
    · have zh8 := itp zh8 zc10
      suffices e : Ev (d + 1, 0, 0, 155, 95, [.val (.ref 768), .val (.ref 256), .val (.ref 512), .val (.int v1)], [], (126, 120, L, [Y, T, H2, H, RA, RB, ST, NS, I0, I1, I2, BO_2, FI, RG, GU, PU, MA, MN, MS, OT, SC], [r0, r1, r2, r3, w, 256, r6, r7, r8], Lg)) o from ev_t (c := (H 0 4) ≤ v1) _ _ 4  zc10 e (fun n => Eq.refl _)
      exact ev_b 0 (zx7 _ (Option.some.inj zh8).symm (.int v1)) (fun n => Eq.refl _)
    · have zh8 := itn zh8 zc10
      suffices e : Ev (d + 1, 0, 0, 155, 53, [.val (.ref 768), .val (.ref 256), .val (.ref 512), .val (.int v1)], [], (126, 120, L, [Y, T, H2, H, RA, RB, ST, NS, I0, I1, I2, BO_2, FI, RG, GU, PU, MA, MN, MS, OT, SC], [r0, r1, r2, r3, w, 256, r6, r7, r8], Lg)) o from ev_f (c := (H 0 4) ≤ v1) _ _ 4  zc10 e (fun n => Eq.refl _)
      obtain ⟨x3, zh11, zh8⟩ := bnd zh8
      have zh11 : f_State_isHeld NS v1 = some x3 := zh11
      have ze12 := R_f_State_isHeld_0 (d + 0) Y T H2 H RA RB ST NS I0 I1 I2 BO_2 FI RG GU PU MA MN MS OT SC r0 r1 r2 r3 w 256 r6 r7 r8 L Lg v1 zh11
      suffices e : Ev (d + 1, 0, 0, 155, 58, [.val (.ref 768), .val (.ref 256), .val (.ref 512), .val (.int v1)], [.int x3], (126, 120, L, [Y, T, H2, H, RA, RB, ST, NS, I0, I1, I2, BO_2, FI, RG, GU, PU, MA, MN, MS, OT, SC], [r0, r1, r2, r3, w, 256, r6, r7, r8], Lg)) o from ev_call (fun v μ => (d + 1, 0, 0, 155, 58, [.val (.ref 768), .val (.ref 256), .val (.ref 512), .val (.int v1)], v.toList ++ [], μ)) 3 ze12 e (fun n => Eq.refl _)
      by_cases zc13 : x3 = 0
      · have zh8 := itp zh8 zc13
        suffices e : Ev (d + 1, 0, 0, 155, 89, [.val (.ref 768), .val (.ref 256), .val (.ref 512), .val (.int v1)], [], (126, 120, L, [Y, T, H2, H, RA, RB, ST, NS, I0, I1, I2, BO_2, FI, RG, GU, PU, MA, MN, MS, OT, SC], [r0, r1, r2, r3, w, 256, r6, r7, r8], Lg)) o from ev_t (c := x3 = 0) _ _ 1  zc13 e (fun n => Eq.refl _)
        exact ev_b 2 (zi6 _ (Option.some.inj zh8).symm ()) (fun n => Eq.refl _)
      · have zh8 := itn zh8 zc13
        suffices e : Ev (d + 1, 0, 0, 155, 61, [.val (.ref 768), .val (.ref 256), .val (.ref 512), .val (.int v1)], [], (126, 120, L, [Y, T, H2, H, RA, RB, ST, NS, I0, I1, I2, BO_2, FI, RG, GU, PU, MA, MN, MS, OT, SC], [r0, r1, r2, r3, w, 256, r6, r7, r8], Lg)) o from ev_f (c := x3 = 0) _ _ 1  zc13 e (fun n => Eq.refl _)
        obtain ⟨x4, zh14, zh8⟩ := bnd zh8
        have zh14 : rdx (H 11) 4 v1 = some x4 := zh14
        suffices e : Ev (d + 1, 0, 0, 155, 71, [.val (.ref 768), .val (.ref 256), .val (.ref 512), .val (.int v1)], [.int x4, .ref 771], (126, 120, L, [Y, T, H2, H, RA, RB, ST, NS, I0, I1, I2, BO_2, FI, RG, GU, PU, MA, MN, MS, OT, SC], [r0, r1, r2, r3, w, 256, r6, r7, r8], Lg)) o from ev_opt (fun x4 => (d + 1, 0, 0, 155, 71, [.val (.ref 768), .val (.ref 256), .val (.ref 512), .val (.int v1)], [.int x4, .ref 771], (126, 120, L, [Y, T, H2, H, RA, RB, ST, NS, I0, I1, I2, BO_2, FI, RG, GU, PU, MA, MN, MS, OT, SC], [r0, r1, r2, r3, w, 256, r6, r7, r8], Lg))) 6 zh14 e (fun n => Eq.refl _)
        obtain ⟨x5, zh15, zh8⟩ := bnd zh8
        have zh15 : f_Y_roomOf x4 = some x5 := zh15
        have ze16 := R_f_Y_roomOf_0 (d + 0) Y T H2 H RA RB ST NS I0 I1 I2 BO_2 FI RG GU PU MA MN MS OT SC r0 r1 r2 r3 w 256 r6 r7 r8 L Lg x4 zh15
        suffices e : Ev (d + 1, 0, 0, 155, 74, [.val (.ref 768), .val (.ref 256), .val (.ref 512), .val (.int v1)], [.int x5, .ref 771], (126, 120, L, [Y, T, H2, H, RA, RB, ST, NS, I0, I1, I2, BO_2, FI, RG, GU, PU, MA, MN, MS, OT, SC], [r0, r1, r2, r3, w, 256, r6, r7, r8], Lg)) o from ev_call (fun v μ => (d + 1, 0, 0, 155, 74, [.val (.ref 768), .val (.ref 256), .val (.ref 512), .val (.int v1)], v.toList ++ [.ref 771], μ)) 1 ze16 e (fun n => Eq.refl _)
        obtain ⟨x6, zh17, zh8⟩ := bnd zh8
        have zh17 : rdx (BO_2 3) 3 x5 = some x6 := zh17
        suffices e : Ev (d + 1, 0, 0, 155, 76, [.val (.ref 768), .val (.ref 256), .val (.ref 512), .val (.int v1)], [.int x6, .int x5, .ref 771], (126, 120, L, [Y, T, H2, H, RA, RB, ST, NS, I0, I1, I2, BO_2, FI, RG, GU, PU, MA, MN, MS, OT, SC], [r0, r1, r2, r3, w, 256, r6, r7, r8], Lg)) o from ev_opt (fun x6 => (d + 1, 0, 0, 155, 76, [.val (.ref 768), .val (.ref 256), .val (.ref 512), .val (.int v1)], [.int x6, .int x5, .ref 771], (126, 120, L, [Y, T, H2, H, RA, RB, ST, NS, I0, I1, I2, BO_2, FI, RG, GU, PU, MA, MN, MS, OT, SC], [r0, r1, r2, r3, w, 256, r6, r7, r8], Lg))) 2 zh17 e (fun n => Eq.refl _)
        obtain ⟨x7, zh18, zh8⟩ := bnd zh8
        have zh18 : rdx (H 11) 4 v1 = some x7 := zh18
        suffices e : Ev (d + 1, 0, 0, 155, 83, [.val (.ref 768), .val (.ref 256), .val (.ref 512), .val (.int v1)], [.int x7, .int 1, .int x6, .int x5, .ref 771], (126, 120, L, [Y, T, H2, H, RA, RB, ST, NS, I0, I1, I2, BO_2, FI, RG, GU, PU, MA, MN, MS, OT, SC], [r0, r1, r2, r3, w, 256, r6, r7, r8], Lg)) o from ev_opt (fun x7 => (d + 1, 0, 0, 155, 83, [.val (.ref 768), .val (.ref 256), .val (.ref 512), .val (.int v1)], [.int x7, .int 1, .int x6, .int x5, .ref 771], (126, 120, L, [Y, T, H2, H, RA, RB, ST, NS, I0, I1, I2, BO_2, FI, RG, GU, PU, MA, MN, MS, OT, SC], [r0, r1, r2, r3, w, 256, r6, r7, r8], Lg))) 5 zh18 e (fun n => Eq.refl _)
        obtain ⟨x8, zh19, zh8⟩ := bnd zh8
        have zh19 : f_Y_hourOf x7 = some x8 := zh19
        have ze20 := R_f_Y_hourOf_0 (d + 0) Y T H2 H RA RB ST NS I0 I1 I2 BO_2 FI RG GU PU MA MN MS OT SC r0 r1 r2 r3 w 256 r6 r7 r8 L Lg x7 zh19
        suffices e : Ev (d + 1, 0, 0, 155, 86, [.val (.ref 768), .val (.ref 256), .val (.ref 512), .val (.int v1)], [.int x8, .int 1, .int x6, .int x5, .ref 771], (126, 120, L, [Y, T, H2, H, RA, RB, ST, NS, I0, I1, I2, BO_2, FI, RG, GU, PU, MA, MN, MS, OT, SC], [r0, r1, r2, r3, w, 256, r6, r7, r8], Lg)) o from ev_call (fun v μ => (d + 1, 0, 0, 155, 86, [.val (.ref 768), .val (.ref 256), .val (.ref 512), .val (.int v1)], v.toList ++ [.int 1, .int x6, .int x5, .ref 771], μ)) 1 ze20 e (fun n => Eq.refl _)
        obtain ⟨j9, zh21, zh8⟩ := bnd zh8
        have zh21 : ixx 3 x5 = some j9 := zh21
        suffices e : Ev (d + 1, 0, 0, 155, 89, [.val (.ref 768), .val (.ref 256), .val (.ref 512), .val (.int v1)], [], (126, 120, L, [Y, T, H2, H, RA, RB, ST, NS, I0, I1, I2, (u2 BO_2 3 j9 (x6 ||| (a_shl 1 x8))), FI, RG, GU, PU, MA, MN, MS, OT, SC], [r0, r1, r2, r3, w, 256, r6, r7, r8], Lg)) o from ev_opt (fun j9 => (d + 1, 0, 0, 155, 89, [.val (.ref 768), .val (.ref 256), .val (.ref 512), .val (.int v1)], [], (126, 120, L, [Y, T, H2, H, RA, RB, ST, NS, I0, I1, I2, (u2 BO_2 3 j9 (x6 ||| (a_shl 1 x8))), FI, RG, GU, PU, MA, MN, MS, OT, SC], [r0, r1, r2, r3, w, 256, r6, r7, r8], Lg))) 3 zh21 e (fun n => Eq.refl _)
        exact ev_b 2 (zi6 _ (Option.some.inj zh8).symm ()) (fun n => Eq.refl _)
  · skip
    intro s10
    have ze22 := Option.some.inj h
    subst ze22
    exact ev_rete 1 ho (fun n => Eq.refl _)
set_option maxRecDepth 1000000 in
set_option maxHeartbeats 4000000 in
theorem R_f_Y_lookNow_2 (d : Nat) (Y T H2 H RU RV ST NS I0 I1 I2 BO FI RG GU PU MA MN MS OT SC : Nat → Nat → Int32) (w r5 : Nat) (L : Nat) (Lg : Int64) {r : (Nat → Nat → Int32)} (h : f_Y_lookNow H NS BO = some r) : Ev (d + 2, 0, 0, 342, 0, [.val (.ref 64)], [], (126, 120, L, [Y, T, H2, H, RU, RV, ST, NS, I0, I1, I2, BO, FI, RG, GU, PU, MA, MN, MS, OT, SC], [256, 192, 320, 384, w, r5, 576, 640, 704], Lg)) ((0, some (.ref 768), (126, 120, L, [Y, T, H2, H, RU, RV, ST, NS, I0, I1, I2, r, FI, RG, GU, PU, MA, MN, MS, OT, SC], [256, 192, 320, 384, w, 256, 576, 640, 704], Lg)) : AOut) := by
  suffices key : ∀ o : AOut, ((0, some (.ref 768), (126, 120, L, [Y, T, H2, H, RU, RV, ST, NS, I0, I1, I2, r, FI, RG, GU, PU, MA, MN, MS, OT, SC], [256, 192, 320, 384, w, 256, 576, 640, 704], Lg)) : AOut) = o → Ev (d + 2, 0, 0, 342, 0, [.val (.ref 64)], [], (126, 120, L, [Y, T, H2, H, RU, RV, ST, NS, I0, I1, I2, BO, FI, RG, GU, PU, MA, MN, MS, OT, SC], [256, 192, 320, 384, w, r5, 576, 640, 704], Lg)) o from key _ rfl
  intro o ho
  suffices e : Ev (d + 2, 0, 0, 342, 8, [.val (.ref 64)], [.ref 256, .ref 768], (126, 120, L, [Y, T, H2, H, RU, RV, ST, NS, I0, I1, I2, BO, FI, RG, GU, PU, MA, MN, MS, OT, SC], [256, 192, 320, 384, w, r5, 576, 640, 704], Lg)) o from ev_b 4 e (fun n => Eq.refl _)
  obtain ⟨BO_1, zh1, h⟩ := bnd h
  have zh1 : f_Board_load H NS BO = some BO_1 := zh1
  have ze2 := R_f_Board_load_1 (d + 0) Y T H2 H RU RV ST NS I0 I1 I2 BO FI RG GU PU MA MN MS OT SC 256 192 320 384 w r5 576 640 704 L Lg zh1
  suffices e : Ev (d + 2, 0, 0, 342, 15, [.val (.ref 64)], [], (126, 120, L, [Y, T, H2, H, RU, RV, ST, NS, I0, I1, I2, BO_1, FI, RG, GU, PU, MA, MN, MS, OT, SC], [256, 192, 320, 384, w, 256, 576, 640, 704], Lg)) o from ev_call (fun v μ => (d + 2, 0, 0, 342, 15, [.val (.ref 64)], v.toList ++ [], μ)) 3 ze2 e (fun n => Eq.refl _)
  have ze3 := Option.some.inj h
  subst ze3
  exact ev_rete 3 ho (fun n => Eq.refl _)
set_option maxRecDepth 1000000 in
set_option maxHeartbeats 4000000 in
theorem R_f_Board_placed_1 (d : Nat) (Y T H2 H RA RB ST NS I0 I1 I2 BO FI RG GU PU MA MN MS OT SC : Nat → Nat → Int32) (r0 r1 r2 r3 w r6 r7 r8 : Nat) (L : Nat) (Lg : Int64) {r : Int32} (h : f_Board_placed H BO = some r) : Ev (d + 0, 0, 0, 156, 0, [.val (.ref 768), .val a_unk, .val a_unk], [], (126, 120, L, [Y, T, H2, H, RA, RB, ST, NS, I0, I1, I2, BO, FI, RG, GU, PU, MA, MN, MS, OT, SC], [r0, r1, r2, r3, w, 256, r6, r7, r8], Lg)) ((0, some (.int r), (126, 120, L, [Y, T, H2, H, RA, RB, ST, NS, I0, I1, I2, BO, FI, RG, GU, PU, MA, MN, MS, OT, SC], [r0, r1, r2, r3, w, 256, r6, r7, r8], Lg)) : AOut) := by
  suffices key : ∀ o : AOut, ((0, some (.int r), (126, 120, L, [Y, T, H2, H, RA, RB, ST, NS, I0, I1, I2, BO, FI, RG, GU, PU, MA, MN, MS, OT, SC], [r0, r1, r2, r3, w, 256, r6, r7, r8], Lg)) : AOut) = o → Ev (d + 0, 0, 0, 156, 0, [.val (.ref 768), .val a_unk, .val a_unk], [], (126, 120, L, [Y, T, H2, H, RA, RB, ST, NS, I0, I1, I2, BO, FI, RG, GU, PU, MA, MN, MS, OT, SC], [r0, r1, r2, r3, w, 256, r6, r7, r8], Lg)) o from key _ rfl
  intro o ho
  obtain ⟨v4, zh2, h⟩ := bnd h
  suffices e : Ev (d + 0, 0, 0, 156, 4, [.val (.ref 768), .val (.int 0), .val (.int 0)], [], (126, 120, L, [Y, T, H2, H, RA, RB, ST, NS, I0, I1, I2, BO, FI, RG, GU, PU, MA, MN, MS, OT, SC], [r0, r1, r2, r3, w, 256, r6, r7, r8], Lg)) o from ev_b 4 e (fun n => Eq.refl _)
  refine ev_loop (δ := Unit) (fun a j => (d + 0, 0, 0, 156, 4, [.val (.ref 768), .val (.int a.1), .val (.int a.2)], [], (126, 120, L, [Y, T, H2, H, RA, RB, ST, NS, I0, I1, I2, BO, FI, RG, GU, PU, MA, MN, MS, OT, SC], [r0, r1, r2, r3, w, 256, r6, r7, r8], Lg))) (fun b => ∀ s5 : Value, Ev (d + 0, 0, 0, 156, 37, [.val (.ref 768), .val (.int b), .val s5], [], (126, 120, L, [Y, T, H2, H, RA, RB, ST, NS, I0, I1, I2, BO, FI, RG, GU, PU, MA, MN, MS, OT, SC], [r0, r1, r2, r3, w, 256, r6, r7, r8], Lg)) o) ?_ a_F (0, 0) v4 zh2 ?_ ()
  · rintro ⟨v1, v2⟩ zr6 zh5 zi3 zx4 ⟨⟩
    have zh5 : f_Board_placed_l4 H BO v1 v2 = some zr6 := zh5
    suffices e : Ev (d + 0, 0, 0, 156, 9, [.val (.ref 768), .val (.int v1), .val (.int v2)], [.ref 256, .int v2], (126, 120, L, [Y, T, H2, H, RA, RB, ST, NS, I0, I1, I2, BO, FI, RG, GU, PU, MA, MN, MS, OT, SC], [r0, r1, r2, r3, w, 256, r6, r7, r8], Lg)) o from ev_b 3 e (fun n => Eq.refl _)
    by_cases zc7 : (H 0 3) ≤ v2
    · have zh5 := itp zh5 zc7
      suffices e : Ev (d + 0, 0, 0, 156, 37, [.val (.ref 768), .val (.int v1), .val (.int v2)], [], (126, 120, L, [Y, T, H2, H, RA, RB, ST, NS, I0, I1, I2, BO, FI, RG, GU, PU, MA, MN, MS, OT, SC], [r0, r1, r2, r3, w, 256, r6, r7, r8], Lg)) o from ev_t (c := (H 0 3) ≤ v2) _ _ 2  zc7 e (fun n => Eq.refl _)
      exact ev_b 0 (zx4 _ (Option.some.inj zh5).symm (.int v2)) (fun n => Eq.refl _)
    · have zh5 := itn zh5 zc7
      suffices e : Ev (d + 0, 0, 0, 156, 15, [.val (.ref 768), .val (.int v1), .val (.int v2)], [], (126, 120, L, [Y, T, H2, H, RA, RB, ST, NS, I0, I1, I2, BO, FI, RG, GU, PU, MA, MN, MS, OT, SC], [r0, r1, r2, r3, w, 256, r6, r7, r8], Lg)) o from ev_f (c := (H 0 3) ≤ v2) _ _ 2  zc7 e (fun n => Eq.refl _)
      obtain ⟨x3, zh8, zh5⟩ := bnd zh5
      have zh8 : rdx (BO 1) 10 v2 = some x3 := zh8
      suffices e : Ev (d + 0, 0, 0, 156, 21, [.val (.ref 768), .val (.int v1), .val (.int v2)], [.int x3], (126, 120, L, [Y, T, H2, H, RA, RB, ST, NS, I0, I1, I2, BO, FI, RG, GU, PU, MA, MN, MS, OT, SC], [r0, r1, r2, r3, w, 256, r6, r7, r8], Lg)) o from ev_opt (fun x3 => (d + 0, 0, 0, 156, 21, [.val (.ref 768), .val (.int v1), .val (.int v2)], [.int x3], (126, 120, L, [Y, T, H2, H, RA, RB, ST, NS, I0, I1, I2, BO, FI, RG, GU, PU, MA, MN, MS, OT, SC], [r0, r1, r2, r3, w, 256, r6, r7, r8], Lg))) 4 zh8 e (fun n => Eq.refl _)
      by_cases zc9 : x3 = (-1)
      · have zh5 := itp zh5 zc9
        suffices e : Ev (d + 0, 0, 0, 156, 31, [.val (.ref 768), .val (.int v1), .val (.int v2)], [], (126, 120, L, [Y, T, H2, H, RA, RB, ST, NS, I0, I1, I2, BO, FI, RG, GU, PU, MA, MN, MS, OT, SC], [r0, r1, r2, r3, w, 256, r6, r7, r8], Lg)) o from ev_t (c := x3 = (-1)) _ _ 2  zc9 e (fun n => Eq.refl _)
        exact ev_b 2 (zi3 _ (Option.some.inj zh5).symm ()) (fun n => Eq.refl _)
      · have zh5 := itn zh5 zc9
        suffices e : Ev (d + 0, 0, 0, 156, 25, [.val (.ref 768), .val (.int v1), .val (.int v2)], [], (126, 120, L, [Y, T, H2, H, RA, RB, ST, NS, I0, I1, I2, BO, FI, RG, GU, PU, MA, MN, MS, OT, SC], [r0, r1, r2, r3, w, 256, r6, r7, r8], Lg)) o from ev_f (c := x3 = (-1)) _ _ 2  zc9 e (fun n => Eq.refl _)
        exact ev_b 8 (zi3 _ (Option.some.inj zh5).symm ()) (fun n => Eq.refl _)
  · skip
    intro s5
    have ze10 := Option.some.inj h
    subst ze10
    exact ev_rete 2 ho (fun n => Eq.refl _)
set_option maxRecDepth 1000000 in
set_option maxHeartbeats 4000000 in
theorem R_f_Y_told_2 (d : Nat) (Y T H2 H RU RV ST NS I0 I1 I2 BO FI RG GU PU MA MN MS OT SC : Nat → Nat → Int32) (w r5 : Nat) (L : Nat) (Lg : Int64) (p1 : Int32) {r : Nat × Int32 × (Nat → Nat → Int32) × (Nat → Nat → Int32) × Nat} (h : f_Y_told Y H NS BO r5 256 p1 = some r) : Ev (d + 3, 1, 8, 288, 0, [.val (.ref 64), .val (.int p1)], [], (126, 120, L, [Y, T, H2, H, RU, RV, ST, NS, I0, I1, I2, BO, FI, RG, GU, PU, MA, MN, MS, OT, SC], [256, 192, 320, 384, w, r5, 576, 640, 704], Lg)) ((r.1, a_ov r.1 (.int r.2.1), (126, 120, L, [r.2.2.1, T, H2, H, RU, RV, ST, NS, I0, I1, I2, r.2.2.2.1, FI, RG, GU, PU, MA, MN, MS, OT, SC], [256, 192, 320, 384, w, r.2.2.2.2, 576, 640, 704], Lg)) : AOut) := by
  suffices key : ∀ o : AOut, ((r.1, a_ov r.1 (.int r.2.1), (126, 120, L, [r.2.2.1, T, H2, H, RU, RV, ST, NS, I0, I1, I2, r.2.2.2.1, FI, RG, GU, PU, MA, MN, MS, OT, SC], [256, 192, 320, 384, w, r.2.2.2.2, 576, 640, 704], Lg)) : AOut) = o → Ev (d + 3, 1, 8, 288, 0, [.val (.ref 64), .val (.int p1)], [], (126, 120, L, [Y, T, H2, H, RU, RV, ST, NS, I0, I1, I2, BO, FI, RG, GU, PU, MA, MN, MS, OT, SC], [256, 192, 320, 384, w, r5, 576, 640, 704], Lg)) o from key _ rfl
  intro o ho
  obtain ⟨zt1, zh2, h⟩ := bnd h
  have zj3 : ∀ (v1 : Int32), v1 = zt1 → Ev (d + 3, 1, 8, 288, 16, [.val (.ref 64), .val (.int p1)], [.int v1, .ref 64], (126, 120, L, [Y, T, H2, H, RU, RV, ST, NS, I0, I1, I2, BO, FI, RG, GU, PU, MA, MN, MS, OT, SC], [256, 192, 320, 384, w, r5, 576, 640, 704], Lg)) o := by
    intro v1 ze4
    subst ze4
    obtain ⟨⟨q2, Y_3⟩, zh5, h⟩ := bnd h
    have zh5 : f_Y_refuseUnless Y v1 = some (q2, Y_3) := zh5
    have ze6 := R_f_Y_refuseUnless_2 (d + 2) Y T H2 H RU RV ST NS I0 I1 I2 BO FI RG GU PU MA MN MS OT SC w r5 L Lg v1 zh5
    cases q2 with
    | zero =>
      have h := itp h rfl
      suffices e : Ev (d + 3, 0, 0, 288, 19, [.val (.ref 64), .val (.int p1)], [], (126, 120, L, [Y_3, T, H2, H, RU, RV, ST, NS, I0, I1, I2, BO, FI, RG, GU, PU, MA, MN, MS, OT, SC], [256, 192, 320, 384, w, r5, 576, 640, 704], Lg)) o from ev_call (fun v μ => (d + 3, 0, 0, 288, 19, [.val (.ref 64), .val (.int p1)], v.toList ++ [], μ)) 1 ze6 e (fun n => Eq.refl _)
      by_cases zc7 : p1 = 0
      · have h := itp h zc7
        suffices e : Ev (d + 3, 0, 0, 288, 60, [.val (.ref 64), .val (.int p1)], [], (126, 120, L, [Y_3, T, H2, H, RU, RV, ST, NS, I0, I1, I2, BO, FI, RG, GU, PU, MA, MN, MS, OT, SC], [256, 192, 320, 384, w, r5, 576, 640, 704], Lg)) o from ev_sw [((0 : Int32), 60), ((1 : Int32), 68), ((2 : Int32), 76), ((3 : Int32), 84), ((4 : Int32), 92), ((5 : Int32), 100)] p1 (fun tt => (d + 3, 0, 0, 288, tt, [.val (.ref 64), .val (.int p1)], [], (126, 120, L, [Y_3, T, H2, H, RU, RV, ST, NS, I0, I1, I2, BO, FI, RG, GU, PU, MA, MN, MS, OT, SC], [256, 192, 320, 384, w, r5, 576, 640, 704], Lg))) 111 60 2 (fun f => by simp only [a_sw, if_pos zc7]) e (fun n => Eq.refl _)
        suffices e : Ev (d + 3, 0, 0, 288, 64, [.val (.ref 64), .val (.int p1)], [.ref 256], (126, 120, L, [Y_3, T, H2, H, RU, RV, ST, NS, I0, I1, I2, BO, FI, RG, GU, PU, MA, MN, MS, OT, SC], [256, 192, 320, 384, w, r5, 576, 640, 704], Lg)) o from ev_b 2 e (fun n => Eq.refl _)
        have ze8 := Option.some.inj h
        subst ze8
        exact ev_rete 2 ho (fun n => Eq.refl _)
      have h := itn h zc7
      by_cases zc9 : p1 = 1
      · have h := itp h zc9
        suffices e : Ev (d + 3, 0, 0, 288, 68, [.val (.ref 64), .val (.int p1)], [], (126, 120, L, [Y_3, T, H2, H, RU, RV, ST, NS, I0, I1, I2, BO, FI, RG, GU, PU, MA, MN, MS, OT, SC], [256, 192, 320, 384, w, r5, 576, 640, 704], Lg)) o from ev_sw [((0 : Int32), 60), ((1 : Int32), 68), ((2 : Int32), 76), ((3 : Int32), 84), ((4 : Int32), 92), ((5 : Int32), 100)] p1 (fun tt => (d + 3, 0, 0, 288, tt, [.val (.ref 64), .val (.int p1)], [], (126, 120, L, [Y_3, T, H2, H, RU, RV, ST, NS, I0, I1, I2, BO, FI, RG, GU, PU, MA, MN, MS, OT, SC], [256, 192, 320, 384, w, r5, 576, 640, 704], Lg))) 111 68 2 (fun f => by simp only [a_sw, if_neg zc7, if_pos zc9]) e (fun n => Eq.refl _)
        suffices e : Ev (d + 3, 0, 0, 288, 72, [.val (.ref 64), .val (.int p1)], [.ref 256], (126, 120, L, [Y_3, T, H2, H, RU, RV, ST, NS, I0, I1, I2, BO, FI, RG, GU, PU, MA, MN, MS, OT, SC], [256, 192, 320, 384, w, r5, 576, 640, 704], Lg)) o from ev_b 2 e (fun n => Eq.refl _)
        have ze10 := Option.some.inj h
        subst ze10
        exact ev_rete 2 ho (fun n => Eq.refl _)
      have h := itn h zc9
      by_cases zc11 : p1 = 2
      · have h := itp h zc11
        suffices e : Ev (d + 3, 0, 0, 288, 76, [.val (.ref 64), .val (.int p1)], [], (126, 120, L, [Y_3, T, H2, H, RU, RV, ST, NS, I0, I1, I2, BO, FI, RG, GU, PU, MA, MN, MS, OT, SC], [256, 192, 320, 384, w, r5, 576, 640, 704], Lg)) o from ev_sw [((0 : Int32), 60), ((1 : Int32), 68), ((2 : Int32), 76), ((3 : Int32), 84), ((4 : Int32), 92), ((5 : Int32), 100)] p1 (fun tt => (d + 3, 0, 0, 288, tt, [.val (.ref 64), .val (.int p1)], [], (126, 120, L, [Y_3, T, H2, H, RU, RV, ST, NS, I0, I1, I2, BO, FI, RG, GU, PU, MA, MN, MS, OT, SC], [256, 192, 320, 384, w, r5, 576, 640, 704], Lg))) 111 76 2 (fun f => by simp only [a_sw, if_neg zc7, if_neg zc9, if_pos zc11]) e (fun n => Eq.refl _)
        suffices e : Ev (d + 3, 0, 0, 288, 80, [.val (.ref 64), .val (.int p1)], [.ref 256], (126, 120, L, [Y_3, T, H2, H, RU, RV, ST, NS, I0, I1, I2, BO, FI, RG, GU, PU, MA, MN, MS, OT, SC], [256, 192, 320, 384, w, r5, 576, 640, 704], Lg)) o from ev_b 2 e (fun n => Eq.refl _)
        have ze12 := Option.some.inj h
        subst ze12
        exact ev_rete 2 ho (fun n => Eq.refl _)
      have h := itn h zc11
      by_cases zc13 : p1 = 3
      · have h := itp h zc13
        suffices e : Ev (d + 3, 0, 0, 288, 84, [.val (.ref 64), .val (.int p1)], [], (126, 120, L, [Y_3, T, H2, H, RU, RV, ST, NS, I0, I1, I2, BO, FI, RG, GU, PU, MA, MN, MS, OT, SC], [256, 192, 320, 384, w, r5, 576, 640, 704], Lg)) o from ev_sw [((0 : Int32), 60), ((1 : Int32), 68), ((2 : Int32), 76), ((3 : Int32), 84), ((4 : Int32), 92), ((5 : Int32), 100)] p1 (fun tt => (d + 3, 0, 0, 288, tt, [.val (.ref 64), .val (.int p1)], [], (126, 120, L, [Y_3, T, H2, H, RU, RV, ST, NS, I0, I1, I2, BO, FI, RG, GU, PU, MA, MN, MS, OT, SC], [256, 192, 320, 384, w, r5, 576, 640, 704], Lg))) 111 84 2 (fun f => by simp only [a_sw, if_neg zc7, if_neg zc9, if_neg zc11, if_pos zc13]) e (fun n => Eq.refl _)
        suffices e : Ev (d + 3, 0, 0, 288, 88, [.val (.ref 64), .val (.int p1)], [.ref 256], (126, 120, L, [Y_3, T, H2, H, RU, RV, ST, NS, I0, I1, I2, BO, FI, RG, GU, PU, MA, MN, MS, OT, SC], [256, 192, 320, 384, w, r5, 576, 640, 704], Lg)) o from ev_b 2 e (fun n => Eq.refl _)
        have ze14 := Option.some.inj h
        subst ze14
        exact ev_rete 2 ho (fun n => Eq.refl _)
      have h := itn h zc13
      by_cases zc15 : p1 = 4
      · have h := itp h zc15
        suffices e : Ev (d + 3, 0, 0, 288, 92, [.val (.ref 64), .val (.int p1)], [], (126, 120, L, [Y_3, T, H2, H, RU, RV, ST, NS, I0, I1, I2, BO, FI, RG, GU, PU, MA, MN, MS, OT, SC], [256, 192, 320, 384, w, r5, 576, 640, 704], Lg)) o from ev_sw [((0 : Int32), 60), ((1 : Int32), 68), ((2 : Int32), 76), ((3 : Int32), 84), ((4 : Int32), 92), ((5 : Int32), 100)] p1 (fun tt => (d + 3, 0, 0, 288, tt, [.val (.ref 64), .val (.int p1)], [], (126, 120, L, [Y_3, T, H2, H, RU, RV, ST, NS, I0, I1, I2, BO, FI, RG, GU, PU, MA, MN, MS, OT, SC], [256, 192, 320, 384, w, r5, 576, 640, 704], Lg))) 111 92 2 (fun f => by simp only [a_sw, if_neg zc7, if_neg zc9, if_neg zc11, if_neg zc13, if_pos zc15]) e (fun n => Eq.refl _)
        suffices e : Ev (d + 3, 0, 0, 288, 96, [.val (.ref 64), .val (.int p1)], [.ref 256], (126, 120, L, [Y_3, T, H2, H, RU, RV, ST, NS, I0, I1, I2, BO, FI, RG, GU, PU, MA, MN, MS, OT, SC], [256, 192, 320, 384, w, r5, 576, 640, 704], Lg)) o from ev_b 2 e (fun n => Eq.refl _)
        have ze16 := Option.some.inj h
        subst ze16
        exact ev_rete 2 ho (fun n => Eq.refl _)
      have h := itn h zc15
      by_cases zc17 : p1 = 5
      · have h := itp h zc17
        suffices e : Ev (d + 3, 0, 0, 288, 100, [.val (.ref 64), .val (.int p1)], [], (126, 120, L, [Y_3, T, H2, H, RU, RV, ST, NS, I0, I1, I2, BO, FI, RG, GU, PU, MA, MN, MS, OT, SC], [256, 192, 320, 384, w, r5, 576, 640, 704], Lg)) o from ev_sw [((0 : Int32), 60), ((1 : Int32), 68), ((2 : Int32), 76), ((3 : Int32), 84), ((4 : Int32), 92), ((5 : Int32), 100)] p1 (fun tt => (d + 3, 0, 0, 288, tt, [.val (.ref 64), .val (.int p1)], [], (126, 120, L, [Y_3, T, H2, H, RU, RV, ST, NS, I0, I1, I2, BO, FI, RG, GU, PU, MA, MN, MS, OT, SC], [256, 192, 320, 384, w, r5, 576, 640, 704], Lg))) 111 100 2 (fun f => by simp only [a_sw, if_neg zc7, if_neg zc9, if_neg zc11, if_neg zc13, if_neg zc15, if_pos zc17]) e (fun n => Eq.refl _)
        have ze18 := Option.some.inj h
        subst ze18
        exact ev_rete 5 ho (fun n => Eq.refl _)
      have h := itn h zc17
      suffices e : Ev (d + 3, 0, 0, 288, 111, [.val (.ref 64), .val (.int p1)], [], (126, 120, L, [Y_3, T, H2, H, RU, RV, ST, NS, I0, I1, I2, BO, FI, RG, GU, PU, MA, MN, MS, OT, SC], [256, 192, 320, 384, w, r5, 576, 640, 704], Lg)) o from ev_sw [((0 : Int32), 60), ((1 : Int32), 68), ((2 : Int32), 76), ((3 : Int32), 84), ((4 : Int32), 92), ((5 : Int32), 100)] p1 (fun tt => (d + 3, 0, 0, 288, tt, [.val (.ref 64), .val (.int p1)], [], (126, 120, L, [Y_3, T, H2, H, RU, RV, ST, NS, I0, I1, I2, BO, FI, RG, GU, PU, MA, MN, MS, OT, SC], [256, 192, 320, 384, w, r5, 576, 640, 704], Lg))) 111 111 2 (fun f => by simp only [a_sw, if_neg zc7, if_neg zc9, if_neg zc11, if_neg zc13, if_neg zc15, if_neg zc17]) e (fun n => Eq.refl _)
      suffices e : Ev (d + 3, 0, 0, 288, 115, [.val (.ref 64), .val (.int p1)], [.ref 256], (126, 120, L, [Y_3, T, H2, H, RU, RV, ST, NS, I0, I1, I2, BO, FI, RG, GU, PU, MA, MN, MS, OT, SC], [256, 192, 320, 384, w, r5, 576, 640, 704], Lg)) o from ev_b 2 e (fun n => Eq.refl _)
      obtain ⟨BO_5, zh19, h⟩ := bnd h
      have zh19 : f_Y_lookNow H NS BO = some BO_5 := zh19
      have ze20 := R_f_Y_lookNow_2 (d + 0) Y_3 T H2 H RU RV ST NS I0 I1 I2 BO FI RG GU PU MA MN MS OT SC w r5 L Lg zh19
      suffices e : Ev (d + 3, 0, 0, 288, 122, [.val (.ref 64), .val (.int p1)], [.ref 768, .int (H 0 3)], (126, 120, L, [Y_3, T, H2, H, RU, RV, ST, NS, I0, I1, I2, BO_5, FI, RG, GU, PU, MA, MN, MS, OT, SC], [256, 192, 320, 384, w, 256, 576, 640, 704], Lg)) o from ev_call (fun v μ => (d + 3, 0, 0, 288, 122, [.val (.ref 64), .val (.int p1)], v.toList ++ [.int (H 0 3)], μ)) 3 ze20 e (fun n => Eq.refl _)
      obtain ⟨x6, zh21, h⟩ := bnd h
      have zh21 : f_Board_placed H BO_5 = some x6 := zh21
      have ze22 := R_f_Board_placed_1 (d + 2) Y_3 T H2 H RU RV ST NS I0 I1 I2 BO_5 FI RG GU PU MA MN MS OT SC 256 192 320 384 w 576 640 704 L Lg zh21
      suffices e : Ev (d + 3, 0, 0, 288, 125, [.val (.ref 64), .val (.int p1)], [.int x6, .int (H 0 3)], (126, 120, L, [Y_3, T, H2, H, RU, RV, ST, NS, I0, I1, I2, BO_5, FI, RG, GU, PU, MA, MN, MS, OT, SC], [256, 192, 320, 384, w, 256, 576, 640, 704], Lg)) o from ev_call (fun v μ => (d + 3, 0, 0, 288, 125, [.val (.ref 64), .val (.int p1)], v.toList ++ [.int (H 0 3)], μ)) 1 ze22 e (fun n => Eq.refl _)
      obtain ⟨x7, zh23, h⟩ := bnd h
      have zh23 : f_Integer_bitCount x6 = some x7 := zh23
      have ze24 := R_f_Integer_bitCount_0 (d + 2) Y_3 T H2 H RU RV ST NS I0 I1 I2 BO_5 FI RG GU PU MA MN MS OT SC 256 192 320 384 w 256 576 640 704 L Lg x6 zh23
      suffices e : Ev (d + 3, 0, 0, 288, 128, [.val (.ref 64), .val (.int p1)], [.int x7, .int (H 0 3)], (126, 120, L, [Y_3, T, H2, H, RU, RV, ST, NS, I0, I1, I2, BO_5, FI, RG, GU, PU, MA, MN, MS, OT, SC], [256, 192, 320, 384, w, 256, 576, 640, 704], Lg)) o from ev_call (fun v μ => (d + 3, 0, 0, 288, 128, [.val (.ref 64), .val (.int p1)], v.toList ++ [.int (H 0 3)], μ)) 1 ze24 e (fun n => Eq.refl _)
      have ze25 := Option.some.inj h
      subst ze25
      exact ev_rete 2 ho (fun n => Eq.refl _)
    | succ q2 =>
      have h := itn h (Nat.succ_ne_zero q2)
      have ze26 := Option.some.inj h
      subst ze26
      subst ho
      exact ev_thr (fun v μ => (d + 3, 0, 0, 288, 19, [.val (.ref 64), .val (.int p1)], v.toList ++ [], μ)) 1 ze6 (fun n => Eq.refl _) (fun n => rfl)
  obtain ⟨zt27, zh28, zh2⟩ := bnd zh2
  have zj29 : zt27 = .inl () → Ev (d + 3, 1, 8, 288, 15, [.val (.ref 64), .val (.int p1)], [.ref 64], (126, 120, L, [Y, T, H2, H, RU, RV, ST, NS, I0, I1, I2, BO, FI, RG, GU, PU, MA, MN, MS, OT, SC], [256, 192, 320, 384, w, r5, 576, 640, 704], Lg)) o := by
    intro ze30
    have zh2 := sum_l zh2 ze30
    exact ev_b 1 (zj3 0 (Option.some.inj zh2) ) (fun n => Eq.refl _)
  by_cases zc31 : p1 < 0
  · have zh28 := itp zh28 zc31
    suffices e : Ev (d + 3, 1, 8, 288, 15, [.val (.ref 64), .val (.int p1)], [.ref 64], (126, 120, L, [Y, T, H2, H, RU, RV, ST, NS, I0, I1, I2, BO, FI, RG, GU, PU, MA, MN, MS, OT, SC], [256, 192, 320, 384, w, r5, 576, 640, 704], Lg)) o from ev_t (c := p1 < 0) _ _ 3  zc31 e (fun n => Eq.refl _)
    exact ev_b 0 (zj29  (Option.some.inj zh28).symm ) (fun n => Eq.refl _)
  · have zh28 := itn zh28 zc31
    suffices e : Ev (d + 3, 1, 8, 288, 5, [.val (.ref 64), .val (.int p1)], [.ref 64], (126, 120, L, [Y, T, H2, H, RU, RV, ST, NS, I0, I1, I2, BO, FI, RG, GU, PU, MA, MN, MS, OT, SC], [256, 192, 320, 384, w, r5, 576, 640, 704], Lg)) o from ev_f (c := p1 < 0) _ _ 3  zc31 e (fun n => Eq.refl _)
    by_cases zc32 : 6 < p1
    · have zh28 := itp zh28 zc32
      suffices e : Ev (d + 3, 1, 8, 288, 15, [.val (.ref 64), .val (.int p1)], [.ref 64], (126, 120, L, [Y, T, H2, H, RU, RV, ST, NS, I0, I1, I2, BO, FI, RG, GU, PU, MA, MN, MS, OT, SC], [256, 192, 320, 384, w, r5, 576, 640, 704], Lg)) o from ev_t (c := 6 < p1) _ _ 3  zc32 e (fun n => Eq.refl _)
      exact ev_b 0 (zj29  (Option.some.inj zh28).symm ) (fun n => Eq.refl _)
    · have zh28 := itn zh28 zc32
      suffices e : Ev (d + 3, 1, 8, 288, 11, [.val (.ref 64), .val (.int p1)], [.ref 64], (126, 120, L, [Y, T, H2, H, RU, RV, ST, NS, I0, I1, I2, BO, FI, RG, GU, PU, MA, MN, MS, OT, SC], [256, 192, 320, 384, w, r5, 576, 640, 704], Lg)) o from ev_f (c := 6 < p1) _ _ 3  zc32 e (fun n => Eq.refl _)
      have zh33 := sum_r zh2 (Option.some.inj zh28).symm
      exact ev_b 2 (zj3 1 (Option.some.inj zh33) ) (fun n => Eq.refl _)
set_option maxRecDepth 1000000 in
set_option maxHeartbeats 4000000 in
theorem R_f_Y_lookNow_3 (d : Nat) (Y T H2 H RV RU ST NS I0 I1 I2 BO FI RG GU PU MA MN MS OT SC : Nat → Nat → Int32) (w r5 : Nat) (L : Nat) (Lg : Int64) {r : (Nat → Nat → Int32)} (h : f_Y_lookNow H NS BO = some r) : Ev (d + 2, 0, 0, 342, 0, [.val (.ref 64)], [], (126, 120, L, [Y, T, H2, H, RV, RU, ST, NS, I0, I1, I2, BO, FI, RG, GU, PU, MA, MN, MS, OT, SC], [256, 192, 384, 320, w, r5, 576, 640, 704], Lg)) ((0, some (.ref 768), (126, 120, L, [Y, T, H2, H, RV, RU, ST, NS, I0, I1, I2, r, FI, RG, GU, PU, MA, MN, MS, OT, SC], [256, 192, 384, 320, w, 256, 576, 640, 704], Lg)) : AOut) := by
  suffices key : ∀ o : AOut, ((0, some (.ref 768), (126, 120, L, [Y, T, H2, H, RV, RU, ST, NS, I0, I1, I2, r, FI, RG, GU, PU, MA, MN, MS, OT, SC], [256, 192, 384, 320, w, 256, 576, 640, 704], Lg)) : AOut) = o → Ev (d + 2, 0, 0, 342, 0, [.val (.ref 64)], [], (126, 120, L, [Y, T, H2, H, RV, RU, ST, NS, I0, I1, I2, BO, FI, RG, GU, PU, MA, MN, MS, OT, SC], [256, 192, 384, 320, w, r5, 576, 640, 704], Lg)) o from key _ rfl
  intro o ho
  suffices e : Ev (d + 2, 0, 0, 342, 8, [.val (.ref 64)], [.ref 256, .ref 768], (126, 120, L, [Y, T, H2, H, RV, RU, ST, NS, I0, I1, I2, BO, FI, RG, GU, PU, MA, MN, MS, OT, SC], [256, 192, 384, 320, w, r5, 576, 640, 704], Lg)) o from ev_b 4 e (fun n => Eq.refl _)
  obtain ⟨BO_1, zh1, h⟩ := bnd h
  have zh1 : f_Board_load H NS BO = some BO_1 := zh1
  have ze2 := R_f_Board_load_1 (d + 0) Y T H2 H RV RU ST NS I0 I1 I2 BO FI RG GU PU MA MN MS OT SC 256 192 384 320 w r5 576 640 704 L Lg zh1
  suffices e : Ev (d + 2, 0, 0, 342, 15, [.val (.ref 64)], [], (126, 120, L, [Y, T, H2, H, RV, RU, ST, NS, I0, I1, I2, BO_1, FI, RG, GU, PU, MA, MN, MS, OT, SC], [256, 192, 384, 320, w, 256, 576, 640, 704], Lg)) o from ev_call (fun v μ => (d + 2, 0, 0, 342, 15, [.val (.ref 64)], v.toList ++ [], μ)) 3 ze2 e (fun n => Eq.refl _)
  have ze3 := Option.some.inj h
  subst ze3
  exact ev_rete 3 ho (fun n => Eq.refl _)
set_option maxRecDepth 1000000 in
set_option maxHeartbeats 4000000 in
theorem R_f_Y_told_3 (d : Nat) (Y T H2 H RV RU ST NS I0 I1 I2 BO FI RG GU PU MA MN MS OT SC : Nat → Nat → Int32) (w r5 : Nat) (L : Nat) (Lg : Int64) (p1 : Int32) {r : Nat × Int32 × (Nat → Nat → Int32) × (Nat → Nat → Int32) × Nat} (h : f_Y_told Y H NS BO r5 256 p1 = some r) : Ev (d + 3, 1, 8, 288, 0, [.val (.ref 64), .val (.int p1)], [], (126, 120, L, [Y, T, H2, H, RV, RU, ST, NS, I0, I1, I2, BO, FI, RG, GU, PU, MA, MN, MS, OT, SC], [256, 192, 384, 320, w, r5, 576, 640, 704], Lg)) ((r.1, a_ov r.1 (.int r.2.1), (126, 120, L, [r.2.2.1, T, H2, H, RV, RU, ST, NS, I0, I1, I2, r.2.2.2.1, FI, RG, GU, PU, MA, MN, MS, OT, SC], [256, 192, 384, 320, w, r.2.2.2.2, 576, 640, 704], Lg)) : AOut) := by
  suffices key : ∀ o : AOut, ((r.1, a_ov r.1 (.int r.2.1), (126, 120, L, [r.2.2.1, T, H2, H, RV, RU, ST, NS, I0, I1, I2, r.2.2.2.1, FI, RG, GU, PU, MA, MN, MS, OT, SC], [256, 192, 384, 320, w, r.2.2.2.2, 576, 640, 704], Lg)) : AOut) = o → Ev (d + 3, 1, 8, 288, 0, [.val (.ref 64), .val (.int p1)], [], (126, 120, L, [Y, T, H2, H, RV, RU, ST, NS, I0, I1, I2, BO, FI, RG, GU, PU, MA, MN, MS, OT, SC], [256, 192, 384, 320, w, r5, 576, 640, 704], Lg)) o from key _ rfl
  intro o ho
  obtain ⟨zt1, zh2, h⟩ := bnd h
  have zj3 : ∀ (v1 : Int32), v1 = zt1 → Ev (d + 3, 1, 8, 288, 16, [.val (.ref 64), .val (.int p1)], [.int v1, .ref 64], (126, 120, L, [Y, T, H2, H, RV, RU, ST, NS, I0, I1, I2, BO, FI, RG, GU, PU, MA, MN, MS, OT, SC], [256, 192, 384, 320, w, r5, 576, 640, 704], Lg)) o := by
    intro v1 ze4
    subst ze4
    obtain ⟨⟨q2, Y_3⟩, zh5, h⟩ := bnd h
    have zh5 : f_Y_refuseUnless Y v1 = some (q2, Y_3) := zh5
    have ze6 := R_f_Y_refuseUnless_3 (d + 2) Y T H2 H RV RU ST NS I0 I1 I2 BO FI RG GU PU MA MN MS OT SC w r5 L Lg v1 zh5
    cases q2 with
    | zero =>
      have h := itp h rfl
      suffices e : Ev (d + 3, 0, 0, 288, 19, [.val (.ref 64), .val (.int p1)], [], (126, 120, L, [Y_3, T, H2, H, RV, RU, ST, NS, I0, I1, I2, BO, FI, RG, GU, PU, MA, MN, MS, OT, SC], [256, 192, 384, 320, w, r5, 576, 640, 704], Lg)) o from ev_call (fun v μ => (d + 3, 0, 0, 288, 19, [.val (.ref 64), .val (.int p1)], v.toList ++ [], μ)) 1 ze6 e (fun n => Eq.refl _)
      by_cases zc7 : p1 = 0
      · have h := itp h zc7
        suffices e : Ev (d + 3, 0, 0, 288, 60, [.val (.ref 64), .val (.int p1)], [], (126, 120, L, [Y_3, T, H2, H, RV, RU, ST, NS, I0, I1, I2, BO, FI, RG, GU, PU, MA, MN, MS, OT, SC], [256, 192, 384, 320, w, r5, 576, 640, 704], Lg)) o from ev_sw [((0 : Int32), 60), ((1 : Int32), 68), ((2 : Int32), 76), ((3 : Int32), 84), ((4 : Int32), 92), ((5 : Int32), 100)] p1 (fun tt => (d + 3, 0, 0, 288, tt, [.val (.ref 64), .val (.int p1)], [], (126, 120, L, [Y_3, T, H2, H, RV, RU, ST, NS, I0, I1, I2, BO, FI, RG, GU, PU, MA, MN, MS, OT, SC], [256, 192, 384, 320, w, r5, 576, 640, 704], Lg))) 111 60 2 (fun f => by simp only [a_sw, if_pos zc7]) e (fun n => Eq.refl _)
        suffices e : Ev (d + 3, 0, 0, 288, 64, [.val (.ref 64), .val (.int p1)], [.ref 256], (126, 120, L, [Y_3, T, H2, H, RV, RU, ST, NS, I0, I1, I2, BO, FI, RG, GU, PU, MA, MN, MS, OT, SC], [256, 192, 384, 320, w, r5, 576, 640, 704], Lg)) o from ev_b 2 e (fun n => Eq.refl _)
        have ze8 := Option.some.inj h
        subst ze8
        exact ev_rete 2 ho (fun n => Eq.refl _)
      have h := itn h zc7
      by_cases zc9 : p1 = 1
      · have h := itp h zc9
        suffices e : Ev (d + 3, 0, 0, 288, 68, [.val (.ref 64), .val (.int p1)], [], (126, 120, L, [Y_3, T, H2, H, RV, RU, ST, NS, I0, I1, I2, BO, FI, RG, GU, PU, MA, MN, MS, OT, SC], [256, 192, 384, 320, w, r5, 576, 640, 704], Lg)) o from ev_sw [((0 : Int32), 60), ((1 : Int32), 68), ((2 : Int32), 76), ((3 : Int32), 84), ((4 : Int32), 92), ((5 : Int32), 100)] p1 (fun tt => (d + 3, 0, 0, 288, tt, [.val (.ref 64), .val (.int p1)], [], (126, 120, L, [Y_3, T, H2, H, RV, RU, ST, NS, I0, I1, I2, BO, FI, RG, GU, PU, MA, MN, MS, OT, SC], [256, 192, 384, 320, w, r5, 576, 640, 704], Lg))) 111 68 2 (fun f => by simp only [a_sw, if_neg zc7, if_pos zc9]) e (fun n => Eq.refl _)
        suffices e : Ev (d + 3, 0, 0, 288, 72, [.val (.ref 64), .val (.int p1)], [.ref 256], (126, 120, L, [Y_3, T, H2, H, RV, RU, ST, NS, I0, I1, I2, BO, FI, RG, GU, PU, MA, MN, MS, OT, SC], [256, 192, 384, 320, w, r5, 576, 640, 704], Lg)) o from ev_b 2 e (fun n => Eq.refl _)
        have ze10 := Option.some.inj h
        subst ze10
        exact ev_rete 2 ho (fun n => Eq.refl _)
      have h := itn h zc9
      by_cases zc11 : p1 = 2
      · have h := itp h zc11
        suffices e : Ev (d + 3, 0, 0, 288, 76, [.val (.ref 64), .val (.int p1)], [], (126, 120, L, [Y_3, T, H2, H, RV, RU, ST, NS, I0, I1, I2, BO, FI, RG, GU, PU, MA, MN, MS, OT, SC], [256, 192, 384, 320, w, r5, 576, 640, 704], Lg)) o from ev_sw [((0 : Int32), 60), ((1 : Int32), 68), ((2 : Int32), 76), ((3 : Int32), 84), ((4 : Int32), 92), ((5 : Int32), 100)] p1 (fun tt => (d + 3, 0, 0, 288, tt, [.val (.ref 64), .val (.int p1)], [], (126, 120, L, [Y_3, T, H2, H, RV, RU, ST, NS, I0, I1, I2, BO, FI, RG, GU, PU, MA, MN, MS, OT, SC], [256, 192, 384, 320, w, r5, 576, 640, 704], Lg))) 111 76 2 (fun f => by simp only [a_sw, if_neg zc7, if_neg zc9, if_pos zc11]) e (fun n => Eq.refl _)
        suffices e : Ev (d + 3, 0, 0, 288, 80, [.val (.ref 64), .val (.int p1)], [.ref 256], (126, 120, L, [Y_3, T, H2, H, RV, RU, ST, NS, I0, I1, I2, BO, FI, RG, GU, PU, MA, MN, MS, OT, SC], [256, 192, 384, 320, w, r5, 576, 640, 704], Lg)) o from ev_b 2 e (fun n => Eq.refl _)
        have ze12 := Option.some.inj h
        subst ze12
        exact ev_rete 2 ho (fun n => Eq.refl _)
      have h := itn h zc11
      by_cases zc13 : p1 = 3
      · have h := itp h zc13
        suffices e : Ev (d + 3, 0, 0, 288, 84, [.val (.ref 64), .val (.int p1)], [], (126, 120, L, [Y_3, T, H2, H, RV, RU, ST, NS, I0, I1, I2, BO, FI, RG, GU, PU, MA, MN, MS, OT, SC], [256, 192, 384, 320, w, r5, 576, 640, 704], Lg)) o from ev_sw [((0 : Int32), 60), ((1 : Int32), 68), ((2 : Int32), 76), ((3 : Int32), 84), ((4 : Int32), 92), ((5 : Int32), 100)] p1 (fun tt => (d + 3, 0, 0, 288, tt, [.val (.ref 64), .val (.int p1)], [], (126, 120, L, [Y_3, T, H2, H, RV, RU, ST, NS, I0, I1, I2, BO, FI, RG, GU, PU, MA, MN, MS, OT, SC], [256, 192, 384, 320, w, r5, 576, 640, 704], Lg))) 111 84 2 (fun f => by simp only [a_sw, if_neg zc7, if_neg zc9, if_neg zc11, if_pos zc13]) e (fun n => Eq.refl _)
        suffices e : Ev (d + 3, 0, 0, 288, 88, [.val (.ref 64), .val (.int p1)], [.ref 256], (126, 120, L, [Y_3, T, H2, H, RV, RU, ST, NS, I0, I1, I2, BO, FI, RG, GU, PU, MA, MN, MS, OT, SC], [256, 192, 384, 320, w, r5, 576, 640, 704], Lg)) o from ev_b 2 e (fun n => Eq.refl _)
        have ze14 := Option.some.inj h
        subst ze14
        exact ev_rete 2 ho (fun n => Eq.refl _)
      have h := itn h zc13
      by_cases zc15 : p1 = 4
      · have h := itp h zc15
        suffices e : Ev (d + 3, 0, 0, 288, 92, [.val (.ref 64), .val (.int p1)], [], (126, 120, L, [Y_3, T, H2, H, RV, RU, ST, NS, I0, I1, I2, BO, FI, RG, GU, PU, MA, MN, MS, OT, SC], [256, 192, 384, 320, w, r5, 576, 640, 704], Lg)) o from ev_sw [((0 : Int32), 60), ((1 : Int32), 68), ((2 : Int32), 76), ((3 : Int32), 84), ((4 : Int32), 92), ((5 : Int32), 100)] p1 (fun tt => (d + 3, 0, 0, 288, tt, [.val (.ref 64), .val (.int p1)], [], (126, 120, L, [Y_3, T, H2, H, RV, RU, ST, NS, I0, I1, I2, BO, FI, RG, GU, PU, MA, MN, MS, OT, SC], [256, 192, 384, 320, w, r5, 576, 640, 704], Lg))) 111 92 2 (fun f => by simp only [a_sw, if_neg zc7, if_neg zc9, if_neg zc11, if_neg zc13, if_pos zc15]) e (fun n => Eq.refl _)
        suffices e : Ev (d + 3, 0, 0, 288, 96, [.val (.ref 64), .val (.int p1)], [.ref 256], (126, 120, L, [Y_3, T, H2, H, RV, RU, ST, NS, I0, I1, I2, BO, FI, RG, GU, PU, MA, MN, MS, OT, SC], [256, 192, 384, 320, w, r5, 576, 640, 704], Lg)) o from ev_b 2 e (fun n => Eq.refl _)
        have ze16 := Option.some.inj h
        subst ze16
        exact ev_rete 2 ho (fun n => Eq.refl _)
      have h := itn h zc15
      by_cases zc17 : p1 = 5
      · have h := itp h zc17
        suffices e : Ev (d + 3, 0, 0, 288, 100, [.val (.ref 64), .val (.int p1)], [], (126, 120, L, [Y_3, T, H2, H, RV, RU, ST, NS, I0, I1, I2, BO, FI, RG, GU, PU, MA, MN, MS, OT, SC], [256, 192, 384, 320, w, r5, 576, 640, 704], Lg)) o from ev_sw [((0 : Int32), 60), ((1 : Int32), 68), ((2 : Int32), 76), ((3 : Int32), 84), ((4 : Int32), 92), ((5 : Int32), 100)] p1 (fun tt => (d + 3, 0, 0, 288, tt, [.val (.ref 64), .val (.int p1)], [], (126, 120, L, [Y_3, T, H2, H, RV, RU, ST, NS, I0, I1, I2, BO, FI, RG, GU, PU, MA, MN, MS, OT, SC], [256, 192, 384, 320, w, r5, 576, 640, 704], Lg))) 111 100 2 (fun f => by simp only [a_sw, if_neg zc7, if_neg zc9, if_neg zc11, if_neg zc13, if_neg zc15, if_pos zc17]) e (fun n => Eq.refl _)
        have ze18 := Option.some.inj h
        subst ze18
        exact ev_rete 5 ho (fun n => Eq.refl _)
      have h := itn h zc17
      suffices e : Ev (d + 3, 0, 0, 288, 111, [.val (.ref 64), .val (.int p1)], [], (126, 120, L, [Y_3, T, H2, H, RV, RU, ST, NS, I0, I1, I2, BO, FI, RG, GU, PU, MA, MN, MS, OT, SC], [256, 192, 384, 320, w, r5, 576, 640, 704], Lg)) o from ev_sw [((0 : Int32), 60), ((1 : Int32), 68), ((2 : Int32), 76), ((3 : Int32), 84), ((4 : Int32), 92), ((5 : Int32), 100)] p1 (fun tt => (d + 3, 0, 0, 288, tt, [.val (.ref 64), .val (.int p1)], [], (126, 120, L, [Y_3, T, H2, H, RV, RU, ST, NS, I0, I1, I2, BO, FI, RG, GU, PU, MA, MN, MS, OT, SC], [256, 192, 384, 320, w, r5, 576, 640, 704], Lg))) 111 111 2 (fun f => by simp only [a_sw, if_neg zc7, if_neg zc9, if_neg zc11, if_neg zc13, if_neg zc15, if_neg zc17]) e (fun n => Eq.refl _)
      suffices e : Ev (d + 3, 0, 0, 288, 115, [.val (.ref 64), .val (.int p1)], [.ref 256], (126, 120, L, [Y_3, T, H2, H, RV, RU, ST, NS, I0, I1, I2, BO, FI, RG, GU, PU, MA, MN, MS, OT, SC], [256, 192, 384, 320, w, r5, 576, 640, 704], Lg)) o from ev_b 2 e (fun n => Eq.refl _)
      obtain ⟨BO_5, zh19, h⟩ := bnd h
      have zh19 : f_Y_lookNow H NS BO = some BO_5 := zh19
      have ze20 := R_f_Y_lookNow_3 (d + 0) Y_3 T H2 H RV RU ST NS I0 I1 I2 BO FI RG GU PU MA MN MS OT SC w r5 L Lg zh19
      suffices e : Ev (d + 3, 0, 0, 288, 122, [.val (.ref 64), .val (.int p1)], [.ref 768, .int (H 0 3)], (126, 120, L, [Y_3, T, H2, H, RV, RU, ST, NS, I0, I1, I2, BO_5, FI, RG, GU, PU, MA, MN, MS, OT, SC], [256, 192, 384, 320, w, 256, 576, 640, 704], Lg)) o from ev_call (fun v μ => (d + 3, 0, 0, 288, 122, [.val (.ref 64), .val (.int p1)], v.toList ++ [.int (H 0 3)], μ)) 3 ze20 e (fun n => Eq.refl _)
      obtain ⟨x6, zh21, h⟩ := bnd h
      have zh21 : f_Board_placed H BO_5 = some x6 := zh21
      have ze22 := R_f_Board_placed_1 (d + 2) Y_3 T H2 H RV RU ST NS I0 I1 I2 BO_5 FI RG GU PU MA MN MS OT SC 256 192 384 320 w 576 640 704 L Lg zh21
      suffices e : Ev (d + 3, 0, 0, 288, 125, [.val (.ref 64), .val (.int p1)], [.int x6, .int (H 0 3)], (126, 120, L, [Y_3, T, H2, H, RV, RU, ST, NS, I0, I1, I2, BO_5, FI, RG, GU, PU, MA, MN, MS, OT, SC], [256, 192, 384, 320, w, 256, 576, 640, 704], Lg)) o from ev_call (fun v μ => (d + 3, 0, 0, 288, 125, [.val (.ref 64), .val (.int p1)], v.toList ++ [.int (H 0 3)], μ)) 1 ze22 e (fun n => Eq.refl _)
      obtain ⟨x7, zh23, h⟩ := bnd h
      have zh23 : f_Integer_bitCount x6 = some x7 := zh23
      have ze24 := R_f_Integer_bitCount_0 (d + 2) Y_3 T H2 H RV RU ST NS I0 I1 I2 BO_5 FI RG GU PU MA MN MS OT SC 256 192 384 320 w 256 576 640 704 L Lg x6 zh23
      suffices e : Ev (d + 3, 0, 0, 288, 128, [.val (.ref 64), .val (.int p1)], [.int x7, .int (H 0 3)], (126, 120, L, [Y_3, T, H2, H, RV, RU, ST, NS, I0, I1, I2, BO_5, FI, RG, GU, PU, MA, MN, MS, OT, SC], [256, 192, 384, 320, w, 256, 576, 640, 704], Lg)) o from ev_call (fun v μ => (d + 3, 0, 0, 288, 128, [.val (.ref 64), .val (.int p1)], v.toList ++ [.int (H 0 3)], μ)) 1 ze24 e (fun n => Eq.refl _)
      have ze25 := Option.some.inj h
      subst ze25
      exact ev_rete 2 ho (fun n => Eq.refl _)
    | succ q2 =>
      have h := itn h (Nat.succ_ne_zero q2)
      have ze26 := Option.some.inj h
      subst ze26
      subst ho
      exact ev_thr (fun v μ => (d + 3, 0, 0, 288, 19, [.val (.ref 64), .val (.int p1)], v.toList ++ [], μ)) 1 ze6 (fun n => Eq.refl _) (fun n => rfl)
  obtain ⟨zt27, zh28, zh2⟩ := bnd zh2
  have zj29 : zt27 = .inl () → Ev (d + 3, 1, 8, 288, 15, [.val (.ref 64), .val (.int p1)], [.ref 64], (126, 120, L, [Y, T, H2, H, RV, RU, ST, NS, I0, I1, I2, BO, FI, RG, GU, PU, MA, MN, MS, OT, SC], [256, 192, 384, 320, w, r5, 576, 640, 704], Lg)) o := by
    intro ze30
    have zh2 := sum_l zh2 ze30
    exact ev_b 1 (zj3 0 (Option.some.inj zh2) ) (fun n => Eq.refl _)
  by_cases zc31 : p1 < 0
  · have zh28 := itp zh28 zc31
    suffices e : Ev (d + 3, 1, 8, 288, 15, [.val (.ref 64), .val (.int p1)], [.ref 64], (126, 120, L, [Y, T, H2, H, RV, RU, ST, NS, I0, I1, I2, BO, FI, RG, GU, PU, MA, MN, MS, OT, SC], [256, 192, 384, 320, w, r5, 576, 640, 704], Lg)) o from ev_t (c := p1 < 0) _ _ 3  zc31 e (fun n => Eq.refl _)
    exact ev_b 0 (zj29  (Option.some.inj zh28).symm ) (fun n => Eq.refl _)
  · have zh28 := itn zh28 zc31
    suffices e : Ev (d + 3, 1, 8, 288, 5, [.val (.ref 64), .val (.int p1)], [.ref 64], (126, 120, L, [Y, T, H2, H, RV, RU, ST, NS, I0, I1, I2, BO, FI, RG, GU, PU, MA, MN, MS, OT, SC], [256, 192, 384, 320, w, r5, 576, 640, 704], Lg)) o from ev_f (c := p1 < 0) _ _ 3  zc31 e (fun n => Eq.refl _)
    by_cases zc32 : 6 < p1
    · have zh28 := itp zh28 zc32
      suffices e : Ev (d + 3, 1, 8, 288, 15, [.val (.ref 64), .val (.int p1)], [.ref 64], (126, 120, L, [Y, T, H2, H, RV, RU, ST, NS, I0, I1, I2, BO, FI, RG, GU, PU, MA, MN, MS, OT, SC], [256, 192, 384, 320, w, r5, 576, 640, 704], Lg)) o from ev_t (c := 6 < p1) _ _ 3  zc32 e (fun n => Eq.refl _)
      exact ev_b 0 (zj29  (Option.some.inj zh28).symm ) (fun n => Eq.refl _)
    · have zh28 := itn zh28 zc32
      suffices e : Ev (d + 3, 1, 8, 288, 11, [.val (.ref 64), .val (.int p1)], [.ref 64], (126, 120, L, [Y, T, H2, H, RV, RU, ST, NS, I0, I1, I2, BO, FI, RG, GU, PU, MA, MN, MS, OT, SC], [256, 192, 384, 320, w, r5, 576, 640, 704], Lg)) o from ev_f (c := 6 < p1) _ _ 3  zc32 e (fun n => Eq.refl _)
      have zh33 := sum_r zh2 (Option.some.inj zh28).symm
      exact ev_b 2 (zj3 1 (Option.some.inj zh33) ) (fun n => Eq.refl _)
set_option maxRecDepth 1000000 in
set_option maxHeartbeats 4000000 in
theorem R_f_Y_needOneOf_0 (d : Nat) (Y T H H2 RU RV ST NS I0 I1 I2 BO FI RG GU PU MA MN MS OT SC : Nat → Nat → Int32) (w r5 : Nat) (L : Nat) (Lg : Int64) (p1 : Int32) (p2 : Int32) {r : Nat × (Nat → Nat → Int32)} (h : f_Y_needOneOf Y p1 p2 = some r) : Ev (d + 0, 1, 8, 334, 0, [.val (.ref 64), .val (.int p1), .val (.int p2)], [], (126, 120, L, [Y, T, H, H2, RU, RV, ST, NS, I0, I1, I2, BO, FI, RG, GU, PU, MA, MN, MS, OT, SC], [192, 256, 320, 384, w, r5, 576, 640, 704], Lg)) ((r.1, none, (126, 120, L, [r.2, T, H, H2, RU, RV, ST, NS, I0, I1, I2, BO, FI, RG, GU, PU, MA, MN, MS, OT, SC], [192, 256, 320, 384, w, r5, 576, 640, 704], Lg)) : AOut) := by
  suffices key : ∀ o : AOut, ((r.1, none, (126, 120, L, [r.2, T, H, H2, RU, RV, ST, NS, I0, I1, I2, BO, FI, RG, GU, PU, MA, MN, MS, OT, SC], [192, 256, 320, 384, w, r5, 576, 640, 704], Lg)) : AOut) = o → Ev (d + 0, 1, 8, 334, 0, [.val (.ref 64), .val (.int p1), .val (.int p2)], [], (126, 120, L, [Y, T, H, H2, RU, RV, ST, NS, I0, I1, I2, BO, FI, RG, GU, PU, MA, MN, MS, OT, SC], [192, 256, 320, 384, w, r5, 576, 640, 704], Lg)) o from key _ rfl
  intro o ho
  obtain ⟨zt1, zh2, h⟩ := bnd h
  have zj3 : zt1 = .inl () → Ev (d + 0, 1, 8, 334, 9, [.val (.ref 64), .val (.int p1), .val (.int p2)], [], (126, 120, L, [Y, T, H, H2, RU, RV, ST, NS, I0, I1, I2, BO, FI, RG, GU, PU, MA, MN, MS, OT, SC], [192, 256, 320, 384, w, r5, 576, 640, 704], Lg)) o := by
    intro ze4
    have h := sum_l h ze4
    have ze5 := Option.some.inj h
    subst ze5
    exact ev_rete 7 ho (fun n => Eq.refl _)
  by_cases zc6 : p1 < 0
  · have zh2 := itp zh2 zc6
    suffices e : Ev (d + 0, 1, 8, 334, 9, [.val (.ref 64), .val (.int p1), .val (.int p2)], [], (126, 120, L, [Y, T, H, H2, RU, RV, ST, NS, I0, I1, I2, BO, FI, RG, GU, PU, MA, MN, MS, OT, SC], [192, 256, 320, 384, w, r5, 576, 640, 704], Lg)) o from ev_t (c := p1 < 0) _ _ 2  zc6 e (fun n => Eq.refl _)
    exact ev_b 0 (zj3  (Option.some.inj zh2).symm ) (fun n => Eq.refl _)
  · have zh2 := itn zh2 zc6
    suffices e : Ev (d + 0, 1, 8, 334, 4, [.val (.ref 64), .val (.int p1), .val (.int p2)], [], (126, 120, L, [Y, T, H, H2, RU, RV, ST, NS, I0, I1, I2, BO, FI, RG, GU, PU, MA, MN, MS, OT, SC], [192, 256, 320, 384, w, r5, 576, 640, 704], Lg)) o from ev_f (c := p1 < 0) _ _ 2  zc6 e (fun n => Eq.refl _)
    by_cases zc7 : p1 < p2
    · have zh2 := itp zh2 zc7
      suffices e : Ev (d + 0, 1, 8, 334, 27, [.val (.ref 64), .val (.int p1), .val (.int p2)], [], (126, 120, L, [Y, T, H, H2, RU, RV, ST, NS, I0, I1, I2, BO, FI, RG, GU, PU, MA, MN, MS, OT, SC], [192, 256, 320, 384, w, r5, 576, 640, 704], Lg)) o from ev_t (c := p1 < p2) _ _ 3  zc7 e (fun n => Eq.refl _)
      have zh8 := sum_r h (Option.some.inj zh2).symm
      have ze9 := Option.some.inj zh8
      subst ze9
      exact ev_rete 1 ho (fun n => Eq.refl _)
    · have zh2 := itn zh2 zc7
      suffices e : Ev (d + 0, 1, 8, 334, 9, [.val (.ref 64), .val (.int p1), .val (.int p2)], [], (126, 120, L, [Y, T, H, H2, RU, RV, ST, NS, I0, I1, I2, BO, FI, RG, GU, PU, MA, MN, MS, OT, SC], [192, 256, 320, 384, w, r5, 576, 640, 704], Lg)) o from ev_f (c := p1 < p2) _ _ 3  zc7 e (fun n => Eq.refl _)
      exact ev_b 0 (zj3  (Option.some.inj zh2).symm ) (fun n => Eq.refl _)
