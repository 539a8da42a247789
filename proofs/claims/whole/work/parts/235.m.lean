/-! printed by program (gen/emitm.py): the reference's methods run as their functions say -/
set_option maxRecDepth 1000000 in
set_option maxHeartbeats 4000000 in
theorem R_f_Guide_lawfulAfter_1 (d : Nat) (Y T H2 H RA RB ST NS I0 I1 I2 BO FI RG GU PU MA MN MS OT SC : Nat → Nat → Int32) (r0 r1 r2 r3 w r6 r7 r8 : Nat) (L : Nat) (Lg : Int64) (p1 : Int32) {r : Int32 × (Nat → Nat → Int32)} (h : f_Guide_lawfulAfter H BO GU p1 = some r) : Ev (d + 4, 0, 0, 191, 0, [.val (.ref 960), .val (.int p1), .val a_unk], [], (126, 120, L, [Y, T, H2, H, RA, RB, ST, NS, I0, I1, I2, BO, FI, RG, GU, PU, MA, MN, MS, OT, SC], [r0, r1, r2, r3, w, 256, r6, r7, r8], Lg)) ((0, some (.int r.1), (126, 120, L, [Y, T, H2, H, RA, RB, ST, NS, I0, I1, I2, r.2, FI, RG, GU, PU, MA, MN, MS, OT, SC], [r0, r1, r2, r3, w, 256, r6, r7, r8], Lg)) : AOut) := by
  suffices key : ∀ o : AOut, ((0, some (.int r.1), (126, 120, L, [Y, T, H2, H, RA, RB, ST, NS, I0, I1, I2, r.2, FI, RG, GU, PU, MA, MN, MS, OT, SC], [r0, r1, r2, r3, w, 256, r6, r7, r8], Lg)) : AOut) = o → Ev (d + 4, 0, 0, 191, 0, [.val (.ref 960), .val (.int p1), .val a_unk], [], (126, 120, L, [Y, T, H2, H, RA, RB, ST, NS, I0, I1, I2, BO, FI, RG, GU, PU, MA, MN, MS, OT, SC], [r0, r1, r2, r3, w, 256, r6, r7, r8], Lg)) o from key _ rfl
  intro o ho
  obtain ⟨BO_1, zh1, h⟩ := bnd h
  have zh1 : f_Guide_goOnly H BO GU p1 = some BO_1 := zh1
  have ze2 := R_f_Guide_goOnly_1 (d + 3) Y T H2 H RA RB ST NS I0 I1 I2 BO FI RG GU PU MA MN MS OT SC r0 r1 r2 r3 w r6 r7 r8 L Lg p1 zh1
  suffices e : Ev (d + 4, 0, 0, 191, 5, [.val (.ref 960), .val (.int p1), .val a_unk], [], (126, 120, L, [Y, T, H2, H, RA, RB, ST, NS, I0, I1, I2, BO_1, FI, RG, GU, PU, MA, MN, MS, OT, SC], [r0, r1, r2, r3, w, 256, r6, r7, r8], Lg)) o from ev_call (fun v μ => (d + 4, 0, 0, 191, 5, [.val (.ref 960), .val (.int p1), .val a_unk], v.toList ++ [], μ)) 3 ze2 e (fun n => Eq.refl _)
  obtain ⟨x2, zh3, h⟩ := bnd h
  have zh3 : f_Board_isLawful H BO_1 = some x2 := zh3
  have ze4 := R_f_Board_isLawful_1 (d + 0) Y T H2 H RA RB ST NS I0 I1 I2 BO_1 FI RG GU PU MA MN MS OT SC r0 r1 r2 r3 w r6 r7 r8 L Lg zh3
  suffices e : Ev (d + 4, 0, 0, 191, 12, [.val (.ref 960), .val (.int p1), .val a_unk], [.int x2], (126, 120, L, [Y, T, H2, H, RA, RB, ST, NS, I0, I1, I2, BO_1, FI, RG, GU, PU, MA, MN, MS, OT, SC], [r0, r1, r2, r3, w, 256, r6, r7, r8], Lg)) o from ev_call (fun v μ => (d + 4, 0, 0, 191, 12, [.val (.ref 960), .val (.int p1), .val a_unk], v.toList ++ [], μ)) 3 ze4 e (fun n => Eq.refl _)
  obtain ⟨BO_3, zh5, h⟩ := bnd h
  have zh5 : f_Guide_goOnly H BO_1 GU 0 = some BO_3 := zh5
  have ze6 := R_f_Guide_goOnly_1 (d + 3) Y T H2 H RA RB ST NS I0 I1 I2 BO_1 FI RG GU PU MA MN MS OT SC r0 r1 r2 r3 w r6 r7 r8 L Lg 0 zh5
  suffices e : Ev (d + 4, 0, 0, 191, 18, [.val (.ref 960), .val (.int p1), .val (.int x2)], [], (126, 120, L, [Y, T, H2, H, RA, RB, ST, NS, I0, I1, I2, BO_3, FI, RG, GU, PU, MA, MN, MS, OT, SC], [r0, r1, r2, r3, w, 256, r6, r7, r8], Lg)) o from ev_call (fun v μ => (d + 4, 0, 0, 191, 18, [.val (.ref 960), .val (.int p1), .val (.int x2)], v.toList ++ [], μ)) 4 ze6 e (fun n => Eq.refl _)
  have ze7 := Option.some.inj h
  subst ze7
  exact ev_rete 2 ho (fun n => Eq.refl _)
set_option maxRecDepth 1000000 in
set_option maxHeartbeats 4000000 in
theorem R_f_Guide_lawfulAtOnce_1 (d : Nat) (Y T H2 H RA RB ST NS I0 I1 I2 BO FI RG GU PU MA MN MS OT SC : Nat → Nat → Int32) (r0 r1 r2 r3 w r6 r7 r8 : Nat) (L : Nat) (Lg : Int64) {r : Int32 × (Nat → Nat → Int32)} (h : f_Guide_lawfulAtOnce H BO GU = some r) : Ev (d + 5, 0, 0, 192, 0, [.val (.ref 960)], [], (126, 120, L, [Y, T, H2, H, RA, RB, ST, NS, I0, I1, I2, BO, FI, RG, GU, PU, MA, MN, MS, OT, SC], [r0, r1, r2, r3, w, 256, r6, r7, r8], Lg)) ((0, some (.int r.1), (126, 120, L, [Y, T, H2, H, RA, RB, ST, NS, I0, I1, I2, r.2, FI, RG, GU, PU, MA, MN, MS, OT, SC], [r0, r1, r2, r3, w, 256, r6, r7, r8], Lg)) : AOut) := by
  suffices key : ∀ o : AOut, ((0, some (.int r.1), (126, 120, L, [Y, T, H2, H, RA, RB, ST, NS, I0, I1, I2, r.2, FI, RG, GU, PU, MA, MN, MS, OT, SC], [r0, r1, r2, r3, w, 256, r6, r7, r8], Lg)) : AOut) = o → Ev (d + 5, 0, 0, 192, 0, [.val (.ref 960)], [], (126, 120, L, [Y, T, H2, H, RA, RB, ST, NS, I0, I1, I2, BO, FI, RG, GU, PU, MA, MN, MS, OT, SC], [r0, r1, r2, r3, w, 256, r6, r7, r8], Lg)) o from key _ rfl
  intro o ho
  obtain ⟨⟨x1, BO_2⟩, zh1, h⟩ := bnd h
  have zh1 : f_Guide_lawfulAfter H BO GU (GU 0 4) = some (x1, BO_2) := zh1
  have ze2 := R_f_Guide_lawfulAfter_1 (d + 0) Y T H2 H RA RB ST NS I0 I1 I2 BO FI RG GU PU MA MN MS OT SC r0 r1 r2 r3 w r6 r7 r8 L Lg (GU 0 4) zh1
  suffices e : Ev (d + 5, 0, 0, 192, 8, [.val (.ref 960)], [.int x1], (126, 120, L, [Y, T, H2, H, RA, RB, ST, NS, I0, I1, I2, BO_2, FI, RG, GU, PU, MA, MN, MS, OT, SC], [r0, r1, r2, r3, w, 256, r6, r7, r8], Lg)) o from ev_call (fun v μ => (d + 5, 0, 0, 192, 8, [.val (.ref 960)], v.toList ++ [], μ)) 4 ze2 e (fun n => Eq.refl _)
  have ze3 := Option.some.inj h
  subst ze3
  exact ev_rete 1 ho (fun n => Eq.refl _)
set_option maxRecDepth 1000000 in
set_option maxHeartbeats 4000000 in
theorem R_f_Y_once_2 (d : Nat) (Y T H2 H RU RV ST NS I0 I1 I2 BO FI RG GU PU MA MN MS OT SC : Nat → Nat → Int32) (w r5 : Nat) (L : Nat) (Lg : Int64) {r : Int32 × (Nat → Nat → Int32) × (Nat → Nat → Int32)} (h : f_Y_once H NS BO GU = some r) : Ev (d + 6, 0, 0, 309, 0, [.val (.ref 64)], [], (126, 120, L, [Y, T, H2, H, RU, RV, ST, NS, I0, I1, I2, BO, FI, RG, GU, PU, MA, MN, MS, OT, SC], [256, 192, 320, 384, w, r5, 576, 640, 704], Lg)) ((0, some (.int r.1), (126, 120, L, [Y, T, H2, H, RU, RV, ST, NS, I0, I1, I2, r.2.1, FI, RG, r.2.2, PU, MA, MN, MS, OT, SC], [256, 192, 320, 384, w, 256, 576, 640, 704], Lg)) : AOut) := by
  suffices key : ∀ o : AOut, ((0, some (.int r.1), (126, 120, L, [Y, T, H2, H, RU, RV, ST, NS, I0, I1, I2, r.2.1, FI, RG, r.2.2, PU, MA, MN, MS, OT, SC], [256, 192, 320, 384, w, 256, 576, 640, 704], Lg)) : AOut) = o → Ev (d + 6, 0, 0, 309, 0, [.val (.ref 64)], [], (126, 120, L, [Y, T, H2, H, RU, RV, ST, NS, I0, I1, I2, BO, FI, RG, GU, PU, MA, MN, MS, OT, SC], [256, 192, 320, 384, w, r5, 576, 640, 704], Lg)) o from key _ rfl
  intro o ho
  obtain ⟨⟨BO_2, GU_3⟩, zh1, h⟩ := bnd h
  have zh1 : f_Y_lookAhead H NS BO GU = some (BO_2, GU_3) := zh1
  have ze2 := R_f_Y_lookAhead_2 (d + 2) Y T H2 H RU RV ST NS I0 I1 I2 BO FI RG GU PU MA MN MS OT SC w r5 L Lg zh1
  suffices e : Ev (d + 6, 0, 0, 309, 4, [.val (.ref 64)], [.ref 960], (126, 120, L, [Y, T, H2, H, RU, RV, ST, NS, I0, I1, I2, BO_2, FI, RG, GU_3, PU, MA, MN, MS, OT, SC], [256, 192, 320, 384, w, 256, 576, 640, 704], Lg)) o from ev_call (fun v μ => (d + 6, 0, 0, 309, 4, [.val (.ref 64)], v.toList ++ [], μ)) 2 ze2 e (fun n => Eq.refl _)
  obtain ⟨⟨x4, BO_5⟩, zh3, h⟩ := bnd h
  have zh3 : f_Guide_lawfulAtOnce H BO_2 GU_3 = some (x4, BO_5) := zh3
  have ze4 := R_f_Guide_lawfulAtOnce_1 (d + 0) Y T H2 H RU RV ST NS I0 I1 I2 BO_2 FI RG GU_3 PU MA MN MS OT SC 256 192 320 384 w 576 640 704 L Lg zh3
  suffices e : Ev (d + 6, 0, 0, 309, 7, [.val (.ref 64)], [.int x4], (126, 120, L, [Y, T, H2, H, RU, RV, ST, NS, I0, I1, I2, BO_5, FI, RG, GU_3, PU, MA, MN, MS, OT, SC], [256, 192, 320, 384, w, 256, 576, 640, 704], Lg)) o from ev_call (fun v μ => (d + 6, 0, 0, 309, 7, [.val (.ref 64)], v.toList ++ [], μ)) 1 ze4 e (fun n => Eq.refl _)
  have ze5 := Option.some.inj h
  subst ze5
  exact ev_rete 1 ho (fun n => Eq.refl _)
set_option maxRecDepth 1000000 in
set_option maxHeartbeats 4000000 in
theorem R_f_Y_once_3 (d : Nat) (Y T H2 H RV RU ST NS I0 I1 I2 BO FI RG GU PU MA MN MS OT SC : Nat → Nat → Int32) (w r5 : Nat) (L : Nat) (Lg : Int64) {r : Int32 × (Nat → Nat → Int32) × (Nat → Nat → Int32)} (h : f_Y_once H NS BO GU = some r) : Ev (d + 6, 0, 0, 309, 0, [.val (.ref 64)], [], (126, 120, L, [Y, T, H2, H, RV, RU, ST, NS, I0, I1, I2, BO, FI, RG, GU, PU, MA, MN, MS, OT, SC], [256, 192, 384, 320, w, r5, 576, 640, 704], Lg)) ((0, some (.int r.1), (126, 120, L, [Y, T, H2, H, RV, RU, ST, NS, I0, I1, I2, r.2.1, FI, RG, r.2.2, PU, MA, MN, MS, OT, SC], [256, 192, 384, 320, w, 256, 576, 640, 704], Lg)) : AOut) := by
  suffices key : ∀ o : AOut, ((0, some (.int r.1), (126, 120, L, [Y, T, H2, H, RV, RU, ST, NS, I0, I1, I2, r.2.1, FI, RG, r.2.2, PU, MA, MN, MS, OT, SC], [256, 192, 384, 320, w, 256, 576, 640, 704], Lg)) : AOut) = o → Ev (d + 6, 0, 0, 309, 0, [.val (.ref 64)], [], (126, 120, L, [Y, T, H2, H, RV, RU, ST, NS, I0, I1, I2, BO, FI, RG, GU, PU, MA, MN, MS, OT, SC], [256, 192, 384, 320, w, r5, 576, 640, 704], Lg)) o from key _ rfl
  intro o ho
  obtain ⟨⟨BO_2, GU_3⟩, zh1, h⟩ := bnd h
  have zh1 : f_Y_lookAhead H NS BO GU = some (BO_2, GU_3) := zh1
  have ze2 := R_f_Y_lookAhead_3 (d + 2) Y T H2 H RV RU ST NS I0 I1 I2 BO FI RG GU PU MA MN MS OT SC w r5 L Lg zh1
  suffices e : Ev (d + 6, 0, 0, 309, 4, [.val (.ref 64)], [.ref 960], (126, 120, L, [Y, T, H2, H, RV, RU, ST, NS, I0, I1, I2, BO_2, FI, RG, GU_3, PU, MA, MN, MS, OT, SC], [256, 192, 384, 320, w, 256, 576, 640, 704], Lg)) o from ev_call (fun v μ => (d + 6, 0, 0, 309, 4, [.val (.ref 64)], v.toList ++ [], μ)) 2 ze2 e (fun n => Eq.refl _)
  obtain ⟨⟨x4, BO_5⟩, zh3, h⟩ := bnd h
  have zh3 : f_Guide_lawfulAtOnce H BO_2 GU_3 = some (x4, BO_5) := zh3
  have ze4 := R_f_Guide_lawfulAtOnce_1 (d + 0) Y T H2 H RV RU ST NS I0 I1 I2 BO_2 FI RG GU_3 PU MA MN MS OT SC 256 192 384 320 w 576 640 704 L Lg zh3
  suffices e : Ev (d + 6, 0, 0, 309, 7, [.val (.ref 64)], [.int x4], (126, 120, L, [Y, T, H2, H, RV, RU, ST, NS, I0, I1, I2, BO_5, FI, RG, GU_3, PU, MA, MN, MS, OT, SC], [256, 192, 384, 320, w, 256, 576, 640, 704], Lg)) o from ev_call (fun v μ => (d + 6, 0, 0, 309, 7, [.val (.ref 64)], v.toList ++ [], μ)) 1 ze4 e (fun n => Eq.refl _)
  have ze5 := Option.some.inj h
  subst ze5
  exact ev_rete 1 ho (fun n => Eq.refl _)
set_option maxRecDepth 1000000 in
set_option maxHeartbeats 4000000 in
theorem R_f_Guide_nextOf_0 (d : Nat) (Y T H H2 RA RB ST NS I0 I1 I2 BO FI RG GU PU MA MN MS OT SC : Nat → Nat → Int32) (r0 r1 r2 r3 w r6 r7 r8 : Nat) (L : Nat) (Lg : Int64) (p1 : Int32) {r : Int32} (h : f_Guide_nextOf H GU p1 = some r) : Ev (d + 0, 0, 0, 195, 0, [.val (.ref 960), .val (.int p1), .val a_unk], [], (126, 120, L, [Y, T, H, H2, RA, RB, ST, NS, I0, I1, I2, BO, FI, RG, GU, PU, MA, MN, MS, OT, SC], [r0, r1, r2, r3, w, 192, r6, r7, r8], Lg)) ((0, some (.int r), (126, 120, L, [Y, T, H, H2, RA, RB, ST, NS, I0, I1, I2, BO, FI, RG, GU, PU, MA, MN, MS, OT, SC], [r0, r1, r2, r3, w, 192, r6, r7, r8], Lg)) : AOut) := by
  suffices key : ∀ o : AOut, ((0, some (.int r), (126, 120, L, [Y, T, H, H2, RA, RB, ST, NS, I0, I1, I2, BO, FI, RG, GU, PU, MA, MN, MS, OT, SC], [r0, r1, r2, r3, w, 192, r6, r7, r8], Lg)) : AOut) = o → Ev (d + 0, 0, 0, 195, 0, [.val (.ref 960), .val (.int p1), .val a_unk], [], (126, 120, L, [Y, T, H, H2, RA, RB, ST, NS, I0, I1, I2, BO, FI, RG, GU, PU, MA, MN, MS, OT, SC], [r0, r1, r2, r3, w, 192, r6, r7, r8], Lg)) o from key _ rfl
  intro o ho
  obtain ⟨zb1, zh2, h⟩ := bnd h
  suffices e : Ev (d + 0, 0, 0, 195, 2, [.val (.ref 960), .val (.int p1), .val (.int 0)], [], (126, 120, L, [Y, T, H, H2, RA, RB, ST, NS, I0, I1, I2, BO, FI, RG, GU, PU, MA, MN, MS, OT, SC], [r0, r1, r2, r3, w, 192, r6, r7, r8], Lg)) o from ev_b 2 e (fun n => Eq.refl _)
  refine ev_loop (δ := Unit) (fun a j => (d + 0, 0, 0, 195, 2, [.val (.ref 960), .val (.int p1), .val (.int a)], [], (126, 120, L, [Y, T, H, H2, RA, RB, ST, NS, I0, I1, I2, BO, FI, RG, GU, PU, MA, MN, MS, OT, SC], [r0, r1, r2, r3, w, 192, r6, r7, r8], Lg))) (fun b => sumE b (fun b => ∀ s3 : Value, Ev (d + 0, 0, 0, 195, 52, [.val (.ref 960), .val (.int p1), .val s3], [], (126, 120, L, [Y, T, H, H2, RA, RB, ST, NS, I0, I1, I2, BO, FI, RG, GU, PU, MA, MN, MS, OT, SC], [r0, r1, r2, r3, w, 192, r6, r7, r8], Lg)) o) (fun b => ((0, some (.int b), (126, 120, L, [Y, T, H, H2, RA, RB, ST, NS, I0, I1, I2, BO, FI, RG, GU, PU, MA, MN, MS, OT, SC], [r0, r1, r2, r3, w, 192, r6, r7, r8], Lg)) : AOut) = o)) ?_ a_F 0 zb1 zh2 ?_ ()
  · rintro v1 zr6 zh5 zi3 zx4 ⟨⟩
    have zh5 : f_Guide_nextOf_l2 H GU p1 v1 = some zr6 := zh5
    suffices e : Ev (d + 0, 0, 0, 195, 10, [.val (.ref 960), .val (.int p1), .val (.int v1)], [.ref 192, .int v1], (126, 120, L, [Y, T, H, H2, RA, RB, ST, NS, I0, I1, I2, BO, FI, RG, GU, PU, MA, MN, MS, OT, SC], [r0, r1, r2, r3, w, 192, r6, r7, r8], Lg)) o from ev_b 4 e (fun n => Eq.refl _)
    by_cases zc7 : (H 0 3) ≤ v1
    · have zh5 := itp zh5 zc7
      suffices e : Ev (d + 0, 0, 0, 195, 52, [.val (.ref 960), .val (.int p1), .val (.int v1)], [], (126, 120, L, [Y, T, H, H2, RA, RB, ST, NS, I0, I1, I2, BO, FI, RG, GU, PU, MA, MN, MS, OT, SC], [r0, r1, r2, r3, w, 192, r6, r7, r8], Lg)) o from ev_t (c := (H 0 3) ≤ v1) _ _ 2  zc7 e (fun n => Eq.refl _)
      exact ev_b 0 (zx4 _ (Option.some.inj zh5).symm (.int v1)) (fun n => Eq.refl _)
    · have zh5 := itn zh5 zc7
      suffices e : Ev (d + 0, 0, 0, 195, 16, [.val (.ref 960), .val (.int p1), .val (.int v1)], [], (126, 120, L, [Y, T, H, H2, RA, RB, ST, NS, I0, I1, I2, BO, FI, RG, GU, PU, MA, MN, MS, OT, SC], [r0, r1, r2, r3, w, 192, r6, r7, r8], Lg)) o from ev_f (c := (H 0 3) ≤ v1) _ _ 2  zc7 e (fun n => Eq.refl _)
      by_cases zc8 : (((GU 0 4) &&& (p1 ^^^ (-1))) &&& (a_shl 1 v1)) = 0
      · have zh5 := itp zh5 zc8
        suffices e : Ev (d + 0, 0, 0, 195, 46, [.val (.ref 960), .val (.int p1), .val (.int v1)], [], (126, 120, L, [Y, T, H, H2, RA, RB, ST, NS, I0, I1, I2, BO, FI, RG, GU, PU, MA, MN, MS, OT, SC], [r0, r1, r2, r3, w, 192, r6, r7, r8], Lg)) o from ev_t (c := (((GU 0 4) &&& (p1 ^^^ (-1))) &&& (a_shl 1 v1)) = 0) _ _ 11  zc8 e (fun n => Eq.refl _)
        exact ev_b 2 (zi3 _ (Option.some.inj zh5).symm ()) (fun n => Eq.refl _)
      · have zh5 := itn zh5 zc8
        suffices e : Ev (d + 0, 0, 0, 195, 31, [.val (.ref 960), .val (.int p1), .val (.int v1)], [], (126, 120, L, [Y, T, H, H2, RA, RB, ST, NS, I0, I1, I2, BO, FI, RG, GU, PU, MA, MN, MS, OT, SC], [r0, r1, r2, r3, w, 192, r6, r7, r8], Lg)) o from ev_f (c := (((GU 0 4) &&& (p1 ^^^ (-1))) &&& (a_shl 1 v1)) = 0) _ _ 11  zc8 e (fun n => Eq.refl _)
        obtain ⟨x2, zh9, zh5⟩ := bnd zh5
        have zh9 : rdx (GU 3) 1024 (p1 ||| (a_shl 1 v1)) = some x2 := zh9
        suffices e : Ev (d + 0, 0, 0, 195, 41, [.val (.ref 960), .val (.int p1), .val (.int v1)], [.int x2], (126, 120, L, [Y, T, H, H2, RA, RB, ST, NS, I0, I1, I2, BO, FI, RG, GU, PU, MA, MN, MS, OT, SC], [r0, r1, r2, r3, w, 192, r6, r7, r8], Lg)) o from ev_opt (fun x2 => (d + 0, 0, 0, 195, 41, [.val (.ref 960), .val (.int p1), .val (.int v1)], [.int x2], (126, 120, L, [Y, T, H, H2, RA, RB, ST, NS, I0, I1, I2, BO, FI, RG, GU, PU, MA, MN, MS, OT, SC], [r0, r1, r2, r3, w, 192, r6, r7, r8], Lg))) 8 zh9 e (fun n => Eq.refl _)
        by_cases zc10 : x2 = 0
        · have zh5 := itp zh5 zc10
          suffices e : Ev (d + 0, 0, 0, 195, 46, [.val (.ref 960), .val (.int p1), .val (.int v1)], [], (126, 120, L, [Y, T, H, H2, RA, RB, ST, NS, I0, I1, I2, BO, FI, RG, GU, PU, MA, MN, MS, OT, SC], [r0, r1, r2, r3, w, 192, r6, r7, r8], Lg)) o from ev_t (c := x2 = 0) _ _ 1  zc10 e (fun n => Eq.refl _)
          exact ev_b 2 (zi3 _ (Option.some.inj zh5).symm ()) (fun n => Eq.refl _)
        · have zh5 := itn zh5 zc10
          suffices e : Ev (d + 0, 0, 0, 195, 44, [.val (.ref 960), .val (.int p1), .val (.int v1)], [], (126, 120, L, [Y, T, H, H2, RA, RB, ST, NS, I0, I1, I2, BO, FI, RG, GU, PU, MA, MN, MS, OT, SC], [r0, r1, r2, r3, w, 192, r6, r7, r8], Lg)) o from ev_f (c := x2 = 0) _ _ 1  zc10 e (fun n => Eq.refl _)
          exact ev_rete 2 (zx4 _ (Option.some.inj zh5).symm) (fun n => Eq.refl _)
  · rcases zb1 with ⟨⟩ | zr6
    · intro s3
      have ze11 := Option.some.inj h
      subst ze11
      exact ev_rete 2 ho (fun n => Eq.refl _)
    · have zh12 : some zr6 = some r := h
      exact (congrArg (fun q => ((0, some (.int q), (126, 120, L, [Y, T, H, H2, RA, RB, ST, NS, I0, I1, I2, BO, FI, RG, GU, PU, MA, MN, MS, OT, SC], [r0, r1, r2, r3, w, 192, r6, r7, r8], Lg)) : AOut)) (Option.some.inj zh12)).trans ho
set_option maxRecDepth 1000000 in
set_option maxHeartbeats 4000000 in
theorem R_f_Guide_firstOrder_0 (d : Nat) (Y T H H2 RA RB ST NS I0 I1 I2 BO FI RG GU PU MA MN MS OT SC : Nat → Nat → Int32) (r0 r1 r2 r3 w r6 r7 r8 : Nat) (L : Nat) (Lg : Int64) {r : Int64 × (Nat → Nat → Int32) × (Nat → Nat → Int32)} (h : f_Guide_firstOrder H BO GU = some r) : Ev (d + 5, 0, 0, 194, 0, [.val (.ref 960), .val a_unk, .val a_unk, .val a_unk, .val a_unk, .val a_unk], [], (126, 120, L, [Y, T, H, H2, RA, RB, ST, NS, I0, I1, I2, BO, FI, RG, GU, PU, MA, MN, MS, OT, SC], [r0, r1, r2, r3, w, 192, r6, r7, r8], Lg)) ((0, some (.long r.1), (126, 120, L, [Y, T, H, H2, RA, RB, ST, NS, I0, I1, I2, r.2.1, FI, RG, r.2.2, PU, MA, MN, MS, OT, SC], [r0, r1, r2, r3, w, 192, r6, r7, r8], Lg)) : AOut) := by
  suffices key : ∀ o : AOut, ((0, some (.long r.1), (126, 120, L, [Y, T, H, H2, RA, RB, ST, NS, I0, I1, I2, r.2.1, FI, RG, r.2.2, PU, MA, MN, MS, OT, SC], [r0, r1, r2, r3, w, 192, r6, r7, r8], Lg)) : AOut) = o → Ev (d + 5, 0, 0, 194, 0, [.val (.ref 960), .val a_unk, .val a_unk, .val a_unk, .val a_unk, .val a_unk], [], (126, 120, L, [Y, T, H, H2, RA, RB, ST, NS, I0, I1, I2, BO, FI, RG, GU, PU, MA, MN, MS, OT, SC], [r0, r1, r2, r3, w, 192, r6, r7, r8], Lg)) o from key _ rfl
  intro o ho
  suffices e : Ev (d + 5, 0, 0, 194, 11, [.val (.ref 960), .val a_unk, .val a_unk, .val a_unk, .val a_unk, .val a_unk], [.ref 192, .int (GU 0 4)], (126, 120, L, [Y, T, H, H2, RA, RB, ST, NS, I0, I1, I2, BO, FI, RG, GU, PU, MA, MN, MS, OT, SC], [r0, r1, r2, r3, w, 192, r6, r7, r8], Lg)) o from ev_b 5 e (fun n => Eq.refl _)
  by_cases zc1 : ((GU 0 4) &&& (H 0 5)) = 0
  · have h := itp h zc1
    suffices e : Ev (d + 5, 0, 0, 194, 22, [.val (.ref 960), .val a_unk, .val a_unk, .val a_unk, .val a_unk, .val a_unk], [], (126, 120, L, [Y, T, H, H2, RA, RB, ST, NS, I0, I1, I2, BO, FI, RG, GU, PU, MA, MN, MS, OT, SC], [r0, r1, r2, r3, w, 192, r6, r7, r8], Lg)) o from ev_t (c := ((GU 0 4) &&& (H 0 5)) = 0) _ _ 3  zc1 e (fun n => Eq.refl _)
    obtain ⟨zb2, zh3, h⟩ := bnd h
    suffices e : Ev (d + 5, 0, 0, 194, 27, [.val (.ref 960), .val (.int (GU 0 4)), .val a_unk, .val a_unk, .val a_unk, .val a_unk], [], (126, 120, L, [Y, T, H, H2, RA, RB, ST, NS, I0, I1, I2, BO, FI, RG, GU, PU, MA, MN, MS, OT, SC], [r0, r1, r2, r3, w, 192, r6, r7, r8], Lg)) o from ev_b 3 e (fun n => Eq.refl _)
    refine ev_loop (δ := Unit) (fun a j => (d + 5, 0, 0, 194, 27, [.val (.ref 960), .val (.int a.1), .val a_unk, .val a_unk, .val a_unk, .val a_unk], [], (126, 120, L, [Y, T, H, H2, RA, RB, ST, NS, I0, I1, I2, a.2.1, FI, RG, a.2.2, PU, MA, MN, MS, OT, SC], [r0, r1, r2, r3, w, 192, r6, r7, r8], Lg))) (fun b => ∀ s11 : Value, Ev (d + 5, 0, 0, 194, 79, [.val (.ref 960), .val s11, .val a_unk, .val a_unk, .val a_unk, .val a_unk], [], (126, 120, L, [Y, T, H, H2, RA, RB, ST, NS, I0, I1, I2, b.1, FI, RG, b.2, PU, MA, MN, MS, OT, SC], [r0, r1, r2, r3, w, 192, r6, r7, r8], Lg)) o) ?_ a_F ((GU 0 4), BO, GU) zb2 zh3 ?_ ()
    · rintro ⟨v1, BO_2, GU_3⟩ zr7 zh6 zi4 zx5 ⟨⟩
      have zh6 : f_Guide_firstOrder_l27 H v1 BO_2 GU_3 = some zr7 := zh6
      by_cases zc8 : v1 ≤ 0
      · have zh6 := itp zh6 zc8
        suffices e : Ev (d + 5, 0, 0, 194, 79, [.val (.ref 960), .val (.int v1), .val a_unk, .val a_unk, .val a_unk, .val a_unk], [], (126, 120, L, [Y, T, H, H2, RA, RB, ST, NS, I0, I1, I2, BO_2, FI, RG, GU_3, PU, MA, MN, MS, OT, SC], [r0, r1, r2, r3, w, 192, r6, r7, r8], Lg)) o from ev_t (c := v1 ≤ 0) _ _ 2  zc8 e (fun n => Eq.refl _)
        exact ev_b 0 (zx5 _ (Option.some.inj zh6).symm (.int v1)) (fun n => Eq.refl _)
      · have zh6 := itn zh6 zc8
        suffices e : Ev (d + 5, 0, 0, 194, 31, [.val (.ref 960), .val (.int v1), .val a_unk, .val a_unk, .val a_unk, .val a_unk], [], (126, 120, L, [Y, T, H, H2, RA, RB, ST, NS, I0, I1, I2, BO_2, FI, RG, GU_3, PU, MA, MN, MS, OT, SC], [r0, r1, r2, r3, w, 192, r6, r7, r8], Lg)) o from ev_f (c := v1 ≤ 0) _ _ 2  zc8 e (fun n => Eq.refl _)
        obtain ⟨zt9, zh10, zh6⟩ := bnd zh6
        have zj11 : ∀ (v8 : Int32) (BO_9 : (Nat → Nat → Int32)), (v8, BO_9) = zt9 → Ev (d + 5, 0, 0, 194, 66, [.val (.ref 960), .val (.int v1), .val a_unk, .val a_unk, .val a_unk, .val a_unk], [.int v8, .int v1, .ref 963], (126, 120, L, [Y, T, H, H2, RA, RB, ST, NS, I0, I1, I2, BO_9, FI, RG, GU_3, PU, MA, MN, MS, OT, SC], [r0, r1, r2, r3, w, 192, r6, r7, r8], Lg)) o := by
          intro v8 BO_9 ze12
          subst ze12
          obtain ⟨j10, zh13, zh6⟩ := bnd zh6
          have zh13 : ixx 1024 v1 = some j10 := zh13
          suffices e : Ev (d + 5, 0, 0, 194, 67, [.val (.ref 960), .val (.int v1), .val a_unk, .val a_unk, .val a_unk, .val a_unk], [], (126, 120, L, [Y, T, H, H2, RA, RB, ST, NS, I0, I1, I2, BO_9, FI, RG, (u2 GU_3 3 j10 (zb v8)), PU, MA, MN, MS, OT, SC], [r0, r1, r2, r3, w, 192, r6, r7, r8], Lg)) o from ev_opt (fun j10 => (d + 5, 0, 0, 194, 67, [.val (.ref 960), .val (.int v1), .val a_unk, .val a_unk, .val a_unk, .val a_unk], [], (126, 120, L, [Y, T, H, H2, RA, RB, ST, NS, I0, I1, I2, BO_9, FI, RG, (u2 GU_3 3 j10 (zb v8)), PU, MA, MN, MS, OT, SC], [r0, r1, r2, r3, w, 192, r6, r7, r8], Lg))) 1 zh13 e (fun n => Eq.refl _)
          exact ev_b 8 (zi4 _ (Option.some.inj zh6).symm ()) (fun n => Eq.refl _)
        obtain ⟨zt14, zh15, zh10⟩ := bnd zh10
        have zj16 : ∀ (BO_7 : (Nat → Nat → Int32)), zt14 = .inl BO_7 → Ev (d + 5, 0, 0, 194, 65, [.val (.ref 960), .val (.int v1), .val a_unk, .val a_unk, .val a_unk, .val a_unk], [.int v1, .ref 963], (126, 120, L, [Y, T, H, H2, RA, RB, ST, NS, I0, I1, I2, BO_7, FI, RG, GU_3, PU, MA, MN, MS, OT, SC], [r0, r1, r2, r3, w, 192, r6, r7, r8], Lg)) o := by
          intro BO_7 ze17
          have zh10 := sum_l zh10 ze17
          exact ev_b 1 (zj11 0 BO_7 (Option.some.inj zh10) ) (fun n => Eq.refl _)
        obtain ⟨zt18, zh19, zh15⟩ := bnd zh15
        have zj20 : zt18 = .inl () → Ev (d + 5, 0, 0, 194, 53, [.val (.ref 960), .val (.int v1), .val a_unk, .val a_unk, .val a_unk, .val a_unk], [.int v1, .ref 963], (126, 120, L, [Y, T, H, H2, RA, RB, ST, NS, I0, I1, I2, BO_2, FI, RG, GU_3, PU, MA, MN, MS, OT, SC], [r0, r1, r2, r3, w, 192, r6, r7, r8], Lg)) o := by
          intro ze21
          have zh15 := sum_l zh15 ze21
          obtain ⟨⟨x5, BO_6⟩, zh22, zh15⟩ := bnd zh15
          have zh22 : f_Guide_lawfulAfter H BO_2 GU_3 v1 = some (x5, BO_6) := zh22
          have ze23 := R_f_Guide_lawfulAfter_0 (d + 0) Y T H H2 RA RB ST NS I0 I1 I2 BO_2 FI RG GU_3 PU MA MN MS OT SC r0 r1 r2 r3 w r6 r7 r8 L Lg v1 zh22
          suffices e : Ev (d + 5, 0, 0, 194, 58, [.val (.ref 960), .val (.int v1), .val a_unk, .val a_unk, .val a_unk, .val a_unk], [.int x5, .int v1, .ref 963], (126, 120, L, [Y, T, H, H2, RA, RB, ST, NS, I0, I1, I2, BO_6, FI, RG, GU_3, PU, MA, MN, MS, OT, SC], [r0, r1, r2, r3, w, 192, r6, r7, r8], Lg)) o from ev_call (fun v μ => (d + 5, 0, 0, 194, 58, [.val (.ref 960), .val (.int v1), .val a_unk, .val a_unk, .val a_unk, .val a_unk], v.toList ++ [.int v1, .ref 963], μ)) 3 ze23 e (fun n => Eq.refl _)
          by_cases zc24 : x5 = 0
          · have zh15 := itp zh15 zc24
            suffices e : Ev (d + 5, 0, 0, 194, 65, [.val (.ref 960), .val (.int v1), .val a_unk, .val a_unk, .val a_unk, .val a_unk], [.int v1, .ref 963], (126, 120, L, [Y, T, H, H2, RA, RB, ST, NS, I0, I1, I2, BO_6, FI, RG, GU_3, PU, MA, MN, MS, OT, SC], [r0, r1, r2, r3, w, 192, r6, r7, r8], Lg)) o from ev_t (c := x5 = 0) _ _ 1  zc24 e (fun n => Eq.refl _)
            exact ev_b 0 (zj16 BO_6 (Option.some.inj zh15).symm ) (fun n => Eq.refl _)
          · have zh15 := itn zh15 zc24
            suffices e : Ev (d + 5, 0, 0, 194, 61, [.val (.ref 960), .val (.int v1), .val a_unk, .val a_unk, .val a_unk, .val a_unk], [.int v1, .ref 963], (126, 120, L, [Y, T, H, H2, RA, RB, ST, NS, I0, I1, I2, BO_6, FI, RG, GU_3, PU, MA, MN, MS, OT, SC], [r0, r1, r2, r3, w, 192, r6, r7, r8], Lg)) o from ev_f (c := x5 = 0) _ _ 1  zc24 e (fun n => Eq.refl _)
            have zh25 := sum_r zh10 (Option.some.inj zh15).symm
            exact ev_b 2 (zj11 1 BO_6 (Option.some.inj zh25) ) (fun n => Eq.refl _)
        by_cases zc26 : v1 = (GU_3 0 4)
        · have zh19 := itp zh19 zc26
          suffices e : Ev (d + 5, 0, 0, 194, 53, [.val (.ref 960), .val (.int v1), .val a_unk, .val a_unk, .val a_unk, .val a_unk], [.int v1, .ref 963], (126, 120, L, [Y, T, H, H2, RA, RB, ST, NS, I0, I1, I2, BO_2, FI, RG, GU_3, PU, MA, MN, MS, OT, SC], [r0, r1, r2, r3, w, 192, r6, r7, r8], Lg)) o from ev_t (c := v1 = (GU_3 0 4)) _ _ 7  zc26 e (fun n => Eq.refl _)
          exact ev_b 0 (zj20  (Option.some.inj zh19).symm ) (fun n => Eq.refl _)
        · have zh19 := itn zh19 zc26
          suffices e : Ev (d + 5, 0, 0, 194, 44, [.val (.ref 960), .val (.int v1), .val a_unk, .val a_unk, .val a_unk, .val a_unk], [.int v1, .ref 963], (126, 120, L, [Y, T, H, H2, RA, RB, ST, NS, I0, I1, I2, BO_2, FI, RG, GU_3, PU, MA, MN, MS, OT, SC], [r0, r1, r2, r3, w, 192, r6, r7, r8], Lg)) o from ev_f (c := v1 = (GU_3 0 4)) _ _ 7  zc26 e (fun n => Eq.refl _)
          obtain ⟨x4, zh27, zh19⟩ := bnd zh19
          have zh27 : f_Guide_nextOf H GU_3 v1 = some x4 := zh27
          have ze28 := R_f_Guide_nextOf_0 (d + 4) Y T H H2 RA RB ST NS I0 I1 I2 BO_2 FI RG GU_3 PU MA MN MS OT SC r0 r1 r2 r3 w r6 r7 r8 L Lg v1 zh27
          suffices e : Ev (d + 5, 0, 0, 194, 49, [.val (.ref 960), .val (.int v1), .val a_unk, .val a_unk, .val a_unk, .val a_unk], [.int x4, .int v1, .ref 963], (126, 120, L, [Y, T, H, H2, RA, RB, ST, NS, I0, I1, I2, BO_2, FI, RG, GU_3, PU, MA, MN, MS, OT, SC], [r0, r1, r2, r3, w, 192, r6, r7, r8], Lg)) o from ev_call (fun v μ => (d + 5, 0, 0, 194, 49, [.val (.ref 960), .val (.int v1), .val a_unk, .val a_unk, .val a_unk, .val a_unk], v.toList ++ [.int v1, .ref 963], μ)) 3 ze28 e (fun n => Eq.refl _)
          by_cases zc29 : x4 = (-1)
          · have zh19 := itp zh19 zc29
            suffices e : Ev (d + 5, 0, 0, 194, 65, [.val (.ref 960), .val (.int v1), .val a_unk, .val a_unk, .val a_unk, .val a_unk], [.int v1, .ref 963], (126, 120, L, [Y, T, H, H2, RA, RB, ST, NS, I0, I1, I2, BO_2, FI, RG, GU_3, PU, MA, MN, MS, OT, SC], [r0, r1, r2, r3, w, 192, r6, r7, r8], Lg)) o from ev_t (c := x4 = (-1)) _ _ 2  zc29 e (fun n => Eq.refl _)
            have zh30 := sum_r zh15 (Option.some.inj zh19).symm
            exact ev_b 0 (zj16 BO_2 (Option.some.inj zh30).symm ) (fun n => Eq.refl _)
          · have zh19 := itn zh19 zc29
            suffices e : Ev (d + 5, 0, 0, 194, 53, [.val (.ref 960), .val (.int v1), .val a_unk, .val a_unk, .val a_unk, .val a_unk], [.int v1, .ref 963], (126, 120, L, [Y, T, H, H2, RA, RB, ST, NS, I0, I1, I2, BO_2, FI, RG, GU_3, PU, MA, MN, MS, OT, SC], [r0, r1, r2, r3, w, 192, r6, r7, r8], Lg)) o from ev_f (c := x4 = (-1)) _ _ 2  zc29 e (fun n => Eq.refl _)
            exact ev_b 0 (zj20  (Option.some.inj zh19).symm ) (fun n => Eq.refl _)
    · obtain ⟨BO_12, GU_13⟩ := zb2
      intro s11
      obtain ⟨x14, zh31, h⟩ := bnd h
      have zh31 : f_Integer_bitCount (GU_13 0 4) = some x14 := zh31
      have ze32 := R_f_Integer_bitCount_0 (d + 4) Y T H H2 RA RB ST NS I0 I1 I2 BO_12 FI RG GU_13 PU MA MN MS OT SC r0 r1 r2 r3 w 192 r6 r7 r8 L Lg (GU_13 0 4) zh31
      suffices e : Ev (d + 5, 0, 0, 194, 90, [.val (.ref 960), .val (.long (0 : Int64)), .second, .val (.int 0), .val a_unk, .val a_unk], [.int x14], (126, 120, L, [Y, T, H, H2, RA, RB, ST, NS, I0, I1, I2, BO_12, FI, RG, GU_13, PU, MA, MN, MS, OT, SC], [r0, r1, r2, r3, w, 192, r6, r7, r8], Lg)) o from ev_call (fun v μ => (d + 5, 0, 0, 194, 90, [.val (.ref 960), .val (.long (0 : Int64)), .second, .val (.int 0), .val a_unk, .val a_unk], v.toList ++ [], μ)) 7 ze32 e (fun n => Eq.refl _)
      obtain ⟨zb33, zh34, h⟩ := bnd h
      suffices e : Ev (d + 5, 0, 0, 194, 92, [.val (.ref 960), .val (.long (0 : Int64)), .second, .val (.int 0), .val (.int x14), .val a_unk], [], (126, 120, L, [Y, T, H, H2, RA, RB, ST, NS, I0, I1, I2, BO_12, FI, RG, GU_13, PU, MA, MN, MS, OT, SC], [r0, r1, r2, r3, w, 192, r6, r7, r8], Lg)) o from ev_b 1 e (fun n => Eq.refl _)
      refine ev_loop (δ := Value) (fun a j => (d + 5, 0, 0, 194, 92, [.val (.ref 960), .val (.long a.1), .second, .val (.int a.2.1), .val (.int a.2.2), .val j], [], (126, 120, L, [Y, T, H, H2, RA, RB, ST, NS, I0, I1, I2, BO_12, FI, RG, GU_13, PU, MA, MN, MS, OT, SC], [r0, r1, r2, r3, w, 192, r6, r7, r8], Lg))) (fun b => sumE b (fun b => ∀ s21 : Value, ∀ s22 : Value, ∀ s23 : Value, Ev (d + 5, 0, 0, 194, 137, [.val (.ref 960), .val (.long b), .second, .val s21, .val s22, .val s23], [], (126, 120, L, [Y, T, H, H2, RA, RB, ST, NS, I0, I1, I2, BO_12, FI, RG, GU_13, PU, MA, MN, MS, OT, SC], [r0, r1, r2, r3, w, 192, r6, r7, r8], Lg)) o) (fun b => ((0, some (.long b.1), (126, 120, L, [Y, T, H, H2, RA, RB, ST, NS, I0, I1, I2, b.2.1, FI, RG, b.2.2, PU, MA, MN, MS, OT, SC], [r0, r1, r2, r3, w, 192, r6, r7, r8], Lg)) : AOut) = o)) ?_ a_F ((0 : Int64), 0, x14) zb33 zh34 ?_ a_unk
      · rintro ⟨v15, v16, v17⟩ zr38 zh37 zi35 zx36 s18
        have zh37 : f_Guide_firstOrder_l92 H GU_13 BO_12 v15 v16 v17 = some zr38 := zh37
        by_cases zc39 : v17 ≤ 0
        · have zh37 := itp zh37 zc39
          suffices e : Ev (d + 5, 0, 0, 194, 137, [.val (.ref 960), .val (.long v15), .second, .val (.int v16), .val (.int v17), .val s18], [], (126, 120, L, [Y, T, H, H2, RA, RB, ST, NS, I0, I1, I2, BO_12, FI, RG, GU_13, PU, MA, MN, MS, OT, SC], [r0, r1, r2, r3, w, 192, r6, r7, r8], Lg)) o from ev_t (c := v17 ≤ 0) _ _ 2  zc39 e (fun n => Eq.refl _)
          exact ev_b 0 (zx36 _ (Option.some.inj zh37).symm (.int v16) (.int v17) s18) (fun n => Eq.refl _)
        · have zh37 := itn zh37 zc39
          suffices e : Ev (d + 5, 0, 0, 194, 97, [.val (.ref 960), .val (.long v15), .second, .val (.int v16), .val (.int v17), .val s18], [], (126, 120, L, [Y, T, H, H2, RA, RB, ST, NS, I0, I1, I2, BO_12, FI, RG, GU_13, PU, MA, MN, MS, OT, SC], [r0, r1, r2, r3, w, 192, r6, r7, r8], Lg)) o from ev_f (c := v17 ≤ 0) _ _ 2  zc39 e (fun n => Eq.refl _)
          obtain ⟨x19, zh40, zh37⟩ := bnd zh37
          have zh40 : f_Guide_nextOf H GU_13 v16 = some x19 := zh40
          have ze41 := R_f_Guide_nextOf_0 (d + 4) Y T H H2 RA RB ST NS I0 I1 I2 BO_12 FI RG GU_13 PU MA MN MS OT SC r0 r1 r2 r3 w r6 r7 r8 L Lg v16 zh40
          suffices e : Ev (d + 5, 0, 0, 194, 102, [.val (.ref 960), .val (.long v15), .second, .val (.int v16), .val (.int v17), .val s18], [.int x19], (126, 120, L, [Y, T, H, H2, RA, RB, ST, NS, I0, I1, I2, BO_12, FI, RG, GU_13, PU, MA, MN, MS, OT, SC], [r0, r1, r2, r3, w, 192, r6, r7, r8], Lg)) o from ev_call (fun v μ => (d + 5, 0, 0, 194, 102, [.val (.ref 960), .val (.long v15), .second, .val (.int v16), .val (.int v17), .val s18], v.toList ++ [], μ)) 3 ze41 e (fun n => Eq.refl _)
          by_cases zc42 : x19 ≠ (-1)
          · have zh37 := itp zh37 zc42
            suffices e : Ev (d + 5, 0, 0, 194, 114, [.val (.ref 960), .val (.long v15), .second, .val (.int v16), .val (.int v17), .val (.int x19)], [], (126, 120, L, [Y, T, H, H2, RA, RB, ST, NS, I0, I1, I2, BO_12, FI, RG, GU_13, PU, MA, MN, MS, OT, SC], [r0, r1, r2, r3, w, 192, r6, r7, r8], Lg)) o from ev_t (c := x19 ≠ (-1)) _ _ 4  zc42 e (fun n => Eq.refl _)
            suffices e : Ev (d + 5, 0, 0, 194, 134, [.val (.ref 960), .val (.long ((v15 * (10 : Int64)) + (Int32.toInt64 x19))), .second, .val (.int (v16 ||| (a_shl 1 x19))), .val (.int (v17 + (-1))), .val (.int x19)], [], (126, 120, L, [Y, T, H, H2, RA, RB, ST, NS, I0, I1, I2, BO_12, FI, RG, GU_13, PU, MA, MN, MS, OT, SC], [r0, r1, r2, r3, w, 192, r6, r7, r8], Lg)) o from ev_b 14 e (fun n => Eq.refl _)
            exact ev_b 1 (zi35 _ (Option.some.inj zh37).symm (.int x19)) (fun n => Eq.refl _)
          · have zh37 := itn zh37 zc42
            suffices e : Ev (d + 5, 0, 0, 194, 110, [.val (.ref 960), .val (.long v15), .second, .val (.int v16), .val (.int v17), .val (.int x19)], [], (126, 120, L, [Y, T, H, H2, RA, RB, ST, NS, I0, I1, I2, BO_12, FI, RG, GU_13, PU, MA, MN, MS, OT, SC], [r0, r1, r2, r3, w, 192, r6, r7, r8], Lg)) o from ev_f (c := x19 ≠ (-1)) _ _ 4  zc42 e (fun n => Eq.refl _)
            exact ev_rete 2 (zx36 _ (Option.some.inj zh37).symm) (fun n => Eq.refl _)
      · rcases zb33 with v20 | zr38
        · intro s21 s22 s23
          have ze43 := Option.some.inj h
          subst ze43
          exact ev_rete 2 ho (fun n => Eq.refl _)
        · have zh44 : some zr38 = some r := h
          exact (congrArg (fun q => ((0, some (.long q.1), (126, 120, L, [Y, T, H, H2, RA, RB, ST, NS, I0, I1, I2, q.2.1, FI, RG, q.2.2, PU, MA, MN, MS, OT, SC], [r0, r1, r2, r3, w, 192, r6, r7, r8], Lg)) : AOut)) (Option.some.inj zh44)).trans ho
  · have h := itn h zc1
    suffices e : Ev (d + 5, 0, 0, 194, 18, [.val (.ref 960), .val a_unk, .val a_unk, .val a_unk, .val a_unk, .val a_unk], [], (126, 120, L, [Y, T, H, H2, RA, RB, ST, NS, I0, I1, I2, BO, FI, RG, GU, PU, MA, MN, MS, OT, SC], [r0, r1, r2, r3, w, 192, r6, r7, r8], Lg)) o from ev_f (c := ((GU 0 4) &&& (H 0 5)) = 0) _ _ 3  zc1 e (fun n => Eq.refl _)
    have ze46 := Option.some.inj h
    subst ze46
    exact ev_rete 2 ho (fun n => Eq.refl _)
set_option maxRecDepth 1000000 in
set_option maxHeartbeats 4000000 in
theorem R_f_Y_order_0 (d : Nat) (Y T H H2 RU RV ST NS I0 I1 I2 BO FI RG GU PU MA MN MS OT SC : Nat → Nat → Int32) (w r5 : Nat) (L : Nat) (Lg : Int64) (p1 : Int32) {r : Nat × Int64 × (Nat → Nat → Int32) × (Nat → Nat → Int32) × (Nat → Nat → Int32) × Nat} (h : f_Y_order Y H NS BO GU 192 r5 p1 = some r) : Ev (d + 6, 1, 8, 310, 0, [.val (.ref 64), .val (.int p1), .val a_unk, .val a_unk], [], (126, 120, L, [Y, T, H, H2, RU, RV, ST, NS, I0, I1, I2, BO, FI, RG, GU, PU, MA, MN, MS, OT, SC], [192, 256, 320, 384, w, r5, 576, 640, 704], Lg)) ((r.1, a_ov r.1 (.long r.2.1), (126, 120, L, [r.2.2.1, T, H, H2, RU, RV, ST, NS, I0, I1, I2, r.2.2.2.1, FI, RG, r.2.2.2.2.1, PU, MA, MN, MS, OT, SC], [192, 256, 320, 384, w, r.2.2.2.2.2, 576, 640, 704], Lg)) : AOut) := by
  suffices key : ∀ o : AOut, ((r.1, a_ov r.1 (.long r.2.1), (126, 120, L, [r.2.2.1, T, H, H2, RU, RV, ST, NS, I0, I1, I2, r.2.2.2.1, FI, RG, r.2.2.2.2.1, PU, MA, MN, MS, OT, SC], [192, 256, 320, 384, w, r.2.2.2.2.2, 576, 640, 704], Lg)) : AOut) = o → Ev (d + 6, 1, 8, 310, 0, [.val (.ref 64), .val (.int p1), .val a_unk, .val a_unk], [], (126, 120, L, [Y, T, H, H2, RU, RV, ST, NS, I0, I1, I2, BO, FI, RG, GU, PU, MA, MN, MS, OT, SC], [192, 256, 320, 384, w, r5, 576, 640, 704], Lg)) o from key _ rfl
  intro o ho
  obtain ⟨zt1, zh2, h⟩ := bnd h
  have zj3 : ∀ (v1 : Int32), v1 = zt1 → Ev (d + 6, 1, 8, 310, 15, [.val (.ref 64), .val (.int p1), .val a_unk, .val a_unk], [.int v1, .ref 64], (126, 120, L, [Y, T, H, H2, RU, RV, ST, NS, I0, I1, I2, BO, FI, RG, GU, PU, MA, MN, MS, OT, SC], [192, 256, 320, 384, w, r5, 576, 640, 704], Lg)) o := by
    intro v1 ze4
    subst ze4
    obtain ⟨⟨q2, Y_3⟩, zh5, h⟩ := bnd h
    have zh5 : f_Y_refuseUnless Y v1 = some (q2, Y_3) := zh5
    have ze6 := R_f_Y_refuseUnless_0 (d + 5) Y T H H2 RU RV ST NS I0 I1 I2 BO FI RG GU PU MA MN MS OT SC w r5 L Lg v1 zh5
    cases q2 with
    | zero =>
      have h := itp h rfl
      suffices e : Ev (d + 6, 0, 0, 310, 18, [.val (.ref 64), .val (.int p1), .val a_unk, .val a_unk], [], (126, 120, L, [Y_3, T, H, H2, RU, RV, ST, NS, I0, I1, I2, BO, FI, RG, GU, PU, MA, MN, MS, OT, SC], [192, 256, 320, 384, w, r5, 576, 640, 704], Lg)) o from ev_call (fun v μ => (d + 6, 0, 0, 310, 18, [.val (.ref 64), .val (.int p1), .val a_unk, .val a_unk], v.toList ++ [], μ)) 1 ze6 e (fun n => Eq.refl _)
      obtain ⟨⟨BO_5, GU_6⟩, zh7, h⟩ := bnd h
      have zh7 : f_Y_lookAhead H NS BO GU = some (BO_5, GU_6) := zh7
      have ze8 := R_f_Y_lookAhead_0 (d + 2) Y_3 T H H2 RU RV ST NS I0 I1 I2 BO FI RG GU PU MA MN MS OT SC w r5 L Lg zh7
      suffices e : Ev (d + 6, 0, 0, 310, 22, [.val (.ref 64), .val (.int p1), .val a_unk, .val a_unk], [.ref 960], (126, 120, L, [Y_3, T, H, H2, RU, RV, ST, NS, I0, I1, I2, BO_5, FI, RG, GU_6, PU, MA, MN, MS, OT, SC], [192, 256, 320, 384, w, 192, 576, 640, 704], Lg)) o from ev_call (fun v μ => (d + 6, 0, 0, 310, 22, [.val (.ref 64), .val (.int p1), .val a_unk, .val a_unk], v.toList ++ [], μ)) 2 ze8 e (fun n => Eq.refl _)
      obtain ⟨⟨x7, BO_8, GU_9⟩, zh9, h⟩ := bnd h
      have zh9 : f_Guide_firstOrder H BO_5 GU_6 = some (x7, BO_8, GU_9) := zh9
      have ze10 := R_f_Guide_firstOrder_0 (d + 0) Y_3 T H H2 RU RV ST NS I0 I1 I2 BO_5 FI RG GU_6 PU MA MN MS OT SC 192 256 320 384 w 576 640 704 L Lg zh9
      suffices e : Ev (d + 6, 0, 0, 310, 25, [.val (.ref 64), .val (.int p1), .val a_unk, .val a_unk], [.long x7], (126, 120, L, [Y_3, T, H, H2, RU, RV, ST, NS, I0, I1, I2, BO_8, FI, RG, GU_9, PU, MA, MN, MS, OT, SC], [192, 256, 320, 384, w, 192, 576, 640, 704], Lg)) o from ev_call (fun v μ => (d + 6, 0, 0, 310, 25, [.val (.ref 64), .val (.int p1), .val a_unk, .val a_unk], v.toList ++ [], μ)) 1 ze10 e (fun n => Eq.refl _)
      obtain ⟨zt11, zh12, h⟩ := bnd h
      have zj13 : zt11 = .inl () → Ev (d + 6, 0, 0, 310, 52, [.val (.ref 64), .val (.int p1), .val (.long x7), .second], [], (126, 120, L, [Y_3, T, H, H2, RU, RV, ST, NS, I0, I1, I2, BO_8, FI, RG, GU_9, PU, MA, MN, MS, OT, SC], [192, 256, 320, 384, w, 192, 576, 640, 704], Lg)) o := by
        intro ze14
        have h := sum_l h ze14
        have ze15 := Option.some.inj h
        subst ze15
        exact ev_rete 2 ho (fun n => Eq.refl _)
      by_cases zc16 : p1 ≠ 0
      · have zh12 := itp zh12 zc16
        suffices e : Ev (d + 6, 0, 0, 310, 52, [.val (.ref 64), .val (.int p1), .val (.long x7), .second], [], (126, 120, L, [Y_3, T, H, H2, RU, RV, ST, NS, I0, I1, I2, BO_8, FI, RG, GU_9, PU, MA, MN, MS, OT, SC], [192, 256, 320, 384, w, 192, 576, 640, 704], Lg)) o from ev_t (c := p1 ≠ 0) _ _ 3  zc16 e (fun n => Eq.refl _)
        exact ev_b 0 (zj13  (Option.some.inj zh12).symm ) (fun n => Eq.refl _)
      · have zh12 := itn zh12 zc16
        suffices e : Ev (d + 6, 0, 0, 310, 30, [.val (.ref 64), .val (.int p1), .val (.long x7), .second], [], (126, 120, L, [Y_3, T, H, H2, RU, RV, ST, NS, I0, I1, I2, BO_8, FI, RG, GU_9, PU, MA, MN, MS, OT, SC], [192, 256, 320, 384, w, 192, 576, 640, 704], Lg)) o from ev_f (c := p1 ≠ 0) _ _ 3  zc16 e (fun n => Eq.refl _)
        by_cases zc17 : (a_cmpL x7 (-1 : Int64)) = 0
        · have zh12 := itp zh12 zc17
          suffices e : Ev (d + 6, 0, 0, 310, 52, [.val (.ref 64), .val (.int p1), .val (.long x7), .second], [], (126, 120, L, [Y_3, T, H, H2, RU, RV, ST, NS, I0, I1, I2, BO_8, FI, RG, GU_9, PU, MA, MN, MS, OT, SC], [192, 256, 320, 384, w, 192, 576, 640, 704], Lg)) o from ev_t (c := (a_cmpL x7 (-1 : Int64)) = 0) _ _ 4  zc17 e (fun n => Eq.refl _)
          exact ev_b 0 (zj13  (Option.some.inj zh12).symm ) (fun n => Eq.refl _)
        · have zh12 := itn zh12 zc17
          suffices e : Ev (d + 6, 0, 0, 310, 38, [.val (.ref 64), .val (.int p1), .val (.long x7), .second], [], (126, 120, L, [Y_3, T, H, H2, RU, RV, ST, NS, I0, I1, I2, BO_8, FI, RG, GU_9, PU, MA, MN, MS, OT, SC], [192, 256, 320, 384, w, 192, 576, 640, 704], Lg)) o from ev_f (c := (a_cmpL x7 (-1 : Int64)) = 0) _ _ 4  zc17 e (fun n => Eq.refl _)
          obtain ⟨x10, zh18, zh12⟩ := bnd zh12
          have zh18 : f_Integer_bitCount (GU_9 0 4) = some x10 := zh18
          have ze19 := R_f_Integer_bitCount_0 (d + 5) Y_3 T H H2 RU RV ST NS I0 I1 I2 BO_8 FI RG GU_9 PU MA MN MS OT SC 192 256 320 384 w 192 576 640 704 L Lg (GU_9 0 4) zh18
          suffices e : Ev (d + 6, 0, 0, 310, 48, [.val (.ref 64), .val (.int p1), .val (.long x7), .second], [.int x10], (126, 120, L, [Y_3, T, H, H2, RU, RV, ST, NS, I0, I1, I2, BO_8, FI, RG, GU_9, PU, MA, MN, MS, OT, SC], [192, 256, 320, 384, w, 192, 576, 640, 704], Lg)) o from ev_call (fun v μ => (d + 6, 0, 0, 310, 48, [.val (.ref 64), .val (.int p1), .val (.long x7), .second], v.toList ++ [], μ)) 4 ze19 e (fun n => Eq.refl _)
          have zh20 := sum_r h (Option.some.inj zh12).symm
          have ze21 := Option.some.inj zh20
          subst ze21
          exact ev_rete 3 ho (fun n => Eq.refl _)
    | succ q2 =>
      have h := itn h (Nat.succ_ne_zero q2)
      have ze22 := Option.some.inj h
      subst ze22
      subst ho
      exact ev_thr (fun v μ => (d + 6, 0, 0, 310, 18, [.val (.ref 64), .val (.int p1), .val a_unk, .val a_unk], v.toList ++ [], μ)) 1 ze6 (fun n => Eq.refl _) (fun n => rfl)
  obtain ⟨zt23, zh24, zh2⟩ := bnd zh2
  have zj25 : zt23 = .inl () → Ev (d + 6, 1, 8, 310, 14, [.val (.ref 64), .val (.int p1), .val a_unk, .val a_unk], [.ref 64], (126, 120, L, [Y, T, H, H2, RU, RV, ST, NS, I0, I1, I2, BO, FI, RG, GU, PU, MA, MN, MS, OT, SC], [192, 256, 320, 384, w, r5, 576, 640, 704], Lg)) o := by
    intro ze26
    have zh2 := sum_l zh2 ze26
    exact ev_b 1 (zj3 0 (Option.some.inj zh2) ) (fun n => Eq.refl _)
  by_cases zc27 : p1 < 0
  · have zh24 := itp zh24 zc27
    suffices e : Ev (d + 6, 1, 8, 310, 14, [.val (.ref 64), .val (.int p1), .val a_unk, .val a_unk], [.ref 64], (126, 120, L, [Y, T, H, H2, RU, RV, ST, NS, I0, I1, I2, BO, FI, RG, GU, PU, MA, MN, MS, OT, SC], [192, 256, 320, 384, w, r5, 576, 640, 704], Lg)) o from ev_t (c := p1 < 0) _ _ 3  zc27 e (fun n => Eq.refl _)
    exact ev_b 0 (zj25  (Option.some.inj zh24).symm ) (fun n => Eq.refl _)
  · have zh24 := itn zh24 zc27
    suffices e : Ev (d + 6, 1, 8, 310, 5, [.val (.ref 64), .val (.int p1), .val a_unk, .val a_unk], [.ref 64], (126, 120, L, [Y, T, H, H2, RU, RV, ST, NS, I0, I1, I2, BO, FI, RG, GU, PU, MA, MN, MS, OT, SC], [192, 256, 320, 384, w, r5, 576, 640, 704], Lg)) o from ev_f (c := p1 < 0) _ _ 3  zc27 e (fun n => Eq.refl _)
    by_cases zc28 : 1 < p1
    · have zh24 := itp zh24 zc28
      suffices e : Ev (d + 6, 1, 8, 310, 14, [.val (.ref 64), .val (.int p1), .val a_unk, .val a_unk], [.ref 64], (126, 120, L, [Y, T, H, H2, RU, RV, ST, NS, I0, I1, I2, BO, FI, RG, GU, PU, MA, MN, MS, OT, SC], [192, 256, 320, 384, w, r5, 576, 640, 704], Lg)) o from ev_t (c := 1 < p1) _ _ 3  zc28 e (fun n => Eq.refl _)
      exact ev_b 0 (zj25  (Option.some.inj zh24).symm ) (fun n => Eq.refl _)
    · have zh24 := itn zh24 zc28
      suffices e : Ev (d + 6, 1, 8, 310, 10, [.val (.ref 64), .val (.int p1), .val a_unk, .val a_unk], [.ref 64], (126, 120, L, [Y, T, H, H2, RU, RV, ST, NS, I0, I1, I2, BO, FI, RG, GU, PU, MA, MN, MS, OT, SC], [192, 256, 320, 384, w, r5, 576, 640, 704], Lg)) o from ev_f (c := 1 < p1) _ _ 3  zc28 e (fun n => Eq.refl _)
      have zh29 := sum_r zh2 (Option.some.inj zh24).symm
      exact ev_b 2 (zj3 1 (Option.some.inj zh29) ) (fun n => Eq.refl _)
set_option maxRecDepth 1000000 in
set_option maxHeartbeats 4000000 in
theorem R_f_Y_order_1 (d : Nat) (Y T H H2 RV RU ST NS I0 I1 I2 BO FI RG GU PU MA MN MS OT SC : Nat → Nat → Int32) (w r5 : Nat) (L : Nat) (Lg : Int64) (p1 : Int32) {r : Nat × Int64 × (Nat → Nat → Int32) × (Nat → Nat → Int32) × (Nat → Nat → Int32) × Nat} (h : f_Y_order Y H NS BO GU 192 r5 p1 = some r) : Ev (d + 6, 1, 8, 310, 0, [.val (.ref 64), .val (.int p1), .val a_unk, .val a_unk], [], (126, 120, L, [Y, T, H, H2, RV, RU, ST, NS, I0, I1, I2, BO, FI, RG, GU, PU, MA, MN, MS, OT, SC], [192, 256, 384, 320, w, r5, 576, 640, 704], Lg)) ((r.1, a_ov r.1 (.long r.2.1), (126, 120, L, [r.2.2.1, T, H, H2, RV, RU, ST, NS, I0, I1, I2, r.2.2.2.1, FI, RG, r.2.2.2.2.1, PU, MA, MN, MS, OT, SC], [192, 256, 384, 320, w, r.2.2.2.2.2, 576, 640, 704], Lg)) : AOut) := by
  suffices key : ∀ o : AOut, ((r.1, a_ov r.1 (.long r.2.1), (126, 120, L, [r.2.2.1, T, H, H2, RV, RU, ST, NS, I0, I1, I2, r.2.2.2.1, FI, RG, r.2.2.2.2.1, PU, MA, MN, MS, OT, SC], [192, 256, 384, 320, w, r.2.2.2.2.2, 576, 640, 704], Lg)) : AOut) = o → Ev (d + 6, 1, 8, 310, 0, [.val (.ref 64), .val (.int p1), .val a_unk, .val a_unk], [], (126, 120, L, [Y, T, H, H2, RV, RU, ST, NS, I0, I1, I2, BO, FI, RG, GU, PU, MA, MN, MS, OT, SC], [192, 256, 384, 320, w, r5, 576, 640, 704], Lg)) o from key _ rfl
  intro o ho
  obtain ⟨zt1, zh2, h⟩ := bnd h
  have zj3 : ∀ (v1 : Int32), v1 = zt1 → Ev (d + 6, 1, 8, 310, 15, [.val (.ref 64), .val (.int p1), .val a_unk, .val a_unk], [.int v1, .ref 64], (126, 120, L, [Y, T, H, H2, RV, RU, ST, NS, I0, I1, I2, BO, FI, RG, GU, PU, MA, MN, MS, OT, SC], [192, 256, 384, 320, w, r5, 576, 640, 704], Lg)) o := by
    intro v1 ze4
    subst ze4
    obtain ⟨⟨q2, Y_3⟩, zh5, h⟩ := bnd h
    have zh5 : f_Y_refuseUnless Y v1 = some (q2, Y_3) := zh5
    have ze6 := R_f_Y_refuseUnless_1 (d + 5) Y T H H2 RV RU ST NS I0 I1 I2 BO FI RG GU PU MA MN MS OT SC w r5 L Lg v1 zh5
    cases q2 with
    | zero =>
      have h := itp h rfl
      suffices e : Ev (d + 6, 0, 0, 310, 18, [.val (.ref 64), .val (.int p1), .val a_unk, .val a_unk], [], (126, 120, L, [Y_3, T, H, H2, RV, RU, ST, NS, I0, I1, I2, BO, FI, RG, GU, PU, MA, MN, MS, OT, SC], [192, 256, 384, 320, w, r5, 576, 640, 704], Lg)) o from ev_call (fun v μ => (d + 6, 0, 0, 310, 18, [.val (.ref 64), .val (.int p1), .val a_unk, .val a_unk], v.toList ++ [], μ)) 1 ze6 e (fun n => Eq.refl _)
      obtain ⟨⟨BO_5, GU_6⟩, zh7, h⟩ := bnd h
      have zh7 : f_Y_lookAhead H NS BO GU = some (BO_5, GU_6) := zh7
      have ze8 := R_f_Y_lookAhead_1 (d + 2) Y_3 T H H2 RV RU ST NS I0 I1 I2 BO FI RG GU PU MA MN MS OT SC w r5 L Lg zh7
      suffices e : Ev (d + 6, 0, 0, 310, 22, [.val (.ref 64), .val (.int p1), .val a_unk, .val a_unk], [.ref 960], (126, 120, L, [Y_3, T, H, H2, RV, RU, ST, NS, I0, I1, I2, BO_5, FI, RG, GU_6, PU, MA, MN, MS, OT, SC], [192, 256, 384, 320, w, 192, 576, 640, 704], Lg)) o from ev_call (fun v μ => (d + 6, 0, 0, 310, 22, [.val (.ref 64), .val (.int p1), .val a_unk, .val a_unk], v.toList ++ [], μ)) 2 ze8 e (fun n => Eq.refl _)
      obtain ⟨⟨x7, BO_8, GU_9⟩, zh9, h⟩ := bnd h
      have zh9 : f_Guide_firstOrder H BO_5 GU_6 = some (x7, BO_8, GU_9) := zh9
      have ze10 := R_f_Guide_firstOrder_0 (d + 0) Y_3 T H H2 RV RU ST NS I0 I1 I2 BO_5 FI RG GU_6 PU MA MN MS OT SC 192 256 384 320 w 576 640 704 L Lg zh9
      suffices e : Ev (d + 6, 0, 0, 310, 25, [.val (.ref 64), .val (.int p1), .val a_unk, .val a_unk], [.long x7], (126, 120, L, [Y_3, T, H, H2, RV, RU, ST, NS, I0, I1, I2, BO_8, FI, RG, GU_9, PU, MA, MN, MS, OT, SC], [192, 256, 384, 320, w, 192, 576, 640, 704], Lg)) o from ev_call (fun v μ => (d + 6, 0, 0, 310, 25, [.val (.ref 64), .val (.int p1), .val a_unk, .val a_unk], v.toList ++ [], μ)) 1 ze10 e (fun n => Eq.refl _)
      obtain ⟨zt11, zh12, h⟩ := bnd h
      have zj13 : zt11 = .inl () → Ev (d + 6, 0, 0, 310, 52, [.val (.ref 64), .val (.int p1), .val (.long x7), .second], [], (126, 120, L, [Y_3, T, H, H2, RV, RU, ST, NS, I0, I1, I2, BO_8, FI, RG, GU_9, PU, MA, MN, MS, OT, SC], [192, 256, 384, 320, w, 192, 576, 640, 704], Lg)) o := by
        intro ze14
        have h := sum_l h ze14
        have ze15 := Option.some.inj h
        subst ze15
        exact ev_rete 2 ho (fun n => Eq.refl _)
      by_cases zc16 : p1 ≠ 0
      · have zh12 := itp zh12 zc16
        suffices e : Ev (d + 6, 0, 0, 310, 52, [.val (.ref 64), .val (.int p1), .val (.long x7), .second], [], (126, 120, L, [Y_3, T, H, H2, RV, RU, ST, NS, I0, I1, I2, BO_8, FI, RG, GU_9, PU, MA, MN, MS, OT, SC], [192, 256, 384, 320, w, 192, 576, 640, 704], Lg)) o from ev_t (c := p1 ≠ 0) _ _ 3  zc16 e (fun n => Eq.refl _)
        exact ev_b 0 (zj13  (Option.some.inj zh12).symm ) (fun n => Eq.refl _)
      · have zh12 := itn zh12 zc16
        suffices e : Ev (d + 6, 0, 0, 310, 30, [.val (.ref 64), .val (.int p1), .val (.long x7), .second], [], (126, 120, L, [Y_3, T, H, H2, RV, RU, ST, NS, I0, I1, I2, BO_8, FI, RG, GU_9, PU, MA, MN, MS, OT, SC], [192, 256, 384, 320, w, 192, 576, 640, 704], Lg)) o from ev_f (c := p1 ≠ 0) _ _ 3  zc16 e (fun n => Eq.refl _)
        by_cases zc17 : (a_cmpL x7 (-1 : Int64)) = 0
        · have zh12 := itp zh12 zc17
          suffices e : Ev (d + 6, 0, 0, 310, 52, [.val (.ref 64), .val (.int p1), .val (.long x7), .second], [], (126, 120, L, [Y_3, T, H, H2, RV, RU, ST, NS, I0, I1, I2, BO_8, FI, RG, GU_9, PU, MA, MN, MS, OT, SC], [192, 256, 384, 320, w, 192, 576, 640, 704], Lg)) o from ev_t (c := (a_cmpL x7 (-1 : Int64)) = 0) _ _ 4  zc17 e (fun n => Eq.refl _)
          exact ev_b 0 (zj13  (Option.some.inj zh12).symm ) (fun n => Eq.refl _)
        · have zh12 := itn zh12 zc17
          suffices e : Ev (d + 6, 0, 0, 310, 38, [.val (.ref 64), .val (.int p1), .val (.long x7), .second], [], (126, 120, L, [Y_3, T, H, H2, RV, RU, ST, NS, I0, I1, I2, BO_8, FI, RG, GU_9, PU, MA, MN, MS, OT, SC], [192, 256, 384, 320, w, 192, 576, 640, 704], Lg)) o from ev_f (c := (a_cmpL x7 (-1 : Int64)) = 0) _ _ 4  zc17 e (fun n => Eq.refl _)
          obtain ⟨x10, zh18, zh12⟩ := bnd zh12
          have zh18 : f_Integer_bitCount (GU_9 0 4) = some x10 := zh18
          have ze19 := R_f_Integer_bitCount_0 (d + 5) Y_3 T H H2 RV RU ST NS I0 I1 I2 BO_8 FI RG GU_9 PU MA MN MS OT SC 192 256 384 320 w 192 576 640 704 L Lg (GU_9 0 4) zh18
          suffices e : Ev (d + 6, 0, 0, 310, 48, [.val (.ref 64), .val (.int p1), .val (.long x7), .second], [.int x10], (126, 120, L, [Y_3, T, H, H2, RV, RU, ST, NS, I0, I1, I2, BO_8, FI, RG, GU_9, PU, MA, MN, MS, OT, SC], [192, 256, 384, 320, w, 192, 576, 640, 704], Lg)) o from ev_call (fun v μ => (d + 6, 0, 0, 310, 48, [.val (.ref 64), .val (.int p1), .val (.long x7), .second], v.toList ++ [], μ)) 4 ze19 e (fun n => Eq.refl _)
          have zh20 := sum_r h (Option.some.inj zh12).symm
          have ze21 := Option.some.inj zh20
          subst ze21
          exact ev_rete 3 ho (fun n => Eq.refl _)
    | succ q2 =>
      have h := itn h (Nat.succ_ne_zero q2)
      have ze22 := Option.some.inj h
      subst ze22
      subst ho
      exact ev_thr (fun v μ => (d + 6, 0, 0, 310, 18, [.val (.ref 64), .val (.int p1), .val a_unk, .val a_unk], v.toList ++ [], μ)) 1 ze6 (fun n => Eq.refl _) (fun n => rfl)
  obtain ⟨zt23, zh24, zh2⟩ := bnd zh2
  have zj25 : zt23 = .inl () → Ev (d + 6, 1, 8, 310, 14, [.val (.ref 64), .val (.int p1), .val a_unk, .val a_unk], [.ref 64], (126, 120, L, [Y, T, H, H2, RV, RU, ST, NS, I0, I1, I2, BO, FI, RG, GU, PU, MA, MN, MS, OT, SC], [192, 256, 384, 320, w, r5, 576, 640, 704], Lg)) o := by
    intro ze26
    have zh2 := sum_l zh2 ze26
    exact ev_b 1 (zj3 0 (Option.some.inj zh2) ) (fun n => Eq.refl _)
  by_cases zc27 : p1 < 0
  · have zh24 := itp zh24 zc27
    suffices e : Ev (d + 6, 1, 8, 310, 14, [.val (.ref 64), .val (.int p1), .val a_unk, .val a_unk], [.ref 64], (126, 120, L, [Y, T, H, H2, RV, RU, ST, NS, I0, I1, I2, BO, FI, RG, GU, PU, MA, MN, MS, OT, SC], [192, 256, 384, 320, w, r5, 576, 640, 704], Lg)) o from ev_t (c := p1 < 0) _ _ 3  zc27 e (fun n => Eq.refl _)
    exact ev_b 0 (zj25  (Option.some.inj zh24).symm ) (fun n => Eq.refl _)
  · have zh24 := itn zh24 zc27
    suffices e : Ev (d + 6, 1, 8, 310, 5, [.val (.ref 64), .val (.int p1), .val a_unk, .val a_unk], [.ref 64], (126, 120, L, [Y, T, H, H2, RV, RU, ST, NS, I0, I1, I2, BO, FI, RG, GU, PU, MA, MN, MS, OT, SC], [192, 256, 384, 320, w, r5, 576, 640, 704], Lg)) o from ev_f (c := p1 < 0) _ _ 3  zc27 e (fun n => Eq.refl _)
    by_cases zc28 : 1 < p1
    · have zh24 := itp zh24 zc28
      suffices e : Ev (d + 6, 1, 8, 310, 14, [.val (.ref 64), .val (.int p1), .val a_unk, .val a_unk], [.ref 64], (126, 120, L, [Y, T, H, H2, RV, RU, ST, NS, I0, I1, I2, BO, FI, RG, GU, PU, MA, MN, MS, OT, SC], [192, 256, 384, 320, w, r5, 576, 640, 704], Lg)) o from ev_t (c := 1 < p1) _ _ 3  zc28 e (fun n => Eq.refl _)
      exact ev_b 0 (zj25  (Option.some.inj zh24).symm ) (fun n => Eq.refl _)
    · have zh24 := itn zh24 zc28
      suffices e : Ev (d + 6, 1, 8, 310, 10, [.val (.ref 64), .val (.int p1), .val a_unk, .val a_unk], [.ref 64], (126, 120, L, [Y, T, H, H2, RV, RU, ST, NS, I0, I1, I2, BO, FI, RG, GU, PU, MA, MN, MS, OT, SC], [192, 256, 384, 320, w, r5, 576, 640, 704], Lg)) o from ev_f (c := 1 < p1) _ _ 3  zc28 e (fun n => Eq.refl _)
      have zh29 := sum_r zh2 (Option.some.inj zh24).symm
      exact ev_b 2 (zj3 1 (Option.some.inj zh29) ) (fun n => Eq.refl _)
set_option maxRecDepth 1000000 in
set_option maxHeartbeats 4000000 in
theorem R_f_Guide_nextOf_1 (d : Nat) (Y T H2 H RA RB ST NS I0 I1 I2 BO FI RG GU PU MA MN MS OT SC : Nat → Nat → Int32) (r0 r1 r2 r3 w r6 r7 r8 : Nat) (L : Nat) (Lg : Int64) (p1 : Int32) {r : Int32} (h : f_Guide_nextOf H GU p1 = some r) : Ev (d + 0, 0, 0, 195, 0, [.val (.ref 960), .val (.int p1), .val a_unk], [], (126, 120, L, [Y, T, H2, H, RA, RB, ST, NS, I0, I1, I2, BO, FI, RG, GU, PU, MA, MN, MS, OT, SC], [r0, r1, r2, r3, w, 256, r6, r7, r8], Lg)) ((0, some (.int r), (126, 120, L, [Y, T, H2, H, RA, RB, ST, NS, I0, I1, I2, BO, FI, RG, GU, PU, MA, MN, MS, OT, SC], [r0, r1, r2, r3, w, 256, r6, r7, r8], Lg)) : AOut) := by
  suffices key : ∀ o : AOut, ((0, some (.int r), (126, 120, L, [Y, T, H2, H, RA, RB, ST, NS, I0, I1, I2, BO, FI, RG, GU, PU, MA, MN, MS, OT, SC], [r0, r1, r2, r3, w, 256, r6, r7, r8], Lg)) : AOut) = o → Ev (d + 0, 0, 0, 195, 0, [.val (.ref 960), .val (.int p1), .val a_unk], [], (126, 120, L, [Y, T, H2, H, RA, RB, ST, NS, I0, I1, I2, BO, FI, RG, GU, PU, MA, MN, MS, OT, SC], [r0, r1, r2, r3, w, 256, r6, r7, r8], Lg)) o from key _ rfl
  intro o ho
  obtain ⟨zb1, zh2, h⟩ := bnd h
  suffices e : Ev (d + 0, 0, 0, 195, 2, [.val (.ref 960), .val (.int p1), .val (.int 0)], [], (126, 120, L, [Y, T, H2, H, RA, RB, ST, NS, I0, I1, I2, BO, FI, RG, GU, PU, MA, MN, MS, OT, SC], [r0, r1, r2, r3, w, 256, r6, r7, r8], Lg)) o from ev_b 2 e (fun n => Eq.refl _)
  refine ev_loop (δ := Unit) (fun a j => (d + 0, 0, 0, 195, 2, [.val (.ref 960), .val (.int p1), .val (.int a)], [], (126, 120, L, [Y, T, H2, H, RA, RB, ST, NS, I0, I1, I2, BO, FI, RG, GU, PU, MA, MN, MS, OT, SC], [r0, r1, r2, r3, w, 256, r6, r7, r8], Lg))) (fun b => sumE b (fun b => ∀ s3 : Value, Ev (d + 0, 0, 0, 195, 52, [.val (.ref 960), .val (.int p1), .val s3], [], (126, 120, L, [Y, T, H2, H, RA, RB, ST, NS, I0, I1, I2, BO, FI, RG, GU, PU, MA, MN, MS, OT, SC], [r0, r1, r2, r3, w, 256, r6, r7, r8], Lg)) o) (fun b => ((0, some (.int b), (126, 120, L, [Y, T, H2, H, RA, RB, ST, NS, I0, I1, I2, BO, FI, RG, GU, PU, MA, MN, MS, OT, SC], [r0, r1, r2, r3, w, 256, r6, r7, r8], Lg)) : AOut) = o)) ?_ a_F 0 zb1 zh2 ?_ ()
  · rintro v1 zr6 zh5 zi3 zx4 ⟨⟩
    have zh5 : f_Guide_nextOf_l2 H GU p1 v1 = some zr6 := zh5
    suffices e : Ev (d + 0, 0, 0, 195, 10, [.val (.ref 960), .val (.int p1), .val (.int v1)], [.ref 256, .int v1], (126, 120, L, [Y, T, H2, H, RA, RB, ST, NS, I0, I1, I2, BO, FI, RG, GU, PU, MA, MN, MS, OT, SC], [r0, r1, r2, r3, w, 256, r6, r7, r8], Lg)) o from ev_b 4 e (fun n => Eq.refl _)
    by_cases zc7 : (H 0 3) ≤ v1
    · have zh5 := itp zh5 zc7
      suffices e : Ev (d + 0, 0, 0, 195, 52, [.val (.ref 960), .val (.int p1), .val (.int v1)], [], (126, 120, L, [Y, T, H2, H, RA, RB, ST, NS, I0, I1, I2, BO, FI, RG, GU, PU, MA, MN, MS, OT, SC], [r0, r1, r2, r3, w, 256, r6, r7, r8], Lg)) o from ev_t (c := (H 0 3) ≤ v1) _ _ 2  zc7 e (fun n => Eq.refl _)
      exact ev_b 0 (zx4 _ (Option.some.inj zh5).symm (.int v1)) (fun n => Eq.refl _)
    · have zh5 := itn zh5 zc7
      suffices e : Ev (d + 0, 0, 0, 195, 16, [.val (.ref 960), .val (.int p1), .val (.int v1)], [], (126, 120, L, [Y, T, H2, H, RA, RB, ST, NS, I0, I1, I2, BO, FI, RG, GU, PU, MA, MN, MS, OT, SC], [r0, r1, r2, r3, w, 256, r6, r7, r8], Lg)) o from ev_f (c := (H 0 3) ≤ v1) _ _ 2  zc7 e (fun n => Eq.refl _)
      by_cases zc8 : (((GU 0 4) &&& (p1 ^^^ (-1))) &&& (a_shl 1 v1)) = 0
      · have zh5 := itp zh5 zc8
        suffices e : Ev (d + 0, 0, 0, 195, 46, [.val (.ref 960), .val (.int p1), .val (.int v1)], [], (126, 120, L, [Y, T, H2, H, RA, RB, ST, NS, I0, I1, I2, BO, FI, RG, GU, PU, MA, MN, MS, OT, SC], [r0, r1, r2, r3, w, 256, r6, r7, r8], Lg)) o from ev_t (c := (((GU 0 4) &&& (p1 ^^^ (-1))) &&& (a_shl 1 v1)) = 0) _ _ 11  zc8 e (fun n => Eq.refl _)
        exact ev_b 2 (zi3 _ (Option.some.inj zh5).symm ()) (fun n => Eq.refl _)
      · have zh5 := itn zh5 zc8
        suffices e : Ev (d + 0, 0, 0, 195, 31, [.val (.ref 960), .val (.int p1), .val (.int v1)], [], (126, 120, L, [Y, T, H2, H, RA, RB, ST, NS, I0, I1, I2, BO, FI, RG, GU, PU, MA, MN, MS, OT, SC], [r0, r1, r2, r3, w, 256, r6, r7, r8], Lg)) o from ev_f (c := (((GU 0 4) &&& (p1 ^^^ (-1))) &&& (a_shl 1 v1)) = 0) _ _ 11  zc8 e (fun n => Eq.refl _)
        obtain ⟨x2, zh9, zh5⟩ := bnd zh5
        have zh9 : rdx (GU 3) 1024 (p1 ||| (a_shl 1 v1)) = some x2 := zh9
        suffices e : Ev (d + 0, 0, 0, 195, 41, [.val (.ref 960), .val (.int p1), .val (.int v1)], [.int x2], (126, 120, L, [Y, T, H2, H, RA, RB, ST, NS, I0, I1, I2, BO, FI, RG, GU, PU, MA, MN, MS, OT, SC], [r0, r1, r2, r3, w, 256, r6, r7, r8], Lg)) o from ev_opt (fun x2 => (d + 0, 0, 0, 195, 41, [.val (.ref 960), .val (.int p1), .val (.int v1)], [.int x2], (126, 120, L, [Y, T, H2, H, RA, RB, ST, NS, I0, I1, I2, BO, FI, RG, GU, PU, MA, MN, MS, OT, SC], [r0, r1, r2, r3, w, 256, r6, r7, r8], Lg))) 8 zh9 e (fun n => Eq.refl _)
        by_cases zc10 : x2 = 0
        · have zh5 := itp zh5 zc10
          suffices e : Ev (d + 0, 0, 0, 195, 46, [.val (.ref 960), .val (.int p1), .val (.int v1)], [], (126, 120, L, [Y, T, H2, H, RA, RB, ST, NS, I0, I1, I2, BO, FI, RG, GU, PU, MA, MN, MS, OT, SC], [r0, r1, r2, r3, w, 256, r6, r7, r8], Lg)) o from ev_t (c := x2 = 0) _ _ 1  zc10 e (fun n => Eq.refl _)
          exact ev_b 2 (zi3 _ (Option.some.inj zh5).symm ()) (fun n => Eq.refl _)
        · have zh5 := itn zh5 zc10
          suffices e : Ev (d + 0, 0, 0, 195, 44, [.val (.ref 960), .val (.int p1), .val (.int v1)], [], (126, 120, L, [Y, T, H2, H, RA, RB, ST, NS, I0, I1, I2, BO, FI, RG, GU, PU, MA, MN, MS, OT, SC], [r0, r1, r2, r3, w, 256, r6, r7, r8], Lg)) o from ev_f (c := x2 = 0) _ _ 1  zc10 e (fun n => Eq.refl _)
          exact ev_rete 2 (zx4 _ (Option.some.inj zh5).symm) (fun n => Eq.refl _)
  · rcases zb1 with ⟨⟩ | zr6
    · intro s3
      have ze11 := Option.some.inj h
      subst ze11
      exact ev_rete 2 ho (fun n => Eq.refl _)
    · have zh12 : some zr6 = some r := h
      exact (congrArg (fun q => ((0, some (.int q), (126, 120, L, [Y, T, H2, H, RA, RB, ST, NS, I0, I1, I2, BO, FI, RG, GU, PU, MA, MN, MS, OT, SC], [r0, r1, r2, r3, w, 256, r6, r7, r8], Lg)) : AOut)) (Option.some.inj zh12)).trans ho
set_option maxRecDepth 1000000 in
set_option maxHeartbeats 4000000 in
theorem R_f_Guide_firstOrder_1 (d : Nat) (Y T H2 H RA RB ST NS I0 I1 I2 BO FI RG GU PU MA MN MS OT SC : Nat → Nat → Int32) (r0 r1 r2 r3 w r6 r7 r8 : Nat) (L : Nat) (Lg : Int64) {r : Int64 × (Nat → Nat → Int32) × (Nat → Nat → Int32)} (h : f_Guide_firstOrder H BO GU = some r) : Ev (d + 5, 0, 0, 194, 0, [.val (.ref 960), .val a_unk, .val a_unk, .val a_unk, .val a_unk, .val a_unk], [], (126, 120, L, [Y, T, H2, H, RA, RB, ST, NS, I0, I1, I2, BO, FI, RG, GU, PU, MA, MN, MS, OT, SC], [r0, r1, r2, r3, w, 256, r6, r7, r8], Lg)) ((0, some (.long r.1), (126, 120, L, [Y, T, H2, H, RA, RB, ST, NS, I0, I1, I2, r.2.1, FI, RG, r.2.2, PU, MA, MN, MS, OT, SC], [r0, r1, r2, r3, w, 256, r6, r7, r8], Lg)) : AOut) := by
  suffices key : ∀ o : AOut, ((0, some (.long r.1), (126, 120, L, [Y, T, H2, H, RA, RB, ST, NS, I0, I1, I2, r.2.1, FI, RG, r.2.2, PU, MA, MN, MS, OT, SC], [r0, r1, r2, r3, w, 256, r6, r7, r8], Lg)) : AOut) = o → Ev (d + 5, 0, 0, 194, 0, [.val (.ref 960), .val a_unk, .val a_unk, .val a_unk, .val a_unk, .val a_unk], [], (126, 120, L, [Y, T, H2, H, RA, RB, ST, NS, I0, I1, I2, BO, FI, RG, GU, PU, MA, MN, MS, OT, SC], [r0, r1, r2, r3, w, 256, r6, r7, r8], Lg)) o from key _ rfl
  intro o ho
  suffices e : Ev (d + 5, 0, 0, 194, 11, [.val (.ref 960), .val a_unk, .val a_unk, .val a_unk, .val a_unk, .val a_unk], [.ref 256, .int (GU 0 4)], (126, 120, L, [Y, T, H2, H, RA, RB, ST, NS, I0, I1, I2, BO, FI, RG, GU, PU, MA, MN, MS, OT, SC], [r0, r1, r2, r3, w, 256, r6, r7, r8], Lg)) o from ev_b 5 e (fun n => Eq.refl _)
  by_cases zc1 : ((GU 0 4) &&& (H 0 5)) = 0
  · have h := itp h zc1
    suffices e : Ev (d + 5, 0, 0, 194, 22, [.val (.ref 960), .val a_unk, .val a_unk, .val a_unk, .val a_unk, .val a_unk], [], (126, 120, L, [Y, T, H2, H, RA, RB, ST, NS, I0, I1, I2, BO, FI, RG, GU, PU, MA, MN, MS, OT, SC], [r0, r1, r2, r3, w, 256, r6, r7, r8], Lg)) o from ev_t (c := ((GU 0 4) &&& (H 0 5)) = 0) _ _ 3  zc1 e (fun n => Eq.refl _)
    obtain ⟨zb2, zh3, h⟩ := bnd h
    suffices e : Ev (d + 5, 0, 0, 194, 27, [.val (.ref 960), .val (.int (GU 0 4)), .val a_unk, .val a_unk, .val a_unk, .val a_unk], [], (126, 120, L, [Y, T, H2, H, RA, RB, ST, NS, I0, I1, I2, BO, FI, RG, GU, PU, MA, MN, MS, OT, SC], [r0, r1, r2, r3, w, 256, r6, r7, r8], Lg)) o from ev_b 3 e (fun n => Eq.refl _)
    refine ev_loop (δ := Unit) (fun a j => (d + 5, 0, 0, 194, 27, [.val (.ref 960), .val (.int a.1), .val a_unk, .val a_unk, .val a_unk, .val a_unk], [], (126, 120, L, [Y, T, H2, H, RA, RB, ST, NS, I0, I1, I2, a.2.1, FI, RG, a.2.2, PU, MA, MN, MS, OT, SC], [r0, r1, r2, r3, w, 256, r6, r7, r8], Lg))) (fun b => ∀ s11 : Value, Ev (d + 5, 0, 0, 194, 79, [.val (.ref 960), .val s11, .val a_unk, .val a_unk, .val a_unk, .val a_unk], [], (126, 120, L, [Y, T, H2, H, RA, RB, ST, NS, I0, I1, I2, b.1, FI, RG, b.2, PU, MA, MN, MS, OT, SC], [r0, r1, r2, r3, w, 256, r6, r7, r8], Lg)) o) ?_ a_F ((GU 0 4), BO, GU) zb2 zh3 ?_ ()
    · rintro ⟨v1, BO_2, GU_3⟩ zr7 zh6 zi4 zx5 ⟨⟩
      have zh6 : f_Guide_firstOrder_l27 H v1 BO_2 GU_3 = some zr7 := zh6
      by_cases zc8 : v1 ≤ 0
      · have zh6 := itp zh6 zc8
        suffices e : Ev (d + 5, 0, 0, 194, 79, [.val (.ref 960), .val (.int v1), .val a_unk, .val a_unk, .val a_unk, .val a_unk], [], (126, 120, L, [Y, T, H2, H, RA, RB, ST, NS, I0, I1, I2, BO_2, FI, RG, GU_3, PU, MA, MN, MS, OT, SC], [r0, r1, r2, r3, w, 256, r6, r7, r8], Lg)) o from ev_t (c := v1 ≤ 0) _ _ 2  zc8 e (fun n => Eq.refl _)
        exact ev_b 0 (zx5 _ (Option.some.inj zh6).symm (.int v1)) (fun n => Eq.refl _)
      · have zh6 := itn zh6 zc8
        suffices e : Ev (d + 5, 0, 0, 194, 31, [.val (.ref 960), .val (.int v1), .val a_unk, .val a_unk, .val a_unk, .val a_unk], [], (126, 120, L, [Y, T, H2, H, RA, RB, ST, NS, I0, I1, I2, BO_2, FI, RG, GU_3, PU, MA, MN, MS, OT, SC], [r0, r1, r2, r3, w, 256, r6, r7, r8], Lg)) o from ev_f (c := v1 ≤ 0) _ _ 2  zc8 e (fun n => Eq.refl _)
        obtain ⟨zt9, zh10, zh6⟩ := bnd zh6
        have zj11 : ∀ (v8 : Int32) (BO_9 : (Nat → Nat → Int32)), (v8, BO_9) = zt9 → Ev (d + 5, 0, 0, 194, 66, [.val (.ref 960), .val (.int v1), .val a_unk, .val a_unk, .val a_unk, .val a_unk], [.int v8, .int v1, .ref 963], (126, 120, L, [Y, T, H2, H, RA, RB, ST, NS, I0, I1, I2, BO_9, FI, RG, GU_3, PU, MA, MN, MS, OT, SC], [r0, r1, r2, r3, w, 256, r6, r7, r8], Lg)) o := by
          intro v8 BO_9 ze12
          subst ze12
          obtain ⟨j10, zh13, zh6⟩ := bnd zh6
          have zh13 : ixx 1024 v1 = some j10 := zh13
          suffices e : Ev (d + 5, 0, 0, 194, 67, [.val (.ref 960), .val (.int v1), .val a_unk, .val a_unk, .val a_unk, .val a_unk], [], (126, 120, L, [Y, T, H2, H, RA, RB, ST, NS, I0, I1, I2, BO_9, FI, RG, (u2 GU_3 3 j10 (zb v8)), PU, MA, MN, MS, OT, SC], [r0, r1, r2, r3, w, 256, r6, r7, r8], Lg)) o from ev_opt (fun j10 => (d + 5, 0, 0, 194, 67, [.val (.ref 960), .val (.int v1), .val a_unk, .val a_unk, .val a_unk, .val a_unk], [], (126, 120, L, [Y, T, H2, H, RA, RB, ST, NS, I0, I1, I2, BO_9, FI, RG, (u2 GU_3 3 j10 (zb v8)), PU, MA, MN, MS, OT, SC], [r0, r1, r2, r3, w, 256, r6, r7, r8], Lg))) 1 zh13 e (fun n => Eq.refl _)
          exact ev_b 8 (zi4 _ (Option.some.inj zh6).symm ()) (fun n => Eq.refl _)
        obtain ⟨zt14, zh15, zh10⟩ := bnd zh10
        have zj16 : ∀ (BO_7 : (Nat → Nat → Int32)), zt14 = .inl BO_7 → Ev (d + 5, 0, 0, 194, 65, [.val (.ref 960), .val (.int v1), .val a_unk, .val a_unk, .val a_unk, .val a_unk], [.int v1, .ref 963], (126, 120, L, [Y, T, H2, H, RA, RB, ST, NS, I0, I1, I2, BO_7, FI, RG, GU_3, PU, MA, MN, MS, OT, SC], [r0, r1, r2, r3, w, 256, r6, r7, r8], Lg)) o := by
          intro BO_7 ze17
          have zh10 := sum_l zh10 ze17
          exact ev_b 1 (zj11 0 BO_7 (Option.some.inj zh10) ) (fun n => Eq.refl _)
        obtain ⟨zt18, zh19, zh15⟩ := bnd zh15
        have zj20 : zt18 = .inl () → Ev (d + 5, 0, 0, 194, 53, [.val (.ref 960), .val (.int v1), .val a_unk, .val a_unk, .val a_unk, .val a_unk], [.int v1, .ref 963], (126, 120, L, [Y, T, H2, H, RA, RB, ST, NS, I0, I1, I2, BO_2, FI, RG, GU_3, PU, MA, MN, MS, OT, SC], [r0, r1, r2, r3, w, 256, r6, r7, r8], Lg)) o := by
          intro ze21
          have zh15 := sum_l zh15 ze21
          obtain ⟨⟨x5, BO_6⟩, zh22, zh15⟩ := bnd zh15
          have zh22 : f_Guide_lawfulAfter H BO_2 GU_3 v1 = some (x5, BO_6) := zh22
          have ze23 := R_f_Guide_lawfulAfter_1 (d + 0) Y T H2 H RA RB ST NS I0 I1 I2 BO_2 FI RG GU_3 PU MA MN MS OT SC r0 r1 r2 r3 w r6 r7 r8 L Lg v1 zh22
          suffices e : Ev (d + 5, 0, 0, 194, 58, [.val (.ref 960), .val (.int v1), .val a_unk, .val a_unk, .val a_unk, .val a_unk], [.int x5, .int v1, .ref 963], (126, 120, L, [Y, T, H2, H, RA, RB, ST, NS, I0, I1, I2, BO_6, FI, RG, GU_3, PU, MA, MN, MS, OT, SC], [r0, r1, r2, r3, w, 256, r6, r7, r8], Lg)) o from ev_call (fun v μ => (d + 5, 0, 0, 194, 58, [.val (.ref 960), .val (.int v1), .val a_unk, .val a_unk, .val a_unk, .val a_unk], v.toList ++ [.int v1, .ref 963], μ)) 3 ze23 e (fun n => Eq.refl _)
          by_cases zc24 : x5 = 0
          · have zh15 := itp zh15 zc24
            suffices e : Ev (d + 5, 0, 0, 194, 65, [.val (.ref 960), .val (.int v1), .val a_unk, .val a_unk, .val a_unk, .val a_unk], [.int v1, .ref 963], (126, 120, L, [Y, T, H2, H, RA, RB, ST, NS, I0, I1, I2, BO_6, FI, RG, GU_3, PU, MA, MN, MS, OT, SC], [r0, r1, r2, r3, w, 256, r6, r7, r8], Lg)) o from ev_t (c := x5 = 0) _ _ 1  zc24 e (fun n => Eq.refl _)
            exact ev_b 0 (zj16 BO_6 (Option.some.inj zh15).symm ) (fun n => Eq.refl _)
          · have zh15 := itn zh15 zc24
            suffices e : Ev (d + 5, 0, 0, 194, 61, [.val (.ref 960), .val (.int v1), .val a_unk, .val a_unk, .val a_unk, .val a_unk], [.int v1, .ref 963], (126, 120, L, [Y, T, H2, H, RA, RB, ST, NS, I0, I1, I2, BO_6, FI, RG, GU_3, PU, MA, MN, MS, OT, SC], [r0, r1, r2, r3, w, 256, r6, r7, r8], Lg)) o from ev_f (c := x5 = 0) _ _ 1  zc24 e (fun n => Eq.refl _)
            have zh25 := sum_r zh10 (Option.some.inj zh15).symm
            exact ev_b 2 (zj11 1 BO_6 (Option.some.inj zh25) ) (fun n => Eq.refl _)
        by_cases zc26 : v1 = (GU_3 0 4)
        · have zh19 := itp zh19 zc26
          suffices e : Ev (d + 5, 0, 0, 194, 53, [.val (.ref 960), .val (.int v1), .val a_unk, .val a_unk, .val a_unk, .val a_unk], [.int v1, .ref 963], (126, 120, L, [Y, T, H2, H, RA, RB, ST, NS, I0, I1, I2, BO_2, FI, RG, GU_3, PU, MA, MN, MS, OT, SC], [r0, r1, r2, r3, w, 256, r6, r7, r8], Lg)) o from ev_t (c := v1 = (GU_3 0 4)) _ _ 7  zc26 e (fun n => Eq.refl _)
          exact ev_b 0 (zj20  (Option.some.inj zh19).symm ) (fun n => Eq.refl _)
        · have zh19 := itn zh19 zc26
          suffices e : Ev (d + 5, 0, 0, 194, 44, [.val (.ref 960), .val (.int v1), .val a_unk, .val a_unk, .val a_unk, .val a_unk], [.int v1, .ref 963], (126, 120, L, [Y, T, H2, H, RA, RB, ST, NS, I0, I1, I2, BO_2, FI, RG, GU_3, PU, MA, MN, MS, OT, SC], [r0, r1, r2, r3, w, 256, r6, r7, r8], Lg)) o from ev_f (c := v1 = (GU_3 0 4)) _ _ 7  zc26 e (fun n => Eq.refl _)
          obtain ⟨x4, zh27, zh19⟩ := bnd zh19
          have zh27 : f_Guide_nextOf H GU_3 v1 = some x4 := zh27
          have ze28 := R_f_Guide_nextOf_1 (d + 4) Y T H2 H RA RB ST NS I0 I1 I2 BO_2 FI RG GU_3 PU MA MN MS OT SC r0 r1 r2 r3 w r6 r7 r8 L Lg v1 zh27
          suffices e : Ev (d + 5, 0, 0, 194, 49, [.val (.ref 960), .val (.int v1), .val a_unk, .val a_unk, .val a_unk, .val a_unk], [.int x4, .int v1, .ref 963], (126, 120, L, [Y, T, H2, H, RA, RB, ST, NS, I0, I1, I2, BO_2, FI, RG, GU_3, PU, MA, MN, MS, OT, SC], [r0, r1, r2, r3, w, 256, r6, r7, r8], Lg)) o from ev_call (fun v μ => (d + 5, 0, 0, 194, 49, [.val (.ref 960), .val (.int v1), .val a_unk, .val a_unk, .val a_unk, .val a_unk], v.toList ++ [.int v1, .ref 963], μ)) 3 ze28 e (fun n => Eq.refl _)
          by_cases zc29 : x4 = (-1)
          · have zh19 := itp zh19 zc29
            suffices e : Ev (d + 5, 0, 0, 194, 65, [.val (.ref 960), .val (.int v1), .val a_unk, .val a_unk, .val a_unk, .val a_unk], [.int v1, .ref 963], (126, 120, L, [Y, T, H2, H, RA, RB, ST, NS, I0, I1, I2, BO_2, FI, RG, GU_3, PU, MA, MN, MS, OT, SC], [r0, r1, r2, r3, w, 256, r6, r7, r8], Lg)) o from ev_t (c := x4 = (-1)) _ _ 2  zc29 e (fun n => Eq.refl _)
            have zh30 := sum_r zh15 (Option.some.inj zh19).symm
            exact ev_b 0 (zj16 BO_2 (Option.some.inj zh30).symm ) (fun n => Eq.refl _)
          · have zh19 := itn zh19 zc29
            suffices e : Ev (d + 5, 0, 0, 194, 53, [.val (.ref 960), .val (.int v1), .val a_unk, .val a_unk, .val a_unk, .val a_unk], [.int v1, .ref 963], (126, 120, L, [Y, T, H2, H, RA, RB, ST, NS, I0, I1, I2, BO_2, FI, RG, GU_3, PU, MA, MN, MS, OT, SC], [r0, r1, r2, r3, w, 256, r6, r7, r8], Lg)) o from ev_f (c := x4 = (-1)) _ _ 2  zc29 e (fun n => Eq.refl _)
            exact ev_b 0 (zj20  (Option.some.inj zh19).symm ) (fun n => Eq.refl _)
    · obtain ⟨BO_12, GU_13⟩ := zb2
      intro s11
      obtain ⟨x14, zh31, h⟩ := bnd h
      have zh31 : f_Integer_bitCount (GU_13 0 4) = some x14 := zh31
      have ze32 := R_f_Integer_bitCount_0 (d + 4) Y T H2 H RA RB ST NS I0 I1 I2 BO_12 FI RG GU_13 PU MA MN MS OT SC r0 r1 r2 r3 w 256 r6 r7 r8 L Lg (GU_13 0 4) zh31
      suffices e : Ev (d + 5, 0, 0, 194, 90, [.val (.ref 960), .val (.long (0 : Int64)), .second, .val (.int 0), .val a_unk, .val a_unk], [.int x14], (126, 120, L, [Y, T, H2, H, RA, RB, ST, NS, I0, I1, I2, BO_12, FI, RG, GU_13, PU, MA, MN, MS, OT, SC], [r0, r1, r2, r3, w, 256, r6, r7, r8], Lg)) o from ev_call (fun v μ => (d + 5, 0, 0, 194, 90, [.val (.ref 960), .val (.long (0 : Int64)), .second, .val (.int 0), .val a_unk, .val a_unk], v.toList ++ [], μ)) 7 ze32 e (fun n => Eq.refl _)
      obtain ⟨zb33, zh34, h⟩ := bnd h
      suffices e : Ev (d + 5, 0, 0, 194, 92, [.val (.ref 960), .val (.long (0 : Int64)), .second, .val (.int 0), .val (.int x14), .val a_unk], [], (126, 120, L, [Y, T, H2, H, RA, RB, ST, NS, I0, I1, I2, BO_12, FI, RG, GU_13, PU, MA, MN, MS, OT, SC], [r0, r1, r2, r3, w, 256, r6, r7, r8], Lg)) o from ev_b 1 e (fun n => Eq.refl _)
      refine ev_loop (δ := Value) (fun a j => (d + 5, 0, 0, 194, 92, [.val (.ref 960), .val (.long a.1), .second, .val (.int a.2.1), .val (.int a.2.2), .val j], [], (126, 120, L, [Y, T, H2, H, RA, RB, ST, NS, I0, I1, I2, BO_12, FI, RG, GU_13, PU, MA, MN, MS, OT, SC], [r0, r1, r2, r3, w, 256, r6, r7, r8], Lg))) (fun b => sumE b (fun b => ∀ s21 : Value, ∀ s22 : Value, ∀ s23 : Value, Ev (d + 5, 0, 0, 194, 137, [.val (.ref 960), .val (.long b), .second, .val s21, .val s22, .val s23], [], (126, 120, L, [Y, T, H2, H, RA, RB, ST, NS, I0, I1, I2, BO_12, FI, RG, GU_13, PU, MA, MN, MS, OT, SC], [r0, r1, r2, r3, w, 256, r6, r7, r8], Lg)) o) (fun b => ((0, some (.long b.1), (126, 120, L, [Y, T, H2, H, RA, RB, ST, NS, I0, I1, I2, b.2.1, FI, RG, b.2.2, PU, MA, MN, MS, OT, SC], [r0, r1, r2, r3, w, 256, r6, r7, r8], Lg)) : AOut) = o)) ?_ a_F ((0 : Int64), 0, x14) zb33 zh34 ?_ a_unk
      · rintro ⟨v15, v16, v17⟩ zr38 zh37 zi35 zx36 s18
        have zh37 : f_Guide_firstOrder_l92 H GU_13 BO_12 v15 v16 v17 = some zr38 := zh37
        by_cases zc39 : v17 ≤ 0
        · have zh37 := itp zh37 zc39
          suffices e : Ev (d + 5, 0, 0, 194, 137, [.val (.ref 960), .val (.long v15), .second, .val (.int v16), .val (.int v17), .val s18], [], (126, 120, L, [Y, T, H2, H, RA, RB, ST, NS, I0, I1, I2, BO_12, FI, RG, GU_13, PU, MA, MN, MS, OT, SC], [r0, r1, r2, r3, w, 256, r6, r7, r8], Lg)) o from ev_t (c := v17 ≤ 0) _ _ 2  zc39 e (fun n => Eq.refl _)
          exact ev_b 0 (zx36 _ (Option.some.inj zh37).symm (.int v16) (.int v17) s18) (fun n => Eq.refl _)
        · have zh37 := itn zh37 zc39
          suffices e : Ev (d + 5, 0, 0, 194, 97, [.val (.ref 960), .val (.long v15), .second, .val (.int v16), .val (.int v17), .val s18], [], (126, 120, L, [Y, T, H2, H, RA, RB, ST, NS, I0, I1, I2, BO_12, FI, RG, GU_13, PU, MA, MN, MS, OT, SC], [r0, r1, r2, r3, w, 256, r6, r7, r8], Lg)) o from ev_f (c := v17 ≤ 0) _ _ 2  zc39 e (fun n => Eq.refl _)
          obtain ⟨x19, zh40, zh37⟩ := bnd zh37
          have zh40 : f_Guide_nextOf H GU_13 v16 = some x19 := zh40
          have ze41 := R_f_Guide_nextOf_1 (d + 4) Y T H2 H RA RB ST NS I0 I1 I2 BO_12 FI RG GU_13 PU MA MN MS OT SC r0 r1 r2 r3 w r6 r7 r8 L Lg v16 zh40
          suffices e : Ev (d + 5, 0, 0, 194, 102, [.val (.ref 960), .val (.long v15), .second, .val (.int v16), .val (.int v17), .val s18], [.int x19], (126, 120, L, [Y, T, H2, H, RA, RB, ST, NS, I0, I1, I2, BO_12, FI, RG, GU_13, PU, MA, MN, MS, OT, SC], [r0, r1, r2, r3, w, 256, r6, r7, r8], Lg)) o from ev_call (fun v μ => (d + 5, 0, 0, 194, 102, [.val (.ref 960), .val (.long v15), .second, .val (.int v16), .val (.int v17), .val s18], v.toList ++ [], μ)) 3 ze41 e (fun n => Eq.refl _)
          by_cases zc42 : x19 ≠ (-1)
          · have zh37 := itp zh37 zc42
            suffices e : Ev (d + 5, 0, 0, 194, 114, [.val (.ref 960), .val (.long v15), .second, .val (.int v16), .val (.int v17), .val (.int x19)], [], (126, 120, L, [Y, T, H2, H, RA, RB, ST, NS, I0, I1, I2, BO_12, FI, RG, GU_13, PU, MA, MN, MS, OT, SC], [r0, r1, r2, r3, w, 256, r6, r7, r8], Lg)) o from ev_t (c := x19 ≠ (-1)) _ _ 4  zc42 e (fun n => Eq.refl _)
            suffices e : Ev (d + 5, 0, 0, 194, 134, [.val (.ref 960), .val (.long ((v15 * (10 : Int64)) + (Int32.toInt64 x19))), .second, .val (.int (v16 ||| (a_shl 1 x19))), .val (.int (v17 + (-1))), .val (.int x19)], [], (126, 120, L, [Y, T, H2, H, RA, RB, ST, NS, I0, I1, I2, BO_12, FI, RG, GU_13, PU, MA, MN, MS, OT, SC], [r0, r1, r2, r3, w, 256, r6, r7, r8], Lg)) o from ev_b 14 e (fun n => Eq.refl _)
            exact ev_b 1 (zi35 _ (Option.some.inj zh37).symm (.int x19)) (fun n => Eq.refl _)
          · have zh37 := itn zh37 zc42
            suffices e : Ev (d + 5, 0, 0, 194, 110, [.val (.ref 960), .val (.long v15), .second, .val (.int v16), .val (.int v17), .val (.int x19)], [], (126, 120, L, [Y, T, H2, H, RA, RB, ST, NS, I0, I1, I2, BO_12, FI, RG, GU_13, PU, MA, MN, MS, OT, SC], [r0, r1, r2, r3, w, 256, r6, r7, r8], Lg)) o from ev_f (c := x19 ≠ (-1)) _ _ 4  zc42 e (fun n => Eq.refl _)
            exact ev_rete 2 (zx36 _ (Option.some.inj zh37).symm) (fun n => Eq.refl _)
      · rcases zb33 with v20 | zr38
        · intro s21 s22 s23
          have ze43 := Option.some.inj h
          subst ze43
          exact ev_rete 2 ho (fun n => Eq.refl _)
        · have zh44 : some zr38 = some r := h
          exact (congrArg (fun q => ((0, some (.long q.1), (126, 120, L, [Y, T, H2, H, RA, RB, ST, NS, I0, I1, I2, q.2.1, FI, RG, q.2.2, PU, MA, MN, MS, OT, SC], [r0, r1, r2, r3, w, 256, r6, r7, r8], Lg)) : AOut)) (Option.some.inj zh44)).trans ho
  · have h := itn h zc1
    suffices e : Ev (d + 5, 0, 0, 194, 18, [.val (.ref 960), .val a_unk, .val a_unk, .val a_unk, .val a_unk, .val a_unk], [], (126, 120, L, [Y, T, H2, H, RA, RB, ST, NS, I0, I1, I2, BO, FI, RG, GU, PU, MA, MN, MS, OT, SC], [r0, r1, r2, r3, w, 256, r6, r7, r8], Lg)) o from ev_f (c := ((GU 0 4) &&& (H 0 5)) = 0) _ _ 3  zc1 e (fun n => Eq.refl _)
    have ze46 := Option.some.inj h
    subst ze46
    exact ev_rete 2 ho (fun n => Eq.refl _)
set_option maxRecDepth 1000000 in
set_option maxHeartbeats 4000000 in
theorem R_f_Y_order_2 (d : Nat) (Y T H2 H RU RV ST NS I0 I1 I2 BO FI RG GU PU MA MN MS OT SC : Nat → Nat → Int32) (w r5 : Nat) (L : Nat) (Lg : Int64) (p1 : Int32) {r : Nat × Int64 × (Nat → Nat → Int32) × (Nat → Nat → Int32) × (Nat → Nat → Int32) × Nat} (h : f_Y_order Y H NS BO GU 256 r5 p1 = some r) : Ev (d + 6, 1, 8, 310, 0, [.val (.ref 64), .val (.int p1), .val a_unk, .val a_unk], [], (126, 120, L, [Y, T, H2, H, RU, RV, ST, NS, I0, I1, I2, BO, FI, RG, GU, PU, MA, MN, MS, OT, SC], [256, 192, 320, 384, w, r5, 576, 640, 704], Lg)) ((r.1, a_ov r.1 (.long r.2.1), (126, 120, L, [r.2.2.1, T, H2, H, RU, RV, ST, NS, I0, I1, I2, r.2.2.2.1, FI, RG, r.2.2.2.2.1, PU, MA, MN, MS, OT, SC], [256, 192, 320, 384, w, r.2.2.2.2.2, 576, 640, 704], Lg)) : AOut) := by
  suffices key : ∀ o : AOut, ((r.1, a_ov r.1 (.long r.2.1), (126, 120, L, [r.2.2.1, T, H2, H, RU, RV, ST, NS, I0, I1, I2, r.2.2.2.1, FI, RG, r.2.2.2.2.1, PU, MA, MN, MS, OT, SC], [256, 192, 320, 384, w, r.2.2.2.2.2, 576, 640, 704], Lg)) : AOut) = o → Ev (d + 6, 1, 8, 310, 0, [.val (.ref 64), .val (.int p1), .val a_unk, .val a_unk], [], (126, 120, L, [Y, T, H2, H, RU, RV, ST, NS, I0, I1, I2, BO, FI, RG, GU, PU, MA, MN, MS, OT, SC], [256, 192, 320, 384, w, r5, 576, 640, 704], Lg)) o from key _ rfl
  intro o ho
  obtain ⟨zt1, zh2, h⟩ := bnd h
  have zj3 : ∀ (v1 : Int32), v1 = zt1 → Ev (d + 6, 1, 8, 310, 15, [.val (.ref 64), .val (.int p1), .val a_unk, .val a_unk], [.int v1, .ref 64], (126, 120, L, [Y, T, H2, H, RU, RV, ST, NS, I0, I1, I2, BO, FI, RG, GU, PU, MA, MN, MS, OT, SC], [256, 192, 320, 384, w, r5, 576, 640, 704], Lg)) o := by
    intro v1 ze4
    subst ze4
    obtain ⟨⟨q2, Y_3⟩, zh5, h⟩ := bnd h
    have zh5 : f_Y_refuseUnless Y v1 = some (q2, Y_3) := zh5
    have ze6 := R_f_Y_refuseUnless_2 (d + 5) Y T H2 H RU RV ST NS I0 I1 I2 BO FI RG GU PU MA MN MS OT SC w r5 L Lg v1 zh5
    cases q2 with
    | zero =>
      have h := itp h rfl
      suffices e : Ev (d + 6, 0, 0, 310, 18, [.val (.ref 64), .val (.int p1), .val a_unk, .val a_unk], [], (126, 120, L, [Y_3, T, H2, H, RU, RV, ST, NS, I0, I1, I2, BO, FI, RG, GU, PU, MA, MN, MS, OT, SC], [256, 192, 320, 384, w, r5, 576, 640, 704], Lg)) o from ev_call (fun v μ => (d + 6, 0, 0, 310, 18, [.val (.ref 64), .val (.int p1), .val a_unk, .val a_unk], v.toList ++ [], μ)) 1 ze6 e (fun n => Eq.refl _)
      obtain ⟨⟨BO_5, GU_6⟩, zh7, h⟩ := bnd h
      have zh7 : f_Y_lookAhead H NS BO GU = some (BO_5, GU_6) := zh7
      have ze8 := R_f_Y_lookAhead_2 (d + 2) Y_3 T H2 H RU RV ST NS I0 I1 I2 BO FI RG GU PU MA MN MS OT SC w r5 L Lg zh7
      suffices e : Ev (d + 6, 0, 0, 310, 22, [.val (.ref 64), .val (.int p1), .val a_unk, .val a_unk], [.ref 960], (126, 120, L, [Y_3, T, H2, H, RU, RV, ST, NS, I0, I1, I2, BO_5, FI, RG, GU_6, PU, MA, MN, MS, OT, SC], [256, 192, 320, 384, w, 256, 576, 640, 704], Lg)) o from ev_call (fun v μ => (d + 6, 0, 0, 310, 22, [.val (.ref 64), .val (.int p1), .val a_unk, .val a_unk], v.toList ++ [], μ)) 2 ze8 e (fun n => Eq.refl _)
      obtain ⟨⟨x7, BO_8, GU_9⟩, zh9, h⟩ := bnd h
      have zh9 : f_Guide_firstOrder H BO_5 GU_6 = some (x7, BO_8, GU_9) := zh9
      have ze10 := R_f_Guide_firstOrder_1 (d + 0) Y_3 T H2 H RU RV ST NS I0 I1 I2 BO_5 FI RG GU_6 PU MA MN MS OT SC 256 192 320 384 w 576 640 704 L Lg zh9
      suffices e : Ev (d + 6, 0, 0, 310, 25, [.val (.ref 64), .val (.int p1), .val a_unk, .val a_unk], [.long x7], (126, 120, L, [Y_3, T, H2, H, RU, RV, ST, NS, I0, I1, I2, BO_8, FI, RG, GU_9, PU, MA, MN, MS, OT, SC], [256, 192, 320, 384, w, 256, 576, 640, 704], Lg)) o from ev_call (fun v μ => (d + 6, 0, 0, 310, 25, [.val (.ref 64), .val (.int p1), .val a_unk, .val a_unk], v.toList ++ [], μ)) 1 ze10 e (fun n => Eq.refl _)
      obtain ⟨zt11, zh12, h⟩ := bnd h
      have zj13 : zt11 = .inl () → Ev (d + 6, 0, 0, 310, 52, [.val (.ref 64), .val (.int p1), .val (.long x7), .second], [], (126, 120, L, [Y_3, T, H2, H, RU, RV, ST, NS, I0, I1, I2, BO_8, FI, RG, GU_9, PU, MA, MN, MS, OT, SC], [256, 192, 320, 384, w, 256, 576, 640, 704], Lg)) o := by
        intro ze14
        have h := sum_l h ze14
        have ze15 := Option.some.inj h
        subst ze15
        exact ev_rete 2 ho (fun n => Eq.refl _)
      by_cases zc16 : p1 ≠ 0
      · have zh12 := itp zh12 zc16
        suffices e : Ev (d + 6, 0, 0, 310, 52, [.val (.ref 64), .val (.int p1), .val (.long x7), .second], [], (126, 120, L, [Y_3, T, H2, H, RU, RV, ST, NS, I0, I1, I2, BO_8, FI, RG, GU_9, PU, MA, MN, MS, OT, SC], [256, 192, 320, 384, w, 256, 576, 640, 704], Lg)) o from ev_t (c := p1 ≠ 0) _ _ 3  zc16 e (fun n => Eq.refl _)
        exact ev_b 0 (zj13  (Option.some.inj zh12).symm ) (fun n => Eq.refl _)
      · have zh12 := itn zh12 zc16
        suffices e : Ev (d + 6, 0, 0, 310, 30, [.val (.ref 64), .val (.int p1), .val (.long x7), .second], [], (126, 120, L, [Y_3, T, H2, H, RU, RV, ST, NS, I0, I1, I2, BO_8, FI, RG, GU_9, PU, MA, MN, MS, OT, SC], [256, 192, 320, 384, w, 256, 576, 640, 704], Lg)) o from ev_f (c := p1 ≠ 0) _ _ 3  zc16 e (fun n => Eq.refl _)
        by_cases zc17 : (a_cmpL x7 (-1 : Int64)) = 0
        · have zh12 := itp zh12 zc17
          suffices e : Ev (d + 6, 0, 0, 310, 52, [.val (.ref 64), .val (.int p1), .val (.long x7), .second], [], (126, 120, L, [Y_3, T, H2, H, RU, RV, ST, NS, I0, I1, I2, BO_8, FI, RG, GU_9, PU, MA, MN, MS, OT, SC], [256, 192, 320, 384, w, 256, 576, 640, 704], Lg)) o from ev_t (c := (a_cmpL x7 (-1 : Int64)) = 0) _ _ 4  zc17 e (fun n => Eq.refl _)
          exact ev_b 0 (zj13  (Option.some.inj zh12).symm ) (fun n => Eq.refl _)
        · have zh12 := itn zh12 zc17
          suffices e : Ev (d + 6, 0, 0, 310, 38, [.val (.ref 64), .val (.int p1), .val (.long x7), .second], [], (126, 120, L, [Y_3, T, H2, H, RU, RV, ST, NS, I0, I1, I2, BO_8, FI, RG, GU_9, PU, MA, MN, MS, OT, SC], [256, 192, 320, 384, w, 256, 576, 640, 704], Lg)) o from ev_f (c := (a_cmpL x7 (-1 : Int64)) = 0) _ _ 4  zc17 e (fun n => Eq.refl _)
          obtain ⟨x10, zh18, zh12⟩ := bnd zh12
          have zh18 : f_Integer_bitCount (GU_9 0 4) = some x10 := zh18
          have ze19 := R_f_Integer_bitCount_0 (d + 5) Y_3 T H2 H RU RV ST NS I0 I1 I2 BO_8 FI RG GU_9 PU MA MN MS OT SC 256 192 320 384 w 256 576 640 704 L Lg (GU_9 0 4) zh18
          suffices e : Ev (d + 6, 0, 0, 310, 48, [.val (.ref 64), .val (.int p1), .val (.long x7), .second], [.int x10], (126, 120, L, [Y_3, T, H2, H, RU, RV, ST, NS, I0, I1, I2, BO_8, FI, RG, GU_9, PU, MA, MN, MS, OT, SC], [256, 192, 320, 384, w, 256, 576, 640, 704], Lg)) o from ev_call (fun v μ => (d + 6, 0, 0, 310, 48, [.val (.ref 64), .val (.int p1), .val (.long x7), .second], v.toList ++ [], μ)) 4 ze19 e (fun n => Eq.refl _)
          have zh20 := sum_r h (Option.some.inj zh12).symm
          have ze21 := Option.some.inj zh20
          subst ze21
          exact ev_rete 3 ho (fun n => Eq.refl _)
    | succ q2 =>
      have h := itn h (Nat.succ_ne_zero q2)
      have ze22 := Option.some.inj h
      subst ze22
      subst ho
      exact ev_thr (fun v μ => (d + 6, 0, 0, 310, 18, [.val (.ref 64), .val (.int p1), .val a_unk, .val a_unk], v.toList ++ [], μ)) 1 ze6 (fun n => Eq.refl _) (fun n => rfl)
  obtain ⟨zt23, zh24, zh2⟩ := bnd zh2
  have zj25 : zt23 = .inl () → Ev (d + 6, 1, 8, 310, 14, [.val (.ref 64), .val (.int p1), .val a_unk, .val a_unk], [.ref 64], (126, 120, L, [Y, T, H2, H, RU, RV, ST, NS, I0, I1, I2, BO, FI, RG, GU, PU, MA, MN, MS, OT, SC], [256, 192, 320, 384, w, r5, 576, 640, 704], Lg)) o := by
    intro ze26
    have zh2 := sum_l zh2 ze26
    exact ev_b 1 (zj3 0 (Option.some.inj zh2) ) (fun n => Eq.refl _)
  by_cases zc27 : p1 < 0
  · have zh24 := itp zh24 zc27
    suffices e : Ev (d + 6, 1, 8, 310, 14, [.val (.ref 64), .val (.int p1), .val a_unk, .val a_unk], [.ref 64], (126, 120, L, [Y, T, H2, H, RU, RV, ST, NS, I0, I1, I2, BO, FI, RG, GU, PU, MA, MN, MS, OT, SC], [256, 192, 320, 384, w, r5, 576, 640, 704], Lg)) o from ev_t (c := p1 < 0) _ _ 3  zc27 e (fun n => Eq.refl _)
    exact ev_b 0 (zj25  (Option.some.inj zh24).symm ) (fun n => Eq.refl _)
  · have zh24 := itn zh24 zc27
    suffices e : Ev (d + 6, 1, 8, 310, 5, [.val (.ref 64), .val (.int p1), .val a_unk, .val a_unk], [.ref 64], (126, 120, L, [Y, T, H2, H, RU, RV, ST, NS, I0, I1, I2, BO, FI, RG, GU, PU, MA, MN, MS, OT, SC], [256, 192, 320, 384, w, r5, 576, 640, 704], Lg)) o from ev_f (c := p1 < 0) _ _ 3  zc27 e (fun n => Eq.refl _)
    by_cases zc28 : 1 < p1
    · have zh24 := itp zh24 zc28
      suffices e : Ev (d + 6, 1, 8, 310, 14, [.val (.ref 64), .val (.int p1), .val a_unk, .val a_unk], [.ref 64], (126, 120, L, [Y, T, H2, H, RU, RV, ST, NS, I0, I1, I2, BO, FI, RG, GU, PU, MA, MN, MS, OT, SC], [256, 192, 320, 384, w, r5, 576, 640, 704], Lg)) o from ev_t (c := 1 < p1) _ _ 3  zc28 e (fun n => Eq.refl _)
      exact ev_b 0 (zj25  (Option.some.inj zh24).symm ) (fun n => Eq.refl _)
    · have zh24 := itn zh24 zc28
      suffices e : Ev (d + 6, 1, 8, 310, 10, [.val (.ref 64), .val (.int p1), .val a_unk, .val a_unk], [.ref 64], (126, 120, L, [Y, T, H2, H, RU, RV, ST, NS, I0, I1, I2, BO, FI, RG, GU, PU, MA, MN, MS, OT, SC], [256, 192, 320, 384, w, r5, 576, 640, 704], Lg)) o from ev_f (c := 1 < p1) _ _ 3  zc28 e (fun n => Eq.refl _)
      have zh29 := sum_r zh2 (Option.some.inj zh24).symm
      exact ev_b 2 (zj3 1 (Option.some.inj zh29) ) (fun n => Eq.refl _)
set_option maxRecDepth 1000000 in
set_option maxHeartbeats 4000000 in
theorem R_f_Y_order_3 (d : Nat) (Y T H2 H RV RU ST NS I0 I1 I2 BO FI RG GU PU MA MN MS OT SC : Nat → Nat → Int32) (w r5 : Nat) (L : Nat) (Lg : Int64) (p1 : Int32) {r : Nat × Int64 × (Nat → Nat → Int32) × (Nat → Nat → Int32) × (Nat → Nat → Int32) × Nat} (h : f_Y_order Y H NS BO GU 256 r5 p1 = some r) : Ev (d + 6, 1, 8, 310, 0, [.val (.ref 64), .val (.int p1), .val a_unk, .val a_unk], [], (126, 120, L, [Y, T, H2, H, RV, RU, ST, NS, I0, I1, I2, BO, FI, RG, GU, PU, MA, MN, MS, OT, SC], [256, 192, 384, 320, w, r5, 576, 640, 704], Lg)) ((r.1, a_ov r.1 (.long r.2.1), (126, 120, L, [r.2.2.1, T, H2, H, RV, RU, ST, NS, I0, I1, I2, r.2.2.2.1, FI, RG, r.2.2.2.2.1, PU, MA, MN, MS, OT, SC], [256, 192, 384, 320, w, r.2.2.2.2.2, 576, 640, 704], Lg)) : AOut) := by
  suffices key : ∀ o : AOut, ((r.1, a_ov r.1 (.long r.2.1), (126, 120, L, [r.2.2.1, T, H2, H, RV, RU, ST, NS, I0, I1, I2, r.2.2.2.1, FI, RG, r.2.2.2.2.1, PU, MA, MN, MS, OT, SC], [256, 192, 384, 320, w, r.2.2.2.2.2, 576, 640, 704], Lg)) : AOut) = o → Ev (d + 6, 1, 8, 310, 0, [.val (.ref 64), .val (.int p1), .val a_unk, .val a_unk], [], (126, 120, L, [Y, T, H2, H, RV, RU, ST, NS, I0, I1, I2, BO, FI, RG, GU, PU, MA, MN, MS, OT, SC], [256, 192, 384, 320, w, r5, 576, 640, 704], Lg)) o from key _ rfl
  intro o ho
  obtain ⟨zt1, zh2, h⟩ := bnd h
  have zj3 : ∀ (v1 : Int32), v1 = zt1 → Ev (d + 6, 1, 8, 310, 15, [.val (.ref 64), .val (.int p1), .val a_unk, .val a_unk], [.int v1, .ref 64], (126, 120, L, [Y, T, H2, H, RV, RU, ST, NS, I0, I1, I2, BO, FI, RG, GU, PU, MA, MN, MS, OT, SC], [256, 192, 384, 320, w, r5, 576, 640, 704], Lg)) o := by
    intro v1 ze4
    subst ze4
    obtain ⟨⟨q2, Y_3⟩, zh5, h⟩ := bnd h
    have zh5 : f_Y_refuseUnless Y v1 = some (q2, Y_3) := zh5
    have ze6 := R_f_Y_refuseUnless_3 (d + 5) Y T H2 H RV RU ST NS I0 I1 I2 BO FI RG GU PU MA MN MS OT SC w r5 L Lg v1 zh5
    cases q2 with
    | zero =>
      have h := itp h rfl
      suffices e : Ev (d + 6, 0, 0, 310, 18, [.val (.ref 64), .val (.int p1), .val a_unk, .val a_unk], [], (126, 120, L, [Y_3, T, H2, H, RV, RU, ST, NS, I0, I1, I2, BO, FI, RG, GU, PU, MA, MN, MS, OT, SC], [256, 192, 384, 320, w, r5, 576, 640, 704], Lg)) o from ev_call (fun v μ => (d + 6, 0, 0, 310, 18, [.val (.ref 64), .val (.int p1), .val a_unk, .val a_unk], v.toList ++ [], μ)) 1 ze6 e (fun n => Eq.refl _)
      obtain ⟨⟨BO_5, GU_6⟩, zh7, h⟩ := bnd h
      have zh7 : f_Y_lookAhead H NS BO GU = some (BO_5, GU_6) := zh7
      have ze8 := R_f_Y_lookAhead_3 (d + 2) Y_3 T H2 H RV RU ST NS I0 I1 I2 BO FI RG GU PU MA MN MS OT SC w r5 L Lg zh7
      suffices e : Ev (d + 6, 0, 0, 310, 22, [.val (.ref 64), .val (.int p1), .val a_unk, .val a_unk], [.ref 960], (126, 120, L, [Y_3, T, H2, H, RV, RU, ST, NS, I0, I1, I2, BO_5, FI, RG, GU_6, PU, MA, MN, MS, OT, SC], [256, 192, 384, 320, w, 256, 576, 640, 704], Lg)) o from ev_call (fun v μ => (d + 6, 0, 0, 310, 22, [.val (.ref 64), .val (.int p1), .val a_unk, .val a_unk], v.toList ++ [], μ)) 2 ze8 e (fun n => Eq.refl _)
      obtain ⟨⟨x7, BO_8, GU_9⟩, zh9, h⟩ := bnd h
      have zh9 : f_Guide_firstOrder H BO_5 GU_6 = some (x7, BO_8, GU_9) := zh9
      have ze10 := R_f_Guide_firstOrder_1 (d + 0) Y_3 T H2 H RV RU ST NS I0 I1 I2 BO_5 FI RG GU_6 PU MA MN MS OT SC 256 192 384 320 w 576 640 704 L Lg zh9
      suffices e : Ev (d + 6, 0, 0, 310, 25, [.val (.ref 64), .val (.int p1), .val a_unk, .val a_unk], [.long x7], (126, 120, L, [Y_3, T, H2, H, RV, RU, ST, NS, I0, I1, I2, BO_8, FI, RG, GU_9, PU, MA, MN, MS, OT, SC], [256, 192, 384, 320, w, 256, 576, 640, 704], Lg)) o from ev_call (fun v μ => (d + 6, 0, 0, 310, 25, [.val (.ref 64), .val (.int p1), .val a_unk, .val a_unk], v.toList ++ [], μ)) 1 ze10 e (fun n => Eq.refl _)
      obtain ⟨zt11, zh12, h⟩ := bnd h
      have zj13 : zt11 = .inl () → Ev (d + 6, 0, 0, 310, 52, [.val (.ref 64), .val (.int p1), .val (.long x7), .second], [], (126, 120, L, [Y_3, T, H2, H, RV, RU, ST, NS, I0, I1, I2, BO_8, FI, RG, GU_9, PU, MA, MN, MS, OT, SC], [256, 192, 384, 320, w, 256, 576, 640, 704], Lg)) o := by
        intro ze14
        have h := sum_l h ze14
        have ze15 := Option.some.inj h
        subst ze15
        exact ev_rete 2 ho (fun n => Eq.refl _)
      by_cases zc16 : p1 ≠ 0
      · have zh12 := itp zh12 zc16
        suffices e : Ev (d + 6, 0, 0, 310, 52, [.val (.ref 64), .val (.int p1), .val (.long x7), .second], [], (126, 120, L, [Y_3, T, H2, H, RV, RU, ST, NS, I0, I1, I2, BO_8, FI, RG, GU_9, PU, MA, MN, MS, OT, SC], [256, 192, 384, 320, w, 256, 576, 640, 704], Lg)) o from ev_t (c := p1 ≠ 0) _ _ 3  zc16 e (fun n => Eq.refl _)
        exact ev_b 0 (zj13  (Option.some.inj zh12).symm ) (fun n => Eq.refl _)
      · have zh12 := itn zh12 zc16
        suffices e : Ev (d + 6, 0, 0, 310, 30, [.val (.ref 64), .val (.int p1), .val (.long x7), .second], [], (126, 120, L, [Y_3, T, H2, H, RV, RU, ST, NS, I0, I1, I2, BO_8, FI, RG, GU_9, PU, MA, MN, MS, OT, SC], [256, 192, 384, 320, w, 256, 576, 640, 704], Lg)) o from ev_f (c := p1 ≠ 0) _ _ 3  zc16 e (fun n => Eq.refl _)
        by_cases zc17 : (a_cmpL x7 (-1 : Int64)) = 0
        · have zh12 := itp zh12 zc17
          suffices e : Ev (d + 6, 0, 0, 310, 52, [.val (.ref 64), .val (.int p1), .val (.long x7), .second], [], (126, 120, L, [Y_3, T, H2, H, RV, RU, ST, NS, I0, I1, I2, BO_8, FI, RG, GU_9, PU, MA, MN, MS, OT, SC], [256, 192, 384, 320, w, 256, 576, 640, 704], Lg)) o from ev_t (c := (a_cmpL x7 (-1 : Int64)) = 0) _ _ 4  zc17 e (fun n => Eq.refl _)
          exact ev_b 0 (zj13  (Option.some.inj zh12).symm ) (fun n => Eq.refl _)
        · have zh12 := itn zh12 zc17
          suffices e : Ev (d + 6, 0, 0, 310, 38, [.val (.ref 64), .val (.int p1), .val (.long x7), .second], [], (126, 120, L, [Y_3, T, H2, H, RV, RU, ST, NS, I0, I1, I2, BO_8, FI, RG, GU_9, PU, MA, MN, MS, OT, SC], [256, 192, 384, 320, w, 256, 576, 640, 704], Lg)) o from ev_f (c := (a_cmpL x7 (-1 : Int64)) = 0) _ _ 4  zc17 e (fun n => Eq.refl _)
          obtain ⟨x10, zh18, zh12⟩ := bnd zh12
          have zh18 : f_Integer_bitCount (GU_9 0 4) = some x10 := zh18
          have ze19 := R_f_Integer_bitCount_0 (d + 5) Y_3 T H2 H RV RU ST NS I0 I1 I2 BO_8 FI RG GU_9 PU MA MN MS OT SC 256 192 384 320 w 256 576 640 704 L Lg (GU_9 0 4) zh18
          suffices e : Ev (d + 6, 0, 0, 310, 48, [.val (.ref 64), .val (.int p1), .val (.long x7), .second], [.int x10], (126, 120, L, [Y_3, T, H2, H, RV, RU, ST, NS, I0, I1, I2, BO_8, FI, RG, GU_9, PU, MA, MN, MS, OT, SC], [256, 192, 384, 320, w, 256, 576, 640, 704], Lg)) o from ev_call (fun v μ => (d + 6, 0, 0, 310, 48, [.val (.ref 64), .val (.int p1), .val (.long x7), .second], v.toList ++ [], μ)) 4 ze19 e (fun n => Eq.refl _)
          have zh20 := sum_r h (Option.some.inj zh12).symm
          have ze21 := Option.some.inj zh20
          subst ze21
          exact ev_rete 3 ho (fun n => Eq.refl _)
    | succ q2 =>
      have h := itn h (Nat.succ_ne_zero q2)
      have ze22 := Option.some.inj h
      subst ze22
      subst ho
      exact ev_thr (fun v μ => (d + 6, 0, 0, 310, 18, [.val (.ref 64), .val (.int p1), .val a_unk, .val a_unk], v.toList ++ [], μ)) 1 ze6 (fun n => Eq.refl _) (fun n => rfl)
  obtain ⟨zt23, zh24, zh2⟩ := bnd zh2
  have zj25 : zt23 = .inl () → Ev (d + 6, 1, 8, 310, 14, [.val (.ref 64), .val (.int p1), .val a_unk, .val a_unk], [.ref 64], (126, 120, L, [Y, T, H2, H, RV, RU, ST, NS, I0, I1, I2, BO, FI, RG, GU, PU, MA, MN, MS, OT, SC], [256, 192, 384, 320, w, r5, 576, 640, 704], Lg)) o := by
    intro ze26
    have zh2 := sum_l zh2 ze26
    exact ev_b 1 (zj3 0 (Option.some.inj zh2) ) (fun n => Eq.refl _)
  by_cases zc27 : p1 < 0
  · have zh24 := itp zh24 zc27
    suffices e : Ev (d + 6, 1, 8, 310, 14, [.val (.ref 64), .val (.int p1), .val a_unk, .val a_unk], [.ref 64], (126, 120, L, [Y, T, H2, H, RV, RU, ST, NS, I0, I1, I2, BO, FI, RG, GU, PU, MA, MN, MS, OT, SC], [256, 192, 384, 320, w, r5, 576, 640, 704], Lg)) o from ev_t (c := p1 < 0) _ _ 3  zc27 e (fun n => Eq.refl _)
    exact ev_b 0 (zj25  (Option.some.inj zh24).symm ) (fun n => Eq.refl _)
  · have zh24 := itn zh24 zc27
    suffices e : Ev (d + 6, 1, 8, 310, 5, [.val (.ref 64), .val (.int p1), .val a_unk, .val a_unk], [.ref 64], (126, 120, L, [Y, T, H2, H, RV, RU, ST, NS, I0, I1, I2, BO, FI, RG, GU, PU, MA, MN, MS, OT, SC], [256, 192, 384, 320, w, r5, 576, 640, 704], Lg)) o from ev_f (c := p1 < 0) _ _ 3  zc27 e (fun n => Eq.refl _)
    by_cases zc28 : 1 < p1
    · have zh24 := itp zh24 zc28
      suffices e : Ev (d + 6, 1, 8, 310, 14, [.val (.ref 64), .val (.int p1), .val a_unk, .val a_unk], [.ref 64], (126, 120, L, [Y, T, H2, H, RV, RU, ST, NS, I0, I1, I2, BO, FI, RG, GU, PU, MA, MN, MS, OT, SC], [256, 192, 384, 320, w, r5, 576, 640, 704], Lg)) o from ev_t (c := 1 < p1) _ _ 3  zc28 e (fun n => Eq.refl _)
      exact ev_b 0 (zj25  (Option.some.inj zh24).symm ) (fun n => Eq.refl _)
    · have zh24 := itn zh24 zc28
      suffices e : Ev (d + 6, 1, 8, 310, 10, [.val (.ref 64), .val (.int p1), .val a_unk, .val a_unk], [.ref 64], (126, 120, L, [Y, T, H2, H, RV, RU, ST, NS, I0, I1, I2, BO, FI, RG, GU, PU, MA, MN, MS, OT, SC], [256, 192, 384, 320, w, r5, 576, 640, 704], Lg)) o from ev_f (c := 1 < p1) _ _ 3  zc28 e (fun n => Eq.refl _)
      have zh29 := sum_r zh2 (Option.some.inj zh24).symm
      exact ev_b 2 (zj3 1 (Option.some.inj zh29) ) (fun n => Eq.refl _)
set_option maxRecDepth 1000000 in
set_option maxHeartbeats 4000000 in
theorem R_f_Guide_beginners_0 (d : Nat) (Y T H H2 RA RB ST NS I0 I1 I2 BO FI RG GU PU MA MN MS OT SC : Nat → Nat → Int32) (r0 r1 r2 r3 w r6 r7 r8 : Nat) (L : Nat) (Lg : Int64) {r : Int32 × (Nat → Nat → Int32)} (h : f_Guide_beginners H BO GU = some r) : Ev (d + 5, 0, 0, 193, 0, [.val (.ref 960), .val a_unk, .val a_unk, .val a_unk], [], (126, 120, L, [Y, T, H, H2, RA, RB, ST, NS, I0, I1, I2, BO, FI, RG, GU, PU, MA, MN, MS, OT, SC], [r0, r1, r2, r3, w, 192, r6, r7, r8], Lg)) ((0, some (.int r.1), (126, 120, L, [Y, T, H, H2, RA, RB, ST, NS, I0, I1, I2, r.2, FI, RG, GU, PU, MA, MN, MS, OT, SC], [r0, r1, r2, r3, w, 192, r6, r7, r8], Lg)) : AOut) := by
  suffices key : ∀ o : AOut, ((0, some (.int r.1), (126, 120, L, [Y, T, H, H2, RA, RB, ST, NS, I0, I1, I2, r.2, FI, RG, GU, PU, MA, MN, MS, OT, SC], [r0, r1, r2, r3, w, 192, r6, r7, r8], Lg)) : AOut) = o → Ev (d + 5, 0, 0, 193, 0, [.val (.ref 960), .val a_unk, .val a_unk, .val a_unk], [], (126, 120, L, [Y, T, H, H2, RA, RB, ST, NS, I0, I1, I2, BO, FI, RG, GU, PU, MA, MN, MS, OT, SC], [r0, r1, r2, r3, w, 192, r6, r7, r8], Lg)) o from key _ rfl
  intro o ho
  obtain ⟨zb1, zh2, h⟩ := bnd h
  suffices e : Ev (d + 5, 0, 0, 193, 4, [.val (.ref 960), .val (.int 0), .val (.int 0), .val a_unk], [], (126, 120, L, [Y, T, H, H2, RA, RB, ST, NS, I0, I1, I2, BO, FI, RG, GU, PU, MA, MN, MS, OT, SC], [r0, r1, r2, r3, w, 192, r6, r7, r8], Lg)) o from ev_b 4 e (fun n => Eq.refl _)
  refine ev_loop (δ := Value) (fun a j => (d + 5, 0, 0, 193, 4, [.val (.ref 960), .val (.int a.1), .val (.int a.2.1), .val j], [], (126, 120, L, [Y, T, H, H2, RA, RB, ST, NS, I0, I1, I2, a.2.2, FI, RG, GU, PU, MA, MN, MS, OT, SC], [r0, r1, r2, r3, w, 192, r6, r7, r8], Lg))) (fun b => ∀ s8 : Value, ∀ s9 : Value, Ev (d + 5, 0, 0, 193, 62, [.val (.ref 960), .val (.int b.1), .val s8, .val s9], [], (126, 120, L, [Y, T, H, H2, RA, RB, ST, NS, I0, I1, I2, b.2, FI, RG, GU, PU, MA, MN, MS, OT, SC], [r0, r1, r2, r3, w, 192, r6, r7, r8], Lg)) o) ?_ a_F (0, 0, BO) zb1 zh2 ?_ a_unk
  · rintro ⟨v1, v2, BO_4⟩ zr6 zh5 zi3 zx4 s3
    have zh5 : f_Guide_beginners_l4 H GU v1 v2 BO_4 = some zr6 := zh5
    suffices e : Ev (d + 5, 0, 0, 193, 12, [.val (.ref 960), .val (.int v1), .val (.int v2), .val s3], [.ref 192, .int v2], (126, 120, L, [Y, T, H, H2, RA, RB, ST, NS, I0, I1, I2, BO_4, FI, RG, GU, PU, MA, MN, MS, OT, SC], [r0, r1, r2, r3, w, 192, r6, r7, r8], Lg)) o from ev_b 4 e (fun n => Eq.refl _)
    by_cases zc7 : (H 0 3) ≤ v2
    · have zh5 := itp zh5 zc7
      suffices e : Ev (d + 5, 0, 0, 193, 62, [.val (.ref 960), .val (.int v1), .val (.int v2), .val s3], [], (126, 120, L, [Y, T, H, H2, RA, RB, ST, NS, I0, I1, I2, BO_4, FI, RG, GU, PU, MA, MN, MS, OT, SC], [r0, r1, r2, r3, w, 192, r6, r7, r8], Lg)) o from ev_t (c := (H 0 3) ≤ v2) _ _ 2  zc7 e (fun n => Eq.refl _)
      exact ev_b 0 (zx4 _ (Option.some.inj zh5).symm (.int v2) s3) (fun n => Eq.refl _)
    · have zh5 := itn zh5 zc7
      suffices e : Ev (d + 5, 0, 0, 193, 18, [.val (.ref 960), .val (.int v1), .val (.int v2), .val s3], [], (126, 120, L, [Y, T, H, H2, RA, RB, ST, NS, I0, I1, I2, BO_4, FI, RG, GU, PU, MA, MN, MS, OT, SC], [r0, r1, r2, r3, w, 192, r6, r7, r8], Lg)) o from ev_f (c := (H 0 3) ≤ v2) _ _ 2  zc7 e (fun n => Eq.refl _)
      suffices e : Ev (d + 5, 0, 0, 193, 33, [.val (.ref 960), .val (.int v1), .val (.int v2), .val (.int (a_shl 1 v2))], [.ref 192, .int (GU 0 4)], (126, 120, L, [Y, T, H, H2, RA, RB, ST, NS, I0, I1, I2, BO_4, FI, RG, GU, PU, MA, MN, MS, OT, SC], [r0, r1, r2, r3, w, 192, r6, r7, r8], Lg)) o from ev_b 9 e (fun n => Eq.refl _)
      by_cases zc8 : (((GU 0 4) &&& ((H 0 5) ^^^ (-1))) &&& (a_shl 1 v2)) = 0
      · have zh5 := itp zh5 zc8
        suffices e : Ev (d + 5, 0, 0, 193, 56, [.val (.ref 960), .val (.int v1), .val (.int v2), .val (.int (a_shl 1 v2))], [], (126, 120, L, [Y, T, H, H2, RA, RB, ST, NS, I0, I1, I2, BO_4, FI, RG, GU, PU, MA, MN, MS, OT, SC], [r0, r1, r2, r3, w, 192, r6, r7, r8], Lg)) o from ev_t (c := (((GU 0 4) &&& ((H 0 5) ^^^ (-1))) &&& (a_shl 1 v2)) = 0) _ _ 7  zc8 e (fun n => Eq.refl _)
        exact ev_b 2 (zi3 _ (Option.some.inj zh5).symm (.int (a_shl 1 v2))) (fun n => Eq.refl _)
      · have zh5 := itn zh5 zc8
        suffices e : Ev (d + 5, 0, 0, 193, 44, [.val (.ref 960), .val (.int v1), .val (.int v2), .val (.int (a_shl 1 v2))], [], (126, 120, L, [Y, T, H, H2, RA, RB, ST, NS, I0, I1, I2, BO_4, FI, RG, GU, PU, MA, MN, MS, OT, SC], [r0, r1, r2, r3, w, 192, r6, r7, r8], Lg)) o from ev_f (c := (((GU 0 4) &&& ((H 0 5) ^^^ (-1))) &&& (a_shl 1 v2)) = 0) _ _ 7  zc8 e (fun n => Eq.refl _)
        obtain ⟨⟨x5, BO_6⟩, zh9, zh5⟩ := bnd zh5
        have zh9 : f_Guide_lawfulAfter H BO_4 GU (a_shl 1 v2) = some (x5, BO_6) := zh9
        have ze10 := R_f_Guide_lawfulAfter_0 (d + 0) Y T H H2 RA RB ST NS I0 I1 I2 BO_4 FI RG GU PU MA MN MS OT SC r0 r1 r2 r3 w r6 r7 r8 L Lg (a_shl 1 v2) zh9
        suffices e : Ev (d + 5, 0, 0, 193, 49, [.val (.ref 960), .val (.int v1), .val (.int v2), .val (.int (a_shl 1 v2))], [.int x5], (126, 120, L, [Y, T, H, H2, RA, RB, ST, NS, I0, I1, I2, BO_6, FI, RG, GU, PU, MA, MN, MS, OT, SC], [r0, r1, r2, r3, w, 192, r6, r7, r8], Lg)) o from ev_call (fun v μ => (d + 5, 0, 0, 193, 49, [.val (.ref 960), .val (.int v1), .val (.int v2), .val (.int (a_shl 1 v2))], v.toList ++ [], μ)) 3 ze10 e (fun n => Eq.refl _)
        by_cases zc11 : x5 = 0
        · have zh5 := itp zh5 zc11
          suffices e : Ev (d + 5, 0, 0, 193, 56, [.val (.ref 960), .val (.int v1), .val (.int v2), .val (.int (a_shl 1 v2))], [], (126, 120, L, [Y, T, H, H2, RA, RB, ST, NS, I0, I1, I2, BO_6, FI, RG, GU, PU, MA, MN, MS, OT, SC], [r0, r1, r2, r3, w, 192, r6, r7, r8], Lg)) o from ev_t (c := x5 = 0) _ _ 1  zc11 e (fun n => Eq.refl _)
          exact ev_b 2 (zi3 _ (Option.some.inj zh5).symm (.int (a_shl 1 v2))) (fun n => Eq.refl _)
        · have zh5 := itn zh5 zc11
          suffices e : Ev (d + 5, 0, 0, 193, 52, [.val (.ref 960), .val (.int v1), .val (.int v2), .val (.int (a_shl 1 v2))], [], (126, 120, L, [Y, T, H, H2, RA, RB, ST, NS, I0, I1, I2, BO_6, FI, RG, GU, PU, MA, MN, MS, OT, SC], [r0, r1, r2, r3, w, 192, r6, r7, r8], Lg)) o from ev_f (c := x5 = 0) _ _ 1  zc11 e (fun n => Eq.refl _)
          exact ev_b 6 (zi3 _ (Option.some.inj zh5).symm (.int (a_shl 1 v2))) (fun n => Eq.refl _)
  · obtain ⟨v7, BO_10⟩ := zb1
    intro s8 s9
    have ze12 := Option.some.inj h
    subst ze12
    exact ev_rete 2 ho (fun n => Eq.refl _)
set_option maxRecDepth 1000000 in
set_option maxHeartbeats 4000000 in
theorem R_f_Y_begin_0 (d : Nat) (Y T H H2 RU RV ST NS I0 I1 I2 BO FI RG GU PU MA MN MS OT SC : Nat → Nat → Int32) (w r5 : Nat) (L : Nat) (Lg : Int64) {r : Int32 × (Nat → Nat → Int32) × (Nat → Nat → Int32)} (h : f_Y_begin H NS BO GU = some r) : Ev (d + 6, 0, 0, 311, 0, [.val (.ref 64)], [], (126, 120, L, [Y, T, H, H2, RU, RV, ST, NS, I0, I1, I2, BO, FI, RG, GU, PU, MA, MN, MS, OT, SC], [192, 256, 320, 384, w, r5, 576, 640, 704], Lg)) ((0, some (.int r.1), (126, 120, L, [Y, T, H, H2, RU, RV, ST, NS, I0, I1, I2, r.2.1, FI, RG, r.2.2, PU, MA, MN, MS, OT, SC], [192, 256, 320, 384, w, 192, 576, 640, 704], Lg)) : AOut) := by
  suffices key : ∀ o : AOut, ((0, some (.int r.1), (126, 120, L, [Y, T, H, H2, RU, RV, ST, NS, I0, I1, I2, r.2.1, FI, RG, r.2.2, PU, MA, MN, MS, OT, SC], [192, 256, 320, 384, w, 192, 576, 640, 704], Lg)) : AOut) = o → Ev (d + 6, 0, 0, 311, 0, [.val (.ref 64)], [], (126, 120, L, [Y, T, H, H2, RU, RV, ST, NS, I0, I1, I2, BO, FI, RG, GU, PU, MA, MN, MS, OT, SC], [192, 256, 320, 384, w, r5, 576, 640, 704], Lg)) o from key _ rfl
  intro o ho
  obtain ⟨⟨BO_2, GU_3⟩, zh1, h⟩ := bnd h
  have zh1 : f_Y_lookAhead H NS BO GU = some (BO_2, GU_3) := zh1
  have ze2 := R_f_Y_lookAhead_0 (d + 2) Y T H H2 RU RV ST NS I0 I1 I2 BO FI RG GU PU MA MN MS OT SC w r5 L Lg zh1
  suffices e : Ev (d + 6, 0, 0, 311, 4, [.val (.ref 64)], [.ref 960], (126, 120, L, [Y, T, H, H2, RU, RV, ST, NS, I0, I1, I2, BO_2, FI, RG, GU_3, PU, MA, MN, MS, OT, SC], [192, 256, 320, 384, w, 192, 576, 640, 704], Lg)) o from ev_call (fun v μ => (d + 6, 0, 0, 311, 4, [.val (.ref 64)], v.toList ++ [], μ)) 2 ze2 e (fun n => Eq.refl _)
  obtain ⟨⟨x4, BO_5⟩, zh3, h⟩ := bnd h
  have zh3 : f_Guide_beginners H BO_2 GU_3 = some (x4, BO_5) := zh3
  have ze4 := R_f_Guide_beginners_0 (d + 0) Y T H H2 RU RV ST NS I0 I1 I2 BO_2 FI RG GU_3 PU MA MN MS OT SC 192 256 320 384 w 576 640 704 L Lg zh3
  suffices e : Ev (d + 6, 0, 0, 311, 7, [.val (.ref 64)], [.int x4], (126, 120, L, [Y, T, H, H2, RU, RV, ST, NS, I0, I1, I2, BO_5, FI, RG, GU_3, PU, MA, MN, MS, OT, SC], [192, 256, 320, 384, w, 192, 576, 640, 704], Lg)) o from ev_call (fun v μ => (d + 6, 0, 0, 311, 7, [.val (.ref 64)], v.toList ++ [], μ)) 1 ze4 e (fun n => Eq.refl _)
  have ze5 := Option.some.inj h
  subst ze5
  exact ev_rete 1 ho (fun n => Eq.refl _)
set_option maxRecDepth 1000000 in
set_option maxHeartbeats 4000000 in
theorem R_f_Y_begin_1 (d : Nat) (Y T H H2 RV RU ST NS I0 I1 I2 BO FI RG GU PU MA MN MS OT SC : Nat → Nat → Int32) (w r5 : Nat) (L : Nat) (Lg : Int64) {r : Int32 × (Nat → Nat → Int32) × (Nat → Nat → Int32)} (h : f_Y_begin H NS BO GU = some r) : Ev (d + 6, 0, 0, 311, 0, [.val (.ref 64)], [], (126, 120, L, [Y, T, H, H2, RV, RU, ST, NS, I0, I1, I2, BO, FI, RG, GU, PU, MA, MN, MS, OT, SC], [192, 256, 384, 320, w, r5, 576, 640, 704], Lg)) ((0, some (.int r.1), (126, 120, L, [Y, T, H, H2, RV, RU, ST, NS, I0, I1, I2, r.2.1, FI, RG, r.2.2, PU, MA, MN, MS, OT, SC], [192, 256, 384, 320, w, 192, 576, 640, 704], Lg)) : AOut) := by
  suffices key : ∀ o : AOut, ((0, some (.int r.1), (126, 120, L, [Y, T, H, H2, RV, RU, ST, NS, I0, I1, I2, r.2.1, FI, RG, r.2.2, PU, MA, MN, MS, OT, SC], [192, 256, 384, 320, w, 192, 576, 640, 704], Lg)) : AOut) = o → Ev (d + 6, 0, 0, 311, 0, [.val (.ref 64)], [], (126, 120, L, [Y, T, H, H2, RV, RU, ST, NS, I0, I1, I2, BO, FI, RG, GU, PU, MA, MN, MS, OT, SC], [192, 256, 384, 320, w, r5, 576, 640, 704], Lg)) o from key _ rfl
  intro o ho
  obtain ⟨⟨BO_2, GU_3⟩, zh1, h⟩ := bnd h
  have zh1 : f_Y_lookAhead H NS BO GU = some (BO_2, GU_3) := zh1
  have ze2 := R_f_Y_lookAhead_1 (d + 2) Y T H H2 RV RU ST NS I0 I1 I2 BO FI RG GU PU MA MN MS OT SC w r5 L Lg zh1
  suffices e : Ev (d + 6, 0, 0, 311, 4, [.val (.ref 64)], [.ref 960], (126, 120, L, [Y, T, H, H2, RV, RU, ST, NS, I0, I1, I2, BO_2, FI, RG, GU_3, PU, MA, MN, MS, OT, SC], [192, 256, 384, 320, w, 192, 576, 640, 704], Lg)) o from ev_call (fun v μ => (d + 6, 0, 0, 311, 4, [.val (.ref 64)], v.toList ++ [], μ)) 2 ze2 e (fun n => Eq.refl _)
  obtain ⟨⟨x4, BO_5⟩, zh3, h⟩ := bnd h
  have zh3 : f_Guide_beginners H BO_2 GU_3 = some (x4, BO_5) := zh3
  have ze4 := R_f_Guide_beginners_0 (d + 0) Y T H H2 RV RU ST NS I0 I1 I2 BO_2 FI RG GU_3 PU MA MN MS OT SC 192 256 384 320 w 576 640 704 L Lg zh3
  suffices e : Ev (d + 6, 0, 0, 311, 7, [.val (.ref 64)], [.int x4], (126, 120, L, [Y, T, H, H2, RV, RU, ST, NS, I0, I1, I2, BO_5, FI, RG, GU_3, PU, MA, MN, MS, OT, SC], [192, 256, 384, 320, w, 192, 576, 640, 704], Lg)) o from ev_call (fun v μ => (d + 6, 0, 0, 311, 7, [.val (.ref 64)], v.toList ++ [], μ)) 1 ze4 e (fun n => Eq.refl _)
  have ze5 := Option.some.inj h
  subst ze5
  exact ev_rete 1 ho (fun n => Eq.refl _)
set_option maxRecDepth 1000000 in
set_option maxHeartbeats 4000000 in
theorem R_f_Guide_beginners_1 (d : Nat) (Y T H2 H RA RB ST NS I0 I1 I2 BO FI RG GU PU MA MN MS OT SC : Nat → Nat → Int32) (r0 r1 r2 r3 w r6 r7 r8 : Nat) (L : Nat) (Lg : Int64) {r : Int32 × (Nat → Nat → Int32)} (h : f_Guide_beginners H BO GU = some r) : Ev (d + 5, 0, 0, 193, 0, [.val (.ref 960), .val a_unk, .val a_unk, .val a_unk], [], (126, 120, L, [Y, T, H2, H, RA, RB, ST, NS, I0, I1, I2, BO, FI, RG, GU, PU, MA, MN, MS, OT, SC], [r0, r1, r2, r3, w, 256, r6, r7, r8], Lg)) ((0, some (.int r.1), (126, 120, L, [Y, T, H2, H, RA, RB, ST, NS, I0, I1, I2, r.2, FI, RG, GU, PU, MA, MN, MS, OT, SC], [r0, r1, r2, r3, w, 256, r6, r7, r8], Lg)) : AOut) := by
  suffices key : ∀ o : AOut, ((0, some (.int r.1), (126, 120, L, [Y, T, H2, H, RA, RB, ST, NS, I0, I1, I2, r.2, FI, RG, GU, PU, MA, MN, MS, OT, SC], [r0, r1, r2, r3, w, 256, r6, r7, r8], Lg)) : AOut) = o → Ev (d + 5, 0, 0, 193, 0, [.val (.ref 960), .val a_unk, .val a_unk, .val a_unk], [], (126, 120, L, [Y, T, H2, H, RA, RB, ST, NS, I0, I1, I2, BO, FI, RG, GU, PU, MA, MN, MS, OT, SC], [r0, r1, r2, r3, w, 256, r6, r7, r8], Lg)) o from key _ rfl
  intro o ho
  obtain ⟨zb1, zh2, h⟩ := bnd h
  suffices e : Ev (d + 5, 0, 0, 193, 4, [.val (.ref 960), .val (.int 0), .val (.int 0), .val a_unk], [], (126, 120, L, [Y, T, H2, H, RA, RB, ST, NS, I0, I1, I2, BO, FI, RG, GU, PU, MA, MN, MS, OT, SC], [r0, r1, r2, r3, w, 256, r6, r7, r8], Lg)) o from ev_b 4 e (fun n => Eq.refl _)
  refine ev_loop (δ := Value) (fun a j => (d + 5, 0, 0, 193, 4, [.val (.ref 960), .val (.int a.1), .val (.int a.2.1), .val j], [], (126, 120, L, [Y, T, H2, H, RA, RB, ST, NS, I0, I1, I2, a.2.2, FI, RG, GU, PU, MA, MN, MS, OT, SC], [r0, r1, r2, r3, w, 256, r6, r7, r8], Lg))) (fun b => ∀ s8 : Value, ∀ s9 : Value, Ev (d + 5, 0, 0, 193, 62, [.val (.ref 960), .val (.int b.1), .val s8, .val s9], [], (126, 120, L, [Y, T, H2, H, RA, RB, ST, NS, I0, I1, I2, b.2, FI, RG, GU, PU, MA, MN, MS, OT, SC], [r0, r1, r2, r3, w, 256, r6, r7, r8], Lg)) o) ?_ a_F (0, 0, BO) zb1 zh2 ?_ a_unk
  · rintro ⟨v1, v2, BO_4⟩ zr6 zh5 zi3 zx4 s3
    have zh5 : f_Guide_beginners_l4 H GU v1 v2 BO_4 = some zr6 := zh5
    suffices e : Ev (d + 5, 0, 0, 193, 12, [.val (.ref 960), .val (.int v1), .val (.int v2), .val s3], [.ref 256, .int v2], (126, 120, L, [Y, T, H2, H, RA, RB, ST, NS, I0, I1, I2, BO_4, FI, RG, GU, PU, MA, MN, MS, OT, SC], [r0, r1, r2, r3, w, 256, r6, r7, r8], Lg)) o from ev_b 4 e (fun n => Eq.refl _)
    by_cases zc7 : (H 0 3) ≤ v2
    · have zh5 := itp zh5 zc7
      suffices e : Ev (d + 5, 0, 0, 193, 62, [.val (.ref 960), .val (.int v1), .val (.int v2), .val s3], [], (126, 120, L, [Y, T, H2, H, RA, RB, ST, NS, I0, I1, I2, BO_4, FI, RG, GU, PU, MA, MN, MS, OT, SC], [r0, r1, r2, r3, w, 256, r6, r7, r8], Lg)) o from ev_t (c := (H 0 3) ≤ v2) _ _ 2  zc7 e (fun n => Eq.refl _)
      exact ev_b 0 (zx4 _ (Option.some.inj zh5).symm (.int v2) s3) (fun n => Eq.refl _)
    · have zh5 := itn zh5 zc7
      suffices e : Ev (d + 5, 0, 0, 193, 18, [.val (.ref 960), .val (.int v1), .val (.int v2), .val s3], [], (126, 120, L, [Y, T, H2, H, RA, RB, ST, NS, I0, I1, I2, BO_4, FI, RG, GU, PU, MA, MN, MS, OT, SC], [r0, r1, r2, r3, w, 256, r6, r7, r8], Lg)) o from ev_f (c := (H 0 3) ≤ v2) _ _ 2  zc7 e (fun n => Eq.refl _)
      suffices e : Ev (d + 5, 0, 0, 193, 33, [.val (.ref 960), .val (.int v1), .val (.int v2), .val (.int (a_shl 1 v2))], [.ref 256, .int (GU 0 4)], (126, 120, L, [Y, T, H2, H, RA, RB, ST, NS, I0, I1, I2, BO_4, FI, RG, GU, PU, MA, MN, MS, OT, SC], [r0, r1, r2, r3, w, 256, r6, r7, r8], Lg)) o from ev_b 9 e (fun n => Eq.refl _)
      by_cases zc8 : (((GU 0 4) &&& ((H 0 5) ^^^ (-1))) &&& (a_shl 1 v2)) = 0
      · have zh5 := itp zh5 zc8
        suffices e : Ev (d + 5, 0, 0, 193, 56, [.val (.ref 960), .val (.int v1), .val (.int v2), .val (.int (a_shl 1 v2))], [], (126, 120, L, [Y, T, H2, H, RA, RB, ST, NS, I0, I1, I2, BO_4, FI, RG, GU, PU, MA, MN, MS, OT, SC], [r0, r1, r2, r3, w, 256, r6, r7, r8], Lg)) o from ev_t (c := (((GU 0 4) &&& ((H 0 5) ^^^ (-1))) &&& (a_shl 1 v2)) = 0) _ _ 7  zc8 e (fun n => Eq.refl _)
        exact ev_b 2 (zi3 _ (Option.some.inj zh5).symm (.int (a_shl 1 v2))) (fun n => Eq.refl _)
      · have zh5 := itn zh5 zc8
        suffices e : Ev (d + 5, 0, 0, 193, 44, [.val (.ref 960), .val (.int v1), .val (.int v2), .val (.int (a_shl 1 v2))], [], (126, 120, L, [Y, T, H2, H, RA, RB, ST, NS, I0, I1, I2, BO_4, FI, RG, GU, PU, MA, MN, MS, OT, SC], [r0, r1, r2, r3, w, 256, r6, r7, r8], Lg)) o from ev_f (c := (((GU 0 4) &&& ((H 0 5) ^^^ (-1))) &&& (a_shl 1 v2)) = 0) _ _ 7  zc8 e (fun n => Eq.refl _)
        obtain ⟨⟨x5, BO_6⟩, zh9, zh5⟩ := bnd zh5
        have zh9 : f_Guide_lawfulAfter H BO_4 GU (a_shl 1 v2) = some (x5, BO_6) := zh9
        have ze10 := R_f_Guide_lawfulAfter_1 (d + 0) Y T H2 H RA RB ST NS I0 I1 I2 BO_4 FI RG GU PU MA MN MS OT SC r0 r1 r2 r3 w r6 r7 r8 L Lg (a_shl 1 v2) zh9
        suffices e : Ev (d + 5, 0, 0, 193, 49, [.val (.ref 960), .val (.int v1), .val (.int v2), .val (.int (a_shl 1 v2))], [.int x5], (126, 120, L, [Y, T, H2, H, RA, RB, ST, NS, I0, I1, I2, BO_6, FI, RG, GU, PU, MA, MN, MS, OT, SC], [r0, r1, r2, r3, w, 256, r6, r7, r8], Lg)) o from ev_call (fun v μ => (d + 5, 0, 0, 193, 49, [.val (.ref 960), .val (.int v1), .val (.int v2), .val (.int (a_shl 1 v2))], v.toList ++ [], μ)) 3 ze10 e (fun n => Eq.refl _)
        by_cases zc11 : x5 = 0
        · have zh5 := itp zh5 zc11
          suffices e : Ev (d + 5, 0, 0, 193, 56, [.val (.ref 960), .val (.int v1), .val (.int v2), .val (.int (a_shl 1 v2))], [], (126, 120, L, [Y, T, H2, H, RA, RB, ST, NS, I0, I1, I2, BO_6, FI, RG, GU, PU, MA, MN, MS, OT, SC], [r0, r1, r2, r3, w, 256, r6, r7, r8], Lg)) o from ev_t (c := x5 = 0) _ _ 1  zc11 e (fun n => Eq.refl _)
          exact ev_b 2 (zi3 _ (Option.some.inj zh5).symm (.int (a_shl 1 v2))) (fun n => Eq.refl _)
        · have zh5 := itn zh5 zc11
          suffices e : Ev (d + 5, 0, 0, 193, 52, [.val (.ref 960), .val (.int v1), .val (.int v2), .val (.int (a_shl 1 v2))], [], (126, 120, L, [Y, T, H2, H, RA, RB, ST, NS, I0, I1, I2, BO_6, FI, RG, GU, PU, MA, MN, MS, OT, SC], [r0, r1, r2, r3, w, 256, r6, r7, r8], Lg)) o from ev_f (c := x5 = 0) _ _ 1  zc11 e (fun n => Eq.refl _)
          exact ev_b 6 (zi3 _ (Option.some.inj zh5).symm (.int (a_shl 1 v2))) (fun n => Eq.refl _)
  · obtain ⟨v7, BO_10⟩ := zb1
    intro s8 s9
    have ze12 := Option.some.inj h
    subst ze12
    exact ev_rete 2 ho (fun n => Eq.refl _)
