/-! printed by program (gen/emitm.py): the reference's methods run as their functions say -/
set_option maxRecDepth 1000000 in
set_option maxHeartbeats 4000000 in
theorem R_f_Pusher_allYield_0 (d : Nat) (Y T H H2 RU RV ST NS I0 I1 I2 BO FI RG GU PU MA MN MS OT SC : Nat → Nat → Int32) (r0 r1 r2 r3 w r6 r7 r8 : Nat) (L : Nat) (Lg : Int64) (p2 : Int32) (p3 : Int32) (p4 : Int32) (p5 : Int32) {r : Int32 × (Nat → Nat → Int32)} (h : f_Pusher_allYield H RU BO p2 p3 p4 p5 = some r) : Ev (d + 3, 0, 0, 231, 0, [.val (.ref 1024), .val (.ref 320), .val (.int p2), .val (.int p3), .val (.int p4), .val (.int p5), .val a_unk], [], (126, 120, L, [Y, T, H, H2, RU, RV, ST, NS, I0, I1, I2, BO, FI, RG, GU, PU, MA, MN, MS, OT, SC], [r0, r1, r2, r3, w, 192, r6, r7, r8], Lg)) ((0, some (.int r.1), (126, 120, L, [Y, T, H, H2, r.2, RV, ST, NS, I0, I1, I2, BO, FI, RG, GU, PU, MA, MN, MS, OT, SC], [r0, r1, r2, r3, w, 192, r6, r7, r8], Lg)) : AOut) := by
  suffices key : ∀ o : AOut, ((0, some (.int r.1), (126, 120, L, [Y, T, H, H2, r.2, RV, ST, NS, I0, I1, I2, BO, FI, RG, GU, PU, MA, MN, MS, OT, SC], [r0, r1, r2, r3, w, 192, r6, r7, r8], Lg)) : AOut) = o → Ev (d + 3, 0, 0, 231, 0, [.val (.ref 1024), .val (.ref 320), .val (.int p2), .val (.int p3), .val (.int p4), .val (.int p5), .val a_unk], [], (126, 120, L, [Y, T, H, H2, RU, RV, ST, NS, I0, I1, I2, BO, FI, RG, GU, PU, MA, MN, MS, OT, SC], [r0, r1, r2, r3, w, 192, r6, r7, r8], Lg)) o from key _ rfl
  intro o ho
  obtain ⟨RU_1, zh1, h⟩ := bnd h
  have zh1 : f_Rule_setWanted RU p3 p5 = some RU_1 := zh1
  have ze2 := R_f_Rule_setWanted_0 (d + 1) Y T H H2 RU RV ST NS I0 I1 I2 BO FI RG GU PU MA MN MS OT SC r0 r1 r2 r3 w 192 r6 r7 r8 L Lg p3 p5 zh1
  suffices e : Ev (d + 3, 0, 0, 231, 7, [.val (.ref 1024), .val (.ref 320), .val (.int p2), .val (.int p3), .val (.int p4), .val (.int p5), .val a_unk], [], (126, 120, L, [Y, T, H, H2, RU_1, RV, ST, NS, I0, I1, I2, BO, FI, RG, GU, PU, MA, MN, MS, OT, SC], [r0, r1, r2, r3, w, 192, r6, r7, r8], Lg)) o from ev_call (fun v μ => (d + 3, 0, 0, 231, 7, [.val (.ref 1024), .val (.ref 320), .val (.int p2), .val (.int p3), .val (.int p4), .val (.int p5), .val a_unk], v.toList ++ [], μ)) 4 ze2 e (fun n => Eq.refl _)
  obtain ⟨zb3, zh4, h⟩ := bnd h
  suffices e : Ev (d + 3, 0, 0, 231, 10, [.val (.ref 1024), .val (.ref 320), .val (.int p2), .val (.int p3), .val (.int p4), .val (.int p5), .val (.int 0)], [], (126, 120, L, [Y, T, H, H2, RU_1, RV, ST, NS, I0, I1, I2, BO, FI, RG, GU, PU, MA, MN, MS, OT, SC], [r0, r1, r2, r3, w, 192, r6, r7, r8], Lg)) o from ev_b 2 e (fun n => Eq.refl _)
  refine ev_loop (δ := Unit) (fun a j => (d + 3, 0, 0, 231, 10, [.val (.ref 1024), .val (.ref 320), .val (.int p2), .val (.int p3), .val (.int p4), .val (.int p5), .val (.int a.1)], [], (126, 120, L, [Y, T, H, H2, a.2, RV, ST, NS, I0, I1, I2, BO, FI, RG, GU, PU, MA, MN, MS, OT, SC], [r0, r1, r2, r3, w, 192, r6, r7, r8], Lg))) (fun b => sumE b (fun b => ∀ s6 : Value, Ev (d + 3, 0, 0, 231, 57, [.val (.ref 1024), .val (.ref 320), .val (.int p2), .val (.int p3), .val (.int p4), .val (.int p5), .val s6], [], (126, 120, L, [Y, T, H, H2, b, RV, ST, NS, I0, I1, I2, BO, FI, RG, GU, PU, MA, MN, MS, OT, SC], [r0, r1, r2, r3, w, 192, r6, r7, r8], Lg)) o) (fun b => ((0, some (.int b.1), (126, 120, L, [Y, T, H, H2, b.2, RV, ST, NS, I0, I1, I2, BO, FI, RG, GU, PU, MA, MN, MS, OT, SC], [r0, r1, r2, r3, w, 192, r6, r7, r8], Lg)) : AOut) = o)) ?_ a_F (0, RU_1) zb3 zh4 ?_ ()
  · rintro ⟨v2, RU_3⟩ zr8 zh7 zi5 zx6 ⟨⟩
    have zh7 : f_Pusher_allYield_l10 H BO p4 p2 v2 RU_3 = some zr8 := zh7
    suffices e : Ev (d + 3, 0, 0, 231, 19, [.val (.ref 1024), .val (.ref 320), .val (.int p2), .val (.int p3), .val (.int p4), .val (.int p5), .val (.int v2)], [.ref 192, .int v2], (126, 120, L, [Y, T, H, H2, RU_3, RV, ST, NS, I0, I1, I2, BO, FI, RG, GU, PU, MA, MN, MS, OT, SC], [r0, r1, r2, r3, w, 192, r6, r7, r8], Lg)) o from ev_b 4 e (fun n => Eq.refl _)
    by_cases zc9 : (H 0 3) ≤ v2
    · have zh7 := itp zh7 zc9
      suffices e : Ev (d + 3, 0, 0, 231, 57, [.val (.ref 1024), .val (.ref 320), .val (.int p2), .val (.int p3), .val (.int p4), .val (.int p5), .val (.int v2)], [], (126, 120, L, [Y, T, H, H2, RU_3, RV, ST, NS, I0, I1, I2, BO, FI, RG, GU, PU, MA, MN, MS, OT, SC], [r0, r1, r2, r3, w, 192, r6, r7, r8], Lg)) o from ev_t (c := (H 0 3) ≤ v2) _ _ 2  zc9 e (fun n => Eq.refl _)
      exact ev_b 0 (zx6 _ (Option.some.inj zh7).symm (.int v2)) (fun n => Eq.refl _)
    · have zh7 := itn zh7 zc9
      suffices e : Ev (d + 3, 0, 0, 231, 25, [.val (.ref 1024), .val (.ref 320), .val (.int p2), .val (.int p3), .val (.int p4), .val (.int p5), .val (.int v2)], [], (126, 120, L, [Y, T, H, H2, RU_3, RV, ST, NS, I0, I1, I2, BO, FI, RG, GU, PU, MA, MN, MS, OT, SC], [r0, r1, r2, r3, w, 192, r6, r7, r8], Lg)) o from ev_f (c := (H 0 3) ≤ v2) _ _ 2  zc9 e (fun n => Eq.refl _)
      by_cases zc10 : ((a_shr p4 v2) &&& 1) = 0
      · have zh7 := itp zh7 zc10
        suffices e : Ev (d + 3, 0, 0, 231, 51, [.val (.ref 1024), .val (.ref 320), .val (.int p2), .val (.int p3), .val (.int p4), .val (.int p5), .val (.int v2)], [], (126, 120, L, [Y, T, H, H2, RU_3, RV, ST, NS, I0, I1, I2, BO, FI, RG, GU, PU, MA, MN, MS, OT, SC], [r0, r1, r2, r3, w, 192, r6, r7, r8], Lg)) o from ev_t (c := ((a_shr p4 v2) &&& 1) = 0) _ _ 6  zc10 e (fun n => Eq.refl _)
        exact ev_b 2 (zi5 _ (Option.some.inj zh7).symm ()) (fun n => Eq.refl _)
      · have zh7 := itn zh7 zc10
        suffices e : Ev (d + 3, 0, 0, 231, 35, [.val (.ref 1024), .val (.ref 320), .val (.int p2), .val (.int p3), .val (.int p4), .val (.int p5), .val (.int v2)], [], (126, 120, L, [Y, T, H, H2, RU_3, RV, ST, NS, I0, I1, I2, BO, FI, RG, GU, PU, MA, MN, MS, OT, SC], [r0, r1, r2, r3, w, 192, r6, r7, r8], Lg)) o from ev_f (c := ((a_shr p4 v2) &&& 1) = 0) _ _ 6  zc10 e (fun n => Eq.refl _)
        obtain ⟨⟨x4, RU_5⟩, zh11, zh7⟩ := bnd zh7
        have zh11 : f_Rule_isSo H RU_3 BO v2 p2 = some (x4, RU_5) := zh11
        have ze12 := R_f_Rule_isSo_0 (d + 0) Y T H H2 RU_3 RV ST NS I0 I1 I2 BO FI RG GU PU MA MN MS OT SC r0 r1 r2 r3 w r6 r7 r8 L Lg v2 p2 zh11
        suffices e : Ev (d + 3, 0, 0, 231, 46, [.val (.ref 1024), .val (.ref 320), .val (.int p2), .val (.int p3), .val (.int p4), .val (.int p5), .val (.int v2)], [.int x4], (126, 120, L, [Y, T, H, H2, RU_5, RV, ST, NS, I0, I1, I2, BO, FI, RG, GU, PU, MA, MN, MS, OT, SC], [r0, r1, r2, r3, w, 192, r6, r7, r8], Lg)) o from ev_call (fun v μ => (d + 3, 0, 0, 231, 46, [.val (.ref 1024), .val (.ref 320), .val (.int p2), .val (.int p3), .val (.int p4), .val (.int p5), .val (.int v2)], v.toList ++ [], μ)) 6 ze12 e (fun n => Eq.refl _)
        by_cases zc13 : x4 ≠ 0
        · have zh7 := itp zh7 zc13
          suffices e : Ev (d + 3, 0, 0, 231, 51, [.val (.ref 1024), .val (.ref 320), .val (.int p2), .val (.int p3), .val (.int p4), .val (.int p5), .val (.int v2)], [], (126, 120, L, [Y, T, H, H2, RU_5, RV, ST, NS, I0, I1, I2, BO, FI, RG, GU, PU, MA, MN, MS, OT, SC], [r0, r1, r2, r3, w, 192, r6, r7, r8], Lg)) o from ev_t (c := x4 ≠ 0) _ _ 1  zc13 e (fun n => Eq.refl _)
          exact ev_b 2 (zi5 _ (Option.some.inj zh7).symm ()) (fun n => Eq.refl _)
        · have zh7 := itn zh7 zc13
          suffices e : Ev (d + 3, 0, 0, 231, 49, [.val (.ref 1024), .val (.ref 320), .val (.int p2), .val (.int p3), .val (.int p4), .val (.int p5), .val (.int v2)], [], (126, 120, L, [Y, T, H, H2, RU_5, RV, ST, NS, I0, I1, I2, BO, FI, RG, GU, PU, MA, MN, MS, OT, SC], [r0, r1, r2, r3, w, 192, r6, r7, r8], Lg)) o from ev_f (c := x4 ≠ 0) _ _ 1  zc13 e (fun n => Eq.refl _)
          exact ev_rete 2 (zx6 _ (Option.some.inj zh7).symm) (fun n => Eq.refl _)
  · rcases zb3 with RU_7 | zr8
    · intro s6
      have ze14 := Option.some.inj h
      subst ze14
      exact ev_rete 2 ho (fun n => Eq.refl _)
    · have zh15 : some zr8 = some r := h
      exact (congrArg (fun q => ((0, some (.int q.1), (126, 120, L, [Y, T, H, H2, q.2, RV, ST, NS, I0, I1, I2, BO, FI, RG, GU, PU, MA, MN, MS, OT, SC], [r0, r1, r2, r3, w, 192, r6, r7, r8], Lg)) : AOut)) (Option.some.inj zh15)).trans ho
set_option maxRecDepth 1000000 in
set_option maxHeartbeats 4000000 in
theorem R_f_Pusher_firstYielded_0 (d : Nat) (Y T H H2 RU RV ST NS I0 I1 I2 BO FI RG GU PU MA MN MS OT SC : Nat → Nat → Int32) (r0 r1 r2 r3 w r6 r7 r8 : Nat) (L : Nat) (Lg : Int64) (p2 : Int32) (p3 : Int32) {r : Int32 × (Nat → Nat → Int32)} (h : f_Pusher_firstYielded H RU BO p2 p3 = some r) : Ev (d + 4, 0, 0, 230, 0, [.val (.ref 1024), .val (.ref 320), .val (.int p2), .val (.int p3), .val a_unk, .val a_unk, .val a_unk, .val a_unk], [], (126, 120, L, [Y, T, H, H2, RU, RV, ST, NS, I0, I1, I2, BO, FI, RG, GU, PU, MA, MN, MS, OT, SC], [r0, r1, r2, r3, w, 192, r6, r7, r8], Lg)) ((0, some (.int r.1), (126, 120, L, [Y, T, H, H2, r.2, RV, ST, NS, I0, I1, I2, BO, FI, RG, GU, PU, MA, MN, MS, OT, SC], [r0, r1, r2, r3, w, 192, r6, r7, r8], Lg)) : AOut) := by
  suffices key : ∀ o : AOut, ((0, some (.int r.1), (126, 120, L, [Y, T, H, H2, r.2, RV, ST, NS, I0, I1, I2, BO, FI, RG, GU, PU, MA, MN, MS, OT, SC], [r0, r1, r2, r3, w, 192, r6, r7, r8], Lg)) : AOut) = o → Ev (d + 4, 0, 0, 230, 0, [.val (.ref 1024), .val (.ref 320), .val (.int p2), .val (.int p3), .val a_unk, .val a_unk, .val a_unk, .val a_unk], [], (126, 120, L, [Y, T, H, H2, RU, RV, ST, NS, I0, I1, I2, BO, FI, RG, GU, PU, MA, MN, MS, OT, SC], [r0, r1, r2, r3, w, 192, r6, r7, r8], Lg)) o from key _ rfl
  intro o ho
  obtain ⟨zb1, zh2, h⟩ := bnd h
  suffices e : Ev (d + 4, 0, 0, 230, 3, [.val (.ref 1024), .val (.ref 320), .val (.int p2), .val (.int p3), .val (.int 0), .val a_unk, .val a_unk, .val a_unk], [], (126, 120, L, [Y, T, H, H2, RU, RV, ST, NS, I0, I1, I2, BO, FI, RG, GU, PU, MA, MN, MS, OT, SC], [r0, r1, r2, r3, w, 192, r6, r7, r8], Lg)) o from ev_b 2 e (fun n => Eq.refl _)
  refine ev_loop (δ := Value × Value × Value) (fun a j => (d + 4, 0, 0, 230, 3, [.val (.ref 1024), .val (.ref 320), .val (.int p2), .val (.int p3), .val (.int a.1), .val j.1, .val j.2.1, .val j.2.2], [], (126, 120, L, [Y, T, H, H2, a.2, RV, ST, NS, I0, I1, I2, BO, FI, RG, GU, PU, MA, MN, MS, OT, SC], [r0, r1, r2, r3, w, 192, r6, r7, r8], Lg))) (fun b => sumE b (fun b => ∀ s19 : Value, ∀ s20 : Value, ∀ s21 : Value, ∀ s22 : Value, Ev (d + 4, 0, 0, 230, 98, [.val (.ref 1024), .val (.ref 320), .val (.int p2), .val (.int p3), .val s19, .val s20, .val s21, .val s22], [], (126, 120, L, [Y, T, H, H2, b, RV, ST, NS, I0, I1, I2, BO, FI, RG, GU, PU, MA, MN, MS, OT, SC], [r0, r1, r2, r3, w, 192, r6, r7, r8], Lg)) o) (fun b => ((0, some (.int b.1), (126, 120, L, [Y, T, H, H2, b.2, RV, ST, NS, I0, I1, I2, BO, FI, RG, GU, PU, MA, MN, MS, OT, SC], [r0, r1, r2, r3, w, 192, r6, r7, r8], Lg)) : AOut) = o)) ?_ a_F (0, RU) zb1 zh2 ?_ (a_unk, a_unk, a_unk)
  · rintro ⟨v1, RU_5⟩ zr6 zh5 zi3 zx4 ⟨s2, s3, s4⟩
    have zh5 : f_Pusher_firstYielded_l3 H BO p2 p3 v1 RU_5 = some zr6 := zh5
    suffices e : Ev (d + 4, 0, 0, 230, 12, [.val (.ref 1024), .val (.ref 320), .val (.int p2), .val (.int p3), .val (.int v1), .val s2, .val s3, .val s4], [.ref 192, .int v1], (126, 120, L, [Y, T, H, H2, RU_5, RV, ST, NS, I0, I1, I2, BO, FI, RG, GU, PU, MA, MN, MS, OT, SC], [r0, r1, r2, r3, w, 192, r6, r7, r8], Lg)) o from ev_b 4 e (fun n => Eq.refl _)
    by_cases zc7 : (H 0 0) ≤ v1
    · have zh5 := itp zh5 zc7
      suffices e : Ev (d + 4, 0, 0, 230, 98, [.val (.ref 1024), .val (.ref 320), .val (.int p2), .val (.int p3), .val (.int v1), .val s2, .val s3, .val s4], [], (126, 120, L, [Y, T, H, H2, RU_5, RV, ST, NS, I0, I1, I2, BO, FI, RG, GU, PU, MA, MN, MS, OT, SC], [r0, r1, r2, r3, w, 192, r6, r7, r8], Lg)) o from ev_t (c := (H 0 0) ≤ v1) _ _ 2  zc7 e (fun n => Eq.refl _)
      exact ev_b 0 (zx4 _ (Option.some.inj zh5).symm (.int v1) s2 s3 s4) (fun n => Eq.refl _)
    · have zh5 := itn zh5 zc7
      suffices e : Ev (d + 4, 0, 0, 230, 18, [.val (.ref 1024), .val (.ref 320), .val (.int p2), .val (.int p3), .val (.int v1), .val s2, .val s3, .val s4], [], (126, 120, L, [Y, T, H, H2, RU_5, RV, ST, NS, I0, I1, I2, BO, FI, RG, GU, PU, MA, MN, MS, OT, SC], [r0, r1, r2, r3, w, 192, r6, r7, r8], Lg)) o from ev_f (c := (H 0 0) ≤ v1) _ _ 2  zc7 e (fun n => Eq.refl _)
      obtain ⟨zb8, zh9, zh5⟩ := bnd zh5
      suffices e : Ev (d + 4, 0, 0, 230, 21, [.val (.ref 1024), .val (.ref 320), .val (.int p2), .val (.int p3), .val (.int v1), .val (.int 0), .val s3, .val s4], [], (126, 120, L, [Y, T, H, H2, RU_5, RV, ST, NS, I0, I1, I2, BO, FI, RG, GU, PU, MA, MN, MS, OT, SC], [r0, r1, r2, r3, w, 192, r6, r7, r8], Lg)) o from ev_b 2 e (fun n => Eq.refl _)
      refine ev_loop (δ := Value × Value) (fun a j => (d + 4, 0, 0, 230, 21, [.val (.ref 1024), .val (.ref 320), .val (.int p2), .val (.int p3), .val (.int v1), .val (.int a.1), .val j.1, .val j.2], [], (126, 120, L, [Y, T, H, H2, a.2, RV, ST, NS, I0, I1, I2, BO, FI, RG, GU, PU, MA, MN, MS, OT, SC], [r0, r1, r2, r3, w, 192, r6, r7, r8], Lg))) (fun b => sumE b (fun b => ∀ s15 : Value, ∀ s16 : Value, ∀ s17 : Value, Ev (d + 4, 0, 0, 230, 92, [.val (.ref 1024), .val (.ref 320), .val (.int p2), .val (.int p3), .val (.int v1), .val s15, .val s16, .val s17], [], (126, 120, L, [Y, T, H, H2, b, RV, ST, NS, I0, I1, I2, BO, FI, RG, GU, PU, MA, MN, MS, OT, SC], [r0, r1, r2, r3, w, 192, r6, r7, r8], Lg)) o) (fun b => ∀ c, b = .inr c → (fun b => sumE b (fun b => ∀ s19 : Value, ∀ s20 : Value, ∀ s21 : Value, ∀ s22 : Value, Ev (d + 4, 0, 0, 230, 98, [.val (.ref 1024), .val (.ref 320), .val (.int p2), .val (.int p3), .val s19, .val s20, .val s21, .val s22], [], (126, 120, L, [Y, T, H, H2, b, RV, ST, NS, I0, I1, I2, BO, FI, RG, GU, PU, MA, MN, MS, OT, SC], [r0, r1, r2, r3, w, 192, r6, r7, r8], Lg)) o) (fun b => ((0, some (.int b.1), (126, 120, L, [Y, T, H, H2, b.2, RV, ST, NS, I0, I1, I2, BO, FI, RG, GU, PU, MA, MN, MS, OT, SC], [r0, r1, r2, r3, w, 192, r6, r7, r8], Lg)) : AOut) = o)) c)) ?_ a_F (0, RU_5) zb8 zh9 ?_ (s3, s4)
      · rintro ⟨v6, RU_9⟩ zr13 zh12 zi10 zx11 ⟨s7, s8⟩
        have zh12 : f_Pusher_firstYielded_l21 H BO v1 p2 p3 v6 RU_9 = some zr13 := zh12
        suffices e : Ev (d + 4, 0, 0, 230, 30, [.val (.ref 1024), .val (.ref 320), .val (.int p2), .val (.int p3), .val (.int v1), .val (.int v6), .val s7, .val s8], [.ref 192, .int v6], (126, 120, L, [Y, T, H, H2, RU_9, RV, ST, NS, I0, I1, I2, BO, FI, RG, GU, PU, MA, MN, MS, OT, SC], [r0, r1, r2, r3, w, 192, r6, r7, r8], Lg)) o from ev_b 4 e (fun n => Eq.refl _)
        by_cases zc14 : (H 0 1) ≤ v6
        · have zh12 := itp zh12 zc14
          suffices e : Ev (d + 4, 0, 0, 230, 92, [.val (.ref 1024), .val (.ref 320), .val (.int p2), .val (.int p3), .val (.int v1), .val (.int v6), .val s7, .val s8], [], (126, 120, L, [Y, T, H, H2, RU_9, RV, ST, NS, I0, I1, I2, BO, FI, RG, GU, PU, MA, MN, MS, OT, SC], [r0, r1, r2, r3, w, 192, r6, r7, r8], Lg)) o from ev_t (c := (H 0 1) ≤ v6) _ _ 2  zc14 e (fun n => Eq.refl _)
          exact ev_b 0 (zx11 _ (Option.some.inj zh12).symm (.int v6) s7 s8) (fun n => Eq.refl _)
        · have zh12 := itn zh12 zc14
          suffices e : Ev (d + 4, 0, 0, 230, 36, [.val (.ref 1024), .val (.ref 320), .val (.int p2), .val (.int p3), .val (.int v1), .val (.int v6), .val s7, .val s8], [], (126, 120, L, [Y, T, H, H2, RU_9, RV, ST, NS, I0, I1, I2, BO, FI, RG, GU, PU, MA, MN, MS, OT, SC], [r0, r1, r2, r3, w, 192, r6, r7, r8], Lg)) o from ev_f (c := (H 0 1) ≤ v6) _ _ 2  zc14 e (fun n => Eq.refl _)
          obtain ⟨x10, zh15, zh12⟩ := bnd zh12
          have zh15 : f_Y_placeOf v1 v6 = some x10 := zh15
          have ze16 := R_f_Y_placeOf_0 (d + 3) Y T H H2 RU_9 RV ST NS I0 I1 I2 BO FI RG GU PU MA MN MS OT SC r0 r1 r2 r3 w 192 r6 r7 r8 L Lg v1 v6 zh15
          suffices e : Ev (d + 4, 0, 0, 230, 43, [.val (.ref 1024), .val (.ref 320), .val (.int p2), .val (.int p3), .val (.int v1), .val (.int v6), .val s7, .val s8], [.int x10], (126, 120, L, [Y, T, H, H2, RU_9, RV, ST, NS, I0, I1, I2, BO, FI, RG, GU, PU, MA, MN, MS, OT, SC], [r0, r1, r2, r3, w, 192, r6, r7, r8], Lg)) o from ev_call (fun v μ => (d + 4, 0, 0, 230, 43, [.val (.ref 1024), .val (.ref 320), .val (.int p2), .val (.int p3), .val (.int v1), .val (.int v6), .val s7, .val s8], v.toList ++ [], μ)) 3 ze16 e (fun n => Eq.refl _)
          obtain ⟨x11, zh17, zh12⟩ := bnd zh12
          have zh17 : f_Board_inWay H BO p2 x10 = some x11 := zh17
          have ze18 := R_f_Board_inWay_0 (d + 1) Y T H H2 RU_9 RV ST NS I0 I1 I2 BO FI RG GU PU MA MN MS OT SC r0 r1 r2 r3 w r6 r7 r8 L Lg p2 x10 zh17
          suffices e : Ev (d + 4, 0, 0, 230, 55, [.val (.ref 1024), .val (.ref 320), .val (.int p2), .val (.int p3), .val (.int v1), .val (.int v6), .val (.int x10), .val s8], [.int x11], (126, 120, L, [Y, T, H, H2, RU_9, RV, ST, NS, I0, I1, I2, BO, FI, RG, GU, PU, MA, MN, MS, OT, SC], [r0, r1, r2, r3, w, 192, r6, r7, r8], Lg)) o from ev_call (fun v μ => (d + 4, 0, 0, 230, 55, [.val (.ref 1024), .val (.ref 320), .val (.int p2), .val (.int p3), .val (.int v1), .val (.int v6), .val (.int x10), .val s8], v.toList ++ [], μ)) 6 ze18 e (fun n => Eq.refl _)
          obtain ⟨x12, zh19, zh12⟩ := bnd zh12
          have zh19 : f_Pusher_mayEnter H BO p2 x10 x11 = some x12 := zh19
          have ze20 := R_f_Pusher_mayEnter_0 (d + 1) Y T H H2 RU_9 RV ST NS I0 I1 I2 BO FI RG GU PU MA MN MS OT SC r0 r1 r2 r3 w r6 r7 r8 L Lg p2 x10 x11 zh19
          suffices e : Ev (d + 4, 0, 0, 230, 66, [.val (.ref 1024), .val (.ref 320), .val (.int p2), .val (.int p3), .val (.int v1), .val (.int v6), .val (.int x10), .val (.int x11)], [.int x12], (126, 120, L, [Y, T, H, H2, RU_9, RV, ST, NS, I0, I1, I2, BO, FI, RG, GU, PU, MA, MN, MS, OT, SC], [r0, r1, r2, r3, w, 192, r6, r7, r8], Lg)) o from ev_call (fun v μ => (d + 4, 0, 0, 230, 66, [.val (.ref 1024), .val (.ref 320), .val (.int p2), .val (.int p3), .val (.int v1), .val (.int v6), .val (.int x10), .val (.int x11)], v.toList ++ [], μ)) 6 ze20 e (fun n => Eq.refl _)
          by_cases zc21 : x12 = 0
          · have zh12 := itp zh12 zc21
            suffices e : Ev (d + 4, 0, 0, 230, 86, [.val (.ref 1024), .val (.ref 320), .val (.int p2), .val (.int p3), .val (.int v1), .val (.int v6), .val (.int x10), .val (.int x11)], [], (126, 120, L, [Y, T, H, H2, RU_9, RV, ST, NS, I0, I1, I2, BO, FI, RG, GU, PU, MA, MN, MS, OT, SC], [r0, r1, r2, r3, w, 192, r6, r7, r8], Lg)) o from ev_t (c := x12 = 0) _ _ 1  zc21 e (fun n => Eq.refl _)
            exact ev_b 2 (zi10 _ (Option.some.inj zh12).symm ((.int x10), (.int x11))) (fun n => Eq.refl _)
          · have zh12 := itn zh12 zc21
            suffices e : Ev (d + 4, 0, 0, 230, 69, [.val (.ref 1024), .val (.ref 320), .val (.int p2), .val (.int p3), .val (.int v1), .val (.int v6), .val (.int x10), .val (.int x11)], [], (126, 120, L, [Y, T, H, H2, RU_9, RV, ST, NS, I0, I1, I2, BO, FI, RG, GU, PU, MA, MN, MS, OT, SC], [r0, r1, r2, r3, w, 192, r6, r7, r8], Lg)) o from ev_f (c := x12 = 0) _ _ 1  zc21 e (fun n => Eq.refl _)
            obtain ⟨⟨x13, RU_14⟩, zh22, zh12⟩ := bnd zh12
            have zh22 : f_Pusher_allYield H RU_9 BO p2 x10 x11 p3 = some (x13, RU_14) := zh22
            have ze23 := R_f_Pusher_allYield_0 (d + 0) Y T H H2 RU_9 RV ST NS I0 I1 I2 BO FI RG GU PU MA MN MS OT SC r0 r1 r2 r3 w r6 r7 r8 L Lg p2 x10 x11 p3 zh22
            suffices e : Ev (d + 4, 0, 0, 230, 80, [.val (.ref 1024), .val (.ref 320), .val (.int p2), .val (.int p3), .val (.int v1), .val (.int v6), .val (.int x10), .val (.int x11)], [.int x13], (126, 120, L, [Y, T, H, H2, RU_14, RV, ST, NS, I0, I1, I2, BO, FI, RG, GU, PU, MA, MN, MS, OT, SC], [r0, r1, r2, r3, w, 192, r6, r7, r8], Lg)) o from ev_call (fun v μ => (d + 4, 0, 0, 230, 80, [.val (.ref 1024), .val (.ref 320), .val (.int p2), .val (.int p3), .val (.int v1), .val (.int v6), .val (.int x10), .val (.int x11)], v.toList ++ [], μ)) 7 ze23 e (fun n => Eq.refl _)
            by_cases zc24 : x13 = 0
            · have zh12 := itp zh12 zc24
              suffices e : Ev (d + 4, 0, 0, 230, 86, [.val (.ref 1024), .val (.ref 320), .val (.int p2), .val (.int p3), .val (.int v1), .val (.int v6), .val (.int x10), .val (.int x11)], [], (126, 120, L, [Y, T, H, H2, RU_14, RV, ST, NS, I0, I1, I2, BO, FI, RG, GU, PU, MA, MN, MS, OT, SC], [r0, r1, r2, r3, w, 192, r6, r7, r8], Lg)) o from ev_t (c := x13 = 0) _ _ 1  zc24 e (fun n => Eq.refl _)
              exact ev_b 2 (zi10 _ (Option.some.inj zh12).symm ((.int x10), (.int x11))) (fun n => Eq.refl _)
            · have zh12 := itn zh12 zc24
              suffices e : Ev (d + 4, 0, 0, 230, 83, [.val (.ref 1024), .val (.ref 320), .val (.int p2), .val (.int p3), .val (.int v1), .val (.int v6), .val (.int x10), .val (.int x11)], [], (126, 120, L, [Y, T, H, H2, RU_14, RV, ST, NS, I0, I1, I2, BO, FI, RG, GU, PU, MA, MN, MS, OT, SC], [r0, r1, r2, r3, w, 192, r6, r7, r8], Lg)) o from ev_f (c := x13 = 0) _ _ 1  zc24 e (fun n => Eq.refl _)
              exact ev_rete 2 (zx11 _ (Option.some.inj zh12).symm _ rfl) (fun n => Eq.refl _)
      · rcases zb8 with RU_18 | zr13
        · intro s15 s16 s17
          exact ev_b 2 (zi3 _ (Option.some.inj zh5).symm (s15, s16, s17)) (fun n => Eq.refl _)
        · have zh25 : some zr13 = some _ := zh5
          exact fun c hc => zx4 c ((Option.some.inj zh25).symm.trans hc)
  · rcases zb1 with RU_23 | zr6
    · intro s19 s20 s21 s22
      have ze27 := Option.some.inj h
      subst ze27
      exact ev_rete 2 ho (fun n => Eq.refl _)
    · have zh28 : some zr6 = some r := h
      exact (congrArg (fun q => ((0, some (.int q.1), (126, 120, L, [Y, T, H, H2, q.2, RV, ST, NS, I0, I1, I2, BO, FI, RG, GU, PU, MA, MN, MS, OT, SC], [r0, r1, r2, r3, w, 192, r6, r7, r8], Lg)) : AOut)) (Option.some.inj zh28)).trans ho
set_option maxRecDepth 1000000 in
set_option maxHeartbeats 4000000 in
theorem R_f_Pusher_look_0 (d : Nat) (Y T H H2 RU RV ST NS I0 I1 I2 BO FI RG GU PU MA MN MS OT SC : Nat → Nat → Int32) (r0 r1 r2 r3 w r6 r7 r8 : Nat) (L : Nat) (Lg : Int64) (p2 : Int32) {r : (Nat → Nat → Int32) × (Nat → Nat → Int32) × (Nat → Nat → Int32)} (h : f_Pusher_look H RU BO PU p2 = some r) : Ev (d + 5, 0, 0, 228, 0, [.val (.ref 1024), .val (.ref 320), .val (.int p2), .val a_unk, .val a_unk], [], (126, 120, L, [Y, T, H, H2, RU, RV, ST, NS, I0, I1, I2, BO, FI, RG, GU, PU, MA, MN, MS, OT, SC], [r0, r1, r2, r3, w, 192, r6, r7, r8], Lg)) ((0, none, (126, 120, L, [Y, T, H, H2, r.1, RV, ST, NS, I0, I1, I2, r.2.1, FI, RG, GU, r.2.2, MA, MN, MS, OT, SC], [r0, r1, r2, r3, w, 192, r6, r7, r8], Lg)) : AOut) := by
  suffices key : ∀ o : AOut, ((0, none, (126, 120, L, [Y, T, H, H2, r.1, RV, ST, NS, I0, I1, I2, r.2.1, FI, RG, GU, r.2.2, MA, MN, MS, OT, SC], [r0, r1, r2, r3, w, 192, r6, r7, r8], Lg)) : AOut) = o → Ev (d + 5, 0, 0, 228, 0, [.val (.ref 1024), .val (.ref 320), .val (.int p2), .val a_unk, .val a_unk], [], (126, 120, L, [Y, T, H, H2, RU, RV, ST, NS, I0, I1, I2, BO, FI, RG, GU, PU, MA, MN, MS, OT, SC], [r0, r1, r2, r3, w, 192, r6, r7, r8], Lg)) o from key _ rfl
  intro o ho
  obtain ⟨x1, zh1, h⟩ := bnd h
  have zh1 : rdx (PU 1) 10 0 = some x1 := zh1
  suffices e : Ev (d + 5, 0, 0, 228, 6, [.val (.ref 1024), .val (.ref 320), .val (.int p2), .val a_unk, .val a_unk], [.int x1], (126, 120, L, [Y, T, H, H2, RU, RV, ST, NS, I0, I1, I2, BO, FI, RG, GU, PU, MA, MN, MS, OT, SC], [r0, r1, r2, r3, w, 192, r6, r7, r8], Lg)) o from ev_opt (fun x1 => (d + 5, 0, 0, 228, 6, [.val (.ref 1024), .val (.ref 320), .val (.int p2), .val a_unk, .val a_unk], [.int x1], (126, 120, L, [Y, T, H, H2, RU, RV, ST, NS, I0, I1, I2, BO, FI, RG, GU, PU, MA, MN, MS, OT, SC], [r0, r1, r2, r3, w, 192, r6, r7, r8], Lg))) 4 zh1 e (fun n => Eq.refl _)
  by_cases zc2 : ((1 : Int32) < 0 ∨ (0 : Int32) < 0 ∨ (9 : Int32) < 0 ∨ 10 < (1 : Int32).toNatClampNeg + (9 : Int32).toNatClampNeg ∨ 10 < (0 : Int32).toNatClampNeg + (9 : Int32).toNatClampNeg)
  · exact nos (itp h zc2)
  have h := itn h zc2
  suffices e : Ev (d + 5, 0, 0, 228, 32, [.val (.ref 1024), .val (.ref 320), .val (.int p2), .val (.int x1), .val a_unk], [], (126, 120, L, [Y, T, H, H2, RU, RV, ST, NS, I0, I1, I2, BO, FI, RG, GU, (u1 (u2 PU 0 2 ((PU 0 2) - 1)) 1 (a_cpy ((u2 PU 0 2 ((PU 0 2) - 1)) 1) ((u2 PU 0 2 ((PU 0 2) - 1)) 1) (1 : Int32).toNatClampNeg (0 : Int32).toNatClampNeg (9 : Int32).toNatClampNeg)), MA, MN, MS, OT, SC], [r0, r1, r2, r3, w, 192, r6, r7, r8], Lg)) o from ev_d (c := ((1 : Int32) < 0 ∨ (0 : Int32) < 0 ∨ (9 : Int32) < 0 ∨ 10 < (1 : Int32).toNatClampNeg + (9 : Int32).toNatClampNeg ∨ 10 < (0 : Int32).toNatClampNeg + (9 : Int32).toNatClampNeg)) _ 15 zc2 e (fun n => Eq.refl _)
  obtain ⟨x2, zh3, h⟩ := bnd h
  have zh3 : f_Pusher_firstOpen H BO x1 = some x2 := zh3
  have ze4 := R_f_Pusher_firstOpen_0 (d + 1) Y T H H2 RU RV ST NS I0 I1 I2 BO FI RG GU (u1 (u2 PU 0 2 ((PU 0 2) - 1)) 1 (a_cpy ((u2 PU 0 2 ((PU 0 2) - 1)) 1) ((u2 PU 0 2 ((PU 0 2) - 1)) 1) (1 : Int32).toNatClampNeg (0 : Int32).toNatClampNeg (9 : Int32).toNatClampNeg)) MA MN MS OT SC r0 r1 r2 r3 w r6 r7 r8 L Lg x1 zh3
  suffices e : Ev (d + 5, 0, 0, 228, 37, [.val (.ref 1024), .val (.ref 320), .val (.int p2), .val (.int x1), .val a_unk], [.int x2], (126, 120, L, [Y, T, H, H2, RU, RV, ST, NS, I0, I1, I2, BO, FI, RG, GU, (u1 (u2 PU 0 2 ((PU 0 2) - 1)) 1 (a_cpy ((u2 PU 0 2 ((PU 0 2) - 1)) 1) ((u2 PU 0 2 ((PU 0 2) - 1)) 1) (1 : Int32).toNatClampNeg (0 : Int32).toNatClampNeg (9 : Int32).toNatClampNeg)), MA, MN, MS, OT, SC], [r0, r1, r2, r3, w, 192, r6, r7, r8], Lg)) o from ev_call (fun v μ => (d + 5, 0, 0, 228, 37, [.val (.ref 1024), .val (.ref 320), .val (.int p2), .val (.int x1), .val a_unk], v.toList ++ [], μ)) 3 ze4 e (fun n => Eq.refl _)
  obtain ⟨zt5, zh6, h⟩ := bnd h
  have zj7 : ∀ (v8 : Int32) (RU_9 : (Nat → Nat → Int32)) (BO_10 : (Nat → Nat → Int32)) (PU_11 : (Nat → Nat → Int32)), zt5 = .inl (v8, RU_9, BO_10, PU_11) → Ev (d + 5, 0, 0, 228, 75, [.val (.ref 1024), .val (.ref 320), .val (.int p2), .val (.int x1), .val (.int v8)], [], (126, 120, L, [Y, T, H, H2, RU_9, RV, ST, NS, I0, I1, I2, BO_10, FI, RG, GU, PU_11, MA, MN, MS, OT, SC], [r0, r1, r2, r3, w, 192, r6, r7, r8], Lg)) o := by
    intro v8 RU_9 BO_10 PU_11 ze8
    have h := sum_l h ze8
    obtain ⟨j12, zh9, h⟩ := bnd h
    have zh9 : ixx 10 x1 = some j12 := zh9
    suffices e : Ev (d + 5, 0, 0, 228, 86, [.val (.ref 1024), .val (.ref 320), .val (.int p2), .val (.int x1), .val (.int v8)], [], (126, 120, L, [Y, T, H, H2, RU_9, RV, ST, NS, I0, I1, I2, (u2 BO_10 1 j12 v8), FI, RG, GU, PU_11, MA, MN, MS, OT, SC], [r0, r1, r2, r3, w, 192, r6, r7, r8], Lg)) o from ev_opt (fun j12 => (d + 5, 0, 0, 228, 86, [.val (.ref 1024), .val (.ref 320), .val (.int p2), .val (.int x1), .val (.int v8)], [], (126, 120, L, [Y, T, H, H2, RU_9, RV, ST, NS, I0, I1, I2, (u2 BO_10 1 j12 v8), FI, RG, GU, PU_11, MA, MN, MS, OT, SC], [r0, r1, r2, r3, w, 192, r6, r7, r8], Lg))) 6 zh9 e (fun n => Eq.refl _)
    have ze10 := Option.some.inj h
    subst ze10
    exact ev_rete 1 ho (fun n => Eq.refl _)
  by_cases zc11 : x2 ≠ (-1)
  · have zh6 := itp zh6 zc11
    suffices e : Ev (d + 5, 0, 0, 228, 75, [.val (.ref 1024), .val (.ref 320), .val (.int p2), .val (.int x1), .val (.int x2)], [], (126, 120, L, [Y, T, H, H2, RU, RV, ST, NS, I0, I1, I2, BO, FI, RG, GU, (u1 (u2 PU 0 2 ((PU 0 2) - 1)) 1 (a_cpy ((u2 PU 0 2 ((PU 0 2) - 1)) 1) ((u2 PU 0 2 ((PU 0 2) - 1)) 1) (1 : Int32).toNatClampNeg (0 : Int32).toNatClampNeg (9 : Int32).toNatClampNeg)), MA, MN, MS, OT, SC], [r0, r1, r2, r3, w, 192, r6, r7, r8], Lg)) o from ev_t (c := x2 ≠ (-1)) _ _ 4  zc11 e (fun n => Eq.refl _)
    exact ev_b 0 (zj7 x2 RU BO (u1 (u2 PU 0 2 ((PU 0 2) - 1)) 1 (a_cpy ((u2 PU 0 2 ((PU 0 2) - 1)) 1) ((u2 PU 0 2 ((PU 0 2) - 1)) 1) (1 : Int32).toNatClampNeg (0 : Int32).toNatClampNeg (9 : Int32).toNatClampNeg)) (Option.some.inj zh6).symm ) (fun n => Eq.refl _)
  · have zh6 := itn zh6 zc11
    suffices e : Ev (d + 5, 0, 0, 228, 45, [.val (.ref 1024), .val (.ref 320), .val (.int p2), .val (.int x1), .val (.int x2)], [], (126, 120, L, [Y, T, H, H2, RU, RV, ST, NS, I0, I1, I2, BO, FI, RG, GU, (u1 (u2 PU 0 2 ((PU 0 2) - 1)) 1 (a_cpy ((u2 PU 0 2 ((PU 0 2) - 1)) 1) ((u2 PU 0 2 ((PU 0 2) - 1)) 1) (1 : Int32).toNatClampNeg (0 : Int32).toNatClampNeg (9 : Int32).toNatClampNeg)), MA, MN, MS, OT, SC], [r0, r1, r2, r3, w, 192, r6, r7, r8], Lg)) o from ev_f (c := x2 ≠ (-1)) _ _ 4  zc11 e (fun n => Eq.refl _)
    obtain ⟨⟨x3, RU_4⟩, zh12, zh6⟩ := bnd zh6
    have zh12 : f_Pusher_firstYielded H RU BO x1 p2 = some (x3, RU_4) := zh12
    have ze13 := R_f_Pusher_firstYielded_0 (d + 0) Y T H H2 RU RV ST NS I0 I1 I2 BO FI RG GU (u1 (u2 PU 0 2 ((PU 0 2) - 1)) 1 (a_cpy ((u2 PU 0 2 ((PU 0 2) - 1)) 1) ((u2 PU 0 2 ((PU 0 2) - 1)) 1) (1 : Int32).toNatClampNeg (0 : Int32).toNatClampNeg (9 : Int32).toNatClampNeg)) MA MN MS OT SC r0 r1 r2 r3 w r6 r7 r8 L Lg x1 p2 zh12
    suffices e : Ev (d + 5, 0, 0, 228, 52, [.val (.ref 1024), .val (.ref 320), .val (.int p2), .val (.int x1), .val (.int x2)], [.int x3], (126, 120, L, [Y, T, H, H2, RU_4, RV, ST, NS, I0, I1, I2, BO, FI, RG, GU, (u1 (u2 PU 0 2 ((PU 0 2) - 1)) 1 (a_cpy ((u2 PU 0 2 ((PU 0 2) - 1)) 1) ((u2 PU 0 2 ((PU 0 2) - 1)) 1) (1 : Int32).toNatClampNeg (0 : Int32).toNatClampNeg (9 : Int32).toNatClampNeg)), MA, MN, MS, OT, SC], [r0, r1, r2, r3, w, 192, r6, r7, r8], Lg)) o from ev_call (fun v μ => (d + 5, 0, 0, 228, 52, [.val (.ref 1024), .val (.ref 320), .val (.int p2), .val (.int x1), .val (.int x2)], v.toList ++ [], μ)) 5 ze13 e (fun n => Eq.refl _)
    by_cases zc14 : x3 ≠ (-1)
    · have zh6 := itp zh6 zc14
      suffices e : Ev (d + 5, 0, 0, 228, 61, [.val (.ref 1024), .val (.ref 320), .val (.int p2), .val (.int x1), .val (.int x3)], [], (126, 120, L, [Y, T, H, H2, RU_4, RV, ST, NS, I0, I1, I2, BO, FI, RG, GU, (u1 (u2 PU 0 2 ((PU 0 2) - 1)) 1 (a_cpy ((u2 PU 0 2 ((PU 0 2) - 1)) 1) ((u2 PU 0 2 ((PU 0 2) - 1)) 1) (1 : Int32).toNatClampNeg (0 : Int32).toNatClampNeg (9 : Int32).toNatClampNeg)), MA, MN, MS, OT, SC], [r0, r1, r2, r3, w, 192, r6, r7, r8], Lg)) o from ev_t (c := x3 ≠ (-1)) _ _ 4  zc14 e (fun n => Eq.refl _)
      obtain ⟨x5, zh15, zh6⟩ := bnd zh6
      have zh15 : f_Board_inWay H BO x1 x3 = some x5 := zh15
      have ze16 := R_f_Board_inWay_0 (d + 2) Y T H H2 RU_4 RV ST NS I0 I1 I2 BO FI RG GU (u1 (u2 PU 0 2 ((PU 0 2) - 1)) 1 (a_cpy ((u2 PU 0 2 ((PU 0 2) - 1)) 1) ((u2 PU 0 2 ((PU 0 2) - 1)) 1) (1 : Int32).toNatClampNeg (0 : Int32).toNatClampNeg (9 : Int32).toNatClampNeg)) MA MN MS OT SC r0 r1 r2 r3 w r6 r7 r8 L Lg x1 x3 zh15
      suffices e : Ev (d + 5, 0, 0, 228, 72, [.val (.ref 1024), .val (.ref 320), .val (.int p2), .val (.int x1), .val (.int x3)], [.int x5, .ref 1024], (126, 120, L, [Y, T, H, H2, RU_4, RV, ST, NS, I0, I1, I2, BO, FI, RG, GU, (u1 (u2 PU 0 2 ((PU 0 2) - 1)) 1 (a_cpy ((u2 PU 0 2 ((PU 0 2) - 1)) 1) ((u2 PU 0 2 ((PU 0 2) - 1)) 1) (1 : Int32).toNatClampNeg (0 : Int32).toNatClampNeg (9 : Int32).toNatClampNeg)), MA, MN, MS, OT, SC], [r0, r1, r2, r3, w, 192, r6, r7, r8], Lg)) o from ev_call (fun v μ => (d + 5, 0, 0, 228, 72, [.val (.ref 1024), .val (.ref 320), .val (.int p2), .val (.int x1), .val (.int x3)], v.toList ++ [.ref 1024], μ)) 6 ze16 e (fun n => Eq.refl _)
      obtain ⟨⟨BO_6, PU_7⟩, zh17, zh6⟩ := bnd zh6
      have zh17 : f_Pusher_leave H BO (u1 (u2 PU 0 2 ((PU 0 2) - 1)) 1 (a_cpy ((u2 PU 0 2 ((PU 0 2) - 1)) 1) ((u2 PU 0 2 ((PU 0 2) - 1)) 1) (1 : Int32).toNatClampNeg (0 : Int32).toNatClampNeg (9 : Int32).toNatClampNeg)) x5 = some (BO_6, PU_7) := zh17
      have ze18 := R_f_Pusher_leave_0 (d + 4) Y T H H2 RU_4 RV ST NS I0 I1 I2 BO FI RG GU (u1 (u2 PU 0 2 ((PU 0 2) - 1)) 1 (a_cpy ((u2 PU 0 2 ((PU 0 2) - 1)) 1) ((u2 PU 0 2 ((PU 0 2) - 1)) 1) (1 : Int32).toNatClampNeg (0 : Int32).toNatClampNeg (9 : Int32).toNatClampNeg)) MA MN MS OT SC r0 r1 r2 r3 w r6 r7 r8 L Lg x5 zh17
      suffices e : Ev (d + 5, 0, 0, 228, 75, [.val (.ref 1024), .val (.ref 320), .val (.int p2), .val (.int x1), .val (.int x3)], [], (126, 120, L, [Y, T, H, H2, RU_4, RV, ST, NS, I0, I1, I2, BO_6, FI, RG, GU, PU_7, MA, MN, MS, OT, SC], [r0, r1, r2, r3, w, 192, r6, r7, r8], Lg)) o from ev_call (fun v μ => (d + 5, 0, 0, 228, 75, [.val (.ref 1024), .val (.ref 320), .val (.int p2), .val (.int x1), .val (.int x3)], v.toList ++ [], μ)) 1 ze18 e (fun n => Eq.refl _)
      exact ev_b 0 (zj7 x3 RU_4 BO_6 PU_7 (Option.some.inj zh6).symm ) (fun n => Eq.refl _)
    · have zh6 := itn zh6 zc14
      suffices e : Ev (d + 5, 0, 0, 228, 60, [.val (.ref 1024), .val (.ref 320), .val (.int p2), .val (.int x1), .val (.int x3)], [], (126, 120, L, [Y, T, H, H2, RU_4, RV, ST, NS, I0, I1, I2, BO, FI, RG, GU, (u1 (u2 PU 0 2 ((PU 0 2) - 1)) 1 (a_cpy ((u2 PU 0 2 ((PU 0 2) - 1)) 1) ((u2 PU 0 2 ((PU 0 2) - 1)) 1) (1 : Int32).toNatClampNeg (0 : Int32).toNatClampNeg (9 : Int32).toNatClampNeg)), MA, MN, MS, OT, SC], [r0, r1, r2, r3, w, 192, r6, r7, r8], Lg)) o from ev_f (c := x3 ≠ (-1)) _ _ 4  zc14 e (fun n => Eq.refl _)
      have zh19 := sum_r h (Option.some.inj zh6).symm
      have ze20 := Option.some.inj zh19
      subst ze20
      exact ev_rete 1 ho (fun n => Eq.refl _)
set_option maxRecDepth 1000000 in
set_option maxHeartbeats 4000000 in
theorem R_f_Pusher_run_0 (d : Nat) (Y T H H2 RU RV ST NS I0 I1 I2 BO FI RG GU PU MA MN MS OT SC : Nat → Nat → Int32) (r0 r1 r2 r3 w r6 r7 r8 : Nat) (L : Nat) (Lg : Int64) (p2 : Int32) (p3 : Int32) {r : Int32 × (Nat → Nat → Int32) × (Nat → Nat → Int32) × (Nat → Nat → Int32)} (h : f_Pusher_run H RU BO PU p2 p3 = some r) : Ev (d + 6, 0, 0, 225, 0, [.val (.ref 1024), .val (.ref 320), .val (.int p2), .val (.int p3), .val a_unk, .val a_unk], [], (126, 120, L, [Y, T, H, H2, RU, RV, ST, NS, I0, I1, I2, BO, FI, RG, GU, PU, MA, MN, MS, OT, SC], [r0, r1, r2, r3, w, 192, r6, r7, r8], Lg)) ((0, some (.int r.1), (126, 120, L, [Y, T, H, H2, r.2.1, RV, ST, NS, I0, I1, I2, r.2.2.1, FI, RG, GU, r.2.2.2, MA, MN, MS, OT, SC], [r0, r1, r2, r3, w, 192, r6, r7, r8], Lg)) : AOut) := by
  suffices key : ∀ o : AOut, ((0, some (.int r.1), (126, 120, L, [Y, T, H, H2, r.2.1, RV, ST, NS, I0, I1, I2, r.2.2.1, FI, RG, GU, r.2.2.2, MA, MN, MS, OT, SC], [r0, r1, r2, r3, w, 192, r6, r7, r8], Lg)) : AOut) = o → Ev (d + 6, 0, 0, 225, 0, [.val (.ref 1024), .val (.ref 320), .val (.int p2), .val (.int p3), .val a_unk, .val a_unk], [], (126, 120, L, [Y, T, H, H2, RU, RV, ST, NS, I0, I1, I2, BO, FI, RG, GU, PU, MA, MN, MS, OT, SC], [r0, r1, r2, r3, w, 192, r6, r7, r8], Lg)) o from key _ rfl
  intro o ho
  obtain ⟨x1, zh1, h⟩ := bnd h
  have zh1 : f_Board_inWay H BO p2 p3 = some x1 := zh1
  have ze2 := R_f_Board_inWay_0 (d + 3) Y T H H2 RU RV ST NS I0 I1 I2 BO FI RG GU (u2 PU 0 2 0) MA MN MS OT SC r0 r1 r2 r3 w r6 r7 r8 L Lg p2 p3 zh1
  suffices e : Ev (d + 6, 0, 0, 225, 14, [.val (.ref 1024), .val (.ref 320), .val (.int p2), .val (.int p3), .val a_unk, .val a_unk], [.int x1], (126, 120, L, [Y, T, H, H2, RU, RV, ST, NS, I0, I1, I2, BO, FI, RG, GU, (u2 PU 0 2 0), MA, MN, MS, OT, SC], [r0, r1, r2, r3, w, 192, r6, r7, r8], Lg)) o from ev_call (fun v μ => (d + 6, 0, 0, 225, 14, [.val (.ref 1024), .val (.ref 320), .val (.int p2), .val (.int p3), .val a_unk, .val a_unk], v.toList ++ [], μ)) 8 ze2 e (fun n => Eq.refl _)
  suffices e : Ev (d + 6, 0, 0, 225, 23, [.val (.ref 1024), .val (.ref 320), .val (.int p2), .val (.int p3), .val (.int x1), .val a_unk], [.ref 192], (126, 120, L, [Y, T, H, H2, RU, RV, ST, NS, I0, I1, I2, BO, FI, RG, GU, (u2 PU 0 2 0), MA, MN, MS, OT, SC], [r0, r1, r2, r3, w, 192, r6, r7, r8], Lg)) o from ev_b 4 e (fun n => Eq.refl _)
  obtain ⟨x2, zh3, h⟩ := bnd h
  have zh3 : f_House_isFixed H p2 = some x2 := zh3
  have ze4 := R_f_House_isFixed_0 (d + 5) Y T H H2 RU RV ST NS I0 I1 I2 BO FI RG GU (u2 PU 0 2 0) MA MN MS OT SC r0 r1 r2 r3 w 192 r6 r7 r8 L Lg p2 zh3
  suffices e : Ev (d + 6, 0, 0, 225, 27, [.val (.ref 1024), .val (.ref 320), .val (.int p2), .val (.int p3), .val (.int x1), .val a_unk], [.int x2], (126, 120, L, [Y, T, H, H2, RU, RV, ST, NS, I0, I1, I2, BO, FI, RG, GU, (u2 PU 0 2 0), MA, MN, MS, OT, SC], [r0, r1, r2, r3, w, 192, r6, r7, r8], Lg)) o from ev_call (fun v μ => (d + 6, 0, 0, 225, 27, [.val (.ref 1024), .val (.ref 320), .val (.int p2), .val (.int p3), .val (.int x1), .val a_unk], v.toList ++ [], μ)) 2 ze4 e (fun n => Eq.refl _)
  by_cases zc5 : x2 ≠ 0
  · have h := itp h zc5
    suffices e : Ev (d + 6, 0, 0, 225, 41, [.val (.ref 1024), .val (.ref 320), .val (.int p2), .val (.int p3), .val (.int x1), .val a_unk], [], (126, 120, L, [Y, T, H, H2, RU, RV, ST, NS, I0, I1, I2, BO, FI, RG, GU, (u2 PU 0 2 0), MA, MN, MS, OT, SC], [r0, r1, r2, r3, w, 192, r6, r7, r8], Lg)) o from ev_t (c := x2 ≠ 0) _ _ 1  zc5 e (fun n => Eq.refl _)
    have ze6 := Option.some.inj h
    subst ze6
    exact ev_rete 2 ho (fun n => Eq.refl _)
  · have h := itn h zc5
    suffices e : Ev (d + 6, 0, 0, 225, 30, [.val (.ref 1024), .val (.ref 320), .val (.int p2), .val (.int p3), .val (.int x1), .val a_unk], [], (126, 120, L, [Y, T, H, H2, RU, RV, ST, NS, I0, I1, I2, BO, FI, RG, GU, (u2 PU 0 2 0), MA, MN, MS, OT, SC], [r0, r1, r2, r3, w, 192, r6, r7, r8], Lg)) o from ev_f (c := x2 ≠ 0) _ _ 1  zc5 e (fun n => Eq.refl _)
    obtain ⟨x3, zh7, h⟩ := bnd h
    have zh7 : f_Pusher_mayEnter H BO p2 p3 x1 = some x3 := zh7
    have ze8 := R_f_Pusher_mayEnter_0 (d + 3) Y T H H2 RU RV ST NS I0 I1 I2 BO FI RG GU (u2 PU 0 2 0) MA MN MS OT SC r0 r1 r2 r3 w r6 r7 r8 L Lg p2 p3 x1 zh7
    suffices e : Ev (d + 6, 0, 0, 225, 38, [.val (.ref 1024), .val (.ref 320), .val (.int p2), .val (.int p3), .val (.int x1), .val a_unk], [.int x3], (126, 120, L, [Y, T, H, H2, RU, RV, ST, NS, I0, I1, I2, BO, FI, RG, GU, (u2 PU 0 2 0), MA, MN, MS, OT, SC], [r0, r1, r2, r3, w, 192, r6, r7, r8], Lg)) o from ev_call (fun v μ => (d + 6, 0, 0, 225, 38, [.val (.ref 1024), .val (.ref 320), .val (.int p2), .val (.int p3), .val (.int x1), .val a_unk], v.toList ++ [], μ)) 5 ze8 e (fun n => Eq.refl _)
    by_cases zc9 : x3 ≠ 0
    · have h := itp h zc9
      suffices e : Ev (d + 6, 0, 0, 225, 43, [.val (.ref 1024), .val (.ref 320), .val (.int p2), .val (.int p3), .val (.int x1), .val a_unk], [], (126, 120, L, [Y, T, H, H2, RU, RV, ST, NS, I0, I1, I2, BO, FI, RG, GU, (u2 PU 0 2 0), MA, MN, MS, OT, SC], [r0, r1, r2, r3, w, 192, r6, r7, r8], Lg)) o from ev_t (c := x3 ≠ 0) _ _ 1  zc9 e (fun n => Eq.refl _)
      obtain ⟨j4, zh10, h⟩ := bnd h
      have zh10 : ixx 10 p2 = some j4 := zh10
      suffices e : Ev (d + 6, 0, 0, 225, 53, [.val (.ref 1024), .val (.ref 320), .val (.int p2), .val (.int p3), .val (.int x1), .val a_unk], [], (126, 120, L, [Y, T, H, H2, RU, RV, ST, NS, I0, I1, I2, (u2 BO 1 j4 p3), FI, RG, GU, (u2 PU 0 2 0), MA, MN, MS, OT, SC], [r0, r1, r2, r3, w, 192, r6, r7, r8], Lg)) o from ev_opt (fun j4 => (d + 6, 0, 0, 225, 53, [.val (.ref 1024), .val (.ref 320), .val (.int p2), .val (.int p3), .val (.int x1), .val a_unk], [], (126, 120, L, [Y, T, H, H2, RU, RV, ST, NS, I0, I1, I2, (u2 BO 1 j4 p3), FI, RG, GU, (u2 PU 0 2 0), MA, MN, MS, OT, SC], [r0, r1, r2, r3, w, 192, r6, r7, r8], Lg))) 6 zh10 e (fun n => Eq.refl _)
      obtain ⟨⟨BO_5, PU_6⟩, zh11, h⟩ := bnd h
      have zh11 : f_Pusher_leave H (u2 BO 1 j4 p3) (u2 PU 0 2 0) x1 = some (BO_5, PU_6) := zh11
      have ze12 := R_f_Pusher_leave_0 (d + 5) Y T H H2 RU RV ST NS I0 I1 I2 (u2 BO 1 j4 p3) FI RG GU (u2 PU 0 2 0) MA MN MS OT SC r0 r1 r2 r3 w r6 r7 r8 L Lg x1 zh11
      suffices e : Ev (d + 6, 0, 0, 225, 59, [.val (.ref 1024), .val (.ref 320), .val (.int p2), .val (.int p3), .val (.int x1), .val a_unk], [], (126, 120, L, [Y, T, H, H2, RU, RV, ST, NS, I0, I1, I2, BO_5, FI, RG, GU, PU_6, MA, MN, MS, OT, SC], [r0, r1, r2, r3, w, 192, r6, r7, r8], Lg)) o from ev_call (fun v μ => (d + 6, 0, 0, 225, 59, [.val (.ref 1024), .val (.ref 320), .val (.int p2), .val (.int p3), .val (.int x1), .val a_unk], v.toList ++ [], μ)) 3 ze12 e (fun n => Eq.refl _)
      obtain ⟨zb13, zh14, h⟩ := bnd h
      suffices e : Ev (d + 6, 0, 0, 225, 62, [.val (.ref 1024), .val (.ref 320), .val (.int p2), .val (.int p3), .val (.int x1), .val (.int 0)], [], (126, 120, L, [Y, T, H, H2, RU, RV, ST, NS, I0, I1, I2, BO_5, FI, RG, GU, PU_6, MA, MN, MS, OT, SC], [r0, r1, r2, r3, w, 192, r6, r7, r8], Lg)) o from ev_b 2 e (fun n => Eq.refl _)
      refine ev_loop (δ := Unit) (fun a j => (d + 6, 0, 0, 225, 62, [.val (.ref 1024), .val (.ref 320), .val (.int p2), .val (.int p3), .val (.int x1), .val (.int a.1)], [], (126, 120, L, [Y, T, H, H2, a.2.1, RV, ST, NS, I0, I1, I2, a.2.2.1, FI, RG, GU, a.2.2.2, MA, MN, MS, OT, SC], [r0, r1, r2, r3, w, 192, r6, r7, r8], Lg))) (fun b => Ev (d + 6, 0, 0, 225, 89, [.val (.ref 1024), .val (.ref 320), .val (.int p2), .val (.int p3), .val (.int x1), .val (.int b.1)], [], (126, 120, L, [Y, T, H, H2, b.2.1, RV, ST, NS, I0, I1, I2, b.2.2.1, FI, RG, GU, b.2.2.2, MA, MN, MS, OT, SC], [r0, r1, r2, r3, w, 192, r6, r7, r8], Lg)) o) ?_ a_F (0, RU, BO_5, PU_6) zb13 zh14 ?_ ()
      · rintro ⟨v7, RU_8, BO_9, PU_10⟩ zr18 zh17 zi15 zx16 ⟨⟩
        have zh17 : f_Pusher_run_l62 H v7 RU_8 BO_9 PU_10 = some zr18 := zh17
        by_cases zc19 : (PU_10 0 2) ≤ 0
        · have zh17 := itp zh17 zc19
          suffices e : Ev (d + 6, 0, 0, 225, 89, [.val (.ref 1024), .val (.ref 320), .val (.int p2), .val (.int p3), .val (.int x1), .val (.int v7)], [], (126, 120, L, [Y, T, H, H2, RU_8, RV, ST, NS, I0, I1, I2, BO_9, FI, RG, GU, PU_10, MA, MN, MS, OT, SC], [r0, r1, r2, r3, w, 192, r6, r7, r8], Lg)) o from ev_t (c := (PU_10 0 2) ≤ 0) _ _ 3  zc19 e (fun n => Eq.refl _)
          exact ev_b 0 (zx16 _ (Option.some.inj zh17).symm ) (fun n => Eq.refl _)
        · have zh17 := itn zh17 zc19
          suffices e : Ev (d + 6, 0, 0, 225, 69, [.val (.ref 1024), .val (.ref 320), .val (.int p2), .val (.int p3), .val (.int x1), .val (.int v7)], [], (126, 120, L, [Y, T, H, H2, RU_8, RV, ST, NS, I0, I1, I2, BO_9, FI, RG, GU, PU_10, MA, MN, MS, OT, SC], [r0, r1, r2, r3, w, 192, r6, r7, r8], Lg)) o from ev_f (c := (PU_10 0 2) ≤ 0) _ _ 3  zc19 e (fun n => Eq.refl _)
          by_cases zc20 : 100 ≤ v7
          · have zh17 := itp zh17 zc20
            suffices e : Ev (d + 6, 0, 0, 225, 89, [.val (.ref 1024), .val (.ref 320), .val (.int p2), .val (.int p3), .val (.int x1), .val (.int v7)], [], (126, 120, L, [Y, T, H, H2, RU_8, RV, ST, NS, I0, I1, I2, BO_9, FI, RG, GU, PU_10, MA, MN, MS, OT, SC], [r0, r1, r2, r3, w, 192, r6, r7, r8], Lg)) o from ev_t (c := 100 ≤ v7) _ _ 3  zc20 e (fun n => Eq.refl _)
            exact ev_b 0 (zx16 _ (Option.some.inj zh17).symm ) (fun n => Eq.refl _)
          · have zh17 := itn zh17 zc20
            suffices e : Ev (d + 6, 0, 0, 225, 76, [.val (.ref 1024), .val (.ref 320), .val (.int p2), .val (.int p3), .val (.int x1), .val (.int v7)], [], (126, 120, L, [Y, T, H, H2, RU_8, RV, ST, NS, I0, I1, I2, BO_9, FI, RG, GU, PU_10, MA, MN, MS, OT, SC], [r0, r1, r2, r3, w, 192, r6, r7, r8], Lg)) o from ev_f (c := 100 ≤ v7) _ _ 3  zc20 e (fun n => Eq.refl _)
            obtain ⟨⟨RU_11, BO_12, PU_13⟩, zh21, zh17⟩ := bnd zh17
            have zh21 : f_Pusher_look H RU_8 BO_9 PU_10 v7 = some (RU_11, BO_12, PU_13) := zh21
            have ze22 := R_f_Pusher_look_0 (d + 0) Y T H H2 RU_8 RV ST NS I0 I1 I2 BO_9 FI RG GU PU_10 MA MN MS OT SC r0 r1 r2 r3 w r6 r7 r8 L Lg v7 zh21
            suffices e : Ev (d + 6, 0, 0, 225, 83, [.val (.ref 1024), .val (.ref 320), .val (.int p2), .val (.int p3), .val (.int x1), .val (.int v7)], [], (126, 120, L, [Y, T, H, H2, RU_11, RV, ST, NS, I0, I1, I2, BO_12, FI, RG, GU, PU_13, MA, MN, MS, OT, SC], [r0, r1, r2, r3, w, 192, r6, r7, r8], Lg)) o from ev_call (fun v μ => (d + 6, 0, 0, 225, 83, [.val (.ref 1024), .val (.ref 320), .val (.int p2), .val (.int p3), .val (.int x1), .val (.int v7)], v.toList ++ [], μ)) 4 ze22 e (fun n => Eq.refl _)
            exact ev_b 2 (zi15 _ (Option.some.inj zh17).symm ()) (fun n => Eq.refl _)
      · obtain ⟨v14, RU_15, BO_16, PU_17⟩ := zb13
        have ze23 := Option.some.inj h
        subst ze23
        exact ev_rete 2 ho (fun n => Eq.refl _)
    · have h := itn h zc9
      suffices e : Ev (d + 6, 0, 0, 225, 41, [.val (.ref 1024), .val (.ref 320), .val (.int p2), .val (.int p3), .val (.int x1), .val a_unk], [], (126, 120, L, [Y, T, H, H2, RU, RV, ST, NS, I0, I1, I2, BO, FI, RG, GU, (u2 PU 0 2 0), MA, MN, MS, OT, SC], [r0, r1, r2, r3, w, 192, r6, r7, r8], Lg)) o from ev_f (c := x3 ≠ 0) _ _ 1  zc9 e (fun n => Eq.refl _)
      have ze24 := Option.some.inj h
      subst ze24
      exact ev_rete 2 ho (fun n => Eq.refl _)
set_option maxRecDepth 1000000 in
set_option maxHeartbeats 4000000 in
theorem R_f_Board_elsewhere_0 (d : Nat) (Y T H H2 RA RB ST NS I0 I1 I2 BO FI RG GU PU MA MN MS OT SC : Nat → Nat → Int32) (r0 r1 r2 r3 w r6 r7 r8 : Nat) (L : Nat) (Lg : Int64) {r : Int32} (h : f_Board_elsewhere H BO (NS 1) = some r) : Ev (d + 0, 0, 0, 157, 0, [.val (.ref 768), .val (.ref 513), .val a_unk, .val a_unk], [], (126, 120, L, [Y, T, H, H2, RA, RB, ST, NS, I0, I1, I2, BO, FI, RG, GU, PU, MA, MN, MS, OT, SC], [r0, r1, r2, r3, w, 192, r6, r7, r8], Lg)) ((0, some (.int r), (126, 120, L, [Y, T, H, H2, RA, RB, ST, NS, I0, I1, I2, BO, FI, RG, GU, PU, MA, MN, MS, OT, SC], [r0, r1, r2, r3, w, 192, r6, r7, r8], Lg)) : AOut) := by
  suffices key : ∀ o : AOut, ((0, some (.int r), (126, 120, L, [Y, T, H, H2, RA, RB, ST, NS, I0, I1, I2, BO, FI, RG, GU, PU, MA, MN, MS, OT, SC], [r0, r1, r2, r3, w, 192, r6, r7, r8], Lg)) : AOut) = o → Ev (d + 0, 0, 0, 157, 0, [.val (.ref 768), .val (.ref 513), .val a_unk, .val a_unk], [], (126, 120, L, [Y, T, H, H2, RA, RB, ST, NS, I0, I1, I2, BO, FI, RG, GU, PU, MA, MN, MS, OT, SC], [r0, r1, r2, r3, w, 192, r6, r7, r8], Lg)) o from key _ rfl
  intro o ho
  obtain ⟨v5, zh2, h⟩ := bnd h
  suffices e : Ev (d + 0, 0, 0, 157, 4, [.val (.ref 768), .val (.ref 513), .val (.int 0), .val (.int 0)], [], (126, 120, L, [Y, T, H, H2, RA, RB, ST, NS, I0, I1, I2, BO, FI, RG, GU, PU, MA, MN, MS, OT, SC], [r0, r1, r2, r3, w, 192, r6, r7, r8], Lg)) o from ev_b 4 e (fun n => Eq.refl _)
  refine ev_loop (δ := Unit) (fun a j => (d + 0, 0, 0, 157, 4, [.val (.ref 768), .val (.ref 513), .val (.int a.1), .val (.int a.2)], [], (126, 120, L, [Y, T, H, H2, RA, RB, ST, NS, I0, I1, I2, BO, FI, RG, GU, PU, MA, MN, MS, OT, SC], [r0, r1, r2, r3, w, 192, r6, r7, r8], Lg))) (fun b => ∀ s6 : Value, Ev (d + 0, 0, 0, 157, 39, [.val (.ref 768), .val (.ref 513), .val (.int b), .val s6], [], (126, 120, L, [Y, T, H, H2, RA, RB, ST, NS, I0, I1, I2, BO, FI, RG, GU, PU, MA, MN, MS, OT, SC], [r0, r1, r2, r3, w, 192, r6, r7, r8], Lg)) o) ?_ a_F (0, 0) v5 zh2 ?_ ()
  · rintro ⟨v1, v2⟩ zr6 zh5 zi3 zx4 ⟨⟩
    have zh5 : f_Board_elsewhere_l4 H BO (NS 1) v1 v2 = some zr6 := zh5
    suffices e : Ev (d + 0, 0, 0, 157, 9, [.val (.ref 768), .val (.ref 513), .val (.int v1), .val (.int v2)], [.ref 192, .int v2], (126, 120, L, [Y, T, H, H2, RA, RB, ST, NS, I0, I1, I2, BO, FI, RG, GU, PU, MA, MN, MS, OT, SC], [r0, r1, r2, r3, w, 192, r6, r7, r8], Lg)) o from ev_b 3 e (fun n => Eq.refl _)
    by_cases zc7 : (H 0 3) ≤ v2
    · have zh5 := itp zh5 zc7
      suffices e : Ev (d + 0, 0, 0, 157, 39, [.val (.ref 768), .val (.ref 513), .val (.int v1), .val (.int v2)], [], (126, 120, L, [Y, T, H, H2, RA, RB, ST, NS, I0, I1, I2, BO, FI, RG, GU, PU, MA, MN, MS, OT, SC], [r0, r1, r2, r3, w, 192, r6, r7, r8], Lg)) o from ev_t (c := (H 0 3) ≤ v2) _ _ 2  zc7 e (fun n => Eq.refl _)
      exact ev_b 0 (zx4 _ (Option.some.inj zh5).symm (.int v2)) (fun n => Eq.refl _)
    · have zh5 := itn zh5 zc7
      suffices e : Ev (d + 0, 0, 0, 157, 15, [.val (.ref 768), .val (.ref 513), .val (.int v1), .val (.int v2)], [], (126, 120, L, [Y, T, H, H2, RA, RB, ST, NS, I0, I1, I2, BO, FI, RG, GU, PU, MA, MN, MS, OT, SC], [r0, r1, r2, r3, w, 192, r6, r7, r8], Lg)) o from ev_f (c := (H 0 3) ≤ v2) _ _ 2  zc7 e (fun n => Eq.refl _)
      obtain ⟨x3, zh8, zh5⟩ := bnd zh5
      have zh8 : rdx (BO 1) 10 v2 = some x3 := zh8
      suffices e : Ev (d + 0, 0, 0, 157, 21, [.val (.ref 768), .val (.ref 513), .val (.int v1), .val (.int v2)], [.int x3], (126, 120, L, [Y, T, H, H2, RA, RB, ST, NS, I0, I1, I2, BO, FI, RG, GU, PU, MA, MN, MS, OT, SC], [r0, r1, r2, r3, w, 192, r6, r7, r8], Lg)) o from ev_opt (fun x3 => (d + 0, 0, 0, 157, 21, [.val (.ref 768), .val (.ref 513), .val (.int v1), .val (.int v2)], [.int x3], (126, 120, L, [Y, T, H, H2, RA, RB, ST, NS, I0, I1, I2, BO, FI, RG, GU, PU, MA, MN, MS, OT, SC], [r0, r1, r2, r3, w, 192, r6, r7, r8], Lg))) 4 zh8 e (fun n => Eq.refl _)
      obtain ⟨x4, zh9, zh5⟩ := bnd zh5
      have zh9 : rdx (NS 1) 10 v2 = some x4 := zh9
      suffices e : Ev (d + 0, 0, 0, 157, 24, [.val (.ref 768), .val (.ref 513), .val (.int v1), .val (.int v2)], [.int x4, .int x3], (126, 120, L, [Y, T, H, H2, RA, RB, ST, NS, I0, I1, I2, BO, FI, RG, GU, PU, MA, MN, MS, OT, SC], [r0, r1, r2, r3, w, 192, r6, r7, r8], Lg)) o from ev_opt (fun x4 => (d + 0, 0, 0, 157, 24, [.val (.ref 768), .val (.ref 513), .val (.int v1), .val (.int v2)], [.int x4, .int x3], (126, 120, L, [Y, T, H, H2, RA, RB, ST, NS, I0, I1, I2, BO, FI, RG, GU, PU, MA, MN, MS, OT, SC], [r0, r1, r2, r3, w, 192, r6, r7, r8], Lg))) 3 zh9 e (fun n => Eq.refl _)
      by_cases zc10 : x3 = x4
      · have zh5 := itp zh5 zc10
        suffices e : Ev (d + 0, 0, 0, 157, 33, [.val (.ref 768), .val (.ref 513), .val (.int v1), .val (.int v2)], [], (126, 120, L, [Y, T, H, H2, RA, RB, ST, NS, I0, I1, I2, BO, FI, RG, GU, PU, MA, MN, MS, OT, SC], [r0, r1, r2, r3, w, 192, r6, r7, r8], Lg)) o from ev_t (c := x3 = x4) _ _ 1  zc10 e (fun n => Eq.refl _)
        exact ev_b 2 (zi3 _ (Option.some.inj zh5).symm ()) (fun n => Eq.refl _)
      · have zh5 := itn zh5 zc10
        suffices e : Ev (d + 0, 0, 0, 157, 27, [.val (.ref 768), .val (.ref 513), .val (.int v1), .val (.int v2)], [], (126, 120, L, [Y, T, H, H2, RA, RB, ST, NS, I0, I1, I2, BO, FI, RG, GU, PU, MA, MN, MS, OT, SC], [r0, r1, r2, r3, w, 192, r6, r7, r8], Lg)) o from ev_f (c := x3 = x4) _ _ 1  zc10 e (fun n => Eq.refl _)
        exact ev_b 8 (zi3 _ (Option.some.inj zh5).symm ()) (fun n => Eq.refl _)
  · skip
    intro s6
    have ze11 := Option.some.inj h
    subst ze11
    exact ev_rete 2 ho (fun n => Eq.refl _)
set_option maxRecDepth 1000000 in
set_option maxHeartbeats 4000000 in
theorem R_f_Y_pushes_0 (d : Nat) (Y T H H2 RU RV ST NS I0 I1 I2 BO FI RG GU PU MA MN MS OT SC : Nat → Nat → Int32) (w r5 : Nat) (L : Nat) (Lg : Int64) (p1 : Int32) (p2 : Int32) (p3 : Int32) (p4 : Int32) {r : Nat × Int32 × (Nat → Nat → Int32) × (Nat → Nat → Int32) × (Nat → Nat → Int32) × (Nat → Nat → Int32) × Nat} (h : f_Y_pushes Y H RU NS BO PU 192 r5 p1 p2 p3 p4 = some r) : Ev (d + 7, 4, 32, 323, 0, [.val (.ref 64), .val (.int p1), .val (.int p2), .val (.int p3), .val (.int p4), .val a_unk, .val a_unk], [], (126, 120, L, [Y, T, H, H2, RU, RV, ST, NS, I0, I1, I2, BO, FI, RG, GU, PU, MA, MN, MS, OT, SC], [192, 256, 320, 384, w, r5, 576, 640, 704], Lg)) ((r.1, a_ov r.1 (.int r.2.1), (126, 120, L, [r.2.2.1, T, H, H2, r.2.2.2.1, RV, ST, NS, I0, I1, I2, r.2.2.2.2.1, FI, RG, GU, r.2.2.2.2.2.1, MA, MN, MS, OT, SC], [192, 256, 320, 384, w, r.2.2.2.2.2.2, 576, 640, 704], Lg)) : AOut) := by
  suffices key : ∀ o : AOut, ((r.1, a_ov r.1 (.int r.2.1), (126, 120, L, [r.2.2.1, T, H, H2, r.2.2.2.1, RV, ST, NS, I0, I1, I2, r.2.2.2.2.1, FI, RG, GU, r.2.2.2.2.2.1, MA, MN, MS, OT, SC], [192, 256, 320, 384, w, r.2.2.2.2.2.2, 576, 640, 704], Lg)) : AOut) = o → Ev (d + 7, 4, 32, 323, 0, [.val (.ref 64), .val (.int p1), .val (.int p2), .val (.int p3), .val (.int p4), .val a_unk, .val a_unk], [], (126, 120, L, [Y, T, H, H2, RU, RV, ST, NS, I0, I1, I2, BO, FI, RG, GU, PU, MA, MN, MS, OT, SC], [192, 256, 320, 384, w, r5, 576, 640, 704], Lg)) o from key _ rfl
  intro o ho
  obtain ⟨⟨q1, Y_2⟩, zh1, h⟩ := bnd h
  have zh1 : f_Y_needPlace Y H p1 p2 p3 = some (q1, Y_2) := zh1
  have ze2 := R_f_Y_needPlace_0 (d + 4) Y T H H2 RU RV ST NS I0 I1 I2 BO FI RG GU PU MA MN MS OT SC w r5 L Lg p1 p2 p3 zh1
  cases q1 with
  | zero =>
    have h := itp h rfl
    suffices e : Ev (d + 7, 1, 8, 323, 7, [.val (.ref 64), .val (.int p1), .val (.int p2), .val (.int p3), .val (.int p4), .val a_unk, .val a_unk], [], (126, 120, L, [Y_2, T, H, H2, RU, RV, ST, NS, I0, I1, I2, BO, FI, RG, GU, PU, MA, MN, MS, OT, SC], [192, 256, 320, 384, w, r5, 576, 640, 704], Lg)) o from ev_call (fun v μ => (d + 7, 1, 8, 323, 7, [.val (.ref 64), .val (.int p1), .val (.int p2), .val (.int p3), .val (.int p4), .val a_unk, .val a_unk], v.toList ++ [], μ)) 5 ze2 e (fun n => Eq.refl _)
    obtain ⟨zt3, zh4, h⟩ := bnd h
    have zj5 : ∀ (v3 : Int32), v3 = zt3 → Ev (d + 7, 1, 8, 323, 24, [.val (.ref 64), .val (.int p1), .val (.int p2), .val (.int p3), .val (.int p4), .val a_unk, .val a_unk], [.int v3, .ref 64], (126, 120, L, [Y_2, T, H, H2, RU, RV, ST, NS, I0, I1, I2, BO, FI, RG, GU, PU, MA, MN, MS, OT, SC], [192, 256, 320, 384, w, r5, 576, 640, 704], Lg)) o := by
      intro v3 ze6
      subst ze6
      obtain ⟨⟨q4, Y_5⟩, zh7, h⟩ := bnd h
      have zh7 : f_Y_refuseUnless Y_2 v3 = some (q4, Y_5) := zh7
      have ze8 := R_f_Y_refuseUnless_0 (d + 6) Y_2 T H H2 RU RV ST NS I0 I1 I2 BO FI RG GU PU MA MN MS OT SC w r5 L Lg v3 zh7
      cases q4 with
      | zero =>
        have h := itp h rfl
        suffices e : Ev (d + 7, 0, 0, 323, 27, [.val (.ref 64), .val (.int p1), .val (.int p2), .val (.int p3), .val (.int p4), .val a_unk, .val a_unk], [], (126, 120, L, [Y_5, T, H, H2, RU, RV, ST, NS, I0, I1, I2, BO, FI, RG, GU, PU, MA, MN, MS, OT, SC], [192, 256, 320, 384, w, r5, 576, 640, 704], Lg)) o from ev_call (fun v μ => (d + 7, 0, 0, 323, 27, [.val (.ref 64), .val (.int p1), .val (.int p2), .val (.int p3), .val (.int p4), .val a_unk, .val a_unk], v.toList ++ [], μ)) 1 ze8 e (fun n => Eq.refl _)
        obtain ⟨BO_7, zh9, h⟩ := bnd h
        have zh9 : f_Y_lookNow H NS BO = some BO_7 := zh9
        have ze10 := R_f_Y_lookNow_0 (d + 4) Y_5 T H H2 RU RV ST NS I0 I1 I2 BO FI RG GU PU MA MN MS OT SC w r5 L Lg zh9
        suffices e : Ev (d + 7, 0, 0, 323, 31, [.val (.ref 64), .val (.int p1), .val (.int p2), .val (.int p3), .val (.int p4), .val a_unk, .val a_unk], [.ref 768], (126, 120, L, [Y_5, T, H, H2, RU, RV, ST, NS, I0, I1, I2, BO_7, FI, RG, GU, PU, MA, MN, MS, OT, SC], [192, 256, 320, 384, w, 192, 576, 640, 704], Lg)) o from ev_call (fun v μ => (d + 7, 0, 0, 323, 31, [.val (.ref 64), .val (.int p1), .val (.int p2), .val (.int p3), .val (.int p4), .val a_unk, .val a_unk], v.toList ++ [], μ)) 2 ze10 e (fun n => Eq.refl _)
        suffices e : Ev (d + 7, 0, 0, 323, 41, [.val (.ref 64), .val (.int p1), .val (.int p2), .val (.int p3), .val (.int p4), .val (.ref 768), .val a_unk], [.ref 320, .ref 1024], (126, 120, L, [Y_5, T, H, H2, RU, RV, ST, NS, I0, I1, I2, BO_7, FI, RG, GU, PU, MA, MN, MS, OT, SC], [192, 256, 320, 384, w, 192, 576, 640, 704], Lg)) o from ev_b 5 e (fun n => Eq.refl _)
        obtain ⟨x8, zh11, h⟩ := bnd h
        have zh11 : f_Y_placeOf p2 p3 = some x8 := zh11
        have ze12 := R_f_Y_placeOf_0 (d + 6) Y_5 T H H2 RU RV ST NS I0 I1 I2 BO_7 FI RG GU PU MA MN MS OT SC 192 256 320 384 w 192 576 640 704 L Lg p2 p3 zh11
        suffices e : Ev (d + 7, 0, 0, 323, 47, [.val (.ref 64), .val (.int p1), .val (.int p2), .val (.int p3), .val (.int p4), .val (.ref 768), .val a_unk], [.int x8, .int p1, .ref 320, .ref 1024], (126, 120, L, [Y_5, T, H, H2, RU, RV, ST, NS, I0, I1, I2, BO_7, FI, RG, GU, PU, MA, MN, MS, OT, SC], [192, 256, 320, 384, w, 192, 576, 640, 704], Lg)) o from ev_call (fun v μ => (d + 7, 0, 0, 323, 47, [.val (.ref 64), .val (.int p1), .val (.int p2), .val (.int p3), .val (.int p4), .val (.ref 768), .val a_unk], v.toList ++ [.int p1, .ref 320, .ref 1024], μ)) 4 ze12 e (fun n => Eq.refl _)
        obtain ⟨⟨x9, RU_10, BO_11, PU_12⟩, zh13, h⟩ := bnd h
        have zh13 : f_Pusher_run H RU BO_7 PU p1 x8 = some (x9, RU_10, BO_11, PU_12) := zh13
        have ze14 := R_f_Pusher_run_0 (d + 0) Y_5 T H H2 RU RV ST NS I0 I1 I2 BO_7 FI RG GU PU MA MN MS OT SC 192 256 320 384 w 576 640 704 L Lg p1 x8 zh13
        suffices e : Ev (d + 7, 0, 0, 323, 50, [.val (.ref 64), .val (.int p1), .val (.int p2), .val (.int p3), .val (.int p4), .val (.ref 768), .val a_unk], [.int x9], (126, 120, L, [Y_5, T, H, H2, RU_10, RV, ST, NS, I0, I1, I2, BO_11, FI, RG, GU, PU_12, MA, MN, MS, OT, SC], [192, 256, 320, 384, w, 192, 576, 640, 704], Lg)) o from ev_call (fun v μ => (d + 7, 0, 0, 323, 50, [.val (.ref 64), .val (.int p1), .val (.int p2), .val (.int p3), .val (.int p4), .val (.ref 768), .val a_unk], v.toList ++ [], μ)) 1 ze14 e (fun n => Eq.refl _)
        by_cases zc15 : x9 = (-1)
        · have h := itp h zc15
          suffices e : Ev (d + 7, 0, 0, 323, 63, [.val (.ref 64), .val (.int p1), .val (.int p2), .val (.int p3), .val (.int p4), .val (.ref 768), .val (.int x9)], [], (126, 120, L, [Y_5, T, H, H2, RU_10, RV, ST, NS, I0, I1, I2, BO_11, FI, RG, GU, PU_12, MA, MN, MS, OT, SC], [192, 256, 320, 384, w, 192, 576, 640, 704], Lg)) o from ev_t (c := x9 = (-1)) _ _ 4  zc15 e (fun n => Eq.refl _)
          have ze16 := Option.some.inj h
          subst ze16
          exact ev_rete 2 ho (fun n => Eq.refl _)
        · have h := itn h zc15
          suffices e : Ev (d + 7, 0, 0, 323, 58, [.val (.ref 64), .val (.int p1), .val (.int p2), .val (.int p3), .val (.int p4), .val (.ref 768), .val (.int x9)], [], (126, 120, L, [Y_5, T, H, H2, RU_10, RV, ST, NS, I0, I1, I2, BO_11, FI, RG, GU, PU_12, MA, MN, MS, OT, SC], [192, 256, 320, 384, w, 192, 576, 640, 704], Lg)) o from ev_f (c := x9 = (-1)) _ _ 4  zc15 e (fun n => Eq.refl _)
          by_cases zc17 : p4 ≠ 0
          · have h := itp h zc17
            suffices e : Ev (d + 7, 0, 0, 323, 66, [.val (.ref 64), .val (.int p1), .val (.int p2), .val (.int p3), .val (.int p4), .val (.ref 768), .val (.int x9)], [], (126, 120, L, [Y_5, T, H, H2, RU_10, RV, ST, NS, I0, I1, I2, BO_11, FI, RG, GU, PU_12, MA, MN, MS, OT, SC], [192, 256, 320, 384, w, 192, 576, 640, 704], Lg)) o from ev_t (c := p4 ≠ 0) _ _ 2  zc17 e (fun n => Eq.refl _)
            by_cases zc18 : p4 ≠ 1
            · have h := itp h zc18
              suffices e : Ev (d + 7, 0, 0, 323, 88, [.val (.ref 64), .val (.int p1), .val (.int p2), .val (.int p3), .val (.int p4), .val (.ref 768), .val (.int x9)], [], (126, 120, L, [Y_5, T, H, H2, RU_10, RV, ST, NS, I0, I1, I2, BO_11, FI, RG, GU, PU_12, MA, MN, MS, OT, SC], [192, 256, 320, 384, w, 192, 576, 640, 704], Lg)) o from ev_t (c := p4 ≠ 1) _ _ 3  zc18 e (fun n => Eq.refl _)
              obtain ⟨x13, zh19, h⟩ := bnd h
              have zh19 : f_Board_elsewhere H BO_11 (NS 1) = some x13 := zh19
              have ze20 := R_f_Board_elsewhere_0 (d + 6) Y_5 T H H2 RU_10 RV ST NS I0 I1 I2 BO_11 FI RG GU PU_12 MA MN MS OT SC 192 256 320 384 w 576 640 704 L Lg zh19
              suffices e : Ev (d + 7, 0, 0, 323, 100, [.val (.ref 64), .val (.int p1), .val (.int p2), .val (.int p3), .val (.int p4), .val (.ref 768), .val (.int x9)], [.int x13], (126, 120, L, [Y_5, T, H, H2, RU_10, RV, ST, NS, I0, I1, I2, BO_11, FI, RG, GU, PU_12, MA, MN, MS, OT, SC], [192, 256, 320, 384, w, 192, 576, 640, 704], Lg)) o from ev_call (fun v μ => (d + 7, 0, 0, 323, 100, [.val (.ref 64), .val (.int p1), .val (.int p2), .val (.int p3), .val (.int p4), .val (.ref 768), .val (.int x9)], v.toList ++ [], μ)) 5 ze20 e (fun n => Eq.refl _)
              obtain ⟨x14, zh21, h⟩ := bnd h
              have zh21 : f_Board_placed H BO_11 = some x14 := zh21
              have ze22 := R_f_Board_placed_0 (d + 6) Y_5 T H H2 RU_10 RV ST NS I0 I1 I2 BO_11 FI RG GU PU_12 MA MN MS OT SC 192 256 320 384 w 576 640 704 L Lg zh21
              suffices e : Ev (d + 7, 0, 0, 323, 105, [.val (.ref 64), .val (.int p1), .val (.int p2), .val (.int p3), .val (.int p4), .val (.ref 768), .val (.int x9)], [.int x14, .int x13], (126, 120, L, [Y_5, T, H, H2, RU_10, RV, ST, NS, I0, I1, I2, BO_11, FI, RG, GU, PU_12, MA, MN, MS, OT, SC], [192, 256, 320, 384, w, 192, 576, 640, 704], Lg)) o from ev_call (fun v μ => (d + 7, 0, 0, 323, 105, [.val (.ref 64), .val (.int p1), .val (.int p2), .val (.int p3), .val (.int p4), .val (.ref 768), .val (.int x9)], v.toList ++ [.int x13], μ)) 2 ze22 e (fun n => Eq.refl _)
              have ze23 := Option.some.inj h
              subst ze23
              exact ev_rete 4 ho (fun n => Eq.refl _)
            · have h := itn h zc18
              suffices e : Ev (d + 7, 0, 0, 323, 72, [.val (.ref 64), .val (.int p1), .val (.int p2), .val (.int p3), .val (.int p4), .val (.ref 768), .val (.int x9)], [], (126, 120, L, [Y_5, T, H, H2, RU_10, RV, ST, NS, I0, I1, I2, BO_11, FI, RG, GU, PU_12, MA, MN, MS, OT, SC], [192, 256, 320, 384, w, 192, 576, 640, 704], Lg)) o from ev_f (c := p4 ≠ 1) _ _ 3  zc18 e (fun n => Eq.refl _)
              obtain ⟨x15, zh24, h⟩ := bnd h
              have zh24 : f_Board_elsewhere H BO_11 (NS 1) = some x15 := zh24
              have ze25 := R_f_Board_elsewhere_0 (d + 6) Y_5 T H H2 RU_10 RV ST NS I0 I1 I2 BO_11 FI RG GU PU_12 MA MN MS OT SC 192 256 320 384 w 576 640 704 L Lg zh24
              suffices e : Ev (d + 7, 0, 0, 323, 84, [.val (.ref 64), .val (.int p1), .val (.int p2), .val (.int p3), .val (.int p4), .val (.ref 768), .val (.int x9)], [.int x15], (126, 120, L, [Y_5, T, H, H2, RU_10, RV, ST, NS, I0, I1, I2, BO_11, FI, RG, GU, PU_12, MA, MN, MS, OT, SC], [192, 256, 320, 384, w, 192, 576, 640, 704], Lg)) o from ev_call (fun v μ => (d + 7, 0, 0, 323, 84, [.val (.ref 64), .val (.int p1), .val (.int p2), .val (.int p3), .val (.int p4), .val (.ref 768), .val (.int x9)], v.toList ++ [], μ)) 5 ze25 e (fun n => Eq.refl _)
              obtain ⟨x16, zh26, h⟩ := bnd h
              have zh26 : f_Integer_bitCount x15 = some x16 := zh26
              have ze27 := R_f_Integer_bitCount_0 (d + 6) Y_5 T H H2 RU_10 RV ST NS I0 I1 I2 BO_11 FI RG GU PU_12 MA MN MS OT SC 192 256 320 384 w 192 576 640 704 L Lg x15 zh26
              suffices e : Ev (d + 7, 0, 0, 323, 87, [.val (.ref 64), .val (.int p1), .val (.int p2), .val (.int p3), .val (.int p4), .val (.ref 768), .val (.int x9)], [.int x16], (126, 120, L, [Y_5, T, H, H2, RU_10, RV, ST, NS, I0, I1, I2, BO_11, FI, RG, GU, PU_12, MA, MN, MS, OT, SC], [192, 256, 320, 384, w, 192, 576, 640, 704], Lg)) o from ev_call (fun v μ => (d + 7, 0, 0, 323, 87, [.val (.ref 64), .val (.int p1), .val (.int p2), .val (.int p3), .val (.int p4), .val (.ref 768), .val (.int x9)], v.toList ++ [], μ)) 1 ze27 e (fun n => Eq.refl _)
              have ze28 := Option.some.inj h
              subst ze28
              exact ev_rete 1 ho (fun n => Eq.refl _)
          · have h := itn h zc17
            suffices e : Ev (d + 7, 0, 0, 323, 63, [.val (.ref 64), .val (.int p1), .val (.int p2), .val (.int p3), .val (.int p4), .val (.ref 768), .val (.int x9)], [], (126, 120, L, [Y_5, T, H, H2, RU_10, RV, ST, NS, I0, I1, I2, BO_11, FI, RG, GU, PU_12, MA, MN, MS, OT, SC], [192, 256, 320, 384, w, 192, 576, 640, 704], Lg)) o from ev_f (c := p4 ≠ 0) _ _ 2  zc17 e (fun n => Eq.refl _)
            have ze29 := Option.some.inj h
            subst ze29
            exact ev_rete 2 ho (fun n => Eq.refl _)
      | succ q4 =>
        have h := itn h (Nat.succ_ne_zero q4)
        have ze30 := Option.some.inj h
        subst ze30
        subst ho
        exact ev_thr (fun v μ => (d + 7, 0, 0, 323, 27, [.val (.ref 64), .val (.int p1), .val (.int p2), .val (.int p3), .val (.int p4), .val a_unk, .val a_unk], v.toList ++ [], μ)) 1 ze8 (fun n => Eq.refl _) (fun n => rfl)
    obtain ⟨zt31, zh32, zh4⟩ := bnd zh4
    have zj33 : zt31 = .inl () → Ev (d + 7, 1, 8, 323, 23, [.val (.ref 64), .val (.int p1), .val (.int p2), .val (.int p3), .val (.int p4), .val a_unk, .val a_unk], [.ref 64], (126, 120, L, [Y_2, T, H, H2, RU, RV, ST, NS, I0, I1, I2, BO, FI, RG, GU, PU, MA, MN, MS, OT, SC], [192, 256, 320, 384, w, r5, 576, 640, 704], Lg)) o := by
      intro ze34
      have zh4 := sum_l zh4 ze34
      exact ev_b 1 (zj5 0 (Option.some.inj zh4) ) (fun n => Eq.refl _)
    by_cases zc35 : p4 < 0
    · have zh32 := itp zh32 zc35
      suffices e : Ev (d + 7, 1, 8, 323, 23, [.val (.ref 64), .val (.int p1), .val (.int p2), .val (.int p3), .val (.int p4), .val a_unk, .val a_unk], [.ref 64], (126, 120, L, [Y_2, T, H, H2, RU, RV, ST, NS, I0, I1, I2, BO, FI, RG, GU, PU, MA, MN, MS, OT, SC], [192, 256, 320, 384, w, r5, 576, 640, 704], Lg)) o from ev_t (c := p4 < 0) _ _ 3  zc35 e (fun n => Eq.refl _)
      exact ev_b 0 (zj33  (Option.some.inj zh32).symm ) (fun n => Eq.refl _)
    · have zh32 := itn zh32 zc35
      suffices e : Ev (d + 7, 1, 8, 323, 13, [.val (.ref 64), .val (.int p1), .val (.int p2), .val (.int p3), .val (.int p4), .val a_unk, .val a_unk], [.ref 64], (126, 120, L, [Y_2, T, H, H2, RU, RV, ST, NS, I0, I1, I2, BO, FI, RG, GU, PU, MA, MN, MS, OT, SC], [192, 256, 320, 384, w, r5, 576, 640, 704], Lg)) o from ev_f (c := p4 < 0) _ _ 3  zc35 e (fun n => Eq.refl _)
      by_cases zc36 : 2 < p4
      · have zh32 := itp zh32 zc36
        suffices e : Ev (d + 7, 1, 8, 323, 23, [.val (.ref 64), .val (.int p1), .val (.int p2), .val (.int p3), .val (.int p4), .val a_unk, .val a_unk], [.ref 64], (126, 120, L, [Y_2, T, H, H2, RU, RV, ST, NS, I0, I1, I2, BO, FI, RG, GU, PU, MA, MN, MS, OT, SC], [192, 256, 320, 384, w, r5, 576, 640, 704], Lg)) o from ev_t (c := 2 < p4) _ _ 3  zc36 e (fun n => Eq.refl _)
        exact ev_b 0 (zj33  (Option.some.inj zh32).symm ) (fun n => Eq.refl _)
      · have zh32 := itn zh32 zc36
        suffices e : Ev (d + 7, 1, 8, 323, 19, [.val (.ref 64), .val (.int p1), .val (.int p2), .val (.int p3), .val (.int p4), .val a_unk, .val a_unk], [.ref 64], (126, 120, L, [Y_2, T, H, H2, RU, RV, ST, NS, I0, I1, I2, BO, FI, RG, GU, PU, MA, MN, MS, OT, SC], [192, 256, 320, 384, w, r5, 576, 640, 704], Lg)) o from ev_f (c := 2 < p4) _ _ 3  zc36 e (fun n => Eq.refl _)
        have zh37 := sum_r zh4 (Option.some.inj zh32).symm
        exact ev_b 2 (zj5 1 (Option.some.inj zh37) ) (fun n => Eq.refl _)
  | succ q1 =>
    have h := itn h (Nat.succ_ne_zero q1)
    have ze38 := Option.some.inj h
    subst ze38
    subst ho
    exact ev_thr (fun v μ => (d + 7, 1, 8, 323, 7, [.val (.ref 64), .val (.int p1), .val (.int p2), .val (.int p3), .val (.int p4), .val a_unk, .val a_unk], v.toList ++ [], μ)) 5 ze2 (fun n => Eq.refl _) (fun n => rfl)
set_option maxRecDepth 1000000 in
set_option maxHeartbeats 4000000 in
theorem R_f_Pusher_allYield_1 (d : Nat) (Y T H H2 RV RU ST NS I0 I1 I2 BO FI RG GU PU MA MN MS OT SC : Nat → Nat → Int32) (r0 r1 r2 r3 w r6 r7 r8 : Nat) (L : Nat) (Lg : Int64) (p2 : Int32) (p3 : Int32) (p4 : Int32) (p5 : Int32) {r : Int32 × (Nat → Nat → Int32)} (h : f_Pusher_allYield H RU BO p2 p3 p4 p5 = some r) : Ev (d + 3, 0, 0, 231, 0, [.val (.ref 1024), .val (.ref 384), .val (.int p2), .val (.int p3), .val (.int p4), .val (.int p5), .val a_unk], [], (126, 120, L, [Y, T, H, H2, RV, RU, ST, NS, I0, I1, I2, BO, FI, RG, GU, PU, MA, MN, MS, OT, SC], [r0, r1, r2, r3, w, 192, r6, r7, r8], Lg)) ((0, some (.int r.1), (126, 120, L, [Y, T, H, H2, RV, r.2, ST, NS, I0, I1, I2, BO, FI, RG, GU, PU, MA, MN, MS, OT, SC], [r0, r1, r2, r3, w, 192, r6, r7, r8], Lg)) : AOut) := by
  suffices key : ∀ o : AOut, ((0, some (.int r.1), (126, 120, L, [Y, T, H, H2, RV, r.2, ST, NS, I0, I1, I2, BO, FI, RG, GU, PU, MA, MN, MS, OT, SC], [r0, r1, r2, r3, w, 192, r6, r7, r8], Lg)) : AOut) = o → Ev (d + 3, 0, 0, 231, 0, [.val (.ref 1024), .val (.ref 384), .val (.int p2), .val (.int p3), .val (.int p4), .val (.int p5), .val a_unk], [], (126, 120, L, [Y, T, H, H2, RV, RU, ST, NS, I0, I1, I2, BO, FI, RG, GU, PU, MA, MN, MS, OT, SC], [r0, r1, r2, r3, w, 192, r6, r7, r8], Lg)) o from key _ rfl
  intro o ho
  obtain ⟨RU_1, zh1, h⟩ := bnd h
  have zh1 : f_Rule_setWanted RU p3 p5 = some RU_1 := zh1
  have ze2 := R_f_Rule_setWanted_1 (d + 1) Y T H H2 RV RU ST NS I0 I1 I2 BO FI RG GU PU MA MN MS OT SC r0 r1 r2 r3 w 192 r6 r7 r8 L Lg p3 p5 zh1
  suffices e : Ev (d + 3, 0, 0, 231, 7, [.val (.ref 1024), .val (.ref 384), .val (.int p2), .val (.int p3), .val (.int p4), .val (.int p5), .val a_unk], [], (126, 120, L, [Y, T, H, H2, RV, RU_1, ST, NS, I0, I1, I2, BO, FI, RG, GU, PU, MA, MN, MS, OT, SC], [r0, r1, r2, r3, w, 192, r6, r7, r8], Lg)) o from ev_call (fun v μ => (d + 3, 0, 0, 231, 7, [.val (.ref 1024), .val (.ref 384), .val (.int p2), .val (.int p3), .val (.int p4), .val (.int p5), .val a_unk], v.toList ++ [], μ)) 4 ze2 e (fun n => Eq.refl _)
  obtain ⟨zb3, zh4, h⟩ := bnd h
  suffices e : Ev (d + 3, 0, 0, 231, 10, [.val (.ref 1024), .val (.ref 384), .val (.int p2), .val (.int p3), .val (.int p4), .val (.int p5), .val (.int 0)], [], (126, 120, L, [Y, T, H, H2, RV, RU_1, ST, NS, I0, I1, I2, BO, FI, RG, GU, PU, MA, MN, MS, OT, SC], [r0, r1, r2, r3, w, 192, r6, r7, r8], Lg)) o from ev_b 2 e (fun n => Eq.refl _)
  refine ev_loop (δ := Unit) (fun a j => (d + 3, 0, 0, 231, 10, [.val (.ref 1024), .val (.ref 384), .val (.int p2), .val (.int p3), .val (.int p4), .val (.int p5), .val (.int a.1)], [], (126, 120, L, [Y, T, H, H2, RV, a.2, ST, NS, I0, I1, I2, BO, FI, RG, GU, PU, MA, MN, MS, OT, SC], [r0, r1, r2, r3, w, 192, r6, r7, r8], Lg))) (fun b => sumE b (fun b => ∀ s6 : Value, Ev (d + 3, 0, 0, 231, 57, [.val (.ref 1024), .val (.ref 384), .val (.int p2), .val (.int p3), .val (.int p4), .val (.int p5), .val s6], [], (126, 120, L, [Y, T, H, H2, RV, b, ST, NS, I0, I1, I2, BO, FI, RG, GU, PU, MA, MN, MS, OT, SC], [r0, r1, r2, r3, w, 192, r6, r7, r8], Lg)) o) (fun b => ((0, some (.int b.1), (126, 120, L, [Y, T, H, H2, RV, b.2, ST, NS, I0, I1, I2, BO, FI, RG, GU, PU, MA, MN, MS, OT, SC], [r0, r1, r2, r3, w, 192, r6, r7, r8], Lg)) : AOut) = o)) ?_ a_F (0, RU_1) zb3 zh4 ?_ ()
  · rintro ⟨v2, RU_3⟩ zr8 zh7 zi5 zx6 ⟨⟩
    have zh7 : f_Pusher_allYield_l10 H BO p4 p2 v2 RU_3 = some zr8 := zh7
    suffices e : Ev (d + 3, 0, 0, 231, 19, [.val (.ref 1024), .val (.ref 384), .val (.int p2), .val (.int p3), .val (.int p4), .val (.int p5), .val (.int v2)], [.ref 192, .int v2], (126, 120, L, [Y, T, H, H2, RV, RU_3, ST, NS, I0, I1, I2, BO, FI, RG, GU, PU, MA, MN, MS, OT, SC], [r0, r1, r2, r3, w, 192, r6, r7, r8], Lg)) o from ev_b 4 e (fun n => Eq.refl _)
    by_cases zc9 : (H 0 3) ≤ v2
    · have zh7 := itp zh7 zc9
      suffices e : Ev (d + 3, 0, 0, 231, 57, [.val (.ref 1024), .val (.ref 384), .val (.int p2), .val (.int p3), .val (.int p4), .val (.int p5), .val (.int v2)], [], (126, 120, L, [Y, T, H, H2, RV, RU_3, ST, NS, I0, I1, I2, BO, FI, RG, GU, PU, MA, MN, MS, OT, SC], [r0, r1, r2, r3, w, 192, r6, r7, r8], Lg)) o from ev_t (c := (H 0 3) ≤ v2) _ _ 2  zc9 e (fun n => Eq.refl _)
      exact ev_b 0 (zx6 _ (Option.some.inj zh7).symm (.int v2)) (fun n => Eq.refl _)
    · have zh7 := itn zh7 zc9
      suffices e : Ev (d + 3, 0, 0, 231, 25, [.val (.ref 1024), .val (.ref 384), .val (.int p2), .val (.int p3), .val (.int p4), .val (.int p5), .val (.int v2)], [], (126, 120, L, [Y, T, H, H2, RV, RU_3, ST, NS, I0, I1, I2, BO, FI, RG, GU, PU, MA, MN, MS, OT, SC], [r0, r1, r2, r3, w, 192, r6, r7, r8], Lg)) o from ev_f (c := (H 0 3) ≤ v2) _ _ 2  zc9 e (fun n => Eq.refl _)
      by_cases zc10 : ((a_shr p4 v2) &&& 1) = 0
      · have zh7 := itp zh7 zc10
        suffices e : Ev (d + 3, 0, 0, 231, 51, [.val (.ref 1024), .val (.ref 384), .val (.int p2), .val (.int p3), .val (.int p4), .val (.int p5), .val (.int v2)], [], (126, 120, L, [Y, T, H, H2, RV, RU_3, ST, NS, I0, I1, I2, BO, FI, RG, GU, PU, MA, MN, MS, OT, SC], [r0, r1, r2, r3, w, 192, r6, r7, r8], Lg)) o from ev_t (c := ((a_shr p4 v2) &&& 1) = 0) _ _ 6  zc10 e (fun n => Eq.refl _)
        exact ev_b 2 (zi5 _ (Option.some.inj zh7).symm ()) (fun n => Eq.refl _)
      · have zh7 := itn zh7 zc10
        suffices e : Ev (d + 3, 0, 0, 231, 35, [.val (.ref 1024), .val (.ref 384), .val (.int p2), .val (.int p3), .val (.int p4), .val (.int p5), .val (.int v2)], [], (126, 120, L, [Y, T, H, H2, RV, RU_3, ST, NS, I0, I1, I2, BO, FI, RG, GU, PU, MA, MN, MS, OT, SC], [r0, r1, r2, r3, w, 192, r6, r7, r8], Lg)) o from ev_f (c := ((a_shr p4 v2) &&& 1) = 0) _ _ 6  zc10 e (fun n => Eq.refl _)
        obtain ⟨⟨x4, RU_5⟩, zh11, zh7⟩ := bnd zh7
        have zh11 : f_Rule_isSo H RU_3 BO v2 p2 = some (x4, RU_5) := zh11
        have ze12 := R_f_Rule_isSo_1 (d + 0) Y T H H2 RV RU_3 ST NS I0 I1 I2 BO FI RG GU PU MA MN MS OT SC r0 r1 r2 r3 w r6 r7 r8 L Lg v2 p2 zh11
        suffices e : Ev (d + 3, 0, 0, 231, 46, [.val (.ref 1024), .val (.ref 384), .val (.int p2), .val (.int p3), .val (.int p4), .val (.int p5), .val (.int v2)], [.int x4], (126, 120, L, [Y, T, H, H2, RV, RU_5, ST, NS, I0, I1, I2, BO, FI, RG, GU, PU, MA, MN, MS, OT, SC], [r0, r1, r2, r3, w, 192, r6, r7, r8], Lg)) o from ev_call (fun v μ => (d + 3, 0, 0, 231, 46, [.val (.ref 1024), .val (.ref 384), .val (.int p2), .val (.int p3), .val (.int p4), .val (.int p5), .val (.int v2)], v.toList ++ [], μ)) 6 ze12 e (fun n => Eq.refl _)
        by_cases zc13 : x4 ≠ 0
        · have zh7 := itp zh7 zc13
          suffices e : Ev (d + 3, 0, 0, 231, 51, [.val (.ref 1024), .val (.ref 384), .val (.int p2), .val (.int p3), .val (.int p4), .val (.int p5), .val (.int v2)], [], (126, 120, L, [Y, T, H, H2, RV, RU_5, ST, NS, I0, I1, I2, BO, FI, RG, GU, PU, MA, MN, MS, OT, SC], [r0, r1, r2, r3, w, 192, r6, r7, r8], Lg)) o from ev_t (c := x4 ≠ 0) _ _ 1  zc13 e (fun n => Eq.refl _)
          exact ev_b 2 (zi5 _ (Option.some.inj zh7).symm ()) (fun n => Eq.refl _)
        · have zh7 := itn zh7 zc13
          suffices e : Ev (d + 3, 0, 0, 231, 49, [.val (.ref 1024), .val (.ref 384), .val (.int p2), .val (.int p3), .val (.int p4), .val (.int p5), .val (.int v2)], [], (126, 120, L, [Y, T, H, H2, RV, RU_5, ST, NS, I0, I1, I2, BO, FI, RG, GU, PU, MA, MN, MS, OT, SC], [r0, r1, r2, r3, w, 192, r6, r7, r8], Lg)) o from ev_f (c := x4 ≠ 0) _ _ 1  zc13 e (fun n => Eq.refl _)
          exact ev_rete 2 (zx6 _ (Option.some.inj zh7).symm) (fun n => Eq.refl _)
  · rcases zb3 with RU_7 | zr8
    · intro s6
      have ze14 := Option.some.inj h
      subst ze14
      exact ev_rete 2 ho (fun n => Eq.refl _)
    · have zh15 : some zr8 = some r := h
      exact (congrArg (fun q => ((0, some (.int q.1), (126, 120, L, [Y, T, H, H2, RV, q.2, ST, NS, I0, I1, I2, BO, FI, RG, GU, PU, MA, MN, MS, OT, SC], [r0, r1, r2, r3, w, 192, r6, r7, r8], Lg)) : AOut)) (Option.some.inj zh15)).trans ho
set_option maxRecDepth 1000000 in
set_option maxHeartbeats 4000000 in
theorem R_f_Pusher_firstYielded_1 (d : Nat) (Y T H H2 RV RU ST NS I0 I1 I2 BO FI RG GU PU MA MN MS OT SC : Nat → Nat → Int32) (r0 r1 r2 r3 w r6 r7 r8 : Nat) (L : Nat) (Lg : Int64) (p2 : Int32) (p3 : Int32) {r : Int32 × (Nat → Nat → Int32)} (h : f_Pusher_firstYielded H RU BO p2 p3 = some r) : Ev (d + 4, 0, 0, 230, 0, [.val (.ref 1024), .val (.ref 384), .val (.int p2), .val (.int p3), .val a_unk, .val a_unk, .val a_unk, .val a_unk], [], (126, 120, L, [Y, T, H, H2, RV, RU, ST, NS, I0, I1, I2, BO, FI, RG, GU, PU, MA, MN, MS, OT, SC], [r0, r1, r2, r3, w, 192, r6, r7, r8], Lg)) ((0, some (.int r.1), (126, 120, L, [Y, T, H, H2, RV, r.2, ST, NS, I0, I1, I2, BO, FI, RG, GU, PU, MA, MN, MS, OT, SC], [r0, r1, r2, r3, w, 192, r6, r7, r8], Lg)) : AOut) := by
  suffices key : ∀ o : AOut, ((0, some (.int r.1), (126, 120, L, [Y, T, H, H2, RV, r.2, ST, NS, I0, I1, I2, BO, FI, RG, GU, PU, MA, MN, MS, OT, SC], [r0, r1, r2, r3, w, 192, r6, r7, r8], Lg)) : AOut) = o → Ev (d + 4, 0, 0, 230, 0, [.val (.ref 1024), .val (.ref 384), .val (.int p2), .val (.int p3), .val a_unk, .val a_unk, .val a_unk, .val a_unk], [], (126, 120, L, [Y, T, H, H2, RV, RU, ST, NS, I0, I1, I2, BO, FI, RG, GU, PU, MA, MN, MS, OT, SC], [r0, r1, r2, r3, w, 192, r6, r7, r8], Lg)) o from key _ rfl
  intro o ho
  obtain ⟨zb1, zh2, h⟩ := bnd h
  suffices e : Ev (d + 4, 0, 0, 230, 3, [.val (.ref 1024), .val (.ref 384), .val (.int p2), .val (.int p3), .val (.int 0), .val a_unk, .val a_unk, .val a_unk], [], (126, 120, L, [Y, T, H, H2, RV, RU, ST, NS, I0, I1, I2, BO, FI, RG, GU, PU, MA, MN, MS, OT, SC], [r0, r1, r2, r3, w, 192, r6, r7, r8], Lg)) o from ev_b 2 e (fun n => Eq.refl _)
  refine ev_loop (δ := Value × Value × Value) (fun a j => (d + 4, 0, 0, 230, 3, [.val (.ref 1024), .val (.ref 384), .val (.int p2), .val (.int p3), .val (.int a.1), .val j.1, .val j.2.1, .val j.2.2], [], (126, 120, L, [Y, T, H, H2, RV, a.2, ST, NS, I0, I1, I2, BO, FI, RG, GU, PU, MA, MN, MS, OT, SC], [r0, r1, r2, r3, w, 192, r6, r7, r8], Lg))) (fun b => sumE b (fun b => ∀ s19 : Value, ∀ s20 : Value, ∀ s21 : Value, ∀ s22 : Value, Ev (d + 4, 0, 0, 230, 98, [.val (.ref 1024), .val (.ref 384), .val (.int p2), .val (.int p3), .val s19, .val s20, .val s21, .val s22], [], (126, 120, L, [Y, T, H, H2, RV, b, ST, NS, I0, I1, I2, BO, FI, RG, GU, PU, MA, MN, MS, OT, SC], [r0, r1, r2, r3, w, 192, r6, r7, r8], Lg)) o) (fun b => ((0, some (.int b.1), (126, 120, L, [Y, T, H, H2, RV, b.2, ST, NS, I0, I1, I2, BO, FI, RG, GU, PU, MA, MN, MS, OT, SC], [r0, r1, r2, r3, w, 192, r6, r7, r8], Lg)) : AOut) = o)) ?_ a_F (0, RU) zb1 zh2 ?_ (a_unk, a_unk, a_unk)
  · rintro ⟨v1, RU_5⟩ zr6 zh5 zi3 zx4 ⟨s2, s3, s4⟩
    have zh5 : f_Pusher_firstYielded_l3 H BO p2 p3 v1 RU_5 = some zr6 := zh5
    suffices e : Ev (d + 4, 0, 0, 230, 12, [.val (.ref 1024), .val (.ref 384), .val (.int p2), .val (.int p3), .val (.int v1), .val s2, .val s3, .val s4], [.ref 192, .int v1], (126, 120, L, [Y, T, H, H2, RV, RU_5, ST, NS, I0, I1, I2, BO, FI, RG, GU, PU, MA, MN, MS, OT, SC], [r0, r1, r2, r3, w, 192, r6, r7, r8], Lg)) o from ev_b 4 e (fun n => Eq.refl _)
    by_cases zc7 : (H 0 0) ≤ v1
    · have zh5 := itp zh5 zc7
      suffices e : Ev (d + 4, 0, 0, 230, 98, [.val (.ref 1024), .val (.ref 384), .val (.int p2), .val (.int p3), .val (.int v1), .val s2, .val s3, .val s4], [], (126, 120, L, [Y, T, H, H2, RV, RU_5, ST, NS, I0, I1, I2, BO, FI, RG, GU, PU, MA, MN, MS, OT, SC], [r0, r1, r2, r3, w, 192, r6, r7, r8], Lg)) o from ev_t (c := (H 0 0) ≤ v1) _ _ 2  zc7 e (fun n => Eq.refl _)
      exact ev_b 0 (zx4 _ (Option.some.inj zh5).symm (.int v1) s2 s3 s4) (fun n => Eq.refl _)
    · have zh5 := itn zh5 zc7
      suffices e : Ev (d + 4, 0, 0, 230, 18, [.val (.ref 1024), .val (.ref 384), .val (.int p2), .val (.int p3), .val (.int v1), .val s2, .val s3, .val s4], [], (126, 120, L, [Y, T, H, H2, RV, RU_5, ST, NS, I0, I1, I2, BO, FI, RG, GU, PU, MA, MN, MS, OT, SC], [r0, r1, r2, r3, w, 192, r6, r7, r8], Lg)) o from ev_f (c := (H 0 0) ≤ v1) _ _ 2  zc7 e (fun n => Eq.refl _)
      obtain ⟨zb8, zh9, zh5⟩ := bnd zh5
      suffices e : Ev (d + 4, 0, 0, 230, 21, [.val (.ref 1024), .val (.ref 384), .val (.int p2), .val (.int p3), .val (.int v1), .val (.int 0), .val s3, .val s4], [], (126, 120, L, [Y, T, H, H2, RV, RU_5, ST, NS, I0, I1, I2, BO, FI, RG, GU, PU, MA, MN, MS, OT, SC], [r0, r1, r2, r3, w, 192, r6, r7, r8], Lg)) o from ev_b 2 e (fun n => Eq.refl _)
      refine ev_loop (δ := Value × Value) (fun a j => (d + 4, 0, 0, 230, 21, [.val (.ref 1024), .val (.ref 384), .val (.int p2), .val (.int p3), .val (.int v1), .val (.int a.1), .val j.1, .val j.2], [], (126, 120, L, [Y, T, H, H2, RV, a.2, ST, NS, I0, I1, I2, BO, FI, RG, GU, PU, MA, MN, MS, OT, SC], [r0, r1, r2, r3, w, 192, r6, r7, r8], Lg))) (fun b => sumE b (fun b => ∀ s15 : Value, ∀ s16 : Value, ∀ s17 : Value, Ev (d + 4, 0, 0, 230, 92, [.val (.ref 1024), .val (.ref 384), .val (.int p2), .val (.int p3), .val (.int v1), .val s15, .val s16, .val s17], [], (126, 120, L, [Y, T, H, H2, RV, b, ST, NS, I0, I1, I2, BO, FI, RG, GU, PU, MA, MN, MS, OT, SC], [r0, r1, r2, r3, w, 192, r6, r7, r8], Lg)) o) (fun b => ∀ c, b = .inr c → (fun b => sumE b (fun b => ∀ s19 : Value, ∀ s20 : Value, ∀ s21 : Value, ∀ s22 : Value, Ev (d + 4, 0, 0, 230, 98, [.val (.ref 1024), .val (.ref 384), .val (.int p2), .val (.int p3), .val s19, .val s20, .val s21, .val s22], [], (126, 120, L, [Y, T, H, H2, RV, b, ST, NS, I0, I1, I2, BO, FI, RG, GU, PU, MA, MN, MS, OT, SC], [r0, r1, r2, r3, w, 192, r6, r7, r8], Lg)) o) (fun b => ((0, some (.int b.1), (126, 120, L, [Y, T, H, H2, RV, b.2, ST, NS, I0, I1, I2, BO, FI, RG, GU, PU, MA, MN, MS, OT, SC], [r0, r1, r2, r3, w, 192, r6, r7, r8], Lg)) : AOut) = o)) c)) ?_ a_F (0, RU_5) zb8 zh9 ?_ (s3, s4)
      · rintro ⟨v6, RU_9⟩ zr13 zh12 zi10 zx11 ⟨s7, s8⟩
        have zh12 : f_Pusher_firstYielded_l21 H BO v1 p2 p3 v6 RU_9 = some zr13 := zh12
        suffices e : Ev (d + 4, 0, 0, 230, 30, [.val (.ref 1024), .val (.ref 384), .val (.int p2), .val (.int p3), .val (.int v1), .val (.int v6), .val s7, .val s8], [.ref 192, .int v6], (126, 120, L, [Y, T, H, H2, RV, RU_9, ST, NS, I0, I1, I2, BO, FI, RG, GU, PU, MA, MN, MS, OT, SC], [r0, r1, r2, r3, w, 192, r6, r7, r8], Lg)) o from ev_b 4 e (fun n => Eq.refl _)
        by_cases zc14 : (H 0 1) ≤ v6
        · have zh12 := itp zh12 zc14
          suffices e : Ev (d + 4, 0, 0, 230, 92, [.val (.ref 1024), .val (.ref 384), .val (.int p2), .val (.int p3), .val (.int v1), .val (.int v6), .val s7, .val s8], [], (126, 120, L, [Y, T, H, H2, RV, RU_9, ST, NS, I0, I1, I2, BO, FI, RG, GU, PU, MA, MN, MS, OT, SC], [r0, r1, r2, r3, w, 192, r6, r7, r8], Lg)) o from ev_t (c := (H 0 1) ≤ v6) _ _ 2  zc14 e (fun n => Eq.refl _)
          exact ev_b 0 (zx11 _ (Option.some.inj zh12).symm (.int v6) s7 s8) (fun n => Eq.refl _)
        · have zh12 := itn zh12 zc14
          suffices e : Ev (d + 4, 0, 0, 230, 36, [.val (.ref 1024), .val (.ref 384), .val (.int p2), .val (.int p3), .val (.int v1), .val (.int v6), .val s7, .val s8], [], (126, 120, L, [Y, T, H, H2, RV, RU_9, ST, NS, I0, I1, I2, BO, FI, RG, GU, PU, MA, MN, MS, OT, SC], [r0, r1, r2, r3, w, 192, r6, r7, r8], Lg)) o from ev_f (c := (H 0 1) ≤ v6) _ _ 2  zc14 e (fun n => Eq.refl _)
          obtain ⟨x10, zh15, zh12⟩ := bnd zh12
          have zh15 : f_Y_placeOf v1 v6 = some x10 := zh15
          have ze16 := R_f_Y_placeOf_0 (d + 3) Y T H H2 RV RU_9 ST NS I0 I1 I2 BO FI RG GU PU MA MN MS OT SC r0 r1 r2 r3 w 192 r6 r7 r8 L Lg v1 v6 zh15
          suffices e : Ev (d + 4, 0, 0, 230, 43, [.val (.ref 1024), .val (.ref 384), .val (.int p2), .val (.int p3), .val (.int v1), .val (.int v6), .val s7, .val s8], [.int x10], (126, 120, L, [Y, T, H, H2, RV, RU_9, ST, NS, I0, I1, I2, BO, FI, RG, GU, PU, MA, MN, MS, OT, SC], [r0, r1, r2, r3, w, 192, r6, r7, r8], Lg)) o from ev_call (fun v μ => (d + 4, 0, 0, 230, 43, [.val (.ref 1024), .val (.ref 384), .val (.int p2), .val (.int p3), .val (.int v1), .val (.int v6), .val s7, .val s8], v.toList ++ [], μ)) 3 ze16 e (fun n => Eq.refl _)
          obtain ⟨x11, zh17, zh12⟩ := bnd zh12
          have zh17 : f_Board_inWay H BO p2 x10 = some x11 := zh17
          have ze18 := R_f_Board_inWay_0 (d + 1) Y T H H2 RV RU_9 ST NS I0 I1 I2 BO FI RG GU PU MA MN MS OT SC r0 r1 r2 r3 w r6 r7 r8 L Lg p2 x10 zh17
          suffices e : Ev (d + 4, 0, 0, 230, 55, [.val (.ref 1024), .val (.ref 384), .val (.int p2), .val (.int p3), .val (.int v1), .val (.int v6), .val (.int x10), .val s8], [.int x11], (126, 120, L, [Y, T, H, H2, RV, RU_9, ST, NS, I0, I1, I2, BO, FI, RG, GU, PU, MA, MN, MS, OT, SC], [r0, r1, r2, r3, w, 192, r6, r7, r8], Lg)) o from ev_call (fun v μ => (d + 4, 0, 0, 230, 55, [.val (.ref 1024), .val (.ref 384), .val (.int p2), .val (.int p3), .val (.int v1), .val (.int v6), .val (.int x10), .val s8], v.toList ++ [], μ)) 6 ze18 e (fun n => Eq.refl _)
          obtain ⟨x12, zh19, zh12⟩ := bnd zh12
          have zh19 : f_Pusher_mayEnter H BO p2 x10 x11 = some x12 := zh19
          have ze20 := R_f_Pusher_mayEnter_0 (d + 1) Y T H H2 RV RU_9 ST NS I0 I1 I2 BO FI RG GU PU MA MN MS OT SC r0 r1 r2 r3 w r6 r7 r8 L Lg p2 x10 x11 zh19
          suffices e : Ev (d + 4, 0, 0, 230, 66, [.val (.ref 1024), .val (.ref 384), .val (.int p2), .val (.int p3), .val (.int v1), .val (.int v6), .val (.int x10), .val (.int x11)], [.int x12], (126, 120, L, [Y, T, H, H2, RV, RU_9, ST, NS, I0, I1, I2, BO, FI, RG, GU, PU, MA, MN, MS, OT, SC], [r0, r1, r2, r3, w, 192, r6, r7, r8], Lg)) o from ev_call (fun v μ => (d + 4, 0, 0, 230, 66, [.val (.ref 1024), .val (.ref 384), .val (.int p2), .val (.int p3), .val (.int v1), .val (.int v6), .val (.int x10), .val (.int x11)], v.toList ++ [], μ)) 6 ze20 e (fun n => Eq.refl _)
          by_cases zc21 : x12 = 0
          · have zh12 := itp zh12 zc21
            suffices e : Ev (d + 4, 0, 0, 230, 86, [.val (.ref 1024), .val (.ref 384), .val (.int p2), .val (.int p3), .val (.int v1), .val (.int v6), .val (.int x10), .val (.int x11)], [], (126, 120, L, [Y, T, H, H2, RV, RU_9, ST, NS, I0, I1, I2, BO, FI, RG, GU, PU, MA, MN, MS, OT, SC], [r0, r1, r2, r3, w, 192, r6, r7, r8], Lg)) o from ev_t (c := x12 = 0) _ _ 1  zc21 e (fun n => Eq.refl _)
            exact ev_b 2 (zi10 _ (Option.some.inj zh12).symm ((.int x10), (.int x11))) (fun n => Eq.refl _)
          · have zh12 := itn zh12 zc21
            suffices e : Ev (d + 4, 0, 0, 230, 69, [.val (.ref 1024), .val (.ref 384), .val (.int p2), .val (.int p3), .val (.int v1), .val (.int v6), .val (.int x10), .val (.int x11)], [], (126, 120, L, [Y, T, H, H2, RV, RU_9, ST, NS, I0, I1, I2, BO, FI, RG, GU, PU, MA, MN, MS, OT, SC], [r0, r1, r2, r3, w, 192, r6, r7, r8], Lg)) o from ev_f (c := x12 = 0) _ _ 1  zc21 e (fun n => Eq.refl _)
            obtain ⟨⟨x13, RU_14⟩, zh22, zh12⟩ := bnd zh12
            have zh22 : f_Pusher_allYield H RU_9 BO p2 x10 x11 p3 = some (x13, RU_14) := zh22
            have ze23 := R_f_Pusher_allYield_1 (d + 0) Y T H H2 RV RU_9 ST NS I0 I1 I2 BO FI RG GU PU MA MN MS OT SC r0 r1 r2 r3 w r6 r7 r8 L Lg p2 x10 x11 p3 zh22
            suffices e : Ev (d + 4, 0, 0, 230, 80, [.val (.ref 1024), .val (.ref 384), .val (.int p2), .val (.int p3), .val (.int v1), .val (.int v6), .val (.int x10), .val (.int x11)], [.int x13], (126, 120, L, [Y, T, H, H2, RV, RU_14, ST, NS, I0, I1, I2, BO, FI, RG, GU, PU, MA, MN, MS, OT, SC], [r0, r1, r2, r3, w, 192, r6, r7, r8], Lg)) o from ev_call (fun v μ => (d + 4, 0, 0, 230, 80, [.val (.ref 1024), .val (.ref 384), .val (.int p2), .val (.int p3), .val (.int v1), .val (.int v6), .val (.int x10), .val (.int x11)], v.toList ++ [], μ)) 7 ze23 e (fun n => Eq.refl _)
            by_cases zc24 : x13 = 0
            · have zh12 := itp zh12 zc24
              suffices e : Ev (d + 4, 0, 0, 230, 86, [.val (.ref 1024), .val (.ref 384), .val (.int p2), .val (.int p3), .val (.int v1), .val (.int v6), .val (.int x10), .val (.int x11)], [], (126, 120, L, [Y, T, H, H2, RV, RU_14, ST, NS, I0, I1, I2, BO, FI, RG, GU, PU, MA, MN, MS, OT, SC], [r0, r1, r2, r3, w, 192, r6, r7, r8], Lg)) o from ev_t (c := x13 = 0) _ _ 1  zc24 e (fun n => Eq.refl _)
              exact ev_b 2 (zi10 _ (Option.some.inj zh12).symm ((.int x10), (.int x11))) (fun n => Eq.refl _)
            · have zh12 := itn zh12 zc24
              suffices e : Ev (d + 4, 0, 0, 230, 83, [.val (.ref 1024), .val (.ref 384), .val (.int p2), .val (.int p3), .val (.int v1), .val (.int v6), .val (.int x10), .val (.int x11)], [], (126, 120, L, [Y, T, H, H2, RV, RU_14, ST, NS, I0, I1, I2, BO, FI, RG, GU, PU, MA, MN, MS, OT, SC], [r0, r1, r2, r3, w, 192, r6, r7, r8], Lg)) o from ev_f (c := x13 = 0) _ _ 1  zc24 e (fun n => Eq.refl _)
              exact ev_rete 2 (zx11 _ (Option.some.inj zh12).symm _ rfl) (fun n => Eq.refl _)
      · rcases zb8 with RU_18 | zr13
        · intro s15 s16 s17
          exact ev_b 2 (zi3 _ (Option.some.inj zh5).symm (s15, s16, s17)) (fun n => Eq.refl _)
        · have zh25 : some zr13 = some _ := zh5
          exact fun c hc => zx4 c ((Option.some.inj zh25).symm.trans hc)
  · rcases zb1 with RU_23 | zr6
    · intro s19 s20 s21 s22
      have ze27 := Option.some.inj h
      subst ze27
      exact ev_rete 2 ho (fun n => Eq.refl _)
    · have zh28 : some zr6 = some r := h
      exact (congrArg (fun q => ((0, some (.int q.1), (126, 120, L, [Y, T, H, H2, RV, q.2, ST, NS, I0, I1, I2, BO, FI, RG, GU, PU, MA, MN, MS, OT, SC], [r0, r1, r2, r3, w, 192, r6, r7, r8], Lg)) : AOut)) (Option.some.inj zh28)).trans ho
set_option maxRecDepth 1000000 in
set_option maxHeartbeats 4000000 in
theorem R_f_Pusher_look_1 (d : Nat) (Y T H H2 RV RU ST NS I0 I1 I2 BO FI RG GU PU MA MN MS OT SC : Nat → Nat → Int32) (r0 r1 r2 r3 w r6 r7 r8 : Nat) (L : Nat) (Lg : Int64) (p2 : Int32) {r : (Nat → Nat → Int32) × (Nat → Nat → Int32) × (Nat → Nat → Int32)} (h : f_Pusher_look H RU BO PU p2 = some r) : Ev (d + 5, 0, 0, 228, 0, [.val (.ref 1024), .val (.ref 384), .val (.int p2), .val a_unk, .val a_unk], [], (126, 120, L, [Y, T, H, H2, RV, RU, ST, NS, I0, I1, I2, BO, FI, RG, GU, PU, MA, MN, MS, OT, SC], [r0, r1, r2, r3, w, 192, r6, r7, r8], Lg)) ((0, none, (126, 120, L, [Y, T, H, H2, RV, r.1, ST, NS, I0, I1, I2, r.2.1, FI, RG, GU, r.2.2, MA, MN, MS, OT, SC], [r0, r1, r2, r3, w, 192, r6, r7, r8], Lg)) : AOut) := by
  suffices key : ∀ o : AOut, ((0, none, (126, 120, L, [Y, T, H, H2, RV, r.1, ST, NS, I0, I1, I2, r.2.1, FI, RG, GU, r.2.2, MA, MN, MS, OT, SC], [r0, r1, r2, r3, w, 192, r6, r7, r8], Lg)) : AOut) = o → Ev (d + 5, 0, 0, 228, 0, [.val (.ref 1024), .val (.ref 384), .val (.int p2), .val a_unk, .val a_unk], [], (126, 120, L, [Y, T, H, H2, RV, RU, ST, NS, I0, I1, I2, BO, FI, RG, GU, PU, MA, MN, MS, OT, SC], [r0, r1, r2, r3, w, 192, r6, r7, r8], Lg)) o from key _ rfl
  intro o ho
  obtain ⟨x1, zh1, h⟩ := bnd h
  have zh1 : rdx (PU 1) 10 0 = some x1 := zh1
  suffices e : Ev (d + 5, 0, 0, 228, 6, [.val (.ref 1024), .val (.ref 384), .val (.int p2), .val a_unk, .val a_unk], [.int x1], (126, 120, L, [Y, T, H, H2, RV, RU, ST, NS, I0, I1, I2, BO, FI, RG, GU, PU, MA, MN, MS, OT, SC], [r0, r1, r2, r3, w, 192, r6, r7, r8], Lg)) o from ev_opt (fun x1 => (d + 5, 0, 0, 228, 6, [.val (.ref 1024), .val (.ref 384), .val (.int p2), .val a_unk, .val a_unk], [.int x1], (126, 120, L, [Y, T, H, H2, RV, RU, ST, NS, I0, I1, I2, BO, FI, RG, GU, PU, MA, MN, MS, OT, SC], [r0, r1, r2, r3, w, 192, r6, r7, r8], Lg))) 4 zh1 e (fun n => Eq.refl _)
  by_cases zc2 : ((1 : Int32) < 0 ∨ (0 : Int32) < 0 ∨ (9 : Int32) < 0 ∨ 10 < (1 : Int32).toNatClampNeg + (9 : Int32).toNatClampNeg ∨ 10 < (0 : Int32).toNatClampNeg + (9 : Int32).toNatClampNeg)
  · exact nos (itp h zc2)
  have h := itn h zc2
  suffices e : Ev (d + 5, 0, 0, 228, 32, [.val (.ref 1024), .val (.ref 384), .val (.int p2), .val (.int x1), .val a_unk], [], (126, 120, L, [Y, T, H, H2, RV, RU, ST, NS, I0, I1, I2, BO, FI, RG, GU, (u1 (u2 PU 0 2 ((PU 0 2) - 1)) 1 (a_cpy ((u2 PU 0 2 ((PU 0 2) - 1)) 1) ((u2 PU 0 2 ((PU 0 2) - 1)) 1) (1 : Int32).toNatClampNeg (0 : Int32).toNatClampNeg (9 : Int32).toNatClampNeg)), MA, MN, MS, OT, SC], [r0, r1, r2, r3, w, 192, r6, r7, r8], Lg)) o from ev_d (c := ((1 : Int32) < 0 ∨ (0 : Int32) < 0 ∨ (9 : Int32) < 0 ∨ 10 < (1 : Int32).toNatClampNeg + (9 : Int32).toNatClampNeg ∨ 10 < (0 : Int32).toNatClampNeg + (9 : Int32).toNatClampNeg)) _ 15 zc2 e (fun n => Eq.refl _)
  obtain ⟨x2, zh3, h⟩ := bnd h
  have zh3 : f_Pusher_firstOpen H BO x1 = some x2 := zh3
  have ze4 := R_f_Pusher_firstOpen_0 (d + 1) Y T H H2 RV RU ST NS I0 I1 I2 BO FI RG GU (u1 (u2 PU 0 2 ((PU 0 2) - 1)) 1 (a_cpy ((u2 PU 0 2 ((PU 0 2) - 1)) 1) ((u2 PU 0 2 ((PU 0 2) - 1)) 1) (1 : Int32).toNatClampNeg (0 : Int32).toNatClampNeg (9 : Int32).toNatClampNeg)) MA MN MS OT SC r0 r1 r2 r3 w r6 r7 r8 L Lg x1 zh3
  suffices e : Ev (d + 5, 0, 0, 228, 37, [.val (.ref 1024), .val (.ref 384), .val (.int p2), .val (.int x1), .val a_unk], [.int x2], (126, 120, L, [Y, T, H, H2, RV, RU, ST, NS, I0, I1, I2, BO, FI, RG, GU, (u1 (u2 PU 0 2 ((PU 0 2) - 1)) 1 (a_cpy ((u2 PU 0 2 ((PU 0 2) - 1)) 1) ((u2 PU 0 2 ((PU 0 2) - 1)) 1) (1 : Int32).toNatClampNeg (0 : Int32).toNatClampNeg (9 : Int32).toNatClampNeg)), MA, MN, MS, OT, SC], [r0, r1, r2, r3, w, 192, r6, r7, r8], Lg)) o from ev_call (fun v μ => (d + 5, 0, 0, 228, 37, [.val (.ref 1024), .val (.ref 384), .val (.int p2), .val (.int x1), .val a_unk], v.toList ++ [], μ)) 3 ze4 e (fun n => Eq.refl _)
  obtain ⟨zt5, zh6, h⟩ := bnd h
  have zj7 : ∀ (v8 : Int32) (RU_9 : (Nat → Nat → Int32)) (BO_10 : (Nat → Nat → Int32)) (PU_11 : (Nat → Nat → Int32)), zt5 = .inl (v8, RU_9, BO_10, PU_11) → Ev (d + 5, 0, 0, 228, 75, [.val (.ref 1024), .val (.ref 384), .val (.int p2), .val (.int x1), .val (.int v8)], [], (126, 120, L, [Y, T, H, H2, RV, RU_9, ST, NS, I0, I1, I2, BO_10, FI, RG, GU, PU_11, MA, MN, MS, OT, SC], [r0, r1, r2, r3, w, 192, r6, r7, r8], Lg)) o := by
    intro v8 RU_9 BO_10 PU_11 ze8
    have h := sum_l h ze8
    obtain ⟨j12, zh9, h⟩ := bnd h
    have zh9 : ixx 10 x1 = some j12 := zh9
    suffices e : Ev (d + 5, 0, 0, 228, 86, [.val (.ref 1024), .val (.ref 384), .val (.int p2), .val (.int x1), .val (.int v8)], [], (126, 120, L, [Y, T, H, H2, RV, RU_9, ST, NS, I0, I1, I2, (u2 BO_10 1 j12 v8), FI, RG, GU, PU_11, MA, MN, MS, OT, SC], [r0, r1, r2, r3, w, 192, r6, r7, r8], Lg)) o from ev_opt (fun j12 => (d + 5, 0, 0, 228, 86, [.val (.ref 1024), .val (.ref 384), .val (.int p2), .val (.int x1), .val (.int v8)], [], (126, 120, L, [Y, T, H, H2, RV, RU_9, ST, NS, I0, I1, I2, (u2 BO_10 1 j12 v8), FI, RG, GU, PU_11, MA, MN, MS, OT, SC], [r0, r1, r2, r3, w, 192, r6, r7, r8], Lg))) 6 zh9 e (fun n => Eq.refl _)
    have ze10 := Option.some.inj h
    subst ze10
    exact ev_rete 1 ho (fun n => Eq.refl _)
  by_cases zc11 : x2 ≠ (-1)
  · have zh6 := itp zh6 zc11
    suffices e : Ev (d + 5, 0, 0, 228, 75, [.val (.ref 1024), .val (.ref 384), .val (.int p2), .val (.int x1), .val (.int x2)], [], (126, 120, L, [Y, T, H, H2, RV, RU, ST, NS, I0, I1, I2, BO, FI, RG, GU, (u1 (u2 PU 0 2 ((PU 0 2) - 1)) 1 (a_cpy ((u2 PU 0 2 ((PU 0 2) - 1)) 1) ((u2 PU 0 2 ((PU 0 2) - 1)) 1) (1 : Int32).toNatClampNeg (0 : Int32).toNatClampNeg (9 : Int32).toNatClampNeg)), MA, MN, MS, OT, SC], [r0, r1, r2, r3, w, 192, r6, r7, r8], Lg)) o from ev_t (c := x2 ≠ (-1)) _ _ 4  zc11 e (fun n => Eq.refl _)
    exact ev_b 0 (zj7 x2 RU BO (u1 (u2 PU 0 2 ((PU 0 2) - 1)) 1 (a_cpy ((u2 PU 0 2 ((PU 0 2) - 1)) 1) ((u2 PU 0 2 ((PU 0 2) - 1)) 1) (1 : Int32).toNatClampNeg (0 : Int32).toNatClampNeg (9 : Int32).toNatClampNeg)) (Option.some.inj zh6).symm ) (fun n => Eq.refl _)
  · have zh6 := itn zh6 zc11
    suffices e : Ev (d + 5, 0, 0, 228, 45, [.val (.ref 1024), .val (.ref 384), .val (.int p2), .val (.int x1), .val (.int x2)], [], (126, 120, L, [Y, T, H, H2, RV, RU, ST, NS, I0, I1, I2, BO, FI, RG, GU, (u1 (u2 PU 0 2 ((PU 0 2) - 1)) 1 (a_cpy ((u2 PU 0 2 ((PU 0 2) - 1)) 1) ((u2 PU 0 2 ((PU 0 2) - 1)) 1) (1 : Int32).toNatClampNeg (0 : Int32).toNatClampNeg (9 : Int32).toNatClampNeg)), MA, MN, MS, OT, SC], [r0, r1, r2, r3, w, 192, r6, r7, r8], Lg)) o from ev_f (c := x2 ≠ (-1)) _ _ 4  zc11 e (fun n => Eq.refl _)
    obtain ⟨⟨x3, RU_4⟩, zh12, zh6⟩ := bnd zh6
    have zh12 : f_Pusher_firstYielded H RU BO x1 p2 = some (x3, RU_4) := zh12
    have ze13 := R_f_Pusher_firstYielded_1 (d + 0) Y T H H2 RV RU ST NS I0 I1 I2 BO FI RG GU (u1 (u2 PU 0 2 ((PU 0 2) - 1)) 1 (a_cpy ((u2 PU 0 2 ((PU 0 2) - 1)) 1) ((u2 PU 0 2 ((PU 0 2) - 1)) 1) (1 : Int32).toNatClampNeg (0 : Int32).toNatClampNeg (9 : Int32).toNatClampNeg)) MA MN MS OT SC r0 r1 r2 r3 w r6 r7 r8 L Lg x1 p2 zh12
    suffices e : Ev (d + 5, 0, 0, 228, 52, [.val (.ref 1024), .val (.ref 384), .val (.int p2), .val (.int x1), .val (.int x2)], [.int x3], (126, 120, L, [Y, T, H, H2, RV, RU_4, ST, NS, I0, I1, I2, BO, FI, RG, GU, (u1 (u2 PU 0 2 ((PU 0 2) - 1)) 1 (a_cpy ((u2 PU 0 2 ((PU 0 2) - 1)) 1) ((u2 PU 0 2 ((PU 0 2) - 1)) 1) (1 : Int32).toNatClampNeg (0 : Int32).toNatClampNeg (9 : Int32).toNatClampNeg)), MA, MN, MS, OT, SC], [r0, r1, r2, r3, w, 192, r6, r7, r8], Lg)) o from ev_call (fun v μ => (d + 5, 0, 0, 228, 52, [.val (.ref 1024), .val (.ref 384), .val (.int p2), .val (.int x1), .val (.int x2)], v.toList ++ [], μ)) 5 ze13 e (fun n => Eq.refl _)
    by_cases zc14 : x3 ≠ (-1)
    · have zh6 := itp zh6 zc14
      suffices e : Ev (d + 5, 0, 0, 228, 61, [.val (.ref 1024), .val (.ref 384), .val (.int p2), .val (.int x1), .val (.int x3)], [], (126, 120, L, [Y, T, H, H2, RV, RU_4, ST, NS, I0, I1, I2, BO, FI, RG, GU, (u1 (u2 PU 0 2 ((PU 0 2) - 1)) 1 (a_cpy ((u2 PU 0 2 ((PU 0 2) - 1)) 1) ((u2 PU 0 2 ((PU 0 2) - 1)) 1) (1 : Int32).toNatClampNeg (0 : Int32).toNatClampNeg (9 : Int32).toNatClampNeg)), MA, MN, MS, OT, SC], [r0, r1, r2, r3, w, 192, r6, r7, r8], Lg)) o from ev_t (c := x3 ≠ (-1)) _ _ 4  zc14 e (fun n => Eq.refl _)
      obtain ⟨x5, zh15, zh6⟩ := bnd zh6
      have zh15 : f_Board_inWay H BO x1 x3 = some x5 := zh15
      have ze16 := R_f_Board_inWay_0 (d + 2) Y T H H2 RV RU_4 ST NS I0 I1 I2 BO FI RG GU (u1 (u2 PU 0 2 ((PU 0 2) - 1)) 1 (a_cpy ((u2 PU 0 2 ((PU 0 2) - 1)) 1) ((u2 PU 0 2 ((PU 0 2) - 1)) 1) (1 : Int32).toNatClampNeg (0 : Int32).toNatClampNeg (9 : Int32).toNatClampNeg)) MA MN MS OT SC r0 r1 r2 r3 w r6 r7 r8 L Lg x1 x3 zh15
      suffices e : Ev (d + 5, 0, 0, 228, 72, [.val (.ref 1024), .val (.ref 384), .val (.int p2), .val (.int x1), .val (.int x3)], [.int x5, .ref 1024], (126, 120, L, [Y, T, H, H2, RV, RU_4, ST, NS, I0, I1, I2, BO, FI, RG, GU, (u1 (u2 PU 0 2 ((PU 0 2) - 1)) 1 (a_cpy ((u2 PU 0 2 ((PU 0 2) - 1)) 1) ((u2 PU 0 2 ((PU 0 2) - 1)) 1) (1 : Int32).toNatClampNeg (0 : Int32).toNatClampNeg (9 : Int32).toNatClampNeg)), MA, MN, MS, OT, SC], [r0, r1, r2, r3, w, 192, r6, r7, r8], Lg)) o from ev_call (fun v μ => (d + 5, 0, 0, 228, 72, [.val (.ref 1024), .val (.ref 384), .val (.int p2), .val (.int x1), .val (.int x3)], v.toList ++ [.ref 1024], μ)) 6 ze16 e (fun n => Eq.refl _)
      obtain ⟨⟨BO_6, PU_7⟩, zh17, zh6⟩ := bnd zh6
      have zh17 : f_Pusher_leave H BO (u1 (u2 PU 0 2 ((PU 0 2) - 1)) 1 (a_cpy ((u2 PU 0 2 ((PU 0 2) - 1)) 1) ((u2 PU 0 2 ((PU 0 2) - 1)) 1) (1 : Int32).toNatClampNeg (0 : Int32).toNatClampNeg (9 : Int32).toNatClampNeg)) x5 = some (BO_6, PU_7) := zh17
      have ze18 := R_f_Pusher_leave_0 (d + 4) Y T H H2 RV RU_4 ST NS I0 I1 I2 BO FI RG GU (u1 (u2 PU 0 2 ((PU 0 2) - 1)) 1 (a_cpy ((u2 PU 0 2 ((PU 0 2) - 1)) 1) ((u2 PU 0 2 ((PU 0 2) - 1)) 1) (1 : Int32).toNatClampNeg (0 : Int32).toNatClampNeg (9 : Int32).toNatClampNeg)) MA MN MS OT SC r0 r1 r2 r3 w r6 r7 r8 L Lg x5 zh17
      suffices e : Ev (d + 5, 0, 0, 228, 75, [.val (.ref 1024), .val (.ref 384), .val (.int p2), .val (.int x1), .val (.int x3)], [], (126, 120, L, [Y, T, H, H2, RV, RU_4, ST, NS, I0, I1, I2, BO_6, FI, RG, GU, PU_7, MA, MN, MS, OT, SC], [r0, r1, r2, r3, w, 192, r6, r7, r8], Lg)) o from ev_call (fun v μ => (d + 5, 0, 0, 228, 75, [.val (.ref 1024), .val (.ref 384), .val (.int p2), .val (.int x1), .val (.int x3)], v.toList ++ [], μ)) 1 ze18 e (fun n => Eq.refl _)
      exact ev_b 0 (zj7 x3 RU_4 BO_6 PU_7 (Option.some.inj zh6).symm ) (fun n => Eq.refl _)
    · have zh6 := itn zh6 zc14
      suffices e : Ev (d + 5, 0, 0, 228, 60, [.val (.ref 1024), .val (.ref 384), .val (.int p2), .val (.int x1), .val (.int x3)], [], (126, 120, L, [Y, T, H, H2, RV, RU_4, ST, NS, I0, I1, I2, BO, FI, RG, GU, (u1 (u2 PU 0 2 ((PU 0 2) - 1)) 1 (a_cpy ((u2 PU 0 2 ((PU 0 2) - 1)) 1) ((u2 PU 0 2 ((PU 0 2) - 1)) 1) (1 : Int32).toNatClampNeg (0 : Int32).toNatClampNeg (9 : Int32).toNatClampNeg)), MA, MN, MS, OT, SC], [r0, r1, r2, r3, w, 192, r6, r7, r8], Lg)) o from ev_f (c := x3 ≠ (-1)) _ _ 4  zc14 e (fun n => Eq.refl _)
      have zh19 := sum_r h (Option.some.inj zh6).symm
      have ze20 := Option.some.inj zh19
      subst ze20
      exact ev_rete 1 ho (fun n => Eq.refl _)
set_option maxRecDepth 1000000 in
set_option maxHeartbeats 4000000 in
theorem R_f_Pusher_run_1 (d : Nat) (Y T H H2 RV RU ST NS I0 I1 I2 BO FI RG GU PU MA MN MS OT SC : Nat → Nat → Int32) (r0 r1 r2 r3 w r6 r7 r8 : Nat) (L : Nat) (Lg : Int64) (p2 : Int32) (p3 : Int32) {r : Int32 × (Nat → Nat → Int32) × (Nat → Nat → Int32) × (Nat → Nat → Int32)} (h : f_Pusher_run H RU BO PU p2 p3 = some r) : Ev (d + 6, 0, 0, 225, 0, [.val (.ref 1024), .val (.ref 384), .val (.int p2), .val (.int p3), .val a_unk, .val a_unk], [], (126, 120, L, [Y, T, H, H2, RV, RU, ST, NS, I0, I1, I2, BO, FI, RG, GU, PU, MA, MN, MS, OT, SC], [r0, r1, r2, r3, w, 192, r6, r7, r8], Lg)) ((0, some (.int r.1), (126, 120, L, [Y, T, H, H2, RV, r.2.1, ST, NS, I0, I1, I2, r.2.2.1, FI, RG, GU, r.2.2.2, MA, MN, MS, OT, SC], [r0, r1, r2, r3, w, 192, r6, r7, r8], Lg)) : AOut) := by
  suffices key : ∀ o : AOut, ((0, some (.int r.1), (126, 120, L, [Y, T, H, H2, RV, r.2.1, ST, NS, I0, I1, I2, r.2.2.1, FI, RG, GU, r.2.2.2, MA, MN, MS, OT, SC], [r0, r1, r2, r3, w, 192, r6, r7, r8], Lg)) : AOut) = o → Ev (d + 6, 0, 0, 225, 0, [.val (.ref 1024), .val (.ref 384), .val (.int p2), .val (.int p3), .val a_unk, .val a_unk], [], (126, 120, L, [Y, T, H, H2, RV, RU, ST, NS, I0, I1, I2, BO, FI, RG, GU, PU, MA, MN, MS, OT, SC], [r0, r1, r2, r3, w, 192, r6, r7, r8], Lg)) o from key _ rfl
  intro o ho
  obtain ⟨x1, zh1, h⟩ := bnd h
  have zh1 : f_Board_inWay H BO p2 p3 = some x1 := zh1
  have ze2 := R_f_Board_inWay_0 (d + 3) Y T H H2 RV RU ST NS I0 I1 I2 BO FI RG GU (u2 PU 0 2 0) MA MN MS OT SC r0 r1 r2 r3 w r6 r7 r8 L Lg p2 p3 zh1
  suffices e : Ev (d + 6, 0, 0, 225, 14, [.val (.ref 1024), .val (.ref 384), .val (.int p2), .val (.int p3), .val a_unk, .val a_unk], [.int x1], (126, 120, L, [Y, T, H, H2, RV, RU, ST, NS, I0, I1, I2, BO, FI, RG, GU, (u2 PU 0 2 0), MA, MN, MS, OT, SC], [r0, r1, r2, r3, w, 192, r6, r7, r8], Lg)) o from ev_call (fun v μ => (d + 6, 0, 0, 225, 14, [.val (.ref 1024), .val (.ref 384), .val (.int p2), .val (.int p3), .val a_unk, .val a_unk], v.toList ++ [], μ)) 8 ze2 e (fun n => Eq.refl _)
  suffices e : Ev (d + 6, 0, 0, 225, 23, [.val (.ref 1024), .val (.ref 384), .val (.int p2), .val (.int p3), .val (.int x1), .val a_unk], [.ref 192], (126, 120, L, [Y, T, H, H2, RV, RU, ST, NS, I0, I1, I2, BO, FI, RG, GU, (u2 PU 0 2 0), MA, MN, MS, OT, SC], [r0, r1, r2, r3, w, 192, r6, r7, r8], Lg)) o from ev_b 4 e (fun n => Eq.refl _)
  obtain ⟨x2, zh3, h⟩ := bnd h
  have zh3 : f_House_isFixed H p2 = some x2 := zh3
  have ze4 := R_f_House_isFixed_0 (d + 5) Y T H H2 RV RU ST NS I0 I1 I2 BO FI RG GU (u2 PU 0 2 0) MA MN MS OT SC r0 r1 r2 r3 w 192 r6 r7 r8 L Lg p2 zh3
  suffices e : Ev (d + 6, 0, 0, 225, 27, [.val (.ref 1024), .val (.ref 384), .val (.int p2), .val (.int p3), .val (.int x1), .val a_unk], [.int x2], (126, 120, L, [Y, T, H, H2, RV, RU, ST, NS, I0, I1, I2, BO, FI, RG, GU, (u2 PU 0 2 0), MA, MN, MS, OT, SC], [r0, r1, r2, r3, w, 192, r6, r7, r8], Lg)) o from ev_call (fun v μ => (d + 6, 0, 0, 225, 27, [.val (.ref 1024), .val (.ref 384), .val (.int p2), .val (.int p3), .val (.int x1), .val a_unk], v.toList ++ [], μ)) 2 ze4 e (fun n => Eq.refl _)
  by_cases zc5 : x2 ≠ 0
  · have h := itp h zc5
    suffices e : Ev (d + 6, 0, 0, 225, 41, [.val (.ref 1024), .val (.ref 384), .val (.int p2), .val (.int p3), .val (.int x1), .val a_unk], [], (126, 120, L, [Y, T, H, H2, RV, RU, ST, NS, I0, I1, I2, BO, FI, RG, GU, (u2 PU 0 2 0), MA, MN, MS, OT, SC], [r0, r1, r2, r3, w, 192, r6, r7, r8], Lg)) o from ev_t (c := x2 ≠ 0) _ _ 1  zc5 e (fun n => Eq.refl _)
    have ze6 := Option.some.inj h
    subst ze6
    exact ev_rete 2 ho (fun n => Eq.refl _)
  · have h := itn h zc5
    suffices e : Ev (d + 6, 0, 0, 225, 30, [.val (.ref 1024), .val (.ref 384), .val (.int p2), .val (.int p3), .val (.int x1), .val a_unk], [], (126, 120, L, [Y, T, H, H2, RV, RU, ST, NS, I0, I1, I2, BO, FI, RG, GU, (u2 PU 0 2 0), MA, MN, MS, OT, SC], [r0, r1, r2, r3, w, 192, r6, r7, r8], Lg)) o from ev_f (c := x2 ≠ 0) _ _ 1  zc5 e (fun n => Eq.refl _)
    obtain ⟨x3, zh7, h⟩ := bnd h
    have zh7 : f_Pusher_mayEnter H BO p2 p3 x1 = some x3 := zh7
    have ze8 := R_f_Pusher_mayEnter_0 (d + 3) Y T H H2 RV RU ST NS I0 I1 I2 BO FI RG GU (u2 PU 0 2 0) MA MN MS OT SC r0 r1 r2 r3 w r6 r7 r8 L Lg p2 p3 x1 zh7
    suffices e : Ev (d + 6, 0, 0, 225, 38, [.val (.ref 1024), .val (.ref 384), .val (.int p2), .val (.int p3), .val (.int x1), .val a_unk], [.int x3], (126, 120, L, [Y, T, H, H2, RV, RU, ST, NS, I0, I1, I2, BO, FI, RG, GU, (u2 PU 0 2 0), MA, MN, MS, OT, SC], [r0, r1, r2, r3, w, 192, r6, r7, r8], Lg)) o from ev_call (fun v μ => (d + 6, 0, 0, 225, 38, [.val (.ref 1024), .val (.ref 384), .val (.int p2), .val (.int p3), .val (.int x1), .val a_unk], v.toList ++ [], μ)) 5 ze8 e (fun n => Eq.refl _)
    by_cases zc9 : x3 ≠ 0
    · have h := itp h zc9
      suffices e : Ev (d + 6, 0, 0, 225, 43, [.val (.ref 1024), .val (.ref 384), .val (.int p2), .val (.int p3), .val (.int x1), .val a_unk], [], (126, 120, L, [Y, T, H, H2, RV, RU, ST, NS, I0, I1, I2, BO, FI, RG, GU, (u2 PU 0 2 0), MA, MN, MS, OT, SC], [r0, r1, r2, r3, w, 192, r6, r7, r8], Lg)) o from ev_t (c := x3 ≠ 0) _ _ 1  zc9 e (fun n => Eq.refl _)
      obtain ⟨j4, zh10, h⟩ := bnd h
      have zh10 : ixx 10 p2 = some j4 := zh10
      suffices e : Ev (d + 6, 0, 0, 225, 53, [.val (.ref 1024), .val (.ref 384), .val (.int p2), .val (.int p3), .val (.int x1), .val a_unk], [], (126, 120, L, [Y, T, H, H2, RV, RU, ST, NS, I0, I1, I2, (u2 BO 1 j4 p3), FI, RG, GU, (u2 PU 0 2 0), MA, MN, MS, OT, SC], [r0, r1, r2, r3, w, 192, r6, r7, r8], Lg)) o from ev_opt (fun j4 => (d + 6, 0, 0, 225, 53, [.val (.ref 1024), .val (.ref 384), .val (.int p2), .val (.int p3), .val (.int x1), .val a_unk], [], (126, 120, L, [Y, T, H, H2, RV, RU, ST, NS, I0, I1, I2, (u2 BO 1 j4 p3), FI, RG, GU, (u2 PU 0 2 0), MA, MN, MS, OT, SC], [r0, r1, r2, r3, w, 192, r6, r7, r8], Lg))) 6 zh10 e (fun n => Eq.refl _)
      obtain ⟨⟨BO_5, PU_6⟩, zh11, h⟩ := bnd h
      have zh11 : f_Pusher_leave H (u2 BO 1 j4 p3) (u2 PU 0 2 0) x1 = some (BO_5, PU_6) := zh11
      have ze12 := R_f_Pusher_leave_0 (d + 5) Y T H H2 RV RU ST NS I0 I1 I2 (u2 BO 1 j4 p3) FI RG GU (u2 PU 0 2 0) MA MN MS OT SC r0 r1 r2 r3 w r6 r7 r8 L Lg x1 zh11
      suffices e : Ev (d + 6, 0, 0, 225, 59, [.val (.ref 1024), .val (.ref 384), .val (.int p2), .val (.int p3), .val (.int x1), .val a_unk], [], (126, 120, L, [Y, T, H, H2, RV, RU, ST, NS, I0, I1, I2, BO_5, FI, RG, GU, PU_6, MA, MN, MS, OT, SC], [r0, r1, r2, r3, w, 192, r6, r7, r8], Lg)) o from ev_call (fun v μ => (d + 6, 0, 0, 225, 59, [.val (.ref 1024), .val (.ref 384), .val (.int p2), .val (.int p3), .val (.int x1), .val a_unk], v.toList ++ [], μ)) 3 ze12 e (fun n => Eq.refl _)
      obtain ⟨zb13, zh14, h⟩ := bnd h
      suffices e : Ev (d + 6, 0, 0, 225, 62, [.val (.ref 1024), .val (.ref 384), .val (.int p2), .val (.int p3), .val (.int x1), .val (.int 0)], [], (126, 120, L, [Y, T, H, H2, RV, RU, ST, NS, I0, I1, I2, BO_5, FI, RG, GU, PU_6, MA, MN, MS, OT, SC], [r0, r1, r2, r3, w, 192, r6, r7, r8], Lg)) o from ev_b 2 e (fun n => Eq.refl _)
      refine ev_loop (δ := Unit) (fun a j => (d + 6, 0, 0, 225, 62, [.val (.ref 1024), .val (.ref 384), .val (.int p2), .val (.int p3), .val (.int x1), .val (.int a.1)], [], (126, 120, L, [Y, T, H, H2, RV, a.2.1, ST, NS, I0, I1, I2, a.2.2.1, FI, RG, GU, a.2.2.2, MA, MN, MS, OT, SC], [r0, r1, r2, r3, w, 192, r6, r7, r8], Lg))) (fun b => Ev (d + 6, 0, 0, 225, 89, [.val (.ref 1024), .val (.ref 384), .val (.int p2), .val (.int p3), .val (.int x1), .val (.int b.1)], [], (126, 120, L, [Y, T, H, H2, RV, b.2.1, ST, NS, I0, I1, I2, b.2.2.1, FI, RG, GU, b.2.2.2, MA, MN, MS, OT, SC], [r0, r1, r2, r3, w, 192, r6, r7, r8], Lg)) o) ?_ a_F (0, RU, BO_5, PU_6) zb13 zh14 ?_ ()
      · rintro ⟨v7, RU_8, BO_9, PU_10⟩ zr18 zh17 zi15 zx16 ⟨⟩
        have zh17 : f_Pusher_run_l62 H v7 RU_8 BO_9 PU_10 = some zr18 := zh17
        by_cases zc19 : (PU_10 0 2) ≤ 0
        · have zh17 := itp zh17 zc19
          suffices e : Ev (d + 6, 0, 0, 225, 89, [.val (.ref 1024), .val (.ref 384), .val (.int p2), .val (.int p3), .val (.int x1), .val (.int v7)], [], (126, 120, L, [Y, T, H, H2, RV, RU_8, ST, NS, I0, I1, I2, BO_9, FI, RG, GU, PU_10, MA, MN, MS, OT, SC], [r0, r1, r2, r3, w, 192, r6, r7, r8], Lg)) o from ev_t (c := (PU_10 0 2) ≤ 0) _ _ 3  zc19 e (fun n => Eq.refl _)
          exact ev_b 0 (zx16 _ (Option.some.inj zh17).symm ) (fun n => Eq.refl _)
        · have zh17 := itn zh17 zc19
          suffices e : Ev (d + 6, 0, 0, 225, 69, [.val (.ref 1024), .val (.ref 384), .val (.int p2), .val (.int p3), .val (.int x1), .val (.int v7)], [], (126, 120, L, [Y, T, H, H2, RV, RU_8, ST, NS, I0, I1, I2, BO_9, FI, RG, GU, PU_10, MA, MN, MS, OT, SC], [r0, r1, r2, r3, w, 192, r6, r7, r8], Lg)) o from ev_f (c := (PU_10 0 2) ≤ 0) _ _ 3  zc19 e (fun n => Eq.refl _)
          by_cases zc20 : 100 ≤ v7
          · have zh17 := itp zh17 zc20
            suffices e : Ev (d + 6, 0, 0, 225, 89, [.val (.ref 1024), .val (.ref 384), .val (.int p2), .val (.int p3), .val (.int x1), .val (.int v7)], [], (126, 120, L, [Y, T, H, H2, RV, RU_8, ST, NS, I0, I1, I2, BO_9, FI, RG, GU, PU_10, MA, MN, MS, OT, SC], [r0, r1, r2, r3, w, 192, r6, r7, r8], Lg)) o from ev_t (c := 100 ≤ v7) _ _ 3  zc20 e (fun n => Eq.refl _)
            exact ev_b 0 (zx16 _ (Option.some.inj zh17).symm ) (fun n => Eq.refl _)
          · have zh17 := itn zh17 zc20
            suffices e : Ev (d + 6, 0, 0, 225, 76, [.val (.ref 1024), .val (.ref 384), .val (.int p2), .val (.int p3), .val (.int x1), .val (.int v7)], [], (126, 120, L, [Y, T, H, H2, RV, RU_8, ST, NS, I0, I1, I2, BO_9, FI, RG, GU, PU_10, MA, MN, MS, OT, SC], [r0, r1, r2, r3, w, 192, r6, r7, r8], Lg)) o from ev_f (c := 100 ≤ v7) _ _ 3  zc20 e (fun n => Eq.refl _)
            obtain ⟨⟨RU_11, BO_12, PU_13⟩, zh21, zh17⟩ := bnd zh17
            have zh21 : f_Pusher_look H RU_8 BO_9 PU_10 v7 = some (RU_11, BO_12, PU_13) := zh21
            have ze22 := R_f_Pusher_look_1 (d + 0) Y T H H2 RV RU_8 ST NS I0 I1 I2 BO_9 FI RG GU PU_10 MA MN MS OT SC r0 r1 r2 r3 w r6 r7 r8 L Lg v7 zh21
            suffices e : Ev (d + 6, 0, 0, 225, 83, [.val (.ref 1024), .val (.ref 384), .val (.int p2), .val (.int p3), .val (.int x1), .val (.int v7)], [], (126, 120, L, [Y, T, H, H2, RV, RU_11, ST, NS, I0, I1, I2, BO_12, FI, RG, GU, PU_13, MA, MN, MS, OT, SC], [r0, r1, r2, r3, w, 192, r6, r7, r8], Lg)) o from ev_call (fun v μ => (d + 6, 0, 0, 225, 83, [.val (.ref 1024), .val (.ref 384), .val (.int p2), .val (.int p3), .val (.int x1), .val (.int v7)], v.toList ++ [], μ)) 4 ze22 e (fun n => Eq.refl _)
            exact ev_b 2 (zi15 _ (Option.some.inj zh17).symm ()) (fun n => Eq.refl _)
      · obtain ⟨v14, RU_15, BO_16, PU_17⟩ := zb13
        have ze23 := Option.some.inj h
        subst ze23
        exact ev_rete 2 ho (fun n => Eq.refl _)
    · have h := itn h zc9
      suffices e : Ev (d + 6, 0, 0, 225, 41, [.val (.ref 1024), .val (.ref 384), .val (.int p2), .val (.int p3), .val (.int x1), .val a_unk], [], (126, 120, L, [Y, T, H, H2, RV, RU, ST, NS, I0, I1, I2, BO, FI, RG, GU, (u2 PU 0 2 0), MA, MN, MS, OT, SC], [r0, r1, r2, r3, w, 192, r6, r7, r8], Lg)) o from ev_f (c := x3 ≠ 0) _ _ 1  zc9 e (fun n => Eq.refl _)
      have ze24 := Option.some.inj h
      subst ze24
      exact ev_rete 2 ho (fun n => Eq.refl _)
set_option maxRecDepth 1000000 in
set_option maxHeartbeats 4000000 in
theorem R_f_Y_pushes_1 (d : Nat) (Y T H H2 RV RU ST NS I0 I1 I2 BO FI RG GU PU MA MN MS OT SC : Nat → Nat → Int32) (w r5 : Nat) (L : Nat) (Lg : Int64) (p1 : Int32) (p2 : Int32) (p3 : Int32) (p4 : Int32) {r : Nat × Int32 × (Nat → Nat → Int32) × (Nat → Nat → Int32) × (Nat → Nat → Int32) × (Nat → Nat → Int32) × Nat} (h : f_Y_pushes Y H RU NS BO PU 192 r5 p1 p2 p3 p4 = some r) : Ev (d + 7, 4, 32, 323, 0, [.val (.ref 64), .val (.int p1), .val (.int p2), .val (.int p3), .val (.int p4), .val a_unk, .val a_unk], [], (126, 120, L, [Y, T, H, H2, RV, RU, ST, NS, I0, I1, I2, BO, FI, RG, GU, PU, MA, MN, MS, OT, SC], [192, 256, 384, 320, w, r5, 576, 640, 704], Lg)) ((r.1, a_ov r.1 (.int r.2.1), (126, 120, L, [r.2.2.1, T, H, H2, RV, r.2.2.2.1, ST, NS, I0, I1, I2, r.2.2.2.2.1, FI, RG, GU, r.2.2.2.2.2.1, MA, MN, MS, OT, SC], [192, 256, 384, 320, w, r.2.2.2.2.2.2, 576, 640, 704], Lg)) : AOut) := by
  suffices key : ∀ o : AOut, ((r.1, a_ov r.1 (.int r.2.1), (126, 120, L, [r.2.2.1, T, H, H2, RV, r.2.2.2.1, ST, NS, I0, I1, I2, r.2.2.2.2.1, FI, RG, GU, r.2.2.2.2.2.1, MA, MN, MS, OT, SC], [192, 256, 384, 320, w, r.2.2.2.2.2.2, 576, 640, 704], Lg)) : AOut) = o → Ev (d + 7, 4, 32, 323, 0, [.val (.ref 64), .val (.int p1), .val (.int p2), .val (.int p3), .val (.int p4), .val a_unk, .val a_unk], [], (126, 120, L, [Y, T, H, H2, RV, RU, ST, NS, I0, I1, I2, BO, FI, RG, GU, PU, MA, MN, MS, OT, SC], [192, 256, 384, 320, w, r5, 576, 640, 704], Lg)) o from key _ rfl
  intro o ho
  obtain ⟨⟨q1, Y_2⟩, zh1, h⟩ := bnd h
  have zh1 : f_Y_needPlace Y H p1 p2 p3 = some (q1, Y_2) := zh1
  have ze2 := R_f_Y_needPlace_1 (d + 4) Y T H H2 RV RU ST NS I0 I1 I2 BO FI RG GU PU MA MN MS OT SC w r5 L Lg p1 p2 p3 zh1
  cases q1 with
  | zero =>
    have h := itp h rfl
    suffices e : Ev (d + 7, 1, 8, 323, 7, [.val (.ref 64), .val (.int p1), .val (.int p2), .val (.int p3), .val (.int p4), .val a_unk, .val a_unk], [], (126, 120, L, [Y_2, T, H, H2, RV, RU, ST, NS, I0, I1, I2, BO, FI, RG, GU, PU, MA, MN, MS, OT, SC], [192, 256, 384, 320, w, r5, 576, 640, 704], Lg)) o from ev_call (fun v μ => (d + 7, 1, 8, 323, 7, [.val (.ref 64), .val (.int p1), .val (.int p2), .val (.int p3), .val (.int p4), .val a_unk, .val a_unk], v.toList ++ [], μ)) 5 ze2 e (fun n => Eq.refl _)
    obtain ⟨zt3, zh4, h⟩ := bnd h
    have zj5 : ∀ (v3 : Int32), v3 = zt3 → Ev (d + 7, 1, 8, 323, 24, [.val (.ref 64), .val (.int p1), .val (.int p2), .val (.int p3), .val (.int p4), .val a_unk, .val a_unk], [.int v3, .ref 64], (126, 120, L, [Y_2, T, H, H2, RV, RU, ST, NS, I0, I1, I2, BO, FI, RG, GU, PU, MA, MN, MS, OT, SC], [192, 256, 384, 320, w, r5, 576, 640, 704], Lg)) o := by
      intro v3 ze6
      subst ze6
      obtain ⟨⟨q4, Y_5⟩, zh7, h⟩ := bnd h
      have zh7 : f_Y_refuseUnless Y_2 v3 = some (q4, Y_5) := zh7
      have ze8 := R_f_Y_refuseUnless_1 (d + 6) Y_2 T H H2 RV RU ST NS I0 I1 I2 BO FI RG GU PU MA MN MS OT SC w r5 L Lg v3 zh7
      cases q4 with
      | zero =>
        have h := itp h rfl
        suffices e : Ev (d + 7, 0, 0, 323, 27, [.val (.ref 64), .val (.int p1), .val (.int p2), .val (.int p3), .val (.int p4), .val a_unk, .val a_unk], [], (126, 120, L, [Y_5, T, H, H2, RV, RU, ST, NS, I0, I1, I2, BO, FI, RG, GU, PU, MA, MN, MS, OT, SC], [192, 256, 384, 320, w, r5, 576, 640, 704], Lg)) o from ev_call (fun v μ => (d + 7, 0, 0, 323, 27, [.val (.ref 64), .val (.int p1), .val (.int p2), .val (.int p3), .val (.int p4), .val a_unk, .val a_unk], v.toList ++ [], μ)) 1 ze8 e (fun n => Eq.refl _)
        obtain ⟨BO_7, zh9, h⟩ := bnd h
        have zh9 : f_Y_lookNow H NS BO = some BO_7 := zh9
        have ze10 := R_f_Y_lookNow_1 (d + 4) Y_5 T H H2 RV RU ST NS I0 I1 I2 BO FI RG GU PU MA MN MS OT SC w r5 L Lg zh9
        suffices e : Ev (d + 7, 0, 0, 323, 31, [.val (.ref 64), .val (.int p1), .val (.int p2), .val (.int p3), .val (.int p4), .val a_unk, .val a_unk], [.ref 768], (126, 120, L, [Y_5, T, H, H2, RV, RU, ST, NS, I0, I1, I2, BO_7, FI, RG, GU, PU, MA, MN, MS, OT, SC], [192, 256, 384, 320, w, 192, 576, 640, 704], Lg)) o from ev_call (fun v μ => (d + 7, 0, 0, 323, 31, [.val (.ref 64), .val (.int p1), .val (.int p2), .val (.int p3), .val (.int p4), .val a_unk, .val a_unk], v.toList ++ [], μ)) 2 ze10 e (fun n => Eq.refl _)
        suffices e : Ev (d + 7, 0, 0, 323, 41, [.val (.ref 64), .val (.int p1), .val (.int p2), .val (.int p3), .val (.int p4), .val (.ref 768), .val a_unk], [.ref 384, .ref 1024], (126, 120, L, [Y_5, T, H, H2, RV, RU, ST, NS, I0, I1, I2, BO_7, FI, RG, GU, PU, MA, MN, MS, OT, SC], [192, 256, 384, 320, w, 192, 576, 640, 704], Lg)) o from ev_b 5 e (fun n => Eq.refl _)
        obtain ⟨x8, zh11, h⟩ := bnd h
        have zh11 : f_Y_placeOf p2 p3 = some x8 := zh11
        have ze12 := R_f_Y_placeOf_0 (d + 6) Y_5 T H H2 RV RU ST NS I0 I1 I2 BO_7 FI RG GU PU MA MN MS OT SC 192 256 384 320 w 192 576 640 704 L Lg p2 p3 zh11
        suffices e : Ev (d + 7, 0, 0, 323, 47, [.val (.ref 64), .val (.int p1), .val (.int p2), .val (.int p3), .val (.int p4), .val (.ref 768), .val a_unk], [.int x8, .int p1, .ref 384, .ref 1024], (126, 120, L, [Y_5, T, H, H2, RV, RU, ST, NS, I0, I1, I2, BO_7, FI, RG, GU, PU, MA, MN, MS, OT, SC], [192, 256, 384, 320, w, 192, 576, 640, 704], Lg)) o from ev_call (fun v μ => (d + 7, 0, 0, 323, 47, [.val (.ref 64), .val (.int p1), .val (.int p2), .val (.int p3), .val (.int p4), .val (.ref 768), .val a_unk], v.toList ++ [.int p1, .ref 384, .ref 1024], μ)) 4 ze12 e (fun n => Eq.refl _)
        obtain ⟨⟨x9, RU_10, BO_11, PU_12⟩, zh13, h⟩ := bnd h
        have zh13 : f_Pusher_run H RU BO_7 PU p1 x8 = some (x9, RU_10, BO_11, PU_12) := zh13
        have ze14 := R_f_Pusher_run_1 (d + 0) Y_5 T H H2 RV RU ST NS I0 I1 I2 BO_7 FI RG GU PU MA MN MS OT SC 192 256 384 320 w 576 640 704 L Lg p1 x8 zh13
        suffices e : Ev (d + 7, 0, 0, 323, 50, [.val (.ref 64), .val (.int p1), .val (.int p2), .val (.int p3), .val (.int p4), .val (.ref 768), .val a_unk], [.int x9], (126, 120, L, [Y_5, T, H, H2, RV, RU_10, ST, NS, I0, I1, I2, BO_11, FI, RG, GU, PU_12, MA, MN, MS, OT, SC], [192, 256, 384, 320, w, 192, 576, 640, 704], Lg)) o from ev_call (fun v μ => (d + 7, 0, 0, 323, 50, [.val (.ref 64), .val (.int p1), .val (.int p2), .val (.int p3), .val (.int p4), .val (.ref 768), .val a_unk], v.toList ++ [], μ)) 1 ze14 e (fun n => Eq.refl _)
        by_cases zc15 : x9 = (-1)
        · have h := itp h zc15
          suffices e : Ev (d + 7, 0, 0, 323, 63, [.val (.ref 64), .val (.int p1), .val (.int p2), .val (.int p3), .val (.int p4), .val (.ref 768), .val (.int x9)], [], (126, 120, L, [Y_5, T, H, H2, RV, RU_10, ST, NS, I0, I1, I2, BO_11, FI, RG, GU, PU_12, MA, MN, MS, OT, SC], [192, 256, 384, 320, w, 192, 576, 640, 704], Lg)) o from ev_t (c := x9 = (-1)) _ _ 4  zc15 e (fun n => Eq.refl _)
          have ze16 := Option.some.inj h
          subst ze16
          exact ev_rete 2 ho (fun n => Eq.refl _)
        · have h := itn h zc15
          suffices e : Ev (d + 7, 0, 0, 323, 58, [.val (.ref 64), .val (.int p1), .val (.int p2), .val (.int p3), .val (.int p4), .val (.ref 768), .val (.int x9)], [], (126, 120, L, [Y_5, T, H, H2, RV, RU_10, ST, NS, I0, I1, I2, BO_11, FI, RG, GU, PU_12, MA, MN, MS, OT, SC], [192, 256, 384, 320, w, 192, 576, 640, 704], Lg)) o from ev_f (c := x9 = (-1)) _ _ 4  zc15 e (fun n => Eq.refl _)
          by_cases zc17 : p4 ≠ 0
          · have h := itp h zc17
            suffices e : Ev (d + 7, 0, 0, 323, 66, [.val (.ref 64), .val (.int p1), .val (.int p2), .val (.int p3), .val (.int p4), .val (.ref 768), .val (.int x9)], [], (126, 120, L, [Y_5, T, H, H2, RV, RU_10, ST, NS, I0, I1, I2, BO_11, FI, RG, GU, PU_12, MA, MN, MS, OT, SC], [192, 256, 384, 320, w, 192, 576, 640, 704], Lg)) o from ev_t (c := p4 ≠ 0) _ _ 2  zc17 e (fun n => Eq.refl _)
            by_cases zc18 : p4 ≠ 1
            · have h := itp h zc18
              suffices e : Ev (d + 7, 0, 0, 323, 88, [.val (.ref 64), .val (.int p1), .val (.int p2), .val (.int p3), .val (.int p4), .val (.ref 768), .val (.int x9)], [], (126, 120, L, [Y_5, T, H, H2, RV, RU_10, ST, NS, I0, I1, I2, BO_11, FI, RG, GU, PU_12, MA, MN, MS, OT, SC], [192, 256, 384, 320, w, 192, 576, 640, 704], Lg)) o from ev_t (c := p4 ≠ 1) _ _ 3  zc18 e (fun n => Eq.refl _)
              obtain ⟨x13, zh19, h⟩ := bnd h
              have zh19 : f_Board_elsewhere H BO_11 (NS 1) = some x13 := zh19
              have ze20 := R_f_Board_elsewhere_0 (d + 6) Y_5 T H H2 RV RU_10 ST NS I0 I1 I2 BO_11 FI RG GU PU_12 MA MN MS OT SC 192 256 384 320 w 576 640 704 L Lg zh19
              suffices e : Ev (d + 7, 0, 0, 323, 100, [.val (.ref 64), .val (.int p1), .val (.int p2), .val (.int p3), .val (.int p4), .val (.ref 768), .val (.int x9)], [.int x13], (126, 120, L, [Y_5, T, H, H2, RV, RU_10, ST, NS, I0, I1, I2, BO_11, FI, RG, GU, PU_12, MA, MN, MS, OT, SC], [192, 256, 384, 320, w, 192, 576, 640, 704], Lg)) o from ev_call (fun v μ => (d + 7, 0, 0, 323, 100, [.val (.ref 64), .val (.int p1), .val (.int p2), .val (.int p3), .val (.int p4), .val (.ref 768), .val (.int x9)], v.toList ++ [], μ)) 5 ze20 e (fun n => Eq.refl _)
              obtain ⟨x14, zh21, h⟩ := bnd h
              have zh21 : f_Board_placed H BO_11 = some x14 := zh21
              have ze22 := R_f_Board_placed_0 (d + 6) Y_5 T H H2 RV RU_10 ST NS I0 I1 I2 BO_11 FI RG GU PU_12 MA MN MS OT SC 192 256 384 320 w 576 640 704 L Lg zh21
              suffices e : Ev (d + 7, 0, 0, 323, 105, [.val (.ref 64), .val (.int p1), .val (.int p2), .val (.int p3), .val (.int p4), .val (.ref 768), .val (.int x9)], [.int x14, .int x13], (126, 120, L, [Y_5, T, H, H2, RV, RU_10, ST, NS, I0, I1, I2, BO_11, FI, RG, GU, PU_12, MA, MN, MS, OT, SC], [192, 256, 384, 320, w, 192, 576, 640, 704], Lg)) o from ev_call (fun v μ => (d + 7, 0, 0, 323, 105, [.val (.ref 64), .val (.int p1), .val (.int p2), .val (.int p3), .val (.int p4), .val (.ref 768), .val (.int x9)], v.toList ++ [.int x13], μ)) 2 ze22 e (fun n => Eq.refl _)
              have ze23 := Option.some.inj h
              subst ze23
              exact ev_rete 4 ho (fun n => Eq.refl _)
            · have h := itn h zc18
              suffices e : Ev (d + 7, 0, 0, 323, 72, [.val (.ref 64), .val (.int p1), .val (.int p2), .val (.int p3), .val (.int p4), .val (.ref 768), .val (.int x9)], [], (126, 120, L, [Y_5, T, H, H2, RV, RU_10, ST, NS, I0, I1, I2, BO_11, FI, RG, GU, PU_12, MA, MN, MS, OT, SC], [192, 256, 384, 320, w, 192, 576, 640, 704], Lg)) o from ev_f (c := p4 ≠ 1) _ _ 3  zc18 e (fun n => Eq.refl _)
              obtain ⟨x15, zh24, h⟩ := bnd h
              have zh24 : f_Board_elsewhere H BO_11 (NS 1) = some x15 := zh24
              have ze25 := R_f_Board_elsewhere_0 (d + 6) Y_5 T H H2 RV RU_10 ST NS I0 I1 I2 BO_11 FI RG GU PU_12 MA MN MS OT SC 192 256 384 320 w 576 640 704 L Lg zh24
              suffices e : Ev (d + 7, 0, 0, 323, 84, [.val (.ref 64), .val (.int p1), .val (.int p2), .val (.int p3), .val (.int p4), .val (.ref 768), .val (.int x9)], [.int x15], (126, 120, L, [Y_5, T, H, H2, RV, RU_10, ST, NS, I0, I1, I2, BO_11, FI, RG, GU, PU_12, MA, MN, MS, OT, SC], [192, 256, 384, 320, w, 192, 576, 640, 704], Lg)) o from ev_call (fun v μ => (d + 7, 0, 0, 323, 84, [.val (.ref 64), .val (.int p1), .val (.int p2), .val (.int p3), .val (.int p4), .val (.ref 768), .val (.int x9)], v.toList ++ [], μ)) 5 ze25 e (fun n => Eq.refl _)
              obtain ⟨x16, zh26, h⟩ := bnd h
              have zh26 : f_Integer_bitCount x15 = some x16 := zh26
              have ze27 := R_f_Integer_bitCount_0 (d + 6) Y_5 T H H2 RV RU_10 ST NS I0 I1 I2 BO_11 FI RG GU PU_12 MA MN MS OT SC 192 256 384 320 w 192 576 640 704 L Lg x15 zh26
              suffices e : Ev (d + 7, 0, 0, 323, 87, [.val (.ref 64), .val (.int p1), .val (.int p2), .val (.int p3), .val (.int p4), .val (.ref 768), .val (.int x9)], [.int x16], (126, 120, L, [Y_5, T, H, H2, RV, RU_10, ST, NS, I0, I1, I2, BO_11, FI, RG, GU, PU_12, MA, MN, MS, OT, SC], [192, 256, 384, 320, w, 192, 576, 640, 704], Lg)) o from ev_call (fun v μ => (d + 7, 0, 0, 323, 87, [.val (.ref 64), .val (.int p1), .val (.int p2), .val (.int p3), .val (.int p4), .val (.ref 768), .val (.int x9)], v.toList ++ [], μ)) 1 ze27 e (fun n => Eq.refl _)
              have ze28 := Option.some.inj h
              subst ze28
              exact ev_rete 1 ho (fun n => Eq.refl _)
          · have h := itn h zc17
            suffices e : Ev (d + 7, 0, 0, 323, 63, [.val (.ref 64), .val (.int p1), .val (.int p2), .val (.int p3), .val (.int p4), .val (.ref 768), .val (.int x9)], [], (126, 120, L, [Y_5, T, H, H2, RV, RU_10, ST, NS, I0, I1, I2, BO_11, FI, RG, GU, PU_12, MA, MN, MS, OT, SC], [192, 256, 384, 320, w, 192, 576, 640, 704], Lg)) o from ev_f (c := p4 ≠ 0) _ _ 2  zc17 e (fun n => Eq.refl _)
            have ze29 := Option.some.inj h
            subst ze29
            exact ev_rete 2 ho (fun n => Eq.refl _)
      | succ q4 =>
        have h := itn h (Nat.succ_ne_zero q4)
        have ze30 := Option.some.inj h
        subst ze30
        subst ho
        exact ev_thr (fun v μ => (d + 7, 0, 0, 323, 27, [.val (.ref 64), .val (.int p1), .val (.int p2), .val (.int p3), .val (.int p4), .val a_unk, .val a_unk], v.toList ++ [], μ)) 1 ze8 (fun n => Eq.refl _) (fun n => rfl)
    obtain ⟨zt31, zh32, zh4⟩ := bnd zh4
    have zj33 : zt31 = .inl () → Ev (d + 7, 1, 8, 323, 23, [.val (.ref 64), .val (.int p1), .val (.int p2), .val (.int p3), .val (.int p4), .val a_unk, .val a_unk], [.ref 64], (126, 120, L, [Y_2, T, H, H2, RV, RU, ST, NS, I0, I1, I2, BO, FI, RG, GU, PU, MA, MN, MS, OT, SC], [192, 256, 384, 320, w, r5, 576, 640, 704], Lg)) o := by
      intro ze34
      have zh4 := sum_l zh4 ze34
      exact ev_b 1 (zj5 0 (Option.some.inj zh4) ) (fun n => Eq.refl _)
    by_cases zc35 : p4 < 0
    · have zh32 := itp zh32 zc35
      suffices e : Ev (d + 7, 1, 8, 323, 23, [.val (.ref 64), .val (.int p1), .val (.int p2), .val (.int p3), .val (.int p4), .val a_unk, .val a_unk], [.ref 64], (126, 120, L, [Y_2, T, H, H2, RV, RU, ST, NS, I0, I1, I2, BO, FI, RG, GU, PU, MA, MN, MS, OT, SC], [192, 256, 384, 320, w, r5, 576, 640, 704], Lg)) o from ev_t (c := p4 < 0) _ _ 3  zc35 e (fun n => Eq.refl _)
      exact ev_b 0 (zj33  (Option.some.inj zh32).symm ) (fun n => Eq.refl _)
    · have zh32 := itn zh32 zc35
      suffices e : Ev (d + 7, 1, 8, 323, 13, [.val (.ref 64), .val (.int p1), .val (.int p2), .val (.int p3), .val (.int p4), .val a_unk, .val a_unk], [.ref 64], (126, 120, L, [Y_2, T, H, H2, RV, RU, ST, NS, I0, I1, I2, BO, FI, RG, GU, PU, MA, MN, MS, OT, SC], [192, 256, 384, 320, w, r5, 576, 640, 704], Lg)) o from ev_f (c := p4 < 0) _ _ 3  zc35 e (fun n => Eq.refl _)
      by_cases zc36 : 2 < p4
      · have zh32 := itp zh32 zc36
        suffices e : Ev (d + 7, 1, 8, 323, 23, [.val (.ref 64), .val (.int p1), .val (.int p2), .val (.int p3), .val (.int p4), .val a_unk, .val a_unk], [.ref 64], (126, 120, L, [Y_2, T, H, H2, RV, RU, ST, NS, I0, I1, I2, BO, FI, RG, GU, PU, MA, MN, MS, OT, SC], [192, 256, 384, 320, w, r5, 576, 640, 704], Lg)) o from ev_t (c := 2 < p4) _ _ 3  zc36 e (fun n => Eq.refl _)
        exact ev_b 0 (zj33  (Option.some.inj zh32).symm ) (fun n => Eq.refl _)
      · have zh32 := itn zh32 zc36
        suffices e : Ev (d + 7, 1, 8, 323, 19, [.val (.ref 64), .val (.int p1), .val (.int p2), .val (.int p3), .val (.int p4), .val a_unk, .val a_unk], [.ref 64], (126, 120, L, [Y_2, T, H, H2, RV, RU, ST, NS, I0, I1, I2, BO, FI, RG, GU, PU, MA, MN, MS, OT, SC], [192, 256, 384, 320, w, r5, 576, 640, 704], Lg)) o from ev_f (c := 2 < p4) _ _ 3  zc36 e (fun n => Eq.refl _)
        have zh37 := sum_r zh4 (Option.some.inj zh32).symm
        exact ev_b 2 (zj5 1 (Option.some.inj zh37) ) (fun n => Eq.refl _)
  | succ q1 =>
    have h := itn h (Nat.succ_ne_zero q1)
    have ze38 := Option.some.inj h
    subst ze38
    subst ho
    exact ev_thr (fun v μ => (d + 7, 1, 8, 323, 7, [.val (.ref 64), .val (.int p1), .val (.int p2), .val (.int p3), .val (.int p4), .val a_unk, .val a_unk], v.toList ++ [], μ)) 5 ze2 (fun n => Eq.refl _) (fun n => rfl)
