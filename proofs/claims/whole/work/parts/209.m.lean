/-! printed by program (gen/emitm.py): the reference's methods run as their functions say -/
set_option maxRecDepth 1000000 in
set_option maxHeartbeats 4000000 in
theorem R_f_M_order_0 (d : Nat) (Y T HA HB RA RB ST NS I0 I1 I2 BO FI RG GU PU MA MN MS OT SC : Nat → Nat → Int32) (r0 r1 r2 r3 w r5 r6 r7 r8 : Nat) (L : Nat) (Lg : Int64) (p1 : Int32) {r : Int64 × (Nat → Nat → Int32) × (Nat → Nat → Int32)} (h : f_M_order MA MS p1 = some r) : Ev (d + 17, 0, 0, 112, 0, [.val (.ref 1088), .val (.int p1), .val a_unk, .val a_unk, .val a_unk, .val a_unk, .val a_unk], [], (126, 120, L, [Y, T, HA, HB, RA, RB, ST, NS, I0, I1, I2, BO, FI, RG, GU, PU, MA, MN, MS, OT, SC], [r0, r1, r2, r3, w, r5, r6, r7, r8], Lg)) ((0, some (.long r.1), (126, 120, L, [Y, T, HA, HB, RA, RB, ST, NS, I0, I1, I2, BO, FI, RG, GU, PU, r.2.1, MN, r.2.2, OT, SC], [r0, r1, r2, r3, w, r5, r6, r7, r8], Lg)) : AOut) := by
  suffices key : ∀ o : AOut, ((0, some (.long r.1), (126, 120, L, [Y, T, HA, HB, RA, RB, ST, NS, I0, I1, I2, BO, FI, RG, GU, PU, r.2.1, MN, r.2.2, OT, SC], [r0, r1, r2, r3, w, r5, r6, r7, r8], Lg)) : AOut) = o → Ev (d + 17, 0, 0, 112, 0, [.val (.ref 1088), .val (.int p1), .val a_unk, .val a_unk, .val a_unk, .val a_unk, .val a_unk], [], (126, 120, L, [Y, T, HA, HB, RA, RB, ST, NS, I0, I1, I2, BO, FI, RG, GU, PU, MA, MN, MS, OT, SC], [r0, r1, r2, r3, w, r5, r6, r7, r8], Lg)) o from key _ rfl
  intro o ho
  obtain ⟨x1, zh1, h⟩ := bnd h
  have zh1 : f_M_within p1 0 1 = some x1 := zh1
  have ze2 := R_f_M_within_0 (d + 16) Y T HA HB RA RB ST NS I0 I1 I2 BO FI RG GU PU (u2 MA 0 0 0) MN MS OT SC r0 r1 r2 r3 w r5 r6 r7 r8 L Lg p1 0 1 zh1
  suffices e : Ev (d + 17, 0, 0, 112, 12, [.val (.ref 1088), .val (.int p1), .val a_unk, .val a_unk, .val a_unk, .val a_unk, .val a_unk], [.int x1, .ref 1088], (126, 120, L, [Y, T, HA, HB, RA, RB, ST, NS, I0, I1, I2, BO, FI, RG, GU, PU, (u2 MA 0 0 0), MN, MS, OT, SC], [r0, r1, r2, r3, w, r5, r6, r7, r8], Lg)) o from ev_call (fun v μ => (d + 17, 0, 0, 112, 12, [.val (.ref 1088), .val (.int p1), .val a_unk, .val a_unk, .val a_unk, .val a_unk, .val a_unk], v.toList ++ [.ref 1088], μ)) 8 ze2 e (fun n => Eq.refl _)
  obtain ⟨⟨x2, MA_3⟩, zh3, h⟩ := bnd h
  have zh3 : f_M_may (u2 MA 0 0 0) x1 1 1 = some (x2, MA_3) := zh3
  have ze4 := R_f_M_may_0 (d + 16) Y T HA HB RA RB ST NS I0 I1 I2 BO FI RG GU PU (u2 MA 0 0 0) MN MS OT SC r0 r1 r2 r3 w r5 r6 r7 r8 L Lg x1 1 1 zh3
  suffices e : Ev (d + 17, 0, 0, 112, 17, [.val (.ref 1088), .val (.int p1), .val a_unk, .val a_unk, .val a_unk, .val a_unk, .val a_unk], [.int x2], (126, 120, L, [Y, T, HA, HB, RA, RB, ST, NS, I0, I1, I2, BO, FI, RG, GU, PU, MA_3, MN, MS, OT, SC], [r0, r1, r2, r3, w, r5, r6, r7, r8], Lg)) o from ev_call (fun v μ => (d + 17, 0, 0, 112, 17, [.val (.ref 1088), .val (.int p1), .val a_unk, .val a_unk, .val a_unk, .val a_unk, .val a_unk], v.toList ++ [], μ)) 3 ze4 e (fun n => Eq.refl _)
  by_cases zc5 : x2 ≠ 0
  · have h := itp h zc5
    suffices e : Ev (d + 17, 0, 0, 112, 22, [.val (.ref 1088), .val (.int p1), .val a_unk, .val a_unk, .val a_unk, .val a_unk, .val a_unk], [], (126, 120, L, [Y, T, HA, HB, RA, RB, ST, NS, I0, I1, I2, BO, FI, RG, GU, PU, MA_3, MN, MS, OT, SC], [r0, r1, r2, r3, w, r5, r6, r7, r8], Lg)) o from ev_t (c := x2 ≠ 0) _ _ 1  zc5 e (fun n => Eq.refl _)
    obtain ⟨⟨x4, MS_5⟩, zh6, h⟩ := bnd h
    have zh6 : f_M_apartNow MA_3 MS = some (x4, MS_5) := zh6
    have ze7 := R_f_M_apartNow_0 (d + 14) Y T HA HB RA RB ST NS I0 I1 I2 BO FI RG GU PU MA_3 MN MS OT SC r0 r1 r2 r3 w r5 r6 r7 r8 L Lg zh6
    suffices e : Ev (d + 17, 0, 0, 112, 26, [.val (.ref 1088), .val (.int p1), .val a_unk, .val a_unk, .val a_unk, .val a_unk, .val a_unk], [.int x4], (126, 120, L, [Y, T, HA, HB, RA, RB, ST, NS, I0, I1, I2, BO, FI, RG, GU, PU, MA_3, MN, MS_5, OT, SC], [r0, r1, r2, r3, w, r5, r6, r7, r8], Lg)) o from ev_call (fun v μ => (d + 17, 0, 0, 112, 26, [.val (.ref 1088), .val (.int p1), .val a_unk, .val a_unk, .val a_unk, .val a_unk, .val a_unk], v.toList ++ [], μ)) 2 ze7 e (fun n => Eq.refl _)
    obtain ⟨MS_10, zh9, h⟩ := bnd h
    suffices e : Ev (d + 17, 0, 0, 112, 29, [.val (.ref 1088), .val (.int p1), .val (.int x4), .val (.int 0), .val a_unk, .val a_unk, .val a_unk], [], (126, 120, L, [Y, T, HA, HB, RA, RB, ST, NS, I0, I1, I2, BO, FI, RG, GU, PU, MA_3, MN, MS_5, OT, SC], [r0, r1, r2, r3, w, r5, r6, r7, r8], Lg)) o from ev_b 3 e (fun n => Eq.refl _)
    refine ev_loop (δ := Unit) (fun a j => (d + 17, 0, 0, 112, 29, [.val (.ref 1088), .val (.int p1), .val (.int x4), .val (.int a.1), .val a_unk, .val a_unk, .val a_unk], [], (126, 120, L, [Y, T, HA, HB, RA, RB, ST, NS, I0, I1, I2, BO, FI, RG, GU, PU, MA_3, MN, a.2, OT, SC], [r0, r1, r2, r3, w, r5, r6, r7, r8], Lg))) (fun b => ∀ s9 : Value, Ev (d + 17, 0, 0, 112, 52, [.val (.ref 1088), .val (.int p1), .val (.int x4), .val s9, .val a_unk, .val a_unk, .val a_unk], [], (126, 120, L, [Y, T, HA, HB, RA, RB, ST, NS, I0, I1, I2, BO, FI, RG, GU, PU, MA_3, MN, b, OT, SC], [r0, r1, r2, r3, w, r5, r6, r7, r8], Lg)) o) ?_ a_F (0, MS_5) MS_10 zh9 ?_ ()
    · rintro ⟨v6, MS_7⟩ zr13 zh12 zi10 zx11 ⟨⟩
      have zh12 : f_M_order_l29 MA_3 v6 MS_7 = some zr13 := zh12
      by_cases zc14 : (a_shl 1 (MA_3 0 26)) ≤ v6
      · have zh12 := itp zh12 zc14
        suffices e : Ev (d + 17, 0, 0, 112, 52, [.val (.ref 1088), .val (.int p1), .val (.int x4), .val (.int v6), .val a_unk, .val a_unk, .val a_unk], [], (126, 120, L, [Y, T, HA, HB, RA, RB, ST, NS, I0, I1, I2, BO, FI, RG, GU, PU, MA_3, MN, MS_7, OT, SC], [r0, r1, r2, r3, w, r5, r6, r7, r8], Lg)) o from ev_t (c := (a_shl 1 (MA_3 0 26)) ≤ v6) _ _ 6  zc14 e (fun n => Eq.refl _)
        exact ev_b 0 (zx11 _ (Option.some.inj zh12).symm (.int v6)) (fun n => Eq.refl _)
      · have zh12 := itn zh12 zc14
        suffices e : Ev (d + 17, 0, 0, 112, 39, [.val (.ref 1088), .val (.int p1), .val (.int x4), .val (.int v6), .val a_unk, .val a_unk, .val a_unk], [], (126, 120, L, [Y, T, HA, HB, RA, RB, ST, NS, I0, I1, I2, BO, FI, RG, GU, PU, MA_3, MN, MS_7, OT, SC], [r0, r1, r2, r3, w, r5, r6, r7, r8], Lg)) o from ev_f (c := (a_shl 1 (MA_3 0 26)) ≤ v6) _ _ 6  zc14 e (fun n => Eq.refl _)
        obtain ⟨j8, zh15, zh12⟩ := bnd zh12
        have zh15 : ixx 1024 v6 = some j8 := zh15
        suffices e : Ev (d + 17, 0, 0, 112, 46, [.val (.ref 1088), .val (.int p1), .val (.int x4), .val (.int v6), .val a_unk, .val a_unk, .val a_unk], [], (126, 120, L, [Y, T, HA, HB, RA, RB, ST, NS, I0, I1, I2, BO, FI, RG, GU, PU, MA_3, MN, (u2 MS_7 6 j8 0), OT, SC], [r0, r1, r2, r3, w, r5, r6, r7, r8], Lg)) o from ev_opt (fun j8 => (d + 17, 0, 0, 112, 46, [.val (.ref 1088), .val (.int p1), .val (.int x4), .val (.int v6), .val a_unk, .val a_unk, .val a_unk], [], (126, 120, L, [Y, T, HA, HB, RA, RB, ST, NS, I0, I1, I2, BO, FI, RG, GU, PU, MA_3, MN, (u2 MS_7 6 j8 0), OT, SC], [r0, r1, r2, r3, w, r5, r6, r7, r8], Lg))) 5 zh15 e (fun n => Eq.refl _)
        exact ev_b 2 (zi10 _ (Option.some.inj zh12).symm ()) (fun n => Eq.refl _)
    · skip
      intro s9
      obtain ⟨⟨x11, MS_12⟩, zh16, h⟩ := bnd h
      have zh16 : f_grp_mo 12 0 MA_3 MS_10 0 x4 = some (x11, MS_12) := zh16
      have ze17 := (K_grp_mo_0 12) (d + 0) Y T HA HB RA RB ST NS I0 I1 I2 BO FI RG GU PU MA_3 MN MS_10 OT SC r0 r1 r2 r3 w r5 r6 r7 r8 L Lg 0 x4 _ zh16
      suffices e : Ev (d + 17, 0, 0, 112, 58, [.val (.ref 1088), .val (.int p1), .val (.int x4), .val s9, .val a_unk, .val a_unk, .val a_unk], [.int x11], (126, 120, L, [Y, T, HA, HB, RA, RB, ST, NS, I0, I1, I2, BO, FI, RG, GU, PU, MA_3, MN, MS_12, OT, SC], [r0, r1, r2, r3, w, r5, r6, r7, r8], Lg)) o from ev_call (fun v μ => (d + 17, 0, 0, 112, 58, [.val (.ref 1088), .val (.int p1), .val (.int x4), .val s9, .val a_unk, .val a_unk, .val a_unk], v.toList ++ [], μ)) 4 ze17 e (fun n => Eq.refl _)
      by_cases zc18 : x11 ≠ 0
      · have h := itp h zc18
        suffices e : Ev (d + 17, 0, 0, 112, 65, [.val (.ref 1088), .val (.int p1), .val (.int x4), .val s9, .val a_unk, .val a_unk, .val a_unk], [], (126, 120, L, [Y, T, HA, HB, RA, RB, ST, NS, I0, I1, I2, BO, FI, RG, GU, PU, MA_3, MN, MS_12, OT, SC], [r0, r1, r2, r3, w, r5, r6, r7, r8], Lg)) o from ev_t (c := x11 ≠ 0) _ _ 1  zc18 e (fun n => Eq.refl _)
        by_cases zc19 : p1 ≠ 0
        · have h := itp h zc19
          suffices e : Ev (d + 17, 0, 0, 112, 75, [.val (.ref 1088), .val (.int p1), .val (.int x4), .val s9, .val a_unk, .val a_unk, .val a_unk], [], (126, 120, L, [Y, T, HA, HB, RA, RB, ST, NS, I0, I1, I2, BO, FI, RG, GU, PU, MA_3, MN, MS_12, OT, SC], [r0, r1, r2, r3, w, r5, r6, r7, r8], Lg)) o from ev_t (c := p1 ≠ 0) _ _ 2  zc19 e (fun n => Eq.refl _)
          obtain ⟨zb20, zh21, h⟩ := bnd h
          suffices e : Ev (d + 17, 0, 0, 112, 80, [.val (.ref 1088), .val (.int p1), .val (.int x4), .val (.long (0 : Int64)), .second, .val (.int 0), .val a_unk], [], (126, 120, L, [Y, T, HA, HB, RA, RB, ST, NS, I0, I1, I2, BO, FI, RG, GU, PU, MA_3, MN, MS_12, OT, SC], [r0, r1, r2, r3, w, r5, r6, r7, r8], Lg)) o from ev_b 4 e (fun n => Eq.refl _)
          refine ev_loop (δ := Value) (fun a j => (d + 17, 0, 0, 112, 80, [.val (.ref 1088), .val (.int p1), .val (.int x4), .val (.long a.1), .second, .val (.int a.2.1), .val j], [], (126, 120, L, [Y, T, HA, HB, RA, RB, ST, NS, I0, I1, I2, BO, FI, RG, GU, PU, MA_3, MN, a.2.2, OT, SC], [r0, r1, r2, r3, w, r5, r6, r7, r8], Lg))) (fun b => ∀ s26 : Value, ∀ s27 : Value, Ev (d + 17, 0, 0, 112, 144, [.val (.ref 1088), .val (.int p1), .val (.int x4), .val (.long b.1), .second, .val s26, .val s27], [], (126, 120, L, [Y, T, HA, HB, RA, RB, ST, NS, I0, I1, I2, BO, FI, RG, GU, PU, MA_3, MN, b.2, OT, SC], [r0, r1, r2, r3, w, r5, r6, r7, r8], Lg)) o) ?_ a_F ((0 : Int64), 0, MS_12) zb20 zh21 ?_ a_unk
          · rintro ⟨v13, v14, MS_16⟩ zr25 zh24 zi22 zx23 s15
            have zh24 : f_M_order_l80 x4 MA_3 v13 v14 MS_16 = some zr25 := zh24
            by_cases zc26 : v14 = x4
            · have zh24 := itp zh24 zc26
              suffices e : Ev (d + 17, 0, 0, 112, 144, [.val (.ref 1088), .val (.int p1), .val (.int x4), .val (.long v13), .second, .val (.int v14), .val s15], [], (126, 120, L, [Y, T, HA, HB, RA, RB, ST, NS, I0, I1, I2, BO, FI, RG, GU, PU, MA_3, MN, MS_16, OT, SC], [r0, r1, r2, r3, w, r5, r6, r7, r8], Lg)) o from ev_t (c := v14 = x4) _ _ 3  zc26 e (fun n => Eq.refl _)
              exact ev_b 0 (zx23 _ (Option.some.inj zh24).symm (.int v14) s15) (fun n => Eq.refl _)
            · have zh24 := itn zh24 zc26
              suffices e : Ev (d + 17, 0, 0, 112, 86, [.val (.ref 1088), .val (.int p1), .val (.int x4), .val (.long v13), .second, .val (.int v14), .val s15], [], (126, 120, L, [Y, T, HA, HB, RA, RB, ST, NS, I0, I1, I2, BO, FI, RG, GU, PU, MA_3, MN, MS_16, OT, SC], [r0, r1, r2, r3, w, r5, r6, r7, r8], Lg)) o from ev_f (c := v14 = x4) _ _ 3  zc26 e (fun n => Eq.refl _)
              obtain ⟨zb27, zh28, zh24⟩ := bnd zh24
              suffices e : Ev (d + 17, 0, 0, 112, 89, [.val (.ref 1088), .val (.int p1), .val (.int x4), .val (.long v13), .second, .val (.int v14), .val (.int 0)], [], (126, 120, L, [Y, T, HA, HB, RA, RB, ST, NS, I0, I1, I2, BO, FI, RG, GU, PU, MA_3, MN, MS_16, OT, SC], [r0, r1, r2, r3, w, r5, r6, r7, r8], Lg)) o from ev_b 2 e (fun n => Eq.refl _)
              refine ev_loop (δ := Unit) (fun a j => (d + 17, 0, 0, 112, 89, [.val (.ref 1088), .val (.int p1), .val (.int x4), .val (.long v13), .second, .val (.int v14), .val (.int a.1)], [], (126, 120, L, [Y, T, HA, HB, RA, RB, ST, NS, I0, I1, I2, BO, FI, RG, GU, PU, MA_3, MN, a.2, OT, SC], [r0, r1, r2, r3, w, r5, r6, r7, r8], Lg))) (fun b => Ev (d + 17, 0, 0, 112, 122, [.val (.ref 1088), .val (.int p1), .val (.int x4), .val (.long v13), .second, .val (.int v14), .val (.int b.1)], [], (126, 120, L, [Y, T, HA, HB, RA, RB, ST, NS, I0, I1, I2, BO, FI, RG, GU, PU, MA_3, MN, b.2, OT, SC], [r0, r1, r2, r3, w, r5, r6, r7, r8], Lg)) o) ?_ a_F (0, MS_16) zb27 zh28 ?_ ()
              · rintro ⟨v17, MS_18⟩ zr32 zh31 zi29 zx30 ⟨⟩
                have zh31 : f_M_order_l89 MA_3 v14 x4 v17 MS_18 = some zr32 := zh31
                obtain ⟨⟨x19, MS_20⟩, zh33, zh31⟩ := bnd zh31
                have zh33 : f_M_canGo MA_3 MS_18 v17 v14 x4 = some (x19, MS_20) := zh33
                have ze34 := R_f_M_canGo_0 (d + 12) Y T HA HB RA RB ST NS I0 I1 I2 BO FI RG GU PU MA_3 MN MS_18 OT SC r0 r1 r2 r3 w r5 r6 r7 r8 L Lg v17 v14 x4 zh33
                suffices e : Ev (d + 17, 0, 0, 112, 98, [.val (.ref 1088), .val (.int p1), .val (.int x4), .val (.long v13), .second, .val (.int v14), .val (.int v17)], [.int x19], (126, 120, L, [Y, T, HA, HB, RA, RB, ST, NS, I0, I1, I2, BO, FI, RG, GU, PU, MA_3, MN, MS_20, OT, SC], [r0, r1, r2, r3, w, r5, r6, r7, r8], Lg)) o from ev_call (fun v μ => (d + 17, 0, 0, 112, 98, [.val (.ref 1088), .val (.int p1), .val (.int x4), .val (.long v13), .second, .val (.int v14), .val (.int v17)], v.toList ++ [], μ)) 5 ze34 e (fun n => Eq.refl _)
                by_cases zc35 : x19 = 0
                · have zh31 := itp zh31 zc35
                  suffices e : Ev (d + 17, 0, 0, 112, 116, [.val (.ref 1088), .val (.int p1), .val (.int x4), .val (.long v13), .second, .val (.int v14), .val (.int v17)], [], (126, 120, L, [Y, T, HA, HB, RA, RB, ST, NS, I0, I1, I2, BO, FI, RG, GU, PU, MA_3, MN, MS_20, OT, SC], [r0, r1, r2, r3, w, r5, r6, r7, r8], Lg)) o from ev_t (c := x19 = 0) _ _ 1  zc35 e (fun n => Eq.refl _)
                  exact ev_b 2 (zi29 _ (Option.some.inj zh31).symm ()) (fun n => Eq.refl _)
                · have zh31 := itn zh31 zc35
                  suffices e : Ev (d + 17, 0, 0, 112, 101, [.val (.ref 1088), .val (.int p1), .val (.int x4), .val (.long v13), .second, .val (.int v14), .val (.int v17)], [], (126, 120, L, [Y, T, HA, HB, RA, RB, ST, NS, I0, I1, I2, BO, FI, RG, GU, PU, MA_3, MN, MS_20, OT, SC], [r0, r1, r2, r3, w, r5, r6, r7, r8], Lg)) o from ev_f (c := x19 = 0) _ _ 1  zc35 e (fun n => Eq.refl _)
                  obtain ⟨⟨x21, MS_22⟩, zh36, zh31⟩ := bnd zh31
                  have zh36 : f_grp_mo 12 0 MA_3 MS_20 (v14 ||| (a_shl 1 v17)) x4 = some (x21, MS_22) := zh36
                  have ze37 := (K_grp_mo_0 12) (d + 0) Y T HA HB RA RB ST NS I0 I1 I2 BO FI RG GU PU MA_3 MN MS_20 OT SC r0 r1 r2 r3 w r5 r6 r7 r8 L Lg (v14 ||| (a_shl 1 v17)) x4 _ zh36
                  suffices e : Ev (d + 17, 0, 0, 112, 113, [.val (.ref 1088), .val (.int p1), .val (.int x4), .val (.long v13), .second, .val (.int v14), .val (.int v17)], [.int x21], (126, 120, L, [Y, T, HA, HB, RA, RB, ST, NS, I0, I1, I2, BO, FI, RG, GU, PU, MA_3, MN, MS_22, OT, SC], [r0, r1, r2, r3, w, r5, r6, r7, r8], Lg)) o from ev_call (fun v μ => (d + 17, 0, 0, 112, 113, [.val (.ref 1088), .val (.int p1), .val (.int x4), .val (.long v13), .second, .val (.int v14), .val (.int v17)], v.toList ++ [], μ)) 8 ze37 e (fun n => Eq.refl _)
                  by_cases zc38 : x21 ≠ 0
                  · have zh31 := itp zh31 zc38
                    suffices e : Ev (d + 17, 0, 0, 112, 122, [.val (.ref 1088), .val (.int p1), .val (.int x4), .val (.long v13), .second, .val (.int v14), .val (.int v17)], [], (126, 120, L, [Y, T, HA, HB, RA, RB, ST, NS, I0, I1, I2, BO, FI, RG, GU, PU, MA_3, MN, MS_22, OT, SC], [r0, r1, r2, r3, w, r5, r6, r7, r8], Lg)) o from ev_t (c := x21 ≠ 0) _ _ 1  zc38 e (fun n => Eq.refl _)
                    exact ev_b 0 (zx30 _ (Option.some.inj zh31).symm ) (fun n => Eq.refl _)
                  · have zh31 := itn zh31 zc38
                    suffices e : Ev (d + 17, 0, 0, 112, 116, [.val (.ref 1088), .val (.int p1), .val (.int x4), .val (.long v13), .second, .val (.int v14), .val (.int v17)], [], (126, 120, L, [Y, T, HA, HB, RA, RB, ST, NS, I0, I1, I2, BO, FI, RG, GU, PU, MA_3, MN, MS_22, OT, SC], [r0, r1, r2, r3, w, r5, r6, r7, r8], Lg)) o from ev_f (c := x21 ≠ 0) _ _ 1  zc38 e (fun n => Eq.refl _)
                    exact ev_b 2 (zi29 _ (Option.some.inj zh31).symm ()) (fun n => Eq.refl _)
              · obtain ⟨v23, MS_24⟩ := zb27
                exact ev_b 14 (zi22 _ (Option.some.inj zh24).symm (.int v23)) (fun n => Eq.refl _)
          · obtain ⟨v25, MS_28⟩ := zb20
            intro s26 s27
            have ze39 := Option.some.inj h
            subst ze39
            exact ev_rete 2 ho (fun n => Eq.refl _)
        · have h := itn h zc19
          suffices e : Ev (d + 17, 0, 0, 112, 69, [.val (.ref 1088), .val (.int p1), .val (.int x4), .val s9, .val a_unk, .val a_unk, .val a_unk], [], (126, 120, L, [Y, T, HA, HB, RA, RB, ST, NS, I0, I1, I2, BO, FI, RG, GU, PU, MA_3, MN, MS_12, OT, SC], [r0, r1, r2, r3, w, r5, r6, r7, r8], Lg)) o from ev_f (c := p1 ≠ 0) _ _ 2  zc19 e (fun n => Eq.refl _)
          obtain ⟨x29, zh40, h⟩ := bnd h
          have zh40 : f_M_ones x4 = some x29 := zh40
          have ze41 := R_f_M_ones_0 (d + 16) Y T HA HB RA RB ST NS I0 I1 I2 BO FI RG GU PU MA_3 MN MS_12 OT SC r0 r1 r2 r3 w r5 r6 r7 r8 L Lg x4 zh40
          suffices e : Ev (d + 17, 0, 0, 112, 73, [.val (.ref 1088), .val (.int p1), .val (.int x4), .val s9, .val a_unk, .val a_unk, .val a_unk], [.int x29], (126, 120, L, [Y, T, HA, HB, RA, RB, ST, NS, I0, I1, I2, BO, FI, RG, GU, PU, MA_3, MN, MS_12, OT, SC], [r0, r1, r2, r3, w, r5, r6, r7, r8], Lg)) o from ev_call (fun v μ => (d + 17, 0, 0, 112, 73, [.val (.ref 1088), .val (.int p1), .val (.int x4), .val s9, .val a_unk, .val a_unk, .val a_unk], v.toList ++ [], μ)) 2 ze41 e (fun n => Eq.refl _)
          have ze42 := Option.some.inj h
          subst ze42
          exact ev_rete 2 ho (fun n => Eq.refl _)
      · have h := itn h zc18
        suffices e : Ev (d + 17, 0, 0, 112, 61, [.val (.ref 1088), .val (.int p1), .val (.int x4), .val s9, .val a_unk, .val a_unk, .val a_unk], [], (126, 120, L, [Y, T, HA, HB, RA, RB, ST, NS, I0, I1, I2, BO, FI, RG, GU, PU, MA_3, MN, MS_12, OT, SC], [r0, r1, r2, r3, w, r5, r6, r7, r8], Lg)) o from ev_f (c := x11 ≠ 0) _ _ 1  zc18 e (fun n => Eq.refl _)
        have ze43 := Option.some.inj h
        subst ze43
        exact ev_rete 2 ho (fun n => Eq.refl _)
  · have h := itn h zc5
    suffices e : Ev (d + 17, 0, 0, 112, 20, [.val (.ref 1088), .val (.int p1), .val a_unk, .val a_unk, .val a_unk, .val a_unk, .val a_unk], [], (126, 120, L, [Y, T, HA, HB, RA, RB, ST, NS, I0, I1, I2, BO, FI, RG, GU, PU, MA_3, MN, MS, OT, SC], [r0, r1, r2, r3, w, r5, r6, r7, r8], Lg)) o from ev_f (c := x2 ≠ 0) _ _ 1  zc5 e (fun n => Eq.refl _)
    have ze44 := Option.some.inj h
    subst ze44
    exact ev_rete 2 ho (fun n => Eq.refl _)
set_option maxRecDepth 1000000 in
set_option maxHeartbeats 4000000 in
theorem R_f_M_begin_0 (d : Nat) (Y T HA HB RA RB ST NS I0 I1 I2 BO FI RG GU PU MA MN MS OT SC : Nat → Nat → Int32) (r0 r1 r2 r3 w r5 r6 r7 r8 : Nat) (L : Nat) (Lg : Int64) {r : Int32 × (Nat → Nat → Int32) × (Nat → Nat → Int32)} (h : f_M_begin MA MS = some r) : Ev (d + 5, 0, 0, 113, 0, [.val (.ref 1088), .val a_unk, .val a_unk, .val a_unk], [], (126, 120, L, [Y, T, HA, HB, RA, RB, ST, NS, I0, I1, I2, BO, FI, RG, GU, PU, MA, MN, MS, OT, SC], [r0, r1, r2, r3, w, r5, r6, r7, r8], Lg)) ((0, some (.int r.1), (126, 120, L, [Y, T, HA, HB, RA, RB, ST, NS, I0, I1, I2, BO, FI, RG, GU, PU, r.2.1, MN, r.2.2, OT, SC], [r0, r1, r2, r3, w, r5, r6, r7, r8], Lg)) : AOut) := by
  suffices key : ∀ o : AOut, ((0, some (.int r.1), (126, 120, L, [Y, T, HA, HB, RA, RB, ST, NS, I0, I1, I2, BO, FI, RG, GU, PU, r.2.1, MN, r.2.2, OT, SC], [r0, r1, r2, r3, w, r5, r6, r7, r8], Lg)) : AOut) = o → Ev (d + 5, 0, 0, 113, 0, [.val (.ref 1088), .val a_unk, .val a_unk, .val a_unk], [], (126, 120, L, [Y, T, HA, HB, RA, RB, ST, NS, I0, I1, I2, BO, FI, RG, GU, PU, MA, MN, MS, OT, SC], [r0, r1, r2, r3, w, r5, r6, r7, r8], Lg)) o from key _ rfl
  intro o ho
  obtain ⟨⟨x1, MS_2⟩, zh1, h⟩ := bnd h
  have zh1 : f_M_apartNow (u2 MA 0 0 0) MS = some (x1, MS_2) := zh1
  have ze2 := R_f_M_apartNow_0 (d + 2) Y T HA HB RA RB ST NS I0 I1 I2 BO FI RG GU PU (u2 MA 0 0 0) MN MS OT SC r0 r1 r2 r3 w r5 r6 r7 r8 L Lg zh1
  suffices e : Ev (d + 5, 0, 0, 113, 9, [.val (.ref 1088), .val a_unk, .val a_unk, .val a_unk], [.int x1], (126, 120, L, [Y, T, HA, HB, RA, RB, ST, NS, I0, I1, I2, BO, FI, RG, GU, PU, (u2 MA 0 0 0), MN, MS_2, OT, SC], [r0, r1, r2, r3, w, r5, r6, r7, r8], Lg)) o from ev_call (fun v μ => (d + 5, 0, 0, 113, 9, [.val (.ref 1088), .val a_unk, .val a_unk, .val a_unk], v.toList ++ [], μ)) 5 ze2 e (fun n => Eq.refl _)
  obtain ⟨zb3, zh4, h⟩ := bnd h
  suffices e : Ev (d + 5, 0, 0, 113, 14, [.val (.ref 1088), .val (.int x1), .val (.int 0), .val (.int 0)], [], (126, 120, L, [Y, T, HA, HB, RA, RB, ST, NS, I0, I1, I2, BO, FI, RG, GU, PU, (u2 MA 0 0 0), MN, MS_2, OT, SC], [r0, r1, r2, r3, w, r5, r6, r7, r8], Lg)) o from ev_b 5 e (fun n => Eq.refl _)
  refine ev_loop (δ := Unit) (fun a j => (d + 5, 0, 0, 113, 14, [.val (.ref 1088), .val (.int x1), .val (.int a.1), .val (.int a.2.1)], [], (126, 120, L, [Y, T, HA, HB, RA, RB, ST, NS, I0, I1, I2, BO, FI, RG, GU, PU, (u2 MA 0 0 0), MN, a.2.2, OT, SC], [r0, r1, r2, r3, w, r5, r6, r7, r8], Lg))) (fun b => ∀ s10 : Value, Ev (d + 5, 0, 0, 113, 48, [.val (.ref 1088), .val (.int x1), .val (.int b.1), .val s10], [], (126, 120, L, [Y, T, HA, HB, RA, RB, ST, NS, I0, I1, I2, BO, FI, RG, GU, PU, (u2 MA 0 0 0), MN, b.2, OT, SC], [r0, r1, r2, r3, w, r5, r6, r7, r8], Lg)) o) ?_ a_F (0, 0, MS_2) zb3 zh4 ?_ ()
  · rintro ⟨v3, v4, MS_5⟩ zr8 zh7 zi5 zx6 ⟨⟩
    have zh7 : f_M_begin_l14 MA x1 v3 v4 MS_5 = some zr8 := zh7
    by_cases zc9 : ((u2 MA 0 0 0) 0 26) ≤ v4
    · have zh7 := itp zh7 zc9
      suffices e : Ev (d + 5, 0, 0, 113, 48, [.val (.ref 1088), .val (.int x1), .val (.int v3), .val (.int v4)], [], (126, 120, L, [Y, T, HA, HB, RA, RB, ST, NS, I0, I1, I2, BO, FI, RG, GU, PU, (u2 MA 0 0 0), MN, MS_5, OT, SC], [r0, r1, r2, r3, w, r5, r6, r7, r8], Lg)) o from ev_t (c := ((u2 MA 0 0 0) 0 26) ≤ v4) _ _ 4  zc9 e (fun n => Eq.refl _)
      exact ev_b 0 (zx6 _ (Option.some.inj zh7).symm (.int v4)) (fun n => Eq.refl _)
    · have zh7 := itn zh7 zc9
      suffices e : Ev (d + 5, 0, 0, 113, 22, [.val (.ref 1088), .val (.int x1), .val (.int v3), .val (.int v4)], [], (126, 120, L, [Y, T, HA, HB, RA, RB, ST, NS, I0, I1, I2, BO, FI, RG, GU, PU, (u2 MA 0 0 0), MN, MS_5, OT, SC], [r0, r1, r2, r3, w, r5, r6, r7, r8], Lg)) o from ev_f (c := ((u2 MA 0 0 0) 0 26) ≤ v4) _ _ 4  zc9 e (fun n => Eq.refl _)
      obtain ⟨⟨x6, MS_7⟩, zh10, zh7⟩ := bnd zh7
      have zh10 : f_M_canGo (u2 MA 0 0 0) MS_5 v4 0 x1 = some (x6, MS_7) := zh10
      have ze11 := R_f_M_canGo_0 (d + 0) Y T HA HB RA RB ST NS I0 I1 I2 BO FI RG GU PU (u2 MA 0 0 0) MN MS_5 OT SC r0 r1 r2 r3 w r5 r6 r7 r8 L Lg v4 0 x1 zh10
      suffices e : Ev (d + 5, 0, 0, 113, 30, [.val (.ref 1088), .val (.int x1), .val (.int v3), .val (.int v4)], [.int x6, .int v3], (126, 120, L, [Y, T, HA, HB, RA, RB, ST, NS, I0, I1, I2, BO, FI, RG, GU, PU, (u2 MA 0 0 0), MN, MS_7, OT, SC], [r0, r1, r2, r3, w, r5, r6, r7, r8], Lg)) o from ev_call (fun v μ => (d + 5, 0, 0, 113, 30, [.val (.ref 1088), .val (.int x1), .val (.int v3), .val (.int v4)], v.toList ++ [.int v3], μ)) 6 ze11 e (fun n => Eq.refl _)
      obtain ⟨zt12, zh13, zh7⟩ := bnd zh7
      have zj14 : ∀ (v8 : Int32), v8 = zt12 → Ev (d + 5, 0, 0, 113, 40, [.val (.ref 1088), .val (.int x1), .val (.int v3), .val (.int v4)], [.int v8, .int v3], (126, 120, L, [Y, T, HA, HB, RA, RB, ST, NS, I0, I1, I2, BO, FI, RG, GU, PU, (u2 MA 0 0 0), MN, MS_7, OT, SC], [r0, r1, r2, r3, w, r5, r6, r7, r8], Lg)) o := by
        intro v8 ze15
        subst ze15
        exact ev_b 4 (zi5 _ (Option.some.inj zh7).symm ()) (fun n => Eq.refl _)
      by_cases zc16 : x6 = 0
      · have zh13 := itp zh13 zc16
        suffices e : Ev (d + 5, 0, 0, 113, 39, [.val (.ref 1088), .val (.int x1), .val (.int v3), .val (.int v4)], [.int v3], (126, 120, L, [Y, T, HA, HB, RA, RB, ST, NS, I0, I1, I2, BO, FI, RG, GU, PU, (u2 MA 0 0 0), MN, MS_7, OT, SC], [r0, r1, r2, r3, w, r5, r6, r7, r8], Lg)) o from ev_t (c := x6 = 0) _ _ 1  zc16 e (fun n => Eq.refl _)
        exact ev_b 1 (zj14 0 (Option.some.inj zh13) ) (fun n => Eq.refl _)
      · have zh13 := itn zh13 zc16
        suffices e : Ev (d + 5, 0, 0, 113, 33, [.val (.ref 1088), .val (.int x1), .val (.int v3), .val (.int v4)], [.int v3], (126, 120, L, [Y, T, HA, HB, RA, RB, ST, NS, I0, I1, I2, BO, FI, RG, GU, PU, (u2 MA 0 0 0), MN, MS_7, OT, SC], [r0, r1, r2, r3, w, r5, r6, r7, r8], Lg)) o from ev_f (c := x6 = 0) _ _ 1  zc16 e (fun n => Eq.refl _)
        exact ev_b 4 (zj14 (a_shl 1 v4) (Option.some.inj zh13) ) (fun n => Eq.refl _)
  · obtain ⟨v9, MS_11⟩ := zb3
    intro s10
    have ze17 := Option.some.inj h
    subst ze17
    exact ev_rete 2 ho (fun n => Eq.refl _)
set_option maxRecDepth 1000000 in
set_option maxHeartbeats 4000000 in
theorem R_f_M_waits_0 (d : Nat) (Y T HA HB RA RB ST NS I0 I1 I2 BO FI RG GU PU MA MN MS OT SC : Nat → Nat → Int32) (r0 r1 r2 r3 w r5 r6 r7 r8 : Nat) (L : Nat) (Lg : Int64) (p1 : Int32) {r : Int32 × (Nat → Nat → Int32) × (Nat → Nat → Int32)} (h : f_M_waits MA MS p1 = some r) : Ev (d + 3, 0, 0, 114, 0, [.val (.ref 1088), .val (.int p1), .val a_unk, .val a_unk, .val a_unk], [], (126, 120, L, [Y, T, HA, HB, RA, RB, ST, NS, I0, I1, I2, BO, FI, RG, GU, PU, MA, MN, MS, OT, SC], [r0, r1, r2, r3, w, r5, r6, r7, r8], Lg)) ((0, some (.int r.1), (126, 120, L, [Y, T, HA, HB, RA, RB, ST, NS, I0, I1, I2, BO, FI, RG, GU, PU, r.2.1, MN, r.2.2, OT, SC], [r0, r1, r2, r3, w, r5, r6, r7, r8], Lg)) : AOut) := by
  suffices key : ∀ o : AOut, ((0, some (.int r.1), (126, 120, L, [Y, T, HA, HB, RA, RB, ST, NS, I0, I1, I2, BO, FI, RG, GU, PU, r.2.1, MN, r.2.2, OT, SC], [r0, r1, r2, r3, w, r5, r6, r7, r8], Lg)) : AOut) = o → Ev (d + 3, 0, 0, 114, 0, [.val (.ref 1088), .val (.int p1), .val a_unk, .val a_unk, .val a_unk], [], (126, 120, L, [Y, T, HA, HB, RA, RB, ST, NS, I0, I1, I2, BO, FI, RG, GU, PU, MA, MN, MS, OT, SC], [r0, r1, r2, r3, w, r5, r6, r7, r8], Lg)) o from key _ rfl
  intro o ho
  obtain ⟨⟨x1, MA_2⟩, zh1, h⟩ := bnd h
  have zh1 : f_M_isMeeting (u2 MA 0 0 0) p1 1 = some (x1, MA_2) := zh1
  have ze2 := R_f_M_isMeeting_0 (d + 1) Y T HA HB RA RB ST NS I0 I1 I2 BO FI RG GU PU (u2 MA 0 0 0) MN MS OT SC r0 r1 r2 r3 w r5 r6 r7 r8 L Lg p1 1 zh1
  suffices e : Ev (d + 3, 0, 0, 114, 11, [.val (.ref 1088), .val (.int p1), .val a_unk, .val a_unk, .val a_unk], [.int x1], (126, 120, L, [Y, T, HA, HB, RA, RB, ST, NS, I0, I1, I2, BO, FI, RG, GU, PU, MA_2, MN, MS, OT, SC], [r0, r1, r2, r3, w, r5, r6, r7, r8], Lg)) o from ev_call (fun v μ => (d + 3, 0, 0, 114, 11, [.val (.ref 1088), .val (.int p1), .val a_unk, .val a_unk, .val a_unk], v.toList ++ [], μ)) 7 ze2 e (fun n => Eq.refl _)
  by_cases zc3 : x1 ≠ 0
  · have h := itp h zc3
    suffices e : Ev (d + 3, 0, 0, 114, 16, [.val (.ref 1088), .val (.int p1), .val a_unk, .val a_unk, .val a_unk], [], (126, 120, L, [Y, T, HA, HB, RA, RB, ST, NS, I0, I1, I2, BO, FI, RG, GU, PU, MA_2, MN, MS, OT, SC], [r0, r1, r2, r3, w, r5, r6, r7, r8], Lg)) o from ev_t (c := x1 ≠ 0) _ _ 1  zc3 e (fun n => Eq.refl _)
    obtain ⟨⟨x3, MS_4⟩, zh4, h⟩ := bnd h
    have zh4 : f_M_apartNow MA_2 MS = some (x3, MS_4) := zh4
    have ze5 := R_f_M_apartNow_0 (d + 0) Y T HA HB RA RB ST NS I0 I1 I2 BO FI RG GU PU MA_2 MN MS OT SC r0 r1 r2 r3 w r5 r6 r7 r8 L Lg zh4
    suffices e : Ev (d + 3, 0, 0, 114, 20, [.val (.ref 1088), .val (.int p1), .val a_unk, .val a_unk, .val a_unk], [.int x3], (126, 120, L, [Y, T, HA, HB, RA, RB, ST, NS, I0, I1, I2, BO, FI, RG, GU, PU, MA_2, MN, MS_4, OT, SC], [r0, r1, r2, r3, w, r5, r6, r7, r8], Lg)) o from ev_call (fun v μ => (d + 3, 0, 0, 114, 20, [.val (.ref 1088), .val (.int p1), .val a_unk, .val a_unk, .val a_unk], v.toList ++ [], μ)) 2 ze5 e (fun n => Eq.refl _)
    by_cases zc6 : ((a_shr x3 p1) &&& 1) ≠ 0
    · have h := itp h zc6
      suffices e : Ev (d + 3, 0, 0, 114, 31, [.val (.ref 1088), .val (.int p1), .val (.int x3), .val a_unk, .val a_unk], [], (126, 120, L, [Y, T, HA, HB, RA, RB, ST, NS, I0, I1, I2, BO, FI, RG, GU, PU, MA_2, MN, MS_4, OT, SC], [r0, r1, r2, r3, w, r5, r6, r7, r8], Lg)) o from ev_t (c := ((a_shr x3 p1) &&& 1) ≠ 0) _ _ 7  zc6 e (fun n => Eq.refl _)
      obtain ⟨v11, zh8, h⟩ := bnd h
      suffices e : Ev (d + 3, 0, 0, 114, 36, [.val (.ref 1088), .val (.int p1), .val (.int x3), .val (.int 0), .val (.int 0)], [], (126, 120, L, [Y, T, HA, HB, RA, RB, ST, NS, I0, I1, I2, BO, FI, RG, GU, PU, MA_2, MN, MS_4, OT, SC], [r0, r1, r2, r3, w, r5, r6, r7, r8], Lg)) o from ev_b 4 e (fun n => Eq.refl _)
      refine ev_loop (δ := Unit) (fun a j => (d + 3, 0, 0, 114, 36, [.val (.ref 1088), .val (.int p1), .val (.int x3), .val (.int a.1), .val (.int a.2)], [], (126, 120, L, [Y, T, HA, HB, RA, RB, ST, NS, I0, I1, I2, BO, FI, RG, GU, PU, MA_2, MN, MS_4, OT, SC], [r0, r1, r2, r3, w, r5, r6, r7, r8], Lg))) (fun b => ∀ s12 : Value, Ev (d + 3, 0, 0, 114, 95, [.val (.ref 1088), .val (.int p1), .val (.int x3), .val (.int b), .val s12], [], (126, 120, L, [Y, T, HA, HB, RA, RB, ST, NS, I0, I1, I2, BO, FI, RG, GU, PU, MA_2, MN, MS_4, OT, SC], [r0, r1, r2, r3, w, r5, r6, r7, r8], Lg)) o) ?_ a_F (0, 0) v11 zh8 ?_ ()
      · rintro ⟨v5, v6⟩ zr12 zh11 zi9 zx10 ⟨⟩
        have zh11 : f_M_waits_l36 MA_2 x3 MS_4 p1 v5 v6 = some zr12 := zh11
        by_cases zc13 : (MA_2 0 26) ≤ v6
        · have zh11 := itp zh11 zc13
          suffices e : Ev (d + 3, 0, 0, 114, 95, [.val (.ref 1088), .val (.int p1), .val (.int x3), .val (.int v5), .val (.int v6)], [], (126, 120, L, [Y, T, HA, HB, RA, RB, ST, NS, I0, I1, I2, BO, FI, RG, GU, PU, MA_2, MN, MS_4, OT, SC], [r0, r1, r2, r3, w, r5, r6, r7, r8], Lg)) o from ev_t (c := (MA_2 0 26) ≤ v6) _ _ 4  zc13 e (fun n => Eq.refl _)
          exact ev_b 0 (zx10 _ (Option.some.inj zh11).symm (.int v6)) (fun n => Eq.refl _)
        · have zh11 := itn zh11 zc13
          suffices e : Ev (d + 3, 0, 0, 114, 45, [.val (.ref 1088), .val (.int p1), .val (.int x3), .val (.int v5), .val (.int v6)], [], (126, 120, L, [Y, T, HA, HB, RA, RB, ST, NS, I0, I1, I2, BO, FI, RG, GU, PU, MA_2, MN, MS_4, OT, SC], [r0, r1, r2, r3, w, r5, r6, r7, r8], Lg)) o from ev_f (c := (MA_2 0 26) ≤ v6) _ _ 4  zc13 e (fun n => Eq.refl _)
          obtain ⟨zt14, zh15, zh11⟩ := bnd zh11
          have zj16 : ∀ (v10 : Int32), v10 = zt14 → Ev (d + 3, 0, 0, 114, 87, [.val (.ref 1088), .val (.int p1), .val (.int x3), .val (.int v5), .val (.int v6)], [.int v10, .int v5], (126, 120, L, [Y, T, HA, HB, RA, RB, ST, NS, I0, I1, I2, BO, FI, RG, GU, PU, MA_2, MN, MS_4, OT, SC], [r0, r1, r2, r3, w, r5, r6, r7, r8], Lg)) o := by
            intro v10 ze17
            subst ze17
            exact ev_b 4 (zi9 _ (Option.some.inj zh11).symm ()) (fun n => Eq.refl _)
          obtain ⟨zt18, zh19, zh15⟩ := bnd zh15
          have zj20 : zt18 = .inl () → Ev (d + 3, 0, 0, 114, 86, [.val (.ref 1088), .val (.int p1), .val (.int x3), .val (.int v5), .val (.int v6)], [.int v5], (126, 120, L, [Y, T, HA, HB, RA, RB, ST, NS, I0, I1, I2, BO, FI, RG, GU, PU, MA_2, MN, MS_4, OT, SC], [r0, r1, r2, r3, w, r5, r6, r7, r8], Lg)) o := by
            intro ze21
            have zh15 := sum_l zh15 ze21
            exact ev_b 1 (zj16 0 (Option.some.inj zh15) ) (fun n => Eq.refl _)
          by_cases zc22 : ((a_shr x3 v6) &&& 1) ≠ 1
          · have zh19 := itp zh19 zc22
            suffices e : Ev (d + 3, 0, 0, 114, 86, [.val (.ref 1088), .val (.int p1), .val (.int x3), .val (.int v5), .val (.int v6)], [.int v5], (126, 120, L, [Y, T, HA, HB, RA, RB, ST, NS, I0, I1, I2, BO, FI, RG, GU, PU, MA_2, MN, MS_4, OT, SC], [r0, r1, r2, r3, w, r5, r6, r7, r8], Lg)) o from ev_t (c := ((a_shr x3 v6) &&& 1) ≠ 1) _ _ 8  zc22 e (fun n => Eq.refl _)
            exact ev_b 0 (zj20  (Option.some.inj zh19).symm ) (fun n => Eq.refl _)
          · have zh19 := itn zh19 zc22
            suffices e : Ev (d + 3, 0, 0, 114, 56, [.val (.ref 1088), .val (.int p1), .val (.int x3), .val (.int v5), .val (.int v6)], [.int v5], (126, 120, L, [Y, T, HA, HB, RA, RB, ST, NS, I0, I1, I2, BO, FI, RG, GU, PU, MA_2, MN, MS_4, OT, SC], [r0, r1, r2, r3, w, r5, r6, r7, r8], Lg)) o from ev_f (c := ((a_shr x3 v6) &&& 1) ≠ 1) _ _ 8  zc22 e (fun n => Eq.refl _)
            obtain ⟨x7, zh23, zh19⟩ := bnd zh19
            have zh23 : rdx (MS_4 1) 10 p1 = some x7 := zh23
            suffices e : Ev (d + 3, 0, 0, 114, 64, [.val (.ref 1088), .val (.int p1), .val (.int x3), .val (.int v5), .val (.int v6)], [.int x7, .int p1, .ref 1088, .int v5], (126, 120, L, [Y, T, HA, HB, RA, RB, ST, NS, I0, I1, I2, BO, FI, RG, GU, PU, MA_2, MN, MS_4, OT, SC], [r0, r1, r2, r3, w, r5, r6, r7, r8], Lg)) o from ev_opt (fun x7 => (d + 3, 0, 0, 114, 64, [.val (.ref 1088), .val (.int p1), .val (.int x3), .val (.int v5), .val (.int v6)], [.int x7, .int p1, .ref 1088, .int v5], (126, 120, L, [Y, T, HA, HB, RA, RB, ST, NS, I0, I1, I2, BO, FI, RG, GU, PU, MA_2, MN, MS_4, OT, SC], [r0, r1, r2, r3, w, r5, r6, r7, r8], Lg))) 6 zh23 e (fun n => Eq.refl _)
            obtain ⟨x8, zh24, zh19⟩ := bnd zh19
            have zh24 : rdx (MA_2 7) 10 v6 = some x8 := zh24
            suffices e : Ev (d + 3, 0, 0, 114, 73, [.val (.ref 1088), .val (.int p1), .val (.int x3), .val (.int v5), .val (.int v6)], [.int x8, .int v6, .int x7, .int p1, .ref 1088, .int v5], (126, 120, L, [Y, T, HA, HB, RA, RB, ST, NS, I0, I1, I2, BO, FI, RG, GU, PU, MA_2, MN, MS_4, OT, SC], [r0, r1, r2, r3, w, r5, r6, r7, r8], Lg)) o from ev_opt (fun x8 => (d + 3, 0, 0, 114, 73, [.val (.ref 1088), .val (.int p1), .val (.int x3), .val (.int v5), .val (.int v6)], [.int x8, .int v6, .int x7, .int p1, .ref 1088, .int v5], (126, 120, L, [Y, T, HA, HB, RA, RB, ST, NS, I0, I1, I2, BO, FI, RG, GU, PU, MA_2, MN, MS_4, OT, SC], [r0, r1, r2, r3, w, r5, r6, r7, r8], Lg))) 5 zh24 e (fun n => Eq.refl _)
            obtain ⟨x9, zh25, zh19⟩ := bnd zh19
            have zh25 : f_M_clashWith MA_2 p1 x7 v6 x8 = some x9 := zh25
            have ze26 := R_f_M_clashWith_0 (d + 2) Y T HA HB RA RB ST NS I0 I1 I2 BO FI RG GU PU MA_2 MN MS_4 OT SC r0 r1 r2 r3 w r5 r6 r7 r8 L Lg p1 x7 v6 x8 zh25
            suffices e : Ev (d + 3, 0, 0, 114, 76, [.val (.ref 1088), .val (.int p1), .val (.int x3), .val (.int v5), .val (.int v6)], [.int x9, .int v5], (126, 120, L, [Y, T, HA, HB, RA, RB, ST, NS, I0, I1, I2, BO, FI, RG, GU, PU, MA_2, MN, MS_4, OT, SC], [r0, r1, r2, r3, w, r5, r6, r7, r8], Lg)) o from ev_call (fun v μ => (d + 3, 0, 0, 114, 76, [.val (.ref 1088), .val (.int p1), .val (.int x3), .val (.int v5), .val (.int v6)], v.toList ++ [.int v5], μ)) 1 ze26 e (fun n => Eq.refl _)
            by_cases zc27 : x9 = 0
            · have zh19 := itp zh19 zc27
              suffices e : Ev (d + 3, 0, 0, 114, 86, [.val (.ref 1088), .val (.int p1), .val (.int x3), .val (.int v5), .val (.int v6)], [.int v5], (126, 120, L, [Y, T, HA, HB, RA, RB, ST, NS, I0, I1, I2, BO, FI, RG, GU, PU, MA_2, MN, MS_4, OT, SC], [r0, r1, r2, r3, w, r5, r6, r7, r8], Lg)) o from ev_t (c := x9 = 0) _ _ 1  zc27 e (fun n => Eq.refl _)
              exact ev_b 0 (zj20  (Option.some.inj zh19).symm ) (fun n => Eq.refl _)
            · have zh19 := itn zh19 zc27
              suffices e : Ev (d + 3, 0, 0, 114, 79, [.val (.ref 1088), .val (.int p1), .val (.int x3), .val (.int v5), .val (.int v6)], [.int v5], (126, 120, L, [Y, T, HA, HB, RA, RB, ST, NS, I0, I1, I2, BO, FI, RG, GU, PU, MA_2, MN, MS_4, OT, SC], [r0, r1, r2, r3, w, r5, r6, r7, r8], Lg)) o from ev_f (c := x9 = 0) _ _ 1  zc27 e (fun n => Eq.refl _)
              have zh28 := sum_r zh15 (Option.some.inj zh19).symm
              exact ev_b 4 (zj16 (a_shl 1 v6) (Option.some.inj zh28) ) (fun n => Eq.refl _)
      · skip
        intro s12
        have ze29 := Option.some.inj h
        subst ze29
        exact ev_rete 2 ho (fun n => Eq.refl _)
    · have h := itn h zc6
      suffices e : Ev (d + 3, 0, 0, 114, 29, [.val (.ref 1088), .val (.int p1), .val (.int x3), .val a_unk, .val a_unk], [], (126, 120, L, [Y, T, HA, HB, RA, RB, ST, NS, I0, I1, I2, BO, FI, RG, GU, PU, MA_2, MN, MS_4, OT, SC], [r0, r1, r2, r3, w, r5, r6, r7, r8], Lg)) o from ev_f (c := ((a_shr x3 p1) &&& 1) ≠ 0) _ _ 7  zc6 e (fun n => Eq.refl _)
      have ze30 := Option.some.inj h
      subst ze30
      exact ev_rete 2 ho (fun n => Eq.refl _)
  · have h := itn h zc3
    suffices e : Ev (d + 3, 0, 0, 114, 14, [.val (.ref 1088), .val (.int p1), .val a_unk, .val a_unk, .val a_unk], [], (126, 120, L, [Y, T, HA, HB, RA, RB, ST, NS, I0, I1, I2, BO, FI, RG, GU, PU, MA_2, MN, MS, OT, SC], [r0, r1, r2, r3, w, r5, r6, r7, r8], Lg)) o from ev_f (c := x1 ≠ 0) _ _ 1  zc3 e (fun n => Eq.refl _)
    have ze31 := Option.some.inj h
    subst ze31
    exact ev_rete 2 ho (fun n => Eq.refl _)
set_option maxRecDepth 1000000 in
set_option maxHeartbeats 4000000 in
theorem R_f_M_knot_0 (d : Nat) (Y T HA HB RA RB ST NS I0 I1 I2 BO FI RG GU PU MA MN MS OT SC : Nat → Nat → Int32) (r0 r1 r2 r3 w r5 r6 r7 r8 : Nat) (L : Nat) (Lg : Int64) {r : Int32 × (Nat → Nat → Int32) × (Nat → Nat → Int32)} (h : f_M_knot MA MS = some r) : Ev (d + 4, 0, 0, 115, 0, [.val (.ref 1088), .val a_unk, .val a_unk, .val a_unk, .val a_unk], [], (126, 120, L, [Y, T, HA, HB, RA, RB, ST, NS, I0, I1, I2, BO, FI, RG, GU, PU, MA, MN, MS, OT, SC], [r0, r1, r2, r3, w, r5, r6, r7, r8], Lg)) ((0, some (.int r.1), (126, 120, L, [Y, T, HA, HB, RA, RB, ST, NS, I0, I1, I2, BO, FI, RG, GU, PU, r.2.1, MN, r.2.2, OT, SC], [r0, r1, r2, r3, w, r5, r6, r7, r8], Lg)) : AOut) := by
  suffices key : ∀ o : AOut, ((0, some (.int r.1), (126, 120, L, [Y, T, HA, HB, RA, RB, ST, NS, I0, I1, I2, BO, FI, RG, GU, PU, r.2.1, MN, r.2.2, OT, SC], [r0, r1, r2, r3, w, r5, r6, r7, r8], Lg)) : AOut) = o → Ev (d + 4, 0, 0, 115, 0, [.val (.ref 1088), .val a_unk, .val a_unk, .val a_unk, .val a_unk], [], (126, 120, L, [Y, T, HA, HB, RA, RB, ST, NS, I0, I1, I2, BO, FI, RG, GU, PU, MA, MN, MS, OT, SC], [r0, r1, r2, r3, w, r5, r6, r7, r8], Lg)) o from key _ rfl
  intro o ho
  obtain ⟨⟨x1, MS_2⟩, zh1, h⟩ := bnd h
  have zh1 : f_M_apartNow (u2 MA 0 0 0) MS = some (x1, MS_2) := zh1
  have ze2 := R_f_M_apartNow_0 (d + 1) Y T HA HB RA RB ST NS I0 I1 I2 BO FI RG GU PU (u2 MA 0 0 0) MN MS OT SC r0 r1 r2 r3 w r5 r6 r7 r8 L Lg zh1
  suffices e : Ev (d + 4, 0, 0, 115, 9, [.val (.ref 1088), .val a_unk, .val a_unk, .val a_unk, .val a_unk], [.int x1], (126, 120, L, [Y, T, HA, HB, RA, RB, ST, NS, I0, I1, I2, BO, FI, RG, GU, PU, (u2 MA 0 0 0), MN, MS_2, OT, SC], [r0, r1, r2, r3, w, r5, r6, r7, r8], Lg)) o from ev_call (fun v μ => (d + 4, 0, 0, 115, 9, [.val (.ref 1088), .val a_unk, .val a_unk, .val a_unk, .val a_unk], v.toList ++ [], μ)) 5 ze2 e (fun n => Eq.refl _)
  obtain ⟨x3, zh3, h⟩ := bnd h
  have ze4 := R_copies (d + 3) 1095 1220 10 [Y, T, HA, HB, RA, RB, ST, NS, I0, I1, I2, BO, FI, RG, GU, PU, (u2 MA 0 0 0), MN, MS_2, OT, SC] [r0, r1, r2, r3, w, r5, r6, r7, r8] (.ref 1088) L Lg 126 120 rfl rfl rfl rfl (Nat.le_of_ble_eq_true rfl) (Nat.le_of_ble_eq_true rfl) (Nat.le_of_ble_eq_true rfl) zh3
  suffices e : Ev (d + 4, 0, 0, 115, 24, [.val (.ref 1088), .val (.int x1), .val a_unk, .val a_unk, .val a_unk], [], (126, 120, L, [Y, T, HA, HB, RA, RB, ST, NS, I0, I1, I2, BO, FI, RG, GU, PU, (u2 MA 0 0 0), MN, (u1 MS_2 4 x3), OT, SC], [r0, r1, r2, r3, w, r5, r6, r7, r8], Lg)) o from ev_call (fun v μ => (d + 4, 0, 0, 115, 24, [.val (.ref 1088), .val (.int x1), .val a_unk, .val a_unk, .val a_unk], v.toList ++ [], μ)) 8 ze4 e (fun n => Eq.refl _)
  obtain ⟨zb5, zh6, h⟩ := bnd h
  suffices e : Ev (d + 4, 0, 0, 115, 26, [.val (.ref 1088), .val (.int x1), .val (.int 1), .val a_unk, .val a_unk], [], (126, 120, L, [Y, T, HA, HB, RA, RB, ST, NS, I0, I1, I2, BO, FI, RG, GU, PU, (u2 MA 0 0 0), MN, (u1 MS_2 4 x3), OT, SC], [r0, r1, r2, r3, w, r5, r6, r7, r8], Lg)) o from ev_b 2 e (fun n => Eq.refl _)
  refine ev_loop (δ := Value × Value) (fun a j => (d + 4, 0, 0, 115, 26, [.val (.ref 1088), .val (.int a.1), .val (.int a.2.1), .val j.1, .val j.2], [], (126, 120, L, [Y, T, HA, HB, RA, RB, ST, NS, I0, I1, I2, BO, FI, RG, GU, PU, (u2 MA 0 0 0), MN, a.2.2, OT, SC], [r0, r1, r2, r3, w, r5, r6, r7, r8], Lg))) (fun b => ∀ s26 : Value, ∀ s27 : Value, ∀ s28 : Value, Ev (d + 4, 0, 0, 115, 122, [.val (.ref 1088), .val (.int b.1), .val s26, .val s27, .val s28], [], (126, 120, L, [Y, T, HA, HB, RA, RB, ST, NS, I0, I1, I2, BO, FI, RG, GU, PU, (u2 MA 0 0 0), MN, b.2, OT, SC], [r0, r1, r2, r3, w, r5, r6, r7, r8], Lg)) o) ?_ a_F (x1, 1, (u1 MS_2 4 x3)) zb5 zh6 ?_ (a_unk, a_unk)
  · rintro ⟨v4, v5, MS_8⟩ zr10 zh9 zi7 zx8 ⟨s6, s7⟩
    have zh9 : f_M_knot_l26 MA v4 v5 MS_8 = some zr10 := zh9
    by_cases zc11 : v5 = 0
    · have zh9 := itp zh9 zc11
      suffices e : Ev (d + 4, 0, 0, 115, 122, [.val (.ref 1088), .val (.int v4), .val (.int v5), .val s6, .val s7], [], (126, 120, L, [Y, T, HA, HB, RA, RB, ST, NS, I0, I1, I2, BO, FI, RG, GU, PU, (u2 MA 0 0 0), MN, MS_8, OT, SC], [r0, r1, r2, r3, w, r5, r6, r7, r8], Lg)) o from ev_t (c := v5 = 0) _ _ 2  zc11 e (fun n => Eq.refl _)
      exact ev_b 0 (zx8 _ (Option.some.inj zh9).symm (.int v5) s6 s7) (fun n => Eq.refl _)
    · have zh9 := itn zh9 zc11
      suffices e : Ev (d + 4, 0, 0, 115, 30, [.val (.ref 1088), .val (.int v4), .val (.int v5), .val s6, .val s7], [], (126, 120, L, [Y, T, HA, HB, RA, RB, ST, NS, I0, I1, I2, BO, FI, RG, GU, PU, (u2 MA 0 0 0), MN, MS_8, OT, SC], [r0, r1, r2, r3, w, r5, r6, r7, r8], Lg)) o from ev_f (c := v5 = 0) _ _ 2  zc11 e (fun n => Eq.refl _)
      obtain ⟨zb12, zh13, zh9⟩ := bnd zh9
      suffices e : Ev (d + 4, 0, 0, 115, 34, [.val (.ref 1088), .val (.int v4), .val (.int 0), .val (.int 0), .val s7], [], (126, 120, L, [Y, T, HA, HB, RA, RB, ST, NS, I0, I1, I2, BO, FI, RG, GU, PU, (u2 MA 0 0 0), MN, MS_8, OT, SC], [r0, r1, r2, r3, w, r5, r6, r7, r8], Lg)) o from ev_b 4 e (fun n => Eq.refl _)
      refine ev_loop (δ := Value) (fun a j => (d + 4, 0, 0, 115, 34, [.val (.ref 1088), .val (.int a.1), .val (.int a.2.1), .val (.int a.2.2.1), .val j], [], (126, 120, L, [Y, T, HA, HB, RA, RB, ST, NS, I0, I1, I2, BO, FI, RG, GU, PU, (u2 MA 0 0 0), MN, a.2.2.2, OT, SC], [r0, r1, r2, r3, w, r5, r6, r7, r8], Lg))) (fun b => ∀ s22 : Value, ∀ s23 : Value, Ev (d + 4, 0, 0, 115, 119, [.val (.ref 1088), .val (.int b.1), .val (.int b.2.1), .val s22, .val s23], [], (126, 120, L, [Y, T, HA, HB, RA, RB, ST, NS, I0, I1, I2, BO, FI, RG, GU, PU, (u2 MA 0 0 0), MN, b.2.2, OT, SC], [r0, r1, r2, r3, w, r5, r6, r7, r8], Lg)) o) ?_ a_F (v4, 0, 0, MS_8) zb12 zh13 ?_ s7
      · rintro ⟨v9, v10, v11, MS_13⟩ zr17 zh16 zi14 zx15 s12
        have zh16 : f_M_knot_l34 MA v9 v10 v11 MS_13 = some zr17 := zh16
        by_cases zc18 : ((u2 MA 0 0 0) 0 26) ≤ v11
        · have zh16 := itp zh16 zc18
          suffices e : Ev (d + 4, 0, 0, 115, 119, [.val (.ref 1088), .val (.int v9), .val (.int v10), .val (.int v11), .val s12], [], (126, 120, L, [Y, T, HA, HB, RA, RB, ST, NS, I0, I1, I2, BO, FI, RG, GU, PU, (u2 MA 0 0 0), MN, MS_13, OT, SC], [r0, r1, r2, r3, w, r5, r6, r7, r8], Lg)) o from ev_t (c := ((u2 MA 0 0 0) 0 26) ≤ v11) _ _ 4  zc18 e (fun n => Eq.refl _)
          exact ev_b 0 (zx15 _ (Option.some.inj zh16).symm (.int v11) s12) (fun n => Eq.refl _)
        · have zh16 := itn zh16 zc18
          suffices e : Ev (d + 4, 0, 0, 115, 42, [.val (.ref 1088), .val (.int v9), .val (.int v10), .val (.int v11), .val s12], [], (126, 120, L, [Y, T, HA, HB, RA, RB, ST, NS, I0, I1, I2, BO, FI, RG, GU, PU, (u2 MA 0 0 0), MN, MS_13, OT, SC], [r0, r1, r2, r3, w, r5, r6, r7, r8], Lg)) o from ev_f (c := ((u2 MA 0 0 0) 0 26) ≤ v11) _ _ 4  zc18 e (fun n => Eq.refl _)
          by_cases zc19 : ((a_shr v9 v11) &&& 1) = 0
          · have zh16 := itp zh16 zc19
            suffices e : Ev (d + 4, 0, 0, 115, 113, [.val (.ref 1088), .val (.int v9), .val (.int v10), .val (.int v11), .val s12], [], (126, 120, L, [Y, T, HA, HB, RA, RB, ST, NS, I0, I1, I2, BO, FI, RG, GU, PU, (u2 MA 0 0 0), MN, MS_13, OT, SC], [r0, r1, r2, r3, w, r5, r6, r7, r8], Lg)) o from ev_t (c := ((a_shr v9 v11) &&& 1) = 0) _ _ 6  zc19 e (fun n => Eq.refl _)
            exact ev_b 2 (zi14 _ (Option.some.inj zh16).symm s12) (fun n => Eq.refl _)
          · have zh16 := itn zh16 zc19
            suffices e : Ev (d + 4, 0, 0, 115, 50, [.val (.ref 1088), .val (.int v9), .val (.int v10), .val (.int v11), .val s12], [], (126, 120, L, [Y, T, HA, HB, RA, RB, ST, NS, I0, I1, I2, BO, FI, RG, GU, PU, (u2 MA 0 0 0), MN, MS_13, OT, SC], [r0, r1, r2, r3, w, r5, r6, r7, r8], Lg)) o from ev_f (c := ((a_shr v9 v11) &&& 1) = 0) _ _ 6  zc19 e (fun n => Eq.refl _)
            obtain ⟨x14, zh20, zh16⟩ := bnd zh16
            have zh20 : f_M_isFixed (u2 MA 0 0 0) v11 = some x14 := zh20
            have ze21 := R_f_M_isFixed_0 (d + 3) Y T HA HB RA RB ST NS I0 I1 I2 BO FI RG GU PU (u2 MA 0 0 0) MN MS_13 OT SC r0 r1 r2 r3 w r5 r6 r7 r8 L Lg v11 zh20
            suffices e : Ev (d + 4, 0, 0, 115, 55, [.val (.ref 1088), .val (.int v9), .val (.int v10), .val (.int v11), .val s12], [.int x14], (126, 120, L, [Y, T, HA, HB, RA, RB, ST, NS, I0, I1, I2, BO, FI, RG, GU, PU, (u2 MA 0 0 0), MN, MS_13, OT, SC], [r0, r1, r2, r3, w, r5, r6, r7, r8], Lg)) o from ev_call (fun v μ => (d + 4, 0, 0, 115, 55, [.val (.ref 1088), .val (.int v9), .val (.int v10), .val (.int v11), .val s12], v.toList ++ [], μ)) 3 ze21 e (fun n => Eq.refl _)
            by_cases zc22 : x14 = 0
            · have zh16 := itp zh16 zc22
              suffices e : Ev (d + 4, 0, 0, 115, 61, [.val (.ref 1088), .val (.int v9), .val (.int v10), .val (.int v11), .val s12], [], (126, 120, L, [Y, T, HA, HB, RA, RB, ST, NS, I0, I1, I2, BO, FI, RG, GU, PU, (u2 MA 0 0 0), MN, MS_13, OT, SC], [r0, r1, r2, r3, w, r5, r6, r7, r8], Lg)) o from ev_t (c := x14 = 0) _ _ 1  zc22 e (fun n => Eq.refl _)
              obtain ⟨x15, zh23, zh16⟩ := bnd zh16
              have zh23 : rdx (MS_13 4) 10 v11 = some x15 := zh23
              suffices e : Ev (d + 4, 0, 0, 115, 67, [.val (.ref 1088), .val (.int v9), .val (.int v10), .val (.int v11), .val s12], [.int x15], (126, 120, L, [Y, T, HA, HB, RA, RB, ST, NS, I0, I1, I2, BO, FI, RG, GU, PU, (u2 MA 0 0 0), MN, MS_13, OT, SC], [r0, r1, r2, r3, w, r5, r6, r7, r8], Lg)) o from ev_opt (fun x15 => (d + 4, 0, 0, 115, 67, [.val (.ref 1088), .val (.int v9), .val (.int v10), .val (.int v11), .val s12], [.int x15], (126, 120, L, [Y, T, HA, HB, RA, RB, ST, NS, I0, I1, I2, BO, FI, RG, GU, PU, (u2 MA 0 0 0), MN, MS_13, OT, SC], [r0, r1, r2, r3, w, r5, r6, r7, r8], Lg))) 4 zh23 e (fun n => Eq.refl _)
              obtain ⟨x16, zh24, zh16⟩ := bnd zh16
              have zh24 : rdx (MS_13 1) 10 v11 = some x16 := zh24
              suffices e : Ev (d + 4, 0, 0, 115, 80, [.val (.ref 1088), .val (.int v9), .val (.int v10), .val (.int v11), .val (.int x15)], [.int x16, .int v11, .ref 1220], (126, 120, L, [Y, T, HA, HB, RA, RB, ST, NS, I0, I1, I2, BO, FI, RG, GU, PU, (u2 MA 0 0 0), MN, MS_13, OT, SC], [r0, r1, r2, r3, w, r5, r6, r7, r8], Lg)) o from ev_opt (fun x16 => (d + 4, 0, 0, 115, 80, [.val (.ref 1088), .val (.int v9), .val (.int v10), .val (.int v11), .val (.int x15)], [.int x16, .int v11, .ref 1220], (126, 120, L, [Y, T, HA, HB, RA, RB, ST, NS, I0, I1, I2, BO, FI, RG, GU, PU, (u2 MA 0 0 0), MN, MS_13, OT, SC], [r0, r1, r2, r3, w, r5, r6, r7, r8], Lg))) 8 zh24 e (fun n => Eq.refl _)
              obtain ⟨j17, zh25, zh16⟩ := bnd zh16
              have zh25 : ixx 10 v11 = some j17 := zh25
              suffices e : Ev (d + 4, 0, 0, 115, 81, [.val (.ref 1088), .val (.int v9), .val (.int v10), .val (.int v11), .val (.int x15)], [], (126, 120, L, [Y, T, HA, HB, RA, RB, ST, NS, I0, I1, I2, BO, FI, RG, GU, PU, (u2 MA 0 0 0), MN, (u2 MS_13 4 j17 x16), OT, SC], [r0, r1, r2, r3, w, r5, r6, r7, r8], Lg)) o from ev_opt (fun j17 => (d + 4, 0, 0, 115, 81, [.val (.ref 1088), .val (.int v9), .val (.int v10), .val (.int v11), .val (.int x15)], [], (126, 120, L, [Y, T, HA, HB, RA, RB, ST, NS, I0, I1, I2, BO, FI, RG, GU, PU, (u2 MA 0 0 0), MN, (u2 MS_13 4 j17 x16), OT, SC], [r0, r1, r2, r3, w, r5, r6, r7, r8], Lg))) 1 zh25 e (fun n => Eq.refl _)
              obtain ⟨x18, zh26, zh16⟩ := bnd zh16
              have zh26 : f_M_isLawful (u2 MA 0 0 0) ((u2 MS_13 4 j17 x16) 4) = some x18 := zh26
              have ze27 := R_f_M_isLawful_0 (d + 0) Y T HA HB RA RB ST NS I0 I1 I2 BO FI RG GU PU (u2 MA 0 0 0) MN (u2 MS_13 4 j17 x16) OT SC r0 r1 r2 r3 w r5 r6 r7 r8 L Lg zh26
              suffices e : Ev (d + 4, 0, 0, 115, 89, [.val (.ref 1088), .val (.int v9), .val (.int v10), .val (.int v11), .val (.int x15)], [.int x18], (126, 120, L, [Y, T, HA, HB, RA, RB, ST, NS, I0, I1, I2, BO, FI, RG, GU, PU, (u2 MA 0 0 0), MN, (u2 MS_13 4 j17 x16), OT, SC], [r0, r1, r2, r3, w, r5, r6, r7, r8], Lg)) o from ev_call (fun v μ => (d + 4, 0, 0, 115, 89, [.val (.ref 1088), .val (.int v9), .val (.int v10), .val (.int v11), .val (.int x15)], v.toList ++ [], μ)) 4 ze27 e (fun n => Eq.refl _)
              by_cases zc28 : x18 ≠ 0
              · have zh16 := itp zh16 zc28
                suffices e : Ev (d + 4, 0, 0, 115, 103, [.val (.ref 1088), .val (.int v9), .val (.int v10), .val (.int v11), .val (.int x15)], [], (126, 120, L, [Y, T, HA, HB, RA, RB, ST, NS, I0, I1, I2, BO, FI, RG, GU, PU, (u2 MA 0 0 0), MN, (u2 MS_13 4 j17 x16), OT, SC], [r0, r1, r2, r3, w, r5, r6, r7, r8], Lg)) o from ev_t (c := x18 ≠ 0) _ _ 1  zc28 e (fun n => Eq.refl _)
                exact ev_b 12 (zi14 _ (Option.some.inj zh16).symm (.int x15)) (fun n => Eq.refl _)
              · have zh16 := itn zh16 zc28
                suffices e : Ev (d + 4, 0, 0, 115, 92, [.val (.ref 1088), .val (.int v9), .val (.int v10), .val (.int v11), .val (.int x15)], [], (126, 120, L, [Y, T, HA, HB, RA, RB, ST, NS, I0, I1, I2, BO, FI, RG, GU, PU, (u2 MA 0 0 0), MN, (u2 MS_13 4 j17 x16), OT, SC], [r0, r1, r2, r3, w, r5, r6, r7, r8], Lg)) o from ev_f (c := x18 ≠ 0) _ _ 1  zc28 e (fun n => Eq.refl _)
                obtain ⟨j19, zh29, zh16⟩ := bnd zh16
                have zh29 : ixx 10 v11 = some j19 := zh29
                suffices e : Ev (d + 4, 0, 0, 115, 100, [.val (.ref 1088), .val (.int v9), .val (.int v10), .val (.int v11), .val (.int x15)], [], (126, 120, L, [Y, T, HA, HB, RA, RB, ST, NS, I0, I1, I2, BO, FI, RG, GU, PU, (u2 MA 0 0 0), MN, (u2 (u2 MS_13 4 j17 x16) 4 j19 x15), OT, SC], [r0, r1, r2, r3, w, r5, r6, r7, r8], Lg)) o from ev_opt (fun j19 => (d + 4, 0, 0, 115, 100, [.val (.ref 1088), .val (.int v9), .val (.int v10), .val (.int v11), .val (.int x15)], [], (126, 120, L, [Y, T, HA, HB, RA, RB, ST, NS, I0, I1, I2, BO, FI, RG, GU, PU, (u2 MA 0 0 0), MN, (u2 (u2 MS_13 4 j17 x16) 4 j19 x15), OT, SC], [r0, r1, r2, r3, w, r5, r6, r7, r8], Lg))) 5 zh29 e (fun n => Eq.refl _)
                exact ev_b 3 (zi14 _ (Option.some.inj zh16).symm (.int x15)) (fun n => Eq.refl _)
            · have zh16 := itn zh16 zc22
              suffices e : Ev (d + 4, 0, 0, 115, 58, [.val (.ref 1088), .val (.int v9), .val (.int v10), .val (.int v11), .val s12], [], (126, 120, L, [Y, T, HA, HB, RA, RB, ST, NS, I0, I1, I2, BO, FI, RG, GU, PU, (u2 MA 0 0 0), MN, MS_13, OT, SC], [r0, r1, r2, r3, w, r5, r6, r7, r8], Lg)) o from ev_f (c := x14 = 0) _ _ 1  zc22 e (fun n => Eq.refl _)
              exact ev_b 3 (zi14 _ (Option.some.inj zh16).symm s12) (fun n => Eq.refl _)
      · obtain ⟨v20, v21, MS_24⟩ := zb12
        intro s22 s23
        exact ev_b 1 (zi7 _ (Option.some.inj zh9).symm (s22, s23)) (fun n => Eq.refl _)
  · obtain ⟨v25, MS_29⟩ := zb5
    intro s26 s27 s28
    have ze30 := Option.some.inj h
    subst ze30
    exact ev_rete 2 ho (fun n => Eq.refl _)
set_option maxRecDepth 1000000 in
set_option maxHeartbeats 4000000 in
theorem R_f_M_missed_0 (d : Nat) (Y T HA HB RA RB ST NS I0 I1 I2 BO FI RG GU PU MA MN MS OT SC : Nat → Nat → Int32) (r0 r1 r2 r3 w r5 r6 r7 r8 : Nat) (L : Nat) (Lg : Int64) (p1 : Int32) {r : Int32 × (Nat → Nat → Int32)} (h : f_M_missed MA MS p1 = some r) : Ev (d + 2, 0, 0, 116, 0, [.val (.ref 1088), .val (.int p1), .val a_unk, .val a_unk, .val a_unk, .val a_unk, .val a_unk], [], (126, 120, L, [Y, T, HA, HB, RA, RB, ST, NS, I0, I1, I2, BO, FI, RG, GU, PU, MA, MN, MS, OT, SC], [r0, r1, r2, r3, w, r5, r6, r7, r8], Lg)) ((0, some (.int r.1), (126, 120, L, [Y, T, HA, HB, RA, RB, ST, NS, I0, I1, I2, BO, FI, RG, GU, PU, MA, MN, r.2, OT, SC], [r0, r1, r2, r3, w, r5, r6, r7, r8], Lg)) : AOut) := by
  suffices key : ∀ o : AOut, ((0, some (.int r.1), (126, 120, L, [Y, T, HA, HB, RA, RB, ST, NS, I0, I1, I2, BO, FI, RG, GU, PU, MA, MN, r.2, OT, SC], [r0, r1, r2, r3, w, r5, r6, r7, r8], Lg)) : AOut) = o → Ev (d + 2, 0, 0, 116, 0, [.val (.ref 1088), .val (.int p1), .val a_unk, .val a_unk, .val a_unk, .val a_unk, .val a_unk], [], (126, 120, L, [Y, T, HA, HB, RA, RB, ST, NS, I0, I1, I2, BO, FI, RG, GU, PU, MA, MN, MS, OT, SC], [r0, r1, r2, r3, w, r5, r6, r7, r8], Lg)) o from key _ rfl
  intro o ho
  obtain ⟨MS_1, zh1, h⟩ := bnd h
  have zh1 : f_M_findGoals MA MS = some MS_1 := zh1
  have ze2 := R_f_M_findGoals_0 (d + 0) Y T HA HB RA RB ST NS I0 I1 I2 BO FI RG GU PU MA MN MS OT SC r0 r1 r2 r3 w r5 r6 r7 r8 L Lg zh1
  suffices e : Ev (d + 2, 0, 0, 116, 4, [.val (.ref 1088), .val (.int p1), .val a_unk, .val a_unk, .val a_unk, .val a_unk, .val a_unk], [], (126, 120, L, [Y, T, HA, HB, RA, RB, ST, NS, I0, I1, I2, BO, FI, RG, GU, PU, MA, MN, MS_1, OT, SC], [r0, r1, r2, r3, w, r5, r6, r7, r8], Lg)) o from ev_call (fun v μ => (d + 2, 0, 0, 116, 4, [.val (.ref 1088), .val (.int p1), .val a_unk, .val a_unk, .val a_unk, .val a_unk, .val a_unk], v.toList ++ [], μ)) 2 ze2 e (fun n => Eq.refl _)
  obtain ⟨v18, zh4, h⟩ := bnd h
  suffices e : Ev (d + 2, 0, 0, 116, 8, [.val (.ref 1088), .val (.int p1), .val (.int 0), .val (.int 0), .val a_unk, .val a_unk, .val a_unk], [], (126, 120, L, [Y, T, HA, HB, RA, RB, ST, NS, I0, I1, I2, BO, FI, RG, GU, PU, MA, MN, MS_1, OT, SC], [r0, r1, r2, r3, w, r5, r6, r7, r8], Lg)) o from ev_b 4 e (fun n => Eq.refl _)
  refine ev_loop (δ := Value × Value × Value) (fun a j => (d + 2, 0, 0, 116, 8, [.val (.ref 1088), .val (.int p1), .val (.int a.1), .val (.int a.2), .val j.1, .val j.2.1, .val j.2.2], [], (126, 120, L, [Y, T, HA, HB, RA, RB, ST, NS, I0, I1, I2, BO, FI, RG, GU, PU, MA, MN, MS_1, OT, SC], [r0, r1, r2, r3, w, r5, r6, r7, r8], Lg))) (fun b => ∀ s19 : Value, ∀ s20 : Value, ∀ s21 : Value, ∀ s22 : Value, Ev (d + 2, 0, 0, 116, 139, [.val (.ref 1088), .val (.int p1), .val (.int b), .val s19, .val s20, .val s21, .val s22], [], (126, 120, L, [Y, T, HA, HB, RA, RB, ST, NS, I0, I1, I2, BO, FI, RG, GU, PU, MA, MN, MS_1, OT, SC], [r0, r1, r2, r3, w, r5, r6, r7, r8], Lg)) o) ?_ a_F (0, 0) v18 zh4 ?_ (a_unk, a_unk, a_unk)
  · rintro ⟨v2, v3⟩ zr8 zh7 zi5 zx6 ⟨s4, s5, s6⟩
    have zh7 : f_M_missed_l8 MA MS_1 p1 v2 v3 = some zr8 := zh7
    by_cases zc9 : (MA 0 33) ≤ v3
    · have zh7 := itp zh7 zc9
      suffices e : Ev (d + 2, 0, 0, 116, 139, [.val (.ref 1088), .val (.int p1), .val (.int v2), .val (.int v3), .val s4, .val s5, .val s6], [], (126, 120, L, [Y, T, HA, HB, RA, RB, ST, NS, I0, I1, I2, BO, FI, RG, GU, PU, MA, MN, MS_1, OT, SC], [r0, r1, r2, r3, w, r5, r6, r7, r8], Lg)) o from ev_t (c := (MA 0 33) ≤ v3) _ _ 4  zc9 e (fun n => Eq.refl _)
      exact ev_b 0 (zx6 _ (Option.some.inj zh7).symm (.int v3) s4 s5 s6) (fun n => Eq.refl _)
    · have zh7 := itn zh7 zc9
      suffices e : Ev (d + 2, 0, 0, 116, 16, [.val (.ref 1088), .val (.int p1), .val (.int v2), .val (.int v3), .val s4, .val s5, .val s6], [], (126, 120, L, [Y, T, HA, HB, RA, RB, ST, NS, I0, I1, I2, BO, FI, RG, GU, PU, MA, MN, MS_1, OT, SC], [r0, r1, r2, r3, w, r5, r6, r7, r8], Lg)) o from ev_f (c := (MA 0 33) ≤ v3) _ _ 4  zc9 e (fun n => Eq.refl _)
      obtain ⟨x7, zh10, zh7⟩ := bnd zh7
      have zh10 : rdx (MA 9) 20 (2 * v3) = some x7 := zh10
      suffices e : Ev (d + 2, 0, 0, 116, 24, [.val (.ref 1088), .val (.int p1), .val (.int v2), .val (.int v3), .val s4, .val s5, .val s6], [.int x7], (126, 120, L, [Y, T, HA, HB, RA, RB, ST, NS, I0, I1, I2, BO, FI, RG, GU, PU, MA, MN, MS_1, OT, SC], [r0, r1, r2, r3, w, r5, r6, r7, r8], Lg)) o from ev_opt (fun x7 => (d + 2, 0, 0, 116, 24, [.val (.ref 1088), .val (.int p1), .val (.int v2), .val (.int v3), .val s4, .val s5, .val s6], [.int x7], (126, 120, L, [Y, T, HA, HB, RA, RB, ST, NS, I0, I1, I2, BO, FI, RG, GU, PU, MA, MN, MS_1, OT, SC], [r0, r1, r2, r3, w, r5, r6, r7, r8], Lg))) 6 zh10 e (fun n => Eq.refl _)
      obtain ⟨x8, zh11, zh7⟩ := bnd zh7
      have zh11 : rdx (MS_1 1) 10 x7 = some x8 := zh11
      suffices e : Ev (d + 2, 0, 0, 116, 33, [.val (.ref 1088), .val (.int p1), .val (.int v2), .val (.int v3), .val (.int x7), .val s5, .val s6], [.int x8], (126, 120, L, [Y, T, HA, HB, RA, RB, ST, NS, I0, I1, I2, BO, FI, RG, GU, PU, MA, MN, MS_1, OT, SC], [r0, r1, r2, r3, w, r5, r6, r7, r8], Lg)) o from ev_opt (fun x8 => (d + 2, 0, 0, 116, 33, [.val (.ref 1088), .val (.int p1), .val (.int v2), .val (.int v3), .val (.int x7), .val s5, .val s6], [.int x8], (126, 120, L, [Y, T, HA, HB, RA, RB, ST, NS, I0, I1, I2, BO, FI, RG, GU, PU, MA, MN, MS_1, OT, SC], [r0, r1, r2, r3, w, r5, r6, r7, r8], Lg))) 5 zh11 e (fun n => Eq.refl _)
      suffices e : Ev (d + 2, 0, 0, 116, 35, [.val (.ref 1088), .val (.int p1), .val (.int v2), .val (.int v3), .val (.int x7), .val s5, .val s6], [.int (x8 / 3)], (126, 120, L, [Y, T, HA, HB, RA, RB, ST, NS, I0, I1, I2, BO, FI, RG, GU, PU, MA, MN, MS_1, OT, SC], [r0, r1, r2, r3, w, r5, r6, r7, r8], Lg)) o from ev_b 2 e (fun n => Eq.refl _)
      obtain ⟨x9, zh12, zh7⟩ := bnd zh7
      have zh12 : rdx (MA 7) 10 x7 = some x9 := zh12
      suffices e : Ev (d + 2, 0, 0, 116, 44, [.val (.ref 1088), .val (.int p1), .val (.int v2), .val (.int v3), .val (.int x7), .val (.int (x8 / 3)), .val s6], [.int x9], (126, 120, L, [Y, T, HA, HB, RA, RB, ST, NS, I0, I1, I2, BO, FI, RG, GU, PU, MA, MN, MS_1, OT, SC], [r0, r1, r2, r3, w, r5, r6, r7, r8], Lg)) o from ev_opt (fun x9 => (d + 2, 0, 0, 116, 44, [.val (.ref 1088), .val (.int p1), .val (.int v2), .val (.int v3), .val (.int x7), .val (.int (x8 / 3)), .val s6], [.int x9], (126, 120, L, [Y, T, HA, HB, RA, RB, ST, NS, I0, I1, I2, BO, FI, RG, GU, PU, MA, MN, MS_1, OT, SC], [r0, r1, r2, r3, w, r5, r6, r7, r8], Lg))) 5 zh12 e (fun n => Eq.refl _)
      obtain ⟨zt13, zh14, zh7⟩ := bnd zh7
      have zj15 : zt13 = .inl () → Ev (d + 2, 0, 0, 116, 65, [.val (.ref 1088), .val (.int p1), .val (.int v2), .val (.int v3), .val (.int x7), .val (.int (x8 / 3)), .val s6], [], (126, 120, L, [Y, T, HA, HB, RA, RB, ST, NS, I0, I1, I2, BO, FI, RG, GU, PU, MA, MN, MS_1, OT, SC], [r0, r1, r2, r3, w, r5, r6, r7, r8], Lg)) o := by
        intro ze16
        have zh7 := sum_l zh7 ze16
        obtain ⟨v16, zh18, zh7⟩ := bnd zh7
        suffices e : Ev (d + 2, 0, 0, 116, 68, [.val (.ref 1088), .val (.int p1), .val (.int v2), .val (.int v3), .val (.int x7), .val (.int (x8 / 3)), .val (.int 0)], [], (126, 120, L, [Y, T, HA, HB, RA, RB, ST, NS, I0, I1, I2, BO, FI, RG, GU, PU, MA, MN, MS_1, OT, SC], [r0, r1, r2, r3, w, r5, r6, r7, r8], Lg)) o from ev_b 2 e (fun n => Eq.refl _)
        refine ev_loop (δ := Unit) (fun a j => (d + 2, 0, 0, 116, 68, [.val (.ref 1088), .val (.int p1), .val (.int a.1), .val (.int v3), .val (.int x7), .val (.int (x8 / 3)), .val (.int a.2)], [], (126, 120, L, [Y, T, HA, HB, RA, RB, ST, NS, I0, I1, I2, BO, FI, RG, GU, PU, MA, MN, MS_1, OT, SC], [r0, r1, r2, r3, w, r5, r6, r7, r8], Lg))) (fun b => ∀ s17 : Value, Ev (d + 2, 0, 0, 116, 133, [.val (.ref 1088), .val (.int p1), .val (.int b), .val (.int v3), .val (.int x7), .val (.int (x8 / 3)), .val s17], [], (126, 120, L, [Y, T, HA, HB, RA, RB, ST, NS, I0, I1, I2, BO, FI, RG, GU, PU, MA, MN, MS_1, OT, SC], [r0, r1, r2, r3, w, r5, r6, r7, r8], Lg)) o) ?_ a_F (v2, 0) v16 zh18 ?_ ()
        · rintro ⟨v11, v12⟩ zr22 zh21 zi19 zx20 ⟨⟩
          have zh21 : f_M_missed_l68 MA x7 p1 x8 v11 v12 = some zr22 := zh21
          by_cases zc23 : (MA 0 25) ≤ v12
          · have zh21 := itp zh21 zc23
            suffices e : Ev (d + 2, 0, 0, 116, 133, [.val (.ref 1088), .val (.int p1), .val (.int v11), .val (.int v3), .val (.int x7), .val (.int (x8 / 3)), .val (.int v12)], [], (126, 120, L, [Y, T, HA, HB, RA, RB, ST, NS, I0, I1, I2, BO, FI, RG, GU, PU, MA, MN, MS_1, OT, SC], [r0, r1, r2, r3, w, r5, r6, r7, r8], Lg)) o from ev_t (c := (MA 0 25) ≤ v12) _ _ 4  zc23 e (fun n => Eq.refl _)
            exact ev_b 0 (zx20 _ (Option.some.inj zh21).symm (.int v12)) (fun n => Eq.refl _)
          · have zh21 := itn zh21 zc23
            suffices e : Ev (d + 2, 0, 0, 116, 77, [.val (.ref 1088), .val (.int p1), .val (.int v11), .val (.int v3), .val (.int x7), .val (.int (x8 / 3)), .val (.int v12)], [], (126, 120, L, [Y, T, HA, HB, RA, RB, ST, NS, I0, I1, I2, BO, FI, RG, GU, PU, MA, MN, MS_1, OT, SC], [r0, r1, r2, r3, w, r5, r6, r7, r8], Lg)) o from ev_f (c := (MA 0 25) ≤ v12) _ _ 4  zc23 e (fun n => Eq.refl _)
            obtain ⟨x13, zh24, zh21⟩ := bnd zh21
            have zh24 : rdx (MA 5) 60 ((6 * x7) + 2) = some x13 := zh24
            suffices e : Ev (d + 2, 0, 0, 116, 90, [.val (.ref 1088), .val (.int p1), .val (.int v11), .val (.int v3), .val (.int x7), .val (.int (x8 / 3)), .val (.int v12)], [.int x13, .int v11], (126, 120, L, [Y, T, HA, HB, RA, RB, ST, NS, I0, I1, I2, BO, FI, RG, GU, PU, MA, MN, MS_1, OT, SC], [r0, r1, r2, r3, w, r5, r6, r7, r8], Lg)) o from ev_opt (fun x13 => (d + 2, 0, 0, 116, 90, [.val (.ref 1088), .val (.int p1), .val (.int v11), .val (.int v3), .val (.int x7), .val (.int (x8 / 3)), .val (.int v12)], [.int x13, .int v11], (126, 120, L, [Y, T, HA, HB, RA, RB, ST, NS, I0, I1, I2, BO, FI, RG, GU, PU, MA, MN, MS_1, OT, SC], [r0, r1, r2, r3, w, r5, r6, r7, r8], Lg))) 9 zh24 e (fun n => Eq.refl _)
            obtain ⟨zt25, zh26, zh21⟩ := bnd zh21
            have zj27 : ∀ (v15 : Int32), v15 = zt25 → Ev (d + 2, 0, 0, 116, 125, [.val (.ref 1088), .val (.int p1), .val (.int v11), .val (.int v3), .val (.int x7), .val (.int (x8 / 3)), .val (.int v12)], [.int v15, .int v11], (126, 120, L, [Y, T, HA, HB, RA, RB, ST, NS, I0, I1, I2, BO, FI, RG, GU, PU, MA, MN, MS_1, OT, SC], [r0, r1, r2, r3, w, r5, r6, r7, r8], Lg)) o := by
              intro v15 ze28
              subst ze28
              exact ev_b 4 (zi19 _ (Option.some.inj zh21).symm ()) (fun n => Eq.refl _)
            obtain ⟨zt29, zh30, zh26⟩ := bnd zh26
            have zj31 : zt29 = .inl () → Ev (d + 2, 0, 0, 116, 124, [.val (.ref 1088), .val (.int p1), .val (.int v11), .val (.int v3), .val (.int x7), .val (.int (x8 / 3)), .val (.int v12)], [.int v11], (126, 120, L, [Y, T, HA, HB, RA, RB, ST, NS, I0, I1, I2, BO, FI, RG, GU, PU, MA, MN, MS_1, OT, SC], [r0, r1, r2, r3, w, r5, r6, r7, r8], Lg)) o := by
              intro ze32
              have zh26 := sum_l zh26 ze32
              exact ev_b 1 (zj27 0 (Option.some.inj zh26) ) (fun n => Eq.refl _)
            by_cases zc33 : ((a_shr x13 v12) &&& 1) ≠ 1
            · have zh30 := itp zh30 zc33
              suffices e : Ev (d + 2, 0, 0, 116, 124, [.val (.ref 1088), .val (.int p1), .val (.int v11), .val (.int v3), .val (.int x7), .val (.int (x8 / 3)), .val (.int v12)], [.int v11], (126, 120, L, [Y, T, HA, HB, RA, RB, ST, NS, I0, I1, I2, BO, FI, RG, GU, PU, MA, MN, MS_1, OT, SC], [r0, r1, r2, r3, w, r5, r6, r7, r8], Lg)) o from ev_t (c := ((a_shr x13 v12) &&& 1) ≠ 1) _ _ 6  zc33 e (fun n => Eq.refl _)
              exact ev_b 0 (zj31  (Option.some.inj zh30).symm ) (fun n => Eq.refl _)
            · have zh30 := itn zh30 zc33
              suffices e : Ev (d + 2, 0, 0, 116, 99, [.val (.ref 1088), .val (.int p1), .val (.int v11), .val (.int v3), .val (.int x7), .val (.int (x8 / 3)), .val (.int v12)], [.int v11], (126, 120, L, [Y, T, HA, HB, RA, RB, ST, NS, I0, I1, I2, BO, FI, RG, GU, PU, MA, MN, MS_1, OT, SC], [r0, r1, r2, r3, w, r5, r6, r7, r8], Lg)) o from ev_f (c := ((a_shr x13 v12) &&& 1) ≠ 1) _ _ 6  zc33 e (fun n => Eq.refl _)
              obtain ⟨x14, zh34, zh30⟩ := bnd zh30
              have zh34 : rdx (MA 4) 24 ((3 * v12) + 1) = some x14 := zh34
              suffices e : Ev (d + 2, 0, 0, 116, 113, [.val (.ref 1088), .val (.int p1), .val (.int v11), .val (.int v3), .val (.int x7), .val (.int (x8 / 3)), .val (.int v12)], [.int x14, .int p1, .int (x8 / 3), .int v11], (126, 120, L, [Y, T, HA, HB, RA, RB, ST, NS, I0, I1, I2, BO, FI, RG, GU, PU, MA, MN, MS_1, OT, SC], [r0, r1, r2, r3, w, r5, r6, r7, r8], Lg)) o from ev_opt (fun x14 => (d + 2, 0, 0, 116, 113, [.val (.ref 1088), .val (.int p1), .val (.int v11), .val (.int v3), .val (.int x7), .val (.int (x8 / 3)), .val (.int v12)], [.int x14, .int p1, .int (x8 / 3), .int v11], (126, 120, L, [Y, T, HA, HB, RA, RB, ST, NS, I0, I1, I2, BO, FI, RG, GU, PU, MA, MN, MS_1, OT, SC], [r0, r1, r2, r3, w, r5, r6, r7, r8], Lg))) 10 zh34 e (fun n => Eq.refl _)
              by_cases zc35 : (p1 + x14) ≤ (x8 / 3)
              · have zh30 := itp zh30 zc35
                suffices e : Ev (d + 2, 0, 0, 116, 124, [.val (.ref 1088), .val (.int p1), .val (.int v11), .val (.int v3), .val (.int x7), .val (.int (x8 / 3)), .val (.int v12)], [.int v11], (126, 120, L, [Y, T, HA, HB, RA, RB, ST, NS, I0, I1, I2, BO, FI, RG, GU, PU, MA, MN, MS_1, OT, SC], [r0, r1, r2, r3, w, r5, r6, r7, r8], Lg)) o from ev_t (c := (p1 + x14) ≤ (x8 / 3)) _ _ 2  zc35 e (fun n => Eq.refl _)
                exact ev_b 0 (zj31  (Option.some.inj zh30).symm ) (fun n => Eq.refl _)
              · have zh30 := itn zh30 zc35
                suffices e : Ev (d + 2, 0, 0, 116, 117, [.val (.ref 1088), .val (.int p1), .val (.int v11), .val (.int v3), .val (.int x7), .val (.int (x8 / 3)), .val (.int v12)], [.int v11], (126, 120, L, [Y, T, HA, HB, RA, RB, ST, NS, I0, I1, I2, BO, FI, RG, GU, PU, MA, MN, MS_1, OT, SC], [r0, r1, r2, r3, w, r5, r6, r7, r8], Lg)) o from ev_f (c := (p1 + x14) ≤ (x8 / 3)) _ _ 2  zc35 e (fun n => Eq.refl _)
                have zh36 := sum_r zh26 (Option.some.inj zh30).symm
                exact ev_b 4 (zj27 (a_shl 1 v12) (Option.some.inj zh36) ) (fun n => Eq.refl _)
        · skip
          intro s17
          exact ev_b 2 (zi5 _ (Option.some.inj zh7).symm ((.int x7), (.int (x8 / 3)), s17)) (fun n => Eq.refl _)
      by_cases zc37 : x9 = (-1)
      · have zh14 := itp zh14 zc37
        suffices e : Ev (d + 2, 0, 0, 116, 65, [.val (.ref 1088), .val (.int p1), .val (.int v2), .val (.int v3), .val (.int x7), .val (.int (x8 / 3)), .val s6], [], (126, 120, L, [Y, T, HA, HB, RA, RB, ST, NS, I0, I1, I2, BO, FI, RG, GU, PU, MA, MN, MS_1, OT, SC], [r0, r1, r2, r3, w, r5, r6, r7, r8], Lg)) o from ev_t (c := x9 = (-1)) _ _ 2  zc37 e (fun n => Eq.refl _)
        exact ev_b 0 (zj15  (Option.some.inj zh14).symm ) (fun n => Eq.refl _)
      · have zh14 := itn zh14 zc37
        suffices e : Ev (d + 2, 0, 0, 116, 48, [.val (.ref 1088), .val (.int p1), .val (.int v2), .val (.int v3), .val (.int x7), .val (.int (x8 / 3)), .val s6], [], (126, 120, L, [Y, T, HA, HB, RA, RB, ST, NS, I0, I1, I2, BO, FI, RG, GU, PU, MA, MN, MS_1, OT, SC], [r0, r1, r2, r3, w, r5, r6, r7, r8], Lg)) o from ev_f (c := x9 = (-1)) _ _ 2  zc37 e (fun n => Eq.refl _)
        obtain ⟨x10, zh38, zh14⟩ := bnd zh14
        have zh38 : rdx (MA 7) 10 x7 = some x10 := zh38
        suffices e : Ev (d + 2, 0, 0, 116, 55, [.val (.ref 1088), .val (.int p1), .val (.int v2), .val (.int v3), .val (.int x7), .val (.int (x8 / 3)), .val s6], [.int x10], (126, 120, L, [Y, T, HA, HB, RA, RB, ST, NS, I0, I1, I2, BO, FI, RG, GU, PU, MA, MN, MS_1, OT, SC], [r0, r1, r2, r3, w, r5, r6, r7, r8], Lg)) o from ev_opt (fun x10 => (d + 2, 0, 0, 116, 55, [.val (.ref 1088), .val (.int p1), .val (.int v2), .val (.int v3), .val (.int x7), .val (.int (x8 / 3)), .val s6], [.int x10], (126, 120, L, [Y, T, HA, HB, RA, RB, ST, NS, I0, I1, I2, BO, FI, RG, GU, PU, MA, MN, MS_1, OT, SC], [r0, r1, r2, r3, w, r5, r6, r7, r8], Lg))) 4 zh38 e (fun n => Eq.refl _)
        suffices e : Ev (d + 2, 0, 0, 116, 57, [.val (.ref 1088), .val (.int p1), .val (.int v2), .val (.int v3), .val (.int x7), .val (.int (x8 / 3)), .val s6], [.int (x10 / 3)], (126, 120, L, [Y, T, HA, HB, RA, RB, ST, NS, I0, I1, I2, BO, FI, RG, GU, PU, MA, MN, MS_1, OT, SC], [r0, r1, r2, r3, w, r5, r6, r7, r8], Lg)) o from ev_b 2 e (fun n => Eq.refl _)
        by_cases zc39 : (x10 / 3) ≠ (x8 / 3)
        · have zh14 := itp zh14 zc39
          suffices e : Ev (d + 2, 0, 0, 116, 65, [.val (.ref 1088), .val (.int p1), .val (.int v2), .val (.int v3), .val (.int x7), .val (.int (x8 / 3)), .val s6], [], (126, 120, L, [Y, T, HA, HB, RA, RB, ST, NS, I0, I1, I2, BO, FI, RG, GU, PU, MA, MN, MS_1, OT, SC], [r0, r1, r2, r3, w, r5, r6, r7, r8], Lg)) o from ev_t (c := (x10 / 3) ≠ (x8 / 3)) _ _ 2  zc39 e (fun n => Eq.refl _)
          exact ev_b 0 (zj15  (Option.some.inj zh14).symm ) (fun n => Eq.refl _)
        · have zh14 := itn zh14 zc39
          suffices e : Ev (d + 2, 0, 0, 116, 62, [.val (.ref 1088), .val (.int p1), .val (.int v2), .val (.int v3), .val (.int x7), .val (.int (x8 / 3)), .val s6], [], (126, 120, L, [Y, T, HA, HB, RA, RB, ST, NS, I0, I1, I2, BO, FI, RG, GU, PU, MA, MN, MS_1, OT, SC], [r0, r1, r2, r3, w, r5, r6, r7, r8], Lg)) o from ev_f (c := (x10 / 3) ≠ (x8 / 3)) _ _ 2  zc39 e (fun n => Eq.refl _)
          have zh40 := sum_r zh7 (Option.some.inj zh14).symm
          exact ev_b 3 (zi5 _ (Option.some.inj zh40).symm ((.int x7), (.int (x8 / 3)), s6)) (fun n => Eq.refl _)
  · skip
    intro s19 s20 s21 s22
    have ze41 := Option.some.inj h
    subst ze41
    exact ev_rete 2 ho (fun n => Eq.refl _)
set_option maxRecDepth 1000000 in
set_option maxHeartbeats 4000000 in
theorem R_f_M_news_0 (d : Nat) (Y T HA HB RA RB ST NS I0 I1 I2 BO FI RG GU PU MA MN MS OT SC : Nat → Nat → Int32) (r0 r1 r2 r3 w r5 r6 r7 r8 : Nat) (L : Nat) (Lg : Int64) (p1 : Int32) (p2 : Int32) {r : Int32 × (Nat → Nat → Int32) × (Nat → Nat → Int32)} (h : f_M_news MA MS p1 p2 = some r) : Ev (d + 3, 0, 0, 117, 0, [.val (.ref 1088), .val (.int p1), .val (.int p2)], [], (126, 120, L, [Y, T, HA, HB, RA, RB, ST, NS, I0, I1, I2, BO, FI, RG, GU, PU, MA, MN, MS, OT, SC], [r0, r1, r2, r3, w, r5, r6, r7, r8], Lg)) ((0, some (.int r.1), (126, 120, L, [Y, T, HA, HB, RA, RB, ST, NS, I0, I1, I2, BO, FI, RG, GU, PU, r.2.1, MN, r.2.2, OT, SC], [r0, r1, r2, r3, w, r5, r6, r7, r8], Lg)) : AOut) := by
  suffices key : ∀ o : AOut, ((0, some (.int r.1), (126, 120, L, [Y, T, HA, HB, RA, RB, ST, NS, I0, I1, I2, BO, FI, RG, GU, PU, r.2.1, MN, r.2.2, OT, SC], [r0, r1, r2, r3, w, r5, r6, r7, r8], Lg)) : AOut) = o → Ev (d + 3, 0, 0, 117, 0, [.val (.ref 1088), .val (.int p1), .val (.int p2)], [], (126, 120, L, [Y, T, HA, HB, RA, RB, ST, NS, I0, I1, I2, BO, FI, RG, GU, PU, MA, MN, MS, OT, SC], [r0, r1, r2, r3, w, r5, r6, r7, r8], Lg)) o from key _ rfl
  intro o ho
  obtain ⟨x1, zh1, h⟩ := bnd h
  have zh1 : f_M_within p1 0 (((u2 MA 0 0 0) 0 23) - 1) = some x1 := zh1
  have ze2 := R_f_M_within_0 (d + 2) Y T HA HB RA RB ST NS I0 I1 I2 BO FI RG GU PU (u2 MA 0 0 0) MN MS OT SC r0 r1 r2 r3 w r5 r6 r7 r8 L Lg p1 0 (((u2 MA 0 0 0) 0 23) - 1) zh1
  suffices e : Ev (d + 3, 0, 0, 117, 17, [.val (.ref 1088), .val (.int p1), .val (.int p2)], [.int x1, .ref 1088], (126, 120, L, [Y, T, HA, HB, RA, RB, ST, NS, I0, I1, I2, BO, FI, RG, GU, PU, (u2 MA 0 0 0), MN, MS, OT, SC], [r0, r1, r2, r3, w, r5, r6, r7, r8], Lg)) o from ev_call (fun v μ => (d + 3, 0, 0, 117, 17, [.val (.ref 1088), .val (.int p1), .val (.int p2)], v.toList ++ [.ref 1088], μ)) 11 ze2 e (fun n => Eq.refl _)
  obtain ⟨zt3, zh4, h⟩ := bnd h
  have zj5 : ∀ (v3 : Int32), v3 = zt3 → Ev (d + 3, 0, 0, 117, 34, [.val (.ref 1088), .val (.int p1), .val (.int p2)], [.int v3, .ref 1088], (126, 120, L, [Y, T, HA, HB, RA, RB, ST, NS, I0, I1, I2, BO, FI, RG, GU, PU, (u2 MA 0 0 0), MN, MS, OT, SC], [r0, r1, r2, r3, w, r5, r6, r7, r8], Lg)) o := by
    intro v3 ze6
    subst ze6
    obtain ⟨⟨x4, MA_5⟩, zh7, h⟩ := bnd h
    have zh7 : f_M_may (u2 MA 0 0 0) v3 1 1 = some (x4, MA_5) := zh7
    have ze8 := R_f_M_may_0 (d + 2) Y T HA HB RA RB ST NS I0 I1 I2 BO FI RG GU PU (u2 MA 0 0 0) MN MS OT SC r0 r1 r2 r3 w r5 r6 r7 r8 L Lg v3 1 1 zh7
    suffices e : Ev (d + 3, 0, 0, 117, 39, [.val (.ref 1088), .val (.int p1), .val (.int p2)], [.int x4], (126, 120, L, [Y, T, HA, HB, RA, RB, ST, NS, I0, I1, I2, BO, FI, RG, GU, PU, MA_5, MN, MS, OT, SC], [r0, r1, r2, r3, w, r5, r6, r7, r8], Lg)) o from ev_call (fun v μ => (d + 3, 0, 0, 117, 39, [.val (.ref 1088), .val (.int p1), .val (.int p2)], v.toList ++ [], μ)) 3 ze8 e (fun n => Eq.refl _)
    by_cases zc9 : x4 ≠ 0
    · have h := itp h zc9
      suffices e : Ev (d + 3, 0, 0, 117, 44, [.val (.ref 1088), .val (.int p1), .val (.int p2)], [], (126, 120, L, [Y, T, HA, HB, RA, RB, ST, NS, I0, I1, I2, BO, FI, RG, GU, PU, MA_5, MN, MS, OT, SC], [r0, r1, r2, r3, w, r5, r6, r7, r8], Lg)) o from ev_t (c := x4 ≠ 0) _ _ 1  zc9 e (fun n => Eq.refl _)
      by_cases zc10 : p2 ≠ 0
      · have h := itp h zc10
        suffices e : Ev (d + 3, 0, 0, 117, 59, [.val (.ref 1088), .val (.int p1), .val (.int p2)], [], (126, 120, L, [Y, T, HA, HB, RA, RB, ST, NS, I0, I1, I2, BO, FI, RG, GU, PU, MA_5, MN, MS, OT, SC], [r0, r1, r2, r3, w, r5, r6, r7, r8], Lg)) o from ev_t (c := p2 ≠ 0) _ _ 2  zc10 e (fun n => Eq.refl _)
        obtain ⟨⟨x6, MS_7⟩, zh11, h⟩ := bnd h
        have zh11 : f_M_missed MA_5 MS p1 = some (x6, MS_7) := zh11
        have ze12 := R_f_M_missed_0 (d + 0) Y T HA HB RA RB ST NS I0 I1 I2 BO FI RG GU PU MA_5 MN MS OT SC r0 r1 r2 r3 w r5 r6 r7 r8 L Lg p1 zh11
        suffices e : Ev (d + 3, 0, 0, 117, 64, [.val (.ref 1088), .val (.int p1), .val (.int p2)], [.int x6], (126, 120, L, [Y, T, HA, HB, RA, RB, ST, NS, I0, I1, I2, BO, FI, RG, GU, PU, MA_5, MN, MS_7, OT, SC], [r0, r1, r2, r3, w, r5, r6, r7, r8], Lg)) o from ev_call (fun v μ => (d + 3, 0, 0, 117, 64, [.val (.ref 1088), .val (.int p1), .val (.int p2)], v.toList ++ [], μ)) 3 ze12 e (fun n => Eq.refl _)
        have ze13 := Option.some.inj h
        subst ze13
        exact ev_rete 1 ho (fun n => Eq.refl _)
      · have h := itn h zc10
        suffices e : Ev (d + 3, 0, 0, 117, 48, [.val (.ref 1088), .val (.int p1), .val (.int p2)], [], (126, 120, L, [Y, T, HA, HB, RA, RB, ST, NS, I0, I1, I2, BO, FI, RG, GU, PU, MA_5, MN, MS, OT, SC], [r0, r1, r2, r3, w, r5, r6, r7, r8], Lg)) o from ev_f (c := p2 ≠ 0) _ _ 2  zc10 e (fun n => Eq.refl _)
        obtain ⟨⟨x8, MS_9⟩, zh14, h⟩ := bnd h
        have zh14 : f_M_missed MA_5 MS p1 = some (x8, MS_9) := zh14
        have ze15 := R_f_M_missed_0 (d + 0) Y T HA HB RA RB ST NS I0 I1 I2 BO FI RG GU PU MA_5 MN MS OT SC r0 r1 r2 r3 w r5 r6 r7 r8 L Lg p1 zh14
        suffices e : Ev (d + 3, 0, 0, 117, 53, [.val (.ref 1088), .val (.int p1), .val (.int p2)], [.int x8], (126, 120, L, [Y, T, HA, HB, RA, RB, ST, NS, I0, I1, I2, BO, FI, RG, GU, PU, MA_5, MN, MS_9, OT, SC], [r0, r1, r2, r3, w, r5, r6, r7, r8], Lg)) o from ev_call (fun v μ => (d + 3, 0, 0, 117, 53, [.val (.ref 1088), .val (.int p1), .val (.int p2)], v.toList ++ [], μ)) 3 ze15 e (fun n => Eq.refl _)
        obtain ⟨x10, zh16, h⟩ := bnd h
        have zh16 : f_M_ones x8 = some x10 := zh16
        have ze17 := R_f_M_ones_0 (d + 2) Y T HA HB RA RB ST NS I0 I1 I2 BO FI RG GU PU MA_5 MN MS_9 OT SC r0 r1 r2 r3 w r5 r6 r7 r8 L Lg x8 zh16
        suffices e : Ev (d + 3, 0, 0, 117, 56, [.val (.ref 1088), .val (.int p1), .val (.int p2)], [.int x10], (126, 120, L, [Y, T, HA, HB, RA, RB, ST, NS, I0, I1, I2, BO, FI, RG, GU, PU, MA_5, MN, MS_9, OT, SC], [r0, r1, r2, r3, w, r5, r6, r7, r8], Lg)) o from ev_call (fun v μ => (d + 3, 0, 0, 117, 56, [.val (.ref 1088), .val (.int p1), .val (.int p2)], v.toList ++ [], μ)) 1 ze17 e (fun n => Eq.refl _)
        have ze18 := Option.some.inj h
        subst ze18
        exact ev_rete 2 ho (fun n => Eq.refl _)
    · have h := itn h zc9
      suffices e : Ev (d + 3, 0, 0, 117, 42, [.val (.ref 1088), .val (.int p1), .val (.int p2)], [], (126, 120, L, [Y, T, HA, HB, RA, RB, ST, NS, I0, I1, I2, BO, FI, RG, GU, PU, MA_5, MN, MS, OT, SC], [r0, r1, r2, r3, w, r5, r6, r7, r8], Lg)) o from ev_f (c := x4 ≠ 0) _ _ 1  zc9 e (fun n => Eq.refl _)
      have ze19 := Option.some.inj h
      subst ze19
      exact ev_rete 2 ho (fun n => Eq.refl _)
  obtain ⟨zt20, zh21, zh4⟩ := bnd zh4
  have zj22 : zt20 = .inl () → Ev (d + 3, 0, 0, 117, 33, [.val (.ref 1088), .val (.int p1), .val (.int p2)], [.ref 1088], (126, 120, L, [Y, T, HA, HB, RA, RB, ST, NS, I0, I1, I2, BO, FI, RG, GU, PU, (u2 MA 0 0 0), MN, MS, OT, SC], [r0, r1, r2, r3, w, r5, r6, r7, r8], Lg)) o := by
    intro ze23
    have zh4 := sum_l zh4 ze23
    exact ev_b 1 (zj5 0 (Option.some.inj zh4) ) (fun n => Eq.refl _)
  by_cases zc24 : x1 = 0
  · have zh21 := itp zh21 zc24
    suffices e : Ev (d + 3, 0, 0, 117, 33, [.val (.ref 1088), .val (.int p1), .val (.int p2)], [.ref 1088], (126, 120, L, [Y, T, HA, HB, RA, RB, ST, NS, I0, I1, I2, BO, FI, RG, GU, PU, (u2 MA 0 0 0), MN, MS, OT, SC], [r0, r1, r2, r3, w, r5, r6, r7, r8], Lg)) o from ev_t (c := x1 = 0) _ _ 1  zc24 e (fun n => Eq.refl _)
    exact ev_b 0 (zj22  (Option.some.inj zh21).symm ) (fun n => Eq.refl _)
  · have zh21 := itn zh21 zc24
    suffices e : Ev (d + 3, 0, 0, 117, 20, [.val (.ref 1088), .val (.int p1), .val (.int p2)], [.ref 1088], (126, 120, L, [Y, T, HA, HB, RA, RB, ST, NS, I0, I1, I2, BO, FI, RG, GU, PU, (u2 MA 0 0 0), MN, MS, OT, SC], [r0, r1, r2, r3, w, r5, r6, r7, r8], Lg)) o from ev_f (c := x1 = 0) _ _ 1  zc24 e (fun n => Eq.refl _)
    obtain ⟨x2, zh25, zh21⟩ := bnd zh21
    have zh25 : f_M_within p2 0 1 = some x2 := zh25
    have ze26 := R_f_M_within_0 (d + 2) Y T HA HB RA RB ST NS I0 I1 I2 BO FI RG GU PU (u2 MA 0 0 0) MN MS OT SC r0 r1 r2 r3 w r5 r6 r7 r8 L Lg p2 0 1 zh25
    suffices e : Ev (d + 3, 0, 0, 117, 26, [.val (.ref 1088), .val (.int p1), .val (.int p2)], [.int x2, .ref 1088], (126, 120, L, [Y, T, HA, HB, RA, RB, ST, NS, I0, I1, I2, BO, FI, RG, GU, PU, (u2 MA 0 0 0), MN, MS, OT, SC], [r0, r1, r2, r3, w, r5, r6, r7, r8], Lg)) o from ev_call (fun v μ => (d + 3, 0, 0, 117, 26, [.val (.ref 1088), .val (.int p1), .val (.int p2)], v.toList ++ [.ref 1088], μ)) 4 ze26 e (fun n => Eq.refl _)
    by_cases zc27 : x2 = 0
    · have zh21 := itp zh21 zc27
      suffices e : Ev (d + 3, 0, 0, 117, 33, [.val (.ref 1088), .val (.int p1), .val (.int p2)], [.ref 1088], (126, 120, L, [Y, T, HA, HB, RA, RB, ST, NS, I0, I1, I2, BO, FI, RG, GU, PU, (u2 MA 0 0 0), MN, MS, OT, SC], [r0, r1, r2, r3, w, r5, r6, r7, r8], Lg)) o from ev_t (c := x2 = 0) _ _ 1  zc27 e (fun n => Eq.refl _)
      exact ev_b 0 (zj22  (Option.some.inj zh21).symm ) (fun n => Eq.refl _)
    · have zh21 := itn zh21 zc27
      suffices e : Ev (d + 3, 0, 0, 117, 29, [.val (.ref 1088), .val (.int p1), .val (.int p2)], [.ref 1088], (126, 120, L, [Y, T, HA, HB, RA, RB, ST, NS, I0, I1, I2, BO, FI, RG, GU, PU, (u2 MA 0 0 0), MN, MS, OT, SC], [r0, r1, r2, r3, w, r5, r6, r7, r8], Lg)) o from ev_f (c := x2 = 0) _ _ 1  zc27 e (fun n => Eq.refl _)
      have zh28 := sum_r zh4 (Option.some.inj zh21).symm
      exact ev_b 2 (zj5 1 (Option.some.inj zh28) ) (fun n => Eq.refl _)
set_option maxRecDepth 1000000 in
set_option maxHeartbeats 4000000 in
theorem R_f_M_latest_0 (d : Nat) (Y T HA HB RA RB ST NS I0 I1 I2 BO FI RG GU PU MA MN MS OT SC : Nat → Nat → Int32) (r0 r1 r2 r3 w r5 r6 r7 r8 : Nat) (L : Nat) (Lg : Int64) {r : Int32 × (Nat → Nat → Int32) × (Nat → Nat → Int32)} (h : f_M_latest MA MS = some r) : Ev (d + 3, 0, 0, 118, 0, [.val (.ref 1088), .val a_unk], [], (126, 120, L, [Y, T, HA, HB, RA, RB, ST, NS, I0, I1, I2, BO, FI, RG, GU, PU, MA, MN, MS, OT, SC], [r0, r1, r2, r3, w, r5, r6, r7, r8], Lg)) ((0, some (.int r.1), (126, 120, L, [Y, T, HA, HB, RA, RB, ST, NS, I0, I1, I2, BO, FI, RG, GU, PU, r.2.1, MN, r.2.2, OT, SC], [r0, r1, r2, r3, w, r5, r6, r7, r8], Lg)) : AOut) := by
  suffices key : ∀ o : AOut, ((0, some (.int r.1), (126, 120, L, [Y, T, HA, HB, RA, RB, ST, NS, I0, I1, I2, BO, FI, RG, GU, PU, r.2.1, MN, r.2.2, OT, SC], [r0, r1, r2, r3, w, r5, r6, r7, r8], Lg)) : AOut) = o → Ev (d + 3, 0, 0, 118, 0, [.val (.ref 1088), .val a_unk], [], (126, 120, L, [Y, T, HA, HB, RA, RB, ST, NS, I0, I1, I2, BO, FI, RG, GU, PU, MA, MN, MS, OT, SC], [r0, r1, r2, r3, w, r5, r6, r7, r8], Lg)) o from key _ rfl
  intro o ho
  obtain ⟨zb1, zh2, h⟩ := bnd h
  suffices e : Ev (d + 3, 0, 0, 118, 12, [.val (.ref 1088), .val (.int (((u2 MA 0 0 0) 0 23) - 1))], [], (126, 120, L, [Y, T, HA, HB, RA, RB, ST, NS, I0, I1, I2, BO, FI, RG, GU, PU, (u2 MA 0 0 0), MN, MS, OT, SC], [r0, r1, r2, r3, w, r5, r6, r7, r8], Lg)) o from ev_b 8 e (fun n => Eq.refl _)
  refine ev_loop (δ := Unit) (fun a j => (d + 3, 0, 0, 118, 12, [.val (.ref 1088), .val (.int a.1)], [], (126, 120, L, [Y, T, HA, HB, RA, RB, ST, NS, I0, I1, I2, BO, FI, RG, GU, PU, (u2 MA 0 0 0), MN, a.2, OT, SC], [r0, r1, r2, r3, w, r5, r6, r7, r8], Lg))) (fun b => sumE b (fun b => ∀ s5 : Value, Ev (d + 3, 0, 0, 118, 32, [.val (.ref 1088), .val s5], [], (126, 120, L, [Y, T, HA, HB, RA, RB, ST, NS, I0, I1, I2, BO, FI, RG, GU, PU, (u2 MA 0 0 0), MN, b, OT, SC], [r0, r1, r2, r3, w, r5, r6, r7, r8], Lg)) o) (fun b => ((0, some (.int b.1), (126, 120, L, [Y, T, HA, HB, RA, RB, ST, NS, I0, I1, I2, BO, FI, RG, GU, PU, b.2.1, MN, b.2.2, OT, SC], [r0, r1, r2, r3, w, r5, r6, r7, r8], Lg)) : AOut) = o)) ?_ a_F ((((u2 MA 0 0 0) 0 23) - 1), MS) zb1 zh2 ?_ ()
  · rintro ⟨v1, MS_2⟩ zr6 zh5 zi3 zx4 ⟨⟩
    have zh5 : f_M_latest_l12 MA v1 MS_2 = some zr6 := zh5
    by_cases zc7 : v1 < 0
    · have zh5 := itp zh5 zc7
      suffices e : Ev (d + 3, 0, 0, 118, 32, [.val (.ref 1088), .val (.int v1)], [], (126, 120, L, [Y, T, HA, HB, RA, RB, ST, NS, I0, I1, I2, BO, FI, RG, GU, PU, (u2 MA 0 0 0), MN, MS_2, OT, SC], [r0, r1, r2, r3, w, r5, r6, r7, r8], Lg)) o from ev_t (c := v1 < 0) _ _ 2  zc7 e (fun n => Eq.refl _)
      exact ev_b 0 (zx4 _ (Option.some.inj zh5).symm (.int v1)) (fun n => Eq.refl _)
    · have zh5 := itn zh5 zc7
      suffices e : Ev (d + 3, 0, 0, 118, 16, [.val (.ref 1088), .val (.int v1)], [], (126, 120, L, [Y, T, HA, HB, RA, RB, ST, NS, I0, I1, I2, BO, FI, RG, GU, PU, (u2 MA 0 0 0), MN, MS_2, OT, SC], [r0, r1, r2, r3, w, r5, r6, r7, r8], Lg)) o from ev_f (c := v1 < 0) _ _ 2  zc7 e (fun n => Eq.refl _)
      obtain ⟨⟨x3, MS_4⟩, zh8, zh5⟩ := bnd zh5
      have zh8 : f_M_missed (u2 MA 0 0 0) MS_2 v1 = some (x3, MS_4) := zh8
      have ze9 := R_f_M_missed_0 (d + 0) Y T HA HB RA RB ST NS I0 I1 I2 BO FI RG GU PU (u2 MA 0 0 0) MN MS_2 OT SC r0 r1 r2 r3 w r5 r6 r7 r8 L Lg v1 zh8
      suffices e : Ev (d + 3, 0, 0, 118, 21, [.val (.ref 1088), .val (.int v1)], [.int x3], (126, 120, L, [Y, T, HA, HB, RA, RB, ST, NS, I0, I1, I2, BO, FI, RG, GU, PU, (u2 MA 0 0 0), MN, MS_4, OT, SC], [r0, r1, r2, r3, w, r5, r6, r7, r8], Lg)) o from ev_call (fun v μ => (d + 3, 0, 0, 118, 21, [.val (.ref 1088), .val (.int v1)], v.toList ++ [], μ)) 3 ze9 e (fun n => Eq.refl _)
      by_cases zc10 : x3 ≠ 0
      · have zh5 := itp zh5 zc10
        suffices e : Ev (d + 3, 0, 0, 118, 26, [.val (.ref 1088), .val (.int v1)], [], (126, 120, L, [Y, T, HA, HB, RA, RB, ST, NS, I0, I1, I2, BO, FI, RG, GU, PU, (u2 MA 0 0 0), MN, MS_4, OT, SC], [r0, r1, r2, r3, w, r5, r6, r7, r8], Lg)) o from ev_t (c := x3 ≠ 0) _ _ 1  zc10 e (fun n => Eq.refl _)
        suffices e : Ev (d + 3, 0, 0, 118, 29, [.val (.ref 1088), .val (.int (v1 + (-1)))], [], (126, 120, L, [Y, T, HA, HB, RA, RB, ST, NS, I0, I1, I2, BO, FI, RG, GU, PU, (u2 MA 0 0 0), MN, MS_4, OT, SC], [r0, r1, r2, r3, w, r5, r6, r7, r8], Lg)) o from ev_b 1 e (fun n => Eq.refl _)
        exact ev_b 1 (zi3 _ (Option.some.inj zh5).symm ()) (fun n => Eq.refl _)
      · have zh5 := itn zh5 zc10
        suffices e : Ev (d + 3, 0, 0, 118, 24, [.val (.ref 1088), .val (.int v1)], [], (126, 120, L, [Y, T, HA, HB, RA, RB, ST, NS, I0, I1, I2, BO, FI, RG, GU, PU, (u2 MA 0 0 0), MN, MS_4, OT, SC], [r0, r1, r2, r3, w, r5, r6, r7, r8], Lg)) o from ev_f (c := x3 ≠ 0) _ _ 1  zc10 e (fun n => Eq.refl _)
        exact ev_rete 2 (zx4 _ (Option.some.inj zh5).symm) (fun n => Eq.refl _)
  · rcases zb1 with MS_6 | zr6
    · intro s5
      have ze11 := Option.some.inj h
      subst ze11
      exact ev_rete 2 ho (fun n => Eq.refl _)
    · have zh12 : some zr6 = some r := h
      exact (congrArg (fun q => ((0, some (.int q.1), (126, 120, L, [Y, T, HA, HB, RA, RB, ST, NS, I0, I1, I2, BO, FI, RG, GU, PU, q.2.1, MN, q.2.2, OT, SC], [r0, r1, r2, r3, w, r5, r6, r7, r8], Lg)) : AOut)) (Option.some.inj zh12)).trans ho
set_option maxRecDepth 1000000 in
set_option maxHeartbeats 4000000 in
theorem R_f_M_follow_0 (d : Nat) (Y T HA HB RA RB ST NS I0 I1 I2 BO FI RG GU PU MA MN MS OT SC : Nat → Nat → Int32) (r0 r1 r2 r3 w r5 r6 r7 r8 : Nat) (L : Nat) (Lg : Int64) {r : Int32 × (Nat → Nat → Int32) × (Nat → Nat → Int32)} (h : f_M_follow MA MS = some r) : Ev (d + 4, 0, 0, 119, 0, [.val (.ref 1088), .val a_unk, .val a_unk, .val a_unk], [], (126, 120, L, [Y, T, HA, HB, RA, RB, ST, NS, I0, I1, I2, BO, FI, RG, GU, PU, MA, MN, MS, OT, SC], [r0, r1, r2, r3, w, r5, r6, r7, r8], Lg)) ((0, some (.int r.1), (126, 120, L, [Y, T, HA, HB, RA, RB, ST, NS, I0, I1, I2, BO, FI, RG, GU, PU, r.2.1, MN, r.2.2, OT, SC], [r0, r1, r2, r3, w, r5, r6, r7, r8], Lg)) : AOut) := by
  suffices key : ∀ o : AOut, ((0, some (.int r.1), (126, 120, L, [Y, T, HA, HB, RA, RB, ST, NS, I0, I1, I2, BO, FI, RG, GU, PU, r.2.1, MN, r.2.2, OT, SC], [r0, r1, r2, r3, w, r5, r6, r7, r8], Lg)) : AOut) = o → Ev (d + 4, 0, 0, 119, 0, [.val (.ref 1088), .val a_unk, .val a_unk, .val a_unk], [], (126, 120, L, [Y, T, HA, HB, RA, RB, ST, NS, I0, I1, I2, BO, FI, RG, GU, PU, MA, MN, MS, OT, SC], [r0, r1, r2, r3, w, r5, r6, r7, r8], Lg)) o from key _ rfl
  intro o ho
  obtain ⟨⟨x1, MS_2⟩, zh1, h⟩ := bnd h
  have zh1 : f_M_apartNow (u2 MA 0 0 0) MS = some (x1, MS_2) := zh1
  have ze2 := R_f_M_apartNow_0 (d + 1) Y T HA HB RA RB ST NS I0 I1 I2 BO FI RG GU PU (u2 MA 0 0 0) MN MS OT SC r0 r1 r2 r3 w r5 r6 r7 r8 L Lg zh1
  suffices e : Ev (d + 4, 0, 0, 119, 9, [.val (.ref 1088), .val a_unk, .val a_unk, .val a_unk], [.int x1], (126, 120, L, [Y, T, HA, HB, RA, RB, ST, NS, I0, I1, I2, BO, FI, RG, GU, PU, (u2 MA 0 0 0), MN, MS_2, OT, SC], [r0, r1, r2, r3, w, r5, r6, r7, r8], Lg)) o from ev_call (fun v μ => (d + 4, 0, 0, 119, 9, [.val (.ref 1088), .val a_unk, .val a_unk, .val a_unk], v.toList ++ [], μ)) 5 ze2 e (fun n => Eq.refl _)
  by_cases zc3 : x1 ≠ 0
  · have h := itp h zc3
    suffices e : Ev (d + 4, 0, 0, 119, 16, [.val (.ref 1088), .val (.int x1), .val a_unk, .val a_unk], [], (126, 120, L, [Y, T, HA, HB, RA, RB, ST, NS, I0, I1, I2, BO, FI, RG, GU, PU, (u2 MA 0 0 0), MN, MS_2, OT, SC], [r0, r1, r2, r3, w, r5, r6, r7, r8], Lg)) o from ev_t (c := x1 ≠ 0) _ _ 3  zc3 e (fun n => Eq.refl _)
    by_cases zc4 : ((u2 MA 0 0 0) 0 43) ≠ 30
    · have h := itp h zc4
      suffices e : Ev (d + 4, 0, 0, 119, 28, [.val (.ref 1088), .val (.int x1), .val a_unk, .val a_unk], [], (126, 120, L, [Y, T, HA, HB, RA, RB, ST, NS, I0, I1, I2, BO, FI, RG, GU, PU, (u2 MA 0 0 0), MN, MS_2, OT, SC], [r0, r1, r2, r3, w, r5, r6, r7, r8], Lg)) o from ev_t (c := ((u2 MA 0 0 0) 0 43) ≠ 30) _ _ 4  zc4 e (fun n => Eq.refl _)
      obtain ⟨x3, zh5, h⟩ := bnd h
      have zh5 : f_M_isLawful (u2 MA 0 0 0) (MS_2 1) = some x3 := zh5
      have ze6 := R_f_M_isLawful_1 (d + 0) Y T HA HB RA RB ST NS I0 I1 I2 BO FI RG GU PU (u2 MA 0 0 0) MN MS_2 OT SC r0 r1 r2 r3 w r5 r6 r7 r8 L Lg zh5
      suffices e : Ev (d + 4, 0, 0, 119, 36, [.val (.ref 1088), .val (.int x1), .val a_unk, .val a_unk], [.int x3], (126, 120, L, [Y, T, HA, HB, RA, RB, ST, NS, I0, I1, I2, BO, FI, RG, GU, PU, (u2 MA 0 0 0), MN, MS_2, OT, SC], [r0, r1, r2, r3, w, r5, r6, r7, r8], Lg)) o from ev_call (fun v μ => (d + 4, 0, 0, 119, 36, [.val (.ref 1088), .val (.int x1), .val a_unk, .val a_unk], v.toList ++ [], μ)) 4 ze6 e (fun n => Eq.refl _)
      obtain ⟨v7, zh8, h⟩ := bnd h
      suffices e : Ev (d + 4, 0, 0, 119, 39, [.val (.ref 1088), .val (.int x1), .val (.int x3), .val (.int 0)], [], (126, 120, L, [Y, T, HA, HB, RA, RB, ST, NS, I0, I1, I2, BO, FI, RG, GU, PU, (u2 MA 0 0 0), MN, MS_2, OT, SC], [r0, r1, r2, r3, w, r5, r6, r7, r8], Lg)) o from ev_b 3 e (fun n => Eq.refl _)
      refine ev_loop (δ := Unit) (fun a j => (d + 4, 0, 0, 119, 39, [.val (.ref 1088), .val (.int x1), .val (.int a.1), .val (.int a.2)], [], (126, 120, L, [Y, T, HA, HB, RA, RB, ST, NS, I0, I1, I2, BO, FI, RG, GU, PU, (u2 MA 0 0 0), MN, MS_2, OT, SC], [r0, r1, r2, r3, w, r5, r6, r7, r8], Lg))) (fun b => ∀ s8 : Value, Ev (d + 4, 0, 0, 119, 79, [.val (.ref 1088), .val (.int x1), .val (.int b), .val s8], [], (126, 120, L, [Y, T, HA, HB, RA, RB, ST, NS, I0, I1, I2, BO, FI, RG, GU, PU, (u2 MA 0 0 0), MN, MS_2, OT, SC], [r0, r1, r2, r3, w, r5, r6, r7, r8], Lg)) o) ?_ a_F (x3, 0) v7 zh8 ?_ ()
      · rintro ⟨v4, v5⟩ zr12 zh11 zi9 zx10 ⟨⟩
        have zh11 : f_M_follow_l39 MA x1 v4 v5 = some zr12 := zh11
        by_cases zc13 : ((u2 MA 0 0 0) 0 26) ≤ v5
        · have zh11 := itp zh11 zc13
          suffices e : Ev (d + 4, 0, 0, 119, 79, [.val (.ref 1088), .val (.int x1), .val (.int v4), .val (.int v5)], [], (126, 120, L, [Y, T, HA, HB, RA, RB, ST, NS, I0, I1, I2, BO, FI, RG, GU, PU, (u2 MA 0 0 0), MN, MS_2, OT, SC], [r0, r1, r2, r3, w, r5, r6, r7, r8], Lg)) o from ev_t (c := ((u2 MA 0 0 0) 0 26) ≤ v5) _ _ 4  zc13 e (fun n => Eq.refl _)
          exact ev_b 0 (zx10 _ (Option.some.inj zh11).symm (.int v5)) (fun n => Eq.refl _)
        · have zh11 := itn zh11 zc13
          suffices e : Ev (d + 4, 0, 0, 119, 47, [.val (.ref 1088), .val (.int x1), .val (.int v4), .val (.int v5)], [], (126, 120, L, [Y, T, HA, HB, RA, RB, ST, NS, I0, I1, I2, BO, FI, RG, GU, PU, (u2 MA 0 0 0), MN, MS_2, OT, SC], [r0, r1, r2, r3, w, r5, r6, r7, r8], Lg)) o from ev_f (c := ((u2 MA 0 0 0) 0 26) ≤ v5) _ _ 4  zc13 e (fun n => Eq.refl _)
          by_cases zc14 : v4 = 0
          · have zh11 := itp zh11 zc14
            suffices e : Ev (d + 4, 0, 0, 119, 71, [.val (.ref 1088), .val (.int x1), .val (.int v4), .val (.int v5)], [], (126, 120, L, [Y, T, HA, HB, RA, RB, ST, NS, I0, I1, I2, BO, FI, RG, GU, PU, (u2 MA 0 0 0), MN, MS_2, OT, SC], [r0, r1, r2, r3, w, r5, r6, r7, r8], Lg)) o from ev_t (c := v4 = 0) _ _ 2  zc14 e (fun n => Eq.refl _)
            exact ev_b 4 (zi9 _ (Option.some.inj zh11).symm ()) (fun n => Eq.refl _)
          · have zh11 := itn zh11 zc14
            suffices e : Ev (d + 4, 0, 0, 119, 51, [.val (.ref 1088), .val (.int x1), .val (.int v4), .val (.int v5)], [], (126, 120, L, [Y, T, HA, HB, RA, RB, ST, NS, I0, I1, I2, BO, FI, RG, GU, PU, (u2 MA 0 0 0), MN, MS_2, OT, SC], [r0, r1, r2, r3, w, r5, r6, r7, r8], Lg)) o from ev_f (c := v4 = 0) _ _ 2  zc14 e (fun n => Eq.refl _)
            obtain ⟨zt15, zh16, zh11⟩ := bnd zh11
            have zj17 : zt15 = .inl () → Ev (d + 4, 0, 0, 119, 67, [.val (.ref 1088), .val (.int x1), .val (.int v4), .val (.int v5)], [], (126, 120, L, [Y, T, HA, HB, RA, RB, ST, NS, I0, I1, I2, BO, FI, RG, GU, PU, (u2 MA 0 0 0), MN, MS_2, OT, SC], [r0, r1, r2, r3, w, r5, r6, r7, r8], Lg)) o := by
              intro ze18
              have zh11 := sum_l zh11 ze18
              exact ev_b 5 (zi9 _ (Option.some.inj zh11).symm ()) (fun n => Eq.refl _)
            by_cases zc19 : ((a_shr x1 v5) &&& 1) = 0
            · have zh16 := itp zh16 zc19
              suffices e : Ev (d + 4, 0, 0, 119, 67, [.val (.ref 1088), .val (.int x1), .val (.int v4), .val (.int v5)], [], (126, 120, L, [Y, T, HA, HB, RA, RB, ST, NS, I0, I1, I2, BO, FI, RG, GU, PU, (u2 MA 0 0 0), MN, MS_2, OT, SC], [r0, r1, r2, r3, w, r5, r6, r7, r8], Lg)) o from ev_t (c := ((a_shr x1 v5) &&& 1) = 0) _ _ 6  zc19 e (fun n => Eq.refl _)
              exact ev_b 0 (zj17  (Option.some.inj zh16).symm ) (fun n => Eq.refl _)
            · have zh16 := itn zh16 zc19
              suffices e : Ev (d + 4, 0, 0, 119, 59, [.val (.ref 1088), .val (.int x1), .val (.int v4), .val (.int v5)], [], (126, 120, L, [Y, T, HA, HB, RA, RB, ST, NS, I0, I1, I2, BO, FI, RG, GU, PU, (u2 MA 0 0 0), MN, MS_2, OT, SC], [r0, r1, r2, r3, w, r5, r6, r7, r8], Lg)) o from ev_f (c := ((a_shr x1 v5) &&& 1) = 0) _ _ 6  zc19 e (fun n => Eq.refl _)
              obtain ⟨x6, zh20, zh16⟩ := bnd zh16
              have zh20 : f_M_isFixed (u2 MA 0 0 0) v5 = some x6 := zh20
              have ze21 := R_f_M_isFixed_0 (d + 3) Y T HA HB RA RB ST NS I0 I1 I2 BO FI RG GU PU (u2 MA 0 0 0) MN MS_2 OT SC r0 r1 r2 r3 w r5 r6 r7 r8 L Lg v5 zh20
              suffices e : Ev (d + 4, 0, 0, 119, 64, [.val (.ref 1088), .val (.int x1), .val (.int v4), .val (.int v5)], [.int x6], (126, 120, L, [Y, T, HA, HB, RA, RB, ST, NS, I0, I1, I2, BO, FI, RG, GU, PU, (u2 MA 0 0 0), MN, MS_2, OT, SC], [r0, r1, r2, r3, w, r5, r6, r7, r8], Lg)) o from ev_call (fun v μ => (d + 4, 0, 0, 119, 64, [.val (.ref 1088), .val (.int x1), .val (.int v4), .val (.int v5)], v.toList ++ [], μ)) 3 ze21 e (fun n => Eq.refl _)
              by_cases zc22 : x6 ≠ 0
              · have zh16 := itp zh16 zc22
                suffices e : Ev (d + 4, 0, 0, 119, 71, [.val (.ref 1088), .val (.int x1), .val (.int v4), .val (.int v5)], [], (126, 120, L, [Y, T, HA, HB, RA, RB, ST, NS, I0, I1, I2, BO, FI, RG, GU, PU, (u2 MA 0 0 0), MN, MS_2, OT, SC], [r0, r1, r2, r3, w, r5, r6, r7, r8], Lg)) o from ev_t (c := x6 ≠ 0) _ _ 1  zc22 e (fun n => Eq.refl _)
                have zh23 := sum_r zh11 (Option.some.inj zh16).symm
                exact ev_b 4 (zi9 _ (Option.some.inj zh23).symm ()) (fun n => Eq.refl _)
              · have zh16 := itn zh16 zc22
                suffices e : Ev (d + 4, 0, 0, 119, 67, [.val (.ref 1088), .val (.int x1), .val (.int v4), .val (.int v5)], [], (126, 120, L, [Y, T, HA, HB, RA, RB, ST, NS, I0, I1, I2, BO, FI, RG, GU, PU, (u2 MA 0 0 0), MN, MS_2, OT, SC], [r0, r1, r2, r3, w, r5, r6, r7, r8], Lg)) o from ev_f (c := x6 ≠ 0) _ _ 1  zc22 e (fun n => Eq.refl _)
                exact ev_b 0 (zj17  (Option.some.inj zh16).symm ) (fun n => Eq.refl _)
      · skip
        intro s8
        by_cases zc24 : v7 ≠ 0
        · have h := itp h zc24
          suffices e : Ev (d + 4, 0, 0, 119, 85, [.val (.ref 1088), .val (.int x1), .val (.int v7), .val s8], [], (126, 120, L, [Y, T, HA, HB, RA, RB, ST, NS, I0, I1, I2, BO, FI, RG, GU, PU, (u2 MA 0 0 0), MN, MS_2, OT, SC], [r0, r1, r2, r3, w, r5, r6, r7, r8], Lg)) o from ev_t (c := v7 ≠ 0) _ _ 2  zc24 e (fun n => Eq.refl _)
          obtain ⟨MA_9, zh25, h⟩ := bnd h
          have zh25 : f_M_keepsAct (u2 MA 0 0 0) = some MA_9 := zh25
          have ze26 := R_f_M_keepsAct_0 (d + 3) Y T HA HB RA RB ST NS I0 I1 I2 BO FI RG GU PU (u2 MA 0 0 0) MN MS_2 OT SC r0 r1 r2 r3 w r5 r6 r7 r8 L Lg zh25
          suffices e : Ev (d + 4, 0, 0, 119, 89, [.val (.ref 1088), .val (.int x1), .val (.int v7), .val s8], [], (126, 120, L, [Y, T, HA, HB, RA, RB, ST, NS, I0, I1, I2, BO, FI, RG, GU, PU, MA_9, MN, MS_2, OT, SC], [r0, r1, r2, r3, w, r5, r6, r7, r8], Lg)) o from ev_call (fun v μ => (d + 4, 0, 0, 119, 89, [.val (.ref 1088), .val (.int x1), .val (.int v7), .val s8], v.toList ++ [], μ)) 2 ze26 e (fun n => Eq.refl _)
          obtain ⟨MA_15, zh28, h⟩ := bnd h
          suffices e : Ev (d + 4, 0, 0, 119, 91, [.val (.ref 1088), .val (.int x1), .val (.int v7), .val (.int 0)], [], (126, 120, L, [Y, T, HA, HB, RA, RB, ST, NS, I0, I1, I2, BO, FI, RG, GU, PU, MA_9, MN, MS_2, OT, SC], [r0, r1, r2, r3, w, r5, r6, r7, r8], Lg)) o from ev_b 2 e (fun n => Eq.refl _)
          refine ev_loop (δ := Unit) (fun a j => (d + 4, 0, 0, 119, 91, [.val (.ref 1088), .val (.int x1), .val (.int v7), .val (.int a.1)], [], (126, 120, L, [Y, T, HA, HB, RA, RB, ST, NS, I0, I1, I2, BO, FI, RG, GU, PU, a.2, MN, MS_2, OT, SC], [r0, r1, r2, r3, w, r5, r6, r7, r8], Lg))) (fun b => ∀ s14 : Value, Ev (d + 4, 0, 0, 119, 125, [.val (.ref 1088), .val (.int x1), .val (.int v7), .val s14], [], (126, 120, L, [Y, T, HA, HB, RA, RB, ST, NS, I0, I1, I2, BO, FI, RG, GU, PU, b, MN, MS_2, OT, SC], [r0, r1, r2, r3, w, r5, r6, r7, r8], Lg)) o) ?_ a_F (0, MA_9) MA_15 zh28 ?_ ()
          · rintro ⟨v10, MA_11⟩ zr32 zh31 zi29 zx30 ⟨⟩
            have zh31 : f_M_follow_l91 x1 MS_2 v10 MA_11 = some zr32 := zh31
            by_cases zc33 : (MA_11 0 26) ≤ v10
            · have zh31 := itp zh31 zc33
              suffices e : Ev (d + 4, 0, 0, 119, 125, [.val (.ref 1088), .val (.int x1), .val (.int v7), .val (.int v10)], [], (126, 120, L, [Y, T, HA, HB, RA, RB, ST, NS, I0, I1, I2, BO, FI, RG, GU, PU, MA_11, MN, MS_2, OT, SC], [r0, r1, r2, r3, w, r5, r6, r7, r8], Lg)) o from ev_t (c := (MA_11 0 26) ≤ v10) _ _ 4  zc33 e (fun n => Eq.refl _)
              exact ev_b 0 (zx30 _ (Option.some.inj zh31).symm (.int v10)) (fun n => Eq.refl _)
            · have zh31 := itn zh31 zc33
              suffices e : Ev (d + 4, 0, 0, 119, 99, [.val (.ref 1088), .val (.int x1), .val (.int v7), .val (.int v10)], [], (126, 120, L, [Y, T, HA, HB, RA, RB, ST, NS, I0, I1, I2, BO, FI, RG, GU, PU, MA_11, MN, MS_2, OT, SC], [r0, r1, r2, r3, w, r5, r6, r7, r8], Lg)) o from ev_f (c := (MA_11 0 26) ≤ v10) _ _ 4  zc33 e (fun n => Eq.refl _)
              by_cases zc34 : ((a_shr x1 v10) &&& 1) ≠ 1
              · have zh31 := itp zh31 zc34
                suffices e : Ev (d + 4, 0, 0, 119, 119, [.val (.ref 1088), .val (.int x1), .val (.int v7), .val (.int v10)], [], (126, 120, L, [Y, T, HA, HB, RA, RB, ST, NS, I0, I1, I2, BO, FI, RG, GU, PU, MA_11, MN, MS_2, OT, SC], [r0, r1, r2, r3, w, r5, r6, r7, r8], Lg)) o from ev_t (c := ((a_shr x1 v10) &&& 1) ≠ 1) _ _ 7  zc34 e (fun n => Eq.refl _)
                exact ev_b 2 (zi29 _ (Option.some.inj zh31).symm ()) (fun n => Eq.refl _)
              · have zh31 := itn zh31 zc34
                suffices e : Ev (d + 4, 0, 0, 119, 108, [.val (.ref 1088), .val (.int x1), .val (.int v7), .val (.int v10)], [], (126, 120, L, [Y, T, HA, HB, RA, RB, ST, NS, I0, I1, I2, BO, FI, RG, GU, PU, MA_11, MN, MS_2, OT, SC], [r0, r1, r2, r3, w, r5, r6, r7, r8], Lg)) o from ev_f (c := ((a_shr x1 v10) &&& 1) ≠ 1) _ _ 7  zc34 e (fun n => Eq.refl _)
                obtain ⟨x12, zh35, zh31⟩ := bnd zh31
                have zh35 : rdx (MS_2 1) 10 v10 = some x12 := zh35
                suffices e : Ev (d + 4, 0, 0, 119, 116, [.val (.ref 1088), .val (.int x1), .val (.int v7), .val (.int v10)], [.int x12, .int v10, .ref 1088], (126, 120, L, [Y, T, HA, HB, RA, RB, ST, NS, I0, I1, I2, BO, FI, RG, GU, PU, MA_11, MN, MS_2, OT, SC], [r0, r1, r2, r3, w, r5, r6, r7, r8], Lg)) o from ev_opt (fun x12 => (d + 4, 0, 0, 119, 116, [.val (.ref 1088), .val (.int x1), .val (.int v7), .val (.int v10)], [.int x12, .int v10, .ref 1088], (126, 120, L, [Y, T, HA, HB, RA, RB, ST, NS, I0, I1, I2, BO, FI, RG, GU, PU, MA_11, MN, MS_2, OT, SC], [r0, r1, r2, r3, w, r5, r6, r7, r8], Lg))) 6 zh35 e (fun n => Eq.refl _)
                obtain ⟨MA_13, zh36, zh31⟩ := bnd zh31
                have zh36 : f_M_goesTo MA_11 v10 x12 = some MA_13 := zh36
                have ze37 := R_f_M_goesTo_0 (d + 3) Y T HA HB RA RB ST NS I0 I1 I2 BO FI RG GU PU MA_11 MN MS_2 OT SC r0 r1 r2 r3 w r5 r6 r7 r8 L Lg v10 x12 zh36
                suffices e : Ev (d + 4, 0, 0, 119, 119, [.val (.ref 1088), .val (.int x1), .val (.int v7), .val (.int v10)], [], (126, 120, L, [Y, T, HA, HB, RA, RB, ST, NS, I0, I1, I2, BO, FI, RG, GU, PU, MA_13, MN, MS_2, OT, SC], [r0, r1, r2, r3, w, r5, r6, r7, r8], Lg)) o from ev_call (fun v μ => (d + 4, 0, 0, 119, 119, [.val (.ref 1088), .val (.int x1), .val (.int v7), .val (.int v10)], v.toList ++ [], μ)) 1 ze37 e (fun n => Eq.refl _)
                exact ev_b 2 (zi29 _ (Option.some.inj zh31).symm ()) (fun n => Eq.refl _)
          · skip
            intro s14
            obtain ⟨x16, zh38, h⟩ := bnd h
            have zh38 : f_M_ones x1 = some x16 := zh38
            have ze39 := R_f_M_ones_0 (d + 3) Y T HA HB RA RB ST NS I0 I1 I2 BO FI RG GU PU MA_15 MN MS_2 OT SC r0 r1 r2 r3 w r5 r6 r7 r8 L Lg x1 zh38
            suffices e : Ev (d + 4, 0, 0, 119, 129, [.val (.ref 1088), .val (.int x1), .val (.int v7), .val s14], [.int x16], (126, 120, L, [Y, T, HA, HB, RA, RB, ST, NS, I0, I1, I2, BO, FI, RG, GU, PU, MA_15, MN, MS_2, OT, SC], [r0, r1, r2, r3, w, r5, r6, r7, r8], Lg)) o from ev_call (fun v μ => (d + 4, 0, 0, 119, 129, [.val (.ref 1088), .val (.int x1), .val (.int v7), .val s14], v.toList ++ [], μ)) 2 ze39 e (fun n => Eq.refl _)
            have ze40 := Option.some.inj h
            subst ze40
            exact ev_rete 1 ho (fun n => Eq.refl _)
        · have h := itn h zc24
          suffices e : Ev (d + 4, 0, 0, 119, 83, [.val (.ref 1088), .val (.int x1), .val (.int v7), .val s8], [], (126, 120, L, [Y, T, HA, HB, RA, RB, ST, NS, I0, I1, I2, BO, FI, RG, GU, PU, (u2 MA 0 0 0), MN, MS_2, OT, SC], [r0, r1, r2, r3, w, r5, r6, r7, r8], Lg)) o from ev_f (c := v7 ≠ 0) _ _ 2  zc24 e (fun n => Eq.refl _)
          have ze41 := Option.some.inj h
          subst ze41
          exact ev_rete 2 ho (fun n => Eq.refl _)
    · have h := itn h zc4
      suffices e : Ev (d + 4, 0, 0, 119, 25, [.val (.ref 1088), .val (.int x1), .val a_unk, .val a_unk], [], (126, 120, L, [Y, T, HA, HB, RA, RB, ST, NS, I0, I1, I2, BO, FI, RG, GU, PU, (u2 MA 0 0 0), MN, MS_2, OT, SC], [r0, r1, r2, r3, w, r5, r6, r7, r8], Lg)) o from ev_f (c := ((u2 MA 0 0 0) 0 43) ≠ 30) _ _ 4  zc4 e (fun n => Eq.refl _)
      have ze42 := Option.some.inj h
      subst ze42
      exact ev_rete 2 ho (fun n => Eq.refl _)
  · have h := itn h zc3
    suffices e : Ev (d + 4, 0, 0, 119, 14, [.val (.ref 1088), .val (.int x1), .val a_unk, .val a_unk], [], (126, 120, L, [Y, T, HA, HB, RA, RB, ST, NS, I0, I1, I2, BO, FI, RG, GU, PU, (u2 MA 0 0 0), MN, MS_2, OT, SC], [r0, r1, r2, r3, w, r5, r6, r7, r8], Lg)) o from ev_f (c := x1 ≠ 0) _ _ 3  zc3 e (fun n => Eq.refl _)
    have ze43 := Option.some.inj h
    subst ze43
    exact ev_rete 2 ho (fun n => Eq.refl _)
set_option maxRecDepth 1000000 in
set_option maxHeartbeats 4000000 in
theorem R_f_M_pair_0 (d : Nat) (Y T HA HB RA RB ST NS I0 I1 I2 BO FI RG GU PU MA MN MS OT SC : Nat → Nat → Int32) (r0 r1 r2 r3 w r5 r6 r7 r8 : Nat) (L : Nat) (Lg : Int64) (p1 : Int32) (p2 : Int32) {r : Int32 × (Nat → Nat → Int32)} (h : f_M_pair MA p1 p2 = some r) : Ev (d + 2, 0, 0, 120, 0, [.val (.ref 1088), .val (.int p1), .val (.int p2), .val a_unk, .val a_unk, .val a_unk], [], (126, 120, L, [Y, T, HA, HB, RA, RB, ST, NS, I0, I1, I2, BO, FI, RG, GU, PU, MA, MN, MS, OT, SC], [r0, r1, r2, r3, w, r5, r6, r7, r8], Lg)) ((0, some (.int r.1), (126, 120, L, [Y, T, HA, HB, RA, RB, ST, NS, I0, I1, I2, BO, FI, RG, GU, PU, r.2, MN, MS, OT, SC], [r0, r1, r2, r3, w, r5, r6, r7, r8], Lg)) : AOut) := by
  suffices key : ∀ o : AOut, ((0, some (.int r.1), (126, 120, L, [Y, T, HA, HB, RA, RB, ST, NS, I0, I1, I2, BO, FI, RG, GU, PU, r.2, MN, MS, OT, SC], [r0, r1, r2, r3, w, r5, r6, r7, r8], Lg)) : AOut) = o → Ev (d + 2, 0, 0, 120, 0, [.val (.ref 1088), .val (.int p1), .val (.int p2), .val a_unk, .val a_unk, .val a_unk], [], (126, 120, L, [Y, T, HA, HB, RA, RB, ST, NS, I0, I1, I2, BO, FI, RG, GU, PU, MA, MN, MS, OT, SC], [r0, r1, r2, r3, w, r5, r6, r7, r8], Lg)) o from key _ rfl
  intro o ho
  obtain ⟨⟨x1, MA_2⟩, zh1, h⟩ := bnd h
  have zh1 : f_M_isPerson (u2 MA 0 0 0) p1 1 = some (x1, MA_2) := zh1
  have ze2 := R_f_M_isPerson_0 (d + 0) Y T HA HB RA RB ST NS I0 I1 I2 BO FI RG GU PU (u2 MA 0 0 0) MN MS OT SC r0 r1 r2 r3 w r5 r6 r7 r8 L Lg p1 1 zh1
  suffices e : Ev (d + 2, 0, 0, 120, 11, [.val (.ref 1088), .val (.int p1), .val (.int p2), .val a_unk, .val a_unk, .val a_unk], [.int x1], (126, 120, L, [Y, T, HA, HB, RA, RB, ST, NS, I0, I1, I2, BO, FI, RG, GU, PU, MA_2, MN, MS, OT, SC], [r0, r1, r2, r3, w, r5, r6, r7, r8], Lg)) o from ev_call (fun v μ => (d + 2, 0, 0, 120, 11, [.val (.ref 1088), .val (.int p1), .val (.int p2), .val a_unk, .val a_unk, .val a_unk], v.toList ++ [], μ)) 7 ze2 e (fun n => Eq.refl _)
  by_cases zc3 : x1 = 0
  · have h := itp h zc3
    suffices e : Ev (d + 2, 0, 0, 120, 42, [.val (.ref 1088), .val (.int p1), .val (.int p2), .val a_unk, .val a_unk, .val a_unk], [], (126, 120, L, [Y, T, HA, HB, RA, RB, ST, NS, I0, I1, I2, BO, FI, RG, GU, PU, MA_2, MN, MS, OT, SC], [r0, r1, r2, r3, w, r5, r6, r7, r8], Lg)) o from ev_t (c := x1 = 0) _ _ 1  zc3 e (fun n => Eq.refl _)
    have ze4 := Option.some.inj h
    subst ze4
    exact ev_rete 2 ho (fun n => Eq.refl _)
  · have h := itn h zc3
    suffices e : Ev (d + 2, 0, 0, 120, 14, [.val (.ref 1088), .val (.int p1), .val (.int p2), .val a_unk, .val a_unk, .val a_unk], [], (126, 120, L, [Y, T, HA, HB, RA, RB, ST, NS, I0, I1, I2, BO, FI, RG, GU, PU, MA_2, MN, MS, OT, SC], [r0, r1, r2, r3, w, r5, r6, r7, r8], Lg)) o from ev_f (c := x1 = 0) _ _ 1  zc3 e (fun n => Eq.refl _)
    obtain ⟨⟨x3, MA_4⟩, zh5, h⟩ := bnd h
    have zh5 : f_M_isPerson MA_2 p2 1 = some (x3, MA_4) := zh5
    have ze6 := R_f_M_isPerson_0 (d + 0) Y T HA HB RA RB ST NS I0 I1 I2 BO FI RG GU PU MA_2 MN MS OT SC r0 r1 r2 r3 w r5 r6 r7 r8 L Lg p2 1 zh5
    suffices e : Ev (d + 2, 0, 0, 120, 20, [.val (.ref 1088), .val (.int p1), .val (.int p2), .val a_unk, .val a_unk, .val a_unk], [.int x3], (126, 120, L, [Y, T, HA, HB, RA, RB, ST, NS, I0, I1, I2, BO, FI, RG, GU, PU, MA_4, MN, MS, OT, SC], [r0, r1, r2, r3, w, r5, r6, r7, r8], Lg)) o from ev_call (fun v μ => (d + 2, 0, 0, 120, 20, [.val (.ref 1088), .val (.int p1), .val (.int p2), .val a_unk, .val a_unk, .val a_unk], v.toList ++ [], μ)) 4 ze6 e (fun n => Eq.refl _)
    by_cases zc7 : x3 = 0
    · have h := itp h zc7
      suffices e : Ev (d + 2, 0, 0, 120, 42, [.val (.ref 1088), .val (.int p1), .val (.int p2), .val a_unk, .val a_unk, .val a_unk], [], (126, 120, L, [Y, T, HA, HB, RA, RB, ST, NS, I0, I1, I2, BO, FI, RG, GU, PU, MA_4, MN, MS, OT, SC], [r0, r1, r2, r3, w, r5, r6, r7, r8], Lg)) o from ev_t (c := x3 = 0) _ _ 1  zc7 e (fun n => Eq.refl _)
      have ze8 := Option.some.inj h
      subst ze8
      exact ev_rete 2 ho (fun n => Eq.refl _)
    · have h := itn h zc7
      suffices e : Ev (d + 2, 0, 0, 120, 23, [.val (.ref 1088), .val (.int p1), .val (.int p2), .val a_unk, .val a_unk, .val a_unk], [], (126, 120, L, [Y, T, HA, HB, RA, RB, ST, NS, I0, I1, I2, BO, FI, RG, GU, PU, MA_4, MN, MS, OT, SC], [r0, r1, r2, r3, w, r5, r6, r7, r8], Lg)) o from ev_f (c := x3 = 0) _ _ 1  zc7 e (fun n => Eq.refl _)
      obtain ⟨zt9, zh10, h⟩ := bnd h
      have zj11 : ∀ (v5 : Int32), v5 = zt9 → Ev (d + 2, 0, 0, 120, 34, [.val (.ref 1088), .val (.int p1), .val (.int p2), .val a_unk, .val a_unk, .val a_unk], [.int v5, .ref 1088], (126, 120, L, [Y, T, HA, HB, RA, RB, ST, NS, I0, I1, I2, BO, FI, RG, GU, PU, MA_4, MN, MS, OT, SC], [r0, r1, r2, r3, w, r5, r6, r7, r8], Lg)) o := by
        intro v5 ze12
        subst ze12
        obtain ⟨⟨x6, MA_7⟩, zh13, h⟩ := bnd h
        have zh13 : f_M_may MA_4 v5 2 1 = some (x6, MA_7) := zh13
        have ze14 := R_f_M_may_0 (d + 1) Y T HA HB RA RB ST NS I0 I1 I2 BO FI RG GU PU MA_4 MN MS OT SC r0 r1 r2 r3 w r5 r6 r7 r8 L Lg v5 2 1 zh13
        suffices e : Ev (d + 2, 0, 0, 120, 39, [.val (.ref 1088), .val (.int p1), .val (.int p2), .val a_unk, .val a_unk, .val a_unk], [.int x6], (126, 120, L, [Y, T, HA, HB, RA, RB, ST, NS, I0, I1, I2, BO, FI, RG, GU, PU, MA_7, MN, MS, OT, SC], [r0, r1, r2, r3, w, r5, r6, r7, r8], Lg)) o from ev_call (fun v μ => (d + 2, 0, 0, 120, 39, [.val (.ref 1088), .val (.int p1), .val (.int p2), .val a_unk, .val a_unk, .val a_unk], v.toList ++ [], μ)) 3 ze14 e (fun n => Eq.refl _)
        by_cases zc15 : x6 ≠ 0
        · have h := itp h zc15
          suffices e : Ev (d + 2, 0, 0, 120, 44, [.val (.ref 1088), .val (.int p1), .val (.int p2), .val a_unk, .val a_unk, .val a_unk], [], (126, 120, L, [Y, T, HA, HB, RA, RB, ST, NS, I0, I1, I2, BO, FI, RG, GU, PU, MA_7, MN, MS, OT, SC], [r0, r1, r2, r3, w, r5, r6, r7, r8], Lg)) o from ev_t (c := x6 ≠ 0) _ _ 1  zc15 e (fun n => Eq.refl _)
          obtain ⟨v12, zh17, h⟩ := bnd h
          suffices e : Ev (d + 2, 0, 0, 120, 58, [.val (.ref 1088), .val (.int p1), .val (.int p2), .val (.int ((a_shl 1 p1) ||| (a_shl 1 p2))), .val (.int 0), .val (.int 0)], [], (126, 120, L, [Y, T, HA, HB, RA, RB, ST, NS, I0, I1, I2, BO, FI, RG, GU, PU, MA_7, MN, MS, OT, SC], [r0, r1, r2, r3, w, r5, r6, r7, r8], Lg)) o from ev_b 12 e (fun n => Eq.refl _)
          refine ev_loop (δ := Unit) (fun a j => (d + 2, 0, 0, 120, 58, [.val (.ref 1088), .val (.int p1), .val (.int p2), .val (.int ((a_shl 1 p1) ||| (a_shl 1 p2))), .val (.int a.1), .val (.int a.2)], [], (126, 120, L, [Y, T, HA, HB, RA, RB, ST, NS, I0, I1, I2, BO, FI, RG, GU, PU, MA_7, MN, MS, OT, SC], [r0, r1, r2, r3, w, r5, r6, r7, r8], Lg))) (fun b => ∀ s13 : Value, Ev (d + 2, 0, 0, 120, 112, [.val (.ref 1088), .val (.int p1), .val (.int p2), .val (.int ((a_shl 1 p1) ||| (a_shl 1 p2))), .val (.int b), .val s13], [], (126, 120, L, [Y, T, HA, HB, RA, RB, ST, NS, I0, I1, I2, BO, FI, RG, GU, PU, MA_7, MN, MS, OT, SC], [r0, r1, r2, r3, w, r5, r6, r7, r8], Lg)) o) ?_ a_F (0, 0) v12 zh17 ?_ ()
          · rintro ⟨v8, v9⟩ zr21 zh20 zi18 zx19 ⟨⟩
            have zh20 : f_M_pair_l58 MA_7 p1 p2 v8 v9 = some zr21 := zh20
            by_cases zc22 : (MA_7 0 26) ≤ v9
            · have zh20 := itp zh20 zc22
              suffices e : Ev (d + 2, 0, 0, 120, 112, [.val (.ref 1088), .val (.int p1), .val (.int p2), .val (.int ((a_shl 1 p1) ||| (a_shl 1 p2))), .val (.int v8), .val (.int v9)], [], (126, 120, L, [Y, T, HA, HB, RA, RB, ST, NS, I0, I1, I2, BO, FI, RG, GU, PU, MA_7, MN, MS, OT, SC], [r0, r1, r2, r3, w, r5, r6, r7, r8], Lg)) o from ev_t (c := (MA_7 0 26) ≤ v9) _ _ 4  zc22 e (fun n => Eq.refl _)
              exact ev_b 0 (zx19 _ (Option.some.inj zh20).symm (.int v9)) (fun n => Eq.refl _)
            · have zh20 := itn zh20 zc22
              suffices e : Ev (d + 2, 0, 0, 120, 67, [.val (.ref 1088), .val (.int p1), .val (.int p2), .val (.int ((a_shl 1 p1) ||| (a_shl 1 p2))), .val (.int v8), .val (.int v9)], [], (126, 120, L, [Y, T, HA, HB, RA, RB, ST, NS, I0, I1, I2, BO, FI, RG, GU, PU, MA_7, MN, MS, OT, SC], [r0, r1, r2, r3, w, r5, r6, r7, r8], Lg)) o from ev_f (c := (MA_7 0 26) ≤ v9) _ _ 4  zc22 e (fun n => Eq.refl _)
              obtain ⟨x10, zh23, zh20⟩ := bnd zh20
              have zh23 : rdx (MA_7 7) 10 v9 = some x10 := zh23
              suffices e : Ev (d + 2, 0, 0, 120, 76, [.val (.ref 1088), .val (.int p1), .val (.int p2), .val (.int ((a_shl 1 p1) ||| (a_shl 1 p2))), .val (.int v8), .val (.int v9)], [.int x10, .int v8], (126, 120, L, [Y, T, HA, HB, RA, RB, ST, NS, I0, I1, I2, BO, FI, RG, GU, PU, MA_7, MN, MS, OT, SC], [r0, r1, r2, r3, w, r5, r6, r7, r8], Lg)) o from ev_opt (fun x10 => (d + 2, 0, 0, 120, 76, [.val (.ref 1088), .val (.int p1), .val (.int p2), .val (.int ((a_shl 1 p1) ||| (a_shl 1 p2))), .val (.int v8), .val (.int v9)], [.int x10, .int v8], (126, 120, L, [Y, T, HA, HB, RA, RB, ST, NS, I0, I1, I2, BO, FI, RG, GU, PU, MA_7, MN, MS, OT, SC], [r0, r1, r2, r3, w, r5, r6, r7, r8], Lg))) 5 zh23 e (fun n => Eq.refl _)
              obtain ⟨zt24, zh25, zh20⟩ := bnd zh20
              have zj26 : zt24 = .inl () → Ev (d + 2, 0, 0, 120, 102, [.val (.ref 1088), .val (.int p1), .val (.int p2), .val (.int ((a_shl 1 p1) ||| (a_shl 1 p2))), .val (.int v8), .val (.int v9)], [.int v8], (126, 120, L, [Y, T, HA, HB, RA, RB, ST, NS, I0, I1, I2, BO, FI, RG, GU, PU, MA_7, MN, MS, OT, SC], [r0, r1, r2, r3, w, r5, r6, r7, r8], Lg)) o := by
                intro ze27
                have zh20 := sum_l zh20 ze27
                exact ev_b 5 (zi18 _ (Option.some.inj zh20).symm ()) (fun n => Eq.refl _)
              by_cases zc28 : x10 = (-1)
              · have zh25 := itp zh25 zc28
                suffices e : Ev (d + 2, 0, 0, 120, 102, [.val (.ref 1088), .val (.int p1), .val (.int p2), .val (.int ((a_shl 1 p1) ||| (a_shl 1 p2))), .val (.int v8), .val (.int v9)], [.int v8], (126, 120, L, [Y, T, HA, HB, RA, RB, ST, NS, I0, I1, I2, BO, FI, RG, GU, PU, MA_7, MN, MS, OT, SC], [r0, r1, r2, r3, w, r5, r6, r7, r8], Lg)) o from ev_t (c := x10 = (-1)) _ _ 2  zc28 e (fun n => Eq.refl _)
                exact ev_b 0 (zj26  (Option.some.inj zh25).symm ) (fun n => Eq.refl _)
              · have zh25 := itn zh25 zc28
                suffices e : Ev (d + 2, 0, 0, 120, 80, [.val (.ref 1088), .val (.int p1), .val (.int p2), .val (.int ((a_shl 1 p1) ||| (a_shl 1 p2))), .val (.int v8), .val (.int v9)], [.int v8], (126, 120, L, [Y, T, HA, HB, RA, RB, ST, NS, I0, I1, I2, BO, FI, RG, GU, PU, MA_7, MN, MS, OT, SC], [r0, r1, r2, r3, w, r5, r6, r7, r8], Lg)) o from ev_f (c := x10 = (-1)) _ _ 2  zc28 e (fun n => Eq.refl _)
                obtain ⟨x11, zh29, zh25⟩ := bnd zh25
                have zh29 : rdx (MA_7 5) 60 ((6 * v9) + 2) = some x11 := zh29
                suffices e : Ev (d + 2, 0, 0, 120, 92, [.val (.ref 1088), .val (.int p1), .val (.int p2), .val (.int ((a_shl 1 p1) ||| (a_shl 1 p2))), .val (.int v8), .val (.int v9)], [.int x11, .int v8], (126, 120, L, [Y, T, HA, HB, RA, RB, ST, NS, I0, I1, I2, BO, FI, RG, GU, PU, MA_7, MN, MS, OT, SC], [r0, r1, r2, r3, w, r5, r6, r7, r8], Lg)) o from ev_opt (fun x11 => (d + 2, 0, 0, 120, 92, [.val (.ref 1088), .val (.int p1), .val (.int p2), .val (.int ((a_shl 1 p1) ||| (a_shl 1 p2))), .val (.int v8), .val (.int v9)], [.int x11, .int v8], (126, 120, L, [Y, T, HA, HB, RA, RB, ST, NS, I0, I1, I2, BO, FI, RG, GU, PU, MA_7, MN, MS, OT, SC], [r0, r1, r2, r3, w, r5, r6, r7, r8], Lg))) 8 zh29 e (fun n => Eq.refl _)
                by_cases zc30 : (x11 &&& ((a_shl 1 p1) ||| (a_shl 1 p2))) ≠ ((a_shl 1 p1) ||| (a_shl 1 p2))
                · have zh25 := itp zh25 zc30
                  suffices e : Ev (d + 2, 0, 0, 120, 102, [.val (.ref 1088), .val (.int p1), .val (.int p2), .val (.int ((a_shl 1 p1) ||| (a_shl 1 p2))), .val (.int v8), .val (.int v9)], [.int v8], (126, 120, L, [Y, T, HA, HB, RA, RB, ST, NS, I0, I1, I2, BO, FI, RG, GU, PU, MA_7, MN, MS, OT, SC], [r0, r1, r2, r3, w, r5, r6, r7, r8], Lg)) o from ev_t (c := (x11 &&& ((a_shl 1 p1) ||| (a_shl 1 p2))) ≠ ((a_shl 1 p1) ||| (a_shl 1 p2))) _ _ 4  zc30 e (fun n => Eq.refl _)
                  exact ev_b 0 (zj26  (Option.some.inj zh25).symm ) (fun n => Eq.refl _)
                · have zh25 := itn zh25 zc30
                  suffices e : Ev (d + 2, 0, 0, 120, 98, [.val (.ref 1088), .val (.int p1), .val (.int p2), .val (.int ((a_shl 1 p1) ||| (a_shl 1 p2))), .val (.int v8), .val (.int v9)], [.int v8], (126, 120, L, [Y, T, HA, HB, RA, RB, ST, NS, I0, I1, I2, BO, FI, RG, GU, PU, MA_7, MN, MS, OT, SC], [r0, r1, r2, r3, w, r5, r6, r7, r8], Lg)) o from ev_f (c := (x11 &&& ((a_shl 1 p1) ||| (a_shl 1 p2))) ≠ ((a_shl 1 p1) ||| (a_shl 1 p2))) _ _ 4  zc30 e (fun n => Eq.refl _)
                  have zh31 := sum_r zh20 (Option.some.inj zh25).symm
                  exact ev_b 6 (zi18 _ (Option.some.inj zh31).symm ()) (fun n => Eq.refl _)
          · skip
            intro s13
            have ze32 := Option.some.inj h
            subst ze32
            exact ev_rete 2 ho (fun n => Eq.refl _)
        · have h := itn h zc15
          suffices e : Ev (d + 2, 0, 0, 120, 42, [.val (.ref 1088), .val (.int p1), .val (.int p2), .val a_unk, .val a_unk, .val a_unk], [], (126, 120, L, [Y, T, HA, HB, RA, RB, ST, NS, I0, I1, I2, BO, FI, RG, GU, PU, MA_7, MN, MS, OT, SC], [r0, r1, r2, r3, w, r5, r6, r7, r8], Lg)) o from ev_f (c := x6 ≠ 0) _ _ 1  zc15 e (fun n => Eq.refl _)
          have ze33 := Option.some.inj h
          subst ze33
          exact ev_rete 2 ho (fun n => Eq.refl _)
      by_cases zc34 : p1 = p2
      · have zh10 := itp zh10 zc34
        suffices e : Ev (d + 2, 0, 0, 120, 33, [.val (.ref 1088), .val (.int p1), .val (.int p2), .val a_unk, .val a_unk, .val a_unk], [.ref 1088], (126, 120, L, [Y, T, HA, HB, RA, RB, ST, NS, I0, I1, I2, BO, FI, RG, GU, PU, MA_4, MN, MS, OT, SC], [r0, r1, r2, r3, w, r5, r6, r7, r8], Lg)) o from ev_t (c := p1 = p2) _ _ 4  zc34 e (fun n => Eq.refl _)
        exact ev_b 1 (zj11 0 (Option.some.inj zh10) ) (fun n => Eq.refl _)
      · have zh10 := itn zh10 zc34
        suffices e : Ev (d + 2, 0, 0, 120, 29, [.val (.ref 1088), .val (.int p1), .val (.int p2), .val a_unk, .val a_unk, .val a_unk], [.ref 1088], (126, 120, L, [Y, T, HA, HB, RA, RB, ST, NS, I0, I1, I2, BO, FI, RG, GU, PU, MA_4, MN, MS, OT, SC], [r0, r1, r2, r3, w, r5, r6, r7, r8], Lg)) o from ev_f (c := p1 = p2) _ _ 4  zc34 e (fun n => Eq.refl _)
        exact ev_b 2 (zj11 1 (Option.some.inj zh10) ) (fun n => Eq.refl _)
