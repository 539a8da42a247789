def f_M_ones_l4 (v1 : Int32) (v2 : Int32) : Option ((Int32 × Int32) ⊕ (Int32)) :=
  if v2 = 0 then
    some (.inr v1)
  else
    some (.inl ((v1 + 1), (v2 &&& (v2 - 1))))
def f_M_ones (p0 : Int32) : Option (Int32) :=
  (loopN (fun q => f_M_ones_l4 q.1 q.2) a_F (0, p0)).bind fun v3 =>
  some v3
def f_M_isHeld_l2 (MA : (Nat → Nat → Int32)) (p1 : Int32) (v1 : Int32) : Option ((Int32) ⊕ ((Unit) ⊕ (Int32))) :=
  if (MA 0 27) ≤ v1 then
    some (.inr (.inl ()))
  else
    (rdx (MA 6) 16 (4 * v1)).bind fun x2 =>
    if x2 ≠ p1 then
      some (.inl (v1 + 1))
    else
      (rdx (MA 6) 16 ((4 * v1) + 3)).bind fun x3 =>
      if x3 ≠ 0 then
        some (.inl (v1 + 1))
      else
        some (.inr (.inr (zb 1)))
def f_M_isHeld (MA : (Nat → Nat → Int32)) (p1 : Int32) : Option (Int32) :=
  (loopN (fun q => f_M_isHeld_l2 MA p1 q) a_F 0).bind fun b3 => sumE b3 (fun _ =>
  some (zb 0)) (fun q => some q)
def f_M_mayIn (MA : (Nat → Nat → Int32)) (p1 : Int32) : Option (Int32) :=
  (rdx (MA 5) 60 ((6 * p1) + 3)).bind fun x1 =>
  if x1 ≠ 0 then
    (rdx (MA 5) 60 ((6 * p1) + 3)).bind fun x2 =>
    some x2
  else
    some ((a_shl 1 (MA 0 23)) - 1)
def f_M_busyIn_l4 (MA : (Nat → Nat → Int32)) (p1 : Int32) (v1 : Int32) (v2 : Int32) : Option ((Int32 × Int32) ⊕ (Int32)) :=
  if (MA 0 25) ≤ v2 then
    some (.inr v1)
  else
    (rdx (MA 5) 60 ((6 * p1) + 2)).bind fun x3 =>
    (((
      if ((a_shr x3 v2) &&& 1) ≠ 1 then
        some 0
      else
        (rdx (MA 4) 24 ((3 * v2) + 2)).bind fun x4 =>
        some x4) : Option (Int32))).bind fun v5 =>
    some (.inl ((v1 ||| v5), (v2 + 1)))
def f_M_busyIn (MA : (Nat → Nat → Int32)) (p1 : Int32) : Option (Int32) :=
  (loopN (fun q => f_M_busyIn_l4 MA p1 q.1 q.2) a_F (0, 0)).bind fun v6 =>
  some v6
def f_M_ownClash (MA : (Nat → Nat → Int32)) (p1 : Int32) (p2 : Int32) : Option (Int32) :=
  (f_M_mayIn MA p1).bind fun x1 =>
  (((
    if ((a_shr x1 (p2 / 3)) &&& 1) ≠ 1 then
      some 1
    else
      some 0) : Option (Int32))).bind fun v2 =>
  (f_M_busyIn MA p1).bind fun x3 =>
  (((
    if ((a_shr x3 (p2 / 3)) &&& 1) ≠ 1 then
      some 0
    else
      some 2) : Option (Int32))).bind fun v4 =>
  (f_M_isHeld MA p2).bind fun x5 =>
  (((
    if x5 = 0 then
      some 0
    else
      some 8) : Option (Int32))).bind fun v6 =>
  (rdx (MA 3) 3 (a_rem p2 3)).bind fun x7 =>
  (rdx (MA 5) 60 ((6 * p1) + 2)).bind fun x8 =>
  (f_M_ones x8).bind fun x9 =>
  (((
    if x9 ≤ x7 then
      some 0
    else
      some 16) : Option (Int32))).bind fun v10 =>
  some (((v2 ||| v4) ||| v6) ||| v10)
def f_M_clashWith (MA : (Nat → Nat → Int32)) (p1 : Int32) (p2 : Int32) (p3 : Int32) (p4 : Int32) : Option (Int32) :=
  if p4 = (-1) then
    some 0
  else
    if p3 = p1 then
      some 0
    else
      if (p4 / 3) = (p2 / 3) then
        (rdx (MA 5) 60 ((6 * p1) + 2)).bind fun x1 =>
        (rdx (MA 5) 60 ((6 * p3) + 2)).bind fun x2 =>
        (((
          if (x1 &&& x2) = 0 then
            some 0
          else
            some 4) : Option (Int32))).bind fun v3 =>
        (((
          if p4 ≠ p2 then
            some 0
          else
            some 8) : Option (Int32))).bind fun v4 =>
        some (v3 ||| v4)
      else
        some 0
def f_M_clashOf_l11 (MA : (Nat → Nat → Int32)) (w3 : (Nat → Int32)) (p1 : Int32) (p2 : Int32) (v2 : Int32) (v3 : Int32) : Option ((Int32 × Int32) ⊕ (Int32)) :=
  if (MA 0 26) ≤ v3 then
    some (.inr v2)
  else
    (rdx w3 10 v3).bind fun x4 =>
    (f_M_clashWith MA p1 p2 v3 x4).bind fun x5 =>
    some (.inl ((v2 ||| x5), (v3 + 1)))
def f_M_clashOf (MA : (Nat → Nat → Int32)) (p1 : Int32) (p2 : Int32) (w3 : (Nat → Int32)) : Option (Int32) :=
  (f_M_ownClash MA p1 p2).bind fun x1 =>
  (loopN (fun q => f_M_clashOf_l11 MA w3 p1 p2 q.1 q.2) a_F (x1, 0)).bind fun v6 =>
  some v6
def f_M_isLawful_l2 (MA : (Nat → Nat → Int32)) (w1 : (Nat → Int32)) (v1 : Int32) : Option ((Int32) ⊕ ((Unit) ⊕ (Int32))) :=
  if (MA 0 26) ≤ v1 then
    some (.inr (.inl ()))
  else
    (rdx w1 10 v1).bind fun x2 =>
    if x2 = (-1) then
      some (.inl (v1 + 1))
    else
      (rdx w1 10 v1).bind fun x3 =>
      (f_M_clashOf MA v1 x3 w1).bind fun x4 =>
      if x4 = 0 then
        some (.inl (v1 + 1))
      else
        some (.inr (.inr (zb 0)))
def f_M_isLawful (MA : (Nat → Nat → Int32)) (w1 : (Nat → Int32)) : Option (Int32) :=
  (loopN (fun q => f_M_isLawful_l2 MA w1 q) a_F 0).bind fun b4 => sumE b4 (fun _ =>
  some (zb 1)) (fun q => some q)
set_option maxRecDepth 100000 in
set_option maxHeartbeats 4000000 in
theorem R_f_M_ones_0 (d : Nat) (Y T HA HB RA RB ST NS I0 I1 I2 BO FI RG GU PU MA MN MS OT SC : Nat → Nat → Int32) (r0 r1 r2 r3 w r5 r6 r7 r8 : Nat) (L : Nat) (Lg : Int64) (p0 : Int32) {r : Int32} (h : f_M_ones p0 = some r) : Ev (d + 0, 0, 0, 57, 0, [.val (.int p0), .unset, .unset], [], (126, 120, L, [Y, T, HA, HB, RA, RB, ST, NS, I0, I1, I2, BO, FI, RG, GU, PU, MA, MN, MS, OT, SC], [r0, r1, r2, r3, w, r5, r6, r7, r8], Lg)) ((0, some (.int r), (126, 120, L, [Y, T, HA, HB, RA, RB, ST, NS, I0, I1, I2, BO, FI, RG, GU, PU, MA, MN, MS, OT, SC], [r0, r1, r2, r3, w, r5, r6, r7, r8], Lg)) : AOut) := by
  suffices key : ∀ o : AOut, ((0, some (.int r), (126, 120, L, [Y, T, HA, HB, RA, RB, ST, NS, I0, I1, I2, BO, FI, RG, GU, PU, MA, MN, MS, OT, SC], [r0, r1, r2, r3, w, r5, r6, r7, r8], Lg)) : AOut) = o → Ev (d + 0, 0, 0, 57, 0, [.val (.int p0), .unset, .unset], [], (126, 120, L, [Y, T, HA, HB, RA, RB, ST, NS, I0, I1, I2, BO, FI, RG, GU, PU, MA, MN, MS, OT, SC], [r0, r1, r2, r3, w, r5, r6, r7, r8], Lg)) o from key _ rfl
  intro o ho
  obtain ⟨zb1, zh2, h⟩ := bnd h
  refine ev_b (C' := (d + 0, 0, 0, 57, 4, [.val (.int p0), .val (.int 0), .val (.int p0)], [], (126, 120, L, [Y, T, HA, HB, RA, RB, ST, NS, I0, I1, I2, BO, FI, RG, GU, PU, MA, MN, MS, OT, SC], [r0, r1, r2, r3, w, r5, r6, r7, r8], Lg))) 4 ?_ (fun n => Eq.refl _)
  refine ev_loop (δ := Unit) (fun a j => (d + 0, 0, 0, 57, 4, [.val (.int p0), .val (.int a.1), .val (.int a.2)], [], (126, 120, L, [Y, T, HA, HB, RA, RB, ST, NS, I0, I1, I2, BO, FI, RG, GU, PU, MA, MN, MS, OT, SC], [r0, r1, r2, r3, w, r5, r6, r7, r8], Lg))) (fun b => ∀ s4 : Slot, Ev (d + 0, 0, 0, 57, 20, [.val (.int p0), .val (.int b), s4], [], (126, 120, L, [Y, T, HA, HB, RA, RB, ST, NS, I0, I1, I2, BO, FI, RG, GU, PU, MA, MN, MS, OT, SC], [r0, r1, r2, r3, w, r5, r6, r7, r8], Lg)) o) ?_ a_F (0, p0) zb1 zh2 ?_ ()
  · rintro ⟨v1, v2⟩ zr6 zh5 zi3 zx4 ⟨⟩
    by_cases zc7 : v2 = 0
    · have zh5 := itp zh5 zc7
      refine ev_t (c := v2 = 0) ((d + 0, 0, 0, 57, 20, [.val (.int p0), .val (.int v1), .val (.int v2)], [], (126, 120, L, [Y, T, HA, HB, RA, RB, ST, NS, I0, I1, I2, BO, FI, RG, GU, PU, MA, MN, MS, OT, SC], [r0, r1, r2, r3, w, r5, r6, r7, r8], Lg))) ((d + 0, 0, 0, 57, 8, [.val (.int p0), .val (.int v1), .val (.int v2)], [], (126, 120, L, [Y, T, HA, HB, RA, RB, ST, NS, I0, I1, I2, BO, FI, RG, GU, PU, MA, MN, MS, OT, SC], [r0, r1, r2, r3, w, r5, r6, r7, r8], Lg))) 2 zc7 ?_ (fun n => Eq.refl _)
      exact ev_b 0 (zx4 _ (Option.some.inj zh5).symm (.val (.int v2))) (fun n => Eq.refl _)
    · have zh5 := itn zh5 zc7
      refine ev_f (c := v2 = 0) ((d + 0, 0, 0, 57, 20, [.val (.int p0), .val (.int v1), .val (.int v2)], [], (126, 120, L, [Y, T, HA, HB, RA, RB, ST, NS, I0, I1, I2, BO, FI, RG, GU, PU, MA, MN, MS, OT, SC], [r0, r1, r2, r3, w, r5, r6, r7, r8], Lg))) ((d + 0, 0, 0, 57, 8, [.val (.int p0), .val (.int v1), .val (.int v2)], [], (126, 120, L, [Y, T, HA, HB, RA, RB, ST, NS, I0, I1, I2, BO, FI, RG, GU, PU, MA, MN, MS, OT, SC], [r0, r1, r2, r3, w, r5, r6, r7, r8], Lg))) 2 zc7 ?_ (fun n => Eq.refl _)
      exact ev_b 8 (zi3 _ (Option.some.inj zh5).symm ()) (fun n => Eq.refl _)
  · obtain v3 := zb1
    intro s4
    have ze8 := Option.some.inj h
    subst ze8
    exact ev_rete 2 ho (fun n => Eq.refl _)
set_option maxRecDepth 100000 in
set_option maxHeartbeats 4000000 in
theorem R_f_M_isHeld_0 (d : Nat) (Y T HA HB RA RB ST NS I0 I1 I2 BO FI RG GU PU MA MN MS OT SC : Nat → Nat → Int32) (r0 r1 r2 r3 w r5 r6 r7 r8 : Nat) (L : Nat) (Lg : Int64) (p1 : Int32) {r : Int32} (h : f_M_isHeld MA p1 = some r) : Ev (d + 0, 0, 0, 63, 0, [.val (.ref 1088), .val (.int p1), .unset], [], (126, 120, L, [Y, T, HA, HB, RA, RB, ST, NS, I0, I1, I2, BO, FI, RG, GU, PU, MA, MN, MS, OT, SC], [r0, r1, r2, r3, w, r5, r6, r7, r8], Lg)) ((0, some (.int r), (126, 120, L, [Y, T, HA, HB, RA, RB, ST, NS, I0, I1, I2, BO, FI, RG, GU, PU, MA, MN, MS, OT, SC], [r0, r1, r2, r3, w, r5, r6, r7, r8], Lg)) : AOut) := by
  suffices key : ∀ o : AOut, ((0, some (.int r), (126, 120, L, [Y, T, HA, HB, RA, RB, ST, NS, I0, I1, I2, BO, FI, RG, GU, PU, MA, MN, MS, OT, SC], [r0, r1, r2, r3, w, r5, r6, r7, r8], Lg)) : AOut) = o → Ev (d + 0, 0, 0, 63, 0, [.val (.ref 1088), .val (.int p1), .unset], [], (126, 120, L, [Y, T, HA, HB, RA, RB, ST, NS, I0, I1, I2, BO, FI, RG, GU, PU, MA, MN, MS, OT, SC], [r0, r1, r2, r3, w, r5, r6, r7, r8], Lg)) o from key _ rfl
  intro o ho
  obtain ⟨zb1, zh2, h⟩ := bnd h
  refine ev_b (C' := (d + 0, 0, 0, 63, 2, [.val (.ref 1088), .val (.int p1), .val (.int 0)], [], (126, 120, L, [Y, T, HA, HB, RA, RB, ST, NS, I0, I1, I2, BO, FI, RG, GU, PU, MA, MN, MS, OT, SC], [r0, r1, r2, r3, w, r5, r6, r7, r8], Lg))) 2 ?_ (fun n => Eq.refl _)
  refine ev_loop (δ := Unit) (fun a j => (d + 0, 0, 0, 63, 2, [.val (.ref 1088), .val (.int p1), .val (.int a)], [], (126, 120, L, [Y, T, HA, HB, RA, RB, ST, NS, I0, I1, I2, BO, FI, RG, GU, PU, MA, MN, MS, OT, SC], [r0, r1, r2, r3, w, r5, r6, r7, r8], Lg))) (fun b => sumE b (fun b => ∀ s4 : Slot, Ev (d + 0, 0, 0, 63, 43, [.val (.ref 1088), .val (.int p1), s4], [], (126, 120, L, [Y, T, HA, HB, RA, RB, ST, NS, I0, I1, I2, BO, FI, RG, GU, PU, MA, MN, MS, OT, SC], [r0, r1, r2, r3, w, r5, r6, r7, r8], Lg)) o) (fun b => ((0, some (.int b), (126, 120, L, [Y, T, HA, HB, RA, RB, ST, NS, I0, I1, I2, BO, FI, RG, GU, PU, MA, MN, MS, OT, SC], [r0, r1, r2, r3, w, r5, r6, r7, r8], Lg)) : AOut) = o)) ?_ a_F 0 zb1 zh2 ?_ ()
  · rintro v1 zr6 zh5 zi3 zx4 ⟨⟩
    by_cases zc7 : (MA 0 27) ≤ v1
    · have zh5 := itp zh5 zc7
      refine ev_t (c := (MA 0 27) ≤ v1) ((d + 0, 0, 0, 63, 43, [.val (.ref 1088), .val (.int p1), .val (.int v1)], [], (126, 120, L, [Y, T, HA, HB, RA, RB, ST, NS, I0, I1, I2, BO, FI, RG, GU, PU, MA, MN, MS, OT, SC], [r0, r1, r2, r3, w, r5, r6, r7, r8], Lg))) ((d + 0, 0, 0, 63, 10, [.val (.ref 1088), .val (.int p1), .val (.int v1)], [], (126, 120, L, [Y, T, HA, HB, RA, RB, ST, NS, I0, I1, I2, BO, FI, RG, GU, PU, MA, MN, MS, OT, SC], [r0, r1, r2, r3, w, r5, r6, r7, r8], Lg))) 4 zc7 ?_ (fun n => Eq.refl _)
      exact ev_b 0 (zx4 _ (Option.some.inj zh5).symm (.val (.int v1))) (fun n => Eq.refl _)
    · have zh5 := itn zh5 zc7
      refine ev_f (c := (MA 0 27) ≤ v1) ((d + 0, 0, 0, 63, 43, [.val (.ref 1088), .val (.int p1), .val (.int v1)], [], (126, 120, L, [Y, T, HA, HB, RA, RB, ST, NS, I0, I1, I2, BO, FI, RG, GU, PU, MA, MN, MS, OT, SC], [r0, r1, r2, r3, w, r5, r6, r7, r8], Lg))) ((d + 0, 0, 0, 63, 10, [.val (.ref 1088), .val (.int p1), .val (.int v1)], [], (126, 120, L, [Y, T, HA, HB, RA, RB, ST, NS, I0, I1, I2, BO, FI, RG, GU, PU, MA, MN, MS, OT, SC], [r0, r1, r2, r3, w, r5, r6, r7, r8], Lg))) 4 zc7 ?_ (fun n => Eq.refl _)
      obtain ⟨x2, zh8, zh5⟩ := bnd zh5
      refine ev_opt (fun x2 => (d + 0, 0, 0, 63, 18, [.val (.ref 1088), .val (.int p1), .val (.int v1)], [.int x2], (126, 120, L, [Y, T, HA, HB, RA, RB, ST, NS, I0, I1, I2, BO, FI, RG, GU, PU, MA, MN, MS, OT, SC], [r0, r1, r2, r3, w, r5, r6, r7, r8], Lg))) 6 zh8 ?_ (fun n => Eq.refl _)
      by_cases zc9 : x2 ≠ p1
      · have zh5 := itp zh5 zc9
        refine ev_t (c := x2 ≠ p1) ((d + 0, 0, 0, 63, 37, [.val (.ref 1088), .val (.int p1), .val (.int v1)], [], (126, 120, L, [Y, T, HA, HB, RA, RB, ST, NS, I0, I1, I2, BO, FI, RG, GU, PU, MA, MN, MS, OT, SC], [r0, r1, r2, r3, w, r5, r6, r7, r8], Lg))) ((d + 0, 0, 0, 63, 22, [.val (.ref 1088), .val (.int p1), .val (.int v1)], [], (126, 120, L, [Y, T, HA, HB, RA, RB, ST, NS, I0, I1, I2, BO, FI, RG, GU, PU, MA, MN, MS, OT, SC], [r0, r1, r2, r3, w, r5, r6, r7, r8], Lg))) 2 zc9 ?_ (fun n => Eq.refl _)
        exact ev_b 2 (zi3 _ (Option.some.inj zh5).symm ()) (fun n => Eq.refl _)
      · have zh5 := itn zh5 zc9
        refine ev_f (c := x2 ≠ p1) ((d + 0, 0, 0, 63, 37, [.val (.ref 1088), .val (.int p1), .val (.int v1)], [], (126, 120, L, [Y, T, HA, HB, RA, RB, ST, NS, I0, I1, I2, BO, FI, RG, GU, PU, MA, MN, MS, OT, SC], [r0, r1, r2, r3, w, r5, r6, r7, r8], Lg))) ((d + 0, 0, 0, 63, 22, [.val (.ref 1088), .val (.int p1), .val (.int v1)], [], (126, 120, L, [Y, T, HA, HB, RA, RB, ST, NS, I0, I1, I2, BO, FI, RG, GU, PU, MA, MN, MS, OT, SC], [r0, r1, r2, r3, w, r5, r6, r7, r8], Lg))) 2 zc9 ?_ (fun n => Eq.refl _)
        obtain ⟨x3, zh10, zh5⟩ := bnd zh5
        refine ev_opt (fun x3 => (d + 0, 0, 0, 63, 32, [.val (.ref 1088), .val (.int p1), .val (.int v1)], [.int x3], (126, 120, L, [Y, T, HA, HB, RA, RB, ST, NS, I0, I1, I2, BO, FI, RG, GU, PU, MA, MN, MS, OT, SC], [r0, r1, r2, r3, w, r5, r6, r7, r8], Lg))) 8 zh10 ?_ (fun n => Eq.refl _)
        by_cases zc11 : x3 ≠ 0
        · have zh5 := itp zh5 zc11
          refine ev_t (c := x3 ≠ 0) ((d + 0, 0, 0, 63, 37, [.val (.ref 1088), .val (.int p1), .val (.int v1)], [], (126, 120, L, [Y, T, HA, HB, RA, RB, ST, NS, I0, I1, I2, BO, FI, RG, GU, PU, MA, MN, MS, OT, SC], [r0, r1, r2, r3, w, r5, r6, r7, r8], Lg))) ((d + 0, 0, 0, 63, 35, [.val (.ref 1088), .val (.int p1), .val (.int v1)], [], (126, 120, L, [Y, T, HA, HB, RA, RB, ST, NS, I0, I1, I2, BO, FI, RG, GU, PU, MA, MN, MS, OT, SC], [r0, r1, r2, r3, w, r5, r6, r7, r8], Lg))) 1 zc11 ?_ (fun n => Eq.refl _)
          exact ev_b 2 (zi3 _ (Option.some.inj zh5).symm ()) (fun n => Eq.refl _)
        · have zh5 := itn zh5 zc11
          refine ev_f (c := x3 ≠ 0) ((d + 0, 0, 0, 63, 37, [.val (.ref 1088), .val (.int p1), .val (.int v1)], [], (126, 120, L, [Y, T, HA, HB, RA, RB, ST, NS, I0, I1, I2, BO, FI, RG, GU, PU, MA, MN, MS, OT, SC], [r0, r1, r2, r3, w, r5, r6, r7, r8], Lg))) ((d + 0, 0, 0, 63, 35, [.val (.ref 1088), .val (.int p1), .val (.int v1)], [], (126, 120, L, [Y, T, HA, HB, RA, RB, ST, NS, I0, I1, I2, BO, FI, RG, GU, PU, MA, MN, MS, OT, SC], [r0, r1, r2, r3, w, r5, r6, r7, r8], Lg))) 1 zc11 ?_ (fun n => Eq.refl _)
          exact ev_rete 2 (zx4 _ (Option.some.inj zh5).symm) (fun n => Eq.refl _)
  · rcases zb1 with ⟨⟩ | zr6
    · intro s4
      have ze12 := Option.some.inj h
      subst ze12
      exact ev_rete 2 ho (fun n => Eq.refl _)
    · have zh13 : some zr6 = some r := h
      exact (congrArg (fun q => ((0, some (.int q), (126, 120, L, [Y, T, HA, HB, RA, RB, ST, NS, I0, I1, I2, BO, FI, RG, GU, PU, MA, MN, MS, OT, SC], [r0, r1, r2, r3, w, r5, r6, r7, r8], Lg)) : AOut)) (Option.some.inj zh13)).trans ho
set_option maxRecDepth 100000 in
set_option maxHeartbeats 4000000 in
theorem R_f_M_mayIn_0 (d : Nat) (Y T HA HB RA RB ST NS I0 I1 I2 BO FI RG GU PU MA MN MS OT SC : Nat → Nat → Int32) (r0 r1 r2 r3 w r5 r6 r7 r8 : Nat) (L : Nat) (Lg : Int64) (p1 : Int32) {r : Int32} (h : f_M_mayIn MA p1 = some r) : Ev (d + 0, 0, 0, 64, 0, [.val (.ref 1088), .val (.int p1)], [], (126, 120, L, [Y, T, HA, HB, RA, RB, ST, NS, I0, I1, I2, BO, FI, RG, GU, PU, MA, MN, MS, OT, SC], [r0, r1, r2, r3, w, r5, r6, r7, r8], Lg)) ((0, some (.int r), (126, 120, L, [Y, T, HA, HB, RA, RB, ST, NS, I0, I1, I2, BO, FI, RG, GU, PU, MA, MN, MS, OT, SC], [r0, r1, r2, r3, w, r5, r6, r7, r8], Lg)) : AOut) := by
  suffices key : ∀ o : AOut, ((0, some (.int r), (126, 120, L, [Y, T, HA, HB, RA, RB, ST, NS, I0, I1, I2, BO, FI, RG, GU, PU, MA, MN, MS, OT, SC], [r0, r1, r2, r3, w, r5, r6, r7, r8], Lg)) : AOut) = o → Ev (d + 0, 0, 0, 64, 0, [.val (.ref 1088), .val (.int p1)], [], (126, 120, L, [Y, T, HA, HB, RA, RB, ST, NS, I0, I1, I2, BO, FI, RG, GU, PU, MA, MN, MS, OT, SC], [r0, r1, r2, r3, w, r5, r6, r7, r8], Lg)) o from key _ rfl
  intro o ho
  obtain ⟨x1, zh1, h⟩ := bnd h
  refine ev_opt (fun x1 => (d + 0, 0, 0, 64, 11, [.val (.ref 1088), .val (.int p1)], [.int x1], (126, 120, L, [Y, T, HA, HB, RA, RB, ST, NS, I0, I1, I2, BO, FI, RG, GU, PU, MA, MN, MS, OT, SC], [r0, r1, r2, r3, w, r5, r6, r7, r8], Lg))) 8 zh1 ?_ (fun n => Eq.refl _)
  by_cases zc2 : x1 ≠ 0
  · have h := itp h zc2
    refine ev_t (c := x1 ≠ 0) ((d + 0, 0, 0, 64, 25, [.val (.ref 1088), .val (.int p1)], [], (126, 120, L, [Y, T, HA, HB, RA, RB, ST, NS, I0, I1, I2, BO, FI, RG, GU, PU, MA, MN, MS, OT, SC], [r0, r1, r2, r3, w, r5, r6, r7, r8], Lg))) ((d + 0, 0, 0, 64, 14, [.val (.ref 1088), .val (.int p1)], [], (126, 120, L, [Y, T, HA, HB, RA, RB, ST, NS, I0, I1, I2, BO, FI, RG, GU, PU, MA, MN, MS, OT, SC], [r0, r1, r2, r3, w, r5, r6, r7, r8], Lg))) 1 zc2 ?_ (fun n => Eq.refl _)
    obtain ⟨x2, zh3, h⟩ := bnd h
    refine ev_opt (fun x2 => (d + 0, 0, 0, 64, 36, [.val (.ref 1088), .val (.int p1)], [.int x2], (126, 120, L, [Y, T, HA, HB, RA, RB, ST, NS, I0, I1, I2, BO, FI, RG, GU, PU, MA, MN, MS, OT, SC], [r0, r1, r2, r3, w, r5, r6, r7, r8], Lg))) 8 zh3 ?_ (fun n => Eq.refl _)
    have ze4 := Option.some.inj h
    subst ze4
    exact ev_rete 1 ho (fun n => Eq.refl _)
  · have h := itn h zc2
    refine ev_f (c := x1 ≠ 0) ((d + 0, 0, 0, 64, 25, [.val (.ref 1088), .val (.int p1)], [], (126, 120, L, [Y, T, HA, HB, RA, RB, ST, NS, I0, I1, I2, BO, FI, RG, GU, PU, MA, MN, MS, OT, SC], [r0, r1, r2, r3, w, r5, r6, r7, r8], Lg))) ((d + 0, 0, 0, 64, 14, [.val (.ref 1088), .val (.int p1)], [], (126, 120, L, [Y, T, HA, HB, RA, RB, ST, NS, I0, I1, I2, BO, FI, RG, GU, PU, MA, MN, MS, OT, SC], [r0, r1, r2, r3, w, r5, r6, r7, r8], Lg))) 1 zc2 ?_ (fun n => Eq.refl _)
    have ze5 := Option.some.inj h
    subst ze5
    exact ev_rete 8 ho (fun n => Eq.refl _)
set_option maxRecDepth 100000 in
set_option maxHeartbeats 4000000 in
theorem R_f_M_busyIn_0 (d : Nat) (Y T HA HB RA RB ST NS I0 I1 I2 BO FI RG GU PU MA MN MS OT SC : Nat → Nat → Int32) (r0 r1 r2 r3 w r5 r6 r7 r8 : Nat) (L : Nat) (Lg : Int64) (p1 : Int32) {r : Int32} (h : f_M_busyIn MA p1 = some r) : Ev (d + 0, 0, 0, 65, 0, [.val (.ref 1088), .val (.int p1), .unset, .unset], [], (126, 120, L, [Y, T, HA, HB, RA, RB, ST, NS, I0, I1, I2, BO, FI, RG, GU, PU, MA, MN, MS, OT, SC], [r0, r1, r2, r3, w, r5, r6, r7, r8], Lg)) ((0, some (.int r), (126, 120, L, [Y, T, HA, HB, RA, RB, ST, NS, I0, I1, I2, BO, FI, RG, GU, PU, MA, MN, MS, OT, SC], [r0, r1, r2, r3, w, r5, r6, r7, r8], Lg)) : AOut) := by
  suffices key : ∀ o : AOut, ((0, some (.int r), (126, 120, L, [Y, T, HA, HB, RA, RB, ST, NS, I0, I1, I2, BO, FI, RG, GU, PU, MA, MN, MS, OT, SC], [r0, r1, r2, r3, w, r5, r6, r7, r8], Lg)) : AOut) = o → Ev (d + 0, 0, 0, 65, 0, [.val (.ref 1088), .val (.int p1), .unset, .unset], [], (126, 120, L, [Y, T, HA, HB, RA, RB, ST, NS, I0, I1, I2, BO, FI, RG, GU, PU, MA, MN, MS, OT, SC], [r0, r1, r2, r3, w, r5, r6, r7, r8], Lg)) o from key _ rfl
  intro o ho
  obtain ⟨zb1, zh2, h⟩ := bnd h
  refine ev_b (C' := (d + 0, 0, 0, 65, 4, [.val (.ref 1088), .val (.int p1), .val (.int 0), .val (.int 0)], [], (126, 120, L, [Y, T, HA, HB, RA, RB, ST, NS, I0, I1, I2, BO, FI, RG, GU, PU, MA, MN, MS, OT, SC], [r0, r1, r2, r3, w, r5, r6, r7, r8], Lg))) 4 ?_ (fun n => Eq.refl _)
  refine ev_loop (δ := Unit) (fun a j => (d + 0, 0, 0, 65, 4, [.val (.ref 1088), .val (.int p1), .val (.int a.1), .val (.int a.2)], [], (126, 120, L, [Y, T, HA, HB, RA, RB, ST, NS, I0, I1, I2, BO, FI, RG, GU, PU, MA, MN, MS, OT, SC], [r0, r1, r2, r3, w, r5, r6, r7, r8], Lg))) (fun b => ∀ s7 : Slot, Ev (d + 0, 0, 0, 65, 54, [.val (.ref 1088), .val (.int p1), .val (.int b), s7], [], (126, 120, L, [Y, T, HA, HB, RA, RB, ST, NS, I0, I1, I2, BO, FI, RG, GU, PU, MA, MN, MS, OT, SC], [r0, r1, r2, r3, w, r5, r6, r7, r8], Lg)) o) ?_ a_F (0, 0) zb1 zh2 ?_ ()
  · rintro ⟨v1, v2⟩ zr6 zh5 zi3 zx4 ⟨⟩
    by_cases zc7 : (MA 0 25) ≤ v2
    · have zh5 := itp zh5 zc7
      refine ev_t (c := (MA 0 25) ≤ v2) ((d + 0, 0, 0, 65, 54, [.val (.ref 1088), .val (.int p1), .val (.int v1), .val (.int v2)], [], (126, 120, L, [Y, T, HA, HB, RA, RB, ST, NS, I0, I1, I2, BO, FI, RG, GU, PU, MA, MN, MS, OT, SC], [r0, r1, r2, r3, w, r5, r6, r7, r8], Lg))) ((d + 0, 0, 0, 65, 12, [.val (.ref 1088), .val (.int p1), .val (.int v1), .val (.int v2)], [], (126, 120, L, [Y, T, HA, HB, RA, RB, ST, NS, I0, I1, I2, BO, FI, RG, GU, PU, MA, MN, MS, OT, SC], [r0, r1, r2, r3, w, r5, r6, r7, r8], Lg))) 4 zc7 ?_ (fun n => Eq.refl _)
      exact ev_b 0 (zx4 _ (Option.some.inj zh5).symm (.val (.int v2))) (fun n => Eq.refl _)
    · have zh5 := itn zh5 zc7
      refine ev_f (c := (MA 0 25) ≤ v2) ((d + 0, 0, 0, 65, 54, [.val (.ref 1088), .val (.int p1), .val (.int v1), .val (.int v2)], [], (126, 120, L, [Y, T, HA, HB, RA, RB, ST, NS, I0, I1, I2, BO, FI, RG, GU, PU, MA, MN, MS, OT, SC], [r0, r1, r2, r3, w, r5, r6, r7, r8], Lg))) ((d + 0, 0, 0, 65, 12, [.val (.ref 1088), .val (.int p1), .val (.int v1), .val (.int v2)], [], (126, 120, L, [Y, T, HA, HB, RA, RB, ST, NS, I0, I1, I2, BO, FI, RG, GU, PU, MA, MN, MS, OT, SC], [r0, r1, r2, r3, w, r5, r6, r7, r8], Lg))) 4 zc7 ?_ (fun n => Eq.refl _)
      obtain ⟨x3, zh8, zh5⟩ := bnd zh5
      refine ev_opt (fun x3 => (d + 0, 0, 0, 65, 24, [.val (.ref 1088), .val (.int p1), .val (.int v1), .val (.int v2)], [.int x3, .int v1], (126, 120, L, [Y, T, HA, HB, RA, RB, ST, NS, I0, I1, I2, BO, FI, RG, GU, PU, MA, MN, MS, OT, SC], [r0, r1, r2, r3, w, r5, r6, r7, r8], Lg))) 9 zh8 ?_ (fun n => Eq.refl _)
      obtain ⟨zt9, zh10, zh5⟩ := bnd zh5
      have zj11 : ∀ (v5 : Int32), v5 = zt9 → Ev (d + 0, 0, 0, 65, 46, [.val (.ref 1088), .val (.int p1), .val (.int v1), .val (.int v2)], [.int v5, .int v1], (126, 120, L, [Y, T, HA, HB, RA, RB, ST, NS, I0, I1, I2, BO, FI, RG, GU, PU, MA, MN, MS, OT, SC], [r0, r1, r2, r3, w, r5, r6, r7, r8], Lg)) o := by
        intro v5 ze12
        subst ze12
        exact ev_b 4 (zi3 _ (Option.some.inj zh5).symm ()) (fun n => Eq.refl _)
      by_cases zc13 : ((a_shr x3 v2) &&& 1) ≠ 1
      · have zh10 := itp zh10 zc13
        refine ev_t (c := ((a_shr x3 v2) &&& 1) ≠ 1) ((d + 0, 0, 0, 65, 45, [.val (.ref 1088), .val (.int p1), .val (.int v1), .val (.int v2)], [.int v1], (126, 120, L, [Y, T, HA, HB, RA, RB, ST, NS, I0, I1, I2, BO, FI, RG, GU, PU, MA, MN, MS, OT, SC], [r0, r1, r2, r3, w, r5, r6, r7, r8], Lg))) ((d + 0, 0, 0, 65, 32, [.val (.ref 1088), .val (.int p1), .val (.int v1), .val (.int v2)], [.int v1], (126, 120, L, [Y, T, HA, HB, RA, RB, ST, NS, I0, I1, I2, BO, FI, RG, GU, PU, MA, MN, MS, OT, SC], [r0, r1, r2, r3, w, r5, r6, r7, r8], Lg))) 6 zc13 ?_ (fun n => Eq.refl _)
        exact ev_b 1 (zj11 0 (Option.some.inj zh10) ) (fun n => Eq.refl _)
      · have zh10 := itn zh10 zc13
        refine ev_f (c := ((a_shr x3 v2) &&& 1) ≠ 1) ((d + 0, 0, 0, 65, 45, [.val (.ref 1088), .val (.int p1), .val (.int v1), .val (.int v2)], [.int v1], (126, 120, L, [Y, T, HA, HB, RA, RB, ST, NS, I0, I1, I2, BO, FI, RG, GU, PU, MA, MN, MS, OT, SC], [r0, r1, r2, r3, w, r5, r6, r7, r8], Lg))) ((d + 0, 0, 0, 65, 32, [.val (.ref 1088), .val (.int p1), .val (.int v1), .val (.int v2)], [.int v1], (126, 120, L, [Y, T, HA, HB, RA, RB, ST, NS, I0, I1, I2, BO, FI, RG, GU, PU, MA, MN, MS, OT, SC], [r0, r1, r2, r3, w, r5, r6, r7, r8], Lg))) 6 zc13 ?_ (fun n => Eq.refl _)
        obtain ⟨x4, zh14, zh10⟩ := bnd zh10
        refine ev_opt (fun x4 => (d + 0, 0, 0, 65, 42, [.val (.ref 1088), .val (.int p1), .val (.int v1), .val (.int v2)], [.int x4, .int v1], (126, 120, L, [Y, T, HA, HB, RA, RB, ST, NS, I0, I1, I2, BO, FI, RG, GU, PU, MA, MN, MS, OT, SC], [r0, r1, r2, r3, w, r5, r6, r7, r8], Lg))) 8 zh14 ?_ (fun n => Eq.refl _)
        exact ev_b 1 (zj11 x4 (Option.some.inj zh10) ) (fun n => Eq.refl _)
  · obtain v6 := zb1
    intro s7
    have ze15 := Option.some.inj h
    subst ze15
    exact ev_rete 2 ho (fun n => Eq.refl _)
set_option maxRecDepth 100000 in
set_option maxHeartbeats 4000000 in
theorem R_f_M_ownClash_0 (d : Nat) (Y T HA HB RA RB ST NS I0 I1 I2 BO FI RG GU PU MA MN MS OT SC : Nat → Nat → Int32) (r0 r1 r2 r3 w r5 r6 r7 r8 : Nat) (L : Nat) (Lg : Int64) (p1 : Int32) (p2 : Int32) {r : Int32} (h : f_M_ownClash MA p1 p2 = some r) : Ev (d + 1, 0, 0, 66, 0, [.val (.ref 1088), .val (.int p1), .val (.int p2), .unset, .unset], [], (126, 120, L, [Y, T, HA, HB, RA, RB, ST, NS, I0, I1, I2, BO, FI, RG, GU, PU, MA, MN, MS, OT, SC], [r0, r1, r2, r3, w, r5, r6, r7, r8], Lg)) ((0, some (.int r), (126, 120, L, [Y, T, HA, HB, RA, RB, ST, NS, I0, I1, I2, BO, FI, RG, GU, PU, MA, MN, MS, OT, SC], [r0, r1, r2, r3, w, r5, r6, r7, r8], Lg)) : AOut) := by
  suffices key : ∀ o : AOut, ((0, some (.int r), (126, 120, L, [Y, T, HA, HB, RA, RB, ST, NS, I0, I1, I2, BO, FI, RG, GU, PU, MA, MN, MS, OT, SC], [r0, r1, r2, r3, w, r5, r6, r7, r8], Lg)) : AOut) = o → Ev (d + 1, 0, 0, 66, 0, [.val (.ref 1088), .val (.int p1), .val (.int p2), .unset, .unset], [], (126, 120, L, [Y, T, HA, HB, RA, RB, ST, NS, I0, I1, I2, BO, FI, RG, GU, PU, MA, MN, MS, OT, SC], [r0, r1, r2, r3, w, r5, r6, r7, r8], Lg)) o from key _ rfl
  intro o ho
  refine ev_b (C' := (d + 1, 0, 0, 66, 3, [.val (.ref 1088), .val (.int p1), .val (.int p2), .unset, .unset], [.int (p2 / 3)], (126, 120, L, [Y, T, HA, HB, RA, RB, ST, NS, I0, I1, I2, BO, FI, RG, GU, PU, MA, MN, MS, OT, SC], [r0, r1, r2, r3, w, r5, r6, r7, r8], Lg))) 3 ?_ (fun n => Eq.refl _)
  obtain ⟨x1, zh1, h⟩ := bnd h
  have ze2 := R_f_M_mayIn_0 (d + 0) Y T HA HB RA RB ST NS I0 I1 I2 BO FI RG GU PU MA MN MS OT SC r0 r1 r2 r3 w r5 r6 r7 r8 L Lg p1 zh1
  refine ev_call (fun v μ => (d + 1, 0, 0, 66, 9, [.val (.ref 1088), .val (.int p1), .val (.int p2), .val (.int (p2 / 3)), .unset], v.toList ++ [], μ)) 4 ze2 ?_ (fun n => Eq.refl _)
  obtain ⟨zt3, zh4, h⟩ := bnd h
  have zj5 : ∀ (v2 : Int32), v2 = zt3 → Ev (d + 1, 0, 0, 66, 22, [.val (.ref 1088), .val (.int p1), .val (.int p2), .val (.int (p2 / 3)), .unset], [.int v2], (126, 120, L, [Y, T, HA, HB, RA, RB, ST, NS, I0, I1, I2, BO, FI, RG, GU, PU, MA, MN, MS, OT, SC], [r0, r1, r2, r3, w, r5, r6, r7, r8], Lg)) o := by
    intro v2 ze6
    subst ze6
    obtain ⟨x3, zh7, h⟩ := bnd h
    have ze8 := R_f_M_busyIn_0 (d + 0) Y T HA HB RA RB ST NS I0 I1 I2 BO FI RG GU PU MA MN MS OT SC r0 r1 r2 r3 w r5 r6 r7 r8 L Lg p1 zh7
    refine ev_call (fun v μ => (d + 1, 0, 0, 66, 31, [.val (.ref 1088), .val (.int p1), .val (.int p2), .val (.int (p2 / 3)), .val (.int v2)], v.toList ++ [.int v2], μ)) 5 ze8 ?_ (fun n => Eq.refl _)
    obtain ⟨zt9, zh10, h⟩ := bnd h
    have zj11 : ∀ (v4 : Int32), v4 = zt9 → Ev (d + 1, 0, 0, 66, 44, [.val (.ref 1088), .val (.int p1), .val (.int p2), .val (.int (p2 / 3)), .val (.int v2)], [.int v4, .int v2], (126, 120, L, [Y, T, HA, HB, RA, RB, ST, NS, I0, I1, I2, BO, FI, RG, GU, PU, MA, MN, MS, OT, SC], [r0, r1, r2, r3, w, r5, r6, r7, r8], Lg)) o := by
      intro v4 ze12
      subst ze12
      obtain ⟨x5, zh13, h⟩ := bnd h
      have ze14 := R_f_M_isHeld_0 (d + 0) Y T HA HB RA RB ST NS I0 I1 I2 BO FI RG GU PU MA MN MS OT SC r0 r1 r2 r3 w r5 r6 r7 r8 L Lg p2 zh13
      refine ev_call (fun v μ => (d + 1, 0, 0, 66, 54, [.val (.ref 1088), .val (.int p1), .val (.int p2), .val (.int (p2 / 3)), .val (.int (v2 ||| v4))], v.toList ++ [.int (v2 ||| v4)], μ)) 6 ze14 ?_ (fun n => Eq.refl _)
      obtain ⟨zt15, zh16, h⟩ := bnd h
      have zj17 : ∀ (v6 : Int32), v6 = zt15 → Ev (d + 1, 0, 0, 66, 63, [.val (.ref 1088), .val (.int p1), .val (.int p2), .val (.int (p2 / 3)), .val (.int (v2 ||| v4))], [.int v6, .int (v2 ||| v4)], (126, 120, L, [Y, T, HA, HB, RA, RB, ST, NS, I0, I1, I2, BO, FI, RG, GU, PU, MA, MN, MS, OT, SC], [r0, r1, r2, r3, w, r5, r6, r7, r8], Lg)) o := by
        intro v6 ze18
        subst ze18
        refine ev_b (C' := (d + 1, 0, 0, 66, 75, [.val (.ref 1088), .val (.int p1), .val (.int p2), .val (.int (p2 / 3)), .val (.int ((v2 ||| v4) ||| v6))], [.int (a_rem p2 3), .ref 1091, .int ((v2 ||| v4) ||| v6)], (126, 120, L, [Y, T, HA, HB, RA, RB, ST, NS, I0, I1, I2, BO, FI, RG, GU, PU, MA, MN, MS, OT, SC], [r0, r1, r2, r3, w, r5, r6, r7, r8], Lg))) 8 ?_ (fun n => Eq.refl _)
        obtain ⟨x7, zh19, h⟩ := bnd h
        refine ev_opt (fun x7 => (d + 1, 0, 0, 66, 76, [.val (.ref 1088), .val (.int p1), .val (.int p2), .val (.int (p2 / 3)), .val (.int ((v2 ||| v4) ||| v6))], [.int x7, .int ((v2 ||| v4) ||| v6)], (126, 120, L, [Y, T, HA, HB, RA, RB, ST, NS, I0, I1, I2, BO, FI, RG, GU, PU, MA, MN, MS, OT, SC], [r0, r1, r2, r3, w, r5, r6, r7, r8], Lg))) 1 zh19 ?_ (fun n => Eq.refl _)
        obtain ⟨x8, zh20, h⟩ := bnd h
        refine ev_opt (fun x8 => (d + 1, 0, 0, 66, 87, [.val (.ref 1088), .val (.int p1), .val (.int p2), .val (.int (p2 / 3)), .val (.int ((v2 ||| v4) ||| v6))], [.int x8, .int x7, .int ((v2 ||| v4) ||| v6)], (126, 120, L, [Y, T, HA, HB, RA, RB, ST, NS, I0, I1, I2, BO, FI, RG, GU, PU, MA, MN, MS, OT, SC], [r0, r1, r2, r3, w, r5, r6, r7, r8], Lg))) 8 zh20 ?_ (fun n => Eq.refl _)
        obtain ⟨x9, zh21, h⟩ := bnd h
        have ze22 := R_f_M_ones_0 (d + 0) Y T HA HB RA RB ST NS I0 I1 I2 BO FI RG GU PU MA MN MS OT SC r0 r1 r2 r3 w r5 r6 r7 r8 L Lg x8 zh21
        refine ev_call (fun v μ => (d + 1, 0, 0, 66, 90, [.val (.ref 1088), .val (.int p1), .val (.int p2), .val (.int (p2 / 3)), .val (.int ((v2 ||| v4) ||| v6))], v.toList ++ [.int x7, .int ((v2 ||| v4) ||| v6)], μ)) 1 ze22 ?_ (fun n => Eq.refl _)
        obtain ⟨zt23, zh24, h⟩ := bnd h
        have zj25 : ∀ (v10 : Int32), v10 = zt23 → Ev (d + 1, 0, 0, 66, 99, [.val (.ref 1088), .val (.int p1), .val (.int p2), .val (.int (p2 / 3)), .val (.int ((v2 ||| v4) ||| v6))], [.int v10, .int ((v2 ||| v4) ||| v6)], (126, 120, L, [Y, T, HA, HB, RA, RB, ST, NS, I0, I1, I2, BO, FI, RG, GU, PU, MA, MN, MS, OT, SC], [r0, r1, r2, r3, w, r5, r6, r7, r8], Lg)) o := by
          intro v10 ze26
          subst ze26
          have ze27 := Option.some.inj h
          subst ze27
          exact ev_rete 2 ho (fun n => Eq.refl _)
        by_cases zc28 : x9 ≤ x7
        · have zh24 := itp zh24 zc28
          refine ev_t (c := x9 ≤ x7) ((d + 1, 0, 0, 66, 98, [.val (.ref 1088), .val (.int p1), .val (.int p2), .val (.int (p2 / 3)), .val (.int ((v2 ||| v4) ||| v6))], [.int ((v2 ||| v4) ||| v6)], (126, 120, L, [Y, T, HA, HB, RA, RB, ST, NS, I0, I1, I2, BO, FI, RG, GU, PU, MA, MN, MS, OT, SC], [r0, r1, r2, r3, w, r5, r6, r7, r8], Lg))) ((d + 1, 0, 0, 66, 93, [.val (.ref 1088), .val (.int p1), .val (.int p2), .val (.int (p2 / 3)), .val (.int ((v2 ||| v4) ||| v6))], [.int ((v2 ||| v4) ||| v6)], (126, 120, L, [Y, T, HA, HB, RA, RB, ST, NS, I0, I1, I2, BO, FI, RG, GU, PU, MA, MN, MS, OT, SC], [r0, r1, r2, r3, w, r5, r6, r7, r8], Lg))) 1 zc28 ?_ (fun n => Eq.refl _)
          exact ev_b 1 (zj25 0 (Option.some.inj zh24) ) (fun n => Eq.refl _)
        · have zh24 := itn zh24 zc28
          refine ev_f (c := x9 ≤ x7) ((d + 1, 0, 0, 66, 98, [.val (.ref 1088), .val (.int p1), .val (.int p2), .val (.int (p2 / 3)), .val (.int ((v2 ||| v4) ||| v6))], [.int ((v2 ||| v4) ||| v6)], (126, 120, L, [Y, T, HA, HB, RA, RB, ST, NS, I0, I1, I2, BO, FI, RG, GU, PU, MA, MN, MS, OT, SC], [r0, r1, r2, r3, w, r5, r6, r7, r8], Lg))) ((d + 1, 0, 0, 66, 93, [.val (.ref 1088), .val (.int p1), .val (.int p2), .val (.int (p2 / 3)), .val (.int ((v2 ||| v4) ||| v6))], [.int ((v2 ||| v4) ||| v6)], (126, 120, L, [Y, T, HA, HB, RA, RB, ST, NS, I0, I1, I2, BO, FI, RG, GU, PU, MA, MN, MS, OT, SC], [r0, r1, r2, r3, w, r5, r6, r7, r8], Lg))) 1 zc28 ?_ (fun n => Eq.refl _)
          exact ev_b 2 (zj25 16 (Option.some.inj zh24) ) (fun n => Eq.refl _)
      by_cases zc29 : x5 = 0
      · have zh16 := itp zh16 zc29
        refine ev_t (c := x5 = 0) ((d + 1, 0, 0, 66, 62, [.val (.ref 1088), .val (.int p1), .val (.int p2), .val (.int (p2 / 3)), .val (.int (v2 ||| v4))], [.int (v2 ||| v4)], (126, 120, L, [Y, T, HA, HB, RA, RB, ST, NS, I0, I1, I2, BO, FI, RG, GU, PU, MA, MN, MS, OT, SC], [r0, r1, r2, r3, w, r5, r6, r7, r8], Lg))) ((d + 1, 0, 0, 66, 57, [.val (.ref 1088), .val (.int p1), .val (.int p2), .val (.int (p2 / 3)), .val (.int (v2 ||| v4))], [.int (v2 ||| v4)], (126, 120, L, [Y, T, HA, HB, RA, RB, ST, NS, I0, I1, I2, BO, FI, RG, GU, PU, MA, MN, MS, OT, SC], [r0, r1, r2, r3, w, r5, r6, r7, r8], Lg))) 1 zc29 ?_ (fun n => Eq.refl _)
        exact ev_b 1 (zj17 0 (Option.some.inj zh16) ) (fun n => Eq.refl _)
      · have zh16 := itn zh16 zc29
        refine ev_f (c := x5 = 0) ((d + 1, 0, 0, 66, 62, [.val (.ref 1088), .val (.int p1), .val (.int p2), .val (.int (p2 / 3)), .val (.int (v2 ||| v4))], [.int (v2 ||| v4)], (126, 120, L, [Y, T, HA, HB, RA, RB, ST, NS, I0, I1, I2, BO, FI, RG, GU, PU, MA, MN, MS, OT, SC], [r0, r1, r2, r3, w, r5, r6, r7, r8], Lg))) ((d + 1, 0, 0, 66, 57, [.val (.ref 1088), .val (.int p1), .val (.int p2), .val (.int (p2 / 3)), .val (.int (v2 ||| v4))], [.int (v2 ||| v4)], (126, 120, L, [Y, T, HA, HB, RA, RB, ST, NS, I0, I1, I2, BO, FI, RG, GU, PU, MA, MN, MS, OT, SC], [r0, r1, r2, r3, w, r5, r6, r7, r8], Lg))) 1 zc29 ?_ (fun n => Eq.refl _)
        exact ev_b 2 (zj17 8 (Option.some.inj zh16) ) (fun n => Eq.refl _)
    by_cases zc30 : ((a_shr x3 (p2 / 3)) &&& 1) ≠ 1
    · have zh10 := itp zh10 zc30
      refine ev_t (c := ((a_shr x3 (p2 / 3)) &&& 1) ≠ 1) ((d + 1, 0, 0, 66, 43, [.val (.ref 1088), .val (.int p1), .val (.int p2), .val (.int (p2 / 3)), .val (.int v2)], [.int v2], (126, 120, L, [Y, T, HA, HB, RA, RB, ST, NS, I0, I1, I2, BO, FI, RG, GU, PU, MA, MN, MS, OT, SC], [r0, r1, r2, r3, w, r5, r6, r7, r8], Lg))) ((d + 1, 0, 0, 66, 39, [.val (.ref 1088), .val (.int p1), .val (.int p2), .val (.int (p2 / 3)), .val (.int v2)], [.int v2], (126, 120, L, [Y, T, HA, HB, RA, RB, ST, NS, I0, I1, I2, BO, FI, RG, GU, PU, MA, MN, MS, OT, SC], [r0, r1, r2, r3, w, r5, r6, r7, r8], Lg))) 6 zc30 ?_ (fun n => Eq.refl _)
      exact ev_b 1 (zj11 0 (Option.some.inj zh10) ) (fun n => Eq.refl _)
    · have zh10 := itn zh10 zc30
      refine ev_f (c := ((a_shr x3 (p2 / 3)) &&& 1) ≠ 1) ((d + 1, 0, 0, 66, 43, [.val (.ref 1088), .val (.int p1), .val (.int p2), .val (.int (p2 / 3)), .val (.int v2)], [.int v2], (126, 120, L, [Y, T, HA, HB, RA, RB, ST, NS, I0, I1, I2, BO, FI, RG, GU, PU, MA, MN, MS, OT, SC], [r0, r1, r2, r3, w, r5, r6, r7, r8], Lg))) ((d + 1, 0, 0, 66, 39, [.val (.ref 1088), .val (.int p1), .val (.int p2), .val (.int (p2 / 3)), .val (.int v2)], [.int v2], (126, 120, L, [Y, T, HA, HB, RA, RB, ST, NS, I0, I1, I2, BO, FI, RG, GU, PU, MA, MN, MS, OT, SC], [r0, r1, r2, r3, w, r5, r6, r7, r8], Lg))) 6 zc30 ?_ (fun n => Eq.refl _)
      exact ev_b 2 (zj11 2 (Option.some.inj zh10) ) (fun n => Eq.refl _)
  by_cases zc31 : ((a_shr x1 (p2 / 3)) &&& 1) ≠ 1
  · have zh4 := itp zh4 zc31
    refine ev_t (c := ((a_shr x1 (p2 / 3)) &&& 1) ≠ 1) ((d + 1, 0, 0, 66, 21, [.val (.ref 1088), .val (.int p1), .val (.int p2), .val (.int (p2 / 3)), .unset], [], (126, 120, L, [Y, T, HA, HB, RA, RB, ST, NS, I0, I1, I2, BO, FI, RG, GU, PU, MA, MN, MS, OT, SC], [r0, r1, r2, r3, w, r5, r6, r7, r8], Lg))) ((d + 1, 0, 0, 66, 17, [.val (.ref 1088), .val (.int p1), .val (.int p2), .val (.int (p2 / 3)), .unset], [], (126, 120, L, [Y, T, HA, HB, RA, RB, ST, NS, I0, I1, I2, BO, FI, RG, GU, PU, MA, MN, MS, OT, SC], [r0, r1, r2, r3, w, r5, r6, r7, r8], Lg))) 6 zc31 ?_ (fun n => Eq.refl _)
    exact ev_b 1 (zj5 1 (Option.some.inj zh4) ) (fun n => Eq.refl _)
  · have zh4 := itn zh4 zc31
    refine ev_f (c := ((a_shr x1 (p2 / 3)) &&& 1) ≠ 1) ((d + 1, 0, 0, 66, 21, [.val (.ref 1088), .val (.int p1), .val (.int p2), .val (.int (p2 / 3)), .unset], [], (126, 120, L, [Y, T, HA, HB, RA, RB, ST, NS, I0, I1, I2, BO, FI, RG, GU, PU, MA, MN, MS, OT, SC], [r0, r1, r2, r3, w, r5, r6, r7, r8], Lg))) ((d + 1, 0, 0, 66, 17, [.val (.ref 1088), .val (.int p1), .val (.int p2), .val (.int (p2 / 3)), .unset], [], (126, 120, L, [Y, T, HA, HB, RA, RB, ST, NS, I0, I1, I2, BO, FI, RG, GU, PU, MA, MN, MS, OT, SC], [r0, r1, r2, r3, w, r5, r6, r7, r8], Lg))) 6 zc31 ?_ (fun n => Eq.refl _)
    exact ev_b 2 (zj5 0 (Option.some.inj zh4) ) (fun n => Eq.refl _)
set_option maxRecDepth 100000 in
set_option maxHeartbeats 4000000 in
theorem R_f_M_clashWith_0 (d : Nat) (Y T HA HB RA RB ST NS I0 I1 I2 BO FI RG GU PU MA MN MS OT SC : Nat → Nat → Int32) (r0 r1 r2 r3 w r5 r6 r7 r8 : Nat) (L : Nat) (Lg : Int64) (p1 : Int32) (p2 : Int32) (p3 : Int32) (p4 : Int32) {r : Int32} (h : f_M_clashWith MA p1 p2 p3 p4 = some r) : Ev (d + 0, 0, 0, 67, 0, [.val (.ref 1088), .val (.int p1), .val (.int p2), .val (.int p3), .val (.int p4)], [], (126, 120, L, [Y, T, HA, HB, RA, RB, ST, NS, I0, I1, I2, BO, FI, RG, GU, PU, MA, MN, MS, OT, SC], [r0, r1, r2, r3, w, r5, r6, r7, r8], Lg)) ((0, some (.int r), (126, 120, L, [Y, T, HA, HB, RA, RB, ST, NS, I0, I1, I2, BO, FI, RG, GU, PU, MA, MN, MS, OT, SC], [r0, r1, r2, r3, w, r5, r6, r7, r8], Lg)) : AOut) := by
  suffices key : ∀ o : AOut, ((0, some (.int r), (126, 120, L, [Y, T, HA, HB, RA, RB, ST, NS, I0, I1, I2, BO, FI, RG, GU, PU, MA, MN, MS, OT, SC], [r0, r1, r2, r3, w, r5, r6, r7, r8], Lg)) : AOut) = o → Ev (d + 0, 0, 0, 67, 0, [.val (.ref 1088), .val (.int p1), .val (.int p2), .val (.int p3), .val (.int p4)], [], (126, 120, L, [Y, T, HA, HB, RA, RB, ST, NS, I0, I1, I2, BO, FI, RG, GU, PU, MA, MN, MS, OT, SC], [r0, r1, r2, r3, w, r5, r6, r7, r8], Lg)) o from key _ rfl
  intro o ho
  by_cases zc1 : p4 = (-1)
  · have h := itp h zc1
    refine ev_t (c := p4 = (-1)) ((d + 0, 0, 0, 67, 21, [.val (.ref 1088), .val (.int p1), .val (.int p2), .val (.int p3), .val (.int p4)], [], (126, 120, L, [Y, T, HA, HB, RA, RB, ST, NS, I0, I1, I2, BO, FI, RG, GU, PU, MA, MN, MS, OT, SC], [r0, r1, r2, r3, w, r5, r6, r7, r8], Lg))) ((d + 0, 0, 0, 67, 6, [.val (.ref 1088), .val (.int p1), .val (.int p2), .val (.int p3), .val (.int p4)], [], (126, 120, L, [Y, T, HA, HB, RA, RB, ST, NS, I0, I1, I2, BO, FI, RG, GU, PU, MA, MN, MS, OT, SC], [r0, r1, r2, r3, w, r5, r6, r7, r8], Lg))) 3 zc1 ?_ (fun n => Eq.refl _)
    have ze2 := Option.some.inj h
    subst ze2
    exact ev_rete 2 ho (fun n => Eq.refl _)
  · have h := itn h zc1
    refine ev_f (c := p4 = (-1)) ((d + 0, 0, 0, 67, 21, [.val (.ref 1088), .val (.int p1), .val (.int p2), .val (.int p3), .val (.int p4)], [], (126, 120, L, [Y, T, HA, HB, RA, RB, ST, NS, I0, I1, I2, BO, FI, RG, GU, PU, MA, MN, MS, OT, SC], [r0, r1, r2, r3, w, r5, r6, r7, r8], Lg))) ((d + 0, 0, 0, 67, 6, [.val (.ref 1088), .val (.int p1), .val (.int p2), .val (.int p3), .val (.int p4)], [], (126, 120, L, [Y, T, HA, HB, RA, RB, ST, NS, I0, I1, I2, BO, FI, RG, GU, PU, MA, MN, MS, OT, SC], [r0, r1, r2, r3, w, r5, r6, r7, r8], Lg))) 3 zc1 ?_ (fun n => Eq.refl _)
    by_cases zc3 : p3 = p1
    · have h := itp h zc3
      refine ev_t (c := p3 = p1) ((d + 0, 0, 0, 67, 21, [.val (.ref 1088), .val (.int p1), .val (.int p2), .val (.int p3), .val (.int p4)], [], (126, 120, L, [Y, T, HA, HB, RA, RB, ST, NS, I0, I1, I2, BO, FI, RG, GU, PU, MA, MN, MS, OT, SC], [r0, r1, r2, r3, w, r5, r6, r7, r8], Lg))) ((d + 0, 0, 0, 67, 11, [.val (.ref 1088), .val (.int p1), .val (.int p2), .val (.int p3), .val (.int p4)], [], (126, 120, L, [Y, T, HA, HB, RA, RB, ST, NS, I0, I1, I2, BO, FI, RG, GU, PU, MA, MN, MS, OT, SC], [r0, r1, r2, r3, w, r5, r6, r7, r8], Lg))) 3 zc3 ?_ (fun n => Eq.refl _)
      have ze4 := Option.some.inj h
      subst ze4
      exact ev_rete 2 ho (fun n => Eq.refl _)
    · have h := itn h zc3
      refine ev_f (c := p3 = p1) ((d + 0, 0, 0, 67, 21, [.val (.ref 1088), .val (.int p1), .val (.int p2), .val (.int p3), .val (.int p4)], [], (126, 120, L, [Y, T, HA, HB, RA, RB, ST, NS, I0, I1, I2, BO, FI, RG, GU, PU, MA, MN, MS, OT, SC], [r0, r1, r2, r3, w, r5, r6, r7, r8], Lg))) ((d + 0, 0, 0, 67, 11, [.val (.ref 1088), .val (.int p1), .val (.int p2), .val (.int p3), .val (.int p4)], [], (126, 120, L, [Y, T, HA, HB, RA, RB, ST, NS, I0, I1, I2, BO, FI, RG, GU, PU, MA, MN, MS, OT, SC], [r0, r1, r2, r3, w, r5, r6, r7, r8], Lg))) 3 zc3 ?_ (fun n => Eq.refl _)
      refine ev_b (C' := (d + 0, 0, 0, 67, 15, [.val (.ref 1088), .val (.int p1), .val (.int p2), .val (.int p3), .val (.int p4)], [.int (p4 / 3)], (126, 120, L, [Y, T, HA, HB, RA, RB, ST, NS, I0, I1, I2, BO, FI, RG, GU, PU, MA, MN, MS, OT, SC], [r0, r1, r2, r3, w, r5, r6, r7, r8], Lg))) 3 ?_ (fun n => Eq.refl _)
      refine ev_b (C' := (d + 0, 0, 0, 67, 18, [.val (.ref 1088), .val (.int p1), .val (.int p2), .val (.int p3), .val (.int p4)], [.int (p2 / 3), .int (p4 / 3)], (126, 120, L, [Y, T, HA, HB, RA, RB, ST, NS, I0, I1, I2, BO, FI, RG, GU, PU, MA, MN, MS, OT, SC], [r0, r1, r2, r3, w, r5, r6, r7, r8], Lg))) 3 ?_ (fun n => Eq.refl _)
      by_cases zc5 : (p4 / 3) = (p2 / 3)
      · have h := itp h zc5
        refine ev_t (c := (p4 / 3) = (p2 / 3)) ((d + 0, 0, 0, 67, 23, [.val (.ref 1088), .val (.int p1), .val (.int p2), .val (.int p3), .val (.int p4)], [], (126, 120, L, [Y, T, HA, HB, RA, RB, ST, NS, I0, I1, I2, BO, FI, RG, GU, PU, MA, MN, MS, OT, SC], [r0, r1, r2, r3, w, r5, r6, r7, r8], Lg))) ((d + 0, 0, 0, 67, 21, [.val (.ref 1088), .val (.int p1), .val (.int p2), .val (.int p3), .val (.int p4)], [], (126, 120, L, [Y, T, HA, HB, RA, RB, ST, NS, I0, I1, I2, BO, FI, RG, GU, PU, MA, MN, MS, OT, SC], [r0, r1, r2, r3, w, r5, r6, r7, r8], Lg))) 1 zc5 ?_ (fun n => Eq.refl _)
        obtain ⟨x1, zh6, h⟩ := bnd h
        refine ev_opt (fun x1 => (d + 0, 0, 0, 67, 34, [.val (.ref 1088), .val (.int p1), .val (.int p2), .val (.int p3), .val (.int p4)], [.int x1], (126, 120, L, [Y, T, HA, HB, RA, RB, ST, NS, I0, I1, I2, BO, FI, RG, GU, PU, MA, MN, MS, OT, SC], [r0, r1, r2, r3, w, r5, r6, r7, r8], Lg))) 8 zh6 ?_ (fun n => Eq.refl _)
        obtain ⟨x2, zh7, h⟩ := bnd h
        refine ev_opt (fun x2 => (d + 0, 0, 0, 67, 45, [.val (.ref 1088), .val (.int p1), .val (.int p2), .val (.int p3), .val (.int p4)], [.int x2, .int x1], (126, 120, L, [Y, T, HA, HB, RA, RB, ST, NS, I0, I1, I2, BO, FI, RG, GU, PU, MA, MN, MS, OT, SC], [r0, r1, r2, r3, w, r5, r6, r7, r8], Lg))) 8 zh7 ?_ (fun n => Eq.refl _)
        obtain ⟨zt8, zh9, h⟩ := bnd h
        have zj10 : ∀ (v3 : Int32), v3 = zt8 → Ev (d + 0, 0, 0, 67, 54, [.val (.ref 1088), .val (.int p1), .val (.int p2), .val (.int p3), .val (.int p4)], [.int v3], (126, 120, L, [Y, T, HA, HB, RA, RB, ST, NS, I0, I1, I2, BO, FI, RG, GU, PU, MA, MN, MS, OT, SC], [r0, r1, r2, r3, w, r5, r6, r7, r8], Lg)) o := by
          intro v3 ze11
          subst ze11
          obtain ⟨zt12, zh13, h⟩ := bnd h
          have zj14 : ∀ (v4 : Int32), v4 = zt12 → Ev (d + 0, 0, 0, 67, 66, [.val (.ref 1088), .val (.int p1), .val (.int p2), .val (.int p3), .val (.int p4)], [.int v4, .int v3], (126, 120, L, [Y, T, HA, HB, RA, RB, ST, NS, I0, I1, I2, BO, FI, RG, GU, PU, MA, MN, MS, OT, SC], [r0, r1, r2, r3, w, r5, r6, r7, r8], Lg)) o := by
            intro v4 ze15
            subst ze15
            have ze16 := Option.some.inj h
            subst ze16
            exact ev_rete 2 ho (fun n => Eq.refl _)
          by_cases zc17 : p4 ≠ p2
          · have zh13 := itp zh13 zc17
            refine ev_t (c := p4 ≠ p2) ((d + 0, 0, 0, 67, 65, [.val (.ref 1088), .val (.int p1), .val (.int p2), .val (.int p3), .val (.int p4)], [.int v3], (126, 120, L, [Y, T, HA, HB, RA, RB, ST, NS, I0, I1, I2, BO, FI, RG, GU, PU, MA, MN, MS, OT, SC], [r0, r1, r2, r3, w, r5, r6, r7, r8], Lg))) ((d + 0, 0, 0, 67, 60, [.val (.ref 1088), .val (.int p1), .val (.int p2), .val (.int p3), .val (.int p4)], [.int v3], (126, 120, L, [Y, T, HA, HB, RA, RB, ST, NS, I0, I1, I2, BO, FI, RG, GU, PU, MA, MN, MS, OT, SC], [r0, r1, r2, r3, w, r5, r6, r7, r8], Lg))) 3 zc17 ?_ (fun n => Eq.refl _)
            exact ev_b 1 (zj14 0 (Option.some.inj zh13) ) (fun n => Eq.refl _)
          · have zh13 := itn zh13 zc17
            refine ev_f (c := p4 ≠ p2) ((d + 0, 0, 0, 67, 65, [.val (.ref 1088), .val (.int p1), .val (.int p2), .val (.int p3), .val (.int p4)], [.int v3], (126, 120, L, [Y, T, HA, HB, RA, RB, ST, NS, I0, I1, I2, BO, FI, RG, GU, PU, MA, MN, MS, OT, SC], [r0, r1, r2, r3, w, r5, r6, r7, r8], Lg))) ((d + 0, 0, 0, 67, 60, [.val (.ref 1088), .val (.int p1), .val (.int p2), .val (.int p3), .val (.int p4)], [.int v3], (126, 120, L, [Y, T, HA, HB, RA, RB, ST, NS, I0, I1, I2, BO, FI, RG, GU, PU, MA, MN, MS, OT, SC], [r0, r1, r2, r3, w, r5, r6, r7, r8], Lg))) 3 zc17 ?_ (fun n => Eq.refl _)
            exact ev_b 2 (zj14 8 (Option.some.inj zh13) ) (fun n => Eq.refl _)
        by_cases zc18 : (x1 &&& x2) = 0
        · have zh9 := itp zh9 zc18
          refine ev_t (c := (x1 &&& x2) = 0) ((d + 0, 0, 0, 67, 53, [.val (.ref 1088), .val (.int p1), .val (.int p2), .val (.int p3), .val (.int p4)], [], (126, 120, L, [Y, T, HA, HB, RA, RB, ST, NS, I0, I1, I2, BO, FI, RG, GU, PU, MA, MN, MS, OT, SC], [r0, r1, r2, r3, w, r5, r6, r7, r8], Lg))) ((d + 0, 0, 0, 67, 49, [.val (.ref 1088), .val (.int p1), .val (.int p2), .val (.int p3), .val (.int p4)], [], (126, 120, L, [Y, T, HA, HB, RA, RB, ST, NS, I0, I1, I2, BO, FI, RG, GU, PU, MA, MN, MS, OT, SC], [r0, r1, r2, r3, w, r5, r6, r7, r8], Lg))) 2 zc18 ?_ (fun n => Eq.refl _)
          exact ev_b 1 (zj10 0 (Option.some.inj zh9) ) (fun n => Eq.refl _)
        · have zh9 := itn zh9 zc18
          refine ev_f (c := (x1 &&& x2) = 0) ((d + 0, 0, 0, 67, 53, [.val (.ref 1088), .val (.int p1), .val (.int p2), .val (.int p3), .val (.int p4)], [], (126, 120, L, [Y, T, HA, HB, RA, RB, ST, NS, I0, I1, I2, BO, FI, RG, GU, PU, MA, MN, MS, OT, SC], [r0, r1, r2, r3, w, r5, r6, r7, r8], Lg))) ((d + 0, 0, 0, 67, 49, [.val (.ref 1088), .val (.int p1), .val (.int p2), .val (.int p3), .val (.int p4)], [], (126, 120, L, [Y, T, HA, HB, RA, RB, ST, NS, I0, I1, I2, BO, FI, RG, GU, PU, MA, MN, MS, OT, SC], [r0, r1, r2, r3, w, r5, r6, r7, r8], Lg))) 2 zc18 ?_ (fun n => Eq.refl _)
          exact ev_b 2 (zj10 4 (Option.some.inj zh9) ) (fun n => Eq.refl _)
      · have h := itn h zc5
        refine ev_f (c := (p4 / 3) = (p2 / 3)) ((d + 0, 0, 0, 67, 23, [.val (.ref 1088), .val (.int p1), .val (.int p2), .val (.int p3), .val (.int p4)], [], (126, 120, L, [Y, T, HA, HB, RA, RB, ST, NS, I0, I1, I2, BO, FI, RG, GU, PU, MA, MN, MS, OT, SC], [r0, r1, r2, r3, w, r5, r6, r7, r8], Lg))) ((d + 0, 0, 0, 67, 21, [.val (.ref 1088), .val (.int p1), .val (.int p2), .val (.int p3), .val (.int p4)], [], (126, 120, L, [Y, T, HA, HB, RA, RB, ST, NS, I0, I1, I2, BO, FI, RG, GU, PU, MA, MN, MS, OT, SC], [r0, r1, r2, r3, w, r5, r6, r7, r8], Lg))) 1 zc5 ?_ (fun n => Eq.refl _)
        have ze19 := Option.some.inj h
        subst ze19
        exact ev_rete 2 ho (fun n => Eq.refl _)
set_option maxRecDepth 100000 in
set_option maxHeartbeats 4000000 in
theorem R_f_M_clashOf_0 (d : Nat) (Y T HA HB RA RB ST NS I0 I1 I2 BO FI RG GU PU MA MN MS OT SC : Nat → Nat → Int32) (r0 r1 r2 r3 w r5 r6 r7 r8 : Nat) (L : Nat) (Lg : Int64) (p1 : Int32) (p2 : Int32) {r : Int32} (h : f_M_clashOf MA p1 p2 (MA 7) = some r) : Ev (d + 2, 0, 0, 68, 0, [.val (.ref 1088), .val (.int p1), .val (.int p2), .val (.ref 1095), .unset, .unset], [], (126, 120, L, [Y, T, HA, HB, RA, RB, ST, NS, I0, I1, I2, BO, FI, RG, GU, PU, MA, MN, MS, OT, SC], [r0, r1, r2, r3, w, r5, r6, r7, r8], Lg)) ((0, some (.int r), (126, 120, L, [Y, T, HA, HB, RA, RB, ST, NS, I0, I1, I2, BO, FI, RG, GU, PU, MA, MN, MS, OT, SC], [r0, r1, r2, r3, w, r5, r6, r7, r8], Lg)) : AOut) := by
  suffices key : ∀ o : AOut, ((0, some (.int r), (126, 120, L, [Y, T, HA, HB, RA, RB, ST, NS, I0, I1, I2, BO, FI, RG, GU, PU, MA, MN, MS, OT, SC], [r0, r1, r2, r3, w, r5, r6, r7, r8], Lg)) : AOut) = o → Ev (d + 2, 0, 0, 68, 0, [.val (.ref 1088), .val (.int p1), .val (.int p2), .val (.ref 1095), .unset, .unset], [], (126, 120, L, [Y, T, HA, HB, RA, RB, ST, NS, I0, I1, I2, BO, FI, RG, GU, PU, MA, MN, MS, OT, SC], [r0, r1, r2, r3, w, r5, r6, r7, r8], Lg)) o from key _ rfl
  intro o ho
  obtain ⟨x1, zh1, h⟩ := bnd h
  have ze2 := R_f_M_ownClash_0 (d + 0) Y T HA HB RA RB ST NS I0 I1 I2 BO FI RG GU PU MA MN MS OT SC r0 r1 r2 r3 w r5 r6 r7 r8 L Lg p1 p2 zh1
  refine ev_call (fun v μ => (d + 2, 0, 0, 68, 6, [.val (.ref 1088), .val (.int p1), .val (.int p2), .val (.ref 1095), .unset, .unset], v.toList ++ [], μ)) 4 ze2 ?_ (fun n => Eq.refl _)
  obtain ⟨zb3, zh4, h⟩ := bnd h
  refine ev_b (C' := (d + 2, 0, 0, 68, 11, [.val (.ref 1088), .val (.int p1), .val (.int p2), .val (.ref 1095), .val (.int x1), .val (.int 0)], [], (126, 120, L, [Y, T, HA, HB, RA, RB, ST, NS, I0, I1, I2, BO, FI, RG, GU, PU, MA, MN, MS, OT, SC], [r0, r1, r2, r3, w, r5, r6, r7, r8], Lg))) 3 ?_ (fun n => Eq.refl _)
  refine ev_loop (δ := Unit) (fun a j => (d + 2, 0, 0, 68, 11, [.val (.ref 1088), .val (.int p1), .val (.int p2), .val (.ref 1095), .val (.int a.1), .val (.int a.2)], [], (126, 120, L, [Y, T, HA, HB, RA, RB, ST, NS, I0, I1, I2, BO, FI, RG, GU, PU, MA, MN, MS, OT, SC], [r0, r1, r2, r3, w, r5, r6, r7, r8], Lg))) (fun b => ∀ s7 : Slot, Ev (d + 2, 0, 0, 68, 43, [.val (.ref 1088), .val (.int p1), .val (.int p2), .val (.ref 1095), .val (.int b), s7], [], (126, 120, L, [Y, T, HA, HB, RA, RB, ST, NS, I0, I1, I2, BO, FI, RG, GU, PU, MA, MN, MS, OT, SC], [r0, r1, r2, r3, w, r5, r6, r7, r8], Lg)) o) ?_ a_F (x1, 0) zb3 zh4 ?_ ()
  · rintro ⟨v2, v3⟩ zr8 zh7 zi5 zx6 ⟨⟩
    by_cases zc9 : (MA 0 26) ≤ v3
    · have zh7 := itp zh7 zc9
      refine ev_t (c := (MA 0 26) ≤ v3) ((d + 2, 0, 0, 68, 43, [.val (.ref 1088), .val (.int p1), .val (.int p2), .val (.ref 1095), .val (.int v2), .val (.int v3)], [], (126, 120, L, [Y, T, HA, HB, RA, RB, ST, NS, I0, I1, I2, BO, FI, RG, GU, PU, MA, MN, MS, OT, SC], [r0, r1, r2, r3, w, r5, r6, r7, r8], Lg))) ((d + 2, 0, 0, 68, 20, [.val (.ref 1088), .val (.int p1), .val (.int p2), .val (.ref 1095), .val (.int v2), .val (.int v3)], [], (126, 120, L, [Y, T, HA, HB, RA, RB, ST, NS, I0, I1, I2, BO, FI, RG, GU, PU, MA, MN, MS, OT, SC], [r0, r1, r2, r3, w, r5, r6, r7, r8], Lg))) 4 zc9 ?_ (fun n => Eq.refl _)
      exact ev_b 0 (zx6 _ (Option.some.inj zh7).symm (.val (.int v3))) (fun n => Eq.refl _)
    · have zh7 := itn zh7 zc9
      refine ev_f (c := (MA 0 26) ≤ v3) ((d + 2, 0, 0, 68, 43, [.val (.ref 1088), .val (.int p1), .val (.int p2), .val (.ref 1095), .val (.int v2), .val (.int v3)], [], (126, 120, L, [Y, T, HA, HB, RA, RB, ST, NS, I0, I1, I2, BO, FI, RG, GU, PU, MA, MN, MS, OT, SC], [r0, r1, r2, r3, w, r5, r6, r7, r8], Lg))) ((d + 2, 0, 0, 68, 20, [.val (.ref 1088), .val (.int p1), .val (.int p2), .val (.ref 1095), .val (.int v2), .val (.int v3)], [], (126, 120, L, [Y, T, HA, HB, RA, RB, ST, NS, I0, I1, I2, BO, FI, RG, GU, PU, MA, MN, MS, OT, SC], [r0, r1, r2, r3, w, r5, r6, r7, r8], Lg))) 4 zc9 ?_ (fun n => Eq.refl _)
      obtain ⟨x4, zh10, zh7⟩ := bnd zh7
      refine ev_opt (fun x4 => (d + 2, 0, 0, 68, 31, [.val (.ref 1088), .val (.int p1), .val (.int p2), .val (.ref 1095), .val (.int v2), .val (.int v3)], [.int x4, .int v3, .int p2, .int p1, .ref 1088, .int v2], (126, 120, L, [Y, T, HA, HB, RA, RB, ST, NS, I0, I1, I2, BO, FI, RG, GU, PU, MA, MN, MS, OT, SC], [r0, r1, r2, r3, w, r5, r6, r7, r8], Lg))) 8 zh10 ?_ (fun n => Eq.refl _)
      obtain ⟨x5, zh11, zh7⟩ := bnd zh7
      have ze12 := R_f_M_clashWith_0 (d + 1) Y T HA HB RA RB ST NS I0 I1 I2 BO FI RG GU PU MA MN MS OT SC r0 r1 r2 r3 w r5 r6 r7 r8 L Lg p1 p2 v3 x4 zh11
      refine ev_call (fun v μ => (d + 2, 0, 0, 68, 34, [.val (.ref 1088), .val (.int p1), .val (.int p2), .val (.ref 1095), .val (.int v2), .val (.int v3)], v.toList ++ [.int v2], μ)) 1 ze12 ?_ (fun n => Eq.refl _)
      exact ev_b 4 (zi5 _ (Option.some.inj zh7).symm ()) (fun n => Eq.refl _)
  · obtain v6 := zb3
    intro s7
    have ze13 := Option.some.inj h
    subst ze13
    exact ev_rete 2 ho (fun n => Eq.refl _)
set_option maxRecDepth 100000 in
set_option maxHeartbeats 4000000 in
theorem R_f_M_clashOf_1 (d : Nat) (Y T HA HB RA RB ST NS I0 I1 I2 BO FI RG GU PU MA MN MS OT SC : Nat → Nat → Int32) (r0 r1 r2 r3 w r5 r6 r7 r8 : Nat) (L : Nat) (Lg : Int64) (p1 : Int32) (p2 : Int32) {r : Int32} (h : f_M_clashOf MA p1 p2 (MS 4) = some r) : Ev (d + 2, 0, 0, 68, 0, [.val (.ref 1088), .val (.int p1), .val (.int p2), .val (.ref 1220), .unset, .unset], [], (126, 120, L, [Y, T, HA, HB, RA, RB, ST, NS, I0, I1, I2, BO, FI, RG, GU, PU, MA, MN, MS, OT, SC], [r0, r1, r2, r3, w, r5, r6, r7, r8], Lg)) ((0, some (.int r), (126, 120, L, [Y, T, HA, HB, RA, RB, ST, NS, I0, I1, I2, BO, FI, RG, GU, PU, MA, MN, MS, OT, SC], [r0, r1, r2, r3, w, r5, r6, r7, r8], Lg)) : AOut) := by
  suffices key : ∀ o : AOut, ((0, some (.int r), (126, 120, L, [Y, T, HA, HB, RA, RB, ST, NS, I0, I1, I2, BO, FI, RG, GU, PU, MA, MN, MS, OT, SC], [r0, r1, r2, r3, w, r5, r6, r7, r8], Lg)) : AOut) = o → Ev (d + 2, 0, 0, 68, 0, [.val (.ref 1088), .val (.int p1), .val (.int p2), .val (.ref 1220), .unset, .unset], [], (126, 120, L, [Y, T, HA, HB, RA, RB, ST, NS, I0, I1, I2, BO, FI, RG, GU, PU, MA, MN, MS, OT, SC], [r0, r1, r2, r3, w, r5, r6, r7, r8], Lg)) o from key _ rfl
  intro o ho
  obtain ⟨x1, zh1, h⟩ := bnd h
  have ze2 := R_f_M_ownClash_0 (d + 0) Y T HA HB RA RB ST NS I0 I1 I2 BO FI RG GU PU MA MN MS OT SC r0 r1 r2 r3 w r5 r6 r7 r8 L Lg p1 p2 zh1
  refine ev_call (fun v μ => (d + 2, 0, 0, 68, 6, [.val (.ref 1088), .val (.int p1), .val (.int p2), .val (.ref 1220), .unset, .unset], v.toList ++ [], μ)) 4 ze2 ?_ (fun n => Eq.refl _)
  obtain ⟨zb3, zh4, h⟩ := bnd h
  refine ev_b (C' := (d + 2, 0, 0, 68, 11, [.val (.ref 1088), .val (.int p1), .val (.int p2), .val (.ref 1220), .val (.int x1), .val (.int 0)], [], (126, 120, L, [Y, T, HA, HB, RA, RB, ST, NS, I0, I1, I2, BO, FI, RG, GU, PU, MA, MN, MS, OT, SC], [r0, r1, r2, r3, w, r5, r6, r7, r8], Lg))) 3 ?_ (fun n => Eq.refl _)
  refine ev_loop (δ := Unit) (fun a j => (d + 2, 0, 0, 68, 11, [.val (.ref 1088), .val (.int p1), .val (.int p2), .val (.ref 1220), .val (.int a.1), .val (.int a.2)], [], (126, 120, L, [Y, T, HA, HB, RA, RB, ST, NS, I0, I1, I2, BO, FI, RG, GU, PU, MA, MN, MS, OT, SC], [r0, r1, r2, r3, w, r5, r6, r7, r8], Lg))) (fun b => ∀ s7 : Slot, Ev (d + 2, 0, 0, 68, 43, [.val (.ref 1088), .val (.int p1), .val (.int p2), .val (.ref 1220), .val (.int b), s7], [], (126, 120, L, [Y, T, HA, HB, RA, RB, ST, NS, I0, I1, I2, BO, FI, RG, GU, PU, MA, MN, MS, OT, SC], [r0, r1, r2, r3, w, r5, r6, r7, r8], Lg)) o) ?_ a_F (x1, 0) zb3 zh4 ?_ ()
  · rintro ⟨v2, v3⟩ zr8 zh7 zi5 zx6 ⟨⟩
    by_cases zc9 : (MA 0 26) ≤ v3
    · have zh7 := itp zh7 zc9
      refine ev_t (c := (MA 0 26) ≤ v3) ((d + 2, 0, 0, 68, 43, [.val (.ref 1088), .val (.int p1), .val (.int p2), .val (.ref 1220), .val (.int v2), .val (.int v3)], [], (126, 120, L, [Y, T, HA, HB, RA, RB, ST, NS, I0, I1, I2, BO, FI, RG, GU, PU, MA, MN, MS, OT, SC], [r0, r1, r2, r3, w, r5, r6, r7, r8], Lg))) ((d + 2, 0, 0, 68, 20, [.val (.ref 1088), .val (.int p1), .val (.int p2), .val (.ref 1220), .val (.int v2), .val (.int v3)], [], (126, 120, L, [Y, T, HA, HB, RA, RB, ST, NS, I0, I1, I2, BO, FI, RG, GU, PU, MA, MN, MS, OT, SC], [r0, r1, r2, r3, w, r5, r6, r7, r8], Lg))) 4 zc9 ?_ (fun n => Eq.refl _)
      exact ev_b 0 (zx6 _ (Option.some.inj zh7).symm (.val (.int v3))) (fun n => Eq.refl _)
    · have zh7 := itn zh7 zc9
      refine ev_f (c := (MA 0 26) ≤ v3) ((d + 2, 0, 0, 68, 43, [.val (.ref 1088), .val (.int p1), .val (.int p2), .val (.ref 1220), .val (.int v2), .val (.int v3)], [], (126, 120, L, [Y, T, HA, HB, RA, RB, ST, NS, I0, I1, I2, BO, FI, RG, GU, PU, MA, MN, MS, OT, SC], [r0, r1, r2, r3, w, r5, r6, r7, r8], Lg))) ((d + 2, 0, 0, 68, 20, [.val (.ref 1088), .val (.int p1), .val (.int p2), .val (.ref 1220), .val (.int v2), .val (.int v3)], [], (126, 120, L, [Y, T, HA, HB, RA, RB, ST, NS, I0, I1, I2, BO, FI, RG, GU, PU, MA, MN, MS, OT, SC], [r0, r1, r2, r3, w, r5, r6, r7, r8], Lg))) 4 zc9 ?_ (fun n => Eq.refl _)
      obtain ⟨x4, zh10, zh7⟩ := bnd zh7
      refine ev_opt (fun x4 => (d + 2, 0, 0, 68, 31, [.val (.ref 1088), .val (.int p1), .val (.int p2), .val (.ref 1220), .val (.int v2), .val (.int v3)], [.int x4, .int v3, .int p2, .int p1, .ref 1088, .int v2], (126, 120, L, [Y, T, HA, HB, RA, RB, ST, NS, I0, I1, I2, BO, FI, RG, GU, PU, MA, MN, MS, OT, SC], [r0, r1, r2, r3, w, r5, r6, r7, r8], Lg))) 8 zh10 ?_ (fun n => Eq.refl _)
      obtain ⟨x5, zh11, zh7⟩ := bnd zh7
      have ze12 := R_f_M_clashWith_0 (d + 1) Y T HA HB RA RB ST NS I0 I1 I2 BO FI RG GU PU MA MN MS OT SC r0 r1 r2 r3 w r5 r6 r7 r8 L Lg p1 p2 v3 x4 zh11
      refine ev_call (fun v μ => (d + 2, 0, 0, 68, 34, [.val (.ref 1088), .val (.int p1), .val (.int p2), .val (.ref 1220), .val (.int v2), .val (.int v3)], v.toList ++ [.int v2], μ)) 1 ze12 ?_ (fun n => Eq.refl _)
      exact ev_b 4 (zi5 _ (Option.some.inj zh7).symm ()) (fun n => Eq.refl _)
  · obtain v6 := zb3
    intro s7
    have ze13 := Option.some.inj h
    subst ze13
    exact ev_rete 2 ho (fun n => Eq.refl _)
set_option maxRecDepth 100000 in
set_option maxHeartbeats 4000000 in
theorem R_f_M_isLawful_0 (d : Nat) (Y T HA HB RA RB ST NS I0 I1 I2 BO FI RG GU PU MA MN MS OT SC : Nat → Nat → Int32) (r0 r1 r2 r3 w r5 r6 r7 r8 : Nat) (L : Nat) (Lg : Int64) {r : Int32} (h : f_M_isLawful MA (MS 4) = some r) : Ev (d + 3, 0, 0, 69, 0, [.val (.ref 1088), .val (.ref 1220), .unset], [], (126, 120, L, [Y, T, HA, HB, RA, RB, ST, NS, I0, I1, I2, BO, FI, RG, GU, PU, MA, MN, MS, OT, SC], [r0, r1, r2, r3, w, r5, r6, r7, r8], Lg)) ((0, some (.int r), (126, 120, L, [Y, T, HA, HB, RA, RB, ST, NS, I0, I1, I2, BO, FI, RG, GU, PU, MA, MN, MS, OT, SC], [r0, r1, r2, r3, w, r5, r6, r7, r8], Lg)) : AOut) := by
  suffices key : ∀ o : AOut, ((0, some (.int r), (126, 120, L, [Y, T, HA, HB, RA, RB, ST, NS, I0, I1, I2, BO, FI, RG, GU, PU, MA, MN, MS, OT, SC], [r0, r1, r2, r3, w, r5, r6, r7, r8], Lg)) : AOut) = o → Ev (d + 3, 0, 0, 69, 0, [.val (.ref 1088), .val (.ref 1220), .unset], [], (126, 120, L, [Y, T, HA, HB, RA, RB, ST, NS, I0, I1, I2, BO, FI, RG, GU, PU, MA, MN, MS, OT, SC], [r0, r1, r2, r3, w, r5, r6, r7, r8], Lg)) o from key _ rfl
  intro o ho
  obtain ⟨zb1, zh2, h⟩ := bnd h
  refine ev_b (C' := (d + 3, 0, 0, 69, 2, [.val (.ref 1088), .val (.ref 1220), .val (.int 0)], [], (126, 120, L, [Y, T, HA, HB, RA, RB, ST, NS, I0, I1, I2, BO, FI, RG, GU, PU, MA, MN, MS, OT, SC], [r0, r1, r2, r3, w, r5, r6, r7, r8], Lg))) 2 ?_ (fun n => Eq.refl _)
  refine ev_loop (δ := Unit) (fun a j => (d + 3, 0, 0, 69, 2, [.val (.ref 1088), .val (.ref 1220), .val (.int a)], [], (126, 120, L, [Y, T, HA, HB, RA, RB, ST, NS, I0, I1, I2, BO, FI, RG, GU, PU, MA, MN, MS, OT, SC], [r0, r1, r2, r3, w, r5, r6, r7, r8], Lg))) (fun b => sumE b (fun b => ∀ s5 : Slot, Ev (d + 3, 0, 0, 69, 37, [.val (.ref 1088), .val (.ref 1220), s5], [], (126, 120, L, [Y, T, HA, HB, RA, RB, ST, NS, I0, I1, I2, BO, FI, RG, GU, PU, MA, MN, MS, OT, SC], [r0, r1, r2, r3, w, r5, r6, r7, r8], Lg)) o) (fun b => ((0, some (.int b), (126, 120, L, [Y, T, HA, HB, RA, RB, ST, NS, I0, I1, I2, BO, FI, RG, GU, PU, MA, MN, MS, OT, SC], [r0, r1, r2, r3, w, r5, r6, r7, r8], Lg)) : AOut) = o)) ?_ a_F 0 zb1 zh2 ?_ ()
  · rintro v1 zr6 zh5 zi3 zx4 ⟨⟩
    by_cases zc7 : (MA 0 26) ≤ v1
    · have zh5 := itp zh5 zc7
      refine ev_t (c := (MA 0 26) ≤ v1) ((d + 3, 0, 0, 69, 37, [.val (.ref 1088), .val (.ref 1220), .val (.int v1)], [], (126, 120, L, [Y, T, HA, HB, RA, RB, ST, NS, I0, I1, I2, BO, FI, RG, GU, PU, MA, MN, MS, OT, SC], [r0, r1, r2, r3, w, r5, r6, r7, r8], Lg))) ((d + 3, 0, 0, 69, 10, [.val (.ref 1088), .val (.ref 1220), .val (.int v1)], [], (126, 120, L, [Y, T, HA, HB, RA, RB, ST, NS, I0, I1, I2, BO, FI, RG, GU, PU, MA, MN, MS, OT, SC], [r0, r1, r2, r3, w, r5, r6, r7, r8], Lg))) 4 zc7 ?_ (fun n => Eq.refl _)
      exact ev_b 0 (zx4 _ (Option.some.inj zh5).symm (.val (.int v1))) (fun n => Eq.refl _)
    · have zh5 := itn zh5 zc7
      refine ev_f (c := (MA 0 26) ≤ v1) ((d + 3, 0, 0, 69, 37, [.val (.ref 1088), .val (.ref 1220), .val (.int v1)], [], (126, 120, L, [Y, T, HA, HB, RA, RB, ST, NS, I0, I1, I2, BO, FI, RG, GU, PU, MA, MN, MS, OT, SC], [r0, r1, r2, r3, w, r5, r6, r7, r8], Lg))) ((d + 3, 0, 0, 69, 10, [.val (.ref 1088), .val (.ref 1220), .val (.int v1)], [], (126, 120, L, [Y, T, HA, HB, RA, RB, ST, NS, I0, I1, I2, BO, FI, RG, GU, PU, MA, MN, MS, OT, SC], [r0, r1, r2, r3, w, r5, r6, r7, r8], Lg))) 4 zc7 ?_ (fun n => Eq.refl _)
      obtain ⟨x2, zh8, zh5⟩ := bnd zh5
      refine ev_opt (fun x2 => (d + 3, 0, 0, 69, 13, [.val (.ref 1088), .val (.ref 1220), .val (.int v1)], [.int x2], (126, 120, L, [Y, T, HA, HB, RA, RB, ST, NS, I0, I1, I2, BO, FI, RG, GU, PU, MA, MN, MS, OT, SC], [r0, r1, r2, r3, w, r5, r6, r7, r8], Lg))) 3 zh8 ?_ (fun n => Eq.refl _)
      by_cases zc9 : x2 = (-1)
      · have zh5 := itp zh5 zc9
        refine ev_t (c := x2 = (-1)) ((d + 3, 0, 0, 69, 31, [.val (.ref 1088), .val (.ref 1220), .val (.int v1)], [], (126, 120, L, [Y, T, HA, HB, RA, RB, ST, NS, I0, I1, I2, BO, FI, RG, GU, PU, MA, MN, MS, OT, SC], [r0, r1, r2, r3, w, r5, r6, r7, r8], Lg))) ((d + 3, 0, 0, 69, 17, [.val (.ref 1088), .val (.ref 1220), .val (.int v1)], [], (126, 120, L, [Y, T, HA, HB, RA, RB, ST, NS, I0, I1, I2, BO, FI, RG, GU, PU, MA, MN, MS, OT, SC], [r0, r1, r2, r3, w, r5, r6, r7, r8], Lg))) 2 zc9 ?_ (fun n => Eq.refl _)
        exact ev_b 2 (zi3 _ (Option.some.inj zh5).symm ()) (fun n => Eq.refl _)
      · have zh5 := itn zh5 zc9
        refine ev_f (c := x2 = (-1)) ((d + 3, 0, 0, 69, 31, [.val (.ref 1088), .val (.ref 1220), .val (.int v1)], [], (126, 120, L, [Y, T, HA, HB, RA, RB, ST, NS, I0, I1, I2, BO, FI, RG, GU, PU, MA, MN, MS, OT, SC], [r0, r1, r2, r3, w, r5, r6, r7, r8], Lg))) ((d + 3, 0, 0, 69, 17, [.val (.ref 1088), .val (.ref 1220), .val (.int v1)], [], (126, 120, L, [Y, T, HA, HB, RA, RB, ST, NS, I0, I1, I2, BO, FI, RG, GU, PU, MA, MN, MS, OT, SC], [r0, r1, r2, r3, w, r5, r6, r7, r8], Lg))) 2 zc9 ?_ (fun n => Eq.refl _)
        obtain ⟨x3, zh10, zh5⟩ := bnd zh5
        refine ev_opt (fun x3 => (d + 3, 0, 0, 69, 22, [.val (.ref 1088), .val (.ref 1220), .val (.int v1)], [.int x3, .int v1, .ref 1088], (126, 120, L, [Y, T, HA, HB, RA, RB, ST, NS, I0, I1, I2, BO, FI, RG, GU, PU, MA, MN, MS, OT, SC], [r0, r1, r2, r3, w, r5, r6, r7, r8], Lg))) 5 zh10 ?_ (fun n => Eq.refl _)
        obtain ⟨x4, zh11, zh5⟩ := bnd zh5
        have ze12 := R_f_M_clashOf_1 (d + 0) Y T HA HB RA RB ST NS I0 I1 I2 BO FI RG GU PU MA MN MS OT SC r0 r1 r2 r3 w r5 r6 r7 r8 L Lg v1 x3 zh11
        refine ev_call (fun v μ => (d + 3, 0, 0, 69, 26, [.val (.ref 1088), .val (.ref 1220), .val (.int v1)], v.toList ++ [], μ)) 2 ze12 ?_ (fun n => Eq.refl _)
        by_cases zc13 : x4 = 0
        · have zh5 := itp zh5 zc13
          refine ev_t (c := x4 = 0) ((d + 3, 0, 0, 69, 31, [.val (.ref 1088), .val (.ref 1220), .val (.int v1)], [], (126, 120, L, [Y, T, HA, HB, RA, RB, ST, NS, I0, I1, I2, BO, FI, RG, GU, PU, MA, MN, MS, OT, SC], [r0, r1, r2, r3, w, r5, r6, r7, r8], Lg))) ((d + 3, 0, 0, 69, 29, [.val (.ref 1088), .val (.ref 1220), .val (.int v1)], [], (126, 120, L, [Y, T, HA, HB, RA, RB, ST, NS, I0, I1, I2, BO, FI, RG, GU, PU, MA, MN, MS, OT, SC], [r0, r1, r2, r3, w, r5, r6, r7, r8], Lg))) 1 zc13 ?_ (fun n => Eq.refl _)
          exact ev_b 2 (zi3 _ (Option.some.inj zh5).symm ()) (fun n => Eq.refl _)
        · have zh5 := itn zh5 zc13
          refine ev_f (c := x4 = 0) ((d + 3, 0, 0, 69, 31, [.val (.ref 1088), .val (.ref 1220), .val (.int v1)], [], (126, 120, L, [Y, T, HA, HB, RA, RB, ST, NS, I0, I1, I2, BO, FI, RG, GU, PU, MA, MN, MS, OT, SC], [r0, r1, r2, r3, w, r5, r6, r7, r8], Lg))) ((d + 3, 0, 0, 69, 29, [.val (.ref 1088), .val (.ref 1220), .val (.int v1)], [], (126, 120, L, [Y, T, HA, HB, RA, RB, ST, NS, I0, I1, I2, BO, FI, RG, GU, PU, MA, MN, MS, OT, SC], [r0, r1, r2, r3, w, r5, r6, r7, r8], Lg))) 1 zc13 ?_ (fun n => Eq.refl _)
          exact ev_rete 2 (zx4 _ (Option.some.inj zh5).symm) (fun n => Eq.refl _)
  · rcases zb1 with ⟨⟩ | zr6
    · intro s5
      have ze14 := Option.some.inj h
      subst ze14
      exact ev_rete 2 ho (fun n => Eq.refl _)
    · have zh15 : some zr6 = some r := h
      exact (congrArg (fun q => ((0, some (.int q), (126, 120, L, [Y, T, HA, HB, RA, RB, ST, NS, I0, I1, I2, BO, FI, RG, GU, PU, MA, MN, MS, OT, SC], [r0, r1, r2, r3, w, r5, r6, r7, r8], Lg)) : AOut)) (Option.some.inj zh15)).trans ho
set_option maxRecDepth 100000 in
set_option maxHeartbeats 4000000 in
theorem R_f_M_clashOf_2 (d : Nat) (Y T HA HB RA RB ST NS I0 I1 I2 BO FI RG GU PU MA MN MS OT SC : Nat → Nat → Int32) (r0 r1 r2 r3 w r5 r6 r7 r8 : Nat) (L : Nat) (Lg : Int64) (p1 : Int32) (p2 : Int32) {r : Int32} (h : f_M_clashOf MA p1 p2 (MS 1) = some r) : Ev (d + 2, 0, 0, 68, 0, [.val (.ref 1088), .val (.int p1), .val (.int p2), .val (.ref 1217), .unset, .unset], [], (126, 120, L, [Y, T, HA, HB, RA, RB, ST, NS, I0, I1, I2, BO, FI, RG, GU, PU, MA, MN, MS, OT, SC], [r0, r1, r2, r3, w, r5, r6, r7, r8], Lg)) ((0, some (.int r), (126, 120, L, [Y, T, HA, HB, RA, RB, ST, NS, I0, I1, I2, BO, FI, RG, GU, PU, MA, MN, MS, OT, SC], [r0, r1, r2, r3, w, r5, r6, r7, r8], Lg)) : AOut) := by
  suffices key : ∀ o : AOut, ((0, some (.int r), (126, 120, L, [Y, T, HA, HB, RA, RB, ST, NS, I0, I1, I2, BO, FI, RG, GU, PU, MA, MN, MS, OT, SC], [r0, r1, r2, r3, w, r5, r6, r7, r8], Lg)) : AOut) = o → Ev (d + 2, 0, 0, 68, 0, [.val (.ref 1088), .val (.int p1), .val (.int p2), .val (.ref 1217), .unset, .unset], [], (126, 120, L, [Y, T, HA, HB, RA, RB, ST, NS, I0, I1, I2, BO, FI, RG, GU, PU, MA, MN, MS, OT, SC], [r0, r1, r2, r3, w, r5, r6, r7, r8], Lg)) o from key _ rfl
  intro o ho
  obtain ⟨x1, zh1, h⟩ := bnd h
  have ze2 := R_f_M_ownClash_0 (d + 0) Y T HA HB RA RB ST NS I0 I1 I2 BO FI RG GU PU MA MN MS OT SC r0 r1 r2 r3 w r5 r6 r7 r8 L Lg p1 p2 zh1
  refine ev_call (fun v μ => (d + 2, 0, 0, 68, 6, [.val (.ref 1088), .val (.int p1), .val (.int p2), .val (.ref 1217), .unset, .unset], v.toList ++ [], μ)) 4 ze2 ?_ (fun n => Eq.refl _)
  obtain ⟨zb3, zh4, h⟩ := bnd h
  refine ev_b (C' := (d + 2, 0, 0, 68, 11, [.val (.ref 1088), .val (.int p1), .val (.int p2), .val (.ref 1217), .val (.int x1), .val (.int 0)], [], (126, 120, L, [Y, T, HA, HB, RA, RB, ST, NS, I0, I1, I2, BO, FI, RG, GU, PU, MA, MN, MS, OT, SC], [r0, r1, r2, r3, w, r5, r6, r7, r8], Lg))) 3 ?_ (fun n => Eq.refl _)
  refine ev_loop (δ := Unit) (fun a j => (d + 2, 0, 0, 68, 11, [.val (.ref 1088), .val (.int p1), .val (.int p2), .val (.ref 1217), .val (.int a.1), .val (.int a.2)], [], (126, 120, L, [Y, T, HA, HB, RA, RB, ST, NS, I0, I1, I2, BO, FI, RG, GU, PU, MA, MN, MS, OT, SC], [r0, r1, r2, r3, w, r5, r6, r7, r8], Lg))) (fun b => ∀ s7 : Slot, Ev (d + 2, 0, 0, 68, 43, [.val (.ref 1088), .val (.int p1), .val (.int p2), .val (.ref 1217), .val (.int b), s7], [], (126, 120, L, [Y, T, HA, HB, RA, RB, ST, NS, I0, I1, I2, BO, FI, RG, GU, PU, MA, MN, MS, OT, SC], [r0, r1, r2, r3, w, r5, r6, r7, r8], Lg)) o) ?_ a_F (x1, 0) zb3 zh4 ?_ ()
  · rintro ⟨v2, v3⟩ zr8 zh7 zi5 zx6 ⟨⟩
    by_cases zc9 : (MA 0 26) ≤ v3
    · have zh7 := itp zh7 zc9
      refine ev_t (c := (MA 0 26) ≤ v3) ((d + 2, 0, 0, 68, 43, [.val (.ref 1088), .val (.int p1), .val (.int p2), .val (.ref 1217), .val (.int v2), .val (.int v3)], [], (126, 120, L, [Y, T, HA, HB, RA, RB, ST, NS, I0, I1, I2, BO, FI, RG, GU, PU, MA, MN, MS, OT, SC], [r0, r1, r2, r3, w, r5, r6, r7, r8], Lg))) ((d + 2, 0, 0, 68, 20, [.val (.ref 1088), .val (.int p1), .val (.int p2), .val (.ref 1217), .val (.int v2), .val (.int v3)], [], (126, 120, L, [Y, T, HA, HB, RA, RB, ST, NS, I0, I1, I2, BO, FI, RG, GU, PU, MA, MN, MS, OT, SC], [r0, r1, r2, r3, w, r5, r6, r7, r8], Lg))) 4 zc9 ?_ (fun n => Eq.refl _)
      exact ev_b 0 (zx6 _ (Option.some.inj zh7).symm (.val (.int v3))) (fun n => Eq.refl _)
    · have zh7 := itn zh7 zc9
      refine ev_f (c := (MA 0 26) ≤ v3) ((d + 2, 0, 0, 68, 43, [.val (.ref 1088), .val (.int p1), .val (.int p2), .val (.ref 1217), .val (.int v2), .val (.int v3)], [], (126, 120, L, [Y, T, HA, HB, RA, RB, ST, NS, I0, I1, I2, BO, FI, RG, GU, PU, MA, MN, MS, OT, SC], [r0, r1, r2, r3, w, r5, r6, r7, r8], Lg))) ((d + 2, 0, 0, 68, 20, [.val (.ref 1088), .val (.int p1), .val (.int p2), .val (.ref 1217), .val (.int v2), .val (.int v3)], [], (126, 120, L, [Y, T, HA, HB, RA, RB, ST, NS, I0, I1, I2, BO, FI, RG, GU, PU, MA, MN, MS, OT, SC], [r0, r1, r2, r3, w, r5, r6, r7, r8], Lg))) 4 zc9 ?_ (fun n => Eq.refl _)
      obtain ⟨x4, zh10, zh7⟩ := bnd zh7
      refine ev_opt (fun x4 => (d + 2, 0, 0, 68, 31, [.val (.ref 1088), .val (.int p1), .val (.int p2), .val (.ref 1217), .val (.int v2), .val (.int v3)], [.int x4, .int v3, .int p2, .int p1, .ref 1088, .int v2], (126, 120, L, [Y, T, HA, HB, RA, RB, ST, NS, I0, I1, I2, BO, FI, RG, GU, PU, MA, MN, MS, OT, SC], [r0, r1, r2, r3, w, r5, r6, r7, r8], Lg))) 8 zh10 ?_ (fun n => Eq.refl _)
      obtain ⟨x5, zh11, zh7⟩ := bnd zh7
      have ze12 := R_f_M_clashWith_0 (d + 1) Y T HA HB RA RB ST NS I0 I1 I2 BO FI RG GU PU MA MN MS OT SC r0 r1 r2 r3 w r5 r6 r7 r8 L Lg p1 p2 v3 x4 zh11
      refine ev_call (fun v μ => (d + 2, 0, 0, 68, 34, [.val (.ref 1088), .val (.int p1), .val (.int p2), .val (.ref 1217), .val (.int v2), .val (.int v3)], v.toList ++ [.int v2], μ)) 1 ze12 ?_ (fun n => Eq.refl _)
      exact ev_b 4 (zi5 _ (Option.some.inj zh7).symm ()) (fun n => Eq.refl _)
  · obtain v6 := zb3
    intro s7
    have ze13 := Option.some.inj h
    subst ze13
    exact ev_rete 2 ho (fun n => Eq.refl _)
set_option maxRecDepth 100000 in
set_option maxHeartbeats 4000000 in
theorem R_f_M_isLawful_1 (d : Nat) (Y T HA HB RA RB ST NS I0 I1 I2 BO FI RG GU PU MA MN MS OT SC : Nat → Nat → Int32) (r0 r1 r2 r3 w r5 r6 r7 r8 : Nat) (L : Nat) (Lg : Int64) {r : Int32} (h : f_M_isLawful MA (MS 1) = some r) : Ev (d + 3, 0, 0, 69, 0, [.val (.ref 1088), .val (.ref 1217), .unset], [], (126, 120, L, [Y, T, HA, HB, RA, RB, ST, NS, I0, I1, I2, BO, FI, RG, GU, PU, MA, MN, MS, OT, SC], [r0, r1, r2, r3, w, r5, r6, r7, r8], Lg)) ((0, some (.int r), (126, 120, L, [Y, T, HA, HB, RA, RB, ST, NS, I0, I1, I2, BO, FI, RG, GU, PU, MA, MN, MS, OT, SC], [r0, r1, r2, r3, w, r5, r6, r7, r8], Lg)) : AOut) := by
  suffices key : ∀ o : AOut, ((0, some (.int r), (126, 120, L, [Y, T, HA, HB, RA, RB, ST, NS, I0, I1, I2, BO, FI, RG, GU, PU, MA, MN, MS, OT, SC], [r0, r1, r2, r3, w, r5, r6, r7, r8], Lg)) : AOut) = o → Ev (d + 3, 0, 0, 69, 0, [.val (.ref 1088), .val (.ref 1217), .unset], [], (126, 120, L, [Y, T, HA, HB, RA, RB, ST, NS, I0, I1, I2, BO, FI, RG, GU, PU, MA, MN, MS, OT, SC], [r0, r1, r2, r3, w, r5, r6, r7, r8], Lg)) o from key _ rfl
  intro o ho
  obtain ⟨zb1, zh2, h⟩ := bnd h
  refine ev_b (C' := (d + 3, 0, 0, 69, 2, [.val (.ref 1088), .val (.ref 1217), .val (.int 0)], [], (126, 120, L, [Y, T, HA, HB, RA, RB, ST, NS, I0, I1, I2, BO, FI, RG, GU, PU, MA, MN, MS, OT, SC], [r0, r1, r2, r3, w, r5, r6, r7, r8], Lg))) 2 ?_ (fun n => Eq.refl _)
  refine ev_loop (δ := Unit) (fun a j => (d + 3, 0, 0, 69, 2, [.val (.ref 1088), .val (.ref 1217), .val (.int a)], [], (126, 120, L, [Y, T, HA, HB, RA, RB, ST, NS, I0, I1, I2, BO, FI, RG, GU, PU, MA, MN, MS, OT, SC], [r0, r1, r2, r3, w, r5, r6, r7, r8], Lg))) (fun b => sumE b (fun b => ∀ s5 : Slot, Ev (d + 3, 0, 0, 69, 37, [.val (.ref 1088), .val (.ref 1217), s5], [], (126, 120, L, [Y, T, HA, HB, RA, RB, ST, NS, I0, I1, I2, BO, FI, RG, GU, PU, MA, MN, MS, OT, SC], [r0, r1, r2, r3, w, r5, r6, r7, r8], Lg)) o) (fun b => ((0, some (.int b), (126, 120, L, [Y, T, HA, HB, RA, RB, ST, NS, I0, I1, I2, BO, FI, RG, GU, PU, MA, MN, MS, OT, SC], [r0, r1, r2, r3, w, r5, r6, r7, r8], Lg)) : AOut) = o)) ?_ a_F 0 zb1 zh2 ?_ ()
  · rintro v1 zr6 zh5 zi3 zx4 ⟨⟩
    by_cases zc7 : (MA 0 26) ≤ v1
    · have zh5 := itp zh5 zc7
      refine ev_t (c := (MA 0 26) ≤ v1) ((d + 3, 0, 0, 69, 37, [.val (.ref 1088), .val (.ref 1217), .val (.int v1)], [], (126, 120, L, [Y, T, HA, HB, RA, RB, ST, NS, I0, I1, I2, BO, FI, RG, GU, PU, MA, MN, MS, OT, SC], [r0, r1, r2, r3, w, r5, r6, r7, r8], Lg))) ((d + 3, 0, 0, 69, 10, [.val (.ref 1088), .val (.ref 1217), .val (.int v1)], [], (126, 120, L, [Y, T, HA, HB, RA, RB, ST, NS, I0, I1, I2, BO, FI, RG, GU, PU, MA, MN, MS, OT, SC], [r0, r1, r2, r3, w, r5, r6, r7, r8], Lg))) 4 zc7 ?_ (fun n => Eq.refl _)
      exact ev_b 0 (zx4 _ (Option.some.inj zh5).symm (.val (.int v1))) (fun n => Eq.refl _)
    · have zh5 := itn zh5 zc7
      refine ev_f (c := (MA 0 26) ≤ v1) ((d + 3, 0, 0, 69, 37, [.val (.ref 1088), .val (.ref 1217), .val (.int v1)], [], (126, 120, L, [Y, T, HA, HB, RA, RB, ST, NS, I0, I1, I2, BO, FI, RG, GU, PU, MA, MN, MS, OT, SC], [r0, r1, r2, r3, w, r5, r6, r7, r8], Lg))) ((d + 3, 0, 0, 69, 10, [.val (.ref 1088), .val (.ref 1217), .val (.int v1)], [], (126, 120, L, [Y, T, HA, HB, RA, RB, ST, NS, I0, I1, I2, BO, FI, RG, GU, PU, MA, MN, MS, OT, SC], [r0, r1, r2, r3, w, r5, r6, r7, r8], Lg))) 4 zc7 ?_ (fun n => Eq.refl _)
      obtain ⟨x2, zh8, zh5⟩ := bnd zh5
      refine ev_opt (fun x2 => (d + 3, 0, 0, 69, 13, [.val (.ref 1088), .val (.ref 1217), .val (.int v1)], [.int x2], (126, 120, L, [Y, T, HA, HB, RA, RB, ST, NS, I0, I1, I2, BO, FI, RG, GU, PU, MA, MN, MS, OT, SC], [r0, r1, r2, r3, w, r5, r6, r7, r8], Lg))) 3 zh8 ?_ (fun n => Eq.refl _)
      by_cases zc9 : x2 = (-1)
      · have zh5 := itp zh5 zc9
        refine ev_t (c := x2 = (-1)) ((d + 3, 0, 0, 69, 31, [.val (.ref 1088), .val (.ref 1217), .val (.int v1)], [], (126, 120, L, [Y, T, HA, HB, RA, RB, ST, NS, I0, I1, I2, BO, FI, RG, GU, PU, MA, MN, MS, OT, SC], [r0, r1, r2, r3, w, r5, r6, r7, r8], Lg))) ((d + 3, 0, 0, 69, 17, [.val (.ref 1088), .val (.ref 1217), .val (.int v1)], [], (126, 120, L, [Y, T, HA, HB, RA, RB, ST, NS, I0, I1, I2, BO, FI, RG, GU, PU, MA, MN, MS, OT, SC], [r0, r1, r2, r3, w, r5, r6, r7, r8], Lg))) 2 zc9 ?_ (fun n => Eq.refl _)
        exact ev_b 2 (zi3 _ (Option.some.inj zh5).symm ()) (fun n => Eq.refl _)
      · have zh5 := itn zh5 zc9
        refine ev_f (c := x2 = (-1)) ((d + 3, 0, 0, 69, 31, [.val (.ref 1088), .val (.ref 1217), .val (.int v1)], [], (126, 120, L, [Y, T, HA, HB, RA, RB, ST, NS, I0, I1, I2, BO, FI, RG, GU, PU, MA, MN, MS, OT, SC], [r0, r1, r2, r3, w, r5, r6, r7, r8], Lg))) ((d + 3, 0, 0, 69, 17, [.val (.ref 1088), .val (.ref 1217), .val (.int v1)], [], (126, 120, L, [Y, T, HA, HB, RA, RB, ST, NS, I0, I1, I2, BO, FI, RG, GU, PU, MA, MN, MS, OT, SC], [r0, r1, r2, r3, w, r5, r6, r7, r8], Lg))) 2 zc9 ?_ (fun n => Eq.refl _)
        obtain ⟨x3, zh10, zh5⟩ := bnd zh5
        refine ev_opt (fun x3 => (d + 3, 0, 0, 69, 22, [.val (.ref 1088), .val (.ref 1217), .val (.int v1)], [.int x3, .int v1, .ref 1088], (126, 120, L, [Y, T, HA, HB, RA, RB, ST, NS, I0, I1, I2, BO, FI, RG, GU, PU, MA, MN, MS, OT, SC], [r0, r1, r2, r3, w, r5, r6, r7, r8], Lg))) 5 zh10 ?_ (fun n => Eq.refl _)
        obtain ⟨x4, zh11, zh5⟩ := bnd zh5
        have ze12 := R_f_M_clashOf_2 (d + 0) Y T HA HB RA RB ST NS I0 I1 I2 BO FI RG GU PU MA MN MS OT SC r0 r1 r2 r3 w r5 r6 r7 r8 L Lg v1 x3 zh11
        refine ev_call (fun v μ => (d + 3, 0, 0, 69, 26, [.val (.ref 1088), .val (.ref 1217), .val (.int v1)], v.toList ++ [], μ)) 2 ze12 ?_ (fun n => Eq.refl _)
        by_cases zc13 : x4 = 0
        · have zh5 := itp zh5 zc13
          refine ev_t (c := x4 = 0) ((d + 3, 0, 0, 69, 31, [.val (.ref 1088), .val (.ref 1217), .val (.int v1)], [], (126, 120, L, [Y, T, HA, HB, RA, RB, ST, NS, I0, I1, I2, BO, FI, RG, GU, PU, MA, MN, MS, OT, SC], [r0, r1, r2, r3, w, r5, r6, r7, r8], Lg))) ((d + 3, 0, 0, 69, 29, [.val (.ref 1088), .val (.ref 1217), .val (.int v1)], [], (126, 120, L, [Y, T, HA, HB, RA, RB, ST, NS, I0, I1, I2, BO, FI, RG, GU, PU, MA, MN, MS, OT, SC], [r0, r1, r2, r3, w, r5, r6, r7, r8], Lg))) 1 zc13 ?_ (fun n => Eq.refl _)
          exact ev_b 2 (zi3 _ (Option.some.inj zh5).symm ()) (fun n => Eq.refl _)
        · have zh5 := itn zh5 zc13
          refine ev_f (c := x4 = 0) ((d + 3, 0, 0, 69, 31, [.val (.ref 1088), .val (.ref 1217), .val (.int v1)], [], (126, 120, L, [Y, T, HA, HB, RA, RB, ST, NS, I0, I1, I2, BO, FI, RG, GU, PU, MA, MN, MS, OT, SC], [r0, r1, r2, r3, w, r5, r6, r7, r8], Lg))) ((d + 3, 0, 0, 69, 29, [.val (.ref 1088), .val (.ref 1217), .val (.int v1)], [], (126, 120, L, [Y, T, HA, HB, RA, RB, ST, NS, I0, I1, I2, BO, FI, RG, GU, PU, MA, MN, MS, OT, SC], [r0, r1, r2, r3, w, r5, r6, r7, r8], Lg))) 1 zc13 ?_ (fun n => Eq.refl _)
          exact ev_rete 2 (zx4 _ (Option.some.inj zh5).symm) (fun n => Eq.refl _)
  · rcases zb1 with ⟨⟩ | zr6
    · intro s5
      have ze14 := Option.some.inj h
      subst ze14
      exact ev_rete 2 ho (fun n => Eq.refl _)
    · have zh15 : some zr6 = some r := h
      exact (congrArg (fun q => ((0, some (.int q), (126, 120, L, [Y, T, HA, HB, RA, RB, ST, NS, I0, I1, I2, BO, FI, RG, GU, PU, MA, MN, MS, OT, SC], [r0, r1, r2, r3, w, r5, r6, r7, r8], Lg)) : AOut)) (Option.some.inj zh15)).trans ho
