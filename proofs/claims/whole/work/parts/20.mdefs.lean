/-! printed by program (gen/emitm.py): what the reference's methods do, as functions -/
def f_M_thrown (MA : (Nat → Nat → Int32)) : Option (Int32) :=
  some (MA 0 0)
def f_M_may (MA : (Nat → Nat → Int32)) (p1 : Int32) (p2 : Int32) (p3 : Int32) : Option (Int32 × (Nat → Nat → Int32)) :=
  (((
    if p1 ≠ 0 then
      some MA
    else
      if (MA 0 0) ≠ 0 then
        some MA
      else
        (rdx ((u2 MA 0 0 p2) 1) 2 p3).bind fun x1 =>
        (ixx 2 p3).bind fun j2 =>
        some (u2 (u2 MA 0 0 p2) 1 j2 (x1 + 1))) : Option ((Nat → Nat → Int32)))).bind fun MA_3 =>
  if (MA_3 0 0) ≠ 0 then
    some ((zb 0), MA_3)
  else
    some ((zb 1), MA_3)
def f_M_within (p0 : Int32) (p1 : Int32) (p2 : Int32) : Option (Int32) :=
  if p0 < p1 then
    some (zb 0)
  else
    if p2 < p0 then
      some (zb 0)
    else
      some (zb 1)
def f_M_feed_l23 (p5 : Int32) (p4 : Int32) (p3 : Int32) (p2 : Int32) (p1 : Int32) (v1 : Int32) (MA_3 : (Nat → Nat → Int32)) : Option ((Int32 × (Nat → Nat → Int32)) ⊕ ((Nat → Nat → Int32))) :=
  if 20 ≤ v1 then
    some (.inr MA_3)
  else
    (((
      if 4 ≤ v1 then
        if 8 ≤ v1 then
          if 12 ≤ v1 then
            if 16 ≤ v1 then
              some p5
            else
              some p4
          else
            some p3
        else
          some p2
      else
        some p1) : Option (Int32))).bind fun v4 =>
    (ixx 600 (MA_3 0 2)).bind fun j5 =>
    some (.inl ((v1 + 1), (u2 (u2 MA_3 2 j5 ((a_shr v4 (24 - (8 * (a_rem v1 4)))) &&& 255)) 0 2 (((u2 MA_3 2 j5 ((a_shr v4 (24 - (8 * (a_rem v1 4)))) &&& 255)) 0 2) + 1))))
def f_M_feed (MA : (Nat → Nat → Int32)) (p1 : Int32) (p2 : Int32) (p3 : Int32) (p4 : Int32) (p5 : Int32) : Option (Int32 × (Nat → Nat → Int32)) :=
  if (((u2 MA 0 0 0) 0 2) + 20) ≤ 600 then
    (loopN (fun q => f_M_feed_l23 p5 p4 p3 p2 p1 q.1 q.2) a_F (0, (u2 MA 0 0 0))).bind fun MA_8 =>
    some ((MA_8 0 2), MA_8)
  else
    some ((-1), (u2 MA 0 0 0))
def f_M_fine (MN : (Nat → Nat → Int32)) : Option (Int32) :=
  if (MN 0 5) ≠ (-1) then
    some (zb 0)
  else
    some (zb 1)
def f_M_wrong (MN : (Nat → Nat → Int32)) (p1 : Int32) (p2 : Int32) : Option ((Nat → Nat → Int32)) :=
  if (MN 0 5) = (-1) then
    some (u2 (u2 MN 0 5 p2) 0 6 p1)
  else
    some MN
def f_M_here_l0 (MA : (Nat → Nat → Int32)) (MN_1 : (Nat → Nat → Int32)) : Option (((Nat → Nat → Int32)) ⊕ ((Nat → Nat → Int32))) :=
  if (MN_1 0 3) ≤ (MN_1 0 4) then
    some (.inr MN_1)
  else
    (rdx (MA 2) 600 (MN_1 0 4)).bind fun x2 =>
    if x2 ≠ 32 then
      some (.inr MN_1)
    else
      some (.inl (u2 MN_1 0 4 ((MN_1 0 4) + 1)))
def f_M_here (MA : (Nat → Nat → Int32)) (MN : (Nat → Nat → Int32)) : Option (Int32 × (Nat → Nat → Int32)) :=
  (loopN (fun q => f_M_here_l0 MA q) a_F MN).bind fun MN_3 =>
  if (MN_3 0 3) ≤ (MN_3 0 4) then
    some (0, MN_3)
  else
    (rdx (MA 2) 600 (MN_3 0 4)).bind fun x4 =>
    some (x4, MN_3)
def f_M_isSmall (p0 : Int32) : Option (Int32) :=
  if p0 < 97 then
    some (zb 0)
  else
    if 122 < p0 then
      some (zb 0)
    else
      some (zb 1)
def f_M_isDigit (p0 : Int32) : Option (Int32) :=
  if p0 < 48 then
    some (zb 0)
  else
    if 57 < p0 then
      some (zb 0)
    else
      some (zb 1)
def f_M_word_l14 (MA : (Nat → Nat → Int32)) (MN_2 : (Nat → Nat → Int32)) (v3 : Int32) (v4 : Int32) (v5 : Int32) : Option ((Int32 × Int32 × Int32) ⊕ (Int32 × Int32)) :=
  if (MN_2 0 3) ≤ v5 then
    some (.inr (v3, v4))
  else
    (rdx (MA 2) 600 v5).bind fun x6 =>
    (f_M_isSmall x6).bind fun x7 =>
    if x7 = 0 then
      some (.inr (v3, v4))
    else
      if 6 ≤ v4 then
        some (.inl (0, (v4 + 1), (v5 + 1)))
      else
        (rdx (MA 2) 600 v5).bind fun x8 =>
        some (.inl (((a_shl v3 5) ||| (x8 - 96)), (v4 + 1), (v5 + 1)))
def f_M_word (MA : (Nat → Nat → Int32)) (MN : (Nat → Nat → Int32)) : Option (Int32 × (Nat → Nat → Int32)) :=
  (f_M_here MA MN).bind fun c1 =>
  (loopN (fun q => f_M_word_l14 MA c1.2 q.1 q.2.1 q.2.2) a_F (0, 0, (c1.2 0 4))).bind fun p4_ =>
  if p4_.2 ≤ 6 then
    some (p4_.1, c1.2)
  else
    some (0, c1.2)
def f_M_of_l4 (s0 : Nat) (v1 : Int32) (v2 : Int32) : Option ((Int32 × Int32) ⊕ (Int32)) :=
  if isS s0 then
  if (s_len s0) ≤ v2 then
    some (.inr v1)
  else
    if isS s0 then
    (s_at s0 v2).bind fun x3 =>
    some (.inl (((a_shl v1 5) ||| (x3 - 96)), (v2 + 1)))
    else none
  else none
def f_M_of (s0 : Nat) : Option (Int32) :=
  (loopN (fun q => f_M_of_l4 s0 q.1 q.2) a_F (0, 0)).bind fun v4 =>
  some v4
def f_M_pass_l0 (MA : (Nat → Nat → Int32)) (MN_1 : (Nat → Nat → Int32)) : Option (((Nat → Nat → Int32)) ⊕ ((Nat → Nat → Int32))) :=
  if (MN_1 0 3) ≤ (MN_1 0 4) then
    some (.inr MN_1)
  else
    (rdx (MA 2) 600 (MN_1 0 4)).bind fun x2 =>
    (f_M_isSmall x2).bind fun x3 =>
    if x3 = 0 then
      some (.inr MN_1)
    else
      some (.inl (u2 MN_1 0 4 ((MN_1 0 4) + 1)))
def f_M_pass (MA : (Nat → Nat → Int32)) (MN : (Nat → Nat → Int32)) : Option ((Nat → Nat → Int32)) :=
  (loopN (fun q => f_M_pass_l0 MA q) a_F MN).bind fun MN_4 =>
  some MN_4
def f_M_readNumber_l41 (MA : (Nat → Nat → Int32)) (v5 : Int32) (MN_6 : (Nat → Nat → Int32)) : Option ((Int32 × (Nat → Nat → Int32)) ⊕ (Int32 × (Nat → Nat → Int32))) :=
  if (MN_6 0 3) ≤ (MN_6 0 4) then
    some (.inr (v5, MN_6))
  else
    (rdx (MA 2) 600 (MN_6 0 4)).bind fun x7 =>
    (f_M_isDigit x7).bind fun x8 =>
    if x8 = 0 then
      some (.inr (v5, MN_6))
    else
      (((
        if v5 ≤ 9999 then
          (rdx (MA 2) 600 (MN_6 0 4)).bind fun x9 =>
          some (((10 * v5) + x9) - 48)
        else
          some 10000) : Option (Int32))).bind fun v10 =>
      some (.inl (v10, (u2 MN_6 0 4 ((MN_6 0 4) + 1))))
def f_M_readNumber (MA : (Nat → Nat → Int32)) (MN : (Nat → Nat → Int32)) (p1 : Int32) (p2 : Int32) : Option (Int32 × (Nat → Nat → Int32)) :=
  (f_M_fine MN).bind fun x1 =>
  if x1 ≠ 0 then
    (f_M_here MA MN).bind fun c2 =>
    (f_M_isDigit c2.1).bind fun x4 =>
    if x4 ≠ 0 then
      (loopN (fun q => f_M_readNumber_l41 MA q.1 q.2) a_F (0, c2.2)).bind fun p7_ =>
      (((
        if p7_.1 < p1 then
          some (.inl ())
        else
          if p7_.1 ≤ p2 then
            some (.inr (p7_.1, p7_.2))
          else
            some (.inl ())) : Option ((Unit) ⊕ (Int32 × (Nat → Nat → Int32))))).bind fun b10 => sumE b10 (fun _ =>
      (f_M_wrong p7_.2 2 (c2.2 0 4)).bind fun MN_13 =>
      some (0, MN_13)) (fun q => some q)
    else
      (f_M_wrong c2.2 1 (c2.2 0 4)).bind fun MN_14 =>
      some (0, MN_14)
  else
    some (0, MN)
def f_M_sign (MA : (Nat → Nat → Int32)) (MN : (Nat → Nat → Int32)) (p1 : Int32) : Option ((Nat → Nat → Int32)) :=
  (f_M_fine MN).bind fun x1 =>
  (((
    if x1 = 0 then
      some MN
    else
      (f_M_here MA MN).bind fun c3 =>
      if c3.1 = p1 then
        some c3.2
      else
        (f_M_wrong c3.2 1 (c3.2 0 4)).bind fun MN_4 =>
        some MN_4) : Option ((Nat → Nat → Int32)))).bind fun MN_5 =>
  (f_M_fine MN_5).bind fun x6 =>
  if x6 = 0 then
    some MN_5
  else
    some (u2 MN_5 0 4 ((MN_5 0 4) + 1))
def f_M_isMore (MA : (Nat → Nat → Int32)) (MN : (Nat → Nat → Int32)) : Option (Int32 × (Nat → Nat → Int32)) :=
  (f_M_here MA MN).bind fun c1 =>
  if (c1.2 0 3) ≤ (c1.2 0 4) then
    some ((zb 0), c1.2)
  else
    some ((zb 1), c1.2)
def f_M_begins (MA : (Nat → Nat → Int32)) (MN : (Nat → Nat → Int32)) (p1 : Int32) : Option ((Nat → Nat → Int32) × (Nat → Nat → Int32)) :=
  some ((u2 (u2 MA 0 2 0) 0 8 (-1)), (u2 (u2 (u2 (u2 MN 0 3 p1) 0 4 0) 0 5 (-1)) 0 7 0))
def f_M_result (MA : (Nat → Nat → Int32)) (MN : (Nat → Nat → Int32)) (p1 : Int32) : Option (Int32 × (Nat → Nat → Int32)) :=
  (f_M_fine MN).bind fun x1 =>
  if x1 = 0 then
    some (((MN 0 6) - 10), (u2 MA 0 8 (MN 0 5)))
  else
    some (p1, (u2 MA 0 8 (MN 0 5)))
def f_M_fault (MA : (Nat → Nat → Int32)) : Option (Int32 × (Nat → Nat → Int32)) :=
  some (((u2 MA 0 0 0) 0 8), (u2 MA 0 0 0))
def f_M_clears_l28 (v1 : Int32) (MN_2 : (Nat → Nat → Int32)) : Option ((Int32 × (Nat → Nat → Int32)) ⊕ ((Nat → Nat → Int32))) :=
  if 60 ≤ v1 then
    some (.inr MN_2)
  else
    (ixx 60 v1).bind fun j3 =>
    some (.inl ((v1 + 1), (u2 MN_2 3 j3 0)))
def f_M_clears (MN : (Nat → Nat → Int32)) : Option ((Nat → Nat → Int32)) :=
  (loopN (fun q => f_M_clears_l28 q.1 q.2) a_F (0, (u2 (u2 (u2 (u2 (u2 MN 0 18 8) 0 19 0) 0 20 0) 0 21 0) 0 22 0))).bind fun MN_5 =>
  some MN_5
def f_M_sets_l97 (v5 : Int32) (MA_6 : (Nat → Nat → Int32)) : Option ((Int32 × (Nat → Nat → Int32)) ⊕ ((Nat → Nat → Int32))) :=
  if 10 ≤ v5 then
    some (.inr MA_6)
  else
    (((
      if (MA_6 0 26) ≤ v5 then
        some (-1)
      else
        (rdx (MA_6 5) 60 (6 * v5)).bind fun x7 =>
        some x7) : Option (Int32))).bind fun v8 =>
    (ixx 10 v5).bind fun j9 =>
    (((
      if ((u2 MA_6 7 j9 v8) 0 26) ≤ v5 then
        some 0
      else
        (rdx ((u2 MA_6 7 j9 v8) 5) 60 ((6 * v5) + 5)).bind fun x10 =>
        some x10) : Option (Int32))).bind fun v11 =>
    (ixx 10 v5).bind fun j12 =>
    some (.inl ((v5 + 1), (u2 (u2 MA_6 7 j9 v8) 8 j12 v11)))
def f_M_sets (MA : (Nat → Nat → Int32)) (MN : (Nat → Nat → Int32)) : Option ((Nat → Nat → Int32)) :=
  (cpM (MN 1) 3 ((u2 (u2 (u2 (u2 (u2 MA 0 23 (MN 0 18)) 0 24 (MN 0 19)) 0 25 (MN 0 20)) 0 26 (MN 0 21)) 0 27 (MN 0 22)) 3) 3 3).bind fun x1 =>
  (cpM (MN 2) 24 ((u1 (u2 (u2 (u2 (u2 (u2 MA 0 23 (MN 0 18)) 0 24 (MN 0 19)) 0 25 (MN 0 20)) 0 26 (MN 0 21)) 0 27 (MN 0 22)) 3 x1) 4) 24 24).bind fun x2 =>
  (cpM (MN 3) 60 ((u1 (u1 (u2 (u2 (u2 (u2 (u2 MA 0 23 (MN 0 18)) 0 24 (MN 0 19)) 0 25 (MN 0 20)) 0 26 (MN 0 21)) 0 27 (MN 0 22)) 3 x1) 4 x2) 5) 60 60).bind fun x3 =>
  (cpM (MN 4) 16 ((u1 (u1 (u1 (u2 (u2 (u2 (u2 (u2 MA 0 23 (MN 0 18)) 0 24 (MN 0 19)) 0 25 (MN 0 20)) 0 26 (MN 0 21)) 0 27 (MN 0 22)) 3 x1) 4 x2) 5 x3) 6) 16 16).bind fun x4 =>
  (loopN (fun q => f_M_sets_l97 q.1 q.2) a_F (0, (u1 (u1 (u1 (u1 (u2 (u2 (u2 (u2 (u2 MA 0 23 (MN 0 18)) 0 24 (MN 0 19)) 0 25 (MN 0 20)) 0 26 (MN 0 21)) 0 27 (MN 0 22)) 3 x1) 4 x2) 5 x3) 6 x4))).bind fun MA_14 =>
  some (u2 (u2 (u2 (u2 MA_14 0 33 0) 0 40 0) 0 43 0) 0 65 0)
def f_M_readHour (MA : (Nat → Nat → Int32)) (MN : (Nat → Nat → Int32)) : Option (Int32 × (Nat → Nat → Int32)) :=
  (f_M_readNumber MA MN 0 ((MN 0 18) - 1)).bind fun c1 =>
  some (c1.1, c1.2)
def f_M_readMeeting (MA : (Nat → Nat → Int32)) (MN : (Nat → Nat → Int32)) : Option (Int32 × (Nat → Nat → Int32)) :=
  (f_M_readNumber MA MN 0 ((MN 0 21) - 1)).bind fun c1 =>
  some (c1.1, c1.2)
def f_M_range (p0 : Int32) (p1 : Int32) : Option (Int32) :=
  some ((a_shl 1 (p1 + 1)) - (a_shl 1 p0))
def f_M_readPlaces (MA : (Nat → Nat → Int32)) (MN : (Nat → Nat → Int32)) (p1 : Int32) : Option ((Nat → Nat → Int32)) :=
  (f_M_of 2647).bind fun x1 =>
  if p1 ≠ x1 then
    (f_M_of 2648).bind fun x2 =>
    if p1 ≠ x2 then
      (f_M_readHour MA MN).bind fun c3 =>
      (f_M_readNumber MA c3.2 0 ((c3.2 0 19) - 1)).bind fun c4 =>
      (f_M_of 2649).bind fun x7 =>
      if p1 ≠ x7 then
        (ixx 16 (4 * (c4.2 0 22))).bind fun j8 =>
        (f_M_readNumber MA (u2 c4.2 4 j8 ((3 * c3.1) + c4.1)) 0 16).bind fun c6 =>
        (ixx 16 ((4 * ((u2 c4.2 4 j8 ((3 * c3.1) + c4.1)) 0 22)) + 1)).bind fun j11 =>
        (f_M_readNumber MA (u2 c6.2 4 j11 c6.1) 0 99).bind fun c7 =>
        (ixx 16 ((4 * ((u2 c6.2 4 j11 c6.1) 0 22)) + 2)).bind fun j14 =>
        (ixx 16 ((4 * ((u2 c7.2 4 j14 c7.1) 0 22)) + 3)).bind fun j15 =>
        some (u2 (u2 (u2 c7.2 4 j14 c7.1) 4 j15 0) 0 22 (((u2 (u2 c7.2 4 j14 c7.1) 4 j15 0) 0 22) + 1))
      else
        (ixx 60 (6 * (c4.2 0 21))).bind fun j16 =>
        (f_M_readNumber MA (u2 c4.2 3 j16 ((3 * c3.1) + c4.1)) 0 99).bind fun c8 =>
        (ixx 60 ((6 * ((u2 c4.2 3 j16 ((3 * c3.1) + c4.1)) 0 21)) + 1)).bind fun j19 =>
        some (u2 (u2 c8.2 3 j19 c8.1) 0 21 (((u2 c8.2 3 j19 c8.1) 0 21) + 1))
    else
      (f_M_readMeeting MA MN).bind fun c9 =>
      (f_M_readHour MA c9.2).bind fun c10 =>
      (f_M_readNumber MA c10.2 c10.1 ((c10.2 0 18) - 1)).bind fun c11 =>
      (f_M_fine c11.2).bind fun x26 =>
      if x26 = 0 then
        some c11.2
      else
        (rdx (c11.2 3) 60 ((6 * c9.1) + 3)).bind fun x27 =>
        (f_M_range c10.1 c11.1).bind fun x28 =>
        (ixx 60 ((6 * c9.1) + 3)).bind fun j29 =>
        some (u2 c11.2 3 j29 (x27 ||| x28))
  else
    (f_M_readNumber MA MN 0 ((MN 0 20) - 1)).bind fun c14 =>
    (f_M_readHour MA c14.2).bind fun c15 =>
    (f_M_readNumber MA c15.2 c15.1 ((c15.2 0 18) - 1)).bind fun c16 =>
    (f_M_fine c16.2).bind fun x36 =>
    if x36 = 0 then
      some c16.2
    else
      (rdx (c16.2 2) 24 ((3 * c14.1) + 2)).bind fun x37 =>
      (f_M_range c15.1 c16.1).bind fun x38 =>
      (ixx 24 ((3 * c14.1) + 2)).bind fun j39 =>
      some (u2 c16.2 2 j39 (x37 ||| x38))
def f_M_readClause (MA : (Nat → Nat → Int32)) (MN : (Nat → Nat → Int32)) (p1 : Int32) : Option ((Nat → Nat → Int32)) :=
  (f_M_of 2650).bind fun x1 =>
  if p1 ≠ x1 then
    (f_M_of 2651).bind fun x2 =>
    if p1 ≠ x2 then
      (f_M_of 2652).bind fun x3 =>
      if p1 ≠ x3 then
        (f_M_of 2653).bind fun x4 =>
        if p1 ≠ x4 then
          (f_M_of 2654).bind fun x5 =>
          if p1 ≠ x5 then
            (f_M_of 2655).bind fun x6 =>
            if p1 ≠ x6 then
              (f_M_readPlaces MA MN p1).bind fun MN_7 =>
              some MN_7
            else
              (f_M_readMeeting MA MN).bind fun c8 =>
              (f_M_readNumber MA c8.2 0 99).bind fun c9 =>
              (f_M_fine c9.2).bind fun x12 =>
              if x12 = 0 then
                some c9.2
              else
                (ixx 60 ((6 * c8.1) + 5)).bind fun j13 =>
                some (u2 c9.2 3 j13 c9.1)
          else
            (f_M_readMeeting MA MN).bind fun c11 =>
            (f_M_fine c11.2).bind fun x16 =>
            if x16 = 0 then
              some c11.2
            else
              (ixx 60 ((6 * c11.1) + 4)).bind fun j17 =>
              some (u2 c11.2 3 j17 1)
        else
          (f_M_readMeeting MA MN).bind fun c13 =>
          (f_M_readNumber MA c13.2 0 ((c13.2 0 20) - 1)).bind fun c14 =>
          (f_M_fine c14.2).bind fun x22 =>
          if x22 = 0 then
            some c14.2
          else
            (rdx (c14.2 3) 60 ((6 * c13.1) + 2)).bind fun x23 =>
            (ixx 60 ((6 * c13.1) + 2)).bind fun j24 =>
            some (u2 c14.2 3 j24 (x23 ||| (a_shl 1 c14.1)))
      else
        (f_M_readNumber MA MN 0 9).bind fun c16 =>
        (ixx 24 (3 * (MN 0 20))).bind fun j27 =>
        (f_M_readNumber MA (u2 c16.2 2 j27 c16.1) 0 9).bind fun c17 =>
        (ixx 24 ((3 * ((u2 c16.2 2 j27 c16.1) 0 20)) + 1)).bind fun j30 =>
        (ixx 24 ((3 * ((u2 c17.2 2 j30 c17.1) 0 20)) + 2)).bind fun j31 =>
        some (u2 (u2 (u2 c17.2 2 j30 c17.1) 2 j31 0) 0 20 (((u2 (u2 c17.2 2 j30 c17.1) 2 j31 0) 0 20) + 1))
    else
      (f_M_readNumber MA MN 0 20).bind fun c18 =>
      (ixx 3 (MN 0 19)).bind fun j34 =>
      some (u2 (u2 c18.2 1 j34 c18.1) 0 19 (((u2 c18.2 1 j34 c18.1) 0 19) + 1))
  else
    (f_M_readNumber MA MN 1 10).bind fun c19 =>
    some (u2 c19.2 0 18 c19.1)
def f_M_isClause (p0 : Int32) : Option (Int32) :=
  (f_M_of 2650).bind fun x1 =>
  if p0 = x1 then
    some (zb 1)
  else
    (f_M_of 2651).bind fun x2 =>
    if p0 = x2 then
      some (zb 1)
    else
      (f_M_of 2652).bind fun x3 =>
      if p0 = x3 then
        some (zb 1)
      else
        (f_M_of 2647).bind fun x4 =>
        if p0 = x4 then
          some (zb 1)
        else
          (f_M_of 2649).bind fun x5 =>
          if p0 = x5 then
            some (zb 1)
          else
            (f_M_of 2653).bind fun x6 =>
            if p0 = x6 then
              some (zb 1)
            else
              (f_M_of 2648).bind fun x7 =>
              if p0 = x7 then
                some (zb 1)
              else
                (f_M_of 2654).bind fun x8 =>
                if p0 = x8 then
                  some (zb 1)
                else
                  (f_M_of 2655).bind fun x9 =>
                  if p0 = x9 then
                    some (zb 1)
                  else
                    (f_M_of 2656).bind fun x10 =>
                    if p0 ≠ x10 then
                      some (zb 0)
                    else
                      some (zb 1)
def f_M_house_l44 (MA_4 : (Nat → Nat → Int32)) (v7 : Int32) (MN_9 : (Nat → Nat → Int32)) : Option ((Int32 × (Nat → Nat → Int32)) ⊕ ((Nat → Nat → Int32))) :=
  (f_M_fine MN_9).bind fun x10 =>
  if x10 = 0 then
    some (.inr MN_9)
  else
    (f_M_isMore MA_4 MN_9).bind fun c9 =>
    if c9.1 = 0 then
      some (.inr c9.2)
    else
      (f_M_word MA_4 c9.2).bind fun c10 =>
      (f_M_isClause c10.1).bind fun x15 =>
      (((
        if x15 ≠ 0 then
          (((
            if v7 = 60 then
              some (.inl ())
            else
              (f_M_of 2651).bind fun x16 =>
              (((
                if c10.1 ≠ x16 then
                  some (.inl ())
                else
                  if (c10.2 0 19) = 3 then
                    some (.inr (.inl ()))
                  else
                    some (.inl ())) : Option ((Unit) ⊕ ((Unit) ⊕ ((Nat → Nat → Int32)))))).bind fun b27 => sumE b27 (fun _ =>
              (f_M_of 2652).bind fun x17 =>
              (((
                if c10.1 ≠ x17 then
                  some (.inl ())
                else
                  if (c10.2 0 20) = 8 then
                    some (.inr (.inl ()))
                  else
                    some (.inl ())) : Option ((Unit) ⊕ ((Unit) ⊕ ((Nat → Nat → Int32)))))).bind fun b26 => sumE b26 (fun _ =>
              (f_M_of 2649).bind fun x18 =>
              (((
                if c10.1 ≠ x18 then
                  some (.inl ())
                else
                  if (c10.2 0 21) = 10 then
                    some (.inr (.inl ()))
                  else
                    some (.inl ())) : Option ((Unit) ⊕ ((Unit) ⊕ ((Nat → Nat → Int32)))))).bind fun b25 => sumE b25 (fun _ =>
              (f_M_of 2656).bind fun x19 =>
              (((
                if c10.1 ≠ x19 then
                  some (.inl ())
                else
                  if (c10.2 0 22) ≠ 4 then
                    some (.inl ())
                  else
                    some (.inr (.inl ()))) : Option ((Unit) ⊕ ((Unit) ⊕ ((Nat → Nat → Int32)))))).bind fun b24 => sumE b24 (fun _ =>
              (f_M_of 2650).bind fun x20 =>
              if c10.1 ≠ x20 then
                some (.inr c10.2)
              else
                if v7 ≤ 0 then
                  some (.inr c10.2)
                else
                  (f_M_wrong c10.2 4 (c10.2 0 4)).bind fun MN_21 =>
                  some (.inr MN_21)) (fun q => some q)) (fun q => some q)) (fun q => some q)) (fun q => some q)) : Option ((Unit) ⊕ ((Nat → Nat → Int32))))).bind fun b29 => sumE b29 (fun _ =>
          (f_M_wrong c10.2 3 (c10.2 0 4)).bind fun MN_22 =>
          some MN_22) (fun q => some q)
        else
          (f_M_wrong c10.2 1 (c10.2 0 4)).bind fun MN_23 =>
          some MN_23) : Option ((Nat → Nat → Int32)))).bind fun MN_24 =>
      (f_M_fine MN_24).bind fun x25 =>
      if x25 ≠ 0 then
        (f_M_pass MA_4 MN_24).bind fun MN_26 =>
        (f_M_readClause MA_4 MN_26 c10.1).bind fun MN_27 =>
        (f_M_sign MA_4 MN_27 59).bind fun MN_28 =>
        some (.inl ((v7 + 1), MN_28))
      else
        some (.inr MN_24)
def f_M_house (MA : (Nat → Nat → Int32)) (MN : (Nat → Nat → Int32)) (p1 : Int32) : Option (Int32 × (Nat → Nat → Int32) × (Nat → Nat → Int32)) :=
  (((
    (((
      if p1 < 0 then
        some (.inl ())
      else
        if ((u2 MA 0 0 0) 0 2) < p1 then
          some (.inl ())
        else
          some (.inr 1)) : Option ((Unit) ⊕ (Int32)))).bind fun b3 => sumE b3 (fun _ =>
    some 0) (fun q => some q)) : Option (Int32))).bind fun v1 =>
  (f_M_may (u2 MA 0 0 0) v1 1 1).bind fun c4 =>
  if c4.1 ≠ 0 then
    (f_M_begins c4.2 MN p1).bind fun c5 =>
    (f_M_clears c5.2).bind fun MN_6 =>
    (loopN (fun q => f_M_house_l44 c5.1 q.1 q.2) a_F (0, MN_6)).bind fun MN_31 =>
    (f_M_result c5.1 MN_31 (MN_31 0 21)).bind fun c36 =>
    if (MN_31 0 5) ≠ (-1) then
      some (c36.1, c36.2, MN_31)
    else
      (f_M_sets c36.2 MN_31).bind fun MA_34 =>
      some (c36.1, MA_34, MN_31)
  else
    some (0, c4.2, MN)
def f_M_target_l48 (MA_4 : (Nat → Nat → Int32)) (v6 : Int32) (v7 : Int32) (MN_12 : (Nat → Nat → Int32)) : Option ((Int32 × Int32 × (Nat → Nat → Int32)) ⊕ (Int32 × (Nat → Nat → Int32))) :=
  (f_M_fine MN_12).bind fun x13 =>
  if x13 = 0 then
    some (.inr (v6, MN_12))
  else
    (f_M_isMore MA_4 MN_12).bind fun c8 =>
    if c8.1 = 0 then
      some (.inr (v6, c8.2))
    else
      (f_M_readNumber MA_4 c8.2 0 ((MA_4 0 26) - 1)).bind fun c9 =>
      (f_M_fine c9.2).bind fun x18 =>
      (((
        if x18 = 0 then
          some c9.2
        else
          if ((a_shr v7 c9.1) &&& 1) ≠ 1 then
            some c9.2
          else
            (f_M_wrong c9.2 2 (c8.2 0 4)).bind fun MN_19 =>
            some MN_19) : Option ((Nat → Nat → Int32)))).bind fun MN_20 =>
      (f_M_readNumber MA_4 MN_20 0 ((MA_4 0 23) - 1)).bind fun c13 =>
      (f_M_readNumber MA_4 c13.2 0 ((MA_4 0 24) - 1)).bind fun c14 =>
      (f_M_sign MA_4 c14.2 59).bind fun MN_25 =>
      (f_M_fine MN_25).bind fun x26 =>
      if x26 ≠ 0 then
        (ixx 20 (2 * v6)).bind fun j27 =>
        (ixx 20 ((2 * v6) + 1)).bind fun j28 =>
        some (.inl ((v6 + 1), (v7 ||| (a_shl 1 c9.1)), (u2 (u2 MN_25 5 j27 c9.1) 5 j28 ((3 * c13.1) + c14.1))))
      else
        some (.inr (v6, MN_25))
def f_M_target (MA : (Nat → Nat → Int32)) (MN : (Nat → Nat → Int32)) (p1 : Int32) : Option (Int32 × (Nat → Nat → Int32) × (Nat → Nat → Int32)) :=
  (((
    (((
      if p1 < 0 then
        some (.inl ())
      else
        if ((u2 MA 0 0 0) 0 2) < p1 then
          some (.inl ())
        else
          if 120 < p1 then
            some (.inl ())
          else
            some (.inr 1)) : Option ((Unit) ⊕ (Int32)))).bind fun b3 => sumE b3 (fun _ =>
    some 0) (fun q => some q)) : Option (Int32))).bind fun v1 =>
  (f_M_may (u2 MA 0 0 0) v1 1 1).bind fun c4 =>
  if c4.1 ≠ 0 then
    (f_M_begins c4.2 MN p1).bind fun c5 =>
    (loopN (fun q => f_M_target_l48 c5.1 q.1 q.2.1 q.2.2) a_F (0, 0, c5.2)).bind fun p17_ =>
    (f_M_result c5.1 p17_.2 p17_.1).bind fun c18 =>
    if (p17_.2 0 5) = (-1) then
      (cpM (p17_.2 5) 20 ((u2 c18.2 0 33 p17_.1) 9) 20 (2 * p17_.1)).bind fun x38 =>
      some (c18.1, (u1 (u2 c18.2 0 33 p17_.1) 9 x38), p17_.2)
    else
      some (c18.1, c18.2, p17_.2)
  else
    some (0, c4.2, MN)
def f_M_line (MA : (Nat → Nat → Int32)) (p1 : Int32) (p2 : Int32) : Option (Int32 × (Nat → Nat → Int32)) :=
  (f_M_within p2 0 2).bind fun x1 =>
  (f_M_may (u2 MA 0 0 0) x1 1 1).bind fun c2 =>
  if c2.1 ≠ 0 then
    (f_M_within p1 0 ((c2.2 0 33) - 1)).bind fun x4 =>
    if x4 ≠ 0 then
      if p2 ≠ 0 then
        if p2 ≠ 1 then
          (rdx (c2.2 9) 20 ((2 * p1) + 1)).bind fun x5 =>
          some ((a_rem x5 3), c2.2)
        else
          (rdx (c2.2 9) 20 ((2 * p1) + 1)).bind fun x6 =>
          some ((x6 / 3), c2.2)
      else
        (rdx (c2.2 9) 20 (2 * p1)).bind fun x7 =>
        some (x7, c2.2)
    else
      some ((-1), c2.2)
  else
    some (0, c2.2)
def f_M_findGoals_l16 (MA : (Nat → Nat → Int32)) (v2 : Int32) (MS_3 : (Nat → Nat → Int32)) : Option ((Int32 × (Nat → Nat → Int32)) ⊕ ((Nat → Nat → Int32))) :=
  if (MA 0 33) ≤ v2 then
    some (.inr MS_3)
  else
    (rdx (MA 9) 20 (2 * v2)).bind fun x4 =>
    (rdx (MA 9) 20 ((2 * v2) + 1)).bind fun x5 =>
    (ixx 10 x4).bind fun j6 =>
    some (.inl ((v2 + 1), (u2 MS_3 1 j6 x5)))
def f_M_findGoals (MA : (Nat → Nat → Int32)) (MS : (Nat → Nat → Int32)) : Option ((Nat → Nat → Int32)) :=
  (cpM (MA 7) 10 (MS 1) 10 10).bind fun x1 =>
  (loopN (fun q => f_M_findGoals_l16 MA q.1 q.2) a_F (0, (u1 MS 1 x1))).bind fun MS_8 =>
  some MS_8
def f_M_emit (MN : (Nat → Nat → Int32)) (p1 : Int32) (p2 : Int32) : Option ((Nat → Nat → Int32)) :=
  (f_M_fine MN).bind fun x1 =>
  if x1 ≠ 0 then
    (ixx 150 (MN 0 39)).bind fun j2 =>
    (ixx 150 ((u2 MN 6 j2 p1) 0 39)).bind fun j3 =>
    some (u2 (u2 (u2 MN 6 j2 p1) 7 j3 p2) 0 39 (((u2 (u2 MN 6 j2 p1) 7 j3 p2) 0 39) + 1))
  else
    some MN
def f_M_opensOne (MN : (Nat → Nat → Int32)) (p1 : Int32) : Option ((Nat → Nat → Int32)) :=
  (f_M_fine MN).bind fun x1 =>
  (((
    if x1 = 0 then
      some MN
    else
      if (MN 0 7) ≠ 6 then
        some MN
      else
        (f_M_wrong MN 3 (MN 0 4)).bind fun MN_2 =>
        some MN_2) : Option ((Nat → Nat → Int32)))).bind fun MN_3 =>
  (f_M_fine MN_3).bind fun x4 =>
  (((
    if x4 = 0 then
      some MN_3
    else
      some (u2 MN_3 0 4 ((MN_3 0 4) + p1))) : Option ((Nat → Nat → Int32)))).bind fun MN_5 =>
  some (u2 MN_5 0 7 ((MN_5 0 7) + 1))
def f_M_readAny_B_l4 (MA : (Nat → Nat → Int32)) (rc : (Nat → (Nat → Nat → Int32) → (Nat → Nat → Int32) → Option ((Nat → Nat → Int32)))) (MN_2 : (Nat → Nat → Int32)) : Option (((Nat → Nat → Int32)) ⊕ ((Nat → Nat → Int32))) :=
  (f_M_fine MN_2).bind fun x3 =>
  if x3 = 0 then
    some (.inr MN_2)
  else
    (f_M_word MA MN_2).bind fun c4 =>
    (f_M_of 2657).bind fun x6 =>
    if c4.1 ≠ x6 then
      some (.inr c4.2)
    else
      (f_M_pass MA c4.2).bind fun MN_7 =>
      (rc 1 MA MN_7).bind fun MN_8 =>
      (f_M_emit MN_8 10 0).bind fun MN_9 =>
      some (.inl MN_9)
def f_M_readAny_B (rc : (Nat → (Nat → Nat → Int32) → (Nat → Nat → Int32) → Option ((Nat → Nat → Int32)))) (MA : (Nat → Nat → Int32)) (MN : (Nat → Nat → Int32)) : Option ((Nat → Nat → Int32)) :=
  (rc 1 MA MN).bind fun MN_1 =>
  (loopN (fun q => f_M_readAny_B_l4 MA rc q) a_F MN_1).bind fun MN_10 =>
  some MN_10
def f_M_readAll_B_l4 (MA : (Nat → Nat → Int32)) (rc : (Nat → (Nat → Nat → Int32) → (Nat → Nat → Int32) → Option ((Nat → Nat → Int32)))) (MN_2 : (Nat → Nat → Int32)) : Option (((Nat → Nat → Int32)) ⊕ ((Nat → Nat → Int32))) :=
  (f_M_fine MN_2).bind fun x3 =>
  if x3 = 0 then
    some (.inr MN_2)
  else
    (f_M_word MA MN_2).bind fun c4 =>
    (f_M_of 2658).bind fun x6 =>
    if c4.1 ≠ x6 then
      some (.inr c4.2)
    else
      (f_M_pass MA c4.2).bind fun MN_7 =>
      (rc 2 MA MN_7).bind fun MN_8 =>
      (f_M_emit MN_8 9 0).bind fun MN_9 =>
      some (.inl MN_9)
def f_M_readAll_B (rc : (Nat → (Nat → Nat → Int32) → (Nat → Nat → Int32) → Option ((Nat → Nat → Int32)))) (MA : (Nat → Nat → Int32)) (MN : (Nat → Nat → Int32)) : Option ((Nat → Nat → Int32)) :=
  (rc 2 MA MN).bind fun MN_1 =>
  (loopN (fun q => f_M_readAll_B_l4 MA rc q) a_F MN_1).bind fun MN_10 =>
  some MN_10
def f_M_readOne_B (rc : (Nat → (Nat → Nat → Int32) → (Nat → Nat → Int32) → Option ((Nat → Nat → Int32)))) (MA : (Nat → Nat → Int32)) (MN : (Nat → Nat → Int32)) : Option ((Nat → Nat → Int32)) :=
  (f_M_fine MN).bind fun x1 =>
  if x1 ≠ 0 then
    (f_M_here MA MN).bind fun c2 =>
    if c2.1 ≠ 91 then
      (f_M_word MA c2.2).bind fun c3 =>
      (f_M_of 2659).bind fun x6 =>
      if c3.1 ≠ x6 then
        (rc 3 MA c3.2).bind fun MN_7 =>
        (f_M_here MA MN_7).bind fun c6 =>
        (((
          if c6.1 = 60 then
            some c6.2
          else
            if c6.1 = 62 then
              some c6.2
            else
              if c6.1 = 61 then
                some c6.2
              else
                (f_M_wrong c6.2 1 (c6.2 0 4)).bind fun MN_10 =>
                some MN_10) : Option ((Nat → Nat → Int32)))).bind fun MN_11 =>
        (f_M_fine MN_11).bind fun x12 =>
        if x12 ≠ 0 then
          (rc 3 MA (u2 MN_11 0 4 ((MN_11 0 4) + 1))).bind fun MN_13 =>
          (((
            if c6.1 ≠ 60 then
              if c6.1 ≠ 62 then
                some 7
              else
                some 6
            else
              some 5) : Option (Int32))).bind fun v14 =>
          (f_M_emit MN_13 v14 0).bind fun MN_15 =>
          some MN_15
        else
          some MN_11
      else
        (f_M_opensOne c3.2 3).bind fun MN_16 =>
        (rc 2 MA MN_16).bind fun MN_17 =>
        (f_M_emit (u2 MN_17 0 7 ((MN_17 0 7) - 1)) 8 0).bind fun MN_18 =>
        some MN_18
    else
      (f_M_opensOne c2.2 1).bind fun MN_19 =>
      (rc 0 MA MN_19).bind fun MN_20 =>
      (f_M_sign MA MN_20 93).bind fun MN_21 =>
      some (u2 MN_21 0 7 ((MN_21 0 7) - 1))
  else
    some MN
def f_M_readSum_B_l4 (MA : (Nat → Nat → Int32)) (rc : (Nat → (Nat → Nat → Int32) → (Nat → Nat → Int32) → Option ((Nat → Nat → Int32)))) (MN_3 : (Nat → Nat → Int32)) : Option (((Nat → Nat → Int32)) ⊕ ((Nat → Nat → Int32))) :=
  (f_M_fine MN_3).bind fun x4 =>
  if x4 = 0 then
    some (.inr MN_3)
  else
    (f_M_here MA MN_3).bind fun c4 =>
    (((
      if c4.1 = 43 then
        some (.inl c4.2)
      else
        (f_M_here MA c4.2).bind fun c6 =>
        if c6.1 ≠ 45 then
          some (.inr (.inr c6.2))
        else
          some (.inl c6.2)) : Option (((Nat → Nat → Int32)) ⊕ (((Nat → Nat → Int32)) ⊕ ((Nat → Nat → Int32)))))).bind fun b11 => sumE b11 (fun MN_9 =>
    (f_M_here MA MN_9).bind fun c7 =>
    (((
      if c7.1 ≠ 43 then
        some 3
      else
        some 2) : Option (Int32))).bind fun v12 =>
    (rc 4 MA (u2 c7.2 0 4 ((c7.2 0 4) + 1))).bind fun MN_13 =>
    (f_M_emit MN_13 v12 0).bind fun MN_14 =>
    some (.inl MN_14)) (fun q => some q)
def f_M_readSum_B (rc : (Nat → (Nat → Nat → Int32) → (Nat → Nat → Int32) → Option ((Nat → Nat → Int32)))) (MA : (Nat → Nat → Int32)) (MN : (Nat → Nat → Int32)) : Option ((Nat → Nat → Int32)) :=
  (rc 4 MA MN).bind fun MN_1 =>
  (loopN (fun q => f_M_readSum_B_l4 MA rc q) a_F MN_1).bind fun MN_16 =>
  some MN_16
def f_M_readProduct_B_l4 (MA : (Nat → Nat → Int32)) (rc : (Nat → (Nat → Nat → Int32) → (Nat → Nat → Int32) → Option ((Nat → Nat → Int32)))) (MN_2 : (Nat → Nat → Int32)) : Option (((Nat → Nat → Int32)) ⊕ ((Nat → Nat → Int32))) :=
  (f_M_fine MN_2).bind fun x3 =>
  if x3 = 0 then
    some (.inr MN_2)
  else
    (f_M_here MA MN_2).bind fun c4 =>
    if c4.1 ≠ 42 then
      some (.inr c4.2)
    else
      (rc 5 MA (u2 c4.2 0 4 ((c4.2 0 4) + 1))).bind fun MN_6 =>
      (f_M_emit MN_6 4 0).bind fun MN_7 =>
      some (.inl MN_7)
def f_M_readProduct_B (rc : (Nat → (Nat → Nat → Int32) → (Nat → Nat → Int32) → Option ((Nat → Nat → Int32)))) (MA : (Nat → Nat → Int32)) (MN : (Nat → Nat → Int32)) : Option ((Nat → Nat → Int32)) :=
  (rc 5 MA MN).bind fun MN_1 =>
  (loopN (fun q => f_M_readProduct_B_l4 MA rc q) a_F MN_1).bind fun MN_8 =>
  some MN_8
def f_M_stands_l12 (MA : (Nat → Nat → Int32)) (s1 : Nat) (MN_2 : (Nat → Nat → Int32)) (v3 : Int32) : Option ((Int32) ⊕ ((Unit) ⊕ (Int32 × (Nat → Nat → Int32)))) :=
  if isS s1 then
  if (s_len s1) ≤ v3 then
    some (.inr (.inl ()))
  else
    if (MN_2 0 3) ≤ ((MN_2 0 4) + v3) then
      some (.inr (.inr ((zb 0), MN_2)))
    else
      (rdx (MA 2) 600 ((MN_2 0 4) + v3)).bind fun x4 =>
      if isS s1 then
      (s_at s1 v3).bind fun x5 =>
      if x4 = x5 then
        some (.inl (v3 + 1))
      else
        some (.inr (.inr ((zb 0), MN_2)))
      else none
  else none
def f_M_stands (MA : (Nat → Nat → Int32)) (MN : (Nat → Nat → Int32)) (s1 : Nat) : Option (Int32 × (Nat → Nat → Int32)) :=
  (f_M_here MA MN).bind fun c1 =>
  (loopN (fun q => f_M_stands_l12 MA s1 c1.2 q) a_F 0).bind fun b5 => sumE b5 (fun _ =>
  if isS s1 then
  if (c1.2 0 3) ≤ ((c1.2 0 4) + (s_len s1)) then
    some ((zb 1), c1.2)
  else
    if isS s1 then
    (rdx (MA 2) 600 ((c1.2 0 4) + (s_len s1))).bind fun x7 =>
    (f_M_isSmall x7).bind fun x8 =>
    if x8 ≠ 0 then
      some ((zb 0), c1.2)
    else
      some ((zb 1), c1.2)
    else none
  else none) (fun q => some q)
def f_M_factHere (MA : (Nat → Nat → Int32)) (MN : (Nat → Nat → Int32)) : Option (Int32 × (Nat → Nat → Int32)) :=
  (f_M_word MA MN).bind fun c1 =>
  (f_M_stands MA c1.2 2660).bind fun c2 =>
  if c2.1 = 0 then
    (f_M_stands MA c2.2 2661).bind fun c3 =>
    if c3.1 = 0 then
      (f_M_of 2662).bind fun x7 =>
      if c1.1 ≠ x7 then
        (f_M_of 2663).bind fun x8 =>
        if c1.1 ≠ x8 then
          (f_M_of 2664).bind fun x9 =>
          if c1.1 ≠ x9 then
            (f_M_of 2665).bind fun x10 =>
            if c1.1 ≠ x10 then
              (f_M_of 2666).bind fun x11 =>
              if c1.1 ≠ x11 then
                (f_M_of 2667).bind fun x12 =>
                if c1.1 ≠ x12 then
                  (f_M_of 2668).bind fun x13 =>
                  if c1.1 ≠ x13 then
                    (f_M_of 2651).bind fun x14 =>
                    if c1.1 ≠ x14 then
                      (f_M_of 2669).bind fun x15 =>
                      if c1.1 ≠ x15 then
                        some ((-1), c3.2)
                      else
                        some (10, c3.2)
                    else
                      some (9, c3.2)
                  else
                    some (8, c3.2)
                else
                  some (6, c3.2)
              else
                some (4, c3.2)
            else
              some (3, c3.2)
          else
            some (2, c3.2)
        else
          some (1, c3.2)
      else
        some (0, c3.2)
    else
      some (5, c3.2)
  else
    some (7, c2.2)
def f_M_readUnit_B (rc : (Nat → (Nat → Nat → Int32) → (Nat → Nat → Int32) → Option ((Nat → Nat → Int32)))) (MA : (Nat → Nat → Int32)) (MN : (Nat → Nat → Int32)) : Option ((Nat → Nat → Int32)) :=
  (f_M_fine MN).bind fun x1 =>
  if x1 ≠ 0 then
    (f_M_here MA MN).bind fun c2 =>
    if c2.1 ≠ 40 then
      (f_M_here MA c2.2).bind fun c3 =>
      (f_M_isDigit c3.1).bind fun x6 =>
      if x6 = 0 then
        (f_M_factHere MA c3.2).bind fun c5 =>
        (((
          if c5.1 ≠ (-1) then
            some c5.2
          else
            (f_M_wrong c5.2 1 (c5.2 0 4)).bind fun MN_9 =>
            some MN_9) : Option ((Nat → Nat → Int32)))).bind fun MN_10 =>
        (f_M_fine MN_10).bind fun x11 =>
        if x11 ≠ 0 then
          (f_M_pass MA MN_10).bind fun MN_12 =>
          (f_M_emit MN_12 1 c5.1).bind fun MN_13 =>
          some MN_13
        else
          some MN_10
      else
        (f_M_readNumber MA c3.2 0 99).bind fun c11 =>
        (f_M_emit c11.2 0 c11.1).bind fun MN_16 =>
        some MN_16
    else
      (f_M_opensOne c2.2 1).bind fun MN_17 =>
      (rc 3 MA MN_17).bind fun MN_18 =>
      (f_M_sign MA MN_18 41).bind fun MN_19 =>
      some (u2 MN_19 0 7 ((MN_19 0 7) - 1))
  else
    some MN
def f_grp_mr : Nat → (Nat → (Nat → Nat → Int32) → (Nat → Nat → Int32) → Option ((Nat → Nat → Int32)))
  | 0, _ => fun _ _ => none
  | n + 1, k => if k = 0 then f_M_readAny_B (f_grp_mr n) else if k = 1 then f_M_readAll_B (f_grp_mr n) else if k = 2 then f_M_readOne_B (f_grp_mr n) else if k = 3 then f_M_readSum_B (f_grp_mr n) else if k = 4 then f_M_readProduct_B (f_grp_mr n) else f_M_readUnit_B (f_grp_mr n)
def f_M_rule (MA : (Nat → Nat → Int32)) (MN : (Nat → Nat → Int32)) (p1 : Int32) : Option (Int32 × (Nat → Nat → Int32) × (Nat → Nat → Int32)) :=
  (((
    (((
      if p1 < 0 then
        some (.inl ())
      else
        if ((u2 MA 0 0 0) 0 2) < p1 then
          some (.inl ())
        else
          if 150 < p1 then
            some (.inl ())
          else
            some (.inr 1)) : Option ((Unit) ⊕ (Int32)))).bind fun b3 => sumE b3 (fun _ =>
    some 0) (fun q => some q)) : Option (Int32))).bind fun v1 =>
  (f_M_may (u2 MA 0 0 0) v1 1 1).bind fun c4 =>
  if c4.1 ≠ 0 then
    (f_M_begins c4.2 MN p1).bind fun c5 =>
    (f_grp_mr 40 0 c5.1 (u2 c5.2 0 39 0)).bind fun MN_6 =>
    (f_M_fine MN_6).bind fun x7 =>
    (((
      if x7 = 0 then
        some MN_6
      else
        (f_M_isMore c5.1 MN_6).bind fun c9 =>
        if c9.1 = 0 then
          some c9.2
        else
          (f_M_wrong c9.2 1 (c9.2 0 4)).bind fun MN_10 =>
          some MN_10) : Option ((Nat → Nat → Int32)))).bind fun MN_11 =>
    (f_M_result c5.1 MN_11 1).bind fun c11 =>
    if (MN_11 0 5) = (-1) then
      (cpM (MN_11 6) 150 ((u2 c11.2 0 40 (MN_11 0 39)) 10) 150 ((u2 c11.2 0 40 (MN_11 0 39)) 0 40)).bind fun x14 =>
      (cpM (MN_11 7) 150 ((u1 (u2 c11.2 0 40 (MN_11 0 39)) 10 x14) 11) 150 ((u1 (u2 c11.2 0 40 (MN_11 0 39)) 10 x14) 0 40)).bind fun x15 =>
      some (c11.1, (u1 (u1 (u2 c11.2 0 40 (MN_11 0 39)) 10 x14) 11 x15), MN_11)
    else
      some (c11.1, c11.2, MN_11)
  else
    some (0, c4.2, MN)
def f_M_ones_l4 (v1 : Int32) (v2 : Int32) : Option ((Int32 × Int32) ⊕ (Int32)) :=
  if v2 = 0 then
    some (.inr v1)
  else
    some (.inl ((v1 + 1), (v2 &&& (v2 - 1))))
def f_M_ones (p0 : Int32) : Option (Int32) :=
  (loopN (fun q => f_M_ones_l4 q.1 q.2) a_F (0, p0)).bind fun v3 =>
  some v3
def f_M_both (p0 : Int32) (p1 : Int32) (p2 : Int32) : Option (Int32) :=
  if 4 < p0 then
    (((
      if p0 ≠ 5 then
        if p0 ≠ 6 then
          if p0 ≠ 7 then
            if p0 ≠ 9 then
              if (p1 + p2) ≤ 0 then
                some 0
              else
                some 1
            else
              if (p1 + p2) ≠ 2 then
                some 0
              else
                some 1
          else
            if p1 ≠ p2 then
              some 0
            else
              some 1
        else
          if p1 ≤ p2 then
            some 0
          else
            some 1
      else
        if p2 ≤ p1 then
          some 0
        else
          some 1) : Option (Int32))).bind fun v1 =>
    if v1 = 0 then
      some 0
    else
      some 1
  else
    if p0 ≠ 2 then
      if p0 ≠ 3 then
        some (p1 * p2)
      else
        some (p1 - p2)
    else
      some (p1 + p2)
def f_M_yieldsTo_l12 (MA : (Nat → Nat → Int32)) (p2 : Int32) (p1 : Int32) (v1 : Int32) (MS_3 : (Nat → Nat → Int32)) : Option ((Int32 × (Nat → Nat → Int32)) ⊕ ((Nat → Nat → Int32))) :=
  if 2 ≤ v1 then
    some (.inr MS_3)
  else
    (((
      if v1 ≠ 0 then
        some p2
      else
        some p1) : Option (Int32))).bind fun v4 =>
    (rdx (MA 5) 60 ((6 * v4) + 1)).bind fun x5 =>
    (ixx 11 (4 * v1)).bind fun j6 =>
    (rdx (MA 8) 10 v4).bind fun x7 =>
    (ixx 11 ((4 * v1) + 1)).bind fun j8 =>
    (rdx (MA 5) 60 ((6 * v4) + 2)).bind fun x9 =>
    (f_M_ones x9).bind fun x10 =>
    (ixx 11 ((4 * v1) + 2)).bind fun j11 =>
    (ixx 11 ((4 * v1) + 3)).bind fun j12 =>
    some (.inl ((v1 + 1), (u2 (u2 (u2 (u2 MS_3 3 j6 x5) 3 j8 x7) 3 j11 x10) 3 j12 v4)))
def f_M_yieldsTo_l149 (MA : (Nat → Nat → Int32)) (v19 : Int32) (v20 : Int32) (MS_22 : (Nat → Nat → Int32)) : Option ((Int32 × Int32 × (Nat → Nat → Int32)) ⊕ ((Nat → Nat → Int32))) :=
  if (MA 0 40) ≤ v20 then
    some (.inr MS_22)
  else
    (rdx (MA 10) 150 v20).bind fun x23 =>
    if 1 < x23 then
      if x23 ≠ 8 then
        (rdx (MS_22 2) 150 ((v19 + (-1)) - 1)).bind fun x24 =>
        (rdx (MS_22 2) 150 (v19 + (-1))).bind fun x25 =>
        (f_M_both x23 x24 x25).bind fun x26 =>
        (ixx 150 ((v19 + (-1)) - 1)).bind fun j27 =>
        some (.inl ((v19 + (-1)), (v20 + 1), (u2 MS_22 2 j27 x26)))
      else
        (rdx (MS_22 2) 150 (v19 - 1)).bind fun x28 =>
        (ixx 150 (v19 - 1)).bind fun j29 =>
        some (.inl (v19, (v20 + 1), (u2 MS_22 2 j29 (1 - x28))))
    else
      (((
        if x23 ≠ 0 then
          (rdx (MA 11) 150 v20).bind fun x30 =>
          (rdx (MS_22 3) 11 x30).bind fun x31 =>
          some x31
        else
          (rdx (MA 11) 150 v20).bind fun x32 =>
          some x32) : Option (Int32))).bind fun v33 =>
      (ixx 150 v19).bind fun j34 =>
      some (.inl ((v19 + 1), (v20 + 1), (u2 MS_22 2 j34 v33)))
def f_M_yieldsTo (MA : (Nat → Nat → Int32)) (MS : (Nat → Nat → Int32)) (p1 : Int32) (p2 : Int32) (p3 : Int32) (p4 : Int32) : Option (Int32 × (Nat → Nat → Int32)) :=
  if (MA 0 40) ≠ 0 then
    (loopN (fun q => f_M_yieldsTo_l12 MA p2 p1 q.1 q.2) a_F (0, MS)).bind fun MS_15 =>
    (ixx 11 8).bind fun j16 =>
    (ixx 11 9).bind fun j17 =>
    (ixx 11 10).bind fun j18 =>
    (loopN (fun q => f_M_yieldsTo_l149 MA q.1 q.2.1 q.2.2) a_F (0, 0, (u2 (u2 (u2 MS_15 3 j16 (p3 / 3)) 3 j17 (a_rem p3 3)) 3 j18 p4))).bind fun MS_38 =>
    (rdx (MS_38 2) 150 0).bind fun x39 =>
    if x39 ≠ 1 then
      some ((zb 0), MS_38)
    else
      some ((zb 1), MS_38)
  else
    some ((zb 0), MS)
def f_M_isMeeting (MA : (Nat → Nat → Int32)) (p1 : Int32) (p2 : Int32) : Option (Int32 × (Nat → Nat → Int32)) :=
  (f_M_within p1 0 ((MA 0 26) - 1)).bind fun x1 =>
  (f_M_may MA x1 p2 0).bind fun c2 =>
  some ((zb c2.1), c2.2)
def f_M_isRoom (MA : (Nat → Nat → Int32)) (p1 : Int32) (p2 : Int32) : Option (Int32 × (Nat → Nat → Int32)) :=
  (f_M_within p1 0 ((MA 0 24) - 1)).bind fun x1 =>
  (f_M_may MA x1 p2 0).bind fun c2 =>
  some ((zb c2.1), c2.2)
def f_M_isPerson (MA : (Nat → Nat → Int32)) (p1 : Int32) (p2 : Int32) : Option (Int32 × (Nat → Nat → Int32)) :=
  (f_M_within p1 0 ((MA 0 25) - 1)).bind fun x1 =>
  (f_M_may MA x1 p2 0).bind fun c2 =>
  some ((zb c2.1), c2.2)
def f_M_isHold (MA : (Nat → Nat → Int32)) (p1 : Int32) (p2 : Int32) : Option (Int32 × (Nat → Nat → Int32)) :=
  (f_M_within p1 0 ((MA 0 27) - 1)).bind fun x1 =>
  (f_M_may MA x1 p2 0).bind fun c2 =>
  some ((zb c2.1), c2.2)
def f_M_isFixed (MA : (Nat → Nat → Int32)) (p1 : Int32) : Option (Int32) :=
  (rdx (MA 5) 60 ((6 * p1) + 4)).bind fun x1 =>
  if x1 ≠ 1 then
    some (zb 0)
  else
    some (zb 1)
def f_M_isHeld_l2 (MA : (Nat → Nat → Int32)) (p1 : Int32) (v1 : Int32) : Option ((Int32) ⊕ ((Unit) ⊕ (Int32))) :=
  if (MA 0 27) ≤ v1 then
    some (.inr (.inl ()))
  else
    (rdx (MA 6) 16 (4 * v1)).bind fun x2 =>
    if x2 ≠ p1 then
      some (.inl (v1 + 1))
    else
      (rdx (MA 6) 16 ((4 * v1) + 3)).bind fun x3 =>
      if x3 ≠ 0 then
        some (.inl (v1 + 1))
      else
        some (.inr (.inr (zb 1)))
def f_M_isHeld (MA : (Nat → Nat → Int32)) (p1 : Int32) : Option (Int32) :=
  (loopN (fun q => f_M_isHeld_l2 MA p1 q) a_F 0).bind fun b3 => sumE b3 (fun _ =>
  some (zb 0)) (fun q => some q)
def f_M_mayIn (MA : (Nat → Nat → Int32)) (p1 : Int32) : Option (Int32) :=
  (rdx (MA 5) 60 ((6 * p1) + 3)).bind fun x1 =>
  if x1 ≠ 0 then
    (rdx (MA 5) 60 ((6 * p1) + 3)).bind fun x2 =>
    some x2
  else
    some ((a_shl 1 (MA 0 23)) - 1)
def f_M_busyIn_l4 (MA : (Nat → Nat → Int32)) (p1 : Int32) (v1 : Int32) (v2 : Int32) : Option ((Int32 × Int32) ⊕ (Int32)) :=
  if (MA 0 25) ≤ v2 then
    some (.inr v1)
  else
    (rdx (MA 5) 60 ((6 * p1) + 2)).bind fun x3 =>
    (((
      if ((a_shr x3 v2) &&& 1) ≠ 1 then
        some 0
      else
        (rdx (MA 4) 24 ((3 * v2) + 2)).bind fun x4 =>
        some x4) : Option (Int32))).bind fun v5 =>
    some (.inl ((v1 ||| v5), (v2 + 1)))
def f_M_busyIn (MA : (Nat → Nat → Int32)) (p1 : Int32) : Option (Int32) :=
  (loopN (fun q => f_M_busyIn_l4 MA p1 q.1 q.2) a_F (0, 0)).bind fun v6 =>
  some v6
def f_M_ownClash (MA : (Nat → Nat → Int32)) (p1 : Int32) (p2 : Int32) : Option (Int32) :=
  (f_M_mayIn MA p1).bind fun x1 =>
  (((
    if ((a_shr x1 (p2 / 3)) &&& 1) ≠ 1 then
      some 1
    else
      some 0) : Option (Int32))).bind fun v2 =>
  (f_M_busyIn MA p1).bind fun x3 =>
  (((
    if ((a_shr x3 (p2 / 3)) &&& 1) ≠ 1 then
      some 0
    else
      some 2) : Option (Int32))).bind fun v4 =>
  (f_M_isHeld MA p2).bind fun x5 =>
  (((
    if x5 = 0 then
      some 0
    else
      some 8) : Option (Int32))).bind fun v6 =>
  (rdx (MA 3) 3 (a_rem p2 3)).bind fun x7 =>
  (rdx (MA 5) 60 ((6 * p1) + 2)).bind fun x8 =>
  (f_M_ones x8).bind fun x9 =>
  (((
    if x9 ≤ x7 then
      some 0
    else
      some 16) : Option (Int32))).bind fun v10 =>
  some (((v2 ||| v4) ||| v6) ||| v10)
def f_M_clashWith (MA : (Nat → Nat → Int32)) (p1 : Int32) (p2 : Int32) (p3 : Int32) (p4 : Int32) : Option (Int32) :=
  if p4 = (-1) then
    some 0
  else
    if p3 = p1 then
      some 0
    else
      if (p4 / 3) = (p2 / 3) then
        (rdx (MA 5) 60 ((6 * p1) + 2)).bind fun x1 =>
        (rdx (MA 5) 60 ((6 * p3) + 2)).bind fun x2 =>
        (((
          if (x1 &&& x2) = 0 then
            some 0
          else
            some 4) : Option (Int32))).bind fun v3 =>
        (((
          if p4 ≠ p2 then
            some 0
          else
            some 8) : Option (Int32))).bind fun v4 =>
        some (v3 ||| v4)
      else
        some 0
def f_M_told_l95 (MA_3 : (Nat → Nat → Int32)) (v4 : Int32) (v5 : Int32) : Option ((Int32 × Int32) ⊕ (Int32)) :=
  if (MA_3 0 26) ≤ v5 then
    some (.inr v4)
  else
    (rdx (MA_3 7) 10 v5).bind fun x6 =>
    if x6 ≠ (-1) then
      some (.inl ((v4 + 0), (v5 + 1)))
    else
      some (.inl ((v4 + 1), (v5 + 1)))
def f_M_told (MA : (Nat → Nat → Int32)) (p1 : Int32) : Option (Int32 × (Nat → Nat → Int32)) :=
  (f_M_within p1 0 6).bind fun x1 =>
  (f_M_may (u2 MA 0 0 0) x1 1 1).bind fun c2 =>
  if c2.1 ≠ 0 then
    if 3 ≤ p1 then
      if 6 ≤ p1 then
        (loopN (fun q => f_M_told_l95 c2.2 q.1 q.2) a_F (0, 0)).bind fun v7 =>
        some (v7, c2.2)
      else
        if p1 ≠ 3 then
          if p1 ≠ 4 then
            some ((c2.2 0 33), c2.2)
          else
            some ((c2.2 0 27), c2.2)
        else
          some ((c2.2 0 26), c2.2)
    else
      if p1 ≠ 0 then
        if p1 ≠ 1 then
          some ((c2.2 0 25), c2.2)
        else
          some ((c2.2 0 24), c2.2)
      else
        some ((c2.2 0 23), c2.2)
  else
    some (0, c2.2)
def f_M_meeting (MA : (Nat → Nat → Int32)) (p1 : Int32) (p2 : Int32) : Option (Int32 × (Nat → Nat → Int32)) :=
  (f_M_isMeeting (u2 MA 0 0 0) p1 1).bind fun c1 =>
  if c1.1 = 0 then
    some (0, c1.2)
  else
    (f_M_within p2 0 6).bind fun x3 =>
    (f_M_may c1.2 x3 2 1).bind fun c3 =>
    if c3.1 ≠ 0 then
      if 2 ≤ p2 then
        if 4 ≤ p2 then
          if p2 ≠ 4 then
            if p2 ≠ 5 then
              (f_M_mayIn c3.2 p1).bind fun x6 =>
              some (x6, c3.2)
            else
              (rdx (c3.2 5) 60 ((6 * p1) + 2)).bind fun x7 =>
              some (x7, c3.2)
          else
            (rdx (c3.2 8) 10 p1).bind fun x8 =>
            some (x8, c3.2)
        else
          if p2 ≠ 2 then
            (rdx (c3.2 5) 60 ((6 * p1) + 4)).bind fun x9 =>
            some (x9, c3.2)
          else
            (rdx (c3.2 5) 60 ((6 * p1) + 1)).bind fun x10 =>
            some (x10, c3.2)
      else
        (rdx (c3.2 7) 10 p1).bind fun x11 =>
        if x11 ≠ (-1) then
          if p2 ≠ 0 then
            (rdx (c3.2 7) 10 p1).bind fun x12 =>
            some ((a_rem x12 3), c3.2)
          else
            (rdx (c3.2 7) 10 p1).bind fun x13 =>
            some ((x13 / 3), c3.2)
        else
          some ((-1), c3.2)
    else
      some (0, c3.2)
def f_M_bornBy_l4 (MA : (Nat → Nat → Int32)) (p1 : Int32) (v1 : Int32) (v2 : Int32) : Option ((Int32 × Int32) ⊕ (Int32)) :=
  if (MA 0 26) ≤ v2 then
    some (.inr v1)
  else
    (rdx (MA 5) 60 ((6 * v2) + 2)).bind fun x3 =>
    if ((a_shr x3 p1) &&& 1) ≠ 1 then
      some (.inl ((v1 + 0), (v2 + 1)))
    else
      (rdx (MA 8) 10 v2).bind fun x4 =>
      some (.inl ((v1 + x4), (v2 + 1)))
def f_M_bornBy (MA : (Nat → Nat → Int32)) (p1 : Int32) : Option (Int32) :=
  (loopN (fun q => f_M_bornBy_l4 MA p1 q.1 q.2) a_F (0, 0)).bind fun v5 =>
  some v5
def f_M_person_l63 (MA_5 : (Nat → Nat → Int32)) (p1 : Int32) (v6 : Int32) (v7 : Int32) : Option ((Int32 × Int32) ⊕ (Int32)) :=
  if (MA_5 0 26) ≤ v7 then
    some (.inr v6)
  else
    (rdx (MA_5 7) 10 v7).bind fun x8 =>
    (((
      if x8 = (-1) then
        some (.inl ())
      else
        (rdx (MA_5 5) 60 ((6 * v7) + 2)).bind fun x9 =>
        if ((a_shr x9 p1) &&& 1) ≠ 1 then
          some (.inl ())
        else
          some (.inr (.inl ((v6 + 1), (v7 + 1))))) : Option ((Unit) ⊕ ((Int32 × Int32) ⊕ (Int32))))).bind fun b6 => sumE b6 (fun _ =>
    some (.inl ((v6 + 0), (v7 + 1)))) (fun q => some q)
def f_M_person (MA : (Nat → Nat → Int32)) (p1 : Int32) (p2 : Int32) : Option (Int32 × (Nat → Nat → Int32)) :=
  (f_M_isPerson (u2 MA 0 0 0) p1 1).bind fun c1 =>
  if c1.1 = 0 then
    some (0, c1.2)
  else
    (f_M_within p2 0 4).bind fun x3 =>
    (f_M_may c1.2 x3 2 1).bind fun c3 =>
    if c3.1 ≠ 0 then
      if 3 ≤ p2 then
        if p2 ≠ 4 then
          (loopN (fun q => f_M_person_l63 c3.2 p1 q.1 q.2) a_F (0, 0)).bind fun v10 =>
          some (v10, c3.2)
        else
          (f_M_bornBy c3.2 p1).bind fun x12 =>
          some (x12, c3.2)
      else
        (rdx (c3.2 4) 24 ((3 * p1) + p2)).bind fun x13 =>
        some (x13, c3.2)
    else
      some (0, c3.2)
def f_M_at_l38 (MA_5 : (Nat → Nat → Int32)) (p1 : Int32) (p2 : Int32) (v6 : Int32) : Option ((Int32) ⊕ ((Unit) ⊕ (Int32 × (Nat → Nat → Int32)))) :=
  if (MA_5 0 26) ≤ v6 then
    some (.inr (.inl ()))
  else
    (rdx (MA_5 7) 10 v6).bind fun x7 =>
    if x7 ≠ ((3 * p1) + p2) then
      some (.inl (v6 + 1))
    else
      some (.inr (.inr (v6, MA_5)))
def f_M_at (MA : (Nat → Nat → Int32)) (p1 : Int32) (p2 : Int32) : Option (Int32 × (Nat → Nat → Int32)) :=
  (f_M_isRoom (u2 MA 0 0 0) p2 1).bind fun c1 =>
  if c1.1 = 0 then
    some (0, c1.2)
  else
    (f_M_within p1 0 ((c1.2 0 23) - 1)).bind fun x3 =>
    (f_M_may c1.2 x3 2 1).bind fun c3 =>
    if c3.1 ≠ 0 then
      (loopN (fun q => f_M_at_l38 c3.2 p1 p2 q) a_F 0).bind fun b6 => sumE b6 (fun _ =>
      some ((-1), c3.2)) (fun q => some q)
    else
      some (0, c3.2)
def f_M_where_l38 (MA_5 : (Nat → Nat → Int32)) (p2 : Int32) (p1 : Int32) (v6 : Int32) : Option ((Int32) ⊕ ((Unit) ⊕ (Int32 × (Nat → Nat → Int32)))) :=
  if (MA_5 0 26) ≤ v6 then
    some (.inr (.inl ()))
  else
    (rdx (MA_5 7) 10 v6).bind fun x7 =>
    if x7 = (-1) then
      some (.inl (v6 + 1))
    else
      (rdx (MA_5 7) 10 v6).bind fun x8 =>
      if (x8 / 3) ≠ p2 then
        some (.inl (v6 + 1))
      else
        (rdx (MA_5 5) 60 ((6 * v6) + 2)).bind fun x9 =>
        if ((a_shr x9 p1) &&& 1) ≠ 1 then
          some (.inl (v6 + 1))
        else
          some (.inr (.inr (v6, MA_5)))
def f_M_where (MA : (Nat → Nat → Int32)) (p1 : Int32) (p2 : Int32) : Option (Int32 × (Nat → Nat → Int32)) :=
  (f_M_isPerson (u2 MA 0 0 0) p1 1).bind fun c1 =>
  if c1.1 = 0 then
    some (0, c1.2)
  else
    (f_M_within p2 0 ((c1.2 0 23) - 1)).bind fun x3 =>
    (f_M_may c1.2 x3 2 1).bind fun c3 =>
    if c3.1 ≠ 0 then
      (loopN (fun q => f_M_where_l38 c3.2 p2 p1 q) a_F 0).bind fun b6 => sumE b6 (fun _ =>
      some ((-1), c3.2)) (fun q => some q)
    else
      some (0, c3.2)
def f_M_isPlace (MA : (Nat → Nat → Int32)) (p1 : Int32) (p2 : Int32) (p3 : Int32) : Option (Int32 × (Nat → Nat → Int32)) :=
  (f_M_isMeeting MA p1 1).bind fun c1 =>
  if c1.1 = 0 then
    some ((zb 0), c1.2)
  else
    (f_M_isRoom c1.2 p3 1).bind fun c2 =>
    if c2.1 = 0 then
      some ((zb 0), c2.2)
    else
      (f_M_within p2 0 ((c2.2 0 23) - 1)).bind fun x5 =>
      (f_M_may c2.2 x5 2 1).bind fun c4 =>
      if c4.1 = 0 then
        some ((zb 0), c4.2)
      else
        some ((zb 1), c4.2)
def f_M_clashOf_l11 (MA : (Nat → Nat → Int32)) (w3 : (Nat → Int32)) (p1 : Int32) (p2 : Int32) (v2 : Int32) (v3 : Int32) : Option ((Int32 × Int32) ⊕ (Int32)) :=
  if (MA 0 26) ≤ v3 then
    some (.inr v2)
  else
    (rdx w3 10 v3).bind fun x4 =>
    (f_M_clashWith MA p1 p2 v3 x4).bind fun x5 =>
    some (.inl ((v2 ||| x5), (v3 + 1)))
def f_M_clashOf (MA : (Nat → Nat → Int32)) (p1 : Int32) (p2 : Int32) (w3 : (Nat → Int32)) : Option (Int32) :=
  (f_M_ownClash MA p1 p2).bind fun x1 =>
  (loopN (fun q => f_M_clashOf_l11 MA w3 p1 p2 q.1 q.2) a_F (x1, 0)).bind fun v6 =>
  some v6
def f_M_clash (MA : (Nat → Nat → Int32)) (p1 : Int32) (p2 : Int32) (p3 : Int32) : Option (Int32 × (Nat → Nat → Int32)) :=
  (f_M_isPlace (u2 MA 0 0 0) p1 p2 p3).bind fun c1 =>
  if c1.1 ≠ 0 then
    (f_M_clashOf c1.2 p1 ((3 * p2) + p3) (c1.2 7)).bind fun x3 =>
    some (x3, c1.2)
  else
    some (0, c1.2)
def f_M_clashing_l9 (MA : (Nat → Nat → Int32)) (v1 : Int32) (v2 : Int32) : Option ((Int32 × Int32) ⊕ (Int32)) :=
  if ((u2 MA 0 0 0) 0 26) ≤ v2 then
    some (.inr v1)
  else
    (rdx ((u2 MA 0 0 0) 7) 10 v2).bind fun x3 =>
    (((
      (((
        if x3 = (-1) then
          some (.inl ())
        else
          (rdx ((u2 MA 0 0 0) 7) 10 v2).bind fun x4 =>
          (f_M_clashOf (u2 MA 0 0 0) v2 x4 ((u2 MA 0 0 0) 7)).bind fun x5 =>
          if x5 = 0 then
            some (.inl ())
          else
            some (.inr (a_shl 1 v2))) : Option ((Unit) ⊕ (Int32)))).bind fun b5 => sumE b5 (fun _ =>
      some 0) (fun q => some q)) : Option (Int32))).bind fun v6 =>
    some (.inl ((v1 ||| v6), (v2 + 1)))
def f_M_clashing (MA : (Nat → Nat → Int32)) : Option (Int32 × (Nat → Nat → Int32)) :=
  (loopN (fun q => f_M_clashing_l9 MA q.1 q.2) a_F (0, 0)).bind fun v7 =>
  some (v7, (u2 MA 0 0 0))
def f_M_isThere (MA : (Nat → Nat → Int32)) (p1 : Int32) : Option (Int32) :=
  if (MA 0 24) ≤ (a_rem p1 3) then
    some (zb 0)
  else
    if (MA 0 23) ≤ (p1 / 3) then
      some (zb 0)
    else
      some (zb 1)
def f_M_free_l20 (MA_2 : (Nat → Nat → Int32)) (p1 : Int32) (v3 : Int32) (v4 : Int32) : Option ((Int32 × Int32) ⊕ (Int32)) :=
  if 30 ≤ v4 then
    some (.inr v3)
  else
    (f_M_isThere MA_2 v4).bind fun x5 =>
    (((
      if x5 = 0 then
        some (.inl ())
      else
        (f_M_clashOf MA_2 p1 v4 (MA_2 7)).bind fun x6 =>
        if x6 ≠ 0 then
          some (.inl ())
        else
          some (.inr (.inl ((v3 + 1), (v4 + 1))))) : Option ((Unit) ⊕ ((Int32 × Int32) ⊕ (Int32))))).bind fun b6 => sumE b6 (fun _ =>
    some (.inl ((v3 + 0), (v4 + 1)))) (fun q => some q)
def f_M_free (MA : (Nat → Nat → Int32)) (p1 : Int32) : Option (Int32 × (Nat → Nat → Int32)) :=
  (f_M_isMeeting (u2 MA 0 0 0) p1 1).bind fun c1 =>
  if c1.1 ≠ 0 then
    (loopN (fun q => f_M_free_l20 c1.2 p1 q.1 q.2) a_F (0, 0)).bind fun v7 =>
    some (v7, c1.2)
  else
    some (0, c1.2)
def f_M_keepsAct_l2 (v1 : Int32) (MA_2 : (Nat → Nat → Int32)) : Option ((Int32 × (Nat → Nat → Int32)) ⊕ ((Nat → Nat → Int32))) :=
  if 10 ≤ v1 then
    some (.inr MA_2)
  else
    (rdx (MA_2 7) 10 v1).bind fun x3 =>
    (ixx 600 ((20 * (MA_2 0 43)) + v1)).bind fun j4 =>
    (rdx ((u2 MA_2 12 j4 x3) 8) 10 v1).bind fun x5 =>
    (ixx 600 (((20 * ((u2 MA_2 12 j4 x3) 0 43)) + 10) + v1)).bind fun j6 =>
    some (.inl ((v1 + 1), (u2 (u2 MA_2 12 j4 x3) 12 j6 x5)))
def f_M_keepsAct (MA : (Nat → Nat → Int32)) : Option ((Nat → Nat → Int32)) :=
  (loopN (fun q => f_M_keepsAct_l2 q.1 q.2) a_F (0, MA)).bind fun MA_8 =>
  some (u2 MA_8 0 43 ((MA_8 0 43) + 1))
def f_M_goesTo (MA : (Nat → Nat → Int32)) (p1 : Int32) (p2 : Int32) : Option ((Nat → Nat → Int32)) :=
  (ixx 10 p1).bind fun j1 =>
  (rdx ((u2 MA 7 j1 p2) 8) 10 p1).bind fun x2 =>
  (ixx 10 p1).bind fun j3 =>
  some (u2 (u2 MA 7 j1 p2) 8 j3 (x2 + 1))
def f_M_move (MA : (Nat → Nat → Int32)) (p1 : Int32) (p2 : Int32) (p3 : Int32) : Option (Int32 × (Nat → Nat → Int32)) :=
  (f_M_isPlace (u2 MA 0 0 0) p1 p2 p3).bind fun c1 =>
  if c1.1 ≠ 0 then
    (rdx (c1.2 7) 10 p1).bind fun x3 =>
    if x3 ≠ ((3 * p2) + p3) then
      if (c1.2 0 43) ≠ 30 then
        (f_M_isFixed c1.2 p1).bind fun x4 =>
        if x4 = 0 then
          (f_M_clashOf c1.2 p1 ((3 * p2) + p3) (c1.2 7)).bind fun x5 =>
          if x5 = 0 then
            (f_M_keepsAct c1.2).bind fun MA_6 =>
            (f_M_goesTo MA_6 p1 ((3 * p2) + p3)).bind fun MA_7 =>
            some (1, MA_7)
          else
            some ((-x5), c1.2)
        else
          some ((-32), c1.2)
      else
        some ((-64), c1.2)
    else
      some (0, c1.2)
  else
    some (0, c1.2)
def f_M_drop (MA : (Nat → Nat → Int32)) (p1 : Int32) : Option (Int32 × (Nat → Nat → Int32)) :=
  (f_M_isMeeting (u2 MA 0 0 0) p1 1).bind fun c1 =>
  if c1.1 ≠ 0 then
    (rdx (c1.2 7) 10 p1).bind fun x3 =>
    if x3 ≠ (-1) then
      if (c1.2 0 43) ≠ 30 then
        (f_M_isFixed c1.2 p1).bind fun x4 =>
        if x4 = 0 then
          (f_M_keepsAct c1.2).bind fun MA_5 =>
          (ixx 10 p1).bind fun j6 =>
          some (1, (u2 MA_5 7 j6 (-1)))
        else
          some ((-32), c1.2)
      else
        some ((-64), c1.2)
    else
      some (0, c1.2)
  else
    some (0, c1.2)
def f_M_undo_l26 (v1 : Int32) (MA_2 : (Nat → Nat → Int32)) : Option ((Int32 × (Nat → Nat → Int32)) ⊕ ((Nat → Nat → Int32))) :=
  if 10 ≤ v1 then
    some (.inr MA_2)
  else
    (rdx (MA_2 12) 600 ((20 * (MA_2 0 43)) + v1)).bind fun x3 =>
    (ixx 10 v1).bind fun j4 =>
    (rdx ((u2 MA_2 7 j4 x3) 12) 600 (((20 * ((u2 MA_2 7 j4 x3) 0 43)) + 10) + v1)).bind fun x5 =>
    (ixx 10 v1).bind fun j6 =>
    some (.inl ((v1 + 1), (u2 (u2 MA_2 7 j4 x3) 8 j6 x5)))
def f_M_undo (MA : (Nat → Nat → Int32)) : Option (Int32 × (Nat → Nat → Int32)) :=
  if ((u2 MA 0 0 0) 0 43) ≠ 0 then
    (loopN (fun q => f_M_undo_l26 q.1 q.2) a_F (0, (u2 (u2 MA 0 0 0) 0 43 (((u2 MA 0 0 0) 0 43) - 1)))).bind fun MA_8 =>
    some ((MA_8 0 43), MA_8)
  else
    some ((-1), (u2 MA 0 0 0))
def f_M_let (MA : (Nat → Nat → Int32)) (p1 : Int32) : Option (Int32 × (Nat → Nat → Int32)) :=
  (f_M_isHold (u2 MA 0 0 0) p1 1).bind fun c1 =>
  if c1.1 ≠ 0 then
    (rdx (c1.2 6) 16 ((4 * p1) + 3)).bind fun x3 =>
    (ixx 16 ((4 * p1) + 3)).bind fun j4 =>
    some ((1 - x3), (u2 c1.2 6 j4 1))
  else
    some (0, c1.2)
def f_M_hold_l112 (MA_5 : (Nat → Nat → Int32)) (x6 : Int32) (v7 : Int32) (v8 : Int32) : Option ((Int32 × Int32) ⊕ (Int32)) :=
  if (MA_5 0 26) ≤ v8 then
    some (.inr v7)
  else
    (rdx (MA_5 7) 10 v8).bind fun x9 =>
    (((
      if x9 ≠ (-1) then
        some (.inl ())
      else
        (f_M_clashOf MA_5 v8 x6 (MA_5 7)).bind fun x10 =>
        if (x10 &&& (-9)) ≠ 0 then
          some (.inl ())
        else
          some (.inr (.inl ((v7 + 1), (v8 + 1))))) : Option ((Unit) ⊕ ((Int32 × Int32) ⊕ (Int32))))).bind fun b7 => sumE b7 (fun _ =>
    some (.inl ((v7 + 0), (v8 + 1)))) (fun q => some q)
def f_M_hold (MA : (Nat → Nat → Int32)) (p1 : Int32) (p2 : Int32) : Option (Int32 × (Nat → Nat → Int32)) :=
  (f_M_isHold (u2 MA 0 0 0) p1 1).bind fun c1 =>
  if c1.1 = 0 then
    some (0, c1.2)
  else
    (f_M_within p2 0 4).bind fun x3 =>
    (f_M_may c1.2 x3 2 1).bind fun c3 =>
    if c3.1 ≠ 0 then
      (rdx (c3.2 6) 16 (4 * p1)).bind fun x6 =>
      if 2 ≤ p2 then
        if 4 ≤ p2 then
          (loopN (fun q => f_M_hold_l112 c3.2 x6 q.1 q.2) a_F (0, 0)).bind fun v11 =>
          some (v11, c3.2)
        else
          if p2 ≠ 2 then
            (rdx (c3.2 6) 16 ((4 * p1) + 3)).bind fun x13 =>
            some ((1 - x13), c3.2)
          else
            (rdx (c3.2 6) 16 ((4 * p1) + 1)).bind fun x14 =>
            (rdx (c3.2 6) 16 ((4 * p1) + 2)).bind fun x15 =>
            some ((x14 * x15), c3.2)
      else
        if p2 ≠ 0 then
          some ((a_rem x6 3), c3.2)
        else
          some ((x6 / 3), c3.2)
    else
      some (0, c3.2)
def f_M_least_l9 (MA : (Nat → Nat → Int32)) (v1 : Int32) (v2 : Int32) : Option ((Int32 × Int32) ⊕ (Int32)) :=
  if ((u2 MA 0 0 0) 0 27) ≤ v2 then
    some (.inr v1)
  else
    (rdx ((u2 MA 0 0 0) 6) 16 ((4 * v2) + 3)).bind fun x3 =>
    if x3 ≠ 0 then
      some (.inl (v1, (v2 + 1)))
    else
      if v1 = (-1) then
        some (.inl (v2, (v2 + 1)))
      else
        (rdx ((u2 MA 0 0 0) 6) 16 ((4 * v2) + 1)).bind fun x4 =>
        (rdx ((u2 MA 0 0 0) 6) 16 ((4 * v2) + 2)).bind fun x5 =>
        (rdx ((u2 MA 0 0 0) 6) 16 ((4 * v1) + 1)).bind fun x6 =>
        (rdx ((u2 MA 0 0 0) 6) 16 ((4 * v1) + 2)).bind fun x7 =>
        if (x6 * x7) ≤ (x4 * x5) then
          some (.inl (v1, (v2 + 1)))
        else
          some (.inl (v2, (v2 + 1)))
def f_M_least (MA : (Nat → Nat → Int32)) : Option (Int32 × (Nat → Nat → Int32)) :=
  (loopN (fun q => f_M_least_l9 MA q.1 q.2) a_F ((-1), 0)).bind fun v8 =>
  some (v8, (u2 MA 0 0 0))
def f_M_places_B_l2 (MA : (Nat → Nat → Int32)) (p1 : Int32) (v1 : Int32) : Option ((Int32) ⊕ (Int32)) :=
  if (MA 0 26) ≤ v1 then
    some (.inr v1)
  else
    if ((a_shr p1 v1) &&& 1) ≠ 0 then
      some (.inr v1)
    else
      some (.inl (v1 + 1))
def f_M_places_B_l37 (MA : (Nat → Nat → Int32)) (v2 : Int32) (rc : (Nat → (Nat → Nat → Int32) → (Nat → Nat → Int32) → Int32 → Int32 → Option (Int32 × (Nat → Nat → Int32)))) (p1 : Int32) (v3 : Int32) (MS_4 : (Nat → Nat → Int32)) : Option ((Int32 × (Nat → Nat → Int32)) ⊕ (((Nat → Nat → Int32)) ⊕ (Int32 × (Nat → Nat → Int32)))) :=
  if 30 ≤ v3 then
    some (.inr (.inl MS_4))
  else
    (f_M_isThere MA v3).bind fun x5 =>
    if x5 = 0 then
      some (.inl ((v3 + 1), MS_4))
    else
      (rdx (MA 7) 10 v2).bind fun x6 =>
      if v3 = x6 then
        some (.inl ((v3 + 1), MS_4))
      else
        (f_M_clashOf MA v2 v3 (MS_4 4)).bind fun x7 =>
        if x7 = 0 then
          (ixx 10 v2).bind fun j8 =>
          (rc 0 MA (u2 MS_4 4 j8 v3) p1 (v2 + 1)).bind fun c6 =>
          if c6.1 = 0 then
            (ixx 10 v2).bind fun j11 =>
            some (.inl ((v3 + 1), (u2 c6.2 4 j11 (-1))))
          else
            some (.inr (.inr ((zb 1), c6.2)))
        else
          some (.inl ((v3 + 1), MS_4))
def f_M_places_B (rc : (Nat → (Nat → Nat → Int32) → (Nat → Nat → Int32) → Int32 → Int32 → Option (Int32 × (Nat → Nat → Int32)))) (MA : (Nat → Nat → Int32)) (MS : (Nat → Nat → Int32)) (p1 : Int32) (p2 : Int32) : Option (Int32 × (Nat → Nat → Int32)) :=
  (loopN (fun q => f_M_places_B_l2 MA p1 q) a_F p2).bind fun v2 =>
  if v2 ≠ (MA 0 26) then
    (loopN (fun q => f_M_places_B_l37 MA v2 rc p1 q.1 q.2) a_F (0, MS)).bind fun b8 => sumE b8 (fun MS_13 =>
    some ((zb 0), MS_13)) (fun q => some q)
  else
    some ((zb 1), MS)
def f_grp_mp : Nat → (Nat → (Nat → Nat → Int32) → (Nat → Nat → Int32) → Int32 → Int32 → Option (Int32 × (Nat → Nat → Int32)))
  | 0, _ => fun _ _ _ _ => none
  | n + 1, k => f_M_places_B (f_grp_mp n)
def f_M_isLawful_l2 (MA : (Nat → Nat → Int32)) (w1 : (Nat → Int32)) (v1 : Int32) : Option ((Int32) ⊕ ((Unit) ⊕ (Int32))) :=
  if (MA 0 26) ≤ v1 then
    some (.inr (.inl ()))
  else
    (rdx w1 10 v1).bind fun x2 =>
    if x2 = (-1) then
      some (.inl (v1 + 1))
    else
      (rdx w1 10 v1).bind fun x3 =>
      (f_M_clashOf MA v1 x3 w1).bind fun x4 =>
      if x4 = 0 then
        some (.inl (v1 + 1))
      else
        some (.inr (.inr (zb 0)))
def f_M_isLawful (MA : (Nat → Nat → Int32)) (w1 : (Nat → Int32)) : Option (Int32) :=
  (loopN (fun q => f_M_isLawful_l2 MA w1 q) a_F 0).bind fun b4 => sumE b4 (fun _ =>
  some (zb 1)) (fun q => some q)
def f_M_stay_l2 (MA : (Nat → Nat → Int32)) (p2 : Int32) (p1 : Int32) (v1 : Int32) (MS_2 : (Nat → Nat → Int32)) : Option ((Int32 × (Nat → Nat → Int32)) ⊕ ((Nat → Nat → Int32))) :=
  if (MA 0 26) ≤ v1 then
    some (.inr MS_2)
  else
    (((
      (((
        if v1 = p2 then
          some (.inl ())
        else
          if ((a_shr p1 v1) &&& 1) ≠ 1 then
            (rdx (MA 7) 10 v1).bind fun x3 =>
            some (.inr x3)
          else
            some (.inl ())) : Option ((Unit) ⊕ (Int32)))).bind fun b4 => sumE b4 (fun _ =>
      some (-1)) (fun q => some q)) : Option (Int32))).bind fun v4 =>
    (ixx 10 v1).bind fun j5 =>
    some (.inl ((v1 + 1), (u2 MS_2 4 j5 v4)))
def f_M_stay (MA : (Nat → Nat → Int32)) (MS : (Nat → Nat → Int32)) (p1 : Int32) (p2 : Int32) : Option (Int32 × (Nat → Nat → Int32)) :=
  (loopN (fun q => f_M_stay_l2 MA p2 p1 q.1 q.2) a_F (0, MS)).bind fun MS_7 =>
  (f_M_isLawful MA (MS_7 4)).bind fun x8 =>
  some ((zb x8), MS_7)
def f_M_fitsIn (MA : (Nat → Nat → Int32)) (MS : (Nat → Nat → Int32)) (p1 : Int32) (p2 : Int32) (p3 : Int32) : Option (Int32 × (Nat → Nat → Int32)) :=
  (f_M_stay MA MS p3 p1).bind fun c1 =>
  if c1.1 = 0 then
    some ((zb 0), c1.2)
  else
    (f_M_clashOf MA p1 p2 (c1.2 4)).bind fun x3 =>
    if x3 = 0 then
      (ixx 10 p1).bind fun j4 =>
      (f_grp_mp 12 0 MA (u2 c1.2 4 j4 p2) p3 0).bind fun c3 =>
      some ((zb c3.1), c3.2)
    else
      some ((zb 0), c1.2)
def f_M_costOf_l14 (MA : (Nat → Nat → Int32)) (p1 : Int32) (v2 : Int32) (v3 : Int32) : Option ((Int32 × Int32) ⊕ (Int32)) :=
  if (MA 0 25) ≤ v3 then
    some (.inr v2)
  else
    (rdx (MA 5) 60 ((6 * p1) + 2)).bind fun x4 =>
    if ((a_shr x4 v3) &&& 1) ≠ 1 then
      some (.inl ((v2 + 0), (v3 + 1)))
    else
      (rdx (MA 4) 24 (3 * v3)).bind fun x5 =>
      some (.inl ((v2 + x5), (v3 + 1)))
def f_M_costOf (MA : (Nat → Nat → Int32)) (p1 : Int32) : Option (Int32) :=
  (rdx (MA 5) 60 ((6 * p1) + 1)).bind fun x1 =>
  (loopN (fun q => f_M_costOf_l14 MA p1 q.1 q.2) a_F (x1, 0)).bind fun v6 =>
  some v6
def f_M_costsOf_l4 (MA : (Nat → Nat → Int32)) (p1 : Int32) (v1 : Int32) (v2 : Int32) : Option ((Int32 × Int32) ⊕ (Int32)) :=
  if (MA 0 26) ≤ v2 then
    some (.inr v1)
  else
    if ((a_shr p1 v2) &&& 1) ≠ 1 then
      some (.inl ((v1 + 0), (v2 + 1)))
    else
      (f_M_costOf MA v2).bind fun x3 =>
      some (.inl ((v1 + x3), (v2 + 1)))
def f_M_costsOf (MA : (Nat → Nat → Int32)) (p1 : Int32) : Option (Int32) :=
  (loopN (fun q => f_M_costsOf_l4 MA p1 q.1 q.2) a_F (0, 0)).bind fun v4 =>
  some v4
def f_M_canMove_l2 (MA : (Nat → Nat → Int32)) (p1 : Int32) (v1 : Int32) : Option ((Int32) ⊕ ((Unit) ⊕ (Int32))) :=
  if (MA 0 26) ≤ v1 then
    some (.inr (.inl ()))
  else
    if ((a_shr p1 v1) &&& 1) ≠ 1 then
      some (.inl (v1 + 1))
    else
      (rdx (MA 7) 10 v1).bind fun x2 =>
      if x2 = (-1) then
        some (.inr (.inr (zb 0)))
      else
        (f_M_isFixed MA v1).bind fun x3 =>
        if x3 = 0 then
          some (.inl (v1 + 1))
        else
          some (.inr (.inr (zb 0)))
def f_M_canMove (MA : (Nat → Nat → Int32)) (p1 : Int32) : Option (Int32) :=
  (loopN (fun q => f_M_canMove_l2 MA p1 q) a_F 0).bind fun b4 => sumE b4 (fun _ =>
  some (zb 1)) (fun q => some q)
def f_M_findFit_l88 (MA : (Nat → Nat → Int32)) (p1 : Int32) (p2 : Int32) (v4 : Int32) (x11 : Int32) (v13 : Int32) (MS_17 : (Nat → Nat → Int32)) : Option ((Int32 × (Nat → Nat → Int32)) ⊕ ((Nat → Nat → Int32))) :=
  if (MA 0 24) ≤ v13 then
    some (.inr MS_17)
  else
    (f_M_isFixed MA p1).bind fun x18 =>
    (((
      if x18 = 0 then
        some (.inl ())
      else
        (rdx (MA 7) 10 p1).bind fun x19 =>
        if ((3 * p2) + v13) = x19 then
          some (.inl ())
        else
          some (.inr (.inl ((v13 + 1), MS_17)))) : Option ((Unit) ⊕ ((Int32 × (Nat → Nat → Int32)) ⊕ ((Nat → Nat → Int32)))))).bind fun b21 => sumE b21 (fun _ =>
    (f_M_costsOf MA v4).bind fun x20 =>
    (rdx (MA 7) 10 p1).bind fun x21 =>
    (((
      if ((3 * p2) + v13) ≠ x21 then
        (f_M_costOf MA p1).bind fun x22 =>
        some x22
      else
        some 0) : Option (Int32))).bind fun v23 =>
    (((
      (((
        if (MS_17 0 45) = (-1) then
          some (.inl ())
        else
          if (MS_17 0 45) ≤ x11 then
            some (.inr 0)
          else
            some (.inl ())) : Option ((Unit) ⊕ (Int32)))).bind fun b14 => sumE b14 (fun _ =>
      some 1) (fun q => some q)) : Option (Int32))).bind fun v24 =>
    (((
      if v24 ≠ 0 then
        some (.inl ())
      else
        if (MS_17 0 48) ≤ (x20 + v23) then
          some (.inr (.inl ((v13 + 1), MS_17)))
        else
          some (.inl ())) : Option ((Unit) ⊕ ((Int32 × (Nat → Nat → Int32)) ⊕ ((Nat → Nat → Int32)))))).bind fun b20 => sumE b20 (fun _ =>
    (f_M_fitsIn MA MS_17 p1 ((3 * p2) + v13) v4).bind fun c16 =>
    if c16.1 ≠ 0 then
      (((
        (((
          if (c16.2 0 48) = (-1) then
            some (.inl ())
          else
            if (c16.2 0 48) ≤ (x20 + v23) then
              some (.inr (c16.2 0 48))
            else
              some (.inl ())) : Option ((Unit) ⊕ (Int32)))).bind fun b19 => sumE b19 (fun _ =>
        some (x20 + v23)) (fun q => some q)) : Option (Int32))).bind fun v27 =>
      if v24 ≠ 0 then
        some (.inl ((v13 + 1), (u2 (u2 (u2 (u2 c16.2 0 48 v27) 0 45 x11) 0 46 v4) 0 47 v13)))
      else
        some (.inl ((v13 + 1), (u2 c16.2 0 48 v27)))
    else
      some (.inl ((v13 + 1), c16.2))) (fun q => some q)) (fun q => some q)
def f_M_findFit_l43 (MA : (Nat → Nat → Int32)) (p1 : Int32) (p2 : Int32) (v4 : Int32) (MS_10 : (Nat → Nat → Int32)) : Option ((Int32 × (Nat → Nat → Int32)) ⊕ ((Nat → Nat → Int32))) :=
  if (a_shl 1 (MA 0 26)) ≤ v4 then
    some (.inr MS_10)
  else
    (f_M_ones v4).bind fun x11 =>
    if 3 < x11 then
      some (.inl ((v4 + 1), MS_10))
    else
      if ((a_shr v4 p1) &&& 1) = 1 then
        some (.inl ((v4 + 1), MS_10))
      else
        (f_M_canMove MA v4).bind fun x12 =>
        if x12 ≠ 0 then
          (loopN (fun q => f_M_findFit_l88 MA p1 p2 v4 x11 q.1 q.2) a_F (0, MS_10)).bind fun MS_32 =>
          some (.inl ((v4 + 1), MS_32))
        else
          some (.inl ((v4 + 1), MS_10))
def f_M_findFit (MA : (Nat → Nat → Int32)) (MS : (Nat → Nat → Int32)) (p1 : Int32) (p2 : Int32) : Option ((Nat → Nat → Int32)) :=
  (rdx (MA 7) 10 p1).bind fun x1 =>
  if x1 = (-1) then
    some (u2 (u2 MS 0 45 (-1)) 0 48 (-1))
  else
    (f_M_isFixed MA p1).bind fun x2 =>
    (((
      if x2 = 0 then
        some (.inl ())
      else
        (rdx (MA 7) 10 p1).bind fun x3 =>
        if (x3 / 3) = p2 then
          some (.inl ())
        else
          some (.inr (u2 (u2 MS 0 45 (-1)) 0 48 (-1)))) : Option ((Unit) ⊕ ((Nat → Nat → Int32))))).bind fun b24 => sumE b24 (fun _ =>
    (loopN (fun q => f_M_findFit_l43 MA p1 p2 q.1 q.2) a_F (0, (u2 (u2 MS 0 45 (-1)) 0 48 (-1)))).bind fun MS_39 =>
    some MS_39) (fun q => some q)
def f_M_isAsked (MA : (Nat → Nat → Int32)) (p1 : Int32) (p2 : Int32) (p3 : Int32) : Option (Int32 × (Nat → Nat → Int32)) :=
  (f_M_isMeeting MA p1 1).bind fun c1 =>
  if c1.1 = 0 then
    some ((zb 0), c1.2)
  else
    (f_M_within p2 0 ((c1.2 0 23) - 1)).bind fun x3 =>
    (((
      (((
        if x3 = 0 then
          some (.inl ())
        else
          if p3 = 0 then
            some (.inl ())
          else
            some (.inr 1)) : Option ((Unit) ⊕ (Int32)))).bind fun b5 => sumE b5 (fun _ =>
      some 0) (fun q => some q)) : Option (Int32))).bind fun v4 =>
    (f_M_may c1.2 v4 2 1).bind fun c6 =>
    if c6.1 = 0 then
      some ((zb 0), c6.2)
    else
      some ((zb 1), c6.2)
def f_M_fits (MA : (Nat → Nat → Int32)) (MS : (Nat → Nat → Int32)) (p1 : Int32) (p2 : Int32) (p3 : Int32) : Option (Int32 × (Nat → Nat → Int32) × (Nat → Nat → Int32)) :=
  (f_M_within p3 0 3).bind fun x1 =>
  (f_M_isAsked (u2 MA 0 0 0) p1 p2 x1).bind fun c2 =>
  if c2.1 ≠ 0 then
    (f_M_findFit c2.2 MS p1 p2).bind fun MS_4 =>
    if (MS_4 0 45) ≠ (-1) then
      if p3 ≠ 0 then
        if p3 ≠ 1 then
          if p3 ≠ 2 then
            some ((MS_4 0 48), c2.2, MS_4)
          else
            some ((MS_4 0 47), c2.2, MS_4)
        else
          some ((MS_4 0 46), c2.2, MS_4)
      else
        some ((MS_4 0 45), c2.2, MS_4)
    else
      some ((-1), c2.2, MS_4)
  else
    some (0, c2.2, MS)
def f_M_shown (p0 : Int32) (p1 : Int32) : Option (Int32) :=
  if p1 = 0 then
    some (-1)
  else
    some ((10 * (a_rem p0 3)) + (p0 / 3))
def f_M_goes (MA : (Nat → Nat → Int32)) (MS : (Nat → Nat → Int32)) (p1 : Int32) (p2 : Int32) (p3 : Int32) : Option (Int32 × (Nat → Nat → Int32) × (Nat → Nat → Int32)) :=
  (f_M_isMeeting (u2 MA 0 0 0) p1 1).bind fun c1 =>
  if c1.1 = 0 then
    some (0, c1.2, MS)
  else
    (f_M_isMeeting c1.2 p3 1).bind fun c2 =>
    if c2.1 = 0 then
      some (0, c2.2, MS)
    else
      (f_M_within p2 0 ((c2.2 0 23) - 1)).bind fun x5 =>
      (f_M_may c2.2 x5 2 1).bind fun c4 =>
      if c4.1 ≠ 0 then
        (f_M_findFit c4.2 MS p1 p2).bind fun MS_8 =>
        if (MS_8 0 45) = (-1) then
          some ((-1), c4.2, MS_8)
        else
          (((
            if p3 = p1 then
              some (.inl ())
            else
              if ((a_shr (MS_8 0 46) p3) &&& 1) ≠ 0 then
                some (.inl ())
              else
                some (.inr ((-1), c4.2, MS_8))) : Option ((Unit) ⊕ (Int32 × (Nat → Nat → Int32) × (Nat → Nat → Int32))))).bind fun b9 => sumE b9 (fun _ =>
          (f_M_fitsIn c4.2 MS_8 p1 ((3 * p2) + (MS_8 0 47)) (MS_8 0 46)).bind fun c7 =>
          (rdx (c7.2 4) 10 p3).bind fun x11 =>
          (f_M_shown x11 1).bind fun x12 =>
          some (x12, c4.2, c7.2)) (fun q => some q)
      else
        some (0, c4.2, MS)
def f_M_hours_l20 (MA_2 : (Nat → Nat → Int32)) (p1 : Int32) (v3 : Int32) (v4 : Int32) (MS_5 : (Nat → Nat → Int32)) : Option ((Int32 × Int32 × (Nat → Nat → Int32)) ⊕ (Int32 × (Nat → Nat → Int32))) :=
  if (MA_2 0 23) ≤ v4 then
    some (.inr (v3, MS_5))
  else
    (f_M_findFit MA_2 MS_5 p1 v4).bind fun MS_6 =>
    if (MS_6 0 45) ≠ (-1) then
      some (.inl ((v3 + 1), (v4 + 1), MS_6))
    else
      some (.inl ((v3 + 0), (v4 + 1), MS_6))
def f_M_hours (MA : (Nat → Nat → Int32)) (MS : (Nat → Nat → Int32)) (p1 : Int32) : Option (Int32 × (Nat → Nat → Int32) × (Nat → Nat → Int32)) :=
  (f_M_isMeeting (u2 MA 0 0 0) p1 1).bind fun c1 =>
  if c1.1 ≠ 0 then
    (loopN (fun q => f_M_hours_l20 c1.2 p1 q.1 q.2.1 q.2.2) a_F (0, 0, MS)).bind fun p4_ =>
    some (p4_.1, c1.2, p4_.2)
  else
    some (0, c1.2, MS)
def f_M_isRing_l16 (MA : (Nat → Nat → Int32)) (p1 : Int32) (v2 : Int32) (MS_3 : (Nat → Nat → Int32)) : Option ((Int32 × (Nat → Nat → Int32)) ⊕ ((Nat → Nat → Int32))) :=
  if p1 ≤ v2 then
    some (.inr MS_3)
  else
    (rdx (MS_3 5) 4 v2).bind fun x4 =>
    if p1 = 0 then none else
    (rdx (MS_3 5) 4 (a_rem (v2 + 1) p1)).bind fun x5 =>
    (rdx (MA 7) 10 x5).bind fun x6 =>
    (ixx 10 x4).bind fun j7 =>
    some (.inl ((v2 + 1), (u2 MS_3 4 j7 x6)))
def f_M_isRing (MA : (Nat → Nat → Int32)) (MS : (Nat → Nat → Int32)) (p1 : Int32) : Option (Int32 × (Nat → Nat → Int32)) :=
  (cpM (MA 7) 10 (MS 4) 10 10).bind fun x1 =>
  (loopN (fun q => f_M_isRing_l16 MA p1 q.1 q.2) a_F (0, (u1 MS 4 x1))).bind fun MS_9 =>
  (f_M_isLawful MA (MS_9 4)).bind fun x10 =>
  some ((zb x10), MS_9)
def f_M_canRing (MA : (Nat → Nat → Int32)) (p1 : Int32) : Option (Int32) :=
  (rdx (MA 7) 10 p1).bind fun x1 =>
  if x1 = (-1) then
    some (zb 0)
  else
    (f_M_isFixed MA p1).bind fun x2 =>
    if x2 ≠ 0 then
      some (zb 0)
    else
      some (zb 1)
def f_M_goesRound_B_l89 (MA : (Nat → Nat → Int32)) (p3 : Int32) (p1 : Int32) (rc : (Nat → (Nat → Nat → Int32) → (Nat → Nat → Int32) → Int32 → Int32 → Int32 → Option ((Nat → Nat → Int32)))) (p2 : Int32) (v3 : Int32) (MS_4 : (Nat → Nat → Int32)) : Option ((Int32 × (Nat → Nat → Int32)) ⊕ ((Nat → Nat → Int32))) :=
  if (MA 0 26) ≤ v3 then
    some (.inr MS_4)
  else
    if ((a_shr p3 v3) &&& 1) = 1 then
      some (.inl ((v3 + 1), MS_4))
    else
      (f_M_canRing MA v3).bind fun x5 =>
      if x5 ≠ 0 then
        (ixx 4 p1).bind fun j6 =>
        (rc 0 MA (u2 MS_4 5 j6 v3) (p1 + 1) p2 (p3 ||| (a_shl 1 v3))).bind fun MS_7 =>
        some (.inl ((v3 + 1), MS_7))
      else
        some (.inl ((v3 + 1), MS_4))
def f_M_goesRound_B_l29 (p2 : Int32) (v12 : Int32) (MS_13 : (Nat → Nat → Int32)) : Option ((Int32 × (Nat → Nat → Int32)) ⊕ ((Nat → Nat → Int32))) :=
  if p2 ≤ v12 then
    some (.inr MS_13)
  else
    (rdx (MS_13 5) 4 v12).bind fun x14 =>
    some (.inl ((v12 + 1), (u2 MS_13 0 51 ((10 * (MS_13 0 51)) + x14))))
def f_M_goesRound_B (rc : (Nat → (Nat → Nat → Int32) → (Nat → Nat → Int32) → Int32 → Int32 → Int32 → Option ((Nat → Nat → Int32)))) (MA : (Nat → Nat → Int32)) (MS : (Nat → Nat → Int32)) (p1 : Int32) (p2 : Int32) (p3 : Int32) : Option ((Nat → Nat → Int32)) :=
  if p1 ≠ p2 then
    (((
      if p1 ≠ 0 then
        (rdx (MS 5) 4 0).bind fun x1 =>
        some (x1 + 1)
      else
        some 0) : Option (Int32))).bind fun v2 =>
    (loopN (fun q => f_M_goesRound_B_l89 MA p3 p1 rc p2 q.1 q.2) a_F (v2, MS)).bind fun MS_9 =>
    some MS_9
  else
    (f_M_isRing MA MS p2).bind fun c6 =>
    if c6.1 ≠ 0 then
      (((
        if (c6.2 0 50) ≠ 0 then
          some c6.2
        else
          (loopN (fun q => f_M_goesRound_B_l29 p2 q.1 q.2) a_F (0, (u2 c6.2 0 51 0))).bind fun MS_16 =>
          some MS_16) : Option ((Nat → Nat → Int32)))).bind fun MS_18 =>
      some (u2 MS_18 0 50 ((MS_18 0 50) + 1))
    else
      some c6.2
def f_grp_mg : Nat → (Nat → (Nat → Nat → Int32) → (Nat → Nat → Int32) → Int32 → Int32 → Int32 → Option ((Nat → Nat → Int32)))
  | 0, _ => fun _ _ _ _ _ => none
  | n + 1, k => f_M_goesRound_B (f_grp_mg n)
def f_M_swap (MA : (Nat → Nat → Int32)) (MS : (Nat → Nat → Int32)) (p1 : Int32) (p2 : Int32) : Option (Int32 × (Nat → Nat → Int32) × (Nat → Nat → Int32)) :=
  (f_M_isMeeting (u2 MA 0 0 0) p1 1).bind fun c1 =>
  if c1.1 = 0 then
    some ((zb 0), c1.2, MS)
  else
    (f_M_isMeeting c1.2 p2 1).bind fun c2 =>
    if c2.1 = 0 then
      some ((zb 0), c2.2, MS)
    else
      (((
        if p1 = p2 then
          some 0
        else
          some 1) : Option (Int32))).bind fun v5 =>
      (f_M_may c2.2 v5 2 1).bind fun c4 =>
      if c4.1 ≠ 0 then
        (f_M_canRing c4.2 p1).bind fun x8 =>
        if x8 = 0 then
          some ((zb 0), c4.2, MS)
        else
          (f_M_canRing c4.2 p2).bind fun x9 =>
          if x9 ≠ 0 then
            (ixx 4 0).bind fun j10 =>
            (ixx 4 1).bind fun j11 =>
            (f_M_isRing c4.2 (u2 (u2 MS 5 j10 p1) 5 j11 p2) 2).bind fun c7 =>
            some ((zb c7.1), c4.2, c7.2)
          else
            some ((zb 0), c4.2, MS)
      else
        some ((zb 0), c4.2, MS)
def f_M_rings (MA : (Nat → Nat → Int32)) (MS : (Nat → Nat → Int32)) (p1 : Int32) (p2 : Int32) : Option (Int32 × (Nat → Nat → Int32) × (Nat → Nat → Int32)) :=
  (f_M_within p1 2 4).bind fun x1 =>
  (((
    (((
      if x1 = 0 then
        some (.inl ())
      else
        (f_M_within p2 0 1).bind fun x2 =>
        if x2 = 0 then
          some (.inl ())
        else
          some (.inr 1)) : Option ((Unit) ⊕ (Int32)))).bind fun b5 => sumE b5 (fun _ =>
    some 0) (fun q => some q)) : Option (Int32))).bind fun v3 =>
  (f_M_may (u2 MA 0 0 0) v3 1 1).bind fun c6 =>
  if c6.1 ≠ 0 then
    (f_grp_mg 12 0 c6.2 (u2 (u2 MS 0 50 0) 0 51 (-1)) 0 p1 0).bind fun MS_6 =>
    if p2 ≠ 0 then
      some ((MS_6 0 51), c6.2, MS_6)
    else
      some ((MS_6 0 50), c6.2, MS_6)
  else
    some (0, c6.2, MS)
def f_M_apartNow_l8 (MA : (Nat → Nat → Int32)) (MS_1 : (Nat → Nat → Int32)) (v2 : Int32) (v3 : Int32) : Option ((Int32 × Int32) ⊕ (Int32)) :=
  if (MA 0 26) ≤ v3 then
    some (.inr v2)
  else
    (rdx (MS_1 1) 10 v3).bind fun x4 =>
    (rdx (MA 7) 10 v3).bind fun x5 =>
    (((
      if x4 = x5 then
        some 0
      else
        some (a_shl 1 v3)) : Option (Int32))).bind fun v6 =>
    some (.inl ((v2 ||| v6), (v3 + 1)))
def f_M_apartNow (MA : (Nat → Nat → Int32)) (MS : (Nat → Nat → Int32)) : Option (Int32 × (Nat → Nat → Int32)) :=
  (f_M_findGoals MA MS).bind fun MS_1 =>
  (loopN (fun q => f_M_apartNow_l8 MA MS_1 q.1 q.2) a_F (0, 0)).bind fun v7 =>
  some (v7, MS_1)
def f_M_apart (MA : (Nat → Nat → Int32)) (MS : (Nat → Nat → Int32)) : Option (Int32 × (Nat → Nat → Int32) × (Nat → Nat → Int32)) :=
  (f_M_apartNow (u2 MA 0 0 0) MS).bind fun c1 =>
  some (c1.1, (u2 MA 0 0 0), c1.2)
def f_M_once (MA : (Nat → Nat → Int32)) (MS : (Nat → Nat → Int32)) : Option (Int32 × (Nat → Nat → Int32) × (Nat → Nat → Int32)) :=
  (f_M_findGoals (u2 MA 0 0 0) MS).bind fun MS_1 =>
  (f_M_isLawful (u2 MA 0 0 0) (MS_1 1)).bind fun x2 =>
  some ((zb x2), (u2 MA 0 0 0), MS_1)
def f_M_goneBy_l2 (MA : (Nat → Nat → Int32)) (p1 : Int32) (v1 : Int32) (MS_2 : (Nat → Nat → Int32)) : Option ((Int32 × (Nat → Nat → Int32)) ⊕ ((Nat → Nat → Int32))) :=
  if 10 ≤ v1 then
    some (.inr MS_2)
  else
    (((
      if ((a_shr p1 v1) &&& 1) ≠ 1 then
        (rdx (MA 7) 10 v1).bind fun x3 =>
        some x3
      else
        (rdx (MS_2 1) 10 v1).bind fun x4 =>
        some x4) : Option (Int32))).bind fun v5 =>
    (ixx 10 v1).bind fun j6 =>
    some (.inl ((v1 + 1), (u2 MS_2 4 j6 v5)))
def f_M_goneBy (MA : (Nat → Nat → Int32)) (MS : (Nat → Nat → Int32)) (p1 : Int32) : Option ((Nat → Nat → Int32)) :=
  (loopN (fun q => f_M_goneBy_l2 MA p1 q.1 q.2) a_F (0, MS)).bind fun MS_8 =>
  some MS_8
def f_M_canGo (MA : (Nat → Nat → Int32)) (MS : (Nat → Nat → Int32)) (p1 : Int32) (p2 : Int32) (p3 : Int32) : Option (Int32 × (Nat → Nat → Int32)) :=
  if ((a_shr p3 p1) &&& 1) = 0 then
    some ((zb 0), MS)
  else
    if ((a_shr p2 p1) &&& 1) = 1 then
      some ((zb 0), MS)
    else
      (f_M_isFixed MA p1).bind fun x1 =>
      if x1 = 0 then
        (f_M_goneBy MA MS (p2 ||| (a_shl 1 p1))).bind fun MS_2 =>
        (f_M_isLawful MA (MS_2 4)).bind fun x3 =>
        some ((zb x3), MS_2)
      else
        some ((zb 0), MS)
def f_M_goesOn_B_l41 (MA : (Nat → Nat → Int32)) (p1 : Int32) (p2 : Int32) (rc : (Nat → (Nat → Nat → Int32) → (Nat → Nat → Int32) → Int32 → Int32 → Option (Int32 × (Nat → Nat → Int32)))) (v3 : Int32) (MS_4 : (Nat → Nat → Int32)) : Option ((Int32 × (Nat → Nat → Int32)) ⊕ ((Nat → Nat → Int32))) :=
  if (MA 0 26) ≤ v3 then
    some (.inr MS_4)
  else
    (rdx (MS_4 6) 1024 p1).bind fun x5 =>
    if x5 ≠ 2 then
      some (.inr MS_4)
    else
      (f_M_canGo MA MS_4 v3 p1 p2).bind fun c2 =>
      if c2.1 = 0 then
        some (.inl ((v3 + 1), c2.2))
      else
        (rc 0 MA c2.2 (p1 ||| (a_shl 1 v3)) p2).bind fun c3 =>
        if c3.1 = 0 then
          some (.inl ((v3 + 1), c3.2))
        else
          (ixx 1024 p1).bind fun j10 =>
          some (.inl ((v3 + 1), (u2 c3.2 6 j10 1)))
def f_M_goesOn_B (rc : (Nat → (Nat → Nat → Int32) → (Nat → Nat → Int32) → Int32 → Int32 → Option (Int32 × (Nat → Nat → Int32)))) (MA : (Nat → Nat → Int32)) (MS : (Nat → Nat → Int32)) (p1 : Int32) (p2 : Int32) : Option (Int32 × (Nat → Nat → Int32)) :=
  if p1 ≠ p2 then
    (rdx (MS 6) 1024 p1).bind fun x1 =>
    if x1 = 0 then
      (ixx 1024 p1).bind fun j2 =>
      (loopN (fun q => f_M_goesOn_B_l41 MA p1 p2 rc q.1 q.2) a_F (0, (u2 MS 6 j2 2))).bind fun MS_12 =>
      (rdx (MS_12 6) 1024 p1).bind fun x13 =>
      if x13 ≠ 1 then
        some ((zb 0), MS_12)
      else
        some ((zb 1), MS_12)
    else
      (rdx (MS 6) 1024 p1).bind fun x14 =>
      if x14 ≠ 1 then
        some ((zb 0), MS)
      else
        some ((zb 1), MS)
  else
    some ((zb 1), MS)
def f_grp_mo : Nat → (Nat → (Nat → Nat → Int32) → (Nat → Nat → Int32) → Int32 → Int32 → Option (Int32 × (Nat → Nat → Int32)))
  | 0, _ => fun _ _ _ _ => none
  | n + 1, k => f_M_goesOn_B (f_grp_mo n)
def f_M_order_l29 (MA_3 : (Nat → Nat → Int32)) (v6 : Int32) (MS_7 : (Nat → Nat → Int32)) : Option ((Int32 × (Nat → Nat → Int32)) ⊕ ((Nat → Nat → Int32))) :=
  if (a_shl 1 (MA_3 0 26)) ≤ v6 then
    some (.inr MS_7)
  else
    (ixx 1024 v6).bind fun j8 =>
    some (.inl ((v6 + 1), (u2 MS_7 6 j8 0)))
def f_M_order_l89 (MA_3 : (Nat → Nat → Int32)) (v14 : Int32) (x4 : Int32) (v17 : Int32) (MS_18 : (Nat → Nat → Int32)) : Option ((Int32 × (Nat → Nat → Int32)) ⊕ (Int32 × (Nat → Nat → Int32))) :=
  (f_M_canGo MA_3 MS_18 v17 v14 x4).bind fun c9 =>
  if c9.1 = 0 then
    some (.inl ((v17 + 1), c9.2))
  else
    (f_grp_mo 12 0 MA_3 c9.2 (v14 ||| (a_shl 1 v17)) x4).bind fun c10 =>
    if c10.1 ≠ 0 then
      some (.inr (v17, c10.2))
    else
      some (.inl ((v17 + 1), c10.2))
def f_M_order_l80 (x4 : Int32) (MA_3 : (Nat → Nat → Int32)) (v13 : Int64) (v14 : Int32) (MS_16 : (Nat → Nat → Int32)) : Option ((Int64 × Int32 × (Nat → Nat → Int32)) ⊕ (Int64 × (Nat → Nat → Int32))) :=
  if v14 = x4 then
    some (.inr (v13, MS_16))
  else
    (loopN (fun q => f_M_order_l89 MA_3 v14 x4 q.1 q.2) a_F (0, MS_16)).bind fun p11_ =>
    some (.inl ((((10 : Int64) * v13) + (Int32.toInt64 p11_.1)), (v14 ||| (a_shl 1 p11_.1)), p11_.2))
def f_M_order (MA : (Nat → Nat → Int32)) (MS : (Nat → Nat → Int32)) (p1 : Int32) : Option (Int64 × (Nat → Nat → Int32) × (Nat → Nat → Int32)) :=
  (f_M_within p1 0 1).bind fun x1 =>
  (f_M_may (u2 MA 0 0 0) x1 1 1).bind fun c2 =>
  if c2.1 ≠ 0 then
    (f_M_apartNow c2.2 MS).bind fun c3 =>
    (loopN (fun q => f_M_order_l29 c2.2 q.1 q.2) a_F (0, c3.2)).bind fun MS_10 =>
    (f_grp_mo 12 0 c2.2 MS_10 0 c3.1).bind fun c6 =>
    if c6.1 ≠ 0 then
      if p1 ≠ 0 then
        (loopN (fun q => f_M_order_l80 c3.1 c2.2 q.1 q.2.1 q.2.2) a_F ((0 : Int64), 0, c6.2)).bind fun p12_ =>
        some (p12_.1, c2.2, p12_.2)
      else
        (f_M_ones c3.1).bind fun x29 =>
        some ((Int32.toInt64 x29), c2.2, c6.2)
    else
      some ((-1 : Int64), c2.2, c6.2)
  else
    some ((0 : Int64), c2.2, MS)
def f_M_begin_l14 (MA : (Nat → Nat → Int32)) (x1 : Int32) (v3 : Int32) (v4 : Int32) (MS_5 : (Nat → Nat → Int32)) : Option ((Int32 × Int32 × (Nat → Nat → Int32)) ⊕ (Int32 × (Nat → Nat → Int32))) :=
  if ((u2 MA 0 0 0) 0 26) ≤ v4 then
    some (.inr (v3, MS_5))
  else
    (f_M_canGo (u2 MA 0 0 0) MS_5 v4 0 x1).bind fun c3 =>
    (((
      if c3.1 = 0 then
        some 0
      else
        some (a_shl 1 v4)) : Option (Int32))).bind fun v8 =>
    some (.inl ((v3 ||| v8), (v4 + 1), c3.2))
def f_M_begin (MA : (Nat → Nat → Int32)) (MS : (Nat → Nat → Int32)) : Option (Int32 × (Nat → Nat → Int32) × (Nat → Nat → Int32)) :=
  (f_M_apartNow (u2 MA 0 0 0) MS).bind fun c1 =>
  (loopN (fun q => f_M_begin_l14 MA c1.1 q.1 q.2.1 q.2.2) a_F (0, 0, c1.2)).bind fun p5_ =>
  some (p5_.1, (u2 MA 0 0 0), p5_.2)
def f_M_waits_l36 (MA_2 : (Nat → Nat → Int32)) (x3 : Int32) (MS_4 : (Nat → Nat → Int32)) (p1 : Int32) (v5 : Int32) (v6 : Int32) : Option ((Int32 × Int32) ⊕ (Int32)) :=
  if (MA_2 0 26) ≤ v6 then
    some (.inr v5)
  else
    (((
      (((
        if ((a_shr x3 v6) &&& 1) ≠ 1 then
          some (.inl ())
        else
          (rdx (MS_4 1) 10 p1).bind fun x7 =>
          (rdx (MA_2 7) 10 v6).bind fun x8 =>
          (f_M_clashWith MA_2 p1 x7 v6 x8).bind fun x9 =>
          if x9 = 0 then
            some (.inl ())
          else
            some (.inr (a_shl 1 v6))) : Option ((Unit) ⊕ (Int32)))).bind fun b7 => sumE b7 (fun _ =>
      some 0) (fun q => some q)) : Option (Int32))).bind fun v10 =>
    some (.inl ((v5 ||| v10), (v6 + 1)))
def f_M_waits (MA : (Nat → Nat → Int32)) (MS : (Nat → Nat → Int32)) (p1 : Int32) : Option (Int32 × (Nat → Nat → Int32) × (Nat → Nat → Int32)) :=
  (f_M_isMeeting (u2 MA 0 0 0) p1 1).bind fun c1 =>
  if c1.1 ≠ 0 then
    (f_M_apartNow c1.2 MS).bind fun c2 =>
    if ((a_shr c2.1 p1) &&& 1) ≠ 0 then
      (loopN (fun q => f_M_waits_l36 c1.2 c2.1 c2.2 p1 q.1 q.2) a_F (0, 0)).bind fun v11 =>
      some (v11, c1.2, c2.2)
    else
      some (0, c1.2, c2.2)
  else
    some (0, c1.2, MS)
def f_M_knot_l34 (MA : (Nat → Nat → Int32)) (v9 : Int32) (v10 : Int32) (v11 : Int32) (MS_13 : (Nat → Nat → Int32)) : Option ((Int32 × Int32 × Int32 × (Nat → Nat → Int32)) ⊕ (Int32 × Int32 × (Nat → Nat → Int32))) :=
  if ((u2 MA 0 0 0) 0 26) ≤ v11 then
    some (.inr (v9, v10, MS_13))
  else
    if ((a_shr v9 v11) &&& 1) = 0 then
      some (.inl (v9, v10, (v11 + 1), MS_13))
    else
      (f_M_isFixed (u2 MA 0 0 0) v11).bind fun x14 =>
      if x14 = 0 then
        (rdx (MS_13 4) 10 v11).bind fun x15 =>
        (rdx (MS_13 1) 10 v11).bind fun x16 =>
        (ixx 10 v11).bind fun j17 =>
        (f_M_isLawful (u2 MA 0 0 0) ((u2 MS_13 4 j17 x16) 4)).bind fun x18 =>
        if x18 ≠ 0 then
          some (.inl ((v9 &&& ((a_shl 1 v11) ^^^ (-1))), 1, (v11 + 1), (u2 MS_13 4 j17 x16)))
        else
          (ixx 10 v11).bind fun j19 =>
          some (.inl (v9, v10, (v11 + 1), (u2 (u2 MS_13 4 j17 x16) 4 j19 x15)))
      else
        some (.inl (v9, v10, (v11 + 1), MS_13))
def f_M_knot_l26 (MA : (Nat → Nat → Int32)) (v4 : Int32) (v5 : Int32) (MS_8 : (Nat → Nat → Int32)) : Option ((Int32 × Int32 × (Nat → Nat → Int32)) ⊕ (Int32 × (Nat → Nat → Int32))) :=
  if v5 = 0 then
    some (.inr (v4, MS_8))
  else
    (loopN (fun q => f_M_knot_l34 MA q.1 q.2.1 q.2.2.1 q.2.2.2) a_F (v4, 0, 0, MS_8)).bind fun p6_ =>
    some (.inl (p6_.1, p6_.2.1, p6_.2.2))
def f_M_knot (MA : (Nat → Nat → Int32)) (MS : (Nat → Nat → Int32)) : Option (Int32 × (Nat → Nat → Int32) × (Nat → Nat → Int32)) :=
  (f_M_apartNow (u2 MA 0 0 0) MS).bind fun c1 =>
  (cpM ((u2 MA 0 0 0) 7) 10 (c1.2 4) 10 10).bind fun x3 =>
  (loopN (fun q => f_M_knot_l26 MA q.1 q.2.1 q.2.2) a_F (c1.1, 1, (u1 c1.2 4 x3))).bind fun p7_ =>
  some (p7_.1, (u2 MA 0 0 0), p7_.2)
def f_M_missed_l68 (MA : (Nat → Nat → Int32)) (x7 : Int32) (p1 : Int32) (x8 : Int32) (v11 : Int32) (v12 : Int32) : Option ((Int32 × Int32) ⊕ (Int32)) :=
  if (MA 0 25) ≤ v12 then
    some (.inr v11)
  else
    (rdx (MA 5) 60 ((6 * x7) + 2)).bind fun x13 =>
    (((
      (((
        if ((a_shr x13 v12) &&& 1) ≠ 1 then
          some (.inl ())
        else
          (rdx (MA 4) 24 ((3 * v12) + 1)).bind fun x14 =>
          if (p1 + x14) ≤ (x8 / 3) then
            some (.inl ())
          else
            some (.inr (a_shl 1 v12))) : Option ((Unit) ⊕ (Int32)))).bind fun b7 => sumE b7 (fun _ =>
      some 0) (fun q => some q)) : Option (Int32))).bind fun v15 =>
    some (.inl ((v11 ||| v15), (v12 + 1)))
def f_M_missed_l8 (MA : (Nat → Nat → Int32)) (MS_1 : (Nat → Nat → Int32)) (p1 : Int32) (v2 : Int32) (v3 : Int32) : Option ((Int32 × Int32) ⊕ (Int32)) :=
  if (MA 0 33) ≤ v3 then
    some (.inr v2)
  else
    (rdx (MA 9) 20 (2 * v3)).bind fun x7 =>
    (rdx (MS_1 1) 10 x7).bind fun x8 =>
    (rdx (MA 7) 10 x7).bind fun x9 =>
    (((
      if x9 = (-1) then
        some (.inl ())
      else
        (rdx (MA 7) 10 x7).bind fun x10 =>
        if (x10 / 3) ≠ (x8 / 3) then
          some (.inl ())
        else
          some (.inr (.inl (v2, (v3 + 1))))) : Option ((Unit) ⊕ ((Int32 × Int32) ⊕ (Int32))))).bind fun b9 => sumE b9 (fun _ =>
    (loopN (fun q => f_M_missed_l68 MA x7 p1 x8 q.1 q.2) a_F (v2, 0)).bind fun v16 =>
    some (.inl (v16, (v3 + 1)))) (fun q => some q)
def f_M_missed (MA : (Nat → Nat → Int32)) (MS : (Nat → Nat → Int32)) (p1 : Int32) : Option (Int32 × (Nat → Nat → Int32)) :=
  (f_M_findGoals MA MS).bind fun MS_1 =>
  (loopN (fun q => f_M_missed_l8 MA MS_1 p1 q.1 q.2) a_F (0, 0)).bind fun v18 =>
  some (v18, MS_1)
def f_M_news (MA : (Nat → Nat → Int32)) (MS : (Nat → Nat → Int32)) (p1 : Int32) (p2 : Int32) : Option (Int32 × (Nat → Nat → Int32) × (Nat → Nat → Int32)) :=
  (f_M_within p1 0 (((u2 MA 0 0 0) 0 23) - 1)).bind fun x1 =>
  (((
    (((
      if x1 = 0 then
        some (.inl ())
      else
        (f_M_within p2 0 1).bind fun x2 =>
        if x2 = 0 then
          some (.inl ())
        else
          some (.inr 1)) : Option ((Unit) ⊕ (Int32)))).bind fun b5 => sumE b5 (fun _ =>
    some 0) (fun q => some q)) : Option (Int32))).bind fun v3 =>
  (f_M_may (u2 MA 0 0 0) v3 1 1).bind fun c6 =>
  if c6.1 ≠ 0 then
    if p2 ≠ 0 then
      (f_M_missed c6.2 MS p1).bind fun c7 =>
      some (c7.1, c6.2, c7.2)
    else
      (f_M_missed c6.2 MS p1).bind fun c8 =>
      (f_M_ones c8.1).bind fun x10 =>
      some (x10, c6.2, c8.2)
  else
    some (0, c6.2, MS)
def f_M_latest_l12 (MA : (Nat → Nat → Int32)) (v1 : Int32) (MS_2 : (Nat → Nat → Int32)) : Option ((Int32 × (Nat → Nat → Int32)) ⊕ (((Nat → Nat → Int32)) ⊕ (Int32 × (Nat → Nat → Int32) × (Nat → Nat → Int32)))) :=
  if v1 < 0 then
    some (.inr (.inl MS_2))
  else
    (f_M_missed (u2 MA 0 0 0) MS_2 v1).bind fun c2 =>
    if c2.1 ≠ 0 then
      some (.inl ((v1 + (-1)), c2.2))
    else
      some (.inr (.inr (v1, (u2 MA 0 0 0), c2.2)))
def f_M_latest (MA : (Nat → Nat → Int32)) (MS : (Nat → Nat → Int32)) : Option (Int32 × (Nat → Nat → Int32) × (Nat → Nat → Int32)) :=
  (loopN (fun q => f_M_latest_l12 MA q.1 q.2) a_F ((((u2 MA 0 0 0) 0 23) - 1), MS)).bind fun b4 => sumE b4 (fun MS_6 =>
  some ((-1), (u2 MA 0 0 0), MS_6)) (fun q => some q)
def f_M_follow_l39 (MA : (Nat → Nat → Int32)) (x1 : Int32) (v4 : Int32) (v5 : Int32) : Option ((Int32 × Int32) ⊕ (Int32)) :=
  if ((u2 MA 0 0 0) 0 26) ≤ v5 then
    some (.inr v4)
  else
    if v4 = 0 then
      some (.inl (0, (v5 + 1)))
    else
      (((
        if ((a_shr x1 v5) &&& 1) = 0 then
          some (.inl ())
        else
          (f_M_isFixed (u2 MA 0 0 0) v5).bind fun x6 =>
          if x6 ≠ 0 then
            some (.inr (.inl (0, (v5 + 1))))
          else
            some (.inl ())) : Option ((Unit) ⊕ ((Int32 × Int32) ⊕ (Int32))))).bind fun b6 => sumE b6 (fun _ =>
      some (.inl (1, (v5 + 1)))) (fun q => some q)
def f_M_follow_l91 (x1 : Int32) (MS_2 : (Nat → Nat → Int32)) (v10 : Int32) (MA_11 : (Nat → Nat → Int32)) : Option ((Int32 × (Nat → Nat → Int32)) ⊕ ((Nat → Nat → Int32))) :=
  if (MA_11 0 26) ≤ v10 then
    some (.inr MA_11)
  else
    if ((a_shr x1 v10) &&& 1) ≠ 1 then
      some (.inl ((v10 + 1), MA_11))
    else
      (rdx (MS_2 1) 10 v10).bind fun x12 =>
      (f_M_goesTo MA_11 v10 x12).bind fun MA_13 =>
      some (.inl ((v10 + 1), MA_13))
def f_M_follow (MA : (Nat → Nat → Int32)) (MS : (Nat → Nat → Int32)) : Option (Int32 × (Nat → Nat → Int32) × (Nat → Nat → Int32)) :=
  (f_M_apartNow (u2 MA 0 0 0) MS).bind fun c1 =>
  if c1.1 ≠ 0 then
    if ((u2 MA 0 0 0) 0 43) ≠ 30 then
      (f_M_isLawful (u2 MA 0 0 0) (c1.2 1)).bind fun x3 =>
      (loopN (fun q => f_M_follow_l39 MA c1.1 q.1 q.2) a_F (x3, 0)).bind fun v7 =>
      if v7 ≠ 0 then
        (f_M_keepsAct (u2 MA 0 0 0)).bind fun MA_9 =>
        (loopN (fun q => f_M_follow_l91 c1.1 c1.2 q.1 q.2) a_F (0, MA_9)).bind fun MA_15 =>
        (f_M_ones c1.1).bind fun x16 =>
        some (x16, MA_15, c1.2)
      else
        some ((-1), (u2 MA 0 0 0), c1.2)
    else
      some ((-64), (u2 MA 0 0 0), c1.2)
  else
    some (0, (u2 MA 0 0 0), c1.2)
def f_M_pair_l58 (MA_7 : (Nat → Nat → Int32)) (p1 : Int32) (p2 : Int32) (v8 : Int32) (v9 : Int32) : Option ((Int32 × Int32) ⊕ (Int32)) :=
  if (MA_7 0 26) ≤ v9 then
    some (.inr v8)
  else
    (rdx (MA_7 7) 10 v9).bind fun x10 =>
    (((
      if x10 = (-1) then
        some (.inl ())
      else
        (rdx (MA_7 5) 60 ((6 * v9) + 2)).bind fun x11 =>
        if (x11 &&& ((a_shl 1 p1) ||| (a_shl 1 p2))) ≠ ((a_shl 1 p1) ||| (a_shl 1 p2)) then
          some (.inl ())
        else
          some (.inr (.inl ((v8 + 1), (v9 + 1))))) : Option ((Unit) ⊕ ((Int32 × Int32) ⊕ (Int32))))).bind fun b7 => sumE b7 (fun _ =>
    some (.inl ((v8 + 0), (v9 + 1)))) (fun q => some q)
def f_M_pair (MA : (Nat → Nat → Int32)) (p1 : Int32) (p2 : Int32) : Option (Int32 × (Nat → Nat → Int32)) :=
  (f_M_isPerson (u2 MA 0 0 0) p1 1).bind fun c1 =>
  if c1.1 = 0 then
    some (0, c1.2)
  else
    (f_M_isPerson c1.2 p2 1).bind fun c2 =>
    if c2.1 = 0 then
      some (0, c2.2)
    else
      (((
        if p1 = p2 then
          some 0
        else
          some 1) : Option (Int32))).bind fun v5 =>
      (f_M_may c2.2 v5 2 1).bind fun c4 =>
      if c4.1 ≠ 0 then
        (loopN (fun q => f_M_pair_l58 c4.2 p1 p2 q.1 q.2) a_F (0, 0)).bind fun v12 =>
        some (v12, c4.2)
      else
        some (0, c4.2)
def f_M_isEnough_l2 (MS : (Nat → Nat → Int32)) (v1 : Int32) : Option ((Int32) ⊕ ((Unit) ⊕ (Int32))) :=
  if 8 ≤ v1 then
    some (.inr (.inl ()))
  else
    (rdx (MS 7) 8 v1).bind fun x2 =>
    (rdx (MS 8) 8 v1).bind fun x3 =>
    if x2 = x3 then
      some (.inl (v1 + 1))
    else
      some (.inr (.inr (zb 0)))
def f_M_isEnough (MS : (Nat → Nat → Int32)) : Option (Int32) :=
  (loopN (fun q => f_M_isEnough_l2 MS q) a_F 0).bind fun b3 => sumE b3 (fun _ =>
  some (zb 1)) (fun q => some q)
def f_M_findMeets_l15 (MA : (Nat → Nat → Int32)) (v1 : Int32) (p1 : Int32) (v5 : Int32) (MS_6 : (Nat → Nat → Int32)) : Option ((Int32 × (Nat → Nat → Int32)) ⊕ ((Nat → Nat → Int32))) :=
  if (MA 0 26) ≤ v5 then
    some (.inr MS_6)
  else
    (rdx (MS_6 7) 8 v1).bind fun x7 =>
    (rdx (MA 7) 10 v5).bind fun x8 =>
    (((
      (((
        if x8 = (-1) then
          some (.inl ())
        else
          if ((a_shr p1 v5) &&& 1) ≠ 0 then
            some (.inl ())
          else
            (rdx (MA 5) 60 ((6 * v5) + 2)).bind fun x9 =>
            if ((a_shr x9 v1) &&& 1) ≠ 1 then
              some (.inl ())
            else
              (rdx (MA 5) 60 ((6 * v5) + 2)).bind fun x10 =>
              some (.inr (x10 &&& ((a_shl 1 v1) ^^^ (-1))))) : Option ((Unit) ⊕ (Int32)))).bind fun b5 => sumE b5 (fun _ =>
      some 0) (fun q => some q)) : Option (Int32))).bind fun v11 =>
    (ixx 8 v1).bind fun j12 =>
    some (.inl ((v5 + 1), (u2 MS_6 7 j12 (x7 ||| v11))))
def f_M_findMeets_l2 (MA : (Nat → Nat → Int32)) (p1 : Int32) (v1 : Int32) (MS_3 : (Nat → Nat → Int32)) : Option ((Int32 × (Nat → Nat → Int32)) ⊕ ((Nat → Nat → Int32))) :=
  if 8 ≤ v1 then
    some (.inr MS_3)
  else
    (ixx 8 v1).bind fun j4 =>
    (loopN (fun q => f_M_findMeets_l15 MA v1 p1 q.1 q.2) a_F (0, (u2 MS_3 7 j4 0))).bind fun MS_14 =>
    some (.inl ((v1 + 1), MS_14))
def f_M_findMeets (MA : (Nat → Nat → Int32)) (MS : (Nat → Nat → Int32)) (p1 : Int32) : Option ((Nat → Nat → Int32)) :=
  (loopN (fun q => f_M_findMeets_l2 MA p1 q.1 q.2) a_F (0, MS)).bind fun MS_17 =>
  some MS_17
def f_M_findMeets_2_l15 (MA : (Nat → Nat → Int32)) (v1 : Int32) (p1 : Int32) (v5 : Int32) (MS_6 : (Nat → Nat → Int32)) : Option ((Int32 × (Nat → Nat → Int32)) ⊕ ((Nat → Nat → Int32))) :=
  if (MA 0 26) ≤ v5 then
    some (.inr MS_6)
  else
    (rdx (MS_6 8) 8 v1).bind fun x7 =>
    (rdx (MA 7) 10 v5).bind fun x8 =>
    (((
      (((
        if x8 = (-1) then
          some (.inl ())
        else
          if ((a_shr p1 v5) &&& 1) ≠ 0 then
            some (.inl ())
          else
            (rdx (MA 5) 60 ((6 * v5) + 2)).bind fun x9 =>
            if ((a_shr x9 v1) &&& 1) ≠ 1 then
              some (.inl ())
            else
              (rdx (MA 5) 60 ((6 * v5) + 2)).bind fun x10 =>
              some (.inr (x10 &&& ((a_shl 1 v1) ^^^ (-1))))) : Option ((Unit) ⊕ (Int32)))).bind fun b5 => sumE b5 (fun _ =>
      some 0) (fun q => some q)) : Option (Int32))).bind fun v11 =>
    (ixx 8 v1).bind fun j12 =>
    some (.inl ((v5 + 1), (u2 MS_6 8 j12 (x7 ||| v11))))
def f_M_findMeets_2_l2 (MA : (Nat → Nat → Int32)) (p1 : Int32) (v1 : Int32) (MS_3 : (Nat → Nat → Int32)) : Option ((Int32 × (Nat → Nat → Int32)) ⊕ ((Nat → Nat → Int32))) :=
  if 8 ≤ v1 then
    some (.inr MS_3)
  else
    (ixx 8 v1).bind fun j4 =>
    (loopN (fun q => f_M_findMeets_2_l15 MA v1 p1 q.1 q.2) a_F (0, (u2 MS_3 8 j4 0))).bind fun MS_14 =>
    some (.inl ((v1 + 1), MS_14))
def f_M_findMeets_2 (MA : (Nat → Nat → Int32)) (MS : (Nat → Nat → Int32)) (p1 : Int32) : Option ((Nat → Nat → Int32)) :=
  (loopN (fun q => f_M_findMeets_2_l2 MA p1 q.1 q.2) a_F (0, MS)).bind fun MS_17 =>
  some MS_17
def f_M_drops_l18 (MA : (Nat → Nat → Int32)) (v2 : Int32) (v3 : Int32) (MS_4 : (Nat → Nat → Int32)) : Option ((Int32 × Int32 × (Nat → Nat → Int32)) ⊕ (Int32 × (Nat → Nat → Int32))) :=
  if (a_shl 1 ((u2 MA 0 0 0) 0 26)) ≤ v3 then
    some (.inr (v2, MS_4))
  else
    (f_M_ones v3).bind fun x5 =>
    (f_M_ones v2).bind fun x6 =>
    if x5 ≤ x6 then
      some (.inl (v2, (v3 + 1), MS_4))
    else
      (f_M_canMove (u2 MA 0 0 0) v3).bind fun x7 =>
      if x7 ≠ 0 then
        (f_M_findMeets_2 (u2 MA 0 0 0) MS_4 v3).bind fun MS_8 =>
        (f_M_isEnough MS_8).bind fun x9 =>
        if x9 = 0 then
          some (.inl (v2, (v3 + 1), MS_8))
        else
          some (.inl (v3, (v3 + 1), MS_8))
      else
        some (.inl (v2, (v3 + 1), MS_4))
def f_M_drops (MA : (Nat → Nat → Int32)) (MS : (Nat → Nat → Int32)) : Option (Int32 × (Nat → Nat → Int32) × (Nat → Nat → Int32)) :=
  (f_M_findMeets (u2 MA 0 0 0) MS 0).bind fun MS_1 =>
  (loopN (fun q => f_M_drops_l18 MA q.1 q.2.1 q.2.2) a_F (0, 1, MS_1)).bind fun p8_ =>
  some (p8_.1, (u2 MA 0 0 0), p8_.2)
def f_M_gapOf_l11 (MA : (Nat → Nat → Int32)) (p1 : Int32) (v1 : Int32) (v2 : Int32) : Option ((Int32 × Int32) ⊕ (Int32)) :=
  if (MA 0 25) ≤ v2 then
    some (.inr v1)
  else
    (((
      if ((a_shr p1 v2) &&& 1) ≠ 1 then
        some (-1)
      else
        (rdx (MA 4) 24 ((3 * v2) + 2)).bind fun x3 =>
        some (x3 ^^^ (-1))) : Option (Int32))).bind fun v4 =>
    some (.inl ((v1 &&& v4), (v2 + 1)))
def f_M_gapOf_l55 (MA : (Nat → Nat → Int32)) (p1 : Int32) (v7 : Int32) (v8 : Int32) : Option ((Int32 × Int32) ⊕ (Int32)) :=
  if (MA 0 26) ≤ v8 then
    some (.inr v7)
  else
    (rdx (MA 7) 10 v8).bind fun x9 =>
    if x9 = (-1) then
      some (.inl (v7, (v8 + 1)))
    else
      (rdx (MA 5) 60 ((6 * v8) + 2)).bind fun x10 =>
      if (x10 &&& p1) = 0 then
        some (.inl (v7, (v8 + 1)))
      else
        (rdx (MA 7) 10 v8).bind fun x11 =>
        some (.inl ((v7 &&& ((a_shl 1 (x11 / 3)) ^^^ (-1))), (v8 + 1)))
def f_M_gapOf (MA : (Nat → Nat → Int32)) (p1 : Int32) : Option (Int32) :=
  (loopN (fun q => f_M_gapOf_l11 MA p1 q.1 q.2) a_F (((a_shl 1 (MA 0 23)) - 1), 0)).bind fun v5 =>
  (loopN (fun q => f_M_gapOf_l55 MA p1 q.1 q.2) a_F (v5, 0)).bind fun v12 =>
  some v12
def f_M_arePeople (MA : (Nat → Nat → Int32)) (p1 : Int32) (p2 : Int32) : Option (Int32 × (Nat → Nat → Int32)) :=
  (f_M_within p1 0 ((a_shl 1 (MA 0 25)) - 1)).bind fun x1 =>
  (((
    (((
      if x1 = 0 then
        some (.inl ())
      else
        if p2 = 0 then
          some (.inl ())
        else
          some (.inr 1)) : Option ((Unit) ⊕ (Int32)))).bind fun b4 => sumE b4 (fun _ =>
    some 0) (fun q => some q)) : Option (Int32))).bind fun v2 =>
  (f_M_may MA v2 1 1).bind fun c5 =>
  some ((zb c5.1), c5.2)
def f_M_gap (MA : (Nat → Nat → Int32)) (p1 : Int32) : Option (Int32 × (Nat → Nat → Int32)) :=
  (f_M_arePeople (u2 MA 0 0 0) p1 1).bind fun c1 =>
  if c1.1 ≠ 0 then
    (f_M_gapOf c1.2 p1).bind fun x3 =>
    some (x3, c1.2)
  else
    some (0, c1.2)
def f_M_together_l38 (MA_3 : (Nat → Nat → Int32)) (p2 : Int32) (x4 : Int32) (v5 : Int32) : Option ((Int32) ⊕ ((Unit) ⊕ (Int32 × (Nat → Nat → Int32)))) :=
  if (MA_3 0 23) < (v5 + p2) then
    some (.inr (.inl ()))
  else
    if ((a_shr x4 v5) &&& ((a_shl 1 p2) - 1)) ≠ ((a_shl 1 p2) - 1) then
      some (.inl (v5 + 1))
    else
      some (.inr (.inr (v5, MA_3)))
def f_M_together (MA : (Nat → Nat → Int32)) (p1 : Int32) (p2 : Int32) : Option (Int32 × (Nat → Nat → Int32)) :=
  (f_M_within p2 1 10).bind fun x1 =>
  (f_M_arePeople (u2 MA 0 0 0) p1 x1).bind fun c2 =>
  if c2.1 ≠ 0 then
    (f_M_gapOf c2.2 p1).bind fun x4 =>
    (loopN (fun q => f_M_together_l38 c2.2 p2 x4 q) a_F 0).bind fun b6 => sumE b6 (fun _ =>
    some ((-1), c2.2)) (fun q => some q)
  else
    some (0, c2.2)
def f_M_fair_l29 (MA_3 : (Nat → Nat → Int32)) (v4 : Int32) (v5 : Int32) (v6 : Int32) : Option ((Int32 × Int32 × Int32) ⊕ (Int32 × Int32)) :=
  if (MA_3 0 25) ≤ v6 then
    some (.inr (v4, v5))
  else
    (((
      (((
        if v6 = 0 then
          some (.inl ())
        else
          (f_M_bornBy MA_3 v6).bind fun x7 =>
          if v5 ≤ x7 then
            some (.inr v5)
          else
            some (.inl ())) : Option ((Unit) ⊕ (Int32)))).bind fun b8 => sumE b8 (fun _ =>
      (f_M_bornBy MA_3 v6).bind fun x8 =>
      some x8) (fun q => some q)) : Option (Int32))).bind fun v9 =>
    if v4 = (-1) then
      some (.inl (v6, v9, (v6 + 1)))
    else
      (f_M_bornBy MA_3 v6).bind fun x10 =>
      (f_M_bornBy MA_3 v4).bind fun x11 =>
      if x10 ≤ x11 then
        some (.inl (v4, v9, (v6 + 1)))
      else
        some (.inl (v6, v9, (v6 + 1)))
def f_M_fair (MA : (Nat → Nat → Int32)) (p1 : Int32) : Option (Int32 × (Nat → Nat → Int32)) :=
  (f_M_within p1 0 1).bind fun x1 =>
  (f_M_may (u2 MA 0 0 0) x1 1 1).bind fun c2 =>
  if c2.1 ≠ 0 then
    (loopN (fun q => f_M_fair_l29 c2.2 q.1 q.2.1 q.2.2) a_F ((-1), 0, 0)).bind fun p11_ =>
    if p1 ≠ 1 then
      if p11_.1 ≠ (-1) then
        (f_M_bornBy c2.2 p11_.1).bind fun x15 =>
        some ((x15 - p11_.2), c2.2)
      else
        some (0, c2.2)
    else
      some (p11_.1, c2.2)
  else
    some (0, c2.2)
def f_M_yields (MA : (Nat → Nat → Int32)) (MS : (Nat → Nat → Int32)) (p1 : Int32) (p2 : Int32) : Option (Int32 × (Nat → Nat → Int32) × (Nat → Nat → Int32)) :=
  (f_M_isMeeting (u2 MA 0 0 0) p1 1).bind fun c1 =>
  if c1.1 = 0 then
    some ((zb 0), c1.2, MS)
  else
    (f_M_isMeeting c1.2 p2 1).bind fun c2 =>
    if c2.1 = 0 then
      some ((zb 0), c2.2, MS)
    else
      (((
        (((
          if p1 = p2 then
            some (.inl ())
          else
            (rdx (c2.2 7) 10 p1).bind fun x5 =>
            if x5 = (-1) then
              some (.inl ())
            else
              some (.inr 1)) : Option ((Unit) ⊕ (Int32)))).bind fun b5 => sumE b5 (fun _ =>
        some 0) (fun q => some q)) : Option (Int32))).bind fun v6 =>
      (f_M_may c2.2 v6 2 1).bind fun c6 =>
      if c6.1 ≠ 0 then
        (rdx (c6.2 7) 10 p1).bind fun x9 =>
        (f_M_yieldsTo c6.2 MS p1 p2 x9 0).bind fun c7 =>
        some ((zb c7.1), c6.2, c7.2)
      else
        some ((zb 0), c6.2, MS)
def f_M_inWay_l5 (MA : (Nat → Nat → Int32)) (MS : (Nat → Nat → Int32)) (p1 : Int32) (p2 : Int32) (v1 : Int32) (v2 : Int32) : Option ((Int32 × Int32) ⊕ (Int32)) :=
  if (MA 0 26) ≤ v2 then
    some (.inr v1)
  else
    (rdx (MS 4) 10 v2).bind fun x3 =>
    (f_M_clashWith MA p1 p2 v2 x3).bind fun x4 =>
    (((
      if x4 = 0 then
        some 0
      else
        some (a_shl 1 v2)) : Option (Int32))).bind fun v5 =>
    some (.inl ((v1 ||| v5), (v2 + 1)))
def f_M_inWay (MA : (Nat → Nat → Int32)) (MS : (Nat → Nat → Int32)) (p1 : Int32) (p2 : Int32) : Option (Int32) :=
  (loopN (fun q => f_M_inWay_l5 MA MS p1 p2 q.1 q.2) a_F (0, 0)).bind fun v6 =>
  some v6
def f_M_areFree_l2 (MA : (Nat → Nat → Int32)) (p1 : Int32) (v1 : Int32) : Option ((Int32) ⊕ ((Unit) ⊕ (Int32))) :=
  if (MA 0 26) ≤ v1 then
    some (.inr (.inl ()))
  else
    if ((a_shr p1 v1) &&& 1) ≠ 1 then
      some (.inl (v1 + 1))
    else
      (f_M_isFixed MA v1).bind fun x2 =>
      if x2 = 0 then
        some (.inl (v1 + 1))
      else
        some (.inr (.inr (zb 0)))
def f_M_areFree (MA : (Nat → Nat → Int32)) (p1 : Int32) : Option (Int32) :=
  (loopN (fun q => f_M_areFree_l2 MA p1 q) a_F 0).bind fun b4 => sumE b4 (fun _ =>
  some (zb 1)) (fun q => some q)
def f_M_takes_l10 (MA : (Nat → Nat → Int32)) (x1 : Int32) (v2 : Int32) (MS_3 : (Nat → Nat → Int32)) : Option ((Int32 × (Nat → Nat → Int32)) ⊕ ((Nat → Nat → Int32))) :=
  if (MA 0 26) ≤ v2 then
    some (.inr MS_3)
  else
    if ((a_shr x1 v2) &&& 1) ≠ 0 then
      (ixx 10 v2).bind fun j4 =>
      (ixx 1100 ((u2 MS_3 4 j4 (-1)) 0 57)).bind fun j5 =>
      some (.inl ((v2 + 1), (u2 (u2 (u2 MS_3 4 j4 (-1)) 9 j5 v2) 0 57 (((u2 (u2 MS_3 4 j4 (-1)) 9 j5 v2) 0 57) + 1))))
    else
      some (.inl ((v2 + 1), MS_3))
def f_M_takes (MA : (Nat → Nat → Int32)) (MS : (Nat → Nat → Int32)) (p1 : Int32) (p2 : Int32) : Option ((Nat → Nat → Int32)) :=
  (f_M_inWay MA MS p1 p2).bind fun x1 =>
  (loopN (fun q => f_M_takes_l10 MA x1 q.1 q.2) a_F (0, MS)).bind fun MS_7 =>
  (ixx 10 p1).bind fun j8 =>
  some (u2 MS_7 4 j8 p2)
def f_M_allYield_l3 (MA : (Nat → Nat → Int32)) (p1 : Int32) (p2 : Int32) (p3 : Int32) (v1 : Int32) (MS_2 : (Nat → Nat → Int32)) : Option ((Int32 × (Nat → Nat → Int32)) ⊕ (((Nat → Nat → Int32)) ⊕ (Int32 × (Nat → Nat → Int32)))) :=
  if (MA 0 26) ≤ v1 then
    some (.inr (.inl MS_2))
  else
    if ((a_shr p1 v1) &&& 1) ≠ 1 then
      some (.inl ((v1 + 1), MS_2))
    else
      (f_M_yieldsTo MA MS_2 v1 p2 p3 (MS_2 0 58)).bind fun c2 =>
      if c2.1 ≠ 0 then
        some (.inl ((v1 + 1), c2.2))
      else
        some (.inr (.inr ((zb 0), c2.2)))
def f_M_allYield (MA : (Nat → Nat → Int32)) (MS : (Nat → Nat → Int32)) (p1 : Int32) (p2 : Int32) (p3 : Int32) : Option (Int32 × (Nat → Nat → Int32)) :=
  (loopN (fun q => f_M_allYield_l3 MA p1 p2 p3 q.1 q.2) a_F (0, MS)).bind fun b4 => sumE b4 (fun MS_6 =>
  some ((zb 1), MS_6)) (fun q => some q)
def f_M_looks_l2 (MA : (Nat → Nat → Int32)) (p1 : Int32) (v1 : Int32) (MS_2 : (Nat → Nat → Int32)) : Option ((Int32 × (Nat → Nat → Int32)) ⊕ (((Nat → Nat → Int32)) ⊕ ((Nat → Nat → Int32)))) :=
  if 30 ≤ v1 then
    some (.inr (.inl MS_2))
  else
    (f_M_isThere MA v1).bind fun x3 =>
    if x3 = 0 then
      some (.inl ((v1 + 1), MS_2))
    else
      (f_M_clashOf MA p1 v1 (MS_2 4)).bind fun x4 =>
      if x4 = 0 then
        (ixx 10 p1).bind fun j5 =>
        some (.inr (.inr (u2 MS_2 4 j5 v1)))
      else
        some (.inl ((v1 + 1), MS_2))
def f_M_looks_l48 (MA : (Nat → Nat → Int32)) (p1 : Int32) (v8 : Int32) (MS_10 : (Nat → Nat → Int32)) : Option ((Int32 × (Nat → Nat → Int32)) ⊕ (((Nat → Nat → Int32)) ⊕ ((Nat → Nat → Int32)))) :=
  if 30 ≤ v8 then
    some (.inr (.inl MS_10))
  else
    (f_M_isThere MA v8).bind fun x11 =>
    if x11 = 0 then
      some (.inl ((v8 + 1), MS_10))
    else
      (f_M_ownClash MA p1 v8).bind fun x12 =>
      if x12 = 0 then
        (f_M_inWay MA MS_10 p1 v8).bind fun x13 =>
        (f_M_areFree MA x13).bind fun x14 =>
        if x14 = 0 then
          some (.inl ((v8 + 1), MS_10))
        else
          (f_M_allYield MA MS_10 x13 p1 v8).bind fun c10 =>
          if c10.1 ≠ 0 then
            (f_M_takes MA c10.2 p1 v8).bind fun MS_17 =>
            some (.inr (.inr MS_17))
          else
            some (.inl ((v8 + 1), c10.2))
      else
        some (.inl ((v8 + 1), MS_10))
def f_M_looks (MA : (Nat → Nat → Int32)) (MS : (Nat → Nat → Int32)) (p1 : Int32) : Option ((Nat → Nat → Int32)) :=
  (loopN (fun q => f_M_looks_l2 MA p1 q.1 q.2) a_F (0, MS)).bind fun b14 => sumE b14 (fun MS_7 =>
  (loopN (fun q => f_M_looks_l48 MA p1 q.1 q.2) a_F (0, MS_7)).bind fun b13 => sumE b13 (fun MS_20 =>
  some MS_20) (fun q => some q)) (fun q => some q)
def f_M_pushesBy_l76 (MA : (Nat → Nat → Int32)) (MS_8 : (Nat → Nat → Int32)) : Option (((Nat → Nat → Int32)) ⊕ ((Nat → Nat → Int32))) :=
  if (MS_8 0 57) ≤ (MS_8 0 56) then
    some (.inr MS_8)
  else
    if 100 ≤ (MS_8 0 58) then
      some (.inr MS_8)
    else
      (rdx (MS_8 9) 1100 (MS_8 0 56)).bind fun x9 =>
      (f_M_looks MA MS_8 x9).bind fun MS_10 =>
      some (.inl (u2 (u2 MS_10 0 56 ((MS_10 0 56) + 1)) 0 58 (((u2 MS_10 0 56 ((MS_10 0 56) + 1)) 0 58) + 1)))
def f_M_pushesBy (MA : (Nat → Nat → Int32)) (MS : (Nat → Nat → Int32)) (p1 : Int32) (p2 : Int32) : Option (Int32 × (Nat → Nat → Int32)) :=
  (cpM (MA 7) 10 (MS 4) 10 10).bind fun x1 =>
  (f_M_isFixed MA p1).bind fun x2 =>
  if x2 ≠ 0 then
    some ((zb 0), (u1 MS 4 x1))
  else
    (f_M_ownClash MA p1 p2).bind fun x3 =>
    if x3 = 0 then
      (ixx 10 p1).bind fun j4 =>
      (f_M_inWay MA (u2 (u1 MS 4 x1) 4 j4 (-1)) p1 p2).bind fun x5 =>
      (f_M_areFree MA x5).bind fun x6 =>
      if x6 ≠ 0 then
        (f_M_takes MA (u2 (u2 (u2 (u2 (u1 MS 4 x1) 4 j4 (-1)) 0 56 0) 0 57 0) 0 58 0) p1 p2).bind fun MS_7 =>
        (loopN (fun q => f_M_pushesBy_l76 MA q) a_F MS_7).bind fun MS_11 =>
        some ((zb 1), MS_11)
      else
        some ((zb 0), (u2 (u1 MS 4 x1) 4 j4 (-1)))
    else
      some ((zb 0), (u1 MS 4 x1))
def f_M_pushes_l87 (MA_9 : (Nat → Nat → Int32)) (MS_11 : (Nat → Nat → Int32)) (v12 : Int32) (v13 : Int32) (v14 : Int32) : Option ((Int32 × Int32 × Int32) ⊕ (Int32 × Int32)) :=
  if (MA_9 0 26) ≤ v14 then
    some (.inr (v12, v13))
  else
    (rdx (MS_11 4) 10 v14).bind fun x15 =>
    (rdx (MA_9 7) 10 v14).bind fun x16 =>
    (((
      if x15 = x16 then
        some 0
      else
        some 1) : Option (Int32))).bind fun v17 =>
    (rdx (MS_11 4) 10 v14).bind fun x18 =>
    (((
      (((
        if x18 ≠ (-1) then
          some (.inl ())
        else
          (rdx (MA_9 7) 10 v14).bind fun x19 =>
          if x19 = (-1) then
            some (.inl ())
          else
            some (.inr (a_shl 1 v14))) : Option ((Unit) ⊕ (Int32)))).bind fun b14 => sumE b14 (fun _ =>
      some 0) (fun q => some q)) : Option (Int32))).bind fun v20 =>
    some (.inl ((v12 + v17), (v13 ||| v20), (v14 + 1)))
def f_M_pushes (MA : (Nat → Nat → Int32)) (MS : (Nat → Nat → Int32)) (p1 : Int32) (p2 : Int32) (p3 : Int32) (p4 : Int32) : Option (Int32 × (Nat → Nat → Int32) × (Nat → Nat → Int32)) :=
  (f_M_isMeeting (u2 MA 0 0 0) p1 1).bind fun c1 =>
  if c1.1 = 0 then
    some (0, c1.2, MS)
  else
    (f_M_isRoom c1.2 p3 1).bind fun c2 =>
    if c2.1 = 0 then
      some (0, c2.2, MS)
    else
      (f_M_within p2 0 ((c2.2 0 23) - 1)).bind fun x5 =>
      (((
        (((
          if x5 = 0 then
            some (.inl ())
          else
            (f_M_within p4 0 2).bind fun x6 =>
            if x6 = 0 then
              some (.inl ())
            else
              some (.inr 1)) : Option ((Unit) ⊕ (Int32)))).bind fun b7 => sumE b7 (fun _ =>
        some 0) (fun q => some q)) : Option (Int32))).bind fun v7 =>
      (f_M_may c2.2 v7 2 1).bind fun c8 =>
      if c8.1 ≠ 0 then
        (f_M_pushesBy c8.2 MS p1 ((3 * p2) + p3)).bind fun c9 =>
        if c9.1 ≠ 0 then
          (loopN (fun q => f_M_pushes_l87 c8.2 c9.2 q.1 q.2.1 q.2.2) a_F (0, 0, 0)).bind fun p15_ =>
          if p4 ≠ 0 then
            if p4 ≠ 1 then
              some (p15_.2, c8.2, c9.2)
            else
              some (p15_.1, c8.2, c9.2)
          else
            some ((c9.2 0 58), c8.2, c9.2)
        else
          some ((-1), c8.2, c9.2)
      else
        some (0, c8.2, MS)
def f_M_pushed (MA : (Nat → Nat → Int32)) (MS : (Nat → Nat → Int32)) (p1 : Int32) (p2 : Int32) (p3 : Int32) (p4 : Int32) : Option (Int32 × (Nat → Nat → Int32) × (Nat → Nat → Int32)) :=
  (f_M_isMeeting (u2 MA 0 0 0) p1 1).bind fun c1 =>
  if c1.1 = 0 then
    some (0, c1.2, MS)
  else
    (f_M_isRoom c1.2 p3 1).bind fun c2 =>
    if c2.1 = 0 then
      some (0, c2.2, MS)
    else
      (f_M_isMeeting c2.2 p4 1).bind fun c3 =>
      if c3.1 = 0 then
        some (0, c3.2, MS)
      else
        (f_M_within p2 0 ((c3.2 0 23) - 1)).bind fun x7 =>
        (f_M_may c3.2 x7 2 1).bind fun c5 =>
        if c5.1 ≠ 0 then
          (f_M_pushesBy c5.2 MS p1 ((3 * p2) + p3)).bind fun c6 =>
          if c6.1 ≠ 0 then
            (rdx (c6.2 4) 10 p4).bind fun x12 =>
            (rdx (c6.2 4) 10 p4).bind fun x13 =>
            (((
              if x13 = (-1) then
                some 0
              else
                some 1) : Option (Int32))).bind fun v14 =>
            (f_M_shown x12 v14).bind fun x15 =>
            some (x15, c5.2, c6.2)
          else
            some ((-1), c5.2, c6.2)
        else
          some (0, c5.2, MS)
def f_M_push_l51 (MS_4 : (Nat → Nat → Int32)) (v6 : Int32) (MA_7 : (Nat → Nat → Int32)) : Option ((Int32 × (Nat → Nat → Int32)) ⊕ ((Nat → Nat → Int32))) :=
  if (MA_7 0 26) ≤ v6 then
    some (.inr MA_7)
  else
    (rdx (MS_4 4) 10 v6).bind fun x8 =>
    (rdx (MA_7 7) 10 v6).bind fun x9 =>
    if x8 = x9 then
      some (.inl ((v6 + 1), MA_7))
    else
      (rdx (MS_4 4) 10 v6).bind fun x10 =>
      (f_M_goesTo MA_7 v6 x10).bind fun MA_11 =>
      some (.inl ((v6 + 1), MA_11))
def f_M_push (MA : (Nat → Nat → Int32)) (MS : (Nat → Nat → Int32)) (p1 : Int32) (p2 : Int32) (p3 : Int32) : Option (Int32 × (Nat → Nat → Int32) × (Nat → Nat → Int32)) :=
  (f_M_isPlace (u2 MA 0 0 0) p1 p2 p3).bind fun c1 =>
  if c1.1 ≠ 0 then
    if (c1.2 0 43) ≠ 30 then
      (f_M_pushesBy c1.2 MS p1 ((3 * p2) + p3)).bind fun c2 =>
      if c2.1 ≠ 0 then
        (f_M_keepsAct c1.2).bind fun MA_5 =>
        (loopN (fun q => f_M_push_l51 c2.2 q.1 q.2) a_F (0, MA_5)).bind fun MA_13 =>
        some ((c2.2 0 58), MA_13, c2.2)
      else
        some ((-1), c1.2, c2.2)
    else
      some ((-64), c1.2, MS)
  else
    some (0, c1.2, MS)
def f_M_draws (MS : (Nat → Nat → Int32)) (p1 : Int32) : Option (Int32 × (Nat → Nat → Int32)) :=
  if p1 = 0 then none else
  some ((a_rem ((a_shr ((u2 MS 0 59 (((MS 0 59) * 1103515245) + 12345)) 0 59) 16) &&& 32767) p1), (u2 MS 0 59 (((MS 0 59) * 1103515245) + 12345)))
def f_M_isMovedBy_l34 (p1 : Int32) (p2 : Int32) (v4 : Int32) (MA_5 : (Nat → Nat → Int32)) : Option ((Int32 × (Nat → Nat → Int32)) ⊕ (((Nat → Nat → Int32)) ⊕ (Int32 × (Nat → Nat → Int32)))) :=
  if (MA_5 0 24) ≤ v4 then
    some (.inr (.inl MA_5))
  else
    (f_M_clashOf MA_5 p1 ((3 * p2) + v4) (MA_5 7)).bind fun x6 =>
    if x6 = 0 then
      (f_M_goesTo MA_5 p1 ((3 * p2) + v4)).bind fun MA_7 =>
      some (.inr (.inr ((zb 1), MA_7)))
    else
      some (.inl ((v4 + 1), MA_5))
def f_M_isMovedBy (MA : (Nat → Nat → Int32)) (p1 : Int32) (p2 : Int32) : Option (Int32 × (Nat → Nat → Int32)) :=
  (f_M_isFixed MA p1).bind fun x1 =>
  if x1 ≠ 0 then
    some ((zb 0), MA)
  else
    (rdx (MA 7) 10 p1).bind fun x2 =>
    if x2 = (-1) then
      some ((zb 0), MA)
    else
      (rdx (MA 7) 10 p1).bind fun x3 =>
      if (x3 / 3) ≠ p2 then
        (loopN (fun q => f_M_isMovedBy_l34 p1 p2 q.1 q.2) a_F (0, MA)).bind fun b6 => sumE b6 (fun MA_9 =>
        some ((zb 0), MA_9)) (fun q => some q)
      else
        some ((zb 0), MA)
def f_M_weekGoes_l20 (p2 : Int32) (v1 : Int32) (v2 : Int32) (MA_6 : (Nat → Nat → Int32)) (MS_7 : (Nat → Nat → Int32)) : Option ((Int32 × Int32 × (Nat → Nat → Int32) × (Nat → Nat → Int32)) ⊕ ((Nat → Nat → Int32) × (Nat → Nat → Int32))) :=
  if p2 ≤ v2 then
    some (.inr (MA_6, MS_7))
  else
    (((
      if (MA_6 0 26) ≤ 0 then
        some (0, MA_6, MS_7)
      else
        (f_M_draws MS_7 (MA_6 0 26)).bind fun c3 =>
        (f_M_draws c3.2 (MA_6 0 23)).bind fun c4 =>
        (f_M_isMovedBy MA_6 c3.1 c4.1).bind fun c5 =>
        some (c5.1, c5.2, c4.2)) : Option (Int32 × (Nat → Nat → Int32) × (Nat → Nat → Int32)))).bind fun t2 =>
    (((
      if t2.1 = 0 then
        some 0
      else
        some 1) : Option (Int32))).bind fun v19 =>
    (((
      if t2.1 = 0 then
        some (v1 + 1)
      else
        some 0) : Option (Int32))).bind fun v20 =>
    (((
      if v20 ≤ ((u2 t2.2.2 0 60 ((t2.2.2 0 60) + v19)) 0 61) then
        some ((u2 t2.2.2 0 60 ((t2.2.2 0 60) + v19)) 0 61)
      else
        some v20) : Option (Int32))).bind fun v21 =>
    some (.inl (v20, (v2 + 1), t2.2.1, (u2 (u2 t2.2.2 0 60 ((t2.2.2 0 60) + v19)) 0 61 v21)))
def f_M_weekGoes (MA : (Nat → Nat → Int32)) (MS : (Nat → Nat → Int32)) (p1 : Int32) (p2 : Int32) : Option ((Nat → Nat → Int32) × (Nat → Nat → Int32)) :=
  (loopN (fun q => f_M_weekGoes_l20 p2 q.1 q.2.1 q.2.2.1 q.2.2.2) a_F (0, 0, MA, (u2 (u2 (u2 MS 0 59 p1) 0 60 0) 0 61 0))).bind fun p9_ =>
  some (p9_.1, p9_.2)
def f_M_aside (MA : (Nat → Nat → Int32)) (MS : (Nat → Nat → Int32)) : Option ((Nat → Nat → Int32)) :=
  (cpM (MA 7) 10 (MS 10) 10 10).bind fun x1 =>
  (cpM (MA 8) 10 ((u1 MS 10 x1) 11) 10 10).bind fun x2 =>
  some (u1 (u1 MS 10 x1) 11 x2)
def f_M_back (MA : (Nat → Nat → Int32)) (MS : (Nat → Nat → Int32)) : Option ((Nat → Nat → Int32)) :=
  (cpM (MS 10) 10 (MA 7) 10 10).bind fun x1 =>
  (cpM (MS 11) 10 ((u1 MA 7 x1) 8) 10 10).bind fun x2 =>
  some (u1 (u1 MA 7 x1) 8 x2)
def f_M_mostBorn_l4 (MA : (Nat → Nat → Int32)) (v1 : Int32) (v2 : Int32) : Option ((Int32 × Int32) ⊕ (Int32)) :=
  if (MA 0 25) ≤ v2 then
    some (.inr v1)
  else
    (f_M_bornBy MA v2).bind fun x3 =>
    if x3 ≤ v1 then
      some (.inl (v1, (v2 + 1)))
    else
      (f_M_bornBy MA v2).bind fun x4 =>
      some (.inl (x4, (v2 + 1)))
def f_M_mostBorn (MA : (Nat → Nat → Int32)) : Option (Int32) :=
  (loopN (fun q => f_M_mostBorn_l4 MA q.1 q.2) a_F (0, 0)).bind fun v5 =>
  some v5
def f_M_week (MA : (Nat → Nat → Int32)) (MS : (Nat → Nat → Int32)) (p1 : Int32) (p2 : Int32) (p3 : Int32) : Option (Int32 × (Nat → Nat → Int32) × (Nat → Nat → Int32)) :=
  (f_M_within p2 1 60).bind fun x1 =>
  (((
    (((
      if x1 = 0 then
        some (.inl ())
      else
        (f_M_within p3 0 2).bind fun x2 =>
        if x2 = 0 then
          some (.inl ())
        else
          some (.inr 1)) : Option ((Unit) ⊕ (Int32)))).bind fun b5 => sumE b5 (fun _ =>
    some 0) (fun q => some q)) : Option (Int32))).bind fun v3 =>
  (f_M_may (u2 MA 0 0 0) v3 1 1).bind fun c6 =>
  if c6.1 ≠ 0 then
    (f_M_aside c6.2 MS).bind fun MS_6 =>
    (f_M_weekGoes c6.2 MS_6 p1 p2).bind fun c8 =>
    (f_M_mostBorn c8.1).bind fun x9 =>
    (f_M_back c8.1 c8.2).bind fun MA_10 =>
    if p3 ≠ 0 then
      if p3 ≠ 1 then
        some (x9, MA_10, c8.2)
      else
        some ((c8.2 0 61), MA_10, c8.2)
    else
      some ((c8.2 0 60), MA_10, c8.2)
  else
    some (0, c6.2, MS)
def f_M_done (MA : (Nat → Nat → Int32)) (MS : (Nat → Nat → Int32)) (p1 : Int32) (p2 : Int32) : Option (Int32 × (Nat → Nat → Int32) × (Nat → Nat → Int32)) :=
  (f_M_within p2 1 60).bind fun x1 =>
  (f_M_may (u2 MA 0 0 0) x1 1 1).bind fun c2 =>
  if c2.1 ≠ 0 then
    if (c2.2 0 43) ≠ 30 then
      (f_M_keepsAct c2.2).bind fun MA_4 =>
      (f_M_weekGoes MA_4 MS p1 p2).bind fun c4 =>
      some ((c4.2 0 60), c4.1, c4.2)
    else
      some ((-64), c2.2, MS)
  else
    some (0, c2.2, MS)
def f_M_span_l67 (p2 : Int32) (p1 : Int32) (p3 : Int32) (v8 : Int32) (v9 : Int32) (v10 : Int32) (v11 : Int32) (MA_12 : (Nat → Nat → Int32)) (MS_13 : (Nat → Nat → Int32)) : Option ((Int32 × Int32 × Int32 × Int32 × (Nat → Nat → Int32) × (Nat → Nat → Int32)) ⊕ (Int32 × Int32 × Int32 × (Nat → Nat → Int32) × (Nat → Nat → Int32))) :=
  if p2 ≤ v11 then
    some (.inr (v8, v9, v10, MA_12, MS_13))
  else
    (f_M_weekGoes MA_12 MS_13 (p1 + v11) p3).bind fun c10 =>
    (f_M_back c10.1 c10.2).bind fun MA_16 =>
    (((
      (((
        if v8 = (-1) then
          some (.inl ())
        else
          if v8 ≤ (c10.2 0 60) then
            some (.inr v8)
          else
            some (.inl ())) : Option ((Unit) ⊕ (Int32)))).bind fun b14 => sumE b14 (fun _ =>
      some (c10.2 0 60)) (fun q => some q)) : Option (Int32))).bind fun v17 =>
    (((
      if (c10.2 0 60) ≤ v9 then
        some v9
      else
        some (c10.2 0 60)) : Option (Int32))).bind fun v18 =>
    some (.inl (v17, v18, (v10 + (c10.2 0 60)), (v11 + 1), MA_16, c10.2))
def f_M_span (MA : (Nat → Nat → Int32)) (MS : (Nat → Nat → Int32)) (p1 : Int32) (p2 : Int32) (p3 : Int32) (p4 : Int32) : Option (Int32 × (Nat → Nat → Int32) × (Nat → Nat → Int32)) :=
  (f_M_within p2 1 20).bind fun x1 =>
  (((
    (((
      if x1 = 0 then
        some (.inl ())
      else
        (f_M_within p3 1 60).bind fun x2 =>
        if x2 = 0 then
          some (.inl ())
        else
          (f_M_within p4 0 2).bind fun x3 =>
          if x3 = 0 then
            some (.inl ())
          else
            some (.inr 1)) : Option ((Unit) ⊕ (Int32)))).bind fun b6 => sumE b6 (fun _ =>
    some 0) (fun q => some q)) : Option (Int32))).bind fun v4 =>
  (f_M_may (u2 MA 0 0 0) v4 1 1).bind fun c7 =>
  if c7.1 ≠ 0 then
    (f_M_aside c7.2 MS).bind fun MS_7 =>
    (loopN (fun q => f_M_span_l67 p2 p1 p3 q.1 q.2.1 q.2.2.1 q.2.2.2.1 q.2.2.2.2.1 q.2.2.2.2.2) a_F ((-1), 0, 0, 0, c7.2, MS_7)).bind fun p16_ =>
    if p4 ≠ 0 then
      if p4 ≠ 1 then
        some (p16_.2.2.1, p16_.2.2.2.1, p16_.2.2.2.2)
      else
        some (p16_.2.1, p16_.2.2.2.1, p16_.2.2.2.2)
    else
      some (p16_.1, p16_.2.2.2.1, p16_.2.2.2.2)
  else
    some (0, c7.2, MS)
def f_M_keepsRow_l3 (p3 : Int32) (p4 : Int32) (p1 : Int32) (v1 : Int32) (MA_2 : (Nat → Nat → Int32)) : Option ((Int32 × (Nat → Nat → Int32)) ⊕ ((Nat → Nat → Int32))) :=
  if p3 ≤ v1 then
    some (.inr MA_2)
  else
    if p4 = 0 then
      (rdx (MA_2 13) 1974 (p1 + v1)).bind fun x3 =>
      (ixx 10 v1).bind fun j4 =>
      some (.inl ((v1 + 1), (u2 MA_2 7 j4 x3)))
    else
      (rdx (MA_2 7) 10 v1).bind fun x5 =>
      (ixx 1974 (p1 + v1)).bind fun j6 =>
      some (.inl ((v1 + 1), (u2 MA_2 13 j6 x5)))
def f_M_keepsRow (MA : (Nat → Nat → Int32)) (p1 : Int32) (p3 : Int32) (p4 : Int32) : Option (Int32 × (Nat → Nat → Int32)) :=
  (loopN (fun q => f_M_keepsRow_l3 p3 p4 p1 q.1 q.2) a_F (0, MA)).bind fun MA_8 =>
  some ((p1 + p3), MA_8)
def f_M_keepsRow_2_l3 (p3 : Int32) (p4 : Int32) (p1 : Int32) (v1 : Int32) (MA_2 : (Nat → Nat → Int32)) : Option ((Int32 × (Nat → Nat → Int32)) ⊕ ((Nat → Nat → Int32))) :=
  if p3 ≤ v1 then
    some (.inr MA_2)
  else
    if p4 = 0 then
      (rdx (MA_2 13) 1974 (p1 + v1)).bind fun x3 =>
      (ixx 10 v1).bind fun j4 =>
      some (.inl ((v1 + 1), (u2 MA_2 8 j4 x3)))
    else
      (rdx (MA_2 8) 10 v1).bind fun x5 =>
      (ixx 1974 (p1 + v1)).bind fun j6 =>
      some (.inl ((v1 + 1), (u2 MA_2 13 j6 x5)))
def f_M_keepsRow_2 (MA : (Nat → Nat → Int32)) (p1 : Int32) (p3 : Int32) (p4 : Int32) : Option (Int32 × (Nat → Nat → Int32)) :=
  (loopN (fun q => f_M_keepsRow_2_l3 p3 p4 p1 q.1 q.2) a_F (0, MA)).bind fun MA_8 =>
  some ((p1 + p3), MA_8)
def f_M_keepsRow_3_l3 (p3 : Int32) (p4 : Int32) (p1 : Int32) (v1 : Int32) (MA_2 : (Nat → Nat → Int32)) : Option ((Int32 × (Nat → Nat → Int32)) ⊕ ((Nat → Nat → Int32))) :=
  if p3 ≤ v1 then
    some (.inr MA_2)
  else
    if p4 = 0 then
      (rdx (MA_2 13) 1974 (p1 + v1)).bind fun x3 =>
      (ixx 20 v1).bind fun j4 =>
      some (.inl ((v1 + 1), (u2 MA_2 9 j4 x3)))
    else
      (rdx (MA_2 9) 20 v1).bind fun x5 =>
      (ixx 1974 (p1 + v1)).bind fun j6 =>
      some (.inl ((v1 + 1), (u2 MA_2 13 j6 x5)))
def f_M_keepsRow_3 (MA : (Nat → Nat → Int32)) (p1 : Int32) (p3 : Int32) (p4 : Int32) : Option (Int32 × (Nat → Nat → Int32)) :=
  (loopN (fun q => f_M_keepsRow_3_l3 p3 p4 p1 q.1 q.2) a_F (0, MA)).bind fun MA_8 =>
  some ((p1 + p3), MA_8)
def f_M_keepsRow_4_l3 (p3 : Int32) (p4 : Int32) (p1 : Int32) (v1 : Int32) (MA_2 : (Nat → Nat → Int32)) : Option ((Int32 × (Nat → Nat → Int32)) ⊕ ((Nat → Nat → Int32))) :=
  if p3 ≤ v1 then
    some (.inr MA_2)
  else
    if p4 = 0 then
      (rdx (MA_2 13) 1974 (p1 + v1)).bind fun x3 =>
      (ixx 16 v1).bind fun j4 =>
      some (.inl ((v1 + 1), (u2 MA_2 6 j4 x3)))
    else
      (rdx (MA_2 6) 16 v1).bind fun x5 =>
      (ixx 1974 (p1 + v1)).bind fun j6 =>
      some (.inl ((v1 + 1), (u2 MA_2 13 j6 x5)))
def f_M_keepsRow_4 (MA : (Nat → Nat → Int32)) (p1 : Int32) (p3 : Int32) (p4 : Int32) : Option (Int32 × (Nat → Nat → Int32)) :=
  (loopN (fun q => f_M_keepsRow_4_l3 p3 p4 p1 q.1 q.2) a_F (0, MA)).bind fun MA_8 =>
  some ((p1 + p3), MA_8)
def f_M_keepsRow_5_l3 (p3 : Int32) (p4 : Int32) (p1 : Int32) (v1 : Int32) (MA_2 : (Nat → Nat → Int32)) : Option ((Int32 × (Nat → Nat → Int32)) ⊕ ((Nat → Nat → Int32))) :=
  if p3 ≤ v1 then
    some (.inr MA_2)
  else
    if p4 = 0 then
      (rdx (MA_2 13) 1974 (p1 + v1)).bind fun x3 =>
      (ixx 600 v1).bind fun j4 =>
      some (.inl ((v1 + 1), (u2 MA_2 12 j4 x3)))
    else
      (rdx (MA_2 12) 600 v1).bind fun x5 =>
      (ixx 1974 (p1 + v1)).bind fun j6 =>
      some (.inl ((v1 + 1), (u2 MA_2 13 j6 x5)))
def f_M_keepsRow_5 (MA : (Nat → Nat → Int32)) (p1 : Int32) (p3 : Int32) (p4 : Int32) : Option (Int32 × (Nat → Nat → Int32)) :=
  (loopN (fun q => f_M_keepsRow_5_l3 p3 p4 p1 q.1 q.2) a_F (0, MA)).bind fun MA_8 =>
  some ((p1 + p3), MA_8)
def f_M_keepsAll (MA : (Nat → Nat → Int32)) (p1 : Int32) (p2 : Int32) : Option ((Nat → Nat → Int32)) :=
  (f_M_keepsRow MA (658 * p1) 10 p2).bind fun c1 =>
  (f_M_keepsRow_2 c1.2 c1.1 10 p2).bind fun c2 =>
  (f_M_keepsRow_3 c2.2 c2.1 20 p2).bind fun c3 =>
  (f_M_keepsRow_4 c3.2 c3.1 16 p2).bind fun c4 =>
  (f_M_keepsRow_5 c4.2 c4.1 600 p2).bind fun c5 =>
  if p2 = 0 then
    (rdx (c5.2 13) 1974 c5.1).bind fun x11 =>
    (rdx ((u2 c5.2 0 33 x11) 13) 1974 (c5.1 + 1)).bind fun x12 =>
    some (u2 (u2 c5.2 0 33 x11) 0 43 x12)
  else
    (ixx 1974 c5.1).bind fun j13 =>
    (ixx 1974 (c5.1 + 1)).bind fun j14 =>
    some (u2 (u2 c5.2 13 j13 (c5.2 0 33)) 13 j14 ((u2 c5.2 13 j13 (c5.2 0 33)) 0 43))
def f_M_image (MA : (Nat → Nat → Int32)) : Option (Int32 × (Nat → Nat → Int32)) :=
  if ((u2 MA 0 0 0) 0 65) ≠ 3 then
    (f_M_keepsAll (u2 MA 0 0 0) ((u2 MA 0 0 0) 0 65) 1).bind fun MA_1 =>
    some (((u2 MA_1 0 65 ((MA_1 0 65) + 1)) 0 65), (u2 MA_1 0 65 ((MA_1 0 65) + 1)))
  else
    some ((-1), (u2 MA 0 0 0))
def f_M_restore (MA : (Nat → Nat → Int32)) : Option (Int32 × (Nat → Nat → Int32)) :=
  if ((u2 MA 0 0 0) 0 65) ≠ 0 then
    (f_M_keepsAll (u2 (u2 MA 0 0 0) 0 65 (((u2 MA 0 0 0) 0 65) - 1)) ((u2 (u2 MA 0 0 0) 0 65 (((u2 MA 0 0 0) 0 65) - 1)) 0 65) 0).bind fun MA_1 =>
    some ((MA_1 0 65), MA_1)
  else
    some ((-1), (u2 MA 0 0 0))
def f_M_status (MA : (Nat → Nat → Int32)) (p1 : Int32) : Option (Int32 × (Nat → Nat → Int32)) :=
  (f_M_within p1 0 1).bind fun x1 =>
  if x1 = 0 then
    some ((-1), (u2 MA 0 0 0))
  else
    (rdx ((u2 MA 0 0 0) 1) 2 p1).bind fun x2 =>
    some (x2, (u2 MA 0 0 0))
def f_M_count (MA : (Nat → Nat → Int32)) (p1 : Int32) : Option (Int32 × (Nat → Nat → Int32)) :=
  if p1 ≠ 0 then
    if p1 ≠ 1 then
      if p1 ≠ 2 then
        some ((-1), (u2 MA 0 0 0))
      else
        some (((u2 MA 0 0 0) 0 43), (u2 MA 0 0 0))
    else
      some (((u2 MA 0 0 0) 0 2), (u2 MA 0 0 0))
  else
    some (((u2 MA 0 0 0) 0 65), (u2 MA 0 0 0))
def f_Tape_append_l3 (p1 : Int32) (v1 : Int32) (T_2 : (Nat → Nat → Int32)) : Option ((Int32 × (Nat → Nat → Int32)) ⊕ ((Nat → Nat → Int32))) :=
  if v1 < 0 then
    some (.inr T_2)
  else
    if 600 ≤ (T_2 0 1) then
      some (.inl ((v1 + (-8)), T_2))
    else
      (ixx 600 (T_2 0 1)).bind fun j3 =>
      some (.inl ((v1 + (-8)), (u2 (u2 T_2 1 j3 ((a_ushr p1 v1) &&& 255)) 0 1 (((u2 T_2 1 j3 ((a_ushr p1 v1) &&& 255)) 0 1) + 1))))
def f_Tape_append (T : (Nat → Nat → Int32)) (p1 : Int32) : Option ((Nat → Nat → Int32)) :=
  (loopN (fun q => f_Tape_append_l3 p1 q.1 q.2) a_F (24, T)).bind fun T_5 =>
  some T_5
def f_Y_feed (T : (Nat → Nat → Int32)) (p1 : Int32) (p2 : Int32) (p3 : Int32) (p4 : Int32) (p5 : Int32) : Option (Int32 × (Nat → Nat → Int32)) :=
  if (T 0 1) ≤ 580 then
    (f_Tape_append T p1).bind fun T_1 =>
    (f_Tape_append T_1 p2).bind fun T_2 =>
    (f_Tape_append T_2 p3).bind fun T_3 =>
    (f_Tape_append T_3 p4).bind fun T_4 =>
    (f_Tape_append T_4 p5).bind fun T_5 =>
    some ((T_5 0 1), T_5)
  else
    some ((-1), T)
def f_Y_refuseUnless (Y : (Nat → Nat → Int32)) (p1 : Int32) : Option (Nat × (Nat → Nat → Int32)) :=
  if p1 ≠ 0 then
    some (0, Y)
  else
    some (2, (u2 Y 0 15 ((Y 0 15) + 1)))
def f_Math_min (p0 : Int32) (p1 : Int32) : Option (Int32) :=
  if p1 < p0 then
    some p1
  else
    some p0
def f_Tape_isDigit (T : (Nat → Nat → Int32)) (p1 : Int32) : Option (Int32) :=
  (rdx (T 1) 600 p1).bind fun x1 =>
  if x1 < 48 then
    some (zb 0)
  else
    (rdx (T 1) 600 p1).bind fun x2 =>
    if 57 < x2 then
      some (zb 0)
    else
      some (zb 1)
def f_Tape_isLetter (T : (Nat → Nat → Int32)) (p1 : Int32) : Option (Int32) :=
  (rdx (T 1) 600 p1).bind fun x1 =>
  if x1 < 97 then
    some (zb 0)
  else
    (rdx (T 1) 600 p1).bind fun x2 =>
    if 122 < x2 then
      some (zb 0)
    else
      some (zb 1)
def f_Tape_scanLetters_l0 (T_1 : (Nat → Nat → Int32)) : Option (((Nat → Nat → Int32)) ⊕ ((Nat → Nat → Int32))) :=
  if (T_1 0 2) ≤ (T_1 0 5) then
    some (.inr T_1)
  else
    (f_Tape_isLetter T_1 (T_1 0 5)).bind fun x2 =>
    if x2 = 0 then
      some (.inr T_1)
    else
      some (.inl (u2 T_1 0 5 ((T_1 0 5) + 1)))
def f_Tape_scanLetters (T : (Nat → Nat → Int32)) : Option ((Nat → Nat → Int32)) :=
  (loopN (fun q => f_Tape_scanLetters_l0 q) a_F T).bind fun T_3 =>
  some T_3
def f_Tape_findWord_l29 (T : (Nat → Nat → Int32)) (j5 : Nat) (v6 : Int32) : Option ((Int32) ⊕ (Int32)) :=
  if isS (w_txt (a_ra 2752 j5)) then
  if (s_len (w_txt (a_ra 2752 j5))) ≤ v6 then
    some (.inr v6)
  else
    if (T 0 5) ≤ ((T 0 4) + v6) then
      some (.inr v6)
    else
      if isS (w_txt (a_ra 2752 j5)) then
      (s_at (w_txt (a_ra 2752 j5)) v6).bind fun x7 =>
      (rdx (T 1) 600 ((T 0 4) + v6)).bind fun x8 =>
      if x7 ≠ x8 then
        some (.inr v6)
      else
        some (.inl (v6 + 1))
      else none
  else none
def f_Tape_findWord_l9 (T : (Nat → Nat → Int32)) (v1 : Int32) : Option ((Int32) ⊕ ((Unit) ⊕ (Nat))) :=
  if (Int32.ofNat 23) ≤ v1 then
    some (.inr (.inl ()))
  else
    (ixx 23 v1).bind fun j5 =>
    if isW (a_ra 2752 j5) then
    (loopN (fun q => f_Tape_findWord_l29 T j5 q) a_F 0).bind fun v9 =>
    if isS (w_txt (a_ra 2752 j5)) then
    if v9 ≠ (s_len (w_txt (a_ra 2752 j5))) then
      some (.inl (v1 + 1))
    else
      if ((T 0 4) + v9) ≠ (T 0 5) then
        some (.inl (v1 + 1))
      else
        some (.inr (.inr (a_ra 2752 j5)))
    else none
    else none
def f_Tape_findWord (T : (Nat → Nat → Int32)) : Option (Nat) :=
  (loopN (fun q => f_Tape_findWord_l9 T q) a_F 0).bind fun b5 => sumE b5 (fun _ =>
  some 0) (fun q => some q)
def f_Tape_scanDigits_l5 (T_1 : (Nat → Nat → Int32)) : Option (((Nat → Nat → Int32)) ⊕ ((Nat → Nat → Int32))) :=
  if (T_1 0 2) ≤ (T_1 0 5) then
    some (.inr T_1)
  else
    (f_Tape_isDigit T_1 (T_1 0 5)).bind fun x2 =>
    if x2 = 0 then
      some (.inr T_1)
    else
      (rdx (T_1 1) 600 (T_1 0 5)).bind fun x3 =>
      (f_Math_min 1000 ((((T_1 0 6) * 10) + x3) - 48)).bind fun x4 =>
      some (.inl (u2 (u2 T_1 0 6 x4) 0 5 (((u2 T_1 0 6 x4) 0 5) + 1)))
def f_Tape_scanDigits (T : (Nat → Nat → Int32)) : Option ((Nat → Nat → Int32)) :=
  (loopN (fun q => f_Tape_scanDigits_l5 q) a_F (u2 T 0 6 0)).bind fun T_5 =>
  some T_5
def f_Tape_advance_l8 (T_1 : (Nat → Nat → Int32)) : Option (((Nat → Nat → Int32)) ⊕ ((Nat → Nat → Int32))) :=
  if (T_1 0 2) ≤ (T_1 0 4) then
    some (.inr T_1)
  else
    (rdx (T_1 1) 600 (T_1 0 4)).bind fun x2 =>
    if x2 ≠ 32 then
      some (.inr T_1)
    else
      some (.inl (u2 T_1 0 4 ((T_1 0 4) + 1)))
def f_Tape_advance (T : (Nat → Nat → Int32)) : Option ((Nat → Nat → Int32) × Nat) :=
  (loopN (fun q => f_Tape_advance_l8 q) a_F (u2 T 0 4 (T 0 5))).bind fun T_3 =>
  if ((u2 T_3 0 5 (T_3 0 4)) 0 4) < ((u2 T_3 0 5 (T_3 0 4)) 0 2) then
    (f_Tape_isDigit (u2 T_3 0 5 (T_3 0 4)) ((u2 T_3 0 5 (T_3 0 4)) 0 4)).bind fun x4 =>
    if x4 = 0 then
      (f_Tape_isLetter (u2 T_3 0 5 (T_3 0 4)) ((u2 T_3 0 5 (T_3 0 4)) 0 4)).bind fun x5 =>
      if x5 = 0 then
        (rdx ((u2 (u2 T_3 0 5 (T_3 0 4)) 0 3 3) 1) 600 ((u2 (u2 T_3 0 5 (T_3 0 4)) 0 3 3) 0 4)).bind fun x6 =>
        some ((u2 (u2 (u2 (u2 T_3 0 5 (T_3 0 4)) 0 3 3) 0 6 x6) 0 5 (((u2 (u2 (u2 T_3 0 5 (T_3 0 4)) 0 3 3) 0 6 x6) 0 4) + 1)), 0)
      else
        (f_Tape_scanLetters (u2 (u2 T_3 0 5 (T_3 0 4)) 0 3 2)).bind fun T_7 =>
        (f_Tape_findWord T_7).bind fun x8 =>
        some (T_7, x8)
    else
      (f_Tape_scanDigits (u2 (u2 T_3 0 5 (T_3 0 4)) 0 3 1)).bind fun T_9 =>
      some (T_9, 0)
  else
    some ((u2 (u2 T_3 0 5 (T_3 0 4)) 0 3 0), 0)
def f_Tape_open (T : (Nat → Nat → Int32)) (p1 : Int32) : Option ((Nat → Nat → Int32) × Nat) :=
  (f_Math_min p1 (T 0 1)).bind fun x1 =>
  (f_Tape_advance (u2 (u2 (u2 (u2 T 0 2 x1) 0 5 0) 0 8 0) 0 9 (-1))).bind fun c2 =>
  some (c2.1, c2.2)
def f_House_forget (H : (Nat → Nat → Int32)) : Option ((Nat → Nat → Int32)) :=
  some (u1 (u1 (u1 (u1 (u2 (u2 (u2 (u2 (u2 (u2 H 0 0 8) 0 1 0) 0 2 0) 0 3 0) 0 4 0) 0 5 0) 4 (filM ((u2 (u2 (u2 (u2 (u2 (u2 H 0 0 8) 0 1 0) 0 2 0) 0 3 0) 0 4 0) 0 5 0) 4) 8 0)) 6 (filM ((u1 (u2 (u2 (u2 (u2 (u2 (u2 H 0 0 8) 0 1 0) 0 2 0) 0 3 0) 0 4 0) 0 5 0) 4 (filM ((u2 (u2 (u2 (u2 (u2 (u2 H 0 0 8) 0 1 0) 0 2 0) 0 3 0) 0 4 0) 0 5 0) 4) 8 0)) 6) 10 0)) 8 (filM ((u1 (u1 (u2 (u2 (u2 (u2 (u2 (u2 H 0 0 8) 0 1 0) 0 2 0) 0 3 0) 0 4 0) 0 5 0) 4 (filM ((u2 (u2 (u2 (u2 (u2 (u2 H 0 0 8) 0 1 0) 0 2 0) 0 3 0) 0 4 0) 0 5 0) 4) 8 0)) 6 (filM ((u1 (u2 (u2 (u2 (u2 (u2 (u2 H 0 0 8) 0 1 0) 0 2 0) 0 3 0) 0 4 0) 0 5 0) 4 (filM ((u2 (u2 (u2 (u2 (u2 (u2 H 0 0 8) 0 1 0) 0 2 0) 0 3 0) 0 4 0) 0 5 0) 4) 8 0)) 6) 10 0)) 8) 10 0)) 9 (filM ((u1 (u1 (u1 (u2 (u2 (u2 (u2 (u2 (u2 H 0 0 8) 0 1 0) 0 2 0) 0 3 0) 0 4 0) 0 5 0) 4 (filM ((u2 (u2 (u2 (u2 (u2 (u2 H 0 0 8) 0 1 0) 0 2 0) 0 3 0) 0 4 0) 0 5 0) 4) 8 0)) 6 (filM ((u1 (u2 (u2 (u2 (u2 (u2 (u2 H 0 0 8) 0 1 0) 0 2 0) 0 3 0) 0 4 0) 0 5 0) 4 (filM ((u2 (u2 (u2 (u2 (u2 (u2 H 0 0 8) 0 1 0) 0 2 0) 0 3 0) 0 4 0) 0 5 0) 4) 8 0)) 6) 10 0)) 8 (filM ((u1 (u1 (u2 (u2 (u2 (u2 (u2 (u2 H 0 0 8) 0 1 0) 0 2 0) 0 3 0) 0 4 0) 0 5 0) 4 (filM ((u2 (u2 (u2 (u2 (u2 (u2 H 0 0 8) 0 1 0) 0 2 0) 0 3 0) 0 4 0) 0 5 0) 4) 8 0)) 6 (filM ((u1 (u2 (u2 (u2 (u2 (u2 (u2 H 0 0 8) 0 1 0) 0 2 0) 0 3 0) 0 4 0) 0 5 0) 4 (filM ((u2 (u2 (u2 (u2 (u2 (u2 H 0 0 8) 0 1 0) 0 2 0) 0 3 0) 0 4 0) 0 5 0) 4) 8 0)) 6) 10 0)) 8) 10 0)) 9) 10 0))
def f_Tape_failed (T : (Nat → Nat → Int32)) : Option (Int32) :=
  if (T 0 8) = 0 then
    some (zb 0)
  else
    some (zb 1)
def f_Tape_atEnd (T : (Nat → Nat → Int32)) : Option (Int32) :=
  if (T 0 3) ≠ 0 then
    some (zb 0)
  else
    some (zb 1)
def f_House_wordFault (H : (Nat → Nat → Int32)) (s1 : Nat) (p2 : Int32) : Option (Int32) :=
  if okW s1 then (if s1 = 0 then
    some 1
  else
    (((
      if p2 < 60 then
        some 0
      else
        some 1) : Option (Int32))).bind fun v1 =>
    if isW s1 then
    (rdx (a_ca 2753) 23 (w_ord s1)).bind fun x2 =>
    if x2 = 1 then
      if v1 = 0 then
        if p2 ≤ 0 then
          some 0
        else
          some 4
      else
        some 3
    else if x2 = 2 then
      if v1 ≠ 0 then
        some 3
      else
        if (H 0 1) < 3 then
          some 0
        else
          some 3
    else if x2 = 3 then
      if v1 ≠ 0 then
        some 3
      else
        if (H 0 2) < 8 then
          some 0
        else
          some 3
    else if x2 = 4 then
      if v1 ≠ 0 then
        some 3
      else
        if (H 0 3) < 10 then
          some 0
        else
          some 3
    else if x2 = 5 then
      if v1 ≠ 0 then
        some 3
      else
        if (H 0 4) < 4 then
          some 0
        else
          some 3
    else if x2 = 6 then
      if v1 = 0 then
        some 0
      else
        some 3
    else if x2 = 7 then
      if v1 = 0 then
        some 0
      else
        some 3
    else if x2 = 8 then
      if v1 = 0 then
        some 0
      else
        some 3
    else if x2 = 9 then
      if v1 = 0 then
        some 0
      else
        some 3
    else if x2 = 10 then
      if v1 = 0 then
        some 0
      else
        some 3
    else 
      some 1
    else none) else none
def f_Tape_fail (T : (Nat → Nat → Int32)) (p1 : Int32) : Option ((Nat → Nat → Int32)) :=
  if (T 0 8) ≠ 0 then
    some T
  else
    some (u2 (u2 T 0 8 p1) 0 9 ((u2 T 0 8 p1) 0 4))
def f_Tape_number (T : (Nat → Nat → Int32)) (w : Nat) (p1 : Int32) (p2 : Int32) : Option (Int32 × (Nat → Nat → Int32) × Nat) :=
  (f_Tape_failed T).bind fun x1 =>
  if x1 = 0 then
    if (T 0 3) = 1 then
      (((
        if (T 0 6) < p1 then
          some (.inl ())
        else
          if (T 0 6) ≤ p2 then
            (f_Tape_advance T).bind fun c3 =>
            some (.inr ((T 0 6), c3.1, c3.2))
          else
            some (.inl ())) : Option ((Unit) ⊕ (Int32 × (Nat → Nat → Int32) × Nat)))).bind fun b5 => sumE b5 (fun _ =>
      (f_Tape_fail T 2).bind fun T_4 =>
      some ((-1), T_4, w)) (fun q => some q)
    else
      (f_Tape_fail T 1).bind fun T_5 =>
      some ((-1), T_5, w)
  else
    some ((-1), T, w)
def f_Tape_atSign (T : (Nat → Nat → Int32)) (p1 : Int32) : Option (Int32) :=
  if (T 0 3) ≠ 3 then
    some (zb 0)
  else
    if (T 0 6) ≠ p1 then
      some (zb 0)
    else
      some (zb 1)
def f_Tape_pass (T : (Nat → Nat → Int32)) (w : Nat) (p1 : Int32) : Option (Int32 × (Nat → Nat → Int32) × Nat) :=
  (f_Tape_failed T).bind fun x1 =>
  if x1 = 0 then
    (f_Tape_atSign T p1).bind fun x2 =>
    if x2 ≠ 0 then
      (f_Tape_advance T).bind fun c3 =>
      some ((zb 1), c3.1, c3.2)
    else
      (f_Tape_fail T 1).bind fun T_5 =>
      some ((zb 0), T_5, w)
  else
    some ((zb 0), T, w)
def f_House_readHours (T : (Nat → Nat → Int32)) (H : (Nat → Nat → Int32)) (w : Nat) : Option ((Nat → Nat → Int32) × (Nat → Nat → Int32) × Nat) :=
  (f_Tape_number T w 1 10).bind fun c1 =>
  (f_Tape_pass c1.2.1 c1.2.2 59).bind fun c2 =>
  if c2.1 = 0 then
    some (c2.2.1, H, c2.2.2)
  else
    some (c2.2.1, (u2 H 0 0 c1.1), c2.2.2)
def f_House_readRoom (T : (Nat → Nat → Int32)) (H : (Nat → Nat → Int32)) (w : Nat) : Option ((Nat → Nat → Int32) × (Nat → Nat → Int32) × Nat) :=
  (f_Tape_number T w 0 20).bind fun c1 =>
  (f_Tape_pass c1.2.1 c1.2.2 59).bind fun c2 =>
  if c2.1 = 0 then
    some (c2.2.1, H, c2.2.2)
  else
    if 3 ≤ (H 0 1) then
      some (c2.2.1, H, c2.2.2)
    else
      (ixx 3 (H 0 1)).bind fun j7 =>
      some (c2.2.1, (u2 (u2 H 1 j7 c1.1) 0 1 (((u2 H 1 j7 c1.1) 0 1) + 1)), c2.2.2)
def f_House_readPerson (T : (Nat → Nat → Int32)) (H : (Nat → Nat → Int32)) (w : Nat) : Option ((Nat → Nat → Int32) × (Nat → Nat → Int32) × Nat) :=
  (f_Tape_number T w 0 9).bind fun c1 =>
  (f_Tape_number c1.2.1 c1.2.2 0 9).bind fun c2 =>
  (f_Tape_pass c2.2.1 c2.2.2 59).bind fun c3 =>
  if c3.1 = 0 then
    some (c3.2.1, H, c3.2.2)
  else
    if 8 ≤ (H 0 2) then
      some (c3.2.1, H, c3.2.2)
    else
      (ixx 8 (H 0 2)).bind fun j10 =>
      (ixx 8 ((u2 H 2 j10 c1.1) 0 2)).bind fun j11 =>
      some (c3.2.1, (u2 (u2 (u2 H 2 j10 c1.1) 3 j11 c2.1) 0 2 (((u2 (u2 H 2 j10 c1.1) 3 j11 c2.1) 0 2) + 1)), c3.2.2)
def f_Y_placeOf (p0 : Int32) (p1 : Int32) : Option (Int32) :=
  some ((p0 * 3) + p1)
def f_House_readMeet (T : (Nat → Nat → Int32)) (H : (Nat → Nat → Int32)) (w : Nat) : Option ((Nat → Nat → Int32) × (Nat → Nat → Int32) × Nat) :=
  (f_Tape_number T w 0 ((H 0 0) - 1)).bind fun c1 =>
  (f_Tape_number c1.2.1 c1.2.2 0 ((H 0 1) - 1)).bind fun c2 =>
  (f_Tape_number c2.2.1 c2.2.2 0 99).bind fun c3 =>
  (f_Tape_pass c3.2.1 c3.2.2 59).bind fun c4 =>
  if c4.1 = 0 then
    some (c4.2.1, H, c4.2.2)
  else
    if 10 ≤ (H 0 3) then
      some (c4.2.1, H, c4.2.2)
    else
      (f_Y_placeOf c1.1 c2.1).bind fun x13 =>
      (ixx 10 (H 0 3)).bind fun j14 =>
      (ixx 10 ((u2 H 5 j14 x13) 0 3)).bind fun j15 =>
      some (c4.2.1, (u2 (u2 (u2 H 5 j14 x13) 7 j15 c3.1) 0 3 (((u2 (u2 H 5 j14 x13) 7 j15 c3.1) 0 3) + 1)), c4.2.2)
def f_House_readHold (T : (Nat → Nat → Int32)) (H : (Nat → Nat → Int32)) (w : Nat) : Option ((Nat → Nat → Int32) × (Nat → Nat → Int32) × Nat) :=
  (f_Tape_number T w 0 ((H 0 0) - 1)).bind fun c1 =>
  (f_Tape_number c1.2.1 c1.2.2 0 ((H 0 1) - 1)).bind fun c2 =>
  (f_Tape_number c2.2.1 c2.2.2 0 16).bind fun c3 =>
  (f_Tape_number c3.2.1 c3.2.2 0 99).bind fun c4 =>
  (f_Tape_pass c4.2.1 c4.2.2 59).bind fun c5 =>
  if c5.1 = 0 then
    some (c5.2.1, H, c5.2.2)
  else
    if 4 ≤ (H 0 4) then
      some (c5.2.1, H, c5.2.2)
    else
      (f_Y_placeOf c1.1 c2.1).bind fun x16 =>
      (ixx 4 (H 0 4)).bind fun j17 =>
      (ixx 4 ((u2 H 11 j17 x16) 0 4)).bind fun j18 =>
      some (c5.2.1, (u2 (u2 (u2 H 11 j17 x16) 12 j18 (c3.1 * c4.1)) 0 4 (((u2 (u2 H 11 j17 x16) 12 j18 (c3.1 * c4.1)) 0 4) + 1)), c5.2.2)
def f_House_hourBits (p0 : Int32) (p1 : Int32) : Option (Int32) :=
  some ((a_shl 1 (p1 + 1)) - (a_shl 1 p0))
def f_House_readBusy (T : (Nat → Nat → Int32)) (H : (Nat → Nat → Int32)) (w : Nat) : Option ((Nat → Nat → Int32) × (Nat → Nat → Int32) × Nat) :=
  (f_Tape_number T w 0 ((H 0 2) - 1)).bind fun c1 =>
  (f_Tape_number c1.2.1 c1.2.2 0 ((H 0 0) - 1)).bind fun c2 =>
  (f_Tape_number c2.2.1 c2.2.2 c2.1 ((H 0 0) - 1)).bind fun c3 =>
  (f_Tape_pass c3.2.1 c3.2.2 59).bind fun c4 =>
  if c4.1 = 0 then
    some (c4.2.1, H, c4.2.2)
  else
    (rdx (H 4) 8 c1.1).bind fun x13 =>
    (f_House_hourBits c2.1 c3.1).bind fun x14 =>
    (ixx 8 c1.1).bind fun j15 =>
    some (c4.2.1, (u2 H 4 j15 (x13 ||| x14)), c4.2.2)
def f_House_readWho (T : (Nat → Nat → Int32)) (H : (Nat → Nat → Int32)) (w : Nat) : Option ((Nat → Nat → Int32) × (Nat → Nat → Int32) × Nat) :=
  (f_Tape_number T w 0 ((H 0 3) - 1)).bind fun c1 =>
  (f_Tape_number c1.2.1 c1.2.2 0 ((H 0 2) - 1)).bind fun c2 =>
  (f_Tape_pass c2.2.1 c2.2.2 59).bind fun c3 =>
  if c3.1 = 0 then
    some (c3.2.1, H, c3.2.2)
  else
    (rdx (H 8) 10 c1.1).bind fun x10 =>
    (ixx 10 c1.1).bind fun j11 =>
    some (c3.2.1, (u2 H 8 j11 (x10 ||| (a_shl 1 c2.1))), c3.2.2)
def f_House_readMay (T : (Nat → Nat → Int32)) (H : (Nat → Nat → Int32)) (w : Nat) : Option ((Nat → Nat → Int32) × (Nat → Nat → Int32) × Nat) :=
  (f_Tape_number T w 0 ((H 0 3) - 1)).bind fun c1 =>
  (f_Tape_number c1.2.1 c1.2.2 0 ((H 0 0) - 1)).bind fun c2 =>
  (f_Tape_number c2.2.1 c2.2.2 c2.1 ((H 0 0) - 1)).bind fun c3 =>
  (f_Tape_pass c3.2.1 c3.2.2 59).bind fun c4 =>
  if c4.1 = 0 then
    some (c4.2.1, H, c4.2.2)
  else
    (rdx (H 9) 10 c1.1).bind fun x13 =>
    (f_House_hourBits c2.1 c3.1).bind fun x14 =>
    (ixx 10 c1.1).bind fun j15 =>
    some (c4.2.1, (u2 H 9 j15 (x13 ||| x14)), c4.2.2)
def f_House_readFixed (T : (Nat → Nat → Int32)) (H : (Nat → Nat → Int32)) (w : Nat) : Option ((Nat → Nat → Int32) × (Nat → Nat → Int32) × Nat) :=
  (f_Tape_number T w 0 ((H 0 3) - 1)).bind fun c1 =>
  (f_Tape_pass c1.2.1 c1.2.2 59).bind fun c2 =>
  if c2.1 = 0 then
    some (c2.2.1, H, c2.2.2)
  else
    some (c2.2.1, (u2 H 0 5 ((H 0 5) ||| (a_shl 1 c1.1))), c2.2.2)
def f_House_readMoved (T : (Nat → Nat → Int32)) (H : (Nat → Nat → Int32)) (w : Nat) : Option ((Nat → Nat → Int32) × (Nat → Nat → Int32) × Nat) :=
  (f_Tape_number T w 0 ((H 0 3) - 1)).bind fun c1 =>
  (f_Tape_number c1.2.1 c1.2.2 0 99).bind fun c2 =>
  (f_Tape_pass c2.2.1 c2.2.2 59).bind fun c3 =>
  if c3.1 = 0 then
    some (c3.2.1, H, c3.2.2)
  else
    (ixx 10 c1.1).bind fun j10 =>
    some (c3.2.1, (u2 H 6 j10 c2.1), c3.2.2)
def f_House_readClause (T : (Nat → Nat → Int32)) (H : (Nat → Nat → Int32)) (w : Nat) (s2 : Nat) : Option ((Nat → Nat → Int32) × (Nat → Nat → Int32) × Nat) :=
  if okW s2 then (if s2 = 0 then
    some (T, H, w)
  else
    if isW s2 then
    (rdx (a_ca 2753) 23 (w_ord s2)).bind fun x1 =>
    if x1 = 1 then
      (f_House_readHours T H w).bind fun c1 =>
      some (c1.1, c1.2.1, c1.2.2)
    else if x1 = 2 then
      (f_House_readRoom T H w).bind fun c2 =>
      some (c2.1, c2.2.1, c2.2.2)
    else if x1 = 3 then
      (f_House_readPerson T H w).bind fun c3 =>
      some (c3.1, c3.2.1, c3.2.2)
    else if x1 = 4 then
      (f_House_readMeet T H w).bind fun c4 =>
      some (c4.1, c4.2.1, c4.2.2)
    else if x1 = 5 then
      (f_House_readHold T H w).bind fun c5 =>
      some (c5.1, c5.2.1, c5.2.2)
    else if x1 = 6 then
      (f_House_readBusy T H w).bind fun c6 =>
      some (c6.1, c6.2.1, c6.2.2)
    else if x1 = 7 then
      (f_House_readWho T H w).bind fun c7 =>
      some (c7.1, c7.2.1, c7.2.2)
    else if x1 = 8 then
      (f_House_readMay T H w).bind fun c8 =>
      some (c8.1, c8.2.1, c8.2.2)
    else if x1 = 9 then
      (f_House_readFixed T H w).bind fun c9 =>
      some (c9.1, c9.2.1, c9.2.2)
    else if x1 = 10 then
      (f_House_readMoved T H w).bind fun c10 =>
      some (c10.1, c10.2.1, c10.2.2)
    else 
      (f_House_readHold T H w).bind fun c11 =>
      some (c11.1, c11.2.1, c11.2.2)
    else none) else none
def f_House_mayHours (H : (Nat → Nat → Int32)) (p1 : Int32) : Option (Int32) :=
  (rdx (H 9) 10 p1).bind fun x1 =>
  if x1 ≠ 0 then
    (rdx (H 9) 10 p1).bind fun x2 =>
    some x2
  else
    some ((a_shl 1 (H 0 0)) - 1)
def f_House_busyHoursOf_l4 (H : (Nat → Nat → Int32)) (p1 : Int32) (v1 : Int32) (v2 : Int32) : Option ((Int32 × Int32) ⊕ (Int32)) :=
  if (H 0 2) ≤ v2 then
    some (.inr v1)
  else
    if ((a_shr p1 v2) &&& 1) = 0 then
      some (.inl (v1, (v2 + 1)))
    else
      (rdx (H 4) 8 v2).bind fun x3 =>
      some (.inl ((v1 ||| x3), (v2 + 1)))
def f_House_busyHoursOf (H : (Nat → Nat → Int32)) (p1 : Int32) : Option (Int32) :=
  (loopN (fun q => f_House_busyHoursOf_l4 H p1 q.1 q.2) a_F (0, 0)).bind fun v4 =>
  some v4
def f_House_settle_l2 (v1 : Int32) (H_2 : (Nat → Nat → Int32)) : Option ((Int32 × (Nat → Nat → Int32)) ⊕ ((Nat → Nat → Int32))) :=
  if (H_2 0 3) ≤ v1 then
    some (.inr H_2)
  else
    (f_House_mayHours H_2 v1).bind fun x3 =>
    (rdx (H_2 8) 10 v1).bind fun x4 =>
    (f_House_busyHoursOf H_2 x4).bind fun x5 =>
    (ixx 10 v1).bind fun j6 =>
    some (.inl ((v1 + 1), (u2 H_2 10 j6 (x3 &&& (x5 ^^^ (-1))))))
def f_House_settle (H : (Nat → Nat → Int32)) : Option ((Nat → Nat → Int32)) :=
  (loopN (fun q => f_House_settle_l2 q.1 q.2) a_F (0, H)).bind fun H_8 =>
  some H_8
def f_House_read_l6 (v2 : Int32) (T_5 : (Nat → Nat → Int32)) (H_6 : (Nat → Nat → Int32)) (w7 : Nat) : Option ((Int32 × (Nat → Nat → Int32) × (Nat → Nat → Int32) × Nat) ⊕ ((Nat → Nat → Int32) × (Nat → Nat → Int32) × Nat)) :=
  if 60 < v2 then
    some (.inr (T_5, H_6, w7))
  else
    (f_Tape_failed T_5).bind fun x8 =>
    if x8 ≠ 0 then
      some (.inr (T_5, H_6, w7))
    else
      (f_Tape_atEnd T_5).bind fun x9 =>
      if x9 ≠ 0 then
        some (.inr (T_5, H_6, w7))
      else
        (f_House_wordFault H_6 w7 v2).bind fun x10 =>
        if x10 = 0 then
          (f_Tape_advance T_5).bind fun c6 =>
          (f_House_readClause c6.1 H_6 c6.2 w7).bind fun c7 =>
          some (.inl ((v2 + 1), c7.1, c7.2.1, c7.2.2))
        else
          (f_Tape_fail T_5 x10).bind fun T_16 =>
          some (.inl ((v2 + 1), T_16, H_6, w7))
def f_House_read (T : (Nat → Nat → Int32)) (H : (Nat → Nat → Int32)) (w : Nat) : Option ((Nat → Nat → Int32) × (Nat → Nat → Int32) × Nat) :=
  (f_House_forget H).bind fun H_1 =>
  (loopN (fun q => f_House_read_l6 q.1 q.2.1 q.2.2.1 q.2.2.2) a_F (0, T, H_1, w)).bind fun p9_ =>
  (f_House_settle p9_.2.1).bind fun H_23 =>
  some (p9_.1, H_23, p9_.2.2)
def f_Tape_empty (T : (Nat → Nat → Int32)) : Option ((Nat → Nat → Int32)) :=
  some (u2 T 0 1 0)
def f_Rule_forget (RU : (Nat → Nat → Int32)) : Option ((Nat → Nat → Int32)) :=
  some (u2 RU 0 1 0)
def f_State_start (H : (Nat → Nat → Int32)) (NS : (Nat → Nat → Int32)) : Option ((Nat → Nat → Int32)) :=
  if ((0 : Int32) < 0 ∨ (0 : Int32) < 0 ∨ (10 : Int32) < 0 ∨ 10 < (0 : Int32).toNatClampNeg + (10 : Int32).toNatClampNeg ∨ 10 < (0 : Int32).toNatClampNeg + (10 : Int32).toNatClampNeg) then none else
  if ((0 : Int32) < 0 ∨ (0 : Int32) < 0 ∨ (10 : Int32) < 0 ∨ 10 < (0 : Int32).toNatClampNeg + (10 : Int32).toNatClampNeg ∨ 10 < (0 : Int32).toNatClampNeg + (10 : Int32).toNatClampNeg) then none else
  some (u2 (u2 (u2 (u1 (u1 NS 1 (a_cpy (H 5) (NS 1) (0 : Int32).toNatClampNeg (0 : Int32).toNatClampNeg (10 : Int32).toNatClampNeg)) 2 (a_cpy (H 6) ((u1 NS 1 (a_cpy (H 5) (NS 1) (0 : Int32).toNatClampNeg (0 : Int32).toNatClampNeg (10 : Int32).toNatClampNeg)) 2) (0 : Int32).toNatClampNeg (0 : Int32).toNatClampNeg (10 : Int32).toNatClampNeg)) 3 0 0) 0 3 0) 0 4 0)
def f_Y_house (Y : (Nat → Nat → Int32)) (T : (Nat → Nat → Int32)) (H2 : (Nat → Nat → Int32)) (RU : (Nat → Nat → Int32)) (NS : (Nat → Nat → Int32)) (hs : Nat) (hm : Nat) (w : Nat) (p1 : Int32) : Option (Nat × Int32 × (Nat → Nat → Int32) × (Nat → Nat → Int32) × (Nat → Nat → Int32) × (Nat → Nat → Int32) × (Nat → Nat → Int32) × Nat × Nat × Nat) :=
  (((
    (((
      if p1 < 0 then
        some (.inl ())
      else
        if (T 0 1) < p1 then
          some (.inl ())
        else
          some (.inr 1)) : Option ((Unit) ⊕ (Int32)))).bind fun b3 => sumE b3 (fun _ =>
    some 0) (fun q => some q)) : Option (Int32))).bind fun v1 =>
  (f_Y_refuseUnless Y v1).bind fun c4 =>
  if c4.1 = 0 then
    (f_Tape_open T p1).bind fun c5 =>
    (f_House_read c5.1 H2 c5.2).bind fun c6 =>
    (f_Tape_empty c6.1).bind fun T_9 =>
    (f_Tape_failed T_9).bind fun x10 =>
    if x10 = 0 then
      (f_Rule_forget RU).bind fun RU_11 =>
      (f_State_start c6.2.1 NS).bind fun NS_12 =>
      some (0, (c6.2.1 0 3), (u2 c4.2 0 3 0), T_9, c6.2.1, RU_11, NS_12, hs, hm, c6.2.2)
    else
      some (0, ((T_9 0 8) - 10), c4.2, T_9, c6.2.1, RU, NS, hm, hs, c6.2.2)
  else
    some (c4.1, 0, c4.2, T, H2, RU, NS, hm, hs, w)
def f_Target_read_l10 (H : (Nat → Nat → Int32)) (v1 : Int32) (v2 : Int32) (T_6 : (Nat → Nat → Int32)) (ST_7 : (Nat → Nat → Int32)) (w8 : Nat) : Option ((Int32 × Int32 × (Nat → Nat → Int32) × (Nat → Nat → Int32) × Nat) ⊕ ((Nat → Nat → Int32) × (Nat → Nat → Int32) × Nat)) :=
  if 10 < v2 then
    some (.inr (T_6, ST_7, w8))
  else
    (f_Tape_failed T_6).bind fun x9 =>
    if x9 ≠ 0 then
      some (.inr (T_6, ST_7, w8))
    else
      (f_Tape_atEnd T_6).bind fun x10 =>
      if x10 ≠ 0 then
        some (.inr (T_6, ST_7, w8))
      else
        (((
          if (T_6 0 3) ≠ 1 then
            some T_6
          else
            if (H 0 3) ≤ (T_6 0 6) then
              some T_6
            else
              if ((a_shr v1 (T_6 0 6)) &&& 1) = 0 then
                some T_6
              else
                (f_Tape_fail T_6 2).bind fun T_11 =>
                some T_11) : Option ((Nat → Nat → Int32)))).bind fun T_12 =>
        (f_Tape_number T_12 w8 0 ((H 0 3) - 1)).bind fun c6 =>
        (f_Tape_number c6.2.1 c6.2.2 0 ((H 0 0) - 1)).bind fun c7 =>
        (f_Tape_number c7.2.1 c7.2.2 0 ((H 0 1) - 1)).bind fun c8 =>
        (f_Tape_pass c8.2.1 c8.2.2 59).bind fun c9 =>
        if c9.1 = 0 then
          some (.inl (v1, (v2 + 1), c9.2.1, ST_7, c9.2.2))
        else
          if 10 ≤ (ST_7 0 0) then
            some (.inl (v1, (v2 + 1), c9.2.1, ST_7, c9.2.2))
          else
            (ixx 10 (ST_7 0 0)).bind fun j25 =>
            (f_Y_placeOf c7.1 c8.1).bind fun x26 =>
            (ixx 10 ((u2 ST_7 1 j25 c6.1) 0 0)).bind fun j27 =>
            some (.inl ((v1 ||| (a_shl 1 c6.1)), (v2 + 1), c9.2.1, (u2 (u2 (u2 ST_7 1 j25 c6.1) 2 j27 x26) 0 0 (((u2 (u2 ST_7 1 j25 c6.1) 2 j27 x26) 0 0) + 1)), c9.2.2))
def f_Target_read (T : (Nat → Nat → Int32)) (H : (Nat → Nat → Int32)) (ST : (Nat → Nat → Int32)) (w : Nat) : Option ((Nat → Nat → Int32) × (Nat → Nat → Int32) × Nat) :=
  (loopN (fun q => f_Target_read_l10 H q.1 q.2.1 q.2.2.1 q.2.2.2.1 q.2.2.2.2) a_F (0, 0, T, (u2 ST 0 0 0), w)).bind fun p11_ =>
  some (p11_.1, p11_.2.1, p11_.2.2)
def f_Target_copy (SB : (Nat → Nat → Int32)) (SA : (Nat → Nat → Int32)) : Option ((Nat → Nat → Int32)) :=
  if ((0 : Int32) < 0 ∨ (0 : Int32) < 0 ∨ (10 : Int32) < 0 ∨ 10 < (0 : Int32).toNatClampNeg + (10 : Int32).toNatClampNeg ∨ 10 < (0 : Int32).toNatClampNeg + (10 : Int32).toNatClampNeg) then none else
  if ((0 : Int32) < 0 ∨ (0 : Int32) < 0 ∨ (10 : Int32) < 0 ∨ 10 < (0 : Int32).toNatClampNeg + (10 : Int32).toNatClampNeg ∨ 10 < (0 : Int32).toNatClampNeg + (10 : Int32).toNatClampNeg) then none else
  some (u1 (u1 (u2 SA 3 0 (SB 0 0)) 4 (a_cpy (SB 1) ((u2 SA 3 0 (SB 0 0)) 4) (0 : Int32).toNatClampNeg (0 : Int32).toNatClampNeg (10 : Int32).toNatClampNeg)) 5 (a_cpy (SB 2) ((u1 (u2 SA 3 0 (SB 0 0)) 4 (a_cpy (SB 1) ((u2 SA 3 0 (SB 0 0)) 4) (0 : Int32).toNatClampNeg (0 : Int32).toNatClampNeg (10 : Int32).toNatClampNeg)) 5) (0 : Int32).toNatClampNeg (0 : Int32).toNatClampNeg (10 : Int32).toNatClampNeg))
def f_Y_target (Y : (Nat → Nat → Int32)) (T : (Nat → Nat → Int32)) (H : (Nat → Nat → Int32)) (ST : (Nat → Nat → Int32)) (NS : (Nat → Nat → Int32)) (w : Nat) (p1 : Int32) : Option (Nat × Int32 × (Nat → Nat → Int32) × (Nat → Nat → Int32) × (Nat → Nat → Int32) × (Nat → Nat → Int32) × Nat) :=
  (((
    (((
      if p1 < 0 then
        some (.inl ())
      else
        if (T 0 1) < p1 then
          some (.inl ())
        else
          if 120 < p1 then
            some (.inl ())
          else
            some (.inr 1)) : Option ((Unit) ⊕ (Int32)))).bind fun b3 => sumE b3 (fun _ =>
    some 0) (fun q => some q)) : Option (Int32))).bind fun v1 =>
  (f_Y_refuseUnless Y v1).bind fun c4 =>
  if c4.1 = 0 then
    (f_Tape_open T p1).bind fun c5 =>
    (f_Target_read c5.1 H ST c5.2).bind fun c6 =>
    (f_Tape_empty c6.1).bind fun T_9 =>
    (f_Tape_failed T_9).bind fun x10 =>
    if x10 = 0 then
      (f_Target_copy c6.2.1 NS).bind fun NS_11 =>
      some (0, (NS_11 3 0), c4.2, T_9, c6.2.1, NS_11, c6.2.2)
    else
      some (0, ((T_9 0 8) - 10), c4.2, T_9, c6.2.1, NS, c6.2.2)
  else
    some (c4.1, 0, c4.2, T, ST, NS, w)
def f_Rule_emit (RU : (Nat → Nat → Int32)) (p1 : Int32) : Option ((Nat → Nat → Int32)) :=
  if 150 ≤ (RU 0 1) then
    some RU
  else
    (ixx 150 (RU 0 1)).bind fun j1 =>
    some (u2 (u2 RU 1 j1 p1) 0 1 (((u2 RU 1 j1 p1) 0 1) + 1))
def f_Rule_readAny_B_l8 (rc : (Nat → (Nat → Nat → Int32) → (Nat → Nat → Int32) → Nat → Int32 → Option ((Nat → Nat → Int32) × (Nat → Nat → Int32) × Nat))) (p2 : Int32) (v4 : Int32) (T_5 : (Nat → Nat → Int32)) (RU_6 : (Nat → Nat → Int32)) (w7 : Nat) : Option ((Int32 × (Nat → Nat → Int32) × (Nat → Nat → Int32) × Nat) ⊕ ((Nat → Nat → Int32) × (Nat → Nat → Int32) × Nat)) :=
  if 150 ≤ v4 then
    some (.inr (T_5, RU_6, w7))
  else
    (f_Tape_failed T_5).bind fun x8 =>
    if x8 ≠ 0 then
      some (.inr (T_5, RU_6, w7))
    else
      if okW w7 ∧ okW 2570 then (if w7 = 2570 then
        (f_Tape_advance T_5).bind fun c4 =>
        (rc 1 c4.1 RU_6 c4.2 p2).bind fun c5 =>
        (f_Rule_emit c5.2.1 202).bind fun RU_14 =>
        some (.inl ((v4 + 1), c5.1, RU_14, c5.2.2))
      else
        some (.inr (T_5, RU_6, w7))) else none
def f_Rule_readAny_B (rc : (Nat → (Nat → Nat → Int32) → (Nat → Nat → Int32) → Nat → Int32 → Option ((Nat → Nat → Int32) × (Nat → Nat → Int32) × Nat))) (T : (Nat → Nat → Int32)) (RU : (Nat → Nat → Int32)) (w : Nat) (p2 : Int32) : Option ((Nat → Nat → Int32) × (Nat → Nat → Int32) × Nat) :=
  (rc 1 T RU w p2).bind fun c1 =>
  (loopN (fun q => f_Rule_readAny_B_l8 rc p2 q.1 q.2.1 q.2.2.1 q.2.2.2) a_F (0, c1.1, c1.2.1, c1.2.2)).bind fun p7_ =>
  some (p7_.1, p7_.2.1, p7_.2.2)
def f_Rule_readAll_B_l8 (rc : (Nat → (Nat → Nat → Int32) → (Nat → Nat → Int32) → Nat → Int32 → Option ((Nat → Nat → Int32) × (Nat → Nat → Int32) × Nat))) (p2 : Int32) (v4 : Int32) (T_5 : (Nat → Nat → Int32)) (RU_6 : (Nat → Nat → Int32)) (w7 : Nat) : Option ((Int32 × (Nat → Nat → Int32) × (Nat → Nat → Int32) × Nat) ⊕ ((Nat → Nat → Int32) × (Nat → Nat → Int32) × Nat)) :=
  if 150 ≤ v4 then
    some (.inr (T_5, RU_6, w7))
  else
    (f_Tape_failed T_5).bind fun x8 =>
    if x8 ≠ 0 then
      some (.inr (T_5, RU_6, w7))
    else
      if okW w7 ∧ okW 2571 then (if w7 = 2571 then
        (f_Tape_advance T_5).bind fun c4 =>
        (rc 2 c4.1 RU_6 c4.2 p2).bind fun c5 =>
        (f_Rule_emit c5.2.1 201).bind fun RU_14 =>
        some (.inl ((v4 + 1), c5.1, RU_14, c5.2.2))
      else
        some (.inr (T_5, RU_6, w7))) else none
def f_Rule_readAll_B (rc : (Nat → (Nat → Nat → Int32) → (Nat → Nat → Int32) → Nat → Int32 → Option ((Nat → Nat → Int32) × (Nat → Nat → Int32) × Nat))) (T : (Nat → Nat → Int32)) (RU : (Nat → Nat → Int32)) (w : Nat) (p2 : Int32) : Option ((Nat → Nat → Int32) × (Nat → Nat → Int32) × Nat) :=
  (rc 2 T RU w p2).bind fun c1 =>
  (loopN (fun q => f_Rule_readAll_B_l8 rc p2 q.1 q.2.1 q.2.2.1 q.2.2.2) a_F (0, c1.1, c1.2.1, c1.2.2)).bind fun p7_ =>
  some (p7_.1, p7_.2.1, p7_.2.2)
def f_Rule_opens (T : (Nat → Nat → Int32)) (w : Nat) (p2 : Int32) : Option (Int32 × (Nat → Nat → Int32) × Nat) :=
  if p2 < 6 then
    (f_Tape_advance T).bind fun c1 =>
    some ((zb 1), c1.1, c1.2)
  else
    (f_Tape_fail T 3).bind fun T_3 =>
    some ((zb 0), T_3, w)
def f_Rule_readOne_B (rc : (Nat → (Nat → Nat → Int32) → (Nat → Nat → Int32) → Nat → Int32 → Option ((Nat → Nat → Int32) × (Nat → Nat → Int32) × Nat))) (T : (Nat → Nat → Int32)) (RU : (Nat → Nat → Int32)) (w : Nat) (p2 : Int32) : Option ((Nat → Nat → Int32) × (Nat → Nat → Int32) × Nat) :=
  (f_Tape_failed T).bind fun x1 =>
  if x1 = 0 then
    if okW w ∧ okW 2572 then (if w = 2572 then
      (f_Rule_opens T w p2).bind fun c2 =>
      if c2.1 = 0 then
        some (c2.2.1, RU, c2.2.2)
      else
        (rc 2 c2.2.1 RU c2.2.2 (p2 + 1)).bind fun c3 =>
        (f_Rule_emit c3.2.1 200).bind fun RU_8 =>
        some (c3.1, RU_8, c3.2.2)
    else
      (f_Tape_atSign T 91).bind fun x9 =>
      if x9 = 0 then
        (rc 6 T RU w p2).bind fun c6 =>
        some (c6.1, c6.2.1, c6.2.2)
      else
        (f_Rule_opens T w p2).bind fun c7 =>
        if c7.1 = 0 then
          some (c7.2.1, RU, c7.2.2)
        else
          (rc 0 c7.2.1 RU c7.2.2 (p2 + 1)).bind fun c8 =>
          (f_Tape_pass c8.1 c8.2.2 93).bind fun c9 =>
          some (c9.2.1, c8.2.1, c9.2.2)) else none
  else
    some (T, RU, w)
def f_Rule_readSum_B_l8 (rc : (Nat → (Nat → Nat → Int32) → (Nat → Nat → Int32) → Nat → Int32 → Option ((Nat → Nat → Int32) × (Nat → Nat → Int32) × Nat))) (p2 : Int32) (v4 : Int32) (T_6 : (Nat → Nat → Int32)) (RU_7 : (Nat → Nat → Int32)) (w8 : Nat) : Option ((Int32 × (Nat → Nat → Int32) × (Nat → Nat → Int32) × Nat) ⊕ ((Nat → Nat → Int32) × (Nat → Nat → Int32) × Nat)) :=
  if 150 ≤ v4 then
    some (.inr (T_6, RU_7, w8))
  else
    (f_Tape_failed T_6).bind fun x9 =>
    if x9 ≠ 0 then
      some (.inr (T_6, RU_7, w8))
    else
      (f_Tape_atSign T_6 43).bind fun x10 =>
      (((
        if x10 ≠ 0 then
          some (.inl ())
        else
          (f_Tape_atSign T_6 45).bind fun x11 =>
          if x11 = 0 then
            some (.inr (.inr (T_6, RU_7, w8)))
          else
            some (.inl ())) : Option ((Unit) ⊕ ((Int32 × (Nat → Nat → Int32) × (Nat → Nat → Int32) × Nat) ⊕ ((Nat → Nat → Int32) × (Nat → Nat → Int32) × Nat))))).bind fun b12 => sumE b12 (fun _ =>
      (f_Tape_atSign T_6 43).bind fun x12 =>
      (((
        if x12 = 0 then
          some 207
        else
          some 206) : Option (Int32))).bind fun v13 =>
      (f_Tape_advance T_6).bind fun c9 =>
      (rc 4 c9.1 RU_7 c9.2 p2).bind fun c10 =>
      (f_Rule_emit c10.2.1 v13).bind fun RU_19 =>
      some (.inl ((v4 + 1), c10.1, RU_19, c10.2.2))) (fun q => some q)
def f_Rule_readSum_B (rc : (Nat → (Nat → Nat → Int32) → (Nat → Nat → Int32) → Nat → Int32 → Option ((Nat → Nat → Int32) × (Nat → Nat → Int32) × Nat))) (T : (Nat → Nat → Int32)) (RU : (Nat → Nat → Int32)) (w : Nat) (p2 : Int32) : Option ((Nat → Nat → Int32) × (Nat → Nat → Int32) × Nat) :=
  (rc 4 T RU w p2).bind fun c1 =>
  (loopN (fun q => f_Rule_readSum_B_l8 rc p2 q.1 q.2.1 q.2.2.1 q.2.2.2) a_F (0, c1.1, c1.2.1, c1.2.2)).bind fun p13_ =>
  some (p13_.1, p13_.2.1, p13_.2.2)
def f_Rule_readProduct_B_l8 (rc : (Nat → (Nat → Nat → Int32) → (Nat → Nat → Int32) → Nat → Int32 → Option ((Nat → Nat → Int32) × (Nat → Nat → Int32) × Nat))) (p2 : Int32) (v4 : Int32) (T_5 : (Nat → Nat → Int32)) (RU_6 : (Nat → Nat → Int32)) (w7 : Nat) : Option ((Int32 × (Nat → Nat → Int32) × (Nat → Nat → Int32) × Nat) ⊕ ((Nat → Nat → Int32) × (Nat → Nat → Int32) × Nat)) :=
  if 150 ≤ v4 then
    some (.inr (T_5, RU_6, w7))
  else
    (f_Tape_failed T_5).bind fun x8 =>
    if x8 ≠ 0 then
      some (.inr (T_5, RU_6, w7))
    else
      (f_Tape_atSign T_5 42).bind fun x9 =>
      if x9 = 0 then
        some (.inr (T_5, RU_6, w7))
      else
        (f_Tape_advance T_5).bind fun c5 =>
        (rc 5 c5.1 RU_6 c5.2 p2).bind fun c6 =>
        (f_Rule_emit c6.2.1 208).bind fun RU_15 =>
        some (.inl ((v4 + 1), c6.1, RU_15, c6.2.2))
def f_Rule_readProduct_B (rc : (Nat → (Nat → Nat → Int32) → (Nat → Nat → Int32) → Nat → Int32 → Option ((Nat → Nat → Int32) × (Nat → Nat → Int32) × Nat))) (T : (Nat → Nat → Int32)) (RU : (Nat → Nat → Int32)) (w : Nat) (p2 : Int32) : Option ((Nat → Nat → Int32) × (Nat → Nat → Int32) × Nat) :=
  (rc 5 T RU w p2).bind fun c1 =>
  (loopN (fun q => f_Rule_readProduct_B_l8 rc p2 q.1 q.2.1 q.2.2.1 q.2.2.2) a_F (0, c1.1, c1.2.1, c1.2.2)).bind fun p8_ =>
  some (p8_.1, p8_.2.1, p8_.2.2)
def f_Rule_readUnit_B (rc : (Nat → (Nat → Nat → Int32) → (Nat → Nat → Int32) → Nat → Int32 → Option ((Nat → Nat → Int32) × (Nat → Nat → Int32) × Nat))) (T : (Nat → Nat → Int32)) (RU : (Nat → Nat → Int32)) (w : Nat) (p2 : Int32) : Option ((Nat → Nat → Int32) × (Nat → Nat → Int32) × Nat) :=
  (f_Tape_failed T).bind fun x1 =>
  if x1 = 0 then
    (((
      if okW w then (if w = 0 then
        some (.inl ())
      else
        if isW w then
        if (w_slot w) = (-1) then
          some (.inl ())
        else
          if isW w then
          (f_Rule_emit RU (100 + (w_slot w))).bind fun RU_2 =>
          (f_Tape_advance T).bind fun c4 =>
          some (.inr (c4.1, RU_2, c4.2))
          else none
        else none) else none) : Option ((Unit) ⊕ ((Nat → Nat → Int32) × (Nat → Nat → Int32) × Nat)))).bind fun b11 => sumE b11 (fun _ =>
    (f_Tape_atSign T 40).bind fun x5 =>
    if x5 = 0 then
      (f_Tape_number T w 0 99).bind fun c6 =>
      (f_Rule_emit RU c6.1).bind fun RU_9 =>
      some (c6.2.1, RU_9, c6.2.2)
    else
      (f_Rule_opens T w p2).bind fun c8 =>
      if c8.1 = 0 then
        some (c8.2.1, RU, c8.2.2)
      else
        (rc 3 c8.2.1 RU c8.2.2 (p2 + 1)).bind fun c9 =>
        (f_Tape_pass c9.1 c9.2.2 41).bind fun c10 =>
        some (c10.2.1, c9.2.1, c10.2.2)) (fun q => some q)
  else
    some (T, RU, w)
def f_Rule_readComparison_B (rc : (Nat → (Nat → Nat → Int32) → (Nat → Nat → Int32) → Nat → Int32 → Option ((Nat → Nat → Int32) × (Nat → Nat → Int32) × Nat))) (T : (Nat → Nat → Int32)) (RU : (Nat → Nat → Int32)) (w : Nat) (p2 : Int32) : Option ((Nat → Nat → Int32) × (Nat → Nat → Int32) × Nat) :=
  (rc 3 T RU w p2).bind fun c1 =>
  (f_Tape_failed c1.1).bind fun x4 =>
  if x4 = 0 then
    (f_Tape_atSign c1.1 60).bind fun x5 =>
    (((
      if x5 = 0 then
        (f_Tape_atSign c1.1 62).bind fun x6 =>
        if x6 = 0 then
          some 205
        else
          some 204
      else
        some 203) : Option (Int32))).bind fun v7 =>
    (((
      if v7 ≠ 205 then
        some (.inl ())
      else
        (f_Tape_atSign c1.1 61).bind fun x8 =>
        if x8 ≠ 0 then
          some (.inl ())
        else
          (f_Tape_fail c1.1 1).bind fun T_9 =>
          some (.inr (T_9, c1.2.1, c1.2.2))) : Option ((Unit) ⊕ ((Nat → Nat → Int32) × (Nat → Nat → Int32) × Nat)))).bind fun b12 => sumE b12 (fun _ =>
    (f_Tape_advance c1.1).bind fun c9 =>
    (rc 3 c9.1 c1.2.1 c9.2 p2).bind fun c10 =>
    (f_Rule_emit c10.2.1 v7).bind fun RU_15 =>
    some (c10.1, RU_15, c10.2.2)) (fun q => some q)
  else
    some (c1.1, c1.2.1, c1.2.2)
def f_grp_cr : Nat → (Nat → (Nat → Nat → Int32) → (Nat → Nat → Int32) → Nat → Int32 → Option ((Nat → Nat → Int32) × (Nat → Nat → Int32) × Nat))
  | 0, _ => fun _ _ _ _ => none
  | n + 1, k => if k = 0 then f_Rule_readAny_B (f_grp_cr n) else if k = 1 then f_Rule_readAll_B (f_grp_cr n) else if k = 2 then f_Rule_readOne_B (f_grp_cr n) else if k = 3 then f_Rule_readSum_B (f_grp_cr n) else if k = 4 then f_Rule_readProduct_B (f_grp_cr n) else if k = 5 then f_Rule_readUnit_B (f_grp_cr n) else f_Rule_readComparison_B (f_grp_cr n)
def f_Rule_read (T : (Nat → Nat → Int32)) (RU : (Nat → Nat → Int32)) (w : Nat) : Option ((Nat → Nat → Int32) × (Nat → Nat → Int32) × Nat) :=
  (f_Rule_forget RU).bind fun RU_1 =>
  (f_grp_cr 40 0 T RU_1 w 0).bind fun c2 =>
  (f_Tape_atEnd c2.1).bind fun x5 =>
  if x5 ≠ 0 then
    some (c2.1, c2.2.1, c2.2.2)
  else
    (f_Tape_fail c2.1 1).bind fun T_6 =>
    some (T_6, c2.2.1, c2.2.2)
def f_Y_rule (Y : (Nat → Nat → Int32)) (T : (Nat → Nat → Int32)) (RV : (Nat → Nat → Int32)) (qs : Nat) (qm : Nat) (w : Nat) (p1 : Int32) : Option (Nat × Int32 × (Nat → Nat → Int32) × (Nat → Nat → Int32) × (Nat → Nat → Int32) × Nat × Nat × Nat) :=
  (((
    (((
      if p1 < 0 then
        some (.inl ())
      else
        if (T 0 1) < p1 then
          some (.inl ())
        else
          if 150 < p1 then
            some (.inl ())
          else
            some (.inr 1)) : Option ((Unit) ⊕ (Int32)))).bind fun b3 => sumE b3 (fun _ =>
    some 0) (fun q => some q)) : Option (Int32))).bind fun v1 =>
  (f_Y_refuseUnless Y v1).bind fun c4 =>
  if c4.1 = 0 then
    (f_Tape_open T p1).bind fun c5 =>
    (f_Rule_read c5.1 RV c5.2).bind fun c6 =>
    (f_Tape_empty c6.1).bind fun T_9 =>
    (f_Tape_failed T_9).bind fun x10 =>
    if x10 = 0 then
      some (0, 1, c4.2, T_9, c6.2.1, qs, qm, c6.2.2)
    else
      some (0, ((T_9 0 8) - 10), c4.2, T_9, c6.2.1, qm, qs, c6.2.2)
  else
    some (c4.1, 0, c4.2, T, RV, qm, qs, w)
def f_Y_fault (T : (Nat → Nat → Int32)) : Option (Int32) :=
  some (T 0 9)
def f_State_isHeld (NS : (Nat → Nat → Int32)) (p1 : Int32) : Option (Int32) :=
  if ((a_shr (NS 0 3) p1) &&& 1) ≠ 0 then
    some (zb 0)
  else
    some (zb 1)
def f_Y_roomOf (p0 : Int32) : Option (Int32) :=
  some (a_rem p0 3)
def f_Y_hourOf (p0 : Int32) : Option (Int32) :=
  some (p0 / 3)
def f_Board_load_l45 (H : (Nat → Nat → Int32)) (NS : (Nat → Nat → Int32)) (v1 : Int32) (BO_2 : (Nat → Nat → Int32)) : Option ((Int32 × (Nat → Nat → Int32)) ⊕ ((Nat → Nat → Int32))) :=
  if (H 0 4) ≤ v1 then
    some (.inr BO_2)
  else
    (f_State_isHeld NS v1).bind fun x3 =>
    if x3 = 0 then
      some (.inl ((v1 + 1), BO_2))
    else
      (rdx (H 11) 4 v1).bind fun x4 =>
      (f_Y_roomOf x4).bind fun x5 =>
      (rdx (BO_2 3) 3 x5).bind fun x6 =>
      (rdx (H 11) 4 v1).bind fun x7 =>
      (f_Y_hourOf x7).bind fun x8 =>
      (ixx 3 x5).bind fun j9 =>
      some (.inl ((v1 + 1), (u2 BO_2 3 j9 (x6 ||| (a_shl 1 x8)))))
def f_Board_load (H : (Nat → Nat → Int32)) (NS : (Nat → Nat → Int32)) (BO : (Nat → Nat → Int32)) : Option ((Nat → Nat → Int32)) :=
  if ((0 : Int32) < 0 ∨ (0 : Int32) < 0 ∨ (10 : Int32) < 0 ∨ 10 < (0 : Int32).toNatClampNeg + (10 : Int32).toNatClampNeg ∨ 10 < (0 : Int32).toNatClampNeg + (10 : Int32).toNatClampNeg) then none else
  if ((0 : Int32) < 0 ∨ (0 : Int32) < 0 ∨ (10 : Int32) < 0 ∨ 10 < (0 : Int32).toNatClampNeg + (10 : Int32).toNatClampNeg ∨ 10 < (0 : Int32).toNatClampNeg + (10 : Int32).toNatClampNeg) then none else
  (loopN (fun q => f_Board_load_l45 H NS q.1 q.2) a_F (0, (u1 (u1 (u1 BO 1 (a_cpy (NS 1) (BO 1) (0 : Int32).toNatClampNeg (0 : Int32).toNatClampNeg (10 : Int32).toNatClampNeg)) 2 (a_cpy (NS 2) ((u1 BO 1 (a_cpy (NS 1) (BO 1) (0 : Int32).toNatClampNeg (0 : Int32).toNatClampNeg (10 : Int32).toNatClampNeg)) 2) (0 : Int32).toNatClampNeg (0 : Int32).toNatClampNeg (10 : Int32).toNatClampNeg)) 3 (filM ((u1 (u1 BO 1 (a_cpy (NS 1) (BO 1) (0 : Int32).toNatClampNeg (0 : Int32).toNatClampNeg (10 : Int32).toNatClampNeg)) 2 (a_cpy (NS 2) ((u1 BO 1 (a_cpy (NS 1) (BO 1) (0 : Int32).toNatClampNeg (0 : Int32).toNatClampNeg (10 : Int32).toNatClampNeg)) 2) (0 : Int32).toNatClampNeg (0 : Int32).toNatClampNeg (10 : Int32).toNatClampNeg)) 3) 3 0)))).bind fun BO_11 =>
  some BO_11
def f_Y_lookNow (H : (Nat → Nat → Int32)) (NS : (Nat → Nat → Int32)) (BO : (Nat → Nat → Int32)) : Option ((Nat → Nat → Int32)) :=
  (f_Board_load H NS BO).bind fun BO_1 =>
  some BO_1
def f_Board_placed_l4 (H : (Nat → Nat → Int32)) (BO : (Nat → Nat → Int32)) (v1 : Int32) (v2 : Int32) : Option ((Int32 × Int32) ⊕ (Int32)) :=
  if (H 0 3) ≤ v2 then
    some (.inr v1)
  else
    (rdx (BO 1) 10 v2).bind fun x3 =>
    if x3 = (-1) then
      some (.inl (v1, (v2 + 1)))
    else
      some (.inl ((v1 ||| (a_shl 1 v2)), (v2 + 1)))
def f_Board_placed (H : (Nat → Nat → Int32)) (BO : (Nat → Nat → Int32)) : Option (Int32) :=
  (loopN (fun q => f_Board_placed_l4 H BO q.1 q.2) a_F (0, 0)).bind fun v4 =>
  some v4
def f_Integer_bitCount (p0 : Int32) : Option (Int32) :=
  some ((((((((p0 - ((a_ushr p0 1) &&& 1431655765)) &&& 858993459) + ((a_ushr (p0 - ((a_ushr p0 1) &&& 1431655765)) 2) &&& 858993459)) + (a_ushr (((p0 - ((a_ushr p0 1) &&& 1431655765)) &&& 858993459) + ((a_ushr (p0 - ((a_ushr p0 1) &&& 1431655765)) 2) &&& 858993459)) 4)) &&& 252645135) + (a_ushr (((((p0 - ((a_ushr p0 1) &&& 1431655765)) &&& 858993459) + ((a_ushr (p0 - ((a_ushr p0 1) &&& 1431655765)) 2) &&& 858993459)) + (a_ushr (((p0 - ((a_ushr p0 1) &&& 1431655765)) &&& 858993459) + ((a_ushr (p0 - ((a_ushr p0 1) &&& 1431655765)) 2) &&& 858993459)) 4)) &&& 252645135) 8)) + (a_ushr ((((((p0 - ((a_ushr p0 1) &&& 1431655765)) &&& 858993459) + ((a_ushr (p0 - ((a_ushr p0 1) &&& 1431655765)) 2) &&& 858993459)) + (a_ushr (((p0 - ((a_ushr p0 1) &&& 1431655765)) &&& 858993459) + ((a_ushr (p0 - ((a_ushr p0 1) &&& 1431655765)) 2) &&& 858993459)) 4)) &&& 252645135) + (a_ushr (((((p0 - ((a_ushr p0 1) &&& 1431655765)) &&& 858993459) + ((a_ushr (p0 - ((a_ushr p0 1) &&& 1431655765)) 2) &&& 858993459)) + (a_ushr (((p0 - ((a_ushr p0 1) &&& 1431655765)) &&& 858993459) + ((a_ushr (p0 - ((a_ushr p0 1) &&& 1431655765)) 2) &&& 858993459)) 4)) &&& 252645135) 8)) 16)) &&& 63)
def f_Y_told (Y : (Nat → Nat → Int32)) (H : (Nat → Nat → Int32)) (NS : (Nat → Nat → Int32)) (BO : (Nat → Nat → Int32)) (r5 : Nat) (hm : Nat) (p1 : Int32) : Option (Nat × Int32 × (Nat → Nat → Int32) × (Nat → Nat → Int32) × Nat) :=
  (((
    (((
      if p1 < 0 then
        some (.inl ())
      else
        if 6 < p1 then
          some (.inl ())
        else
          some (.inr 1)) : Option ((Unit) ⊕ (Int32)))).bind fun b3 => sumE b3 (fun _ =>
    some 0) (fun q => some q)) : Option (Int32))).bind fun v1 =>
  (f_Y_refuseUnless Y v1).bind fun c4 =>
  if c4.1 = 0 then
    if p1 = 0 then
      some (0, (H 0 0), c4.2, BO, r5)
    else if p1 = 1 then
      some (0, (H 0 1), c4.2, BO, r5)
    else if p1 = 2 then
      some (0, (H 0 2), c4.2, BO, r5)
    else if p1 = 3 then
      some (0, (H 0 3), c4.2, BO, r5)
    else if p1 = 4 then
      some (0, (H 0 4), c4.2, BO, r5)
    else if p1 = 5 then
      some (0, (NS 3 0), c4.2, BO, r5)
    else 
      (f_Y_lookNow H NS BO).bind fun BO_5 =>
      (f_Board_placed H BO_5).bind fun x6 =>
      (f_Integer_bitCount x6).bind fun x7 =>
      some (0, ((H 0 3) - x7), c4.2, BO_5, hm)
  else
    some (c4.1, 0, c4.2, BO, r5)
def f_Y_needOneOf (Y : (Nat → Nat → Int32)) (p1 : Int32) (p2 : Int32) : Option (Nat × (Nat → Nat → Int32)) :=
  (((
    if p1 < 0 then
      some (.inl ())
    else
      if p1 < p2 then
        some (.inr (0, Y))
      else
        some (.inl ())) : Option ((Unit) ⊕ (Nat × (Nat → Nat → Int32))))).bind fun b2 => sumE b2 (fun _ =>
  some (1, (u2 Y 0 14 ((Y 0 14) + 1)))) (fun q => some q)
def f_Y_needMeeting (Y : (Nat → Nat → Int32)) (H : (Nat → Nat → Int32)) (p1 : Int32) : Option (Nat × (Nat → Nat → Int32)) :=
  (f_Y_needOneOf Y p1 (H 0 3)).bind fun c1 =>
  if c1.1 = 0 then
    some (0, c1.2)
  else
    some (c1.1, c1.2)
def f_House_isFixed (H : (Nat → Nat → Int32)) (p1 : Int32) : Option (Int32) :=
  if ((a_shr (H 0 5) p1) &&& 1) = 0 then
    some (zb 0)
  else
    some (zb 1)
def f_Y_meeting (Y : (Nat → Nat → Int32)) (H : (Nat → Nat → Int32)) (NS : (Nat → Nat → Int32)) (p1 : Int32) (p2 : Int32) : Option (Nat × Int32 × (Nat → Nat → Int32)) :=
  (f_Y_needMeeting Y H p1).bind fun c1 =>
  if c1.1 = 0 then
    (((
      (((
        if p2 < 0 then
          some (.inl ())
        else
          if 6 < p2 then
            some (.inl ())
          else
            some (.inr 1)) : Option ((Unit) ⊕ (Int32)))).bind fun b4 => sumE b4 (fun _ =>
      some 0) (fun q => some q)) : Option (Int32))).bind fun v3 =>
    (f_Y_refuseUnless c1.2 v3).bind fun c5 =>
    if c5.1 = 0 then
      (rdx (NS 1) 10 p1).bind fun x6 =>
      if p2 = 0 then
        if x6 ≠ (-1) then
          (f_Y_hourOf x6).bind fun x7 =>
          some (0, x7, c5.2)
        else
          some (0, (-1), c5.2)
      else if p2 = 1 then
        if x6 ≠ (-1) then
          (f_Y_roomOf x6).bind fun x8 =>
          some (0, x8, c5.2)
        else
          some (0, (-1), c5.2)
      else if p2 = 2 then
        (rdx (H 7) 10 p1).bind fun x9 =>
        some (0, x9, c5.2)
      else if p2 = 3 then
        (f_House_isFixed H p1).bind fun x10 =>
        if x10 = 0 then
          some (0, 0, c5.2)
        else
          some (0, 1, c5.2)
      else if p2 = 4 then
        (rdx (NS 2) 10 p1).bind fun x11 =>
        some (0, x11, c5.2)
      else if p2 = 5 then
        (rdx (H 8) 10 p1).bind fun x12 =>
        some (0, x12, c5.2)
      else 
        (f_House_mayHours H p1).bind fun x13 =>
        some (0, x13, c5.2)
    else
      some (c5.1, 0, c5.2)
  else
    some (c1.1, 0, c1.2)
def f_Y_needPerson (Y : (Nat → Nat → Int32)) (H : (Nat → Nat → Int32)) (p1 : Int32) : Option (Nat × (Nat → Nat → Int32)) :=
  (f_Y_needOneOf Y p1 (H 0 2)).bind fun c1 =>
  if c1.1 = 0 then
    some (0, c1.2)
  else
    some (c1.1, c1.2)
def f_House_isMember (H : (Nat → Nat → Int32)) (p1 : Int32) (p2 : Int32) : Option (Int32) :=
  (rdx (H 8) 10 p1).bind fun x1 =>
  if ((a_shr x1 p2) &&& 1) = 0 then
    some (zb 0)
  else
    some (zb 1)
def f_House_meetingsOf_l4 (H : (Nat → Nat → Int32)) (p1 : Int32) (v1 : Int32) (v2 : Int32) : Option ((Int32 × Int32) ⊕ (Int32)) :=
  if (H 0 3) ≤ v2 then
    some (.inr v1)
  else
    (f_House_isMember H v2 p1).bind fun x3 =>
    if x3 = 0 then
      some (.inl (v1, (v2 + 1)))
    else
      some (.inl ((v1 ||| (a_shl 1 v2)), (v2 + 1)))
def f_House_meetingsOf (H : (Nat → Nat → Int32)) (p1 : Int32) : Option (Int32) :=
  (loopN (fun q => f_House_meetingsOf_l4 H p1 q.1 q.2) a_F (0, 0)).bind fun v4 =>
  some v4
def f_Board_bears_l4 (H : (Nat → Nat → Int32)) (BO : (Nat → Nat → Int32)) (p1 : Int32) (v1 : Int32) (v2 : Int32) : Option ((Int32 × Int32) ⊕ (Int32)) :=
  if (H 0 3) ≤ v2 then
    some (.inr v1)
  else
    (f_House_isMember H v2 p1).bind fun x3 =>
    if x3 = 0 then
      some (.inl (v1, (v2 + 1)))
    else
      (rdx (BO 2) 10 v2).bind fun x4 =>
      some (.inl ((v1 + x4), (v2 + 1)))
def f_Board_bears (H : (Nat → Nat → Int32)) (BO : (Nat → Nat → Int32)) (p1 : Int32) : Option (Int32) :=
  (loopN (fun q => f_Board_bears_l4 H BO p1 q.1 q.2) a_F (0, 0)).bind fun v5 =>
  some v5
def f_Y_person (Y : (Nat → Nat → Int32)) (H : (Nat → Nat → Int32)) (NS : (Nat → Nat → Int32)) (BO : (Nat → Nat → Int32)) (r5 : Nat) (hm : Nat) (p1 : Int32) (p2 : Int32) : Option (Nat × Int32 × (Nat → Nat → Int32) × (Nat → Nat → Int32) × Nat) :=
  (f_Y_needPerson Y H p1).bind fun c1 =>
  if c1.1 = 0 then
    (((
      (((
        if p2 < 0 then
          some (.inl ())
        else
          if 4 < p2 then
            some (.inl ())
          else
            some (.inr 1)) : Option ((Unit) ⊕ (Int32)))).bind fun b4 => sumE b4 (fun _ =>
      some 0) (fun q => some q)) : Option (Int32))).bind fun v3 =>
    (f_Y_refuseUnless c1.2 v3).bind fun c5 =>
    if c5.1 = 0 then
      if p2 = 0 then
        (rdx (H 2) 8 p1).bind fun x6 =>
        some (0, x6, c5.2, BO, r5)
      else if p2 = 1 then
        (rdx (H 3) 8 p1).bind fun x7 =>
        some (0, x7, c5.2, BO, r5)
      else if p2 = 2 then
        (rdx (H 4) 8 p1).bind fun x8 =>
        some (0, x8, c5.2, BO, r5)
      else if p2 = 3 then
        (f_Y_lookNow H NS BO).bind fun BO_10 =>
        (f_Board_placed H BO_10).bind fun x11 =>
        (f_House_meetingsOf H p1).bind fun x12 =>
        (f_Integer_bitCount (x11 &&& x12)).bind fun x13 =>
        some (0, x13, c5.2, BO_10, hm)
      else 
        (f_Y_lookNow H NS BO).bind fun BO_15 =>
        (f_Board_bears H BO_15 p1).bind fun x16 =>
        some (0, x16, c5.2, BO_15, hm)
    else
      some (c5.1, 0, c5.2, BO, r5)
  else
    some (c1.1, 0, c1.2, BO, r5)
def f_Y_needRoom (Y : (Nat → Nat → Int32)) (H : (Nat → Nat → Int32)) (p1 : Int32) : Option (Nat × (Nat → Nat → Int32)) :=
  (f_Y_needOneOf Y p1 (H 0 1)).bind fun c1 =>
  if c1.1 = 0 then
    some (0, c1.2)
  else
    some (c1.1, c1.2)
def f_Y_needHour (Y : (Nat → Nat → Int32)) (H : (Nat → Nat → Int32)) (p1 : Int32) : Option (Nat × (Nat → Nat → Int32)) :=
  (((
    (((
      if p1 < 0 then
        some (.inl ())
      else
        if (H 0 0) ≤ p1 then
          some (.inl ())
        else
          some (.inr 1)) : Option ((Unit) ⊕ (Int32)))).bind fun b3 => sumE b3 (fun _ =>
    some 0) (fun q => some q)) : Option (Int32))).bind fun v1 =>
  (f_Y_refuseUnless Y v1).bind fun c4 =>
  if c4.1 = 0 then
    some (0, c4.2)
  else
    some (c4.1, c4.2)
def f_Y_at_l19 (H : (Nat → Nat → Int32)) (NS : (Nat → Nat → Int32)) (x5 : Int32) (Y_4 : (Nat → Nat → Int32)) (v6 : Int32) : Option ((Int32) ⊕ ((Unit) ⊕ (Nat × Int32 × (Nat → Nat → Int32)))) :=
  if (H 0 3) ≤ v6 then
    some (.inr (.inl ()))
  else
    (rdx (NS 1) 10 v6).bind fun x7 =>
    if x7 ≠ x5 then
      some (.inl (v6 + 1))
    else
      some (.inr (.inr (0, v6, Y_4)))
def f_Y_at (Y : (Nat → Nat → Int32)) (H : (Nat → Nat → Int32)) (NS : (Nat → Nat → Int32)) (p1 : Int32) (p2 : Int32) : Option (Nat × Int32 × (Nat → Nat → Int32)) :=
  (f_Y_needRoom Y H p2).bind fun c1 =>
  if c1.1 = 0 then
    (f_Y_needHour c1.2 H p1).bind fun c2 =>
    if c2.1 = 0 then
      (f_Y_placeOf p1 p2).bind fun x5 =>
      (loopN (fun q => f_Y_at_l19 H NS x5 c2.2 q) a_F 0).bind fun b6 => sumE b6 (fun _ =>
      some (0, (-1), c2.2)) (fun q => some q)
    else
      some (c2.1, 0, c2.2)
  else
    some (c1.1, 0, c1.2)
def f_Y_where_l12 (H : (Nat → Nat → Int32)) (NS : (Nat → Nat → Int32)) (p1 : Int32) (p2 : Int32) (Y_4 : (Nat → Nat → Int32)) (v5 : Int32) : Option ((Int32) ⊕ ((Unit) ⊕ (Nat × Int32 × (Nat → Nat → Int32)))) :=
  if (H 0 3) ≤ v5 then
    some (.inr (.inl ()))
  else
    (f_House_isMember H v5 p1).bind fun x6 =>
    if x6 = 0 then
      some (.inl (v5 + 1))
    else
      (rdx (NS 1) 10 v5).bind fun x7 =>
      if x7 = (-1) then
        some (.inl (v5 + 1))
      else
        (rdx (NS 1) 10 v5).bind fun x8 =>
        (f_Y_hourOf x8).bind fun x9 =>
        if x9 ≠ p2 then
          some (.inl (v5 + 1))
        else
          some (.inr (.inr (0, v5, Y_4)))
def f_Y_where (Y : (Nat → Nat → Int32)) (H : (Nat → Nat → Int32)) (NS : (Nat → Nat → Int32)) (p1 : Int32) (p2 : Int32) : Option (Nat × Int32 × (Nat → Nat → Int32)) :=
  (f_Y_needPerson Y H p1).bind fun c1 =>
  if c1.1 = 0 then
    (f_Y_needHour c1.2 H p2).bind fun c2 =>
    if c2.1 = 0 then
      (loopN (fun q => f_Y_where_l12 H NS p1 p2 c2.2 q) a_F 0).bind fun b7 => sumE b7 (fun _ =>
      some (0, (-1), c2.2)) (fun q => some q)
    else
      some (c2.1, 0, c2.2)
  else
    some (c1.1, 0, c1.2)
def f_Y_needPlace (Y : (Nat → Nat → Int32)) (H : (Nat → Nat → Int32)) (p1 : Int32) (p2 : Int32) (p3 : Int32) : Option (Nat × (Nat → Nat → Int32)) :=
  (f_Y_needMeeting Y H p1).bind fun c1 =>
  if c1.1 = 0 then
    (f_Y_needRoom c1.2 H p3).bind fun c2 =>
    if c2.1 = 0 then
      (f_Y_needHour c2.2 H p2).bind fun c3 =>
      if c3.1 = 0 then
        some (0, c3.2)
      else
        some (c3.1, c3.2)
    else
      some (c2.1, c2.2)
  else
    some (c1.1, c1.2)
def f_Board_lastingClashes (H : (Nat → Nat → Int32)) (p1 : Int32) (p2 : Int32) : Option (Int32) :=
  (f_House_mayHours H p1).bind fun x1 =>
  (f_Y_hourOf p2).bind fun x2 =>
  (((
    if ((a_shr x1 x2) &&& 1) ≠ 0 then
      some 0
    else
      some 1) : Option (Int32))).bind fun v3 =>
  (rdx (H 8) 10 p1).bind fun x4 =>
  (f_House_busyHoursOf H x4).bind fun x5 =>
  (f_Y_hourOf p2).bind fun x6 =>
  (((
    if ((a_shr x5 x6) &&& 1) = 0 then
      some v3
    else
      some (v3 ||| 2)) : Option (Int32))).bind fun v7 =>
  (rdx (H 8) 10 p1).bind fun x8 =>
  (f_Integer_bitCount x8).bind fun x9 =>
  (f_Y_roomOf p2).bind fun x10 =>
  (rdx (H 1) 3 x10).bind fun x11 =>
  if x9 ≤ x11 then
    some v7
  else
    some (v7 ||| 16)
def f_Board_sharesPerson (H : (Nat → Nat → Int32)) (p1 : Int32) (p2 : Int32) : Option (Int32) :=
  (rdx (H 8) 10 p1).bind fun x1 =>
  (rdx (H 8) 10 p2).bind fun x2 =>
  if (x1 &&& x2) = 0 then
    some (zb 0)
  else
    some (zb 1)
def f_Board_othersThere_l8 (H : (Nat → Nat → Int32)) (BO : (Nat → Nat → Int32)) (p1 : Int32) (p2 : Int32) (v1 : Int32) (v2 : Int32) (v3 : Int32) : Option ((Int32 × Int32 × Int32) ⊕ (Int32 × Int32)) :=
  if (H 0 3) ≤ v3 then
    some (.inr (v1, v2))
  else
    if v3 = p1 then
      some (.inl (v1, v2, (v3 + 1)))
    else
      (rdx (BO 1) 10 v3).bind fun x4 =>
      if x4 = (-1) then
        some (.inl (v1, v2, (v3 + 1)))
      else
        (rdx (BO 1) 10 v3).bind fun x5 =>
        (f_Y_hourOf x5).bind fun x6 =>
        (f_Y_hourOf p2).bind fun x7 =>
        if x6 ≠ x7 then
          some (.inl (v1, v2, (v3 + 1)))
        else
          (f_Board_sharesPerson H p1 v3).bind fun x8 =>
          (((
            if x8 = 0 then
              some v1
            else
              some (v1 ||| (a_shl 1 v3))) : Option (Int32))).bind fun v9 =>
          (rdx (BO 1) 10 v3).bind fun x10 =>
          if x10 ≠ p2 then
            some (.inl (v9, v2, (v3 + 1)))
          else
            some (.inl (v9, (v2 ||| (a_shl 1 v3)), (v3 + 1)))
def f_Board_othersThere (H : (Nat → Nat → Int32)) (BO : (Nat → Nat → Int32)) (p1 : Int32) (p2 : Int32) : Option (Int32) :=
  (loopN (fun q => f_Board_othersThere_l8 H BO p1 p2 q.1 q.2.1 q.2.2) a_F (0, 0, 0)).bind fun p6_ =>
  some ((a_shl p6_.2 10) ||| p6_.1)
def f_Board_isHeldPlace (BO : (Nat → Nat → Int32)) (p1 : Int32) : Option (Int32) :=
  (f_Y_roomOf p1).bind fun x1 =>
  (rdx (BO 3) 3 x1).bind fun x2 =>
  (f_Y_hourOf p1).bind fun x3 =>
  if ((a_shr x2 x3) &&& 1) = 0 then
    some (zb 0)
  else
    some (zb 1)
def f_Board_clashes (H : (Nat → Nat → Int32)) (BO : (Nat → Nat → Int32)) (p1 : Int32) (p2 : Int32) : Option (Int32) :=
  (f_Board_lastingClashes H p1 p2).bind fun x1 =>
  (f_Board_othersThere H BO p1 p2).bind fun x2 =>
  (((
    if (x2 &&& 1023) = 0 then
      some x1
    else
      some (x1 ||| 4)) : Option (Int32))).bind fun v3 =>
  (((
    if (a_shr x2 10) ≠ 0 then
      some (.inl ())
    else
      (f_Board_isHeldPlace BO p2).bind fun x4 =>
      if x4 = 0 then
        some (.inr v3)
      else
        some (.inl ())) : Option ((Unit) ⊕ (Int32)))).bind fun b6 => sumE b6 (fun _ =>
  some (v3 ||| 8)) (fun q => some q)
def f_Y_clash (Y : (Nat → Nat → Int32)) (H : (Nat → Nat → Int32)) (NS : (Nat → Nat → Int32)) (BO : (Nat → Nat → Int32)) (hm : Nat) (r5 : Nat) (p1 : Int32) (p2 : Int32) (p3 : Int32) : Option (Nat × Int32 × (Nat → Nat → Int32) × (Nat → Nat → Int32) × Nat) :=
  (f_Y_needPlace Y H p1 p2 p3).bind fun c1 =>
  if c1.1 = 0 then
    (f_Y_lookNow H NS BO).bind fun BO_4 =>
    (f_Y_placeOf p2 p3).bind fun x5 =>
    (f_Board_clashes H BO_4 p1 x5).bind fun x6 =>
    some (0, x6, c1.2, BO_4, hm)
  else
    some (c1.1, 0, c1.2, BO, r5)
def f_Board_openHours_l48 (H : (Nat → Nat → Int32)) (BO : (Nat → Nat → Int32)) (p1 : Int32) (p2 : Int32) (v6 : Int32) (v7 : Int32) : Option ((Int32 × Int32) ⊕ (Int32)) :=
  if (H 0 3) ≤ v7 then
    some (.inr v6)
  else
    (rdx (BO 1) 10 v7).bind fun x9 =>
    if v7 = p1 then
      some (.inl (v6, (v7 + 1)))
    else
      if x9 = (-1) then
        some (.inl (v6, (v7 + 1)))
      else
        (f_Y_roomOf x9).bind fun x10 =>
        (((
          if x10 = p2 then
            some (.inl ())
          else
            (f_Board_sharesPerson H p1 v7).bind fun x11 =>
            if x11 = 0 then
              some (.inr (.inl (v6, (v7 + 1))))
            else
              some (.inl ())) : Option ((Unit) ⊕ ((Int32 × Int32) ⊕ (Int32))))).bind fun b7 => sumE b7 (fun _ =>
        (f_Y_hourOf x9).bind fun x12 =>
        some (.inl ((v6 &&& ((a_shl 1 x12) ^^^ (-1))), (v7 + 1)))) (fun q => some q)
def f_Board_openHours (H : (Nat → Nat → Int32)) (BO : (Nat → Nat → Int32)) (p1 : Int32) (p2 : Int32) : Option (Int32) :=
  (rdx (H 8) 10 p1).bind fun x1 =>
  (f_Integer_bitCount x1).bind fun x2 =>
  (rdx (H 1) 3 p2).bind fun x3 =>
  if x2 ≤ x3 then
    (rdx (H 10) 10 p1).bind fun x4 =>
    (rdx (BO 3) 3 p2).bind fun x5 =>
    (loopN (fun q => f_Board_openHours_l48 H BO p1 p2 q.1 q.2) a_F ((x4 &&& (x5 ^^^ (-1))), 0)).bind fun v13 =>
    some v13
  else
    some 0
def f_Board_isOpen (H : (Nat → Nat → Int32)) (BO : (Nat → Nat → Int32)) (p1 : Int32) (p2 : Int32) : Option (Int32) :=
  (f_Y_roomOf p2).bind fun x1 =>
  (f_Board_openHours H BO p1 x1).bind fun x2 =>
  (f_Y_hourOf p2).bind fun x3 =>
  if ((a_shr x2 x3) &&& 1) = 0 then
    some (zb 0)
  else
    some (zb 1)
def f_Y_clashing_l9 (H : (Nat → Nat → Int32)) (BO_2 : (Nat → Nat → Int32)) (v3 : Int32) (v4 : Int32) : Option ((Int32 × Int32) ⊕ (Int32)) :=
  if (H 0 3) ≤ v4 then
    some (.inr v3)
  else
    (rdx (BO_2 1) 10 v4).bind fun x5 =>
    if x5 = (-1) then
      some (.inl (v3, (v4 + 1)))
    else
      (rdx (BO_2 1) 10 v4).bind fun x6 =>
      (f_Board_isOpen H BO_2 v4 x6).bind fun x7 =>
      if x7 ≠ 0 then
        some (.inl (v3, (v4 + 1)))
      else
        some (.inl ((v3 ||| (a_shl 1 v4)), (v4 + 1)))
def f_Y_clashing (H : (Nat → Nat → Int32)) (NS : (Nat → Nat → Int32)) (BO : (Nat → Nat → Int32)) : Option (Int32 × (Nat → Nat → Int32)) :=
  (f_Y_lookNow H NS BO).bind fun BO_2 =>
  (loopN (fun q => f_Y_clashing_l9 H BO_2 q.1 q.2) a_F (0, 0)).bind fun v8 =>
  some (v8, BO_2)
def f_Y_free_l15 (H : (Nat → Nat → Int32)) (BO_4 : (Nat → Nat → Int32)) (p1 : Int32) (v5 : Int32) (v6 : Int32) : Option ((Int32 × Int32) ⊕ (Int32)) :=
  if (H 0 1) ≤ v6 then
    some (.inr v5)
  else
    (f_Board_openHours H BO_4 p1 v6).bind fun x7 =>
    (f_Integer_bitCount x7).bind fun x8 =>
    some (.inl ((v5 + x8), (v6 + 1)))
def f_Y_free (Y : (Nat → Nat → Int32)) (H : (Nat → Nat → Int32)) (NS : (Nat → Nat → Int32)) (BO : (Nat → Nat → Int32)) (hm : Nat) (r5 : Nat) (p1 : Int32) : Option (Nat × Int32 × (Nat → Nat → Int32) × (Nat → Nat → Int32) × Nat) :=
  (f_Y_needMeeting Y H p1).bind fun c1 =>
  if c1.1 = 0 then
    (f_Y_lookNow H NS BO).bind fun BO_4 =>
    (loopN (fun q => f_Y_free_l15 H BO_4 p1 q.1 q.2) a_F (0, 0)).bind fun v9 =>
    some (0, v9, c1.2, BO_4, hm)
  else
    some (c1.1, 0, c1.2, BO, r5)
def f_State_isFull (NS : (Nat → Nat → Int32)) : Option (Int32) :=
  if (NS 0 4) < 30 then
    some (zb 0)
  else
    some (zb 1)
def f_Board_countMoved_l2 (H : (Nat → Nat → Int32)) (w1 : (Nat → Int32)) (v1 : Int32) (BO_2 : (Nat → Nat → Int32)) : Option ((Int32 × (Nat → Nat → Int32)) ⊕ ((Nat → Nat → Int32))) :=
  if (H 0 3) ≤ v1 then
    some (.inr BO_2)
  else
    (rdx (BO_2 1) 10 v1).bind fun x3 =>
    (rdx w1 10 v1).bind fun x4 =>
    if x3 = x4 then
      some (.inl ((v1 + 1), BO_2))
    else
      (rdx (BO_2 2) 10 v1).bind fun x5 =>
      (ixx 10 v1).bind fun j6 =>
      some (.inl ((v1 + 1), (u2 BO_2 2 j6 (x5 + 1))))
def f_Board_countMoved (H : (Nat → Nat → Int32)) (BO : (Nat → Nat → Int32)) (w1 : (Nat → Int32)) : Option ((Nat → Nat → Int32)) :=
  (loopN (fun q => f_Board_countMoved_l2 H w1 q.1 q.2) a_F (0, BO)).bind fun BO_8 =>
  some BO_8
def f_State_act (NS : (Nat → Nat → Int32)) (BO : (Nat → Nat → Int32)) : Option ((Nat → Nat → Int32)) :=
  (f_State_isFull NS).bind fun x1 =>
  if x1 = 0 then
    if ((0 : Int32) < 0 ∨ (((NS 0 4) * 10) : Int32) < 0 ∨ (10 : Int32) < 0 ∨ 10 < (0 : Int32).toNatClampNeg + (10 : Int32).toNatClampNeg ∨ 300 < (((NS 0 4) * 10) : Int32).toNatClampNeg + (10 : Int32).toNatClampNeg) then none else
    if ((0 : Int32) < 0 ∨ (((u1 NS 6 (a_cpy (NS 1) (NS 6) (0 : Int32).toNatClampNeg (((NS 0 4) * 10) : Int32).toNatClampNeg (10 : Int32).toNatClampNeg)) 0 4) * 10) < 0 ∨ (10 : Int32) < 0 ∨ 10 < (0 : Int32).toNatClampNeg + (10 : Int32).toNatClampNeg ∨ 300 < (((u1 NS 6 (a_cpy (NS 1) (NS 6) (0 : Int32).toNatClampNeg (((NS 0 4) * 10) : Int32).toNatClampNeg (10 : Int32).toNatClampNeg)) 0 4) * 10).toNatClampNeg + (10 : Int32).toNatClampNeg) then none else
    if ((0 : Int32) < 0 ∨ (0 : Int32) < 0 ∨ (10 : Int32) < 0 ∨ 10 < (0 : Int32).toNatClampNeg + (10 : Int32).toNatClampNeg ∨ 10 < (0 : Int32).toNatClampNeg + (10 : Int32).toNatClampNeg) then none else
    if ((0 : Int32) < 0 ∨ (0 : Int32) < 0 ∨ (10 : Int32) < 0 ∨ 10 < (0 : Int32).toNatClampNeg + (10 : Int32).toNatClampNeg ∨ 10 < (0 : Int32).toNatClampNeg + (10 : Int32).toNatClampNeg) then none else
    some (u1 (u1 (u2 (u1 (u1 NS 6 (a_cpy (NS 1) (NS 6) (0 : Int32).toNatClampNeg (((NS 0 4) * 10) : Int32).toNatClampNeg (10 : Int32).toNatClampNeg)) 7 (a_cpy ((u1 NS 6 (a_cpy (NS 1) (NS 6) (0 : Int32).toNatClampNeg (((NS 0 4) * 10) : Int32).toNatClampNeg (10 : Int32).toNatClampNeg)) 2) ((u1 NS 6 (a_cpy (NS 1) (NS 6) (0 : Int32).toNatClampNeg (((NS 0 4) * 10) : Int32).toNatClampNeg (10 : Int32).toNatClampNeg)) 7) (0 : Int32).toNatClampNeg (((u1 NS 6 (a_cpy (NS 1) (NS 6) (0 : Int32).toNatClampNeg (((NS 0 4) * 10) : Int32).toNatClampNeg (10 : Int32).toNatClampNeg)) 0 4) * 10).toNatClampNeg (10 : Int32).toNatClampNeg)) 0 4 (((u1 (u1 NS 6 (a_cpy (NS 1) (NS 6) (0 : Int32).toNatClampNeg (((NS 0 4) * 10) : Int32).toNatClampNeg (10 : Int32).toNatClampNeg)) 7 (a_cpy ((u1 NS 6 (a_cpy (NS 1) (NS 6) (0 : Int32).toNatClampNeg (((NS 0 4) * 10) : Int32).toNatClampNeg (10 : Int32).toNatClampNeg)) 2) ((u1 NS 6 (a_cpy (NS 1) (NS 6) (0 : Int32).toNatClampNeg (((NS 0 4) * 10) : Int32).toNatClampNeg (10 : Int32).toNatClampNeg)) 7) (0 : Int32).toNatClampNeg (((u1 NS 6 (a_cpy (NS 1) (NS 6) (0 : Int32).toNatClampNeg (((NS 0 4) * 10) : Int32).toNatClampNeg (10 : Int32).toNatClampNeg)) 0 4) * 10).toNatClampNeg (10 : Int32).toNatClampNeg)) 0 4) + 1)) 1 (a_cpy (BO 1) ((u2 (u1 (u1 NS 6 (a_cpy (NS 1) (NS 6) (0 : Int32).toNatClampNeg (((NS 0 4) * 10) : Int32).toNatClampNeg (10 : Int32).toNatClampNeg)) 7 (a_cpy ((u1 NS 6 (a_cpy (NS 1) (NS 6) (0 : Int32).toNatClampNeg (((NS 0 4) * 10) : Int32).toNatClampNeg (10 : Int32).toNatClampNeg)) 2) ((u1 NS 6 (a_cpy (NS 1) (NS 6) (0 : Int32).toNatClampNeg (((NS 0 4) * 10) : Int32).toNatClampNeg (10 : Int32).toNatClampNeg)) 7) (0 : Int32).toNatClampNeg (((u1 NS 6 (a_cpy (NS 1) (NS 6) (0 : Int32).toNatClampNeg (((NS 0 4) * 10) : Int32).toNatClampNeg (10 : Int32).toNatClampNeg)) 0 4) * 10).toNatClampNeg (10 : Int32).toNatClampNeg)) 0 4 (((u1 (u1 NS 6 (a_cpy (NS 1) (NS 6) (0 : Int32).toNatClampNeg (((NS 0 4) * 10) : Int32).toNatClampNeg (10 : Int32).toNatClampNeg)) 7 (a_cpy ((u1 NS 6 (a_cpy (NS 1) (NS 6) (0 : Int32).toNatClampNeg (((NS 0 4) * 10) : Int32).toNatClampNeg (10 : Int32).toNatClampNeg)) 2) ((u1 NS 6 (a_cpy (NS 1) (NS 6) (0 : Int32).toNatClampNeg (((NS 0 4) * 10) : Int32).toNatClampNeg (10 : Int32).toNatClampNeg)) 7) (0 : Int32).toNatClampNeg (((u1 NS 6 (a_cpy (NS 1) (NS 6) (0 : Int32).toNatClampNeg (((NS 0 4) * 10) : Int32).toNatClampNeg (10 : Int32).toNatClampNeg)) 0 4) * 10).toNatClampNeg (10 : Int32).toNatClampNeg)) 0 4) + 1)) 1) (0 : Int32).toNatClampNeg (0 : Int32).toNatClampNeg (10 : Int32).toNatClampNeg)) 2 (a_cpy (BO 2) ((u1 (u2 (u1 (u1 NS 6 (a_cpy (NS 1) (NS 6) (0 : Int32).toNatClampNeg (((NS 0 4) * 10) : Int32).toNatClampNeg (10 : Int32).toNatClampNeg)) 7 (a_cpy ((u1 NS 6 (a_cpy (NS 1) (NS 6) (0 : Int32).toNatClampNeg (((NS 0 4) * 10) : Int32).toNatClampNeg (10 : Int32).toNatClampNeg)) 2) ((u1 NS 6 (a_cpy (NS 1) (NS 6) (0 : Int32).toNatClampNeg (((NS 0 4) * 10) : Int32).toNatClampNeg (10 : Int32).toNatClampNeg)) 7) (0 : Int32).toNatClampNeg (((u1 NS 6 (a_cpy (NS 1) (NS 6) (0 : Int32).toNatClampNeg (((NS 0 4) * 10) : Int32).toNatClampNeg (10 : Int32).toNatClampNeg)) 0 4) * 10).toNatClampNeg (10 : Int32).toNatClampNeg)) 0 4 (((u1 (u1 NS 6 (a_cpy (NS 1) (NS 6) (0 : Int32).toNatClampNeg (((NS 0 4) * 10) : Int32).toNatClampNeg (10 : Int32).toNatClampNeg)) 7 (a_cpy ((u1 NS 6 (a_cpy (NS 1) (NS 6) (0 : Int32).toNatClampNeg (((NS 0 4) * 10) : Int32).toNatClampNeg (10 : Int32).toNatClampNeg)) 2) ((u1 NS 6 (a_cpy (NS 1) (NS 6) (0 : Int32).toNatClampNeg (((NS 0 4) * 10) : Int32).toNatClampNeg (10 : Int32).toNatClampNeg)) 7) (0 : Int32).toNatClampNeg (((u1 NS 6 (a_cpy (NS 1) (NS 6) (0 : Int32).toNatClampNeg (((NS 0 4) * 10) : Int32).toNatClampNeg (10 : Int32).toNatClampNeg)) 0 4) * 10).toNatClampNeg (10 : Int32).toNatClampNeg)) 0 4) + 1)) 1 (a_cpy (BO 1) ((u2 (u1 (u1 NS 6 (a_cpy (NS 1) (NS 6) (0 : Int32).toNatClampNeg (((NS 0 4) * 10) : Int32).toNatClampNeg (10 : Int32).toNatClampNeg)) 7 (a_cpy ((u1 NS 6 (a_cpy (NS 1) (NS 6) (0 : Int32).toNatClampNeg (((NS 0 4) * 10) : Int32).toNatClampNeg (10 : Int32).toNatClampNeg)) 2) ((u1 NS 6 (a_cpy (NS 1) (NS 6) (0 : Int32).toNatClampNeg (((NS 0 4) * 10) : Int32).toNatClampNeg (10 : Int32).toNatClampNeg)) 7) (0 : Int32).toNatClampNeg (((u1 NS 6 (a_cpy (NS 1) (NS 6) (0 : Int32).toNatClampNeg (((NS 0 4) * 10) : Int32).toNatClampNeg (10 : Int32).toNatClampNeg)) 0 4) * 10).toNatClampNeg (10 : Int32).toNatClampNeg)) 0 4 (((u1 (u1 NS 6 (a_cpy (NS 1) (NS 6) (0 : Int32).toNatClampNeg (((NS 0 4) * 10) : Int32).toNatClampNeg (10 : Int32).toNatClampNeg)) 7 (a_cpy ((u1 NS 6 (a_cpy (NS 1) (NS 6) (0 : Int32).toNatClampNeg (((NS 0 4) * 10) : Int32).toNatClampNeg (10 : Int32).toNatClampNeg)) 2) ((u1 NS 6 (a_cpy (NS 1) (NS 6) (0 : Int32).toNatClampNeg (((NS 0 4) * 10) : Int32).toNatClampNeg (10 : Int32).toNatClampNeg)) 7) (0 : Int32).toNatClampNeg (((u1 NS 6 (a_cpy (NS 1) (NS 6) (0 : Int32).toNatClampNeg (((NS 0 4) * 10) : Int32).toNatClampNeg (10 : Int32).toNatClampNeg)) 0 4) * 10).toNatClampNeg (10 : Int32).toNatClampNeg)) 0 4) + 1)) 1) (0 : Int32).toNatClampNeg (0 : Int32).toNatClampNeg (10 : Int32).toNatClampNeg)) 2) (0 : Int32).toNatClampNeg (0 : Int32).toNatClampNeg (10 : Int32).toNatClampNeg))
  else
    some NS
def f_Y_move (Y : (Nat → Nat → Int32)) (H : (Nat → Nat → Int32)) (NS : (Nat → Nat → Int32)) (BO : (Nat → Nat → Int32)) (hm : Nat) (r5 : Nat) (p1 : Int32) (p2 : Int32) (p3 : Int32) : Option (Nat × Int32 × (Nat → Nat → Int32) × (Nat → Nat → Int32) × (Nat → Nat → Int32) × Nat) :=
  (f_Y_needPlace Y H p1 p2 p3).bind fun c1 =>
  if c1.1 = 0 then
    (f_Y_placeOf p2 p3).bind fun x3 =>
    (rdx (NS 1) 10 p1).bind fun x4 =>
    if x4 ≠ x3 then
      (f_State_isFull NS).bind fun x5 =>
      if x5 = 0 then
        (f_House_isFixed H p1).bind fun x6 =>
        if x6 = 0 then
          (f_Y_lookNow H NS BO).bind fun BO_8 =>
          (f_Board_clashes H BO_8 p1 x3).bind fun x9 =>
          if x9 = 0 then
            (ixx 10 p1).bind fun j10 =>
            (f_Board_countMoved H (u2 BO_8 1 j10 x3) (NS 1)).bind fun BO_11 =>
            (f_State_act NS BO_11).bind fun NS_12 =>
            some (0, 1, c1.2, NS_12, BO_11, hm)
          else
            some (0, (-x9), c1.2, NS, BO_8, hm)
        else
          some (0, (-32), c1.2, NS, BO, r5)
      else
        some (0, (-64), c1.2, NS, BO, r5)
    else
      some (0, 0, c1.2, NS, BO, r5)
  else
    some (c1.1, 0, c1.2, NS, BO, r5)
def f_Y_drop (Y : (Nat → Nat → Int32)) (H : (Nat → Nat → Int32)) (NS : (Nat → Nat → Int32)) (BO : (Nat → Nat → Int32)) (hm : Nat) (r5 : Nat) (p1 : Int32) : Option (Nat × Int32 × (Nat → Nat → Int32) × (Nat → Nat → Int32) × (Nat → Nat → Int32) × Nat) :=
  (f_Y_needMeeting Y H p1).bind fun c1 =>
  if c1.1 = 0 then
    (rdx (NS 1) 10 p1).bind fun x3 =>
    if x3 ≠ (-1) then
      (f_State_isFull NS).bind fun x4 =>
      if x4 = 0 then
        (f_House_isFixed H p1).bind fun x5 =>
        if x5 = 0 then
          (f_Y_lookNow H NS BO).bind fun BO_7 =>
          (ixx 10 p1).bind fun j8 =>
          (f_State_act NS (u2 BO_7 1 j8 (-1))).bind fun NS_9 =>
          some (0, 1, c1.2, NS_9, (u2 BO_7 1 j8 (-1)), hm)
        else
          some (0, (-32), c1.2, NS, BO, r5)
      else
        some (0, (-64), c1.2, NS, BO, r5)
    else
      some (0, 0, c1.2, NS, BO, r5)
  else
    some (c1.1, 0, c1.2, NS, BO, r5)
def f_State_takeBack (NS : (Nat → Nat → Int32)) : Option (Int32 × (Nat → Nat → Int32)) :=
  if 0 < (NS 0 4) then
    if (((((u2 NS 0 4 ((NS 0 4) - 1)) 0 4) * 10) : Int32) < 0 ∨ (0 : Int32) < 0 ∨ (10 : Int32) < 0 ∨ 300 < ((((u2 NS 0 4 ((NS 0 4) - 1)) 0 4) * 10) : Int32).toNatClampNeg + (10 : Int32).toNatClampNeg ∨ 10 < (0 : Int32).toNatClampNeg + (10 : Int32).toNatClampNeg) then none else
    if ((((u1 (u2 NS 0 4 ((NS 0 4) - 1)) 1 (a_cpy ((u2 NS 0 4 ((NS 0 4) - 1)) 6) ((u2 NS 0 4 ((NS 0 4) - 1)) 1) ((((u2 NS 0 4 ((NS 0 4) - 1)) 0 4) * 10) : Int32).toNatClampNeg (0 : Int32).toNatClampNeg (10 : Int32).toNatClampNeg)) 0 4) * 10) < 0 ∨ (0 : Int32) < 0 ∨ (10 : Int32) < 0 ∨ 300 < (((u1 (u2 NS 0 4 ((NS 0 4) - 1)) 1 (a_cpy ((u2 NS 0 4 ((NS 0 4) - 1)) 6) ((u2 NS 0 4 ((NS 0 4) - 1)) 1) ((((u2 NS 0 4 ((NS 0 4) - 1)) 0 4) * 10) : Int32).toNatClampNeg (0 : Int32).toNatClampNeg (10 : Int32).toNatClampNeg)) 0 4) * 10).toNatClampNeg + (10 : Int32).toNatClampNeg ∨ 10 < (0 : Int32).toNatClampNeg + (10 : Int32).toNatClampNeg) then none else
    some (((u1 (u1 (u2 NS 0 4 ((NS 0 4) - 1)) 1 (a_cpy ((u2 NS 0 4 ((NS 0 4) - 1)) 6) ((u2 NS 0 4 ((NS 0 4) - 1)) 1) ((((u2 NS 0 4 ((NS 0 4) - 1)) 0 4) * 10) : Int32).toNatClampNeg (0 : Int32).toNatClampNeg (10 : Int32).toNatClampNeg)) 2 (a_cpy ((u1 (u2 NS 0 4 ((NS 0 4) - 1)) 1 (a_cpy ((u2 NS 0 4 ((NS 0 4) - 1)) 6) ((u2 NS 0 4 ((NS 0 4) - 1)) 1) ((((u2 NS 0 4 ((NS 0 4) - 1)) 0 4) * 10) : Int32).toNatClampNeg (0 : Int32).toNatClampNeg (10 : Int32).toNatClampNeg)) 7) ((u1 (u2 NS 0 4 ((NS 0 4) - 1)) 1 (a_cpy ((u2 NS 0 4 ((NS 0 4) - 1)) 6) ((u2 NS 0 4 ((NS 0 4) - 1)) 1) ((((u2 NS 0 4 ((NS 0 4) - 1)) 0 4) * 10) : Int32).toNatClampNeg (0 : Int32).toNatClampNeg (10 : Int32).toNatClampNeg)) 2) (((u1 (u2 NS 0 4 ((NS 0 4) - 1)) 1 (a_cpy ((u2 NS 0 4 ((NS 0 4) - 1)) 6) ((u2 NS 0 4 ((NS 0 4) - 1)) 1) ((((u2 NS 0 4 ((NS 0 4) - 1)) 0 4) * 10) : Int32).toNatClampNeg (0 : Int32).toNatClampNeg (10 : Int32).toNatClampNeg)) 0 4) * 10).toNatClampNeg (0 : Int32).toNatClampNeg (10 : Int32).toNatClampNeg)) 0 4), (u1 (u1 (u2 NS 0 4 ((NS 0 4) - 1)) 1 (a_cpy ((u2 NS 0 4 ((NS 0 4) - 1)) 6) ((u2 NS 0 4 ((NS 0 4) - 1)) 1) ((((u2 NS 0 4 ((NS 0 4) - 1)) 0 4) * 10) : Int32).toNatClampNeg (0 : Int32).toNatClampNeg (10 : Int32).toNatClampNeg)) 2 (a_cpy ((u1 (u2 NS 0 4 ((NS 0 4) - 1)) 1 (a_cpy ((u2 NS 0 4 ((NS 0 4) - 1)) 6) ((u2 NS 0 4 ((NS 0 4) - 1)) 1) ((((u2 NS 0 4 ((NS 0 4) - 1)) 0 4) * 10) : Int32).toNatClampNeg (0 : Int32).toNatClampNeg (10 : Int32).toNatClampNeg)) 7) ((u1 (u2 NS 0 4 ((NS 0 4) - 1)) 1 (a_cpy ((u2 NS 0 4 ((NS 0 4) - 1)) 6) ((u2 NS 0 4 ((NS 0 4) - 1)) 1) ((((u2 NS 0 4 ((NS 0 4) - 1)) 0 4) * 10) : Int32).toNatClampNeg (0 : Int32).toNatClampNeg (10 : Int32).toNatClampNeg)) 2) (((u1 (u2 NS 0 4 ((NS 0 4) - 1)) 1 (a_cpy ((u2 NS 0 4 ((NS 0 4) - 1)) 6) ((u2 NS 0 4 ((NS 0 4) - 1)) 1) ((((u2 NS 0 4 ((NS 0 4) - 1)) 0 4) * 10) : Int32).toNatClampNeg (0 : Int32).toNatClampNeg (10 : Int32).toNatClampNeg)) 0 4) * 10).toNatClampNeg (0 : Int32).toNatClampNeg (10 : Int32).toNatClampNeg)))
  else
    some ((-1), NS)
def f_Y_undo (NS : (Nat → Nat → Int32)) : Option (Int32 × (Nat → Nat → Int32)) :=
  (f_State_takeBack NS).bind fun c1 =>
  some (c1.1, c1.2)
def f_Y_needHold (Y : (Nat → Nat → Int32)) (H : (Nat → Nat → Int32)) (p1 : Int32) : Option (Nat × (Nat → Nat → Int32)) :=
  (f_Y_needOneOf Y p1 (H 0 4)).bind fun c1 =>
  if c1.1 = 0 then
    some (0, c1.2)
  else
    some (c1.1, c1.2)
def f_Y_let (Y : (Nat → Nat → Int32)) (H : (Nat → Nat → Int32)) (NS : (Nat → Nat → Int32)) (p1 : Int32) : Option (Nat × Int32 × (Nat → Nat → Int32) × (Nat → Nat → Int32)) :=
  (f_Y_needHold Y H p1).bind fun c1 =>
  if c1.1 = 0 then
    (f_State_isHeld NS p1).bind fun x3 =>
    if x3 ≠ 0 then
      some (0, 1, c1.2, (u2 NS 0 3 ((NS 0 3) ||| (a_shl 1 p1))))
    else
      some (0, 0, c1.2, NS)
  else
    some (c1.1, 0, c1.2, NS)
def f_Y_wouldTake_l10 (H : (Nat → Nat → Int32)) (BO_2 : (Nat → Nat → Int32)) (p1 : Int32) (v3 : Int32) (v4 : Int32) : Option ((Int32 × Int32) ⊕ (Int32)) :=
  if (H 0 3) ≤ v4 then
    some (.inr v3)
  else
    (rdx (BO_2 1) 10 v4).bind fun x5 =>
    if x5 ≠ (-1) then
      some (.inl (v3, (v4 + 1)))
    else
      (f_Board_clashes H BO_2 v4 p1).bind fun x6 =>
      if (x6 &&& (-9)) ≠ 0 then
        some (.inl (v3, (v4 + 1)))
      else
        some (.inl ((v3 + 1), (v4 + 1)))
def f_Y_wouldTake (H : (Nat → Nat → Int32)) (NS : (Nat → Nat → Int32)) (BO : (Nat → Nat → Int32)) (p1 : Int32) : Option (Int32 × (Nat → Nat → Int32)) :=
  (f_Y_lookNow H NS BO).bind fun BO_2 =>
  (loopN (fun q => f_Y_wouldTake_l10 H BO_2 p1 q.1 q.2) a_F (0, 0)).bind fun v7 =>
  some (v7, BO_2)
def f_Y_hold (Y : (Nat → Nat → Int32)) (H : (Nat → Nat → Int32)) (NS : (Nat → Nat → Int32)) (BO : (Nat → Nat → Int32)) (r5 : Nat) (hm : Nat) (p1 : Int32) (p2 : Int32) : Option (Nat × Int32 × (Nat → Nat → Int32) × (Nat → Nat → Int32) × Nat) :=
  (f_Y_needHold Y H p1).bind fun c1 =>
  if c1.1 = 0 then
    (((
      (((
        if p2 < 0 then
          some (.inl ())
        else
          if 4 < p2 then
            some (.inl ())
          else
            some (.inr 1)) : Option ((Unit) ⊕ (Int32)))).bind fun b4 => sumE b4 (fun _ =>
      some 0) (fun q => some q)) : Option (Int32))).bind fun v3 =>
    (f_Y_refuseUnless c1.2 v3).bind fun c5 =>
    if c5.1 = 0 then
      if p2 = 0 then
        (rdx (H 11) 4 p1).bind fun x6 =>
        (f_Y_hourOf x6).bind fun x7 =>
        some (0, x7, c5.2, BO, r5)
      else if p2 = 1 then
        (rdx (H 11) 4 p1).bind fun x8 =>
        (f_Y_roomOf x8).bind fun x9 =>
        some (0, x9, c5.2, BO, r5)
      else if p2 = 2 then
        (rdx (H 12) 4 p1).bind fun x10 =>
        some (0, x10, c5.2, BO, r5)
      else if p2 = 3 then
        (f_State_isHeld NS p1).bind fun x11 =>
        if x11 = 0 then
          some (0, 0, c5.2, BO, r5)
        else
          some (0, 1, c5.2, BO, r5)
      else 
        (rdx (H 11) 4 p1).bind fun x12 =>
        (f_Y_wouldTake H NS BO x12).bind fun c9 =>
        some (0, c9.1, c5.2, c9.2, hm)
    else
      some (c5.1, 0, c5.2, BO, r5)
  else
    some (c1.1, 0, c1.2, BO, r5)
def f_Y_least_l4 (H : (Nat → Nat → Int32)) (NS : (Nat → Nat → Int32)) (v1 : Int32) (v2 : Int32) : Option ((Int32 × Int32) ⊕ (Int32)) :=
  if (H 0 4) ≤ v2 then
    some (.inr v1)
  else
    (f_State_isHeld NS v2).bind fun x3 =>
    if x3 = 0 then
      some (.inl (v1, (v2 + 1)))
    else
      if v1 = (-1) then
        some (.inl (v2, (v2 + 1)))
      else
        (rdx (H 12) 4 v2).bind fun x4 =>
        (rdx (H 12) 4 v1).bind fun x5 =>
        if x5 ≤ x4 then
          some (.inl (v1, (v2 + 1)))
        else
          some (.inl (v2, (v2 + 1)))
def f_Y_least (H : (Nat → Nat → Int32)) (NS : (Nat → Nat → Int32)) : Option (Int32) :=
  (loopN (fun q => f_Y_least_l4 H NS q.1 q.2) a_F ((-1), 0)).bind fun v6 =>
  some v6
def f_Board_inWay (H : (Nat → Nat → Int32)) (BO : (Nat → Nat → Int32)) (p1 : Int32) (p2 : Int32) : Option (Int32) :=
  (f_Board_othersThere H BO p1 p2).bind fun x1 =>
  some ((x1 ||| (a_shr x1 10)) &&& 1023)
def f_Fitter_collectRubs_l7 (H : (Nat → Nat → Int32)) (BO : (Nat → Nat → Int32)) (v1 : Int32) (FI_3 : (Nat → Nat → Int32)) : Option ((Int32 × (Nat → Nat → Int32)) ⊕ ((Nat → Nat → Int32))) :=
  if (H 0 3) ≤ v1 then
    some (.inr FI_3)
  else
    (rdx (BO 1) 10 v1).bind fun x4 =>
    (ixx 10 v1).bind fun j5 =>
    if x4 = (-1) then
      some (.inl ((v1 + 1), (u2 FI_3 3 j5 0)))
    else
      (f_Board_inWay H BO v1 x4).bind fun x6 =>
      (ixx 10 v1).bind fun j7 =>
      (f_Board_isHeldPlace BO x4).bind fun x8 =>
      (((
        if x8 ≠ 0 then
          some (.inl ())
        else
          (f_Board_lastingClashes H v1 x4).bind fun x9 =>
          if x9 = 0 then
            some (.inr (.inl ((v1 + 1), (u2 (u2 FI_3 3 j5 0) 3 j7 x6))))
          else
            some (.inl ())) : Option ((Unit) ⊕ ((Int32 × (Nat → Nat → Int32)) ⊕ ((Nat → Nat → Int32)))))).bind fun b6 => sumE b6 (fun _ =>
      some (.inl ((v1 + 1), (u2 (u2 (u2 FI_3 3 j5 0) 3 j7 x6) 0 4 (((u2 (u2 FI_3 3 j5 0) 3 j7 x6) 0 4) ||| (a_shl 1 v1)))))) (fun q => some q)
def f_Fitter_collectRubs (H : (Nat → Nat → Int32)) (BO : (Nat → Nat → Int32)) (FI : (Nat → Nat → Int32)) : Option ((Nat → Nat → Int32)) :=
  (loopN (fun q => f_Fitter_collectRubs_l7 H BO q.1 q.2) a_F (0, (u2 FI 0 4 0))).bind fun FI_12 =>
  some FI_12
def f_Fitter_restIsLawful_l13 (H : (Nat → Nat → Int32)) (FI : (Nat → Nat → Int32)) (p1 : Int32) (v1 : Int32) : Option ((Int32) ⊕ ((Unit) ⊕ (Int32))) :=
  if (H 0 3) ≤ v1 then
    some (.inr (.inl ()))
  else
    if ((a_shr p1 v1) &&& 1) = 0 then
      some (.inl (v1 + 1))
    else
      (rdx (FI 3) 10 v1).bind fun x2 =>
      if (x2 &&& p1) = 0 then
        some (.inl (v1 + 1))
      else
        some (.inr (.inr (zb 0)))
def f_Fitter_restIsLawful (H : (Nat → Nat → Int32)) (FI : (Nat → Nat → Int32)) (p1 : Int32) : Option (Int32) :=
  if ((FI 0 4) &&& p1) = 0 then
    (loopN (fun q => f_Fitter_restIsLawful_l13 H FI p1 q) a_F 0).bind fun b3 => sumE b3 (fun _ =>
    some (zb 1)) (fun q => some q)
  else
    some (zb 0)
def f_Fitter_listOthers_l7 (H : (Nat → Nat → Int32)) (p1 : Int32) (v1 : Int32) (FI_2 : (Nat → Nat → Int32)) : Option ((Int32 × (Nat → Nat → Int32)) ⊕ ((Nat → Nat → Int32))) :=
  if (H 0 3) ≤ v1 then
    some (.inr FI_2)
  else
    if ((a_shr p1 v1) &&& 1) = 0 then
      some (.inl ((v1 + 1), FI_2))
    else
      if 3 ≤ (FI_2 0 6) then
        some (.inl ((v1 + 1), FI_2))
      else
        (ixx 3 (FI_2 0 6)).bind fun j3 =>
        some (.inl ((v1 + 1), (u2 (u2 FI_2 4 j3 v1) 0 6 (((u2 FI_2 4 j3 v1) 0 6) + 1))))
def f_Fitter_listOthers (H : (Nat → Nat → Int32)) (FI : (Nat → Nat → Int32)) (p1 : Int32) : Option ((Nat → Nat → Int32)) :=
  (loopN (fun q => f_Fitter_listOthers_l7 H p1 q.1 q.2) a_F (0, (u2 FI 0 6 0))).bind fun FI_5 =>
  some FI_5
def f_House_costOf_l9 (H : (Nat → Nat → Int32)) (p1 : Int32) (v2 : Int32) (v3 : Int32) : Option ((Int32 × Int32) ⊕ (Int32)) :=
  if (H 0 2) ≤ v3 then
    some (.inr v2)
  else
    (f_House_isMember H p1 v3).bind fun x4 =>
    if x4 = 0 then
      some (.inl (v2, (v3 + 1)))
    else
      (rdx (H 2) 8 v3).bind fun x5 =>
      some (.inl ((v2 + x5), (v3 + 1)))
def f_House_costOf (H : (Nat → Nat → Int32)) (p1 : Int32) : Option (Int32) :=
  (rdx (H 7) 10 p1).bind fun x1 =>
  (loopN (fun q => f_House_costOf_l9 H p1 q.1 q.2) a_F (x1, 0)).bind fun v6 =>
  some v6
def f_Fitter_findOpen_l27 (H : (Nat → Nat → Int32)) (BO : (Nat → Nat → Int32)) (x1 : Int32) (p1 : Int32) (v2 : Int32) (v3 : Int32) (FI_5 : (Nat → Nat → Int32)) : Option ((Int32 × Int32 × (Nat → Nat → Int32)) ⊕ (Int32 × (Nat → Nat → Int32))) :=
  if (H 0 1) ≤ v3 then
    some (.inr (v2, FI_5))
  else
    (f_Board_openHours H BO x1 v3).bind fun x6 =>
    (rdx (FI_5 1) 10 x1).bind fun x7 =>
    (f_Y_roomOf x7).bind fun x8 =>
    (((
      if x8 ≠ v3 then
        some x6
      else
        (rdx (FI_5 1) 10 x1).bind fun x9 =>
        (f_Y_hourOf x9).bind fun x10 =>
        some (x6 &&& ((a_shl 1 x10) ^^^ (-1)))) : Option (Int32))).bind fun v11 =>
    (ixx 9 ((p1 * 3) + v3)).bind fun j12 =>
    some (.inl ((v2 ||| v11), (v3 + 1), (u2 FI_5 5 j12 v11)))
def f_Fitter_findOpen (H : (Nat → Nat → Int32)) (BO : (Nat → Nat → Int32)) (FI : (Nat → Nat → Int32)) (p1 : Int32) : Option (Int32 × (Nat → Nat → Int32)) :=
  if (FI 0 6) ≤ p1 then
    some ((zb 0), FI)
  else
    if p1 < 3 then
      (rdx (FI 4) 3 p1).bind fun x1 =>
      (loopN (fun q => f_Fitter_findOpen_l27 H BO x1 p1 q.1 q.2.1 q.2.2) a_F (0, 0, FI)).bind fun p6_ =>
      if p6_.1 = 0 then
        some ((zb 0), p6_.2)
      else
        some ((zb 1), p6_.2)
    else
      some ((zb 0), FI)
def f_Fitter_seat_B_l46 (H : (Nat → Nat → Int32)) (p1 : Int32) (v4 : Int32) (x3 : Int32) (rc : (Nat → (Nat → Nat → Int32) → (Nat → Nat → Int32) → (Nat → Nat → Int32) → Int32 → Option (Int32 × (Nat → Nat → Int32) × (Nat → Nat → Int32)))) (v8 : Int32) (BO_9 : (Nat → Nat → Int32)) (FI_10 : (Nat → Nat → Int32)) : Option ((Int32 × (Nat → Nat → Int32) × (Nat → Nat → Int32)) ⊕ (((Nat → Nat → Int32) × (Nat → Nat → Int32)) ⊕ ((Int32 × (Nat → Nat → Int32) × (Nat → Nat → Int32)) ⊕ (((Nat → Nat → Int32) × (Nat → Nat → Int32)) ⊕ (Int32 × (Nat → Nat → Int32) × (Nat → Nat → Int32)))))) :=
  if (H 0 1) ≤ v8 then
    some (.inr (.inl (BO_9, FI_10)))
  else
    (rdx (FI_10 5) 9 ((p1 * 3) + v8)).bind fun x11 =>
    if ((a_shr x11 v4) &&& 1) = 0 then
      some (.inl ((v8 + 1), BO_9, FI_10))
    else
      (f_Y_placeOf v4 v8).bind fun x12 =>
      (ixx 10 x3).bind fun j13 =>
      (rc 0 H (u2 BO_9 1 j13 x12) FI_10 (p1 + 1)).bind fun c5 =>
      if c5.1 = 0 then
        some (.inl ((v8 + 1), c5.2.1, c5.2.2))
      else
        some (.inr (.inr (.inr (.inr ((zb 1), c5.2.1, c5.2.2)))))
def f_Fitter_seat_B_l29 (H : (Nat → Nat → Int32)) (p1 : Int32) (x3 : Int32) (rc : (Nat → (Nat → Nat → Int32) → (Nat → Nat → Int32) → (Nat → Nat → Int32) → Int32 → Option (Int32 × (Nat → Nat → Int32) × (Nat → Nat → Int32)))) (v4 : Int32) (BO_6 : (Nat → Nat → Int32)) (FI_7 : (Nat → Nat → Int32)) : Option ((Int32 × (Nat → Nat → Int32) × (Nat → Nat → Int32)) ⊕ (((Nat → Nat → Int32) × (Nat → Nat → Int32)) ⊕ (Int32 × (Nat → Nat → Int32) × (Nat → Nat → Int32)))) :=
  if (H 0 0) ≤ v4 then
    some (.inr (.inl (BO_6, FI_7)))
  else
    (loopN (fun q => f_Fitter_seat_B_l46 H p1 v4 x3 rc q.1 q.2.1 q.2.2) a_F (0, BO_6, FI_7)).bind fun b7 => sumE b7 (fun p6_ =>
    some (.inl ((v4 + 1), p6_.1, p6_.2))) (fun q => some q)
def f_Fitter_seat_B (rc : (Nat → (Nat → Nat → Int32) → (Nat → Nat → Int32) → (Nat → Nat → Int32) → Int32 → Option (Int32 × (Nat → Nat → Int32) × (Nat → Nat → Int32)))) (H : (Nat → Nat → Int32)) (BO : (Nat → Nat → Int32)) (FI : (Nat → Nat → Int32)) (p1 : Int32) : Option (Int32 × (Nat → Nat → Int32) × (Nat → Nat → Int32)) :=
  if p1 < (FI 0 6) then
    (f_Fitter_findOpen H BO FI p1).bind fun c1 =>
    if c1.1 ≠ 0 then
      (rdx (c1.2 4) 3 p1).bind fun x3 =>
      (loopN (fun q => f_Fitter_seat_B_l29 H p1 x3 rc q.1 q.2.1 q.2.2) a_F (0, BO, c1.2)).bind fun b9 => sumE b9 (fun p8_ =>
      (ixx 10 x3).bind fun j24 =>
      some ((zb 0), (u2 p8_.1 1 j24 (-1)), p8_.2)) (fun q => some q)
    else
      some ((zb 0), BO, c1.2)
  else
    some ((zb 1), BO, FI)
def f_grp_cs : Nat → (Nat → (Nat → Nat → Int32) → (Nat → Nat → Int32) → (Nat → Nat → Int32) → Int32 → Option (Int32 × (Nat → Nat → Int32) × (Nat → Nat → Int32)))
  | 0, _ => fun _ _ _ _ => none
  | n + 1, k => f_Fitter_seat_B (f_grp_cs n)
def f_Fitter_seatAll_l2 (FI : (Nat → Nat → Int32)) (v1 : Int32) (BO_2 : (Nat → Nat → Int32)) : Option ((Int32 × (Nat → Nat → Int32)) ⊕ ((Nat → Nat → Int32))) :=
  if (FI 0 6) ≤ v1 then
    some (.inr BO_2)
  else
    (rdx (FI 4) 3 v1).bind fun x3 =>
    (ixx 10 x3).bind fun j4 =>
    some (.inl ((v1 + 1), (u2 BO_2 1 j4 (-1))))
def f_Fitter_seatAll_l57 (H : (Nat → Nat → Int32)) (BO_6 : (Nat → Nat → Int32)) (j7 : Nat) (p2 : Int32) (v9 : Int32) (FI_10 : (Nat → Nat → Int32)) : Option ((Int32 × (Nat → Nat → Int32)) ⊕ (((Nat → Nat → Int32)) ⊕ (Int32 × (Nat → Nat → Int32) × (Nat → Nat → Int32)))) :=
  if (FI_10 0 6) ≤ v9 then
    some (.inr (.inl FI_10))
  else
    (f_Fitter_findOpen H (u2 BO_6 1 j7 p2) FI_10 v9).bind fun c5 =>
    if c5.1 ≠ 0 then
      some (.inl ((v9 + 1), c5.2))
    else
      some (.inr (.inr ((zb 0), (u2 BO_6 1 j7 p2), c5.2)))
def f_Fitter_seatAll (H : (Nat → Nat → Int32)) (BO : (Nat → Nat → Int32)) (FI : (Nat → Nat → Int32)) (p1 : Int32) (p2 : Int32) : Option (Int32 × (Nat → Nat → Int32) × (Nat → Nat → Int32)) :=
  (loopN (fun q => f_Fitter_seatAll_l2 FI q.1 q.2) a_F (0, BO)).bind fun BO_6 =>
  (ixx 10 p1).bind fun j7 =>
  (f_Board_isOpen H (u2 BO_6 1 j7 p2) p1 p2).bind fun x8 =>
  if x8 ≠ 0 then
    (loopN (fun q => f_Fitter_seatAll_l57 H BO_6 j7 p2 q.1 q.2) a_F (0, FI)).bind fun b8 => sumE b8 (fun FI_14 =>
    (f_grp_cs 12 0 H (u2 BO_6 1 j7 p2) FI_14 0).bind fun c7 =>
    some ((zb c7.1), c7.2.1, c7.2.2)) (fun q => some q)
  else
    some ((zb 0), (u2 BO_6 1 j7 p2), FI)
def f_Fitter_keepFewest_l38 (BO : (Nat → Nat → Int32)) (v3 : Int32) (FI_4 : (Nat → Nat → Int32)) : Option ((Int32 × (Nat → Nat → Int32)) ⊕ ((Nat → Nat → Int32))) :=
  if (FI_4 0 6) ≤ v3 then
    some (.inr FI_4)
  else
    (rdx (FI_4 4) 3 v3).bind fun x5 =>
    (rdx (FI_4 4) 3 v3).bind fun x6 =>
    (rdx (BO 1) 10 x6).bind fun x7 =>
    (ixx 10 x5).bind fun j8 =>
    some (.inl ((v3 + 1), (u2 FI_4 2 j8 x7)))
def f_Fitter_keepFewest (BO : (Nat → Nat → Int32)) (FI : (Nat → Nat → Int32)) (p1 : Int32) (p2 : Int32) : Option ((Nat → Nat → Int32)) :=
  (rdx (BO 1) 10 p1).bind fun x1 =>
  (ixx 10 p1).bind fun j2 =>
  (loopN (fun q => f_Fitter_keepFewest_l38 BO q.1 q.2) a_F (0, (u2 (u1 (u2 (u2 FI 0 8 (FI 0 6)) 0 9 p2) 2 (filM ((u2 (u2 FI 0 8 (FI 0 6)) 0 9 p2) 2) 10 (-1))) 2 j2 x1))).bind fun FI_10 =>
  some FI_10
def f_Fitter_tryRooms_l20 (H : (Nat → Nat → Int32)) (FI_1 : (Nat → Nat → Int32)) (v2 : Int32) (v3 : Int32) : Option ((Int32 × Int32) ⊕ (Int32)) :=
  if (FI_1 0 6) ≤ v3 then
    some (.inr v2)
  else
    (rdx (FI_1 4) 3 v3).bind fun x4 =>
    (f_House_costOf H x4).bind fun x5 =>
    some (.inl ((v2 + x5), (v3 + 1)))
def f_Fitter_tryRooms_l55 (H : (Nat → Nat → Int32)) (p2 : Int32) (p1 : Int32) (v6 : Int32) (p3 : Int32) (v8 : Int32) (BO_14 : (Nat → Nat → Int32)) (FI_15 : (Nat → Nat → Int32)) : Option ((Int32 × (Nat → Nat → Int32) × (Nat → Nat → Int32)) ⊕ ((Nat → Nat → Int32) × (Nat → Nat → Int32))) :=
  if (H 0 1) ≤ v8 then
    some (.inr (BO_14, FI_15))
  else
    (f_Y_placeOf p2 v8).bind fun x16 =>
    (f_House_isFixed H p1).bind fun x17 =>
    (((
      if x17 = 0 then
        some (.inl ())
      else
        (rdx (FI_15 1) 10 p1).bind fun x18 =>
        if x16 = x18 then
          some (.inl ())
        else
          some (.inr (.inl ((v8 + 1), BO_14, FI_15)))) : Option ((Unit) ⊕ ((Int32 × (Nat → Nat → Int32) × (Nat → Nat → Int32)) ⊕ ((Nat → Nat → Int32) × (Nat → Nat → Int32)))))).bind fun b23 => sumE b23 (fun _ =>
    (rdx (FI_15 1) 10 p1).bind fun x19 =>
    (((
      if x16 ≠ x19 then
        (f_House_costOf H p1).bind fun x20 =>
        some (v6 + x20)
      else
        some v6) : Option (Int32))).bind fun v21 =>
    (((
      (((
        if (FI_15 0 8) = (-1) then
          some (.inl ())
        else
          if (FI_15 0 8) ≤ (FI_15 0 6) then
            some (.inr 0)
          else
            some (.inl ())) : Option ((Unit) ⊕ (Int32)))).bind fun b13 => sumE b13 (fun _ =>
      some 1) (fun q => some q)) : Option (Int32))).bind fun v22 =>
    (((
      (((
        if (FI_15 0 10) = (-1) then
          some (.inl ())
        else
          if (FI_15 0 10) ≤ v21 then
            some (.inr 0)
          else
            some (.inl ())) : Option ((Unit) ⊕ (Int32)))).bind fun b16 => sumE b16 (fun _ =>
      some 1) (fun q => some q)) : Option (Int32))).bind fun v23 =>
    (((
      if v22 ≠ 0 then
        some (.inl ())
      else
        if v23 = 0 then
          some (.inr (.inl ((v8 + 1), BO_14, FI_15)))
        else
          some (.inl ())) : Option ((Unit) ⊕ ((Int32 × (Nat → Nat → Int32) × (Nat → Nat → Int32)) ⊕ ((Nat → Nat → Int32) × (Nat → Nat → Int32)))))).bind fun b22 => sumE b22 (fun _ =>
    (f_Fitter_seatAll H BO_14 FI_15 p1 x16).bind fun c18 =>
    (((
      if c18.1 = 0 then
        some c18.2.2
      else
        if v22 = 0 then
          some c18.2.2
        else
          (f_Fitter_keepFewest c18.2.1 c18.2.2 p1 p3).bind fun FI_27 =>
          some FI_27) : Option ((Nat → Nat → Int32)))).bind fun FI_28 =>
    (((
      if c18.1 = 0 then
        some FI_28
      else
        if v23 = 0 then
          some FI_28
        else
          some (u2 FI_28 0 10 v21)) : Option ((Nat → Nat → Int32)))).bind fun FI_29 =>
    if ((0 : Int32) < 0 ∨ (0 : Int32) < 0 ∨ (10 : Int32) < 0 ∨ 10 < (0 : Int32).toNatClampNeg + (10 : Int32).toNatClampNeg ∨ 10 < (0 : Int32).toNatClampNeg + (10 : Int32).toNatClampNeg) then none else
    some (.inl ((v8 + 1), (u1 c18.2.1 1 (a_cpy (FI_29 1) (c18.2.1 1) (0 : Int32).toNatClampNeg (0 : Int32).toNatClampNeg (10 : Int32).toNatClampNeg)), FI_29))) (fun q => some q)) (fun q => some q)
def f_Fitter_tryRooms (H : (Nat → Nat → Int32)) (BO : (Nat → Nat → Int32)) (FI : (Nat → Nat → Int32)) (p1 : Int32) (p2 : Int32) (p3 : Int32) : Option ((Nat → Nat → Int32) × (Nat → Nat → Int32)) :=
  (f_Fitter_listOthers H FI p3).bind fun FI_1 =>
  (loopN (fun q => f_Fitter_tryRooms_l20 H FI_1 q.1 q.2) a_F (0, 0)).bind fun v6 =>
  (loopN (fun q => f_Fitter_tryRooms_l55 H p2 p1 v6 p3 q.1 q.2.1 q.2.2) a_F (0, BO, FI_1)).bind fun p24_ =>
  some (p24_.1, p24_.2)
def f_Fitter_search_l117 (H : (Nat → Nat → Int32)) (x5 : Int32) (p1 : Int32) (p2 : Int32) (v6 : Int32) (BO_8 : (Nat → Nat → Int32)) (FI_9 : (Nat → Nat → Int32)) : Option ((Int32 × (Nat → Nat → Int32) × (Nat → Nat → Int32)) ⊕ ((Nat → Nat → Int32) × (Nat → Nat → Int32))) :=
  if (a_shl 1 (H 0 3)) ≤ v6 then
    some (.inr (BO_8, FI_9))
  else
    (((
      (((
        if (v6 &&& (((x5 &&& ((H 0 5) ^^^ (-1))) &&& ((a_shl 1 p1) ^^^ (-1))) ^^^ (-1))) ≠ 0 then
          some (.inl ())
        else
          (f_Integer_bitCount v6).bind fun x10 =>
          if 3 < x10 then
            some (.inl ())
          else
            some (.inr 1)) : Option ((Unit) ⊕ (Int32)))).bind fun b10 => sumE b10 (fun _ =>
      some 0) (fun q => some q)) : Option (Int32))).bind fun v11 =>
    if v11 = 0 then
      some (.inl ((v6 + 1), BO_8, FI_9))
    else
      (f_Fitter_restIsLawful H FI_9 ((x5 &&& (v6 ^^^ (-1))) &&& ((a_shl 1 p1) ^^^ (-1)))).bind fun x12 =>
      if x12 = 0 then
        some (.inl ((v6 + 1), BO_8, FI_9))
      else
        (f_Fitter_tryRooms H BO_8 FI_9 p1 p2 v6).bind fun c12 =>
        some (.inl ((v6 + 1), c12.1, c12.2))
def f_Fitter_search (H : (Nat → Nat → Int32)) (BO : (Nat → Nat → Int32)) (FI : (Nat → Nat → Int32)) (p1 : Int32) (p2 : Int32) : Option ((Nat → Nat → Int32) × (Nat → Nat → Int32)) :=
  (rdx (BO 1) 10 p1).bind fun x1 =>
  if x1 = (-1) then
    some (BO, (u1 (u2 (u2 (u2 FI 0 8 (-1)) 0 9 0) 0 10 (-1)) 2 (filM ((u2 (u2 (u2 FI 0 8 (-1)) 0 9 0) 0 10 (-1)) 2) 10 (-1))))
  else
    (f_House_isFixed H p1).bind fun x2 =>
    (((
      if x2 = 0 then
        some (.inl ())
      else
        (f_Y_hourOf x1).bind fun x3 =>
        if x3 = p2 then
          some (.inl ())
        else
          some (.inr (BO, (u1 (u2 (u2 (u2 FI 0 8 (-1)) 0 9 0) 0 10 (-1)) 2 (filM ((u2 (u2 (u2 FI 0 8 (-1)) 0 9 0) 0 10 (-1)) 2) 10 (-1)))))) : Option ((Unit) ⊕ ((Nat → Nat → Int32) × (Nat → Nat → Int32))))).bind fun b14 => sumE b14 (fun _ =>
    if ((0 : Int32) < 0 ∨ (0 : Int32) < 0 ∨ (10 : Int32) < 0 ∨ 10 < (0 : Int32).toNatClampNeg + (10 : Int32).toNatClampNeg ∨ 10 < (0 : Int32).toNatClampNeg + (10 : Int32).toNatClampNeg) then none else
    (f_Fitter_collectRubs H BO (u1 (u1 (u2 (u2 (u2 FI 0 8 (-1)) 0 9 0) 0 10 (-1)) 2 (filM ((u2 (u2 (u2 FI 0 8 (-1)) 0 9 0) 0 10 (-1)) 2) 10 (-1))) 1 (a_cpy (BO 1) ((u1 (u2 (u2 (u2 FI 0 8 (-1)) 0 9 0) 0 10 (-1)) 2 (filM ((u2 (u2 (u2 FI 0 8 (-1)) 0 9 0) 0 10 (-1)) 2) 10 (-1))) 1) (0 : Int32).toNatClampNeg (0 : Int32).toNatClampNeg (10 : Int32).toNatClampNeg))).bind fun FI_4 =>
    (f_Board_placed H BO).bind fun x5 =>
    (loopN (fun q => f_Fitter_search_l117 H x5 p1 p2 q.1 q.2.1 q.2.2) a_F (0, BO, FI_4)).bind fun p13_ =>
    some (p13_.1, p13_.2)) (fun q => some q)
def f_Y_fits (Y : (Nat → Nat → Int32)) (H : (Nat → Nat → Int32)) (NS : (Nat → Nat → Int32)) (BO : (Nat → Nat → Int32)) (FI : (Nat → Nat → Int32)) (hm : Nat) (r5 : Nat) (p1 : Int32) (p2 : Int32) (p3 : Int32) : Option (Nat × Int32 × (Nat → Nat → Int32) × (Nat → Nat → Int32) × (Nat → Nat → Int32) × Nat) :=
  (f_Y_needMeeting Y H p1).bind fun c1 =>
  if c1.1 = 0 then
    (f_Y_needHour c1.2 H p2).bind fun c2 =>
    if c2.1 = 0 then
      (((
        (((
          if p3 < 0 then
            some (.inl ())
          else
            if 3 < p3 then
              some (.inl ())
            else
              some (.inr 1)) : Option ((Unit) ⊕ (Int32)))).bind fun b5 => sumE b5 (fun _ =>
        some 0) (fun q => some q)) : Option (Int32))).bind fun v5 =>
      (f_Y_refuseUnless c2.2 v5).bind fun c6 =>
      if c6.1 = 0 then
        (f_Y_lookNow H NS BO).bind fun BO_9 =>
        (f_Fitter_search H BO_9 FI p1 p2).bind fun c8 =>
        if (c8.2 0 8) ≠ (-1) then
          if p3 = 0 then
            some (0, (c8.2 0 8), c6.2, c8.1, c8.2, hm)
          else if p3 = 1 then
            some (0, (c8.2 0 9), c6.2, c8.1, c8.2, hm)
          else if p3 = 2 then
            (rdx (c8.2 2) 10 p1).bind fun x12 =>
            (f_Y_roomOf x12).bind fun x13 =>
            some (0, x13, c6.2, c8.1, c8.2, hm)
          else 
            some (0, (c8.2 0 10), c6.2, c8.1, c8.2, hm)
        else
          some (0, (-1), c6.2, c8.1, c8.2, hm)
      else
        some (c6.1, 0, c6.2, BO, FI, r5)
    else
      some (c2.1, 0, c2.2, BO, FI, r5)
  else
    some (c1.1, 0, c1.2, BO, FI, r5)
def f_Y_tenfold (p0 : Int32) : Option (Int32) :=
  if p0 ≠ (-1) then
    (f_Y_roomOf p0).bind fun x1 =>
    (f_Y_hourOf p0).bind fun x2 =>
    some ((10 * x1) + x2)
  else
    some (-1)
def f_Y_goes (Y : (Nat → Nat → Int32)) (H : (Nat → Nat → Int32)) (NS : (Nat → Nat → Int32)) (BO : (Nat → Nat → Int32)) (FI : (Nat → Nat → Int32)) (hm : Nat) (r5 : Nat) (p1 : Int32) (p2 : Int32) (p3 : Int32) : Option (Nat × Int32 × (Nat → Nat → Int32) × (Nat → Nat → Int32) × (Nat → Nat → Int32) × Nat) :=
  (f_Y_needMeeting Y H p1).bind fun c1 =>
  if c1.1 = 0 then
    (f_Y_needMeeting c1.2 H p3).bind fun c2 =>
    if c2.1 = 0 then
      (f_Y_needHour c2.2 H p2).bind fun c3 =>
      if c3.1 = 0 then
        (f_Y_lookNow H NS BO).bind fun BO_8 =>
        (f_Fitter_search H BO_8 FI p1 p2).bind fun c5 =>
        (rdx (c5.2 2) 10 p3).bind fun x11 =>
        (f_Y_tenfold x11).bind fun x12 =>
        some (0, x12, c3.2, c5.1, c5.2, hm)
      else
        some (c3.1, 0, c3.2, BO, FI, r5)
    else
      some (c2.1, 0, c2.2, BO, FI, r5)
  else
    some (c1.1, 0, c1.2, BO, FI, r5)
def f_Y_hours_l14 (H : (Nat → Nat → Int32)) (p1 : Int32) (v5 : Int32) (v6 : Int32) (BO_7 : (Nat → Nat → Int32)) (FI_8 : (Nat → Nat → Int32)) : Option ((Int32 × Int32 × (Nat → Nat → Int32) × (Nat → Nat → Int32)) ⊕ (Int32 × (Nat → Nat → Int32) × (Nat → Nat → Int32))) :=
  if (H 0 0) ≤ v6 then
    some (.inr (v5, BO_7, FI_8))
  else
    (f_Fitter_search H BO_7 FI_8 p1 v6).bind fun c4 =>
    if (c4.2 0 8) = (-1) then
      some (.inl (v5, (v6 + 1), c4.1, c4.2))
    else
      some (.inl ((v5 + 1), (v6 + 1), c4.1, c4.2))
def f_Y_hours (Y : (Nat → Nat → Int32)) (H : (Nat → Nat → Int32)) (NS : (Nat → Nat → Int32)) (BO : (Nat → Nat → Int32)) (FI : (Nat → Nat → Int32)) (hm : Nat) (r5 : Nat) (p1 : Int32) : Option (Nat × Int32 × (Nat → Nat → Int32) × (Nat → Nat → Int32) × (Nat → Nat → Int32) × Nat) :=
  (f_Y_needMeeting Y H p1).bind fun c1 =>
  if c1.1 = 0 then
    (f_Y_lookNow H NS BO).bind fun BO_4 =>
    (loopN (fun q => f_Y_hours_l14 H p1 q.1 q.2.1 q.2.2.1 q.2.2.2) a_F (0, 0, BO_4, FI)).bind fun p5_ =>
    some (0, p5_.1, c1.2, p5_.2.1, p5_.2.2, hm)
  else
    some (c1.1, 0, c1.2, BO, FI, r5)
def f_Rings_mayTurn (H : (Nat → Nat → Int32)) (BO : (Nat → Nat → Int32)) (p1 : Int32) : Option (Int32) :=
  (rdx (BO 1) 10 p1).bind fun x1 =>
  if x1 = (-1) then
    some (zb 0)
  else
    (f_House_isFixed H p1).bind fun x2 =>
    if x2 ≠ 0 then
      some (zb 0)
    else
      some (zb 1)
def f_Board_isLawful_l2 (H : (Nat → Nat → Int32)) (BO : (Nat → Nat → Int32)) (v1 : Int32) : Option ((Int32) ⊕ ((Unit) ⊕ (Int32))) :=
  if (H 0 3) ≤ v1 then
    some (.inr (.inl ()))
  else
    (rdx (BO 1) 10 v1).bind fun x2 =>
    if x2 = (-1) then
      some (.inl (v1 + 1))
    else
      (rdx (BO 1) 10 v1).bind fun x3 =>
      (f_Board_isOpen H BO v1 x3).bind fun x4 =>
      if x4 ≠ 0 then
        some (.inl (v1 + 1))
      else
        some (.inr (.inr (zb 0)))
def f_Board_isLawful (H : (Nat → Nat → Int32)) (BO : (Nat → Nat → Int32)) : Option (Int32) :=
  (loopN (fun q => f_Board_isLawful_l2 H BO q) a_F 0).bind fun b4 => sumE b4 (fun _ =>
  some (zb 1)) (fun q => some q)
def f_Rings_turns_l20 (BO : (Nat → Nat → Int32)) (RG : (Nat → Nat → Int32)) (v1 : Int32) (BO_3 : (Nat → Nat → Int32)) : Option ((Int32 × (Nat → Nat → Int32)) ⊕ ((Nat → Nat → Int32))) :=
  if ((u1 RG 2 (a_cpy (BO 1) (RG 2) (0 : Int32).toNatClampNeg (0 : Int32).toNatClampNeg (10 : Int32).toNatClampNeg)) 0 3) ≤ v1 then
    some (.inr BO_3)
  else
    (((
      if ((u1 RG 2 (a_cpy (BO 1) (RG 2) (0 : Int32).toNatClampNeg (0 : Int32).toNatClampNeg (10 : Int32).toNatClampNeg)) 0 3) ≤ (v1 + 1) then
        some 0
      else
        some (v1 + 1)) : Option (Int32))).bind fun v4 =>
    (rdx ((u1 RG 2 (a_cpy (BO 1) (RG 2) (0 : Int32).toNatClampNeg (0 : Int32).toNatClampNeg (10 : Int32).toNatClampNeg)) 1) 4 v1).bind fun x5 =>
    (rdx ((u1 RG 2 (a_cpy (BO 1) (RG 2) (0 : Int32).toNatClampNeg (0 : Int32).toNatClampNeg (10 : Int32).toNatClampNeg)) 1) 4 v4).bind fun x6 =>
    (rdx ((u1 RG 2 (a_cpy (BO 1) (RG 2) (0 : Int32).toNatClampNeg (0 : Int32).toNatClampNeg (10 : Int32).toNatClampNeg)) 2) 10 x6).bind fun x7 =>
    (ixx 10 x5).bind fun j8 =>
    some (.inl ((v1 + 1), (u2 BO_3 1 j8 x7)))
def f_Rings_turns (H : (Nat → Nat → Int32)) (BO : (Nat → Nat → Int32)) (RG : (Nat → Nat → Int32)) : Option (Int32 × (Nat → Nat → Int32) × (Nat → Nat → Int32)) :=
  if ((0 : Int32) < 0 ∨ (0 : Int32) < 0 ∨ (10 : Int32) < 0 ∨ 10 < (0 : Int32).toNatClampNeg + (10 : Int32).toNatClampNeg ∨ 10 < (0 : Int32).toNatClampNeg + (10 : Int32).toNatClampNeg) then none else
  (loopN (fun q => f_Rings_turns_l20 BO RG q.1 q.2) a_F (0, BO)).bind fun BO_11 =>
  (f_Board_isLawful H BO_11).bind fun x12 =>
  if ((0 : Int32) < 0 ∨ (0 : Int32) < 0 ∨ (10 : Int32) < 0 ∨ 10 < (0 : Int32).toNatClampNeg + (10 : Int32).toNatClampNeg ∨ 10 < (0 : Int32).toNatClampNeg + (10 : Int32).toNatClampNeg) then none else
  some ((zb x12), (u1 BO_11 1 (a_cpy ((u1 RG 2 (a_cpy (BO 1) (RG 2) (0 : Int32).toNatClampNeg (0 : Int32).toNatClampNeg (10 : Int32).toNatClampNeg)) 2) (BO_11 1) (0 : Int32).toNatClampNeg (0 : Int32).toNatClampNeg (10 : Int32).toNatClampNeg)), (u1 RG 2 (a_cpy (BO 1) (RG 2) (0 : Int32).toNatClampNeg (0 : Int32).toNatClampNeg (10 : Int32).toNatClampNeg)))
def f_Rings_couldSwap (H : (Nat → Nat → Int32)) (BO : (Nat → Nat → Int32)) (RG : (Nat → Nat → Int32)) (p1 : Int32) (p2 : Int32) : Option (Int32 × (Nat → Nat → Int32) × (Nat → Nat → Int32)) :=
  (ixx 4 0).bind fun j1 =>
  (ixx 4 1).bind fun j2 =>
  (f_Rings_mayTurn H BO p1).bind fun x3 =>
  if x3 = 0 then
    some ((zb 0), BO, (u2 (u2 (u2 RG 0 3 2) 1 j1 p1) 1 j2 p2))
  else
    (f_Rings_mayTurn H BO p2).bind fun x4 =>
    if x4 = 0 then
      some ((zb 0), BO, (u2 (u2 (u2 RG 0 3 2) 1 j1 p1) 1 j2 p2))
    else
      (f_Rings_turns H BO (u2 (u2 (u2 RG 0 3 2) 1 j1 p1) 1 j2 p2)).bind fun c3 =>
      if c3.1 = 0 then
        some ((zb 0), c3.2.1, c3.2.2)
      else
        some ((zb 1), c3.2.1, c3.2.2)
def f_Y_swap (Y : (Nat → Nat → Int32)) (H : (Nat → Nat → Int32)) (NS : (Nat → Nat → Int32)) (BO : (Nat → Nat → Int32)) (RG : (Nat → Nat → Int32)) (hm : Nat) (r5 : Nat) (p1 : Int32) (p2 : Int32) : Option (Nat × Int32 × (Nat → Nat → Int32) × (Nat → Nat → Int32) × (Nat → Nat → Int32) × Nat) :=
  (f_Y_needMeeting Y H p1).bind fun c1 =>
  if c1.1 = 0 then
    (f_Y_needMeeting c1.2 H p2).bind fun c2 =>
    if c2.1 = 0 then
      (((
        if p1 = p2 then
          some 0
        else
          some 1) : Option (Int32))).bind fun v5 =>
      (f_Y_refuseUnless c2.2 v5).bind fun c4 =>
      if c4.1 = 0 then
        (f_Y_lookNow H NS BO).bind fun BO_9 =>
        (f_Rings_couldSwap H BO_9 RG p1 p2).bind fun c6 =>
        some (0, (zb c6.1), c4.2, c6.2.1, c6.2.2, hm)
      else
        some (c4.1, 0, c4.2, BO, RG, r5)
    else
      some (c2.1, 0, c2.2, BO, RG, r5)
  else
    some (c1.1, 0, c1.2, BO, RG, r5)
def f_Rings_keep_l14 (v1 : Int32) (RG_2 : (Nat → Nat → Int32)) : Option ((Int32 × (Nat → Nat → Int32)) ⊕ ((Nat → Nat → Int32))) :=
  if (RG_2 0 3) ≤ v1 then
    some (.inr RG_2)
  else
    (rdx (RG_2 1) 4 v1).bind fun x3 =>
    some (.inl ((v1 + 1), (u2 RG_2 0 5 (((RG_2 0 5) * 10) + x3))))
def f_Rings_keep (RG : (Nat → Nat → Int32)) : Option ((Nat → Nat → Int32)) :=
  (((
    if (RG 0 4) ≠ 0 then
      some RG
    else
      (loopN (fun q => f_Rings_keep_l14 q.1 q.2) a_F (0, (u2 RG 0 5 0))).bind fun RG_5 =>
      some RG_5) : Option ((Nat → Nat → Int32)))).bind fun RG_7 =>
  some (u2 RG_7 0 4 ((RG_7 0 4) + 1))
def f_Rings_extend_B_l40 (H : (Nat → Nat → Int32)) (p2 : Int32) (p1 : Int32) (rc : (Nat → (Nat → Nat → Int32) → (Nat → Nat → Int32) → (Nat → Nat → Int32) → Int32 → Int32 → Option ((Nat → Nat → Int32) × (Nat → Nat → Int32)))) (v3 : Int32) (BO_4 : (Nat → Nat → Int32)) (RG_5 : (Nat → Nat → Int32)) : Option ((Int32 × (Nat → Nat → Int32) × (Nat → Nat → Int32)) ⊕ ((Nat → Nat → Int32) × (Nat → Nat → Int32))) :=
  if (H 0 3) ≤ v3 then
    some (.inr (BO_4, RG_5))
  else
    if ((a_shr p2 v3) &&& 1) ≠ 0 then
      some (.inl ((v3 + 1), BO_4, RG_5))
    else
      (f_Rings_mayTurn H BO_4 v3).bind fun x6 =>
      if x6 = 0 then
        some (.inl ((v3 + 1), BO_4, RG_5))
      else
        (ixx 4 p1).bind fun j7 =>
        (rc 0 H BO_4 (u2 RG_5 1 j7 v3) (p1 + 1) (p2 ||| (a_shl 1 v3))).bind fun c4 =>
        some (.inl ((v3 + 1), c4.1, c4.2))
def f_Rings_extend_B (rc : (Nat → (Nat → Nat → Int32) → (Nat → Nat → Int32) → (Nat → Nat → Int32) → Int32 → Int32 → Option ((Nat → Nat → Int32) × (Nat → Nat → Int32)))) (H : (Nat → Nat → Int32)) (BO : (Nat → Nat → Int32)) (RG : (Nat → Nat → Int32)) (p1 : Int32) (p2 : Int32) : Option ((Nat → Nat → Int32) × (Nat → Nat → Int32)) :=
  if p1 < (RG 0 3) then
    (((
      if p1 ≠ 0 then
        (rdx (RG 1) 4 0).bind fun x1 =>
        some (x1 + 1)
      else
        some 0) : Option (Int32))).bind fun v2 =>
    (loopN (fun q => f_Rings_extend_B_l40 H p2 p1 rc q.1 q.2.1 q.2.2) a_F (v2, BO, RG)).bind fun p5_ =>
    some (p5_.1, p5_.2)
  else
    (f_Rings_turns H BO RG).bind fun c6 =>
    if c6.1 = 0 then
      some (c6.2.1, c6.2.2)
    else
      (f_Rings_keep c6.2.2).bind fun RG_16 =>
      some (c6.2.1, RG_16)
def f_grp_ce : Nat → (Nat → (Nat → Nat → Int32) → (Nat → Nat → Int32) → (Nat → Nat → Int32) → Int32 → Int32 → Option ((Nat → Nat → Int32) × (Nat → Nat → Int32)))
  | 0, _ => fun _ _ _ _ _ => none
  | n + 1, k => f_Rings_extend_B (f_grp_ce n)
def f_Rings_search (H : (Nat → Nat → Int32)) (BO : (Nat → Nat → Int32)) (RG : (Nat → Nat → Int32)) (p1 : Int32) : Option ((Nat → Nat → Int32) × (Nat → Nat → Int32)) :=
  (f_Math_min p1 4).bind fun x1 =>
  (f_grp_ce 12 0 H BO (u2 (u2 (u2 RG 0 3 x1) 0 4 0) 0 5 (-1)) 0 0).bind fun c2 =>
  some (c2.1, c2.2)
def f_Y_rings (Y : (Nat → Nat → Int32)) (H : (Nat → Nat → Int32)) (NS : (Nat → Nat → Int32)) (BO : (Nat → Nat → Int32)) (RG : (Nat → Nat → Int32)) (hm : Nat) (r5 : Nat) (p1 : Int32) (p2 : Int32) : Option (Nat × Int32 × (Nat → Nat → Int32) × (Nat → Nat → Int32) × (Nat → Nat → Int32) × Nat) :=
  (((
    (((
      if p1 < 2 then
        some (.inl ())
      else
        if 4 < p1 then
          some (.inl ())
        else
          if p2 < 0 then
            some (.inl ())
          else
            if 1 < p2 then
              some (.inl ())
            else
              some (.inr 1)) : Option ((Unit) ⊕ (Int32)))).bind fun b3 => sumE b3 (fun _ =>
    some 0) (fun q => some q)) : Option (Int32))).bind fun v1 =>
  (f_Y_refuseUnless Y v1).bind fun c4 =>
  if c4.1 = 0 then
    (f_Y_lookNow H NS BO).bind fun BO_5 =>
    (f_Rings_search H BO_5 RG p1).bind fun c6 =>
    if p2 ≠ 0 then
      some (0, (c6.2 0 5), c4.2, c6.1, c6.2, hm)
    else
      some (0, (c6.2 0 4), c4.2, c6.1, c6.2, hm)
  else
    some (c4.1, 0, c4.2, BO, RG, r5)
def f_Y_line (Y : (Nat → Nat → Int32)) (NS : (Nat → Nat → Int32)) (p1 : Int32) (p2 : Int32) : Option (Nat × Int32 × (Nat → Nat → Int32)) :=
  (((
    (((
      if p2 < 0 then
        some (.inl ())
      else
        if 2 < p2 then
          some (.inl ())
        else
          some (.inr 1)) : Option ((Unit) ⊕ (Int32)))).bind fun b3 => sumE b3 (fun _ =>
    some 0) (fun q => some q)) : Option (Int32))).bind fun v1 =>
  (f_Y_refuseUnless Y v1).bind fun c4 =>
  if c4.1 = 0 then
    if p1 < 0 then
      some (0, (-1), c4.2)
    else
      if p1 < (NS 3 0) then
        if p2 = 0 then
          (rdx (NS 4) 10 p1).bind fun x4 =>
          some (0, x4, c4.2)
        else if p2 = 1 then
          (rdx (NS 5) 10 p1).bind fun x5 =>
          (f_Y_hourOf x5).bind fun x6 =>
          some (0, x6, c4.2)
        else 
          (rdx (NS 5) 10 p1).bind fun x7 =>
          (f_Y_roomOf x7).bind fun x8 =>
          some (0, x8, c4.2)
      else
        some (0, (-1), c4.2)
  else
    some (c4.1, 0, c4.2)
def f_Guide_load_l32 (NS : (Nat → Nat → Int32)) (v1 : Int32) (GU_2 : (Nat → Nat → Int32)) : Option ((Int32 × (Nat → Nat → Int32)) ⊕ ((Nat → Nat → Int32))) :=
  if (NS 3 0) ≤ v1 then
    some (.inr GU_2)
  else
    (rdx (NS 4) 10 v1).bind fun x3 =>
    (rdx (NS 5) 10 v1).bind fun x4 =>
    (ixx 10 x3).bind fun j5 =>
    some (.inl ((v1 + 1), (u2 GU_2 2 j5 x4)))
def f_Guide_load_l70 (H : (Nat → Nat → Int32)) (v8 : Int32) (GU_9 : (Nat → Nat → Int32)) : Option ((Int32 × (Nat → Nat → Int32)) ⊕ ((Nat → Nat → Int32))) :=
  if (H 0 3) ≤ v8 then
    some (.inr GU_9)
  else
    (rdx (GU_9 2) 10 v8).bind fun x10 =>
    (rdx (GU_9 1) 10 v8).bind fun x11 =>
    if x10 = x11 then
      some (.inl ((v8 + 1), GU_9))
    else
      some (.inl ((v8 + 1), (u2 GU_9 0 4 ((GU_9 0 4) ||| (a_shl 1 v8)))))
def f_Guide_load (H : (Nat → Nat → Int32)) (NS : (Nat → Nat → Int32)) (BO : (Nat → Nat → Int32)) (GU : (Nat → Nat → Int32)) : Option ((Nat → Nat → Int32)) :=
  if ((0 : Int32) < 0 ∨ (0 : Int32) < 0 ∨ (10 : Int32) < 0 ∨ 10 < (0 : Int32).toNatClampNeg + (10 : Int32).toNatClampNeg ∨ 10 < (0 : Int32).toNatClampNeg + (10 : Int32).toNatClampNeg) then none else
  if ((0 : Int32) < 0 ∨ (0 : Int32) < 0 ∨ (10 : Int32) < 0 ∨ 10 < (0 : Int32).toNatClampNeg + (10 : Int32).toNatClampNeg ∨ 10 < (0 : Int32).toNatClampNeg + (10 : Int32).toNatClampNeg) then none else
  (loopN (fun q => f_Guide_load_l32 NS q.1 q.2) a_F (0, (u1 (u1 GU 1 (a_cpy (BO 1) (GU 1) (0 : Int32).toNatClampNeg (0 : Int32).toNatClampNeg (10 : Int32).toNatClampNeg)) 2 (a_cpy (BO 1) ((u1 GU 1 (a_cpy (BO 1) (GU 1) (0 : Int32).toNatClampNeg (0 : Int32).toNatClampNeg (10 : Int32).toNatClampNeg)) 2) (0 : Int32).toNatClampNeg (0 : Int32).toNatClampNeg (10 : Int32).toNatClampNeg)))).bind fun GU_7 =>
  (loopN (fun q => f_Guide_load_l70 H q.1 q.2) a_F (0, (u2 GU_7 0 4 0))).bind fun GU_13 =>
  some GU_13
def f_Y_lookAhead (H : (Nat → Nat → Int32)) (NS : (Nat → Nat → Int32)) (BO : (Nat → Nat → Int32)) (GU : (Nat → Nat → Int32)) : Option ((Nat → Nat → Int32) × (Nat → Nat → Int32)) :=
  (f_Y_lookNow H NS BO).bind fun BO_2 =>
  (f_Guide_load H NS BO_2 GU).bind fun GU_3 =>
  some (BO_2, GU_3)
def f_Y_apart (H : (Nat → Nat → Int32)) (NS : (Nat → Nat → Int32)) (BO : (Nat → Nat → Int32)) (GU : (Nat → Nat → Int32)) : Option (Int32 × (Nat → Nat → Int32) × (Nat → Nat → Int32)) :=
  (f_Y_lookAhead H NS BO GU).bind fun c1 =>
  some ((c1.2 0 4), c1.1, c1.2)
def f_Guide_goOnly_l2 (H : (Nat → Nat → Int32)) (GU : (Nat → Nat → Int32)) (p1 : Int32) (v1 : Int32) (BO_2 : (Nat → Nat → Int32)) : Option ((Int32 × (Nat → Nat → Int32)) ⊕ ((Nat → Nat → Int32))) :=
  if (H 0 3) ≤ v1 then
    some (.inr BO_2)
  else
    (((
      if ((a_shr p1 v1) &&& 1) = 0 then
        (rdx (GU 1) 10 v1).bind fun x3 =>
        some x3
      else
        (rdx (GU 2) 10 v1).bind fun x4 =>
        some x4) : Option (Int32))).bind fun v5 =>
    (ixx 10 v1).bind fun j6 =>
    some (.inl ((v1 + 1), (u2 BO_2 1 j6 v5)))
def f_Guide_goOnly (H : (Nat → Nat → Int32)) (BO : (Nat → Nat → Int32)) (GU : (Nat → Nat → Int32)) (p1 : Int32) : Option ((Nat → Nat → Int32)) :=
  (loopN (fun q => f_Guide_goOnly_l2 H GU p1 q.1 q.2) a_F (0, BO)).bind fun BO_8 =>
  some BO_8
def f_Guide_lawfulAfter (H : (Nat → Nat → Int32)) (BO : (Nat → Nat → Int32)) (GU : (Nat → Nat → Int32)) (p1 : Int32) : Option (Int32 × (Nat → Nat → Int32)) :=
  (f_Guide_goOnly H BO GU p1).bind fun BO_1 =>
  (f_Board_isLawful H BO_1).bind fun x2 =>
  (f_Guide_goOnly H BO_1 GU 0).bind fun BO_3 =>
  some ((zb x2), BO_3)
def f_Guide_lawfulAtOnce (H : (Nat → Nat → Int32)) (BO : (Nat → Nat → Int32)) (GU : (Nat → Nat → Int32)) : Option (Int32 × (Nat → Nat → Int32)) :=
  (f_Guide_lawfulAfter H BO GU (GU 0 4)).bind fun c1 =>
  some ((zb c1.1), c1.2)
def f_Y_once (H : (Nat → Nat → Int32)) (NS : (Nat → Nat → Int32)) (BO : (Nat → Nat → Int32)) (GU : (Nat → Nat → Int32)) : Option (Int32 × (Nat → Nat → Int32) × (Nat → Nat → Int32)) :=
  (f_Y_lookAhead H NS BO GU).bind fun c1 =>
  (f_Guide_lawfulAtOnce H c1.1 c1.2).bind fun c2 =>
  some ((zb c2.1), c2.2, c1.2)
def f_Guide_nextOf_l2 (H : (Nat → Nat → Int32)) (GU : (Nat → Nat → Int32)) (p1 : Int32) (v1 : Int32) : Option ((Int32) ⊕ ((Unit) ⊕ (Int32))) :=
  if (H 0 3) ≤ v1 then
    some (.inr (.inl ()))
  else
    if (((GU 0 4) &&& (p1 ^^^ (-1))) &&& (a_shl 1 v1)) = 0 then
      some (.inl (v1 + 1))
    else
      (rdx (GU 3) 1024 (p1 ||| (a_shl 1 v1))).bind fun x2 =>
      if x2 = 0 then
        some (.inl (v1 + 1))
      else
        some (.inr (.inr v1))
def f_Guide_nextOf (H : (Nat → Nat → Int32)) (GU : (Nat → Nat → Int32)) (p1 : Int32) : Option (Int32) :=
  (loopN (fun q => f_Guide_nextOf_l2 H GU p1 q) a_F 0).bind fun b3 => sumE b3 (fun _ =>
  some (-1)) (fun q => some q)
def f_Guide_firstOrder_l27 (H : (Nat → Nat → Int32)) (v1 : Int32) (BO_2 : (Nat → Nat → Int32)) (GU_3 : (Nat → Nat → Int32)) : Option ((Int32 × (Nat → Nat → Int32) × (Nat → Nat → Int32)) ⊕ ((Nat → Nat → Int32) × (Nat → Nat → Int32))) :=
  if v1 ≤ 0 then
    some (.inr (BO_2, GU_3))
  else
    (((
      (((
        (((
          if v1 = (GU_3 0 4) then
            some (.inl ())
          else
            (f_Guide_nextOf H GU_3 v1).bind fun x4 =>
            if x4 = (-1) then
              some (.inr (.inl BO_2))
            else
              some (.inl ())) : Option ((Unit) ⊕ (((Nat → Nat → Int32)) ⊕ (Int32 × (Nat → Nat → Int32)))))).bind fun b7 => sumE b7 (fun _ =>
        (f_Guide_lawfulAfter H BO_2 GU_3 v1).bind fun c6 =>
        if c6.1 = 0 then
          some (.inl c6.2)
        else
          some (.inr (1, c6.2))) (fun q => some q)) : Option (((Nat → Nat → Int32)) ⊕ (Int32 × (Nat → Nat → Int32))))).bind fun b8 => sumE b8 (fun BO_7 =>
      some (0, BO_7)) (fun q => some q)) : Option (Int32 × (Nat → Nat → Int32)))).bind fun t2 =>
    (ixx 1024 v1).bind fun j10 =>
    some (.inl (((v1 - 1) &&& ((u2 GU_3 3 j10 (zb t2.1)) 0 4)), t2.2, (u2 GU_3 3 j10 (zb t2.1))))
def f_Guide_firstOrder_l92 (H : (Nat → Nat → Int32)) (GU_13 : (Nat → Nat → Int32)) (BO_12 : (Nat → Nat → Int32)) (v15 : Int64) (v16 : Int32) (v17 : Int32) : Option ((Int64 × Int32 × Int32) ⊕ ((Int64) ⊕ (Int64 × (Nat → Nat → Int32) × (Nat → Nat → Int32)))) :=
  if v17 ≤ 0 then
    some (.inr (.inl v15))
  else
    (f_Guide_nextOf H GU_13 v16).bind fun x19 =>
    if x19 ≠ (-1) then
      some (.inl (((v15 * (10 : Int64)) + (Int32.toInt64 x19)), (v16 ||| (a_shl 1 x19)), (v17 + (-1))))
    else
      some (.inr (.inr ((-1 : Int64), BO_12, GU_13)))
def f_Guide_firstOrder (H : (Nat → Nat → Int32)) (BO : (Nat → Nat → Int32)) (GU : (Nat → Nat → Int32)) : Option (Int64 × (Nat → Nat → Int32) × (Nat → Nat → Int32)) :=
  if ((GU 0 4) &&& (H 0 5)) = 0 then
    (loopN (fun q => f_Guide_firstOrder_l27 H q.1 q.2.1 q.2.2) a_F ((GU 0 4), BO, GU)).bind fun p9_ =>
    (f_Integer_bitCount (p9_.2 0 4)).bind fun x14 =>
    (loopN (fun q => f_Guide_firstOrder_l92 H p9_.2 p9_.1 q.1 q.2.1 q.2.2) a_F ((0 : Int64), 0, x14)).bind fun b14 => sumE b14 (fun v20 =>
    some (v20, p9_.1, p9_.2)) (fun q => some q)
  else
    some ((-1 : Int64), BO, GU)
def f_Y_order (Y : (Nat → Nat → Int32)) (H : (Nat → Nat → Int32)) (NS : (Nat → Nat → Int32)) (BO : (Nat → Nat → Int32)) (GU : (Nat → Nat → Int32)) (hm : Nat) (r5 : Nat) (p1 : Int32) : Option (Nat × Int64 × (Nat → Nat → Int32) × (Nat → Nat → Int32) × (Nat → Nat → Int32) × Nat) :=
  (((
    (((
      if p1 < 0 then
        some (.inl ())
      else
        if 1 < p1 then
          some (.inl ())
        else
          some (.inr 1)) : Option ((Unit) ⊕ (Int32)))).bind fun b3 => sumE b3 (fun _ =>
    some 0) (fun q => some q)) : Option (Int32))).bind fun v1 =>
  (f_Y_refuseUnless Y v1).bind fun c4 =>
  if c4.1 = 0 then
    (f_Y_lookAhead H NS BO GU).bind fun c5 =>
    (f_Guide_firstOrder H c5.1 c5.2).bind fun c6 =>
    (((
      if p1 ≠ 0 then
        some (.inl ())
      else
        if (a_cmpL c6.1 (-1 : Int64)) = 0 then
          some (.inl ())
        else
          (f_Integer_bitCount (c6.2.2 0 4)).bind fun x10 =>
          some (.inr (0, (Int32.toInt64 x10), c4.2, c6.2.1, c6.2.2, hm))) : Option ((Unit) ⊕ (Nat × Int64 × (Nat → Nat → Int32) × (Nat → Nat → Int32) × (Nat → Nat → Int32) × Nat)))).bind fun b9 => sumE b9 (fun _ =>
    some (0, c6.1, c4.2, c6.2.1, c6.2.2, hm)) (fun q => some q)
  else
    some (c4.1, 0, c4.2, BO, GU, r5)
def f_Guide_beginners_l4 (H : (Nat → Nat → Int32)) (GU : (Nat → Nat → Int32)) (v1 : Int32) (v2 : Int32) (BO_4 : (Nat → Nat → Int32)) : Option ((Int32 × Int32 × (Nat → Nat → Int32)) ⊕ (Int32 × (Nat → Nat → Int32))) :=
  if (H 0 3) ≤ v2 then
    some (.inr (v1, BO_4))
  else
    if (((GU 0 4) &&& ((H 0 5) ^^^ (-1))) &&& (a_shl 1 v2)) = 0 then
      some (.inl (v1, (v2 + 1), BO_4))
    else
      (f_Guide_lawfulAfter H BO_4 GU (a_shl 1 v2)).bind fun c2 =>
      if c2.1 = 0 then
        some (.inl (v1, (v2 + 1), c2.2))
      else
        some (.inl ((v1 ||| (a_shl 1 v2)), (v2 + 1), c2.2))
def f_Guide_beginners (H : (Nat → Nat → Int32)) (BO : (Nat → Nat → Int32)) (GU : (Nat → Nat → Int32)) : Option (Int32 × (Nat → Nat → Int32)) :=
  (loopN (fun q => f_Guide_beginners_l4 H GU q.1 q.2.1 q.2.2) a_F (0, 0, BO)).bind fun p3_ =>
  some (p3_.1, p3_.2)
def f_Y_begin (H : (Nat → Nat → Int32)) (NS : (Nat → Nat → Int32)) (BO : (Nat → Nat → Int32)) (GU : (Nat → Nat → Int32)) : Option (Int32 × (Nat → Nat → Int32) × (Nat → Nat → Int32)) :=
  (f_Y_lookAhead H NS BO GU).bind fun c1 =>
  (f_Guide_beginners H c1.1 c1.2).bind fun c2 =>
  some (c2.1, c2.2, c1.2)
def f_Guide_waitedFor (H : (Nat → Nat → Int32)) (BO : (Nat → Nat → Int32)) (GU : (Nat → Nat → Int32)) (p1 : Int32) : Option (Int32) :=
  if ((a_shr (GU 0 4) p1) &&& 1) ≠ 0 then
    (rdx (GU 2) 10 p1).bind fun x1 =>
    (f_Board_inWay H BO p1 x1).bind fun x2 =>
    some (x2 &&& (GU 0 4))
  else
    some 0
def f_Y_waits (Y : (Nat → Nat → Int32)) (H : (Nat → Nat → Int32)) (NS : (Nat → Nat → Int32)) (BO : (Nat → Nat → Int32)) (GU : (Nat → Nat → Int32)) (hm : Nat) (r5 : Nat) (p1 : Int32) : Option (Nat × Int32 × (Nat → Nat → Int32) × (Nat → Nat → Int32) × (Nat → Nat → Int32) × Nat) :=
  (f_Y_needMeeting Y H p1).bind fun c1 =>
  if c1.1 = 0 then
    (f_Y_lookAhead H NS BO GU).bind fun c2 =>
    (f_Guide_waitedFor H c2.1 c2.2 p1).bind fun x6 =>
    some (0, x6, c1.2, c2.1, c2.2, hm)
  else
    some (c1.1, 0, c1.2, BO, GU, r5)
def f_Guide_tangled_l21 (H : (Nat → Nat → Int32)) (GU : (Nat → Nat → Int32)) (v7 : Int32) (v8 : Int32) (v9 : Int32) (BO_11 : (Nat → Nat → Int32)) : Option ((Int32 × Int32 × Int32 × (Nat → Nat → Int32)) ⊕ (Int32 × Int32 × (Nat → Nat → Int32))) :=
  if (H 0 3) ≤ v9 then
    some (.inr (v7, v8, BO_11))
  else
    if ((((GU 0 4) &&& (v7 ^^^ (-1))) &&& ((H 0 5) ^^^ (-1))) &&& (a_shl 1 v9)) = 0 then
      some (.inl (v7, v8, (v9 + 1), BO_11))
    else
      (f_Guide_lawfulAfter H BO_11 GU (v7 ||| (a_shl 1 v9))).bind fun c3 =>
      if c3.1 = 0 then
        some (.inl (v7, v8, (v9 + 1), c3.2))
      else
        some (.inl ((v7 ||| (a_shl 1 v9)), 1, (v9 + 1), c3.2))
def f_Guide_tangled_l6 (H : (Nat → Nat → Int32)) (GU : (Nat → Nat → Int32)) (v1 : Int32) (v2 : Int32) (v3 : Int32) (BO_6 : (Nat → Nat → Int32)) : Option ((Int32 × Int32 × Int32 × (Nat → Nat → Int32)) ⊕ (Int32 × (Nat → Nat → Int32))) :=
  if 10 < v3 then
    some (.inr (v1, BO_6))
  else
    if v2 = 0 then
      some (.inr (v1, BO_6))
    else
      (loopN (fun q => f_Guide_tangled_l21 H GU q.1 q.2.1 q.2.2.1 q.2.2.2) a_F (v1, 0, 0, BO_6)).bind fun p4_ =>
      some (.inl (p4_.1, p4_.2.1, (v3 + 1), p4_.2.2))
def f_Guide_tangled (H : (Nat → Nat → Int32)) (BO : (Nat → Nat → Int32)) (GU : (Nat → Nat → Int32)) : Option (Int32 × (Nat → Nat → Int32)) :=
  (loopN (fun q => f_Guide_tangled_l6 H GU q.1 q.2.1 q.2.2.1 q.2.2.2) a_F (0, 1, 0, BO)).bind fun p5_ =>
  some (((GU 0 4) &&& (p5_.1 ^^^ (-1))), p5_.2)
def f_Y_knot (H : (Nat → Nat → Int32)) (NS : (Nat → Nat → Int32)) (BO : (Nat → Nat → Int32)) (GU : (Nat → Nat → Int32)) : Option (Int32 × (Nat → Nat → Int32) × (Nat → Nat → Int32)) :=
  (f_Y_lookAhead H NS BO GU).bind fun c1 =>
  (f_Guide_tangled H c1.1 c1.2).bind fun c2 =>
  some (c2.1, c2.2, c1.2)
def f_Guide_isLateFor (GU : (Nat → Nat → Int32)) (p1 : Int32) (p2 : Int32) : Option (Int32) :=
  (rdx (GU 2) 10 p1).bind fun x1 =>
  if x1 = (-1) then
    some (zb 0)
  else
    (rdx (GU 2) 10 p1).bind fun x2 =>
    (f_Y_hourOf x2).bind fun x3 =>
    if x3 < p2 then
      (rdx (GU 1) 10 p1).bind fun x4 =>
      if x4 = (-1) then
        some (zb 1)
      else
        (rdx (GU 1) 10 p1).bind fun x5 =>
        (f_Y_hourOf x5).bind fun x6 =>
        (rdx (GU 2) 10 p1).bind fun x7 =>
        (f_Y_hourOf x7).bind fun x8 =>
        if x6 = x8 then
          some (zb 0)
        else
          some (zb 1)
    else
      some (zb 0)
def f_Guide_missers_l37 (H : (Nat → Nat → Int32)) (GU : (Nat → Nat → Int32)) (v2 : Int32) (p1 : Int32) (x5 : Int32) (v6 : Int32) (v7 : Int32) : Option ((Int32 × Int32) ⊕ (Int32)) :=
  if (H 0 3) ≤ v7 then
    some (.inr v6)
  else
    (f_House_isMember H v7 v2).bind fun x8 =>
    if x8 = 0 then
      some (.inl (v6, (v7 + 1)))
    else
      (f_Guide_isLateFor GU v7 (p1 + x5)).bind fun x9 =>
      if x9 = 0 then
        some (.inl (v6, (v7 + 1)))
      else
        some (.inl ((v6 ||| (a_shl 1 v2)), (v7 + 1)))
def f_Guide_missers_l4 (H : (Nat → Nat → Int32)) (GU : (Nat → Nat → Int32)) (p1 : Int32) (v1 : Int32) (v2 : Int32) : Option ((Int32 × Int32) ⊕ (Int32)) :=
  if (H 0 2) ≤ v2 then
    some (.inr v1)
  else
    (rdx (H 3) 8 v2).bind fun x5 =>
    (loopN (fun q => f_Guide_missers_l37 H GU v2 p1 x5 q.1 q.2) a_F (v1, 0)).bind fun v10 =>
    some (.inl (v10, (v2 + 1)))
def f_Guide_missers (H : (Nat → Nat → Int32)) (GU : (Nat → Nat → Int32)) (p1 : Int32) : Option (Int32) :=
  (loopN (fun q => f_Guide_missers_l4 H GU p1 q.1 q.2) a_F (0, 0)).bind fun v12 =>
  some v12
def f_Y_news (Y : (Nat → Nat → Int32)) (H : (Nat → Nat → Int32)) (NS : (Nat → Nat → Int32)) (BO : (Nat → Nat → Int32)) (GU : (Nat → Nat → Int32)) (hm : Nat) (r5 : Nat) (p1 : Int32) (p2 : Int32) : Option (Nat × Int32 × (Nat → Nat → Int32) × (Nat → Nat → Int32) × (Nat → Nat → Int32) × Nat) :=
  (f_Y_needHour Y H p1).bind fun c1 =>
  if c1.1 = 0 then
    (((
      (((
        if p2 < 0 then
          some (.inl ())
        else
          if 1 < p2 then
            some (.inl ())
          else
            some (.inr 1)) : Option ((Unit) ⊕ (Int32)))).bind fun b4 => sumE b4 (fun _ =>
      some 0) (fun q => some q)) : Option (Int32))).bind fun v3 =>
    (f_Y_refuseUnless c1.2 v3).bind fun c5 =>
    if c5.1 = 0 then
      (f_Y_lookAhead H NS BO GU).bind fun c6 =>
      (f_Guide_missers H c6.2 p1).bind fun x9 =>
      if p2 ≠ 0 then
        some (0, x9, c5.2, c6.1, c6.2, hm)
      else
        (f_Integer_bitCount x9).bind fun x10 =>
        some (0, x10, c5.2, c6.1, c6.2, hm)
    else
      some (c5.1, 0, c5.2, BO, GU, r5)
  else
    some (c1.1, 0, c1.2, BO, GU, r5)
def f_Y_latest_l15 (H : (Nat → Nat → Int32)) (GU_3 : (Nat → Nat → Int32)) (BO_2 : (Nat → Nat → Int32)) (v4 : Int32) : Option ((Int32) ⊕ ((Unit) ⊕ (Int32 × (Nat → Nat → Int32) × (Nat → Nat → Int32)))) :=
  if v4 < 0 then
    some (.inr (.inl ()))
  else
    (f_Guide_missers H GU_3 v4).bind fun x5 =>
    if x5 ≠ 0 then
      some (.inl (v4 + (-1)))
    else
      some (.inr (.inr (v4, BO_2, GU_3)))
def f_Y_latest (H : (Nat → Nat → Int32)) (NS : (Nat → Nat → Int32)) (BO : (Nat → Nat → Int32)) (GU : (Nat → Nat → Int32)) : Option (Int32 × (Nat → Nat → Int32) × (Nat → Nat → Int32)) :=
  (f_Y_lookAhead H NS BO GU).bind fun c1 =>
  (loopN (fun q => f_Y_latest_l15 H c1.2 c1.1 q) a_F ((H 0 0) - 1)).bind fun b5 => sumE b5 (fun _ =>
  some ((-1), c1.1, c1.2)) (fun q => some q)
def f_Guide_goAll (H : (Nat → Nat → Int32)) (BO : (Nat → Nat → Int32)) (GU : (Nat → Nat → Int32)) : Option ((Nat → Nat → Int32)) :=
  (f_Guide_goOnly H BO GU (GU 0 4)).bind fun BO_1 =>
  some BO_1
def f_Y_follow (H : (Nat → Nat → Int32)) (NS : (Nat → Nat → Int32)) (BO : (Nat → Nat → Int32)) (GU : (Nat → Nat → Int32)) : Option (Int32 × (Nat → Nat → Int32) × (Nat → Nat → Int32) × (Nat → Nat → Int32)) :=
  (f_Y_lookAhead H NS BO GU).bind fun c1 =>
  (f_Integer_bitCount (c1.2 0 4)).bind fun x4 =>
  if x4 ≠ 0 then
    (f_State_isFull NS).bind fun x5 =>
    if x5 = 0 then
      if ((c1.2 0 4) &&& (H 0 5)) ≠ 0 then
        some ((-1), NS, c1.1, c1.2)
      else
        (f_Guide_lawfulAtOnce H c1.1 c1.2).bind fun c4 =>
        if c4.1 ≠ 0 then
          (f_Guide_goAll H c4.2 c1.2).bind fun BO_8 =>
          (f_Board_countMoved H BO_8 (NS 1)).bind fun BO_9 =>
          (f_State_act NS BO_9).bind fun NS_10 =>
          some (x4, NS_10, BO_9, c1.2)
        else
          some ((-1), NS, c4.2, c1.2)
    else
      some ((-64), NS, c1.1, c1.2)
  else
    some (0, NS, c1.1, c1.2)
def f_Y_pair (Y : (Nat → Nat → Int32)) (H : (Nat → Nat → Int32)) (NS : (Nat → Nat → Int32)) (BO : (Nat → Nat → Int32)) (hm : Nat) (r5 : Nat) (p1 : Int32) (p2 : Int32) : Option (Nat × Int32 × (Nat → Nat → Int32) × (Nat → Nat → Int32) × Nat) :=
  (f_Y_needPerson Y H p1).bind fun c1 =>
  if c1.1 = 0 then
    (f_Y_needPerson c1.2 H p2).bind fun c2 =>
    if c2.1 = 0 then
      (((
        if p1 = p2 then
          some 0
        else
          some 1) : Option (Int32))).bind fun v5 =>
      (f_Y_refuseUnless c2.2 v5).bind fun c4 =>
      if c4.1 = 0 then
        (f_House_meetingsOf H p1).bind fun x8 =>
        (f_House_meetingsOf H p2).bind fun x9 =>
        (f_Y_lookNow H NS BO).bind fun BO_11 =>
        (f_Board_placed H BO_11).bind fun x12 =>
        (f_Integer_bitCount ((x8 &&& x9) &&& x12)).bind fun x13 =>
        some (0, x13, c4.2, BO_11, hm)
      else
        some (c4.1, 0, c4.2, BO, r5)
    else
      some (c2.1, 0, c2.2, BO, r5)
  else
    some (c1.1, 0, c1.2, BO, r5)
def f_Board_collectCommon_l25 (H : (Nat → Nat → Int32)) (v3 : Int32) (x1 : Int32) (v7 : Int32) (v8 : Int32) (BO_10 : (Nat → Nat → Int32)) : Option ((Int32 × Int32 × (Nat → Nat → Int32)) ⊕ (Int32 × (Nat → Nat → Int32))) :=
  if (H 0 2) ≤ v8 then
    some (.inr (v7, BO_10))
  else
    (f_House_meetingsOf H v3).bind fun x11 =>
    (f_House_meetingsOf H v8).bind fun x12 =>
    if ((x11 &&& x12) &&& x1) = 0 then
      some (.inl (v7, (v8 + 1), BO_10))
    else
      if (Int32.ofNat 64) ≤ v7 then
        some (.inl (v7, (v8 + 1), BO_10))
      else
        (ixx 64 v7).bind fun j13 =>
        some (.inl ((v7 + 1), (v8 + 1), (u2 BO_10 4 j13 ((x11 &&& x12) &&& x1))))
def f_Board_collectCommon_l9 (H : (Nat → Nat → Int32)) (x1 : Int32) (v2 : Int32) (v3 : Int32) (BO_6 : (Nat → Nat → Int32)) : Option ((Int32 × Int32 × (Nat → Nat → Int32)) ⊕ (Int32 × (Nat → Nat → Int32))) :=
  if (H 0 2) ≤ v3 then
    some (.inr (v2, BO_6))
  else
    (loopN (fun q => f_Board_collectCommon_l25 H v3 x1 q.1 q.2.1 q.2.2) a_F (v2, (v3 + 1), BO_6)).bind fun p6_ =>
    some (.inl (p6_.1, (v3 + 1), p6_.2))
def f_Board_collectCommon (H : (Nat → Nat → Int32)) (BO : (Nat → Nat → Int32)) : Option (Int32 × (Nat → Nat → Int32)) :=
  (f_Board_placed H BO).bind fun x1 =>
  (loopN (fun q => f_Board_collectCommon_l9 H x1 q.1 q.2.1 q.2.2) a_F (0, 0, BO)).bind fun p7_ =>
  some (p7_.1, p7_.2)
def f_Board_pairsKeptWithout_l2 (BO : (Nat → Nat → Int32)) (p2 : Int32) (p1 : Int32) (v1 : Int32) : Option ((Int32) ⊕ ((Unit) ⊕ (Int32))) :=
  if p2 ≤ v1 then
    some (.inr (.inl ()))
  else
    if (Int32.ofNat 64) ≤ v1 then
      some (.inr (.inl ()))
    else
      (rdx (BO 4) 64 v1).bind fun x2 =>
      if (x2 &&& (p1 ^^^ (-1))) ≠ 0 then
        some (.inl (v1 + 1))
      else
        some (.inr (.inr (zb 0)))
def f_Board_pairsKeptWithout (BO : (Nat → Nat → Int32)) (p1 : Int32) (p2 : Int32) : Option (Int32) :=
  (loopN (fun q => f_Board_pairsKeptWithout_l2 BO p2 p1 q) a_F 0).bind fun b3 => sumE b3 (fun _ =>
  some (zb 1)) (fun q => some q)
def f_Board_mostDrops_l25 (H : (Nat → Nat → Int32)) (x3 : Int32) (BO_2 : (Nat → Nat → Int32)) (x1 : Int32) (v4 : Int32) (v5 : Int32) : Option ((Int32 × Int32) ⊕ (Int32)) :=
  if (a_shl 1 (H 0 3)) ≤ v5 then
    some (.inr v4)
  else
    (f_Integer_bitCount v5).bind fun x7 =>
    (f_Integer_bitCount v4).bind fun x8 =>
    (((
      if x7 ≤ x8 then
        some 0
      else
        some 1) : Option (Int32))).bind fun v9 =>
    if (v5 &&& ((x3 &&& ((H 0 5) ^^^ (-1))) ^^^ (-1))) ≠ 0 then
      some (.inl (v4, (v5 + 1)))
    else
      if v9 = 0 then
        some (.inl (v4, (v5 + 1)))
      else
        (f_Board_pairsKeptWithout BO_2 v5 x1).bind fun x10 =>
        if x10 = 0 then
          some (.inl (v4, (v5 + 1)))
        else
          some (.inl (v5, (v5 + 1)))
def f_Board_mostDrops (H : (Nat → Nat → Int32)) (BO : (Nat → Nat → Int32)) : Option (Int32 × (Nat → Nat → Int32)) :=
  (f_Board_collectCommon H BO).bind fun c1 =>
  (f_Board_placed H c1.2).bind fun x3 =>
  (loopN (fun q => f_Board_mostDrops_l25 H x3 c1.2 c1.1 q.1 q.2) a_F (0, 1)).bind fun v11 =>
  some (v11, c1.2)
def f_Y_drops (H : (Nat → Nat → Int32)) (NS : (Nat → Nat → Int32)) (BO : (Nat → Nat → Int32)) : Option (Int32 × (Nat → Nat → Int32)) :=
  (f_Y_lookNow H NS BO).bind fun BO_2 =>
  (f_Board_mostDrops H BO_2).bind fun c2 =>
  some (c2.1, c2.2)
def f_House_allPeople (H : (Nat → Nat → Int32)) : Option (Int32) :=
  some ((a_shl 1 (H 0 2)) - 1)
def f_Y_needPeople (Y : (Nat → Nat → Int32)) (H : (Nat → Nat → Int32)) (p1 : Int32) : Option (Nat × (Nat → Nat → Int32)) :=
  (f_House_allPeople H).bind fun x1 =>
  (((
    if (p1 &&& (x1 ^^^ (-1))) ≠ 0 then
      some 0
    else
      some 1) : Option (Int32))).bind fun v2 =>
  (f_Y_refuseUnless Y v2).bind fun c3 =>
  if c3.1 = 0 then
    some (0, c3.2)
  else
    some (c3.1, c3.2)
def f_Board_idleHours_l25 (H : (Nat → Nat → Int32)) (BO : (Nat → Nat → Int32)) (p1 : Int32) (v2 : Int32) (v3 : Int32) : Option ((Int32 × Int32) ⊕ (Int32)) :=
  if (H 0 3) ≤ v3 then
    some (.inr v2)
  else
    (rdx (BO 1) 10 v3).bind fun x4 =>
    if x4 = (-1) then
      some (.inl (v2, (v3 + 1)))
    else
      (rdx (H 8) 10 v3).bind fun x5 =>
      if (x5 &&& p1) = 0 then
        some (.inl (v2, (v3 + 1)))
      else
        (rdx (BO 1) 10 v3).bind fun x6 =>
        (f_Y_hourOf x6).bind fun x7 =>
        some (.inl ((v2 &&& ((a_shl 1 x7) ^^^ (-1))), (v3 + 1)))
def f_Board_idleHours (H : (Nat → Nat → Int32)) (BO : (Nat → Nat → Int32)) (p1 : Int32) : Option (Int32) :=
  (f_House_busyHoursOf H p1).bind fun x1 =>
  (loopN (fun q => f_Board_idleHours_l25 H BO p1 q.1 q.2) a_F ((((a_shl 1 (H 0 0)) - 1) &&& (x1 ^^^ (-1))), 0)).bind fun v8 =>
  some v8
def f_Y_gap (Y : (Nat → Nat → Int32)) (H : (Nat → Nat → Int32)) (NS : (Nat → Nat → Int32)) (BO : (Nat → Nat → Int32)) (hm : Nat) (r5 : Nat) (p1 : Int32) : Option (Nat × Int32 × (Nat → Nat → Int32) × (Nat → Nat → Int32) × Nat) :=
  (f_Y_needPeople Y H p1).bind fun c1 =>
  if c1.1 = 0 then
    (f_Y_lookNow H NS BO).bind fun BO_4 =>
    (f_Board_idleHours H BO_4 p1).bind fun x5 =>
    some (0, x5, c1.2, BO_4, hm)
  else
    some (c1.1, 0, c1.2, BO, r5)
def f_Y_together_l44 (H : (Nat → Nat → Int32)) (p2 : Int32) (x8 : Int32) (Y_5 : (Nat → Nat → Int32)) (BO_7 : (Nat → Nat → Int32)) (hm : Nat) (v9 : Int32) : Option ((Int32) ⊕ ((Unit) ⊕ (Nat × Int32 × (Nat → Nat → Int32) × (Nat → Nat → Int32) × Nat))) :=
  if (H 0 0) < (v9 + p2) then
    some (.inr (.inl ()))
  else
    if ((a_shr x8 v9) &&& ((a_shl 1 p2) - 1)) ≠ ((a_shl 1 p2) - 1) then
      some (.inl (v9 + 1))
    else
      some (.inr (.inr (0, v9, Y_5, BO_7, hm)))
def f_Y_together (Y : (Nat → Nat → Int32)) (H : (Nat → Nat → Int32)) (NS : (Nat → Nat → Int32)) (BO : (Nat → Nat → Int32)) (hm : Nat) (r5 : Nat) (p1 : Int32) (p2 : Int32) : Option (Nat × Int32 × (Nat → Nat → Int32) × (Nat → Nat → Int32) × Nat) :=
  (f_Y_needPeople Y H p1).bind fun c1 =>
  if c1.1 = 0 then
    (((
      (((
        if p2 < 1 then
          some (.inl ())
        else
          if 10 < p2 then
            some (.inl ())
          else
            some (.inr 1)) : Option ((Unit) ⊕ (Int32)))).bind fun b4 => sumE b4 (fun _ =>
      some 0) (fun q => some q)) : Option (Int32))).bind fun v3 =>
    (f_Y_refuseUnless c1.2 v3).bind fun c5 =>
    if c5.1 = 0 then
      (f_Y_lookNow H NS BO).bind fun BO_7 =>
      (f_Board_idleHours H BO_7 p1).bind fun x8 =>
      (loopN (fun q => f_Y_together_l44 H p2 x8 c5.2 BO_7 hm q) a_F 0).bind fun b10 => sumE b10 (fun _ =>
      some (0, (-1), c5.2, BO_7, hm)) (fun q => some q)
    else
      some (c5.1, 0, c5.2, BO, r5)
  else
    some (c1.1, 0, c1.2, BO, r5)
def f_Math_max (p0 : Int32) (p1 : Int32) : Option (Int32) :=
  if p0 < p1 then
    some p1
  else
    some p0
def f_Board_mostBorne_l4 (H : (Nat → Nat → Int32)) (BO : (Nat → Nat → Int32)) (v1 : Int32) (v2 : Int32) : Option ((Int32 × Int32) ⊕ (Int32)) :=
  if (H 0 2) ≤ v2 then
    some (.inr v1)
  else
    (f_Board_bears H BO v2).bind fun x3 =>
    (f_Math_max v1 x3).bind fun x4 =>
    some (.inl (x4, (v2 + 1)))
def f_Board_mostBorne (H : (Nat → Nat → Int32)) (BO : (Nat → Nat → Int32)) : Option (Int32) :=
  (loopN (fun q => f_Board_mostBorne_l4 H BO q.1 q.2) a_F (0, 0)).bind fun v5 =>
  some v5
def f_Y_fair_l37 (H : (Nat → Nat → Int32)) (BO_5 : (Nat → Nat → Int32)) (x6 : Int32) (v7 : Int32) (v8 : Int32) (v9 : Int32) : Option ((Int32 × Int32 × Int32) ⊕ (Int32 × Int32)) :=
  if (H 0 2) ≤ v9 then
    some (.inr (v7, v8))
  else
    (f_Board_bears H BO_5 v9).bind fun x11 =>
    (f_Math_min v7 x11).bind fun x12 =>
    if v8 ≠ (-1) then
      some (.inl (x12, v8, (v9 + 1)))
    else
      if x11 ≠ x6 then
        some (.inl (x12, v8, (v9 + 1)))
      else
        some (.inl (x12, v9, (v9 + 1)))
def f_Y_fair (Y : (Nat → Nat → Int32)) (H : (Nat → Nat → Int32)) (NS : (Nat → Nat → Int32)) (BO : (Nat → Nat → Int32)) (hm : Nat) (r5 : Nat) (p1 : Int32) : Option (Nat × Int32 × (Nat → Nat → Int32) × (Nat → Nat → Int32) × Nat) :=
  (((
    (((
      if p1 < 0 then
        some (.inl ())
      else
        if 1 < p1 then
          some (.inl ())
        else
          some (.inr 1)) : Option ((Unit) ⊕ (Int32)))).bind fun b3 => sumE b3 (fun _ =>
    some 0) (fun q => some q)) : Option (Int32))).bind fun v1 =>
  (f_Y_refuseUnless Y v1).bind fun c4 =>
  if c4.1 = 0 then
    (f_Y_lookNow H NS BO).bind fun BO_5 =>
    (f_Board_mostBorne H BO_5).bind fun x6 =>
    (loopN (fun q => f_Y_fair_l37 H BO_5 x6 q.1 q.2.1 q.2.2) a_F (x6, (-1), 0)).bind fun p10_ =>
    if p1 ≠ 0 then
      some (0, p10_.2, c4.2, BO_5, hm)
    else
      some (0, (x6 - p10_.1), c4.2, BO_5, hm)
  else
    some (c4.1, 0, c4.2, BO, r5)
def f_Rule_setWanted (RU : (Nat → Nat → Int32)) (p1 : Int32) (p2 : Int32) : Option ((Nat → Nat → Int32)) :=
  (f_Y_hourOf p1).bind fun x1 =>
  (ixx 11 8).bind fun j2 =>
  (f_Y_roomOf p1).bind fun x3 =>
  (ixx 11 9).bind fun j4 =>
  (ixx 11 10).bind fun j5 =>
  some (u2 (u2 (u2 RU 3 j2 x1) 3 j4 x3) 3 j5 p2)
def f_Rule_setMeeting (H : (Nat → Nat → Int32)) (RU : (Nat → Nat → Int32)) (BO : (Nat → Nat → Int32)) (p1 : Int32) (p3 : Int32) : Option ((Nat → Nat → Int32)) :=
  if 11 ≤ (p1 + 3) then
    some RU
  else
    (rdx (H 7) 10 p3).bind fun x1 =>
    (ixx 11 p1).bind fun j2 =>
    (rdx (BO 2) 10 p3).bind fun x3 =>
    (ixx 11 (p1 + 1)).bind fun j4 =>
    (rdx (H 8) 10 p3).bind fun x5 =>
    (f_Integer_bitCount x5).bind fun x6 =>
    (ixx 11 (p1 + 2)).bind fun j7 =>
    (ixx 11 (p1 + 3)).bind fun j8 =>
    some (u2 (u2 (u2 (u2 RU 3 j2 x1) 3 j4 x3) 3 j7 x6) 3 j8 p3)
def f_Rule_operand (RU : (Nat → Nat → Int32)) (p1 : Int32) : Option (Int32) :=
  if (p1 - 100) < 0 then
    some p1
  else
    if 11 ≤ (p1 - 100) then
      some p1
    else
      (rdx (RU 3) 11 (p1 - 100)).bind fun x1 =>
      some x1
def f_Rule_apply (p0 : Int32) (p1 : Int32) (p2 : Int32) : Option (Int32) :=
  if p0 = 201 then
    some (p1 &&& p2)
  else if p0 = 202 then
    some (p1 ||| p2)
  else if p0 = 203 then
    if p2 ≤ p1 then
      some 0
    else
      some 1
  else if p0 = 204 then
    if p1 ≤ p2 then
      some 0
    else
      some 1
  else if p0 = 205 then
    if p1 ≠ p2 then
      some 0
    else
      some 1
  else if p0 = 206 then
    some (p1 + p2)
  else if p0 = 207 then
    some (p1 - p2)
  else if p0 = 208 then
    some (p1 * p2)
  else 
    some (p1 ||| p2)
def f_Rule_isSo_l29 (v3 : Int32) (v4 : Int32) (RU_6 : (Nat → Nat → Int32)) : Option ((Int32 × Int32 × (Nat → Nat → Int32)) ⊕ (Int32 × (Nat → Nat → Int32))) :=
  if (RU_6 0 1) ≤ v4 then
    some (.inr (v3, RU_6))
  else
    (rdx (RU_6 1) 150 v4).bind fun x7 =>
    (((
      if 200 ≤ x7 then
        some (.inl ())
      else
        if 150 ≤ v3 then
          some (.inl ())
        else
          (f_Rule_operand RU_6 x7).bind fun x8 =>
          (ixx 150 v3).bind fun j9 =>
          some (.inr (.inl ((v3 + 1), (v4 + 1), (u2 RU_6 2 j9 x8))))) : Option ((Unit) ⊕ ((Int32 × Int32 × (Nat → Nat → Int32)) ⊕ (Int32 × (Nat → Nat → Int32)))))).bind fun b9 => sumE b9 (fun _ =>
    (((
      if x7 ≠ 200 then
        some (.inl ())
      else
        if v3 < 1 then
          some (.inl ())
        else
          (rdx (RU_6 2) 150 (v3 - 1)).bind fun x10 =>
          (ixx 150 (v3 - 1)).bind fun j11 =>
          some (.inr (.inl (v3, (v4 + 1), (u2 RU_6 2 j11 (1 - x10)))))) : Option ((Unit) ⊕ ((Int32 × Int32 × (Nat → Nat → Int32)) ⊕ (Int32 × (Nat → Nat → Int32)))))).bind fun b8 => sumE b8 (fun _ =>
    if v3 < 2 then
      some (.inl (v3, (v4 + 1), RU_6))
    else
      (rdx (RU_6 2) 150 ((v3 + (-1)) - 1)).bind fun x12 =>
      (rdx (RU_6 2) 150 (v3 + (-1))).bind fun x13 =>
      (f_Rule_apply x7 x12 x13).bind fun x14 =>
      (ixx 150 ((v3 + (-1)) - 1)).bind fun j15 =>
      some (.inl ((v3 + (-1)), (v4 + 1), (u2 RU_6 2 j15 x14)))) (fun q => some q)) (fun q => some q)
def f_Rule_isSo (H : (Nat → Nat → Int32)) (RU : (Nat → Nat → Int32)) (BO : (Nat → Nat → Int32)) (p2 : Int32) (p3 : Int32) : Option (Int32 × (Nat → Nat → Int32)) :=
  if (RU 0 1) ≠ 0 then
    (f_Rule_setMeeting H RU BO 0 p2).bind fun RU_1 =>
    (f_Rule_setMeeting H RU_1 BO 4 p3).bind fun RU_2 =>
    (loopN (fun q => f_Rule_isSo_l29 q.1 q.2.1 q.2.2) a_F (0, 0, RU_2)).bind fun p10_ =>
    if p10_.1 ≠ 1 then
      some ((zb 0), p10_.2)
    else
      (rdx (p10_.2 2) 150 0).bind fun x20 =>
      if x20 = 0 then
        some ((zb 0), p10_.2)
      else
        some ((zb 1), p10_.2)
  else
    some ((zb 0), RU)
def f_Y_yields (Y : (Nat → Nat → Int32)) (H : (Nat → Nat → Int32)) (RU : (Nat → Nat → Int32)) (NS : (Nat → Nat → Int32)) (BO : (Nat → Nat → Int32)) (hm : Nat) (r5 : Nat) (p1 : Int32) (p2 : Int32) : Option (Nat × Int32 × (Nat → Nat → Int32) × (Nat → Nat → Int32) × (Nat → Nat → Int32) × Nat) :=
  (f_Y_needMeeting Y H p1).bind fun c1 =>
  if c1.1 = 0 then
    (f_Y_needMeeting c1.2 H p2).bind fun c2 =>
    if c2.1 = 0 then
      (((
        (((
          if p1 = p2 then
            some (.inl ())
          else
            (rdx (NS 1) 10 p1).bind fun x5 =>
            if x5 = (-1) then
              some (.inl ())
            else
              some (.inr 1)) : Option ((Unit) ⊕ (Int32)))).bind fun b5 => sumE b5 (fun _ =>
        some 0) (fun q => some q)) : Option (Int32))).bind fun v6 =>
      (f_Y_refuseUnless c2.2 v6).bind fun c6 =>
      if c6.1 = 0 then
        (f_Y_lookNow H NS BO).bind fun BO_10 =>
        (rdx (BO_10 1) 10 p1).bind fun x11 =>
        (f_Rule_setWanted RU x11 0).bind fun RU_12 =>
        (f_Rule_isSo H RU_12 BO_10 p1 p2).bind fun c9 =>
        some (0, (zb c9.1), c6.2, c9.2, BO_10, hm)
      else
        some (c6.1, 0, c6.2, RU, BO, r5)
    else
      some (c2.1, 0, c2.2, RU, BO, r5)
  else
    some (c1.1, 0, c1.2, RU, BO, r5)
def f_Pusher_mayEnter (H : (Nat → Nat → Int32)) (BO : (Nat → Nat → Int32)) (p1 : Int32) (p2 : Int32) (p3 : Int32) : Option (Int32) :=
  if (p3 &&& (H 0 5)) ≠ 0 then
    some (zb 0)
  else
    (f_Board_isHeldPlace BO p2).bind fun x1 =>
    if x1 ≠ 0 then
      some (zb 0)
    else
      (f_Board_lastingClashes H p1 p2).bind fun x2 =>
      if x2 ≠ 0 then
        some (zb 0)
      else
        some (zb 1)
def f_Pusher_leave_l2 (H : (Nat → Nat → Int32)) (p1 : Int32) (v1 : Int32) (BO_2 : (Nat → Nat → Int32)) (PU_3 : (Nat → Nat → Int32)) : Option ((Int32 × (Nat → Nat → Int32) × (Nat → Nat → Int32)) ⊕ ((Nat → Nat → Int32) × (Nat → Nat → Int32))) :=
  if (H 0 3) ≤ v1 then
    some (.inr (BO_2, PU_3))
  else
    if ((a_shr p1 v1) &&& 1) = 0 then
      some (.inl ((v1 + 1), BO_2, PU_3))
    else
      if 10 ≤ (PU_3 0 2) then
        some (.inl ((v1 + 1), BO_2, PU_3))
      else
        (ixx 10 v1).bind fun j4 =>
        (ixx 10 (PU_3 0 2)).bind fun j5 =>
        some (.inl ((v1 + 1), (u2 BO_2 1 j4 (-1)), (u2 (u2 PU_3 1 j5 v1) 0 2 (((u2 PU_3 1 j5 v1) 0 2) + 1))))
def f_Pusher_leave (H : (Nat → Nat → Int32)) (BO : (Nat → Nat → Int32)) (PU : (Nat → Nat → Int32)) (p1 : Int32) : Option ((Nat → Nat → Int32) × (Nat → Nat → Int32)) :=
  (loopN (fun q => f_Pusher_leave_l2 H p1 q.1 q.2.1 q.2.2) a_F (0, BO, PU)).bind fun p2_ =>
  some (p2_.1, p2_.2)
def f_Pusher_firstOpen_l18 (H : (Nat → Nat → Int32)) (BO : (Nat → Nat → Int32)) (v1 : Int32) (p1 : Int32) (v3 : Int32) : Option ((Int32) ⊕ ((Unit) ⊕ ((Int32) ⊕ ((Unit) ⊕ (Int32))))) :=
  if (H 0 1) ≤ v3 then
    some (.inr (.inl ()))
  else
    (f_Y_placeOf v1 v3).bind fun x4 =>
    (f_Board_isOpen H BO p1 x4).bind fun x5 =>
    if x5 = 0 then
      some (.inl (v3 + 1))
    else
      (f_Y_placeOf v1 v3).bind fun x6 =>
      some (.inr (.inr (.inr (.inr x6))))
def f_Pusher_firstOpen_l2 (H : (Nat → Nat → Int32)) (BO : (Nat → Nat → Int32)) (p1 : Int32) (v1 : Int32) : Option ((Int32) ⊕ ((Unit) ⊕ (Int32))) :=
  if (H 0 0) ≤ v1 then
    some (.inr (.inl ()))
  else
    (loopN (fun q => f_Pusher_firstOpen_l18 H BO v1 p1 q) a_F 0).bind fun b7 => sumE b7 (fun _ =>
    some (.inl (v1 + 1))) (fun q => some q)
def f_Pusher_firstOpen (H : (Nat → Nat → Int32)) (BO : (Nat → Nat → Int32)) (p1 : Int32) : Option (Int32) :=
  (loopN (fun q => f_Pusher_firstOpen_l2 H BO p1 q) a_F 0).bind fun b9 => sumE b9 (fun _ =>
  some (-1)) (fun q => some q)
def f_Pusher_allYield_l10 (H : (Nat → Nat → Int32)) (BO : (Nat → Nat → Int32)) (p4 : Int32) (p2 : Int32) (v2 : Int32) (RU_3 : (Nat → Nat → Int32)) : Option ((Int32 × (Nat → Nat → Int32)) ⊕ (((Nat → Nat → Int32)) ⊕ (Int32 × (Nat → Nat → Int32)))) :=
  if (H 0 3) ≤ v2 then
    some (.inr (.inl RU_3))
  else
    if ((a_shr p4 v2) &&& 1) = 0 then
      some (.inl ((v2 + 1), RU_3))
    else
      (f_Rule_isSo H RU_3 BO v2 p2).bind fun c3 =>
      if c3.1 ≠ 0 then
        some (.inl ((v2 + 1), c3.2))
      else
        some (.inr (.inr ((zb 0), c3.2)))
def f_Pusher_allYield (H : (Nat → Nat → Int32)) (RU : (Nat → Nat → Int32)) (BO : (Nat → Nat → Int32)) (p2 : Int32) (p3 : Int32) (p4 : Int32) (p5 : Int32) : Option (Int32 × (Nat → Nat → Int32)) :=
  (f_Rule_setWanted RU p3 p5).bind fun RU_1 =>
  (loopN (fun q => f_Pusher_allYield_l10 H BO p4 p2 q.1 q.2) a_F (0, RU_1)).bind fun b5 => sumE b5 (fun RU_7 =>
  some ((zb 1), RU_7)) (fun q => some q)
def f_Pusher_firstYielded_l21 (H : (Nat → Nat → Int32)) (BO : (Nat → Nat → Int32)) (v1 : Int32) (p2 : Int32) (p3 : Int32) (v6 : Int32) (RU_9 : (Nat → Nat → Int32)) : Option ((Int32 × (Nat → Nat → Int32)) ⊕ (((Nat → Nat → Int32)) ⊕ ((Int32 × (Nat → Nat → Int32)) ⊕ (((Nat → Nat → Int32)) ⊕ (Int32 × (Nat → Nat → Int32)))))) :=
  if (H 0 1) ≤ v6 then
    some (.inr (.inl RU_9))
  else
    (f_Y_placeOf v1 v6).bind fun x10 =>
    (f_Board_inWay H BO p2 x10).bind fun x11 =>
    (f_Pusher_mayEnter H BO p2 x10 x11).bind fun x12 =>
    if x12 = 0 then
      some (.inl ((v6 + 1), RU_9))
    else
      (f_Pusher_allYield H RU_9 BO p2 x10 x11 p3).bind fun c6 =>
      if c6.1 = 0 then
        some (.inl ((v6 + 1), c6.2))
      else
        some (.inr (.inr (.inr (.inr (x10, c6.2)))))
def f_Pusher_firstYielded_l3 (H : (Nat → Nat → Int32)) (BO : (Nat → Nat → Int32)) (p2 : Int32) (p3 : Int32) (v1 : Int32) (RU_5 : (Nat → Nat → Int32)) : Option ((Int32 × (Nat → Nat → Int32)) ⊕ (((Nat → Nat → Int32)) ⊕ (Int32 × (Nat → Nat → Int32)))) :=
  if (H 0 0) ≤ v1 then
    some (.inr (.inl RU_5))
  else
    (loopN (fun q => f_Pusher_firstYielded_l21 H BO v1 p2 p3 q.1 q.2) a_F (0, RU_5)).bind fun b8 => sumE b8 (fun RU_18 =>
    some (.inl ((v1 + 1), RU_18))) (fun q => some q)
def f_Pusher_firstYielded (H : (Nat → Nat → Int32)) (RU : (Nat → Nat → Int32)) (BO : (Nat → Nat → Int32)) (p2 : Int32) (p3 : Int32) : Option (Int32 × (Nat → Nat → Int32)) :=
  (loopN (fun q => f_Pusher_firstYielded_l3 H BO p2 p3 q.1 q.2) a_F (0, RU)).bind fun b10 => sumE b10 (fun RU_23 =>
  some ((-1), RU_23)) (fun q => some q)
def f_Pusher_look (H : (Nat → Nat → Int32)) (RU : (Nat → Nat → Int32)) (BO : (Nat → Nat → Int32)) (PU : (Nat → Nat → Int32)) (p2 : Int32) : Option ((Nat → Nat → Int32) × (Nat → Nat → Int32) × (Nat → Nat → Int32)) :=
  (rdx (PU 1) 10 0).bind fun x1 =>
  if ((1 : Int32) < 0 ∨ (0 : Int32) < 0 ∨ (9 : Int32) < 0 ∨ 10 < (1 : Int32).toNatClampNeg + (9 : Int32).toNatClampNeg ∨ 10 < (0 : Int32).toNatClampNeg + (9 : Int32).toNatClampNeg) then none else
  (f_Pusher_firstOpen H BO x1).bind fun x2 =>
  (((
    if x2 ≠ (-1) then
      some (.inl (x2, RU, BO, (u1 (u2 PU 0 2 ((PU 0 2) - 1)) 1 (a_cpy ((u2 PU 0 2 ((PU 0 2) - 1)) 1) ((u2 PU 0 2 ((PU 0 2) - 1)) 1) (1 : Int32).toNatClampNeg (0 : Int32).toNatClampNeg (9 : Int32).toNatClampNeg))))
    else
      (f_Pusher_firstYielded H RU BO x1 p2).bind fun c3 =>
      if c3.1 ≠ (-1) then
        (f_Board_inWay H BO x1 c3.1).bind fun x5 =>
        (f_Pusher_leave H BO (u1 (u2 PU 0 2 ((PU 0 2) - 1)) 1 (a_cpy ((u2 PU 0 2 ((PU 0 2) - 1)) 1) ((u2 PU 0 2 ((PU 0 2) - 1)) 1) (1 : Int32).toNatClampNeg (0 : Int32).toNatClampNeg (9 : Int32).toNatClampNeg)) x5).bind fun c5 =>
        some (.inl (c3.1, c3.2, c5.1, c5.2))
      else
        some (.inr (c3.2, BO, (u1 (u2 PU 0 2 ((PU 0 2) - 1)) 1 (a_cpy ((u2 PU 0 2 ((PU 0 2) - 1)) 1) ((u2 PU 0 2 ((PU 0 2) - 1)) 1) (1 : Int32).toNatClampNeg (0 : Int32).toNatClampNeg (9 : Int32).toNatClampNeg))))) : Option ((Int32 × (Nat → Nat → Int32) × (Nat → Nat → Int32) × (Nat → Nat → Int32)) ⊕ ((Nat → Nat → Int32) × (Nat → Nat → Int32) × (Nat → Nat → Int32))))).bind fun b6 => sumE b6 (fun t2 =>
  (ixx 10 x1).bind fun j12 =>
  some (t2.2.1, (u2 t2.2.2.1 1 j12 t2.1), t2.2.2.2)) (fun q => some q)
def f_Pusher_run_l62 (H : (Nat → Nat → Int32)) (v7 : Int32) (RU_8 : (Nat → Nat → Int32)) (BO_9 : (Nat → Nat → Int32)) (PU_10 : (Nat → Nat → Int32)) : Option ((Int32 × (Nat → Nat → Int32) × (Nat → Nat → Int32) × (Nat → Nat → Int32)) ⊕ (Int32 × (Nat → Nat → Int32) × (Nat → Nat → Int32) × (Nat → Nat → Int32))) :=
  if (PU_10 0 2) ≤ 0 then
    some (.inr (v7, RU_8, BO_9, PU_10))
  else
    if 100 ≤ v7 then
      some (.inr (v7, RU_8, BO_9, PU_10))
    else
      (f_Pusher_look H RU_8 BO_9 PU_10 v7).bind fun c6 =>
      some (.inl ((v7 + 1), c6.1, c6.2.1, c6.2.2))
def f_Pusher_run (H : (Nat → Nat → Int32)) (RU : (Nat → Nat → Int32)) (BO : (Nat → Nat → Int32)) (PU : (Nat → Nat → Int32)) (p2 : Int32) (p3 : Int32) : Option (Int32 × (Nat → Nat → Int32) × (Nat → Nat → Int32) × (Nat → Nat → Int32)) :=
  (f_Board_inWay H BO p2 p3).bind fun x1 =>
  (f_House_isFixed H p2).bind fun x2 =>
  if x2 ≠ 0 then
    some ((-1), RU, BO, (u2 PU 0 2 0))
  else
    (f_Pusher_mayEnter H BO p2 p3 x1).bind fun x3 =>
    if x3 ≠ 0 then
      (ixx 10 p2).bind fun j4 =>
      (f_Pusher_leave H (u2 BO 1 j4 p3) (u2 PU 0 2 0) x1).bind fun c4 =>
      (loopN (fun q => f_Pusher_run_l62 H q.1 q.2.1 q.2.2.1 q.2.2.2) a_F (0, RU, c4.1, c4.2)).bind fun p7_ =>
      some (p7_.1, p7_.2.1, p7_.2.2.1, p7_.2.2.2)
    else
      some ((-1), RU, BO, (u2 PU 0 2 0))
def f_Board_elsewhere_l4 (H : (Nat → Nat → Int32)) (BO : (Nat → Nat → Int32)) (w1 : (Nat → Int32)) (v1 : Int32) (v2 : Int32) : Option ((Int32 × Int32) ⊕ (Int32)) :=
  if (H 0 3) ≤ v2 then
    some (.inr v1)
  else
    (rdx (BO 1) 10 v2).bind fun x3 =>
    (rdx w1 10 v2).bind fun x4 =>
    if x3 = x4 then
      some (.inl (v1, (v2 + 1)))
    else
      some (.inl ((v1 ||| (a_shl 1 v2)), (v2 + 1)))
def f_Board_elsewhere (H : (Nat → Nat → Int32)) (BO : (Nat → Nat → Int32)) (w1 : (Nat → Int32)) : Option (Int32) :=
  (loopN (fun q => f_Board_elsewhere_l4 H BO w1 q.1 q.2) a_F (0, 0)).bind fun v5 =>
  some v5
def f_Y_pushes (Y : (Nat → Nat → Int32)) (H : (Nat → Nat → Int32)) (RU : (Nat → Nat → Int32)) (NS : (Nat → Nat → Int32)) (BO : (Nat → Nat → Int32)) (PU : (Nat → Nat → Int32)) (hm : Nat) (r5 : Nat) (p1 : Int32) (p2 : Int32) (p3 : Int32) (p4 : Int32) : Option (Nat × Int32 × (Nat → Nat → Int32) × (Nat → Nat → Int32) × (Nat → Nat → Int32) × (Nat → Nat → Int32) × Nat) :=
  (f_Y_needPlace Y H p1 p2 p3).bind fun c1 =>
  if c1.1 = 0 then
    (((
      (((
        if p4 < 0 then
          some (.inl ())
        else
          if 2 < p4 then
            some (.inl ())
          else
            some (.inr 1)) : Option ((Unit) ⊕ (Int32)))).bind fun b4 => sumE b4 (fun _ =>
      some 0) (fun q => some q)) : Option (Int32))).bind fun v3 =>
    (f_Y_refuseUnless c1.2 v3).bind fun c5 =>
    if c5.1 = 0 then
      (f_Y_lookNow H NS BO).bind fun BO_7 =>
      (f_Y_placeOf p2 p3).bind fun x8 =>
      (f_Pusher_run H RU BO_7 PU p1 x8).bind fun c8 =>
      if c8.1 = (-1) then
        some (0, c8.1, c5.2, c8.2.1, c8.2.2.1, c8.2.2.2, hm)
      else
        if p4 ≠ 0 then
          if p4 ≠ 1 then
            (f_Board_elsewhere H c8.2.2.1 (NS 1)).bind fun x13 =>
            (f_Board_placed H c8.2.2.1).bind fun x14 =>
            some (0, (x13 &&& (x14 ^^^ (-1))), c5.2, c8.2.1, c8.2.2.1, c8.2.2.2, hm)
          else
            (f_Board_elsewhere H c8.2.2.1 (NS 1)).bind fun x15 =>
            (f_Integer_bitCount x15).bind fun x16 =>
            some (0, x16, c5.2, c8.2.1, c8.2.2.1, c8.2.2.2, hm)
        else
          some (0, c8.1, c5.2, c8.2.1, c8.2.2.1, c8.2.2.2, hm)
    else
      some (c5.1, 0, c5.2, RU, BO, PU, r5)
  else
    some (c1.1, 0, c1.2, RU, BO, PU, r5)
def f_Y_pushed (Y : (Nat → Nat → Int32)) (H : (Nat → Nat → Int32)) (RU : (Nat → Nat → Int32)) (NS : (Nat → Nat → Int32)) (BO : (Nat → Nat → Int32)) (PU : (Nat → Nat → Int32)) (hm : Nat) (r5 : Nat) (p1 : Int32) (p2 : Int32) (p3 : Int32) (p4 : Int32) : Option (Nat × Int32 × (Nat → Nat → Int32) × (Nat → Nat → Int32) × (Nat → Nat → Int32) × (Nat → Nat → Int32) × Nat) :=
  (f_Y_needMeeting Y H p4).bind fun c1 =>
  if c1.1 = 0 then
    (f_Y_needPlace c1.2 H p1 p2 p3).bind fun c2 =>
    if c2.1 = 0 then
      (f_Y_lookNow H NS BO).bind fun BO_6 =>
      (f_Y_placeOf p2 p3).bind fun x7 =>
      (f_Pusher_run H RU BO_6 PU p1 x7).bind fun c5 =>
      if c5.1 ≠ (-1) then
        (rdx (c5.2.2.1 1) 10 p4).bind fun x12 =>
        (f_Y_tenfold x12).bind fun x13 =>
        some (0, x13, c2.2, c5.2.1, c5.2.2.1, c5.2.2.2, hm)
      else
        some (0, (-1), c2.2, c5.2.1, c5.2.2.1, c5.2.2.2, hm)
    else
      some (c2.1, 0, c2.2, RU, BO, PU, r5)
  else
    some (c1.1, 0, c1.2, RU, BO, PU, r5)
def f_Y_push (Y : (Nat → Nat → Int32)) (H : (Nat → Nat → Int32)) (RU : (Nat → Nat → Int32)) (NS : (Nat → Nat → Int32)) (BO : (Nat → Nat → Int32)) (PU : (Nat → Nat → Int32)) (hm : Nat) (r5 : Nat) (p1 : Int32) (p2 : Int32) (p3 : Int32) : Option (Nat × Int32 × (Nat → Nat → Int32) × (Nat → Nat → Int32) × (Nat → Nat → Int32) × (Nat → Nat → Int32) × (Nat → Nat → Int32) × Nat) :=
  (f_Y_needPlace Y H p1 p2 p3).bind fun c1 =>
  if c1.1 = 0 then
    (f_State_isFull NS).bind fun x3 =>
    if x3 = 0 then
      (f_Y_lookNow H NS BO).bind fun BO_5 =>
      (f_Y_placeOf p2 p3).bind fun x6 =>
      (f_Pusher_run H RU BO_5 PU p1 x6).bind fun c5 =>
      if c5.1 = (-1) then
        some (0, c5.1, c1.2, c5.2.1, NS, c5.2.2.1, c5.2.2.2, hm)
      else
        (f_Board_countMoved H c5.2.2.1 (NS 1)).bind fun BO_11 =>
        (f_State_act NS BO_11).bind fun NS_12 =>
        some (0, c5.1, c1.2, c5.2.1, NS_12, BO_11, c5.2.2.2, hm)
    else
      some (0, (-64), c1.2, RU, NS, BO, PU, r5)
  else
    some (c1.1, 0, c1.2, RU, NS, BO, PU, r5)
def f_Board_nextSeed (p0 : Int32) : Option (Int32) :=
  some ((p0 * 1103515245) + 12345)
def f_Board_movesInto_l38 (H : (Nat → Nat → Int32)) (p1 : Int32) (p2 : Int32) (v5 : Int32) (BO_6 : (Nat → Nat → Int32)) : Option ((Int32 × (Nat → Nat → Int32)) ⊕ (((Nat → Nat → Int32)) ⊕ (Int32 × (Nat → Nat → Int32)))) :=
  if (H 0 1) ≤ v5 then
    some (.inr (.inl BO_6))
  else
    (f_Board_openHours H BO_6 p1 v5).bind fun x7 =>
    if ((a_shr x7 p2) &&& 1) = 0 then
      some (.inl ((v5 + 1), BO_6))
    else
      (f_Y_placeOf p2 v5).bind fun x8 =>
      (ixx 10 p1).bind fun j9 =>
      (rdx ((u2 BO_6 1 j9 x8) 2) 10 p1).bind fun x10 =>
      (ixx 10 p1).bind fun j11 =>
      some (.inr (.inr ((zb 1), (u2 (u2 BO_6 1 j9 x8) 2 j11 (x10 + 1)))))
def f_Board_movesInto (H : (Nat → Nat → Int32)) (BO : (Nat → Nat → Int32)) (p1 : Int32) (p2 : Int32) : Option (Int32 × (Nat → Nat → Int32)) :=
  (f_House_isFixed H p1).bind fun x1 =>
  if x1 ≠ 0 then
    some ((zb 0), BO)
  else
    (rdx (BO 1) 10 p1).bind fun x2 =>
    if x2 = (-1) then
      some ((zb 0), BO)
    else
      (rdx (BO 1) 10 p1).bind fun x3 =>
      (f_Y_hourOf x3).bind fun x4 =>
      if x4 ≠ p2 then
        (loopN (fun q => f_Board_movesInto_l38 H p1 p2 q.1 q.2) a_F (0, BO)).bind fun b7 => sumE b7 (fun BO_13 =>
        some ((zb 0), BO_13)) (fun q => some q)
      else
        some ((zb 0), BO)
def f_Board_runWeek_l18 (H : (Nat → Nat → Int32)) (p2 : Int32) (v1 : Int32) (v2 : Int32) (v3 : Int32) (BO_7 : (Nat → Nat → Int32)) : Option ((Int32 × Int32 × Int32 × (Nat → Nat → Int32)) ⊕ ((Nat → Nat → Int32))) :=
  if p2 ≤ v3 then
    some (.inr BO_7)
  else
    (((
      if (H 0 3) ≤ 0 then
        some (v2, 0, BO_7)
      else
        if (H 0 0) ≤ 0 then
          some (v2, 0, BO_7)
        else
          (f_Board_nextSeed v2).bind fun x8 =>
          if (H 0 3) = 0 then none else
          (f_Board_nextSeed x8).bind fun x9 =>
          if (H 0 0) = 0 then none else
          (f_Board_movesInto H BO_7 (a_rem ((a_ushr x8 16) &&& 32767) (H 0 3)) (a_rem ((a_ushr x9 16) &&& 32767) (H 0 0))).bind fun c5 =>
          some (x9, c5.1, c5.2)) : Option (Int32 × Int32 × (Nat → Nat → Int32)))).bind fun t2 =>
    (((
      if t2.2.1 = 0 then
        some (v1 + 1)
      else
        some 0) : Option (Int32))).bind fun v17 =>
    (f_Math_max (t2.2.2 0 6) v17).bind fun x18 =>
    (((
      if t2.2.1 = 0 then
        some 0
      else
        some 1) : Option (Int32))).bind fun v19 =>
    some (.inl (v17, t2.1, (v3 + 1), (u2 (u2 t2.2.2 0 6 x18) 0 5 (((u2 t2.2.2 0 6 x18) 0 5) + v19))))
def f_Board_runWeek (H : (Nat → Nat → Int32)) (BO : (Nat → Nat → Int32)) (p1 : Int32) (p2 : Int32) : Option ((Nat → Nat → Int32)) :=
  (loopN (fun q => f_Board_runWeek_l18 H p2 q.1 q.2.1 q.2.2.1 q.2.2.2) a_F (0, p1, 0, (u2 (u2 BO 0 5 0) 0 6 0))).bind fun BO_26 =>
  some BO_26
def f_Y_week (Y : (Nat → Nat → Int32)) (H : (Nat → Nat → Int32)) (NS : (Nat → Nat → Int32)) (BO : (Nat → Nat → Int32)) (hm : Nat) (r5 : Nat) (p1 : Int32) (p2 : Int32) (p3 : Int32) : Option (Nat × Int32 × (Nat → Nat → Int32) × (Nat → Nat → Int32) × Nat) :=
  (((
    (((
      if p2 < 1 then
        some (.inl ())
      else
        if 60 < p2 then
          some (.inl ())
        else
          if p3 < 0 then
            some (.inl ())
          else
            if 2 < p3 then
              some (.inl ())
            else
              some (.inr 1)) : Option ((Unit) ⊕ (Int32)))).bind fun b3 => sumE b3 (fun _ =>
    some 0) (fun q => some q)) : Option (Int32))).bind fun v1 =>
  (f_Y_refuseUnless Y v1).bind fun c4 =>
  if c4.1 = 0 then
    (f_Y_lookNow H NS BO).bind fun BO_5 =>
    (f_Board_runWeek H BO_5 p1 p2).bind fun BO_6 =>
    if p3 = 0 then
      some (0, (BO_6 0 5), c4.2, BO_6, hm)
    else if p3 = 1 then
      some (0, (BO_6 0 6), c4.2, BO_6, hm)
    else 
      (f_Board_mostBorne H BO_6).bind fun x7 =>
      some (0, x7, c4.2, BO_6, hm)
  else
    some (c4.1, 0, c4.2, BO, r5)
def f_Y_done (Y : (Nat → Nat → Int32)) (H : (Nat → Nat → Int32)) (NS : (Nat → Nat → Int32)) (BO : (Nat → Nat → Int32)) (hm : Nat) (r5 : Nat) (p1 : Int32) (p2 : Int32) : Option (Nat × Int32 × (Nat → Nat → Int32) × (Nat → Nat → Int32) × (Nat → Nat → Int32) × Nat) :=
  (((
    (((
      if p2 < 1 then
        some (.inl ())
      else
        if 60 < p2 then
          some (.inl ())
        else
          some (.inr 1)) : Option ((Unit) ⊕ (Int32)))).bind fun b3 => sumE b3 (fun _ =>
    some 0) (fun q => some q)) : Option (Int32))).bind fun v1 =>
  (f_Y_refuseUnless Y v1).bind fun c4 =>
  if c4.1 = 0 then
    (f_State_isFull NS).bind fun x4 =>
    if x4 = 0 then
      (f_Y_lookNow H NS BO).bind fun BO_6 =>
      (f_Board_runWeek H BO_6 p1 p2).bind fun BO_7 =>
      (f_State_act NS BO_7).bind fun NS_8 =>
      some (0, (BO_7 0 5), c4.2, NS_8, BO_7, hm)
    else
      some (0, (-64), c4.2, NS, BO, r5)
  else
    some (c4.1, 0, c4.2, NS, BO, r5)
def f_Y_span_l55 (H : (Nat → Nat → Int32)) (NS : (Nat → Nat → Int32)) (p2 : Int32) (p1 : Int32) (p3 : Int32) (hm : Nat) (v4 : Int32) (v5 : Int32) (v6 : Int32) (v7 : Int32) (BO_9 : (Nat → Nat → Int32)) (w10 : Nat) : Option ((Int32 × Int32 × Int32 × Int32 × (Nat → Nat → Int32) × Nat) ⊕ (Int32 × Int32 × Int32 × (Nat → Nat → Int32) × Nat)) :=
  if p2 ≤ v7 then
    some (.inr (v4, v5, v6, BO_9, w10))
  else
    (f_Y_lookNow H NS BO_9).bind fun BO_12 =>
    (f_Board_runWeek H BO_12 (p1 + v7) p3).bind fun BO_13 =>
    (f_Math_min v4 (BO_13 0 5)).bind fun x14 =>
    (f_Math_max v5 (BO_13 0 5)).bind fun x15 =>
    some (.inl (x14, x15, (v6 + (BO_13 0 5)), (v7 + 1), BO_13, hm))
def f_Y_span (Y : (Nat → Nat → Int32)) (H : (Nat → Nat → Int32)) (NS : (Nat → Nat → Int32)) (BO : (Nat → Nat → Int32)) (hm : Nat) (r5 : Nat) (p1 : Int32) (p2 : Int32) (p3 : Int32) (p4 : Int32) : Option (Nat × Int32 × (Nat → Nat → Int32) × (Nat → Nat → Int32) × Nat) :=
  (((
    (((
      if p2 < 1 then
        some (.inl ())
      else
        if 20 < p2 then
          some (.inl ())
        else
          if p3 < 1 then
            some (.inl ())
          else
            if 60 < p3 then
              some (.inl ())
            else
              if p4 < 0 then
                some (.inl ())
              else
                if 2 < p4 then
                  some (.inl ())
                else
                  some (.inr 1)) : Option ((Unit) ⊕ (Int32)))).bind fun b3 => sumE b3 (fun _ =>
    some 0) (fun q => some q)) : Option (Int32))).bind fun v1 =>
  (f_Y_refuseUnless Y v1).bind fun c4 =>
  if c4.1 = 0 then
    (loopN (fun q => f_Y_span_l55 H NS p2 p1 p3 hm q.1 q.2.1 q.2.2.1 q.2.2.2.1 q.2.2.2.2.1 q.2.2.2.2.2) a_F (60, 0, 0, 0, BO, r5)).bind fun p10_ =>
    if p4 = 0 then
      some (0, p10_.1, c4.2, p10_.2.2.2.1, p10_.2.2.2.2)
    else if p4 = 1 then
      some (0, p10_.2.1, c4.2, p10_.2.2.2.1, p10_.2.2.2.2)
    else 
      some (0, p10_.2.2.1, c4.2, p10_.2.2.2.1, p10_.2.2.2.2)
  else
    some (c4.1, 0, c4.2, BO, r5)
def f_Target_copy_2 (SB : (Nat → Nat → Int32)) (SA : (Nat → Nat → Int32)) : Option ((Nat → Nat → Int32)) :=
  if ((0 : Int32) < 0 ∨ (0 : Int32) < 0 ∨ (10 : Int32) < 0 ∨ 10 < (0 : Int32).toNatClampNeg + (10 : Int32).toNatClampNeg ∨ 10 < (0 : Int32).toNatClampNeg + (10 : Int32).toNatClampNeg) then none else
  if ((0 : Int32) < 0 ∨ (0 : Int32) < 0 ∨ (10 : Int32) < 0 ∨ 10 < (0 : Int32).toNatClampNeg + (10 : Int32).toNatClampNeg ∨ 10 < (0 : Int32).toNatClampNeg + (10 : Int32).toNatClampNeg) then none else
  some (u1 (u1 (u2 SA 3 0 (SB 3 0)) 4 (a_cpy (SB 4) ((u2 SA 3 0 (SB 3 0)) 4) (0 : Int32).toNatClampNeg (0 : Int32).toNatClampNeg (10 : Int32).toNatClampNeg)) 5 (a_cpy (SB 5) ((u1 (u2 SA 3 0 (SB 3 0)) 4 (a_cpy (SB 4) ((u2 SA 3 0 (SB 3 0)) 4) (0 : Int32).toNatClampNeg (0 : Int32).toNatClampNeg (10 : Int32).toNatClampNeg)) 5) (0 : Int32).toNatClampNeg (0 : Int32).toNatClampNeg (10 : Int32).toNatClampNeg))
def f_State_copy (SB : (Nat → Nat → Int32)) (SA : (Nat → Nat → Int32)) : Option ((Nat → Nat → Int32)) :=
  if ((0 : Int32) < 0 ∨ (0 : Int32) < 0 ∨ (10 : Int32) < 0 ∨ 10 < (0 : Int32).toNatClampNeg + (10 : Int32).toNatClampNeg ∨ 10 < (0 : Int32).toNatClampNeg + (10 : Int32).toNatClampNeg) then none else
  if ((0 : Int32) < 0 ∨ (0 : Int32) < 0 ∨ (10 : Int32) < 0 ∨ 10 < (0 : Int32).toNatClampNeg + (10 : Int32).toNatClampNeg ∨ 10 < (0 : Int32).toNatClampNeg + (10 : Int32).toNatClampNeg) then none else
  (f_Target_copy_2 SB (u1 (u1 SA 1 (a_cpy (SB 1) (SA 1) (0 : Int32).toNatClampNeg (0 : Int32).toNatClampNeg (10 : Int32).toNatClampNeg)) 2 (a_cpy (SB 2) ((u1 SA 1 (a_cpy (SB 1) (SA 1) (0 : Int32).toNatClampNeg (0 : Int32).toNatClampNeg (10 : Int32).toNatClampNeg)) 2) (0 : Int32).toNatClampNeg (0 : Int32).toNatClampNeg (10 : Int32).toNatClampNeg))).bind fun SA_1 =>
  if ((0 : Int32) < 0 ∨ (0 : Int32) < 0 ∨ ((((u2 (u2 SA_1 0 3 (SB 0 3)) 0 4 (SB 0 4)) 0 4) * 10) : Int32) < 0 ∨ 300 < (0 : Int32).toNatClampNeg + ((((u2 (u2 SA_1 0 3 (SB 0 3)) 0 4 (SB 0 4)) 0 4) * 10) : Int32).toNatClampNeg ∨ 300 < (0 : Int32).toNatClampNeg + ((((u2 (u2 SA_1 0 3 (SB 0 3)) 0 4 (SB 0 4)) 0 4) * 10) : Int32).toNatClampNeg) then none else
  if ((0 : Int32) < 0 ∨ (0 : Int32) < 0 ∨ (((u1 (u2 (u2 SA_1 0 3 (SB 0 3)) 0 4 (SB 0 4)) 6 (a_cpy (SB 6) ((u2 (u2 SA_1 0 3 (SB 0 3)) 0 4 (SB 0 4)) 6) (0 : Int32).toNatClampNeg (0 : Int32).toNatClampNeg ((((u2 (u2 SA_1 0 3 (SB 0 3)) 0 4 (SB 0 4)) 0 4) * 10) : Int32).toNatClampNeg)) 0 4) * 10) < 0 ∨ 300 < (0 : Int32).toNatClampNeg + (((u1 (u2 (u2 SA_1 0 3 (SB 0 3)) 0 4 (SB 0 4)) 6 (a_cpy (SB 6) ((u2 (u2 SA_1 0 3 (SB 0 3)) 0 4 (SB 0 4)) 6) (0 : Int32).toNatClampNeg (0 : Int32).toNatClampNeg ((((u2 (u2 SA_1 0 3 (SB 0 3)) 0 4 (SB 0 4)) 0 4) * 10) : Int32).toNatClampNeg)) 0 4) * 10).toNatClampNeg ∨ 300 < (0 : Int32).toNatClampNeg + (((u1 (u2 (u2 SA_1 0 3 (SB 0 3)) 0 4 (SB 0 4)) 6 (a_cpy (SB 6) ((u2 (u2 SA_1 0 3 (SB 0 3)) 0 4 (SB 0 4)) 6) (0 : Int32).toNatClampNeg (0 : Int32).toNatClampNeg ((((u2 (u2 SA_1 0 3 (SB 0 3)) 0 4 (SB 0 4)) 0 4) * 10) : Int32).toNatClampNeg)) 0 4) * 10).toNatClampNeg) then none else
  some (u1 (u1 (u2 (u2 SA_1 0 3 (SB 0 3)) 0 4 (SB 0 4)) 6 (a_cpy (SB 6) ((u2 (u2 SA_1 0 3 (SB 0 3)) 0 4 (SB 0 4)) 6) (0 : Int32).toNatClampNeg (0 : Int32).toNatClampNeg ((((u2 (u2 SA_1 0 3 (SB 0 3)) 0 4 (SB 0 4)) 0 4) * 10) : Int32).toNatClampNeg)) 7 (a_cpy (SB 7) ((u1 (u2 (u2 SA_1 0 3 (SB 0 3)) 0 4 (SB 0 4)) 6 (a_cpy (SB 6) ((u2 (u2 SA_1 0 3 (SB 0 3)) 0 4 (SB 0 4)) 6) (0 : Int32).toNatClampNeg (0 : Int32).toNatClampNeg ((((u2 (u2 SA_1 0 3 (SB 0 3)) 0 4 (SB 0 4)) 0 4) * 10) : Int32).toNatClampNeg)) 7) (0 : Int32).toNatClampNeg (0 : Int32).toNatClampNeg (((u1 (u2 (u2 SA_1 0 3 (SB 0 3)) 0 4 (SB 0 4)) 6 (a_cpy (SB 6) ((u2 (u2 SA_1 0 3 (SB 0 3)) 0 4 (SB 0 4)) 6) (0 : Int32).toNatClampNeg (0 : Int32).toNatClampNeg ((((u2 (u2 SA_1 0 3 (SB 0 3)) 0 4 (SB 0 4)) 0 4) * 10) : Int32).toNatClampNeg)) 0 4) * 10).toNatClampNeg))
def f_Y_image (Y : (Nat → Nat → Int32)) (NS : (Nat → Nat → Int32)) (I0 : (Nat → Nat → Int32)) (I1 : (Nat → Nat → Int32)) (I2 : (Nat → Nat → Int32)) : Option (Int32 × (Nat → Nat → Int32) × (Nat → Nat → Int32) × (Nat → Nat → Int32) × (Nat → Nat → Int32)) :=
  if (Y 0 3) < 3 then
    (ixx 3 (Y 0 3)).bind fun j1 =>
    if j1 = 0 then
      (f_State_copy NS I0).bind fun I0_2 =>
      some (((u2 Y 0 3 ((Y 0 3) + 1)) 0 3), (u2 Y 0 3 ((Y 0 3) + 1)), I0_2, I1, I2)
    else if j1 = 1 then
      (f_State_copy NS I1).bind fun I1_3 =>
      some (((u2 Y 0 3 ((Y 0 3) + 1)) 0 3), (u2 Y 0 3 ((Y 0 3) + 1)), I0, I1_3, I2)
    else if j1 = 2 then
      (f_State_copy NS I2).bind fun I2_4 =>
      some (((u2 Y 0 3 ((Y 0 3) + 1)) 0 3), (u2 Y 0 3 ((Y 0 3) + 1)), I0, I1, I2_4)
    else none
  else
    some ((-1), Y, I0, I1, I2)
def f_Y_restore (Y : (Nat → Nat → Int32)) (NS : (Nat → Nat → Int32)) (I0 : (Nat → Nat → Int32)) (I1 : (Nat → Nat → Int32)) (I2 : (Nat → Nat → Int32)) : Option (Int32 × (Nat → Nat → Int32) × (Nat → Nat → Int32)) :=
  if 0 < (Y 0 3) then
    (ixx 3 ((u2 Y 0 3 ((Y 0 3) - 1)) 0 3)).bind fun j1 =>
    if j1 = 0 then
      (f_State_copy I0 NS).bind fun NS_2 =>
      some (((u2 Y 0 3 ((Y 0 3) - 1)) 0 3), (u2 Y 0 3 ((Y 0 3) - 1)), NS_2)
    else if j1 = 1 then
      (f_State_copy I1 NS).bind fun NS_3 =>
      some (((u2 Y 0 3 ((Y 0 3) - 1)) 0 3), (u2 Y 0 3 ((Y 0 3) - 1)), NS_3)
    else if j1 = 2 then
      (f_State_copy I2 NS).bind fun NS_4 =>
      some (((u2 Y 0 3 ((Y 0 3) - 1)) 0 3), (u2 Y 0 3 ((Y 0 3) - 1)), NS_4)
    else none
  else
    some ((-1), Y, NS)
def f_Y_status (Y : (Nat → Nat → Int32)) (p1 : Int32) : Option (Int32) :=
  if p1 = 0 then
    some (Y 0 14)
  else if p1 = 1 then
    some (Y 0 15)
  else 
    some (-1)
def f_Y_count (Y : (Nat → Nat → Int32)) (T : (Nat → Nat → Int32)) (NS : (Nat → Nat → Int32)) (p1 : Int32) : Option (Int32) :=
  if p1 = 0 then
    some (Y 0 3)
  else if p1 = 1 then
    some (T 0 1)
  else if p1 = 2 then
    some (NS 0 4)
  else 
    some (-1)
