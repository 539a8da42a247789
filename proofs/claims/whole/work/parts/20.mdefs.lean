/-! printed by program (gen/emitm.py): what the reference's methods do, as functions -/
def f_M_thrown (MA : (Nat → Nat → Int32)) : Option (Int32) :=
  some (MA 0 0)
def f_M_may (MA : (Nat → Nat → Int32)) (p1 : Int32) (p2 : Int32) (p3 : Int32) : Option (Int32 × (Nat → Nat → Int32)) :=
  (((
    if p1 ≠ 0 then
      some MA
    else
      if (MA 0 0) ≠ 0 then
        some MA
      else
        (rdx ((u2 MA 0 0 p2) 1) 2 p3).bind fun x1 =>
        (ixx 2 p3).bind fun j2 =>
        some (u2 (u2 MA 0 0 p2) 1 j2 (x1 + 1))) : Option ((Nat → Nat → Int32)))).bind fun MA_3 =>
  if (MA_3 0 0) ≠ 0 then
    some ((zb 0), MA_3)
  else
    some ((zb 1), MA_3)
def f_M_within (p0 : Int32) (p1 : Int32) (p2 : Int32) : Option (Int32) :=
  if p0 < p1 then
    some (zb 0)
  else
    if p2 < p0 then
      some (zb 0)
    else
      some (zb 1)
def f_M_feed_l23 (p5 : Int32) (p4 : Int32) (p3 : Int32) (p2 : Int32) (p1 : Int32) (v1 : Int32) (MA_3 : (Nat → Nat → Int32)) : Option ((Int32 × (Nat → Nat → Int32)) ⊕ ((Nat → Nat → Int32))) :=
  if 20 ≤ v1 then
    some (.inr MA_3)
  else
    (((
      if 4 ≤ v1 then
        if 8 ≤ v1 then
          if 12 ≤ v1 then
            if 16 ≤ v1 then
              some p5
            else
              some p4
          else
            some p3
        else
          some p2
      else
        some p1) : Option (Int32))).bind fun v4 =>
    (ixx 600 (MA_3 0 2)).bind fun j5 =>
    some (.inl ((v1 + 1), (u2 (u2 MA_3 2 j5 ((a_shr v4 (24 - (8 * (a_rem v1 4)))) &&& 255)) 0 2 (((u2 MA_3 2 j5 ((a_shr v4 (24 - (8 * (a_rem v1 4)))) &&& 255)) 0 2) + 1))))
def f_M_feed (MA : (Nat → Nat → Int32)) (p1 : Int32) (p2 : Int32) (p3 : Int32) (p4 : Int32) (p5 : Int32) : Option (Int32 × (Nat → Nat → Int32)) :=
  if (((u2 MA 0 0 0) 0 2) + 20) ≤ 600 then
    (loopN (fun q => f_M_feed_l23 p5 p4 p3 p2 p1 q.1 q.2) a_F (0, (u2 MA 0 0 0))).bind fun MA_8 =>
    some ((MA_8 0 2), MA_8)
  else
    some ((-1), (u2 MA 0 0 0))
def f_M_fine (MN : (Nat → Nat → Int32)) : Option (Int32) :=
  if (MN 0 5) ≠ (-1) then
    some (zb 0)
  else
    some (zb 1)
def f_M_wrong (MN : (Nat → Nat → Int32)) (p1 : Int32) (p2 : Int32) : Option ((Nat → Nat → Int32)) :=
  if (MN 0 5) = (-1) then
    some (u2 (u2 MN 0 5 p2) 0 6 p1)
  else
    some MN
def f_M_here_l0 (MA : (Nat → Nat → Int32)) (MN_1 : (Nat → Nat → Int32)) : Option (((Nat → Nat → Int32)) ⊕ ((Nat → Nat → Int32))) :=
  if (MN_1 0 3) ≤ (MN_1 0 4) then
    some (.inr MN_1)
  else
    (rdx (MA 2) 600 (MN_1 0 4)).bind fun x2 =>
    if x2 ≠ 32 then
      some (.inr MN_1)
    else
      some (.inl (u2 MN_1 0 4 ((MN_1 0 4) + 1)))
def f_M_here (MA : (Nat → Nat → Int32)) (MN : (Nat → Nat → Int32)) : Option (Int32 × (Nat → Nat → Int32)) :=
  (loopN (fun q => f_M_here_l0 MA q) a_F MN).bind fun MN_3 =>
  if (MN_3 0 3) ≤ (MN_3 0 4) then
    some (0, MN_3)
  else
    (rdx (MA 2) 600 (MN_3 0 4)).bind fun x4 =>
    some (x4, MN_3)
def f_M_isSmall (p0 : Int32) : Option (Int32) :=
  if p0 < 97 then
    some (zb 0)
  else
    if 122 < p0 then
      some (zb 0)
    else
      some (zb 1)
def f_M_isDigit (p0 : Int32) : Option (Int32) :=
  if p0 < 48 then
    some (zb 0)
  else
    if 57 < p0 then
      some (zb 0)
    else
      some (zb 1)
def f_M_word_l14 (MA : (Nat → Nat → Int32)) (MN_2 : (Nat → Nat → Int32)) (v3 : Int32) (v4 : Int32) (v5 : Int32) : Option ((Int32 × Int32 × Int32) ⊕ (Int32 × Int32)) :=
  if (MN_2 0 3) ≤ v5 then
    some (.inr (v3, v4))
  else
    (rdx (MA 2) 600 v5).bind fun x6 =>
    (f_M_isSmall x6).bind fun x7 =>
    if x7 = 0 then
      some (.inr (v3, v4))
    else
      if 6 ≤ v4 then
        some (.inl (0, (v4 + 1), (v5 + 1)))
      else
        (rdx (MA 2) 600 v5).bind fun x8 =>
        some (.inl (((a_shl v3 5) ||| (x8 - 96)), (v4 + 1), (v5 + 1)))
def f_M_word (MA : (Nat → Nat → Int32)) (MN : (Nat → Nat → Int32)) : Option (Int32 × (Nat → Nat → Int32)) :=
  (f_M_here MA MN).bind fun c1 =>
  (loopN (fun q => f_M_word_l14 MA c1.2 q.1 q.2.1 q.2.2) a_F (0, 0, (c1.2 0 4))).bind fun p4_ =>
  if p4_.2 ≤ 6 then
    some (p4_.1, c1.2)
  else
    some (0, c1.2)
def f_M_of_l4 (s0 : Nat) (v1 : Int32) (v2 : Int32) : Option ((Int32 × Int32) ⊕ (Int32)) :=
  if isS s0 then
  if (s_len s0) ≤ v2 then
    some (.inr v1)
  else
    if isS s0 then
    (s_at s0 v2).bind fun x3 =>
    some (.inl (((a_shl v1 5) ||| (x3 - 96)), (v2 + 1)))
    else none
  else none
def f_M_of (s0 : Nat) : Option (Int32) :=
  (loopN (fun q => f_M_of_l4 s0 q.1 q.2) a_F (0, 0)).bind fun v4 =>
  some v4
def f_M_pass_l0 (MA : (Nat → Nat → Int32)) (MN_1 : (Nat → Nat → Int32)) : Option (((Nat → Nat → Int32)) ⊕ ((Nat → Nat → Int32))) :=
  if (MN_1 0 3) ≤ (MN_1 0 4) then
    some (.inr MN_1)
  else
    (rdx (MA 2) 600 (MN_1 0 4)).bind fun x2 =>
    (f_M_isSmall x2).bind fun x3 =>
    if x3 = 0 then
      some (.inr MN_1)
    else
      some (.inl (u2 MN_1 0 4 ((MN_1 0 4) + 1)))
def f_M_pass (MA : (Nat → Nat → Int32)) (MN : (Nat → Nat → Int32)) : Option ((Nat → Nat → Int32)) :=
  (loopN (fun q => f_M_pass_l0 MA q) a_F MN).bind fun MN_4 =>
  some MN_4
def f_M_readNumber_l41 (MA : (Nat → Nat → Int32)) (v5 : Int32) (MN_6 : (Nat → Nat → Int32)) : Option ((Int32 × (Nat → Nat → Int32)) ⊕ (Int32 × (Nat → Nat → Int32))) :=
  if (MN_6 0 3) ≤ (MN_6 0 4) then
    some (.inr (v5, MN_6))
  else
    (rdx (MA 2) 600 (MN_6 0 4)).bind fun x7 =>
    (f_M_isDigit x7).bind fun x8 =>
    if x8 = 0 then
      some (.inr (v5, MN_6))
    else
      (((
        if v5 ≤ 9999 then
          (rdx (MA 2) 600 (MN_6 0 4)).bind fun x9 =>
          some (((10 * v5) + x9) - 48)
        else
          some 10000) : Option (Int32))).bind fun v10 =>
      some (.inl (v10, (u2 MN_6 0 4 ((MN_6 0 4) + 1))))
def f_M_readNumber (MA : (Nat → Nat → Int32)) (MN : (Nat → Nat → Int32)) (p1 : Int32) (p2 : Int32) : Option (Int32 × (Nat → Nat → Int32)) :=
  (f_M_fine MN).bind fun x1 =>
  if x1 ≠ 0 then
    (f_M_here MA MN).bind fun c2 =>
    (f_M_isDigit c2.1).bind fun x4 =>
    if x4 ≠ 0 then
      (loopN (fun q => f_M_readNumber_l41 MA q.1 q.2) a_F (0, c2.2)).bind fun p7_ =>
      (((
        if p7_.1 < p1 then
          some (.inl ())
        else
          if p7_.1 ≤ p2 then
            some (.inr (p7_.1, p7_.2))
          else
            some (.inl ())) : Option ((Unit) ⊕ (Int32 × (Nat → Nat → Int32))))).bind fun b10 => sumE b10 (fun _ =>
      (f_M_wrong p7_.2 2 (c2.2 0 4)).bind fun MN_13 =>
      some (0, MN_13)) (fun q => some q)
    else
      (f_M_wrong c2.2 1 (c2.2 0 4)).bind fun MN_14 =>
      some (0, MN_14)
  else
    some (0, MN)
def f_M_sign (MA : (Nat → Nat → Int32)) (MN : (Nat → Nat → Int32)) (p1 : Int32) : Option ((Nat → Nat → Int32)) :=
  (f_M_fine MN).bind fun x1 =>
  (((
    if x1 = 0 then
      some MN
    else
      (f_M_here MA MN).bind fun c3 =>
      if c3.1 = p1 then
        some c3.2
      else
        (f_M_wrong c3.2 1 (c3.2 0 4)).bind fun MN_4 =>
        some MN_4) : Option ((Nat → Nat → Int32)))).bind fun MN_5 =>
  (f_M_fine MN_5).bind fun x6 =>
  if x6 = 0 then
    some MN_5
  else
    some (u2 MN_5 0 4 ((MN_5 0 4) + 1))
def f_M_isMore (MA : (Nat → Nat → Int32)) (MN : (Nat → Nat → Int32)) : Option (Int32 × (Nat → Nat → Int32)) :=
  (f_M_here MA MN).bind fun c1 =>
  if (c1.2 0 3) ≤ (c1.2 0 4) then
    some ((zb 0), c1.2)
  else
    some ((zb 1), c1.2)
def f_M_begins (MA : (Nat → Nat → Int32)) (MN : (Nat → Nat → Int32)) (p1 : Int32) : Option ((Nat → Nat → Int32) × (Nat → Nat → Int32)) :=
  some ((u2 (u2 MA 0 2 0) 0 8 (-1)), (u2 (u2 (u2 (u2 MN 0 3 p1) 0 4 0) 0 5 (-1)) 0 7 0))
def f_M_result (MA : (Nat → Nat → Int32)) (MN : (Nat → Nat → Int32)) (p1 : Int32) : Option (Int32 × (Nat → Nat → Int32)) :=
  (f_M_fine MN).bind fun x1 =>
  if x1 = 0 then
    some (((MN 0 6) - 10), (u2 MA 0 8 (MN 0 5)))
  else
    some (p1, (u2 MA 0 8 (MN 0 5)))
def f_M_fault (MA : (Nat → Nat → Int32)) : Option (Int32 × (Nat → Nat → Int32)) :=
  some (((u2 MA 0 0 0) 0 8), (u2 MA 0 0 0))
def f_M_clears_l28 (v1 : Int32) (MN_2 : (Nat → Nat → Int32)) : Option ((Int32 × (Nat → Nat → Int32)) ⊕ ((Nat → Nat → Int32))) :=
  if 60 ≤ v1 then
    some (.inr MN_2)
  else
    (ixx 60 v1).bind fun j3 =>
    some (.inl ((v1 + 1), (u2 MN_2 3 j3 0)))
def f_M_clears (MN : (Nat → Nat → Int32)) : Option ((Nat → Nat → Int32)) :=
  (loopN (fun q => f_M_clears_l28 q.1 q.2) a_F (0, (u2 (u2 (u2 (u2 (u2 MN 0 18 8) 0 19 0) 0 20 0) 0 21 0) 0 22 0))).bind fun MN_5 =>
  some MN_5
def f_M_sets_l97 (v5 : Int32) (MA_6 : (Nat → Nat → Int32)) : Option ((Int32 × (Nat → Nat → Int32)) ⊕ ((Nat → Nat → Int32))) :=
  if 10 ≤ v5 then
    some (.inr MA_6)
  else
    (((
      if (MA_6 0 26) ≤ v5 then
        some (-1)
      else
        (rdx (MA_6 5) 60 (6 * v5)).bind fun x7 =>
        some x7) : Option (Int32))).bind fun v8 =>
    (ixx 10 v5).bind fun j9 =>
    (((
      if ((u2 MA_6 7 j9 v8) 0 26) ≤ v5 then
        some 0
      else
        (rdx ((u2 MA_6 7 j9 v8) 5) 60 ((6 * v5) + 5)).bind fun x10 =>
        some x10) : Option (Int32))).bind fun v11 =>
    (ixx 10 v5).bind fun j12 =>
    some (.inl ((v5 + 1), (u2 (u2 MA_6 7 j9 v8) 8 j12 v11)))
def f_M_sets (MA : (Nat → Nat → Int32)) (MN : (Nat → Nat → Int32)) : Option ((Nat → Nat → Int32)) :=
  (cpM (MN 1) 3 ((u2 (u2 (u2 (u2 (u2 MA 0 23 (MN 0 18)) 0 24 (MN 0 19)) 0 25 (MN 0 20)) 0 26 (MN 0 21)) 0 27 (MN 0 22)) 3) 3 3).bind fun x1 =>
  (cpM (MN 2) 24 ((u1 (u2 (u2 (u2 (u2 (u2 MA 0 23 (MN 0 18)) 0 24 (MN 0 19)) 0 25 (MN 0 20)) 0 26 (MN 0 21)) 0 27 (MN 0 22)) 3 x1) 4) 24 24).bind fun x2 =>
  (cpM (MN 3) 60 ((u1 (u1 (u2 (u2 (u2 (u2 (u2 MA 0 23 (MN 0 18)) 0 24 (MN 0 19)) 0 25 (MN 0 20)) 0 26 (MN 0 21)) 0 27 (MN 0 22)) 3 x1) 4 x2) 5) 60 60).bind fun x3 =>
  (cpM (MN 4) 16 ((u1 (u1 (u1 (u2 (u2 (u2 (u2 (u2 MA 0 23 (MN 0 18)) 0 24 (MN 0 19)) 0 25 (MN 0 20)) 0 26 (MN 0 21)) 0 27 (MN 0 22)) 3 x1) 4 x2) 5 x3) 6) 16 16).bind fun x4 =>
  (loopN (fun q => f_M_sets_l97 q.1 q.2) a_F (0, (u1 (u1 (u1 (u1 (u2 (u2 (u2 (u2 (u2 MA 0 23 (MN 0 18)) 0 24 (MN 0 19)) 0 25 (MN 0 20)) 0 26 (MN 0 21)) 0 27 (MN 0 22)) 3 x1) 4 x2) 5 x3) 6 x4))).bind fun MA_14 =>
  some (u2 (u2 (u2 (u2 MA_14 0 33 0) 0 40 0) 0 43 0) 0 65 0)
def f_M_readHour (MA : (Nat → Nat → Int32)) (MN : (Nat → Nat → Int32)) : Option (Int32 × (Nat → Nat → Int32)) :=
  (f_M_readNumber MA MN 0 ((MN 0 18) - 1)).bind fun c1 =>
  some (c1.1, c1.2)
def f_M_readMeeting (MA : (Nat → Nat → Int32)) (MN : (Nat → Nat → Int32)) : Option (Int32 × (Nat → Nat → Int32)) :=
  (f_M_readNumber MA MN 0 ((MN 0 21) - 1)).bind fun c1 =>
  some (c1.1, c1.2)
def f_M_range (p0 : Int32) (p1 : Int32) : Option (Int32) :=
  some ((a_shl 1 (p1 + 1)) - (a_shl 1 p0))
def f_M_readPlaces (MA : (Nat → Nat → Int32)) (MN : (Nat → Nat → Int32)) (p1 : Int32) : Option ((Nat → Nat → Int32)) :=
  (f_M_of 2647).bind fun x1 =>
  if p1 ≠ x1 then
    (f_M_of 2648).bind fun x2 =>
    if p1 ≠ x2 then
      (f_M_readHour MA MN).bind fun c3 =>
      (f_M_readNumber MA c3.2 0 ((c3.2 0 19) - 1)).bind fun c4 =>
      (f_M_of 2649).bind fun x7 =>
      if p1 ≠ x7 then
        (ixx 16 (4 * (c4.2 0 22))).bind fun j8 =>
        (f_M_readNumber MA (u2 c4.2 4 j8 ((3 * c3.1) + c4.1)) 0 16).bind fun c6 =>
        (ixx 16 ((4 * ((u2 c4.2 4 j8 ((3 * c3.1) + c4.1)) 0 22)) + 1)).bind fun j11 =>
        (f_M_readNumber MA (u2 c6.2 4 j11 c6.1) 0 99).bind fun c7 =>
        (ixx 16 ((4 * ((u2 c6.2 4 j11 c6.1) 0 22)) + 2)).bind fun j14 =>
        (ixx 16 ((4 * ((u2 c7.2 4 j14 c7.1) 0 22)) + 3)).bind fun j15 =>
        some (u2 (u2 (u2 c7.2 4 j14 c7.1) 4 j15 0) 0 22 (((u2 (u2 c7.2 4 j14 c7.1) 4 j15 0) 0 22) + 1))
      else
        (ixx 60 (6 * (c4.2 0 21))).bind fun j16 =>
        (f_M_readNumber MA (u2 c4.2 3 j16 ((3 * c3.1) + c4.1)) 0 99).bind fun c8 =>
        (ixx 60 ((6 * ((u2 c4.2 3 j16 ((3 * c3.1) + c4.1)) 0 21)) + 1)).bind fun j19 =>
        some (u2 (u2 c8.2 3 j19 c8.1) 0 21 (((u2 c8.2 3 j19 c8.1) 0 21) + 1))
    else
      (f_M_readMeeting MA MN).bind fun c9 =>
      (f_M_readHour MA c9.2).bind fun c10 =>
      (f_M_readNumber MA c10.2 c10.1 ((c10.2 0 18) - 1)).bind fun c11 =>
      (f_M_fine c11.2).bind fun x26 =>
      if x26 = 0 then
        some c11.2
      else
        (rdx (c11.2 3) 60 ((6 * c9.1) + 3)).bind fun x27 =>
        (f_M_range c10.1 c11.1).bind fun x28 =>
        (ixx 60 ((6 * c9.1) + 3)).bind fun j29 =>
        some (u2 c11.2 3 j29 (x27 ||| x28))
  else
    (f_M_readNumber MA MN 0 ((MN 0 20) - 1)).bind fun c14 =>
    (f_M_readHour MA c14.2).bind fun c15 =>
    (f_M_readNumber MA c15.2 c15.1 ((c15.2 0 18) - 1)).bind fun c16 =>
    (f_M_fine c16.2).bind fun x36 =>
    if x36 = 0 then
      some c16.2
    else
      (rdx (c16.2 2) 24 ((3 * c14.1) + 2)).bind fun x37 =>
      (f_M_range c15.1 c16.1).bind fun x38 =>
      (ixx 24 ((3 * c14.1) + 2)).bind fun j39 =>
      some (u2 c16.2 2 j39 (x37 ||| x38))
def f_M_readClause (MA : (Nat → Nat → Int32)) (MN : (Nat → Nat → Int32)) (p1 : Int32) : Option ((Nat → Nat → Int32)) :=
  (f_M_of 2650).bind fun x1 =>
  if p1 ≠ x1 then
    (f_M_of 2651).bind fun x2 =>
    if p1 ≠ x2 then
      (f_M_of 2652).bind fun x3 =>
      if p1 ≠ x3 then
        (f_M_of 2653).bind fun x4 =>
        if p1 ≠ x4 then
          (f_M_of 2654).bind fun x5 =>
          if p1 ≠ x5 then
            (f_M_of 2655).bind fun x6 =>
            if p1 ≠ x6 then
              (f_M_readPlaces MA MN p1).bind fun MN_7 =>
              some MN_7
            else
              (f_M_readMeeting MA MN).bind fun c8 =>
              (f_M_readNumber MA c8.2 0 99).bind fun c9 =>
              (f_M_fine c9.2).bind fun x12 =>
              if x12 = 0 then
                some c9.2
              else
                (ixx 60 ((6 * c8.1) + 5)).bind fun j13 =>
                some (u2 c9.2 3 j13 c9.1)
          else
            (f_M_readMeeting MA MN).bind fun c11 =>
            (f_M_fine c11.2).bind fun x16 =>
            if x16 = 0 then
              some c11.2
            else
              (ixx 60 ((6 * c11.1) + 4)).bind fun j17 =>
              some (u2 c11.2 3 j17 1)
        else
          (f_M_readMeeting MA MN).bind fun c13 =>
          (f_M_readNumber MA c13.2 0 ((c13.2 0 20) - 1)).bind fun c14 =>
          (f_M_fine c14.2).bind fun x22 =>
          if x22 = 0 then
            some c14.2
          else
            (rdx (c14.2 3) 60 ((6 * c13.1) + 2)).bind fun x23 =>
            (ixx 60 ((6 * c13.1) + 2)).bind fun j24 =>
            some (u2 c14.2 3 j24 (x23 ||| (a_shl 1 c14.1)))
      else
        (f_M_readNumber MA MN 0 9).bind fun c16 =>
        (ixx 24 (3 * (MN 0 20))).bind fun j27 =>
        (f_M_readNumber MA (u2 c16.2 2 j27 c16.1) 0 9).bind fun c17 =>
        (ixx 24 ((3 * ((u2 c16.2 2 j27 c16.1) 0 20)) + 1)).bind fun j30 =>
        (ixx 24 ((3 * ((u2 c17.2 2 j30 c17.1) 0 20)) + 2)).bind fun j31 =>
        some (u2 (u2 (u2 c17.2 2 j30 c17.1) 2 j31 0) 0 20 (((u2 (u2 c17.2 2 j30 c17.1) 2 j31 0) 0 20) + 1))
    else
      (f_M_readNumber MA MN 0 20).bind fun c18 =>
      (ixx 3 (MN 0 19)).bind fun j34 =>
      some (u2 (u2 c18.2 1 j34 c18.1) 0 19 (((u2 c18.2 1 j34 c18.1) 0 19) + 1))
  else
    (f_M_readNumber MA MN 1 10).bind fun c19 =>
    some (u2 c19.2 0 18 c19.1)
def f_M_isClause (p0 : Int32) : Option (Int32) :=
  (f_M_of 2650).bind fun x1 =>
  if p0 = x1 then
    some (zb 1)
  else
    (f_M_of 2651).bind fun x2 =>
    if p0 = x2 then
      some (zb 1)
    else
      (f_M_of 2652).bind fun x3 =>
      if p0 = x3 then
        some (zb 1)
      else
        (f_M_of 2647).bind fun x4 =>
        if p0 = x4 then
          some (zb 1)
        else
          (f_M_of 2649).bind fun x5 =>
          if p0 = x5 then
            some (zb 1)
          else
            (f_M_of 2653).bind fun x6 =>
            if p0 = x6 then
              some (zb 1)
            else
              (f_M_of 2648).bind fun x7 =>
              if p0 = x7 then
                some (zb 1)
              else
                (f_M_of 2654).bind fun x8 =>
                if p0 = x8 then
                  some (zb 1)
                else
                  (f_M_of 2655).bind fun x9 =>
                  if p0 = x9 then
                    some (zb 1)
                  else
                    (f_M_of 2656).bind fun x10 =>
                    if p0 ≠ x10 then
                      some (zb 0)
                    else
                      some (zb 1)
def f_M_house_l44 (MA_4 : (Nat → Nat → Int32)) (v7 : Int32) (MN_9 : (Nat → Nat → Int32)) : Option ((Int32 × (Nat → Nat → Int32)) ⊕ ((Nat → Nat → Int32))) :=
  (f_M_fine MN_9).bind fun x10 =>
  if x10 = 0 then
    some (.inr MN_9)
  else
    (f_M_isMore MA_4 MN_9).bind fun c9 =>
    if c9.1 = 0 then
      some (.inr c9.2)
    else
      (f_M_word MA_4 c9.2).bind fun c10 =>
      (f_M_isClause c10.1).bind fun x15 =>
      (((
        if x15 ≠ 0 then
          (((
            if v7 = 60 then
              some (.inl ())
            else
              (f_M_of 2651).bind fun x16 =>
              (((
                if c10.1 ≠ x16 then
                  some (.inl ())
                else
                  if (c10.2 0 19) = 3 then
                    some (.inr (.inl ()))
                  else
                    some (.inl ())) : Option ((Unit) ⊕ ((Unit) ⊕ ((Nat → Nat → Int32)))))).bind fun b27 => sumE b27 (fun _ =>
              (f_M_of 2652).bind fun x17 =>
              (((
                if c10.1 ≠ x17 then
                  some (.inl ())
                else
                  if (c10.2 0 20) = 8 then
                    some (.inr (.inl ()))
                  else
                    some (.inl ())) : Option ((Unit) ⊕ ((Unit) ⊕ ((Nat → Nat → Int32)))))).bind fun b26 => sumE b26 (fun _ =>
              (f_M_of 2649).bind fun x18 =>
              (((
                if c10.1 ≠ x18 then
                  some (.inl ())
                else
                  if (c10.2 0 21) = 10 then
                    some (.inr (.inl ()))
                  else
                    some (.inl ())) : Option ((Unit) ⊕ ((Unit) ⊕ ((Nat → Nat → Int32)))))).bind fun b25 => sumE b25 (fun _ =>
              (f_M_of 2656).bind fun x19 =>
              (((
                if c10.1 ≠ x19 then
                  some (.inl ())
                else
                  if (c10.2 0 22) ≠ 4 then
                    some (.inl ())
                  else
                    some (.inr (.inl ()))) : Option ((Unit) ⊕ ((Unit) ⊕ ((Nat → Nat → Int32)))))).bind fun b24 => sumE b24 (fun _ =>
              (f_M_of 2650).bind fun x20 =>
              if c10.1 ≠ x20 then
                some (.inr c10.2)
              else
                if v7 ≤ 0 then
                  some (.inr c10.2)
                else
                  (f_M_wrong c10.2 4 (c10.2 0 4)).bind fun MN_21 =>
                  some (.inr MN_21)) (fun q => some q)) (fun q => some q)) (fun q => some q)) (fun q => some q)) : Option ((Unit) ⊕ ((Nat → Nat → Int32))))).bind fun b29 => sumE b29 (fun _ =>
          (f_M_wrong c10.2 3 (c10.2 0 4)).bind fun MN_22 =>
          some MN_22) (fun q => some q)
        else
          (f_M_wrong c10.2 1 (c10.2 0 4)).bind fun MN_23 =>
          some MN_23) : Option ((Nat → Nat → Int32)))).bind fun MN_24 =>
      (f_M_fine MN_24).bind fun x25 =>
      if x25 ≠ 0 then
        (f_M_pass MA_4 MN_24).bind fun MN_26 =>
        (f_M_readClause MA_4 MN_26 c10.1).bind fun MN_27 =>
        (f_M_sign MA_4 MN_27 59).bind fun MN_28 =>
        some (.inl ((v7 + 1), MN_28))
      else
        some (.inr MN_24)
def f_M_house (MA : (Nat → Nat → Int32)) (MN : (Nat → Nat → Int32)) (p1 : Int32) : Option (Int32 × (Nat → Nat → Int32) × (Nat → Nat → Int32)) :=
  (((
    (((
      if p1 < 0 then
        some (.inl ())
      else
        if ((u2 MA 0 0 0) 0 2) < p1 then
          some (.inl ())
        else
          some (.inr 1)) : Option ((Unit) ⊕ (Int32)))).bind fun b3 => sumE b3 (fun _ =>
    some 0) (fun q => some q)) : Option (Int32))).bind fun v1 =>
  (f_M_may (u2 MA 0 0 0) v1 1 1).bind fun c4 =>
  if c4.1 ≠ 0 then
    (f_M_begins c4.2 MN p1).bind fun c5 =>
    (f_M_clears c5.2).bind fun MN_6 =>
    (loopN (fun q => f_M_house_l44 c5.1 q.1 q.2) a_F (0, MN_6)).bind fun MN_31 =>
    (f_M_result c5.1 MN_31 (MN_31 0 21)).bind fun c36 =>
    if (MN_31 0 5) ≠ (-1) then
      some (c36.1, c36.2, MN_31)
    else
      (f_M_sets c36.2 MN_31).bind fun MA_34 =>
      some (c36.1, MA_34, MN_31)
  else
    some (0, c4.2, MN)
def f_M_target_l48 (MA_4 : (Nat → Nat → Int32)) (v6 : Int32) (v7 : Int32) (MN_12 : (Nat → Nat → Int32)) : Option ((Int32 × Int32 × (Nat → Nat → Int32)) ⊕ (Int32 × (Nat → Nat → Int32))) :=
  (f_M_fine MN_12).bind fun x13 =>
  if x13 = 0 then
    some (.inr (v6, MN_12))
  else
    (f_M_isMore MA_4 MN_12).bind fun c8 =>
    if c8.1 = 0 then
      some (.inr (v6, c8.2))
    else
      (f_M_readNumber MA_4 c8.2 0 ((MA_4 0 26) - 1)).bind fun c9 =>
      (f_M_fine c9.2).bind fun x18 =>
      (((
        if x18 = 0 then
          some c9.2
        else
          if ((a_shr v7 c9.1) &&& 1) ≠ 1 then
            some c9.2
          else
            (f_M_wrong c9.2 2 (c8.2 0 4)).bind fun MN_19 =>
            some MN_19) : Option ((Nat → Nat → Int32)))).bind fun MN_20 =>
      (f_M_readNumber MA_4 MN_20 0 ((MA_4 0 23) - 1)).bind fun c13 =>
      (f_M_readNumber MA_4 c13.2 0 ((MA_4 0 24) - 1)).bind fun c14 =>
      (f_M_sign MA_4 c14.2 59).bind fun MN_25 =>
      (f_M_fine MN_25).bind fun x26 =>
      if x26 ≠ 0 then
        (ixx 20 (2 * v6)).bind fun j27 =>
        (ixx 20 ((2 * v6) + 1)).bind fun j28 =>
        some (.inl ((v6 + 1), (v7 ||| (a_shl 1 c9.1)), (u2 (u2 MN_25 5 j27 c9.1) 5 j28 ((3 * c13.1) + c14.1))))
      else
        some (.inr (v6, MN_25))
def f_M_target (MA : (Nat → Nat → Int32)) (MN : (Nat → Nat → Int32)) (p1 : Int32) : Option (Int32 × (Nat → Nat → Int32) × (Nat → Nat → Int32)) :=
  (((
    (((
      if p1 < 0 then
        some (.inl ())
      else
        if ((u2 MA 0 0 0) 0 2) < p1 then
          some (.inl ())
        else
          if 120 < p1 then
            some (.inl ())
          else
            some (.inr 1)) : Option ((Unit) ⊕ (Int32)))).bind fun b3 => sumE b3 (fun _ =>
    some 0) (fun q => some q)) : Option (Int32))).bind fun v1 =>
  (f_M_may (u2 MA 0 0 0) v1 1 1).bind fun c4 =>
  if c4.1 ≠ 0 then
    (f_M_begins c4.2 MN p1).bind fun c5 =>
    (loopN (fun q => f_M_target_l48 c5.1 q.1 q.2.1 q.2.2) a_F (0, 0, c5.2)).bind fun p17_ =>
    (f_M_result c5.1 p17_.2 p17_.1).bind fun c18 =>
    if (p17_.2 0 5) = (-1) then
      (cpM (p17_.2 5) 20 ((u2 c18.2 0 33 p17_.1) 9) 20 (2 * p17_.1)).bind fun x38 =>
      some (c18.1, (u1 (u2 c18.2 0 33 p17_.1) 9 x38), p17_.2)
    else
      some (c18.1, c18.2, p17_.2)
  else
    some (0, c4.2, MN)
def f_M_line (MA : (Nat → Nat → Int32)) (p1 : Int32) (p2 : Int32) : Option (Int32 × (Nat → Nat → Int32)) :=
  (f_M_within p2 0 2).bind fun x1 =>
  (f_M_may (u2 MA 0 0 0) x1 1 1).bind fun c2 =>
  if c2.1 ≠ 0 then
    (f_M_within p1 0 ((c2.2 0 33) - 1)).bind fun x4 =>
    if x4 ≠ 0 then
      if p2 ≠ 0 then
        if p2 ≠ 1 then
          (rdx (c2.2 9) 20 ((2 * p1) + 1)).bind fun x5 =>
          some ((a_rem x5 3), c2.2)
        else
          (rdx (c2.2 9) 20 ((2 * p1) + 1)).bind fun x6 =>
          some ((x6 / 3), c2.2)
      else
        (rdx (c2.2 9) 20 (2 * p1)).bind fun x7 =>
        some (x7, c2.2)
    else
      some ((-1), c2.2)
  else
    some (0, c2.2)
def f_M_findGoals_l16 (MA : (Nat → Nat → Int32)) (v2 : Int32) (MS_3 : (Nat → Nat → Int32)) : Option ((Int32 × (Nat → Nat → Int32)) ⊕ ((Nat → Nat → Int32))) :=
  if (MA 0 33) ≤ v2 then
    some (.inr MS_3)
  else
    (rdx (MA 9) 20 (2 * v2)).bind fun x4 =>
    (rdx (MA 9) 20 ((2 * v2) + 1)).bind fun x5 =>
    (ixx 10 x4).bind fun j6 =>
    some (.inl ((v2 + 1), (u2 MS_3 1 j6 x5)))
def f_M_findGoals (MA : (Nat → Nat → Int32)) (MS : (Nat → Nat → Int32)) : Option ((Nat → Nat → Int32)) :=
  (cpM (MA 7) 10 (MS 1) 10 10).bind fun x1 =>
  (loopN (fun q => f_M_findGoals_l16 MA q.1 q.2) a_F (0, (u1 MS 1 x1))).bind fun MS_8 =>
  some MS_8
def f_M_emit (MN : (Nat → Nat → Int32)) (p1 : Int32) (p2 : Int32) : Option ((Nat → Nat → Int32)) :=
  (f_M_fine MN).bind fun x1 =>
  if x1 ≠ 0 then
    (ixx 150 (MN 0 39)).bind fun j2 =>
    (ixx 150 ((u2 MN 6 j2 p1) 0 39)).bind fun j3 =>
    some (u2 (u2 (u2 MN 6 j2 p1) 7 j3 p2) 0 39 (((u2 (u2 MN 6 j2 p1) 7 j3 p2) 0 39) + 1))
  else
    some MN
def f_M_opensOne (MN : (Nat → Nat → Int32)) (p1 : Int32) : Option ((Nat → Nat → Int32)) :=
  (f_M_fine MN).bind fun x1 =>
  (((
    if x1 = 0 then
      some MN
    else
      if (MN 0 7) ≠ 6 then
        some MN
      else
        (f_M_wrong MN 3 (MN 0 4)).bind fun MN_2 =>
        some MN_2) : Option ((Nat → Nat → Int32)))).bind fun MN_3 =>
  (f_M_fine MN_3).bind fun x4 =>
  (((
    if x4 = 0 then
      some MN_3
    else
      some (u2 MN_3 0 4 ((MN_3 0 4) + p1))) : Option ((Nat → Nat → Int32)))).bind fun MN_5 =>
  some (u2 MN_5 0 7 ((MN_5 0 7) + 1))
def f_M_stands_l12 (MA : (Nat → Nat → Int32)) (s1 : Nat) (MN_2 : (Nat → Nat → Int32)) (v3 : Int32) : Option ((Int32) ⊕ ((Unit) ⊕ (Int32 × (Nat → Nat → Int32)))) :=
  if isS s1 then
  if (s_len s1) ≤ v3 then
    some (.inr (.inl ()))
  else
    if (MN_2 0 3) ≤ ((MN_2 0 4) + v3) then
      some (.inr (.inr ((zb 0), MN_2)))
    else
      (rdx (MA 2) 600 ((MN_2 0 4) + v3)).bind fun x4 =>
      if isS s1 then
      (s_at s1 v3).bind fun x5 =>
      if x4 = x5 then
        some (.inl (v3 + 1))
      else
        some (.inr (.inr ((zb 0), MN_2)))
      else none
  else none
def f_M_stands (MA : (Nat → Nat → Int32)) (MN : (Nat → Nat → Int32)) (s1 : Nat) : Option (Int32 × (Nat → Nat → Int32)) :=
  (f_M_here MA MN).bind fun c1 =>
  (loopN (fun q => f_M_stands_l12 MA s1 c1.2 q) a_F 0).bind fun b5 => sumE b5 (fun _ =>
  if isS s1 then
  if (c1.2 0 3) ≤ ((c1.2 0 4) + (s_len s1)) then
    some ((zb 1), c1.2)
  else
    if isS s1 then
    (rdx (MA 2) 600 ((c1.2 0 4) + (s_len s1))).bind fun x7 =>
    (f_M_isSmall x7).bind fun x8 =>
    if x8 ≠ 0 then
      some ((zb 0), c1.2)
    else
      some ((zb 1), c1.2)
    else none
  else none) (fun q => some q)
def f_M_factHere (MA : (Nat → Nat → Int32)) (MN : (Nat → Nat → Int32)) : Option (Int32 × (Nat → Nat → Int32)) :=
  (f_M_word MA MN).bind fun c1 =>
  (f_M_stands MA c1.2 2660).bind fun c2 =>
  if c2.1 = 0 then
    (f_M_stands MA c2.2 2661).bind fun c3 =>
    if c3.1 = 0 then
      (f_M_of 2662).bind fun x7 =>
      if c1.1 ≠ x7 then
        (f_M_of 2663).bind fun x8 =>
        if c1.1 ≠ x8 then
          (f_M_of 2664).bind fun x9 =>
          if c1.1 ≠ x9 then
            (f_M_of 2665).bind fun x10 =>
            if c1.1 ≠ x10 then
              (f_M_of 2666).bind fun x11 =>
              if c1.1 ≠ x11 then
                (f_M_of 2667).bind fun x12 =>
                if c1.1 ≠ x12 then
                  (f_M_of 2668).bind fun x13 =>
                  if c1.1 ≠ x13 then
                    (f_M_of 2651).bind fun x14 =>
                    if c1.1 ≠ x14 then
                      (f_M_of 2669).bind fun x15 =>
                      if c1.1 ≠ x15 then
                        some ((-1), c3.2)
                      else
                        some (10, c3.2)
                    else
                      some (9, c3.2)
                  else
                    some (8, c3.2)
                else
                  some (6, c3.2)
              else
                some (4, c3.2)
            else
              some (3, c3.2)
          else
            some (2, c3.2)
        else
          some (1, c3.2)
      else
        some (0, c3.2)
    else
      some (5, c3.2)
  else
    some (7, c2.2)
def f_M_ones_l4 (v1 : Int32) (v2 : Int32) : Option ((Int32 × Int32) ⊕ (Int32)) :=
  if v2 = 0 then
    some (.inr v1)
  else
    some (.inl ((v1 + 1), (v2 &&& (v2 - 1))))
def f_M_ones (p0 : Int32) : Option (Int32) :=
  (loopN (fun q => f_M_ones_l4 q.1 q.2) a_F (0, p0)).bind fun v3 =>
  some v3
def f_M_both (p0 : Int32) (p1 : Int32) (p2 : Int32) : Option (Int32) :=
  if 4 < p0 then
    (((
      if p0 ≠ 5 then
        if p0 ≠ 6 then
          if p0 ≠ 7 then
            if p0 ≠ 9 then
              if (p1 + p2) ≤ 0 then
                some 0
              else
                some 1
            else
              if (p1 + p2) ≠ 2 then
                some 0
              else
                some 1
          else
            if p1 ≠ p2 then
              some 0
            else
              some 1
        else
          if p1 ≤ p2 then
            some 0
          else
            some 1
      else
        if p2 ≤ p1 then
          some 0
        else
          some 1) : Option (Int32))).bind fun v1 =>
    if v1 = 0 then
      some 0
    else
      some 1
  else
    if p0 ≠ 2 then
      if p0 ≠ 3 then
        some (p1 * p2)
      else
        some (p1 - p2)
    else
      some (p1 + p2)
def f_M_yieldsTo_l12 (MA : (Nat → Nat → Int32)) (p2 : Int32) (p1 : Int32) (v1 : Int32) (MS_3 : (Nat → Nat → Int32)) : Option ((Int32 × (Nat → Nat → Int32)) ⊕ ((Nat → Nat → Int32))) :=
  if 2 ≤ v1 then
    some (.inr MS_3)
  else
    (((
      if v1 ≠ 0 then
        some p2
      else
        some p1) : Option (Int32))).bind fun v4 =>
    (rdx (MA 5) 60 ((6 * v4) + 1)).bind fun x5 =>
    (ixx 11 (4 * v1)).bind fun j6 =>
    (rdx (MA 8) 10 v4).bind fun x7 =>
    (ixx 11 ((4 * v1) + 1)).bind fun j8 =>
    (rdx (MA 5) 60 ((6 * v4) + 2)).bind fun x9 =>
    (f_M_ones x9).bind fun x10 =>
    (ixx 11 ((4 * v1) + 2)).bind fun j11 =>
    (ixx 11 ((4 * v1) + 3)).bind fun j12 =>
    some (.inl ((v1 + 1), (u2 (u2 (u2 (u2 MS_3 3 j6 x5) 3 j8 x7) 3 j11 x10) 3 j12 v4)))
def f_M_yieldsTo_l149 (MA : (Nat → Nat → Int32)) (v19 : Int32) (v20 : Int32) (MS_22 : (Nat → Nat → Int32)) : Option ((Int32 × Int32 × (Nat → Nat → Int32)) ⊕ ((Nat → Nat → Int32))) :=
  if (MA 0 40) ≤ v20 then
    some (.inr MS_22)
  else
    (rdx (MA 10) 150 v20).bind fun x23 =>
    if 1 < x23 then
      if x23 ≠ 8 then
        (rdx (MS_22 2) 150 ((v19 + (-1)) - 1)).bind fun x24 =>
        (rdx (MS_22 2) 150 (v19 + (-1))).bind fun x25 =>
        (f_M_both x23 x24 x25).bind fun x26 =>
        (ixx 150 ((v19 + (-1)) - 1)).bind fun j27 =>
        some (.inl ((v19 + (-1)), (v20 + 1), (u2 MS_22 2 j27 x26)))
      else
        (rdx (MS_22 2) 150 (v19 - 1)).bind fun x28 =>
        (ixx 150 (v19 - 1)).bind fun j29 =>
        some (.inl (v19, (v20 + 1), (u2 MS_22 2 j29 (1 - x28))))
    else
      (((
        if x23 ≠ 0 then
          (rdx (MA 11) 150 v20).bind fun x30 =>
          (rdx (MS_22 3) 11 x30).bind fun x31 =>
          some x31
        else
          (rdx (MA 11) 150 v20).bind fun x32 =>
          some x32) : Option (Int32))).bind fun v33 =>
      (ixx 150 v19).bind fun j34 =>
      some (.inl ((v19 + 1), (v20 + 1), (u2 MS_22 2 j34 v33)))
def f_M_yieldsTo (MA : (Nat → Nat → Int32)) (MS : (Nat → Nat → Int32)) (p1 : Int32) (p2 : Int32) (p3 : Int32) (p4 : Int32) : Option (Int32 × (Nat → Nat → Int32)) :=
  if (MA 0 40) ≠ 0 then
    (loopN (fun q => f_M_yieldsTo_l12 MA p2 p1 q.1 q.2) a_F (0, MS)).bind fun MS_15 =>
    (ixx 11 8).bind fun j16 =>
    (ixx 11 9).bind fun j17 =>
    (ixx 11 10).bind fun j18 =>
    (loopN (fun q => f_M_yieldsTo_l149 MA q.1 q.2.1 q.2.2) a_F (0, 0, (u2 (u2 (u2 MS_15 3 j16 (p3 / 3)) 3 j17 (a_rem p3 3)) 3 j18 p4))).bind fun MS_38 =>
    (rdx (MS_38 2) 150 0).bind fun x39 =>
    if x39 ≠ 1 then
      some ((zb 0), MS_38)
    else
      some ((zb 1), MS_38)
  else
    some ((zb 0), MS)
def f_M_isMeeting (MA : (Nat → Nat → Int32)) (p1 : Int32) (p2 : Int32) : Option (Int32 × (Nat → Nat → Int32)) :=
  (f_M_within p1 0 ((MA 0 26) - 1)).bind fun x1 =>
  (f_M_may MA x1 p2 0).bind fun c2 =>
  some ((zb c2.1), c2.2)
def f_M_isRoom (MA : (Nat → Nat → Int32)) (p1 : Int32) (p2 : Int32) : Option (Int32 × (Nat → Nat → Int32)) :=
  (f_M_within p1 0 ((MA 0 24) - 1)).bind fun x1 =>
  (f_M_may MA x1 p2 0).bind fun c2 =>
  some ((zb c2.1), c2.2)
def f_M_isPerson (MA : (Nat → Nat → Int32)) (p1 : Int32) (p2 : Int32) : Option (Int32 × (Nat → Nat → Int32)) :=
  (f_M_within p1 0 ((MA 0 25) - 1)).bind fun x1 =>
  (f_M_may MA x1 p2 0).bind fun c2 =>
  some ((zb c2.1), c2.2)
def f_M_isHold (MA : (Nat → Nat → Int32)) (p1 : Int32) (p2 : Int32) : Option (Int32 × (Nat → Nat → Int32)) :=
  (f_M_within p1 0 ((MA 0 27) - 1)).bind fun x1 =>
  (f_M_may MA x1 p2 0).bind fun c2 =>
  some ((zb c2.1), c2.2)
def f_M_isFixed (MA : (Nat → Nat → Int32)) (p1 : Int32) : Option (Int32) :=
  (rdx (MA 5) 60 ((6 * p1) + 4)).bind fun x1 =>
  if x1 ≠ 1 then
    some (zb 0)
  else
    some (zb 1)
def f_M_isHeld_l2 (MA : (Nat → Nat → Int32)) (p1 : Int32) (v1 : Int32) : Option ((Int32) ⊕ ((Unit) ⊕ (Int32))) :=
  if (MA 0 27) ≤ v1 then
    some (.inr (.inl ()))
  else
    (rdx (MA 6) 16 (4 * v1)).bind fun x2 =>
    if x2 ≠ p1 then
      some (.inl (v1 + 1))
    else
      (rdx (MA 6) 16 ((4 * v1) + 3)).bind fun x3 =>
      if x3 ≠ 0 then
        some (.inl (v1 + 1))
      else
        some (.inr (.inr (zb 1)))
def f_M_isHeld (MA : (Nat → Nat → Int32)) (p1 : Int32) : Option (Int32) :=
  (loopN (fun q => f_M_isHeld_l2 MA p1 q) a_F 0).bind fun b3 => sumE b3 (fun _ =>
  some (zb 0)) (fun q => some q)
def f_M_mayIn (MA : (Nat → Nat → Int32)) (p1 : Int32) : Option (Int32) :=
  (rdx (MA 5) 60 ((6 * p1) + 3)).bind fun x1 =>
  if x1 ≠ 0 then
    (rdx (MA 5) 60 ((6 * p1) + 3)).bind fun x2 =>
    some x2
  else
    some ((a_shl 1 (MA 0 23)) - 1)
def f_M_busyIn_l4 (MA : (Nat → Nat → Int32)) (p1 : Int32) (v1 : Int32) (v2 : Int32) : Option ((Int32 × Int32) ⊕ (Int32)) :=
  if (MA 0 25) ≤ v2 then
    some (.inr v1)
  else
    (rdx (MA 5) 60 ((6 * p1) + 2)).bind fun x3 =>
    (((
      if ((a_shr x3 v2) &&& 1) ≠ 1 then
        some 0
      else
        (rdx (MA 4) 24 ((3 * v2) + 2)).bind fun x4 =>
        some x4) : Option (Int32))).bind fun v5 =>
    some (.inl ((v1 ||| v5), (v2 + 1)))
def f_M_busyIn (MA : (Nat → Nat → Int32)) (p1 : Int32) : Option (Int32) :=
  (loopN (fun q => f_M_busyIn_l4 MA p1 q.1 q.2) a_F (0, 0)).bind fun v6 =>
  some v6
def f_M_ownClash (MA : (Nat → Nat → Int32)) (p1 : Int32) (p2 : Int32) : Option (Int32) :=
  (f_M_mayIn MA p1).bind fun x1 =>
  (((
    if ((a_shr x1 (p2 / 3)) &&& 1) ≠ 1 then
      some 1
    else
      some 0) : Option (Int32))).bind fun v2 =>
  (f_M_busyIn MA p1).bind fun x3 =>
  (((
    if ((a_shr x3 (p2 / 3)) &&& 1) ≠ 1 then
      some 0
    else
      some 2) : Option (Int32))).bind fun v4 =>
  (f_M_isHeld MA p2).bind fun x5 =>
  (((
    if x5 = 0 then
      some 0
    else
      some 8) : Option (Int32))).bind fun v6 =>
  (rdx (MA 3) 3 (a_rem p2 3)).bind fun x7 =>
  (rdx (MA 5) 60 ((6 * p1) + 2)).bind fun x8 =>
  (f_M_ones x8).bind fun x9 =>
  (((
    if x9 ≤ x7 then
      some 0
    else
      some 16) : Option (Int32))).bind fun v10 =>
  some (((v2 ||| v4) ||| v6) ||| v10)
def f_M_clashWith (MA : (Nat → Nat → Int32)) (p1 : Int32) (p2 : Int32) (p3 : Int32) (p4 : Int32) : Option (Int32) :=
  if p4 = (-1) then
    some 0
  else
    if p3 = p1 then
      some 0
    else
      if (p4 / 3) = (p2 / 3) then
        (rdx (MA 5) 60 ((6 * p1) + 2)).bind fun x1 =>
        (rdx (MA 5) 60 ((6 * p3) + 2)).bind fun x2 =>
        (((
          if (x1 &&& x2) = 0 then
            some 0
          else
            some 4) : Option (Int32))).bind fun v3 =>
        (((
          if p4 ≠ p2 then
            some 0
          else
            some 8) : Option (Int32))).bind fun v4 =>
        some (v3 ||| v4)
      else
        some 0
def f_M_told_l95 (MA_3 : (Nat → Nat → Int32)) (v4 : Int32) (v5 : Int32) : Option ((Int32 × Int32) ⊕ (Int32)) :=
  if (MA_3 0 26) ≤ v5 then
    some (.inr v4)
  else
    (rdx (MA_3 7) 10 v5).bind fun x6 =>
    if x6 ≠ (-1) then
      some (.inl ((v4 + 0), (v5 + 1)))
    else
      some (.inl ((v4 + 1), (v5 + 1)))
def f_M_told (MA : (Nat → Nat → Int32)) (p1 : Int32) : Option (Int32 × (Nat → Nat → Int32)) :=
  (f_M_within p1 0 6).bind fun x1 =>
  (f_M_may (u2 MA 0 0 0) x1 1 1).bind fun c2 =>
  if c2.1 ≠ 0 then
    if 3 ≤ p1 then
      if 6 ≤ p1 then
        (loopN (fun q => f_M_told_l95 c2.2 q.1 q.2) a_F (0, 0)).bind fun v7 =>
        some (v7, c2.2)
      else
        if p1 ≠ 3 then
          if p1 ≠ 4 then
            some ((c2.2 0 33), c2.2)
          else
            some ((c2.2 0 27), c2.2)
        else
          some ((c2.2 0 26), c2.2)
    else
      if p1 ≠ 0 then
        if p1 ≠ 1 then
          some ((c2.2 0 25), c2.2)
        else
          some ((c2.2 0 24), c2.2)
      else
        some ((c2.2 0 23), c2.2)
  else
    some (0, c2.2)
def f_M_meeting (MA : (Nat → Nat → Int32)) (p1 : Int32) (p2 : Int32) : Option (Int32 × (Nat → Nat → Int32)) :=
  (f_M_isMeeting (u2 MA 0 0 0) p1 1).bind fun c1 =>
  if c1.1 = 0 then
    some (0, c1.2)
  else
    (f_M_within p2 0 6).bind fun x3 =>
    (f_M_may c1.2 x3 2 1).bind fun c3 =>
    if c3.1 ≠ 0 then
      if 2 ≤ p2 then
        if 4 ≤ p2 then
          if p2 ≠ 4 then
            if p2 ≠ 5 then
              (f_M_mayIn c3.2 p1).bind fun x6 =>
              some (x6, c3.2)
            else
              (rdx (c3.2 5) 60 ((6 * p1) + 2)).bind fun x7 =>
              some (x7, c3.2)
          else
            (rdx (c3.2 8) 10 p1).bind fun x8 =>
            some (x8, c3.2)
        else
          if p2 ≠ 2 then
            (rdx (c3.2 5) 60 ((6 * p1) + 4)).bind fun x9 =>
            some (x9, c3.2)
          else
            (rdx (c3.2 5) 60 ((6 * p1) + 1)).bind fun x10 =>
            some (x10, c3.2)
      else
        (rdx (c3.2 7) 10 p1).bind fun x11 =>
        if x11 ≠ (-1) then
          if p2 ≠ 0 then
            (rdx (c3.2 7) 10 p1).bind fun x12 =>
            some ((a_rem x12 3), c3.2)
          else
            (rdx (c3.2 7) 10 p1).bind fun x13 =>
            some ((x13 / 3), c3.2)
        else
          some ((-1), c3.2)
    else
      some (0, c3.2)
def f_M_bornBy_l4 (MA : (Nat → Nat → Int32)) (p1 : Int32) (v1 : Int32) (v2 : Int32) : Option ((Int32 × Int32) ⊕ (Int32)) :=
  if (MA 0 26) ≤ v2 then
    some (.inr v1)
  else
    (rdx (MA 5) 60 ((6 * v2) + 2)).bind fun x3 =>
    if ((a_shr x3 p1) &&& 1) ≠ 1 then
      some (.inl ((v1 + 0), (v2 + 1)))
    else
      (rdx (MA 8) 10 v2).bind fun x4 =>
      some (.inl ((v1 + x4), (v2 + 1)))
def f_M_bornBy (MA : (Nat → Nat → Int32)) (p1 : Int32) : Option (Int32) :=
  (loopN (fun q => f_M_bornBy_l4 MA p1 q.1 q.2) a_F (0, 0)).bind fun v5 =>
  some v5
def f_M_person_l63 (MA_5 : (Nat → Nat → Int32)) (p1 : Int32) (v6 : Int32) (v7 : Int32) : Option ((Int32 × Int32) ⊕ (Int32)) :=
  if (MA_5 0 26) ≤ v7 then
    some (.inr v6)
  else
    (rdx (MA_5 7) 10 v7).bind fun x8 =>
    (((
      if x8 = (-1) then
        some (.inl ())
      else
        (rdx (MA_5 5) 60 ((6 * v7) + 2)).bind fun x9 =>
        if ((a_shr x9 p1) &&& 1) ≠ 1 then
          some (.inl ())
        else
          some (.inr (.inl ((v6 + 1), (v7 + 1))))) : Option ((Unit) ⊕ ((Int32 × Int32) ⊕ (Int32))))).bind fun b6 => sumE b6 (fun _ =>
    some (.inl ((v6 + 0), (v7 + 1)))) (fun q => some q)
def f_M_person (MA : (Nat → Nat → Int32)) (p1 : Int32) (p2 : Int32) : Option (Int32 × (Nat → Nat → Int32)) :=
  (f_M_isPerson (u2 MA 0 0 0) p1 1).bind fun c1 =>
  if c1.1 = 0 then
    some (0, c1.2)
  else
    (f_M_within p2 0 4).bind fun x3 =>
    (f_M_may c1.2 x3 2 1).bind fun c3 =>
    if c3.1 ≠ 0 then
      if 3 ≤ p2 then
        if p2 ≠ 4 then
          (loopN (fun q => f_M_person_l63 c3.2 p1 q.1 q.2) a_F (0, 0)).bind fun v10 =>
          some (v10, c3.2)
        else
          (f_M_bornBy c3.2 p1).bind fun x12 =>
          some (x12, c3.2)
      else
        (rdx (c3.2 4) 24 ((3 * p1) + p2)).bind fun x13 =>
        some (x13, c3.2)
    else
      some (0, c3.2)
def f_M_at_l38 (MA_5 : (Nat → Nat → Int32)) (p1 : Int32) (p2 : Int32) (v6 : Int32) : Option ((Int32) ⊕ ((Unit) ⊕ (Int32 × (Nat → Nat → Int32)))) :=
  if (MA_5 0 26) ≤ v6 then
    some (.inr (.inl ()))
  else
    (rdx (MA_5 7) 10 v6).bind fun x7 =>
    if x7 ≠ ((3 * p1) + p2) then
      some (.inl (v6 + 1))
    else
      some (.inr (.inr (v6, MA_5)))
def f_M_at (MA : (Nat → Nat → Int32)) (p1 : Int32) (p2 : Int32) : Option (Int32 × (Nat → Nat → Int32)) :=
  (f_M_isRoom (u2 MA 0 0 0) p2 1).bind fun c1 =>
  if c1.1 = 0 then
    some (0, c1.2)
  else
    (f_M_within p1 0 ((c1.2 0 23) - 1)).bind fun x3 =>
    (f_M_may c1.2 x3 2 1).bind fun c3 =>
    if c3.1 ≠ 0 then
      (loopN (fun q => f_M_at_l38 c3.2 p1 p2 q) a_F 0).bind fun b6 => sumE b6 (fun _ =>
      some ((-1), c3.2)) (fun q => some q)
    else
      some (0, c3.2)
def f_M_where_l38 (MA_5 : (Nat → Nat → Int32)) (p2 : Int32) (p1 : Int32) (v6 : Int32) : Option ((Int32) ⊕ ((Unit) ⊕ (Int32 × (Nat → Nat → Int32)))) :=
  if (MA_5 0 26) ≤ v6 then
    some (.inr (.inl ()))
  else
    (rdx (MA_5 7) 10 v6).bind fun x7 =>
    if x7 = (-1) then
      some (.inl (v6 + 1))
    else
      (rdx (MA_5 7) 10 v6).bind fun x8 =>
      if (x8 / 3) ≠ p2 then
        some (.inl (v6 + 1))
      else
        (rdx (MA_5 5) 60 ((6 * v6) + 2)).bind fun x9 =>
        if ((a_shr x9 p1) &&& 1) ≠ 1 then
          some (.inl (v6 + 1))
        else
          some (.inr (.inr (v6, MA_5)))
def f_M_where (MA : (Nat → Nat → Int32)) (p1 : Int32) (p2 : Int32) : Option (Int32 × (Nat → Nat → Int32)) :=
  (f_M_isPerson (u2 MA 0 0 0) p1 1).bind fun c1 =>
  if c1.1 = 0 then
    some (0, c1.2)
  else
    (f_M_within p2 0 ((c1.2 0 23) - 1)).bind fun x3 =>
    (f_M_may c1.2 x3 2 1).bind fun c3 =>
    if c3.1 ≠ 0 then
      (loopN (fun q => f_M_where_l38 c3.2 p2 p1 q) a_F 0).bind fun b6 => sumE b6 (fun _ =>
      some ((-1), c3.2)) (fun q => some q)
    else
      some (0, c3.2)
def f_M_isPlace (MA : (Nat → Nat → Int32)) (p1 : Int32) (p2 : Int32) (p3 : Int32) : Option (Int32 × (Nat → Nat → Int32)) :=
  (f_M_isMeeting MA p1 1).bind fun c1 =>
  if c1.1 = 0 then
    some ((zb 0), c1.2)
  else
    (f_M_isRoom c1.2 p3 1).bind fun c2 =>
    if c2.1 = 0 then
      some ((zb 0), c2.2)
    else
      (f_M_within p2 0 ((c2.2 0 23) - 1)).bind fun x5 =>
      (f_M_may c2.2 x5 2 1).bind fun c4 =>
      if c4.1 = 0 then
        some ((zb 0), c4.2)
      else
        some ((zb 1), c4.2)
def f_M_clashOf_l11 (MA : (Nat → Nat → Int32)) (w3 : (Nat → Int32)) (p1 : Int32) (p2 : Int32) (v2 : Int32) (v3 : Int32) : Option ((Int32 × Int32) ⊕ (Int32)) :=
  if (MA 0 26) ≤ v3 then
    some (.inr v2)
  else
    (rdx w3 10 v3).bind fun x4 =>
    (f_M_clashWith MA p1 p2 v3 x4).bind fun x5 =>
    some (.inl ((v2 ||| x5), (v3 + 1)))
def f_M_clashOf (MA : (Nat → Nat → Int32)) (p1 : Int32) (p2 : Int32) (w3 : (Nat → Int32)) : Option (Int32) :=
  (f_M_ownClash MA p1 p2).bind fun x1 =>
  (loopN (fun q => f_M_clashOf_l11 MA w3 p1 p2 q.1 q.2) a_F (x1, 0)).bind fun v6 =>
  some v6
def f_M_clash (MA : (Nat → Nat → Int32)) (p1 : Int32) (p2 : Int32) (p3 : Int32) : Option (Int32 × (Nat → Nat → Int32)) :=
  (f_M_isPlace (u2 MA 0 0 0) p1 p2 p3).bind fun c1 =>
  if c1.1 ≠ 0 then
    (f_M_clashOf c1.2 p1 ((3 * p2) + p3) (c1.2 7)).bind fun x3 =>
    some (x3, c1.2)
  else
    some (0, c1.2)
def f_M_clashing_l9 (MA : (Nat → Nat → Int32)) (v1 : Int32) (v2 : Int32) : Option ((Int32 × Int32) ⊕ (Int32)) :=
  if ((u2 MA 0 0 0) 0 26) ≤ v2 then
    some (.inr v1)
  else
    (rdx ((u2 MA 0 0 0) 7) 10 v2).bind fun x3 =>
    (((
      (((
        if x3 = (-1) then
          some (.inl ())
        else
          (rdx ((u2 MA 0 0 0) 7) 10 v2).bind fun x4 =>
          (f_M_clashOf (u2 MA 0 0 0) v2 x4 ((u2 MA 0 0 0) 7)).bind fun x5 =>
          if x5 = 0 then
            some (.inl ())
          else
            some (.inr (a_shl 1 v2))) : Option ((Unit) ⊕ (Int32)))).bind fun b5 => sumE b5 (fun _ =>
      some 0) (fun q => some q)) : Option (Int32))).bind fun v6 =>
    some (.inl ((v1 ||| v6), (v2 + 1)))
def f_M_clashing (MA : (Nat → Nat → Int32)) : Option (Int32 × (Nat → Nat → Int32)) :=
  (loopN (fun q => f_M_clashing_l9 MA q.1 q.2) a_F (0, 0)).bind fun v7 =>
  some (v7, (u2 MA 0 0 0))
def f_M_isThere (MA : (Nat → Nat → Int32)) (p1 : Int32) : Option (Int32) :=
  if (MA 0 24) ≤ (a_rem p1 3) then
    some (zb 0)
  else
    if (MA 0 23) ≤ (p1 / 3) then
      some (zb 0)
    else
      some (zb 1)
def f_M_free_l20 (MA_2 : (Nat → Nat → Int32)) (p1 : Int32) (v3 : Int32) (v4 : Int32) : Option ((Int32 × Int32) ⊕ (Int32)) :=
  if 30 ≤ v4 then
    some (.inr v3)
  else
    (f_M_isThere MA_2 v4).bind fun x5 =>
    (((
      if x5 = 0 then
        some (.inl ())
      else
        (f_M_clashOf MA_2 p1 v4 (MA_2 7)).bind fun x6 =>
        if x6 ≠ 0 then
          some (.inl ())
        else
          some (.inr (.inl ((v3 + 1), (v4 + 1))))) : Option ((Unit) ⊕ ((Int32 × Int32) ⊕ (Int32))))).bind fun b6 => sumE b6 (fun _ =>
    some (.inl ((v3 + 0), (v4 + 1)))) (fun q => some q)
def f_M_free (MA : (Nat → Nat → Int32)) (p1 : Int32) : Option (Int32 × (Nat → Nat → Int32)) :=
  (f_M_isMeeting (u2 MA 0 0 0) p1 1).bind fun c1 =>
  if c1.1 ≠ 0 then
    (loopN (fun q => f_M_free_l20 c1.2 p1 q.1 q.2) a_F (0, 0)).bind fun v7 =>
    some (v7, c1.2)
  else
    some (0, c1.2)
def f_M_keepsAct_l2 (v1 : Int32) (MA_2 : (Nat → Nat → Int32)) : Option ((Int32 × (Nat → Nat → Int32)) ⊕ ((Nat → Nat → Int32))) :=
  if 10 ≤ v1 then
    some (.inr MA_2)
  else
    (rdx (MA_2 7) 10 v1).bind fun x3 =>
    (ixx 600 ((20 * (MA_2 0 43)) + v1)).bind fun j4 =>
    (rdx ((u2 MA_2 12 j4 x3) 8) 10 v1).bind fun x5 =>
    (ixx 600 (((20 * ((u2 MA_2 12 j4 x3) 0 43)) + 10) + v1)).bind fun j6 =>
    some (.inl ((v1 + 1), (u2 (u2 MA_2 12 j4 x3) 12 j6 x5)))
def f_M_keepsAct (MA : (Nat → Nat → Int32)) : Option ((Nat → Nat → Int32)) :=
  (loopN (fun q => f_M_keepsAct_l2 q.1 q.2) a_F (0, MA)).bind fun MA_8 =>
  some (u2 MA_8 0 43 ((MA_8 0 43) + 1))
def f_M_goesTo (MA : (Nat → Nat → Int32)) (p1 : Int32) (p2 : Int32) : Option ((Nat → Nat → Int32)) :=
  (ixx 10 p1).bind fun j1 =>
  (rdx ((u2 MA 7 j1 p2) 8) 10 p1).bind fun x2 =>
  (ixx 10 p1).bind fun j3 =>
  some (u2 (u2 MA 7 j1 p2) 8 j3 (x2 + 1))
def f_M_move (MA : (Nat → Nat → Int32)) (p1 : Int32) (p2 : Int32) (p3 : Int32) : Option (Int32 × (Nat → Nat → Int32)) :=
  (f_M_isPlace (u2 MA 0 0 0) p1 p2 p3).bind fun c1 =>
  if c1.1 ≠ 0 then
    (rdx (c1.2 7) 10 p1).bind fun x3 =>
    if x3 ≠ ((3 * p2) + p3) then
      if (c1.2 0 43) ≠ 30 then
        (f_M_isFixed c1.2 p1).bind fun x4 =>
        if x4 = 0 then
          (f_M_clashOf c1.2 p1 ((3 * p2) + p3) (c1.2 7)).bind fun x5 =>
          if x5 = 0 then
            (f_M_keepsAct c1.2).bind fun MA_6 =>
            (f_M_goesTo MA_6 p1 ((3 * p2) + p3)).bind fun MA_7 =>
            some (1, MA_7)
          else
            some ((-x5), c1.2)
        else
          some ((-32), c1.2)
      else
        some ((-64), c1.2)
    else
      some (0, c1.2)
  else
    some (0, c1.2)
def f_M_drop (MA : (Nat → Nat → Int32)) (p1 : Int32) : Option (Int32 × (Nat → Nat → Int32)) :=
  (f_M_isMeeting (u2 MA 0 0 0) p1 1).bind fun c1 =>
  if c1.1 ≠ 0 then
    (rdx (c1.2 7) 10 p1).bind fun x3 =>
    if x3 ≠ (-1) then
      if (c1.2 0 43) ≠ 30 then
        (f_M_isFixed c1.2 p1).bind fun x4 =>
        if x4 = 0 then
          (f_M_keepsAct c1.2).bind fun MA_5 =>
          (ixx 10 p1).bind fun j6 =>
          some (1, (u2 MA_5 7 j6 (-1)))
        else
          some ((-32), c1.2)
      else
        some ((-64), c1.2)
    else
      some (0, c1.2)
  else
    some (0, c1.2)
def f_M_undo_l26 (v1 : Int32) (MA_2 : (Nat → Nat → Int32)) : Option ((Int32 × (Nat → Nat → Int32)) ⊕ ((Nat → Nat → Int32))) :=
  if 10 ≤ v1 then
    some (.inr MA_2)
  else
    (rdx (MA_2 12) 600 ((20 * (MA_2 0 43)) + v1)).bind fun x3 =>
    (ixx 10 v1).bind fun j4 =>
    (rdx ((u2 MA_2 7 j4 x3) 12) 600 (((20 * ((u2 MA_2 7 j4 x3) 0 43)) + 10) + v1)).bind fun x5 =>
    (ixx 10 v1).bind fun j6 =>
    some (.inl ((v1 + 1), (u2 (u2 MA_2 7 j4 x3) 8 j6 x5)))
def f_M_undo (MA : (Nat → Nat → Int32)) : Option (Int32 × (Nat → Nat → Int32)) :=
  if ((u2 MA 0 0 0) 0 43) ≠ 0 then
    (loopN (fun q => f_M_undo_l26 q.1 q.2) a_F (0, (u2 (u2 MA 0 0 0) 0 43 (((u2 MA 0 0 0) 0 43) - 1)))).bind fun MA_8 =>
    some ((MA_8 0 43), MA_8)
  else
    some ((-1), (u2 MA 0 0 0))
def f_M_let (MA : (Nat → Nat → Int32)) (p1 : Int32) : Option (Int32 × (Nat → Nat → Int32)) :=
  (f_M_isHold (u2 MA 0 0 0) p1 1).bind fun c1 =>
  if c1.1 ≠ 0 then
    (rdx (c1.2 6) 16 ((4 * p1) + 3)).bind fun x3 =>
    (ixx 16 ((4 * p1) + 3)).bind fun j4 =>
    some ((1 - x3), (u2 c1.2 6 j4 1))
  else
    some (0, c1.2)
def f_M_hold_l112 (MA_5 : (Nat → Nat → Int32)) (x6 : Int32) (v7 : Int32) (v8 : Int32) : Option ((Int32 × Int32) ⊕ (Int32)) :=
  if (MA_5 0 26) ≤ v8 then
    some (.inr v7)
  else
    (rdx (MA_5 7) 10 v8).bind fun x9 =>
    (((
      if x9 ≠ (-1) then
        some (.inl ())
      else
        (f_M_clashOf MA_5 v8 x6 (MA_5 7)).bind fun x10 =>
        if (x10 &&& (-9)) ≠ 0 then
          some (.inl ())
        else
          some (.inr (.inl ((v7 + 1), (v8 + 1))))) : Option ((Unit) ⊕ ((Int32 × Int32) ⊕ (Int32))))).bind fun b7 => sumE b7 (fun _ =>
    some (.inl ((v7 + 0), (v8 + 1)))) (fun q => some q)
def f_M_hold (MA : (Nat → Nat → Int32)) (p1 : Int32) (p2 : Int32) : Option (Int32 × (Nat → Nat → Int32)) :=
  (f_M_isHold (u2 MA 0 0 0) p1 1).bind fun c1 =>
  if c1.1 = 0 then
    some (0, c1.2)
  else
    (f_M_within p2 0 4).bind fun x3 =>
    (f_M_may c1.2 x3 2 1).bind fun c3 =>
    if c3.1 ≠ 0 then
      (rdx (c3.2 6) 16 (4 * p1)).bind fun x6 =>
      if 2 ≤ p2 then
        if 4 ≤ p2 then
          (loopN (fun q => f_M_hold_l112 c3.2 x6 q.1 q.2) a_F (0, 0)).bind fun v11 =>
          some (v11, c3.2)
        else
          if p2 ≠ 2 then
            (rdx (c3.2 6) 16 ((4 * p1) + 3)).bind fun x13 =>
            some ((1 - x13), c3.2)
          else
            (rdx (c3.2 6) 16 ((4 * p1) + 1)).bind fun x14 =>
            (rdx (c3.2 6) 16 ((4 * p1) + 2)).bind fun x15 =>
            some ((x14 * x15), c3.2)
      else
        if p2 ≠ 0 then
          some ((a_rem x6 3), c3.2)
        else
          some ((x6 / 3), c3.2)
    else
      some (0, c3.2)
def f_M_least_l9 (MA : (Nat → Nat → Int32)) (v1 : Int32) (v2 : Int32) : Option ((Int32 × Int32) ⊕ (Int32)) :=
  if ((u2 MA 0 0 0) 0 27) ≤ v2 then
    some (.inr v1)
  else
    (rdx ((u2 MA 0 0 0) 6) 16 ((4 * v2) + 3)).bind fun x3 =>
    if x3 ≠ 0 then
      some (.inl (v1, (v2 + 1)))
    else
      if v1 = (-1) then
        some (.inl (v2, (v2 + 1)))
      else
        (rdx ((u2 MA 0 0 0) 6) 16 ((4 * v2) + 1)).bind fun x4 =>
        (rdx ((u2 MA 0 0 0) 6) 16 ((4 * v2) + 2)).bind fun x5 =>
        (rdx ((u2 MA 0 0 0) 6) 16 ((4 * v1) + 1)).bind fun x6 =>
        (rdx ((u2 MA 0 0 0) 6) 16 ((4 * v1) + 2)).bind fun x7 =>
        if (x6 * x7) ≤ (x4 * x5) then
          some (.inl (v1, (v2 + 1)))
        else
          some (.inl (v2, (v2 + 1)))
def f_M_least (MA : (Nat → Nat → Int32)) : Option (Int32 × (Nat → Nat → Int32)) :=
  (loopN (fun q => f_M_least_l9 MA q.1 q.2) a_F ((-1), 0)).bind fun v8 =>
  some (v8, (u2 MA 0 0 0))
def f_M_isLawful_l2 (MA : (Nat → Nat → Int32)) (w1 : (Nat → Int32)) (v1 : Int32) : Option ((Int32) ⊕ ((Unit) ⊕ (Int32))) :=
  if (MA 0 26) ≤ v1 then
    some (.inr (.inl ()))
  else
    (rdx w1 10 v1).bind fun x2 =>
    if x2 = (-1) then
      some (.inl (v1 + 1))
    else
      (rdx w1 10 v1).bind fun x3 =>
      (f_M_clashOf MA v1 x3 w1).bind fun x4 =>
      if x4 = 0 then
        some (.inl (v1 + 1))
      else
        some (.inr (.inr (zb 0)))
def f_M_isLawful (MA : (Nat → Nat → Int32)) (w1 : (Nat → Int32)) : Option (Int32) :=
  (loopN (fun q => f_M_isLawful_l2 MA w1 q) a_F 0).bind fun b4 => sumE b4 (fun _ =>
  some (zb 1)) (fun q => some q)
def f_M_stay_l2 (MA : (Nat → Nat → Int32)) (p2 : Int32) (p1 : Int32) (v1 : Int32) (MS_2 : (Nat → Nat → Int32)) : Option ((Int32 × (Nat → Nat → Int32)) ⊕ ((Nat → Nat → Int32))) :=
  if (MA 0 26) ≤ v1 then
    some (.inr MS_2)
  else
    (((
      (((
        if v1 = p2 then
          some (.inl ())
        else
          if ((a_shr p1 v1) &&& 1) ≠ 1 then
            (rdx (MA 7) 10 v1).bind fun x3 =>
            some (.inr x3)
          else
            some (.inl ())) : Option ((Unit) ⊕ (Int32)))).bind fun b4 => sumE b4 (fun _ =>
      some (-1)) (fun q => some q)) : Option (Int32))).bind fun v4 =>
    (ixx 10 v1).bind fun j5 =>
    some (.inl ((v1 + 1), (u2 MS_2 4 j5 v4)))
def f_M_stay (MA : (Nat → Nat → Int32)) (MS : (Nat → Nat → Int32)) (p1 : Int32) (p2 : Int32) : Option (Int32 × (Nat → Nat → Int32)) :=
  (loopN (fun q => f_M_stay_l2 MA p2 p1 q.1 q.2) a_F (0, MS)).bind fun MS_7 =>
  (f_M_isLawful MA (MS_7 4)).bind fun x8 =>
  some ((zb x8), MS_7)
def f_M_costOf_l14 (MA : (Nat → Nat → Int32)) (p1 : Int32) (v2 : Int32) (v3 : Int32) : Option ((Int32 × Int32) ⊕ (Int32)) :=
  if (MA 0 25) ≤ v3 then
    some (.inr v2)
  else
    (rdx (MA 5) 60 ((6 * p1) + 2)).bind fun x4 =>
    if ((a_shr x4 v3) &&& 1) ≠ 1 then
      some (.inl ((v2 + 0), (v3 + 1)))
    else
      (rdx (MA 4) 24 (3 * v3)).bind fun x5 =>
      some (.inl ((v2 + x5), (v3 + 1)))
def f_M_costOf (MA : (Nat → Nat → Int32)) (p1 : Int32) : Option (Int32) :=
  (rdx (MA 5) 60 ((6 * p1) + 1)).bind fun x1 =>
  (loopN (fun q => f_M_costOf_l14 MA p1 q.1 q.2) a_F (x1, 0)).bind fun v6 =>
  some v6
def f_M_costsOf_l4 (MA : (Nat → Nat → Int32)) (p1 : Int32) (v1 : Int32) (v2 : Int32) : Option ((Int32 × Int32) ⊕ (Int32)) :=
  if (MA 0 26) ≤ v2 then
    some (.inr v1)
  else
    if ((a_shr p1 v2) &&& 1) ≠ 1 then
      some (.inl ((v1 + 0), (v2 + 1)))
    else
      (f_M_costOf MA v2).bind fun x3 =>
      some (.inl ((v1 + x3), (v2 + 1)))
def f_M_costsOf (MA : (Nat → Nat → Int32)) (p1 : Int32) : Option (Int32) :=
  (loopN (fun q => f_M_costsOf_l4 MA p1 q.1 q.2) a_F (0, 0)).bind fun v4 =>
  some v4
def f_M_canMove_l2 (MA : (Nat → Nat → Int32)) (p1 : Int32) (v1 : Int32) : Option ((Int32) ⊕ ((Unit) ⊕ (Int32))) :=
  if (MA 0 26) ≤ v1 then
    some (.inr (.inl ()))
  else
    if ((a_shr p1 v1) &&& 1) ≠ 1 then
      some (.inl (v1 + 1))
    else
      (rdx (MA 7) 10 v1).bind fun x2 =>
      if x2 = (-1) then
        some (.inr (.inr (zb 0)))
      else
        (f_M_isFixed MA v1).bind fun x3 =>
        if x3 = 0 then
          some (.inl (v1 + 1))
        else
          some (.inr (.inr (zb 0)))
def f_M_canMove (MA : (Nat → Nat → Int32)) (p1 : Int32) : Option (Int32) :=
  (loopN (fun q => f_M_canMove_l2 MA p1 q) a_F 0).bind fun b4 => sumE b4 (fun _ =>
  some (zb 1)) (fun q => some q)
def f_M_isAsked (MA : (Nat → Nat → Int32)) (p1 : Int32) (p2 : Int32) (p3 : Int32) : Option (Int32 × (Nat → Nat → Int32)) :=
  (f_M_isMeeting MA p1 1).bind fun c1 =>
  if c1.1 = 0 then
    some ((zb 0), c1.2)
  else
    (f_M_within p2 0 ((c1.2 0 23) - 1)).bind fun x3 =>
    (((
      (((
        if x3 = 0 then
          some (.inl ())
        else
          if p3 = 0 then
            some (.inl ())
          else
            some (.inr 1)) : Option ((Unit) ⊕ (Int32)))).bind fun b5 => sumE b5 (fun _ =>
      some 0) (fun q => some q)) : Option (Int32))).bind fun v4 =>
    (f_M_may c1.2 v4 2 1).bind fun c6 =>
    if c6.1 = 0 then
      some ((zb 0), c6.2)
    else
      some ((zb 1), c6.2)
def f_M_shown (p0 : Int32) (p1 : Int32) : Option (Int32) :=
  if p1 = 0 then
    some (-1)
  else
    some ((10 * (a_rem p0 3)) + (p0 / 3))
def f_M_isRing_l16 (MA : (Nat → Nat → Int32)) (p1 : Int32) (v2 : Int32) (MS_3 : (Nat → Nat → Int32)) : Option ((Int32 × (Nat → Nat → Int32)) ⊕ ((Nat → Nat → Int32))) :=
  if p1 ≤ v2 then
    some (.inr MS_3)
  else
    (rdx (MS_3 5) 4 v2).bind fun x4 =>
    if p1 = 0 then none else
    (rdx (MS_3 5) 4 (a_rem (v2 + 1) p1)).bind fun x5 =>
    (rdx (MA 7) 10 x5).bind fun x6 =>
    (ixx 10 x4).bind fun j7 =>
    some (.inl ((v2 + 1), (u2 MS_3 4 j7 x6)))
def f_M_isRing (MA : (Nat → Nat → Int32)) (MS : (Nat → Nat → Int32)) (p1 : Int32) : Option (Int32 × (Nat → Nat → Int32)) :=
  (cpM (MA 7) 10 (MS 4) 10 10).bind fun x1 =>
  (loopN (fun q => f_M_isRing_l16 MA p1 q.1 q.2) a_F (0, (u1 MS 4 x1))).bind fun MS_9 =>
  (f_M_isLawful MA (MS_9 4)).bind fun x10 =>
  some ((zb x10), MS_9)
def f_M_canRing (MA : (Nat → Nat → Int32)) (p1 : Int32) : Option (Int32) :=
  (rdx (MA 7) 10 p1).bind fun x1 =>
  if x1 = (-1) then
    some (zb 0)
  else
    (f_M_isFixed MA p1).bind fun x2 =>
    if x2 ≠ 0 then
      some (zb 0)
    else
      some (zb 1)
def f_M_swap (MA : (Nat → Nat → Int32)) (MS : (Nat → Nat → Int32)) (p1 : Int32) (p2 : Int32) : Option (Int32 × (Nat → Nat → Int32) × (Nat → Nat → Int32)) :=
  (f_M_isMeeting (u2 MA 0 0 0) p1 1).bind fun c1 =>
  if c1.1 = 0 then
    some ((zb 0), c1.2, MS)
  else
    (f_M_isMeeting c1.2 p2 1).bind fun c2 =>
    if c2.1 = 0 then
      some ((zb 0), c2.2, MS)
    else
      (((
        if p1 = p2 then
          some 0
        else
          some 1) : Option (Int32))).bind fun v5 =>
      (f_M_may c2.2 v5 2 1).bind fun c4 =>
      if c4.1 ≠ 0 then
        (f_M_canRing c4.2 p1).bind fun x8 =>
        if x8 = 0 then
          some ((zb 0), c4.2, MS)
        else
          (f_M_canRing c4.2 p2).bind fun x9 =>
          if x9 ≠ 0 then
            (ixx 4 0).bind fun j10 =>
            (ixx 4 1).bind fun j11 =>
            (f_M_isRing c4.2 (u2 (u2 MS 5 j10 p1) 5 j11 p2) 2).bind fun c7 =>
            some ((zb c7.1), c4.2, c7.2)
          else
            some ((zb 0), c4.2, MS)
      else
        some ((zb 0), c4.2, MS)
def f_M_apartNow_l8 (MA : (Nat → Nat → Int32)) (MS_1 : (Nat → Nat → Int32)) (v2 : Int32) (v3 : Int32) : Option ((Int32 × Int32) ⊕ (Int32)) :=
  if (MA 0 26) ≤ v3 then
    some (.inr v2)
  else
    (rdx (MS_1 1) 10 v3).bind fun x4 =>
    (rdx (MA 7) 10 v3).bind fun x5 =>
    (((
      if x4 = x5 then
        some 0
      else
        some (a_shl 1 v3)) : Option (Int32))).bind fun v6 =>
    some (.inl ((v2 ||| v6), (v3 + 1)))
def f_M_apartNow (MA : (Nat → Nat → Int32)) (MS : (Nat → Nat → Int32)) : Option (Int32 × (Nat → Nat → Int32)) :=
  (f_M_findGoals MA MS).bind fun MS_1 =>
  (loopN (fun q => f_M_apartNow_l8 MA MS_1 q.1 q.2) a_F (0, 0)).bind fun v7 =>
  some (v7, MS_1)
def f_M_apart (MA : (Nat → Nat → Int32)) (MS : (Nat → Nat → Int32)) : Option (Int32 × (Nat → Nat → Int32) × (Nat → Nat → Int32)) :=
  (f_M_apartNow (u2 MA 0 0 0) MS).bind fun c1 =>
  some (c1.1, (u2 MA 0 0 0), c1.2)
def f_M_once (MA : (Nat → Nat → Int32)) (MS : (Nat → Nat → Int32)) : Option (Int32 × (Nat → Nat → Int32) × (Nat → Nat → Int32)) :=
  (f_M_findGoals (u2 MA 0 0 0) MS).bind fun MS_1 =>
  (f_M_isLawful (u2 MA 0 0 0) (MS_1 1)).bind fun x2 =>
  some ((zb x2), (u2 MA 0 0 0), MS_1)
def f_M_goneBy_l2 (MA : (Nat → Nat → Int32)) (p1 : Int32) (v1 : Int32) (MS_2 : (Nat → Nat → Int32)) : Option ((Int32 × (Nat → Nat → Int32)) ⊕ ((Nat → Nat → Int32))) :=
  if 10 ≤ v1 then
    some (.inr MS_2)
  else
    (((
      if ((a_shr p1 v1) &&& 1) ≠ 1 then
        (rdx (MA 7) 10 v1).bind fun x3 =>
        some x3
      else
        (rdx (MS_2 1) 10 v1).bind fun x4 =>
        some x4) : Option (Int32))).bind fun v5 =>
    (ixx 10 v1).bind fun j6 =>
    some (.inl ((v1 + 1), (u2 MS_2 4 j6 v5)))
def f_M_goneBy (MA : (Nat → Nat → Int32)) (MS : (Nat → Nat → Int32)) (p1 : Int32) : Option ((Nat → Nat → Int32)) :=
  (loopN (fun q => f_M_goneBy_l2 MA p1 q.1 q.2) a_F (0, MS)).bind fun MS_8 =>
  some MS_8
def f_M_canGo (MA : (Nat → Nat → Int32)) (MS : (Nat → Nat → Int32)) (p1 : Int32) (p2 : Int32) (p3 : Int32) : Option (Int32 × (Nat → Nat → Int32)) :=
  if ((a_shr p3 p1) &&& 1) = 0 then
    some ((zb 0), MS)
  else
    if ((a_shr p2 p1) &&& 1) = 1 then
      some ((zb 0), MS)
    else
      (f_M_isFixed MA p1).bind fun x1 =>
      if x1 = 0 then
        (f_M_goneBy MA MS (p2 ||| (a_shl 1 p1))).bind fun MS_2 =>
        (f_M_isLawful MA (MS_2 4)).bind fun x3 =>
        some ((zb x3), MS_2)
      else
        some ((zb 0), MS)
def f_M_begin_l14 (MA : (Nat → Nat → Int32)) (x1 : Int32) (v3 : Int32) (v4 : Int32) (MS_5 : (Nat → Nat → Int32)) : Option ((Int32 × Int32 × (Nat → Nat → Int32)) ⊕ (Int32 × (Nat → Nat → Int32))) :=
  if ((u2 MA 0 0 0) 0 26) ≤ v4 then
    some (.inr (v3, MS_5))
  else
    (f_M_canGo (u2 MA 0 0 0) MS_5 v4 0 x1).bind fun c3 =>
    (((
      if c3.1 = 0 then
        some 0
      else
        some (a_shl 1 v4)) : Option (Int32))).bind fun v8 =>
    some (.inl ((v3 ||| v8), (v4 + 1), c3.2))
def f_M_begin (MA : (Nat → Nat → Int32)) (MS : (Nat → Nat → Int32)) : Option (Int32 × (Nat → Nat → Int32) × (Nat → Nat → Int32)) :=
  (f_M_apartNow (u2 MA 0 0 0) MS).bind fun c1 =>
  (loopN (fun q => f_M_begin_l14 MA c1.1 q.1 q.2.1 q.2.2) a_F (0, 0, c1.2)).bind fun p5_ =>
  some (p5_.1, (u2 MA 0 0 0), p5_.2)
def f_M_waits_l36 (MA_2 : (Nat → Nat → Int32)) (x3 : Int32) (MS_4 : (Nat → Nat → Int32)) (p1 : Int32) (v5 : Int32) (v6 : Int32) : Option ((Int32 × Int32) ⊕ (Int32)) :=
  if (MA_2 0 26) ≤ v6 then
    some (.inr v5)
  else
    (((
      (((
        if ((a_shr x3 v6) &&& 1) ≠ 1 then
          some (.inl ())
        else
          (rdx (MS_4 1) 10 p1).bind fun x7 =>
          (rdx (MA_2 7) 10 v6).bind fun x8 =>
          (f_M_clashWith MA_2 p1 x7 v6 x8).bind fun x9 =>
          if x9 = 0 then
            some (.inl ())
          else
            some (.inr (a_shl 1 v6))) : Option ((Unit) ⊕ (Int32)))).bind fun b7 => sumE b7 (fun _ =>
      some 0) (fun q => some q)) : Option (Int32))).bind fun v10 =>
    some (.inl ((v5 ||| v10), (v6 + 1)))
def f_M_waits (MA : (Nat → Nat → Int32)) (MS : (Nat → Nat → Int32)) (p1 : Int32) : Option (Int32 × (Nat → Nat → Int32) × (Nat → Nat → Int32)) :=
  (f_M_isMeeting (u2 MA 0 0 0) p1 1).bind fun c1 =>
  if c1.1 ≠ 0 then
    (f_M_apartNow c1.2 MS).bind fun c2 =>
    if ((a_shr c2.1 p1) &&& 1) ≠ 0 then
      (loopN (fun q => f_M_waits_l36 c1.2 c2.1 c2.2 p1 q.1 q.2) a_F (0, 0)).bind fun v11 =>
      some (v11, c1.2, c2.2)
    else
      some (0, c1.2, c2.2)
  else
    some (0, c1.2, MS)
def f_M_knot_l34 (MA : (Nat → Nat → Int32)) (v9 : Int32) (v10 : Int32) (v11 : Int32) (MS_13 : (Nat → Nat → Int32)) : Option ((Int32 × Int32 × Int32 × (Nat → Nat → Int32)) ⊕ (Int32 × Int32 × (Nat → Nat → Int32))) :=
  if ((u2 MA 0 0 0) 0 26) ≤ v11 then
    some (.inr (v9, v10, MS_13))
  else
    if ((a_shr v9 v11) &&& 1) = 0 then
      some (.inl (v9, v10, (v11 + 1), MS_13))
    else
      (f_M_isFixed (u2 MA 0 0 0) v11).bind fun x14 =>
      if x14 = 0 then
        (rdx (MS_13 4) 10 v11).bind fun x15 =>
        (rdx (MS_13 1) 10 v11).bind fun x16 =>
        (ixx 10 v11).bind fun j17 =>
        (f_M_isLawful (u2 MA 0 0 0) ((u2 MS_13 4 j17 x16) 4)).bind fun x18 =>
        if x18 ≠ 0 then
          some (.inl ((v9 &&& ((a_shl 1 v11) ^^^ (-1))), 1, (v11 + 1), (u2 MS_13 4 j17 x16)))
        else
          (ixx 10 v11).bind fun j19 =>
          some (.inl (v9, v10, (v11 + 1), (u2 (u2 MS_13 4 j17 x16) 4 j19 x15)))
      else
        some (.inl (v9, v10, (v11 + 1), MS_13))
def f_M_knot_l26 (MA : (Nat → Nat → Int32)) (v4 : Int32) (v5 : Int32) (MS_8 : (Nat → Nat → Int32)) : Option ((Int32 × Int32 × (Nat → Nat → Int32)) ⊕ (Int32 × (Nat → Nat → Int32))) :=
  if v5 = 0 then
    some (.inr (v4, MS_8))
  else
    (loopN (fun q => f_M_knot_l34 MA q.1 q.2.1 q.2.2.1 q.2.2.2) a_F (v4, 0, 0, MS_8)).bind fun p6_ =>
    some (.inl (p6_.1, p6_.2.1, p6_.2.2))
def f_M_knot (MA : (Nat → Nat → Int32)) (MS : (Nat → Nat → Int32)) : Option (Int32 × (Nat → Nat → Int32) × (Nat → Nat → Int32)) :=
  (f_M_apartNow (u2 MA 0 0 0) MS).bind fun c1 =>
  (cpM ((u2 MA 0 0 0) 7) 10 (c1.2 4) 10 10).bind fun x3 =>
  (loopN (fun q => f_M_knot_l26 MA q.1 q.2.1 q.2.2) a_F (c1.1, 1, (u1 c1.2 4 x3))).bind fun p7_ =>
  some (p7_.1, (u2 MA 0 0 0), p7_.2)
def f_M_missed_l68 (MA : (Nat → Nat → Int32)) (x7 : Int32) (p1 : Int32) (x8 : Int32) (v11 : Int32) (v12 : Int32) : Option ((Int32 × Int32) ⊕ (Int32)) :=
  if (MA 0 25) ≤ v12 then
    some (.inr v11)
  else
    (rdx (MA 5) 60 ((6 * x7) + 2)).bind fun x13 =>
    (((
      (((
        if ((a_shr x13 v12) &&& 1) ≠ 1 then
          some (.inl ())
        else
          (rdx (MA 4) 24 ((3 * v12) + 1)).bind fun x14 =>
          if (p1 + x14) ≤ (x8 / 3) then
            some (.inl ())
          else
            some (.inr (a_shl 1 v12))) : Option ((Unit) ⊕ (Int32)))).bind fun b7 => sumE b7 (fun _ =>
      some 0) (fun q => some q)) : Option (Int32))).bind fun v15 =>
    some (.inl ((v11 ||| v15), (v12 + 1)))
def f_M_missed_l8 (MA : (Nat → Nat → Int32)) (MS_1 : (Nat → Nat → Int32)) (p1 : Int32) (v2 : Int32) (v3 : Int32) : Option ((Int32 × Int32) ⊕ (Int32)) :=
  if (MA 0 33) ≤ v3 then
    some (.inr v2)
  else
    (rdx (MA 9) 20 (2 * v3)).bind fun x7 =>
    (rdx (MS_1 1) 10 x7).bind fun x8 =>
    (rdx (MA 7) 10 x7).bind fun x9 =>
    (((
      if x9 = (-1) then
        some (.inl ())
      else
        (rdx (MA 7) 10 x7).bind fun x10 =>
        if (x10 / 3) ≠ (x8 / 3) then
          some (.inl ())
        else
          some (.inr (.inl (v2, (v3 + 1))))) : Option ((Unit) ⊕ ((Int32 × Int32) ⊕ (Int32))))).bind fun b9 => sumE b9 (fun _ =>
    (loopN (fun q => f_M_missed_l68 MA x7 p1 x8 q.1 q.2) a_F (v2, 0)).bind fun v16 =>
    some (.inl (v16, (v3 + 1)))) (fun q => some q)
def f_M_missed (MA : (Nat → Nat → Int32)) (MS : (Nat → Nat → Int32)) (p1 : Int32) : Option (Int32 × (Nat → Nat → Int32)) :=
  (f_M_findGoals MA MS).bind fun MS_1 =>
  (loopN (fun q => f_M_missed_l8 MA MS_1 p1 q.1 q.2) a_F (0, 0)).bind fun v18 =>
  some (v18, MS_1)
def f_M_news (MA : (Nat → Nat → Int32)) (MS : (Nat → Nat → Int32)) (p1 : Int32) (p2 : Int32) : Option (Int32 × (Nat → Nat → Int32) × (Nat → Nat → Int32)) :=
  (f_M_within p1 0 (((u2 MA 0 0 0) 0 23) - 1)).bind fun x1 =>
  (((
    (((
      if x1 = 0 then
        some (.inl ())
      else
        (f_M_within p2 0 1).bind fun x2 =>
        if x2 = 0 then
          some (.inl ())
        else
          some (.inr 1)) : Option ((Unit) ⊕ (Int32)))).bind fun b5 => sumE b5 (fun _ =>
    some 0) (fun q => some q)) : Option (Int32))).bind fun v3 =>
  (f_M_may (u2 MA 0 0 0) v3 1 1).bind fun c6 =>
  if c6.1 ≠ 0 then
    if p2 ≠ 0 then
      (f_M_missed c6.2 MS p1).bind fun c7 =>
      some (c7.1, c6.2, c7.2)
    else
      (f_M_missed c6.2 MS p1).bind fun c8 =>
      (f_M_ones c8.1).bind fun x10 =>
      some (x10, c6.2, c8.2)
  else
    some (0, c6.2, MS)
def f_M_latest_l12 (MA : (Nat → Nat → Int32)) (v1 : Int32) (MS_2 : (Nat → Nat → Int32)) : Option ((Int32 × (Nat → Nat → Int32)) ⊕ (((Nat → Nat → Int32)) ⊕ (Int32 × (Nat → Nat → Int32) × (Nat → Nat → Int32)))) :=
  if v1 < 0 then
    some (.inr (.inl MS_2))
  else
    (f_M_missed (u2 MA 0 0 0) MS_2 v1).bind fun c2 =>
    if c2.1 ≠ 0 then
      some (.inl ((v1 + (-1)), c2.2))
    else
      some (.inr (.inr (v1, (u2 MA 0 0 0), c2.2)))
def f_M_latest (MA : (Nat → Nat → Int32)) (MS : (Nat → Nat → Int32)) : Option (Int32 × (Nat → Nat → Int32) × (Nat → Nat → Int32)) :=
  (loopN (fun q => f_M_latest_l12 MA q.1 q.2) a_F ((((u2 MA 0 0 0) 0 23) - 1), MS)).bind fun b4 => sumE b4 (fun MS_6 =>
  some ((-1), (u2 MA 0 0 0), MS_6)) (fun q => some q)
def f_M_follow_l39 (MA : (Nat → Nat → Int32)) (x1 : Int32) (v4 : Int32) (v5 : Int32) : Option ((Int32 × Int32) ⊕ (Int32)) :=
  if ((u2 MA 0 0 0) 0 26) ≤ v5 then
    some (.inr v4)
  else
    if v4 = 0 then
      some (.inl (0, (v5 + 1)))
    else
      (((
        if ((a_shr x1 v5) &&& 1) = 0 then
          some (.inl ())
        else
          (f_M_isFixed (u2 MA 0 0 0) v5).bind fun x6 =>
          if x6 ≠ 0 then
            some (.inr (.inl (0, (v5 + 1))))
          else
            some (.inl ())) : Option ((Unit) ⊕ ((Int32 × Int32) ⊕ (Int32))))).bind fun b6 => sumE b6 (fun _ =>
      some (.inl (1, (v5 + 1)))) (fun q => some q)
def f_M_follow_l91 (x1 : Int32) (MS_2 : (Nat → Nat → Int32)) (v10 : Int32) (MA_11 : (Nat → Nat → Int32)) : Option ((Int32 × (Nat → Nat → Int32)) ⊕ ((Nat → Nat → Int32))) :=
  if (MA_11 0 26) ≤ v10 then
    some (.inr MA_11)
  else
    if ((a_shr x1 v10) &&& 1) ≠ 1 then
      some (.inl ((v10 + 1), MA_11))
    else
      (rdx (MS_2 1) 10 v10).bind fun x12 =>
      (f_M_goesTo MA_11 v10 x12).bind fun MA_13 =>
      some (.inl ((v10 + 1), MA_13))
def f_M_follow (MA : (Nat → Nat → Int32)) (MS : (Nat → Nat → Int32)) : Option (Int32 × (Nat → Nat → Int32) × (Nat → Nat → Int32)) :=
  (f_M_apartNow (u2 MA 0 0 0) MS).bind fun c1 =>
  if c1.1 ≠ 0 then
    if ((u2 MA 0 0 0) 0 43) ≠ 30 then
      (f_M_isLawful (u2 MA 0 0 0) (c1.2 1)).bind fun x3 =>
      (loopN (fun q => f_M_follow_l39 MA c1.1 q.1 q.2) a_F (x3, 0)).bind fun v7 =>
      if v7 ≠ 0 then
        (f_M_keepsAct (u2 MA 0 0 0)).bind fun MA_9 =>
        (loopN (fun q => f_M_follow_l91 c1.1 c1.2 q.1 q.2) a_F (0, MA_9)).bind fun MA_15 =>
        (f_M_ones c1.1).bind fun x16 =>
        some (x16, MA_15, c1.2)
      else
        some ((-1), (u2 MA 0 0 0), c1.2)
    else
      some ((-64), (u2 MA 0 0 0), c1.2)
  else
    some (0, (u2 MA 0 0 0), c1.2)
def f_M_pair_l58 (MA_7 : (Nat → Nat → Int32)) (p1 : Int32) (p2 : Int32) (v8 : Int32) (v9 : Int32) : Option ((Int32 × Int32) ⊕ (Int32)) :=
  if (MA_7 0 26) ≤ v9 then
    some (.inr v8)
  else
    (rdx (MA_7 7) 10 v9).bind fun x10 =>
    (((
      if x10 = (-1) then
        some (.inl ())
      else
        (rdx (MA_7 5) 60 ((6 * v9) + 2)).bind fun x11 =>
        if (x11 &&& ((a_shl 1 p1) ||| (a_shl 1 p2))) ≠ ((a_shl 1 p1) ||| (a_shl 1 p2)) then
          some (.inl ())
        else
          some (.inr (.inl ((v8 + 1), (v9 + 1))))) : Option ((Unit) ⊕ ((Int32 × Int32) ⊕ (Int32))))).bind fun b7 => sumE b7 (fun _ =>
    some (.inl ((v8 + 0), (v9 + 1)))) (fun q => some q)
def f_M_pair (MA : (Nat → Nat → Int32)) (p1 : Int32) (p2 : Int32) : Option (Int32 × (Nat → Nat → Int32)) :=
  (f_M_isPerson (u2 MA 0 0 0) p1 1).bind fun c1 =>
  if c1.1 = 0 then
    some (0, c1.2)
  else
    (f_M_isPerson c1.2 p2 1).bind fun c2 =>
    if c2.1 = 0 then
      some (0, c2.2)
    else
      (((
        if p1 = p2 then
          some 0
        else
          some 1) : Option (Int32))).bind fun v5 =>
      (f_M_may c2.2 v5 2 1).bind fun c4 =>
      if c4.1 ≠ 0 then
        (loopN (fun q => f_M_pair_l58 c4.2 p1 p2 q.1 q.2) a_F (0, 0)).bind fun v12 =>
        some (v12, c4.2)
      else
        some (0, c4.2)
def f_M_isEnough_l2 (MS : (Nat → Nat → Int32)) (v1 : Int32) : Option ((Int32) ⊕ ((Unit) ⊕ (Int32))) :=
  if 8 ≤ v1 then
    some (.inr (.inl ()))
  else
    (rdx (MS 7) 8 v1).bind fun x2 =>
    (rdx (MS 8) 8 v1).bind fun x3 =>
    if x2 = x3 then
      some (.inl (v1 + 1))
    else
      some (.inr (.inr (zb 0)))
def f_M_isEnough (MS : (Nat → Nat → Int32)) : Option (Int32) :=
  (loopN (fun q => f_M_isEnough_l2 MS q) a_F 0).bind fun b3 => sumE b3 (fun _ =>
  some (zb 1)) (fun q => some q)
def f_M_findMeets_l15 (MA : (Nat → Nat → Int32)) (v1 : Int32) (p1 : Int32) (v5 : Int32) (MS_6 : (Nat → Nat → Int32)) : Option ((Int32 × (Nat → Nat → Int32)) ⊕ ((Nat → Nat → Int32))) :=
  if (MA 0 26) ≤ v5 then
    some (.inr MS_6)
  else
    (rdx (MS_6 7) 8 v1).bind fun x7 =>
    (rdx (MA 7) 10 v5).bind fun x8 =>
    (((
      (((
        if x8 = (-1) then
          some (.inl ())
        else
          if ((a_shr p1 v5) &&& 1) ≠ 0 then
            some (.inl ())
          else
            (rdx (MA 5) 60 ((6 * v5) + 2)).bind fun x9 =>
            if ((a_shr x9 v1) &&& 1) ≠ 1 then
              some (.inl ())
            else
              (rdx (MA 5) 60 ((6 * v5) + 2)).bind fun x10 =>
              some (.inr (x10 &&& ((a_shl 1 v1) ^^^ (-1))))) : Option ((Unit) ⊕ (Int32)))).bind fun b5 => sumE b5 (fun _ =>
      some 0) (fun q => some q)) : Option (Int32))).bind fun v11 =>
    (ixx 8 v1).bind fun j12 =>
    some (.inl ((v5 + 1), (u2 MS_6 7 j12 (x7 ||| v11))))
def f_M_findMeets_l2 (MA : (Nat → Nat → Int32)) (p1 : Int32) (v1 : Int32) (MS_3 : (Nat → Nat → Int32)) : Option ((Int32 × (Nat → Nat → Int32)) ⊕ ((Nat → Nat → Int32))) :=
  if 8 ≤ v1 then
    some (.inr MS_3)
  else
    (ixx 8 v1).bind fun j4 =>
    (loopN (fun q => f_M_findMeets_l15 MA v1 p1 q.1 q.2) a_F (0, (u2 MS_3 7 j4 0))).bind fun MS_14 =>
    some (.inl ((v1 + 1), MS_14))
def f_M_findMeets (MA : (Nat → Nat → Int32)) (MS : (Nat → Nat → Int32)) (p1 : Int32) : Option ((Nat → Nat → Int32)) :=
  (loopN (fun q => f_M_findMeets_l2 MA p1 q.1 q.2) a_F (0, MS)).bind fun MS_17 =>
  some MS_17
def f_M_findMeets_2_l15 (MA : (Nat → Nat → Int32)) (v1 : Int32) (p1 : Int32) (v5 : Int32) (MS_6 : (Nat → Nat → Int32)) : Option ((Int32 × (Nat → Nat → Int32)) ⊕ ((Nat → Nat → Int32))) :=
  if (MA 0 26) ≤ v5 then
    some (.inr MS_6)
  else
    (rdx (MS_6 8) 8 v1).bind fun x7 =>
    (rdx (MA 7) 10 v5).bind fun x8 =>
    (((
      (((
        if x8 = (-1) then
          some (.inl ())
        else
          if ((a_shr p1 v5) &&& 1) ≠ 0 then
            some (.inl ())
          else
            (rdx (MA 5) 60 ((6 * v5) + 2)).bind fun x9 =>
            if ((a_shr x9 v1) &&& 1) ≠ 1 then
              some (.inl ())
            else
              (rdx (MA 5) 60 ((6 * v5) + 2)).bind fun x10 =>
              some (.inr (x10 &&& ((a_shl 1 v1) ^^^ (-1))))) : Option ((Unit) ⊕ (Int32)))).bind fun b5 => sumE b5 (fun _ =>
      some 0) (fun q => some q)) : Option (Int32))).bind fun v11 =>
    (ixx 8 v1).bind fun j12 =>
    some (.inl ((v5 + 1), (u2 MS_6 8 j12 (x7 ||| v11))))
def f_M_findMeets_2_l2 (MA : (Nat → Nat → Int32)) (p1 : Int32) (v1 : Int32) (MS_3 : (Nat → Nat → Int32)) : Option ((Int32 × (Nat → Nat → Int32)) ⊕ ((Nat → Nat → Int32))) :=
  if 8 ≤ v1 then
    some (.inr MS_3)
  else
    (ixx 8 v1).bind fun j4 =>
    (loopN (fun q => f_M_findMeets_2_l15 MA v1 p1 q.1 q.2) a_F (0, (u2 MS_3 8 j4 0))).bind fun MS_14 =>
    some (.inl ((v1 + 1), MS_14))
def f_M_findMeets_2 (MA : (Nat → Nat → Int32)) (MS : (Nat → Nat → Int32)) (p1 : Int32) : Option ((Nat → Nat → Int32)) :=
  (loopN (fun q => f_M_findMeets_2_l2 MA p1 q.1 q.2) a_F (0, MS)).bind fun MS_17 =>
  some MS_17
def f_M_drops_l18 (MA : (Nat → Nat → Int32)) (v2 : Int32) (v3 : Int32) (MS_4 : (Nat → Nat → Int32)) : Option ((Int32 × Int32 × (Nat → Nat → Int32)) ⊕ (Int32 × (Nat → Nat → Int32))) :=
  if (a_shl 1 ((u2 MA 0 0 0) 0 26)) ≤ v3 then
    some (.inr (v2, MS_4))
  else
    (f_M_ones v3).bind fun x5 =>
    (f_M_ones v2).bind fun x6 =>
    if x5 ≤ x6 then
      some (.inl (v2, (v3 + 1), MS_4))
    else
      (f_M_canMove (u2 MA 0 0 0) v3).bind fun x7 =>
      if x7 ≠ 0 then
        (f_M_findMeets_2 (u2 MA 0 0 0) MS_4 v3).bind fun MS_8 =>
        (f_M_isEnough MS_8).bind fun x9 =>
        if x9 = 0 then
          some (.inl (v2, (v3 + 1), MS_8))
        else
          some (.inl (v3, (v3 + 1), MS_8))
      else
        some (.inl (v2, (v3 + 1), MS_4))
def f_M_drops (MA : (Nat → Nat → Int32)) (MS : (Nat → Nat → Int32)) : Option (Int32 × (Nat → Nat → Int32) × (Nat → Nat → Int32)) :=
  (f_M_findMeets (u2 MA 0 0 0) MS 0).bind fun MS_1 =>
  (loopN (fun q => f_M_drops_l18 MA q.1 q.2.1 q.2.2) a_F (0, 1, MS_1)).bind fun p8_ =>
  some (p8_.1, (u2 MA 0 0 0), p8_.2)
def f_M_gapOf_l11 (MA : (Nat → Nat → Int32)) (p1 : Int32) (v1 : Int32) (v2 : Int32) : Option ((Int32 × Int32) ⊕ (Int32)) :=
  if (MA 0 25) ≤ v2 then
    some (.inr v1)
  else
    (((
      if ((a_shr p1 v2) &&& 1) ≠ 1 then
        some (-1)
      else
        (rdx (MA 4) 24 ((3 * v2) + 2)).bind fun x3 =>
        some (x3 ^^^ (-1))) : Option (Int32))).bind fun v4 =>
    some (.inl ((v1 &&& v4), (v2 + 1)))
def f_M_gapOf_l55 (MA : (Nat → Nat → Int32)) (p1 : Int32) (v7 : Int32) (v8 : Int32) : Option ((Int32 × Int32) ⊕ (Int32)) :=
  if (MA 0 26) ≤ v8 then
    some (.inr v7)
  else
    (rdx (MA 7) 10 v8).bind fun x9 =>
    if x9 = (-1) then
      some (.inl (v7, (v8 + 1)))
    else
      (rdx (MA 5) 60 ((6 * v8) + 2)).bind fun x10 =>
      if (x10 &&& p1) = 0 then
        some (.inl (v7, (v8 + 1)))
      else
        (rdx (MA 7) 10 v8).bind fun x11 =>
        some (.inl ((v7 &&& ((a_shl 1 (x11 / 3)) ^^^ (-1))), (v8 + 1)))
def f_M_gapOf (MA : (Nat → Nat → Int32)) (p1 : Int32) : Option (Int32) :=
  (loopN (fun q => f_M_gapOf_l11 MA p1 q.1 q.2) a_F (((a_shl 1 (MA 0 23)) - 1), 0)).bind fun v5 =>
  (loopN (fun q => f_M_gapOf_l55 MA p1 q.1 q.2) a_F (v5, 0)).bind fun v12 =>
  some v12
def f_M_arePeople (MA : (Nat → Nat → Int32)) (p1 : Int32) (p2 : Int32) : Option (Int32 × (Nat → Nat → Int32)) :=
  (f_M_within p1 0 ((a_shl 1 (MA 0 25)) - 1)).bind fun x1 =>
  (((
    (((
      if x1 = 0 then
        some (.inl ())
      else
        if p2 = 0 then
          some (.inl ())
        else
          some (.inr 1)) : Option ((Unit) ⊕ (Int32)))).bind fun b4 => sumE b4 (fun _ =>
    some 0) (fun q => some q)) : Option (Int32))).bind fun v2 =>
  (f_M_may MA v2 1 1).bind fun c5 =>
  some ((zb c5.1), c5.2)
def f_M_gap (MA : (Nat → Nat → Int32)) (p1 : Int32) : Option (Int32 × (Nat → Nat → Int32)) :=
  (f_M_arePeople (u2 MA 0 0 0) p1 1).bind fun c1 =>
  if c1.1 ≠ 0 then
    (f_M_gapOf c1.2 p1).bind fun x3 =>
    some (x3, c1.2)
  else
    some (0, c1.2)
def f_M_together_l38 (MA_3 : (Nat → Nat → Int32)) (p2 : Int32) (x4 : Int32) (v5 : Int32) : Option ((Int32) ⊕ ((Unit) ⊕ (Int32 × (Nat → Nat → Int32)))) :=
  if (MA_3 0 23) < (v5 + p2) then
    some (.inr (.inl ()))
  else
    if ((a_shr x4 v5) &&& ((a_shl 1 p2) - 1)) ≠ ((a_shl 1 p2) - 1) then
      some (.inl (v5 + 1))
    else
      some (.inr (.inr (v5, MA_3)))
def f_M_together (MA : (Nat → Nat → Int32)) (p1 : Int32) (p2 : Int32) : Option (Int32 × (Nat → Nat → Int32)) :=
  (f_M_within p2 1 10).bind fun x1 =>
  (f_M_arePeople (u2 MA 0 0 0) p1 x1).bind fun c2 =>
  if c2.1 ≠ 0 then
    (f_M_gapOf c2.2 p1).bind fun x4 =>
    (loopN (fun q => f_M_together_l38 c2.2 p2 x4 q) a_F 0).bind fun b6 => sumE b6 (fun _ =>
    some ((-1), c2.2)) (fun q => some q)
  else
    some (0, c2.2)
def f_M_fair_l29 (MA_3 : (Nat → Nat → Int32)) (v4 : Int32) (v5 : Int32) (v6 : Int32) : Option ((Int32 × Int32 × Int32) ⊕ (Int32 × Int32)) :=
  if (MA_3 0 25) ≤ v6 then
    some (.inr (v4, v5))
  else
    (((
      (((
        if v6 = 0 then
          some (.inl ())
        else
          (f_M_bornBy MA_3 v6).bind fun x7 =>
          if v5 ≤ x7 then
            some (.inr v5)
          else
            some (.inl ())) : Option ((Unit) ⊕ (Int32)))).bind fun b8 => sumE b8 (fun _ =>
      (f_M_bornBy MA_3 v6).bind fun x8 =>
      some x8) (fun q => some q)) : Option (Int32))).bind fun v9 =>
    if v4 = (-1) then
      some (.inl (v6, v9, (v6 + 1)))
    else
      (f_M_bornBy MA_3 v6).bind fun x10 =>
      (f_M_bornBy MA_3 v4).bind fun x11 =>
      if x10 ≤ x11 then
        some (.inl (v4, v9, (v6 + 1)))
      else
        some (.inl (v6, v9, (v6 + 1)))
def f_M_fair (MA : (Nat → Nat → Int32)) (p1 : Int32) : Option (Int32 × (Nat → Nat → Int32)) :=
  (f_M_within p1 0 1).bind fun x1 =>
  (f_M_may (u2 MA 0 0 0) x1 1 1).bind fun c2 =>
  if c2.1 ≠ 0 then
    (loopN (fun q => f_M_fair_l29 c2.2 q.1 q.2.1 q.2.2) a_F ((-1), 0, 0)).bind fun p11_ =>
    if p1 ≠ 1 then
      if p11_.1 ≠ (-1) then
        (f_M_bornBy c2.2 p11_.1).bind fun x15 =>
        some ((x15 - p11_.2), c2.2)
      else
        some (0, c2.2)
    else
      some (p11_.1, c2.2)
  else
    some (0, c2.2)
def f_M_yields (MA : (Nat → Nat → Int32)) (MS : (Nat → Nat → Int32)) (p1 : Int32) (p2 : Int32) : Option (Int32 × (Nat → Nat → Int32) × (Nat → Nat → Int32)) :=
  (f_M_isMeeting (u2 MA 0 0 0) p1 1).bind fun c1 =>
  if c1.1 = 0 then
    some ((zb 0), c1.2, MS)
  else
    (f_M_isMeeting c1.2 p2 1).bind fun c2 =>
    if c2.1 = 0 then
      some ((zb 0), c2.2, MS)
    else
      (((
        (((
          if p1 = p2 then
            some (.inl ())
          else
            (rdx (c2.2 7) 10 p1).bind fun x5 =>
            if x5 = (-1) then
              some (.inl ())
            else
              some (.inr 1)) : Option ((Unit) ⊕ (Int32)))).bind fun b5 => sumE b5 (fun _ =>
        some 0) (fun q => some q)) : Option (Int32))).bind fun v6 =>
      (f_M_may c2.2 v6 2 1).bind fun c6 =>
      if c6.1 ≠ 0 then
        (rdx (c6.2 7) 10 p1).bind fun x9 =>
        (f_M_yieldsTo c6.2 MS p1 p2 x9 0).bind fun c7 =>
        some ((zb c7.1), c6.2, c7.2)
      else
        some ((zb 0), c6.2, MS)
def f_M_inWay_l5 (MA : (Nat → Nat → Int32)) (MS : (Nat → Nat → Int32)) (p1 : Int32) (p2 : Int32) (v1 : Int32) (v2 : Int32) : Option ((Int32 × Int32) ⊕ (Int32)) :=
  if (MA 0 26) ≤ v2 then
    some (.inr v1)
  else
    (rdx (MS 4) 10 v2).bind fun x3 =>
    (f_M_clashWith MA p1 p2 v2 x3).bind fun x4 =>
    (((
      if x4 = 0 then
        some 0
      else
        some (a_shl 1 v2)) : Option (Int32))).bind fun v5 =>
    some (.inl ((v1 ||| v5), (v2 + 1)))
def f_M_inWay (MA : (Nat → Nat → Int32)) (MS : (Nat → Nat → Int32)) (p1 : Int32) (p2 : Int32) : Option (Int32) :=
  (loopN (fun q => f_M_inWay_l5 MA MS p1 p2 q.1 q.2) a_F (0, 0)).bind fun v6 =>
  some v6
def f_M_areFree_l2 (MA : (Nat → Nat → Int32)) (p1 : Int32) (v1 : Int32) : Option ((Int32) ⊕ ((Unit) ⊕ (Int32))) :=
  if (MA 0 26) ≤ v1 then
    some (.inr (.inl ()))
  else
    if ((a_shr p1 v1) &&& 1) ≠ 1 then
      some (.inl (v1 + 1))
    else
      (f_M_isFixed MA v1).bind fun x2 =>
      if x2 = 0 then
        some (.inl (v1 + 1))
      else
        some (.inr (.inr (zb 0)))
def f_M_areFree (MA : (Nat → Nat → Int32)) (p1 : Int32) : Option (Int32) :=
  (loopN (fun q => f_M_areFree_l2 MA p1 q) a_F 0).bind fun b4 => sumE b4 (fun _ =>
  some (zb 1)) (fun q => some q)
def f_M_takes_l10 (MA : (Nat → Nat → Int32)) (x1 : Int32) (v2 : Int32) (MS_3 : (Nat → Nat → Int32)) : Option ((Int32 × (Nat → Nat → Int32)) ⊕ ((Nat → Nat → Int32))) :=
  if (MA 0 26) ≤ v2 then
    some (.inr MS_3)
  else
    if ((a_shr x1 v2) &&& 1) ≠ 0 then
      (ixx 10 v2).bind fun j4 =>
      (ixx 1100 ((u2 MS_3 4 j4 (-1)) 0 57)).bind fun j5 =>
      some (.inl ((v2 + 1), (u2 (u2 (u2 MS_3 4 j4 (-1)) 9 j5 v2) 0 57 (((u2 (u2 MS_3 4 j4 (-1)) 9 j5 v2) 0 57) + 1))))
    else
      some (.inl ((v2 + 1), MS_3))
def f_M_takes (MA : (Nat → Nat → Int32)) (MS : (Nat → Nat → Int32)) (p1 : Int32) (p2 : Int32) : Option ((Nat → Nat → Int32)) :=
  (f_M_inWay MA MS p1 p2).bind fun x1 =>
  (loopN (fun q => f_M_takes_l10 MA x1 q.1 q.2) a_F (0, MS)).bind fun MS_7 =>
  (ixx 10 p1).bind fun j8 =>
  some (u2 MS_7 4 j8 p2)
def f_M_allYield_l3 (MA : (Nat → Nat → Int32)) (p1 : Int32) (p2 : Int32) (p3 : Int32) (v1 : Int32) (MS_2 : (Nat → Nat → Int32)) : Option ((Int32 × (Nat → Nat → Int32)) ⊕ (((Nat → Nat → Int32)) ⊕ (Int32 × (Nat → Nat → Int32)))) :=
  if (MA 0 26) ≤ v1 then
    some (.inr (.inl MS_2))
  else
    if ((a_shr p1 v1) &&& 1) ≠ 1 then
      some (.inl ((v1 + 1), MS_2))
    else
      (f_M_yieldsTo MA MS_2 v1 p2 p3 (MS_2 0 58)).bind fun c2 =>
      if c2.1 ≠ 0 then
        some (.inl ((v1 + 1), c2.2))
      else
        some (.inr (.inr ((zb 0), c2.2)))
def f_M_allYield (MA : (Nat → Nat → Int32)) (MS : (Nat → Nat → Int32)) (p1 : Int32) (p2 : Int32) (p3 : Int32) : Option (Int32 × (Nat → Nat → Int32)) :=
  (loopN (fun q => f_M_allYield_l3 MA p1 p2 p3 q.1 q.2) a_F (0, MS)).bind fun b4 => sumE b4 (fun MS_6 =>
  some ((zb 1), MS_6)) (fun q => some q)
def f_M_looks_l2 (MA : (Nat → Nat → Int32)) (p1 : Int32) (v1 : Int32) (MS_2 : (Nat → Nat → Int32)) : Option ((Int32 × (Nat → Nat → Int32)) ⊕ (((Nat → Nat → Int32)) ⊕ ((Nat → Nat → Int32)))) :=
  if 30 ≤ v1 then
    some (.inr (.inl MS_2))
  else
    (f_M_isThere MA v1).bind fun x3 =>
    if x3 = 0 then
      some (.inl ((v1 + 1), MS_2))
    else
      (f_M_clashOf MA p1 v1 (MS_2 4)).bind fun x4 =>
      if x4 = 0 then
        (ixx 10 p1).bind fun j5 =>
        some (.inr (.inr (u2 MS_2 4 j5 v1)))
      else
        some (.inl ((v1 + 1), MS_2))
def f_M_looks_l48 (MA : (Nat → Nat → Int32)) (p1 : Int32) (v8 : Int32) (MS_10 : (Nat → Nat → Int32)) : Option ((Int32 × (Nat → Nat → Int32)) ⊕ (((Nat → Nat → Int32)) ⊕ ((Nat → Nat → Int32)))) :=
  if 30 ≤ v8 then
    some (.inr (.inl MS_10))
  else
    (f_M_isThere MA v8).bind fun x11 =>
    if x11 = 0 then
      some (.inl ((v8 + 1), MS_10))
    else
      (f_M_ownClash MA p1 v8).bind fun x12 =>
      if x12 = 0 then
        (f_M_inWay MA MS_10 p1 v8).bind fun x13 =>
        (f_M_areFree MA x13).bind fun x14 =>
        if x14 = 0 then
          some (.inl ((v8 + 1), MS_10))
        else
          (f_M_allYield MA MS_10 x13 p1 v8).bind fun c10 =>
          if c10.1 ≠ 0 then
            (f_M_takes MA c10.2 p1 v8).bind fun MS_17 =>
            some (.inr (.inr MS_17))
          else
            some (.inl ((v8 + 1), c10.2))
      else
        some (.inl ((v8 + 1), MS_10))
def f_M_looks (MA : (Nat → Nat → Int32)) (MS : (Nat → Nat → Int32)) (p1 : Int32) : Option ((Nat → Nat → Int32)) :=
  (loopN (fun q => f_M_looks_l2 MA p1 q.1 q.2) a_F (0, MS)).bind fun b14 => sumE b14 (fun MS_7 =>
  (loopN (fun q => f_M_looks_l48 MA p1 q.1 q.2) a_F (0, MS_7)).bind fun b13 => sumE b13 (fun MS_20 =>
  some MS_20) (fun q => some q)) (fun q => some q)
def f_M_pushesBy_l76 (MA : (Nat → Nat → Int32)) (MS_8 : (Nat → Nat → Int32)) : Option (((Nat → Nat → Int32)) ⊕ ((Nat → Nat → Int32))) :=
  if (MS_8 0 57) ≤ (MS_8 0 56) then
    some (.inr MS_8)
  else
    if 100 ≤ (MS_8 0 58) then
      some (.inr MS_8)
    else
      (rdx (MS_8 9) 1100 (MS_8 0 56)).bind fun x9 =>
      (f_M_looks MA MS_8 x9).bind fun MS_10 =>
      some (.inl (u2 (u2 MS_10 0 56 ((MS_10 0 56) + 1)) 0 58 (((u2 MS_10 0 56 ((MS_10 0 56) + 1)) 0 58) + 1)))
def f_M_pushesBy (MA : (Nat → Nat → Int32)) (MS : (Nat → Nat → Int32)) (p1 : Int32) (p2 : Int32) : Option (Int32 × (Nat → Nat → Int32)) :=
  (cpM (MA 7) 10 (MS 4) 10 10).bind fun x1 =>
  (f_M_isFixed MA p1).bind fun x2 =>
  if x2 ≠ 0 then
    some ((zb 0), (u1 MS 4 x1))
  else
    (f_M_ownClash MA p1 p2).bind fun x3 =>
    if x3 = 0 then
      (ixx 10 p1).bind fun j4 =>
      (f_M_inWay MA (u2 (u1 MS 4 x1) 4 j4 (-1)) p1 p2).bind fun x5 =>
      (f_M_areFree MA x5).bind fun x6 =>
      if x6 ≠ 0 then
        (f_M_takes MA (u2 (u2 (u2 (u2 (u1 MS 4 x1) 4 j4 (-1)) 0 56 0) 0 57 0) 0 58 0) p1 p2).bind fun MS_7 =>
        (loopN (fun q => f_M_pushesBy_l76 MA q) a_F MS_7).bind fun MS_11 =>
        some ((zb 1), MS_11)
      else
        some ((zb 0), (u2 (u1 MS 4 x1) 4 j4 (-1)))
    else
      some ((zb 0), (u1 MS 4 x1))
def f_M_pushes_l87 (MA_9 : (Nat → Nat → Int32)) (MS_11 : (Nat → Nat → Int32)) (v12 : Int32) (v13 : Int32) (v14 : Int32) : Option ((Int32 × Int32 × Int32) ⊕ (Int32 × Int32)) :=
  if (MA_9 0 26) ≤ v14 then
    some (.inr (v12, v13))
  else
    (rdx (MS_11 4) 10 v14).bind fun x15 =>
    (rdx (MA_9 7) 10 v14).bind fun x16 =>
    (((
      if x15 = x16 then
        some 0
      else
        some 1) : Option (Int32))).bind fun v17 =>
    (rdx (MS_11 4) 10 v14).bind fun x18 =>
    (((
      (((
        if x18 ≠ (-1) then
          some (.inl ())
        else
          (rdx (MA_9 7) 10 v14).bind fun x19 =>
          if x19 = (-1) then
            some (.inl ())
          else
            some (.inr (a_shl 1 v14))) : Option ((Unit) ⊕ (Int32)))).bind fun b14 => sumE b14 (fun _ =>
      some 0) (fun q => some q)) : Option (Int32))).bind fun v20 =>
    some (.inl ((v12 + v17), (v13 ||| v20), (v14 + 1)))
def f_M_pushes (MA : (Nat → Nat → Int32)) (MS : (Nat → Nat → Int32)) (p1 : Int32) (p2 : Int32) (p3 : Int32) (p4 : Int32) : Option (Int32 × (Nat → Nat → Int32) × (Nat → Nat → Int32)) :=
  (f_M_isMeeting (u2 MA 0 0 0) p1 1).bind fun c1 =>
  if c1.1 = 0 then
    some (0, c1.2, MS)
  else
    (f_M_isRoom c1.2 p3 1).bind fun c2 =>
    if c2.1 = 0 then
      some (0, c2.2, MS)
    else
      (f_M_within p2 0 ((c2.2 0 23) - 1)).bind fun x5 =>
      (((
        (((
          if x5 = 0 then
            some (.inl ())
          else
            (f_M_within p4 0 2).bind fun x6 =>
            if x6 = 0 then
              some (.inl ())
            else
              some (.inr 1)) : Option ((Unit) ⊕ (Int32)))).bind fun b7 => sumE b7 (fun _ =>
        some 0) (fun q => some q)) : Option (Int32))).bind fun v7 =>
      (f_M_may c2.2 v7 2 1).bind fun c8 =>
      if c8.1 ≠ 0 then
        (f_M_pushesBy c8.2 MS p1 ((3 * p2) + p3)).bind fun c9 =>
        if c9.1 ≠ 0 then
          (loopN (fun q => f_M_pushes_l87 c8.2 c9.2 q.1 q.2.1 q.2.2) a_F (0, 0, 0)).bind fun p15_ =>
          if p4 ≠ 0 then
            if p4 ≠ 1 then
              some (p15_.2, c8.2, c9.2)
            else
              some (p15_.1, c8.2, c9.2)
          else
            some ((c9.2 0 58), c8.2, c9.2)
        else
          some ((-1), c8.2, c9.2)
      else
        some (0, c8.2, MS)
def f_M_pushed (MA : (Nat → Nat → Int32)) (MS : (Nat → Nat → Int32)) (p1 : Int32) (p2 : Int32) (p3 : Int32) (p4 : Int32) : Option (Int32 × (Nat → Nat → Int32) × (Nat → Nat → Int32)) :=
  (f_M_isMeeting (u2 MA 0 0 0) p1 1).bind fun c1 =>
  if c1.1 = 0 then
    some (0, c1.2, MS)
  else
    (f_M_isRoom c1.2 p3 1).bind fun c2 =>
    if c2.1 = 0 then
      some (0, c2.2, MS)
    else
      (f_M_isMeeting c2.2 p4 1).bind fun c3 =>
      if c3.1 = 0 then
        some (0, c3.2, MS)
      else
        (f_M_within p2 0 ((c3.2 0 23) - 1)).bind fun x7 =>
        (f_M_may c3.2 x7 2 1).bind fun c5 =>
        if c5.1 ≠ 0 then
          (f_M_pushesBy c5.2 MS p1 ((3 * p2) + p3)).bind fun c6 =>
          if c6.1 ≠ 0 then
            (rdx (c6.2 4) 10 p4).bind fun x12 =>
            (rdx (c6.2 4) 10 p4).bind fun x13 =>
            (((
              if x13 = (-1) then
                some 0
              else
                some 1) : Option (Int32))).bind fun v14 =>
            (f_M_shown x12 v14).bind fun x15 =>
            some (x15, c5.2, c6.2)
          else
            some ((-1), c5.2, c6.2)
        else
          some (0, c5.2, MS)
def f_M_push_l51 (MS_4 : (Nat → Nat → Int32)) (v6 : Int32) (MA_7 : (Nat → Nat → Int32)) : Option ((Int32 × (Nat → Nat → Int32)) ⊕ ((Nat → Nat → Int32))) :=
  if (MA_7 0 26) ≤ v6 then
    some (.inr MA_7)
  else
    (rdx (MS_4 4) 10 v6).bind fun x8 =>
    (rdx (MA_7 7) 10 v6).bind fun x9 =>
    if x8 = x9 then
      some (.inl ((v6 + 1), MA_7))
    else
      (rdx (MS_4 4) 10 v6).bind fun x10 =>
      (f_M_goesTo MA_7 v6 x10).bind fun MA_11 =>
      some (.inl ((v6 + 1), MA_11))
def f_M_push (MA : (Nat → Nat → Int32)) (MS : (Nat → Nat → Int32)) (p1 : Int32) (p2 : Int32) (p3 : Int32) : Option (Int32 × (Nat → Nat → Int32) × (Nat → Nat → Int32)) :=
  (f_M_isPlace (u2 MA 0 0 0) p1 p2 p3).bind fun c1 =>
  if c1.1 ≠ 0 then
    if (c1.2 0 43) ≠ 30 then
      (f_M_pushesBy c1.2 MS p1 ((3 * p2) + p3)).bind fun c2 =>
      if c2.1 ≠ 0 then
        (f_M_keepsAct c1.2).bind fun MA_5 =>
        (loopN (fun q => f_M_push_l51 c2.2 q.1 q.2) a_F (0, MA_5)).bind fun MA_13 =>
        some ((c2.2 0 58), MA_13, c2.2)
      else
        some ((-1), c1.2, c2.2)
    else
      some ((-64), c1.2, MS)
  else
    some (0, c1.2, MS)
def f_M_draws (MS : (Nat → Nat → Int32)) (p1 : Int32) : Option (Int32 × (Nat → Nat → Int32)) :=
  if p1 = 0 then none else
  some ((a_rem ((a_shr ((u2 MS 0 59 (((MS 0 59) * 1103515245) + 12345)) 0 59) 16) &&& 32767) p1), (u2 MS 0 59 (((MS 0 59) * 1103515245) + 12345)))
def f_M_isMovedBy_l34 (p1 : Int32) (p2 : Int32) (v4 : Int32) (MA_5 : (Nat → Nat → Int32)) : Option ((Int32 × (Nat → Nat → Int32)) ⊕ (((Nat → Nat → Int32)) ⊕ (Int32 × (Nat → Nat → Int32)))) :=
  if (MA_5 0 24) ≤ v4 then
    some (.inr (.inl MA_5))
  else
    (f_M_clashOf MA_5 p1 ((3 * p2) + v4) (MA_5 7)).bind fun x6 =>
    if x6 = 0 then
      (f_M_goesTo MA_5 p1 ((3 * p2) + v4)).bind fun MA_7 =>
      some (.inr (.inr ((zb 1), MA_7)))
    else
      some (.inl ((v4 + 1), MA_5))
def f_M_isMovedBy (MA : (Nat → Nat → Int32)) (p1 : Int32) (p2 : Int32) : Option (Int32 × (Nat → Nat → Int32)) :=
  (f_M_isFixed MA p1).bind fun x1 =>
  if x1 ≠ 0 then
    some ((zb 0), MA)
  else
    (rdx (MA 7) 10 p1).bind fun x2 =>
    if x2 = (-1) then
      some ((zb 0), MA)
    else
      (rdx (MA 7) 10 p1).bind fun x3 =>
      if (x3 / 3) ≠ p2 then
        (loopN (fun q => f_M_isMovedBy_l34 p1 p2 q.1 q.2) a_F (0, MA)).bind fun b6 => sumE b6 (fun MA_9 =>
        some ((zb 0), MA_9)) (fun q => some q)
      else
        some ((zb 0), MA)
def f_M_weekGoes_l20 (p2 : Int32) (v1 : Int32) (v2 : Int32) (MA_6 : (Nat → Nat → Int32)) (MS_7 : (Nat → Nat → Int32)) : Option ((Int32 × Int32 × (Nat → Nat → Int32) × (Nat → Nat → Int32)) ⊕ ((Nat → Nat → Int32) × (Nat → Nat → Int32))) :=
  if p2 ≤ v2 then
    some (.inr (MA_6, MS_7))
  else
    (((
      if (MA_6 0 26) ≤ 0 then
        some (0, MA_6, MS_7)
      else
        (f_M_draws MS_7 (MA_6 0 26)).bind fun c3 =>
        (f_M_draws c3.2 (MA_6 0 23)).bind fun c4 =>
        (f_M_isMovedBy MA_6 c3.1 c4.1).bind fun c5 =>
        some (c5.1, c5.2, c4.2)) : Option (Int32 × (Nat → Nat → Int32) × (Nat → Nat → Int32)))).bind fun t2 =>
    (((
      if t2.1 = 0 then
        some 0
      else
        some 1) : Option (Int32))).bind fun v19 =>
    (((
      if t2.1 = 0 then
        some (v1 + 1)
      else
        some 0) : Option (Int32))).bind fun v20 =>
    (((
      if v20 ≤ ((u2 t2.2.2 0 60 ((t2.2.2 0 60) + v19)) 0 61) then
        some ((u2 t2.2.2 0 60 ((t2.2.2 0 60) + v19)) 0 61)
      else
        some v20) : Option (Int32))).bind fun v21 =>
    some (.inl (v20, (v2 + 1), t2.2.1, (u2 (u2 t2.2.2 0 60 ((t2.2.2 0 60) + v19)) 0 61 v21)))
def f_M_weekGoes (MA : (Nat → Nat → Int32)) (MS : (Nat → Nat → Int32)) (p1 : Int32) (p2 : Int32) : Option ((Nat → Nat → Int32) × (Nat → Nat → Int32)) :=
  (loopN (fun q => f_M_weekGoes_l20 p2 q.1 q.2.1 q.2.2.1 q.2.2.2) a_F (0, 0, MA, (u2 (u2 (u2 MS 0 59 p1) 0 60 0) 0 61 0))).bind fun p9_ =>
  some (p9_.1, p9_.2)
def f_M_aside (MA : (Nat → Nat → Int32)) (MS : (Nat → Nat → Int32)) : Option ((Nat → Nat → Int32)) :=
  (cpM (MA 7) 10 (MS 10) 10 10).bind fun x1 =>
  (cpM (MA 8) 10 ((u1 MS 10 x1) 11) 10 10).bind fun x2 =>
  some (u1 (u1 MS 10 x1) 11 x2)
def f_M_back (MA : (Nat → Nat → Int32)) (MS : (Nat → Nat → Int32)) : Option ((Nat → Nat → Int32)) :=
  (cpM (MS 10) 10 (MA 7) 10 10).bind fun x1 =>
  (cpM (MS 11) 10 ((u1 MA 7 x1) 8) 10 10).bind fun x2 =>
  some (u1 (u1 MA 7 x1) 8 x2)
def f_M_mostBorn_l4 (MA : (Nat → Nat → Int32)) (v1 : Int32) (v2 : Int32) : Option ((Int32 × Int32) ⊕ (Int32)) :=
  if (MA 0 25) ≤ v2 then
    some (.inr v1)
  else
    (f_M_bornBy MA v2).bind fun x3 =>
    if x3 ≤ v1 then
      some (.inl (v1, (v2 + 1)))
    else
      (f_M_bornBy MA v2).bind fun x4 =>
      some (.inl (x4, (v2 + 1)))
def f_M_mostBorn (MA : (Nat → Nat → Int32)) : Option (Int32) :=
  (loopN (fun q => f_M_mostBorn_l4 MA q.1 q.2) a_F (0, 0)).bind fun v5 =>
  some v5
def f_M_week (MA : (Nat → Nat → Int32)) (MS : (Nat → Nat → Int32)) (p1 : Int32) (p2 : Int32) (p3 : Int32) : Option (Int32 × (Nat → Nat → Int32) × (Nat → Nat → Int32)) :=
  (f_M_within p2 1 60).bind fun x1 =>
  (((
    (((
      if x1 = 0 then
        some (.inl ())
      else
        (f_M_within p3 0 2).bind fun x2 =>
        if x2 = 0 then
          some (.inl ())
        else
          some (.inr 1)) : Option ((Unit) ⊕ (Int32)))).bind fun b5 => sumE b5 (fun _ =>
    some 0) (fun q => some q)) : Option (Int32))).bind fun v3 =>
  (f_M_may (u2 MA 0 0 0) v3 1 1).bind fun c6 =>
  if c6.1 ≠ 0 then
    (f_M_aside c6.2 MS).bind fun MS_6 =>
    (f_M_weekGoes c6.2 MS_6 p1 p2).bind fun c8 =>
    (f_M_mostBorn c8.1).bind fun x9 =>
    (f_M_back c8.1 c8.2).bind fun MA_10 =>
    if p3 ≠ 0 then
      if p3 ≠ 1 then
        some (x9, MA_10, c8.2)
      else
        some ((c8.2 0 61), MA_10, c8.2)
    else
      some ((c8.2 0 60), MA_10, c8.2)
  else
    some (0, c6.2, MS)
def f_M_done (MA : (Nat → Nat → Int32)) (MS : (Nat → Nat → Int32)) (p1 : Int32) (p2 : Int32) : Option (Int32 × (Nat → Nat → Int32) × (Nat → Nat → Int32)) :=
  (f_M_within p2 1 60).bind fun x1 =>
  (f_M_may (u2 MA 0 0 0) x1 1 1).bind fun c2 =>
  if c2.1 ≠ 0 then
    if (c2.2 0 43) ≠ 30 then
      (f_M_keepsAct c2.2).bind fun MA_4 =>
      (f_M_weekGoes MA_4 MS p1 p2).bind fun c4 =>
      some ((c4.2 0 60), c4.1, c4.2)
    else
      some ((-64), c2.2, MS)
  else
    some (0, c2.2, MS)
def f_M_span_l67 (p2 : Int32) (p1 : Int32) (p3 : Int32) (v8 : Int32) (v9 : Int32) (v10 : Int32) (v11 : Int32) (MA_12 : (Nat → Nat → Int32)) (MS_13 : (Nat → Nat → Int32)) : Option ((Int32 × Int32 × Int32 × Int32 × (Nat → Nat → Int32) × (Nat → Nat → Int32)) ⊕ (Int32 × Int32 × Int32 × (Nat → Nat → Int32) × (Nat → Nat → Int32))) :=
  if p2 ≤ v11 then
    some (.inr (v8, v9, v10, MA_12, MS_13))
  else
    (f_M_weekGoes MA_12 MS_13 (p1 + v11) p3).bind fun c10 =>
    (f_M_back c10.1 c10.2).bind fun MA_16 =>
    (((
      (((
        if v8 = (-1) then
          some (.inl ())
        else
          if v8 ≤ (c10.2 0 60) then
            some (.inr v8)
          else
            some (.inl ())) : Option ((Unit) ⊕ (Int32)))).bind fun b14 => sumE b14 (fun _ =>
      some (c10.2 0 60)) (fun q => some q)) : Option (Int32))).bind fun v17 =>
    (((
      if (c10.2 0 60) ≤ v9 then
        some v9
      else
        some (c10.2 0 60)) : Option (Int32))).bind fun v18 =>
    some (.inl (v17, v18, (v10 + (c10.2 0 60)), (v11 + 1), MA_16, c10.2))
def f_M_span (MA : (Nat → Nat → Int32)) (MS : (Nat → Nat → Int32)) (p1 : Int32) (p2 : Int32) (p3 : Int32) (p4 : Int32) : Option (Int32 × (Nat → Nat → Int32) × (Nat → Nat → Int32)) :=
  (f_M_within p2 1 20).bind fun x1 =>
  (((
    (((
      if x1 = 0 then
        some (.inl ())
      else
        (f_M_within p3 1 60).bind fun x2 =>
        if x2 = 0 then
          some (.inl ())
        else
          (f_M_within p4 0 2).bind fun x3 =>
          if x3 = 0 then
            some (.inl ())
          else
            some (.inr 1)) : Option ((Unit) ⊕ (Int32)))).bind fun b6 => sumE b6 (fun _ =>
    some 0) (fun q => some q)) : Option (Int32))).bind fun v4 =>
  (f_M_may (u2 MA 0 0 0) v4 1 1).bind fun c7 =>
  if c7.1 ≠ 0 then
    (f_M_aside c7.2 MS).bind fun MS_7 =>
    (loopN (fun q => f_M_span_l67 p2 p1 p3 q.1 q.2.1 q.2.2.1 q.2.2.2.1 q.2.2.2.2.1 q.2.2.2.2.2) a_F ((-1), 0, 0, 0, c7.2, MS_7)).bind fun p16_ =>
    if p4 ≠ 0 then
      if p4 ≠ 1 then
        some (p16_.2.2.1, p16_.2.2.2.1, p16_.2.2.2.2)
      else
        some (p16_.2.1, p16_.2.2.2.1, p16_.2.2.2.2)
    else
      some (p16_.1, p16_.2.2.2.1, p16_.2.2.2.2)
  else
    some (0, c7.2, MS)
def f_M_keepsRow_l3 (p3 : Int32) (p4 : Int32) (p1 : Int32) (v1 : Int32) (MA_2 : (Nat → Nat → Int32)) : Option ((Int32 × (Nat → Nat → Int32)) ⊕ ((Nat → Nat → Int32))) :=
  if p3 ≤ v1 then
    some (.inr MA_2)
  else
    if p4 = 0 then
      (rdx (MA_2 13) 1974 (p1 + v1)).bind fun x3 =>
      (ixx 10 v1).bind fun j4 =>
      some (.inl ((v1 + 1), (u2 MA_2 7 j4 x3)))
    else
      (rdx (MA_2 7) 10 v1).bind fun x5 =>
      (ixx 1974 (p1 + v1)).bind fun j6 =>
      some (.inl ((v1 + 1), (u2 MA_2 13 j6 x5)))
def f_M_keepsRow (MA : (Nat → Nat → Int32)) (p1 : Int32) (p3 : Int32) (p4 : Int32) : Option (Int32 × (Nat → Nat → Int32)) :=
  (loopN (fun q => f_M_keepsRow_l3 p3 p4 p1 q.1 q.2) a_F (0, MA)).bind fun MA_8 =>
  some ((p1 + p3), MA_8)
def f_M_keepsRow_2_l3 (p3 : Int32) (p4 : Int32) (p1 : Int32) (v1 : Int32) (MA_2 : (Nat → Nat → Int32)) : Option ((Int32 × (Nat → Nat → Int32)) ⊕ ((Nat → Nat → Int32))) :=
  if p3 ≤ v1 then
    some (.inr MA_2)
  else
    if p4 = 0 then
      (rdx (MA_2 13) 1974 (p1 + v1)).bind fun x3 =>
      (ixx 10 v1).bind fun j4 =>
      some (.inl ((v1 + 1), (u2 MA_2 8 j4 x3)))
    else
      (rdx (MA_2 8) 10 v1).bind fun x5 =>
      (ixx 1974 (p1 + v1)).bind fun j6 =>
      some (.inl ((v1 + 1), (u2 MA_2 13 j6 x5)))
def f_M_keepsRow_2 (MA : (Nat → Nat → Int32)) (p1 : Int32) (p3 : Int32) (p4 : Int32) : Option (Int32 × (Nat → Nat → Int32)) :=
  (loopN (fun q => f_M_keepsRow_2_l3 p3 p4 p1 q.1 q.2) a_F (0, MA)).bind fun MA_8 =>
  some ((p1 + p3), MA_8)
def f_M_keepsRow_3_l3 (p3 : Int32) (p4 : Int32) (p1 : Int32) (v1 : Int32) (MA_2 : (Nat → Nat → Int32)) : Option ((Int32 × (Nat → Nat → Int32)) ⊕ ((Nat → Nat → Int32))) :=
  if p3 ≤ v1 then
    some (.inr MA_2)
  else
    if p4 = 0 then
      (rdx (MA_2 13) 1974 (p1 + v1)).bind fun x3 =>
      (ixx 20 v1).bind fun j4 =>
      some (.inl ((v1 + 1), (u2 MA_2 9 j4 x3)))
    else
      (rdx (MA_2 9) 20 v1).bind fun x5 =>
      (ixx 1974 (p1 + v1)).bind fun j6 =>
      some (.inl ((v1 + 1), (u2 MA_2 13 j6 x5)))
def f_M_keepsRow_3 (MA : (Nat → Nat → Int32)) (p1 : Int32) (p3 : Int32) (p4 : Int32) : Option (Int32 × (Nat → Nat → Int32)) :=
  (loopN (fun q => f_M_keepsRow_3_l3 p3 p4 p1 q.1 q.2) a_F (0, MA)).bind fun MA_8 =>
  some ((p1 + p3), MA_8)
def f_M_keepsRow_4_l3 (p3 : Int32) (p4 : Int32) (p1 : Int32) (v1 : Int32) (MA_2 : (Nat → Nat → Int32)) : Option ((Int32 × (Nat → Nat → Int32)) ⊕ ((Nat → Nat → Int32))) :=
  if p3 ≤ v1 then
    some (.inr MA_2)
  else
    if p4 = 0 then
      (rdx (MA_2 13) 1974 (p1 + v1)).bind fun x3 =>
      (ixx 16 v1).bind fun j4 =>
      some (.inl ((v1 + 1), (u2 MA_2 6 j4 x3)))
    else
      (rdx (MA_2 6) 16 v1).bind fun x5 =>
      (ixx 1974 (p1 + v1)).bind fun j6 =>
      some (.inl ((v1 + 1), (u2 MA_2 13 j6 x5)))
def f_M_keepsRow_4 (MA : (Nat → Nat → Int32)) (p1 : Int32) (p3 : Int32) (p4 : Int32) : Option (Int32 × (Nat → Nat → Int32)) :=
  (loopN (fun q => f_M_keepsRow_4_l3 p3 p4 p1 q.1 q.2) a_F (0, MA)).bind fun MA_8 =>
  some ((p1 + p3), MA_8)
def f_M_keepsRow_5_l3 (p3 : Int32) (p4 : Int32) (p1 : Int32) (v1 : Int32) (MA_2 : (Nat → Nat → Int32)) : Option ((Int32 × (Nat → Nat → Int32)) ⊕ ((Nat → Nat → Int32))) :=
  if p3 ≤ v1 then
    some (.inr MA_2)
  else
    if p4 = 0 then
      (rdx (MA_2 13) 1974 (p1 + v1)).bind fun x3 =>
      (ixx 600 v1).bind fun j4 =>
      some (.inl ((v1 + 1), (u2 MA_2 12 j4 x3)))
    else
      (rdx (MA_2 12) 600 v1).bind fun x5 =>
      (ixx 1974 (p1 + v1)).bind fun j6 =>
      some (.inl ((v1 + 1), (u2 MA_2 13 j6 x5)))
def f_M_keepsRow_5 (MA : (Nat → Nat → Int32)) (p1 : Int32) (p3 : Int32) (p4 : Int32) : Option (Int32 × (Nat → Nat → Int32)) :=
  (loopN (fun q => f_M_keepsRow_5_l3 p3 p4 p1 q.1 q.2) a_F (0, MA)).bind fun MA_8 =>
  some ((p1 + p3), MA_8)
def f_M_keepsAll (MA : (Nat → Nat → Int32)) (p1 : Int32) (p2 : Int32) : Option ((Nat → Nat → Int32)) :=
  (f_M_keepsRow MA (658 * p1) 10 p2).bind fun c1 =>
  (f_M_keepsRow_2 c1.2 c1.1 10 p2).bind fun c2 =>
  (f_M_keepsRow_3 c2.2 c2.1 20 p2).bind fun c3 =>
  (f_M_keepsRow_4 c3.2 c3.1 16 p2).bind fun c4 =>
  (f_M_keepsRow_5 c4.2 c4.1 600 p2).bind fun c5 =>
  if p2 = 0 then
    (rdx (c5.2 13) 1974 c5.1).bind fun x11 =>
    (rdx ((u2 c5.2 0 33 x11) 13) 1974 (c5.1 + 1)).bind fun x12 =>
    some (u2 (u2 c5.2 0 33 x11) 0 43 x12)
  else
    (ixx 1974 c5.1).bind fun j13 =>
    (ixx 1974 (c5.1 + 1)).bind fun j14 =>
    some (u2 (u2 c5.2 13 j13 (c5.2 0 33)) 13 j14 ((u2 c5.2 13 j13 (c5.2 0 33)) 0 43))
def f_M_image (MA : (Nat → Nat → Int32)) : Option (Int32 × (Nat → Nat → Int32)) :=
  if ((u2 MA 0 0 0) 0 65) ≠ 3 then
    (f_M_keepsAll (u2 MA 0 0 0) ((u2 MA 0 0 0) 0 65) 1).bind fun MA_1 =>
    some (((u2 MA_1 0 65 ((MA_1 0 65) + 1)) 0 65), (u2 MA_1 0 65 ((MA_1 0 65) + 1)))
  else
    some ((-1), (u2 MA 0 0 0))
def f_M_restore (MA : (Nat → Nat → Int32)) : Option (Int32 × (Nat → Nat → Int32)) :=
  if ((u2 MA 0 0 0) 0 65) ≠ 0 then
    (f_M_keepsAll (u2 (u2 MA 0 0 0) 0 65 (((u2 MA 0 0 0) 0 65) - 1)) ((u2 (u2 MA 0 0 0) 0 65 (((u2 MA 0 0 0) 0 65) - 1)) 0 65) 0).bind fun MA_1 =>
    some ((MA_1 0 65), MA_1)
  else
    some ((-1), (u2 MA 0 0 0))
def f_M_status (MA : (Nat → Nat → Int32)) (p1 : Int32) : Option (Int32 × (Nat → Nat → Int32)) :=
  (f_M_within p1 0 1).bind fun x1 =>
  if x1 = 0 then
    some ((-1), (u2 MA 0 0 0))
  else
    (rdx ((u2 MA 0 0 0) 1) 2 p1).bind fun x2 =>
    some (x2, (u2 MA 0 0 0))
def f_M_count (MA : (Nat → Nat → Int32)) (p1 : Int32) : Option (Int32 × (Nat → Nat → Int32)) :=
  if p1 ≠ 0 then
    if p1 ≠ 1 then
      if p1 ≠ 2 then
        some ((-1), (u2 MA 0 0 0))
      else
        some (((u2 MA 0 0 0) 0 43), (u2 MA 0 0 0))
    else
      some (((u2 MA 0 0 0) 0 2), (u2 MA 0 0 0))
  else
    some (((u2 MA 0 0 0) 0 65), (u2 MA 0 0 0))
