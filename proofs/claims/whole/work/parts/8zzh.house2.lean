/-! PURE MATH: house: busy, may, who, fixed, moved -/
theorem hb_range {f t : Nat} (h : f ≤ t) (ht : t < 10) : (a_shl 1 (nI t + 1)) - (a_shl 1 (nI f)) = nI (2 ^ (t + 1) - 2 ^ f) := by
  have h1 : 2 ^ f ≤ 2 ^ (t + 1) := Nat.pow_le_pow_right (by omega) (by omega)
  rw [← nI_succ, shl_1 _ (by omega), shl_1 _ (by omega), na_sub h1]
theorem rg_lt {f t h : Nat} (ht : t < h) : 2 ^ (t + 1) - 2 ^ f < 2 ^ h := by
  have h1 : 2 ^ (t + 1) ≤ 2 ^ h := Nat.pow_le_pow_right (by omega) (by omega)
  have h2 : 1 ≤ 2 ^ f := Nat.one_le_two_pow
  have h3 : 1 ≤ 2 ^ h := Nat.one_le_two_pow
  omega
theorem upd_row {D : CS} {a b v a' : Nat} (h : a' ≠ a) : updC D a b v a' = D a' := by
  funext x
  unfold updC
  rw [if_neg (fun g => h g.1)]
theorem upd_at {D : CS} {a b v : Nat} : updC D a b v a b = v := by
  unfold updC
  rw [if_pos ⟨rfl, rfl⟩]
theorem upd_ne {D : CS} {a b v b' : Nat} (h : b' ≠ b) : updC D a b v a b' = D a b' := by
  unfold updC
  rw [if_neg (fun g => h g.2)]
section
variable {b : Nat → Nat} {n p w : Nat} {A T M H : Nat → Nat → Int32} {D : CS}
theorem rd_hour (hD : NH D H M) {M' : Nat → Nat → Int32} (hM : MNr M M') : f_M_readHour A M' = (f_M_readNumber A M' 0 (nI (D 0 0) - 1)).bind fun c1 => some (c1.1, c1.2) := by
  unfold f_M_readHour
  rw [hM 0 18 (by omega), (hD.1 0 (by omega)).2]
theorem rd_meet (hD : NH D H M) {M' : Nat → Nat → Int32} (hM : MNr M M') : f_M_readMeeting A M' = (f_M_readNumber A M' 0 (nI (D 0 3) - 1)).bind fun c1 => some (c1.1, c1.2) := by
  unfold f_M_readMeeting
  rw [hM 0 21 (by omega), (hD.1 3 (by omega)).2]
theorem cl_busy (hX : TXt b n A) (h : OSt b n p T w M) (hD : NH D H M) (hW : WD D) :
    CLend b n p H (f_House_readBusy T H w) (((f_M_readNumber A M 0 ((M 0 20) - 1)).bind fun c14 => (f_M_readHour A c14.2).bind fun c15 => (f_M_readNumber A c15.2 c15.1 ((c15.2 0 18) - 1)).bind fun c16 => (f_M_fine c16.2).bind fun x36 => if x36 = 0 then some c16.2 else (rdx (c16.2 2) 24 ((3 * c14.1) + 2)).bind fun x37 => (f_M_range c15.1 c16.1).bind fun x38 => (ixx 24 ((3 * c14.1) + 2)).bind fun j39 => some (u2 c16.2 2 j39 (x37 ||| x38))).bind fun M1 => f_M_sign A M1 59) := by
  have z10 : ¬ (1 : Int32) = 0 := by decide
  have hn := hX.2.1
  obtain ⟨⟨b1, b2⟩, b3, b4, b5, b6, b7, b8, b9, b10, b11, b12, b13, b14, b15, b16, b17, b18, b19, b20, b21, b22⟩ := hW
  have hrl := MNr.refl M
  unfold f_House_readBusy
  rw [show H 0 2 = nI (D 0 2) from (hD.1 2 (by omega)).1, show H 0 0 = nI (D 0 0) from (hD.1 0 (by omega)).1]
  try dsimp only
  rw [show M 0 20 = nI (D 0 2) from by rw [hrl 0 20 (by omega)]; exact (hD.1 2 (by omega)).2]
  rcases number_both (lo := 0) (hi := D 0 2) hX h (by omega) (by omega) with ⟨v1, T1, w1, M1, p1, vl1, vh1, y1, r1, o1, pp1, tt1, mn1⟩ | ⟨T1, M1, y1, r1, fs1, tt1, mn1⟩
  · have mm1 := MNr.trans hrl mn1
    have y1 : f_Tape_number T w 0 (nI (D 0 2) - 1) = some (nI v1, T1, w1) := y1
    have r1 : f_M_readNumber A M 0 (nI (D 0 2) - 1) = some (nI v1, M1) := r1
    rw [y1, r1, obs, obs]
    rw [rd_hour hD mm1]
    rcases number_both (lo := 0) (hi := D 0 0) hX o1 (by omega) (by omega) with ⟨v2, T2, w2, M2, p2, vl2, vh2, y2, r2, o2, pp2, tt2, mn2⟩ | ⟨T2, M2, y2, r2, fs2, tt2, mn2⟩
    · have mm2 := MNr.trans mm1 mn2
      have y2 : f_Tape_number T1 w1 0 (nI (D 0 0) - 1) = some (nI v2, T2, w2) := y2
      have r2 : f_M_readNumber A M1 0 (nI (D 0 0) - 1) = some (nI v2, M2) := r2
      rw [y2, r2, obs, obs, obs]
      try dsimp only
      rw [show M2 0 18 = nI (D 0 0) from by rw [mm2 0 18 (by omega)]; exact (hD.1 0 (by omega)).2]
      rcases number_both (lo := v2) (hi := D 0 0) hX o2 (by omega) (by omega) with ⟨v3, T3, w3, M3, p3, vl3, vh3, y3, r3, o3, pp3, tt3, mn3⟩ | ⟨T3, M3, y3, r3, fs3, tt3, mn3⟩
      · have mm3 := MNr.trans mm2 mn3
        have y3 : f_Tape_number T2 w2 (nI v2) (nI (D 0 0) - 1) = some (nI v3, T3, w3) := y3
        have r3 : f_M_readNumber A M2 (nI v2) (nI (D 0 0) - 1) = some (nI v3, M3) := r3
        rw [y3, r3, obs, obs]
        have hv1 : v1 < 8 := by omega
        have hx : M3 2 (3 * v1 + 2) = nI (D 4 v1) := by rw [mm3 2 _ (by omega)]; exact (hD.2.2.2.1 v1 vh1).2.2.2.2
        have e32 : (3 : Int32) * nI v1 + 2 = nI (3 * v1 + 2) := ix3 v1 2
        unfold f_M_range f_House_hourBits
        have hr : rdx (M3 2) 24 (3 * nI v1 + 2) = some (nI (D 4 v1)) := by rw [e32, rdx_nI (by omega) (by omega), hx]
        have hi : ixx 24 (3 * nI v1 + 2) = some (3 * v1 + 2) := by rw [e32, ixx_nI (by omega) (by omega)]
        rw [(o3.f).2, obs, if_neg z10, hr, obs, obs, hi, obs, obs, hb_range vl3 (by omega), na_or]
        obtain ⟨a1, a2, a3, a4, a5, a6, a7, a8⟩ := hD.cg mm3
        refine CLend.ok (D' := updC D 4 v1 (D 4 v1 ||| (2 ^ (v3 + 1) - 2 ^ v2))) (H := H) (H' := u2 H 4 v1 (nI (D 4 v1 ||| (2 ^ (v3 + 1) - 2 ^ v2)))) hX (by omega) (o3.cg (M' := u2 M3 2 (3 * v1 + 2) (nI (D 4 v1 ||| (2 ^ (v3 + 1) - 2 ^ v2)))) (fun c hc => by rw [u2_row _ _ (by decide)])) ⟨a1, a2, a3, fun q hq => ?_, fun q hq => ?_, a6, a7, a8⟩ ⟨⟨b1, b2⟩, b3, b4, b5, b6, b7, b8, b9, fun k => ?_, b11, b12, b13, b14, b15, b16, b17, b18, b19, b20, b21, fun q hq => ?_⟩ (fun T' w' => ?_) (fun T' w' => if_pos rfl)
        · obtain ⟨c1, c2, c3, c4, c5⟩ := a4 q hq
          refine ⟨c1, c2, ?_, ?_, ?_⟩
          · rw [u2_col _ _ (by omega)]; exact c3
          · rw [u2_col _ _ (by omega)]; exact c4
          · by_cases hqv : q = v1
            · subst hqv; rw [u2_same, upd_at]
            · rw [u2_col _ _ (by omega), upd_ne hqv]; exact c5
        · by_cases hqv : q = v1
          · subst hqv; rw [u2_same, upd_at]
          · rw [u2_col _ _ hqv, upd_ne hqv]; exact a5 q hq
        · show updC D 4 v1 _ 4 k < 2 ^ D 0 0
          by_cases hqv : k = v1
          · subst hqv; rw [upd_at]; exact Nat.or_lt_two_pow (b10 _) (rg_lt vh3)
          · rw [upd_ne hqv]; exact b10 k
        · have hq : D 0 2 ≤ q := hq
          rw [upd_ne (by omega)]; exact b22 q hq
        · show (if (1 : Int32) = 0 then _ else _) = _
          rw [if_neg z10, rdx_nI hv1 (by omega), a5 v1 hv1, obs, obs, ixx_nI hv1 (by omega), obs, na_or]
      · have mm3 := MNr.trans mm2 mn3
        have y3 : f_Tape_number T2 w2 (nI v2) (nI (D 0 0) - 1) = some (-1, T3, w2) := y3
        have r3 : f_M_readNumber A M2 (nI v2) (nI (D 0 0) - 1) = some (0, M3) := r3
        have nf := fun ww lo hi => number_fail (w := ww) (A := A) hn fs3 lo hi
        rw [y3, obs]
        rw [r3, obs]
        rw [(fs3.f hn).2, obs, if_pos rfl, obs]
        exact CLend.bad (H := H) hn fs3 (fun _ _ => rfl) (fun T' w' => if_pos rfl)
    · have mm2 := MNr.trans mm1 mn2
      have y2 : f_Tape_number T1 w1 0 (nI (D 0 0) - 1) = some (-1, T2, w1) := y2
      have r2 : f_M_readNumber A M1 0 (nI (D 0 0) - 1) = some (0, M2) := r2
      have nf := fun ww lo hi => number_fail (w := ww) (A := A) hn fs2 lo hi
      rw [y2, obs, (nf _ _ _).1, obs]
      rw [r2, obs, obs]
      rw [(nf 0 _ _).2, obs]
      rw [(fs2.f hn).2, obs, if_pos rfl, obs]
      exact CLend.bad (H := H) hn fs2 (fun _ _ => rfl) (fun T' w' => if_pos rfl)
  · have mm1 := MNr.trans hrl mn1
    have y1 : f_Tape_number T w 0 (nI (D 0 2) - 1) = some (-1, T1, w) := y1
    have r1 : f_M_readNumber A M 0 (nI (D 0 2) - 1) = some (0, M1) := r1
    have nf := fun ww lo hi => number_fail (w := ww) (A := A) hn fs1 lo hi
    rw [y1, obs, (nf _ _ _).1, obs, (nf _ _ _).1, obs]
    rw [r1, obs]
    rw [rd_hour hD mm1, (nf 0 _ _).2, obs, obs]
    rw [(nf 0 _ _).2, obs]
    rw [(fs1.f hn).2, obs, if_pos rfl, obs]
    exact CLend.bad (H := H) hn fs1 (fun _ _ => rfl) (fun T' w' => if_pos rfl)
theorem cl_may (hX : TXt b n A) (h : OSt b n p T w M) (hD : NH D H M) (hW : WD D) :
    CLend b n p H (f_House_readMay T H w) (((f_M_readMeeting A M).bind fun c9 => (f_M_readHour A c9.2).bind fun c10 => (f_M_readNumber A c10.2 c10.1 ((c10.2 0 18) - 1)).bind fun c11 => (f_M_fine c11.2).bind fun x26 => if x26 = 0 then some c11.2 else (rdx (c11.2 3) 60 ((6 * c9.1) + 3)).bind fun x27 => (f_M_range c10.1 c11.1).bind fun x28 => (ixx 60 ((6 * c9.1) + 3)).bind fun j29 => some (u2 c11.2 3 j29 (x27 ||| x28))).bind fun M1 => f_M_sign A M1 59) := by
  have z10 : ¬ (1 : Int32) = 0 := by decide
  have hn := hX.2.1
  obtain ⟨⟨b1, b2⟩, b3, b4, b5, b6, b7, b8, b9, b10, b11, b12, b13, b14, b15, b16, b17, b18, b19, b20, b21, b22⟩ := hW
  have hrl := MNr.refl M
  unfold f_House_readMay
  rw [show H 0 3 = nI (D 0 3) from (hD.1 3 (by omega)).1, show H 0 0 = nI (D 0 0) from (hD.1 0 (by omega)).1]
  rw [rd_meet hD hrl]
  rcases number_both (lo := 0) (hi := D 0 3) hX h (by omega) (by omega) with ⟨v1, T1, w1, M1, p1, vl1, vh1, y1, r1, o1, pp1, tt1, mn1⟩ | ⟨T1, M1, y1, r1, fs1, tt1, mn1⟩
  · have mm1 := MNr.trans hrl mn1
    have y1 : f_Tape_number T w 0 (nI (D 0 3) - 1) = some (nI v1, T1, w1) := y1
    have r1 : f_M_readNumber A M 0 (nI (D 0 3) - 1) = some (nI v1, M1) := r1
    rw [y1, r1, obs, obs, obs]
    rw [rd_hour hD mm1]
    rcases number_both (lo := 0) (hi := D 0 0) hX o1 (by omega) (by omega) with ⟨v2, T2, w2, M2, p2, vl2, vh2, y2, r2, o2, pp2, tt2, mn2⟩ | ⟨T2, M2, y2, r2, fs2, tt2, mn2⟩
    · have mm2 := MNr.trans mm1 mn2
      have y2 : f_Tape_number T1 w1 0 (nI (D 0 0) - 1) = some (nI v2, T2, w2) := y2
      have r2 : f_M_readNumber A M1 0 (nI (D 0 0) - 1) = some (nI v2, M2) := r2
      rw [y2, r2, obs, obs, obs]
      try dsimp only
      rw [show M2 0 18 = nI (D 0 0) from by rw [mm2 0 18 (by omega)]; exact (hD.1 0 (by omega)).2]
      rcases number_both (lo := v2) (hi := D 0 0) hX o2 (by omega) (by omega) with ⟨v3, T3, w3, M3, p3, vl3, vh3, y3, r3, o3, pp3, tt3, mn3⟩ | ⟨T3, M3, y3, r3, fs3, tt3, mn3⟩
      · have mm3 := MNr.trans mm2 mn3
        have y3 : f_Tape_number T2 w2 (nI v2) (nI (D 0 0) - 1) = some (nI v3, T3, w3) := y3
        have r3 : f_M_readNumber A M2 (nI v2) (nI (D 0 0) - 1) = some (nI v3, M3) := r3
        rw [y3, r3, obs, obs]
        have hv1 : v1 < 10 := by omega
        have hx : M3 3 (6 * v1 + 3) = nI (D 9 v1) := by rw [mm3 3 _ (by omega)]; exact (hD.2.2.2.2.2.2.1 v1 hv1).2.2.2.2.1
        have e32 : (6 : Int32) * nI v1 + 3 = nI (6 * v1 + 3) := ix6 v1 3
        unfold f_M_range f_House_hourBits
        have hr : rdx (M3 3) 60 (6 * nI v1 + 3) = some (nI (D 9 v1)) := by rw [e32, rdx_nI (by omega) (by omega), hx]
        have hi : ixx 60 (6 * nI v1 + 3) = some (6 * v1 + 3) := by rw [e32, ixx_nI (by omega) (by omega)]
        rw [(o3.f).2, obs, if_neg z10, hr, obs, obs, hi, obs, obs, hb_range vl3 (by omega), na_or]
        obtain ⟨a1, a2, a3, a4, a5, a6, a7, a8⟩ := hD.cg mm3
        refine CLend.ok (D' := updC D 9 v1 (D 9 v1 ||| (2 ^ (v3 + 1) - 2 ^ v2))) (H := H) (H' := u2 H 9 v1 (nI (D 9 v1 ||| (2 ^ (v3 + 1) - 2 ^ v2)))) hX (by omega) (o3.cg (M' := u2 M3 3 (6 * v1 + 3) (nI (D 9 v1 ||| (2 ^ (v3 + 1) - 2 ^ v2)))) (fun c hc => by rw [u2_row _ _ (by decide)])) ⟨a1, a2, a3, a4, a5, fun m hm => ?_, fun m hm => ?_, a8⟩ ⟨⟨b1, b2⟩, b3, b4, b5, b6, b7, b8, b9, b10, b11, b12, fun k => ?_, b14, b15, b16, b17, b18, b19, b20, b21, b22⟩ (fun T' w' => ?_) (fun T' w' => if_pos rfl)
        · obtain ⟨c1, c2, c3, c4⟩ := a6 m hm
          exact ⟨c1, c2, by rw [u2_col _ _ (by omega)]; exact c3, by rw [u2_col _ _ (by omega)]; exact c4⟩
        · obtain ⟨c1, c2, c3, c4, c5, c6, c7⟩ := a7 m hm
          refine ⟨c1, c2, ?_, ?_, ?_, ?_, ?_⟩
          · by_cases hqv : m = v1
            · subst hqv; rw [u2_same, upd_at]
            · rw [u2_col _ _ hqv, upd_ne hqv]; exact c3
          · rw [u2_col _ _ (by omega)]; exact c4
          · by_cases hqv : m = v1
            · subst hqv; rw [u2_same, upd_at]
            · rw [u2_col _ _ (by omega), upd_ne hqv]; exact c5
          · rw [u2_col _ _ (by omega)]; exact c6
          · rw [u2_col _ _ (by omega)]; exact c7
        · show updC D 9 v1 _ 9 k < 2 ^ D 0 0
          by_cases hqv : k = v1
          · subst hqv; rw [upd_at]; exact Nat.or_lt_two_pow (b13 _) (rg_lt vh3)
          · rw [upd_ne hqv]; exact b13 k
        · show (if (1 : Int32) = 0 then _ else _) = _
          rw [if_neg z10, rdx_nI hv1 (by omega), (a7 v1 hv1).2.2.1, obs, obs, ixx_nI hv1 (by omega), obs, na_or]
      · have mm3 := MNr.trans mm2 mn3
        have y3 : f_Tape_number T2 w2 (nI v2) (nI (D 0 0) - 1) = some (-1, T3, w2) := y3
        have r3 : f_M_readNumber A M2 (nI v2) (nI (D 0 0) - 1) = some (0, M3) := r3
        have nf := fun ww lo hi => number_fail (w := ww) (A := A) hn fs3 lo hi
        rw [y3, obs]
        rw [r3, obs]
        rw [(fs3.f hn).2, obs, if_pos rfl, obs]
        exact CLend.bad (H := H) hn fs3 (fun _ _ => rfl) (fun T' w' => if_pos rfl)
    · have mm2 := MNr.trans mm1 mn2
      have y2 : f_Tape_number T1 w1 0 (nI (D 0 0) - 1) = some (-1, T2, w1) := y2
      have r2 : f_M_readNumber A M1 0 (nI (D 0 0) - 1) = some (0, M2) := r2
      have nf := fun ww lo hi => number_fail (w := ww) (A := A) hn fs2 lo hi
      rw [y2, obs, (nf _ _ _).1, obs]
      rw [r2, obs, obs]
      rw [(nf 0 _ _).2, obs]
      rw [(fs2.f hn).2, obs, if_pos rfl, obs]
      exact CLend.bad (H := H) hn fs2 (fun _ _ => rfl) (fun T' w' => if_pos rfl)
  · have mm1 := MNr.trans hrl mn1
    have y1 : f_Tape_number T w 0 (nI (D 0 3) - 1) = some (-1, T1, w) := y1
    have r1 : f_M_readNumber A M 0 (nI (D 0 3) - 1) = some (0, M1) := r1
    have nf := fun ww lo hi => number_fail (w := ww) (A := A) hn fs1 lo hi
    rw [y1, obs, (nf _ _ _).1, obs, (nf _ _ _).1, obs]
    rw [r1, obs, obs]
    rw [rd_hour hD mm1, (nf 0 _ _).2, obs, obs]
    rw [(nf 0 _ _).2, obs]
    rw [(fs1.f hn).2, obs, if_pos rfl, obs]
    exact CLend.bad (H := H) hn fs1 (fun _ _ => rfl) (fun T' w' => if_pos rfl)
theorem cl_who (hX : TXt b n A) (h : OSt b n p T w M) (hD : NH D H M) (hW : WD D) :
    CLend b n p H (f_House_readWho T H w) (((f_M_readMeeting A M).bind fun c13 => (f_M_readNumber A c13.2 0 ((c13.2 0 20) - 1)).bind fun c14 => (f_M_fine c14.2).bind fun x22 => if x22 = 0 then some c14.2 else (rdx (c14.2 3) 60 ((6 * c13.1) + 2)).bind fun x23 => (ixx 60 ((6 * c13.1) + 2)).bind fun j24 => some (u2 c14.2 3 j24 (x23 ||| (a_shl 1 c14.1)))).bind fun M1 => f_M_sign A M1 59) := by
  have z10 : ¬ (1 : Int32) = 0 := by decide
  have hn := hX.2.1
  obtain ⟨⟨b1, b2⟩, b3, b4, b5, b6, b7, b8, b9, b10, b11, b12, b13, b14, b15, b16, b17, b18, b19, b20, b21, b22⟩ := hW
  have hrl := MNr.refl M
  unfold f_House_readWho
  rw [show H 0 3 = nI (D 0 3) from (hD.1 3 (by omega)).1, show H 0 2 = nI (D 0 2) from (hD.1 2 (by omega)).1]
  rw [rd_meet hD hrl]
  rcases number_both (lo := 0) (hi := D 0 3) hX h (by omega) (by omega) with ⟨v1, T1, w1, M1, p1, vl1, vh1, y1, r1, o1, pp1, tt1, mn1⟩ | ⟨T1, M1, y1, r1, fs1, tt1, mn1⟩
  · have mm1 := MNr.trans hrl mn1
    have y1 : f_Tape_number T w 0 (nI (D 0 3) - 1) = some (nI v1, T1, w1) := y1
    have r1 : f_M_readNumber A M 0 (nI (D 0 3) - 1) = some (nI v1, M1) := r1
    rw [y1, r1, obs, obs, obs]
    try dsimp only
    rw [show M1 0 20 = nI (D 0 2) from by rw [mm1 0 20 (by omega)]; exact (hD.1 2 (by omega)).2]
    rcases number_both (lo := 0) (hi := D 0 2) hX o1 (by omega) (by omega) with ⟨v2, T2, w2, M2, p2, vl2, vh2, y2, r2, o2, pp2, tt2, mn2⟩ | ⟨T2, M2, y2, r2, fs2, tt2, mn2⟩
    · have mm2 := MNr.trans mm1 mn2
      have y2 : f_Tape_number T1 w1 0 (nI (D 0 2) - 1) = some (nI v2, T2, w2) := y2
      have r2 : f_M_readNumber A M1 0 (nI (D 0 2) - 1) = some (nI v2, M2) := r2
      rw [y2, r2, obs, obs]
      have hv1 : v1 < 10 := by omega
      have hx : M2 3 (6 * v1 + 2) = nI (D 8 v1) := by rw [mm2 3 _ (by omega)]; exact (hD.2.2.2.2.2.2.1 v1 hv1).2.2.2.1
      have e32 : (6 : Int32) * nI v1 + 2 = nI (6 * v1 + 2) := ix6 v1 2
      have hr : rdx (M2 3) 60 (6 * nI v1 + 2) = some (nI (D 8 v1)) := by rw [e32, rdx_nI (by omega) (by omega), hx]
      have hi : ixx 60 (6 * nI v1 + 2) = some (6 * v1 + 2) := by rw [e32, ixx_nI (by omega) (by omega)]
      rw [(o2.f).2, obs, if_neg z10, hr, obs, hi, obs, obs]
      have es : nI (D 8 v1) ||| a_shl 1 (nI v2) = nI (D 8 v1 ||| 2 ^ v2) := by rw [shl_1 _ (by omega), na_or]
      show CLend b n p H _ (f_M_sign A (u2 M2 3 (6 * v1 + 2) (nI (D 8 v1) ||| a_shl 1 (nI v2))) 59)
      rw [es]
      obtain ⟨a1, a2, a3, a4, a5, a6, a7, a8⟩ := hD.cg mm2
      refine CLend.ok (D' := updC D 8 v1 (D 8 v1 ||| 2 ^ v2)) (H := H) (H' := u2 H 8 v1 (nI (D 8 v1 ||| 2 ^ v2))) hX (by omega) (o2.cg (M' := u2 M2 3 (6 * v1 + 2) (nI (D 8 v1 ||| 2 ^ v2))) (fun c hc => by rw [u2_row _ _ (by decide)])) ⟨a1, a2, a3, a4, a5, fun m hm => ?_, fun m hm => ?_, a8⟩ ⟨⟨b1, b2⟩, b3, b4, b5, b6, b7, b8, b9, b10, b11, fun k => ?_, b13, b14, b15, b16, b17, b18, b19, b20, b21, b22⟩ (fun T' w' => ?_) (fun T' w' => if_pos rfl)
      · obtain ⟨c1, c2, c3, c4⟩ := a6 m hm
        exact ⟨c1, c2, by rw [u2_col _ _ (by omega)]; exact c3, by rw [u2_col _ _ (by omega)]; exact c4⟩
      · obtain ⟨c1, c2, c3, c4, c5, c6, c7⟩ := a7 m hm
        refine ⟨c1, ?_, c3, ?_, ?_, ?_, ?_⟩
        · by_cases hqv : m = v1
          · subst hqv; rw [u2_same, upd_at]
          · rw [u2_col _ _ hqv, upd_ne hqv]; exact c2
        · by_cases hqv : m = v1
          · subst hqv; rw [u2_same, upd_at]
          · rw [u2_col _ _ (by omega), upd_ne hqv]; exact c4
        · rw [u2_col _ _ (by omega)]; exact c5
        · rw [u2_col _ _ (by omega)]; exact c6
        · rw [u2_col _ _ (by omega)]; exact c7
      · show updC D 8 v1 _ 8 k < 2 ^ D 0 2
        by_cases hqv : k = v1
        · subst hqv; rw [upd_at]; exact Nat.or_lt_two_pow (b12 _) (Nat.pow_lt_pow_right (by omega) vh2)
        · rw [upd_ne hqv]; exact b12 k
      · show (if (1 : Int32) = 0 then _ else _) = _
        rw [if_neg z10, rdx_nI hv1 (by omega), (a7 v1 hv1).2.1, obs, ixx_nI hv1 (by omega), obs, shl_1 _ (by omega), na_or]
    · have mm2 := MNr.trans mm1 mn2
      have y2 : f_Tape_number T1 w1 0 (nI (D 0 2) - 1) = some (-1, T2, w1) := y2
      have r2 : f_M_readNumber A M1 0 (nI (D 0 2) - 1) = some (0, M2) := r2
      have nf := fun ww lo hi => number_fail (w := ww) (A := A) hn fs2 lo hi
      rw [y2, obs]
      rw [r2, obs]
      rw [(fs2.f hn).2, obs, if_pos rfl, obs]
      exact CLend.bad (H := H) hn fs2 (fun _ _ => rfl) (fun T' w' => if_pos rfl)
  · have mm1 := MNr.trans hrl mn1
    have y1 : f_Tape_number T w 0 (nI (D 0 3) - 1) = some (-1, T1, w) := y1
    have r1 : f_M_readNumber A M 0 (nI (D 0 3) - 1) = some (0, M1) := r1
    have nf := fun ww lo hi => number_fail (w := ww) (A := A) hn fs1 lo hi
    rw [y1, obs, (nf _ _ _).1, obs]
    rw [r1, obs, obs]
    rw [(nf 0 _ _).2, obs]
    rw [(fs1.f hn).2, obs, if_pos rfl, obs]
    exact CLend.bad (H := H) hn fs1 (fun _ _ => rfl) (fun T' w' => if_pos rfl)
theorem cl_fixed (hX : TXt b n A) (h : OSt b n p T w M) (hD : NH D H M) (hW : WD D) :
    CLend b n p H (f_House_readFixed T H w) (((f_M_readMeeting A M).bind fun c11 => (f_M_fine c11.2).bind fun x16 => if x16 = 0 then some c11.2 else (ixx 60 ((6 * c11.1) + 4)).bind fun j17 => some (u2 c11.2 3 j17 1)).bind fun M1 => f_M_sign A M1 59) := by
  have z10 : ¬ (1 : Int32) = 0 := by decide
  have hn := hX.2.1
  obtain ⟨⟨b1, b2⟩, b3, b4, b5, b6, b7, b8, b9, b10, b11, b12, b13, b14, b15, b16, b17, b18, b19, b20, b21, b22⟩ := hW
  have hrl := MNr.refl M
  unfold f_House_readFixed
  rw [show H 0 3 = nI (D 0 3) from (hD.1 3 (by omega)).1]
  rw [rd_meet hD hrl]
  rcases number_both (lo := 0) (hi := D 0 3) hX h (by omega) (by omega) with ⟨v1, T1, w1, M1, p1, vl1, vh1, y1, r1, o1, pp1, tt1, mn1⟩ | ⟨T1, M1, y1, r1, fs1, tt1, mn1⟩
  · have mm1 := MNr.trans hrl mn1
    have y1 : f_Tape_number T w 0 (nI (D 0 3) - 1) = some (nI v1, T1, w1) := y1
    have r1 : f_M_readNumber A M 0 (nI (D 0 3) - 1) = some (nI v1, M1) := r1
    rw [y1, r1, obs, obs, obs]
    have hv1 : v1 < 10 := by omega
    have e32 : (6 : Int32) * nI v1 + 4 = nI (6 * v1 + 4) := ix6 v1 4
    have hi : ixx 60 (6 * nI v1 + 4) = some (6 * v1 + 4) := by rw [e32, ixx_nI (by omega) (by omega)]
    rw [(o1.f).2, obs, if_neg z10, hi, obs, obs]
    obtain ⟨a1, a2, a3, a4, a5, a6, a7, a8⟩ := hD.cg mm1
    have ef : nI (bs (fun m => D 10 m = 1) 10) ||| a_shl 1 (nI v1) = nI (bs (fun m => updC D 10 v1 1 10 m = 1) 10) := by
      rw [shl_1 _ (by omega), na_or, bs_or1 _ hv1]
      refine congrArg nI (bs_congr (fun i _ => ?_))
      by_cases hqv : i = v1
      · subst hqv; rw [upd_at]; exact ⟨fun _ => rfl, fun _ => Or.inl rfl⟩
      · rw [upd_ne hqv]; exact ⟨fun h => h.resolve_left hqv, Or.inr⟩
    refine CLend.ok (D' := updC D 10 v1 1) (H := H) (H' := u2 H 0 5 (nI (bs (fun m => updC D 10 v1 1 10 m = 1) 10))) hX (by omega) (o1.cg (M' := u2 M1 3 (6 * v1 + 4) 1) (fun c hc => by rw [u2_row _ _ (by decide)])) ⟨fun j hj => ?_, u2_same _ _ _ _, a3, a4, a5, fun m hm => ?_, fun m hm => ?_, a8⟩ ⟨⟨b1, b2⟩, b3, b4, b5, b6, b7, b8, b9, b10, b11, b12, b13, fun k => ?_, b15, b16, b17, b18, b19, b20, fun m hm => ?_, b22⟩ (fun T' w' => ?_) (fun T' w' => if_pos rfl)
    · rw [u2_col _ _ (by omega)]; exact a1 j hj
    · obtain ⟨c1, c2, c3, c4⟩ := a6 m hm
      exact ⟨c1, c2, by rw [u2_col _ _ (by omega)]; exact c3, by rw [u2_col _ _ (by omega)]; exact c4⟩
    · obtain ⟨c1, c2, c3, c4, c5, c6, c7⟩ := a7 m hm
      refine ⟨c1, c2, c3, ?_, ?_, ?_, ?_⟩
      · rw [u2_col _ _ (by omega)]; exact c4
      · rw [u2_col _ _ (by omega)]; exact c5
      · by_cases hqv : m = v1
        · subst hqv; rw [u2_same, upd_at]; rfl
        · rw [u2_col _ _ (by omega), upd_ne hqv]; exact c6
      · rw [u2_col _ _ (by omega)]; exact c7
    · by_cases hqv : k = v1
      · subst hqv; rw [upd_at]; exact Nat.le_refl _
      · rw [upd_ne hqv]; exact b14 k
    · show m < D 0 3
      by_cases hqv : m = v1
      · rw [hqv]; exact vh1
      · rw [upd_ne hqv] at hm; exact b21 m hm
    · show (if (1 : Int32) = 0 then _ else some (T', u2 H 0 5 (H 0 5 ||| a_shl 1 (nI v1)), w')) = _
      rw [if_neg z10, show H 0 5 = _ from a2, ef]
  · have mm1 := MNr.trans hrl mn1
    have y1 : f_Tape_number T w 0 (nI (D 0 3) - 1) = some (-1, T1, w) := y1
    have r1 : f_M_readNumber A M 0 (nI (D 0 3) - 1) = some (0, M1) := r1
    have nf := fun ww lo hi => number_fail (w := ww) (A := A) hn fs1 lo hi
    rw [y1, obs]
    rw [r1, obs, obs]
    rw [(fs1.f hn).2, obs, if_pos rfl, obs]
    exact CLend.bad (H := H) hn fs1 (fun _ _ => rfl) (fun T' w' => if_pos rfl)
theorem cl_moved (hX : TXt b n A) (h : OSt b n p T w M) (hD : NH D H M) (hW : WD D) :
    CLend b n p H (f_House_readMoved T H w) (((f_M_readMeeting A M).bind fun c8 => (f_M_readNumber A c8.2 0 99).bind fun c9 => (f_M_fine c9.2).bind fun x12 => if x12 = 0 then some c9.2 else (ixx 60 ((6 * c8.1) + 5)).bind fun j13 => some (u2 c9.2 3 j13 c9.1)).bind fun M1 => f_M_sign A M1 59) := by
  have z10 : ¬ (1 : Int32) = 0 := by decide
  have hn := hX.2.1
  obtain ⟨⟨b1, b2⟩, b3, b4, b5, b6, b7, b8, b9, b10, b11, b12, b13, b14, b15, b16, b17, b18, b19, b20, b21, b22⟩ := hW
  have hrl := MNr.refl M
  unfold f_House_readMoved
  rw [show H 0 3 = nI (D 0 3) from (hD.1 3 (by omega)).1]
  rw [rd_meet hD hrl]
  rcases number_both (lo := 0) (hi := D 0 3) hX h (by omega) (by omega) with ⟨v1, T1, w1, M1, p1, vl1, vh1, y1, r1, o1, pp1, tt1, mn1⟩ | ⟨T1, M1, y1, r1, fs1, tt1, mn1⟩
  · have mm1 := MNr.trans hrl mn1
    have y1 : f_Tape_number T w 0 (nI (D 0 3) - 1) = some (nI v1, T1, w1) := y1
    have r1 : f_M_readNumber A M 0 (nI (D 0 3) - 1) = some (nI v1, M1) := r1
    rw [y1, r1, obs, obs, obs]
    rcases number_both (lo := 0) (hi := 100) hX o1 (by omega) (by omega) with ⟨v2, T2, w2, M2, p2, vl2, vh2, y2, r2, o2, pp2, tt2, mn2⟩ | ⟨T2, M2, y2, r2, fs2, tt2, mn2⟩
    · have mm2 := MNr.trans mm1 mn2
      rw [oI_99] at y2 r2
      have y2 : f_Tape_number T1 w1 0 (99) = some (nI v2, T2, w2) := y2
      have r2 : f_M_readNumber A M1 0 (99) = some (nI v2, M2) := r2
      rw [y2, r2, obs, obs]
      have hv1 : v1 < 10 := by omega
      have e32 : (6 : Int32) * nI v1 + 5 = nI (6 * v1 + 5) := ix6 v1 5
      have hi : ixx 60 (6 * nI v1 + 5) = some (6 * v1 + 5) := by rw [e32, ixx_nI (by omega) (by omega)]
      rw [(o2.f).2, obs, if_neg z10, hi, obs, obs]
      obtain ⟨a1, a2, a3, a4, a5, a6, a7, a8⟩ := hD.cg mm2
      refine CLend.ok (D' := updC D 6 v1 v2) (H := H) (H' := u2 H 6 v1 (nI v2)) hX (by omega) (o2.cg (M' := u2 M2 3 (6 * v1 + 5) (nI v2)) (fun c hc => by rw [u2_row _ _ (by decide)])) ⟨a1, a2, a3, a4, a5, fun m hm => ?_, fun m hm => ?_, a8⟩ ⟨⟨b1, b2⟩, b3, b4, b5, b6, b7, b8, b9, b10, b11, b12, b13, b14, b15, b16, b17, fun k => ?_, b19, b20, b21, b22⟩ (fun T' w' => ?_) (fun T' w' => if_pos rfl)
      · obtain ⟨c1, c2, c3, c4⟩ := a6 m hm
        exact ⟨c1, c2, by rw [u2_col _ _ (by omega)]; exact c3, by rw [u2_col _ _ (by omega)]; exact c4⟩
      · obtain ⟨c1, c2, c3, c4, c5, c6, c7⟩ := a7 m hm
        refine ⟨?_, c2, c3, ?_, ?_, ?_, ?_⟩
        · by_cases hqv : m = v1
          · subst hqv; rw [u2_same, upd_at]
          · rw [u2_col _ _ hqv, upd_ne hqv]; exact c1
        · rw [u2_col _ _ (by omega)]; exact c4
        · rw [u2_col _ _ (by omega)]; exact c5
        · rw [u2_col _ _ (by omega)]; exact c6
        · by_cases hqv : m = v1
          · subst hqv; rw [u2_same, upd_at]
          · rw [u2_col _ _ (by omega), upd_ne hqv]; exact c7
      · by_cases hqv : k = v1
        · subst hqv; rw [upd_at]; omega
        · rw [upd_ne hqv]; exact b18 k
      · show (if (1 : Int32) = 0 then _ else _) = _
        rw [if_neg z10, ixx_nI hv1 (by omega), obs]
    · have mm2 := MNr.trans mm1 mn2
      rw [oI_99] at y2 r2
      have y2 : f_Tape_number T1 w1 0 (99) = some (-1, T2, w1) := y2
      have r2 : f_M_readNumber A M1 0 (99) = some (0, M2) := r2
      have nf := fun ww lo hi => number_fail (w := ww) (A := A) hn fs2 lo hi
      rw [y2, obs]
      rw [r2, obs]
      rw [(fs2.f hn).2, obs, if_pos rfl, obs]
      exact CLend.bad (H := H) hn fs2 (fun _ _ => rfl) (fun T' w' => if_pos rfl)
  · have mm1 := MNr.trans hrl mn1
    have y1 : f_Tape_number T w 0 (nI (D 0 3) - 1) = some (-1, T1, w) := y1
    have r1 : f_M_readNumber A M 0 (nI (D 0 3) - 1) = some (0, M1) := r1
    have nf := fun ww lo hi => number_fail (w := ww) (A := A) hn fs1 lo hi
    rw [y1, obs, (nf _ _ _).1, obs]
    rw [r1, obs, obs]
    rw [(nf 0 _ _).2, obs]
    rw [(fs1.f hn).2, obs, if_pos rfl, obs]
    exact CLend.bad (H := H) hn fs1 (fun _ _ => rfl) (fun T' w' => if_pos rfl)
end
