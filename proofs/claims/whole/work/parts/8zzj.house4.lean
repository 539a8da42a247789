/-! PURE MATH: house: meet, hold -/
/-- the reference's own ends of these two -/
def tl_meet (A : Nat → Nat → Int32) (x : Int32) (M : Nat → Nat → Int32) : Option (Nat → Nat → Int32) := (ixx 60 (6 * (M 0 21))).bind fun j16 => (f_M_readNumber A (u2 M 3 j16 x) 0 99).bind fun c8 => (ixx 60 ((6 * ((u2 M 3 j16 x) 0 21)) + 1)).bind fun j19 => some (u2 (u2 c8.2 3 j19 c8.1) 0 21 (((u2 c8.2 3 j19 c8.1) 0 21) + 1))
def tl_hold (A : Nat → Nat → Int32) (x : Int32) (M : Nat → Nat → Int32) : Option (Nat → Nat → Int32) := (ixx 16 (4 * (M 0 22))).bind fun j8 => (f_M_readNumber A (u2 M 4 j8 x) 0 16).bind fun c6 => (ixx 16 ((4 * ((u2 M 4 j8 x) 0 22)) + 1)).bind fun j11 => (f_M_readNumber A (u2 c6.2 4 j11 c6.1) 0 99).bind fun c7 => (ixx 16 ((4 * ((u2 c6.2 4 j11 c6.1) 0 22)) + 2)).bind fun j14 => (ixx 16 ((4 * ((u2 c7.2 4 j14 c7.1) 0 22)) + 3)).bind fun j15 => some (u2 (u2 (u2 c7.2 4 j14 c7.1) 4 j15 0) 0 22 (((u2 (u2 c7.2 4 j14 c7.1) 4 j15 0) 0 22) + 1))
def rp_mh (A : Nat → Nat → Int32) (P : Int32) (M : Nat → Nat → Int32) : Option (Nat → Nat → Int32) := (f_M_readHour A M).bind fun c3 => (f_M_readNumber A c3.2 0 ((c3.2 0 19) - 1)).bind fun c4 => (f_M_of 2649).bind fun x7 => if P ≠ x7 then tl_hold A ((3 * c3.1) + c4.1) c4.2 else tl_meet A ((3 * c3.1) + c4.1) c4.2
section
variable {b : Nat → Nat} {n p w : Nat} {A T M H : Nat → Nat → Int32} {D : CS}
theorem tlm_bad (hn : n ≤ 600) (h : FSt n T M) {K : Nat} (hK : K < 10) (h21 : M 0 21 = nI K) (x : Int32) : ∃ M', tl_meet A x M = some M' ∧ ∀ c, c ≤ 6 → M' 0 c = M 0 c := by
  have i0 : ixx 60 (6 * nI K) = some (6 * K) := by rw [show (6 : Int32) * nI K = nI (6 * K) from na_mul 6 _, ixx_nI (by omega) (by omega)]
  have i1 : ixx 60 (6 * nI K + 1) = some (6 * K + 1) := by rw [show (6 : Int32) * nI K + 1 = nI (6 * K + 1) from ix6 _ 1, ixx_nI (by omega) (by omega)]
  have h' := h.cg (M' := u2 M 3 (6 * K) x) (fun c _ => by rw [u2_row _ _ (by decide)])
  unfold tl_meet
  rw [h21, i0, obs, (number_fail (w := 0) (A := A) hn h' 0 99).2, obs, u2_row _ _ (by decide), h21, i1, obs]
  refine ⟨_, rfl, fun c hc => ?_⟩
  rw [u2_col _ _ (by omega), u2_row _ _ (by decide)]
  show u2 M 3 (6 * K) x 0 c = _
  rw [u2_row _ _ (by decide)]
theorem tlh_bad (hn : n ≤ 600) (h : FSt n T M) {K : Nat} (hK : K < 4) (h22 : M 0 22 = nI K) (x : Int32) : ∃ M', tl_hold A x M = some M' ∧ ∀ c, c ≤ 6 → M' 0 c = M 0 c := by
  have i0 : ixx 16 (4 * nI K) = some (4 * K) := by rw [show (4 : Int32) * nI K = nI (4 * K) from na_mul 4 _, ixx_nI (by omega) (by omega)]
  have i1 : ixx 16 (4 * nI K + 1) = some (4 * K + 1) := by rw [show (4 : Int32) * nI K + 1 = nI (4 * K + 1) from ix4 _ 1, ixx_nI (by omega) (by omega)]
  have i2 : ixx 16 (4 * nI K + 2) = some (4 * K + 2) := by rw [show (4 : Int32) * nI K + 2 = nI (4 * K + 2) from ix4 _ 2, ixx_nI (by omega) (by omega)]
  have i3 : ixx 16 (4 * nI K + 3) = some (4 * K + 3) := by rw [show (4 : Int32) * nI K + 3 = nI (4 * K + 3) from ix4 _ 3, ixx_nI (by omega) (by omega)]
  have h' := h.cg (M' := u2 M 4 (4 * K) x) (fun c _ => by rw [u2_row _ _ (by decide)])
  have h'' := h.cg (M' := u2 (u2 M 4 (4 * K) x) 4 (4 * K + 1) 0) (fun c _ => by rw [u2_row _ _ (by decide), u2_row _ _ (by decide)])
  have e1 : u2 M 4 (4 * K) x 0 22 = nI K := by rw [u2_row _ _ (by decide), h22]
  have e2 : u2 (u2 M 4 (4 * K) x) 4 (4 * K + 1) 0 0 22 = nI K := by rw [u2_row _ _ (by decide), e1]
  have e3 : u2 (u2 (u2 M 4 (4 * K) x) 4 (4 * K + 1) 0) 4 (4 * K + 2) 0 0 22 = nI K := by rw [u2_row _ _ (by decide), e2]
  unfold tl_hold
  rw [h22, i0, obs, (number_fail (w := 0) (A := A) hn h' 0 16).2, obs]
  dsimp only
  rw [e1, i1, obs, (number_fail (w := 0) (A := A) hn h'' 0 99).2, obs]
  dsimp only
  rw [e2, i2, obs, e3, i3, obs]
  exact ⟨_, rfl, fun c hc => by rw [u2_col _ _ (by omega), u2_row _ _ (by decide), u2_row _ _ (by decide), u2_row _ _ (by decide), u2_row _ _ (by decide)]⟩
theorem cl_meet (hX : TXt b n A) (h : OSt b n p T w M) (hD : NH D H M) (hW : WD D) (hc : D 0 3 < 10) :
    CLend b n p H (f_House_readMeet T H w) ((rp_mh A (nI (cdT 4)) M).bind fun M1 => f_M_sign A M1 59) := by
  have z10 : ¬ (1 : Int32) = 0 := by decide
  have hn := hX.2.1
  have h00 : H 0 0 = nI (D 0 0) := (hD.1 0 (by omega)).1
  have h01 : H 0 1 = nI (D 0 1) := (hD.1 1 (by omega)).1
  have h03 : H 0 3 = nI (D 0 3) := (hD.1 3 (by omega)).1
  have m19 : M 0 19 = nI (D 0 1) := (hD.1 1 (by omega)).2
  have m21 : M 0 21 = nI (D 0 3) := (hD.1 3 (by omega)).2
  have i0 : ixx 60 (6 * nI (D 0 3)) = some (6 * D 0 3) := by rw [show (6 : Int32) * nI (D 0 3) = nI (6 * D 0 3) from na_mul 6 _, ixx_nI (by omega) (by omega)]
  have i1 : ixx 60 (6 * nI (D 0 3) + 1) = some (6 * D 0 3 + 1) := by rw [show (6 : Int32) * nI (D 0 3) + 1 = nI (6 * D 0 3 + 1) from ix6 _ 1, ixx_nI (by omega) (by omega)]
  obtain ⟨⟨b1, b2⟩, b3, b4, b5, b6, b7, b8, b9, b10, b11, b12, b13, b14, b15, b16, b17, b18, b19, b20, b21, b22⟩ := hW
  unfold f_House_readMeet rp_mh
  rw [h00, h01, rd_hour hD (MNr.refl M)]
  rcases number_both (lo := 0) (hi := D 0 0) hX h (by omega) (by omega) with ⟨v1, T1, w1, M1, p1, _, vh1, y1, r1, o1, pp1, tt1, mm1⟩ | ⟨T1, M1, y1, r1, fs1, tt1, mm1⟩
  · have y1 : f_Tape_number T w 0 (nI (D 0 0) - 1) = some (nI v1, T1, w1) := y1
    have r1 : f_M_readNumber A M 0 (nI (D 0 0) - 1) = some (nI v1, M1) := r1
    rw [y1, r1, obs, obs, obs]
    dsimp only
    rw [mm1.r0 (c := 19) (by omega), m19]
    rcases number_both (lo := 0) (hi := D 0 1) hX o1 (by omega) (by omega) with ⟨v2, T2, w2, M2, p2, _, vh2, y2, r2, o2, pp2, tt2, mn2⟩ | ⟨T2, M2, y2, r2, fs2, tt2, mn2⟩
    · have y2 : f_Tape_number T1 w1 0 (nI (D 0 1) - 1) = some (nI v2, T2, w2) := y2
      have r2 : f_M_readNumber A M1 0 (nI (D 0 1) - 1) = some (nI v2, M2) := r2
      have mm2 := mm1.trans mn2
      rw [y2, r2, obs, obs, M_ofs.2.2.1, obs, if_neg (fun h => h rfl), (pl_of v1 v2).2]
      unfold tl_meet
      dsimp only
      rw [mm2.r0 (c := 21) (by omega), m21, i0, obs]
      have m21a : u2 M2 3 (6 * D 0 3) (nI (3 * v1 + v2)) 0 21 = nI (D 0 3) := by rw [u2_row _ _ (by decide), mm2.r0 (by omega), m21]
      rcases number_both (lo := 0) (hi := 100) hX (o2.cg (M' := u2 M2 3 (6 * D 0 3) (nI (3 * v1 + v2))) (fun c _ => by rw [u2_row _ _ (by decide)])) (by omega) (by omega) with ⟨v3, T3, w3, M3, p3, _, vh3, y3, r3, o3, pp3, tt3, mm3⟩ | ⟨T3, M3, y3, r3, fs3, tt3, mm3⟩
      · rw [oI_99] at y3 r3
        have y3 : f_Tape_number T2 w2 0 99 = some (nI v3, T3, w3) := y3
        have r3 : f_M_readNumber A (u2 M2 3 (6 * D 0 3) (nI (3 * v1 + v2))) 0 99 = some (nI v3, M3) := r3
        have m21b : u2 M3 3 (6 * D 0 3 + 1) (nI v3) 0 21 = nI (D 0 3) := by rw [u2_row _ _ (by decide), mm3.r0 (by omega), m21a]
        rw [y3, r3, obs, obs]
        dsimp only
        rw [m21a, i1, obs, obs, m21b, ← nI_succ]
        obtain ⟨a1, a2, a3, a4, a5, a6, a7, a8⟩ := hD.cg mm2
        have q3 : ∀ k, M3 3 k = if k = 6 * D 0 3 then nI (3 * v1 + v2) else M2 3 k := fun k => by rw [mm3 3 k (by omega), u2_at]
        have q1 : M3 1 = M2 1 := mm3.row (a := 1) (by decide)
        have q2 : M3 2 = M2 2 := mm3.row (a := 2) (by decide)
        have q4 : M3 4 = M2 4 := mm3.row (a := 4) (by decide)
        refine CLend.ok (D' := updC (updC (updC D 5 (D 0 3) (3 * v1 + v2)) 7 (D 0 3) v3) 0 3 (D 0 3 + 1)) (H := H) (H' := u2 (u2 (u2 H 5 (D 0 3) (nI (3 * v1 + v2))) 7 (D 0 3) (nI v3)) 0 3 (nI (D 0 3 + 1))) hX (by omega) (o3.cg (M' := u2 (u2 M3 3 (6 * D 0 3 + 1) (nI v3)) 0 21 (nI (D 0 3 + 1))) (fun c hc => by rw [u2_col _ _ (by omega), u2_row _ _ (by decide)]))
          ⟨N1_inc a1 3 (D 0 3 + 1) (fun j => ?_) (fun j => ?_) (fun j => ?_), a2, ?_, ?_, a5, fun q hq => ?_, fun q hq => ?_, ?_⟩ ⟨⟨b1, b2⟩, b3, b4, hc, b6, b7, b8, b9, b10, fun k => ?_, b12, b13, b14, b15, b16, b17, b18, fun q hq => ?_, b20, fun q hq => ?_, b22⟩ (fun T' w' => ?_) (fun T' w' => if_pos rfl)
        · rw [u2_at]
          by_cases hj : j = 3
          · rw [if_pos hj, if_pos hj]
          · rw [if_neg hj, if_neg hj, u2_row _ _ (by decide), u2_row _ _ (by decide)]
        · rw [u2_at]
          by_cases hj : j = 3
          · rw [if_pos (by omega), if_pos hj]
          · rw [if_neg (by omega), if_neg hj, u2_row _ _ (by decide)]
            show M3 0 (18 + j) = _
            rw [mm3.r0 (by omega), u2_row _ _ (by decide)]
        · rw [upd_if]
          by_cases hj : j = 3
          · rw [if_pos hj, if_pos hj]
          · rw [if_neg hj, if_neg hj]; rfl
        · show N3 (H 1) (M3 1) (D 1) (D 0 1)
          rw [q1]; exact a3
        · show N4 (H 2) (H 3) (M3 2) (D 2) (D 3) (D 4) (D 0 2)
          rw [q2]; exact a4
        · have hq : q < D 0 3 + 1 := hq
          show u2 H 5 (D 0 3) (nI (3 * v1 + v2)) 5 q = nI (updC D 5 (D 0 3) (3 * v1 + v2) 5 q) ∧ u2 (u2 H 5 (D 0 3) (nI (3 * v1 + v2))) 7 (D 0 3) (nI v3) 7 q = nI (updC (updC D 5 (D 0 3) (3 * v1 + v2)) 7 (D 0 3) v3 7 q) ∧ u2 M3 3 (6 * D 0 3 + 1) (nI v3) 3 (6 * q) = nI (updC D 5 (D 0 3) (3 * v1 + v2) 5 q) ∧ u2 M3 3 (6 * D 0 3 + 1) (nI v3) 3 (6 * q + 1) = nI (updC (updC D 5 (D 0 3) (3 * v1 + v2)) 7 (D 0 3) v3 7 q)
          rw [u2_at, u2_at, u2_at, u2_at, upd_if, upd_if, q3, q3]
          by_cases hqp : q = D 0 3
          · subst hqp
            rw [if_pos rfl, if_pos rfl, if_pos rfl, if_pos rfl, if_neg (by omega), if_pos rfl, if_pos rfl]
            exact ⟨rfl, rfl, rfl, rfl⟩
          · obtain ⟨c1, c2, c3, c4⟩ := a6 q (by omega)
            rw [if_neg hqp, if_neg hqp, if_neg hqp, if_neg hqp, if_neg (by omega), if_neg (by omega), if_neg (by omega), if_neg (by omega)]
            exact ⟨c1, c2, c3, c4⟩
        · obtain ⟨c1, c2, c3, c4, c5, c6, c7⟩ := a7 q hq
          show H 6 q = nI (D 6 q) ∧ H 8 q = nI (D 8 q) ∧ H 9 q = nI (D 9 q) ∧ u2 M3 3 (6 * D 0 3 + 1) (nI v3) 3 (6 * q + 2) = nI (D 8 q) ∧ u2 M3 3 (6 * D 0 3 + 1) (nI v3) 3 (6 * q + 3) = nI (D 9 q) ∧ u2 M3 3 (6 * D 0 3 + 1) (nI v3) 3 (6 * q + 4) = nI (D 10 q) ∧ u2 M3 3 (6 * D 0 3 + 1) (nI v3) 3 (6 * q + 5) = nI (D 6 q)
          rw [u2_at, u2_at, u2_at, u2_at, q3, q3, q3, q3, if_neg (by omega), if_neg (by omega), if_neg (by omega), if_neg (by omega), if_neg (by omega), if_neg (by omega), if_neg (by omega), if_neg (by omega)]
          exact ⟨c1, c2, c3, c4, c5, c6, c7⟩
        · show N8 (H 11) (H 12) (M3 4) (D 11) (D 12) (D 13) (D 0 4)
          rw [q4]; exact a8
        · show updC (updC D 5 (D 0 3) (3 * v1 + v2)) 7 (D 0 3) v3 7 k ≤ 99
          rw [upd_if]
          split
          · omega
          · exact b11 k
        · have hq : q < D 0 3 + 1 := hq
          show okP D (updC D 5 (D 0 3) (3 * v1 + v2) 5 q + 1)
          rw [upd_if]
          by_cases hqp : q = D 0 3
          · rw [if_pos hqp]
            refine ⟨by omega, fun _ => ⟨?_, ?_⟩⟩ <;> omega
          · rw [if_neg hqp]; exact b19 q (by omega)
        · exact Nat.lt_succ_of_lt (b21 q hq)
        · show (if (1 : Int32) = 0 then _ else if (10 : Int32) ≤ H 0 3 then _ else (f_Y_placeOf (nI v1) (nI v2)).bind fun x13 => (ixx 10 (H 0 3)).bind fun j14 => (ixx 10 ((u2 H 5 j14 x13) 0 3)).bind fun j15 => some (T', (u2 (u2 (u2 H 5 j14 x13) 7 j15 (nI v3)) 0 3 (((u2 (u2 H 5 j14 x13) 7 j15 (nI v3)) 0 3) + 1)), w')) = _
          unfold f_Y_placeOf
          rw [if_neg z10, h03, if_neg (show ¬ (10 : Int32) ≤ nI (D 0 3) from nI_ge (b := 10) hc (by omega)), obs, (pl_of v1 v2).1, ixx_nI hc (by omega), obs, u2_row _ _ (by decide), h03, ixx_nI hc (by omega), obs, u2_row _ _ (by decide), u2_row _ _ (by decide), h03, ← nI_succ]
      · rw [oI_99] at y3 r3
        have y3 : f_Tape_number T2 w2 0 99 = some (-1, T3, w2) := y3
        have r3 : f_M_readNumber A (u2 M2 3 (6 * D 0 3) (nI (3 * v1 + v2))) 0 99 = some (0, M3) := r3
        rw [y3, r3, obs, obs]
        dsimp only
        rw [m21a, i1, obs, obs]
        exact CLend.bad (H := H) hn fs3 (fun c hc => by rw [u2_col _ _ (by omega), u2_row _ _ (by decide)]) (fun T' w' => if_pos rfl)
    · have y2 : f_Tape_number T1 w1 0 (nI (D 0 1) - 1) = some (-1, T2, w1) := y2
      have r2 : f_M_readNumber A M1 0 (nI (D 0 1) - 1) = some (0, M2) := r2
      obtain ⟨M3, t1, t2⟩ := tlm_bad (A := A) hn fs2 hc (by rw [(mm1.trans mn2).r0 (by omega), m21]) ((3 : Int32) * nI v1 + 0)
      rw [y2, r2, obs, obs, M_ofs.2.2.1, obs, if_neg (fun h => h rfl), (number_fail (w := w1) (A := A) hn fs2 0 99).1, obs, t1, obs]
      exact CLend.bad (H := H) hn fs2 t2 (fun T' w' => if_pos rfl)
  · have y1 : f_Tape_number T w 0 (nI (D 0 0) - 1) = some (-1, T1, w) := y1
    have r1 : f_M_readNumber A M 0 (nI (D 0 0) - 1) = some (0, M1) := r1
    have nf := fun ww lo hi => number_fail (w := ww) (A := A) hn fs1 lo hi
    obtain ⟨M3, t1, t2⟩ := tlm_bad (A := A) hn fs1 hc (by rw [mm1.r0 (by omega), m21]) ((3 : Int32) * 0 + 0)
    rw [y1, r1, obs, obs, obs, (nf _ _ _).1, (nf 0 _ _).2, obs, obs, M_ofs.2.2.1, obs, if_neg (fun h => h rfl), (nf _ _ _).1, obs, t1, obs]
    exact CLend.bad (H := H) hn fs1 t2 (fun T' w' => if_pos rfl)
theorem cl_hold (hX : TXt b n A) (h : OSt b n p T w M) (hD : NH D H M) (hW : WD D) (hc : D 0 4 < 4) {P : Int32} (hP : P ≠ nI (cdT 4)) :
    CLend b n p H (f_House_readHold T H w) ((rp_mh A P M).bind fun M1 => f_M_sign A M1 59) := by
  have z10 : ¬ (1 : Int32) = 0 := by decide
  have hn := hX.2.1
  have h00 : H 0 0 = nI (D 0 0) := (hD.1 0 (by omega)).1
  have h01 : H 0 1 = nI (D 0 1) := (hD.1 1 (by omega)).1
  have h04 : H 0 4 = nI (D 0 4) := (hD.1 4 (by omega)).1
  have m19 : M 0 19 = nI (D 0 1) := (hD.1 1 (by omega)).2
  have m22 : M 0 22 = nI (D 0 4) := (hD.1 4 (by omega)).2
  have i0 : ixx 16 (4 * nI (D 0 4)) = some (4 * D 0 4) := by rw [show (4 : Int32) * nI (D 0 4) = nI (4 * D 0 4) from na_mul 4 _, ixx_nI (by omega) (by omega)]
  have i1 : ixx 16 (4 * nI (D 0 4) + 1) = some (4 * D 0 4 + 1) := by rw [show (4 : Int32) * nI (D 0 4) + 1 = nI (4 * D 0 4 + 1) from ix4 _ 1, ixx_nI (by omega) (by omega)]
  have i2 : ixx 16 (4 * nI (D 0 4) + 2) = some (4 * D 0 4 + 2) := by rw [show (4 : Int32) * nI (D 0 4) + 2 = nI (4 * D 0 4 + 2) from ix4 _ 2, ixx_nI (by omega) (by omega)]
  have i3 : ixx 16 (4 * nI (D 0 4) + 3) = some (4 * D 0 4 + 3) := by rw [show (4 : Int32) * nI (D 0 4) + 3 = nI (4 * D 0 4 + 3) from ix4 _ 3, ixx_nI (by omega) (by omega)]
  obtain ⟨⟨b1, b2⟩, b3, b4, b5, b6, b7, b8, b9, b10, b11, b12, b13, b14, b15, b16, b17, b18, b19, b20, b21, b22⟩ := hW
  unfold f_House_readHold rp_mh
  rw [h00, h01, rd_hour hD (MNr.refl M)]
  rcases number_both (lo := 0) (hi := D 0 0) hX h (by omega) (by omega) with ⟨v1, T1, w1, M1, p1, _, vh1, y1, r1, o1, pp1, tt1, mm1⟩ | ⟨T1, M1, y1, r1, fs1, tt1, mm1⟩
  · have y1 : f_Tape_number T w 0 (nI (D 0 0) - 1) = some (nI v1, T1, w1) := y1
    have r1 : f_M_readNumber A M 0 (nI (D 0 0) - 1) = some (nI v1, M1) := r1
    rw [y1, r1, obs, obs, obs]
    dsimp only
    rw [mm1.r0 (c := 19) (by omega), m19]
    rcases number_both (lo := 0) (hi := D 0 1) hX o1 (by omega) (by omega) with ⟨v2, T2, w2, M2, p2, _, vh2, y2, r2, o2, pp2, tt2, mn2⟩ | ⟨T2, M2, y2, r2, fs2, tt2, mn2⟩
    · have y2 : f_Tape_number T1 w1 0 (nI (D 0 1) - 1) = some (nI v2, T2, w2) := y2
      have r2 : f_M_readNumber A M1 0 (nI (D 0 1) - 1) = some (nI v2, M2) := r2
      have mm2 := mm1.trans mn2
      rw [y2, r2, obs, obs, M_ofs.2.2.1, obs, if_pos hP, (pl_of v1 v2).2]
      unfold tl_hold
      dsimp only
      rw [mm2.r0 (c := 22) (by omega), m22, i0, obs]
      have m22a : u2 M2 4 (4 * D 0 4) (nI (3 * v1 + v2)) 0 22 = nI (D 0 4) := by rw [u2_row _ _ (by decide), mm2.r0 (by omega), m22]
      rcases number_both (lo := 0) (hi := 17) hX (o2.cg (M' := u2 M2 4 (4 * D 0 4) (nI (3 * v1 + v2))) (fun c _ => by rw [u2_row _ _ (by decide)])) (by omega) (by omega) with ⟨v3, T3, w3, M3, p3, _, vh3, y3, r3, o3, pp3, tt3, mm3⟩ | ⟨T3, M3, y3, r3, fs3, tt3, mm3⟩
      · rw [oI_16] at y3 r3
        have y3 : f_Tape_number T2 w2 0 16 = some (nI v3, T3, w3) := y3
        have r3 : f_M_readNumber A (u2 M2 4 (4 * D 0 4) (nI (3 * v1 + v2))) 0 16 = some (nI v3, M3) := r3
        have m22b : u2 M3 4 (4 * D 0 4 + 1) (nI v3) 0 22 = nI (D 0 4) := by rw [u2_row _ _ (by decide), mm3.r0 (by omega), m22a]
        rw [y3, r3, obs, obs]
        dsimp only
        rw [m22a, i1, obs]
        rcases number_both (lo := 0) (hi := 100) hX (o3.cg (M' := u2 M3 4 (4 * D 0 4 + 1) (nI v3)) (fun c _ => by rw [u2_row _ _ (by decide)])) (by omega) (by omega) with ⟨v4, T4, w4, M4, p4, _, vh4, y4, r4, o4, pp4, tt4, mm4⟩ | ⟨T4, M4, y4, r4, fs4, tt4, mm4⟩
        · rw [oI_99] at y4 r4
          have y4 : f_Tape_number T3 w3 0 99 = some (nI v4, T4, w4) := y4
          have r4 : f_M_readNumber A (u2 M3 4 (4 * D 0 4 + 1) (nI v3)) 0 99 = some (nI v4, M4) := r4
          have m22c : u2 M4 4 (4 * D 0 4 + 2) (nI v4) 0 22 = nI (D 0 4) := by rw [u2_row _ _ (by decide), mm4.r0 (by omega), m22b]
          have m22d : u2 (u2 M4 4 (4 * D 0 4 + 2) (nI v4)) 4 (4 * D 0 4 + 3) 0 0 22 = nI (D 0 4) := by rw [u2_row _ _ (by decide), m22c]
          rw [y4, r4, obs, obs]
          dsimp only
          rw [m22b, i2, obs, m22c, i3, obs, obs, m22d, ← nI_succ]
          obtain ⟨a1, a2, a3, a4, a5, a6, a7, a8⟩ := hD.cg mm2
          have q4 : ∀ k, M4 4 k = if k = 4 * D 0 4 + 1 then nI v3 else if k = 4 * D 0 4 then nI (3 * v1 + v2) else M2 4 k := fun k => by rw [mm4 4 k (by omega), u2_at, mm3 4 k (by omega), u2_at]
          have q1 : M4 1 = M2 1 := (mm4.row (a := 1) (by decide)).trans (mm3.row (a := 1) (by decide))
          have q2 : M4 2 = M2 2 := (mm4.row (a := 2) (by decide)).trans (mm3.row (a := 2) (by decide))
          have q3 : M4 3 = M2 3 := (mm4.row (a := 3) (by decide)).trans (mm3.row (a := 3) (by decide))
          refine CLend.ok (D' := updC (updC (updC (updC D 11 (D 0 4) (3 * v1 + v2)) 12 (D 0 4) v3) 13 (D 0 4) v4) 0 4 (D 0 4 + 1)) (H := H) (H' := u2 (u2 (u2 H 11 (D 0 4) (nI (3 * v1 + v2))) 12 (D 0 4) (nI (v3 * v4))) 0 4 (nI (D 0 4 + 1))) hX (by omega) (o4.cg (M' := u2 (u2 (u2 M4 4 (4 * D 0 4 + 2) (nI v4)) 4 (4 * D 0 4 + 3) 0) 0 22 (nI (D 0 4 + 1))) (fun c hc => by rw [u2_col _ _ (by omega), u2_row _ _ (by decide), u2_row _ _ (by decide)]))
            ⟨N1_inc a1 4 (D 0 4 + 1) (fun j => ?_) (fun j => ?_) (fun j => ?_), a2, ?_, ?_, a5, ?_, ?_, fun q hq => ?_⟩ ⟨⟨b1, b2⟩, b3, b4, b5, hc, b7, b8, b9, b10, b11, b12, b13, b14, fun k => ?_, fun k => ?_, fun k => ?_, b18, b19, fun q hq => ?_, b21, b22⟩ (fun T' w' => ?_) (fun T' w' => if_pos rfl)
          · rw [u2_at]
            by_cases hj : j = 4
            · rw [if_pos hj, if_pos hj]
            · rw [if_neg hj, if_neg hj, u2_row _ _ (by decide), u2_row _ _ (by decide)]
          · rw [u2_at]
            by_cases hj : j = 4
            · rw [if_pos (by omega), if_pos hj]
            · rw [if_neg (by omega), if_neg hj, u2_row _ _ (by decide), u2_row _ _ (by decide)]
              show M4 0 (18 + j) = _
              rw [mm4.r0 (by omega), u2_row _ _ (by decide), mm3.r0 (by omega), u2_row _ _ (by decide)]
          · rw [upd_if]
            by_cases hj : j = 4
            · rw [if_pos hj, if_pos hj]
            · rw [if_neg hj, if_neg hj]; rfl
          · show N3 (H 1) (M4 1) (D 1) (D 0 1)
            rw [q1]; exact a3
          · show N4 (H 2) (H 3) (M4 2) (D 2) (D 3) (D 4) (D 0 2)
            rw [q2]; exact a4
          · show N6 (H 5) (H 7) (M4 3) (D 5) (D 7) (D 0 3)
            rw [q3]; exact a6
          · show N7 (H 6) (H 8) (H 9) (M4 3) (D 6) (D 8) (D 9) (D 10)
            rw [q3]; exact a7
          · have hq : q < D 0 4 + 1 := hq
            show u2 H 11 (D 0 4) (nI (3 * v1 + v2)) 11 q = nI (updC D 11 (D 0 4) (3 * v1 + v2) 11 q) ∧ u2 (u2 H 11 (D 0 4) (nI (3 * v1 + v2))) 12 (D 0 4) (nI (v3 * v4)) 12 q = nI (updC (updC D 11 (D 0 4) (3 * v1 + v2)) 12 (D 0 4) v3 12 q * updC (updC (updC D 11 (D 0 4) (3 * v1 + v2)) 12 (D 0 4) v3) 13 (D 0 4) v4 13 q) ∧ u2 (u2 M4 4 (4 * D 0 4 + 2) (nI v4)) 4 (4 * D 0 4 + 3) 0 4 (4 * q) = nI (updC D 11 (D 0 4) (3 * v1 + v2) 11 q) ∧ u2 (u2 M4 4 (4 * D 0 4 + 2) (nI v4)) 4 (4 * D 0 4 + 3) 0 4 (4 * q + 1) = nI (updC (updC D 11 (D 0 4) (3 * v1 + v2)) 12 (D 0 4) v3 12 q) ∧ u2 (u2 M4 4 (4 * D 0 4 + 2) (nI v4)) 4 (4 * D 0 4 + 3) 0 4 (4 * q + 2) = nI (updC (updC (updC D 11 (D 0 4) (3 * v1 + v2)) 12 (D 0 4) v3) 13 (D 0 4) v4 13 q) ∧ u2 (u2 M4 4 (4 * D 0 4 + 2) (nI v4)) 4 (4 * D 0 4 + 3) 0 4 (4 * q + 3) = 0
            simp only [u2_at, upd_if, q4]
            by_cases hqp : q = D 0 4
            · subst hqp
              simp only [if_pos]
              refine ⟨trivial, trivial, ?_, ?_, ?_, trivial⟩
              · rw [if_neg (by omega), if_neg (by omega), if_neg (by omega)]
              · rw [if_neg (by omega), if_neg (by omega)]
              · rw [if_neg (by omega)]
            · obtain ⟨c1, c2, c3, c4, c5, c6⟩ := a8 q (by omega)
              simp only [if_neg hqp]
              refine ⟨c1, c2, ?_, ?_, ?_, ?_⟩
              · rw [if_neg (by omega), if_neg (by omega), if_neg (by omega), if_neg (by omega)]; exact c3
              · rw [if_neg (by omega), if_neg (by omega), if_neg (by omega), if_neg (by omega)]; exact c4
              · rw [if_neg (by omega), if_neg (by omega), if_neg (by omega), if_neg (by omega)]; exact c5
              · rw [if_neg (by omega), if_neg (by omega), if_neg (by omega), if_neg (by omega)]; exact c6
          · show updC D 11 (D 0 4) (3 * v1 + v2) 11 k < 30
            rw [upd_if]
            split
            · omega
            · exact b15 k
          · show updC (updC D 11 (D 0 4) (3 * v1 + v2)) 12 (D 0 4) v3 12 k ≤ 16
            rw [upd_if]
            split
            · omega
            · exact b16 k
          · show updC (updC (updC D 11 (D 0 4) (3 * v1 + v2)) 12 (D 0 4) v3) 13 (D 0 4) v4 13 k ≤ 99
            rw [upd_if]
            split
            · omega
            · exact b17 k
          · have hq : q < D 0 4 + 1 := hq
            show okP D (updC D 11 (D 0 4) (3 * v1 + v2) 11 q + 1)
            rw [upd_if]
            by_cases hqp : q = D 0 4
            · rw [if_pos hqp]
              refine ⟨by omega, fun _ => ⟨?_, ?_⟩⟩ <;> omega
            · rw [if_neg hqp]; exact b20 q (by omega)
          · show (if (1 : Int32) = 0 then _ else if (4 : Int32) ≤ H 0 4 then _ else (f_Y_placeOf (nI v1) (nI v2)).bind fun x16 => (ixx 4 (H 0 4)).bind fun j17 => (ixx 4 ((u2 H 11 j17 x16) 0 4)).bind fun j18 => some (T', (u2 (u2 (u2 H 11 j17 x16) 12 j18 (nI v3 * nI v4)) 0 4 (((u2 (u2 H 11 j17 x16) 12 j18 (nI v3 * nI v4)) 0 4) + 1)), w')) = _
            unfold f_Y_placeOf
            rw [if_neg z10, h04, if_neg (show ¬ (4 : Int32) ≤ nI (D 0 4) from nI_ge (b := 4) hc (by omega)), obs, (pl_of v1 v2).1, ixx_nI hc (by omega), obs, u2_row _ _ (by decide), h04, ixx_nI hc (by omega), obs, u2_row _ _ (by decide), u2_row _ _ (by decide), h04, ← nI_succ, na_mul]
        · rw [oI_99] at y4 r4
          have y4 : f_Tape_number T3 w3 0 99 = some (-1, T4, w3) := y4
          have r4 : f_M_readNumber A (u2 M3 4 (4 * D 0 4 + 1) (nI v3)) 0 99 = some (0, M4) := r4
          have m22c : u2 M4 4 (4 * D 0 4 + 2) 0 0 22 = nI (D 0 4) := by rw [u2_row _ _ (by decide), mm4.r0 (by omega), m22b]
          rw [y4, r4, obs, obs]
          dsimp only
          rw [m22b, i2, obs, m22c, i3, obs, obs]
          exact CLend.bad (H := H) hn fs4 (fun c hc => by rw [u2_col _ _ (by omega), u2_row _ _ (by decide), u2_row _ _ (by decide)]) (fun T' w' => if_pos rfl)
      · rw [oI_16] at y3 r3
        have y3 : f_Tape_number T2 w2 0 16 = some (-1, T3, w2) := y3
        have r3 : f_M_readNumber A (u2 M2 4 (4 * D 0 4) (nI (3 * v1 + v2))) 0 16 = some (0, M3) := r3
        have m22b : u2 M3 4 (4 * D 0 4 + 1) 0 0 22 = nI (D 0 4) := by rw [u2_row _ _ (by decide), mm3.r0 (by omega), m22a]
        have m22c : u2 (u2 M3 4 (4 * D 0 4 + 1) 0) 4 (4 * D 0 4 + 2) 0 0 22 = nI (D 0 4) := by rw [u2_row _ _ (by decide), m22b]
        have fs3' := fs3.cg (M' := u2 M3 4 (4 * D 0 4 + 1) 0) (fun c _ => by rw [u2_row _ _ (by decide)])
        rw [y3, r3, obs, obs]
        dsimp only
        rw [m22a, i1, obs, (number_fail (w := w2) (A := A) hn fs3' 0 99).1, (number_fail (w := w2) (A := A) hn fs3' 0 99).2, obs, obs]
        dsimp only
        rw [m22b, i2, obs, m22c, i3, obs, obs]
        exact CLend.bad (H := H) hn fs3 (fun c hc => by rw [u2_col _ _ (by omega), u2_row _ _ (by decide), u2_row _ _ (by decide), u2_row _ _ (by decide)]) (fun T' w' => if_pos rfl)
    · have y2 : f_Tape_number T1 w1 0 (nI (D 0 1) - 1) = some (-1, T2, w1) := y2
      have r2 : f_M_readNumber A M1 0 (nI (D 0 1) - 1) = some (0, M2) := r2
      have nf := fun ww lo hi => number_fail (w := ww) (A := A) hn fs2 lo hi
      obtain ⟨M3, t1, t2⟩ := tlh_bad (A := A) hn fs2 hc (by rw [(mm1.trans mn2).r0 (by omega), m22]) ((3 : Int32) * nI v1 + 0)
      rw [y2, r2, obs, obs, M_ofs.2.2.1, obs, if_pos hP, (nf _ _ _).1, obs, (nf _ _ _).1, obs, t1, obs]
      exact CLend.bad (H := H) hn fs2 t2 (fun T' w' => if_pos rfl)
  · have y1 : f_Tape_number T w 0 (nI (D 0 0) - 1) = some (-1, T1, w) := y1
    have r1 : f_M_readNumber A M 0 (nI (D 0 0) - 1) = some (0, M1) := r1
    have nf := fun ww lo hi => number_fail (w := ww) (A := A) hn fs1 lo hi
    obtain ⟨M3, t1, t2⟩ := tlh_bad (A := A) hn fs1 hc (by rw [mm1.r0 (by omega), m22]) ((3 : Int32) * 0 + 0)
    rw [y1, r1, obs, obs, obs, (nf _ _ _).1, (nf 0 _ _).2, obs, obs, M_ofs.2.2.1, obs, if_pos hP, (nf _ _ _).1, obs, (nf _ _ _).1, obs, t1, obs]
    exact CLend.bad (H := H) hn fs1 t2 (fun T' w' => if_pos rfl)
end
