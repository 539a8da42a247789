/-! PURE MATH: house: person, meet, hold -/
theorem MNr.r0 {M M' : Nat → Nat → Int32} (h : MNr M M') {c : Nat} (hc : 7 ≤ c) : M' 0 c = M 0 c := h 0 c (by omega)
section
variable {b : Nat → Nat} {n p w : Nat} {A T M H : Nat → Nat → Int32} {D : CS}
/-- one of a kind more: the counts -/
theorem N1_inc {h0 m0 h0' m0' : Nat → Int32} {d0 d0' : Nat → Nat} (h : N1 h0 m0 d0) (q v : Nat) (e1 : ∀ j, h0' j = if j = q then nI v else h0 j) (e2 : ∀ j, m0' (18 + j) = if j = q then nI v else m0 (18 + j)) (e3 : ∀ j, d0' j = if j = q then v else d0 j) : N1 h0' m0' d0' := fun j hj => by
  rw [e1, e2, e3]
  by_cases hq : j = q
  · rw [if_pos hq, if_pos hq, if_pos hq]; exact ⟨rfl, rfl⟩
  · rw [if_neg hq, if_neg hq, if_neg hq]; exact h j hj
theorem u2_at (A : Nat → Nat → Int32) (k i : Nat) (v : Int32) (b : Nat) : u2 A k i v k b = if b = i then v else A k b := by
  by_cases h : b = i
  · rw [h, u2_same, if_pos rfl]
  · rw [u2_col _ _ h, if_neg h]
theorem upd_if (D : CS) (a b v b' : Nat) : updC D a b v a b' = if b' = b then v else D a b' := by
  by_cases h : b' = b
  · rw [h, upd_at, if_pos rfl]
  · rw [upd_ne h, if_neg h]
theorem cl_person (hX : TXt b n A) (h : OSt b n p T w M) (hD : NH D H M) (hW : WD D) (hc : D 0 2 < 8) :
    CLend b n p H (f_House_readPerson T H w) (((f_M_readNumber A M 0 9).bind fun c16 => (ixx 24 (3 * (M 0 20))).bind fun j27 => (f_M_readNumber A (u2 c16.2 2 j27 c16.1) 0 9).bind fun c17 => (ixx 24 ((3 * ((u2 c16.2 2 j27 c16.1) 0 20)) + 1)).bind fun j30 => (ixx 24 ((3 * ((u2 c17.2 2 j30 c17.1) 0 20)) + 2)).bind fun j31 =>
      some (u2 (u2 (u2 c17.2 2 j30 c17.1) 2 j31 0) 0 20 (((u2 (u2 c17.2 2 j30 c17.1) 2 j31 0) 0 20) + 1))).bind fun M1 => f_M_sign A M1 59) := by
  have z10 : ¬ (1 : Int32) = 0 := by decide
  have hn := hX.2.1
  have h02 : H 0 2 = nI (D 0 2) := (hD.1 2 (by omega)).1
  have m20 : M 0 20 = nI (D 0 2) := (hD.1 2 (by omega)).2
  have i0 : ixx 24 (3 * nI (D 0 2)) = some (3 * D 0 2) := by rw [show (3 : Int32) * nI (D 0 2) = nI (3 * D 0 2) from na_mul 3 _, ixx_nI (by omega) (by omega)]
  have i1 : ixx 24 (3 * nI (D 0 2) + 1) = some (3 * D 0 2 + 1) := by rw [show (3 : Int32) * nI (D 0 2) + 1 = nI (3 * D 0 2 + 1) from ix3 _ 1, ixx_nI (by omega) (by omega)]
  have i2 : ixx 24 (3 * nI (D 0 2) + 2) = some (3 * D 0 2 + 2) := by rw [show (3 : Int32) * nI (D 0 2) + 2 = nI (3 * D 0 2 + 2) from ix3 _ 2, ixx_nI (by omega) (by omega)]
  obtain ⟨b1, b3, b4, b5, b6, b7, b8, b9, b10, b11, b12, b13, b14, b15, b16, b17, b18, b19, b20, b21, b22⟩ := hW
  unfold f_House_readPerson
  rw [m20, i0]
  rcases number_both (lo := 0) (hi := 10) hX h (by omega) (by omega) with ⟨v1, T1, w1, M1, p1, _, vh1, y1, r1, o1, pp1, tt1, mm1⟩ | ⟨T1, M1, y1, r1, fs1, tt1, mm1⟩
  · rw [oI_9] at y1 r1
    have y1 : f_Tape_number T w 0 9 = some (nI v1, T1, w1) := y1
    have r1 : f_M_readNumber A M 0 9 = some (nI v1, M1) := r1
    rw [y1, r1, obs, obs, obs]
    dsimp only
    have m20a : u2 M1 2 (3 * D 0 2) (nI v1) 0 20 = nI (D 0 2) := by rw [u2_row _ _ (by decide), mm1.r0 (by omega), m20]
    rcases number_both (lo := 0) (hi := 10) hX (o1.cg (M' := u2 M1 2 (3 * D 0 2) (nI v1)) (fun c _ => by rw [u2_row _ _ (by decide)])) (by omega) (by omega) with ⟨v2, T2, w2, M2, p2, _, vh2, y2, r2, o2, pp2, tt2, mm2⟩ | ⟨T2, M2, y2, r2, fs2, tt2, mm2⟩
    · rw [oI_9] at y2 r2
      have y2 : f_Tape_number T1 w1 0 9 = some (nI v2, T2, w2) := y2
      have r2 : f_M_readNumber A (u2 M1 2 (3 * D 0 2) (nI v1)) 0 9 = some (nI v2, M2) := r2
      have m20b : u2 M2 2 (3 * D 0 2 + 1) (nI v2) 0 20 = nI (D 0 2) := by rw [u2_row _ _ (by decide), mm2.r0 (by omega), m20a]
      have m20c : u2 (u2 M2 2 (3 * D 0 2 + 1) (nI v2)) 2 (3 * D 0 2 + 2) 0 0 20 = nI (D 0 2) := by rw [u2_row _ _ (by decide), m20b]
      rw [y2, r2, obs, obs]
      dsimp only
      rw [m20a, i1, obs, m20b, i2, obs, obs, m20c, ← nI_succ]
      obtain ⟨a1, a2, a3, a4, a5, a6, a7, a8⟩ := hD.cg mm1
      have q2 : ∀ k, M2 2 k = if k = 3 * D 0 2 then nI v1 else M1 2 k := fun k => by rw [mm2 2 k (by omega), u2_at]
      have q1 : M2 1 = M1 1 := mm2.row (a := 1) (by decide)
      have q3 : M2 3 = M1 3 := mm2.row (a := 3) (by decide)
      have q4 : M2 4 = M1 4 := mm2.row (a := 4) (by decide)
      refine CLend.ok (D' := updC (updC (updC D 2 (D 0 2) v1) 3 (D 0 2) v2) 0 2 (D 0 2 + 1)) (H := H) (H' := u2 (u2 (u2 H 2 (D 0 2) (nI v1)) 3 (D 0 2) (nI v2)) 0 2 (nI (D 0 2 + 1))) hX (by omega) (o2.cg (M' := u2 (u2 (u2 M2 2 (3 * D 0 2 + 1) (nI v2)) 2 (3 * D 0 2 + 2) 0) 0 20 (nI (D 0 2 + 1))) (fun c hc => by rw [u2_col _ _ (by omega), u2_row _ _ (by decide), u2_row _ _ (by decide)]))
        ⟨N1_inc a1 2 (D 0 2 + 1) (fun j => ?_) (fun j => ?_) (fun j => ?_), a2, ?_, fun q hq => ?_, a5, ?_, ?_, ?_⟩ ⟨b1, b3, hc, b5, b6, b7, fun k => ?_, fun k => ?_, b10, b11, fun k => ?_, b13, b14, b15, b16, b17, b18, b19, b20, b21, fun q hq => ?_⟩ (fun T' w' => ?_) (fun T' w' => if_pos rfl)
      · rw [u2_at]
        by_cases hj : j = 2
        · rw [if_pos hj, if_pos hj]
        · rw [if_neg hj, if_neg hj, u2_row _ _ (by decide), u2_row _ _ (by decide)]
      · rw [u2_at]
        by_cases hj : j = 2
        · rw [if_pos (by omega), if_pos hj]
        · rw [if_neg (by omega), if_neg hj, u2_row _ _ (by decide), u2_row _ _ (by decide)]
          show M2 0 (18 + j) = _
          rw [mm2.r0 (by omega), u2_row _ _ (by decide)]
      · rw [upd_if]
        by_cases hj : j = 2
        · rw [if_pos hj, if_pos hj]
        · rw [if_neg hj, if_neg hj]; rfl
      · show N3 (H 1) (M2 1) (D 1) (D 0 1)
        rw [q1]; exact a3
      · have hq : q < D 0 2 + 1 := hq
        show u2 H 2 (D 0 2) (nI v1) 2 q = nI (updC D 2 (D 0 2) v1 2 q) ∧ u2 (u2 H 2 (D 0 2) (nI v1)) 3 (D 0 2) (nI v2) 3 q = nI (updC (updC D 2 (D 0 2) v1) 3 (D 0 2) v2 3 q) ∧ u2 (u2 M2 2 (3 * D 0 2 + 1) (nI v2)) 2 (3 * D 0 2 + 2) 0 2 (3 * q) = nI (updC D 2 (D 0 2) v1 2 q) ∧ u2 (u2 M2 2 (3 * D 0 2 + 1) (nI v2)) 2 (3 * D 0 2 + 2) 0 2 (3 * q + 1) = nI (updC (updC D 2 (D 0 2) v1) 3 (D 0 2) v2 3 q) ∧ u2 (u2 M2 2 (3 * D 0 2 + 1) (nI v2)) 2 (3 * D 0 2 + 2) 0 2 (3 * q + 2) = nI (D 4 q)
        rw [u2_at, u2_at, upd_if, upd_if, u2_at, u2_at, u2_at, u2_at, u2_at, u2_at, q2, q2, q2]
        by_cases hqp : q = D 0 2
        · subst hqp
          rw [if_pos rfl, if_pos rfl, if_pos rfl, if_pos rfl, if_neg (by omega), if_neg (by omega), if_pos rfl, if_neg (by omega), if_pos rfl, if_pos rfl, b22 _ (Nat.le_refl _)]
          exact ⟨rfl, rfl, rfl, rfl, rfl⟩
        · obtain ⟨c1, c2, c3, c4, c5⟩ := a4 q (by omega)
          rw [if_neg hqp, if_neg hqp, if_neg hqp, if_neg hqp, if_neg (by omega), if_neg (by omega), if_neg (by omega), if_neg (by omega), if_neg (by omega), if_neg (by omega), if_neg (by omega), if_neg (by omega), if_neg (by omega)]
          exact ⟨c1, c2, c3, c4, c5⟩
      · show N6 (H 5) (H 7) (M2 3) (D 5) (D 7) (D 0 3)
        rw [q3]; exact a6
      · show N7 (H 6) (H 8) (H 9) (M2 3) (D 6) (D 8) (D 9) (D 10)
        rw [q3]; exact a7
      · show N8 (H 11) (H 12) (M2 4) (D 11) (D 12) (D 13) (D 0 4)
        rw [q4]; exact a8
      · show updC D 2 (D 0 2) v1 2 k ≤ 9
        rw [upd_if]
        split
        · omega
        · exact b8 k
      · show updC (updC D 2 (D 0 2) v1) 3 (D 0 2) v2 3 k ≤ 9
        rw [upd_if]
        split
        · omega
        · exact b9 k
      · show D 8 k < 2 ^ (D 0 2 + 1)
        exact Nat.lt_of_lt_of_le (b12 k) (Nat.pow_le_pow_right (by omega) (by omega))
      · have hq : D 0 2 + 1 ≤ q := hq
        exact b22 q (by omega)
      · show (if (1 : Int32) = 0 then _ else if (8 : Int32) ≤ H 0 2 then _ else (ixx 8 (H 0 2)).bind fun j10 => (ixx 8 ((u2 H 2 j10 (nI v1)) 0 2)).bind fun j11 => some (T', (u2 (u2 (u2 H 2 j10 (nI v1)) 3 j11 (nI v2)) 0 2 (((u2 (u2 H 2 j10 (nI v1)) 3 j11 (nI v2)) 0 2) + 1)), w')) = _
        rw [if_neg z10, h02, if_neg (show ¬ (8 : Int32) ≤ nI (D 0 2) from nI_ge (b := 8) hc (by omega)), ixx_nI hc (by omega), obs, u2_row _ _ (by decide), h02, ixx_nI hc (by omega), obs, u2_row _ _ (by decide), u2_row _ _ (by decide), h02, ← nI_succ]
    · rw [oI_9] at y2 r2
      have y2 : f_Tape_number T1 w1 0 9 = some (-1, T2, w1) := y2
      have r2 : f_M_readNumber A (u2 M1 2 (3 * D 0 2) (nI v1)) 0 9 = some (0, M2) := r2
      have m20b : u2 M2 2 (3 * D 0 2 + 1) 0 0 20 = nI (D 0 2) := by rw [u2_row _ _ (by decide), mm2.r0 (by omega), m20a]
      rw [y2, r2, obs, obs]
      dsimp only
      rw [m20a, i1, obs, m20b, i2, obs, obs]
      exact CLend.bad (H := H) hn fs2 (fun c hc => by rw [u2_col _ _ (by omega), u2_row _ _ (by decide), u2_row _ _ (by decide)]) (fun T' w' => if_pos rfl)
  · rw [oI_9] at y1 r1
    have y1 : f_Tape_number T w 0 9 = some (-1, T1, w) := y1
    have r1 : f_M_readNumber A M 0 9 = some (0, M1) := r1
    have m20a : u2 M1 2 (3 * D 0 2) 0 0 20 = nI (D 0 2) := by rw [u2_row _ _ (by decide), mm1.r0 (by omega), m20]
    have m20b : u2 (u2 M1 2 (3 * D 0 2) 0) 2 (3 * D 0 2 + 1) 0 0 20 = nI (D 0 2) := by rw [u2_row _ _ (by decide), m20a]
    have fs1' := fs1.cg (M' := u2 M1 2 (3 * D 0 2) 0) (fun c _ => by rw [u2_row _ _ (by decide)])
    rw [y1, r1, obs, obs, obs]
    dsimp only
    rw [(number_fail (w := w) (A := A) hn fs1' 0 9).1, (number_fail (w := w) (A := A) hn fs1' 0 9).2, obs, obs]
    dsimp only
    rw [m20a, i1, obs, m20b, i2, obs, obs]
    exact CLend.bad (H := H) hn fs1 (fun c hc => by rw [u2_col _ _ (by omega), u2_row _ _ (by decide), u2_row _ _ (by decide), u2_row _ _ (by decide)]) (fun T' w' => if_pos rfl)
end
