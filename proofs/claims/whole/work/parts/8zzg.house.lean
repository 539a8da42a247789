/-! PURE MATH: a house that is being read, both; its clauses -/
def N1 (h0 m0 : Nat → Int32) (d0 : Nat → Nat) : Prop := ∀ j, j < 5 → h0 j = nI (d0 j) ∧ m0 (18 + j) = nI (d0 j)
def N2 (h0 : Nat → Int32) (d10 : Nat → Nat) : Prop := h0 5 = nI (bs (fun m => d10 m = 1) 10)
def N3 (h1 m1 : Nat → Int32) (d1 : Nat → Nat) (n : Nat) : Prop := ∀ k, k < n → h1 k = nI (d1 k) ∧ m1 k = nI (d1 k)
def N4 (h2 h3 m2 : Nat → Int32) (d2 d3 d4 : Nat → Nat) (n : Nat) : Prop := ∀ p, p < n → h2 p = nI (d2 p) ∧ h3 p = nI (d3 p) ∧ m2 (3 * p) = nI (d2 p) ∧ m2 (3 * p + 1) = nI (d3 p) ∧ m2 (3 * p + 2) = nI (d4 p)
def N5 (h4 : Nat → Int32) (d4 : Nat → Nat) : Prop := ∀ p, p < 8 → h4 p = nI (d4 p)
def N6 (h5 h7 m3 : Nat → Int32) (d5 d7 : Nat → Nat) (n : Nat) : Prop := ∀ m, m < n → h5 m = nI (d5 m) ∧ h7 m = nI (d7 m) ∧ m3 (6 * m) = nI (d5 m) ∧ m3 (6 * m + 1) = nI (d7 m)
def N7 (h6 h8 h9 m3 : Nat → Int32) (d6 d8 d9 d10 : Nat → Nat) : Prop := ∀ m, m < 10 → h6 m = nI (d6 m) ∧ h8 m = nI (d8 m) ∧ h9 m = nI (d9 m) ∧ m3 (6 * m + 2) = nI (d8 m) ∧ m3 (6 * m + 3) = nI (d9 m) ∧ m3 (6 * m + 4) = nI (d10 m) ∧ m3 (6 * m + 5) = nI (d6 m)
def N8 (h11 h12 m4 : Nat → Int32) (d11 d12 d13 : Nat → Nat) (n : Nat) : Prop := ∀ k, k < n → h11 k = nI (d11 k) ∧ h12 k = nI (d12 k * d13 k) ∧ m4 (4 * k) = nI (d11 k) ∧ m4 (4 * k + 1) = nI (d12 k) ∧ m4 (4 * k + 2) = nI (d13 k) ∧ m4 (4 * k + 3) = 0
/-- the house that is being read: the class's, the reference's -/
def NH (D : CS) (H M : Nat → Nat → Int32) : Prop := N1 (H 0) (M 0) (D 0) ∧ N2 (H 0) (D 10) ∧ N3 (H 1) (M 1) (D 1) (D 0 1) ∧ N4 (H 2) (H 3) (M 2) (D 2) (D 3) (D 4) (D 0 2) ∧ N5 (H 4) (D 4) ∧ N6 (H 5) (H 7) (M 3) (D 5) (D 7) (D 0 3) ∧ N7 (H 6) (H 8) (H 9) (M 3) (D 6) (D 8) (D 9) (D 10) ∧ N8 (H 11) (H 12) (M 4) (D 11) (D 12) (D 13) (D 0 4)
theorem MNr.row {M M' : Nat → Nat → Int32} (h : MNr M M') {a : Nat} (ha : a ≠ 0) : M' a = M a := funext (fun c => h a c (fun g => ha g.1))
theorem NH.cg {D : CS} {H M M' : Nat → Nat → Int32} (h : NH D H M) (hM : MNr M M') : NH D H M' := by
  obtain ⟨a1, a2, a3, a4, a5, a6, a7, a8⟩ := h
  refine ⟨fun j hj => ⟨(a1 j hj).1, by rw [hM 0 _ (by omega)]; exact (a1 j hj).2⟩, a2, ?_, ?_, a5, ?_, ?_, ?_⟩
  · rw [hM.row (a := 1) (by decide)]; exact a3
  · rw [hM.row (a := 2) (by decide)]; exact a4
  · rw [hM.row (a := 3) (by decide)]; exact a6
  · rw [hM.row (a := 3) (by decide)]; exact a7
  · rw [hM.row (a := 4) (by decide)]; exact a8
/-- what its numbers may be -/
def WD (D : CS) : Prop := (1 ≤ D 0 0 ∧ D 0 0 ≤ 10) ∧ D 0 1 ≤ 3 ∧ D 0 2 ≤ 8 ∧ D 0 3 ≤ 10 ∧ D 0 4 ≤ 4 ∧ (∀ k, D 1 k ≤ 20) ∧ (∀ k, D 2 k ≤ 9) ∧ (∀ k, D 3 k ≤ 9) ∧ (∀ k, D 4 k < 2 ^ D 0 0) ∧ (∀ k, D 7 k ≤ 99) ∧ (∀ k, D 8 k < 2 ^ D 0 2) ∧ (∀ k, D 9 k < 2 ^ D 0 0) ∧ (∀ k, D 10 k ≤ 1) ∧ (∀ k, D 11 k < 30) ∧ (∀ k, D 12 k ≤ 16) ∧ (∀ k, D 13 k ≤ 99) ∧ (∀ k, D 6 k ≤ 99) ∧ (∀ m, m < D 0 3 → okP D (D 5 m + 1)) ∧ (∀ k, k < D 0 4 → okP D (D 11 k + 1)) ∧ (∀ m, D 10 m = 1 → m < D 0 3) ∧ (∀ p, D 0 2 ≤ p → D 4 p = 0)
theorem OSt.cg {b : Nat → Nat} {n p w : Nat} {T M M' : Nat → Nat → Int32} (h : OSt b n p T w M) (hm : ∀ c, c ≤ 6 → M' 0 c = M 0 c) : OSt b n p T w M' := by
  obtain ⟨a1, a2, a3, a4, a5⟩ := h
  exact ⟨a1, by rw [hm 3 (by omega), a2], by rw [hm 4 (by omega), a3], by rw [hm 5 (by omega), a4], a5⟩
theorem FSt.cg {n : Nat} {T M M' : Nat → Nat → Int32} (h : FSt n T M) (hm : ∀ c, c ≤ 6 → M' 0 c = M 0 c) : FSt n T M' := by
  obtain ⟨k, pl, a1, a2, a3, a4, a5, a6, a7⟩ := h
  exact ⟨k, pl, a1, a2, a3, a4, a5, by rw [hm 5 (by omega), a6], by rw [hm 6 (by omega), a7]⟩
theorem oI_9 : oI 10 = 9 := by decide
theorem oI_10 : oI 11 = 10 := by decide
theorem oI_16 : oI 17 = 16 := by decide
theorem oI_20 : oI 21 = 20 := by decide
theorem oI_99 : oI 100 = 99 := by decide
/-- the end of a clause, both: the sign, then what the class writes -/
def CLend (b : Nat → Nat) (n p : Nat) (H : Nat → Nat → Int32) (y : Option ((Nat → Nat → Int32) × (Nat → Nat → Int32) × Nat)) (m : Option (Nat → Nat → Int32)) : Prop :=
  ∃ T' H' w' M', y = some (T', H', w') ∧ m = some M' ∧ ((∃ p' D', p < p' ∧ OSt b n p' T' w' M' ∧ NH D' H' M' ∧ WD D') ∨ (FSt n T' M' ∧ H' = H))
theorem CLend.ok {b : Nat → Nat} {n p p1 w : Nat} {A T M : Nat → Nat → Int32} {D' : CS} {H H' : Nat → Nat → Int32} {K : Int32 × (Nat → Nat → Int32) × Nat → Option ((Nat → Nat → Int32) × (Nat → Nat → Int32) × Nat)} (hX : TXt b n A) (hp : p < p1) (h : OSt b n p1 T w M) (hD : NH D' H' M) (hW : WD D')
    (k1 : ∀ T' w', K (1, T', w') = some (T', H', w')) (k0 : ∀ T' w', K (0, T', w') = some (T', H, w')) : CLend b n p H ((f_Tape_pass T w 59).bind K) (f_M_sign A M 59) := by
  rcases sign_both (c := 59) hX h (by omega) (by omega) (by omega) (by omega) with ⟨T4, w4, M4, p4, y4, r4, o4, pp4, tt4, mm4⟩ | ⟨T4, M4, y4, r4, fs4, tt4, mm4⟩
  · have y4 : f_Tape_pass T w 59 = some (1, T4, w4) := y4
    rw [y4, obs, k1]
    exact ⟨T4, H', w4, M4, rfl, r4, Or.inl ⟨p4, D', by omega, o4, hD.cg mm4, hW⟩⟩
  · have y4 : f_Tape_pass T w 59 = some (0, T4, w) := y4
    rw [y4, obs, k0]
    exact ⟨T4, H, w, M4, rfl, r4, Or.inr ⟨fs4, rfl⟩⟩
theorem CLend.bad {b : Nat → Nat} {n p w : Nat} {A T M M' : Nat → Nat → Int32} {H : Nat → Nat → Int32} {K : Int32 × (Nat → Nat → Int32) × Nat → Option ((Nat → Nat → Int32) × (Nat → Nat → Int32) × Nat)} (hn : n ≤ 600) (h : FSt n T M) (hm : ∀ c, c ≤ 6 → M' 0 c = M 0 c)
    (k0 : ∀ T' w', K (0, T', w') = some (T', H, w')) : CLend b n p H ((f_Tape_pass T w 59).bind K) (f_M_sign A M' 59) := by
  have h' := h.cg hm
  obtain ⟨e1, e2⟩ := sign_fail (w := w) (A := A) hn h' 59
  rw [e1, obs, k0, e2]
  exact ⟨T, H, w, M', rfl, rfl, Or.inr ⟨h', rfl⟩⟩
section
variable {b : Nat → Nat} {n p w : Nat} {A T M H : Nat → Nat → Int32} {D : CS}
theorem cl_hours (hX : TXt b n A) (h : OSt b n p T w M) (hD : NH D H M) (hW : WD D) (hi : D 0 3 = 0 ∧ D 0 4 = 0 ∧ (∀ k, D 4 k = 0) ∧ ∀ k, D 9 k = 0) :
    CLend b n p H (f_House_readHours T H w) (((f_M_readNumber A M 1 10).bind fun c19 => some (u2 c19.2 0 18 c19.1)).bind fun M1 => f_M_sign A M1 59) := by
  have z10 : ¬ (1 : Int32) = 0 := by decide
  unfold f_House_readHours
  rcases number_both (lo := 1) (hi := 11) hX h (by omega) (by omega) with ⟨v, T1, w1, M1, p1, v1, v2, y1, r1, o1, pp1, tt1, mm1⟩ | ⟨T1, M1, y1, r1, fs1, tt1, mm1⟩
  · have y1 : f_Tape_number T w 1 (oI 11) = some (nI v, T1, w1) := y1
    have r1 : f_M_readNumber A M 1 (oI 11) = some (nI v, M1) := r1
    rw [oI_10] at y1 r1
    rw [y1, r1, obs, obs, obs]
    obtain ⟨a1, a2, a3, a4, a5, a6, a7, a8⟩ := hD.cg mm1
    obtain ⟨⟨b1, b2⟩, b3, b4, b5, b6, b7, b8, b9, b10, b11, b12, b13, b14, b15, b16, b17, b18, b19, b20, b21, b22⟩ := hW
    obtain ⟨i1, i2, i3, i4⟩ := hi
    refine CLend.ok (D' := updC D 0 0 v) (H := H) (H' := u2 H 0 0 (nI v)) hX pp1 (o1.cg (M' := u2 M1 0 18 (nI v)) (fun c hc => by rw [u2_col _ _ (by omega)])) ⟨fun j hj => ?_, a2, a3, a4, a5, a6, a7, a8⟩ ⟨⟨v1, by show v ≤ 10; omega⟩, b3, b4, b5, b6, b7, b8, b9, fun k => ?_, b11, b12, fun k => ?_, b14, b15, b16, b17, b18, fun m hm => ?_, fun k hk => ?_, b21, b22⟩ (fun T' w' => if_neg z10) (fun T' w' => if_pos rfl)
    · show u2 H 0 0 (nI v) 0 j = nI (updC D 0 0 v 0 j) ∧ u2 M1 0 18 (nI v) 0 (18 + j) = nI (updC D 0 0 v 0 j)
      by_cases hj0 : j = 0
      · subst hj0; exact ⟨u2_same _ _ _ _, u2_same _ _ _ _⟩
      · rw [u2_col _ _ hj0, u2_col _ _ (by omega)]
        unfold updC
        rw [if_neg (fun h => hj0 h.2)]
        exact a1 j hj
    · show D 4 k < _
      rw [i3 k]; exact Nat.two_pow_pos _
    · show D 9 k < _
      rw [i4 k]; exact Nat.two_pow_pos _
    · have hm : m < D 0 3 := hm
      omega
    · have hk : k < D 0 4 := hk
      omega
  · have y1 : f_Tape_number T w 1 (oI 11) = some (-1, T1, w) := y1
    have r1 : f_M_readNumber A M 1 (oI 11) = some (0, M1) := r1
    rw [oI_10] at y1 r1
    rw [y1, r1, obs, obs, obs]
    exact CLend.bad (H := H) hX.2.1 fs1 (fun c hc => by
      show u2 M1 0 18 0 0 c = _
      rw [u2_col _ _ (by omega)]) (fun T' w' => if_pos rfl)
theorem cl_room (hX : TXt b n A) (h : OSt b n p T w M) (hD : NH D H M) (hW : WD D) (hc : D 0 1 < 3) :
    CLend b n p H (f_House_readRoom T H w) (((f_M_readNumber A M 0 20).bind fun c18 => (ixx 3 (M 0 19)).bind fun j34 => some (u2 (u2 c18.2 1 j34 c18.1) 0 19 (((u2 c18.2 1 j34 c18.1) 0 19) + 1))).bind fun M1 => f_M_sign A M1 59) := by
  have z10 : ¬ (1 : Int32) = 0 := by decide
  have m19 : M 0 19 = nI (D 0 1) := (hD.1 1 (by omega)).2
  have h01 : H 0 1 = nI (D 0 1) := (hD.1 1 (by omega)).1
  unfold f_House_readRoom
  rw [m19, ixx_nI hc (by omega)]
  rcases number_both (lo := 0) (hi := 21) hX h (by omega) (by omega) with ⟨v, T1, w1, M1, p1, v1, v2, y1, r1, o1, pp1, tt1, mm1⟩ | ⟨T1, M1, y1, r1, fs1, tt1, mm1⟩
  · have y1 : f_Tape_number T w 0 (oI 21) = some (nI v, T1, w1) := y1
    have r1 : f_M_readNumber A M 0 (oI 21) = some (nI v, M1) := r1
    rw [oI_20] at y1 r1
    rw [y1, r1, obs, obs, obs, obs]
    obtain ⟨a1, a2, a3, a4, a5, a6, a7, a8⟩ := hD.cg mm1
    obtain ⟨b1, b3, b4, b5, b6, b7, b8, b9, b10, b11, b12, b13, b14, b15, b16, b17, b18, b19, b20, b21, b22⟩ := hW
    have m19' : M1 0 19 = nI (D 0 1) := (a1 1 (by omega)).2
    have em : u2 (u2 M1 1 (D 0 1) (nI v)) 0 19 ((u2 M1 1 (D 0 1) (nI v)) 0 19 + 1) = u2 (u2 M1 1 (D 0 1) (nI v)) 0 19 (nI (D 0 1 + 1)) := by rw [u2_row _ _ (by decide), m19', ← nI_succ]
    refine CLend.ok (D' := updC (updC D 1 (D 0 1) v) 0 1 (D 0 1 + 1)) (H := H) (H' := u2 (u2 H 1 (D 0 1) (nI v)) 0 1 (nI (D 0 1 + 1))) hX pp1 (o1.cg (M' := u2 (u2 M1 1 (D 0 1) (nI v)) 0 19 ((u2 M1 1 (D 0 1) (nI v)) 0 19 + 1)) (fun c hc => by rw [u2_col _ _ (by omega), u2_row _ _ (by decide)])) ⟨fun j hj => ?_, a2, fun k hk => ?_, a4, a5, a6, a7, a8⟩ ⟨b1, hc, b4, b5, b6, fun k => ?_, b8, b9, b10, b11, b12, b13, b14, b15, b16, b17, b18, fun m hm => ?_, fun k hk => ?_, b21, b22⟩ (fun T' w' => ?_) (fun T' w' => if_pos rfl)
    · rw [em]
      show u2 (u2 H 1 (D 0 1) (nI v)) 0 1 (nI (D 0 1 + 1)) 0 j = nI (updC (updC D 1 (D 0 1) v) 0 1 (D 0 1 + 1) 0 j) ∧ u2 (u2 M1 1 (D 0 1) (nI v)) 0 19 (nI (D 0 1 + 1)) 0 (18 + j) = nI (updC (updC D 1 (D 0 1) v) 0 1 (D 0 1 + 1) 0 j)
      by_cases hj0 : j = 1
      · subst hj0; exact ⟨u2_same _ _ _ _, u2_same _ _ _ _⟩
      · have e1 : u2 (u2 H 1 (D 0 1) (nI v)) 0 1 (nI (D 0 1 + 1)) 0 j = H 0 j := by rw [u2_col _ _ hj0, u2_row _ _ (by decide)]
        have e2 : u2 (u2 M1 1 (D 0 1) (nI v)) 0 19 (nI (D 0 1 + 1)) 0 (18 + j) = M1 0 (18 + j) := by rw [u2_col _ _ (by omega), u2_row _ _ (by decide)]
        rw [e1, e2]
        unfold updC
        rw [if_neg (fun h => hj0 h.2), if_neg (fun h => by have := h.1; omega)]
        exact a1 j hj
    · have hk : k < D 0 1 + 1 := hk
      rw [em]
      show u2 H 1 (D 0 1) (nI v) 1 k = nI (updC D 1 (D 0 1) v 1 k) ∧ u2 M1 1 (D 0 1) (nI v) 1 k = nI (updC D 1 (D 0 1) v 1 k)
      by_cases hk0 : k = D 0 1
      · subst hk0
        unfold updC
        rw [if_pos ⟨rfl, rfl⟩]
        exact ⟨u2_same _ _ _ _, u2_same _ _ _ _⟩
      · rw [u2_col _ _ hk0, u2_col _ _ hk0]
        unfold updC
        rw [if_neg (fun h => hk0 h.2)]
        exact a3 k (by omega)
    · show updC D 1 (D 0 1) v 1 k ≤ 20
      unfold updC
      split
      · omega
      · exact b7 k
    · obtain ⟨q1, q2⟩ := b19 m hm
      exact ⟨q1, fun h => ⟨Nat.lt_succ_of_lt (q2 h).1, (q2 h).2⟩⟩
    · obtain ⟨q1, q2⟩ := b20 k hk
      exact ⟨q1, fun h => ⟨Nat.lt_succ_of_lt (q2 h).1, (q2 h).2⟩⟩
    · show (if (1 : Int32) = 0 then _ else if (3 : Int32) ≤ H 0 1 then _ else (ixx 3 (H 0 1)).bind fun j7 => some (T', (u2 (u2 H 1 j7 (nI v)) 0 1 (((u2 H 1 j7 (nI v)) 0 1) + 1)), w')) = _
      rw [if_neg z10, h01, if_neg (show ¬ (3 : Int32) ≤ nI (D 0 1) from nI_ge (b := 3) hc (by omega)), ixx_nI hc (by omega), obs, u2_row _ _ (by decide), h01, ← nI_succ]
  · have y1 : f_Tape_number T w 0 (oI 21) = some (-1, T1, w) := y1
    have r1 : f_M_readNumber A M 0 (oI 21) = some (0, M1) := r1
    rw [oI_20] at y1 r1
    rw [y1, r1, obs, obs, obs, obs]
    exact CLend.bad (H := H) hX.2.1 fs1 (fun c hc => by
      show u2 (u2 M1 1 (D 0 1) 0) 0 19 _ 0 c = _
      rw [u2_col _ _ (by omega), u2_row _ _ (by decide)]) (fun T' w' => if_pos rfl)
end
