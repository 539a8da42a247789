/-! PURE MATH: target -/
/-- the lines that were read, both -/
def LNt (C : CS) (many g : Nat) (ST M : Nat → Nat → Int32) (lm lp : Nat → Nat) : Prop := ST 0 0 = nI many ∧ (∀ i, i < many → ST 1 i = nI (lm i) ∧ ST 2 i = nI (lp i) ∧ M 5 (2 * i) = nI (lm i) ∧ M 5 (2 * i + 1) = nI (lp i) ∧ lm i < C 0 3 ∧ okP C (lp i + 1)) ∧ (∀ x, g.testBit x = true ↔ ∃ i, i < many ∧ lm i = x) ∧ (∀ i j, i < j → j < many → lm i ≠ lm j) ∧ g < 2 ^ 10
theorem LNt.le {C : CS} {many g : Nat} {ST M : Nat → Nat → Int32} {lm lp : Nat → Nat} (h : LNt C many g ST M lm lp) : many ≤ C 0 3 := by
  have h1 := distinct_le (N := C 0 3) many (fun _ => True) lm (fun j hj => ⟨(h.2.1 j hj).2.2.2.2.1, trivial⟩) h.2.2.2.1
  exact Nat.le_trans h1 (cnt_le _ _)
theorem LNt.cg {C : CS} {many g : Nat} {ST M M' : Nat → Nat → Int32} {lm lp : Nat → Nat} (h : LNt C many g ST M lm lp) (hM : MNr M M') : LNt C many g ST M' lm lp :=
  ⟨h.1, fun i hi => by
    obtain ⟨a, b, c, d, e, f⟩ := h.2.1 i hi
    exact ⟨a, b, by rw [hM 5 _ (by omega), c], by rw [hM 5 _ (by omega), d], e, f⟩, h.2.2⟩
theorem target_stop {H T ST : Nat → Nat → Int32} {v1 v2 : Int32} {w : Nat} (h : f_Tape_failed T = some 1) : f_Target_read_l10 H v1 v2 T ST w = some (.inr (T, ST, w)) := by
  unfold f_Target_read_l10
  by_cases c : 10 < v2
  · rw [if_pos c]
  · rw [if_neg c, h, obs, if_pos (by decide)]
theorem target_loop {C : CS} {b : Nat → Nat} {n : Nat} {H A : Nat → Nat → Int32} (hW : WFC C) (hH : RH C H) (hX : TXt b n A) (n3 : A 0 26 = nI (C 0 3)) (n0 : A 0 23 = nI (C 0 0)) (n1 : A 0 24 = nI (C 0 1)) : ∀ t p g many T ST w M lm lp f1 f2, n - p < t → t + 2 ≤ f1 → t + 2 ≤ f2 → OSt b n p T w M → LNt C many g ST M lm lp →
    ∃ T' ST' w' many' M', loopN (fun q : Int32 × Int32 × (Nat → Nat → Int32) × (Nat → Nat → Int32) × Nat => f_Target_read_l10 H q.1 q.2.1 q.2.2.1 q.2.2.2.1 q.2.2.2.2) f1 (nI g, nI many, T, ST, w) = some (T', ST', w') ∧ loopN (fun q : Int32 × Int32 × (Nat → Nat → Int32) => f_M_target_l48 A q.1 q.2.1 q.2.2) f2 (nI many, nI g, M) = some (nI many', M') ∧ ((T' 0 8 = 0 ∧ T' 0 9 = -1 ∧ M' 0 5 = -1 ∧ ∃ g' lm' lp', LNt C many' g' ST' M' lm' lp') ∨ FSt n T' M') := by
  have hN := hW.2.2.2.1
  have hR3 := hW.2.1
  have hT10 := hW.1.2
  have hn := hX.2.1
  have h03 : H 0 3 = nI (C 0 3) := hH 0 3 (show 3 < 6 by omega)
  have h00 : H 0 0 = nI (C 0 0) := hH 0 0 (show 0 < 6 by omega)
  have h01 : H 0 1 = nI (C 0 1) := hH 0 1 (show 1 < 6 by omega)
  intro t
  induction t with
  | zero => intro p g many T ST w M lm lp f1 f2 h; omega
  | succ t ih =>
    intro p g many T ST w M lm lp f1 f2 ht hf1 hf2 h hL
    obtain ⟨f1, rfl⟩ : ∃ k, f1 = k + 2 := ⟨f1 - 2, by omega⟩
    obtain ⟨f2, rfl⟩ : ∃ k, f2 = k + 1 := ⟨f2 - 1, by omega⟩
    have hle := hL.le
    have hg := hL.2.2.2.2
    have hp := h.1
    obtain ⟨s1, s2⟩ := sp_le (b := b) hp
    obtain ⟨m1, m2⟩ := more_both hX h
    have hs := h.s
    -- how it ends with a fault
    have closeF : ∀ T' w' M', f_Target_read_l10 H (nI g) (nI many) T ST w = some (.inl (nI g, nI many + 1, T', ST, w')) → f_M_target_l48 A (nI many) (nI g) M = some (.inr (nI many, M')) → FSt n T' M' → ∃ T' ST' w' many' M', loopN (fun q : Int32 × Int32 × (Nat → Nat → Int32) × (Nat → Nat → Int32) × Nat => f_Target_read_l10 H q.1 q.2.1 q.2.2.1 q.2.2.2.1 q.2.2.2.2) (f1 + 2) (nI g, nI many, T, ST, w) = some (T', ST', w') ∧ loopN (fun q : Int32 × Int32 × (Nat → Nat → Int32) => f_M_target_l48 A q.1 q.2.1 q.2.2) (f2 + 1) (nI many, nI g, M) = some (nI many', M') ∧ ((T' 0 8 = 0 ∧ T' 0 9 = -1 ∧ M' 0 5 = -1 ∧ ∃ g' lm' lp', LNt C many' g' ST' M' lm' lp') ∨ FSt n T' M') := fun T' w' M' e1 e2 e3 => by
      refine ⟨T', ST, w', many, M', ?_, ?_, Or.inr e3⟩
      · rw [loop_l (a' := (nI g, nI many + 1, T', ST, w')) e1]
        exact loop_r (target_stop (e3.f hn).1)
      · exact loop_r e2
    by_cases hsn : k_sp b n p < n
    · rw [if_pos hsn] at m1 m2
      have yh : f_Target_read_l10 H (nI g) (nI many) T ST w = ((if (T 0 3) ≠ 1 then some T else if (nI (C 0 3)) ≤ (T 0 6) then some T else if ((a_shr (nI g) (T 0 6)) &&& 1) = 0 then some T else (f_Tape_fail T 2).bind fun T_11 => some T_11 : Option (Nat → Nat → Int32))).bind fun T_12 =>
          (f_Tape_number T_12 w 0 (oI (C 0 3))).bind fun c6 =>
          (f_Tape_number c6.2.1 c6.2.2 0 (oI (C 0 0))).bind fun c7 =>
          (f_Tape_number c7.2.1 c7.2.2 0 (oI (C 0 1))).bind fun c8 =>
          (f_Tape_pass c8.2.1 c8.2.2 59).bind fun c9 =>
          if c9.1 = 0 then some (.inl (nI g, (nI many + 1), c9.2.1, ST, c9.2.2))
          else if 10 ≤ (ST 0 0) then some (.inl (nI g, (nI many + 1), c9.2.1, ST, c9.2.2))
          else (ixx 10 (ST 0 0)).bind fun j25 => (f_Y_placeOf c7.1 c8.1).bind fun x26 => (ixx 10 ((u2 ST 1 j25 c6.1) 0 0)).bind fun j27 =>
            some (.inl ((nI g ||| (a_shl 1 c6.1)), (nI many + 1), c9.2.1, (u2 (u2 (u2 ST 1 j25 c6.1) 2 j27 x26) 0 0 (((u2 (u2 ST 1 j25 c6.1) 2 j27 x26) 0 0) + 1)), c9.2.2)) := by
        unfold f_Target_read_l10
        rw [if_neg (show ¬ (10 : Int32) < nI many from nI_nlt (b := many) (a := 10) (by omega) (by omega)), h.f.1, obs, if_neg (fun h => h rfl), m1, obs, if_neg (fun h => h rfl), h03, h00, h01]
        rfl
      have mh : f_M_target_l48 A (nI many) (nI g) M = (f_M_readNumber A (u2 M 0 4 (nI (k_sp b n p))) 0 (oI (C 0 3))).bind fun c9 =>
          (f_M_fine c9.2).bind fun x18 =>
          ((if x18 = 0 then some c9.2 else if ((a_shr (nI g) c9.1) &&& 1) ≠ 1 then some c9.2 else (f_M_wrong c9.2 2 ((u2 M 0 4 (nI (k_sp b n p))) 0 4)).bind fun MN_19 => some MN_19 : Option (Nat → Nat → Int32))).bind fun MN_20 =>
          (f_M_readNumber A MN_20 0 (oI (C 0 0))).bind fun c13 =>
          (f_M_readNumber A c13.2 0 (oI (C 0 1))).bind fun c14 =>
          (f_M_sign A c14.2 59).bind fun MN_25 =>
          (f_M_fine MN_25).bind fun x26 =>
          if x26 ≠ 0 then (ixx 20 (2 * nI many)).bind fun j27 => (ixx 20 ((2 * nI many) + 1)).bind fun j28 =>
            some (.inl ((nI many + 1), (nI g ||| (a_shl 1 c9.1)), (u2 (u2 MN_25 5 j27 c9.1) 5 j28 ((3 * c13.1) + c14.1))))
          else some (.inr (nI many, MN_25)) := by
        unfold f_M_target_l48
        rw [h.f.2, obs, if_neg (by decide), m2, obs, if_neg (show ¬ (1 : Int32) = 0 by decide), n3, n0, n1]
        rfl
      rw [u2_same M 0 4 (nI (k_sp b n p))] at mh
      rcases number_both (lo := 0) (hi := C 0 3) hX hs (by omega) (by omega) with ⟨v, T1, w1, M1, p1, _, v2, y1, r1, o1, pp1, tt1, mm1⟩ | ⟨T1, M1, y1, r1, fs1, tt1, mm1⟩
      · have y1 : f_Tape_number T w 0 (oI (C 0 3)) = some (nI v, T1, w1) := y1
        have r1 : f_M_readNumber A (u2 M 0 4 (nI (k_sp b n p))) 0 (oI (C 0 3)) = some (nI v, M1) := r1
        obtain ⟨k3, k6⟩ := number_val h.f.1 (by omega) y1
        obtain ⟨q1, q2⟩ := bitq (x := g) (j := v) (by omega) (by omega)
        rw [k3, k6, if_neg (fun h => h rfl), if_neg (nI_ge v2 (by omega))] at yh
        simp only [q1] at yh
        rw [r1, obs, o1.f.2, obs, if_neg (by decide)] at mh
        simp only [ne_eq, q2] at mh
        by_cases hbit : g.testBit v = true
        · obtain ⟨Tf, Mf, f1', f2', f3, f4, f5⟩ := fail_both hs 2 (by omega) (by omega) mm1 o1.2.2.2.1
          rw [sp_sp hp] at f2'
          have f1' : f_Tape_fail T 2 = some Tf := f1'
          have f2' : f_M_wrong M1 2 (nI (k_sp b n p)) = some Mf := f2'
          have nf := fun ww lo hi => number_fail (w := ww) (A := A) hn f3 lo hi
          have sf := fun ww c => sign_fail (w := ww) (A := A) hn f3 c
          rw [if_neg (fun h => h hbit), f1', obs, obs, (nf _ _ _).1, obs, (nf _ _ _).1, obs, (nf _ _ _).1, obs, (sf _ _).1, obs, if_pos rfl] at yh
          rw [if_neg (fun h => h hbit), f2', obs, obs, (nf 0 _ _).2, obs, (nf 0 _ _).2, obs, (sf 0 _).2, obs, (f3.f hn).2, obs, if_neg (fun h => h rfl)] at mh
          exact closeF _ _ _ yh mh f3
        · rw [if_pos hbit, obs, y1, obs] at yh
          rw [if_pos hbit, obs] at mh
          rcases number_both (lo := 0) (hi := C 0 0) hX o1 (by omega) (by omega) with ⟨hh, T2, w2, M2, p2, _, u2', y2, r2, o2, pp2, tt2, mm2⟩ | ⟨T2, M2, y2, r2, fs2, tt2, mm2⟩
          · have y2 : f_Tape_number T1 w1 0 (oI (C 0 0)) = some (nI hh, T2, w2) := y2
            have r2 : f_M_readNumber A M1 0 (oI (C 0 0)) = some (nI hh, M2) := r2
            rw [y2, obs] at yh
            rw [r2, obs] at mh
            rcases number_both (lo := 0) (hi := C 0 1) hX o2 (by omega) (by omega) with ⟨rr, T3, w3, M3, p3, _, u3', y3, r3, o3, pp3, tt3, mm3⟩ | ⟨T3, M3, y3, r3, fs3, tt3, mm3⟩
            · have y3 : f_Tape_number T2 w2 0 (oI (C 0 1)) = some (nI rr, T3, w3) := y3
              have r3 : f_M_readNumber A M2 0 (oI (C 0 1)) = some (nI rr, M3) := r3
              rw [y3, obs] at yh
              rw [r3, obs] at mh
              rcases sign_both (c := 59) hX o3 (by omega) (by omega) (by omega) (by omega) with ⟨T4, w4, M4, p4, y4, r4, o4, pp4, tt4, mm4⟩ | ⟨T4, M4, y4, r4, fs4, tt4, mm4⟩
              · have y4 : f_Tape_pass T3 w3 59 = some (1, T4, w4) := y4
                have r4 : f_M_sign A M3 59 = some M4 := r4
                have mmA : MNr M M4 := ((((MNr.at M (nI (k_sp b n p))).trans mm1).trans mm2).trans mm3).trans mm4
                have hL4 := hL.cg mmA
                let lm' : Nat → Nat := fun i => if i = many then v else lm i
                let lp' : Nat → Nat := fun i => if i = many then 3 * hh + rr else lp i
                have hbits : ∀ x, (g ||| 2 ^ v).testBit x = true ↔ ∃ i, i < many + 1 ∧ lm' i = x := fun x => by
                  rw [Nat.testBit_or, Nat.testBit_two_pow, Bool.or_eq_true, hL.2.2.1 x, decide_eq_true_eq]
                  constructor
                  · rintro (⟨i, hi, hx⟩ | hx)
                    · exact ⟨i, by omega, by show (if i = many then v else lm i) = x; rw [if_neg (by omega)]; exact hx⟩
                    · exact ⟨many, by omega, by show (if many = many then v else lm many) = x; rw [if_pos rfl]; exact hx⟩
                  · rintro ⟨i, hi, hx⟩
                    have hx : (if i = many then v else lm i) = x := hx
                    by_cases hi2 : i = many
                    · rw [if_pos hi2] at hx; exact Or.inr hx
                    · rw [if_neg hi2] at hx; exact Or.inl ⟨i, by omega, hx⟩
                have hinj : ∀ i j, i < j → j < many + 1 → lm' i ≠ lm' j := fun i j hij hj => by
                  show (if i = many then v else lm i) ≠ (if j = many then v else lm j)
                  rw [if_neg (show ¬ i = many by omega)]
                  by_cases hj2 : j = many
                  · rw [if_pos hj2]
                    exact fun e => hbit ((hL.2.2.1 v).mpr ⟨i, by omega, e⟩)
                  · rw [if_neg hj2]
                    exact hL.2.2.2.1 i j hij (by omega)
                have hmany : many + 1 ≤ C 0 3 := by
                  have h1 := distinct_le (N := C 0 3) (many + 1) (fun _ => True) lm' (fun j hj => ⟨by
                    show (if j = many then v else lm j) < C 0 3
                    by_cases hj2 : j = many
                    · rw [if_pos hj2]; exact v2
                    · rw [if_neg hj2]; exact (hL.2.1 j (by omega)).2.2.2.2.1, trivial⟩) hinj
                  exact Nat.le_trans h1 (cnt_le _ _)
                rw [y4, obs, if_neg (show ¬ (1 : Int32) = 0 by decide), hL.1, if_neg (show ¬ (10 : Int32) ≤ nI many from nI_ge (b := 10) (by omega) (by omega)), ixx_nI (by omega) (by omega), obs] at yh
                rw [r4, obs, o4.f.2, obs, if_pos (by decide), show (2 : Int32) * nI many = nI (2 * many) from na_mul 2 many, ixx_nI (by omega) (by omega), obs, show nI (2 * many) + 1 = nI (2 * many + 1) from (nI_succ _).symm, ixx_nI (by omega) (by omega), obs] at mh
                unfold f_Y_placeOf at yh
                rw [obs, u2_row _ _ (by decide), hL.1, ixx_nI (by omega) (by omega), obs, u2_row _ _ (by decide), u2_row _ _ (by decide), hL.1, shl_1 _ (by omega), na_or, ← nI_succ, (pl_of hh rr).1] at yh
                rw [shl_1 _ (by omega), na_or, ← nI_succ, (pl_of hh rr).2] at mh
                have hL' : LNt C (many + 1) (g ||| 2 ^ v) (u2 (u2 (u2 ST 1 many (nI v)) 2 many (nI (3 * hh + rr))) 0 0 (nI (many + 1))) (u2 (u2 M4 5 (2 * many) (nI v)) 5 (2 * many + 1) (nI (3 * hh + rr))) lm' lp' := by
                  refine ⟨u2_same _ _ _ _, fun i hi => ?_, hbits, hinj, Nat.or_lt_two_pow hg (Nat.pow_lt_pow_right (by omega) (by omega))⟩
                  show _ = nI (if i = many then v else lm i) ∧ _ = nI (if i = many then 3 * hh + rr else lp i) ∧ _ = nI (if i = many then v else lm i) ∧ _ = nI (if i = many then 3 * hh + rr else lp i) ∧ (if i = many then v else lm i) < C 0 3 ∧ okP C ((if i = many then 3 * hh + rr else lp i) + 1)
                  by_cases hi2 : i = many
                  · subst hi2
                    rw [if_pos rfl, if_pos rfl, u2_row _ _ (by decide), u2_row _ _ (by decide), u2_same, u2_row _ _ (by decide), u2_same, u2_col _ _ (by omega), u2_same, u2_same]
                    refine ⟨rfl, rfl, rfl, rfl, v2, by omega, fun _ => ⟨?_, ?_⟩⟩ <;> omega
                  · obtain ⟨a1, a2, a3, a4, a5, a6⟩ := hL4.2.1 i (by omega)
                    rw [if_neg hi2, if_neg hi2, u2_row _ _ (by decide), u2_row _ _ (by decide), u2_col _ _ hi2, u2_row _ _ (by decide), u2_col _ _ hi2, u2_row _ _ (by decide), u2_col _ _ (by omega), u2_col _ _ (by omega), u2_col _ _ (by omega), u2_col _ _ (by omega)]
                    exact ⟨a1, a2, a3, a4, a5, a6⟩
                have o4' : OSt b n p4 T4 w4 (u2 (u2 M4 5 (2 * many) (nI v)) 5 (2 * many + 1) (nI (3 * hh + rr))) := by
                  obtain ⟨z1, z2, z3, z4, z5⟩ := o4
                  exact ⟨z1, by rw [u2_row _ _ (by decide), u2_row _ _ (by decide), z2], by rw [u2_row _ _ (by decide), u2_row _ _ (by decide), z3], by rw [u2_row _ _ (by decide), u2_row _ _ (by decide), z4], z5⟩
                obtain ⟨T', ST', w', many', M', x1, x2, x3⟩ := ih p4 (g ||| 2 ^ v) (many + 1) T4 _ w4 _ lm' lp' (f1 + 1) f2 (by omega) (by omega) (by omega) o4' hL'
                refine ⟨T', ST', w', many', M', ?_, ?_, x3⟩
                · rw [loop_l (n := f1 + 1) yh]; exact x1
                · rw [loop_l mh]; exact x2
              · have y4 : f_Tape_pass T3 w3 59 = some (0, T4, w3) := y4
                have r4 : f_M_sign A M3 59 = some M4 := r4
                rw [y4, obs, if_pos rfl] at yh
                rw [r4, obs, (fs4.f hn).2, obs, if_neg (fun h => h rfl)] at mh
                exact closeF _ _ _ yh mh fs4
            · have y3 : f_Tape_number T2 w2 0 (oI (C 0 1)) = some (-1, T3, w2) := y3
              have r3 : f_M_readNumber A M2 0 (oI (C 0 1)) = some (0, M3) := r3
              have sf := fun ww c => sign_fail (w := ww) (A := A) hn fs3 c
              rw [y3, obs, (sf _ _).1, obs, if_pos rfl] at yh
              rw [r3, obs, (sf 0 _).2, obs, (fs3.f hn).2, obs, if_neg (fun h => h rfl)] at mh
              exact closeF _ _ _ yh mh fs3
          · have y2 : f_Tape_number T1 w1 0 (oI (C 0 0)) = some (-1, T2, w1) := y2
            have r2 : f_M_readNumber A M1 0 (oI (C 0 0)) = some (0, M2) := r2
            have nf := fun ww lo hi => number_fail (w := ww) (A := A) hn fs2 lo hi
            have sf := fun ww c => sign_fail (w := ww) (A := A) hn fs2 c
            rw [y2, obs, (nf _ _ _).1, obs, (sf _ _).1, obs, if_pos rfl] at yh
            rw [r2, obs, (nf 0 _ _).2, obs, (sf 0 _).2, obs, (fs2.f hn).2, obs, if_neg (fun h => h rfl)] at mh
            exact closeF _ _ _ yh mh fs2
      · have y1 : f_Tape_number T w 0 (oI (C 0 3)) = some (-1, T1, w) := y1
        have r1 : f_M_readNumber A (u2 M 0 4 (nI (k_sp b n p))) 0 (oI (C 0 3)) = some (0, M1) := r1
        have nf := fun ww lo hi => number_fail (w := ww) (A := A) hn fs1 lo hi
        have sf := fun ww c => sign_fail (w := ww) (A := A) hn fs1 c
        have ec : (if (T 0 3) ≠ 1 then some T else if (nI (C 0 3)) ≤ (T 0 6) then some T else if ((a_shr (nI g) (T 0 6)) &&& 1) = 0 then some T else (f_Tape_fail T 2).bind fun T_11 => some T_11 : Option (Nat → Nat → Int32)) = some T := by
          by_cases c1 : T 0 3 = 1
          · rw [if_neg (fun h => h c1), if_pos (number_not hX h (by omega) y1 c1)]
          · rw [if_pos c1]
        rw [ec, obs, y1, obs, (nf _ _ _).1, obs, (nf _ _ _).1, obs, (sf _ _).1, obs, if_pos rfl] at yh
        rw [r1, obs, (fs1.f hn).2, obs, if_pos rfl, obs, (nf 0 _ _).2, obs, (nf 0 _ _).2, obs, (sf 0 _).2, obs, (fs1.f hn).2, obs, if_neg (fun h => h rfl)] at mh
        exact closeF _ _ _ yh mh fs1
    · rw [if_neg hsn] at m1 m2
      refine ⟨T, ST, w, many, u2 M 0 4 (nI (k_sp b n p)), loop_r ?_, loop_r ?_, Or.inl ⟨h.2.2.2.2.2.1, h.2.2.2.2.2.2.1, by rw [u2_col _ _ (by decide), h.2.2.2.1], g, lm, lp, hL.cg (MNr.at _ _)⟩⟩
      · show f_Target_read_l10 H (nI g) (nI many) T ST w = _
        unfold f_Target_read_l10
        rw [if_neg (show ¬ (10 : Int32) < nI many from nI_nlt (b := many) (a := 10) (by omega) (by omega)), h.f.1, obs, if_neg (fun h => h rfl), m1, obs, if_pos (by decide)]
      · show f_M_target_l48 A (nI many) (nI g) M = _
        unfold f_M_target_l48
        rw [h.f.2, obs, if_neg (by decide), m2, obs, if_pos rfl]
