theorem cnt_compl (p q : Nat → Prop) [DecidablePred p] [DecidablePred q] (h : ∀ i, p i ↔ ¬ q i) (n : Nat) : cnt p n + cnt q n = n := by
  induction n with
  | zero => rfl
  | succ n ih =>
    unfold cnt
    by_cases hq : q n
    · rw [if_pos hq, if_neg (fun hp => (h n).mp hp hq)]; omega
    · rw [if_neg hq, if_pos ((h n).mpr hq)]; omega
/-- what a question that lays the board owes: the same, or refused alike, by one of these kinds -/
def TD (C : CS) (H NS : Nat → Nat → Int32) (y : Option (Nat × Int32 × (Nat → Nat → Int32) × (Nat → Nat → Int32) × Nat)) (m : Option (Int32 × (Nat → Nat → Int32))) (cd : Nat → Int32) (K : Nat → Prop) : Prop :=
  ∃ k v Y' B' r' v' A', y = some (k, v, Y', B', r') ∧ m = some (v', A') ∧ A' 0 0 = cd k ∧ (k = 0 ∨ K k) ∧ (k = 0 → v = v') ∧ RL C Y' H NS A'
theorem TD.ans {C : CS} {Y H NS A B : Nat → Nat → Int32} {r : Nat} {y : Option (Nat × Int32 × (Nat → Nat → Int32) × (Nat → Nat → Int32) × Nat)} {m : Option (Int32 × (Nat → Nat → Int32))} {cd : Nat → Int32} {K : Nat → Prop} (v : Int32) (h : RL C Y H NS A) (h0 : A 0 0 = 0) (hc : cd 0 = 0) (hy : y = some (0, v, Y, B, r)) (hm : m = some (v, A)) : TD C H NS y m cd K := ⟨0, v, Y, B, r, v, A, hy, hm, by rw [h0, hc], Or.inl rfl, fun _ => rfl, h⟩
theorem TD.ref {C : CS} {Y H NS A B : Nat → Nat → Int32} {r : Nat} {y : Option (Nat × Int32 × (Nat → Nat → Int32) × (Nat → Nat → Int32) × Nat)} {m : Option (Int32 × (Nat → Nat → Int32))} {cd : Nat → Int32} {K : Nat → Prop} (k : Nat) (hk : k < 2) (h : RL C Y H NS A) (hK : K (k + 1)) (hy : y = some (k + 1, 0, yRef Y k, B, r)) (hm : m = some (0, mRef A (cd (k + 1)) k)) : TD C H NS y m cd K := ⟨k + 1, 0, yRef Y k, B, r, 0, mRef A (cd (k + 1)) k, hy, hm, mRef_0 _ _ _, Or.inr hK, fun h => by omega, h.ref _ hk⟩
/-- the code of one kind alone, and of both -/
def cd1 (k : Nat) : Int32 := if k = 0 then 0 else 1
def cd2 (k : Nat) : Int32 := nI k
theorem T_told {C : CS} {Y H NS A BO : Nat → Nat → Int32} {r5 hm : Nat} (h : RL C Y H NS A) (p1 : Int32) : TD C H NS (f_Y_told Y H NS BO r5 hm p1) (f_M_told A p1) cd1 (fun k => k = 2) := by
  have h' := h.thr 0
  obtain ⟨hW, hY, hH, hS, hM, hQ⟩ := h'
  have hA : (u2 A 0 0 0) 0 0 = 0 := thr_0 A 0
  unfold f_Y_told f_M_told
  generalize u2 A 0 0 0 = A at hM hQ hA ⊢
  have h' : RL C Y H NS A := ⟨hW, hY, hH, hS, hM, hQ⟩
  have z1 : ((1 : Int32) ≠ 0) = True := by simp
  have hN := hW.2.2.2.1
  rcases G_what (p := p1) 6 (by omega) with ⟨w, hw, rfl, k1, k2, k3⟩ | ⟨k3, k4⟩
  · have k3 : f_M_within (nI w) 0 6 = some 1 := k3
    have k2 : ¬ (6 : Int32) < nI w := k2
    simp only [k1, k2, k3, if_false, Option.bind_some, sumE, Y_ref_in, M_may_in hA, eq_self, if_true, z1]
    have n0 := hM.n (j := 0) (by omega)
    have n1 := hM.n (j := 1) (by omega)
    have n2 := hM.n (j := 2) (by omega)
    have n3 := hM.n (j := 3) (by omega)
    have n4 := hM.n (j := 4) (by omega)
    have n33 := hM.d0.2.2.1
    have g0 : H 0 0 = nI (C 0 0) := hH 0 0 (show 0 < 6 by omega)
    have g1 : H 0 1 = nI (C 0 1) := hH 0 1 (show 1 < 6 by omega)
    have g2 : H 0 2 = nI (C 0 2) := hH 0 2 (show 2 < 6 by omega)
    have g3 : H 0 3 = nI (C 0 3) := hH 0 3 (show 3 < 6 by omega)
    have g4 : H 0 4 = nI (C 0 4) := hH 0 4 (show 4 < 6 by omega)
    have g33 : NS 3 0 = nI (C 0 7) := hS 3 0 rfl
    have hw7 : w = 0 ∨ w = 1 ∨ w = 2 ∨ w = 3 ∨ w = 4 ∨ w = 5 ∨ w = 6 := by omega
    rcases hw7 with rfl | rfl | rfl | rfl | rfl | rfl | rfl
    · exact TD.ans (nI (C 0 0)) h' hA rfl (by rw [g0]; rfl) (by rw [n0]; rfl)
    · exact TD.ans (nI (C 0 1)) h' hA rfl (by rw [g1]; rfl) (by rw [n1]; rfl)
    · exact TD.ans (nI (C 0 2)) h' hA rfl (by rw [g2]; rfl) (by rw [n2]; rfl)
    · exact TD.ans (nI (C 0 3)) h' hA rfl (by rw [g3]; rfl) (by rw [n3]; rfl)
    · exact TD.ans (nI (C 0 4)) h' hA rfl (by rw [g4]; rfl) (by rw [n4]; rfl)
    · exact TD.ans (nI (C 0 7)) h' hA rfl (by rw [g33]; rfl) (by rw [n33]; rfl)
    · obtain ⟨B', b1, b2⟩ := T_look BO hW hH hS
      have e := loop_S (body := fun q => f_M_told_l95 A q.1 q.2) (C 0 3) (fun i => (nI (cnt (fun m => C 15 m = 0) i), nI i)) (b := nI (cnt (fun m => C 15 m = 0) (C 0 3))) 0 (by omega) (by omega)
        (fun i _ hi => by
          show f_M_told_l95 A (nI (cnt (fun m => C 15 m = 0) i)) (nI i) = _
          unfold f_M_told_l95
          have n3 : A 0 26 = nI (C 0 3) := n3
          rw [n3, if_neg (nI_ge hi (by omega)), rdx_nI (by omega) (by omega), hM.here hi]
          show (if oI (C 15 i) ≠ -1 then _ else _) = _
          by_cases hp : C 15 i = 0
          · rw [if_neg (fun h => h ((oI_ne (hW.plan i)).mpr hp)), ← nI_succ, ← nI_succ]
            show _ = some (Sum.inl (nI (cnt (fun m => C 15 m = 0) i + (if C 15 i = 0 then 1 else 0)), nI (i + 1)))
            rw [if_pos hp]
          · rw [if_pos (fun h => hp ((oI_ne (hW.plan i)).mp h)), ← nI_succ, show (0 : Int32) = nI 0 from rfl, na_add]
            show _ = some (Sum.inl (nI (cnt (fun m => C 15 m = 0) i + (if C 15 i = 0 then 1 else 0)), nI (i + 1)))
            rw [if_neg hp])
        (by
          show f_M_told_l95 A _ (nI (C 0 3)) = _
          unfold f_M_told_l95
          have n3 : A 0 26 = nI (C 0 3) := n3
          rw [n3, if_pos (nI_le (Nat.le_refl _) (by omega))])
      have hcc := cnt_compl (fun m => C 15 m = 0) (fun m => C 15 m ≠ 0) (fun i => by omega) (C 0 3)
      refine TD.ans (B := B') (r := hm) (nI (cnt (fun m => C 15 m = 0) (C 0 3))) h' hA rfl ?_ ?_
      · rw [b1]
        simp only [Option.bind_some]
        rw [Y_placed hW hH b2 hW.plan]
        simp only [Option.bind_some]
        rw [bc_bs _ hN, g3]
        simp only [Option.bind_some]
        rw [na_sub (cnt_le _ _), show C 0 3 - cnt (fun m => C 15 m ≠ 0) (C 0 3) = cnt (fun m => C 15 m = 0) (C 0 3) from by omega]
        rfl
      · show ((loopN (fun q => f_M_told_l95 A q.1 q.2) a_F (nI (cnt (fun m => C 15 m = 0) 0), nI 0)).bind _) = _
        rw [e]; rfl
  · have k3 : f_M_within p1 0 6 = some 0 := k3
    have k4 : ¬ p1 < 0 → (6 : Int32) < p1 := k4
    refine TD.ref (B := BO) (r := r5) 1 (by omega) h' rfl ?_ ?_
    · by_cases k1 : p1 < 0
      · simp only [k1, if_true, Option.bind_some, sumE, Y_ref_out]; rfl
      · simp only [k1, k4 k1, if_false, if_true, Option.bind_some, sumE, Y_ref_out]; rfl
    · rw [k3]
      show ((f_M_may A 0 1 (nI 1)).bind _) = _
      rw [M_may_out hA (by decide) (by omega)]; rfl
