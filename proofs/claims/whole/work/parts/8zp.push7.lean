/-! PURE MATH: pushes, pushed, push -/
theorem Y_elsewhere {C : CS} {H BO : Nat → Nat → Int32} {w : Nat → Int32} {pl p0 : Nat → Nat} (hW : WFC C) (hH : RH C H) (hpl : ∀ m, pl m ≤ 30) (hp0 : ∀ m, p0 m ≤ 30) (hb : ∀ m, m < C 0 3 → BO 1 m = oI (pl m)) (hw : ∀ m, m < C 0 3 → w m = oI (p0 m)) : f_Board_elsewhere H BO w = some (nI (bs (fun m => pl m ≠ p0 m) (C 0 3))) := by
  have hN := hW.2.2.2.1
  have h03 : H 0 3 = nI (C 0 3) := hH 0 3 (show 3 < 6 by omega)
  unfold f_Board_elsewhere
  have e := loop_S (body := fun q => f_Board_elsewhere_l4 H BO w q.1 q.2) (C 0 3) (fun i => (nI (bs (fun m => pl m ≠ p0 m) i), nI i)) (b := nI (bs (fun m => pl m ≠ p0 m) (C 0 3))) 0 (by omega) (by omega)
    (fun i _ hi => by
      show f_Board_elsewhere_l4 H BO w (nI _) (nI i) = _
      unfold f_Board_elsewhere_l4
      rw [h03, if_neg (nI_ge hi (by omega)), rdx_nI (by omega) (by omega), hb i hi, obs, rdx_nI (by omega) (by omega), hw i hi, obs]
      simp only [oI_eqP (hpl i) (hp0 i)]
      by_cases c : pl i = p0 i
      · rw [if_pos c, bs_miss (p := fun m => pl m ≠ p0 m) (fun h => h c), nI_succ]
      · rw [if_neg c, shl_1 _ (by omega), na_or, bs_hit (p := fun m => pl m ≠ p0 m) c, nI_succ])
    (by
      show f_Board_elsewhere_l4 H BO w _ (nI (C 0 3)) = _
      unfold f_Board_elsewhere_l4
      rw [h03, if_pos (nI_le (Nat.le_refl _) (by omega))])
  show (loopN _ a_F (nI (bs (fun m => pl m ≠ p0 m) 0), nI 0)).bind _ = _
  rw [e, obs]
theorem tenfold_eq : ∀ n, n < 31 → f_Y_tenfold (oI n) = f_M_shown (oI n) (if oI n = -1 then 0 else 1) := by decide
theorem tenfold_some (n : Nat) (hn : n < 31) : ∃ v, f_Y_tenfold (oI n) = some v := by
  have h : ∀ n, n < 31 → (f_Y_tenfold (oI n)).isSome = true := by decide
  have := h n hn
  cases hx : f_Y_tenfold (oI n) with
  | none => rw [hx] at this; cases this
  | some v => exact ⟨v, rfl⟩
theorem M_moved {C : CS} {A M : Nat → Nat → Int32} {pl : Nat → Nat} (hW : WFC C) (hM : RMo C A) (hpl : ∀ m, pl m ≤ 30) (h4 : ∀ m, m < C 0 3 → M 4 m = oI (pl m)) : loopN (fun q : Int32 × Int32 × Int32 => f_M_pushes_l87 A M q.1 q.2.1 q.2.2) a_F (0, 0, 0) = some (nI (cnt (fun m => pl m ≠ C 15 m) (C 0 3)), nI (bs (fun m => pl m = 0 ∧ C 15 m ≠ 0) (C 0 3))) := by
  have hN := hW.2.2.2.1
  have n3 : A 0 26 = nI (C 0 3) := hM.n (j := 3) (by omega)
  have e := loop_S (body := fun q : Int32 × Int32 × Int32 => f_M_pushes_l87 A M q.1 q.2.1 q.2.2) (C 0 3) (fun i => (nI (cnt (fun m => pl m ≠ C 15 m) i), nI (bs (fun m => pl m = 0 ∧ C 15 m ≠ 0) i), nI i)) (b := (nI (cnt (fun m => pl m ≠ C 15 m) (C 0 3)), nI (bs (fun m => pl m = 0 ∧ C 15 m ≠ 0) (C 0 3)))) 0 (by omega) (by omega)
    (fun i _ hi => by
      have hp := hW.plan i
      have ra : rdx (A 7) 10 (nI i) = some (oI (C 15 i)) := by rw [rdx_nI (by omega) (by omega), hM.here hi]
      have rm : rdx (M 4) 10 (nI i) = some (oI (pl i)) := by rw [rdx_nI (by omega) (by omega), h4 i hi]
      have z0 : (oI (pl i) = -1) = (pl i = 0) := by rw [show (-1 : Int32) = oI 0 from oI_0.symm]; exact oI_eqP (hpl i) (by omega)
      have z1 : (oI (C 15 i) = -1) = (C 15 i = 0) := by rw [show (-1 : Int32) = oI 0 from oI_0.symm]; exact oI_eqP hp (by omega)
      show f_M_pushes_l87 A M (nI _) (nI _) (nI i) = _
      unfold f_M_pushes_l87
      rw [n3, if_neg (nI_ge hi (by omega))]
      simp only [ra, rm, obs, oI_eqP (hpl i) hp, z0, z1, ne_eq]
      have w1 : cnt (fun m => pl m ≠ C 15 m) (i + 1) = cnt (fun m => pl m ≠ C 15 m) i + (if pl i ≠ C 15 i then 1 else 0) := rfl
      have w2 : ∀ (x : Nat), (if pl i ≠ C 15 i then x + 1 else x) = x + (if pl i ≠ C 15 i then 1 else 0) := fun x => by split <;> rfl
      have v1 : ((if pl i = C 15 i then some 0 else some 1 : Option Int32)) = some (nI (if pl i ≠ C 15 i then 1 else 0)) := by
        by_cases c : pl i = C 15 i
        · rw [if_pos c, if_neg (fun h => h c)]; rfl
        · rw [if_neg c, if_pos c]; rfl
      have v2 : nI (bs (fun m => pl m = 0 ∧ C 15 m ≠ 0) i) ||| (if pl i = 0 ∧ C 15 i ≠ 0 then a_shl 1 (nI i) else 0) = nI (bs (fun m => pl m = 0 ∧ C 15 m ≠ 0) (i + 1)) := by
        by_cases c : pl i = 0 ∧ C 15 i ≠ 0
        · rw [if_pos c, shl_1 _ (by omega), na_or, bs_hit (p := fun m => pl m = 0 ∧ C 15 m ≠ 0) c]
        · rw [if_neg c, or_z, bs_miss (p := fun m => pl m = 0 ∧ C 15 m ≠ 0) c]
      have v3 : ((((((if ¬ pl i = 0 then some (.inl ()) else if C 15 i = 0 then some (.inl ()) else some (.inr (a_shl 1 (nI i)))) : Option (Unit ⊕ Int32))).bind fun b14 => sumE b14 (fun _ => some 0) (fun q => some q)) : Option Int32)) = some (if pl i = 0 ∧ C 15 i ≠ 0 then a_shl 1 (nI i) else 0) := by
        by_cases c2 : pl i = 0
        · by_cases c3 : C 15 i = 0
          · rw [if_neg (fun h => h c2), if_pos c3, obs, se_l, if_neg (fun h => h.2 c3)]
          · rw [if_neg (fun h => h c2), if_neg c3, obs, se_r, if_pos ⟨c2, c3⟩]
        · rw [if_pos c2, obs, se_l, if_neg (fun h => c2 h.1)]
      rw [v1, obs, v3, obs, v2, na_add, nI_succ]
      rfl)
    (by
      show f_M_pushes_l87 A M _ _ (nI (C 0 3)) = _
      unfold f_M_pushes_l87
      rw [n3, if_pos (nI_le (Nat.le_refl _) (by omega))])
  exact e
theorem RU_sh {C C' : CS} {U : Nat → Nat → Int32} (h : SAMEH C C') (hU : RU C U) : RU C' U := by
  have c8 := h.c0 (b := 8) (by omega) (by omega) (by omega)
  have r20 : C' 20 = C 20 := h.row 20 (by omega) (by omega) (fun _ => rfl)
  have r21 : C' 21 = C 21 := h.row 21 (by omega) (by omega) (fun _ => rfl)
  unfold RU
  rw [c8, r20, r21]
  exact hU
/-- what pushing owes -/
def TQ (C : CS) (H NS : Nat → Nat → Int32) (y : Option (Nat × Int32 × (Nat → Nat → Int32) × (Nat → Nat → Int32) × (Nat → Nat → Int32) × (Nat → Nat → Int32) × Nat)) (m : Option (Int32 × (Nat → Nat → Int32) × (Nat → Nat → Int32))) : Prop :=
  ∃ k v Y' U' B' P' r' v' A' S', y = some (k, v, Y', U', B', P', r') ∧ m = some (v', A', S') ∧ A' 0 0 = cd2 k ∧ k < 3 ∧ (k = 0 → v = v') ∧ RU C U' ∧ RL C Y' H NS A'
theorem TQ.ans {C : CS} {Y H NS A U B P S : Nat → Nat → Int32} {r : Nat} {y : Option (Nat × Int32 × (Nat → Nat → Int32) × (Nat → Nat → Int32) × (Nat → Nat → Int32) × (Nat → Nat → Int32) × Nat)} {m : Option (Int32 × (Nat → Nat → Int32) × (Nat → Nat → Int32))} (v : Int32) (h : RL C Y H NS A) (h0 : A 0 0 = 0) (hU : RU C U) (hy : y = some (0, v, Y, U, B, P, r)) (hm : m = some (v, A, S)) : TQ C H NS y m := ⟨0, v, Y, U, B, P, r, v, A, S, hy, hm, h0, by omega, fun _ => rfl, hU, h⟩
theorem TQ.ref {C : CS} {Y H NS A U B P S : Nat → Nat → Int32} {r : Nat} {y : Option (Nat × Int32 × (Nat → Nat → Int32) × (Nat → Nat → Int32) × (Nat → Nat → Int32) × (Nat → Nat → Int32) × Nat)} {m : Option (Int32 × (Nat → Nat → Int32) × (Nat → Nat → Int32))} (k : Nat) (hk : k < 2) (h : RL C Y H NS A) (hU : RU C U) (hy : y = some (k + 1, 0, yRef Y k, U, B, P, r)) (hm : m = some (0, mRef A (nI (k + 1)) k, S)) : TQ C H NS y m := ⟨k + 1, 0, yRef Y k, U, B, P, r, 0, mRef A (nI (k + 1)) k, S, hy, hm, mRef_0 _ _ _, by omega, fun h => by omega, hU, h.ref _ hk⟩
theorem T_pushes {C : CS} {Y H U NS A BO PU MS : Nat → Nat → Int32} {r5 hm : Nat} (h : RL C Y H NS A) (hF : WFU C) (hP : WFP C) (hU : RU C U) (p1 p2 p3 p4 : Int32) : TQ C H NS (f_Y_pushes Y H U NS BO PU hm r5 p1 p2 p3 p4) (f_M_pushes A MS p1 p2 p3 p4) := by
  have h' := h.thr 0
  obtain ⟨hW, hY, hH, hS, hM, hQ⟩ := h'
  have hA : (u2 A 0 0 0) 0 0 = 0 := thr_0 A 0
  unfold f_Y_pushes f_M_pushes
  generalize u2 A 0 0 0 = A at hM hQ hA ⊢
  have h' : RL C Y H NS A := ⟨hW, hY, hH, hS, hM, hQ⟩
  have z1 : ((1 : Int32) ≠ 0) = True := by simp
  have z10 : ((1 : Int32) = 0) = False := by simp
  have n10 : ((1 : Nat) = 0) = False := by simp
  have n20 : ((2 : Nat) = 0) = False := by simp
  have hN := hW.2.2.2.1
  have hH10 := hW.1.2
  have hR3 := hW.2.1
  have refM : ∀ (f : Int32 × (Nat → Nat → Int32) → Option (Int32 × (Nat → Nat → Int32) × (Nat → Nat → Int32))), (f_M_may A 0 2 1).bind f = f (0, mRef A 2 1) := fun f => by
    show (f_M_may A 0 (nI 2) (nI 1)).bind f = _
    rw [M_may_out hA (by decide) (by omega), obs]; rfl
  unfold f_Y_needPlace
  rcases G_meet (Y := Y) hW hH hM hA p1 with ⟨m, hm1, rfl, e1, e2⟩ | ⟨e1, e2⟩
  · rw [e1, e2 1]
    rcases G_room (Y := Y) hW hH hM hA p3 with ⟨r, hr1, rfl, f1, f2⟩ | ⟨f1, f2⟩
    · rcases G_hour (Y := Y) hW hH hM p2 with ⟨hh, hh1, rfl, g1, g2⟩ | ⟨g1, g2⟩
      · by_cases c3 : p4 < 0
        · have w4 : f_M_within p4 0 2 = some 0 := by unfold f_M_within; rw [if_pos c3, zb_0]
          simp only [obs, if_true, z10, if_false, f1, f2, g1, g2, w4, c3, se_l, zb_0, Y_ref_out, n20, refM, ne_eq, not_true]
          exact TQ.ref (U := U) (B := BO) (P := PU) (S := MS) (r := r5) 1 (by omega) h' hU rfl rfl
        · by_cases c4 : 2 < p4
          · have w4 : f_M_within p4 0 2 = some 0 := by unfold f_M_within; rw [if_neg c3, if_pos c4, zb_0]
            simp only [obs, if_true, z10, if_false, f1, f2, g1, g2, w4, c3, c4, se_l, zb_0, zb_1, Y_ref_out, n20, refM, ne_eq, not_true]
            exact TQ.ref (U := U) (B := BO) (P := PU) (S := MS) (r := r5) 1 (by omega) h' hU rfl rfl
          · obtain ⟨B', b1, b2⟩ := T_look BO hW hH hS
            obtain ⟨rr, x, U', B2, P', S', k1, k2, k3, k4⟩ := run_both (H := H) (A := A) (U := U) (P := PU) (MS := MS) hW hF hP hH hM hU b2 hm1 (show 3 * hh + r < 30 by omega) (show (3 * hh + r) % 3 < C 0 1 by omega) (show (3 * hh + r) / 3 < C 0 0 by omega)
            have w4 : f_M_within p4 0 2 = some 1 := by unfold f_M_within; rw [if_neg c3, if_neg c4, zb_1]
            simp only [obs, if_true, z10, if_false, f1, f2, g1, g2, w4, c3, c4, se_r, zb_1, Y_ref_in, M_may_in hA, ne_eq, not_false_eq_true, b1, f_Y_placeOf, (pl_of hh r).1, (pl_of hh r).2, k1, k2]
            rcases k4 with ⟨rfl, rfl⟩ | ⟨rfl, pl, n, j1, rfl, j2, j3, j4, j5, j6⟩
            · simp only [if_true, not_true, if_false]
              exact TQ.ans (U := U') (B := B2) (P := P') (S := S') (r := hm) (-1) h' hA k3 rfl rfl
            · have n1 : (nI n = -1) = False := eq_false (na_ne1 (by omega))
              simp only [n1, z10, not_false_eq_true, if_true, if_false]
              rw [M_moved hW hM j4 j6, obs]
              by_cases c5 : p4 = 0
              · rw [if_neg (fun h => h c5), if_neg (fun h => h c5)]
                exact TQ.ans (U := U') (B := B2) (P := P') (S := S') (r := hm) (nI n) h' hA k3 rfl (by rw [j2])
              · have eE : f_Board_elsewhere H B2 (NS 1) = some (nI (bs (fun m => pl m ≠ C 15 m) (C 0 3))) := Y_elsewhere (p0 := C 15) hW hH j4 hW.plan j3.1 (fun x hx => hS 1 x hx)
                rw [if_pos c5, if_pos c5, eE, obs, obs, bc_bs _ hN, obs]
                by_cases c6 : p4 = 1
                · rw [if_neg (fun h => h c6), if_neg (fun h => h c6)]
                  exact TQ.ans (U := U') (B := B2) (P := P') (S := S') (r := hm) _ h' hA k3 rfl rfl
                · rw [if_pos c6, if_pos c6, Y_placed hW hH j3 j4, obs]
                  have hE : nI (bs (fun m => pl m ≠ C 15 m) (C 0 3)) &&& (nI (bs (fun m => pl m ≠ 0) (C 0 3)) ^^^ (-1)) = nI (bs (fun m => pl m = 0 ∧ C 15 m ≠ 0) (C 0 3)) := by
                    rw [na_not, na_and, bs_diff _ (by omega)]
                    congr 1
                    refine bs_congr (fun x hx => ?_)
                    rw [bs_bit, decide_eq_true_eq]
                    exact ⟨fun g => by
                      have h0 : pl x = 0 := Decidable.byContradiction fun hn => g.2 ⟨hx, hn⟩
                      exact ⟨h0, fun e => g.1 (h0.trans e.symm)⟩, fun g => ⟨fun e => g.2 (e ▸ g.1), fun q => q.2 g.1⟩⟩
                  rw [hE]
                  exact TQ.ans (U := U') (B := B2) (P := P') (S := S') (r := hm) _ h' hA k3 rfl rfl
      · simp only [obs, if_true, z10, if_false, f1, f2, g1, g2, n20, refM, se_l, ne_eq, not_true]
        exact TQ.ref (U := U) (B := BO) (P := PU) (S := MS) (r := r5) 1 (by omega) h' hU rfl rfl
    · simp only [obs, if_true, z10, if_false, f1, n10, f2 1 (by decide)]
      exact TQ.ref (U := U) (B := BO) (P := PU) (S := MS) (r := r5) 0 (by omega) h' hU rfl rfl
  · rw [e1, e2 1 (by decide)]
    simp only [obs, if_true, n10, if_false]
    exact TQ.ref (U := U) (B := BO) (P := PU) (S := MS) (r := r5) 0 (by omega) h' hU rfl rfl
theorem T_pushed {C : CS} {Y H U NS A BO PU MS : Nat → Nat → Int32} {r5 hm : Nat} (h : RL C Y H NS A) (hF : WFU C) (hP : WFP C) (hU : RU C U) (p1 p2 p3 p4 : Int32) : TQ C H NS (f_Y_pushed Y H U NS BO PU hm r5 p1 p2 p3 p4) (f_M_pushed A MS p1 p2 p3 p4) := by
  have h' := h.thr 0
  obtain ⟨hW, hY, hH, hS, hM, hQ⟩ := h'
  have hA : (u2 A 0 0 0) 0 0 = 0 := thr_0 A 0
  unfold f_Y_pushed f_M_pushed
  generalize u2 A 0 0 0 = A at hM hQ hA ⊢
  have h' : RL C Y H NS A := ⟨hW, hY, hH, hS, hM, hQ⟩
  have z1 : ((1 : Int32) ≠ 0) = True := by simp
  have z10 : ((1 : Int32) = 0) = False := by simp
  have n10 : ((1 : Nat) = 0) = False := by simp
  have n20 : ((2 : Nat) = 0) = False := by simp
  have hN := hW.2.2.2.1
  have hH10 := hW.1.2
  have hR3 := hW.2.1
  have refM : ∀ (f : Int32 × (Nat → Nat → Int32) → Option (Int32 × (Nat → Nat → Int32) × (Nat → Nat → Int32))), (f_M_may A 0 2 1).bind f = f (0, mRef A 2 1) := fun f => by
    show (f_M_may A 0 (nI 2) (nI 1)).bind f = _
    rw [M_may_out hA (by decide) (by omega), obs]; rfl
  unfold f_Y_needPlace
  rcases G_meet (Y := Y) hW hH hM hA p1 with ⟨m, hm1, rfl, e1, e2⟩ | ⟨e1, e2⟩
  · rcases G_room (Y := Y) hW hH hM hA p3 with ⟨r, hr1, rfl, f1, f2⟩ | ⟨f1, f2⟩
    · rcases G_meet (Y := Y) hW hH hM hA p4 with ⟨o, ho1, rfl, d1, d2⟩ | ⟨d1, d2⟩
      · rcases G_hour (Y := Y) hW hH hM p2 with ⟨hh, hh1, rfl, g1, g2⟩ | ⟨g1, g2⟩
        · obtain ⟨B', b1, b2⟩ := T_look BO hW hH hS
          obtain ⟨rr, x, U', B2, P', S', k1, k2, k3, k4⟩ := run_both (H := H) (A := A) (U := U) (P := PU) (MS := MS) hW hF hP hH hM hU b2 hm1 (show 3 * hh + r < 30 by omega) (show (3 * hh + r) % 3 < C 0 1 by omega) (show (3 * hh + r) / 3 < C 0 0 by omega)
          simp only [obs, if_true, z10, if_false, d1, d2, e1, e2, f1, f2, g1, g2, M_may_in hA, ne_eq, not_false_eq_true, b1, f_Y_placeOf, (pl_of hh r).1, (pl_of hh r).2, k1, k2]
          rcases k4 with ⟨rfl, rfl⟩ | ⟨rfl, pl, n, j1, rfl, j2, j3, j4, j5, j6⟩
          · simp only [if_true, not_true, if_false]
            exact TQ.ans (U := U') (B := B2) (P := P') (S := S') (r := hm) (-1) h' hA k3 rfl rfl
          · have n1 : (nI n = -1) = False := eq_false (na_ne1 (by omega))
            have ry : rdx (B2 1) 10 (nI o) = some (oI (pl o)) := by rw [rdx_nI (by omega) (by omega), j3.1 o ho1]
            have rm : rdx (S' 4) 10 (nI o) = some (oI (pl o)) := by rw [rdx_nI (by omega) (by omega), j6 o ho1]
            have hp := j4 o
            obtain ⟨v, hv⟩ := tenfold_some (pl o) (by omega)
            have hv2 := tenfold_eq (pl o) (by omega)
            have hc : ((if oI (pl o) = -1 then some 0 else some 1 : Option Int32)) = some (if oI (pl o) = -1 then 0 else 1) := by split <;> rfl
            simp only [n1, z10, not_false_eq_true, if_true, if_false, ry, rm, obs, hc, hv]
            rw [hv] at hv2
            rw [← hv2, obs]
            exact TQ.ans (U := U') (B := B2) (P := P') (S := S') (r := hm) v h' hA k3 rfl rfl
        · simp only [obs, if_true, z10, if_false, d1, d2, e1, e2, f1, f2, g1, g2, n20, refM, ne_eq, not_true]
          exact TQ.ref (U := U) (B := BO) (P := PU) (S := MS) (r := r5) 1 (by omega) h' hU rfl rfl
      · simp only [obs, if_true, z10, if_false, d1, d2 1 (by decide), e1, e2, f1, f2, n10]
        exact TQ.ref (U := U) (B := BO) (P := PU) (S := MS) (r := r5) 0 (by omega) h' hU rfl rfl
    · rw [e2, obs, if_neg (show ¬ (1 : Int32) = 0 by decide), f2 1 (by decide), obs, if_pos rfl]
      rcases G_meet (Y := Y) hW hH hM hA p4 with ⟨o, ho1, rfl, d1, d2⟩ | ⟨d1, d2⟩
      · simp only [obs, if_true, if_false, d1, e1, f1, n10]
        exact TQ.ref (U := U) (B := BO) (P := PU) (S := MS) (r := r5) 0 (by omega) h' hU rfl rfl
      · simp only [obs, if_false, d1, n10]
        exact TQ.ref (U := U) (B := BO) (P := PU) (S := MS) (r := r5) 0 (by omega) h' hU rfl rfl
  · rw [e2 1 (by decide), obs, if_pos rfl]
    rcases G_meet (Y := Y) hW hH hM hA p4 with ⟨o, ho1, rfl, d1, d2⟩ | ⟨d1, d2⟩
    · simp only [obs, if_true, if_false, d1, e1, n10]
      exact TQ.ref (U := U) (B := BO) (P := PU) (S := MS) (r := r5) 0 (by omega) h' hU rfl rfl
    · simp only [obs, if_false, d1, n10]
      exact TQ.ref (U := U) (B := BO) (P := PU) (S := MS) (r := r5) 0 (by omega) h' hU rfl rfl
