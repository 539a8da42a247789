/-! PURE MATH: order, the two -/
theorem on_fix {C : CS} (hN : C 0 3 ≤ 10) : ∀ n g, s_rem C g < n → s_sub C g → s_on C 10 g = true → ∀ x, x < C 0 3 → s_ap C x → ¬ g.testBit x = true → C 10 x = 0 := by
  intro n
  induction n with
  | zero => intro g h; omega
  | succ n ih =>
    intro g hr hs ho x hx ha hb
    rcases (on_step hN hs).mp ho with h | ⟨m, hm, hc, h2⟩
    · exfalso
      exact hb (by rw [h]; exact apart_bit.mpr ⟨hx, ha⟩)
    · by_cases hxm : x = m
      · subst hxm; exact hc.2.2.1
      · have := rem_or hm hc.1 hc.2.1
        exact ih (g ||| 2 ^ m) (by omega) (sub_or hs hm hc.1) h2 x hx ha (fun hb2 => ((or_bit g m x).mp hb2).elim hb (fun e => hxm e.symm))
theorem rem_zero (C : CS) : s_rem C 0 = cnt (s_ap C) (C 0 3) := cnt_congrN (fun i _ => ⟨fun h => h.1, fun h => ⟨h, by rw [Nat.zero_testBit]; decide⟩⟩)
/-- what it owes: a long -/
def TL (C : CS) (H NS : Nat → Nat → Int32) (y : Option (Nat × Int64 × (Nat → Nat → Int32) × (Nat → Nat → Int32) × (Nat → Nat → Int32) × Nat)) (m : Option (Int64 × (Nat → Nat → Int32) × (Nat → Nat → Int32))) (cd : Nat → Int32) (K : Nat → Prop) : Prop :=
  ∃ k v Y' B' G' r' v' A' S', y = some (k, v, Y', B', G', r') ∧ m = some (v', A', S') ∧ A' 0 0 = cd k ∧ (k = 0 ∨ K k) ∧ (k = 0 → v = v') ∧ RL C Y' H NS A'
theorem TL.ans {C : CS} {Y H NS A B G S : Nat → Nat → Int32} {r : Nat} {y : Option (Nat × Int64 × (Nat → Nat → Int32) × (Nat → Nat → Int32) × (Nat → Nat → Int32) × Nat)} {m : Option (Int64 × (Nat → Nat → Int32) × (Nat → Nat → Int32))} {cd : Nat → Int32} {K : Nat → Prop} (v : Int64) (h : RL C Y H NS A) (h0 : A 0 0 = 0) (hc : cd 0 = 0) (hy : y = some (0, v, Y, B, G, r)) (hm : m = some (v, A, S)) : TL C H NS y m cd K := ⟨0, v, Y, B, G, r, v, A, S, hy, hm, by rw [h0, hc], Or.inl rfl, fun _ => rfl, h⟩
theorem TL.ref {C : CS} {Y H NS A B G S : Nat → Nat → Int32} {r : Nat} {y : Option (Nat × Int64 × (Nat → Nat → Int32) × (Nat → Nat → Int32) × (Nat → Nat → Int32) × Nat)} {m : Option (Int64 × (Nat → Nat → Int32) × (Nat → Nat → Int32))} {cd : Nat → Int32} {K : Nat → Prop} (k : Nat) (hk : k < 2) (h : RL C Y H NS A) (hK : K (k + 1)) (hy : y = some (k + 1, 0, yRef Y k, B, G, r)) (hm : m = some (0, mRef A (cd (k + 1)) k, S)) : TL C H NS y m cd K := ⟨k + 1, 0, yRef Y k, B, G, r, 0, mRef A (cd (k + 1)) k, S, hy, hm, mRef_0 _ _ _, Or.inr hK, fun h => by omega, h.ref _ hk⟩
theorem M_on0 {C : CS} {A : Nat → Nat → Int32} (MS : Nat → Nat → Int32) (hW : WFC C) (hM : RMo C A) (h1 : ∀ m, m < C 0 3 → MS 1 m = oI (s_G C m)) : ∃ MS', loopN (fun q => f_M_order_l29 A q.1 q.2) a_F (0, MS) = some MS' ∧ (∀ m, m < C 0 3 → MS' 1 m = oI (s_G C m)) ∧ s_V C 0 MS' := by
  have hN := hW.2.2.2.1
  have n3 : A 0 26 = nI (C 0 3) := hM.n (j := 3) (by omega)
  have h2 : 2 ^ C 0 3 ≤ 1024 := Nat.le_trans (Nat.pow_le_pow_right (by omega) hN) (by decide : 2 ^ 10 ≤ 1024)
  let S : Nat → Nat → Nat → Int32 := fun i a b => if a = 6 ∧ b < i then 0 else MS a b
  have hSd : ∀ i a b, S i a b = if a = 6 ∧ b < i then 0 else MS a b := fun _ _ _ => rfl
  have e := loop_for (body := fun q => f_M_order_l29 A q.1 q.2) (2 ^ C 0 3) S (b := S (2 ^ C 0 3)) 0 (Nat.zero_le _) (by omega)
    (fun i _ hi => by
      show f_M_order_l29 A (nI i) (S i) = some (Sum.inl (nI (i + 1), S (i + 1)))
      unfold f_M_order_l29
      rw [n3, shl_1 _ (by omega), if_neg (nI_ge hi (by omega)), ixx_nI (by omega) (by omega), obs, ← nI_succ]
      congr 3
      funext a b
      rw [u2_eq, hSd, hSd]
      by_cases h : a = 6 ∧ b = i
      · rw [if_pos h, if_pos ⟨h.1, by omega⟩]
      · rw [if_neg h]
        by_cases h2 : a = 6 ∧ b < i
        · rw [if_pos h2, if_pos ⟨h2.1, by omega⟩]
        · rw [if_neg h2, if_neg (fun k => h2 ⟨k.1, by
            have : b ≠ i := fun e => h ⟨k.1, e⟩
            omega⟩)])
    (by
      show f_M_order_l29 A (nI (2 ^ C 0 3)) (S (2 ^ C 0 3)) = _
      unfold f_M_order_l29
      rw [n3, shl_1 _ (by omega), if_pos (nI_le (Nat.le_refl _) (by omega))])
  have e0 : S 0 = MS := by
    funext a b
    rw [hSd, if_neg (by omega)]
  rw [e0] at e
  refine ⟨_, e, fun m hm => ?_, fun k _ hsk => Or.inl ?_⟩
  · rw [hSd, if_neg (by omega), h1 m hm]
  · rw [hSd, if_pos ⟨rfl, sub_lt hN hsk⟩]
theorem T_order {C : CS} {Y H NS A BO GU MS : Nat → Nat → Int32} {r5 hm : Nat} (h : RL C Y H NS A) (hP : WFP C) (p1 : Int32) : TL C H NS (f_Y_order Y H NS BO GU hm r5 p1) (f_M_order A MS p1) cd1 (fun k => k = 2) := by
  have h' := h.thr 0
  obtain ⟨hW, hY, hH, hS, hM, hQ⟩ := h'
  have hA : (u2 A 0 0 0) 0 0 = 0 := thr_0 A 0
  unfold f_Y_order f_M_order
  generalize u2 A 0 0 0 = A at hM hQ hA ⊢
  have h' : RL C Y H NS A := ⟨hW, hY, hH, hS, hM, hQ⟩
  have z1 : ((1 : Int32) ≠ 0) = True := by simp
  have hN := hW.2.2.2.1
  rcases G_what (p := p1) 1 (by omega) with ⟨w, hw, rfl, k1, k2, k3⟩ | ⟨k3, k4⟩
  · have k3 : f_M_within (nI w) 0 1 = some 1 := k3
    have k2 : ¬ (1 : Int32) < nI w := k2
    obtain ⟨B', GU', a1, a2, a3⟩ := Y_guide BO GU hW hP hH hS
    obtain ⟨MS1, m1, m2⟩ := M_apart MS hW hP hM
    obtain ⟨MS2, n1, n2, n3⟩ := M_on0 MS1 hW hM m2
    obtain ⟨MS3, o1, o2, o3, _⟩ := M_goesOn hW hP hM 12 0 MS2 (by have := rem_le hN 0; omega) (sub_0 C) n2 n3
    have hal := sub_1024 hN (sub_all C)
    have hcl : cnt (s_ap C) (C 0 3) ≤ 10 := Nat.le_trans (cnt_le _ _) hN
    have hbc : f_Integer_bitCount (nI (s_apart C)) = some (nI (cnt (s_ap C) (C 0 3))) := bc_bs _ hN
    have hon : f_M_ones (nI (s_apart C)) = some (nI (cnt (s_ap C) (C 0 3))) := by rw [M_ones hal]; unfold s_apart; rw [pc_bs _ hN]
    have e5 : H 0 5 = nI (bs (fun m => C 10 m = 1) (C 0 3)) := hH 0 5 (show 5 < 6 by omega)
    have hfx : nI (s_apart C) &&& H 0 5 = nI (bs (fun m => s_ap C m ∧ C 10 m = 1) (C 0 3)) := by
      rw [e5, na_and]; unfold s_apart; rw [bs_and]
    have hfx0 : (nI (bs (fun m => s_ap C m ∧ C 10 m = 1) (C 0 3)) = 0) = (bs (fun m => s_ap C m ∧ C 10 m = 1) (C 0 3) = 0) := nI_eqP (b := 0) (by have := bs_lt10 (fun m => s_ap C m ∧ C 10 m = 1) hN; omega) (by omega)
    have o1' : f_grp_mo 12 0 A MS2 0 (nI (s_apart C)) = some (if s_on C 10 0 = true then 1 else 0, MS3) := o1
    simp only [k1, k2, k3, if_false, obs, se_r, Y_ref_in, M_may_in hA, if_true, z1, a1, m1, n1, o1']
    have hw2 : w = 0 ∨ w = 1 := by omega
    by_cases ho : s_on C 10 0 = true
    · have hnf : s_nofix C := fun x hx ha => on_fix hN 12 0 (by have := rem_le hN 0; omega) (sub_0 C) ho x hx ha (by rw [Nat.zero_testBit]; decide)
      have hz : bs (fun m => s_ap C m ∧ C 10 m = 1) (C 0 3) = 0 := Decidable.byContradiction fun hn => by
        obtain ⟨x, x1, x2, x3⟩ := (bs_ne0 _ _).mp hn
        have := hnf x x1 x2
        omega
      obtain ⟨⟨B4, G4⟩, l1, l2, l3, l4⟩ := Y_leads hW hP hH a2 a3 hnf
      have l3 : RG C G4 := l3
      have l4 : ∀ k, s_sub C k → 0 < k → G4 3 k = if s_ld C k then 1 else 0 := l4
      have hdg := Y_digits (BO := B4) hW hH l3 hnf l4 ho
      rw [rem_zero] at hdg
      have hlt := digs_lt hN (cnt (s_ap C) (C 0 3)) 0 0 0 (by decide)
      have hlt2 : s_digs C (cnt (s_ap C) (C 0 3)) 0 0 < 10 ^ 10 := Nat.lt_of_lt_of_le hlt (Nat.pow_le_pow_right (by omega) (by omega))
      have eY : f_Guide_firstOrder H B' GU' = some (nL (s_digs C (cnt (s_ap C) (C 0 3)) 0 0), B4, G4) := by
        unfold f_Guide_firstOrder
        rw [a3.2.2, hfx]
        simp only [hfx0]
        rw [if_pos hz]
        have l1' : loopN (fun q => f_Guide_firstOrder_l27 H q.1 q.2.1 q.2.2) a_F (nI (s_apart C), B', GU') = some (B4, G4) := by rw [← a3.2.2]; exact l1
        rw [l1', obs]
        show ((f_Integer_bitCount (G4 0 4)).bind _) = _
        rw [l3.2.2, hbc, obs]
        show ((loopN (fun q => f_Guide_firstOrder_l92 H G4 B4 q.1 q.2.1 q.2.2) a_F (0, 0, nI (cnt (s_ap C) (C 0 3)))).bind _) = _
        rw [hdg, obs, se_l]
      rw [eY, if_pos ho]
      simp only [obs, z1, if_true]
      rcases hw2 with rfl | rfl
      · refine TL.ans (B := B4) (G := G4) (r := hm) (S := MS3) (Int32.toInt64 (nI (cnt (s_ap C) (C 0 3)))) h' hA rfl ?_ ?_
        · rw [if_neg (show ¬ (nI 0 ≠ 0) by decide), if_neg (nL_ne hlt2), l3.2.2, hbc, obs, obs, se_r]
        · rw [if_neg (show ¬ (nI 0 ≠ 0) by decide), hon, obs]
      · obtain ⟨MS4, d1⟩ := M_digits hW hP hM o2 o3 ho
        rw [rem_zero] at d1
        refine TL.ans (B := B4) (G := G4) (r := hm) (S := MS4) (nL (s_digs C (cnt (s_ap C) (C 0 3)) 0 0)) h' hA rfl ?_ ?_
        · rw [if_pos (show nI 1 ≠ 0 by decide), obs, se_l]
        · rw [if_pos (show nI 1 ≠ 0 by decide), d1, obs]
    · have eY : ∃ B4 G4, f_Guide_firstOrder H B' GU' = some (-1, B4, G4) := by
        unfold f_Guide_firstOrder
        rw [a3.2.2, hfx]
        simp only [hfx0]
        by_cases hz : bs (fun m => s_ap C m ∧ C 10 m = 1) (C 0 3) = 0
        · rw [if_pos hz]
          have hnf : s_nofix C := fun x hx ha => by
            have hf := hW.fixed x
            have : ¬ C 10 x = 1 := fun e => (bs_ne0 _ _).mpr ⟨x, hx, ha, e⟩ hz
            omega
          obtain ⟨⟨B4, G4⟩, l1, l2, l3, l4⟩ := Y_leads hW hP hH a2 a3 hnf
          have l3 : RG C G4 := l3
          have l4 : ∀ k, s_sub C k → 0 < k → G4 3 k = if s_ld C k then 1 else 0 := l4
          have l1' : loopN (fun q => f_Guide_firstOrder_l27 H q.1 q.2.1 q.2.2) a_F (nI (s_apart C), B', GU') = some (B4, G4) := by rw [← a3.2.2]; exact l1
          rw [l1', obs]
          show ∃ B4' G4', ((f_Integer_bitCount (G4 0 4)).bind _) = _
          rw [l3.2.2, hbc, obs]
          show ∃ B4' G4', ((loopN (fun q => f_Guide_firstOrder_l92 H G4 B4 q.1 q.2.1 q.2.2) a_F (nL 0, nI 0, nI (cnt (s_ap C) (C 0 3)))).bind _) = _
          have hc0 : cnt (s_ap C) (C 0 3) ≠ 0 := fun e => ho ((on_step hN (sub_0 C)).mpr (Or.inl (rem_0 (sub_0 C) (by rw [rem_zero]; exact e))))
          have hnx : s_nx C 0 = none := by
            cases hx : s_nx C 0 with
            | none => rfl
            | some m =>
              exfalso
              obtain ⟨_, q2, q3, _⟩ := s_first_is (p := s_go C 0) (C 0 3) 0 m hx
              exact ho ((on_step hN (sub_0 C)).mpr (Or.inr ⟨m, by omega, q3.1, q3.2⟩))
          have hb : f_Guide_firstOrder_l92 H G4 B4 (nL 0) (nI 0) (nI (cnt (s_ap C) (C 0 3))) = some (.inr (.inr (-1, B4, G4))) := by
            unfold f_Guide_firstOrder_l92
            rw [if_neg (show ¬ nI (cnt (s_ap C) (C 0 3)) ≤ 0 from fun h => by have := (na_le (b := 0) (by omega) (by omega)).mp h; omega), Y_nextOf hW hH l3 hnf (sub_0 C) (fun k hk ha hg' => l4 _ (sub_or (sub_0 C) hk ha) (by have := or_gt hg'; omega)), obs, hnx]
            rw [if_neg (show ¬ (oI (oN none) ≠ -1) by decide)]
          have hl : loopN (fun q => f_Guide_firstOrder_l92 H G4 B4 q.1 q.2.1 q.2.2) a_F (nL 0, nI 0, nI (cnt (s_ap C) (C 0 3))) = some (.inr (-1, B4, G4)) := by
            have : a_F = 1048575 + 1 := rfl
            exact loop_r (n := a_F - 1) hb
          rw [hl, obs, se_r]
          exact ⟨B4, G4, rfl⟩
        · rw [if_neg hz]
          exact ⟨B', GU', rfl⟩
      obtain ⟨B4, G4, eY⟩ := eY
      rw [eY, if_neg ho]
      simp only [obs]
      refine TL.ans (B := B4) (G := G4) (r := hm) (S := MS3) (-1) h' hA rfl ?_ ?_
      · rcases hw2 with rfl | rfl
        · rw [if_neg (show ¬ (nI 0 ≠ 0) by decide), if_pos (by decide), obs, se_l]
        · rw [if_pos (show nI 1 ≠ 0 by decide), obs, se_l]
      · rw [if_neg (show ¬ ((0 : Int32) ≠ 0) by decide)]
  · have k3 : f_M_within p1 0 1 = some 0 := k3
    have k4 : ¬ p1 < 0 → (1 : Int32) < p1 := k4
    refine TL.ref (B := BO) (G := GU) (S := MS) (r := r5) 1 (by omega) h' rfl ?_ ?_
    · by_cases k1 : p1 < 0
      · simp only [k1, if_true, obs, se_l, Y_ref_out]; rfl
      · simp only [k1, k4 k1, if_false, if_true, obs, se_l, Y_ref_out]; rfl
    · rw [k3, obs]
      show ((f_M_may A 0 1 (nI 1)).bind _) = _
      rw [M_may_out hA (by decide) (by omega)]; rfl
