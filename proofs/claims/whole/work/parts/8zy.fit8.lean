/-! PURE MATH: fits, goes, hours -/
/-- what was found, the asked one and the others -/
theorem fit_val {C : CS} {j w k : Nat} {q' : Nat → Nat} (hW : WFC C) (hwN : w < 2 ^ C 0 3) (hwj : ¬ w.testBit j = true) (hk : k < 30) (h : s_fit C j w k = some q') : q' j = k + 1 ∧ (∀ x, x = j ∨ w.testBit x = true → q' x ≠ 0) ∧ ∀ x, q' x ≤ 30 := by
  unfold s_fit at h
  by_cases c : bs (s_bad C (s_aw C j w)) (C 0 3) = 0 ∧ s_clash C (s_aw C j w) j k = 0
  · rw [if_pos c] at h
    obtain ⟨v1, v2, v3⟩ := seek_val _ _ _ h
    have hj : j ∉ s_os w (C 0 3) 0 := fun hm => hwj ((os_mem w _ _ j).mp hm).2.2
    have hjv : q' j = k + 1 := by rw [v1 j hj, pu_same]
    refine ⟨hjv, fun x hx => ?_, v3 (pu_le (fun x => ?_) (by omega))⟩
    · rcases hx with rfl | hx
      · rw [hjv]; omega
      · exact v2 x ((os_mem w _ _ x).mpr ⟨Nat.zero_le _, by have := bit_lt hwN hx; omega, hx⟩)
    · unfold s_aw
      split
      · omega
      · exact hW.plan x
  · rw [if_neg c] at h; cases h
theorem T_fits {C : CS} {Y H NS A BO FI MS : Nat → Nat → Int32} {r5 hm : Nat} (h : RL C Y H NS A) (hP : WFP C) (p1 p2 p3 : Int32) : TG C H NS (f_Y_fits Y H NS BO FI hm r5 p1 p2 p3) (f_M_fits A MS p1 p2 p3) cd2 (fun k => k < 3) := by
  have h' := h.thr 0
  obtain ⟨hW, hY, hH, hS, hM, hQ⟩ := h'
  have hA : (u2 A 0 0 0) 0 0 = 0 := thr_0 A 0
  unfold f_Y_fits f_M_fits f_M_isAsked
  generalize u2 A 0 0 0 = A at hM hQ hA ⊢
  have h' : RL C Y H NS A := ⟨hW, hY, hH, hS, hM, hQ⟩
  have z1 : ((1 : Int32) ≠ 0) = True := by simp
  have z10 : ((1 : Int32) = 0) = False := by simp
  have n10 : ((1 : Nat) = 0) = False := by simp
  have n20 : ((2 : Nat) = 0) = False := by simp
  have hN := hW.2.2.2.1
  obtain ⟨x3, hx3⟩ : ∃ x, f_M_within p3 0 3 = some x := by
    rcases G_what (p := p3) 3 (by omega) with ⟨_, _, _, _, _, k⟩ | ⟨k, _⟩
    · exact ⟨1, k⟩
    · exact ⟨0, k⟩
  rw [hx3, obs]
  rcases G_meet (Y := Y) hW hH hM hA p1 with ⟨m, hm', rfl, e1, e2⟩ | ⟨e1, e2⟩
  · rw [e1, e2 1]
    simp only [obs, if_true, z10, if_false]
    rcases G_hour (Y := Y) hW hH hM p2 with ⟨t, ht, rfl, g1, g2⟩ | ⟨g1, g2⟩
    · rw [g1, g2]
      simp only [obs, if_true, z10, if_false]
      rcases G_what (p := p3) 3 (by omega) with ⟨w, hw, rfl, k1, k2, k3⟩ | ⟨k3, k4⟩
      · have k3 : f_M_within (nI w) 0 3 = some 1 := k3
        rw [k3] at hx3
        cases hx3
        have k2 : ¬ (3 : Int32) < nI w := k2
        simp only [k1, k2, z10, if_false, obs, se_l, se_r, Y_ref_in, M_may_in hA, if_true, zb_1]
        rw [if_pos (by decide)]
        obtain ⟨B1, b1, b2⟩ := T_look BO hW hH hS
        obtain ⟨B', F', M', s1, s2, s3, s4⟩ := search_both (F := FI) (M := MS) hW hP hH hM b2 hm' ht
        rw [b1, obs, s1, s2, obs, obs]
        simp only [ne_eq]
        rw [s4.1]
        rcases s4.2.2 with ⟨c1, c2, c3⟩ | ⟨wS, r, q', c, n, c1, c2, c3, c4, c5, c6, c7, c8, c9, c10, c11, c12⟩
        · have c1' : M' 0 45 = -1 := by rw [← s4.1]; exact c1
          rw [if_neg (fun h => h c1'), if_neg (fun h => h c1')]
          exact TG.ans (B := B') (G := F') (r := hm) (S := M') (-1) h' hA rfl rfl rfl
        · have c1' : ¬ M' 0 45 = -1 := by rw [← s4.1, c5]; exact na_ne1 (by omega)
          rw [if_pos c1', if_pos c1']
          obtain ⟨v1, v2, v3⟩ := fit_val hW c1 c2 (k := 3 * t + r) (by have := hW.1.2; have := hW.2.1; omega) c11
          have hw4 : w = 0 ∨ w = 1 ∨ w = 2 ∨ w = 3 := by omega
          rcases hw4 with rfl | rfl | rfl | rfl
          · exact TG.ans (B := B') (G := F') (r := hm) (S := M') (M' 0 45) h' hA rfl rfl rfl
          · exact TG.ans (B := B') (G := F') (r := hm) (S := M') (nI wS) h' hA rfl (by rw [c6]; rfl) (by rw [c9]; rfl)
          · refine TG.ans (B := B') (G := F') (r := hm) (S := M') (nI r) h' hA rfl ?_ (by rw [c10]; rfl)
            rw [rdx_nI (by omega) (by omega), c12 m hm', if_pos (Or.inl rfl), v1, oI_s, obs]
            have := hW.1.2
            have := hW.2.1
            rw [if_neg (by decide), if_neg (by decide), if_pos (by decide)]
            unfold f_Y_roomOf
            rw [(nI_hr (3 * t + r) (by omega)).2, obs, show (3 * t + r) % 3 = r from by omega]
          · exact TG.ans (B := B') (G := F') (r := hm) (S := M') (nI c) h' hA rfl (by rw [c7]; rfl) (by rw [← s4.2.1, c7]; rfl)
      · have k3 : f_M_within p3 0 3 = some 0 := k3
        rw [k3] at hx3
        cases hx3
        refine TG.ref (B := BO) (G := FI) (S := MS) (r := r5) 1 (by omega) h' (show _ < 3 from by omega) ?_ ?_
        · have ev : ((((if p3 < 0 then some (.inl ()) else if 3 < p3 then some (.inl ()) else some (.inr 1)) : Option (Unit ⊕ Int32)).bind fun b5 => sumE b5 (fun _ => some 0) (fun q => some q)) : Option Int32) = some 0 := by
            by_cases k1 : p3 < 0
            · rw [if_pos k1]; rfl
            · rw [if_neg k1, if_pos (show (3 : Int32) < p3 from k4 k1)]; rfl
          rw [ev, obs, Y_ref_out, obs]
          simp only [n20, if_false]
          rfl
        · simp only [z10, if_false, if_true, obs, se_l]
          show ((f_M_may A 0 (nI 2) (nI 1)).bind _).bind _ = _
          rw [M_may_out hA (by decide) (by omega)]
          rfl
    · refine TG.ref (B := BO) (G := FI) (S := MS) (r := r5) 1 (by omega) h' (show _ < 3 from by omega) ?_ ?_
      · rw [g1, obs]
        rfl
      · rw [g2, obs]
        simp only [if_true, obs, se_l]
        show ((f_M_may A 0 (nI 2) (nI 1)).bind _).bind _ = _
        rw [M_may_out hA (by decide) (by omega)]
        rfl
  · refine TG.ref (B := BO) (G := FI) (S := MS) (r := r5) 0 (by omega) h' (show _ < 3 from by omega) ?_ ?_
    · rw [e1]; rfl
    · rw [e2 1 (by decide)]; rfl
theorem T_goes {C : CS} {Y H NS A BO FI MS : Nat → Nat → Int32} {r5 hm : Nat} (h : RL C Y H NS A) (hP : WFP C) (p1 p2 p3 : Int32) : TG C H NS (f_Y_goes Y H NS BO FI hm r5 p1 p2 p3) (f_M_goes A MS p1 p2 p3) cd2 (fun k => k < 3) := by
  have h' := h.thr 0
  obtain ⟨hW, hY, hH, hS, hM, hQ⟩ := h'
  have hA : (u2 A 0 0 0) 0 0 = 0 := thr_0 A 0
  unfold f_Y_goes f_M_goes
  generalize u2 A 0 0 0 = A at hM hQ hA ⊢
  have h' : RL C Y H NS A := ⟨hW, hY, hH, hS, hM, hQ⟩
  have z1 : ((1 : Int32) ≠ 0) = True := by simp
  have z10 : ((1 : Int32) = 0) = False := by simp
  have n10 : ((1 : Nat) = 0) = False := by simp
  have n20 : ((2 : Nat) = 0) = False := by simp
  have hN := hW.2.2.2.1
  have hT := hW.1.2
  have hR3 := hW.2.1
  rcases G_meet (Y := Y) hW hH hM hA p1 with ⟨m, hm', rfl, e1, e2⟩ | ⟨e1, e2⟩
  · rw [e1, e2 1]
    simp only [obs, if_true, z10, if_false]
    rcases G_meet (Y := Y) hW hH hM hA p3 with ⟨o, ho, rfl, i1, i2⟩ | ⟨i1, i2⟩
    · rw [i1, i2 1]
      simp only [obs, if_true, z10, if_false]
      rcases G_hour (Y := Y) hW hH hM p2 with ⟨t, ht, rfl, g1, g2⟩ | ⟨g1, g2⟩
      · rw [g1, g2]
        simp only [obs, if_true, z1, M_may_in hA]
        obtain ⟨B1, b1, b2⟩ := T_look BO hW hH hS
        obtain ⟨B', F', M', s1, s2, s3, s4⟩ := search_both (F := FI) (M := MS) hW hP hH hM b2 hm' ht
        rw [b1, obs, s1, s2, obs, obs]
        simp only [ne_eq]
        rcases s4.2.2 with ⟨c1, c2, c3⟩ | ⟨wS, r, q', c, n, c1, c2, c3, c4, c5, c6, c7, c8, c9, c10, c11, c12⟩
        · have c1' : M' 0 45 = -1 := by rw [← s4.1]; exact c1
          rw [if_pos c1']
          refine TG.ans (B := B') (G := F') (r := hm) (S := M') (-1) h' hA rfl ?_ rfl
          rw [rdx_nI (by omega) (by omega), c3 o (by omega), obs]
          unfold f_Y_tenfold
          rw [if_neg (fun h => h rfl), obs]
        · have c1' : ¬ M' 0 45 = -1 := by rw [← s4.1, c5]; exact na_ne1 (by omega)
          obtain ⟨v1, v2, v3⟩ := fit_val hW c1 c2 (k := 3 * t + r) (by omega) c11
          have hpow : 2 ^ C 0 3 ≤ 1024 := Nat.le_trans (Nat.pow_le_pow_right (by omega) hN) (by decide : 2 ^ 10 ≤ 1024)
          obtain ⟨q1, q2⟩ := bitq (x := wS) (j := o) (by omega) (by omega)
          rw [if_neg c1', c9, c10, rdx_nI (by omega) (by omega), c12 o ho, obs]
          simp only [nI_eqP (show o < 2 ^ 31 by omega) (show m < 2 ^ 31 by omega), q1, Decidable.not_not]
          by_cases cc : o = m ∨ wS.testBit o = true
          · have ev : (if o = m then some (.inl ()) else if wS.testBit o = true then some (.inl ()) else some (.inr (-1, A, M')) : Option (Unit ⊕ (Int32 × (Nat → Nat → Int32) × (Nat → Nat → Int32)))) = some (.inl ()) := by
              by_cases c : o = m
              · rw [if_pos c]
              · rw [if_neg c, if_pos (cc.resolve_left c)]
            obtain ⟨M2, m1, m2, m3⟩ := M_fitsIn M' hW hP hM (w := wS) (k := 3 * t + r) hm' (by omega) c2 (by omega) (by omega)
            rw [c11] at m1
            have r4 : rdx (M2 4) 10 (nI o) = some (oI (q' o)) := by rw [rdx_nI (by omega) (by omega), m2 q' c11 o ho]
            rw [if_pos cc, ev, obs, se_l, (pl_of t r).2, m1, obs, r4, obs]
            have v2o := v2 o cc
            have v3o := v3 o
            obtain ⟨x, hx⟩ := tenfold_some (q' o) (by omega)
            have hx2 := tenfold_eq (q' o) (by omega)
            rw [if_neg (fun e => v2o ((oI_ne v3o).mp e))] at hx2
            rw [hx, ← hx2, hx]
            exact TG.ans (B := B') (G := F') (r := hm) (S := M2) x h' hA rfl rfl rfl
          · have ev : (if o = m then some (.inl ()) else if wS.testBit o = true then some (.inl ()) else some (.inr (-1, A, M')) : Option (Unit ⊕ (Int32 × (Nat → Nat → Int32) × (Nat → Nat → Int32)))) = some (.inr (-1, A, M')) := by
              rw [if_neg (fun h => cc (Or.inl h)), if_neg (fun h => cc (Or.inr h))]
            rw [if_neg cc, ev, obs, se_r]
            unfold f_Y_tenfold
            rw [if_neg (fun h => h rfl), obs]
            exact TG.ans (B := B') (G := F') (r := hm) (S := M') (-1) h' hA rfl rfl rfl
      · refine TG.ref (B := BO) (G := FI) (S := MS) (r := r5) 1 (by omega) h' (show _ < 3 from by omega) ?_ ?_
        · rw [g1, obs]
          rfl
        · rw [g2, obs]
          show ((f_M_may A 0 (nI 2) (nI 1)).bind _) = _
          rw [M_may_out hA (by decide) (by omega)]
          rfl
    · refine TG.ref (B := BO) (G := FI) (S := MS) (r := r5) 0 (by omega) h' (show _ < 3 from by omega) ?_ ?_
      · rw [i1]; rfl
      · rw [i2 1 (by decide)]; rfl
  · refine TG.ref (B := BO) (G := FI) (S := MS) (r := r5) 0 (by omega) h' (show _ < 3 from by omega) ?_ ?_
    · rw [e1]; rfl
    · rw [e2 1 (by decide)]; rfl
theorem T_hours {C : CS} {Y H NS A BO FI MS : Nat → Nat → Int32} {r5 hm : Nat} (h : RL C Y H NS A) (hP : WFP C) (p1 : Int32) : TG C H NS (f_Y_hours Y H NS BO FI hm r5 p1) (f_M_hours A MS p1) cd1 (fun k => k = 1) := by
  have h' := h.thr 0
  obtain ⟨hW, hY, hH, hS, hM, hQ⟩ := h'
  have hA : (u2 A 0 0 0) 0 0 = 0 := thr_0 A 0
  unfold f_Y_hours f_M_hours
  generalize u2 A 0 0 0 = A at hM hQ hA ⊢
  have h' : RL C Y H NS A := ⟨hW, hY, hH, hS, hM, hQ⟩
  have z1 : ((1 : Int32) ≠ 0) = True := by simp
  have hT := hW.1.2
  have h00 : H 0 0 = nI (C 0 0) := hH 0 0 (show 0 < 6 by omega)
  have n0 : A 0 23 = nI (C 0 0) := hM.n (j := 0) (by omega)
  rcases G_meet (Y := Y) hW hH hM hA p1 with ⟨m, hm', rfl, e1, e2⟩ | ⟨e1, e2⟩
  · rw [e1, e2 1]
    obtain ⟨B1, b1, b2⟩ := T_look BO hW hH hS
    simp only [obs, if_true, z1, b1]
    obtain ⟨b, c, b1', b2', b3⟩ := loop_two (f := fun q : Int32 × Int32 × (Nat → Nat → Int32) × (Nat → Nat → Int32) => f_Y_hours_l14 H (nI m) q.1 q.2.1 q.2.2.1 q.2.2.2) (g := fun q : Int32 × Int32 × (Nat → Nat → Int32) => f_M_hours_l20 A (nI m) q.1 q.2.1 q.2.2) (C 0 0)
      (fun t s u => s.1 = u.1 ∧ s.2.1 = nI t ∧ u.2.1 = nI t ∧ RB C (C 15) (C 16) s.2.2.1) (fun b c => b.1 = c.1) (by omega)
      (fun t s u ht hR => by
        obtain ⟨a, v, X, Z⟩ := s
        obtain ⟨a', v', W⟩ := u
        obtain ⟨r1, r2, r3, r4⟩ := hR
        have r1 : a = a' := r1
        have r2 : v = nI t := r2
        have r3 : v' = nI t := r3
        subst r1; subst r2; subst r3
        obtain ⟨B', F', M', s1, s2, s3, s4⟩ := search_both (F := Z) (M := W) hW hP hH hM r4 hm' ht
        show ∃ s' t', f_Y_hours_l14 H (nI m) a (nI t) X Z = _ ∧ f_M_hours_l20 A (nI m) a (nI t) W = _ ∧ _
        unfold f_Y_hours_l14 f_M_hours_l20
        rw [h00, n0, if_neg (nI_ge ht (by omega)), if_neg (nI_ge ht (by omega)), s1, s2, obs, obs]
        simp only [ne_eq]
        rw [s4.1]
        by_cases c : M' 0 45 = -1
        · rw [if_pos c, if_neg (fun h => h c), ← nI_succ]
          exact ⟨_, _, rfl, rfl, (Int32.add_zero a).symm, rfl, rfl, s3⟩
        · rw [if_neg c, if_pos c, ← nI_succ]
          exact ⟨_, _, rfl, rfl, rfl, rfl, rfl, s3⟩)
      (fun s u hR => by
        obtain ⟨a, v, X, Z⟩ := s
        obtain ⟨a', v', W⟩ := u
        obtain ⟨r1, r2, r3, r4⟩ := hR
        have r2 : v = nI (C 0 0) := r2
        have r3 : v' = nI (C 0 0) := r3
        subst r2; subst r3
        show ∃ b c, f_Y_hours_l14 H (nI m) a (nI (C 0 0)) X Z = _ ∧ f_M_hours_l20 A (nI m) a' (nI (C 0 0)) W = _ ∧ _
        unfold f_Y_hours_l14 f_M_hours_l20
        rw [h00, n0, if_pos (nI_le (Nat.le_refl _) (by omega)), if_pos (nI_le (Nat.le_refl _) (by omega))]
        exact ⟨_, _, rfl, rfl, r1⟩)
      0 (Nat.zero_le _) (0, 0, B1, FI) (0, 0, MS) ⟨rfl, rfl, rfl, b2⟩
    rw [b1', b2', obs, obs, b3]
    exact TG.ans (B := b.2.1) (G := b.2.2) (r := hm) (S := c.2) c.1 h' hA rfl rfl rfl
  · refine TG.ref (B := BO) (G := FI) (S := MS) (r := r5) 0 (by omega) h' rfl ?_ ?_
    · rw [e1]; rfl
    · rw [e2 1 (by decide)]; rfl
