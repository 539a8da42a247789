/-! PURE MATH: clash, clashing, free, hold -/
/-- places are of the house, told hours too -/
def WFP (C : CS) : Prop := (∀ m, m < C 0 3 → okP C (C 15 m)) ∧ (∀ k, k < C 0 4 → okP C (C 11 k + 1)) ∧ (∀ i, i < C 0 7 → okP C (C 18 i + 1) ∧ C 17 i < C 0 3) ∧ (∀ a m, a < C 0 5 → m < C 0 3 → okP C (C 22 (10 * a + m))) ∧ (∀ m, C 9 m < 2 ^ C 0 0)
theorem G_place {C : CS} {Y H A : Nat → Nat → Int32} (hW : WFC C) (hH : RH C H) (hM : RMo C A) (hA : A 0 0 = 0) (p1 p2 p3 : Int32) :
    (∃ m h r, m < C 0 3 ∧ h < C 0 0 ∧ r < C 0 1 ∧ p1 = nI m ∧ p2 = nI h ∧ p3 = nI r ∧ f_Y_needPlace Y H p1 p2 p3 = some (0, Y) ∧ f_M_isPlace A p1 p2 p3 = some (1, A)) ∨
    (∃ k, k < 2 ∧ f_Y_needPlace Y H p1 p2 p3 = some (k + 1, yRef Y k) ∧ f_M_isPlace A p1 p2 p3 = some (0, mRef A (nI (k + 1)) k)) := by
  have z10 : ((1 : Int32) = 0) = False := by simp
  have n10 : ((1 : Nat) = 0) = False := by simp
  have n20 : ((2 : Nat) = 0) = False := by simp
  unfold f_Y_needPlace f_M_isPlace
  rcases G_meet (Y := Y) hW hH hM hA p1 with ⟨m, hm, rfl, e1, e2⟩ | ⟨e1, e2⟩
  · rw [e1, e2 1]
    rcases G_room (Y := Y) hW hH hM hA p3 with ⟨r, hr, rfl, f1, f2⟩ | ⟨f1, f2⟩
    · simp only [obs, if_true, f1, f2, z10, if_false]
      rcases G_hour (Y := Y) hW hH hM p2 with ⟨h, hh, rfl, g1, g2⟩ | ⟨g1, g2⟩
      · refine Or.inl ⟨m, h, r, hm, hh, hr, rfl, rfl, rfl, ?_, ?_⟩
        · simp only [g1, obs, if_true]
        · simp only [g2, obs, M_may_in hA, z10, if_false, zb_1]
      · refine Or.inr ⟨1, by omega, ?_, ?_⟩
        · simp only [g1, obs, n20, if_false]
        · rw [g2, obs]
          show ((f_M_may A 0 (nI 2) (nI 1)).bind _) = _
          rw [M_may_out hA (by decide) (by omega), obs, if_pos rfl, zb_0]
    · refine Or.inr ⟨0, by omega, ?_, ?_⟩
      · simp only [obs, if_true, f1, n10, if_false]
      · simp only [obs, z10, if_false, f2 1 (by decide), if_true, zb_0]; rfl
  · refine Or.inr ⟨0, by omega, ?_, ?_⟩
    · rw [e1]; rfl
    · rw [e2 1 (by decide)]; rfl
theorem WFC.pl30 {C : CS} (h : WFC C) : ∀ m, C 15 m ≤ 30 := h.plan
theorem RMo.rp {C : CS} {A : Nat → Nat → Int32} (h : RMo C A) : RP C (C 15) (A 7) := fun m hm => h.here hm
theorem T_clash {C : CS} {Y H NS A BO : Nat → Nat → Int32} {r5 hm : Nat} (h : RL C Y H NS A) (p1 p2 p3 : Int32) : TD C H NS (f_Y_clash Y H NS BO hm r5 p1 p2 p3) (f_M_clash A p1 p2 p3) cd2 (fun k => k < 3) := by
  have h' := h.thr 0
  obtain ⟨hW, hY, hH, hS, hM, hQ⟩ := h'
  have hA : (u2 A 0 0 0) 0 0 = 0 := thr_0 A 0
  unfold f_Y_clash f_M_clash
  generalize u2 A 0 0 0 = A at hM hQ hA ⊢
  have h' : RL C Y H NS A := ⟨hW, hY, hH, hS, hM, hQ⟩
  have z1 : ((1 : Int32) ≠ 0) = True := by simp
  have hH10 := hW.1.2
  have hR3 := hW.2.1
  rcases G_place (Y := Y) hW hH hM hA p1 p2 p3 with ⟨m, hh, r, h1, h2, h3, rfl, rfl, rfl, e1, e2⟩ | ⟨k, hk, e1, e2⟩
  · rw [e1, e2]
    obtain ⟨B', b1, b2⟩ := T_look BO hW hH hS
    refine TD.ans (B := B') (r := hm) (nI (s_clash C (C 15) m (3 * hh + r))) h' hA rfl ?_ ?_
    · simp only [obs, if_true, b1, f_Y_placeOf]
      rw [show nI hh * 3 + nI r = nI (3 * hh + r) from (pl_of hh r).1, Y_clashes hW hH b2 hW.plan h1 (by omega) (by omega), obs]
    · simp only [obs, z1, if_true]
      rw [show 3 * nI hh + nI r = nI (3 * hh + r) from (pl_of hh r).2, M_clashOf hW hM hM.rp hW.plan h1 (by omega) (by omega), obs]
  · rw [e1, e2]
    refine TD.ref (B := BO) (r := r5) k hk h' (show _ < 3 from by omega) ?_ ?_
    · simp only [obs, Nat.add_one_ne_zero, if_false]
    · rfl
theorem T_clashing {C : CS} {Y H NS A BO : Nat → Nat → Int32} (h : RL C Y H NS A) (hP : WFP C) : ∃ v B', f_Y_clashing H NS BO = some (v, B') ∧ f_M_clashing A = some (v, u2 A 0 0 0) := by
  have h' := h.thr 0
  obtain ⟨hW, hY, hH, hS, hM, hQ⟩ := h'
  have hN := hW.2.2.2.1
  obtain ⟨B', b1, b2⟩ := T_look BO hW hH hS
  refine ⟨nI (bs (s_bad C (C 15)) (C 0 3)), B', ?_, ?_⟩
  · unfold f_Y_clashing
    rw [b1, obs]
    have h03 : H 0 3 = nI (C 0 3) := hH 0 3 (show 3 < 6 by omega)
    have e := loop_S (body := fun q => f_Y_clashing_l9 H B' q.1 q.2) (C 0 3) (fun i => (nI (bs (s_bad C (C 15)) i), nI i)) (b := nI (bs (s_bad C (C 15)) (C 0 3))) 0 (by omega) (by omega)
      (fun i _ hi => by
        have hp := hW.plan i
        show f_Y_clashing_l9 H B' (nI _) (nI i) = _
        unfold f_Y_clashing_l9
        rw [h03, if_neg (nI_ge hi (by omega)), rdx_nI (by omega) (by omega), b2.1 i hi]
        simp only [obs, oI_z hp]
        by_cases c1 : C 15 i = 0
        · rw [if_pos c1, bs_miss (p := s_bad C (C 15)) (fun h => h.1 c1), ← nI_succ]
        · rw [if_neg c1]
          obtain ⟨k, hk⟩ : ∃ k, C 15 i = k + 1 := ⟨C 15 i - 1, by omega⟩
          obtain ⟨o1, o2⟩ := (hP.1 i hi).2 c1
          rw [hk] at o1 o2
          rw [show oI (C 15 i) = nI k from by rw [hk, oI_s], Y_isOpen hW hH b2 hW.plan hi (by omega) (by omega), obs]
          by_cases c2 : s_clash C (C 15) i k = 0
          · rw [if_pos c2, if_pos (by decide), bs_miss (p := s_bad C (C 15)) (fun h => h.2 (by rw [hk, Nat.add_sub_cancel]; exact c2)), ← nI_succ]
          · rw [if_neg c2, if_neg (by decide), ← bs_hit (p := s_bad C (C 15)) ⟨c1, by rw [hk, Nat.add_sub_cancel]; exact c2⟩, ← nI_succ, shl_1 _ (by omega), na_or])
      (by
        show f_Y_clashing_l9 H B' _ (nI (C 0 3)) = _
        unfold f_Y_clashing_l9
        rw [h03, if_pos (nI_le (Nat.le_refl _) (by omega))])
    show (loopN _ a_F (nI (bs (s_bad C (C 15)) 0), nI 0)).bind _ = _
    rw [e]; rfl
  · unfold f_M_clashing
    have n3 : (u2 A 0 0 0) 0 26 = nI (C 0 3) := hM.n (j := 3) (by omega)
    have e := loop_S (body := fun q => f_M_clashing_l9 A q.1 q.2) (C 0 3) (fun i => (nI (bs (s_bad C (C 15)) i), nI i)) (b := nI (bs (s_bad C (C 15)) (C 0 3))) 0 (by omega) (by omega)
      (fun i _ hi => by
        have hp := hW.plan i
        show f_M_clashing_l9 A (nI _) (nI i) = _
        unfold f_M_clashing_l9
        rw [n3, if_neg (nI_ge hi (by omega)), rdx_nI (by omega) (by omega), hM.here hi]
        simp only [obs, oI_z hp]
        by_cases c1 : C 15 i = 0
        · rw [if_pos c1, bs_miss (p := s_bad C (C 15)) (fun h => h.1 c1), ← nI_succ, obs, se_l, obs, show (0 : Int32) = nI 0 from rfl, na_or, Nat.or_zero]
        · rw [if_neg c1]
          obtain ⟨k, hk⟩ : ∃ k, C 15 i = k + 1 := ⟨C 15 i - 1, by omega⟩
          obtain ⟨o1, o2⟩ := (hP.1 i hi).2 c1
          rw [hk] at o1 o2
          have hc := s_clash_lt C (C 15) i k
          rw [show oI (C 15 i) = nI k from by rw [hk, oI_s], M_clashOf hW hM hM.rp hW.plan hi (by omega) (by omega), obs]
          simp only [show (nI (s_clash C (C 15) i k) = 0) = (s_clash C (C 15) i k = 0) from nI_eqP (b := 0) (by omega) (by omega)]
          by_cases c2 : s_clash C (C 15) i k = 0
          · rw [if_pos c2, bs_miss (p := s_bad C (C 15)) (fun h => h.2 (by rw [hk, Nat.add_sub_cancel]; exact c2)), ← nI_succ, obs, se_l, obs, show (0 : Int32) = nI 0 from rfl, na_or, Nat.or_zero]
          · rw [if_neg c2, ← bs_hit (p := s_bad C (C 15)) ⟨c1, by rw [hk, Nat.add_sub_cancel]; exact c2⟩, ← nI_succ, shl_1 _ (by omega), obs, se_r, obs, na_or])
      (by
        show f_M_clashing_l9 A _ (nI (C 0 3)) = _
        unfold f_M_clashing_l9
        rw [n3, if_pos (nI_le (Nat.le_refl _) (by omega))])
    show (loopN _ a_F (nI (bs (s_bad C (C 15)) 0), nI 0)).bind _ = _
    rw [e]; rfl
theorem cnt_3 (p : Nat → Prop) [DecidablePred p] (n : Nat) : cnt p (3 * n) = cnt (fun h => p (3 * h)) n + cnt (fun h => p (3 * h + 1)) n + cnt (fun h => p (3 * h + 2)) n := by
  induction n with
  | zero => rfl
  | succ n ih =>
    rw [show 3 * (n + 1) = 3 * n + 1 + 1 + 1 from by omega]
    show cnt p (3 * n) + (if p (3 * n) then 1 else 0) + (if p (3 * n + 1) then 1 else 0) + (if p (3 * n + 1 + 1) then 1 else 0) = (cnt (fun h => p (3 * h)) n + (if p (3 * n) then 1 else 0)) + (cnt (fun h => p (3 * h + 1)) n + (if p (3 * n + 1) then 1 else 0)) + (cnt (fun h => p (3 * h + 2)) n + (if p (3 * n + 2) then 1 else 0))
    rw [ih, show 3 * n + 1 + 1 = 3 * n + 2 from by omega]
    omega
theorem cnt_none (p : Nat → Prop) [DecidablePred p] (n : Nat) (h : ∀ i, i < n → ¬ p i) : cnt p n = 0 := by
  induction n with
  | zero => rfl
  | succ n ih =>
    unfold cnt
    rw [ih (fun i hi => h i (by omega)), if_neg (h n (by omega))]
/-- the places of the house where m has no clashes -/
abbrev s_fr (C : CS) (pl : Nat → Nat) (m k : Nat) : Prop := k % 3 < C 0 1 ∧ k / 3 < C 0 0 ∧ s_clash C pl m k = 0
theorem clash0_hour {C : CS} (hP : WFP C) {pl : Nat → Nat} {m k : Nat} (h : s_clash C pl m k = 0) : k / 3 < C 0 0 := by
  have h1 := ((s_clash_0 C pl m k).mp h).1
  have hlt : s_may C m < 2 ^ C 0 0 := by
    unfold s_may
    split
    · have := Nat.two_pow_pos (C 0 0); omega
    · exact hP.2.2.2.2 m
  exact Decidable.byContradiction fun hn => by
    have h2 : s_may C m < 2 ^ (k / 3) := Nat.lt_of_lt_of_le hlt (Nat.pow_le_pow_right (by omega) (by omega))
    rw [Nat.testBit_lt_two_pow h2] at h1
    cases h1
theorem cnt_congrN {p q : Nat → Prop} [DecidablePred p] [DecidablePred q] {n : Nat} (h : ∀ i, i < n → (p i ↔ q i)) : cnt p n = cnt q n := by
  induction n with
  | zero => rfl
  | succ n ih =>
    unfold cnt
    rw [ih (fun i hi => h i (by omega))]
    have := h n (by omega)
    by_cases hp : p n
    · rw [if_pos hp, if_pos (this.mp hp)]
    · rw [if_neg hp, if_neg (fun hq => hp (this.mpr hq))]
theorem free_eq {C : CS} (hW : WFC C) (hP : WFP C) (pl : Nat → Nat) (m : Nat) : tsum (fun r => cnt (fun h => s_clash C pl m (3 * h + r) = 0) 10) (C 0 1) = cnt (s_fr C pl m) 30 := by
  have hR := hW.2.1
  have hin : ∀ r, r < C 0 1 → cnt (fun h => s_fr C pl m (3 * h + r)) 10 = cnt (fun h => s_clash C pl m (3 * h + r) = 0) 10 := fun r hr => cnt_congrN (fun h hh => ⟨fun g => g.2.2, fun g => ⟨by omega, by have := clash0_hour hP g; omega, g⟩⟩)
  have hout : ∀ r, r < 3 → ¬ r < C 0 1 → cnt (fun h => s_fr C pl m (3 * h + r)) 10 = 0 := fun r h3 hr => cnt_none _ _ (fun h hh g => hr (by have := g.1; omega))
  have h3 := cnt_3 (s_fr C pl m) 10
  rw [show 3 * 10 = 30 from rfl] at h3
  rw [h3]
  have e0 : cnt (fun h => s_fr C pl m (3 * h)) 10 = cnt (fun h => s_fr C pl m (3 * h + 0)) 10 := rfl
  rw [e0]
  have : C 0 1 = 0 ∨ C 0 1 = 1 ∨ C 0 1 = 2 ∨ C 0 1 = 3 := by omega
  rcases this with h | h | h | h
  · rw [hout 0 (by omega) (by omega), hout 1 (by omega) (by omega), hout 2 (by omega) (by omega), h]; rfl
  · rw [hin 0 (by omega), hout 1 (by omega) (by omega), hout 2 (by omega) (by omega), h]
    show 0 + cnt (fun h => s_clash C pl m (3 * h + 0) = 0) 10 = _
    omega
  · rw [hin 0 (by omega), hin 1 (by omega), hout 2 (by omega) (by omega), h]
    show 0 + cnt (fun h => s_clash C pl m (3 * h + 0) = 0) 10 + cnt (fun h => s_clash C pl m (3 * h + 1) = 0) 10 = _
    omega
  · rw [hin 0 (by omega), hin 1 (by omega), hin 2 (by omega), h]
    show 0 + cnt (fun h => s_clash C pl m (3 * h + 0) = 0) 10 + cnt (fun h => s_clash C pl m (3 * h + 1) = 0) 10 + cnt (fun h => s_clash C pl m (3 * h + 2) = 0) 10 = _
    omega
theorem M_isThere {C : CS} {A : Nat → Nat → Int32} (hW : WFC C) (hM : RMo C A) {k : Nat} (hk : k < 30) : f_M_isThere A (nI k) = some (if k % 3 < C 0 1 ∧ k / 3 < C 0 0 then 1 else 0) := by
  obtain ⟨q1, q2⟩ := nI_hr k hk
  have n0 : A 0 23 = nI (C 0 0) := hM.n (j := 0) (by omega)
  have n1 : A 0 24 = nI (C 0 1) := hM.n (j := 1) (by omega)
  have hR := hW.2.1
  have hH := hW.1.2
  unfold f_M_isThere
  rw [n0, n1, q1, q2]
  by_cases c1 : k % 3 < C 0 1
  · rw [if_neg (nI_ge c1 (by omega))]
    by_cases c2 : k / 3 < C 0 0
    · rw [if_neg (nI_ge c2 (by omega)), if_pos ⟨c1, c2⟩]; rfl
    · rw [if_pos (nI_le (by omega) (by omega)), if_neg (fun h => c2 h.2)]; rfl
  · rw [if_pos (nI_le (by omega) (by omega)), if_neg (fun h => c1 h.1)]; rfl
theorem T_free {C : CS} {Y H NS A BO : Nat → Nat → Int32} {r5 hm : Nat} (h : RL C Y H NS A) (hP : WFP C) (p1 : Int32) : TD C H NS (f_Y_free Y H NS BO hm r5 p1) (f_M_free A p1) cd1 (fun k => k = 1) := by
  have h' := h.thr 0
  obtain ⟨hW, hY, hH, hS, hM, hQ⟩ := h'
  have hA : (u2 A 0 0 0) 0 0 = 0 := thr_0 A 0
  unfold f_Y_free f_M_free
  generalize u2 A 0 0 0 = A at hM hQ hA ⊢
  have h' : RL C Y H NS A := ⟨hW, hY, hH, hS, hM, hQ⟩
  have z1 : ((1 : Int32) ≠ 0) = True := by simp
  have z10 : ((1 : Int32) = 0) = False := by simp
  have hN := hW.2.2.2.1
  have hR := hW.2.1
  rcases G_meet (Y := Y) hW hH hM hA p1 with ⟨m, hm', rfl, e1, e2⟩ | ⟨e1, e2⟩
  · rw [e1, e2 1]
    obtain ⟨B', b1, b2⟩ := T_look BO hW hH hS
    refine TD.ans (B := B') (r := hm) (nI (cnt (s_fr C (C 15) m) 30)) h' hA rfl ?_ ?_
    · simp only [obs, if_true, b1]
      have h01 : H 0 1 = nI (C 0 1) := hH 0 1 (show 1 < 6 by omega)
      have e := loop_S (body := fun q => f_Y_free_l15 H B' (nI m) q.1 q.2) (C 0 1) (fun i => (nI (tsum (fun r => cnt (fun h => s_clash C (C 15) m (3 * h + r) = 0) 10) i), nI i)) (b := nI (tsum (fun r => cnt (fun h => s_clash C (C 15) m (3 * h + r) = 0) 10) (C 0 1))) 0 (by omega) (by omega)
        (fun i _ hi => by
          show f_Y_free_l15 H B' (nI m) (nI _) (nI i) = _
          unfold f_Y_free_l15
          rw [h01, if_neg (nI_ge hi (by omega)), Y_openHours hW hH b2 hW.plan hm' hi, obs, bc_bs _ (by omega), obs, na_add, ← nI_succ]
          rfl)
        (by
          show f_Y_free_l15 H B' (nI m) _ (nI (C 0 1)) = _
          unfold f_Y_free_l15
          rw [h01, if_pos (nI_le (Nat.le_refl _) (by omega))])
      rw [free_eq hW hP] at e
      show (loopN _ a_F (nI (tsum (fun r => cnt (fun h => s_clash C (C 15) m (3 * h + r) = 0) 10) 0), nI 0)).bind _ = _
      rw [e]; rfl
    · simp only [obs, z1, if_true]
      have e := loop_S (body := fun q => f_M_free_l20 A (nI m) q.1 q.2) 30 (fun i => (nI (cnt (s_fr C (C 15) m) i), nI i)) (b := nI (cnt (s_fr C (C 15) m) 30)) 0 (by omega) (by omega)
        (fun i _ hi => by
          show f_M_free_l20 A (nI m) (nI _) (nI i) = some (Sum.inl (nI (cnt (s_fr C (C 15) m) i + (if s_fr C (C 15) m i then 1 else 0)), nI (i + 1)))
          unfold f_M_free_l20
          rw [show (30 : Int32) = nI 30 from rfl, if_neg (nI_ge hi (by omega)), M_isThere hW hM hi, obs]
          by_cases c1 : i % 3 < C 0 1 ∧ i / 3 < C 0 0
          · have hc := s_clash_lt C (C 15) m i
            rw [if_pos c1, if_neg (show ¬ (1 : Int32) = 0 by decide), M_clashOf hW hM hM.rp hW.plan hm' hi c1.1, obs]
            simp only [ne_eq, show (nI (s_clash C (C 15) m i) = 0) = (s_clash C (C 15) m i = 0) from nI_eqP (b := 0) (by omega) (by omega)]
            by_cases c2 : s_clash C (C 15) m i = 0
            · rw [if_neg (fun h => h c2), obs, se_r, if_pos (show s_fr C (C 15) m i from ⟨c1.1, c1.2, c2⟩), nI_succ, nI_succ]
            · rw [if_pos c2, obs, se_l, if_neg (show ¬ s_fr C (C 15) m i from fun h => c2 h.2.2), show (0 : Int32) = nI 0 from rfl, na_add, nI_succ]
          · rw [if_neg c1, if_pos rfl, obs, se_l, if_neg (show ¬ s_fr C (C 15) m i from fun h => c1 ⟨h.1, h.2.1⟩), show (0 : Int32) = nI 0 from rfl, na_add, nI_succ])
        (by
          show f_M_free_l20 A (nI m) _ (nI 30) = _
          unfold f_M_free_l20
          rw [show (30 : Int32) = nI 30 from rfl, if_pos (nI_le (Nat.le_refl _) (by omega))])
      show (loopN _ a_F (nI (cnt (s_fr C (C 15) m) 0), nI 0)).bind _ = _
      rw [e, obs]
  · refine TD.ref (B := BO) (r := r5) 0 (by omega) h' rfl ?_ ?_
    · rw [e1]; rfl
    · rw [e2 1 (by decide)]; rfl
theorem G_hold {C : CS} {Y H A : Nat → Nat → Int32} (hW : WFC C) (hH : RH C H) (hM : RMo C A) (hA : A 0 0 = 0) (p : Int32) :
    (∃ j, j < C 0 4 ∧ p = nI j ∧ f_Y_needHold Y H p = some (0, Y) ∧ ∀ c, f_M_isHold A p c = some (1, A)) ∨
    (f_Y_needHold Y H p = some (1, yRef Y 0) ∧ ∀ c, c ≠ 0 → f_M_isHold A p c = some (0, mRef A c 0)) := by
  have hn := hW.n31 (j := 4) (by omega)
  have e1 : H 0 4 = nI (C 0 4) := hH 0 4 (show 4 < 6 by omega)
  have e2 : A 0 27 = nI (C 0 4) := hM.n (j := 4) (by omega)
  by_cases h : inN p (C 0 4)
  · obtain ⟨j, hj, hp⟩ := h
    have h : inN p (C 0 4) := ⟨j, hj, hp⟩
    refine Or.inl ⟨j, hj, hp, ?_, fun c => ?_⟩
    · unfold f_Y_needHold
      rw [e1, Y_one_in hn h]
      rfl
    · unfold f_M_isHold
      rw [e2, M_within_in hn h]
      show (f_M_may A 1 c 0).bind _ = _
      rw [M_may_in hA]
      show some (zb 1, A) = _
      rw [zb_1]
  · refine Or.inr ⟨?_, fun c hc => ?_⟩
    · unfold f_Y_needHold
      rw [e1, Y_one_out hn h]
      rfl
    · unfold f_M_isHold
      rw [e2, M_within_out hn h]
      show (f_M_may A 0 c (nI 0)).bind _ = _
      rw [M_may_out hA hc (by omega)]
      show some (zb 0, mRef A c 0) = _
      rw [zb_0]
theorem na_z (a : Nat) : nI a + 0 = nI (a + 0) := na_add a 0
abbrev s_take (C : CS) (k m : Nat) : Prop := C 15 m = 0 ∧ (nI (s_clash C (C 15) m (C 11 k)) &&& (-9)) = 0
theorem T_hold {C : CS} {Y H NS A BO : Nat → Nat → Int32} {r5 hm : Nat} (h : RL C Y H NS A) (hP : WFP C) (p1 p2 : Int32) : TD C H NS (f_Y_hold Y H NS BO r5 hm p1 p2) (f_M_hold A p1 p2) cd2 (fun k => k < 3) := by
  have h' := h.thr 0
  obtain ⟨hW, hY, hH, hS, hM, hQ⟩ := h'
  have hA : (u2 A 0 0 0) 0 0 = 0 := thr_0 A 0
  unfold f_Y_hold f_M_hold
  generalize u2 A 0 0 0 = A at hM hQ hA ⊢
  have h' : RL C Y H NS A := ⟨hW, hY, hH, hS, hM, hQ⟩
  have hN := hW.2.2.2.1
  have hK := hW.2.2.2.2.1
  have z10 : ((1 : Int32) = 0) = False := by simp
  have z1 : ((1 : Int32) ≠ 0) = True := by simp
  rcases G_hold (Y := Y) hW hH hM hA p1 with ⟨k, hk, rfl, e1, e2⟩ | ⟨e1, e2⟩
  · rw [e1, e2 1]
    simp only [obs, if_true, z10, if_false]
    rcases G_what (p := p2) 4 (by omega) with ⟨w, hw, rfl, k1, k2, k3⟩ | ⟨k3, k4⟩
    · have k3 : f_M_within (nI w) 0 4 = some 1 := k3
      have k2 : ¬ (4 : Int32) < nI w := k2
      simp only [k1, k2, k3, if_false, obs, se_r, Y_ref_in, M_may_in hA, if_true, z1]
      have hh := hW.hplace k
      have hl := hW.let k
      obtain ⟨q1, q2⟩ := nI_hr (C 11 k) hh
      have r11 : rdx (H 11) 4 (nI k) = some (nI (C 11 k)) := by rw [rdx_nI (by omega) (by omega), hH 11 k hk]; rfl
      have r12 : rdx (H 12) 4 (nI k) = some (nI (C 12 k * C 13 k)) := by rw [rdx_nI (by omega) (by omega), hH 12 k hk]; rfl
      have m0 : rdx (A 6) 16 (4 * nI k) = some (nI (C 11 k)) := by rw [show (4 : Int32) * nI k = nI (4 * k) from na_mul 4 k, rdx_nI (by omega) (by omega), (hM.hold hk).1]
      have m1 : rdx (A 6) 16 (4 * nI k + 1) = some (nI (C 12 k)) := by rw [show (1 : Int32) = nI 1 from rfl, ix4, rdx_nI (by omega) (by omega), (hM.hold hk).2.1]
      have m2 : rdx (A 6) 16 (4 * nI k + 2) = some (nI (C 13 k)) := by rw [show (2 : Int32) = nI 2 from rfl, ix4, rdx_nI (by omega) (by omega), (hM.hold hk).2.2.1]
      have m3 : rdx (A 6) 16 (4 * nI k + 3) = some (nI (C 14 k)) := by rw [show (3 : Int32) = nI 3 from rfl, ix4, rdx_nI (by omega) (by omega), (hM.hold hk).2.2.2]
      simp only [r11, r12, m0, m1, m2, m3, obs, f_Y_hourOf, f_Y_roomOf, Y_isHeld hW hS hk, na_mul]
      have hw5 : w = 0 ∨ w = 1 ∨ w = 2 ∨ w = 3 ∨ w = 4 := by omega
      rcases hw5 with rfl | rfl | rfl | rfl | rfl
      · exact TD.ans (nI (C 11 k) / 3) h' hA rfl rfl rfl
      · exact TD.ans (a_rem (nI (C 11 k)) 3) h' hA rfl rfl rfl
      · exact TD.ans (nI (C 12 k * C 13 k)) h' hA rfl rfl rfl
      · refine TD.ans (B := BO) (r := r5) (nI (1 - C 14 k)) h' hA rfl ?_ ?_
        · rw [if_neg (show ¬ nI 3 = 0 by decide), if_neg (show ¬ nI 3 = 1 by decide), if_neg (show ¬ nI 3 = 2 by decide), if_pos (show nI 3 = 3 by decide)]
          by_cases hl0 : C 14 k = 0
          · rw [if_pos hl0, if_neg (by decide), hl0]; rfl
          · rw [if_neg hl0, if_pos rfl, show C 14 k = 1 from by omega]; rfl
        · rw [if_pos (show (2 : Int32) ≤ nI 3 by decide), if_neg (show ¬ (4 : Int32) ≤ nI 3 by decide), if_pos (show nI 3 ≠ 2 by decide), show (1 : Int32) = nI 1 from rfl, na_sub hl]
      · obtain ⟨B', b1, b2⟩ := T_look BO hW hH hS
        obtain ⟨o1, o2⟩ := (hP.2.1 k hk).2 (by omega)
        rw [Nat.add_sub_cancel] at o1 o2
        refine TD.ans (B := B') (r := hm) (nI (cnt (s_take C k) (C 0 3))) h' hA rfl ?_ ?_
        · rw [if_neg (show ¬ nI 4 = 0 by decide), if_neg (show ¬ nI 4 = 1 by decide), if_neg (show ¬ nI 4 = 2 by decide), if_neg (show ¬ nI 4 = 3 by decide)]
          unfold f_Y_wouldTake
          rw [b1, obs]
          have h03 : H 0 3 = nI (C 0 3) := hH 0 3 (show 3 < 6 by omega)
          have e := loop_S (body := fun q => f_Y_wouldTake_l10 H B' (nI (C 11 k)) q.1 q.2) (C 0 3) (fun i => (nI (cnt (s_take C k) i), nI i)) (b := nI (cnt (s_take C k) (C 0 3))) 0 (by omega) (by omega)
            (fun i _ hi => by
              show f_Y_wouldTake_l10 H B' (nI (C 11 k)) (nI _) (nI i) = some (Sum.inl (nI (cnt (s_take C k) i + (if s_take C k i then 1 else 0)), nI (i + 1)))
              unfold f_Y_wouldTake_l10
              rw [h03, if_neg (nI_ge hi (by omega)), rdx_nI (by omega) (by omega), b2.1 i hi, obs, Y_clashes hW hH b2 hW.plan hi hh o1, obs]
              simp only [ne_eq, oI_z (hW.plan i)]
              by_cases c1 : C 15 i = 0
              · rw [if_neg (fun h => h c1)]
                by_cases c2 : (nI (s_clash C (C 15) i (C 11 k)) &&& (-9)) = 0
                · rw [if_neg (fun h => h c2), if_pos (show s_take C k i from ⟨c1, c2⟩), nI_succ, nI_succ]
                · rw [if_pos c2, if_neg (show ¬ s_take C k i from fun h => c2 h.2), nI_succ, Nat.add_zero]
              · rw [if_pos c1, if_neg (show ¬ s_take C k i from fun h => c1 h.1), nI_succ, Nat.add_zero])
            (by
              show f_Y_wouldTake_l10 H B' (nI (C 11 k)) _ (nI (C 0 3)) = _
              unfold f_Y_wouldTake_l10
              rw [h03, if_pos (nI_le (Nat.le_refl _) (by omega))])
          show ((loopN _ a_F (nI (cnt (s_take C k) 0), nI 0)).bind _).bind _ = _
          rw [e]; rfl
        · rw [if_pos (show (2 : Int32) ≤ nI 4 by decide), if_pos (show (4 : Int32) ≤ nI 4 by decide)]
          have n3 : A 0 26 = nI (C 0 3) := hM.n (j := 3) (by omega)
          have e := loop_S (body := fun q => f_M_hold_l112 A (nI (C 11 k)) q.1 q.2) (C 0 3) (fun i => (nI (cnt (s_take C k) i), nI i)) (b := nI (cnt (s_take C k) (C 0 3))) 0 (by omega) (by omega)
            (fun i _ hi => by
              show f_M_hold_l112 A (nI (C 11 k)) (nI _) (nI i) = some (Sum.inl (nI (cnt (s_take C k) i + (if s_take C k i then 1 else 0)), nI (i + 1)))
              unfold f_M_hold_l112
              rw [n3, if_neg (nI_ge hi (by omega)), rdx_nI (by omega) (by omega), hM.here hi, obs, M_clashOf hW hM hM.rp hW.plan hi hh o1, obs]
              simp only [ne_eq, oI_z (hW.plan i)]
              by_cases c1 : C 15 i = 0
              · rw [if_neg (fun h => h c1)]
                by_cases c2 : (nI (s_clash C (C 15) i (C 11 k)) &&& (-9)) = 0
                · rw [if_neg (fun h => h c2), obs, se_r, if_pos (show s_take C k i from ⟨c1, c2⟩), nI_succ, nI_succ]
                · rw [if_pos c2, obs, se_l, if_neg (show ¬ s_take C k i from fun h => c2 h.2), nI_succ, na_z]
              · rw [if_pos c1, obs, se_l, if_neg (show ¬ s_take C k i from fun h => c1 h.1), nI_succ, na_z])
            (by
              show f_M_hold_l112 A (nI (C 11 k)) _ (nI (C 0 3)) = _
              unfold f_M_hold_l112
              rw [n3, if_pos (nI_le (Nat.le_refl _) (by omega))])
          show (loopN _ a_F (nI (cnt (s_take C k) 0), nI 0)).bind _ = _
          rw [e]; rfl
    · have k3 : f_M_within p2 0 4 = some 0 := k3
      have k4 : ¬ p2 < 0 → (4 : Int32) < p2 := k4
      refine TD.ref (B := BO) (r := r5) 1 (by omega) h' (show _ < 3 from by omega) ?_ ?_
      · by_cases k1 : p2 < 0
        · simp only [k1, if_true, obs, se_l, Y_ref_out]; rfl
        · simp only [k1, k4 k1, if_false, if_true, obs, se_l, Y_ref_out]; rfl
      · rw [k3]
        show ((f_M_may A 0 (nI 2) (nI 1)).bind _) = _
        rw [M_may_out hA (by decide) (by omega)]; rfl
  · refine TD.ref (B := BO) (r := r5) 0 (by omega) h' (show _ < 3 from by omega) ?_ ?_
    · rw [e1]; rfl
    · rw [e2 1 (by decide)]; rfl
