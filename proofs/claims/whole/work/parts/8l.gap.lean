/-! PURE MATH: gap, together -/
theorem nI_inj32 {a b : Nat} (ha : a < 2 ^ 32) (hb : b < 2 ^ 32) (h : nI a = nI b) : a = b := by
  have h2 : BitVec.ofNat 32 a = BitVec.ofNat 32 b := congrArg Int32.toBitVec h
  have h3 := congrArg BitVec.toNat h2
  rw [BitVec.toNat_ofNat, BitVec.toNat_ofNat, Nat.mod_eq_of_lt ha, Nat.mod_eq_of_lt hb] at h3
  exact h3
theorem nI_surj (p : Int32) : ∃ w, w < 2 ^ 32 ∧ p = nI w := by
  refine ⟨p.toBitVec.toNat, p.toBitVec.isLt, ?_⟩
  apply Int32.toBitVec_inj.mp
  show p.toBitVec = BitVec.ofNat 32 p.toBitVec.toNat
  rw [BitVec.ofNat_toNat, BitVec.setWidth_eq]
theorem mask_in {w n : Nat} (hw : w < 2 ^ 32) (hn : n ≤ 8) : (nI w &&& (nI (2 ^ n - 1) ^^^ (-1))) = 0 ↔ w < 2 ^ n := by
  rw [na_not, na_and]
  have hle : w &&& ((2 ^ n - 1) ^^^ 4294967295) ≤ w := Nat.and_le_left
  have h0 : (nI (w &&& ((2 ^ n - 1) ^^^ 4294967295)) = 0) ↔ w &&& ((2 ^ n - 1) ^^^ 4294967295) = 0 := ⟨fun h => nI_inj32 (by omega) (b := 0) (by omega) h, fun h => by rw [h]; rfl⟩
  rw [h0]
  constructor
  · intro h
    refine Nat.lt_pow_two_of_testBit w (fun i hi => ?_)
    have hb := congrArg (fun y => y.testBit i) h
    simp only [Nat.testBit_and, Nat.testBit_xor, ones_bit, Nat.testBit_two_pow_sub_one, Nat.zero_testBit] at hb
    by_cases h32 : i < 32
    · have h1 : ¬ i < n := by omega
      simpa [h1, h32] using hb
    · exact Nat.testBit_lt_two_pow (Nat.lt_of_lt_of_le hw (Nat.pow_le_pow_right (by omega) (by omega)))
  · intro h
    apply Nat.eq_of_testBit_eq
    intro i
    rw [Nat.testBit_and, Nat.testBit_xor, ones_bit, Nat.testBit_two_pow_sub_one, Nat.zero_testBit]
    by_cases hi : i < n
    · have h32 : i < 32 := by omega
      simp [hi, h32]
    · rw [Nat.testBit_lt_two_pow (Nat.lt_of_lt_of_le h (Nat.pow_le_pow_right (by omega) (by omega)))]
      rfl
theorem full_people : ∀ n, n < 9 → a_shl 1 (nI n) - 1 = nI (2 ^ n - 1) := by decide
theorem full_bs : ∀ n, n < 11 → 2 ^ n - 1 = bs (fun h => h < n) 10 := by decide
theorem Y_people {C : CS} {Y H : Nat → Nat → Int32} (hW : WFC C) (hH : RH C H) (p : Int32) :
    (inN p (2 ^ C 0 2) ∧ f_Y_needPeople Y H p = some (0, Y)) ∨ (¬ inN p (2 ^ C 0 2) ∧ f_Y_needPeople Y H p = some (2, yRef Y 1)) := by
  have hP := hW.2.2.1
  have h02 : H 0 2 = nI (C 0 2) := hH 0 2 (show 2 < 6 by omega)
  obtain ⟨w, hw, rfl⟩ := nI_surj p
  have hpow : 2 ^ C 0 2 ≤ 2 ^ 8 := Nat.pow_le_pow_right (by omega) hP
  have hm := mask_in hw hP
  unfold f_Y_needPeople f_House_allPeople
  rw [obs, h02, full_people _ (by omega)]
  by_cases h : w < 2 ^ C 0 2
  · refine Or.inl ⟨⟨w, h, rfl⟩, ?_⟩
    rw [if_neg (fun h2 => h2 (hm.mpr h)), obs, Y_ref_in]; rfl
  · refine Or.inr ⟨fun ⟨j, hj, e⟩ => h (by rw [nI_inj32 hw (by omega) e]; exact hj), ?_⟩
    rw [if_pos (fun h2 => h (hm.mp h2)), obs, Y_ref_out]; rfl
theorem M_people_in {C : CS} {A : Nat → Nat → Int32} (hW : WFC C) (hM : RMo C A) {p : Int32} (h : inN p (2 ^ C 0 2)) : f_M_within p 0 (a_shl 1 (A 0 25) - 1) = some 1 := by
  have hP := hW.2.2.1
  have n2 : A 0 25 = nI (C 0 2) := hM.n (j := 2) (by omega)
  have hpow : 2 ^ C 0 2 ≤ 2 ^ 8 := Nat.pow_le_pow_right (by omega) hP
  have h0 := Nat.two_pow_pos (C 0 2)
  rw [n2, full_people _ (by omega)]
  exact M_to_in (by rw [show (1 : Int32) = nI 1 from rfl, na_sub h0]) (by omega) h
theorem M_people_out {C : CS} {A : Nat → Nat → Int32} (hW : WFC C) (hM : RMo C A) {p : Int32} (h : ¬ inN p (2 ^ C 0 2)) : f_M_within p 0 (a_shl 1 (A 0 25) - 1) = some 0 := by
  have hP := hW.2.2.1
  have n2 : A 0 25 = nI (C 0 2) := hM.n (j := 2) (by omega)
  have hpow : 2 ^ C 0 2 ≤ 2 ^ 8 := Nat.pow_le_pow_right (by omega) hP
  have h0 := Nat.two_pow_pos (C 0 2)
  rw [n2, full_people _ (by omega)]
  exact M_to_out (by rw [show (1 : Int32) = nI 1 from rfl, na_sub h0]) (by omega) h
/-- one of these people is in it, and it stands in that hour -/
abbrev s_in (C : CS) (pl : Nat → Nat) (w h o : Nat) : Prop := pl o ≠ 0 ∧ C 8 o &&& w ≠ 0 ∧ (pl o - 1) / 3 = h
abbrev s_idle (C : CS) (pl : Nat → Nat) (w n h : Nat) : Prop := (h < C 0 0 ∧ ¬ (s_busy C w (C 0 2)).testBit h = true) ∧ bs (s_in C pl w h) n = 0
/-- one more meeting: its hour goes -/
theorem idle_miss {C : CS} {pl : Nat → Nat} {w i : Nat} (h : ∀ k, ¬ s_in C pl w k i) : bs (s_idle C pl w (i + 1)) 10 = bs (s_idle C pl w i) 10 := bs_congr (fun k _ => by
  show (_ ∧ bs (s_in C pl w k) (i + 1) = 0) ↔ (_ ∧ bs (s_in C pl w k) i = 0)
  rw [bs_miss (p := s_in C pl w k) (h k)])
theorem idle_hit {C : CS} {pl : Nat → Nat} {w i : Nat} (h1 : pl i ≠ 0) (h2 : C 8 i &&& w ≠ 0) (hp : pl i ≤ 30) : nI (bs (s_idle C pl w i) 10) &&& (a_shl 1 (nI ((pl i - 1) / 3)) ^^^ (-1)) = nI (bs (s_idle C pl w (i + 1)) 10) := by
  rw [shl_1 _ (by omega), na_not, na_and, bs_diff _ (by omega)]
  congr 1
  refine bs_congr (fun k hk => ?_)
  have hz := bs_ne0 (s_in C pl w k) i
  have hz2 := bs_ne0 (s_in C pl w k) (i + 1)
  rw [Nat.testBit_two_pow, decide_eq_true_eq]
  constructor
  · rintro ⟨⟨g1, g2⟩, g3⟩
    refine ⟨g1, Decidable.byContradiction fun hn => ?_⟩
    obtain ⟨o, o1, o2⟩ := hz2.mp hn
    by_cases ho : o = i
    · subst ho
      exact g3 o2.2.2
    · exact (hz.mpr ⟨o, by omega, o2⟩) g2
  · rintro ⟨g1, g2⟩
    refine ⟨⟨g1, ?_⟩, ?_⟩
    · exact Decidable.byContradiction fun hn => by
        obtain ⟨o, o1, o2⟩ := hz.mp hn
        exact (hz2.mpr ⟨o, by omega, o2⟩) g2
    · exact fun he => (hz2.mpr ⟨i, by omega, h1, h2, he⟩) g2
theorem Y_idle {C : CS} {H BO : Nat → Nat → Int32} {pl tm : Nat → Nat} (hW : WFC C) (hH : RH C H) (hB : RB C pl tm BO) (hpl : ∀ m, pl m ≤ 30) {w : Nat} (hw : w < 2 ^ 8) : f_Board_idleHours H BO (nI w) = some (nI (bs (s_idle C pl w (C 0 3)) 10)) := by
  have hN := hW.2.2.2.1
  have hH10 := hW.1.2
  have h03 : H 0 3 = nI (C 0 3) := hH 0 3 (show 3 < 6 by omega)
  have h00 : H 0 0 = nI (C 0 0) := hH 0 0 (show 0 < 6 by omega)
  unfold f_Board_idleHours
  rw [Y_busyHoursOf hW hH (by omega), obs, h00, full_hours _ (by omega), na_not, na_and, full_bs _ (by omega), bs_diff _ (by omega)]
  have e := loop_S (body := fun q => f_Board_idleHours_l25 H BO (nI w) q.1 q.2) (C 0 3) (fun i => (nI (bs (s_idle C pl w i) 10), nI i)) (b := nI (bs (s_idle C pl w (C 0 3)) 10)) 0 (by omega) (by omega)
    (fun i _ hi => by
      have hp := hpl i
      have hx := hW.mem i
      have r8 : rdx (H 8) 10 (nI i) = some (nI (C 8 i)) := by rw [rdx_nI (by omega) (by omega), hH 8 i hi]; rfl
      have hle : C 8 i &&& w ≤ C 8 i := Nat.and_le_left
      show f_Board_idleHours_l25 H BO (nI w) (nI _) (nI i) = _
      unfold f_Board_idleHours_l25
      rw [h03, if_neg (nI_ge hi (by omega)), rdx_nI (by omega) (by omega), hB.1 i hi]
      simp only [obs, oI_z hp, r8, na_and, f_Y_hourOf, show (nI (C 8 i &&& w) = 0) = (C 8 i &&& w = 0) from nI_eqP (b := 0) (by omega) (by omega)]
      by_cases c1 : pl i = 0
      · rw [if_pos c1, idle_miss (fun k hk => hk.1 c1), nI_succ]
      · rw [if_neg c1]
        by_cases c2 : C 8 i &&& w = 0
        · rw [if_pos c2, idle_miss (fun k hk => hk.2.1 c2), nI_succ]
        · rw [if_neg c2, (pl_h c1 hp).1, idle_hit c1 c2 hp, nI_succ])
    (by
      show f_Board_idleHours_l25 H BO (nI w) _ (nI (C 0 3)) = _
      unfold f_Board_idleHours_l25
      rw [h03, if_pos (nI_le (Nat.le_refl _) (by omega))])
  have e0 : bs (fun i => i < C 0 0 ∧ ¬(s_busy C w (C 0 2)).testBit i = true) 10 = bs (s_idle C pl w 0) 10 := bs_congr (fun h hh => ⟨fun g => ⟨g, rfl⟩, fun g => g.1⟩)
  rw [e0]
  show (loopN _ a_F (nI _, nI 0)).bind _ = _
  rw [e, obs]
theorem s_busy_bit (C : CS) (w n h : Nat) : (s_busy C w n).testBit h = true ↔ ∃ p, p < n ∧ w.testBit p = true ∧ (C 4 p).testBit h = true := by
  induction n with
  | zero =>
    rw [show s_busy C w 0 = 0 from rfl, Nat.zero_testBit]
    exact ⟨fun h => (by cases h), fun ⟨p, hp, _⟩ => by omega⟩
  | succ n ih =>
    unfold s_busy
    rw [Nat.testBit_or, Bool.or_eq_true, ih]
    constructor
    · rintro (⟨p, h1, h2, h3⟩ | h1)
      · exact ⟨p, by omega, h2, h3⟩
      · by_cases hb : w.testBit n = true
        · rw [if_pos hb] at h1
          exact ⟨n, by omega, hb, h1⟩
        · rw [if_neg hb, Nat.zero_testBit] at h1
          cases h1
    · rintro ⟨p, h1, h2, h3⟩
      by_cases hp : p = n
      · subst hp
        rw [if_pos h2]
        exact Or.inr h3
      · exact Or.inl ⟨p, by omega, h2, h3⟩
theorem M_gapOf {C : CS} {A : Nat → Nat → Int32} (hW : WFC C) (hM : RMo C A) {w : Nat} (hw : w < 2 ^ 8) : f_M_gapOf A (nI w) = some (nI (bs (s_idle C (C 15) w (C 0 3)) 10)) := by
  have hN := hW.2.2.2.1
  have hP := hW.2.2.1
  have hH10 := hW.1.2
  have n0 : A 0 23 = nI (C 0 0) := hM.n (j := 0) (by omega)
  have n2 : A 0 25 = nI (C 0 2) := hM.n (j := 2) (by omega)
  have n3 : A 0 26 = nI (C 0 3) := hM.n (j := 3) (by omega)
  unfold f_M_gapOf
  rw [n0, full_hours _ (by omega), full_bs _ (by omega)]
  have e1 := loop_S (body := fun q => f_M_gapOf_l11 A (nI w) q.1 q.2) (C 0 2) (fun i => (nI (bs (fun h => h < C 0 0 ∧ ¬ (s_busy C w i).testBit h = true) 10), nI i)) (b := nI (bs (fun h => h < C 0 0 ∧ ¬ (s_busy C w (C 0 2)).testBit h = true) 10)) 0 (by omega) (by omega)
    (fun i _ hi => by
      have r2 : rdx (A 4) 24 (3 * nI i + 2) = some (nI (C 4 i)) := by rw [show (2 : Int32) = nI 2 from rfl, ix3, rdx_nI (by omega) (by omega), (hM.pers hi).2.2]
      obtain ⟨a1, a2⟩ := bitq (x := w) (j := i) (by omega) (by omega)
      show f_M_gapOf_l11 A (nI w) (nI _) (nI i) = _
      unfold f_M_gapOf_l11
      rw [n2, if_neg (nI_ge hi (by omega)), r2]
      simp only [obs, ne_eq, a2]
      have hs : ∀ h, (s_busy C w (i + 1)).testBit h = true ↔ ((s_busy C w i).testBit h = true ∨ (w.testBit i = true ∧ (C 4 i).testBit h = true)) := fun h => by
        rw [s_busy_bit, s_busy_bit]
        constructor
        · rintro ⟨p, p1, p2, p3⟩
          by_cases hp : p = i
          · subst hp; exact Or.inr ⟨p2, p3⟩
          · exact Or.inl ⟨p, by omega, p2, p3⟩
        · rintro (⟨p, p1, p2, p3⟩ | ⟨p2, p3⟩)
          · exact ⟨p, by omega, p2, p3⟩
          · exact ⟨i, by omega, p2, p3⟩
      by_cases c1 : w.testBit i = true
      · rw [if_neg (fun h => h c1), obs, na_not, na_and, bs_diff _ (by omega), nI_succ]
        congr 4
        refine bs_congr (fun h _ => ?_)
        rw [hs h]
        exact ⟨fun g => ⟨g.1.1, fun g2 => g2.elim g.1.2 (fun g3 => g.2 g3.2)⟩, fun g => ⟨⟨g.1, fun g2 => g.2 (Or.inl g2)⟩, fun g2 => g.2 (Or.inr ⟨c1, g2⟩)⟩⟩
      · rw [if_pos c1, obs, nI_succ, show (-1 : Int32) = nI 4294967295 from by decide, na_and]
        congr 4
        have := bs_diff (fun h => h < C 0 0 ∧ ¬ (s_busy C w i).testBit h = true) (n := 10) (by omega) 0
        rw [Nat.zero_xor] at this
        rw [this]
        refine bs_congr (fun h _ => ?_)
        rw [hs h, Nat.zero_testBit]
        exact ⟨fun g => ⟨g.1.1, fun g2 => g2.elim g.1.2 (fun g3 => c1 g3.1)⟩, fun g => ⟨⟨g.1, fun g2 => g.2 (Or.inl g2)⟩, fun g2 => (by cases g2)⟩⟩)
    (by
      show f_M_gapOf_l11 A (nI w) _ (nI (C 0 2)) = _
      unfold f_M_gapOf_l11
      rw [n2, if_pos (nI_le (Nat.le_refl _) (by omega))])
  have e0 : bs (fun h => h < C 0 0) 10 = bs (fun h => h < C 0 0 ∧ ¬ (s_busy C w 0).testBit h = true) 10 := bs_congr (fun h hh => ⟨fun g => ⟨g, fun g2 => by rw [show s_busy C w 0 = 0 from rfl, Nat.zero_testBit] at g2; cases g2⟩, fun g => g.1⟩)
  rw [e0]
  show (loopN _ a_F (nI _, nI 0)).bind _ = _
  rw [e1, obs]
  have e := loop_S (body := fun q => f_M_gapOf_l55 A (nI w) q.1 q.2) (C 0 3) (fun i => (nI (bs (s_idle C (C 15) w i) 10), nI i)) (b := nI (bs (s_idle C (C 15) w (C 0 3)) 10)) 0 (by omega) (by omega)
    (fun i _ hi => by
      have hp := hW.plan i
      have hx := hW.mem i
      have r2 : rdx (A 5) 60 (6 * nI i + 2) = some (nI (C 8 i)) := by rw [show (2 : Int32) = nI 2 from rfl, ix6, rdx_nI (by omega) (by omega), hM.meet hi 2 (by omega)]; rfl
      have hle : C 8 i &&& w ≤ C 8 i := Nat.and_le_left
      show f_M_gapOf_l55 A (nI w) (nI _) (nI i) = _
      unfold f_M_gapOf_l55
      rw [n3, if_neg (nI_ge hi (by omega)), rdx_nI (by omega) (by omega), hM.here hi]
      simp only [obs, oI_z hp, r2, na_and, show (nI (C 8 i &&& w) = 0) = (C 8 i &&& w = 0) from nI_eqP (b := 0) (by omega) (by omega)]
      by_cases c1 : C 15 i = 0
      · rw [if_pos c1, idle_miss (fun k hk => hk.1 c1), nI_succ]
      · rw [if_neg c1]
        by_cases c2 : C 8 i &&& w = 0
        · rw [if_pos c2, idle_miss (fun k hk => hk.2.1 c2), nI_succ]
        · rw [if_neg c2, (pl_h c1 hp).1, idle_hit c1 c2 hp, nI_succ])
    (by
      show f_M_gapOf_l55 A (nI w) _ (nI (C 0 3)) = _
      unfold f_M_gapOf_l55
      rw [n3, if_pos (nI_le (Nat.le_refl _) (by omega))])
  have e2 : bs (fun i => i < C 0 0 ∧ ¬(s_busy C w (C 0 2)).testBit i = true) 10 = bs (s_idle C (C 15) w 0) 10 := bs_congr (fun h hh => ⟨fun g => ⟨g, rfl⟩, fun g => g.1⟩)
  rw [e2]
  show (loopN _ a_F (nI _, nI 0)).bind _ = _
  rw [e, obs]
theorem T_gap {C : CS} {Y H NS A BO : Nat → Nat → Int32} {r5 hm : Nat} (h : RL C Y H NS A) (p1 : Int32) : TD C H NS (f_Y_gap Y H NS BO hm r5 p1) (f_M_gap A p1) cd1 (fun k => k = 2) := by
  have h' := h.thr 0
  obtain ⟨hW, hY, hH, hS, hM, hQ⟩ := h'
  have hA : (u2 A 0 0 0) 0 0 = 0 := thr_0 A 0
  unfold f_Y_gap f_M_gap f_M_arePeople
  generalize u2 A 0 0 0 = A at hM hQ hA ⊢
  have h' : RL C Y H NS A := ⟨hW, hY, hH, hS, hM, hQ⟩
  have z1 : ((1 : Int32) ≠ 0) = True := by simp
  have z0 : ((0 : Int32) ≠ 0) = False := by simp
  have z10 : ((1 : Int32) = 0) = False := by simp
  have n20 : ((2 : Nat) = 0) = False := by simp
  rcases Y_people (Y := Y) hW hH p1 with ⟨i1, e1⟩ | ⟨i1, e1⟩
  · rw [e1, M_people_in hW hM i1]
    have hpow : 2 ^ C 0 2 ≤ 2 ^ 8 := Nat.pow_le_pow_right (by omega) hW.2.2.1
    obtain ⟨w, hw, rfl⟩ := i1
    obtain ⟨B', b1, b2⟩ := T_look BO hW hH hS
    refine TD.ans (B := B') (r := hm) (nI (bs (s_idle C (C 15) w (C 0 3)) 10)) h' hA rfl ?_ ?_
    · simp only [obs, if_true, b1, Y_idle hW hH b2 hW.plan (show w < 2 ^ 8 by omega)]
    · simp only [obs, z10, if_false, se_r, M_may_in hA, zb_1, z1, if_true, M_gapOf hW hM (show w < 2 ^ 8 by omega)]
  · rw [e1, M_people_out hW hM i1]
    refine TD.ref (B := BO) (r := r5) 1 (by omega) h' rfl ?_ ?_
    · simp only [obs, n20, if_false]
    · simp only [obs, if_true, se_l]
      show ((((f_M_may A 0 1 (nI 1)).bind _)).bind _) = _
      rw [M_may_out hA (by decide) (by omega), obs, zb_0]; rfl
theorem T_together {C : CS} {Y H NS A BO : Nat → Nat → Int32} {r5 hm : Nat} (h : RL C Y H NS A) (p1 p2 : Int32) : TD C H NS (f_Y_together Y H NS BO hm r5 p1 p2) (f_M_together A p1 p2) cd1 (fun k => k = 2) := by
  have h' := h.thr 0
  obtain ⟨hW, hY, hH, hS, hM, hQ⟩ := h'
  have hA : (u2 A 0 0 0) 0 0 = 0 := thr_0 A 0
  unfold f_Y_together f_M_together f_M_arePeople
  generalize u2 A 0 0 0 = A at hM hQ hA ⊢
  have h' : RL C Y H NS A := ⟨hW, hY, hH, hS, hM, hQ⟩
  have hH10 := hW.1.2
  have z1 : ((1 : Int32) ≠ 0) = True := by simp
  have z0 : ((0 : Int32) ≠ 0) = False := by simp
  have z10 : ((1 : Int32) = 0) = False := by simp
  have n20 : ((2 : Nat) = 0) = False := by simp
  have refM : ((f_M_may A 0 1 1).bind fun c5 => some (zb c5.1, c5.2)) = some (0, mRef A 1 1) := by
    show ((f_M_may A 0 1 (nI 1)).bind _) = _
    rw [M_may_out hA (by decide) (by omega), obs, zb_0]
  rcases Y_people (Y := Y) hW hH p1 with ⟨i1, e1⟩ | ⟨i1, e1⟩
  · rw [e1, M_people_in hW hM i1]
    have hpow : 2 ^ C 0 2 ≤ 2 ^ 8 := Nat.pow_le_pow_right (by omega) hW.2.2.1
    obtain ⟨w, hw, rfl⟩ := i1
    unfold f_M_within
    by_cases c1 : p2 < 1
    · simp only [obs, c1, if_true, zb_0, z10, if_false, se_l, Y_ref_out, n20]
      refine TD.ref (B := BO) (r := r5) 1 (by omega) h' rfl rfl ?_
      rw [refM]; rfl
    · by_cases c2 : 10 < p2
      · simp only [obs, c1, c2, if_true, zb_0, z10, if_false, se_l, Y_ref_out, n20]
        refine TD.ref (B := BO) (r := r5) 1 (by omega) h' rfl rfl ?_
        rw [refM]; rfl
      · obtain ⟨j, hj, rfl⟩ := nI_of_nn (n := p2) (fun hn => c1 (by rw [Int32.lt_iff_toInt_lt] at hn ⊢; have : (0 : Int32).toInt = 0 := by decide
                                                                    have h1 : (1 : Int32).toInt = 1 := by decide
                                                                    omega))
        have hj10 : j ≤ 10 := by
          have : ¬ (10 < j) := fun h => c2 ((na_lt (a := 10) (by omega) hj).mpr h)
          omega
        have hj1 : 1 ≤ j := by
          have : ¬ (j < 1) := fun h => c1 ((na_lt (b := 1) hj (by omega)).mpr h)
          omega
        obtain ⟨B', b1, b2⟩ := T_look BO hW hH hS
        have h00 : H 0 0 = nI (C 0 0) := hH 0 0 (show 0 < 6 by omega)
        have n0 : A 0 23 = nI (C 0 0) := hM.n (j := 0) (by omega)
        simp only [obs, c1, c2, if_false, zb_1, z10, se_r, Y_ref_in, M_may_in hA, z1, if_true, b1, Y_idle hW hH b2 hW.plan (show w < 2 ^ 8 by omega), M_gapOf hW hM (show w < 2 ^ 8 by omega)]
        generalize hx : nI (bs (s_idle C (C 15) w (C 0 3)) 10) = x
        have c : ∀ i, i < 11 → ((nI (C 0 0) < nI i + nI j) = (C 0 0 < i + j)) := fun i hi => by rw [na_add]; exact propext (na_lt (by omega) (by omega))
        have eY := loop_first (body := fun q => f_Y_together_l44 H (nI j) x Y B' hm q) (C 0 0 + 1 - j) (fun i => (a_shr x (nI i) &&& (a_shl 1 (nI j) - 1)) = (a_shl 1 (nI j) - 1)) (fun i => (0, nI i, Y, B', hm)) (by omega)
          (fun i hi hp => by
            show f_Y_together_l44 H (nI j) x Y B' hm (nI i) = _
            unfold f_Y_together_l44
            rw [h00]
            simp only [c i (by omega)]
            rw [if_neg (by omega), if_neg (fun h => h hp)])
          (fun i hi hp => by
            show f_Y_together_l44 H (nI j) x Y B' hm (nI i) = _
            unfold f_Y_together_l44
            rw [h00]
            simp only [c i (by omega)]
            rw [if_neg (by omega), if_pos hp])
          (by
            show f_Y_together_l44 H (nI j) x Y B' hm (nI (C 0 0 + 1 - j)) = _
            unfold f_Y_together_l44
            rw [h00]
            simp only [c (C 0 0 + 1 - j) (by omega)]
            rw [if_pos (by omega)])
        have eM := loop_first (body := fun q => f_M_together_l38 A (nI j) x q) (C 0 0 + 1 - j) (fun i => (a_shr x (nI i) &&& (a_shl 1 (nI j) - 1)) = (a_shl 1 (nI j) - 1)) (fun i => (nI i, A)) (by omega)
          (fun i hi hp => by
            show f_M_together_l38 A (nI j) x (nI i) = _
            unfold f_M_together_l38
            rw [n0]
            simp only [c i (by omega)]
            rw [if_neg (by omega), if_neg (fun h => h hp)])
          (fun i hi hp => by
            show f_M_together_l38 A (nI j) x (nI i) = _
            unfold f_M_together_l38
            rw [n0]
            simp only [c i (by omega)]
            rw [if_neg (by omega), if_pos hp])
          (by
            show f_M_together_l38 A (nI j) x (nI (C 0 0 + 1 - j)) = _
            unfold f_M_together_l38
            rw [n0]
            simp only [c (C 0 0 + 1 - j) (by omega)]
            rw [if_pos (by omega)])
        rw [eY, eM]
        cases s_first (fun i => (a_shr x (nI i) &&& (a_shl 1 (nI j) - 1)) = (a_shl 1 (nI j) - 1)) (C 0 0 + 1 - j) 0 with
        | none => exact TD.ans (B := B') (r := hm) (-1) h' hA rfl rfl rfl
        | some i => exact TD.ans (B := B') (r := hm) (nI i) h' hA rfl rfl rfl
  · rw [e1, M_people_out hW hM i1]
    have wi : ∃ v, f_M_within p2 1 10 = some v := by
      unfold f_M_within
      split
      · exact ⟨_, rfl⟩
      · split <;> exact ⟨_, rfl⟩
    obtain ⟨v, hv⟩ := wi
    refine TD.ref (B := BO) (r := r5) 1 (by omega) h' rfl ?_ ?_
    · simp only [obs, n20, if_false]
    · rw [hv]
      simp only [obs, if_true, se_l]
      rw [refM]; rfl
