/-! PURE MATH: open hours, lawful plans -/
theorem ones_bit (i : Nat) : (4294967295 : Nat).testBit i = decide (i < 32) := by
  rw [show (4294967295 : Nat) = 2 ^ 32 - 1 from rfl, Nat.testBit_two_pow_sub_one]
theorem na_not (y : Nat) : nI y ^^^ (-1) = nI (y ^^^ 4294967295) := by
  rw [show (-1 : Int32) = nI 4294967295 from by decide, na_xor]
theorem bs_diff (p : Nat → Prop) [DecidablePred p] {n : Nat} (hn : n ≤ 32) (y : Nat) : bs p n &&& (y ^^^ 4294967295) = bs (fun i => p i ∧ ¬ y.testBit i = true) n := by
  apply Nat.eq_of_testBit_eq
  intro i
  rw [Nat.testBit_and, Nat.testBit_xor, ones_bit, bs_bit, bs_bit]
  by_cases h1 : i < n
  · have h2 : i < 32 := by omega
    by_cases h3 : p i <;> cases h4 : y.testBit i <;> simp [h1, h2, h3]
  · simp [h1]
theorem bs_lt10' {p : Nat → Prop} [DecidablePred p] : bs p 10 < 1024 := bs_lt p 10
/-- o bars this hour of this room from m -/
abbrev s_bar (C : CS) (pl : Nat → Nat) (m r h o : Nat) : Prop := o ≠ m ∧ pl o ≠ 0 ∧ ((pl o - 1) % 3 = r ∨ C 8 m &&& C 8 o ≠ 0) ∧ (pl o - 1) / 3 = h
theorem or_eq0 (a b : Nat) : (a ||| b = 0) ↔ (a = 0 ∧ b = 0) := Nat.or_eq_zero_iff
theorem s_or_0 (p : Nat → Prop) [DecidablePred p] {v : Nat} (hv : v ≠ 0) (n : Nat) : s_or p v n = 0 ↔ ∀ i, i < n → ¬ p i := by
  unfold s_or
  have h := bs_ne0 p n
  by_cases hb : bs p n ≠ 0
  · rw [if_pos hb]
    obtain ⟨i, h1, h2⟩ := h.mp hb
    exact ⟨fun e => absurd e hv, fun e => absurd h2 (e i h1)⟩
  · rw [if_neg hb]
    exact ⟨fun _ i h1 h2 => hb (h.mpr ⟨i, h1, h2⟩), fun _ => rfl⟩
theorem s_clash_0 (C : CS) (pl : Nat → Nat) (m k : Nat) : s_clash C pl m k = 0 ↔ ((s_may C m).testBit (k / 3) = true ∧ ¬ (s_busy C (C 8 m) (C 0 2)).testBit (k / 3) = true ∧ ¬ C 1 (k % 3) < pc (C 8 m) 10 ∧ ¬ (s_held C (k % 3) (C 0 4)).testBit (k / 3) = true ∧ ∀ o, o < C 0 3 → ¬ s_wP C pl m k o ∧ ¬ s_wR C pl m k o) := by
  unfold s_clash s_last
  rw [or_eq0, or_eq0, or_eq0, or_eq0, or_eq0, s_or_0 _ (by decide), s_or_0 _ (by decide)]
  have i1 : ∀ (p : Prop) [Decidable p] (v : Nat), v ≠ 0 → ((if p then v else 0) = 0 ↔ ¬ p) := fun p _ v hv => by
    by_cases hp : p
    · rw [if_pos hp]; exact ⟨fun h => absurd h hv, fun h => absurd hp h⟩
    · rw [if_neg hp]; exact ⟨fun _ => hp, fun _ => rfl⟩
  have i2 : ∀ (p : Prop) [Decidable p] (v : Nat), v ≠ 0 → ((if p then 0 else v) = 0 ↔ p) := fun p _ v hv => by
    by_cases hp : p
    · rw [if_pos hp]; exact ⟨fun _ => hp, fun _ => rfl⟩
    · rw [if_neg hp]; exact ⟨fun h => absurd h hv, fun h => absurd h hp⟩
  rw [i1 _ 2 (by decide), i1 _ 16 (by decide), i1 _ 8 (by decide), i2 _ 1 (by decide)]
  constructor
  · rintro ⟨⟨⟨⟨⟨h1, h2⟩, h3⟩, h4⟩, h5⟩, h6⟩
    exact ⟨h1, h2, h3, h4, fun o ho => ⟨h5 o ho, h6 o ho⟩⟩
  · rintro ⟨h1, h2, h3, h4, h5⟩
    exact ⟨⟨⟨⟨⟨h1, h2⟩, h3⟩, h4⟩, fun o ho => (h5 o ho).1⟩, fun o ho => (h5 o ho).2⟩
theorem Y_openHours {C : CS} {H BO : Nat → Nat → Int32} {pl tm : Nat → Nat} (hW : WFC C) (hH : RH C H) (hB : RB C pl tm BO) (hpl : ∀ m, pl m ≤ 30) {m r : Nat} (hm : m < C 0 3) (hr : r < C 0 1) :
    f_Board_openHours H BO (nI m) (nI r) = some (nI (bs (fun h => s_clash C pl m (3 * h + r) = 0) 10)) := by
  have hN := hW.2.2.2.1
  have hR := hW.2.1
  have h03 : H 0 3 = nI (C 0 3) := hH 0 3 (show 3 < 6 by omega)
  have hx := hW.mem m
  have r8 : rdx (H 8) 10 (nI m) = some (nI (C 8 m)) := by rw [rdx_nI (by omega) (by omega), hH 8 m hm]; rfl
  have r1 : rdx (H 1) 3 (nI r) = some (nI (C 1 r)) := by rw [rdx_nI (by omega) (by omega), hH 1 r hr]; rfl
  have r10 : rdx (H 10) 10 (nI m) = some (nI (bs (fun h => (s_may C m).testBit h ∧ ¬ (s_busy C (C 8 m) (C 0 2)).testBit h) 10)) := by rw [rdx_nI (by omega) (by omega), hH 10 m hm]; rfl
  have r3 : rdx (BO 3) 3 (nI r) = some (nI (s_held C r (C 0 4))) := by rw [rdx_nI (by omega) (by omega), hB.2.2 r (by omega)]
  have hs := hW.size r
  have hp := pc_le (C 8 m) 10
  have h4 : (nI (pc (C 8 m) 10) ≤ nI (C 1 r)) = ¬ (C 1 r < pc (C 8 m) 10) := by rw [na_le (by omega) (by omega)]; apply propext; omega
  have z10 : ((1 : Int32) = 0) = False := by simp
  have q3 : ∀ h, (3 * h + r) / 3 = h ∧ (3 * h + r) % 3 = r := fun h => by omega
  unfold f_Board_openHours
  simp only [r8, obs, bc_nI (show C 8 m < 1024 by omega), r1, h4, r10, r3]
  by_cases hc : C 1 r < pc (C 8 m) 10
  · simp only [hc, not_true, if_false]
    rw [bs_congr (q := fun _ => False) (fun i hi => by
      constructor
      · intro h
        have := ((s_clash_0 C pl m (3 * i + r)).mp h).2.2.1
        rw [(q3 i).2] at this
        exact this hc
      · exact fun h => h.elim)]
    rfl
  · simp only [hc, not_false_eq_true, if_true]
    rw [na_not, na_and, bs_diff _ (by omega)]
    have e := loop_S (body := fun q => f_Board_openHours_l48 H BO (nI m) (nI r) q.1 q.2) (C 0 3) (fun i => (nI (bs (fun h => (((s_may C m).testBit h ∧ ¬ (s_busy C (C 8 m) (C 0 2)).testBit h) ∧ ¬ (s_held C r (C 0 4)).testBit h = true) ∧ bs (s_bar C pl m r h) i = 0) 10), nI i)) (b := nI (bs (fun h => s_clash C pl m (3 * h + r) = 0) 10)) 0 (by omega) (by omega)
      (fun i _ hi => by
        have hpi := hpl i
        show f_Board_openHours_l48 H BO (nI m) (nI r) (nI _) (nI i) = _
        unfold f_Board_openHours_l48
        rw [h03, if_neg (nI_ge hi (by omega)), rdx_nI (by omega) (by omega), hB.1 i hi]
        simp only [obs, nI_eqP (show i < 2 ^ 31 by omega) (show m < 2 ^ 31 by omega), oI_z hpi, f_Y_hourOf, f_Y_roomOf]
        have miss : (∀ h, h < 10 → ¬ s_bar C pl m r h i) → nI (bs (fun h => (((s_may C m).testBit h ∧ ¬ (s_busy C (C 8 m) (C 0 2)).testBit h) ∧ ¬ (s_held C r (C 0 4)).testBit h = true) ∧ bs (s_bar C pl m r h) (i + 1) = 0) 10) = nI (bs (fun h => (((s_may C m).testBit h ∧ ¬ (s_busy C (C 8 m) (C 0 2)).testBit h) ∧ ¬ (s_held C r (C 0 4)).testBit h = true) ∧ bs (s_bar C pl m r h) i = 0) 10) := fun hb => by
          congr 1
          exact bs_congr (fun h hh => by rw [bs_miss (p := s_bar C pl m r h) (hb h hh)])
        by_cases c1 : i = m
        · rw [if_pos c1, miss (fun h _ hb => hb.1 c1), ← nI_succ]
        · rw [if_neg c1]
          by_cases c2 : pl i = 0
          · rw [if_pos c2, miss (fun h _ hb => hb.2.1 c2), ← nI_succ]
          · rw [if_neg c2]
            obtain ⟨p1, p2⟩ := pl_h c2 hpi
            have hit : ((pl i - 1) % 3 = r ∨ C 8 m &&& C 8 i ≠ 0) → nI (bs (fun h => (((s_may C m).testBit h ∧ ¬ (s_busy C (C 8 m) (C 0 2)).testBit h) ∧ ¬ (s_held C r (C 0 4)).testBit h = true) ∧ bs (s_bar C pl m r h) (i + 1) = 0) 10) = nI (bs (fun h => (((s_may C m).testBit h ∧ ¬ (s_busy C (C 8 m) (C 0 2)).testBit h) ∧ ¬ (s_held C r (C 0 4)).testBit h = true) ∧ bs (s_bar C pl m r h) i = 0) 10) &&& (a_shl 1 (nI ((pl i - 1) / 3)) ^^^ (-1)) := fun hb => by
              rw [shl_1 _ (by omega), na_not, na_and, bs_diff _ (by omega)]
              congr 1
              refine bs_congr (fun h hh => ?_)
              have hz := bs_ne0 (s_bar C pl m r h) i
              have hz2 := bs_ne0 (s_bar C pl m r h) (i + 1)
              rw [Nat.testBit_two_pow, decide_eq_true_eq]
              constructor
              · rintro ⟨g1, g2⟩
                refine ⟨⟨g1, ?_⟩, ?_⟩
                · exact Decidable.byContradiction fun hn => by
                    obtain ⟨o, o1, o2⟩ := hz.mp hn
                    exact (hz2.mpr ⟨o, by omega, o2⟩) g2
                · exact fun he => (hz2.mpr ⟨i, by omega, c1, c2, hb, he⟩) g2
              · rintro ⟨⟨g1, g2⟩, g3⟩
                refine ⟨g1, Decidable.byContradiction fun hn => ?_⟩
                obtain ⟨o, o1, o2⟩ := hz2.mp hn
                by_cases ho : o = i
                · subst ho
                  exact g3 o2.2.2.2
                · exact (hz.mpr ⟨o, by omega, o2⟩) g2
            simp only [p1, p2, nI_eqP (show (pl i - 1) % 3 < 2 ^ 31 by omega) (show r < 2 ^ 31 by omega), Y_shares hW hH hm hi, obs]
            by_cases c3 : (pl i - 1) % 3 = r
            · rw [if_pos c3, obs, se_l, hit (Or.inl c3), ← nI_succ]
            · rw [if_neg c3]
              by_cases c4 : C 8 m &&& C 8 i = 0
              · simp only [c4, ne_eq, not_true, if_false, if_true, obs, se_r]
                rw [miss (fun h _ hb => hb.2.2.1.elim c3 (fun h => h c4)), ← nI_succ]
              · simp only [c4, ne_eq, not_false_eq_true, if_false, if_true, obs, se_l, z10]
                rw [hit (Or.inr c4), ← nI_succ])
      (by
        show f_Board_openHours_l48 H BO (nI m) (nI r) _ (nI (C 0 3)) = _
        unfold f_Board_openHours_l48
        rw [h03, if_pos (nI_le (Nat.le_refl _) (by omega))]
        refine congrArg (fun x => some (Sum.inr (nI x))) (bs_congr (fun h hh => ?_))
        have hz := bs_ne0 (s_bar C pl m r h) (C 0 3)
        rw [s_clash_0, (q3 h).1, (q3 h).2]
        constructor
        · rintro ⟨⟨⟨g1, g2⟩, g3⟩, g4⟩
          refine ⟨g1, g2, hc, g3, fun o ho => ⟨fun hb => (hz.mpr ⟨o, ho, hb.1, hb.2.1, Or.inr hb.2.2.2, ?_⟩) g4, fun hb => (hz.mpr ⟨o, ho, hb.1, ?_, Or.inl ?_, ?_⟩) g4⟩⟩
          · have := hb.2.2.1; rw [(q3 h).1] at this; exact this
          · have := hb.2; omega
          · have := hb.2; omega
          · have := hb.2; omega
        · rintro ⟨g1, g2, _, g3, g4⟩
          refine ⟨⟨⟨g1, g2⟩, g3⟩, Decidable.byContradiction fun hn => ?_⟩
          obtain ⟨o, ho, b1, b2, b3, b4⟩ := hz.mp hn
          obtain ⟨w1, w2⟩ := g4 o ho
          rcases b3 with b3 | b3
          · exact w2 ⟨b1, by omega⟩
          · exact w1 ⟨b1, b2, by rw [(q3 h).1]; exact b4, b3⟩)
    have e0 : bs (fun i => ((s_may C m).testBit i = true ∧ ¬(s_busy C (C 8 m) (C 0 2)).testBit i = true) ∧ ¬(s_held C r (C 0 4)).testBit i = true) 10 = bs (fun h => (((s_may C m).testBit h ∧ ¬ (s_busy C (C 8 m) (C 0 2)).testBit h) ∧ ¬ (s_held C r (C 0 4)).testBit h = true) ∧ bs (s_bar C pl m r h) 0 = 0) 10 := bs_congr (fun h hh => ⟨fun g => ⟨g, rfl⟩, fun g => g.1⟩)
    rw [e0]
    show (loopN _ a_F (nI _, nI 0)).bind _ = _
    rw [e, obs]
theorem Y_isOpen {C : CS} {H BO : Nat → Nat → Int32} {pl tm : Nat → Nat} (hW : WFC C) (hH : RH C H) (hB : RB C pl tm BO) (hpl : ∀ m, pl m ≤ 30) {m k : Nat} (hm : m < C 0 3) (hk : k < 30) (hr : k % 3 < C 0 1) :
    f_Board_isOpen H BO (nI m) (nI k) = some (if s_clash C pl m k = 0 then 1 else 0) := by
  obtain ⟨q1, q2⟩ := nI_hr k hk
  have hlt := bs_lt10' (p := fun h => s_clash C pl m (3 * h + k % 3) = 0)
  obtain ⟨a1, a2⟩ := bitq (x := bs (fun h => s_clash C pl m (3 * h + k % 3) = 0) 10) (j := k / 3) (by omega) (by omega)
  unfold f_Board_isOpen f_Y_roomOf f_Y_hourOf
  rw [bs_bit, decide_eq_true_eq, show 3 * (k / 3) + k % 3 = k from by omega] at a1
  rw [obs, q2, Y_openHours hW hH hB hpl hm hr, obs, obs, q1]
  simp only [a1]
  by_cases h : s_clash C pl m k = 0
  · rw [if_neg (fun h2 => h2 ⟨by omega, h⟩), if_pos h]; rfl
  · rw [if_pos (fun h2 => h h2.2), if_neg h]; rfl
/-- a plan's places are of the house -/
def okP (C : CS) (n : Nat) : Prop := n ≤ 30 ∧ (n ≠ 0 → (n - 1) % 3 < C 0 1 ∧ (n - 1) / 3 < C 0 0)
abbrev s_bad (C : CS) (pl : Nat → Nat) (m : Nat) : Prop := pl m ≠ 0 ∧ s_clash C pl m (pl m - 1) ≠ 0
theorem Y_isLawful {C : CS} {H BO : Nat → Nat → Int32} {pl tm : Nat → Nat} (hW : WFC C) (hH : RH C H) (hB : RB C pl tm BO) (hpl : ∀ m, pl m ≤ 30) (hok : ∀ m, m < C 0 3 → okP C (pl m)) :
    f_Board_isLawful H BO = some (if bs (s_bad C pl) (C 0 3) = 0 then 1 else 0) := by
  have hN := hW.2.2.2.1
  have h03 : H 0 3 = nI (C 0 3) := hH 0 3 (show 3 < 6 by omega)
  have z10 : ((1 : Int32) = 0) = False := by simp
  have body : ∀ i, i < C 0 3 → f_Board_isLawful_l2 H BO (nI i) = if s_bad C pl i then some (.inr (.inr 0)) else some (.inl (nI i + 1)) := fun i hi => by
    have hp := hpl i
    unfold f_Board_isLawful_l2
    rw [h03, if_neg (nI_ge hi (by omega)), rdx_nI (by omega) (by omega), hB.1 i hi]
    simp only [obs, oI_z hp]
    by_cases c1 : pl i = 0
    · rw [if_pos c1, if_neg (fun h => h.1 c1)]
    · rw [if_neg c1]
      obtain ⟨k, hk⟩ : ∃ k, pl i = k + 1 := ⟨pl i - 1, by omega⟩
      obtain ⟨o1, o2⟩ := (hok i hi).2 c1
      rw [hk] at o1 o2
      rw [show oI (pl i) = nI k from by rw [hk, oI_s], Y_isOpen hW hH hB hpl hi (by omega) (by omega), obs]
      by_cases c2 : s_clash C pl i k = 0
      · rw [if_pos c2, if_pos (by decide), if_neg (fun h : s_bad C pl i => h.2 (by rw [hk, Nat.add_sub_cancel]; exact c2))]
      · rw [if_neg c2, if_neg (by decide), if_pos (show s_bad C pl i from ⟨c1, by rw [hk, Nat.add_sub_cancel]; exact c2⟩)]
        rfl
  have e := loop_first (body := fun q => f_Board_isLawful_l2 H BO q) (C 0 3) (s_bad C pl) (fun _ => (0 : Int32)) (by omega)
    (fun i hi hp => by show f_Board_isLawful_l2 H BO (nI i) = _; rw [body i hi, if_pos hp])
    (fun i hi hp => by show f_Board_isLawful_l2 H BO (nI i) = _; rw [body i hi, if_neg hp])
    (by
      show f_Board_isLawful_l2 H BO (nI (C 0 3)) = _
      unfold f_Board_isLawful_l2
      rw [h03, if_pos (nI_le (Nat.le_refl _) (by omega))])
  unfold f_Board_isLawful
  rw [e, obs]
  have hq := s_first_some (p := s_bad C pl) (C 0 3) 0
  have hz := bs_ne0 (s_bad C pl) (C 0 3)
  cases hf : s_first (s_bad C pl) (C 0 3) 0 with
  | none =>
    rw [hf] at hq
    rw [if_pos (Decidable.byContradiction fun hn => by
      obtain ⟨i, i1, i2⟩ := hz.mp hn
      have := hq.mpr ⟨i, by omega, by omega, i2⟩
      cases this)]
    rfl
  | some i =>
    rw [hf] at hq
    obtain ⟨i, i0, i1, i2⟩ := hq.mp rfl
    rw [if_neg (fun h0 => (hz.mpr ⟨i, by omega, i2⟩) h0)]
    rfl
theorem M_isLawful {C : CS} {A : Nat → Nat → Int32} {pl : Nat → Nat} {w : Nat → Int32} (hW : WFC C) (hM : RMo C A) (hw : RP C pl w) (hpl : ∀ m, pl m ≤ 30) (hok : ∀ m, m < C 0 3 → okP C (pl m)) :
    f_M_isLawful A w = some (if bs (s_bad C pl) (C 0 3) = 0 then 1 else 0) := by
  have hN := hW.2.2.2.1
  have n3 : A 0 26 = nI (C 0 3) := hM.n (j := 3) (by omega)
  have body : ∀ i, i < C 0 3 → f_M_isLawful_l2 A w (nI i) = if s_bad C pl i then some (.inr (.inr 0)) else some (.inl (nI i + 1)) := fun i hi => by
    have hp := hpl i
    unfold f_M_isLawful_l2
    rw [n3, if_neg (nI_ge hi (by omega)), rdx_nI (by omega) (by omega), hw i hi]
    simp only [obs, oI_z hp]
    by_cases c1 : pl i = 0
    · rw [if_pos c1, if_neg (fun h => h.1 c1)]
    · rw [if_neg c1]
      obtain ⟨k, hk⟩ : ∃ k, pl i = k + 1 := ⟨pl i - 1, by omega⟩
      obtain ⟨o1, o2⟩ := (hok i hi).2 c1
      rw [hk] at o1 o2
      have hc := s_clash_lt C pl i k
      rw [show oI (pl i) = nI k from by rw [hk, oI_s], M_clashOf hW hM hw hpl hi (by omega) (by omega), obs]
      simp only [show (nI (s_clash C pl i k) = 0) = (s_clash C pl i k = 0) from nI_eqP (b := 0) (by omega) (by omega)]
      by_cases c2 : s_clash C pl i k = 0
      · rw [if_pos c2, if_neg (fun h : s_bad C pl i => h.2 (by rw [hk, Nat.add_sub_cancel]; exact c2))]
      · rw [if_neg c2, if_pos (show s_bad C pl i from ⟨c1, by rw [hk, Nat.add_sub_cancel]; exact c2⟩)]
        rfl
  have e := loop_first (body := fun q => f_M_isLawful_l2 A w q) (C 0 3) (s_bad C pl) (fun _ => (0 : Int32)) (by omega)
    (fun i hi hp => by show f_M_isLawful_l2 A w (nI i) = _; rw [body i hi, if_pos hp])
    (fun i hi hp => by show f_M_isLawful_l2 A w (nI i) = _; rw [body i hi, if_neg hp])
    (by
      show f_M_isLawful_l2 A w (nI (C 0 3)) = _
      unfold f_M_isLawful_l2
      rw [n3, if_pos (nI_le (Nat.le_refl _) (by omega))])
  unfold f_M_isLawful
  rw [e, obs]
  have hq := s_first_some (p := s_bad C pl) (C 0 3) 0
  have hz := bs_ne0 (s_bad C pl) (C 0 3)
  cases hf : s_first (s_bad C pl) (C 0 3) 0 with
  | none =>
    rw [hf] at hq
    rw [if_pos (Decidable.byContradiction fun hn => by
      obtain ⟨i, i1, i2⟩ := hz.mp hn
      have := hq.mpr ⟨i, by omega, by omega, i2⟩
      cases this)]
    rfl
  | some i =>
    rw [hf] at hq
    obtain ⟨i, i0, i1, i2⟩ := hq.mp rfl
    rw [if_neg (fun h0 => (hz.mpr ⟨i, by omega, i2⟩) h0)]
    rfl
