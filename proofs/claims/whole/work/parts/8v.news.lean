/-! PURE MATH: news, latest -/
theorem loop_dn {σ β : Type} {body : σ → Option (σ ⊕ β)} (R : Nat → σ → Prop) (Q : β → Prop)
    (h1 : ∀ k s, R (k + 1) s → (∃ s', body s = some (.inl s') ∧ R k s') ∨ (∃ b, body s = some (.inr b) ∧ Q b)) (h2 : ∀ s, R 0 s → ∃ b, body s = some (.inr b) ∧ Q b) : ∀ k s n, R k s → k < n → ∃ b, loopN body n s = some b ∧ Q b := by
  intro k
  induction k with
  | zero =>
    intro s n hr hn
    obtain ⟨n, rfl⟩ : ∃ k, n = k + 1 := ⟨n - 1, by omega⟩
    obtain ⟨b, b1, b2⟩ := h2 s hr
    exact ⟨b, loop_r b1, b2⟩
  | succ k ih =>
    intro s n hr hn
    obtain ⟨n, rfl⟩ : ∃ k, n = k + 1 := ⟨n - 1, by omega⟩
    rcases h1 k s hr with ⟨s', b1, b2⟩ | ⟨b, b1, b2⟩
    · rw [loop_l b1]
      exact ih s' n b2 (by omega)
    · exact ⟨b, loop_r b1, b2⟩
/-- m stands elsewhere at its goal -/
abbrev s_live (C : CS) (m : Nat) : Prop := C 15 m = 0 ∨ (C 15 m - 1) / 3 ≠ (s_G C m - 1) / 3
abbrev s_late (C : CS) (t p m : Nat) : Prop := (C 8 m).testBit p = true ∧ s_G C m ≠ 0 ∧ (s_G C m - 1) / 3 < t + C 3 p ∧ s_live C m
abbrev s_miss (C : CS) (t p : Nat) : Prop := bs (s_late C t p) (C 0 3) ≠ 0
theorem WFC.delay {C : CS} (h : WFC C) (k : Nat) : C 3 k ≤ 9 := by
  obtain ⟨_, _, _, _, _, _, _, _, _, _, _, _, _, h, _⟩ := h
  exact h k
theorem Y_isLate {C : CS} {GU : Nat → Nat → Int32} (hW : WFC C) (hP : WFP C) (hG : RG C GU) {m f : Nat} (hm : m < C 0 3) (hf : f < 2 ^ 31) : f_Guide_isLateFor GU (nI m) (nI f) = some (if s_G C m ≠ 0 ∧ (s_G C m - 1) / 3 < f ∧ s_live C m then 1 else 0) := by
  have hN := hW.2.2.2.1
  have g1 : s_G C m ≤ 30 := (goal_ok hW hP (C 0 7) (Nat.le_refl _)).1 m
  have hp := hW.plan m
  unfold f_Guide_isLateFor
  rw [rdx_nI (by omega) (by omega), rdx_nI (by omega) (by omega), hG.2.1 m hm, hG.1 m hm]
  simp only [obs, oI_z g1, oI_z hp, f_Y_hourOf]
  by_cases c1 : s_G C m = 0
  · rw [if_pos c1, if_neg (show ¬ (s_G C m ≠ 0 ∧ _) from fun h => h.1 c1), zb_0]
  · rw [if_neg c1, (pl_h c1 g1).1]
    simp only [show (nI ((s_G C m - 1) / 3) < nI f) = ((s_G C m - 1) / 3 < f) from propext (na_lt (by omega) hf)]
    by_cases c2 : (s_G C m - 1) / 3 < f
    · rw [if_pos c2]
      by_cases c3 : C 15 m = 0
      · rw [if_pos c3, if_pos (show s_G C m ≠ 0 ∧ _ ∧ s_live C m from ⟨c1, c2, Or.inl c3⟩), zb_1]
      · rw [if_neg c3, (pl_h c3 hp).1]
        simp only [nI_eqP (show (C 15 m - 1) / 3 < 2 ^ 31 by omega) (show (s_G C m - 1) / 3 < 2 ^ 31 by omega)]
        by_cases c4 : (C 15 m - 1) / 3 = (s_G C m - 1) / 3
        · rw [if_pos c4, if_neg (show ¬ (s_G C m ≠ 0 ∧ _ ∧ s_live C m) from fun h => h.2.2.elim c3 (fun g => g c4)), zb_0]
        · rw [if_neg c4, if_pos (show s_G C m ≠ 0 ∧ _ ∧ s_live C m from ⟨c1, c2, Or.inr c4⟩), zb_1]
    · rw [if_neg c2, if_neg (show ¬ (s_G C m ≠ 0 ∧ _ ∧ s_live C m) from fun h => c2 h.2.1), zb_0]
theorem Y_missers {C : CS} {H GU : Nat → Nat → Int32} (hW : WFC C) (hP : WFP C) (hH : RH C H) (hG : RG C GU) {t : Nat} (ht : t < 100) : f_Guide_missers H GU (nI t) = some (nI (bs (s_miss C t) (C 0 2))) := by
  have hN := hW.2.2.2.1
  have hP8 := hW.2.2.1
  have h03 : H 0 3 = nI (C 0 3) := hH 0 3 (show 3 < 6 by omega)
  have h02 : H 0 2 = nI (C 0 2) := hH 0 2 (show 2 < 6 by omega)
  have z10 : ((1 : Int32) = 0) = False := by simp
  unfold f_Guide_missers
  have e := loop_S (body := fun q => f_Guide_missers_l4 H GU (nI t) q.1 q.2) (C 0 2) (fun i => (nI (bs (s_miss C t) i), nI i)) (b := nI (bs (s_miss C t) (C 0 2))) 0 (by omega) (by omega)
    (fun p _ hp => by
      have hd := hW.delay p
      show f_Guide_missers_l4 H GU (nI t) (nI _) (nI p) = _
      unfold f_Guide_missers_l4
      rw [h02, if_neg (nI_ge hp (by omega)), rdx_nI (by omega) (by omega), hH 3 p hp, obs]
      show (loopN (fun q => f_Guide_missers_l37 H GU (nI p) (nI t) (nI (C 3 p)) q.1 q.2) a_F (nI (bs (s_miss C t) p), 0)).bind _ = _
      have e2 := loop_S (body := fun q => f_Guide_missers_l37 H GU (nI p) (nI t) (nI (C 3 p)) q.1 q.2) (C 0 3) (fun i => (nI (bs (s_miss C t) p ||| (if bs (s_late C t p) i ≠ 0 then 2 ^ p else 0)), nI i)) (b := nI (bs (s_miss C t) (p + 1))) 0 (by omega) (by omega)
        (fun i _ hi => by
          show f_Guide_missers_l37 H GU (nI p) (nI t) (nI (C 3 p)) (nI _) (nI i) = _
          unfold f_Guide_missers_l37
          rw [h03, if_neg (nI_ge hi (by omega)), Y_isMember hW hH hi (by omega), obs, na_add, Y_isLate hW hP hG hi (by omega), obs]
          have keep : ¬ s_late C t p i → bs (s_late C t p) (i + 1) = bs (s_late C t p) i := fun h => bs_miss h
          by_cases c1 : (C 8 i).testBit p = true
          · rw [if_pos c1, if_neg (show ¬ (1 : Int32) = 0 by decide)]
            by_cases c2 : s_G C i ≠ 0 ∧ (s_G C i - 1) / 3 < t + C 3 p ∧ s_live C i
            · rw [if_pos c2, if_neg (show ¬ (1 : Int32) = 0 by decide), shl_1 _ (by omega), na_or, nI_succ]
              have hl : s_late C t p i := ⟨c1, c2⟩
              have h2 := (bs_ne0 (s_late C t p) (i + 1)).mpr ⟨i, by omega, hl⟩
              rw [if_pos h2]
              congr 4
              split
              · rw [Nat.or_assoc, Nat.or_self]
              · rw [Nat.or_zero]
            · rw [if_neg c2, if_pos rfl, keep (fun h => c2 h.2), nI_succ]
          · rw [if_neg c1, if_pos rfl, keep (fun h => c1 h.1), nI_succ])
        (by
          show f_Guide_missers_l37 H GU (nI p) (nI t) (nI (C 3 p)) _ (nI (C 0 3)) = _
          unfold f_Guide_missers_l37
          rw [h03, if_pos (nI_le (Nat.le_refl _) (by omega))]
          congr 3
          by_cases c : bs (s_late C t p) (C 0 3) ≠ 0
          · rw [if_pos c, bs_hit (p := s_miss C t) c]
          · rw [if_neg c, bs_miss (p := s_miss C t) c, Nat.or_zero])
      have e0 : nI (bs (s_miss C t) p) = nI (bs (s_miss C t) p ||| (if bs (s_late C t p) 0 ≠ 0 then 2 ^ p else 0)) := by
        rw [if_neg (show ¬ bs (s_late C t p) 0 ≠ 0 from fun h => h rfl), Nat.or_zero]
      rw [e0]
      show (loopN _ a_F (nI _, nI 0)).bind _ = _
      rw [e2, obs, nI_succ])
    (by
      show f_Guide_missers_l4 H GU (nI t) _ (nI (C 0 2)) = _
      unfold f_Guide_missers_l4
      rw [h02, if_pos (nI_le (Nat.le_refl _) (by omega))])
  show (loopN _ a_F (nI (bs (s_miss C t) 0), nI 0)).bind _ = _
  rw [e, obs]
theorem goal_line {C : CS} {m : Nat} : ∀ i, s_goal C i m ≠ C 15 m → ∃ j, j < i ∧ C 17 j = m := by
  intro i
  induction i with
  | zero => exact fun h => absurd rfl h
  | succ i ih =>
    intro h
    by_cases hm : m = C 17 i
    · exact ⟨i, by omega, hm.symm⟩
    · have h : (if m = C 17 i then C 18 i + 1 else s_goal C i m) ≠ C 15 m := h
      rw [if_neg hm] at h
      obtain ⟨j, h1, h2⟩ := ih h
      exact ⟨j, by omega, h2⟩
theorem goal_ne {C : CS} {j : Nat} : ∀ i, j < i → s_goal C i (C 17 j) ≠ 0 := by
  intro i
  induction i with
  | zero => intro h; omega
  | succ i ih =>
    intro h
    show (if C 17 j = C 17 i then C 18 i + 1 else s_goal C i (C 17 j)) ≠ 0
    by_cases he : C 17 j = C 17 i
    · rw [if_pos he]; omega
    · rw [if_neg he]
      have : j ≠ i := fun e => he (by rw [e])
      exact ih (by omega)
/-- the i-th line makes p miss it -/
abbrev s_lm (C : CS) (t p i : Nat) : Prop := s_live C (C 17 i) ∧ (C 8 (C 17 i)).testBit p = true ∧ (s_G C (C 17 i) - 1) / 3 < t + C 3 p
theorem miss_lines {C : CS} (hP : WFP C) (t p : Nat) : s_miss C t p ↔ bs (s_lm C t p) (C 0 7) ≠ 0 := by
  unfold s_miss
  rw [bs_ne0, bs_ne0]
  constructor
  · rintro ⟨m, hm, h1, h2, h3, h4⟩
    have hne : s_goal C (C 0 7) m ≠ C 15 m := fun e => by
      rcases h4 with h4 | h4
      · exact h2 (e.trans h4)
      · exact h4 (by rw [show s_G C m = C 15 m from e])
    obtain ⟨j, j1, j2⟩ := goal_line _ hne
    subst j2
    exact ⟨j, j1, h4, h1, h3⟩
  · rintro ⟨i, hi, h1, h2, h3⟩
    exact ⟨C 17 i, (hP.2.2.1 i hi).2, h2, goal_ne _ hi, h3, h1⟩
theorem M_missed {C : CS} {A : Nat → Nat → Int32} (MS : Nat → Nat → Int32) (hW : WFC C) (hP : WFP C) (hM : RMo C A) {t : Nat} (ht : t < 100) : ∃ MS', f_M_missed A MS (nI t) = some (nI (bs (s_miss C t) (C 0 2)), MS') := by
  have hN := hW.2.2.2.1
  have hP8 := hW.2.2.1
  have hL := hW.l10
  have n2 : A 0 25 = nI (C 0 2) := hM.n (j := 2) (by omega)
  have e33 := hM.d0.2.2.1
  obtain ⟨MS', g1, g2⟩ := M_goals MS hW hP hM
  refine ⟨MS', ?_⟩
  unfold f_M_missed
  rw [g1, obs]
  have e := loop_S (body := fun q => f_M_missed_l8 A MS' (nI t) q.1 q.2) (C 0 7) (fun i => (nI (bs (fun p => bs (s_lm C t p) i ≠ 0) (C 0 2)), nI i)) (b := nI (bs (s_miss C t) (C 0 2))) 0 (by omega) (by omega)
    (fun i _ hi => by
      obtain ⟨hl, hm⟩ := hP.2.2.1 i hi
      have hm10 : C 17 i < 10 := by omega
      have hx := hW.mem (C 17 i)
      have gle : s_G C (C 17 i) ≤ 30 := (goal_ok hW hP (C 0 7) (Nat.le_refl _)).1 (C 17 i)
      have gne : s_G C (C 17 i) ≠ 0 := goal_ne _ hi
      have hp := hW.plan (C 17 i)
      have hgh := (pl_h gne gle).1
      show f_M_missed_l8 A MS' (nI t) (nI _) (nI i) = _
      unfold f_M_missed_l8
      rw [e33, if_neg (nI_ge hi (by omega)), show (2 : Int32) * nI i = nI (2 * i) from na_mul 2 i, rdx_nI (by omega) (by omega), (hM.line hi).1, obs, rdx_nI hm10 (by omega), g2 _ hm, obs, rdx_nI hm10 (by omega), hM.here hm, obs]
      simp only [oI_z hp, obs, hgh]
      have dead : ¬ s_live C (C 17 i) → bs (fun p => bs (s_lm C t p) (i + 1) ≠ 0) (C 0 2) = bs (fun p => bs (s_lm C t p) i ≠ 0) (C 0 2) := fun h => bs_congr (fun p _ => by rw [bs_miss (p := s_lm C t p) (fun g => h g.1)])
      have live : s_live C (C 17 i) → (loopN (fun q => f_M_missed_l68 A (nI (C 17 i)) (nI t) (oI (s_G C (C 17 i))) q.1 q.2) a_F (nI (bs (fun p => bs (s_lm C t p) i ≠ 0) (C 0 2)), 0)).bind (fun v16 => some (.inl (v16, nI i + 1))) = (some (.inl (nI (bs (fun p => bs (s_lm C t p) (i + 1) ≠ 0) (C 0 2)), nI (i + 1))) : Option ((Int32 × Int32) ⊕ Int32)) := fun hlive => by
        have e2 := loop_S (body := fun q => f_M_missed_l68 A (nI (C 17 i)) (nI t) (oI (s_G C (C 17 i))) q.1 q.2) (C 0 2) (fun k => (nI (bs (fun p => bs (s_lm C t p) i ≠ 0 ∨ (p < k ∧ s_lm C t p i)) (C 0 2)), nI k)) (b := nI (bs (fun p => bs (s_lm C t p) (i + 1) ≠ 0) (C 0 2))) 0 (by omega) (by omega)
          (fun k _ hk => by
            have hdl := hW.delay k
            obtain ⟨x, x1, x2⟩ := M_memb hW hM hm (p := k) (by omega)
            have r1 : rdx (A 4) 24 (3 * nI k + 1) = some (nI (C 3 k)) := by rw [show (1 : Int32) = nI 1 from rfl, ix3, rdx_nI (by omega) (by omega), (hM.pers hk).2.1]
            have keep : ¬ s_lm C t k i → nI (bs (fun p => bs (s_lm C t p) i ≠ 0 ∨ (p < k + 1 ∧ s_lm C t p i)) (C 0 2)) = nI (bs (fun p => bs (s_lm C t p) i ≠ 0 ∨ (p < k ∧ s_lm C t p i)) (C 0 2)) := fun h => by
              congr 1
              refine bs_congr (fun p hp => ⟨fun g => g.elim Or.inl (fun g => ?_), fun g => g.elim Or.inl (fun g => Or.inr ⟨by omega, g.2⟩)⟩)
              by_cases hpk : p = k
              · subst hpk; exact absurd g.2 h
              · exact Or.inr ⟨by omega, g.2⟩
            show f_M_missed_l68 A (nI (C 17 i)) (nI t) (oI (s_G C (C 17 i))) (nI _) (nI k) = _
            unfold f_M_missed_l68
            rw [n2, if_neg (nI_ge hk (by omega)), x1, r1, obs, obs, x2, hgh, na_add]
            simp only [show (nI (t + C 3 k) ≤ nI ((s_G C (C 17 i) - 1) / 3)) = (t + C 3 k ≤ (s_G C (C 17 i) - 1) / 3) from propext (na_le (by omega) (by omega))]
            by_cases c1 : (C 8 (C 17 i)).testBit k = true
            · rw [if_pos c1, if_neg (show ¬ ((1 : Int32) ≠ 1) by decide)]
              by_cases c2 : t + C 3 k ≤ (s_G C (C 17 i) - 1) / 3
              · rw [if_pos c2, obs, se_l, obs, or_z, keep (fun h => by have := h.2.2; omega), nI_succ]
              · rw [if_neg c2, obs, se_r, obs, shl_1 _ (by omega), na_or, bs_or1 _ hk, nI_succ]
                congr 4
                refine bs_congr (fun p hp => ⟨fun g => ?_, fun g => ?_⟩)
                · rcases g with rfl | g | g
                  · exact Or.inr ⟨by omega, hlive, c1, by omega⟩
                  · exact Or.inl g
                  · exact Or.inr ⟨by omega, g.2⟩
                · rcases g with g | g
                  · exact Or.inr (Or.inl g)
                  · by_cases hpk : p = k
                    · exact Or.inl hpk
                    · exact Or.inr (Or.inr ⟨by omega, g.2⟩)
            · rw [if_neg c1, if_pos (show (0 : Int32) ≠ 1 by decide), obs, se_l, obs, or_z, keep (fun h => c1 h.2.1), nI_succ])
          (by
            show f_M_missed_l68 A (nI (C 17 i)) (nI t) (oI (s_G C (C 17 i))) _ (nI (C 0 2)) = _
            unfold f_M_missed_l68
            rw [n2, if_pos (nI_le (Nat.le_refl _) (by omega))]
            refine congrArg (fun x => some (Sum.inr (nI x))) (bs_congr (fun p hpp => ?_))
            rw [bs_ne0, bs_ne0]
            constructor
            · rintro (⟨j, j1, j2⟩ | ⟨_, g⟩)
              · exact ⟨j, by omega, j2⟩
              · exact ⟨i, by omega, g⟩
            · rintro ⟨j, j1, j2⟩
              by_cases hj : j = i
              · subst hj; exact Or.inr ⟨hpp, j2⟩
              · exact Or.inl ⟨j, by omega, j2⟩)
        have e0 : bs (fun p => bs (s_lm C t p) i ≠ 0) (C 0 2) = bs (fun p => bs (s_lm C t p) i ≠ 0 ∨ (p < 0 ∧ s_lm C t p i)) (C 0 2) := bs_congr (fun p _ => ⟨Or.inl, fun g => g.elim id (fun g => by omega)⟩)
        rw [e0]
        show (loopN _ a_F (nI _, nI 0)).bind _ = _
        rw [e2, obs, nI_succ]
      by_cases c1 : C 15 (C 17 i) = 0
      · rw [if_pos c1, obs, se_l]
        exact live (Or.inl c1)
      · rw [if_neg c1, (pl_h c1 hp).1]
        simp only [ne_eq, nI_eqP (show (C 15 (C 17 i) - 1) / 3 < 2 ^ 31 by omega) (show (s_G C (C 17 i) - 1) / 3 < 2 ^ 31 by omega)]
        by_cases c2 : (C 15 (C 17 i) - 1) / 3 = (s_G C (C 17 i) - 1) / 3
        · rw [if_neg (fun h => h c2), obs, se_r, dead (fun h => h.elim c1 (fun g => g c2)), nI_succ]
        · rw [if_pos c2, obs, se_l]
          exact live (Or.inr c2))
    (by
      show f_M_missed_l8 A MS' (nI t) _ (nI (C 0 7)) = _
      unfold f_M_missed_l8
      rw [e33, if_pos (nI_le (Nat.le_refl _) (by omega))]
      exact congrArg (fun x => some (Sum.inr (nI x))) (bs_congr (fun p _ => (miss_lines hP t p).symm)))
  have e0 : (0 : Int32) = nI (bs (fun p => bs (s_lm C t p) 0 ≠ 0) (C 0 2)) := by
    rw [bs_congr (q := fun _ => False) (fun p _ => ⟨fun g => g rfl, fun g => g.elim⟩)]
    have : ∀ n, bs (fun _ => False) n = 0 := fun n => by
      induction n with
      | zero => rfl
      | succ n ih => rw [bs_miss (p := fun _ => False) (fun h => h), ih]
    rw [this]; rfl
  have e' : loopN (fun q => f_M_missed_l8 A MS' (nI t) q.1 q.2) a_F (0, 0) = some (nI (bs (s_miss C t) (C 0 2))) := by
    have : ((0 : Int32), (0 : Int32)) = (nI (bs (fun p => bs (s_lm C t p) 0 ≠ 0) (C 0 2)), nI 0) := by rw [← e0]; rfl
    rw [this]
    exact e
  rw [e', obs]
theorem bs8 (p : Nat → Prop) [DecidablePred p] {C : CS} (hW : WFC C) : bs p (C 0 2) < 1024 := bs_lt10 p (by have := hW.2.2.1; omega)
theorem T_news {C : CS} {Y H NS A BO GU MS : Nat → Nat → Int32} {r5 hm : Nat} (h : RL C Y H NS A) (hP : WFP C) (p1 p2 : Int32) : TG C H NS (f_Y_news Y H NS BO GU hm r5 p1 p2) (f_M_news A MS p1 p2) cd1 (fun k => k = 2) := by
  have h' := h.thr 0
  obtain ⟨hW, hY, hH, hS, hM, hQ⟩ := h'
  have hA : (u2 A 0 0 0) 0 0 = 0 := thr_0 A 0
  unfold f_Y_news f_M_news
  generalize u2 A 0 0 0 = A at hM hQ hA ⊢
  have h' : RL C Y H NS A := ⟨hW, hY, hH, hS, hM, hQ⟩
  have z1 : ((1 : Int32) ≠ 0) = True := by simp
  have z10 : ((1 : Int32) = 0) = False := by simp
  have n20 : ((2 : Nat) = 0) = False := by simp
  have hH10 := hW.1.2
  have refM : f_M_may A 0 1 1 = some (0, mRef A 1 1) := M_may_out (k := 1) hA (by decide) (by omega)
  rcases G_hour (Y := Y) hW hH hM p1 with ⟨t, ht, rfl, g1, g2⟩ | ⟨g1, g2⟩
  · rw [g1, g2]
    rcases G_what (p := p2) 1 (by omega) with ⟨w, hw, rfl, k1, k2, k3⟩ | ⟨k3, k4⟩
    · have k3 : f_M_within (nI w) 0 1 = some 1 := k3
      have k2 : ¬ (1 : Int32) < nI w := k2
      obtain ⟨B', GU', a1, a2, a3⟩ := Y_guide BO GU hW hP hH hS
      obtain ⟨MS', m1⟩ := M_missed (t := t) MS hW hP hM (by omega)
      simp only [obs, if_true, if_false, k1, k2, k3, se_r, Y_ref_in, z10, M_may_in hA, z1, a1, Y_missers hW hP hH a3 (show t < 100 by omega), m1]
      have hw2 : w = 0 ∨ w = 1 := by omega
      rcases hw2 with rfl | rfl
      · refine TG.ans (B := B') (G := GU') (r := hm) (S := MS') (nI (pc (bs (s_miss C t) (C 0 2)) 10)) h' hA rfl ?_ ?_
        · rw [if_neg (show ¬ (nI 0 ≠ 0) by decide), bc_nI (bs8 _ hW), obs]
        · rw [if_neg (show ¬ (nI 0 ≠ 0) by decide), M_ones (bs8 _ hW), obs]
      · refine TG.ans (B := B') (G := GU') (r := hm) (S := MS') (nI (bs (s_miss C t) (C 0 2))) h' hA rfl ?_ ?_
        · rw [if_pos (show nI 1 ≠ 0 by decide)]
        · rw [if_pos (show nI 1 ≠ 0 by decide)]
    · have k3 : f_M_within p2 0 1 = some 0 := k3
      have k4 : ¬ p2 < 0 → (1 : Int32) < p2 := k4
      refine TG.ref (B := BO) (G := GU) (S := MS) (r := r5) 1 (by omega) h' rfl ?_ ?_
      · by_cases k1 : p2 < 0
        · simp only [obs, if_true, k1, se_l, Y_ref_out, n20, if_false]; rfl
        · simp only [obs, if_true, k1, k4 k1, if_false, se_l, Y_ref_out, n20]; rfl
      · simp only [obs, z10, if_false, k3, if_true, se_l, refM, ne_eq, not_true]
        rfl
  · rw [g1, g2]
    refine TG.ref (B := BO) (G := GU) (S := MS) (r := r5) 1 (by omega) h' rfl ?_ ?_
    · simp only [obs, n20, if_false]
    · simp only [obs, if_true, se_l, refM, ne_eq, not_true, if_false]
      rfl
theorem T_latest {C : CS} {Y H NS A BO GU MS : Nat → Nat → Int32} (h : RL C Y H NS A) (hP : WFP C) : ∃ v B' GU' MS', f_Y_latest H NS BO GU = some (v, B', GU') ∧ f_M_latest A MS = some (v, u2 A 0 0 0, MS') := by
  obtain ⟨hW, hY, hH, hS, hM, hQ⟩ := h.thr 0
  have hH10 := hW.1.2
  have h00 : H 0 0 = nI (C 0 0) := hH 0 0 (show 0 < 6 by omega)
  have n0 : (u2 A 0 0 0) 0 23 = nI (C 0 0) := hM.n (j := 0) (by omega)
  obtain ⟨B', GU', a1, a2, a3⟩ := Y_guide BO GU hW hP hH hS
  let sp : Nat → Int32 := fun k => Nat.rec (-1) (fun k r => if bs (s_miss C k) (C 0 2) = 0 then nI k else r) k
  have sp0 : sp 0 = -1 := rfl
  have sps : ∀ k, sp (k + 1) = if bs (s_miss C k) (C 0 2) = 0 then nI k else sp k := fun _ => rfl
  have ne0 : ∀ t, t < 100 → ((nI (bs (s_miss C t) (C 0 2)) = 0) = (bs (s_miss C t) (C 0 2) = 0)) := fun t _ => nI_eqP (b := 0) (by have := bs8 (s_miss C t) hW; omega) (by omega)
  have dn : ∀ k, nI k + (-1) = oI k := fun k => by
    unfold oI
    rw [Int32.sub_eq_add_neg]
  have eY := loop_dn (body := fun q => f_Y_latest_l15 H GU' B' q) (fun k s => k ≤ C 0 0 ∧ s = oI k ∧ sp k = sp (C 0 0)) (fun b => sumE b (fun _ => some ((-1 : Int32), B', GU')) (fun q => some q) = some (sp (C 0 0), B', GU'))
    (fun k s hs => by
      obtain ⟨s0, s1, s2⟩ := hs
      subst s1
      rw [oI_s]
      show (∃ s', f_Y_latest_l15 H GU' B' (nI k) = _ ∧ _) ∨ (∃ b, f_Y_latest_l15 H GU' B' (nI k) = _ ∧ _)
      unfold f_Y_latest_l15
      rw [if_neg (nI_pos (by omega)), Y_missers hW hP hH a3 (by omega), obs]
      simp only [ne_eq, ne0 k (by omega)]
      by_cases c : bs (s_miss C k) (C 0 2) = 0
      · refine Or.inr ⟨_, by rw [if_neg (fun h => h c)], ?_⟩
        rw [se_r, ← s2, sps, if_pos c]
      · refine Or.inl ⟨_, by rw [if_pos c], by omega, dn k, ?_⟩
        rw [← s2, sps, if_neg c])
    (fun s hs => by
      obtain ⟨s0, s1, s2⟩ := hs
      subst s1
      refine ⟨.inl (), ?_, ?_⟩
      · show f_Y_latest_l15 H GU' B' (oI 0) = _
        unfold f_Y_latest_l15
        rw [if_pos (by decide)]
      · rw [se_l, ← s2, sp0])
    (C 0 0) (oI (C 0 0)) a_F ⟨Nat.le_refl _, rfl, rfl⟩ (by unfold a_F; omega)
  have eM := loop_dn (body := fun q => f_M_latest_l12 A q.1 q.2) (fun k s => k ≤ C 0 0 ∧ s.1 = oI k ∧ sp k = sp (C 0 0)) (fun b => ∃ MS', sumE b (fun MS_6 => some ((-1 : Int32), u2 A 0 0 0, MS_6)) (fun q => some q) = some (sp (C 0 0), u2 A 0 0 0, MS'))
    (fun k s hs => by
      obtain ⟨v, M⟩ := s
      obtain ⟨s0, s1, s2⟩ := hs
      have s1 : v = _ := s1
      subst s1
      rw [oI_s]
      obtain ⟨MS', m1⟩ := M_missed (t := k) M hW hP hM (by omega)
      show (∃ s', f_M_latest_l12 A (nI k) M = _ ∧ _) ∨ (∃ b, f_M_latest_l12 A (nI k) M = _ ∧ _)
      unfold f_M_latest_l12
      rw [if_neg (nI_pos (by omega)), m1, obs]
      simp only [ne_eq, ne0 k (by omega)]
      by_cases c : bs (s_miss C k) (C 0 2) = 0
      · refine Or.inr ⟨_, by rw [if_neg (fun h => h c)], MS', ?_⟩
        rw [se_r, ← s2, sps, if_pos c]
      · refine Or.inl ⟨(nI k + (-1), MS'), by rw [if_pos c], by omega, dn k, ?_⟩
        rw [← s2, sps, if_neg c])
    (fun s hs => by
      obtain ⟨v, M⟩ := s
      obtain ⟨s0, s1, s2⟩ := hs
      have s1 : v = _ := s1
      subst s1
      refine ⟨.inl M, ?_, M, ?_⟩
      · show f_M_latest_l12 A (oI 0) M = _
        unfold f_M_latest_l12
        rw [if_pos (by decide)]
      · rw [se_l, ← s2, sp0])
    (C 0 0) (oI (C 0 0), MS) a_F ⟨Nat.le_refl _, rfl, rfl⟩ (by unfold a_F; omega)
  obtain ⟨b, y1, y2⟩ := eY
  obtain ⟨b', x1, MS', x2⟩ := eM
  refine ⟨sp (C 0 0), B', GU', MS', ?_, ?_⟩
  · unfold f_Y_latest
    rw [a1, obs, h00]
    show (loopN (fun q => f_Y_latest_l15 H GU' B' q) a_F (oI (C 0 0))).bind _ = _
    rw [y1, obs]
    exact y2
  · unfold f_M_latest
    rw [n0]
    show (loopN (fun q => f_M_latest_l12 A q.1 q.2) a_F (oI (C 0 0), MS)).bind _ = _
    rw [x1, obs]
    exact x2
