/-! PURE MATH: rings -/
theorem rings_keep {R M : Nat → Nat → Int32} {many : Nat} {ch : Nat → Nat} (hm4 : many ≤ 4) (h3 : R 0 3 = nI many) (h1 : ∀ j, j < many → R 1 j = nI (ch j)) (h5 : ∀ j, j < many → M 5 j = nI (ch j)) (h50 : R 0 4 = M 0 50) (h51 : R 0 5 = M 0 51) :
    ∃ R' M', f_Rings_keep R = some R' ∧ ((if M 0 50 ≠ 0 then some M else (loopN (fun q => f_M_goesRound_B_l29 (nI many) q.1 q.2) a_F (0, u2 M 0 51 0)).bind fun MS_16 => some MS_16).bind fun MS_18 => some (u2 MS_18 0 50 (MS_18 0 50 + 1))) = some M' ∧ R' 0 3 = nI many ∧ (∀ j, j < many → R' 1 j = nI (ch j)) ∧ (∀ j, j < many → M' 5 j = nI (ch j)) ∧ R' 0 4 = M' 0 50 ∧ R' 0 5 = M' 0 51 := by
  unfold f_Rings_keep
  rw [h50]
  by_cases c : M 0 50 = 0
  · rw [if_neg (fun h => h c), if_neg (fun h => h c)]
    obtain ⟨b, c', b1, b2, b3⟩ := loop_two (f := fun q => f_Rings_keep_l14 q.1 q.2) (g := fun q => f_M_goesRound_B_l29 (nI many) q.1 q.2) many
      (fun i s t => s.1 = nI i ∧ t.1 = nI i ∧ s.2 0 3 = nI many ∧ (∀ j, j < many → s.2 1 j = nI (ch j)) ∧ (∀ j, j < many → t.2 5 j = nI (ch j)) ∧ s.2 0 4 = t.2 0 50 ∧ s.2 0 5 = t.2 0 51)
      (fun b c => b 0 3 = nI many ∧ (∀ j, j < many → b 1 j = nI (ch j)) ∧ (∀ j, j < many → c 5 j = nI (ch j)) ∧ b 0 4 = c 0 50 ∧ b 0 5 = c 0 51) (by omega)
      (fun i s t hi hR => by
        obtain ⟨v, B⟩ := s
        obtain ⟨w, D⟩ := t
        obtain ⟨r1, r2, r3, r4, r5, r6, r7⟩ := hR
        have r1 : v = nI i := r1
        have r2 : w = nI i := r2
        have t3 : B 0 3 = nI many := r3
        have t4 : ∀ j, j < many → B 1 j = nI (ch j) := r4
        have t5 : ∀ j, j < many → D 5 j = nI (ch j) := r5
        have t6 : B 0 4 = D 0 50 := r6
        have t7 : B 0 5 = D 0 51 := r7
        clear r3 r4 r5 r6 r7
        subst r1; subst r2
        show ∃ s' t', f_Rings_keep_l14 (nI i) B = _ ∧ f_M_goesRound_B_l29 (nI many) (nI i) D = _ ∧ _
        unfold f_Rings_keep_l14 f_M_goesRound_B_l29
        rw [t3, if_neg (nI_ge hi (by omega)), if_neg (nI_ge hi (by omega)), rdx_nI (by omega) (by omega), t4 i hi, rdx_nI (by omega) (by omega), t5 i hi, obs, obs]
        refine ⟨_, _, rfl, rfl, (nI_succ i).symm, (nI_succ i).symm, ?_, fun j hj => ?_, fun j hj => ?_, ?_, ?_⟩
        · show u2 B 0 5 (B 0 5 * 10 + nI (ch i)) 0 3 = _
          rw [u2_col _ _ (by decide), t3]
        · show u2 B 0 5 (B 0 5 * 10 + nI (ch i)) 1 j = _
          rw [u2_row _ _ (by decide), t4 j hj]
        · show u2 D 0 51 (10 * D 0 51 + nI (ch i)) 5 j = _
          rw [u2_row _ _ (by decide), t5 j hj]
        · show u2 B 0 5 (B 0 5 * 10 + nI (ch i)) 0 4 = u2 D 0 51 (10 * D 0 51 + nI (ch i)) 0 50
          rw [u2_col _ _ (by decide), u2_col _ _ (by decide), t6]
        · show u2 B 0 5 (B 0 5 * 10 + nI (ch i)) 0 5 = u2 D 0 51 (10 * D 0 51 + nI (ch i)) 0 51
          rw [u2_same, u2_same, t7, Int32.mul_comm])
      (fun s t hR => by
        obtain ⟨v, B⟩ := s
        obtain ⟨w, D⟩ := t
        obtain ⟨r1, r2, r3, r4⟩ := hR
        have r1 : v = nI many := r1
        have r2 : w = nI many := r2
        have t3 : B 0 3 = nI many := r3
        subst r1; subst r2
        show ∃ s' t', f_Rings_keep_l14 (nI many) B = _ ∧ f_M_goesRound_B_l29 (nI many) (nI many) D = _ ∧ _
        unfold f_Rings_keep_l14 f_M_goesRound_B_l29
        rw [t3, if_pos (nI_le (Nat.le_refl _) (by omega)), if_pos (nI_le (Nat.le_refl _) (by omega))]
        exact ⟨B, D, rfl, rfl, t3, r4⟩)
      0 (Nat.zero_le _) (0, u2 R 0 5 0) (0, u2 M 0 51 0) ⟨rfl, rfl, by
        show u2 R 0 5 0 0 3 = _
        rw [u2_col _ _ (by decide), h3], fun j hj => by
        show u2 R 0 5 0 1 j = _
        rw [u2_row _ _ (by decide), h1 j hj], fun j hj => by
        show u2 M 0 51 0 5 j = _
        rw [u2_row _ _ (by decide), h5 j hj], by
        show u2 R 0 5 0 0 4 = u2 M 0 51 0 0 50
        rw [u2_col _ _ (by decide), u2_col _ _ (by decide), h50], by
        show u2 R 0 5 0 0 5 = u2 M 0 51 0 0 51
        rw [u2_same, u2_same]⟩
    rw [b1, b2]
    simp only [obs]
    obtain ⟨d1, d2, d3, d4, d5⟩ := b3
    refine ⟨_, _, rfl, rfl, ?_, fun j hj => ?_, fun j hj => ?_, ?_, ?_⟩
    · rw [u2_col _ _ (by decide), d1]
    · rw [u2_row _ _ (by decide), d2 j hj]
    · rw [u2_row _ _ (by decide), d3 j hj]
    · rw [u2_same, u2_same, d4]
    · rw [u2_col _ _ (by decide), u2_col _ _ (by decide), d5]
  · rw [if_pos c, if_pos c]
    simp only [obs]
    refine ⟨_, _, rfl, rfl, ?_, fun j hj => ?_, fun j hj => ?_, ?_, ?_⟩
    · rw [u2_col _ _ (by decide), h3]
    · rw [u2_row _ _ (by decide), h1 j hj]
    · rw [u2_row _ _ (by decide), h5 j hj]
    · rw [u2_same, u2_same, h50]
    · rw [u2_col _ _ (by decide), u2_col _ _ (by decide), h51]
/-- both searches, side by side -/
def RR (C : CS) (tm : Nat → Nat) (many i : Nat) (ch : Nat → Nat) (B R M : Nat → Nat → Int32) : Prop := RB C (C 15) tm B ∧ R 0 3 = nI many ∧ (∀ j, j < i → R 1 j = nI (ch j)) ∧ (∀ j, j < i → M 5 j = nI (ch j)) ∧ R 0 4 = M 0 50 ∧ R 0 5 = M 0 51
theorem rings_rec {C : CS} {H A : Nat → Nat → Int32} {tm : Nat → Nat} (hW : WFC C) (hP : WFP C) (hH : RH C H) (hM : RMo C A) {many : Nat} (hm : 0 < many) (hm4 : many ≤ 4) : ∀ n i used ch B R M, i ≤ many → many - i < n → (∀ j, j < i → ch j < C 0 3) → used < 2 ^ 10 → RR C tm many i ch B R M →
    ∃ B' R' M', f_grp_ce n 0 H B R (nI i) (nI used) = some (B', R') ∧ f_grp_mg n 0 A M (nI i) (nI many) (nI used) = some M' ∧ RR C tm many i ch B' R' M' := by
  have hN := hW.2.2.2.1
  have h03 : H 0 3 = nI (C 0 3) := hH 0 3 (show 3 < 6 by omega)
  have n3 : A 0 26 = nI (C 0 3) := hM.n (j := 3) (by omega)
  intro n
  induction n with
  | zero => intro i used ch B R M _ h; omega
  | succ n ih =>
    intro i used ch B R M hi hn hc hu hR
    obtain ⟨hB, h3, h1, h5, h50, h51⟩ := hR
    show ∃ B' R' M', f_Rings_extend_B (f_grp_ce n) H B R (nI i) (nI used) = _ ∧ f_M_goesRound_B (f_grp_mg n) A M (nI i) (nI many) (nI used) = _ ∧ _
    unfold f_Rings_extend_B f_M_goesRound_B
    rw [h3]
    simp only [show (nI i < nI many) = (i < many) from propext (na_lt (by omega) (by omega)), ne_eq, nI_eqP (show i < 2 ^ 31 by omega) (show many < 2 ^ 31 by omega)]
    by_cases him : i = many
    · subst him
      rw [if_neg (by omega), if_neg (fun h => h rfl)]
      obtain ⟨B2, R2, t1, t2, t3⟩ := Y_turns (ch := ch) hW hP hH hB hm hm4 hc h3 h1
      obtain ⟨M2, x1, x2⟩ := M_isRing (ch := ch) hW hP hM hm hm4 hc h5
      rw [t1, x1, obs, obs]
      have r3 : R2 0 3 = nI i := by rw [t3 0 3 (by decide), h3]
      have r1 : ∀ j, j < i → R2 1 j = nI (ch j) := fun j hj => by rw [t3 1 j (by decide), h1 j hj]
      have r5 : ∀ j, j < i → M2 5 j = nI (ch j) := fun j hj => by rw [x2 5 j (by decide), h5 j hj]
      have r50 : R2 0 4 = M2 0 50 := by rw [t3 0 4 (by decide), x2 0 50 (by decide), h50]
      have r51 : R2 0 5 = M2 0 51 := by rw [t3 0 5 (by decide), x2 0 51 (by decide), h51]
      simp only [law_1]
      by_cases c : bs (s_bad C (s_turn C ch i i)) (C 0 3) = 0
      · rw [if_neg (fun h => h c), if_pos (fun h => h c)]
        obtain ⟨R3, M3, k1, k2, k3, k4, k5, k6, k7⟩ := rings_keep (ch := ch) hm4 r3 r1 r5 r50 r51
        rw [k1, obs]
        exact ⟨B2, R3, M3, rfl, k2, t2, k3, k4, k5, k6, k7⟩
      · rw [if_pos c, if_neg (fun h => h c)]
        exact ⟨B2, R2, M2, rfl, rfl, t2, r3, r1, r5, r50, r51⟩
    · have him' : i < many := by omega
      rw [if_pos him', if_pos him]
      obtain ⟨fr, hfr, hY, hMM⟩ : ∃ fr, fr ≤ C 0 3 ∧ ((if ¬ nI i = 0 then (rdx (R 1) 4 0).bind fun x1 => some (x1 + 1) else some 0 : Option Int32) = some (nI fr)) ∧ ((if ¬ nI i = 0 then (rdx (M 5) 4 0).bind fun x1 => some (x1 + 1) else some 0 : Option Int32) = some (nI fr)) := by
        by_cases h0 : i = 0
        · subst h0
          refine ⟨0, Nat.zero_le _, ?_, ?_⟩ <;> rw [if_neg (fun h => h rfl)] <;> rfl
        · have hne : ¬ nI i = 0 := nI_ne0 (by omega) (by omega)
          have hc0 := hc 0 (by omega)
          have q1 : rdx (R 1) 4 0 = some (nI (ch 0)) := by rw [show (0 : Int32) = nI 0 from rfl, rdx_nI (by omega) (by omega), h1 0 (by omega)]
          have q2 : rdx (M 5) 4 0 = some (nI (ch 0)) := by rw [show (0 : Int32) = nI 0 from rfl, rdx_nI (by omega) (by omega), h5 0 (by omega)]
          refine ⟨ch 0 + 1, by omega, ?_, ?_⟩
          · rw [if_pos hne, q1, obs, nI_succ]
          · rw [if_pos hne, q2, obs, nI_succ]
      rw [hY, hMM, obs, obs]
      obtain ⟨b, c, b1, b2, b3⟩ := loop_two (f := fun q : Int32 × (Nat → Nat → Int32) × (Nat → Nat → Int32) => f_Rings_extend_B_l40 H (nI used) (nI i) (f_grp_ce n) q.1 q.2.1 q.2.2) (g := fun q : Int32 × (Nat → Nat → Int32) => f_M_goesRound_B_l89 A (nI used) (nI i) (f_grp_mg n) (nI many) q.1 q.2) (C 0 3)
        (fun k s t => s.1 = nI k ∧ t.1 = nI k ∧ RR C tm many i ch s.2.1 s.2.2 t.2) (fun b c => RR C tm many i ch b.1 b.2 c) (by omega)
        (fun k s t hk hR => by
          obtain ⟨v, B, R⟩ := s
          obtain ⟨w, M⟩ := t
          obtain ⟨r1, r2, r3⟩ := hR
          have r1 : v = nI k := r1
          have r2 : w = nI k := r2
          have t3 : RR C tm many i ch B R M := r3
          clear r3
          subst r1; subst r2
          obtain ⟨hB, h3, h1, h5, h50, h51⟩ := t3
          have t3 : RR C tm many i ch B R M := ⟨hB, h3, h1, h5, h50, h51⟩
          obtain ⟨q1, q2⟩ := bitq (x := used) (j := k) (by omega) (by omega)
          show ∃ s' t', f_Rings_extend_B_l40 H (nI used) (nI i) (f_grp_ce n) (nI k) B R = _ ∧ f_M_goesRound_B_l89 A (nI used) (nI i) (f_grp_mg n) (nI many) (nI k) M = _ ∧ _
          unfold f_Rings_extend_B_l40 f_M_goesRound_B_l89
          rw [h03, n3, if_neg (nI_ge hk (by omega)), if_neg (nI_ge hk (by omega))]
          simp only [ne_eq, q1, q2, Decidable.not_not, Y_mayTurn hW hH hB hk, M_canRing hW hM hk, obs]
          by_cases c1 : used.testBit k = true
          · rw [if_pos c1, if_pos c1]
            exact ⟨_, _, rfl, rfl, (nI_succ k).symm, (nI_succ k).symm, t3⟩
          · rw [if_neg c1, if_neg c1]
            by_cases c2 : s_may1 C k
            · have w1 : (if s_may1 C k then (1 : Int32) else 0) = 1 := if_pos c2
              rw [w1, if_neg (by decide), if_pos (by decide), ixx_nI (by omega) (by omega), obs, obs, shl_1 _ (by omega), na_or, ← nI_succ]
              let ch' : Nat → Nat := fun j => if j = i then k else ch j
              have hch : ∀ j, j < i + 1 → ch' j < C 0 3 := fun j hj => by
                show (if j = i then k else ch j) < _
                by_cases h : j = i
                · rw [if_pos h]; exact hk
                · rw [if_neg h]; exact hc j (by omega)
              have hu2 : used ||| 2 ^ k < 2 ^ 10 := Nat.or_lt_two_pow hu (Nat.pow_lt_pow_right (by omega) (by omega))
              obtain ⟨B', R', M', y1, y2, y3⟩ := ih (i + 1) (used ||| 2 ^ k) ch' B (u2 R 1 i (nI k)) (u2 M 5 i (nI k)) (by omega) (by omega) hch hu2 ⟨hB, by rw [u2_row _ _ (by decide), h3], fun j hj => by
                show _ = nI (if j = i then k else ch j)
                by_cases h : j = i
                · subst h; rw [u2_same, if_pos rfl]
                · rw [u2_col _ _ h, if_neg h, h1 j (by omega)], fun j hj => by
                show _ = nI (if j = i then k else ch j)
                by_cases h : j = i
                · subst h; rw [u2_same, if_pos rfl]
                · rw [u2_col _ _ h, if_neg h, h5 j (by omega)], by rw [u2_row _ _ (by decide), u2_row _ _ (by decide), h50], by rw [u2_row _ _ (by decide), u2_row _ _ (by decide), h51]⟩
              rw [y1, y2, obs, obs]
              obtain ⟨z1, z2, z3, z4, z5, z6⟩ := y3
              refine ⟨_, _, rfl, rfl, (nI_succ k).symm, (nI_succ k).symm, z1, z2, fun j hj => ?_, fun j hj => ?_, z5, z6⟩
              · have := z3 j (by omega)
                rw [show ch' j = ch j from if_neg (by omega)] at this
                exact this
              · have := z4 j (by omega)
                rw [show ch' j = ch j from if_neg (by omega)] at this
                exact this
            · have w1 : (if s_may1 C k then (1 : Int32) else 0) = 0 := if_neg c2
              rw [w1, if_pos rfl, if_neg (fun h => h rfl)]
              exact ⟨_, _, rfl, rfl, (nI_succ k).symm, (nI_succ k).symm, t3⟩)
        (fun s t hR => by
          obtain ⟨v, B, R⟩ := s
          obtain ⟨w, M⟩ := t
          obtain ⟨r1, r2, r3⟩ := hR
          have r1 : v = nI (C 0 3) := r1
          have r2 : w = nI (C 0 3) := r2
          subst r1; subst r2
          show ∃ s' t', f_Rings_extend_B_l40 H (nI used) (nI i) (f_grp_ce n) (nI (C 0 3)) B R = _ ∧ f_M_goesRound_B_l89 A (nI used) (nI i) (f_grp_mg n) (nI many) (nI (C 0 3)) M = _ ∧ _
          unfold f_Rings_extend_B_l40 f_M_goesRound_B_l89
          rw [h03, n3, if_pos (nI_le (Nat.le_refl _) (by omega)), if_pos (nI_le (Nat.le_refl _) (by omega))]
          exact ⟨(B, R), M, rfl, rfl, r3⟩)
        fr hfr (nI fr, B, R) (nI fr, M) ⟨rfl, rfl, hB, h3, h1, h5, h50, h51⟩
      obtain ⟨B', R'⟩ := b
      rw [b1, b2, obs, obs]
      exact ⟨B', R', c, rfl, rfl, b3⟩
theorem T_rings {C : CS} {Y H NS A BO RG MS : Nat → Nat → Int32} {r5 hm : Nat} (h : RL C Y H NS A) (hP : WFP C) (p1 p2 : Int32) : TG C H NS (f_Y_rings Y H NS BO RG hm r5 p1 p2) (f_M_rings A MS p1 p2) cd1 (fun k => k = 2) := by
  have h' := h.thr 0
  obtain ⟨hW, hY, hH, hS, hM, hQ⟩ := h'
  have hA : (u2 A 0 0 0) 0 0 = 0 := thr_0 A 0
  unfold f_Y_rings f_M_rings
  generalize u2 A 0 0 0 = A at hM hQ hA ⊢
  have h' : RL C Y H NS A := ⟨hW, hY, hH, hS, hM, hQ⟩
  have z1 : ((1 : Int32) ≠ 0) = True := by simp
  have z10 : ((1 : Int32) = 0) = False := by simp
  have n20 : ((2 : Nat) = 0) = False := by simp
  have refM : ∀ (f : Int32 × (Nat → Nat → Int32) → Option (Int32 × (Nat → Nat → Int32) × (Nat → Nat → Int32))), (f_M_may A 0 1 1).bind f = f (0, mRef A 1 1) := fun f => by
    show (f_M_may A 0 1 (nI 1)).bind f = _
    rw [M_may_out hA (by decide) (by omega), obs]
  unfold f_M_within
  by_cases c1 : p1 < 2
  · simp only [c1, if_true, obs, se_l, zb_0, Y_ref_out, n20, if_false, refM, ne_eq, not_true]
    exact TG.ref (B := BO) (G := RG) (S := MS) (r := r5) 1 (by omega) h' rfl rfl rfl
  · by_cases c2 : 4 < p1
    · simp only [c1, c2, if_true, obs, se_l, zb_0, Y_ref_out, n20, if_false, refM, ne_eq, not_true]
      exact TG.ref (B := BO) (G := RG) (S := MS) (r := r5) 1 (by omega) h' rfl rfl rfl
    · by_cases c3 : p2 < 0
      · simp only [c1, c2, c3, if_true, obs, se_l, zb_0, zb_1, z10, Y_ref_out, n20, if_false, refM, ne_eq, not_true]
        exact TG.ref (B := BO) (G := RG) (S := MS) (r := r5) 1 (by omega) h' rfl rfl rfl
      · by_cases c4 : 1 < p2
        · simp only [c1, c2, c3, c4, if_true, obs, se_l, zb_0, zb_1, z10, Y_ref_out, n20, if_false, refM, ne_eq, not_true]
          exact TG.ref (B := BO) (G := RG) (S := MS) (r := r5) 1 (by omega) h' rfl rfl rfl
        · obtain ⟨B', b1, b2⟩ := T_look BO hW hH hS
          obtain ⟨j, hj, rfl⟩ := nI_of_nn (n := p1) (fun hn => c1 (by
            rw [Int32.lt_iff_toInt_lt] at hn ⊢
            have : (0 : Int32).toInt = 0 := by decide
            have h1 : (2 : Int32).toInt = 2 := by decide
            omega))
          have hj4 : j ≤ 4 := by
            have : ¬ (4 < j) := fun h => c2 ((na_lt (a := 4) (by omega) hj).mpr h)
            omega
          have hj2 : 2 ≤ j := by
            have : ¬ (j < 2) := fun h => c1 ((na_lt (b := 2) hj (by omega)).mpr h)
            omega
          obtain ⟨B2, R2, M2, y1, y2, y3⟩ := rings_rec (tm := C 16) (H := H) (A := A) hW hP hH hM (many := j) (by omega) hj4 12 0 0 (fun _ => 0) B' (u2 (u2 (u2 RG 0 3 (nI j)) 0 4 0) 0 5 (-1)) (u2 (u2 MS 0 50 0) 0 51 (-1)) (Nat.zero_le _) (by omega) (fun j hj => by omega) (Nat.two_pow_pos _) ⟨b2, rfl, fun j hj => by omega, fun j hj => by omega, rfl, rfl⟩
          have y1 : f_grp_ce 12 0 H B' (u2 (u2 (u2 RG 0 3 (nI j)) 0 4 0) 0 5 (-1)) 0 0 = some (B2, R2) := y1
          have y2 : f_grp_mg 12 0 A (u2 (u2 MS 0 50 0) 0 51 (-1)) 0 (nI j) 0 = some M2 := y2
          simp only [c1, c2, c3, c4, if_false, obs, se_r, zb_1, z10, Y_ref_in, M_may_in hA, z1, if_true, b1]
          unfold f_Rings_search f_Math_min
          rw [if_neg c2, obs, y1, obs, obs, y2, obs]
          by_cases c5 : p2 = 0
          · rw [if_neg (fun h => h c5), if_neg (fun h => h c5)]
            exact TG.ans (B := B2) (G := R2) (S := M2) (r := hm) (M2 0 50) h' hA rfl (by show some (0, R2 0 4, Y, B2, R2, hm) = _; rw [y3.2.2.2.2.1]) rfl
          · rw [if_pos c5, if_pos c5]
            exact TG.ans (B := B2) (G := R2) (S := M2) (r := hm) (M2 0 51) h' hA rfl (by show some (0, R2 0 5, Y, B2, R2, hm) = _; rw [y3.2.2.2.2.2]) rfl
