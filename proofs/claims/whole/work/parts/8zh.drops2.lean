/-! PURE MATH: drops, the class; both -/
/-- the table of those whom two have in common, the pairs up to (p, q) being done -/
def PT (C : CS) (p q c : Nat) (pl tm : Nat → Nat) (B : Nat → Nat → Int32) : Prop := RB C pl tm B ∧ (∀ x y, x < y → y < C 0 2 → (x < p ∨ (x = p ∧ y < q)) → s_both C x y ≠ 0 → ∃ j, j < c ∧ B 4 j = nI (s_both C x y)) ∧ (∀ j, j < c → ∃ x y, x < y ∧ y < C 0 2 ∧ s_both C x y ≠ 0 ∧ B 4 j = nI (s_both C x y))
theorem both_lt {C : CS} (hW : WFC C) (p q : Nat) : s_both C p q < 1024 := bs_lt10 _ hW.2.2.2.1
theorem Y_common {C : CS} {H B : Nat → Nat → Int32} {tm : Nat → Nat} (hW : WFC C) (hH : RH C H) (hB : RB C (C 15) tm B) : ∃ c B', f_Board_collectCommon H B = some (nI c, B') ∧ c ≤ 64 ∧ PT C (C 0 2) 0 c (C 15) tm B' := by
  have hN := hW.2.2.2.1
  have hP := hW.2.2.1
  have h02 : H 0 2 = nI (C 0 2) := hH 0 2 (show 2 < 6 by omega)
  unfold f_Board_collectCommon
  rw [Y_placed hW hH hB hW.plan, obs]
  have e := loop_rel (body := fun q : Int32 × Int32 × (Nat → Nat → Int32) => f_Board_collectCommon_l9 H (nI (bs (fun m => C 15 m ≠ 0) (C 0 3))) q.1 q.2.1 q.2.2) (C 0 2)
    (fun p s => ∃ c, s.1 = nI c ∧ s.2.1 = nI p ∧ c ≤ 8 * p ∧ PT C p 0 c (C 15) tm s.2.2) (fun b => ∃ c, b.1 = nI c ∧ c ≤ 64 ∧ PT C (C 0 2) 0 c (C 15) tm b.2) (by omega)
    (fun p s hp hR => by
      obtain ⟨v, w, D⟩ := s
      obtain ⟨c, r1, r2, r3, r4⟩ := hR
      have r1 : v = nI c := r1
      have r2 : w = nI p := r2
      have t4 : PT C p 0 c (C 15) tm D := r4
      clear r4
      subst r1; subst r2
      show ∃ s', f_Board_collectCommon_l9 H (nI (bs (fun m => C 15 m ≠ 0) (C 0 3))) (nI c) (nI p) D = _ ∧ _
      unfold f_Board_collectCommon_l9
      rw [h02, if_neg (nI_ge hp (by omega))]
      have e2 := loop_two (f := fun q : Int32 × Int32 × (Nat → Nat → Int32) => f_Board_collectCommon_l25 H (nI p) (nI (bs (fun m => C 15 m ≠ 0) (C 0 3))) q.1 q.2.1 q.2.2) (g := fun q : Nat => if q < C 0 2 then some (.inl (q + 1) : Nat ⊕ Nat) else some (.inr q)) (C 0 2)
        (fun q s t => ∃ c, s.1 = nI c ∧ s.2.1 = nI q ∧ c + (p + 1) ≤ 8 * p + q ∧ t = q ∧ p < q ∧ PT C p q c (C 15) tm s.2.2) (fun b _ => ∃ c, b.1 = nI c ∧ c ≤ 8 * p + 8 ∧ PT C (p + 1) 0 c (C 15) tm b.2) (by omega)
        (fun q s t hq hR => by
          obtain ⟨v, w, D⟩ := s
          obtain ⟨c, r1, r2, r3, r4, r6, r5⟩ := hR
          have r1 : v = nI c := r1
          have r2 : w = nI q := r2
          have t5 : PT C p q c (C 15) tm D := r5
          clear r5
          subst r1; subst r2; subst r4
          have hbl := both_lt hW p t
          have hb : (nI (bs (fun m => (C 8 m).testBit p = true) (C 0 3)) &&& nI (bs (fun m => (C 8 m).testBit t = true) (C 0 3))) &&& nI (bs (fun m => C 15 m ≠ 0) (C 0 3)) = nI (s_both C p t) := by
            rw [na_and, na_and, bs_and, bs_and]
            unfold s_both
            congr 1
            exact bs_congr (fun m _ => ⟨fun h => ⟨⟨h.2, h.1.1⟩, h.1.2⟩, fun h => ⟨⟨h.1.2, h.2⟩, h.1.1⟩⟩)
          have hb0 : (nI (s_both C p t) = 0) = (s_both C p t = 0) := nI_eqP (b := 0) (by omega) (by omega)
          show ∃ s' t', f_Board_collectCommon_l25 H (nI p) (nI (bs (fun m => C 15 m ≠ 0) (C 0 3))) (nI c) (nI t) D = _ ∧ _ ∧ _
          unfold f_Board_collectCommon_l25
          rw [h02, if_neg (nI_ge hq (by omega)), Y_meetingsOf hW hH (by omega), obs, Y_meetingsOf hW hH (by omega), obs, hb]
          simp only [hb0]
          obtain ⟨k1, k2, k3⟩ := t5
          by_cases c1 : s_both C p t = 0
          · rw [if_pos c1, if_pos hq]
            refine ⟨_, _, rfl, rfl, c, rfl, (nI_succ t).symm, by omega, rfl, by omega, k1, fun x y hxy hy hd hn => ?_, k3⟩
            by_cases he : x = p ∧ y = t
            · exfalso; rw [he.1, he.2] at hn; exact hn c1
            · exact k2 x y hxy hy (by omega) hn
          · rw [if_neg c1, if_neg (show ¬ Int32.ofNat 64 ≤ nI c from fun h => by have := (na_le (a := 64) (by omega) (by omega)).mp h; omega), ixx_nI (by omega) (by omega), obs, if_pos hq]
            refine ⟨_, _, rfl, rfl, c + 1, (nI_succ c).symm, (nI_succ t).symm, by omega, rfl, by omega, ?_, fun x y hxy hy hd hn => ?_, fun j hj => ?_⟩
            · obtain ⟨m1, m2, m3⟩ := k1
              exact ⟨fun m hm => by
                show u2 D 4 c (nI (s_both C p t)) 1 m = _
                rw [u2_row _ _ (by decide), m1 m hm], fun m hm => by
                show u2 D 4 c (nI (s_both C p t)) 2 m = _
                rw [u2_row _ _ (by decide), m2 m hm], fun r hr => by
                show u2 D 4 c (nI (s_both C p t)) 3 r = _
                rw [u2_row _ _ (by decide), m3 r hr]⟩
            · by_cases he : x = p ∧ y = t
              · exact ⟨c, by omega, by
                  show u2 D 4 c (nI (s_both C p t)) 4 c = _
                  rw [u2_same, he.1, he.2]⟩
              · obtain ⟨j, j1, j2⟩ := k2 x y hxy hy (by omega) hn
                exact ⟨j, by omega, by
                  show u2 D 4 c (nI (s_both C p t)) 4 j = _
                  rw [u2_col _ _ (by omega), j2]⟩
            · by_cases he : j = c
              · refine ⟨p, t, by omega, hq, c1, ?_⟩
                show u2 D 4 c (nI (s_both C p t)) 4 j = _
                rw [he, u2_same]
              · have hj' : j < c + 1 := hj
                obtain ⟨x, y, z1, z2, z3, z4⟩ := k3 j (Nat.lt_of_le_of_ne (Nat.le_of_lt_succ hj') he)
                refine ⟨x, y, z1, z2, z3, ?_⟩
                show u2 D 4 c (nI (s_both C p t)) 4 j = _
                rw [u2_col _ _ he, z4])
        (fun s t hR => by
          obtain ⟨v, w, D⟩ := s
          obtain ⟨c, r1, r2, r3, r4, r6, r5⟩ := hR
          have r1 : v = nI c := r1
          have r2 : w = nI (C 0 2) := r2
          have t5 : PT C p (C 0 2) c (C 15) tm D := r5
          clear r5
          subst r1; subst r2; subst r4
          show ∃ s' t', f_Board_collectCommon_l25 H (nI p) (nI (bs (fun m => C 15 m ≠ 0) (C 0 3))) (nI c) (nI (C 0 2)) D = _ ∧ _ ∧ _
          unfold f_Board_collectCommon_l25
          rw [h02, if_pos (nI_le (Nat.le_refl _) (by omega)), if_neg (by omega)]
          exact ⟨(nI c, D), C 0 2, rfl, rfl, c, rfl, by omega, t5.1, fun x y hxy hy hd hn => t5.2.1 x y hxy hy (by omega) hn, t5.2.2⟩)
        (p + 1) (by omega) (nI c, nI p + 1, D) (p + 1) ⟨c, rfl, (nI_succ p).symm, by omega, rfl, by omega, t4.1, fun x y hxy hy hd hn => t4.2.1 x y hxy hy (by omega) hn, t4.2.2⟩
      obtain ⟨⟨bv, bD⟩, _, b1, _, c', d1, d2, d3⟩ := e2
      have d1 : bv = nI c' := d1
      subst d1
      rw [b1, obs]
      exact ⟨_, rfl, c', rfl, (nI_succ p).symm, by omega, d3⟩)
    (fun s hR => by
      obtain ⟨v, w, D⟩ := s
      obtain ⟨c, r1, r2, r3, r4⟩ := hR
      have r1 : v = nI c := r1
      have r2 : w = nI (C 0 2) := r2
      subst r1; subst r2
      show ∃ b, f_Board_collectCommon_l9 H (nI (bs (fun m => C 15 m ≠ 0) (C 0 3))) (nI c) (nI (C 0 2)) D = _ ∧ _
      unfold f_Board_collectCommon_l9
      rw [h02, if_pos (nI_le (Nat.le_refl _) (by omega))]
      exact ⟨(nI c, D), rfl, c, rfl, by omega, r4⟩)
    (0, 0, B) ⟨0, rfl, rfl, Nat.zero_le _, hB, fun x y _ _ hd _ => by omega, fun j hj => by omega⟩
  obtain ⟨⟨bv, bD⟩, b1, c, d1, d2, d3⟩ := e
  have d1 : bv = nI c := d1
  subst d1
  rw [b1, obs]
  exact ⟨c, bD, rfl, d2, d3⟩
theorem Y_kept {C : CS} {B : Nat → Nat → Int32} {tm : Nat → Nat} {c : Nat} (hW : WFC C) (hc : c ≤ 64) (hT : PT C (C 0 2) 0 c (C 15) tm B) (w : Nat) : (s_keep C w → f_Board_pairsKeptWithout B (nI w) (nI c) = some 1) ∧ (¬ s_keep C w → f_Board_pairsKeptWithout B (nI w) (nI c) = some 0) := by
  have hN := hW.2.2.2.1
  have e := loop_first (body := fun q => f_Board_pairsKeptWithout_l2 B (nI c) (nI w) q) c (fun j => (B 4 j &&& (nI w ^^^ (-1))) = 0) (fun _ => (0 : Int32)) (by omega)
    (fun i hi hp => by
      show f_Board_pairsKeptWithout_l2 B (nI c) (nI w) (nI i) = _
      unfold f_Board_pairsKeptWithout_l2
      rw [if_neg (nI_ge hi (by omega)), if_neg (show ¬ Int32.ofNat 64 ≤ nI i from fun h => by have := (na_le (a := 64) (by omega) (by omega)).mp h; omega), rdx_nI (by omega) (by omega), obs, if_neg (fun h => h hp), zb_0])
    (fun i hi hp => by
      show f_Board_pairsKeptWithout_l2 B (nI c) (nI w) (nI i) = _
      unfold f_Board_pairsKeptWithout_l2
      rw [if_neg (nI_ge hi (by omega)), if_neg (show ¬ Int32.ofNat 64 ≤ nI i from fun h => by have := (na_le (a := 64) (by omega) (by omega)).mp h; omega), rdx_nI (by omega) (by omega), obs, if_pos hp])
    (by
      show f_Board_pairsKeptWithout_l2 B (nI c) (nI w) (nI c) = _
      unfold f_Board_pairsKeptWithout_l2
      rw [if_pos (nI_le (Nat.le_refl _) (by omega))])
  have hz : ∀ x y, ((nI (s_both C x y) &&& (nI w ^^^ (-1))) = 0) ↔ ¬ ∃ m, m < C 0 3 ∧ ((C 15 m ≠ 0 ∧ (C 8 m).testBit x = true) ∧ (C 8 m).testBit y = true) ∧ ¬ w.testBit m = true := fun x y => by
    rw [na_not, na_and]
    unfold s_both
    rw [bs_diff _ (by omega)]
    have hl := bs_lt10 (fun i => ((C 15 i ≠ 0 ∧ (C 8 i).testBit x = true) ∧ (C 8 i).testBit y = true) ∧ ¬ w.testBit i = true) hN
    refine (na_eq (b := 0) (by omega) (by omega)).trans ?_
    rw [← bs_ne0]
    exact ⟨fun h g => g h, fun h => Decidable.not_not.mp h⟩
  have hq := s_first_some (p := fun j => (B 4 j &&& (nI w ^^^ (-1))) = 0) c 0
  unfold f_Board_pairsKeptWithout
  rw [show ((0 : Int32)) = nI 0 from rfl]
  have e' : loopN (fun q => f_Board_pairsKeptWithout_l2 B (nI c) (nI w) q) a_F (nI 0) = _ := e
  rw [e', obs]
  cases hf : s_first (fun j => (B 4 j &&& (nI w ^^^ (-1))) = 0) c 0 with
  | none =>
    rw [hf] at hq
    refine ⟨fun _ => by rw [se_l, zb_1], fun hn => absurd (fun p q hpq hq2 hb => Classical.byContradiction fun hne => ?_) hn⟩
    obtain ⟨j, j1, j2⟩ := hT.2.1 p q hpq hq2 (Or.inl (by omega)) hb
    have := hq.mpr ⟨j, by omega, by omega, by show (B 4 j &&& _) = 0; rw [j2]; exact (hz p q).mpr hne⟩
    cases this
  | some i =>
    rw [hf] at hq
    obtain ⟨i, i0, i1, i2⟩ := hq.mp rfl
    obtain ⟨x, y, z1, z2, z3, z4⟩ := hT.2.2 i (by omega)
    refine ⟨fun hy => absurd (hy x y z1 z2 z3) ((hz x y).mp (by rw [← z4]; exact i2)), fun _ => by rw [se_r]; rfl⟩
theorem T_drops {C : CS} {Y H NS A BO MS : Nat → Nat → Int32} (h : RL C Y H NS A) (hB : WFM C) : ∃ v B' MS', f_Y_drops H NS BO = some (v, B') ∧ f_M_drops A MS = some (v, u2 A 0 0 0, MS') := by
  obtain ⟨hW, hY, hH, hS, hM, hQ⟩ := h.thr 0
  have hN := hW.2.2.2.1
  have h03 : H 0 3 = nI (C 0 3) := hH 0 3 (show 3 < 6 by omega)
  have n3 : (u2 A 0 0 0) 0 26 = nI (C 0 3) := hM.n (j := 3) (by omega)
  have hpow : 2 ^ C 0 3 ≤ 1024 := Nat.le_trans (Nat.pow_le_pow_right (by omega) hN) (by decide : 2 ^ 10 ≤ 1024)
  have hpos : 1 ≤ 2 ^ C 0 3 := Nat.two_pow_pos _
  obtain ⟨B1, b1, b2⟩ := T_look BO hW hH hS
  obtain ⟨c, B2, c1, c2, c3⟩ := Y_common hW hH b2
  obtain ⟨M1, m1, m2, _⟩ := M_meets (MS := MS) (w := 0) hW hM (by omega)
  have m1 : f_M_findMeets (u2 A 0 0 0) MS 0 = some M1 := m1
  have e5 : H 0 5 = nI (bs (fun m => C 10 m = 1) (C 0 3)) := hH 0 5 (show 5 < 6 by omega)
  -- may these go, the class
  have hgo : ∀ w, w < 2 ^ C 0 3 → ((nI w &&& ((nI (bs (fun m => C 15 m ≠ 0) (C 0 3)) &&& (H 0 5 ^^^ (-1))) ^^^ (-1))) = 0 ↔ s_mgo C w) := fun w hw => by
    rw [e5, na_not, na_and, bs_diff _ (by omega), na_not, na_and]
    have hle : w &&& (bs (fun i => C 15 i ≠ 0 ∧ ¬ (bs (fun m => C 10 m = 1) (C 0 3)).testBit i = true) (C 0 3) ^^^ 4294967295) ≤ w := Nat.and_le_left
    refine (na_eq (b := 0) (by omega) (by omega)).trans ?_
    have hfix : ∀ m, m < C 0 3 → ((bs (fun m => C 10 m = 1) (C 0 3)).testBit m = true ↔ C 10 m = 1) := fun m hm => by
      rw [bs_bit, decide_eq_true_eq]; exact ⟨fun h => h.2, fun h => ⟨hm, h⟩⟩
    constructor
    · intro h0 m hm hb
      have hbit := congrArg (fun x => x.testBit m) h0
      simp only [Nat.testBit_and, Nat.testBit_xor, ones_bit, Nat.zero_testBit, hb, Bool.true_and, bs_bit] at hbit
      have h32 : m < 32 := by omega
      have hf := hW.fixed m
      have hx := hfix m hm
      rw [bs_bit] at hx
      by_cases d1 : C 15 m ≠ 0 ∧ C 10 m = 0
      · exact d1
      · exfalso
        have : ¬ (m < C 0 3 ∧ C 15 m ≠ 0 ∧ ¬ decide (m < C 0 3 ∧ C 10 m = 1) = true) := fun g => d1 ⟨g.2.1, by
          have := mt hx.mpr g.2.2
          omega⟩
        rw [decide_eq_false this] at hbit
        simp [h32] at hbit
    · intro hg
      apply Nat.eq_of_testBit_eq
      intro i
      rw [Nat.testBit_and, Nat.testBit_xor, ones_bit, Nat.zero_testBit]
      by_cases hi : i < C 0 3
      · by_cases hb : w.testBit i = true
        · obtain ⟨g1, g2⟩ := hg i hi hb
          have hx := hfix i hi
          have : (bs (fun i => C 15 i ≠ 0 ∧ ¬ (bs (fun m => C 10 m = 1) (C 0 3)).testBit i = true) (C 0 3)).testBit i = true := by
            rw [bs_bit, decide_eq_true_eq]
            exact ⟨hi, g1, fun h => by have := hx.mp h; omega⟩
          rw [this, hb]
          have h32 : i < 32 := by omega
          simp [h32]
        · rw [Bool.not_eq_true] at hb; rw [hb]; rfl
      · rw [Nat.testBit_lt_two_pow (Nat.lt_of_lt_of_le hw (Nat.pow_le_pow_right (by omega) (by omega)))]; rfl
  have e := loop_two (f := fun q : Int32 × Int32 => f_Board_mostDrops_l25 H (nI (bs (fun m => C 15 m ≠ 0) (C 0 3))) B2 (nI c) q.1 q.2) (g := fun q : Int32 × Int32 × (Nat → Nat → Int32) => f_M_drops_l18 A q.1 q.2.1 q.2.2) (2 ^ C 0 3)
    (fun i s t => ∃ best, best < 2 ^ C 0 3 ∧ s.1 = nI best ∧ s.2 = nI i ∧ t.1 = nI best ∧ t.2.1 = nI i ∧ ∀ p, p < 8 → t.2.2 7 p = nI (s_mt C 0 p (C 0 3)))
    (fun b c => b = c.1) (by omega)
    (fun i s t hi hR => by
      obtain ⟨v, w⟩ := s
      obtain ⟨v', w', M⟩ := t
      obtain ⟨best, hbest, r1, r2, r3, r4, r5⟩ := hR
      have r1 : v = nI best := r1
      have r2 : w = nI i := r2
      have r3 : v' = nI best := r3
      have r4 : w' = nI i := r4
      have t5 : ∀ p, p < 8 → M 7 p = nI (s_mt C 0 p (C 0 3)) := r5
      clear r5
      subst r1; subst r2; subst r3; subst r4
      have hp1 := pc_le i 10
      have hp2 := pc_le best 10
      show ∃ s' t', f_Board_mostDrops_l25 H (nI (bs (fun m => C 15 m ≠ 0) (C 0 3))) B2 (nI c) (nI best) (nI i) = _ ∧ f_M_drops_l18 A (nI best) (nI i) M = _ ∧ _
      unfold f_Board_mostDrops_l25 f_M_drops_l18
      rw [h03, n3, shl_1 _ (by omega), if_neg (nI_ge hi (by omega)), if_neg (nI_ge hi (by omega)), bc_nI (by omega), obs, bc_nI (by omega), obs, M_ones (by omega), obs, M_ones (by omega), obs]
      simp only [show (nI (pc i 10) ≤ nI (pc best 10)) = (pc i 10 ≤ pc best 10) from propext (na_le (by omega) (by omega))]
      by_cases d1 : pc i 10 ≤ pc best 10
      · rw [if_pos d1, if_pos d1, obs, if_pos (show (0 : Int32) = 0 from rfl)]
        refine ⟨_, _, ite_self _, rfl, best, hbest, rfl, (nI_succ i).symm, rfl, (nI_succ i).symm, t5⟩
      · rw [if_neg d1, if_neg d1, obs, if_neg (show ¬ (1 : Int32) = 0 by decide)]
        have hcm := M_canMove hW hM (w := i) (by omega)
        by_cases d2 : s_mgo C i
        · rw [if_neg (fun h => h ((hgo i hi).mpr d2)), hcm.1 d2, obs, if_pos (show (1 : Int32) ≠ 0 by decide)]
          obtain ⟨M3, x1, x2, x3⟩ := M_meets_2 (MS := M) (w := i) hW hM (by omega)
          have t7 : ∀ p, p < 8 → M3 7 p = nI (s_mt C 0 p (C 0 3)) := fun p hp => by rw [x3 7 p (by decide), t5 p hp]
          have hen := M_enough hW hB t7 x2
          have hke := Y_kept hW c2 c3 i
          rw [x1, obs]
          by_cases d3 : s_keep C i
          · rw [hke.1 d3, hen.1 d3, obs, obs, if_neg (show ¬ (1 : Int32) = 0 by decide), if_neg (show ¬ (1 : Int32) = 0 by decide)]
            exact ⟨_, _, rfl, rfl, i, hi, rfl, (nI_succ i).symm, rfl, (nI_succ i).symm, t7⟩
          · rw [hke.2 d3, hen.2 d3, obs, obs, if_pos (show (0 : Int32) = 0 from rfl), if_pos (show (0 : Int32) = 0 from rfl)]
            exact ⟨_, _, rfl, rfl, best, hbest, rfl, (nI_succ i).symm, rfl, (nI_succ i).symm, t7⟩
        · rw [if_pos (fun h => d2 ((hgo i hi).mp h)), hcm.2 d2, obs, if_neg (show ¬ ((0 : Int32) ≠ 0) by decide)]
          exact ⟨_, _, rfl, rfl, best, hbest, rfl, (nI_succ i).symm, rfl, (nI_succ i).symm, t5⟩)
    (fun s t hR => by
      obtain ⟨v, w⟩ := s
      obtain ⟨v', w', M⟩ := t
      obtain ⟨best, hbest, r1, r2, r3, r4, r5⟩ := hR
      have r1 : v = nI best := r1
      have r2 : w = nI (2 ^ C 0 3) := r2
      have r3 : v' = nI best := r3
      have r4 : w' = nI (2 ^ C 0 3) := r4
      subst r1; subst r2; subst r3; subst r4
      show ∃ s' t', f_Board_mostDrops_l25 H (nI (bs (fun m => C 15 m ≠ 0) (C 0 3))) B2 (nI c) (nI best) (nI (2 ^ C 0 3)) = _ ∧ f_M_drops_l18 A (nI best) (nI (2 ^ C 0 3)) M = _ ∧ _
      unfold f_Board_mostDrops_l25 f_M_drops_l18
      rw [h03, n3, shl_1 _ (by omega), if_pos (nI_le (Nat.le_refl _) (by omega)), if_pos (nI_le (Nat.le_refl _) (by omega))]
      exact ⟨_, _, rfl, rfl, rfl⟩)
    1 hpos (0, 1) (0, 1, M1) ⟨0, by omega, rfl, rfl, rfl, rfl, m2⟩
  obtain ⟨b, d, f1, f2, f3⟩ := e
  refine ⟨b, B2, d.2, ?_, ?_⟩
  · unfold f_Y_drops f_Board_mostDrops
    rw [b1, obs, c1, obs]
    show ((f_Board_placed H B2).bind _).bind _ = _
    rw [Y_placed hW hH c3.1 hW.plan, obs]
    show ((loopN (fun q => f_Board_mostDrops_l25 H (nI (bs (fun m => C 15 m ≠ 0) (C 0 3))) B2 (nI c) q.1 q.2) a_F (0, 1)).bind _).bind _ = _
    rw [f1, obs, obs]
  · unfold f_M_drops
    rw [m1, obs, f2, obs, f3]
