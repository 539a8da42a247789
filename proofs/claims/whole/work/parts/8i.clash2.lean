/-! PURE MATH: clashes, both sides -/
theorem s_held_lt {C : CS} (hW : WFC C) (r n : Nat) : s_held C r n < 2 ^ 10 := by
  induction n with
  | zero => exact Nat.two_pow_pos _
  | succ n ih =>
    unfold s_held
    refine Nat.or_lt_two_pow ih ?_
    split
    · have := hW.hplace n
      exact Nat.pow_lt_pow_right (by omega) (by omega)
    · exact Nat.two_pow_pos _
theorem Y_isHeldPlace {C : CS} {BO : Nat → Nat → Int32} {pl tm : Nat → Nat} (hW : WFC C) (hB : RB C pl tm BO) {k : Nat} (hk : k < 30) : f_Board_isHeldPlace BO (nI k) = some (if (s_held C (k % 3) (C 0 4)).testBit (k / 3) = true then 1 else 0) := by
  obtain ⟨q1, q2⟩ := nI_hr k hk
  have hl := s_held_lt hW (k % 3) (C 0 4)
  obtain ⟨a1, a2⟩ := bitq (x := s_held C (k % 3) (C 0 4)) (j := k / 3) (by omega) (by omega)
  unfold f_Board_isHeldPlace f_Y_roomOf f_Y_hourOf
  rw [obs, q2, rdx_nI (by omega) (by omega), hB.2.2 _ (by omega), obs, obs, q1]
  simp only [a1]
  by_cases h : (s_held C (k % 3) (C 0 4)).testBit (k / 3) = true
  · rw [if_neg (fun h2 => h2 h), if_pos h]; rfl
  · rw [if_pos h, if_neg h]; rfl
theorem bs_lt10 (p : Nat → Prop) [DecidablePred p] {n : Nat} (hn : n ≤ 10) : bs p n < 1024 := Nat.lt_of_lt_of_le (bs_lt p n) (Nat.pow_le_pow_right (by omega) hn)
theorem two_parts {R P : Nat} (hR : R < 1024) (hP : P < 1024) : (nI (R * 1024 ||| P) &&& 1023 = nI P) ∧ a_shr (nI (R * 1024 ||| P)) (nI 10) = nI R ∧ R * 1024 ||| P = R * 1024 + P := by
  have h := Nat.two_pow_add_eq_or_of_lt (i := 10) (b := P) (by omega) R
  have h2 : R * 1024 ||| P = R * 1024 + P := by rw [show R * 1024 = 2 ^ 10 * R from by omega, ← h]
  refine ⟨?_, ?_, h2⟩
  · rw [show (1023 : Int32) = nI (2 ^ 10 - 1) from rfl, na_and, Nat.and_two_pow_sub_one_eq_mod, h2, show (R * 1024 + P) % 2 ^ 10 = P from by omega]
  · rw [shr_nI (by omega) (by omega), Nat.shiftRight_eq_div_pow, h2, show (R * 1024 + P) / 2 ^ 10 = R from by omega]
theorem s_last_lt (C : CS) (m k : Nat) : s_last C m k < 2 ^ 5 := by
  unfold s_last
  refine Nat.or_lt_two_pow (Nat.or_lt_two_pow ?_ ?_) ?_ <;> split <;> decide
theorem s_clash_lt (C : CS) (pl : Nat → Nat) (m k : Nat) : s_clash C pl m k < 2 ^ 5 := by
  unfold s_clash s_or
  refine Nat.or_lt_two_pow (Nat.or_lt_two_pow (Nat.or_lt_two_pow (s_last_lt C m k) ?_) ?_) ?_ <;> split <;> decide
theorem Y_clashes {C : CS} {H BO : Nat → Nat → Int32} {pl tm : Nat → Nat} (hW : WFC C) (hH : RH C H) (hB : RB C pl tm BO) (hpl : ∀ m, pl m ≤ 30) {m k : Nat} (hm : m < C 0 3) (hk : k < 30) (hr : k % 3 < C 0 1) :
    f_Board_clashes H BO (nI m) (nI k) = some (nI (s_clash C pl m k)) := by
  have hN := hW.2.2.2.1
  have lP := bs_lt10 (s_wP C pl m k) hN
  have lR := bs_lt10 (s_wR C pl m k) hN
  obtain ⟨t1, t2, t3⟩ := two_parts lR lP
  have z10 : ((1 : Int32) = 0) = False := by simp
  have e0 : (nI (bs (s_wP C pl m k) (C 0 3)) = 0) = (bs (s_wP C pl m k) (C 0 3) = 0) := nI_eqP (b := 0) (by omega) (by omega)
  have e1 : (nI (bs (s_wR C pl m k) (C 0 3)) = 0) = (bs (s_wR C pl m k) (C 0 3) = 0) := nI_eqP (b := 0) (by omega) (by omega)
  unfold f_Board_clashes
  rw [show (10 : Int32) = nI 10 from rfl]
  simp only [Y_lasting hW hH hm hk hr, Y_others hW hH hB hpl hm hk, obs, t1, t2, Y_isHeldPlace hW hB hk, e0, e1, ne_eq]
  have n4 : ∀ x, nI x ||| 4 = nI (x ||| 4) := fun x => na_or x 4
  have n8 : ∀ x, nI x ||| 8 = nI (x ||| 8) := fun x => na_or x 8
  unfold s_clash s_or
  by_cases h1 : bs (s_wP C pl m k) (C 0 3) = 0 <;> by_cases h2 : bs (s_wR C pl m k) (C 0 3) = 0 <;> by_cases h3 : (s_held C (k % 3) (C 0 4)).testBit (k / 3) = true
  all_goals
    simp only [h1, h2, h3, if_true, if_false, not_true, not_false_eq_true, obs, ne_eq, se_l, se_r, z10, Bool.false_eq_true, Nat.or_zero, n4, n8, Nat.or_assoc, Nat.reduceOr]
/-- the reference -/
theorem M_own {C : CS} {A : Nat → Nat → Int32} (hW : WFC C) (hM : RMo C A) {m k : Nat} (hm : m < C 0 3) (hk : k < 30) (hr : k % 3 < C 0 1) : f_M_ownClash A (nI m) (nI k) = some (nI (s_last C m k ||| (if (s_held C (k % 3) (C 0 4)).testBit (k / 3) = true then 8 else 0))) := by
  have hN := hW.2.2.2.1
  obtain ⟨q1, q2⟩ := nI_hr k hk
  have hx := hW.mem m
  have hs := hW.size (k % 3)
  have hp := pc_le (C 8 m) 10
  have r2 : rdx (A 5) 60 (6 * nI m + 2) = some (nI (C 8 m)) := by rw [show (2 : Int32) = nI 2 from rfl, ix6, rdx_nI (by omega) (by omega), hM.meet hm 2 (by omega)]; rfl
  have r3 : rdx (A 3) 3 (nI (k % 3)) = some (nI (C 1 (k % 3))) := by rw [rdx_nI (by omega) (by omega), hM 3 (k % 3) hr]; rfl
  obtain ⟨a1, a2⟩ := bitq (x := s_may C m) (j := k / 3) (by have := s_may_lt hW m; omega) (by omega)
  obtain ⟨b1, b2⟩ := bitq (x := s_busy C (C 8 m) (C 0 2)) (j := k / 3) (by have := s_busy_lt hW (C 8 m) (C 0 2); omega) (by omega)
  have hh : f_M_isHeld A (nI k) = some (if (s_held C (k % 3) (C 0 4)).testBit (k / 3) = true then 1 else 0) := by
    by_cases h : (s_held C (k % 3) (C 0 4)).testBit (k / 3) = true
    · rw [if_pos h, (M_isHeld hW hM hk).1 h]
    · rw [if_neg h, (M_isHeld hW hM hk).2 h]
  have z10 : ((1 : Int32) = 0) = False := by simp
  have h4 : (nI (pc (C 8 m) 10) ≤ nI (C 1 (k % 3))) = ¬ (C 1 (k % 3) < pc (C 8 m) 10) := by rw [na_le (by omega) (by omega)]; apply propext; omega
  unfold f_M_ownClash
  simp only [M_mayIn hW hM hm, obs, q1, q2, M_busyIn hW hM hm, hh, r2, r3, M_ones (show C 8 m < 1024 by omega), b2, ne_eq, a2, h4]
  unfold s_last
  by_cases h1 : (s_may C m).testBit (k / 3) = true <;> by_cases h2 : (s_busy C (C 8 m) (C 0 2)).testBit (k / 3) = true <;> by_cases h3 : C 1 (k % 3) < pc (C 8 m) 10 <;> by_cases h5 : (s_held C (k % 3) (C 0 4)).testBit (k / 3) = true
  all_goals
    simp only [h1, h2, h3, h5, if_true, if_false, not_true, not_false_eq_true, obs, Bool.false_eq_true, z10]
    rfl
theorem M_with {C : CS} {A : Nat → Nat → Int32} {pl : Nat → Nat} (hW : WFC C) (hM : RMo C A) (hpl : ∀ m, pl m ≤ 30) {m k o : Nat} (hm : m < C 0 3) (hk : k < 30) (ho : o < C 0 3) :
    f_M_clashWith A (nI m) (nI k) (nI o) (oI (pl o)) = some (nI ((if s_wP C pl m k o then 4 else 0) ||| (if s_wR C pl m k o then 8 else 0))) := by
  have hN := hW.2.2.2.1
  obtain ⟨q1, q2⟩ := nI_hr k hk
  have hp := hpl o
  have hx := hW.mem m
  have r2 : ∀ m, m < C 0 3 → rdx (A 5) 60 (6 * nI m + 2) = some (nI (C 8 m)) := fun m hm => by rw [show (2 : Int32) = nI 2 from rfl, ix6, rdx_nI (by omega) (by omega), hM.meet hm 2 (by omega)]; rfl
  have hle : C 8 m &&& C 8 o ≤ C 8 m := Nat.and_le_left
  have h0 : (nI (C 8 m &&& C 8 o) = 0) = (C 8 m &&& C 8 o = 0) := nI_eqP (b := 0) (by omega) (by omega)
  unfold f_M_clashWith
  simp only [oI_z hp, nI_eqP (show o < 2 ^ 31 by omega) (show m < 2 ^ 31 by omega), q1, r2 m hm, r2 o ho, obs, na_and, h0, ne_eq, oI_pl hp hk]
  by_cases c2 : pl o = 0
  · rw [if_pos c2, if_neg (fun h => h.2.1 c2), if_neg (fun h => by have := h.2; omega)]; rfl
  · rw [if_neg c2]
    by_cases c1 : o = m
    · rw [if_pos c1, if_neg (fun h => h.1 c1), if_neg (fun h => h.1 c1)]; rfl
    · rw [if_neg c1]
      obtain ⟨p1, p2⟩ := pl_h c2 hp
      simp only [p1, nI_eqP (show (pl o - 1) / 3 < 2 ^ 31 by omega) (show k / 3 < 2 ^ 31 by omega)]
      by_cases c3 : (pl o - 1) / 3 = k / 3
      · rw [if_pos c3]
        have g1 : (if s_wP C pl m k o then 4 else 0) = if C 8 m &&& C 8 o = 0 then 0 else 4 := by
          by_cases c4 : C 8 m &&& C 8 o = 0
          · rw [if_neg (fun h : s_wP C pl m k o => h.2.2.2 c4), if_pos c4]
          · rw [if_pos (show s_wP C pl m k o from ⟨c1, c2, c3, c4⟩), if_neg c4]
        have g2 : (if s_wR C pl m k o then 8 else 0) = if pl o = k + 1 then 8 else 0 := by
          by_cases c5 : pl o = k + 1
          · rw [if_pos (show s_wR C pl m k o from ⟨c1, c5⟩), if_pos c5]
          · rw [if_neg (fun h : s_wR C pl m k o => c5 h.2), if_neg c5]
        rw [g1, g2]
        by_cases c4 : C 8 m &&& C 8 o = 0 <;> by_cases c5 : pl o = k + 1
        all_goals
          simp only [c4, c5, obs, not_true, not_false_eq_true, if_false, if_true]
          rfl
      · rw [if_neg c3, if_neg (fun h => c3 h.2.2.1), if_neg (fun h => c3 (by rw [h.2]; rfl))]; rfl
/-- a plan in a row of the reference -/
def RP (C : CS) (pl : Nat → Nat) (w : Nat → Int32) : Prop := ∀ m, m < C 0 3 → w m = oI (pl m)
theorem M_clashOf {C : CS} {A : Nat → Nat → Int32} {pl : Nat → Nat} {w : Nat → Int32} (hW : WFC C) (hM : RMo C A) (hw : RP C pl w) (hpl : ∀ m, pl m ≤ 30) {m k : Nat} (hm : m < C 0 3) (hk : k < 30) (hr : k % 3 < C 0 1) :
    f_M_clashOf A (nI m) (nI k) w = some (nI (s_clash C pl m k)) := by
  have hN := hW.2.2.2.1
  have n3 : A 0 26 = nI (C 0 3) := hM.n (j := 3) (by omega)
  unfold f_M_clashOf
  rw [M_own hW hM hm hk hr, obs]
  have e := loop_S (body := fun q => f_M_clashOf_l11 A w (nI m) (nI k) q.1 q.2) (C 0 3) (fun i => (nI (s_last C m k ||| (if (s_held C (k % 3) (C 0 4)).testBit (k / 3) = true then 8 else 0) ||| s_or (s_wP C pl m k) 4 i ||| s_or (s_wR C pl m k) 8 i), nI i)) (b := nI (s_clash C pl m k)) 0 (by omega) (by omega)
    (fun i _ hi => by
      show f_M_clashOf_l11 A w (nI m) (nI k) (nI _) (nI i) = _
      unfold f_M_clashOf_l11
      rw [n3, if_neg (nI_ge hi (by omega)), rdx_nI (by omega) (by omega), hw i hi, obs, M_with hW hM hpl hm hk hi, obs, na_or, ← nI_succ, s_or_step, s_or_step]
      congr 4
      ac_rfl)
    (by
      show f_M_clashOf_l11 A w (nI m) (nI k) _ (nI (C 0 3)) = _
      unfold f_M_clashOf_l11
      rw [n3, if_pos (nI_le (Nat.le_refl _) (by omega))]; rfl)
  have e0 : s_last C m k ||| (if (s_held C (k % 3) (C 0 4)).testBit (k / 3) = true then 8 else 0) = s_last C m k ||| (if (s_held C (k % 3) (C 0 4)).testBit (k / 3) = true then 8 else 0) ||| s_or (s_wP C pl m k) 4 0 ||| s_or (s_wR C pl m k) 8 0 := by
    rw [show s_or (s_wP C pl m k) 4 0 = 0 from rfl, show s_or (s_wR C pl m k) 8 0 = 0 from rfl, Nat.or_zero, Nat.or_zero]
  rw [e0]
  show (loopN _ a_F (nI _, nI 0)).bind _ = _
  rw [e, obs]
