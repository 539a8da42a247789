/-! PURE MATH: clashes -/
theorem obs {α β : Type} (a : α) (f : α → Option β) : (some a).bind f = f a := (Option.bind_some a f).trans (Eq.refl (f a))
/-- one of those below n is so: v, else 0 -/
def s_or (p : Nat → Prop) [DecidablePred p] (v : Nat) (n : Nat) : Nat := if bs p n ≠ 0 then v else 0
theorem bs_ne0 (p : Nat → Prop) [DecidablePred p] (n : Nat) : bs p n ≠ 0 ↔ ∃ i, i < n ∧ p i := by
  induction n with
  | zero => exact ⟨fun h => absurd rfl h, fun ⟨i, hi, _⟩ => by omega⟩
  | succ n ih =>
    have hp2 : 0 < 2 ^ n := Nat.two_pow_pos n
    show bs p n + (if p n then 2 ^ n else 0) ≠ 0 ↔ _
    by_cases hp : p n
    · rw [if_pos hp]
      exact ⟨fun _ => ⟨n, by omega, hp⟩, fun _ => by omega⟩
    · rw [if_neg hp, Nat.add_zero, ih]
      constructor
      · rintro ⟨i, h1, h2⟩
        exact ⟨i, by omega, h2⟩
      · rintro ⟨i, h1, h2⟩
        have : i ≠ n := fun e => hp (e ▸ h2)
        exact ⟨i, by omega, h2⟩
theorem s_or_step (p : Nat → Prop) [DecidablePred p] (v n : Nat) : s_or p v (n + 1) = s_or p v n ||| (if p n then v else 0) := by
  unfold s_or
  have h1 := bs_ne0 p n
  have h2 := bs_ne0 p (n + 1)
  by_cases hp : p n
  · rw [if_pos (h2.mpr ⟨n, by omega, hp⟩), if_pos hp]
    split
    · rw [Nat.or_self]
    · rw [Nat.zero_or]
  · rw [if_neg hp, Nat.or_zero]
    have : (bs p (n + 1) ≠ 0) ↔ (bs p n ≠ 0) := by rw [bs_miss hp]
    by_cases hb : bs p n ≠ 0
    · rw [if_pos hb, if_pos (this.mpr hb)]
    · rw [if_neg hb, if_neg (fun h => hb (this.mp h))]
/-- another one stands in that hour and shares people; another one stands there -/
abbrev s_wP (C : CS) (pl : Nat → Nat) (m k o : Nat) : Prop := o ≠ m ∧ pl o ≠ 0 ∧ (pl o - 1) / 3 = k / 3 ∧ C 8 m &&& C 8 o ≠ 0
abbrev s_wR (_C : CS) (pl : Nat → Nat) (m k o : Nat) : Prop := o ≠ m ∧ pl o = k + 1
/-- clashes 1, 2, 16 -/
def s_last (C : CS) (m k : Nat) : Nat := (if (s_may C m).testBit (k / 3) = true then 0 else 1) ||| (if (s_busy C (C 8 m) (C 0 2)).testBit (k / 3) = true then 2 else 0) ||| (if C 1 (k % 3) < pc (C 8 m) 10 then 16 else 0)
def s_clash (C : CS) (pl : Nat → Nat) (m k : Nat) : Nat := s_last C m k ||| (if (s_held C (k % 3) (C 0 4)).testBit (k / 3) = true then 8 else 0) ||| s_or (s_wP C pl m k) 4 (C 0 3) ||| s_or (s_wR C pl m k) 8 (C 0 3)
theorem s_busy_lt {C : CS} (hW : WFC C) (w n : Nat) : s_busy C w n < 2 ^ 10 := by
  induction n with
  | zero => exact Nat.two_pow_pos _
  | succ n ih =>
    unfold s_busy
    refine Nat.or_lt_two_pow ih ?_
    split
    · obtain ⟨_, _, _, _, _, _, _, _, _, _, _, _, _, _, h, _⟩ := hW
      exact h n
    · exact Nat.two_pow_pos _
theorem s_may_lt {C : CS} (hW : WFC C) (m : Nat) : s_may C m < 2 ^ 10 := by
  unfold s_may
  split
  · have h := Nat.pow_le_pow_right (show 0 < 2 by omega) hW.1.2
    have h2 : 0 < 2 ^ C 0 0 := Nat.two_pow_pos _
    omega
  · exact hW.may m
theorem Y_busyHoursOf {C : CS} {H : Nat → Nat → Int32} (hW : WFC C) (hH : RH C H) {w : Nat} (hw : w < 2 ^ 31) : f_House_busyHoursOf H (nI w) = some (nI (s_busy C w (C 0 2))) := by
  have hP := hW.2.2.1
  have h02 : H 0 2 = nI (C 0 2) := hH 0 2 (show 2 < 6 by omega)
  unfold f_House_busyHoursOf
  have e := loop_S (body := fun q => f_House_busyHoursOf_l4 H (nI w) q.1 q.2) (C 0 2) (fun i => (nI (s_busy C w i), nI i)) (b := nI (s_busy C w (C 0 2))) 0 (by omega) (by omega)
    (fun i _ hi => by
      show f_House_busyHoursOf_l4 H (nI w) (nI (s_busy C w i)) (nI i) = some (Sum.inl (nI (s_busy C w i ||| (if w.testBit i then C 4 i else 0)), nI (i + 1)))
      unfold f_House_busyHoursOf_l4
      rw [h02, if_neg (nI_ge hi (by omega)), shr_and1 hw (by omega), rdx_nI (by omega) (by omega), hH 4 i hi]
      have hb := bit1 w i
      by_cases hm : w.testBit i = true
      · rw [hb.mpr hm, if_neg (by decide), if_pos hm, ← nI_succ, ← na_or]; rfl
      · have h2 : (w >>> i) % 2 = 0 := by
          have := mt hb.mp hm
          omega
        rw [h2, if_pos (by decide), if_neg hm, ← nI_succ, Nat.or_zero])
    (by
      show f_House_busyHoursOf_l4 H (nI w) _ (nI (C 0 2)) = _
      unfold f_House_busyHoursOf_l4
      rw [h02, if_pos (nI_le (Nat.le_refl _) (by omega))])
  show (loopN _ a_F (nI (s_busy C w 0), nI 0)).bind _ = _
  rw [e]; rfl
/-- a bit that is asked for -/
theorem bitq {x j : Nat} (hx : x < 2 ^ 31) (hj : j < 32) : ((a_shr (nI x) (nI j) &&& 1) = 0 ↔ ¬ x.testBit j = true) ∧ ((a_shr (nI x) (nI j) &&& 1) = 1 ↔ x.testBit j = true) := by
  rw [shr_and1 hx hj]
  have hb := bit1 x j
  by_cases h : x.testBit j = true
  · rw [hb.mpr h]
    exact ⟨⟨fun h => absurd h (by decide), fun h2 => absurd h h2⟩, ⟨fun _ => h, fun _ => rfl⟩⟩
  · have h2 : (x >>> j) % 2 = 0 := by
      have := mt hb.mp h
      omega
    rw [h2]
    exact ⟨⟨fun _ => h, fun _ => rfl⟩, ⟨fun h => absurd h (by decide), fun h2 => absurd h2 h⟩⟩
theorem bc_nI {x : Nat} (hx : x < 1024) : f_Integer_bitCount (nI x) = some (nI (pc x 10)) := of_decide_eq_true (List.all_eq_true.mp bc_all x (List.mem_range.mpr hx))
theorem pc_le (x k : Nat) : pc x k ≤ k := by
  induction k with
  | zero => exact Nat.le_refl _
  | succ k ih =>
    unfold pc
    have := Nat.mod_lt (x >>> k) (show 0 < 2 by omega)
    omega
theorem WFC.size {C : CS} (h : WFC C) (k : Nat) : C 1 k ≤ 20 := by
  obtain ⟨_, _, _, _, _, _, _, _, _, _, _, h, _⟩ := h
  exact h k
theorem ite_nI {p : Prop} [Decidable p] (a b : Nat) : (if p then (some (nI a) : Option Int32) else some (nI b)) = some (nI (if p then a else b)) := by
  split <;> rfl
theorem Y_lasting {C : CS} {H : Nat → Nat → Int32} (hW : WFC C) (hH : RH C H) {m k : Nat} (hm : m < C 0 3) (hk : k < 30) (hr : k % 3 < C 0 1) : f_Board_lastingClashes H (nI m) (nI k) = some (nI (s_last C m k)) := by
  have hN := hW.2.2.2.1
  obtain ⟨q1, q2⟩ := nI_hr k hk
  have hx := hW.mem m
  have r8 : rdx (H 8) 10 (nI m) = some (nI (C 8 m)) := by rw [rdx_nI (by omega) (by omega), hH 8 m hm]; rfl
  have r1 : rdx (H 1) 3 (nI (k % 3)) = some (nI (C 1 (k % 3))) := by rw [rdx_nI (by omega) (by omega), hH 1 (k % 3) hr]; rfl
  obtain ⟨a1, a2⟩ := bitq (x := s_may C m) (j := k / 3) (by have := s_may_lt hW m; omega) (by omega)
  obtain ⟨b1, b2⟩ := bitq (x := s_busy C (C 8 m) (C 0 2)) (j := k / 3) (by have := s_busy_lt hW (C 8 m) (C 0 2); omega) (by omega)
  have hs := hW.size (k % 3)
  have hp := pc_le (C 8 m) 10
  unfold f_Board_lastingClashes f_Y_hourOf f_Y_roomOf
  simp only [Y_mayHours hW hH hm, r8, obs, q1, q2, r1, Y_busyHoursOf hW hH (show C 8 m < 2 ^ 31 by omega), bc_nI (show C 8 m < 1024 by omega), b1, ne_eq, a1, Decidable.not_not]
  unfold s_last
  by_cases h1 : (s_may C m).testBit (k / 3) = true <;> by_cases h2 : (s_busy C (C 8 m) (C 0 2)).testBit (k / 3) = true <;> by_cases h3 : C 1 (k % 3) < pc (C 8 m) 10
  all_goals
    have h4 : (nI (pc (C 8 m) 10) ≤ nI (C 1 (k % 3))) = ¬ (C 1 (k % 3) < pc (C 8 m) 10) := by rw [na_le (by omega) (by omega)]; apply propext; omega
    simp only [h1, h2, h3, h4, if_true, if_false, not_true, not_false_eq_true, obs, Bool.false_eq_true]
    rfl
theorem pl_h {n : Nat} (h0 : n ≠ 0) (hn : n ≤ 30) : oI n / 3 = nI ((n - 1) / 3) ∧ a_rem (oI n) 3 = nI ((n - 1) % 3) := by
  obtain ⟨k, rfl⟩ : ∃ k, n = k + 1 := ⟨n - 1, by omega⟩
  exact pl_hr k (by omega)
theorem se_l {α β γ : Type} (a : α) (f : α → γ) (g : β → γ) : sumE (.inl a) f g = f a := (show sumE (.inl a) f g = f a from rfl).trans (Eq.refl _)
theorem se_r {α β γ : Type} (a : β) (f : α → γ) (g : β → γ) : sumE (.inr a) f g = g a := (show sumE (.inr a) f g = g a from rfl).trans (Eq.refl _)
theorem eqP {p q : Prop} (h : p ↔ q) : p = q := propext h
theorem oI_z {n : Nat} (h : n ≤ 30) : (oI n = -1) = (n = 0) := propext (oI_ne h)
theorem nI_eqP {a b : Nat} (ha : a < 2 ^ 31) (hb : b < 2 ^ 31) : (nI a = nI b) = (a = b) := propext (na_eq ha hb)
theorem oI_pl {n p : Nat} (hn : n ≤ 30) (hp : p < 30) : (oI n = nI p) = (n = p + 1) := propext (oI_inj n (by omega) p hp)
theorem Y_shares {C : CS} {H : Nat → Nat → Int32} (hW : WFC C) (hH : RH C H) {m o : Nat} (hm : m < C 0 3) (ho : o < C 0 3) : f_Board_sharesPerson H (nI m) (nI o) = some (if C 8 m &&& C 8 o ≠ 0 then 1 else 0) := by
  have hN := hW.2.2.2.1
  have hx := hW.mem m
  have hle : C 8 m &&& C 8 o ≤ C 8 m := Nat.and_le_left
  have r8 : ∀ m, m < C 0 3 → rdx (H 8) 10 (nI m) = some (nI (C 8 m)) := fun m hm => by rw [rdx_nI (by omega) (by omega), hH 8 m hm]; rfl
  have h0 : (nI (C 8 m &&& C 8 o) = 0) = (C 8 m &&& C 8 o = 0) := nI_eqP (b := 0) (by omega) (by omega)
  unfold f_Board_sharesPerson
  rw [r8 m hm, obs, r8 o ho, obs, na_and]
  simp only [h0]
  by_cases h : C 8 m &&& C 8 o = 0
  · rw [if_pos h, if_neg (fun h2 => h2 h)]; rfl
  · rw [if_neg h, if_pos h]; rfl
theorem Y_others {C : CS} {H BO : Nat → Nat → Int32} {pl tm : Nat → Nat} (hW : WFC C) (hH : RH C H) (hB : RB C pl tm BO) (hpl : ∀ m, pl m ≤ 30) {m k : Nat} (hm : m < C 0 3) (hk : k < 30) :
    f_Board_othersThere H BO (nI m) (nI k) = some (nI (bs (s_wR C pl m k) (C 0 3) * 1024 ||| bs (s_wP C pl m k) (C 0 3))) := by
  have hN := hW.2.2.2.1
  have h03 : H 0 3 = nI (C 0 3) := hH 0 3 (show 3 < 6 by omega)
  obtain ⟨q1, q2⟩ := nI_hr k hk
  have z10 : ((1 : Int32) = 0) = False := by simp
  unfold f_Board_othersThere
  have e := loop_S (body := fun q => f_Board_othersThere_l8 H BO (nI m) (nI k) q.1 q.2.1 q.2.2) (C 0 3) (fun i => (nI (bs (s_wP C pl m k) i), nI (bs (s_wR C pl m k) i), nI i)) (b := (nI (bs (s_wP C pl m k) (C 0 3)), nI (bs (s_wR C pl m k) (C 0 3)))) 0 (by omega) (by omega)
    (fun i _ hi => by
      have hp := hpl i
      show f_Board_othersThere_l8 H BO (nI m) (nI k) (nI (bs (s_wP C pl m k) i)) (nI (bs (s_wR C pl m k) i)) (nI i) = _
      unfold f_Board_othersThere_l8
      rw [h03, if_neg (nI_ge hi (by omega)), rdx_nI (by omega) (by omega), hB.1 i hi]
      simp only [obs, f_Y_hourOf, q1, Y_shares hW hH hm hi, nI_eqP (show i < 2 ^ 31 by omega) (show m < 2 ^ 31 by omega), oI_z hp, oI_pl hp hk, ne_eq]
      by_cases c1 : i = m
      · rw [if_pos c1, bs_miss (p := s_wP C pl m k) (fun h => h.1 c1), bs_miss (p := s_wR C pl m k) (fun h => h.1 c1), ← nI_succ]
      · rw [if_neg c1]
        by_cases c2 : pl i = 0
        · rw [if_pos c2, bs_miss (p := s_wP C pl m k) (fun h => h.2.1 c2), bs_miss (p := s_wR C pl m k) (fun h => by have := h.2; omega), ← nI_succ]
        · obtain ⟨p1, p2⟩ := pl_h c2 hp
          rw [if_neg c2]
          simp only [p1, nI_eqP (show (pl i - 1) / 3 < 2 ^ 31 by omega) (show k / 3 < 2 ^ 31 by omega)]
          by_cases c3 : (pl i - 1) / 3 = k / 3
          · simp only [c3, not_true, if_false]
            by_cases c4 : C 8 m &&& C 8 i = 0 <;> by_cases c5 : pl i = k + 1
            · rw [bs_miss (p := s_wP C pl m k) (fun h => h.2.2.2 c4), ← bs_hit (p := s_wR C pl m k) ⟨c1, c5⟩, ← nI_succ, ← na_or, ← shl_1 i (by omega)]
              simp only [c4, c5, obs, not_true, if_false, if_true]
            · rw [bs_miss (p := s_wP C pl m k) (fun h => h.2.2.2 c4), bs_miss (p := s_wR C pl m k) (fun h => c5 h.2), ← nI_succ]
              simp only [c4, c5, obs, not_true, not_false_eq_true, if_false, if_true]
            · rw [← bs_hit (p := s_wP C pl m k) ⟨c1, c2, c3, c4⟩, ← bs_hit (p := s_wR C pl m k) ⟨c1, c5⟩, ← nI_succ, ← na_or, ← na_or, ← shl_1 i (by omega)]
              simp only [c4, c5, obs, not_true, not_false_eq_true, if_false, if_true, z10]
            · rw [← bs_hit (p := s_wP C pl m k) ⟨c1, c2, c3, c4⟩, bs_miss (p := s_wR C pl m k) (fun h => c5 h.2), ← nI_succ, ← na_or, ← shl_1 i (by omega)]
              simp only [c4, c5, obs, not_true, not_false_eq_true, if_false, if_true, z10]
          · simp only [c3, not_false_eq_true, if_true]
            rw [bs_miss (p := s_wP C pl m k) (fun h => c3 h.2.2.1), bs_miss (p := s_wR C pl m k) (fun h => c3 (by rw [h.2]; rfl)), ← nI_succ])
    (by
      show f_Board_othersThere_l8 H BO (nI m) (nI k) _ _ (nI (C 0 3)) = _
      unfold f_Board_othersThere_l8
      rw [h03, if_pos (nI_le (Nat.le_refl _) (by omega))])
  show (loopN _ a_F (nI (bs (s_wP C pl m k) 0), nI (bs (s_wR C pl m k) 0), nI 0)).bind _ = _
  rw [e, obs]
  show some (a_shl (nI (bs (s_wR C pl m k) (C 0 3))) (nI 10) ||| nI (bs (s_wP C pl m k) (C 0 3))) = _
  rw [show a_shl (nI (bs (s_wR C pl m k) (C 0 3))) (nI 10) = nI (bs (s_wR C pl m k) (C 0 3)) * nI (2 ^ 10) from ?_, na_mul, na_or]
  have hlt : bs (s_wR C pl m k) (C 0 3) < 1024 := Nat.lt_of_lt_of_le (bs_lt _ _) (Nat.pow_le_pow_right (by omega) hN)
  generalize bs (s_wR C pl m k) (C 0 3) = x at hlt ⊢
  exact of_decide_eq_true (List.all_eq_true.mp (by decide +kernel : (List.range 1024).all (fun x => decide (a_shl (nI x) (nI 10) = nI x * nI (2 ^ 10))) = true) x (List.mem_range.mpr hlt))
