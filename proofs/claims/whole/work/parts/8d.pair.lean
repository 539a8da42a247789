/-! PURE MATH: pair, least -/
theorem mask2 (x p q : Nat) : (x &&& (2 ^ p ||| 2 ^ q) = (2 ^ p ||| 2 ^ q)) ↔ (x.testBit p = true ∧ x.testBit q = true) := by
  constructor
  · intro h
    have hp := congrArg (fun y => y.testBit p) h
    have hq := congrArg (fun y => y.testBit q) h
    simp only [Nat.testBit_and, Nat.testBit_or, Nat.testBit_two_pow_self, Bool.true_or, Bool.or_true, Bool.and_true] at hp hq
    exact ⟨hp, hq⟩
  · rintro ⟨hp, hq⟩
    apply Nat.eq_of_testBit_eq
    intro i
    rw [Nat.testBit_and, Nat.testBit_or, Nat.testBit_two_pow, Nat.testBit_two_pow]
    by_cases h1 : p = i
    · subst h1; simp [hp]
    · by_cases h2 : q = i
      · subst h2; simp [hq]
      · simp [h1, h2]
theorem M_pair_n {C : CS} {A : Nat → Nat → Int32} (hW : WFC C) (hM : RMo C A) {p q : Nat} (hp : p < 8) (hq : q < 8) : loopN (fun z => f_M_pair_l58 A (nI p) (nI q) z.1 z.2) a_F (0, 0) = some (nI (cnt (fun m => C 15 m ≠ 0 ∧ (C 8 m).testBit p = true ∧ (C 8 m).testBit q = true) (C 0 3))) := by
  have hN := hW.2.2.2.1
  have n3 : A 0 26 = nI (C 0 3) := hM.n (j := 3) (by omega)
  have hpp : 2 ^ p ||| 2 ^ q < 2 ^ 8 := Nat.or_lt_two_pow (Nat.pow_lt_pow_right (by omega) hp) (Nat.pow_lt_pow_right (by omega) hq)
  exact loop_S (body := fun z => f_M_pair_l58 A (nI p) (nI q) z.1 z.2) (C 0 3) (fun i => (nI (cnt (fun m => C 15 m ≠ 0 ∧ (C 8 m).testBit p = true ∧ (C 8 m).testBit q = true) i), nI i)) (b := nI (cnt (fun m => C 15 m ≠ 0 ∧ (C 8 m).testBit p = true ∧ (C 8 m).testBit q = true) (C 0 3))) 0 (by omega) (by omega)
    (fun i _ hi => by
      have hx := hW.mem i
      have x1 : rdx (A 5) 60 (6 * nI i + 2) = some (nI (C 8 i)) := by rw [show (2 : Int32) = nI 2 from rfl, ix6, rdx_nI (by omega) (by omega), hM.meet hi 2 (by omega)]; rfl
      have hle : C 8 i &&& (2 ^ p ||| 2 ^ q) ≤ C 8 i := Nat.and_le_left
      have hk : (nI (C 8 i) &&& (a_shl 1 (nI p) ||| a_shl 1 (nI q)) ≠ (a_shl 1 (nI p) ||| a_shl 1 (nI q))) = ¬ ((C 8 i).testBit p = true ∧ (C 8 i).testBit q = true) := by
        rw [shl_1 p (by omega), shl_1 q (by omega), na_or, na_and, ← mask2]
        apply propext
        exact not_congr (na_eq (by omega) (by omega))
      show f_M_pair_l58 A (nI p) (nI q) (nI (cnt (fun m => C 15 m ≠ 0 ∧ (C 8 m).testBit p = true ∧ (C 8 m).testBit q = true) i)) (nI i) = _
      unfold f_M_pair_l58
      rw [n3, if_neg (nI_ge hi (by omega)), x1, rdx_nI (by omega) (by omega), hM.here hi]
      show _ = some (Sum.inl (nI (cnt (fun m => C 15 m ≠ 0 ∧ (C 8 m).testBit p = true ∧ (C 8 m).testBit q = true) i + (if C 15 i ≠ 0 ∧ (C 8 i).testBit p = true ∧ (C 8 i).testBit q = true then 1 else 0)), nI (i + 1)))
      have o1 := oI_ne (hW.plan i)
      by_cases h0 : C 15 i = 0
      · rw [if_neg (fun h => h.1 h0)]
        simp only [Option.bind_some, o1.mpr h0, if_true, sumE]
        rw [← nI_succ, show (0 : Int32) = nI 0 from rfl, na_add]
      · have o2 : ¬ oI (C 15 i) = -1 := fun e => h0 (o1.mp e)
        simp only [Option.bind_some, o2, if_false, hk]
        by_cases hm : (C 8 i).testBit p = true ∧ (C 8 i).testBit q = true
        · rw [if_neg (fun h => h hm), if_pos ⟨h0, hm⟩]
          simp only [Option.bind_some, sumE]
          rw [← nI_succ, ← nI_succ]
        · rw [if_pos hm, if_neg (fun h => hm h.2)]
          simp only [Option.bind_some, sumE]
          rw [← nI_succ, show (0 : Int32) = nI 0 from rfl, na_add])
    (by
      show f_M_pair_l58 A (nI p) (nI q) _ (nI (C 0 3)) = _
      unfold f_M_pair_l58
      rw [n3, if_pos (nI_le (Nat.le_refl _) (by omega))])
theorem cnt_congr {p q : Nat → Prop} [DecidablePred p] [DecidablePred q] (h : ∀ i, p i ↔ q i) (n : Nat) : cnt p n = cnt q n := by
  induction n with
  | zero => rfl
  | succ n ih =>
    unfold cnt
    rw [ih]
    by_cases hp : p n
    · rw [if_pos hp, if_pos ((h n).mp hp)]
    · rw [if_neg hp, if_neg (fun hq => hp ((h n).mpr hq))]
theorem T_pair {C : CS} {Y H NS A BO : Nat → Nat → Int32} {r5 hm : Nat} (h : RL C Y H NS A) (p1 p2 : Int32) : TD C H NS (f_Y_pair Y H NS BO hm r5 p1 p2) (f_M_pair A p1 p2) cd2 (fun k => k < 3) := by
  have h' := h.thr 0
  obtain ⟨hW, hY, hH, hS, hM, hQ⟩ := h'
  have hA : (u2 A 0 0 0) 0 0 = 0 := thr_0 A 0
  unfold f_Y_pair f_M_pair
  generalize u2 A 0 0 0 = A at hM hQ hA ⊢
  have h' : RL C Y H NS A := ⟨hW, hY, hH, hS, hM, hQ⟩
  have hN := hW.2.2.2.1
  have hP := hW.2.2.1
  have z10 : ¬ (1 : Int32) = 0 := by decide
  have z1 : ((1 : Int32) ≠ 0) = True := by simp
  rcases G_person hW hH hM hA p1 with ⟨p, hp, rfl, e1, e2⟩ | ⟨e1, e2⟩
  · rw [e1, e2 1]
    simp only [Option.bind_some, z10, if_false, if_true]
    rcases G_person hW hH hM hA p2 with ⟨q, hq, rfl, f1, f2⟩ | ⟨f1, f2⟩
    · rw [f1, f2 1]
      simp only [Option.bind_some, z10, if_false, if_true]
      by_cases hpq : nI p = nI q
      · rw [if_pos hpq]
        refine TD.ref (B := BO) (r := r5) 1 (by omega) h' (show _ < 3 from by omega) ?_ ?_
        · simp only [Option.bind_some, Y_ref_out]; rfl
        · show ((f_M_may A 0 (nI 2) (nI 1)).bind _) = _
          rw [M_may_out hA (by decide) (by omega)]; rfl
      · rw [if_neg hpq]
        obtain ⟨B', b1, b2⟩ := T_look BO hW hH hS
        refine TD.ans (B := B') (r := hm) (nI (cnt (fun m => C 15 m ≠ 0 ∧ (C 8 m).testBit p = true ∧ (C 8 m).testBit q = true) (C 0 3))) h' hA rfl ?_ ?_
        · simp only [Option.bind_some, Y_ref_in, if_true, Y_meetingsOf hW hH (show p < 32 by omega), Y_meetingsOf hW hH (show q < 32 by omega), b1, Y_placed hW hH b2 hW.plan]
          rw [na_and, bs_and, na_and, bs_and, bc_bs _ hN, cnt_congr (q := fun m => C 15 m ≠ 0 ∧ (C 8 m).testBit p = true ∧ (C 8 m).testBit q = true) (fun i => ⟨fun h => ⟨h.2, h.1.1, h.1.2⟩, fun h => ⟨⟨h.2.1, h.2.2⟩, h.1⟩⟩)]
          rfl
        · simp only [Option.bind_some, M_may_in hA, z1, if_true, M_pair_n hW hM (show p < 8 by omega) (show q < 8 by omega)]
    · refine TD.ref (B := BO) (r := r5) 0 (by omega) h' (show _ < 3 from by omega) ?_ ?_
      · rw [f1]; rfl
      · rw [f2 1 (by decide)]; rfl
  · refine TD.ref (B := BO) (r := r5) 0 (by omega) h' (show _ < 3 from by omega) ?_ ?_
    · rw [e1]; rfl
    · rw [e2 1 (by decide)]; rfl
