/-! PURE MATH: the first that is so; at, where -/
/-- the guards of both, for one that is asked for by its number -/
theorem G_room {C : CS} {Y H A : Nat → Nat → Int32} (hW : WFC C) (hH : RH C H) (hM : RMo C A) (hA : A 0 0 = 0) (p : Int32) :
    (∃ j, j < C 0 1 ∧ p = nI j ∧ f_Y_needRoom Y H p = some (0, Y) ∧ ∀ c, f_M_isRoom A p c = some (1, A)) ∨
    (f_Y_needRoom Y H p = some (1, yRef Y 0) ∧ ∀ c, c ≠ 0 → f_M_isRoom A p c = some (0, mRef A c 0)) := by
  have hn := hW.n31 (j := 1) (by omega)
  have e1 : H 0 1 = nI (C 0 1) := hH 0 1 (show 1 < 6 by omega)
  have e2 : A 0 24 = nI (C 0 1) := hM.n (j := 1) (by omega)
  by_cases h : inN p (C 0 1)
  · obtain ⟨j, hj, hp⟩ := h
    have h : inN p (C 0 1) := ⟨j, hj, hp⟩
    refine Or.inl ⟨j, hj, hp, ?_, fun c => ?_⟩
    · unfold f_Y_needRoom
      rw [e1, Y_one_in hn h]
      rfl
    · unfold f_M_isRoom
      rw [e2, M_within_in hn h]
      show (f_M_may A 1 c 0).bind _ = _
      rw [M_may_in hA]
      show some (zb 1, A) = _
      rw [zb_1]
  · refine Or.inr ⟨?_, fun c hc => ?_⟩
    · unfold f_Y_needRoom
      rw [e1, Y_one_out hn h]
      rfl
    · unfold f_M_isRoom
      rw [e2, M_within_out hn h]
      show (f_M_may A 0 c (nI 0)).bind _ = _
      rw [M_may_out hA hc (by omega)]
      show some (zb 0, mRef A c 0) = _
      rw [zb_0]
/-- the guards of both, for one that is asked for by its number -/
theorem G_person {C : CS} {Y H A : Nat → Nat → Int32} (hW : WFC C) (hH : RH C H) (hM : RMo C A) (hA : A 0 0 = 0) (p : Int32) :
    (∃ j, j < C 0 2 ∧ p = nI j ∧ f_Y_needPerson Y H p = some (0, Y) ∧ ∀ c, f_M_isPerson A p c = some (1, A)) ∨
    (f_Y_needPerson Y H p = some (1, yRef Y 0) ∧ ∀ c, c ≠ 0 → f_M_isPerson A p c = some (0, mRef A c 0)) := by
  have hn := hW.n31 (j := 2) (by omega)
  have e1 : H 0 2 = nI (C 0 2) := hH 0 2 (show 2 < 6 by omega)
  have e2 : A 0 25 = nI (C 0 2) := hM.n (j := 2) (by omega)
  by_cases h : inN p (C 0 2)
  · obtain ⟨j, hj, hp⟩ := h
    have h : inN p (C 0 2) := ⟨j, hj, hp⟩
    refine Or.inl ⟨j, hj, hp, ?_, fun c => ?_⟩
    · unfold f_Y_needPerson
      rw [e1, Y_one_in hn h]
      rfl
    · unfold f_M_isPerson
      rw [e2, M_within_in hn h]
      show (f_M_may A 1 c 0).bind _ = _
      rw [M_may_in hA]
      show some (zb 1, A) = _
      rw [zb_1]
  · refine Or.inr ⟨?_, fun c hc => ?_⟩
    · unfold f_Y_needPerson
      rw [e1, Y_one_out hn h]
      rfl
    · unfold f_M_isPerson
      rw [e2, M_within_out hn h]
      show (f_M_may A 0 c (nI 0)).bind _ = _
      rw [M_may_out hA hc (by omega)]
      show some (zb 0, mRef A c 0) = _
      rw [zb_0]
/-- an hour of the house -/
theorem G_hour {C : CS} {Y H A : Nat → Nat → Int32} (hW : WFC C) (hH : RH C H) (hM : RMo C A) (p : Int32) :
    (∃ j, j < C 0 0 ∧ p = nI j ∧ f_Y_needHour Y H p = some (0, Y) ∧ f_M_within p 0 (A 0 23 - 1) = some 1) ∨
    (f_Y_needHour Y H p = some (2, yRef Y 1) ∧ f_M_within p 0 (A 0 23 - 1) = some 0) := by
  have hn := hW.n31 (j := 0) (by omega)
  have e1 : H 0 0 = nI (C 0 0) := hH 0 0 (show 0 < 6 by omega)
  have e2 : A 0 23 = nI (C 0 0) := hM.n (j := 0) (by omega)
  by_cases h : inN p (C 0 0)
  · obtain ⟨h1, h2⟩ := (inN_iff hn).mp h
    have h2' : ¬ nI (C 0 0) ≤ p := by
      obtain ⟨j, hj, rfl⟩ := h
      exact nI_ge hj hn
    obtain ⟨j, hj, hp⟩ := h
    have h : inN p (C 0 0) := ⟨j, hj, hp⟩
    refine Or.inl ⟨j, hj, hp, ?_, ?_⟩
    · unfold f_Y_needHour
      rw [if_neg h1, e1, if_neg h2']
      show (f_Y_refuseUnless Y 1).bind _ = _
      rw [Y_ref_in]; rfl
    · rw [e2, M_within_in hn h]
  · refine Or.inr ⟨?_, ?_⟩
    · have hh : ∀ h1 : ¬ p < 0, nI (C 0 0) ≤ p := fun h1 => by
        have h2 : ¬ p < nI (C 0 0) := fun h2 => h ((inN_iff hn).mpr ⟨h1, h2⟩)
        rw [Int32.le_iff_toInt_le]; rw [Int32.lt_iff_toInt_lt] at h2; omega
      unfold f_Y_needHour
      by_cases h1 : p < 0
      · rw [if_pos h1]
        show (f_Y_refuseUnless Y 0).bind _ = _
        rw [Y_ref_out]; rfl
      · rw [if_neg h1, e1, if_pos (hh h1)]
        show (f_Y_refuseUnless Y 0).bind _ = _
        rw [Y_ref_out]; rfl
    · rw [e2, M_within_out hn h]
/-- the first, from i on, of so many -/
def s_first (p : Nat → Prop) [DecidablePred p] : Nat → Nat → Option Nat
  | 0, _ => none
  | t + 1, i => if p i then some i else s_first p t (i + 1)
theorem s_first_congr {p q : Nat → Prop} [DecidablePred p] [DecidablePred q] (t : Nat) : ∀ i, (∀ k, i ≤ k → k < i + t → (p k ↔ q k)) → s_first p t i = s_first q t i := by
  induction t with
  | zero => intro i _; rfl
  | succ t ih =>
    intro i h
    unfold s_first
    have hi := h i (Nat.le_refl _) (by omega)
    by_cases hp : p i
    · rw [if_pos hp, if_pos (hi.mp hp)]
    · rw [if_neg hp, if_neg (fun hq => hp (hi.mpr hq)), ih (i + 1) (fun k h1 h2 => h k (by omega) (by omega))]
theorem loop_first {γ : Type} {body : Int32 → Option (Int32 ⊕ (Unit ⊕ γ))} (N : Nat) (p : Nat → Prop) [DecidablePred p] (g : Nat → γ) (hN : N < 1000000)
    (hit : ∀ i, i < N → p i → body (nI i) = some (.inr (.inr (g i)))) (miss : ∀ i, i < N → ¬ p i → body (nI i) = some (.inl (nI i + 1))) (fin : body (nI N) = some (.inr (.inl ()))) :
    loopN body a_F 0 = some (match s_first p N 0 with | some i => .inr (g i) | none => .inl ()) := by
  have key : ∀ t i n, i + t = N → t < n → loopN body n (nI i) = some (match s_first p t i with | some i => .inr (g i) | none => .inl ()) := by
    intro t
    induction t with
    | zero =>
      intro i n hi hn
      obtain ⟨n, rfl⟩ : ∃ k, n = k + 1 := ⟨n - 1, by omega⟩
      have hi : i = N := by omega
      subst hi
      rw [loop_r fin]
      rfl
    | succ t ih =>
      intro i n hi hn
      obtain ⟨n, rfl⟩ : ∃ k, n = k + 1 := ⟨n - 1, by omega⟩
      by_cases hp : p i
      · rw [loop_r (hit i (by omega) hp)]
        unfold s_first
        rw [if_pos hp]
      · rw [loop_l (miss i (by omega) hp), ← nI_succ]
        conv => rhs; unfold s_first
        rw [if_neg hp]
        exact ih (i + 1) n (by omega) (by omega)
  exact key N 0 a_F (by omega) (by unfold a_F; omega)
theorem TA.ref2 {C : CS} {Y H NS A : Nat → Nat → Int32} {y : Option (Nat × Int32 × (Nat → Nat → Int32))} {m : Option (Int32 × (Nat → Nat → Int32))} (h : RL C Y H NS A) (hy : y = some (2, 0, yRef Y 1)) (hm : m = some (0, mRef A (nI 2) 1)) : TA C H NS y m := TA.ref 1 (by omega) h hy hm
theorem oI_inj : ∀ n, n < 31 → ∀ p, p < 30 → (oI n = nI p ↔ n = p + 1) := by decide
theorem pl_of (h r : Nat) : (nI h * 3 + nI r : Int32) = nI (3 * h + r) ∧ (3 * nI h + nI r : Int32) = nI (3 * h + r) := by
  rw [show (3 : Int32) = nI 3 from rfl, na_mul, na_mul, na_add, na_add, Nat.mul_comm h 3]
  exact ⟨rfl, rfl⟩
theorem T_at {C : CS} {Y H NS A : Nat → Nat → Int32} (h : RL C Y H NS A) (p1 p2 : Int32) : TA C H NS (f_Y_at Y H NS p1 p2) (f_M_at A p1 p2) := by
  have h' := h.thr 0
  obtain ⟨hW, hY, hH, hS, hM, hQ⟩ := h'
  have hA : (u2 A 0 0 0) 0 0 = 0 := thr_0 A 0
  unfold f_Y_at f_M_at
  generalize u2 A 0 0 0 = A at hM hQ hA ⊢
  have h' : RL C Y H NS A := ⟨hW, hY, hH, hS, hM, hQ⟩
  rcases G_room hW hH hM hA p2 with ⟨r, hr, rfl, e1, e2⟩ | ⟨e1, e2⟩
  · rw [e1, e2 1]
    have z10 : ¬ (1 : Int32) = 0 := by decide
    have z1 : ((1 : Int32) ≠ 0) = True := by simp
    simp only [Option.bind_some, if_pos, z10, if_false]
    rcases G_hour (Y := Y) hW hH hM p1 with ⟨j, hj, rfl, g1, g2⟩ | ⟨g1, g2⟩
    · rw [g1, g2]
      simp only [Option.bind_some, if_false, if_true, eq_self, M_may_in hA, z1, f_Y_placeOf]
      have hN := hW.2.2.2.1
      have hH10 := hW.1.2
      have hR3 := hW.2.1
      have h03 : H 0 3 = nI (C 0 3) := hH 0 3 (show 3 < 6 by omega)
      have hA3 : A 0 26 = nI (C 0 3) := hM.n (j := 3) (by omega)
      have eY := loop_first (body := fun q => f_Y_at_l19 H NS (nI j * 3 + nI r) Y q) (C 0 3) (fun m => C 15 m = 3 * j + r + 1) (fun m => (0, nI m, Y)) (by omega)
        (fun i hi hp => by
          show f_Y_at_l19 H NS (nI j * 3 + nI r) Y (nI i) = _
          unfold f_Y_at_l19
          rw [h03, if_neg (nI_ge hi (by omega)), rdx_nI (by omega) (by omega), hS 1 i hi]
          show (if oI (C 15 i) ≠ _ then _ else _) = _
          rw [(pl_of j r).1, if_neg (fun h => h ((oI_inj _ (by have := hW.plan i; omega) _ (by omega)).mpr hp))])
        (fun i hi hp => by
          show f_Y_at_l19 H NS (nI j * 3 + nI r) Y (nI i) = _
          unfold f_Y_at_l19
          rw [h03, if_neg (nI_ge hi (by omega)), rdx_nI (by omega) (by omega), hS 1 i hi]
          show (if oI (C 15 i) ≠ _ then _ else _) = _
          rw [(pl_of j r).1, if_pos (fun h => hp ((oI_inj _ (by have := hW.plan i; omega) _ (by omega)).mp h))])
        (by
          show f_Y_at_l19 H NS (nI j * 3 + nI r) Y (nI (C 0 3)) = _
          unfold f_Y_at_l19
          rw [h03, if_pos (nI_le (Nat.le_refl _) (by omega))])
      have eM := loop_first (body := fun q => f_M_at_l38 A (nI j) (nI r) q) (C 0 3) (fun m => C 15 m = 3 * j + r + 1) (fun m => (nI m, A)) (by omega)
        (fun i hi hp => by
          show f_M_at_l38 A (nI j) (nI r) (nI i) = _
          unfold f_M_at_l38
          rw [hA3, if_neg (nI_ge hi (by omega)), rdx_nI (by omega) (by omega), hM.here hi]
          show (if oI (C 15 i) ≠ _ then _ else _) = _
          rw [(pl_of j r).2, if_neg (fun h => h ((oI_inj _ (by have := hW.plan i; omega) _ (by omega)).mpr hp))])
        (fun i hi hp => by
          show f_M_at_l38 A (nI j) (nI r) (nI i) = _
          unfold f_M_at_l38
          rw [hA3, if_neg (nI_ge hi (by omega)), rdx_nI (by omega) (by omega), hM.here hi]
          show (if oI (C 15 i) ≠ _ then _ else _) = _
          rw [(pl_of j r).2, if_pos (fun h => hp ((oI_inj _ (by have := hW.plan i; omega) _ (by omega)).mp h))])
        (by
          show f_M_at_l38 A (nI j) (nI r) (nI (C 0 3)) = _
          unfold f_M_at_l38
          rw [hA3, if_pos (nI_le (Nat.le_refl _) (by omega))])
      rw [eY, eM]
      cases s_first (fun m => C 15 m = 3 * j + r + 1) (C 0 3) 0 with
      | none => exact TA.ans (-1) h' hA rfl rfl
      | some i => exact TA.ans (nI i) h' hA rfl rfl
    · refine TA.ref2 h' ?_ ?_
      · rw [g1]; rfl
      · rw [g2]
        show ((f_M_may A 0 (nI 2) (nI 1)).bind _) = _
        rw [M_may_out hA (by decide) (by omega)]; rfl
  · refine TA.ref 0 (by omega) h' ?_ ?_
    · rw [e1]; rfl
    · rw [e2 1 (by decide)]; rfl
