/-! PURE MATH: a rule that is asked; yields -/
/-- what a step makes of the types on the stack: true where it is yes or no -/
def s_tstep (c o : Nat) (st : List Bool) : Option (List Bool) :=
  if c = 0 then (if o < 100 then some (false :: st) else none)
  else if c = 1 then (if o < 11 then some (false :: st) else none)
  else if c = 8 then (match st with | true :: r => some (true :: r) | _ => none)
  else if c = 2 ∨ c = 3 ∨ c = 4 then (match st with | false :: false :: r => some (false :: r) | _ => none)
  else if c = 5 ∨ c = 6 ∨ c = 7 then (match st with | false :: false :: r => some (true :: r) | _ => none)
  else if c = 9 ∨ c = 10 then (match st with | true :: true :: r => some (true :: r) | _ => none)
  else none
def s_ty (C : CS) : Nat → Option (List Bool)
  | 0 => some []
  | k + 1 => match s_ty C k with
    | none => none
    | some st => s_tstep (C 20 k) (C 21 k) st
/-- a rule that can be asked -/
def WFU (C : CS) : Prop := C 0 8 = 0 ∨ s_ty C (C 0 8) = some [true]
/-- the class's step -/
def s_enc (c o : Nat) : Nat := if c = 0 then o else if c = 1 then 100 + o else if c = 2 then 206 else if c = 3 then 207 else if c = 4 then 208 else if c = 5 then 203 else if c = 6 then 204 else if c = 7 then 205 else if c = 8 then 200 else if c = 9 then 201 else 202
def RU (C : CS) (U : Nat → Nat → Int32) : Prop := U 0 1 = nI (C 0 8) ∧ ∀ k, k < C 0 8 → U 1 k = nI (s_enc (C 20 k) (C 21 k))
theorem ty_none {C : CS} {k : Nat} (h : s_ty C k = none) : ∀ n, k ≤ n → s_ty C n = none := by
  intro n
  induction n with
  | zero => intro hk; have : k = 0 := by omega
            rw [this] at h; exact h
  | succ n ih =>
    intro hk
    by_cases he : k = n + 1
    · rw [he] at h; exact h
    · show (match s_ty C n with | none => none | some st => _) = none
      rw [ih (by omega)]
theorem ty_some {C : CS} {n : Nat} {st : List Bool} (h : s_ty C n = some st) {k : Nat} (hk : k ≤ n) : ∃ st', s_ty C k = some st' := by
  cases hx : s_ty C k with
  | none => rw [ty_none hx n hk] at h; cases h
  | some st' => exact ⟨st', rfl⟩
/-- those that are yes or no -/
def BT : List Bool → (Nat → Int32) → Prop
  | [], _ => True
  | t :: r, v => (t = true → v r.length = 0 ∨ v r.length = 1) ∧ BT r v
theorem BT.upd {st : List Bool} {v v' : Nat → Int32} (h : BT st v) (he : ∀ j, j < st.length → v' j = v j) : BT st v' := by
  induction st with
  | nil => trivial
  | cons t r ih =>
    refine ⟨fun ht => ?_, ih h.2 (fun j hj => he j (by simp only [List.length_cons]; omega))⟩
    rw [he r.length (by simp only [List.length_cons]; omega)]
    exact h.1 ht
/-- one step on both stacks: from st to st' -/
theorem rule_step {C : CS} {A U M : Nat → Nat → Int32} {k : Nat} {st st' : List Bool} (hW : WFC C) (hM : RMo C A) (hU : RU C U) (hk : k < C 0 8) (hst : s_tstep (C 20 k) (C 21 k) st = some st') (hlen : st.length ≤ k)
    (h2 : ∀ j, j < st.length → U 2 j = M 2 j) (h3 : ∀ j, j < 11 → U 3 j = M 3 j) (hB : BT st (U 2)) :
    ∃ v w, f_Rule_isSo_l29 (nI st.length) (nI k) U = some (.inl (nI st'.length, nI (k + 1), u2 U 2 v w)) ∧ f_M_yieldsTo_l149 A (nI st.length) (nI k) M = some (.inl (nI st'.length, nI (k + 1), u2 M 2 v w)) ∧ st'.length ≤ k + 1 ∧ (∀ j, j < st'.length → u2 U 2 v w 2 j = u2 M 2 v w 2 j) ∧ BT st' (u2 U 2 v w 2) := by
  have h8 : C 0 8 ≤ 150 := by obtain ⟨_, _, _, _, _, _, _, _, h, _⟩ := hW; exact h
  have e40 := hM.d0.2.2.2.1
  obtain ⟨u1, u2'⟩ := hU
  have rU : rdx (U 1) 150 (nI k) = some (nI (s_enc (C 20 k) (C 21 k))) := by rw [rdx_nI (by omega) (by omega), u2' k hk]
  have r10 : rdx (A 10) 150 (nI k) = some (nI (C 20 k)) := by rw [rdx_nI (by omega) (by omega)]; exact congrArg some (hM 10 k hk)
  have r11 : rdx (A 11) 150 (nI k) = some (nI (C 21 k)) := by rw [rdx_nI (by omega) (by omega)]; exact congrArg some (hM 11 k hk)
  unfold f_Rule_isSo_l29 f_M_yieldsTo_l149
  rw [u1, e40, if_neg (nI_ge hk (by omega)), if_neg (nI_ge hk (by omega)), rU, r10, r11, obs, obs]
  generalize hc : C 20 k = c at hst ⊢
  generalize ho : C 21 k = o at hst ⊢
  -- a push
  have push : ∀ x : Int32, st' = false :: st → ∃ v w, (some (Sum.inl (nI st.length + 1, nI k + 1, u2 U 2 st.length x)) : Option ((Int32 × Int32 × (Nat → Nat → Int32)) ⊕ (Int32 × (Nat → Nat → Int32)))) = some (.inl (nI st'.length, nI (k + 1), u2 U 2 v w)) ∧ (some (Sum.inl (nI st.length + 1, nI k + 1, u2 M 2 st.length x)) : Option ((Int32 × Int32 × (Nat → Nat → Int32)) ⊕ (Nat → Nat → Int32))) = some (.inl (nI st'.length, nI (k + 1), u2 M 2 v w)) ∧ st'.length ≤ k + 1 ∧ (∀ j, j < st'.length → u2 U 2 v w 2 j = u2 M 2 v w 2 j) ∧ BT st' (u2 U 2 v w 2) := by
    intro x hs
    subst hs
    refine ⟨st.length, x, by rw [← nI_succ, ← nI_succ]; rfl, by rw [← nI_succ, ← nI_succ]; rfl, by simp only [List.length_cons]; omega, fun j hj => ?_, fun h => (by cases h), hB.upd (fun j hj => ?_)⟩
    · by_cases he : j = st.length
      · subst he; rw [u2_same, u2_same]
      · rw [u2_col _ _ he, u2_col _ _ he, h2 j (by simp only [List.length_cons] at hj; omega)]
    · rw [u2_col _ _ (by omega)]
  -- a replacement of the two upmost, or of one, by one
  have put : ∀ (r : List Bool) (t : Bool) (x : Int32) (l : Int32), st' = t :: r → r.length < st.length → BT r (U 2) → (t = true → x = 0 ∨ x = 1) → l = nI (r.length + 1) → ∃ v w, (some (Sum.inl (l, nI k + 1, u2 U 2 r.length x)) : Option ((Int32 × Int32 × (Nat → Nat → Int32)) ⊕ (Int32 × (Nat → Nat → Int32)))) = some (.inl (nI st'.length, nI (k + 1), u2 U 2 v w)) ∧ (some (Sum.inl (l, nI k + 1, u2 M 2 r.length x)) : Option ((Int32 × Int32 × (Nat → Nat → Int32)) ⊕ (Nat → Nat → Int32))) = some (.inl (nI st'.length, nI (k + 1), u2 M 2 v w)) ∧ st'.length ≤ k + 1 ∧ (∀ j, j < st'.length → u2 U 2 v w 2 j = u2 M 2 v w 2 j) ∧ BT st' (u2 U 2 v w 2) := by
    intro r t x l hs hr hBr hx hl
    subst hs; subst hl
    refine ⟨r.length, x, by rw [← nI_succ]; rfl, by rw [← nI_succ]; rfl, by simp only [List.length_cons]; omega, fun j hj => ?_, fun h => ?_, hBr.upd (fun j hj => ?_)⟩
    · by_cases he : j = r.length
      · subst he; rw [u2_same, u2_same]
      · rw [u2_col _ _ he, u2_col _ _ he, h2 j (by simp only [List.length_cons] at hj; omega)]
    · rw [u2_same]; exact hx h
    · rw [u2_col _ _ (by omega)]
  have hcase : (c = 0 ∧ o < 100 ∧ st' = false :: st) ∨ (c = 1 ∧ o < 11 ∧ st' = false :: st) ∨ (c = 8 ∧ ∃ r, st = true :: r ∧ st' = true :: r) ∨ ((c = 2 ∨ c = 3 ∨ c = 4 ∨ c = 5 ∨ c = 6 ∨ c = 7 ∨ c = 9 ∨ c = 10) ∧ ∃ t1 t2 t r, st = t1 :: t2 :: r ∧ st' = t :: r ∧ ∀ a b : Int32, (t2 = true → a = 0 ∨ a = 1) → (t1 = true → b = 0 ∨ b = 1) → ∃ x, f_Rule_apply (nI (s_enc c o)) a b = some x ∧ f_M_both (nI c) a b = some x ∧ (t = true → x = 0 ∨ x = 1)) := by
    unfold s_tstep at hst
    by_cases c0 : c = 0
    · rw [if_pos c0] at hst
      by_cases h : o < 100
      · rw [if_pos h] at hst; cases hst; exact Or.inl ⟨c0, h, rfl⟩
      · rw [if_neg h] at hst; cases hst
    rw [if_neg c0] at hst
    by_cases c1 : c = 1
    · rw [if_pos c1] at hst
      by_cases h : o < 11
      · rw [if_pos h] at hst; cases hst; exact Or.inr (Or.inl ⟨c1, h, rfl⟩)
      · rw [if_neg h] at hst; cases hst
    rw [if_neg c1] at hst
    by_cases c8 : c = 8
    · rw [if_pos c8] at hst
      match st, hst with
      | true :: r, hst => cases hst; exact Or.inr (Or.inr (Or.inl ⟨c8, r, rfl, rfl⟩))
    rw [if_neg c8] at hst
    refine Or.inr (Or.inr (Or.inr ?_))
    by_cases c2 : c = 2 ∨ c = 3 ∨ c = 4
    · rw [if_pos c2] at hst
      match st, hst with
      | false :: false :: r, hst =>
        cases hst
        refine ⟨by omega, false, false, false, r, rfl, rfl, fun a b _ _ => ?_⟩
        rcases c2 with rfl | rfl | rfl
        · exact ⟨a + b, rfl, rfl, fun h => (by cases h)⟩
        · exact ⟨a - b, rfl, rfl, fun h => (by cases h)⟩
        · exact ⟨a * b, rfl, rfl, fun h => (by cases h)⟩
    rw [if_neg c2] at hst
    by_cases c5 : c = 5 ∨ c = 6 ∨ c = 7
    · rw [if_pos c5] at hst
      match st, hst with
      | false :: false :: r, hst =>
        cases hst
        refine ⟨by omega, false, false, true, r, rfl, rfl, fun a b _ _ => ?_⟩
        rcases c5 with rfl | rfl | rfl
        · by_cases hab : b ≤ a
          · refine ⟨0, (if_pos hab : (if b ≤ a then (some 0 : Option Int32) else some 1) = some 0), ?_, fun _ => Or.inl rfl⟩
            show ((if b ≤ a then (some 0 : Option Int32) else some 1).bind fun v1 => if v1 = 0 then some 0 else some 1) = some 0
            rw [if_pos hab, obs, if_pos rfl]
          · refine ⟨1, (if_neg hab : (if b ≤ a then (some 0 : Option Int32) else some 1) = some 1), ?_, fun _ => Or.inr rfl⟩
            show ((if b ≤ a then (some 0 : Option Int32) else some 1).bind fun v1 => if v1 = 0 then some 0 else some 1) = some 1
            rw [if_neg hab, obs, if_neg (by decide)]
        · by_cases hab : a ≤ b
          · refine ⟨0, (if_pos hab : (if a ≤ b then (some 0 : Option Int32) else some 1) = some 0), ?_, fun _ => Or.inl rfl⟩
            show ((if a ≤ b then (some 0 : Option Int32) else some 1).bind fun v1 => if v1 = 0 then some 0 else some 1) = some 0
            rw [if_pos hab, obs, if_pos rfl]
          · refine ⟨1, (if_neg hab : (if a ≤ b then (some 0 : Option Int32) else some 1) = some 1), ?_, fun _ => Or.inr rfl⟩
            show ((if a ≤ b then (some 0 : Option Int32) else some 1).bind fun v1 => if v1 = 0 then some 0 else some 1) = some 1
            rw [if_neg hab, obs, if_neg (by decide)]
        · by_cases hab : a ≠ b
          · refine ⟨0, (if_pos hab : (if a ≠ b then (some 0 : Option Int32) else some 1) = some 0), ?_, fun _ => Or.inl rfl⟩
            show ((if a ≠ b then (some 0 : Option Int32) else some 1).bind fun v1 => if v1 = 0 then some 0 else some 1) = some 0
            rw [if_pos hab, obs, if_pos rfl]
          · refine ⟨1, (if_neg hab : (if a ≠ b then (some 0 : Option Int32) else some 1) = some 1), ?_, fun _ => Or.inr rfl⟩
            show ((if a ≠ b then (some 0 : Option Int32) else some 1).bind fun v1 => if v1 = 0 then some 0 else some 1) = some 1
            rw [if_neg hab, obs, if_neg (by decide)]
    rw [if_neg c5] at hst
    by_cases c9 : c = 9 ∨ c = 10
    · rw [if_pos c9] at hst
      match st, hst with
      | true :: true :: r, hst =>
        cases hst
        refine ⟨by omega, true, true, true, r, rfl, rfl, fun a b ha hb => ?_⟩
        rcases c9 with rfl | rfl <;> rcases ha rfl with rfl | rfl <;> rcases hb rfl with rfl | rfl
        · exact ⟨0, (show f_Rule_apply (nI 201) 0 0 = some 0 by decide), (show f_M_both (nI 9) 0 0 = some 0 by decide), fun _ => Or.inl rfl⟩
        · exact ⟨0, (show f_Rule_apply (nI 201) 0 1 = some 0 by decide), (show f_M_both (nI 9) 0 1 = some 0 by decide), fun _ => Or.inl rfl⟩
        · exact ⟨0, (show f_Rule_apply (nI 201) 1 0 = some 0 by decide), (show f_M_both (nI 9) 1 0 = some 0 by decide), fun _ => Or.inl rfl⟩
        · exact ⟨1, (show f_Rule_apply (nI 201) 1 1 = some 1 by decide), (show f_M_both (nI 9) 1 1 = some 1 by decide), fun _ => Or.inr rfl⟩
        · exact ⟨0, (show f_Rule_apply (nI 202) 0 0 = some 0 by decide), (show f_M_both (nI 10) 0 0 = some 0 by decide), fun _ => Or.inl rfl⟩
        · exact ⟨1, (show f_Rule_apply (nI 202) 0 1 = some 1 by decide), (show f_M_both (nI 10) 0 1 = some 1 by decide), fun _ => Or.inr rfl⟩
        · exact ⟨1, (show f_Rule_apply (nI 202) 1 0 = some 1 by decide), (show f_M_both (nI 10) 1 0 = some 1 by decide), fun _ => Or.inr rfl⟩
        · exact ⟨1, (show f_Rule_apply (nI 202) 1 1 = some 1 by decide), (show f_M_both (nI 10) 1 1 = some 1 by decide), fun _ => Or.inr rfl⟩
    rw [if_neg c9] at hst
    cases hst
  rcases hcase with ⟨rfl, c2, c3⟩ | ⟨rfl, c2, c3⟩ | ⟨rfl, r, rfl, hs'⟩ | ⟨hc', t1, t2, t, r, rfl, hs', hap⟩
  · -- a figure
    have e : nI (s_enc 0 o) = nI o := rfl
    rw [e, if_neg (show ¬ (200 : Int32) ≤ nI o from fun h => by have := (na_le (a := 200) (by omega) (by omega)).mp h; omega), if_neg (show ¬ (150 : Int32) ≤ nI st.length from fun h => by have := (na_le (a := 150) (by omega) (by omega)).mp h; omega)]
    have eo : f_Rule_operand U (nI o) = some (nI o) := by
      have : ∀ o, o < 100 → nI o - 100 < 0 := by decide
      unfold f_Rule_operand
      rw [if_pos (this o c2)]
    rw [eo, obs, ixx_nI (by omega) (by omega), obs, obs, se_r, if_neg (show ¬ (1 : Int32) < nI 0 by decide), if_neg (show ¬ (nI 0 ≠ 0) by decide), obs, obs, obs]
    exact push (nI o) c3
  · -- a fact
    have e : nI (s_enc 1 o) = nI (100 + o) := rfl
    rw [e, if_neg (show ¬ (200 : Int32) ≤ nI (100 + o) from fun h => by have := (na_le (a := 200) (by omega) (by omega)).mp h; omega), if_neg (show ¬ (150 : Int32) ≤ nI st.length from fun h => by have := (na_le (a := 150) (by omega) (by omega)).mp h; omega)]
    have eo : f_Rule_operand U (nI (100 + o)) = some (U 3 o) := by
      have e1 : nI (100 + o) - 100 = nI o := by
        rw [show (100 : Int32) = nI 100 from rfl, na_sub (by omega), Nat.add_sub_cancel_left]
      unfold f_Rule_operand
      rw [e1, if_neg (nI_pos (by omega)), if_neg (show ¬ (11 : Int32) ≤ nI o from fun h => by have := (na_le (a := 11) (by omega) (by omega)).mp h; omega), rdx_nI c2 (by omega), obs]
    rw [eo, obs, ixx_nI (by omega) (by omega), obs, obs, se_r, if_neg (show ¬ (1 : Int32) < nI 1 by decide), if_pos (show nI 1 ≠ 0 by decide), obs, rdx_nI c2 (by omega), obs, obs, obs, ← h3 o c2]
    exact push (U 3 o) c3
  · -- not
    have hl : (true :: r).length = r.length + 1 := rfl
    have e : nI (s_enc 8 o) = 200 := rfl
    rw [hl] at hlen h2 ⊢
    have m1 : nI (r.length + 1) - 1 = nI r.length := nI_pred _
    have b1 := hB.1 rfl
    rw [e, if_pos (show (200 : Int32) ≤ 200 by decide), obs, se_l, if_neg (show ¬ ((200 : Int32) ≠ 200) by decide), if_neg (show ¬ nI (r.length + 1) < 1 from fun h => by have := (na_lt (b := 1) (by omega) (by omega)).mp h; omega), m1, rdx_nI (by omega) (by omega), obs, ixx_nI (by omega) (by omega), obs, obs, se_r, if_pos (show (1 : Int32) < nI 8 by decide), if_neg (show ¬ (nI 8 ≠ 8) by decide), rdx_nI (by omega) (by omega), obs, obs, ← h2 r.length (by omega)]
    exact put r true (1 - U 2 r.length) (nI (r.length + 1)) hs' (by rw [hl]; omega) hB.2 (fun _ => by rcases b1 with b | b <;> rw [b] <;> decide) rfl
  · -- a step of two
    have hl : (t1 :: t2 :: r).length = r.length + 2 := rfl
    rw [hl] at hlen h2 ⊢
    obtain ⟨b1, b2, b3⟩ := hB
    have hen : 201 ≤ s_enc c o ∧ s_enc c o < 300 := by
      rcases hc' with rfl | rfl | rfl | rfl | rfl | rfl | rfl | rfl <;> exact ⟨Nat.le_of_ble_eq_true rfl, Nat.le_of_ble_eq_true rfl⟩
    have m1 : nI (r.length + 2) + (-1) = nI (r.length + 1) := by rw [← Int32.sub_eq_add_neg]; exact nI_pred _
    have m2 : nI (r.length + 1) - 1 = nI r.length := nI_pred _
    obtain ⟨x, x1, x2, x3⟩ := hap (U 2 r.length) (U 2 (r.length + 1)) b2 b1
    rw [if_pos (show (200 : Int32) ≤ nI (s_enc c o) from (na_le (a := 200) (by omega) (by omega)).mpr (by omega)), obs, se_l, if_pos (show nI (s_enc c o) ≠ 200 from fun e => by have := (na_eq (b := 200) (by omega) (by omega)).mp e; omega), obs, se_l, if_neg (show ¬ nI (r.length + 2) < 2 from fun h => by have := (na_lt (b := 2) (by omega) (by omega)).mp h; omega), m1, m2, rdx_nI (by omega) (by omega), rdx_nI (by omega) (by omega), obs, obs, x1, obs, ixx_nI (by omega) (by omega), obs]
    rw [if_pos (show (1 : Int32) < nI c from (na_lt (a := 1) (by omega) (by omega)).mpr (by omega)), if_pos (show nI c ≠ 8 from fun e => by have := (na_eq (b := 8) (by omega) (by omega)).mp e; omega), rdx_nI (by omega) (by omega), rdx_nI (by omega) (by omega), obs, obs, ← h2 r.length (by omega), ← h2 (r.length + 1) (by omega), x2, obs, obs]
    exact put r t x (nI (r.length + 1)) hs' (by rw [hl]; omega) b3 x3 rfl
