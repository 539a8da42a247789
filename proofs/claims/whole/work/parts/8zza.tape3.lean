/-! PURE MATH: the tape: tokens (the class), bytes (the reference) -/
def k_kind (b : Nat → Nat) (n s : Nat) : Nat := if n ≤ s then 0 else if q_dg b s then 1 else if q_lt b s then 2 else 3
def k_end (b : Nat → Nat) (n s : Nat) : Nat := if n ≤ s then s else if q_dg b s then k_dg b n s else if q_lt b s then k_lt b n s else s + 1
/-- the value of k digits, the class's way, and the reference's -/
def q_vC (b : Nat → Nat) (s : Nat) : Nat → Nat
  | 0 => 0
  | k + 1 => if 10 * q_vC b s k + (b (s + k) - 48) < 1000 then 10 * q_vC b s k + (b (s + k) - 48) else 1000
def q_vR (b : Nat → Nat) (s : Nat) : Nat → Nat
  | 0 => 0
  | k + 1 => if q_vR b s k ≤ 9999 then 10 * q_vR b s k + (b (s + k) - 48) else 10000
theorem vC_le (b : Nat → Nat) (s k : Nat) : q_vC b s k ≤ 1000 := by
  cases k with
  | zero => exact Nat.zero_le _
  | succ k =>
    unfold q_vC
    split <;> omega
theorem vR_le {b : Nat → Nat} {s : Nat} : ∀ k, (∀ i, i < k → q_dg b (s + i)) → q_vR b s k ≤ 99999 := by
  intro k
  induction k with
  | zero => intro _; exact Nat.zero_le _
  | succ k ih =>
    intro h
    have h1 := ih (fun i hi => h i (by omega))
    have h2 := h k (by omega)
    unfold q_vR
    split <;> omega
theorem v_rel {b : Nat → Nat} {s : Nat} : ∀ k, (∀ i, i < k → q_dg b (s + i)) → (q_vC b s k = q_vR b s k ∧ q_vR b s k < 1000) ∨ (q_vC b s k = 1000 ∧ 1000 ≤ q_vR b s k) := by
  intro k
  induction k with
  | zero => intro _; exact Or.inl ⟨rfl, by show 0 < 1000; omega⟩
  | succ k ih =>
    intro h
    have h1 := ih (fun i hi => h i (by omega))
    have h2 := h k (by omega)
    unfold q_vC q_vR
    rcases h1 with ⟨g1, g2⟩ | ⟨g1, g2⟩
    · rw [g1]
      split <;> split <;> omega
    · rw [g1]
      split <;> split <;> omega
/-- what the class knows of the token at s -/
def TOK (b : Nat → Nat) (n s : Nat) (T : Nat → Nat → Int32) (w : Nat) : Prop := T 0 4 = nI s ∧ T 0 3 = nI (k_kind b n s) ∧ T 0 5 = nI (k_end b n s) ∧ (k_kind b n s = 1 → T 0 6 = nI (q_vC b s (k_dg b n s - s))) ∧ (k_kind b n s = 3 → T 0 6 = nI (b s)) ∧ WS b s (k_lt b n s) w
theorem Y_isDig {b : Nat → Nat} {T : Nat → Nat → Int32} {n i : Nat} (hb : ∀ i, b i < 256) (h1 : BY b n (T 1)) (hi : i < n) (hn : n ≤ 600) : f_Tape_isDigit T (nI i) = some (if q_dg b i then 1 else 0) := by
  have hx := hb i
  have e1 : (nI (b i) < 48) = (b i < 48) := propext (na_lt (b := 48) (by omega) (by omega))
  have e2 : ((57 : Int32) < nI (b i)) = (57 < b i) := propext (na_lt (a := 57) (by omega) (by omega))
  unfold f_Tape_isDigit
  rw [rdx_nI (by omega) (by omega), h1 i hi, obs, obs]
  simp only [e1, e2]
  by_cases c1 : b i < 48
  · rw [if_pos c1, if_neg (fun h => by have := h.1; omega), zb_0]
  · by_cases c2 : 57 < b i
    · rw [if_neg c1, if_pos c2, if_neg (fun h => by have := h.2; omega), zb_0]
    · rw [if_neg c1, if_neg c2, if_pos (show q_dg b i from ⟨by omega, by omega⟩), zb_1]
theorem Y_isLet {b : Nat → Nat} {T : Nat → Nat → Int32} {n i : Nat} (hb : ∀ i, b i < 256) (h1 : BY b n (T 1)) (hi : i < n) (hn : n ≤ 600) : f_Tape_isLetter T (nI i) = some (if q_lt b i then 1 else 0) := by
  have hx := hb i
  have e1 : (nI (b i) < 97) = (b i < 97) := propext (na_lt (b := 97) (by omega) (by omega))
  have e2 : ((122 : Int32) < nI (b i)) = (122 < b i) := propext (na_lt (a := 122) (by omega) (by omega))
  unfold f_Tape_isLetter
  rw [rdx_nI (by omega) (by omega), h1 i hi, obs, obs]
  simp only [e1, e2]
  by_cases c1 : b i < 97
  · rw [if_pos c1, if_neg (fun h => by have := h.1; omega), zb_0]
  · by_cases c2 : 122 < b i
    · rw [if_neg c1, if_pos c2, if_neg (fun h => by have := h.2; omega), zb_0]
    · rw [if_neg c1, if_neg c2, if_pos (show q_lt b i from ⟨by omega, by omega⟩), zb_1]
theorem M_isDig {x : Nat} (hx : x < 256) : f_M_isDigit (nI x) = some (if 48 ≤ x ∧ x ≤ 57 then 1 else 0) := by
  have e1 : (nI x < 48) = (x < 48) := propext (na_lt (b := 48) (by omega) (by omega))
  have e2 : ((57 : Int32) < nI x) = (57 < x) := propext (na_lt (a := 57) (by omega) (by omega))
  unfold f_M_isDigit
  simp only [e1, e2]
  by_cases c1 : x < 48
  · rw [if_pos c1, if_neg (fun h => by have := h.1; omega), zb_0]
  · by_cases c2 : 57 < x
    · rw [if_neg c1, if_pos c2, if_neg (fun h => by have := h.2; omega), zb_0]
    · rw [if_neg c1, if_neg c2, if_pos ⟨by omega, by omega⟩, zb_1]
theorem M_isSml {x : Nat} (hx : x < 256) : f_M_isSmall (nI x) = some (if 97 ≤ x ∧ x ≤ 122 then 1 else 0) := by
  have e1 : (nI x < 97) = (x < 97) := propext (na_lt (b := 97) (by omega) (by omega))
  have e2 : ((122 : Int32) < nI x) = (122 < x) := propext (na_lt (a := 122) (by omega) (by omega))
  unfold f_M_isSmall
  simp only [e1, e2]
  by_cases c1 : x < 97
  · rw [if_pos c1, if_neg (fun h => by have := h.1; omega), zb_0]
  · by_cases c2 : 122 < x
    · rw [if_neg c1, if_pos c2, if_neg (fun h => by have := h.2; omega), zb_0]
    · rw [if_neg c1, if_neg c2, if_pos ⟨by omega, by omega⟩, zb_1]
theorem Y_scanDigits {b : Nat → Nat} {T : Nat → Nat → Int32} {n s : Nat} (hb : ∀ i, b i < 256) (h1 : BY b n (T 1)) (hn : n ≤ 600) (hs : s ≤ n) (h2 : T 0 2 = nI n) (h5 : T 0 5 = nI s) : f_Tape_scanDigits T = some (u2 (u2 T 0 6 (nI (q_vC b s (k_dg b n s - s)))) 0 5 (nI (k_dg b n s))) := by
  unfold f_Tape_scanDigits
  have e := loop_run (body := fun q => f_Tape_scanDigits_l5 q) n (q_dg b) (fun i => u2 (u2 T 0 6 (nI (q_vC b s (i - s)))) 0 5 (nI i)) (fun i => u2 (u2 T 0 6 (nI (q_vC b s (i - s)))) 0 5 (nI i)) s hs (by omega)
    (fun i hsi hi hp => by
      have hv := vC_le b s (i - s)
      have hx := hb i
      have r1 : rdx ((u2 (u2 T 0 6 (nI (q_vC b s (i - s)))) 0 5 (nI i)) 1) 600 (nI i) = some (nI (b i)) := by rw [rdx_nI (by omega) (by omega), u2_row _ _ (by decide), u2_row _ _ (by decide), h1 i hi]
      have r2 : (u2 (u2 T 0 6 (nI (q_vC b s (i - s)))) 0 5 (nI i)) 0 6 = nI (q_vC b s (i - s)) := by rw [u2_col _ _ (by decide), u2_same]
      show f_Tape_scanDigits_l5 (u2 (u2 T 0 6 (nI (q_vC b s (i - s)))) 0 5 (nI i)) = _
      unfold f_Tape_scanDigits_l5
      rw [u2_same, u2_col _ _ (by decide), u2_col _ _ (by decide), h2, if_neg (nI_ge hi (by omega)), Y_isDig (n := n) hb (fun j hj => by rw [u2_row _ _ (by decide), u2_row _ _ (by decide), h1 j hj]) hi hn, obs, if_pos hp, if_neg (by decide), r1, obs, r2]
      have e1 : nI (q_vC b s (i - s)) * 10 + nI (b i) - 48 = nI (10 * q_vC b s (i - s) + (b i - 48)) := by
        rw [show (10 : Int32) = nI 10 from rfl, show (48 : Int32) = nI 48 from rfl, na_mul, na_add, na_sub (by omega), show q_vC b s (i - s) * 10 + b i - 48 = 10 * q_vC b s (i - s) + (b i - 48) from by omega]
      have e2 : f_Math_min 1000 (nI (10 * q_vC b s (i - s) + (b i - 48))) = some (nI (q_vC b s (i + 1 - s))) := by
        have e3 : (nI (10 * q_vC b s (i - s) + (b i - 48)) < 1000) = (10 * q_vC b s (i - s) + (b i - 48) < 1000) := propext (na_lt (b := 1000) (by omega) (by omega))
        have e4 : q_vC b s (i + 1 - s) = if 10 * q_vC b s (i - s) + (b i - 48) < 1000 then 10 * q_vC b s (i - s) + (b i - 48) else 1000 := by
          rw [show i + 1 - s = (i - s) + 1 from by omega]
          conv => lhs; unfold q_vC
          rw [show s + (i - s) = i from by omega]
        unfold f_Math_min
        simp only [e3]
        rw [e4]
        by_cases c : 10 * q_vC b s (i - s) + (b i - 48) < 1000
        · rw [if_pos c, if_pos c]
        · rw [if_neg c, if_neg c]; rfl
      rw [e1, e2, obs]
      congr 2
      rw [u2_col _ _ (by decide), u2_same, ← nI_succ]
      funext a c
      simp only [u2_eq]
      by_cases c1 : a = 0 ∧ c = 5
      · rw [if_pos c1, if_pos c1]
      · rw [if_neg c1, if_neg c1, if_neg c1]
        by_cases c2 : a = 0 ∧ c = 6
        · rw [if_pos c2, if_pos c2]
        · rw [if_neg c2, if_neg c2, if_neg c2])
    (fun i hsi hi hp => by
      show f_Tape_scanDigits_l5 (u2 (u2 T 0 6 (nI (q_vC b s (i - s)))) 0 5 (nI i)) = _
      unfold f_Tape_scanDigits_l5
      rw [u2_same, u2_col _ _ (by decide), u2_col _ _ (by decide), h2, if_neg (nI_ge hi (by omega)), Y_isDig (n := n) hb (fun j hj => by rw [u2_row _ _ (by decide), u2_row _ _ (by decide), h1 j hj]) hi hn, obs, if_neg hp, if_pos rfl])
    (by
      show f_Tape_scanDigits_l5 (u2 (u2 T 0 6 (nI (q_vC b s (n - s)))) 0 5 (nI n)) = _
      unfold f_Tape_scanDigits_l5
      rw [u2_same, u2_col _ _ (by decide), u2_col _ _ (by decide), h2, if_pos (nI_le (Nat.le_refl _) (by omega))])
  have e0 : (u2 (u2 T 0 6 (nI (q_vC b s (s - s)))) 0 5 (nI s)) = u2 T 0 6 0 := by
    rw [Nat.sub_self]
    exact u2_id (by rw [u2_col _ _ (by decide), h5])
  rw [e0] at e
  rw [e, obs]
  rfl
theorem Y_scanLetters {b : Nat → Nat} {T : Nat → Nat → Int32} {n s : Nat} (hb : ∀ i, b i < 256) (h1 : BY b n (T 1)) (hn : n ≤ 600) (hs : s ≤ n) (h2 : T 0 2 = nI n) (h5 : T 0 5 = nI s) : f_Tape_scanLetters T = some (u2 T 0 5 (nI (k_lt b n s))) := by
  unfold f_Tape_scanLetters
  have e := loop_run (body := fun q => f_Tape_scanLetters_l0 q) n (q_lt b) (fun i => u2 T 0 5 (nI i)) (fun i => u2 T 0 5 (nI i)) s hs (by omega)
    (fun i hsi hi hp => by
      show f_Tape_scanLetters_l0 (u2 T 0 5 (nI i)) = _
      unfold f_Tape_scanLetters_l0
      rw [u2_same, u2_col _ _ (by decide), h2, if_neg (nI_ge hi (by omega)), Y_isLet (n := n) hb (fun j hj => by rw [u2_row _ _ (by decide), h1 j hj]) hi hn, obs, if_pos hp, if_neg (by decide), u2_u2, ← nI_succ])
    (fun i hsi hi hp => by
      show f_Tape_scanLetters_l0 (u2 T 0 5 (nI i)) = _
      unfold f_Tape_scanLetters_l0
      rw [u2_same, u2_col _ _ (by decide), h2, if_neg (nI_ge hi (by omega)), Y_isLet (n := n) hb (fun j hj => by rw [u2_row _ _ (by decide), h1 j hj]) hi hn, obs, if_neg hp, if_pos rfl])
    (by
      show f_Tape_scanLetters_l0 (u2 T 0 5 (nI n)) = _
      unfold f_Tape_scanLetters_l0
      rw [u2_same, u2_col _ _ (by decide), h2, if_pos (nI_le (Nat.le_refl _) (by omega))])
  rw [show u2 T 0 5 (nI s) = T from u2_id h5] at e
  rw [e, obs]
  rfl
theorem Y_advance {b : Nat → Nat} {T : Nat → Nat → Int32} {n e : Nat} (hb : ∀ i, b i < 256) (h1 : BY b n (T 1)) (hn : n ≤ 600) (he : e ≤ n) (h2 : T 0 2 = nI n) (h5 : T 0 5 = nI e) :
    ∃ T' w', f_Tape_advance T = some (T', w') ∧ TOK b n (k_sp b n e) T' w' ∧ ∀ a c, ¬ (a = 0 ∧ (c = 3 ∨ c = 4 ∨ c = 5 ∨ c = 6)) → T' a c = T a c := by
  unfold f_Tape_advance
  have el := loop_run (body := fun q => f_Tape_advance_l8 q) n (q_sp b) (fun i => u2 T 0 4 (nI i)) (fun i => u2 T 0 4 (nI i)) e he (by omega)
    (fun i hsi hi hp => by
      have hp : b i = 32 := hp
      have r1 : rdx ((u2 T 0 4 (nI i)) 1) 600 (nI i) = some (nI (b i)) := by rw [rdx_nI (by omega) (by omega), u2_row _ _ (by decide), h1 i hi]
      show f_Tape_advance_l8 (u2 T 0 4 (nI i)) = _
      unfold f_Tape_advance_l8
      rw [u2_same, u2_col _ _ (by decide), h2, if_neg (nI_ge hi (by omega)), r1, obs, if_neg (fun h => h (by rw [hp]; rfl)), u2_u2, ← nI_succ])
    (fun i hsi hi hp => by
      have hx := hb i
      have r1 : rdx ((u2 T 0 4 (nI i)) 1) 600 (nI i) = some (nI (b i)) := by rw [rdx_nI (by omega) (by omega), u2_row _ _ (by decide), h1 i hi]
      show f_Tape_advance_l8 (u2 T 0 4 (nI i)) = _
      unfold f_Tape_advance_l8
      rw [u2_same, u2_col _ _ (by decide), h2, if_neg (nI_ge hi (by omega)), r1, obs, if_pos (show nI (b i) ≠ 32 from fun h => hp ((na_eq (b := 32) (by omega) (by omega)).mp h))])
    (by
      show f_Tape_advance_l8 (u2 T 0 4 (nI n)) = _
      unfold f_Tape_advance_l8
      rw [u2_same, u2_col _ _ (by decide), h2, if_pos (nI_le (Nat.le_refl _) (by omega))])
  obtain ⟨s1, s2⟩ := sp_le (b := b) he
  have el : loopN (fun q => f_Tape_advance_l8 q) a_F (u2 T 0 4 (nI e)) = some (u2 T 0 4 (nI (k_sp b n e))) := el
  rw [h5, el, obs]
  generalize hs : k_sp b n e = s at s1 s2 ⊢
  rw [u2_same T 0 4 (nI s)]
  generalize hG : u2 (u2 T 0 4 (nI s)) 0 5 (nI s) = G
  have gg : ∀ a c, G a c = if a = 0 ∧ c = 5 then nI s else if a = 0 ∧ c = 4 then nI s else T a c := fun a c => by rw [← hG, u2_eq, u2_eq]
  have g4 : G 0 4 = nI s := by rw [gg, if_neg (by omega), if_pos ⟨rfl, rfl⟩]
  have g5 : G 0 5 = nI s := by rw [gg, if_pos ⟨rfl, rfl⟩]
  have g2 : G 0 2 = nI n := by rw [gg, if_neg (by omega), if_neg (by omega), h2]
  have g1 : BY b n (G 1) := fun i hi => by rw [gg, if_neg (by omega), if_neg (by omega), h1 i hi]
  have go : ∀ a c, ¬ (a = 0 ∧ (c = 3 ∨ c = 4 ∨ c = 5 ∨ c = 6)) → G a c = T a c := fun a c h => by rw [gg, if_neg (by omega), if_neg (by omega)]
  rw [g4, g2]
  by_cases hsn : s < n
  · rw [if_pos (nI_lt hsn (by omega)), Y_isDig hb g1 hsn hn, obs]
    by_cases c1 : q_dg b s
    · have hk : k_kind b n s = 1 := by unfold k_kind; rw [if_neg (by omega), if_pos c1]
      have hend : k_end b n s = k_dg b n s := by unfold k_end; rw [if_neg (by omega), if_pos c1]
      have hl : k_lt b n s = s := run_stop (fun h => by have := h.1; have := c1.2; omega)
      rw [if_pos c1, if_neg (by decide), Y_scanDigits (b := b) (n := n) (s := s) hb (fun i hi => by rw [u2_row _ _ (by decide)]; exact g1 i hi) hn (by omega) (by rw [u2_col _ _ (by decide), g2]) (by rw [u2_col _ _ (by decide), g5]), obs]
      refine ⟨_, 0, rfl, ⟨?_, ?_, ?_, fun _ => ?_, fun h => ?_, ?_⟩, fun a c h => ?_⟩
      · rw [u2_col _ _ (by decide), u2_col _ _ (by decide), u2_col _ _ (by decide), g4]
      · rw [u2_col _ _ (by decide), u2_col _ _ (by decide), u2_same, hk]; rfl
      · rw [u2_same, hend]
      · rw [u2_col _ _ (by decide), u2_same]
      · rw [hk] at h; cases h
      · rw [hl]; exact WS_none b s
      · rw [u2_eq, if_neg (by omega), u2_eq, if_neg (by omega), u2_eq, if_neg (by omega), go a c h]
    · rw [if_neg c1, if_pos rfl, Y_isLet hb g1 hsn hn, obs]
      by_cases c2 : q_lt b s
      · have hk : k_kind b n s = 2 := by unfold k_kind; rw [if_neg (by omega), if_neg c1, if_pos c2]
        have hend : k_end b n s = k_lt b n s := by unfold k_end; rw [if_neg (by omega), if_neg c1, if_pos c2]
        obtain ⟨l1, l2⟩ := lt_le (b := b) (n := n) (a := s) (by omega)
        rw [if_pos c2, if_neg (by decide), Y_scanLetters (b := b) (n := n) (s := s) hb (fun i hi => by rw [u2_row _ _ (by decide)]; exact g1 i hi) hn (by omega) (by rw [u2_col _ _ (by decide), g2]) (by rw [u2_col _ _ (by decide), g5]), obs]
        obtain ⟨w, w1, w2⟩ := Y_findWord (b := b) (T := u2 (u2 G 0 3 2) 0 5 (nI (k_lt b n s))) (s := s) (e := k_lt b n s) (n := n) hb (fun i hi => by rw [u2_row _ _ (by decide), u2_row _ _ (by decide)]; exact g1 i hi) l1 l2 hn (by rw [u2_col _ _ (by decide), u2_col _ _ (by decide), g4]) (u2_same _ _ _ _)
        rw [w1, obs]
        refine ⟨_, w, rfl, ⟨?_, ?_, ?_, fun h => ?_, fun h => ?_, w2⟩, fun a c h => ?_⟩
        · rw [u2_col _ _ (by decide), u2_col _ _ (by decide), g4]
        · rw [u2_col _ _ (by decide), u2_same, hk]; rfl
        · rw [u2_same, hend]
        · rw [hk] at h; cases h
        · rw [hk] at h; cases h
        · rw [u2_eq, if_neg (by omega), u2_eq, if_neg (by omega), go a c h]
      · have hk : k_kind b n s = 3 := by unfold k_kind; rw [if_neg (by omega), if_neg c1, if_neg c2]
        have hend : k_end b n s = s + 1 := by unfold k_end; rw [if_neg (by omega), if_neg c1, if_neg c2]
        have hl : k_lt b n s = s := run_stop c2
        have r1 : rdx ((u2 G 0 3 3) 1) 600 (nI s) = some (nI (b s)) := by rw [rdx_nI (by omega) (by omega), u2_row _ _ (by decide), g1 s hsn]
        rw [if_neg c2, if_pos rfl, u2_col _ _ (by decide), g4, r1, obs, u2_col _ _ (by decide), u2_col _ _ (by decide), g4]
        refine ⟨_, 0, rfl, ⟨?_, ?_, ?_, fun h => ?_, fun _ => ?_, ?_⟩, fun a c h => ?_⟩
        · rw [u2_col _ _ (by decide), u2_col _ _ (by decide), u2_col _ _ (by decide), g4]
        · rw [u2_col _ _ (by decide), u2_col _ _ (by decide), u2_same, hk]; rfl
        · rw [u2_same, hend, nI_succ]
        · rw [hk] at h; cases h
        · rw [u2_col _ _ (by decide), u2_same]
        · rw [hl]; exact WS_none b s
        · rw [u2_eq, if_neg (by omega), u2_eq, if_neg (by omega), u2_eq, if_neg (by omega), go a c h]
  · have hk : k_kind b n s = 0 := by unfold k_kind; rw [if_pos (by omega)]
    have hend : k_end b n s = s := by unfold k_end; rw [if_pos (by omega)]
    have hl : k_lt b n s = s := by unfold k_lt; rw [show n - s = 0 from by omega]; rfl
    rw [if_neg (by rw [na_lt (by omega) (by omega)]; exact hsn)]
    refine ⟨_, 0, rfl, ⟨?_, ?_, ?_, fun h => ?_, fun h => ?_, ?_⟩, fun a c h => ?_⟩
    · rw [u2_col _ _ (by decide), g4]
    · rw [u2_same, hk]; rfl
    · rw [u2_col _ _ (by decide), g5, hend]
    · rw [hk] at h; cases h
    · rw [hk] at h; cases h
    · rw [hl]; exact WS_none b s
    · rw [u2_eq, if_neg (by omega), go a c h]
