/-! PURE MATH: a text begins and ends; target -/
/-- the tape is empty, the fault is told -/
def endC (C : CS) (f : Nat) : CS := fun a b => if a = 0 ∧ b = 9 then 0 else if a = 0 ∧ b = 12 then f else C a b
theorem end_t (C : CS) (f : Nat) : EQT C (endC C f) := fun a b _ _ _ h => by
  unfold endC
  rw [if_neg (fun g => h ⟨g.1, Or.inr (Or.inl g.2)⟩), if_neg (fun g => h ⟨g.1, Or.inr (Or.inr g.2)⟩)]
theorem end_9 (C : CS) (f : Nat) : endC C f 0 9 = 0 := if_pos ⟨rfl, rfl⟩
theorem end_12 (C : CS) (f : Nat) : endC C f 0 12 = f := by
  unfold endC
  rw [if_neg (by omega), if_pos ⟨rfl, rfl⟩]
theorem RT_end {C : CS} {T : Nat → Nat → Int32} {f : Nat} (h1 : T 0 1 = 0) (h9 : T 0 9 = oI f) : RT (endC C f) T := by
  intro a b hd
  match a, hd with
  | 0, hd =>
    have hb : b = 1 ∨ b = 9 := hd
    rcases hb with rfl | rfl
    · show T 0 1 = nI (endC C f 0 9)
      rw [end_9, h1]; rfl
    · show T 0 9 = oI (endC C f 0 12)
      rw [end_12, h9]
  | 1, hd =>
    have hb : b < endC C f 0 9 := hd
    rw [end_9] at hb
    omega
theorem RM_end {C : CS} {A A' : Nat → Nat → Int32} {f : Nat} (hM : RMo C A) (h2 : A' 0 2 = 0) (h8 : A' 0 8 = oI f) (ho : ∀ a b, ¬ (a = 0 ∧ (b = 0 ∨ b = 2 ∨ b = 8)) → A' a b = A a b) : RMo (endC C f) A' := by
  intro a b hd
  by_cases h02 : a = 0 ∧ b = 2
  · obtain ⟨rfl, rfl⟩ := h02
    show A' 0 2 = nI (endC C f 0 9)
    rw [end_9, h2]; rfl
  · by_cases h08 : a = 0 ∧ b = 8
    · obtain ⟨rfl, rfl⟩ := h08
      show A' 0 8 = oI (endC C f 0 12)
      rw [end_12, h8]
    · have h00 : ¬ (a = 0 ∧ b = 0) := by
        rintro ⟨rfl, rfl⟩
        have hd : (0 = 2 ∨ 0 = 8 ∨ (23 ≤ 0 ∧ 0 ≤ 27) ∨ 0 = 33 ∨ 0 = 40 ∨ 0 = 43 ∨ 0 = 65) := hd
        omega
      rw [ho a b (fun g => g.2.elim (fun e => h00 ⟨g.1, e⟩) (fun e => e.elim (fun e => h02 ⟨g.1, e⟩) (fun e => h08 ⟨g.1, e⟩)))]
      by_cases ha2 : a = 2
      · subst ha2
        have hb : b < endC C f 0 9 := hd
        rw [end_9] at hb
        omega
      · by_cases h40 : a = 0 ∧ b = 40
        · obtain ⟨rfl, rfl⟩ := h40
          exact hM.d0.2.2.2.1
        · by_cases h10 : a = 10
          · subst h10; exact hM 10 b hd
          · by_cases h11 : a = 11
            · subst h11; exact hM 11 b hd
            · obtain ⟨d1, d2⟩ := mV_t (end_t C f) ha2 h10 h11 (fun g => g.2.elim (fun e => h02 ⟨g.1, e⟩) (fun e => e.elim (fun e => h08 ⟨g.1, e⟩) (fun e => h40 ⟨g.1, e⟩))) hd
              rw [← d2]
              exact hM a b d1
theorem WFC_end {C : CS} (hW : WFC C) {f : Nat} (hf : f ≤ 601) : WFC (endC C f) := by
  have h8 : C 0 8 ≤ 150 := by obtain ⟨_, _, _, _, _, _, _, _, h, _⟩ := hW; exact h
  have h19 : ∀ k, C 19 k < 256 := by obtain ⟨_, _, _, _, _, _, _, _, _, _, _, _, _, _, _, _, _, _, _, _, _, _, _, _, h⟩ := hW; exact h
  exact WFC_t (end_t C f) hW h8 (by rw [end_9]; omega) (by rw [end_12]; exact hf) h19
theorem RL_end {C : CS} {Y H NS A A' : Nat → Nat → Int32} {f : Nat} (h : RL C Y H NS A) (hf : f ≤ 601) (h2 : A' 0 2 = 0) (h8 : A' 0 8 = oI f) (ho : ∀ a b, ¬ (a = 0 ∧ (b = 0 ∨ b = 2 ∨ b = 8)) → A' a b = A a b) : RL (endC C f) Y H NS A' := by
  obtain ⟨hW, hY, hH, hS, hM, hQ⟩ := h
  refine ⟨WFC_end hW hf, RY_t (end_t C f) hY, RH_t (end_t C f) hH, RS_t (end_t C f) hS, RM_end hM h2 h8 ho, ?_⟩
  unfold RQ
  rw [ho 1 0 (by omega), ho 1 1 (by omega)]
  exact hQ
/-- what a text leaves -/
def TXC (C C' : CS) : Prop := ∃ C1 f, ACT C C1 ∧ f ≤ 601 ∧ C' = endC C1 f
theorem WFC.c9 {C : CS} (hW : WFC C) : C 0 9 ≤ 600 ∧ ∀ k, C 19 k < 256 := by
  have h9 : C 0 9 ≤ 600 := by obtain ⟨_, _, _, _, _, _, _, _, _, h, _⟩ := hW; exact h
  have h19 : ∀ k, C 19 k < 256 := by obtain ⟨_, _, _, _, _, _, _, _, _, _, _, _, _, _, _, _, _, _, _, _, _, _, _, _, h⟩ := hW; exact h
  exact ⟨h9, h19⟩
/-- the reference begins -/
def bgA (A : Nat → Nat → Int32) : Nat → Nat → Int32 := u2 (u2 A 0 2 0) 0 8 (-1)
def bgM (M : Nat → Nat → Int32) (n : Nat) : Nat → Nat → Int32 := u2 (u2 (u2 (u2 M 0 3 (nI n)) 0 4 0) 0 5 (-1)) 0 7 0
theorem M_begins (A M : Nat → Nat → Int32) (n : Nat) : f_M_begins A M (nI n) = some (bgA A, bgM M n) := rfl
theorem open_both {C : CS} {A T : Nat → Nat → Int32} (M : Nat → Nat → Int32) (hW : WFC C) (hT : RT C T) (hM : RMo C A) {n : Nat} (hn : n ≤ C 0 9) :
    ∃ T' w', f_Tape_open T (nI n) = some (T', w') ∧ OSt (C 19) n 0 T' w' (bgM M n) ∧ TXt (C 19) n (bgA A) := by
  obtain ⟨h9, h19⟩ := hW.c9
  have t1 : T 0 1 = nI (C 0 9) := hT 0 1 (Or.inl rfl)
  have em : f_Math_min (nI n) (nI (C 0 9)) = some (nI n) := by
    unfold f_Math_min
    rw [if_neg (nI_nlt hn (by omega))]
  unfold f_Tape_open
  rw [t1, em, obs]
  generalize hG : u2 (u2 (u2 (u2 T 0 2 (nI n)) 0 5 0) 0 8 0) 0 9 (-1) = G
  have g1 : BY (C 19) n (G 1) := fun i hi => by
    rw [← hG, u2_row _ _ (by decide), u2_row _ _ (by decide), u2_row _ _ (by decide), u2_row _ _ (by decide)]
    exact hT 1 i (show i < C 0 9 by omega)
  have g2 : G 0 2 = nI n := by rw [← hG, u2_col _ _ (by decide), u2_col _ _ (by decide), u2_col _ _ (by decide), u2_same]
  have g5 : G 0 5 = nI 0 := by rw [← hG, u2_col _ _ (by decide), u2_col _ _ (by decide), u2_same]; rfl
  have g8 : G 0 8 = 0 := by rw [← hG, u2_col _ _ (by decide), u2_same]
  have g9 : G 0 9 = -1 := by rw [← hG, u2_same]
  obtain ⟨T', w', a1, a2, a3⟩ := Y_advance (e := 0) h19 g1 (by omega) (Nat.zero_le _) g2 g5
  rw [a1, obs]
  refine ⟨T', w', rfl, ⟨Nat.zero_le _, ?_, ?_, ?_, ?_, ?_, ?_, fun i hi => ?_, a2⟩, h19, by omega, fun i hi => ?_⟩
  · unfold bgM; rw [u2_col _ _ (by decide), u2_col _ _ (by decide), u2_col _ _ (by decide), u2_same]
  · unfold bgM; rw [u2_col _ _ (by decide), u2_col _ _ (by decide), u2_same]; rfl
  · unfold bgM; rw [u2_col _ _ (by decide), u2_same]
  · rw [a3 0 2 (by omega), g2]
  · rw [a3 0 8 (by omega), g8]
  · rw [a3 0 9 (by omega), g9]
  · rw [a3 1 i (by omega), g1 i hi]
  · unfold bgA
    rw [u2_row _ _ (by decide), u2_row _ _ (by decide)]
    exact hM 2 i (show i < C 0 9 by omega)
/-- so many bytes: may they be read -/
theorem G_n {C : CS} (hW : WFC C) (p : Int32) (K : Nat) (hK : K ≤ 600) : (∃ n, n ≤ C 0 9 ∧ n ≤ K ∧ p = nI n ∧ ¬ p < 0 ∧ ¬ nI (C 0 9) < p ∧ ¬ nI K < p) ∨ (p < 0 ∨ nI (C 0 9) < p ∨ nI K < p) := by
  obtain ⟨h9, _⟩ := hW.c9
  by_cases c0 : p < 0
  · exact Or.inr (Or.inl c0)
  · obtain ⟨n, hn, rfl⟩ := nI_of_nn c0
    by_cases c1 : nI (C 0 9) < nI n
    · exact Or.inr (Or.inr (Or.inl c1))
    · by_cases c2 : nI K < nI n
      · exact Or.inr (Or.inr (Or.inr c2))
      · have e1 := mt (na_lt (a := C 0 9) (b := n) (by omega) hn).mpr c1
        have e2 := mt (na_lt (a := K) (b := n) (by omega) hn).mpr c2
        exact Or.inl ⟨n, by omega, by omega, rfl, c0, c1, c2⟩
/-- a number that was read stood on the tape -/
theorem number_val {T T' : Nat → Nat → Int32} {w w' v : Nat} {lo hi : Int32} (hf : f_Tape_failed T = some 0) (hv : v < 2 ^ 31) (h : f_Tape_number T w lo hi = some (nI v, T', w')) : T 0 3 = 1 ∧ T 0 6 = nI v := by
  unfold f_Tape_number at h
  rw [hf, obs, if_pos rfl] at h
  by_cases c1 : T 0 3 = 1
  · rw [if_pos c1] at h
    by_cases c2 : T 0 6 < lo
    · rw [if_pos c2, obs, se_l] at h
      cases hh : f_Tape_fail T 2 with
      | none => rw [hh] at h; cases h
      | some x =>
        rw [hh, obs] at h
        have h3 : (-1 : Int32) = nI v := congrArg (fun z => z.1) (Option.some.inj h)
        exact absurd h3.symm (na_ne1 hv)
    · rw [if_neg c2] at h
      by_cases c3 : T 0 6 ≤ hi
      · rw [if_pos c3] at h
        cases hh : f_Tape_advance T with
        | none => rw [hh] at h; cases h
        | some x =>
          rw [hh, obs, obs, se_r] at h
          exact ⟨c1, congrArg (fun z => z.1) (Option.some.inj h)⟩
      · rw [if_neg c3, obs, se_l] at h
        cases hh : f_Tape_fail T 2 with
        | none => rw [hh] at h; cases h
        | some x =>
          rw [hh, obs] at h
          have h3 : (-1 : Int32) = nI v := congrArg (fun z => z.1) (Option.some.inj h)
          exact absurd h3.symm (na_ne1 hv)
  · rw [if_neg c1] at h
    cases hh : f_Tape_fail T 1 with
    | none => rw [hh] at h; cases h
    | some x =>
      rw [hh, obs] at h
      have h3 : (-1 : Int32) = nI v := congrArg (fun z => z.1) (Option.some.inj h)
      exact absurd h3.symm (na_ne1 hv)
/-- where a number fails, none of these stood there -/
theorem number_not {b : Nat → Nat} {n p w hi : Nat} {A T M T' : Nat → Nat → Int32} (hX : TXt b n A) (h : OSt b n p T w M) (hh : hi ≤ 1000) (hf : f_Tape_number T w (nI 0) (oI hi) = some (-1, T', w)) (c1 : T 0 3 = 1) : nI hi ≤ T 0 6 := by
  obtain ⟨p1, p2, p3, p4, p5, p6, p7, p8, t4, t3, t5, t6, t7, t8⟩ := h
  have h : OSt b n p T w M := ⟨p1, p2, p3, p4, p5, p6, p7, p8, t4, t3, t5, t6, t7, t8⟩
  have hk : k_kind b n (k_sp b n p) = 1 := by
    rw [t3] at c1
    have hle : k_kind b n (k_sp b n p) < 2 ^ 31 := by unfold k_kind; split <;> (try split) <;> (try split) <;> omega
    exact (na_eq (b := 1) hle (by omega)).mp c1
  have hvc := vC_le b (k_sp b n p) (k_dg b n (k_sp b n p) - k_sp b n p)
  have h6 := t6 hk
  rw [h6]
  by_cases c : q_vC b (k_sp b n p) (k_dg b n (k_sp b n p) - k_sp b n p) < hi
  · exfalso
    unfold f_Tape_number at hf
    rw [h.f.1, obs, if_pos rfl, if_pos c1, h6, if_neg (by rw [na_lt (by omega) (by omega)]; omega), if_pos (by rw [oI_ge (by omega) (by omega)]; exact c)] at hf
    cases ha : f_Tape_advance T with
    | none => rw [ha] at hf; cases hf
    | some x =>
      rw [ha, obs, obs, se_r] at hf
      have h3 : nI (q_vC b (k_sp b n p) (k_dg b n (k_sp b n p) - k_sp b n p)) = -1 := congrArg (fun z => z.1) (Option.some.inj hf)
      exact na_ne1 (by omega) h3
  · exact nI_le (by omega) (by omega)
