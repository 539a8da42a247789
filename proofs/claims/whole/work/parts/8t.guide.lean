/-! PURE MATH: the way to the target: goals, who is apart, once, begin, waits -/
def s_goal (C : CS) : Nat → Nat → Nat
  | 0 => C 15
  | i + 1 => fun m => if m = C 17 i then C 18 i + 1 else s_goal C i m
abbrev s_G (C : CS) : Nat → Nat := s_goal C (C 0 7)
theorem goal_ok {C : CS} (hW : WFC C) (hP : WFP C) : ∀ i, i ≤ C 0 7 → (∀ m, s_goal C i m ≤ 30) ∧ ∀ m, m < C 0 3 → okP C (s_goal C i m) := by
  intro i
  induction i with
  | zero => exact fun _ => ⟨hW.plan, hP.1⟩
  | succ i ih =>
    intro hi
    obtain ⟨h1, h2⟩ := ih (by omega)
    have hl := (hP.2.2.1 i (by omega)).1
    refine ⟨fun m => ?_, fun m hm => ?_⟩
    · show (if m = C 17 i then C 18 i + 1 else s_goal C i m) ≤ 30
      split
      · exact hl.1
      · exact h1 m
    · show okP C (if m = C 17 i then C 18 i + 1 else s_goal C i m)
      split
      · exact hl
      · exact h2 m hm
abbrev s_ap (C : CS) (m : Nat) : Prop := s_G C m ≠ C 15 m
def s_apart (C : CS) : Nat := bs (s_ap C) (C 0 3)
/-- the class's guide -/
def RG (C : CS) (GU : Nat → Nat → Int32) : Prop := (∀ m, m < C 0 3 → GU 1 m = oI (C 15 m)) ∧ (∀ m, m < C 0 3 → GU 2 m = oI (s_G C m)) ∧ GU 0 4 = nI (s_apart C)
theorem oI_eqP : ∀ {a b : Nat}, a ≤ 30 → b ≤ 30 → ((oI a = oI b) = (a = b)) := by
  have h : ∀ a, a < 31 → ∀ b, b < 31 → (oI a = oI b ↔ a = b) := by decide
  exact fun {a b} ha hb => propext (h a (by omega) b (by omega))
theorem WFC.l10 {C : CS} (h : WFC C) : C 0 7 ≤ 10 := by obtain ⟨_, _, _, _, _, _, _, h, _⟩ := h; exact h
theorem Y_guide {C : CS} {H NS : Nat → Nat → Int32} (BO GU : Nat → Nat → Int32) (hW : WFC C) (hP : WFP C) (hH : RH C H) (hS : RS C NS) : ∃ B' GU', f_Y_lookAhead H NS BO GU = some (B', GU') ∧ RB C (C 15) (C 16) B' ∧ RG C GU' := by
  have hN := hW.2.2.2.1
  have hL := hW.l10
  have h03 : H 0 3 = nI (C 0 3) := hH 0 3 (show 3 < 6 by omega)
  have e30 : NS 3 0 = nI (C 0 7) := hS 3 0 rfl
  obtain ⟨B', b1, b2⟩ := T_look BO hW hH hS
  unfold f_Y_lookAhead f_Guide_load
  rw [b1, obs]
  simp only [cl_0, cl_10]
  have g1 : ¬ ((0 : Int32) < 0 ∨ (0 : Int32) < 0 ∨ (10 : Int32) < 0 ∨ 10 < 0 + 10 ∨ 10 < 0 + 10) := by decide
  rw [if_neg g1, if_neg g1]
  generalize hG0 : u1 (u1 GU 1 (a_cpy (B' 1) (GU 1) 0 0 10)) 2 (a_cpy (B' 1) (u1 GU 1 (a_cpy (B' 1) (GU 1) 0 0 10) 2) 0 0 10) = G0
  have a1 : ∀ m, m < C 0 3 → G0 1 m = oI (C 15 m) := fun m hm => by
    rw [← hG0]
    show a_cpy (B' 1) (GU 1) 0 0 10 m = _
    rw [cpyN _ _ (by omega), Nat.sub_zero, Nat.zero_add, b2.1 m hm]
  have a2 : ∀ m, m < C 0 3 → G0 2 m = oI (C 15 m) := fun m hm => by
    rw [← hG0]
    show a_cpy (B' 1) _ 0 0 10 m = _
    rw [cpyN _ _ (by omega), Nat.sub_zero, Nat.zero_add, b2.1 m hm]
  let S : Nat → Nat → Nat → Int32 := fun i a b => if a = 2 ∧ b < C 0 3 then oI (s_goal C i b) else G0 a b
  have hSd : ∀ i a b, S i a b = if a = 2 ∧ b < C 0 3 then oI (s_goal C i b) else G0 a b := fun _ _ _ => rfl
  have e := loop_for (body := fun q => f_Guide_load_l32 NS q.1 q.2) (C 0 7) S (b := S (C 0 7)) 0 (by omega) (by omega)
    (fun i _ hi => by
      obtain ⟨hl, hm⟩ := hP.2.2.1 i hi
      show f_Guide_load_l32 NS (nI i) (S i) = some (Sum.inl (nI (i + 1), S (i + 1)))
      unfold f_Guide_load_l32
      rw [e30, if_neg (nI_ge hi (by omega)), rdx_nI (by omega) (by omega), hS 4 i hi, obs, rdx_nI (by omega) (by omega), hS 5 i hi, obs]
      show (ixx 10 (nI (C 17 i))).bind _ = _
      rw [ixx_nI (by omega) (by omega), obs, ← nI_succ]
      congr 3
      funext a b
      show u2 (S i) 2 (C 17 i) (nI (C 18 i)) a b = _
      rw [u2_eq, hSd, hSd]
      by_cases h : a = 2 ∧ b = C 17 i
      · obtain ⟨rfl, rfl⟩ := h
        rw [if_pos ⟨rfl, rfl⟩, if_pos ⟨rfl, hm⟩]
        show _ = oI (if C 17 i = C 17 i then C 18 i + 1 else _)
        rw [if_pos rfl, oI_s]
      · rw [if_neg h]
        by_cases h2 : a = 2 ∧ b < C 0 3
        · rw [if_pos h2, if_pos h2]
          show _ = oI (if b = C 17 i then C 18 i + 1 else s_goal C i b)
          rw [if_neg (fun e => h ⟨h2.1, e⟩)]
        · rw [if_neg h2, if_neg h2])
    (by
      show f_Guide_load_l32 NS (nI (C 0 7)) _ = _
      unfold f_Guide_load_l32
      rw [e30, if_pos (nI_le (Nat.le_refl _) (by omega))])
  have e0 : S 0 = G0 := by
    funext a b
    rw [hSd]
    split
    · rename_i h
      obtain ⟨rfl, hb⟩ := h
      exact (a2 b hb).symm
    · rfl
  rw [e0] at e
  rw [show ((0 : Int32), G0) = (nI 0, G0) from rfl, e, obs]
  generalize hG1 : S (C 0 7) = G1
  have c1 : ∀ m, m < C 0 3 → G1 1 m = oI (C 15 m) := fun m hm => by rw [← hG1, hSd, if_neg (by omega), a1 m hm]
  have c2 : ∀ m, m < C 0 3 → G1 2 m = oI (s_G C m) := fun m hm => by rw [← hG1, hSd, if_pos ⟨rfl, hm⟩]
  have e2 := loop_for (body := fun q => f_Guide_load_l70 H q.1 q.2) (C 0 3) (fun i => u2 G1 0 4 (nI (bs (s_ap C) i))) (b := u2 G1 0 4 (nI (s_apart C))) 0 (by omega) (by omega)
    (fun i _ hi => by
      show f_Guide_load_l70 H (nI i) (u2 G1 0 4 (nI (bs (s_ap C) i))) = some (Sum.inl (nI (i + 1), u2 G1 0 4 (nI (bs (s_ap C) (i + 1)))))
      unfold f_Guide_load_l70
      rw [h03, if_neg (nI_ge hi (by omega)), rdx_nI (by omega) (by omega), u2_row _ _ (show (2 : Nat) ≠ 0 by decide), c2 i hi, obs, rdx_nI (by omega) (by omega), u2_row _ _ (show (1 : Nat) ≠ 0 by decide), c1 i hi, obs, u2_same]
      simp only [oI_eqP ((goal_ok hW hP (C 0 7) (Nat.le_refl _)).1 i) (hW.plan i)]
      by_cases hc : s_G C i = C 15 i
      · rw [if_pos hc, bs_miss (p := s_ap C) (fun h => h hc), ← nI_succ]
      · rw [if_neg hc, ← bs_hit (p := s_ap C) hc, ← nI_succ, shl_1 _ (by omega), na_or]
        congr 3
        funext a b
        rw [u2_eq, u2_eq, u2_eq]
        by_cases h : a = 0 ∧ b = 4
        · rw [if_pos h, if_pos h]
        · rw [if_neg h, if_neg h, if_neg h])
    (by
      show f_Guide_load_l70 H (nI (C 0 3)) _ = _
      unfold f_Guide_load_l70
      rw [h03, if_pos (nI_le (Nat.le_refl _) (by omega))]; rfl)
  have e3 : u2 G1 0 4 0 = u2 G1 0 4 (nI (bs (s_ap C) 0)) := rfl
  rw [e3, show ((0 : Int32), u2 G1 0 4 (nI (bs (s_ap C) 0))) = (nI 0, u2 G1 0 4 (nI (bs (s_ap C) 0))) from rfl, e2, obs]
  refine ⟨B', _, rfl, b2, fun m hm => ?_, fun m hm => ?_, ?_⟩
  · rw [u2_row _ _ (by decide), c1 m hm]
  · rw [u2_row _ _ (by decide), c2 m hm]
  · rw [u2_same]
theorem M_goals {C : CS} {A : Nat → Nat → Int32} (MS : Nat → Nat → Int32) (hW : WFC C) (hP : WFP C) (hM : RMo C A) : ∃ MS', f_M_findGoals A MS = some MS' ∧ (∀ m, m < C 0 3 → MS' 1 m = oI (s_G C m)) := by
  have hN := hW.2.2.2.1
  have hL := hW.l10
  have e33 := hM.d0.2.2.1
  unfold f_M_findGoals cpM
  rw [if_pos (by decide), obs]
  generalize hG0 : u1 MS 1 _ = G0
  have a2 : ∀ m, m < C 0 3 → G0 1 m = oI (C 15 m) := fun m hm => by
    rw [← hG0, u1_eq, if_pos rfl, cl_10]
    show (if m < 10 then A 7 m else _) = _
    rw [if_pos (by omega), hM.here hm]
  let S : Nat → Nat → Nat → Int32 := fun i a b => if a = 1 ∧ b < C 0 3 then oI (s_goal C i b) else G0 a b
  have hSd : ∀ i a b, S i a b = if a = 1 ∧ b < C 0 3 then oI (s_goal C i b) else G0 a b := fun _ _ _ => rfl
  have e := loop_for (body := fun q => f_M_findGoals_l16 A q.1 q.2) (C 0 7) S (b := S (C 0 7)) 0 (by omega) (by omega)
    (fun i _ hi => by
      obtain ⟨hl, hm⟩ := hP.2.2.1 i hi
      show f_M_findGoals_l16 A (nI i) (S i) = some (Sum.inl (nI (i + 1), S (i + 1)))
      unfold f_M_findGoals_l16
      rw [e33, if_neg (nI_ge hi (by omega)), show (2 : Int32) * nI i + 1 = nI (2 * i + 1) from ix2 i 1, show (2 : Int32) * nI i = nI (2 * i) from na_mul 2 i, rdx_nI (by omega) (by omega), (hM.line hi).1, obs, rdx_nI (by omega) (by omega), (hM.line hi).2, obs, ixx_nI (by omega) (by omega), obs, ← nI_succ]
      congr 3
      funext a b
      rw [u2_eq, hSd, hSd]
      by_cases h : a = 1 ∧ b = C 17 i
      · obtain ⟨rfl, rfl⟩ := h
        rw [if_pos ⟨rfl, rfl⟩, if_pos ⟨rfl, hm⟩]
        show _ = oI (if C 17 i = C 17 i then C 18 i + 1 else _)
        rw [if_pos rfl, oI_s]
      · rw [if_neg h]
        by_cases h2 : a = 1 ∧ b < C 0 3
        · rw [if_pos h2, if_pos h2]
          show _ = oI (if b = C 17 i then C 18 i + 1 else s_goal C i b)
          rw [if_neg (fun e => h ⟨h2.1, e⟩)]
        · rw [if_neg h2, if_neg h2])
    (by
      show f_M_findGoals_l16 A (nI (C 0 7)) _ = _
      unfold f_M_findGoals_l16
      rw [e33, if_pos (nI_le (Nat.le_refl _) (by omega))])
  have e0 : S 0 = G0 := by
    funext a b
    rw [hSd]
    split
    · rename_i h
      obtain ⟨rfl, hb⟩ := h
      exact (a2 b hb).symm
    · rfl
  rw [e0] at e
  rw [show ((0 : Int32), G0) = (nI 0, G0) from rfl, e, obs]
  refine ⟨_, rfl, fun m hm => ?_⟩
  rw [hSd, if_pos ⟨rfl, hm⟩]
theorem M_apart {C : CS} {A : Nat → Nat → Int32} (MS : Nat → Nat → Int32) (hW : WFC C) (hP : WFP C) (hM : RMo C A) : ∃ MS', f_M_apartNow A MS = some (nI (s_apart C), MS') ∧ (∀ m, m < C 0 3 → MS' 1 m = oI (s_G C m)) := by
  have hN := hW.2.2.2.1
  have n3 : A 0 26 = nI (C 0 3) := hM.n (j := 3) (by omega)
  obtain ⟨MS', g1, g2⟩ := M_goals MS hW hP hM
  refine ⟨MS', ?_, g2⟩
  unfold f_M_apartNow
  rw [g1, obs]
  have e := loop_S (body := fun q => f_M_apartNow_l8 A MS' q.1 q.2) (C 0 3) (fun i => (nI (bs (s_ap C) i), nI i)) (b := nI (s_apart C)) 0 (by omega) (by omega)
    (fun i _ hi => by
      show f_M_apartNow_l8 A MS' (nI (bs (s_ap C) i)) (nI i) = _
      unfold f_M_apartNow_l8
      rw [n3, if_neg (nI_ge hi (by omega)), rdx_nI (by omega) (by omega), g2 i hi, obs, rdx_nI (by omega) (by omega), hM.here hi, obs]
      simp only [oI_eqP ((goal_ok hW hP (C 0 7) (Nat.le_refl _)).1 i) (hW.plan i)]
      by_cases hc : s_G C i = C 15 i
      · rw [if_pos hc, bs_miss (p := s_ap C) (fun h => h hc), ← nI_succ, obs, show (0 : Int32) = nI 0 from rfl, na_or, Nat.or_zero]
      · rw [if_neg hc, ← bs_hit (p := s_ap C) hc, ← nI_succ, shl_1 _ (by omega), obs, na_or])
    (by
      show f_M_apartNow_l8 A MS' _ (nI (C 0 3)) = _
      unfold f_M_apartNow_l8
      rw [n3, if_pos (nI_le (Nat.le_refl _) (by omega))]; rfl)
  show (loopN _ a_F (nI (bs (s_ap C) 0), nI 0)).bind _ = _
  rw [e, obs]
theorem T_apart {C : CS} {Y H NS A BO GU MS : Nat → Nat → Int32} (h : RL C Y H NS A) (hP : WFP C) : ∃ v B' GU' MS', f_Y_apart H NS BO GU = some (v, B', GU') ∧ f_M_apart A MS = some (v, u2 A 0 0 0, MS') := by
  obtain ⟨hW, hY, hH, hS, hM, hQ⟩ := h.thr 0
  obtain ⟨B', GU', a1, a2, a3⟩ := Y_guide BO GU hW hP hH hS
  obtain ⟨MS', m1, m2⟩ := M_apart MS hW hP hM
  refine ⟨nI (s_apart C), B', GU', MS', ?_, ?_⟩
  · unfold f_Y_apart
    rw [a1, obs]
    show some (GU' 0 4, B', GU') = _
    rw [a3.2.2]
  · unfold f_M_apart
    rw [m1, obs]
/-- some of those apart have gone -/
def s_mix (C : CS) (g m : Nat) : Nat := if g.testBit m = true then s_G C m else C 15 m
theorem mix_ok {C : CS} (hW : WFC C) (hP : WFP C) (g : Nat) : (∀ m, s_mix C g m ≤ 30) ∧ ∀ m, m < C 0 3 → okP C (s_mix C g m) := by
  obtain ⟨h1, h2⟩ := goal_ok hW hP (C 0 7) (Nat.le_refl _)
  refine ⟨fun m => ?_, fun m hm => ?_⟩
  · unfold s_mix
    split
    · exact h1 m
    · exact hW.plan m
  · unfold s_mix
    split
    · exact h2 m hm
    · exact hP.1 m hm
theorem mix_0 (C : CS) : s_mix C 0 = C 15 := by
  funext m
  unfold s_mix
  rw [Nat.zero_testBit, if_neg (by decide)]
theorem mix_all (C : CS) {m : Nat} (hm : m < C 0 3) : s_mix C (s_apart C) m = s_G C m := by
  have hb := bs_bit (s_ap C) (C 0 3) m
  unfold s_mix s_apart
  by_cases h : s_ap C m
  · rw [if_pos (by rw [hb]; exact decide_eq_true ⟨hm, h⟩)]
  · rw [if_neg (by rw [hb, decide_eq_true_eq]; exact fun g => h g.2)]
    exact (Decidable.not_not.mp h).symm
/-- whether all of a plan is lawful -/
def s_law (C : CS) (pl : Nat → Nat) : Int32 := if bs (s_bad C pl) (C 0 3) = 0 then 1 else 0
theorem law_zb (C : CS) (pl : Nat → Nat) : zb (s_law C pl) = s_law C pl := by
  unfold s_law
  split
  · exact zb_1
  · exact zb_0
theorem bad_congr {C : CS} {p q : Nat → Nat} (h : ∀ m, m < C 0 3 → p m = q m) : bs (s_bad C p) (C 0 3) = bs (s_bad C q) (C 0 3) := bs_congr (fun i hi => by
  have hc : s_clash C p i (p i - 1) = s_clash C q i (q i - 1) := by
    rw [h i hi]
    unfold s_clash s_or
    have e1 : bs (s_wP C p i (q i - 1)) (C 0 3) = bs (s_wP C q i (q i - 1)) (C 0 3) := bs_congr (fun o ho => by unfold s_wP; rw [h o ho])
    have e2 : bs (s_wR C p i (q i - 1)) (C 0 3) = bs (s_wR C q i (q i - 1)) (C 0 3) := bs_congr (fun o ho => by unfold s_wR; rw [h o ho])
    rw [e1, e2]
  unfold s_bad
  rw [hc, h i hi])
theorem law_congr {C : CS} {p q : Nat → Nat} (h : ∀ m, m < C 0 3 → p m = q m) : s_law C p = s_law C q := by
  unfold s_law
  rw [bad_congr h]
theorem Y_goOnly {C : CS} {H BO GU : Nat → Nat → Int32} {pl tm : Nat → Nat} (hW : WFC C) (hH : RH C H) (hB : RB C pl tm BO) (hG : RG C GU) {g : Nat} (hg : g < 2 ^ 31) : ∃ B', f_Guide_goOnly H BO GU (nI g) = some B' ∧ RB C (s_mix C g) tm B' := by
  have hN := hW.2.2.2.1
  have h03 : H 0 3 = nI (C 0 3) := hH 0 3 (show 3 < 6 by omega)
  let S : Nat → Nat → Nat → Int32 := fun i a b => if a = 1 ∧ b < i then oI (s_mix C g b) else BO a b
  have hSd : ∀ i a b, S i a b = if a = 1 ∧ b < i then oI (s_mix C g b) else BO a b := fun _ _ _ => rfl
  have e := loop_for (body := fun q => f_Guide_goOnly_l2 H GU (nI g) q.1 q.2) (C 0 3) S (b := S (C 0 3)) 0 (by omega) (by omega)
    (fun i _ hi => by
      obtain ⟨a1, a2⟩ := bitq (x := g) (j := i) hg (by omega)
      show f_Guide_goOnly_l2 H GU (nI g) (nI i) (S i) = some (Sum.inl (nI (i + 1), S (i + 1)))
      unfold f_Guide_goOnly_l2
      rw [h03, if_neg (nI_ge hi (by omega)), rdx_nI (by omega) (by omega), hG.1 i hi, rdx_nI (by omega) (by omega), hG.2.1 i hi, obs, obs, ixx_nI (by omega) (by omega)]
      simp only [a1]
      have hv : (if ¬ g.testBit i = true then (some (oI (C 15 i)) : Option Int32) else some (oI (s_G C i))) = some (oI (s_mix C g i)) := by
        unfold s_mix
        by_cases hb : g.testBit i = true
        · rw [if_neg (fun h => h hb), if_pos hb]
        · rw [if_pos hb, if_neg hb]
      rw [hv, obs, obs, ← nI_succ]
      congr 3
      funext a b
      rw [u2_eq, hSd, hSd]
      by_cases h : a = 1 ∧ b = i
      · rw [if_pos h, if_pos ⟨h.1, by omega⟩, h.2]
      · rw [if_neg h]
        by_cases h2 : a = 1 ∧ b < i
        · rw [if_pos h2, if_pos ⟨h2.1, by omega⟩]
        · rw [if_neg h2, if_neg (fun k => h2 ⟨k.1, by
            have : b ≠ i := fun e => h ⟨k.1, e⟩
            omega⟩)])
    (by
      show f_Guide_goOnly_l2 H GU (nI g) (nI (C 0 3)) _ = _
      unfold f_Guide_goOnly_l2
      rw [h03, if_pos (nI_le (Nat.le_refl _) (by omega))])
  have e0 : S 0 = BO := by
    funext a b
    rw [hSd, if_neg (by omega)]
  rw [e0] at e
  unfold f_Guide_goOnly
  rw [show ((0 : Int32), BO) = (nI 0, BO) from rfl, e, obs]
  refine ⟨_, rfl, fun m hm => ?_, fun m hm => ?_, fun r hr => ?_⟩
  · rw [hSd, if_pos ⟨rfl, hm⟩]
  · rw [hSd, if_neg (by omega), hB.2.1 m hm]
  · rw [hSd, if_neg (by omega), hB.2.2 r hr]
theorem Y_lawfulAfter {C : CS} {H BO GU : Nat → Nat → Int32} {pl tm : Nat → Nat} (hW : WFC C) (hP : WFP C) (hH : RH C H) (hB : RB C pl tm BO) (hG : RG C GU) {g : Nat} (hg : g < 2 ^ 31) : ∃ B', f_Guide_lawfulAfter H BO GU (nI g) = some (s_law C (s_mix C g), B') ∧ RB C (C 15) tm B' := by
  obtain ⟨B1, b1, b2⟩ := Y_goOnly hW hH hB hG hg
  obtain ⟨B2, c1, c2⟩ := Y_goOnly (g := 0) hW hH b2 hG (by omega)
  obtain ⟨k1, k2⟩ := mix_ok hW hP g
  rw [mix_0] at c2
  refine ⟨B2, ?_, c2⟩
  unfold f_Guide_lawfulAfter
  rw [b1, obs, Y_isLawful hW hH b2 k1 k2, obs, show (0 : Int32) = nI 0 from rfl, c1, obs]
  exact congrArg (fun x => some (x, B2)) (law_zb C (s_mix C g))
theorem T_once {C : CS} {Y H NS A BO GU MS : Nat → Nat → Int32} (h : RL C Y H NS A) (hP : WFP C) : ∃ v B' GU' MS', f_Y_once H NS BO GU = some (v, B', GU') ∧ f_M_once A MS = some (v, u2 A 0 0 0, MS') := by
  obtain ⟨hW, hY, hH, hS, hM, hQ⟩ := h.thr 0
  obtain ⟨B', GU', a1, a2, a3⟩ := Y_guide BO GU hW hP hH hS
  obtain ⟨MS', m1, m2⟩ := M_goals MS hW hP hM
  obtain ⟨k1, k2⟩ := goal_ok hW hP (C 0 7) (Nat.le_refl _)
  have hlt : s_apart C < 1024 := bs_lt10 _ hW.2.2.2.1
  obtain ⟨B2, b1, b2⟩ := Y_lawfulAfter (g := s_apart C) hW hP hH a2 a3 (by omega)
  refine ⟨s_law C (s_G C), B2, GU', MS', ?_, ?_⟩
  · unfold f_Y_once f_Guide_lawfulAtOnce
    rw [a1, obs]
    show ((f_Guide_lawfulAfter H B' GU' (GU' 0 4)).bind _).bind _ = _
    rw [a3.2.2, b1, obs, obs, law_congr (fun m hm => mix_all C hm)]
    exact congrArg (fun x => some (x, B2, GU')) (by rw [law_zb, law_zb])
  · unfold f_M_once
    rw [m1, obs, M_isLawful hW hM (fun m hm => m2 m hm) k1 k2, obs]
    exact congrArg (fun x => some (x, u2 A 0 0 0, MS')) (law_zb C (s_G C))
