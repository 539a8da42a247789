/-! PURE MATH: target, the two -/
def tgC (C : CS) (many : Nat) (lm lp : Nat → Nat) : CS := fun a b => if a = 0 ∧ b = 7 then many else if a = 17 then lm b else if a = 18 then lp b else C a b
theorem same_tg (C : CS) (many : Nat) (lm lp : Nat → Nat) : SAME C (tgC C many lm lp) := fun a b h => by
  unfold tgC
  by_cases h1 : a = 0 ∧ b = 7
  · rw [h1.1, h1.2] at h; cases h
  · rw [if_neg h1]
    by_cases h2 : a = 17
    · rw [h2] at h; cases h
    · rw [if_neg h2]
      by_cases h3 : a = 18
      · rw [h3] at h; cases h
      · rw [if_neg h3]
theorem tg_0 (C : CS) (many : Nat) (lm lp : Nat → Nat) {b : Nat} (hb : b ≠ 7) : tgC C many lm lp 0 b = C 0 b := by
  unfold tgC
  rw [if_neg (fun h => hb h.2)]
  rfl
theorem WFC_tg {C : CS} (h : WFC C) {many : Nat} {lm lp : Nat → Nat} (hm : many ≤ 10) : WFC (tgC C many lm lp) := by
  obtain ⟨h1, h2, h3, h4, h5, h6, h7, h8, h9, h10, h11, h12, h13, h14, h15, h16, h17, h18, h19, h20, h21, h22, h23, h24, h25⟩ := h
  exact ⟨h1, h2, h3, h4, h5, h6, h7, hm, h9, h10, h11, h12, h13, h14, h15, h16, h17, h18, h19, h20, h21, h22, h23, h24, h25⟩
theorem ACT_tg {C : CS} (hP : WFP C) {many : Nat} {lm lp : Nat → Nat} (hl : ∀ i, i < many → okP C (lp i + 1) ∧ lm i < C 0 3) : ACT C (tgC C many lm lp) := by
  obtain ⟨p1, p2, p3, p4, p5⟩ := hP
  refine ⟨same_tg C many lm lp, ⟨p1, p2, hl, p4, p5⟩, fun n hB a b hab => ?_⟩
  have : tgC C many lm lp a b = C a b := by
    unfold tgC
    rw [if_neg (fun h => by have := h.1; omega), if_neg (by omega), if_neg (by omega)]
  rw [this]
  have := hB a b hab
  omega
theorem RM_tg {C : CS} {A A' : Nat → Nat → Int32} (h : RMo C A) {many : Nat} {lm lp : Nat → Nat} (h33 : A' 0 33 = nI many) (h9 : ∀ i, i < many → A' 9 (2 * i) = nI (lm i) ∧ A' 9 (2 * i + 1) = nI (lp i)) (ho : ∀ a b, a ≠ 9 → ¬ (a = 0 ∧ b = 33) → A' a b = A a b) : RMo (tgC C many lm lp) A' := by
  have hst := (same_tg C many lm lp).st
  intro a b hd
  by_cases e9 : a = 9
  · subst e9
    have hb : b < 2 * many := hd
    show A' 9 b = if b % 2 = 0 then nI (lm (b / 2)) else nI (lp (b / 2))
    obtain ⟨q1, q2⟩ := h9 (b / 2) (by omega)
    by_cases hb2 : b % 2 = 0
    · rw [if_pos hb2, ← q1, show 2 * (b / 2) = b from by omega]
    · rw [if_neg hb2, ← q2, show 2 * (b / 2) + 1 = b from by omega]
  by_cases e33 : a = 0 ∧ b = 33
  · obtain ⟨rfl, rfl⟩ := e33
    exact h33
  rw [ho a b e9 e33]
  have hd' : mD C a b := by
    unfold mD at hd ⊢
    simp only [hst] at hd
    split at hd <;> first | exact hd | contradiction
  rw [h a b hd']
  unfold mV
  simp only [hst]
  split
  · have hb : b = 2 ∨ b = 8 ∨ (23 ≤ b ∧ b ≤ 27) ∨ b = 33 ∨ b = 40 ∨ b = 43 ∨ b = 65 := hd'
    have h33' : b ≠ 33 := fun e => e33 ⟨rfl, e⟩
    repeat' split
    all_goals first | rfl | (rw [tg_0 _ _ _ _ (by omega)]) | (exfalso; omega)
  all_goals first | rfl | contradiction
theorem RS_tg {C : CS} {S S' : Nat → Nat → Int32} (h : RS C S) {many : Nat} {lm lp : Nat → Nat} (h3 : S' 3 0 = nI many) (h4 : ∀ i, i < many → S' 4 i = nI (lm i) ∧ S' 5 i = nI (lp i)) (ho : ∀ a b, a ≠ 3 → a ≠ 4 → a ≠ 5 → S' a b = S a b) : RS (tgC C many lm lp) S' := by
  intro a b hd
  match a, hd with
  | 0, hd =>
    rw [ho 0 b (by decide) (by decide) (by decide)]
    exact h 0 b hd
  | 1, hd =>
    rw [ho 1 b (by decide) (by decide) (by decide)]
    exact h 1 b hd
  | 2, hd =>
    rw [ho 2 b (by decide) (by decide) (by decide)]
    exact h 2 b hd
  | 3, hd =>
    have hb : b = 0 := hd
    subst hb
    exact h3
  | 4, hd => exact (h4 b hd).1
  | 5, hd => exact (h4 b hd).2
  | 6, hd =>
    rw [ho 6 b (by decide) (by decide) (by decide)]
    exact h 6 b hd
  | 7, hd =>
    rw [ho 7 b (by decide) (by decide) (by decide)]
    exact h 7 b hd
theorem Y_tcopy (ST NS : Nat → Nat → Int32) : ∃ NS', f_Target_copy ST NS = some NS' ∧ NS' 3 0 = ST 0 0 ∧ (∀ i, i < 10 → NS' 4 i = ST 1 i ∧ NS' 5 i = ST 2 i) ∧ ∀ a b, a ≠ 3 → a ≠ 4 → a ≠ 5 → NS' a b = NS a b := by
  unfold f_Target_copy
  simp only [cl_0, cl_10]
  rw [if_neg (by decide), if_neg (by decide)]
  refine ⟨_, rfl, ?_, fun i hi => ⟨?_, ?_⟩, fun a b h3 h4 h5 => ?_⟩
  · rw [u1_eq, if_neg (by decide), u1_eq, if_neg (by decide), u2_same]
  · rw [u1_eq, if_neg (by decide), u1_eq, if_pos rfl, cpyN _ _ (by omega), show 0 + (i - 0) = i from by omega]
  · rw [u1_eq, if_pos rfl, cpyN _ _ (by omega), show 0 + (i - 0) = i from by omega]
  · rw [u1_eq, if_neg h5, u1_eq, if_neg h4, u2_row _ _ h3]
theorem T_target {C : CS} {Y H NS A T ST MN : Nat → Nat → Int32} {w : Nat} (h : RL C Y H NS A) (hT : RT C T) (hP : WFP C) (p1 : Int32) :
    ∃ k v Y' T' ST' NS' w' v' A' M' C', f_Y_target Y T H ST NS w p1 = some (k, v, Y', T', ST', NS', w') ∧ f_M_target A MN p1 = some (v', A', M') ∧ A' 0 0 = cd1 k ∧ (k = 0 ∨ k = 2) ∧ (k = 0 → v = v') ∧ (C' = C ∨ TXC C C') ∧ RT C' T' ∧ RL C' Y' H NS' A' := by
  have h' := h.thr 0
  obtain ⟨hW, hY, hH, hS, hM, hQ⟩ := h'
  have hA : (u2 A 0 0 0) 0 0 = 0 := thr_0 A 0
  unfold f_Y_target f_M_target
  generalize u2 A 0 0 0 = A at hM hQ hA ⊢
  have h' : RL C Y H NS A := ⟨hW, hY, hH, hS, hM, hQ⟩
  obtain ⟨h9, h19⟩ := hW.c9
  have hN := hW.2.2.2.1
  have t1 : T 0 1 = nI (C 0 9) := hT 0 1 (Or.inl rfl)
  rw [t1, hM.d0.1]
  rcases G_n hW p1 120 (by omega) with ⟨n, hn1, hn2, rfl, c1, c2, c3⟩ | c
  · have c3 : ¬ (120 : Int32) < nI n := c3
    simp only [c1, c2, c3, if_false, obs, se_r, Y_ref_in, M_may_in hA, if_true]
    rw [if_pos (by decide), M_begins, obs]
    obtain ⟨T1, w1, o1, o2, o3⟩ := open_both MN hW hT hM hn1
    rw [o1, obs]
    have n3 : bgA A 0 26 = nI (C 0 3) := hM.n (j := 3) (by omega)
    have n0 : bgA A 0 23 = nI (C 0 0) := hM.n (j := 0) (by omega)
    have n1 : bgA A 0 24 = nI (C 0 1) := hM.n (j := 1) (by omega)
    obtain ⟨T2, ST2, w2, many, M2, x1, x2, x3⟩ := target_loop hW hH o3 n3 n0 n1 (n + 1) 0 0 0 T1 (u2 ST 0 0 0) w1 (bgM MN n) (fun _ => 0) (fun _ => 0) a_F a_F (by omega) (by unfold a_F; omega) (by unfold a_F; omega) o2 ⟨u2_same _ _ _ _, fun i hi => by omega, (fun x => by rw [Nat.zero_testBit]; exact ⟨(fun h => by cases h), (fun h => by obtain ⟨i, hi, _⟩ := h; omega)⟩), (fun i j _ hj => by omega), by decide⟩
    have x1 : loopN (fun q : Int32 × Int32 × (Nat → Nat → Int32) × (Nat → Nat → Int32) × Nat => f_Target_read_l10 H q.1 q.2.1 q.2.2.1 q.2.2.2.1 q.2.2.2.2) a_F (0, 0, T1, u2 ST 0 0 0, w1) = some (T2, ST2, w2) := x1
    have x2 : loopN (fun q : Int32 × Int32 × (Nat → Nat → Int32) => f_M_target_l48 (bgA A) q.1 q.2.1 q.2.2) a_F (0, 0, bgM MN n) = some (nI many, M2) := x2
    have yr : f_Target_read T1 H ST w1 = some (T2, ST2, w2) := by
      unfold f_Target_read
      rw [x1, obs]
    have te : f_Tape_empty T2 = some (u2 T2 0 1 0) := rfl
    rw [yr, obs, te, obs, x2, obs]
    have eb : ∀ a b, ¬ (a = 0 ∧ (b = 2 ∨ b = 8)) → bgA A a b = A a b := fun a b hab => by
      unfold bgA
      rw [u2_eq, if_neg (by omega), u2_eq, if_neg (by omega)]
    have eb2 : bgA A 0 2 = 0 := by unfold bgA; rw [u2_col _ _ (by decide), u2_same]
    rcases x3 with ⟨k8, k9, k5, g', lm, lp, hL⟩ | ⟨k, pl, g1, g2, g3, g4, g5, g6, g7⟩
    · have hmany := hL.le
      rw [Y_failed0 (T := u2 T2 0 1 0) (by rw [u2_col _ _ (by decide), k8]), obs, if_pos rfl]
      obtain ⟨NS', t1', t2, t3, t4⟩ := Y_tcopy ST2 NS
      unfold f_M_result
      rw [M_fine1 k5, obs, if_neg (by decide), obs, if_pos k5, t1', obs]
      have e2m : (2 : Int32) * nI many = nI (2 * many) := na_mul 2 many
      have ec : cpM (M2 5) 20 ((u2 (u2 (bgA A) 0 8 (M2 0 5)) 0 33 (nI many)) 9) 20 (2 * nI many) = some (fun j => if j < 2 * many then M2 5 j else (u2 (u2 (bgA A) 0 8 (M2 0 5)) 0 33 (nI many)) 9 j) := by
        unfold cpM
        rw [e2m, nI_cl (by omega), if_pos ⟨by omega, by omega⟩]
      show ∃ k v Y' T' ST' NS' w' v' A' M' C', some (0, _, _, _, _, _, _) = some (k, v, Y', T', ST', NS', w') ∧ ((cpM (M2 5) 20 ((u2 (u2 (bgA A) 0 8 (M2 0 5)) 0 33 (nI many)) 9) 20 (2 * nI many)).bind _) = some (v', A', M') ∧ _
      rw [ec, obs]
      have hl : ∀ i, i < many → okP C (lp i + 1) ∧ lm i < C 0 3 := fun i hi => ⟨(hL.2.1 i hi).2.2.2.2.2, (hL.2.1 i hi).2.2.2.2.1⟩
      refine ⟨0, _, _, _, _, _, _, _, _, _, endC (tgC C many lm lp) 0, rfl, rfl, ?_, Or.inl rfl, fun _ => ?_, Or.inr ⟨tgC C many lm lp, 0, ACT_tg hP hl, by omega, rfl⟩, ?_, ?_⟩
      · rw [u1_eq, if_neg (by decide), u2_col _ _ (by decide)]
        show (u2 (bgA A) 0 8 (M2 0 5)) 0 0 = _
        rw [u2_col _ _ (by decide), eb 0 0 (by omega), hA]; rfl
      · show _ = nI many
        rw [t2, hL.1]
      · exact RT_end (u2_same _ _ _ _) (by rw [u2_col _ _ (by decide), k9, oI_0])
      · refine RL_end (C := tgC C many lm lp) (A := u1 (u2 A 0 33 (nI many)) 9 (fun j => if j < 2 * many then M2 5 j else (u2 (u2 (bgA A) 0 8 (M2 0 5)) 0 33 (nI many)) 9 j)) ⟨WFC_tg hW (by omega), hY, RH_same (same_tg C many lm lp) hH, RS_tg hS ?_ (fun i hi => ?_) (fun a b h3 h4 h5 => ?_), RM_tg hM ?_ (fun i hi => ?_) (fun a b h9 h33 => ?_), ?_⟩ (by omega) ?_ ?_ (fun a b hab => ?_)
        · rw [t2, hL.1]
        · obtain ⟨a1, a2, _⟩ := hL.2.1 i hi
          exact ⟨by rw [(t3 i (by omega)).1, a1], by rw [(t3 i (by omega)).2, a2]⟩
        · exact t4 a b h3 h4 h5
        · rw [u1_eq, if_neg (by decide), u2_same]
        · obtain ⟨_, _, a3, a4, _⟩ := hL.2.1 i hi
          constructor
          · rw [u1_eq, if_pos rfl, if_pos (by omega), a3]
          · rw [u1_eq, if_pos rfl, if_pos (by omega), a4]
        · rw [u1_eq, if_neg h9, u2_eq, if_neg h33]
        · unfold RQ
          rw [u1_eq, if_neg (by decide), u2_row _ _ (by decide), u1_eq, if_neg (by decide), u2_row _ _ (by decide)]
          exact hQ
        · rw [u1_eq, if_neg (by decide), u2_col _ _ (by decide)]
          show (u2 (bgA A) 0 8 (M2 0 5)) 0 2 = _
          rw [u2_col _ _ (by decide), eb2]
        · rw [u1_eq, if_neg (by decide), u2_col _ _ (by decide)]
          show (u2 (bgA A) 0 8 (M2 0 5)) 0 8 = _
          rw [u2_same, k5, oI_0]
        · rw [u1_eq, u1_eq]
          by_cases ha9 : a = 9
          · rw [if_pos ha9, if_pos ha9]
          · rw [if_neg ha9, if_neg ha9, u2_eq, u2_eq]
            by_cases ha33 : a = 0 ∧ b = 33
            · rw [if_pos ha33, if_pos ha33]
            · rw [if_neg ha33, if_neg ha33]
              show (u2 (bgA A) 0 8 (M2 0 5)) a b = _
              rw [u2_eq, if_neg (by omega), eb a b (by omega)]
    · have fs : FSt n (u2 T2 0 1 0) M2 := ⟨k, pl, g1, g2, g3, by rw [u2_col _ _ (by decide), g4], by rw [u2_col _ _ (by decide), g5], g6, g7⟩
      rw [(fs.f (by omega)).1, obs, if_neg (by decide)]
      unfold f_M_result
      rw [(fs.f (by omega)).2, obs, if_pos rfl, obs, if_neg (show ¬ M2 0 5 = -1 from by rw [g6]; exact na_ne1 (by omega))]
      refine ⟨0, _, _, _, _, _, _, _, _, _, endC C (pl + 1), rfl, rfl, ?_, Or.inl rfl, fun _ => ?_, Or.inr ⟨C, pl + 1, ACT.refl hP, by omega, rfl⟩, ?_, ?_⟩
      · show u2 (bgA A) 0 8 (M2 0 5) 0 0 = _
        rw [u2_col _ _ (by decide), eb 0 0 (by omega), hA]; rfl
      · show u2 T2 0 1 0 0 8 - 10 = M2 0 6 - 10
        rw [u2_col _ _ (by decide), g4, g7]
      · exact RT_end (u2_same _ _ _ _) (by rw [u2_col _ _ (by decide), g5, oI_s])
      · refine RL_end h' (by omega) ?_ ?_ (fun a b hab => ?_)
        · show u2 (bgA A) 0 8 (M2 0 5) 0 2 = 0
          rw [u2_col _ _ (by decide), eb2]
        · show u2 (bgA A) 0 8 (M2 0 5) 0 8 = _
          rw [u2_same, g6, oI_s]
        · show u2 (bgA A) 0 8 (M2 0 5) a b = _
          rw [u2_eq, if_neg (by omega), eb a b (by omega)]
  · have ev : ((((if p1 < 0 then some (.inl ()) else if nI (C 0 9) < p1 then some (.inl ()) else if 120 < p1 then some (.inl ()) else some (.inr 1)) : Option (Unit ⊕ Int32)).bind fun b3 => sumE b3 (fun _ => some 0) (fun q => some q)) : Option Int32) = some 0 := by
      by_cases c0 : p1 < 0
      · rw [if_pos c0]; rfl
      · rw [if_neg c0]
        by_cases c1 : nI (C 0 9) < p1
        · rw [if_pos c1]; rfl
        · rw [if_neg c1, if_pos (show (120 : Int32) < p1 from (c.resolve_left c0).resolve_left c1)]; rfl
    rw [ev, obs, obs, Y_ref_out, obs, if_neg (show ¬ (2 : Nat) = 0 by decide)]
    have em : f_M_may A 0 1 1 = some (0, mRef A 1 1) := M_may_out (k := 1) hA (by decide) (by omega)
    rw [em, obs, if_neg (fun h => h rfl)]
    exact ⟨2, _, _, _, _, _, _, _, _, _, C, rfl, rfl, mRef_0 A 1 1, Or.inr rfl, (fun h => by cases h), Or.inl rfl, hT, h'.ref 1 (k := 1) (by omega)⟩
