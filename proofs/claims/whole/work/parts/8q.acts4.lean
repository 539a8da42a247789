/-! PURE MATH: drop, undo, let -/
theorem T_drop {C : CS} {Y H NS A BO : Nat → Nat → Int32} {r5 hm : Nat} (h : RL C Y H NS A) (hP : WFP C) (p1 : Int32) : TM C H (f_Y_drop Y H NS BO hm r5 p1) (f_M_drop A p1) cd1 (fun k => k = 1) := by
  have h' := h.thr 0
  obtain ⟨hW, hY, hH, hS, hM, hQ⟩ := h'
  have hA : (u2 A 0 0 0) 0 0 = 0 := thr_0 A 0
  unfold f_Y_drop f_M_drop
  generalize u2 A 0 0 0 = A at hM hQ hA ⊢
  have h' : RL C Y H NS A := ⟨hW, hY, hH, hS, hM, hQ⟩
  have z1 : ((1 : Int32) ≠ 0) = True := by simp
  have z10 : ((1 : Int32) = 0) = False := by simp
  have hN := hW.2.2.2.1
  rcases G_meet (Y := Y) hW hH hM hA p1 with ⟨m, h1, rfl, e1, e2⟩ | ⟨e1, e2⟩
  · rw [e1, e2 1]
    have hp := hW.plan m
    have e43 : A 0 43 = nI (C 0 5) := hM.d0.2.2.2.2.1
    have h5 := hW.n31 (j := 5) (by omega)
    have h5' : C 0 5 ≤ 30 := hW.2.2.2.2.2.1
    simp only [obs, if_true, z1, rdx_nI (show m < 10 by omega) (show (10 : Nat) < 2 ^ 31 by omega), hS 1 m h1, hM.here h1, show nV C 1 m = oI (C 15 m) from rfl, ne_eq, oI_z hp, Y_full hW hS, e43, Y_isFixed hW hH h1, M_isFixed hW hM h1]
    by_cases c1 : C 15 m = 0
    · simp only [c1, not_true, if_false]
      exact TM.ans (B := BO) (r := r5) 0 hP h' hA rfl rfl rfl
    · simp only [c1, not_false_eq_true, if_true]
      have n30 : (nI (C 0 5) = 30) = (C 0 5 = 30) := nI_eqP (b := 30) h5 (by omega)
      simp only [n30]
      by_cases c2 : C 0 5 < 30
      · have c2' : ¬ C 0 5 = 30 := by omega
        have hf := hW.fixed m
        simp only [c2, c2', not_false_eq_true, if_true]
        by_cases c3 : C 10 m = 0
        · obtain ⟨B1, b1, b2⟩ := T_look BO hW hH hS
          simp only [c3, show (nI 0 = 0) = True from eq_true rfl, if_true, b1, obs, ixx_nI (show m < 10 by omega) (show (10 : Nat) < 2 ^ 31 by omega)]
          let pl : Nat → Nat := fun x => if x = m then 0 else C 15 x
          have pl30 : ∀ x, pl x ≤ 30 := fun x => by
            show (if x = m then _ else _) ≤ _
            split
            · omega
            · exact hW.plan x
          have q1 : ∀ x, x < C 0 3 → u2 B1 1 m (-1) 1 x = oI (pl x) := fun x hx => by
            show _ = oI (if x = m then _ else _)
            by_cases hxm : x = m
            · subst hxm; rw [u2_same, if_pos rfl, oI_0]
            · rw [u2_col _ _ hxm, if_neg hxm, b2.1 x hx]
          have q2 : ∀ x, x < C 0 3 → u2 B1 1 m (-1) 2 x = nI (C 16 x) := fun x hx => by
            rw [u2_row _ _ (by decide), b2.2.1 x hx]
          obtain ⟨NS', g1, g2⟩ := Y_act (BO := u2 B1 1 m (-1)) (pl := pl) (tm := C 16) hW hS c2 q1 q2
          obtain ⟨A', k1, k2, k3⟩ := M_keepsAct hW hM c2
          simp only [g1, obs, k1]
          refine TM.act (C' := setPT (keepC C) pl (C 16)) (B := u2 B1 1 m (-1)) (r := hm) 1 ?_ ?_ ?_ rfl rfl rfl
          · refine ACT_keepPT hW hP (fun x hx => ?_) (fun n hn x => by have := hn x; omega)
            show okP C (if x = m then _ else _)
            by_cases hxm : x = m
            · rw [if_pos hxm]
              exact ⟨by omega, fun h => absurd rfl h⟩
            · rw [if_neg hxm]; exact hP.1 x hx
          · refine RL_act h' pl30 c2 g2 k2 (fun b => k3 1 b (by decide) (by omega)) (fun a b ha hb => ?_) (fun x hx => ?_) (fun x hx => ?_)
            · rw [u2_row _ _ ha]
            · by_cases hxm : x = m
              · subst hxm
                rw [u2_same]
                show _ = oI (if x = x then _ else _)
                rw [if_pos rfl, oI_0]
              · rw [u2_col _ _ hxm, k3 7 x (by decide) (by omega), hM.here hx]
                show _ = oI (if x = m then _ else _)
                rw [if_neg hxm]
            · rw [u2_row _ _ (show (8 : Nat) ≠ 7 by decide), k3 8 x (by decide) (by omega), hM.times hx]
          · rw [u2_row _ _ (by decide), k3 0 0 (by decide) (by decide), hA]
        · have hf1 : C 10 m = 1 := by omega
          simp only [hf1, show (nI 1 = 0) = False from eq_false (by decide), if_false]
          exact TM.ans (B := BO) (r := r5) _ hP h' hA rfl rfl rfl
      · have c2' : C 0 5 = 30 := by omega
        simp only [c2, c2', not_true, if_false, show ¬ (30 : Nat) < 30 by omega, z10]
        exact TM.ans (B := BO) (r := r5) _ hP h' hA rfl rfl rfl
  · refine TM.ref (B := BO) (r := r5) 0 (by omega) hP h' rfl ?_ ?_
    · rw [e1]; rfl
    · rw [e2 1 (by decide)]; rfl
theorem mD_upd5 {C : CS} {n : Nat} (hn : n ≤ C 0 5) {a b : Nat} (hd : mD (updC C 0 5 n) a b) : mD C a b := by
  have hst := (same_upd (C := C) (a := 0) (b := 5) (v := n) rfl).st
  unfold mD at hd ⊢
  simp only [hst] at hd
  split at hd
  all_goals first | exact hd | contradiction | skip
  have h2 : b / 20 < n ∧ b % 20 % 10 < C 0 3 := hd
  show b / 20 < C 0 5 ∧ _
  exact ⟨by omega, h2.2⟩
theorem RM_acts {C : CS} {A : Nat → Nat → Int32} (hM : RMo C A) {n : Nat} (hn : n ≤ C 0 5) : RMo (updC C 0 5 n) (u2 A 0 43 (nI n)) := by
  have hst := (same_upd (C := C) (a := 0) (b := 5) (v := n) rfl).st
  refine Rel.upd hM (fun _ => rfl) (fun a b hd hne => ⟨mD_upd5 hn hd, ?_⟩)
  have hd' := mD_upd5 hn hd
  unfold mV
  simp only [hst]
  split
  · have hb : b = 2 ∨ b = 8 ∨ (23 ≤ b ∧ b ≤ 27) ∨ b = 33 ∨ b = 40 ∨ b = 43 ∨ b = 65 := hd'
    have h43 : b ≠ 43 := fun e => hne ⟨rfl, e⟩
    have k0 : ∀ j, j ≠ 5 → updC C 0 5 n 0 j = C 0 j := fun j hj => by
      unfold updC
      rw [if_neg (fun h => hj h.2)]
    repeat' split
    all_goals first | rfl | (rw [k0 _ (by omega)]) | (exfalso; omega)
  all_goals first | rfl | contradiction
theorem RS_acts {C : CS} {S : Nat → Nat → Int32} (hS : RS C S) {n : Nat} (hn : n ≤ C 0 5) : RS (updC C 0 5 n) (u2 S 0 4 (nI n)) := by
  refine Rel.upd hS (fun _ => rfl) (fun a b hd hne => ?_)
  match a, hd with
  | 0, hd =>
    have hb : b = 3 ∨ b = 4 := hd
    have hb3 : b = 3 := by
      rcases hb with h | h
      · exact h
      · exact absurd ⟨rfl, h⟩ hne
    subst hb3
    exact ⟨Or.inl rfl, rfl⟩
  | 1, hd => exact ⟨hd, rfl⟩
  | 2, hd => exact ⟨hd, rfl⟩
  | 3, hd => exact ⟨hd, rfl⟩
  | 4, hd => exact ⟨hd, rfl⟩
  | 5, hd => exact ⟨hd, rfl⟩
  | 6, hd =>
    have h2 : b / 10 < n ∧ b % 10 < C 0 3 := hd
    exact ⟨⟨by omega, h2.2⟩, rfl⟩
  | 7, hd =>
    have h2 : b / 10 < n ∧ b % 10 < C 0 3 := hd
    exact ⟨⟨by omega, h2.2⟩, rfl⟩
/-- the reference's plan as it was, the first i of it -/
def ub (A : Nat → Nat → Int32) (n i : Nat) : Nat → Nat → Int32 := fun a b => if a = 7 ∧ b < i then A 12 (20 * n + b) else if a = 8 ∧ b < i then A 12 (20 * n + 10 + b) else A a b
theorem RL_back {C : CS} {Y H NS A : Nat → Nat → Int32} (h : RL C Y H NS A) (hP : WFP C) {n : Nat} (hn : C 0 5 = n + 1) {NS' A' : Nat → Nat → Int32} (g1 : ∀ m, m < C 0 3 → NS' 1 m = NS 6 (10 * n + m)) (g2 : ∀ m, m < C 0 3 → NS' 2 m = NS 7 (10 * n + m)) (go : ∀ a b, a ≠ 1 → a ≠ 2 → NS' a b = u2 NS 0 4 (nI n) a b)
    (k1 : ∀ m, m < C 0 3 → A' 7 m = A 12 (20 * n + m)) (k2 : ∀ m, m < C 0 3 → A' 8 m = A 12 (20 * n + 10 + m)) (ko : ∀ a b, a ≠ 7 → a ≠ 8 → A' a b = u2 A 0 43 (nI n) a b) :
    ∃ C', ACT C C' ∧ RL C' Y H NS' A' := by
  obtain ⟨hW, hY, hH, hS, hM, hQ⟩ := h
  have hN := hW.2.2.2.1
  let pl : Nat → Nat := fun m => if m < C 0 3 then C 22 (10 * n + m) else 0
  let tm : Nat → Nat := fun m => C 23 (10 * n + m)
  have hpl : ∀ m, m < C 0 3 → pl m = C 22 (10 * n + m) := fun m hm => by show (if _ then _ else _) = _; rw [if_pos hm]
  have hok : ∀ m, m < C 0 3 → okP C (pl m) := fun m hm => by rw [hpl m hm]; exact hP.2.2.2.1 n m (by omega) hm
  have pl30 : ∀ m, pl m ≤ 30 := fun m => by
    by_cases hm : m < C 0 3
    · exact (hok m hm).1
    · show (if _ then _ else _) ≤ _; rw [if_neg hm]; omega
  have hs : SAME C (setPT (updC C 0 5 n) pl tm) := (same_upd rfl).trans (same_setPT _ _ _)
  have hWu : WFC (updC C 0 5 n) := by
    obtain ⟨h1, h2, h3, h4, g5, h6, h7, h8, h9, h10, h11, h12, h13, h14, h15, h16, h17, h18, h19, h20, h21, h22, h23, h24, h25⟩ := hW
    exact ⟨h1, h2, h3, h4, g5, (show n ≤ 30 by omega), h7, h8, h9, h10, h11, h12, h13, h14, h15, h16, h17, h18, h19, h20, h21, h22, h23, h24, h25⟩
  have hPu : WFP (updC C 0 5 n) := by
    obtain ⟨h1, h2, h3, h4, h5⟩ := hP
    exact ⟨h1, h2, h3, fun a m (ha : a < n) hm => h4 a m (by omega) hm, h5⟩
  refine ⟨setPT (updC C 0 5 n) pl tm, ⟨hs, WFP_PT (C := updC C 0 5 n) hPu hok, fun k hk a b hab => ?_⟩, WFC_PT hWu pl30, RY_same hs hY, RH_same hs hH, RS_PT (RS_acts hS (by omega)) pl tm go ?_ ?_, RM_PT (RM_acts hM (by omega)) pl tm ko ?_ ?_, ?_⟩
  · unfold setPT
    by_cases h15 : a = 15
    · subst h15; rcases hab with h | h <;> simp at h
    rw [if_neg h15]
    by_cases h16 : a = 16
    · rw [if_pos h16]
      exact Nat.le_trans (hk 23 _ (Or.inr rfl)) (by omega)
    rw [if_neg h16]
    unfold updC
    rw [if_neg (fun h => by have := h.1; subst this; rcases hab with h | h <;> simp at h)]
    exact Nat.le_trans (hk a b hab) (by omega)
  · intro m hm
    have hm : m < C 0 3 := hm
    rw [g1 m hm, hpl m hm]
    exact hS 6 (10 * n + m) (show _ ∧ _ from ⟨by omega, by rw [show (10 * n + m) % 10 = m from by omega]; exact hm⟩)
  · intro m hm
    have hm : m < C 0 3 := hm
    rw [g2 m hm]
    exact hS 7 (10 * n + m) (show _ ∧ _ from ⟨by omega, by rw [show (10 * n + m) % 10 = m from by omega]; exact hm⟩)
  · intro m hm
    have hm : m < C 0 3 := hm
    rw [k1 m hm, hpl m hm, hM 12 (20 * n + m) (show _ ∧ _ from ⟨by omega, by omega⟩)]
    show (if (20 * n + m) % 20 < 10 then oI (C 22 (10 * ((20 * n + m) / 20) + (20 * n + m) % 20)) else _) = _
    rw [if_pos (by omega), show 10 * ((20 * n + m) / 20) + (20 * n + m) % 20 = 10 * n + m from by omega]
  · intro m hm
    have hm : m < C 0 3 := hm
    rw [k2 m hm, hM 12 (20 * n + 10 + m) (show _ ∧ _ from ⟨by omega, by omega⟩)]
    show (if (20 * n + 10 + m) % 20 < 10 then _ else nI (C 23 (10 * ((20 * n + 10 + m) / 20) + ((20 * n + 10 + m) % 20 - 10)))) = _
    rw [if_neg (by omega), show 10 * ((20 * n + 10 + m) / 20) + ((20 * n + 10 + m) % 20 - 10) = 10 * n + m from by omega]
  · unfold RQ
    rw [ko 1 0 (by decide) (by decide), ko 1 1 (by decide) (by decide), u2_row _ _ (by decide), u2_row _ _ (by decide)]
    exact hQ
theorem T_undo {C : CS} {Y H NS A : Nat → Nat → Int32} (h : RL C Y H NS A) (hP : WFP C) : ∃ v NS' A' C', f_Y_undo NS = some (v, NS') ∧ f_M_undo A = some (v, A') ∧ A' 0 0 = 0 ∧ ACT C C' ∧ RL C' Y H NS' A' := by
  have h' := h.thr 0
  have hA : (u2 A 0 0 0) 0 0 = 0 := thr_0 A 0
  unfold f_Y_undo f_M_undo
  generalize u2 A 0 0 0 = A at h' hA ⊢
  have hW := h'.1
  have hM := h'.2.2.2.2.1
  have hS := h'.2.2.2.1
  have hN := hW.2.2.2.1
  have e43 : A 0 43 = nI (C 0 5) := hM.d0.2.2.2.2.1
  have e04 : NS 0 4 = nI (C 0 5) := hS 0 4 (Or.inr rfl)
  have h5' : C 0 5 ≤ 30 := hW.2.2.2.2.2.1
  by_cases h0 : C 0 5 = 0
  · refine ⟨-1, NS, A, C, ?_, ?_, hA, ACT.refl hP, h'⟩
    · unfold f_State_takeBack
      rw [e04, h0, if_neg (by decide), obs]
    · rw [e43, h0, if_neg (by decide)]
  · obtain ⟨n, hn⟩ : ∃ n, C 0 5 = n + 1 := ⟨C 0 5 - 1, by omega⟩
    have hM1 : (u2 A 0 43 (A 0 43 - 1)) = u2 A 0 43 (nI n) := by rw [e43, hn, nI_pred]
    have e := loop_for (body := fun q => f_M_undo_l26 q.1 q.2) 10 (fun i => ub (u2 A 0 43 (nI n)) n i) (b := ub (u2 A 0 43 (nI n)) n 10) 0 (by omega) (by omega)
      (fun i _ hi => by
        generalize hA1 : u2 A 0 43 (nI n) = A1
        have hn1 : A1 0 43 = nI n := by rw [← hA1, u2_same]
        have r43 : ub A1 n i 0 43 = nI n := by unfold ub; rw [if_neg (by omega), if_neg (by omega), hn1]
        have i1 : (20 : Int32) * nI n + nI i = nI (20 * n + i) := by rw [show (20 : Int32) = nI 20 from rfl, na_mul, na_add]
        have i2 : (20 : Int32) * nI n + nI 10 + nI i = nI (20 * n + 10 + i) := by rw [show (20 : Int32) = nI 20 from rfl, na_mul, na_add, na_add]
        have r12 : ∀ b, ub A1 n i 12 b = A1 12 b := fun b => by unfold ub; rw [if_neg (by omega), if_neg (by omega)]
        show f_M_undo_l26 (nI i) (ub A1 n i) = some (Sum.inl (nI (i + 1), ub A1 n (i + 1)))
        unfold f_M_undo_l26
        rw [show (10 : Int32) = nI 10 from rfl, if_neg (nI_ge hi (by omega)), r43, i1, rdx_nI (by omega) (by omega), obs, ixx_nI (by omega) (by omega), obs, u2_row _ _ (show (0 : Nat) ≠ 7 by decide), r43, i2, rdx_nI (by omega) (by omega), obs, obs, u2_row _ _ (show (12 : Nat) ≠ 7 by decide), r12, r12, ← nI_succ]
        congr 3
        funext a b
        rw [u2_eq, u2_eq]
        unfold ub
        by_cases h8 : a = 8
        · subst h8
          rw [if_neg (show ¬ (8 = 7 ∧ b = i) by omega), if_neg (show ¬ (8 = 7 ∧ b < i) by omega), if_neg (show ¬ (8 = 7 ∧ b < i + 1) by omega)]
          by_cases hb : b = i
          · rw [if_pos ⟨rfl, hb⟩, if_pos ⟨rfl, by omega⟩, hb]
          · rw [if_neg (fun h => hb h.2)]
            by_cases hb2 : b < i
            · rw [if_pos ⟨rfl, hb2⟩, if_pos ⟨rfl, by omega⟩]
            · rw [if_neg (fun h => hb2 h.2), if_neg (fun h => by have := h.2; omega)]
        · rw [if_neg (fun h => h8 h.1)]
          by_cases h7 : a = 7
          · subst h7
            by_cases hb : b = i
            · rw [if_pos ⟨rfl, hb⟩, if_pos ⟨rfl, by omega⟩, hb]
            · rw [if_neg (fun h => hb h.2)]
              by_cases hb2 : b < i
              · rw [if_pos ⟨rfl, hb2⟩, if_pos ⟨rfl, by omega⟩]
              · rw [if_neg (fun h => hb2 h.2), if_neg (by omega), if_neg (fun h => by have := h.2; omega), if_neg (by omega)]
          · rw [if_neg (fun h => h7 h.1), if_neg (fun h => h7 h.1), if_neg (fun h => h8 h.1), if_neg (fun h => h7 h.1), if_neg (fun h => h8 h.1)])
      (by
        show f_M_undo_l26 (nI 10) _ = _
        unfold f_M_undo_l26
        rw [if_pos (by decide)])
    have e0 : ub (u2 A 0 43 (nI n)) n 0 = u2 A 0 43 (nI n) := by
      funext a b
      unfold ub
      rw [if_neg (by omega), if_neg (by omega)]
    rw [e0] at e
    have c10 : (nI n * 10).toNatClampNeg = n * 10 := by rw [show (10 : Int32) = nI 10 from rfl, na_mul, nI_cl (by omega)]
    have cn : ¬ (nI n * 10 < 0) := by rw [show (10 : Int32) = nI 10 from rfl, na_mul]; exact nI_pos (by omega)
    have u14 : ∀ (B : Nat → Nat → Int32) (f : Nat → Int32) (b : Nat), u1 B 1 f 0 b = B 0 b := fun _ _ _ => rfl
    have u24 : ∀ (B : Nat → Nat → Int32) (f : Nat → Int32) (b : Nat), u1 B 2 f 0 b = B 0 b := fun _ _ _ => rfl
    have g1 : ¬ (nI n * 10 < 0 ∨ (0 : Int32) < 0 ∨ (10 : Int32) < 0 ∨ 300 < n * 10 + 10 ∨ 10 < 0 + 10) := by
      rintro (h | h | h | h | h)
      · exact cn h
      · revert h; decide
      · revert h; decide
      · omega
      · omega
    have ey : ∃ NS', f_State_takeBack NS = some (nI n, NS') ∧ (∀ m, m < C 0 3 → NS' 1 m = NS 6 (10 * n + m)) ∧ (∀ m, m < C 0 3 → NS' 2 m = NS 7 (10 * n + m)) ∧ (∀ a b, a ≠ 1 → a ≠ 2 → NS' a b = u2 NS 0 4 (nI n) a b) := by
      unfold f_State_takeBack
      rw [e04, hn, if_pos (show (0 : Int32) < nI (n + 1) from (na_lt (a := 0) (by omega) (by omega)).mpr (by omega)), nI_pred]
      simp only [u2_same, u14, u24, c10, cl_0, cl_10]
      rw [if_neg g1, if_neg g1]
      refine ⟨_, rfl, fun m hm => ?_, fun m hm => ?_, fun a b h1 h2 => ?_⟩
      · show a_cpy (u2 NS 0 4 (nI n) 6) _ (n * 10) 0 10 m = _
        rw [cpyN _ _ (by omega), u2_row _ _ (by decide), show n * 10 + (m - 0) = 10 * n + m from by omega]
      · show a_cpy (u1 (u2 NS 0 4 (nI n)) 1 _ 7) _ (n * 10) 0 10 m = _
        rw [cpyN _ _ (by omega), u1_eq, if_neg (by decide), u2_row _ _ (by decide), show n * 10 + (m - 0) = 10 * n + m from by omega]
      · rw [u1_eq, if_neg h2, u1_eq, if_neg h1]
    obtain ⟨NS', y1, y2, y3, y4⟩ := ey
    have ko : ∀ a b, a ≠ 7 → a ≠ 8 → ub (u2 A 0 43 (nI n)) n 10 a b = u2 A 0 43 (nI n) a b := fun a b h1 h2 => by
      unfold ub
      rw [if_neg (fun h => h1 h.1), if_neg (fun h => h2 h.1)]
    obtain ⟨C', d1, d2⟩ := RL_back (A' := ub (u2 A 0 43 (nI n)) n 10) h' hP hn y2 y3 y4 (fun m hm => by
        unfold ub
        rw [if_pos ⟨rfl, by omega⟩, u2_row _ _ (by decide)]) (fun m hm => by
        unfold ub
        rw [if_neg (by omega), if_pos ⟨rfl, by omega⟩, u2_row _ _ (by decide)]) ko
    refine ⟨nI n, NS', ub (u2 A 0 43 (nI n)) n 10, C', ?_, ?_, ?_, d1, d2⟩
    · rw [y1, obs]
    · rw [if_pos (show A 0 43 ≠ 0 by rw [e43, hn]; exact nI_ne0 (by omega) (by omega)), hM1, show ((0 : Int32), u2 A 0 43 (nI n)) = (nI 0, u2 A 0 43 (nI n)) from rfl, e, obs, ko 0 43 (by decide) (by decide), u2_same]
    · rw [ko 0 0 (by decide) (by decide), u2_col _ _ (by decide), hA]
theorem bs_or1 (p : Nat → Prop) [DecidablePred p] {n k : Nat} (hk : k < n) : bs p n ||| 2 ^ k = bs (fun i => i = k ∨ p i) n := by
  apply Nat.eq_of_testBit_eq
  intro i
  rw [Nat.testBit_or, bs_bit, bs_bit, Nat.testBit_two_pow]
  by_cases h1 : i = k
  · subst h1
    simp [hk]
  · have h2 : ¬ k = i := fun e => h1 e.symm
    by_cases h3 : i < n <;> by_cases h4 : p i <;> simp [h1, h2, h3, h4]
theorem T_let {C : CS} {Y H NS A : Nat → Nat → Int32} (h : RL C Y H NS A) (hP : WFP C) (p1 : Int32) : ∃ k v Y' NS' v' A' C', f_Y_let Y H NS p1 = some (k, v, Y', NS') ∧ f_M_let A p1 = some (v', A') ∧ A' 0 0 = cd1 k ∧ (k = 0 ∨ k = 1) ∧ (k = 0 → v = v') ∧ ACT C C' ∧ RL C' Y' H NS' A' := by
  have h' := h.thr 0
  obtain ⟨hW, hY, hH, hS, hM, hQ⟩ := h'
  have hA : (u2 A 0 0 0) 0 0 = 0 := thr_0 A 0
  unfold f_Y_let f_M_let
  generalize u2 A 0 0 0 = A at hM hQ hA ⊢
  have h' : RL C Y H NS A := ⟨hW, hY, hH, hS, hM, hQ⟩
  have z1 : ((1 : Int32) ≠ 0) = True := by simp
  have hK := hW.2.2.2.2.1
  rcases G_hold (Y := Y) hW hH hM hA p1 with ⟨k, hk, rfl, e1, e2⟩ | ⟨e1, e2⟩
  · rw [e1, e2 1]
    have hl := hW.let k
    have m3 : rdx (A 6) 16 (4 * nI k + 3) = some (nI (C 14 k)) := by rw [show (3 : Int32) = nI 3 from rfl, ix4, rdx_nI (by omega) (by omega), (hM.hold hk).2.2.2]
    have j3 : ixx 16 (4 * nI k + 3) = some (4 * k + 3) := by rw [show (3 : Int32) = nI 3 from rfl, ix4, ixx_nI (by omega) (by omega)]
    simp only [obs, z1, if_true, m3, j3, Y_isHeld hW hS hk]
    have hs : SAME C (updC C 14 k 1) := same_upd rfl
    have hst := hs.st
    have hW' : WFC (updC C 14 k 1) := by
      obtain ⟨h1, h2, h3, h4, g5, h6, h7, h8, h9, h10, h11, h12, h13, h14, h15, h16, h17, h18, h19, h20, h21, h22, h23, h24, h25⟩ := hW
      refine ⟨h1, h2, h3, h4, g5, h6, h7, h8, h9, h10, h11, h12, h13, h14, h15, h16, h17, h18, h19, h20, h21, h22, fun j => ?_, h24, h25⟩
      show (if 14 = 14 ∧ j = k then 1 else C 14 j) ≤ 1
      split
      · omega
      · exact h23 j
    have hact : ACT C (updC C 14 k 1) := ⟨hs, hP, fun n hn a b hab => by
      unfold updC
      rw [if_neg (fun h => by have := h.1; subst this; rcases hab with h | h <;> simp at h)]
      exact Nat.le_trans (hn a b hab) (by omega)⟩
    have c14 : ∀ j, updC C 14 k 1 14 j = if j = k then 1 else C 14 j := fun j => by
      unfold updC
      by_cases hj : j = k
      · rw [if_pos ⟨rfl, hj⟩, if_pos hj]
      · rw [if_neg (fun h => hj h.2), if_neg hj]
    have hM' : RMo (updC C 14 k 1) (u2 A 6 (4 * k + 3) 1) := by
      refine Rel.upd hM (fun _ => ?_) (fun a b hd hne => ?_)
      · show (1 : Int32) = if (4 * k + 3) % 4 = 0 then _ else if (4 * k + 3) % 4 = 1 then _ else if (4 * k + 3) % 4 = 2 then _ else nI (updC C 14 k 1 14 ((4 * k + 3) / 4))
        rw [if_neg (by omega), if_neg (by omega), if_neg (by omega), c14, if_pos (by omega)]; rfl
      · have hd' : mD C a b := by
          unfold mD at hd ⊢
          simp only [hst] at hd
          exact hd
        refine ⟨hd', ?_⟩
        by_cases h6 : a = 6
        · subst h6
          show (if b % 4 = 0 then nI (C 11 (b / 4)) else if b % 4 = 1 then nI (C 12 (b / 4)) else if b % 4 = 2 then nI (C 13 (b / 4)) else nI (C 14 (b / 4))) = (if b % 4 = 0 then nI (C 11 (b / 4)) else if b % 4 = 1 then nI (C 12 (b / 4)) else if b % 4 = 2 then nI (C 13 (b / 4)) else nI (updC C 14 k 1 14 (b / 4)))
          by_cases h3 : b % 4 = 3
          · rw [c14, if_neg (show ¬ b / 4 = k by omega)]
          · have : b % 4 = 0 ∨ b % 4 = 1 ∨ b % 4 = 2 := by omega
            rcases this with h | h | h <;> simp [h]
        · unfold mV
          simp only [hst]
          split <;> first | rfl | contradiction
    have hQ' : RQ Y (u2 A 6 (4 * k + 3) 1) := by
      unfold RQ
      rw [u2_row _ _ (by decide), u2_row _ _ (by decide)]
      exact hQ
    have hbs : ∀ j, j < C 0 4 → (updC C 14 k 1 14 j = 1 ↔ (j = k ∨ C 14 j = 1)) := fun j hj => by
      rw [c14]
      by_cases h : j = k
      · rw [if_pos h]; exact ⟨fun _ => Or.inl h, fun _ => rfl⟩
      · rw [if_neg h]; exact ⟨fun g => Or.inr g, fun g => g.elim (fun g => absurd g h) id⟩
    have e03 : NS 0 3 = nI (bs (fun h => C 14 h = 1) (C 0 4)) := hS 0 3 (Or.inl rfl)
    have hbe : bs (fun h => C 14 h = 1) (C 0 4) ||| 2 ^ k = bs (fun h => updC C 14 k 1 14 h = 1) (C 0 4) := by
      rw [bs_or1 _ hk]
      exact bs_congr (fun j hj => (hbs j hj).symm)
    have hSx : ∀ NS', (∀ a b, ¬ (a = 0 ∧ b = 3) → NS' a b = NS a b) → NS' 0 3 = nI (bs (fun h => updC C 14 k 1 14 h = 1) (C 0 4)) → RS (updC C 14 k 1) NS' := fun NS' ho h3 => by
      intro a b hd
      by_cases h03 : a = 0 ∧ b = 3
      · obtain ⟨rfl, rfl⟩ := h03
        exact h3
      · rw [ho a b h03, hS a b hd]
        match a, hd with
        | 0, hd =>
          have hb : b = 3 ∨ b = 4 := hd
          have hb4 : b = 4 := by
            rcases hb with h | h
            · exact absurd ⟨rfl, h⟩ h03
            · exact h
          subst hb4
          rfl
        | 1, hd => rfl
        | 2, hd => rfl
        | 3, hd => rfl
        | 4, hd => rfl
        | 5, hd => rfl
        | 6, hd => rfl
        | 7, hd => rfl
    have h0 : ∀ b, b ≠ 3 → True := fun _ _ => trivial
    by_cases c1 : C 14 k = 0
    · simp only [c1, if_true, show ((1 : Int32) = 0) = False by simp, not_false_eq_true]
      refine ⟨0, 1, Y, u2 NS 0 3 (NS 0 3 ||| a_shl 1 (nI k)), 1, u2 A 6 (4 * k + 3) 1, updC C 14 k 1, rfl, rfl, ?_, Or.inl rfl, fun _ => rfl, hact, hW', RY_same hs hY, RH_same hs hH, hSx _ (fun a b hab => ?_) ?_, hM', hQ'⟩
      · rw [u2_row _ _ (by decide), hA]; rfl
      · rw [u2_eq, if_neg hab]
      · rw [u2_same, e03, shl_1 _ (by omega), na_or, hbe]
    · have c2 : C 14 k = 1 := by omega
      simp only [c2, show ¬ (1 : Nat) = 0 by omega, if_false, ne_eq, not_true]
      refine ⟨0, 0, Y, NS, 1 - nI 1, u2 A 6 (4 * k + 3) 1, updC C 14 k 1, rfl, rfl, ?_, Or.inl rfl, fun _ => by decide, hact, hW', RY_same hs hY, RH_same hs hH, hSx _ (fun a b hab => rfl) ?_, hM', hQ'⟩
      · rw [u2_row _ _ (by decide), hA]; rfl
      · rw [e03]
        congr 1
        exact bs_congr (fun j hj => ⟨fun g => (hbs j hj).mpr (Or.inr g), fun g => ((hbs j hj).mp g).elim (fun e => e ▸ c2) id⟩)
  · refine ⟨1, 0, yRef Y 0, NS, 0, mRef A 1 0, C, ?_, ?_, mRef_0 _ _ _, Or.inr rfl, fun h => by omega, ACT.refl hP, h'.ref _ (by omega)⟩
    · rw [e1]; rfl
    · rw [e2 1 (by decide)]; rfl
