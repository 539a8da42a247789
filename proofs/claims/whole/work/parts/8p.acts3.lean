/-! PURE MATH: move, drop, undo, let -/
def BND (n : Nat) (C : CS) : Prop := ∀ a b, (a % 100 = 16 ∨ a % 100 = 23) → C a b ≤ n
theorem BND.t {n : Nat} {C : CS} (h : BND n C) (m : Nat) : C 16 m ≤ n := h 16 m (Or.inl rfl)
/-- what an act leaves, and what it may change -/
def ACT (C C' : CS) : Prop := SAME C C' ∧ WFP C' ∧ ∀ n, BND n C → BND (n + 60) C'
theorem ACT.refl {C : CS} (h : WFP C) : ACT C C := ⟨SAME.refl C, h, fun n hn a b hab => Nat.le_trans (hn a b hab) (by omega)⟩
theorem WFC_keep {C : CS} (h : WFC C) (h5 : C 0 5 < 30) : WFC (keepC C) := by
  obtain ⟨h1, h2, h3, h4, g5, h6, h7, h8, h9, h10, h11, h12, h13, h14, h15, h16, h17, h18, h19, h20, h21, h22, h23, h24, h25⟩ := h
  exact ⟨h1, h2, h3, h4, g5, (show C 0 5 + 1 ≤ 30 by omega), h7, h8, h9, h10, h11, h12, h13, h14, h15, h16, h17, h18, h19, h20, h21, h22, h23, h24, h25⟩
theorem WFP_keep {C : CS} (h : WFP C) (hN : C 0 3 ≤ 10) : WFP (keepC C) := by
  obtain ⟨h1, h2, h3, h4, h5⟩ := h
  refine ⟨h1, h2, h3, fun a m ha hm => ?_, h5⟩
  have ha : a < C 0 5 + 1 := ha
  have hm : m < C 0 3 := hm
  show okP C (keepC C 22 (10 * a + m))
  rw [keepC_22]
  by_cases hc : 10 * C 0 5 ≤ 10 * a + m ∧ 10 * a + m < 10 * C 0 5 + 10
  · rw [if_pos hc, show 10 * a + m - 10 * C 0 5 = m from by omega]
    exact h1 m hm
  · rw [if_neg hc]
    exact h4 a m (by omega) hm
theorem BND_keepPT {n n' : Nat} {C : CS} (h : BND n C) {pl tm : Nat → Nat} (ht : ∀ m, tm m ≤ n') (hn : n ≤ n') : BND n' (setPT (keepC C) pl tm) := by
  intro a b hab
  unfold setPT
  by_cases h15 : a = 15
  · subst h15; rcases hab with h | h <;> simp at h
  rw [if_neg h15]
  by_cases h16 : a = 16
  · rw [if_pos h16]; exact ht b
  rw [if_neg h16]
  unfold keepC
  rw [if_neg (fun h => by have := h.1; subst this; rcases hab with h | h <;> simp at h), if_neg (fun h => by have := h.1; subst this; rcases hab with h | h <;> simp at h)]
  split
  · exact Nat.le_trans (h.t _) hn
  · exact Nat.le_trans (h a b hab) hn
theorem ACT_keepPT {C : CS} (hW : WFC C) (hP : WFP C) {pl tm : Nat → Nat} (hpl : ∀ m, m < C 0 3 → okP C (pl m)) (ht : ∀ n, (∀ m, C 16 m ≤ n) → ∀ m, tm m ≤ n + 60) : ACT C (setPT (keepC C) pl tm) :=
  ⟨(same_keep C).trans (same_setPT _ _ _), WFP_PT (C := keepC C) (WFP_keep hP hW.2.2.2.1) hpl, fun n hn => BND_keepPT hn (ht n hn.t) (by omega)⟩
/-- the whole of it: kept, and another plan on both sides -/
theorem RL_act {C : CS} {Y H NS NS' A A' A'' : Nat → Nat → Int32} {pl tm : Nat → Nat} (h : RL C Y H NS A) (hpl : ∀ m, pl m ≤ 30) (h5 : C 0 5 < 30) (hS' : RS (setPT (keepC C) pl tm) NS') (hM' : RMo (keepC C) A') (h1 : ∀ b, A' 1 b = A 1 b)
    (ho : ∀ a b, a ≠ 7 → a ≠ 8 → A'' a b = A' a b) (h7 : ∀ m, m < C 0 3 → A'' 7 m = oI (pl m)) (h8 : ∀ m, m < C 0 3 → A'' 8 m = nI (tm m)) : RL (setPT (keepC C) pl tm) Y H NS' A'' := by
  obtain ⟨hW, hY, hH, hS, hM, hQ⟩ := h
  have hs : SAME C (setPT (keepC C) pl tm) := (same_keep C).trans (same_setPT _ _ _)
  refine ⟨WFC_PT (WFC_keep hW h5) hpl, RY_same hs hY, RH_same hs hH, hS', RM_PT hM' pl tm ho h7 h8, ?_⟩
  unfold RQ
  rw [ho 1 0 (by decide) (by decide), ho 1 1 (by decide) (by decide), h1, h1]
  exact hQ
theorem M_isFixed {C : CS} {A : Nat → Nat → Int32} (hW : WFC C) (hM : RMo C A) {m : Nat} (hm : m < C 0 3) : f_M_isFixed A (nI m) = some (nI (C 10 m)) := by
  have hN := hW.2.2.2.1
  have hf := hW.fixed m
  have r4 : rdx (A 5) 60 (6 * nI m + 4) = some (nI (C 10 m)) := by rw [show (4 : Int32) = nI 4 from rfl, ix6, rdx_nI (by omega) (by omega), hM.meet hm 4 (by omega)]; rfl
  unfold f_M_isFixed
  rw [r4]
  have : C 10 m = 0 ∨ C 10 m = 1 := by omega
  rcases this with e | e <;> rw [e] <;> rfl
theorem Y_full {C : CS} {NS : Nat → Nat → Int32} (hW : WFC C) (hS : RS C NS) : f_State_isFull NS = some (if C 0 5 < 30 then 0 else 1) := by
  have e04 : NS 0 4 = nI (C 0 5) := hS 0 4 (Or.inr rfl)
  have h5 := hW.n31 (j := 5) (by omega)
  unfold f_State_isFull
  rw [e04]
  by_cases h : C 0 5 < 30
  · rw [if_pos (show nI (C 0 5) < 30 from (na_lt (b := 30) h5 (by omega)).mpr h), if_pos h, zb_0]
  · rw [if_neg (show ¬ nI (C 0 5) < 30 from fun h2 => h ((na_lt (b := 30) h5 (by omega)).mp h2)), if_neg h, zb_1]
theorem Y_countMoved {C : CS} {H BO : Nat → Nat → Int32} {w : Nat → Int32} {pl p0 tm : Nat → Nat} (hW : WFC C) (hH : RH C H) (hpl : ∀ m, pl m ≤ 30) (hp0 : ∀ m, p0 m ≤ 30) (hb1 : ∀ m, m < C 0 3 → BO 1 m = oI (pl m)) (hb2 : ∀ m, m < C 0 3 → BO 2 m = nI (tm m)) (hw : ∀ m, m < C 0 3 → w m = oI (p0 m)) :
    ∃ BO', f_Board_countMoved H BO w = some BO' ∧ (∀ m, m < C 0 3 → BO' 1 m = oI (pl m)) ∧ (∀ m, m < C 0 3 → BO' 2 m = nI (tm m + (if pl m = p0 m then 0 else 1))) := by
  have hN := hW.2.2.2.1
  have h03 : H 0 3 = nI (C 0 3) := hH 0 3 (show 3 < 6 by omega)
  have oi : ∀ a b, a ≤ 30 → b ≤ 30 → ((oI a = oI b) = (a = b)) := by
    have h : ∀ a, a < 31 → ∀ b, b < 31 → (oI a = oI b ↔ a = b) := by decide
    exact fun a b ha hb => propext (h a (by omega) b (by omega))
  let S : Nat → Nat → Nat → Int32 := fun i a b => if a = 2 ∧ b < i ∧ b < C 0 3 then nI (tm b + (if pl b = p0 b then 0 else 1)) else BO a b
  have hS : ∀ i a b, S i a b = if a = 2 ∧ b < i ∧ b < C 0 3 then nI (tm b + (if pl b = p0 b then 0 else 1)) else BO a b := fun _ _ _ => rfl
  unfold f_Board_countMoved
  have e := loop_for (body := fun q => f_Board_countMoved_l2 H w q.1 q.2) (C 0 3) S (b := S (C 0 3)) 0 (by omega) (by omega)
    (fun i _ hi => by
      have s1 : S i 1 i = oI (pl i) := by rw [hS, if_neg (by omega), hb1 i hi]
      have s2 : S i 2 i = nI (tm i) := by rw [hS, if_neg (by omega), hb2 i hi]
      show f_Board_countMoved_l2 H w (nI i) (S i) = some (Sum.inl (nI (i + 1), S (i + 1)))
      unfold f_Board_countMoved_l2
      rw [h03, if_neg (nI_ge hi (by omega)), rdx_nI (by omega) (by omega), s1, obs, rdx_nI (by omega) (by omega), hw i hi, obs]
      simp only [oi _ _ (hpl i) (hp0 i)]
      by_cases hc : pl i = p0 i
      · rw [if_pos hc, ← nI_succ]
        congr 3
        funext a b
        rw [hS, hS]
        by_cases hab : a = 2 ∧ b = i
        · obtain ⟨rfl, rfl⟩ := hab
          rw [if_neg (by omega), if_pos (show 2 = 2 ∧ b < b + 1 ∧ b < C 0 3 from ⟨rfl, by omega, hi⟩), if_pos hc, hb2 b hi]; rfl
        · by_cases h2 : a = 2 ∧ b < i ∧ b < C 0 3
          · rw [if_pos h2, if_pos (show a = 2 ∧ b < i + 1 ∧ b < C 0 3 from ⟨h2.1, by omega, h2.2.2⟩)]
          · rw [if_neg h2, if_neg (fun g => h2 ⟨g.1, by have := g.2.1; omega, g.2.2⟩)]
      · rw [if_neg hc, rdx_nI (by omega) (by omega), s2, obs, ixx_nI (by omega) (by omega), obs, ← nI_succ, ← nI_succ]
        congr 3
        funext a b
        rw [u2_eq, hS, hS]
        by_cases hab : a = 2 ∧ b = i
        · obtain ⟨rfl, rfl⟩ := hab
          rw [if_pos ⟨rfl, rfl⟩, if_pos (show 2 = 2 ∧ b < b + 1 ∧ b < C 0 3 from ⟨rfl, by omega, hi⟩), if_neg hc]
        · rw [if_neg hab]
          by_cases h2 : a = 2 ∧ b < i ∧ b < C 0 3
          · rw [if_pos h2, if_pos (show a = 2 ∧ b < i + 1 ∧ b < C 0 3 from ⟨h2.1, by omega, h2.2.2⟩)]
          · rw [if_neg h2, if_neg (fun g => h2 ⟨g.1, by have := g.2.1; omega, g.2.2⟩)])
    (by
      show f_Board_countMoved_l2 H w (nI (C 0 3)) _ = _
      unfold f_Board_countMoved_l2
      rw [h03, if_pos (nI_le (Nat.le_refl _) (by omega))])
  have e0 : S 0 = BO := by
    funext a b
    rw [hS, if_neg (by omega)]
  rw [e0] at e
  rw [show ((0 : Int32), BO) = (nI 0, BO) from rfl, e, obs]
  refine ⟨_, rfl, fun m hm => ?_, fun m hm => ?_⟩
  · rw [hS, if_neg (by omega), hb1 m hm]
  · rw [hS, if_pos ⟨rfl, hm, hm⟩]
/-- what an act with refusals owes -/
def TM (C : CS) (H : Nat → Nat → Int32) (y : Option (Nat × Int32 × (Nat → Nat → Int32) × (Nat → Nat → Int32) × (Nat → Nat → Int32) × Nat)) (m : Option (Int32 × (Nat → Nat → Int32))) (cd : Nat → Int32) (K : Nat → Prop) : Prop :=
  ∃ k v Y' NS' B' r' v' A' C', y = some (k, v, Y', NS', B', r') ∧ m = some (v', A') ∧ A' 0 0 = cd k ∧ (k = 0 ∨ K k) ∧ (k = 0 → v = v') ∧ ACT C C' ∧ RL C' Y' H NS' A'
theorem TM.ans {C : CS} {Y H NS A B : Nat → Nat → Int32} {r : Nat} {y : Option (Nat × Int32 × (Nat → Nat → Int32) × (Nat → Nat → Int32) × (Nat → Nat → Int32) × Nat)} {m : Option (Int32 × (Nat → Nat → Int32))} {cd : Nat → Int32} {K : Nat → Prop} (v : Int32) (hP : WFP C) (h : RL C Y H NS A) (h0 : A 0 0 = 0) (hc : cd 0 = 0) (hy : y = some (0, v, Y, NS, B, r)) (hm : m = some (v, A)) : TM C H y m cd K := ⟨0, v, Y, NS, B, r, v, A, C, hy, hm, by rw [h0, hc], Or.inl rfl, fun _ => rfl, ACT.refl hP, h⟩
theorem TM.act {C C' : CS} {Y H NS A B : Nat → Nat → Int32} {r : Nat} {y : Option (Nat × Int32 × (Nat → Nat → Int32) × (Nat → Nat → Int32) × (Nat → Nat → Int32) × Nat)} {m : Option (Int32 × (Nat → Nat → Int32))} {cd : Nat → Int32} {K : Nat → Prop} (v : Int32) (hP : ACT C C') (h : RL C' Y H NS A) (h0 : A 0 0 = 0) (hc : cd 0 = 0) (hy : y = some (0, v, Y, NS, B, r)) (hm : m = some (v, A)) : TM C H y m cd K := ⟨0, v, Y, NS, B, r, v, A, C', hy, hm, by rw [h0, hc], Or.inl rfl, fun _ => rfl, hP, h⟩
theorem TM.ref {C : CS} {Y H NS A B : Nat → Nat → Int32} {r : Nat} {y : Option (Nat × Int32 × (Nat → Nat → Int32) × (Nat → Nat → Int32) × (Nat → Nat → Int32) × Nat)} {m : Option (Int32 × (Nat → Nat → Int32))} {cd : Nat → Int32} {K : Nat → Prop} (k : Nat) (hk : k < 2) (hP : WFP C) (h : RL C Y H NS A) (hK : K (k + 1)) (hy : y = some (k + 1, 0, yRef Y k, NS, B, r)) (hm : m = some (0, mRef A (cd (k + 1)) k)) : TM C H y m cd K := ⟨k + 1, 0, yRef Y k, NS, B, r, 0, mRef A (cd (k + 1)) k, C, hy, hm, mRef_0 _ _ _, Or.inr hK, fun h => by omega, ACT.refl hP, h.ref _ hk⟩
theorem T_move {C : CS} {Y H NS A BO : Nat → Nat → Int32} {r5 hm : Nat} (h : RL C Y H NS A) (hP : WFP C) (p1 p2 p3 : Int32) : TM C H (f_Y_move Y H NS BO hm r5 p1 p2 p3) (f_M_move A p1 p2 p3) cd2 (fun k => k < 3) := by
  have h' := h.thr 0
  obtain ⟨hW, hY, hH, hS, hM, hQ⟩ := h'
  have hA : (u2 A 0 0 0) 0 0 = 0 := thr_0 A 0
  unfold f_Y_move f_M_move
  generalize u2 A 0 0 0 = A at hM hQ hA ⊢
  have h' : RL C Y H NS A := ⟨hW, hY, hH, hS, hM, hQ⟩
  have z1 : ((1 : Int32) ≠ 0) = True := by simp
  have z10 : ((1 : Int32) = 0) = False := by simp
  have hN := hW.2.2.2.1
  have hH10 := hW.1.2
  have hR3 := hW.2.1
  rcases G_place (Y := Y) hW hH hM hA p1 p2 p3 with ⟨m, hh, r, h1, h2, h3, rfl, rfl, rfl, e1, e2⟩ | ⟨k, hk, e1, e2⟩
  · rw [e1, e2]
    have hk30 : 3 * hh + r < 30 := by omega
    have hp := hW.plan m
    have e43 : A 0 43 = nI (C 0 5) := hM.d0.2.2.2.2.1
    have h5 := hW.n31 (j := 5) (by omega)
    have h5' : C 0 5 ≤ 30 := hW.2.2.2.2.2.1
    simp only [obs, if_true, z1, f_Y_placeOf, (pl_of hh r).1, (pl_of hh r).2, rdx_nI (show m < 10 by omega) (show (10 : Nat) < 2 ^ 31 by omega), hS 1 m h1, hM.here h1, show nV C 1 m = oI (C 15 m) from rfl, ne_eq, oI_pl hp hk30, Y_full hW hS, e43, Y_isFixed hW hH h1, M_isFixed hW hM h1, M_clashOf hW hM hM.rp hW.plan h1 hk30 (show (3 * hh + r) % 3 < C 0 1 by omega)]
    by_cases c1 : C 15 m = 3 * hh + r + 1
    · simp only [c1, not_true, if_false]
      exact TM.ans (B := BO) (r := r5) 0 hP h' hA rfl rfl rfl
    · simp only [c1, not_false_eq_true, if_true]
      have n30 : (nI (C 0 5) = 30) = (C 0 5 = 30) := nI_eqP (b := 30) h5 (by omega)
      simp only [n30]
      by_cases c2 : C 0 5 < 30
      · have c2' : ¬ C 0 5 = 30 := by omega
        have hf := hW.fixed m
        simp only [c2, c2', not_false_eq_true, if_true]
        by_cases c3 : C 10 m = 0
        · obtain ⟨B1, b1, b2⟩ := T_look BO hW hH hS
          have hc := s_clash_lt C (C 15) m (3 * hh + r)
          have n0 : (nI (s_clash C (C 15) m (3 * hh + r)) = 0) = (s_clash C (C 15) m (3 * hh + r) = 0) := nI_eqP (b := 0) (by omega) (by omega)
          simp only [c3, show (nI 0 = 0) = True from eq_true rfl, if_true, b1, obs, Y_clashes hW hH b2 hW.plan h1 hk30 (show (3 * hh + r) % 3 < C 0 1 by omega), n0]
          by_cases c4 : s_clash C (C 15) m (3 * hh + r) = 0
          · simp only [c4, if_true, ixx_nI (show m < 10 by omega) (show (10 : Nat) < 2 ^ 31 by omega), obs]
            let pl : Nat → Nat := fun x => if x = m then 3 * hh + r + 1 else C 15 x
            have pl30 : ∀ x, pl x ≤ 30 := fun x => by
              show (if x = m then _ else _) ≤ _
              split
              · omega
              · exact hW.plan x
            have q1 : ∀ x, x < C 0 3 → u2 B1 1 m (nI (3 * hh + r)) 1 x = oI (pl x) := fun x hx => by
              show _ = oI (if x = m then _ else _)
              by_cases hxm : x = m
              · subst hxm; rw [u2_same, if_pos rfl, oI_s]
              · rw [u2_col _ _ hxm, if_neg hxm, b2.1 x hx]
            have q2 : ∀ x, x < C 0 3 → u2 B1 1 m (nI (3 * hh + r)) 2 x = nI (C 16 x) := fun x hx => by
              rw [u2_row _ _ (by decide), b2.2.1 x hx]
            obtain ⟨B2, f1, f2, f3⟩ := Y_countMoved (w := NS 1) (p0 := C 15) hW hH pl30 hW.plan q1 q2 (fun x hx => hS 1 x hx)
            obtain ⟨NS', g1, g2⟩ := Y_act (BO := B2) (pl := pl) (tm := fun x => C 16 x + (if pl x = C 15 x then 0 else 1)) hW hS c2 f2 f3
            obtain ⟨A', k1, k2, k3⟩ := M_keepsAct hW hM c2
            simp only [f1, obs, g1, k1]
            unfold f_M_goesTo
            rw [ixx_nI (by omega) (by omega), obs, rdx_nI (by omega) (by omega), obs, obs, u2_row _ _ (show (8 : Nat) ≠ 7 by decide), k3 8 m (by decide) (by omega), hM.times h1, obs]
            have plm : pl m = 3 * hh + r + 1 := by show (if m = m then _ else _) = _; rw [if_pos rfl]
            refine TM.act (C' := setPT (keepC C) pl (fun x => C 16 x + (if pl x = C 15 x then 0 else 1))) (B := B2) (r := hm) 1 ?_ ?_ ?_ rfl rfl rfl
            · refine ACT_keepPT hW hP (fun x hx => ?_) (fun n hn x => ?_)
              · show okP C (if x = m then _ else _)
                by_cases hxm : x = m
                · rw [if_pos hxm]
                  exact ⟨by omega, fun _ => ⟨by omega, by omega⟩⟩
                · rw [if_neg hxm]; exact hP.1 x hx
              · have := hn x
                show C 16 x + (if _ then _ else _) ≤ _
                split <;> omega
            · refine RL_act h' pl30 c2 g2 k2 (fun b => k3 1 b (by decide) (by omega)) (fun a b ha hb => ?_) (fun x hx => ?_) (fun x hx => ?_)
              · rw [u2_row _ _ hb, u2_row _ _ ha]
              · rw [u2_row _ _ (show (7 : Nat) ≠ 8 by decide)]
                by_cases hxm : x = m
                · subst hxm; rw [u2_same, plm, oI_s]
                · rw [u2_col _ _ hxm, k3 7 x (by decide) (by omega), hM.here hx]
                  show _ = oI (if x = m then _ else _)
                  rw [if_neg hxm]
              · by_cases hxm : x = m
                · subst hxm
                  rw [u2_same, if_neg (by rw [plm]; exact fun e => c1 e.symm), nI_succ]
                · rw [u2_col _ _ hxm, u2_row _ _ (show (8 : Nat) ≠ 7 by decide), k3 8 x (by decide) (by omega), hM.times hx]
                  have : pl x = C 15 x := by show (if x = m then _ else _) = _; rw [if_neg hxm]
                  rw [if_pos this]; rfl
            · rw [u2_row _ _ (by decide), u2_row _ _ (by decide), k3 0 0 (by decide) (by decide), hA]
          · simp only [c4, if_false]
            exact TM.ans (B := B1) (r := hm) _ hP h' hA rfl rfl rfl
        · have hf1 : C 10 m = 1 := by omega
          simp only [hf1, show (nI 1 = 0) = False from eq_false (by decide), if_false]
          exact TM.ans (B := BO) (r := r5) _ hP h' hA rfl rfl rfl
      · have c2' : C 0 5 = 30 := by omega
        simp only [c2, c2', not_true, if_false, show ¬ (30 : Nat) < 30 by omega, z10]
        exact TM.ans (B := BO) (r := r5) _ hP h' hA rfl rfl rfl
  · rw [e1, e2]
    refine TM.ref (B := BO) (r := r5) k hk hP h' (show _ < 3 from by omega) ?_ ?_
    · simp only [obs, Nat.add_one_ne_zero, if_false]
    · rfl
