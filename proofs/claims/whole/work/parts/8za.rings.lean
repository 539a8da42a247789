/-! PURE MATH: swap, rings -/
theorem loop_two {σ τ β γ : Type} {f : σ → Option (σ ⊕ β)} {g : τ → Option (τ ⊕ γ)} (N : Nat) (R : Nat → σ → τ → Prop) (Q : β → γ → Prop) (hN : N < 1000000)
    (h1 : ∀ i s t, i < N → R i s t → ∃ s' t', f s = some (.inl s') ∧ g t = some (.inl t') ∧ R (i + 1) s' t') (h2 : ∀ s t, R N s t → ∃ b c, f s = some (.inr b) ∧ g t = some (.inr c) ∧ Q b c) (i0 : Nat) (hi : i0 ≤ N) (s : σ) (t : τ) (h0 : R i0 s t) : ∃ b c, loopN f a_F s = some b ∧ loopN g a_F t = some c ∧ Q b c := by
  have key : ∀ k i n s t, i + k = N → R i s t → k < n → ∃ b c, loopN f n s = some b ∧ loopN g n t = some c ∧ Q b c := by
    intro k
    induction k with
    | zero =>
      intro i n s t hi hr hn
      obtain ⟨n, rfl⟩ : ∃ k, n = k + 1 := ⟨n - 1, by omega⟩
      have hi : i = N := by omega
      subst hi
      obtain ⟨b, c, b1, b2, b3⟩ := h2 s t hr
      exact ⟨b, c, loop_r b1, loop_r b2, b3⟩
    | succ k ih =>
      intro i n s t hi hr hn
      obtain ⟨n, rfl⟩ : ∃ k, n = k + 1 := ⟨n - 1, by omega⟩
      obtain ⟨s', t', b1, b2, b3⟩ := h1 i s t (by omega) hr
      rw [loop_l b1, loop_l b2]
      exact ih (i + 1) n s' t' (by omega) b3 (by omega)
  exact key (N - i0) i0 a_F s t (by omega) h0 (by unfold a_F; omega)
/-- one of them takes the next one's place, the first i of so many -/
def s_nxt (many i : Nat) : Nat := if i + 1 < many then i + 1 else 0
def s_turn (C : CS) (ch : Nat → Nat) (many : Nat) : Nat → Nat → Nat
  | 0 => C 15
  | i + 1 => fun m => if m = ch i then C 15 (ch (s_nxt many i)) else s_turn C ch many i m
theorem turn_ok {C : CS} (hW : WFC C) (hP : WFP C) {ch : Nat → Nat} {many : Nat} (hc : ∀ j, j < many → ch j < C 0 3) (h0 : 0 < many) : ∀ i, i ≤ many → (∀ m, s_turn C ch many i m ≤ 30) ∧ ∀ m, m < C 0 3 → okP C (s_turn C ch many i m) := by
  intro i
  induction i with
  | zero => exact fun _ => ⟨hW.plan, hP.1⟩
  | succ i ih =>
    intro hi
    obtain ⟨h1, h2⟩ := ih (by omega)
    have hn : s_nxt many i < many := by unfold s_nxt; split <;> omega
    refine ⟨fun m => ?_, fun m hm => ?_⟩
    · show (if m = ch i then C 15 (ch (s_nxt many i)) else s_turn C ch many i m) ≤ 30
      split
      · exact hW.plan _
      · exact h1 m
    · show okP C (if m = ch i then C 15 (ch (s_nxt many i)) else s_turn C ch many i m)
      split
      · exact hP.1 _ (hc _ hn)
      · exact h2 m hm
theorem Y_turns {C : CS} {H BO RG : Nat → Nat → Int32} {tm : Nat → Nat} (hW : WFC C) (hP : WFP C) (hH : RH C H) (hB : RB C (C 15) tm BO) {ch : Nat → Nat} {many : Nat} (hm : 0 < many) (hm4 : many ≤ 4) (hc : ∀ j, j < many → ch j < C 0 3) (h3 : RG 0 3 = nI many) (h1 : ∀ j, j < many → RG 1 j = nI (ch j)) :
    ∃ B' R', f_Rings_turns H BO RG = some (s_law C (s_turn C ch many many), B', R') ∧ RB C (C 15) tm B' ∧ ∀ a b, a ≠ 2 → R' a b = RG a b := by
  have hN := hW.2.2.2.1
  obtain ⟨k1, k2⟩ := turn_ok hW hP hc hm many (Nat.le_refl _)
  unfold f_Rings_turns
  simp only [cl_0, cl_10]
  have g1 : ¬ ((0 : Int32) < 0 ∨ (0 : Int32) < 0 ∨ (10 : Int32) < 0 ∨ 10 < 0 + 10 ∨ 10 < 0 + 10) := by decide
  rw [if_neg g1]
  generalize hR : u1 RG 2 (a_cpy (BO 1) (RG 2) 0 0 10) = R'
  have r2 : ∀ m, m < C 0 3 → R' 2 m = oI (C 15 m) := fun m hm => by
    rw [← hR]
    show a_cpy (BO 1) (RG 2) 0 0 10 m = _
    rw [cpyN _ _ (by omega), Nat.sub_zero, Nat.zero_add, hB.1 m hm]
  have ro : ∀ a b, a ≠ 2 → R' a b = RG a b := fun a b ha => by rw [← hR, u1_eq, if_neg ha]
  let S : Nat → Nat → Nat → Int32 := fun i a b => if a = 1 ∧ b < C 0 3 then oI (s_turn C ch many i b) else BO a b
  have hSd : ∀ i a b, S i a b = if a = 1 ∧ b < C 0 3 then oI (s_turn C ch many i b) else BO a b := fun _ _ _ => rfl
  have e := loop_for (body := fun q => f_Rings_turns_l20 BO RG q.1 q.2) many S (b := S many) 0 (by omega) (by omega)
    (fun i _ hi => by
      have hn : s_nxt many i < many := by unfold s_nxt; split <;> omega
      have hci := hc i hi
      have hcn := hc _ hn
      show f_Rings_turns_l20 BO RG (nI i) (S i) = some (Sum.inl (nI (i + 1), S (i + 1)))
      unfold f_Rings_turns_l20
      simp only [cl_0, cl_10]
      rw [hR, ro 0 3 (by decide), h3, if_neg (nI_ge hi (by omega)), ← nI_succ]
      have hv : (if nI many ≤ nI (i + 1) then (some 0 : Option Int32) else some (nI (i + 1))) = some (nI (s_nxt many i)) := by
        unfold s_nxt
        by_cases h : i + 1 < many
        · rw [if_neg (nI_ge h (by omega)), if_pos h]
        · rw [if_pos (nI_le (by omega) (by omega)), if_neg h]; rfl
      rw [hv, obs, rdx_nI (by omega) (by omega), ro 1 i (by decide), h1 i hi, obs, rdx_nI (by omega) (by omega), ro 1 _ (by decide), h1 _ hn, obs, rdx_nI (by omega) (by omega), r2 _ hcn, obs, ixx_nI (by omega) (by omega), obs]
      congr 3
      funext a b
      rw [u2_eq, hSd, hSd]
      by_cases h : a = 1 ∧ b = ch i
      · obtain ⟨rfl, rfl⟩ := h
        rw [if_pos ⟨rfl, rfl⟩, if_pos ⟨rfl, hci⟩]
        show _ = oI (if ch i = ch i then C 15 (ch (s_nxt many i)) else _)
        rw [if_pos rfl]
      · rw [if_neg h]
        by_cases h2 : a = 1 ∧ b < C 0 3
        · rw [if_pos h2, if_pos h2]
          show _ = oI (if b = ch i then _ else s_turn C ch many i b)
          rw [if_neg (fun e => h ⟨h2.1, e⟩)]
        · rw [if_neg h2, if_neg h2])
    (by
      show f_Rings_turns_l20 BO RG (nI many) (S many) = _
      unfold f_Rings_turns_l20
      simp only [cl_0, cl_10]
      rw [hR, ro 0 3 (by decide), h3, if_pos (nI_le (Nat.le_refl _) (by omega))])
  have e0 : S 0 = BO := by
    funext a b
    rw [hSd]
    split
    · rename_i h
      obtain ⟨rfl, hb⟩ := h
      exact (hB.1 b hb).symm
    · rfl
  rw [e0] at e
  rw [show ((0 : Int32), BO) = (nI 0, BO) from rfl, e, obs]
  have hBS : RB C (s_turn C ch many many) tm (S many) := ⟨fun m hm => by rw [hSd, if_pos ⟨rfl, hm⟩], fun m hm => by rw [hSd, if_neg (by omega), hB.2.1 m hm], fun r hr => by rw [hSd, if_neg (by omega), hB.2.2 r hr]⟩
  rw [Y_isLawful hW hH hBS k1 k2, obs, if_neg g1]
  refine ⟨_, R', congrArg (fun x => some (x, _, R')) (law_zb C _), ⟨fun m hm => ?_, fun m hm => ?_, fun r hr => ?_⟩, ro⟩
  · show a_cpy (R' 2) (S many 1) 0 0 10 m = _
    rw [cpyN _ _ (by omega), Nat.sub_zero, Nat.zero_add, r2 m hm]
  · show S many 2 m = _
    rw [hSd, if_neg (by omega), hB.2.1 m hm]
  · show S many 3 r = _
    rw [hSd, if_neg (by omega), hB.2.2 r hr]
theorem M_isRing {C : CS} {A MS : Nat → Nat → Int32} (hW : WFC C) (hP : WFP C) (hM : RMo C A) {ch : Nat → Nat} {many : Nat} (hm : 0 < many) (hm4 : many ≤ 4) (hc : ∀ j, j < many → ch j < C 0 3) (h1 : ∀ j, j < many → MS 5 j = nI (ch j)) :
    ∃ M', f_M_isRing A MS (nI many) = some (s_law C (s_turn C ch many many), M') ∧ ∀ a b, a ≠ 4 → M' a b = MS a b := by
  have hN := hW.2.2.2.1
  obtain ⟨k1, k2⟩ := turn_ok hW hP hc hm many (Nat.le_refl _)
  have hrem : ∀ m, m < 5 → ∀ i, i < m → a_rem (nI (i + 1)) (nI m) = nI (s_nxt m i) := by decide
  unfold f_M_isRing cpM
  rw [if_pos (by decide), obs]
  generalize hR : u1 MS 4 _ = M0
  have r2 : ∀ m, m < C 0 3 → M0 4 m = oI (C 15 m) := fun m hm => by
    rw [← hR, u1_eq, if_pos rfl, cl_10]
    show (if m < 10 then A 7 m else _) = _
    rw [if_pos (by omega), hM.here hm]
  have ro : ∀ a b, a ≠ 4 → M0 a b = MS a b := fun a b ha => by rw [← hR, u1_eq, if_neg ha]
  let S : Nat → Nat → Nat → Int32 := fun i a b => if a = 4 ∧ b < C 0 3 then oI (s_turn C ch many i b) else M0 a b
  have hSd : ∀ i a b, S i a b = if a = 4 ∧ b < C 0 3 then oI (s_turn C ch many i b) else M0 a b := fun _ _ _ => rfl
  have e := loop_for (body := fun q => f_M_isRing_l16 A (nI many) q.1 q.2) many S (b := S many) 0 (by omega) (by omega)
    (fun i _ hi => by
      have hn : s_nxt many i < many := by unfold s_nxt; split <;> omega
      have hci := hc i hi
      have hcn := hc _ hn
      have s5 : ∀ j, j < many → S i 5 j = nI (ch j) := fun j hj => by rw [hSd, if_neg (by omega), ro 5 j (by decide), h1 j hj]
      show f_M_isRing_l16 A (nI many) (nI i) (S i) = some (Sum.inl (nI (i + 1), S (i + 1)))
      unfold f_M_isRing_l16
      rw [if_neg (nI_ge hi (by omega)), rdx_nI (by omega) (by omega), s5 i hi, obs, if_neg (nI_ne0 (by omega) (by omega)), ← nI_succ, hrem many (by omega) i hi, rdx_nI (by omega) (by omega), s5 _ hn, obs, rdx_nI (by omega) (by omega), hM.here hcn, obs, ixx_nI (by omega) (by omega), obs]
      congr 3
      funext a b
      rw [u2_eq, hSd, hSd]
      by_cases h : a = 4 ∧ b = ch i
      · obtain ⟨rfl, rfl⟩ := h
        rw [if_pos ⟨rfl, rfl⟩, if_pos ⟨rfl, hci⟩]
        show _ = oI (if ch i = ch i then C 15 (ch (s_nxt many i)) else _)
        rw [if_pos rfl]
      · rw [if_neg h]
        by_cases h2 : a = 4 ∧ b < C 0 3
        · rw [if_pos h2, if_pos h2]
          show _ = oI (if b = ch i then _ else s_turn C ch many i b)
          rw [if_neg (fun e => h ⟨h2.1, e⟩)]
        · rw [if_neg h2, if_neg h2])
    (by
      show f_M_isRing_l16 A (nI many) (nI many) (S many) = _
      unfold f_M_isRing_l16
      rw [if_pos (nI_le (Nat.le_refl _) (by omega))])
  have e0 : S 0 = M0 := by
    funext a b
    rw [hSd]
    split
    · rename_i h
      obtain ⟨rfl, hb⟩ := h
      exact (r2 b hb).symm
    · rfl
  rw [e0] at e
  rw [show ((0 : Int32), M0) = (nI 0, M0) from rfl, e, obs, M_isLawful hW hM (fun m hm => by rw [hSd, if_pos ⟨rfl, hm⟩]) k1 k2, obs]
  refine ⟨S many, congrArg (fun x => some (x, S many)) (law_zb C _), fun a b ha => ?_⟩
  rw [hSd, if_neg (fun h => ha h.1), ro a b ha]
abbrev s_may1 (C : CS) (m : Nat) : Prop := C 15 m ≠ 0 ∧ C 10 m = 0
theorem Y_mayTurn {C : CS} {H BO : Nat → Nat → Int32} {tm : Nat → Nat} (hW : WFC C) (hH : RH C H) (hB : RB C (C 15) tm BO) {m : Nat} (hm : m < C 0 3) : f_Rings_mayTurn H BO (nI m) = some (if s_may1 C m then 1 else 0) := by
  have hN := hW.2.2.2.1
  have hf := hW.fixed m
  unfold f_Rings_mayTurn
  rw [rdx_nI (by omega) (by omega), hB.1 m hm, obs, Y_isFixed hW hH hm, obs]
  simp only [oI_z (hW.plan m)]
  by_cases c1 : C 15 m = 0
  · rw [if_pos c1, if_neg (fun h => h.1 c1), zb_0]
  · rw [if_neg c1]
    by_cases c2 : C 10 m = 0
    · rw [if_neg (by rw [c2]; decide), if_pos ⟨c1, c2⟩, zb_1]
    · have c2' : C 10 m = 1 := by omega
      rw [if_pos (by rw [c2']; decide), if_neg (fun h => c2 h.2), zb_0]
theorem M_canRing {C : CS} {A : Nat → Nat → Int32} (hW : WFC C) (hM : RMo C A) {m : Nat} (hm : m < C 0 3) : f_M_canRing A (nI m) = some (if s_may1 C m then 1 else 0) := by
  have hN := hW.2.2.2.1
  have hf := hW.fixed m
  unfold f_M_canRing
  rw [rdx_nI (by omega) (by omega), hM.here hm, obs, M_isFixed hW hM hm, obs]
  simp only [oI_z (hW.plan m)]
  by_cases c1 : C 15 m = 0
  · rw [if_pos c1, if_neg (fun h => h.1 c1), zb_0]
  · rw [if_neg c1]
    by_cases c2 : C 10 m = 0
    · rw [if_neg (by rw [c2]; decide), if_pos ⟨c1, c2⟩, zb_1]
    · have c2' : C 10 m = 1 := by omega
      rw [if_pos (by rw [c2']; decide), if_neg (fun h => c2 h.2), zb_0]
theorem zz_i (p : Prop) [Decidable p] : zb (if p then 1 else 0) = if p then 1 else 0 := by
  split
  · exact zb_1
  · exact zb_0
theorem T_swap {C : CS} {Y H NS A BO RG MS : Nat → Nat → Int32} {r5 hm : Nat} (h : RL C Y H NS A) (hP : WFP C) (p1 p2 : Int32) : TG C H NS (f_Y_swap Y H NS BO RG hm r5 p1 p2) (f_M_swap A MS p1 p2) cd2 (fun k => k < 3) := by
  have h' := h.thr 0
  obtain ⟨hW, hY, hH, hS, hM, hQ⟩ := h'
  have hA : (u2 A 0 0 0) 0 0 = 0 := thr_0 A 0
  unfold f_Y_swap f_M_swap
  generalize u2 A 0 0 0 = A at hM hQ hA ⊢
  have h' : RL C Y H NS A := ⟨hW, hY, hH, hS, hM, hQ⟩
  have z1 : ((1 : Int32) ≠ 0) = True := by simp
  have z10 : ((1 : Int32) = 0) = False := by simp
  have n10 : ((1 : Nat) = 0) = False := by simp
  have n20 : ((2 : Nat) = 0) = False := by simp
  have hN := hW.2.2.2.1
  rcases G_meet (Y := Y) hW hH hM hA p1 with ⟨m, hm1, rfl, e1, e2⟩ | ⟨e1, e2⟩
  · rw [e1, e2 1]
    rcases G_meet (Y := Y) hW hH hM hA p2 with ⟨o, ho1, rfl, f1, f2⟩ | ⟨f1, f2⟩
    · simp only [obs, if_true, z10, if_false, f1, f2, nI_eqP (show m < 2 ^ 31 by omega) (show o < 2 ^ 31 by omega)]
      by_cases hmo : m = o
      · rw [if_pos hmo, obs, Y_ref_out, obs, obs]
        refine TG.ref (B := BO) (G := RG) (S := MS) (r := r5) 1 (by omega) h' (show _ < 3 from by omega) ?_ ?_
        · simp only [n20, if_false]; rfl
        · show ((f_M_may A 0 (nI 2) (nI 1)).bind _) = _
          rw [M_may_out hA (by decide) (by omega), obs, if_neg (show ¬ ((0 : Int32) ≠ 0) by decide), zb_0]; rfl
      · rw [if_neg hmo, obs, Y_ref_in, obs, obs, M_may_in hA, obs]
        obtain ⟨B', b1, b2⟩ := T_look BO hW hH hS
        simp only [if_true, b1, obs, z1]
        unfold f_Rings_couldSwap
        have i0 : ixx 4 0 = some 0 := by decide
        have i1 : ixx 4 1 = some 1 := by decide
        rw [i0, i1]
        simp only [obs, Y_mayTurn hW hH b2 hm1, Y_mayTurn hW hH b2 ho1, M_canRing hW hM hm1, M_canRing hW hM ho1]
        by_cases c1 : s_may1 C m
        · by_cases c2 : s_may1 C o
          · have w2 : (if s_may1 C o then (1 : Int32) else 0) = 1 := if_pos c2
            have w1 : (if s_may1 C m then (1 : Int32) else 0) = 1 := if_pos c1
            simp only [w1, w2, ne_eq, not_false_eq_true, if_true, z10, if_false]
            let ch : Nat → Nat := fun j => if j = 0 then m else o
            have hch : ∀ j, j < 2 → ch j < C 0 3 := fun j _ => by
              show (if j = 0 then m else o) < _
              split <;> assumption
            have hj : ∀ j, j < 2 → j = 0 ∨ j = 1 := fun j hj => by omega
            obtain ⟨B2, R2, t1, t2, t3⟩ := Y_turns (RG := u2 (u2 (u2 RG 0 3 2) 1 0 (nI m)) 1 1 (nI o)) (ch := ch) (many := 2) hW hP hH b2 (by omega) (by omega) hch rfl (fun j hj' => by
              rcases hj j hj' with rfl | rfl <;> rfl)
            obtain ⟨M2, x1, x2⟩ := M_isRing (MS := u2 (u2 MS 5 0 (nI m)) 5 1 (nI o)) (ch := ch) (many := 2) hW hP hM (by omega) (by omega) hch (fun j hj' => by
              rcases hj j hj' with rfl | rfl <;> rfl)
            have x1 : f_M_isRing A (u2 (u2 MS 5 0 (nI m)) 5 1 (nI o)) 2 = _ := x1
            rw [t1, x1]
            simp only [obs, law_1, s_law]
            by_cases c3 : bs (s_bad C (s_turn C ch 2 2)) (C 0 3) = 0
            · simp only [c3, not_true, if_false, if_true, obs, zb_1, z10]
              exact TG.ans (B := B2) (G := R2) (S := M2) (r := hm) 1 h' hA rfl rfl rfl
            · simp only [c3, not_false_eq_true, if_false, if_true, obs, zb_0]
              exact TG.ans (B := B2) (G := R2) (S := M2) (r := hm) 0 h' hA rfl rfl rfl
          · have w2 : (if s_may1 C o then (1 : Int32) else 0) = 0 := if_neg c2
            have w1 : (if s_may1 C m then (1 : Int32) else 0) = 1 := if_pos c1
            simp only [w1, w2, z10, if_false, if_true, obs, ne_eq, not_true, zb_0]
            exact TG.ans (B := B') (S := MS) (r := hm) 0 h' hA rfl rfl rfl
        · have w1 : (if s_may1 C m then (1 : Int32) else 0) = 0 := if_neg c1
          simp only [w1, if_true, obs, zb_0]
          exact TG.ans (B := B') (S := MS) (r := hm) 0 h' hA rfl rfl rfl
    · refine TG.ref (B := BO) (G := RG) (S := MS) (r := r5) 0 (by omega) h' (show _ < 3 from by omega) ?_ ?_
      · simp only [obs, if_true, f1, n10, if_false]
      · simp only [obs, z10, if_false, f2 1 (by decide), if_true, zb_0]; rfl
  · refine TG.ref (B := BO) (G := RG) (S := MS) (r := r5) 0 (by omega) h' (show _ < 3 from by omega) ?_ ?_
    · rw [e1]; rfl
    · rw [e2 1 (by decide), obs, if_pos rfl, zb_0]; rfl
