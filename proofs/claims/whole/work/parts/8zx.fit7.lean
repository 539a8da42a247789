/-! PURE MATH: the two searches, whole -/
theorem rooms_all {C : CS} {H A B F M : Nat → Nat → Int32} {tm : Nat → Nat} (hW : WFC C) (hP : WFP C) (hH : RH C H) (hM : RMo C A) {j t w : Nat} (hB : RB C (C 15) tm B) (hF : FB C F) (hQ : FQ C j t F M) (hj : j < C 0 3) (ht : t < C 0 0) (hwN : w < 2 ^ C 0 3) (hwj : ¬ w.testBit j = true) (hw0 : ∀ x, w.testBit x = true → C 15 x ≠ 0) (h3 : pc w 10 ≤ 3) (hbad : bs (s_bad C (s_aw C j w)) (C 0 3) = 0) :
    ∃ B' F' M', f_Fitter_tryRooms H B F (nI j) (nI t) (nI w) = some (B', F') ∧ loopN (fun q : Int32 × (Nat → Nat → Int32) => f_M_findFit_l88 A (nI j) (nI t) (nI w) (nI (pc w 10)) q.1 q.2) a_F (0, M) = some M' ∧ RB C (C 15) tm B' ∧ FB C F' ∧ FQ C j t F' M' := by
  have hN := hW.2.2.2.1
  have hR3 := hW.2.1
  have hpow : 2 ^ C 0 3 ≤ 1024 := Nat.le_trans (Nat.pow_le_pow_right (by omega) hN) (by decide : 2 ^ 10 ≤ 1024)
  have h01 : H 0 1 = nI (C 0 1) := hH 0 1 (show 1 < 6 by omega)
  have n1 : A 0 24 = nI (C 0 1) := hM.n (j := 1) (by omega)
  have hol : (s_os w (C 0 3) 0).length = pc w 10 := os_len hN hwN
  obtain ⟨F1, f1, f2, f3, f4⟩ := Y_list hW hH (w := w) (by omega) (C 0 3) 0 0 (u2 F 0 6 0) a_F (by omega) (u2_same _ _ _ _) (by omega) (by unfold a_F; omega)
  have f1 : loopN (fun q : Int32 × (Nat → Nat → Int32) => f_Fitter_listOthers_l7 H (nI w) q.1 q.2) a_F (0, u2 F 0 6 0) = some F1 := f1
  have g4 : ∀ a b, a ≠ 4 → ¬ (a = 0 ∧ b = 6) → F1 a b = F a b := fun a b h1 h2 => by rw [f4 a b h1 h2, u2_eq, if_neg h2]
  have hc := Y_costs (H := H) hW hH (s_os w (C 0 3) 0) 0 a_F 0 f2 (by omega) (fun o ho => by have := (os_mem w _ _ o).mp ho; omega) (by unfold a_F; omega)
  have hc : loopN (fun q : Int32 × Int32 => f_Fitter_tryRooms_l20 H F1 q.1 q.2) a_F (0, 0) = _ := hc
  have hs := sum_os (s_cost C) w (C 0 3) 0
  have hs0 : tsum (fun m => if w.testBit m = true then s_cost C m else 0) 0 = 0 := rfl
  rw [Nat.zero_add, hs0, Nat.zero_add] at hs
  have hMc : f_M_costsOf A (nI w) = some (nI (sumL (s_cost C) (s_os w (C 0 3) 0))) := by rw [M_costsOf hW hM (by omega), ← hs]
  have hle := sumL_le (s_cost C) 171 (cost_le hW) (s_os w (C 0 3) 0)
  have hcs : sumL (s_cost C) (s_os w (C 0 3) 0) ≤ 1000 := by
    rw [hol] at hle
    have := Nat.mul_le_mul_right 171 h3
    omega
  rw [Nat.zero_add] at hc
  unfold f_Fitter_tryRooms f_Fitter_listOthers
  rw [f1, obs, obs, hc, obs]
  obtain ⟨b, c, b1, b2, b3⟩ := loop_two (f := fun q : Int32 × (Nat → Nat → Int32) × (Nat → Nat → Int32) => f_Fitter_tryRooms_l55 H (nI t) (nI j) (nI (sumL (s_cost C) (s_os w (C 0 3) 0))) (nI w) q.1 q.2.1 q.2.2) (g := fun q : Int32 × (Nat → Nat → Int32) => f_M_findFit_l88 A (nI j) (nI t) (nI w) (nI (pc w 10)) q.1 q.2) (C 0 1)
    (fun r s u => s.1 = nI r ∧ u.1 = nI r ∧ RB C (C 15) tm s.2.1 ∧ LRo s.2.2 0 (s_os w (C 0 3) 0) ∧ FB C s.2.2 ∧ FQ C j t s.2.2 u.2) (fun b c => RB C (C 15) tm b.1 ∧ FB C b.2 ∧ FQ C j t b.2 c) (by omega)
    (fun r s u hr hR => by
      obtain ⟨v, X, Y⟩ := s
      obtain ⟨v', Z⟩ := u
      obtain ⟨r1, r2, r3, r4, r5, r6⟩ := hR
      have r1 : v = nI r := r1
      have r2 : v' = nI r := r2
      subst r1; subst r2
      obtain ⟨B', F', M', k1, k2, k3, k4, k5, k6⟩ := room_both hW hP hH hM r3 r4 r5 r6 hj ht hr hwN hwj hw0 h3 hbad hcs hMc
      exact ⟨_, _, k1, k2, rfl, rfl, k3, k4, k5, k6⟩)
    (fun s u hR => by
      obtain ⟨v, X, Y⟩ := s
      obtain ⟨v', Z⟩ := u
      obtain ⟨r1, r2, r3, r4, r5, r6⟩ := hR
      have r1 : v = nI (C 0 1) := r1
      have r2 : v' = nI (C 0 1) := r2
      subst r1; subst r2
      show ∃ b c, f_Fitter_tryRooms_l55 H (nI t) (nI j) (nI (sumL (s_cost C) (s_os w (C 0 3) 0))) (nI w) (nI (C 0 1)) X Y = _ ∧ f_M_findFit_l88 A (nI j) (nI t) (nI w) (nI (pc w 10)) (nI (C 0 1)) Z = _ ∧ _
      unfold f_Fitter_tryRooms_l55 f_M_findFit_l88
      rw [h01, n1, if_pos (nI_le (Nat.le_refl _) (by omega)), if_pos (nI_le (Nat.le_refl _) (by omega))]
      exact ⟨(X, Y), Z, rfl, rfl, r3, r5, r6⟩)
    0 (Nat.zero_le _) (0, B, F1) (0, M) ⟨rfl, rfl, hB, f2, hF.cg (fun b => g4 1 b (by decide) (by omega)) (fun b => g4 3 b (by decide) (by omega)) (g4 0 4 (by decide) (by omega)), hQ.cg (fun b hb => g4 0 b (by decide) (by omega)) (fun b => g4 2 b (by decide) (by omega)) (fun b => rfl)⟩
  obtain ⟨B', F'⟩ := b
  rw [b1, obs, b2]
  exact ⟨B', F', c, rfl, rfl, b3.1, b3.2.1, b3.2.2⟩
/-- the reference alone, where some that stay clash -/
theorem rooms_M {C : CS} {A M : Nat → Nat → Int32} (hW : WFC C) (hP : WFP C) (hM : RMo C A) {j t w : Nat} (hj : j < C 0 3) (ht : t < C 0 0) (hwN : w < 2 ^ C 0 3) (hwj : ¬ w.testBit j = true) (hbad : ¬ bs (s_bad C (s_aw C j w)) (C 0 3) = 0) :
    ∃ M', loopN (fun q : Int32 × (Nat → Nat → Int32) => f_M_findFit_l88 A (nI j) (nI t) (nI w) (nI (pc w 10)) q.1 q.2) a_F (0, M) = some M' ∧ ∀ b, M' 0 b = M 0 b := by
  have hN := hW.2.2.2.1
  have hR3 := hW.2.1
  have hT := hW.1.2
  have hpow : 2 ^ C 0 3 ≤ 1024 := Nat.le_trans (Nat.pow_le_pow_right (by omega) hN) (by decide : 2 ^ 10 ≤ 1024)
  have n1 : A 0 24 = nI (C 0 1) := hM.n (j := 1) (by omega)
  have hfix := hW.fixed j
  have rA : rdx (A 7) 10 (nI j) = some (oI (C 15 j)) := by rw [rdx_nI (by omega) (by omega), hM.here hj]
  have hfz : (nI (C 10 j) = 0) = (C 10 j = 0) := nI_eqP (b := 0) (by omega) (by omega)
  have e := loop_rel (body := fun q : Int32 × (Nat → Nat → Int32) => f_M_findFit_l88 A (nI j) (nI t) (nI w) (nI (pc w 10)) q.1 q.2) (C 0 1) (fun r s => s.1 = nI r ∧ ∀ b, s.2 0 b = M 0 b) (fun M' => ∀ b, M' 0 b = M 0 b) (by omega)
    (fun r s hr hs => by
      obtain ⟨v, X⟩ := s
      obtain ⟨s1, s2⟩ := hs
      have s1 : v = nI r := s1
      subst s1
      have s2' : ∀ b, X 0 b = M 0 b := s2
      have hk : 3 * t + r < 30 := by omega
      obtain ⟨M1, m1, _, m3⟩ := M_fitsIn X hW hP hM (w := w) (k := 3 * t + r) hj (by omega) hwj hk (by omega)
      have hno : s_fit C j w (3 * t + r) = none := by
        unfold s_fit
        rw [if_neg (fun h => hbad h.1)]
      rw [hno] at m1
      show ∃ s', f_M_findFit_l88 A (nI j) (nI t) (nI w) (nI (pc w 10)) (nI r) X = _ ∧ _
      unfold f_M_findFit_l88
      rw [n1, if_neg (nI_ge hr (by omega)), M_isFixed hW hM hj, obs, (pl_of t r).2, rA, M_costsOf hW hM (by omega)]
      simp only [obs, ne_eq, hfz]
      have fin : ∀ (Q : Prop) [Decidable Q], ∃ s' : Int32 × (Nat → Nat → Int32), (if Q then some (.inl (nI (r + 1), M1)) else some (.inl (nI (r + 1), X)) : Option ((Int32 × (Nat → Nat → Int32)) ⊕ (Nat → Nat → Int32))) = some (.inl s') ∧ s'.1 = nI (r + 1) ∧ ∀ b, s'.2 0 b = M 0 b := fun Q _ => by
        by_cases q : Q
        · rw [if_pos q]; exact ⟨_, rfl, rfl, fun b => by
            show M1 0 b = _
            rw [m3 0 b (by decide), s2' b]⟩
        · rw [if_neg q]; exact ⟨_, rfl, rfl, s2'⟩
      have hcost : ∃ v23, (if ¬ nI (3 * t + r) = oI (C 15 j) then (f_M_costOf A (nI j)).bind fun x22 => some x22 else some 0 : Option Int32) = some v23 := by
        by_cases c : nI (3 * t + r) = oI (C 15 j)
        · exact ⟨0, if_neg (fun h => h c)⟩
        · exact ⟨nI (s_cost C j), by rw [if_pos c, M_costOf hW hM hj, obs]⟩
      obtain ⟨v23, hv23⟩ := hcost
      by_cases hsk : ¬ C 10 j = 0 ∧ ¬ nI (3 * t + r) = oI (C 15 j)
      · rw [if_neg hsk.1, if_neg hsk.2, obs, se_r, ← nI_succ]
        exact ⟨_, rfl, rfl, s2'⟩
      · have eM : (if C 10 j = 0 then some (.inl ()) else if nI (3 * t + r) = oI (C 15 j) then some (.inl ()) else some (.inr (.inl (nI r + 1, X))) : Option (Unit ⊕ ((Int32 × (Nat → Nat → Int32)) ⊕ (Nat → Nat → Int32)))) = some (.inl ()) := by
          by_cases c : C 10 j = 0
          · rw [if_pos c]
          · rw [if_neg c, if_pos (Decidable.not_not.mp (fun h => hsk ⟨c, h⟩))]
        rw [eM, obs, se_l, hv23, obs]
        simp only [less_flag, obs]
        by_cases g1 : X 0 45 = -1 ∨ ¬ X 0 45 ≤ nI (pc w 10)
        · rw [if_pos g1, if_pos (show ¬ (1 : Int32) = 0 by decide), obs, se_l, m1, obs]
          show ∃ s', (if ¬ (0 : Int32) = 0 then _ else _) = _ ∧ _
          rw [if_neg (fun h => h rfl), ← nI_succ]
          exact ⟨_, rfl, rfl, fun b => by
            show M1 0 b = _
            rw [m3 0 b (by decide), s2' b]⟩
        · rw [if_neg g1, if_neg (fun h => h rfl)]
          by_cases g2 : X 0 48 ≤ nI (tsum (s_ct C w) (C 0 3)) + v23
          · rw [if_pos g2, obs, se_r, ← nI_succ]
            exact ⟨_, rfl, rfl, s2'⟩
          · rw [if_neg g2, obs, se_l, m1, obs]
            show ∃ s', (if ¬ (0 : Int32) = 0 then _ else _) = _ ∧ _
            rw [if_neg (fun h => h rfl), ← nI_succ]
            exact ⟨_, rfl, rfl, fun b => by
              show M1 0 b = _
              rw [m3 0 b (by decide), s2' b]⟩)
    (fun s hs => by
      obtain ⟨v, X⟩ := s
      obtain ⟨s1, s2⟩ := hs
      have s1 : v = nI (C 0 1) := s1
      subst s1
      show ∃ b, f_M_findFit_l88 A (nI j) (nI t) (nI w) (nI (pc w 10)) (nI (C 0 1)) X = _ ∧ _
      unfold f_M_findFit_l88
      rw [n1, if_pos (nI_le (Nat.le_refl _) (by omega))]
      exact ⟨_, rfl, s2⟩)
    (0, M) ⟨rfl, fun _ => rfl⟩
  exact e
/-- a set that may move -/
abbrev s_okw (C : CS) (j w : Nat) : Prop := (∀ x, w.testBit x = true → (C 15 x ≠ 0 ∧ ¬ (bs (fun m => C 10 m = 1) (C 0 3)).testBit x = true) ∧ ¬ (2 ^ j).testBit x = true)
theorem okw_iff {C : CS} (hW : WFC C) {j w : Nat} (hwN : w < 2 ^ C 0 3) : s_okw C j w ↔ (s_mgo C w ∧ ¬ w.testBit j = true) := by
  constructor
  · intro h
    refine ⟨fun m hm hb => ?_, fun hb => ?_⟩
    · obtain ⟨⟨h1, h2⟩, _⟩ := h m hb
      have hf := hW.fixed m
      rw [bs_bit, decide_eq_true_eq] at h2
      exact ⟨h1, by
        have : ¬ C 10 m = 1 := fun e => h2 ⟨hm, e⟩
        omega⟩
    · have := (h j hb).2
      rw [Nat.testBit_two_pow] at this
      exact this (by simp)
  · rintro ⟨h1, h2⟩ x hb
    obtain ⟨k1, k2⟩ := h1 x (bit_lt hwN hb) hb
    refine ⟨⟨k1, ?_⟩, ?_⟩
    · rw [bs_bit, decide_eq_true_eq]
      exact fun h => by have := h.2; omega
    · rw [Nat.testBit_two_pow, decide_eq_true_eq]
      exact fun e => h2 (e ▸ hb)
theorem sets_both {C : CS} {H A B F M : Nat → Nat → Int32} {tm : Nat → Nat} (hW : WFC C) (hP : WFP C) (hH : RH C H) (hM : RMo C A) {j t : Nat} (hB : RB C (C 15) tm B) (hF : FB C F) (hQ : FQ C j t F M) (hj : j < C 0 3) (ht : t < C 0 0) :
    ∃ B' F' M', loopN (fun q : Int32 × (Nat → Nat → Int32) × (Nat → Nat → Int32) => f_Fitter_search_l117 H (nI (bs (fun m => C 15 m ≠ 0) (C 0 3))) (nI j) (nI t) q.1 q.2.1 q.2.2) a_F (0, B, F) = some (B', F') ∧ loopN (fun q : Int32 × (Nat → Nat → Int32) => f_M_findFit_l43 A (nI j) (nI t) q.1 q.2) a_F (0, M) = some M' ∧ RB C (C 15) tm B' ∧ FQ C j t F' M' := by
  have hN := hW.2.2.2.1
  have hpow : 2 ^ C 0 3 ≤ 1024 := Nat.le_trans (Nat.pow_le_pow_right (by omega) hN) (by decide : 2 ^ 10 ≤ 1024)
  have h03 : H 0 3 = nI (C 0 3) := hH 0 3 (show 3 < 6 by omega)
  have n3 : A 0 26 = nI (C 0 3) := hM.n (j := 3) (by omega)
  have e5 : H 0 5 = nI (bs (fun m => C 10 m = 1) (C 0 3)) := hH 0 5 (show 5 < 6 by omega)
  obtain ⟨b, c, b1, b2, b3⟩ := loop_two (f := fun q : Int32 × (Nat → Nat → Int32) × (Nat → Nat → Int32) => f_Fitter_search_l117 H (nI (bs (fun m => C 15 m ≠ 0) (C 0 3))) (nI j) (nI t) q.1 q.2.1 q.2.2) (g := fun q : Int32 × (Nat → Nat → Int32) => f_M_findFit_l43 A (nI j) (nI t) q.1 q.2) (2 ^ C 0 3)
    (fun w s u => s.1 = nI w ∧ u.1 = nI w ∧ RB C (C 15) tm s.2.1 ∧ FB C s.2.2 ∧ FQ C j t s.2.2 u.2) (fun b c => RB C (C 15) tm b.1 ∧ FQ C j t b.2 c) (by omega)
    (fun w s u hw hR => by
      obtain ⟨v, X, Y⟩ := s
      obtain ⟨v', Z⟩ := u
      obtain ⟨r1, r2, r3, r5, r6⟩ := hR
      have r1 : v = nI w := r1
      have r2 : v' = nI w := r2
      subst r1; subst r2
      have r3' : RB C (C 15) tm X := r3
      have r5' : FB C Y := r5
      have r6' : FQ C j t Y Z := r6
      have hp1 := pc_le w 10
      have h3p : ((3 : Int32) < nI (pc w 10)) = (3 < pc w 10) := propext (na_lt (a := 3) (by omega) (by omega))
      obtain ⟨q1, q2⟩ := bitq (x := w) (j := j) (by omega) (by omega)
      show ∃ s' t', f_Fitter_search_l117 H (nI (bs (fun m => C 15 m ≠ 0) (C 0 3))) (nI j) (nI t) (nI w) X Y = _ ∧ f_M_findFit_l43 A (nI j) (nI t) (nI w) Z = _ ∧ _
      unfold f_Fitter_search_l117 f_M_findFit_l43
      rw [h03, n3, shl_1 _ (by omega), if_neg (nI_ge hw (by omega)), if_neg (nI_ge hw (by omega)), bc_nI (by omega), M_ones (by omega), rest_bits hN (by omega) (by omega)]
      have em : (nI w &&& (((nI (bs (fun m => C 15 m ≠ 0) (C 0 3)) &&& (H 0 5 ^^^ (-1))) &&& ((a_shl 1 (nI j)) ^^^ (-1))) ^^^ (-1)) = 0) ↔ s_okw C j w := by
        rw [e5, na_not (bs (fun m => C 10 m = 1) (C 0 3)), na_and, bs_diff _ (by omega), shl_1 _ (by omega), na_not (2 ^ j), na_and, bs_diff _ (by omega)]
        exact sub_mask hN hw
      generalize (nI w &&& (((nI (bs (fun m => C 15 m ≠ 0) (C 0 3)) &&& (H 0 5 ^^^ (-1))) &&& ((a_shl 1 (nI j)) ^^^ (-1))) ^^^ (-1))) = mk at em
      simp only [obs, h3p, q2, ne_eq]
      have hcm := M_canMove hW hM (w := w) (by omega)
      by_cases c3 : 3 < pc w 10
      · have ev : ((((if ¬ mk = 0 then some (.inl ()) else if 3 < pc w 10 then some (.inl ()) else some (.inr 1)) : Option (Unit ⊕ Int32)).bind fun b10 => sumE b10 (fun _ => some 0) (fun q => some q)) : Option Int32) = some 0 := by
          by_cases c : mk = 0
          · rw [if_neg (fun h => h c), if_pos c3]; rfl
          · rw [if_pos c]; rfl
        rw [ev, obs, if_pos rfl, if_pos c3, ← nI_succ]
        exact ⟨_, _, rfl, rfl, rfl, rfl, r3, r5, r6⟩
      · rw [if_neg c3, if_neg c3]
        by_cases cok : s_okw C j w
        · obtain ⟨g1, g2⟩ := (okw_iff hW hw).mp cok
          rw [if_neg (fun h => h (em.mpr cok)), obs, se_r, obs, if_neg (show ¬ (1 : Int32) = 0 by decide), if_neg g2, hcm.1 g1, obs, if_pos (show ¬ (1 : Int32) = 0 by decide), Y_restLaw hW hH r5', obs]
          by_cases cb : bs (s_bad C (s_aw C j w)) (C 0 3) = 0
          · rw [if_pos cb, if_neg (show ¬ (1 : Int32) = 0 by decide)]
            obtain ⟨B', F', M', k1, k2, k3, k4, k5⟩ := rooms_all hW hP hH hM r3' r5' r6' hj ht hw g2 (fun x hx => (g1 x (bit_lt hw hx) hx).1) (by omega) cb
            rw [k1, k2, obs, obs, ← nI_succ]
            exact ⟨_, _, rfl, rfl, rfl, rfl, k3, k4, k5⟩
          · rw [if_neg cb, if_pos rfl]
            obtain ⟨M', k1, k2⟩ := rooms_M (M := Z) hW hP hM hj ht hw g2 cb
            rw [k1, obs, ← nI_succ]
            exact ⟨_, _, rfl, rfl, rfl, rfl, r3, r5, r6'.cg (fun _ _ => rfl) (fun _ => rfl) k2⟩
        · rw [if_pos (fun h => cok (em.mp h)), obs, se_l, obs, if_pos rfl]
          by_cases g2 : w.testBit j = true
          · rw [if_pos g2, ← nI_succ]
            exact ⟨_, _, rfl, rfl, rfl, rfl, r3, r5, r6⟩
          · rw [if_neg g2, hcm.2 (fun h => cok ((okw_iff hW hw).mpr ⟨h, g2⟩)), obs, if_neg (fun h => h rfl), ← nI_succ]
            exact ⟨_, _, rfl, rfl, rfl, rfl, r3, r5, r6⟩)
    (fun s u hR => by
      obtain ⟨v, X, Y⟩ := s
      obtain ⟨v', Z⟩ := u
      obtain ⟨r1, r2, r3, r5, r6⟩ := hR
      have r1 : v = nI (2 ^ C 0 3) := r1
      have r2 : v' = nI (2 ^ C 0 3) := r2
      subst r1; subst r2
      show ∃ b c, f_Fitter_search_l117 H (nI (bs (fun m => C 15 m ≠ 0) (C 0 3))) (nI j) (nI t) (nI (2 ^ C 0 3)) X Y = _ ∧ f_M_findFit_l43 A (nI j) (nI t) (nI (2 ^ C 0 3)) Z = _ ∧ _
      unfold f_Fitter_search_l117 f_M_findFit_l43
      rw [h03, n3, shl_1 _ (by omega), if_pos (nI_le (Nat.le_refl _) (by omega)), if_pos (nI_le (Nat.le_refl _) (by omega))]
      exact ⟨(X, Y), Z, rfl, rfl, r3, r6⟩)
    0 (Nat.zero_le _) (0, B, F) (0, M) ⟨rfl, rfl, hB, hF, hQ⟩
  obtain ⟨B', F'⟩ := b
  exact ⟨B', F', c, b1, b2, b3.1, b3.2⟩
theorem search_both {C : CS} {H A B F M : Nat → Nat → Int32} {tm : Nat → Nat} (hW : WFC C) (hP : WFP C) (hH : RH C H) (hM : RMo C A) {j t : Nat} (hB : RB C (C 15) tm B) (hj : j < C 0 3) (ht : t < C 0 0) :
    ∃ B' F' M', f_Fitter_search H B F (nI j) (nI t) = some (B', F') ∧ f_M_findFit A M (nI j) (nI t) = some M' ∧ RB C (C 15) tm B' ∧ FQ C j t F' M' := by
  have hN := hW.2.2.2.1
  have hT := hW.1.2
  have hp := hW.plan j
  have hfix := hW.fixed j
  have hfz : (nI (C 10 j) = 0) = (C 10 j = 0) := nI_eqP (b := 0) (by omega) (by omega)
  have rA : rdx (A 7) 10 (nI j) = some (oI (C 15 j)) := by rw [rdx_nI (by omega) (by omega), hM.here hj]
  have rB : rdx (B 1) 10 (nI j) = some (oI (C 15 j)) := by rw [rdx_nI (by omega) (by omega), hB.1 j hj]
  unfold f_Fitter_search f_M_findFit
  rw [rA, rB, obs, obs]
  generalize hG0 : u1 (u2 (u2 (u2 F 0 8 (-1)) 0 9 0) 0 10 (-1)) 2 (filM ((u2 (u2 (u2 F 0 8 (-1)) 0 9 0) 0 10 (-1)) 2) 10 (-1)) = G
  have g8 : G 0 8 = -1 := by rw [← hG0, u1_eq, if_neg (by decide), u2_col _ _ (by decide), u2_col _ _ (by decide), u2_same]
  have g10 : G 0 10 = -1 := by rw [← hG0, u1_eq, if_neg (by decide), u2_same]
  have g2 : ∀ x, x < 10 → G 2 x = -1 := fun x hx => by
    rw [← hG0, u1_eq, if_pos rfl]
    unfold filM
    rw [if_pos hx]
  generalize hM0 : u2 (u2 M 0 45 (-1)) 0 48 (-1) = Z
  have z45 : Z 0 45 = -1 := by rw [← hM0, u2_col _ _ (by decide), u2_same]
  have z48 : Z 0 48 = -1 := by rw [← hM0, u2_same]
  have hQ0 : ∀ G' : Nat → Nat → Int32, (∀ a b, a ≠ 1 → G' a b = G a b) → FQ C j t G' Z := fun G' h => ⟨by rw [h 0 8 (by decide), g8, z45], by rw [h 0 10 (by decide), g10, z48], Or.inl ⟨by rw [h 0 8 (by decide), g8], by rw [h 0 10 (by decide), g10], fun x hx => by rw [h 2 x (by decide), g2 x hx]⟩⟩
  simp only [oI_z hp]
  by_cases c0 : C 15 j = 0
  · rw [if_pos c0, if_pos c0]
    exact ⟨B, G, Z, rfl, rfl, hB, hQ0 G (fun _ _ _ => rfl)⟩
  · rw [if_neg c0, if_neg c0, Y_isFixed hW hH hj, M_isFixed hW hM hj, obs, obs]
    obtain ⟨p1, p2⟩ := pl_h c0 hp
    unfold f_Y_hourOf
    simp only [hfz, obs, rA, p1, nI_eqP (show (C 15 j - 1) / 3 < 2 ^ 31 by omega) (show t < 2 ^ 31 by omega)]
    by_cases hsk : ¬ C 10 j = 0 ∧ ¬ (C 15 j - 1) / 3 = t
    · rw [if_neg hsk.1, if_neg hsk.1, if_neg hsk.2, if_neg hsk.2, obs, obs, se_r, se_r]
      exact ⟨B, G, Z, rfl, rfl, hB, hQ0 G (fun _ _ _ => rfl)⟩
    · have eY : (if C 10 j = 0 then some (.inl ()) else if (C 15 j - 1) / 3 = t then some (.inl ()) else some (.inr (B, G)) : Option (Unit ⊕ ((Nat → Nat → Int32) × (Nat → Nat → Int32)))) = some (.inl ()) := by
        by_cases c : C 10 j = 0
        · rw [if_pos c]
        · rw [if_neg c, if_pos (Decidable.not_not.mp (fun h => hsk ⟨c, h⟩))]
      have eM : (if C 10 j = 0 then some (.inl ()) else if (C 15 j - 1) / 3 = t then some (.inl ()) else some (.inr Z) : Option (Unit ⊕ (Nat → Nat → Int32))) = some (.inl ()) := by
        by_cases c : C 10 j = 0
        · rw [if_pos c]
        · rw [if_neg c, if_pos (Decidable.not_not.mp (fun h => hsk ⟨c, h⟩))]
      rw [eY, eM, obs, obs, se_l, se_l]
      simp only [cl_0, cl_10]
      rw [if_neg (by decide)]
      generalize hG1 : u1 G 1 (a_cpy (B 1) (G 1) 0 0 10) = G1
      have k1 : ∀ x, x < C 0 3 → G1 1 x = oI (C 15 x) := fun x hx => by
        rw [← hG1, u1_eq, if_pos rfl, cpyN _ _ (by omega), show 0 + (x - 0) = x from by omega, hB.1 x hx]
      have k2 : ∀ a b, a ≠ 1 → G1 a b = G a b := fun a b h => by rw [← hG1, u1_eq, if_neg h]
      obtain ⟨F2, f1, f2, f3⟩ := Y_rubs hW hP hH hB k1
      rw [f1, obs, Y_placed hW hH hB hW.plan, obs]
      obtain ⟨B', F', M', s1, s2, s3, s4⟩ := sets_both hW hP hH hM hB f2 ((hQ0 G1 k2).cg (fun b hb => f3 0 b (by decide) (by omega)) (fun b => f3 2 b (by decide) (by omega)) (fun _ => rfl)) hj ht
      rw [s1, s2, obs, obs]
      exact ⟨B', F', M', rfl, rfl, s3, s4⟩
