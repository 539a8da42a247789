/-! PURE MATH: house, the two -/
def d0C : CS := fun a b => if a = 0 ∧ b = 0 then 8 else 0
theorem bs_no (n : Nat) : bs (fun m => d0C 10 m = 1) n = 0 := Classical.byContradiction (fun h => by
  obtain ⟨i, _, hi⟩ := (bs_ne0 _ n).mp h
  exact absurd hi (by show ¬ (0 = 1); omega))
theorem WD_0 : WD d0C := by
  refine ⟨⟨by decide, by decide⟩, by decide, by decide, by decide, by decide, fun k => by show 0 ≤ 20; omega, fun k => by show 0 ≤ 9; omega, fun k => by show 0 ≤ 9; omega, fun k => Nat.two_pow_pos _, fun k => by show 0 ≤ 99; omega, fun k => Nat.two_pow_pos _, fun k => Nat.two_pow_pos _, fun k => by show 0 ≤ 1; omega, fun k => by show 0 < 30; omega, fun k => by show 0 ≤ 16; omega, fun k => by show 0 ≤ 99; omega, fun k => by show 0 ≤ 99; omega, fun m hm => ?_, fun k hk => ?_, fun m hm => ?_, fun p _ => rfl⟩
  · have hm : m < 0 := hm
    omega
  · have hk : k < 0 := hk
    omega
  · have hm : 0 = 1 := hm
    omega
theorem Y_forgetH (H : Nat → Nat → Int32) : ∃ H', f_House_forget H = some H' ∧ H' 0 0 = 8 ∧ (∀ j, 1 ≤ j → j ≤ 5 → H' 0 j = 0) ∧ (∀ k, k < 8 → H' 4 k = 0) ∧ ∀ k, k < 10 → H' 6 k = 0 ∧ H' 8 k = 0 ∧ H' 9 k = 0 := by
  unfold f_House_forget
  refine ⟨_, rfl, ?_, fun j h1 h5 => ?_, fun k hk => ?_, fun k hk => ⟨?_, ?_, ?_⟩⟩
  · rfl
  · have : j = 1 ∨ j = 2 ∨ j = 3 ∨ j = 4 ∨ j = 5 := by omega
    rcases this with rfl | rfl | rfl | rfl | rfl <;> rfl
  · show filM _ 8 0 k = 0
    unfold filM
    rw [if_pos hk]
  · show filM _ 10 0 k = 0
    unfold filM
    rw [if_pos hk]
  · show filM _ 10 0 k = 0
    unfold filM
    rw [if_pos hk]
  · show filM _ 10 0 k = 0
    unfold filM
    rw [if_pos hk]
theorem M_clears (M : Nat → Nat → Int32) : ∃ M', f_M_clears M = some M' ∧ M' 0 18 = 8 ∧ (∀ j, 19 ≤ j → j ≤ 22 → M' 0 j = 0) ∧ (∀ k, k < 60 → M' 3 k = 0) ∧ ∀ c, c ≤ 6 → M' 0 c = M 0 c := by
  unfold f_M_clears
  generalize hB : (u2 (u2 (u2 (u2 (u2 M 0 18 8) 0 19 0) 0 20 0) 0 21 0) 0 22 0) = B
  have e := loop_rel (body := fun q : Int32 × (Nat → Nat → Int32) => f_M_clears_l28 q.1 q.2) 60 (fun i s => s.1 = nI i ∧ (∀ k, k < i → s.2 3 k = 0) ∧ ∀ a b, a ≠ 3 → s.2 a b = B a b) (fun M' => (∀ k, k < 60 → M' 3 k = 0) ∧ ∀ a b, a ≠ 3 → M' a b = B a b) (by omega)
    (fun i s hi hs => by
      obtain ⟨v, X⟩ := s
      obtain ⟨s1, s2, s3⟩ := hs
      have s1 : v = nI i := s1
      subst s1
      have s2' : ∀ k, k < i → X 3 k = 0 := s2
      have s3' : ∀ a b, a ≠ 3 → X a b = B a b := s3
      show ∃ s', f_M_clears_l28 (nI i) X = _ ∧ _
      unfold f_M_clears_l28
      rw [if_neg (show ¬ (60 : Int32) ≤ nI i from nI_ge (b := 60) hi (by omega)), ixx_nI (by omega) (by omega), obs, ← nI_succ]
      refine ⟨_, rfl, rfl, fun k hk => ?_, fun a b h => ?_⟩
      · show u2 X 3 i 0 3 k = 0
        by_cases hki : k = i
        · subst hki; rw [u2_same]
        · rw [u2_col _ _ hki]; exact s2' k (by omega)
      · show u2 X 3 i 0 a b = _
        rw [u2_row _ _ h]; exact s3' a b h)
    (fun s hs => by
      obtain ⟨v, X⟩ := s
      obtain ⟨s1, s2, s3⟩ := hs
      have s1 : v = nI 60 := s1
      subst s1
      show ∃ b, f_M_clears_l28 (nI 60) X = _ ∧ _
      unfold f_M_clears_l28
      rw [if_pos (by decide)]
      exact ⟨_, rfl, s2, s3⟩)
    (0, B) ⟨rfl, fun k hk => by omega, fun _ _ _ => rfl⟩
  obtain ⟨M', e1, e2, e3⟩ := e
  rw [e1, obs]
  refine ⟨M', rfl, ?_, fun j h1 h2 => ?_, e2, fun c hc => ?_⟩
  · rw [e3 0 18 (by decide), ← hB, u2_col _ _ (by decide), u2_col _ _ (by decide), u2_col _ _ (by decide), u2_col _ _ (by decide), u2_same]
  · rw [e3 0 j (by decide), ← hB]
    have : j = 19 ∨ j = 20 ∨ j = 21 ∨ j = 22 := by omega
    rcases this with rfl | rfl | rfl | rfl <;> rfl
  · rw [e3 0 c (by decide), ← hB, u2_col _ _ (by omega), u2_col _ _ (by omega), u2_col _ _ (by omega), u2_col _ _ (by omega), u2_col _ _ (by omega)]
theorem NH_0 {H M : Nat → Nat → Int32} (h0 : H 0 0 = 8) (h1 : ∀ j, 1 ≤ j → j ≤ 5 → H 0 j = 0) (h4 : ∀ k, k < 8 → H 4 k = 0) (h6 : ∀ k, k < 10 → H 6 k = 0 ∧ H 8 k = 0 ∧ H 9 k = 0) (m0 : M 0 18 = 8) (m1 : ∀ j, 19 ≤ j → j ≤ 22 → M 0 j = 0) (m3 : ∀ k, k < 60 → M 3 k = 0) : NH d0C H M := by
  refine ⟨fun j hj => ?_, ?_, fun k hk => ?_, fun k hk => ?_, fun k hk => h4 k hk, fun k hk => ?_, fun m hm => ?_, fun k hk => ?_⟩
  · by_cases hj0 : j = 0
    · subst hj0; exact ⟨h0, m0⟩
    · have e : d0C 0 j = 0 := by unfold d0C; rw [if_neg (fun g => hj0 g.2)]
      rw [e]
      exact ⟨h1 j (by omega) (by omega), m1 _ (by omega) (by omega)⟩
  · show H 0 5 = nI (bs (fun m => d0C 10 m = 1) 10)
    rw [bs_no, h1 5 (by omega) (by omega)]; rfl
  · have hk : k < 0 := hk
    omega
  · have hk : k < 0 := hk
    omega
  · have hk : k < 0 := hk
    omega
  · obtain ⟨a1, a2, a3⟩ := h6 m hm
    exact ⟨a1, a2, a3, m3 _ (by omega), m3 _ (by omega), m3 _ (by omega), m3 _ (by omega)⟩
  · have hk : k < 0 := hk
    omega
theorem RM_new {D : CS} {H M A : Nat → Nat → Int32} (hD : NH D H M) (hW : WD D) (g1 : ∀ j, j < 5 → A 0 (23 + j) = M 0 (18 + j)) (g33 : A 0 33 = 0) (g40 : A 0 40 = 0) (g43 : A 0 43 = 0) (g65 : A 0 65 = 0) (g3 : ∀ k, k < 3 → A 3 k = M 1 k) (g4 : ∀ k, k < 24 → A 4 k = M 2 k) (g5 : ∀ k, k < 60 → A 5 k = M 3 k) (g6 : ∀ k, k < 16 → A 6 k = M 4 k) (g7 : ∀ m, m < D 0 3 → A 7 m = M 3 (6 * m) ∧ A 8 m = M 3 (6 * m + 5)) (g2 : A 0 2 = 0) (g8 : A 0 8 = -1) : RMo (hsC D) A := by
  obtain ⟨a1, a2, a3, a4, a5, a6, a7, a8⟩ := hD
  obtain ⟨⟨b1, b2⟩, b3, b4, b5, b6, _⟩ := hW
  intro a b hd
  match a, hd with
  | 0, hd =>
    have hb : b = 2 ∨ b = 8 ∨ (23 ≤ b ∧ b ≤ 27) ∨ b = 33 ∨ b = 40 ∨ b = 43 ∨ b = 65 := hd
    rcases hb with rfl | rfl | hb | rfl | rfl | rfl | rfl
    · exact g2
    · exact g8
    · have e := g1 (b - 23) (by omega)
      rw [show 23 + (b - 23) = b from by omega] at e
      show A 0 b = if b = 2 then _ else if b = 8 then _ else if b < 28 then nI (hsC D 0 (b - 23)) else _
      rw [if_neg (by omega), if_neg (by omega), if_pos (by omega), e, (a1 (b - 23) (by omega)).2]
      show _ = nI (if b - 23 < 5 then D 0 (b - 23) else 0)
      rw [if_pos (by omega)]
    · exact g33
    · exact g40
    · exact g43
    · exact g65
  | 2, hd =>
    have hb : b < 0 := hd
    omega
  | 3, hd =>
    have hb : b < D 0 1 := hd
    rw [g3 b (by omega)]
    exact (a3 b hb).2
  | 4, hd =>
    have hb : b < 3 * D 0 2 := hd
    obtain ⟨_, _, c3, c4, c5⟩ := a4 (b / 3) (by omega)
    rw [g4 b (by omega)]
    show _ = if b % 3 = 0 then nI (D 2 (b / 3)) else if b % 3 = 1 then nI (D 3 (b / 3)) else nI (D 4 (b / 3))
    by_cases h0 : b % 3 = 0
    · rw [if_pos h0, ← c3, show 3 * (b / 3) = b from by omega]
    · rw [if_neg h0]
      by_cases h1 : b % 3 = 1
      · rw [if_pos h1, ← c4, show 3 * (b / 3) + 1 = b from by omega]
      · rw [if_neg h1, ← c5, show 3 * (b / 3) + 2 = b from by omega]
  | 5, hd =>
    have hb : b < 6 * D 0 3 := hd
    obtain ⟨_, _, c3, c4⟩ := a6 (b / 6) (by omega)
    obtain ⟨_, _, _, d2, d3, d4, d5⟩ := a7 (b / 6) (by omega)
    rw [g5 b (by omega)]
    show _ = if b % 6 = 0 then nI (D 5 (b / 6)) else if b % 6 = 1 then nI (D 7 (b / 6)) else if b % 6 = 2 then nI (D 8 (b / 6)) else if b % 6 = 3 then nI (D 9 (b / 6)) else if b % 6 = 4 then nI (D 10 (b / 6)) else nI (D 6 (b / 6))
    by_cases h0 : b % 6 = 0
    · rw [if_pos h0, ← c3, show 6 * (b / 6) = b from by omega]
    · rw [if_neg h0]
      by_cases h1 : b % 6 = 1
      · rw [if_pos h1, ← c4, show 6 * (b / 6) + 1 = b from by omega]
      · rw [if_neg h1]
        by_cases h2 : b % 6 = 2
        · rw [if_pos h2, ← d2, show 6 * (b / 6) + 2 = b from by omega]
        · rw [if_neg h2]
          by_cases h3 : b % 6 = 3
          · rw [if_pos h3, ← d3, show 6 * (b / 6) + 3 = b from by omega]
          · rw [if_neg h3]
            by_cases h4 : b % 6 = 4
            · rw [if_pos h4, ← d4, show 6 * (b / 6) + 4 = b from by omega]
            · rw [if_neg h4, ← d5, show 6 * (b / 6) + 5 = b from by omega]
  | 6, hd =>
    have hb : b < 4 * D 0 4 := hd
    obtain ⟨_, _, c3, c4, c5, c6⟩ := a8 (b / 4) (by omega)
    rw [g6 b (by omega)]
    show _ = if b % 4 = 0 then nI (D 11 (b / 4)) else if b % 4 = 1 then nI (D 12 (b / 4)) else if b % 4 = 2 then nI (D 13 (b / 4)) else nI 0
    by_cases h0 : b % 4 = 0
    · rw [if_pos h0, ← c3, show 4 * (b / 4) = b from by omega]
    · rw [if_neg h0]
      by_cases h1 : b % 4 = 1
      · rw [if_pos h1, ← c4, show 4 * (b / 4) + 1 = b from by omega]
      · rw [if_neg h1]
        by_cases h2 : b % 4 = 2
        · rw [if_pos h2, ← c5, show 4 * (b / 4) + 2 = b from by omega]
        · rw [if_neg h2, show b = 4 * (b / 4) + 3 from by omega, c6]; rfl
  | 7, hd =>
    have hb : b < D 0 3 := hd
    show A 7 b = oI (if b < D 0 3 then D 5 b + 1 else 0)
    rw [if_pos hb, oI_s, (g7 b hb).1]
    exact (a6 b hb).2.2.1
  | 8, hd =>
    have hb : b < D 0 3 := hd
    show A 8 b = nI (D 6 b)
    rw [(g7 b hb).2]
    exact (a7 b (by omega)).2.2.2.2.2.2
  | 9, hd =>
    have hb : b < 2 * 0 := hd
    omega
  | 10, hd =>
    have hb : b < 0 := hd
    omega
  | 11, hd =>
    have hb : b < 0 := hd
    omega
  | 12, hd =>
    have hb : b / 20 < 0 := hd.1
    omega
  | 13, hd =>
    have hb : b / 658 < 0 := hd.1
    omega
theorem Y_start {D : CS} {H H' M : Nat → Nat → Int32} (NS : Nat → Nat → Int32) (hD : NH D H M) (hW : WD D) (hH : ∀ a b, a ≠ 10 → H' a b = H a b) : ∃ NS', f_State_start H' NS = some NS' ∧ RS (hsC D) NS' := by
  obtain ⟨a1, a2, a3, a4, a5, a6, a7, a8⟩ := hD
  obtain ⟨⟨b1, b2⟩, b3, b4, b5, b6, _⟩ := hW
  unfold f_State_start
  simp only [cl_0, cl_10]
  rw [if_neg (by decide), if_neg (by decide)]
  refine ⟨_, rfl, fun a b hd => ?_⟩
  match a, hd with
  | 0, hd =>
    have hb : b = 3 ∨ b = 4 := hd
    rcases hb with rfl | rfl
    · rw [u2_col _ _ (by decide), u2_same]
      show 0 = nI (bs (fun h => hsC D 14 h = 1) (hsC D 0 4))
      rw [show bs (fun h => hsC D 14 h = 1) (hsC D 0 4) = 0 from Classical.byContradiction (fun h => by
        obtain ⟨i, _, hi⟩ := (bs_ne0 _ _).mp h
        exact absurd hi (by show ¬ (0 = 1); omega))]
      rfl
    · rw [u2_same]; rfl
  | 1, hd =>
    have hb : b < D 0 3 := hd
    rw [u2_row _ _ (by decide), u2_row _ _ (by decide), u2_row _ _ (by decide), u1_eq, if_neg (by decide), u1_eq, if_pos rfl, cpyN _ _ (by omega), show 0 + (b - 0) = b from by omega, hH 5 b (by decide), (a6 b hb).1]
    show _ = oI (if b < D 0 3 then D 5 b + 1 else 0)
    rw [if_pos hb, oI_s]
  | 2, hd =>
    have hb : b < D 0 3 := hd
    rw [u2_row _ _ (by decide), u2_row _ _ (by decide), u2_row _ _ (by decide), u1_eq, if_pos rfl, cpyN _ _ (by omega), show 0 + (b - 0) = b from by omega, hH 6 b (by decide), (a7 b (by omega)).1]
    rfl
  | 3, hd =>
    have hb : b = 0 := hd
    subst hb
    rw [u2_row _ _ (by decide), u2_row _ _ (by decide), u2_same]; rfl
  | 4, hd =>
    have hb : b < 0 := hd
    omega
  | 5, hd =>
    have hb : b < 0 := hd
    omega
  | 6, hd =>
    have hb : b / 10 < 0 := hd.1
    omega
  | 7, hd =>
    have hb : b / 10 < 0 := hd.1
    omega
theorem RT_new {D : CS} {T : Nat → Nat → Int32} (h1 : T 0 1 = 0) (h9 : T 0 9 = -1) : RT (hsC D) T := by
  intro a b hd
  match a, hd with
  | 0, hd =>
    have hb : b = 1 ∨ b = 9 := hd
    rcases hb with rfl | rfl
    · exact h1
    · exact h9
  | 1, hd =>
    have hb : b < 0 := hd
    omega
theorem T_house {C : CS} {Y H H2 U NS A T MN : Nat → Nat → Int32} {hs hm w : Nat} (h : RL C Y H NS A) (hT : RT C T) (hP : WFP C) (p1 : Int32) :
    ∃ k v Y' T' H' U' NS' q1 q2 w' v' A' M' C', f_Y_house Y T H2 U NS hs hm w p1 = some (k, v, Y', T', H', U', NS', q1, q2, w') ∧ f_M_house A MN p1 = some (v', A', M') ∧ A' 0 0 = cd1 k ∧ (k = 0 ∨ k = 2) ∧ (k = 0 → v = v') ∧ RT C' T' ∧
      ((q1 = hm ∧ q2 = hs ∧ U' = U ∧ (C' = C ∨ TXC C C') ∧ RL C' Y' H NS' A') ∨ (q1 = hs ∧ q2 = hm ∧ NEWC C' ∧ RU C' U' ∧ RL C' Y' H' NS' A')) := by
  have h' := h.thr 0
  obtain ⟨hW, hY, hH, hS, hM, hQ⟩ := h'
  have hA : (u2 A 0 0 0) 0 0 = 0 := thr_0 A 0
  unfold f_Y_house f_M_house
  generalize u2 A 0 0 0 = A at hM hQ hA ⊢
  have h' : RL C Y H NS A := ⟨hW, hY, hH, hS, hM, hQ⟩
  obtain ⟨h9, h19⟩ := hW.c9
  have t1 : T 0 1 = nI (C 0 9) := hT 0 1 (Or.inl rfl)
  rw [t1, hM.d0.1]
  rcases G_n hW p1 600 (by omega) with ⟨n, hn1, hn2, rfl, c1, c2, c3⟩ | c
  · simp only [c1, c2, if_false, obs, se_r, Y_ref_in, M_may_in hA, if_true]
    rw [if_pos (by decide), M_begins, obs]
    obtain ⟨T1, w1, o1, o2, o3⟩ := open_both MN hW hT hM hn1
    obtain ⟨H1, f1, f2, f3, f4, f5⟩ := Y_forgetH H2
    obtain ⟨M1, m1, m2, m3, m4, m5⟩ := M_clears (bgM MN n)
    obtain ⟨T2, H3, w2, M2, x1, x2, x3⟩ := house_loop o3 (n + 1) 0 0 d0C T1 H1 w1 M1 a_F a_F (by omega) (by unfold a_F; omega) (by unfold a_F; omega) (o2.cg m5) (NH_0 f2 f3 f4 f5 m2 m3 m4) WD_0 (by omega) (fun _ => ⟨rfl, rfl, fun _ => rfl, fun _ => rfl⟩)
    have x1 : loopN (fun q : Int32 × (Nat → Nat → Int32) × (Nat → Nat → Int32) × Nat => f_House_read_l6 q.1 q.2.1 q.2.2.1 q.2.2.2) a_F (0, T1, H1, w1) = some (T2, H3, w2) := x1
    have x2 : loopN (fun q : Int32 × (Nat → Nat → Int32) => f_M_house_l44 (bgA A) q.1 q.2) a_F (0, M1) = some M2 := x2
    have eb : ∀ a b, ¬ (a = 0 ∧ (b = 2 ∨ b = 8)) → bgA A a b = A a b := fun a b hab => by
      unfold bgA
      rw [u2_eq, if_neg (by omega), u2_eq, if_neg (by omega)]
    have eb2 : bgA A 0 2 = 0 := by unfold bgA; rw [u2_col _ _ (by decide), u2_same]
    have te : f_Tape_empty T2 = some (u2 T2 0 1 0) := rfl
    rw [o1, obs, m1, obs, x2, obs]
    rcases x3 with ⟨k8, k9, k5, D, hD, hWD⟩ | ⟨⟨k, pl, g1, g2, g3, g4, g5, g6, g7⟩, D, M3, hD, hWD⟩
    · obtain ⟨H4, s1, s2, s3⟩ := Y_settle hD hWD
      obtain ⟨NS', n1, n2⟩ := Y_start NS hD hWD s3
      have yr : f_House_read T1 H2 w1 = some (T2, H4, w2) := by
        unfold f_House_read
        rw [f1, obs, x1, obs, s1, obs]
      have b5 := hWD.2.2.2.1
      have m21 : M2 0 21 = nI (D 0 3) := (hD.1 3 (by omega)).2
      obtain ⟨A', z1, z2, z33, z40, z43, z65, z3, z4, z5, z6, z7, z00, z02, z08, zz1⟩ := M_sets (u2 (bgA A) 0 8 (M2 0 5)) M2 b5 m21
      rw [yr, obs, te, obs, Y_failed0 (T := u2 T2 0 1 0) (by rw [u2_col _ _ (by decide), k8]), obs, if_pos rfl]
      have er : f_M_result (bgA A) M2 (M2 0 21) = some (M2 0 21, u2 (bgA A) 0 8 (M2 0 5)) := by
        unfold f_M_result
        rw [M_fine1 k5, obs, if_neg (by decide)]
      have ef : f_Rule_forget U = some (u2 U 0 1 0) := rfl
      dsimp only
      rw [ef, obs, n1, obs, er, obs, if_neg (fun g => g k5), z1, obs]
      refine ⟨0, _, _, _, _, _, _, _, _, _, _, _, _, hsC D, rfl, rfl, ?_, Or.inl rfl, fun _ => ?_, RT_new (u2_same _ _ _ _) (by rw [u2_col _ _ (by decide), k9]), Or.inr ⟨rfl, rfl, NEW_hs hWD, ⟨u2_same _ _ _ _, fun k hk => ?_⟩, WFC_hs hWD, ?_, s2, n2, RM_new hD hWD z2 z33 z40 z43 z65 z3 z4 z5 z6 z7 ?_ ?_, ?_⟩⟩
      · rw [z00, u2_col _ _ (by decide), eb 0 0 (by omega), hA]; rfl
      · show H4 0 3 = M2 0 21
        rw [s3 0 3 (by decide), (hD.1 3 (by omega)).1, m21]
      · have hk : k < 0 := hk
        omega
      · show u2 Y 0 3 0 0 3 = nI 0
        rw [u2_same]; rfl
      · rw [z02, u2_col _ _ (by decide), eb2]
      · rw [z08, u2_same, k5]
      · unfold RQ
        have q0 : ∀ x, u2 (bgA A) 0 8 (M2 0 5) 1 x = A 1 x := fun x => by rw [u2_row _ _ (by decide), eb 1 x (by omega)]
        have q1 : u2 Y 0 3 0 0 14 = Y 0 14 := u2_col _ _ (by decide)
        have q2 : u2 Y 0 3 0 0 15 = Y 0 15 := u2_col _ _ (by decide)
        rw [zz1, zz1, q0, q0, q1, q2]
        exact hQ
    · obtain ⟨H4, s1, s2, s3⟩ := Y_settle hD hWD
      have yr : f_House_read T1 H2 w1 = some (T2, H4, w2) := by
        unfold f_House_read
        rw [f1, obs, x1, obs, s1, obs]
      have fs : FSt n (u2 T2 0 1 0) M2 := ⟨k, pl, g1, g2, g3, by rw [u2_col _ _ (by decide), g4], by rw [u2_col _ _ (by decide), g5], g6, g7⟩
      rw [yr, obs, te, obs, (fs.f (by omega)).1, obs, if_neg (by decide)]
      unfold f_M_result
      rw [(fs.f (by omega)).2, obs, if_pos rfl, obs, if_pos (show M2 0 5 ≠ -1 from by rw [g6]; exact na_ne1 (by omega))]
      refine ⟨0, _, _, _, _, _, _, _, _, _, _, _, _, endC C (pl + 1), rfl, rfl, ?_, Or.inl rfl, fun _ => ?_, RT_end (u2_same _ _ _ _) (by rw [u2_col _ _ (by decide), g5, oI_s]), Or.inl ⟨rfl, rfl, rfl, Or.inr ⟨C, pl + 1, ACT.refl hP, by omega, rfl⟩, RL_end h' (by omega) ?_ ?_ (fun a b hab => ?_)⟩⟩
      · show u2 (bgA A) 0 8 (M2 0 5) 0 0 = _
        rw [u2_col _ _ (by decide), eb 0 0 (by omega), hA]; rfl
      · show u2 T2 0 1 0 0 8 - 10 = M2 0 6 - 10
        rw [u2_col _ _ (by decide), g4, g7]
      · show u2 (bgA A) 0 8 (M2 0 5) 0 2 = 0
        rw [u2_col _ _ (by decide), eb2]
      · show u2 (bgA A) 0 8 (M2 0 5) 0 8 = _
        rw [u2_same, g6, oI_s]
      · show u2 (bgA A) 0 8 (M2 0 5) a b = _
        rw [u2_eq, if_neg (by omega), eb a b (by omega)]
  · have ev : ((((if p1 < 0 then some (.inl ()) else if nI (C 0 9) < p1 then some (.inl ()) else some (.inr 1)) : Option (Unit ⊕ Int32)).bind fun b3 => sumE b3 (fun _ => some 0) (fun q => some q)) : Option Int32) = some 0 := by
      by_cases c0 : p1 < 0
      · rw [if_pos c0]; rfl
      · have c1 : nI (C 0 9) < p1 := by
          rcases c.resolve_left c0 with c1 | c1
          · exact c1
          · obtain ⟨x, hx, rfl⟩ := nI_of_nn c0
            have := (na_lt (a := 600) (by omega) hx).mp c1
            exact nI_lt (by omega) hx
        rw [if_neg c0, if_pos c1]; rfl
    rw [ev, obs, obs, Y_ref_out, obs, if_neg (show ¬ (2 : Nat) = 0 by decide)]
    have em : f_M_may A 0 1 1 = some (0, mRef A 1 1) := M_may_out (k := 1) hA (by decide) (by omega)
    rw [em, obs, if_neg (fun h => h rfl)]
    exact ⟨2, _, _, _, _, _, _, _, _, _, _, _, _, C, rfl, rfl, mRef_0 A 1 1, Or.inr rfl, (fun h => by cases h), hT, Or.inl ⟨rfl, rfl, rfl, Or.inl rfl, h'.ref 1 (k := 1) (by omega)⟩⟩
