/-! PURE MATH: begin, waits -/
theorem loop_rel {σ β : Type} {body : σ → Option (σ ⊕ β)} (N : Nat) (R : Nat → σ → Prop) (Q : β → Prop) (hN : N < 1000000)
    (h1 : ∀ i s, i < N → R i s → ∃ s', body s = some (.inl s') ∧ R (i + 1) s') (h2 : ∀ s, R N s → ∃ b, body s = some (.inr b) ∧ Q b) (s : σ) (h0 : R 0 s) : ∃ b, loopN body a_F s = some b ∧ Q b := by
  have key : ∀ t i n s, i + t = N → R i s → t < n → ∃ b, loopN body n s = some b ∧ Q b := by
    intro t
    induction t with
    | zero =>
      intro i n s hi hr hn
      obtain ⟨n, rfl⟩ : ∃ k, n = k + 1 := ⟨n - 1, by omega⟩
      have hi : i = N := by omega
      subst hi
      obtain ⟨b, b1, b2⟩ := h2 s hr
      exact ⟨b, loop_r b1, b2⟩
    | succ t ih =>
      intro i n s hi hr hn
      obtain ⟨n, rfl⟩ : ∃ k, n = k + 1 := ⟨n - 1, by omega⟩
      obtain ⟨s', b1, b2⟩ := h1 i s (by omega) hr
      rw [loop_l b1]
      exact ih (i + 1) n s' (by omega) b2 (by omega)
  exact key N 0 a_F s (by omega) h0 (by unfold a_F; omega)
theorem and_bit (x m : Nat) : x &&& 2 ^ m = if x.testBit m = true then 2 ^ m else 0 := by
  apply Nat.eq_of_testBit_eq
  intro i
  rw [Nat.testBit_and, Nat.testBit_two_pow]
  by_cases h : m = i
  · subst h
    by_cases hx : x.testBit m = true
    · rw [if_pos hx, hx, Nat.testBit_two_pow_self]; simp
    · rw [if_neg hx, Nat.zero_testBit]; simp at hx; simp [hx]
  · simp only [h, decide_false, Bool.and_false]
    split
    · rw [Nat.testBit_two_pow]; simp [h]
    · rw [Nat.zero_testBit]
theorem and_bit0 {x m : Nat} (hm : m < 31) : (nI (x &&& 2 ^ m) = 0) = ¬ x.testBit m = true := by
  have h2 : 2 ^ m ≤ 2 ^ 30 := Nat.pow_le_pow_right (by omega) (by omega)
  have h0 : 0 < 2 ^ m := Nat.two_pow_pos m
  rw [and_bit]
  apply propext
  by_cases hx : x.testBit m = true
  · rw [if_pos hx]
    exact ⟨fun h => absurd ((na_eq (b := 0) (by omega) (by omega)).mp h) (by omega), fun h => absurd hx h⟩
  · rw [if_neg hx]
    exact ⟨fun _ => hx, fun _ => rfl⟩
theorem or_z (x : Nat) : nI x ||| 0 = nI x := by
  rw [show (0 : Int32) = nI 0 from rfl, na_or, Nat.or_zero]
theorem law_1 {C : CS} {pl : Nat → Nat} : (s_law C pl = 0) = ¬ (bs (s_bad C pl) (C 0 3) = 0) := by
  unfold s_law
  apply propext
  by_cases h : bs (s_bad C pl) (C 0 3) = 0
  · rw [if_pos h]; exact ⟨fun h2 => absurd h2 (by decide), fun h2 => absurd h h2⟩
  · rw [if_neg h]; exact ⟨fun _ => h, fun _ => rfl⟩
/-- all lawful, when these have gone -/
abbrev s_lw (C : CS) (g : Nat) : Prop := bs (s_bad C (s_mix C g)) (C 0 3) = 0
abbrev s_can (C : CS) (g m : Nat) : Prop := s_ap C m ∧ ¬ g.testBit m = true ∧ C 10 m = 0 ∧ s_lw C (g ||| 2 ^ m)
/-- apart and not fixed, not gone -/
theorem Y_left {C : CS} {H GU : Nat → Nat → Int32} (hW : WFC C) (hH : RH C H) (hG : RG C GU) {m : Nat} (hm : m < C 0 3) : (((GU 0 4 &&& (H 0 5 ^^^ (-1))) &&& a_shl 1 (nI m)) = 0) = ¬ (s_ap C m ∧ C 10 m = 0) := by
  have hN := hW.2.2.2.1
  have hf := hW.fixed m
  have e5 : H 0 5 = nI (bs (fun m => C 10 m = 1) (C 0 3)) := hH 0 5 (show 5 < 6 by omega)
  have hb := bs_bit (fun m => C 10 m = 1) (C 0 3) m
  rw [hG.2.2, e5, na_not, na_and, shl_1 _ (by omega), na_and, and_bit0 (by omega)]
  unfold s_apart
  rw [bs_diff _ (by omega), bs_bit, decide_eq_true_eq, hb, decide_eq_true_eq]
  apply propext
  constructor
  · intro h g
    exact h ⟨hm, g.1, fun k => by have := k.2; omega⟩
  · intro h g
    exact h ⟨g.2.1, by
      have := g.2.2
      have h2 : ¬ C 10 m = 1 := fun e => this ⟨hm, e⟩
      omega⟩
theorem M_goneBy {C : CS} {A MS : Nat → Nat → Int32} (hW : WFC C) (hM : RMo C A) (hG : ∀ m, m < C 0 3 → MS 1 m = oI (s_G C m)) {g : Nat} (hg : g < 2 ^ 31) : ∃ MS', f_M_goneBy A MS (nI g) = some MS' ∧ (∀ m, m < C 0 3 → MS' 4 m = oI (s_mix C g m)) ∧ ∀ a b, a ≠ 4 → MS' a b = MS a b := by
  have hN := hW.2.2.2.1
  let V : Nat → Int32 := fun b => if g.testBit b = true then MS 1 b else A 7 b
  have hV : ∀ b, V b = if g.testBit b = true then MS 1 b else A 7 b := fun _ => rfl
  let S : Nat → Nat → Nat → Int32 := fun i a b => if a = 4 ∧ b < i then V b else MS a b
  have hSd : ∀ i a b, S i a b = if a = 4 ∧ b < i then V b else MS a b := fun _ _ _ => rfl
  have e := loop_for (body := fun q => f_M_goneBy_l2 A (nI g) q.1 q.2) 10 S (b := S 10) 0 (by omega) (by omega)
    (fun i _ hi => by
      obtain ⟨a1, a2⟩ := bitq (x := g) (j := i) hg (by omega)
      have s1 : S i 1 i = MS 1 i := by rw [hSd, if_neg (by omega)]
      show f_M_goneBy_l2 A (nI g) (nI i) (S i) = some (Sum.inl (nI (i + 1), S (i + 1)))
      unfold f_M_goneBy_l2
      rw [if_neg (show ¬ (10 : Int32) ≤ nI i from nI_ge (b := 10) hi (by omega)), rdx_nI hi (by omega), rdx_nI hi (by omega), s1, obs, obs, ixx_nI hi (by omega)]
      simp only [ne_eq, a2]
      have hv : (if ¬ g.testBit i = true then (some (A 7 i) : Option Int32) else some (MS 1 i)) = some (V i) := by
        rw [hV]
        by_cases hb : g.testBit i = true
        · rw [if_neg (fun h => h hb), if_pos hb]
        · rw [if_pos hb, if_neg hb]
      rw [hv, obs, obs, ← nI_succ]
      congr 3
      funext a b
      rw [u2_eq, hSd, hSd]
      by_cases h : a = 4 ∧ b = i
      · rw [if_pos h, if_pos ⟨h.1, by omega⟩, h.2]
      · rw [if_neg h]
        by_cases h2 : a = 4 ∧ b < i
        · rw [if_pos h2, if_pos ⟨h2.1, by omega⟩]
        · rw [if_neg h2, if_neg (fun k => h2 ⟨k.1, by
            have : b ≠ i := fun e => h ⟨k.1, e⟩
            omega⟩)])
    (by
      show f_M_goneBy_l2 A (nI g) (nI 10) _ = _
      unfold f_M_goneBy_l2
      rw [if_pos (by decide)])
  have e0 : S 0 = MS := by
    funext a b
    rw [hSd, if_neg (by omega)]
  rw [e0] at e
  unfold f_M_goneBy
  rw [show ((0 : Int32), MS) = (nI 0, MS) from rfl, e, obs]
  refine ⟨_, rfl, fun m hm => ?_, fun a b ha => ?_⟩
  · rw [hSd, if_pos ⟨rfl, by omega⟩, hV, hG m hm, hM.here hm]
    unfold s_mix
    split <;> rfl
  · rw [hSd, if_neg (fun h => ha h.1)]
theorem M_canGo {C : CS} {A MS : Nat → Nat → Int32} (hW : WFC C) (hP : WFP C) (hM : RMo C A) (hG : ∀ m, m < C 0 3 → MS 1 m = oI (s_G C m)) {g m : Nat} (hg : g < 2 ^ 30) (hm : m < C 0 3) : ∃ MS', f_M_canGo A MS (nI m) (nI g) (nI (s_apart C)) = some (if s_can C g m then 1 else 0, MS') ∧ ∀ a b, a ≠ 4 → MS' a b = MS a b := by
  have hN := hW.2.2.2.1
  have hlt : s_apart C < 1024 := bs_lt10 _ hN
  have hf := hW.fixed m
  obtain ⟨a1, a2⟩ := bitq (x := s_apart C) (j := m) (by omega) (by omega)
  obtain ⟨b1, b2⟩ := bitq (x := g) (j := m) (by omega) (by omega)
  have hb : (s_apart C).testBit m = true ↔ s_ap C m := by
    unfold s_apart
    rw [bs_bit, decide_eq_true_eq]
    exact ⟨fun h => h.2, fun h => ⟨hm, h⟩⟩
  have h2 : 2 ^ m < 2 ^ 30 := Nat.pow_lt_pow_right (by omega) (by omega)
  have hor : g ||| 2 ^ m < 2 ^ 30 := Nat.or_lt_two_pow hg h2
  obtain ⟨MS', c1, c2, c3⟩ := M_goneBy hW hM hG (g := g ||| 2 ^ m) (by omega)
  obtain ⟨k1, k2⟩ := mix_ok hW hP (g ||| 2 ^ m)
  unfold f_M_canGo
  simp only [a1, b2, hb, M_isFixed hW hM hm, obs]
  by_cases d1 : s_ap C m
  · rw [if_neg (fun h => h d1)]
    by_cases d2 : g.testBit m = true
    · rw [if_pos d2]
      exact ⟨MS, by rw [if_neg (fun h => h.2.1 d2), zb_0], fun _ _ _ => rfl⟩
    · rw [if_neg d2]
      by_cases d3 : C 10 m = 0
      · rw [if_pos (by rw [d3]; rfl), shl_1 _ (by omega), na_or, c1, obs, M_isLawful hW hM (fun x hx => c2 x hx) k1 k2, obs]
        refine ⟨MS', ?_, c3⟩
        by_cases d4 : s_lw C (g ||| 2 ^ m)
        · rw [if_pos d4, if_pos (show s_can C g m from ⟨d1, d2, d3, d4⟩), zb_1]
        · rw [if_neg d4, if_neg (show ¬ s_can C g m from fun h => d4 h.2.2.2), zb_0]
      · have d3' : C 10 m = 1 := by omega
        rw [if_neg (by rw [d3']; decide)]
        exact ⟨MS, by rw [if_neg (fun h => d3 h.2.2.1), zb_0], fun _ _ _ => rfl⟩
  · rw [if_pos d1]
    exact ⟨MS, by rw [if_neg (fun h => d1 h.1), zb_0], fun _ _ _ => rfl⟩
theorem T_begin {C : CS} {Y H NS A BO GU MS : Nat → Nat → Int32} (h : RL C Y H NS A) (hP : WFP C) : ∃ v B' GU' MS', f_Y_begin H NS BO GU = some (v, B', GU') ∧ f_M_begin A MS = some (v, u2 A 0 0 0, MS') := by
  obtain ⟨hW, hY, hH, hS, hM, hQ⟩ := h.thr 0
  have hN := hW.2.2.2.1
  have h03 : H 0 3 = nI (C 0 3) := hH 0 3 (show 3 < 6 by omega)
  obtain ⟨B', GU', a1, a2, a3⟩ := Y_guide BO GU hW hP hH hS
  obtain ⟨MS', m1, m2⟩ := M_apart MS hW hP hM
  have eY : ∃ b, loopN (fun q => f_Guide_beginners_l4 H GU' q.1 q.2.1 q.2.2) a_F (0, 0, B') = some b ∧ b.1 = nI (bs (s_can C 0) (C 0 3)) :=
    loop_rel (body := fun q : Int32 × Int32 × (Nat → Nat → Int32) => f_Guide_beginners_l4 H GU' q.1 q.2.1 q.2.2) (C 0 3) (fun i s => s.1 = nI (bs (s_can C 0) i) ∧ s.2.1 = nI i ∧ RB C (C 15) (C 16) s.2.2) (fun b => b.1 = nI (bs (s_can C 0) (C 0 3))) (by omega)
      (fun i s hi hs => by
        obtain ⟨v, j, B⟩ := s
        obtain ⟨s1, s2, s3⟩ := hs
        have s1 : v = _ := s1
        have s2 : j = _ := s2
        have s3 : RB C (C 15) (C 16) B := s3
        subst s1; subst s2
        have h2 : 2 ^ i < 2 ^ 31 := Nat.pow_lt_pow_right (by omega) (by omega)
        obtain ⟨B2, b1, b2⟩ := Y_lawfulAfter (g := 2 ^ i) hW hP hH s3 a3 h2
        show ∃ s', f_Guide_beginners_l4 H GU' (nI _) (nI i) B = _ ∧ _
        unfold f_Guide_beginners_l4
        rw [h03, if_neg (nI_ge hi (by omega)), shl_1 _ (by omega)]
        have yl := Y_left hW hH a3 hi
        rw [shl_1 _ (by omega)] at yl
        simp only [yl]
        by_cases c1 : s_ap C i ∧ C 10 i = 0
        · rw [if_neg (fun h => h c1), b1, obs]
          simp only [law_1]
          by_cases c2 : s_lw C (2 ^ i)
          · rw [if_neg (fun h => h c2)]
            refine ⟨_, rfl, ?_, (nI_succ i).symm, b2⟩
            show nI _ ||| nI _ = _
            rw [na_or, bs_hit (p := s_can C 0) ⟨c1.1, by rw [Nat.zero_testBit]; decide, c1.2, by rw [Nat.zero_or]; exact c2⟩]
          · rw [if_pos c2]
            refine ⟨_, rfl, ?_, (nI_succ i).symm, b2⟩
            rw [bs_miss (p := s_can C 0) (fun h => c2 (by have := h.2.2.2; rw [Nat.zero_or] at this; exact this))]
        · rw [if_pos c1]
          refine ⟨_, rfl, ?_, (nI_succ i).symm, s3⟩
          rw [bs_miss (p := s_can C 0) (fun h => c1 ⟨h.1, h.2.2.1⟩)])
      (fun s hs => by
        obtain ⟨v, j, B⟩ := s
        obtain ⟨s1, s2, s3⟩ := hs
        have s1 : v = _ := s1
        have s2 : j = _ := s2
        subst s1; subst s2
        show ∃ b, f_Guide_beginners_l4 H GU' (nI _) (nI (C 0 3)) B = _ ∧ _
        unfold f_Guide_beginners_l4
        rw [h03, if_pos (nI_le (Nat.le_refl _) (by omega))]
        exact ⟨_, rfl, rfl⟩)
      (0, 0, B') ⟨rfl, rfl, a2⟩
  have n3 : (u2 A 0 0 0) 0 26 = nI (C 0 3) := hM.n (j := 3) (by omega)
  have eM : ∃ b, loopN (fun q => f_M_begin_l14 A (nI (s_apart C)) q.1 q.2.1 q.2.2) a_F (0, 0, MS') = some b ∧ b.1 = nI (bs (s_can C 0) (C 0 3)) :=
    loop_rel (body := fun q : Int32 × Int32 × (Nat → Nat → Int32) => f_M_begin_l14 A (nI (s_apart C)) q.1 q.2.1 q.2.2) (C 0 3) (fun i s => s.1 = nI (bs (s_can C 0) i) ∧ s.2.1 = nI i ∧ (∀ m, m < C 0 3 → s.2.2 1 m = oI (s_G C m))) (fun b => b.1 = nI (bs (s_can C 0) (C 0 3))) (by omega)
      (fun i s hi hs => by
        obtain ⟨v, j, B⟩ := s
        obtain ⟨s1, s2, s3⟩ := hs
        have s1 : v = _ := s1
        have s2 : j = _ := s2
        have s3 : ∀ m, m < C 0 3 → B 1 m = oI (s_G C m) := s3
        subst s1; subst s2
        obtain ⟨B2, b1, b2⟩ := M_canGo (g := 0) hW hP hM s3 (by omega) hi
        have b1 : f_M_canGo (u2 A 0 0 0) B (nI i) 0 (nI (s_apart C)) = some (if s_can C 0 i then 1 else 0, B2) := b1
        have s3' : ∀ m, m < C 0 3 → B2 1 m = oI (s_G C m) := fun m hm => by rw [← s3 m hm]; exact b2 1 m (by decide)
        show ∃ s', f_M_begin_l14 A (nI (s_apart C)) (nI _) (nI i) B = _ ∧ _
        unfold f_M_begin_l14
        rw [n3, if_neg (nI_ge hi (by omega)), b1, obs]
        by_cases c1 : s_can C 0 i
        · rw [if_pos c1]
          simp only [show ((1 : Int32) = 0) = False from eq_false (by decide), if_false, obs]
          refine ⟨_, rfl, ?_, (nI_succ i).symm, s3'⟩
          show nI _ ||| a_shl 1 (nI i) = _
          rw [shl_1 _ (by omega), na_or, bs_hit (p := s_can C 0) c1]
        · rw [if_neg c1]
          simp only [if_true, obs]
          refine ⟨_, rfl, ?_, (nI_succ i).symm, s3'⟩
          show nI _ ||| 0 = _
          rw [or_z, bs_miss (p := s_can C 0) c1])
      (fun s hs => by
        obtain ⟨v, j, B⟩ := s
        obtain ⟨s1, s2, s3⟩ := hs
        have s1 : v = _ := s1
        have s2 : j = _ := s2
        subst s1; subst s2
        show ∃ b, f_M_begin_l14 A (nI (s_apart C)) (nI _) (nI (C 0 3)) B = _ ∧ _
        unfold f_M_begin_l14
        rw [n3, if_pos (nI_le (Nat.le_refl _) (by omega))]
        exact ⟨_, rfl, rfl⟩)
      (0, 0, MS') ⟨rfl, rfl, m2⟩
  obtain ⟨⟨v, B2⟩, y1, y2⟩ := eY
  obtain ⟨⟨v', M2⟩, x1, x2⟩ := eM
  have y2 : v = _ := y2
  have x2 : v' = _ := x2
  subst y2; subst x2
  refine ⟨nI (bs (s_can C 0) (C 0 3)), B2, GU', M2, ?_, ?_⟩
  · unfold f_Y_begin f_Guide_beginners
    rw [a1, obs]
    show (((loopN (fun q => f_Guide_beginners_l4 H GU' q.1 q.2.1 q.2.2) a_F (0, 0, B')).bind _).bind _) = _
    rw [y1, obs, obs]
  · unfold f_M_begin
    rw [m1, obs]
    show ((loopN (fun q => f_M_begin_l14 A (nI (s_apart C)) q.1 q.2.1 q.2.2) a_F (0, 0, MS')).bind _) = _
    rw [x1, obs]
/-- what a question refused by kinds owes, that goes by the guide -/
def TG (C : CS) (H NS : Nat → Nat → Int32) (y : Option (Nat × Int32 × (Nat → Nat → Int32) × (Nat → Nat → Int32) × (Nat → Nat → Int32) × Nat)) (m : Option (Int32 × (Nat → Nat → Int32) × (Nat → Nat → Int32))) (cd : Nat → Int32) (K : Nat → Prop) : Prop :=
  ∃ k v Y' B' G' r' v' A' S', y = some (k, v, Y', B', G', r') ∧ m = some (v', A', S') ∧ A' 0 0 = cd k ∧ (k = 0 ∨ K k) ∧ (k = 0 → v = v') ∧ RL C Y' H NS A'
theorem TG.ans {C : CS} {Y H NS A B G S : Nat → Nat → Int32} {r : Nat} {y : Option (Nat × Int32 × (Nat → Nat → Int32) × (Nat → Nat → Int32) × (Nat → Nat → Int32) × Nat)} {m : Option (Int32 × (Nat → Nat → Int32) × (Nat → Nat → Int32))} {cd : Nat → Int32} {K : Nat → Prop} (v : Int32) (h : RL C Y H NS A) (h0 : A 0 0 = 0) (hc : cd 0 = 0) (hy : y = some (0, v, Y, B, G, r)) (hm : m = some (v, A, S)) : TG C H NS y m cd K := ⟨0, v, Y, B, G, r, v, A, S, hy, hm, by rw [h0, hc], Or.inl rfl, fun _ => rfl, h⟩
theorem TG.ref {C : CS} {Y H NS A B G S : Nat → Nat → Int32} {r : Nat} {y : Option (Nat × Int32 × (Nat → Nat → Int32) × (Nat → Nat → Int32) × (Nat → Nat → Int32) × Nat)} {m : Option (Int32 × (Nat → Nat → Int32) × (Nat → Nat → Int32))} {cd : Nat → Int32} {K : Nat → Prop} (k : Nat) (hk : k < 2) (h : RL C Y H NS A) (hK : K (k + 1)) (hy : y = some (k + 1, 0, yRef Y k, B, G, r)) (hm : m = some (0, mRef A (cd (k + 1)) k, S)) : TG C H NS y m cd K := ⟨k + 1, 0, yRef Y k, B, G, r, 0, mRef A (cd (k + 1)) k, S, hy, hm, mRef_0 _ _ _, Or.inr hK, fun h => by omega, h.ref _ hk⟩
/-- in the way of m at place k -/
abbrev s_way (C : CS) (pl : Nat → Nat) (m k o : Nat) : Prop := s_wP C pl m k o ∨ s_wR C pl m k o
theorem bs_or (p q : Nat → Prop) [DecidablePred p] [DecidablePred q] (n : Nat) : bs p n ||| bs q n = bs (fun i => p i ∨ q i) n := by
  apply Nat.eq_of_testBit_eq
  intro i
  rw [Nat.testBit_or, bs_bit, bs_bit, bs_bit]
  by_cases h1 : i < n <;> by_cases h2 : p i <;> by_cases h3 : q i <;> simp [h1, h2, h3]
theorem Y_inWay {C : CS} {H BO : Nat → Nat → Int32} {pl tm : Nat → Nat} (hW : WFC C) (hH : RH C H) (hB : RB C pl tm BO) (hpl : ∀ m, pl m ≤ 30) {m k : Nat} (hm : m < C 0 3) (hk : k < 30) : f_Board_inWay H BO (nI m) (nI k) = some (nI (bs (s_way C pl m k) (C 0 3))) := by
  have hN := hW.2.2.2.1
  have lP := bs_lt10 (s_wP C pl m k) hN
  have lR := bs_lt10 (s_wR C pl m k) hN
  obtain ⟨t1, t2, t3⟩ := two_parts lR lP
  unfold f_Board_inWay
  rw [Y_others hW hH hB hpl hm hk, obs, show (10 : Int32) = nI 10 from rfl, t2, na_or, show (1023 : Int32) = nI (2 ^ 10 - 1) from rfl, na_and]
  congr 2
  have hb : ∀ i, ((bs (s_wR C pl m k) (C 0 3) * 1024 ||| bs (s_wP C pl m k) (C 0 3) ||| bs (s_wR C pl m k) (C 0 3)) &&& (2 ^ 10 - 1)).testBit i = (bs (s_way C pl m k) (C 0 3)).testBit i := fun i => by
    rw [show bs (s_wR C pl m k) (C 0 3) * 1024 = 2 ^ 10 * bs (s_wR C pl m k) (C 0 3) from by omega, Nat.testBit_and, Nat.testBit_or, Nat.testBit_or, Nat.testBit_two_pow_mul, Nat.testBit_two_pow_sub_one, ← bs_or, Nat.testBit_or]
    by_cases h : i < 10
    · have h2 : ¬ 10 ≤ i := by omega
      simp [h, h2]
    · rw [Nat.testBit_lt_two_pow (show bs (s_wP C pl m k) (C 0 3) < 2 ^ i from Nat.lt_of_lt_of_le lP (Nat.pow_le_pow_right (n := 2) (i := 10) (by omega) (by omega))), Nat.testBit_lt_two_pow (show bs (s_wR C pl m k) (C 0 3) < 2 ^ i from Nat.lt_of_lt_of_le lR (Nat.pow_le_pow_right (n := 2) (i := 10) (by omega) (by omega)))]
      simp [h]
  exact Nat.eq_of_testBit_eq hb
theorem with_ne {C : CS} {pl : Nat → Nat} {m k o : Nat} : (nI ((if s_wP C pl m k o then 4 else 0) ||| (if s_wR C pl m k o then 8 else 0)) = 0) = ¬ s_way C pl m k o := by
  apply propext
  by_cases h1 : s_wP C pl m k o
  · rw [if_pos h1]
    refine ⟨fun h => ?_, fun h => absurd (Or.inl h1) h⟩
    exfalso
    by_cases h2 : s_wR C pl m k o
    · rw [if_pos h2] at h; revert h; decide
    · rw [if_neg h2] at h; revert h; decide
  · rw [if_neg h1]
    by_cases h2 : s_wR C pl m k o
    · rw [if_pos h2]
      exact ⟨fun h => absurd h (by decide), fun h => absurd (Or.inr h2) h⟩
    · rw [if_neg h2]
      exact ⟨fun _ g => g.elim h1 h2, fun _ => rfl⟩
theorem T_waits {C : CS} {Y H NS A BO GU MS : Nat → Nat → Int32} {r5 hm : Nat} (h : RL C Y H NS A) (hP : WFP C) (p1 : Int32) : TG C H NS (f_Y_waits Y H NS BO GU hm r5 p1) (f_M_waits A MS p1) cd1 (fun k => k = 1) := by
  have h' := h.thr 0
  obtain ⟨hW, hY, hH, hS, hM, hQ⟩ := h'
  have hA : (u2 A 0 0 0) 0 0 = 0 := thr_0 A 0
  unfold f_Y_waits f_M_waits
  generalize u2 A 0 0 0 = A at hM hQ hA ⊢
  have h' : RL C Y H NS A := ⟨hW, hY, hH, hS, hM, hQ⟩
  have z1 : ((1 : Int32) ≠ 0) = True := by simp
  have hN := hW.2.2.2.1
  rcases G_meet (Y := Y) hW hH hM hA p1 with ⟨m, hm', rfl, e1, e2⟩ | ⟨e1, e2⟩
  · rw [e1, e2 1]
    obtain ⟨B', GU', a1, a2, a3⟩ := Y_guide BO GU hW hP hH hS
    obtain ⟨MS', m1, m2⟩ := M_apart MS hW hP hM
    have hlt : s_apart C < 1024 := bs_lt10 _ hN
    obtain ⟨q1, q2⟩ := bitq (x := s_apart C) (j := m) (by omega) (by omega)
    have hb : ∀ x, x < C 0 3 → ((s_apart C).testBit x = true ↔ s_ap C x) := fun x hx => by
      unfold s_apart
      rw [bs_bit, decide_eq_true_eq]
      exact ⟨fun h => h.2, fun h => ⟨hx, h⟩⟩
    obtain ⟨g1, g2⟩ := goal_ok hW hP (C 0 7) (Nat.le_refl _)
    simp only [obs, if_true, z1, a1, m1]
    unfold f_Guide_waitedFor
    rw [a3.2.2]
    simp only [ne_eq, q1, hb m hm', Decidable.not_not]
    by_cases c1 : s_ap C m
    · rw [if_pos c1, if_pos c1, rdx_nI (by omega) (by omega), a3.2.1 m hm', obs]
      by_cases c0 : s_G C m = 0
      · -- no line takes a meeting away: a goal that is none is where it is
        exfalso
        have hg0 : ∀ i, s_goal C i m = 0 → C 15 m = 0 := by
          intro i
          induction i with
          | zero => exact id
          | succ i ih =>
            intro hi
            have hi : (if m = C 17 i then C 18 i + 1 else s_goal C i m) = 0 := hi
            split at hi
            · omega
            · exact ih hi
        exact c1 (by show s_G C m = C 15 m; rw [hg0 _ c0]; exact c0)
      · obtain ⟨k, hk⟩ : ∃ k, s_G C m = k + 1 := ⟨s_G C m - 1, by omega⟩
        have hk30 := g1 m
        have hk30 : s_G C m ≤ 30 := hk30
        have hg : oI (s_G C m) = nI k := by rw [hk, oI_s]
        rw [hg, Y_inWay hW hH a2 hW.plan hm' (by omega), obs, na_and]
        unfold s_apart
        rw [bs_and]
        refine TG.ans (B := B') (G := GU') (r := hm) (S := MS') (nI (bs (fun i => s_way C (C 15) m k i ∧ s_ap C i) (C 0 3))) h' hA rfl rfl ?_
        have n3 : A 0 26 = nI (C 0 3) := hM.n (j := 3) (by omega)
        have e := loop_S (body := fun q => f_M_waits_l36 A (nI (s_apart C)) MS' (nI m) q.1 q.2) (C 0 3) (fun i => (nI (bs (fun i => s_way C (C 15) m k i ∧ s_ap C i) i), nI i)) (b := nI (bs (fun i => s_way C (C 15) m k i ∧ s_ap C i) (C 0 3))) 0 (by omega) (by omega)
          (fun i _ hi => by
            obtain ⟨u1, u2⟩ := bitq (x := s_apart C) (j := i) (by omega) (by omega)
            show f_M_waits_l36 A (nI (s_apart C)) MS' (nI m) (nI _) (nI i) = _
            unfold f_M_waits_l36
            rw [n3, if_neg (nI_ge hi (by omega)), rdx_nI (by omega) (by omega), m2 m hm', rdx_nI (by omega) (by omega), hM.here hi, obs, obs, hg, M_with hW hM hW.plan hm' (by omega) hi, obs]
            simp only [ne_eq, u2, hb i hi, with_ne]
            by_cases d1 : s_ap C i
            · rw [if_neg (fun h => h d1)]
              by_cases d2 : s_way C (C 15) m k i
              · rw [if_neg (fun h => h d2), obs, se_r, obs, shl_1 _ (by omega), na_or, bs_hit (p := fun i => s_way C (C 15) m k i ∧ s_ap C i) ⟨d2, d1⟩, nI_succ]
              · rw [if_pos d2, obs, se_l, obs, bs_miss (p := fun i => s_way C (C 15) m k i ∧ s_ap C i) (fun h => d2 h.1), show (0 : Int32) = nI 0 from rfl, na_or, Nat.or_zero, nI_succ]
            · rw [if_pos d1, obs, se_l, obs, bs_miss (p := fun i => s_way C (C 15) m k i ∧ s_ap C i) (fun h => d1 h.2), show (0 : Int32) = nI 0 from rfl, na_or, Nat.or_zero, nI_succ])
          (by
            show f_M_waits_l36 A (nI (s_apart C)) MS' (nI m) _ (nI (C 0 3)) = _
            unfold f_M_waits_l36
            rw [n3, if_pos (nI_le (Nat.le_refl _) (by omega))])
        show (loopN (fun q => f_M_waits_l36 A (nI (s_apart C)) MS' (nI m) q.1 q.2) a_F (nI (bs (fun i => s_way C (C 15) m k i ∧ s_ap C i) 0), nI 0)).bind _ = _
        rw [e, obs]
    · rw [if_neg c1, if_neg c1]
      exact TG.ans (B := B') (G := GU') (r := hm) (S := MS') 0 h' hA rfl rfl rfl
  · refine TG.ref (B := BO) (G := GU) (S := MS) (r := r5) 0 (by omega) h' rfl ?_ ?_
    · rw [e1]; rfl
    · rw [e2 1 (by decide)]; rfl
