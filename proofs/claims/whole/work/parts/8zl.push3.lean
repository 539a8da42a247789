/-! PURE MATH: pushing: whether all yield, the first place that is yielded -/
theorem loop_two_e {σ τ β γ : Type} {f : σ → Option (σ ⊕ β)} {g : τ → Option (τ ⊕ γ)} (N : Nat) (R : Nat → σ → τ → Prop) (Q : β → γ → Prop) (hN : N < 1000000)
    (h1 : ∀ i s t, i < N → R i s t → (∃ s' t', f s = some (.inl s') ∧ g t = some (.inl t') ∧ R (i + 1) s' t') ∨ (∃ b c, f s = some (.inr b) ∧ g t = some (.inr c) ∧ Q b c)) (h2 : ∀ s t, R N s t → ∃ b c, f s = some (.inr b) ∧ g t = some (.inr c) ∧ Q b c) (s : σ) (t : τ) (h0 : R 0 s t) : ∃ b c, loopN f a_F s = some b ∧ loopN g a_F t = some c ∧ Q b c := by
  have key : ∀ k i n s t, i + k = N → R i s t → k < n → ∃ b c, loopN f n s = some b ∧ loopN g n t = some c ∧ Q b c := by
    intro k
    induction k with
    | zero =>
      intro i n s t hi hr hn
      obtain ⟨n, rfl⟩ : ∃ k, n = k + 1 := ⟨n - 1, by omega⟩
      have hi : i = N := by omega
      subst hi
      obtain ⟨b, c, b1, b2, b3⟩ := h2 s t hr
      exact ⟨b, c, loop_r b1, loop_r b2, b3⟩
    | succ k ih =>
      intro i n s t hi hr hn
      obtain ⟨n, rfl⟩ : ∃ k, n = k + 1 := ⟨n - 1, by omega⟩
      rcases h1 i s t (by omega) hr with ⟨s', t', b1, b2, b3⟩ | ⟨b, c, b1, b2, b3⟩
      · rw [loop_l b1, loop_l b2]
        exact ih (i + 1) n s' t' (by omega) b3 (by omega)
      · exact ⟨b, c, loop_r b1, loop_r b2, b3⟩
  exact key N 0 a_F s t (by omega) h0 (by unfold a_F; omega)
/-- but for the stack and the facts -/
def MXr (M M' : Nat → Nat → Int32) : Prop := ∀ a b, a ≠ 2 → a ≠ 3 → M' a b = M a b
theorem MXr.refl (M : Nat → Nat → Int32) : MXr M M := fun _ _ _ _ => rfl
theorem MXr.trans {M M' M'' : Nat → Nat → Int32} (h : MXr M M') (h' : MXr M' M'') : MXr M M'' := fun a b h2 h3 => (h' a b h2 h3).trans (h a b h2 h3)
theorem setWanted {C : CS} {U : Nat → Nat → Int32} (hU : RU C U) {k : Nat} (hk : k < 30) (st : Int32) : ∃ U', f_Rule_setWanted U (nI k) st = some U' ∧ RU C U' ∧ U' 3 8 = nI (k / 3) ∧ U' 3 9 = nI (k % 3) ∧ U' 3 10 = st := by
  refine ⟨u2 (u2 (u2 U 3 8 (nI (k / 3))) 3 9 (nI (k % 3))) 3 10 st, ?_, ((hU.upd (by decide) (by decide)).upd (by decide) (by decide)).upd (by decide) (by decide), rfl, rfl, rfl⟩
  unfold f_Rule_setWanted f_Y_hourOf f_Y_roomOf
  rw [obs, (nI_hr k hk).1, show ixx 11 (8 : Int32) = some 8 from by decide, obs, obs, (nI_hr k hk).2, show ixx 11 (9 : Int32) = some 9 from by decide, obs, show ixx 11 (10 : Int32) = some 10 from by decide, obs]
theorem allYield_both {C : CS} {H A U B M : Nat → Nat → Int32} (hW : WFC C) (hF : WFU C) (hH : RH C H) (hM : RMo C A) (hU : RU C U) (hB : ∀ m, m < C 0 3 → B 2 m = nI (C 16 m)) {m k way : Nat} {st : Int32} (hm : m < C 0 3) (hk : k < 30) (hw : way < 2 ^ 31) (h58 : M 0 58 = st) :
    ∃ x U' M', f_Pusher_allYield H U B (nI m) (nI k) (nI way) st = some (x, U') ∧ f_M_allYield A M (nI way) (nI m) (nI k) = some (x, M') ∧ (x = 0 ∨ x = 1) ∧ RU C U' ∧ MXr M M' := by
  have hN := hW.2.2.2.1
  have h03 : H 0 3 = nI (C 0 3) := hH 0 3 (show 3 < 6 by omega)
  have n3 : A 0 26 = nI (C 0 3) := hM.n (j := 3) (by omega)
  obtain ⟨U1, v1, v2, v3, v4, v5⟩ := setWanted hU hk st
  unfold f_Pusher_allYield f_M_allYield
  rw [v1, obs]
  obtain ⟨b, c, b1, b2, x, U', M', d1, d2, d3, d4, d5⟩ := loop_two_e (f := fun q : Int32 × (Nat → Nat → Int32) => f_Pusher_allYield_l10 H B (nI way) (nI m) q.1 q.2) (g := fun q : Int32 × (Nat → Nat → Int32) => f_M_allYield_l3 A (nI way) (nI m) (nI k) q.1 q.2) (C 0 3)
    (fun i s t => s.1 = nI i ∧ t.1 = nI i ∧ RU C s.2 ∧ s.2 3 8 = nI (k / 3) ∧ s.2 3 9 = nI (k % 3) ∧ s.2 3 10 = st ∧ MXr M t.2)
    (fun b c => ∃ x U' M', sumE b (fun RU_7 => some (zb 1, RU_7)) (fun q => some q) = some (x, U') ∧ sumE c (fun MS_6 => some (zb 1, MS_6)) (fun q => some q) = some (x, M') ∧ (x = 0 ∨ x = 1) ∧ RU C U' ∧ MXr M M') (by omega)
    (fun i s t hi hR => by
      obtain ⟨v, D⟩ := s
      obtain ⟨v', E⟩ := t
      obtain ⟨r1, r2, r3, r4, r5, r6, r7⟩ := hR
      have r1 : v = nI i := r1
      have r2 : v' = nI i := r2
      have t3 : RU C D := r3
      have t4 : D 3 8 = nI (k / 3) := r4
      have t5 : D 3 9 = nI (k % 3) := r5
      have t6 : D 3 10 = st := r6
      have t7 : MXr M E := r7
      clear r3 r4 r5 r6 r7
      subst r1; subst r2
      obtain ⟨q1, q2⟩ := bitq (x := way) (j := i) hw (by omega)
      show (∃ s' t', f_Pusher_allYield_l10 H B (nI way) (nI m) (nI i) D = _ ∧ f_M_allYield_l3 A (nI way) (nI m) (nI k) (nI i) E = _ ∧ _) ∨ (∃ b c, f_Pusher_allYield_l10 H B (nI way) (nI m) (nI i) D = _ ∧ f_M_allYield_l3 A (nI way) (nI m) (nI k) (nI i) E = _ ∧ _)
      unfold f_Pusher_allYield_l10 f_M_allYield_l3
      rw [h03, n3, if_neg (nI_ge hi (by omega)), if_neg (nI_ge hi (by omega))]
      simp only [q1, q2, ne_eq]
      by_cases c1 : way.testBit i = true
      · rw [if_neg (fun h => h c1), if_neg (fun h => h c1)]
        obtain ⟨x, U', M', y1, y2, y3, y4, y5, y6, y7, y8⟩ := isSo_both (H := H) (A := A) (U := D) (B := B) (M := E) (pl := C 15) (st := st) hW hF hH hM t3 hB hi hm hk t4 t5 t6
        rw [y1, t7 0 58 (by decide) (by decide), h58, y2, obs, obs]
        rcases y3 with rfl | rfl
        · refine Or.inr ⟨_, _, if_neg (fun h => h rfl), if_neg (fun h => h rfl), 0, U', M', ?_, ?_, Or.inl rfl, y4, t7.trans y8⟩
          · rw [se_r, zb_0]
          · rw [se_r, zb_0]
        · refine Or.inl ⟨_, _, if_pos (show ¬ (1 : Int32) = 0 by decide), if_pos (show ¬ (1 : Int32) = 0 by decide), (nI_succ i).symm, (nI_succ i).symm, y4, y5, y6, y7, t7.trans y8⟩
      · rw [if_pos c1, if_pos c1]
        exact Or.inl ⟨_, _, rfl, rfl, (nI_succ i).symm, (nI_succ i).symm, t3, t4, t5, t6, t7⟩)
    (fun s t hR => by
      obtain ⟨v, D⟩ := s
      obtain ⟨v', E⟩ := t
      obtain ⟨r1, r2, r3, r4, r5, r6, r7⟩ := hR
      have r1 : v = nI (C 0 3) := r1
      have r2 : v' = nI (C 0 3) := r2
      subst r1; subst r2
      show ∃ b c, f_Pusher_allYield_l10 H B (nI way) (nI m) (nI (C 0 3)) D = _ ∧ f_M_allYield_l3 A (nI way) (nI m) (nI k) (nI (C 0 3)) E = _ ∧ _
      unfold f_Pusher_allYield_l10 f_M_allYield_l3
      rw [h03, n3, if_pos (nI_le (Nat.le_refl _) (by omega)), if_pos (nI_le (Nat.le_refl _) (by omega))]
      refine ⟨_, _, rfl, rfl, 1, D, E, ?_, ?_, Or.inr rfl, r3, r7⟩
      · rw [se_l, zb_1]
      · rw [se_l, zb_1])
    (0, U1) (0, M) ⟨rfl, rfl, v2, v3, v4, v5, MXr.refl M⟩
  rw [b1, b2, obs, obs]
  exact ⟨x, U', M', d1, d2, d3, d4, d5⟩
/-- the first place that all in the way yield, side by side -/
theorem yielded_both {C : CS} {H A U B M : Nat → Nat → Int32} {pl : Nat → Nat} (hW : WFC C) (hF : WFU C) (hH : RH C H) (hM : RMo C A) (hU : RU C U) (hB : RB C pl (C 16) B) (hpl : ∀ m, pl m ≤ 30) (h4 : ∀ x, x < C 0 3 → M 4 x = oI (pl x)) {m : Nat} {st : Int32} (hm : m < C 0 3) (h58 : M 0 58 = st)
    (hT : ∀ M' k, MXr M M' → k < 30 → k % 3 < C 0 1 → ∃ M'', f_M_takes A M' (nI m) (nI k) = some M'') :
    (∃ U' M', f_Pusher_firstYielded H U B (nI m) st = some (-1, U') ∧ loopN (fun q => f_M_looks_l48 A (nI m) q.1 q.2) a_F (0, M) = some (.inl M') ∧ RU C U' ∧ MXr M M') ∨
    (∃ k U' M' M'', k < 30 ∧ k % 3 < C 0 1 ∧ k / 3 < C 0 0 ∧ f_Pusher_firstYielded H U B (nI m) st = some (nI k, U') ∧ loopN (fun q => f_M_looks_l48 A (nI m) q.1 q.2) a_F (0, M) = some (.inr M'') ∧ f_M_takes A M' (nI m) (nI k) = some M'' ∧ RU C U' ∧ MXr M M') := by
  have hN := hW.2.2.2.1
  have hR := hW.2.1
  have hH10 := hW.1.2
  have h00 : H 0 0 = nI (C 0 0) := hH 0 0 (show 0 < 6 by omega)
  have h01 : H 0 1 = nI (C 0 1) := hH 0 1 (show 1 < 6 by omega)
  have notThere : ∀ (k : Nat) (M' : Nat → Nat → Int32), k < 30 → ¬ (k % 3 < C 0 1 ∧ k / 3 < C 0 0) → f_M_looks_l48 A (nI m) (nI k) M' = some (.inl (nI (k + 1), M')) := fun k M' hk hc => by
    unfold f_M_looks_l48
    rw [if_neg (show ¬ (30 : Int32) ≤ nI k from nI_ge (b := 30) hk (by omega)), M_isThere hW hM hk, obs, if_neg hc, if_pos rfl, nI_succ]
  have skip : ∀ h, h < C 0 0 → ∀ t r, r + t = 3 → C 0 1 ≤ r → ∀ n' (M' : Nat → Nat → Int32), loopN (fun q => f_M_looks_l48 A (nI m) q.1 q.2) (n' + t) (nI (3 * h + r), M') = loopN (fun q => f_M_looks_l48 A (nI m) q.1 q.2) n' (nI (3 * h + 3), M') := by
    intro h hh t
    induction t with
    | zero => intro r hr _ n' M'; rw [show r = 3 from by omega]; rfl
    | succ t ih =>
      intro r hr hc n' M'
      rw [show n' + (t + 1) = (n' + t) + 1 from by omega, loop_l (notThere (3 * h + r) M' (by omega) (fun g => by have := g.1; omega))]
      exact ih (r + 1) (by omega) (by omega) n' M'
  have skip2 : ∀ t k, k + t = 30 → 3 * C 0 0 ≤ k → ∀ n2 (M' : Nat → Nat → Int32), t < n2 → loopN (fun q => f_M_looks_l48 A (nI m) q.1 q.2) n2 (nI k, M') = some (.inl M') := by
    intro t
    induction t with
    | zero =>
      intro k hk _ n2 M' hn
      obtain ⟨n2, rfl⟩ : ∃ x, n2 = x + 1 := ⟨n2 - 1, by omega⟩
      refine loop_r ?_
      show f_M_looks_l48 A (nI m) (nI k) M' = _
      unfold f_M_looks_l48
      rw [if_pos (show (30 : Int32) ≤ nI k from nI_le (a := 30) (by omega) (by omega))]
    | succ t ih =>
      intro k hk hc n2 M' hn
      obtain ⟨n2, rfl⟩ : ∃ x, n2 = x + 1 := ⟨n2 - 1, by omega⟩
      rw [loop_l (notThere k M' (by omega) (fun g => by have := g.2; omega))]
      exact ih (k + 1) (by omega) (by omega) n2 M' (by omega)
  have inner : ∀ h, h < C 0 0 → ∀ t r n n' (U' M' : Nat → Nat → Int32), r + t = 3 → RU C U' → MXr M M' → t < n →
      (∃ U'' M'', loopN (fun q => f_Pusher_firstYielded_l21 H B (nI h) (nI m) st q.1 q.2) n (nI r, U') = some (.inl U'') ∧ loopN (fun q => f_M_looks_l48 A (nI m) q.1 q.2) (n' + t) (nI (3 * h + r), M') = loopN (fun q => f_M_looks_l48 A (nI m) q.1 q.2) n' (nI (3 * h + 3), M'') ∧ RU C U'' ∧ MXr M M'') ∨
      (∃ k U'' M'' M3, k < 30 ∧ k % 3 < C 0 1 ∧ k / 3 < C 0 0 ∧ loopN (fun q => f_Pusher_firstYielded_l21 H B (nI h) (nI m) st q.1 q.2) n (nI r, U') = some (.inr (.inr (.inr (nI k, U'')))) ∧ loopN (fun q => f_M_looks_l48 A (nI m) q.1 q.2) (n' + t) (nI (3 * h + r), M') = some (.inr M3) ∧ f_M_takes A M'' (nI m) (nI k) = some M3 ∧ RU C U'' ∧ MXr M M'') := by
    intro h hh t
    induction t with
    | zero =>
      intro r n n' U' M' hr hU' hM' hn
      obtain ⟨n, rfl⟩ : ∃ x, n = x + 1 := ⟨n - 1, by omega⟩
      refine Or.inl ⟨U', M', loop_r ?_, by rw [show r = 3 from by omega]; rfl, hU', hM'⟩
      show f_Pusher_firstYielded_l21 H B (nI h) (nI m) st (nI r) U' = _
      unfold f_Pusher_firstYielded_l21
      rw [h01, if_pos (nI_le (by omega) (by omega))]
    | succ t ih =>
      intro r n n' U' M' hr hU' hM' hn
      obtain ⟨n, rfl⟩ : ∃ x, n = x + 1 := ⟨n - 1, by omega⟩
      by_cases hrR : r < C 0 1
      · have hk : 3 * h + r < 30 := by omega
        have hkr : (3 * h + r) % 3 < C 0 1 := by omega
        have hway := bs_lt10 (s_way C pl m (3 * h + r)) hN
        have m4 : ∀ x, x < C 0 3 → M' 4 x = oI (pl x) := fun x hx => by rw [hM' 4 x (by decide) (by decide), h4 x hx]
        obtain ⟨ow, o1, o2⟩ := M_own0 hW hM hm hk hkr
        have ey : f_Pusher_firstYielded_l21 H B (nI h) (nI m) st (nI r) U' = if s_ent C pl m (3 * h + r) then ((f_Pusher_allYield H U' B (nI m) (nI (3 * h + r)) (nI (bs (s_way C pl m (3 * h + r)) (C 0 3))) st).bind fun c6 => if c6.1 = 0 then some (.inl (nI (r + 1), c6.2)) else some (.inr (.inr (.inr (.inr (nI (3 * h + r), c6.2)))))) else some (.inl (nI (r + 1), U')) := by
          unfold f_Pusher_firstYielded_l21 f_Y_placeOf
          rw [h01, if_neg (nI_ge hrR (by omega)), obs, (pl_of h r).1, Y_inWay hW hH hB hpl hm hk, obs, Y_mayEnter hW hH hB hm hk hkr, obs]
          by_cases hc : s_ent C pl m (3 * h + r)
          · have w : (if s_ent C pl m (3 * h + r) then (1 : Int32) else 0) = 1 := if_pos hc
            rw [w, if_neg (by decide), if_pos hc, nI_succ]
          · have w : (if s_ent C pl m (3 * h + r) then (1 : Int32) else 0) = 0 := if_neg hc
            rw [w, if_pos rfl, if_neg hc, nI_succ]
        have em : f_M_looks_l48 A (nI m) (nI (3 * h + r)) M' = if s_ent C pl m (3 * h + r) then ((f_M_allYield A M' (nI (bs (s_way C pl m (3 * h + r)) (C 0 3))) (nI m) (nI (3 * h + r))).bind fun c10 => if c10.1 ≠ 0 then (f_M_takes A c10.2 (nI m) (nI (3 * h + r))).bind fun MS_17 => some (.inr (.inr MS_17)) else some (.inl (nI (3 * h + r + 1), c10.2))) else some (.inl (nI (3 * h + r + 1), M')) := by
          unfold f_M_looks_l48
          rw [if_neg (show ¬ (30 : Int32) ≤ nI (3 * h + r) from nI_ge (b := 30) hk (by omega)), M_isThere hW hM hk, obs, if_pos (show (3 * h + r) % 3 < C 0 1 ∧ (3 * h + r) / 3 < C 0 0 from ⟨hkr, by omega⟩), if_neg (show ¬ (1 : Int32) = 0 by decide), o1, obs, M_inWay hW hM m4 hpl hm hk, obs, M_areFree hW hM, obs]
          by_cases hc1 : ow = 0
          · rw [if_pos hc1]
            by_cases hc2 : bs (fun o => s_way C pl m (3 * h + r) o ∧ C 10 o = 1) (C 0 3) = 0
            · rw [if_pos hc2, if_neg (show ¬ (1 : Int32) = 0 by decide), if_pos (show s_ent C pl m (3 * h + r) from ⟨o2.mp hc1, hc2⟩), nI_succ]
            · rw [if_neg hc2, if_pos rfl, if_neg (show ¬ s_ent C pl m (3 * h + r) from fun g => hc2 g.2), nI_succ]
          · rw [if_neg hc1, if_neg (show ¬ s_ent C pl m (3 * h + r) from fun g => hc1 (o2.mpr g.1)), nI_succ]
        have next : ∀ U2 M2 : Nat → Nat → Int32, RU C U2 → MXr M M2 → f_Pusher_firstYielded_l21 H B (nI h) (nI m) st (nI r) U' = some (.inl (nI (r + 1), U2)) → f_M_looks_l48 A (nI m) (nI (3 * h + r)) M' = some (.inl (nI (3 * h + r + 1), M2)) → _ := fun U2 M2 g1 g2 g3 g4 => by
          have := ih (r + 1) n n' U2 M2 (by omega) g1 g2 (by omega)
          rw [← loop_l (body := fun q => f_Pusher_firstYielded_l21 H B (nI h) (nI m) st q.1 q.2) (a := (nI r, U')) g3, show 3 * h + (r + 1) = 3 * h + r + 1 from rfl, ← loop_l (body := fun q => f_M_looks_l48 A (nI m) q.1 q.2) (a := (nI (3 * h + r), M')) g4] at this
          exact this
        by_cases hc : s_ent C pl m (3 * h + r)
        · rw [if_pos hc] at ey em
          obtain ⟨x, U2, M2, y1, y2, y3, y4, y5⟩ := allYield_both (H := H) (A := A) (U := U') (B := B) (M := M') (way := bs (s_way C pl m (3 * h + r)) (C 0 3)) (st := st) hW hF hH hM hU' hB.2.1 hm hk (by omega) (by rw [hM' 0 58 (by decide) (by decide), h58])
          rw [y1, obs] at ey
          rw [y2, obs] at em
          rcases y3 with rfl | rfl
          · rw [if_pos rfl] at ey
            rw [if_neg (fun g => g rfl)] at em
            exact next U2 M2 y4 (hM'.trans y5) ey em
          · rw [if_neg (show ¬ (1 : Int32) = 0 by decide)] at ey
            obtain ⟨M3, z⟩ := hT M2 (3 * h + r) (hM'.trans y5) hk hkr
            rw [if_pos (show (1 : Int32) ≠ 0 by decide), z, obs] at em
            exact Or.inr ⟨3 * h + r, U2, M2, M3, hk, hkr, by omega, loop_r ey, loop_r em, z, y4, hM'.trans y5⟩
        · rw [if_neg hc] at ey em
          exact next U' M' hU' hM' ey em
      · refine Or.inl ⟨U', M', loop_r ?_, skip h hh (t + 1) r hr (by omega) n' M', hU', hM'⟩
        show f_Pusher_firstYielded_l21 H B (nI h) (nI m) st (nI r) U' = _
        unfold f_Pusher_firstYielded_l21
        rw [h01, if_pos (nI_le (by omega) (by omega))]
  have outer : ∀ t h n n' (U' M' : Nat → Nat → Int32), h + t = C 0 0 → RU C U' → MXr M M' → t < n →
      (∃ U'' M'', loopN (fun q => f_Pusher_firstYielded_l3 H B (nI m) st q.1 q.2) n (nI h, U') = some (.inl U'') ∧ loopN (fun q => f_M_looks_l48 A (nI m) q.1 q.2) (n' + 31 + 3 * t) (nI (3 * h), M') = some (.inl M'') ∧ RU C U'' ∧ MXr M M'') ∨
      (∃ k U'' M'' M3, k < 30 ∧ k % 3 < C 0 1 ∧ k / 3 < C 0 0 ∧ loopN (fun q => f_Pusher_firstYielded_l3 H B (nI m) st q.1 q.2) n (nI h, U') = some (.inr (nI k, U'')) ∧ loopN (fun q => f_M_looks_l48 A (nI m) q.1 q.2) (n' + 31 + 3 * t) (nI (3 * h), M') = some (.inr M3) ∧ f_M_takes A M'' (nI m) (nI k) = some M3 ∧ RU C U'' ∧ MXr M M'') := by
    intro t
    induction t with
    | zero =>
      intro h n n' U' M' hh hU' hM' hn
      obtain ⟨n, rfl⟩ : ∃ x, n = x + 1 := ⟨n - 1, by omega⟩
      refine Or.inl ⟨U', M', loop_r ?_, skip2 (30 - 3 * h) (3 * h) (by omega) (by omega) _ M' (by omega), hU', hM'⟩
      show f_Pusher_firstYielded_l3 H B (nI m) st (nI h) U' = _
      unfold f_Pusher_firstYielded_l3
      rw [h00, if_pos (nI_le (by omega) (by omega))]
    | succ t ih =>
      intro h n n' U' M' hh hU' hM' hn
      obtain ⟨n, rfl⟩ : ∃ x, n = x + 1 := ⟨n - 1, by omega⟩
      have hlt : h < C 0 0 := by omega
      rw [show n' + 31 + 3 * (t + 1) = (n' + 31 + 3 * t) + 3 from by omega]
      rcases inner h hlt 3 0 a_F (n' + 31 + 3 * t) U' M' (by omega) hU' hM' (by unfold a_F; omega) with ⟨U2, M2, i1, i2, i3, i4⟩ | ⟨k, U2, M2, M3, k1, k2, k3, i1, i2, i3, i4, i5⟩
      · have e : f_Pusher_firstYielded_l3 H B (nI m) st (nI h) U' = some (.inl (nI (h + 1), U2)) := by
          unfold f_Pusher_firstYielded_l3
          rw [h00, if_neg (nI_ge hlt (by omega))]
          have i1 : loopN (fun q => f_Pusher_firstYielded_l21 H B (nI h) (nI m) st q.1 q.2) a_F (0, U') = some (.inl U2) := i1
          rw [i1, obs, se_l, nI_succ]
        have i2 : loopN (fun q => f_M_looks_l48 A (nI m) q.1 q.2) (n' + 31 + 3 * t + 3) (nI (3 * h), M') = _ := i2
        rw [loop_l e, i2, show 3 * h + 3 = 3 * (h + 1) from by omega]
        exact ih (h + 1) n n' U2 M2 (by omega) i3 i4 (by omega)
      · have e : f_Pusher_firstYielded_l3 H B (nI m) st (nI h) U' = some (.inr (.inr (nI k, U2))) := by
          unfold f_Pusher_firstYielded_l3
          rw [h00, if_neg (nI_ge hlt (by omega))]
          have i1 : loopN (fun q => f_Pusher_firstYielded_l21 H B (nI h) (nI m) st q.1 q.2) a_F (0, U') = some (.inr (.inr (.inr (nI k, U2)))) := i1
          rw [i1, obs, se_r]
        exact Or.inr ⟨k, U2, M2, M3, k1, k2, k3, loop_r e, i2, i3, i4, i5⟩
  obtain ⟨n', hn'⟩ : ∃ n', a_F = n' + 31 + 3 * C 0 0 := ⟨a_F - 31 - 3 * C 0 0, by unfold a_F; omega⟩
  unfold f_Pusher_firstYielded
  rcases outer (C 0 0) 0 a_F n' U M (by omega) hU (MXr.refl M) (by unfold a_F; omega) with ⟨U2, M2, i1, i2, i3, i4⟩ | ⟨k, U2, M2, M3, k1, k2, k3, i1, i2, i3, i4, i5⟩
  · rw [← hn'] at i2
    have i1 : loopN (fun q => f_Pusher_firstYielded_l3 H B (nI m) st q.1 q.2) a_F (0, U) = _ := i1
    refine Or.inl ⟨U2, M2, ?_, i2, i3, i4⟩
    rw [i1, obs, se_l]
  · rw [← hn'] at i2
    have i1 : loopN (fun q => f_Pusher_firstYielded_l3 H B (nI m) st q.1 q.2) a_F (0, U) = _ := i1
    refine Or.inr ⟨k, U2, M2, M3, k1, k2, k3, ?_, i2, i3, i4, i5⟩
    rw [i1, obs, se_r]
