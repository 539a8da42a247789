/-! PURE MATH: order, the class; both -/
theorem s_first_is {p : Nat → Prop} [DecidablePred p] (t : Nat) : ∀ i m, s_first p t i = some m → i ≤ m ∧ m < i + t ∧ p m ∧ ∀ k, i ≤ k → k < m → ¬ p k := by
  induction t with
  | zero => intro i m h; cases h
  | succ t ih =>
    intro i m h
    unfold s_first at h
    by_cases hp : p i
    · rw [if_pos hp] at h
      cases h
      exact ⟨by omega, by omega, hp, fun k h1 h2 => by omega⟩
    · rw [if_neg hp] at h
      obtain ⟨h1, h2, h3, h4⟩ := ih (i + 1) m h
      refine ⟨by omega, by omega, h3, fun k k1 k2 => ?_⟩
      by_cases hk : k = i
      · subst hk; exact hp
      · exact h4 k (by omega) k2
theorem s_first_no {p : Nat → Prop} [DecidablePred p] (t i : Nat) (h : s_first p t i = none) : ∀ k, i ≤ k → k < i + t → ¬ p k := fun k h1 h2 h3 => by
  have := (s_first_some (p := p) t i).mpr ⟨k, h1, h2, h3⟩
  rw [h] at this
  cases this
abbrev s_go (C : CS) (g m : Nat) : Prop := s_can C g m ∧ s_on C 10 (g ||| 2 ^ m) = true
abbrev s_nx (C : CS) (g : Nat) : Option Nat := s_first (s_go C g) (C 0 3) 0
abbrev s_ld (C : CS) (g : Nat) : Prop := s_lw C g ∧ s_on C 10 g = true
/-- none of those apart is fixed -/
def s_nofix (C : CS) : Prop := ∀ m, m < C 0 3 → s_ap C m → C 10 m = 0
def oN (o : Option Nat) : Nat := match o with
  | none => 0
  | some m => m + 1
theorem Y_nextOf {C : CS} {H GU : Nat → Nat → Int32} (hW : WFC C) (hH : RH C H) (hG : RG C GU) (hF : s_nofix C) {g : Nat} (hs : s_sub C g) (hl : ∀ m, m < C 0 3 → s_ap C m → ¬ g.testBit m = true → GU 3 (g ||| 2 ^ m) = if s_ld C (g ||| 2 ^ m) then 1 else 0) :
    f_Guide_nextOf H GU (nI g) = some (oI (oN (s_nx C g))) := by
  have hN := hW.2.2.2.1
  have h03 : H 0 3 = nI (C 0 3) := hH 0 3 (show 3 < 6 by omega)
  have hcond : ∀ m, m < C 0 3 → (((GU 0 4 &&& (nI g ^^^ (-1))) &&& a_shl 1 (nI m)) = 0) = ¬ (s_ap C m ∧ ¬ g.testBit m = true) := fun m hm => by
    rw [Y_rest hN hG, shl_1 _ (by omega), na_and, and_bit0 (by omega), rest_bit hm]
  have body : ∀ m, m < C 0 3 → f_Guide_nextOf_l2 H GU (nI g) (nI m) = if s_go C g m then some (.inr (.inr (nI m))) else some (.inl (nI m + 1)) := fun m hm => by
    unfold f_Guide_nextOf_l2
    rw [h03, if_neg (nI_ge hm (by omega))]
    simp only [hcond m hm]
    by_cases c1 : s_ap C m ∧ ¬ g.testBit m = true
    · rw [if_neg (fun h => h c1), shl_1 _ (by omega), na_or, rdx_nI (sub_1024 hN (sub_or hs hm c1.1)) (by omega), hl m hm c1.1 c1.2, obs]
      by_cases c2 : s_ld C (g ||| 2 ^ m)
      · rw [if_pos c2, if_neg (by decide), if_pos (show s_go C g m from ⟨⟨c1.1, c1.2, hF m hm c1.1, c2.1⟩, c2.2⟩)]
      · rw [if_neg c2, if_pos rfl, if_neg (fun h : s_go C g m => c2 ⟨h.1.2.2.2, h.2⟩)]
    · rw [if_pos c1, if_neg (fun h : s_go C g m => c1 ⟨h.1.1, h.1.2.1⟩)]
  have e := loop_first (body := fun q => f_Guide_nextOf_l2 H GU (nI g) q) (C 0 3) (s_go C g) (fun m => nI m) (by omega)
    (fun i hi hp => by show f_Guide_nextOf_l2 H GU (nI g) (nI i) = _; rw [body i hi, if_pos hp])
    (fun i hi hp => by show f_Guide_nextOf_l2 H GU (nI g) (nI i) = _; rw [body i hi, if_neg hp])
    (by
      show f_Guide_nextOf_l2 H GU (nI g) (nI (C 0 3)) = _
      unfold f_Guide_nextOf_l2
      rw [h03, if_pos (nI_le (Nat.le_refl _) (by omega))])
  unfold f_Guide_nextOf
  rw [e, obs]
  rw [show s_nx C g = s_first (s_go C g) (C 0 3) 0 from rfl]
  cases s_first (s_go C g) (C 0 3) 0 with
  | none => rfl
  | some m =>
    show some (nI m) = some (oI (m + 1))
    rw [oI_s]
/-- the class's table of the sets that lead on -/
theorem Y_leads {C : CS} {H BO GU : Nat → Nat → Int32} {tm : Nat → Nat} (hW : WFC C) (hP : WFP C) (hH : RH C H) (hB : RB C (C 15) tm BO) (hG : RG C GU) (hF : s_nofix C) :
    ∃ b, loopN (fun q => f_Guide_firstOrder_l27 H q.1 q.2.1 q.2.2) a_F (GU 0 4, BO, GU) = some b ∧ RB C (C 15) tm b.1 ∧ RG C b.2 ∧ ∀ k, s_sub C k → 0 < k → b.2 3 k = if s_ld C k then 1 else 0 := by
  have hN := hW.2.2.2.1
  refine loop_inv (body := fun q : Int32 × (Nat → Nat → Int32) × (Nat → Nat → Int32) => f_Guide_firstOrder_l27 H q.1 q.2.1 q.2.2)
    (fun s => ∃ g, s.1 = nI g ∧ s_sub C g ∧ RB C (C 15) tm s.2.1 ∧ RG C s.2.2 ∧ ∀ k, s_sub C k → g < k → s.2.2 3 k = if s_ld C k then 1 else 0) (fun s => s.1.toNatClampNeg)
    (fun b => RB C (C 15) tm b.1 ∧ RG C b.2 ∧ ∀ k, s_sub C k → 0 < k → b.2 3 k = if s_ld C k then 1 else 0) ?_ a_F (GU 0 4, BO, GU) ⟨s_apart C, hG.2.2, sub_all C, hB, hG, fun k hk hlt => ?_⟩ ?_
  · rintro ⟨v, B, G⟩ ⟨g, r1, hs, hB1, hG1, hl⟩
    have r1 : v = nI g := r1
    have tB : RB C (C 15) tm B := hB1
    have tG : RG C G := hG1
    have tl : ∀ k, s_sub C k → g < k → G 3 k = if s_ld C k then 1 else 0 := hl
    clear hB1 hG1 hl
    subst r1
    have hg := sub_1024 hN hs
    show (∃ a', f_Guide_firstOrder_l27 H (nI g) B G = _ ∧ _) ∨ (∃ b, f_Guide_firstOrder_l27 H (nI g) B G = _ ∧ _)
    unfold f_Guide_firstOrder_l27
    by_cases h0 : g = 0
    · subst h0
      refine Or.inr ⟨(B, G), by rw [if_pos (by decide)], tB, tG, fun k hk hlt => tl k hk hlt⟩
    · refine Or.inl ?_
      rw [if_neg (show ¬ nI g ≤ 0 from fun h => h0 (by have := (na_le (b := 0) (by omega) (by omega)).mp h; omega)), tG.2.2]
      simp only [nI_eqP (show g < 2 ^ 31 by omega) (show s_apart C < 2 ^ 31 by have := sub_1024 hN (sub_all C); omega)]
      have hnx := Y_nextOf hW hH tG hF hs (fun m hm ha hg' => tl _ (sub_or hs hm ha) (or_gt hg'))
      obtain ⟨B2, b1, b2⟩ := Y_lawfulAfter (g := g) hW hP hH tB tG (by omega)
      rw [hnx, b1]
      simp only [obs]
      have hon : (s_on C 10 g = true) ↔ (g = s_apart C ∨ s_nx C g ≠ none) := by
        rw [on_step hN hs]
        refine or_congr Iff.rfl ?_
        have := s_first_some (p := s_go C g) (C 0 3) 0
        constructor
        · rintro ⟨m, hm, hc, ho⟩ hn
          have h2 := this.mpr ⟨m, by omega, by omega, hc, ho⟩
          rw [show s_first (s_go C g) (C 0 3) 0 = none from hn] at h2
          cases h2
        · intro hn
          have h2 : (s_first (s_go C g) (C 0 3) 0).isSome = true := by
            cases hx : s_first (s_go C g) (C 0 3) 0 with
            | none => exact absurd hx hn
            | some _ => rfl
          obtain ⟨m, _, hm, hc, ho⟩ := this.mp h2
          exact ⟨m, by omega, hc, ho⟩
      have hnle : oN (s_nx C g) ≤ 30 := by
        cases hx : s_nx C g with
        | none => exact Nat.zero_le _
        | some m =>
          have := (s_first_is (p := s_go C g) (C 0 3) 0 m hx).2.1
          show m + 1 ≤ 30
          omega
      have hn0 : (oI (oN (s_nx C g)) = -1) = (s_nx C g = none) := by
        rw [oI_z hnle]
        apply propext
        cases hx : s_nx C g with
        | none => exact ⟨fun _ => rfl, fun _ => rfl⟩
        | some m => exact ⟨fun h => (by cases h), fun h => (by cases h)⟩
      simp only [hn0]
      -- what is written at g
      have key : ∃ t B3, RB C (C 15) tm B3 ∧ t = (if s_ld C g then (1 : Int32) else 0) ∧ ((((if g = s_apart C then (some (.inl ()) : Option (Unit ⊕ ((Nat → Nat → Int32) ⊕ (Int32 × (Nat → Nat → Int32))))) else (if s_nx C g = none then some (.inr (.inl B)) else some (.inl ())))).bind fun b7 => sumE b7 (fun _ => if s_law C (s_mix C g) = 0 then some (.inl B2) else some (.inr (1, B2))) (fun q => some q)).bind fun b8 => sumE b8 (fun BO_7 => some ((0 : Int32), BO_7)) (fun q => some q)) = some (t, B3) := by
        by_cases c1 : g = s_apart C ∨ s_nx C g ≠ none
        · have e1 : ((if g = s_apart C then (some (.inl ()) : Option (Unit ⊕ ((Nat → Nat → Int32) ⊕ (Int32 × (Nat → Nat → Int32))))) else (if s_nx C g = none then some (.inr (.inl B)) else some (.inl ())))) = some (.inl ()) := by
            rcases c1 with c1 | c1
            · rw [if_pos c1]
            · split <;> first | rfl | (rw [if_neg c1])
          rw [e1, obs, se_l]
          simp only [law_1]
          by_cases c2 : s_lw C g
          · refine ⟨1, B2, b2, by rw [if_pos (show s_ld C g from ⟨c2, hon.mpr c1⟩)], ?_⟩
            rw [if_neg (fun h => h c2), obs, se_r]
          · refine ⟨0, B2, b2, by rw [if_neg (show ¬ s_ld C g from fun h => c2 h.1)], ?_⟩
            rw [if_pos c2, obs, se_l]
        · have c1a : ¬ g = s_apart C := fun h => c1 (Or.inl h)
          have c1b : s_nx C g = none := Classical.byContradiction fun h => c1 (Or.inr h)
          refine ⟨0, B, tB, by rw [if_neg (show ¬ s_ld C g from fun h => c1 (hon.mp h.2))], ?_⟩
          rw [if_neg c1a, if_pos c1b, obs, se_r, obs, se_l]
      obtain ⟨t, B3, k1, k2, k3⟩ := key
      rw [k3, obs, ixx_nI hg (by omega), obs]
      show ∃ a', some (Sum.inl ((nI g - 1) &&& (u2 G 3 g (zb t) 0 4), B3, u2 G 3 g (zb t))) = _ ∧ _
      have hzb : zb t = t := by
        rw [k2]
        split
        · exact zb_1
        · exact zb_0
      obtain ⟨g', rfl⟩ : ∃ g', g = g' + 1 := ⟨g - 1, by omega⟩
      have hnext : (nI (g' + 1) - 1) &&& (u2 G 3 (g' + 1) (zb t) 0 4) = nI (g' &&& s_apart C) := by
        rw [u2_row _ _ (by decide), tG.2.2, nI_pred, na_and]
      have hle : g' &&& s_apart C ≤ g' := Nat.and_le_left
      refine ⟨_, rfl, ⟨g' &&& s_apart C, hnext, and_sub g', k1, ⟨fun m hm => ?_, fun m hm => ?_, ?_⟩, fun k hk hlt => ?_⟩, ?_⟩
      · show u2 G 3 (g' + 1) (zb t) 1 m = _
        rw [u2_row _ _ (by decide), tG.1 m hm]
      · show u2 G 3 (g' + 1) (zb t) 2 m = _
        rw [u2_row _ _ (by decide), tG.2.1 m hm]
      · show u2 G 3 (g' + 1) (zb t) 0 4 = _
        rw [u2_row _ _ (by decide), tG.2.2]
      · show u2 G 3 (g' + 1) (zb t) 3 k = _
        by_cases he : k = g' + 1
        · subst he
          rw [u2_same, hzb, k2]
        · rw [u2_col _ _ he]
          refine tl k hk ?_
          have hp := sub_prev (g' + 1) (s_apart C) (g' + 1) k (Nat.le_refl _) (sub_and hs) (sub_and hk)
          rw [Nat.add_sub_cancel] at hp
          omega
      · show ((nI (g' + 1) - 1) &&& (u2 G 3 (g' + 1) (zb t) 0 4)).toNatClampNeg < (nI (g' + 1)).toNatClampNeg
        rw [hnext, nI_cl (by omega), nI_cl (by omega)]
        omega
  · exfalso
    have h1 := sub_and hk
    have h2 : k &&& s_apart C ≤ s_apart C := Nat.and_le_right
    omega
  · show (GU 0 4).toNatClampNeg < a_F
    rw [hG.2.2, nI_cl (by have := sub_1024 hN (sub_all C); omega)]
    have := sub_1024 hN (sub_all C)
    unfold a_F
    omega
/-- the digits, r meetings being left -/
def s_digs (C : CS) : Nat → Nat → Nat → Nat
  | 0, _, d => d
  | r + 1, g, d => match s_nx C g with
    | some m => s_digs C r (g ||| 2 ^ m) (d * 10 + m)
    | none => d
theorem digs_lt {C : CS} (hN : C 0 3 ≤ 10) : ∀ r g d j, d < 10 ^ j → s_digs C r g d < 10 ^ (j + r) := by
  intro r
  induction r with
  | zero => intro g d j h; exact h
  | succ r ih =>
    intro g d j h
    unfold s_digs
    cases hx : s_nx C g with
    | none =>
      show d < _
      exact Nat.lt_of_lt_of_le h (Nat.pow_le_pow_right (by omega) (by omega))
    | some m =>
      have hm := (s_first_is (p := s_go C g) (C 0 3) 0 m hx).2.1
      show s_digs C r (g ||| 2 ^ m) (d * 10 + m) < _
      rw [show j + (r + 1) = (j + 1) + r from by omega]
      refine ih _ _ (j + 1) ?_
      rw [Nat.pow_succ]
      omega
theorem nx_some {C : CS} (hN : C 0 3 ≤ 10) {g : Nat} (hs : s_sub C g) (ho : s_on C 10 g = true) (hr : s_rem C g ≠ 0) : ∃ m, s_nx C g = some m ∧ m < C 0 3 ∧ s_go C g m ∧ ∀ k, k < m → ¬ s_go C g k := by
  have hne : ¬ g = s_apart C := fun e => hr (by rw [e, rem_all])
  rcases (on_step hN hs).mp ho with h | ⟨m, hm, hc, h2⟩
  · exact absurd h hne
  · have := (s_first_some (p := s_go C g) (C 0 3) 0).mpr ⟨m, by omega, by omega, hc, h2⟩
    cases hx : s_first (s_go C g) (C 0 3) 0 with
    | none => rw [hx] at this; cases this
    | some m' =>
      obtain ⟨_, a2, a3, a4⟩ := s_first_is (p := s_go C g) (C 0 3) 0 m' hx
      exact ⟨m', hx, by omega, a3, fun k hk => a4 k (by omega) hk⟩
def nL (d : Nat) : Int64 := Int64.ofNat d
theorem i2l : ∀ m, m < 11 → Int32.toInt64 (nI m) = nL m := by decide
theorem nL_step (d m : Nat) (hm : m < 11) : nL d * 10 + Int32.toInt64 (nI m) = nL (d * 10 + m) ∧ 10 * nL d + Int32.toInt64 (nI m) = nL (d * 10 + m) := by
  rw [i2l m hm]
  unfold nL
  rw [Int64.ofNat_add, Int64.ofNat_mul]
  exact ⟨rfl, by rw [Int64.mul_comm]; rfl⟩
theorem nL_ne {d : Nat} (hd : d < 10 ^ 10) : ¬ a_cmpL (nL d) (-1) = 0 := by
  have h1 : (nL d).toInt = (d : Int) := by
    unfold nL
    exact Int64.toInt_ofNat_of_lt (by omega)
  have h2 : (-1 : Int64).toInt = -1 := by decide
  unfold a_cmpL
  have hlt : (-1 : Int64) < nL d := by
    rw [Int64.lt_iff_toInt_lt, h1, h2]
    omega
  rw [if_pos hlt]
  decide
theorem Y_digits {C : CS} {H BO GU : Nat → Nat → Int32} (hW : WFC C) (hH : RH C H) (hG : RG C GU) (hF : s_nofix C) (hl : ∀ k, s_sub C k → 0 < k → GU 3 k = if s_ld C k then 1 else 0) (h0 : s_on C 10 0 = true) :
    loopN (fun q => f_Guide_firstOrder_l92 H GU BO q.1 q.2.1 q.2.2) a_F (0, 0, nI (s_rem C 0)) = some (.inl (nL (s_digs C (s_rem C 0) 0 0))) := by
  have hN := hW.2.2.2.1
  obtain ⟨b, b1, b2⟩ := loop_dn (body := fun q : Int64 × Int32 × Int32 => f_Guide_firstOrder_l92 H GU BO q.1 q.2.1 q.2.2)
    (fun r s => ∃ g d, s.1 = nL d ∧ s.2.1 = nI g ∧ s.2.2 = nI r ∧ s_sub C g ∧ s_on C 10 g = true ∧ s_rem C g = r ∧ s_digs C r g d = s_digs C (s_rem C 0) 0 0)
    (fun b => b = (.inl (nL (s_digs C (s_rem C 0) 0 0)) : Int64 ⊕ (Int64 × (Nat → Nat → Int32) × (Nat → Nat → Int32))))
    (fun r s hR => by
      obtain ⟨v, w, x⟩ := s
      obtain ⟨g, d, r1, r2, r3, r4, r5, r6, r7⟩ := hR
      have r1 : v = _ := r1
      have r2 : w = _ := r2
      have r3 : x = _ := r3
      subst r1; subst r2; subst r3
      have hr10 : r + 1 ≤ 10 := by rw [← r6]; exact rem_le hN g
      obtain ⟨m, m1, m2, m3, m4⟩ := nx_some hN r4 r5 (by omega)
      have hgm := or_gt m3.1.2.1
      refine Or.inl ?_
      show ∃ s', f_Guide_firstOrder_l92 H GU BO (nL d) (nI g) (nI (r + 1)) = _ ∧ _
      unfold f_Guide_firstOrder_l92
      rw [if_neg (show ¬ nI (r + 1) ≤ 0 from fun h => by have := (na_le (b := 0) (by omega) (by omega)).mp h; omega), Y_nextOf hW hH hG hF r4 (fun k hk ha hg' => hl _ (sub_or r4 hk ha) (by have := or_gt hg'; omega)), obs, m1]
      rw [show oI (oN (some m)) = nI m from oI_s m, if_pos (na_ne1 (by omega)), (nL_step d m (by omega)).1, shl_1 _ (by omega), na_or]
      have hrm := rem_or m2 m3.1.1 m3.1.2.1
      refine ⟨_, rfl, g ||| 2 ^ m, d * 10 + m, rfl, rfl, ?_, sub_or r4 m2 m3.1.1, m3.2, by omega, ?_⟩
      · show nI (r + 1) + (-1) = nI r
        rw [← Int32.sub_eq_add_neg, nI_pred]
      · rw [← r7]
        show _ = (match s_nx C g with | some m => s_digs C r (g ||| 2 ^ m) (d * 10 + m) | none => d)
        rw [m1])
    (fun s hR => by
      obtain ⟨v, w, x⟩ := s
      obtain ⟨g, d, r1, r2, r3, r4, r5, r6, r7⟩ := hR
      have r1 : v = _ := r1
      have r2 : w = _ := r2
      have r3 : x = _ := r3
      subst r1; subst r2; subst r3
      refine ⟨_, ?_, rfl⟩
      show f_Guide_firstOrder_l92 H GU BO (nL d) (nI g) (nI 0) = _
      unfold f_Guide_firstOrder_l92
      rw [if_pos (by decide), ← r7]
      rfl)
    (s_rem C 0) (0, 0, nI (s_rem C 0)) a_F ⟨0, 0, rfl, rfl, rfl, sub_0 C, h0, rfl, rfl⟩ (by have := rem_le hN 0; unfold a_F; omega)
  rw [b1, b2]
theorem M_digits {C : CS} {A MS : Nat → Nat → Int32} (hW : WFC C) (hP : WFP C) (hM : RMo C A) (h1 : ∀ m, m < C 0 3 → MS 1 m = oI (s_G C m)) (hV : s_V C 0 MS) (h0 : s_on C 10 0 = true) :
    ∃ MS', loopN (fun q => f_M_order_l80 (nI (s_apart C)) A q.1 q.2.1 q.2.2) a_F (0, 0, MS) = some (nL (s_digs C (s_rem C 0) 0 0), MS') := by
  have hN := hW.2.2.2.1
  have hal := sub_1024 hN (sub_all C)
  obtain ⟨b, b1, b2⟩ := loop_dn (body := fun q : Int64 × Int32 × (Nat → Nat → Int32) => f_M_order_l80 (nI (s_apart C)) A q.1 q.2.1 q.2.2)
    (fun r s => ∃ g d, s.1 = nL d ∧ s.2.1 = nI g ∧ (∀ m, m < C 0 3 → s.2.2 1 m = oI (s_G C m)) ∧ s_V C 0 s.2.2 ∧ s_sub C g ∧ s_on C 10 g = true ∧ s_rem C g = r ∧ s_digs C r g d = s_digs C (s_rem C 0) 0 0)
    (fun b => b.1 = nL (s_digs C (s_rem C 0) 0 0))
    (fun r s hR => by
      obtain ⟨v, w, M⟩ := s
      obtain ⟨g, d, r1, r2, r3, r4, r5, r6, r7, r8⟩ := hR
      have r1 : v = _ := r1
      have r2 : w = _ := r2
      have t3 : ∀ m, m < C 0 3 → M 1 m = oI (s_G C m) := r3
      have t4 : s_V C 0 M := r4
      clear r3 r4
      subst r1; subst r2
      have hg := sub_1024 hN r5
      obtain ⟨m, m1, m2, m3, m4⟩ := nx_some hN r5 r6 (by omega)
      have hne : ¬ g = s_apart C := fun e => by rw [e, rem_all] at r7; omega
      refine Or.inl ?_
      show ∃ s', f_M_order_l80 (nI (s_apart C)) A (nL d) (nI g) M = _ ∧ _
      unfold f_M_order_l80
      simp only [nI_eqP (show g < 2 ^ 31 by omega) (show s_apart C < 2 ^ 31 by omega)]
      rw [if_neg hne]
      obtain ⟨b, b1, b2, b3, b4⟩ := loop_dn (body := fun q : Int32 × (Nat → Nat → Int32) => f_M_order_l89 A (nI g) (nI (s_apart C)) q.1 q.2)
        (fun k s => ∃ i, i + k = m ∧ s.1 = nI i ∧ (∀ m, m < C 0 3 → s.2 1 m = oI (s_G C m)) ∧ s_V C 0 s.2)
        (fun b => b.1 = nI m ∧ (∀ m, m < C 0 3 → b.2 1 m = oI (s_G C m)) ∧ s_V C 0 b.2)
        (fun k s hR => by
          obtain ⟨v, M⟩ := s
          obtain ⟨i, hi, y1, y2, y3⟩ := hR
          have y1 : v = _ := y1
          have u2' : ∀ m, m < C 0 3 → M 1 m = oI (s_G C m) := y2
          have u3 : s_V C 0 M := y3
          clear y2 y3
          subst y1
          refine Or.inl ?_
          show ∃ s', f_M_order_l89 A (nI g) (nI (s_apart C)) (nI i) M = _ ∧ _
          unfold f_M_order_l89
          obtain ⟨M2, c1, c2⟩ := M_canGo hW hP hM u2' (g := g) (by omega) (show i < C 0 3 by omega)
          have v2 : ∀ m, m < C 0 3 → M2 1 m = oI (s_G C m) := fun m hm => by rw [c2 1 m (by decide), u2' m hm]
          have v3 : s_V C 0 M2 := fun k hk hsk => by rw [c2 6 k (by decide)]; exact u3 k hk hsk
          rw [c1, obs]
          by_cases hc : s_can C g i
          · rw [if_pos hc, if_neg (show ¬ (1 : Int32) = 0 by decide), shl_1 _ (by omega), na_or]
            have hs2 := sub_or r5 (show i < C 0 3 by omega) hc.1
            obtain ⟨M3, d1, d2, d3, d4⟩ := M_goesOn hW hP hM 12 (g ||| 2 ^ i) M2 (by have := rem_le hN (g ||| 2 ^ i); omega) hs2 v2 (fun k _ hsk => v3 k (by omega) hsk)
            have w3 : s_V C 0 M3 := fun k hk hsk => by
              by_cases hlt : k < g ||| 2 ^ i
              · rw [d4 k hlt]; exact v3 k hk hsk
              · exact d3 k (by omega) hsk
            rw [d1, obs, if_neg (show ¬ s_on C 10 (g ||| 2 ^ i) = true from fun h => m4 i (by omega) ⟨hc, h⟩), if_neg (show ¬ ((0 : Int32) ≠ 0) by decide)]
            exact ⟨_, rfl, i + 1, by omega, (nI_succ i).symm, d2, w3⟩
          · rw [if_neg hc, if_pos rfl]
            exact ⟨_, rfl, i + 1, by omega, (nI_succ i).symm, v2, v3⟩)
        (fun s hR => by
          obtain ⟨v, M⟩ := s
          obtain ⟨i, hi, y1, y2, y3⟩ := hR
          have y1 : v = _ := y1
          have u2' : ∀ m, m < C 0 3 → M 1 m = oI (s_G C m) := y2
          have u3 : s_V C 0 M := y3
          clear y2 y3
          have hi : i = m := by omega
          subst hi
          subst y1
          show ∃ b, f_M_order_l89 A (nI g) (nI (s_apart C)) (nI i) M = _ ∧ _
          unfold f_M_order_l89
          obtain ⟨M2, c1, c2⟩ := M_canGo hW hP hM u2' (g := g) (by omega) m2
          have v2 : ∀ m, m < C 0 3 → M2 1 m = oI (s_G C m) := fun m hm => by rw [c2 1 m (by decide), u2' m hm]
          have v3 : s_V C 0 M2 := fun k hk hsk => by rw [c2 6 k (by decide)]; exact u3 k hk hsk
          have hs2 := sub_or r5 m2 m3.1.1
          obtain ⟨M3, d1, d2, d3, d4⟩ := M_goesOn hW hP hM 12 (g ||| 2 ^ i) M2 (by have := rem_le hN (g ||| 2 ^ i); omega) hs2 v2 (fun k _ hsk => v3 k (by omega) hsk)
          have w3 : s_V C 0 M3 := fun k hk hsk => by
            by_cases hlt : k < g ||| 2 ^ i
            · rw [d4 k hlt]; exact v3 k hk hsk
            · exact d3 k (by omega) hsk
          rw [c1, obs, if_pos m3.1, if_neg (show ¬ (1 : Int32) = 0 by decide), shl_1 _ (by omega), na_or, d1, obs, if_pos m3.2, if_pos (show (1 : Int32) ≠ 0 by decide)]
          exact ⟨_, rfl, rfl, d2, w3⟩)
        m (0, M) a_F ⟨0, by omega, rfl, t3, t4⟩ (by unfold a_F; omega)
      obtain ⟨bv, bM⟩ := b
      have b2 : bv = nI m := b2
      subst b2
      rw [b1, obs]
      show ∃ s', some (Sum.inl (10 * nL d + Int32.toInt64 (nI m), nI g ||| a_shl 1 (nI m), bM)) = _ ∧ _
      rw [(nL_step d m (by omega)).2, shl_1 _ (by omega), na_or]
      have hrm := rem_or m2 m3.1.1 m3.1.2.1
      refine ⟨_, rfl, g ||| 2 ^ m, d * 10 + m, rfl, rfl, b3, b4, sub_or r5 m2 m3.1.1, m3.2, by omega, ?_⟩
      rw [← r8]
      show _ = (match s_nx C g with | some m => s_digs C r (g ||| 2 ^ m) (d * 10 + m) | none => d)
      rw [m1])
    (fun s hR => by
      obtain ⟨v, w, M⟩ := s
      obtain ⟨g, d, r1, r2, r3, r4, r5, r6, r7, r8⟩ := hR
      have r1 : v = _ := r1
      have r2 : w = _ := r2
      subst r1; subst r2
      have he := rem_0 r5 r7
      refine ⟨(nL d, M), ?_, ?_⟩
      · show f_M_order_l80 (nI (s_apart C)) A (nL d) (nI g) M = _
        unfold f_M_order_l80
        rw [if_pos (by rw [he])]
      · show nL d = _
        rw [← r8]; rfl)
    (s_rem C 0) (0, 0, MS) a_F ⟨0, 0, rfl, rfl, h1, hV, sub_0 C, h0, rfl, rfl⟩ (by have := rem_le hN 0; unfold a_F; omega)
  obtain ⟨v, M⟩ := b
  have b2 : v = _ := b2
  subst b2
  exact ⟨M, b1⟩
