/-! PURE MATH: pushing: who is in the way, who may enter, the first open place -/
theorem M_inWay {C : CS} {A MS : Nat → Nat → Int32} {pl : Nat → Nat} (hW : WFC C) (hM : RMo C A) (h4 : ∀ m, m < C 0 3 → MS 4 m = oI (pl m)) (hpl : ∀ m, pl m ≤ 30) {m k : Nat} (hm : m < C 0 3) (hk : k < 30) : f_M_inWay A MS (nI m) (nI k) = some (nI (bs (s_way C pl m k) (C 0 3))) := by
  have hN := hW.2.2.2.1
  have n3 : A 0 26 = nI (C 0 3) := hM.n (j := 3) (by omega)
  unfold f_M_inWay
  have e := loop_S (body := fun q => f_M_inWay_l5 A MS (nI m) (nI k) q.1 q.2) (C 0 3) (fun i => (nI (bs (s_way C pl m k) i), nI i)) (b := nI (bs (s_way C pl m k) (C 0 3))) 0 (by omega) (by omega)
    (fun i _ hi => by
      show f_M_inWay_l5 A MS (nI m) (nI k) (nI _) (nI i) = _
      unfold f_M_inWay_l5
      rw [n3, if_neg (nI_ge hi (by omega)), rdx_nI (by omega) (by omega), h4 i hi, obs, M_with hW hM hpl hm hk hi, obs]
      simp only [with_ne]
      by_cases c : s_way C pl m k i
      · rw [if_neg (fun h => h c), obs, shl_1 _ (by omega), na_or, bs_hit (p := s_way C pl m k) c, nI_succ]
      · rw [if_pos c, obs, or_z, bs_miss (p := s_way C pl m k) c, nI_succ])
    (by
      show f_M_inWay_l5 A MS (nI m) (nI k) _ (nI (C 0 3)) = _
      unfold f_M_inWay_l5
      rw [n3, if_pos (nI_le (Nat.le_refl _) (by omega))])
  show (loopN _ a_F (nI (bs (s_way C pl m k) 0), nI 0)).bind _ = _
  rw [e, obs]
theorem M_areFree {C : CS} {A : Nat → Nat → Int32} (hW : WFC C) (hM : RMo C A) (w : Nat → Prop) [DecidablePred w] : f_M_areFree A (nI (bs w (C 0 3))) = some (if bs (fun o => w o ∧ C 10 o = 1) (C 0 3) = 0 then 1 else 0) := by
  have hN := hW.2.2.2.1
  have n3 : A 0 26 = nI (C 0 3) := hM.n (j := 3) (by omega)
  have hl := bs_lt10 w hN
  have body : ∀ m, m < C 0 3 → f_M_areFree_l2 A (nI (bs w (C 0 3))) (nI m) = if w m ∧ C 10 m = 1 then some (.inr (.inr 0)) else some (.inl (nI m + 1)) := fun m hm => by
    have hf := hW.fixed m
    obtain ⟨a1, a2⟩ := bitq (x := bs w (C 0 3)) (j := m) (by omega) (by omega)
    have hb : (bs w (C 0 3)).testBit m = true ↔ w m := by rw [bs_bit, decide_eq_true_eq]; exact ⟨fun h => h.2, fun h => ⟨hm, h⟩⟩
    unfold f_M_areFree_l2
    rw [n3, if_neg (nI_ge hm (by omega)), M_isFixed hW hM hm]
    simp only [obs, ne_eq, a2, hb]
    by_cases c1 : w m
    · rw [if_neg (fun h => h c1)]
      by_cases c2 : C 10 m = 1
      · rw [if_neg (show ¬ nI (C 10 m) = 0 by rw [c2]; decide), if_pos ⟨c1, c2⟩, zb_0]
      · rw [if_pos (show nI (C 10 m) = 0 by rw [show C 10 m = 0 from by omega]; rfl), if_neg (fun h => c2 h.2)]
    · rw [if_pos c1, if_neg (fun h => c1 h.1)]
  have e := loop_first (body := fun q => f_M_areFree_l2 A (nI (bs w (C 0 3))) q) (C 0 3) (fun m => w m ∧ C 10 m = 1) (fun _ => (0 : Int32)) (by omega)
    (fun i hi hp => by show f_M_areFree_l2 A (nI (bs w (C 0 3))) (nI i) = _; rw [body i hi, if_pos hp])
    (fun i hi hp => by show f_M_areFree_l2 A (nI (bs w (C 0 3))) (nI i) = _; rw [body i hi, if_neg hp])
    (by
      show f_M_areFree_l2 A (nI (bs w (C 0 3))) (nI (C 0 3)) = _
      unfold f_M_areFree_l2
      rw [n3, if_pos (nI_le (Nat.le_refl _) (by omega))])
  have hq := s_first_some (p := fun m => w m ∧ C 10 m = 1) (C 0 3) 0
  have hz := bs_ne0 (fun o => w o ∧ C 10 o = 1) (C 0 3)
  unfold f_M_areFree
  rw [e, obs]
  cases hf : s_first (fun m => w m ∧ C 10 m = 1) (C 0 3) 0 with
  | none =>
    rw [hf] at hq
    rw [if_pos (Decidable.byContradiction fun hn => by
      obtain ⟨i, i1, i2⟩ := hz.mp hn
      have := hq.mpr ⟨i, by omega, by omega, i2⟩
      cases this), se_l, zb_1]
  | some i =>
    rw [hf] at hq
    obtain ⟨i, i0, i1, i2⟩ := hq.mp rfl
    rw [if_neg (fun h0 => (hz.mpr ⟨i, by omega, i2⟩) h0), se_r]
/-- m may go there, none fixed being in its way -/
abbrev s_ent (C : CS) (pl : Nat → Nat) (m k : Nat) : Prop := (s_last C m k = 0 ∧ ¬ (s_held C (k % 3) (C 0 4)).testBit (k / 3) = true) ∧ bs (fun o => s_way C pl m k o ∧ C 10 o = 1) (C 0 3) = 0
theorem Y_mayEnter {C : CS} {H B : Nat → Nat → Int32} {pl q tm : Nat → Nat} (hW : WFC C) (hH : RH C H) (hB : RB C q tm B) {m k : Nat} (hm : m < C 0 3) (hk : k < 30) (hr : k % 3 < C 0 1) : f_Pusher_mayEnter H B (nI m) (nI k) (nI (bs (s_way C pl m k) (C 0 3))) = some (if s_ent C pl m k then 1 else 0) := by
  have hN := hW.2.2.2.1
  have e5 : H 0 5 = nI (bs (fun m => C 10 m = 1) (C 0 3)) := hH 0 5 (show 5 < 6 by omega)
  have hl := s_last_lt C m k
  have hb := bs_lt10 (fun o => s_way C pl m k o ∧ C 10 o = 1) hN
  have z10 : ((1 : Int32) = 0) = False := by simp
  unfold f_Pusher_mayEnter
  rw [e5, na_and, bs_and, Y_isHeldPlace hW hB hk, obs, Y_lasting hW hH hm hk hr, obs]
  simp only [ne_eq, show (nI (bs (fun o => s_way C pl m k o ∧ C 10 o = 1) (C 0 3)) = 0) = (bs (fun o => s_way C pl m k o ∧ C 10 o = 1) (C 0 3) = 0) from nI_eqP (b := 0) (by omega) (by omega), show (nI (s_last C m k) = 0) = (s_last C m k = 0) from nI_eqP (b := 0) (by omega) (by omega)]
  by_cases c1 : bs (fun o => s_way C pl m k o ∧ C 10 o = 1) (C 0 3) = 0
  · rw [if_neg (fun h => h c1)]
    by_cases c2 : (s_held C (k % 3) (C 0 4)).testBit (k / 3) = true
    · have w : (if (s_held C (k % 3) (C 0 4)).testBit (k / 3) = true then (1 : Int32) else 0) = 1 := if_pos c2
      rw [w, if_pos (show ¬ (1 : Int32) = 0 by decide), if_neg (show ¬ s_ent C pl m k from fun h => h.1.2 c2), zb_0]
    · have w : (if (s_held C (k % 3) (C 0 4)).testBit (k / 3) = true then (1 : Int32) else 0) = 0 := if_neg c2
      rw [w, if_neg (fun h => h rfl)]
      by_cases c3 : s_last C m k = 0
      · rw [if_neg (fun h => h c3), if_pos (show s_ent C pl m k from ⟨⟨c3, c2⟩, c1⟩), zb_1]
      · rw [if_pos c3, if_neg (show ¬ s_ent C pl m k from fun h => c3 h.1.1), zb_0]
  · rw [if_pos c1, if_neg (show ¬ s_ent C pl m k from fun h => c1 h.2), zb_0]
theorem M_own0 {C : CS} {A : Nat → Nat → Int32} (hW : WFC C) (hM : RMo C A) {m k : Nat} (hm : m < C 0 3) (hk : k < 30) (hr : k % 3 < C 0 1) : ∃ x, f_M_ownClash A (nI m) (nI k) = some x ∧ (x = 0 ↔ (s_last C m k = 0 ∧ ¬ (s_held C (k % 3) (C 0 4)).testBit (k / 3) = true)) := by
  have hl := s_last_lt C m k
  refine ⟨_, M_own hW hM hm hk hr, ?_⟩
  by_cases c2 : (s_held C (k % 3) (C 0 4)).testBit (k / 3) = true
  · rw [if_pos c2]
    have hlt : s_last C m k ||| 8 < 2 ^ 5 := Nat.or_lt_two_pow hl (by decide)
    refine ⟨fun h => ?_, fun h => absurd c2 h.2⟩
    have := (na_eq (b := 0) (by omega) (by omega)).mp h
    have := ((or_eq0 _ _).mp this).2
    omega
  · rw [if_neg c2, Nat.or_zero]
    exact (na_eq (b := 0) (by omega) (by omega)).trans ⟨fun h => ⟨h, c2⟩, fun h => h.1⟩
theorem s_first_eq {p : Nat → Prop} [DecidablePred p] {N k : Nat} (hk : k < N) (hp : p k) (hn : ∀ j, j < k → ¬ p j) : s_first p N 0 = some k := by
  have h1 := (s_first_some (p := p) N 0).mpr ⟨k, by omega, by omega, hp⟩
  cases hx : s_first p N 0 with
  | none => rw [hx] at h1; cases h1
  | some j =>
    obtain ⟨a1, a2, a3, a4⟩ := s_first_is N 0 j hx
    have : j = k := by
      rcases Nat.lt_trichotomy j k with h | h | h
      · exact absurd a3 (hn j h)
      · exact h
      · exact absurd hp (a4 k (by omega) h)
    rw [this]
theorem s_first_nn {p : Nat → Prop} [DecidablePred p] {N : Nat} (hn : ∀ j, j < N → ¬ p j) : s_first p N 0 = none := by
  cases hx : s_first p N 0 with
  | none => rfl
  | some j =>
    obtain ⟨a1, a2, a3, a4⟩ := s_first_is N 0 j hx
    exact absurd a3 (hn j (by omega))
theorem Y_firstOpen {C : CS} {H B : Nat → Nat → Int32} {pl tm : Nat → Nat} (hW : WFC C) (hH : RH C H) (hB : RB C pl tm B) (hpl : ∀ m, pl m ≤ 30) {m : Nat} (hm : m < C 0 3) : f_Pusher_firstOpen H B (nI m) = some (oI (oN (s_first (s_fr C pl m) 30 0))) := by
  have hN := hW.2.2.2.1
  have hR := hW.2.1
  have hH10 := hW.1.2
  have h00 : H 0 0 = nI (C 0 0) := hH 0 0 (show 0 < 6 by omega)
  have h01 : H 0 1 = nI (C 0 1) := hH 0 1 (show 1 < 6 by omega)
  have inner : ∀ h, h < C 0 0 → loopN (fun q => f_Pusher_firstOpen_l18 H B (nI h) (nI m) q) a_F 0 = some (match s_first (fun r => s_clash C pl m (3 * h + r) = 0) (C 0 1) 0 with | some r => .inr (.inr (.inr (nI (3 * h + r)))) | none => .inl ()) := fun h hh => by
    refine loop_first (body := fun q => f_Pusher_firstOpen_l18 H B (nI h) (nI m) q) (C 0 1) (fun r => s_clash C pl m (3 * h + r) = 0) (fun r => .inr (.inr (nI (3 * h + r)))) (by omega) (fun r hr hp => ?_) (fun r hr hp => ?_) ?_
    · show f_Pusher_firstOpen_l18 H B (nI h) (nI m) (nI r) = _
      unfold f_Pusher_firstOpen_l18 f_Y_placeOf
      rw [h01, if_neg (nI_ge hr (by omega)), obs, (pl_of h r).1, Y_isOpen hW hH hB hpl hm (by omega) (by omega), obs, if_pos hp, if_neg (show ¬ (1 : Int32) = 0 by decide), obs]
    · show f_Pusher_firstOpen_l18 H B (nI h) (nI m) (nI r) = _
      unfold f_Pusher_firstOpen_l18 f_Y_placeOf
      rw [h01, if_neg (nI_ge hr (by omega)), obs, (pl_of h r).1, Y_isOpen hW hH hB hpl hm (by omega) (by omega), obs, if_neg hp, if_pos rfl]
    · show f_Pusher_firstOpen_l18 H B (nI h) (nI m) (nI (C 0 1)) = _
      unfold f_Pusher_firstOpen_l18
      rw [h01, if_pos (nI_le (Nat.le_refl _) (by omega))]
  let rf : Nat → Option Nat := fun h => s_first (fun r => s_clash C pl m (3 * h + r) = 0) (C 0 1) 0
  have outer := loop_first (body := fun q => f_Pusher_firstOpen_l2 H B (nI m) q) (C 0 0) (fun h => (rf h).isSome = true) (fun h => nI (3 * h + (oN (rf h) - 1))) (by omega)
    (fun h hh hp => by
      show f_Pusher_firstOpen_l2 H B (nI m) (nI h) = _
      unfold f_Pusher_firstOpen_l2
      rw [h00, if_neg (nI_ge hh (by omega)), inner h hh, obs]
      have hp : (rf h).isSome = true := hp
      have e : rf h = s_first (fun r => s_clash C pl m (3 * h + r) = 0) (C 0 1) 0 := rfl
      rw [e] at hp ⊢
      cases hx : s_first (fun r => s_clash C pl m (3 * h + r) = 0) (C 0 1) 0 with
      | none => rw [hx] at hp; cases hp
      | some r => rw [se_r]; rfl)
    (fun h hh hp => by
      show f_Pusher_firstOpen_l2 H B (nI m) (nI h) = _
      unfold f_Pusher_firstOpen_l2
      rw [h00, if_neg (nI_ge hh (by omega)), inner h hh, obs]
      have hp : ¬ (rf h).isSome = true := hp
      have e : rf h = s_first (fun r => s_clash C pl m (3 * h + r) = 0) (C 0 1) 0 := rfl
      rw [e] at hp
      cases hx : s_first (fun r => s_clash C pl m (3 * h + r) = 0) (C 0 1) 0 with
      | none => rw [se_l]
      | some r => rw [hx] at hp; exact absurd rfl hp)
    (by
      show f_Pusher_firstOpen_l2 H B (nI m) (nI (C 0 0)) = _
      unfold f_Pusher_firstOpen_l2
      rw [h00, if_pos (nI_le (Nat.le_refl _) (by omega))])
  have rfs : ∀ h, (rf h).isSome = true ↔ ∃ r, r < C 0 1 ∧ s_clash C pl m (3 * h + r) = 0 := fun h => by
    have := s_first_some (p := fun r => s_clash C pl m (3 * h + r) = 0) (C 0 1) 0
    exact this.trans ⟨fun ⟨r, _, r1, r2⟩ => ⟨r, by omega, r2⟩, fun ⟨r, r1, r2⟩ => ⟨r, by omega, by omega, r2⟩⟩
  unfold f_Pusher_firstOpen
  rw [outer, obs]
  cases hx : s_first (fun h => (rf h).isSome = true) (C 0 0) 0 with
  | none =>
    have hn := s_first_no (C 0 0) 0 hx
    rw [se_l, s_first_nn (p := s_fr C pl m) (fun j hj hp => hn (j / 3) (by omega) (by have := hp.2.1; omega) ((rfs _).mpr ⟨j % 3, hp.1, by rw [show 3 * (j / 3) + j % 3 = j from by omega]; exact hp.2.2⟩))]
    rfl
  | some h =>
    obtain ⟨_, a2, a3, a4⟩ := s_first_is (C 0 0) 0 h hx
    have a3 : (rf h).isSome = true := a3
    rw [se_r]
    cases hy : rf h with
    | none => rw [hy] at a3; cases a3
    | some r =>
      obtain ⟨_, b2, b3, b4⟩ := s_first_is (C 0 1) 0 r hy
      rw [s_first_eq (p := s_fr C pl m) (N := 30) (k := 3 * h + r) (by omega) ⟨by omega, by omega, b3⟩ (fun j hj hp => by
        by_cases hlt : j / 3 < h
        · exact a4 (j / 3) (by omega) hlt ((rfs _).mpr ⟨j % 3, hp.1, by rw [show 3 * (j / 3) + j % 3 = j from by omega]; exact hp.2.2⟩)
        · exact b4 (j % 3) (by omega) (by omega) (by show s_clash C pl m (3 * h + j % 3) = 0; rw [show 3 * h + j % 3 = j from by omega]; exact hp.2.2))]
      show some (nI (3 * h + (r + 1 - 1))) = some (oI (3 * h + r + 1))
      rw [oI_s, Nat.add_sub_cancel]
