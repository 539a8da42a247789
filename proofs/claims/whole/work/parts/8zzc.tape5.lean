/-! PURE MATH: both tapes, side by side: numbers, signs -/
/-- no fault so far: the reference stands at p, the class at the token behind it -/
def OSt (b : Nat → Nat) (n p : Nat) (T : Nat → Nat → Int32) (w : Nat) (M : Nat → Nat → Int32) : Prop := p ≤ n ∧ M 0 3 = nI n ∧ M 0 4 = nI p ∧ M 0 5 = -1 ∧ T 0 2 = nI n ∧ T 0 8 = 0 ∧ T 0 9 = -1 ∧ BY b n (T 1) ∧ TOK b n (k_sp b n p) T w
/-- both have the same fault -/
def FSt (n : Nat) (T M : Nat → Nat → Int32) : Prop := ∃ k pl, 1 ≤ k ∧ k ≤ 4 ∧ pl ≤ n ∧ T 0 8 = nI k ∧ T 0 9 = nI pl ∧ M 0 5 = nI pl ∧ M 0 6 = nI k
/-- what reading may change -/
def MNr (M M' : Nat → Nat → Int32) : Prop := ∀ a c, ¬ (a = 0 ∧ (c = 4 ∨ c = 5 ∨ c = 6)) → M' a c = M a c
def TNr (T T' : Nat → Nat → Int32) : Prop := ∀ a c, ¬ (a = 0 ∧ 3 ≤ c ∧ c ≤ 9) → T' a c = T a c
theorem MNr.refl (M : Nat → Nat → Int32) : MNr M M := fun _ _ _ => rfl
theorem TNr.refl (M : Nat → Nat → Int32) : TNr M M := fun _ _ _ => rfl
theorem MNr.trans {M M' M'' : Nat → Nat → Int32} (h : MNr M M') (h' : MNr M' M'') : MNr M M'' := fun a c x => by rw [h' a c x, h a c x]
theorem TNr.trans {M M' M'' : Nat → Nat → Int32} (h : TNr M M') (h' : TNr M' M'') : TNr M M'' := fun a c x => by rw [h' a c x, h a c x]
theorem MNr.at (M : Nat → Nat → Int32) (v : Int32) : MNr M (u2 M 0 4 v) := fun a c h => by rw [u2_eq, if_neg (by omega)]
theorem oI_ge {v h : Nat} (hv : v < 2 ^ 31) (hh : h < 2 ^ 31) : (nI v ≤ oI h) = (v < h) := by
  apply propext
  cases h with
  | zero =>
    rw [oI_0]
    exact ⟨fun h => absurd h (na_le1 hv), fun h => by omega⟩
  | succ h =>
    rw [oI_s, na_le hv (by omega)]
    omega
theorem hv_31 {b : Nat → Nat} {n s : Nat} (hb : ∀ i, b i < 256) : ∃ x, x < 256 ∧ hv b n s = nI x ∧ (s < n → x = b s) ∧ (¬ s < n → x = 0) := by
  unfold hv
  by_cases c : s < n
  · exact ⟨b s, hb s, if_pos c, fun _ => rfl, fun h => absurd c h⟩
  · exact ⟨0, by omega, if_neg c, fun h => absurd h c, fun _ => rfl⟩
theorem OSt.s {b : Nat → Nat} {n p w : Nat} {T M : Nat → Nat → Int32} (h : OSt b n p T w M) : OSt b n (k_sp b n p) T w (u2 M 0 4 (nI (k_sp b n p))) := by
  obtain ⟨h1, h2, h3, h4, h5, h6, h7, h8, h9⟩ := h
  exact ⟨(sp_le h1).2, by rw [u2_col _ _ (by decide), h2], u2_same _ _ _ _, by rw [u2_col _ _ (by decide), h4], h5, h6, h7, h8, by rw [sp_sp h1]; exact h9⟩
/-- the class goes on behind the token -/
theorem OSt.adv {b : Nat → Nat} {n p w : Nat} {A T M M' : Nat → Nat → Int32} (hX : TXt b n A) (h : OSt b n p T w M) (he : k_end b n (k_sp b n p) ≤ n) (h3 : M' 0 3 = nI n) (h4 : M' 0 4 = nI (k_end b n (k_sp b n p))) (h5 : M' 0 5 = -1) :
    ∃ T' w', f_Tape_advance T = some (T', w') ∧ OSt b n (k_end b n (k_sp b n p)) T' w' M' ∧ TNr T T' := by
  obtain ⟨p1, p2, p3, p4, p5, p6, p7, p8, t4, t3, t5, t6, t7, t8⟩ := h
  obtain ⟨T', w', a1, a2, a3⟩ := Y_advance hX.1 p8 hX.2.1 he p5 t5
  refine ⟨T', w', a1, ⟨he, h3, h4, h5, ?_, ?_, ?_, fun i hi => ?_, a2⟩, fun a c h => a3 a c (by omega)⟩
  · rw [a3 0 2 (by omega), p5]
  · rw [a3 0 8 (by omega), p6]
  · rw [a3 0 9 (by omega), p7]
  · rw [a3 1 i (by omega), p8 i hi]
theorem M_fine1 {M : Nat → Nat → Int32} (h : M 0 5 = -1) : f_M_fine M = some 1 := by
  unfold f_M_fine
  rw [h, if_neg (fun h => h rfl), zb_1]
theorem M_fine0 {M : Nat → Nat → Int32} {pl : Nat} (hp : pl < 2 ^ 31) (h : M 0 5 = nI pl) : f_M_fine M = some 0 := by
  unfold f_M_fine
  rw [h, if_pos (na_ne1 hp), zb_0]
theorem Y_failed0 {T : Nat → Nat → Int32} (h : T 0 8 = 0) : f_Tape_failed T = some 0 := by
  unfold f_Tape_failed
  rw [if_pos h, zb_0]
theorem Y_failed1 {T : Nat → Nat → Int32} {k : Nat} (h1 : 1 ≤ k) (h4 : k ≤ 4) (h : T 0 8 = nI k) : f_Tape_failed T = some 1 := by
  unfold f_Tape_failed
  rw [h, if_neg (nI_ne0 (by omega) (by omega)), zb_1]
theorem FSt.f {n : Nat} {T M : Nat → Nat → Int32} (hn : n ≤ 600) (h : FSt n T M) : f_Tape_failed T = some 1 ∧ f_M_fine M = some 0 := by
  obtain ⟨k, pl, h1, h2, h3, h4, h5, h6, h7⟩ := h
  exact ⟨Y_failed1 h1 h2 h4, M_fine0 (by omega) h6⟩
theorem OSt.f {b : Nat → Nat} {n p w : Nat} {T M : Nat → Nat → Int32} (h : OSt b n p T w M) : f_Tape_failed T = some 0 ∧ f_M_fine M = some 1 := ⟨Y_failed0 h.2.2.2.2.2.1, M_fine1 h.2.2.2.1⟩
/-- a fault at the token, both -/
theorem fail_bothQ {b : Nat → Nat} {n p w : Nat} {T M M' : Nat → Nat → Int32} (h : OSt b n p T w M) (k : Nat) (h1 : 1 ≤ k) (h4 : k ≤ 4) (hM : MNr M M') (h5 : M' 0 5 = -1) :
    ∃ T' M'', f_Tape_fail T (nI k) = some T' ∧ f_M_wrong M' (nI k) (nI (k_sp b n p)) = some M'' ∧ FSt n T' M'' ∧ TNr T T' ∧ MNr M M'' ∧ M'' 0 4 = M' 0 4 := by
  obtain ⟨p1, p2, p3, p4, p5, p6, p7, p8, t4, _⟩ := h
  refine ⟨u2 (u2 T 0 8 (nI k)) 0 9 ((u2 T 0 8 (nI k)) 0 4), u2 (u2 M' 0 5 (nI (k_sp b n p))) 0 6 (nI k), ?_, ?_, ⟨k, k_sp b n p, h1, h4, (sp_le p1).2, ?_, ?_, ?_, ?_⟩, fun a c h => ?_, fun a c h => ?_, ?_⟩
  · unfold f_Tape_fail
    rw [if_neg (fun h => h p6)]
  · unfold f_M_wrong
    rw [if_pos h5]
  · rw [u2_col _ _ (by decide), u2_same]
  · rw [u2_same, u2_col _ _ (by decide), t4]
  · rw [u2_col _ _ (by decide), u2_same]
  · rw [u2_same]
  · rw [u2_eq, if_neg (by omega), u2_eq, if_neg (by omega)]
  · rw [u2_eq, if_neg (by omega), u2_eq, if_neg (by omega), hM a c h]
  · rw [u2_col _ _ (by decide), u2_col _ _ (by decide)]
theorem fail_both {b : Nat → Nat} {n p w : Nat} {T M M' : Nat → Nat → Int32} (h : OSt b n p T w M) (k : Nat) (h1 : 1 ≤ k) (h4 : k ≤ 4) (hM : MNr M M') (h5 : M' 0 5 = -1) :
    ∃ T' M'', f_Tape_fail T (nI k) = some T' ∧ f_M_wrong M' (nI k) (nI (k_sp b n p)) = some M'' ∧ FSt n T' M'' ∧ TNr T T' ∧ MNr M M'' := by
  obtain ⟨T', M'', a1, a2, a3, a4, a5, _⟩ := fail_bothQ h k h1 h4 hM h5
  exact ⟨T', M'', a1, a2, a3, a4, a5⟩
theorem sp_tok {b : Nat → Nat} {n p : Nat} (hp : p ≤ n) : (k_kind b n (k_sp b n p) = 0 ∧ k_sp b n p = n ∧ k_end b n (k_sp b n p) = k_sp b n p) ∨ (k_kind b n (k_sp b n p) = 1 ∧ k_sp b n p < n ∧ q_dg b (k_sp b n p) ∧ k_end b n (k_sp b n p) = k_dg b n (k_sp b n p)) ∨ (k_kind b n (k_sp b n p) = 2 ∧ k_sp b n p < n ∧ ¬ q_dg b (k_sp b n p) ∧ q_lt b (k_sp b n p) ∧ k_end b n (k_sp b n p) = k_lt b n (k_sp b n p)) ∨ (k_kind b n (k_sp b n p) = 3 ∧ k_sp b n p < n ∧ ¬ q_dg b (k_sp b n p) ∧ ¬ q_lt b (k_sp b n p) ∧ k_end b n (k_sp b n p) = k_sp b n p + 1) := by
  obtain ⟨s1, s2⟩ := sp_le (b := b) hp
  unfold k_kind k_end
  by_cases c0 : n ≤ k_sp b n p
  · exact Or.inl ⟨if_pos c0, by omega, if_pos c0⟩
  · by_cases c1 : q_dg b (k_sp b n p)
    · exact Or.inr (Or.inl ⟨by rw [if_neg c0, if_pos c1], by omega, c1, by rw [if_neg c0, if_pos c1]⟩)
    · by_cases c2 : q_lt b (k_sp b n p)
      · exact Or.inr (Or.inr (Or.inl ⟨by rw [if_neg c0, if_neg c1, if_pos c2], by omega, c1, c2, by rw [if_neg c0, if_neg c1, if_pos c2]⟩))
      · exact Or.inr (Or.inr (Or.inr ⟨by rw [if_neg c0, if_neg c1, if_neg c2], by omega, c1, c2, by rw [if_neg c0, if_neg c1, if_neg c2]⟩))
theorem dg_gt {b : Nat → Nat} {n s : Nat} (hs : s < n) (h : q_dg b s) : s < k_dg b n s ∧ k_dg b n s ≤ n := by
  obtain ⟨r1, r2, r3, r4⟩ := run_is (q_dg b) (n - s) s
  refine ⟨?_, (dg_le (by omega)).2⟩
  by_cases c : s < k_dg b n s
  · exact c
  · have e : s_run (q_dg b) (n - s) s = s := by unfold k_dg at c; omega
    rw [e] at r4
    exact absurd h (r4 (by omega))
theorem lt_gt {b : Nat → Nat} {n s : Nat} (hs : s < n) (h : q_lt b s) : s < k_lt b n s ∧ k_lt b n s ≤ n := by
  obtain ⟨r1, r2, r3, r4⟩ := run_is (q_lt b) (n - s) s
  refine ⟨?_, (lt_le (by omega)).2⟩
  by_cases c : s < k_lt b n s
  · exact c
  · have e : s_run (q_lt b) (n - s) s = s := by unfold k_lt at c; omega
    rw [e] at r4
    exact absurd h (r4 (by omega))
/-- a number, both: from lo to below hi -/
theorem number_bothQ {b : Nat → Nat} {n p w : Nat} {A T M : Nat → Nat → Int32} (hX : TXt b n A) (h : OSt b n p T w M) {lo hi : Nat} (hlo : lo ≤ 1000) (hhi : hi ≤ 1000) :
    (∃ v T' w' M' p', lo ≤ v ∧ v < hi ∧ f_Tape_number T w (nI lo) (oI hi) = some (nI v, T', w') ∧ f_M_readNumber A M (nI lo) (oI hi) = some (nI v, M') ∧ OSt b n p' T' w' M' ∧ p < p' ∧ TNr T T' ∧ MNr M M') ∨
    (∃ T' M', f_Tape_number T w (nI lo) (oI hi) = some (-1, T', w) ∧ f_M_readNumber A M (nI lo) (oI hi) = some (0, M') ∧ FSt n T' M' ∧ TNr T T' ∧ MNr M M' ∧ ∃ q, q ≤ n ∧ M' 0 4 = nI q) := by
  obtain ⟨p1, p2, p3, p4, p5, p6, p7, p8, t4, t3, t5, t6, t7, t8⟩ := h
  have h : OSt b n p T w M := ⟨p1, p2, p3, p4, p5, p6, p7, p8, t4, t3, t5, t6, t7, t8⟩
  obtain ⟨hb, hn, hA⟩ := hX
  have hX : TXt b n A := ⟨hb, hn, hA⟩
  obtain ⟨s1, s2⟩ := sp_le (b := b) p1
  obtain ⟨x, hx, hx1, hx2, hx3⟩ := hv_31 (b := b) (n := n) (s := k_sp b n p) hb
  unfold f_Tape_number f_M_readNumber
  rw [h.f.1, h.f.2, obs, obs, if_pos rfl, if_pos (show (1 : Int32) ≠ 0 by decide), M_here hX p1 p2 p3, obs, hx1, M_isDig hx, obs, t3]
  have fail : ∀ k, 1 ≤ k → k ≤ 4 → ∀ M', MNr M M' → M' 0 5 = -1 → ∃ T' M'', f_Tape_fail T (nI k) = some T' ∧ f_M_wrong M' (nI k) (nI (k_sp b n p)) = some M'' ∧ FSt n T' M'' ∧ TNr T T' ∧ MNr M M'' ∧ M'' 0 4 = M' 0 4 := fun k h1 h4 M' hM h5 => fail_bothQ h k h1 h4 hM h5
  rcases sp_tok (b := b) p1 with ⟨k1, k2, k3⟩ | ⟨k1, k2, k3, k4⟩ | ⟨k1, k2, k3, k4, k5⟩ | ⟨k1, k2, k3, k4, k5⟩
  · rw [k1, if_neg (by decide), if_neg (show ¬ (48 ≤ x ∧ x ≤ 57) by have := hx3 (by omega); omega), if_neg (fun h => h rfl)]
    obtain ⟨T', M', f1, f2, f3, f4, f5, f6⟩ := fail 1 (by omega) (by omega) _ (MNr.at M (nI (k_sp b n p))) (by rw [u2_col _ _ (by decide), p4])
    refine Or.inr ⟨T', M', ?_, ?_, f3, f4, f5, k_sp b n p, s2, by rw [f6, u2_same]⟩
    · have f1 : f_Tape_fail T 1 = some T' := f1
      rw [f1]; rfl
    · show (f_M_wrong (u2 M 0 4 (nI (k_sp b n p))) 1 ((u2 M 0 4 (nI (k_sp b n p))) 0 4)).bind _ = _
      rw [u2_same]
      have f2 : f_M_wrong (u2 M 0 4 (nI (k_sp b n p))) 1 (nI (k_sp b n p)) = some M' := f2
      rw [f2]; rfl
  · obtain ⟨d1, d2⟩ := dg_gt k2 k3
    have hxd : 48 ≤ x ∧ x ≤ 57 := by rw [hx2 k2]; exact k3
    rw [k1, if_pos (show nI 1 = 1 from rfl), if_pos hxd, if_pos (show (1 : Int32) ≠ 0 by decide), t6 k1]
    obtain ⟨r1, r2, r3, r4⟩ := run_is (q_dg b) (n - k_sp b n p) (k_sp b n p)
    have r3 : ∀ i, k_sp b n p ≤ i → i < k_dg b n (k_sp b n p) → q_dg b i := r3
    have el := loop_run2 (body := fun q : Int32 × (Nat → Nat → Int32) => f_M_readNumber_l41 A q.1 q.2) n (q_dg b) (fun i => (nI (q_vR b (k_sp b n p) (i - k_sp b n p)), u2 M 0 4 (nI i))) (fun i => (nI (q_vR b (k_sp b n p) (i - k_sp b n p)), u2 M 0 4 (nI i))) (k_sp b n p) s2 (by omega)
      (fun i hsi hi hj hp => by
        have hp : 48 ≤ b i ∧ b i ≤ 57 := hp
        have hvl := vR_le (b := b) (s := k_sp b n p) (i - k_sp b n p) (fun j hjs => hj (k_sp b n p + j) (by omega) (by omega))
        show f_M_readNumber_l41 A (nI (q_vR b (k_sp b n p) (i - k_sp b n p))) (u2 M 0 4 (nI i)) = _
        unfold f_M_readNumber_l41
        rw [u2_same, u2_col _ _ (by decide), p2, if_neg (nI_ge hi (by omega)), rdx_nI (by omega) (by omega), hA i hi, obs, M_isDig (hb i), obs, if_pos hp, if_neg (by decide)]
        have e9 : (nI (q_vR b (k_sp b n p) (i - k_sp b n p)) ≤ 9999) = (q_vR b (k_sp b n p) (i - k_sp b n p) ≤ 9999) := propext (na_le (b := 9999) (by omega) (by omega))
        have e1 : q_vR b (k_sp b n p) (i + 1 - k_sp b n p) = if q_vR b (k_sp b n p) (i - k_sp b n p) ≤ 9999 then 10 * q_vR b (k_sp b n p) (i - k_sp b n p) + (b i - 48) else 10000 := by
          rw [show i + 1 - k_sp b n p = (i - k_sp b n p) + 1 from by omega]
          conv => lhs; unfold q_vR
          rw [show k_sp b n p + (i - k_sp b n p) = i from by omega]
        simp only [e9, obs]
        rw [e1, u2_u2, ← nI_succ]
        by_cases c : q_vR b (k_sp b n p) (i - k_sp b n p) ≤ 9999
        · rw [if_pos c, if_pos c, obs, show (10 : Int32) = nI 10 from rfl, show (48 : Int32) = nI 48 from rfl, na_mul, na_add, na_sub (by omega), show 10 * q_vR b (k_sp b n p) (i - k_sp b n p) + b i - 48 = 10 * q_vR b (k_sp b n p) (i - k_sp b n p) + (b i - 48) from by omega]
        · rw [if_neg c, if_neg c, obs]; rfl)
      (fun i hsi hi hj hp => by
        show f_M_readNumber_l41 A (nI (q_vR b (k_sp b n p) (i - k_sp b n p))) (u2 M 0 4 (nI i)) = _
        unfold f_M_readNumber_l41
        rw [u2_same, u2_col _ _ (by decide), p2, if_neg (nI_ge hi (by omega)), rdx_nI (by omega) (by omega), hA i hi, obs, M_isDig (hb i), obs, if_neg hp, if_pos rfl])
      (by
        show f_M_readNumber_l41 A (nI (q_vR b (k_sp b n p) (n - k_sp b n p))) (u2 M 0 4 (nI n)) = _
        unfold f_M_readNumber_l41
        rw [u2_same, u2_col _ _ (by decide), p2, if_pos (nI_le (Nat.le_refl _) (by omega))])
    have el : loopN (fun q : Int32 × (Nat → Nat → Int32) => f_M_readNumber_l41 A q.1 q.2) a_F (nI (q_vR b (k_sp b n p) (k_sp b n p - k_sp b n p)), u2 M 0 4 (nI (k_sp b n p))) = some (nI (q_vR b (k_sp b n p) (k_dg b n (k_sp b n p) - k_sp b n p)), u2 M 0 4 (nI (k_dg b n (k_sp b n p)))) := el
    rw [Nat.sub_self] at el
    have el : loopN (fun q : Int32 × (Nat → Nat → Int32) => f_M_readNumber_l41 A q.1 q.2) a_F (0, u2 M 0 4 (nI (k_sp b n p))) = some (nI (q_vR b (k_sp b n p) (k_dg b n (k_sp b n p) - k_sp b n p)), u2 M 0 4 (nI (k_dg b n (k_sp b n p)))) := el
    have hrel := v_rel (b := b) (s := k_sp b n p) (k_dg b n (k_sp b n p) - k_sp b n p) (fun i hi => r3 _ (by omega) (by omega))
    have hvl := vR_le (b := b) (s := k_sp b n p) (k_dg b n (k_sp b n p) - k_sp b n p) (fun i hi => r3 _ (by omega) (by omega))
    have hvc := vC_le b (k_sp b n p) (k_dg b n (k_sp b n p) - k_sp b n p)
    rw [el, obs]
    generalize q_vR b (k_sp b n p) (k_dg b n (k_sp b n p) - k_sp b n p) = vr at hrel hvl ⊢
    generalize q_vC b (k_sp b n p) (k_dg b n (k_sp b n p) - k_sp b n p) = vc at hrel hvc ⊢
    simp only [show (nI vc < nI lo) = (vc < lo) from propext (na_lt (by omega) (by omega)), show (nI vr < nI lo) = (vr < lo) from propext (na_lt (by omega) (by omega)), oI_ge (show vc < 2 ^ 31 by omega) (show hi < 2 ^ 31 by omega), oI_ge (show vr < 2 ^ 31 by omega) (show hi < 2 ^ 31 by omega)]
    by_cases c : lo ≤ vc ∧ vc < hi
    · have hvv : vr = vc := by omega
      subst hvv
      obtain ⟨T', w', a1, a2, a3⟩ := h.adv (M' := u2 M 0 4 (nI (k_dg b n (k_sp b n p)))) hX (by rw [k4]; exact d2) (by rw [u2_col _ _ (by decide), p2]) (by rw [k4, u2_same]) (by rw [u2_col _ _ (by decide), p4])
      refine Or.inl ⟨vr, T', w', u2 M 0 4 (nI (k_dg b n (k_sp b n p))), k_end b n (k_sp b n p), c.1, c.2, ?_, ?_, a2, by rw [k4]; omega, a3, MNr.at _ _⟩
      · rw [if_neg (by omega), if_pos c.2, a1, obs, obs, se_r]
      · rw [if_neg (by omega), if_pos c.2, obs, se_r]
    · obtain ⟨T', M', f1, f2, f3, f4, f5, f6⟩ := fail 2 (by omega) (by omega) _ (MNr.at M (nI (k_dg b n (k_sp b n p)))) (by rw [u2_col _ _ (by decide), p4])
      have f1 : f_Tape_fail T 2 = some T' := f1
      have f2 : f_M_wrong (u2 M 0 4 (nI (k_dg b n (k_sp b n p)))) 2 (nI (k_sp b n p)) = some M' := f2
      refine Or.inr ⟨T', M', ?_, ?_, f3, f4, f5, k_dg b n (k_sp b n p), d2, by rw [f6, u2_same]⟩
      · by_cases c1 : vc < lo
        · rw [if_pos c1, obs, se_l, f1]; rfl
        · rw [if_neg c1, if_neg (by omega), obs, se_l, f1]; rfl
      · have f2' : (f_M_wrong (u2 M 0 4 (nI (k_dg b n (k_sp b n p)))) 2 ((u2 M 0 4 (nI (k_sp b n p))) 0 4)) = some M' := by rw [u2_same]; exact f2
        by_cases c1 : vr < lo
        · rw [if_pos c1, obs, se_l]
          show (f_M_wrong (u2 M 0 4 (nI (k_dg b n (k_sp b n p)))) 2 ((u2 M 0 4 (nI (k_sp b n p))) 0 4)).bind _ = _
          rw [f2']; rfl
        · rw [if_neg c1, if_neg (by omega), obs, se_l]
          show (f_M_wrong (u2 M 0 4 (nI (k_dg b n (k_sp b n p)))) 2 ((u2 M 0 4 (nI (k_sp b n p))) 0 4)).bind _ = _
          rw [f2']; rfl
  all_goals
    rw [k1, if_neg (by decide), if_neg (show ¬ (48 ≤ x ∧ x ≤ 57) by rw [hx2 k2]; exact k3), if_neg (fun h => h rfl)]
    obtain ⟨T', M', f1, f2, f3, f4, f5, f6⟩ := fail 1 (by omega) (by omega) _ (MNr.at M (nI (k_sp b n p))) (by rw [u2_col _ _ (by decide), p4])
    refine Or.inr ⟨T', M', ?_, ?_, f3, f4, f5, k_sp b n p, s2, by rw [f6, u2_same]⟩
    · have f1 : f_Tape_fail T 1 = some T' := f1
      rw [f1]; rfl
    · show (f_M_wrong (u2 M 0 4 (nI (k_sp b n p))) 1 ((u2 M 0 4 (nI (k_sp b n p))) 0 4)).bind _ = _
      rw [u2_same]
      have f2 : f_M_wrong (u2 M 0 4 (nI (k_sp b n p))) 1 (nI (k_sp b n p)) = some M' := f2
      rw [f2]; rfl
theorem number_both {b : Nat → Nat} {n p w : Nat} {A T M : Nat → Nat → Int32} (hX : TXt b n A) (h : OSt b n p T w M) {lo hi : Nat} (hlo : lo ≤ 1000) (hhi : hi ≤ 1000) :
    (∃ v T' w' M' p', lo ≤ v ∧ v < hi ∧ f_Tape_number T w (nI lo) (oI hi) = some (nI v, T', w') ∧ f_M_readNumber A M (nI lo) (oI hi) = some (nI v, M') ∧ OSt b n p' T' w' M' ∧ p < p' ∧ TNr T T' ∧ MNr M M') ∨
    (∃ T' M', f_Tape_number T w (nI lo) (oI hi) = some (-1, T', w) ∧ f_M_readNumber A M (nI lo) (oI hi) = some (0, M') ∧ FSt n T' M' ∧ TNr T T' ∧ MNr M M') := by
  rcases number_bothQ hX h hlo hhi with x | ⟨T', M', a1, a2, a3, a4, a5, _⟩
  · exact Or.inl x
  · exact Or.inr ⟨T', M', a1, a2, a3, a4, a5⟩
theorem number_fail {n w : Nat} {A T M : Nat → Nat → Int32} (hn : n ≤ 600) (h : FSt n T M) (lo hi : Int32) : f_Tape_number T w lo hi = some (-1, T, w) ∧ f_M_readNumber A M lo hi = some (0, M) := by
  unfold f_Tape_number f_M_readNumber
  rw [(h.f hn).1, (h.f hn).2]
  exact ⟨rfl, rfl⟩
/-- is it this sign: both -/
theorem atSign_is {b : Nat → Nat} {n p w : Nat} {T M : Nat → Nat → Int32} (hb : ∀ i, b i < 256) (h : OSt b n p T w M) {c : Nat} (hc : c < 256) (hd : ¬ (48 ≤ c ∧ c ≤ 57)) (hl : ¬ (97 ≤ c ∧ c ≤ 122)) (h0 : c ≠ 0) : f_Tape_atSign T (nI c) = some (if hv b n (k_sp b n p) = nI c then 1 else 0) ∧ (hv b n (k_sp b n p) = nI c → k_sp b n p < n ∧ k_end b n (k_sp b n p) = k_sp b n p + 1) := by
  obtain ⟨p1, p2, p3, p4, p5, p6, p7, p8, t4, t3, t5, t6, t7, t8⟩ := h
  obtain ⟨x, hx, hx1, hx2, hx3⟩ := hv_31 (b := b) (n := n) (s := k_sp b n p) hb
  have e1 : (nI x = nI c) = (x = c) := nI_eqP (by omega) (by omega)
  unfold f_Tape_atSign
  rw [hx1, t3]
  simp only [e1]
  rcases sp_tok (b := b) p1 with ⟨k1, k2, k3⟩ | ⟨k1, k2, k3, k4⟩ | ⟨k1, k2, k3, k4, k5⟩ | ⟨k1, k2, k3, k4, k5⟩
  · have hxc : ¬ x = c := by have := hx3 (by omega); omega
    rw [k1, if_pos (by decide), if_neg hxc, zb_0]
    exact ⟨rfl, fun h => absurd h hxc⟩
  · have hxc : ¬ x = c := fun h => hd (by rw [← h, hx2 k2]; exact k3)
    rw [k1, if_pos (by decide), if_neg hxc, zb_0]
    exact ⟨rfl, fun h => absurd h hxc⟩
  · have hxc : ¬ x = c := fun h => hl (by rw [← h, hx2 k2]; exact k4)
    rw [k1, if_pos (by decide), if_neg hxc, zb_0]
    exact ⟨rfl, fun h => absurd h hxc⟩
  · have hbx := hb (k_sp b n p)
    have e2 : (nI (b (k_sp b n p)) = nI c) = (b (k_sp b n p) = c) := nI_eqP (by omega) (by omega)
    rw [k1, if_neg (by decide), t7 k1]
    simp only [ne_eq, e2]
    rw [hx2 k2]
    refine ⟨?_, fun _ => ⟨k2, k5⟩⟩
    by_cases cc : b (k_sp b n p) = c
    · rw [if_neg (fun h => h cc), if_pos cc, zb_1]
    · rw [if_pos cc, if_neg cc, zb_0]
/-- a sign that is due, both -/
theorem sign_bothQ {b : Nat → Nat} {n p w : Nat} {A T M : Nat → Nat → Int32} (hX : TXt b n A) (h : OSt b n p T w M) {c : Nat} (hc : c < 256) (hd : ¬ (48 ≤ c ∧ c ≤ 57)) (hl : ¬ (97 ≤ c ∧ c ≤ 122)) (h0 : c ≠ 0) :
    (∃ T' w' M' p', f_Tape_pass T w (nI c) = some (1, T', w') ∧ f_M_sign A M (nI c) = some M' ∧ OSt b n p' T' w' M' ∧ p < p' ∧ TNr T T' ∧ MNr M M') ∨
    (∃ T' M', f_Tape_pass T w (nI c) = some (0, T', w) ∧ f_M_sign A M (nI c) = some M' ∧ FSt n T' M' ∧ TNr T T' ∧ MNr M M' ∧ ∃ q, q ≤ n ∧ M' 0 4 = nI q) := by
  obtain ⟨a1, a2⟩ := atSign_is hX.1 h hc hd hl h0
  have hs := h.s
  obtain ⟨s1, s2⟩ := sp_le (b := b) h.1
  unfold f_Tape_pass f_M_sign
  rw [h.f.1, h.f.2, obs, obs, if_pos rfl, if_neg (by decide), a1, obs, M_here hX h.1 h.2.1 h.2.2.1, obs]
  by_cases c1 : hv b n (k_sp b n p) = nI c
  · obtain ⟨g1, g2⟩ := a2 c1
    obtain ⟨T', w', b1, b2, b3⟩ := h.adv (M' := u2 M 0 4 (nI (k_sp b n p + 1))) hX (by omega) (by rw [u2_col _ _ (by decide), h.2.1]) (by rw [u2_same, g2]) (by rw [u2_col _ _ (by decide), h.2.2.2.1])
    rw [g2] at b2
    refine Or.inl ⟨T', w', u2 M 0 4 (nI (k_sp b n p + 1)), k_sp b n p + 1, ?_, ?_, b2, by omega, b3, MNr.at _ _⟩
    · rw [if_pos c1, if_pos (by decide), b1, obs, zb_1]
    · show ((if hv b n (k_sp b n p) = nI c then some (u2 M 0 4 (nI (k_sp b n p))) else _).bind _) = _
      rw [if_pos c1, obs, hs.f.2, obs, if_neg (by decide), u2_same, u2_u2, ← nI_succ]
  · obtain ⟨T', M', f1, f2, f3, f4, f5, f6⟩ := fail_bothQ h 1 (by omega) (by omega) (MNr.at M (nI (k_sp b n p))) (by rw [u2_col _ _ (by decide), h.2.2.2.1])
    refine Or.inr ⟨T', M', ?_, ?_, f3, f4, f5, k_sp b n p, s2, by rw [f6, u2_same]⟩
    · rw [if_neg c1, if_neg (fun h => h rfl)]
      have f1 : f_Tape_fail T 1 = some T' := f1
      rw [f1, obs, zb_0]
    · have f2 : f_M_wrong (u2 M 0 4 (nI (k_sp b n p))) 1 (nI (k_sp b n p)) = some M' := f2
      show ((if hv b n (k_sp b n p) = nI c then some (u2 M 0 4 (nI (k_sp b n p))) else (f_M_wrong (u2 M 0 4 (nI (k_sp b n p))) 1 ((u2 M 0 4 (nI (k_sp b n p))) 0 4)).bind fun MN_4 => some MN_4).bind _) = _
      rw [if_neg c1, u2_same, f2, obs, obs, (f3.f hX.2.1).2, obs, if_pos rfl]
theorem sign_both {b : Nat → Nat} {n p w : Nat} {A T M : Nat → Nat → Int32} (hX : TXt b n A) (h : OSt b n p T w M) {c : Nat} (hc : c < 256) (hd : ¬ (48 ≤ c ∧ c ≤ 57)) (hl : ¬ (97 ≤ c ∧ c ≤ 122)) (h0 : c ≠ 0) :
    (∃ T' w' M' p', f_Tape_pass T w (nI c) = some (1, T', w') ∧ f_M_sign A M (nI c) = some M' ∧ OSt b n p' T' w' M' ∧ p < p' ∧ TNr T T' ∧ MNr M M') ∨
    (∃ T' M', f_Tape_pass T w (nI c) = some (0, T', w) ∧ f_M_sign A M (nI c) = some M' ∧ FSt n T' M' ∧ TNr T T' ∧ MNr M M') := by
  rcases sign_bothQ hX h hc hd hl h0 with x | ⟨T', M', a1, a2, a3, a4, a5, _⟩
  · exact Or.inl x
  · exact Or.inr ⟨T', M', a1, a2, a3, a4, a5⟩
theorem sign_fail {n w : Nat} {A T M : Nat → Nat → Int32} (hn : n ≤ 600) (h : FSt n T M) (c : Int32) : f_Tape_pass T w c = some (0, T, w) ∧ f_M_sign A M c = some M := by
  unfold f_Tape_pass f_M_sign
  rw [(h.f hn).1, (h.f hn).2]
  constructor
  · rw [obs, if_neg (by decide), zb_0]
  · rw [obs, if_pos rfl, obs, (h.f hn).2, obs, if_pos rfl]
/-- is there more: both -/
theorem more_both {b : Nat → Nat} {n p w : Nat} {A T M : Nat → Nat → Int32} (hX : TXt b n A) (h : OSt b n p T w M) : f_Tape_atEnd T = some (if k_sp b n p < n then 0 else 1) ∧ f_M_isMore A M = some (if k_sp b n p < n then 1 else 0, u2 M 0 4 (nI (k_sp b n p))) := by
  obtain ⟨p1, p2, p3, p4, p5, p6, p7, p8, t4, t3, t5, t6, t7, t8⟩ := h
  obtain ⟨s1, s2⟩ := sp_le (b := b) p1
  have hn := hX.2.1
  unfold f_Tape_atEnd f_M_isMore
  rw [M_here hX p1 p2 p3, obs, t3]
  show _ ∧ (if (u2 M 0 4 (nI (k_sp b n p))) 0 3 ≤ (u2 M 0 4 (nI (k_sp b n p))) 0 4 then _ else _) = _
  rw [u2_same, u2_col _ _ (by decide), p2]
  rcases sp_tok (b := b) p1 with ⟨k1, k2, k3⟩ | ⟨k1, k2, _⟩ | ⟨k1, k2, _⟩ | ⟨k1, k2, _⟩
  · rw [k1, if_neg (fun h => h rfl), if_neg (show ¬ k_sp b n p < n by omega), if_pos (nI_le (by omega) (by omega)), if_neg (show ¬ k_sp b n p < n by omega), zb_0, zb_1]
    exact ⟨rfl, rfl⟩
  all_goals
    rw [k1, if_pos (by decide), if_pos k2, if_neg (nI_ge k2 (by omega)), if_pos k2, zb_0, zb_1]
    exact ⟨rfl, rfl⟩
