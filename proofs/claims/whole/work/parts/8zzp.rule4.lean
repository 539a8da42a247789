/-! PURE MATH: a rule is read: its units -/
/-- the fact that a word names, and one; 0 of none -/
def fct (j : Nat) : Nat := [0, 10, 0, 0, 0, 0, 0, 0, 0, 0, 0, 0, 0, 1, 2, 3, 4, 5, 6, 7, 8, 9, 11].getD j 0
theorem W_slot : ∀ j, j < 23 → w_slot (2560 + j) = oI (fct j) ∧ fct j ≤ 11 := by decide +kernel
theorem tx6b : (tx 13).length ≤ 6 ∧ (tx 14).length ≤ 6 ∧ (tx 15).length ≤ 6 ∧ (tx 16).length ≤ 6 ∧ (tx 17).length ≤ 6 ∧ (tx 19).length ≤ 6 ∧ (tx 21).length ≤ 6 ∧ (tx 1).length ≤ 6 ∧ (tx 22).length ≤ 6 := by decide +kernel
/-- these strings are these words -/
def strW (sid j : Nat) : Prop := j < 23 ∧ isS sid ∧ s_len sid = nI (tx j).length ∧ ∀ i, i < (tx j).length → s_at sid (nI i) = some (nI ((tx j).getD i 0))
theorem str_ok : (isS 2660 ∧ a_sz (2660 + 64) = (tx 20).length ∧ isS 2661 ∧ a_sz (2661 + 64) = (tx 18).length) ∧ (∀ i, i < (tx 20).length → a_ca (2660 + 64) i = nI ((tx 20).getD i 0)) ∧ ∀ i, i < (tx 18).length → a_ca (2661 + 64) i = nI ((tx 18).getD i 0) := by decide +kernel
theorem str20 : strW 2660 20 := by
  obtain ⟨⟨h1, h2, _, _⟩, h5, _⟩ := str_ok
  refine ⟨by omega, h1, ?_, fun i hi => ?_⟩
  · unfold s_len; rw [h2]; rfl
  · have h8 := (tx_ok 20 (by omega)).2.2.2.2.2
    unfold s_at; rw [h2, rdx_nI hi (by omega), h5 i hi]
theorem str18 : strW 2661 18 := by
  obtain ⟨⟨_, _, h1, h2⟩, _, h5⟩ := str_ok
  refine ⟨by omega, h1, ?_, fun i hi => ?_⟩
  · unfold s_len; rw [h2]; rfl
  · have h8 := (tx_ok 18 (by omega)).2.2.2.2.2
    unfold s_at; rw [h2, rdx_nI hi (by omega), h5 i hi]
theorem M_stands {b : Nat → Nat} {A M : Nat → Nat → Int32} {n p sid j : Nat} (hX : TXt b n A) (hp : p ≤ n) (h3 : M 0 3 = nI n) (h4 : M 0 4 = nI p) (hs : strW sid j) : ∃ v, f_M_stands A M sid = some (v, u2 M 0 4 (nI (k_sp b n p))) ∧ ((v = 0) = ¬ WM b (k_sp b n p) (k_lt b n (k_sp b n p)) j) := by
  obtain ⟨hj, i1, i2, i3⟩ := hs
  have h8 := (tx_ok j hj).2.2.2.2.2
  have hl1 := (tx_ok j hj).2.2.2.2.1
  unfold f_M_stands
  rw [M_here hX hp h3 h4, obs]
  obtain ⟨hb, hn, hA⟩ := hX
  obtain ⟨s1, s2⟩ := sp_le (b := b) hp
  generalize k_sp b n p = s at s1 s2 ⊢
  obtain ⟨l1, l2⟩ := lt_le (b := b) (n := n) s2
  have e := loop_first (body := fun q => f_M_stands_l12 A sid (u2 M 0 4 (nI s)) q) (tx j).length (fun i => ¬ (s + i < n ∧ b (s + i) = (tx j).getD i 0)) (fun _ => ((0 : Int32), u2 M 0 4 (nI s))) (by omega)
    (fun i hi hp' => by
      show f_M_stands_l12 A sid (u2 M 0 4 (nI s)) (nI i) = _
      unfold f_M_stands_l12
      rw [if_pos i1, i2, if_neg (nI_ge hi (by omega)), u2_same, u2_col _ _ (by decide), h3, na_add]
      by_cases c : s + i < n
      · have hbx := hb (s + i)
        have htx := (tx_ch j hj i hi).2
        rw [if_neg (nI_ge c (by omega)), rdx_nI (by omega) (by omega), hA _ c, obs, if_pos i1, i3 i hi, obs, if_neg (fun g => hp' ⟨c, (na_eq (by omega) (by omega)).mp g⟩), zb_0]
      · rw [if_pos (nI_le (by omega) (by omega)), zb_0])
    (fun i hi hp' => by
      have hp' := Decidable.not_not.mp hp'
      show f_M_stands_l12 A sid (u2 M 0 4 (nI s)) (nI i) = _
      unfold f_M_stands_l12
      rw [if_pos i1, i2, if_neg (nI_ge hi (by omega)), u2_same, u2_col _ _ (by decide), h3, na_add, if_neg (nI_ge hp'.1 (by omega)), rdx_nI (by omega) (by omega), hA _ hp'.1, obs, if_pos i1, i3 i hi, obs, if_pos (by rw [hp'.2])])
    (by
      show f_M_stands_l12 A sid (u2 M 0 4 (nI s)) (nI (tx j).length) = _
      unfold f_M_stands_l12
      rw [if_pos i1, i2, if_pos (nI_le (Nat.le_refl _) (by omega))])
  dsimp only
  rw [e, obs]
  have hsome := s_first_some (p := fun i => ¬ (s + i < n ∧ b (s + i) = (tx j).getD i 0)) (tx j).length 0
  cases hs : s_first (fun i => ¬ (s + i < n ∧ b (s + i) = (tx j).getD i 0)) (tx j).length 0 with
  | some i =>
    rw [hs] at hsome
    obtain ⟨k, _, k2, k3⟩ := hsome.mp rfl
    refine ⟨0, rfl, propext ⟨fun _ hm => k3 ?_, fun _ => rfl⟩⟩
    exact ⟨by have := hm.1; omega, hm.2 k (by omega)⟩
  | none =>
    rw [hs] at hsome
    have hall : ∀ i, i < (tx j).length → s + i < n ∧ b (s + i) = (tx j).getD i 0 := fun i hi => Decidable.byContradiction (fun g => by
      have := hsome.mpr ⟨i, Nat.zero_le _, by omega, g⟩
      cases this)
    have hlast := (hall ((tx j).length - 1) (by omega)).1
    have hge : s + (tx j).length ≤ k_lt b n s := by
      obtain ⟨r1, r2, r3, r4⟩ := run_is (q_lt b) (n - s) s
      by_cases g : s + (tx j).length ≤ k_lt b n s
      · exact g
      · exfalso
        have hlt : k_lt b n s < s + (n - s) := by omega
        have hr4 : ¬ q_lt b (k_lt b n s) := r4 hlt
        obtain ⟨g1, g2⟩ := hall (k_lt b n s - s) (by omega)
        rw [show s + (k_lt b n s - s) = k_lt b n s from by omega] at g2
        have := (tx_ch j hj (k_lt b n s - s) (by omega)).2
        exact hr4 ⟨by omega, by omega⟩
    show ∃ v, (if isS sid then if (u2 M 0 4 (nI s)) 0 3 ≤ (u2 M 0 4 (nI s)) 0 4 + s_len sid then some (zb 1, u2 M 0 4 (nI s)) else if isS sid then (rdx (A 2) 600 ((u2 M 0 4 (nI s)) 0 4 + s_len sid)).bind fun x7 => (f_M_isSmall x7).bind fun x8 => if x8 ≠ 0 then some (zb 0, u2 M 0 4 (nI s)) else some (zb 1, u2 M 0 4 (nI s)) else none else none) = _ ∧ _
    rw [if_pos i1, u2_same, u2_col _ _ (by decide), h3, i2, na_add]
    by_cases c : s + (tx j).length < n
    · rw [if_neg (nI_ge c (by omega)), if_pos i1, rdx_nI (by omega) (by omega), hA _ c, obs, M_isSml (hb _), obs]
      by_cases cl : 97 ≤ b (s + (tx j).length) ∧ b (s + (tx j).length) ≤ 122
      · rw [if_pos cl, if_pos (by decide), zb_0]
        refine ⟨0, rfl, propext ⟨fun _ hm => ?_, fun _ => rfl⟩⟩
        obtain ⟨r1, r2, r3, r4⟩ := run_is (q_lt b) (n - s) s
        have hr4 : k_lt b n s < s + (n - s) → ¬ q_lt b (k_lt b n s) := r4
        have h1 := hm.1
        exact hr4 (by omega) (by rw [h1]; exact cl)
      · rw [if_neg cl, if_neg (fun h => h rfl), zb_1]
        refine ⟨1, rfl, propext ⟨fun g => absurd g (by decide), fun g => absurd ⟨?_, fun i hi => (hall i hi).2⟩ g⟩⟩
        obtain ⟨r1, r2, r3, r4⟩ := run_is (q_lt b) (n - s) s
        have r3 : ∀ i, s ≤ i → i < k_lt b n s → q_lt b i := r3
        by_cases g1 : s + (tx j).length < k_lt b n s
        · exact absurd (r3 _ (by omega) g1) cl
        · omega
    · rw [if_pos (nI_le (by omega) (by omega)), zb_1]
      exact ⟨1, rfl, propext ⟨fun g => absurd g (by decide), fun g => absurd ⟨by omega, fun i hi => (hall i hi).2⟩ g⟩⟩
theorem M_factHere {b : Nat → Nat} {A M : Nat → Nat → Int32} {n p j : Nat} (hX : TXt b n A) (hp : p ≤ n) (h3 : M 0 3 = nI n) (h4 : M 0 4 = nI p) (hm : j < 23 → WM b (k_sp b n p) (k_lt b n (k_sp b n p)) j) (hno : 23 ≤ j → ∀ k, k < 23 → ¬ WM b (k_sp b n p) (k_lt b n (k_sp b n p)) k) (hc : ∀ k, k < 23 → (tx k).length ≤ 6 → ((nI (q_cd b (k_sp b n p) (k_lt b n (k_sp b n p))) = nI (cdT k)) = (j = k))) : f_M_factHere A M = some (oI (fct j), u2 M 0 4 (nI (k_sp b n p))) := by
  obtain ⟨s1, s2⟩ := sp_le (b := b) hp
  have hw : ∀ k, k < 23 → (WM b (k_sp b n p) (k_lt b n (k_sp b n p)) k) = (j = k) := fun k hk => propext ⟨fun g => by
    by_cases hj : j < 23
    · exact WM.uniq hj hk (hm hj) g
    · exact absurd g (hno (by omega) k hk), fun g => by subst g; exact hm hk⟩
  have e3 : (u2 M 0 4 (nI (k_sp b n p))) 0 3 = nI n := by rw [u2_col _ _ (by decide), h3]
  obtain ⟨v1, a1, a2⟩ := M_stands (M := u2 M 0 4 (nI (k_sp b n p))) hX s2 e3 (u2_same _ _ _ _) str20
  obtain ⟨v2, b1, b2⟩ := M_stands (M := u2 M 0 4 (nI (k_sp b n p))) hX s2 e3 (u2_same _ _ _ _) str18
  rw [sp_sp hp, u2_u2] at a1 b1
  rw [sp_sp hp] at a2 b2
  rw [hw 20 (by omega)] at a2
  rw [hw 18 (by omega)] at b2
  obtain ⟨f13, f14, f15, f16, f17, f19, f21, f22⟩ := M_ofs2
  obtain ⟨_, _, _, _, f1, _⟩ := M_ofs
  obtain ⟨l13, l14, l15, l16, l17, l19, l21, l1, l22⟩ := tx6b
  have z1 : oI 8 = 7 := by decide
  have z2 : oI 6 = 5 := by decide
  unfold f_M_factHere
  rw [M_word hX hp h3 h4, obs]
  dsimp only
  rw [a1, obs]
  simp only [a2, b1, b2, obs, f13, f14, f15, f16, f17, f19, f21, f22, f1, ne_eq, hc 13 (by omega) l13, hc 14 (by omega) l14, hc 15 (by omega) l15, hc 16 (by omega) l16, hc 17 (by omega) l17, hc 19 (by omega) l19, hc 21 (by omega) l21, hc 1 (by omega) l1, hc 22 (by omega) l22]
  by_cases j20 : j = 20
  · rw [if_neg (fun g => g j20), j20]; rfl
  · rw [if_pos j20]
    by_cases j18 : j = 18
    · rw [if_neg (fun g => g j18), j18]; rfl
    · rw [if_pos j18]
      by_cases j13 : j = 13
      · rw [if_neg (fun g => g j13), j13]; rfl
      · rw [if_pos j13]
        by_cases j14 : j = 14
        · rw [if_neg (fun g => g j14), j14]; rfl
        · rw [if_pos j14]
          by_cases j15 : j = 15
          · rw [if_neg (fun g => g j15), j15]; rfl
          · rw [if_pos j15]
            by_cases j16 : j = 16
            · rw [if_neg (fun g => g j16), j16]; rfl
            · rw [if_pos j16]
              by_cases j17 : j = 17
              · rw [if_neg (fun g => g j17), j17]; rfl
              · rw [if_pos j17]
                by_cases j19 : j = 19
                · rw [if_neg (fun g => g j19), j19]; rfl
                · rw [if_pos j19]
                  by_cases j21 : j = 21
                  · rw [if_neg (fun g => g j21), j21]; rfl
                  · rw [if_pos j21]
                    by_cases j1 : j = 1
                    · rw [if_neg (fun g => g j1), j1]; rfl
                    · rw [if_pos j1]
                      by_cases j22 : j = 22
                      · rw [if_neg (fun g => g j22), j22]; rfl
                      · rw [if_pos j22]
                        have h0 : fct j = 0 := by
                          by_cases hj : j < 23
                          · have : ∀ j, j < 23 → (j = 20 ∨ j = 18 ∨ j = 13 ∨ j = 14 ∨ j = 15 ∨ j = 16 ∨ j = 17 ∨ j = 19 ∨ j = 21 ∨ j = 1 ∨ j = 22 ∨ fct j = 0) := by decide
                            have := this j hj
                            omega
                          · unfold fct
                            rw [List.getD_eq_getElem?_getD, List.getElem?_eq_none (by show 23 ≤ j; omega)]
                            rfl
                        rw [h0, oI_0]
