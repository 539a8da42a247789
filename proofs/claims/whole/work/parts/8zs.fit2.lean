/-! PURE MATH: what stays is lawful, fits in, costs: the reference -/
theorem clash_0w (C : CS) (q : Nat → Nat) (x k : Nat) : s_clash C q x k = 0 ↔ ((s_last C x k = 0 ∧ ¬ (s_held C (k % 3) (C 0 4)).testBit (k / 3) = true) ∧ ∀ o, o < C 0 3 → ¬ s_way C q x k o) := by
  unfold s_clash
  rw [or_eq0, or_eq0, or_eq0, s_or_0 _ (by decide), s_or_0 _ (by decide)]
  constructor
  · rintro ⟨⟨⟨h1, h2⟩, h3⟩, h4⟩
    refine ⟨⟨h1, fun h => ?_⟩, fun o ho h => ?_⟩
    · rw [if_pos h] at h2; cases h2
    · rcases h with h | h
      · exact h3 o ho h
      · exact h4 o ho h
  · rintro ⟨⟨h1, h2⟩, h3⟩
    exact ⟨⟨⟨h1, if_neg h2⟩, fun o ho h => h3 o ho (Or.inl h)⟩, fun o ho h => h3 o ho (Or.inr h)⟩
theorem clash_mono {C : CS} {q q' : Nat → Nat} (h : ∀ x, x < C 0 3 → q x ≠ 0 → q' x = q x) {x k : Nat} (hc : s_clash C q' x k = 0) : s_clash C q x k = 0 := by
  rw [clash_0w] at hc ⊢
  refine ⟨hc.1, fun o ho hw => hc.2 o ho ?_⟩
  rcases hw with ⟨h1, h2, h3, h4⟩ | ⟨h1, h2⟩
  · exact Or.inl ⟨h1, by rw [h o ho h2]; exact h2, by rw [h o ho h2]; exact h3, h4⟩
  · exact Or.inr ⟨h1, by rw [h o ho (by omega)]; exact h2⟩
theorem clash_own (C : CS) (q : Nat → Nat) (m z k : Nat) : (s_clash C (pu q m z) m k = 0) = (s_clash C q m k = 0) := by
  apply propext
  rw [clash_0w, clash_0w]
  constructor
  · rintro ⟨h1, h2⟩
    refine ⟨h1, fun o ho hw => h2 o ho ?_⟩
    rcases hw with ⟨a1, a2⟩ | ⟨a1, a2⟩
    · exact Or.inl ⟨a1, by rw [pu_ne _ a1]; exact a2⟩
    · exact Or.inr ⟨a1, by rw [pu_ne _ a1]; exact a2⟩
  · rintro ⟨h1, h2⟩
    refine ⟨h1, fun o ho hw => h2 o ho ?_⟩
    rcases hw with ⟨a1, a2⟩ | ⟨a1, a2⟩
    · exact Or.inl ⟨a1, by rw [pu_ne _ a1] at a2; exact a2⟩
    · exact Or.inr ⟨a1, by rw [pu_ne _ a1] at a2; exact a2⟩
theorem os_nodup (w : Nat) : ∀ t a, (s_os w t a).Nodup := by
  intro t
  induction t with
  | zero => intro a; exact List.nodup_nil
  | succ t ih =>
    intro a
    by_cases h : w.testBit a = true
    · rw [os_hit h, List.nodup_cons]
      exact ⟨fun hm => by have := (os_mem w t (a + 1) a).mp hm; omega, ih (a + 1)⟩
    · rw [os_miss h]; exact ih (a + 1)
/-- where all find a place, each has one free at the start -/
theorem seek_free {C : CS} : ∀ os q q', os.Nodup → (∀ o, o ∈ os → q o = 0) → s_seek C os q = some q' → ∀ o, o ∈ os → ∃ k, s_fr C q o k ∧ k + 1 ≠ C 15 o := by
  intro os
  induction os with
  | nil => intro q q' _ _ _ o ho; cases ho
  | cons o1 os ih =>
    intro q q' hnd hz hs o ho
    rw [List.nodup_cons] at hnd
    have hs : s_try (fun k => s_fr C q o1 k ∧ k + 1 ≠ C 15 o1) (fun k => s_seek C os (pu q o1 (k + 1))) 30 0 = some q' := hs
    rcases try_is (fun k => s_fr C q o1 k ∧ k + 1 ≠ C 15 o1) (fun k => s_seek C os (pu q o1 (k + 1))) 30 0 with ⟨h1, _⟩ | ⟨k, a, _, _, h3, h4, _, _⟩
    · rw [h1] at hs; cases hs
    · rcases List.mem_cons.mp ho with rfl | ho
      · exact ⟨k, h3⟩
      · have hne : ∀ x, x ∈ os → x ≠ o1 := fun x hx e => hnd.1 (e ▸ hx)
        obtain ⟨k', ⟨f1, f2, f3⟩, f4⟩ := ih (pu q o1 (k + 1)) a hnd.2 (fun x hx => by rw [pu_ne _ (hne x hx)]; exact hz x (List.mem_cons_of_mem _ hx)) h4 o ho
        refine ⟨k', ⟨f1, f2, clash_mono (fun x _ hx => pu_ne _ (fun e => hx ?_)) f3⟩, f4⟩
        rw [e]; exact hz o1 List.mem_cons_self
/-- the plan, the asked one and a set being away -/
def s_aw (C : CS) (j w : Nat) : Nat → Nat := fun x => if x = j ∨ w.testBit x = true then 0 else C 15 x
theorem aw_ok {C : CS} (hW : WFC C) (hP : WFP C) (j w : Nat) : (∀ x, s_aw C j w x ≤ 30) ∧ ∀ x, x < C 0 3 → okP C (s_aw C j w x) := by
  refine ⟨fun x => ?_, fun x hx => ?_⟩
  · unfold s_aw
    split
    · omega
    · exact hW.plan x
  · unfold s_aw
    split
    · exact ⟨by omega, fun h => absurd rfl h⟩
    · exact hP.1 x hx
theorem M_stay {C : CS} {A : Nat → Nat → Int32} (MS : Nat → Nat → Int32) (hW : WFC C) (hP : WFP C) (hM : RMo C A) {j w : Nat} (hj : j < C 0 3) (hw : w < 2 ^ 31) : ∃ M', f_M_stay A MS (nI w) (nI j) = some (s_law C (s_aw C j w), M') ∧ (∀ x, x < C 0 3 → M' 4 x = oI (s_aw C j w x)) ∧ ∀ k i, k ≠ 4 → M' k i = MS k i := by
  have hN := hW.2.2.2.1
  have n3 : A 0 26 = nI (C 0 3) := hM.n (j := 3) (by omega)
  unfold f_M_stay
  have e := loop_rel (body := fun q : Int32 × (Nat → Nat → Int32) => f_M_stay_l2 A (nI j) (nI w) q.1 q.2) (C 0 3) (fun i s => s.1 = nI i ∧ (∀ x, x < i → s.2 4 x = oI (s_aw C j w x)) ∧ ∀ k i, k ≠ 4 → s.2 k i = MS k i) (fun M' => (∀ x, x < C 0 3 → M' 4 x = oI (s_aw C j w x)) ∧ ∀ k i, k ≠ 4 → M' k i = MS k i) (by omega)
    (fun i s hi hs => by
      obtain ⟨v, M⟩ := s
      obtain ⟨s1, s2, s3⟩ := hs
      have s1 : v = nI i := s1
      have s2 : ∀ x, x < i → M 4 x = oI (s_aw C j w x) := s2
      subst s1
      obtain ⟨q1, q2⟩ := bitq (x := w) (j := i) hw (by omega)
      have ra : rdx (A 7) 10 (nI i) = some (oI (C 15 i)) := by rw [rdx_nI (by omega) (by omega), hM.here hi]
      have ev : ((((((if nI i = nI j then some (.inl ()) else if (a_shr (nI w) (nI i) &&& 1) ≠ 1 then (rdx (A 7) 10 (nI i)).bind fun x3 => some (.inr x3) else some (.inl ())) : Option (Unit ⊕ Int32))).bind fun b4 => sumE b4 (fun _ => some (-1)) (fun q => some q)) : Option Int32)) = some (oI (s_aw C j w i)) := by
        simp only [nI_eqP (show i < 2 ^ 31 by omega) (show j < 2 ^ 31 by omega), ne_eq, q2, ra]
        unfold s_aw
        by_cases c1 : i = j
        · rw [if_pos c1, if_pos (Or.inl c1), obs, se_l, oI_0]
        · by_cases c2 : w.testBit i = true
          · rw [if_neg c1, if_neg (fun h => h c2), if_pos (Or.inr c2), obs, se_l, oI_0]
          · rw [if_neg c1, if_pos c2, if_neg (fun h => h.elim c1 c2), obs, obs, se_r]
      show ∃ s', f_M_stay_l2 A (nI j) (nI w) (nI i) M = _ ∧ _
      unfold f_M_stay_l2
      rw [n3, if_neg (nI_ge hi (by omega)), ev, obs, ixx_nI (by omega) (by omega), obs]
      refine ⟨_, rfl, (nI_succ i).symm, fun x hx => ?_, fun k' i' hk' => ?_⟩
      · show u2 M 4 i _ 4 x = _
        by_cases hxi : x = i
        · subst hxi; rw [u2_same]
        · rw [u2_col _ _ hxi]; exact s2 x (by omega)
      · show u2 M 4 i _ k' i' = _
        rw [u2_row _ _ hk']; exact s3 k' i' hk')
    (fun s hs => by
      obtain ⟨v, M⟩ := s
      obtain ⟨s1, s2, s3⟩ := hs
      have s1 : v = nI (C 0 3) := s1
      subst s1
      show ∃ b, f_M_stay_l2 A (nI j) (nI w) (nI (C 0 3)) M = _ ∧ _
      unfold f_M_stay_l2
      rw [n3, if_pos (nI_le (Nat.le_refl _) (by omega))]
      exact ⟨_, rfl, s2, s3⟩)
    (0, MS) ⟨rfl, fun x hx => by omega, fun _ _ _ => rfl⟩
  obtain ⟨M', e1, e2, e3⟩ := e
  obtain ⟨a1, a2⟩ := aw_ok hW hP j w
  rw [e1, obs, M_isLawful hW hM (w := M' 4) e2 a1 a2, obs]
  exact ⟨M', congrArg some (Prod.ext (law_zb C _) rfl), e2, e3⟩
/-- the whole search: the asked one in place k, a set moving -/
def s_fit (C : CS) (j w k : Nat) : Option (Nat → Nat) := if bs (s_bad C (s_aw C j w)) (C 0 3) = 0 ∧ s_clash C (s_aw C j w) j k = 0 then s_seek C (s_os w (C 0 3) 0) (pu (s_aw C j w) j (k + 1)) else none
theorem M_fitsIn {C : CS} {A : Nat → Nat → Int32} (MS : Nat → Nat → Int32) (hW : WFC C) (hP : WFP C) (hM : RMo C A) {j w k : Nat} (hj : j < C 0 3) (hw : w < 2 ^ 31) (hwj : ¬ w.testBit j = true) (hk : k < 30) (hr : k % 3 < C 0 1) :
    ∃ M', f_M_fitsIn A MS (nI j) (nI k) (nI w) = some (sB (s_fit C j w k), M') ∧ (∀ q', s_fit C j w k = some q' → ∀ x, x < C 0 3 → M' 4 x = oI (q' x)) ∧ ∀ a b, a ≠ 4 → M' a b = MS a b := by
  have hN := hW.2.2.2.1
  obtain ⟨a1, a2⟩ := aw_ok hW hP j w
  obtain ⟨M1, m1, m2, m3⟩ := M_stay MS hW hP hM hj hw
  unfold f_M_fitsIn s_fit
  rw [m1, obs]
  simp only [law_1]
  by_cases c1 : bs (s_bad C (s_aw C j w)) (C 0 3) = 0
  · rw [if_neg (fun h => h c1), M_clashOf hW hM (w := M1 4) m2 a1 hj hk hr, obs]
    by_cases c2 : s_clash C (s_aw C j w) j k = 0
    · rw [c2, if_pos (show nI 0 = 0 from rfl), ixx_nI (by omega) (by omega), obs, if_pos ⟨c1, rfl⟩]
      obtain ⟨M2, k1, k2, k3⟩ := M_places hW hM hw 12 0 (u2 M1 4 j (nI k)) (pu (s_aw C j w) j (k + 1)) (by omega) (by omega) (fun x hx => by
        by_cases hxj : x = j
        · subst hxj; rw [u2_same, pu_same, oI_s]
        · rw [u2_col _ _ hxj, pu_ne _ hxj, m2 x hx]) (pu_le a1 (by omega)) (fun o ho => by
        have ho := (os_mem w _ _ o).mp ho
        have hoj : o ≠ j := fun e => hwj (e ▸ ho.2.2)
        rw [pu_ne _ hoj]
        exact if_pos (Or.inr ho.2.2))
      rw [Nat.sub_zero] at k1 k2
      have k1 : f_grp_mp 12 0 A (u2 M1 4 j (nI k)) (nI w) 0 = _ := k1
      rw [k1, obs]
      refine ⟨M2, congrArg some (Prod.ext (sB_zb _) rfl), fun q' hq' x hx => ?_, fun a b h => by rw [k3 a b h, u2_row _ _ h, m3 a b h]⟩
      rw [k2 x hx, hq']
      rfl
    · rw [if_neg (show ¬ nI (s_clash C (s_aw C j w) j k) = 0 from fun h => by
        have hlt := s_clash_lt C (s_aw C j w) j k
        exact c2 ((na_eq (b := 0) (by omega) (by omega)).mp h)), if_neg (fun h => c2 h.2)]
      exact ⟨M1, congrArg some (Prod.ext zb_0 rfl), (fun q' h => by cases h), m3⟩
  · rw [if_pos c1, if_neg (fun h => c1 h.1)]
    exact ⟨M1, congrArg some (Prod.ext zb_0 rfl), (fun q' h => by cases h), m3⟩
/-- what moving one costs -/
def s_cost (C : CS) (m : Nat) : Nat := C 7 m + tsum (fun p => if (C 8 m).testBit p = true then C 2 p else 0) (C 0 2)
theorem WFC.ask {C : CS} (h : WFC C) (k : Nat) : C 2 k ≤ 9 := by
  obtain ⟨_, _, _, _, _, _, _, _, _, _, _, _, h, _⟩ := h
  exact h k
theorem WFC.weight {C : CS} (h : WFC C) (k : Nat) : C 7 k ≤ 99 := by
  obtain ⟨_, _, _, _, _, _, _, _, _, _, _, _, _, _, _, h, _⟩ := h
  exact h k
theorem cost_le {C : CS} (hW : WFC C) (m : Nat) : s_cost C m ≤ 171 := by
  have h1 := hW.weight m
  have h2 := tsum_le (fun p => if (C 8 m).testBit p = true then C 2 p else 0) 9 (C 0 2) (fun p => by
    show (if _ then C 2 p else 0) ≤ 9
    split
    · exact hW.ask p
    · omega)
  have h3 := hW.2.2.1
  unfold s_cost
  omega
theorem Y_costOf {C : CS} {H : Nat → Nat → Int32} (hW : WFC C) (hH : RH C H) {m : Nat} (hm : m < C 0 3) : f_House_costOf H (nI m) = some (nI (s_cost C m)) := by
  have hN := hW.2.2.2.1
  have hP8 := hW.2.2.1
  have h02 : H 0 2 = nI (C 0 2) := hH 0 2 (show 2 < 6 by omega)
  have r7 : rdx (H 7) 10 (nI m) = some (nI (C 7 m)) := by rw [rdx_nI (by omega) (by omega), hH 7 m hm]; rfl
  have z10 : ((1 : Int32) = 0) = False := by simp
  unfold f_House_costOf
  rw [r7, obs]
  have e := loop_S (body := fun q : Int32 × Int32 => f_House_costOf_l9 H (nI m) q.1 q.2) (C 0 2) (fun i => (nI (C 7 m + tsum (fun p => if (C 8 m).testBit p = true then C 2 p else 0) i), nI i)) (b := nI (s_cost C m)) 0 (by omega) (by omega)
    (fun i _ hi => by
      have r2 : rdx (H 2) 8 (nI i) = some (nI (C 2 i)) := by rw [rdx_nI (by omega) (by omega), hH 2 i hi]; rfl
      show f_House_costOf_l9 H (nI m) (nI _) (nI i) = _
      unfold f_House_costOf_l9
      rw [h02, if_neg (nI_ge hi (by omega)), Y_isMember hW hH hm (by omega), obs, r2, ← nI_succ]
      have w1 : tsum (fun p => if (C 8 m).testBit p = true then C 2 p else 0) (i + 1) = tsum (fun p => if (C 8 m).testBit p = true then C 2 p else 0) i + (if (C 8 m).testBit i = true then C 2 i else 0) := rfl
      rw [w1]
      by_cases c : (C 8 m).testBit i = true
      · rw [if_pos c, if_pos c, if_neg (by decide), obs, na_add, Nat.add_assoc]
      · rw [if_neg c, if_neg c, if_pos rfl]; rfl)
    (by
      show f_House_costOf_l9 H (nI m) (nI _) (nI (C 0 2)) = _
      unfold f_House_costOf_l9
      rw [h02, if_pos (nI_le (Nat.le_refl _) (by omega))]
      rfl)
  show (loopN _ a_F (nI (C 7 m + 0), nI 0)).bind _ = _
  have e : loopN (fun q : Int32 × Int32 => f_House_costOf_l9 H (nI m) q.1 q.2) a_F (nI (C 7 m + 0), nI 0) = _ := e
  rw [e, obs]
theorem M_costOf {C : CS} {A : Nat → Nat → Int32} (hW : WFC C) (hM : RMo C A) {m : Nat} (hm : m < C 0 3) : f_M_costOf A (nI m) = some (nI (s_cost C m)) := by
  have hN := hW.2.2.2.1
  have hP8 := hW.2.2.1
  have n2 : A 0 25 = nI (C 0 2) := hM.n (j := 2) (by omega)
  have r7 : rdx (A 5) 60 (6 * nI m + 1) = some (nI (C 7 m)) := by rw [show (1 : Int32) = nI 1 from rfl, ix6, rdx_nI (by omega) (by omega), hM.meet hm 1 (by omega)]; rfl
  unfold f_M_costOf
  rw [r7, obs]
  have e := loop_S (body := fun q : Int32 × Int32 => f_M_costOf_l14 A (nI m) q.1 q.2) (C 0 2) (fun i => (nI (C 7 m + tsum (fun p => if (C 8 m).testBit p = true then C 2 p else 0) i), nI i)) (b := nI (s_cost C m)) 0 (by omega) (by omega)
    (fun i _ hi => by
      obtain ⟨x, x1, x2⟩ := M_memb hW hM hm (p := i) (by omega)
      have r2 : rdx (A 4) 24 (3 * nI i) = some (nI (C 2 i)) := by
        rw [show (3 : Int32) * nI i = nI (3 * i) from na_mul 3 i, rdx_nI (by omega) (by omega), (hM.pers hi).1]
      show f_M_costOf_l14 A (nI m) (nI _) (nI i) = _
      unfold f_M_costOf_l14
      rw [n2, if_neg (nI_ge hi (by omega)), x1, obs, x2, r2, obs, ← nI_succ]
      have w1 : tsum (fun p => if (C 8 m).testBit p = true then C 2 p else 0) (i + 1) = tsum (fun p => if (C 8 m).testBit p = true then C 2 p else 0) i + (if (C 8 m).testBit i = true then C 2 i else 0) := rfl
      rw [w1]
      by_cases c : (C 8 m).testBit i = true
      · rw [if_pos c, if_pos c, if_neg (by decide), na_add, Nat.add_assoc]
      · rw [if_neg c, if_neg c, if_pos (by decide), Int32.add_zero]; rfl)
    (by
      show f_M_costOf_l14 A (nI m) (nI _) (nI (C 0 2)) = _
      unfold f_M_costOf_l14
      rw [n2, if_pos (nI_le (Nat.le_refl _) (by omega))]
      rfl)
  show (loopN _ a_F (nI (C 7 m + 0), nI 0)).bind _ = _
  have e : loopN (fun q : Int32 × Int32 => f_M_costOf_l14 A (nI m) q.1 q.2) a_F (nI (C 7 m + 0), nI 0) = _ := e
  rw [e, obs]
/-- what the first n of a set cost -/
abbrev s_ct (C : CS) (w m : Nat) : Nat := if w.testBit m = true then s_cost C m else 0
theorem M_costsOf {C : CS} {A : Nat → Nat → Int32} (hW : WFC C) (hM : RMo C A) {w : Nat} (hw : w < 2 ^ 31) : f_M_costsOf A (nI w) = some (nI (tsum (s_ct C w) (C 0 3))) := by
  have hN := hW.2.2.2.1
  have n3 : A 0 26 = nI (C 0 3) := hM.n (j := 3) (by omega)
  unfold f_M_costsOf
  have e := loop_S (body := fun q : Int32 × Int32 => f_M_costsOf_l4 A (nI w) q.1 q.2) (C 0 3) (fun i => (nI (tsum (s_ct C w) i), nI i)) (b := nI (tsum (s_ct C w) (C 0 3))) 0 (by omega) (by omega)
    (fun i _ hi => by
      obtain ⟨q1, q2⟩ := bitq (x := w) (j := i) hw (by omega)
      have w1 : tsum (s_ct C w) (i + 1) = tsum (s_ct C w) i + s_ct C w i := rfl
      show f_M_costsOf_l4 A (nI w) (nI _) (nI i) = _
      unfold f_M_costsOf_l4
      rw [n3, if_neg (nI_ge hi (by omega)), M_costOf hW hM hi, obs, w1, ← nI_succ]
      simp only [ne_eq, q2]
      by_cases c : w.testBit i = true
      · rw [if_neg (fun h => h c), na_add, show s_ct C w i = s_cost C i from if_pos c]
      · rw [if_pos c, Int32.add_zero, show s_ct C w i = 0 from if_neg c]; rfl)
    (by
      show f_M_costsOf_l4 A (nI w) (nI _) (nI (C 0 3)) = _
      unfold f_M_costsOf_l4
      rw [n3, if_pos (nI_le (Nat.le_refl _) (by omega))])
  show (loopN _ a_F (nI (tsum (s_ct C w) 0), nI 0)).bind _ = _
  rw [e, obs]
