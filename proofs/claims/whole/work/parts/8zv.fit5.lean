/-! PURE MATH: the two searches, room by room -/
theorem seek_val {C : CS} : ∀ os q q', s_seek C os q = some q' → (∀ x, x ∉ os → q' x = q x) ∧ (∀ x, x ∈ os → q' x ≠ 0) ∧ ((∀ x, q x ≤ 30) → ∀ x, q' x ≤ 30) := by
  intro os
  induction os with
  | nil =>
    intro q q' h
    have h : some q = some q' := h
    cases h
    exact ⟨fun _ _ => rfl, (fun x hx => by cases hx), fun h => h⟩
  | cons o os ih =>
    intro q q' h
    have h : s_try (fun k => s_fr C q o k ∧ k + 1 ≠ C 15 o) (fun k => s_seek C os (pu q o (k + 1))) 30 0 = some q' := h
    rcases try_is (fun k => s_fr C q o k ∧ k + 1 ≠ C 15 o) (fun k => s_seek C os (pu q o (k + 1))) 30 0 with ⟨h1, _⟩ | ⟨k, a, _, hk, _, h4, _, h6⟩
    · rw [h1] at h; cases h
    · rw [h6] at h
      cases h
      obtain ⟨i1, i2, i3⟩ := ih _ _ h4
      refine ⟨fun x hx => ?_, fun x hx => ?_, fun hq => i3 (pu_le hq (by omega))⟩
      · rw [i1 x (fun h => hx (List.mem_cons_of_mem _ h)), pu_ne _ (fun e => hx (by rw [e]; exact List.mem_cons_self))]
      · by_cases hx2 : x ∈ os
        · exact i2 x hx2
        · have hxo : x = o := (List.mem_cons.mp hx).resolve_right hx2
          rw [i1 x hx2, hxo, pu_same]
          omega
theorem fit_S {C : CS} {j w k : Nat} (h : bs (s_bad C (s_aw C j w)) (C 0 3) = 0) : s_fit C j w k = s_fitS C j w k := by
  unfold s_fit s_fitS
  by_cases c : s_clash C (s_aw C j w) j k = 0
  · rw [if_pos ⟨h, c⟩, if_pos c]
  · rw [if_neg (fun h => c h.2), if_neg c]
theorem less_flag (x y : Int32) : ((((if x = -1 then some (.inl ()) else if x ≤ y then some (.inr 0) else some (.inl ())) : Option (Unit ⊕ Int32)).bind fun b => sumE b (fun _ => some 1) (fun q => some q)) : Option Int32) = some (if x = -1 ∨ ¬ x ≤ y then 1 else 0) := by
  by_cases h1 : x = -1
  · rw [if_pos h1, if_pos (Or.inl h1)]; rfl
  · rw [if_neg h1]
    by_cases h2 : x ≤ y
    · rw [if_pos h2, if_neg (fun h => h.elim h1 (fun h => h h2))]; rfl
    · rw [if_neg h2, if_pos (Or.inr h2)]; rfl
theorem less_val (x y : Int32) : ((((if x = -1 then some (.inl ()) else if x ≤ y then some (.inr x) else some (.inl ())) : Option (Unit ⊕ Int32)).bind fun b => sumE b (fun _ => some y) (fun q => some q)) : Option Int32) = some (if x = -1 ∨ ¬ x ≤ y then y else x) := by
  by_cases h1 : x = -1
  · rw [if_pos h1, if_pos (Or.inl h1)]; rfl
  · rw [if_neg h1]
    by_cases h2 : x ≤ y
    · rw [if_pos h2, if_neg (fun h => h.elim h1 (fun h => h h2))]; rfl
    · rw [if_neg h2, if_pos (Or.inr h2)]; rfl
/-- the class keeps where all go -/
theorem Y_keepGoal {B : Nat → Nat → Int32} : ∀ os i n F, LRo F i os → i + os.length ≤ 3 → (∀ o, o ∈ os → o < 10) → os.length < n →
    ∃ F', loopN (fun z : Int32 × (Nat → Nat → Int32) => f_Fitter_keepFewest_l38 B z.1 z.2) n (nI i, F) = some F' ∧ (∀ x, F' 2 x = if x ∈ os then B 1 x else F 2 x) ∧ ∀ a b, a ≠ 2 → F' a b = F a b := by
  intro os
  induction os with
  | nil =>
    intro i n F hL hi _ hn
    obtain ⟨n, rfl⟩ : ∃ k, n = k + 1 := ⟨n - 1, by omega⟩
    have hi : i ≤ 3 := hi
    have h6 : F 0 6 = nI i := hL
    refine ⟨F, loop_r ?_, fun x => by rw [if_neg (fun h => by cases h)], fun _ _ _ => rfl⟩
    show f_Fitter_keepFewest_l38 B (nI i) F = _
    unfold f_Fitter_keepFewest_l38
    rw [h6, if_pos (nI_le (Nat.le_refl _) (by omega))]
  | cons o os ih =>
    intro i n F hL hi ho hn
    rw [List.length_cons] at hi hn
    obtain ⟨n, rfl⟩ : ∃ k, n = k + 1 := ⟨n - 1, by omega⟩
    have hlen := hL.len
    rw [List.length_cons] at hlen
    have o1 := ho o List.mem_cons_self
    have e : (fun z : Int32 × (Nat → Nat → Int32) => f_Fitter_keepFewest_l38 B z.1 z.2) (nI i, F) = some (.inl (nI (i + 1), u2 F 2 o (B 1 o))) := by
      show f_Fitter_keepFewest_l38 B (nI i) F = _
      unfold f_Fitter_keepFewest_l38
      rw [hlen, if_neg (nI_ge (by omega) (by omega)), rdx_nI (by omega) (by omega), hL.1, obs, obs, rdx_nI o1 (by omega), obs, ixx_nI o1 (by omega), obs, ← nI_succ]
    rw [loop_l e]
    obtain ⟨F', f1, f2, f3⟩ := ih (i + 1) n (u2 F 2 o (B 1 o)) (hL.2.cg (fun b _ => u2_row _ _ (by decide)) (u2_row _ _ (by decide))) (by omega) (fun x hx => ho x (List.mem_cons_of_mem _ hx)) (by omega)
    refine ⟨F', f1, fun x => ?_, fun a b h => by rw [f3 a b h, u2_row _ _ h]⟩
    rw [f2 x]
    by_cases h1 : x ∈ os
    · rw [if_pos h1, if_pos (List.mem_cons_of_mem _ h1)]
    · rw [if_neg h1]
      by_cases h2 : x = o
      · subst h2; rw [u2_same, if_pos List.mem_cons_self]
      · rw [u2_col _ _ h2, if_neg (fun h => (List.mem_cons.mp h).elim h2 h1)]
theorem Y_keepFewest {B F : Nat → Nat → Int32} {os : List Nat} {j w : Nat} (hj : j < 10) (hL : LRo F 0 os) (h3 : os.length ≤ 3) (ho : ∀ o, o ∈ os → o < 10) :
    ∃ F', f_Fitter_keepFewest B F (nI j) (nI w) = some F' ∧ F' 0 8 = F 0 6 ∧ F' 0 9 = nI w ∧ (∀ x, x < 10 → F' 2 x = if x = j ∨ x ∈ os then B 1 x else -1) ∧ ∀ a b, a ≠ 2 → ¬ (a = 0 ∧ (b = 8 ∨ b = 9)) → F' a b = F a b := by
  unfold f_Fitter_keepFewest
  rw [rdx_nI hj (by omega), obs, ixx_nI hj (by omega), obs]
  generalize hG : (u2 (u1 (u2 (u2 F 0 8 (F 0 6)) 0 9 (nI w)) 2 (filM ((u2 (u2 F 0 8 (F 0 6)) 0 9 (nI w)) 2) 10 (-1))) 2 j (B 1 j)) = G
  have g2 : ∀ x, x < 10 → G 2 x = if x = j then B 1 j else -1 := fun x hx => by
    rw [← hG, u2_eq, u1_eq]
    by_cases h : x = j
    · rw [if_pos ⟨rfl, h⟩, if_pos h]
    · rw [if_neg (fun h2 => h h2.2), if_pos rfl, if_neg h]
      unfold filM
      rw [if_pos hx]
  have go : ∀ a b, a ≠ 2 → G a b = if a = 0 ∧ b = 9 then nI w else if a = 0 ∧ b = 8 then F 0 6 else F a b := fun a b h => by
    rw [← hG, u2_row _ _ h, u1_eq, if_neg h, u2_eq, u2_eq]
  have hLG : LRo G 0 os := hL.cg (fun b _ => by rw [go 4 b (by decide), if_neg (by omega), if_neg (by omega)]) (by rw [go 0 6 (by decide), if_neg (by omega), if_neg (by omega)])
  obtain ⟨F', f1, f2, f3⟩ := Y_keepGoal (B := B) os 0 a_F G hLG (by omega) ho (by unfold a_F; omega)
  have f1 : loopN (fun q : Int32 × (Nat → Nat → Int32) => f_Fitter_keepFewest_l38 B q.1 q.2) a_F (0, G) = some F' := f1
  rw [f1, obs]
  refine ⟨F', rfl, ?_, ?_, fun x hx => ?_, fun a b ha h => ?_⟩
  · rw [f3 0 8 (by decide), go 0 8 (by decide), if_neg (by omega), if_pos ⟨rfl, rfl⟩]
  · rw [f3 0 9 (by decide), go 0 9 (by decide), if_pos ⟨rfl, rfl⟩]
  · rw [f2 x, g2 x hx]
    by_cases h1 : x ∈ os
    · rw [if_pos h1, if_pos (Or.inr h1)]
    · rw [if_neg h1]
      by_cases h2 : x = j
      · rw [if_pos h2, if_pos (Or.inl h2), h2]
      · rw [if_neg h2, if_neg (fun h => h.elim h2 h1)]
  · rw [f3 a b ha, go a b ha, if_neg (by omega), if_neg (by omega)]
/-- who clashes where it is whoever else moves -/
abbrev s_stk (C : CS) (x : Nat) : Prop := C 15 x ≠ 0 ∧ ((s_held C ((C 15 x - 1) % 3) (C 0 4)).testBit ((C 15 x - 1) / 3) = true ∨ s_last C x (C 15 x - 1) ≠ 0)
/-- what the class's search knows throughout -/
def FB (C : CS) (F : Nat → Nat → Int32) : Prop := (∀ x, x < C 0 3 → F 1 x = oI (C 15 x)) ∧ (∀ x, x < C 0 3 → F 3 x = nI (bs (fun o => C 15 x ≠ 0 ∧ s_way C (C 15) x (C 15 x - 1) o) (C 0 3))) ∧ F 0 4 = nI (bs (s_stk C) (C 0 3))
theorem FB.cg {C : CS} {F F' : Nat → Nat → Int32} (h : FB C F) (h1 : ∀ b, F' 1 b = F 1 b) (h3 : ∀ b, F' 3 b = F 3 b) (h4 : F' 0 4 = F 0 4) : FB C F' := ⟨fun x hx => by rw [h1 x, h.1 x hx], fun x hx => by rw [h3 x, h.2.1 x hx], by rw [h4, h.2.2]⟩
/-- what both have found -/
def FQ (C : CS) (j t : Nat) (F M : Nat → Nat → Int32) : Prop := F 0 8 = M 0 45 ∧ F 0 10 = M 0 48 ∧ ((F 0 8 = -1 ∧ F 0 10 = -1 ∧ ∀ x, x < 10 → F 2 x = -1) ∨ ∃ w r q' c n, w < 2 ^ C 0 3 ∧ ¬ w.testBit j = true ∧ r < C 0 1 ∧ n ≤ 10 ∧ F 0 8 = nI n ∧ F 0 9 = nI w ∧ F 0 10 = nI c ∧ c < 2 ^ 31 ∧ M 0 46 = nI w ∧ M 0 47 = nI r ∧ s_fit C j w (3 * t + r) = some q' ∧ ∀ x, x < C 0 3 → F 2 x = if x = j ∨ w.testBit x = true then oI (q' x) else -1)
theorem FQ.cg {C : CS} {j t : Nat} {F M F' M' : Nat → Nat → Int32} (h : FQ C j t F M) (h0 : ∀ b, b = 8 ∨ b = 9 ∨ b = 10 → F' 0 b = F 0 b) (h2 : ∀ b, F' 2 b = F 2 b) (m0 : ∀ b, M' 0 b = M 0 b) : FQ C j t F' M' := by
  unfold FQ
  rw [h0 8 (by omega), h0 9 (by omega), h0 10 (by omega), m0 45, m0 46, m0 47, m0 48]
  obtain ⟨a, b, c⟩ := h
  refine ⟨a, b, ?_⟩
  rcases c with ⟨c1, c2, c3⟩ | ⟨w, r, q', c, n, c1, c2, c3, c4, c5, c6, c7, c8, c9, c10, c11, c12⟩
  · exact Or.inl ⟨c1, c2, fun x hx => by rw [h2 x, c3 x hx]⟩
  · exact Or.inr ⟨w, r, q', c, n, c1, c2, c3, c4, c5, c6, c7, c8, c9, c10, c11, fun x hx => by rw [h2 x, c12 x hx]⟩
/-- one room, both, all that stay being lawful -/
theorem room_both {C : CS} {H A B F M : Nat → Nat → Int32} {tm : Nat → Nat} (hW : WFC C) (hP : WFP C) (hH : RH C H) (hM : RMo C A) {j t w r cs : Nat} (hB : RB C (C 15) tm B) (hL : LRo F 0 (s_os w (C 0 3) 0)) (hF : FB C F) (hQ : FQ C j t F M) (hj : j < C 0 3) (ht : t < C 0 0) (hr : r < C 0 1) (hwN : w < 2 ^ C 0 3) (hwj : ¬ w.testBit j = true) (hw0 : ∀ x, w.testBit x = true → C 15 x ≠ 0) (h3 : pc w 10 ≤ 3) (hbad : bs (s_bad C (s_aw C j w)) (C 0 3) = 0) (hcs : cs ≤ 1000) (hcost : f_M_costsOf A (nI w) = some (nI cs)) :
    ∃ B' F' M', f_Fitter_tryRooms_l55 H (nI t) (nI j) (nI cs) (nI w) (nI r) B F = some (.inl (nI (r + 1), B', F')) ∧ f_M_findFit_l88 A (nI j) (nI t) (nI w) (nI (pc w 10)) (nI r) M = some (.inl (nI (r + 1), M')) ∧ RB C (C 15) tm B' ∧ LRo F' 0 (s_os w (C 0 3) 0) ∧ FB C F' ∧ FQ C j t F' M' := by
  have hN := hW.2.2.2.1
  have hR3 := hW.2.1
  have hT := hW.1.2
  have hpow : 2 ^ C 0 3 ≤ 1024 := Nat.le_trans (Nat.pow_le_pow_right (by omega) hN) (by decide : 2 ^ 10 ≤ 1024)
  have h01 : H 0 1 = nI (C 0 1) := hH 0 1 (show 1 < 6 by omega)
  have n1 : A 0 24 = nI (C 0 1) := hM.n (j := 1) (by omega)
  have hfix := hW.fixed j
  have hcj := cost_le hW j
  have hpj := hW.plan j
  have hk : 3 * t + r < 30 := by omega
  have hkr : (3 * t + r) % 3 < C 0 1 := by omega
  have hol : (s_os w (C 0 3) 0).length = pc w 10 := os_len hN hwN
  have rF : rdx (F 1) 10 (nI j) = some (oI (C 15 j)) := by rw [rdx_nI (by omega) (by omega), hF.1 j hj]
  have rA : rdx (A 7) 10 (nI j) = some (oI (C 15 j)) := by rw [rdx_nI (by omega) (by omega), hM.here hj]
  have hpl : (nI (3 * t + r) = oI (C 15 j)) = (3 * t + r + 1 = C 15 j) := propext (Iff.trans eq_comm ((oI_inj _ (by omega) _ hk).trans eq_comm))
  unfold f_Fitter_tryRooms_l55 f_M_findFit_l88 f_Y_placeOf
  rw [h01, n1, if_neg (nI_ge hr (by omega)), if_neg (nI_ge hr (by omega)), obs, Y_isFixed hW hH hj, obs, M_isFixed hW hM hj, obs, (pl_of t r).1, (pl_of t r).2, rF, rA, hcost]
  have hfz : (nI (C 10 j) = 0) = (C 10 j = 0) := nI_eqP (b := 0) (by omega) (by omega)
  simp only [obs, hpl, ne_eq, hfz]
  by_cases hsk : ¬ C 10 j = 0 ∧ ¬ 3 * t + r + 1 = C 15 j
  · rw [if_neg hsk.1, if_neg hsk.1, if_neg hsk.2, if_neg hsk.2, obs, obs, se_r, se_r, ← nI_succ]
    exact ⟨B, F, M, rfl, rfl, hB, hL, hF, hQ⟩
  · have eF : (if C 10 j = 0 then some (.inl ()) else if 3 * t + r + 1 = C 15 j then some (.inl ()) else some (.inr (.inl (nI r + 1, B, F))) : Option (Unit ⊕ ((Int32 × (Nat → Nat → Int32) × (Nat → Nat → Int32)) ⊕ ((Nat → Nat → Int32) × (Nat → Nat → Int32))))) = some (.inl ()) := by
      by_cases c : C 10 j = 0
      · rw [if_pos c]
      · rw [if_neg c, if_pos (Decidable.not_not.mp (fun h => hsk ⟨c, h⟩))]
    have eM : (if C 10 j = 0 then some (.inl ()) else if 3 * t + r + 1 = C 15 j then some (.inl ()) else some (.inr (.inl (nI r + 1, M))) : Option (Unit ⊕ ((Int32 × (Nat → Nat → Int32)) ⊕ (Nat → Nat → Int32)))) = some (.inl ()) := by
      by_cases c : C 10 j = 0
      · rw [if_pos c]
      · rw [if_neg c, if_pos (Decidable.not_not.mp (fun h => hsk ⟨c, h⟩))]
    rw [eF, eM, obs, obs, se_l, se_l]
    obtain ⟨co, hco, ev1, ev2⟩ : ∃ co, co < 2000 ∧ ((if ¬ 3 * t + r + 1 = C 15 j then (f_House_costOf H (nI j)).bind fun x20 => some (nI cs + x20) else some (nI cs) : Option Int32)) = some (nI co) ∧ ((if ¬ 3 * t + r + 1 = C 15 j then (f_M_costOf A (nI j)).bind fun x22 => some x22 else some 0 : Option Int32).bind fun v23 => some (nI cs + v23)) = some (nI co) := by
      by_cases c : 3 * t + r + 1 = C 15 j
      · refine ⟨cs, by omega, by rw [if_neg (fun h => h c)], ?_⟩
        rw [if_neg (fun h => h c), obs, Int32.add_zero]
      · refine ⟨cs + s_cost C j, by omega, by rw [if_pos c, Y_costOf hW hH hj, obs, na_add], ?_⟩
        rw [if_pos c, M_costOf hW hM hj, obs, obs, na_add]
    obtain ⟨v23, ev3, ev4⟩ : ∃ v23, (if ¬ 3 * t + r + 1 = C 15 j then (f_M_costOf A (nI j)).bind fun x22 => some x22 else some 0 : Option Int32) = some v23 ∧ nI cs + v23 = nI co := by
      cases h : (if ¬ 3 * t + r + 1 = C 15 j then (f_M_costOf A (nI j)).bind fun x22 => some x22 else some 0 : Option Int32) with
      | none => rw [h] at ev2; cases ev2
      | some v => rw [h] at ev2; exact ⟨v, rfl, Option.some.inj ev2⟩
    have h6 : F 0 6 = nI (pc w 10) := by rw [hL.len, Nat.zero_add, hol]
    have q45 := hQ.1
    have q48 := hQ.2.1
    rw [ev1, ev3, obs, obs]
    simp only [ev4]
    rw [← q45, ← q48, h6]
    simp only [less_flag, obs]
    obtain ⟨B1, F1, s1, ⟨q, s2, s3⟩, s4⟩ := Y_seatAll (F := F) (k := 3 * t + r) hW hP hH hB hL (by omega) hF.1 hj hwN hwj hw0 hk hkr
    obtain ⟨M1, m1, m2, m3⟩ := M_fitsIn M hW hP hM (w := w) hj (by omega) hwj hk hkr
    have hsf := fit_S (j := j) (w := w) (k := 3 * t + r) hbad
    rw [hsf] at m1 m2
    have z10 : ((1 : Int32) = 0) = False := by simp
    have q1l : ∀ x, x < C 0 3 → F1 1 x = oI (C 15 x) := fun x hx => by rw [s4 1 x (by decide), hF.1 x hx]
    have hL1 : LRo F1 0 (s_os w (C 0 3) 0) := hL.cg (fun b _ => s4 4 b (by decide)) (s4 0 6 (by decide))
    have hF1 : FB C F1 := hF.cg (fun b => s4 1 b (by decide)) (fun b => s4 3 b (by decide)) (s4 0 4 (by decide))
    have back : ∀ G : Nat → Nat → Int32, (∀ x, x < C 0 3 → G 1 x = oI (C 15 x)) → RB C (C 15) tm (u1 B1 1 (a_cpy (G 1) (B1 1) 0 0 10)) := fun G hG => by
      refine ⟨fun x hx => ?_, fun x hx => ?_, fun x hx => ?_⟩
      · rw [u1_eq, if_pos rfl, cpyN _ _ (by omega), show 0 + (x - 0) = x from by omega, hG x hx]
      · rw [u1_eq, if_neg (by decide), s2.2.1 x hx]
      · rw [u1_eq, if_neg (by decide), s2.2.2 x hx]
    have h32 : ¬ (F 0 8 = -1 ∨ ¬ F 0 8 ≤ nI (pc w 10)) → ¬ F 0 10 = -1 := fun h e => by
      rcases hQ.2.2 with ⟨c1, _⟩ | ⟨_, _, _, c, _, _, _, _, _, _, _, c7, c8, _⟩
      · exact h (Or.inl c1)
      · rw [c7] at e; exact na_ne1 c8 e
    by_cases hgo : (F 0 8 = -1 ∨ ¬ F 0 8 ≤ nI (pc w 10)) ∨ (F 0 10 = -1 ∨ ¬ F 0 10 ≤ nI co)
    · have eY : (if ¬ (if F 0 8 = -1 ∨ ¬ F 0 8 ≤ nI (pc w 10) then (1 : Int32) else 0) = 0 then some (.inl ()) else if (if F 0 10 = -1 ∨ ¬ F 0 10 ≤ nI co then (1 : Int32) else 0) = 0 then some (.inr (.inl (nI r + 1, B, F))) else some (.inl ()) : Option (Unit ⊕ ((Int32 × (Nat → Nat → Int32) × (Nat → Nat → Int32)) ⊕ ((Nat → Nat → Int32) × (Nat → Nat → Int32))))) = some (.inl ()) := by
        by_cases h2 : F 0 8 = -1 ∨ ¬ F 0 8 ≤ nI (pc w 10)
        · rw [if_pos h2, if_pos (by decide)]
        · rw [if_neg h2, if_neg (fun h => h rfl), if_pos (hgo.resolve_left h2), if_neg (by decide)]
      have eM : (if ¬ (if F 0 8 = -1 ∨ ¬ F 0 8 ≤ nI (pc w 10) then (1 : Int32) else 0) = 0 then some (.inl ()) else if F 0 10 ≤ nI co then some (.inr (.inl (nI r + 1, M))) else some (.inl ()) : Option (Unit ⊕ ((Int32 × (Nat → Nat → Int32)) ⊕ (Nat → Nat → Int32)))) = some (.inl ()) := by
        by_cases h2 : F 0 8 = -1 ∨ ¬ F 0 8 ≤ nI (pc w 10)
        · rw [if_pos h2, if_pos (by decide)]
        · rw [if_neg h2, if_neg (fun h => h rfl), if_neg ((hgo.resolve_left h2).resolve_left (h32 h2))]
      rw [eY, eM, obs, obs, se_l, se_l, s1, m1, obs, obs]
      simp only [cl_0, cl_10, m3 0 48 (by decide), ← q48, less_val, obs]
      cases hs : s_fitS C j w (3 * t + r) with
      | none =>
        simp only [sB, if_true, not_true, if_false, obs]
        rw [if_neg (by decide), ← nI_succ]
        exact ⟨_, F1, M1, rfl, rfl, back F1 q1l, hL1, hF1, hQ.cg (fun b hb => s4 0 b (by decide)) (fun b => s4 2 b (by decide)) (fun b => m3 0 b (by decide))⟩
      | some q' =>
        have hq := s3 q' hs
        subst hq
        have hsf' : s_fit C j w (3 * t + r) = some q := by rw [hsf, hs]
        simp only [sB, z10, if_false, not_false_eq_true, if_true, obs]
        obtain ⟨F2, k1, k2, k3, k4, k5⟩ := Y_keepFewest (B := B1) (F := F1) (os := s_os w (C 0 3) 0) (j := j) (w := w) (by omega) hL1 (by omega) (fun o ho => by have := (os_mem w _ _ o).mp ho; omega)
        have hgoal : ∀ x, x < C 0 3 → F2 2 x = if x = j ∨ w.testBit x = true then oI (q x) else -1 := fun x hx => by
          rw [k4 x (by omega), s2.1 x hx]
          have : (x ∈ s_os w (C 0 3) 0) = (w.testBit x = true) := propext (by
            rw [os_mem]
            exact ⟨fun h => h.2.2, fun h => ⟨Nat.zero_le _, by omega, h⟩⟩)
          simp only [this]
        have q2l : ∀ x, x < C 0 3 → F2 1 x = oI (C 15 x) := fun x hx => by rw [k5 1 x (by decide) (by omega), q1l x hx]
        have hL2 : LRo F2 0 (s_os w (C 0 3) 0) := hL1.cg (fun b _ => k5 4 b (by decide) (by omega)) (k5 0 6 (by decide) (by omega))
        have hF2 : FB C F2 := hF1.cg (fun b => k5 1 b (by decide) (by omega)) (fun b => k5 3 b (by decide) (by omega)) (k5 0 4 (by decide) (by omega))
        have h68 : F2 0 8 = nI (pc w 10) := by rw [k2, s4 0 6 (by decide), h6]
        have hp10 := pc_le w 10
        by_cases h2 : F 0 8 = -1 ∨ ¬ F 0 8 ≤ nI (pc w 10)
        · by_cases h4 : F 0 10 = -1 ∨ ¬ F 0 10 ≤ nI co
          · simp only [if_pos h2, if_pos h4, z10, if_false, not_false_eq_true, if_true, k1, obs]
            rw [if_neg (by decide), ← nI_succ]
            refine ⟨_, _, _, rfl, rfl, back _ (fun x hx => by rw [u2_row _ _ (by decide), q2l x hx]), hL2.cg (fun b _ => u2_row _ _ (by decide)) (u2_col _ _ (by decide)), hF2.cg (fun b => u2_row _ _ (by decide)) (fun b => u2_row _ _ (by decide)) (u2_col _ _ (by decide)), ?_⟩
            refine ⟨?_, ?_, Or.inr ⟨w, r, q, co, pc w 10, hwN, hwj, hr, hp10, ?_, ?_, u2_same _ _ _ _, by omega, ?_, ?_, hsf', fun x hx => ?_⟩⟩
            · rw [u2_col _ _ (by decide), h68, u2_col _ _ (by decide), u2_col _ _ (by decide), u2_same]
            · rw [u2_same, u2_col _ _ (by decide), u2_col _ _ (by decide), u2_col _ _ (by decide), u2_same]
            · rw [u2_col _ _ (by decide), h68]
            · rw [u2_col _ _ (by decide), k3]
            · rw [u2_col _ _ (by decide), u2_same]
            · rw [u2_same]
            · rw [u2_row _ _ (by decide), hgoal x hx]
          · obtain ⟨c9, hc9, e9⟩ : ∃ c9, c9 < 2 ^ 31 ∧ F 0 10 = nI c9 := by
              rcases hQ.2.2 with ⟨_, c2, _⟩ | ⟨_, _, _, c, _, _, _, _, _, _, _, c7, c8, _⟩
              · exact absurd (Or.inl c2) h4
              · exact ⟨c, c8, c7⟩
            simp only [if_pos h2, if_neg h4, z10, if_false, not_false_eq_true, if_true, k1, obs]
            rw [if_neg (by decide), ← nI_succ]
            refine ⟨_, _, _, rfl, rfl, back _ q2l, hL2, hF2, ?_⟩
            have f10 : F2 0 10 = F 0 10 := by rw [k5 0 10 (by decide) (by omega), s4 0 10 (by decide)]
            refine ⟨?_, ?_, Or.inr ⟨w, r, q, c9, pc w 10, hwN, hwj, hr, hp10, h68, k3, by rw [f10, e9], hc9, ?_, ?_, hsf', hgoal⟩⟩
            · rw [h68, u2_col _ _ (by decide), u2_col _ _ (by decide), u2_same]
            · rw [f10, u2_col _ _ (by decide), u2_col _ _ (by decide), u2_col _ _ (by decide), u2_same]
            · rw [u2_col _ _ (by decide), u2_same]
            · rw [u2_same]
        · have h4 := hgo.resolve_left h2
          simp only [if_neg h2, if_pos h4, z10, if_false, not_false_eq_true, if_true, not_true, obs]
          rw [if_neg (by decide), ← nI_succ]
          refine ⟨_, _, _, rfl, rfl, back _ (fun x hx => by rw [u2_row _ _ (by decide), q1l x hx]), hL1.cg (fun b _ => u2_row _ _ (by decide)) (u2_col _ _ (by decide)), hF1.cg (fun b => u2_row _ _ (by decide)) (fun b => u2_row _ _ (by decide)) (u2_col _ _ (by decide)), ?_⟩
          rcases hQ.2.2 with ⟨c1, _⟩ | ⟨w', r', q9, c, n, c1, c2, c3, c4, c5, c6, c7, c8, c9, c10, c11, c12⟩
          · exact absurd (Or.inl c1) h2
          · refine ⟨?_, ?_, Or.inr ⟨w', r', q9, co, n, c1, c2, c3, c4, ?_, ?_, u2_same _ _ _ _, by omega, ?_, ?_, c11, fun x hx => ?_⟩⟩
            · rw [u2_col _ _ (by decide), u2_col _ _ (by decide), s4 0 8 (by decide), m3 0 45 (by decide), q45]
            · rw [u2_same, u2_same]
            · rw [u2_col _ _ (by decide), s4 0 8 (by decide), c5]
            · rw [u2_col _ _ (by decide), s4 0 9 (by decide), c6]
            · rw [u2_col _ _ (by decide), m3 0 46 (by decide), c9]
            · rw [u2_col _ _ (by decide), m3 0 47 (by decide), c10]
            · rw [u2_row _ _ (by decide), s4 2 x (by decide), c12 x hx]
    · have h2 := fun h => hgo (Or.inl h)
      have h4 := fun h => hgo (Or.inr h)
      have h5 : F 0 10 ≤ nI co := Decidable.not_not.mp (fun h => h4 (Or.inr h))
      rw [if_neg h2, if_neg (fun h => h rfl), if_neg h4, if_pos rfl, if_neg (fun h => h rfl), if_pos h5, obs, obs, se_r, se_r, ← nI_succ]
      exact ⟨B, F, M, rfl, rfl, hB, hL, hF, hQ⟩
