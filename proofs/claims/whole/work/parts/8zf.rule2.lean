/-! PURE MATH: a rule that is asked, the two; yields -/
/-- what both know of the two meetings and the place -/
def s_fact (C : CS) (has wants k : Nat) (st : Int32) (j : Nat) : Int32 := if j = 0 then nI (C 7 has) else if j = 1 then nI (C 16 has) else if j = 2 then nI (pc (C 8 has) 10) else if j = 3 then nI has else if j = 4 then nI (C 7 wants) else if j = 5 then nI (C 16 wants) else if j = 6 then nI (pc (C 8 wants) 10) else if j = 7 then nI wants else if j = 8 then nI (k / 3) else if j = 9 then nI (k % 3) else st
theorem RU.upd {C : CS} {U : Nat → Nat → Int32} (h : RU C U) {a b : Nat} {v : Int32} (ha : a ≠ 0) (ha1 : a ≠ 1) : RU C (u2 U a b v) := ⟨by rw [u2_row _ _ (fun e => ha e.symm)]; exact h.1, fun k hk => by rw [u2_row _ _ (fun e => ha1 e.symm)]; exact h.2 k hk⟩
theorem isSo_both {C : CS} {H A U B M : Nat → Nat → Int32} {pl : Nat → Nat} (hW : WFC C) (hF : WFU C) (hH : RH C H) (hM : RMo C A) (hU : RU C U) (hB : ∀ m, m < C 0 3 → B 2 m = nI (C 16 m)) {has wants k : Nat} {st : Int32} (h1 : has < C 0 3) (h2 : wants < C 0 3) (hk : k < 30) (w8 : U 3 8 = nI (k / 3)) (w9 : U 3 9 = nI (k % 3)) (w10 : U 3 10 = st) :
    ∃ x U' M', f_Rule_isSo H U B (nI has) (nI wants) = some (x, U') ∧ f_M_yieldsTo A M (nI has) (nI wants) (nI k) st = some (x, M') ∧ (x = 0 ∨ x = 1) ∧ RU C U' ∧ U' 3 8 = nI (k / 3) ∧ U' 3 9 = nI (k % 3) ∧ U' 3 10 = st ∧ ∀ a b, a ≠ 2 → a ≠ 3 → M' a b = M a b := by
  have hN := hW.2.2.2.1
  have h8 : C 0 8 ≤ 150 := by obtain ⟨_, _, _, _, _, _, _, _, h, _⟩ := hW; exact h
  have e40 := hM.d0.2.2.2.1
  unfold f_Rule_isSo f_M_yieldsTo
  rw [hU.1, e40]
  by_cases h0 : C 0 8 = 0
  · rw [h0, if_neg (by decide), if_neg (by decide)]
    exact ⟨zb 0, U, M, rfl, rfl, Or.inl zb_0, hU, w8, w9, w10, fun _ _ _ _ => rfl⟩
  · have hne : nI (C 0 8) ≠ 0 := nI_ne0 (by omega) (by omega)
    rw [if_pos hne, if_pos hne]
    have hty : s_ty C (C 0 8) = some [true] := hF.resolve_left h0
    -- the facts, the class
    have r7 : ∀ m, m < C 0 3 → rdx (H 7) 10 (nI m) = some (nI (C 7 m)) := fun m hm => by rw [rdx_nI (by omega) (by omega), hH 7 m hm]; rfl
    have r8 : ∀ m, m < C 0 3 → rdx (H 8) 10 (nI m) = some (nI (C 8 m)) := fun m hm => by rw [rdx_nI (by omega) (by omega), hH 8 m hm]; rfl
    have rb : ∀ m, m < C 0 3 → rdx (B 2) 10 (nI m) = some (nI (C 16 m)) := fun m hm => by rw [rdx_nI (by omega) (by omega), hB m hm]
    have bc : ∀ m, f_Integer_bitCount (nI (C 8 m)) = some (nI (pc (C 8 m) 10)) := fun m => bc_nI (by have := hW.mem m; omega)
    have s0 : ∀ V : Nat → Nat → Int32, f_Rule_setMeeting H V B 0 (nI has) = some (u2 (u2 (u2 (u2 V 3 0 (nI (C 7 has))) 3 1 (nI (C 16 has))) 3 2 (nI (pc (C 8 has) 10))) 3 3 (nI has)) := fun V => by
      unfold f_Rule_setMeeting
      rw [if_neg (by decide), r7 has h1, obs, show ixx 11 (0 : Int32) = some 0 from by decide, obs, rb has h1, obs, show ixx 11 ((0 : Int32) + 1) = some 1 from by decide, obs, r8 has h1, obs, bc, obs, show ixx 11 ((0 : Int32) + 2) = some 2 from by decide, obs, show ixx 11 ((0 : Int32) + 3) = some 3 from by decide, obs]
    have s4 : ∀ V : Nat → Nat → Int32, f_Rule_setMeeting H V B 4 (nI wants) = some (u2 (u2 (u2 (u2 V 3 4 (nI (C 7 wants))) 3 5 (nI (C 16 wants))) 3 6 (nI (pc (C 8 wants) 10))) 3 7 (nI wants)) := fun V => by
      unfold f_Rule_setMeeting
      rw [if_neg (by decide), r7 wants h2, obs, show ixx 11 (4 : Int32) = some 4 from by decide, obs, rb wants h2, obs, show ixx 11 ((4 : Int32) + 1) = some 5 from by decide, obs, r8 wants h2, obs, bc, obs, show ixx 11 ((4 : Int32) + 2) = some 6 from by decide, obs, show ixx 11 ((4 : Int32) + 3) = some 7 from by decide, obs]
    rw [s0, obs, s4, obs]
    generalize hU0 : u2 (u2 (u2 (u2 (u2 (u2 (u2 (u2 U 3 0 (nI (C 7 has))) 3 1 (nI (C 16 has))) 3 2 (nI (pc (C 8 has) 10))) 3 3 (nI has)) 3 4 (nI (C 7 wants))) 3 5 (nI (C 16 wants))) 3 6 (nI (pc (C 8 wants) 10))) 3 7 (nI wants) = U0
    have hUR : RU C U0 := by
      rw [← hU0]
      exact (((((((hU.upd (by decide) (by decide)).upd (by decide) (by decide)).upd (by decide) (by decide)).upd (by decide) (by decide)).upd (by decide) (by decide)).upd (by decide) (by decide)).upd (by decide) (by decide)).upd (by decide) (by decide)
    have fU : ∀ j, j < 11 → U0 3 j = s_fact C has wants k st j := fun j hj => by
      rw [← hU0]
      have : j = 0 ∨ j = 1 ∨ j = 2 ∨ j = 3 ∨ j = 4 ∨ j = 5 ∨ j = 6 ∨ j = 7 ∨ j = 8 ∨ j = 9 ∨ j = 10 := by omega
      rcases this with rfl | rfl | rfl | rfl | rfl | rfl | rfl | rfl | rfl | rfl | rfl
      · rfl
      · rfl
      · rfl
      · rfl
      · rfl
      · rfl
      · rfl
      · rfl
      · exact w8
      · exact w9
      · exact w10
    -- the facts, the reference
    have q1 : ∀ m, m < C 0 3 → rdx (A 5) 60 (6 * nI m + 1) = some (nI (C 7 m)) := fun m hm => by rw [show (1 : Int32) = nI 1 from rfl, ix6, rdx_nI (by omega) (by omega), hM.meet hm 1 (by omega)]; rfl
    have q2 : ∀ m, m < C 0 3 → rdx (A 5) 60 (6 * nI m + 2) = some (nI (C 8 m)) := fun m hm => by rw [show (2 : Int32) = nI 2 from rfl, ix6, rdx_nI (by omega) (by omega), hM.meet hm 2 (by omega)]; rfl
    have q8 : ∀ m, m < C 0 3 → rdx (A 8) 10 (nI m) = some (nI (C 16 m)) := fun m hm => by rw [rdx_nI (by omega) (by omega), hM.times hm]
    have on : ∀ m, f_M_ones (nI (C 8 m)) = some (nI (pc (C 8 m) 10)) := fun m => M_ones (by have := hW.mem m; omega)
    have l0 : f_M_yieldsTo_l12 A (nI wants) (nI has) 0 M = some (.inl (1, u2 (u2 (u2 (u2 M 3 0 (nI (C 7 has))) 3 1 (nI (C 16 has))) 3 2 (nI (pc (C 8 has) 10))) 3 3 (nI has))) := by
      unfold f_M_yieldsTo_l12
      rw [if_neg (by decide), if_neg (show ¬ ((0 : Int32) ≠ 0) by decide), obs, q1 has h1, obs, show ixx 11 ((4 : Int32) * 0) = some 0 from by decide, obs, q8 has h1, obs, show ixx 11 ((4 : Int32) * 0 + 1) = some 1 from by decide, obs, q2 has h1, obs, on, obs, show ixx 11 ((4 : Int32) * 0 + 2) = some 2 from by decide, obs, show ixx 11 ((4 : Int32) * 0 + 3) = some 3 from by decide, obs]
      rfl
    have l1 : ∀ V : Nat → Nat → Int32, f_M_yieldsTo_l12 A (nI wants) (nI has) 1 V = some (.inl (2, u2 (u2 (u2 (u2 V 3 4 (nI (C 7 wants))) 3 5 (nI (C 16 wants))) 3 6 (nI (pc (C 8 wants) 10))) 3 7 (nI wants))) := fun V => by
      unfold f_M_yieldsTo_l12
      rw [if_neg (by decide), if_pos (show (1 : Int32) ≠ 0 by decide), obs, q1 wants h2, obs, show ixx 11 ((4 : Int32) * 1) = some 4 from by decide, obs, q8 wants h2, obs, show ixx 11 ((4 : Int32) * 1 + 1) = some 5 from by decide, obs, q2 wants h2, obs, on, obs, show ixx 11 ((4 : Int32) * 1 + 2) = some 6 from by decide, obs, show ixx 11 ((4 : Int32) * 1 + 3) = some 7 from by decide, obs]
      rfl
    have l2 : ∀ V : Nat → Nat → Int32, f_M_yieldsTo_l12 A (nI wants) (nI has) 2 V = some (.inr V) := fun V => by
      unfold f_M_yieldsTo_l12
      rw [if_pos (by decide)]
    obtain ⟨n, hn⟩ : ∃ n, a_F = n + 1 + 1 + 1 := ⟨a_F - 3, by unfold a_F; omega⟩
    have eL : loopN (fun q => f_M_yieldsTo_l12 A (nI wants) (nI has) q.1 q.2) a_F (0, M) = some (u2 (u2 (u2 (u2 (u2 (u2 (u2 (u2 M 3 0 (nI (C 7 has))) 3 1 (nI (C 16 has))) 3 2 (nI (pc (C 8 has) 10))) 3 3 (nI has)) 3 4 (nI (C 7 wants))) 3 5 (nI (C 16 wants))) 3 6 (nI (pc (C 8 wants) 10))) 3 7 (nI wants)) := by
      rw [hn, loop_l l0, loop_l (l1 _), loop_r (l2 _)]
    rw [eL, obs, show ixx 11 (8 : Int32) = some 8 from by decide, obs, show ixx 11 (9 : Int32) = some 9 from by decide, obs, show ixx 11 (10 : Int32) = some 10 from by decide, obs, (nI_hr k hk).1, (nI_hr k hk).2]
    generalize hM0 : u2 (u2 (u2 (u2 (u2 (u2 (u2 (u2 (u2 (u2 (u2 M 3 0 (nI (C 7 has))) 3 1 (nI (C 16 has))) 3 2 (nI (pc (C 8 has) 10))) 3 3 (nI has)) 3 4 (nI (C 7 wants))) 3 5 (nI (C 16 wants))) 3 6 (nI (pc (C 8 wants) 10))) 3 7 (nI wants)) 3 8 (nI (k / 3))) 3 9 (nI (k % 3))) 3 10 st = M0
    have fM : ∀ j, j < 11 → M0 3 j = s_fact C has wants k st j := fun j hj => by
      rw [← hM0]
      have : j = 0 ∨ j = 1 ∨ j = 2 ∨ j = 3 ∨ j = 4 ∨ j = 5 ∨ j = 6 ∨ j = 7 ∨ j = 8 ∨ j = 9 ∨ j = 10 := by omega
      rcases this with rfl | rfl | rfl | rfl | rfl | rfl | rfl | rfl | rfl | rfl | rfl <;> rfl
    have oM : ∀ a b, a ≠ 2 → a ≠ 3 → M0 a b = M a b := fun a b _ h3 => by
      rw [← hM0]
      simp only [u2_row _ _ h3]
    -- the stacks
    obtain ⟨b, c, b1, b2, b3⟩ := loop_two (f := fun q : Int32 × Int32 × (Nat → Nat → Int32) => f_Rule_isSo_l29 q.1 q.2.1 q.2.2) (g := fun q : Int32 × Int32 × (Nat → Nat → Int32) => f_M_yieldsTo_l149 A q.1 q.2.1 q.2.2) (C 0 8)
      (fun i s t => ∃ ty, s_ty C i = some ty ∧ ty.length ≤ i ∧ s.1 = nI ty.length ∧ s.2.1 = nI i ∧ t.1 = nI ty.length ∧ t.2.1 = nI i ∧ RU C s.2.2 ∧ (∀ j, j < ty.length → s.2.2 2 j = t.2.2 2 j) ∧ (∀ j, j < 11 → s.2.2 3 j = s_fact C has wants k st j ∧ t.2.2 3 j = s_fact C has wants k st j) ∧ BT ty (s.2.2 2) ∧ ∀ a b, a ≠ 2 → a ≠ 3 → t.2.2 a b = M a b)
      (fun b c => b.1 = 1 ∧ RU C b.2 ∧ b.2 2 0 = c 2 0 ∧ (b.2 2 0 = 0 ∨ b.2 2 0 = 1) ∧ (∀ j, j < 11 → b.2 3 j = s_fact C has wants k st j) ∧ ∀ a b, a ≠ 2 → a ≠ 3 → c a b = M a b) (by omega)
      (fun i s t hi hR => by
        obtain ⟨x1, x2, V⟩ := s
        obtain ⟨y1, y2, D⟩ := t
        obtain ⟨ty, r1, r2, r3, r4, r5, r6, r7, r8, r9, r10, r11⟩ := hR
        have r3 : x1 = nI ty.length := r3
        have r4 : x2 = nI i := r4
        have r5 : y1 = nI ty.length := r5
        have r6 : y2 = nI i := r6
        subst r3; subst r4; subst r5; subst r6
        obtain ⟨ty', hty'⟩ := ty_some hty (show i + 1 ≤ C 0 8 by omega)
        have hstep : s_tstep (C 20 i) (C 21 i) ty = some ty' := by
          have h : (match s_ty C i with | none => none | some st => s_tstep (C 20 i) (C 21 i) st) = some ty' := hty'
          rw [r1] at h
          exact h
        obtain ⟨v, w, e1, e2, e3, e4, e5⟩ := rule_step hW hM r7 hi hstep r2 r8 (fun j hj => by rw [(r9 j hj).1, (r9 j hj).2]) r10
        refine ⟨_, _, e1, e2, ty', hty', e3, rfl, rfl, rfl, rfl, r7.upd (by decide) (by decide), e4, fun j hj => ⟨?_, ?_⟩, e5, fun a b h2 h3 => ?_⟩
        · dsimp only
          rw [u2_row _ _ (by decide)]; exact (r9 j hj).1
        · dsimp only
          rw [u2_row _ _ (by decide)]; exact (r9 j hj).2
        · dsimp only
          rw [u2_row _ _ h2]; exact r11 a b h2 h3)
      (fun s t hR => by
        obtain ⟨x1, x2, V⟩ := s
        obtain ⟨y1, y2, D⟩ := t
        obtain ⟨ty, r1, r2, r3, r4, r5, r6, r7, r8, r9, r10, r11⟩ := hR
        rw [hty] at r1
        cases r1
        have r3 : x1 = nI 1 := r3
        have r4 : x2 = nI (C 0 8) := r4
        have r6 : y2 = nI (C 0 8) := r6
        have r7' : RU C V := r7
        subst r3; subst r4; subst r6
        show ∃ s' t', f_Rule_isSo_l29 (nI 1) (nI (C 0 8)) V = _ ∧ f_M_yieldsTo_l149 A y1 (nI (C 0 8)) D = _ ∧ _
        unfold f_Rule_isSo_l29 f_M_yieldsTo_l149
        rw [r7'.1, e40, if_pos (nI_le (Nat.le_refl _) (by omega)), if_pos (nI_le (Nat.le_refl _) (by omega))]
        exact ⟨(nI 1, V), D, rfl, rfl, rfl, r7, r8 0 (by decide), r10.1 rfl, fun j hj => (r9 j hj).1, r11⟩)
      0 (Nat.zero_le _) (0, 0, U0) (0, 0, M0) ⟨[], rfl, Nat.le_refl _, rfl, rfl, rfl, rfl, hUR, (fun j hj => absurd hj (Nat.not_lt_zero j)), (fun j hj => ⟨fU j hj, fM j hj⟩), trivial, oM⟩
    obtain ⟨bv, V⟩ := b
    obtain ⟨d1, d2, d3, d4, d5, d6⟩ := b3
    have d1 : bv = 1 := d1
    have d2 : RU C V := d2
    have d3 : V 2 0 = c 2 0 := d3
    have d4 : V 2 0 = 0 ∨ V 2 0 = 1 := d4
    have d5 : ∀ j, j < 11 → V 3 j = s_fact C has wants k st j := d5
    subst d1
    replace d3 : V 2 0 = c 2 0 := d3
    replace d4 : V 2 0 = 0 ∨ V 2 0 = 1 := d4
    rw [b1, b2, obs, obs]
    have z0 : rdx (V 2) 150 (0 : Int32) = some (V 2 0) := rdx_nI (k := 0) (by omega) (by omega)
    have z1 : rdx (c 2) 150 (0 : Int32) = some (c 2 0) := rdx_nI (k := 0) (by omega) (by omega)
    rw [if_neg (show ¬ ((1 : Int32) ≠ 1) by decide)]
    show ∃ x U' M', ((rdx (V 2) 150 0).bind _) = _ ∧ ((rdx (c 2) 150 0).bind _) = _ ∧ _
    rw [z0, z1, obs, obs]
    rcases d4 with d4 | d4
    · refine ⟨zb 0, V, c, if_pos d4, if_pos (show c 2 0 ≠ 1 by rw [← d3, d4]; decide), Or.inl zb_0, d2, d5 8 (by decide), d5 9 (by decide), d5 10 (by decide), d6⟩
    · refine ⟨zb 1, V, c, if_neg (show ¬ V 2 0 = 0 by rw [d4]; decide), if_neg (show ¬ (c 2 0 ≠ 1) by rw [← d3, d4]; decide), Or.inr zb_1, d2, d5 8 (by decide), d5 9 (by decide), d5 10 (by decide), d6⟩
theorem T_yields {C : CS} {Y H U NS A BO MS : Nat → Nat → Int32} {r5 hm : Nat} (h : RL C Y H NS A) (hF : WFU C) (hP : WFP C) (hU : RU C U) (p1 p2 : Int32) : ∃ k v Y' U' B' r' v' A' S', f_Y_yields Y H U NS BO hm r5 p1 p2 = some (k, v, Y', U', B', r') ∧ f_M_yields A MS p1 p2 = some (v', A', S') ∧ A' 0 0 = cd2 k ∧ k < 3 ∧ (k = 0 → v = v') ∧ RU C U' ∧ RL C Y' H NS A' := by
  have h' := h.thr 0
  obtain ⟨hW, hY, hH, hS, hM, hQ⟩ := h'
  have hA : (u2 A 0 0 0) 0 0 = 0 := thr_0 A 0
  unfold f_Y_yields f_M_yields
  generalize u2 A 0 0 0 = A at hM hQ hA ⊢
  have h' : RL C Y H NS A := ⟨hW, hY, hH, hS, hM, hQ⟩
  have z1 : ((1 : Int32) ≠ 0) = True := by simp
  have z10 : ((1 : Int32) = 0) = False := by simp
  have n10 : ((1 : Nat) = 0) = False := by simp
  have n20 : ((2 : Nat) = 0) = False := by simp
  have hN := hW.2.2.2.1
  have refM : ∀ (f : Int32 × (Nat → Nat → Int32) → Option (Int32 × (Nat → Nat → Int32) × (Nat → Nat → Int32))), (f_M_may A 0 2 1).bind f = f (0, mRef A 2 1) := fun f => by
    show (f_M_may A 0 (nI 2) (nI 1)).bind f = _
    rw [M_may_out hA (by decide) (by omega), obs]; rfl
  have ref2 : ∃ k v Y' U' B' r' v' A' S', (some (2, 0, yRef Y 1, U, BO, r5) : Option (Nat × Int32 × (Nat → Nat → Int32) × (Nat → Nat → Int32) × (Nat → Nat → Int32) × Nat)) = some (k, v, Y', U', B', r') ∧ (some (0, mRef A 2 1, MS) : Option (Int32 × (Nat → Nat → Int32) × (Nat → Nat → Int32))) = some (v', A', S') ∧ A' 0 0 = cd2 k ∧ k < 3 ∧ (k = 0 → v = v') ∧ RU C U' ∧ RL C Y' H NS A' :=
    ⟨2, 0, yRef Y 1, U, BO, r5, 0, mRef A 2 1, MS, rfl, rfl, mRef_0 _ _ _, by omega, fun h => by omega, hU, h'.ref _ (by omega)⟩
  have ref1 : ∃ k v Y' U' B' r' v' A' S', (some (1, 0, yRef Y 0, U, BO, r5) : Option (Nat × Int32 × (Nat → Nat → Int32) × (Nat → Nat → Int32) × (Nat → Nat → Int32) × Nat)) = some (k, v, Y', U', B', r') ∧ (some (0, mRef A 1 0, MS) : Option (Int32 × (Nat → Nat → Int32) × (Nat → Nat → Int32))) = some (v', A', S') ∧ A' 0 0 = cd2 k ∧ k < 3 ∧ (k = 0 → v = v') ∧ RU C U' ∧ RL C Y' H NS A' :=
    ⟨1, 0, yRef Y 0, U, BO, r5, 0, mRef A 1 0, MS, rfl, rfl, mRef_0 _ _ _, by omega, fun h => by omega, hU, h'.ref _ (by omega)⟩
  rcases G_meet (Y := Y) hW hH hM hA p1 with ⟨m, hm1, rfl, e1, e2⟩ | ⟨e1, e2⟩
  · rw [e1, e2 1]
    rcases G_meet (Y := Y) hW hH hM hA p2 with ⟨o, ho1, rfl, f1, f2⟩ | ⟨f1, f2⟩
    · have hp := hW.plan m
      have rs : rdx (NS 1) 10 (nI m) = some (oI (C 15 m)) := by rw [rdx_nI (by omega) (by omega), hS 1 m hm1]; rfl
      have ra : rdx (A 7) 10 (nI m) = some (oI (C 15 m)) := by rw [rdx_nI (by omega) (by omega), hM.here hm1]
      simp only [obs, if_true, z10, if_false, f1, f2, nI_eqP (show m < 2 ^ 31 by omega) (show o < 2 ^ 31 by omega), rs, ra, oI_z hp]
      by_cases hmo : m = o
      · simp only [hmo, if_true, obs, se_l, Y_ref_out, n20, if_false, refM, ne_eq, not_true, zb_0]
        exact ref2
      · by_cases h0 : C 15 m = 0
        · simp only [hmo, h0, if_true, if_false, obs, se_l, Y_ref_out, n20, refM, ne_eq, not_true, zb_0]
          exact ref2
        · obtain ⟨B', b1, b2⟩ := T_look BO hW hH hS
          obtain ⟨k, hk⟩ : ∃ k, C 15 m = k + 1 := ⟨C 15 m - 1, by omega⟩
          have rb : rdx (B' 1) 10 (nI m) = some (nI k) := by rw [rdx_nI (by omega) (by omega), b2.1 m hm1, hk, oI_s]
          have hk30 : k < 30 := by omega
          obtain ⟨x, U', M', y1, y2, y3, y4, _⟩ := isSo_both (H := H) (A := A) (U := u2 (u2 (u2 U 3 8 (nI (k / 3))) 3 9 (nI (k % 3))) 3 10 0) (B := B') (M := MS) (pl := C 15) (st := 0) hW hF hH hM (((hU.upd (by decide) (by decide)).upd (by decide) (by decide)).upd (by decide) (by decide)) b2.2.1 hm1 ho1 hk30 rfl rfl rfl
          simp only [hmo, h0, if_false, obs, se_r, Y_ref_in, if_true, M_may_in hA, z1, b1, rb]
          unfold f_Rule_setWanted f_Y_hourOf f_Y_roomOf
          rw [obs, (nI_hr k hk30).1, show ixx 11 (8 : Int32) = some 8 from by decide, obs, obs, (nI_hr k hk30).2, show ixx 11 (9 : Int32) = some 9 from by decide, obs, show ixx 11 (10 : Int32) = some 10 from by decide, obs, obs, y1, obs, ra, obs, hk, oI_s, y2, obs]
          exact ⟨0, zb x, Y, U', B', hm, zb x, A, M', rfl, rfl, hA, by omega, fun _ => rfl, y4, h'⟩
    · simp only [obs, if_true, z10, if_false, f1, n10, f2 1 (by decide), zb_0]
      exact ref1
  · rw [e1, e2 1 (by decide)]
    simp only [obs, if_true, n10, if_false, zb_0]
    exact ref1
