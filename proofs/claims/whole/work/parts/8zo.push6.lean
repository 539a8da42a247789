/-! PURE MATH: pushing: the whole run, side by side -/
theorem push_loop {C : CS} {H A U B P M M0 : Nat → Nat → Int32} {pl f : Nat → Nat} {b : Nat} (hW : WFC C) (hF : WFU C) (hH : RH C H) (hM : RMo C A) (hU : RU C U) (hPP : PP C M0 pl f 0 b 0 B P M) :
    ∃ U' B' P' M' pl' n', loopN (fun q : Int32 × (Nat → Nat → Int32) × (Nat → Nat → Int32) × (Nat → Nat → Int32) => f_Pusher_run_l62 H q.1 q.2.1 q.2.2.1 q.2.2.2) a_F (0, U, B, P) = some (nI n', U', B', P') ∧ loopN (fun q => f_M_pushesBy_l76 A q) a_F M = some M' ∧ n' ≤ 100 ∧ RU C U' ∧ RB C pl' (C 16) B' ∧ (∀ m, pl' m ≤ 30) ∧ (∀ m, m < C 0 3 → okP C (pl' m)) ∧ (∀ m, m < C 0 3 → M' 4 m = oI (pl' m)) ∧ M' 0 58 = nI n' := by
  obtain ⟨r, s, e1, e2, U', pl', n', d1, d2, d3⟩ := loop_two_e (f := fun q : Int32 × (Nat → Nat → Int32) × (Nat → Nat → Int32) × (Nat → Nat → Int32) => f_Pusher_run_l62 H q.1 q.2.1 q.2.2.1 q.2.2.2) (g := fun q => f_M_pushesBy_l76 A q) 100
    (fun i s t => s.1 = nI i ∧ RU C s.2.1 ∧ ∃ pl f a b, PP C M0 pl f a b i s.2.2.1 s.2.2.2 t)
    (fun r s => ∃ U' pl' n', r.1 = nI n' ∧ r.2.1 = U' ∧ n' ≤ 100 ∧ RU C U' ∧ RB C pl' (C 16) r.2.2.1 ∧ (∀ m, pl' m ≤ 30) ∧ (∀ m, m < C 0 3 → okP C (pl' m)) ∧ (∀ m, m < C 0 3 → s 4 m = oI (pl' m)) ∧ s 0 58 = nI n') (by omega)
    (fun i s t hi hR => by
      obtain ⟨v, V, D, E⟩ := s
      obtain ⟨r1, r2, pl, f, a, b, r3⟩ := hR
      have r1 : v = nI i := r1
      have r2' : RU C V := r2
      have r3' : PP C M0 pl f a b i D E t := r3
      clear r2 r3
      subst r1
      obtain ⟨hB, pl30, plok, h4, hQ, hP, hMW, h56, h58, hb10⟩ := r3'
      have hPP : PP C M0 pl f a b i D E t := ⟨hB, pl30, plok, h4, hQ, hP, hMW, h56, h58, hb10⟩
      have hle := hQ.le
      have hab := hQ.1
      have hN := hW.2.2.2.1
      show (∃ s' t', f_Pusher_run_l62 H (nI i) V D E = _ ∧ f_M_pushesBy_l76 A t = _ ∧ _) ∨ (∃ b c, f_Pusher_run_l62 H (nI i) V D E = _ ∧ f_M_pushesBy_l76 A t = _ ∧ _)
      unfold f_Pusher_run_l62 f_M_pushesBy_l76
      rw [hP.1, hMW.1, h56, h58]
      by_cases he : a = b
      · rw [if_pos (show nI (b - a) ≤ 0 by rw [show b - a = 0 from by omega]; decide), if_pos (nI_le (by omega) (by omega))]
        exact Or.inr ⟨_, _, rfl, rfl, V, pl, i, rfl, rfl, by omega, r2', hB, pl30, plok, h4, h58⟩
      · rw [if_neg (show ¬ nI (b - a) ≤ 0 from fun h => by have := (na_le (b := 0) (by omega) (by omega)).mp h; omega), if_neg (nI_ge (by omega) (by omega)), if_neg (show ¬ (100 : Int32) ≤ nI i from fun h => by have := (na_le (a := 100) (by omega) (by omega)).mp h; omega), if_neg (show ¬ (100 : Int32) ≤ nI i from fun h => by have := (na_le (a := 100) (by omega) (by omega)).mp h; omega)]
        obtain ⟨U', B', P', M', pl', f', b', k1, k2, k3, k4⟩ := look_both (H := H) (A := A) (U := V) (M0 := M0) hW hF hH hM r2' hPP (by omega) hi
        rw [rdx_nI (by omega) (by omega), hMW.2 a (Nat.le_refl _) (by omega), k1, obs, obs, k2, obs]
        exact Or.inl ⟨_, _, rfl, rfl, (nI_succ i).symm, k3, pl', f', a + 1, b', k4⟩)
    (fun s t hR => by
      obtain ⟨v, V, D, E⟩ := s
      obtain ⟨r1, r2, pl, f, a, b, r3⟩ := hR
      have r1 : v = nI 100 := r1
      have r2' : RU C V := r2
      have r3' : PP C M0 pl f a b 100 D E t := r3
      clear r2 r3
      subst r1
      obtain ⟨hB, pl30, plok, h4, hQ, hP, hMW, h56, h58, hb10⟩ := r3'
      show (∃ b c, f_Pusher_run_l62 H (nI 100) V D E = _ ∧ f_M_pushesBy_l76 A t = _ ∧ _)
      unfold f_Pusher_run_l62 f_M_pushesBy_l76
      rw [h58, if_pos (show (100 : Int32) ≤ nI 100 by decide), if_pos (show (100 : Int32) ≤ nI 100 by decide), ite_self, ite_self]
      exact ⟨_, _, rfl, rfl, V, pl, 100, rfl, rfl, Nat.le_refl _, r2', hB, pl30, plok, h4, h58⟩)
    (0, U, B, P) M ⟨rfl, hU, pl, f, 0, b, hPP⟩
  obtain ⟨v, V, D, E⟩ := r
  have d1 : v = nI n' := d1
  have d2 : V = U' := d2
  subst d1; subst d2
  exact ⟨V, D, E, s, pl', n', e1, e2, d3⟩
theorem run_both {C : CS} {H A U B P MS : Nat → Nat → Int32} (hW : WFC C) (hF : WFU C) (hP : WFP C) (hH : RH C H) (hM : RMo C A) (hU : RU C U) (hB : RB C (C 15) (C 16) B) {m k : Nat} (hm : m < C 0 3) (hk : k < 30) (hr : k % 3 < C 0 1) (hh : k / 3 < C 0 0) :
    ∃ r x U' B' P' S', f_Pusher_run H U B P (nI m) (nI k) = some (r, U', B', P') ∧ f_M_pushesBy A MS (nI m) (nI k) = some (x, S') ∧ RU C U' ∧ ((x = 0 ∧ r = -1) ∨ (x = 1 ∧ ∃ pl n, n ≤ 100 ∧ r = nI n ∧ S' 0 58 = nI n ∧ RB C pl (C 16) B' ∧ (∀ m, pl m ≤ 30) ∧ (∀ m, m < C 0 3 → okP C (pl m)) ∧ ∀ m, m < C 0 3 → S' 4 m = oI (pl m))) := by
  have hN := hW.2.2.2.1
  have hpl := hW.plan
  have hf := hW.fixed m
  unfold f_Pusher_run f_M_pushesBy cpM
  rw [if_pos (by decide), obs, Y_inWay hW hH hB hpl hm hk, obs, Y_isFixed hW hH hm, obs, M_isFixed hW hM hm, obs]
  by_cases c1 : C 10 m = 1
  · rw [if_pos (show nI (C 10 m) ≠ 0 by rw [c1]; decide), if_pos (show nI (C 10 m) ≠ 0 by rw [c1]; decide)]
    exact ⟨_, _, _, _, _, _, rfl, rfl, hU, Or.inl ⟨zb_0, rfl⟩⟩
  · have c1' : C 10 m = 0 := by omega
    rw [if_neg (show ¬ nI (C 10 m) ≠ 0 by rw [c1']; decide), if_neg (show ¬ nI (C 10 m) ≠ 0 by rw [c1']; decide), Y_mayEnter (pl := C 15) hW hH hB hm hk hr, obs]
    obtain ⟨x, o1, o2⟩ := M_own0 hW hM hm hk hr
    rw [o1, obs]
    by_cases c2 : s_last C m k = 0 ∧ ¬ (s_held C (k % 3) (C 0 4)).testBit (k / 3) = true
    · rw [if_pos (o2.mpr c2), ixx_nI (by omega) (by omega), obs, obs]
      let pM : Nat → Nat := fun x => if x = m then 0 else C 15 x
      have pe : ∀ x, pM x = if x = m then 0 else C 15 x := fun _ => rfl
      let S0 : Nat → Nat → Int32 := u2 (u1 MS 4 (fun j => if j < (10 : Int32).toNatClampNeg then A 7 j else MS 4 j)) 4 m (-1)
      have hS0 : ∀ x, x < C 0 3 → S0 4 x = oI (pM x) := fun x hx => by
        show u2 (u1 MS 4 _) 4 m (-1) 4 x = _
        rw [pe]
        by_cases hxm : x = m
        · rw [if_pos hxm, hxm, u2_same, oI_0]
        · rw [if_neg hxm, u2_col _ _ hxm]
          show (if x < (10 : Int32).toNatClampNeg then A 7 x else MS 4 x) = _
          rw [cl_10, if_pos (by omega), hM.here hx]
      have pM30 : ∀ x, pM x ≤ 30 := fun x => by
        rw [pe]; split
        · omega
        · exact hpl x
      have hway : ∀ o, s_way C (C 15) m k o ↔ s_way C pM m k o := fun o => by
        show (o ≠ m ∧ C 15 o ≠ 0 ∧ (C 15 o - 1) / 3 = k / 3 ∧ C 8 m &&& C 8 o ≠ 0) ∨ (o ≠ m ∧ C 15 o = k + 1) ↔ (o ≠ m ∧ pM o ≠ 0 ∧ (pM o - 1) / 3 = k / 3 ∧ C 8 m &&& C 8 o ≠ 0) ∨ (o ≠ m ∧ pM o = k + 1)
        rw [pe]
        by_cases hom : o = m
        · exact ⟨fun h => by rcases h with h | h <;> exact absurd hom h.1, fun h => by rcases h with h | h <;> exact absurd hom h.1⟩
        · rw [if_neg hom]
      have hbs : bs (s_way C (C 15) m k) (C 0 3) = bs (s_way C pM m k) (C 0 3) := bs_congr (fun x _ => hway x)
      have hbs2 : bs (fun o => s_way C (C 15) m k o ∧ C 10 o = 1) (C 0 3) = bs (fun o => s_way C pM m k o ∧ C 10 o = 1) (C 0 3) := bs_congr (fun x _ => by rw [hway x])
      have eI : f_M_inWay A S0 (nI m) (nI k) = some (nI (bs (s_way C pM m k) (C 0 3))) := M_inWay hW hM hS0 pM30 hm hk
      show ∃ r x U' B' P' S', (if (if s_ent C (C 15) m k then (1 : Int32) else 0) ≠ 0 then _ else _) = _ ∧ ((f_M_inWay A S0 (nI m) (nI k)).bind _) = _ ∧ _
      rw [eI, obs, M_areFree hW hM, obs]
      by_cases c3 : bs (fun o => s_way C pM m k o ∧ C 10 o = 1) (C 0 3) = 0
      · have w1 : (if s_ent C (C 15) m k then (1 : Int32) else 0) = 1 := if_pos ⟨c2, by rw [hbs2]; exact c3⟩
        have w2 : (if bs (fun o => s_way C pM m k o ∧ C 10 o = 1) (C 0 3) = 0 then (1 : Int32) else 0) = 1 := if_pos c3
        rw [w1, w2, if_pos (by decide), if_pos (by decide), hbs]
        let S1 : Nat → Nat → Int32 := u2 (u2 (u2 S0 0 56 0) 0 57 0) 0 58 0
        let pB : Nat → Nat := fun x => if x = m then k + 1 else C 15 x
        have pbe : ∀ x, pB x = if x = m then k + 1 else C 15 x := fun _ => rfl
        obtain ⟨B', P', M', f', b', t1, t2, t3, t4, t5, t6, t7, t8, t9, t10, t11, t12, t13, t14⟩ := takes_both (H := H) (A := A) (B := u2 B 1 m (nI k)) (P := u2 P 0 2 0) (M := S1) (pB := pB) (pM := pM) (f := fun _ => 0) (a := 0) (b := 0) (m := m) (k := k) hW hH hM pM30 (by omega) hm hk (fun x hx => by
          rw [pbe]
          by_cases hxm : x = m
          · rw [if_pos hxm, hxm, u2_same, oI_s]
          · rw [if_neg hxm, u2_col _ _ hxm, hB.1 x hx]) (fun x hx => by
          show u2 (u2 (u2 S0 0 56 0) 0 57 0) 0 58 0 4 x = _
          rw [u2_row _ _ (by decide), u2_row _ _ (by decide), u2_row _ _ (by decide), hS0 x hx]) (fun x hxm => by rw [pbe, pe, if_neg hxm, if_neg hxm]) ⟨Nat.le_refl _, fun j _ h2 => absurd h2 (by omega), fun i j _ _ h3 => absurd h3 (by omega)⟩ ⟨u2_same _ _ _ _, fun j h2 => absurd h2 (by omega)⟩ ⟨by
          show u2 (u2 (u2 S0 0 56 0) 0 57 0) 0 58 0 0 57 = _
          rw [u2_col _ _ (by decide), u2_same]; rfl, fun j _ h2 => absurd h2 (by omega)⟩
        have hwm : ¬ s_way C pM m k m := fun h => h.elim (fun g => g.1 rfl) (fun g => g.1 rfl)
        let pl' : Nat → Nat := fun x => if x = m then k + 1 else if s_way C pM m k x ∧ x < C 0 3 then 0 else pM x
        have ple : ∀ x, pl' x = if x = m then k + 1 else if s_way C pM m k x ∧ x < C 0 3 then 0 else pM x := fun _ => rfl
        have pw : ∀ x, x < C 0 3 → (if s_way C pM m k x ∧ x < C 0 3 then 0 else pM x) = (if s_way C pM m k x then 0 else pM x) := fun x hx => by
          by_cases hc : s_way C pM m k x
          · rw [if_pos ⟨hc, hx⟩, if_pos hc]
          · rw [if_neg (fun g => hc g.1), if_neg hc]
        have hPP : PP C M' pl' f' 0 b' 0 B' P' M' := by
          refine ⟨⟨fun x hx => ?_, fun x hx => ?_, fun r hr => ?_⟩, fun x => ?_, fun x hx => ?_, fun x hx => ?_, ⟨t10.1, fun j h1 h2 => ?_, t10.2.2⟩, t11, t12, ?_, ?_, by omega⟩
          · rw [ple]
            by_cases hxm : x = m
            · rw [if_pos hxm, hxm, t6, pbe, if_pos rfl]
            · rw [if_neg hxm, t5 x hx hxm, pw x hx]
          · rw [t7 2 x (by decide), u2_row _ _ (by decide), hB.2.1 x hx]
          · rw [t7 3 r (by decide), u2_row _ _ (by decide), hB.2.2 r hr]
          · rw [ple]
            split
            · omega
            · split
              · omega
              · exact pM30 x
          · rw [ple]
            by_cases hxm : x = m
            · rw [if_pos hxm]
              exact ⟨by omega, fun _ => ⟨by rw [Nat.add_sub_cancel]; exact hr, by rw [Nat.add_sub_cancel]; exact hh⟩⟩
            · rw [if_neg hxm]
              split
              · exact ⟨by omega, fun h => absurd rfl h⟩
              · rw [pe, if_neg hxm]; exact hP.1 x hx
          · rw [ple, t8 x hx]
            by_cases hxm : x = m
            · rw [if_pos hxm, if_pos hxm, oI_s]
            · rw [if_neg hxm, if_neg hxm, pw x hx]
          · obtain ⟨q1, q2⟩ := t10.2.1 j h1 h2
            refine ⟨q1, ?_⟩
            have hjm : f' j ≠ m := by
              intro e
              have := t14 j (by omega) h2
              rw [e] at this
              exact hwm this
            rw [ple, if_neg hjm]
            exact q2
          · rw [t9 0 56 (by decide) (by decide) (by decide)]
            show u2 (u2 (u2 S0 0 56 0) 0 57 0) 0 58 0 0 56 = _
            rw [u2_col _ _ (by decide), u2_col _ _ (by decide), u2_same]; rfl
          · rw [t9 0 58 (by decide) (by decide) (by decide)]
            show u2 (u2 (u2 S0 0 56 0) 0 57 0) 0 58 0 0 58 = _
            rw [u2_same]; rfl
        obtain ⟨U2, B2, P2, M2, pl2, n2, g1, g2, g3, g4, g5, g6, g7, g8, g9⟩ := push_loop (H := H) (A := A) (U := U) hW hF hH hM hU hPP
        refine ⟨nI n2, zb 1, U2, B2, P2, M2, ?_, ?_, g4, Or.inr ⟨zb_1, pl2, n2, g3, rfl, g9, g5, g6, g7, g8⟩⟩
        · rw [t1, obs]
          show ((loopN _ a_F (0, U, B', P')).bind _) = _
          rw [g1, obs]
        · show ((f_M_takes A S1 (nI m) (nI k)).bind _) = _
          rw [t2, obs, g2, obs]
      · have w1 : (if s_ent C (C 15) m k then (1 : Int32) else 0) = 0 := if_neg (fun h => c3 (by rw [← hbs2]; exact h.2))
        have w2 : (if bs (fun o => s_way C pM m k o ∧ C 10 o = 1) (C 0 3) = 0 then (1 : Int32) else 0) = 0 := if_neg c3
        rw [w1, w2, if_neg (by decide), if_neg (by decide)]
        exact ⟨_, _, _, _, _, _, rfl, rfl, hU, Or.inl ⟨zb_0, rfl⟩⟩
    · have w1 : (if s_ent C (C 15) m k then (1 : Int32) else 0) = 0 := if_neg (fun h => c2 h.1)
      rw [w1, if_neg (by decide), if_neg (fun h => c2 (o2.mp h))]
      exact ⟨_, _, _, _, _, _, rfl, rfl, hU, Or.inl ⟨zb_0, rfl⟩⟩
