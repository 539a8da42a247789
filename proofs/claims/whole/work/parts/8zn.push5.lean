/-! PURE MATH: pushing: the first who waits looks, side by side -/
theorem look_both {C : CS} {H A U B P M M0 : Nat → Nat → Int32} {pl f : Nat → Nat} {a b n : Nat} (hW : WFC C) (hF : WFU C) (hH : RH C H) (hM : RMo C A) (hU : RU C U) (hPP : PP C M0 pl f a b n B P M) (hab : a < b) (hn : n < 100) :
    ∃ U' B' P' M' pl' f' b', f_Pusher_look H U B P (nI n) = some (U', B', P') ∧ f_M_looks A M (nI (f a)) = some M' ∧ RU C U' ∧ PP C M0 pl' f' (a + 1) b' (n + 1) B' P' (u2 (u2 M' 0 56 (M' 0 56 + 1)) 0 58 (u2 M' 0 56 (M' 0 56 + 1) 0 58 + 1)) := by
  have hN := hW.2.2.2.1
  obtain ⟨hB, pl30, plok, h4, hQ, hP, hMW, h56, h58, hb10⟩ := hPP
  have hle := hQ.le
  obtain ⟨s1, s2, s3⟩ := hQ
  obtain ⟨hm, hm0⟩ := s2 a (Nat.le_refl _) hab
  generalize hmd : f a = m at hm hm0
  have p0 : P 1 0 = nI m := by rw [← hmd]; exact hP.2 0 (by omega)
  -- the queue without m
  let P1 := u1 (u2 P 0 2 (nI (b - a) - 1)) 1 (a_cpy (u2 P 0 2 (nI (b - a) - 1) 1) (u2 P 0 2 (nI (b - a) - 1) 1) 1 0 9)
  have hP1 : PWq f (a + 1) b P1 := by
    obtain ⟨w, hw⟩ : ∃ w, b - a = w + 1 := ⟨b - a - 1, by omega⟩
    refine ⟨?_, fun j hj => ?_⟩
    · show u2 P 0 2 (nI (b - a) - 1) 0 2 = _
      rw [u2_same, hw, nI_pred, show b - (a + 1) = w from by omega]
    · show a_cpy (u2 P 0 2 (nI (b - a) - 1) 1) _ 1 0 9 j = _
      rw [cpyN _ _ (by omega), u2_row _ _ (by decide), Nat.sub_zero, hP.2 (1 + j) (by omega), show a + (1 + j) = a + 1 + j from by omega]
  have hQ1 : QS C pl f (a + 1) b := ⟨by omega, fun j h1 h2 => s2 j (by omega) h2, fun i j h1 h2 h3 => s3 i j (by omega) h2 h3⟩
  have hne : ∀ j, a + 1 ≤ j → j < b → f j ≠ m := fun j h1 h2 e => s3 a j (Nat.le_refl _) (by omega) h2 (hmd.trans e.symm)
  have hMW1 : MWq f (a + 1) b M := ⟨hMW.1, fun j h1 h2 => hMW.2 j (by omega) h2⟩
  -- the steps, the row's first
  have fin : ∀ (B' P' M' : Nat → Nat → Int32) (pl' f' : Nat → Nat) (b' : Nat), RB C pl' (C 16) B' → (∀ m, pl' m ≤ 30) → (∀ m, m < C 0 3 → okP C (pl' m)) → (∀ m, m < C 0 3 → M' 4 m = oI (pl' m)) → QS C pl' f' (a + 1) b' → PWq f' (a + 1) b' P' → MWq f' (a + 1) b' M' → M' 0 56 = nI a → M' 0 58 = nI n → b' ≤ 10 * (n + 1) + 10 → PP C M0 pl' f' (a + 1) b' (n + 1) B' P' (u2 (u2 M' 0 56 (M' 0 56 + 1)) 0 58 (u2 M' 0 56 (M' 0 56 + 1) 0 58 + 1)) := by
    intro B' P' M' pl' f' b' g1 g2 g3 g4 g5 g6 g7 g8 g9 g10
    refine ⟨g1, g2, g3, fun m hm => ?_, g5, g6, ⟨?_, fun j h1 h2 => ?_⟩, ?_, ?_, by omega⟩
    · rw [u2_row _ _ (by decide), u2_row _ _ (by decide), g4 m hm]
    · rw [u2_col _ _ (by decide), u2_col _ _ (by decide), g7.1]
    · rw [u2_row _ _ (by decide), u2_row _ _ (by decide), g7.2 j h1 h2]
    · rw [u2_col _ _ (by decide), u2_same, g8, nI_succ]
    · rw [u2_same, u2_col _ _ (by decide), g9, nI_succ]
  have z0 : rdx (P 1) 10 (0 : Int32) = some (nI m) := by rw [show (0 : Int32) = nI 0 from rfl, rdx_nI (by omega) (by omega), p0]
  have cl1 : (1 : Int32).toNatClampNeg = 1 := by decide
  have cl9 : (9 : Int32).toNatClampNeg = 9 := by decide
  have g0 : ¬ ((1 : Int32) < 0 ∨ (0 : Int32) < 0 ∨ (9 : Int32) < 0 ∨ 10 < 1 + 9 ∨ 10 < 0 + 9) := by decide
  unfold f_Pusher_look f_M_looks
  simp only [cl1, cl_0, cl9]
  rw [z0, obs, if_neg g0, Y_firstOpen hW hH hB pl30 hm, obs, M_looksOpen hW hM h4 pl30 hm, obs, hP.1]
  cases hx : s_first (s_fr C pl m) 30 0 with
  | some k =>
    obtain ⟨_, k1, k2, _⟩ := s_first_is (p := s_fr C pl m) 30 0 k hx
    rw [show oI (oN (some k)) = nI k from oI_s k, if_pos (na_ne1 (by omega)), obs, se_l, se_r, ixx_nI (by omega) (by omega), obs]
    let pl' : Nat → Nat := fun x => if x = m then k + 1 else pl x
    have pe : ∀ x, pl' x = if x = m then k + 1 else pl x := fun _ => rfl
    refine ⟨U, u2 B 1 m (nI k), P1, u2 M 4 m (nI k), pl', f, b, rfl, rfl, hU, fin _ _ _ pl' f b ⟨fun x hx => ?_, fun x hx => ?_, fun r hr => ?_⟩ (fun x => ?_) (fun x hx => ?_) (fun x hx => ?_) ⟨hQ1.1, fun j h1 h2 => ?_, hQ1.2.2⟩ hP1 ⟨?_, fun j h1 h2 => ?_⟩ ?_ ?_ (by omega)⟩
    · rw [pe]
      by_cases hxm : x = m
      · rw [if_pos hxm, hxm, u2_same, oI_s]
      · rw [if_neg hxm, u2_col _ _ hxm, hB.1 x hx]
    · rw [u2_row _ _ (by decide), hB.2.1 x hx]
    · rw [u2_row _ _ (by decide), hB.2.2 r hr]
    · rw [pe]
      split
      · omega
      · exact pl30 x
    · rw [pe]
      by_cases hxm : x = m
      · rw [if_pos hxm]
        exact ⟨by omega, fun _ => ⟨by rw [Nat.add_sub_cancel]; exact k2.1, by rw [Nat.add_sub_cancel]; exact k2.2.1⟩⟩
      · rw [if_neg hxm]; exact plok x hx
    · rw [pe]
      by_cases hxm : x = m
      · rw [if_pos hxm, hxm, u2_same, oI_s]
      · rw [if_neg hxm, u2_col _ _ hxm, h4 x hx]
    · obtain ⟨q1, q2⟩ := hQ1.2.1 j h1 h2
      exact ⟨q1, by rw [pe, if_neg (hne j h1 h2), q2]⟩
    · rw [u2_row _ _ (by decide)]; exact hMW1.1
    · rw [u2_row _ _ (by decide)]; exact hMW1.2 j h1 h2
    · rw [u2_row _ _ (by decide), h56]
    · rw [u2_row _ _ (by decide), h58]
  | none =>
    rw [show oI (oN none) = -1 from oI_0, if_neg (fun h => h rfl), se_l]
    have plm : (fun x => if s_way C pl m 0 x then 0 else pl x) = (fun x => if s_way C pl m 0 x then 0 else pl x) := rfl
    -- what the reference's takes gives
    have tk : ∀ M' k, MXr M M' → k < 30 → _ := fun M' k (hX : MXr M M') hk => takes_both (H := H) (A := A) (B := B) (P := P1) (M := M') (pB := pl) (pM := pl) (f := f) (a := a + 1) (b := b) (m := m) (k := k) hW hH hM pl30 (by omega) hm hk hB.1 (fun x hx => by rw [hX 4 x (by decide) (by decide), h4 x hx]) (fun _ _ => rfl) hQ1 hP1 ⟨by rw [hX 0 57 (by decide) (by decide)]; exact hMW1.1, fun j h1 h2 => by rw [hX 9 j (by decide) (by decide)]; exact hMW1.2 j h1 h2⟩
    rcases yielded_both (H := H) (A := A) (U := U) (B := B) (M := M) (st := nI n) hW hF hH hM hU hB pl30 h4 hm h58 (fun M' k hX hk _ => by
      obtain ⟨B', P', M'', f', b', e1, e2, _⟩ := tk M' k hX hk
      exact ⟨M'', e2⟩) with ⟨U', M', e1, e2, e3, e4⟩ | ⟨k, U', M', M'', k1, k2, k3, e1, e2, e3, e4, e5⟩
    · rw [e1, e2, obs, obs, if_neg (fun h => h rfl), obs, se_r, se_l]
      refine ⟨U', B, P1, M', pl, f, b, rfl, rfl, e3, fin _ _ _ pl f b hB pl30 plok (fun x hx => by rw [e4 4 x (by decide) (by decide), h4 x hx]) hQ1 hP1 ⟨by rw [e4 0 57 (by decide) (by decide)]; exact hMW1.1, fun j h1 h2 => by rw [e4 9 j (by decide) (by decide)]; exact hMW1.2 j h1 h2⟩ (by rw [e4 0 56 (by decide) (by decide), h56]) (by rw [e4 0 58 (by decide) (by decide), h58]) (by omega)⟩
    · obtain ⟨B', P', M3, f', b', t1, t2, t3, t4, t5, t6, t7, t8, t9, t10, t11, t12, t13, t14⟩ := tk M' k e5 k1
      rw [t2] at e3
      cases e3
      rw [e1, e2, obs, obs, if_pos (na_ne1 (by omega)), Y_inWay hW hH hB pl30 hm k1, obs]
      show ∃ U' B' P' M' pl' f' b', (((f_Pusher_leave H B P1 (nI (bs (s_way C pl m k) (C 0 3)))).bind _).bind _) = _ ∧ _
      rw [t1, obs, obs, se_l, se_r]
      show ∃ U' B' P' M' pl' f' b', ((ixx 10 (nI m)).bind _) = _ ∧ _
      rw [ixx_nI (by omega) (by omega), obs]
      let pl' : Nat → Nat := fun x => if x = m then k + 1 else if s_way C pl m k x ∧ x < C 0 3 then 0 else pl x
      have pe : ∀ x, pl' x = if x = m then k + 1 else if s_way C pl m k x ∧ x < C 0 3 then 0 else pl x := fun _ => rfl
      have pw : ∀ x, x < C 0 3 → (if s_way C pl m k x ∧ x < C 0 3 then 0 else pl x) = (if s_way C pl m k x then 0 else pl x) := fun x hx => by
        by_cases hc : s_way C pl m k x
        · rw [if_pos ⟨hc, hx⟩, if_pos hc]
        · rw [if_neg (fun g => hc g.1), if_neg hc]
      have hwm : ¬ s_way C pl m k m := fun h => h.elim (fun g => g.1 rfl) (fun g => g.1 rfl)
      refine ⟨U', u2 B' 1 m (nI k), P', M'', pl', f', b', rfl, rfl, e4, fin _ _ _ pl' f' b' ⟨fun x hx => ?_, fun x hx => ?_, fun r hr => ?_⟩ (fun x => ?_) (fun x hx => ?_) (fun x hx => ?_) ⟨t10.1, fun j h1 h2 => ?_, t10.2.2⟩ t11 t12 ?_ ?_ (by omega)⟩
      · rw [pe]
        by_cases hxm : x = m
        · rw [if_pos hxm, hxm, u2_same, oI_s]
        · rw [if_neg hxm, u2_col _ _ hxm, t5 x hx hxm, pw x hx]
      · rw [u2_row _ _ (by decide), t7 2 x (by decide), hB.2.1 x hx]
      · rw [u2_row _ _ (by decide), t7 3 r (by decide), hB.2.2 r hr]
      · rw [pe]
        split
        · omega
        · split
          · omega
          · exact pl30 x
      · rw [pe]
        by_cases hxm : x = m
        · rw [if_pos hxm]
          exact ⟨by omega, fun _ => ⟨by rw [Nat.add_sub_cancel]; exact k2, by rw [Nat.add_sub_cancel]; exact k3⟩⟩
        · rw [if_neg hxm]
          split
          · exact ⟨by omega, fun h => absurd rfl h⟩
          · exact plok x hx
      · rw [pe, t8 x hx]
        by_cases hxm : x = m
        · rw [if_pos hxm, if_pos hxm]
        · rw [if_neg hxm, if_neg hxm, pw x hx]
      · obtain ⟨q1, q2⟩ := t10.2.1 j h1 h2
        refine ⟨q1, ?_⟩
        have hjm : f' j ≠ m := by
          by_cases hjb : j < b
          · rw [t13 j hjb]; exact hne j h1 hjb
          · intro e
            have := t14 j (by omega) h2
            rw [e] at this
            exact hwm this
        rw [pe, if_neg hjm]
        exact q2
      · rw [t9 0 56 (by decide) (by decide) (by decide), e5 0 56 (by decide) (by decide), h56]
      · rw [t9 0 58 (by decide) (by decide) (by decide), e5 0 58 (by decide) (by decide), h58]
