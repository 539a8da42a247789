/-! PURE MATH: a rule is read: what opens, a unit -/
def GD (b : Nat → Nat) (n : Nat) (A : Nat → Nat → Int32) (kc kr need o : Nat) (t : Bool) : Prop := ∀ n1 n2, need ≤ n1 → need ≤ n2 → ∀ p c st T U w M, ROK b n p o c st T U w M → ∃ T' U' w' M', f_grp_cr n1 kc T U w (nI o) = some (T', U', w') ∧ f_grp_mr n2 kr A M = some M' ∧ RES b n p o c (t :: st) T' U' w' M'
/-- behind a fault the reference reads nothing -/
theorem mr_bad {A M : Nat → Nat → Int32} (h : f_M_fine M = some 0) : (∀ n, f_grp_mr (n + 1) 5 A M = some M) ∧ (∀ n, f_grp_mr (n + 2) 4 A M = some M) ∧ (∀ n, f_grp_mr (n + 3) 3 A M = some M) ∧ (∀ n, f_grp_mr (n + 1) 2 A M = some M) ∧ (∀ n, f_grp_mr (n + 2) 1 A M = some M) ∧ ∀ n, f_grp_mr (n + 3) 0 A M = some M := by
  have h5 : ∀ n, f_grp_mr (n + 1) 5 A M = some M := fun n => by
    show f_M_readUnit_B (f_grp_mr n) A M = _
    unfold f_M_readUnit_B
    rw [h, obs, if_neg (fun g => g rfl)]
  have h2 : ∀ n, f_grp_mr (n + 1) 2 A M = some M := fun n => by
    show f_M_readOne_B (f_grp_mr n) A M = _
    unfold f_M_readOne_B
    rw [h, obs, if_neg (fun g => g rfl)]
  have h4 : ∀ n, f_grp_mr (n + 2) 4 A M = some M := fun n => by
    show f_M_readProduct_B (f_grp_mr (n + 1)) A M = _
    unfold f_M_readProduct_B
    rw [h5 n, obs]
    have e : loopN (fun q => f_M_readProduct_B_l4 A (f_grp_mr (n + 1)) q) a_F M = some M := loop_r (n := 1048575) (by
      show f_M_readProduct_B_l4 A (f_grp_mr (n + 1)) M = _
      unfold f_M_readProduct_B_l4
      rw [h, obs, if_pos rfl])
    rw [e, obs]
  have h3 : ∀ n, f_grp_mr (n + 3) 3 A M = some M := fun n => by
    show f_M_readSum_B (f_grp_mr (n + 2)) A M = _
    unfold f_M_readSum_B
    rw [h4 n, obs]
    have e : loopN (fun q => f_M_readSum_B_l4 A (f_grp_mr (n + 2)) q) a_F M = some M := loop_r (n := 1048575) (by
      show f_M_readSum_B_l4 A (f_grp_mr (n + 2)) M = _
      unfold f_M_readSum_B_l4
      rw [h, obs, if_pos rfl])
    rw [e, obs]
  have h1 : ∀ n, f_grp_mr (n + 2) 1 A M = some M := fun n => by
    show f_M_readAll_B (f_grp_mr (n + 1)) A M = _
    unfold f_M_readAll_B
    rw [h2 n, obs]
    have e : loopN (fun q => f_M_readAll_B_l4 A (f_grp_mr (n + 1)) q) a_F M = some M := loop_r (n := 1048575) (by
      show f_M_readAll_B_l4 A (f_grp_mr (n + 1)) M = _
      unfold f_M_readAll_B_l4
      rw [h, obs, if_pos rfl])
    rw [e, obs]
  refine ⟨h5, h4, h3, h2, h1, fun n => ?_⟩
  show f_M_readAny_B (f_grp_mr (n + 2)) A M = _
  unfold f_M_readAny_B
  rw [h1 n, obs]
  have e : loopN (fun q => f_M_readAny_B_l4 A (f_grp_mr (n + 2)) q) a_F M = some M := loop_r (n := 1048575) (by
    show f_M_readAny_B_l4 A (f_grp_mr (n + 2)) M = _
    unfold f_M_readAny_B_l4
    rw [h, obs, if_pos rfl])
  rw [e, obs]
/-- what opens, the reference -/
theorem M_opens {M : Nat → Nat → Int32} {o s k : Nat} (h5 : M 0 5 = -1) (h7 : M 0 7 = nI o) (ho : o < 6) (h4 : M 0 4 = nI s) : f_M_opensOne M (nI k) = some (u2 (u2 M 0 4 (nI (s + k))) 0 7 (nI (o + 1))) := by
  have e6 : (nI o = 6) = (o = 6) := nI_eqP (b := 6) (by omega) (by omega)
  unfold f_M_opensOne
  rw [M_fine1 h5, obs, if_neg (by decide), h7]
  simp only [ne_eq, e6]
  rw [if_pos (by omega), obs, M_fine1 h5, obs, if_neg (by decide), obs, u2_col _ _ (by decide), h7, h4, na_add, ← nI_succ]
theorem M_opens_full {M M2 : Nat → Nat → Int32} {k s : Nat} {n : Nat} {T : Nat → Nat → Int32} (hn : n ≤ 600) (h5 : M 0 5 = -1) (h7 : M 0 7 = nI 6) (h4 : M 0 4 = nI s) (hw : f_M_wrong M 3 (nI s) = some M2) (hf : FSt n T M2) : f_M_opensOne M (nI k) = some (u2 M2 0 7 (M2 0 7 + 1)) := by
  unfold f_M_opensOne
  rw [M_fine1 h5, obs, if_neg (by decide), h7, if_neg (fun g => g rfl), h4, hw, obs, obs, (hf.f hn).2, obs, if_pos rfl, obs]
theorem Y_opens {T : Nat → Nat → Int32} {w o : Nat} (ho : o < 6) {T' : Nat → Nat → Int32} {w' : Nat} (ha : f_Tape_advance T = some (T', w')) : f_Rule_opens T w (nI o) = some (1, T', w') := by
  unfold f_Rule_opens
  rw [if_pos (show nI o < 6 from nI_lt (b := 6) ho (by omega)), ha, obs, zb_1]
theorem Y_opens_full {T : Nat → Nat → Int32} {w : Nat} {T' : Nat → Nat → Int32} (ha : f_Tape_fail T 3 = some T') : f_Rule_opens T w (nI 6) = some (0, T', w) := by
  unfold f_Rule_opens
  rw [if_neg (by decide), ha, obs, zb_0]
theorem hv_ne {b : Nat → Nat} {n s c : Nat} (hb : ∀ i, b i < 256) (hc : c < 256) (h : s < n → b s ≠ c) (h0 : c ≠ 0) : hv b n s ≠ nI c := by
  obtain ⟨x, hx, e1, e2, e3⟩ := hv_31 (b := b) (n := n) (s := s) hb
  rw [e1]
  intro g
  have g := (na_eq (by omega) (by omega)).mp g
  by_cases hs : s < n
  · exact h hs (by rw [← e2 hs, g])
  · have := e3 hs; omega
theorem unit_ok {b : Nat → Nat} {n o : Nat} {A : Nat → Nat → Int32} (hX : TXt b n A) (hn : n ≤ 150) (ho : o ≤ 6) (hS : o < 6 → GD b n A 3 3 (21 - 3 * o) (o + 1) false) : GD b n A 5 5 (22 - 3 * o) o false := by
  intro n1 n2 hn1 hn2 p c st T U w M h
  obtain ⟨m1, rfl⟩ : ∃ k, n1 = k + 1 := ⟨n1 - 1, by omega⟩
  obtain ⟨m2, rfl⟩ : ∃ k, n2 = k + 1 := ⟨n2 - 1, by omega⟩
  obtain ⟨h, h7, hcp, E, hE⟩ := h
  have hb := hX.1
  have hp := h.1
  have hs := h.s
  obtain ⟨s1, s2⟩ := sp_le (b := b) hp
  obtain ⟨j, hw, hm, hc⟩ := WS.num s2 h.2.2.2.2.2.2.2.2.2.2.2.2.2
  have hno : 23 ≤ j → ∀ k, k < 23 → ¬ WM b (k_sp b n p) (k_lt b n (k_sp b n p)) k := fun hj k hk => by
    rcases h.2.2.2.2.2.2.2.2.2.2.2.2.2 with ⟨k', hk', hw', hm'⟩ | ⟨_, hn'⟩
    · exfalso
      rcases hw with ⟨g, _⟩ | ⟨_, g⟩ <;> omega
    · exact hn' k hk
  have h7s : (u2 M 0 4 (nI (k_sp b n p))) 0 7 = nI o := by rw [u2_col _ _ (by decide), h7]
  have hEs : CDE E c st U (u2 M 0 4 (nI (k_sp b n p))) := hE.m0 (by decide) _
  show ∃ T' U' w' M', f_Rule_readUnit_B (f_grp_cr m1) T U w (nI o) = _ ∧ f_M_readUnit_B (f_grp_mr m2) A M = _ ∧ _
  unfold f_Rule_readUnit_B f_M_readUnit_B
  rw [h.f.1, h.f.2, obs, obs, if_pos (show (0 : Int32) = 0 from rfl), if_pos (show (1 : Int32) ≠ 0 by decide), M_here hX hp h.2.1 h.2.2.1, obs]
  dsimp only
  have here2 : f_M_here A (u2 M 0 4 (nI (k_sp b n p))) = some (hv b n (k_sp b n p), u2 M 0 4 (nI (k_sp b n p))) := by rw [M_here hX hs.1 hs.2.1 hs.2.2.1, sp_sp hp, u2_u2]
  -- a word stands: its first byte is a letter
  have hlet : j < 23 → k_sp b n p < n ∧ 97 ≤ b (k_sp b n p) ∧ b (k_sp b n p) ≤ 122 := fun hj => by
    have hwm := hm hj
    have h1 := (tx_ok j hj).2.2.2.2.1
    obtain ⟨l1, l2⟩ := lt_le (b := b) s2
    have e := hwm.2 0 (by omega)
    have := (tx_ch j hj 0 (by omega)).2
    have e : b (k_sp b n p) = (tx j).getD 0 0 := e
    have := hwm.1
    exact ⟨by omega, by omega, by omega⟩
  by_cases hf : j < 23 ∧ fct j ≠ 0
  · obtain ⟨hj, hf⟩ := hf
    obtain ⟨g1, g2⟩ := hlet hj
    have hwe : w = 2560 + j := by
      rcases hw with ⟨_, g⟩ | ⟨g, _⟩
      · exact g
      · omega
    obtain ⟨_, t2, _⟩ := tx_ok j hj
    obtain ⟨sl1, sl2⟩ := W_slot j hj
    obtain ⟨f, hff⟩ : ∃ f, fct j = f + 1 := ⟨fct j - 1, by omega⟩
    have hsl : w_slot (2560 + j) = nI f := by rw [sl1, hff, oI_s]
    obtain ⟨T1, w1, a1, a2, a3, a4, a5⟩ := word_step (A := A) hX h hj (hm hj)
    have hne40 : hv b n (k_sp b n p) ≠ 40 := hv_ne (c := 40) hb (by omega) (fun _ => by omega) (by omega)
    obtain ⟨x, hx, x1, x2, x3⟩ := hv_31 (b := b) (n := n) (s := k_sp b n p) hb
    have hxl := x2 g1
    obtain ⟨U', M', E', u1, u2', u3, u4⟩ := emit_ok (cc := 1) (oo := f) (st' := false :: st) (M := u2 M 0 4 (nI (k_lt b n (k_sp b n p)))) (hE.m0 (by decide) _) (by rw [u2_col _ _ (by decide), h.2.2.2.1]) (by omega) (by
      show (if f < 11 then some (false :: st) else none) = _
      rw [if_pos (by omega)])
    have u1 : f_Rule_emit U (nI (100 + f)) = some U' := u1
    have u2' : f_M_emit (u2 M 0 4 (nI (k_lt b n (k_sp b n p)))) 1 (nI f) = some M' := u2'
    refine ⟨T1, U', w1, M', ?_, ?_, Or.inl ⟨k_lt b n (k_sp b n p), c + 1, by have := (tx_ok j hj).2.2.2.2.1; omega, by have := (tx_ok j hj).2.2.2.2.1; omega, a2.cg (fun x hx => u4 x (by omega)), by rw [u4 7 (by decide), u2_col _ _ (by decide), h7], by have := (tx_ok j hj).2.2.2.2.1; omega, E', u3⟩⟩
    · rw [hwe, if_pos (Or.inr t2), if_neg (by omega), if_pos t2, hsl, if_neg (na_ne1 (by omega)), if_pos t2, show (100 : Int32) + nI f = nI (100 + f) from na_add 100 f, u1, obs, a1, obs, obs, se_r]
    · rw [if_pos hne40, here2, obs]
      dsimp only
      rw [x1, M_isDig hx, obs, if_neg (show ¬ (48 ≤ x ∧ x ≤ 57) by omega), if_pos (show (0 : Int32) = 0 from rfl), M_factHere (j := j) hX hs.1 hs.2.1 hs.2.2.1 (by rw [sp_sp hp]; exact hm) (by rw [sp_sp hp]; exact hno) (by rw [sp_sp hp]; exact hc), obs, sp_sp hp, u2_u2, hff, oI_s]
      dsimp only
      rw [if_pos (na_ne1 (by omega)), obs, hs.f.2, obs, if_pos (by decide), a4, obs, u2', obs]
  · have hb1 : ((if okW w then (if w = 0 then some (.inl ()) else if isW w then if (w_slot w) = (-1) then some (.inl ()) else if isW w then (f_Rule_emit U (100 + (w_slot w))).bind fun RU_2 => (f_Tape_advance T).bind fun c4 => some (.inr (c4.1, RU_2, c4.2)) else none else none) else none : Option ((Unit) ⊕ ((Nat → Nat → Int32) × (Nat → Nat → Int32) × Nat)))) = some (.inl ()) := by
      rcases hw with ⟨hj, hwe⟩ | ⟨hj, hwe⟩
      · have hf0 : fct j = 0 := Decidable.byContradiction (fun g => hf ⟨hj, g⟩)
        obtain ⟨_, t2, _⟩ := tx_ok j hj
        rw [hwe, if_pos (Or.inr t2), if_neg (by omega), if_pos t2, (W_slot j hj).1, hf0, if_pos oI_0]
      · rw [hwe, if_pos (Or.inl rfl), if_pos rfl]
    rw [hb1, obs, se_l]
    obtain ⟨q1, q2⟩ := atSign_is (c := 40) hb h (by omega) (by omega) (by omega) (by omega)
    have q1 : f_Tape_atSign T 40 = _ := q1
    rw [q1, obs]
    by_cases c40 : hv b n (k_sp b n p) = nI 40
    · obtain ⟨g1, g2⟩ := q2 c40
      rw [if_pos c40, if_neg (by decide), if_neg (fun g => g c40)]
      by_cases ho6 : o < 6
      · obtain ⟨T1, w1, a1, a2⟩ := sgn_step (A := A) hX h g1 g2
        have em : f_M_opensOne (u2 M 0 4 (nI (k_sp b n p))) 1 = some (u2 (u2 M 0 4 (nI (k_sp b n p + 1))) 0 7 (nI (o + 1))) := by
          have := M_opens (k := 1) hs.2.2.2.1 h7s ho6 hs.2.2.1
          rw [u2_u2] at this
          exact this
        rw [Y_opens ho6 a1, obs, if_neg (show ¬ (1 : Int32) = 0 by decide), em, obs]
        have hr1 : ROK b n (k_sp b n p + 1) (o + 1) c st T1 U w1 (u2 (u2 M 0 4 (nI (k_sp b n p + 1))) 0 7 (nI (o + 1))) := ⟨a2.cg (fun x hx => by rw [u2_col _ _ (by omega)]), u2_same _ _ _ _, by omega, E, (hE.m0 (by decide) _).m0 (by decide) _⟩
        obtain ⟨T2, U2, w2, M2, b1, b2, b3⟩ := hS ho6 m1 m2 (by omega) (by omega) _ c st T1 U w1 _ hr1
        rw [← nI_succ, b1, b2, obs, obs]
        rcases b3 with ⟨p2, c2, hp2, hc2, e1, e7, ecp, E2, eE⟩ | hbad
        · rcases sign_bothQ (c := 41) hX e1 (by omega) (by omega) (by omega) (by omega) with ⟨T3, w3, M3, p3, y3, r3, o3, pp3, tt3, mm3⟩ | ⟨T3, M3, y3, r3, fs3, tt3, mm3, q, hq, hq4⟩
          · have y3 : f_Tape_pass T2 w2 41 = some (1, T3, w3) := y3
            have r3 : f_M_sign A M2 41 = some M3 := r3
            rw [y3, r3, obs, obs]
            refine ⟨T3, U2, w3, u2 M3 0 7 (nI o), rfl, ?_, Or.inl ⟨p3, c2, by omega, by omega, o3.cg (fun x hx => by rw [u2_col _ _ (by omega)]), u2_same _ _ _ _, by omega, E2, (eE.mn mm3).m0 (by decide) _⟩⟩
            rw [mm3 0 7 (by omega), e7, nI_pred]
          · have y3 : f_Tape_pass T2 w2 41 = some (0, T3, w2) := y3
            have r3 : f_M_sign A M2 41 = some M3 := r3
            rw [y3, r3, obs, obs]
            have hbd : RBD n T3 U2 M3 := ⟨fs3, by rw [mm3 0 3 (by omega), e1.2.1], ⟨q, hq, hq4⟩, eE.u (by have := e1.1; omega)⟩
            exact ⟨T3, U2, w2, u2 M3 0 7 (M3 0 7 - 1), rfl, rfl, Or.inr (hbd.cg (fun x hx => by rw [u2_col _ _ (by omega)]) hbd.2.2.2)⟩
        · obtain ⟨sf1, sf2⟩ := sign_fail (w := w2) (A := A) (by omega) hbad.1 41
          rw [sf1, sf2, obs, obs]
          exact ⟨T2, U2, w2, u2 M2 0 7 (M2 0 7 - 1), rfl, rfl, Or.inr (hbad.cg (fun x hx => by rw [u2_col _ _ (by omega)]) hbad.2.2.2)⟩
      · have ho' : o = 6 := by omega
        subst ho'
        obtain ⟨T1, M1, f1, f2, f3, f4, f5, f6⟩ := fail_bothQ h 3 (by omega) (by omega) (MNr.at M (nI (k_sp b n p))) (by rw [u2_col _ _ (by decide), h.2.2.2.1])
        have f1 : f_Tape_fail T 3 = some T1 := f1
        have f2 : f_M_wrong (u2 M 0 4 (nI (k_sp b n p))) 3 (nI (k_sp b n p)) = some M1 := f2
        have em : f_M_opensOne (u2 M 0 4 (nI (k_sp b n p))) 1 = some (u2 M1 0 7 (M1 0 7 + 1)) := M_opens_full (k := 1) (by omega) hs.2.2.2.1 h7s hs.2.2.1 f2 f3
        have f3' : FSt n T1 (u2 M1 0 7 (M1 0 7 + 1)) := f3.cg (fun x hx => by rw [u2_col _ _ (by omega)])
        have hM3 : M1 0 3 = nI n := by rw [f5 0 3 (by omega), h.2.1]
        have hM4 : M1 0 4 = nI (k_sp b n p) := by rw [f6, u2_same]
        have hmb : f_grp_mr m2 3 A (u2 M1 0 7 (M1 0 7 + 1)) = some (u2 M1 0 7 (M1 0 7 + 1)) := by
          obtain ⟨k, rfl⟩ : ∃ k, m2 = k + 3 := ⟨m2 - 3, by omega⟩
          exact (mr_bad (f3'.f (by omega)).2).2.2.1 k
        rw [Y_opens_full f1, obs, if_pos rfl, em, obs, hmb, obs, (sign_fail (w := 0) (A := A) (by omega) f3' 41).2, obs]
        exact ⟨T1, U, w, _, rfl, rfl, Or.inr ⟨f3.cg (fun x hx => by rw [u2_col _ _ (by omega), u2_col _ _ (by omega)]), by rw [u2_col _ _ (by omega), u2_col _ _ (by omega), hM3], ⟨k_sp b n p, s2, by rw [u2_col _ _ (by omega), u2_col _ _ (by omega), hM4]⟩, hE.u (by omega)⟩⟩
    · rw [if_neg c40, if_pos rfl, if_pos (show hv b n (k_sp b n p) ≠ 40 from c40), here2, obs]
      dsimp only
      obtain ⟨x, hx, x1, x2, x3⟩ := hv_31 (b := b) (n := n) (s := k_sp b n p) hb
      rw [x1, M_isDig hx, obs]
      by_cases hdg : 48 ≤ x ∧ x ≤ 57
      · rw [if_pos hdg, if_neg (show ¬ (1 : Int32) = 0 by decide)]
        have hsn : k_sp b n p < n := Decidable.byContradiction (fun g => by have := x3 g; omega)
        rcases number_bothQ (lo := 0) (hi := 100) hX hs (by omega) (by omega) with ⟨v, T1, w1, M1, p1, _, vh, y1, r1, o1, pp1, tt1, mm1⟩ | ⟨T1, M1, y1, r1, fs1, tt1, mm1, q, hq, hq4⟩
        · rw [oI_99] at y1 r1
          have y1 : f_Tape_number T w 0 99 = some (nI v, T1, w1) := y1
          have r1 : f_M_readNumber A (u2 M 0 4 (nI (k_sp b n p))) 0 99 = some (nI v, M1) := r1
          have hE1 := hEs.mn mm1
          obtain ⟨U', M', E', u1, u2', u3, u4⟩ := emit_ok (cc := 0) (oo := v) (st' := false :: st) hE1 o1.2.2.2.1 (by omega) (by
            show (if v < 100 then some (false :: st) else none) = _
            rw [if_pos (by omega)])
          have u1 : f_Rule_emit U (nI v) = some U' := u1
          have u2' : f_M_emit M1 0 (nI v) = some M' := u2'
          rw [y1, obs, u1, obs, r1, obs]
          dsimp only
          rw [u2', obs]
          exact ⟨T1, U', w1, M', rfl, rfl, Or.inl ⟨p1, c + 1, by omega, by omega, o1.cg (fun x hx => u4 x (by omega)), by rw [u4 7 (by decide), mm1 0 7 (by omega), h7s], by omega, E', u3⟩⟩
        · rw [oI_99] at y1 r1
          have y1 : f_Tape_number T w 0 99 = some (-1, T1, w) := y1
          have r1 : f_M_readNumber A (u2 M 0 4 (nI (k_sp b n p))) 0 99 = some (0, M1) := r1
          have hbd : RBD n T1 U M1 := ⟨fs1, by rw [mm1 0 3 (by omega), hs.2.1], ⟨q, hq, hq4⟩, hE.u (by omega)⟩
          obtain ⟨U', u1, u2'⟩ := hbd.u (-1)
          rw [y1, obs, u1, obs, r1, obs]
          dsimp only
          rw [emitM_bad (fs1.f (by omega)).2, obs]
          exact ⟨T1, U', w, M1, rfl, rfl, Or.inr u2'⟩
      · rw [if_neg hdg, if_pos rfl]
        have hkind : ¬ T 0 3 = 1 := by
          rw [h.2.2.2.2.2.2.2.2.2.1]
          rcases sp_tok (b := b) hp with ⟨k1, _⟩ | ⟨k1, k2, k3, _⟩ | ⟨k1, _⟩ | ⟨k1, _⟩
          · rw [k1]; decide
          · exfalso; rw [x2 k2] at hdg; exact hdg k3
          · rw [k1]; decide
          · rw [k1]; decide
        obtain ⟨T1, M1, f1, f2, f3, f4, f5, f6⟩ := fail_bothQ h 1 (by omega) (by omega) (MNr.at M (nI (k_sp b n p))) (by rw [u2_col _ _ (by decide), h.2.2.2.1])
        have f1 : f_Tape_fail T 1 = some T1 := f1
        have f2 : f_M_wrong (u2 M 0 4 (nI (k_sp b n p))) 1 (nI (k_sp b n p)) = some M1 := f2
        have y1 : f_Tape_number T w 0 99 = some (-1, T1, w) := by
          unfold f_Tape_number
          rw [h.f.1, obs, if_pos rfl, if_neg hkind, f1, obs]
        have hbd : RBD n T1 U M1 := ⟨f3, by rw [f5 0 3 (by omega), h.2.1], ⟨k_sp b n p, s2, by rw [f6, u2_same]⟩, hE.u (by omega)⟩
        obtain ⟨U', u1, u2'⟩ := hbd.u (-1)
        have hf0 : fct j = 0 := by
          by_cases hj : j < 23
          · exact Decidable.byContradiction (fun g => hf ⟨hj, g⟩)
          · unfold fct
            rw [List.getD_eq_getElem?_getD, List.getElem?_eq_none (by show 23 ≤ j; omega)]
            rfl
        rw [y1, obs, u1, obs, M_factHere (j := j) hX hs.1 hs.2.1 hs.2.2.1 (by rw [sp_sp hp]; exact hm) (by rw [sp_sp hp]; exact hno) (by rw [sp_sp hp]; exact hc), obs, sp_sp hp, u2_u2, hf0, oI_0]
        dsimp only
        rw [if_neg (fun g => g rfl), u2_same, f2, obs, obs, (f3.f (by omega)).2, obs, if_neg (fun g => g rfl)]
        exact ⟨T1, U', w, M1, rfl, rfl, Or.inr u2'⟩
