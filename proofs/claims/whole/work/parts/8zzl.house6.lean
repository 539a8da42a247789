/-! PURE MATH: house: the loop -/
def hCk (c v7 x15 : Int32) (M : Nat → Nat → Int32) : Option (Nat → Nat → Int32) :=
  if x15 ≠ 0 then
    (((if v7 = 60 then some (.inl ()) else
        (f_M_of 2651).bind fun x16 => (((if c ≠ x16 then some (.inl ()) else if (M 0 19) = 3 then some (.inr (.inl ())) else some (.inl ())) : Option ((Unit) ⊕ ((Unit) ⊕ ((Nat → Nat → Int32)))))).bind fun b27 => sumE b27 (fun _ =>
        (f_M_of 2652).bind fun x17 => (((if c ≠ x17 then some (.inl ()) else if (M 0 20) = 8 then some (.inr (.inl ())) else some (.inl ())) : Option ((Unit) ⊕ ((Unit) ⊕ ((Nat → Nat → Int32)))))).bind fun b26 => sumE b26 (fun _ =>
        (f_M_of 2649).bind fun x18 => (((if c ≠ x18 then some (.inl ()) else if (M 0 21) = 10 then some (.inr (.inl ())) else some (.inl ())) : Option ((Unit) ⊕ ((Unit) ⊕ ((Nat → Nat → Int32)))))).bind fun b25 => sumE b25 (fun _ =>
        (f_M_of 2656).bind fun x19 => (((if c ≠ x19 then some (.inl ()) else if (M 0 22) ≠ 4 then some (.inl ()) else some (.inr (.inl ()))) : Option ((Unit) ⊕ ((Unit) ⊕ ((Nat → Nat → Int32)))))).bind fun b24 => sumE b24 (fun _ =>
        (f_M_of 2650).bind fun x20 => if c ≠ x20 then some (.inr M) else if v7 ≤ 0 then some (.inr M) else (f_M_wrong M 4 (M 0 4)).bind fun MN_21 => some (.inr MN_21)) (fun q => some q)) (fun q => some q)) (fun q => some q)) (fun q => some q)) : Option ((Unit) ⊕ ((Nat → Nat → Int32))))).bind fun b29 => sumE b29 (fun _ =>
    (f_M_wrong M 3 (M 0 4)).bind fun MN_22 => some MN_22) (fun q => some q)
  else (f_M_wrong M 1 (M 0 4)).bind fun MN_23 => some MN_23
theorem M_check {D : CS} {M : Nat → Nat → Int32} {c : Int32} {i j : Nat} (h1 : M 0 19 = nI (D 0 1)) (h2 : M 0 20 = nI (D 0 2)) (h3 : M 0 21 = nI (D 0 3)) (h4 : M 0 22 = nI (D 0 4)) (hW : WD D) (hc : ∀ k, k < 13 → ((c = nI (cdT k)) = (j = k))) (hi : i ≤ 60) :
    hCk c (nI i) (if j < 10 then 1 else 0) M = if flt D i j = 0 then some M else f_M_wrong M (nI (flt D i j)) (M 0 4) := by
  obtain ⟨⟨b1, b2⟩, b3, b4, b5, b6, _⟩ := hW
  obtain ⟨_, _, f4, f0, f1, f2, _, _, _, f9, _⟩ := M_ofs
  have e60 : (nI i = 60) = (i = 60) := nI_eqP (b := 60) (by omega) (by omega)
  have e0 : (nI i ≤ 0) = (i ≤ 0) := propext (na_le (b := 0) (by omega) (by omega))
  have l1 : (nI (D 0 1) = 3) = (D 0 1 = 3) := nI_eqP (b := 3) (by omega) (by omega)
  have l2 : (nI (D 0 2) = 8) = (D 0 2 = 8) := nI_eqP (b := 8) (by omega) (by omega)
  have l3 : (nI (D 0 3) = 10) = (D 0 3 = 10) := nI_eqP (b := 10) (by omega) (by omega)
  have l4 : (nI (D 0 4) = 4) = (D 0 4 = 4) := nI_eqP (b := 4) (by omega) (by omega)
  have he2 : ∀ y : Option (Nat → Nat → Int32), (y.bind fun c1 => some c1) = y := fun y => by cases y <;> rfl
  have he3 : ∀ (y : Option (Nat → Nat → Int32)) , ((y.bind fun q => (some (.inr q) : Option (Unit ⊕ (Nat → Nat → Int32)))).bind fun b29 => sumE b29 (fun _ => f_M_wrong M 3 (M 0 4)) (fun q => some q)) = y := fun y => by cases y <;> rfl
  unfold hCk
  simp only [h1, h2, h3, h4, f4, f0, f1, f2, f9, obs, hc 0 (by omega), hc 1 (by omega), hc 2 (by omega), hc 4 (by omega), hc 9 (by omega), ne_eq, e60, e0, l1, l2, l3, l4, he2]
  have F3 : j < 10 → (i = 60 ∨ (j = 1 ∧ D 0 1 = 3) ∨ (j = 2 ∧ D 0 2 = 8) ∨ (j = 4 ∧ D 0 3 = 10) ∨ (j = 9 ∧ D 0 4 = 4)) → flt D i j = 3 := fun g1 g2 => by
    unfold flt
    rw [if_neg (by omega), if_pos g2]
  have F4 : j < 10 → ¬ (i = 60 ∨ (j = 1 ∧ D 0 1 = 3) ∨ (j = 2 ∧ D 0 2 = 8) ∨ (j = 4 ∧ D 0 3 = 10) ∨ (j = 9 ∧ D 0 4 = 4)) → (j = 0 ∧ 0 < i) → flt D i j = 4 := fun g1 g2 g3 => by
    unfold flt
    rw [if_neg (by omega), if_neg g2, if_pos g3]
  have F0 : j < 10 → ¬ (i = 60 ∨ (j = 1 ∧ D 0 1 = 3) ∨ (j = 2 ∧ D 0 2 = 8) ∨ (j = 4 ∧ D 0 3 = 10) ∨ (j = 9 ∧ D 0 4 = 4)) → ¬ (j = 0 ∧ 0 < i) → flt D i j = 0 := fun g1 g2 g3 => by
    unfold flt
    rw [if_neg (by omega), if_neg g2, if_neg g3]
  by_cases hj : j < 10
  · rw [if_pos hj, if_pos (show ¬ (1 : Int32) = 0 by decide)]
    by_cases c60 : i = 60
    · rw [if_pos c60, obs, se_l, F3 hj (Or.inl c60), if_neg (by decide)]; rfl
    · rw [if_neg c60]
      by_cases j1 : j = 1
      · rw [if_neg (fun h => h j1)]
        by_cases d : D 0 1 = 3
        · rw [if_pos d, obs, se_r, obs, se_l, F3 hj (by omega), if_neg (by decide)]; rfl
        · rw [if_neg d, obs, se_l, if_pos (show ¬ j = 2 by omega), obs, se_l, if_pos (show ¬ j = 4 by omega), obs, se_l, if_pos (show ¬ j = 9 by omega), obs, se_l, if_pos (show ¬ j = 0 by omega), obs, se_r, F0 hj (by omega) (by omega), if_pos rfl]
      · rw [if_pos j1, obs, se_l]
        by_cases j2 : j = 2
        · rw [if_neg (fun h => h j2)]
          by_cases d : D 0 2 = 8
          · rw [if_pos d, obs, se_r, obs, se_l, F3 hj (by omega), if_neg (by decide)]; rfl
          · rw [if_neg d, obs, se_l, if_pos (show ¬ j = 4 by omega), obs, se_l, if_pos (show ¬ j = 9 by omega), obs, se_l, if_pos (show ¬ j = 0 by omega), obs, se_r, F0 hj (by omega) (by omega), if_pos rfl]
        · rw [if_pos j2, obs, se_l]
          by_cases j4 : j = 4
          · rw [if_neg (fun h => h j4)]
            by_cases d : D 0 3 = 10
            · rw [if_pos d, obs, se_r, obs, se_l, F3 hj (by omega), if_neg (by decide)]; rfl
            · rw [if_neg d, obs, se_l, if_pos (show ¬ j = 9 by omega), obs, se_l, if_pos (show ¬ j = 0 by omega), obs, se_r, F0 hj (by omega) (by omega), if_pos rfl]
          · rw [if_pos j4, obs, se_l]
            by_cases j9 : j = 9
            · rw [if_neg (fun h => h j9)]
              by_cases d : D 0 4 = 4
              · rw [if_neg (fun h => h d), obs, se_r, obs, se_l, F3 hj (by omega), if_neg (by decide)]; rfl
              · rw [if_pos d, obs, se_l, if_pos (show ¬ j = 0 by omega), obs, se_r, F0 hj (by omega) (by omega), if_pos rfl]
            · rw [if_pos j9, obs, se_l]
              by_cases j0 : j = 0
              · rw [if_neg (fun h => h j0)]
                by_cases ci : i ≤ 0
                · rw [if_pos ci, obs, se_r, F0 hj (by omega) (by omega), if_pos rfl]
                · rw [if_neg ci, he3, F4 hj (by omega) (by omega), if_neg (by decide)]; rfl
              · rw [if_pos j0, obs, se_r, F0 hj (by omega) (by omega), if_pos rfl]
  · have F1 : flt D i j = 1 := by
      unfold flt
      rw [if_pos (by omega)]
    rw [if_neg hj, if_neg (fun h => h rfl), F1, if_neg (by decide)]; rfl
theorem house_stop {T H : Nat → Nat → Int32} {v : Int32} {w : Nat} (h : f_Tape_failed T = some 1) : f_House_read_l6 v T H w = some (.inr (T, H, w)) := by
  unfold f_House_read_l6
  by_cases c : 60 < v
  · rw [if_pos c]
  · rw [if_neg c, h, obs, if_pos (by decide)]
theorem house_loop {b : Nat → Nat} {n : Nat} {A : Nat → Nat → Int32} (hX : TXt b n A) : ∀ t i p D T H w M f1 f2, n - p < t → t + 2 ≤ f1 → t + 2 ≤ f2 → OSt b n p T w M → NH D H M → WD D → i ≤ 60 → (i = 0 → D 0 3 = 0 ∧ D 0 4 = 0 ∧ (∀ k, D 4 k = 0) ∧ ∀ k, D 9 k = 0) →
    ∃ T' H' w' M', loopN (fun q : Int32 × (Nat → Nat → Int32) × (Nat → Nat → Int32) × Nat => f_House_read_l6 q.1 q.2.1 q.2.2.1 q.2.2.2) f1 (nI i, T, H, w) = some (T', H', w') ∧ loopN (fun q : Int32 × (Nat → Nat → Int32) => f_M_house_l44 A q.1 q.2) f2 (nI i, M) = some M' ∧ ((T' 0 8 = 0 ∧ T' 0 9 = -1 ∧ M' 0 5 = -1 ∧ ∃ D', NH D' H' M' ∧ WD D') ∨ (FSt n T' M' ∧ ∃ D' M'', NH D' H' M'' ∧ WD D')) := by
  have hn := hX.2.1
  intro t
  induction t with
  | zero => intro i p D T H w M f1 f2 h; omega
  | succ t ih =>
    intro i p D T H w M f1 f2 ht hf1 hf2 h hD hW hi hini
    obtain ⟨f1, rfl⟩ : ∃ k, f1 = k + 2 := ⟨f1 - 2, by omega⟩
    obtain ⟨f2, rfl⟩ : ∃ k, f2 = k + 2 := ⟨f2 - 2, by omega⟩
    have hp := h.1
    obtain ⟨s1, s2⟩ := sp_le (b := b) hp
    obtain ⟨m1, m2⟩ := more_both hX h
    have hs := h.s
    have c60 : ¬ (60 : Int32) < nI i := nI_nlt (b := i) (a := 60) hi (by omega)
    by_cases hsn : k_sp b n p < n
    · rw [if_pos hsn] at m1 m2
      obtain ⟨j, hw, hm, hc⟩ := WS.num s2 h.2.2.2.2.2.2.2.2.2.2.2.2.2
      have hc13 : ∀ k, k < 13 → ((nI (q_cd b (k_sp b n p) (k_lt b n (k_sp b n p))) = nI (cdT k)) = (j = k)) := fun k hk => hc k (by omega) (tx6 k hk)
      have hDs := hD.cg (MNr.at M (nI (k_sp b n p)))
      have hck := M_check (D := D) (c := nI (q_cd b (k_sp b n p) (k_lt b n (k_sp b n p)))) (M := u2 M 0 4 (nI (k_sp b n p))) (i := i) (j := j) (hDs.1 1 (by omega)).2 (hDs.1 2 (by omega)).2 (hDs.1 3 (by omega)).2 (hDs.1 4 (by omega)).2 hW hc13 hi
      rw [u2_same] at hck
      have yh : f_House_read_l6 (nI i) T H w = if nI (flt D i j) = 0 then (f_Tape_advance T).bind fun c6 => (f_House_readClause c6.1 H c6.2 w).bind fun c7 => some (.inl ((nI i + 1), c7.1, c7.2.1, c7.2.2)) else (f_Tape_fail T (nI (flt D i j))).bind fun T_16 => some (.inl ((nI i + 1), T_16, H, w)) := by
        unfold f_House_read_l6
        rw [if_neg c60, h.f.1, obs, if_neg (fun h => h rfl), m1, obs, if_neg (fun h => h rfl), Y_wordFault hD hW hw hi, obs]
      have mh : f_M_house_l44 A (nI i) M = (hCk (nI (q_cd b (k_sp b n p) (k_lt b n (k_sp b n p)))) (nI i) (if j < 10 then 1 else 0) (u2 M 0 4 (nI (k_sp b n p)))).bind fun MN_24 => (f_M_fine MN_24).bind fun x25 => if x25 ≠ 0 then (f_M_pass A MN_24).bind fun MN_26 => (f_M_readClause A MN_26 (nI (q_cd b (k_sp b n p) (k_lt b n (k_sp b n p))))).bind fun MN_27 => (f_M_sign A MN_27 59).bind fun MN_28 => some (.inl ((nI i + 1), MN_28)) else some (.inr MN_24) := by
        have hwd := M_word (b := b) (A := A) hX hs.1 hs.2.1 hs.2.2.1
        rw [sp_sp hp, u2_u2] at hwd
        unfold f_M_house_l44
        rw [h.f.2, obs, if_neg (by decide), m2, obs, if_neg (show ¬ (1 : Int32) = 0 by decide), hwd, obs, M_isClause hc13, obs]
        rfl
      rw [hck] at mh
      have hfl := flt_le D i j
      by_cases hf : flt D i j = 0
      · rw [hf, if_pos (show nI 0 = 0 from rfl)] at yh
        rw [if_pos hf, obs, hs.f.2, obs, if_pos (by decide)] at mh
        -- the word is a clause's: it stands
        have hj10 : j < 10 := by
          unfold flt at hf
          by_cases c1 : 10 ≤ j
          · rw [if_pos c1] at hf; omega
          · omega
        have hwm := hm (by omega)
        have hwe : w = 2560 + j := by
          rcases hw with ⟨_, h⟩ | ⟨h, _⟩
          · exact h
          · omega
        have hlt : k_sp b n p < k_lt b n (k_sp b n p) := by
          have := (tx_ok j (by omega)).2.2.2.2.1
          have := hwm.1
          omega
        have hend : k_end b n (k_sp b n p) = k_lt b n (k_sp b n p) := by
          rcases sp_tok (b := b) hp with ⟨k1, k2, k3⟩ | ⟨k1, k2, k3, k4⟩ | ⟨k1, k2, k3, k4, k5⟩ | ⟨k1, k2, k3, k4, k5⟩
          · omega
          · have : k_lt b n (k_sp b n p) = k_sp b n p := run_stop (fun g => by have := g.1; have := k3.2; omega)
            omega
          · exact k5
          · have : k_lt b n (k_sp b n p) = k_sp b n p := run_stop k4
            omega
        obtain ⟨l1, l2⟩ := lt_le (b := b) s2
        have hps : f_M_pass A (u2 M 0 4 (nI (k_sp b n p))) = some (u2 M 0 4 (nI (k_lt b n (k_sp b n p)))) := by
          rw [M_passL hX hs.1 hs.2.1 hs.2.2.1, u2_u2]
        obtain ⟨T1, w1, a1, a2, a3⟩ := h.adv (M' := u2 M 0 4 (nI (k_lt b n (k_sp b n p)))) hX (by rw [hend]; exact l2) (by rw [u2_col _ _ (by decide), h.2.1]) (by rw [u2_same, hend]) (by rw [u2_col _ _ (by decide), h.2.2.2.1])
        rw [hend] at a2
        obtain ⟨T2, H2, w2, M2, e1, e2, e3⟩ := clause_both (i := i) (j := j) hX a2 (hD.cg (MNr.at M (nI (k_lt b n (k_sp b n p))))) hW hc13 hi hf hini
        rw [a1, obs, hwe, e1, obs] at yh
        rw [hps, obs] at mh
        have mh2 : f_M_house_l44 A (nI i) M = some (.inl (nI i + 1, M2)) := by
          rw [mh]
          cases hrc : f_M_readClause A (u2 M 0 4 (nI (k_lt b n (k_sp b n p)))) (nI (q_cd b (k_sp b n p) (k_lt b n (k_sp b n p)))) with
          | none => rw [hrc] at e2; cases e2
          | some M3 =>
            rw [hrc, obs] at e2
            rw [obs, e2, obs]
        rw [← hwe] at yh
        rw [← nI_succ] at yh mh2
        rcases e3 with ⟨p', D', e4, e5, e6, e7⟩ | ⟨e4, rfl⟩
        · have hi60 : i ≠ 60 := fun g => by
            unfold flt at hf
            rw [if_neg (by omega), if_pos (Or.inl g)] at hf
            omega
          obtain ⟨T', H', w', M', x1, x2, x3⟩ := ih (i + 1) p' D' T2 H2 w2 M2 (f1 + 1) (f2 + 1) (by omega) (by omega) (by omega) e5 e6 e7 (by omega) (fun g => by omega)
          refine ⟨T', H', w', M', ?_, ?_, x3⟩
          · rw [loop_l (n := f1 + 1) yh]; exact x1
          · rw [loop_l (n := f2 + 1) mh2]; exact x2
        · refine ⟨T2, H2, w2, M2, ?_, ?_, Or.inr ⟨e4, D, M, hD, hW⟩⟩
          · rw [loop_l (n := f1 + 1) yh]
            exact loop_r (house_stop (e4.f hn).1)
          · rw [loop_l (n := f2 + 1) mh2]
            refine loop_r ?_
            show f_M_house_l44 A (nI (i + 1)) M2 = _
            unfold f_M_house_l44
            rw [(e4.f hn).2, obs, if_pos rfl]
      · obtain ⟨T1, M1, g1, g2, g3, g4, g5⟩ := fail_both h (flt D i j) (by omega) hfl (MNr.at M (nI (k_sp b n p))) (by rw [u2_col _ _ (by decide), h.2.2.2.1])
        rw [if_neg (nI_ne0 (by omega) (by omega)), g1, obs] at yh
        rw [if_neg hf, g2, obs, (g3.f hn).2, obs, if_neg (fun h => h rfl)] at mh
        refine ⟨T1, H, w, M1, ?_, loop_r mh, Or.inr ⟨g3, D, M, hD, hW⟩⟩
        rw [loop_l (n := f1 + 1) yh]
        exact loop_r (house_stop (g3.f hn).1)
    · rw [if_neg hsn] at m1 m2
      refine ⟨T, H, w, u2 M 0 4 (nI (k_sp b n p)), loop_r ?_, loop_r ?_, Or.inl ⟨h.2.2.2.2.2.1, h.2.2.2.2.2.2.1, by rw [u2_col _ _ (by decide), h.2.2.2.1], D, hD.cg (MNr.at _ _), hW⟩⟩
      · show f_House_read_l6 (nI i) T H w = _
        unfold f_House_read_l6
        rw [if_neg c60, h.f.1, obs, if_neg (fun h => h rfl), m1, obs, if_pos (by decide)]
      · show f_M_house_l44 A (nI i) M = _
        unfold f_M_house_l44
        rw [h.f.2, obs, if_neg (by decide), m2, obs, if_pos rfl]
