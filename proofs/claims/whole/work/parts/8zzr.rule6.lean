/-! PURE MATH: a rule is read: what stands between operands -/
def STP (b : Nat → Nat) (n o p c i : Nat) (st : List Bool) (bc : Int32 × (Nat → Nat → Int32) × (Nat → Nat → Int32) × Nat → Option ((Int32 × (Nat → Nat → Int32) × (Nat → Nat → Int32) × Nat) ⊕ ((Nat → Nat → Int32) × (Nat → Nat → Int32) × Nat))) (bm : (Nat → Nat → Int32) → Option ((Nat → Nat → Int32) ⊕ (Nat → Nat → Int32))) (T U : Nat → Nat → Int32) (w : Nat) (M : Nat → Nat → Int32) : Prop :=
  (bc (nI i, T, U, w) = some (.inr (T, U, w)) ∧ bm M = some (.inr (u2 M 0 4 (nI (k_sp b n p))))) ∨ ∃ T' U' w' M', bc (nI i, T, U, w) = some (.inl (nI (i + 1), T', U', w')) ∧ bm M = some (.inl M') ∧ RES b n p o c st T' U' w' M'
theorem op_loop {b : Nat → Nat} {n o : Nat} {st : List Bool} {bc : Int32 × (Nat → Nat → Int32) × (Nat → Nat → Int32) × Nat → Option ((Int32 × (Nat → Nat → Int32) × (Nat → Nat → Int32) × Nat) ⊕ ((Nat → Nat → Int32) × (Nat → Nat → Int32) × Nat))} {bm : (Nat → Nat → Int32) → Option ((Nat → Nat → Int32) ⊕ (Nat → Nat → Int32))}
    (hs : ∀ i p c T U w M, i ≤ p → ROK b n p o c st T U w M → STP b n o p c i st bc bm T U w M) (hbad : ∀ v T U w M, RBD n T U M → bc (v, T, U, w) = some (.inr (T, U, w)) ∧ bm M = some (.inr M)) :
    ∀ d f1 f2 i p c T U w M, n - p < d → d + 1 ≤ f1 → d + 1 ≤ f2 → i ≤ p → ROK b n p o c st T U w M → ∃ T' U' w' M', loopN bc f1 (nI i, T, U, w) = some (T', U', w') ∧ loopN bm f2 M = some M' ∧ ((∃ p' c', p ≤ p' ∧ c' + p ≤ c + p' ∧ ROK b n p' o c' st T' U' w' M') ∨ RBD n T' U' M') := by
  intro d
  induction d with
  | zero => intro f1 f2 i p c T U w M h; omega
  | succ d ih =>
    intro f1 f2 i p c T U w M hd hf1 hf2 hi h
    obtain ⟨g1, rfl⟩ : ∃ k, f1 = k + 1 := ⟨f1 - 1, by omega⟩
    obtain ⟨g2, rfl⟩ : ∃ k, f2 = k + 1 := ⟨f2 - 1, by omega⟩
    rcases hs i p c T U w M hi h with ⟨a1, a2⟩ | ⟨T1, U1, w1, M1, a1, a2, a3⟩
    · obtain ⟨h1, h7, hcp, E, hE⟩ := h
      have s1 := (sp_le (b := b) h1.1).1
      exact ⟨T, U, w, _, loop_r a1, loop_r a2, Or.inl ⟨k_sp b n p, c, s1, by omega, h1.s, by rw [u2_col _ _ (by decide), h7], by omega, E, hE.m0 (by decide) _⟩⟩
    · rw [loop_l a1, loop_l a2]
      rcases a3 with ⟨p', c', h1, h2, h3⟩ | h3
      · have := h3.1.1
        obtain ⟨T2, U2, w2, M2, b1, b2, b3⟩ := ih g1 g2 (i + 1) p' c' T1 U1 w1 M1 (by omega) (by omega) (by omega) (by omega) h3
        refine ⟨T2, U2, w2, M2, b1, b2, ?_⟩
        rcases b3 with ⟨p2, c2, k1, k2, k3⟩ | k3
        · exact Or.inl ⟨p2, c2, by omega, by omega, k3⟩
        · exact Or.inr k3
      · obtain ⟨k1, k2⟩ := hbad (nI (i + 1)) T1 U1 w1 M1 h3
        obtain ⟨e1, rfl⟩ : ∃ k, g1 = k + 1 := ⟨g1 - 1, by omega⟩
        obtain ⟨e2, rfl⟩ : ∃ k, g2 = k + 1 := ⟨g2 - 1, by omega⟩
        exact ⟨T1, U1, w1, M1, loop_r k1, loop_r k2, Or.inr h3⟩
theorem op_grp {b : Nat → Nat} {n o kc kr need m1 m2 : Nat} {t : Bool} {A : Nat → Nat → Int32} {bc : Int32 × (Nat → Nat → Int32) × (Nat → Nat → Int32) × Nat → Option ((Int32 × (Nat → Nat → Int32) × (Nat → Nat → Int32) × Nat) ⊕ ((Nat → Nat → Int32) × (Nat → Nat → Int32) × Nat))} {bm : (Nat → Nat → Int32) → Option ((Nat → Nat → Int32) ⊕ (Nat → Nat → Int32))}
    (hn : n ≤ 150) (hG : GD b n A kc kr need o t) (hm1 : need ≤ m1) (hm2 : need ≤ m2) (hs : ∀ st i p c T U w M, i ≤ p → ROK b n p o c (t :: st) T U w M → STP b n o p c i (t :: st) bc bm T U w M) (hbad : ∀ v T U w M, RBD n T U M → bc (v, T, U, w) = some (.inr (T, U, w)) ∧ bm M = some (.inr M))
    {p c w : Nat} {st : List Bool} {T U M : Nat → Nat → Int32} (h : ROK b n p o c st T U w M) : ∃ T' U' w' M', ((f_grp_cr m1 kc T U w (nI o)).bind fun c1 => (loopN bc a_F (0, c1.1, c1.2.1, c1.2.2)).bind fun q => some (q.1, q.2.1, q.2.2)) = some (T', U', w') ∧ ((f_grp_mr m2 kr A M).bind fun M1 => (loopN bm a_F M1).bind fun M2 => some M2) = some M' ∧ RES b n p o c (t :: st) T' U' w' M' := by
  obtain ⟨T1, U1, w1, M1, a1, a2, a3⟩ := hG m1 m2 hm1 hm2 p c st T U w M h
  rw [a1, a2, obs, obs]
  rcases a3 with ⟨p', c', h1, h2, h3⟩ | h3
  · obtain ⟨T2, U2, w2, M2, b1, b2, b3⟩ := op_loop (hs st) hbad 200 a_F a_F 0 p' c' T1 U1 w1 M1 (by omega) (by unfold a_F; omega) (by unfold a_F; omega) (by omega) h3
    have b1 : loopN bc a_F (0, T1, U1, w1) = some (T2, U2, w2) := b1
    dsimp only
    rw [b1, b2, obs, obs]
    refine ⟨T2, U2, w2, M2, rfl, rfl, ?_⟩
    rcases b3 with ⟨p2, c2, k1, k2, k3⟩ | k3
    · exact Or.inl ⟨p2, c2, by omega, by omega, k3⟩
    · exact Or.inr k3
  · obtain ⟨k1, k2⟩ := hbad 0 T1 U1 w1 M1 h3
    have k1 : loopN bc a_F (0, T1, U1, w1) = some (T1, U1, w1) := loop_r (n := 1048575) k1
    have k2 : loopN bm a_F M1 = some M1 := loop_r (n := 1048575) k2
    dsimp only
    rw [k1, k2, obs, obs]
    exact ⟨T1, U1, w1, M1, rfl, rfl, Or.inr h3⟩
/-- behind an operand, both write -/
theorem emit_step {b : Nat → Nat} {n p p1 o c cc w : Nat} {st st' : List Bool} {T U M : Nat → Nat → Int32} (hn : n ≤ 150) (hcp : c ≤ p) (hp : p < p1) (h : RES b n p1 o c st T U w M) (ht : s_tstep cc 0 st = some st') : ∃ U' M', f_Rule_emit U (nI (s_enc cc 0)) = some U' ∧ f_M_emit M (nI cc) 0 = some M' ∧ RES b n p o c st' T U' w M' := by
  rcases h with ⟨p2, c2, h1, h2, h3, h7, hc2, E, hE⟩ | h
  · have := h3.1
    obtain ⟨U', M', E', u1, u2', u3, u4⟩ := emit_ok (oo := 0) hE h3.2.2.2.1 (by omega) ht
    exact ⟨U', M', u1, u2', Or.inl ⟨p2, c2 + 1, by omega, by omega, h3.cg (fun x hx => u4 x (by omega)), by rw [u4 7 (by decide), h7], by omega, E', u3⟩⟩
  · obtain ⟨U', u1, u2'⟩ := h.u (nI (s_enc cc 0))
    exact ⟨U', M, u1, emitM_bad (h.f (by omega)).2 _ _, Or.inr u2'⟩
theorem product_ok {b : Nat → Nat} {n o : Nat} {A : Nat → Nat → Int32} (hX : TXt b n A) (hn : n ≤ 150) (ho : o ≤ 6) (hG : GD b n A 5 5 (22 - 3 * o) o false) : GD b n A 4 4 (23 - 3 * o) o false := by
  intro n1 n2 hn1 hn2 p c st T U w M h
  obtain ⟨m1, rfl⟩ : ∃ k, n1 = k + 1 := ⟨n1 - 1, by omega⟩
  obtain ⟨m2, rfl⟩ : ∃ k, n2 = k + 1 := ⟨n2 - 1, by omega⟩
  refine op_grp (bc := fun q => f_Rule_readProduct_B_l8 (f_grp_cr m1) (nI o) q.1 q.2.1 q.2.2.1 q.2.2.2) (bm := fun q => f_M_readProduct_B_l4 A (f_grp_mr m2) q) hn hG (by omega) (by omega) (fun st i p c T U w M hi h => ?_) (fun v T U w M h => ?_) h
  · obtain ⟨h, h7, hcp, E, hE⟩ := h
    have hp := h.1
    obtain ⟨s1, s2⟩ := sp_le (b := b) hp
    obtain ⟨q1, q2⟩ := atSign_is (c := 42) hX.1 h (by omega) (by omega) (by omega) (by omega)
    have q1 : f_Tape_atSign T 42 = _ := q1
    unfold STP
    show (f_Rule_readProduct_B_l8 (f_grp_cr m1) (nI o) (nI i) T U w = _ ∧ f_M_readProduct_B_l4 A (f_grp_mr m2) M = _) ∨ ∃ T' U' w' M', f_Rule_readProduct_B_l8 (f_grp_cr m1) (nI o) (nI i) T U w = _ ∧ f_M_readProduct_B_l4 A (f_grp_mr m2) M = _ ∧ _
    unfold f_Rule_readProduct_B_l8 f_M_readProduct_B_l4
    rw [h.f.1, h.f.2, obs, obs, if_neg (show ¬ (0 : Int32) ≠ 0 from fun g => g rfl), if_neg (show ¬ (1 : Int32) = 0 by decide), q1, obs, M_here hX hp h.2.1 h.2.2.1, obs]
    dsimp only
    by_cases c1 : hv b n (k_sp b n p) = nI 42
    · obtain ⟨g1, g2⟩ := q2 c1
      obtain ⟨T1, w1, a1, a2⟩ := sgn_step (A := A) hX h g1 g2
      have hr1 : ROK b n (k_sp b n p + 1) o c (false :: st) T1 U w1 (u2 M 0 4 (nI (k_sp b n p + 1))) := ⟨a2, by rw [u2_col _ _ (by decide), h7], by omega, E, hE.m0 (by decide) _⟩
      obtain ⟨T2, U2, w2, M2, b1, b2, b3⟩ := hG m1 m2 (by omega) (by omega) _ c _ T1 U w1 _ hr1
      obtain ⟨U3, M3, d1, d2, d3⟩ := emit_step (cc := 4) hn hcp (show p < k_sp b n p + 1 by omega) b3 (show s_tstep 4 0 (false :: false :: st) = some (false :: st) from rfl)
      have d1 : f_Rule_emit U2 208 = some U3 := d1
      have d2 : f_M_emit M2 4 0 = some M3 := d2
      rw [if_neg (show ¬ (150 : Int32) ≤ nI i from nI_ge (b := 150) (by omega) (by omega)), if_pos c1, if_neg (show ¬ (1 : Int32) = 0 by decide), a1, obs, b1, obs, d1, obs, if_neg (fun g => g c1), u2_same, u2_u2, ← nI_succ, ← nI_succ, b2, obs, d2, obs]
      exact Or.inr ⟨T2, U3, w2, M3, rfl, rfl, d3⟩
    · rw [if_neg c1, if_pos (show (0 : Int32) = 0 from rfl), if_pos (show hv b n (k_sp b n p) ≠ 42 from c1), ite_self]
      exact Or.inl ⟨rfl, rfl⟩
  · show f_Rule_readProduct_B_l8 (f_grp_cr m1) (nI o) v T U w = _ ∧ f_M_readProduct_B_l4 A (f_grp_mr m2) M = _
    unfold f_Rule_readProduct_B_l8 f_M_readProduct_B_l4
    rw [(h.f (by omega)).1, (h.f (by omega)).2, obs, obs, if_pos (show (1 : Int32) ≠ 0 by decide), if_pos (show (0 : Int32) = 0 from rfl), ite_self]
    exact ⟨rfl, rfl⟩
