/-! PURE MATH: a rule is read: what both have written -/
/-- c codes, the types that they leave -/
def CDE (E : CS) (c : Nat) (st : List Bool) (U M : Nat → Nat → Int32) : Prop := U 0 1 = nI c ∧ M 0 39 = nI c ∧ (∀ k, k < c → U 1 k = nI (s_enc (E 20 k) (E 21 k)) ∧ M 6 k = nI (E 20 k) ∧ M 7 k = nI (E 21 k)) ∧ s_ty E c = some st
def ROK (b : Nat → Nat) (n p o c : Nat) (st : List Bool) (T U : Nat → Nat → Int32) (w : Nat) (M : Nat → Nat → Int32) : Prop := OSt b n p T w M ∧ M 0 7 = nI o ∧ c ≤ p ∧ ∃ E, CDE E c st U M
def RBD (n : Nat) (T U M : Nat → Nat → Int32) : Prop := FSt n T M ∧ M 0 3 = nI n ∧ (∃ q, q ≤ n ∧ M 0 4 = nI q) ∧ ∃ c, c ≤ 150 ∧ U 0 1 = nI c
def RES (b : Nat → Nat) (n p o c : Nat) (st : List Bool) (T U : Nat → Nat → Int32) (w : Nat) (M : Nat → Nat → Int32) : Prop := (∃ p' c', p < p' ∧ c' + p ≤ c + p' ∧ ROK b n p' o c' st T U w M) ∨ RBD n T U M
theorem ty_cg {E E' : CS} : ∀ n, (∀ k, k < n → E' 20 k = E 20 k ∧ E' 21 k = E 21 k) → s_ty E' n = s_ty E n := by
  intro n
  induction n with
  | zero => intro _; rfl
  | succ n ih =>
    intro h
    have e1 : s_ty E' (n + 1) = match s_ty E' n with | none => none | some st => s_tstep (E' 20 n) (E' 21 n) st := rfl
    have e2 : s_ty E (n + 1) = match s_ty E n with | none => none | some st => s_tstep (E 20 n) (E 21 n) st := rfl
    rw [e1, e2, ih (fun k hk => h k (by omega)), (h n (by omega)).1, (h n (by omega)).2]
theorem emit_ok {E : CS} {c cc oo : Nat} {st st' : List Bool} {U M : Nat → Nat → Int32} (h : CDE E c st U M) (h5 : M 0 5 = -1) (hc : c < 150) (ht : s_tstep cc oo st = some st') :
    ∃ U' M' E', f_Rule_emit U (nI (s_enc cc oo)) = some U' ∧ f_M_emit M (nI cc) (nI oo) = some M' ∧ CDE E' (c + 1) st' U' M' ∧ ∀ x, x ≠ 39 → M' 0 x = M 0 x := by
  obtain ⟨h1, h2, h3, h4⟩ := h
  let E' : CS := fun a b => if a = 20 ∧ b = c then cc else if a = 21 ∧ b = c then oo else E a b
  have e20 : ∀ k, k < c → E' 20 k = E 20 k ∧ E' 21 k = E 21 k := fun k hk => by
    constructor
    · show (if 20 = 20 ∧ k = c then cc else if 20 = 21 ∧ k = c then oo else E 20 k) = _
      rw [if_neg (by omega), if_neg (by omega)]
    · show (if 21 = 20 ∧ k = c then cc else if 21 = 21 ∧ k = c then oo else E 21 k) = _
      rw [if_neg (by omega), if_neg (by omega)]
  have f20 : E' 20 c = cc := by
    show (if 20 = 20 ∧ c = c then cc else _) = _
    rw [if_pos ⟨rfl, rfl⟩]
  have f21 : E' 21 c = oo := by
    show (if 21 = 20 ∧ c = c then cc else if 21 = 21 ∧ c = c then oo else E 21 c) = _
    rw [if_neg (by omega), if_pos ⟨rfl, rfl⟩]
  refine ⟨u2 (u2 U 1 c (nI (s_enc cc oo))) 0 1 (nI (c + 1)), u2 (u2 (u2 M 6 c (nI cc)) 7 c (nI oo)) 0 39 (nI (c + 1)), E', ?_, ?_, ⟨u2_same _ _ _ _, u2_same _ _ _ _, fun k hk => ?_, ?_⟩, fun x hx => ?_⟩
  · unfold f_Rule_emit
    rw [h1, if_neg (show ¬ (150 : Int32) ≤ nI c from nI_ge (b := 150) hc (by omega)), ixx_nI hc (by omega), obs, u2_row _ _ (by decide), h1, ← nI_succ]
  · unfold f_M_emit
    rw [M_fine1 h5, obs, if_pos (by decide), h2, ixx_nI hc (by omega), obs, u2_row _ _ (by decide), h2, ixx_nI hc (by omega), obs, u2_row _ _ (by decide), u2_row _ _ (by decide), h2, ← nI_succ]
  · have x1 : u2 (u2 U 1 c (nI (s_enc cc oo))) 0 1 (nI (c + 1)) 1 k = if k = c then nI (s_enc cc oo) else U 1 k := by rw [u2_row _ _ (by decide), u2_at]
    have x2 : u2 (u2 (u2 M 6 c (nI cc)) 7 c (nI oo)) 0 39 (nI (c + 1)) 6 k = if k = c then nI cc else M 6 k := by rw [u2_row _ _ (by decide), u2_row _ _ (by decide), u2_at]
    have x3 : u2 (u2 (u2 M 6 c (nI cc)) 7 c (nI oo)) 0 39 (nI (c + 1)) 7 k = if k = c then nI oo else M 7 k := by rw [u2_row _ _ (by decide), u2_at, u2_row _ _ (by decide)]
    rw [x1, x2, x3]
    by_cases hkc : k = c
    · subst hkc
      rw [if_pos rfl, if_pos rfl, if_pos rfl, f20, f21]
      exact ⟨rfl, rfl, rfl⟩
    · rw [if_neg hkc, if_neg hkc, if_neg hkc, (e20 k (by omega)).1, (e20 k (by omega)).2]
      exact h3 k (by omega)
  · have e1 : s_ty E' (c + 1) = match s_ty E' c with | none => none | some st => s_tstep (E' 20 c) (E' 21 c) st := rfl
    rw [e1, ty_cg c e20, h4, f20, f21]
    exact ht
  · rw [u2_col _ _ hx, u2_row _ _ (by decide), u2_row _ _ (by decide)]
theorem emitY_bad {U : Nat → Nat → Int32} {c : Nat} (hc : c ≤ 150) (h : U 0 1 = nI c) (x : Int32) : ∃ U', f_Rule_emit U x = some U' ∧ ∃ c', c' ≤ 150 ∧ U' 0 1 = nI c' := by
  unfold f_Rule_emit
  rw [h]
  by_cases c1 : c = 150
  · rw [if_pos (show (150 : Int32) ≤ nI c from nI_le (a := 150) (by omega) (by omega))]
    exact ⟨U, rfl, c, hc, h⟩
  · rw [if_neg (show ¬ (150 : Int32) ≤ nI c from nI_ge (b := 150) (by omega) (by omega)), ixx_nI (by omega) (by omega), obs]
    refine ⟨_, rfl, c + 1, by omega, ?_⟩
    rw [u2_same, u2_row _ _ (by decide), h, nI_succ]
theorem emitM_bad {M : Nat → Nat → Int32} (h : f_M_fine M = some 0) (a b : Int32) : f_M_emit M a b = some M := by
  unfold f_M_emit
  rw [h, obs, if_neg (fun h => h rfl)]
theorem RBD.f {n : Nat} {T U M : Nat → Nat → Int32} (hn : n ≤ 600) (h : RBD n T U M) : f_Tape_failed T = some 1 ∧ f_M_fine M = some 0 := h.1.f hn
theorem RBD.cg {n : Nat} {T U U' M M' : Nat → Nat → Int32} (h : RBD n T U M) (hm : ∀ x, x ≤ 6 → M' 0 x = M 0 x) (hu : ∃ c, c ≤ 150 ∧ U' 0 1 = nI c) : RBD n T U' M' := by
  obtain ⟨h1, h2, ⟨q, h3, h4⟩, _⟩ := h
  exact ⟨h1.cg hm, by rw [hm 3 (by omega), h2], ⟨q, h3, by rw [hm 4 (by omega), h4]⟩, hu⟩
theorem RBD.u {n : Nat} {T U M : Nat → Nat → Int32} (h : RBD n T U M) (x : Int32) : ∃ U', f_Rule_emit U x = some U' ∧ RBD n T U' M := by
  obtain ⟨c, hc, hu⟩ := h.2.2.2
  obtain ⟨U', u1, u2⟩ := emitY_bad hc hu x
  exact ⟨U', u1, h.cg (fun _ _ => rfl) u2⟩
theorem CDE.u {E : CS} {c : Nat} {st : List Bool} {U M : Nat → Nat → Int32} (h : CDE E c st U M) (hc : c ≤ 150) : ∃ c, c ≤ 150 ∧ U 0 1 = nI c := ⟨c, hc, h.1⟩
theorem CDE.cg {E : CS} {c : Nat} {st : List Bool} {U M M' : Nat → Nat → Int32} (h : CDE E c st U M) (h39 : M' 0 39 = M 0 39) (h6 : ∀ k, M' 6 k = M 6 k) (h7 : ∀ k, M' 7 k = M 7 k) : CDE E c st U M' :=
  ⟨h.1, by rw [h39, h.2.1], fun k hk => by
    obtain ⟨a, b, d⟩ := h.2.2.1 k hk
    exact ⟨a, by rw [h6, b], by rw [h7, d]⟩, h.2.2.2⟩
theorem CDE.mn {E : CS} {c : Nat} {st : List Bool} {U M M' : Nat → Nat → Int32} (h : CDE E c st U M) (hM : MNr M M') : CDE E c st U M' := h.cg (hM 0 39 (by omega)) (fun k => hM 6 k (by omega)) (fun k => hM 7 k (by omega))
theorem CDE.m0 {E : CS} {c : Nat} {st : List Bool} {U M : Nat → Nat → Int32} (h : CDE E c st U M) {x : Nat} (hx : x ≠ 39) (v : Int32) : CDE E c st U (u2 M 0 x v) := h.cg (u2_col _ _ (Ne.symm hx)) (fun k => u2_row _ _ (by decide)) (fun k => u2_row _ _ (by decide))
/-- behind a word that stands, both -/
theorem word_step {b : Nat → Nat} {n p w j : Nat} {A T M : Nat → Nat → Int32} (hX : TXt b n A) (h : OSt b n p T w M) (hj : j < 23) (hm : WM b (k_sp b n p) (k_lt b n (k_sp b n p)) j) :
    ∃ T' w', f_Tape_advance T = some (T', w') ∧ OSt b n (k_lt b n (k_sp b n p)) T' w' (u2 M 0 4 (nI (k_lt b n (k_sp b n p)))) ∧ p + (tx j).length ≤ k_lt b n (k_sp b n p) ∧ f_M_pass A (u2 M 0 4 (nI (k_sp b n p))) = some (u2 M 0 4 (nI (k_lt b n (k_sp b n p)))) ∧ k_lt b n (k_sp b n p) = k_sp b n p + (tx j).length := by
  have hp := h.1
  have hs := h.s
  obtain ⟨s1, s2⟩ := sp_le (b := b) hp
  have hl1 := (tx_ok j hj).2.2.2.2.1
  have hlt : k_sp b n p < k_lt b n (k_sp b n p) := by have := hm.1; omega
  have hend : k_end b n (k_sp b n p) = k_lt b n (k_sp b n p) := by
    rcases sp_tok (b := b) hp with ⟨k1, k2, k3⟩ | ⟨k1, k2, k3, k4⟩ | ⟨k1, k2, k3, k4, k5⟩ | ⟨k1, k2, k3, k4, k5⟩
    · obtain ⟨l1, l2⟩ := lt_le (b := b) s2
      omega
    · have : k_lt b n (k_sp b n p) = k_sp b n p := run_stop (fun g => by have := g.1; have := k3.2; omega)
      omega
    · exact k5
    · have : k_lt b n (k_sp b n p) = k_sp b n p := run_stop k4
      omega
  obtain ⟨l1, l2⟩ := lt_le (b := b) s2
  obtain ⟨T1, w1, a1, a2, a3⟩ := h.adv (M' := u2 M 0 4 (nI (k_lt b n (k_sp b n p)))) hX (by rw [hend]; exact l2) (by rw [u2_col _ _ (by decide), h.2.1]) (by rw [u2_same, hend]) (by rw [u2_col _ _ (by decide), h.2.2.2.1])
  rw [hend] at a2
  exact ⟨T1, w1, a1, a2, by have := hm.1; omega, by rw [M_passL hX hs.1 hs.2.1 hs.2.2.1, u2_u2], hm.1⟩
/-- behind a sign that stands, both -/
theorem sgn_step {b : Nat → Nat} {n p w : Nat} {A T M : Nat → Nat → Int32} (hX : TXt b n A) (h : OSt b n p T w M) (h1 : k_sp b n p < n) (h2 : k_end b n (k_sp b n p) = k_sp b n p + 1) :
    ∃ T' w', f_Tape_advance T = some (T', w') ∧ OSt b n (k_sp b n p + 1) T' w' (u2 M 0 4 (nI (k_sp b n p + 1))) := by
  obtain ⟨T1, w1, a1, a2, a3⟩ := h.adv (M' := u2 M 0 4 (nI (k_sp b n p + 1))) hX (by omega) (by rw [u2_col _ _ (by decide), h.2.1]) (by rw [u2_same, h2]) (by rw [u2_col _ _ (by decide), h.2.2.2.1])
  rw [h2] at a2
  exact ⟨T1, w1, a1, a2⟩
