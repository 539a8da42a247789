/-! PURE MATH: pushing: one step, side by side -/
/-- all of it: plan, queue, steps -/
def PP (C : CS) (M0 : Nat → Nat → Int32) (pl f : Nat → Nat) (a b n : Nat) (B P M : Nat → Nat → Int32) : Prop := RB C pl (C 16) B ∧ (∀ m, pl m ≤ 30) ∧ (∀ m, m < C 0 3 → okP C (pl m)) ∧ (∀ m, m < C 0 3 → M 4 m = oI (pl m)) ∧ QS C pl f a b ∧ PWq f a b P ∧ MWq f a b M ∧ M 0 56 = nI a ∧ M 0 58 = nI n ∧ b ≤ 10 * (n + 1)
theorem M_looksOpen {C : CS} {A M : Nat → Nat → Int32} {pl : Nat → Nat} (hW : WFC C) (hM : RMo C A) (h4 : ∀ x, x < C 0 3 → M 4 x = oI (pl x)) (hpl : ∀ m, pl m ≤ 30) {m : Nat} (hm : m < C 0 3) : loopN (fun q => f_M_looks_l2 A (nI m) q.1 q.2) a_F (0, M) = some (match s_first (s_fr C pl m) 30 0 with | some k => .inr (u2 M 4 m (nI k)) | none => .inl M) := by
  have hN := hW.2.2.2.1
  refine loop_first2 (body := fun q : Int32 × (Nat → Nat → Int32) => f_M_looks_l2 A (nI m) q.1 q.2) 30 (s_fr C pl m) M (fun k => u2 M 4 m (nI k)) (by omega) (fun k hk hp => ?_) (fun k hk hp => ?_) ?_
  · show f_M_looks_l2 A (nI m) (nI k) M = _
    unfold f_M_looks_l2
    rw [if_neg (show ¬ (30 : Int32) ≤ nI k from nI_ge (b := 30) hk (by omega)), M_isThere hW hM hk, obs, if_pos (show k % 3 < C 0 1 ∧ k / 3 < C 0 0 from ⟨hp.1, hp.2.1⟩), if_neg (show ¬ (1 : Int32) = 0 by decide), M_clashOf hW hM h4 hpl hm hk hp.1, obs, if_pos (show nI (s_clash C pl m k) = 0 by rw [hp.2.2]; rfl), ixx_nI (by omega) (by omega), obs]
  · show f_M_looks_l2 A (nI m) (nI k) M = _
    have hc := s_clash_lt C pl m k
    unfold f_M_looks_l2
    rw [if_neg (show ¬ (30 : Int32) ≤ nI k from nI_ge (b := 30) hk (by omega)), M_isThere hW hM hk, obs]
    by_cases c1 : k % 3 < C 0 1 ∧ k / 3 < C 0 0
    · rw [if_pos c1, if_neg (show ¬ (1 : Int32) = 0 by decide), M_clashOf hW hM h4 hpl hm hk c1.1, obs, if_neg (show ¬ nI (s_clash C pl m k) = 0 from nI_ne0 (by
        have : s_clash C pl m k ≠ 0 := fun e => hp ⟨c1.1, c1.2, e⟩
        omega) (by omega))]
    · rw [if_neg c1, if_pos rfl]
  · show f_M_looks_l2 A (nI m) (nI 30) M = _
    unfold f_M_looks_l2
    rw [if_pos (by decide)]
/-- m goes to k: the reference's takes, the class's leave and the place -/
theorem takes_both {C : CS} {H A B P M : Nat → Nat → Int32} {pB pM f : Nat → Nat} {a b m k : Nat} (hW : WFC C) (hH : RH C H) (hM : RMo C A) (hpM : ∀ m, pM m ≤ 30) (hb : b ≤ 1050) (hm : m < C 0 3) (hk : k < 30)
    (hB : ∀ x, x < C 0 3 → B 1 x = oI (pB x)) (h4 : ∀ x, x < C 0 3 → M 4 x = oI (pM x)) (hBM : ∀ x, x ≠ m → pB x = pM x) (hQ : QS C pM f a b) (hP : PWq f a b P) (hMQ : MWq f a b M) :
    ∃ B' P' M' f' b', f_Pusher_leave H B P (nI (bs (s_way C pM m k) (C 0 3))) = some (B', P') ∧ f_M_takes A M (nI m) (nI k) = some M' ∧ b ≤ b' ∧ b' ≤ b + 10 ∧ (∀ x, x < C 0 3 → x ≠ m → B' 1 x = oI (if s_way C pM m k x then 0 else pM x)) ∧ B' 1 m = oI (pB m) ∧ (∀ x y, x ≠ 1 → B' x y = B x y) ∧ (∀ x, x < C 0 3 → M' 4 x = oI (if x = m then k + 1 else if s_way C pM m k x then 0 else pM x)) ∧ (∀ x y, x ≠ 4 → x ≠ 9 → ¬ (x = 0 ∧ y = 57) → M' x y = M x y) ∧ QS C (fun x => if s_way C pM m k x ∧ x < C 0 3 then 0 else pM x) f' a b' ∧ PWq f' a b' P' ∧ MWq f' a b' M' ∧ (∀ j, j < b → f' j = f j) ∧ (∀ j, b ≤ j → j < b' → s_way C pM m k (f' j)) := by
  have hN := hW.2.2.2.1
  have hwl := bs_lt10 (s_way C pM m k) hN
  have hbit : ∀ x, x < C 0 3 → ((bs (s_way C pM m k) (C 0 3)).testBit x = true ↔ s_way C pM m k x) := fun x hx => by
    rw [bs_bit, decide_eq_true_eq]; exact ⟨fun h => h.2, fun h => ⟨hx, h⟩⟩
  have hbit2 : ∀ x, ((bs (s_way C pM m k) (C 0 3)).testBit x = true) = (s_way C pM m k x ∧ x < C 0 3) := fun x => by
    rw [bs_bit, decide_eq_true_eq]; exact propext ⟨fun h => ⟨h.2, h.1⟩, fun h => ⟨h.2, h.1⟩⟩
  have hwm : ¬ s_way C pM m k m := fun h => h.elim (fun g => g.1 rfl) (fun g => g.1 rfl)
  obtain ⟨B', P', M', f', b', e1, e2, e3, e4, e5, e6, e7, e8, e9, e10, e11, e12, e13⟩ := leave_both (H := H) (A := A) (B := B) (P := P) (M := M) (pB := pB) (pM := pM) (f := f) (a := a) (b := b) (way := bs (s_way C pM m k) (C 0 3)) hW hH hM (by omega) (fun o ho => by
    rw [hbit2] at ho
    refine ⟨ho.2, ?_⟩
    rcases ho.1 with g | g
    · exact g.2.1
    · have := g.2; omega) hb hB h4 hQ hP hMQ
  refine ⟨B', P', u2 M' 4 m (nI k), f', b', e1, ?_, e3, e4, fun x hx hxm => ?_, ?_, e6, fun x hx => ?_, fun x y g4 g9 g57 => ?_, ?_, e10, ⟨?_, fun j j1 j2 => ?_⟩, e12, fun j j1 j2 => ?_⟩
  · unfold f_M_takes
    rw [M_inWay hW hM h4 hpM hm hk, obs, e2, obs, ixx_nI (by omega) (by omega), obs]
  · rw [e5 x hx]
    simp only [hbit x hx, hBM x hxm]
  · rw [e5 m hm]
    simp only [hbit m hm, hwm, if_false]
  · by_cases hxm : x = m
    · rw [if_pos hxm, hxm, u2_same, oI_s]
    · rw [if_neg hxm, u2_col _ _ hxm, e7 x hx]
      simp only [hbit x hx]
  · rw [u2_row _ _ g4, e8 x y g4 g9 g57]
  · simp only [hbit2] at e9
    exact e9
  · rw [u2_row _ _ (by decide)]; exact e11.1
  · rw [u2_row _ _ (by decide)]; exact e11.2 j j1 j2
  · have := e13 j j1 j2
    rw [hbit2] at this
    exact this.1
