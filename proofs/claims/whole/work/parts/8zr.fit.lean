/-! PURE MATH: what moves so that one fits: the search as a function -/
/-- the first, from i on, of so many, that is so and leads on -/
def s_try {α : Type} (p : Nat → Prop) [DecidablePred p] (f : Nat → Option α) : Nat → Nat → Option α
  | 0, _ => none
  | t + 1, i => if p i then (match f i with | some a => some a | none => s_try p f t (i + 1)) else s_try p f t (i + 1)
theorem try_some {α : Type} {p : Nat → Prop} [DecidablePred p] {f : Nat → Option α} : ∀ t i k (a : α), i ≤ k → k < i + t → p k → f k = some a → (∀ j, i ≤ j → j < k → p j → f j = none) → s_try p f t i = some a := by
  intro t
  induction t with
  | zero => intro i k a h1 h2; omega
  | succ t ih =>
    intro i k a h1 h2 hp hf hn
    unfold s_try
    by_cases hi : k = i
    · subst hi
      rw [if_pos hp, hf]
    · by_cases hpi : p i
      · rw [if_pos hpi, hn i (Nat.le_refl _) (by omega) hpi]
        exact ih (i + 1) k a (by omega) (by omega) hp hf (fun j h3 h4 => hn j (by omega) h4)
      · rw [if_neg hpi]
        exact ih (i + 1) k a (by omega) (by omega) hp hf (fun j h3 h4 => hn j (by omega) h4)
theorem try_none {α : Type} {p : Nat → Prop} [DecidablePred p] {f : Nat → Option α} : ∀ t i, (∀ j, i ≤ j → j < i + t → p j → f j = none) → s_try p f t i = none := by
  intro t
  induction t with
  | zero => intro i _; rfl
  | succ t ih =>
    intro i hn
    unfold s_try
    by_cases hpi : p i
    · rw [if_pos hpi, hn i (Nat.le_refl _) (by omega) hpi]
      exact ih (i + 1) (fun j h3 h4 => hn j (by omega) (by omega))
    · rw [if_neg hpi]
      exact ih (i + 1) (fun j h3 h4 => hn j (by omega) (by omega))
theorem try_is {α : Type} (p : Nat → Prop) [DecidablePred p] (f : Nat → Option α) : ∀ t i, (s_try p f t i = none ∧ ∀ j, i ≤ j → j < i + t → p j → f j = none) ∨ ∃ k a, i ≤ k ∧ k < i + t ∧ p k ∧ f k = some a ∧ (∀ j, i ≤ j → j < k → p j → f j = none) ∧ s_try p f t i = some a := by
  intro t
  induction t with
  | zero => intro i; exact Or.inl ⟨rfl, fun j h1 h2 => by omega⟩
  | succ t ih =>
    intro i
    have e1 : p i → ∀ a, f i = some a → s_try p f (t + 1) i = some a := fun hp a hf => try_some (t + 1) i i a (Nat.le_refl _) (by omega) hp hf (fun j h1 h2 => by omega)
    have e2 : (p i → f i = none) → s_try p f (t + 1) i = s_try p f t (i + 1) := fun h => by
      conv => lhs; unfold s_try
      by_cases hp : p i
      · rw [if_pos hp, h hp]
      · rw [if_neg hp]
    by_cases hh : p i → f i = none
    · rw [e2 hh]
      rcases ih (i + 1) with ⟨h1, h2⟩ | ⟨k, a, h1, h2, h3, h4, h5, h6⟩
      · refine Or.inl ⟨h1, fun j h3 h4 hp => ?_⟩
        by_cases hj : j = i
        · subst hj; exact hh hp
        · exact h2 j (by omega) (by omega) hp
      · refine Or.inr ⟨k, a, by omega, by omega, h3, h4, fun j h7 h8 hp => ?_, h6⟩
        by_cases hj : j = i
        · subst hj; exact hh hp
        · exact h5 j (by omega) h8 hp
    · obtain ⟨hp, hf⟩ := Classical.not_imp.mp hh
      obtain ⟨a, ha⟩ := Option.ne_none_iff_exists'.mp hf
      exact Or.inr ⟨i, a, Nat.le_refl _, by omega, hp, ha, fun j h1 h2 => by omega, e1 hp a ha⟩
/-- by hours, and in each by rooms -/
theorem try_nest {α : Type} (p : Nat → Prop) [DecidablePred p] (f : Nat → Option α) {R T : Nat} (hR : R ≤ 3) (hT : T ≤ 10) (hP : ∀ k, p k → k % 3 < R ∧ k / 3 < T) :
    s_try p f 30 0 = s_try (fun _ => True) (fun h => s_try (fun r => p (3 * h + r)) (fun r => f (3 * h + r)) R 0) T 0 := by
  rcases try_is (fun _ => True) (fun h => s_try (fun r => p (3 * h + r)) (fun r => f (3 * h + r)) R 0) T 0 with ⟨h1, h2⟩ | ⟨h, a, _, h2, _, h4, h5, h6⟩
  · rw [h1]
    refine try_none 30 0 (fun k _ hk hp => ?_)
    obtain ⟨a1, a2⟩ := hP k hp
    have h3 := h2 (k / 3) (by omega) (by omega) trivial
    rcases try_is (fun r => p (3 * (k / 3) + r)) (fun r => f (3 * (k / 3) + r)) R 0 with ⟨_, g2⟩ | ⟨r, b, _, _, _, _, _, g6⟩
    · have := g2 (k % 3) (by omega) (by omega)
      rw [show 3 * (k / 3) + k % 3 = k from by omega] at this
      exact this hp
    · rw [h3] at g6; cases g6
  · rw [h6]
    rcases try_is (fun r => p (3 * h + r)) (fun r => f (3 * h + r)) R 0 with ⟨g1, _⟩ | ⟨r, b, _, g2, g3, g4, g5, g6⟩
    · rw [g1] at h4; cases h4
    · rw [g6] at h4
      cases h4
      refine try_some 30 0 (3 * h + r) a (by omega) (by omega) g3 g4 (fun k _ hk hp => ?_)
      obtain ⟨a1, a2⟩ := hP k hp
      by_cases hh : k / 3 < h
      · have h3 := h5 (k / 3) (by omega) hh trivial
        rcases try_is (fun r => p (3 * (k / 3) + r)) (fun r => f (3 * (k / 3) + r)) R 0 with ⟨_, g2⟩ | ⟨r', b, _, _, _, _, _, g6⟩
        · have := g2 (k % 3) (by omega) (by omega)
          rw [show 3 * (k / 3) + k % 3 = k from by omega] at this
          exact this hp
        · rw [h3] at g6; cases g6
      · have := g5 (k % 3) (by omega) (by omega)
        rw [show 3 * h + k % 3 = k from by omega] at this
        exact this hp
/-- a loop that tries: what holds before each of them, what holds of a hit -/
theorem loop_try {σ γ α : Type} {body : Int32 × σ → Option ((Int32 × σ) ⊕ (σ ⊕ γ))} (N : Nat) (p : Nat → Prop) [DecidablePred p] (f : Nat → Option α) (R : σ → Prop) (Q : α → γ → Prop) (hN : N < 1000000)
    (hit : ∀ i s, i < N → R s → p i → (∃ a g, f i = some a ∧ body (nI i, s) = some (.inr (.inr g)) ∧ Q a g) ∨ (f i = none ∧ ∃ s', body (nI i, s) = some (.inl (nI i + 1, s')) ∧ R s'))
    (miss : ∀ i s, i < N → R s → ¬ p i → ∃ s', body (nI i, s) = some (.inl (nI i + 1, s')) ∧ R s')
    (fin : ∀ s, R s → body (nI N, s) = some (.inr (.inl s))) (s : σ) (h0 : R s) :
    (∃ a g, s_try p f N 0 = some a ∧ loopN body a_F (0, s) = some (.inr g) ∧ Q a g) ∨ (s_try p f N 0 = none ∧ ∃ s', loopN body a_F (0, s) = some (.inl s') ∧ R s') := by
  have key : ∀ t i n s, i + t = N → t < n → R s → (∃ a g, s_try p f t i = some a ∧ loopN body n (nI i, s) = some (.inr g) ∧ Q a g) ∨ (s_try p f t i = none ∧ ∃ s', loopN body n (nI i, s) = some (.inl s') ∧ R s') := by
    intro t
    induction t with
    | zero =>
      intro i n s hi hn hs
      obtain ⟨n, rfl⟩ : ∃ k, n = k + 1 := ⟨n - 1, by omega⟩
      have hi : i = N := by omega
      subst hi
      exact Or.inr ⟨rfl, s, loop_r (fin s hs), hs⟩
    | succ t ih =>
      intro i n s hi hn hs
      obtain ⟨n, rfl⟩ : ∃ k, n = k + 1 := ⟨n - 1, by omega⟩
      by_cases hp : p i
      · rcases hit i s (by omega) hs hp with ⟨a, g, e1, e2, e3⟩ | ⟨e1, s', e2, e3⟩
        · refine Or.inl ⟨a, g, ?_, loop_r e2, e3⟩
          unfold s_try
          rw [if_pos hp, e1]
        · rw [loop_l e2, ← nI_succ]
          rcases ih (i + 1) n s' (by omega) (by omega) e3 with ⟨a, g, k1, k2, k3⟩ | ⟨k1, s'', k2, k3⟩
          · refine Or.inl ⟨a, g, ?_, k2, k3⟩
            unfold s_try
            rw [if_pos hp, e1]
            exact k1
          · refine Or.inr ⟨?_, s'', k2, k3⟩
            unfold s_try
            rw [if_pos hp, e1]
            exact k1
      · obtain ⟨s', e2, e3⟩ := miss i s (by omega) hs hp
        rw [loop_l e2, ← nI_succ]
        rcases ih (i + 1) n s' (by omega) (by omega) e3 with ⟨a, g, k1, k2, k3⟩ | ⟨k1, s'', k2, k3⟩
        · refine Or.inl ⟨a, g, ?_, k2, k3⟩
          unfold s_try
          rw [if_neg hp]
          exact k1
        · refine Or.inr ⟨?_, s'', k2, k3⟩
          unfold s_try
          rw [if_neg hp]
          exact k1
  exact key N 0 a_F s (by omega) (by unfold a_F; omega) h0
/-- a plan with one elsewhere -/
def pu (q : Nat → Nat) (o z : Nat) : Nat → Nat := fun x => if x = o then z else q x
theorem pu_same (q : Nat → Nat) (o z : Nat) : pu q o z o = z := if_pos rfl
theorem pu_ne (q : Nat → Nat) {o z x : Nat} (h : x ≠ o) : pu q o z x = q x := if_neg h
theorem pu_le {q : Nat → Nat} {o z : Nat} (hq : ∀ x, q x ≤ 30) (hz : z ≤ 30) : ∀ x, pu q o z x ≤ 30 := fun x => by
  unfold pu
  split
  · exact hz
  · exact hq x
/-- all of these, one behind the other, each to the first place from which on all find one -/
def s_seek (C : CS) : List Nat → (Nat → Nat) → Option (Nat → Nat)
  | [], q => some q
  | o :: os, q => s_try (fun k => s_fr C q o k ∧ k + 1 ≠ C 15 o) (fun k => s_seek C os (pu q o (k + 1))) 30 0
/-- those of a set, from a on, of so many -/
def s_os (w : Nat) : Nat → Nat → List Nat
  | 0, _ => []
  | t + 1, a => if w.testBit a = true then a :: s_os w t (a + 1) else s_os w t (a + 1)
theorem os_mem (w : Nat) : ∀ t a x, x ∈ s_os w t a ↔ (a ≤ x ∧ x < a + t ∧ w.testBit x = true) := by
  intro t
  induction t with
  | zero =>
    intro a x
    constructor
    · intro h; cases h
    · rintro ⟨h1, h2, _⟩; omega
  | succ t ih =>
    intro a x
    unfold s_os
    by_cases h : w.testBit a = true
    · rw [if_pos h, List.mem_cons, ih]
      constructor
      · rintro (rfl | ⟨h1, h2, h3⟩)
        · exact ⟨Nat.le_refl _, by omega, h⟩
        · exact ⟨by omega, by omega, h3⟩
      · rintro ⟨h1, h2, h3⟩
        by_cases hx : x = a
        · exact Or.inl hx
        · exact Or.inr ⟨by omega, by omega, h3⟩
    · rw [if_neg h, ih]
      constructor
      · rintro ⟨h1, h2, h3⟩
        exact ⟨by omega, by omega, h3⟩
      · rintro ⟨h1, h2, h3⟩
        have hx : x ≠ a := fun e => h (e ▸ h3)
        exact ⟨by omega, by omega, h3⟩
theorem os_skip (w : Nat) (t : Nat) : ∀ d a, (∀ x, a ≤ x → x < a + d → ¬ w.testBit x = true) → s_os w (d + t) a = s_os w t (a + d) := by
  intro d
  induction d with
  | zero => intro a _; rw [Nat.zero_add, Nat.add_zero]
  | succ d ih =>
    intro a h
    rw [show d + 1 + t = (d + t) + 1 from by omega]
    conv => lhs; unfold s_os
    rw [if_neg (h a (Nat.le_refl _) (by omega)), ih (a + 1) (fun x h1 h2 => h x (by omega) (by omega)), show a + 1 + d = a + (d + 1) from by omega]
theorem os_hit {w t a : Nat} (h : w.testBit a = true) : s_os w (t + 1) a = a :: s_os w t (a + 1) := by
  conv => lhs; unfold s_os
  rw [if_pos h]
theorem os_miss {w t a : Nat} (h : ¬ w.testBit a = true) : s_os w (t + 1) a = s_os w t (a + 1) := by
  conv => lhs; unfold s_os
  rw [if_neg h]
/-- found, or not -/
def sB {α : Type} (o : Option α) : Int32 := match o with | some _ => 1 | none => 0
theorem sB_zb {α : Type} (o : Option α) : zb (sB o) = sB o := by
  cases o with
  | none => exact zb_0
  | some a => exact zb_1
/-- the reference: the next of the set -/
theorem M_next {C : CS} {A : Nat → Nat → Int32} (hW : WFC C) (hM : RMo C A) {w : Nat} (hw : w < 2 ^ 31) : ∀ t a n, a + t = C 0 3 → t < n → ∃ b, loopN (fun q => f_M_places_B_l2 A (nI w) q) n (nI a) = some (nI b) ∧ a ≤ b ∧ b ≤ C 0 3 ∧ (∀ x, a ≤ x → x < b → ¬ w.testBit x = true) ∧ (b < C 0 3 → w.testBit b = true) := by
  have hN := hW.2.2.2.1
  have n3 : A 0 26 = nI (C 0 3) := hM.n (j := 3) (by omega)
  intro t
  induction t with
  | zero =>
    intro a n ha hn
    obtain ⟨n, rfl⟩ : ∃ k, n = k + 1 := ⟨n - 1, by omega⟩
    refine ⟨a, loop_r ?_, Nat.le_refl _, by omega, fun x h1 h2 => by omega, fun h => by omega⟩
    show f_M_places_B_l2 A (nI w) (nI a) = _
    unfold f_M_places_B_l2
    rw [n3, if_pos (nI_le (by omega) (by omega))]
  | succ t ih =>
    intro a n ha hn
    obtain ⟨n, rfl⟩ : ∃ k, n = k + 1 := ⟨n - 1, by omega⟩
    obtain ⟨q1, q2⟩ := bitq (x := w) (j := a) hw (by omega)
    by_cases h : w.testBit a = true
    · refine ⟨a, loop_r ?_, Nat.le_refl _, by omega, fun x h1 h2 => by omega, fun _ => h⟩
      show f_M_places_B_l2 A (nI w) (nI a) = _
      unfold f_M_places_B_l2
      rw [n3, if_neg (nI_ge (by omega) (by omega)), if_pos (fun h2 => (q1.mp h2) h)]
    · have e : (fun q => f_M_places_B_l2 A (nI w) q) (nI a) = some (.inl (nI (a + 1))) := by
        show f_M_places_B_l2 A (nI w) (nI a) = _
        unfold f_M_places_B_l2
        rw [n3, if_neg (nI_ge (by omega) (by omega)), if_neg (fun h2 => h2 (q1.mpr h)), nI_succ]
      rw [loop_l e]
      obtain ⟨b, b1, b2, b3, b4, b5⟩ := ih (a + 1) n (by omega) (by omega)
      refine ⟨b, b1, by omega, b3, fun x h1 h2 => ?_, b5⟩
      by_cases hx : x = a
      · subst hx; exact h
      · exact b4 x (by omega) h2
/-- the reference's search -/
theorem M_places {C : CS} {A : Nat → Nat → Int32} (hW : WFC C) (hM : RMo C A) {w : Nat} (hw : w < 2 ^ 31) : ∀ n a M q, a ≤ C 0 3 → C 0 3 - a < n → (∀ x, x < C 0 3 → M 4 x = oI (q x)) → (∀ x, q x ≤ 30) → (∀ o, o ∈ s_os w (C 0 3 - a) a → q o = 0) →
    ∃ M', f_grp_mp n 0 A M (nI w) (nI a) = some (sB (s_seek C (s_os w (C 0 3 - a) a) q), M') ∧ (∀ x, x < C 0 3 → M' 4 x = oI ((s_seek C (s_os w (C 0 3 - a) a) q).getD q x)) ∧ ∀ k i, k ≠ 4 → M' k i = M k i := by
  have hN := hW.2.2.2.1
  have n3 : A 0 26 = nI (C 0 3) := hM.n (j := 3) (by omega)
  intro n
  induction n with
  | zero => intro a M q _ h; omega
  | succ n ih =>
    intro a M q ha hn hM4 hq hz
    show ∃ M', f_M_places_B (f_grp_mp n) A M (nI w) (nI a) = _ ∧ _
    unfold f_M_places_B
    obtain ⟨b, b1, b2, b3, b4, b5⟩ := M_next hW hM hw (C 0 3 - a) a a_F (by omega) (by unfold a_F; omega)
    rw [b1, obs, n3]
    have e0 : s_os w (C 0 3 - a) a = s_os w (C 0 3 - b) b := by
      have := os_skip w (C 0 3 - b) (b - a) a (fun x h1 h2 => b4 x h1 (by omega))
      rw [show b - a + (C 0 3 - b) = C 0 3 - a from by omega, show a + (b - a) = b from by omega] at this
      exact this
    rw [e0] at hz ⊢
    simp only [ne_eq, nI_eqP (show b < 2 ^ 31 by omega) (show C 0 3 < 2 ^ 31 by omega)]
    by_cases hb : b = C 0 3
    · rw [if_neg (fun h => h hb)]
      rw [hb, Nat.sub_self]
      exact ⟨M, rfl, hM4, fun _ _ _ => rfl⟩
    · have hb' : b < C 0 3 := by omega
      have ht := b5 hb'
      rw [if_pos hb]
      have e1 : s_os w (C 0 3 - b) b = b :: s_os w (C 0 3 - (b + 1)) (b + 1) := by
        rw [show C 0 3 - b = (C 0 3 - (b + 1)) + 1 from by omega]
        exact os_hit ht
      rw [e1] at hz ⊢
      have hqb : q b = 0 := hz b List.mem_cons_self
      have hzt : ∀ o, o ∈ s_os w (C 0 3 - (b + 1)) (b + 1) → q o = 0 := fun o ho => hz o (List.mem_cons_of_mem _ ho)
      have hne : ∀ o, o ∈ s_os w (C 0 3 - (b + 1)) (b + 1) → o ≠ b := fun o ho => by
        have := (os_mem w _ _ o).mp ho
        omega
      have ra : rdx (A 7) 10 (nI b) = some (oI (C 15 b)) := by rw [rdx_nI (by omega) (by omega), hM.here hb']
      have hp := hW.plan b
      have eL := loop_try (body := fun z : Int32 × (Nat → Nat → Int32) => f_M_places_B_l37 A (nI b) (f_grp_mp n) (nI w) z.1 z.2) 30 (fun k => s_fr C q b k ∧ k + 1 ≠ C 15 b) (fun k => s_seek C (s_os w (C 0 3 - (b + 1)) (b + 1)) (pu q b (k + 1)))
        (fun X => (∀ x, x < C 0 3 → X 4 x = oI (q x)) ∧ ∀ k i, k ≠ 4 → X k i = M k i)
        (fun q' g => g.1 = 1 ∧ (∀ x, x < C 0 3 → g.2 4 x = oI (q' x)) ∧ ∀ k i, k ≠ 4 → g.2 k i = M k i) (by omega)
        (fun k X hk hX hp' => by
          obtain ⟨x1, x2⟩ := hX
          obtain ⟨⟨p1, p2, p3⟩, p4⟩ := hp'
          obtain ⟨M', m1, m2, m3⟩ := ih (b + 1) (u2 X 4 b (nI k)) (pu q b (k + 1)) (by omega) (by omega) (fun x hx => by
            by_cases hxb : x = b
            · subst hxb; rw [u2_same, pu_same, oI_s]
            · rw [u2_col _ _ hxb, pu_ne _ hxb, x1 x hx]) (pu_le hq (by omega)) (fun o ho => by rw [pu_ne _ (hne o ho)]; exact hzt o ho)
          have eb : f_M_places_B_l37 A (nI b) (f_grp_mp n) (nI w) (nI k) X = ((some (sB (s_seek C (s_os w (C 0 3 - (b + 1)) (b + 1)) (pu q b (k + 1))), M') : Option (Int32 × (Nat → Nat → Int32))).bind fun c6 =>
              if c6.1 = 0 then (ixx 10 (nI b)).bind fun j11 => some (.inl ((nI k + 1), (u2 c6.2 4 j11 (-1)))) else some (.inr (.inr ((zb 1), c6.2)))) := by
            unfold f_M_places_B_l37
            rw [if_neg (show ¬ (30 : Int32) ≤ nI k from nI_ge (b := 30) hk (by omega)), M_isThere hW hM hk, obs, if_pos (show k % 3 < C 0 1 ∧ k / 3 < C 0 0 from ⟨p1, p2⟩), if_neg (by decide), ra, obs,
              if_neg (show ¬ nI k = oI (C 15 b) from fun h => p4 ((oI_inj _ (by omega) _ hk).mp h.symm).symm), M_clashOf hW hM (w := X 4) x1 hq hb' hk p1, obs, p3, if_pos (show nI 0 = 0 from rfl), ixx_nI (by omega) (by omega), obs, ← nI_succ b, m1]
          rw [obs] at eb
          cases hs : s_seek C (s_os w (C 0 3 - (b + 1)) (b + 1)) (pu q b (k + 1)) with
          | some q' =>
            rw [hs] at eb m2
            refine Or.inl ⟨q', (1, M'), rfl, ?_, rfl, m2, fun k' i h => by
              show M' k' i = _
              rw [m3 k' i h, u2_row _ _ h, x2 k' i h]⟩
            show f_M_places_B_l37 A (nI b) (f_grp_mp n) (nI w) (nI k) X = _
            rw [eb]
            show (if (1 : Int32) = 0 then _ else _) = _
            rw [if_neg (by decide), zb_1]
          | none =>
            rw [hs] at eb m2
            refine Or.inr ⟨rfl, u2 M' 4 b (-1), ?_, fun x hx => ?_, fun k' i h => by rw [u2_row _ _ h, m3 k' i h, u2_row _ _ h, x2 k' i h]⟩
            · show f_M_places_B_l37 A (nI b) (f_grp_mp n) (nI w) (nI k) X = _
              rw [eb]
              show (if (0 : Int32) = 0 then _ else _) = _
              rw [if_pos rfl, ixx_nI (by omega) (by omega), obs]
            · by_cases hxb : x = b
              · subst hxb; rw [u2_same, hqb, oI_0]
              · rw [u2_col _ _ hxb, m2 x hx]
                show oI (pu q b (k + 1) x) = _
                rw [pu_ne _ hxb])
        (fun k X hk hX hp' => by
          obtain ⟨x1, x2⟩ := hX
          refine ⟨X, ?_, x1, x2⟩
          show f_M_places_B_l37 A (nI b) (f_grp_mp n) (nI w) (nI k) X = _
          unfold f_M_places_B_l37
          rw [if_neg (show ¬ (30 : Int32) ≤ nI k from nI_ge (b := 30) hk (by omega)), M_isThere hW hM hk, obs]
          by_cases p1 : k % 3 < C 0 1 ∧ k / 3 < C 0 0
          · rw [if_pos p1, if_neg (by decide), ra, obs]
            by_cases p4 : k + 1 = C 15 b
            · rw [if_pos (show nI k = oI (C 15 b) from ((oI_inj _ (by omega) _ hk).mpr p4.symm).symm)]
            · rw [if_neg (show ¬ nI k = oI (C 15 b) from fun h => p4 ((oI_inj _ (by omega) _ hk).mp h.symm).symm), M_clashOf hW hM (w := X 4) x1 hq hb' hk p1.1, obs, if_neg (show ¬ nI (s_clash C q b k) = 0 from fun h => by
                have hlt := s_clash_lt C q b k
                have h0 : s_clash C q b k = 0 := (na_eq (b := 0) (by omega) (by omega)).mp h
                exact hp' ⟨⟨p1.1, p1.2, h0⟩, p4⟩)]
          · rw [if_neg p1, if_pos rfl])
        (fun X hX => by
          show f_M_places_B_l37 A (nI b) (f_grp_mp n) (nI w) (nI 30) X = _
          unfold f_M_places_B_l37
          rw [if_pos (by decide)])
        M ⟨hM4, fun _ _ _ => rfl⟩
      have es : s_seek C (b :: s_os w (C 0 3 - (b + 1)) (b + 1)) q = s_try (fun k => s_fr C q b k ∧ k + 1 ≠ C 15 b) (fun k => s_seek C (s_os w (C 0 3 - (b + 1)) (b + 1)) (pu q b (k + 1))) 30 0 := rfl
      rw [es]
      rcases eL with ⟨q', g, k1, k2, k3, k4, k5⟩ | ⟨k1, s', k2, k3, k4⟩
      · rw [k2, k1, obs, se_r]
        obtain ⟨g1, g2⟩ := g
        have k3 : g1 = 1 := k3
        subst k3
        exact ⟨g2, rfl, k4, k5⟩
      · rw [k2, k1, obs, se_l]
        exact ⟨s', rfl, k3, k4⟩
