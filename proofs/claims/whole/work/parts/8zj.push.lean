/-! PURE MATH: pushing: who leaves, who waits -/
theorem distinct_le {N : Nat} : ∀ (n : Nat) (p : Nat → Prop) [DecidablePred p] (f : Nat → Nat), (∀ j, j < n → f j < N ∧ p (f j)) → (∀ i j, i < j → j < n → f i ≠ f j) → n ≤ cnt p N := by
  intro n
  induction n with
  | zero => intro p _ f _ _; exact Nat.zero_le _
  | succ n ih =>
    intro p _ f h1 h2
    obtain ⟨hx, hp⟩ := h1 n (by omega)
    have e := cnt_one (p := p) (q := fun i => p i ∧ i ≠ f n) hx (fun i _ => by
      constructor
      · intro h
        by_cases he : i = f n
        · exact Or.inr he
        · exact Or.inl ⟨h, he⟩
      · rintro (h | rfl)
        · exact h.1
        · exact hp) (fun h => h.2 rfl)
    have := ih (fun i => p i ∧ i ≠ f n) f (fun j hj => ⟨(h1 j (by omega)).1, (h1 j (by omega)).2, h2 j n hj (by omega)⟩) (fun i j hij hj => h2 i j hij (by omega))
    omega
/-- those who wait: f from a to b, none twice, none having a place -/
def QS (C : CS) (pl f : Nat → Nat) (a b : Nat) : Prop := a ≤ b ∧ (∀ j, a ≤ j → j < b → f j < C 0 3 ∧ pl (f j) = 0) ∧ ∀ i j, a ≤ i → i < j → j < b → f i ≠ f j
theorem QS.few {C : CS} {pl f : Nat → Nat} {a b m : Nat} (h : QS C pl f a b) (hm : m < C 0 3) (hp : pl m ≠ 0) : b - a < C 0 3 := by
  obtain ⟨h1, h2, h3⟩ := h
  have l := distinct_le (N := C 0 3) (b - a) (fun o => pl o = 0) (fun j => f (a + j)) (fun j hj => h2 (a + j) (by omega) (by omega)) (fun i j hij hj => h3 (a + i) (a + j) (by omega) (by omega) (by omega))
  have c := cnt_compl (fun o => pl o = 0) (fun o => pl o ≠ 0) (fun i => by omega) (C 0 3)
  have : cnt (fun o => pl o ≠ 0) (C 0 3) ≠ 0 := fun e => (bs_ne0 _ _).mpr ⟨m, hm, hp⟩ ((cnt_bs0 _ _).mp e)
  omega
theorem QS.le {C : CS} {pl f : Nat → Nat} {a b : Nat} (h : QS C pl f a b) : b - a ≤ C 0 3 := by
  obtain ⟨h1, h2, h3⟩ := h
  have l := distinct_le (N := C 0 3) (b - a) (fun o => pl o = 0) (fun j => f (a + j)) (fun j hj => h2 (a + j) (by omega) (by omega)) (fun i j hij hj => h3 (a + i) (a + j) (by omega) (by omega) (by omega))
  exact Nat.le_trans l (cnt_le _ _)
def PWq (f : Nat → Nat) (a b : Nat) (P : Nat → Nat → Int32) : Prop := P 0 2 = nI (b - a) ∧ ∀ j, j < b - a → P 1 j = nI (f (a + j))
def MWq (f : Nat → Nat) (a b : Nat) (M : Nat → Nat → Int32) : Prop := M 0 57 = nI b ∧ ∀ j, a ≤ j → j < b → M 9 j = nI (f j)
theorem leave_both {C : CS} {H A B P M : Nat → Nat → Int32} {pB pM f : Nat → Nat} {a b way : Nat} (hW : WFC C) (hH : RH C H) (hM : RMo C A) (hw : way < 2 ^ 31) (hway : ∀ o, way.testBit o = true → o < C 0 3 ∧ pM o ≠ 0) (hb : b ≤ 1050)
    (hB : ∀ m, m < C 0 3 → B 1 m = oI (pB m)) (h4 : ∀ m, m < C 0 3 → M 4 m = oI (pM m)) (hQ : QS C pM f a b) (hP : PWq f a b P) (hMQ : MWq f a b M) :
    ∃ B' P' M' f' b', f_Pusher_leave H B P (nI way) = some (B', P') ∧ loopN (fun q => f_M_takes_l10 A (nI way) q.1 q.2) a_F (0, M) = some M' ∧ b ≤ b' ∧ b' ≤ b + 10 ∧ (∀ m, m < C 0 3 → B' 1 m = oI (if way.testBit m = true then 0 else pB m)) ∧ (∀ x y, x ≠ 1 → B' x y = B x y) ∧ (∀ m, m < C 0 3 → M' 4 m = oI (if way.testBit m = true then 0 else pM m)) ∧ (∀ x y, x ≠ 4 → x ≠ 9 → ¬ (x = 0 ∧ y = 57) → M' x y = M x y) ∧ QS C (fun m => if way.testBit m = true then 0 else pM m) f' a b' ∧ PWq f' a b' P' ∧ MWq f' a b' M' ∧ (∀ j, j < b → f' j = f j) ∧ (∀ j, b ≤ j → j < b' → way.testBit (f' j) = true) := by
  have hN := hW.2.2.2.1
  have h03 : H 0 3 = nI (C 0 3) := hH 0 3 (show 3 < 6 by omega)
  have n3 : A 0 26 = nI (C 0 3) := hM.n (j := 3) (by omega)
  obtain ⟨r, s, e1, e2, e3⟩ := loop_two (f := fun q : Int32 × (Nat → Nat → Int32) × (Nat → Nat → Int32) => f_Pusher_leave_l2 H (nI way) q.1 q.2.1 q.2.2) (g := fun q : Int32 × (Nat → Nat → Int32) => f_M_takes_l10 A (nI way) q.1 q.2) (C 0 3)
    (fun i s t => ∃ f' b', s.1 = nI i ∧ t.1 = nI i ∧ b ≤ b' ∧ b' ≤ b + i ∧ (∀ m, m < C 0 3 → s.2.1 1 m = oI (if way.testBit m = true ∧ m < i then 0 else pB m)) ∧ (∀ x y, x ≠ 1 → s.2.1 x y = B x y) ∧ (∀ m, m < C 0 3 → t.2 4 m = oI (if way.testBit m = true ∧ m < i then 0 else pM m)) ∧ (∀ x y, x ≠ 4 → x ≠ 9 → ¬ (x = 0 ∧ y = 57) → t.2 x y = M x y) ∧ QS C (fun m => if way.testBit m = true ∧ m < i then 0 else pM m) f' a b' ∧ PWq f' a b' s.2.2 ∧ MWq f' a b' t.2 ∧ (∀ j, j < b → f' j = f j) ∧ (∀ j, b ≤ j → j < b' → way.testBit (f' j) = true))
    (fun r s => ∃ f' b', b ≤ b' ∧ b' ≤ b + C 0 3 ∧ (∀ m, m < C 0 3 → r.1 1 m = oI (if way.testBit m = true ∧ m < C 0 3 then 0 else pB m)) ∧ (∀ x y, x ≠ 1 → r.1 x y = B x y) ∧ (∀ m, m < C 0 3 → s 4 m = oI (if way.testBit m = true ∧ m < C 0 3 then 0 else pM m)) ∧ (∀ x y, x ≠ 4 → x ≠ 9 → ¬ (x = 0 ∧ y = 57) → s x y = M x y) ∧ QS C (fun m => if way.testBit m = true ∧ m < C 0 3 then 0 else pM m) f' a b' ∧ PWq f' a b' r.2 ∧ MWq f' a b' s ∧ (∀ j, j < b → f' j = f j) ∧ (∀ j, b ≤ j → j < b' → way.testBit (f' j) = true)) (by omega)
    (fun i s t hi hR => by
      obtain ⟨v, D, E⟩ := s
      obtain ⟨v', G⟩ := t
      obtain ⟨f', b', r1, r2, r3, r4, r5, r6, r7, r8, r9, r10, r11, r12, r13⟩ := hR
      have r1 : v = nI i := r1
      have r2 : v' = nI i := r2
      have t5 : ∀ m, m < C 0 3 → D 1 m = oI (if way.testBit m = true ∧ m < i then 0 else pB m) := r5
      have t6 : ∀ x y, x ≠ 1 → D x y = B x y := r6
      have t7 : ∀ m, m < C 0 3 → G 4 m = oI (if way.testBit m = true ∧ m < i then 0 else pM m) := r7
      have t8 : ∀ x y, x ≠ 4 → x ≠ 9 → ¬ (x = 0 ∧ y = 57) → G x y = M x y := r8
      have t10 : PWq f' a b' E := r10
      have t11 : MWq f' a b' G := r11
      clear r5 r6 r7 r8 r10 r11
      subst r1; subst r2
      obtain ⟨q1, q2⟩ := bitq (x := way) (j := i) hw (by omega)
      show ∃ s' t', f_Pusher_leave_l2 H (nI way) (nI i) D E = _ ∧ f_M_takes_l10 A (nI way) (nI i) G = _ ∧ _
      unfold f_Pusher_leave_l2 f_M_takes_l10
      rw [h03, n3, if_neg (nI_ge hi (by omega)), if_neg (nI_ge hi (by omega))]
      simp only [q1, ne_eq, Decidable.not_not]
      by_cases c1 : way.testBit i = true
      · rw [if_neg (fun h => h c1), if_pos c1]
        obtain ⟨w1, w2⟩ := hway i c1
        have hpi : (fun m => if way.testBit m = true ∧ m < i then 0 else pM m) i ≠ 0 := by
          show (if way.testBit i = true ∧ i < i then 0 else pM i) ≠ 0
          rw [if_neg (by omega)]; exact w2
        have hfew := r9.few hi hpi
        obtain ⟨s1, s2, s3⟩ := r9
        rw [t10.1, if_neg (show ¬ (10 : Int32) ≤ nI (b' - a) from fun h => by have := (na_le (a := 10) (by omega) (by omega)).mp h; omega), ixx_nI (by omega) (by omega), obs, ixx_nI (by omega) (by omega), obs, obs, u2_row G _ (show (0 : Nat) ≠ 4 by decide), t11.1, ixx_nI (by omega) (by omega), obs]
        let f2 : Nat → Nat := fun j => if j = b' then i else f' j
        have f2b : f2 b' = i := by show (if b' = b' then i else _) = i; rw [if_pos rfl]
        have f2o : ∀ j, j ≠ b' → f2 j = f' j := fun j hj => by show (if j = b' then i else _) = _; rw [if_neg hj]
        refine ⟨_, _, rfl, rfl, f2, b' + 1, (nI_succ i).symm, (nI_succ i).symm, by omega, by omega, fun m hm => ?_, fun x y hx => ?_, fun m hm => ?_, fun x y h4 h9 h57 => ?_, ⟨by omega, fun j hj1 hj2 => ?_, fun x y hx hxy hy => ?_⟩, ⟨?_, fun j hj => ?_⟩, ⟨?_, fun j hj1 hj2 => ?_⟩, fun j hj => ?_, fun j hj1 hj2 => ?_⟩
        · dsimp only
          by_cases hm' : m = i
          · subst hm'; rw [u2_same, if_pos ⟨c1, by omega⟩]; rfl
          · rw [u2_col _ _ hm', t5 m hm]
            congr 1
            by_cases hlt : way.testBit m = true ∧ m < i
            · rw [if_pos hlt, if_pos ⟨hlt.1, by omega⟩]
            · rw [if_neg hlt, if_neg (fun g => hlt ⟨g.1, by have := g.2; omega⟩)]
        · dsimp only
          rw [u2_row _ _ hx, t6 x y hx]
        · dsimp only
          rw [u2_row _ _ (show (4 : Nat) ≠ 0 by decide), u2_row _ _ (show (4 : Nat) ≠ 9 by decide)]
          by_cases hm' : m = i
          · subst hm'; rw [u2_same, if_pos ⟨c1, by omega⟩]; rfl
          · rw [u2_col _ _ hm', t7 m hm]
            congr 1
            by_cases hlt : way.testBit m = true ∧ m < i
            · rw [if_pos hlt, if_pos ⟨hlt.1, by omega⟩]
            · rw [if_neg hlt, if_neg (fun g => hlt ⟨g.1, by have := g.2; omega⟩)]
        · dsimp only
          rw [u2_eq, if_neg h57, u2_row _ _ h9, u2_row _ _ h4, t8 x y h4 h9 h57]
        · by_cases he : j = b'
          · subst he
            rw [f2b]
            exact ⟨hi, by show (if way.testBit i = true ∧ i < i + 1 then 0 else pM i) = 0; rw [if_pos ⟨c1, by omega⟩]⟩
          · rw [f2o j he]
            obtain ⟨k1, k2⟩ := s2 j hj1 (by omega)
            refine ⟨k1, ?_⟩
            have k2 : (if way.testBit (f' j) = true ∧ f' j < i then 0 else pM (f' j)) = 0 := k2
            show (if way.testBit (f' j) = true ∧ f' j < i + 1 then 0 else pM (f' j)) = 0
            by_cases hlt : way.testBit (f' j) = true ∧ f' j < i
            · rw [if_pos ⟨hlt.1, by omega⟩]
            · rw [if_neg hlt] at k2
              split
              · rfl
              · exact k2
        · have hne : ∀ z, a ≤ z → z < b' → f' z ≠ i := fun z h1 h2 e => by
            have := (s2 z h1 h2).2
            rw [e] at this
            exact hpi this
          by_cases hy2 : y = b'
          · subst hy2
            rw [f2b, f2o x (by omega)]
            exact hne x hx (by omega)
          · rw [f2o x (by omega), f2o y hy2]
            exact s3 x y hx hxy (by omega)
        · dsimp only
          rw [u2_same, u2_row _ _ (show (0 : Nat) ≠ 1 by decide), t10.1, ← nI_succ, show b' - a + 1 = b' + 1 - a from by omega]
        · dsimp only
          rw [u2_row _ _ (show (1 : Nat) ≠ 0 by decide)]
          by_cases he : j = b' - a
          · subst he
            rw [u2_same, show a + (b' - a) = b' from by omega, f2b]
          · rw [u2_col _ _ he, f2o _ (by omega)]
            exact t10.2 j (by omega)
        · dsimp only
          rw [u2_same, u2_row _ _ (show (0 : Nat) ≠ 9 by decide), u2_row _ _ (show (0 : Nat) ≠ 4 by decide), t11.1, ← nI_succ]
        · dsimp only
          rw [u2_row _ _ (show (9 : Nat) ≠ 0 by decide)]
          by_cases he : j = b'
          · subst he
            rw [u2_same, f2b]
          · rw [u2_col _ _ he, u2_row _ _ (show (9 : Nat) ≠ 4 by decide), f2o _ he]
            exact t11.2 j hj1 (by omega)
        · rw [f2o j (by omega), r12 j hj]
        · by_cases he : j = b'
          · rw [he, f2b]; exact c1
          · rw [f2o j he]; exact r13 j hj1 (by omega)
      · rw [if_pos c1, if_neg c1]
        have same : ∀ m, (way.testBit m = true ∧ m < i + 1) ↔ (way.testBit m = true ∧ m < i) := fun m => ⟨fun g => ⟨g.1, by
          have : m ≠ i := fun e => c1 (e ▸ g.1)
          have := g.2
          omega⟩, fun g => ⟨g.1, by have := g.2; omega⟩⟩
        have eqf : (fun m => if way.testBit m = true ∧ m < i + 1 then 0 else pM m) = (fun m => if way.testBit m = true ∧ m < i then 0 else pM m) := funext (fun m => by simp only [same])
        refine ⟨_, _, rfl, rfl, f', b', (nI_succ i).symm, (nI_succ i).symm, r3, by omega, fun m hm => ?_, t6, fun m hm => ?_, t8, by rw [eqf]; exact r9, t10, t11, r12, r13⟩
        · simp only [same]; exact t5 m hm
        · simp only [same]; exact t7 m hm)
    (fun s t hR => by
      obtain ⟨v, D, E⟩ := s
      obtain ⟨v', G⟩ := t
      obtain ⟨f', b', r1, r2, r3⟩ := hR
      have r1 : v = nI (C 0 3) := r1
      have r2 : v' = nI (C 0 3) := r2
      subst r1; subst r2
      show ∃ s' t', f_Pusher_leave_l2 H (nI way) (nI (C 0 3)) D E = _ ∧ f_M_takes_l10 A (nI way) (nI (C 0 3)) G = _ ∧ _
      unfold f_Pusher_leave_l2 f_M_takes_l10
      rw [h03, n3, if_pos (nI_le (Nat.le_refl _) (by omega)), if_pos (nI_le (Nat.le_refl _) (by omega))]
      exact ⟨(D, E), G, rfl, rfl, f', b', r3⟩)
    0 (Nat.zero_le _) (0, B, P) (0, M) ⟨f, b, rfl, rfl, Nat.le_refl _, Nat.le_refl _, fun m hm => by rw [if_neg (by omega)]; exact hB m hm, fun _ _ _ => rfl, fun m hm => by rw [if_neg (by omega)]; exact h4 m hm, fun _ _ _ _ _ => rfl, by
      have : (fun m => if way.testBit m = true ∧ m < 0 then 0 else pM m) = pM := funext (fun m => if_neg (by omega))
      rw [this]; exact hQ, hP, hMQ, fun _ _ => rfl, fun j h1 h2 => absurd h2 (by omega)⟩
  obtain ⟨B', P'⟩ := r
  obtain ⟨f', b', d1, d2, d3, d4, d5, d6, d7, d8, d9, d10⟩ := e3
  have same : ∀ m, (way.testBit m = true ∧ m < C 0 3) ↔ (way.testBit m = true) := fun m => ⟨fun g => g.1, fun g => ⟨g, (hway m g).1⟩⟩
  have eqf : (fun m => if way.testBit m = true ∧ m < C 0 3 then 0 else pM m) = (fun m => if way.testBit m = true then 0 else pM m) := funext (fun m => by simp only [same])
  rw [eqf] at d7
  refine ⟨B', P', s, f', b', ?_, e2, d1, by omega, fun m hm => ?_, d4, fun m hm => ?_, d6, d7, d8, d9, d10⟩
  · unfold f_Pusher_leave
    rw [e1, obs]
  · have := d3 m hm
    simp only [same] at this
    exact this
  · have := d5 m hm
    simp only [same] at this
    exact this
