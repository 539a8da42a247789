/-! PURE MATH: order -/
def s_sub (C : CS) (g : Nat) : Prop := ∀ x, g.testBit x = true → x < C 0 3 ∧ s_ap C x
def s_rem (C : CS) (g : Nat) : Nat := cnt (fun x => s_ap C x ∧ ¬ g.testBit x = true) (C 0 3)
/-- whether the rest can go one by one -/
def s_on (C : CS) : Nat → Nat → Bool
  | 0, g => decide (g = s_apart C)
  | f + 1, g => decide (g = s_apart C) || decide (bs (fun m => s_can C g m ∧ s_on C f (g ||| 2 ^ m) = true) (C 0 3) ≠ 0)
theorem apart_bit {C : CS} {x : Nat} : (s_apart C).testBit x = true ↔ (x < C 0 3 ∧ s_ap C x) := by
  unfold s_apart
  rw [bs_bit, decide_eq_true_eq]
theorem sub_lt {C : CS} (hN : C 0 3 ≤ 10) {g : Nat} (h : s_sub C g) : g < 2 ^ C 0 3 := Nat.lt_pow_two_of_testBit g (fun i hi => by
  cases hb : g.testBit i with
  | false => rfl
  | true => have := (h i hb).1; omega)
theorem sub_1024 {C : CS} (hN : C 0 3 ≤ 10) {g : Nat} (h : s_sub C g) : g < 1024 := Nat.lt_of_lt_of_le (sub_lt hN h) (Nat.le_trans (Nat.pow_le_pow_right (by omega) hN) (by decide : 2 ^ 10 ≤ 1024))
theorem or_bit (g m x : Nat) : (g ||| 2 ^ m).testBit x = true ↔ (g.testBit x = true ∨ m = x) := by
  rw [Nat.testBit_or, Nat.testBit_two_pow, Bool.or_eq_true, decide_eq_true_eq]
theorem sub_or {C : CS} {g m : Nat} (h : s_sub C g) (hm : m < C 0 3) (ha : s_ap C m) : s_sub C (g ||| 2 ^ m) := fun x hx => by
  rcases (or_bit g m x).mp hx with h1 | h1
  · exact h x h1
  · subst h1; exact ⟨hm, ha⟩
theorem sub_0 (C : CS) : s_sub C 0 := fun x hx => by rw [Nat.zero_testBit] at hx; cases hx
theorem sub_all (C : CS) : s_sub C (s_apart C) := fun _ hx => apart_bit.mp hx
theorem cnt_one {p q : Nat → Prop} [DecidablePred p] [DecidablePred q] {n x : Nat} (hx : x < n) (h : ∀ i, i < n → (p i ↔ (q i ∨ i = x))) (hq : ¬ q x) : cnt p n = cnt q n + 1 := by
  induction n with
  | zero => omega
  | succ n ih =>
    unfold cnt
    by_cases he : x = n
    · subst he
      have hc : cnt p x = cnt q x := cnt_congrN (fun i hi => by
        rw [h i (by omega)]
        exact ⟨fun g => g.elim id (fun e => by omega), Or.inl⟩)
      rw [if_pos ((h x (by omega)).mpr (Or.inr rfl)), if_neg hq, hc]
    · rw [ih (by omega) (fun i hi => h i (by omega))]
      have hn := h n (by omega)
      by_cases hp : p n
      · rw [if_pos hp, if_pos ((hn.mp hp).elim id (fun e => absurd e.symm he))]
      · rw [if_neg hp, if_neg (fun g => hp (hn.mpr (Or.inl g)))]
theorem rem_or {C : CS} {g m : Nat} (hm : m < C 0 3) (ha : s_ap C m) (hg : ¬ g.testBit m = true) : s_rem C g = s_rem C (g ||| 2 ^ m) + 1 := by
  unfold s_rem
  refine cnt_one hm (fun i hi => ?_) (fun h => h.2 ((or_bit g m m).mpr (Or.inr rfl)))
  rw [or_bit]
  constructor
  · rintro ⟨h1, h2⟩
    by_cases he : i = m
    · exact Or.inr he
    · exact Or.inl ⟨h1, fun g => g.elim h2 (fun e => he e.symm)⟩
  · rintro (⟨h1, h2⟩ | rfl)
    · exact ⟨h1, fun g => h2 (Or.inl g)⟩
    · exact ⟨ha, hg⟩
theorem rem_0 {C : CS} {g : Nat} (h : s_sub C g) (hr : s_rem C g = 0) : g = s_apart C := by
  apply Nat.eq_of_testBit_eq
  intro i
  have hz := (cnt_bs0 _ _).mp hr
  by_cases hg : g.testBit i = true
  · rw [hg, apart_bit.mpr (h i hg)]
  · have : ¬ (s_apart C).testBit i = true := fun ha => by
      obtain ⟨h1, h2⟩ := apart_bit.mp ha
      exact (bs_ne0 _ _).mpr ⟨i, h1, h2, hg⟩ hz
    rw [Bool.not_eq_true] at hg this
    rw [hg, this]
theorem rem_all (C : CS) : s_rem C (s_apart C) = 0 := (cnt_bs0 _ _).mpr (Decidable.byContradiction fun hn => by
  obtain ⟨i, h1, h2, h3⟩ := (bs_ne0 _ _).mp hn
  exact h3 (apart_bit.mpr ⟨h1, h2⟩))
theorem or_gt {g m : Nat} (h : ¬ g.testBit m = true) : g < g ||| 2 ^ m := by
  have h1 : g ≤ g ||| 2 ^ m := Nat.left_le_or
  have h2 : g ≠ g ||| 2 ^ m := fun e => h (by rw [e]; exact (or_bit g m m).mpr (Or.inr rfl))
  omega
theorem on_s {C : CS} (f g : Nat) : s_on C (f + 1) g = true ↔ (g = s_apart C ∨ ∃ m, m < C 0 3 ∧ s_can C g m ∧ s_on C f (g ||| 2 ^ m) = true) := by
  show (decide (g = s_apart C) || decide (bs (fun m => s_can C g m ∧ s_on C f (g ||| 2 ^ m) = true) (C 0 3) ≠ 0)) = true ↔ _
  rw [Bool.or_eq_true, decide_eq_true_eq, decide_eq_true_eq, bs_ne0]
theorem on_fuel {C : CS} : ∀ f g, s_sub C g → s_rem C g ≤ f → (s_on C f g = true ↔ s_on C (f + 1) g = true) := by
  intro f
  induction f with
  | zero =>
    intro g hs hr
    have he := rem_0 hs (by omega)
    rw [on_s]
    show decide (g = s_apart C) = true ↔ _
    rw [decide_eq_true_eq]
    exact ⟨fun h => Or.inl h, fun _ => he⟩
  | succ f ih =>
    intro g hs hr
    rw [on_s, on_s]
    have key : ∀ m, m < C 0 3 → s_can C g m → (s_on C f (g ||| 2 ^ m) = true ↔ s_on C (f + 1) (g ||| 2 ^ m) = true) := fun m hm hc => by
      have := rem_or hm hc.1 hc.2.1
      exact ih _ (sub_or hs hm hc.1) (by omega)
    constructor
    · rintro (h | ⟨m, hm, hc, ho⟩)
      · exact Or.inl h
      · exact Or.inr ⟨m, hm, hc, (key m hm hc).mp ho⟩
    · rintro (h | ⟨m, hm, hc, ho⟩)
      · exact Or.inl h
      · exact Or.inr ⟨m, hm, hc, (key m hm hc).mpr ho⟩
theorem rem_le {C : CS} (hN : C 0 3 ≤ 10) (g : Nat) : s_rem C g ≤ 10 := Nat.le_trans (cnt_le _ _) hN
theorem on_step {C : CS} (hN : C 0 3 ≤ 10) {g : Nat} (hs : s_sub C g) : s_on C 10 g = true ↔ (g = s_apart C ∨ ∃ m, m < C 0 3 ∧ s_can C g m ∧ s_on C 10 (g ||| 2 ^ m) = true) := by
  rw [on_fuel 10 g hs (rem_le hN g), on_s]
/-- the reference's memo -/
def s_val (C : CS) (x : Int32) (k : Nat) : Prop := x = 0 ∨ (x = 1 ∧ s_on C 10 k = true) ∨ (x = 2 ∧ ¬ s_on C 10 k = true)
def s_V (C : CS) (g : Nat) (MS : Nat → Nat → Int32) : Prop := ∀ k, g ≤ k → s_sub C k → s_val C (MS 6 k) k
theorem M_goesOn {C : CS} {A : Nat → Nat → Int32} (hW : WFC C) (hP : WFP C) (hM : RMo C A) : ∀ n g MS, s_rem C g < n → s_sub C g → (∀ m, m < C 0 3 → MS 1 m = oI (s_G C m)) → s_V C g MS →
    ∃ MS', f_grp_mo n 0 A MS (nI g) (nI (s_apart C)) = some (if s_on C 10 g = true then 1 else 0, MS') ∧ (∀ m, m < C 0 3 → MS' 1 m = oI (s_G C m)) ∧ s_V C g MS' ∧ ∀ k, k < g → MS' 6 k = MS 6 k := by
  have hN := hW.2.2.2.1
  have n3 : A 0 26 = nI (C 0 3) := hM.n (j := 3) (by omega)
  have hal := sub_1024 hN (sub_all C)
  intro n
  induction n with
  | zero => intro g MS h; omega
  | succ n ih =>
    intro g MS hr hs h1 hV
    have hg := sub_1024 hN hs
    show ∃ MS', f_M_goesOn_B (f_grp_mo n) A MS (nI g) (nI (s_apart C)) = _ ∧ _
    unfold f_M_goesOn_B
    simp only [ne_eq, nI_eqP (show g < 2 ^ 31 by omega) (show s_apart C < 2 ^ 31 by omega)]
    by_cases hga : g = s_apart C
    · rw [if_neg (fun h => h hga)]
      refine ⟨MS, ?_, h1, hV, fun _ _ => rfl⟩
      rw [if_pos ((on_step hN hs).mpr (Or.inl hga)), zb_1]
    · rw [if_pos hga, rdx_nI hg (by omega), obs, obs]
      rcases hV g (Nat.le_refl _) hs with hv | ⟨hv, ho⟩ | ⟨hv, ho⟩
      · rw [hv, if_pos rfl, ixx_nI hg (by omega), obs]
        have e := loop_dn (body := fun q => f_M_goesOn_B_l41 A (nI g) (nI (s_apart C)) (f_grp_mo n) q.1 q.2)
          (fun k s => ∃ i, i + k = C 0 3 ∧ s.1 = nI i ∧ (∀ m, m < C 0 3 → s.2 1 m = oI (s_G C m)) ∧ (∀ k, k < g → s.2 6 k = MS 6 k) ∧ (∀ k, g < k → s_sub C k → s_val C (s.2 6 k) k) ∧ ((s.2 6 g = 2 ∧ ∀ m, m < i → ¬ (s_can C g m ∧ s_on C 10 (g ||| 2 ^ m) = true)) ∨ (s.2 6 g = 1 ∧ s_on C 10 g = true)))
          (fun b => (∀ m, m < C 0 3 → b 1 m = oI (s_G C m)) ∧ (∀ k, k < g → b 6 k = MS 6 k) ∧ (∀ k, g < k → s_sub C k → s_val C (b 6 k) k) ∧ ((b 6 g = 2 ∧ ¬ s_on C 10 g = true) ∨ (b 6 g = 1 ∧ s_on C 10 g = true)))
          (fun k s hR => by
            obtain ⟨v, M⟩ := s
            obtain ⟨i, hi, r1, r2, r3, r4, r5⟩ := hR
            have r1 : v = nI i := r1
            have t2 : ∀ m, m < C 0 3 → M 1 m = oI (s_G C m) := r2
            have t3 : ∀ k, k < g → M 6 k = MS 6 k := r3
            have t4 : ∀ k, g < k → s_sub C k → s_val C (M 6 k) k := r4
            have t5 : (M 6 g = 2 ∧ ∀ m, m < i → ¬ (s_can C g m ∧ s_on C 10 (g ||| 2 ^ m) = true)) ∨ (M 6 g = 1 ∧ s_on C 10 g = true) := r5
            clear r2 r3 r4 r5
            subst r1
            have hi' : i < C 0 3 := by omega
            show (∃ s', f_M_goesOn_B_l41 A (nI g) (nI (s_apart C)) (f_grp_mo n) (nI i) M = _ ∧ _) ∨ (∃ b, f_M_goesOn_B_l41 A (nI g) (nI (s_apart C)) (f_grp_mo n) (nI i) M = _ ∧ _)
            unfold f_M_goesOn_B_l41
            rw [n3, if_neg (nI_ge hi' (by omega)), rdx_nI hg (by omega), obs]
            rcases t5 with ⟨x1, x2⟩ | ⟨x1, x2⟩
            · refine Or.inl ?_
              rw [x1, if_neg (show ¬ ((2 : Int32) ≠ 2) by decide)]
              obtain ⟨M2, c1, c2⟩ := M_canGo hW hP hM t2 (g := g) (by omega) hi'
              have u2' : ∀ m, m < C 0 3 → M2 1 m = oI (s_G C m) := fun m hm => by rw [c2 1 m (by decide), t2 m hm]
              have u6 : ∀ k, M2 6 k = M 6 k := fun k => c2 6 k (by decide)
              rw [c1, obs]
              by_cases hc : s_can C g i
              · rw [if_pos hc, if_neg (show ¬ (1 : Int32) = 0 by decide), shl_1 _ (by omega), na_or]
                have hs2 := sub_or hs hi' hc.1
                have hrm := rem_or hi' hc.1 hc.2.1
                have hgt := or_gt hc.2.1
                have hV2 : s_V C (g ||| 2 ^ i) M2 := fun k hk hsk => by rw [u6]; exact t4 k (by omega) hsk
                obtain ⟨M3, d1, d2, d3, d4⟩ := ih (g ||| 2 ^ i) M2 (by omega) hs2 u2' hV2
                rw [d1, obs]
                have v3 : ∀ k, k < g → M3 6 k = MS 6 k := fun k hk => by rw [d4 k (by omega), u6, t3 k hk]
                have vg : M3 6 g = 2 := by rw [d4 g hgt, u6, x1]
                have v4 : ∀ k, g < k → s_sub C k → s_val C (M3 6 k) k := fun k hk hsk => by
                  by_cases hlt : k < g ||| 2 ^ i
                  · rw [d4 k hlt, u6]; exact t4 k hk hsk
                  · exact d3 k (by omega) hsk
                by_cases ho : s_on C 10 (g ||| 2 ^ i) = true
                · rw [if_pos ho, if_neg (show ¬ (1 : Int32) = 0 by decide), ixx_nI hg (by omega), obs]
                  refine ⟨_, rfl, i + 1, by omega, (nI_succ i).symm, fun m hm => ?_, fun k hk => ?_, fun k hk hsk => ?_, Or.inr ⟨u2_same M3 6 g 1, (on_step hN hs).mpr (Or.inr ⟨i, hi', hc, ho⟩)⟩⟩
                  · show u2 M3 6 g 1 1 m = _
                    rw [u2_row _ _ (by decide), d2 m hm]
                  · show u2 M3 6 g 1 6 k = _
                    rw [u2_col _ _ (by omega), v3 k hk]
                  · show s_val C (u2 M3 6 g 1 6 k) k
                    rw [u2_col _ _ (by omega)]
                    exact v4 k hk hsk
                · rw [if_neg ho, if_pos rfl]
                  refine ⟨_, rfl, i + 1, by omega, (nI_succ i).symm, d2, v3, v4, Or.inl ⟨vg, fun m hm h => ?_⟩⟩
                  by_cases hmi : m = i
                  · subst hmi; exact ho h.2
                  · exact x2 m (by omega) h
              · rw [if_neg hc, if_pos rfl]
                refine ⟨_, rfl, i + 1, by omega, (nI_succ i).symm, u2', fun k hk => ?_, fun k hk hsk => ?_, Or.inl ⟨?_, fun m hm h => ?_⟩⟩
                · show M2 6 k = _
                  rw [u6, t3 k hk]
                · show s_val C (M2 6 k) k
                  rw [u6]; exact t4 k hk hsk
                · show M2 6 g = 2
                  rw [u6, x1]
                · by_cases hmi : m = i
                  · subst hmi; exact hc h.1
                  · exact x2 m (by omega) h
            · refine Or.inr ⟨M, ?_, t2, t3, t4, Or.inr ⟨x1, x2⟩⟩
              rw [x1, if_pos (show (1 : Int32) ≠ 2 by decide)])
          (fun s hR => by
            obtain ⟨v, M⟩ := s
            obtain ⟨i, hi, r1, r2, r3, r4, r5⟩ := hR
            have r1 : v = nI i := r1
            have hi : i = C 0 3 := by omega
            subst hi
            subst r1
            refine ⟨M, ?_, r2, r3, r4, ?_⟩
            · show f_M_goesOn_B_l41 A (nI g) (nI (s_apart C)) (f_grp_mo n) (nI (C 0 3)) M = _
              unfold f_M_goesOn_B_l41
              rw [n3, if_pos (nI_le (Nat.le_refl _) (by omega))]
            · rcases r5 with ⟨x1, x2⟩ | x
              · refine Or.inl ⟨x1, fun ho => ?_⟩
                rcases (on_step hN hs).mp ho with h | ⟨m, hm, hc, ho⟩
                · exact hga h
                · exact x2 m hm ⟨hc, ho⟩
              · exact Or.inr x)
          (C 0 3) (0, u2 MS 6 g 2) a_F ⟨0, by omega, rfl, fun m hm => by
            show u2 MS 6 g 2 1 m = _
            rw [u2_row _ _ (by decide), h1 m hm], fun k hk => by
            show u2 MS 6 g 2 6 k = _
            rw [u2_col _ _ (by omega)], fun k hk hsk => by
            show s_val C (u2 MS 6 g 2 6 k) k
            rw [u2_col _ _ (by omega)]
            exact hV k (by omega) hsk, Or.inl ⟨u2_same MS 6 g 2, fun m hm => by omega⟩⟩ (by unfold a_F; omega)
        obtain ⟨b, b1, b2, b3, b4, b5⟩ := e
        rw [b1, obs, rdx_nI hg (by omega), obs]
        have hVb : s_V C g b := fun k hk hsk => by
          by_cases he : k = g
          · subst he
            rcases b5 with x | x
            · exact Or.inr (Or.inr x)
            · exact Or.inr (Or.inl x)
          · exact b4 k (by omega) hsk
        rcases b5 with ⟨x1, x2⟩ | ⟨x1, x2⟩
        · rw [x1, if_pos (by decide), if_neg x2, zb_0]
          exact ⟨b, rfl, b2, hVb, b3⟩
        · rw [x1, if_neg (by decide), if_pos x2, zb_1]
          exact ⟨b, rfl, b2, hVb, b3⟩
      · rw [hv, if_neg (by decide), if_neg (by decide), if_pos ho, zb_1]
        exact ⟨MS, rfl, h1, hV, fun _ _ => rfl⟩
      · rw [hv, if_neg (by decide), if_pos (by decide), if_neg ho, zb_0]
        exact ⟨MS, rfl, h1, hV, fun _ _ => rfl⟩
/-- the largest set of those apart below one of them -/
theorem sub_prev : ∀ n a g k : Nat, g ≤ n → g &&& a = g → k &&& a = k → k < g → k ≤ (g - 1) &&& a := by
  intro n
  induction n with
  | zero => intro a g k h _ _ h3; omega
  | succ n ih =>
    intro a g k hn hg hk hkg
    have g2 : (g / 2) &&& (a / 2) = g / 2 := by rw [← Nat.and_div_two, hg]
    have k2 : (k / 2) &&& (a / 2) = k / 2 := by rw [← Nat.and_div_two, hk]
    have ka : k % 2 = 1 → a % 2 = 1 := fun h => by
      rw [← hk] at h
      exact (Nat.and_mod_two_eq_one.mp h).2
    have hd : ((g - 1) &&& a) / 2 = ((g - 1) / 2) &&& (a / 2) := Nat.and_div_two
    by_cases hg1 : g % 2 = 1
    · have : (g - 1) / 2 = g / 2 := by omega
      rw [this, g2] at hd
      omega
    · have e1 : (g - 1) / 2 = g / 2 - 1 := by omega
      rw [e1] at hd
      have hkk : k / 2 < g / 2 := by omega
      have := ih (a / 2) (g / 2) (k / 2) (by omega) g2 k2 hkk
      have hm : k % 2 = 1 → ((g - 1) &&& a) % 2 = 1 := fun h => Nat.and_mod_two_eq_one.mpr ⟨by omega, ka h⟩
      omega
theorem sub_and {C : CS} {g : Nat} (h : s_sub C g) : g &&& s_apart C = g := by
  apply Nat.eq_of_testBit_eq
  intro i
  rw [Nat.testBit_and]
  cases hb : g.testBit i with
  | false => rfl
  | true => rw [apart_bit.mpr (h i hb)]; rfl
theorem and_sub {C : CS} (g : Nat) : s_sub C (g &&& s_apart C) := fun x hx => by
  rw [Nat.testBit_and, Bool.and_eq_true] at hx
  exact apart_bit.mp hx.2
