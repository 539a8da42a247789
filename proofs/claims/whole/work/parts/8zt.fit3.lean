/-! PURE MATH: the class's search of places -/
/-- those who move, from the i-th on -/
def LRo (F : Nat → Nat → Int32) : Nat → List Nat → Prop
  | i, [] => F 0 6 = nI i
  | i, o :: os => F 4 i = nI o ∧ LRo F (i + 1) os
theorem LRo.len {F : Nat → Nat → Int32} : ∀ {os : List Nat} {i : Nat}, LRo F i os → F 0 6 = nI (i + os.length) := by
  intro os
  induction os with
  | nil => intro i h; exact h
  | cons o os ih =>
    intro i h
    have := ih h.2
    rw [this, List.length_cons, show i + 1 + os.length = i + (os.length + 1) from by omega]
theorem LRo.cg {F F' : Nat → Nat → Int32} : ∀ {os : List Nat} {i : Nat}, LRo F i os → (∀ b, i ≤ b → F' 4 b = F 4 b) → F' 0 6 = F 0 6 → LRo F' i os := by
  intro os
  induction os with
  | nil => intro i h _ h6; show F' 0 6 = _; rw [h6]; exact h
  | cons o os ih =>
    intro i h h4 h6
    exact ⟨by rw [h4 i (Nat.le_refl _)]; exact h.1, ih h.2 (fun b hb => h4 b (by omega)) h6⟩
theorem RB_cg {C : CS} {p q tm : Nat → Nat} {B : Nat → Nat → Int32} (h : RB C p tm B) (he : ∀ x, x < C 0 3 → p x = q x) : RB C q tm B := ⟨fun m hm => by rw [h.1 m hm, he m hm], h.2.1, h.2.2⟩
theorem RB_pu {C : CS} {q tm : Nat → Nat} {B : Nat → Nat → Int32} {o z z' : Nat} (h : RB C (pu q o z) tm B) {v : Int32} (hv : v = oI z') : RB C (pu q o z') tm (u2 B 1 o v) := by
  refine ⟨fun m hm => ?_, fun m hm => ?_, fun r hr => ?_⟩
  · by_cases hx : m = o
    · subst hx; rw [u2_same, pu_same, hv]
    · rw [u2_col _ _ hx, h.1 m hm, pu_ne _ hx, pu_ne _ hx]
  · rw [u2_row _ _ (by decide)]; exact h.2.1 m hm
  · rw [u2_row _ _ (by decide)]; exact h.2.2 r hr
theorem pu_id {q : Nat → Nat} {o : Nat} : pu q o (q o) = q := by
  funext x
  unfold pu
  split
  · rename_i h; rw [h]
  · rfl
/-- o may go to hour h of room r, it was not there -/
abbrev s_op (C : CS) (q : Nat → Nat) (o r h : Nat) : Prop := s_clash C q o (3 * h + r) = 0 ∧ 3 * h + r + 1 ≠ C 15 o
theorem Y_findOpen {C : CS} {H B F : Nat → Nat → Int32} {q tm : Nat → Nat} (hW : WFC C) (hH : RH C H) (hB : RB C q tm B) (hq : ∀ x, q x ≤ 30) {i o L : Nat} (ho : o < C 0 3) (h0 : C 15 o ≠ 0) (h6 : F 0 6 = nI L) (hiL : i < L) (hL : L ≤ 3) (h4 : F 4 i = nI o) (h1 : F 1 o = oI (C 15 o)) :
    ∃ v F', f_Fitter_findOpen H B F (nI i) = some (v, F') ∧ ((v = 0 ∧ ∀ k, ¬ (s_fr C q o k ∧ k + 1 ≠ C 15 o)) ∨ v = 1) ∧ (∀ r, r < C 0 1 → F' 5 (3 * i + r) = nI (bs (s_op C q o r) 10)) ∧ ∀ a b, ¬ (a = 5 ∧ 3 * i ≤ b) → F' a b = F a b := by
  have hN := hW.2.2.2.1
  have hR3 := hW.2.1
  have hT := hW.1.2
  have h01 : H 0 1 = nI (C 0 1) := hH 0 1 (show 1 < 6 by omega)
  have hc := hW.plan o
  obtain ⟨p1, p2⟩ := pl_h h0 hc
  unfold f_Fitter_findOpen
  rw [h6, if_neg (nI_ge hiL (by omega)), if_pos (show nI i < 3 from nI_lt (b := 3) (by omega) (by omega)), rdx_nI (by omega) (by omega), h4, obs]
  have e := loop_rel (body := fun z : Int32 × Int32 × (Nat → Nat → Int32) => f_Fitter_findOpen_l27 H B (nI o) (nI i) z.1 z.2.1 z.2.2) (C 0 1)
    (fun r s => ∃ y, s.1 = nI y ∧ y < 2 ^ 10 ∧ (∀ r' h, r' < r → h < 10 → s_op C q o r' h → y.testBit h = true) ∧ s.2.1 = nI r ∧ (∀ r', r' < r → s.2.2 5 (3 * i + r') = nI (bs (s_op C q o r') 10)) ∧ ∀ a b, ¬ (a = 5 ∧ 3 * i ≤ b) → s.2.2 a b = F a b)
    (fun b => ∃ y, b.1 = nI y ∧ y < 2 ^ 10 ∧ (∀ r' h, r' < C 0 1 → h < 10 → s_op C q o r' h → y.testBit h = true) ∧ (∀ r', r' < C 0 1 → b.2 5 (3 * i + r') = nI (bs (s_op C q o r') 10)) ∧ ∀ a b', ¬ (a = 5 ∧ 3 * i ≤ b') → b.2 a b' = F a b') (by omega)
    (fun r s hr hs => by
      obtain ⟨v2, v3, G⟩ := s
      obtain ⟨y, s1, s2, s3, s4, s5, s6⟩ := hs
      have s1 : v2 = nI y := s1
      have s4 : v3 = nI r := s4
      subst s1; subst s4
      have s5' : ∀ r', r' < r → G 5 (3 * i + r') = nI (bs (s_op C q o r') 10) := s5
      have s6' : ∀ a b, ¬ (a = 5 ∧ 3 * i ≤ b) → G a b = F a b := s6
      have g1 : rdx (G 1) 10 (nI o) = some (oI (C 15 o)) := by rw [rdx_nI (by omega) (by omega), s6' 1 o (by omega), h1]
      have hlt := bs_lt10' (p := fun h => s_clash C q o (3 * h + r) = 0)
      have ev : ((if nI ((C 15 o - 1) % 3) ≠ nI r then some (nI (bs (fun h => s_clash C q o (3 * h + r) = 0) 10)) else (some (oI (C 15 o))).bind fun x9 => (f_Y_hourOf x9).bind fun x10 => some (nI (bs (fun h => s_clash C q o (3 * h + r) = 0) 10) &&& (a_shl 1 x10 ^^^ (-1))) : Option Int32)) = some (nI (bs (s_op C q o r) 10)) := by
        simp only [ne_eq, nI_eqP (show (C 15 o - 1) % 3 < 2 ^ 31 by omega) (show r < 2 ^ 31 by omega)]
        by_cases c : (C 15 o - 1) % 3 = r
        · rw [if_neg (fun h => h c), obs]
          unfold f_Y_hourOf
          rw [obs, p1, shl_1 _ (by omega), na_not, na_and, bs_diff _ (by omega)]
          refine congrArg (fun x => some (nI x)) (bs_congr (fun h hh => ?_))
          rw [Nat.testBit_two_pow]
          constructor
          · rintro ⟨a1, a2⟩
            exact ⟨a1, fun e => a2 (by simp; omega)⟩
          · rintro ⟨a1, a2⟩
            refine ⟨a1, fun e => a2 ?_⟩
            have e : (C 15 o - 1) / 3 = h := by simpa using e
            omega
        · rw [if_pos c]
          refine congrArg (fun x => some (nI x)) (bs_congr (fun h hh => ?_))
          constructor
          · intro a1
            exact ⟨a1, fun e => c (by omega)⟩
          · exact fun a => a.1
      show ∃ s', f_Fitter_findOpen_l27 H B (nI o) (nI i) (nI y) (nI r) G = _ ∧ _
      unfold f_Fitter_findOpen_l27 f_Y_roomOf
      rw [h01, if_neg (nI_ge hr (by omega)), Y_openHours hW hH hB hq ho hr, obs, g1, obs, obs, p2, ev, obs, (pl_of i r).1, ixx_nI (by omega) (by omega), obs]
      have hlt2 := bs_lt10' (p := s_op C q o r)
      refine ⟨_, rfl, y ||| bs (s_op C q o r) 10, na_or _ _, Nat.or_lt_two_pow s2 hlt2, fun r' h hr' hh hop => ?_, (nI_succ r).symm, fun r' hr' => ?_, fun a b hab => ?_⟩
      · rw [Nat.testBit_or, Bool.or_eq_true]
        by_cases hrr : r' = r
        · subst hrr
          right
          rw [bs_bit, decide_eq_true_eq]
          exact ⟨hh, hop⟩
        · exact Or.inl (s3 r' h (by omega) hh hop)
      · show u2 G 5 (3 * i + r) _ 5 (3 * i + r') = _
        by_cases hrr : r' = r
        · subst hrr; rw [u2_same]
        · rw [u2_col _ _ (by omega)]; exact s5' r' (by omega)
      · show u2 G 5 (3 * i + r) _ a b = _
        rw [u2_eq, if_neg (by omega)]
        exact s6' a b hab)
    (fun s hs => by
      obtain ⟨v2, v3, G⟩ := s
      obtain ⟨y, s1, s2, s3, s4, s5, s6⟩ := hs
      have s4 : v3 = nI (C 0 1) := s4
      subst s4
      show ∃ b, f_Fitter_findOpen_l27 H B (nI o) (nI i) v2 (nI (C 0 1)) G = _ ∧ _
      unfold f_Fitter_findOpen_l27
      rw [h01, if_pos (nI_le (Nat.le_refl _) (by omega))]
      exact ⟨_, rfl, y, s1, s2, s3, s5, s6⟩)
    (0, 0, F) ⟨0, rfl, by decide, fun r' h hr' => by omega, rfl, fun r' hr' => by omega, fun _ _ _ => rfl⟩
  obtain ⟨⟨v2, G⟩, e1, y, e2, e3, e4, e5, e6⟩ := e
  have e2 : v2 = nI y := e2
  subst e2
  rw [e1, obs]
  by_cases hy : y = 0
  · subst hy
    rw [if_pos (show nI 0 = 0 from rfl)]
    refine ⟨0, G, rfl, Or.inl ⟨rfl, fun k hk => ?_⟩, e5, e6⟩
    obtain ⟨⟨f1, f2, f3⟩, f4⟩ := hk
    have := e4 (k % 3) (k / 3) f1 (by omega) (by
      show s_clash C q o (3 * (k / 3) + k % 3) = 0 ∧ 3 * (k / 3) + k % 3 + 1 ≠ C 15 o
      rw [show 3 * (k / 3) + k % 3 = k from by omega]
      exact ⟨f3, f4⟩)
    rw [Nat.zero_testBit] at this
    cases this
  · rw [if_neg (nI_ne0 (Nat.pos_of_ne_zero hy) (by omega))]
    exact ⟨1, G, rfl, Or.inr rfl, e5, e6⟩
theorem Y_seat {C : CS} {H : Nat → Nat → Int32} {tm : Nat → Nat} (hW : WFC C) (hH : RH C H) : ∀ os n i B F q, os.length < n → i + os.length ≤ 3 → LRo F i os → (∀ o, o ∈ os → o < C 0 3 ∧ C 15 o ≠ 0 ∧ q o = 0) → os.Nodup → (∀ x, x < C 0 3 → F 1 x = oI (C 15 x)) → RB C q tm B → (∀ x, q x ≤ 30) →
    ∃ B' F', f_grp_cs n 0 H B F (nI i) = some (sB (s_seek C os q), B', F') ∧ RB C ((s_seek C os q).getD q) tm B' ∧ ∀ a b, ¬ (a = 5 ∧ 3 * i ≤ b) → F' a b = F a b := by
  have hN := hW.2.2.2.1
  have hR3 := hW.2.1
  have hT := hW.1.2
  have h00 : H 0 0 = nI (C 0 0) := hH 0 0 (show 0 < 6 by omega)
  have h01 : H 0 1 = nI (C 0 1) := hH 0 1 (show 1 < 6 by omega)
  intro os
  induction os with
  | nil =>
    intro n i B F q hn hi hL _ _ _ hB _
    obtain ⟨n, rfl⟩ : ∃ k, n = k + 1 := ⟨n - 1, by omega⟩
    show ∃ B' F', f_Fitter_seat_B (f_grp_cs n) H B F (nI i) = _ ∧ _
    unfold f_Fitter_seat_B
    have hi : i ≤ 3 := hi
    rw [hL.len, if_neg (by rw [na_lt (by omega) (by simp; omega)]; simp)]
    exact ⟨B, F, rfl, hB, fun _ _ _ => rfl⟩
  | cons o os ih =>
    intro n i B F q hn hi hL ho hnd h1 hB hq
    rw [List.length_cons] at hn hi
    rw [List.nodup_cons] at hnd
    obtain ⟨n, rfl⟩ : ∃ k, n = k + 1 := ⟨n - 1, by omega⟩
    obtain ⟨o1, o2, o3⟩ := ho o List.mem_cons_self
    have hlen := hL.len
    rw [List.length_cons] at hlen
    show ∃ B' F', f_Fitter_seat_B (f_grp_cs n) H B F (nI i) = _ ∧ _
    unfold f_Fitter_seat_B
    obtain ⟨v, G, g1, g2, g3, g4⟩ := Y_findOpen hW hH hB hq (i := i) (L := i + (os.length + 1)) o1 o2 hlen (by omega) hi hL.1 (h1 o o1)
    rw [hlen, if_pos (nI_lt (by omega) (by omega)), g1, obs]
    have es : s_seek C (o :: os) q = s_try (fun k => s_fr C q o k ∧ k + 1 ≠ C 15 o) (fun k => s_seek C os (pu q o (k + 1))) 30 0 := rfl
    rcases g2 with ⟨rfl, g2⟩ | rfl
    · rw [if_neg (fun h => h rfl), es, try_none 30 0 (fun k _ _ hk => absurd hk (g2 k))]
      exact ⟨B, G, rfl, hB, fun a b hab => g4 a b hab⟩
    · have g4i : rdx (G 4) 3 (nI i) = some (nI o) := by rw [rdx_nI (by omega) (by omega), g4 4 i (by omega), hL.1]
      rw [if_pos (show (1 : Int32) ≠ 0 by decide), g4i, obs, es, try_nest (fun k => s_fr C q o k ∧ k + 1 ≠ C 15 o) (fun k => s_seek C os (pu q o (k + 1))) hR3 hT (fun k hk => ⟨hk.1.1, hk.1.2.1⟩)]
      have hne : ∀ x, x ∈ os → x ≠ o := fun x hx e => hnd.1 (e ▸ hx)
      have eL := loop_try (body := fun z : Int32 × (Nat → Nat → Int32) × (Nat → Nat → Int32) => f_Fitter_seat_B_l29 H (nI i) (nI o) (f_grp_cs n) z.1 z.2.1 z.2.2) (C 0 0) (fun _ => True) (fun h => s_try (fun r => s_fr C q o (3 * h + r) ∧ 3 * h + r + 1 ≠ C 15 o) (fun r => s_seek C os (pu q o (3 * h + r + 1))) (C 0 1) 0)
        (fun s => (∃ z, z ≤ 30 ∧ RB C (pu q o z) tm s.1) ∧ ∀ a b, ¬ (a = 5 ∧ 3 * (i + 1) ≤ b) → s.2 a b = G a b)
        (fun q' g => g.1 = 1 ∧ RB C q' tm g.2.1 ∧ ∀ a b, ¬ (a = 5 ∧ 3 * (i + 1) ≤ b) → g.2.2 a b = G a b) (by omega)
        (fun h s hh hs _ => by
          have eI := loop_try (body := fun z : Int32 × (Nat → Nat → Int32) × (Nat → Nat → Int32) => f_Fitter_seat_B_l46 H (nI i) (nI h) (nI o) (f_grp_cs n) z.1 z.2.1 z.2.2) (C 0 1) (fun r => s_fr C q o (3 * h + r) ∧ 3 * h + r + 1 ≠ C 15 o) (fun r => s_seek C os (pu q o (3 * h + r + 1)))
            (fun s => (∃ z, z ≤ 30 ∧ RB C (pu q o z) tm s.1) ∧ ∀ a b, ¬ (a = 5 ∧ 3 * (i + 1) ≤ b) → s.2 a b = G a b)
            (fun q' g => ∃ g0, g = .inr (.inr g0) ∧ g0.1 = 1 ∧ RB C q' tm g0.2.1 ∧ ∀ a b, ¬ (a = 5 ∧ 3 * (i + 1) ≤ b) → g0.2.2 a b = G a b) (by omega)
            (fun r s hr hs hp => by
              obtain ⟨X, Z⟩ := s
              obtain ⟨⟨z, z1, z2⟩, z3⟩ := hs
              have z3' : ∀ a b, ¬ (a = 5 ∧ 3 * (i + 1) ≤ b) → Z a b = G a b := z3
              have z2' : RB C (pu q o z) tm X := z2
              have r5 : rdx (Z 5) 9 (nI i * 3 + nI r) = some (nI (bs (s_op C q o r) 10)) := by
                rw [(pl_of i r).1, rdx_nI (by omega) (by omega), z3' 5 _ (by omega), g3 r hr]
              have hlt := bs_lt10' (p := s_op C q o r)
              obtain ⟨b1, b2⟩ := bitq (x := bs (s_op C q o r) 10) (j := h) (by omega) (by omega)
              have hbit : (bs (s_op C q o r) 10).testBit h = true := by
                rw [bs_bit, decide_eq_true_eq]; exact ⟨by omega, hp.1.2.2, hp.2⟩
              have hB2 : RB C (pu q o (3 * h + r + 1)) tm (u2 X 1 o (nI (3 * h + r))) := RB_pu z2' (oI_s _).symm
              obtain ⟨B', F', c1, c2, c3⟩ := ih n (i + 1) (u2 X 1 o (nI (3 * h + r))) Z (pu q o (3 * h + r + 1)) (by omega) (by omega) (hL.2.cg (fun b hb => by rw [z3' 4 b (by omega), g4 4 b (by omega)]) (by rw [z3' 0 6 (by omega), g4 0 6 (by omega)])) (fun x hx => by
                obtain ⟨x1, x2, x3⟩ := ho x (List.mem_cons_of_mem _ hx)
                exact ⟨x1, x2, by rw [pu_ne _ (hne x hx)]; exact x3⟩) hnd.2 (fun x hx => by rw [z3' 1 x (by omega), g4 1 x (by omega), h1 x hx]) hB2 (pu_le hq (by omega))
              have eb : f_Fitter_seat_B_l46 H (nI i) (nI h) (nI o) (f_grp_cs n) (nI r) X Z = (if sB (s_seek C os (pu q o (3 * h + r + 1))) = 0 then some (.inl (nI r + 1, B', F')) else some (.inr (.inr (.inr (.inr (zb 1, B', F')))))) := by
                unfold f_Fitter_seat_B_l46 f_Y_placeOf
                rw [h01, if_neg (nI_ge hr (by omega)), r5, obs, if_neg (fun h => (b1.mp h) hbit), obs, (pl_of h r).1, ixx_nI (by omega) (by omega), obs, ← nI_succ i, c1, obs]
              have w3 : ∀ a b, ¬ (a = 5 ∧ 3 * (i + 1) ≤ b) → F' a b = G a b := fun a b hab => by rw [c3 a b hab, z3' a b hab]
              cases hsk : s_seek C os (pu q o (3 * h + r + 1)) with
              | some q' =>
                rw [hsk] at eb c2
                refine Or.inl ⟨q', .inr (.inr (1, B', F')), rfl, ?_, (1, B', F'), rfl, rfl, c2, w3⟩
                show f_Fitter_seat_B_l46 H (nI i) (nI h) (nI o) (f_grp_cs n) (nI r) X Z = _
                rw [eb]
                show (if (1 : Int32) = 0 then _ else _) = _
                rw [if_neg (by decide), zb_1]
              | none =>
                rw [hsk] at eb c2
                refine Or.inr ⟨rfl, (B', F'), ?_, ⟨3 * h + r + 1, by omega, c2⟩, w3⟩
                show f_Fitter_seat_B_l46 H (nI i) (nI h) (nI o) (f_grp_cs n) (nI r) X Z = _
                rw [eb]
                show (if (0 : Int32) = 0 then _ else _) = _
                rw [if_pos rfl])
            (fun r s hr hs hp => by
              obtain ⟨X, Z⟩ := s
              obtain ⟨z2, z3⟩ := hs
              have z3' : ∀ a b, ¬ (a = 5 ∧ 3 * (i + 1) ≤ b) → Z a b = G a b := z3
              have r5 : rdx (Z 5) 9 (nI i * 3 + nI r) = some (nI (bs (s_op C q o r) 10)) := by
                rw [(pl_of i r).1, rdx_nI (by omega) (by omega), z3' 5 _ (by omega), g3 r hr]
              have hlt := bs_lt10' (p := s_op C q o r)
              obtain ⟨b1, b2⟩ := bitq (x := bs (s_op C q o r) 10) (j := h) (by omega) (by omega)
              have hbit : ¬ (bs (s_op C q o r) 10).testBit h = true := by
                rw [bs_bit, decide_eq_true_eq]
                rintro ⟨_, x1, x2⟩
                exact hp ⟨⟨by omega, by omega, x1⟩, x2⟩
              refine ⟨(X, Z), ?_, z2, z3⟩
              show f_Fitter_seat_B_l46 H (nI i) (nI h) (nI o) (f_grp_cs n) (nI r) X Z = _
              unfold f_Fitter_seat_B_l46
              rw [h01, if_neg (nI_ge hr (by omega)), r5, obs, if_pos (b1.mpr hbit)])
            (fun s hs => by
              obtain ⟨X, Z⟩ := s
              show f_Fitter_seat_B_l46 H (nI i) (nI h) (nI o) (f_grp_cs n) (nI (C 0 1)) X Z = _
              unfold f_Fitter_seat_B_l46
              rw [h01, if_pos (nI_le (Nat.le_refl _) (by omega))])
            s hs
          obtain ⟨X, Z⟩ := s
          rcases eI with ⟨q', g, k1, k2, g0, rfl, k3, k4, k5⟩ | ⟨k1, s', k2, k3⟩
          · refine Or.inl ⟨q', g0, k1, ?_, k3, k4, k5⟩
            show f_Fitter_seat_B_l29 H (nI i) (nI o) (f_grp_cs n) (nI h) X Z = _
            unfold f_Fitter_seat_B_l29
            rw [h00, if_neg (nI_ge hh (by omega)), k2, obs, se_r]
          · refine Or.inr ⟨k1, s', ?_, k3⟩
            show f_Fitter_seat_B_l29 H (nI i) (nI o) (f_grp_cs n) (nI h) X Z = _
            unfold f_Fitter_seat_B_l29
            rw [h00, if_neg (nI_ge hh (by omega)), k2, obs, se_l])
        (fun h s hh hs hp => absurd trivial hp)
        (fun s hs => by
          obtain ⟨X, Z⟩ := s
          show f_Fitter_seat_B_l29 H (nI i) (nI o) (f_grp_cs n) (nI (C 0 0)) X Z = _
          unfold f_Fitter_seat_B_l29
          rw [h00, if_pos (nI_le (Nat.le_refl _) (by omega))])
        (B, G) ⟨⟨q o, hq o, by rw [pu_id]; exact hB⟩, fun _ _ _ => rfl⟩
      rcases eL with ⟨q', g, k1, k2, k3, k4, k5⟩ | ⟨k1, s', k2, ⟨z, z1, z2⟩, k4⟩
      · rw [k2, obs, se_r]
        obtain ⟨g1, g2, g3'⟩ := g
        have k3 : g1 = 1 := k3
        subst k3
        refine ⟨g2, g3', ?_, ?_, fun a b hab => ?_⟩
        · rw [k1]; rfl
        · rw [k1]; exact k4
        · have k5' : ∀ a b, ¬ (a = 5 ∧ 3 * (i + 1) ≤ b) → g3' a b = G a b := k5
          rw [k5' a b (by omega), g4 a b hab]
      · obtain ⟨X, Z⟩ := s'
        rw [k2, obs, se_l, ixx_nI (by omega) (by omega), obs]
        have z2' : RB C (pu q o z) tm X := z2
        have z3' : ∀ a b, ¬ (a = 5 ∧ 3 * (i + 1) ≤ b) → Z a b = G a b := k4
        refine ⟨u2 X 1 o (-1), Z, ?_, ?_, fun a b hab => ?_⟩
        · rw [k1]; rfl
        · rw [k1]
          show RB C q tm _
          have := RB_pu z2' (z' := 0) (v := -1) oI_0.symm
          rw [← o3, pu_id] at this
          exact this
        · rw [z3' a b (by omega), g4 a b hab]
