/-! PURE MATH: week, done, span -/
theorem M_mostBorn {C : CS} {A : Nat → Nat → Int32} (hW : WFC C) (hM : RMo C A) (hT : WFT (C 16)) : f_M_mostBorn A = some (nI (s_most (s_bears C (C 16)) (C 0 2))) := by
  have hP := hW.2.2.1
  have n2 : A 0 25 = nI (C 0 2) := hM.n (j := 2) (by omega)
  unfold f_M_mostBorn
  have e := loop_S (body := fun q => f_M_mostBorn_l4 A q.1 q.2) (C 0 2) (fun i => (nI (s_most (s_bears C (C 16)) i), nI i)) (b := nI (s_most (s_bears C (C 16)) (C 0 2))) 0 (by omega) (by omega)
    (fun i _ hi => by
      have h1 := s_bears_lt hW hT i
      have h2 := s_most_lt (s_bears C (C 16)) i (2 ^ 31) (by omega) (fun j _ => s_bears_lt hW hT j)
      show f_M_mostBorn_l4 A (nI _) (nI i) = some (Sum.inl (nI (if s_most (s_bears C (C 16)) i < s_bears C (C 16) i then s_bears C (C 16) i else s_most (s_bears C (C 16)) i), nI (i + 1)))
      unfold f_M_mostBorn_l4
      rw [n2, if_neg (nI_ge hi (by omega)), M_bornBy hW hM (by omega), obs]
      simp only [show (nI (s_bears C (C 16) i) ≤ nI (s_most (s_bears C (C 16)) i)) = (s_bears C (C 16) i ≤ s_most (s_bears C (C 16)) i) from propext (na_le h1 h2)]
      by_cases c : s_most (s_bears C (C 16)) i < s_bears C (C 16) i
      · rw [if_neg (by omega), if_pos c, obs, nI_succ]
      · rw [if_pos (by omega), if_neg c, nI_succ])
    (by
      show f_M_mostBorn_l4 A _ (nI (C 0 2)) = _
      unfold f_M_mostBorn_l4
      rw [n2, if_pos (nI_le (Nat.le_refl _) (by omega))])
  show (loopN _ a_F (nI (s_most (s_bears C (C 16)) 0), nI 0)).bind _ = _
  rw [e, obs]
theorem M_aside (A MS : Nat → Nat → Int32) : ∃ M1, f_M_aside A MS = some M1 ∧ ∀ m, m < 10 → M1 10 m = A 7 m ∧ M1 11 m = A 8 m := by
  unfold f_M_aside cpM
  rw [if_pos (by decide), obs, if_pos (by decide), obs]
  refine ⟨_, rfl, fun m hm => ⟨?_, ?_⟩⟩
  · rw [u1_eq, if_neg (by decide), u1_eq, if_pos rfl, cl_10, if_pos hm]
  · rw [u1_eq, if_pos rfl, cl_10, if_pos hm]
theorem M_back (A MS : Nat → Nat → Int32) : ∃ A1, f_M_back A MS = some A1 ∧ (∀ m, m < 10 → A1 7 m = MS 10 m ∧ A1 8 m = MS 11 m) ∧ ∀ a b, a ≠ 7 → a ≠ 8 → A1 a b = A a b := by
  unfold f_M_back cpM
  rw [if_pos (by decide), obs, if_pos (by decide), obs]
  refine ⟨_, rfl, fun m hm => ⟨?_, ?_⟩, fun a b h7 h8 => ?_⟩
  · rw [u1_eq, if_neg (by decide), u1_eq, if_pos rfl, cl_10, if_pos hm]
  · rw [u1_eq, if_pos rfl, cl_10, if_pos hm]
  · rw [u1_eq, if_neg h8, u1_eq, if_neg h7]
theorem WK.start {C : CS} {A B : Nat → Nat → Int32} (hW : WFC C) (hP : WFP C) (hM : RMo C A) (hB : RB C (C 15) (C 16) B) : WK C A (C 16) 0 (C 15) (C 16) B A := ⟨hB, hW.plan, hP.1, fun m => Nat.le_refl _, fun _ _ _ _ => rfl, fun m hm => hM.here hm, fun m hm => hM.times hm⟩
/-- it is as it was -/
theorem RL_again {C : CS} {Y H NS A A' A'' : Nat → Nat → Int32} {M : Nat → Nat → Int32} (h : RL C Y H NS A) (ho : ∀ a b, a ≠ 7 → a ≠ 8 → A' a b = A a b) (k1 : ∀ m, m < 10 → A'' 7 m = M 10 m ∧ A'' 8 m = M 11 m) (k2 : ∀ a b, a ≠ 7 → a ≠ 8 → A'' a b = A' a b) (hm : ∀ m, m < 10 → M 10 m = A 7 m ∧ M 11 m = A 8 m) : RL C Y H NS A'' := by
  obtain ⟨hW, hY, hH, hS, hM, hQ⟩ := h
  have hN := hW.2.2.2.1
  refine ⟨hW, hY, hH, hS, ?_, ?_⟩
  · have := RM_PT hM (C 15) (C 16) (A' := A'') (fun a b h7 h8 => by rw [k2 a b h7 h8, ho a b h7 h8]) (fun m hm' => by rw [(k1 m (by omega)).1, (hm m (by omega)).1, hM.here hm']) (fun m hm' => by rw [(k1 m (by omega)).2, (hm m (by omega)).2, hM.times hm'])
    rw [setPT_id] at this
    exact this
  · unfold RQ
    rw [k2 1 0 (by decide) (by decide), k2 1 1 (by decide) (by decide), ho 1 0 (by decide) (by decide), ho 1 1 (by decide) (by decide)]
    exact hQ
def TE (C : CS) (H NS : Nat → Nat → Int32) (y : Option (Nat × Int32 × (Nat → Nat → Int32) × (Nat → Nat → Int32) × Nat)) (m : Option (Int32 × (Nat → Nat → Int32) × (Nat → Nat → Int32))) (cd : Nat → Int32) (K : Nat → Prop) : Prop :=
  ∃ k v Y' B' r' v' A' S', y = some (k, v, Y', B', r') ∧ m = some (v', A', S') ∧ A' 0 0 = cd k ∧ (k = 0 ∨ K k) ∧ (k = 0 → v = v') ∧ RL C Y' H NS A'
theorem TE.ans {C : CS} {Y H NS A B S : Nat → Nat → Int32} {r : Nat} {y : Option (Nat × Int32 × (Nat → Nat → Int32) × (Nat → Nat → Int32) × Nat)} {m : Option (Int32 × (Nat → Nat → Int32) × (Nat → Nat → Int32))} {cd : Nat → Int32} {K : Nat → Prop} (v : Int32) (h : RL C Y H NS A) (h0 : A 0 0 = 0) (hc : cd 0 = 0) (hy : y = some (0, v, Y, B, r)) (hm : m = some (v, A, S)) : TE C H NS y m cd K := ⟨0, v, Y, B, r, v, A, S, hy, hm, by rw [h0, hc], Or.inl rfl, fun _ => rfl, h⟩
theorem TE.ref {C : CS} {Y H NS A B S : Nat → Nat → Int32} {r : Nat} {y : Option (Nat × Int32 × (Nat → Nat → Int32) × (Nat → Nat → Int32) × Nat)} {m : Option (Int32 × (Nat → Nat → Int32) × (Nat → Nat → Int32))} {cd : Nat → Int32} {K : Nat → Prop} (k : Nat) (hk : k < 2) (h : RL C Y H NS A) (hK : K (k + 1)) (hy : y = some (k + 1, 0, yRef Y k, B, r)) (hm : m = some (0, mRef A (cd (k + 1)) k, S)) : TE C H NS y m cd K := ⟨k + 1, 0, yRef Y k, B, r, 0, mRef A (cd (k + 1)) k, S, hy, hm, mRef_0 _ _ _, Or.inr hK, fun h => by omega, h.ref _ hk⟩
theorem G_from1 {p : Int32} (K : Nat) (hK : K < 2 ^ 31) : (∃ j, 1 ≤ j ∧ j ≤ K ∧ p = nI j) ∨ p < 1 ∨ (¬ p < 1 ∧ nI K < p) := by
  by_cases h1 : p < 1
  · exact Or.inr (Or.inl h1)
  · by_cases h2 : nI K < p
    · exact Or.inr (Or.inr ⟨h1, h2⟩)
    · obtain ⟨j, hj, rfl⟩ := nI_of_nn (n := p) (fun hn => h1 (by
        rw [Int32.lt_iff_toInt_lt] at hn ⊢
        have : (0 : Int32).toInt = 0 := by decide
        have h1 : (1 : Int32).toInt = 1 := by decide
        omega))
      refine Or.inl ⟨j, ?_, ?_, rfl⟩
      · have : ¬ (j < 1) := fun h => h1 ((na_lt (b := 1) hj (by omega)).mpr h)
        omega
      · have : ¬ (K < j) := fun h => h2 ((na_lt hK hj).mpr h)
        omega
theorem T_week {C : CS} {Y H NS A BO MS : Nat → Nat → Int32} {r5 hm : Nat} (h : RL C Y H NS A) (hP : WFP C) (hT : ∀ m, C 16 m ≤ 9000000) (p1 p2 p3 : Int32) : TE C H NS (f_Y_week Y H NS BO hm r5 p1 p2 p3) (f_M_week A MS p1 p2 p3) cd1 (fun k => k = 2) := by
  have h' := h.thr 0
  obtain ⟨hW, hY, hH, hS, hM, hQ⟩ := h'
  have hA : (u2 A 0 0 0) 0 0 = 0 := thr_0 A 0
  unfold f_Y_week f_M_week
  generalize u2 A 0 0 0 = A at hM hQ hA ⊢
  have h' : RL C Y H NS A := ⟨hW, hY, hH, hS, hM, hQ⟩
  have z1 : ((1 : Int32) ≠ 0) = True := by simp
  have z10 : ((1 : Int32) = 0) = False := by simp
  have n20 : ((2 : Nat) = 0) = False := by simp
  have refM : ∀ (f : Int32 × (Nat → Nat → Int32) → Option (Int32 × (Nat → Nat → Int32) × (Nat → Nat → Int32))), (f_M_may A 0 1 1).bind f = f (0, mRef A 1 1) := fun f => by
    show (f_M_may A 0 1 (nI 1)).bind f = _
    rw [M_may_out hA (by decide) (by omega), obs]
  unfold f_M_within
  rcases G_from1 (p := p2) 60 (by omega) with ⟨n, hn1, hn, rfl⟩ | c1 | ⟨c1, c2⟩
  · have c1 : ¬ nI n < 1 := fun h => by have := (na_lt (b := 1) (by omega) (by omega)).mp h; omega
    have c2 : ¬ 60 < nI n := fun h => by have := (na_lt (a := 60) (by omega) (by omega)).mp h; omega
    by_cases c3 : p3 < 0
    · simp only [c1, c2, c3, if_true, obs, se_l, zb_0, zb_1, z10, Y_ref_out, n20, if_false, refM, ne_eq, not_true]
      exact TE.ref (B := BO) (S := MS) (r := r5) 1 (by omega) h' rfl rfl rfl
    · by_cases c4 : 2 < p3
      · simp only [c1, c2, c3, c4, if_true, obs, se_l, zb_0, zb_1, z10, Y_ref_out, n20, if_false, refM, ne_eq, not_true]
        exact TE.ref (B := BO) (S := MS) (r := r5) 1 (by omega) h' rfl rfl rfl
      · obtain ⟨B', b1, b2⟩ := T_look BO hW hH hS
        obtain ⟨M1, a1, a2⟩ := M_aside A MS
        obtain ⟨B2, A2, M2, pl, tm, mv, lg, w1, w2, w3, w4, w5, w6, w7, w8, w9, w10⟩ := weeks (MS := M1) hW hH hM (WK.start hW hP hM b2) p1 hn
        obtain ⟨A3, k1, k2, k3⟩ := M_back A2 M2
        have hT2 : WFT tm := fun m => by have h1 := w3.2.2.2.1 m; have h2 := hT m; omega
        have hWo : WFC (setPT C pl tm) := WFC_PT hW w3.2.1
        have hmb := M_mostBorn hWo (w3.mo hM) (show WFT (setPT C pl tm 16) from hT2)
        simp only [c1, c2, c3, c4, if_false, obs, se_r, zb_1, z10, Y_ref_in, M_may_in hA, z1, if_true, b1, a1, w1, w2, hmb, k1, w5, w7, w4, w6]
        have hfin : RL C Y H NS A3 := RL_again h' w3.2.2.2.2.1 k2 k3 (fun m hm => by rw [w10 10 m (by decide), w10 11 m (by decide)]; exact a2 m hm)
        have h3A : A3 0 0 = 0 := by rw [k3 0 0 (by decide) (by decide), w3.2.2.2.2.1 0 0 (by decide) (by decide), hA]
        by_cases d0 : p3 = 0
        · rw [if_pos d0, if_neg (fun h => h d0)]
          exact TE.ans (B := B2) (S := M2) (r := hm) (nI mv) hfin h3A rfl rfl rfl
        · rw [if_neg d0, if_pos d0]
          by_cases d1 : p3 = 1
          · rw [if_pos d1, if_neg (fun h => h d1)]
            exact TE.ans (B := B2) (S := M2) (r := hm) (nI lg) hfin h3A rfl rfl rfl
          · rw [if_neg d1, if_pos d1, Y_mostBorne hW hH w3.1 hT2, obs]
            exact TE.ans (B := B2) (S := M2) (r := hm) (nI (s_most (s_bears C tm) (C 0 2))) hfin h3A rfl rfl rfl
  · simp only [c1, if_true, obs, se_l, zb_0, Y_ref_out, n20, if_false, refM, ne_eq, not_true]
    exact TE.ref (B := BO) (S := MS) (r := r5) 1 (by omega) h' rfl rfl rfl
  · have c2 : 60 < p2 := c2
    simp only [c1, c2, if_true, obs, se_l, zb_0, Y_ref_out, n20, if_false, refM, ne_eq, not_true]
    exact TE.ref (B := BO) (S := MS) (r := r5) 1 (by omega) h' rfl rfl rfl
theorem T_done {C : CS} {Y H NS A BO MS : Nat → Nat → Int32} {r5 hm : Nat} (h : RL C Y H NS A) (hP : WFP C) (p1 p2 : Int32) : ∃ k v Y' NS' B' r' v' A' S' C', f_Y_done Y H NS BO hm r5 p1 p2 = some (k, v, Y', NS', B', r') ∧ f_M_done A MS p1 p2 = some (v', A', S') ∧ A' 0 0 = cd1 k ∧ (k = 0 ∨ k = 2) ∧ (k = 0 → v = v') ∧ ACT C C' ∧ RL C' Y' H NS' A' := by
  have h' := h.thr 0
  obtain ⟨hW, hY, hH, hS, hM, hQ⟩ := h'
  have hA : (u2 A 0 0 0) 0 0 = 0 := thr_0 A 0
  unfold f_Y_done f_M_done
  generalize u2 A 0 0 0 = A at hM hQ hA ⊢
  have h' : RL C Y H NS A := ⟨hW, hY, hH, hS, hM, hQ⟩
  have z1 : ((1 : Int32) ≠ 0) = True := by simp
  have z10 : ((1 : Int32) = 0) = False := by simp
  have n20 : ((2 : Nat) = 0) = False := by simp
  have e43 : A 0 43 = nI (C 0 5) := hM.d0.2.2.2.2.1
  have h5' : C 0 5 ≤ 30 := hW.2.2.2.2.2.1
  have refM : ∀ (f : Int32 × (Nat → Nat → Int32) → Option (Int32 × (Nat → Nat → Int32) × (Nat → Nat → Int32))), (f_M_may A 0 1 1).bind f = f (0, mRef A 1 1) := fun f => by
    show (f_M_may A 0 1 (nI 1)).bind f = _
    rw [M_may_out hA (by decide) (by omega), obs]
  have refuse : ∃ k v Y' NS' B' r' v' A' S' C', (some (2, 0, yRef Y 1, NS, BO, r5) : Option (Nat × Int32 × (Nat → Nat → Int32) × (Nat → Nat → Int32) × (Nat → Nat → Int32) × Nat)) = some (k, v, Y', NS', B', r') ∧ (some (0, mRef A 1 1, MS) : Option (Int32 × (Nat → Nat → Int32) × (Nat → Nat → Int32))) = some (v', A', S') ∧ A' 0 0 = cd1 k ∧ (k = 0 ∨ k = 2) ∧ (k = 0 → v = v') ∧ ACT C C' ∧ RL C' Y' H NS' A' :=
    ⟨2, 0, yRef Y 1, NS, BO, r5, 0, mRef A 1 1, MS, C, rfl, rfl, mRef_0 _ _ _, Or.inr rfl, fun h => by omega, ACT.refl hP, h'.ref _ (by omega)⟩
  unfold f_M_within
  rcases G_from1 (p := p2) 60 (by omega) with ⟨n, hn1, hn, rfl⟩ | c1 | ⟨c1, c2⟩
  · have c1 : ¬ nI n < 1 := fun h => by have := (na_lt (b := 1) (by omega) (by omega)).mp h; omega
    have c2 : ¬ 60 < nI n := fun h => by have := (na_lt (a := 60) (by omega) (by omega)).mp h; omega
    have n30 : (nI (C 0 5) = 30) = (C 0 5 = 30) := nI_eqP (b := 30) (by omega) (by omega)
    simp only [c1, c2, if_false, obs, se_r, zb_1, Y_ref_in, M_may_in hA, z1, if_true, Y_full hW hS, e43, ne_eq, n30]
    by_cases d1 : C 0 5 < 30
    · obtain ⟨B', b1, b2⟩ := T_look BO hW hH hS
      obtain ⟨A', l1, l2, l3⟩ := M_keepsAct hW hM d1
      have hWk := WFC_keep hW d1
      have hHk : RH (keepC C) H := RH_same (same_keep C) hH
      have hPk : WFP (keepC C) := WFP_keep hP hW.2.2.2.1
      have hbk : RB (keepC C) (keepC C 15) (keepC C 16) B' := by
        obtain ⟨q1, q2, q3⟩ := b2
        refine ⟨q1, q2, fun r hr => ?_⟩
        rw [q3 r hr]
        have hh : ∀ n, s_held (keepC C) r n = s_held C r n := fun n => by
          induction n with
          | zero => rfl
          | succ n ih => unfold s_held; rw [ih]; rfl
        rw [hh]; rfl
      have hMs : WK (keepC C) A' (keepC C 16) 0 (keepC C 15) (keepC C 16) B' A' := WK.start hWk hPk l2 hbk
      obtain ⟨B2, A2, M2, pl, tm, mv, lg, w1, w2, w3, w4, w5, w6, w7, w8, w9, w10⟩ := weeks (MS := MS) hWk hHk l2 hMs p1 hn
      have hok : ∀ m, m < C 0 3 → okP C (pl m) := w3.2.2.1
      have htm : ∀ m, tm m ≤ C 16 m + (0 + n) := w3.2.2.2.1
      obtain ⟨NS', g1, g2⟩ := Y_act (BO := B2) (pl := pl) (tm := tm) hW hS d1 (fun m hm => w3.1.1 m hm) (fun m hm => w3.1.2.1 m hm)
      simp only [d1, show ¬ C 0 5 = 30 by omega, not_false_eq_true, if_true, b1, obs, l1, w1, w2, g1]
      refine ⟨0, nI mv, Y, NS', B2, hm, nI mv, A2, M2, setPT (keepC C) pl tm, by rw [w4], by rw [w5], ?_, Or.inl rfl, fun _ => rfl, ACT_keepPT hW hP hok (fun k hk x => ?_), RL_act h' w3.2.1 d1 g2 l2 (fun b => l3 1 b (by decide) (by omega)) w3.2.2.2.2.1 w3.2.2.2.2.2.1 w3.2.2.2.2.2.2⟩
      · rw [w3.2.2.2.2.1 0 0 (by decide) (by decide), l3 0 0 (by decide) (by decide), hA]; rfl
      · have h1 := htm x
        have h2 := hk x
        omega
    · have d1' : C 0 5 = 30 := by omega
      simp only [d1, d1', if_false, z10, not_true]
      exact ⟨0, -64, Y, NS, BO, r5, -64, A, MS, C, rfl, rfl, hA, Or.inl rfl, fun _ => rfl, ACT.refl hP, h'⟩
  · simp only [c1, if_true, obs, se_l, zb_0, Y_ref_out, n20, if_false, refM, ne_eq, not_true]
    exact refuse
  · have c2 : 60 < p2 := c2
    simp only [c1, c2, if_true, obs, se_l, zb_0, Y_ref_out, n20, if_false, refM, ne_eq, not_true]
    exact refuse
theorem T_span {C : CS} {Y H NS A BO MS : Nat → Nat → Int32} {r5 hm : Nat} (h : RL C Y H NS A) (hP : WFP C) (p1 p2 p3 p4 : Int32) : TE C H NS (f_Y_span Y H NS BO hm r5 p1 p2 p3 p4) (f_M_span A MS p1 p2 p3 p4) cd1 (fun k => k = 2) := by
  have h' := h.thr 0
  obtain ⟨hW, hY, hH, hS, hM, hQ⟩ := h'
  have hA : (u2 A 0 0 0) 0 0 = 0 := thr_0 A 0
  unfold f_Y_span f_M_span
  generalize u2 A 0 0 0 = A at hM hQ hA ⊢
  have h' : RL C Y H NS A := ⟨hW, hY, hH, hS, hM, hQ⟩
  have z1 : ((1 : Int32) ≠ 0) = True := by simp
  have z10 : ((1 : Int32) = 0) = False := by simp
  have n20 : ((2 : Nat) = 0) = False := by simp
  have refM : ∀ (f : Int32 × (Nat → Nat → Int32) → Option (Int32 × (Nat → Nat → Int32) × (Nat → Nat → Int32))), (f_M_may A 0 1 1).bind f = f (0, mRef A 1 1) := fun f => by
    show (f_M_may A 0 1 (nI 1)).bind f = _
    rw [M_may_out hA (by decide) (by omega), obs]
  unfold f_M_within
  rcases G_from1 (p := p2) 20 (by omega) with ⟨k, hk1, hk, rfl⟩ | c1 | ⟨c1, c2⟩
  · have c1 : ¬ nI k < 1 := fun h => by have := (na_lt (b := 1) (by omega) (by omega)).mp h; omega
    have c2 : ¬ 20 < nI k := fun h => by have := (na_lt (a := 20) (by omega) (by omega)).mp h; omega
    rcases G_from1 (p := p3) 60 (by omega) with ⟨n, hn1, hn, rfl⟩ | c3 | ⟨c3, c4⟩
    · have c3 : ¬ nI n < 1 := fun h => by have := (na_lt (b := 1) (by omega) (by omega)).mp h; omega
      have c4 : ¬ 60 < nI n := fun h => by have := (na_lt (a := 60) (by omega) (by omega)).mp h; omega
      by_cases c5 : p4 < 0
      · simp only [c1, c2, c3, c4, c5, if_true, obs, se_l, zb_0, zb_1, z10, Y_ref_out, n20, if_false, refM, ne_eq, not_true]
        exact TE.ref (B := BO) (S := MS) (r := r5) 1 (by omega) h' rfl rfl rfl
      · by_cases c6 : 2 < p4
        · simp only [c1, c2, c3, c4, c5, c6, if_true, obs, se_l, zb_0, zb_1, z10, Y_ref_out, n20, if_false, refM, ne_eq, not_true]
          exact TE.ref (B := BO) (S := MS) (r := r5) 1 (by omega) h' rfl rfl rfl
        · obtain ⟨M1, a1, a2⟩ := M_aside A MS
          obtain ⟨b, c, b1, b2, b3⟩ := loop_two (f := fun q : Int32 × Int32 × Int32 × Int32 × (Nat → Nat → Int32) × Nat => f_Y_span_l55 H NS (nI k) p1 (nI n) hm q.1 q.2.1 q.2.2.1 q.2.2.2.1 q.2.2.2.2.1 q.2.2.2.2.2) (g := fun q : Int32 × Int32 × Int32 × Int32 × (Nat → Nat → Int32) × (Nat → Nat → Int32) => f_M_span_l67 (nI k) p1 (nI n) q.1 q.2.1 q.2.2.1 q.2.2.2.1 q.2.2.2.2.1 q.2.2.2.2.2) k
            (fun i s t => ∃ fw mw, s.1 = (if i = 0 then 60 else nI fw) ∧ t.1 = (if i = 0 then -1 else nI fw) ∧ s.2.1 = nI mw ∧ t.2.1 = nI mw ∧ s.2.2.1 = t.2.2.1 ∧ s.2.2.2.1 = nI i ∧ t.2.2.2.1 = nI i ∧ fw ≤ 60 ∧ mw ≤ 60 ∧ RL C Y H NS t.2.2.2.2.1 ∧ t.2.2.2.2.1 0 0 = 0 ∧ (∀ m, m < 10 → t.2.2.2.2.2 10 m = t.2.2.2.2.1 7 m ∧ t.2.2.2.2.2 11 m = t.2.2.2.2.1 8 m))
            (fun b c => b.1 = c.1 ∧ b.2.1 = c.2.1 ∧ b.2.2.1 = c.2.2.1 ∧ RL C Y H NS c.2.2.2.1 ∧ c.2.2.2.1 0 0 = 0) (by omega)
            (fun i s t hi hR => by
              obtain ⟨v1, v2, v3, v4, B, w⟩ := s
              obtain ⟨x1, x2, x3, x4, A1, M⟩ := t
              obtain ⟨fw, mw, r1, r2, r3, r4, r5, r6, r7, r8, r9, r10, r11, r12⟩ := hR
              have r1 : v1 = _ := r1
              have r2 : x1 = _ := r2
              have r3 : v2 = nI mw := r3
              have r4 : x2 = nI mw := r4
              have r5 : v3 = x3 := r5
              have r6 : v4 = nI i := r6
              have r7 : x4 = nI i := r7
              have t10 : RL C Y H NS A1 := r10
              have t11 : A1 0 0 = 0 := r11
              have t12 : ∀ m, m < 10 → M 10 m = A1 7 m ∧ M 11 m = A1 8 m := r12
              clear r10 r11 r12
              subst r1; subst r2; subst r3; subst r4; subst r5; subst r6; subst r7
              obtain ⟨B', b1, b2⟩ := T_look B hW hH hS
              have hM1 := t10.2.2.2.2.1
              obtain ⟨B2, A2, M2, pl, tm, mv, lg, w1, w2, w3, w4, w5, w6, w7, w8, w9, w10⟩ := weeks (MS := M) hW hH hM1 (WK.start hW hP hM1 b2) (p1 + nI i) hn
              obtain ⟨A3, k1, k2, k3⟩ := M_back A2 M2
              have hfin : RL C Y H NS A3 := RL_again t10 w3.2.2.2.2.1 k2 k3 (fun m hm => by rw [w10 10 m (by decide), w10 11 m (by decide)]; exact t12 m hm)
              have h3A : A3 0 0 = 0 := by rw [k3 0 0 (by decide) (by decide), w3.2.2.2.2.1 0 0 (by decide) (by decide), t11]
              show ∃ s' t', f_Y_span_l55 H NS (nI k) p1 (nI n) hm (if i = 0 then 60 else nI fw) (nI mw) v3 (nI i) B w = _ ∧ f_M_span_l67 (nI k) p1 (nI n) (if i = 0 then -1 else nI fw) (nI mw) v3 (nI i) A1 M = _ ∧ _
              unfold f_Y_span_l55 f_M_span_l67
              rw [if_neg (nI_ge hi (by omega)), if_neg (nI_ge hi (by omega)), b1, obs, w1, obs, w2, obs, k1, obs, w4]
              simp only [w5]
              have fmin : f_Math_min (if i = 0 then 60 else nI fw) (nI mv) = some (nI (if i = 0 ∨ mv < fw then mv else fw)) := by
                unfold f_Math_min
                by_cases hi0 : i = 0
                · rw [if_pos hi0, if_pos (show i = 0 ∨ _ from Or.inl hi0)]
                  by_cases hm60 : mv < 60
                  · rw [if_pos (show nI mv < 60 from (na_lt (b := 60) (by omega) (by omega)).mpr hm60)]
                  · rw [if_neg (show ¬ nI mv < 60 from fun h => hm60 ((na_lt (b := 60) (by omega) (by omega)).mp h)), show mv = 60 from by omega]; rfl
                · rw [if_neg hi0]
                  simp only [show (nI mv < nI fw) = (mv < fw) from propext (na_lt (by omega) (by omega)), hi0, false_or]
                  split <;> rfl
              have fmin2 : (((((if (if i = 0 then (-1 : Int32) else nI fw) = -1 then (some (.inl ()) : Option (Unit ⊕ Int32)) else (if (if i = 0 then (-1 : Int32) else nI fw) ≤ nI mv then some (.inr (if i = 0 then (-1 : Int32) else nI fw)) else some (.inl ())))).bind fun b14 => sumE b14 (fun _ => some (nI mv)) (fun q => some q)) : Option Int32)) = some (nI (if i = 0 ∨ mv < fw then mv else fw)) := by
                by_cases hi0 : i = 0
                · rw [if_pos hi0, if_pos rfl, obs, se_l, if_pos (show i = 0 ∨ _ from Or.inl hi0)]
                · rw [if_neg hi0, if_neg (na_ne1 (by omega))]
                  simp only [show (nI fw ≤ nI mv) = (fw ≤ mv) from propext (na_le (by omega) (by omega)), hi0, false_or]
                  by_cases hc : fw ≤ mv
                  · rw [if_pos hc, obs, se_r, if_neg (by omega)]
                  · rw [if_neg hc, obs, se_l, if_pos (by omega)]
              have fmax : f_Math_max (nI mw) (nI mv) = some (nI (if mw < mv then mv else mw)) := by
                unfold f_Math_max
                simp only [show (nI mw < nI mv) = (mw < mv) from propext (na_lt (by omega) (by omega))]
                split <;> rfl
              have fmax2 : (if nI mv ≤ nI mw then (some (nI mw) : Option Int32) else some (nI mv)) = some (nI (if mw < mv then mv else mw)) := by
                simp only [show (nI mv ≤ nI mw) = (mv ≤ mw) from propext (na_le (by omega) (by omega))]
                by_cases hc : mw < mv
                · rw [if_neg (by omega), if_pos hc]
                · rw [if_pos (by omega), if_neg hc]
              rw [fmin, fmin2, fmax2, obs, obs, fmax, obs, obs]
              refine ⟨_, _, rfl, rfl, if i = 0 ∨ mv < fw then mv else fw, if mw < mv then mv else mw, ?_, ?_, rfl, rfl, rfl, (nI_succ i).symm, (nI_succ i).symm, by split <;> omega, by split <;> omega, hfin, h3A, fun m hm => ?_⟩
              · exact (if_neg (show ¬ i + 1 = 0 by omega)).symm
              · exact (if_neg (show ¬ i + 1 = 0 by omega)).symm
              · dsimp only
                rw [(k2 m hm).1, (k2 m hm).2]
                exact ⟨rfl, rfl⟩)
            (fun s t hR => by
              obtain ⟨v1, v2, v3, v4, B, w⟩ := s
              obtain ⟨x1, x2, x3, x4, A1, M⟩ := t
              obtain ⟨fw, mw, r1, r2, r3, r4, r5, r6, r7, r8, r9, r10, r11, r12⟩ := hR
              have r6 : v4 = nI k := r6
              have r7 : x4 = nI k := r7
              have r1 : v1 = _ := r1
              have r2 : x1 = _ := r2
              have r3 : v2 = nI mw := r3
              have r4 : x2 = nI mw := r4
              subst r6; subst r7
              rw [if_neg (by omega)] at r1 r2
              show ∃ s' t', f_Y_span_l55 H NS (nI k) p1 (nI n) hm v1 v2 v3 (nI k) B w = _ ∧ f_M_span_l67 (nI k) p1 (nI n) x1 x2 x3 (nI k) A1 M = _ ∧ _
              unfold f_Y_span_l55 f_M_span_l67
              rw [if_pos (nI_le (Nat.le_refl _) (by omega)), if_pos (nI_le (Nat.le_refl _) (by omega))]
              exact ⟨_, _, rfl, rfl, r1.trans r2.symm, r3.trans r4.symm, r5, r10, r11⟩)
            0 (Nat.zero_le _) (60, 0, 0, 0, BO, r5) (-1, 0, 0, 0, A, M1) ⟨0, 0, rfl, rfl, rfl, rfl, rfl, rfl, rfl, by omega, by omega, h', hA, a2⟩
          obtain ⟨y1, y2, y3, B', r'⟩ := b
          obtain ⟨x1, x2, x3, A', M'⟩ := c
          obtain ⟨q1, q2, q3, q4, q5⟩ := b3
          have q1 : y1 = x1 := q1
          have q2 : y2 = x2 := q2
          have q3 : y3 = x3 := q3
          subst q1; subst q2; subst q3
          simp only [c1, c2, c3, c4, c5, c6, if_false, obs, se_r, zb_1, z10, Y_ref_in, M_may_in hA, z1, if_true, a1, b1, b2]
          by_cases d0 : p4 = 0
          · rw [if_pos d0, if_neg (fun h => h d0)]
            exact TE.ans (B := B') (S := M') (r := r') y1 q4 q5 rfl rfl rfl
          · rw [if_neg d0, if_pos d0]
            by_cases d1 : p4 = 1
            · rw [if_pos d1, if_neg (fun h => h d1)]
              exact TE.ans (B := B') (S := M') (r := r') y2 q4 q5 rfl rfl rfl
            · rw [if_neg d1, if_pos d1]
              exact TE.ans (B := B') (S := M') (r := r') y3 q4 q5 rfl rfl rfl
    · simp only [c1, c2, c3, if_true, obs, se_l, zb_0, zb_1, z10, Y_ref_out, n20, if_false, refM, ne_eq, not_true]
      exact TE.ref (B := BO) (S := MS) (r := r5) 1 (by omega) h' rfl rfl rfl
    · have c4 : 60 < p3 := c4
      simp only [c1, c2, c3, c4, if_true, obs, se_l, zb_0, zb_1, z10, Y_ref_out, n20, if_false, refM, ne_eq, not_true]
      exact TE.ref (B := BO) (S := MS) (r := r5) 1 (by omega) h' rfl rfl rfl
  · simp only [c1, if_true, obs, se_l, zb_0, Y_ref_out, n20, if_false, refM, ne_eq, not_true]
    exact TE.ref (B := BO) (S := MS) (r := r5) 1 (by omega) h' rfl rfl rfl
  · have c2 : 20 < p2 := c2
    simp only [c1, c2, if_true, obs, se_l, zb_0, Y_ref_out, n20, if_false, refM, ne_eq, not_true]
    exact TE.ref (B := BO) (S := MS) (r := r5) 1 (by omega) h' rfl rfl rfl
