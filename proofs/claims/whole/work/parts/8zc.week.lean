/-! PURE MATH: weeks -/
theorem rem_nI {b n : Nat} (hb : b < 2 ^ 31) (hn : n < 2 ^ 31) (h0 : 0 < n) : a_rem (nI b) (nI n) = nI (b % n) := by
  have hd : nI b / nI n = nI (b / n) := by
    have hle : b / n ≤ b := Nat.div_le_self b n
    apply Int32.toInt_inj.mp
    rw [Int32.toInt_div, nI_toInt hb, nI_toInt hn, nI_toInt (by omega), ← Int.ofNat_tdiv]
    generalize b / n = q at hle ⊢
    exact Int.bmod_eq_of_le (by omega) (by omega)
  have hm := Nat.div_add_mod b n
  have hle2 : b / n * n ≤ b := Nat.div_mul_le_self b n
  unfold a_rem
  rw [hd, na_mul, na_sub hle2]
  congr 1
  rw [Nat.mul_comm n] at hm
  omega
theorem and32767 (x : Int32) : ∃ b, b < 32768 ∧ x &&& 32767 = nI b := by
  refine ⟨(x.toBitVec &&& 32767#32).toNat, ?_, ?_⟩
  · rw [BitVec.toNat_and]
    exact Nat.lt_of_le_of_lt Nat.and_le_right (by decide)
  · apply Int32.toBitVec_inj.mp
    show x.toBitVec &&& 32767#32 = BitVec.ofNat 32 (x.toBitVec &&& 32767#32).toNat
    rw [BitVec.ofNat_toNat, BitVec.setWidth_eq]
theorem shr16 (v : Int32) : a_shr v 16 &&& 32767 = a_ushr v 16 &&& 32767 := by
  apply Int32.toBitVec_inj.mp
  show (v.toBitVec.sshiftRight' ((16 &&& 31 : Int32).toBitVec.smod 32)) &&& 32767#32 = (v.toBitVec >>> (((16 : Int32).toUInt32 &&& Int32.toUInt32 31).toBitVec % 32#32)) &&& 32767#32
  rw [show ((16 &&& 31 : Int32).toBitVec.smod 32) = 16#32 from by decide, show (((16 : Int32).toUInt32 &&& Int32.toUInt32 31).toBitVec % 32#32) = 16#32 from by decide]
  show (v.toBitVec.sshiftRight (16#32).toNat) &&& 32767#32 = (v.toBitVec >>> (16#32).toNat) &&& 32767#32
  apply BitVec.eq_of_getLsbD_eq
  intro i hi
  rw [BitVec.getLsbD_and, BitVec.getLsbD_and, BitVec.getLsbD_sshiftRight, BitVec.getLsbD_ushiftRight]
  have h16 : (16#32).toNat = 16 := by decide
  rw [h16]
  by_cases h8 : i < 15
  · rw [if_pos (by omega)]
    simp [show ¬ 32 ≤ i from by omega]
  · have h : (32767#32).getLsbD i = false := by
      have hh : ∀ i, i < 32 → ¬ i < 15 → (32767#32).getLsbD i = false := by decide
      exact hh i hi h8
    rw [h, Bool.and_false, Bool.and_false]
theorem clash_PT (C : CS) (pl tm q : Nat → Nat) (m k : Nat) : s_clash (setPT C pl tm) q m k = s_clash C q m k := by
  have h := (same_setPT C pl tm).h
  have hh : ∀ r n, s_held (setPT C pl tm) r n = s_held C r n := fun r n => by
    induction n with
    | zero => rfl
    | succ n ih => unfold s_held; rw [ih]; rfl
  unfold s_clash s_last
  rw [h.may, h.busy, hh]
  rfl
theorem bears_PT (C : CS) (pl tm q : Nat → Nat) (m : Nat) : s_bears (setPT C pl tm) q m = s_bears C q m := rfl
theorem setPT_id (C : CS) : setPT C (C 15) (C 16) = C := by
  funext a b
  unfold setPT
  by_cases h : a = 15
  · rw [if_pos h, h]
  · rw [if_neg h]
    by_cases h2 : a = 16
    · rw [if_pos h2, h2]
    · rw [if_neg h2]
/-- a plan and times on the board, and in the reference's memory -/
def WK (C : CS) (A0 : Nat → Nat → Int32) (t0 : Nat → Nat) (T : Nat) (pl tm : Nat → Nat) (B A : Nat → Nat → Int32) : Prop := RB C pl tm B ∧ (∀ m, pl m ≤ 30) ∧ (∀ m, m < C 0 3 → okP C (pl m)) ∧ (∀ m, tm m ≤ t0 m + T) ∧ (∀ a b, a ≠ 7 → a ≠ 8 → A a b = A0 a b) ∧ (∀ m, m < C 0 3 → A 7 m = oI (pl m)) ∧ (∀ m, m < C 0 3 → A 8 m = nI (tm m))
theorem WK.mo {C : CS} {A0 B A : Nat → Nat → Int32} {t0 : Nat → Nat} {T : Nat} {pl tm : Nat → Nat} (h : WK C A0 t0 T pl tm B A) (hM : RMo C A0) : RMo (setPT C pl tm) A := RM_PT hM pl tm h.2.2.2.2.1 h.2.2.2.2.2.1 h.2.2.2.2.2.2
theorem loop_first2 {σ γ : Type} {body : Int32 × σ → Option ((Int32 × σ) ⊕ (σ ⊕ γ))} (N : Nat) (p : Nat → Prop) [DecidablePred p] (s : σ) (g : Nat → γ) (hN : N < 1000000)
    (hit : ∀ i, i < N → p i → body (nI i, s) = some (.inr (.inr (g i)))) (miss : ∀ i, i < N → ¬ p i → body (nI i, s) = some (.inl (nI i + 1, s))) (fin : body (nI N, s) = some (.inr (.inl s))) :
    loopN body a_F (0, s) = some (match s_first p N 0 with | some i => .inr (g i) | none => .inl s) := by
  have key : ∀ t i n, i + t = N → t < n → loopN body n (nI i, s) = some (match s_first p t i with | some i => .inr (g i) | none => .inl s) := by
    intro t
    induction t with
    | zero =>
      intro i n hi hn
      obtain ⟨n, rfl⟩ : ∃ k, n = k + 1 := ⟨n - 1, by omega⟩
      have hi : i = N := by omega
      subst hi
      rw [loop_r fin]
      rfl
    | succ t ih =>
      intro i n hi hn
      obtain ⟨n, rfl⟩ : ∃ k, n = k + 1 := ⟨n - 1, by omega⟩
      by_cases hp : p i
      · rw [loop_r (hit i (by omega) hp)]
        unfold s_first
        rw [if_pos hp]
      · rw [loop_l (miss i (by omega) hp), ← nI_succ]
        conv => rhs; unfold s_first
        rw [if_neg hp]
        exact ih (i + 1) n (by omega) (by omega)
  exact key N 0 a_F (by omega) (by unfold a_F; omega)
theorem moves_one {C : CS} {H A0 B A : Nat → Nat → Int32} {t0 : Nat → Nat} {T : Nat} {pl tm : Nat → Nat} (hW : WFC C) (hH : RH C H) (hM : RMo C A0) (hK : WK C A0 t0 T pl tm B A) {m h : Nat} (hm : m < C 0 3) (hh : h < C 0 0) :
    ∃ x B' A' pl' tm', f_Board_movesInto H B (nI m) (nI h) = some (x, B') ∧ f_M_isMovedBy A (nI m) (nI h) = some (x, A') ∧ (x = 0 ∨ x = 1) ∧ WK C A0 t0 (T + 1) pl' tm' B' A' ∧ ∀ b, B' 0 b = B 0 b := by
  have hN := hW.2.2.2.1
  have hH10 := hW.1.2
  have hR := hW.2.1
  have hf := hW.fixed m
  have hMo := hK.mo hM
  have hWo : WFC (setPT C pl tm) := WFC_PT hW hK.2.1
  obtain ⟨hB, pl30, plok, htm, ho, h7, h8⟩ := hK
  have hK0 : WK C A0 t0 (T + 1) pl tm B A := ⟨hB, pl30, plok, fun m => by have := htm m; omega, ho, h7, h8⟩
  have hfx : f_M_isFixed A (nI m) = some (nI (C 10 m)) := M_isFixed hWo hMo hm
  have h01 : H 0 1 = nI (C 0 1) := hH 0 1 (show 1 < 6 by omega)
  have n1 : A 0 24 = nI (C 0 1) := hMo.n (j := 1) (by omega)
  have hp := pl30 m
  unfold f_Board_movesInto f_M_isMovedBy
  rw [Y_isFixed hW hH hm, hfx, obs, obs, rdx_nI (by omega) (by omega), rdx_nI (by omega) (by omega), hB.1 m hm, h7 m hm]
  simp only [obs, oI_z hp, f_Y_hourOf]
  by_cases c1 : C 10 m = 0
  · have c1n : ¬ (nI (C 10 m) ≠ 0) := by rw [c1]; decide
    rw [if_neg c1n, if_neg c1n]
    by_cases c2 : pl m = 0
    · rw [if_pos c2, if_pos c2]
      exact ⟨zb 0, B, A, pl, tm, rfl, rfl, Or.inl zb_0, hK0, fun _ => rfl⟩
    · rw [if_neg c2, if_neg c2, (pl_h c2 hp).1]
      simp only [ne_eq, nI_eqP (show (pl m - 1) / 3 < 2 ^ 31 by omega) (show h < 2 ^ 31 by omega)]
      by_cases c3 : (pl m - 1) / 3 = h
      · rw [if_neg (fun g => g c3), if_neg (fun g => g c3)]
        exact ⟨zb 0, B, A, pl, tm, rfl, rfl, Or.inl zb_0, hK0, fun _ => rfl⟩
      · rw [if_pos c3, if_pos c3]
        have eY := loop_first2 (body := fun q => f_Board_movesInto_l38 H (nI m) (nI h) q.1 q.2) (C 0 1) (fun r => s_clash C pl m (3 * h + r) = 0) B (fun r => (zb 1, u2 (u2 B 1 m (nI (3 * h + r))) 2 m (nI (tm m + 1)))) (by omega)
          (fun r hr hpr => by
            show f_Board_movesInto_l38 H (nI m) (nI h) (nI r) B = _
            unfold f_Board_movesInto_l38
            have hlt := bs_lt10' (p := fun h => s_clash C pl m (3 * h + r) = 0)
            obtain ⟨a1, a2⟩ := bitq (x := bs (fun h => s_clash C pl m (3 * h + r) = 0) 10) (j := h) (by omega) (by omega)
            rw [bs_bit, decide_eq_true_eq] at a1
            rw [h01, if_neg (nI_ge hr (by omega)), Y_openHours hW hH hB pl30 hm hr, obs, if_neg (fun g => (a1.mp g) ⟨by omega, hpr⟩)]
            unfold f_Y_placeOf
            rw [obs, ixx_nI (by omega) (by omega), obs, rdx_nI (by omega) (by omega), u2_row _ _ (show (2 : Nat) ≠ 1 by decide), hB.2.1 m hm, obs, obs, (pl_of h r).1, nI_succ])
          (fun r hr hpr => by
            show f_Board_movesInto_l38 H (nI m) (nI h) (nI r) B = _
            unfold f_Board_movesInto_l38
            have hlt := bs_lt10' (p := fun h => s_clash C pl m (3 * h + r) = 0)
            obtain ⟨a1, a2⟩ := bitq (x := bs (fun h => s_clash C pl m (3 * h + r) = 0) 10) (j := h) (by omega) (by omega)
            rw [bs_bit, decide_eq_true_eq] at a1
            rw [h01, if_neg (nI_ge hr (by omega)), Y_openHours hW hH hB pl30 hm hr, obs, if_pos (a1.mpr (fun g => hpr g.2))])
          (by
            show f_Board_movesInto_l38 H (nI m) (nI h) (nI (C 0 1)) B = _
            unfold f_Board_movesInto_l38
            rw [h01, if_pos (nI_le (Nat.le_refl _) (by omega))])
        have cl : ∀ r, r < C 0 1 → f_M_clashOf A (nI m) (3 * nI h + nI r) (A 7) = some (nI (s_clash C pl m (3 * h + r))) := fun r hr => by
          rw [(pl_of h r).2, M_clashOf hWo hMo (fun x hx => h7 x hx) pl30 hm (show 3 * h + r < 30 by omega) (show (3 * h + r) % 3 < C 0 1 by omega), clash_PT]
        have eM := loop_first2 (body := fun q => f_M_isMovedBy_l34 (nI m) (nI h) q.1 q.2) (C 0 1) (fun r => s_clash C pl m (3 * h + r) = 0) A (fun r => (zb 1, u2 (u2 A 7 m (nI (3 * h + r))) 8 m (nI (tm m + 1)))) (by omega)
          (fun r hr hpr => by
            show f_M_isMovedBy_l34 (nI m) (nI h) (nI r) A = _
            unfold f_M_isMovedBy_l34 f_M_goesTo
            rw [n1, if_neg (nI_ge hr (by omega)), cl r hr, obs, if_pos (by rw [hpr]; rfl), ixx_nI (by omega) (by omega), obs, rdx_nI (by omega) (by omega), u2_row _ _ (show (8 : Nat) ≠ 7 by decide), h8 m hm, obs, obs, (pl_of h r).2, nI_succ, obs])
          (fun r hr hpr => by
            have hc := s_clash_lt C pl m (3 * h + r)
            show f_M_isMovedBy_l34 (nI m) (nI h) (nI r) A = _
            unfold f_M_isMovedBy_l34
            rw [n1, if_neg (nI_ge hr (by omega)), cl r hr, obs, if_neg (nI_ne0 (by omega) (by omega))])
          (by
            show f_M_isMovedBy_l34 (nI m) (nI h) (nI (C 0 1)) A = _
            unfold f_M_isMovedBy_l34
            rw [n1, if_pos (nI_le (Nat.le_refl _) (by omega))])
        rw [eY, eM]
        cases hx : s_first (fun r => s_clash C pl m (3 * h + r) = 0) (C 0 1) 0 with
        | none =>
          simp only [obs, se_l]
          exact ⟨zb 0, B, A, pl, tm, rfl, rfl, Or.inl zb_0, hK0, fun _ => rfl⟩
        | some r =>
          simp only [obs, se_r]
          obtain ⟨_, r1, r2, _⟩ := s_first_is (p := fun r => s_clash C pl m (3 * h + r) = 0) (C 0 1) 0 r hx
          let pl1 : Nat → Nat := fun x => if x = m then 3 * h + r + 1 else pl x
          let tm1 : Nat → Nat := fun x => if x = m then tm m + 1 else tm x
          have p1 : ∀ x, pl1 x = if x = m then 3 * h + r + 1 else pl x := fun _ => rfl
          have t1 : ∀ x, tm1 x = if x = m then tm m + 1 else tm x := fun _ => rfl
          refine ⟨zb 1, _, _, pl1, tm1, rfl, rfl, Or.inr zb_1, ⟨⟨fun x hx => ?_, fun x hx => ?_, fun q hq => ?_⟩, fun x => ?_, fun x hx => ?_, fun x => ?_, fun a b ha hb => ?_, fun x hx => ?_, fun x hx => ?_⟩, fun b => ?_⟩
          · rw [u2_row _ _ (show (1 : Nat) ≠ 2 by decide), p1]
            by_cases hxm : x = m
            · rw [if_pos hxm, hxm, u2_same, oI_s]
            · rw [u2_col _ _ hxm, if_neg hxm, hB.1 x hx]
          · rw [t1]
            by_cases hxm : x = m
            · rw [if_pos hxm, hxm, u2_same]
            · rw [u2_col _ _ hxm, u2_row _ _ (by decide), if_neg hxm, hB.2.1 x hx]
          · rw [u2_row _ _ (by decide), u2_row _ _ (by decide), hB.2.2 q hq]
          · rw [p1]
            split
            · omega
            · exact pl30 x
          · rw [p1]
            by_cases hxm : x = m
            · rw [if_pos hxm]
              exact ⟨by omega, fun _ => ⟨by omega, by omega⟩⟩
            · rw [if_neg hxm]; exact plok x hx
          · have h1 := htm x
            have h2 := htm m
            rw [t1]
            by_cases hxm : x = m
            · rw [if_pos hxm, hxm]; omega
            · rw [if_neg hxm]; omega
          · rw [u2_row _ _ hb, u2_row _ _ ha, ho a b ha hb]
          · rw [u2_row _ _ (show (7 : Nat) ≠ 8 by decide), p1]
            by_cases hxm : x = m
            · rw [if_pos hxm, hxm, u2_same, oI_s]
            · rw [u2_col _ _ hxm, if_neg hxm, h7 x hx]
          · rw [t1]
            by_cases hxm : x = m
            · rw [if_pos hxm, hxm, u2_same]
            · rw [u2_col _ _ hxm, u2_row _ _ (by decide), if_neg hxm, h8 x hx]
          · rw [u2_row _ _ (by decide), u2_row _ _ (by decide)]
  · have c1' : C 10 m = 1 := by omega
    have c1n : nI (C 10 m) ≠ 0 := by rw [c1']; decide
    rw [if_pos c1n, if_pos c1n]
    exact ⟨zb 0, B, A, pl, tm, rfl, rfl, Or.inl zb_0, hK0, fun _ => rfl⟩
theorem weeks {C : CS} {H A0 B A MS : Nat → Nat → Int32} {t0 : Nat → Nat} {T : Nat} {pl tm : Nat → Nat} (hW : WFC C) (hH : RH C H) (hM : RMo C A0) (hK : WK C A0 t0 T pl tm B A) (seed : Int32) {n : Nat} (hn : n ≤ 60) :
    ∃ B' A' M' pl' tm' mv lg, f_Board_runWeek H B seed (nI n) = some B' ∧ f_M_weekGoes A MS seed (nI n) = some (A', M') ∧ WK C A0 t0 (T + n) pl' tm' B' A' ∧ B' 0 5 = nI mv ∧ M' 0 60 = nI mv ∧ B' 0 6 = nI lg ∧ M' 0 61 = nI lg ∧ mv ≤ n ∧ lg ≤ n ∧ ∀ a b, a ≠ 0 → M' a b = MS a b := by
  have hN := hW.2.2.2.1
  have hH10 := hW.1
  have h03 : H 0 3 = nI (C 0 3) := hH 0 3 (show 3 < 6 by omega)
  have h00 : H 0 0 = nI (C 0 0) := hH 0 0 (show 0 < 6 by omega)
  have z10 : ((1 : Int32) = 0) = False := by simp
  unfold f_Board_runWeek f_M_weekGoes
  obtain ⟨b, c, b1, b2, b3⟩ := loop_two (f := fun q : Int32 × Int32 × Int32 × (Nat → Nat → Int32) => f_Board_runWeek_l18 H (nI n) q.1 q.2.1 q.2.2.1 q.2.2.2) (g := fun q : Int32 × Int32 × (Nat → Nat → Int32) × (Nat → Nat → Int32) => f_M_weekGoes_l20 (nI n) q.1 q.2.1 q.2.2.1 q.2.2.2) n
    (fun i s t => ∃ rw_ lg mv pl tm, s.1 = nI rw_ ∧ s.2.2.1 = nI i ∧ t.1 = nI rw_ ∧ t.2.1 = nI i ∧ s.2.1 = t.2.2.2 0 59 ∧ s.2.2.2 0 5 = nI mv ∧ t.2.2.2 0 60 = nI mv ∧ s.2.2.2 0 6 = nI lg ∧ t.2.2.2 0 61 = nI lg ∧ rw_ ≤ i ∧ lg ≤ i ∧ mv ≤ i ∧ WK C A0 t0 (T + i) pl tm s.2.2.2 t.2.2.1 ∧ ∀ a b, a ≠ 0 → t.2.2.2 a b = MS a b)
    (fun b c => ∃ lg mv pl tm, b 0 5 = nI mv ∧ c.2 0 60 = nI mv ∧ b 0 6 = nI lg ∧ c.2 0 61 = nI lg ∧ lg ≤ n ∧ mv ≤ n ∧ WK C A0 t0 (T + n) pl tm b c.1 ∧ ∀ a b, a ≠ 0 → c.2 a b = MS a b) (by omega)
    (fun i s t hi hR => by
      obtain ⟨v, sd, j, B⟩ := s
      obtain ⟨v', j', A, M⟩ := t
      obtain ⟨rw_, lg, mv, pl, tm, r1, r2, r3, r4, r5, r6, r7, r8, r9, r10, r11, r12, r13, r14⟩ := hR
      have r1 : v = nI rw_ := r1
      have r2 : j = nI i := r2
      have r3 : v' = nI rw_ := r3
      have r4 : j' = nI i := r4
      have r5 : sd = M 0 59 := r5
      have t6 : B 0 5 = nI mv := r6
      have t7 : M 0 60 = nI mv := r7
      have t8 : B 0 6 = nI lg := r8
      have t9 : M 0 61 = nI lg := r9
      have t13 : WK C A0 t0 (T + i) pl tm B A := r13
      have t14 : ∀ a b, a ≠ 0 → M a b = MS a b := r14
      clear r6 r7 r8 r9 r13 r14
      subst r1; subst r2; subst r3; subst r4; subst r5
      have hMo := t13.mo hM
      have n3 : A 0 26 = nI (C 0 3) := hMo.n (j := 3) (by omega)
      have n0 : A 0 23 = nI (C 0 0) := hMo.n (j := 0) (by omega)
      -- the last of it
      have fin : ∀ (x : Int32) B' A' pl' tm' sd', (x = 0 ∨ x = 1) → WK C A0 t0 (T + i + 1) pl' tm' B' A' → (∀ b, B' 0 b = B 0 b) → ∀ M' : Nat → Nat → Int32, M' 0 59 = sd' → M' 0 60 = nI mv → M' 0 61 = nI lg → (∀ a b, a ≠ 0 → M' a b = MS a b) →
          ∃ s' t', ((if x = 0 then some (nI rw_ + 1) else some 0 : Option Int32).bind fun v17 => (f_Math_max (B' 0 6) v17).bind fun x18 => (if x = 0 then some 0 else some 1 : Option Int32).bind fun v19 => some (Sum.inl (v17, sd', nI i + 1, u2 (u2 B' 0 6 x18) 0 5 (u2 B' 0 6 x18 0 5 + v19))) : Option ((Int32 × Int32 × Int32 × (Nat → Nat → Int32)) ⊕ (Nat → Nat → Int32))) = some (.inl s') ∧
            ((if x = 0 then some 0 else some 1 : Option Int32).bind fun v19 => (if x = 0 then some (nI rw_ + 1) else some 0 : Option Int32).bind fun v20 => (if v20 ≤ u2 M' 0 60 (M' 0 60 + v19) 0 61 then some (u2 M' 0 60 (M' 0 60 + v19) 0 61) else some v20).bind fun v21 => some (Sum.inl (v20, nI i + 1, A', u2 (u2 M' 0 60 (M' 0 60 + v19)) 0 61 v21)) : Option ((Int32 × Int32 × (Nat → Nat → Int32) × (Nat → Nat → Int32)) ⊕ ((Nat → Nat → Int32) × (Nat → Nat → Int32)))) = some (.inl t') ∧
            ∃ rw_ lg mv pl tm, s'.1 = nI rw_ ∧ s'.2.2.1 = nI (i + 1) ∧ t'.1 = nI rw_ ∧ t'.2.1 = nI (i + 1) ∧ s'.2.1 = t'.2.2.2 0 59 ∧ s'.2.2.2 0 5 = nI mv ∧ t'.2.2.2 0 60 = nI mv ∧ s'.2.2.2 0 6 = nI lg ∧ t'.2.2.2 0 61 = nI lg ∧ rw_ ≤ i + 1 ∧ lg ≤ i + 1 ∧ mv ≤ i + 1 ∧ WK C A0 t0 (T + (i + 1)) pl tm s'.2.2.2 t'.2.2.1 ∧ ∀ a b, a ≠ 0 → t'.2.2.2 a b = MS a b := by
        intro x B' A' pl' tm' sd' hx hK' hB0 M' m59 m60 m61 mo
        have wk : ∀ p q, WK C A0 t0 (T + (i + 1)) pl' tm' (u2 (u2 B' 0 6 p) 0 5 q) A' := fun p q => by
          obtain ⟨⟨k1, k2, k3⟩, k4⟩ := hK'
          exact ⟨⟨fun m hm => by rw [u2_row _ _ (by decide), u2_row _ _ (by decide), k1 m hm], fun m hm => by rw [u2_row _ _ (by decide), u2_row _ _ (by decide), k2 m hm], fun r hr => by rw [u2_row _ _ (by decide), u2_row _ _ (by decide), k3 r hr]⟩, k4⟩
        have mx : ∀ v : Nat, v ≤ i + 1 → f_Math_max (nI lg) (nI v) = some (nI (if lg < v then v else lg)) := fun v hv => by
          unfold f_Math_max
          simp only [show (nI lg < nI v) = (lg < v) from propext (na_lt (by omega) (by omega))]
          split <;> rfl
        have mx2 : ∀ v : Nat, v ≤ i + 1 → (if nI v ≤ nI lg then (some (nI lg) : Option Int32) else some (nI v)) = some (nI (if lg < v then v else lg)) := fun v hv => by
          simp only [show (nI v ≤ nI lg) = (v ≤ lg) from propext (na_le (by omega) (by omega))]
          by_cases hc : lg < v
          · rw [if_neg (by omega), if_pos hc]
          · rw [if_pos (by omega), if_neg hc]
        rcases hx with rfl | rfl
        · simp only [if_true, obs, hB0, t8, ← nI_succ, mx (rw_ + 1) (by omega), u2_col M' _ (show (61 : Nat) ≠ 60 by decide), m61, mx2 (rw_ + 1) (by omega), m60]
          refine ⟨_, _, rfl, rfl, rw_ + 1, if lg < rw_ + 1 then rw_ + 1 else lg, mv, pl', tm', rfl, rfl, rfl, rfl, ?_, ?_, ?_, ?_, ?_, by omega, by split <;> omega, by omega, wk _ _, fun a b ha => ?_⟩
          · dsimp only; rw [u2_col _ _ (show (59 : Nat) ≠ 61 by decide), u2_col _ _ (show (59 : Nat) ≠ 60 by decide), m59]
          · dsimp only; rw [u2_same, u2_col _ _ (by decide), hB0, t6, show (0 : Int32) = nI 0 from rfl, na_add]; rfl
          · dsimp only; rw [u2_col _ _ (by decide), u2_same, show (0 : Int32) = nI 0 from rfl, na_add]; rfl
          · dsimp only; rw [u2_col _ _ (by decide), u2_same]
          · dsimp only; rw [u2_same]
          · dsimp only; rw [u2_row _ _ ha, u2_row _ _ ha, mo a b ha]
        · have mx0 : f_Math_max (nI lg) 0 = some (nI (if lg < 0 then 0 else lg)) := mx 0 (by omega)
          have mx20 : (if (0 : Int32) ≤ nI lg then (some (nI lg) : Option Int32) else some 0) = some (nI (if lg < 0 then 0 else lg)) := mx2 0 (by omega)
          simp only [z10, if_false, obs, hB0, t8, ← nI_succ, mx0, u2_col M' _ (show (61 : Nat) ≠ 60 by decide), m61, mx20, m60]
          refine ⟨_, _, rfl, rfl, 0, if lg < 0 then 0 else lg, mv + 1, pl', tm', rfl, rfl, rfl, rfl, ?_, ?_, ?_, ?_, ?_, by omega, by split <;> omega, by omega, wk _ _, fun a b ha => ?_⟩
          · dsimp only; rw [u2_col _ _ (show (59 : Nat) ≠ 61 by decide), u2_col _ _ (show (59 : Nat) ≠ 60 by decide), m59]
          · dsimp only; rw [u2_same, u2_col _ _ (by decide), hB0, t6, nI_succ]
          · dsimp only; rw [u2_col _ _ (by decide), u2_same, nI_succ]
          · dsimp only; rw [u2_col _ _ (by decide), u2_same]
          · dsimp only; rw [u2_same]
          · dsimp only; rw [u2_row _ _ ha, u2_row _ _ ha, mo a b ha]
      show ∃ s' t', f_Board_runWeek_l18 H (nI n) (nI rw_) (M 0 59) (nI i) B = _ ∧ f_M_weekGoes_l20 (nI n) (nI rw_) (nI i) A M = _ ∧ _
      unfold f_Board_runWeek_l18 f_M_weekGoes_l20
      rw [if_neg (nI_ge hi (by omega)), if_neg (nI_ge hi (by omega)), h03, h00, n3, n0]
      by_cases hz : C 0 3 = 0
      · have hz' : nI (C 0 3) ≤ 0 := by rw [hz]; decide
        rw [if_pos hz', if_pos hz', obs, obs]
        have wk1 : WK C A0 t0 (T + i + 1) pl tm B A := by
          obtain ⟨k1, k2, k3, k4, k5⟩ := t13
          exact ⟨k1, k2, k3, fun m => by have := k4 m; omega, k5⟩
        exact fin 0 B A pl tm (M 0 59) (Or.inl rfl) wk1 (fun _ => rfl) M rfl t7 t9 t14
      · have hz' : ¬ nI (C 0 3) ≤ 0 := fun h => by have := (na_le (b := 0) (by omega) (by omega)).mp h; omega
        have hh' : ¬ nI (C 0 0) ≤ 0 := fun h => by have := (na_le (b := 0) (by omega) (by omega)).mp h; omega
        have hne : ¬ nI (C 0 3) = 0 := nI_ne0 (by omega) (by omega)
        have hne2 : ¬ nI (C 0 0) = 0 := nI_ne0 (by omega) (by omega)
        rw [if_neg hz', if_neg hh', if_neg hz']
        unfold f_M_draws f_Board_nextSeed
        simp only [obs, hne, hne2, if_false, u2_same]
        generalize hx8 : M 0 59 * 1103515245 + 12345 = x8
        rw [shr16, shr16]
        obtain ⟨y1, y1l, y1e⟩ := and32767 (a_ushr x8 16)
        obtain ⟨y2, y2l, y2e⟩ := and32767 (a_ushr (x8 * 1103515245 + 12345) 16)
        rw [y1e, y2e, rem_nI (by omega) (by omega) (by omega), rem_nI (by omega) (by omega) (by omega)]
        obtain ⟨x, B', A', pl', tm', e1, e2, e3, e4, e5⟩ := moves_one (m := y1 % C 0 3) (h := y2 % C 0 0) hW hH hM t13 (Nat.mod_lt _ (by omega)) (Nat.mod_lt _ (by omega))
        rw [e1, e2]
        simp only [obs]
        refine fin x B' A' pl' tm' (x8 * 1103515245 + 12345) e3 e4 e5 _ ?_ ?_ ?_ ?_
        · rw [u2_same]
        · rw [u2_col _ _ (by decide), u2_col _ _ (by decide), t7]
        · rw [u2_col _ _ (by decide), u2_col _ _ (by decide), t9]
        · intro a b ha
          rw [u2_row _ _ ha, u2_row _ _ ha, t14 a b ha])
    (fun s t hR => by
      obtain ⟨v, sd, j, B⟩ := s
      obtain ⟨v', j', A, M⟩ := t
      obtain ⟨rw_, lg, mv, pl, tm, r1, r2, r3, r4, r5, r6, r7, r8, r9, r10, r11, r12, r13, r14⟩ := hR
      have r2 : j = nI n := r2
      have r4 : j' = nI n := r4
      subst r2; subst r4
      show ∃ s' t', f_Board_runWeek_l18 H (nI n) v sd (nI n) B = _ ∧ f_M_weekGoes_l20 (nI n) v' (nI n) A M = _ ∧ _
      unfold f_Board_runWeek_l18 f_M_weekGoes_l20
      rw [if_pos (nI_le (Nat.le_refl _) (by omega)), if_pos (nI_le (Nat.le_refl _) (by omega))]
      exact ⟨B, (A, M), rfl, rfl, lg, mv, pl, tm, r6, r7, r8, r9, r11, r12, r13, r14⟩)
    0 (Nat.zero_le _) (0, seed, 0, u2 (u2 B 0 5 0) 0 6 0) (0, 0, A, u2 (u2 (u2 MS 0 59 seed) 0 60 0) 0 61 0)
    ⟨0, 0, 0, pl, tm, rfl, rfl, rfl, rfl, rfl, rfl, rfl, rfl, rfl, Nat.le_refl _, Nat.le_refl _, Nat.le_refl _, by
      obtain ⟨⟨k1, k2, k3⟩, k4⟩ := hK
      exact ⟨⟨fun m hm => by
        show u2 (u2 B 0 5 0) 0 6 0 1 m = _
        rw [u2_row _ _ (by decide), u2_row _ _ (by decide), k1 m hm], fun m hm => by
        show u2 (u2 B 0 5 0) 0 6 0 2 m = _
        rw [u2_row _ _ (by decide), u2_row _ _ (by decide), k2 m hm], fun r hr => by
        show u2 (u2 B 0 5 0) 0 6 0 3 r = _
        rw [u2_row _ _ (by decide), u2_row _ _ (by decide), k3 r hr]⟩, k4⟩, fun a b ha => by
      show u2 (u2 (u2 MS 0 59 seed) 0 60 0) 0 61 0 a b = _
      rw [u2_row _ _ ha, u2_row _ _ ha, u2_row _ _ ha]⟩
  obtain ⟨lg, mv, pl', tm', q1, q2, q3, q4, q5, q6, q7, q8⟩ := b3
  rw [b1, b2, obs, obs]
  exact ⟨b, c.1, c.2, pl', tm', mv, lg, rfl, rfl, q7, q1, q2, q3, q4, q6, q5, q8⟩
