theorem bit1 (x j : Nat) : (x >>> j) % 2 = 1 ↔ x.testBit j = true := by
  rw [Nat.testBit_eq_decide_div_mod_eq, ← Nat.shiftRight_eq_div_pow, decide_eq_true_eq]
theorem WFC.mem {C : CS} (h : WFC C) (k : Nat) : C 8 k < 2 ^ 8 := by
  obtain ⟨_, _, _, _, _, _, _, _, _, _, _, _, _, _, _, _, h, _⟩ := h
  exact h k
/-- is p of meeting m -/
theorem Y_isMember {C : CS} {H : Nat → Nat → Int32} (hW : WFC C) (hH : RH C H) {m p : Nat} (hm : m < C 0 3) (hp : p < 32) : f_House_isMember H (nI m) (nI p) = some (if (C 8 m).testBit p then 1 else 0) := by
  have hn := hW.2.2.2.1
  have hx := hW.mem m
  unfold f_House_isMember
  rw [rdx_nI (by omega) (by omega), hH 8 m hm]
  show (if (a_shr (nI (C 8 m)) (nI p) &&& 1) = 0 then _ else _) = _
  rw [shr_and1 (by omega) hp]
  have hb := bit1 (C 8 m) p
  by_cases h : (C 8 m).testBit p = true
  · rw [hb.mpr h, if_neg (by decide), if_pos h]; rfl
  · have h2 : (C 8 m >>> p) % 2 = 0 := by
      have := mt hb.mp h
      omega
    rw [h2, if_pos (by decide), if_neg h]; rfl
theorem M_memb {C : CS} {A : Nat → Nat → Int32} (hW : WFC C) (hM : RMo C A) {m p : Nat} (hm : m < C 0 3) (hp : p < 32) : ∃ x, rdx (A 5) 60 (6 * nI m + 2) = some x ∧ (a_shr x (nI p) &&& 1) = if (C 8 m).testBit p then 1 else 0 := by
  have hn := hW.2.2.2.1
  have hx := hW.mem m
  refine ⟨nI (C 8 m), ?_, ?_⟩
  · rw [show (2 : Int32) = nI 2 from rfl, ix6, rdx_nI (by omega) (by omega), hM.meet hm 2 (by omega)]; rfl
  · rw [shr_and1 (by omega) hp]
    have hb := bit1 (C 8 m) p
    by_cases h : (C 8 m).testBit p = true
    · rw [hb.mpr h, if_pos h]; rfl
    · have h2 : (C 8 m >>> p) % 2 = 0 := by
        have := mt hb.mp h
        omega
      rw [h2, if_neg h]; rfl
/-- m stands somewhere in hour h -/
theorem at_hour {n : Nat} (hn : n ≤ 30) {h : Nat} (hh : h < 10) : (oI n = -1 ↔ n = 0) ∧ (n ≠ 0 → (oI n / 3 = nI h ↔ (n - 1) / 3 = h)) := by
  refine ⟨oI_ne hn, fun h0 => ?_⟩
  obtain ⟨k, rfl⟩ : ∃ k, n = k + 1 := ⟨n - 1, by omega⟩
  rw [(pl_hr k (by omega)).1, na_eq (by omega) (by omega)]
  rfl
theorem T_where {C : CS} {Y H NS A : Nat → Nat → Int32} (h : RL C Y H NS A) (p1 p2 : Int32) : TA C H NS (f_Y_where Y H NS p1 p2) (f_M_where A p1 p2) := by
  have h' := h.thr 0
  obtain ⟨hW, hY, hH, hS, hM, hQ⟩ := h'
  have hA : (u2 A 0 0 0) 0 0 = 0 := thr_0 A 0
  unfold f_Y_where f_M_where
  generalize u2 A 0 0 0 = A at hM hQ hA ⊢
  have h' : RL C Y H NS A := ⟨hW, hY, hH, hS, hM, hQ⟩
  rcases G_person hW hH hM hA p1 with ⟨p, hp, rfl, e1, e2⟩ | ⟨e1, e2⟩
  · rw [e1, e2 1]
    have z10 : ¬ (1 : Int32) = 0 := by decide
    have z1 : ((1 : Int32) ≠ 0) = True := by simp
    simp only [Option.bind_some, if_pos, z10, if_false]
    rcases G_hour (Y := Y) hW hH hM p2 with ⟨j, hj, rfl, g1, g2⟩ | ⟨g1, g2⟩
    · rw [g1, g2]
      simp only [Option.bind_some, if_false, if_true, eq_self, M_may_in hA, z1]
      have hN := hW.2.2.2.1
      have hH10 := hW.1.2
      have hP8 := hW.2.2.1
      have h03 : H 0 3 = nI (C 0 3) := hH 0 3 (show 3 < 6 by omega)
      have hA3 : A 0 26 = nI (C 0 3) := hM.n (j := 3) (by omega)
      have eY := loop_first (body := fun q => f_Y_where_l12 H NS (nI p) (nI j) Y q) (C 0 3) (fun m => (C 8 m).testBit p = true ∧ C 15 m ≠ 0 ∧ (C 15 m - 1) / 3 = j) (fun m => (0, nI m, Y)) (by omega)
        (fun i hi hp' => by
          obtain ⟨c1, c2, c3⟩ := hp'
          obtain ⟨a1, a2⟩ := at_hour (hW.plan i) (h := j) (by omega)
          show f_Y_where_l12 H NS (nI p) (nI j) Y (nI i) = _
          unfold f_Y_where_l12
          rw [h03, if_neg (nI_ge hi (by omega)), Y_isMember hW hH hi (by omega), if_pos c1, rdx_nI (by omega) (by omega), hS 1 i hi]
          show (if oI (C 15 i) = -1 then _ else (if (oI (C 15 i) / 3) ≠ nI j then _ else _)) = _
          rw [if_neg (fun e => c2 (a1.mp e)), if_neg (fun e => e ((a2 c2).mpr c3))])
        (fun i hi hp' => by
          obtain ⟨a1, a2⟩ := at_hour (hW.plan i) (h := j) (by omega)
          show f_Y_where_l12 H NS (nI p) (nI j) Y (nI i) = _
          unfold f_Y_where_l12
          rw [h03, if_neg (nI_ge hi (by omega)), Y_isMember hW hH hi (by omega), rdx_nI (by omega) (by omega), hS 1 i hi]
          by_cases c1 : (C 8 i).testBit p = true
          · rw [if_pos c1]
            show (if oI (C 15 i) = -1 then _ else (if (oI (C 15 i) / 3) ≠ nI j then _ else _)) = _
            by_cases c2 : C 15 i = 0
            · rw [if_pos (a1.mpr c2)]
            · rw [if_neg (fun e => c2 (a1.mp e)), if_pos (fun e => hp' ⟨c1, c2, (a2 c2).mp e⟩)]
          · rw [if_neg c1]; rfl)
        (by
          show f_Y_where_l12 H NS (nI p) (nI j) Y (nI (C 0 3)) = _
          unfold f_Y_where_l12
          rw [h03, if_pos (nI_le (Nat.le_refl _) (by omega))])
      have eM := loop_first (body := fun q => f_M_where_l38 A (nI j) (nI p) q) (C 0 3) (fun m => (C 8 m).testBit p = true ∧ C 15 m ≠ 0 ∧ (C 15 m - 1) / 3 = j) (fun m => (nI m, A)) (by omega)
        (fun i hi hp' => by
          obtain ⟨c1, c2, c3⟩ := hp'
          obtain ⟨a1, a2⟩ := at_hour (hW.plan i) (h := j) (by omega)
          obtain ⟨x, x1, x2⟩ := M_memb hW hM hi (p := p) (by omega)
          show f_M_where_l38 A (nI j) (nI p) (nI i) = _
          unfold f_M_where_l38
          rw [hA3, if_neg (nI_ge hi (by omega)), rdx_nI (by omega) (by omega), hM.here hi, x1]
          show (if oI (C 15 i) = -1 then _ else (if (oI (C 15 i) / 3) ≠ nI j then _ else (if (a_shr x (nI p) &&& 1) ≠ 1 then _ else _))) = _
          rw [if_neg (fun e => c2 (a1.mp e)), if_neg (fun e => e ((a2 c2).mpr c3)), x2, if_pos c1, if_neg (by decide)])
        (fun i hi hp' => by
          obtain ⟨a1, a2⟩ := at_hour (hW.plan i) (h := j) (by omega)
          obtain ⟨x, x1, x2⟩ := M_memb hW hM hi (p := p) (by omega)
          show f_M_where_l38 A (nI j) (nI p) (nI i) = _
          unfold f_M_where_l38
          rw [hA3, if_neg (nI_ge hi (by omega)), rdx_nI (by omega) (by omega), hM.here hi, x1]
          show (if oI (C 15 i) = -1 then _ else (if (oI (C 15 i) / 3) ≠ nI j then _ else (if (a_shr x (nI p) &&& 1) ≠ 1 then _ else _))) = _
          by_cases c2 : C 15 i = 0
          · rw [if_pos (a1.mpr c2)]
          · rw [if_neg (fun e => c2 (a1.mp e))]
            by_cases c3 : (C 15 i - 1) / 3 = j
            · rw [if_neg (fun e => e ((a2 c2).mpr c3)), x2, if_neg (fun c1 => hp' ⟨c1, c2, c3⟩), if_pos (by decide)]
            · rw [if_pos (fun e => c3 ((a2 c2).mp e))])
        (by
          show f_M_where_l38 A (nI j) (nI p) (nI (C 0 3)) = _
          unfold f_M_where_l38
          rw [hA3, if_pos (nI_le (Nat.le_refl _) (by omega))])
      rw [eY, eM]
      cases s_first (fun m => (C 8 m).testBit p = true ∧ C 15 m ≠ 0 ∧ (C 15 m - 1) / 3 = j) (C 0 3) 0 with
      | none => exact TA.ans (-1) h' hA rfl rfl
      | some i => exact TA.ans (nI i) h' hA rfl rfl
    · refine TA.ref2 h' ?_ ?_
      · rw [g1]; rfl
      · rw [g2]
        show ((f_M_may A 0 (nI 2) (nI 1)).bind _) = _
        rw [M_may_out hA (by decide) (by omega)]; rfl
  · refine TA.ref 0 (by omega) h' ?_ ?_
    · rw [e1]; rfl
    · rw [e2 1 (by decide)]; rfl
