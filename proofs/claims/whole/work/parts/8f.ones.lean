/-! PURE MATH: how many bits, the reference's way; the hours in which some of them are busy -/
theorem ones_all : (List.range 1024).all (fun x => decide (f_M_ones (nI x) = some (nI (pc x 10)))) = true := by decide +kernel
theorem M_ones {x : Nat} (hx : x < 1024) : f_M_ones (nI x) = some (nI (pc x 10)) := of_decide_eq_true (List.all_eq_true.mp ones_all x (List.mem_range.mpr hx))
theorem M_busyIn {C : CS} {A : Nat → Nat → Int32} (hW : WFC C) (hM : RMo C A) {m : Nat} (hm : m < C 0 3) : f_M_busyIn A (nI m) = some (nI (s_busy C (C 8 m) (C 0 2))) := by
  have hN := hW.2.2.2.1
  have hP := hW.2.2.1
  have n2 : A 0 25 = nI (C 0 2) := hM.n (j := 2) (by omega)
  unfold f_M_busyIn
  have e := loop_S (body := fun q => f_M_busyIn_l4 A (nI m) q.1 q.2) (C 0 2) (fun i => (nI (s_busy C (C 8 m) i), nI i)) (b := nI (s_busy C (C 8 m) (C 0 2))) 0 (by omega) (by omega)
    (fun i _ hi => by
      obtain ⟨x, x1, x2⟩ := M_memb hW hM hm (p := i) (by omega)
      have r2 : rdx (A 4) 24 (3 * nI i + 2) = some (nI (C 4 i)) := by rw [show (2 : Int32) = nI 2 from rfl, ix3, rdx_nI (by omega) (by omega), (hM.pers hi).2.2]
      show f_M_busyIn_l4 A (nI m) (nI (s_busy C (C 8 m) i)) (nI i) = some (Sum.inl (nI (s_busy C (C 8 m) i ||| (if (C 8 m).testBit i then C 4 i else 0)), nI (i + 1)))
      unfold f_M_busyIn_l4
      rw [n2, if_neg (nI_ge hi (by omega)), x1, r2]
      simp only [Option.bind_some, x2]
      by_cases hb : (C 8 m).testBit i = true
      · rw [if_pos hb, if_pos hb, if_neg (show ¬ ((1 : Int32) ≠ 1) by decide)]
        simp only [Option.bind_some]
        rw [na_or, ← nI_succ]
      · rw [if_neg hb, if_neg hb, if_pos (show ((0 : Int32) ≠ 1) by decide)]
        simp only [Option.bind_some]
        rw [show (0 : Int32) = nI 0 from rfl, na_or, ← nI_succ])
    (by
      show f_M_busyIn_l4 A (nI m) _ (nI (C 0 2)) = _
      unfold f_M_busyIn_l4
      rw [n2, if_pos (nI_le (Nat.le_refl _) (by omega))])
  show (loopN _ a_F (nI (s_busy C (C 8 m) 0), nI 0)).bind _ = _
  rw [e]; rfl
