/-! PURE MATH: rule, the two -/
theorem T_rule {C : CS} {Y H NS A T RV MN : Nat → Nat → Int32} {qs qm w : Nat} (h : RL C Y H NS A) (hT : RT C T) (hP : WFP C) (p1 : Int32) :
    ∃ k v Y' T' R' q1 q2 w' v' A' M' C', f_Y_rule Y T RV qs qm w p1 = some (k, v, Y', T', R', q1, q2, w') ∧ f_M_rule A MN p1 = some (v', A', M') ∧ A' 0 0 = cd1 k ∧ (k = 0 ∨ k = 2) ∧ (k = 0 → v = v') ∧ RT C' T' ∧ RL C' Y' H NS A' ∧
      ((q1 = qm ∧ q2 = qs ∧ (C' = C ∨ TXC C C')) ∨ (q1 = qs ∧ q2 = qm ∧ EQT C C' ∧ WFU C' ∧ RU C' R')) := by
  have h' := h.thr 0
  obtain ⟨hW, hY, hH, hS, hM, hQ⟩ := h'
  have hA : (u2 A 0 0 0) 0 0 = 0 := thr_0 A 0
  unfold f_Y_rule f_M_rule
  generalize u2 A 0 0 0 = A at hM hQ hA ⊢
  have h' : RL C Y H NS A := ⟨hW, hY, hH, hS, hM, hQ⟩
  have t1 : T 0 1 = nI (C 0 9) := hT 0 1 (Or.inl rfl)
  rw [t1, hM.d0.1]
  rcases G_n hW p1 150 (by omega) with ⟨n, hn1, hn2, rfl, c1, c2, c3⟩ | c
  · have c3 : ¬ (150 : Int32) < nI n := c3
    simp only [c1, c2, c3, if_false, obs, se_r, Y_ref_in, M_may_in hA, if_true]
    rw [if_pos (by decide), M_begins, obs]
    obtain ⟨T1, w1, o1, o2, o3⟩ := open_both MN hW hT hM hn1
    rw [o1, obs]
    have b7 : bgM MN n 0 7 = 0 := by unfold bgM; rw [u2_same]
    obtain ⟨T2, U2, w2, M1, x, M2, x1, x2, x3, x4, x5⟩ := rule_both RV o3 hn2 o2 b7
    have te : f_Tape_empty T2 = some (u2 T2 0 1 0) := rfl
    have eb : ∀ a b, ¬ (a = 0 ∧ (b = 2 ∨ b = 8)) → bgA A a b = A a b := fun a b hab => by
      unfold bgA
      rw [u2_eq, if_neg (by omega), u2_eq, if_neg (by omega)]
    have eb2 : bgA A 0 2 = 0 := by unfold bgA; rw [u2_col _ _ (by decide), u2_same]
    dsimp only
    rw [x1, obs, te, obs, x2, obs, x3, obs, x4, obs]
    unfold f_M_result
    rcases x5 with ⟨c, E, hc, k8, k9, k5, g1, g2, g3, g4⟩ | ⟨k, pl, g1, g2, g3, g4, g5, g6, g7⟩
    · rw [Y_failed0 (T := u2 T2 0 1 0) (by rw [u2_col _ _ (by decide), k8]), obs, if_pos rfl, M_fine1 k5, obs, if_neg (by decide), obs, if_pos k5, g2]
      dsimp only
      have ec : ∀ f g : Nat → Int32, cpM f 150 g 150 (nI c) = some (fun j => if j < c then f j else g j) := fun f g => by
        unfold cpM
        rw [nI_cl (by omega), if_pos ⟨by omega, by omega⟩]
      have e1 : ∀ f : Nat → Int32, (u1 (u2 (u2 (bgA A) 0 8 (M2 0 5)) 0 40 (nI c)) 10 f) 0 40 = nI c := fun f => by rw [u1_eq, if_neg (by decide), u2_same]
      rw [u2_same, ec, obs, e1, ec, obs]
      refine ⟨0, _, _, _, _, _, _, _, _, _, _, endC (ruC C c E) 0, rfl, rfl, ?_, Or.inl rfl, fun _ => rfl, ?_, ?_, Or.inr ⟨rfl, rfl, fun a b h19 h20 h21 h0 => ?_, Or.inr ?_, ?_, fun k hk => ?_⟩⟩
      · rw [u1_eq, if_neg (by decide), u1_eq, if_neg (by decide), u2_col _ _ (by decide), u2_col _ _ (by decide), eb 0 0 (by omega), hA]; rfl
      · exact RT_end (u2_same _ _ _ _) (by rw [u2_col _ _ (by decide), k9, oI_0])
      · refine RL_end (C := ruC C c E) (A := u1 (u1 (u2 A 0 40 (nI c)) 10 (fun j => if j < c then M2 6 j else A 10 j)) 11 (fun j => if j < c then M2 7 j else A 11 j)) ⟨WFC_ru hW E hc, RY_t (ru_t C c E) hY, RH_t (ru_t C c E) hH, RS_t (ru_t C c E) hS, RM_ru hM ?_ (fun i hi => ?_) (fun a b h10 h11 h40 => ?_), ?_⟩ (by omega) ?_ ?_ (fun a b hab => ?_)
        · rw [u1_eq, if_neg (by decide), u1_eq, if_neg (by decide), u2_same]
        · obtain ⟨_, a3, a4⟩ := g3 i hi
          constructor
          · rw [u1_eq, if_neg (by decide), u1_eq, if_pos rfl, if_pos hi, a3]
          · rw [u1_eq, if_pos rfl, if_pos hi, a4]
        · rw [u1_eq, if_neg h11, u1_eq, if_neg h10, u2_eq, if_neg h40]
        · unfold RQ
          rw [u1_eq, if_neg (by decide), u1_eq, if_neg (by decide), u2_row _ _ (by decide), u1_eq, if_neg (by decide), u1_eq, if_neg (by decide), u2_row _ _ (by decide)]
          exact hQ
        · rw [u1_eq, if_neg (by decide), u1_eq, if_neg (by decide), u2_col _ _ (by decide), u2_col _ _ (by decide), eb2]
        · rw [u1_eq, if_neg (by decide), u1_eq, if_neg (by decide), u2_col _ _ (by decide), u2_same, k5, oI_0]
        · have q10 : (u2 (u2 (bgA A) 0 8 (M2 0 5)) 0 40 (nI c)) 10 = A 10 := funext (fun j => by rw [u2_row _ _ (by decide), u2_row _ _ (by decide), eb 10 j (by omega)])
          have q11 : ∀ f : Nat → Int32, (u1 (u2 (u2 (bgA A) 0 8 (M2 0 5)) 0 40 (nI c)) 10 f) 11 = A 11 := fun f => funext (fun j => by rw [u1_eq, if_neg (by decide), u2_row _ _ (by decide), u2_row _ _ (by decide), eb 11 j (by omega)])
          rw [q10, q11]
          by_cases ha11 : a = 11
          · rw [u1_eq, if_pos ha11, u1_eq, if_pos ha11]
          · by_cases ha10 : a = 10
            · rw [u1_eq, if_neg ha11, u1_eq, if_pos ha10, u1_eq, if_neg ha11, u1_eq, if_pos ha10]
            · rw [u1_eq, if_neg ha11, u1_eq, if_neg ha10, u1_eq, if_neg ha11, u1_eq, if_neg ha10]
              by_cases ha40 : a = 0 ∧ b = 40
              · rw [u2_eq, if_pos ha40, u2_eq, if_pos ha40]
              · rw [u2_eq, if_neg ha40, u2_eq, if_neg (by omega), u2_eq, if_neg ha40, eb a b (by omega)]
      · rw [end_t (ruC C c E) 0 a b h19 h20 h21 h0, ru_t C c E a b h19 h20 h21 h0]
      · show s_ty (endC (ruC C c E) 0) c = some [true]
        rw [ty_cg (E := E) (E' := endC (ruC C c E) 0) c (fun k _ => ⟨rfl, rfl⟩), g4]
      · exact g1
      · exact (g3 k hk).1
    · have fs : FSt n (u2 T2 0 1 0) M2 := ⟨k, pl, g1, g2, g3, by rw [u2_col _ _ (by decide), g4], by rw [u2_col _ _ (by decide), g5], g6, g7⟩
      rw [(fs.f (by omega)).1, obs, if_neg (by decide), (fs.f (by omega)).2, obs, if_pos rfl, obs, if_neg (show ¬ M2 0 5 = -1 from by rw [g6]; exact na_ne1 (by omega))]
      refine ⟨0, _, _, _, _, _, _, _, _, _, _, endC C (pl + 1), rfl, rfl, ?_, Or.inl rfl, fun _ => ?_, ?_, ?_, Or.inl ⟨rfl, rfl, Or.inr ⟨C, pl + 1, ACT.refl hP, by omega, rfl⟩⟩⟩
      · show u2 (bgA A) 0 8 (M2 0 5) 0 0 = _
        rw [u2_col _ _ (by decide), eb 0 0 (by omega), hA]; rfl
      · show u2 T2 0 1 0 0 8 - 10 = M2 0 6 - 10
        rw [u2_col _ _ (by decide), g4, g7]
      · exact RT_end (u2_same _ _ _ _) (by rw [u2_col _ _ (by decide), g5, oI_s])
      · refine RL_end h' (by omega) ?_ ?_ (fun a b hab => ?_)
        · show u2 (bgA A) 0 8 (M2 0 5) 0 2 = 0
          rw [u2_col _ _ (by decide), eb2]
        · show u2 (bgA A) 0 8 (M2 0 5) 0 8 = _
          rw [u2_same, g6, oI_s]
        · show u2 (bgA A) 0 8 (M2 0 5) a b = _
          rw [u2_eq, if_neg (by omega), eb a b (by omega)]
  · have ev : ((((if p1 < 0 then some (.inl ()) else if nI (C 0 9) < p1 then some (.inl ()) else if 150 < p1 then some (.inl ()) else some (.inr 1)) : Option (Unit ⊕ Int32)).bind fun b3 => sumE b3 (fun _ => some 0) (fun q => some q)) : Option Int32) = some 0 := by
      by_cases c0 : p1 < 0
      · rw [if_pos c0]; rfl
      · rw [if_neg c0]
        by_cases c1 : nI (C 0 9) < p1
        · rw [if_pos c1]; rfl
        · rw [if_neg c1, if_pos (show (150 : Int32) < p1 from (c.resolve_left c0).resolve_left c1)]; rfl
    rw [ev, obs, obs, Y_ref_out, obs, if_neg (show ¬ (2 : Nat) = 0 by decide)]
    have em : f_M_may A 0 1 1 = some (0, mRef A 1 1) := M_may_out (k := 1) hA (by decide) (by omega)
    rw [em, obs, if_neg (fun h => h rfl)]
    exact ⟨2, _, _, _, _, _, _, _, _, _, _, C, rfl, rfl, mRef_0 A 1 1, Or.inr rfl, (fun h => by cases h), hT, h'.ref 1 (k := 1) (by omega), Or.inl ⟨rfl, rfl, Or.inl rfl⟩⟩
