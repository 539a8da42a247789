/-! PURE MATH: the class: who moves, what they cost, all are seated -/
theorem Y_list {C : CS} {H : Nat → Nat → Int32} (hW : WFC C) (hH : RH C H) {w : Nat} (hw : w < 2 ^ 31) : ∀ t a c F n, a + t = C 0 3 → F 0 6 = nI c → c + (s_os w t a).length ≤ 3 → t < n →
    ∃ F', loopN (fun q : Int32 × (Nat → Nat → Int32) => f_Fitter_listOthers_l7 H (nI w) q.1 q.2) n (nI a, F) = some F' ∧ LRo F' c (s_os w t a) ∧ (∀ b, b < c → F' 4 b = F 4 b) ∧ ∀ k i, k ≠ 4 → ¬ (k = 0 ∧ i = 6) → F' k i = F k i := by
  have hN := hW.2.2.2.1
  have h03 : H 0 3 = nI (C 0 3) := hH 0 3 (show 3 < 6 by omega)
  intro t
  induction t with
  | zero =>
    intro a c F n ha h6 hc hn
    obtain ⟨n, rfl⟩ : ∃ k, n = k + 1 := ⟨n - 1, by omega⟩
    refine ⟨F, loop_r ?_, h6, fun _ _ => rfl, fun _ _ _ _ => rfl⟩
    show f_Fitter_listOthers_l7 H (nI w) (nI a) F = _
    unfold f_Fitter_listOthers_l7
    rw [h03, if_pos (nI_le (by omega) (by omega))]
  | succ t ih =>
    intro a c F n ha h6 hc hn
    obtain ⟨n, rfl⟩ : ∃ k, n = k + 1 := ⟨n - 1, by omega⟩
    obtain ⟨q1, q2⟩ := bitq (x := w) (j := a) hw (by omega)
    by_cases h : w.testBit a = true
    · rw [os_hit h] at hc ⊢
      rw [List.length_cons] at hc
      have e : (fun q : Int32 × (Nat → Nat → Int32) => f_Fitter_listOthers_l7 H (nI w) q.1 q.2) (nI a, F) = some (.inl (nI (a + 1), u2 (u2 F 4 c (nI a)) 0 6 (nI (c + 1)))) := by
        show f_Fitter_listOthers_l7 H (nI w) (nI a) F = _
        unfold f_Fitter_listOthers_l7
        rw [h03, if_neg (nI_ge (by omega) (by omega)), if_neg (fun h2 => (q1.mp h2) h), h6, if_neg (show ¬ (3 : Int32) ≤ nI c from nI_ge (b := 3) (by omega) (by omega)), ixx_nI (by omega) (by omega), obs, u2_row _ _ (by decide), h6, ← nI_succ, ← nI_succ]
      rw [loop_l e]
      obtain ⟨F', f1, f2, f3, f4⟩ := ih (a + 1) (c + 1) (u2 (u2 F 4 c (nI a)) 0 6 (nI (c + 1))) n (by omega) (u2_same _ _ _ _) (by omega) (by omega)
      refine ⟨F', f1, ⟨?_, f2⟩, fun b hb => ?_, fun k i h4 h06 => ?_⟩
      · rw [f3 c (by omega), u2_row _ _ (by decide), u2_same]
      · rw [f3 b (by omega), u2_row _ _ (by decide), u2_col _ _ (by omega)]
      · rw [f4 k i h4 h06, u2_eq, if_neg h06, u2_row _ _ h4]
    · rw [os_miss h] at hc ⊢
      have e : (fun q : Int32 × (Nat → Nat → Int32) => f_Fitter_listOthers_l7 H (nI w) q.1 q.2) (nI a, F) = some (.inl (nI (a + 1), F)) := by
        show f_Fitter_listOthers_l7 H (nI w) (nI a) F = _
        unfold f_Fitter_listOthers_l7
        rw [h03, if_neg (nI_ge (by omega) (by omega)), if_pos (q1.mpr h), ← nI_succ]
      rw [loop_l e]
      exact ih (a + 1) c F n (by omega) h6 hc (by omega)
def sumL (f : Nat → Nat) : List Nat → Nat
  | [] => 0
  | o :: os => f o + sumL f os
theorem sum_os (f : Nat → Nat) (w : Nat) : ∀ t a, tsum (fun m => if w.testBit m = true then f m else 0) (a + t) = tsum (fun m => if w.testBit m = true then f m else 0) a + sumL f (s_os w t a) := by
  intro t
  induction t with
  | zero => intro a; rfl
  | succ t ih =>
    intro a
    rw [show a + (t + 1) = (a + 1) + t from by omega, ih (a + 1)]
    have e : tsum (fun m => if w.testBit m = true then f m else 0) (a + 1) = tsum (fun m => if w.testBit m = true then f m else 0) a + (if w.testBit a = true then f a else 0) := rfl
    rw [e]
    by_cases h : w.testBit a = true
    · rw [if_pos h, os_hit h]
      show _ = _ + (f a + sumL f (s_os w t (a + 1)))
      omega
    · rw [if_neg h, os_miss h]
      omega
theorem sumL_le (f : Nat → Nat) (B : Nat) (hB : ∀ x, f x ≤ B) : ∀ os : List Nat, sumL f os ≤ os.length * B := by
  intro os
  induction os with
  | nil => exact Nat.zero_le _
  | cons o os ih =>
    have := hB o
    show f o + sumL f os ≤ (os.length + 1) * B
    rw [Nat.add_mul]
    omega
theorem pc_os (w : Nat) : ∀ t a, pc w (a + t) = pc w a + (s_os w t a).length := by
  intro t
  induction t with
  | zero => intro a; rfl
  | succ t ih =>
    intro a
    rw [show a + (t + 1) = (a + 1) + t from by omega, ih (a + 1)]
    have e : pc w (a + 1) = pc w a + (w >>> a) % 2 := rfl
    have hb := bit1 w a
    rw [e]
    by_cases h : w.testBit a = true
    · rw [hb.mpr h, os_hit h, List.length_cons]
      omega
    · have h2 : (w >>> a) % 2 = 0 := by
        have := mt hb.mp h
        omega
      rw [h2, os_miss h, Nat.add_zero]
/-- bits of a set below 2^n -/
theorem bit_lt {w n : Nat} (h : w < 2 ^ n) {x : Nat} (hx : w.testBit x = true) : x < n := by
  by_cases hc : x < n
  · exact hc
  · have := Nat.testBit_lt_two_pow (Nat.lt_of_lt_of_le h (Nat.pow_le_pow_right (by omega) (show n ≤ x by omega)))
    rw [this] at hx
    cases hx
theorem os_len {w n : Nat} (hn : n ≤ 10) (h : w < 2 ^ n) : (s_os w n 0).length = pc w 10 := by
  have e1 := pc_os w n 0
  have e2 := pc_os w (10 - n) n
  have e3 : s_os w (10 - n) n = [] := by
    apply List.eq_nil_iff_forall_not_mem.mpr
    intro x hx
    have hx := (os_mem w _ _ x).mp hx
    have := bit_lt h hx.2.2
    omega
  rw [e3, show n + (10 - n) = 10 from by omega] at e2
  rw [Nat.zero_add] at e1
  have e0 : pc w 0 = 0 := rfl
  rw [e2, e1, e0]
  simp
theorem Y_costs {C : CS} {H F : Nat → Nat → Int32} (hW : WFC C) (hH : RH C H) : ∀ os i n x, LRo F i os → i + os.length ≤ 3 → (∀ o, o ∈ os → o < C 0 3) → os.length < n →
    loopN (fun q : Int32 × Int32 => f_Fitter_tryRooms_l20 H F q.1 q.2) n (nI x, nI i) = some (nI (x + sumL (s_cost C) os)) := by
  have hN := hW.2.2.2.1
  intro os
  induction os with
  | nil =>
    intro i n x hL hi _ hn
    obtain ⟨n, rfl⟩ : ∃ k, n = k + 1 := ⟨n - 1, by omega⟩
    have hi : i ≤ 3 := hi
    refine loop_r ?_
    show f_Fitter_tryRooms_l20 H F (nI x) (nI i) = _
    unfold f_Fitter_tryRooms_l20
    have h6 : F 0 6 = nI i := hL
    rw [h6, if_pos (nI_le (Nat.le_refl _) (by omega))]
    rfl
  | cons o os ih =>
    intro i n x hL hi ho hn
    rw [List.length_cons] at hi hn
    obtain ⟨n, rfl⟩ : ∃ k, n = k + 1 := ⟨n - 1, by omega⟩
    have hlen := hL.len
    rw [List.length_cons] at hlen
    have e : (fun q : Int32 × Int32 => f_Fitter_tryRooms_l20 H F q.1 q.2) (nI x, nI i) = some (.inl (nI (x + s_cost C o), nI (i + 1))) := by
      show f_Fitter_tryRooms_l20 H F (nI x) (nI i) = _
      unfold f_Fitter_tryRooms_l20
      rw [hlen, if_neg (nI_ge (by omega) (by omega)), rdx_nI (by omega) (by omega), hL.1, obs, Y_costOf hW hH (ho o List.mem_cons_self), obs, na_add, ← nI_succ]
    rw [loop_l e, ih (i + 1) n (x + s_cost C o) hL.2 (by omega) (fun x hx => ho x (List.mem_cons_of_mem _ hx)) (by omega)]
    show some (nI (x + s_cost C o + sumL (s_cost C) os)) = some (nI (x + (s_cost C o + sumL (s_cost C) os)))
    rw [Nat.add_assoc]
/-- those who move are away -/
theorem Y_away {C : CS} {F : Nat → Nat → Int32} {tm : Nat → Nat} (hW : WFC C) : ∀ os i n B (q : Nat → Nat), LRo F i os → i + os.length ≤ 3 → (∀ o, o ∈ os → o < C 0 3) → os.length < n → RB C q tm B →
    ∃ B', loopN (fun z : Int32 × (Nat → Nat → Int32) => f_Fitter_seatAll_l2 F z.1 z.2) n (nI i, B) = some B' ∧ RB C (fun x => if x ∈ os then 0 else q x) tm B' := by
  have hN := hW.2.2.2.1
  intro os
  induction os with
  | nil =>
    intro i n B q hL hi _ hn hB
    obtain ⟨n, rfl⟩ : ∃ k, n = k + 1 := ⟨n - 1, by omega⟩
    have hi : i ≤ 3 := hi
    have h6 : F 0 6 = nI i := hL
    refine ⟨B, loop_r ?_, RB_cg hB (fun x _ => ?_)⟩
    · show f_Fitter_seatAll_l2 F (nI i) B = _
      unfold f_Fitter_seatAll_l2
      rw [h6, if_pos (nI_le (Nat.le_refl _) (by omega))]
    · rw [if_neg (fun h => by cases h)]
  | cons o os ih =>
    intro i n B q hL hi ho hn hB
    rw [List.length_cons] at hi hn
    obtain ⟨n, rfl⟩ : ∃ k, n = k + 1 := ⟨n - 1, by omega⟩
    have hlen := hL.len
    rw [List.length_cons] at hlen
    have ho1 := ho o List.mem_cons_self
    have e : (fun z : Int32 × (Nat → Nat → Int32) => f_Fitter_seatAll_l2 F z.1 z.2) (nI i, B) = some (.inl (nI (i + 1), u2 B 1 o (-1))) := by
      show f_Fitter_seatAll_l2 F (nI i) B = _
      unfold f_Fitter_seatAll_l2
      rw [hlen, if_neg (nI_ge (by omega) (by omega)), rdx_nI (by omega) (by omega), hL.1, obs, ixx_nI (by omega) (by omega), obs, ← nI_succ]
    rw [loop_l e]
    have hB2 : RB C (pu q o 0) tm (u2 B 1 o (-1)) := RB_pu (z := q o) (by rw [pu_id]; exact hB) oI_0.symm
    obtain ⟨B', b1, b2⟩ := ih (i + 1) n (u2 B 1 o (-1)) (pu q o 0) hL.2 (by omega) (fun x hx => ho x (List.mem_cons_of_mem _ hx)) (by omega) hB2
    refine ⟨B', b1, RB_cg b2 (fun x _ => ?_)⟩
    by_cases h1 : x ∈ os
    · rw [if_pos h1, if_pos (List.mem_cons_of_mem _ h1)]
    · rw [if_neg h1]
      by_cases h2 : x = o
      · rw [if_pos (by rw [h2]; exact List.mem_cons_self), h2, pu_same]
      · rw [if_neg (fun h => (List.mem_cons.mp h).elim h2 h1), pu_ne _ h2]
/-- whether each of them has a place now -/
theorem Y_each {C : CS} {H B : Nat → Nat → Int32} {j : Nat} {v : Int32} {q tm : Nat → Nat} (hW : WFC C) (hH : RH C H) (hB : RB C q tm (u2 B 1 j v)) (hq : ∀ x, q x ≤ 30) : ∀ os i n F, LRo F i os → i + os.length ≤ 3 → (∀ o, o ∈ os → o < C 0 3 ∧ C 15 o ≠ 0) → os.length < n → (∀ x, x < C 0 3 → F 1 x = oI (C 15 x)) →
    ∃ F', (∀ a b, a ≠ 5 → F' a b = F a b) ∧ (loopN (fun z : Int32 × (Nat → Nat → Int32) => f_Fitter_seatAll_l57 H B j v z.1 z.2) n (nI i, F) = some (.inl F') ∨
      (loopN (fun z : Int32 × (Nat → Nat → Int32) => f_Fitter_seatAll_l57 H B j v z.1 z.2) n (nI i, F) = some (.inr (zb 0, u2 B 1 j v, F')) ∧ ∃ o, o ∈ os ∧ ∀ k, ¬ (s_fr C q o k ∧ k + 1 ≠ C 15 o))) := by
  have hN := hW.2.2.2.1
  intro os
  induction os with
  | nil =>
    intro i n F hL hi _ hn _
    obtain ⟨n, rfl⟩ : ∃ k, n = k + 1 := ⟨n - 1, by omega⟩
    have hi : i ≤ 3 := hi
    have h6 : F 0 6 = nI i := hL
    refine ⟨F, fun _ _ _ => rfl, Or.inl (loop_r ?_)⟩
    show f_Fitter_seatAll_l57 H B j v (nI i) F = _
    unfold f_Fitter_seatAll_l57
    rw [h6, if_pos (nI_le (Nat.le_refl _) (by omega))]
  | cons o os ih =>
    intro i n F hL hi ho hn h1
    rw [List.length_cons] at hi hn
    obtain ⟨n, rfl⟩ : ∃ k, n = k + 1 := ⟨n - 1, by omega⟩
    have hlen := hL.len
    rw [List.length_cons] at hlen
    obtain ⟨o1, o2⟩ := ho o List.mem_cons_self
    obtain ⟨r, G, g1, g2, _, g4⟩ := Y_findOpen hW hH hB hq (i := i) (L := i + (os.length + 1)) o1 o2 hlen (by omega) hi hL.1 (h1 o o1)
    have g4' : ∀ a b, a ≠ 5 → G a b = F a b := fun a b h => g4 a b (fun h2 => h h2.1)
    rcases g2 with ⟨rfl, g2⟩ | rfl
    · refine ⟨G, g4', Or.inr ⟨loop_r ?_, o, List.mem_cons_self, g2⟩⟩
      show f_Fitter_seatAll_l57 H B j v (nI i) F = _
      unfold f_Fitter_seatAll_l57
      rw [hlen, if_neg (nI_ge (by omega) (by omega)), g1, obs, if_neg (fun h => h rfl)]
    · have e : (fun z : Int32 × (Nat → Nat → Int32) => f_Fitter_seatAll_l57 H B j v z.1 z.2) (nI i, F) = some (.inl (nI (i + 1), G)) := by
        show f_Fitter_seatAll_l57 H B j v (nI i) F = _
        unfold f_Fitter_seatAll_l57
        rw [hlen, if_neg (nI_ge (by omega) (by omega)), g1, obs, if_pos (show (1 : Int32) ≠ 0 by decide), ← nI_succ]
      rw [loop_l e]
      obtain ⟨F', f1, f2⟩ := ih (i + 1) n G (hL.2.cg (fun b _ => g4' 4 b (by decide)) (g4' 0 6 (by decide))) (by omega) (fun x hx => ho x (List.mem_cons_of_mem _ hx)) (by omega) (fun x hx => by rw [g4' 1 x (by decide), h1 x hx])
      refine ⟨F', fun a b h => by rw [f1 a b h, g4' a b h], ?_⟩
      rcases f2 with f2 | ⟨f2, o', f3, f4⟩
      · exact Or.inl f2
      · exact Or.inr ⟨f2, o', List.mem_cons_of_mem _ f3, f4⟩
/-- the search when all that stay are lawful -/
def s_fitS (C : CS) (j w k : Nat) : Option (Nat → Nat) := if s_clash C (s_aw C j w) j k = 0 then s_seek C (s_os w (C 0 3) 0) (pu (s_aw C j w) j (k + 1)) else none
theorem Y_seatAll {C : CS} {H B F : Nat → Nat → Int32} {tm : Nat → Nat} (hW : WFC C) (hP : WFP C) (hH : RH C H) {j w k : Nat} (hB : RB C (C 15) tm B) (hL : LRo F 0 (s_os w (C 0 3) 0)) (h3 : (s_os w (C 0 3) 0).length ≤ 3) (h1 : ∀ x, x < C 0 3 → F 1 x = oI (C 15 x)) (hj : j < C 0 3) (hwN : w < 2 ^ C 0 3) (hwj : ¬ w.testBit j = true) (hw0 : ∀ x, w.testBit x = true → C 15 x ≠ 0) (hk : k < 30) (hr : k % 3 < C 0 1) :
    ∃ B' F', f_Fitter_seatAll H B F (nI j) (nI k) = some (sB (s_fitS C j w k), B', F') ∧ (∃ q, RB C q tm B' ∧ ∀ q', s_fitS C j w k = some q' → q = q') ∧ ∀ a b, a ≠ 5 → F' a b = F a b := by
  have hN := hW.2.2.2.1
  obtain ⟨a1, a2⟩ := aw_ok hW hP j w
  have hos : ∀ x, x ∈ s_os w (C 0 3) 0 ↔ w.testBit x = true := fun x => by
    rw [os_mem]
    constructor
    · exact fun h => h.2.2
    · intro h
      have := bit_lt hwN h
      exact ⟨Nat.zero_le _, by omega, h⟩
  unfold f_Fitter_seatAll
  obtain ⟨B1, b1, b2⟩ := Y_away (F := F) (tm := tm) hW (s_os w (C 0 3) 0) 0 a_F B (C 15) hL (by omega) (fun o ho => by have := (os_mem w _ _ o).mp ho; omega) (by unfold a_F; omega) hB
  have b1 : loopN (fun q : Int32 × (Nat → Nat → Int32) => f_Fitter_seatAll_l2 F q.1 q.2) a_F (0, B) = some B1 := b1
  rw [b1, obs, ixx_nI (by omega) (by omega), obs]
  have hq1 : RB C (pu (s_aw C j w) j (k + 1)) tm (u2 B1 1 j (nI k)) := by
    have e := RB_pu (o := j) (z := if j ∈ s_os w (C 0 3) 0 then 0 else C 15 j) (z' := k + 1) (v := nI k) (q := fun x => if x ∈ s_os w (C 0 3) 0 then 0 else C 15 x) (by rw [pu_id (q := fun x => if x ∈ s_os w (C 0 3) 0 then 0 else C 15 x)]; exact b2) (oI_s _).symm
    refine RB_cg e (fun x _ => ?_)
    by_cases hx : x = j
    · subst hx; rw [pu_same, pu_same]
    · rw [pu_ne _ hx, pu_ne _ hx]
      show (if x ∈ s_os w (C 0 3) 0 then 0 else C 15 x) = if x = j ∨ w.testBit x = true then 0 else C 15 x
      by_cases hb : w.testBit x = true
      · rw [if_pos ((hos x).mpr hb), if_pos (Or.inr hb)]
      · rw [if_neg (fun h => hb ((hos x).mp h)), if_neg (fun h => h.elim hx hb)]
  have hq1l := pu_le a1 (o := j) (z := k + 1) (by omega)
  rw [Y_isOpen hW hH hq1 hq1l hj hk hr, obs]
  simp only [clash_own]
  unfold s_fitS
  by_cases c : s_clash C (s_aw C j w) j k = 0
  · rw [if_pos c, if_pos (show (1 : Int32) ≠ 0 by decide), if_pos c]
    have hz : ∀ o, o ∈ s_os w (C 0 3) 0 → pu (s_aw C j w) j (k + 1) o = 0 := fun o ho => by
      have ho := (hos o).mp ho
      have hoj : o ≠ j := fun e => hwj (e ▸ ho)
      rw [pu_ne _ hoj]
      exact if_pos (Or.inr ho)
    obtain ⟨F1, f1, f2⟩ := Y_each (j := j) (v := nI k) hW hH hq1 hq1l (s_os w (C 0 3) 0) 0 a_F F hL (by omega) (fun o ho => by
      have := (os_mem w _ _ o).mp ho
      exact ⟨by omega, hw0 o this.2.2⟩) (by unfold a_F; omega) h1
    rcases f2 with f2 | ⟨f2, o, f3, f4⟩
    · have f2 : loopN (fun q : Int32 × (Nat → Nat → Int32) => f_Fitter_seatAll_l57 H B1 j (nI k) q.1 q.2) a_F (0, F) = some (.inl F1) := f2
      rw [f2, obs, se_l]
      obtain ⟨B2, F2, k1, k2, k3⟩ := Y_seat (tm := tm) hW hH (s_os w (C 0 3) 0) 12 0 (u2 B1 1 j (nI k)) F1 (pu (s_aw C j w) j (k + 1)) (by omega) (by omega) (hL.cg (fun b _ => f1 4 b (by decide)) (f1 0 6 (by decide))) (fun o ho => by
        have h' := (os_mem w _ _ o).mp ho
        exact ⟨by omega, hw0 o h'.2.2, hz o ho⟩) (os_nodup w _ _) (fun x hx => by rw [f1 1 x (by decide), h1 x hx]) hq1 hq1l
      have k1 : f_grp_cs 12 0 H (u2 B1 1 j (nI k)) F1 0 = _ := k1
      rw [k1, obs]
      refine ⟨B2, F2, congrArg some (Prod.ext (sB_zb _) rfl), ⟨_, k2, fun q' hq' => by rw [hq']; rfl⟩, fun a b h => by rw [k3 a b (fun h2 => h h2.1), f1 a b h]⟩
    · have f2 : loopN (fun q : Int32 × (Nat → Nat → Int32) => f_Fitter_seatAll_l57 H B1 j (nI k) q.1 q.2) a_F (0, F) = some (.inr (zb 0, u2 B1 1 j (nI k), F1)) := f2
      rw [f2, obs, se_r]
      have hnone : s_seek C (s_os w (C 0 3) 0) (pu (s_aw C j w) j (k + 1)) = none := by
        cases hs : s_seek C (s_os w (C 0 3) 0) (pu (s_aw C j w) j (k + 1)) with
        | none => rfl
        | some q' =>
          obtain ⟨k', hk'⟩ := seek_free _ _ q' (os_nodup w _ _) hz hs o f3
          exact absurd hk' (f4 k')
      rw [hnone]
      exact ⟨_, F1, congrArg some (Prod.ext zb_0 rfl), ⟨_, hq1, fun q' h => by cases h⟩, f1⟩
  · rw [if_neg c, if_neg (fun h => h rfl), if_neg c]
    exact ⟨_, F, congrArg some (Prod.ext zb_0 rfl), ⟨_, hq1, fun q' h => by cases h⟩, fun _ _ _ => rfl⟩
