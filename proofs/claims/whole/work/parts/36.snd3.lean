/-! SOUNDNESS: how the world changes with the memory -/
theorem sq_ord {k : Nat} (hk : k < 126) : a_sq (a_ord k) = k + 1 := co_dec (N := 126) (P := fun k => a_sq (a_ord k) = k + 1) (by decide +kernel) hk
theorem sq_big {id : Nat} (h : 2816 ≤ id) : a_sq id = 0 := by
  have h1 : ∀ k, k ≤ 2816 → Nat.ble k id = true := fun k hk => Nat.ble_eq.mpr (by omega)
  have h2 : ∀ k, k < 2816 → Nat.beq id k = false := fun k hk => by
    cases hb : Nat.beq id k with
    | false => rfl
    | true => have := Nat.eq_of_beq_eq_true hb; omega
  simp only [a_sq, h1 1225 (by omega), h1 2657 (by omega), h1 2705 (by omega), h1 2720 (by omega), h1 2728 (by omega), h1 2732 (by omega), h1 2752 (by omega), h1 2753 (by omega), h2 2753 (by omega), cond_true, cond_false]
theorem ord_sq {id : Nat} (h : a_sq id ≠ 0) : a_ord (a_sq id - 1) = id := by
  by_cases hid : id < 2816
  · exact co_dec (N := 2816) (P := fun id => a_sq id ≠ 0 → a_ord (a_sq id - 1) = id) (by decide +kernel) hid h
  · exact absurd (sq_big (by omega)) h
theorem sq_le (id : Nat) : a_sq id ≤ 126 := by
  by_cases hid : id < 2816
  · exact co_dec (N := 2816) (P := fun id => a_sq id ≤ 126) (by decide +kernel) hid
  · rw [sq_big (by omega)]; exact Nat.zero_le _
theorem a_nth_mem {α : Type} {l : List α} {d x : α} {k : Nat} (h : a_nth l d k = x) : x ∈ l ∨ x = d := by
  induction l generalizing k with
  | nil => exact Or.inr h.symm
  | cons a l ih => cases k with
    | zero => exact Or.inl (by rw [show a = x from h]; exact List.mem_cons_self)
    | succ k => exact (ih (k := k) h).imp (List.mem_cons_of_mem _) id
theorem a_nth_st {α : Type} (l : List α) (d : α) (r k : Nat) (x : α) : a_nth (l.set r x) d k = if k = r ∧ r < l.length then x else a_nth l d k := by
  induction l generalizing r k with
  | nil => simp [a_nth]
  | cons a l ih => cases r with
    | zero => cases k with
      | zero => simp [a_nth]
      | succ k => simp [a_nth]
    | succ r => cases k with
      | zero => simp [a_nth]
      | succ k => simp only [List.set_cons_succ, a_nth]; rw [ih]; simp
theorem a_gt_pt (Is : List (Nat → Nat → Int32)) (r k i : Nat) (v : Int32) (r' k' i' : Nat) : a_gt (a_pt Is r k i v) r' k' i' = if r' = r ∧ k' = k ∧ i' = i ∧ r < Is.length then v else a_gt Is r' k' i' := by
  unfold a_gt a_pt
  rw [a_nth_st]
  by_cases h1 : r' = r ∧ r < Is.length
  · rw [if_pos h1]
    obtain ⟨rfl, hl⟩ := h1
    unfold u2
    by_cases h2 : k' = k
    · subst h2
      by_cases h3 : i' = i
      · subst h3
        simp [hl]
      · have : Nat.beq i' i = false := by
          cases hb : Nat.beq i' i with
          | false => rfl
          | true => exact absurd (Nat.eq_of_beq_eq_true hb) h3
        simp [this, h3]
    · have : Nat.beq k' k = false := by
        cases hb : Nat.beq k' k with
        | false => rfl
        | true => exact absurd (Nat.eq_of_beq_eq_true hb) h2
      simp [this, h2]
  · rw [if_neg h1, if_neg (fun q => h1 ⟨q.1, q.2.2.2⟩)]
theorem a_gt_pr (Is : List (Nat → Nat → Int32)) (r k : Nat) (f : Nat → Int32) (r' k' i' : Nat) : a_gt (a_pr Is r k f) r' k' i' = if r' = r ∧ k' = k ∧ r < Is.length then f i' else a_gt Is r' k' i' := by
  unfold a_gt a_pr
  rw [a_nth_st]
  by_cases h1 : r' = r ∧ r < Is.length
  · rw [if_pos h1]
    obtain ⟨rfl, hl⟩ := h1
    unfold u1
    by_cases h2 : k' = k
    · subst h2
      simp [hl]
    · have : Nat.beq k' k = false := by
        cases hb : Nat.beq k' k with
        | false => rfl
        | true => exact absurd (Nat.eq_of_beq_eq_true hb) h2
      simp [this, h2]
  · rw [if_neg h1, if_neg (fun q => h1 ⟨q.1, q.2.2⟩)]
/-- where an object's numbers lie -/
def keys (id : Nat) : List Nat := if a_kind id = 32 ∨ a_kind id = 33 then [64 * a_reg id + a_loc id] else (a_nth a_fkt [] (a_kind id)).filterMap (fun q => if q.1 = 0 then some (64 * (a_reg id + q.2) + a_loc id) else none)
theorem keys_dj {i j : Nat} (hi : i < 126) (hj : j < 126) (hij : i ≠ j) : ∀ k ∈ keys (a_ord i), k ∉ keys (a_ord j) := by
  have h := co_dec (N := 126) (P := fun i => (List.range 126).all (fun j => decide (i = j) || (keys (a_ord i)).all (fun k => !(keys (a_ord j)).contains k)) = true) (by decide +kernel) hi
  have h2 := List.all_eq_true.mp h j (List.mem_range.mpr hj)
  intro k hk hk2
  simp only [hij, decide_false, Bool.false_or] at h2
  have h3 := List.all_eq_true.mp h2 k hk
  simp [List.contains_iff_mem, hk2] at h3
/-- an object speaks of the numbers at its keys -/
theorem ent_congr (G : AG) {cnt asg L : Nat} {Is Is' : List (Nat → Nat → Int32)} {Rs : List Nat} {Lg : Int64} {id : Nat} (h : ∀ r k, k < 64 → 64 * r + k ∈ keys id → ∀ i, a_gt Is r k i = a_gt Is' r k i) : ent G (cnt, asg, L, Is, Rs, Lg) id = ent G (cnt, asg, L, Is', Rs, Lg) id := by
  have hl : a_loc id < 64 := Nat.mod_lt _ (by decide)
  unfold ent
  simp only
  by_cases h1 : a_kind id = 32 ∨ a_kind id = 33
  · rw [if_pos h1, if_pos h1]
    have : a_row Is id = a_row Is' id := funext fun i => h (a_reg id) (a_loc id) hl (by unfold keys; rw [if_pos h1]; exact List.mem_singleton.mpr rfl) i
    rw [this]
  · rw [if_neg h1, if_neg h1]
    split
    · rfl
    · split
      · rfl
      · congr 2
        refine List.map_congr_left (fun k hk => ?_)
        unfold fval
        simp only
        split
        · rename_i sh hf
          have hm : (0, sh) ∈ a_nth a_fkt [] (a_kind id) := by
            rcases a_nth_mem hf with h | h
            · exact h
            · cases h
          rw [h (a_reg id + sh) (a_loc id) hl (by
            unfold keys
            rw [if_neg h1]
            exact List.mem_filterMap.mpr ⟨_, hm, by simp⟩) k]
        · rfl
        · rfl
        · rfl
theorem wsOf_get (G : AG) (μ : AM) {id : Nat} (h0 : a_sq id ≠ 0) (h : a_sq id ≤ μ.1) : (wsOf G μ)[a_sq id - 1]? = some (g_ad G id, ent G μ id) := by
  unfold wsOf
  rw [List.getElem?_map, List.getElem?_range (by omega)]
  simp only [Option.map_some, ord_sq h0]
  unfold g_ad
  rw [if_neg h0]
/-- one object has changed -/
theorem wsOf_set (G : AG) {μ μ' : AM} {id : Nat} (h0 : a_sq id ≠ 0) (hc : μ'.1 = μ.1) (hm : μ.1 ≤ 126) (h : ∀ k, k < 126 → k ≠ a_sq id - 1 → ent G μ' (a_ord k) = ent G μ (a_ord k)) : wsOf G μ' = (wsOf G μ).set (a_sq id - 1) (g_ad G id, ent G μ' id) := by
  apply List.ext_getElem?
  intro k
  rw [List.getElem?_set]
  by_cases hk : k < μ.1
  · by_cases he : a_sq id - 1 = k
    · subst he
      rw [if_pos rfl]
      have hle : a_sq id ≤ μ.1 := by omega
      rw [wsOf_get G μ' h0 (by rw [hc]; exact hle)]
      rw [if_pos (by unfold wsOf; simp; omega)]
    · rw [if_neg he]
      unfold wsOf
      rw [hc, List.getElem?_map, List.getElem?_map, List.getElem?_range hk]
      simp only [Option.map_some]
      rw [h k (by omega) (fun q => he q.symm)]
  · have hn : (wsOf G μ').length ≤ k := by unfold wsOf; simp; omega
    rw [List.getElem?_eq_none hn]
    split
    · split
      · rename_i h2; unfold wsOf at h2; simp at h2; omega
      · rfl
    · rw [List.getElem?_eq_none (by unfold wsOf; simp; omega)]
