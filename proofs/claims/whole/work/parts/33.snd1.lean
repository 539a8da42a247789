/-! SOUNDNESS, the beginning: values, locals -/
def cvv (ad : Nat → Nat) (fm : Value) : Value → Value
  | .ref id => if id = 0 then .null else if id = 2816 then fm else .ref (ad id)
  | v => v
def isUnk : Value → Bool
  | .retAddr _ => true
  | _ => false
/-- what the locals' list says of the machine's locals -/
def kn (ad : Nat → Nat) (fm : Value) (ls : List Slot) : List (Nat × Value) := (List.range ls.length).filterMap fun i => match a_get ls i with
  | some (.val v) => if isUnk v then none else some (i, cvv ad fm v)
  | _ => none
def LR (ad : Nat → Nat) (fm : Value) (ls : List Slot) (arr : Array Slot) : Prop := lv_has arr ls.length (kn ad fm ls)
/-- a long stands before its second half -/
def WFL (ls : List Slot) : Prop := ∀ i v, a_get ls i = some (.val v) → v.category = 2 → a_get ls (i + 1) = some .second
theorem a_get_lt {α : Type} {l : List α} {i : Nat} {x : α} (h : a_get l i = some x) : i < l.length := by
  induction l generalizing i with
  | nil => cases h
  | cons a l ih => cases i with
    | zero => simp
    | succ i => have := ih (i := i) h; simp; omega
theorem a_get_set {α : Type} (l : List α) (i k : Nat) (x : α) : a_get (l.set i x) k = if k = i ∧ i < l.length then some x else a_get l k := by
  induction l generalizing i k with
  | nil => simp [a_get]
  | cons a l ih => cases i with
    | zero => cases k with
      | zero => simp [a_get]
      | succ k => simp [a_get]
    | succ i => cases k with
      | zero => simp [a_get]
      | succ k => simp only [List.set_cons_succ, a_get]; rw [ih]; simp
theorem a_get_nil {α : Type} (l : List α) (k : Nat) (h : l.length ≤ k) : a_get l k = none := by
  cases hk : a_get l k with
  | none => rfl
  | some x => exact absurd (a_get_lt hk) (by omega)
theorem kn_mem {ad : Nat → Nat} {fm : Value} {ls : List Slot} {i : Nat} {v : Value} (h : a_get ls i = some (.val v)) (hu : isUnk v = false) : (i, cvv ad fm v) ∈ kn ad fm ls := by
  unfold kn
  rw [List.mem_filterMap]
  exact ⟨i, List.mem_range.mpr (a_get_lt h), by simp [h, hu]⟩
theorem kn_of {ad : Nat → Nat} {fm : Value} {ls : List Slot} {i : Nat} {w : Value} (h : (i, w) ∈ kn ad fm ls) : ∃ v, a_get ls i = some (.val v) ∧ isUnk v = false ∧ w = cvv ad fm v := by
  unfold kn at h
  rw [List.mem_filterMap] at h
  obtain ⟨j, -, hj⟩ := h
  cases hg : a_get ls j with
  | none => simp [hg] at hj
  | some x =>
    cases x with
    | unset => simp [hg] at hj
    | second => simp [hg] at hj
    | val v =>
      simp only [hg] at hj
      cases hu : isUnk v with
      | true => simp [hu] at hj
      | false =>
        simp only [hu] at hj
        simp at hj
        obtain ⟨rfl, rfl⟩ := hj
        exact ⟨v, hg, hu, rfl⟩
theorem LR.at {ad : Nat → Nat} {fm : Value} {ls : List Slot} {arr : Array Slot} (h : LR ad fm ls arr) {i : Nat} {v : Value} (hg : a_get ls i = some (.val v)) (hu : isUnk v = false) : arr[i]? = some (.val (cvv ad fm v)) := h.2.2 _ (kn_mem hg hu)
theorem cvv_cat {ad : Nat → Nat} {fm : Value} (hf : fm.category = 1) (v : Value) : (cvv ad fm v).category = v.category := by
  cases v with
  | ref id =>
    unfold cvv
    by_cases h0 : id = 0
    · simp [h0, Value.category]
    · by_cases h1 : id = 2816
      · simp only [h0, h1, if_false, if_true]; exact hf
      · simp [h0, h1, Value.category]
  | _ => rfl
/-- the locals behind a store of one word -/
theorem LR.stw {ad : Nat → Nat} {fm : Value} {ls : List Slot} {arr' : Array Slot} (hw : WFL ls) (hf : fm.category = 1) {i : Nat} {v w : Value} (hvw : isUnk v = false → w = cvv ad fm v) (hi : i < ls.length) (hc : v.category = 1)
    (h' : lv_has arr' ls.length ((i, w) :: (kn ad fm ls).filter (fun q => !(q.1 == i) && !(q.1 + 1 == i && q.2.category == 2)))) :
    LR ad fm (a_sto ls i v) arr' ∧ WFL (a_sto ls i v) ∧ (a_sto ls i v).length = ls.length := by
  have hl2 : (a_l2 ls i).length = ls.length := by
    unfold a_l2
    split
    · split <;> simp
    · rfl
  have hlen : (a_sto ls i v).length = ls.length := by unfold a_sto; simp [hl2]
  have hget : ∀ k, k ≠ i → a_get (a_sto ls i v) k = a_get (a_l2 ls i) k := by
    intro k hk
    unfold a_sto
    rw [a_get_set, if_neg (by simp [hk])]
  have hgi : a_get (a_sto ls i v) i = some (.val v) := by
    unfold a_sto
    rw [a_get_set, if_pos ⟨rfl, by rw [hl2]; exact hi⟩]
  have hcat12 : ∀ w : Value, w.category ≠ 1 → w.category = 2 := fun w h => by cases w <;> simp_all [Value.category]
  have hl2g : ∀ k x, a_get (a_l2 ls i) k = some (.val x) → isUnk x = false → a_get ls k = some (.val x) ∧ (k + 1 = i → x.category = 1) := by
    intro k x hk hu
    unfold a_l2 at hk
    split at hk
    · rename_i hs
      split at hk
      · rename_i y hy
        rw [a_get_set] at hk
        by_cases hki : k = i - 1 ∧ i - 1 < ls.length
        · rw [if_pos hki] at hk
          obtain rfl := Slot.val.inj (Option.some.inj hk)
          cases hu
        · rw [if_neg hki] at hk
          exact ⟨hk, fun hk1 => absurd ⟨by omega, by omega⟩ hki⟩
      · rename_i hy
        refine ⟨hk, fun hk1 => ?_⟩
        exact absurd (by rw [show i - 1 = k by omega]; exact hk) (hy x)
    · rename_i hs
      refine ⟨hk, fun hk1 => ?_⟩
      rcases Classical.em (x.category = 1) with h1 | h1
      · exact h1
      · exact absurd (by rw [← hk1]; exact hw k x hk (hcat12 x h1)) hs
  refine ⟨⟨by rw [hlen]; exact h'.1, h'.2.1, fun q hq => ?_⟩, ?_, hlen⟩
  · obtain ⟨k, w⟩ := q
    obtain ⟨x, hx, hu, rfl⟩ := kn_of hq
    by_cases hk : k = i
    · subst hk
      rw [hgi] at hx
      obtain rfl := Slot.val.inj (Option.some.inj hx)
      rw [← hvw hu]
      exact h'.2.2 _ List.mem_cons_self
    · rw [hget k hk] at hx
      obtain ⟨hx', hcat⟩ := hl2g k x hx hu
      refine h'.2.2 _ (List.mem_cons_of_mem _ (List.mem_filter.mpr ⟨kn_mem hx' hu, ?_⟩))
      by_cases hk1 : k + 1 = i
      · have := hcat hk1
        simp [hk, hk1, cvv_cat hf, this]
      · simp [hk, hk1]
  · intro k x hk hx2
    by_cases hki : k = i
    · subst hki
      rw [hgi] at hk
      obtain rfl := Slot.val.inj (Option.some.inj hk)
      rw [hc] at hx2
      cases hx2
    · rw [hget k hki] at hk
      have hu : isUnk x = false := by cases x <;> simp_all [Value.category, isUnk]
      obtain ⟨hx', hcat⟩ := hl2g k _ hk hu
      have hk1 : k + 1 ≠ i := fun q => by have := hcat q; rw [this] at hx2; cases hx2
      rw [hget (k + 1) hk1]
      have hs := hw k x hx' hx2
      unfold a_l2
      split
      · split
        · rename_i y hy
          rw [a_get_set]
          by_cases hz : k + 1 = i - 1 ∧ i - 1 < ls.length
          · rw [← hz.1, hs] at hy
            cases hy
          · rw [if_neg hz]; exact hs
        · exact hs
      · exact hs
theorem LR.sto {ad : Nat → Nat} {fm : Value} {ls : List Slot} {arr' : Array Slot} (hw : WFL ls) (hf : fm.category = 1) {i : Nat} {v : Value} (hi : i < ls.length) (hc : v.category = 1)
    (h' : lv_has arr' ls.length ((i, cvv ad fm v) :: (kn ad fm ls).filter (fun q => !(q.1 == i) && !(q.1 + 1 == i && q.2.category == 2)))) :
    LR ad fm (a_sto ls i v) arr' ∧ WFL (a_sto ls i v) ∧ (a_sto ls i v).length = ls.length := LR.stw hw hf (fun _ => rfl) hi hc h'
/-- the locals behind a store of a long -/
theorem LR.stl {ad : Nat → Nat} {fm : Value} {ls : List Slot} {arr' : Array Slot} (hw : WFL ls) (hf : fm.category = 1) {i : Nat} {v : Int64} (hi : i + 1 < ls.length)
    (h' : lv_has arr' ls.length ((i, Value.long v) :: (kn ad fm ls).filter (fun q => !(q.1 == i) && (!(q.1 == i + 1) && !(q.1 + 1 == i && q.2.category == 2))))) :
    LR ad fm (a_stl ls i (.long v)) arr' ∧ WFL (a_stl ls i (.long v)) ∧ (a_stl ls i (.long v)).length = ls.length := by
  have hl2 : (a_l2 ls i).length = ls.length := by
    unfold a_l2
    split
    · split <;> simp
    · rfl
  have hlen : (a_stl ls i (.long v)).length = ls.length := by unfold a_stl; simp [hl2]
  have hget : ∀ k, k ≠ i → k ≠ i + 1 → a_get (a_stl ls i (.long v)) k = a_get (a_l2 ls i) k := by
    intro k hk hk2
    unfold a_stl
    rw [a_get_set, if_neg (by simp [hk2]), a_get_set, if_neg (by simp [hk])]
  have hgi : a_get (a_stl ls i (.long v)) i = some (.val (.long v)) := by
    unfold a_stl
    rw [a_get_set, if_neg (by omega), a_get_set, if_pos ⟨rfl, by rw [hl2]; omega⟩]
  have hgi1 : a_get (a_stl ls i (.long v)) (i + 1) = some .second := by
    unfold a_stl
    rw [a_get_set, if_pos ⟨rfl, by simp [hl2]; omega⟩]
  have hcat12 : ∀ w : Value, w.category ≠ 1 → w.category = 2 := fun w h => by cases w <;> simp_all [Value.category]
  have hl2g : ∀ k x, a_get (a_l2 ls i) k = some (.val x) → isUnk x = false → a_get ls k = some (.val x) ∧ (k + 1 = i → x.category = 1) := by
    intro k x hk hu
    unfold a_l2 at hk
    split at hk
    · rename_i hs
      split at hk
      · rename_i y hy
        rw [a_get_set] at hk
        by_cases hki : k = i - 1 ∧ i - 1 < ls.length
        · rw [if_pos hki] at hk
          obtain rfl := Slot.val.inj (Option.some.inj hk)
          cases hu
        · rw [if_neg hki] at hk
          exact ⟨hk, fun hk1 => absurd ⟨by omega, by omega⟩ hki⟩
      · rename_i hy
        refine ⟨hk, fun hk1 => ?_⟩
        exact absurd (by rw [show i - 1 = k by omega]; exact hk) (hy x)
    · rename_i hs
      refine ⟨hk, fun hk1 => ?_⟩
      rcases Classical.em (x.category = 1) with h1 | h1
      · exact h1
      · exact absurd (by rw [← hk1]; exact hw k x hk (hcat12 x h1)) hs
  refine ⟨⟨by rw [hlen]; exact h'.1, h'.2.1, fun q hq => ?_⟩, ?_, hlen⟩
  · obtain ⟨k, w⟩ := q
    obtain ⟨x, hx, hu, rfl⟩ := kn_of hq
    by_cases hk : k = i
    · subst hk
      rw [hgi] at hx
      obtain rfl := Slot.val.inj (Option.some.inj hx)
      exact h'.2.2 _ List.mem_cons_self
    · by_cases hk2 : k = i + 1
      · subst hk2
        rw [hgi1] at hx
        cases hx
      · rw [hget k hk hk2] at hx
        obtain ⟨hx', hcat⟩ := hl2g k x hx hu
        refine h'.2.2 _ (List.mem_cons_of_mem _ (List.mem_filter.mpr ⟨kn_mem hx' hu, ?_⟩))
        by_cases hk1 : k + 1 = i
        · have := hcat hk1
          simp [hk, hk1, hk2, cvv_cat hf, this]
        · simp [hk, hk1, hk2]
  · intro k x hk hx2
    by_cases hki : k = i
    · subst hki
      exact hgi1
    · by_cases hk2 : k = i + 1
      · subst hk2
        rw [hgi1] at hk
        cases hk
      · rw [hget k hki hk2] at hk
        have hu : isUnk x = false := by cases x <;> simp_all [Value.category, isUnk]
        obtain ⟨hx', hcat⟩ := hl2g k _ hk hu
        have hk1 : k + 1 ≠ i := fun q => by have := hcat q; rw [this] at hx2; cases hx2
        rw [hget (k + 1) hk1 (by omega)]
        have hs := hw k x hx' hx2
        unfold a_l2
        split
        · split
          · rename_i y hy
            rw [a_get_set]
            by_cases hz : k + 1 = i - 1 ∧ i - 1 < ls.length
            · rw [← hz.1, hs] at hy
              cases hy
            · rw [if_neg hz]; exact hs
          · exact hs
        · exact hs
