/-! SOUNDNESS: the check of the tables, and what it gives -/
theorem a_wd_mem {i : Nat} {w : Cond} (h : a_wd i = some w) : w ∈ lw_tbl := by
  have ht : ∀ {l : List Cond}, (∀ w ∈ l, w ∈ tables_1) → ∀ {k : Nat}, l[k]? = some w → w ∈ lw_tbl := fun {l} hl {k} hk => List.mem_append_right _ (hl _ (List.mem_of_getElem? hk))
  have hT : tables_1 = tables_1_1 ++ (tables_1_2 ++ (tables_1_3 ++ (tables_1_4 ++ (tables_1_5 ++ (tables_1_6 ++ (tables_1_7 ++ (tables_1_8 ++ (tables_1_9 ++ tables_1_10)))))))) := rfl
  unfold a_wd at h
  have hc : ∀ {b : Bool} {x y : Option Cond}, (bif b then x else y) = some w → x = some w ∨ y = some w := fun {b x y} h => by cases b <;> simp_all
  rcases hc h with h | h
  · exact List.mem_append_left _ (List.mem_of_getElem? h)
  · rcases hc h with h | h
    · exact ht (l := tables_1_10) (fun w hw => by rw [hT]; simp [hw]) h
    · rcases hc h with h | h
      · exact ht (l := tables_1_9) (fun w hw => by rw [hT]; simp [hw]) h
      · rcases hc h with h | h
        · exact ht (l := tables_1_8) (fun w hw => by rw [hT]; simp [hw]) h
        · rcases hc h with h | h
          · exact ht (l := tables_1_7) (fun w hw => by rw [hT]; simp [hw]) h
          · rcases hc h with h | h
            · exact ht (l := tables_1_6) (fun w hw => by rw [hT]; simp [hw]) h
            · rcases hc h with h | h
              · exact ht (l := tables_1_5) (fun w hw => by rw [hT]; simp [hw]) h
              · rcases hc h with h | h
                · exact ht (l := tables_1_4) (fun w hw => by rw [hT]; simp [hw]) h
                · rcases hc h with h | h
                  · exact ht (l := tables_1_3) (fun w hw => by rw [hT]; simp [hw]) h
                  · rcases hc h with h | h
                    · exact ht (l := tables_1_2) (fun w hw => by rw [hT]; simp [hw]) h
                    · exact ht (l := tables_1_1) (fun w hw => by rw [hT]; simp [hw]) h
def inW (i : Nat) (w : Cond) : Bool := decide (a_wd i = some w) && goodWord w
def inW2 (i : Nat) (w : Cond) : Bool := decide (a_wd i = some w) && a_W2k w
theorem inW_ok {i : Nat} {w : Cond} (h : inW i w = true) : w ∈ a_W := by
  unfold inW at h
  rw [Bool.and_eq_true] at h
  exact List.mem_filter.mpr ⟨a_wd_mem (of_decide_eq_true h.1), h.2⟩
theorem inW2_ok {i : Nat} {w : Cond} (h : inW2 i w = true) : w ∈ a_W2 := by
  unfold inW2 at h
  rw [Bool.and_eq_true] at h
  exact List.mem_filter.mpr ⟨a_wd_mem (of_decide_eq_true h.1), h.2⟩
/-- the kind of a method: 0 static, 1 static with handlers, 3 virtual, 4 ordinal, 5 a constructor -/
def a_kd (c : Nat) : Nat := if (a_mt c).2.2.1 = 0 then (if a_hs c = [] then 0 else 1) else if (a_name c).name = "<init>" then 5 else if (a_mt c).2.2.1 = 40 then 4 else 3
/-- what a call asks of the tables apart from its link -/
def calS (c : Nat) : Bool :=
  plainName (a_name c).cls && decide ((a_name c).cls = a_own c) && Nat.ble (a_mt c).1 20 && decide ((a_name c).cls ≠ "java/lang/invoke/MethodHandle") && decide ((a_name c).cls ≠ "java/lang/invoke/VarHandle") && decide ((parseMethodDescriptor (a_name c).desc).map (fun d => d.parameters.length) = some ((a_mt c).2.1 - (if (a_mt c).2.2.1 = 0 then 0 else 1))) && inW (a_ix c).2.2.2 (.initialized (a_name c).cls) &&
  (match a_kd c with
  | 1 => inW (a_ix c).1 (.codeWith (a_name c) (a_bytes c) (a_mt c).1 (a_rt c) (a_hs c))
  | _ => decide (a_hs c = []) && inW (a_ix c).1 (.code (a_name c) (a_bytes c) (a_mt c).1 (a_rt c))) &&
  (match a_kd c with
  | 0 => Nat.beq (a_mt c).2.2.1 0 && inW (a_ix c).2.1 (.static (a_name c))
  | 1 => Nat.beq (a_mt c).2.2.1 0 && inW (a_ix c).2.1 (.static (a_name c))
  | 3 => ((Nat.ble 1 (a_mt c).2.2.1 && Nat.ble (a_mt c).2.2.1 12) || Nat.beq (a_mt c).2.2.1 41) && Nat.ble 1 (a_mt c).2.1 && inW (a_ix c).2.1 (.instanceMethod (a_name c)) && inW (a_ix c).2.2.1 (.selects (a_rc (a_mt c).2.2.1) (a_name c) (a_name c))
  | 4 => Nat.beq (a_mt c).2.2.1 40 && Nat.ble 1 (a_mt c).2.1 && decide (a_name c = ⟨"java/lang/Enum", "ordinal", "()I"⟩) && inW a_six (.sameMethod "YieldedHours$Word" "java/lang/Enum" "ordinal" "()I") && inW (a_ix c).2.2.1 (.selects "YieldedHours$Word" ⟨"YieldedHours$Word", "ordinal", "()I"⟩ (a_name c)) && inW (a_ix c).2.1 (.instanceMethod (a_name c))
  | _ => Nat.ble 1 (a_mt c).2.2.1 && Nat.ble (a_mt c).2.2.1 12 && Nat.ble 1 (a_mt c).2.1 && decide (a_rt c = none) && decide ((a_name c).name = "<init>") && inW (a_ix c).2.1 (.instanceMethod (a_name c)))
/-- the link of a call -/
def calL (mi index c wi nest : Nat) : Bool := match nest with
  | 0 => (match a_kd c with
    | 4 => inW wi (.methodLink (a_own mi) index ⟨"YieldedHours$Word", "ordinal", "()I"⟩)
    | _ => inW wi (.methodLink (a_own mi) index (a_name c)))
  | _ => (match a_wd wi with
    | some (.methodLinkNest _ _ _ host) => inW2 wi (.methodLinkNest (a_own mi) index (a_name c) host)
    | _ => false)
/-- the kind of a call -/
def calK (c nest : Nat) : Nat := match nest with
  | 0 => a_kd c
  | _ => match a_kd c with
    | 0 => 2
    | _ => 6
theorem cal_ok {mi index c wi nest : Nat} (hs : calS c = true) (hl : calL mi index c wi nest = true) (hk : nest = 0 ∨ a_kd c = 0 ∨ a_kd c = 5) : calW mi index c (calK c nest) := by
  have hkd : a_kd c = 0 ∨ a_kd c = 1 ∨ a_kd c = 3 ∨ a_kd c = 4 ∨ a_kd c = 5 := by
    unfold a_kd
    split
    · split
      · exact Or.inl rfl
      · exact Or.inr (Or.inl rfl)
    · split
      · exact Or.inr (Or.inr (Or.inr (Or.inr rfl)))
      · split
        · exact Or.inr (Or.inr (Or.inr (Or.inl rfl)))
        · exact Or.inr (Or.inr (Or.inl rfl))
  unfold calS at hs
  simp only [Bool.and_eq_true, decide_eq_true_eq] at hs
  obtain ⟨⟨⟨⟨⟨⟨⟨⟨h1, h2⟩, h3⟩, h4⟩, h5⟩, h6⟩, h7⟩, h8⟩, h9⟩ := hs
  refine ⟨h1, h2, Nat.le_of_ble_eq_true h3, ⟨h4, h5⟩, h6, inW_ok h7, ?_, ?_⟩
  · unfold calK
    rcases hkd with e | e | e | e | e <;> rw [e] at h8 ⊢ <;> simp only at h8 ⊢
    · simp only [Bool.and_eq_true, decide_eq_true_eq] at h8
      cases nest <;> exact ⟨h8.1, inW_ok h8.2⟩
    · rcases hk with rfl | hk | hk
      · exact inW_ok h8
      · rw [hk] at e; cases e
      · rw [hk] at e; cases e
    · simp only [Bool.and_eq_true, decide_eq_true_eq] at h8
      cases nest <;> exact ⟨h8.1, inW_ok h8.2⟩
    · simp only [Bool.and_eq_true, decide_eq_true_eq] at h8
      cases nest <;> exact ⟨h8.1, inW_ok h8.2⟩
    · simp only [Bool.and_eq_true, decide_eq_true_eq] at h8
      cases nest <;> exact ⟨h8.1, inW_ok h8.2⟩
  · unfold calL at hl
    unfold calK
    rcases hkd with e | e | e | e | e <;> rw [e] at h9 hl ⊢ <;> simp only at h9 hl ⊢
    · simp only [Bool.and_eq_true] at h9
      cases nest with
      | zero => exact ⟨Nat.eq_of_beq_eq_true h9.1, inW_ok hl, inW_ok h9.2⟩
      | succ n =>
        simp only at hl
        split at hl
        · exact ⟨Nat.eq_of_beq_eq_true h9.1, ⟨_, inW2_ok hl⟩, inW_ok h9.2⟩
        · cases hl
    · simp only [Bool.and_eq_true] at h9
      rcases hk with rfl | hk | hk
      · exact ⟨Nat.eq_of_beq_eq_true h9.1, inW_ok hl, inW_ok h9.2⟩
      · rw [hk] at e; cases e
      · rw [hk] at e; cases e
    · simp only [Bool.and_eq_true, Bool.or_eq_true] at h9
      rcases hk with rfl | hk | hk
      · exact ⟨h9.1.1.1.imp (fun z => ⟨Nat.le_of_ble_eq_true z.1, Nat.le_of_ble_eq_true z.2⟩) (fun z => Nat.eq_of_beq_eq_true z), Nat.le_of_ble_eq_true h9.1.1.2, inW_ok hl, inW_ok h9.1.2, inW_ok h9.2⟩
      · rw [hk] at e; cases e
      · rw [hk] at e; cases e
    · simp only [Bool.and_eq_true, decide_eq_true_eq] at h9
      rcases hk with rfl | hk | hk
      · exact ⟨Nat.eq_of_beq_eq_true h9.1.1.1.1.1, Nat.le_of_ble_eq_true h9.1.1.1.1.2, h9.1.1.1.2, inW_ok hl, inW_ok h9.1.1.2, inW_ok h9.1.2, inW_ok h9.2⟩
      · rw [hk] at e; cases e
      · rw [hk] at e; cases e
    · simp only [Bool.and_eq_true, decide_eq_true_eq] at h9
      cases nest with
      | zero => exact ⟨⟨Nat.le_of_ble_eq_true h9.1.1.1.1.1, Nat.le_of_ble_eq_true h9.1.1.1.1.2⟩, Nat.le_of_ble_eq_true h9.1.1.1.2, h9.1.1.2, h9.1.2, inW_ok hl, inW_ok h9.2⟩
      | succ n =>
        simp only at hl
        split at hl
        · exact ⟨⟨Nat.le_of_ble_eq_true h9.1.1.1.1.1, Nat.le_of_ble_eq_true h9.1.1.1.1.2⟩, Nat.le_of_ble_eq_true h9.1.1.1.2, h9.1.1.2, h9.1.2, ⟨_, inW2_ok hl⟩, inW_ok h9.2⟩
        · cases hl
/-- the first row of a table that takes kind k at pc, the rows ahead not taking it -/
def hndF (mi pc k hp i : Nat) : List ExceptionTableEntry → Bool
  | [] => false
  | x :: l => if covers x pc && inW (a_hix x.catchType) (.classLink (a_own mi) x.catchType (a_exn k)) then (decide (x.catchType ≠ 0) && inW2 (a_kix k) (.castable (a_exn k) (a_exn k)) && Nat.blt i (a_mt mi).1 && (match decode (a_bytes mi) x.handlerPc with
      | .ok (.astore_n k', 1) => Nat.beq (k' : Nat) i && Nat.beq (x.handlerPc + 1) hp
      | .ok (.astore j, 2) => Nat.beq j i && Nat.beq (x.handlerPc + 2) hp
      | _ => false))
    else (!(covers x pc) || (decide (x.catchType ≠ 0) && decide (a_exn k = "java/lang/IllegalArgumentException") && inW (a_hix x.catchType) (.classLink (a_own mi) x.catchType "java/util/NoSuchElementException"))) && hndF mi pc k hp i l
theorem hndF_ok {mi pc k hp i : Nat} : ∀ (l : List ExceptionTableEntry), hndF mi pc k hp i l = true → ∃ (pre : List ExceptionTableEntry) (x : ExceptionTableEntry) (suf : List ExceptionTableEntry), l = pre ++ x :: suf ∧ covers x pc = true ∧ x.catchType ≠ 0 ∧ Cond.classLink (a_own mi) x.catchType (a_exn k) ∈ a_W ∧ Cond.castable (a_exn k) (a_exn k) ∈ a_W2 ∧ (∀ z ∈ pre, covers z pc = false ∨ (z.catchType ≠ 0 ∧ a_exn k = "java/lang/IllegalArgumentException" ∧ Cond.classLink (a_own mi) z.catchType "java/util/NoSuchElementException" ∈ a_W)) ∧ ((∃ k' : Fin 4, (k' : Nat) = i ∧ decode (a_bytes mi) x.handlerPc = .ok (.astore_n k', 1) ∧ x.handlerPc + 1 = hp) ∨ (decode (a_bytes mi) x.handlerPc = .ok (.astore i, 2) ∧ x.handlerPc + 2 = hp)) ∧ i < (a_mt mi).1
  | [], h => by cases h
  | x :: l, h => by
    unfold hndF at h
    split at h
    · rename_i hc
      obtain ⟨hc1, hc2⟩ := (Bool.and_eq_true _ _).mp hc
      simp only [Bool.and_eq_true, decide_eq_true_eq] at h
      obtain ⟨⟨⟨h1, h2⟩, h3⟩, h4⟩ := h
      refine ⟨[], x, l, rfl, hc1, h1, inW_ok hc2, inW2_ok h2, fun z hz => (by cases hz), ?_, Nat.le_of_ble_eq_true h3⟩
      split at h4
      · rename_i k' hd
        simp only [Bool.and_eq_true] at h4
        exact Or.inl ⟨k', Nat.eq_of_beq_eq_true h4.1, hd, Nat.eq_of_beq_eq_true h4.2⟩
      · rename_i j hd
        simp only [Bool.and_eq_true] at h4
        have := Nat.eq_of_beq_eq_true h4.1
        subst this
        exact Or.inr ⟨hd, Nat.eq_of_beq_eq_true h4.2⟩
      · cases h4
    · simp only [Bool.and_eq_true, Bool.or_eq_true, Bool.not_eq_true', decide_eq_true_eq] at h
      obtain ⟨pre, y, suf, h1, h2, h3, h4, h5, h6, h7, h8⟩ := hndF_ok l h.2
      refine ⟨x :: pre, y, suf, by rw [h1]; rfl, h2, h3, h4, h5, fun z hz => ?_, h7, h8⟩
      rcases List.mem_cons.mp hz with rfl | hz
      · rcases h.1 with q | q
        · exact Or.inl q
        · exact Or.inr ⟨q.1.1, q.1.2, inW_ok q.2⟩
      · exact h6 z hz
def hndC (mi pc k : Nat) : Bool := match a_hnd mi pc k with
  | none => true
  | some (hp, i) => hndF mi pc k hp i (tableOf (a_hs mi))
theorem hndC_ok {mi pc k hp i : Nat} (hc : hndC mi pc k = true) (h : a_hnd mi pc k = some (hp, i)) : hndOK mi pc k hp i := by
  unfold hndC at hc
  rw [h] at hc
  exact hndF_ok _ hc
theorem hnd_3 (mi pc k : Nat) (h : 3 ≤ k) : a_hnd mi pc k = none := by
  have h1 : Nat.beq k 1 = false := by
    cases hb : Nat.beq k 1 with
    | false => rfl
    | true => have := Nat.eq_of_beq_eq_true hb; omega
  have h2 : Nat.beq k 2 = false := by
    cases hb : Nat.beq k 2 with
    | false => rfl
    | true => have := Nat.eq_of_beq_eq_true hb; omega
  simp only [a_hnd, h1, h2, Bool.and_false, cond_false, Bool.cond_self]
theorem hnd_all {mi pc : Nat} (h1 : hndC mi pc 1 = true) (h2 : hndC mi pc 2 = true) : ∀ hp i k, a_hnd mi pc (k + 1) = some (hp, i) → hndOK mi pc (k + 1) hp i := by
  intro hp i k h
  rcases k with _ | _ | k
  · exact hndC_ok h1 h
  · exact hndC_ok h2 h
  · rw [hnd_3 mi pc (k + 1 + 1 + 1) (by omega)] at h; cases h
/-- decoding -/
def dcd (mi pc : Nat) (ins : Instr) (len : Nat) : Bool := decide (decode (a_bytes mi) pc = .ok (ins, len))
/-- a target -/
def tgt (pc : Nat) (off : Int) : Bool := decide ((pc : Int) + off = (a_tg pc off : Int))
def fldC (mi index : Nat) (x : Nat × Nat × Nat) : Bool := (Nat.ble 1 x.1 && Nat.ble x.1 12 && Nat.blt x.2.1 (a_fl x.1).length && inW x.2.2 (.fieldLink (a_own mi) index (a_T x.1 x.2.1).1 (a_T x.1 x.2.1).2.1 (a_T x.1 x.2.1).2.2.1)) || (((Nat.beq x.1 40 && Nat.blt x.2.1 3) || (Nat.beq x.1 41 && Nat.blt x.2.1 2)) && inW x.2.2 (.fieldLink (a_own mi) index (a_cT x.1 x.2.1).1 (a_cT x.1 x.2.1).2.1 (a_cT x.1 x.2.1).2.2))
theorem fldC_ok {mi index : Nat} {x : Nat × Nat × Nat} (h : fldC mi index x = true) : fldW mi index x := by
  unfold fldC at h
  simp only [Bool.or_eq_true, Bool.and_eq_true] at h
  rcases h with ⟨⟨⟨h1, h2⟩, h3⟩, h4⟩ | ⟨h1, h2⟩
  · exact Or.inl ⟨Nat.le_of_ble_eq_true h1, Nat.le_of_ble_eq_true h2, Nat.le_of_ble_eq_true h3, inW_ok h4⟩
  · exact Or.inr ⟨h1.imp (fun z => ⟨Nat.eq_of_beq_eq_true z.1, Nat.le_of_ble_eq_true z.2⟩) (fun z => ⟨Nat.eq_of_beq_eq_true z.1, Nat.le_of_ble_eq_true z.2⟩), inW_ok h2⟩
def putC (mi index : Nat) (x : Nat × Nat × Nat) : Bool := Nat.ble 1 x.1 && Nat.ble x.1 12 && Nat.blt x.2.1 (a_fl x.1).length && inW x.2.2 (.fieldLink (a_own mi) index (a_T x.1 x.2.1).1 (a_T x.1 x.2.1).2.1 (a_T x.1 x.2.1).2.2.1) && (!(a_T x.1 x.2.1).2.2.2 || (decide ((a_name mi).name = "<init>") && decide ((a_T x.1 x.2.1).1 = a_own mi)))
theorem putC_ok {mi index : Nat} {x : Nat × Nat × Nat} (h : putC mi index x = true) : putW mi index x := by
  unfold putC at h
  simp only [Bool.or_eq_true, Bool.and_eq_true, Bool.not_eq_true', decide_eq_true_eq] at h
  obtain ⟨⟨⟨⟨h1, h2⟩, h3⟩, h4⟩, h5⟩ := h
  refine ⟨Nat.le_of_ble_eq_true h1, Nat.le_of_ble_eq_true h2, Nat.le_of_ble_eq_true h3, inW_ok h4, ?_⟩
  cases hf : (a_T x.1 x.2.1).2.2.2 with
  | false => exact Or.inl rfl
  | true =>
    rw [hf] at h5
    rcases h5 with h5 | h5
    · cases h5
    · exact Or.inr ⟨rfl, h5.1, h5.2⟩
def ldcC (mi index : Nat) (x : Nat × Nat × Nat) : Bool := (Nat.beq x.1 0 && inW x.2.2 (.constant (a_own mi) index (a_ci x.2.1))) || (Nat.beq x.1 1 && Nat.beq (a_kind x.2.1) 41 && a_Rs.any (fun q => decide (q.1 = a_own mi) && Nat.beq q.2.1 index && Nat.beq q.2.2.2 x.2.1))
theorem ldcC_ok {mi index : Nat} {x : Nat × Nat × Nat} (h : ldcC mi index x = true) : (x.1 = 0 ∧ Cond.constant (a_own mi) index (a_ci x.2.1) ∈ a_W) ∨ (x.1 = 1 ∧ a_kind x.2.1 = 41 ∧ ∃ tx, (a_own mi, index, tx, x.2.1) ∈ a_Rs) := by
  unfold ldcC at h
  simp only [Bool.or_eq_true, Bool.and_eq_true] at h
  rcases h with ⟨h1, h2⟩ | ⟨⟨h1, h2⟩, h3⟩
  · exact Or.inl ⟨Nat.eq_of_beq_eq_true h1, inW_ok h2⟩
  · refine Or.inr ⟨Nat.eq_of_beq_eq_true h1, Nat.eq_of_beq_eq_true h2, ?_⟩
    obtain ⟨⟨a, b, c, d⟩, hm, he⟩ := List.any_eq_true.mp h3
    simp only [Bool.and_eq_true, decide_eq_true_eq] at he
    obtain ⟨⟨e1, e2⟩, e3⟩ := he
    have e2 := Nat.eq_of_beq_eq_true e2
    have e3 := Nat.eq_of_beq_eq_true e3
    exact ⟨c, by rw [← e1, ← e2, ← e3]; exact hm⟩
def gsV (x : Nat × Nat × Nat) : Value := match Nat.beq x.1 0 with
  | true => .int (a_ci x.2.1)
  | false => .ref x.2.1
def gstC (mi index : Nat) (x : Nat × Nat × Nat) : Bool := match a_wd x.2.2 with
  | some (.fieldLink _ _ C n d) => a_Zs.contains (C, n, d, gsV x) && inW x.2.2 (.fieldLink (a_own mi) index C n d)
  | some (.fieldLinkNest _ _ C n d host) => a_Zs.contains (C, n, d, gsV x) && inW2 x.2.2 (.fieldLinkNest (a_own mi) index C n d host)
  | _ => false
theorem gstC_ok {mi index : Nat} {x : Nat × Nat × Nat} (h : gstC mi index x = true) : ∃ (q : String × String × String × Value), q ∈ a_Zs ∧ q.2.2.2 = (match Nat.beq x.1 0 with | true => .int (a_ci x.2.1) | false => .ref x.2.1) ∧ (Cond.fieldLink (a_own mi) index q.1 q.2.1 q.2.2.1 ∈ a_W ∨ ∃ host, Cond.fieldLinkNest (a_own mi) index q.1 q.2.1 q.2.2.1 host ∈ a_W2) := by
  unfold gstC at h
  split at h
  · rename_i a b C n d hw
    rw [Bool.and_eq_true] at h
    exact ⟨(C, n, d, gsV x), List.contains_iff_mem.mp h.1, rfl, Or.inl (inW_ok h.2)⟩
  · rename_i a b C n d host hw
    rw [Bool.and_eq_true] at h
    exact ⟨(C, n, d, gsV x), List.contains_iff_mem.mp h.1, rfl, Or.inr ⟨host, inW2_ok h.2⟩⟩
  · cases h
def newC (mi index : Nat) (x : Nat × Nat × Nat) : Bool := Nat.ble 1 x.1 && Nat.ble x.1 12 && Nat.beq x.2.1 (a_fl x.1).length && inW x.2.2 (.classLink (a_own mi) index (a_cn x.1)) && inW (a_cix x.1).1 (.instantiable (a_cn x.1) x.2.1) && inW (a_cix x.1).2 (.initialized (a_cn x.1))
theorem newC_ok {mi index : Nat} {x : Nat × Nat × Nat} (h : newC mi index x = true) : newW mi index x := by
  unfold newC at h
  simp only [Bool.and_eq_true] at h
  obtain ⟨⟨⟨⟨⟨h1, h2⟩, h3⟩, h4⟩, h5⟩, h6⟩ := h
  exact ⟨Nat.le_of_ble_eq_true h1, Nat.le_of_ble_eq_true h2, Nat.eq_of_beq_eq_true h3, inW_ok h4, inW_ok h5, inW_ok h6⟩
def thrC (mi pc index : Nat) (x : Nat × Nat × Nat) : Bool := Nat.beq x.1 200 && (Nat.beq x.2.1 1 || Nat.beq x.2.1 2) && decide (a_own mi = "YieldedHours") && decide (a_hs mi = []) && dcd mi (pc + 3) .dup 1 && dcd mi (pc + 4) (.invokespecial (a_exi x.2.1)) 3 && dcd mi (pc + 7) .athrow 1 && inW x.2.2 (.classLink "YieldedHours" index (a_exn x.2.1)) && inW (a_eix x.2.1) (.initialized (a_exn x.2.1))
theorem thrC_ok {mi pc index : Nat} {x : Nat × Nat × Nat} (h : thrC mi pc index x = true) : thrW mi pc index x := by
  unfold thrC at h
  simp only [Bool.and_eq_true, Bool.or_eq_true, decide_eq_true_eq] at h
  obtain ⟨⟨⟨⟨⟨⟨⟨⟨h1, h2⟩, h3⟩, h4⟩, h5⟩, h6⟩, h7⟩, h8⟩, h9⟩ := h
  exact ⟨Nat.eq_of_beq_eq_true h1, h2.imp Nat.eq_of_beq_eq_true Nat.eq_of_beq_eq_true, h3, h4, of_decide_eq_true h5, of_decide_eq_true h6, of_decide_eq_true h7, inW_ok h8, inW_ok h9⟩
def tabC (pc : Nat) (dflt lo hi : Int) (offs : Array Int) (x : Nat × Nat × Nat) : Bool := (a_swt x.1).all (fun q => decide (lo ≤ q.1.toInt) && decide (q.1.toInt ≤ hi) && decide (offs[(q.1.toInt - lo).toNat]? = some ((q.2 : Int) - pc))) && (List.range (hi - lo + 1).toNat).all (fun i => (a_swt x.1).any (fun q => decide (q.1.toInt = lo + (i : Int)))) && decide ((pc : Int) + dflt = (x.2.1 : Int))
theorem tabC_ok {pc : Nat} {dflt lo hi : Int} {offs : Array Int} {x : Nat × Nat × Nat} (h : tabC pc dflt lo hi offs x = true) : tabW pc dflt lo hi offs x := by
  unfold tabC at h
  simp only [Bool.and_eq_true, decide_eq_true_eq] at h
  refine ⟨fun q hq => ?_, fun i hi2 => ?_, h.2⟩
  · have := List.all_eq_true.mp h.1.1 q hq
    simp only [Bool.and_eq_true, decide_eq_true_eq] at this
    exact ⟨this.1.1, this.1.2, this.2⟩
  · obtain ⟨q, hq, he⟩ := List.any_eq_true.mp (List.all_eq_true.mp h.1.2 i (List.mem_range.mpr hi2))
    exact ⟨q, hq, of_decide_eq_true he⟩
def lokC (pc : Nat) (dflt : Int) (ps : Array (Int × Int)) (x : Nat × Nat × Nat) : Bool := (ps.toList.zip (ps.toList.drop 1)).all (fun (a, next) => a.1 < next.1) && (a_swt x.1).all (fun q => decide ((pc : Int) + Op.lookupswitch.offset ps.toList dflt q.1.toInt = (q.2 : Int))) && ps.toList.all (fun a => (a_swt x.1).any (fun q => decide (q.1.toInt = a.1))) && decide ((pc : Int) + dflt = (x.2.1 : Int))
theorem lokC_ok {pc : Nat} {dflt : Int} {ps : Array (Int × Int)} {x : Nat × Nat × Nat} (h : lokC pc dflt ps x = true) : lokW pc dflt ps x := by
  unfold lokC at h
  simp only [Bool.and_eq_true] at h
  refine ⟨h.1.1.1, fun q hq => of_decide_eq_true (List.all_eq_true.mp h.1.1.2 q hq), fun a ha => ?_, of_decide_eq_true h.2⟩
  obtain ⟨q, hq, he⟩ := List.any_eq_true.mp (List.all_eq_true.mp h.1.2 a ha)
  exact ⟨q, hq, of_decide_eq_true he⟩
def calC (mi pc index : Nat) (x : Nat × Nat × Nat) : Bool := Nat.blt x.1 383 && calL mi index x.1 x.2.2 x.2.1 && (Nat.beq x.2.1 0 || Nat.beq (a_kd x.1) 0 || Nat.beq (a_kd x.1) 5) && hndC mi pc 1 && hndC mi pc 2
/-- the check of one instruction -/
def a_chk (mi pc : Nat) : Bool := match a_pg mi pc with
  | (ins, x) => match ins with
    | .nop => true
    | .athrow => true
    | .iconst n => dcd mi pc (.iconst n) 1 && decide (Int32.ofInt n = a_ci x.2.1)
    | .bipush n => dcd mi pc (.bipush n) 2 && decide ((Int8.ofInt n).toInt32 = a_ci x.2.1)
    | .sipush n => dcd mi pc (.sipush n) 3 && decide ((Int16.ofInt n).toInt32 = a_ci x.2.1)
    | .iinc k n => dcd mi pc (.iinc k n) 3 && decide (Int32.ofInt n = a_ci x.2.1)
    | .iload k => dcd mi pc (.iload k) 2
    | .lload k => dcd mi pc (.lload k) 2
    | .aload k => dcd mi pc (.aload k) 2
    | .istore k => dcd mi pc (.istore k) 2
    | .lstore k => dcd mi pc (.lstore k) 2
    | .astore k => dcd mi pc (.astore k) 2
    | .goto o => dcd mi pc (.goto o) 3 && tgt pc o
    | .ifCond cn o => dcd mi pc (.ifCond cn o) 3 && tgt pc o
    | .if_icmp cn o => dcd mi pc (.if_icmp cn o) 3 && tgt pc o
    | .if_acmp cn o => dcd mi pc (.if_acmp cn o) 3 && tgt pc o
    | .ifnull o => dcd mi pc (.ifnull o) 3 && tgt pc o
    | .ifnonnull o => dcd mi pc (.ifnonnull o) 3 && tgt pc o
    | .tableswitch df lo hi offs => (match decode (a_bytes mi) pc with | .ok (_, len) => dcd mi pc (.tableswitch df lo hi offs) len | _ => false) && tabC pc df lo hi offs x
    | .lookupswitch df ps => (match decode (a_bytes mi) pc with | .ok (_, len) => dcd mi pc (.lookupswitch df ps) len | _ => false) && lokC pc df ps x
    | .getfield i => dcd mi pc (.getfield i) 3 && fldC mi i x
    | .putfield i => dcd mi pc (.putfield i) 3 && putC mi i x
    | .getstatic i => dcd mi pc (.getstatic i) 3 && gstC mi i x
    | .ldc i => dcd mi pc (.ldc i) 2 && ldcC mi i x
    | .ldc_w i => dcd mi pc (.ldc_w i) 3 && ldcC mi i x
    | .ldc2_w i => dcd mi pc (.ldc2_w i) 3 && inW x.2.2 (.constantLong (a_own mi) i (a_cl x.2.1))
    | .new i => dcd mi pc (.new i) 3 && (newC mi i x || thrC mi pc i x)
    | .newarray at_ => dcd mi pc (.newarray at_) 2 && ((decide (at_ = .int) && Nat.beq x.1 32) || (decide (at_ = .boolean) && Nat.beq x.1 33) || (decide (at_ = .long) && Nat.beq x.1 35))
    | .anewarray i => dcd mi pc (.anewarray i) 3 && inW x.2.2 (.classLink (a_own mi) i "YieldedHours$State")
    | .invokestatic i => Nat.beq x.1 997 || (dcd mi pc (.invokestatic i) 3 && ((Nat.beq x.1 999 && inW x.2.2 (.methodLink (a_own mi) i arraycopyName) && inW a_yix.1 (.native arraycopyName) && inW a_yix.2.1 (.static arraycopyName) && inW a_yix.2.2 (.initialized "java/lang/System")) || (calC mi pc i x && Nat.ble (a_kd x.1) 1)))
    | .invokespecial i => Nat.beq x.1 997 || (dcd mi pc (.invokespecial i) 3 && ((Nat.beq x.1 998 && inW x.2.2 (.methodLink (a_own mi) i Lib.objectInit) && inW a_oix.1 (.instanceMethod Lib.objectInit) && inW a_oix.2 (.code Lib.objectInit ⟨#[0xb1]⟩ 1 none)) || (calC mi pc i x && Nat.beq (a_kd x.1) 5)))
    | .invokevirtual i => Nat.beq x.1 997 || (dcd mi pc (.invokevirtual i) 3 && calC mi pc i x && Nat.beq x.2.1 0 && (Nat.beq (a_kd x.1) 3 || Nat.beq (a_kd x.1) 4))
    | .ireturn => dcd mi pc .ireturn 1 && decide (a_rtk (a_rt mi) = (a_mt mi).2.2.2.1) && (Nat.beq (a_mt mi).2.2.2.1 1 || Nat.beq (a_mt mi).2.2.2.1 2 || Nat.beq (a_mt mi).2.2.2.1 5 || Nat.beq (a_mt mi).2.2.2.1 6)
    | .lreturn => dcd mi pc .lreturn 1 && decide (a_rt mi = some .long)
    | .areturn => dcd mi pc .areturn 1 && decide (a_rtk (a_rt mi) = 4)
    | .return_ => dcd mi pc .return_ 1 && decide (a_rt mi = none)
    | i => dcd mi pc i 1
