/-! SOUNDNESS: fields, constants -/
theorem vw_at {ci : Nat} (h1 : 1 ≤ ci) (h2 : ci ≤ 12) : a_vw[ci - 1]? = some (a_cn ci, a_T ci, (a_fl ci).length) := by
  have : ci = 1 ∨ ci = 2 ∨ ci = 3 ∨ ci = 4 ∨ ci = 5 ∨ ci = 6 ∨ ci = 7 ∨ ci = 8 ∨ ci = 9 ∨ ci = 10 ∨ ci = 11 ∨ ci = 12 := by omega
  rcases this with h | h | h | h | h | h | h | h | h | h | h | h <;> subst h <;> rfl
theorem sz_fl {id : Nat} (h1 : 1 ≤ a_kind id) (h2 : a_kind id ≤ 12) : a_sz id = (a_fl (a_kind id)).length := by
  by_cases hid : id < 2816
  · exact co_dec (N := 2816) (P := fun id => 1 ≤ a_kind id → a_kind id ≤ 12 → a_sz id = (a_fl (a_kind id)).length) (by decide +kernel) hid h1 h2
  · rw [a_big (by omega)] at h1; omega
/-- the field of a constant object -/
def a_cT (ci k : Nat) : String × String × String := match ci, k with
  | 40, 0 => ("YieldedHours$Word", "text", "Ljava/lang/String;")
  | 40, 1 => ("YieldedHours$Word", "slot", "I")
  | 40, _ => ("java/lang/Enum", "ordinal", "I")
  | _, 0 => ("java/lang/String", "value", "[B")
  | _, _ => ("java/lang/String", "coder", "B")
theorem of_con {id k : Nat} (h : a_kind id = 40 ∧ k < 3 ∨ a_kind id = 41 ∧ k < 2) : ((a_cT (a_kind id) k).1, (a_cT (a_kind id) k).2.1, (a_cT (a_kind id) k).2.2, a_cf id k, id) ∈ a_OFs := by
  have hid : id < 2816 := by
    by_cases hid : id < 2816
    · exact hid
    · rw [a_big (by omega)] at h; omega
  have h1 := co_dec (N := 2816) (P := fun id => a_kind id = 40 → (List.range 3).all (fun k => a_OFs.contains ((a_cT 40 k).1, (a_cT 40 k).2.1, (a_cT 40 k).2.2, a_cf id k, id)) = true) (by decide +kernel) hid
  have h2 := co_dec (N := 2816) (P := fun id => a_kind id = 41 → (List.range 2).all (fun k => a_OFs.contains ((a_cT 41 k).1, (a_cT 41 k).2.1, (a_cT 41 k).2.2, a_cf id k, id)) = true) (by decide +kernel) hid
  rcases h with ⟨hk, hl⟩ | ⟨hk, hl⟩
  · rw [hk]; exact List.contains_iff_mem.mp (List.all_eq_true.mp (h1 hk) k (List.mem_range.mpr hl))
  · rw [hk]; exact List.contains_iff_mem.mp (List.all_eq_true.mp (h2 hk) k (List.mem_range.mpr hl))
theorem fk_tab {ci k : Nat} (h1 : 1 ≤ ci) (h2 : ci ≤ 12) (hk : k < (a_fl ci).length) : ((a_fk ci k).1 = 0 ∧ (a_T ci k).2.2.1 = "I" ∧ (a_T ci k).2.2.2 = false) ∨ ((a_fk ci k).1 = 1 ∧ (a_T ci k).2.2.2 = true) ∨ ((a_fk ci k).1 = 2 ∧ (a_T ci k).2.2.2 = false ∧ (a_fk ci k).2 < 6) := by
  have h := co_dec (N := 13) (P := fun ci => 1 ≤ ci → (List.range (a_fl ci).length).all (fun k => (Nat.beq (a_fk ci k).1 0 && decide ((a_T ci k).2.2.1 = "I") && !(a_T ci k).2.2.2) || (Nat.beq (a_fk ci k).1 1 && (a_T ci k).2.2.2) || (Nat.beq (a_fk ci k).1 2 && !(a_T ci k).2.2.2 && Nat.blt (a_fk ci k).2 6)) = true) (by decide +kernel) (show ci < 13 by omega) h1
  have h3 := List.all_eq_true.mp h k (List.mem_range.mpr hk)
  simp only [Bool.or_eq_true, Bool.and_eq_true, decide_eq_true_eq, Bool.not_eq_true'] at h3
  rcases h3 with (⟨⟨h3, h4⟩, h5⟩ | ⟨h3, h4⟩) | ⟨⟨h3, h4⟩, h5⟩
  · exact Or.inl ⟨Nat.eq_of_beq_eq_true h3, h4, h5⟩
  · exact Or.inr (Or.inl ⟨Nat.eq_of_beq_eq_true h3, h4⟩)
  · exact Or.inr (Or.inr ⟨Nat.eq_of_beq_eq_true h3, h4, Nat.le_of_ble_eq_true h5⟩)
def a_ty (ci k : Nat) : FieldType := (parseFieldDescriptor (a_T ci k).2.2.1).getD .int
theorem ty_tab {ci : Nat} (h1 : 1 ≤ ci) (h2 : ci ≤ 12) : ∀ k, k < (a_fl ci).length → parseFieldDescriptor (a_T ci k).2.2.1 = some (a_ty ci k) := by
  have h := co_dec (N := 13) (P := fun ci => 1 ≤ ci → (List.range (a_fl ci).length).all (fun k => decide (parseFieldDescriptor (a_T ci k).2.2.1 = some (a_ty ci k))) = true) (by decide +kernel) (show ci < 13 by omega) h1
  intro k hk
  exact of_decide_eq_true (List.all_eq_true.mp h k (List.mem_range.mpr hk))
theorem nm_tab {ci : Nat} (h1 : 1 ≤ ci) (h2 : ci ≤ 12) : ∀ a, a < (a_fl ci).length → ∀ b, b < (a_fl ci).length → a ≠ b → (a_T ci a).2.1 ≠ (a_T ci b).2.1 := by
  have h := co_dec (N := 13) (P := fun ci => 1 ≤ ci → (List.range (a_fl ci).length).all (fun a => (List.range (a_fl ci).length).all (fun b => Nat.beq a b || decide ((a_T ci a).2.1 ≠ (a_T ci b).2.1))) = true) (by decide +kernel) (show ci < 13 by omega) h1
  intro a ha b hb hab
  have h3 := List.all_eq_true.mp (List.all_eq_true.mp h a (List.mem_range.mpr ha)) b (List.mem_range.mpr hb)
  simp only [Bool.or_eq_true, decide_eq_true_eq] at h3
  rcases h3 with h3 | h3
  · exact absurd (Nat.eq_of_beq_eq_true h3) hab
  · exact h3
theorem cn_tab {ci : Nat} (h1 : 1 ≤ ci) (h2 : ci ≤ 12) : ∀ k, k < (a_fl ci).length → (a_T ci k).1 = a_cn ci := by
  have h := co_dec (N := 13) (P := fun ci => 1 ≤ ci → (List.range (a_fl ci).length).all (fun k => decide ((a_T ci k).1 = a_cn ci)) = true) (by decide +kernel) (show ci < 13 by omega) h1
  intro k hk
  exact of_decide_eq_true (List.all_eq_true.mp h k (List.mem_range.mpr hk))
/-- the numbers' fields lie at keys of the object -/
theorem key_fld {id k q : Nat} (h1 : 1 ≤ a_kind id) (h2 : a_kind id ≤ 12) (hk : k < (a_fl (a_kind id)).length) (hf : a_fk (a_kind id) k = (0, q)) : 64 * (a_reg id + q) + a_loc id ∈ keys id := by
  unfold keys
  rw [if_neg (by omega)]
  have hl := co_dec (N := 13) (P := fun ci => 1 ≤ ci → (a_fl ci).length = (a_nth a_fkt [] ci).length) (by decide +kernel) (show a_kind id < 13 by omega) h1
  have hm : (0, q) ∈ a_nth a_fkt [] (a_kind id) := by
    have hg : ∀ {l : List (Nat × Nat)} {k : Nat}, k < l.length → a_nth l (9, 0) k ∈ l := by
      intro l
      induction l with
      | nil => intro k hk; cases hk
      | cons a l ih =>
        intro k hk
        cases k with
        | zero => exact List.mem_cons_self
        | succ k => exact List.mem_cons_of_mem _ (ih (by simpa using hk))
    have := hg (l := a_nth a_fkt [] (a_kind id)) (k := k) (by omega)
    rw [← hf]
    exact this
  exact List.mem_filterMap.mpr ⟨_, hm, by simp⟩
section FLD
variable {G : AG} {p : Program} {l : Launch} {e : Env} {R : Room} {s : State} {m : MethodId} {args : Array Value} {below : List Frame} {meth : Method} {c : Code} {H : Heap} {locs : List Loc} {cells slots mc ms : Nat} {arr : Array Slot} {d gc gs mi pc : Nat} {ls : List Slot} {st : List Value} {μ : AM} {o : AOut} {rec : ACfg → Option AOut} {x : Nat × Nat × Nat}
/-- a field's word: of our classes, or of a constant object -/
def fldW (mi index : Nat) (x : Nat × Nat × Nat) : Prop := (1 ≤ x.1 ∧ x.1 ≤ 12 ∧ x.2.1 < (a_fl x.1).length ∧ Cond.fieldLink (a_own mi) index (a_T x.1 x.2.1).1 (a_T x.1 x.2.1).2.1 (a_T x.1 x.2.1).2.2.1 ∈ a_W) ∨ ((x.1 = 40 ∧ x.2.1 < 3 ∨ x.1 = 41 ∧ x.2.1 < 2) ∧ Cond.fieldLink (a_own mi) index (a_cT x.1 x.2.1).1 (a_cT x.1 x.2.1).2.1 (a_cT x.1 x.2.1).2.2 ∈ a_W)
theorem fk_con {ci k : Nat} (h : ci = 40 ∧ k < 3 ∨ ci = 41 ∧ k < 2) : a_fk ci k = (3, 0) := by
  have : (ci = 40 ∧ k = 0) ∨ (ci = 40 ∧ k = 1) ∨ (ci = 40 ∧ k = 2) ∨ (ci = 41 ∧ k = 0) ∨ (ci = 41 ∧ k = 1) := by omega
  rcases this with ⟨rfl, rfl⟩ | ⟨rfl, rfl⟩ | ⟨rfl, rfl⟩ | ⟨rfl, rfl⟩ | ⟨rfl, rfl⟩ <;> rfl
theorem fs_get {f : Nat → Value} {n k : Nat} (h : k < n) : ((List.range n).map f)[k]? = some (f k) := by
  rw [List.getElem?_map, List.getElem?_range h]; rfl
theorem OP_getfield {index : Nat} (hS : SN G l rec) (hx : CX G p l R s m args meth c H locs cells slots mc ms arr d gc gs mi ls μ) (hd : decode (a_bytes mi) pc = .ok (.getfield index, 3)) (hw : fldW mi index x) (h : a_ins rec (.getfield index) d gc gs mi pc ls st μ x = some o) : GO G p l e R s m args below meth c H locs cells slots mc ms arr pc st o := by
  obtain ⟨cnt, asg, L, Is, Rs, Lg⟩ := μ
  obtain ⟨hA, hW, hV, hrest⟩ := id hx
  obtain ⟨ci, k, wi⟩ := x
  simp only [a_ins] at h
  split at h
  · rename_i id r
    unfold a_getf at h
    simp only at h
    split at h
    · rename_i hb
      simp only [Bool.and_eq_true] at hb
      have hk := Nat.eq_of_beq_eq_true hb.1
      subst hk
      show W p l e R s m args below meth c H locs cells slots _ (F0 m pc arr (cv G (.ref id) :: r.map (cv G)))
      rcases hw with ⟨h1, h2, h3, hw⟩ | ⟨hc, hw⟩
      · simp only at h1 h2 h3 hw
        have h0 : a_sq id ≠ 0 := kind_sq (by omega) (by omega)
        have hg := wsOf_get G (cnt, asg, L, Is, Rs, Lg) h0 (live_le hb.2)
        rw [ent_o G _ (by omega)] at hg
        rw [cv_live h0]
        refine va_get (own := a_own mi) (ref := (a_T (a_kind id) k).1) hA.1 hA.2.1 hA.wd (a_lay (vw_at h1 h2)) hA.own hA.sf.K hW.1 _ hg (vw_at h1 h2) k h3 (hA.wd _ hw) (fun x h => h) (v := fval G (cnt, asg, L, Is, Rs, Lg) id (a_kind id) k) (fs_get (by rw [sz_fl h1 h2]; exact h3)) hd ?_
        cases hfk : a_fk (a_kind id) k with
        | mk kd q =>
        rw [hfk] at h
        simp only at h
        have hfv : ∀ v, fval G (cnt, asg, L, Is, Rs, Lg) id (a_kind id) k = cv G v → rec (d, gc, gs, mi, pc + 3, ls, v :: r, (cnt, asg, L, Is, Rs, Lg)) = some o → W p l e R s m args below meth c H locs cells slots (vx_MQ below (QC G o) (XC G o) args s mc ms (g_A G)) (F0 m (pc + 3) arr (fval G (cnt, asg, L, Is, Rs, Lg) id (a_kind id) k :: List.map (cv G) r)) := fun v he hr => by
          rw [he]
          exact hS hr hx
        split at h
        · rename_i hkd
          have hkd := Nat.eq_of_beq_eq_true hkd
          subst hkd
          refine hfv _ ?_ h
          unfold fval
          simp only [hfk]
          rfl
        · split at h
          · rename_i hkd
            have hkd := Nat.eq_of_beq_eq_true hkd
            subst hkd
            split at h
            · rename_i hle
              refine hfv _ ?_ h
              unfold fval
              simp only [hfk]
              rw [if_pos (Nat.le_of_ble_eq_true hle)]
            · cases h
          · split at h
            · rename_i hkd
              have hkd := Nat.eq_of_beq_eq_true hkd
              subst hkd
              refine hfv _ ?_ h
              unfold fval
              simp only [hfk]
            · rename_i b1 n1 b2 n2 b3 n3
              exfalso
              have := fk_tab h1 h2 h3
              rw [hfk] at this
              simp only at this
              have m1 : kd ≠ 0 := fun z => by rw [z] at n1; exact absurd n1 (by decide)
              have m2 : kd ≠ 1 := fun z => by rw [z] at n2; exact absurd n2 (by decide)
              have m3 : kd ≠ 2 := fun z => by rw [z] at n3; exact absurd n3 (by decide)
              omega
      · simp only at hc hw
        rw [fk_con hc] at h
        simp only at h
        have hcs := con_sq (id := id) (by omega)
        rw [cv_con hcs.1 hcs.2.1 hcs.2.2]
        refine vk_getf (own := a_own mi) (ref := (a_cT (a_kind id) k).1) hA.1 hA.2.1 (hA.sf.OF' (of_con hc)) hV hA.own (hA.wd _ hw) (fun x h => h) hd ?_
        exact hS h hx
    · cases h
  · cases h
theorem OP_ldc {index : Nat} (hS : SN G l rec) (hx : CX G p l R s m args meth c H locs cells slots mc ms arr d gc gs mi ls μ) (hd : decode (a_bytes mi) pc = .ok (.ldc index, 2)) (hw : (x.1 = 0 ∧ Cond.constant (a_own mi) index (a_ci x.2.1) ∈ a_W) ∨ (x.1 = 1 ∧ a_kind x.2.1 = 41 ∧ ∃ tx, (a_own mi, index, tx, x.2.1) ∈ a_Rs)) (h : a_ins rec (.ldc index) d gc gs mi pc ls st μ x = some o) : GO G p l e R s m args below meth c H locs cells slots mc ms arr pc st o := by
  obtain ⟨cnt, asg, L, Is, Rs, Lg⟩ := μ
  obtain ⟨hA, hW, hV, hrest⟩ := id hx
  obtain ⟨ci, k, wi⟩ := x
  simp only [a_ins] at h
  rcases hw with ⟨h0, hw⟩ | ⟨h0, hk, tx, hw⟩
  · simp only at h0 hw
    subst h0
    exact lv_ldc hA.1 hA.2.1 hA.own (hA.wd _ hw) hd (hS h hx)
  · simp only at h0 hw hk
    subst h0
    have hcs := con_sq (id := k) (by omega)
    refine va_ldcS hA.1 hA.2.1 hA.own (hA.sf.R' hw) hd ?_
    have h2 := hS h hx (e := e) (below := below)
    unfold GO at h2
    rw [List.map_cons, cv_con hcs.1 hcs.2.1 hcs.2.2] at h2
    exact h2
theorem ldcwS (hexec : p.tables.exec = Jvm.exec) {cc : ByteArray} (hb : c.code = cc) {Q : State → Prop} {own tx : String} {index q : Nat} {rest : List Value} (hown : s.vm.findClass own = some m.cls) (hZ : vk_R own index tx q s) (hdg : decode cc pc = .ok (.ldc_w index, 3))
    (k : W p l e R s m args below meth c H locs cells slots Q (F0 m (pc + 3) arr (.ref q :: rest))) : W p l e R s m args below meth c H locs cells slots Q (F0 m pc arr rest) := by
  intro T hT X
  obtain ⟨t, a1, b1⟩ := k T hT X
  refine ⟨t, ?_, b1⟩
  obtain ⟨k, cf, i, a', hk, hcf, hcp, -, hr, hev'⟩ := Cond.stringRef_spec hown hZ.1
  cases hZ.2.symm.trans hev'
  obtain ⟨k', hk', he⟩ := X.warmed.alike.2.2 _ _ hk
  have hr' : k'.resolved[index]? = some (some (.string q)) := by
    rcases X.warmed.entry hk hk' index with h | ⟨h, -⟩
    · rw [h]; exact hr
    · rw [hr] at h; cases h
  have hdg' : decode c.code pc = .ok (.ldc_w index, 3) := by rw [hb]; exact hdg
  jvm_step X.here [hexec, hdg', ldc_w.wp_string (e := e) (s := T) (f := F0 m pc arr rest) X.here.top hk' (by rw [he]; exact hcf) hcp hr']
  exact a1
theorem OP_ldc_w {index : Nat} (hS : SN G l rec) (hx : CX G p l R s m args meth c H locs cells slots mc ms arr d gc gs mi ls μ) (hd : decode (a_bytes mi) pc = .ok (.ldc_w index, 3)) (hw : (x.1 = 0 ∧ Cond.constant (a_own mi) index (a_ci x.2.1) ∈ a_W) ∨ (x.1 = 1 ∧ a_kind x.2.1 = 41 ∧ ∃ tx, (a_own mi, index, tx, x.2.1) ∈ a_Rs)) (h : a_ins rec (.ldc_w index) d gc gs mi pc ls st μ x = some o) : GO G p l e R s m args below meth c H locs cells slots mc ms arr pc st o := by
  obtain ⟨cnt, asg, L, Is, Rs, Lg⟩ := μ
  obtain ⟨hA, hW, hV, hrest⟩ := id hx
  obtain ⟨ci, k, wi⟩ := x
  simp only [a_ins] at h
  rcases hw with ⟨h0, hw⟩ | ⟨h0, hk, tx, hw⟩
  · simp only at h0 hw
    subst h0
    exact lv_ldcw hA.1 hA.2.1 hA.own (hA.wd _ hw) hd (hS h hx)
  · simp only at h0 hw hk
    subst h0
    have hcs := con_sq (id := k) (by omega)
    refine ldcwS hA.1 hA.2.1 hA.own (hA.sf.R' hw) hd ?_
    have h2 := hS h hx (e := e) (below := below)
    unfold GO at h2
    rw [List.map_cons, cv_con hcs.1 hcs.2.1 hcs.2.2] at h2
    exact h2
theorem OP_ldc2_w {index : Nat} (hS : SN G l rec) (hx : CX G p l R s m args meth c H locs cells slots mc ms arr d gc gs mi ls μ) (hd : decode (a_bytes mi) pc = .ok (.ldc2_w index, 3)) (hw : Cond.constantLong (a_own mi) index (a_cl x.2.1) ∈ a_W) (h : a_ins rec (.ldc2_w index) d gc gs mi pc ls st μ x = some o) : GO G p l e R s m args below meth c H locs cells slots mc ms arr pc st o := by
  obtain ⟨cnt, asg, L, Is, Rs, Lg⟩ := μ
  obtain ⟨hA, hW, hV, hrest⟩ := id hx
  simp only [a_ins] at h
  exact lv_ldc2 hA.1 hA.2.1 hA.own (hA.wd _ hw) hd (hS h hx)
theorem OP_getstatic {index : Nat} (hS : SN G l rec) (hx : CX G p l R s m args meth c H locs cells slots mc ms arr d gc gs mi ls μ) (hd : decode (a_bytes mi) pc = .ok (.getstatic index, 3)) (hw : ∃ (q : String × String × String × Value), q ∈ a_Zs ∧ q.2.2.2 = (match Nat.beq x.1 0 with | true => .int (a_ci x.2.1) | false => .ref x.2.1) ∧ (Cond.fieldLink (a_own mi) index q.1 q.2.1 q.2.2.1 ∈ a_W ∨ ∃ host, Cond.fieldLinkNest (a_own mi) index q.1 q.2.1 q.2.2.1 host ∈ a_W2)) (h : a_ins rec (.getstatic index) d gc gs mi pc ls st μ x = some o) : GO G p l e R s m args below meth c H locs cells slots mc ms arr pc st o := by
  obtain ⟨cnt, asg, L, Is, Rs, Lg⟩ := μ
  obtain ⟨hA, hW, hV, hrest⟩ := id hx
  obtain ⟨ci, k, wi⟩ := x
  obtain ⟨⟨C, n, dd, w⟩, hq, hv, hw⟩ := hw
  simp only at hv hw
  have hZ := hA.sf.Z' hq
  simp only [a_ins] at h
  have key : ∀ v, w = v → rec (d, gc, gs, mi, pc + 3, ls, v :: st, (cnt, asg, L, Is, Rs, Lg)) = some o → GO G p l e R s m args below meth c H locs cells slots mc ms arr pc st o := fun v hv hr => by
    rw [hv] at hZ
    rcases hw with hw | ⟨host, hw⟩
    · exact va_gets hA.1 hA.2.1 hZ hV hA.own (hA.wd _ hw) (fun x h => h) hd (hS hr hx)
    · exact va_getsN hA.1 hA.2.1 hZ hV hA.own (va_Nw.use rfl (hA.sf.N _ hw)) (fun x h => h) hd (hS hr hx)
  split at h
  · rename_i hb
    simp only [hb] at hv
    exact key _ hv h
  · rename_i hb
    simp only [hb] at hv
    exact key _ hv h
end FLD
