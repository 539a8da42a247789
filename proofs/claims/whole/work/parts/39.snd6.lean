/-! SOUNDNESS: arrays: the other reads, the writes -/
theorem kind_arr {id : Nat} (h32 : 32 ≤ a_kind id) (hb4 : a_kind id ≤ 36 ∨ 42 ≤ a_kind id) : a_kind id = 32 ∨ a_kind id = 33 ∨ a_kind id = 34 ∨ a_kind id = 35 ∨ a_kind id = 36 ∨ a_kind id = 42 ∨ a_kind id = 43 ∨ a_kind id = 44 := by
  by_cases hid : id < 2816
  · exact co_dec (N := 2816) (P := fun id => 32 ≤ a_kind id → (a_kind id ≤ 36 ∨ 42 ≤ a_kind id) → a_kind id = 32 ∨ a_kind id = 33 ∨ a_kind id = 34 ∨ a_kind id = 35 ∨ a_kind id = 36 ∨ a_kind id = 42 ∨ a_kind id = 43 ∨ a_kind id = 44) (by decide +kernel) hid h32 hb4
  · rw [a_big (by omega)] at h32; omega
section ARR2
variable {G : AG} {p : Program} {l : Launch} {e : Env} {R : Room} {s : State} {m : MethodId} {args : Array Value} {below : List Frame} {meth : Method} {c : Code} {H : Heap} {locs : List Loc} {cells slots mc ms : Nat} {arr : Array Slot} {d gc gs mi pc : Nat} {ls : List Slot} {st : List Value} {μ : AM} {o : AOut} {rec : ACfg → Option AOut} {x : Nat × Nat × Nat}
theorem OP_baload (hS : SN G l rec) (hx : CX G p l R s m args meth c H locs cells slots mc ms arr d gc gs mi ls μ) (hd : decode (a_bytes mi) pc = .ok (.baload, 1)) (h : a_ins rec (.baload) d gc gs mi pc ls st μ x = some o) : GO G p l e R s m args below meth c H locs cells slots mc ms arr pc st o := by
  obtain ⟨cnt, asg, L, Is, Rs, Lg⟩ := μ
  obtain ⟨hA, hW, hV, hrest⟩ := id hx
  simp only [a_ins] at h
  split at h
  · rename_i i id r
    unfold a_bald at h
    simp only at h
    split at h
    · rename_i hb
      simp only [Bool.and_eq_true] at hb
      have hk := Nat.eq_of_beq_eq_true hb.1
      replace h := aopt h; obtain ⟨v, hv, h⟩ := h
      obtain ⟨hin, hve⟩ := rdx_in hv
      obtain ⟨h0, hc⟩ := cell_i hW (Or.inr hk) (live_le hb.2)
      have hlt : i.toNatClampNeg < a_sz id := Nat.not_le.mp fun q => hin (Or.inr q)
      show W p l e R s m args below meth c H locs cells slots _ (F0 m pc arr (.int i :: cv G (.ref id) :: r.map (cv G)))
      rw [cv_live h0]
      rw [hk] at hc
      exact W.zald (v := .int v) hA.1 hA.2.1 hc ((hA.sf.K.2 1 _ rfl).1 (a_sz id) (fun j => .int (a_row Is id j))) (fun q => by cases q) (by show ¬ (i < 0 ∨ (arrV _ _ _).slots.size ≤ _); rw [arrV_size]; exact hin) (by show (arrV _ _ _).slots[_]? = _; rw [arrV_read _ _ hlt, hve]) rfl rfl hd (hS h hx)
    · split at h
      · rename_i hb
        have hk := Nat.eq_of_beq_eq_true hb
        replace h := aopt h; obtain ⟨v, hv, h⟩ := h
        obtain ⟨hin, hve⟩ := rdx_in hv
        obtain ⟨h1, h2⟩ := kind_42 hk
        have hT := (hA.sf.S _ h2).2
        rw [Nat.add_sub_cancel' h1] at hT
        have hs0 := con_sq (id := id) (by rw [hk]; decide)
        show W p l e R s m args below meth c H locs cells slots _ (F0 m pc arr (.int i :: cv G (.ref id) :: r.map (cv G)))
        rw [cv_con hs0.1 hs0.2.1 hs0.2.2]
        refine va_tb hA.1 hA.2.1 hT hV hin (v := .int v) (by rw [hve]) hd ?_
        exact hS h hx
      · cases h
  · cases h
theorem OP_aaload (hS : SN G l rec) (hx : CX G p l R s m args meth c H locs cells slots mc ms arr d gc gs mi ls μ) (hd : decode (a_bytes mi) pc = .ok (.aaload, 1)) (h : a_ins rec (.aaload) d gc gs mi pc ls st μ x = some o) : GO G p l e R s m args below meth c H locs cells slots mc ms arr pc st o := by
  obtain ⟨cnt, asg, L, Is, Rs, Lg⟩ := μ
  obtain ⟨hA, hW, hV, hrest⟩ := id hx
  simp only [a_ins] at h
  split at h
  · rename_i i id r
    unfold a_aald at h
    simp only at h
    split at h
    · rename_i hb
      simp only [Bool.and_eq_true] at hb
      have hk := Nat.eq_of_beq_eq_true hb.1
      replace h := aopt h; obtain ⟨v, hv, h⟩ := h
      obtain ⟨hin, rfl⟩ := ixx_in hv
      have h0 : a_sq id ≠ 0 := kind_sq (by rw [hk]; decide) (by rw [hk]; decide)
      have hg := wsOf_get G (cnt, asg, L, Is, Rs, Lg) h0 (live_le hb.2)
      rw [ent_34 G _ hk] at hg
      show W p l e R s m args below meth c H locs cells slots _ (F0 m pc arr (.int i :: cv G (.ref id) :: r.map (cv G)))
      rw [cv_live h0]
      refine va_aldq hA.1 hA.2.1 hA.sf.K hW.1 _ 2 hg rfl hin hd ?_
      have e2 : va_rf (if a_nth Rs 0 (6 + i.toNatClampNeg) = 0 then none else some (g_ad G (a_nth Rs 0 (6 + i.toNatClampNeg)))) = cv G (.ref (a_nth Rs 0 (6 + i.toNatClampNeg))) := by
        show _ = (if a_nth Rs 0 (6 + i.toNatClampNeg) = 0 then Value.null else if a_nth Rs 0 (6 + i.toNatClampNeg) = 2816 then gF G else Value.ref (g_ad G (a_nth Rs 0 (6 + i.toNatClampNeg))))
        by_cases hz : a_nth Rs 0 (6 + i.toNatClampNeg) = 0
        · rw [if_pos hz, if_pos hz]; rfl
        · rw [if_neg hz, if_neg hz, if_neg (hW.wf.2.2.2.1 _)]; rfl
      show W p l e R s m args below meth c H locs cells slots _ (F0 m (pc + 1) arr (va_rf (if a_nth Rs 0 (6 + i.toNatClampNeg) = 0 then none else some (g_ad G (a_nth Rs 0 (6 + i.toNatClampNeg)))) :: r.map (cv G)))
      rw [e2]
      exact hS h hx
    · split at h
      · rename_i hb
        have hk := Nat.eq_of_beq_eq_true hb
        replace h := aopt h; obtain ⟨v, hv, h⟩ := h
        obtain ⟨hin, rfl⟩ := ixx_in hv
        obtain rfl := kind_43 hk
        show W p l e R s m args below meth c H locs cells slots _ (F0 m pc arr (.int i :: cv G (.ref 2752) :: r.map (cv G)))
        rw [cv_con (by decide +kernel) (by decide) (by decide)]
        have hlt : i.toNatClampNeg < 23 := Nat.not_le.mp fun q => hin (Or.inr q)
        have hr := co_dec (N := 23) (P := fun j => a_sq (a_ra 2752 j) = 0 ∧ a_ra 2752 j ≠ 0 ∧ a_ra 2752 j ≠ 2816) (by decide +kernel) hlt
        refine vb_tq hA.1 hA.2.1 hA.sf.TW hV hin (v := cv G (.ref (a_ra 2752 i.toNatClampNeg))) (cv_con hr.1 hr.2.1 hr.2.2).symm hd ?_
        exact hS h hx
      · cases h
  · cases h
theorem OP_laload (hS : SN G l rec) (hx : CX G p l R s m args meth c H locs cells slots mc ms arr d gc gs mi ls μ) (hd : decode (a_bytes mi) pc = .ok (.laload, 1)) (h : a_ins rec (.laload) d gc gs mi pc ls st μ x = some o) : GO G p l e R s m args below meth c H locs cells slots mc ms arr pc st o := by
  obtain ⟨cnt, asg, L, Is, Rs, Lg⟩ := μ
  obtain ⟨hA, hW, hV, hrest⟩ := id hx
  simp only [a_ins] at h
  split at h
  · rename_i i id r
    unfold a_lald at h
    simp only at h
    split at h
    · rename_i hb
      simp only [Bool.and_eq_true] at hb
      have hk := Nat.eq_of_beq_eq_true hb.1
      replace h := aopt h; obtain ⟨v, hv, h⟩ := h
      obtain ⟨hin, rfl⟩ := ixx_in hv
      have h0 : a_sq id ≠ 0 := kind_sq (by rw [hk]; decide) (by rw [hk]; decide)
      have hg := wsOf_get G (cnt, asg, L, Is, Rs, Lg) h0 (live_le hb.2)
      rw [ent_35 G _ hk] at hg
      show W p l e R s m args below meth c H locs cells slots _ (F0 m pc arr (.int i :: cv G (.ref id) :: r.map (cv G)))
      rw [cv_live h0]
      refine va_lald hA.1 hA.2.1 hA.sf.K hW.1 _ 3 hg rfl hin hd ?_
      exact hS h hx
    · cases h
  · cases h
theorem a_gt_off {Is : List (Nat → Nat → Int32)} {r0 k0 i : Nat} {v : Int32} : ∀ r k j, ¬ (r = r0 ∧ k = k0) → a_gt (a_pt Is r0 k0 i v) r k j = a_gt Is r k j := fun r k j hn => by
  rw [a_gt_pt, if_neg (fun q => hn ⟨q.1, q.2.1⟩)]
theorem a_gr_off {Is : List (Nat → Nat → Int32)} {r0 k0 : Nat} {f : Nat → Int32} : ∀ r k j, ¬ (r = r0 ∧ k = k0) → a_gt (a_pr Is r0 k0 f) r k j = a_gt Is r k j := fun r k j hn => by
  rw [a_gt_pr, if_neg (fun q => hn ⟨q.1, q.2.1⟩)]
/-- a row of numbers, one of them written -/
theorem row_pt {Is : List (Nat → Nat → Int32)} {id j : Nat} {v : Int32} (hr : a_reg id < Is.length) : a_row (a_pt Is (a_reg id) (a_loc id) j v) id = upd (a_row Is id) j v := by
  funext q
  show a_gt (a_pt Is (a_reg id) (a_loc id) j v) (a_reg id) (a_loc id) q = if q = j then v else a_gt Is (a_reg id) (a_loc id) q
  rw [a_gt_pt]
  by_cases hq : q = j
  · rw [if_pos ⟨rfl, rfl, hq, hr⟩, if_pos hq]
  · rw [if_neg (fun z => hq z.2.2.1), if_neg hq]
theorem row_pr {Is : List (Nat → Nat → Int32)} {id : Nat} {f : Nat → Int32} (hr : a_reg id < Is.length) : a_row (a_pr Is (a_reg id) (a_loc id) f) id = f := by
  funext q
  show a_gt (a_pr Is (a_reg id) (a_loc id) f) (a_reg id) (a_loc id) q = _
  rw [a_gt_pr, if_pos ⟨rfl, rfl, hr⟩]
theorem OP_iastore (hS : SN G l rec) (hx : CX G p l R s m args meth c H locs cells slots mc ms arr d gc gs mi ls μ) (hd : decode (a_bytes mi) pc = .ok (.iastore, 1)) (h : a_ins rec (.iastore) d gc gs mi pc ls st μ x = some o) : GO G p l e R s m args below meth c H locs cells slots mc ms arr pc st o := by
  obtain ⟨cnt, asg, L, Is, Rs, Lg⟩ := μ
  obtain ⟨hA, hW, hV, hrest⟩ := id hx
  simp only [a_ins] at h
  split at h
  · rename_i v i id r
    unfold a_iast at h
    simp only at h
    split at h
    · rename_i hb
      simp only [Bool.and_eq_true] at hb
      have hk := Nat.eq_of_beq_eq_true hb.1
      replace h := aopt h; obtain ⟨j, hj, h⟩ := h
      obtain ⟨hin, rfl⟩ := ixx_in hj
      obtain ⟨h0, hc⟩ := cell_i hW (Or.inl hk) (live_le hb.2)
      have hkey := key_row (Or.inl hk : a_kind id = 32 ∨ a_kind id = 33)
      have hreg : a_reg id < Is.length := by have := key_reg h0 hkey; have h21 : Is.length = 21 := hW.wf.2.1; omega
      show W p l e R s m args below meth c H locs cells slots _ (F0 m pc arr (.int v :: .int i :: cv G (.ref id) :: r.map (cv G)))
      rw [cv_live h0]
      rw [hk] at hc
      refine W.iast hA.1 hA.2.1 hc ((hA.sf.K.2 0 _ rfl).1 (a_sz id) (fun j => .int (a_row Is id j))) (fun q => by cases q) (by show ¬ (i < 0 ∨ (arrV _ _ _).slots.size ≤ _); rw [arrV_size]; exact hin) rfl rfl hd fun H1 e z oq => ?_
      have hW1 : Wd G (cnt, asg, L, a_pt Is (a_reg id) (a_loc id) i.toNatClampNeg v, Rs, Lg) H1 := by
        refine hW.upd h0 (live_le hb.2) rfl rfl (hW.wf.pt h0 hkey (by simp [a_pt]) a_gt_off) (ents_at G h0 hkey (Nat.mod_lt _ (by decide)) a_gt_off) ?_ z oq
        rw [ent_i G _ (Or.inl hk), hk]
        show H1[g_ad G id]? = some (vp_cell _ _)
        rw [e, vp_cell_i, vp_cell_i, arrV_store]
        congr 2
        show updV (fun j => .int (a_row Is id j)) i.toNatClampNeg (.int v) = fun j => .int (a_row (a_pt Is (a_reg id) (a_loc id) i.toNatClampNeg v) id j)
        rw [row_pt hreg]
        funext q
        by_cases hq : q = i.toNatClampNeg
        · simp [updV, upd, hq]
        · simp [updV, upd, hq]
      exact hS h ⟨hA, hW1, hV.put z oq (hW.2.1.2 _ _ (wsOf_get G _ h0 (live_le hb.2))), hrest⟩
    · cases h
  · cases h
theorem OP_bastore (hS : SN G l rec) (hx : CX G p l R s m args meth c H locs cells slots mc ms arr d gc gs mi ls μ) (hd : decode (a_bytes mi) pc = .ok (.bastore, 1)) (h : a_ins rec (.bastore) d gc gs mi pc ls st μ x = some o) : GO G p l e R s m args below meth c H locs cells slots mc ms arr pc st o := by
  obtain ⟨cnt, asg, L, Is, Rs, Lg⟩ := μ
  obtain ⟨hA, hW, hV, hrest⟩ := id hx
  simp only [a_ins] at h
  split at h
  · rename_i v i id r
    unfold a_bast at h
    simp only at h
    split at h
    · rename_i hb
      simp only [Bool.and_eq_true] at hb
      have hk := Nat.eq_of_beq_eq_true hb.1
      replace h := aopt h; obtain ⟨j, hj, h⟩ := h
      obtain ⟨hin, rfl⟩ := ixx_in hj
      obtain ⟨h0, hc⟩ := cell_i hW (Or.inr hk) (live_le hb.2)
      have hkey := key_row (Or.inr hk : a_kind id = 32 ∨ a_kind id = 33)
      have hreg : a_reg id < Is.length := by have := key_reg h0 hkey; have h21 : Is.length = 21 := hW.wf.2.1; omega
      show W p l e R s m args below meth c H locs cells slots _ (F0 m pc arr (.int v :: .int i :: cv G (.ref id) :: r.map (cv G)))
      rw [cv_live h0]
      rw [hk] at hc
      refine W.zast hA.1 hA.2.1 hc ((hA.sf.K.2 1 _ rfl).1 (a_sz id) (fun j => .int (a_row Is id j))) (fun q => by cases q) (by show ¬ (i < 0 ∨ (arrV _ _ _).slots.size ≤ _); rw [arrV_size]; exact hin) rfl rfl hd fun H1 e z oq => ?_
      have hW1 : Wd G (cnt, asg, L, a_pt Is (a_reg id) (a_loc id) i.toNatClampNeg (zb v), Rs, Lg) H1 := by
        refine hW.upd h0 (live_le hb.2) rfl rfl (hW.wf.pt h0 hkey (by simp [a_pt]) a_gt_off) (ents_at G h0 hkey (Nat.mod_lt _ (by decide)) a_gt_off) ?_ z oq
        rw [ent_i G _ (Or.inr hk), hk]
        show H1[g_ad G id]? = some (vp_cell _ _)
        rw [e, vp_cell_i, vp_cell_i, arrV_store]
        congr 2
        show updV (fun j => .int (a_row Is id j)) i.toNatClampNeg (narrow .boolean (.int v)) = fun j => .int (a_row (a_pt Is (a_reg id) (a_loc id) i.toNatClampNeg (zb v)) id j)
        rw [row_pt hreg]
        have hz2 : narrow .boolean (.int v) = .int (zb v) := by simp [narrow, zb]
        funext q
        by_cases hq : q = i.toNatClampNeg
        · simp [updV, upd, hq, hz2]
        · simp [updV, upd, hq]
      exact hS h ⟨hA, hW1, hV.put z oq (hW.2.1.2 _ _ (wsOf_get G _ h0 (live_le hb.2))), hrest⟩
    · cases h
  · cases h
theorem OP_lastore (hS : SN G l rec) (hx : CX G p l R s m args meth c H locs cells slots mc ms arr d gc gs mi ls μ) (hd : decode (a_bytes mi) pc = .ok (.lastore, 1)) (h : a_ins rec (.lastore) d gc gs mi pc ls st μ x = some o) : GO G p l e R s m args below meth c H locs cells slots mc ms arr pc st o := by
  obtain ⟨cnt, asg, L, Is, Rs, Lg⟩ := μ
  obtain ⟨hA, hW, hV, hrest⟩ := id hx
  simp only [a_ins] at h
  split at h
  · rename_i v i id r
    unfold a_last at h
    simp only at h
    split at h
    · rename_i hb
      simp only [Bool.and_eq_true] at hb
      have hk := Nat.eq_of_beq_eq_true hb.1
      replace h := aopt h; obtain ⟨j, hj, h⟩ := h
      obtain ⟨hin, rfl⟩ := ixx_in hj
      have h0 : a_sq id ≠ 0 := kind_sq (by rw [hk]; decide) (by rw [hk]; decide)
      have hg := wsOf_get G (cnt, asg, L, Is, Rs, Lg) h0 (live_le hb.2)
      have hc := hW.1 _ _ hg
      rw [ent_35 G _ hk] at hc
      have hc : H[g_ad G id]? = some (vp_cell (gA G 35) (a_sz id, .inr (.inl (fun _ => Lg)))) := hc
      have hsz := kind_35 hk
      show W p l e R s m args below meth c H locs cells slots _ (F0 m pc arr (.long v :: .int i :: cv G (.ref id) :: r.map (cv G)))
      rw [cv_live h0]
      refine W.last hA.1 hA.2.1 hc ((hA.sf.K.2 3 _ rfl).1 (a_sz id) (fun j => .long Lg)) (fun q => by cases q) (by show ¬ (i < 0 ∨ (arrV _ _ _).slots.size ≤ _); rw [arrV_size]; exact hin) rfl rfl hd fun H1 e z oq => ?_
      have hW1 : Wd G (cnt, asg, L, Is, Rs, v) H1 := by
        refine hW.upd h0 (live_le hb.2) rfl rfl hW.wf ?_ ?_ z oq
        · intro k hk1 hk2
          unfold ent
          simp only
          split
          · rfl
          · split
            · rfl
            · split
              · rename_i h3
                exfalso
                have e1 := only_35 hk1 h3
                have e2 := only_35 (k := a_sq id - 1) (by have := sq_le id; omega) (by rw [ord_sq h0]; exact hk)
                omega
              · rfl
        · rw [ent_35 G _ hk]
          show H1[g_ad G id]? = some (vp_cell _ _)
          rw [e, vp_cell_l, vp_cell_l, arrV_store]
          rw [hsz]
          have hi : i.toNatClampNeg = 0 := by
            have : i.toNatClampNeg < a_sz id := Nat.not_le.mp fun q => hin (Or.inr q)
            omega
          rw [hi]
          congr 1
      exact hS h ⟨hA, hW1, hV.put z oq (hW.2.1.2 _ _ hg), hrest⟩
    · cases h
  · cases h
theorem OP_aastore (hS : SN G l rec) (hx : CX G p l R s m args meth c H locs cells slots mc ms arr d gc gs mi ls μ) (hd : decode (a_bytes mi) pc = .ok (.aastore, 1)) (h : a_ins rec (.aastore) d gc gs mi pc ls st μ x = some o) : GO G p l e R s m args below meth c H locs cells slots mc ms arr pc st o := by
  obtain ⟨cnt, asg, L, Is, Rs, Lg⟩ := μ
  obtain ⟨hA, hW, hV, hrest⟩ := id hx
  simp only [a_ins] at h
  split at h
  · rename_i v i id r
    unfold a_aast at h
    simp only at h
    split at h
    · rename_i hb
      simp only [Bool.and_eq_true] at hb
      have hk := Nat.eq_of_beq_eq_true hb.1.1.1
      have hkv : a_kind v = 8 := Nat.eq_of_beq_eq_true hb.1.2
      have hl := live_le hb.1.1.2
      have hlv := live_le hb.2
      replace h := aopt h; obtain ⟨j, hj, h⟩ := h
      obtain ⟨hin, rfl⟩ := ixx_in hj
      have h0 : a_sq id ≠ 0 := kind_sq (by rw [hk]; decide) (by rw [hk]; decide)
      have hv0 : a_sq v ≠ 0 := kind_sq (by rw [hkv]; decide) (by rw [hkv]; decide)
      have hg := wsOf_get G (cnt, asg, L, Is, Rs, Lg) h0 hl
      have hgv := wsOf_get G (cnt, asg, L, Is, Rs, Lg) hv0 hlv
      have hc := hW.1 _ _ hg
      rw [ent_34 G _ hk] at hc
      rw [ent_o G _ (by rw [hkv]; decide), hkv] at hgv
      have hc : H[g_ad G id]? = some (vp_cell (gA G 34) (a_sz id, .inr (.inr (.inr (.inr (fun j => if a_nth Rs 0 (6 + j) = 0 then none else some (g_ad G (a_nth Rs 0 (6 + j))))))))) := hc
      have h3 := kind_34 hk
      have hlt : i.toNatClampNeg < 3 := by
        have : i.toNatClampNeg < a_sz id := Nat.not_le.mp fun q => hin (Or.inr q)
        omega
      show W p l e R s m args below meth c H locs cells slots _ (F0 m pc arr (cv G (.ref v) :: .int i :: cv G (.ref id) :: r.map (cv G)))
      rw [cv_live h0, cv_live hv0]
      obtain ⟨r', hr', cellV, g1, g2, g3, -⟩ := hW.1 _ _ hgv
      have hcls := (hA.sf.K.1 7 _ hr').2
      obtain ⟨kA, comp, k1, k2, k3, -⟩ := (hA.sf.K.2 2 _ rfl).2
      have hr1 : r'.1 = "YieldedHours$State" := by
        have : a_vw[7]? = some (a_cn 8, a_T 8, 7) := rfl
        cases this.symm.trans hr'
        rfl
      rw [hr1] at hcls
      have hcomp : comp = (gdC G 7) := Option.some.inj (k3.symm.trans hcls.1)
      subst hcomp
      obtain ⟨kC, hkC, -⟩ := hcls.2
      refine W.aast hA.1 hA.2.1 hc (fun q h => by cases h) (fun h => by cases h) k1 k2 rfl hkC ⟨fun q => hin (Or.inl q), by show _ < (arrV _ _ _).slots.size; rw [arrV_size]; omega⟩ g1 (fun q h => by rw [g3] at h; cases h) (by rw [g2]; exact hkC) (by rw [g2]; exact va_assign hcls) rfl rfl hd fun H1 e z oq => ?_
      have h9 : Rs.length = 9 := hW.wf.2.2.1
      have hnz : v ≠ 0 := fun q => hv0 (by rw [q]; decide +kernel)
      have hW1 : Wd G (cnt, asg, L, Is, Rs.set (6 + i.toNatClampNeg) v, Lg) H1 := by
        refine hW.upd h0 hl rfl rfl ⟨hW.wf.1, hW.wf.2.1, by show (Rs.set _ _).length = 9; rw [List.length_set]; exact h9, fun j => ?_, hW.wf.2.2.2.2⟩ ?_ ?_ z oq
        · show a_nth (Rs.set (6 + i.toNatClampNeg) v) 0 (6 + j) ≠ 2816
          rw [a_nth_st]
          split
          · exact fun q => by rw [q] at hkv; exact absurd hkv (by decide +kernel)
          · exact hW.wf.2.2.2.1 j
        · intro k hk1 hk2
          have hk34 : a_kind (a_ord k) ≠ 34 := by
            intro h3
            have e1 := only_34 hk1 h3
            have e2 := only_34 (k := a_sq id - 1) (by have := sq_le id; omega) (by rw [ord_sq h0]; exact hk)
            omega
          have hq6 : ∀ j q, a_fk (a_kind (a_ord k)) j = (2, q) → q < 6 := fun j q hj => fk_q6 hk1 hj
          unfold ent
          simp only
          rw [if_neg hk34, if_neg hk34]
          split
          · rfl
          · split
            · rfl
            · congr 2
              refine List.map_congr_left (fun j hj => ?_)
              unfold fval
              simp only
              split
              · rfl
              · rfl
              · rename_i q hq
                have := hq6 _ _ hq
                rw [a_nth_st, if_neg (by omega)]
              · rfl
        · rw [ent_34 G _ hk]
          show H1[g_ad G id]? = some (vp_cell _ _)
          rw [e, vp_cell_q, vp_cell_q, arrV_store]
          congr 2
          funext q
          show updV (fun j => va_rf (if a_nth Rs 0 (6 + j) = 0 then none else some (g_ad G (a_nth Rs 0 (6 + j))))) i.toNatClampNeg (.ref (g_ad G v)) q = va_rf (if a_nth (Rs.set (6 + i.toNatClampNeg) v) 0 (6 + q) = 0 then none else some (g_ad G (a_nth (Rs.set (6 + i.toNatClampNeg) v) 0 (6 + q))))
          rw [a_nth_st]
          by_cases hq : q = i.toNatClampNeg
          · subst hq
            rw [if_pos (show 6 + i.toNatClampNeg = 6 + i.toNatClampNeg ∧ 6 + i.toNatClampNeg < Rs.length from ⟨rfl, by omega⟩), if_neg hnz]
            simp [updV, va_rf]
          · rw [if_neg (show ¬ (6 + q = 6 + i.toNatClampNeg ∧ 6 + i.toNatClampNeg < Rs.length) from by omega)]
            simp [updV, hq]
      exact hS h ⟨hA, hW1, hV.put z oq (hW.2.1.2 _ _ hg), hrest⟩
    · cases h
  · cases h
theorem OP_arraylength (hS : SN G l rec) (hG : GOK G) (hx : CX G p l R s m args meth c H locs cells slots mc ms arr d gc gs mi ls μ) (hd : decode (a_bytes mi) pc = .ok (.arraylength, 1)) (h : a_ins rec (.arraylength) d gc gs mi pc ls st μ x = some o) : GO G p l e R s m args below meth c H locs cells slots mc ms arr pc st o := by
  obtain ⟨cnt, asg, L, Is, Rs, Lg⟩ := μ
  obtain ⟨hA, hW, hV, hrest⟩ := id hx
  simp only [a_ins] at h
  split at h
  · rename_i id r
    split at h
    · rename_i hb
      simp only [Bool.and_eq_true, Bool.or_eq_true] at hb
      obtain ⟨⟨hb1, hb2⟩, hb3⟩ := hb
      have h32 : 32 ≤ a_kind id := Nat.le_of_ble_eq_true hb1
      have hb4 : a_kind id ≤ 36 ∨ 42 ≤ a_kind id := hb2.imp (fun q => Nat.le_of_ble_eq_true q) (fun q => Nat.le_of_ble_eq_true q)
      have hcase := kind_arr h32 hb4
      have hlen : ∀ k, k ≠ 36 → a_kind id = k → a_len id L = a_sz id := fun k hk he => by
        unfold a_len
        have : Nat.beq (a_kind id) 36 = false := by
          cases hq : Nat.beq (a_kind id) 36 with
          | false => rfl
          | true => exact absurd ((Nat.eq_of_beq_eq_true hq).symm.trans he).symm hk
        rw [this]
        rfl
      show W p l e R s m args below meth c H locs cells slots _ (F0 m pc arr (cv G (.ref id) :: r.map (cv G)))
      rcases hcase with hk | hk | hk | hk | hk | hk | hk | hk
      · have h0 : a_sq id ≠ 0 := kind_sq (by rw [hk]; decide) (by rw [hk]; decide)
        have hg := wsOf_get G (cnt, asg, L, Is, Rs, Lg) h0 (live_le hb3)
        rw [ent_i G _ (Or.inl hk), hk] at hg
        rw [cv_live h0]
        rw [hlen 32 (by decide) hk] at h
        exact va_alen hA.1 hA.2.1 hA.sf.K hW.1 _ 0 hg rfl rfl hd (hS h hx)
      · have h0 : a_sq id ≠ 0 := kind_sq (by rw [hk]; decide) (by rw [hk]; decide)
        have hg := wsOf_get G (cnt, asg, L, Is, Rs, Lg) h0 (live_le hb3)
        rw [ent_i G _ (Or.inr hk), hk] at hg
        rw [cv_live h0]
        rw [hlen 33 (by decide) hk] at h
        exact va_alen hA.1 hA.2.1 hA.sf.K hW.1 _ 1 hg rfl rfl hd (hS h hx)
      · have h0 : a_sq id ≠ 0 := kind_sq (by rw [hk]; decide) (by rw [hk]; decide)
        have hg := wsOf_get G (cnt, asg, L, Is, Rs, Lg) h0 (live_le hb3)
        rw [ent_34 G _ hk] at hg
        rw [cv_live h0]
        rw [hlen 34 (by decide) hk] at h
        exact va_alen hA.1 hA.2.1 hA.sf.K hW.1 _ 2 hg rfl rfl hd (hS h hx)
      · have h0 : a_sq id ≠ 0 := kind_sq (by rw [hk]; decide) (by rw [hk]; decide)
        have hg := wsOf_get G (cnt, asg, L, Is, Rs, Lg) h0 (live_le hb3)
        rw [ent_35 G _ hk] at hg
        rw [cv_live h0]
        rw [hlen 35 (by decide) hk] at h
        exact va_alen hA.1 hA.2.1 hA.sf.K hW.1 _ 3 hg rfl rfl hd (hS h hx)
      · obtain rfl := kind_36 hk
        obtain ⟨hX, hX1, hX2⟩ := hA.sf.X
        rw [cv_con (by decide +kernel) (by decide) (by decide), hG.2.1]
        have hL : L = gL G := hW.len
        refine va_slen hA.1 hA.2.1 hX hX1 hX2 hV hd ?_
        rw [← hL]
        exact hS h hx
      · obtain ⟨h1, h2⟩ := kind_42 hk
        have hT := (hA.sf.S _ h2).2
        rw [Nat.add_sub_cancel' h1] at hT
        have hs0 := con_sq (id := id) (by rw [hk]; decide)
        rw [cv_con hs0.1 hs0.2.1 hs0.2.2]
        rw [hlen 42 (by decide) hk] at h
        exact va_tlen hA.1 hA.2.1 hT hV rfl hd (hS h hx)
      · obtain rfl := kind_43 hk
        rw [cv_con (by decide +kernel) (by decide) (by decide)]
        rw [hlen 43 (by decide) hk] at h
        exact va_tlen hA.1 hA.2.1 hA.sf.TW hV rfl hd (hS h hx)
      · obtain rfl := kind_44 hk
        rw [cv_con (by decide +kernel) (by decide) (by decide)]
        rw [hlen 44 (by decide) hk] at h
        exact va_tlen hA.1 hA.2.1 hA.sf.TS hV rfl hd (hS h hx)
    · cases h
  · cases h
end ARR2
