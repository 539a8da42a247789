/-! SOUNDNESS: the writing of fields -/
theorem fk_uniq {i j : Nat} (hi : i < 126) (hj : j < 126) (hij : i ≠ j) : ∀ k q, a_fk (a_kind (a_ord i)) k = (2, q) → ∀ k', a_fk (a_kind (a_ord j)) k' ≠ (2, q) := by
  have hlen : ∀ {k : Nat}, k < 126 → (a_nth a_fkt [] (a_kind (a_ord k))).length ≤ 66 := fun hk => fkt_len hk
  have hout : ∀ i, i < 126 → ∀ k, 66 ≤ k → a_fk (a_kind (a_ord i)) k = (9, 0) := fun i hi k hk => a_nth_nil _ _ (Nat.le_trans (hlen hi) hk)
  have h := co_dec (N := 126) (P := fun i => (List.range 66).all (fun k => !(Nat.beq (a_fk (a_kind (a_ord i)) k).1 2) || (List.range 126).all (fun j => Nat.beq i j || (List.range 66).all (fun k' => !(Nat.beq (a_fk (a_kind (a_ord j)) k').1 2 && Nat.beq (a_fk (a_kind (a_ord j)) k').2 (a_fk (a_kind (a_ord i)) k).2)))) = true) (by decide +kernel) hi
  intro k q hk k' hk'
  by_cases h66 : k < 66
  · by_cases h66' : k' < 66
    · have h2 := List.all_eq_true.mp h k (List.mem_range.mpr h66)
      rw [hk] at h2
      simp only [Bool.or_eq_true, Bool.not_eq_true'] at h2
      rcases h2 with h2 | h2
      · cases h2
      · have h3 := List.all_eq_true.mp h2 j (List.mem_range.mpr hj)
        simp only [Bool.or_eq_true] at h3
        rcases h3 with h3 | h3
        · exact hij (Nat.eq_of_beq_eq_true h3)
        · have h4 := List.all_eq_true.mp h3 k' (List.mem_range.mpr h66')
          rw [hk'] at h4
          have e1 : Nat.beq q q = true := Nat.beq_refl q
          simp [e1] at h4
    · rw [hout j hj k' (by omega)] at hk'; cases hk'
  · rw [hout i hi k (by omega)] at hk; cases hk
/-- within a class the places of the references that change are apart -/
theorem fk_inj {ci k k' q : Nat} (h1 : 1 ≤ ci) (h2 : ci ≤ 12) (hk : k < (a_fl ci).length) (hk' : k' < (a_fl ci).length) (e : a_fk ci k = (2, q)) (e' : a_fk ci k' = (2, q)) : k = k' := by
  have h := co_dec (N := 13) (P := fun ci => 1 ≤ ci → (List.range (a_fl ci).length).all (fun k => (List.range (a_fl ci).length).all (fun k' => Nat.beq k k' || !(Nat.beq (a_fk ci k).1 2 && Nat.beq (a_fk ci k').1 2 && Nat.beq (a_fk ci k).2 (a_fk ci k').2))) = true) (by decide +kernel) (show ci < 13 by omega) h1
  have h3 := List.all_eq_true.mp (List.all_eq_true.mp h k (List.mem_range.mpr hk)) k' (List.mem_range.mpr hk')
  rw [e, e'] at h3
  have e1 : Nat.beq q q = true := Nat.beq_refl q
  simp only [Bool.or_eq_true, e1, Bool.and_true, Bool.not_eq_true'] at h3
  rcases h3 with h3 | h3
  · exact Nat.eq_of_beq_eq_true h3
  · cases h3
/-- a class's shifts: of one field, one -/
theorem a_set_map {f g : Nat → Value} {n k : Nat} {v : Value} (hk : k < n) (h1 : g k = v) (h2 : ∀ j, j < n → j ≠ k → g j = f j) : (List.range n).map g = ((List.range n).map f).set k v := by
  apply List.ext_getElem?
  intro j
  rw [List.getElem?_set]
  by_cases hj : j < n
  · rw [fs_get hj]
    by_cases e : k = j
    · subst e
      rw [if_pos rfl, if_pos (by simpa using hj), h1]
    · rw [if_neg e, fs_get hj, h2 j hj (fun z => e z.symm)]
  · rw [List.getElem?_eq_none (by simpa using hj)]
    split
    · rename_i e
      rw [if_neg (by simp; omega)]
    · rw [List.getElem?_eq_none (by simpa using hj)]
section PUT
variable {G : AG} {p : Program} {l : Launch} {e : Env} {R : Room} {s : State} {m : MethodId} {args : Array Value} {below : List Frame} {meth : Method} {c : Code} {H : Heap} {locs : List Loc} {cells slots mc ms : Nat} {arr : Array Slot} {d gc gs mi pc : Nat} {ls : List Slot} {st : List Value} {μ : AM} {o : AOut} {rec : ACfg → Option AOut} {x : Nat × Nat × Nat}
/-- a field of a living object is written: the heap behind it -/
theorem put_row {Q : State → Prop} {index ci k : Nat} {id : Nat} {v : Value} {ty : FieldType} {rest : List Value} (hA : AC G p l s m args meth c mi) (hW : Wd G μ H) (h1 : 1 ≤ ci) (h2 : ci ≤ 12) (hkd : a_kind id = ci) (hl : a_sq id ≤ μ.1) (hk : k < (a_fl ci).length) (hw : Cond.fieldLink (a_own mi) index (a_T ci k).1 (a_T ci k).2.1 (a_T ci k).2.2.1 ∈ a_W) (hd : decode (a_bytes mi) pc = .ok (.putfield index, 3))
    (hdt : parseFieldDescriptor (a_T ci k).2.2.1 = some ty) (hn : narrow ty v = v) (hfit : fits ty v = true) (hfin : (a_T ci k).2.2.2 = false ∨ (a_T ci k).2.2.2 = true ∧ (a_name mi).name = "<init>" ∧ (a_T ci k).1 = a_own mi)
    (kk : ∀ (H1 : Heap) (z : Nat), va_at (gdC G, gdI G) a_vw (g_ad G id, .inr (ci - 1, ((List.range (a_sz id)).map (fval G μ id ci)).set k v)) H1 → H1.size = H.size → (∀ q, q ≠ g_ad G id → H1[q]? = H[q]?) → W p l e R s m args below meth c H1 (locs ++ [⟨g_ad G id, z⟩]) cells slots Q (F0 m (pc + 3) arr rest)) :
    W p l e R s m args below meth c H locs cells slots Q (F0 m pc arr (v :: .ref (g_ad G id) :: rest)) := by
  have h0 : a_sq id ≠ 0 := kind_sq (by omega) (by omega)
  have hg := wsOf_get G μ h0 hl
  rw [ent_o G _ (by omega), hkd] at hg
  have hc := vw_at h1 h2
  have hin := a_lay hc
  have hts := hA.wd
  have hK := hA.sf.K
  have hap := va_apart (own := a_own mi) (D := (gdC G, gdI G)) (ci := ci - 1) hts hin (a_ty ci) (ty_tab h1 h2) (nm_tab h1 h2) hK hc
  obtain ⟨r, hr1, cell, q1, q2, q3, q4⟩ := hW.1 _ _ hg
  have hr : r = (a_cn ci, a_T ci, (a_fl ci).length) := Option.some.inj (hr1.symm.trans hc)
  subst hr
  obtain ⟨hS, hfc, kC, hkC, hkind⟩ := hK.1 (ci - 1) _ hc
  obtain ⟨cf, kf, fi, f, hi, hsl⟩ := hS k hk
  have hlay := hts _ (hin _ (u_in_lay hk))
  unfold u_lay at hlay
  have hst := (u_facts hfc hkC (u_lays hts hin hk) hi).1
  have hsz : k < ((List.range (a_sz id)).map (fval G μ id ci)).length := by rw [List.length_map, List.length_range, sz_fl (by omega) (by omega), hkd]; exact hk
  have fin : ∀ (H1 : Heap), H1[g_ad G id]? = some (cell.setSlot f.slot v) → va_at (gdC G, gdI G) a_vw (g_ad G id, .inr (ci - 1, ((List.range (a_sz id)).map (fval G μ id ci)).set k v)) H1 := fun H1 e1 => by
    rw [hsl] at e1
    exact ⟨_, hc, t_OB.to (V := updV (vp_V ((List.range (a_sz id)).map (fval G μ id ci))) k v) ⟨_, e1, q2, q3, t_set q4 hap hk v⟩ (fun j _ => vp_updV_set hsz v j)⟩
  rcases hfin with hfin | ⟨hfin, hin2, hdecl⟩
  · rw [if_neg (by rw [hfin]; decide)] at hlay
    have h6 := u_store hfc hkC hkind hlay hi hdt hn hfit
    exact W.putK hA.1 hA.2.1 (f := f) ⟨hA.own, hA.wd _ hw, ⟨_, _, _, hi⟩, hst⟩ (by rw [q2]; exact h6) q1 q3 (by rw [hsl]; exact k2_hasslot (q4 k hk)) rfl rfl hd fun H1 e1 e2 e3 => kk H1 _ (fin H1 e1) e2 e3
  · rw [if_pos hfin] at hlay
    have hcf : m.cls = cf := by
      obtain ⟨_, _, c', _, _, _, -, -, hf', -, -, -, hown2, -⟩ := Cond.laysFinal_spec hlay
      have e1 : c' = cf := by have := hi.symm.trans hf'; simp at this; exact this.1.symm
      rw [hdecl] at hown2
      rw [← e1]; exact Option.some.inj (hA.own.symm.trans hown2)
    have h6 := u_fits hfc hkC hkind (Or.inr hlay) hi hdt hn hfit
    exact W.putFinK hA.1 hA.2.1 hA.own (hA.wd _ hw) hi hst hcf (hA.name.trans hin2) (by rw [q2]; exact h6) q1 q3 (by rw [hsl]; exact k2_hasslot (q4 k hk)) rfl rfl hd fun H1 e1 e2 e3 => kk H1 _ (fin H1 e1) e2 e3
theorem ty_ref {ci k : Nat} (h1 : 1 ≤ ci) (h2 : ci ≤ 12) (hk : k < (a_fl ci).length) (h : (a_fk ci k).1 = 1 ∨ (a_fk ci k).1 = 2) : ∃ ty, parseFieldDescriptor (a_T ci k).2.2.1 = some ty ∧ ∀ v : Value, (v = .null ∨ ∃ a, v = .ref a) → narrow ty v = v ∧ fits ty v = true := by
  refine ⟨_, ty_tab h1 h2 k hk, ?_⟩
  have h := co_dec (N := 13) (P := fun ci => 1 ≤ ci → (List.range (a_fl ci).length).all (fun k => !(Nat.beq (a_fk ci k).1 1 || Nat.beq (a_fk ci k).1 2) || (match a_ty ci k with | .object _ => true | .array _ => true | _ => false)) = true) (by decide +kernel) (show ci < 13 by omega) h1
  have h3 := List.all_eq_true.mp h k (List.mem_range.mpr hk)
  rename_i hkd
  have hb : (Nat.beq (a_fk ci k).1 1 || Nat.beq (a_fk ci k).1 2) = true := by
    rcases hkd with z | z <;> rw [z] <;> rfl
  rw [hb] at h3
  intro v hv
  cases hty : a_ty ci k with
  | object n => rcases hv with rfl | ⟨a, rfl⟩ <;> exact ⟨rfl, rfl⟩
  | array t => rcases hv with rfl | ⟨a, rfl⟩ <;> exact ⟨rfl, rfl⟩
  | _ => rw [hty] at h3; simp at h3
def putW (mi index : Nat) (x : Nat × Nat × Nat) : Prop := 1 ≤ x.1 ∧ x.1 ≤ 12 ∧ x.2.1 < (a_fl x.1).length ∧ Cond.fieldLink (a_own mi) index (a_T x.1 x.2.1).1 (a_T x.1 x.2.1).2.1 (a_T x.1 x.2.1).2.2.1 ∈ a_W ∧ ((a_T x.1 x.2.1).2.2.2 = false ∨ (a_T x.1 x.2.1).2.2.2 = true ∧ (a_name mi).name = "<init>" ∧ (a_T x.1 x.2.1).1 = a_own mi)
/-- a final reference's number is its own -/
theorem fr_inj {i j k k' q v v' : Nat} (hi : i < 126) (hj : j < 126) (h1 : a_fk (a_kind (a_ord i)) k = (1, v)) (h2 : a_fk (a_kind (a_ord j)) k' = (1, v')) (e1 : (a_fr (a_ord i) k).2 = q) (e2 : (a_fr (a_ord j) k').2 = q) : i = j ∧ k = k' := by
  have hlen : ∀ {k : Nat}, k < 126 → (a_nth a_fkt [] (a_kind (a_ord k))).length ≤ 66 := fun hk => fkt_len hk
  have hout : ∀ i, i < 126 → ∀ k, 66 ≤ k → a_fk (a_kind (a_ord i)) k = (9, 0) := fun i hi k hk => a_nth_nil _ _ (Nat.le_trans (hlen hi) hk)
  have hk : k < 66 := by
    by_cases hk : k < 66
    · exact hk
    · rw [hout i hi k (by omega)] at h1; cases h1
  have hk' : k' < 66 := by
    by_cases hk : k' < 66
    · exact hk
    · rw [hout j hj k' (by omega)] at h2; cases h2
  have h : ∀ {i : Nat}, i < 126 → (List.range 66).all (fun k => !(Nat.beq (a_fk (a_kind (a_ord i)) k).1 1) || (Nat.beq (a_frn (a_fr (a_ord i) k).2).1 i && Nat.beq (a_frn (a_fr (a_ord i) k).2).2 k)) = true := fun {i} hi => co_dec (N := 126) (P := fun i => (List.range 66).all (fun k => !(Nat.beq (a_fk (a_kind (a_ord i)) k).1 1) || (Nat.beq (a_frn (a_fr (a_ord i) k).2).1 i && Nat.beq (a_frn (a_fr (a_ord i) k).2).2 k)) = true) (by decide +kernel) hi
  have g1 := List.all_eq_true.mp (h hi) k (List.mem_range.mpr hk)
  have g2 := List.all_eq_true.mp (h hj) k' (List.mem_range.mpr hk')
  rw [h1] at g1
  rw [h2] at g2
  simp only [Bool.or_eq_true, Bool.and_eq_true, Bool.not_eq_true'] at g1 g2
  rcases g1 with g1 | g1
  · cases g1
  · rcases g2 with g2 | g2
    · cases g2
    · rw [e1] at g1
      rw [e2] at g2
      exact ⟨(Nat.eq_of_beq_eq_true g1.1).symm.trans (Nat.eq_of_beq_eq_true g2.1), (Nat.eq_of_beq_eq_true g1.2).symm.trans (Nat.eq_of_beq_eq_true g2.2)⟩
theorem OP_putfield {index : Nat} (hS : SN G l rec) (hG : GOK G) (hx : CX G p l R s m args meth c H locs cells slots mc ms arr d gc gs mi ls μ) (hd : decode (a_bytes mi) pc = .ok (.putfield index, 3)) (hw : putW mi index x) (h : a_ins rec (.putfield index) d gc gs mi pc ls st μ x = some o) : GO G p l e R s m args below meth c H locs cells slots mc ms arr pc st o := by
  obtain ⟨cnt, asg, L, Is, Rs, Lg⟩ := μ
  obtain ⟨hA, hW, hV, hrest⟩ := id hx
  obtain ⟨ci, k, wi⟩ := x
  obtain ⟨h1, h2, h3, hw, hfin⟩ := hw
  simp only at h1 h2 h3 hw hfin
  simp only [a_ins] at h
  unfold a_putf at h
  have htab := fk_tab h1 h2 h3
  cases hfk : a_fk ci k with
  | mk kd q =>
  rw [hfk] at htab h
  simp only at htab h
  split at h
  · rename_i hkd
    have hkd := Nat.eq_of_beq_eq_true hkd
    subst hkd
    split at h
    · rename_i v id r
      split at h
      · rename_i hb
        simp only [Bool.and_eq_true] at hb
        have hk := Nat.eq_of_beq_eq_true hb.1
        subst hk
        have h0 : a_sq id ≠ 0 := kind_sq (by omega) (by omega)
        have hI : (a_T (a_kind id) k).2.2.1 = "I" := by
          rcases htab with t | t | t
          · exact t.2.1
          · exact absurd t.1 (by decide)
          · exact absurd t.1 (by decide)
        have hkey := key_fld h1 h2 h3 hfk
        have hreg : a_reg id + q < Is.length := by have := key_reg h0 hkey; have h21 : Is.length = 21 := hW.wf.2.1; omega
        show W p l e R s m args below meth c H locs cells slots _ (F0 m pc arr (.int v :: cv G (.ref id) :: r.map (cv G)))
        rw [cv_live h0]
        refine put_row (ty := .int) hA hW h1 h2 rfl (live_le hb.2) h3 hw hd (by rw [hI]; decide +kernel) rfl rfl hfin fun H1 z hat hz oq => ?_
        have hW1 : Wd G (cnt, asg, L, a_pt Is (a_reg id + q) (a_loc id) k v, Rs, Lg) H1 := by
          refine hW.upd h0 (live_le hb.2) rfl rfl (hW.wf.pt h0 hkey (by simp [a_pt]) a_gt_off) (ents_at G h0 hkey (Nat.mod_lt _ (by decide)) a_gt_off) ?_ hz oq
          rw [ent_o G _ (by omega), a_set_map (f := fval G (cnt, asg, L, Is, Rs, Lg) id (a_kind id)) (k := k) (v := .int v) (by rw [sz_fl h1 h2]; exact h3)]
          · exact hat
          · unfold fval
            simp only [hfk]
            rw [a_gt_pt, if_pos ⟨rfl, rfl, rfl, hreg⟩]
          · intro j hj hjk
            unfold fval
            simp only
            split
            · rw [a_gt_pt, if_neg (fun z => hjk z.2.2.1)]
            · rfl
            · rfl
            · rfl
        exact hS h ⟨hA, hW1, hV.put hz oq (hW.2.1.2 _ _ (wsOf_get G _ h0 (live_le hb.2))), hrest⟩
      · cases h
    · cases h
  · split at h
    · rename_i hkd
      have hkd := Nat.eq_of_beq_eq_true hkd
      subst hkd
      split at h
      · rename_i v id r
        cases hfr : a_fr id k with
        | mk w q' =>
        rw [hfr] at h
        simp only at h
        split at h
        · rename_i hb
          simp only [Bool.and_eq_true] at hb
          have hk := Nat.eq_of_beq_eq_true hb.1.1.1.1
          subst hk
          have hvw : v = w := Nat.eq_of_beq_eq_true hb.1.1.2
          subst hvw
          have hq' : q' = asg + 1 := Nat.eq_of_beq_eq_true hb.1.2
          subst hq'
          have h0 : a_sq id ≠ 0 := kind_sq (by omega) (by omega)
          obtain ⟨ty, hty, href⟩ := ty_ref h1 h2 h3 (Or.inl (by rw [hfk]))
          have hvr := href _ (cv_ref (G := G) hG.1 v)
          show W p l e R s m args below meth c H locs cells slots _ (F0 m pc arr (cv G (.ref v) :: cv G (.ref id) :: r.map (cv G)))
          rw [cv_live h0]
          refine put_row (ty := ty) hA hW h1 h2 rfl (live_le hb.1.1.1.2) h3 hw hd hty hvr.1 hvr.2 hfin fun H1 z hat hz oq => ?_
          have hsq : a_sq id - 1 < 126 := by have := sq_le id; omega
          have hW1 : Wd G (cnt, asg + 1, L, Is, Rs, Lg) H1 := by
            refine hW.upd h0 (live_le hb.1.1.1.2) rfl rfl hW.wf ?_ ?_ hz oq
            · intro j hj1 hj2
              unfold ent
              simp only
              split
              · rfl
              · split
                · rfl
                · split
                  · rfl
                  · congr 2
                    refine List.map_congr_left (fun i hi => ?_)
                    unfold fval
                    simp only
                    split
                    · rfl
                    · rename_i u hu
                      have hne : (a_fr (a_ord j) i).2 ≠ asg + 1 := fun z => hj2 (fr_inj (i := j) (j := a_sq id - 1) (q := asg + 1) hj1 hsq hu (by rw [ord_sq h0]; exact hfk) z (by rw [ord_sq h0, hfr])).1
                      by_cases hle : (a_fr (a_ord j) i).2 ≤ asg
                      · rw [if_pos hle, if_pos (by omega)]
                      · rw [if_neg hle, if_neg (by omega)]
                    · rfl
                    · rfl
            · rw [ent_o G _ (by omega), a_set_map (f := fval G (cnt, asg, L, Is, Rs, Lg) id (a_kind id)) (k := k) (v := cv G (.ref v)) (by rw [sz_fl h1 h2]; exact h3)]
              · exact hat
              · unfold fval
                simp only [hfk, hfr]
                rw [if_pos (Nat.le_refl _)]
              · intro i hi hik
                unfold fval
                simp only
                split
                · rfl
                · rename_i u hu
                  have hne : (a_fr id i).2 ≠ asg + 1 := fun z => hik (fr_inj (i := a_sq id - 1) (j := a_sq id - 1) (q := asg + 1) hsq hsq (by rw [ord_sq h0]; exact hu) (by rw [ord_sq h0]; exact hfk) (by rw [ord_sq h0]; exact z) (by rw [ord_sq h0, hfr])).2
                  by_cases hle : (a_fr id i).2 ≤ asg
                  · rw [if_pos hle, if_pos (by omega)]
                  · rw [if_neg hle, if_neg (by omega)]
                · rfl
                · rfl
          exact hS h ⟨hA, hW1, hV.put hz oq (hW.2.1.2 _ _ (wsOf_get G _ h0 (live_le hb.1.1.1.2))), hrest⟩
        · cases h
      · cases h
    · split at h
      · rename_i hkd
        have hkd := Nat.eq_of_beq_eq_true hkd
        subst hkd
        split at h
        · rename_i v id r
          split at h
          · rename_i hb
            simp only [Bool.and_eq_true] at hb
            have hk := Nat.eq_of_beq_eq_true hb.1
            subst hk
            have h0 : a_sq id ≠ 0 := kind_sq (by omega) (by omega)
            obtain ⟨ty, hty, href⟩ := ty_ref h1 h2 h3 (Or.inr (by rw [hfk]))
            have hvr := href _ (cv_ref (G := G) hG.1 v)
            have hq6 : q < 6 := by
              rcases htab with t | t | t
              · exact absurd t.1 (by decide)
              · exact absurd t.1 (by decide)
              · exact t.2.2
            have h9 : Rs.length = 9 := hW.wf.2.2.1
            show W p l e R s m args below meth c H locs cells slots _ (F0 m pc arr (cv G (.ref v) :: cv G (.ref id) :: r.map (cv G)))
            rw [cv_live h0]
            refine put_row (ty := ty) hA hW h1 h2 rfl (live_le hb.2) h3 hw hd hty hvr.1 hvr.2 hfin fun H1 z hat hz oq => ?_
            have hsq : a_sq id - 1 < 126 := by have := sq_le id; omega
            have hW1 : Wd G (cnt, asg, L, Is, Rs.set q v, Lg) H1 := by
              refine hW.upd h0 (live_le hb.2) rfl rfl ⟨hW.wf.1, hW.wf.2.1, by show (Rs.set _ _).length = 9; rw [List.length_set]; exact h9, fun j => ?_, hW.wf.2.2.2.2⟩ ?_ ?_ hz oq
              · show a_nth (Rs.set q v) 0 (6 + j) ≠ 2816
                rw [a_nth_st, if_neg (by omega)]
                exact hW.wf.2.2.2.1 j
              · intro j hj1 hj2
                unfold ent
                simp only
                split
                · rfl
                · split
                  · have hn : ∀ i, a_nth (Rs.set q v) 0 (6 + i) = a_nth Rs 0 (6 + i) := fun i => by rw [a_nth_st, if_neg (show ¬ (6 + i = q ∧ q < Rs.length) from fun z => by omega)]
                    simp only [hn]
                  · split
                    · rfl
                    · congr 2
                      refine List.map_congr_left (fun i hi => ?_)
                      unfold fval
                      simp only
                      split
                      · rfl
                      · rfl
                      · rename_i u hu
                        have hne : u ≠ q := fun z => fk_uniq hj1 hsq hj2 i u hu k (by rw [ord_sq h0, z]; exact hfk)
                        rw [a_nth_st, if_neg (fun z => hne z.1)]
                      · rfl
              · rw [ent_o G _ (by omega), a_set_map (f := fval G (cnt, asg, L, Is, Rs, Lg) id (a_kind id)) (k := k) (v := cv G (.ref v)) (by rw [sz_fl h1 h2]; exact h3)]
                · exact hat
                · unfold fval
                  simp only [hfk]
                  rw [a_nth_st, if_pos ⟨rfl, by omega⟩]
                · intro i hi hik
                  unfold fval
                  simp only
                  split
                  · rfl
                  · rfl
                  · rename_i u hu
                    have hne : u ≠ q := fun z => hik (fk_inj h1 h2 (by rw [← sz_fl h1 h2]; exact hi) h3 hu (by rw [z]; exact hfk))
                    rw [a_nth_st, if_neg (fun z => hne z.1)]
                  · rfl
            exact hS h ⟨hA, hW1, hV.put hz oq (hW.2.1.2 _ _ (wsOf_get G _ h0 (live_le hb.2))), hrest⟩
          · cases h
        · cases h
      · cases h
end PUT
