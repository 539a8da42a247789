/-! SOUNDNESS: objects and arrays are made; arrays are copied -/
theorem nN_pos {n : Int32} (h : 1 ≤ n.toNatClampNeg) : ¬ n < 0 := by
  intro q
  have h1 : n.toInt < 0 := by
    have := Int32.lt_iff_toInt_lt.mp q
    simpa using this
  have h2 : n.toNatClampNeg = n.toInt.toNat := rfl
  omega
theorem gt_zero (r0 k0 : Nat) : ∀ (zs : List Nat) (Is : List (Nat → Nat → Int32)) (r k i : Nat), a_gt (zs.foldl (fun I sh => a_pr I (r0 + sh) k0 (fun _ => 0)) Is) r k i = if k = k0 ∧ r < Is.length ∧ ∃ sh ∈ zs, r = r0 + sh then 0 else a_gt Is r k i
  | [], Is, r, k, i => by simp
  | sh :: zs, Is, r, k, i => by
    rw [List.foldl_cons, gt_zero r0 k0 zs]
    have hl : (a_pr Is (r0 + sh) k0 (fun _ => 0)).length = Is.length := by simp [a_pr]
    rw [hl, a_gt_pr]
    by_cases h1 : k = k0 ∧ r < Is.length ∧ ∃ sh ∈ zs, r = r0 + sh
    · rw [if_pos h1, if_pos ⟨h1.1, h1.2.1, by obtain ⟨x, hx, he⟩ := h1.2.2; exact ⟨x, List.mem_cons_of_mem _ hx, he⟩⟩]
    · rw [if_neg h1]
      by_cases h2 : r = r0 + sh ∧ k = k0 ∧ r0 + sh < Is.length
      · rw [if_pos h2, if_pos ⟨h2.2.1, by rw [h2.1]; exact h2.2.2, sh, List.mem_cons_self, h2.1⟩]
      · rw [if_neg h2, if_neg]
        rintro ⟨q1, q2, x, hx, he⟩
        rcases List.mem_cons.mp hx with rfl | hx
        · exact h2 ⟨he, q1, by omega⟩
        · exact h1 ⟨q1, q2, x, hx, he⟩
theorem len_zero (r0 k0 : Nat) : ∀ (zs : List Nat) (Is : List (Nat → Nat → Int32)), (zs.foldl (fun I sh => a_pr I (r0 + sh) k0 (fun _ => 0)) Is).length = Is.length
  | [], Is => rfl
  | sh :: zs, Is => by rw [List.foldl_cons, len_zero r0 k0 zs]; simp [a_pr]
theorem nth_zero : ∀ (qs : List Nat) (Rs : List Nat) (k : Nat), a_nth (qs.foldl (fun R q => R.set q 0) Rs) 0 k = if k ∈ qs then 0 else a_nth Rs 0 k
  | [], Rs, k => by simp
  | q :: qs, Rs, k => by
    rw [List.foldl_cons, nth_zero qs, a_nth_st]
    by_cases h1 : k ∈ qs
    · rw [if_pos h1, if_pos (List.mem_cons_of_mem _ h1)]
    · rw [if_neg h1]
      by_cases h2 : k = q
      · subst h2
        rw [if_pos List.mem_cons_self]
        by_cases h3 : k < Rs.length
        · rw [if_pos ⟨rfl, h3⟩]
        · rw [if_neg (fun z => h3 z.2)]
          exact a_nth_nil _ _ (by omega)
      · rw [if_neg (fun z => h2 z.1), if_neg]
        intro z
        rcases List.mem_cons.mp z with z | z
        · exact h2 z
        · exact h1 z
theorem lenR_zero : ∀ (qs : List Nat) (Rs : List Nat), (qs.foldl (fun R q => R.set q 0) Rs).length = Rs.length
  | [], Rs => rfl
  | q :: qs, Rs => by rw [List.foldl_cons, lenR_zero qs]; simp
theorem zs_tab {ci : Nat} (h1 : 1 ≤ ci) (h2 : ci ≤ 12) : (∀ k q, k < (a_fl ci).length → a_fk ci k = (0, q) → q ∈ (a_zs ci).1) ∧ (∀ k q, k < (a_fl ci).length → a_fk ci k = (2, q) → q ∈ (a_zs ci).2) ∧ (∀ q ∈ (a_zs ci).2, q < 6 ∧ ∃ k, k < (a_fl ci).length ∧ a_fk ci k = (2, q)) := by
  have h := co_dec (N := 13) (P := fun ci => 1 ≤ ci → ((List.range (a_fl ci).length).all (fun k => (!(Nat.beq (a_fk ci k).1 0) || (a_zs ci).1.contains (a_fk ci k).2) && (!(Nat.beq (a_fk ci k).1 2) || (a_zs ci).2.contains (a_fk ci k).2)) && (a_zs ci).2.all (fun q => Nat.blt q 6 && (List.range (a_fl ci).length).any (fun k => Nat.beq (a_fk ci k).1 2 && Nat.beq (a_fk ci k).2 q))) = true) (by decide +kernel) (show ci < 13 by omega) h1
  rw [Bool.and_eq_true] at h
  refine ⟨fun k q hk e => ?_, fun k q hk e => ?_, fun q hq => ?_⟩
  · have h3 := List.all_eq_true.mp h.1 k (List.mem_range.mpr hk)
    rw [e, Bool.and_eq_true] at h3
    have h4 := h3.1
    simp only [Bool.or_eq_true, Bool.not_eq_true'] at h4
    rcases h4 with h4 | h4
    · cases h4
    · exact List.contains_iff_mem.mp h4
  · have h3 := List.all_eq_true.mp h.1 k (List.mem_range.mpr hk)
    rw [e, Bool.and_eq_true] at h3
    have h4 := h3.2
    simp only [Bool.or_eq_true, Bool.not_eq_true'] at h4
    rcases h4 with h4 | h4
    · cases h4
    · exact List.contains_iff_mem.mp h4
  · have h3 := List.all_eq_true.mp h.2 q hq
    rw [Bool.and_eq_true] at h3
    refine ⟨Nat.le_of_ble_eq_true h3.1, ?_⟩
    obtain ⟨k, hk, he⟩ := List.any_eq_true.mp h3.2
    rw [Bool.and_eq_true] at he
    exact ⟨k, List.mem_range.mp hk, Prod.ext (Nat.eq_of_beq_eq_true he.1) (Nat.eq_of_beq_eq_true he.2)⟩
theorem zs_key {k : Nat} (hk : k < 126) (h1 : 1 ≤ a_kind (a_ord k)) (h2 : a_kind (a_ord k) ≤ 12) : ∀ sh ∈ (a_zs (a_kind (a_ord k))).1, 64 * (a_reg (a_ord k) + sh) + a_loc (a_ord k) ∈ keys (a_ord k) :=
  co_dec (N := 126) (P := fun k => 1 ≤ a_kind (a_ord k) → a_kind (a_ord k) ≤ 12 → ∀ sh ∈ (a_zs (a_kind (a_ord k))).1, 64 * (a_reg (a_ord k) + sh) + a_loc (a_ord k) ∈ keys (a_ord k)) (by decide +kernel) hk h1 h2
theorem fm_tab {k : Nat} (hk : k < 126) : ∀ j v, a_fk (a_kind (a_ord k)) j = (1, v) → a_fm (a_ord k) ≤ (a_fr (a_ord k) j).2 := by
  have h := co_dec (N := 126) (P := fun k => (List.range 66).all (fun j => !(Nat.beq (a_fk (a_kind (a_ord k)) j).1 1) || Nat.ble (a_fm (a_ord k)) (a_fr (a_ord k) j).2) = true) (by decide +kernel) hk
  have hlen := fkt_len hk
  intro j v e
  by_cases hj : j < 66
  · have h3 := List.all_eq_true.mp h j (List.mem_range.mpr hj)
    rw [e] at h3
    simp only [Bool.or_eq_true, Bool.not_eq_true'] at h3
    rcases h3 with h3 | h3
    · cases h3
    · exact Nat.le_of_ble_eq_true h3
  · have : a_fk (a_kind (a_ord k)) j = (9, 0) := a_nth_nil _ _ (by omega)
    rw [this] at e; cases e
theorem Wd.push {G : AG} {μ μ' : AM} {H H1 : Heap} {id : Nat} (hW : Wd G μ H) (hc : μ'.1 = μ.1 + 1) (hL : μ'.2.2.1 = μ.2.2.1) (hF : WF G μ') (hid : a_ord μ.1 = id) (hsq : a_sq id = μ.1 + 1) (hlt : μ.1 < a_made) (he : ∀ k, k < μ.1 → ent G μ' (a_ord k) = ent G μ (a_ord k)) (hat : va_at (gdC G, gdI G) a_vw (H.size, ent G μ' id) H1) (hz : H1.size = H.size + 1) (oq : ∀ q, q < H.size → H1[q]? = H[q]?) : Wd G μ' H1 ∧ g_ad G id = H.size := by
  obtain ⟨hP, hD, h1, h2, h3, h4⟩ := hW
  have hsz := h2 hlt
  have hw : wsOf G μ' = wsOf G μ ++ [(H.size, ent G μ' id)] := by
    unfold wsOf
    rw [hc, List.range_succ, List.map_append]
    congr 1
    · refine List.map_congr_left (fun k hk => ?_)
      rw [he k (List.mem_range.mp hk)]
    · simp only [List.map_cons, List.map_nil]
      rw [hid, hsz]
  refine ⟨⟨?_, ?_, by rw [hc]; omega, fun q => by rw [hc]; omega, by rw [hL]; exact h3, hF⟩, ?_⟩
  · rw [hw]
    refine (hP.kept (fun k q hq => oq _ (hP k q hq).lt)).app (fun k q hq => ?_)
    have hk : k < 1 := (List.getElem?_eq_some_iff.mp hq).1
    rw [show k = 0 by omega] at hq
    cases hq
    exact hat
  · rw [hw]
    exact hD.push hP rfl (show gB G ≤ H.size by omega)
  · unfold g_ad
    rw [if_neg (by omega), hsq, hsz]
    omega
theorem sS_new {A : Nat → Prop} {H0 H H1 : Heap} {locs : List Loc} (hV : va_S A H0 H locs) (hz : H1.size = H.size + 1) (oq : ∀ q, q < H.size → H1[q]? = H[q]?) : va_S A H0 H1 locs :=
  ⟨Nat.le_trans hV.1 (by omega), fun x h1 h2 => (oq x (Nat.lt_of_lt_of_le h1 hV.1)).trans (hV.2.1 x h1 h2), hV.2.2⟩
section NEW
variable {G : AG} {p : Program} {l : Launch} {e : Env} {R : Room} {s : State} {m : MethodId} {args : Array Value} {below : List Frame} {meth : Method} {c : Code} {H : Heap} {locs : List Loc} {cells slots mc ms : Nat} {arr : Array Slot} {d gc gs mi pc : Nat} {ls : List Slot} {st : List Value} {μ : AM} {o : AOut} {rec : ACfg → Option AOut} {x : Nat × Nat × Nat}
/-- an object's fields at its making -/
theorem born_tab {ci : Nat} (h1 : 1 ≤ ci) (h2 : ci ≤ 12) {k : Nat} (hk : k < (a_fl ci).length) : defaultValue (a_ty ci k) = match (a_fk ci k).1 with | 0 => .int 0 | _ => .null := by
  have h := co_dec (N := 13) (P := fun ci => 1 ≤ ci → (List.range (a_fl ci).length).all (fun k => decide (defaultValue (a_ty ci k) = match (a_fk ci k).1 with | 0 => .int 0 | _ => .null)) = true) (by decide +kernel) (show ci < 13 by omega) h1
  exact of_decide_eq_true (List.all_eq_true.mp h k (List.mem_range.mpr hk))
def newW (mi index : Nat) (x : Nat × Nat × Nat) : Prop := 1 ≤ x.1 ∧ x.1 ≤ 12 ∧ x.2.1 = (a_fl x.1).length ∧ Cond.classLink (a_own mi) index (a_cn x.1) ∈ a_W ∧ Cond.instantiable (a_cn x.1) x.2.1 ∈ a_W ∧ Cond.initialized (a_cn x.1) ∈ a_W
theorem OP_new {index : Nat} (hS : SN G l rec) (hx : CX G p l R s m args meth c H locs cells slots mc ms arr d gc gs mi ls μ) (hd : decode (a_bytes mi) pc = .ok (.new index, 3)) (hw : newW mi index x) (h : a_ins rec (.new index) d gc gs mi pc ls st μ x = some o) : GO G p l e R s m args below meth c H locs cells slots mc ms arr pc st o := by
  obtain ⟨cnt, asg, L, Is, Rs, Lg⟩ := μ
  obtain ⟨hA, hW, hV, hK, hwl, hln, hr⟩ := id hx
  obtain ⟨ci, n, wi⟩ := x
  obtain ⟨h1, h2, h3, hw1, hw2, hw3⟩ := hw
  simp only at h1 h2 h3 hw1 hw2 hw3
  simp only [a_ins] at h
  unfold a_new at h
  simp only at h
  split at h
  · rename_i hb
    have := Nat.eq_of_beq_eq_true hb
    omega
  · split at h
    · rename_i hb
      simp only [Bool.and_eq_true] at hb
      obtain ⟨⟨⟨⟨⟨hb1, hb2⟩, hb3⟩, hb4⟩, hb5⟩, hb6⟩ := hb
      have hk := Nat.eq_of_beq_eq_true hb1
      have hsq : a_sq (a_ord cnt) = cnt + 1 := Nat.eq_of_beq_eq_true hb2
      have g1 : 1 ≤ gc := Nat.le_of_ble_eq_true hb3
      have g2 : n ≤ gs := Nat.le_of_ble_eq_true hb4
      have g3 : n = a_sz (a_ord cnt) := Nat.eq_of_beq_eq_true hb5
      have g4 : asg + 1 ≤ a_fm (a_ord cnt) := Nat.le_of_ble_eq_true hb6
      subst hk
      obtain ⟨r1, r2, r3, r4, r5, r6⟩ := hr
      have hvw := vw_at h1 h2
      have hin := a_lay hvw
      have hKn := hA.sf.K.1 _ _ hvw
      have hc126 : cnt < 126 := by have := sq_le (a_ord cnt); omega
      have h0 : a_sq (a_ord cnt) ≠ 0 := by omega
      have hkey := zs_key hc126 h1 h2
      refine W.newcK hA.1 hA.2.1 hA.own (hA.wd _ hw1) (hA.wd _ hw2) (hA.wd _ hw3) rfl hd (by omega) (by omega) hKn.2.1 rfl fun H1 kC hkC e1 z1 o1 => ?_
      obtain ⟨zt1, zt2, zt3⟩ := zs_tab h1 h2
      have hI : ∀ r k i, ¬ (k = a_loc (a_ord cnt) ∧ ∃ sh ∈ (a_zs (a_kind (a_ord cnt))).1, r = a_reg (a_ord cnt) + sh) → a_gt ((a_zs (a_kind (a_ord cnt))).1.foldl (fun I sh => a_pr I (a_reg (a_ord cnt) + sh) (a_loc (a_ord cnt)) (fun _ => 0)) Is) r k i = a_gt Is r k i := fun r k i hn => by
        rw [gt_zero, if_neg (fun q => hn ⟨q.1, q.2.2⟩)]
      have h21 : Is.length = 21 := hW.wf.2.1
      have hWF : WF G (cnt + 1, asg, L, (a_zs (a_kind (a_ord cnt))).1.foldl (fun I sh => a_pr I (a_reg (a_ord cnt) + sh) (a_loc (a_ord cnt)) (fun _ => 0)) Is, (a_zs (a_kind (a_ord cnt))).2.foldl (fun R q => R.set q 0) Rs, Lg) := by
        refine ⟨by show cnt + 1 ≤ 126; omega, (len_zero _ _ _ _).trans h21, (lenR_zero _ _).trans hW.wf.2.2.1, fun j => ?_, fun i => ?_⟩
        · show a_nth ((a_zs (a_kind (a_ord cnt))).2.foldl (fun R q => R.set q 0) Rs) 0 (6 + j) ≠ 2816
          rw [nth_zero]
          split
          · decide
          · exact hW.wf.2.2.2.1 j
        · refine (hI 20 0 i (fun hh => ?_)).trans (hW.wf.sc i)
          obtain ⟨q1, sh, q2, q3⟩ := hh
          have := hkey sh q2
          rw [← q1, ← q3] at this
          exact sc_free hc126 this
      have hold : ∀ k, k < cnt → ent G (cnt + 1, asg, L, (a_zs (a_kind (a_ord cnt))).1.foldl (fun I sh => a_pr I (a_reg (a_ord cnt) + sh) (a_loc (a_ord cnt)) (fun _ => 0)) Is, (a_zs (a_kind (a_ord cnt))).2.foldl (fun R q => R.set q 0) Rs, Lg) (a_ord k) = ent G (cnt, asg, L, Is, Rs, Lg) (a_ord k) := by
        intro k hk
        have e1 : ent G (cnt + 1, asg, L, (a_zs (a_kind (a_ord cnt))).1.foldl (fun I sh => a_pr I (a_reg (a_ord cnt) + sh) (a_loc (a_ord cnt)) (fun _ => 0)) Is, (a_zs (a_kind (a_ord cnt))).2.foldl (fun R q => R.set q 0) Rs, Lg) (a_ord k) = ent G (cnt, asg, L, Is, (a_zs (a_kind (a_ord cnt))).2.foldl (fun R q => R.set q 0) Rs, Lg) (a_ord k) := by
          refine (ent_congr G (cnt := cnt) (asg := asg) (L := L) (Rs := (a_zs (a_kind (a_ord cnt))).2.foldl (fun R q => R.set q 0) Rs) (Lg := Lg) (fun r q hq hm i => hI r q i (fun hh => ?_)))
          obtain ⟨q1, sh, q2, q3⟩ := hh
          have h5 := hkey sh q2
          rw [← q1, ← q3] at h5
          exact keys_dj hc126 (show k < 126 by omega) (by omega) _ h5 hm
        rw [e1]
        unfold ent
        simp only
        split
        · rfl
        · split
          · have hn : ∀ j, a_nth ((a_zs (a_kind (a_ord cnt))).2.foldl (fun R q => R.set q 0) Rs) 0 (6 + j) = a_nth Rs 0 (6 + j) := fun j => by
              have : ¬ 6 + j ∈ (a_zs (a_kind (a_ord cnt))).2 := fun z => by have := (zt3 _ z).1; omega
              rw [nth_zero, if_neg this]
            simp only [hn]
          · split
            · rfl
            · congr 2
              refine List.map_congr_left (fun j hj => ?_)
              unfold fval
              simp only
              split
              · rfl
              · rfl
              · rename_i q hq
                have : ¬ q ∈ (a_zs (a_kind (a_ord cnt))).2 := fun z => by
                  obtain ⟨-, k', -, hk'⟩ := zt3 _ z
                  exact fk_uniq (show k < 126 by omega) hc126 (by omega) j q hq k' hk'
                rw [nth_zero, if_neg this]
              · rfl
      have hpush := hW.push (id := a_ord cnt) (μ' := (cnt + 1, asg, L, (a_zs (a_kind (a_ord cnt))).1.foldl (fun I sh => a_pr I (a_reg (a_ord cnt) + sh) (a_loc (a_ord cnt)) (fun _ => 0)) Is, (a_zs (a_kind (a_ord cnt))).2.foldl (fun R q => R.set q 0) Rs, Lg)) rfl rfl hWF rfl hsq hc126 hold (by
        rw [ent_o G _ (by omega)]
        refine ⟨_, hvw, (u_born (a_ty (a_kind (a_ord cnt))) hA.wd hin hKn hkC e1 (ty_tab h1 h2)).to (fun k hk => ?_)⟩
        rw [born_tab h1 h2 hk]
        show _ = ((List.range (a_sz (a_ord cnt))).map _).getD k Value.null
        rw [List.getD_eq_getElem?_getD, fs_get (by rw [sz_fl h1 h2]; exact hk)]
        simp only [Option.getD_some]
        have htab := fk_tab h1 h2 hk
        cases hfk : a_fk (a_kind (a_ord cnt)) k with
        | mk kd q =>
        rw [hfk] at htab
        simp only at htab
        unfold fval
        simp only [hfk]
        rcases htab with t | t | t
        · obtain ⟨rfl, -⟩ := t
          simp only
          rw [gt_zero, if_pos ⟨rfl, by have := key_reg h0 (hkey q (zt1 k q hk hfk)); omega, q, zt1 k q hk hfk, rfl⟩]
        · obtain ⟨rfl, -⟩ := t
          simp only
          rw [if_neg]
          have := fm_tab hc126 k q hfk
          omega
        · obtain ⟨rfl, -⟩ := t
          simp only
          rw [nth_zero, if_pos (zt2 k q hk hfk)]
          rfl) z1 o1
      have h2' := hS h (e := e) (below := below) ⟨hA, hpush.1, sS_new hV z1 o1, hK, hwl, hln, ⟨r1, r2, show cells + 1 + (gc - 1) ≤ mc by omega, show slots + n + (gs - n) ≤ ms by omega, r5, r6⟩⟩
      unfold GO at h2'
      rw [List.map_cons, cv_live h0, hpush.2] at h2'
      exact h2'
    · cases h
/-- the kinds of new arrays -/
def newaW (at_ : ArrayType) (k : Nat) : Prop := (at_ = .int ∧ k = 32) ∨ (at_ = .boolean ∧ k = 33) ∨ (at_ = .long ∧ k = 35)
theorem arr_W : Cond.arrayClass .int ∈ a_W ∧ Cond.arrayClass .boolean ∈ a_W ∧ Cond.arrayClass .long ∈ a_W := ⟨List.mem_filter.mpr ⟨List.contains_iff_mem.mp (by decide +kernel), rfl⟩, List.mem_filter.mpr ⟨List.contains_iff_mem.mp (by decide +kernel), rfl⟩, List.mem_filter.mpr ⟨List.contains_iff_mem.mp (by decide +kernel), rfl⟩⟩
theorem ent_keep (G : AG) {cnt cnt' asg L : Nat} {Is : List (Nat → Nat → Int32)} {Rs : List Nat} {Lg : Int64} (id : Nat) : ent G (cnt', asg, L, Is, Rs, Lg) id = ent G (cnt, asg, L, Is, Rs, Lg) id := rfl
theorem OP_newarray {at_ : ArrayType} (hS : SN G l rec) (hx : CX G p l R s m args meth c H locs cells slots mc ms arr d gc gs mi ls μ) (hd : decode (a_bytes mi) pc = .ok (.newarray at_, 2)) (hw : newaW at_ x.1) (h : a_ins rec (.newarray at_) d gc gs mi pc ls st μ x = some o) : GO G p l e R s m args below meth c H locs cells slots mc ms arr pc st o := by
  obtain ⟨cnt, asg, L, Is, Rs, Lg⟩ := μ
  obtain ⟨hA, hW, hV, hK, hwl, hln, hr⟩ := id hx
  obtain ⟨kd, y, wi⟩ := x
  simp only [a_ins] at h
  split at h
  · rename_i n r
    unfold a_newa at h
    simp only at h
    split at h
    · rename_i hb
      simp only [Bool.and_eq_true] at hb
      obtain ⟨⟨⟨⟨⟨⟨hb1, hb2⟩, hb3⟩, hb4⟩, hb5⟩, hb6⟩, hb7⟩ := hb
      have hk : a_kind (a_ord cnt) = kd := Nat.eq_of_beq_eq_true hb1
      have hsq : a_sq (a_ord cnt) = cnt + 1 := Nat.eq_of_beq_eq_true hb2
      have hn : n.toNatClampNeg = a_sz (a_ord cnt) := Nat.eq_of_beq_eq_true hb3
      have g1 : 1 ≤ gc := Nat.le_of_ble_eq_true hb4
      have g2 : a_sz (a_ord cnt) ≤ gs := Nat.le_of_ble_eq_true hb5
      have g3 : a_sz (a_ord cnt) ≤ 100000 := Nat.le_of_ble_eq_true hb6
      have g4 : 1 ≤ a_sz (a_ord cnt) := Nat.le_of_ble_eq_true hb7
      obtain ⟨r1, r2, r3, r4, r5, r6⟩ := hr
      have hc126 : cnt < 126 := by have := sq_le (a_ord cnt); omega
      have h0 : a_sq (a_ord cnt) ≠ 0 := by omega
      have hn0 : ¬ n < 0 := nN_pos (by omega)
      simp only at hw
      have fin : ∀ (H1 : Heap) (μ' : AM), Wd G μ' H1 ∧ g_ad G (a_ord cnt) = H.size → va_S (g_A G) s.heap H1 locs → rec (d, gc - 1, gs - a_sz (a_ord cnt), mi, pc + 2, ls, .ref (a_ord cnt) :: r, μ') = some o → W p l e R s m args below meth c H1 locs (cells + 1) (slots + n.toNatClampNeg) (vx_MQ below (QC G o) (XC G o) args s mc ms (g_A G)) (F0 m (pc + 2) arr (.ref H.size :: r.map (cv G))) := fun H1 μ' hp hv hr2 => by
        have h2' := hS hr2 (e := e) (below := below) ⟨hA, hp.1, hv, hK, hwl, hln, ⟨r1, r2, show cells + 1 + (gc - 1) ≤ mc by omega, show slots + n.toNatClampNeg + (gs - a_sz (a_ord cnt)) ≤ ms by omega, r5, r6⟩⟩
        unfold GO at h2'
        rw [List.map_cons, cv_live h0, hp.2] at h2'
        exact h2'
      have hint : ∀ {ty : FieldType} {t0 : Nat} {cA : ClassId} (_ : (a_tys G)[t0]? = some (gA G (a_kind (a_ord cnt)), ty)) (_ : s.vm.findClass ("[" ++ ty.toString) = some cA) (_ : ∀ C, ty ≠ .object C), cA = gA G (a_kind (a_ord cnt)) := fun {ty t0 cA} ht hf hno => by
        have h9 := (hA.sf.K.2 t0 _ ht).2
        cases ty with
        | object C => exact absurd rfl (hno C)
        | _ => exact Option.some.inj (hf.symm.trans h9)
      have hi : ∀ (H1 : Heap) (cA : ClassId), (a_kind (a_ord cnt) = 32 ∨ a_kind (a_ord cnt) = 33) → cA = gA G (a_kind (a_ord cnt)) → H1 = H.push { cls := cA, slots := Array.replicate n.toNatClampNeg (.int 0), vm := .none } → Wd G (cnt + 1, asg, L, a_pr Is (a_reg (a_ord cnt)) (a_loc (a_ord cnt)) (fun _ => 0), Rs, Lg) H1 ∧ g_ad G (a_ord cnt) = H.size := fun H1 cA hk2 hcA hH => by
        have hkey := key_row hk2
        have hreg : a_reg (a_ord cnt) < Is.length := by have := key_reg h0 hkey; have h21 : Is.length = 21 := hW.wf.2.1; omega
        have hWF := hW.wf.pt (Is' := a_pr Is (a_reg (a_ord cnt)) (a_loc (a_ord cnt)) (fun _ => 0)) (Lg' := Lg) h0 hkey (by simp [a_pr]) a_gr_off
        refine hW.push (id := a_ord cnt) (μ' := (cnt + 1, asg, L, a_pr Is (a_reg (a_ord cnt)) (a_loc (a_ord cnt)) (fun _ => 0), Rs, Lg)) rfl rfl ⟨by show cnt + 1 ≤ 126; omega, hWF.2⟩ rfl hsq hc126 (fun k hk3 => ?_) ?_ (by rw [hH, Array.size_push]) (fun q hq => by rw [hH, Array.getElem?_push, if_neg (Nat.ne_of_lt hq)])
        · exact ents_at G (cnt := cnt) h0 hkey (Nat.mod_lt _ (by decide)) a_gr_off k (by omega) (by omega)
        · rw [ent_i G _ hk2]
          show H1[H.size]? = some (vp_cell _ _)
          rw [row_pr hreg, vp_cell_i, hH, Array.getElem?_push_size, ← arrV_new, hcA, hn]
      rcases hw with ⟨rfl, hkd⟩ | ⟨rfl, hkd⟩ | ⟨rfl, hkd⟩
      · subst hkd
        refine W.newa (atype := .int) hA.1 hA.2.1 (hA.wd _ arr_W.1) rfl hd rfl hn0 (by rw [hn]; show a_sz (a_ord cnt) * 4 ≤ 536870912; omega) (by omega) (by omega) fun cA kA comp f1 f2 f3 => ?_
        have hcA := hint (ty := .int) (t0 := 0) (by rw [hk]; rfl) f1 (fun C => by simp)
        exact fin _ _ (hi _ cA (Or.inl hk) hcA rfl) (sS_new hV (by rw [Array.size_push]) (fun q hq => by rw [Array.getElem?_push, if_neg (Nat.ne_of_lt hq)])) h
      · subst hkd
        refine W.newa (atype := .boolean) hA.1 hA.2.1 (hA.wd _ arr_W.2.1) rfl hd rfl hn0 (by rw [hn]; show a_sz (a_ord cnt) * 1 ≤ 536870912; omega) (by omega) (by omega) fun cA kA comp f1 f2 f3 => ?_
        have hcA := hint (ty := .boolean) (t0 := 1) (by rw [hk]; rfl) f1 (fun C => by simp)
        exact fin _ _ (hi _ cA (Or.inr hk) hcA rfl) (sS_new hV (by rw [Array.size_push]) (fun q hq => by rw [Array.getElem?_push, if_neg (Nat.ne_of_lt hq)])) h
      · subst hkd
        refine W.newa (atype := .long) hA.1 hA.2.1 (hA.wd _ arr_W.2.2) rfl hd rfl hn0 (by rw [hn]; show a_sz (a_ord cnt) * 8 ≤ 536870912; omega) (by omega) (by omega) fun cA kA comp f1 f2 f3 => ?_
        have hcA := hint (ty := .long) (t0 := 3) (by rw [hk]; rfl) f1 (fun C => by simp)
        have hz : (H.push { cls := cA, slots := Array.replicate n.toNatClampNeg (defaultValue .long), vm := .none }).size = H.size + 1 := by rw [Array.size_push]
        have hq : ∀ q, q < H.size → (H.push ({ cls := cA, slots := Array.replicate n.toNatClampNeg (defaultValue .long), vm := .none } : Cell))[q]? = H[q]? := fun q hq => by rw [Array.getElem?_push, if_neg (Nat.ne_of_lt hq)]
        have hpush := hW.push (id := a_ord cnt) (μ' := (cnt + 1, asg, L, Is, Rs, 0)) rfl rfl ⟨by show cnt + 1 ≤ 126; omega, hW.wf.2⟩ rfl hsq hc126 (fun k hk3 => by
          unfold ent
          simp only
          split
          · rfl
          · split
            · rfl
            · split
              · rename_i h3
                exfalso
                have e1 := only_35 (show k < 126 by omega) h3
                omega
              · rfl) (H1 := H.push { cls := cA, slots := Array.replicate n.toNatClampNeg (defaultValue .long), vm := .none }) (by
          rw [ent_35 G _ hk]
          show _ = some (vp_cell _ _)
          rw [vp_cell_l, Array.getElem?_push_size, hcA, hk, hn, ← arrV_new]
          rfl) hz hq
        exact fin _ _ hpush (sS_new hV hz hq) h
    · cases h
  · cases h
theorem OP_anewarray {index : Nat} (hS : SN G l rec) (hx : CX G p l R s m args meth c H locs cells slots mc ms arr d gc gs mi ls μ) (hd : decode (a_bytes mi) pc = .ok (.anewarray index, 3)) (hw : Cond.classLink (a_own mi) index "YieldedHours$State" ∈ a_W) (h : a_ins rec (.anewarray index) d gc gs mi pc ls st μ x = some o) : GO G p l e R s m args below meth c H locs cells slots mc ms arr pc st o := by
  obtain ⟨cnt, asg, L, Is, Rs, Lg⟩ := μ
  obtain ⟨hA, hW, hV, hK, hwl, hln, hr⟩ := id hx
  simp only [a_ins] at h
  split at h
  · rename_i n r
    unfold a_newa at h
    simp only at h
    split at h
    · rename_i hb
      simp only [Bool.and_eq_true] at hb
      obtain ⟨⟨⟨⟨⟨⟨hb1, hb2⟩, hb3⟩, hb4⟩, hb5⟩, hb6⟩, hb7⟩ := hb
      have hk : a_kind (a_ord cnt) = 34 := Nat.eq_of_beq_eq_true hb1
      have hsq : a_sq (a_ord cnt) = cnt + 1 := Nat.eq_of_beq_eq_true hb2
      have hn : n.toNatClampNeg = a_sz (a_ord cnt) := Nat.eq_of_beq_eq_true hb3
      have g1 : 1 ≤ gc := Nat.le_of_ble_eq_true hb4
      have g2 : a_sz (a_ord cnt) ≤ gs := Nat.le_of_ble_eq_true hb5
      have hs3 := (kind_34 hk).1
      obtain ⟨r1, r2, r3, r4, r5, r6⟩ := hr
      have hc126 : cnt < 126 := by have := sq_le (a_ord cnt); omega
      have h0 : a_sq (a_ord cnt) ≠ 0 := by omega
      have hn0 : ¬ n < 0 := nN_pos (by omega)
      refine W.anew hA.1 hA.2.1 hA.own (hA.wd _ hw) (va_AO.use hA.sf.ao) rfl hd rfl hn0 (by rw [hn]; omega) (by omega) (by omega) fun cA kA comp f1 f2 f3 f4 => ?_
      have hcA : cA = gA G 34 := by
        obtain ⟨kA', comp', g1, g2, g3, g4⟩ := (hA.sf.K.2 2 _ rfl).2
        exact Option.some.inj (f1.symm.trans g4)
      have hz : (H.push { cls := cA, slots := Array.replicate n.toNatClampNeg .null, vm := .none }).size = H.size + 1 := by rw [Array.size_push]
      have hq : ∀ q, q < H.size → (H.push ({ cls := cA, slots := Array.replicate n.toNatClampNeg .null, vm := .none } : Cell))[q]? = H[q]? := fun q hq => by rw [Array.getElem?_push, if_neg (Nat.ne_of_lt hq)]
      have h9 : Rs.length = 9 := hW.wf.2.2.1
      have hnth : ∀ j, j < 6 → a_nth (Rs.take 6 ++ List.replicate (a_sz (a_ord cnt)) 0) 0 j = a_nth Rs 0 j := by
        intro j hj
        have key : ∀ (l l2 : List Nat) (n j : Nat), j < n → n ≤ l.length → a_nth (l.take n ++ l2) 0 j = a_nth l 0 j := by
          intro l
          induction l with
          | nil => intro l2 n j h1 h2; simp at h2; omega
          | cons a l ih =>
            intro l2 n j h1 h2
            cases n with
            | zero => omega
            | succ n => cases j with
              | zero => rfl
              | succ j => exact ih l2 n j (by omega) (by simpa using h2)
        exact key Rs _ 6 j hj (by omega)
      have hnth2 : ∀ j, a_nth (Rs.take 6 ++ List.replicate (a_sz (a_ord cnt)) 0) 0 (6 + j) = 0 := by
        intro j
        have key : ∀ (l l2 : List Nat) (n j : Nat), n ≤ l.length → a_nth (l.take n ++ l2) 0 (n + j) = a_nth l2 0 j := by
          intro l
          induction l with
          | nil => intro l2 n j h2; have : n = 0 := by simpa using h2
                   subst this; simp
          | cons a l ih =>
            intro l2 n j h2
            cases n with
            | zero => simp
            | succ n => rw [show n + 1 + j = (n + j) + 1 by omega]; exact ih l2 n j (by simpa using h2)
        rw [key Rs _ 6 j (by omega)]
        have key2 : ∀ (n j : Nat), a_nth (List.replicate n 0) 0 j = 0 := by
          intro n
          induction n with
          | zero => intro j; rfl
          | succ n ih => intro j; cases j with
            | zero => rfl
            | succ j => exact ih j
        exact key2 _ _
      have hpush := hW.push (id := a_ord cnt) (μ' := (cnt + 1, asg, L, Is, Rs.take 6 ++ List.replicate (a_sz (a_ord cnt)) 0, Lg)) rfl rfl ⟨by show cnt + 1 ≤ 126; omega, hW.wf.2.1, by show (Rs.take 6 ++ List.replicate (a_sz (a_ord cnt)) 0).length = 9; rw [List.length_append, List.length_take, List.length_replicate, hs3]; omega, fun j => by show a_nth (Rs.take 6 ++ List.replicate (a_sz (a_ord cnt)) 0) 0 (6 + j) ≠ 2816; rw [hnth2]; decide, hW.wf.2.2.2.2⟩ rfl hsq hc126 (fun k hk3 => by
        have hk34 : a_kind (a_ord k) ≠ 34 := by
          intro h3
          have e1 := only_34 (show k < 126 by omega) h3
          have e2 := only_34 hc126 hk
          omega
        unfold ent
        simp only
        rw [if_neg hk34, if_neg hk34]
        split
        · rfl
        · split
          · rfl
          · rename_i n1 n2
            congr 2
            refine List.map_congr_left (fun j hj => ?_)
            unfold fval
            simp only
            split
            · rfl
            · rfl
            · rename_i q hq
              rw [hnth q (fk_q6 (show k < 126 by omega) hq)]
            · rfl) (H1 := H.push { cls := cA, slots := Array.replicate n.toNatClampNeg .null, vm := .none }) (by
        rw [ent_34 G _ hk]
        show _ = some (vp_cell _ _)
        rw [vp_cell_q, Array.getElem?_push_size, hcA, hn]
        have : (fun j => va_rf (if a_nth (Rs.take 6 ++ List.replicate (a_sz (a_ord cnt)) 0) 0 (6 + j) = 0 then none else some (g_ad G (a_nth (Rs.take 6 ++ List.replicate (a_sz (a_ord cnt)) 0) 0 (6 + j))))) = fun _ => Value.null := funext fun j => by rw [hnth2, if_pos rfl]; rfl
        show _ = some (arrV (gA G 34) (a_sz (a_ord cnt)) (fun j => va_rf (if a_nth (Rs.take 6 ++ List.replicate (a_sz (a_ord cnt)) 0) 0 (6 + j) = 0 then none else some (g_ad G (a_nth (Rs.take 6 ++ List.replicate (a_sz (a_ord cnt)) 0) 0 (6 + j))))))
        rw [this, ← arrV_new]) hz hq
      have h2' := hS h (e := e) (below := below) ⟨hA, hpush.1, sS_new hV hz hq, hK, hwl, hln, ⟨r1, r2, show cells + 1 + (gc - 1) ≤ mc by omega, show slots + n.toNatClampNeg + (gs - a_sz (a_ord cnt)) ≤ ms by omega, r5, r6⟩⟩
      unfold GO at h2'
      rw [List.map_cons, cv_live h0, hpush.2] at h2'
      exact h2'
    · cases h
  · cases h
end NEW
