/-! SOUNDNESS: one object changes -/
theorem a_big {id : Nat} (h : 2816 ≤ id) : a_kind id = 0 := by
  have h1 : ∀ k, k ≤ 2816 → Nat.ble k id = true := fun k hk => Nat.ble_eq.mpr (by omega)
  have h2 : ∀ k, k < 2816 → Nat.beq id k = false := fun k hk => by
    cases hb : Nat.beq id k with
    | false => rfl
    | true => have := Nat.eq_of_beq_eq_true hb; omega
  simp only [a_kind, h1 1225 (by omega), h1 2657 (by omega), h1 2705 (by omega), h1 2720 (by omega), h1 2728 (by omega), h1 2732 (by omega), h1 2752 (by omega), h1 2753 (by omega), h2 2753 (by omega), cond_true, cond_false]
theorem a_nth_nil {α : Type} : ∀ (l : List α) (d : α) {k : Nat}, l.length ≤ k → a_nth l d k = d
  | [], _, _, _ => rfl
  | a :: l, d, 0, h => by simp at h
  | a :: l, d, k + 1, h => a_nth_nil l d (by simpa using h)
theorem con_sq {id : Nat} (h : 36 ≤ a_kind id) : a_sq id = 0 ∧ id ≠ 0 ∧ id ≠ 2816 := by
  by_cases hid : id < 2816
  · exact co_dec (N := 2816) (P := fun id => 36 ≤ a_kind id → a_sq id = 0 ∧ id ≠ 0 ∧ id ≠ 2816) (by decide +kernel) hid h
  · rw [a_big (by omega)] at h; omega
theorem only_34 {k : Nat} (hk : k < 126) (h : a_kind (a_ord k) = 34) : k = 48 := co_dec (N := 126) (P := fun k => a_kind (a_ord k) = 34 → k = 48) (by decide +kernel) hk h
theorem only_35 {k : Nat} (hk : k < 126) (h : a_kind (a_ord k) = 35) : k = 125 := co_dec (N := 126) (P := fun k => a_kind (a_ord k) = 35 → k = 125) (by decide +kernel) hk h
theorem fkt_len {k : Nat} (hk : k < 126) : (a_nth a_fkt [] (a_kind (a_ord k))).length ≤ 66 := co_dec (N := 126) (P := fun k => (a_nth a_fkt [] (a_kind (a_ord k))).length ≤ 66) (by decide +kernel) hk
theorem fk_q6 {k j q : Nat} (hk : k < 126) (h : a_fk (a_kind (a_ord k)) j = (2, q)) : q < 6 := by
  have hkk := co_dec (N := 126) (P := fun k => (a_nth a_fkt [] (a_kind (a_ord k))).all (fun q => !(Nat.beq q.1 2) || Nat.blt q.2 6) = true) (by decide +kernel) hk
  have hm : (2, q) ∈ a_nth a_fkt [] (a_kind (a_ord k)) := by
    rcases a_nth_mem h with h | h
    · exact h
    · cases h
  have h6 := List.all_eq_true.mp hkk _ hm
  simp only [Bool.or_eq_true, Bool.not_eq_true'] at h6
  rcases h6 with h6 | h6
  · exact absurd h6 (by decide)
  · exact Nat.le_of_ble_eq_true h6
theorem live_le {id cnt : Nat} (h : a_live id cnt = true) : a_sq id ≤ cnt := Nat.le_of_ble_eq_true h
theorem kind_sq {id : Nat} (h : a_kind id ≠ 0) (h2 : a_kind id < 36) : a_sq id ≠ 0 := by
  by_cases hid : id < 2816
  · exact co_dec (N := 2816) (P := fun id => a_kind id ≠ 0 → a_kind id < 36 → a_sq id ≠ 0) (by decide +kernel) hid h h2
  · exact absurd (a_big (by omega)) h
theorem kind_36 {id : Nat} (h : a_kind id = 36) : id = 1344 := by
  by_cases hid : id < 2816
  · exact co_dec (N := 2816) (P := fun id => a_kind id = 36 → id = 1344) (by decide +kernel) hid h
  · rw [a_big (by omega)] at h; cases h
theorem kind_43 {id : Nat} (h : a_kind id = 43) : id = 2752 := by
  by_cases hid : id < 2816
  · exact co_dec (N := 2816) (P := fun id => a_kind id = 43 → id = 2752) (by decide +kernel) hid h
  · rw [a_big (by omega)] at h; cases h
theorem kind_44 {id : Nat} (h : a_kind id = 44) : id = 2753 := by
  by_cases hid : id < 2816
  · exact co_dec (N := 2816) (P := fun id => a_kind id = 44 → id = 2753) (by decide +kernel) hid h
  · rw [a_big (by omega)] at h; cases h
theorem kind_42 {id : Nat} (h : a_kind id = 42) : 2688 ≤ id ∧ id - 2688 < a_nS := by
  by_cases hid : id < 2816
  · exact co_dec (N := 2816) (P := fun id => a_kind id = 42 → 2688 ≤ id ∧ id - 2688 < a_nS) (by decide +kernel) hid h
  · rw [a_big (by omega)] at h; cases h
theorem kind_41 {id : Nat} (h : a_kind id = 41) : 2624 ≤ id ∧ id - 2624 < a_nS := by
  by_cases hid : id < 2816
  · exact co_dec (N := 2816) (P := fun id => a_kind id = 41 → 2624 ≤ id ∧ id - 2624 < a_nS) (by decide +kernel) hid h
  · rw [a_big (by omega)] at h; cases h
theorem kind_40 {id : Nat} (h : a_kind id = 40) : 2560 ≤ id ∧ id - 2560 < a_nW := by
  by_cases hid : id < 2816
  · exact co_dec (N := 2816) (P := fun id => a_kind id = 40 → 2560 ≤ id ∧ id - 2560 < a_nW) (by decide +kernel) hid h
  · rw [a_big (by omega)] at h; cases h
theorem kind_35 {id : Nat} (h : a_kind id = 35) : a_sz id = 1 := by
  by_cases hid : id < 2816
  · exact co_dec (N := 2816) (P := fun id => a_kind id = 35 → a_sz id = 1) (by decide +kernel) hid h
  · rw [a_big (by omega)] at h; cases h
theorem kind_34 {id : Nat} (h : a_kind id = 34) : a_sz id = 3 ∧ a_ord (a_sq id - 1) = id := by
  by_cases hid : id < 2816
  · exact co_dec (N := 2816) (P := fun id => a_kind id = 34 → a_sz id = 3 ∧ a_ord (a_sq id - 1) = id) (by decide +kernel) hid h
  · rw [a_big (by omega)] at h; cases h
theorem cv_live {G : AG} {id : Nat} (h : a_sq id ≠ 0) : cv G (.ref id) = .ref (g_ad G id) := by
  show (if id = 0 then Value.null else if id = 2816 then gF G else Value.ref (g_ad G id)) = _
  have h1 : id ≠ 0 := fun q => h (by rw [q]; decide +kernel)
  have h2 : id ≠ 2816 := fun q => h (sq_big (by omega))
  rw [if_neg h1, if_neg h2]
theorem cv_con {G : AG} {id : Nat} (h : a_sq id = 0) (h1 : id ≠ 0) (h2 : id ≠ 2816) : cv G (.ref id) = .ref (gC G id) := by
  show (if id = 0 then Value.null else if id = 2816 then gF G else Value.ref (g_ad G id)) = _
  rw [if_neg h1, if_neg h2]
  unfold g_ad
  rw [if_pos h]
theorem sc_free {k : Nat} (hk : k < 126) : 1280 ∉ keys (a_ord k) := co_dec (N := 126) (P := fun k => 1280 ∉ keys (a_ord k)) (by decide +kernel) hk
theorem reg_21 {k : Nat} (hk : k < 126) : ∀ q ∈ keys (a_ord k), q < 1344 := co_dec (N := 126) (P := fun k => ∀ q ∈ keys (a_ord k), q < 1344) (by decide +kernel) hk
theorem Wd.upd {G : AG} {μ μ' : AM} {H H1 : Heap} {id : Nat} (hW : Wd G μ H) (h0 : a_sq id ≠ 0) (hl : a_sq id ≤ μ.1) (hc : μ'.1 = μ.1) (hL : μ'.2.2.1 = μ.2.2.1) (hF : WF G μ') (he : ∀ k, k < 126 → k ≠ a_sq id - 1 → ent G μ' (a_ord k) = ent G μ (a_ord k)) (hat : va_at (gdC G, gdI G) a_vw (g_ad G id, ent G μ' id) H1) (hz : H1.size = H.size) (oq : ∀ q, q ≠ g_ad G id → H1[q]? = H[q]?) : Wd G μ' H1 := by
  obtain ⟨hP, hD, h1, h2, h3, h4⟩ := hW
  have hg := wsOf_get G μ h0 hl
  refine ⟨?_, ?_, by rw [hc, hz]; exact h1, fun q => by rw [hz, hc]; exact h2 (by rw [← hc]; exact q), by rw [hL]; exact h3, hF⟩
  · rw [wsOf_set G h0 hc h4.1 he]; exact hP.set hD hg hat oq
  · rw [wsOf_set G h0 hc h4.1 he]; exact hD.set hg
theorem key_split {r k r' k' : Nat} (h : k < 64) (h' : k' < 64) (e : 64 * r + k = 64 * r' + k') : r = r' ∧ k = k' := by omega
/-- numbers at a key of one object change: what other objects say stays -/
theorem ents_at (G : AG) {cnt asg L : Nat} {Is Is' : List (Nat → Nat → Int32)} {Rs : List Nat} {Lg : Int64} {id r0 k0 : Nat} (h0 : a_sq id ≠ 0) (hk : 64 * r0 + k0 ∈ keys id) (hk0 : k0 < 64) (hI : ∀ r k i, ¬ (r = r0 ∧ k = k0) → a_gt Is' r k i = a_gt Is r k i) : ∀ k, k < 126 → k ≠ a_sq id - 1 → ent G (cnt, asg, L, Is', Rs, Lg) (a_ord k) = ent G (cnt, asg, L, Is, Rs, Lg) (a_ord k) := by
  intro k hk1 hk2
  refine ent_congr G (fun r q hq hm i => hI r q i (fun hh => ?_))
  have h1 : a_sq id - 1 < 126 := by have := sq_le id; omega
  have h2 := keys_dj hk1 h1 hk2 _ hm
  rw [ord_sq h0, hh.1, hh.2] at h2
  exact h2 hk
theorem WF.pt {G : AG} {cnt asg L : Nat} {Is Is' : List (Nat → Nat → Int32)} {Rs : List Nat} {Lg Lg' : Int64} {id r0 k0 : Nat} (h : WF G (cnt, asg, L, Is, Rs, Lg)) (h0 : a_sq id ≠ 0) (hk : 64 * r0 + k0 ∈ keys id) (hlen : Is'.length = Is.length) (hI : ∀ r k i, ¬ (r = r0 ∧ k = k0) → a_gt Is' r k i = a_gt Is r k i) : WF G (cnt, asg, L, Is', Rs, Lg') := by
  obtain ⟨h1, h2, h3, h4, h5⟩ := h
  refine ⟨h1, hlen.trans h2, h3, h4, fun i => ?_⟩
  refine (hI 20 0 i (fun hh => ?_)).trans (h5 i)
  have q1 : a_sq id - 1 < 126 := by have := sq_le id; omega
  have q2 := sc_free q1
  rw [ord_sq h0] at q2
  rw [← hh.1, ← hh.2] at hk
  exact q2 hk
theorem key_row {id : Nat} (h : a_kind id = 32 ∨ a_kind id = 33) : 64 * a_reg id + a_loc id ∈ keys id := by
  unfold keys
  rw [if_pos h]
  exact List.mem_singleton.mpr rfl
theorem key_reg {id r k : Nat} (h0 : a_sq id ≠ 0) (h : 64 * r + k ∈ keys id) : r < 21 := by
  have q1 : a_sq id - 1 < 126 := by have := sq_le id; omega
  have q2 := reg_21 q1
  rw [ord_sq h0] at q2
  have := q2 _ h
  omega
theorem rdx_in {A : Nat → Int32} {n : Nat} {i v : Int32} (h : rdx A n i = some v) : vp_in i n ∧ v = A i.toNatClampNeg := by
  unfold rdx at h
  split at h
  · cases h
  · rename_i hn
    exact ⟨hn, (Option.some.inj h).symm⟩
theorem ixx_in {n : Nat} {i : Int32} {j : Nat} (h : ixx n i = some j) : vp_in i n ∧ j = i.toNatClampNeg := by
  unfold ixx at h
  split at h
  · cases h
  · rename_i hn
    exact ⟨hn, (Option.some.inj h).symm⟩
theorem ent_i (G : AG) (μ : AM) {id : Nat} (h : a_kind id = 32 ∨ a_kind id = 33) : ent G μ id = .inl (gA G (a_kind id), a_sz id, .inl (a_row μ.2.2.2.1 id)) := by
  obtain ⟨cnt, asg, L, Is, Rs, Lg⟩ := μ
  unfold ent
  simp only
  rw [if_pos h]
theorem ent_34 (G : AG) (μ : AM) {id : Nat} (h : a_kind id = 34) : ent G μ id = .inl (gA G 34, a_sz id, .inr (.inr (.inr (.inr (fun j => if a_nth μ.2.2.2.2.1 0 (6 + j) = 0 then none else some (g_ad G (a_nth μ.2.2.2.2.1 0 (6 + j)))))))) := by
  obtain ⟨cnt, asg, L, Is, Rs, Lg⟩ := μ
  unfold ent
  simp only
  rw [if_neg (by rw [h]; decide), if_pos h]
theorem ent_35 (G : AG) (μ : AM) {id : Nat} (h : a_kind id = 35) : ent G μ id = .inl (gA G 35, a_sz id, .inr (.inl (fun _ => μ.2.2.2.2.2))) := by
  obtain ⟨cnt, asg, L, Is, Rs, Lg⟩ := μ
  unfold ent
  simp only
  rw [if_neg (by rw [h]; decide), if_neg (by rw [h]; decide), if_pos h]
theorem ent_o (G : AG) (μ : AM) {id : Nat} (h : a_kind id < 32) : ent G μ id = .inr (a_kind id - 1, (List.range (a_sz id)).map (fval G μ id (a_kind id))) := by
  obtain ⟨cnt, asg, L, Is, Rs, Lg⟩ := μ
  unfold ent
  simp only
  rw [if_neg (by omega), if_neg (by omega), if_neg (by omega)]
theorem aopt {α : Type} {e : Option α} {f : α → Option AOut} {o : AOut} (h : a_opt e f = some o) : ∃ v, e = some v ∧ f v = some o := by
  cases e with
  | none => cases h
  | some v => exact ⟨v, rfl, h⟩
section ARR
variable {G : AG} {p : Program} {l : Launch} {e : Env} {R : Room} {s : State} {m : MethodId} {args : Array Value} {below : List Frame} {meth : Method} {c : Code} {H : Heap} {locs : List Loc} {cells slots mc ms : Nat} {arr : Array Slot} {d gc gs mi pc : Nat} {ls : List Slot} {st : List Value} {μ : AM} {o : AOut} {rec : ACfg → Option AOut} {x : Nat × Nat × Nat}
/-- what the heap holds of a living array of numbers -/
theorem cell_i {G : AG} {μ : AM} {H : Heap} {id : Nat} (hW : Wd G μ H) (hk : a_kind id = 32 ∨ a_kind id = 33) (hl : a_sq id ≤ μ.1) : a_sq id ≠ 0 ∧ H[g_ad G id]? = some (vp_cell (gA G (a_kind id)) (a_sz id, .inl (a_row μ.2.2.2.1 id))) := by
  have h0 : a_sq id ≠ 0 := kind_sq (by rcases hk with h | h <;> rw [h] <;> decide) (by rcases hk with h | h <;> rw [h] <;> decide)
  refine ⟨h0, ?_⟩
  have := hW.1 _ _ (wsOf_get G μ h0 hl)
  rw [ent_i G μ hk] at this
  exact this
theorem OP_iaload (hS : SN G l rec) (hG : GOK G) (hx : CX G p l R s m args meth c H locs cells slots mc ms arr d gc gs mi ls μ) (hd : decode (a_bytes mi) pc = .ok (.iaload, 1)) (h : a_ins rec (.iaload) d gc gs mi pc ls st μ x = some o) : GO G p l e R s m args below meth c H locs cells slots mc ms arr pc st o := by
  obtain ⟨cnt, asg, L, Is, Rs, Lg⟩ := μ
  obtain ⟨hA, hW, hV, hrest⟩ := id hx
  simp only [a_ins] at h
  split at h
  · rename_i i id r
    unfold a_iald at h
    simp only at h
    split at h
    · rename_i hb
      simp only [Bool.and_eq_true] at hb
      have hk := Nat.eq_of_beq_eq_true hb.1
      replace h := aopt h; obtain ⟨v, hv, h⟩ := h
      obtain ⟨hin, hve⟩ := rdx_in hv
      obtain ⟨h0, hc⟩ := cell_i hW (Or.inl hk) (live_le hb.2)
      have hlt : i.toNatClampNeg < a_sz id := Nat.not_le.mp fun q => hin (Or.inr q)
      show W p l e R s m args below meth c H locs cells slots _ (F0 m pc arr (.int i :: cv G (.ref id) :: r.map (cv G)))
      rw [cv_live h0]
      rw [hk] at hc
      exact W.iald (v := .int v) hA.1 hA.2.1 hc ((hA.sf.K.2 0 _ rfl).1 (a_sz id) (fun j => .int (a_row Is id j))) (fun q => by cases q) (by show ¬ (i < 0 ∨ (arrV _ _ _).slots.size ≤ _); rw [arrV_size]; exact hin) (by show (arrV _ _ _).slots[_]? = _; rw [arrV_read _ _ hlt, hve]) rfl rfl hd (hS h hx)
    · split at h
      · rename_i hb
        have hk := Nat.eq_of_beq_eq_true hb
        replace h := aopt h; obtain ⟨v, hv, h⟩ := h
        obtain ⟨hin, hve⟩ := rdx_in hv
        obtain rfl := kind_36 hk
        obtain ⟨hX, hX1, hX2⟩ := hA.sf.X
        show W p l e R s m args below meth c H locs cells slots _ (F0 m pc arr (.int i :: cv G (.ref 1344) :: r.map (cv G)))
        rw [cv_con (by decide +kernel) (by decide) (by decide), hG.2.1]
        have hL : L = gL G := hW.len
        have hv2 : v = gX G i.toNatClampNeg := hve.trans (hW.wf.sc _)
        refine va_sld hA.1 hA.2.1 hX hX1 hX2 hV (by rw [← hL]; exact hin) hd ?_
        rw [← hv2]
        exact hS h hx
      · split at h
        · rename_i hb
          have hk := Nat.eq_of_beq_eq_true hb
          replace h := aopt h; obtain ⟨v, hv, h⟩ := h
          obtain ⟨hin, hve⟩ := rdx_in hv
          obtain rfl := kind_44 hk
          show W p l e R s m args below meth c H locs cells slots _ (F0 m pc arr (.int i :: cv G (.ref 2753) :: r.map (cv G)))
          rw [cv_con (by decide +kernel) (by decide) (by decide)]
          refine va_ti hA.1 hA.2.1 hA.sf.TS hV hin (v := .int v) (by rw [hve]) hd ?_
          exact hS h hx
        · cases h
  · cases h
end ARR
