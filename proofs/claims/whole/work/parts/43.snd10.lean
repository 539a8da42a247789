/-! SOUNDNESS: Object's constructor, the copying of arrays -/
theorem wt_cv {G : AG} (hG : gok G) (r : List Value) : ((r.map (cv G)).map fun v => v.category).sum = a_wt r := by
  unfold a_wt
  congr 1
  rw [List.map_map]
  exact List.map_congr_left (fun v _ => cvv_cat (gcat hG) v)
section CPY
variable {G : AG} {p : Program} {l : Launch} {e : Env} {R : Room} {s : State} {m : MethodId} {args : Array Value} {below : List Frame} {meth : Method} {c : Code} {H : Heap} {locs : List Loc} {cells slots mc ms : Nat} {arr : Array Slot} {d gc gs mi pc : Nat} {ls : List Slot} {st : List Value} {μ : AM} {o : AOut} {rec : ACfg → Option AOut} {x : Nat × Nat × Nat}
theorem CX.size (hx : CX G p l R s m args meth c H locs cells slots mc ms arr d gc gs mi ls μ) : arr.size = c.maxLocals := by
  obtain ⟨hA, hW, hV, hK, hwl, hln, hr⟩ := hx
  rw [hA.maxl, ← hln]
  exact hK.1
def initW (mi index : Nat) : Prop := Cond.methodLink (a_own mi) index Lib.objectInit ∈ a_W ∧ Cond.instanceMethod Lib.objectInit ∈ a_W ∧ Cond.code Lib.objectInit ⟨#[0xb1]⟩ 1 none ∈ a_W
theorem OP_objInit {index : Nat} (hS : SN G l rec) (hG : GOK G) (hx : CX G p l R s m args meth c H locs cells slots mc ms arr d gc gs mi ls μ) (hd : decode (a_bytes mi) pc = .ok (.invokespecial index, 3)) (hq : x.1 = 998) (hw : initW mi index) (h : a_ins rec (.invokespecial index) d gc gs mi pc ls st μ x = some o) : GO G p l e R s m args below meth c H locs cells slots mc ms arr pc st o := by
  obtain ⟨cnt, asg, L, Is, Rs, Lg⟩ := μ
  obtain ⟨hA, hW, hV, hK, hwl, hln, hr⟩ := id hx
  obtain ⟨ci, k, wi⟩ := x
  simp only at hq
  subst hq
  simp only [a_ins] at h
  split at h
  · rename_i id r
    split at h
    · rename_i hb
      simp only [Bool.and_eq_true] at hb
      have h0 : a_sq id ≠ 0 := by have : 1 ≤ a_sq id := Nat.le_of_ble_eq_true hb.1.1.2; omega
      have hw8 : a_wt r ≤ 8 := Nat.le_of_ble_eq_true hb.2
      obtain ⟨r1, r2, -⟩ := hr
      have ha := cv_live (G := G) h0
      show W p l e R s m args below meth c H locs cells slots _ (F0 m pc arr (cv G (.ref id) :: r.map (cv G)))
      rw [ha]
      exact W.objInit hA.1 hA.2.1 hA.own (hA.wd _ hw.1) (hA.wd _ hw.2.1) (hA.wd _ hw.2.2) rfl (CX.size hx) rfl hd (by omega) (by show 2 * 0 + _ + 12 ≤ _; rw [wt_cv hG.1]; omega) (hS h hx)
    · cases h
  · cases h
theorem cpy_eq (f g : Nat → Int32) (sp dp n : Nat) : va_cpy f g sp dp n = a_cpy f g sp dp n := rfl
def cpyW (mi index : Nat) : Prop := Cond.methodLink (a_own mi) index arraycopyName ∈ a_W ∧ Cond.native arraycopyName ∈ a_W ∧ Cond.static arraycopyName ∈ a_W ∧ Cond.initialized "java/lang/System" ∈ a_W
theorem OP_arraycopy {index : Nat} (hS : SN G l rec) (hG : GOK G) (hx : CX G p l R s m args meth c H locs cells slots mc ms arr d gc gs mi ls μ) (hd : decode (a_bytes mi) pc = .ok (.invokestatic index, 3)) (hq : x.1 = 999) (hw : cpyW mi index) (h : a_ins rec (.invokestatic index) d gc gs mi pc ls st μ x = some o) : GO G p l e R s m args below meth c H locs cells slots mc ms arr pc st o := by
  obtain ⟨cnt, asg, L, Is, Rs, Lg⟩ := μ
  obtain ⟨hA, hW, hV, hrest⟩ := id hx
  obtain ⟨ci, k, wi⟩ := x
  simp only at hq
  subst hq
  simp only [a_ins] at h
  split at h
  · rename_i n dp b sp a r
    unfold a_acp at h
    simp only at h
    split at h
    · rename_i hb
      simp only [Bool.and_eq_true] at hb
      obtain ⟨⟨⟨⟨⟨b1, b2⟩, b3⟩, b4⟩, b5⟩, b6⟩ := hb
      have hka : a_kind a = 32 := Nat.eq_of_beq_eq_true b1
      have hkb : a_kind b = 32 := Nat.eq_of_beq_eq_true b2
      have hw8 : a_wt r ≤ 8 := Nat.le_of_ble_eq_true b6
      split at h
      · cases h
      · rename_i hn
        have g1 : ¬ sp < 0 := fun q => hn (Or.inl q)
        have g2 : ¬ dp < 0 := fun q => hn (Or.inr (Or.inl q))
        have g3 : ¬ n < 0 := fun q => hn (Or.inr (Or.inr (Or.inl q)))
        have g4 : sp.toNatClampNeg + n.toNatClampNeg ≤ a_sz a := Nat.not_lt.mp fun q => hn (Or.inr (Or.inr (Or.inr (Or.inl q))))
        have g5 : dp.toNatClampNeg + n.toNatClampNeg ≤ a_sz b := Nat.not_lt.mp fun q => hn (Or.inr (Or.inr (Or.inr (Or.inr q))))
        obtain ⟨ha0, hca⟩ := cell_i hW (Or.inl hka) (live_le b3)
        obtain ⟨hb0, hcb⟩ := cell_i hW (Or.inl hkb) (live_le b4)
        rw [hka] at hca
        rw [hkb] at hcb
        have hcb : H[g_ad G b]? = some (vp_cell (gA G 32) (a_sz b, .inl (a_row Is b))) := hcb
        have hca : H[g_ad G a]? = some (vp_cell (gA G 32) (a_sz a, .inl (a_row Is a))) := hca
        have hkey := key_row (Or.inl hkb : a_kind b = 32 ∨ a_kind b = 33)
        have hreg : a_reg b < Is.length := by have := key_reg hb0 hkey; have h21 : Is.length = 21 := hW.wf.2.1; omega
        have hr := hrest.2.2.2
        show W p l e R s m args below meth c H locs cells slots _ (F0 m pc arr (.int n :: .int dp :: cv G (.ref b) :: .int sp :: cv G (.ref a) :: r.map (cv G)))
        rw [cv_live ha0, cv_live hb0]
        have nn : ∀ z : Int32, ¬ z < 0 → z.toInt = (z.toNatClampNeg : Int) := by
          intro z hz
          have hz0 : (0 : Int) ≤ z.toInt := by
            have := Int32.not_lt.mp hz
            simpa using Int32.le_iff_toInt_le.mp this
          show z.toInt = ((z.toInt.toNat : Nat) : Int)
          omega
        have hloc : 2 * 0 + a_wt r + (nativeFrameWords "java/lang/System" "arraycopy" 5 + 11) ≤ R.locals := by
          have h2 := hr.2.1
          have h3 : nativeFrameWords "java/lang/System" "arraycopy" 5 + 11 ≤ 100 := by decide +kernel
          omega
        intro T hT X
        obtain ⟨-, k0, hk0, cm0, hkk0⟩ := (hA.sf.K.2 0 _ rfl).1 (a_sz a) (fun j => .int (a_row Is a j))
        obtain ⟨-, k1, hk1, cm1, hkk1⟩ := (hA.sf.K.2 0 _ rfl).1 (a_sz b) (fun j => .int (a_row Is b j))
        obtain ⟨vm', X', step⟩ := X.arraycopy hA.1 hA.own (hA.wd _ hw.1) (hA.wd _ hw.2.1) (hA.wd _ hw.2.2.1) (hA.wd _ hw.2.2.2) (src := g_ad G a) (dst := g_ad G b) (cs := vp_cell (gA G 32) (a_sz a, .inl (a_row Is a))) (cd := vp_cell (gA G 32) (a_sz b, .inl (a_row Is b))) (srcPos := sp) (destPos := dp) (n := n) (by rw [hT]; exact hca) (by rw [hT]; exact hcb)
          (fun _ h => by cases h) (fun _ h => by cases h) (fun h => by cases h) (fun h => by cases h) hk0 hk1 hkk0 hkk1 rfl g1 g2 g3
          (by rw [nn sp g1, nn n g3]; show ¬ _ > ((arrV (gA G 32) (a_sz a) (fun j => .int (a_row Is a j))).slots.size : Int); rw [arrV_size]; omega)
          (by rw [nn dp g2, nn n g3]; show ¬ _ > ((arrV (gA G 32) (a_sz b) (fun j => .int (a_row Is b j))).slots.size : Int); rw [arrV_size]; omega)
          (fun vm₁ _ i hi => by
            have e : (vp_cell (gA G 32) (a_sz a, .inl (a_row Is a))).slots.getD (sp.toNatClampNeg + i) .null = .int (a_row Is a (sp.toNatClampNeg + i)) := by
              show (arrV (gA G 32) (a_sz a) (fun j => .int (a_row Is a j))).slots.getD _ _ = _
              rw [Array.getD_eq_getD_getElem?, arrV_read _ _ (by omega)]
              rfl
            refine ⟨?_, ?_⟩
            · rw [e]
              rfl
            · rw [e]
              exact trivial)
          (g := F0 m pc arr (.int n :: .int dp :: .ref (g_ad G b) :: .int sp :: .ref (g_ad G a) :: r.map (cv G))) rfl (CX.size hx) (rest := r.map (cv G)) rfl (by rw [hA.2.1]; exact hd) (by have := hr.1; omega) (by show 2 * 0 + _ + _ ≤ _; rw [wt_cv hG.1]; exact hloc)
        have e1 : copied (vp_cell (gA G 32) (a_sz a, .inl (a_row Is a))) (vp_cell (gA G 32) (a_sz b, .inl (a_row Is b))) sp dp n = vp_cell (gA G 32) (a_sz b, .inl (va_cpy (a_row Is a) (a_row Is b) sp.toNatClampNeg dp.toNatClampNeg n.toNatClampNeg)) := va_copied (fun z => .int z) (gA G 32) (gA G 32) (a_row Is a) (a_row Is b) g4
        rw [e1] at X' step
        have hl : g_ad G b < H.size := (Array.getElem?_eq_some_iff.mp hcb).1
        generalize hcell : vp_cell (gA G 32) (a_sz b, .inl (va_cpy (a_row Is a) (a_row Is b) sp.toNatClampNeg dp.toNatClampNeg n.toNatClampNeg)) = cell at X' step
        have hheap : ((T.setVm vm').setCell (g_ad G b) cell).heap = H.setIfInBounds (g_ad G b) cell := by rw [← hT]; rfl
        have oq : ∀ q : Nat, q ≠ g_ad G b → (H.setIfInBounds (g_ad G b) cell)[q]? = H[q]? := fun q hq => by simp [Array.getElem?_setIfInBounds, Ne.symm hq]
        have z : (H.setIfInBounds (g_ad G b) cell).size = H.size := by simp
        have hgA := hW.2.1.2 _ _ (wsOf_get G _ hb0 (live_le b4))
        have hW1 : Wd G (cnt, asg, L, a_pr Is (a_reg b) (a_loc b) (a_cpy (a_row Is a) (a_row Is b) sp.toNatClampNeg dp.toNatClampNeg n.toNatClampNeg), Rs, Lg) (H.setIfInBounds (g_ad G b) cell) := by
          refine hW.upd hb0 (live_le b4) rfl rfl (hW.wf.pt hb0 hkey (by simp [a_pr]) a_gr_off) (ents_at G hb0 hkey (Nat.mod_lt _ (by decide)) a_gr_off) ?_ z oq
          rw [ent_i G _ (Or.inl hkb), hkb]
          show (H.setIfInBounds (g_ad G b) cell)[g_ad G b]? = some (vp_cell _ _)
          rw [row_pr hreg, ← cpy_eq, hcell]
          simp [Array.getElem?_setIfInBounds, hl]
        obtain ⟨t, a1, b1⟩ := hS h (e := e) (below := below) (locs := locs ++ ((vp_cell (gA G 32) (a_sz a, .inl (a_row Is a))).stretch sp.toNatClampNeg n.toNatClampNeg).zipIdx.map fun q => ⟨g_ad G b, dp.toNatClampNeg + q.2⟩) ⟨hA, hW1, ⟨by rw [z]; exact hV.1, fun q h1 h2 => by
            rw [oq q (fun e => h2 (by rw [e]; exact hgA))]
            exact hV.2.1 q h1 h2, fun q hq => by
            rcases List.mem_append.mp hq with h | h
            · exact hV.2.2 q h
            · obtain ⟨z, -, hz⟩ := List.mem_map.mp h
              rw [← hz]
              exact hgA⟩, hrest⟩ _ hheap X'
        exact ⟨t, step t a1, b1⟩
    · cases h
  · cases h
end CPY
