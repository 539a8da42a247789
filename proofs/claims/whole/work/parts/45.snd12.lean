/-! SOUNDNESS: references compared, switches, throws -/
theorem ok_w {G : AG} (hG : GOK G) {x : Nat} (h : okW x) : ∃ r : Option Nat, cv G (.ref x) = va_rf r ∧ (x = 0 → r = none) ∧ (x ≠ 0 → r = some (gC G x)) := by
  rcases h with rfl | ⟨h1, h2⟩
  · exact ⟨none, rfl, fun _ => rfl, fun q => absurd rfl q⟩
  · have hk : a_sq x = 0 := by
      have := co_dec (N := 2816) (P := fun x => 2560 ≤ x → x < 2583 → a_sq x = 0) (by decide +kernel) (show x < 2816 by omega) h1 h2
      exact this
    exact ⟨some (gC G x), cv_con hk (by omega) (by omega), fun q => by omega, fun _ => rfl⟩
theorem ok_eq {G : AG} (hG : GOK G) {x y : Nat} {rx ry : Option Nat} (hx : okW x) (hy : okW y) (h1 : (x = 0 → rx = none) ∧ (x ≠ 0 → rx = some (gC G x))) (h2 : (y = 0 → ry = none) ∧ (y ≠ 0 → ry = some (gC G y))) : rx = ry ↔ x = y := by
  constructor
  · intro h
    by_cases hx0 : x = 0
    · by_cases hy0 : y = 0
      · rw [hx0, hy0]
      · rw [h1.1 hx0, h2.2 hy0] at h; cases h
    · by_cases hy0 : y = 0
      · rw [h1.2 hx0, h2.1 hy0] at h; cases h
      · rw [h1.2 hx0, h2.2 hy0] at h
        have h := Option.some.inj h
        rcases hx with hx | ⟨a1, a2⟩
        · exact absurd hx hx0
        · rcases hy with hy | ⟨b1, b2⟩
          · exact absurd hy hy0
          · have hW : a_nW = 23 := rfl
            have := hG.2.2 (x - 2560) (y - 2560) (by omega) (by omega) (by rw [Nat.add_sub_cancel' a1, Nat.add_sub_cancel' b1]; exact h)
            omega
  · rintro rfl
    by_cases hx0 : x = 0
    · rw [h1.1 hx0, h2.1 hx0]
    · rw [h1.2 hx0, h2.2 hx0]
theorem sw_cases (f : Nat → Option AOut) (df : Nat) (v : Int32) : ∀ rows : List (Int32 × Nat), (∃ t, (v, t) ∈ rows ∧ a_sw rows v f df = f t) ∨ ((∀ q ∈ rows, q.1 ≠ v) ∧ a_sw rows v f df = f df)
  | [] => Or.inr ⟨fun q h => (by cases h), rfl⟩
  | (k, t) :: l => by
    by_cases h : v = k
    · subst h
      exact Or.inl ⟨t, List.mem_cons_self, by simp [a_sw]⟩
    · have e : a_sw ((k, t) :: l) v f df = a_sw l v f df := by simp [a_sw, h]
      rcases sw_cases f df v l with ⟨t', h1, h2⟩ | ⟨h1, h2⟩
      · exact Or.inl ⟨t', List.mem_cons_of_mem _ h1, e.trans h2⟩
      · refine Or.inr ⟨fun q hq => ?_, e.trans h2⟩
        rcases List.mem_cons.mp hq with rfl | hq
        · exact fun z => h z.symm
        · exact h1 q hq
theorem i32_inj {a b : Int32} (h : a.toInt = b.toInt) : a = b := Int32.toInt_inj.mp h
section SWI
variable {G : AG} {p : Program} {l : Launch} {e : Env} {R : Room} {s : State} {m : MethodId} {args : Array Value} {below : List Frame} {meth : Method} {c : Code} {H : Heap} {locs : List Loc} {cells slots mc ms : Nat} {arr : Array Slot} {d gc gs mi pc : Nat} {ls : List Slot} {st : List Value} {μ : AM} {o : AOut} {rec : ACfg → Option AOut} {x : Nat × Nat × Nat}
theorem OP_ifnull {off : Int} (hS : SN G l rec) (hG : GOK G) (hx : CX G p l R s m args meth c H locs cells slots mc ms arr d gc gs mi ls μ) (hd : decode (a_bytes mi) pc = .ok (.ifnull off, 3)) (ht : (pc : Int) + off = (a_tg pc off : Int)) (h : a_ins rec (.ifnull off) d gc gs mi pc ls st μ x = some o) : GO G p l e R s m args below meth c H locs cells slots mc ms arr pc st o := by
  obtain ⟨cnt, asg, L, Is, Rs, Lg⟩ := μ
  simp only [a_ins] at h
  split at h
  · rename_i y r
    split at h
    · rename_i hw
      obtain ⟨ry, h1, h2, h3⟩ := ok_w hG hw
      show W p l e R s m args below meth c H locs cells slots _ (F0 m pc arr (cv G (.ref y) :: r.map (cv G)))
      rw [h1]
      split at h
      · rename_i h0
        rw [h2 h0]
        exact lv_ifnullN hx.1.1 hx.1.2.1 hd ht (hS h hx)
      · rename_i h0
        rw [h3 h0]
        exact lv_ifnull hx.1.1 hx.1.2.1 hd (hS h hx)
    · cases h
  · cases h
theorem OP_ifnonnull {off : Int} (hS : SN G l rec) (hG : GOK G) (hx : CX G p l R s m args meth c H locs cells slots mc ms arr d gc gs mi ls μ) (hd : decode (a_bytes mi) pc = .ok (.ifnonnull off, 3)) (ht : (pc : Int) + off = (a_tg pc off : Int)) (h : a_ins rec (.ifnonnull off) d gc gs mi pc ls st μ x = some o) : GO G p l e R s m args below meth c H locs cells slots mc ms arr pc st o := by
  obtain ⟨cnt, asg, L, Is, Rs, Lg⟩ := μ
  simp only [a_ins] at h
  split at h
  · rename_i y r
    split at h
    · rename_i hw
      obtain ⟨ry, h1, h2, h3⟩ := ok_w hG hw
      show W p l e R s m args below meth c H locs cells slots _ (F0 m pc arr (cv G (.ref y) :: r.map (cv G)))
      rw [h1]
      split at h
      · rename_i h0
        rw [h2 h0]
        exact lv_ifnonnullN hx.1.1 hx.1.2.1 hd (hS h hx)
      · rename_i h0
        rw [h3 h0]
        exact lv_ifnonnull hx.1.1 hx.1.2.1 hd ht (hS h hx)
    · cases h
  · cases h
theorem OP_if_acmp_eq {off : Int} (hS : SN G l rec) (hG : GOK G) (hx : CX G p l R s m args meth c H locs cells slots mc ms arr d gc gs mi ls μ) (hd : decode (a_bytes mi) pc = .ok (.if_acmp .eq off, 3)) (ht : (pc : Int) + off = (a_tg pc off : Int)) (h : a_ins rec (.if_acmp .eq off) d gc gs mi pc ls st μ x = some o) : GO G p l e R s m args below meth c H locs cells slots mc ms arr pc st o := by
  obtain ⟨cnt, asg, L, Is, Rs, Lg⟩ := μ
  simp only [a_ins] at h
  split at h
  · rename_i y z r
    split at h
    · rename_i hw
      obtain ⟨rz, h1, h2⟩ := ok_w hG hw.1
      obtain ⟨ry, k1, k2⟩ := ok_w hG hw.2
      have he := ok_eq hG hw.1 hw.2 h2 k2
      show W p l e R s m args below meth c H locs cells slots _ (F0 m pc arr (cv G (.ref y) :: cv G (.ref z) :: r.map (cv G)))
      rw [h1, k1]
      refine lv_acmp_eq hx.1.1 hx.1.2.1 hd ht (fun q => ?_) (fun q => ?_)
      · rw [if_pos (he.mp q)] at h
        exact hS h hx
      · rw [if_neg (fun w => q (he.mpr w))] at h
        exact hS h hx
    · cases h
  · cases h
theorem OP_if_acmp_ne {off : Int} (hS : SN G l rec) (hG : GOK G) (hx : CX G p l R s m args meth c H locs cells slots mc ms arr d gc gs mi ls μ) (hd : decode (a_bytes mi) pc = .ok (.if_acmp .ne off, 3)) (ht : (pc : Int) + off = (a_tg pc off : Int)) (h : a_ins rec (.if_acmp .ne off) d gc gs mi pc ls st μ x = some o) : GO G p l e R s m args below meth c H locs cells slots mc ms arr pc st o := by
  obtain ⟨cnt, asg, L, Is, Rs, Lg⟩ := μ
  simp only [a_ins] at h
  split at h
  · rename_i y z r
    split at h
    · rename_i hw
      obtain ⟨rz, h1, h2⟩ := ok_w hG hw.1
      obtain ⟨ry, k1, k2⟩ := ok_w hG hw.2
      have he := ok_eq hG hw.1 hw.2 h2 k2
      show W p l e R s m args below meth c H locs cells slots _ (F0 m pc arr (cv G (.ref y) :: cv G (.ref z) :: r.map (cv G)))
      rw [h1, k1]
      refine lv_acmp_ne hx.1.1 hx.1.2.1 hd ht (fun q => ?_) (fun q => ?_)
      · rw [if_neg (fun w => q (he.mpr w))] at h
        exact hS h hx
      · rw [if_pos (he.mp q)] at h
        exact hS h hx
    · cases h
  · cases h
def tabW (pc : Nat) (dflt lo hi : Int) (offs : Array Int) (x : Nat × Nat × Nat) : Prop := (∀ q ∈ a_swt x.1, lo ≤ q.1.toInt ∧ q.1.toInt ≤ hi ∧ offs[(q.1.toInt - lo).toNat]? = some ((q.2 : Int) - pc)) ∧ (∀ i, i < (hi - lo + 1).toNat → ∃ q ∈ a_swt x.1, q.1.toInt = lo + (i : Int)) ∧ (pc : Int) + dflt = (x.2.1 : Int)
theorem OP_tableswitch {dflt lo hi : Int} {offs : Array Int} {len : Nat} (hS : SN G l rec) (hx : CX G p l R s m args meth c H locs cells slots mc ms arr d gc gs mi ls μ) (hd : decode (a_bytes mi) pc = .ok (.tableswitch dflt lo hi offs, len)) (hw : tabW pc dflt lo hi offs x) (h : a_ins rec (.tableswitch dflt lo hi offs) d gc gs mi pc ls st μ x = some o) : GO G p l e R s m args below meth c H locs cells slots mc ms arr pc st o := by
  obtain ⟨cnt, asg, L, Is, Rs, Lg⟩ := μ
  obtain ⟨w1, w2, w3⟩ := hw
  simp only [a_ins] at h
  split at h
  · rename_i v r
    rcases sw_cases (fun t => rec (d, gc, gs, mi, t, ls, r, (cnt, asg, L, Is, Rs, Lg))) x.2.1 v (a_swt x.1) with ⟨t, h1, h2⟩ | ⟨h1, h2⟩
    · rw [h2] at h
      obtain ⟨g1, g2, g3⟩ := w1 _ h1
      simp only at g1 g2 g3
      exact lv_tableIn hx.1.1 hx.1.2.1 hd (by omega) (by omega) g3 (by omega) (hS h hx)
    · rw [h2] at h
      refine lv_tableOut hx.1.1 hx.1.2.1 hd ?_ w3 (hS h hx)
      by_cases hlt : v.toInt < lo
      · exact Or.inl hlt
      · by_cases hgt : hi < v.toInt
        · exact Or.inr hgt
        · exfalso
          obtain ⟨q, hq, he⟩ := w2 (v.toInt - lo).toNat (by omega)
          exact h1 q hq (i32_inj (by rw [he]; omega))
  · cases h
def lokW (pc : Nat) (dflt : Int) (ps : Array (Int × Int)) (x : Nat × Nat × Nat) : Prop := (ps.toList.zip (ps.toList.drop 1)).all (fun (a, next) => a.1 < next.1) = true ∧ (∀ q ∈ a_swt x.1, (pc : Int) + Op.lookupswitch.offset ps.toList dflt q.1.toInt = (q.2 : Int)) ∧ (∀ a ∈ ps.toList, ∃ q ∈ a_swt x.1, q.1.toInt = a.1) ∧ (pc : Int) + dflt = (x.2.1 : Int)
theorem lok_out {dflt : Int} : ∀ (ps : List (Int × Int)) (v : Int), (∀ a ∈ ps, a.1 ≠ v) → Op.lookupswitch.offset ps dflt v = dflt
  | [], v, _ => rfl
  | (k, o) :: ps, v, h => by
    have h1 : k ≠ v := h (k, o) List.mem_cons_self
    have ih := lok_out (dflt := dflt) ps v (fun a ha => h a (List.mem_cons_of_mem _ ha))
    rw [Op.lookupswitch.offset_cons, if_neg h1]
    exact ih
theorem OP_lookupswitch {dflt : Int} {ps : Array (Int × Int)} {len : Nat} (hS : SN G l rec) (hx : CX G p l R s m args meth c H locs cells slots mc ms arr d gc gs mi ls μ) (hd : decode (a_bytes mi) pc = .ok (.lookupswitch dflt ps, len)) (hw : lokW pc dflt ps x) (h : a_ins rec (.lookupswitch dflt ps) d gc gs mi pc ls st μ x = some o) : GO G p l e R s m args below meth c H locs cells slots mc ms arr pc st o := by
  obtain ⟨cnt, asg, L, Is, Rs, Lg⟩ := μ
  obtain ⟨w0, w1, w2, w3⟩ := hw
  simp only [a_ins] at h
  split at h
  · rename_i v r
    rcases sw_cases (fun t => rec (d, gc, gs, mi, t, ls, r, (cnt, asg, L, Is, Rs, Lg))) x.2.1 v (a_swt x.1) with ⟨t, h1, h2⟩ | ⟨h1, h2⟩
    · rw [h2] at h
      exact lv_lookup hx.1.1 hx.1.2.1 hd w0 rfl (w1 _ h1) (hS h hx)
    · rw [h2] at h
      refine lv_lookup hx.1.1 hx.1.2.1 hd w0 (lok_out _ _ (fun a ha z => ?_)) w3 (hS h hx)
      obtain ⟨q, hq, he⟩ := w2 a ha
      exact h1 q hq (i32_inj (by rw [he, z]))
  · cases h
/-- the exceptions: the constructor's entry in the class's pool -/
def a_exi (k : Nat) : Nat := match k with
  | 1 => 412
  | _ => 409
def a_exW (k : Nat) : List Cond := vx_at0 "YieldedHours" (a_exi k) (a_exn k) ["java/lang/RuntimeException", "java/lang/Exception"]
theorem exW_in {k : Nat} (hk : k = 1 ∨ k = 2) : ∀ w ∈ a_exW k, w ∈ a_W ∨ w ∈ a_W2 := by
  have h : ∀ k, k = 1 ∨ k = 2 → (a_exW k).all (fun w => lw_tbl.contains w && (goodWord w || a_W2k w)) = true := by
    intro k hk
    rcases hk with rfl | rfl
    · decide +kernel
    · decide +kernel
  intro w hw
  have h2 := List.all_eq_true.mp (h k hk) w hw
  rw [Bool.and_eq_true, Bool.or_eq_true] at h2
  have hm := List.contains_iff_mem.mp h2.1
  rcases h2.2 with h3 | h3
  · exact Or.inl (List.mem_filter.mpr ⟨hm, h3⟩)
  · exact Or.inr (List.mem_filter.mpr ⟨hm, h3⟩)
theorem W2_ot {w : Cond} (h : w ∈ a_W2) : w.onTables = true := by
  have hk : a_W2k w = true := (List.mem_filter.mp h).2
  cases w <;> first | rfl | (simp [a_W2k] at hk)
def thrW (mi pc index : Nat) (x : Nat × Nat × Nat) : Prop := x.1 = 200 ∧ (x.2.1 = 1 ∨ x.2.1 = 2) ∧ a_own mi = "YieldedHours" ∧ a_hs mi = [] ∧ decode (a_bytes mi) (pc + 3) = .ok (.dup, 1) ∧ decode (a_bytes mi) (pc + 4) = .ok (.invokespecial (a_exi x.2.1), 3) ∧ decode (a_bytes mi) (pc + 7) = .ok (.athrow, 1) ∧ Cond.classLink "YieldedHours" index (a_exn x.2.1) ∈ a_W ∧ Cond.initialized (a_exn x.2.1) ∈ a_W
theorem exn_fit {k : Nat} (hk : k = 1 ∨ k = 2) : Bundle.fit (a_exn k) = true ∧ ∀ n ∈ (["java/lang/RuntimeException", "java/lang/Exception"] : List String), Bundle.fit n = true := by
  rcases hk with rfl | rfl <;> decide +kernel
theorem OP_throw {index : Nat} (hG : GOK G) (hx : CX G p l R s m args meth c H locs cells slots mc ms arr d gc gs mi ls μ) (hd : decode (a_bytes mi) pc = .ok (.new index, 3)) (hw : thrW mi pc index x) (h : a_ins rec (.new index) d gc gs mi pc ls st μ x = some o) : GO G p l e R s m args below meth c H locs cells slots mc ms arr pc st o := by
  obtain ⟨cnt, asg, L, Is, Rs, Lg⟩ := μ
  obtain ⟨hA, hW, hV, hK, hwl, hln, r1, r2, r3, r4, r5, r6⟩ := id hx
  obtain ⟨ci, k, wi⟩ := x
  obtain ⟨w1, w2, w3, w4, w5, w6, w7, w8, w9⟩ := hw
  simp only at w1 w2 w6 w8 w9
  subst w1
  simp only [a_ins] at h
  unfold a_new at h
  simp only at h
  split at h
  · rename_i hb
    simp only [Bool.and_eq_true] at hb
    obtain ⟨⟨⟨b1, b2⟩, b3⟩, b4⟩ := hb
    have b1 : 1 ≤ gc := Nat.le_of_ble_eq_true b1
    have b2 : 8 ≤ gs := Nat.le_of_ble_eq_true b2
    have b3 : a_made ≤ cnt := Nat.le_of_ble_eq_true b3
    have b4 : a_wt st ≤ 8 := Nat.le_of_ble_eq_true b4
    obtain rfl := Option.some.inj h
    have hown := hA.own
    rw [w3] at hown
    have hwd : ∀ w ∈ a_exW k, w.before args s = true := fun w hw => by
      rcases exW_in w2 w hw with h | h
      · exact hA.wd _ h
      · exact va_Nw.use (W2_ot h) (hA.sf.N _ h)
    have hgd : ∀ w ∈ Cond.classLink "YieldedHours" index (a_exn k) :: Cond.initialized (a_exn k) :: a_exW k, vx_ot w = true := fun w hw => by
      have key : w ∈ a_W ∨ w ∈ a_W2 := by
        rcases List.mem_cons.mp hw with rfl | hw
        · exact Or.inl w8
        · rcases List.mem_cons.mp hw with rfl | hw
          · exact Or.inl w9
          · exact exW_in w2 w hw
      unfold vx_ot
      rcases key with h | h
      · rw [(List.mem_filter.mp h).2, Bool.or_true]
      · rw [W2_ot h, Bool.true_or]
    obtain ⟨f1, f2⟩ := exn_fit w2
    have ht := hA.tab
    rw [w4] at ht
    refine vx_throw0 (own := "YieldedHours") (cls := a_exn k) (names := ["java/lang/RuntimeException", "java/lang/Exception"]) (ik := index) (ic := a_exi k) (A := g_A G) hA.1 hA.2.1 hA.tr hown f1 f2 (hA.wd _ w8) (hA.wd _ w9) hwd hgd hA.sf.T.1 hA.sf.T.2 hV (CX.size hx) hd w5 w6 w7 (fun x hx2 => by rw [ht] at hx2; cases hx2) (by show 2 + 3 < R.frames; omega) (by rw [wt_cv hG.1]; show a_wt st + (13 * (2 + 1) + 42) ≤ R.locals; omega) (by omega) (by omega) hA.2.2.2.1 (fun t ht hz hq => ?_) hV.2.2 (by omega) (by omega)
    rcases w2 with rfl | rfl
    · refine ⟨rfl, ⟨hW.1.kept (fun k q hk => hq _ (hW.1 k q hk).lt), hW.2.1, Nat.le_trans hW.2.2.1 hz, fun z => absurd z (Nat.not_lt.mpr b3), hW.len, hW.wf⟩, Nat.le_trans hV.1 hz, fun q h1 h2 => (hq q (Nat.lt_of_lt_of_le h1 hV.1)).trans (hV.2.1 q h1 h2)⟩
    · refine ⟨rfl, ⟨hW.1.kept (fun k q hk => hq _ (hW.1 k q hk).lt), hW.2.1, Nat.le_trans hW.2.2.1 hz, fun z => absurd z (Nat.not_lt.mpr b3), hW.len, hW.wf⟩, Nat.le_trans hV.1 hz, fun q h1 h2 => (hq q (Nat.lt_of_lt_of_le h1 hV.1)).trans (hV.2.1 q h1 h2)⟩
  · cases h
end SWI
