/-! SOUNDNESS: calls -/
def sl (vs : List Value) : List Slot := vs.flatMap (fun v => match v with | .long x => [Slot.val (.long x), Slot.second] | w => [Slot.val w])
theorem a_ent_eq (vs : List Value) (n : Nat) : a_ent vs n = sl vs ++ List.replicate (n - (sl vs).length) (.val a_unk) := rfl
def nod (vs : List Value) : Prop := ∀ v ∈ vs, ∀ x, v ≠ .double x
theorem wt2_cons (v : Value) (vs : List Value) : a_wt2 (v :: vs) = a_wt2 [v] + a_wt2 vs := by simp [a_wt2]
theorem sl_app (v : Value) (vs : List Value) : sl (v :: vs) = sl [v] ++ sl vs := by simp [sl]
theorem wt2_nod : ∀ (vs : List Value), a_wt2 vs ≤ 900 → nod vs ∧ (sl vs).length = a_wt2 vs
  | [], _ => ⟨fun v h => (by cases h), rfl⟩
  | v :: vs, h => by
    have e := wt2_cons v vs
    have ih := wt2_nod vs (by omega)
    refine ⟨fun w hw => ?_, ?_⟩
    · rcases List.mem_cons.mp hw with rfl | hw
      · intro x hx
        subst hx
        have : a_wt2 [Value.double x] = 1000 := rfl
        omega
      · exact ih.1 w hw
    · rw [sl_app, List.length_append, ih.2, e]
      cases v with
      | double x =>
        have : a_wt2 [Value.double x] = 1000 := rfl
        omega
      | _ => rfl
theorem wt2_rev (vs : List Value) : a_wt2 vs.reverse = a_wt2 vs := by
  unfold a_wt2
  rw [List.map_reverse, List.sum_reverse]
theorem cat_nod {G : AG} (hG : gok G) {v : Value} (h : ∀ x, v ≠ .double x) : ((cv G v).category = 2 ↔ ∃ x, v = .long x) := by
  rw [cvv_cat (gcat hG)]
  cases v <;> simp_all [Value.category]
theorem sl_long (x : Int64) (vs : List Value) : sl (.long x :: vs) = Slot.val (.long x) :: Slot.second :: sl vs := by simp [sl]
theorem sl_one {v : Value} (h : ¬ ∃ x, v = .long x) (vs : List Value) : sl (v :: vs) = Slot.val v :: sl vs := by
  rw [sl_app]
  cases v with
  | long x => exact absurd ⟨x, rfl⟩ h
  | _ => rfl
theorem lgsl_len {G : AG} (hG : gok G) : ∀ (vs : List Value), nod vs → (lg_sl (vs.map (cv G))).length = (sl vs).length
  | [], _ => rfl
  | v :: vs, h => by
    have ih := lgsl_len hG vs (fun w hw => h w (List.mem_cons_of_mem _ hw))
    have hv := h v List.mem_cons_self
    have e : lg_sl ((v :: vs).map (cv G)) = (if (cv G v).category = 2 then [.val (cv G v), .second] else [.val (cv G v)]) ++ lg_sl (vs.map (cv G)) := by simp [lg_sl]
    rw [e]
    by_cases hl : ∃ x, v = .long x
    · rw [if_pos ((cat_nod hG hv).mpr hl)]
      obtain ⟨x, rfl⟩ := hl
      rw [sl_long]
      simp [ih]
    · rw [if_neg (fun q => hl ((cat_nod hG hv).mp q)), sl_one hl]
      simp [ih]
theorem ent_mem {G : AG} (hG : gok G) (m : Nat) : ∀ (vs : List Value) (j i : Nat) (v : Value), nod vs → a_get (sl vs ++ List.replicate m (.val a_unk)) i = some (.val v) → isUnk v = false → (j + i, cv G v) ∈ lv_args j (vs.map (cv G))
  | [], j, i, v, _, h, hu => by
    exfalso
    have key : ∀ (m i : Nat) (s : Slot), a_get (List.replicate m (Slot.val a_unk)) i = some s → s = Slot.val a_unk := by
      intro m
      induction m with
      | zero => intro i s h; cases h
      | succ m ih => intro i s h; cases i with
        | zero => exact (Option.some.inj h).symm
        | succ i => exact ih i s h
    have := key m i _ h
    cases this
    cases hu
  | w :: vs, j, i, v, hn, h, hu => by
    have hw := hn w List.mem_cons_self
    have hn' : nod vs := fun z hz => hn z (List.mem_cons_of_mem _ hz)
    rw [List.map_cons]
    unfold lv_args
    by_cases hl : ∃ x, w = .long x
    · rw [if_pos ((cat_nod hG hw).mpr hl)]
      obtain ⟨x, rfl⟩ := hl
      rw [sl_long] at h
      cases i with
      | zero =>
        obtain rfl := Slot.val.inj (Option.some.inj h)
        exact List.mem_cons_self
      | succ i =>
        cases i with
        | zero => cases h
        | succ i =>
          have ih := ent_mem hG m vs (j + 2) i v hn' h hu
          rw [show j + (i + 1 + 1) = j + 2 + i by omega]
          exact List.mem_cons_of_mem _ ih
    · rw [if_neg (fun q => hl ((cat_nod hG hw).mp q))]
      rw [sl_one hl] at h
      cases i with
      | zero =>
        obtain rfl := Slot.val.inj (Option.some.inj h)
        exact List.mem_cons_self
      | succ i =>
        have ih := ent_mem hG m vs (j + 1) i v hn' h hu
        rw [show j + (i + 1) = j + 1 + i by omega]
        exact List.mem_cons_of_mem _ ih
theorem ent_wfl (m : Nat) : ∀ (vs : List Value), nod vs → WFL (sl vs ++ List.replicate m (.val a_unk))
  | [], _ => by
    intro i v h hc
    exfalso
    have key : ∀ (m i : Nat) (s : Slot), a_get (List.replicate m (Slot.val a_unk)) i = some s → s = Slot.val a_unk := by
      intro m
      induction m with
      | zero => intro i s h; cases h
      | succ m ih => intro i s h; cases i with
        | zero => exact (Option.some.inj h).symm
        | succ i => exact ih i s h
    have := key m i _ h
    cases this
    cases hc
  | w :: vs, hn => by
    have hw := hn w List.mem_cons_self
    have ih := ent_wfl m vs (fun z hz => hn z (List.mem_cons_of_mem _ hz))
    intro i v h hc
    by_cases hl : ∃ x, w = .long x
    · obtain ⟨x, rfl⟩ := hl
      rw [sl_long] at h ⊢
      cases i with
      | zero => rfl
      | succ i =>
        cases i with
        | zero => cases h
        | succ i => exact ih i v h hc
    · rw [sl_one hl] at h ⊢
      cases i with
      | zero =>
        obtain rfl := Slot.val.inj (Option.some.inj h)
        exfalso
        cases w with
        | long x => exact hl ⟨x, rfl⟩
        | double x => exact hw x rfl
        | _ => cases hc
      | succ i => exact ih i v h hc
theorem entry_LR {G : AG} (hG : gok G) {vs : List Value} {n : Nat} (h : a_wt2 vs ≤ n) (hn : n ≤ 900) : LR (g_ad G) (gF G) (a_ent vs n) ((lg_sl (vs.map (cv G)) ++ List.replicate (n - (lg_sl (vs.map (cv G))).length) Slot.unset).toArray) ∧ WFL (a_ent vs n) ∧ (a_ent vs n).length = n := by
  obtain ⟨h1, h2⟩ := wt2_nod vs (by omega)
  have hlen : (a_ent vs n).length = n := by
    rw [a_ent_eq, List.length_append, List.length_replicate, h2]
    omega
  have hE := lv_entry (vs.map (cv G)) (n := n) (by rw [lgsl_len hG vs h1, h2]; exact h)
  refine ⟨⟨by rw [hlen]; exact hE.1, hE.2.1, fun q hq => ?_⟩, by rw [a_ent_eq]; exact ent_wfl _ vs h1, hlen⟩
  obtain ⟨i, w⟩ := q
  obtain ⟨v, hv, hu, rfl⟩ := kn_of hq
  rw [a_ent_eq] at hv
  have := ent_mem hG _ vs 0 i v h1 hv hu
  rw [Nat.zero_add] at this
  exact hE.2.2 _ this
def a_rm (d gc gs : Nat) : Room := { frames := d + 10, cells := gc, slots := gs, locals := 48 * d + 200 }
def a_Pc (G : AG) (vs : List Value) (μ : AM) : Array Value → State → Prop := fun a U => a = (vs.map (cv G)).toArray ∧ SF G U U.heap ∧ Wd G μ U.heap
theorem a_Pc_blind (G : AG) (vs : List Value) (μ : AM) : FrameBlind (a_Pc G vs μ) := fun a U g mk h => ⟨h.1, SF.moved (State.WarmedH.refl U) h.2.1, h.2.2⟩
def ws0 (c : Nat) : List Cond := Cond.code (a_name c) (a_bytes c) (a_mt c).1 (a_rt c) :: a_W
def wsH (c : Nat) : List Cond := Cond.codeWith (a_name c) (a_bytes c) (a_mt c).1 (a_rt c) (a_hs c) :: a_W
section MET
variable {G : AG} {l : Launch} {rec : ACfg → Option AOut}
theorem met0 {d gc gs c : Nat} {vs : List Value} {μ : AM} {o : AOut} (hS : SN G l rec) (hG : GOK G) (hl : l.stackTraces = false) (hy : plainName (a_name c).cls = true) (hown : (a_name c).cls = a_own c) (hh : a_hs c = []) (hw : a_wt2 vs ≤ (a_mt c).1) (hm : (a_mt c).1 ≤ 900) (h : rec (d, gc, gs, c, 0, a_ent vs (a_mt c).1, [], μ) = some o) :
    vx_Met l (a_name c) (ws0 c) (a_rm d gc gs) (a_Pc G vs μ) (QC G o) (XC G o) gc gs (g_A G) := by
  refine vx_ofW (cc := a_bytes c) (maxL := (a_mt c).1) (ret := a_rt c) hy rfl ?_
  intro p e s m args below meth cd s₁ B hml ht hP
  obtain ⟨rfl, hSF, hW⟩ := hP
  have hts := atoms_spec (ws := ws0 c) B.pre
  rw [lg_entry_eq]
  obtain ⟨hLR, hWF, hlen⟩ := entry_LR hG.1 hw hm
  have hown2 := findClass_of_methodNamed B.named
  rw [hown] at hown2
  have htab : cd.exceptionTable.toList = tableOf (a_hs c) := by
    rw [hh]
    cases hx : cd.exceptionTable.toList with
    | nil => rfl
    | cons a b => exact (ht a (by rw [hx]; exact List.mem_cons_self)).elim
  exact hS h ⟨⟨B.exec, B.bytes, B.returns, B.notSynchronized, hml, hown2, fun w hw => hts w (List.mem_cons_of_mem _ hw), hl, hSF, (name_of_methodNamed B.named B.method).1, htab⟩, hW, va_S.rf, hLR, hWF, hlen, ⟨Nat.le_refl _, Nat.le_refl _, by show 0 + gc ≤ gc; omega, by show 0 + gs ≤ gs; omega, Nat.le_refl _, Nat.le_refl _⟩⟩
theorem metH {d gc gs c : Nat} {vs : List Value} {μ : AM} {o : AOut} (hS : SN G l rec) (hG : GOK G) (hl : l.stackTraces = false) (hy : plainName (a_name c).cls = true) (hown : (a_name c).cls = a_own c) (hw : a_wt2 vs ≤ (a_mt c).1) (hm : (a_mt c).1 ≤ 900) (h : rec (d, gc, gs, c, 0, a_ent vs (a_mt c).1, [], μ) = some o) :
    vx_Met l (a_name c) (wsH c) (a_rm d gc gs) (a_Pc G vs μ) (QC G o) (XC G o) gc gs (g_A G) := by
  refine vx_ofWH (cc := a_bytes c) (maxL := (a_mt c).1) (ret := a_rt c) (hh := a_hs c) hy rfl ?_
  intro p e s m args below meth cd s₁ B hml hP
  obtain ⟨rfl, hSF, hW⟩ := hP
  have hts := atoms_spec (ws := wsH c) B.pre
  rw [lg_entry_eq]
  obtain ⟨hLR, hWF, hlen⟩ := entry_LR hG.1 hw hm
  have hown2 := findClass_of_methodNamed B.named
  rw [hown] at hown2
  have htab : cd.exceptionTable.toList = tableOf (a_hs c) := vx_table (x := a_name c) B (hts _ List.mem_cons_self)
  exact hS h ⟨⟨B.exec, B.bytes, B.returns, B.notSynchronized, hml, hown2, fun w hw => hts w (List.mem_cons_of_mem _ hw), hl, hSF, (name_of_methodNamed B.named B.method).1, htab⟩, hW, va_S.rf, hLR, hWF, hlen, ⟨Nat.le_refl _, Nat.le_refl _, by show 0 + gc ≤ gc; omega, by show 0 + gs ≤ gs; omega, Nat.le_refl _, Nat.le_refl _⟩⟩
end MET
theorem good_ws0 {c : Nat} (h : Cond.code (a_name c) (a_bytes c) (a_mt c).1 (a_rt c) ∈ a_W) : GoodIn a_W (ws0 c) := fun w hw => by
  have hm : w ∈ a_W := by
    rcases List.mem_cons.mp hw with rfl | hw
    · exact h
    · exact hw
  exact ⟨hm, good_of_word (List.mem_filter.mp hm).2⟩
theorem good_wsH {c : Nat} (h : Cond.codeWith (a_name c) (a_bytes c) (a_mt c).1 (a_rt c) (a_hs c) ∈ a_W) : GoodIn a_W (wsH c) := fun w hw => by
  have hm : w ∈ a_W := by
    rcases List.mem_cons.mp hw with rfl | hw
    · exact h
    · exact hw
  exact ⟨hm, good_of_word (List.mem_filter.mp hm).2⟩
/-- the class of a receiver -/
def a_rc (k : Nat) : String := match k with
  | 40 => "YieldedHours$Word"
  | 41 => "java/lang/String"
  | k => a_cn k
/-- what a call asks of the tables: kinds 0 static, 1 static with handlers, 2 static of a nest mate, 3 virtual, 4 virtual inherited, 5 constructor, 6 constructor of a nest mate -/
def calW (mi index : Nat) (c k : Nat) : Prop :=
  plainName (a_name c).cls = true ∧ (a_name c).cls = a_own c ∧ (a_mt c).1 ≤ 20 ∧ ((a_name c).cls ≠ "java/lang/invoke/MethodHandle" ∧ (a_name c).cls ≠ "java/lang/invoke/VarHandle") ∧ (parseMethodDescriptor (a_name c).desc).map (fun d => d.parameters.length) = some ((a_mt c).2.1 - (if (a_mt c).2.2.1 = 0 then 0 else 1)) ∧ Cond.initialized (a_name c).cls ∈ a_W ∧ (match k with
  | 1 => Cond.codeWith (a_name c) (a_bytes c) (a_mt c).1 (a_rt c) (a_hs c) ∈ a_W
  | _ => a_hs c = [] ∧ Cond.code (a_name c) (a_bytes c) (a_mt c).1 (a_rt c) ∈ a_W) ∧ (match k with
  | 0 => (a_mt c).2.2.1 = 0 ∧ Cond.methodLink (a_own mi) index (a_name c) ∈ a_W ∧ Cond.static (a_name c) ∈ a_W
  | 1 => (a_mt c).2.2.1 = 0 ∧ Cond.methodLink (a_own mi) index (a_name c) ∈ a_W ∧ Cond.static (a_name c) ∈ a_W
  | 2 => (a_mt c).2.2.1 = 0 ∧ (∃ host, Cond.methodLinkNest (a_own mi) index (a_name c) host ∈ a_W2) ∧ Cond.static (a_name c) ∈ a_W
  | 3 => (1 ≤ (a_mt c).2.2.1 ∧ (a_mt c).2.2.1 ≤ 12 ∨ (a_mt c).2.2.1 = 41) ∧ 1 ≤ (a_mt c).2.1 ∧ Cond.methodLink (a_own mi) index (a_name c) ∈ a_W ∧ Cond.instanceMethod (a_name c) ∈ a_W ∧ Cond.selects (a_rc (a_mt c).2.2.1) (a_name c) (a_name c) ∈ a_W
  | 4 => (a_mt c).2.2.1 = 40 ∧ 1 ≤ (a_mt c).2.1 ∧ a_name c = ⟨"java/lang/Enum", "ordinal", "()I"⟩ ∧ Cond.methodLink (a_own mi) index ⟨"YieldedHours$Word", "ordinal", "()I"⟩ ∈ a_W ∧ Cond.sameMethod "YieldedHours$Word" "java/lang/Enum" "ordinal" "()I" ∈ a_W ∧ Cond.selects "YieldedHours$Word" ⟨"YieldedHours$Word", "ordinal", "()I"⟩ (a_name c) ∈ a_W ∧ Cond.instanceMethod (a_name c) ∈ a_W
  | 5 => (1 ≤ (a_mt c).2.2.1 ∧ (a_mt c).2.2.1 ≤ 12) ∧ 1 ≤ (a_mt c).2.1 ∧ a_rt c = none ∧ (a_name c).name = "<init>" ∧ Cond.methodLink (a_own mi) index (a_name c) ∈ a_W ∧ Cond.instanceMethod (a_name c) ∈ a_W
  | _ => (1 ≤ (a_mt c).2.2.1 ∧ (a_mt c).2.2.1 ≤ 12) ∧ 1 ≤ (a_mt c).2.1 ∧ a_rt c = none ∧ (a_name c).name = "<init>" ∧ (∃ host, Cond.methodLinkNest (a_own mi) index (a_name c) host ∈ a_W2) ∧ Cond.instanceMethod (a_name c) ∈ a_W)
def calI (k index : Nat) : Instr := match k with
  | 0 => .invokestatic index
  | 1 => .invokestatic index
  | 2 => .invokestatic index
  | 3 => .invokevirtual index
  | 4 => .invokevirtual index
  | _ => .invokespecial index
section CAL
variable {G : AG} {p : Program} {l : Launch} {e : Env} {R : Room} {s : State} {m : MethodId} {args : Array Value} {below : List Frame} {meth : Method} {c : Code} {H : Heap} {locs : List Loc} {cells slots mc ms : Nat} {arr : Array Slot} {d gc gs mi pc : Nat} {ls : List Slot} {st : List Value} {μ : AM} {o : AOut} {rec : ACfg → Option AOut} {x : Nat × Nat × Nat}
theorem recv {id rk : Nat} (hx : CX G p l R s m args meth c H locs cells slots mc ms arr d gc gs mi ls μ) (hk : a_kind id = rk) (hl : a_live id μ.1 = true) (hrk : 1 ≤ rk ∧ rk ≤ 12 ∨ rk = 40 ∨ rk = 41) : ∃ a, cv G (.ref id) = .ref a ∧ ∃ cell : Cell, H[a]? = some cell ∧ cell.vm.isStatics = false ∧ s.vm.findClass (a_rc rk) = some cell.cls := by
  obtain ⟨hA, hW, hV, hrest⟩ := hx
  rcases hrk with ⟨h1, h2⟩ | rfl | rfl
  · have h0 : a_sq id ≠ 0 := kind_sq (by omega) (by omega)
    have hg := wsOf_get G μ h0 (live_le hl)
    rw [ent_o G _ (by omega), hk] at hg
    refine ⟨_, cv_live h0, ?_⟩
    have hr := va_recv hA.sf.K hW.1 (vw_at h1 h2) hg
    have : a_rc rk = a_cn rk := by
      unfold a_rc
      split
      · omega
      · omega
      · rfl
    rw [this]
    exact hr
  · have hcs := con_sq (id := id) (by omega)
    obtain ⟨k1, k2⟩ := kind_40 hk
    have hO := (hA.sf.W _ k2).kept hV.2.1
    rw [Nat.add_sub_cancel' k1] at hO
    obtain ⟨cell, g1, g2, g3, -⟩ := hO
    exact ⟨_, cv_con hcs.1 hcs.2.1 hcs.2.2, cell, g1, g2, g3⟩
  · have hcs := con_sq (id := id) (by omega)
    obtain ⟨k1, k2⟩ := kind_41 hk
    have hO := ((hA.sf.S _ k2).1).kept hV.2.1
    rw [Nat.add_sub_cancel' k1] at hO
    obtain ⟨cell, g1, g2, g3, -⟩ := hO
    exact ⟨_, cv_con hcs.1 hcs.2.1 hcs.2.2, cell, g1, g2, g3⟩
/-- a handler of the table: what the machine takes it for -/
def hndOK (mi pc k hp i : Nat) : Prop := ∃ (pre : List ExceptionTableEntry) (x : ExceptionTableEntry) (suf : List ExceptionTableEntry), tableOf (a_hs mi) = pre ++ x :: suf ∧ covers x pc = true ∧ x.catchType ≠ 0 ∧ Cond.classLink (a_own mi) x.catchType (a_exn k) ∈ a_W ∧ Cond.castable (a_exn k) (a_exn k) ∈ a_W2 ∧ (∀ z ∈ pre, covers z pc = false ∨ (z.catchType ≠ 0 ∧ a_exn k = "java/lang/IllegalArgumentException" ∧ Cond.classLink (a_own mi) z.catchType "java/util/NoSuchElementException" ∈ a_W)) ∧ ((∃ k' : Fin 4, (k' : Nat) = i ∧ decode (a_bytes mi) x.handlerPc = .ok (.astore_n k', 1) ∧ x.handlerPc + 1 = hp) ∨ (decode (a_bytes mi) x.handlerPc = .ok (.astore i, 2) ∧ x.handlerPc + 2 = hp)) ∧ i < (a_mt mi).1
theorem hndRun {k hp i : Nat} {q : Addr} {ce : Cell} {rest : List Value} (hS : SN G l rec) (hG : GOK G) (hok : hndOK mi pc k hp i) (hx : CX G p l R s m args meth c H locs cells slots mc ms arr d gc gs mi ls μ) (hce : H[q]? = some ce) (hcv : ce.vm = .none) (hcl : s.vm.findClass (a_exn k) = some ce.cls) (h : rec (d, gc, gs, mi, hp, a_sto ls i a_unk, [], μ) = some o) :
    vx_W p l e R s m args below meth c H locs cells slots (vx_MQ below (QC G o) (XC G o) args s mc ms (g_A G)) (F0 m pc arr rest) q := by
  obtain ⟨hA, hW, hV, hK, hwl, hln, hr⟩ := id hx
  obtain ⟨pre, x, suf, o1, o2, o3, o4, o5, o6, o7, o8⟩ := hok
  refine vx_catch hA.own pre x suf (hA.tab.trans o1) (fun z hz => ?_) o2 o3 (hA.wd _ o4) (va_Nw.use rfl (hA.sf.N _ o5)) hce hcv hcl ?_
  · rcases o6 z hz with h | ⟨h1, h2, h3⟩
    · exact Or.inl h
    · exact Or.inr ⟨h1, _, hA.wd _ h3, by rw [h2]; exact hA.sf.nc⟩
  · have fin : ∀ ls' : Array Slot, lv_has ls' ls.length ((i, Value.ref q) :: (kn (g_ad G) (gF G) ls).filter (fun q => !(q.1 == i) && !(q.1 + 1 == i && q.2.category == 2))) → W p l e R s m args below meth c H locs cells slots (vx_MQ below (QC G o) (XC G o) args s mc ms (g_A G)) (F0 m hp ls' []) := fun ls' h' => by
      have hl := LR.stw (v := a_unk) (w := .ref q) hwl (gcat hG.1) (fun hu => by cases hu) (by omega) rfl h'
      exact hS h (e := e) (below := below) ⟨hA, hW, hV, hl.1, hl.2.1, hl.2.2.trans hln, hr⟩
    rcases o7 with ⟨k', hk', hd, hp'⟩ | ⟨hd, hp'⟩
    · refine lv_astore_n hA.1 hA.2.1 hd hk' hK (by omega) rfl fun ls' h' => ?_
      rw [hp']
      exact fin ls' h'
    · refine lv_astore hA.1 hA.2.1 hd hK (by omega) rfl fun ls' h' => ?_
      rw [hp']
      exact fin ls' h'
/-- behind a call: it has returned, or it has thrown -/
theorem call_end {o1 : AOut} {gc1 gs1 : Nat} {st0 rest : List Value} {a : Array Value} (hS : SN G l rec) (hG : GOK G) (hx : CX G p l R s m args meth c H locs cells slots mc ms arr (d + 1) gc gs mi ls μ) (g1 : gc1 ≤ gc) (g2 : gs1 ≤ gs)
    (hr : vx_Run p l e R s m args below meth c H locs cells slots gc1 gs1 (F0 m pc arr st0) (rest.map (cv G)) (QC G o1 a) (XC G o1) (g_A G))
    (hnd : ∀ hp i k, a_hnd mi pc (k + 1) = some (hp, i) → hndOK mi pc (k + 1) hp i)
    (hno : mi ≤ 348 → a_hs mi = [])
    (h : a_beh (some o1) (fun v μ' => rec (d + 1, gc - gc1, gs - gs1, mi, pc + 3, ls, v.toList ++ rest, μ')) (fun k μ' => match a_hnd mi pc (k + 1) with | some (hp, i) => rec (d + 1, gc - gc1, gs - gs1, mi, hp, a_sto ls i a_unk, [], μ') | none => (match Nat.ble mi 348 with | true => some (k + 1, none, μ') | false => none)) = some o) :
    W p l e R s m args below meth c H locs cells slots (vx_MQ below (QC G o) (XC G o) args s mc ms (g_A G)) (F0 m pc arr st0) := by
  obtain ⟨hA, hW, hV, hK, hwl, hln, r1, r2, r3, r4, r5, r6⟩ := id hx
  intro T hT X
  rcases hr T hT X with ⟨v, st₀, t, T', L, h0, X', hL, e1, e2, hq, hst⟩ | ⟨q, st₀, t, T', L, E, ce, h0, X', hL, e1, e2, hxc, hce, hcv, hcl, hst⟩
  · obtain ⟨k, v', μ'⟩ := o1
    cases k with
    | succ k => exact hq.elim
    | zero =>
      obtain ⟨hv, hW', hF⟩ := hq
      obtain ⟨k1, k2, k3⟩ := vx_keep h0 e1 hV (fun q _ z => z) (fun q z => z) hL hF
      have hv' : v = v'.map (cv G) := by cases hv; rfl
      subst hv'
      have h : rec (d + 1, gc - gc1, gs - gs1, mi, pc + 3, ls, v'.toList ++ rest, μ') = some o := h
      have h2 := hS h (e := e) (below := below) (H := T'.heap) (locs := locs ++ L) (cells := cells + gc1) (slots := slots + gs1) ⟨hA, by rw [e1]; exact hW', k3, hK, hwl, hln, r1, r2, by omega, by omega, r5, r6⟩
      have h3 : W p l e R s m args below meth c T'.heap (locs ++ L) (cells + gc1) (slots + gs1) (vx_MQ below (QC G o) (XC G o) args s mc ms (g_A G)) (F0 m (pc + 3) arr ((v'.map (cv G)).toList ++ rest.map (cv G))) := by
        unfold GO at h2
        rw [List.map_append] at h2
        cases v' <;> exact h2
      obtain ⟨t2, a1, b1⟩ := h3 T' rfl X'
      exact ⟨t2, hst t2 a1, b1⟩
  · obtain ⟨k, v', μ'⟩ := o1
    cases k with
    | zero => exact hxc.elim
    | succ k =>
      obtain ⟨hE, hW', hF⟩ := hxc
      obtain ⟨k1, k2, k3⟩ := vx_keep h0 e1 hV (fun q _ z => z) (fun q z => z) hL hF
      have h : (match a_hnd mi pc (k + 1) with | some (hp, i) => rec (d + 1, gc - gc1, gs - gs1, mi, hp, a_sto ls i a_unk, [], μ') | none => (match Nat.ble mi 348 with | true => some (k + 1, none, μ') | false => none)) = some o := h
      have hce' : T'.heap[q]? = some ce := by rw [e1]; exact hce
      cases hh : a_hnd mi pc (k + 1) with
      | none =>
        rw [hh] at h
        simp only at h
        split at h
        · rename_i hb
          have hm : mi ≤ 348 := Nat.le_of_ble_eq_true hb
          obtain rfl := Option.some.inj h
          have ht := hA.tab
          rw [hno hm] at ht
          have hw := vx_out (p := p) (l := l) (e := e) (R := R) (s := s) (m := m) (args := args) (below := below) (meth := meth) (c := c) (H := T'.heap) (locs := locs ++ L) (cells := cells + gc1) (slots := slots + gs1) (free := g_A G) (ls := arr) (rest := rest.map (cv G)) (Qc := QC G (k + 1, none, μ')) (XC := XC G (k + 1, none, μ')) (pc := pc) (E := E) (ce := ce) (q := q) (mc := mc) (ms := ms) (fun x hx2 => by rw [ht] at hx2; cases hx2) hA.2.2.2.1 hce' hcv hcl (fun t2 ht2 hal => ⟨hE, by rw [ht2, e1]; exact hW', ⟨by rw [ht2]; exact k3.1, fun q h1 h2 => by rw [ht2]; exact k3.2.1 q h1 h2⟩⟩) k3.2.2 (by omega) (by omega)
          obtain ⟨t2, a1, b1⟩ := hw T' rfl X'
          exact ⟨t2, hst.trans a1, b1⟩
        · cases h
      | some hi =>
        obtain ⟨hp, i⟩ := hi
        rw [hh] at h
        simp only at h
        have hok := hnd hp i k hh
        have hw := hndRun (e := e) (below := below) (rest := rest.map (cv G)) (q := q) (ce := ce) hS hG hok (show CX G p l R s m args meth c T'.heap (locs ++ L) (cells + gc1) (slots + gs1) mc ms arr (d + 1) (gc - gc1) (gs - gs1) mi ls μ' from ⟨hA, by rw [e1]; exact hW', k3, hK, hwl, hln, r1, r2, by omega, by omega, r5, r6⟩) hce' hcv (by rw [← hE]; exact hcl) h
        obtain ⟨t2, a1, b1⟩ := hw T' rfl X'
        exact ⟨t2, hst.trans a1, b1⟩
/-- the arguments of a call lie on the stack -/
theorem st_split {G : AG} {st : List Value} {n : Nat} (h : n ≤ st.length) : st.map (cv G) = ((st.take n).reverse.map (cv G)).reverse ++ (st.drop n).map (cv G) := by
  rw [← List.map_reverse, List.reverse_reverse, ← List.map_append, List.take_append_drop]
theorem st_recv {st : List Value} {n : Nat} {v : Value} (hn : 1 ≤ n) (h : a_get st (n - 1) = some v) : (st.take n).reverse = v :: (st.take (n - 1)).reverse ∧ n ≤ st.length := by
  have key : ∀ (st : List Value) (n : Nat) (v : Value), a_get st n = some v → st.take (n + 1) = st.take n ++ [v] ∧ n + 1 ≤ st.length := by
    intro st
    induction st with
    | nil => intro n v h; cases h
    | cons a st ih => intro n v h; cases n with
      | zero => obtain rfl := Option.some.inj h; exact ⟨rfl, by simp⟩
      | succ n => obtain ⟨h1, h2⟩ := ih n v h; exact ⟨by rw [List.take_succ_cons, h1, List.take_succ_cons]; rfl, by simpa using h2⟩
  obtain ⟨h1, h2⟩ := key st (n - 1) v h
  rw [show n - 1 + 1 = n by omega] at h1 h2
  exact ⟨by rw [h1]; simp, h2⟩
theorem OP_call {index ck cc k : Nat} {ins : Instr} (hS : SN G l rec) (hG : GOK G) (hx : CX G p l R s m args meth c H locs cells slots mc ms arr d gc gs mi ls μ) (hins : ins = calI k index) (hd : decode (a_bytes mi) pc = .ok (ins, 3)) (hw : calW mi index cc k)
    (hnd : ∀ hp i k, a_hnd mi pc (k + 1) = some (hp, i) → hndOK mi pc (k + 1) hp i) (hno : mi ≤ 348 → a_hs mi = [])
    (h : a_call rec d gc gs mi pc ls st μ cc = some o) : GO G p l e R s m args below meth c H locs cells slots mc ms arr pc st o := by
  obtain ⟨hA, hW, hV, hK, hwl, hln, r1, r2, r3, r4, r5, r6⟩ := id hx
  obtain ⟨w1, w2, w3, w4, w5, w6, w7, w8⟩ := hw
  unfold a_call at h
  cases hm : a_mt cc with
  | mk mxl y =>
  obtain ⟨n, rk, rt, gc1, gs1⟩ := y
  rw [hm] at h w3 w5 w8
  simp only at h w3 w5
  split at h
  · rename_i hb
    simp only [Bool.and_eq_true, Bool.or_eq_true] at hb
    obtain ⟨⟨⟨⟨⟨b1, b2⟩, b3⟩, b4⟩, b5⟩, b6⟩ := hb
    have b1 : n ≤ st.length := Nat.le_of_ble_eq_true b1
    have b2 : a_wt (st.drop n) ≤ 8 := Nat.le_of_ble_eq_true b2
    have b3 : a_wt2 (st.take n) ≤ mxl := Nat.le_of_ble_eq_true b3
    have b4 : gc1 ≤ gc := Nat.le_of_ble_eq_true b4
    have b5 : gs1 ≤ gs := Nat.le_of_ble_eq_true b5
    unfold a_call2 at h
    cases d with
    | zero => cases h
    | succ d' =>
    simp only at h
    cases ho : rec (d', gc1, gs1, cc, 0, a_ent (st.take n).reverse mxl, [], μ) with
    | none => rw [ho] at h; cases h
    | some o1 =>
    rw [ho] at h
    have hwt : a_wt2 (st.take n).reverse ≤ (a_mt cc).1 := by rw [wt2_rev, hm]; exact b3
    have hmx : (a_mt cc).1 ≤ 900 := by rw [hm]; show mxl ≤ 900; omega
    have ho' : rec (d', gc1, gs1, cc, 0, a_ent (st.take n).reverse (a_mt cc).1, [], μ) = some o1 := by rw [hm]; exact ho
    have hfx : CallFix p m c (a_bytes mi) arr.size s args a_W (a_own mi) := ⟨hA.1, hA.2.1, (CX.size hx).symm, hA.own, hA.wd⟩
    have hSF : ∀ U : State, U.heap = H → s.WarmedH U.vm → SF G U U.heap := fun U hU hWm => by
      rw [hU]
      exact SF.moved hWm (hA.sf.kept hV.1 hV.2.1)
    have hPc : ∀ U : State, U.heap = H → s.WarmedH U.vm → a_Pc G (st.take n).reverse μ ((st.take n).reverse.map (cv G)).toArray U := fun U hU hWm => ⟨rfl, hSF U hU hWm, by rw [hU]; exact hW⟩
    have hR : (a_rm d' gc1 gs1).frames + 1 ≤ R.frames ∧ 8 + ((a_mt cc).1 + 11) + (a_rm d' gc1 gs1).locals ≤ R.locals := ⟨by show d' + 10 + 1 ≤ R.frames; omega, by rw [hm]; show 8 + (mxl + 11) + (48 * d' + 200) ≤ R.locals; omega⟩
    have hfree : cells + gc1 ≤ R.cells ∧ slots + gs1 ≤ R.slots := ⟨by omega, by omega⟩
    have hwt8 : 2 * (F0 m pc arr (st.map (cv G))).monitorRoom + (((st.drop n).map (cv G)).map fun v => v.category).sum ≤ 8 := by
      rw [wt_cv hG.1]
      show 2 * 0 + _ ≤ 8
      omega
    have hlen : ∀ v : List Value, (v.map (cv G)).length = v.length := fun v => List.length_map _
    have hcount : ∀ sig, parseMethodDescriptor (a_name cc).desc = some sig → (n - (if rk = 0 then 0 else 1)) = sig.parameters.length := fun sig hs => by
      rw [hs] at w5
      exact (Option.some.inj w5).symm
    have fin : ∀ {a : Array Value}, vx_Run p l e R s m args below meth c H locs cells slots gc1 gs1 (F0 m pc arr (st.map (cv G))) ((st.drop n).map (cv G)) (QC G o1 a) (XC G o1) (g_A G) → GO G p l e R s m args below meth c H locs cells slots mc ms arr pc st o := fun hr => call_end hS hG hx b4 b5 hr hnd hno h
    have hrecv : 1 ≤ n → (1 ≤ rk ∧ rk ≤ 12 ∨ rk = 40 ∨ rk = 41) → ∃ (id : Nat) (b : Addr), cv G (.ref id) = .ref b ∧ (st.take n).reverse = .ref id :: (st.take (n - 1)).reverse ∧ ∃ cell : Cell, H[b]? = some cell ∧ cell.vm.isStatics = false ∧ s.vm.findClass (a_rc rk) = some cell.cls := fun hn hrk => by
      rcases b6 with b6 | b6
      · have := Nat.eq_of_beq_eq_true b6
        omega
      · cases hg : a_get st (n - 1) with
        | none => rw [hg] at b6; cases b6
        | some v =>
          rw [hg] at b6
          cases v with
          | ref id =>
            simp only [Bool.and_eq_true] at b6
            obtain ⟨b, hb1, hb2⟩ := recv hx (Nat.eq_of_beq_eq_true b6.1) b6.2 hrk
            exact ⟨id, b, hb1, (st_recv hn hg).1, hb2⟩
          | _ => cases b6
    have hstk : ∀ {id : Nat} {b : Addr}, 1 ≤ n → cv G (.ref id) = .ref b → (st.take n).reverse = .ref id :: (st.take (n - 1)).reverse → st.map (cv G) = ((st.take (n - 1)).reverse.map (cv G)).reverse ++ .ref b :: (st.drop n).map (cv G) ∧ ((st.take n).reverse.map (cv G)) = .ref b :: ((st.take (n - 1)).reverse.map (cv G)) := fun {id b} hn e1 e2 => by
      have e3 := st_split (G := G) b1
      rw [e2, List.map_cons, e1] at e3
      refine ⟨by rw [e3]; simp, by rw [e2, List.map_cons, e1]⟩
    have hl1 : ((st.take n).reverse.map (cv G)).length = n := by rw [List.length_map, List.length_reverse, List.length_take]; omega
    have hl2 : 1 ≤ n → ((st.take (n - 1)).reverse.map (cv G)).length = n - 1 := fun hn => by rw [List.length_map, List.length_reverse, List.length_take]; omega
    rcases k with _ | _ | _ | _ | _ | _ | k
    · obtain ⟨v1, v2, v3⟩ := w8
      simp only at v1
      subst v1
      subst hins
      rw [if_pos rfl, Nat.sub_zero] at w5
      rw [if_pos rfl, Nat.sub_zero] at hcount
      have hM := met0 hS hG hA.tr w1 w2 w7.1 hwt hmx ho'
      have cb := callB_of (R := R) (own := a_own mi) (index := index) (rm := a_rm d' gc1 gs1) n hA.wd (good_ws0 w7.2) rfl rfl rfl (hA.wd _ w6) (hA.wd _ v2) ⟨w4.1, w4.2, w5⟩ hR
      exact fin (vx_runS hfx hM ⟨cb, hA.wd _ v3⟩ ⟨a_Pc_blind _ _ _, hPc⟩ rfl hl1 rfl (st_split b1) hwt8 hd hfree)
    · obtain ⟨v1, v2, v3⟩ := w8
      simp only at v1
      subst v1
      subst hins
      rw [if_pos rfl, Nat.sub_zero] at w5
      rw [if_pos rfl, Nat.sub_zero] at hcount
      have hM := metH hS hG hA.tr w1 w2 hwt hmx ho'
      have hc : Cond.codeWith (a_name cc) (a_bytes cc) (a_mt cc).1 (a_rt cc) (a_hs cc) ∈ wsH cc := List.mem_cons_self
      exact fin (vx_runSX hfx hM ⟨⟨rfl, rfl, hR.1, hR.2, pay_in hA.wd (good_wsH w7), hc⟩, hA.wd _ w7, hA.wd _ w6, w4, hcount, hA.wd _ v2, hA.wd _ v3⟩ ⟨a_Pc_blind _ _ _, hPc⟩ rfl hl1 rfl (st_split b1) hwt8 hd hfree)
    · obtain ⟨v1, ⟨host, v2⟩, v3⟩ := w8
      simp only at v1
      subst v1
      subst hins
      rw [if_pos rfl, Nat.sub_zero] at w5
      rw [if_pos rfl, Nat.sub_zero] at hcount
      have hM := met0 hS hG hA.tr w1 w2 w7.1 hwt hmx ho'
      have cb := va_cnB (R := R) (s := s) (args := args) (own := a_own mi) (index := index) (rm := a_rm d' gc1 gs1) n hA.wd (good_ws0 w7.2) rfl rfl rfl (hA.sf.N _ v2) (hA.wd _ w6) ⟨w4.1, w4.2, w5⟩ hR
      exact fin (vx_runSN hfx hM ⟨cb, hA.wd _ v3, trivial⟩ ⟨a_Pc_blind _ _ _, hPc⟩ rfl hl1 rfl (st_split b1) hwt8 hd hfree)
    · obtain ⟨v1, v2, v3, v4, v5⟩ := w8
      simp only at v1 v2 v5
      subst hins
      obtain ⟨id, b, q1, q2, q3⟩ := hrecv v2 (by omega)
      obtain ⟨q4, q5⟩ := hstk v2 q1 q2
      have hM := met0 hS hG hA.tr w1 w2 w7.1 hwt hmx ho'
      rw [if_neg (show ¬ rk = 0 by omega)] at w5
      have cb := callB_of (R := R) (own := a_own mi) (index := index) (rm := a_rm d' gc1 gs1) (n - 1) hA.wd (good_ws0 w7.2) rfl rfl rfl (hA.wd _ w6) (hA.wd _ v3) ⟨w4.1, w4.2, w5⟩ hR
      exact fin (vx_runV hfx hM ⟨cb, hA.wd _ v4, hA.wd _ v5⟩ ⟨a_Pc_blind _ _ _, q3, fun U hU hWm => by rw [← q5]; exact hPc U hU hWm⟩ rfl (hl2 v2) rfl q4 hwt8 hd hfree)
    · obtain ⟨v1, v2, v3, v4, v5, v6, v7⟩ := w8
      simp only at v1 v2
      subst v1
      subst hins
      obtain ⟨id, b, q1, q2, q3⟩ := hrecv v2 (by omega)
      obtain ⟨q4, q5⟩ := hstk v2 q1 q2
      have hM := met0 hS hG hA.tr w1 w2 w7.1 hwt hmx ho'
      rw [if_neg (show ¬ 40 = 0 by decide)] at w5
      have cu : va_CU R s args (a_own mi) "YieldedHours$Word" "java/lang/Enum" index ⟨"YieldedHours$Word", "ordinal", "()I"⟩ (a_name cc) (a_bytes cc) (a_mt cc).1 (a_rt cc) (ws0 cc) (a_rm d' gc1 gs1) gc1 gs1 (n - 1) :=
        ⟨⟨rfl, rfl, hR.1, hR.2, pay_in hA.wd (good_ws0 w7.2), List.mem_cons_self⟩, hA.wd _ w7.2, hA.wd _ w6, ⟨by decide, by decide⟩, fun sig hs => by
          rw [if_neg (show ¬ 40 = 0 by decide)] at hcount
          exact hcount sig (by rw [v3]; exact hs), hA.wd _ v4, hA.wd _ v5, by rw [← v3]; exact va_Decl.of (hA.wd _ v7) (hA.wd _ w7.2), hA.wd _ v6, hA.wd _ v7⟩
      exact fin (vx_runU hfx hM cu ⟨a_Pc_blind _ _ _, q3, fun U hU hWm => by rw [← q5]; exact hPc U hU hWm⟩ rfl (hl2 v2) rfl q4 hwt8 hd hfree)
    · obtain ⟨v1, v2, v3, v4, v5, v6⟩ := w8
      simp only at v1 v2
      subst hins
      obtain ⟨id, b, q1, q2, q3⟩ := hrecv v2 (by omega)
      obtain ⟨q4, q5⟩ := hstk v2 q1 q2
      have hM := met0 hS hG hA.tr w1 w2 w7.1 hwt hmx ho'
      rw [if_neg (show ¬ rk = 0 by omega)] at w5
      have cb := callB_of (R := R) (own := a_own mi) (index := index) (rm := a_rm d' gc1 gs1) (n - 1) hA.wd (good_ws0 w7.2) rfl rfl rfl (hA.wd _ w6) (hA.wd _ v5) ⟨w4.1, w4.2, w5⟩ hR
      have cb' : CallB R s args (a_own mi) index (a_name cc) (a_bytes cc) (a_mt cc).1 none (ws0 cc) (a_rm d' gc1 gs1) gc1 gs1 (n - 1) := by rw [← v3]; exact cb
      exact fin (vx_runI hfx hM ⟨cb', v4, hA.wd _ v6⟩ ⟨a_Pc_blind _ _ _, fun U hU hWm => by rw [← q5]; exact hPc U hU hWm⟩ rfl (hl2 v2) rfl q4 hwt8 hd hfree)
    · obtain ⟨v1, v2, v3, v4, ⟨host, v5⟩, v6⟩ := w8
      simp only at v1 v2
      subst hins
      obtain ⟨id, b, q1, q2, q3⟩ := hrecv v2 (by omega)
      obtain ⟨q4, q5⟩ := hstk v2 q1 q2
      have hM := met0 hS hG hA.tr w1 w2 w7.1 hwt hmx ho'
      rw [if_neg (show ¬ rk = 0 by omega)] at w5
      have cb := va_cnB (R := R) (s := s) (args := args) (own := a_own mi) (index := index) (rm := a_rm d' gc1 gs1) (n - 1) hA.wd (good_ws0 w7.2) rfl rfl rfl (hA.sf.N _ v5) (hA.wd _ w6) ⟨w4.1, w4.2, w5⟩ hR
      have cb' : va_CN R s args (a_own mi) index (a_name cc) host (a_bytes cc) (a_mt cc).1 none (ws0 cc) (a_rm d' gc1 gs1) gc1 gs1 (n - 1) := by rw [← v3]; exact cb
      exact fin (vx_runIN hfx hM ⟨cb', v4, hA.wd _ v6⟩ ⟨a_Pc_blind _ _ _, fun U hU hWm => by rw [← q5]; exact hPc U hU hWm⟩ rfl (hl2 v2) rfl q4 hwt8 hd hfree)
  · cases h
end CAL
