/-! SOUNDNESS: the world, the context of a method, what is to be shown -/
/-- the start's numbers: the first address that is ours; the constants' addresses; the value of a static that nobody asks; classes and slots; classes of arrays; the script: its address, its length, its ints -/
abbrev AG : Type := Nat × (Nat → Nat) × Value × (Nat → ClassId) × (Nat → Nat → Nat) × (Nat → ClassId) × Nat × Nat × (Nat → Int32)
def gB (G : AG) : Nat := G.1
def gC (G : AG) : Nat → Nat := G.2.1
def gF (G : AG) : Value := G.2.2.1
def gdC (G : AG) : Nat → ClassId := G.2.2.2.1
def gdI (G : AG) : Nat → Nat → Nat := G.2.2.2.2.1
def gA (G : AG) : Nat → ClassId := G.2.2.2.2.2.1
def gS (G : AG) : Nat := G.2.2.2.2.2.2.1
def gL (G : AG) : Nat := G.2.2.2.2.2.2.2.1
def gX (G : AG) : Nat → Int32 := G.2.2.2.2.2.2.2.2
/-- an object's address -/
def g_ad (G : AG) (id : Nat) : Nat := if a_sq id = 0 then gC G id else gB G + (a_sq id - 1)
abbrev cv (G : AG) (v : Value) : Value := cvv (g_ad G) (gF G) v
/-- our addresses -/
def g_A (G : AG) : Nat → Prop := fun q => gB G ≤ q
def fval (G : AG) (μ : AM) (id ci k : Nat) : Value := match μ with
  | (_, asg, _, Is, Rs, _) => match a_fk ci k with
    | (0, sh) => .int (a_gt Is (a_reg id + sh) (a_loc id) k)
    | (1, _) => if (a_fr id k).2 ≤ asg then cv G (.ref (a_fr id k).1) else .null
    | (2, q) => cv G (.ref (a_nth Rs 0 q))
    | _ => .null
/-- what an object is in the heap -/
def ent (G : AG) (μ : AM) (id : Nat) : va_E := match μ with
  | (_, _, _, Is, Rs, Lg) => if a_kind id = 32 ∨ a_kind id = 33 then .inl (gA G (a_kind id), a_sz id, .inl (a_row Is id))
    else if a_kind id = 34 then .inl (gA G 34, a_sz id, .inr (.inr (.inr (.inr (fun j => if a_nth Rs 0 (6 + j) = 0 then none else some (g_ad G (a_nth Rs 0 (6 + j))))))))
    else if a_kind id = 35 then .inl (gA G 35, a_sz id, .inr (.inl (fun _ => Lg)))
    else .inr (a_kind id - 1, (List.range (a_sz id)).map (fval G μ id (a_kind id)))
/-- the world: the objects made, in their order -/
def wsOf (G : AG) (μ : AM) : va_W := (List.range μ.1).map fun k => (gB G + k, ent G μ (a_ord k))
/-- the memory's form: so many regions, so many references; the script is what it was -/
def WF (G : AG) (μ : AM) : Prop := μ.1 ≤ 126 ∧ μ.2.2.2.1.length = 21 ∧ μ.2.2.2.2.1.length = 9 ∧ (∀ j, a_nth μ.2.2.2.2.1 0 (6 + j) ≠ 2816) ∧ ∀ i, a_gt μ.2.2.2.1 20 0 i = gX G i
/-- the heap holds the world; behind it stands nothing of ours while objects are made -/
def Wd (G : AG) (μ : AM) (H : Heap) : Prop := va_P (gdC G, gdI G) a_vw (wsOf G μ) H ∧ va_D (g_A G) (wsOf G μ) ∧ gB G + μ.1 ≤ H.size ∧ (μ.1 < a_made → H.size = gB G + μ.1) ∧ μ.2.2.1 = gL G ∧ WF G μ
/-- the classes of arrays, with their elements -/
def a_tys (G : AG) : List (ClassId × FieldType) := [(gA G 32, .int), (gA G 33, .boolean), (gA G 34, .object "YieldedHours$State"), (gA G 35, .long)]
/-- words that stay, though the frame rule's list doesn't name them -/
def a_W2k : Cond → Bool
  | .fieldLinkNest .. => true
  | .methodLinkNest .. => true
  | .castable .. => true
  | .declares .. => true
  | _ => false
def a_W2 : List Cond := lw_tbl.filter a_W2k
/-- the words that every method may use -/
def a_W : List Cond := lw_tbl.filter goodWord
/-- what is fixed from the start on: classes, statics, constant objects, the script -/
def SF (G : AG) (U : State) (H : Heap) : Prop :=
  va_K (gdC G, gdI G) a_vw (a_tys G) U ∧
  (∀ q ∈ a_Zs, va_Z q.1 q.2.1 q.2.2.1 (cv G q.2.2.2) (g_A G) U H) ∧
  (∀ q ∈ a_OFs, va_OF q.1 q.2.1 q.2.2.1 (cv G q.2.2.2.1) (gC G q.2.2.2.2) (g_A G) U H) ∧
  (∀ q ∈ a_Rs, vk_R q.1 q.2.1 q.2.2.1 (gC G q.2.2.2) U) ∧
  (∀ k, k < a_nS → va_O "java/lang/String" (gC G (2624 + k)) (g_A G) U H ∧ va_T .byte (gC G (2688 + k)) (a_sz (2688 + k)) (fun j => .int (a_ca (2688 + k) j)) (g_A G) U H) ∧
  (∀ k, k < a_nW → va_O "YieldedHours$Word" (gC G (2560 + k)) (g_A G) U H) ∧
  va_T (.object "YieldedHours$Word") (gC G 2752) 23 (fun j => .ref (gC G (a_ra 2752 j))) (g_A G) U H ∧
  va_T .int (gC G 2753) (a_sz 2753) (fun j => .int (a_ca 2753 j)) (g_A G) U H ∧
  (va_X (gS G) (gL G) (gX G) U H ∧ gS G < H.size ∧ ¬ g_A G (gS G)) ∧
  (vx_Zq Bundle.tN "UNASSIGNED_STACK" Bundle.steD (g_A G) U H ∧ vx_Zq Bundle.tN "SUPPRESSED_SENTINEL" Bundle.listD (g_A G) U H) ∧
  (∀ w ∈ a_W2, va_Nw w U) ∧ va_Nc "java/lang/IllegalArgumentException" "java/util/NoSuchElementException" U ∧ va_AO "YieldedHours$State" U
theorem a_W2_warm {w : Cond} (h : w ∈ a_W2) {s U : State} (hW : s.WarmedH U.vm) (hz : va_Nw w s) : va_Nw w U := by
  have hk : a_W2k w = true := (List.mem_filter.mp h).2
  cases w <;> first | exact va_Nw.warmF hW hz | exact va_Nw.warmM hW hz | exact va_Nw.warmC hW hz | exact va_Nw.warmD hW hz | (simp [a_W2k] at hk)
theorem SF.moved {G : AG} {u U : State} {H : Heap} (hW : u.WarmedH U.vm) (h : SF G u H) : SF G U H := by
  obtain ⟨h1, h2, h3, h4, h5, h6, h7, h8, ⟨h9, h9b, h9c⟩, ⟨h10, h10b⟩, h11, h12, h13⟩ := h
  have hv := hW.alike
  exact ⟨h1.moved hv, fun q hq => va_Z.moved hv (h2 q hq), fun q hq => va_OF.moved hv (h3 q hq), fun q hq => vk_R.warm hW (h4 q hq), fun k hk => ⟨va_O.moved hv (h5 k hk).1, va_T.moved hv (h5 k hk).2⟩, fun k hk => va_O.moved hv (h6 k hk), va_T.moved hv h7, va_T.moved hv h8, ⟨va_X.moved hv h9, h9b, h9c⟩, ⟨vx_Zq.moved hv h10, vx_Zq.moved hv h10b⟩, fun w hw => a_W2_warm hw hW (h11 w hw), va_Nc.moved hv h12, va_AO.moved hv h13⟩
theorem SF.kept {G : AG} {U : State} {H H1 : Heap} (h : SF G U H) (hz : H.size ≤ H1.size) (hq : ∀ a : Nat, a < H.size → ¬ g_A G a → H1[a]? = H[a]?) : SF G U H1 := by
  obtain ⟨h1, h2, h3, h4, h5, h6, h7, h8, ⟨h9, h9b, h9c⟩, ⟨h10, h10b⟩, h11, h12, h13⟩ := h
  exact ⟨h1, fun q hm => (h2 q hm).kept hq, fun q hm => (h3 q hm).kept hq, h4, fun k hk => ⟨(h5 k hk).1.kept hq, (h5 k hk).2.kept hq⟩, fun k hk => (h6 k hk).kept hq, h7.kept hq, h8.kept hq, ⟨h9.kept (hq _ h9b h9c), by omega, h9c⟩, ⟨h10.kept hq, h10b.kept hq⟩, h11, h12, h13⟩
theorem a_inW {w : Cond} (i : Nat) (h : lw_tbl[i]? = some w) (hg : goodWord w = true) : w ∈ a_W := List.mem_filter.mpr ⟨List.mem_of_getElem? h, hg⟩
theorem a_inW2 {w : Cond} (i : Nat) (h : lw_tbl[i]? = some w) (hg : a_W2k w = true) : w ∈ a_W2 := List.mem_filter.mpr ⟨List.mem_of_getElem? h, hg⟩
/-- the classes' layouts are among the words -/
theorem a_lay {c : Nat} {q : vw_C} (h : a_vw[c]? = some q) : ∀ w ∈ u_ws q.1 q.2.1 q.2.2, w ∈ a_W := by
  have hc : ∀ c : Nat, c < 12 → ((a_vw[c]?).elim true (fun q => (u_ws q.1 q.2.1 q.2.2).all (fun w => lw_tbl.contains w && goodWord w))) = true := fun c hc => co_dec (N := 12) (P := fun c => ((a_vw[c]?).elim true (fun q => (u_ws q.1 q.2.1 q.2.2).all (fun w => lw_tbl.contains w && goodWord w))) = true) (by decide +kernel) hc
  intro w hw
  have hl : c < 12 := (List.getElem?_eq_some_iff.mp h).1
  have h2 := hc c hl
  rw [h] at h2
  have h3 := List.all_eq_true.mp h2 w hw
  simp only [Bool.and_eq_true] at h3
  exact List.mem_filter.mpr ⟨List.contains_iff_mem.mp h3.1, h3.2⟩
theorem Wd.wf {G : AG} {μ : AM} {H : Heap} (h : Wd G μ H) : WF G μ := h.2.2.2.2.2
theorem Wd.len {G : AG} {μ : AM} {H : Heap} (h : Wd G μ H) : μ.2.2.1 = gL G := h.2.2.2.2.1
theorem WF.sc {G : AG} {μ : AM} (h : WF G μ) (i : Nat) : a_gt μ.2.2.2.1 20 0 i = gX G i := h.2.2.2.2 i
theorem SF.K {G : AG} {U : State} {H : Heap} (h : SF G U H) : va_K (gdC G, gdI G) a_vw (a_tys G) U := h.1
theorem SF.Z {G : AG} {U : State} {H : Heap} (h : SF G U H) : ∀ q ∈ a_Zs, va_Z q.1 q.2.1 q.2.2.1 (cv G q.2.2.2) (g_A G) U H := h.2.1
theorem SF.OF {G : AG} {U : State} {H : Heap} (h : SF G U H) : ∀ q ∈ a_OFs, va_OF q.1 q.2.1 q.2.2.1 (cv G q.2.2.2.1) (gC G q.2.2.2.2) (g_A G) U H := h.2.2.1
theorem SF.R {G : AG} {U : State} {H : Heap} (h : SF G U H) : ∀ q ∈ a_Rs, vk_R q.1 q.2.1 q.2.2.1 (gC G q.2.2.2) U := h.2.2.2.1
theorem SF.S {G : AG} {U : State} {H : Heap} (h : SF G U H) : ∀ k, k < a_nS → va_O "java/lang/String" (gC G (2624 + k)) (g_A G) U H ∧ va_T .byte (gC G (2688 + k)) (a_sz (2688 + k)) (fun j => .int (a_ca (2688 + k) j)) (g_A G) U H := h.2.2.2.2.1
theorem SF.W {G : AG} {U : State} {H : Heap} (h : SF G U H) : ∀ k, k < a_nW → va_O "YieldedHours$Word" (gC G (2560 + k)) (g_A G) U H := h.2.2.2.2.2.1
theorem SF.TW {G : AG} {U : State} {H : Heap} (h : SF G U H) : va_T (.object "YieldedHours$Word") (gC G 2752) 23 (fun j => .ref (gC G (a_ra 2752 j))) (g_A G) U H := h.2.2.2.2.2.2.1
theorem SF.TS {G : AG} {U : State} {H : Heap} (h : SF G U H) : va_T .int (gC G 2753) (a_sz 2753) (fun j => .int (a_ca 2753 j)) (g_A G) U H := h.2.2.2.2.2.2.2.1
theorem SF.X {G : AG} {U : State} {H : Heap} (h : SF G U H) : va_X (gS G) (gL G) (gX G) U H ∧ gS G < H.size ∧ ¬ g_A G (gS G) := h.2.2.2.2.2.2.2.2.1
theorem SF.T {G : AG} {U : State} {H : Heap} (h : SF G U H) : vx_Zq Bundle.tN "UNASSIGNED_STACK" Bundle.steD (g_A G) U H ∧ vx_Zq Bundle.tN "SUPPRESSED_SENTINEL" Bundle.listD (g_A G) U H := h.2.2.2.2.2.2.2.2.2.1
theorem SF.N {G : AG} {U : State} {H : Heap} (h : SF G U H) : ∀ w ∈ a_W2, va_Nw w U := h.2.2.2.2.2.2.2.2.2.2.1
theorem SF.nc {G : AG} {U : State} {H : Heap} (h : SF G U H) : va_Nc "java/lang/IllegalArgumentException" "java/util/NoSuchElementException" U := h.2.2.2.2.2.2.2.2.2.2.2.1
theorem SF.ao {G : AG} {U : State} {H : Heap} (h : SF G U H) : va_AO "YieldedHours$State" U := h.2.2.2.2.2.2.2.2.2.2.2.2
theorem SF.R' {G : AG} {U : State} {H : Heap} (h : SF G U H) {own tx : String} {k i : Nat} (hm : (own, k, tx, i) ∈ a_Rs) : vk_R own k tx (gC G i) U := h.R _ hm
theorem SF.Z' {G : AG} {U : State} {H : Heap} (h : SF G U H) {C n d : String} {v : Value} (hm : (C, n, d, v) ∈ a_Zs) : va_Z C n d (cv G v) (g_A G) U H := h.Z _ hm
theorem SF.OF' {G : AG} {U : State} {H : Heap} (h : SF G U H) {C n d : String} {v : Value} {i : Nat} (hm : (C, n, d, v, i) ∈ a_OFs) : va_OF C n d (cv G v) (gC G i) (g_A G) U H := h.OF _ hm
/-- what is fixed of the start's numbers: a static that nobody asks holds null or a reference; the script's place; the words differ -/
def GOK (G : AG) : Prop := (gF G = .null ∨ ∃ a, gF G = .ref a) ∧ gC G 1344 = gS G ∧ ∀ i j, i < a_nW → j < a_nW → gC G (2560 + i) = gC G (2560 + j) → i = j
/-- what is fixed in a method's body -/
def AC (G : AG) (p : Program) (l : Launch) (s : State) (m : MethodId) (args : Array Value) (meth : Method) (c : Code) (mi : Nat) : Prop :=
  p.tables.exec = Jvm.exec ∧ c.code = a_bytes mi ∧ meth.sig.returnType = a_rt mi ∧ meth.locks = false ∧ c.maxLocals = (a_mt mi).1 ∧ s.vm.findClass (a_own mi) = some m.cls ∧ (∀ w ∈ a_W, w.before args s = true) ∧ l.stackTraces = false ∧ SF G s s.heap ∧ meth.name = (a_name mi).name ∧ c.exceptionTable.toList = tableOf (a_hs mi)
theorem AC.sf {G : AG} {p : Program} {l : Launch} {s : State} {m : MethodId} {args : Array Value} {meth : Method} {c : Code} {mi : Nat} (h : AC G p l s m args meth c mi) : SF G s s.heap := h.2.2.2.2.2.2.2.2.1
theorem AC.name {G : AG} {p : Program} {l : Launch} {s : State} {m : MethodId} {args : Array Value} {meth : Method} {c : Code} {mi : Nat} (h : AC G p l s m args meth c mi) : meth.name = (a_name mi).name := h.2.2.2.2.2.2.2.2.2.1
theorem AC.tab {G : AG} {p : Program} {l : Launch} {s : State} {m : MethodId} {args : Array Value} {meth : Method} {c : Code} {mi : Nat} (h : AC G p l s m args meth c mi) : c.exceptionTable.toList = tableOf (a_hs mi) := h.2.2.2.2.2.2.2.2.2.2
theorem AC.own {G : AG} {p : Program} {l : Launch} {s : State} {m : MethodId} {args : Array Value} {meth : Method} {c : Code} {mi : Nat} (h : AC G p l s m args meth c mi) : s.vm.findClass (a_own mi) = some m.cls := h.2.2.2.2.2.1
theorem AC.wd {G : AG} {p : Program} {l : Launch} {s : State} {m : MethodId} {args : Array Value} {meth : Method} {c : Code} {mi : Nat} (h : AC G p l s m args meth c mi) : ∀ w ∈ a_W, w.before args s = true := h.2.2.2.2.2.2.1
theorem AC.maxl {G : AG} {p : Program} {l : Launch} {s : State} {m : MethodId} {args : Array Value} {meth : Method} {c : Code} {mi : Nat} (h : AC G p l s m args meth c mi) : c.maxLocals = (a_mt mi).1 := h.2.2.2.2.1
theorem AC.tr {G : AG} {p : Program} {l : Launch} {s : State} {m : MethodId} {args : Array Value} {meth : Method} {c : Code} {mi : Nat} (h : AC G p l s m args meth c mi) : l.stackTraces = false := h.2.2.2.2.2.2.2.1
/-- the room: so many calls deep, so many cells and slots -/
def RM (R : Room) (d gc gs cells slots mc ms : Nat) : Prop := d + 10 ≤ R.frames ∧ 48 * d + 200 ≤ R.locals ∧ cells + gc ≤ mc ∧ slots + gs ≤ ms ∧ mc ≤ R.cells ∧ ms ≤ R.slots
def CX (G : AG) (p : Program) (l : Launch) (R : Room) (s : State) (m : MethodId) (args : Array Value) (meth : Method) (c : Code) (H : Heap) (locs : List Loc) (cells slots mc ms : Nat) (arr : Array Slot) (d gc gs mi : Nat) (ls : List Slot) (μ : AM) : Prop :=
  AC G p l s m args meth c mi ∧ Wd G μ H ∧ va_S (g_A G) s.heap H locs ∧ LR (g_ad G) (gF G) ls arr ∧ WFL ls ∧ ls.length = (a_mt mi).1 ∧ RM R d gc gs cells slots mc ms
/-- a static that nobody asks holds null or a reference -/
def gok (G : AG) : Prop := gF G = .null ∨ ∃ a, gF G = .ref a
def a_exn (k : Nat) : String := match k with
  | 1 => "java/util/NoSuchElementException"
  | _ => "java/lang/IllegalArgumentException"
/-- the answer, where it returns -/
def QC (G : AG) (o : AOut) : Array Value → State → Outcome → State → Prop := fun _ st oc t => match o with
  | (0, v, μ) => oc = .returned (v.map (cv G)) ∧ Wd G μ t.heap ∧ va_F (g_A G) st t
  | _ => False
/-- and where it throws -/
def XC (G : AG) (o : AOut) : String → State → State → Prop := fun E st t => match o with
  | (k + 1, _, μ) => E = a_exn (k + 1) ∧ Wd G μ t.heap ∧ va_F (g_A G) st t
  | _ => False
/-- the goal: from this place on the machine comes to what is said -/
def GO (G : AG) (p : Program) (l : Launch) (e : Env) (R : Room) (s : State) (m : MethodId) (args : Array Value) (below : List Frame) (meth : Method) (c : Code) (H : Heap) (locs : List Loc) (cells slots mc ms : Nat) (arr : Array Slot) (pc : Nat) (st : List Value) (o : AOut) : Prop :=
  W p l e R s m args below meth c H locs cells slots (vx_MQ below (QC G o) (XC G o) args s mc ms (g_A G)) (F0 m pc arr (st.map (cv G)))
def SN (G : AG) (l : Launch) (rec : ACfg → Option AOut) : Prop := ∀ {p : Program} {e : Env} {R : Room} {s : State} {m : MethodId} {args : Array Value} {below : List Frame} {meth : Method} {c : Code} {H : Heap} {locs : List Loc} {cells slots mc ms : Nat} {arr : Array Slot} {d gc gs mi pc : Nat} {ls : List Slot} {st : List Value} {μ : AM} {o : AOut}, rec (d, gc, gs, mi, pc, ls, st, μ) = some o → CX G p l R s m args meth c H locs cells slots mc ms arr d gc gs mi ls μ → GO G p l e R s m args below meth c H locs cells slots mc ms arr pc st o
theorem cat1 {G : AG} (hG : gok G) {v : Value} (h : Nat.beq v.category 1 = true) : (cv G v).category = 1 := by
  have hf : (gF G).category = 1 := by
    rcases hG with h | ⟨a, h⟩ <;> rw [h] <;> rfl
  rw [cvv_cat hf]
  exact Nat.eq_of_beq_eq_true h
theorem gcat {G : AG} (hG : gok G) : (gF G).category = 1 := by
  rcases hG with h | ⟨a, h⟩ <;> rw [h] <;> rfl
theorem cv_ref {G : AG} (hG : gok G) (id : Nat) : cv G (.ref id) = .null ∨ ∃ a, cv G (.ref id) = .ref a := by
  show (if id = 0 then Value.null else if id = 2816 then gF G else Value.ref (g_ad G id)) = .null ∨ ∃ a, (if id = 0 then Value.null else if id = 2816 then gF G else Value.ref (g_ad G id)) = .ref a
  split
  · exact Or.inl rfl
  · split
    · exact hG
    · exact Or.inr ⟨_, rfl⟩
