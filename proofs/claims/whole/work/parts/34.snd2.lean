/-! SOUNDNESS: the world, the context of a method, what is to be shown -/
/-- the start's numbers: the first address that is ours; the constants' addresses; the value of a static that nobody asks; classes and slots; classes of arrays; the script: its address, its length, its ints -/
abbrev AG : Type := Nat × (Nat → Nat) × Value × (Nat → ClassId) × (Nat → Nat → Nat) × (Nat → ClassId) × Nat × Nat × (Nat → Int32)
def gB (G : AG) : Nat := G.1
def gC (G : AG) : Nat → Nat := G.2.1
def gF (G : AG) : Value := G.2.2.1
def gdC (G : AG) : Nat → ClassId := G.2.2.2.1
def gdI (G : AG) : Nat → Nat → Nat := G.2.2.2.2.1
def gA (G : AG) : Nat → ClassId := G.2.2.2.2.2.1
def gS (G : AG) : Nat := G.2.2.2.2.2.2.1
def gL (G : AG) : Nat := G.2.2.2.2.2.2.2.1
def gX (G : AG) : Nat → Int32 := G.2.2.2.2.2.2.2.2
/-- an object's address -/
def g_ad (G : AG) (id : Nat) : Nat := if a_sq id = 0 then gC G id else gB G + (a_sq id - 1)
abbrev cv (G : AG) (v : Value) : Value := cvv (g_ad G) (gF G) v
/-- our addresses -/
def g_A (G : AG) : Nat → Prop := fun q => gB G ≤ q
def fval (G : AG) (μ : AM) (id ci k : Nat) : Value := match μ with
  | (_, asg, _, Is, Rs, _) => match a_fk ci k with
    | (0, sh) => .int (a_gt Is (a_reg id + sh) (a_loc id) k)
    | (1, _) => if (a_fr id k).2 ≤ asg then cv G (.ref (a_fr id k).1) else .null
    | (2, q) => cv G (.ref (a_nth Rs 0 q))
    | _ => .null
/-- what an object is in the heap -/
def ent (G : AG) (μ : AM) (id : Nat) : va_E := match μ with
  | (_, _, _, Is, Rs, Lg) => if a_kind id = 32 ∨ a_kind id = 33 then .inl (gA G (a_kind id), a_sz id, .inl (a_row Is id))
    else if a_kind id = 34 then .inl (gA G 34, a_sz id, .inr (.inr (.inr (.inr (fun j => if a_nth Rs 0 (6 + j) = 0 then none else some (g_ad G (a_nth Rs 0 (6 + j))))))))
    else if a_kind id = 35 then .inl (gA G 35, a_sz id, .inr (.inl (fun _ => Lg)))
    else .inr (a_kind id - 1, (List.range (a_sz id)).map (fval G μ id (a_kind id)))
/-- the world: the objects made, in their order -/
def wsOf (G : AG) (μ : AM) : va_W := (List.range μ.1).map fun k => (gB G + k, ent G μ (a_ord k))
/-- the heap holds the world; behind it stands nothing of ours while objects are made -/
def Wd (G : AG) (μ : AM) (H : Heap) : Prop := va_P (gdC G, gdI G) a_vw (wsOf G μ) H ∧ va_D (g_A G) (wsOf G μ) ∧ gB G + μ.1 ≤ H.size ∧ (μ.1 < a_made → H.size = gB G + μ.1) ∧ μ.2.2.1 = gL G
/-- what is fixed from the start on -/
def SF (G : AG) (U : State) (H : Heap) : Prop := True
/-- the words that every method may use -/
def a_W : List Cond := []
/-- what is fixed in a method's body -/
def AC (G : AG) (p : Program) (l : Launch) (s : State) (m : MethodId) (args : Array Value) (meth : Method) (c : Code) (mi : Nat) : Prop :=
  p.tables.exec = Jvm.exec ∧ c.code = a_bytes mi ∧ meth.sig.returnType = a_rt mi ∧ meth.locks = false ∧ c.maxLocals = (a_mt mi).1 ∧ s.vm.findClass (a_own mi) = some m.cls ∧ (∀ w ∈ a_W, w.before args s = true) ∧ l.stackTraces = false ∧ SF G s s.heap
/-- the room: so many calls deep, so many cells and slots -/
def RM (R : Room) (d gc gs cells slots mc ms : Nat) : Prop := d + 10 ≤ R.frames ∧ 48 * d + 200 ≤ R.locals ∧ cells + gc ≤ mc ∧ slots + gs ≤ ms ∧ mc ≤ R.cells ∧ ms ≤ R.slots
def CX (G : AG) (p : Program) (l : Launch) (R : Room) (s : State) (m : MethodId) (args : Array Value) (meth : Method) (c : Code) (H : Heap) (locs : List Loc) (cells slots mc ms : Nat) (arr : Array Slot) (d gc gs mi : Nat) (ls : List Slot) (μ : AM) : Prop :=
  AC G p l s m args meth c mi ∧ Wd G μ H ∧ va_S (g_A G) s.heap H locs ∧ LR (g_ad G) (gF G) ls arr ∧ WFL ls ∧ ls.length = (a_mt mi).1 ∧ RM R d gc gs cells slots mc ms
/-- a static that nobody asks holds null or a reference -/
def gok (G : AG) : Prop := gF G = .null ∨ ∃ a, gF G = .ref a
def a_exn (k : Nat) : String := match k with
  | 1 => "java/util/NoSuchElementException"
  | _ => "java/lang/IllegalArgumentException"
/-- the answer, where it returns -/
def QC (G : AG) (o : AOut) : Array Value → State → Outcome → State → Prop := fun _ st oc t => match o with
  | (0, v, μ) => oc = .returned (v.map (cv G)) ∧ Wd G μ t.heap ∧ va_F (g_A G) st t
  | _ => False
/-- and where it throws -/
def XC (G : AG) (o : AOut) : String → State → State → Prop := fun E st t => match o with
  | (k + 1, _, μ) => E = a_exn (k + 1) ∧ Wd G μ t.heap ∧ va_F (g_A G) st t
  | _ => False
/-- the goal: from this place on the machine comes to what is said -/
def GO (G : AG) (p : Program) (l : Launch) (e : Env) (R : Room) (s : State) (m : MethodId) (args : Array Value) (below : List Frame) (meth : Method) (c : Code) (H : Heap) (locs : List Loc) (cells slots mc ms : Nat) (arr : Array Slot) (pc : Nat) (st : List Value) (o : AOut) : Prop :=
  W p l e R s m args below meth c H locs cells slots (vx_MQ below (QC G o) (XC G o) args s mc ms (g_A G)) (F0 m pc arr (st.map (cv G)))
def SN (G : AG) (l : Launch) (rec : ACfg → Option AOut) : Prop := ∀ {p : Program} {e : Env} {R : Room} {s : State} {m : MethodId} {args : Array Value} {below : List Frame} {meth : Method} {c : Code} {H : Heap} {locs : List Loc} {cells slots mc ms : Nat} {arr : Array Slot} {d gc gs mi pc : Nat} {ls : List Slot} {st : List Value} {μ : AM} {o : AOut}, rec (d, gc, gs, mi, pc, ls, st, μ) = some o → CX G p l R s m args meth c H locs cells slots mc ms arr d gc gs mi ls μ → GO G p l e R s m args below meth c H locs cells slots mc ms arr pc st o
theorem cat1 {G : AG} (hG : gok G) {v : Value} (h : Nat.beq v.category 1 = true) : (cv G v).category = 1 := by
  have hf : (gF G).category = 1 := by
    rcases hG with h | ⟨a, h⟩ <;> rw [h] <;> rfl
  rw [cvv_cat hf]
  exact Nat.eq_of_beq_eq_true h
theorem gcat {G : AG} (hG : gok G) : (gF G).category = 1 := by
  rcases hG with h | ⟨a, h⟩ <;> rw [h] <;> rfl
theorem cv_ref {G : AG} (hG : gok G) (id : Nat) : cv G (.ref id) = .null ∨ ∃ a, cv G (.ref id) = .ref a := by
  show (if id = 0 then Value.null else if id = 2816 then gF G else Value.ref (g_ad G id)) = .null ∨ ∃ a, (if id = 0 then Value.null else if id = 2816 then gF G else Value.ref (g_ad G id)) = .ref a
  split
  · exact Or.inl rfl
  · split
    · exact hG
    · exact Or.inr ⟨_, rfl⟩
