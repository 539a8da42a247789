/-! THE CLAIM OUT OF ONE WALK OF THE LAW'S BODY. Your part is whole_start (and what it stands on); all else here is the same for every law, but numbers. -/
def R_law : String := "YieldedHoursLaw"
def lw_P (b : Addr) (xs : List Int32) (args : Array Value) (s : State) : Prop := args = #[.ref b] ∧ s.IntsAt b xs ∧ xs.length ≤ 3072 ∧ (Jvm.Cond.and given_1 narrow_1).before args s = true
def lw_Q (_ : Array Value) (s : State) (o : Outcome) (t : State) : Prop := o = .returned (some (.int 1)) ∧ Framed s o t [] 601024 7293034
def lw_Z (below : List Frame) (a : Array Value) (s : State) : State → Prop := fun t => ∃ o, t.status = .running ∧ Ended t below o ∧ lw_Q a s o t
/-- what holds at the law's entry: the machine, the code, the tables' words (any of lw_tbl by 'hts w (by decide +kernel)'), the script of L ints xs at the cell b, what the Statement gives of the start (any of its parts by flat_of_before) -/
def lw_At (p : Program) (s : State) (m : MethodId) (meth : Method) (c : Code) (b L : Nat) (xs : Nat → Int32) : Prop :=
  p.tables.exec = Jvm.exec ∧ c.code = code ∧ meth.sig.returnType = ret ∧ c.maxLocals = 8 ∧ s.vm.findClass R_law = some m.cls ∧ (∀ w ∈ lw_tbl, w.before #[Value.ref b] s = true) ∧ va_X b L xs s s.heap ∧ b < s.heap.size ∧ meth.locks = false ∧ (Jvm.Cond.and given_1 narrow_1).before #[Value.ref b] s = true ∧ meth.name = x.name ∧ c.exceptionTable.toList = []
/-- places on cells that are made from the start on bind nothing -/
theorem st_drop {s t : State} {L : List Loc} {k n : Nat} (h : s.sameButNew t L k n) (hL : ∀ x ∈ L, s.heap.size ≤ x.base) : s.sameButNew t [] k n := by
  obtain ⟨h1, h2, h3, h4, h5, h6⟩ := h
  refine ⟨h1, h2, h3, h4, h5, fun a c hc => ?_⟩
  obtain ⟨c', hc', hce, hsz, hout⟩ := h6 a c hc
  refine ⟨c', hc', hce, hsz, fun i hi => hout i fun hm => ?_⟩
  have hb : s.heap.size ≤ a := hL _ hm
  exact Nat.lt_irrefl _ (Nat.lt_of_lt_of_le (Array.getElem?_eq_some_iff.mp hc).1 hb)
def st_z : Nat → Nat → Int32 := fun _ _ => 0
/-- the memory at the law's entry: nothing is made; the script stands in its region -/
def st_mu (L : Nat) (xs : Nat → Int32) : AM := (0, 0, L, [st_z, st_z, st_z, st_z, st_z, st_z, st_z, st_z, st_z, st_z, st_z, st_z, st_z, st_z, st_z, st_z, st_z, st_z, st_z, st_z, fun _ i => xs i], [0, 0, 0, 0, 0, 0, 0, 0, 0], 0)
theorem st_Wd {G : AG} {s : State} (hB : gB G = s.heap.size) : Wd G (st_mu (gL G) (gX G)) s.heap := by
  refine ⟨fun k q hq => ?_, ⟨fun i j p q hp => ?_, fun k q hq => ?_⟩, ?_, fun _ => ?_, rfl, Nat.zero_le _, rfl, rfl, fun j => ?_, fun i => rfl⟩
  · exact absurd (show ([] : va_W)[k]? = some q from hq) (by simp)
  · exact absurd (show ([] : va_W)[i]? = some p from hp) (by simp)
  · exact absurd (show ([] : va_W)[k]? = some q from hq) (by simp)
  · show gB G + 0 ≤ s.heap.size
    omega
  · show s.heap.size = gB G + 0
    omega
  · show a_nth [0, 0, 0, 0, 0, 0, 0, 0, 0] 0 (6 + j) ≠ 2816
    have : ∀ j : Nat, a_nth [0, 0, 0, 0, 0, 0, 0, 0, 0] 0 (j + 6) = 0 := by
      intro j
      rcases j with _ | _ | _ | j <;> rfl
    rw [Nat.add_comm, this]
    decide
theorem st_383 : a_bytes 383 = code ∧ a_rt 383 = ret ∧ (a_mt 383).1 = 8 ∧ a_own 383 = R_law ∧ (a_name 383).name = x.name ∧ tableOf (a_hs 383) = [] := by
  refine ⟨Eq.refl _, ?_, ?_, ?_, ?_, ?_⟩ <;> first | exact Eq.refl _ | decide +kernel
theorem st_cvb {G : AG} (hG : GOK G) : cv G (.ref 1344) = .ref (gS G) := by
  show (if (1344 : Nat) = 0 then Value.null else if (1344 : Nat) = 2816 then gF G else Value.ref (if a_sq 1344 = 0 then gC G 1344 else gB G + (a_sq 1344 - 1))) = _
  rw [if_neg (by decide), if_neg (by decide), if_pos (show a_sq 1344 = 0 by decide +kernel), hG.2.1]
/-- from the entry, for every script of at most 3072 ints, the law comes to its end with true -/
theorem st_from {p : Program} {e : Env} {s : State} {m : MethodId} {below : List Frame} {meth : Method} {c : Code} (l : Launch) (hflags : l.flags = flags0) {b L : Nat} {xs : Nat → Int32} (hL : L ≤ 3072) (hr0 : ∃ (n : Nat) (μ : AM), a_run n (60, 2174, 28175, 383, 0, a_ent [.ref 1344] 8, [], st_mu L xs) = some (0, some (.int 1), μ)) (C0 : lw_At p s m meth c b L xs) : W p l e room_1 s m #[Value.ref b] below meth c s.heap [] 0 0 (lw_Z below #[Value.ref b] s) (entryFrame m ([Value.ref b] : List Value).toArray 8) := by
  obtain ⟨hx, hcode, hret, hml, hown, hts, hX, hbl, hlk, hgv, hname, htab⟩ := C0
  obtain ⟨G, hSF, hGOK, hB, hS, hGL, hGX⟩ := st_SF hgv hts hX hbl
  obtain ⟨k1, k2, k3, k4, k5, k6⟩ := st_383
  obtain ⟨n, μ, hrun⟩ := hr0
  obtain ⟨hLR, hWFL, hlen⟩ := entry_LR hGOK.1 (vs := [.ref 1344]) (n := 8) (by decide) (by decide)
  have he : ([Value.ref 1344] : List Value).map (cv G) = [.ref b] := by
    rw [List.map_cons, List.map_nil, st_cvb hGOK, hS]
  rw [he] at hLR
  have hst : l.stackTraces = false := by
    unfold Launch.stackTraces
    rw [hflags]
    decide
  have hWd : Wd G (st_mu L xs) s.heap := by
    rw [← hGL, ← hGX]
    exact st_Wd hB
  have hAC : AC G p l s m #[Value.ref b] meth c 383 := ⟨hx, hcode.trans k1.symm, hret.trans k2.symm, hlk, hml.trans k3.symm, by rw [k4]; exact hown, fun w hw => hts w (List.mem_filter.mp hw).1, hst, hSF, hname.trans k5.symm, htab.trans k6.symm⟩
  have hRM : RM room_1 60 2174 28175 0 0 601024 7293034 := ⟨by decide, by decide, by decide, by decide, by decide, by decide⟩
  have g := SN_run (l := l) hGOK n (e := e) (below := below) hrun ⟨hAC, hWd, va_S.rf, hLR, hWFL, hlen.trans k3.symm, hRM⟩
  rw [lg_entry_eq]
  intro T hT X
  obtain ⟨t, a1, o, b1, b2, b3⟩ := g T hT X
  refine ⟨t, a1, o, b1, b2, ?_⟩
  rcases b3 with ⟨hq, Lc, hF, hfree⟩ | ⟨q, -, E, ce, Lx, hXC, -⟩
  · refine ⟨hq.1, hF.1, hF.2.1, st_drop hF.2.2 fun z hz => ?_⟩
    have : gB G ≤ z.base := hfree z hz
    omega
  · exact False.elim (show False from hXC)
