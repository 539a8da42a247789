/-! SOUNDNESS: the returns -/
section RET
variable {G : AG} {p : Program} {l : Launch} {e : Env} {R : Room} {s : State} {m : MethodId} {args : Array Value} {below : List Frame} {meth : Method} {c : Code} {H : Heap} {locs : List Loc} {cells slots mc ms : Nat} {arr : Array Slot} {d gc gs mi pc : Nat} {ls : List Slot} {st : List Value} {μ : AM} {o : AOut} {rec : ACfg → Option AOut} {x : Nat × Nat × Nat}
theorem w_nret {cc : ByteArray} {Qc : Array Value → State → Outcome → State → Prop} {free : Addr → Prop} {v w : Int32} {ty : FieldType} (hexec : p.tables.exec = Jvm.exec) (hb : c.code = cc) (hr : meth.sig.returnType = some ty) (hn : narrow ty (.int v) = .int w)
    (hq : ∀ t : State, t.heap = H → s.WarmedH t.vm → Qc args s (.returned (some (.int w))) t) (hf : ∀ q ∈ locs, free q.base)
    {pc : Nat} {ls : Array Slot} (hdg : decode cc pc = .ok (.ireturn, 1)) (hlocks : meth.locks = false) : W p l e R s m args below meth c H locs cells slots (MQ below Qc args s cells slots free) (F0 m pc ls [.int v]) := by
  intro T hT X
  have hlocks : meth.locks = false := hlocks
  obtain ⟨fs, hret, hrun, hended, hW, hframe⟩ := X.leave (v := some (.int w)) (fun h => by rw [hr] at h; cases h)
  have hmeth' : T.vm.method? m = some meth := X.method'
  refine ⟨T.setFrames fs, ?_, .returned (some (.int w)), hrun, hended, hq _ hT hW, locs, ⟨⟨_, rfl⟩, hW, hframe⟩, hf⟩
  jvm_step X.here [X.here.top, hexec, hb, hdg, hmeth', hr, hn]
  (try refine ⟨rfl, ?_⟩); (try refine ⟨rfl, ?_⟩)
  first | (intro acts; rw [hret _ acts rfl rfl rfl]) | rw [hret _ _ rfl rfl rfl]
  exact Steps.refl _
/-- the kind of an answer -/
def a_rtk : Option FieldType → Nat
  | none => 0
  | some .int => 1
  | some .boolean => 2
  | some .long => 3
  | some .char => 5
  | some .byte => 6
  | some (.object _) => 4
  | some (.array _) => 4
  | _ => 99
theorem nar_ok {rt : Option FieldType} {k : Nat} (h : a_rtk rt = k) (hk : k = 1 ∨ k = 2 ∨ k = 5 ∨ k = 6) (v : Int32) : ∃ ty, rt = some ty ∧ narrow ty (.int v) = .int (a_nar k v) := by
  cases rt with
  | none => subst h; simp [a_rtk] at hk
  | some ty =>
    refine ⟨ty, rfl, ?_⟩
    cases ty <;> simp [a_rtk] at h <;> subst h <;> simp at hk <;> simp [narrow, a_nar, zb]
theorem OP_ireturn (hx : CX G p l R s m args meth c H locs cells slots mc ms arr d gc gs mi ls μ) (hd : decode (a_bytes mi) pc = .ok (.ireturn, 1)) (hrt : a_rtk (a_rt mi) = (a_mt mi).2.2.2.1) (hk : (a_mt mi).2.2.2.1 = 1 ∨ (a_mt mi).2.2.2.1 = 2 ∨ (a_mt mi).2.2.2.1 = 5 ∨ (a_mt mi).2.2.2.1 = 6) (h : a_ins rec (.ireturn) d gc gs mi pc ls st μ x = some o) : GO G p l e R s m args below meth c H locs cells slots mc ms arr pc st o := by
  obtain ⟨hA, hW, hV, hK, hw, hl, hr⟩ := hx
  obtain ⟨cnt, asg, L, Is, Rs, Lg⟩ := μ
  simp only [a_ins] at h
  split at h
  · rename_i v
    obtain rfl := Option.some.inj h
    obtain ⟨ty, h1, h2⟩ := nar_ok hrt hk v
    refine vx_ret (W.widen (k := mc) (n := ms) (by have := hr.2.2.1; omega) (by have := hr.2.2.2.1; omega) ?_)
    exact w_nret hA.1 hA.2.1 (hA.2.2.1.trans h1) h2 (fun t ht _ => ⟨rfl, by rw [ht]; exact hW, hV.F ht⟩) (fun q hq => hV.2.2 q hq) hd hA.2.2.2.1
  · cases h
theorem OP_lreturn (hx : CX G p l R s m args meth c H locs cells slots mc ms arr d gc gs mi ls μ) (hd : decode (a_bytes mi) pc = .ok (.lreturn, 1)) (hrt : a_rt mi = some .long) (h : a_ins rec (.lreturn) d gc gs mi pc ls st μ x = some o) : GO G p l e R s m args below meth c H locs cells slots mc ms arr pc st o := by
  obtain ⟨hA, hW, hV, hK, hw, hl, hr⟩ := hx
  obtain ⟨cnt, asg, L, Is, Rs, Lg⟩ := μ
  simp only [a_ins] at h
  split at h
  · rename_i v
    obtain rfl := Option.some.inj h
    refine vx_ret (W.widen (k := mc) (n := ms) (by have := hr.2.2.1; omega) (by have := hr.2.2.2.1; omega) ?_)
    exact W.lret hA.1 hA.2.1 (hA.2.2.1.trans hrt) (fun t ht _ => ⟨rfl, by rw [ht]; exact hW, hV.F ht⟩) (fun q hq => hV.2.2 q hq) hd hA.2.2.2.1
  · cases h
theorem OP_areturn (hG : gok G) (hx : CX G p l R s m args meth c H locs cells slots mc ms arr d gc gs mi ls μ) (hd : decode (a_bytes mi) pc = .ok (.areturn, 1)) (hrt : a_rtk (a_rt mi) = 4) (h : a_ins rec (.areturn) d gc gs mi pc ls st μ x = some o) : GO G p l e R s m args below meth c H locs cells slots mc ms arr pc st o := by
  obtain ⟨hA, hW, hV, hK, hw, hl, hr⟩ := hx
  obtain ⟨cnt, asg, L, Is, Rs, Lg⟩ := μ
  simp only [a_ins] at h
  split at h
  · rename_i v
    obtain rfl := Option.some.inj h
    refine vx_ret (W.widen (k := mc) (n := ms) (by have := hr.2.2.1; omega) (by have := hr.2.2.2.1; omega) ?_)
    have hrt2 : ∃ rt, a_rt mi = some rt ∧ ((∃ n, rt = .object n) ∨ ∃ t, rt = .array t) := by
      cases ha : a_rt mi with
      | none => rw [ha] at hrt; cases hrt
      | some ty => rw [ha] at hrt; cases ty <;> simp [a_rtk] at hrt <;> simp
    obtain ⟨rt, h1, h2⟩ := hrt2
    exact W.aret hA.1 hA.2.1 (hA.2.2.1.trans h1) h2 (cv_ref hG v) (fun t ht _ => ⟨rfl, by rw [ht]; exact hW, hV.F ht⟩) (fun q hq => hV.2.2 q hq) hd hA.2.2.2.1
  · cases h
theorem OP_return_ (hx : CX G p l R s m args meth c H locs cells slots mc ms arr d gc gs mi ls μ) (hd : decode (a_bytes mi) pc = .ok (.return_, 1)) (hrt : a_rt mi = none) (h : a_ins rec (.return_) d gc gs mi pc ls st μ x = some o) : GO G p l e R s m args below meth c H locs cells slots mc ms arr pc st o := by
  obtain ⟨hA, hW, hV, hK, hw, hl, hr⟩ := hx
  obtain ⟨cnt, asg, L, Is, Rs, Lg⟩ := μ
  simp only [a_ins] at h
  split at h
  · obtain rfl := Option.some.inj h
    refine vx_ret (W.widen (k := mc) (n := ms) (by have := hr.2.2.1; omega) (by have := hr.2.2.2.1; omega) ?_)
    exact W.vret hA.1 hA.2.1 (hA.2.2.1.trans hrt) (fun t ht _ => ⟨rfl, by rw [ht]; exact hW, hV.F ht⟩) (fun q hq => hV.2.2 q hq) hd hA.2.2.2.1
  · cases h
end RET
