/-! printed by program (wip/whole/snd/ops1.py): the plain instructions, one by one -/
section OPS1
variable {G : AG} {p : Program} {l : Launch} {e : Env} {R : Room} {s : State} {m : MethodId} {args : Array Value} {below : List Frame} {meth : Method} {c : Code} {H : Heap} {locs : List Loc} {cells slots mc ms : Nat} {arr : Array Slot} {d gc gs mi pc : Nat} {ls : List Slot} {st : List Value} {μ : AM} {o : AOut} {rec : ACfg → Option AOut} {x : Nat × Nat × Nat}
theorem OP_iconst {n : Int} (hS : SN G l rec) (hx : CX G p l R s m args meth c H locs cells slots mc ms arr d gc gs mi ls μ) (hd : decode (a_bytes mi) pc = .ok (.iconst n, 1)) (hv : Int32.ofInt n = a_ci x.2.1) (h : a_ins rec (.iconst n) d gc gs mi pc ls st μ x = some o) : GO G p l e R s m args below meth c H locs cells slots mc ms arr pc st o := by
  obtain ⟨cnt, asg, L, Is, Rs, Lg⟩ := μ
  simp only [a_ins] at h
  exact lv_iconst hx.1.1 hx.1.2.1 hd hv (hS h hx)
theorem OP_bipush {n : Int} (hS : SN G l rec) (hx : CX G p l R s m args meth c H locs cells slots mc ms arr d gc gs mi ls μ) (hd : decode (a_bytes mi) pc = .ok (.bipush n, 2)) (hv : (Int8.ofInt n).toInt32 = a_ci x.2.1) (h : a_ins rec (.bipush n) d gc gs mi pc ls st μ x = some o) : GO G p l e R s m args below meth c H locs cells slots mc ms arr pc st o := by
  obtain ⟨cnt, asg, L, Is, Rs, Lg⟩ := μ
  simp only [a_ins] at h
  exact lv_bipush hx.1.1 hx.1.2.1 hd hv (hS h hx)
theorem OP_sipush {n : Int} (hS : SN G l rec) (hx : CX G p l R s m args meth c H locs cells slots mc ms arr d gc gs mi ls μ) (hd : decode (a_bytes mi) pc = .ok (.sipush n, 3)) (hv : (Int16.ofInt n).toInt32 = a_ci x.2.1) (h : a_ins rec (.sipush n) d gc gs mi pc ls st μ x = some o) : GO G p l e R s m args below meth c H locs cells slots mc ms arr pc st o := by
  obtain ⟨cnt, asg, L, Is, Rs, Lg⟩ := μ
  simp only [a_ins] at h
  exact lv_sipush hx.1.1 hx.1.2.1 hd hv (hS h hx)
theorem OP_lconst {n : Fin 2} (hS : SN G l rec) (hx : CX G p l R s m args meth c H locs cells slots mc ms arr d gc gs mi ls μ) (hd : decode (a_bytes mi) pc = .ok (.lconst n, 1)) (h : a_ins rec (.lconst n) d gc gs mi pc ls st μ x = some o) : GO G p l e R s m args below meth c H locs cells slots mc ms arr pc st o := by
  obtain ⟨cnt, asg, L, Is, Rs, Lg⟩ := μ
  simp only [a_ins] at h
  exact lv_lconst hx.1.1 hx.1.2.1 hd rfl (hS h hx)
theorem OP_aconst_null (hS : SN G l rec) (hx : CX G p l R s m args meth c H locs cells slots mc ms arr d gc gs mi ls μ) (hd : decode (a_bytes mi) pc = .ok (.aconst_null, 1)) (h : a_ins rec (.aconst_null) d gc gs mi pc ls st μ x = some o) : GO G p l e R s m args below meth c H locs cells slots mc ms arr pc st o := by
  obtain ⟨cnt, asg, L, Is, Rs, Lg⟩ := μ
  simp only [a_ins] at h
  exact lv_null hx.1.1 hx.1.2.1 hd (hS h hx)
theorem OP_iload_n {k : Fin 4} (hS : SN G l rec) (hx : CX G p l R s m args meth c H locs cells slots mc ms arr d gc gs mi ls μ) (hd : decode (a_bytes mi) pc = .ok (.iload_n k, 1)) (h : a_ins rec (.iload_n k) d gc gs mi pc ls st μ x = some o) : GO G p l e R s m args below meth c H locs cells slots mc ms arr pc st o := by
  obtain ⟨cnt, asg, L, Is, Rs, Lg⟩ := μ
  simp only [a_ins] at h
  split at h
  · rename_i v hg
    exact lv_iload_n hx.1.1 hx.1.2.1 hd rfl (hx.2.2.2.1.at hg rfl) (hS h hx)
  · cases h
theorem OP_iload {k : Nat} (hS : SN G l rec) (hx : CX G p l R s m args meth c H locs cells slots mc ms arr d gc gs mi ls μ) (hd : decode (a_bytes mi) pc = .ok (.iload k, 2)) (h : a_ins rec (.iload k) d gc gs mi pc ls st μ x = some o) : GO G p l e R s m args below meth c H locs cells slots mc ms arr pc st o := by
  obtain ⟨cnt, asg, L, Is, Rs, Lg⟩ := μ
  simp only [a_ins] at h
  split at h
  · rename_i v hg
    exact lv_iload hx.1.1 hx.1.2.1 hd (hx.2.2.2.1.at hg rfl) (hS h hx)
  · cases h
theorem OP_lload_n {k : Fin 4} (hS : SN G l rec) (hx : CX G p l R s m args meth c H locs cells slots mc ms arr d gc gs mi ls μ) (hd : decode (a_bytes mi) pc = .ok (.lload_n k, 1)) (h : a_ins rec (.lload_n k) d gc gs mi pc ls st μ x = some o) : GO G p l e R s m args below meth c H locs cells slots mc ms arr pc st o := by
  obtain ⟨cnt, asg, L, Is, Rs, Lg⟩ := μ
  simp only [a_ins] at h
  split at h
  · rename_i v hg
    exact lv_lload_n hx.1.1 hx.1.2.1 hd rfl (hx.2.2.2.1.at hg rfl) (hS h hx)
  · cases h
theorem OP_lload {k : Nat} (hS : SN G l rec) (hx : CX G p l R s m args meth c H locs cells slots mc ms arr d gc gs mi ls μ) (hd : decode (a_bytes mi) pc = .ok (.lload k, 2)) (h : a_ins rec (.lload k) d gc gs mi pc ls st μ x = some o) : GO G p l e R s m args below meth c H locs cells slots mc ms arr pc st o := by
  obtain ⟨cnt, asg, L, Is, Rs, Lg⟩ := μ
  simp only [a_ins] at h
  split at h
  · rename_i v hg
    exact lv_lload hx.1.1 hx.1.2.1 hd (hx.2.2.2.1.at hg rfl) (hS h hx)
  · cases h
theorem OP_iadd (hS : SN G l rec) (hx : CX G p l R s m args meth c H locs cells slots mc ms arr d gc gs mi ls μ) (hd : decode (a_bytes mi) pc = .ok (.iadd, 1)) (h : a_ins rec (.iadd) d gc gs mi pc ls st μ x = some o) : GO G p l e R s m args below meth c H locs cells slots mc ms arr pc st o := by
  obtain ⟨cnt, asg, L, Is, Rs, Lg⟩ := μ
  simp only [a_ins] at h
  split at h
  · exact lv_iadd hx.1.1 hx.1.2.1 hd (hS h hx)
  · cases h
theorem OP_isub (hS : SN G l rec) (hx : CX G p l R s m args meth c H locs cells slots mc ms arr d gc gs mi ls μ) (hd : decode (a_bytes mi) pc = .ok (.isub, 1)) (h : a_ins rec (.isub) d gc gs mi pc ls st μ x = some o) : GO G p l e R s m args below meth c H locs cells slots mc ms arr pc st o := by
  obtain ⟨cnt, asg, L, Is, Rs, Lg⟩ := μ
  simp only [a_ins] at h
  split at h
  · exact lv_isub hx.1.1 hx.1.2.1 hd (hS h hx)
  · cases h
theorem OP_imul (hS : SN G l rec) (hx : CX G p l R s m args meth c H locs cells slots mc ms arr d gc gs mi ls μ) (hd : decode (a_bytes mi) pc = .ok (.imul, 1)) (h : a_ins rec (.imul) d gc gs mi pc ls st μ x = some o) : GO G p l e R s m args below meth c H locs cells slots mc ms arr pc st o := by
  obtain ⟨cnt, asg, L, Is, Rs, Lg⟩ := μ
  simp only [a_ins] at h
  split at h
  · exact lv_imul hx.1.1 hx.1.2.1 hd (hS h hx)
  · cases h
theorem OP_iand (hS : SN G l rec) (hx : CX G p l R s m args meth c H locs cells slots mc ms arr d gc gs mi ls μ) (hd : decode (a_bytes mi) pc = .ok (.iand, 1)) (h : a_ins rec (.iand) d gc gs mi pc ls st μ x = some o) : GO G p l e R s m args below meth c H locs cells slots mc ms arr pc st o := by
  obtain ⟨cnt, asg, L, Is, Rs, Lg⟩ := μ
  simp only [a_ins] at h
  split at h
  · exact lv_iand hx.1.1 hx.1.2.1 hd (hS h hx)
  · cases h
theorem OP_ior (hS : SN G l rec) (hx : CX G p l R s m args meth c H locs cells slots mc ms arr d gc gs mi ls μ) (hd : decode (a_bytes mi) pc = .ok (.ior, 1)) (h : a_ins rec (.ior) d gc gs mi pc ls st μ x = some o) : GO G p l e R s m args below meth c H locs cells slots mc ms arr pc st o := by
  obtain ⟨cnt, asg, L, Is, Rs, Lg⟩ := μ
  simp only [a_ins] at h
  split at h
  · exact lv_ior hx.1.1 hx.1.2.1 hd (hS h hx)
  · cases h
theorem OP_ixor (hS : SN G l rec) (hx : CX G p l R s m args meth c H locs cells slots mc ms arr d gc gs mi ls μ) (hd : decode (a_bytes mi) pc = .ok (.ixor, 1)) (h : a_ins rec (.ixor) d gc gs mi pc ls st μ x = some o) : GO G p l e R s m args below meth c H locs cells slots mc ms arr pc st o := by
  obtain ⟨cnt, asg, L, Is, Rs, Lg⟩ := μ
  simp only [a_ins] at h
  split at h
  · exact lv_ixor hx.1.1 hx.1.2.1 hd (hS h hx)
  · cases h
theorem OP_ishl (hS : SN G l rec) (hx : CX G p l R s m args meth c H locs cells slots mc ms arr d gc gs mi ls μ) (hd : decode (a_bytes mi) pc = .ok (.ishl, 1)) (h : a_ins rec (.ishl) d gc gs mi pc ls st μ x = some o) : GO G p l e R s m args below meth c H locs cells slots mc ms arr pc st o := by
  obtain ⟨cnt, asg, L, Is, Rs, Lg⟩ := μ
  simp only [a_ins] at h
  split at h
  · exact lv_ishl hx.1.1 hx.1.2.1 hd (hS h hx)
  · cases h
theorem OP_ishr (hS : SN G l rec) (hx : CX G p l R s m args meth c H locs cells slots mc ms arr d gc gs mi ls μ) (hd : decode (a_bytes mi) pc = .ok (.ishr, 1)) (h : a_ins rec (.ishr) d gc gs mi pc ls st μ x = some o) : GO G p l e R s m args below meth c H locs cells slots mc ms arr pc st o := by
  obtain ⟨cnt, asg, L, Is, Rs, Lg⟩ := μ
  simp only [a_ins] at h
  split at h
  · exact lv_ishr hx.1.1 hx.1.2.1 hd (hS h hx)
  · cases h
theorem OP_iushr (hS : SN G l rec) (hx : CX G p l R s m args meth c H locs cells slots mc ms arr d gc gs mi ls μ) (hd : decode (a_bytes mi) pc = .ok (.iushr, 1)) (h : a_ins rec (.iushr) d gc gs mi pc ls st μ x = some o) : GO G p l e R s m args below meth c H locs cells slots mc ms arr pc st o := by
  obtain ⟨cnt, asg, L, Is, Rs, Lg⟩ := μ
  simp only [a_ins] at h
  split at h
  · exact lv_iushr hx.1.1 hx.1.2.1 hd rfl (hS h hx)
  · cases h
theorem OP_ineg (hS : SN G l rec) (hx : CX G p l R s m args meth c H locs cells slots mc ms arr d gc gs mi ls μ) (hd : decode (a_bytes mi) pc = .ok (.ineg, 1)) (h : a_ins rec (.ineg) d gc gs mi pc ls st μ x = some o) : GO G p l e R s m args below meth c H locs cells slots mc ms arr pc st o := by
  obtain ⟨cnt, asg, L, Is, Rs, Lg⟩ := μ
  simp only [a_ins] at h
  split at h
  · exact lv_ineg hx.1.1 hx.1.2.1 hd (hS h hx)
  · cases h
theorem OP_idiv (hS : SN G l rec) (hx : CX G p l R s m args meth c H locs cells slots mc ms arr d gc gs mi ls μ) (hd : decode (a_bytes mi) pc = .ok (.idiv, 1)) (h : a_ins rec (.idiv) d gc gs mi pc ls st μ x = some o) : GO G p l e R s m args below meth c H locs cells slots mc ms arr pc st o := by
  obtain ⟨cnt, asg, L, Is, Rs, Lg⟩ := μ
  simp only [a_ins] at h
  split at h
  · split at h
    · cases h
    · rename_i hne
      exact lv_idiv hx.1.1 hx.1.2.1 hd hne (hS h hx)
  · cases h
theorem OP_irem (hS : SN G l rec) (hx : CX G p l R s m args meth c H locs cells slots mc ms arr d gc gs mi ls μ) (hd : decode (a_bytes mi) pc = .ok (.irem, 1)) (h : a_ins rec (.irem) d gc gs mi pc ls st μ x = some o) : GO G p l e R s m args below meth c H locs cells slots mc ms arr pc st o := by
  obtain ⟨cnt, asg, L, Is, Rs, Lg⟩ := μ
  simp only [a_ins] at h
  split at h
  · split at h
    · cases h
    · rename_i hne
      exact lv_irem hx.1.1 hx.1.2.1 hd hne (hS h hx)
  · cases h
theorem OP_i2l (hS : SN G l rec) (hx : CX G p l R s m args meth c H locs cells slots mc ms arr d gc gs mi ls μ) (hd : decode (a_bytes mi) pc = .ok (.i2l, 1)) (h : a_ins rec (.i2l) d gc gs mi pc ls st μ x = some o) : GO G p l e R s m args below meth c H locs cells slots mc ms arr pc st o := by
  obtain ⟨cnt, asg, L, Is, Rs, Lg⟩ := μ
  simp only [a_ins] at h
  split at h
  · exact lv_i2l hx.1.1 hx.1.2.1 hd rfl (hS h hx)
  · cases h
theorem OP_i2c (hS : SN G l rec) (hx : CX G p l R s m args meth c H locs cells slots mc ms arr d gc gs mi ls μ) (hd : decode (a_bytes mi) pc = .ok (.i2c, 1)) (h : a_ins rec (.i2c) d gc gs mi pc ls st μ x = some o) : GO G p l e R s m args below meth c H locs cells slots mc ms arr pc st o := by
  obtain ⟨cnt, asg, L, Is, Rs, Lg⟩ := μ
  simp only [a_ins] at h
  split at h
  · exact lv_i2c hx.1.1 hx.1.2.1 hd rfl (hS h hx)
  · cases h
theorem OP_ladd (hS : SN G l rec) (hx : CX G p l R s m args meth c H locs cells slots mc ms arr d gc gs mi ls μ) (hd : decode (a_bytes mi) pc = .ok (.ladd, 1)) (h : a_ins rec (.ladd) d gc gs mi pc ls st μ x = some o) : GO G p l e R s m args below meth c H locs cells slots mc ms arr pc st o := by
  obtain ⟨cnt, asg, L, Is, Rs, Lg⟩ := μ
  simp only [a_ins] at h
  split at h
  · exact lv_ladd hx.1.1 hx.1.2.1 hd (hS h hx)
  · cases h
theorem OP_lmul (hS : SN G l rec) (hx : CX G p l R s m args meth c H locs cells slots mc ms arr d gc gs mi ls μ) (hd : decode (a_bytes mi) pc = .ok (.lmul, 1)) (h : a_ins rec (.lmul) d gc gs mi pc ls st μ x = some o) : GO G p l e R s m args below meth c H locs cells slots mc ms arr pc st o := by
  obtain ⟨cnt, asg, L, Is, Rs, Lg⟩ := μ
  simp only [a_ins] at h
  split at h
  · exact lv_lmul hx.1.1 hx.1.2.1 hd (hS h hx)
  · cases h
theorem OP_lcmp (hS : SN G l rec) (hx : CX G p l R s m args meth c H locs cells slots mc ms arr d gc gs mi ls μ) (hd : decode (a_bytes mi) pc = .ok (.lcmp, 1)) (h : a_ins rec (.lcmp) d gc gs mi pc ls st μ x = some o) : GO G p l e R s m args below meth c H locs cells slots mc ms arr pc st o := by
  obtain ⟨cnt, asg, L, Is, Rs, Lg⟩ := μ
  simp only [a_ins] at h
  split at h
  · exact W.lcmp hx.1.1 hx.1.2.1 hd (hS h hx)
  · cases h
theorem OP_dup (hG : gok G) (hS : SN G l rec) (hx : CX G p l R s m args meth c H locs cells slots mc ms arr d gc gs mi ls μ) (hd : decode (a_bytes mi) pc = .ok (.dup, 1)) (h : a_ins rec (.dup) d gc gs mi pc ls st μ x = some o) : GO G p l e R s m args below meth c H locs cells slots mc ms arr pc st o := by
  obtain ⟨cnt, asg, L, Is, Rs, Lg⟩ := μ
  simp only [a_ins] at h
  split at h
  · split at h
    · rename_i hc
      exact lv_dup hx.1.1 hx.1.2.1 hd (cat1 hG hc) (hS h hx)
    · cases h
  · cases h
theorem OP_pop (hG : gok G) (hS : SN G l rec) (hx : CX G p l R s m args meth c H locs cells slots mc ms arr d gc gs mi ls μ) (hd : decode (a_bytes mi) pc = .ok (.pop, 1)) (h : a_ins rec (.pop) d gc gs mi pc ls st μ x = some o) : GO G p l e R s m args below meth c H locs cells slots mc ms arr pc st o := by
  obtain ⟨cnt, asg, L, Is, Rs, Lg⟩ := μ
  simp only [a_ins] at h
  split at h
  · split at h
    · rename_i hc
      exact lv_pop hx.1.1 hx.1.2.1 hd (cat1 hG hc) (hS h hx)
    · cases h
  · cases h
theorem OP_dup2 (hG : gok G) (hS : SN G l rec) (hx : CX G p l R s m args meth c H locs cells slots mc ms arr d gc gs mi ls μ) (hd : decode (a_bytes mi) pc = .ok (.dup2, 1)) (h : a_ins rec (.dup2) d gc gs mi pc ls st μ x = some o) : GO G p l e R s m args below meth c H locs cells slots mc ms arr pc st o := by
  obtain ⟨cnt, asg, L, Is, Rs, Lg⟩ := μ
  simp only [a_ins] at h
  split at h
  · split at h
    · rename_i hc
      have hc := Bool.and_eq_true_iff.mp hc
      exact lv_dup2_11 hx.1.1 hx.1.2.1 hd (cat1 hG hc.1) (cat1 hG hc.2) (hS h hx)
    · cases h
  · cases h
theorem OP_goto {off : Int} (hS : SN G l rec) (hx : CX G p l R s m args meth c H locs cells slots mc ms arr d gc gs mi ls μ) (hd : decode (a_bytes mi) pc = .ok (.goto off, 3)) (ht : (pc : Int) + off = (a_tg pc off : Int)) (h : a_ins rec (.goto off) d gc gs mi pc ls st μ x = some o) : GO G p l e R s m args below meth c H locs cells slots mc ms arr pc st o := by
  obtain ⟨cnt, asg, L, Is, Rs, Lg⟩ := μ
  simp only [a_ins] at h
  exact lv_goto hx.1.1 hx.1.2.1 hd ht (hS h hx)
theorem OP_ifCond_eq {off : Int} (hS : SN G l rec) (hx : CX G p l R s m args meth c H locs cells slots mc ms arr d gc gs mi ls μ) (hd : decode (a_bytes mi) pc = .ok (.ifCond .eq off, 3)) (ht : (pc : Int) + off = (a_tg pc off : Int)) (h : a_ins rec (.ifCond .eq off) d gc gs mi pc ls st μ x = some o) : GO G p l e R s m args below meth c H locs cells slots mc ms arr pc st o := by
  obtain ⟨cnt, asg, L, Is, Rs, Lg⟩ := μ
  simp only [a_ins] at h
  split at h
  · simp only [a_cnd] at h
    refine lv_if_eq hx.1.1 hx.1.2.1 hd ht (fun hc => ?_) (fun hc => ?_)
    · rw [if_pos hc] at h
      exact hS h hx
    · rw [if_neg hc] at h
      exact hS h hx
  · cases h
theorem OP_if_icmp_eq {off : Int} (hS : SN G l rec) (hx : CX G p l R s m args meth c H locs cells slots mc ms arr d gc gs mi ls μ) (hd : decode (a_bytes mi) pc = .ok (.if_icmp .eq off, 3)) (ht : (pc : Int) + off = (a_tg pc off : Int)) (h : a_ins rec (.if_icmp .eq off) d gc gs mi pc ls st μ x = some o) : GO G p l e R s m args below meth c H locs cells slots mc ms arr pc st o := by
  obtain ⟨cnt, asg, L, Is, Rs, Lg⟩ := μ
  simp only [a_ins] at h
  split at h
  · simp only [a_cnd] at h
    refine lv_icmp_eq hx.1.1 hx.1.2.1 hd ht (fun hc => ?_) (fun hc => ?_)
    · rw [if_pos hc] at h
      exact hS h hx
    · rw [if_neg hc] at h
      exact hS h hx
  · cases h
theorem OP_ifCond_ne {off : Int} (hS : SN G l rec) (hx : CX G p l R s m args meth c H locs cells slots mc ms arr d gc gs mi ls μ) (hd : decode (a_bytes mi) pc = .ok (.ifCond .ne off, 3)) (ht : (pc : Int) + off = (a_tg pc off : Int)) (h : a_ins rec (.ifCond .ne off) d gc gs mi pc ls st μ x = some o) : GO G p l e R s m args below meth c H locs cells slots mc ms arr pc st o := by
  obtain ⟨cnt, asg, L, Is, Rs, Lg⟩ := μ
  simp only [a_ins] at h
  split at h
  · simp only [a_cnd] at h
    refine lv_if_ne hx.1.1 hx.1.2.1 hd ht (fun hc => ?_) (fun hc => ?_)
    · rw [if_pos hc] at h
      exact hS h hx
    · rw [if_neg (fun q => q hc)] at h
      exact hS h hx
  · cases h
theorem OP_if_icmp_ne {off : Int} (hS : SN G l rec) (hx : CX G p l R s m args meth c H locs cells slots mc ms arr d gc gs mi ls μ) (hd : decode (a_bytes mi) pc = .ok (.if_icmp .ne off, 3)) (ht : (pc : Int) + off = (a_tg pc off : Int)) (h : a_ins rec (.if_icmp .ne off) d gc gs mi pc ls st μ x = some o) : GO G p l e R s m args below meth c H locs cells slots mc ms arr pc st o := by
  obtain ⟨cnt, asg, L, Is, Rs, Lg⟩ := μ
  simp only [a_ins] at h
  split at h
  · simp only [a_cnd] at h
    refine lv_icmp_ne hx.1.1 hx.1.2.1 hd ht (fun hc => ?_) (fun hc => ?_)
    · rw [if_pos hc] at h
      exact hS h hx
    · rw [if_neg (fun q => q hc)] at h
      exact hS h hx
  · cases h
theorem OP_ifCond_lt {off : Int} (hS : SN G l rec) (hx : CX G p l R s m args meth c H locs cells slots mc ms arr d gc gs mi ls μ) (hd : decode (a_bytes mi) pc = .ok (.ifCond .lt off, 3)) (ht : (pc : Int) + off = (a_tg pc off : Int)) (h : a_ins rec (.ifCond .lt off) d gc gs mi pc ls st μ x = some o) : GO G p l e R s m args below meth c H locs cells slots mc ms arr pc st o := by
  obtain ⟨cnt, asg, L, Is, Rs, Lg⟩ := μ
  simp only [a_ins] at h
  split at h
  · simp only [a_cnd] at h
    refine lv_if_lt hx.1.1 hx.1.2.1 hd ht (fun hc => ?_) (fun hc => ?_)
    · rw [if_pos hc] at h
      exact hS h hx
    · rw [if_neg hc] at h
      exact hS h hx
  · cases h
theorem OP_if_icmp_lt {off : Int} (hS : SN G l rec) (hx : CX G p l R s m args meth c H locs cells slots mc ms arr d gc gs mi ls μ) (hd : decode (a_bytes mi) pc = .ok (.if_icmp .lt off, 3)) (ht : (pc : Int) + off = (a_tg pc off : Int)) (h : a_ins rec (.if_icmp .lt off) d gc gs mi pc ls st μ x = some o) : GO G p l e R s m args below meth c H locs cells slots mc ms arr pc st o := by
  obtain ⟨cnt, asg, L, Is, Rs, Lg⟩ := μ
  simp only [a_ins] at h
  split at h
  · simp only [a_cnd] at h
    refine lv_icmp_lt hx.1.1 hx.1.2.1 hd ht (fun hc => ?_) (fun hc => ?_)
    · rw [if_pos hc] at h
      exact hS h hx
    · rw [if_neg hc] at h
      exact hS h hx
  · cases h
theorem OP_ifCond_ge {off : Int} (hS : SN G l rec) (hx : CX G p l R s m args meth c H locs cells slots mc ms arr d gc gs mi ls μ) (hd : decode (a_bytes mi) pc = .ok (.ifCond .ge off, 3)) (ht : (pc : Int) + off = (a_tg pc off : Int)) (h : a_ins rec (.ifCond .ge off) d gc gs mi pc ls st μ x = some o) : GO G p l e R s m args below meth c H locs cells slots mc ms arr pc st o := by
  obtain ⟨cnt, asg, L, Is, Rs, Lg⟩ := μ
  simp only [a_ins] at h
  split at h
  · simp only [a_cnd] at h
    refine lv_if_ge hx.1.1 hx.1.2.1 hd ht (fun hc => ?_) (fun hc => ?_)
    · rw [if_pos hc] at h
      exact hS h hx
    · rw [if_neg hc] at h
      exact hS h hx
  · cases h
theorem OP_if_icmp_ge {off : Int} (hS : SN G l rec) (hx : CX G p l R s m args meth c H locs cells slots mc ms arr d gc gs mi ls μ) (hd : decode (a_bytes mi) pc = .ok (.if_icmp .ge off, 3)) (ht : (pc : Int) + off = (a_tg pc off : Int)) (h : a_ins rec (.if_icmp .ge off) d gc gs mi pc ls st μ x = some o) : GO G p l e R s m args below meth c H locs cells slots mc ms arr pc st o := by
  obtain ⟨cnt, asg, L, Is, Rs, Lg⟩ := μ
  simp only [a_ins] at h
  split at h
  · simp only [a_cnd] at h
    refine lv_icmp_ge hx.1.1 hx.1.2.1 hd ht (fun hc => ?_) (fun hc => ?_)
    · rw [if_pos hc] at h
      exact hS h hx
    · rw [if_neg hc] at h
      exact hS h hx
  · cases h
theorem OP_ifCond_gt {off : Int} (hS : SN G l rec) (hx : CX G p l R s m args meth c H locs cells slots mc ms arr d gc gs mi ls μ) (hd : decode (a_bytes mi) pc = .ok (.ifCond .gt off, 3)) (ht : (pc : Int) + off = (a_tg pc off : Int)) (h : a_ins rec (.ifCond .gt off) d gc gs mi pc ls st μ x = some o) : GO G p l e R s m args below meth c H locs cells slots mc ms arr pc st o := by
  obtain ⟨cnt, asg, L, Is, Rs, Lg⟩ := μ
  simp only [a_ins] at h
  split at h
  · simp only [a_cnd] at h
    refine lv_if_gt hx.1.1 hx.1.2.1 hd ht (fun hc => ?_) (fun hc => ?_)
    · rw [if_pos hc] at h
      exact hS h hx
    · rw [if_neg hc] at h
      exact hS h hx
  · cases h
theorem OP_if_icmp_gt {off : Int} (hS : SN G l rec) (hx : CX G p l R s m args meth c H locs cells slots mc ms arr d gc gs mi ls μ) (hd : decode (a_bytes mi) pc = .ok (.if_icmp .gt off, 3)) (ht : (pc : Int) + off = (a_tg pc off : Int)) (h : a_ins rec (.if_icmp .gt off) d gc gs mi pc ls st μ x = some o) : GO G p l e R s m args below meth c H locs cells slots mc ms arr pc st o := by
  obtain ⟨cnt, asg, L, Is, Rs, Lg⟩ := μ
  simp only [a_ins] at h
  split at h
  · simp only [a_cnd] at h
    refine lv_icmp_gt hx.1.1 hx.1.2.1 hd ht (fun hc => ?_) (fun hc => ?_)
    · rw [if_pos hc] at h
      exact hS h hx
    · rw [if_neg hc] at h
      exact hS h hx
  · cases h
theorem OP_ifCond_le {off : Int} (hS : SN G l rec) (hx : CX G p l R s m args meth c H locs cells slots mc ms arr d gc gs mi ls μ) (hd : decode (a_bytes mi) pc = .ok (.ifCond .le off, 3)) (ht : (pc : Int) + off = (a_tg pc off : Int)) (h : a_ins rec (.ifCond .le off) d gc gs mi pc ls st μ x = some o) : GO G p l e R s m args below meth c H locs cells slots mc ms arr pc st o := by
  obtain ⟨cnt, asg, L, Is, Rs, Lg⟩ := μ
  simp only [a_ins] at h
  split at h
  · simp only [a_cnd] at h
    refine lv_if_le hx.1.1 hx.1.2.1 hd ht (fun hc => ?_) (fun hc => ?_)
    · rw [if_pos hc] at h
      exact hS h hx
    · rw [if_neg hc] at h
      exact hS h hx
  · cases h
theorem OP_if_icmp_le {off : Int} (hS : SN G l rec) (hx : CX G p l R s m args meth c H locs cells slots mc ms arr d gc gs mi ls μ) (hd : decode (a_bytes mi) pc = .ok (.if_icmp .le off, 3)) (ht : (pc : Int) + off = (a_tg pc off : Int)) (h : a_ins rec (.if_icmp .le off) d gc gs mi pc ls st μ x = some o) : GO G p l e R s m args below meth c H locs cells slots mc ms arr pc st o := by
  obtain ⟨cnt, asg, L, Is, Rs, Lg⟩ := μ
  simp only [a_ins] at h
  split at h
  · simp only [a_cnd] at h
    refine lv_icmp_le hx.1.1 hx.1.2.1 hd ht (fun hc => ?_) (fun hc => ?_)
    · rw [if_pos hc] at h
      exact hS h hx
    · rw [if_neg hc] at h
      exact hS h hx
  · cases h
theorem OP_istore_n (hG : gok G) {k : Fin 4} (hS : SN G l rec) (hx : CX G p l R s m args meth c H locs cells slots mc ms arr d gc gs mi ls μ) (hd : decode (a_bytes mi) pc = .ok (.istore_n k, 1)) (h : a_ins rec (.istore_n k) d gc gs mi pc ls st μ x = some o) : GO G p l e R s m args below meth c H locs cells slots mc ms arr pc st o := by
  obtain ⟨cnt, asg, L, Is, Rs, Lg⟩ := μ
  simp only [a_ins] at h
  split at h
  · split at h
    · rename_i hb
      obtain ⟨hA, hW, hV, hK, hw, hl, hr⟩ := hx
      have hlt := Nat.le_of_ble_eq_true hb
      refine lv_istore_n hA.1 hA.2.1 hd (hi := rfl) (h := hK) (hn := hlt) (hl := rfl) (fun arr' ha => ?_)
      obtain ⟨h1, h2, h3⟩ := LR.sto (v := .int _) hw (gcat hG) hlt rfl ha
      exact hS h ⟨hA, hW, hV, h1, h2, h3.trans hl, hr⟩
    · cases h
  · cases h
theorem OP_istore (hG : gok G) {k : Nat} (hS : SN G l rec) (hx : CX G p l R s m args meth c H locs cells slots mc ms arr d gc gs mi ls μ) (hd : decode (a_bytes mi) pc = .ok (.istore k, 2)) (h : a_ins rec (.istore k) d gc gs mi pc ls st μ x = some o) : GO G p l e R s m args below meth c H locs cells slots mc ms arr pc st o := by
  obtain ⟨cnt, asg, L, Is, Rs, Lg⟩ := μ
  simp only [a_ins] at h
  split at h
  · split at h
    · rename_i hb
      obtain ⟨hA, hW, hV, hK, hw, hl, hr⟩ := hx
      have hlt := Nat.le_of_ble_eq_true hb
      refine lv_istore hA.1 hA.2.1 hd (h := hK) (hn := hlt) (hl := rfl) (fun arr' ha => ?_)
      obtain ⟨h1, h2, h3⟩ := LR.sto (v := .int _) hw (gcat hG) hlt rfl ha
      exact hS h ⟨hA, hW, hV, h1, h2, h3.trans hl, hr⟩
    · cases h
  · cases h
theorem OP_lstore_n (hG : gok G) {k : Fin 4} (hS : SN G l rec) (hx : CX G p l R s m args meth c H locs cells slots mc ms arr d gc gs mi ls μ) (hd : decode (a_bytes mi) pc = .ok (.lstore_n k, 1)) (h : a_ins rec (.lstore_n k) d gc gs mi pc ls st μ x = some o) : GO G p l e R s m args below meth c H locs cells slots mc ms arr pc st o := by
  obtain ⟨cnt, asg, L, Is, Rs, Lg⟩ := μ
  simp only [a_ins] at h
  split at h
  · split at h
    · rename_i hb
      obtain ⟨hA, hW, hV, hK, hw, hl, hr⟩ := hx
      have hlt := Nat.le_of_ble_eq_true hb
      refine lv_lstore_n hA.1 hA.2.1 hd (hi := rfl) (h := hK) (hn := hlt) (hl := rfl) (fun arr' ha => ?_)
      obtain ⟨h1, h2, h3⟩ := LR.stl hw (gcat hG) hlt ha
      exact hS h ⟨hA, hW, hV, h1, h2, h3.trans hl, hr⟩
    · cases h
  · cases h
theorem OP_lstore (hG : gok G) {k : Nat} (hS : SN G l rec) (hx : CX G p l R s m args meth c H locs cells slots mc ms arr d gc gs mi ls μ) (hd : decode (a_bytes mi) pc = .ok (.lstore k, 2)) (h : a_ins rec (.lstore k) d gc gs mi pc ls st μ x = some o) : GO G p l e R s m args below meth c H locs cells slots mc ms arr pc st o := by
  obtain ⟨cnt, asg, L, Is, Rs, Lg⟩ := μ
  simp only [a_ins] at h
  split at h
  · split at h
    · rename_i hb
      obtain ⟨hA, hW, hV, hK, hw, hl, hr⟩ := hx
      have hlt := Nat.le_of_ble_eq_true hb
      refine lv_lstore hA.1 hA.2.1 hd (h := hK) (hn := hlt) (hl := rfl) (fun arr' ha => ?_)
      obtain ⟨h1, h2, h3⟩ := LR.stl hw (gcat hG) hlt ha
      exact hS h ⟨hA, hW, hV, h1, h2, h3.trans hl, hr⟩
    · cases h
  · cases h
theorem OP_astore_n (hG : gok G) {k : Fin 4} (hS : SN G l rec) (hx : CX G p l R s m args meth c H locs cells slots mc ms arr d gc gs mi ls μ) (hd : decode (a_bytes mi) pc = .ok (.astore_n k, 1)) (h : a_ins rec (.astore_n k) d gc gs mi pc ls st μ x = some o) : GO G p l e R s m args below meth c H locs cells slots mc ms arr pc st o := by
  obtain ⟨cnt, asg, L, Is, Rs, Lg⟩ := μ
  simp only [a_ins] at h
  split at h
  · rename_i v r
    split at h
    · rename_i hb
      obtain ⟨hA, hW, hV, hK, hw, hl, hr⟩ := hx
      have hlt := Nat.le_of_ble_eq_true hb
      have key : ∀ arr' : Array Slot, lv_has arr' ls.length ((_, cv G (.ref v)) :: (kn (g_ad G) (gF G) ls).filter (fun q => !(q.1 == _) && !(q.1 + 1 == _ && q.2.category == 2))) → GO G p l e R s m args below meth c H locs cells slots mc ms arr' (pc + 1) r o := fun arr' ha => by
        obtain ⟨h1, h2, h3⟩ := LR.sto (v := .ref v) hw (gcat hG) hlt rfl ha
        exact hS h ⟨hA, hW, hV, h1, h2, h3.trans hl, hr⟩
      show W p l e R s m args below meth c H locs cells slots _ (F0 m pc arr (cv G (.ref v) :: r.map (cv G)))
      rcases cv_ref hG v with hv | ⟨a, hv⟩
      · unfold GO at key
        rw [hv] at key ⊢
        exact lv_astore_nN hA.1 hA.2.1 hd (hi := rfl) (h := hK) (hn := hlt) (hl := rfl) key
      · unfold GO at key
        rw [hv] at key ⊢
        exact lv_astore_n hA.1 hA.2.1 hd (hi := rfl) (h := hK) (hn := hlt) (hl := rfl) key
    · cases h
  · cases h
theorem OP_astore (hG : gok G) {k : Nat} (hS : SN G l rec) (hx : CX G p l R s m args meth c H locs cells slots mc ms arr d gc gs mi ls μ) (hd : decode (a_bytes mi) pc = .ok (.astore k, 2)) (h : a_ins rec (.astore k) d gc gs mi pc ls st μ x = some o) : GO G p l e R s m args below meth c H locs cells slots mc ms arr pc st o := by
  obtain ⟨cnt, asg, L, Is, Rs, Lg⟩ := μ
  simp only [a_ins] at h
  split at h
  · rename_i v r
    split at h
    · rename_i hb
      obtain ⟨hA, hW, hV, hK, hw, hl, hr⟩ := hx
      have hlt := Nat.le_of_ble_eq_true hb
      have key : ∀ arr' : Array Slot, lv_has arr' ls.length ((_, cv G (.ref v)) :: (kn (g_ad G) (gF G) ls).filter (fun q => !(q.1 == _) && !(q.1 + 1 == _ && q.2.category == 2))) → GO G p l e R s m args below meth c H locs cells slots mc ms arr' (pc + 2) r o := fun arr' ha => by
        obtain ⟨h1, h2, h3⟩ := LR.sto (v := .ref v) hw (gcat hG) hlt rfl ha
        exact hS h ⟨hA, hW, hV, h1, h2, h3.trans hl, hr⟩
      show W p l e R s m args below meth c H locs cells slots _ (F0 m pc arr (cv G (.ref v) :: r.map (cv G)))
      rcases cv_ref hG v with hv | ⟨a, hv⟩
      · unfold GO at key
        rw [hv] at key ⊢
        exact lv_astoreN hA.1 hA.2.1 hd (h := hK) (hn := hlt) (hl := rfl) key
      · unfold GO at key
        rw [hv] at key ⊢
        exact lv_astore hA.1 hA.2.1 hd (h := hK) (hn := hlt) (hl := rfl) key
    · cases h
  · cases h
theorem OP_aload_n (hG : gok G) {k : Fin 4} (hS : SN G l rec) (hx : CX G p l R s m args meth c H locs cells slots mc ms arr d gc gs mi ls μ) (hd : decode (a_bytes mi) pc = .ok (.aload_n k, 1)) (h : a_ins rec (.aload_n k) d gc gs mi pc ls st μ x = some o) : GO G p l e R s m args below meth c H locs cells slots mc ms arr pc st o := by
  obtain ⟨cnt, asg, L, Is, Rs, Lg⟩ := μ
  simp only [a_ins] at h
  split at h
  · rename_i v hg
    have hat := hx.2.2.2.1.at hg rfl
    have key : GO G p l e R s m args below meth c H locs cells slots mc ms arr (pc + 1) (.ref v :: st) o := hS h hx
    unfold GO at key
    simp only [List.map_cons] at key
    rcases cv_ref hG v with hv | ⟨a, hv⟩
    · rw [hv] at key
      rw [show cvv (g_ad G) (gF G) (.ref v) = _ from hv] at hat
      exact lv_aload_nN hx.1.1 hx.1.2.1 hd rfl hat key
    · rw [hv] at key
      rw [show cvv (g_ad G) (gF G) (.ref v) = _ from hv] at hat
      exact lv_aload_n hx.1.1 hx.1.2.1 hd rfl hat key
  · cases h
theorem OP_aload (hG : gok G) {k : Nat} (hS : SN G l rec) (hx : CX G p l R s m args meth c H locs cells slots mc ms arr d gc gs mi ls μ) (hd : decode (a_bytes mi) pc = .ok (.aload k, 2)) (h : a_ins rec (.aload k) d gc gs mi pc ls st μ x = some o) : GO G p l e R s m args below meth c H locs cells slots mc ms arr pc st o := by
  obtain ⟨cnt, asg, L, Is, Rs, Lg⟩ := μ
  simp only [a_ins] at h
  split at h
  · rename_i v hg
    have hat := hx.2.2.2.1.at hg rfl
    have key : GO G p l e R s m args below meth c H locs cells slots mc ms arr (pc + 2) (.ref v :: st) o := hS h hx
    unfold GO at key
    simp only [List.map_cons] at key
    rcases cv_ref hG v with hv | ⟨a, hv⟩
    · rw [hv] at key
      rw [show cvv (g_ad G) (gF G) (.ref v) = _ from hv] at hat
      exact lv_aloadN hx.1.1 hx.1.2.1 hd hat key
    · rw [hv] at key
      rw [show cvv (g_ad G) (gF G) (.ref v) = _ from hv] at hat
      exact lv_aload hx.1.1 hx.1.2.1 hd hat key
  · cases h
theorem OP_iinc (hG : gok G) {k : Nat} {n : Int} (hS : SN G l rec) (hx : CX G p l R s m args meth c H locs cells slots mc ms arr d gc gs mi ls μ) (hd : decode (a_bytes mi) pc = .ok (.iinc k n, 3)) (hv : Int32.ofInt n = a_ci x.2.1) (h : a_ins rec (.iinc k n) d gc gs mi pc ls st μ x = some o) : GO G p l e R s m args below meth c H locs cells slots mc ms arr pc st o := by
  obtain ⟨cnt, asg, L, Is, Rs, Lg⟩ := μ
  simp only [a_ins] at h
  split at h
  · rename_i v hg
    obtain ⟨hA, hW, hV, hK, hw, hl, hr⟩ := hx
    have hlt := a_get_lt hg
    obtain ⟨j, hj⟩ := List.getElem?_of_mem (kn_mem (ad := g_ad G) (fm := gF G) hg rfl)
    refine lv_iinc hA.1 hA.2.1 hd (h := hK) (hk := hj) (hv := by rw [hv]) (hn := hlt) (hl := rfl) (fun arr' ha => ?_)
    obtain ⟨h1, h2, h3⟩ := LR.sto (v := .int (v + a_ci x.2.1)) hw (gcat hG) hlt rfl ha
    exact hS h ⟨hA, hW, hV, h1, h2, h3.trans hl, hr⟩
  · cases h
end OPS1
