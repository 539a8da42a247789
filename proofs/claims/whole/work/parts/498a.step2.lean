/-! SOUNDNESS: one step, Math.max and Math.min apart -/
section STP
variable {G : AG} {p : Program} {l : Launch} {e : Env} {R : Room} {s : State} {m : MethodId} {args : Array Value} {below : List Frame} {meth : Method} {c : Code} {H : Heap} {locs : List Loc} {cells slots mc ms : Nat} {arr : Array Slot} {d gc gs mi pc : Nat} {ls : List Slot} {st : List Value} {μ : AM} {o : AOut} {rec : ACfg → Option AOut} {x : Nat × Nat × Nat}
/-- what Math.max and Math.min come to -/
def MX (rec : ACfg → Option AOut) : Prop := ∀ (d gc gs k : Nat) (v w : Value) (μ : AM) (o : AOut), (k = 2 ∨ k = 3) → rec (d, gc, gs, k, 0, a_ent [v, w] 2, [], μ) = some o → ∃ a b : Int32, v = .int a ∧ w = .int b ∧ o = (0, some (.int (if k = 2 then (if a < b then b else a) else (if b < a then b else a))), μ)
theorem MX_run (n : Nat) : MX (a_run n) := by
  intro d gc gs k v w μ o hk h
  obtain ⟨cnt, asg, L, Is, Rs, Lg⟩ := μ
  rcases hk with rfl | rfl
  · rcases n with _ | _ | _ | _ | _ | n
    · cases h
    · cases v <;> cases h
    · cases v <;> first | (cases h; done) | (cases w <;> (cases h; done))
    · cases v <;> first | (cases h; done) | (cases w <;> first | (cases h; done) | skip)
      rename_i a b
      have h : (if a < b then (none : Option AOut) else none) = some o := h
      split at h <;> cases h
    · cases v <;> first | (cases h; done) | (cases w <;> first | (cases h; done) | skip)
      rename_i a b
      have h : (if a < b then (none : Option AOut) else none) = some o := h
      split at h <;> cases h
    · cases v <;> first | (cases h; done) | (cases w <;> first | (cases h; done) | skip)
      rename_i a b
      refine ⟨a, b, rfl, rfl, ?_⟩
      rw [if_pos rfl]
      by_cases hab : a < b
      · have h : (if a < b then some ((0, some (.int b), (cnt, asg, L, Is, Rs, Lg)) : AOut) else a_run (n + 2) (d, gc, gs, 2, 5, [.val (.int a), .val (.int b)], [], (cnt, asg, L, Is, Rs, Lg))) = some o := h
        rw [if_pos hab] at h ⊢
        exact (Option.some.inj h).symm
      · have h : (if a < b then some ((0, some (.int b), (cnt, asg, L, Is, Rs, Lg)) : AOut) else a_run (n + 2) (d, gc, gs, 2, 5, [.val (.int a), .val (.int b)], [], (cnt, asg, L, Is, Rs, Lg))) = some o := h
        rw [if_neg hab] at h ⊢
        rcases n with _ | n
        · cases h
        · have h : some ((0, some (.int a), (cnt, asg, L, Is, Rs, Lg)) : AOut) = some o := h
          exact (Option.some.inj h).symm
  · rcases n with _ | _ | _ | _ | _ | n
    · cases h
    · cases v <;> cases h
    · cases v <;> first | (cases h; done) | (cases w <;> (cases h; done))
    · cases v <;> first | (cases h; done) | (cases w <;> first | (cases h; done) | skip)
      rename_i a b
      have h : (if b < a then (none : Option AOut) else none) = some o := h
      split at h <;> cases h
    · cases v <;> first | (cases h; done) | (cases w <;> first | (cases h; done) | skip)
      rename_i a b
      have h : (if b < a then (none : Option AOut) else none) = some o := h
      split at h <;> cases h
    · cases v <;> first | (cases h; done) | (cases w <;> first | (cases h; done) | skip)
      rename_i a b
      refine ⟨a, b, rfl, rfl, ?_⟩
      rw [if_neg (by decide)]
      by_cases hab : b < a
      · have h : (if b < a then some ((0, some (.int b), (cnt, asg, L, Is, Rs, Lg)) : AOut) else a_run (n + 2) (d, gc, gs, 3, 5, [.val (.int a), .val (.int b)], [], (cnt, asg, L, Is, Rs, Lg))) = some o := h
        rw [if_pos hab] at h ⊢
        exact (Option.some.inj h).symm
      · have h : (if b < a then some ((0, some (.int b), (cnt, asg, L, Is, Rs, Lg)) : AOut) else a_run (n + 2) (d, gc, gs, 3, 5, [.val (.int a), .val (.int b)], [], (cnt, asg, L, Is, Rs, Lg))) = some o := h
        rw [if_neg hab] at h ⊢
        rcases n with _ | n
        · cases h
        · have h : some ((0, some (.int a), (cnt, asg, L, Is, Rs, Lg)) : AOut) = some o := h
          exact (Option.some.inj h).symm
def mathC (mi pc : Nat) : Bool := match a_pg mi pc with
  | (.invokestatic _, x) => !(Nat.beq x.1 2 || Nat.beq x.1 3) || Nat.beq x.2.1 0
  | _ => true
theorem math_W : (Cond.static Lib.Math.max.name ∈ a_W ∧ Cond.code Lib.Math.max.name Lib.Math.max.code 2 (some .int) ∈ a_W) ∧ (Cond.static Lib.Math.min.name ∈ a_W ∧ Cond.code Lib.Math.min.name Lib.Math.min.code 2 (some .int) ∈ a_W) ∧ Cond.initialized "java/lang/Math" ∈ a_W := ⟨⟨inW_ok (i := (a_ix 2).2.1) (by decide +kernel), inW_ok (i := (a_ix 2).1) (by decide +kernel)⟩, ⟨inW_ok (i := (a_ix 3).2.1) (by decide +kernel), inW_ok (i := (a_ix 3).1) (by decide +kernel)⟩, inW_ok (i := (a_ix 2).2.2.2) (by decide +kernel)⟩
theorem OP_math {index k : Nat} (hS : SN G l rec) (hM : MX rec) (hG : GOK G) (hx : CX G p l R s m args meth c H locs cells slots mc ms arr d gc gs mi ls μ) (hd : decode (a_bytes mi) pc = .ok (.invokestatic index, 3)) (hk : k = 2 ∨ k = 3) (hw : Cond.methodLink (a_own mi) index (a_name k) ∈ a_W) (h : a_call rec d gc gs mi pc ls st μ k = some o) : GO G p l e R s m args below meth c H locs cells slots mc ms arr pc st o := by
  obtain ⟨hA, hW, hV, hK, hwl, hln, r1, r2, r3, r4, r5, r6⟩ := id hx
  have hm : a_mt k = (2, 2, 0, 1, 0, 0) := by rcases hk with rfl | rfl <;> decide +kernel
  unfold a_call at h
  rw [hm] at h
  simp only at h
  split at h
  · rename_i hb
    simp only [Bool.and_eq_true, Bool.or_eq_true] at hb
    obtain ⟨⟨⟨⟨⟨b1, b2⟩, b3⟩, b4⟩, b5⟩, b6⟩ := hb
    have b1 : 2 ≤ st.length := Nat.le_of_ble_eq_true b1
    have b2 : a_wt (st.drop 2) ≤ 8 := Nat.le_of_ble_eq_true b2
    unfold a_call2 at h
    cases d with
    | zero => cases h
    | succ d' =>
    simp only at h
    rcases st with _ | ⟨w, _ | ⟨v, r⟩⟩
    · simp at b1
    · simp at b1
    · have e1 : (List.take 2 (w :: v :: r)).reverse = [v, w] := rfl
      rw [e1] at h
      cases ho : rec (d', 0, 0, k, 0, a_ent [v, w] 2, [], μ) with
      | none => rw [ho] at h; cases h
      | some o1 =>
      rw [ho] at h
      obtain ⟨a, b, rfl, rfl, rfl⟩ := hM _ _ _ _ _ _ _ _ hk ho
      have h : rec (d' + 1, gc - 0, gs - 0, mi, pc + 3, ls, .int (if k = 2 then (if a < b then b else a) else (if b < a then b else a)) :: r, μ) = some o := h
      have b2 : a_wt r ≤ 8 := b2
      show W p l e R s m args below meth c H locs cells slots _ (F0 m pc arr (.int b :: .int a :: r.map (cv G)))
      have h2 := hS h (e := e) (below := below) ⟨hA, hW, hV, hK, hwl, hln, r1, r2, by omega, by omega, r5, r6⟩
      unfold GO at h2
      rw [List.map_cons] at h2
      rcases hk with rfl | rfl
      · rw [if_pos rfl] at h2
        have hn : a_name 2 = Lib.Math.max.name := by decide +kernel
        rw [hn] at hw
        exact va_mmax hA.1 hA.2.1 (CX.size hx).symm hA.own (hA.wd _ hw) (hA.wd _ math_W.1.1) (hA.wd _ math_W.2.2) (hA.wd _ math_W.1.2) (by omega) (by rw [wt_cv hG.1]; omega) (by omega) (by omega) hd h2
      · rw [if_neg (by decide)] at h2
        have hn : a_name 3 = Lib.Math.min.name := by decide +kernel
        rw [hn] at hw
        exact va_mmin hA.1 hA.2.1 (CX.size hx).symm hA.own (hA.wd _ hw) (hA.wd _ math_W.2.1.1) (hA.wd _ math_W.2.2) (hA.wd _ math_W.2.1.2) (by omega) (by rw [wt_cv hG.1]; omega) (by omega) (by omega) hd h2
  · cases h
theorem do_call2 {index wi nest ck : Nat} {ins : Instr} (h2 : x.1 ≠ 2) (h3 : x.1 ≠ 3) (hS : SN G l rec) (hG : GOK G) (hcal : ∀ c, c < 383 → c ≠ 2 → c ≠ 3 → calS c = true) (hno : mi ≤ 348 → a_hs mi = []) (hx : CX G p l R s m args meth c H locs cells slots mc ms arr d gc gs mi ls μ) (hd : decode (a_bytes mi) pc = .ok (ins, 3)) (hc : calC mi pc index x = true) (hins : ins = calI (calK x.1 x.2.1) index) (h : a_call rec d gc gs mi pc ls st μ x.1 = some o) : GO G p l e R s m args below meth c H locs cells slots mc ms arr pc st o := by
  unfold calC at hc
  simp only [Bool.and_eq_true, Bool.or_eq_true] at hc
  obtain ⟨⟨⟨⟨h1, k2⟩, h3'⟩, h4⟩, h5⟩ := hc
  have hw := cal_ok (nest := x.2.1) (hcal x.1 (Nat.le_of_ble_eq_true h1) h2 h3) k2 (by
    rcases h3' with (z | z) | z
    · exact Or.inl (Nat.eq_of_beq_eq_true z)
    · exact Or.inr (Or.inl (Nat.eq_of_beq_eq_true z))
    · exact Or.inr (Or.inr (Nat.eq_of_beq_eq_true z)))
  exact OP_call (ck := 0) hS hG hx hins hd hw (hnd_all h4 h5) hno h
theorem step_ok2 (hS : SN G l rec) (hN : RN rec) (hM : MX rec) (hG : GOK G) (hcal : ∀ c, c < 383 → c ≠ 2 → c ≠ 3 → calS c = true) (hno : mi ≤ 348 → a_hs mi = []) (hx : CX G p l R s m args meth c H locs cells slots mc ms arr d gc gs mi ls μ) (hc : a_chk mi pc = true) (hmt : mathC mi pc = true) (h : a_step rec (d, gc, gs, mi, pc, ls, st, μ) = some o) : GO G p l e R s m args below meth c H locs cells slots mc ms arr pc st o := by
  unfold a_step at h
  simp only at h
  unfold a_chk at hc
  unfold mathC at hmt
  cases hp : a_pg mi pc with
  | mk ins x =>
  rw [hp] at h hc hmt
  simp only at h hc
  cases ins with
  | iconst n => exact OP_iconst hS hx (dcd_ok (and2 hc).1) (of_decide_eq_true (and2 hc).2) h
  | bipush n => exact OP_bipush hS hx (dcd_ok (and2 hc).1) (of_decide_eq_true (and2 hc).2) h
  | sipush n => exact OP_sipush hS hx (dcd_ok (and2 hc).1) (of_decide_eq_true (and2 hc).2) h
  | iinc k n => exact OP_iinc hG.1 hS hx (dcd_ok (and2 hc).1) (of_decide_eq_true (and2 hc).2) h
  | lconst n => exact OP_lconst hS hx (dcd_ok hc) h
  | iload_n k => exact OP_iload_n hS hx (dcd_ok hc) h
  | lload_n k => exact OP_lload_n hS hx (dcd_ok hc) h
  | iload k => exact OP_iload hS hx (dcd_ok hc) h
  | lload k => exact OP_lload hS hx (dcd_ok hc) h
  | aload_n k => exact OP_aload_n hG.1 hS hx (dcd_ok hc) h
  | aload k => exact OP_aload hG.1 hS hx (dcd_ok hc) h
  | istore_n k => exact OP_istore_n hG.1 hS hx (dcd_ok hc) h
  | istore k => exact OP_istore hG.1 hS hx (dcd_ok hc) h
  | lstore_n k => exact OP_lstore_n hG.1 hS hx (dcd_ok hc) h
  | lstore k => exact OP_lstore hG.1 hS hx (dcd_ok hc) h
  | astore_n k => exact OP_astore_n hG.1 hS hx (dcd_ok hc) h
  | astore k => exact OP_astore hG.1 hS hx (dcd_ok hc) h
  | aconst_null => exact OP_aconst_null hS hx (dcd_ok hc) h
  | iadd => exact OP_iadd hS hx (dcd_ok hc) h
  | isub => exact OP_isub hS hx (dcd_ok hc) h
  | imul => exact OP_imul hS hx (dcd_ok hc) h
  | iand => exact OP_iand hS hx (dcd_ok hc) h
  | ior => exact OP_ior hS hx (dcd_ok hc) h
  | ixor => exact OP_ixor hS hx (dcd_ok hc) h
  | ishl => exact OP_ishl hS hx (dcd_ok hc) h
  | ishr => exact OP_ishr hS hx (dcd_ok hc) h
  | iushr => exact OP_iushr hS hx (dcd_ok hc) h
  | ineg => exact OP_ineg hS hx (dcd_ok hc) h
  | idiv => exact OP_idiv hS hx (dcd_ok hc) h
  | irem => exact OP_irem hS hx (dcd_ok hc) h
  | i2l => exact OP_i2l hS hx (dcd_ok hc) h
  | i2c => exact OP_i2c hS hx (dcd_ok hc) h
  | ladd => exact OP_ladd hS hx (dcd_ok hc) h
  | lmul => exact OP_lmul hS hx (dcd_ok hc) h
  | lcmp => exact OP_lcmp hS hx (dcd_ok hc) h
  | iaload => exact OP_iaload hS hG hx (dcd_ok hc) h
  | baload => exact OP_baload hS hx (dcd_ok hc) h
  | aaload => exact OP_aaload hS hx (dcd_ok hc) h
  | laload => exact OP_laload hS hx (dcd_ok hc) h
  | iastore => exact OP_iastore hS hx (dcd_ok hc) h
  | bastore => exact OP_bastore hS hx (dcd_ok hc) h
  | aastore => exact OP_aastore hS hx (dcd_ok hc) h
  | lastore => exact OP_lastore hS hx (dcd_ok hc) h
  | dup => exact OP_dup hG.1 hS hx (dcd_ok hc) h
  | pop => exact OP_pop hG.1 hS hx (dcd_ok hc) h
  | dup2 => exact OP_dup2 hG.1 hS hx (dcd_ok hc) h
  | arraylength => exact OP_arraylength hS hG hx (dcd_ok hc) h
  | goto off => exact OP_goto hS hx (dcd_ok (and2 hc).1) (of_decide_eq_true (and2 hc).2) h
  | ifCond cn off =>
    cases cn with
    | eq => exact OP_ifCond_eq hS hx (dcd_ok (and2 hc).1) (of_decide_eq_true (and2 hc).2) h
    | ne => exact OP_ifCond_ne hS hx (dcd_ok (and2 hc).1) (of_decide_eq_true (and2 hc).2) h
    | lt => exact OP_ifCond_lt hS hx (dcd_ok (and2 hc).1) (of_decide_eq_true (and2 hc).2) h
    | ge => exact OP_ifCond_ge hS hx (dcd_ok (and2 hc).1) (of_decide_eq_true (and2 hc).2) h
    | gt => exact OP_ifCond_gt hS hx (dcd_ok (and2 hc).1) (of_decide_eq_true (and2 hc).2) h
    | le => exact OP_ifCond_le hS hx (dcd_ok (and2 hc).1) (of_decide_eq_true (and2 hc).2) h
  | if_icmp cn off =>
    cases cn with
    | eq => exact OP_if_icmp_eq hS hx (dcd_ok (and2 hc).1) (of_decide_eq_true (and2 hc).2) h
    | ne => exact OP_if_icmp_ne hS hx (dcd_ok (and2 hc).1) (of_decide_eq_true (and2 hc).2) h
    | lt => exact OP_if_icmp_lt hS hx (dcd_ok (and2 hc).1) (of_decide_eq_true (and2 hc).2) h
    | ge => exact OP_if_icmp_ge hS hx (dcd_ok (and2 hc).1) (of_decide_eq_true (and2 hc).2) h
    | gt => exact OP_if_icmp_gt hS hx (dcd_ok (and2 hc).1) (of_decide_eq_true (and2 hc).2) h
    | le => exact OP_if_icmp_le hS hx (dcd_ok (and2 hc).1) (of_decide_eq_true (and2 hc).2) h
  | if_acmp cn off =>
    cases cn with
    | eq => exact OP_if_acmp_eq hS hG hx (dcd_ok (and2 hc).1) (of_decide_eq_true (and2 hc).2) h
    | ne => exact OP_if_acmp_ne hS hG hx (dcd_ok (and2 hc).1) (of_decide_eq_true (and2 hc).2) h
  | ifnull off => exact OP_ifnull hS hG hx (dcd_ok (and2 hc).1) (of_decide_eq_true (and2 hc).2) h
  | ifnonnull off => exact OP_ifnonnull hS hG hx (dcd_ok (and2 hc).1) (of_decide_eq_true (and2 hc).2) h
  | tableswitch df lo hi offs =>
    have h1 := (and2 hc).1
    split at h1
    · exact OP_tableswitch hS hx (dcd_ok h1) (tabC_ok (and2 hc).2) h
    · cases h1
  | lookupswitch df ps =>
    have h1 := (and2 hc).1
    split at h1
    · exact OP_lookupswitch hS hx (dcd_ok h1) (lokC_ok (and2 hc).2) h
    · cases h1
  | getfield i => exact OP_getfield hS hx (dcd_ok (and2 hc).1) (fldC_ok (and2 hc).2) h
  | putfield i => exact OP_putfield hS hG hx (dcd_ok (and2 hc).1) (putC_ok (and2 hc).2) h
  | getstatic i => exact OP_getstatic hS hx (dcd_ok (and2 hc).1) (gstC_ok (and2 hc).2) h
  | ldc i => exact OP_ldc hS hx (dcd_ok (and2 hc).1) (ldcC_ok (and2 hc).2) h
  | ldc_w i => exact OP_ldc_w hS hx (dcd_ok (and2 hc).1) (ldcC_ok (and2 hc).2) h
  | ldc2_w i => exact OP_ldc2_w hS hx (dcd_ok (and2 hc).1) (inW_ok (and2 hc).2) h
  | new i =>
    have h2 := (and2 hc).2
    rw [Bool.or_eq_true] at h2
    rcases h2 with h2 | h2
    · exact OP_new hS hx (dcd_ok (and2 hc).1) (newC_ok h2) h
    · exact OP_throw hG hx (dcd_ok (and2 hc).1) (thrC_ok h2) h
  | newarray at_ =>
    have h2 := (and2 hc).2
    simp only [Bool.or_eq_true, Bool.and_eq_true, decide_eq_true_eq] at h2
    refine OP_newarray hS hx (dcd_ok (and2 hc).1) ?_ h
    rcases h2 with (h2 | h2) | h2
    · exact Or.inl ⟨h2.1, Nat.eq_of_beq_eq_true h2.2⟩
    · exact Or.inr (Or.inl ⟨h2.1, Nat.eq_of_beq_eq_true h2.2⟩)
    · exact Or.inr (Or.inr ⟨h2.1, Nat.eq_of_beq_eq_true h2.2⟩)
  | anewarray i => exact OP_anewarray hS hx (dcd_ok (and2 hc).1) (inW_ok (and2 hc).2) h
  | invokestatic i =>
    rw [Bool.or_eq_true] at hc
    rcases hc with hc | hc
    · have h997 := Nat.eq_of_beq_eq_true hc
      obtain ⟨cnt, asg, L, Is, Rs, Lg⟩ := μ
      simp only [a_ins] at h
      rw [h997] at h
      exact (no_997 hN h).elim
    · obtain ⟨hd, h2⟩ := and2 hc
      rw [Bool.or_eq_true] at h2
      rcases h2 with h2 | h2
      · simp only [Bool.and_eq_true] at h2
        exact OP_arraycopy hS hG hx (dcd_ok hd) (Nat.eq_of_beq_eq_true h2.1.1.1.1) ⟨inW_ok h2.1.1.1.2, inW_ok h2.1.1.2, inW_ok h2.1.2, inW_ok h2.2⟩ h
      · obtain ⟨h3, h4⟩ := and2 h2
        have h4 : a_kd x.1 ≤ 1 := Nat.le_of_ble_eq_true h4
        have hlt : x.1 < 383 := by
          unfold calC at h3
          simp only [Bool.and_eq_true] at h3
          exact Nat.le_of_ble_eq_true h3.1.1.1.1
        obtain ⟨cnt, asg, L, Is, Rs, Lg⟩ := μ
        have hne : Nat.beq x.1 999 = false := by
          cases hb : Nat.beq x.1 999 with
          | false => rfl
          | true => have := Nat.eq_of_beq_eq_true hb; omega
        simp only [a_ins, hne] at h
        by_cases hmx : x.1 = 2 ∨ x.1 = 3
        · have hn0 : x.2.1 = 0 := by
            simp only [Bool.or_eq_true, Bool.not_eq_true'] at hmt
            rcases hmt with z | z
            · rcases hmx with q | q <;> rw [q] at z <;> cases z
            · exact Nat.eq_of_beq_eq_true z
          unfold calC at h3
          simp only [Bool.and_eq_true] at h3
          have hl := h3.1.1.1.2
          rw [hn0] at hl
          unfold calL at hl
          have hw : inW x.2.2 (.methodLink (a_own mi) i (a_name x.1)) = true := by
            rcases hmx with q | q
            · have hk : a_kd x.1 = 0 := by rw [q]; decide +kernel
              rw [hk] at hl
              exact hl
            · have hk : a_kd x.1 = 0 := by rw [q]; decide +kernel
              rw [hk] at hl
              exact hl
          exact OP_math hS hM hG hx (dcd_ok hd) hmx (inW_ok hw) h
        have hm2 : x.1 ≠ 2 := fun q => hmx (Or.inl q)
        have hm3 : x.1 ≠ 3 := fun q => hmx (Or.inr q)
        refine do_call2 (wi := 0) (nest := 0) (ck := 0) hm2 hm3 hS hG hcal hno hx (dcd_ok hd) h3 ?_ h
        unfold calK
        have : a_kd x.1 = 0 ∨ a_kd x.1 = 1 := by omega
        have hn : x.2.1 = 0 ∨ a_kd x.1 = 0 ∨ a_kd x.1 = 5 := by
          unfold calC at h3
          simp only [Bool.and_eq_true, Bool.or_eq_true] at h3
          rcases h3.1.1.2 with (z | z) | z
          · exact Or.inl (Nat.eq_of_beq_eq_true z)
          · exact Or.inr (Or.inl (Nat.eq_of_beq_eq_true z))
          · exact Or.inr (Or.inr (Nat.eq_of_beq_eq_true z))
        rcases this with z | z
        · rw [z]
          cases x.2.1 <;> rfl
        · rw [z] at hn ⊢
          rcases hn with hn | hn | hn
          · rw [hn]; rfl
          · cases hn
          · cases hn
  | invokespecial i =>
    rw [Bool.or_eq_true] at hc
    rcases hc with hc | hc
    · have h997 := Nat.eq_of_beq_eq_true hc
      obtain ⟨cnt, asg, L, Is, Rs, Lg⟩ := μ
      simp only [a_ins] at h
      rw [h997] at h
      exact (no_997 hN h).elim
    · obtain ⟨hd, h2⟩ := and2 hc
      rw [Bool.or_eq_true] at h2
      rcases h2 with h2 | h2
      · simp only [Bool.and_eq_true] at h2
        exact OP_objInit hS hG hx (dcd_ok hd) (Nat.eq_of_beq_eq_true h2.1.1.1) ⟨inW_ok h2.1.1.2, inW_ok h2.1.2, inW_ok h2.2⟩ h
      · obtain ⟨h3, h4⟩ := and2 h2
        have h4 : a_kd x.1 = 5 := Nat.eq_of_beq_eq_true h4
        have hlt : x.1 < 383 := by
          unfold calC at h3
          simp only [Bool.and_eq_true] at h3
          exact Nat.le_of_ble_eq_true h3.1.1.1.1
        obtain ⟨cnt, asg, L, Is, Rs, Lg⟩ := μ
        have hne : Nat.beq x.1 998 = false := by
          cases hb : Nat.beq x.1 998 with
          | false => rfl
          | true => have := Nat.eq_of_beq_eq_true hb; omega
        simp only [a_ins, hne] at h
        have hm2 : x.1 ≠ 2 := fun q => by rw [q] at h4; exact absurd h4 (by decide +kernel)
        have hm3 : x.1 ≠ 3 := fun q => by rw [q] at h4; exact absurd h4 (by decide +kernel)
        refine do_call2 (wi := 0) (nest := 0) (ck := 0) hm2 hm3 hS hG hcal hno hx (dcd_ok hd) h3 ?_ h
        unfold calK
        rw [h4]
        cases x.2.1 <;> rfl
  | invokevirtual i =>
    rw [Bool.or_eq_true] at hc
    rcases hc with hc | hc
    · have h997 := Nat.eq_of_beq_eq_true hc
      obtain ⟨cnt, asg, L, Is, Rs, Lg⟩ := μ
      simp only [a_ins] at h
      rw [h997] at h
      exact (no_997 hN h).elim
    · simp only [Bool.and_eq_true, Bool.or_eq_true] at hc
      obtain ⟨⟨⟨hd, h3⟩, h5⟩, h4⟩ := hc
      have h5 := Nat.eq_of_beq_eq_true h5
      obtain ⟨cnt, asg, L, Is, Rs, Lg⟩ := μ
      simp only [a_ins] at h
      have hm2 : x.1 ≠ 2 := fun q => by rw [q] at h4; rcases h4 with z | z <;> exact absurd z (by decide +kernel)
      have hm3 : x.1 ≠ 3 := fun q => by rw [q] at h4; rcases h4 with z | z <;> exact absurd z (by decide +kernel)
      refine do_call2 (wi := 0) (nest := 0) (ck := 0) hm2 hm3 hS hG hcal hno hx (dcd_ok hd) h3 ?_ h
      unfold calK
      rw [h5]
      rcases h4 with h4 | h4 <;> rw [Nat.eq_of_beq_eq_true h4] <;> rfl
  | ireturn =>
    simp only [Bool.and_eq_true, Bool.or_eq_true, decide_eq_true_eq] at hc
    refine OP_ireturn hx (dcd_ok hc.1.1) hc.1.2 ?_ h
    rcases hc.2 with ((z | z) | z) | z
    · exact Or.inl (Nat.eq_of_beq_eq_true z)
    · exact Or.inr (Or.inl (Nat.eq_of_beq_eq_true z))
    · exact Or.inr (Or.inr (Or.inl (Nat.eq_of_beq_eq_true z)))
    · exact Or.inr (Or.inr (Or.inr (Nat.eq_of_beq_eq_true z)))
  | lreturn => exact OP_lreturn hx (dcd_ok (and2 hc).1) (of_decide_eq_true (and2 hc).2) h
  | areturn => exact OP_areturn hG.1 hx (dcd_ok (and2 hc).1) (of_decide_eq_true (and2 hc).2) h
  | return_ => exact OP_return_ hx (dcd_ok (and2 hc).1) (of_decide_eq_true (and2 hc).2) h
  | _ =>
    obtain ⟨cnt, asg, L, Is, Rs, Lg⟩ := μ
    cases h
end STP
