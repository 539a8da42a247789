/-! the constant objects: words of the language (enum constants), texts, by their numbers -/
abbrev isW (w : Nat) : Prop := 2560 ≤ w ∧ w < 2583
abbrev isS (s : Nat) : Prop := 2624 ≤ s ∧ s < 2670
def w_txt (w : Nat) : Nat := match a_cf w 0 with | .ref s => s | _ => 0
def w_slot (w : Nat) : Int32 := match a_cf w 1 with | .int v => v | _ => 0
def w_ord (w : Nat) : Int32 := match a_cf w 2 with | .int v => v | _ => 0
def s_len (s : Nat) : Int32 := Int32.ofNat (a_sz (s + 64))
def s_at (s : Nat) (k : Int32) : Option Int32 := rdx (a_ca (s + 64)) (a_sz (s + 64)) k
theorem cW {w : Nat} (h : isW w) : a_kind w = 40 ∧ a_sq w = 0 ∧ a_cf w 0 = .ref (w_txt w) ∧ a_cf w 1 = .int (w_slot w) ∧ a_cf w 2 = .int (w_ord w) ∧ 2624 ≤ w_txt w ∧ w_txt w < 2670 := by
  obtain ⟨h1, h2⟩ := h
  obtain ⟨j, hj, rfl⟩ : ∃ j, j < 23 ∧ w = 2560 + j := ⟨w - 2560, by omega, by omega⟩
  exact (by decide +kernel : ∀ j, j < 23 → a_kind (2560 + j) = 40 ∧ a_sq (2560 + j) = 0 ∧ a_cf (2560 + j) 0 = .ref (w_txt (2560 + j)) ∧ a_cf (2560 + j) 1 = .int (w_slot (2560 + j)) ∧ a_cf (2560 + j) 2 = .int (w_ord (2560 + j)) ∧ 2624 ≤ w_txt (2560 + j) ∧ w_txt (2560 + j) < 2670) j hj
theorem cW_S {w : Nat} (h : isW w) : isS (w_txt w) := (cW h).2.2.2.2.2
theorem cS {s : Nat} (h : isS s) : a_kind s = 41 ∧ a_sq s = 0 ∧ a_cf s 0 = .ref (s + 64) ∧ a_cf s 1 = .int 0 ∧ a_kind (s + 64) = 42 ∧ a_sq (s + 64) = 0 ∧ a_sz (s + 64) < 100 := by
  obtain ⟨h1, h2⟩ := h
  obtain ⟨j, hj, rfl⟩ : ∃ j, j < 46 ∧ s = 2624 + j := ⟨s - 2624, by omega, by omega⟩
  exact (by decide +kernel : ∀ j, j < 46 → a_kind (2624 + j) = 41 ∧ a_sq (2624 + j) = 0 ∧ a_cf (2624 + j) 0 = .ref (2624 + j + 64) ∧ a_cf (2624 + j) 1 = .int 0 ∧ a_kind (2624 + j + 64) = 42 ∧ a_sq (2624 + j + 64) = 0 ∧ a_sz (2624 + j + 64) < 100) j hj
theorem cS_ch {s : Nat} (h : isS s) {i : Nat} (hi : i < a_sz (s + 64)) : a_nar 5 (a_nar 5 ((a_ca (s + 64) i &&& 255).toUInt32 % 65536).toInt32) = a_ca (s + 64) i := by
  obtain ⟨h1, h2⟩ := h
  obtain ⟨j, hj, rfl⟩ : ∃ j, j < 46 ∧ s = 2624 + j := ⟨s - 2624, by omega, by omega⟩
  exact (by decide +kernel : ∀ j, j < 46 → ∀ i, i < a_sz (2624 + j + 64) → a_nar 5 (a_nar 5 ((a_ca (2624 + j + 64) i &&& 255).toUInt32 % 65536).toInt32) = a_ca (2624 + j + 64) i) j hj i hi
section
variable {d gc gs m pc cnt asg L : Nat} {ls : List Slot} {st : List Value} {x : Nat × Nat × Nat} {Is : List (Nat → Nat → Int32)} {Rs : List Nat} {Lg : Int64} {o : AOut}
theorem r_cgetf {id ci k y w q : Nat} {v : Value} (hp : a_pg m pc = (.getfield y, (ci, k, w))) (h1 : a_kind id = ci) (h2 : a_sq id = 0) (h3 : a_fk ci k = (3, q)) (h4 : a_cf id k = v) (e : Ev (d, gc, gs, m, pc + 3, ls, v :: st, (cnt, asg, L, Is, Rs, Lg)) o) : Ev (d, gc, gs, m, pc, ls, .ref id :: st, (cnt, asg, L, Is, Rs, Lg)) o :=
  ev_b 1 e (fun n => by
    show _ = a_step (a_run n) _
    subst h1
    simp only [a_step, a_ins, hp, a_getf, h3, h4, a_live, h2, Nat.beq_refl]
    cases cnt <;> rfl)
theorem r_calen {id : Nat} (hp : a_pg m pc = (.arraylength, x)) (h1 : a_kind id = 42) (h2 : a_sq id = 0) (e : Ev (d, gc, gs, m, pc + 1, ls, .int (Int32.ofNat (a_sz id)) :: st, (cnt, asg, L, Is, Rs, Lg)) o) : Ev (d, gc, gs, m, pc, ls, .ref id :: st, (cnt, asg, L, Is, Rs, Lg)) o :=
  ev_b 1 e (fun n => by
    show _ = a_step (a_run n) _
    simp only [a_step, a_ins, hp, a_len, h1, h2, a_live]
    cases cnt <;> rfl)
theorem r_cbald {id : Nat} {i v : Int32} (hp : a_pg m pc = (.baload, x)) (h1 : a_kind id = 42) (hr : rdx (a_ca id) (a_sz id) i = some v) (e : Ev (d, gc, gs, m, pc + 1, ls, .int v :: st, (cnt, asg, L, Is, Rs, Lg)) o) : Ev (d, gc, gs, m, pc, ls, .int i :: .ref id :: st, (cnt, asg, L, Is, Rs, Lg)) o :=
  ev_b 1 e (fun n => by
    show _ = a_step (a_run n) _
    simp only [a_step, a_ins, hp, a_bald, h1, hr, a_opt]
    rfl)
end
/-- a call of a method whose receiver isn't a numeral: the class is known by a hypothesis -/
theorem r_inv {d m pc c mxl n rk rt : Nat} {ls : List Slot} {st : List Value} {y : Nat} {u : Nat × Nat} {μ μ' : AM} {id : Nat} {args rest : List Value} {v : Option Value} {o : AOut} (hp : a_pg m pc = (.invokevirtual y, (c, u))) (hm : a_mt c = (mxl, n, rk, rt, 0, 0)) (hn : n = args.length + 1) (hst : st = args.reverse ++ .ref id :: rest) (hk : a_kind id = rk) (hq : a_sq id = 0) (hw : (Nat.ble (a_wt rest) 8 && Nat.ble (a_wt2 (args.reverse ++ [.ref id])) mxl) = true)
    (hc : Ev (d, 0, 0, c, 0, a_ent (.ref id :: args) mxl, [], μ) (0, v, μ')) (e : Ev (d + 1, 0, 0, m, pc + 3, ls, v.toList ++ rest, μ') o) : Ev (d + 1, 0, 0, m, pc, ls, st, μ) o := by
  refine ev_call (Cc := (d, 0, 0, c, 0, a_ent (.ref id :: args) mxl, [], μ)) (fun v μ' => (d + 1, 0, 0, m, pc + 3, ls, v.toList ++ rest, μ')) (G := fun n k μ' => match a_hnd m pc (k + 1) with
            | some (hp, i) => a_run n (d + 1, 0 - 0, 0 - 0, m, hp, a_sto ls i a_unk, [], μ')
            | none => (match Nat.ble m 348 with | true => some (k + 1, none, μ') | false => none)) 1 hc e (fun f => ?_)
  subst hn; subst hst
  have h1 : (args.reverse ++ .ref id :: rest).drop (args.length + 1) = rest := by
    rw [show args.length + 1 = (args.reverse ++ [Value.ref id]).length from by simp, show args.reverse ++ Value.ref id :: rest = (args.reverse ++ [Value.ref id]) ++ rest from by simp, List.drop_left]
  have h4 : (args.reverse ++ .ref id :: rest).take (args.length + 1) = args.reverse ++ [Value.ref id] := by
    rw [show args.length + 1 = (args.reverse ++ [Value.ref id]).length from by simp, show args.reverse ++ Value.ref id :: rest = (args.reverse ++ [Value.ref id]) ++ rest from by simp, List.take_left]
  have h2 : (args.reverse ++ [Value.ref id]).reverse = .ref id :: args := by simp
  rw [Bool.and_eq_true] at hw
  have h3 : a_get (args.reverse ++ .ref id :: rest) (args.length + 1 - 1) = some (.ref id) := by
    have : ∀ (l r : List Value) (a : Value), a_get (l ++ a :: r) l.length = some a := by
      intro l
      induction l with
      | nil => intro r a; rfl
      | cons b l ih => intro r a; exact ih r a
    rw [Nat.add_sub_cancel, ← List.length_reverse]
    exact this _ _ _
  show _ = a_step (a_run f) _
  obtain ⟨cnt, asg, L, Is, Rs, Lg⟩ := μ
  simp only [a_step, a_ins, hp, a_call, a_call2, hm, h1, h4, h2, h3, hw.1, hw.2, hk, a_live, hq, Nat.beq_refl]
  rw [show Nat.ble (args.length + 1) (args.reverse ++ .ref id :: rest).length = true from Nat.ble_eq.mpr (by simp)]
  cases cnt <;> simp [Nat.ble, a_call2, h1, h2, h4] <;> rfl
set_option maxRecDepth 100000 in
theorem R_ord (d w : Nat) (μ : AM) (h : isW w) : Ev (d, 0, 0, 0, 0, [.val (.ref w)], [], μ) (0, some (.int (w_ord w)), μ) := by
  obtain ⟨cnt, asg, L, Is, Rs, Lg⟩ := μ
  obtain ⟨h1, h2, h3, h4, h5, -⟩ := cW h
  refine ev_b (C' := (d, 0, 0, 0, 1, [.val (.ref w)], [.ref w], (cnt, asg, L, Is, Rs, Lg))) 1 ?_ (fun n => Eq.refl _)
  refine r_cgetf (q := 0) rfl h1 h2 rfl h5 ?_
  exact ev_ret 1 (fun n => Eq.refl _)
set_option maxRecDepth 100000 in
theorem R_coder (d s : Nat) (μ : AM) (h : isS s) : Ev (d, 0, 0, 6, 0, [.val (.ref s)], [], μ) (0, some (.int 0), μ) := by
  obtain ⟨cnt, asg, L, Is, Rs, Lg⟩ := μ
  obtain ⟨h1, h2, h3, h4, -⟩ := cS h
  refine ev_b (C' := (d, 0, 0, 6, 7, [.val (.ref s)], [.ref s], (cnt, asg, L, Is, Rs, Lg))) 3 ?_ (fun n => Eq.refl _)
  refine r_cgetf (q := 0) rfl h1 h2 rfl h4 ?_
  exact ev_ret 2 (fun n => Eq.refl _)
set_option maxRecDepth 100000 in
theorem R_lat (d s : Nat) (μ : AM) (h : isS s) : Ev (d, 0, 0, 7, 0, [.val (.ref s)], [], μ) (0, some (.int 1), μ) := by
  obtain ⟨cnt, asg, L, Is, Rs, Lg⟩ := μ
  obtain ⟨h1, h2, h3, h4, -⟩ := cS h
  refine ev_b (C' := (d, 0, 0, 7, 7, [.val (.ref s)], [.ref s], (cnt, asg, L, Is, Rs, Lg))) 3 ?_ (fun n => Eq.refl _)
  refine r_cgetf (q := 0) rfl h1 h2 rfl h4 ?_
  exact ev_ret 4 (fun n => Eq.refl _)
theorem shr_0 (n : Nat) (h : n < 100) : a_shr (Int32.ofNat n) 0 = Int32.ofNat n := (by decide +kernel : ∀ n, n < 100 → a_shr (Int32.ofNat n) 0 = Int32.ofNat n) n h
set_option maxRecDepth 100000 in
theorem R_len (d s : Nat) (μ : AM) (h : isS s) : Ev (d + 1, 0, 0, 4, 0, [.val (.ref s)], [], μ) (0, some (.int (s_len s)), μ) := by
  obtain ⟨cnt, asg, L, Is, Rs, Lg⟩ := μ
  obtain ⟨h1, h2, h3, h4, h5, h6, h7⟩ := cS h
  refine ev_b (C' := (d + 1, 0, 0, 4, 1, [.val (.ref s)], [.ref s], (cnt, asg, L, Is, Rs, Lg))) 1 ?_ (fun n => Eq.refl _)
  refine r_cgetf (q := 0) rfl h1 h2 rfl h3 ?_
  refine r_calen rfl h5 h6 ?_
  refine ev_b (C' := (d + 1, 0, 0, 4, 6, [.val (.ref s)], [.ref s, .int (s_len s)], (cnt, asg, L, Is, Rs, Lg))) 1 ?_ (fun n => Eq.refl _)
  refine r_inv (args := []) (rest := [.int (s_len s)]) rfl rfl rfl rfl h1 h2 rfl (R_coder d s _ h) ?_
  refine ev_b (C' := (d + 1, 0, 0, 4, 10, [.val (.ref s)], [.int (a_shr (s_len s) 0)], (cnt, asg, L, Is, Rs, Lg))) 1 ?_ (fun n => Eq.refl _)
  rw [show a_shr (s_len s) 0 = s_len s from shr_0 _ h7]
  exact ev_ret 1 (fun n => Eq.refl _)
set_option maxRecDepth 100000 in
theorem R_pchk (d : Nat) (i n : Int32) (f : Value) (μ : AM) (h1 : ¬ i < 0) (h2 : i < n) : Ev (d, 0, 0, 11, 0, [.val (.int i), .val (.int n), .val f], [], μ) (0, some (.int i), μ) := by
  refine ev_f (c := i < 0) (d, 0, 0, 11, 9, [.val (.int i), .val (.int n), .val f], [], μ) (d, 0, 0, 11, 4, [.val (.int i), .val (.int n), .val f], [], μ) 2 h1 ?_ (fun n => Eq.refl _)
  refine ev_t (c := i < n) (d, 0, 0, 11, 16, [.val (.int i), .val (.int n), .val f], [], μ) (d, 0, 0, 11, 9, [.val (.int i), .val (.int n), .val f], [], μ) 3 h2 ?_ (fun n => Eq.refl _)
  exact ev_ret 2 (fun n => Eq.refl _)
set_option maxRecDepth 100000 in
theorem R_schk (d : Nat) (i n : Int32) (μ : AM) (h1 : ¬ i < 0) (h2 : i < n) : Ev (d + 1, 0, 0, 8, 0, [.val (.int i), .val (.int n)], [], μ) (0, none, μ) := by
  refine ev_call (fun v μ => (d + 1, 0, 0, 8, 8, [.val (.int i), .val (.int n)], v.toList ++ [], μ)) 4 (R_pchk d i n (.ref 2816) μ h1 h2) ?_ (fun n => Eq.refl _)
  exact ev_ret 2 (fun n => Eq.refl _)
set_option maxRecDepth 100000 in
theorem R_lch (d s : Nat) (i v : Int32) (μ : AM) (h : isS s) (hv : s_at s i = some v) : Ev (d + 2, 0, 0, 9, 0, [.val (.ref (s + 64)), .val (.int i)], [], μ) (0, some (.int (a_nar 5 ((v &&& 255).toUInt32 % 65536).toInt32)), μ) := by
  obtain ⟨cnt, asg, L, Is, Rs, Lg⟩ := μ
  obtain ⟨h1, h2, h3, h4, h5, h6, h7⟩ := cS h
  have hv' : rdx (a_ca (s + 64)) (a_sz (s + 64)) i = some v := hv
  have hr : ¬ (i < 0 ∨ a_sz (s + 64) ≤ i.toNatClampNeg) := by
    intro hc
    unfold rdx at hv'
    rw [if_pos hc] at hv'
    cases hv'
  have hi : ∃ j : Nat, j < a_sz (s + 64) ∧ i = nI j := vp_in_of hr (by omega)
  refine ev_b (C' := (d + 2, 0, 0, 9, 2, [.val (.ref (s + 64)), .val (.int i)], [.ref (s + 64), .int i], (cnt, asg, L, Is, Rs, Lg))) 2 ?_ (fun n => Eq.refl _)
  refine r_calen rfl h5 h6 ?_
  refine ev_call (fun v μ => (d + 2, 0, 0, 9, 6, [.val (.ref (s + 64)), .val (.int i)], v.toList ++ [], μ)) 1 (R_schk d i (Int32.ofNat (a_sz (s + 64))) _ (fun hc => hr (Or.inl hc)) (by obtain ⟨j, hj, rfl⟩ := hi; exact nI_lt hj (by omega))) ?_ (fun n => Eq.refl _)
  refine ev_b (C' := (d + 2, 0, 0, 9, 8, [.val (.ref (s + 64)), .val (.int i)], [.int i, .ref (s + 64)], (cnt, asg, L, Is, Rs, Lg))) 2 ?_ (fun n => Eq.refl _)
  refine r_cbald rfl h5 hv' ?_
  exact ev_ret 4 (fun n => Eq.refl _)
set_option maxRecDepth 100000 in
theorem R_ch (d s : Nat) (i v : Int32) (μ : AM) (h : isS s) (hv : s_at s i = some v) : Ev (d + 3, 0, 0, 5, 0, [.val (.ref s), .val (.int i)], [], μ) (0, some (.int v), μ) := by
  have hn : a_nar 5 (a_nar 5 ((v &&& 255).toUInt32 % 65536).toInt32) = v := by
    have hv' : rdx (a_ca (s + 64)) (a_sz (s + 64)) i = some v := hv
    unfold rdx at hv'
    by_cases hc : i < 0 ∨ a_sz (s + 64) ≤ i.toNatClampNeg
    · rw [if_pos hc] at hv'; cases hv'
    · rw [if_neg hc] at hv'
      obtain rfl := Option.some.inj hv'
      exact cS_ch h (by omega)
  obtain ⟨cnt, asg, L, Is, Rs, Lg⟩ := μ
  obtain ⟨h1, h2, h3, h4, h5, h6, h7⟩ := cS h
  refine ev_b (C' := (d + 3, 0, 0, 5, 1, [.val (.ref s), .val (.int i)], [.ref s], (cnt, asg, L, Is, Rs, Lg))) 1 ?_ (fun n => Eq.refl _)
  refine r_inv (args := []) (rest := []) rfl rfl rfl rfl h1 h2 rfl (R_lat (d + 2) s _ h) ?_
  refine ev_b (C' := (d + 3, 0, 0, 5, 8, [.val (.ref s), .val (.int i)], [.ref s], (cnt, asg, L, Is, Rs, Lg))) 2 ?_ (fun n => Eq.refl _)
  refine r_cgetf (q := 0) rfl h1 h2 rfl h3 ?_
  refine ev_call (fun v μ => (d + 3, 0, 0, 5, 15, [.val (.ref s), .val (.int i)], v.toList ++ [], μ)) 2 (R_lch d s i v _ h hv) ?_ (fun n => Eq.refl _)
  refine ev_rete 1 (o' := (0, some (.int (a_nar 5 (a_nar 5 ((v &&& 255).toUInt32 % 65536).toInt32))), (cnt, asg, L, Is, Rs, Lg))) (by rw [hn]) (fun n => Eq.refl _)
