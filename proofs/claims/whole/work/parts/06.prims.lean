/-- the reference's copies: so many from one row to another -/
def cpM (f : Nat → Int32) (nf : Nat) (g : Nat → Int32) (ng : Nat) (n : Int32) : Option (Nat → Int32) := if n.toNatClampNeg ≤ nf ∧ n.toNatClampNeg ≤ ng then some (fun j => if j < n.toNatClampNeg then f j else g j) else none
def filM (g : Nat → Int32) (n : Nat) (v : Int32) : Nat → Int32 := fun j => if j < n then v else g j
theorem u1_self (A : Nat → Nat → Int32) (k : Nat) : u1 A k (A k) = A := by
  funext a b
  unfold u1
  cases h : Nat.beq a k with
  | false => rfl
  | true => rw [Nat.eq_of_beq_eq_true h]; rfl
theorem u2_u1 (A : Nat → Nat → Int32) (k j : Nat) (f : Nat → Int32) (v : Int32) : u2 (u1 A k f) k j v = u1 A k (fun b => bif Nat.beq b j then v else f b) := by
  funext a b
  unfold u2 u1
  cases h : Nat.beq a k with
  | false => rfl
  | true => rfl
theorem a_nth_set {α : Type} (l : List α) (d v : α) (r q : Nat) (h : r < l.length) : a_nth (l.set r v) d q = if q = r then v else a_nth l d q := by
  induction l generalizing r q with
  | nil => simp at h
  | cons a l ih =>
    cases r with
    | zero => cases q with
      | zero => simp [a_nth]
      | succ q => simp [a_nth]
    | succ r => cases q with
      | zero => simp [a_nth]
      | succ q =>
        simp only [List.set_cons_succ, a_nth]
        rw [ih r q (by simpa using h)]
        simp
theorem a_nth_set_self {α : Type} (l : List α) (d : α) (r : Nat) : l.set r (a_nth l d r) = l := by
  induction l generalizing r with
  | nil => rfl
  | cons a l ih =>
    cases r with
    | zero => rfl
    | succ r => simp only [List.set_cons_succ, a_nth]; rw [ih]
theorem a_pr_self (Is : List (Nat → Nat → Int32)) (r k : Nat) : a_pr Is r k (a_nth Is a_z r k) = Is := by
  unfold a_pr
  rw [u1_self, a_nth_set_self]
theorem a_pt_pr (Is : List (Nat → Nat → Int32)) (r k j : Nat) (f : Nat → Int32) (v : Int32) (h : r < Is.length) : a_pt (a_pr Is r k f) r k j v = a_pr Is r k (fun b => bif Nat.beq b j then v else f b) := by
  unfold a_pt a_pr
  rw [a_nth_set _ _ _ _ _ h, if_pos rfl, List.set_set, u2_u1]
theorem a_nth_pr (Is : List (Nat → Nat → Int32)) (r k q l : Nat) (f : Nat → Int32) (h : r < Is.length) : a_nth (a_pr Is r k f) a_z q l = if q = r ∧ l = k then f else a_nth Is a_z q l := by
  unfold a_pr
  rw [a_nth_set _ _ _ _ _ h]
  by_cases h1 : q = r
  · subst h1
    rw [if_pos rfl]
    by_cases h2 : l = k
    · subst h2
      rw [if_pos ⟨rfl, rfl⟩]
      funext b
      unfold u1
      rw [show Nat.beq l l = true from Nat.beq_refl l]
      rfl
    · rw [if_neg (fun h => h2 h.2)]
      funext b
      unfold u1
      rw [show Nat.beq l k = false from by cases hb : Nat.beq l k with
        | false => rfl
        | true => exact absurd (Nat.eq_of_beq_eq_true hb) h2]
      rfl
  · rw [if_neg h1, if_neg (fun h => h1 h.1)]
section
variable {d gc gs m pc cnt asg L : Nat} {ls : List Slot} {st : List Value} {x : Nat × Nat × Nat} {Is : List (Nat → Nat → Int32)} {Rs : List Nat} {Lg : Int64} {o : AOut}
theorem r_iald {id : Nat} {i v : Int32} (hp : a_pg m pc = (.iaload, x)) (h1 : a_kind id = 32) (h2 : a_live id cnt = true) (hr : rdx (a_row Is id) (a_sz id) i = some v) (e : Ev (d, gc, gs, m, pc + 1, ls, .int v :: st, (cnt, asg, L, Is, Rs, Lg)) o) : Ev (d, gc, gs, m, pc, ls, .int i :: .ref id :: st, (cnt, asg, L, Is, Rs, Lg)) o :=
  ev_b 1 e (fun n => by
    show _ = a_step (a_run n) _
    simp only [a_step, a_ins, hp, a_iald, h1, h2, hr, a_opt]
    rfl)
theorem r_iast {id j : Nat} {i v : Int32} (hp : a_pg m pc = (.iastore, x)) (h1 : a_kind id = 32) (h2 : a_live id cnt = true) (hr : ixx (a_sz id) i = some j) (e : Ev (d, gc, gs, m, pc + 1, ls, st, (cnt, asg, L, a_pt Is (a_reg id) (a_loc id) j v, Rs, Lg)) o) : Ev (d, gc, gs, m, pc, ls, .int v :: .int i :: .ref id :: st, (cnt, asg, L, Is, Rs, Lg)) o :=
  ev_b 1 e (fun n => by
    show _ = a_step (a_run n) _
    simp only [a_step, a_ins, hp, a_iast, h1, h2, hr, a_opt]
    rfl)
theorem r_alen {id : Nat} (hp : a_pg m pc = (.arraylength, x)) (h1 : a_kind id = 32) (h2 : a_live id cnt = true) (e : Ev (d, gc, gs, m, pc + 1, ls, .int (Int32.ofNat (a_sz id)) :: st, (cnt, asg, L, Is, Rs, Lg)) o) : Ev (d, gc, gs, m, pc, ls, .ref id :: st, (cnt, asg, L, Is, Rs, Lg)) o :=
  ev_b 1 e (fun n => by
    show _ = a_step (a_run n) _
    simp only [a_step, a_ins, hp, a_len, h1, h2]
    rfl)
end
theorem rdx_nI {A : Nat → Int32} {n k : Nat} (h : k < n) (hn : n < 2 ^ 31) : rdx A n (nI k) = some (A k) := by
  unfold rdx
  rw [if_neg (nI_in h hn), nI_clamp (by omega)]
theorem ixx_nI {n k : Nat} (h : k < n) (hn : n < 2 ^ 31) : ixx n (nI k) = some k := by
  unfold ixx
  rw [if_neg (nI_in h hn), nI_clamp (by omega)]

theorem nI_of_nn {n : Int32} (h : ¬ n < 0) : ∃ j : Nat, j < 2 ^ 31 ∧ n = nI j := nI_of h
theorem clamp_neg {n : Int32} (h : n < 0) : n.toNatClampNeg = 0 := by
  have h1 := Int32.lt_iff_toInt_lt.mp h
  rw [Int32.toInt_zero] at h1
  unfold Int32.toNatClampNeg
  omega
set_option maxRecDepth 100000 in
/-- the reference's copies, whatever the rows -/
theorem R_copies (d a b : Nat) (n : Int32) (Is : List (Nat → Nat → Int32)) (Rs : List Nat) (v : Value) (L : Nat) (Lg : Int64) (cnt asg : Nat) (ha : a_kind a = 32) (hb : a_kind b = 32) (hla : a_live a cnt = true) (hlb : a_live b cnt = true)
    (hsa : a_sz a < 2 ^ 31) (hsb : a_sz b < 2 ^ 31) (hrb : a_reg b < Is.length) {x : Nat → Int32} (hx : cpM (a_row Is a) (a_sz a) (a_row Is b) (a_sz b) n = some x) :
    Ev (d, 0, 0, 32, 0, [.val v, .val (.ref a), .val (.ref b), .val (.int n), .val a_unk], [], (cnt, asg, L, Is, Rs, Lg)) (0, none, (cnt, asg, L, a_pr Is (a_reg b) (a_loc b) x, Rs, Lg)) := by
  unfold cpM at hx
  by_cases hc : n.toNatClampNeg ≤ a_sz a ∧ n.toNatClampNeg ≤ a_sz b
  · rw [if_pos hc] at hx
    obtain rfl := Option.some.inj hx
    obtain ⟨N, hN, hN31, hlt⟩ : ∃ N : Nat, n.toNatClampNeg = N ∧ N < 2 ^ 31 ∧ ∀ k : Nat, k ≤ N → (n ≤ nI k ↔ N ≤ k) := by
      by_cases h0 : n < 0
      · refine ⟨0, clamp_neg h0, by omega, fun k hk => ?_⟩
        obtain rfl : k = 0 := by omega
        refine ⟨fun _ => Nat.le_refl _, fun _ => ?_⟩
        have h1 := Int32.lt_iff_toInt_lt.mp h0
        rw [Int32.le_iff_toInt_le, nI_0]
        omega
      · obtain ⟨j, hj, rfl⟩ := nI_of_nn h0
        exact ⟨j, nI_clamp hj, hj, fun k hk => nI_leI hj (by omega)⟩
    rw [hN] at hc ⊢
    suffices key : ∀ t k : Nat, t + k = N → Ev (d, 0, 0, 32, 3, [.val v, .val (.ref a), .val (.ref b), .val (.int n), .val (.int (nI k))], [], (cnt, asg, L, a_pr Is (a_reg b) (a_loc b) (fun j => if j < k then a_row Is a j else a_row Is b j), Rs, Lg)) (0, none, (cnt, asg, L, a_pr Is (a_reg b) (a_loc b) (fun j => if j < N then a_row Is a j else a_row Is b j), Rs, Lg)) by
      have h := key N 0 (by omega)
      rw [show (fun j => if j < 0 then a_row Is a j else a_row Is b j) = a_nth Is a_z (a_reg b) (a_loc b) from by funext j; simp [a_row], a_pr_self] at h
      exact ev_b 2 h (fun n => Eq.refl _)
    intro t
    induction t with
    | zero =>
      intro k hk
      obtain rfl : k = N := by omega
      refine ev_t (c := n ≤ nI k) (d, 0, 0, 32, 23, [.val v, .val (.ref a), .val (.ref b), .val (.int n), .val (.int (nI k))], [], (cnt, asg, L, a_pr Is (a_reg b) (a_loc b) (fun j => if j < k then a_row Is a j else a_row Is b j), Rs, Lg)) (d, 0, 0, 32, 9, [.val v, .val (.ref a), .val (.ref b), .val (.int n), .val (.int (nI k))], [], (cnt, asg, L, a_pr Is (a_reg b) (a_loc b) (fun j => if j < k then a_row Is a j else a_row Is b j), Rs, Lg)) 3 ((hlt k (by omega)).mpr (Nat.le_refl _)) ?_ (fun n => Eq.refl _)
      exact ev_ret 1 (fun n => Eq.refl _)
    | succ t ih =>
      intro k hk
      refine ev_f (c := n ≤ nI k) (d, 0, 0, 32, 23, [.val v, .val (.ref a), .val (.ref b), .val (.int n), .val (.int (nI k))], [], (cnt, asg, L, a_pr Is (a_reg b) (a_loc b) (fun j => if j < k then a_row Is a j else a_row Is b j), Rs, Lg)) (d, 0, 0, 32, 9, [.val v, .val (.ref a), .val (.ref b), .val (.int n), .val (.int (nI k))], [], (cnt, asg, L, a_pr Is (a_reg b) (a_loc b) (fun j => if j < k then a_row Is a j else a_row Is b j), Rs, Lg)) 3 (fun h => by have := (hlt k (by omega)).mp h; omega) ?_ (fun n => Eq.refl _)
      refine ev_b (C' := (d, 0, 0, 32, 15, [.val v, .val (.ref a), .val (.ref b), .val (.int n), .val (.int (nI k))], [.int (nI k), .ref a, .int (nI k), .ref b], (cnt, asg, L, a_pr Is (a_reg b) (a_loc b) (fun j => if j < k then a_row Is a j else a_row Is b j), Rs, Lg))) 4 ?_ (fun n => Eq.refl _)
      have hra : a_row (a_pr Is (a_reg b) (a_loc b) (fun j => if j < k then a_row Is a j else a_row Is b j)) a k = a_row Is a k := by
        unfold a_row
        rw [a_nth_pr _ _ _ _ _ _ hrb]
        by_cases he : a_reg a = a_reg b ∧ a_loc a = a_loc b
        · rw [if_pos he, if_neg (by omega), he.1, he.2]
        · rw [if_neg he]
      refine r_iald rfl ha hla (v := a_row Is a k) (by rw [rdx_nI (by omega) hsa, hra]) ?_
      refine r_iast rfl hb hlb (ixx_nI (k := k) (by omega) hsb) ?_
      rw [a_pt_pr _ _ _ _ _ _ hrb, show (fun j => bif Nat.beq j k then a_row Is a k else if j < k then a_row Is a j else a_row Is b j) = (fun j => if j < k + 1 then a_row Is a j else a_row Is b j) from by
        funext j
        cases hj : Nat.beq j k with
        | true =>
          have e := Nat.eq_of_beq_eq_true hj
          subst e
          show a_row Is a j = _
          rw [if_pos (Nat.lt_succ_self j)]
        | false =>
          have e : j ≠ k := fun e => by subst e; rw [Nat.beq_refl] at hj; cases hj
          show (if j < k then _ else _) = _
          by_cases h1 : j < k
          · rw [if_pos h1, if_pos (by omega)]
          · rw [if_neg h1, if_neg (by omega)]]
      refine ev_b (C' := (d, 0, 0, 32, 3, [.val v, .val (.ref a), .val (.ref b), .val (.int n), .val (.int (nI k + 1))], [], (cnt, asg, L, a_pr Is (a_reg b) (a_loc b) (fun j => if j < k + 1 then a_row Is a j else a_row Is b j), Rs, Lg))) 2 ?_ (fun n => Eq.refl _)
      rw [nI_1]
      exact ih (k + 1) (by omega)
  · rw [if_neg hc] at hx; cases hx
set_option maxRecDepth 100000 in
/-- Arrays.fill, whatever the row -/
theorem R_fill (d b : Nat) (n : Int32) (Is : List (Nat → Nat → Int32)) (Rs : List Nat) (L : Nat) (Lg : Int64) (cnt asg : Nat) (hb : a_kind b = 32) (hlb : a_live b cnt = true)
    (hsb : a_sz b < 2 ^ 31) (hrb : a_reg b < Is.length) :
    Ev (d, 0, 0, 10, 0, [.val (.ref b), .val (.int n), .val a_unk, .val a_unk], [], (cnt, asg, L, Is, Rs, Lg)) (0, none, (cnt, asg, L, a_pr Is (a_reg b) (a_loc b) (filM (a_row Is b) (a_sz b) n), Rs, Lg)) := by
  refine ev_b (C' := (d, 0, 0, 10, 3, [.val (.ref b), .val (.int n), .val (.int 0), .val a_unk], [.ref b], (cnt, asg, L, Is, Rs, Lg))) 3 ?_ (fun n => Eq.refl _)
  refine r_alen rfl hb hlb ?_
  refine ev_b (C' := (d, 0, 0, 10, 5, [.val (.ref b), .val (.int n), .val (.int 0), .val (.int (nI (a_sz b)))], [], (cnt, asg, L, Is, Rs, Lg))) 1 ?_ (fun n => Eq.refl _)
  generalize hN : a_sz b = N at hsb ⊢
  suffices key : ∀ t k : Nat, t + k = N → Ev (d, 0, 0, 10, 5, [.val (.ref b), .val (.int n), .val (.int (nI k)), .val (.int (nI N))], [], (cnt, asg, L, a_pr Is (a_reg b) (a_loc b) (filM (a_row Is b) k n), Rs, Lg)) (0, none, (cnt, asg, L, a_pr Is (a_reg b) (a_loc b) (filM (a_row Is b) N n), Rs, Lg)) by
    have h := key N 0 (by omega)
    rw [show filM (a_row Is b) 0 n = a_nth Is a_z (a_reg b) (a_loc b) from by funext j; simp [a_row, filM], a_pr_self, nI_0] at h
    exact h
  intro t
  induction t with
  | zero =>
    intro k hk
    obtain rfl : k = N := by omega
    refine ev_t (c := nI k ≤ nI k) (d, 0, 0, 10, 20, [.val (.ref b), .val (.int n), .val (.int (nI k)), .val (.int (nI k))], [], (cnt, asg, L, a_pr Is (a_reg b) (a_loc b) (filM (a_row Is b) k n), Rs, Lg)) (d, 0, 0, 10, 10, [.val (.ref b), .val (.int n), .val (.int (nI k)), .val (.int (nI k))], [], (cnt, asg, L, a_pr Is (a_reg b) (a_loc b) (filM (a_row Is b) k n), Rs, Lg)) 3 (nI_le (Nat.le_refl _) hsb) ?_ (fun n => Eq.refl _)
    exact ev_ret 1 (fun n => Eq.refl _)
  | succ t ih =>
    intro k hk
    refine ev_f (c := nI N ≤ nI k) (d, 0, 0, 10, 20, [.val (.ref b), .val (.int n), .val (.int (nI k)), .val (.int (nI N))], [], (cnt, asg, L, a_pr Is (a_reg b) (a_loc b) (filM (a_row Is b) k n), Rs, Lg)) (d, 0, 0, 10, 10, [.val (.ref b), .val (.int n), .val (.int (nI k)), .val (.int (nI N))], [], (cnt, asg, L, a_pr Is (a_reg b) (a_loc b) (filM (a_row Is b) k n), Rs, Lg)) 3 (nI_ge (by omega) hsb) ?_ (fun n => Eq.refl _)
    refine ev_b (C' := (d, 0, 0, 10, 13, [.val (.ref b), .val (.int n), .val (.int (nI k)), .val (.int (nI N))], [.int n, .int (nI k), .ref b], (cnt, asg, L, a_pr Is (a_reg b) (a_loc b) (filM (a_row Is b) k n), Rs, Lg))) 3 ?_ (fun n => Eq.refl _)
    refine r_iast rfl hb hlb (j := k) (by rw [hN]; exact ixx_nI (by omega) hsb) ?_
    rw [a_pt_pr _ _ _ _ _ _ hrb, show (fun j => bif Nat.beq j k then n else filM (a_row Is b) k n j) = filM (a_row Is b) (k + 1) n from by
      funext j
      unfold filM
      cases hj : Nat.beq j k with
      | true =>
        have e := Nat.eq_of_beq_eq_true hj
        subst e
        show n = _
        rw [if_pos (Nat.lt_succ_self j)]
      | false =>
        have e : j ≠ k := fun e => by subst e; rw [Nat.beq_refl] at hj; cases hj
        show (if j < k then _ else _) = _
        by_cases h1 : j < k
        · rw [if_pos h1, if_pos (by omega)]
        · rw [if_neg h1, if_neg (by omega)]]
    refine ev_b (C' := (d, 0, 0, 10, 5, [.val (.ref b), .val (.int n), .val (.int (nI k + 1)), .val (.int (nI N))], [], (cnt, asg, L, a_pr Is (a_reg b) (a_loc b) (filM (a_row Is b) (k + 1) n), Rs, Lg))) 2 ?_ (fun n => Eq.refl _)
    rw [nI_1]
    exact ih (k + 1) (by omega)
