/-! what a configuration comes to, whatever the fuel from some point on; the rows of a block, of a read, of a branch, of a call, of a loop -/
def Ev (C : ACfg) (o : AOut) : Prop := ∃ N, ∀ n, N ≤ n → a_run n C = some o
theorem ev_b {C C' : ACfg} {o : AOut} (k : Nat) (e : Ev C' o) (h : ∀ n, a_run n C' = a_run (n + k) C) : Ev C o := by
  obtain ⟨N, hN⟩ := e
  refine ⟨N + k, fun n hn => ?_⟩
  obtain ⟨j, rfl⟩ : ∃ j, n = j + k := ⟨n - k, by omega⟩
  rw [← h j]
  exact hN j (by omega)
theorem ev_opt {α : Type} {C : ACfg} {o : AOut} {e : Option α} {x : α} (F : α → ACfg) (k : Nat) (he : e = some x) (hF : Ev (F x) o) (h : ∀ n, a_opt e (fun v => a_run n (F v)) = a_run (n + k) C) : Ev C o :=
  ev_b k hF (fun n => by rw [← h n, he]; rfl)
theorem ev_t {C : ACfg} {o : AOut} {c : Prop} [Decidable c] (C1 C2 : ACfg) (k : Nat) (hc : c) (e : Ev C1 o) (h : ∀ n, (if c then a_run n C1 else a_run n C2) = a_run (n + k) C) : Ev C o :=
  ev_b k e (fun n => by rw [← h n, if_pos hc])
theorem ev_f {C : ACfg} {o : AOut} {c : Prop} [Decidable c] (C1 C2 : ACfg) (k : Nat) (hc : ¬ c) (e : Ev C2 o) (h : ∀ n, (if c then a_run n C1 else a_run n C2) = a_run (n + k) C) : Ev C o :=
  ev_b k e (fun n => by rw [← h n, if_neg hc])
theorem ev_d {C : ACfg} {o : AOut} {c : Prop} [Decidable c] (C2 : ACfg) (k : Nat) (hc : ¬ c) (e : Ev C2 o) (h : ∀ n, (if c then none else a_run n C2) = a_run (n + k) C) : Ev C o :=
  ev_b k e (fun n => by rw [← h n, if_neg hc])
theorem ev_gt {C : ACfg} {o : AOut} {g c : Prop} [Decidable g] [Decidable c] (C1 C2 : ACfg) (k : Nat) (hg : g) (hc : c) (e : Ev C1 o) (h : ∀ n, (if g then (if c then a_run n C1 else a_run n C2) else none) = a_run (n + k) C) : Ev C o :=
  ev_b k e (fun n => by rw [← h n, if_pos hg, if_pos hc])
theorem ev_gf {C : ACfg} {o : AOut} {g c : Prop} [Decidable g] [Decidable c] (C1 C2 : ACfg) (k : Nat) (hg : g) (hc : ¬ c) (e : Ev C2 o) (h : ∀ n, (if g then (if c then a_run n C1 else a_run n C2) else none) = a_run (n + k) C) : Ev C o :=
  ev_b k e (fun n => by rw [← h n, if_pos hg, if_neg hc])
theorem ev_sw {C : ACfg} {o : AOut} (L : List (Int32 × Nat)) (v : Int32) (F : Nat → ACfg) (df t : Nat) (k : Nat) (hc : ∀ f : Nat → Option AOut, a_sw L v f df = f t) (e : Ev (F t) o) (h : ∀ n, a_sw L v (fun t => a_run n (F t)) df = a_run (n + k) C) : Ev C o :=
  ev_b k e (fun n => by rw [← h n, hc])
theorem ev_call {C Cc : ACfg} {o : AOut} {v : Option Value} {μ : AM} {G : Nat → Nat → AM → Option AOut} (F : Option Value → AM → ACfg) (k : Nat) (hc : Ev Cc (0, v, μ)) (hF : Ev (F v μ) o) (h : ∀ n, a_beh (a_run n Cc) (fun v μ => a_run n (F v μ)) (G n) = a_run (n + k) C) : Ev C o := by
  obtain ⟨N, hN⟩ := hc
  obtain ⟨N2, hN2⟩ := hF
  refine ⟨N + N2 + k, fun n hn => ?_⟩
  obtain ⟨j, rfl⟩ : ∃ j, n = j + k := ⟨n - k, by omega⟩
  rw [← h j, hN j (by omega)]
  exact hN2 j (by omega)
/-- the callee threw, and nothing here catches it -/
theorem ev_thr {C Cc : ACfg} {q : Nat} {w : Option Value} {μ : AM} {G : Nat → Nat → AM → Option AOut} (F : Option Value → AM → ACfg) (k : Nat) (hc : Ev Cc (q + 1, w, μ)) (h : ∀ n, a_beh (a_run n Cc) (fun v μ => a_run n (F v μ)) (G n) = a_run (n + k) C) (hG : ∀ n, G n q μ = some (q + 1, none, μ)) : Ev C (q + 1, none, μ) := by
  obtain ⟨N, hN⟩ := hc
  refine ⟨N + k, fun n hn => ?_⟩
  obtain ⟨j, rfl⟩ : ∃ j, n = j + k := ⟨n - k, by omega⟩
  rw [← h j, hN j (by omega)]
  exact hG j
/-- the callee threw, and it is caught here -/
theorem ev_cat {C Cc : ACfg} {o : AOut} {q : Nat} {w : Option Value} {μ : AM} {G : Nat → Nat → AM → Option AOut} (C' : ACfg) (F : Option Value → AM → ACfg) (k : Nat) (hc : Ev Cc (q + 1, w, μ)) (e : Ev C' o) (h : ∀ n, a_beh (a_run n Cc) (fun v μ => a_run n (F v μ)) (G n) = a_run (n + k) C) (hG : ∀ n, G n q μ = a_run n C') : Ev C o := by
  obtain ⟨N, hN⟩ := hc
  obtain ⟨N2, hN2⟩ := e
  refine ⟨N + N2 + k, fun n hn => ?_⟩
  obtain ⟨j, rfl⟩ : ∃ j, n = j + k := ⟨n - k, by omega⟩
  rw [← h j, hN j (by omega)]
  exact (hG j).trans (hN2 j (by omega))
theorem ev_ret {C : ACfg} {o : AOut} (k : Nat) (h : ∀ n, some o = a_run (n + k) C) : Ev C o := by
  refine ⟨k, fun n hn => ?_⟩
  obtain ⟨j, rfl⟩ : ∃ j, n = j + k := ⟨n - k, by omega⟩
  exact (h j).symm
theorem ev_rete {C : ACfg} {o o' : AOut} (k : Nat) (e : o' = o) (h : ∀ n, some o' = a_run (n + k) C) : Ev C o := e ▸ ev_ret k h
/-- a loop: so many turns at most -/
def loopN {α β : Type} (body : α → Option (α ⊕ β)) : Nat → α → Option β
  | 0, _ => none
  | n + 1, a => match body a with
    | some (.inl a') => loopN body n a'
    | some (.inr b) => some b
    | none => none
def a_F : Nat := 1048576
def sumE {α β γ : Type} (s : α ⊕ β) (f : α → γ) (g : β → γ) : γ := match s with
  | .inl a => f a
  | .inr b => g b
/-- what a method that may throw answers -/
def a_ov (k : Nat) (v : Value) : Option Value := match k with
  | 0 => some v
  | _ => none
theorem sum_l {α β γ : Type} {s : α ⊕ β} {f : α → Option γ} {g : β → Option γ} {r : γ} (h : sumE s f g = some r) {p : α} (e : s = .inl p) : f p = some r := by subst e; exact h
theorem sum_r {α β γ : Type} {s : α ⊕ β} {f : α → Option γ} {g : β → Option γ} {r : γ} (h : sumE s f g = some r) {p : β} (e : s = .inr p) : g p = some r := by subst e; exact h
theorem ev_loop {α β δ : Type} {body : α → Option (α ⊕ β)} {o : AOut} (H : α → δ → ACfg) (K : β → Prop)
    (hb : ∀ a r, body a = some r → (∀ a', r = .inl a' → ∀ j', Ev (H a' j') o) → (∀ b, r = .inr b → K b) → ∀ j, Ev (H a j) o) :
    ∀ (n : Nat) (a : α) (b : β), loopN body n a = some b → K b → ∀ j, Ev (H a j) o := by
  intro n
  induction n with
  | zero => intro a b h; exact absurd h (by simp [loopN])
  | succ n ih =>
    intro a b h hK j
    unfold loopN at h
    cases hba : body a with
    | none => rw [hba] at h; cases h
    | some r =>
      rw [hba] at h
      cases r with
      | inl a' => exact hb a _ hba (fun a'' e j' => by cases e; exact ih a' b h hK j') (fun b' e => by cases e) j
      | inr b' =>
        have e : b' = b := Option.some.inj h
        exact hb a _ hba (fun a'' e => by cases e) (fun b'' e' => by cases e'; exact e ▸ hK) j
theorem bnd {α β : Type} {e : Option α} {f : α → Option β} {r : β} (h : e.bind f = some r) : ∃ x, e = some x ∧ f x = some r := by
  cases e with
  | none => cases h
  | some x => exact ⟨x, rfl, h⟩
theorem itp {c : Prop} [Decidable c] {α : Type} {a b : α} {r : α} (h : (if c then a else b) = r) (hc : c) : a = r := by rw [← h, if_pos hc]
theorem itn {c : Prop} [Decidable c] {α : Type} {a b : α} {r : α} (h : (if c then a else b) = r) (hc : ¬ c) : b = r := by rw [← h, if_neg hc]
theorem nos {α : Type} {P : Prop} {r : α} (h : none = some r) : P := by cases h
