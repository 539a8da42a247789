/-! SOUNDNESS: reading arrays of ours -/
section ARR
variable {G : AG} {p : Program} {l : Launch} {e : Env} {R : Room} {s : State} {m : MethodId} {args : Array Value} {below : List Frame} {meth : Method} {c : Code} {H : Heap} {locs : List Loc} {cells slots mc ms : Nat} {arr : Array Slot} {d gc gs mi pc : Nat} {ls : List Slot} {st : List Value} {μ : AM} {o : AOut} {rec : ACfg → Option AOut} {x : Nat × Nat × Nat}
/-- the classes of arrays, with their elements -/
def a_tys (G : AG) : List (ClassId × FieldType) := [(gA G 32, .int), (gA G 33, .boolean), (gA G 34, .object "YieldedHours$State"), (gA G 35, .long)]
theorem live_le {id cnt : Nat} (h : a_live id cnt = true) : a_sq id ≤ cnt := Nat.le_of_ble_eq_true h
theorem kind_sq {id : Nat} (h : a_kind id ≠ 0) (h2 : a_kind id < 36) : a_sq id ≠ 0 := by
  by_cases hid : id < 2816
  · exact co_dec (N := 2816) (P := fun id => a_kind id ≠ 0 → a_kind id < 36 → a_sq id ≠ 0) (by decide +kernel) hid h h2
  · exact absurd (by
      have h1 : ∀ k, k ≤ 2816 → Nat.ble k id = true := fun k hk => Nat.ble_eq.mpr (by omega)
      have h2 : ∀ k, k < 2816 → Nat.beq id k = false := fun k hk => by
        cases hb : Nat.beq id k with
        | false => rfl
        | true => have := Nat.eq_of_beq_eq_true hb; omega
      simp only [a_kind, h1 1225 (by omega), h1 2657 (by omega), h1 2705 (by omega), h1 2720 (by omega), h1 2728 (by omega), h1 2732 (by omega), h1 2752 (by omega), h1 2753 (by omega), h2 2753 (by omega), cond_true, cond_false]) h
theorem rdx_in {A : Nat → Int32} {n : Nat} {i v : Int32} (h : rdx A n i = some v) : vp_in i n ∧ v = A i.toNatClampNeg := by
  unfold rdx at h
  split at h
  · cases h
  · rename_i hn
    exact ⟨hn, (Option.some.inj h).symm⟩
theorem ixx_in {n : Nat} {i : Int32} {j : Nat} (h : ixx n i = some j) : vp_in i n ∧ j = i.toNatClampNeg := by
  unfold ixx at h
  split at h
  · cases h
  · rename_i hn
    exact ⟨hn, (Option.some.inj h).symm⟩
theorem ent_i (G : AG) (μ : AM) {id : Nat} (h : a_kind id = 32 ∨ a_kind id = 33) : ent G μ id = .inl (gA G (a_kind id), a_sz id, .inl (a_row μ.2.2.2.1 id)) := by
  obtain ⟨cnt, asg, L, Is, Rs, Lg⟩ := μ
  unfold ent
  simp only
  rw [if_pos h]
end ARR
