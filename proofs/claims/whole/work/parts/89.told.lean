/-! PURE MATH: sets as bits, how many are so; told -/
theorem loop_S {α β : Type} {body : α → Option (α ⊕ β)} (N : Nat) (S : Nat → α) {b : β} (i0 : Nat) (h0 : i0 ≤ N) (hN : N < 1000000)
    (h1 : ∀ i, i0 ≤ i → i < N → body (S i) = some (.inl (S (i + 1)))) (h2 : body (S N) = some (.inr b)) : loopN body a_F (S i0) = some b := by
  have key : ∀ t i n, i + t = N → i0 ≤ i → t < n → loopN body n (S i) = some b := by
    intro t
    induction t with
    | zero =>
      intro i n hi _ hn
      obtain ⟨n, rfl⟩ : ∃ k, n = k + 1 := ⟨n - 1, by omega⟩
      have hi : i = N := by omega
      subst hi
      exact loop_r h2
    | succ t ih =>
      intro i n hi hi0 hn
      obtain ⟨n, rfl⟩ : ∃ k, n = k + 1 := ⟨n - 1, by omega⟩
      rw [loop_l (h1 i hi0 (by omega))]
      exact ih (i + 1) n (by omega) (by omega) (by omega)
  exact key (N - i0) i0 a_F (by omega) (Nat.le_refl _) (by unfold a_F; omega)
theorem bs_hit {p : Nat → Prop} [DecidablePred p] {n : Nat} (h : p n) : bs p n ||| 2 ^ n = bs p (n + 1) := by
  have h1 : bs p (n + 1) = bs p n + 2 ^ n := by
    show bs p n + (if p n then 2 ^ n else 0) = _
    rw [if_pos h]
  have h2 := Nat.two_pow_add_eq_or_of_lt (bs_lt p n) 1
  rw [Nat.mul_one] at h2
  rw [h1, Nat.or_comm, ← h2, Nat.add_comm]
theorem bs_miss {p : Nat → Prop} [DecidablePred p] {n : Nat} (h : ¬ p n) : bs p (n + 1) = bs p n := by
  show bs p n + (if p n then 2 ^ n else 0) = _
  rw [if_neg h, Nat.add_zero]
/-- how many of those below n are so -/
def cnt (p : Nat → Prop) [DecidablePred p] : Nat → Nat
  | 0 => 0
  | n + 1 => cnt p n + (if p n then 1 else 0)
theorem cnt_le (p : Nat → Prop) [DecidablePred p] (n : Nat) : cnt p n ≤ n := by
  induction n with
  | zero => exact Nat.le_refl _
  | succ n ih => unfold cnt; split <;> omega
def pc (x : Nat) : Nat → Nat
  | 0 => 0
  | k + 1 => pc x k + (x >>> k) % 2
theorem pc_bs (p : Nat → Prop) [DecidablePred p] {n : Nat} (hn : n ≤ 10) : pc (bs p n) 10 = cnt p n := by
  have h : ∀ k, pc (bs p n) k = cnt p (min k n) := by
    intro k
    induction k with
    | zero => rw [Nat.zero_min]; rfl
    | succ k ih =>
      show pc (bs p n) k + (bs p n >>> k) % 2 = _
      have hb := bs_bit p n k
      have h1 := bit1 (bs p n) k
      rw [hb, decide_eq_true_eq] at h1
      rw [ih]
      by_cases hk : k < n
      · rw [show min (k + 1) n = min k n + 1 from by omega]
        have hmk : min k n = k := by omega
        rw [hmk]
        show _ = cnt p k + (if p k then 1 else 0)
        by_cases hp : p k
        · rw [if_pos hp, h1.mpr ⟨hk, hp⟩]
        · rw [if_neg hp]
          have : ¬ (bs p n >>> k) % 2 = 1 := fun e => hp (h1.mp e).2
          omega
      · rw [show min (k + 1) n = min k n from by omega]
        have : ¬ (bs p n >>> k) % 2 = 1 := fun e => hk (h1.mp e).1
        omega
  rw [h 10, show min 10 n = n from by omega]
theorem bc_all : (List.range 1024).all (fun x => decide (f_Integer_bitCount (nI x) = some (nI (pc x 10)))) = true := by decide +kernel
theorem bc_bs (p : Nat → Prop) [DecidablePred p] {n : Nat} (hn : n ≤ 10) : f_Integer_bitCount (nI (bs p n)) = some (nI (cnt p n)) := by
  have h1 : bs p n < 1024 := Nat.lt_of_lt_of_le (bs_lt p n) (Nat.pow_le_pow_right (by omega) hn)
  have h2 := of_decide_eq_true (List.all_eq_true.mp bc_all (bs p n) (List.mem_range.mpr h1))
  rw [h2, pc_bs p hn]
theorem Y_placed {C : CS} {H BO : Nat → Nat → Int32} {pl tm : Nat → Nat} (hW : WFC C) (hH : RH C H) (hB : RB C pl tm BO) (hpl : ∀ m, pl m ≤ 30) : f_Board_placed H BO = some (nI (bs (fun m => pl m ≠ 0) (C 0 3))) := by
  have hN := hW.2.2.2.1
  have h03 : H 0 3 = nI (C 0 3) := hH 0 3 (show 3 < 6 by omega)
  unfold f_Board_placed
  have e := loop_S (body := fun q => f_Board_placed_l4 H BO q.1 q.2) (C 0 3) (fun i => (nI (bs (fun m => pl m ≠ 0) i), nI i)) (b := nI (bs (fun m => pl m ≠ 0) (C 0 3))) 0 (by omega) (by omega)
    (fun i _ hi => by
      show f_Board_placed_l4 H BO (nI (bs (fun m => pl m ≠ 0) i)) (nI i) = _
      unfold f_Board_placed_l4
      rw [h03, if_neg (nI_ge hi (by omega)), rdx_nI (by omega) (by omega), hB.1 i hi]
      show (if oI (pl i) = -1 then _ else _) = _
      by_cases hp : pl i = 0
      · rw [if_pos ((oI_ne (hpl i)).mpr hp), ← nI_succ, bs_miss (p := fun m => pl m ≠ 0) (fun h => h hp)]
      · rw [if_neg (fun h => hp ((oI_ne (hpl i)).mp h)), ← nI_succ, shl_1 _ (by omega), na_or, bs_hit (p := fun m => pl m ≠ 0) hp])
    (by
      show f_Board_placed_l4 H BO _ (nI (C 0 3)) = _
      unfold f_Board_placed_l4
      rw [h03, if_pos (nI_le (Nat.le_refl _) (by omega))])
  show (loopN _ a_F (nI (bs (fun m => pl m ≠ 0) 0), nI 0)).bind _ = _
  rw [e]; rfl
