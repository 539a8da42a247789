/-! PURE MATH: feed -/
def fb (p1 p2 p3 p4 p5 : Int32) (k : Nat) : Int32 := (a_ushr (if k < 4 then p1 else if k < 8 then p2 else if k < 12 then p3 else if k < 16 then p4 else p5) (nI (24 - 8 * (k % 4)))) &&& 255
theorem shr_bits (x : BitVec 32) (s : Nat) (hs : s ≤ 24) : x.sshiftRight s &&& 255#32 = (x >>> s) &&& 255#32 := by
  apply BitVec.eq_of_getLsbD_eq
  intro i hi
  rw [BitVec.getLsbD_and, BitVec.getLsbD_and, BitVec.getLsbD_sshiftRight, BitVec.getLsbD_ushiftRight]
  by_cases h8 : i < 8
  · rw [if_pos (by omega)]
    simp [show ¬ 32 ≤ i from by omega]
  · have h : (255#32).getLsbD i = false := by
      have hh : ∀ i, i < 32 → ¬ i < 8 → (255#32).getLsbD i = false := by decide
      exact hh i hi h8
    rw [h, Bool.and_false, Bool.and_false]
theorem shr_ushr (v : Int32) {s : Nat} (hs : s = 0 ∨ s = 8 ∨ s = 16 ∨ s = 24) : a_shr v (nI s) &&& 255 = a_ushr v (nI s) &&& 255 := by
  apply Int32.toBitVec_inj.mp
  have hk : ((nI s &&& 31).toBitVec.smod 32) = BitVec.ofNat 32 s := by rcases hs with rfl | rfl | rfl | rfl <;> decide
  have hk2 : (((nI s).toUInt32 &&& Int32.toUInt32 31).toBitVec % 32#32) = BitVec.ofNat 32 s := by rcases hs with rfl | rfl | rfl | rfl <;> decide
  have hn : (BitVec.ofNat 32 s).toNat = s := by rcases hs with rfl | rfl | rfl | rfl <;> rfl
  show (v.toBitVec.sshiftRight' ((nI s &&& 31).toBitVec.smod 32)) &&& 255#32 = (v.toBitVec >>> (((nI s).toUInt32 &&& Int32.toUInt32 31).toBitVec % 32#32)) &&& 255#32
  rw [hk, hk2]
  show (v.toBitVec.sshiftRight (BitVec.ofNat 32 s).toNat) &&& 255#32 = (v.toBitVec >>> (BitVec.ofNat 32 s).toNat) &&& 255#32
  rw [hn]
  exact shr_bits _ _ (by omega)
theorem and255 (x : Int32) : ∃ b, b < 256 ∧ x &&& 255 = nI b := by
  refine ⟨(x.toBitVec &&& 255#32).toNat, ?_, ?_⟩
  · rw [BitVec.toNat_and]
    exact Nat.lt_of_le_of_lt Nat.and_le_right (by decide)
  · apply Int32.toBitVec_inj.mp
    show x.toBitVec &&& 255#32 = BitVec.ofNat 32 (x.toBitVec &&& 255#32).toNat
    rw [BitVec.ofNat_toNat, BitVec.setWidth_eq]
theorem loop_l {α β : Type} {body : α → Option (α ⊕ β)} {n : Nat} {a a' : α} (h : body a = some (.inl a')) : loopN body (n + 1) a = loopN body n a' := by
  show (match body a with | some (.inl a') => loopN body n a' | some (.inr b) => some b | none => none) = _
  rw [h]
theorem loop_r {α β : Type} {body : α → Option (α ⊕ β)} {n : Nat} {a : α} {b : β} (h : body a = some (.inr b)) : loopN body (n + 1) a = some b := by
  show (match body a with | some (.inl a') => loopN body n a' | some (.inr b) => some b | none => none) = _
  rw [h]
/-- m ints g behind n in the row ra, the number of all at (0, fi) -/
def blk (A : Nat → Nat → Int32) (ra n m : Nat) (g : Nat → Int32) (fi : Nat) : Nat → Nat → Int32 := fun a b => if a = ra ∧ n ≤ b ∧ b < n + m then g (b - n) else if a = 0 ∧ b = fi then nI (n + m) else A a b
theorem blk_0 {A : Nat → Nat → Int32} {ra n fi : Nat} {g : Nat → Int32} (h : A 0 fi = nI n) : blk A ra n 0 g fi = A := by
  funext a b
  unfold blk
  rw [if_neg (by omega)]
  by_cases h1 : a = 0 ∧ b = fi
  · rw [if_pos h1, h1.1, h1.2, h]; rfl
  · rw [if_neg h1]
theorem blk_n {A : Nat → Nat → Int32} {ra n m fi : Nat} {g : Nat → Int32} (hr : ra ≠ 0) : blk A ra n m g fi 0 fi = nI (n + m) := by
  unfold blk
  rw [if_neg (by omega), if_pos ⟨rfl, rfl⟩]
theorem blk_step {A : Nat → Nat → Int32} {ra n m fi : Nat} {g : Nat → Int32} (hr : ra ≠ 0) : u2 (u2 (blk A ra n m g fi) ra (n + m) (g m)) 0 fi (nI (n + m + 1)) = blk A ra n (m + 1) g fi := by
  funext a b
  rw [u2_eq, u2_eq]
  unfold blk
  by_cases h1 : a = 0 ∧ b = fi
  · rw [if_pos h1, if_neg (by omega), if_pos h1]; rfl
  · rw [if_neg h1, if_neg h1, if_neg h1]
    by_cases h2 : a = ra ∧ b = n + m
    · rw [if_pos h2, if_pos (by omega), h2.2, show n + m - n = m from by omega]
    · rw [if_neg h2]
      by_cases h3 : a = ra ∧ n ≤ b ∧ b < n + m
      · rw [if_pos h3, if_pos (by omega)]
      · rw [if_neg h3, if_neg (by omega)]
theorem T_append1 {T : Nat → Nat → Int32} {n m : Nat} {g : Nat → Int32} {p : Int32} {s : Nat} (hs : s ≤ 24) (hn : n + m < 600) (hg : g m = a_ushr p (nI s) &&& 255) :
    f_Tape_append_l3 p (nI s) (blk T 1 n m g 1) = some (.inl (nI s + -8, blk T 1 n (m + 1) g 1)) := by
  unfold f_Tape_append_l3
  rw [if_neg (nI_pos (by omega)), blk_n (by decide), show (600 : Int32) = nI 600 from rfl, if_neg (by rw [na_le (by omega) (by omega)]; omega), ixx_nI (by omega) (by omega)]
  show some (Sum.inl (nI s + -8, u2 (u2 (blk T 1 n m g 1) 1 (n + m) (a_ushr p (nI s) &&& 255)) 0 1 ((u2 (blk T 1 n m g 1) 1 (n + m) (a_ushr p (nI s) &&& 255)) 0 1 + 1))) = _
  rw [u2_row _ _ (by decide), blk_n (by decide), ← nI_succ, ← hg, blk_step (by decide)]
theorem T_append {T : Nat → Nat → Int32} {n m : Nat} {g : Nat → Int32} {p : Int32} (hn : n + m + 4 ≤ 600) (h0 : g m = a_ushr p (nI 24) &&& 255) (h1 : g (m + 1) = a_ushr p (nI 16) &&& 255) (h2 : g (m + 2) = a_ushr p (nI 8) &&& 255) (h3 : g (m + 3) = a_ushr p (nI 0) &&& 255) :
    f_Tape_append (blk T 1 n m g 1) p = some (blk T 1 n (m + 4) g 1) := by
  unfold f_Tape_append
  have e : loopN (fun q => f_Tape_append_l3 p q.1 q.2) a_F (24, blk T 1 n m g 1) = some (blk T 1 n (m + 4) g 1) := by
    show loopN _ (1048571 + 1 + 1 + 1 + 1 + 1) (nI 24, blk T 1 n m g 1) = _
    rw [loop_l (T_append1 (s := 24) (by omega) (by omega) h0)]
    rw [show nI 24 + -8 = nI 16 from by decide, loop_l (T_append1 (s := 16) (by omega) (by omega) h1)]
    rw [show nI 16 + -8 = nI 8 from by decide, loop_l (T_append1 (s := 8) (by omega) (by omega) h2)]
    rw [show nI 8 + -8 = nI 0 from by decide, loop_l (T_append1 (s := 0) (by omega) (by omega) h3)]
    exact loop_r (by
      show f_Tape_append_l3 p (nI 0 + -8) _ = _
      unfold f_Tape_append_l3
      rw [if_pos (by decide)])
  rw [e]
  rfl
theorem T_feedY {T : Nat → Nat → Int32} {n : Nat} (h : T 0 1 = nI n) (hn : n ≤ 580) (p1 p2 p3 p4 p5 : Int32) : f_Y_feed T p1 p2 p3 p4 p5 = some (nI (n + 20), blk T 1 n 20 (fb p1 p2 p3 p4 p5) 1) := by
  unfold f_Y_feed
  rw [h, show (580 : Int32) = nI 580 from rfl, if_pos (nI_le hn (by omega))]
  have e := T_append (T := T) (n := n) (m := 0) (g := fb p1 p2 p3 p4 p5) (p := p1) (by omega) rfl rfl rfl rfl
  rw [blk_0 h] at e
  rw [e]
  show (f_Tape_append (blk T 1 n (0 + 4) (fb p1 p2 p3 p4 p5) 1) p2).bind _ = _
  rw [T_append (by omega) rfl rfl rfl rfl]
  show (f_Tape_append (blk T 1 n (0 + 4 + 4) (fb p1 p2 p3 p4 p5) 1) p3).bind _ = _
  rw [T_append (by omega) rfl rfl rfl rfl]
  show (f_Tape_append (blk T 1 n (0 + 4 + 4 + 4) (fb p1 p2 p3 p4 p5) 1) p4).bind _ = _
  rw [T_append (by omega) rfl rfl rfl rfl]
  show (f_Tape_append (blk T 1 n (0 + 4 + 4 + 4 + 4) (fb p1 p2 p3 p4 p5) 1) p5).bind _ = _
  rw [T_append (by omega) rfl rfl rfl rfl]
  show some (blk T 1 n 20 (fb p1 p2 p3 p4 p5) 1 0 1, blk T 1 n 20 (fb p1 p2 p3 p4 p5) 1) = _
  rw [blk_n (by decide)]
theorem T_feedY0 {T : Nat → Nat → Int32} {n : Nat} (h : T 0 1 = nI n) (hn : 580 < n) (hn2 : n ≤ 600) (p1 p2 p3 p4 p5 : Int32) : f_Y_feed T p1 p2 p3 p4 p5 = some (-1, T) := by
  unfold f_Y_feed
  rw [h, show (580 : Int32) = nI 580 from rfl, if_neg (nI_ge hn (by omega))]
theorem M_feed1 {A : Nat → Nat → Int32} {n i : Nat} (hi : i < 20) (hn : n ≤ 580) (p1 p2 p3 p4 p5 : Int32) :
    f_M_feed_l23 p5 p4 p3 p2 p1 (nI i) (blk A 2 n i (fb p1 p2 p3 p4 p5) 2) = some (.inl (nI (i + 1), blk A 2 n (i + 1) (fb p1 p2 p3 p4 p5) 2)) := by
  unfold f_M_feed_l23
  have hr : a_rem (nI i) 4 = nI (i % 4) := by
    have : ∀ i, i < 20 → a_rem (nI i) 4 = nI (i % 4) := by decide
    exact this i hi
  have hsub : (24 : Int32) - 8 * nI (i % 4) = nI (24 - 8 * (i % 4)) := by
    have : ∀ j, j < 4 → (24 : Int32) - 8 * nI j = nI (24 - 8 * j) := by decide
    exact this _ (Nat.mod_lt _ (by decide))
  have hv : (((if 4 ≤ nI i then if 8 ≤ nI i then if 12 ≤ nI i then if 16 ≤ nI i then some p5 else some p4 else some p3 else some p2 else some p1) : Option Int32)) = some (if i < 4 then p1 else if i < 8 then p2 else if i < 12 then p3 else if i < 16 then p4 else p5) := by
    have k4 : (4 : Int32) ≤ nI i ↔ 4 ≤ i := na_le (a := 4) (by omega) (by omega)
    have k8 : (8 : Int32) ≤ nI i ↔ 8 ≤ i := na_le (a := 8) (by omega) (by omega)
    have k12 : (12 : Int32) ≤ nI i ↔ 12 ≤ i := na_le (a := 12) (by omega) (by omega)
    have k16 : (16 : Int32) ≤ nI i ↔ 16 ≤ i := na_le (a := 16) (by omega) (by omega)
    simp only [k4, k8, k12, k16]
    repeat' split
    all_goals first | rfl | omega
  rw [if_neg (show ¬ (20 : Int32) ≤ nI i from nI_ge (b := 20) hi (by omega)), hv]
  show ((ixx 600 (blk A 2 n i (fb p1 p2 p3 p4 p5) 2 0 2)).bind _) = _
  rw [blk_n (by decide), ixx_nI (by omega) (by omega)]
  show some (Sum.inl (nI i + 1, u2 (u2 (blk A 2 n i (fb p1 p2 p3 p4 p5) 2) 2 (n + i) _) 0 2 ((u2 (blk A 2 n i (fb p1 p2 p3 p4 p5) 2) 2 (n + i) _) 0 2 + 1))) = _
  rw [hr, hsub, shr_ushr _ (by omega), u2_row _ _ (by decide), blk_n (by decide), ← nI_succ, ← nI_succ]
  rw [show (a_ushr (if i < 4 then p1 else if i < 8 then p2 else if i < 12 then p3 else if i < 16 then p4 else p5) (nI (24 - 8 * (i % 4))) &&& 255) = fb p1 p2 p3 p4 p5 i from rfl, blk_step (by decide)]
theorem M_feed {A : Nat → Nat → Int32} {n : Nat} (h : A 0 2 = nI n) (hn : n ≤ 580) (p1 p2 p3 p4 p5 : Int32) : f_M_feed A p1 p2 p3 p4 p5 = some (nI (n + 20), blk (u2 A 0 0 0) 2 n 20 (fb p1 p2 p3 p4 p5) 2) := by
  unfold f_M_feed
  have h' : (u2 A 0 0 0) 0 2 = nI n := by rw [u2_col _ _ (by decide), h]
  rw [h', show nI n + 20 = nI (n + 20) from nI_add n 20, show (600 : Int32) = nI 600 from rfl, if_pos (nI_le (by omega) (by omega))]
  have e := loop_for (body := fun q => f_M_feed_l23 p5 p4 p3 p2 p1 q.1 q.2) 20 (fun i => blk (u2 A 0 0 0) 2 n i (fb p1 p2 p3 p4 p5) 2) (b := blk (u2 A 0 0 0) 2 n 20 (fb p1 p2 p3 p4 p5) 2) 0 (by omega) (by omega) (fun i _ hi => M_feed1 hi hn p1 p2 p3 p4 p5) (by
    show f_M_feed_l23 p5 p4 p3 p2 p1 (nI 20) _ = _
    unfold f_M_feed_l23
    rw [if_pos (by decide)])
  rw [blk_0 h'] at e
  rw [show ((0 : Int32), u2 A 0 0 0) = (nI 0, u2 A 0 0 0) from rfl, e]
  show some (blk (u2 A 0 0 0) 2 n 20 (fb p1 p2 p3 p4 p5) 2 0 2, _) = _
  rw [blk_n (by decide)]
theorem M_feed0 {A : Nat → Nat → Int32} {n : Nat} (h : A 0 2 = nI n) (hn : 580 < n) (hn2 : n ≤ 600) (p1 p2 p3 p4 p5 : Int32) : f_M_feed A p1 p2 p3 p4 p5 = some (-1, u2 A 0 0 0) := by
  unfold f_M_feed
  have h' : (u2 A 0 0 0) 0 2 = nI n := by rw [u2_col _ _ (by decide), h]
  rw [h', show nI n + 20 = nI (n + 20) from nI_add n 20, show (600 : Int32) = nI 600 from rfl, if_neg (nI_ge (by omega) (by omega))]
