/-! ===== printed by program (gen/loop.py): the law's loop ===== -/
theorem and63 (x : Int32) : ∃ b, b < 64 ∧ x &&& 63 = nI b := by
  refine ⟨(x.toBitVec &&& 63#32).toNat, ?_, ?_⟩
  · rw [BitVec.toNat_and]
    exact Nat.lt_of_le_of_lt Nat.and_le_right (by decide)
  · apply Int32.toBitVec_inj.mp
    show x.toBitVec &&& 63#32 = BitVec.ofNat 32 (x.toBitVec &&& 63#32).toNat
    rw [BitVec.ofNat_toNat, BitVec.setWidth_eq]
theorem len_gt {L k : Nat} (hL : L < 2 ^ 31) (hk : k < 2 ^ 31) : (nI L - 6 < nI k) = (L < k + 6) := by
  by_cases h : 6 ≤ L
  · rw [show (6 : Int32) = nI 6 from rfl, na_sub h]
    exact propext ⟨fun g => by have := (na_lt (by omega) hk).mp g; omega, fun g => (na_lt (by omega) hk).mpr (by omega)⟩
  · have h6 : nI L - 6 < 0 := by
      have : L = 0 ∨ L = 1 ∨ L = 2 ∨ L = 3 ∨ L = 4 ∨ L = 5 := by omega
      rcases this with rfl | rfl | rfl | rfl | rfl | rfl <;> decide
    refine propext ⟨fun _ => by omega, fun _ => ?_⟩
    rw [Int32.lt_iff_toInt_lt] at h6 ⊢
    rw [nI_toInt hk]
    have h0 : (0 : Int32).toInt = 0 := by decide
    omega
/-- the loop ends -/
theorem LEND (d g h L : Nat) (Lg : Int64) (Is : List (Nat → Nat → Int32)) (Rs : List Nat) (i : Int32) (v5 v6 : Value) (s7 : Slot) (hi : Int32.ofNat L - 6 < i) : ∃ o : AOut, (o.1 = 0 ∧ o.2.1 = some (.int 1)) ∧ Ev (d + 60, g, h, 383, 23, [.val (.ref 1344), .val (.ref 64), .val (.ref 1088), .val (.ref 1280), .val (.int i), .val v5, .val v6, s7], [], (126, 120, L, Is, Rs, Lg)) o := by
  refine ⟨(0, some (.int 1), (126, 120, L, Is, Rs, Lg)), ⟨rfl, rfl⟩, ?_⟩
  suffices e : Ev (d + 60, g, h, 383, 2879, [.val (.ref 1344), .val (.ref 64), .val (.ref 1088), .val (.ref 1280), .val (.int i), .val v5, .val v6, s7], [], (126, 120, L, Is, Rs, Lg)) ((0, some (.int 1), (126, 120, L, Is, Rs, Lg)) : AOut) from ev_t (c := Int32.ofNat L - 6 < i) _ _ 6 hi e (fun n => Eq.refl _)
  exact ev_ret 2 (fun n => Eq.refl _)
/-- the loop goes on -/
theorem LGO (d g h L : Nat) (Lg : Int64) (Is : List (Nat → Nat → Int32)) (Rs : List Nat) (i : Int32) (v5 v6 : Value) (s7 : Slot) {x y : Int32} {o : AOut} (hi : ¬ Int32.ofNat L - 6 < i) (hx : rdx (a_nth Is a_z 20 0) L i = some x) (hy : x &&& 63 = y) (e : Ev (d + 60, g, h, 383, 40, [.val (.ref 1344), .val (.ref 64), .val (.ref 1088), .val (.ref 1280), .val (.int i), .val v5, .val v6, s7], [.int y], (126, 120, L, Is, Rs, Lg)) o) : Ev (d + 60, g, h, 383, 23, [.val (.ref 1344), .val (.ref 64), .val (.ref 1088), .val (.ref 1280), .val (.int i), .val v5, .val v6, s7], [], (126, 120, L, Is, Rs, Lg)) o := by
  subst hy
  suffices e : Ev (d + 60, g, h, 383, 33, [.val (.ref 1344), .val (.ref 64), .val (.ref 1088), .val (.ref 1280), .val (.int i), .val v5, .val v6, s7], [], (126, 120, L, Is, Rs, Lg)) o from ev_f (c := Int32.ofNat L - 6 < i) _ _ 6 hi e (fun n => Eq.refl _)
  suffices e : Ev (d + 60, g, h, 383, 37, [.val (.ref 1344), .val (.ref 64), .val (.ref 1088), .val (.ref 1280), .val (.int i), .val v5, .val v6, s7], [.int x], (126, 120, L, Is, Rs, Lg)) o from ev_opt (fun x => (d + 60, g, h, 383, 37, [.val (.ref 1344), .val (.ref 64), .val (.ref 1088), .val (.ref 1280), .val (.int i), .val v5, .val v6, s7], [.int x], (126, 120, L, Is, Rs, Lg))) 3 hx e (fun n => Eq.refl _)
  exact ev_b 2 e (fun n => Eq.refl _)
/-- behind a call -/
theorem LNX (d g h L : Nat) (Lg : Int64) (Is : List (Nat → Nat → Int32)) (Rs : List Nat) (i : Int32) (v5 v6 : Value) (s7 : Slot) {o : AOut} (e : Ev (d + 60, g, h, 383, 23, [.val (.ref 1344), .val (.ref 64), .val (.ref 1088), .val (.ref 1280), .val (.int (i + 6)), .val v5, .val v6, s7], [], (126, 120, L, Is, Rs, Lg)) o) : Ev (d + 60, g, h, 383, 2873, [.val (.ref 1344), .val (.ref 64), .val (.ref 1088), .val (.ref 1280), .val (.int i), .val v5, .val v6, s7], [], (126, 120, L, Is, Rs, Lg)) o := by
  exact ev_b 2 e (fun n => Eq.refl _)
set_option maxRecDepth 1000000 in
set_option maxHeartbeats 4000000 in
theorem LSW_0 (d g h L : Nat) (Lg : Int64) (Is : List (Nat → Nat → Int32)) (Rs : List Nat) (i : Int32) (v5 v6 : Value) (s7 : Slot) {P : AOut → Prop} (e : ∃ o, P o ∧ Ev (d + 60, g, h, 383, 256, [.val (.ref 1344), .val (.ref 64), .val (.ref 1088), .val (.ref 1280), .val (.int i), .val v5, .val v6, s7], [], (126, 120, L, Is, Rs, Lg)) o) : ∃ o, P o ∧ Ev (d + 60, g, h, 383, 40, [.val (.ref 1344), .val (.ref 64), .val (.ref 1088), .val (.ref 1280), .val (.int i), .val v5, .val v6, s7], [.int 0], (126, 120, L, Is, Rs, Lg)) o := by
  obtain ⟨o, ho, e⟩ := e
  exact ⟨o, ho, ev_b 1 e (fun n => Eq.refl _)⟩
set_option maxRecDepth 1000000 in
set_option maxHeartbeats 4000000 in
theorem LSW_1 (d g h L : Nat) (Lg : Int64) (Is : List (Nat → Nat → Int32)) (Rs : List Nat) (i : Int32) (v5 v6 : Value) (s7 : Slot) {P : AOut → Prop} (e : ∃ o, P o ∧ Ev (d + 60, g, h, 383, 329, [.val (.ref 1344), .val (.ref 64), .val (.ref 1088), .val (.ref 1280), .val (.int i), .val v5, .val v6, s7], [], (126, 120, L, Is, Rs, Lg)) o) : ∃ o, P o ∧ Ev (d + 60, g, h, 383, 40, [.val (.ref 1344), .val (.ref 64), .val (.ref 1088), .val (.ref 1280), .val (.int i), .val v5, .val v6, s7], [.int 1], (126, 120, L, Is, Rs, Lg)) o := by
  obtain ⟨o, ho, e⟩ := e
  exact ⟨o, ho, ev_b 1 e (fun n => Eq.refl _)⟩
set_option maxRecDepth 1000000 in
set_option maxHeartbeats 4000000 in
theorem LSW_2 (d g h L : Nat) (Lg : Int64) (Is : List (Nat → Nat → Int32)) (Rs : List Nat) (i : Int32) (v5 v6 : Value) (s7 : Slot) {P : AOut → Prop} (e : ∃ o, P o ∧ Ev (d + 60, g, h, 383, 385, [.val (.ref 1344), .val (.ref 64), .val (.ref 1088), .val (.ref 1280), .val (.int i), .val v5, .val v6, s7], [], (126, 120, L, Is, Rs, Lg)) o) : ∃ o, P o ∧ Ev (d + 60, g, h, 383, 40, [.val (.ref 1344), .val (.ref 64), .val (.ref 1088), .val (.ref 1280), .val (.int i), .val v5, .val v6, s7], [.int 2], (126, 120, L, Is, Rs, Lg)) o := by
  obtain ⟨o, ho, e⟩ := e
  exact ⟨o, ho, ev_b 1 e (fun n => Eq.refl _)⟩
set_option maxRecDepth 1000000 in
set_option maxHeartbeats 4000000 in
theorem LSW_3 (d g h L : Nat) (Lg : Int64) (Is : List (Nat → Nat → Int32)) (Rs : List Nat) (i : Int32) (v5 v6 : Value) (s7 : Slot) {P : AOut → Prop} (e : ∃ o, P o ∧ Ev (d + 60, g, h, 383, 441, [.val (.ref 1344), .val (.ref 64), .val (.ref 1088), .val (.ref 1280), .val (.int i), .val v5, .val v6, s7], [], (126, 120, L, Is, Rs, Lg)) o) : ∃ o, P o ∧ Ev (d + 60, g, h, 383, 40, [.val (.ref 1344), .val (.ref 64), .val (.ref 1088), .val (.ref 1280), .val (.int i), .val v5, .val v6, s7], [.int 3], (126, 120, L, Is, Rs, Lg)) o := by
  obtain ⟨o, ho, e⟩ := e
  exact ⟨o, ho, ev_b 1 e (fun n => Eq.refl _)⟩
set_option maxRecDepth 1000000 in
set_option maxHeartbeats 4000000 in
theorem LSW_4 (d g h L : Nat) (Lg : Int64) (Is : List (Nat → Nat → Int32)) (Rs : List Nat) (i : Int32) (v5 v6 : Value) (s7 : Slot) {P : AOut → Prop} (e : ∃ o, P o ∧ Ev (d + 60, g, h, 383, 497, [.val (.ref 1344), .val (.ref 64), .val (.ref 1088), .val (.ref 1280), .val (.int i), .val v5, .val v6, s7], [], (126, 120, L, Is, Rs, Lg)) o) : ∃ o, P o ∧ Ev (d + 60, g, h, 383, 40, [.val (.ref 1344), .val (.ref 64), .val (.ref 1088), .val (.ref 1280), .val (.int i), .val v5, .val v6, s7], [.int 4], (126, 120, L, Is, Rs, Lg)) o := by
  obtain ⟨o, ho, e⟩ := e
  exact ⟨o, ho, ev_b 1 e (fun n => Eq.refl _)⟩
set_option maxRecDepth 1000000 in
set_option maxHeartbeats 4000000 in
theorem LSW_5 (d g h L : Nat) (Lg : Int64) (Is : List (Nat → Nat → Int32)) (Rs : List Nat) (i : Int32) (v5 v6 : Value) (s7 : Slot) {P : AOut → Prop} (e : ∃ o, P o ∧ Ev (d + 60, g, h, 383, 510, [.val (.ref 1344), .val (.ref 64), .val (.ref 1088), .val (.ref 1280), .val (.int i), .val v5, .val v6, s7], [], (126, 120, L, Is, Rs, Lg)) o) : ∃ o, P o ∧ Ev (d + 60, g, h, 383, 40, [.val (.ref 1344), .val (.ref 64), .val (.ref 1088), .val (.ref 1280), .val (.int i), .val v5, .val v6, s7], [.int 5], (126, 120, L, Is, Rs, Lg)) o := by
  obtain ⟨o, ho, e⟩ := e
  exact ⟨o, ho, ev_b 1 e (fun n => Eq.refl _)⟩
set_option maxRecDepth 1000000 in
set_option maxHeartbeats 4000000 in
theorem LSW_6 (d g h L : Nat) (Lg : Int64) (Is : List (Nat → Nat → Int32)) (Rs : List Nat) (i : Int32) (v5 v6 : Value) (s7 : Slot) {P : AOut → Prop} (e : ∃ o, P o ∧ Ev (d + 60, g, h, 383, 566, [.val (.ref 1344), .val (.ref 64), .val (.ref 1088), .val (.ref 1280), .val (.int i), .val v5, .val v6, s7], [], (126, 120, L, Is, Rs, Lg)) o) : ∃ o, P o ∧ Ev (d + 60, g, h, 383, 40, [.val (.ref 1344), .val (.ref 64), .val (.ref 1088), .val (.ref 1280), .val (.int i), .val v5, .val v6, s7], [.int 6], (126, 120, L, Is, Rs, Lg)) o := by
  obtain ⟨o, ho, e⟩ := e
  exact ⟨o, ho, ev_b 1 e (fun n => Eq.refl _)⟩
set_option maxRecDepth 1000000 in
set_option maxHeartbeats 4000000 in
theorem LSW_7 (d g h L : Nat) (Lg : Int64) (Is : List (Nat → Nat → Int32)) (Rs : List Nat) (i : Int32) (v5 v6 : Value) (s7 : Slot) {P : AOut → Prop} (e : ∃ o, P o ∧ Ev (d + 60, g, h, 383, 634, [.val (.ref 1344), .val (.ref 64), .val (.ref 1088), .val (.ref 1280), .val (.int i), .val v5, .val v6, s7], [], (126, 120, L, Is, Rs, Lg)) o) : ∃ o, P o ∧ Ev (d + 60, g, h, 383, 40, [.val (.ref 1344), .val (.ref 64), .val (.ref 1088), .val (.ref 1280), .val (.int i), .val v5, .val v6, s7], [.int 7], (126, 120, L, Is, Rs, Lg)) o := by
  obtain ⟨o, ho, e⟩ := e
  exact ⟨o, ho, ev_b 1 e (fun n => Eq.refl _)⟩
set_option maxRecDepth 1000000 in
set_option maxHeartbeats 4000000 in
theorem LSW_8 (d g h L : Nat) (Lg : Int64) (Is : List (Nat → Nat → Int32)) (Rs : List Nat) (i : Int32) (v5 v6 : Value) (s7 : Slot) {P : AOut → Prop} (e : ∃ o, P o ∧ Ev (d + 60, g, h, 383, 702, [.val (.ref 1344), .val (.ref 64), .val (.ref 1088), .val (.ref 1280), .val (.int i), .val v5, .val v6, s7], [], (126, 120, L, Is, Rs, Lg)) o) : ∃ o, P o ∧ Ev (d + 60, g, h, 383, 40, [.val (.ref 1344), .val (.ref 64), .val (.ref 1088), .val (.ref 1280), .val (.int i), .val v5, .val v6, s7], [.int 8], (126, 120, L, Is, Rs, Lg)) o := by
  obtain ⟨o, ho, e⟩ := e
  exact ⟨o, ho, ev_b 1 e (fun n => Eq.refl _)⟩
set_option maxRecDepth 1000000 in
set_option maxHeartbeats 4000000 in
theorem LSW_9 (d g h L : Nat) (Lg : Int64) (Is : List (Nat → Nat → Int32)) (Rs : List Nat) (i : Int32) (v5 v6 : Value) (s7 : Slot) {P : AOut → Prop} (e : ∃ o, P o ∧ Ev (d + 60, g, h, 383, 770, [.val (.ref 1344), .val (.ref 64), .val (.ref 1088), .val (.ref 1280), .val (.int i), .val v5, .val v6, s7], [], (126, 120, L, Is, Rs, Lg)) o) : ∃ o, P o ∧ Ev (d + 60, g, h, 383, 40, [.val (.ref 1344), .val (.ref 64), .val (.ref 1088), .val (.ref 1280), .val (.int i), .val v5, .val v6, s7], [.int 9], (126, 120, L, Is, Rs, Lg)) o := by
  obtain ⟨o, ho, e⟩ := e
  exact ⟨o, ho, ev_b 1 e (fun n => Eq.refl _)⟩
set_option maxRecDepth 1000000 in
set_option maxHeartbeats 4000000 in
theorem LSW_10 (d g h L : Nat) (Lg : Int64) (Is : List (Nat → Nat → Int32)) (Rs : List Nat) (i : Int32) (v5 v6 : Value) (s7 : Slot) {P : AOut → Prop} (e : ∃ o, P o ∧ Ev (d + 60, g, h, 383, 838, [.val (.ref 1344), .val (.ref 64), .val (.ref 1088), .val (.ref 1280), .val (.int i), .val v5, .val v6, s7], [], (126, 120, L, Is, Rs, Lg)) o) : ∃ o, P o ∧ Ev (d + 60, g, h, 383, 40, [.val (.ref 1344), .val (.ref 64), .val (.ref 1088), .val (.ref 1280), .val (.int i), .val v5, .val v6, s7], [.int 10], (126, 120, L, Is, Rs, Lg)) o := by
  obtain ⟨o, ho, e⟩ := e
  exact ⟨o, ho, ev_b 1 e (fun n => Eq.refl _)⟩
set_option maxRecDepth 1000000 in
set_option maxHeartbeats 4000000 in
theorem LSW_11 (d g h L : Nat) (Lg : Int64) (Is : List (Nat → Nat → Int32)) (Rs : List Nat) (i : Int32) (v5 v6 : Value) (s7 : Slot) {P : AOut → Prop} (e : ∃ o, P o ∧ Ev (d + 60, g, h, 383, 918, [.val (.ref 1344), .val (.ref 64), .val (.ref 1088), .val (.ref 1280), .val (.int i), .val v5, .val v6, s7], [], (126, 120, L, Is, Rs, Lg)) o) : ∃ o, P o ∧ Ev (d + 60, g, h, 383, 40, [.val (.ref 1344), .val (.ref 64), .val (.ref 1088), .val (.ref 1280), .val (.int i), .val v5, .val v6, s7], [.int 11], (126, 120, L, Is, Rs, Lg)) o := by
  obtain ⟨o, ho, e⟩ := e
  exact ⟨o, ho, ev_b 1 e (fun n => Eq.refl _)⟩
set_option maxRecDepth 1000000 in
set_option maxHeartbeats 4000000 in
theorem LSW_12 (d g h L : Nat) (Lg : Int64) (Is : List (Nat → Nat → Int32)) (Rs : List Nat) (i : Int32) (v5 v6 : Value) (s7 : Slot) {P : AOut → Prop} (e : ∃ o, P o ∧ Ev (d + 60, g, h, 383, 931, [.val (.ref 1344), .val (.ref 64), .val (.ref 1088), .val (.ref 1280), .val (.int i), .val v5, .val v6, s7], [], (126, 120, L, Is, Rs, Lg)) o) : ∃ o, P o ∧ Ev (d + 60, g, h, 383, 40, [.val (.ref 1344), .val (.ref 64), .val (.ref 1088), .val (.ref 1280), .val (.int i), .val v5, .val v6, s7], [.int 12], (126, 120, L, Is, Rs, Lg)) o := by
  obtain ⟨o, ho, e⟩ := e
  exact ⟨o, ho, ev_b 1 e (fun n => Eq.refl _)⟩
set_option maxRecDepth 1000000 in
set_option maxHeartbeats 4000000 in
theorem LSW_13 (d g h L : Nat) (Lg : Int64) (Is : List (Nat → Nat → Int32)) (Rs : List Nat) (i : Int32) (v5 v6 : Value) (s7 : Slot) {P : AOut → Prop} (e : ∃ o, P o ∧ Ev (d + 60, g, h, 383, 987, [.val (.ref 1344), .val (.ref 64), .val (.ref 1088), .val (.ref 1280), .val (.int i), .val v5, .val v6, s7], [], (126, 120, L, Is, Rs, Lg)) o) : ∃ o, P o ∧ Ev (d + 60, g, h, 383, 40, [.val (.ref 1344), .val (.ref 64), .val (.ref 1088), .val (.ref 1280), .val (.int i), .val v5, .val v6, s7], [.int 13], (126, 120, L, Is, Rs, Lg)) o := by
  obtain ⟨o, ho, e⟩ := e
  exact ⟨o, ho, ev_b 1 e (fun n => Eq.refl _)⟩
set_option maxRecDepth 1000000 in
set_option maxHeartbeats 4000000 in
theorem LSW_14 (d g h L : Nat) (Lg : Int64) (Is : List (Nat → Nat → Int32)) (Rs : List Nat) (i : Int32) (v5 v6 : Value) (s7 : Slot) {P : AOut → Prop} (e : ∃ o, P o ∧ Ev (d + 60, g, h, 383, 1067, [.val (.ref 1344), .val (.ref 64), .val (.ref 1088), .val (.ref 1280), .val (.int i), .val v5, .val v6, s7], [], (126, 120, L, Is, Rs, Lg)) o) : ∃ o, P o ∧ Ev (d + 60, g, h, 383, 40, [.val (.ref 1344), .val (.ref 64), .val (.ref 1088), .val (.ref 1280), .val (.int i), .val v5, .val v6, s7], [.int 14], (126, 120, L, Is, Rs, Lg)) o := by
  obtain ⟨o, ho, e⟩ := e
  exact ⟨o, ho, ev_b 1 e (fun n => Eq.refl _)⟩
set_option maxRecDepth 1000000 in
set_option maxHeartbeats 4000000 in
theorem LSW_15 (d g h L : Nat) (Lg : Int64) (Is : List (Nat → Nat → Int32)) (Rs : List Nat) (i : Int32) (v5 v6 : Value) (s7 : Slot) {P : AOut → Prop} (e : ∃ o, P o ∧ Ev (d + 60, g, h, 383, 1123, [.val (.ref 1344), .val (.ref 64), .val (.ref 1088), .val (.ref 1280), .val (.int i), .val v5, .val v6, s7], [], (126, 120, L, Is, Rs, Lg)) o) : ∃ o, P o ∧ Ev (d + 60, g, h, 383, 40, [.val (.ref 1344), .val (.ref 64), .val (.ref 1088), .val (.ref 1280), .val (.int i), .val v5, .val v6, s7], [.int 15], (126, 120, L, Is, Rs, Lg)) o := by
  obtain ⟨o, ho, e⟩ := e
  exact ⟨o, ho, ev_b 1 e (fun n => Eq.refl _)⟩
set_option maxRecDepth 1000000 in
set_option maxHeartbeats 4000000 in
theorem LSW_16 (d g h L : Nat) (Lg : Int64) (Is : List (Nat → Nat → Int32)) (Rs : List Nat) (i : Int32) (v5 v6 : Value) (s7 : Slot) {P : AOut → Prop} (e : ∃ o, P o ∧ Ev (d + 60, g, h, 383, 1136, [.val (.ref 1344), .val (.ref 64), .val (.ref 1088), .val (.ref 1280), .val (.int i), .val v5, .val v6, s7], [], (126, 120, L, Is, Rs, Lg)) o) : ∃ o, P o ∧ Ev (d + 60, g, h, 383, 40, [.val (.ref 1344), .val (.ref 64), .val (.ref 1088), .val (.ref 1280), .val (.int i), .val v5, .val v6, s7], [.int 16], (126, 120, L, Is, Rs, Lg)) o := by
  obtain ⟨o, ho, e⟩ := e
  exact ⟨o, ho, ev_b 1 e (fun n => Eq.refl _)⟩
set_option maxRecDepth 1000000 in
set_option maxHeartbeats 4000000 in
theorem LSW_17 (d g h L : Nat) (Lg : Int64) (Is : List (Nat → Nat → Int32)) (Rs : List Nat) (i : Int32) (v5 v6 : Value) (s7 : Slot) {P : AOut → Prop} (e : ∃ o, P o ∧ Ev (d + 60, g, h, 383, 1192, [.val (.ref 1344), .val (.ref 64), .val (.ref 1088), .val (.ref 1280), .val (.int i), .val v5, .val v6, s7], [], (126, 120, L, Is, Rs, Lg)) o) : ∃ o, P o ∧ Ev (d + 60, g, h, 383, 40, [.val (.ref 1344), .val (.ref 64), .val (.ref 1088), .val (.ref 1280), .val (.int i), .val v5, .val v6, s7], [.int 17], (126, 120, L, Is, Rs, Lg)) o := by
  obtain ⟨o, ho, e⟩ := e
  exact ⟨o, ho, ev_b 1 e (fun n => Eq.refl _)⟩
set_option maxRecDepth 1000000 in
set_option maxHeartbeats 4000000 in
theorem LSW_18 (d g h L : Nat) (Lg : Int64) (Is : List (Nat → Nat → Int32)) (Rs : List Nat) (i : Int32) (v5 v6 : Value) (s7 : Slot) {P : AOut → Prop} (e : ∃ o, P o ∧ Ev (d + 60, g, h, 383, 1260, [.val (.ref 1344), .val (.ref 64), .val (.ref 1088), .val (.ref 1280), .val (.int i), .val v5, .val v6, s7], [], (126, 120, L, Is, Rs, Lg)) o) : ∃ o, P o ∧ Ev (d + 60, g, h, 383, 40, [.val (.ref 1344), .val (.ref 64), .val (.ref 1088), .val (.ref 1280), .val (.int i), .val v5, .val v6, s7], [.int 18], (126, 120, L, Is, Rs, Lg)) o := by
  obtain ⟨o, ho, e⟩ := e
  exact ⟨o, ho, ev_b 1 e (fun n => Eq.refl _)⟩
set_option maxRecDepth 1000000 in
set_option maxHeartbeats 4000000 in
theorem LSW_19 (d g h L : Nat) (Lg : Int64) (Is : List (Nat → Nat → Int32)) (Rs : List Nat) (i : Int32) (v5 v6 : Value) (s7 : Slot) {P : AOut → Prop} (e : ∃ o, P o ∧ Ev (d + 60, g, h, 383, 1273, [.val (.ref 1344), .val (.ref 64), .val (.ref 1088), .val (.ref 1280), .val (.int i), .val v5, .val v6, s7], [], (126, 120, L, Is, Rs, Lg)) o) : ∃ o, P o ∧ Ev (d + 60, g, h, 383, 40, [.val (.ref 1344), .val (.ref 64), .val (.ref 1088), .val (.ref 1280), .val (.int i), .val v5, .val v6, s7], [.int 19], (126, 120, L, Is, Rs, Lg)) o := by
  obtain ⟨o, ho, e⟩ := e
  exact ⟨o, ho, ev_b 1 e (fun n => Eq.refl _)⟩
set_option maxRecDepth 1000000 in
set_option maxHeartbeats 4000000 in
theorem LSW_20 (d g h L : Nat) (Lg : Int64) (Is : List (Nat → Nat → Int32)) (Rs : List Nat) (i : Int32) (v5 v6 : Value) (s7 : Slot) {P : AOut → Prop} (e : ∃ o, P o ∧ Ev (d + 60, g, h, 383, 1353, [.val (.ref 1344), .val (.ref 64), .val (.ref 1088), .val (.ref 1280), .val (.int i), .val v5, .val v6, s7], [], (126, 120, L, Is, Rs, Lg)) o) : ∃ o, P o ∧ Ev (d + 60, g, h, 383, 40, [.val (.ref 1344), .val (.ref 64), .val (.ref 1088), .val (.ref 1280), .val (.int i), .val v5, .val v6, s7], [.int 20], (126, 120, L, Is, Rs, Lg)) o := by
  obtain ⟨o, ho, e⟩ := e
  exact ⟨o, ho, ev_b 1 e (fun n => Eq.refl _)⟩
set_option maxRecDepth 1000000 in
set_option maxHeartbeats 4000000 in
theorem LSW_21 (d g h L : Nat) (Lg : Int64) (Is : List (Nat → Nat → Int32)) (Rs : List Nat) (i : Int32) (v5 v6 : Value) (s7 : Slot) {P : AOut → Prop} (e : ∃ o, P o ∧ Ev (d + 60, g, h, 383, 1433, [.val (.ref 1344), .val (.ref 64), .val (.ref 1088), .val (.ref 1280), .val (.int i), .val v5, .val v6, s7], [], (126, 120, L, Is, Rs, Lg)) o) : ∃ o, P o ∧ Ev (d + 60, g, h, 383, 40, [.val (.ref 1344), .val (.ref 64), .val (.ref 1088), .val (.ref 1280), .val (.int i), .val v5, .val v6, s7], [.int 21], (126, 120, L, Is, Rs, Lg)) o := by
  obtain ⟨o, ho, e⟩ := e
  exact ⟨o, ho, ev_b 1 e (fun n => Eq.refl _)⟩
set_option maxRecDepth 1000000 in
set_option maxHeartbeats 4000000 in
theorem LSW_22 (d g h L : Nat) (Lg : Int64) (Is : List (Nat → Nat → Int32)) (Rs : List Nat) (i : Int32) (v5 v6 : Value) (s7 : Slot) {P : AOut → Prop} (e : ∃ o, P o ∧ Ev (d + 60, g, h, 383, 1489, [.val (.ref 1344), .val (.ref 64), .val (.ref 1088), .val (.ref 1280), .val (.int i), .val v5, .val v6, s7], [], (126, 120, L, Is, Rs, Lg)) o) : ∃ o, P o ∧ Ev (d + 60, g, h, 383, 40, [.val (.ref 1344), .val (.ref 64), .val (.ref 1088), .val (.ref 1280), .val (.int i), .val v5, .val v6, s7], [.int 22], (126, 120, L, Is, Rs, Lg)) o := by
  obtain ⟨o, ho, e⟩ := e
  exact ⟨o, ho, ev_b 1 e (fun n => Eq.refl _)⟩
set_option maxRecDepth 1000000 in
set_option maxHeartbeats 4000000 in
theorem LSW_23 (d g h L : Nat) (Lg : Int64) (Is : List (Nat → Nat → Int32)) (Rs : List Nat) (i : Int32) (v5 v6 : Value) (s7 : Slot) {P : AOut → Prop} (e : ∃ o, P o ∧ Ev (d + 60, g, h, 383, 1564, [.val (.ref 1344), .val (.ref 64), .val (.ref 1088), .val (.ref 1280), .val (.int i), .val v5, .val v6, s7], [], (126, 120, L, Is, Rs, Lg)) o) : ∃ o, P o ∧ Ev (d + 60, g, h, 383, 40, [.val (.ref 1344), .val (.ref 64), .val (.ref 1088), .val (.ref 1280), .val (.int i), .val v5, .val v6, s7], [.int 23], (126, 120, L, Is, Rs, Lg)) o := by
  obtain ⟨o, ho, e⟩ := e
  exact ⟨o, ho, ev_b 1 e (fun n => Eq.refl _)⟩
set_option maxRecDepth 1000000 in
set_option maxHeartbeats 4000000 in
theorem LSW_24 (d g h L : Nat) (Lg : Int64) (Is : List (Nat → Nat → Int32)) (Rs : List Nat) (i : Int32) (v5 v6 : Value) (s7 : Slot) {P : AOut → Prop} (e : ∃ o, P o ∧ Ev (d + 60, g, h, 383, 1632, [.val (.ref 1344), .val (.ref 64), .val (.ref 1088), .val (.ref 1280), .val (.int i), .val v5, .val v6, s7], [], (126, 120, L, Is, Rs, Lg)) o) : ∃ o, P o ∧ Ev (d + 60, g, h, 383, 40, [.val (.ref 1344), .val (.ref 64), .val (.ref 1088), .val (.ref 1280), .val (.int i), .val v5, .val v6, s7], [.int 24], (126, 120, L, Is, Rs, Lg)) o := by
  obtain ⟨o, ho, e⟩ := e
  exact ⟨o, ho, ev_b 1 e (fun n => Eq.refl _)⟩
set_option maxRecDepth 1000000 in
set_option maxHeartbeats 4000000 in
theorem LSW_25 (d g h L : Nat) (Lg : Int64) (Is : List (Nat → Nat → Int32)) (Rs : List Nat) (i : Int32) (v5 v6 : Value) (s7 : Slot) {P : AOut → Prop} (e : ∃ o, P o ∧ Ev (d + 60, g, h, 383, 1700, [.val (.ref 1344), .val (.ref 64), .val (.ref 1088), .val (.ref 1280), .val (.int i), .val v5, .val v6, s7], [], (126, 120, L, Is, Rs, Lg)) o) : ∃ o, P o ∧ Ev (d + 60, g, h, 383, 40, [.val (.ref 1344), .val (.ref 64), .val (.ref 1088), .val (.ref 1280), .val (.int i), .val v5, .val v6, s7], [.int 25], (126, 120, L, Is, Rs, Lg)) o := by
  obtain ⟨o, ho, e⟩ := e
  exact ⟨o, ho, ev_b 1 e (fun n => Eq.refl _)⟩
set_option maxRecDepth 1000000 in
set_option maxHeartbeats 4000000 in
theorem LSW_26 (d g h L : Nat) (Lg : Int64) (Is : List (Nat → Nat → Int32)) (Rs : List Nat) (i : Int32) (v5 v6 : Value) (s7 : Slot) {P : AOut → Prop} (e : ∃ o, P o ∧ Ev (d + 60, g, h, 383, 1713, [.val (.ref 1344), .val (.ref 64), .val (.ref 1088), .val (.ref 1280), .val (.int i), .val v5, .val v6, s7], [], (126, 120, L, Is, Rs, Lg)) o) : ∃ o, P o ∧ Ev (d + 60, g, h, 383, 40, [.val (.ref 1344), .val (.ref 64), .val (.ref 1088), .val (.ref 1280), .val (.int i), .val v5, .val v6, s7], [.int 26], (126, 120, L, Is, Rs, Lg)) o := by
  obtain ⟨o, ho, e⟩ := e
  exact ⟨o, ho, ev_b 1 e (fun n => Eq.refl _)⟩
set_option maxRecDepth 1000000 in
set_option maxHeartbeats 4000000 in
theorem LSW_27 (d g h L : Nat) (Lg : Int64) (Is : List (Nat → Nat → Int32)) (Rs : List Nat) (i : Int32) (v5 v6 : Value) (s7 : Slot) {P : AOut → Prop} (e : ∃ o, P o ∧ Ev (d + 60, g, h, 383, 1726, [.val (.ref 1344), .val (.ref 64), .val (.ref 1088), .val (.ref 1280), .val (.int i), .val v5, .val v6, s7], [], (126, 120, L, Is, Rs, Lg)) o) : ∃ o, P o ∧ Ev (d + 60, g, h, 383, 40, [.val (.ref 1344), .val (.ref 64), .val (.ref 1088), .val (.ref 1280), .val (.int i), .val v5, .val v6, s7], [.int 27], (126, 120, L, Is, Rs, Lg)) o := by
  obtain ⟨o, ho, e⟩ := e
  exact ⟨o, ho, ev_b 1 e (fun n => Eq.refl _)⟩
set_option maxRecDepth 1000000 in
set_option maxHeartbeats 4000000 in
theorem LSW_28 (d g h L : Nat) (Lg : Int64) (Is : List (Nat → Nat → Int32)) (Rs : List Nat) (i : Int32) (v5 v6 : Value) (s7 : Slot) {P : AOut → Prop} (e : ∃ o, P o ∧ Ev (d + 60, g, h, 383, 1781, [.val (.ref 1344), .val (.ref 64), .val (.ref 1088), .val (.ref 1280), .val (.int i), .val v5, .val v6, s7], [], (126, 120, L, Is, Rs, Lg)) o) : ∃ o, P o ∧ Ev (d + 60, g, h, 383, 40, [.val (.ref 1344), .val (.ref 64), .val (.ref 1088), .val (.ref 1280), .val (.int i), .val v5, .val v6, s7], [.int 28], (126, 120, L, Is, Rs, Lg)) o := by
  obtain ⟨o, ho, e⟩ := e
  exact ⟨o, ho, ev_b 1 e (fun n => Eq.refl _)⟩
set_option maxRecDepth 1000000 in
set_option maxHeartbeats 4000000 in
theorem LSW_29 (d g h L : Nat) (Lg : Int64) (Is : List (Nat → Nat → Int32)) (Rs : List Nat) (i : Int32) (v5 v6 : Value) (s7 : Slot) {P : AOut → Prop} (e : ∃ o, P o ∧ Ev (d + 60, g, h, 383, 1794, [.val (.ref 1344), .val (.ref 64), .val (.ref 1088), .val (.ref 1280), .val (.int i), .val v5, .val v6, s7], [], (126, 120, L, Is, Rs, Lg)) o) : ∃ o, P o ∧ Ev (d + 60, g, h, 383, 40, [.val (.ref 1344), .val (.ref 64), .val (.ref 1088), .val (.ref 1280), .val (.int i), .val v5, .val v6, s7], [.int 29], (126, 120, L, Is, Rs, Lg)) o := by
  obtain ⟨o, ho, e⟩ := e
  exact ⟨o, ho, ev_b 1 e (fun n => Eq.refl _)⟩
set_option maxRecDepth 1000000 in
set_option maxHeartbeats 4000000 in
theorem LSW_30 (d g h L : Nat) (Lg : Int64) (Is : List (Nat → Nat → Int32)) (Rs : List Nat) (i : Int32) (v5 v6 : Value) (s7 : Slot) {P : AOut → Prop} (e : ∃ o, P o ∧ Ev (d + 60, g, h, 383, 1850, [.val (.ref 1344), .val (.ref 64), .val (.ref 1088), .val (.ref 1280), .val (.int i), .val v5, .val v6, s7], [], (126, 120, L, Is, Rs, Lg)) o) : ∃ o, P o ∧ Ev (d + 60, g, h, 383, 40, [.val (.ref 1344), .val (.ref 64), .val (.ref 1088), .val (.ref 1280), .val (.int i), .val v5, .val v6, s7], [.int 30], (126, 120, L, Is, Rs, Lg)) o := by
  obtain ⟨o, ho, e⟩ := e
  exact ⟨o, ho, ev_b 1 e (fun n => Eq.refl _)⟩
set_option maxRecDepth 1000000 in
set_option maxHeartbeats 4000000 in
theorem LSW_31 (d g h L : Nat) (Lg : Int64) (Is : List (Nat → Nat → Int32)) (Rs : List Nat) (i : Int32) (v5 v6 : Value) (s7 : Slot) {P : AOut → Prop} (e : ∃ o, P o ∧ Ev (d + 60, g, h, 383, 1863, [.val (.ref 1344), .val (.ref 64), .val (.ref 1088), .val (.ref 1280), .val (.int i), .val v5, .val v6, s7], [], (126, 120, L, Is, Rs, Lg)) o) : ∃ o, P o ∧ Ev (d + 60, g, h, 383, 40, [.val (.ref 1344), .val (.ref 64), .val (.ref 1088), .val (.ref 1280), .val (.int i), .val v5, .val v6, s7], [.int 31], (126, 120, L, Is, Rs, Lg)) o := by
  obtain ⟨o, ho, e⟩ := e
  exact ⟨o, ho, ev_b 1 e (fun n => Eq.refl _)⟩
set_option maxRecDepth 1000000 in
set_option maxHeartbeats 4000000 in
theorem LSW_32 (d g h L : Nat) (Lg : Int64) (Is : List (Nat → Nat → Int32)) (Rs : List Nat) (i : Int32) (v5 v6 : Value) (s7 : Slot) {P : AOut → Prop} (e : ∃ o, P o ∧ Ev (d + 60, g, h, 383, 1931, [.val (.ref 1344), .val (.ref 64), .val (.ref 1088), .val (.ref 1280), .val (.int i), .val v5, .val v6, s7], [], (126, 120, L, Is, Rs, Lg)) o) : ∃ o, P o ∧ Ev (d + 60, g, h, 383, 40, [.val (.ref 1344), .val (.ref 64), .val (.ref 1088), .val (.ref 1280), .val (.int i), .val v5, .val v6, s7], [.int 32], (126, 120, L, Is, Rs, Lg)) o := by
  obtain ⟨o, ho, e⟩ := e
  exact ⟨o, ho, ev_b 1 e (fun n => Eq.refl _)⟩
set_option maxRecDepth 1000000 in
set_option maxHeartbeats 4000000 in
theorem LSW_33 (d g h L : Nat) (Lg : Int64) (Is : List (Nat → Nat → Int32)) (Rs : List Nat) (i : Int32) (v5 v6 : Value) (s7 : Slot) {P : AOut → Prop} (e : ∃ o, P o ∧ Ev (d + 60, g, h, 383, 1944, [.val (.ref 1344), .val (.ref 64), .val (.ref 1088), .val (.ref 1280), .val (.int i), .val v5, .val v6, s7], [], (126, 120, L, Is, Rs, Lg)) o) : ∃ o, P o ∧ Ev (d + 60, g, h, 383, 40, [.val (.ref 1344), .val (.ref 64), .val (.ref 1088), .val (.ref 1280), .val (.int i), .val v5, .val v6, s7], [.int 33], (126, 120, L, Is, Rs, Lg)) o := by
  obtain ⟨o, ho, e⟩ := e
  exact ⟨o, ho, ev_b 1 e (fun n => Eq.refl _)⟩
set_option maxRecDepth 1000000 in
set_option maxHeartbeats 4000000 in
theorem LSW_34 (d g h L : Nat) (Lg : Int64) (Is : List (Nat → Nat → Int32)) (Rs : List Nat) (i : Int32) (v5 v6 : Value) (s7 : Slot) {P : AOut → Prop} (e : ∃ o, P o ∧ Ev (d + 60, g, h, 383, 1957, [.val (.ref 1344), .val (.ref 64), .val (.ref 1088), .val (.ref 1280), .val (.int i), .val v5, .val v6, s7], [], (126, 120, L, Is, Rs, Lg)) o) : ∃ o, P o ∧ Ev (d + 60, g, h, 383, 40, [.val (.ref 1344), .val (.ref 64), .val (.ref 1088), .val (.ref 1280), .val (.int i), .val v5, .val v6, s7], [.int 34], (126, 120, L, Is, Rs, Lg)) o := by
  obtain ⟨o, ho, e⟩ := e
  exact ⟨o, ho, ev_b 1 e (fun n => Eq.refl _)⟩
set_option maxRecDepth 1000000 in
set_option maxHeartbeats 4000000 in
theorem LSW_35 (d g h L : Nat) (Lg : Int64) (Is : List (Nat → Nat → Int32)) (Rs : List Nat) (i : Int32) (v5 v6 : Value) (s7 : Slot) {P : AOut → Prop} (e : ∃ o, P o ∧ Ev (d + 60, g, h, 383, 2025, [.val (.ref 1344), .val (.ref 64), .val (.ref 1088), .val (.ref 1280), .val (.int i), .val v5, .val v6, s7], [], (126, 120, L, Is, Rs, Lg)) o) : ∃ o, P o ∧ Ev (d + 60, g, h, 383, 40, [.val (.ref 1344), .val (.ref 64), .val (.ref 1088), .val (.ref 1280), .val (.int i), .val v5, .val v6, s7], [.int 35], (126, 120, L, Is, Rs, Lg)) o := by
  obtain ⟨o, ho, e⟩ := e
  exact ⟨o, ho, ev_b 1 e (fun n => Eq.refl _)⟩
set_option maxRecDepth 1000000 in
set_option maxHeartbeats 4000000 in
theorem LSW_36 (d g h L : Nat) (Lg : Int64) (Is : List (Nat → Nat → Int32)) (Rs : List Nat) (i : Int32) (v5 v6 : Value) (s7 : Slot) {P : AOut → Prop} (e : ∃ o, P o ∧ Ev (d + 60, g, h, 383, 2038, [.val (.ref 1344), .val (.ref 64), .val (.ref 1088), .val (.ref 1280), .val (.int i), .val v5, .val v6, s7], [], (126, 120, L, Is, Rs, Lg)) o) : ∃ o, P o ∧ Ev (d + 60, g, h, 383, 40, [.val (.ref 1344), .val (.ref 64), .val (.ref 1088), .val (.ref 1280), .val (.int i), .val v5, .val v6, s7], [.int 36], (126, 120, L, Is, Rs, Lg)) o := by
  obtain ⟨o, ho, e⟩ := e
  exact ⟨o, ho, ev_b 1 e (fun n => Eq.refl _)⟩
set_option maxRecDepth 1000000 in
set_option maxHeartbeats 4000000 in
theorem LSW_37 (d g h L : Nat) (Lg : Int64) (Is : List (Nat → Nat → Int32)) (Rs : List Nat) (i : Int32) (v5 v6 : Value) (s7 : Slot) {P : AOut → Prop} (e : ∃ o, P o ∧ Ev (d + 60, g, h, 383, 2094, [.val (.ref 1344), .val (.ref 64), .val (.ref 1088), .val (.ref 1280), .val (.int i), .val v5, .val v6, s7], [], (126, 120, L, Is, Rs, Lg)) o) : ∃ o, P o ∧ Ev (d + 60, g, h, 383, 40, [.val (.ref 1344), .val (.ref 64), .val (.ref 1088), .val (.ref 1280), .val (.int i), .val v5, .val v6, s7], [.int 37], (126, 120, L, Is, Rs, Lg)) o := by
  obtain ⟨o, ho, e⟩ := e
  exact ⟨o, ho, ev_b 1 e (fun n => Eq.refl _)⟩
set_option maxRecDepth 1000000 in
set_option maxHeartbeats 4000000 in
theorem LSW_38 (d g h L : Nat) (Lg : Int64) (Is : List (Nat → Nat → Int32)) (Rs : List Nat) (i : Int32) (v5 v6 : Value) (s7 : Slot) {P : AOut → Prop} (e : ∃ o, P o ∧ Ev (d + 60, g, h, 383, 2162, [.val (.ref 1344), .val (.ref 64), .val (.ref 1088), .val (.ref 1280), .val (.int i), .val v5, .val v6, s7], [], (126, 120, L, Is, Rs, Lg)) o) : ∃ o, P o ∧ Ev (d + 60, g, h, 383, 40, [.val (.ref 1344), .val (.ref 64), .val (.ref 1088), .val (.ref 1280), .val (.int i), .val v5, .val v6, s7], [.int 38], (126, 120, L, Is, Rs, Lg)) o := by
  obtain ⟨o, ho, e⟩ := e
  exact ⟨o, ho, ev_b 1 e (fun n => Eq.refl _)⟩
set_option maxRecDepth 1000000 in
set_option maxHeartbeats 4000000 in
theorem LSW_39 (d g h L : Nat) (Lg : Int64) (Is : List (Nat → Nat → Int32)) (Rs : List Nat) (i : Int32) (v5 v6 : Value) (s7 : Slot) {P : AOut → Prop} (e : ∃ o, P o ∧ Ev (d + 60, g, h, 383, 2218, [.val (.ref 1344), .val (.ref 64), .val (.ref 1088), .val (.ref 1280), .val (.int i), .val v5, .val v6, s7], [], (126, 120, L, Is, Rs, Lg)) o) : ∃ o, P o ∧ Ev (d + 60, g, h, 383, 40, [.val (.ref 1344), .val (.ref 64), .val (.ref 1088), .val (.ref 1280), .val (.int i), .val v5, .val v6, s7], [.int 39], (126, 120, L, Is, Rs, Lg)) o := by
  obtain ⟨o, ho, e⟩ := e
  exact ⟨o, ho, ev_b 1 e (fun n => Eq.refl _)⟩
set_option maxRecDepth 1000000 in
set_option maxHeartbeats 4000000 in
theorem LSW_40 (d g h L : Nat) (Lg : Int64) (Is : List (Nat → Nat → Int32)) (Rs : List Nat) (i : Int32) (v5 v6 : Value) (s7 : Slot) {P : AOut → Prop} (e : ∃ o, P o ∧ Ev (d + 60, g, h, 383, 2293, [.val (.ref 1344), .val (.ref 64), .val (.ref 1088), .val (.ref 1280), .val (.int i), .val v5, .val v6, s7], [], (126, 120, L, Is, Rs, Lg)) o) : ∃ o, P o ∧ Ev (d + 60, g, h, 383, 40, [.val (.ref 1344), .val (.ref 64), .val (.ref 1088), .val (.ref 1280), .val (.int i), .val v5, .val v6, s7], [.int 40], (126, 120, L, Is, Rs, Lg)) o := by
  obtain ⟨o, ho, e⟩ := e
  exact ⟨o, ho, ev_b 1 e (fun n => Eq.refl _)⟩
set_option maxRecDepth 1000000 in
set_option maxHeartbeats 4000000 in
theorem LSW_41 (d g h L : Nat) (Lg : Int64) (Is : List (Nat → Nat → Int32)) (Rs : List Nat) (i : Int32) (v5 v6 : Value) (s7 : Slot) {P : AOut → Prop} (e : ∃ o, P o ∧ Ev (d + 60, g, h, 383, 2385, [.val (.ref 1344), .val (.ref 64), .val (.ref 1088), .val (.ref 1280), .val (.int i), .val v5, .val v6, s7], [], (126, 120, L, Is, Rs, Lg)) o) : ∃ o, P o ∧ Ev (d + 60, g, h, 383, 40, [.val (.ref 1344), .val (.ref 64), .val (.ref 1088), .val (.ref 1280), .val (.int i), .val v5, .val v6, s7], [.int 41], (126, 120, L, Is, Rs, Lg)) o := by
  obtain ⟨o, ho, e⟩ := e
  exact ⟨o, ho, ev_b 1 e (fun n => Eq.refl _)⟩
set_option maxRecDepth 1000000 in
set_option maxHeartbeats 4000000 in
theorem LSW_42 (d g h L : Nat) (Lg : Int64) (Is : List (Nat → Nat → Int32)) (Rs : List Nat) (i : Int32) (v5 v6 : Value) (s7 : Slot) {P : AOut → Prop} (e : ∃ o, P o ∧ Ev (d + 60, g, h, 383, 2477, [.val (.ref 1344), .val (.ref 64), .val (.ref 1088), .val (.ref 1280), .val (.int i), .val v5, .val v6, s7], [], (126, 120, L, Is, Rs, Lg)) o) : ∃ o, P o ∧ Ev (d + 60, g, h, 383, 40, [.val (.ref 1344), .val (.ref 64), .val (.ref 1088), .val (.ref 1280), .val (.int i), .val v5, .val v6, s7], [.int 42], (126, 120, L, Is, Rs, Lg)) o := by
  obtain ⟨o, ho, e⟩ := e
  exact ⟨o, ho, ev_b 1 e (fun n => Eq.refl _)⟩
set_option maxRecDepth 1000000 in
set_option maxHeartbeats 4000000 in
theorem LSW_43 (d g h L : Nat) (Lg : Int64) (Is : List (Nat → Nat → Int32)) (Rs : List Nat) (i : Int32) (v5 v6 : Value) (s7 : Slot) {P : AOut → Prop} (e : ∃ o, P o ∧ Ev (d + 60, g, h, 383, 2557, [.val (.ref 1344), .val (.ref 64), .val (.ref 1088), .val (.ref 1280), .val (.int i), .val v5, .val v6, s7], [], (126, 120, L, Is, Rs, Lg)) o) : ∃ o, P o ∧ Ev (d + 60, g, h, 383, 40, [.val (.ref 1344), .val (.ref 64), .val (.ref 1088), .val (.ref 1280), .val (.int i), .val v5, .val v6, s7], [.int 43], (126, 120, L, Is, Rs, Lg)) o := by
  obtain ⟨o, ho, e⟩ := e
  exact ⟨o, ho, ev_b 1 e (fun n => Eq.refl _)⟩
set_option maxRecDepth 1000000 in
set_option maxHeartbeats 4000000 in
theorem LSW_44 (d g h L : Nat) (Lg : Int64) (Is : List (Nat → Nat → Int32)) (Rs : List Nat) (i : Int32) (v5 v6 : Value) (s7 : Slot) {P : AOut → Prop} (e : ∃ o, P o ∧ Ev (d + 60, g, h, 383, 2637, [.val (.ref 1344), .val (.ref 64), .val (.ref 1088), .val (.ref 1280), .val (.int i), .val v5, .val v6, s7], [], (126, 120, L, Is, Rs, Lg)) o) : ∃ o, P o ∧ Ev (d + 60, g, h, 383, 40, [.val (.ref 1344), .val (.ref 64), .val (.ref 1088), .val (.ref 1280), .val (.int i), .val v5, .val v6, s7], [.int 44], (126, 120, L, Is, Rs, Lg)) o := by
  obtain ⟨o, ho, e⟩ := e
  exact ⟨o, ho, ev_b 1 e (fun n => Eq.refl _)⟩
set_option maxRecDepth 1000000 in
set_option maxHeartbeats 4000000 in
theorem LSW_45 (d g h L : Nat) (Lg : Int64) (Is : List (Nat → Nat → Int32)) (Rs : List Nat) (i : Int32) (v5 v6 : Value) (s7 : Slot) {P : AOut → Prop} (e : ∃ o, P o ∧ Ev (d + 60, g, h, 383, 2705, [.val (.ref 1344), .val (.ref 64), .val (.ref 1088), .val (.ref 1280), .val (.int i), .val v5, .val v6, s7], [], (126, 120, L, Is, Rs, Lg)) o) : ∃ o, P o ∧ Ev (d + 60, g, h, 383, 40, [.val (.ref 1344), .val (.ref 64), .val (.ref 1088), .val (.ref 1280), .val (.int i), .val v5, .val v6, s7], [.int 45], (126, 120, L, Is, Rs, Lg)) o := by
  obtain ⟨o, ho, e⟩ := e
  exact ⟨o, ho, ev_b 1 e (fun n => Eq.refl _)⟩
set_option maxRecDepth 1000000 in
set_option maxHeartbeats 4000000 in
theorem LSW_46 (d g h L : Nat) (Lg : Int64) (Is : List (Nat → Nat → Int32)) (Rs : List Nat) (i : Int32) (v5 v6 : Value) (s7 : Slot) {P : AOut → Prop} (e : ∃ o, P o ∧ Ev (d + 60, g, h, 383, 2797, [.val (.ref 1344), .val (.ref 64), .val (.ref 1088), .val (.ref 1280), .val (.int i), .val v5, .val v6, s7], [], (126, 120, L, Is, Rs, Lg)) o) : ∃ o, P o ∧ Ev (d + 60, g, h, 383, 40, [.val (.ref 1344), .val (.ref 64), .val (.ref 1088), .val (.ref 1280), .val (.int i), .val v5, .val v6, s7], [.int 46], (126, 120, L, Is, Rs, Lg)) o := by
  obtain ⟨o, ho, e⟩ := e
  exact ⟨o, ho, ev_b 1 e (fun n => Eq.refl _)⟩
set_option maxRecDepth 1000000 in
set_option maxHeartbeats 4000000 in
theorem LSW_47 (d g h L : Nat) (Lg : Int64) (Is : List (Nat → Nat → Int32)) (Rs : List Nat) (i : Int32) (v5 v6 : Value) (s7 : Slot) {P : AOut → Prop} (e : ∃ o, P o ∧ Ev (d + 60, g, h, 383, 2810, [.val (.ref 1344), .val (.ref 64), .val (.ref 1088), .val (.ref 1280), .val (.int i), .val v5, .val v6, s7], [], (126, 120, L, Is, Rs, Lg)) o) : ∃ o, P o ∧ Ev (d + 60, g, h, 383, 40, [.val (.ref 1344), .val (.ref 64), .val (.ref 1088), .val (.ref 1280), .val (.int i), .val v5, .val v6, s7], [.int 47], (126, 120, L, Is, Rs, Lg)) o := by
  obtain ⟨o, ho, e⟩ := e
  exact ⟨o, ho, ev_b 1 e (fun n => Eq.refl _)⟩
set_option maxRecDepth 1000000 in
set_option maxHeartbeats 4000000 in
theorem LSW_48 (d g h L : Nat) (Lg : Int64) (Is : List (Nat → Nat → Int32)) (Rs : List Nat) (i : Int32) (v5 v6 : Value) (s7 : Slot) {P : AOut → Prop} (e : ∃ o, P o ∧ Ev (d + 60, g, h, 383, 2823, [.val (.ref 1344), .val (.ref 64), .val (.ref 1088), .val (.ref 1280), .val (.int i), .val v5, .val v6, s7], [], (126, 120, L, Is, Rs, Lg)) o) : ∃ o, P o ∧ Ev (d + 60, g, h, 383, 40, [.val (.ref 1344), .val (.ref 64), .val (.ref 1088), .val (.ref 1280), .val (.int i), .val v5, .val v6, s7], [.int 48], (126, 120, L, Is, Rs, Lg)) o := by
  obtain ⟨o, ho, e⟩ := e
  exact ⟨o, ho, ev_b 1 e (fun n => Eq.refl _)⟩
set_option maxRecDepth 1000000 in
set_option maxHeartbeats 4000000 in
theorem LSW_49 (d g h L : Nat) (Lg : Int64) (Is : List (Nat → Nat → Int32)) (Rs : List Nat) (i : Int32) (v5 v6 : Value) (s7 : Slot) {P : AOut → Prop} (e : ∃ o, P o ∧ Ev (d + 60, g, h, 383, 2848, [.val (.ref 1344), .val (.ref 64), .val (.ref 1088), .val (.ref 1280), .val (.int i), .val v5, .val v6, s7], [], (126, 120, L, Is, Rs, Lg)) o) : ∃ o, P o ∧ Ev (d + 60, g, h, 383, 40, [.val (.ref 1344), .val (.ref 64), .val (.ref 1088), .val (.ref 1280), .val (.int i), .val v5, .val v6, s7], [.int 49], (126, 120, L, Is, Rs, Lg)) o := by
  obtain ⟨o, ho, e⟩ := e
  exact ⟨o, ho, ev_b 1 e (fun n => Eq.refl _)⟩
set_option maxRecDepth 1000000 in
set_option maxHeartbeats 4000000 in
theorem LSW_50 (d g h L : Nat) (Lg : Int64) (Is : List (Nat → Nat → Int32)) (Rs : List Nat) (i : Int32) (v5 v6 : Value) (s7 : Slot) {P : AOut → Prop} (e : ∃ o, P o ∧ Ev (d + 60, g, h, 383, 2873, [.val (.ref 1344), .val (.ref 64), .val (.ref 1088), .val (.ref 1280), .val (.int i), .val v5, .val v6, s7], [], (126, 120, L, Is, Rs, Lg)) o) : ∃ o, P o ∧ Ev (d + 60, g, h, 383, 40, [.val (.ref 1344), .val (.ref 64), .val (.ref 1088), .val (.ref 1280), .val (.int i), .val v5, .val v6, s7], [.int 50], (126, 120, L, Is, Rs, Lg)) o := by
  obtain ⟨o, ho, e⟩ := e
  exact ⟨o, ho, ev_b 1 e (fun n => Eq.refl _)⟩
set_option maxRecDepth 1000000 in
set_option maxHeartbeats 4000000 in
theorem LSW_51 (d g h L : Nat) (Lg : Int64) (Is : List (Nat → Nat → Int32)) (Rs : List Nat) (i : Int32) (v5 v6 : Value) (s7 : Slot) {P : AOut → Prop} (e : ∃ o, P o ∧ Ev (d + 60, g, h, 383, 2873, [.val (.ref 1344), .val (.ref 64), .val (.ref 1088), .val (.ref 1280), .val (.int i), .val v5, .val v6, s7], [], (126, 120, L, Is, Rs, Lg)) o) : ∃ o, P o ∧ Ev (d + 60, g, h, 383, 40, [.val (.ref 1344), .val (.ref 64), .val (.ref 1088), .val (.ref 1280), .val (.int i), .val v5, .val v6, s7], [.int 51], (126, 120, L, Is, Rs, Lg)) o := by
  obtain ⟨o, ho, e⟩ := e
  exact ⟨o, ho, ev_b 1 e (fun n => Eq.refl _)⟩
set_option maxRecDepth 1000000 in
set_option maxHeartbeats 4000000 in
theorem LSW_52 (d g h L : Nat) (Lg : Int64) (Is : List (Nat → Nat → Int32)) (Rs : List Nat) (i : Int32) (v5 v6 : Value) (s7 : Slot) {P : AOut → Prop} (e : ∃ o, P o ∧ Ev (d + 60, g, h, 383, 2873, [.val (.ref 1344), .val (.ref 64), .val (.ref 1088), .val (.ref 1280), .val (.int i), .val v5, .val v6, s7], [], (126, 120, L, Is, Rs, Lg)) o) : ∃ o, P o ∧ Ev (d + 60, g, h, 383, 40, [.val (.ref 1344), .val (.ref 64), .val (.ref 1088), .val (.ref 1280), .val (.int i), .val v5, .val v6, s7], [.int 52], (126, 120, L, Is, Rs, Lg)) o := by
  obtain ⟨o, ho, e⟩ := e
  exact ⟨o, ho, ev_b 1 e (fun n => Eq.refl _)⟩
set_option maxRecDepth 1000000 in
set_option maxHeartbeats 4000000 in
theorem LSW_53 (d g h L : Nat) (Lg : Int64) (Is : List (Nat → Nat → Int32)) (Rs : List Nat) (i : Int32) (v5 v6 : Value) (s7 : Slot) {P : AOut → Prop} (e : ∃ o, P o ∧ Ev (d + 60, g, h, 383, 2873, [.val (.ref 1344), .val (.ref 64), .val (.ref 1088), .val (.ref 1280), .val (.int i), .val v5, .val v6, s7], [], (126, 120, L, Is, Rs, Lg)) o) : ∃ o, P o ∧ Ev (d + 60, g, h, 383, 40, [.val (.ref 1344), .val (.ref 64), .val (.ref 1088), .val (.ref 1280), .val (.int i), .val v5, .val v6, s7], [.int 53], (126, 120, L, Is, Rs, Lg)) o := by
  obtain ⟨o, ho, e⟩ := e
  exact ⟨o, ho, ev_b 1 e (fun n => Eq.refl _)⟩
set_option maxRecDepth 1000000 in
set_option maxHeartbeats 4000000 in
theorem LSW_54 (d g h L : Nat) (Lg : Int64) (Is : List (Nat → Nat → Int32)) (Rs : List Nat) (i : Int32) (v5 v6 : Value) (s7 : Slot) {P : AOut → Prop} (e : ∃ o, P o ∧ Ev (d + 60, g, h, 383, 2873, [.val (.ref 1344), .val (.ref 64), .val (.ref 1088), .val (.ref 1280), .val (.int i), .val v5, .val v6, s7], [], (126, 120, L, Is, Rs, Lg)) o) : ∃ o, P o ∧ Ev (d + 60, g, h, 383, 40, [.val (.ref 1344), .val (.ref 64), .val (.ref 1088), .val (.ref 1280), .val (.int i), .val v5, .val v6, s7], [.int 54], (126, 120, L, Is, Rs, Lg)) o := by
  obtain ⟨o, ho, e⟩ := e
  exact ⟨o, ho, ev_b 1 e (fun n => Eq.refl _)⟩
set_option maxRecDepth 1000000 in
set_option maxHeartbeats 4000000 in
theorem LSW_55 (d g h L : Nat) (Lg : Int64) (Is : List (Nat → Nat → Int32)) (Rs : List Nat) (i : Int32) (v5 v6 : Value) (s7 : Slot) {P : AOut → Prop} (e : ∃ o, P o ∧ Ev (d + 60, g, h, 383, 2873, [.val (.ref 1344), .val (.ref 64), .val (.ref 1088), .val (.ref 1280), .val (.int i), .val v5, .val v6, s7], [], (126, 120, L, Is, Rs, Lg)) o) : ∃ o, P o ∧ Ev (d + 60, g, h, 383, 40, [.val (.ref 1344), .val (.ref 64), .val (.ref 1088), .val (.ref 1280), .val (.int i), .val v5, .val v6, s7], [.int 55], (126, 120, L, Is, Rs, Lg)) o := by
  obtain ⟨o, ho, e⟩ := e
  exact ⟨o, ho, ev_b 1 e (fun n => Eq.refl _)⟩
set_option maxRecDepth 1000000 in
set_option maxHeartbeats 4000000 in
theorem LSW_56 (d g h L : Nat) (Lg : Int64) (Is : List (Nat → Nat → Int32)) (Rs : List Nat) (i : Int32) (v5 v6 : Value) (s7 : Slot) {P : AOut → Prop} (e : ∃ o, P o ∧ Ev (d + 60, g, h, 383, 2873, [.val (.ref 1344), .val (.ref 64), .val (.ref 1088), .val (.ref 1280), .val (.int i), .val v5, .val v6, s7], [], (126, 120, L, Is, Rs, Lg)) o) : ∃ o, P o ∧ Ev (d + 60, g, h, 383, 40, [.val (.ref 1344), .val (.ref 64), .val (.ref 1088), .val (.ref 1280), .val (.int i), .val v5, .val v6, s7], [.int 56], (126, 120, L, Is, Rs, Lg)) o := by
  obtain ⟨o, ho, e⟩ := e
  exact ⟨o, ho, ev_b 1 e (fun n => Eq.refl _)⟩
set_option maxRecDepth 1000000 in
set_option maxHeartbeats 4000000 in
theorem LSW_57 (d g h L : Nat) (Lg : Int64) (Is : List (Nat → Nat → Int32)) (Rs : List Nat) (i : Int32) (v5 v6 : Value) (s7 : Slot) {P : AOut → Prop} (e : ∃ o, P o ∧ Ev (d + 60, g, h, 383, 2873, [.val (.ref 1344), .val (.ref 64), .val (.ref 1088), .val (.ref 1280), .val (.int i), .val v5, .val v6, s7], [], (126, 120, L, Is, Rs, Lg)) o) : ∃ o, P o ∧ Ev (d + 60, g, h, 383, 40, [.val (.ref 1344), .val (.ref 64), .val (.ref 1088), .val (.ref 1280), .val (.int i), .val v5, .val v6, s7], [.int 57], (126, 120, L, Is, Rs, Lg)) o := by
  obtain ⟨o, ho, e⟩ := e
  exact ⟨o, ho, ev_b 1 e (fun n => Eq.refl _)⟩
set_option maxRecDepth 1000000 in
set_option maxHeartbeats 4000000 in
theorem LSW_58 (d g h L : Nat) (Lg : Int64) (Is : List (Nat → Nat → Int32)) (Rs : List Nat) (i : Int32) (v5 v6 : Value) (s7 : Slot) {P : AOut → Prop} (e : ∃ o, P o ∧ Ev (d + 60, g, h, 383, 2873, [.val (.ref 1344), .val (.ref 64), .val (.ref 1088), .val (.ref 1280), .val (.int i), .val v5, .val v6, s7], [], (126, 120, L, Is, Rs, Lg)) o) : ∃ o, P o ∧ Ev (d + 60, g, h, 383, 40, [.val (.ref 1344), .val (.ref 64), .val (.ref 1088), .val (.ref 1280), .val (.int i), .val v5, .val v6, s7], [.int 58], (126, 120, L, Is, Rs, Lg)) o := by
  obtain ⟨o, ho, e⟩ := e
  exact ⟨o, ho, ev_b 1 e (fun n => Eq.refl _)⟩
set_option maxRecDepth 1000000 in
set_option maxHeartbeats 4000000 in
theorem LSW_59 (d g h L : Nat) (Lg : Int64) (Is : List (Nat → Nat → Int32)) (Rs : List Nat) (i : Int32) (v5 v6 : Value) (s7 : Slot) {P : AOut → Prop} (e : ∃ o, P o ∧ Ev (d + 60, g, h, 383, 2873, [.val (.ref 1344), .val (.ref 64), .val (.ref 1088), .val (.ref 1280), .val (.int i), .val v5, .val v6, s7], [], (126, 120, L, Is, Rs, Lg)) o) : ∃ o, P o ∧ Ev (d + 60, g, h, 383, 40, [.val (.ref 1344), .val (.ref 64), .val (.ref 1088), .val (.ref 1280), .val (.int i), .val v5, .val v6, s7], [.int 59], (126, 120, L, Is, Rs, Lg)) o := by
  obtain ⟨o, ho, e⟩ := e
  exact ⟨o, ho, ev_b 1 e (fun n => Eq.refl _)⟩
set_option maxRecDepth 1000000 in
set_option maxHeartbeats 4000000 in
theorem LSW_60 (d g h L : Nat) (Lg : Int64) (Is : List (Nat → Nat → Int32)) (Rs : List Nat) (i : Int32) (v5 v6 : Value) (s7 : Slot) {P : AOut → Prop} (e : ∃ o, P o ∧ Ev (d + 60, g, h, 383, 2873, [.val (.ref 1344), .val (.ref 64), .val (.ref 1088), .val (.ref 1280), .val (.int i), .val v5, .val v6, s7], [], (126, 120, L, Is, Rs, Lg)) o) : ∃ o, P o ∧ Ev (d + 60, g, h, 383, 40, [.val (.ref 1344), .val (.ref 64), .val (.ref 1088), .val (.ref 1280), .val (.int i), .val v5, .val v6, s7], [.int 60], (126, 120, L, Is, Rs, Lg)) o := by
  obtain ⟨o, ho, e⟩ := e
  exact ⟨o, ho, ev_b 1 e (fun n => Eq.refl _)⟩
set_option maxRecDepth 1000000 in
set_option maxHeartbeats 4000000 in
theorem LSW_61 (d g h L : Nat) (Lg : Int64) (Is : List (Nat → Nat → Int32)) (Rs : List Nat) (i : Int32) (v5 v6 : Value) (s7 : Slot) {P : AOut → Prop} (e : ∃ o, P o ∧ Ev (d + 60, g, h, 383, 2873, [.val (.ref 1344), .val (.ref 64), .val (.ref 1088), .val (.ref 1280), .val (.int i), .val v5, .val v6, s7], [], (126, 120, L, Is, Rs, Lg)) o) : ∃ o, P o ∧ Ev (d + 60, g, h, 383, 40, [.val (.ref 1344), .val (.ref 64), .val (.ref 1088), .val (.ref 1280), .val (.int i), .val v5, .val v6, s7], [.int 61], (126, 120, L, Is, Rs, Lg)) o := by
  obtain ⟨o, ho, e⟩ := e
  exact ⟨o, ho, ev_b 1 e (fun n => Eq.refl _)⟩
set_option maxRecDepth 1000000 in
set_option maxHeartbeats 4000000 in
theorem LSW_62 (d g h L : Nat) (Lg : Int64) (Is : List (Nat → Nat → Int32)) (Rs : List Nat) (i : Int32) (v5 v6 : Value) (s7 : Slot) {P : AOut → Prop} (e : ∃ o, P o ∧ Ev (d + 60, g, h, 383, 2873, [.val (.ref 1344), .val (.ref 64), .val (.ref 1088), .val (.ref 1280), .val (.int i), .val v5, .val v6, s7], [], (126, 120, L, Is, Rs, Lg)) o) : ∃ o, P o ∧ Ev (d + 60, g, h, 383, 40, [.val (.ref 1344), .val (.ref 64), .val (.ref 1088), .val (.ref 1280), .val (.int i), .val v5, .val v6, s7], [.int 62], (126, 120, L, Is, Rs, Lg)) o := by
  obtain ⟨o, ho, e⟩ := e
  exact ⟨o, ho, ev_b 1 e (fun n => Eq.refl _)⟩
set_option maxRecDepth 1000000 in
set_option maxHeartbeats 4000000 in
theorem LSW_63 (d g h L : Nat) (Lg : Int64) (Is : List (Nat → Nat → Int32)) (Rs : List Nat) (i : Int32) (v5 v6 : Value) (s7 : Slot) {P : AOut → Prop} (e : ∃ o, P o ∧ Ev (d + 60, g, h, 383, 2873, [.val (.ref 1344), .val (.ref 64), .val (.ref 1088), .val (.ref 1280), .val (.int i), .val v5, .val v6, s7], [], (126, 120, L, Is, Rs, Lg)) o) : ∃ o, P o ∧ Ev (d + 60, g, h, 383, 40, [.val (.ref 1344), .val (.ref 64), .val (.ref 1088), .val (.ref 1280), .val (.int i), .val v5, .val v6, s7], [.int 63], (126, 120, L, Is, Rs, Lg)) o := by
  obtain ⟨o, ho, e⟩ := e
  exact ⟨o, ho, ev_b 1 e (fun n => Eq.refl _)⟩
