/-! PURE MATH: the tape: runs of bytes, words -/
/-- from a on, as long as it is so, so many at most -/
def s_run (P : Nat → Prop) [DecidablePred P] : Nat → Nat → Nat
  | 0, a => a
  | t + 1, a => if P a then s_run P t (a + 1) else a
theorem run_is (P : Nat → Prop) [DecidablePred P] : ∀ t a, a ≤ s_run P t a ∧ s_run P t a ≤ a + t ∧ (∀ i, a ≤ i → i < s_run P t a → P i) ∧ (s_run P t a < a + t → ¬ P (s_run P t a)) := by
  intro t
  induction t with
  | zero => intro a; exact ⟨Nat.le_refl _, Nat.le_refl _, fun i h1 h2 => absurd h2 (by show ¬ i < a; omega), fun h => absurd h (by show ¬ a < a + 0; omega)⟩
  | succ t ih =>
    intro a
    unfold s_run
    by_cases h : P a
    · rw [if_pos h]
      obtain ⟨h1, h2, h3, h4⟩ := ih (a + 1)
      refine ⟨by omega, by omega, fun i h5 h6 => ?_, fun h5 => h4 (by omega)⟩
      by_cases hi : i = a
      · rw [hi]; exact h
      · exact h3 i (by omega) h6
    · rw [if_neg h]
      exact ⟨Nat.le_refl _, by omega, fun i h1 h2 => by omega, fun _ => h⟩
theorem run_eq {P : Nat → Prop} [DecidablePred P] {t a k : Nat} (h1 : a ≤ k) (h2 : k ≤ a + t) (h3 : ∀ i, a ≤ i → i < k → P i) (h4 : k < a + t → ¬ P k) : s_run P t a = k := by
  obtain ⟨r1, r2, r3, r4⟩ := run_is P t a
  by_cases hc : s_run P t a < k
  · exact absurd (h3 _ r1 hc) (r4 (by omega))
  · by_cases hd : k < s_run P t a
    · exact absurd (r3 k h1 hd) (h4 (by omega))
    · omega
theorem run_stop {P : Nat → Prop} [DecidablePred P] {t a : Nat} (h : ¬ P a) : s_run P t a = a := run_eq (Nat.le_refl _) (by omega) (fun i h1 h2 => by omega) (fun _ => h)
theorem loop_run {σ β : Type} {body : σ → Option (σ ⊕ β)} (n : Nat) (P : Nat → Prop) [DecidablePred P] (S : Nat → σ) (g : Nat → β) (a : Nat) (ha : a ≤ n) (hn : n < 1000000)
    (h1 : ∀ i, a ≤ i → i < n → P i → body (S i) = some (.inl (S (i + 1)))) (h2 : ∀ i, a ≤ i → i < n → ¬ P i → body (S i) = some (.inr (g i))) (h3 : body (S n) = some (.inr (g n))) : loopN body a_F (S a) = some (g (s_run P (n - a) a)) := by
  have key : ∀ t i m, i + t = n → a ≤ i → t < m → loopN body m (S i) = some (g (s_run P t i)) := by
    intro t
    induction t with
    | zero =>
      intro i m hi hai hm
      obtain ⟨m, rfl⟩ : ∃ k, m = k + 1 := ⟨m - 1, by omega⟩
      have hi : i = n := by omega
      subst hi
      exact loop_r h3
    | succ t ih =>
      intro i m hi hai hm
      obtain ⟨m, rfl⟩ : ∃ k, m = k + 1 := ⟨m - 1, by omega⟩
      by_cases hp : P i
      · rw [loop_l (h1 i hai (by omega) hp), ih (i + 1) m (by omega) (by omega) (by omega)]
        conv => rhs; unfold s_run
        rw [if_pos hp]
      · rw [loop_r (h2 i hai (by omega) hp)]
        conv => rhs; unfold s_run
        rw [if_neg hp]
  exact key (n - a) a a_F (by omega) (Nat.le_refl _) (by unfold a_F; omega)
theorem u2_u2 (A : Nat → Nat → Int32) (k i : Nat) (v w : Int32) : u2 (u2 A k i v) k i w = u2 A k i w := by
  funext a b
  rw [u2_eq, u2_eq, u2_eq]
  by_cases h : a = k ∧ b = i
  · rw [if_pos h, if_pos h]
  · rw [if_neg h, if_neg h, if_neg h]
theorem u2_id {A : Nat → Nat → Int32} {k i : Nat} {v : Int32} (h : A k i = v) : u2 A k i v = A := by
  funext a b
  rw [u2_eq]
  by_cases hc : a = k ∧ b = i
  · rw [if_pos hc, hc.1, hc.2, h]
  · rw [if_neg hc]
abbrev q_sp (b : Nat → Nat) (i : Nat) : Prop := b i = 32
abbrev q_dg (b : Nat → Nat) (i : Nat) : Prop := 48 ≤ b i ∧ b i ≤ 57
abbrev q_lt (b : Nat → Nat) (i : Nat) : Prop := 97 ≤ b i ∧ b i ≤ 122
def k_sp (b : Nat → Nat) (n a : Nat) : Nat := s_run (q_sp b) (n - a) a
def k_dg (b : Nat → Nat) (n a : Nat) : Nat := s_run (q_dg b) (n - a) a
def k_lt (b : Nat → Nat) (n a : Nat) : Nat := s_run (q_lt b) (n - a) a
theorem k_le {P : Nat → Prop} [DecidablePred P] {n a : Nat} (h : a ≤ n) : a ≤ s_run P (n - a) a ∧ s_run P (n - a) a ≤ n := by
  obtain ⟨h1, h2, _⟩ := run_is P (n - a) a
  exact ⟨h1, by omega⟩
theorem sp_le {b : Nat → Nat} {n a : Nat} (h : a ≤ n) : a ≤ k_sp b n a ∧ k_sp b n a ≤ n := k_le h
theorem dg_le {b : Nat → Nat} {n a : Nat} (h : a ≤ n) : a ≤ k_dg b n a ∧ k_dg b n a ≤ n := k_le h
theorem lt_le {b : Nat → Nat} {n a : Nat} (h : a ≤ n) : a ≤ k_lt b n a ∧ k_lt b n a ≤ n := k_le h
theorem sp_sp {b : Nat → Nat} {n a : Nat} (h : a ≤ n) : k_sp b n (k_sp b n a) = k_sp b n a := by
  obtain ⟨r1, r2, r3, r4⟩ := run_is (q_sp b) (n - a) a
  unfold k_sp
  refine run_eq (Nat.le_refl _) (by omega) (fun i h1 h2 => by omega) (fun h5 => r4 (by omega))
theorem sp_ne {b : Nat → Nat} {n a : Nat} (h : a ≤ n) (hs : k_sp b n a < n) : b (k_sp b n a) ≠ 32 := by
  obtain ⟨r1, r2, r3, r4⟩ := run_is (q_sp b) (n - a) a
  exact r4 (by unfold k_sp at hs; omega)
/-- the bytes of a text stand in a row -/
def BY (b : Nat → Nat) (n : Nat) (A : Nat → Int32) : Prop := ∀ i, i < n → A i = nI (b i)
/-- the texts of the words -/
def txs : List (List Nat) := [[104, 111, 117, 114, 115], [114, 111, 111, 109], [112, 101, 114, 115, 111, 110], [98, 117, 115, 121], [109, 101, 101, 116], [119, 104, 111], [109, 97, 121], [102, 105, 120, 101, 100], [109, 111, 118, 101, 100], [104, 111, 108, 100], [111, 114], [97, 110, 100], [110, 111, 116], [99, 111, 115, 116], [116, 105, 109, 101, 115], [115, 105, 122, 101], [110, 117, 109, 98, 101, 114], [109, 121, 99, 111, 115, 116], [109, 121, 116, 105, 109, 101, 115], [109, 121, 115, 105, 122, 101], [109, 121, 110, 117, 109, 98, 101, 114], [104, 111, 117, 114], [115, 116, 101, 112]]
def tx (j : Nat) : List Nat := txs.getD j []
theorem tx_ok : ∀ j, j < 23 → a_ra 2752 j = 2560 + j ∧ isW (2560 + j) ∧ isS (w_txt (2560 + j)) ∧ a_sz (w_txt (2560 + j) + 64) = (tx j).length ∧ 1 ≤ (tx j).length ∧ (tx j).length ≤ 8 := by decide +kernel
theorem tx_ch : ∀ j, j < 23 → ∀ i, i < (tx j).length → a_ca (w_txt (2560 + j) + 64) i = nI ((tx j).getD i 0) ∧ 97 ≤ (tx j).getD i 0 ∧ (tx j).getD i 0 ≤ 122 := by decide +kernel
theorem tx_inj : ∀ j, j < 23 → ∀ k, k < 23 → tx j = tx k → j = k := by decide +kernel
/-- the bytes from s to e are the word j -/
def WM (b : Nat → Nat) (s e j : Nat) : Prop := e = s + (tx j).length ∧ ∀ i, i < (tx j).length → b (s + i) = (tx j).getD i 0
theorem WM.uniq {b : Nat → Nat} {s e j k : Nat} (hj : j < 23) (hk : k < 23) (h1 : WM b s e j) (h2 : WM b s e k) : j = k := by
  refine tx_inj j hj k hk ?_
  have hl : (tx j).length = (tx k).length := by have := h1.1; have := h2.1; omega
  apply List.ext_getElem hl
  intro i hi hi2
  have e1 := h1.2 i hi
  have e2 := h2.2 i hi2
  have g1 : (tx j).getD i 0 = (tx j)[i] := by simp [List.getD, List.getElem?_eq_getElem hi]
  have g2 : (tx k).getD i 0 = (tx k)[i] := by simp [List.getD, List.getElem?_eq_getElem hi2]
  rw [← g1, ← g2, ← e1, ← e2]
/-- the word that stands from s to e, by its number, or none -/
def WS (b : Nat → Nat) (s e w : Nat) : Prop := (∃ j, j < 23 ∧ w = 2560 + j ∧ WM b s e j) ∨ (w = 0 ∧ ∀ j, j < 23 → ¬ WM b s e j)
theorem WS_none (b : Nat → Nat) (s : Nat) : WS b s s 0 := Or.inr ⟨rfl, fun j hj h => by have := (tx_ok j hj).2.2.2.2.1; have := h.1; omega⟩
theorem s_len_tx {j : Nat} (hj : j < 23) : s_len (w_txt (2560 + j)) = nI (tx j).length := by
  unfold s_len
  rw [(tx_ok j hj).2.2.2.1]
  rfl
theorem s_at_tx {j i : Nat} (hj : j < 23) (hi : i < (tx j).length) : s_at (w_txt (2560 + j)) (nI i) = some (nI ((tx j).getD i 0)) := by
  have h8 := (tx_ok j hj).2.2.2.2.2
  unfold s_at
  rw [(tx_ok j hj).2.2.2.1, rdx_nI hi (by omega), (tx_ch j hj i hi).1]
/-- the class: the word that was scanned -/
theorem Y_findWord {b : Nat → Nat} {T : Nat → Nat → Int32} {s e n : Nat} (hb : ∀ i, b i < 256) (h1 : BY b n (T 1)) (hs : s ≤ e) (he : e ≤ n) (hn : n ≤ 600) (h4 : T 0 4 = nI s) (h5 : T 0 5 = nI e) : ∃ w, f_Tape_findWord T = some w ∧ WS b s e w := by
  have inner : ∀ j, j < 23 → ∃ k, loopN (fun q => f_Tape_findWord_l29 T j q) a_F 0 = some (nI k) ∧ k ≤ (tx j).length ∧ (k = (tx j).length ∧ s + k = e ↔ WM b s e j) ∧ k ≤ 8 := fun j hj => by
    obtain ⟨t1, t2, t3, t4, t5, t6⟩ := tx_ok j hj
    have hl := s_len_tx hj
    have e0 := loop_run (body := fun q => f_Tape_findWord_l29 T j q) (tx j).length (fun i => s + i < e ∧ b (s + i) = (tx j).getD i 0) (fun i => nI i) (fun i => nI i) 0 (Nat.zero_le _) (by omega)
      (fun i _ hi hp => by
        show f_Tape_findWord_l29 T j (nI i) = _
        unfold f_Tape_findWord_l29
        rw [t1, if_pos t3, hl, if_neg (nI_ge hi (by omega)), h4, h5, nI_add, if_neg (nI_ge hp.1 (by omega)), if_pos t3, s_at_tx hj hi, obs, rdx_nI (by omega) (by omega), h1 (s + i) (by omega), obs, if_neg (fun h => h (by rw [hp.2])), ← nI_succ])
      (fun i _ hi hp => by
        show f_Tape_findWord_l29 T j (nI i) = _
        unfold f_Tape_findWord_l29
        rw [t1, if_pos t3, hl, if_neg (nI_ge hi (by omega)), h4, h5, nI_add]
        by_cases hc : s + i < e
        · have hbx := hb (s + i)
          have htx := (tx_ch j hj i hi).2
          rw [if_neg (nI_ge hc (by omega)), if_pos t3, s_at_tx hj hi, obs, rdx_nI (by omega) (by omega), h1 (s + i) (by omega), obs, if_pos (fun h => hp ⟨hc, ((na_eq (by omega) (by omega)).mp h).symm⟩)]
        · rw [if_pos (nI_le (by omega) (by omega))])
      (by
        show f_Tape_findWord_l29 T j (nI (tx j).length) = _
        unfold f_Tape_findWord_l29
        rw [t1, if_pos t3, hl, if_pos (nI_le (Nat.le_refl _) (by omega))])
    obtain ⟨r1, r2, r3, r4⟩ := run_is (fun i => s + i < e ∧ b (s + i) = (tx j).getD i 0) ((tx j).length - 0) 0
    refine ⟨_, e0, by omega, ⟨fun h => ⟨by omega, fun i hi => (r3 i (Nat.zero_le _) (by omega)).2⟩, fun h => ?_⟩, by omega⟩
    have hk : s_run (fun i => s + i < e ∧ b (s + i) = (tx j).getD i 0) ((tx j).length - 0) 0 = (tx j).length := run_eq (Nat.zero_le _) (by omega) (fun i _ hi => ⟨by have := h.1; omega, h.2 i hi⟩) (fun h => by omega)
    exact ⟨hk, by rw [hk]; exact h.1.symm⟩
  have body : ∀ j, j < 23 → (WM b s e j → f_Tape_findWord_l9 T (nI j) = some (.inr (.inr (2560 + j)))) ∧ (¬ WM b s e j → f_Tape_findWord_l9 T (nI j) = some (.inl (nI j + 1))) := fun j hj => by
    obtain ⟨t1, t2, t3, t4, t5, t6⟩ := tx_ok j hj
    have hl := s_len_tx hj
    obtain ⟨k, k1, k2, k3, k4⟩ := inner j hj
    have e1 : (nI k = nI (tx j).length) = (k = (tx j).length) := nI_eqP (by omega) (by omega)
    have e2 : (nI (s + k) = nI e) = (s + k = e) := nI_eqP (by omega) (by omega)
    unfold f_Tape_findWord_l9
    rw [if_neg (show ¬ Int32.ofNat 23 ≤ nI j from nI_ge hj (by omega)), ixx_nI hj (by omega), obs, t1, if_pos t2, k1, obs, if_pos t3, hl, h4, h5, nI_add]
    simp only [ne_eq, e1, e2]
    constructor
    · intro h
      obtain ⟨g1, g2⟩ := k3.mpr h
      rw [if_neg (fun h => h g1), if_neg (fun h => h g2)]
    · intro h
      by_cases g1 : k = (tx j).length
      · rw [if_neg (fun h => h g1), if_pos (fun g2 => h (k3.mp ⟨g1, g2⟩))]
      · rw [if_pos g1]
  unfold f_Tape_findWord
  by_cases hw : ∃ j, j < 23 ∧ WM b s e j
  · obtain ⟨j, hj, hm⟩ := hw
    have e0 : loopN (fun q => f_Tape_findWord_l9 T q) a_F 0 = some (.inr (2560 + j)) := by
      have key : ∀ t i m, i + t = j → t < m → loopN (fun q => f_Tape_findWord_l9 T q) m (nI i) = some (.inr (2560 + j)) := by
        intro t
        induction t with
        | zero =>
          intro i m hi hm'
          obtain ⟨m, rfl⟩ : ∃ k, m = k + 1 := ⟨m - 1, by omega⟩
          have hi : i = j := by omega
          subst hi
          exact loop_r ((body i hj).1 hm)
        | succ t ih =>
          intro i m hi hm'
          obtain ⟨m, rfl⟩ : ∃ k, m = k + 1 := ⟨m - 1, by omega⟩
          rw [loop_l ((body i (by omega)).2 (fun h => by have := WM.uniq (by omega) hj h hm; omega)), ← nI_succ]
          exact ih (i + 1) m (by omega) (by omega)
      exact key j 0 a_F (by omega) (by unfold a_F; omega)
    rw [e0, obs, se_r]
    exact ⟨_, rfl, Or.inl ⟨j, hj, rfl, hm⟩⟩
  · have e0 : loopN (fun q => f_Tape_findWord_l9 T q) a_F 0 = some (.inl ()) := by
      have key : ∀ t i m, i + t = 23 → t < m → loopN (fun q => f_Tape_findWord_l9 T q) m (nI i) = some (.inl ()) := by
        intro t
        induction t with
        | zero =>
          intro i m hi hm'
          obtain ⟨m, rfl⟩ : ∃ k, m = k + 1 := ⟨m - 1, by omega⟩
          have hi : i = 23 := by omega
          subst hi
          refine loop_r ?_
          show f_Tape_findWord_l9 T (nI 23) = _
          unfold f_Tape_findWord_l9
          rw [if_pos (by decide)]
        | succ t ih =>
          intro i m hi hm'
          obtain ⟨m, rfl⟩ : ∃ k, m = k + 1 := ⟨m - 1, by omega⟩
          rw [loop_l ((body i (by omega)).2 (fun h => hw ⟨i, by omega, h⟩)), ← nI_succ]
          exact ih (i + 1) m (by omega) (by omega)
      exact key 23 0 a_F (by omega) (by unfold a_F; omega)
    rw [e0, obs, se_l]
    exact ⟨0, rfl, Or.inr ⟨rfl, fun j hj h => hw ⟨j, hj, h⟩⟩⟩
