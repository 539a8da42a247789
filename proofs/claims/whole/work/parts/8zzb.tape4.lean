/-! PURE MATH: the tape: the reference reads; the two, side by side -/
/-- the same; all that were passed are known -/
theorem loop_run2 {σ β : Type} {body : σ → Option (σ ⊕ β)} (n : Nat) (P : Nat → Prop) [DecidablePred P] (S : Nat → σ) (g : Nat → β) (a : Nat) (ha : a ≤ n) (hn : n < 1000000)
    (h1 : ∀ i, a ≤ i → i < n → (∀ j, a ≤ j → j < i → P j) → P i → body (S i) = some (.inl (S (i + 1)))) (h2 : ∀ i, a ≤ i → i < n → (∀ j, a ≤ j → j < i → P j) → ¬ P i → body (S i) = some (.inr (g i))) (h3 : body (S n) = some (.inr (g n))) : loopN body a_F (S a) = some (g (s_run P (n - a) a)) := by
  have key : ∀ t i m, i + t = n → a ≤ i → (∀ j, a ≤ j → j < i → P j) → t < m → loopN body m (S i) = some (g (s_run P t i)) := by
    intro t
    induction t with
    | zero =>
      intro i m hi hai hj hm
      obtain ⟨m, rfl⟩ : ∃ k, m = k + 1 := ⟨m - 1, by omega⟩
      have hi : i = n := by omega
      subst hi
      exact loop_r h3
    | succ t ih =>
      intro i m hi hai hj hm
      obtain ⟨m, rfl⟩ : ∃ k, m = k + 1 := ⟨m - 1, by omega⟩
      by_cases hp : P i
      · rw [loop_l (h1 i hai (by omega) hj hp), ih (i + 1) m (by omega) (by omega) (fun j h3 h4 => by
          by_cases hji : j = i
          · subst hji; exact hp
          · exact hj j h3 (by omega)) (by omega)]
        conv => rhs; unfold s_run
        rw [if_pos hp]
      · rw [loop_r (h2 i hai (by omega) hj hp)]
        conv => rhs; unfold s_run
        rw [if_neg hp]
  exact key (n - a) a a_F (by omega) (Nat.le_refl _) (fun j h1 h2 => by omega) (by unfold a_F; omega)
/-- the byte that stands there, 0 behind the text -/
def hv (b : Nat → Nat) (n s : Nat) : Int32 := if s < n then nI (b s) else 0
/-- a text on both tapes -/
def TXt (b : Nat → Nat) (n : Nat) (A : Nat → Nat → Int32) : Prop := (∀ i, b i < 256) ∧ n ≤ 600 ∧ BY b n (A 2)
theorem M_here {b : Nat → Nat} {A M : Nat → Nat → Int32} {n p : Nat} (hX : TXt b n A) (hp : p ≤ n) (h3 : M 0 3 = nI n) (h4 : M 0 4 = nI p) : f_M_here A M = some (hv b n (k_sp b n p), u2 M 0 4 (nI (k_sp b n p))) := by
  obtain ⟨hb, hn, hA⟩ := hX
  unfold f_M_here
  have el := loop_run (body := fun q => f_M_here_l0 A q) n (q_sp b) (fun i => u2 M 0 4 (nI i)) (fun i => u2 M 0 4 (nI i)) p hp (by omega)
    (fun i hsi hi hp => by
      have hp : b i = 32 := hp
      show f_M_here_l0 A (u2 M 0 4 (nI i)) = _
      unfold f_M_here_l0
      rw [u2_same, u2_col _ _ (by decide), h3, if_neg (nI_ge hi (by omega)), rdx_nI (by omega) (by omega), hA i hi, obs, if_neg (fun h => h (by rw [hp]; rfl)), u2_u2, ← nI_succ])
    (fun i hsi hi hp => by
      have hx := hb i
      show f_M_here_l0 A (u2 M 0 4 (nI i)) = _
      unfold f_M_here_l0
      rw [u2_same, u2_col _ _ (by decide), h3, if_neg (nI_ge hi (by omega)), rdx_nI (by omega) (by omega), hA i hi, obs, if_pos (show nI (b i) ≠ 32 from fun h => hp ((na_eq (b := 32) (by omega) (by omega)).mp h))])
    (by
      show f_M_here_l0 A (u2 M 0 4 (nI n)) = _
      unfold f_M_here_l0
      rw [u2_same, u2_col _ _ (by decide), h3, if_pos (nI_le (Nat.le_refl _) (by omega))])
  have el : loopN (fun q => f_M_here_l0 A q) a_F (u2 M 0 4 (nI p)) = some (u2 M 0 4 (nI (k_sp b n p))) := el
  rw [u2_id h4] at el
  obtain ⟨s1, s2⟩ := sp_le (b := b) hp
  rw [el, obs, u2_same, u2_col _ _ (by decide), h3]
  unfold hv
  by_cases c : k_sp b n p < n
  · rw [if_neg (nI_ge c (by omega)), rdx_nI (by omega) (by omega), hA _ c, obs, if_pos c]
  · rw [if_pos (nI_le (by omega) (by omega)), if_neg c]
theorem M_passL {b : Nat → Nat} {A M : Nat → Nat → Int32} {n p : Nat} (hX : TXt b n A) (hp : p ≤ n) (h3 : M 0 3 = nI n) (h4 : M 0 4 = nI p) : f_M_pass A M = some (u2 M 0 4 (nI (k_lt b n p))) := by
  obtain ⟨hb, hn, hA⟩ := hX
  unfold f_M_pass
  have el := loop_run (body := fun q => f_M_pass_l0 A q) n (q_lt b) (fun i => u2 M 0 4 (nI i)) (fun i => u2 M 0 4 (nI i)) p hp (by omega)
    (fun i hsi hi hp => by
      show f_M_pass_l0 A (u2 M 0 4 (nI i)) = _
      unfold f_M_pass_l0
      rw [u2_same, u2_col _ _ (by decide), h3, if_neg (nI_ge hi (by omega)), rdx_nI (by omega) (by omega), hA i hi, obs, M_isSml (hb i), obs, if_pos hp, if_neg (by decide), u2_u2, ← nI_succ])
    (fun i hsi hi hp => by
      show f_M_pass_l0 A (u2 M 0 4 (nI i)) = _
      unfold f_M_pass_l0
      rw [u2_same, u2_col _ _ (by decide), h3, if_neg (nI_ge hi (by omega)), rdx_nI (by omega) (by omega), hA i hi, obs, M_isSml (hb i), obs, if_neg hp, if_pos rfl])
    (by
      show f_M_pass_l0 A (u2 M 0 4 (nI n)) = _
      unfold f_M_pass_l0
      rw [u2_same, u2_col _ _ (by decide), h3, if_pos (nI_le (Nat.le_refl _) (by omega))])
  have el : loopN (fun q => f_M_pass_l0 A q) a_F (u2 M 0 4 (nI p)) = some (u2 M 0 4 (nI (k_lt b n p))) := el
  rw [u2_id h4] at el
  rw [el, obs]
/-- letters as one number, five bits each -/
def cdE (f : Nat → Nat) : Nat → Nat
  | 0 => 0
  | k + 1 => cdE f k * 32 + f k
theorem cdE_lt {f : Nat → Nat} : ∀ k, (∀ i, i < k → f i ≤ 26) → cdE f k < 32 ^ k := by
  intro k
  induction k with
  | zero => intro _; exact Nat.one_pos
  | succ k ih =>
    intro h
    have h1 := ih (fun i hi => h i (by omega))
    have h2 := h k (by omega)
    show cdE f k * 32 + f k < 32 ^ (k + 1)
    rw [Nat.pow_succ]
    omega
theorem cdE_inj {f g : Nat → Nat} : ∀ k l, (∀ i, i < k → 1 ≤ f i ∧ f i ≤ 26) → (∀ i, i < l → 1 ≤ g i ∧ g i ≤ 26) → cdE f k = cdE g l → k = l ∧ ∀ i, i < k → f i = g i := by
  intro k
  induction k with
  | zero =>
    intro l _ hg h
    cases l with
    | zero => exact ⟨rfl, fun i hi => by omega⟩
    | succ l =>
      have h2 := hg l (by omega)
      have h : 0 = cdE g l * 32 + g l := h
      omega
  | succ k ih =>
    intro l hf hg h
    have h1 := hf k (by omega)
    cases l with
    | zero =>
      have h : cdE f k * 32 + f k = 0 := h
      omega
    | succ l =>
      have h2 := hg l (by omega)
      have h : cdE f k * 32 + f k = cdE g l * 32 + g l := h
      obtain ⟨i1, i2⟩ := ih l (fun i hi => hf i (by omega)) (fun i hi => hg i (by omega)) (by omega)
      subst i1
      refine ⟨rfl, fun i hi => ?_⟩
      by_cases hik : i = k
      · subst hik; omega
      · exact i2 i (by omega)
theorem cdE_cg {f g : Nat → Nat} : ∀ k, (∀ i, i < k → f i = g i) → cdE f k = cdE g k := by
  intro k
  induction k with
  | zero => intro _; rfl
  | succ k ih =>
    intro h
    show cdE f k * 32 + f k = cdE g k * 32 + g k
    rw [ih (fun i hi => h i (by omega)), h k (by omega)]
/-- the reference's number of the word from s to e -/
def q_cd (b : Nat → Nat) (s e : Nat) : Nat := if e - s ≤ 6 then cdE (fun i => b (s + i) - 96) (e - s) else 0
def cdT (j : Nat) : Nat := cdE (fun i => (tx j).getD i 0 - 96) (tx j).length
theorem shl5 {v d : Nat} (hv : v < 2 ^ 26) (hd : d < 32) : a_shl (nI v) 5 ||| nI d = nI (v * 32 + d) := by
  have e : a_shl (nI v) 5 = nI (v * 32) := by
    apply Int32.toBitVec_inj.mp
    show (BitVec.ofNat 32 v) <<< ((5 : Int32) &&& 31).toBitVec.smod 32 = BitVec.ofNat 32 (v * 32)
    rw [show ((5 : Int32) &&& 31).toBitVec.smod 32 = 5#32 from by decide]
    apply BitVec.eq_of_toNat_eq
    show ((BitVec.ofNat 32 v) <<< (5#32).toNat).toNat = _
    rw [BitVec.toNat_shiftLeft, BitVec.toNat_ofNat, BitVec.toNat_ofNat, BitVec.toNat_ofNat, Nat.mod_eq_of_lt (show v < 2 ^ 32 by omega), show 5 % 2 ^ 32 = 5 from rfl, Nat.shiftLeft_eq]
  rw [e, na_or]
  have h := Nat.two_pow_add_eq_or_of_lt (i := 5) (b := d) hd v
  rw [show v * 32 = 2 ^ 5 * v from by omega, ← h]
theorem M_word {b : Nat → Nat} {A M : Nat → Nat → Int32} {n p : Nat} (hX : TXt b n A) (hp : p ≤ n) (h3 : M 0 3 = nI n) (h4 : M 0 4 = nI p) : f_M_word A M = some (nI (q_cd b (k_sp b n p) (k_lt b n (k_sp b n p))), u2 M 0 4 (nI (k_sp b n p))) := by
  unfold f_M_word
  rw [M_here hX hp h3 h4, obs]
  obtain ⟨hb, hn, hA⟩ := hX
  obtain ⟨s1, s2⟩ := sp_le (b := b) hp
  generalize k_sp b n p = s at s1 s2 ⊢
  have el := loop_run2 (body := fun q : Int32 × Int32 × Int32 => f_M_word_l14 A (u2 M 0 4 (nI s)) q.1 q.2.1 q.2.2) n (q_lt b) (fun i => (nI (q_cd b s i), nI (i - s), nI i)) (fun i => (nI (q_cd b s i), nI (i - s))) s s2 (by omega)
    (fun i hsi hi hj hp => by
      have hp : 97 ≤ b i ∧ b i ≤ 122 := hp
      show f_M_word_l14 A (u2 M 0 4 (nI s)) (nI (q_cd b s i)) (nI (i - s)) (nI i) = _
      unfold f_M_word_l14
      rw [u2_col _ _ (by decide), h3, if_neg (nI_ge hi (by omega)), rdx_nI (by omega) (by omega), hA i hi, obs, M_isSml (hb i), obs, if_pos hp, if_neg (by decide)]
      have e6 : ((6 : Int32) ≤ nI (i - s)) = (6 ≤ i - s) := propext (na_le (a := 6) (by omega) (by omega))
      simp only [e6, obs]
      by_cases c : 6 ≤ i - s
      · rw [if_pos c, ← nI_succ, ← nI_succ, show q_cd b s (i + 1) = 0 from if_neg (by omega), show i + 1 - s = i - s + 1 from by omega]
        rfl
      · have hcd : q_cd b s i < 2 ^ 26 := by
          unfold q_cd
          rw [if_pos (by omega)]
          have h1 := cdE_lt (f := fun i => b (s + i) - 96) (i - s) (fun j hjs => by
            have := (hj (s + j) (by omega) (by omega)).2
            show b (s + j) - 96 ≤ 26
            omega)
          have h2 : 32 ^ (i - s) ≤ 32 ^ 5 := Nat.pow_le_pow_right (by omega) (by omega)
          have h3 : (32 : Nat) ^ 5 = 2 ^ 25 := by decide
          omega
        rw [if_neg c, show (96 : Int32) = nI 96 from rfl, na_sub (by omega), shl5 hcd (by omega), ← nI_succ, ← nI_succ]
        have e1 : q_cd b s (i + 1) = q_cd b s i * 32 + (b i - 96) := by
          unfold q_cd
          rw [if_pos (by omega), if_pos (by omega), show i + 1 - s = (i - s) + 1 from by omega]
          show cdE (fun i => b (s + i) - 96) (i - s) * 32 + (b (s + (i - s)) - 96) = _
          rw [show s + (i - s) = i from by omega]
        rw [e1, show i + 1 - s = i - s + 1 from by omega])
    (fun i hsi hi hj hp => by
      show f_M_word_l14 A (u2 M 0 4 (nI s)) (nI (q_cd b s i)) (nI (i - s)) (nI i) = _
      unfold f_M_word_l14
      rw [u2_col _ _ (by decide), h3, if_neg (nI_ge hi (by omega)), rdx_nI (by omega) (by omega), hA i hi, obs, M_isSml (hb i), obs, if_neg hp, if_pos rfl])
    (by
      show f_M_word_l14 A (u2 M 0 4 (nI s)) (nI (q_cd b s n)) (nI (n - s)) (nI n) = _
      unfold f_M_word_l14
      rw [u2_col _ _ (by decide), h3, if_pos (nI_le (Nat.le_refl _) (by omega))])
  have e0 : q_cd b s s = 0 := by unfold q_cd; rw [Nat.sub_self]; rfl
  have el : loopN (fun q : Int32 × Int32 × Int32 => f_M_word_l14 A (u2 M 0 4 (nI s)) q.1 q.2.1 q.2.2) a_F (nI (q_cd b s s), nI (s - s), nI s) = some (nI (q_cd b s (k_lt b n s)), nI (k_lt b n s - s)) := el
  rw [e0, Nat.sub_self] at el
  obtain ⟨l1, l2⟩ := lt_le (b := b) (n := n) s2
  have el : loopN (fun q : Int32 × Int32 × Int32 => f_M_word_l14 A (u2 M 0 4 (nI s)) q.1 q.2.1 q.2.2) a_F (0, 0, nI s) = some (nI (q_cd b s (k_lt b n s)), nI (k_lt b n s - s)) := el
  show ((loopN (fun q : Int32 × Int32 × Int32 => f_M_word_l14 A (u2 M 0 4 (nI s)) q.1 q.2.1 q.2.2) a_F (0, 0, (u2 M 0 4 (nI s)) 0 4)).bind _) = _
  rw [u2_same, el, obs]
  have e6 : (nI (k_lt b n s - s) ≤ 6) = (k_lt b n s - s ≤ 6) := propext (na_le (b := 6) (by omega) (by omega))
  simp only [e6]
  by_cases c : k_lt b n s - s ≤ 6
  · rw [if_pos c]
  · rw [if_neg c, show q_cd b s (k_lt b n s) = 0 from if_neg c]
    rfl
/-- the reference's own numbers of its words -/
theorem M_ofs : f_M_of 2647 = some (nI (cdT 3)) ∧ f_M_of 2648 = some (nI (cdT 6)) ∧ f_M_of 2649 = some (nI (cdT 4)) ∧ f_M_of 2650 = some (nI (cdT 0)) ∧ f_M_of 2651 = some (nI (cdT 1)) ∧ f_M_of 2652 = some (nI (cdT 2)) ∧ f_M_of 2653 = some (nI (cdT 5)) ∧ f_M_of 2654 = some (nI (cdT 7)) ∧ f_M_of 2655 = some (nI (cdT 8)) ∧ f_M_of 2656 = some (nI (cdT 9)) ∧ f_M_of 2657 = some (nI (cdT 10)) ∧ f_M_of 2658 = some (nI (cdT 11)) ∧ f_M_of 2659 = some (nI (cdT 12)) := by decide +kernel
theorem M_ofs2 : f_M_of 2662 = some (nI (cdT 13)) ∧ f_M_of 2663 = some (nI (cdT 14)) ∧ f_M_of 2664 = some (nI (cdT 15)) ∧ f_M_of 2665 = some (nI (cdT 16)) ∧ f_M_of 2666 = some (nI (cdT 17)) ∧ f_M_of 2667 = some (nI (cdT 19)) ∧ f_M_of 2668 = some (nI (cdT 21)) ∧ f_M_of 2669 = some (nI (cdT 22)) := by decide +kernel
theorem q_cd_lt {b : Nat → Nat} {n s : Nat} (hs : s ≤ n) : q_cd b s (k_lt b n s) < 2 ^ 30 := by
  obtain ⟨r1, r2, r3, r4⟩ := run_is (q_lt b) (n - s) s
  have r3 : ∀ i, s ≤ i → i < k_lt b n s → q_lt b i := r3
  unfold q_cd
  by_cases c : k_lt b n s - s ≤ 6
  · rw [if_pos c]
    have h1 := cdE_lt (f := fun i => b (s + i) - 96) (k_lt b n s - s) (fun j hj => by
      have := (r3 (s + j) (by omega) (by omega)).2
      show b (s + j) - 96 ≤ 26
      omega)
    have h2 : 32 ^ (k_lt b n s - s) ≤ 32 ^ 6 := Nat.pow_le_pow_right (by omega) c
    have h3 : (32 : Nat) ^ 6 = 2 ^ 30 := by decide
    omega
  · rw [if_neg c]; omega
/-- the number is a word's just where the word stands -/
theorem cd_word {b : Nat → Nat} {n s j : Nat} (hs : s ≤ n) (hj : j < 23) (h6 : (tx j).length ≤ 6) : (nI (q_cd b s (k_lt b n s)) = nI (cdT j)) = WM b s (k_lt b n s) j := by
  obtain ⟨r1, r2, r3, r4⟩ := run_is (q_lt b) (n - s) s
  have r3 : ∀ i, s ≤ i → i < k_lt b n s → q_lt b i := r3
  have r1 : s ≤ k_lt b n s := r1
  have hl := (tx_ok j hj).2.2.2.2.1
  have hg : ∀ i, i < (tx j).length → 1 ≤ (tx j).getD i 0 - 96 ∧ (tx j).getD i 0 - 96 ≤ 26 := fun i hi => by
    have := (tx_ch j hj i hi).2
    omega
  have hlt : cdT j < 2 ^ 30 := by
    have h1 := cdE_lt (f := fun i => (tx j).getD i 0 - 96) (tx j).length (fun i hi => (hg i hi).2)
    have h2 : 32 ^ (tx j).length ≤ 32 ^ 6 := Nat.pow_le_pow_right (by omega) h6
    have h3 : (32 : Nat) ^ 6 = 2 ^ 30 := by decide
    show cdE (fun i => (tx j).getD i 0 - 96) (tx j).length < 2 ^ 30
    omega
  have hq := q_cd_lt (b := b) hs
  rw [nI_eqP (by omega) (by omega)]
  apply propext
  unfold q_cd cdT
  constructor
  · intro h
    by_cases c : k_lt b n s - s ≤ 6
    · rw [if_pos c] at h
      obtain ⟨i1, i2⟩ := cdE_inj _ _ (fun i hi => by
        have := r3 (s + i) (by omega) (by omega)
        show 1 ≤ b (s + i) - 96 ∧ b (s + i) - 96 ≤ 26
        have h1 := this.1
        have h2 := this.2
        omega) hg h
      refine ⟨by omega, fun i hi => ?_⟩
      have h1 : b (s + i) - 96 = (tx j).getD i 0 - 96 := i2 i (by omega)
      have h2 := (tx_ch j hj i hi).2
      have h3 := (r3 (s + i) (by omega) (by omega)).1
      omega
    · rw [if_neg c] at h
      obtain ⟨l, hl'⟩ : ∃ l, (tx j).length = l + 1 := ⟨(tx j).length - 1, by omega⟩
      rw [hl'] at h
      have h : 0 = cdE (fun i => (tx j).getD i 0 - 96) l * 32 + ((tx j).getD l 0 - 96) := h
      have := hg l (by omega)
      omega
  · intro h
    have hle : k_lt b n s - s = (tx j).length := by have := h.1; omega
    rw [hle, if_pos h6]
    exact cdE_cg _ (fun i hi => by
      show b (s + i) - 96 = (tx j).getD i 0 - 96
      rw [h.2 i hi])
