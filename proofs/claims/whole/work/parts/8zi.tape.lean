/-! PURE MATH: what the tape, the fault and the rule leave as it is; feed -/
/-- alike but for the tape, the fault and the rule -/
def EQT (C C' : CS) : Prop := ∀ a b, a ≠ 19 → a ≠ 20 → a ≠ 21 → ¬ (a = 0 ∧ (b = 8 ∨ b = 9 ∨ b = 12)) → C' a b = C a b
theorem EQT.r {C C' : CS} (h : EQT C C') {a : Nat} (h0 : a ≠ 0) (h1 : a ≠ 19) (h2 : a ≠ 20) (h3 : a ≠ 21) : C' a = C a := funext (fun b => h a b h1 h2 h3 (fun g => h0 g.1))
theorem EQT.c {C C' : CS} (h : EQT C C') {b : Nat} (h8 : b ≠ 8) (h9 : b ≠ 9) (h12 : b ≠ 12) : C' 0 b = C 0 b := h 0 b (by omega) (by omega) (by omega) (fun g => g.2.elim h8 (fun g => g.elim h9 h12))
theorem EQT.st {C C' : CS} (h : EQT C C') (i : Nat) : EQT (stC C i) (stC C' i) := fun a b h1 h2 h3 h4 => by
  unfold stC
  split
  · exact h _ _ (by omega) (by omega) (by omega) (fun g => by have := g.1; omega)
  · split
    · rfl
    · split
      · exact h a b h1 h2 h3 h4
      · rfl
theorem EQT.busy {C C' : CS} (h : EQT C C') (w n : Nat) : s_busy C' w n = s_busy C w n := by
  have r4 : C' 4 = C 4 := h.r (by omega) (by omega) (by omega) (by omega)
  induction n with
  | zero => rfl
  | succ n ih => unfold s_busy; rw [ih, r4]
theorem EQT.may {C C' : CS} (h : EQT C C') (m : Nat) : s_may C' m = s_may C m := by
  unfold s_may
  rw [h.r (a := 9) (by omega) (by omega) (by omega) (by omega), h.c (b := 0) (by omega) (by omega) (by omega)]
theorem RH_t {C C' : CS} {H : Nat → Nat → Int32} (h : EQT C C') (hH : RH C H) : RH C' H := by
  have hc : ∀ b, b < 5 → C' 0 b = C 0 b := fun b hb => h.c (by omega) (by omega) (by omega)
  have c1 := hc 1 (by omega)
  have c2 := hc 2 (by omega)
  have c3 := hc 3 (by omega)
  have c4 := hc 4 (by omega)
  have r : ∀ a, a ≠ 0 → a < 14 → C' a = C a := fun a h0 h1 => h.r h0 (by omega) (by omega) (by omega)
  have eD : hD C' = hD C := by
    funext a b
    unfold hD
    rw [c1, c2, c3, c4]
  have eV : ∀ a b, hD C a b → hV C' a b = hV C a b := by
    intro a b
    unfold hV hD
    rw [r 1 (by omega) (by omega), r 2 (by omega) (by omega), r 3 (by omega) (by omega), r 4 (by omega) (by omega), r 7 (by omega) (by omega), r 8 (by omega) (by omega), r 9 (by omega) (by omega), r 10 (by omega) (by omega), r 11 (by omega) (by omega), r 12 (by omega) (by omega), r 13 (by omega) (by omega), c2, c3]
    simp only [h.may, h.busy]
    split
    · intro hb
      split
      · rw [hc b (by omega)]
      · rfl
    all_goals (intro; rfl)
  intro a b hd
  rw [eD] at hd
  rw [eV a b hd]
  exact hH a b hd
theorem RS_t {C C' : CS} {S : Nat → Nat → Int32} (h : EQT C C') (hS : RS C S) : RS C' S := by
  have c3 := h.c (b := 3) (by omega) (by omega) (by omega)
  have c4 := h.c (b := 4) (by omega) (by omega) (by omega)
  have c5 := h.c (b := 5) (by omega) (by omega) (by omega)
  have c7 := h.c (b := 7) (by omega) (by omega) (by omega)
  have r : ∀ a, a ≠ 0 → a ≠ 19 → a ≠ 20 → a ≠ 21 → C' a = C a := fun a h0 h1 h2 h3 => h.r h0 h1 h2 h3
  intro a b hd
  have hd' : nD C a b := by
    unfold nD at hd ⊢
    rw [c3, c5, c7] at hd
    exact hd
  rw [hS a b hd']
  unfold nV
  rw [c4, c5, c7, r 14 (by omega) (by omega) (by omega) (by omega), r 15 (by omega) (by omega) (by omega) (by omega), r 16 (by omega) (by omega) (by omega) (by omega), r 17 (by omega) (by omega) (by omega) (by omega), r 18 (by omega) (by omega) (by omega) (by omega), r 22 (by omega) (by omega) (by omega) (by omega), r 23 (by omega) (by omega) (by omega) (by omega)]
theorem RY_t {C C' : CS} {Y : Nat → Nat → Int32} (h : EQT C C') (hY : RYc C Y) : RYc C' Y := by
  unfold RYc
  rw [h.c (b := 6) (by omega) (by omega) (by omega)]
  exact hY
theorem WFC_t {C C' : CS} (h : EQT C C') (hW : WFC C) (k8 : C' 0 8 ≤ 150) (k9 : C' 0 9 ≤ 600) (k12 : C' 0 12 ≤ 601) (k19 : ∀ k, C' 19 k < 256) : WFC C' := by
  have r : ∀ a, a ≠ 0 → a ≠ 19 → a ≠ 20 → a ≠ 21 → C' a = C a := fun a h0 h1 h2 h3 => h.r h0 h1 h2 h3
  have c : ∀ b, b < 8 → C' 0 b = C 0 b := fun b hb => h.c (by omega) (by omega) (by omega)
  obtain ⟨h1, h2, h3, h4, g5, h6, h7, h8, h9, h10, h11, h12, h13, h14, h15, h16, h17, h18, h19, h20, h21, h22, h23, h24, h25⟩ := hW
  unfold WFC
  rw [c 0 (by omega), c 1 (by omega), c 2 (by omega), c 3 (by omega), c 4 (by omega), c 5 (by omega), c 6 (by omega), c 7 (by omega), r 1 (by omega) (by omega) (by omega) (by omega), r 2 (by omega) (by omega) (by omega) (by omega), r 3 (by omega) (by omega) (by omega) (by omega), r 4 (by omega) (by omega) (by omega) (by omega), r 7 (by omega) (by omega) (by omega) (by omega), r 8 (by omega) (by omega) (by omega) (by omega), r 9 (by omega) (by omega) (by omega) (by omega), r 10 (by omega) (by omega) (by omega) (by omega), r 11 (by omega) (by omega) (by omega) (by omega), r 12 (by omega) (by omega) (by omega) (by omega), r 13 (by omega) (by omega) (by omega) (by omega), r 14 (by omega) (by omega) (by omega) (by omega), r 15 (by omega) (by omega) (by omega) (by omega)]
  exact ⟨h1, h2, h3, h4, g5, h6, h7, h8, k8, k9, k12, h12, h13, h14, h15, h16, h17, h18, h19, h20, h21, h22, h23, h24, k19⟩
theorem WFP_t {C C' : CS} (h : EQT C C') (hP : WFP C) : WFP C' := by
  have r : ∀ a, a ≠ 0 → a ≠ 19 → a ≠ 20 → a ≠ 21 → C' a = C a := fun a h0 h1 h2 h3 => h.r h0 h1 h2 h3
  have c : ∀ b, b < 8 → C' 0 b = C 0 b := fun b hb => h.c (by omega) (by omega) (by omega)
  unfold WFP okP at hP ⊢
  rw [c 0 (by omega), c 1 (by omega), c 3 (by omega), c 4 (by omega), c 5 (by omega), c 7 (by omega), r 9 (by omega) (by omega) (by omega) (by omega), r 11 (by omega) (by omega) (by omega) (by omega), r 15 (by omega) (by omega) (by omega) (by omega), r 17 (by omega) (by omega) (by omega) (by omega), r 18 (by omega) (by omega) (by omega) (by omega), r 22 (by omega) (by omega) (by omega) (by omega)]
  exact hP
theorem iV_t {C C' : CS} (h : EQT C C') : iV C' = iV C ∧ iD C' = iD C := by
  have r : ∀ a, a ≠ 0 → a ≠ 19 → a ≠ 20 → a ≠ 21 → C' a = C a := fun a h0 h1 h2 h3 => h.r h0 h1 h2 h3
  have c : ∀ b, b < 8 → C' 0 b = C 0 b := fun b hb => h.c (by omega) (by omega) (by omega)
  constructor
  · funext o
    unfold iV
    rw [c 5 (by omega), c 7 (by omega), r 11 (by omega) (by omega) (by omega) (by omega), r 12 (by omega) (by omega) (by omega) (by omega), r 13 (by omega) (by omega) (by omega) (by omega), r 14 (by omega) (by omega) (by omega) (by omega), r 15 (by omega) (by omega) (by omega) (by omega), r 16 (by omega) (by omega) (by omega) (by omega), r 17 (by omega) (by omega) (by omega) (by omega), r 18 (by omega) (by omega) (by omega) (by omega), r 22 (by omega) (by omega) (by omega) (by omega), r 23 (by omega) (by omega) (by omega) (by omega)]
  · funext o
    unfold iD
    rw [c 3 (by omega), c 4 (by omega), c 5 (by omega), c 7 (by omega)]
theorem mV_t {C C' : CS} (h : EQT C C') {a b : Nat} (h2 : a ≠ 2) (h10 : a ≠ 10) (h11 : a ≠ 11) (h0 : ¬ (a = 0 ∧ (b = 2 ∨ b = 8 ∨ b = 40))) (hd : mD C' a b) : mD C a b ∧ mV C a b = mV C' a b := by
  have r : ∀ a, a ≠ 0 → a ≠ 19 → a ≠ 20 → a ≠ 21 → C' a = C a := fun a h0 h1 h2 h3 => h.r h0 h1 h2 h3
  have c : ∀ b, b < 8 → C' 0 b = C 0 b := fun b hb => h.c (by omega) (by omega) (by omega)
  have hd' : mD C a b := by
    unfold mD at hd ⊢
    rw [c 1 (by omega), c 2 (by omega), c 3 (by omega), c 4 (by omega), c 5 (by omega), c 6 (by omega), c 7 (by omega)] at hd
    simp only [(iV_t (h.st (b / 658))).2] at hd
    split at hd <;> first | exact hd | contradiction
  refine ⟨hd', ?_⟩
  unfold mV
  rw [c 5 (by omega), c 6 (by omega), c 7 (by omega), r 1 (by omega) (by omega) (by omega) (by omega), r 2 (by omega) (by omega) (by omega) (by omega), r 3 (by omega) (by omega) (by omega) (by omega), r 4 (by omega) (by omega) (by omega) (by omega), r 5 (by omega) (by omega) (by omega) (by omega), r 6 (by omega) (by omega) (by omega) (by omega), r 7 (by omega) (by omega) (by omega) (by omega), r 8 (by omega) (by omega) (by omega) (by omega), r 9 (by omega) (by omega) (by omega) (by omega), r 10 (by omega) (by omega) (by omega) (by omega), r 11 (by omega) (by omega) (by omega) (by omega), r 12 (by omega) (by omega) (by omega) (by omega), r 13 (by omega) (by omega) (by omega) (by omega), r 14 (by omega) (by omega) (by omega) (by omega), r 15 (by omega) (by omega) (by omega) (by omega), r 16 (by omega) (by omega) (by omega) (by omega), r 17 (by omega) (by omega) (by omega) (by omega), r 18 (by omega) (by omega) (by omega) (by omega), r 22 (by omega) (by omega) (by omega) (by omega), r 23 (by omega) (by omega) (by omega) (by omega), (iV_t (h.st (b / 658))).1]
  split
  · have hb : b = 2 ∨ b = 8 ∨ (23 ≤ b ∧ b ≤ 27) ∨ b = 33 ∨ b = 40 ∨ b = 43 ∨ b = 65 := hd'
    have n2 : b ≠ 2 := fun e => h0 ⟨rfl, Or.inl e⟩
    have n8 : b ≠ 8 := fun e => h0 ⟨rfl, Or.inr (Or.inl e)⟩
    have n40 : b ≠ 40 := fun e => h0 ⟨rfl, Or.inr (Or.inr e)⟩
    repeat' split
    all_goals first | rfl | (rw [c (b - 23) (by omega)]) | (exfalso; omega)
  all_goals first | rfl | contradiction
theorem BND_t {C C' : CS} (h : EQT C C') (n : Nat) (hB : BND n C) : BND (n + 60) C' := fun a b hab => by
  rw [h a b (by omega) (by omega) (by omega) (fun g => by have := g.1; omega)]
  exact Nat.le_trans (hB a b hab) (by omega)
/-- a byte as a number -/
def s_byte (x : Int32) : Nat := x.toBitVec.toNat % 256
def feedC (C : CS) (g : Nat → Int32) : CS := fun a b => if a = 0 ∧ b = 9 then C 0 9 + 20 else if a = 19 ∧ C 0 9 ≤ b ∧ b < C 0 9 + 20 then s_byte (g (b - C 0 9)) else C a b
theorem feed_t (C : CS) (g : Nat → Int32) : EQT C (feedC C g) := fun a b h1 _ _ h4 => by
  unfold feedC
  rw [if_neg (fun e => h4 ⟨e.1, Or.inr (Or.inl e.2)⟩), if_neg (fun e => h1 e.1)]
theorem fb_byte (p1 p2 p3 p4 p5 : Int32) (k : Nat) : fb p1 p2 p3 p4 p5 k = nI (s_byte (fb p1 p2 p3 p4 p5 k)) := by
  unfold fb
  obtain ⟨b, hb, e⟩ := and255 (a_ushr (if k < 4 then p1 else if k < 8 then p2 else if k < 12 then p3 else if k < 16 then p4 else p5) (nI (24 - 8 * (k % 4))))
  rw [e]
  unfold s_byte
  have : (nI b).toBitVec.toNat = b := by
    show (BitVec.ofNat 32 b).toNat = b
    rw [BitVec.toNat_ofNat, Nat.mod_eq_of_lt (by omega)]
  rw [this, Nat.mod_eq_of_lt hb]
theorem T_feed {C : CS} {Y H NS A T : Nat → Nat → Int32} (h : RL C Y H NS A) (hT : RT C T) (hP : WFP C) (p1 p2 p3 p4 p5 : Int32) :
    ∃ v T' A' C', f_Y_feed T p1 p2 p3 p4 p5 = some (v, T') ∧ f_M_feed A p1 p2 p3 p4 p5 = some (v, A') ∧ A' 0 0 = 0 ∧ EQT C C' ∧ C' 0 8 = C 0 8 ∧ C' 20 = C 20 ∧ C' 21 = C 21 ∧ C' 0 9 ≤ 600 ∧ C' 0 12 ≤ 601 ∧ (∀ k, C' 19 k < 256) ∧ RT C' T' ∧ RL C' Y H NS A' := by
  have h' := h.thr 0
  obtain ⟨hW, hY, hH, hS, hM, hQ⟩ := h.thr 0
  have h9 : C 0 9 ≤ 600 := by obtain ⟨_, _, _, _, _, _, _, _, _, h, _⟩ := hW; exact h
  have h8 : C 0 8 ≤ 150 := by obtain ⟨_, _, _, _, _, _, _, _, h, _⟩ := hW; exact h
  have h12 : C 0 12 ≤ 601 := by obtain ⟨_, _, _, _, _, _, _, _, _, _, h, _⟩ := hW; exact h
  have h19 : ∀ k, C 19 k < 256 := by obtain ⟨_, _, _, _, _, _, _, _, _, _, _, _, _, _, _, _, _, _, _, _, _, _, _, _, h⟩ := hW; exact h
  have t1 : T 0 1 = nI (C 0 9) := hT 0 1 (Or.inl rfl)
  have a2 : A 0 2 = nI (C 0 9) := by
    have := hM.d0.1
    rwa [u2_col _ _ (by decide)] at this
  by_cases hn : C 0 9 ≤ 580
  · have c9 : feedC C (fb p1 p2 p3 p4 p5) 0 9 = C 0 9 + 20 := by
      unfold feedC
      rw [if_pos ⟨rfl, rfl⟩]
    have c19 : ∀ b, feedC C (fb p1 p2 p3 p4 p5) 19 b = if C 0 9 ≤ b ∧ b < C 0 9 + 20 then s_byte (fb p1 p2 p3 p4 p5 (b - C 0 9)) else C 19 b := fun b => by
      unfold feedC
      rw [if_neg (fun e => by have := e.1; omega)]
      by_cases hb : C 0 9 ≤ b ∧ b < C 0 9 + 20
      · rw [if_pos ⟨rfl, hb⟩, if_pos hb]
      · rw [if_neg (fun e => hb e.2), if_neg hb]
    have k19 : ∀ k, feedC C (fb p1 p2 p3 p4 p5) 19 k < 256 := fun k => by
      rw [c19]
      split
      · exact Nat.mod_lt _ (by omega)
      · exact h19 k
    have hE := feed_t C (fb p1 p2 p3 p4 p5)
    have e8 : feedC C (fb p1 p2 p3 p4 p5) 0 8 = C 0 8 := rfl
    have e12 : feedC C (fb p1 p2 p3 p4 p5) 0 12 = C 0 12 := rfl
    have hbv : ∀ b, C 0 9 ≤ b ∧ b < C 0 9 + 20 → fb p1 p2 p3 p4 p5 (b - C 0 9) = nI (feedC C (fb p1 p2 p3 p4 p5) 19 b) := fun b hb => by
      rw [c19, if_pos hb, ← fb_byte]
    refine ⟨_, _, _, feedC C (fb p1 p2 p3 p4 p5), T_feedY t1 hn p1 p2 p3 p4 p5, M_feed a2 hn p1 p2 p3 p4 p5, ?_, hE, e8, rfl, rfl, by rw [c9]; omega, by rw [e12]; exact h12, k19, ?_, ?_⟩
    · unfold blk
      rw [if_neg (by omega), if_neg (by omega), u2_same]
    · intro a b hd
      match a, hd with
      | 0, hd =>
        have hb : b = 1 ∨ b = 9 := hd
        rcases hb with rfl | rfl
        · rw [blk_n (by decide)]
          show _ = nI (feedC C (fb p1 p2 p3 p4 p5) 0 9)
          rw [c9]
        · unfold blk
          rw [if_neg (by omega), if_neg (by omega)]
          exact hT 0 9 (Or.inr rfl)
      | 1, hd =>
        have hb : b < feedC C (fb p1 p2 p3 p4 p5) 0 9 := hd
        rw [c9] at hb
        show blk T 1 (C 0 9) 20 (fb p1 p2 p3 p4 p5) 1 1 b = nI (feedC C (fb p1 p2 p3 p4 p5) 19 b)
        unfold blk
        by_cases hc : C 0 9 ≤ b ∧ b < C 0 9 + 20
        · rw [if_pos ⟨rfl, hc⟩, hbv b hc]
        · rw [if_neg (fun e => hc e.2), if_neg (by omega), c19, if_neg hc]
          exact hT 1 b (show b < C 0 9 by omega)
    · refine ⟨WFC_t hE hW (by rw [e8]; exact h8) (by rw [c9]; omega) (by rw [e12]; exact h12) k19, RY_t hE hY, RH_t hE hH, RS_t hE hS, ?_, ?_⟩
      · intro a b hd
        by_cases ha2 : a = 2
        · subst ha2
          have hb : b < feedC C (fb p1 p2 p3 p4 p5) 0 9 := hd
          rw [c9] at hb
          show blk (u2 A 0 0 0) 2 (C 0 9) 20 (fb p1 p2 p3 p4 p5) 2 2 b = nI (feedC C (fb p1 p2 p3 p4 p5) 19 b)
          unfold blk
          by_cases hc : C 0 9 ≤ b ∧ b < C 0 9 + 20
          · rw [if_pos ⟨rfl, hc⟩, hbv b hc]
          · rw [if_neg (fun e => hc e.2), if_neg (by omega), c19, if_neg hc]
            exact hM 2 b (show b < C 0 9 by omega)
        · by_cases h02 : a = 0 ∧ b = 2
          · obtain ⟨rfl, rfl⟩ := h02
            rw [blk_n (by decide)]
            show _ = nI (feedC C (fb p1 p2 p3 p4 p5) 0 9)
            rw [c9]
          · have hk : blk (u2 A 0 0 0) 2 (C 0 9) 20 (fb p1 p2 p3 p4 p5) 2 a b = u2 A 0 0 0 a b := by
              unfold blk
              rw [if_neg (fun e => ha2 e.1), if_neg h02]
            rw [hk]
            by_cases h08 : a = 0 ∧ b = 8
            · obtain ⟨rfl, rfl⟩ := h08
              exact hM.d0.2.1
            · by_cases h40 : a = 0 ∧ b = 40
              · obtain ⟨rfl, rfl⟩ := h40
                exact hM.d0.2.2.2.1
              · by_cases h10 : a = 10
                · subst h10; exact hM 10 b hd
                · by_cases h11 : a = 11
                  · subst h11; exact hM 11 b hd
                  · obtain ⟨d1, d2⟩ := mV_t hE ha2 h10 h11 (fun g => g.2.elim (fun e => h02 ⟨g.1, e⟩) (fun e => e.elim (fun e => h08 ⟨g.1, e⟩) (fun e => h40 ⟨g.1, e⟩))) hd
                    rw [← d2]
                    exact hM a b d1
      · unfold RQ blk
        rw [if_neg (by omega), if_neg (by omega), if_neg (by omega), if_neg (by omega)]
        exact hQ
  · have hr : EQT C C := fun _ _ _ _ _ _ => rfl
    exact ⟨-1, T, u2 A 0 0 0, C, T_feedY0 t1 (by omega) h9 p1 p2 p3 p4 p5, M_feed0 a2 (by omega) h9 p1 p2 p3 p4 p5, thr_0 A 0, hr, rfl, rfl, rfl, h9, h12, h19, hT, h'⟩
