/-! PURE MATH: the abstract state C (numbers only) and how the two memories hold it.
C 0: 0 hours, 1 rooms, 2 people, 3 meetings, 4 holds, 5 acts, 6 images, 7 lines, 8 codes, 9 bytes fed, 12 the fault's place + 1;
C 1 rooms' sizes, 2 ask, 3 delay, 4 busy, 5 first places, 6 first times, 7 weights, 8 members, 9 may, 10 fixed, 11 holds' places, 12 odds, 13 lost, 14 let go, 15 the plan (0 OUT, else place + 1), 16 times, 17 lines' meetings, 18 lines' places, 19 bytes, 20 codes, 21 of what, 22 places before acts (10 * act + m), 23 times before acts;
C (100 (i + 1) + a) b: what the i-th image keeps of C a b (isSt) -/
abbrev CS : Type := Nat → Nat → Nat
/-- 0: none, else one more than it -/
def oI (n : Nat) : Int32 := nI n - 1
theorem oI_0 : oI 0 = -1 := by decide
theorem oI_s (n : Nat) : oI (n + 1) = nI n := nI_pred n
/-- the set of those below n that are so, as bits -/
def bs (p : Nat → Prop) [DecidablePred p] : Nat → Nat
  | 0 => 0
  | n + 1 => bs p n + (if p n then 2 ^ n else 0)
theorem bs_lt (p : Nat → Prop) [DecidablePred p] (n : Nat) : bs p n < 2 ^ n := by
  induction n with
  | zero => exact Nat.one_pos
  | succ n ih =>
    unfold bs
    rw [Nat.pow_succ]
    split <;> omega
theorem bs_bit (p : Nat → Prop) [DecidablePred p] (n i : Nat) : (bs p n).testBit i = decide (i < n ∧ p i) := by
  induction n with
  | zero => simp [bs]
  | succ n ih =>
    unfold bs
    have hlt := bs_lt p n
    have e : bs p n + (if p n then 2 ^ n else 0) = 2 ^ n * (if p n then 1 else 0) + bs p n := by
      split <;> omega
    rw [e, Nat.testBit_two_pow_mul_add _ hlt]
    by_cases hi : i < n
    · rw [if_pos hi, ih]
      have h2 : i < n + 1 := by omega
      simp only [hi, h2]
    · rw [if_neg hi]
      by_cases he : i = n
      · subst he
        by_cases hp : p i <;> simp [hp]
      · obtain ⟨j, hj⟩ : ∃ j, i - n = j + 1 := ⟨i - n - 1, by omega⟩
        rw [hj]
        have h2 : ¬ (i < n + 1) := by omega
        simp only [h2, false_and, decide_false]
        split
        · simp [Nat.testBit_succ]
        · simp
/-- a region holds, where it is asked, what is said -/
def Rel (D : Nat → Nat → Prop) (V : Nat → Nat → Int32) (A : Nat → Nat → Int32) : Prop := ∀ a b, D a b → A a b = V a b
/-- a cell becomes another; what is said changes with it -/
theorem Rel.upd {D D' : Nat → Nat → Prop} {V V' : Nat → Nat → Int32} {A : Nat → Nat → Int32} (h : Rel D V A) {k i : Nat} {v : Int32} (hv : D' k i → v = V' k i) (ho : ∀ a b, D' a b → ¬ (a = k ∧ b = i) → D a b ∧ V a b = V' a b) : Rel D' V' (u2 A k i v) := by
  intro a b hd
  rw [u2_eq]
  by_cases hc : a = k ∧ b = i
  · rw [if_pos hc]
    obtain ⟨rfl, rfl⟩ := hc
    exact hv hd
  · rw [if_neg hc]
    obtain ⟨h1, h2⟩ := ho a b hd hc
    rw [h a b h1, h2]
theorem Rel.u2 {D : Nat → Nat → Prop} {V : Nat → Nat → Int32} {A : Nat → Nat → Int32} (h : Rel D V A) {k i : Nat} {v : Int32} (hv : D k i → v = V k i) : Rel D V (u2 A k i v) := by
  intro a b hd
  rw [u2_eq]
  by_cases hc : a = k ∧ b = i
  · rw [if_pos hc]
    obtain ⟨rfl, rfl⟩ := hc
    exact hv hd
  · rw [if_neg hc]
    exact h a b hd
/-- the state that the i-th image keeps, the house being the same -/
def isSt (a b : Nat) : Bool := (a == 0 && (b == 5 || b == 7)) || a == 14 || a == 15 || a == 16 || a == 17 || a == 18 || a == 22 || a == 23
def stC (C : CS) (i : Nat) : CS := fun a b => if isSt a b = true then C (100 * (i + 1) + a) b else if a = 0 ∧ b = 6 then 0 else if a < 100 then C a b else 0
/-- an image in the reference's row: where it is asked, what stands there -/
def iD (C : CS) (o : Nat) : Prop := (o < 10 ∧ o < C 0 3) ∨ (10 ≤ o ∧ o < 20 ∧ o - 10 < C 0 3) ∨ (20 ≤ o ∧ o < 40 ∧ o - 20 < 2 * C 0 7) ∨ (40 ≤ o ∧ o < 56 ∧ o - 40 < 4 * C 0 4) ∨ (56 ≤ o ∧ o < 656 ∧ (o - 56) / 20 < C 0 5 ∧ (o - 56) % 20 % 10 < C 0 3) ∨ o = 656 ∨ o = 657
def iV (C : CS) (o : Nat) : Int32 := if o < 10 then oI (C 15 o) else if o < 20 then nI (C 16 (o - 10)) else if o < 40 then (if (o - 20) % 2 = 0 then nI (C 17 ((o - 20) / 2)) else nI (C 18 ((o - 20) / 2))) else if o < 56 then (if (o - 40) % 4 = 0 then nI (C 11 ((o - 40) / 4)) else if (o - 40) % 4 = 1 then nI (C 12 ((o - 40) / 4)) else if (o - 40) % 4 = 2 then nI (C 13 ((o - 40) / 4)) else nI (C 14 ((o - 40) / 4))) else if o < 656 then (if (o - 56) % 20 < 10 then oI (C 22 (10 * ((o - 56) / 20) + (o - 56) % 20)) else nI (C 23 (10 * ((o - 56) / 20) + ((o - 56) % 20 - 10)))) else if o = 656 then nI (C 0 7) else nI (C 0 5)
/-- the reference's memory: where it is asked, and what stands there -/
def mD (C : CS) (a b : Nat) : Prop := match a with
  | 0 => b = 2 ∨ b = 8 ∨ (23 ≤ b ∧ b ≤ 27) ∨ b = 33 ∨ b = 40 ∨ b = 43 ∨ b = 65
  | 2 => b < C 0 9
  | 3 => b < C 0 1
  | 4 => b < 3 * C 0 2
  | 5 => b < 6 * C 0 3
  | 6 => b < 4 * C 0 4
  | 7 => b < C 0 3
  | 8 => b < C 0 3
  | 9 => b < 2 * C 0 7
  | 10 => b < C 0 8
  | 11 => b < C 0 8
  | 12 => b / 20 < C 0 5 ∧ b % 20 % 10 < C 0 3
  | 13 => b / 658 < C 0 6 ∧ iD (stC C (b / 658)) (b % 658)
  | _ => False
def mV (C : CS) (a b : Nat) : Int32 := match a with
  | 0 => if b = 2 then nI (C 0 9) else if b = 8 then oI (C 0 12) else if b < 28 then nI (C 0 (b - 23)) else if b = 33 then nI (C 0 7) else if b = 40 then nI (C 0 8) else if b = 43 then nI (C 0 5) else nI (C 0 6)
  | 2 => nI (C 19 b)
  | 3 => nI (C 1 b)
  | 4 => if b % 3 = 0 then nI (C 2 (b / 3)) else if b % 3 = 1 then nI (C 3 (b / 3)) else nI (C 4 (b / 3))
  | 5 => if b % 6 = 0 then nI (C 5 (b / 6)) else if b % 6 = 1 then nI (C 7 (b / 6)) else if b % 6 = 2 then nI (C 8 (b / 6)) else if b % 6 = 3 then nI (C 9 (b / 6)) else if b % 6 = 4 then nI (C 10 (b / 6)) else nI (C 6 (b / 6))
  | 6 => if b % 4 = 0 then nI (C 11 (b / 4)) else if b % 4 = 1 then nI (C 12 (b / 4)) else if b % 4 = 2 then nI (C 13 (b / 4)) else nI (C 14 (b / 4))
  | 7 => oI (C 15 b)
  | 8 => nI (C 16 b)
  | 9 => if b % 2 = 0 then nI (C 17 (b / 2)) else nI (C 18 (b / 2))
  | 10 => nI (C 20 b)
  | 11 => nI (C 21 b)
  | 12 => if b % 20 < 10 then oI (C 22 (10 * (b / 20) + b % 20)) else nI (C 23 (10 * (b / 20) + (b % 20 - 10)))
  | 13 => iV (stC C (b / 658)) (b % 658)
  | _ => 0
def RMo (C : CS) (A : Nat → Nat → Int32) : Prop := Rel (mD C) (mV C) A
/-- the House that is home -/
def hD (C : CS) (a b : Nat) : Prop := match a with
  | 0 => b < 6
  | 1 => b < C 0 1
  | 2 => b < C 0 2
  | 3 => b < C 0 2
  | 4 => b < C 0 2
  | 7 => b < C 0 3
  | 8 => b < C 0 3
  | 9 => b < C 0 3
  | 10 => b < C 0 3
  | 11 => b < C 0 4
  | 12 => b < C 0 4
  | _ => False
/-- who is busy: the hours in which any of these people is -/
def s_busy (C : CS) (w : Nat) : Nat → Nat
  | 0 => 0
  | p + 1 => s_busy C w p ||| (if w.testBit p then C 4 p else 0)
/-- the hours in which a meeting may be -/
def s_may (C : CS) (m : Nat) : Nat := if C 9 m = 0 then 2 ^ C 0 0 - 1 else C 9 m
def hV (C : CS) (a b : Nat) : Int32 := match a with
  | 0 => if b < 5 then nI (C 0 b) else nI (bs (fun m => C 10 m = 1) (C 0 3))
  | 1 => nI (C 1 b)
  | 2 => nI (C 2 b)
  | 3 => nI (C 3 b)
  | 4 => nI (C 4 b)
  | 7 => nI (C 7 b)
  | 8 => nI (C 8 b)
  | 9 => nI (C 9 b)
  | 10 => nI (bs (fun h => (s_may C b).testBit h ∧ ¬ (s_busy C (C 8 b) (C 0 2)).testBit h) 10)
  | 11 => nI (C 11 b)
  | 12 => nI (C 12 b * C 13 b)
  | _ => 0
def RH (C : CS) (H : Nat → Nat → Int32) : Prop := Rel (hD C) (hV C) H
/-- the state now -/
def nD (C : CS) (a b : Nat) : Prop := match a with
  | 0 => b = 3 ∨ b = 4
  | 1 => b < C 0 3
  | 2 => b < C 0 3
  | 3 => b = 0
  | 4 => b < C 0 7
  | 5 => b < C 0 7
  | 6 => b / 10 < C 0 5 ∧ b % 10 < C 0 3
  | 7 => b / 10 < C 0 5 ∧ b % 10 < C 0 3
  | _ => False
def nV (C : CS) (a b : Nat) : Int32 := match a with
  | 0 => if b = 3 then nI (bs (fun h => C 14 h = 1) (C 0 4)) else nI (C 0 5)
  | 1 => oI (C 15 b)
  | 2 => nI (C 16 b)
  | 3 => nI (C 0 7)
  | 4 => nI (C 17 b)
  | 5 => nI (C 18 b)
  | 6 => oI (C 22 b)
  | 7 => nI (C 23 b)
  | _ => 0
def RS (C : CS) (S : Nat → Nat → Int32) : Prop := Rel (nD C) (nV C) S
/-- the tape -/
def tD (C : CS) (a b : Nat) : Prop := match a with
  | 0 => b = 1 ∨ b = 9
  | 1 => b < C 0 9
  | _ => False
def tV (C : CS) (a b : Nat) : Int32 := match a with
  | 0 => if b = 1 then nI (C 0 9) else oI (C 0 12)
  | 1 => nI (C 19 b)
  | _ => 0
def RT (C : CS) (T : Nat → Nat → Int32) : Prop := Rel (tD C) (tV C) T
/-- the class's own numbers -/
def RYc (C : CS) (Y : Nat → Nat → Int32) : Prop := Y 0 3 = nI (C 0 6)
/-- both have counted as many refusals -/
def RQ (Y A : Nat → Nat → Int32) : Prop := A 1 0 = Y 0 14 ∧ A 1 1 = Y 0 15
/-- what numbers may be -/
def WFC (C : CS) : Prop := (1 ≤ C 0 0 ∧ C 0 0 ≤ 10) ∧ C 0 1 ≤ 3 ∧ C 0 2 ≤ 8 ∧ C 0 3 ≤ 10 ∧ C 0 4 ≤ 4 ∧ C 0 5 ≤ 30 ∧ C 0 6 ≤ 3 ∧ C 0 7 ≤ 10 ∧ C 0 8 ≤ 150 ∧ C 0 9 ≤ 600 ∧ C 0 12 ≤ 601 ∧
  (∀ k, C 1 k ≤ 20) ∧ (∀ k, C 2 k ≤ 9) ∧ (∀ k, C 3 k ≤ 9) ∧ (∀ k, C 4 k < 2 ^ 10) ∧ (∀ k, C 7 k ≤ 99) ∧ (∀ k, C 8 k < 2 ^ 8) ∧ (∀ k, C 9 k < 2 ^ 10) ∧ (∀ k, C 10 k ≤ 1) ∧ (∀ k, C 11 k < 30) ∧ (∀ k, C 12 k ≤ 16) ∧ (∀ k, C 13 k ≤ 99) ∧ (∀ k, C 14 k ≤ 1) ∧ (∀ k, C 15 k ≤ 30) ∧ (∀ k, C 19 k < 256)
