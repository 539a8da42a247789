/-! PURE MATH: what holds between two calls -/
def QLC (n : Nat) (C : CS) (T U I0 I1 I2 : Nat → Nat → Int32) : Prop := RT C T ∧ RU C U ∧ RI C I0 I1 I2 ∧ IMG C ∧ WFP C ∧ WFM C ∧ WFU C ∧ BND n C ∧ 99 ≤ n
theorem BND.le {n n' : Nat} {C : CS} (h : BND n C) (hn : n ≤ n') : BND n' C := fun a b hab => Nat.le_trans (h a b hab) hn
theorem QLC.same {n : Nat} {C : CS} {T U I0 I1 I2 : Nat → Nat → Int32} (h : QLC n C T U I0 I1 I2) : QLC (n + 60) C T U I0 I1 I2 := by
  obtain ⟨h1, h2, h3, h4, h5, h6, h7, h8, h9⟩ := h
  exact ⟨h1, h2, h3, h4, h5, h6, h7, h8.le (by omega), by omega⟩
theorem QLC.u {n : Nat} {C : CS} {T U U' I0 I1 I2 : Nat → Nat → Int32} (h : QLC n C T U I0 I1 I2) (hU : RU C U') : QLC n C T U' I0 I1 I2 := by
  obtain ⟨h1, h2, h3, h4, h5, h6, h7, h8, h9⟩ := h
  exact ⟨h1, hU, h3, h4, h5, h6, h7, h8, h9⟩
theorem WFM_sh {C C' : CS} (h : SAMEH C C') (hM : WFM C) : WFM C' := by
  unfold WFM
  rw [h.row 8 (by omega) (by omega) (fun b => by unfold isSt; simp), h.c0 (b := 2) (by omega) (by omega) (by omega)]
  exact hM
theorem WFU_cg {C C' : CS} (h8 : C' 0 8 = C 0 8) (h20 : C' 20 = C 20) (h21 : C' 21 = C 21) (hU : WFU C) : WFU C' := by
  unfold WFU
  rw [h8, ty_cg (E := C) (E' := C') (C 0 8) (fun k _ => ⟨by rw [h20], by rw [h21]⟩)]
  exact hU
theorem WFU_sh {C C' : CS} (h : SAMEH C C') (hU : WFU C) : WFU C' := WFU_cg (h.c0 (b := 8) (by omega) (by omega) (by omega)) (h.row 20 (by omega) (by omega) (fun b => by unfold isSt; simp)) (h.row 21 (by omega) (by omega) (fun b => by unfold isSt; simp)) hU
theorem QLC.sh {n : Nat} {C C' : CS} {T U I0 I1 I2 J0 J1 J2 : Nat → Nat → Int32} (h : QLC n C T U I0 I1 I2) (hs : SAMEH C C') (hP : WFP C') (hG : IMG C') (hB : ∀ n, BND n C → BND (n + 60) C') (hI : RI C' J0 J1 J2) : QLC (n + 60) C' T U J0 J1 J2 := by
  obtain ⟨h1, h2, h3, h4, h5, h6, h7, h8, h9⟩ := h
  exact ⟨RT_sameh hs h1, RU_sh hs h2, hI, hG, hP, WFM_sh hs h6, WFU_sh hs h7, hB n h8, by omega⟩
theorem QLC.act {n : Nat} {C C' : CS} {T U I0 I1 I2 : Nat → Nat → Int32} (h : QLC n C T U I0 I1 I2) (ha : ACT C C') : QLC (n + 60) C' T U I0 I1 I2 := by
  obtain ⟨hs, hP, hB⟩ := ha
  have h6 : C' 0 6 = C 0 6 := hs.c0 (by omega) (by omega)
  refine h.sh hs.h hP (fun i hi => ?_) hB (fun i hi => ?_)
  · rw [hs.st]; exact h.2.2.2.1 i (by omega)
  · rw [hs.st]; exact h.2.2.1 i (by omega)
theorem QLC.t {n : Nat} {C C' : CS} {T T' U U' I0 I1 I2 : Nat → Nat → Int32} (h : QLC n C T U I0 I1 I2) (he : EQT C C') (hW' : WFC C') (hF : WFU C') (hT : RT C' T') (hU : RU C' U') : QLC (n + 60) C' T' U' I0 I1 I2 := by
  obtain ⟨h1, h2, h3, h4, h5, h6, h7, h8, h9⟩ := h
  have e6 : C' 0 6 = C 0 6 := he.c (by omega) (by omega) (by omega)
  have k8 : C' 0 8 ≤ 150 := by obtain ⟨_, _, _, _, _, _, _, _, h, _⟩ := hW'; exact h
  have k12 : C' 0 12 ≤ 601 := by obtain ⟨_, _, _, _, _, _, _, _, _, _, h, _⟩ := hW'; exact h
  obtain ⟨k9, k19⟩ := hW'.c9
  refine ⟨hT, hU, fun i hi => RS_t (he.st i) (h3 i (by omega)), fun i hi => ?_, WFP_t he h5, ?_, hF, BND_t he n h8, by omega⟩
  · obtain ⟨a1, a2⟩ := h4 i (by omega)
    exact ⟨WFC_t (he.st i) a1 k8 k9 k12 k19, WFP_t (he.st i) a2⟩
  · unfold WFM
    rw [he.r (a := 8) (by omega) (by omega) (by omega) (by omega), he.c (b := 2) (by omega) (by omega) (by omega)]
    exact h6
theorem RU_cg {C C' : CS} {U : Nat → Nat → Int32} (h8 : C' 0 8 = C 0 8) (h20 : C' 20 = C 20) (h21 : C' 21 = C 21) (hU : RU C U) : RU C' U := by
  unfold RU
  rw [h8, h20, h21]
  exact hU
theorem QLC.feed {n : Nat} {C C' : CS} {T T' U I0 I1 I2 : Nat → Nat → Int32} (h : QLC n C T U I0 I1 I2) (he : EQT C C') (hW' : WFC C') (h8 : C' 0 8 = C 0 8) (h20 : C' 20 = C 20) (h21 : C' 21 = C 21) (hT : RT C' T') : QLC (n + 60) C' T' U I0 I1 I2 :=
  h.t he hW' (WFU_cg h8 h20 h21 h.2.2.2.2.2.2.1) hT (RU_cg h8 h20 h21 h.2.1)
theorem QLC.txc {n : Nat} {C C' : CS} {T T' U I0 I1 I2 : Nat → Nat → Int32} (h : QLC n C T U I0 I1 I2) (hx : C' = C ∨ TXC C C') (hW' : WFC C') (hT : RT C' T') : QLC (n + 120) C' T' U I0 I1 I2 := by
  rcases hx with rfl | ⟨C1, f, ha, hf, rfl⟩
  · obtain ⟨h1, h2, h3, h4, h5, h6, h7, h8, h9⟩ := h
    exact ⟨hT, h2, h3, h4, h5, h6, h7, h8.le (by omega), by omega⟩
  · exact (h.act ha).feed (end_t C1 f) hW' (by unfold endC; rw [if_neg (by omega), if_neg (by omega)]) (funext fun b => by unfold endC; rw [if_neg (by omega), if_neg (by omega)]) (funext fun b => by unfold endC; rw [if_neg (by omega), if_neg (by omega)]) hT
theorem QLC.new {n : Nat} {C C' : CS} {T T' U U' I0 I1 I2 : Nat → Nat → Int32} (h : QLC n C T U I0 I1 I2) (hN : NEWC C') (hT : RT C' T') (hU : RU C' U') : QLC (n + 60) C' T' U' I0 I1 I2 := by
  obtain ⟨a1, a2, a3, a4, a5⟩ := hN
  have h9 : 99 ≤ n := h.2.2.2.2.2.2.2.2
  exact ⟨hT, hU, fun i hi => by omega, fun i hi => by omega, a1, a2, a3, a4.le (by omega), by omega⟩
