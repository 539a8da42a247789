/-! printed by program (gen/start3.py): the terms of the constant objects, and the conditions of the start, each by its place -/
def st_t0 : List Term := [(.static "YieldedHours$Word" "HOURS" "LYieldedHours$Word;"), (.static "YieldedHours$Word" "ROOM" "LYieldedHours$Word;"), (.static "YieldedHours$Word" "PERSON" "LYieldedHours$Word;"), (.static "YieldedHours$Word" "BUSY" "LYieldedHours$Word;"), (.static "YieldedHours$Word" "MEET" "LYieldedHours$Word;"), (.static "YieldedHours$Word" "WHO" "LYieldedHours$Word;"), (.static "YieldedHours$Word" "MAY" "LYieldedHours$Word;"), (.static "YieldedHours$Word" "FIXED" "LYieldedHours$Word;"), (.static "YieldedHours$Word" "MOVED" "LYieldedHours$Word;"), (.static "YieldedHours$Word" "HOLD" "LYieldedHours$Word;"), (.static "YieldedHours$Word" "OR" "LYieldedHours$Word;"), (.static "YieldedHours$Word" "AND" "LYieldedHours$Word;"), (.static "YieldedHours$Word" "NOT" "LYieldedHours$Word;"), (.static "YieldedHours$Word" "COST" "LYieldedHours$Word;"), (.static "YieldedHours$Word" "TIMES" "LYieldedHours$Word;"), (.static "YieldedHours$Word" "SIZE" "LYieldedHours$Word;"), (.static "YieldedHours$Word" "NUMBER" "LYieldedHours$Word;"), (.static "YieldedHours$Word" "MYCOST" "LYieldedHours$Word;"), (.static "YieldedHours$Word" "MYTIMES" "LYieldedHours$Word;"), (.static "YieldedHours$Word" "MYSIZE" "LYieldedHours$Word;"), (.static "YieldedHours$Word" "MYNUMBER" "LYieldedHours$Word;"), (.static "YieldedHours$Word" "HOUR" "LYieldedHours$Word;"), (.static "YieldedHours$Word" "STEP" "LYieldedHours$Word;")]
def st_t1 : List Term := [(.string "YieldedHours$Word" 103), (.string "YieldedHours$Word" 109), (.string "YieldedHours$Word" 112), (.string "YieldedHours$Word" 115), (.string "YieldedHours$Word" 118), (.string "YieldedHours$Word" 121), (.string "YieldedHours$Word" 124), (.string "YieldedHours$Word" 127), (.string "YieldedHours$Word" 130), (.string "YieldedHours$Word" 133), (.string "YieldedHours$Word" 136), (.string "YieldedHours$Word" 139), (.string "YieldedHours$Word" 142), (.string "YieldedHours$Word" 145), (.string "YieldedHours$Word" 148), (.string "YieldedHours$Word" 151), (.string "YieldedHours$Word" 154), (.string "YieldedHours$Word" 157), (.string "YieldedHours$Word" 160), (.string "YieldedHours$Word" 163), (.string "YieldedHours$Word" 166), (.string "YieldedHours$Word" 169), (.string "YieldedHours$Word" 172), (.string "YieldedHoursModel" 211), (.string "YieldedHoursModel" 223), (.string "YieldedHoursModel" 228), (.string "YieldedHoursModel" 230), (.string "YieldedHoursModel" 231), (.string "YieldedHoursModel" 232), (.string "YieldedHoursModel" 233), (.string "YieldedHoursModel" 235), (.string "YieldedHoursModel" 237), (.string "YieldedHoursModel" 243), (.string "YieldedHoursModel" 282), (.string "YieldedHoursModel" 290), (.string "YieldedHoursModel" 298), (.string "YieldedHoursModel" 309), (.string "YieldedHoursModel" 315), (.string "YieldedHoursModel" 317), (.string "YieldedHoursModel" 319), (.string "YieldedHoursModel" 320), (.string "YieldedHoursModel" 321), (.string "YieldedHoursModel" 323), (.string "YieldedHoursModel" 325), (.string "YieldedHoursModel" 327), (.string "YieldedHoursModel" 329)]
def st_tm (id : Nat) : Term := if id = 2752 then (.static "YieldedHours" "WORDS" "[LYieldedHours$Word;") else if id = 2753 then (.static "YieldedHours$1" "$SwitchMap$YieldedHours$Word" "[I") else if id < 2583 then st_t0.getD (id - 2560) (.int 0) else if id < 2670 then st_t1.getD (id - 2624) (.int 0) else .field (st_t1.getD (id - 2688) (.int 0)) "java/lang/String" "value" "[B"
def flA : Cond → List Cond → List Cond
  | .and a b, acc => flA a (flA b acc)
  | c, acc => c :: acc
theorem flA_of {args : Array Value} {s : State} (T : Cond) : ∀ acc, T.before args s = true → (∀ c ∈ acc, c.before args s = true) → ∀ c ∈ flA T acc, c.before args s = true := by
  induction T with
  | and a b iha ihb =>
    intro acc h ha
    rw [Cond.before_and, Bool.and_eq_true] at h
    exact iha _ h.1 (ihb _ h.2 ha)
  | _ => intro acc h ha c hc; rcases List.mem_cons.mp hc with rfl | hc <;> first | exact h | exact ha _ hc
def st_nx : List Cond := flA (Jvm.Cond.and given_1 narrow_1) []
def st_bw : List Nat := [80, 87, 95, 104, 114, 125, 137, 150, 164, 179, 74, 69, 65, 195, 212, 230, 249, 269, 290, 312, 335, 359, 384]
def st_bs : List Nat := [658, 668, 677, 688, 697, 706, 714, 722, 732, 742, 651, 643, 635, 751, 760, 770, 779, 790, 801, 813, 824, 837, 846, 465, 488, 473, 438, 447, 455, 481, 495, 504, 513, 629, 622, 521, 528, 540, 551, 559, 568, 576, 586, 596, 606, 614]
def st_bz : List Nat := [34, 36, 37, 38, 0, 0, 0, 0, 0, 0, 0, 0, 0, 0, 0, 0, 0, 0, 0, 0, 0, 0, 0, 0, 0, 0, 0, 0, 0, 0]
def st_bo : List Nat := [0, 659, 0, 669, 0, 678, 0, 689, 0, 698, 0, 707, 0, 715, 0, 723, 0, 733, 0, 743, 0, 652, 0, 644, 0, 636, 0, 752, 0, 761, 0, 771, 0, 780, 0, 791, 0, 802, 0, 814, 0, 825, 0, 838, 0, 847, 0, 466, 0, 489, 0, 474, 0, 439, 0, 448, 0, 456, 0, 482, 0, 496, 0, 505, 0, 514, 0, 630, 0, 623, 0, 522, 0, 529, 0, 541, 0, 552, 0, 560, 0, 569, 0, 577, 0, 587, 0, 597, 0, 607, 0, 615, 82, 83, 81, 89, 90, 88, 97, 98, 96, 106, 107, 105, 116, 117, 115, 127, 128, 126, 139, 140, 138, 152, 153, 151, 166, 167, 165, 181, 182, 180, 76, 77, 75, 71, 72, 70, 67, 68, 66, 197, 198, 196, 214, 215, 213, 232, 233, 231, 251, 252, 250, 271, 272, 270, 292, 293, 291, 314, 315, 313, 337, 338, 336, 361, 362, 360, 386, 387, 385]
def st_bn : List Nat := [0, 94, 102, 111, 121, 132, 144, 157, 171, 186, 86, 85, 84, 202, 219, 237, 256, 276, 297, 319, 342, 366, 391, 94, 0, 103, 112, 122, 133, 145, 158, 172, 187, 93, 92, 91, 203, 220, 238, 257, 277, 298, 320, 343, 367, 392, 102, 103, 0, 113, 123, 134, 146, 159, 173, 188, 101, 100, 99, 204, 221, 239, 258, 278, 299, 321, 344, 368, 393, 111, 112, 113, 0, 124, 135, 147, 160, 174, 189, 110, 109, 108, 205, 222, 240, 259, 279, 300, 322, 345, 369, 394, 121, 122, 123, 124, 0, 136, 148, 161, 175, 190, 120, 119, 118, 206, 223, 241, 260, 280, 301, 323, 346, 370, 395, 132, 133, 134, 135, 136, 0, 149, 162, 176, 191, 131, 130, 129, 207, 224, 242, 261, 281, 302, 324, 347, 371, 396, 144, 145, 146, 147, 148, 149, 0, 163, 177, 192, 143, 142, 141, 208, 225, 243, 262, 282, 303, 325, 348, 372, 397, 157, 158, 159, 160, 161, 162, 163, 0, 178, 193, 156, 155, 154, 209, 226, 244, 263, 283, 304, 326, 349, 373, 398, 171, 172, 173, 174, 175, 176, 177, 178, 0, 194, 170, 169, 168, 210, 227, 245, 264, 284, 305, 327, 350, 374, 399, 186, 187, 188, 189, 190, 191, 192, 193, 194, 0, 185, 184, 183, 211, 228, 246, 265, 285, 306, 328, 351, 375, 400, 86, 93, 101, 110, 120, 131, 143, 156, 170, 185, 0, 79, 78, 201, 218, 236, 255, 275, 296, 318, 341, 365, 390, 85, 92, 100, 109, 119, 130, 142, 155, 169, 184, 79, 0, 73, 200, 217, 235, 254, 274, 295, 317, 340, 364, 389, 84, 91, 99, 108, 118, 129, 141, 154, 168, 183, 78, 73, 0, 199, 216, 234, 253, 273, 294, 316, 339, 363, 388, 202, 203, 204, 205, 206, 207, 208, 209, 210, 211, 201, 200, 199, 0, 229, 247, 266, 286, 307, 329, 352, 376, 401, 219, 220, 221, 222, 223, 224, 225, 226, 227, 228, 218, 217, 216, 229, 0, 248, 267, 287, 308, 330, 353, 377, 402, 237, 238, 239, 240, 241, 242, 243, 244, 245, 246, 236, 235, 234, 247, 248, 0, 268, 288, 309, 331, 354, 378, 403, 256, 257, 258, 259, 260, 261, 262, 263, 264, 265, 255, 254, 253, 266, 267, 268, 0, 289, 310, 332, 355, 379, 404, 276, 277, 278, 279, 280, 281, 282, 283, 284, 285, 275, 274, 273, 286, 287, 288, 289, 0, 311, 333, 356, 380, 405, 297, 298, 299, 300, 301, 302, 303, 304, 305, 306, 296, 295, 294, 307, 308, 309, 310, 311, 0, 334, 357, 381, 406, 319, 320, 321, 322, 323, 324, 325, 326, 327, 328, 318, 317, 316, 329, 330, 331, 332, 333, 334, 0, 358, 382, 407, 342, 343, 344, 345, 346, 347, 348, 349, 350, 351, 341, 340, 339, 352, 353, 354, 355, 356, 357, 358, 0, 383, 408, 366, 367, 368, 369, 370, 371, 372, 373, 374, 375, 365, 364, 363, 376, 377, 378, 379, 380, 381, 382, 383, 0, 409, 391, 392, 393, 394, 395, 396, 397, 398, 399, 400, 390, 389, 388, 401, 402, 403, 404, 405, 406, 407, 408, 409, 0]
def st_is (i : Nat) (c : Cond) : Bool := match st_nx[i]? with
  | some d => decide (d = c)
  | none => false
theorem st_mem {b : Nat} {s : State} (h : (Jvm.Cond.and given_1 narrow_1).before #[Value.ref b] s = true) {i : Nat} {c : Cond} (hc : st_is i c = true) : c.before #[Value.ref b] s = true := by
  unfold st_is at hc
  split at hc
  · next d hd =>
    rw [← of_decide_eq_true hc]
    exact flA_of _ [] h (fun _ hm => absurd hm List.not_mem_nil) _ (List.mem_of_getElem? hd)
  · cases hc
def st_cw (k : Nat) : Bool := st_is (st_bw.getD k 0) (.exactly (st_tm (2560 + k)) "YieldedHours$Word")
def st_cs (k : Nat) : Bool := st_is (st_bs.getD k 0) (.exactly (st_tm (2624 + k)) "java/lang/String") && st_is (st_bs.getD k 0 + 1) (.eq (.field (st_tm (2624 + k)) "java/lang/String" "coder" "B") (.int 0)) && st_is (st_bs.getD k 0 + 2) (.arrayOf (st_tm (2688 + k)) .byte) && st_is (st_bs.getD k 0 + 3) (.eq (.length (st_tm (2688 + k))) (.int (Int32.ofNat (a_sz (2688 + k))))) && (List.range (a_sz (2688 + k))).all (fun j => st_is (st_bs.getD k 0 + 4 + j) (.eq (.elem (st_tm (2688 + k)) (.int (Int32.ofNat j))) (.int (a_ca (2688 + k) j))))
theorem nx_w : (List.range 23).all st_cw = true := by decide +kernel
theorem nx_s : (List.range 46).all st_cs = true := by decide +kernel
theorem nx_t : (st_is 8 (.arrayOf (st_tm 2752) (.object "YieldedHours$Word")) && st_is 9 (.eq (.length (st_tm 2752)) (.int 23)) && (List.range 23).all (fun j => st_is (11 + j) (.eq (.elem (st_tm 2752) (.int (Int32.ofNat j))) (st_tm (a_ra 2752 j)))) && st_is 40 (.arrayOf (st_tm 2753) .int) && st_is 41 (.eq (.length (st_tm 2753)) (.int (Int32.ofNat (a_sz 2753)))) && (List.range (a_sz 2753)).all (fun j => st_is (42 + j) (.eq (.elem (st_tm 2753) (.int (Int32.ofNat j))) (.int (a_ca 2753 j))))) = true := by decide +kernel
/-- the constant objects' numbers -/
def st_gd (id : Nat) : Bool := (Nat.ble 2560 id && Nat.ble id 2582) || (Nat.ble 2624 id && Nat.ble id 2669) || (Nat.ble 2688 id && Nat.ble id 2733) || Nat.beq id 2752 || Nat.beq id 2753
abbrev st_fm : Term := .static "jdk/internal/util/Preconditions" "SIOOBE_FORMATTER" "Ljava/util/function/BiFunction;"
def st_cz (k : Nat) (q : String × String × String × Value) : Bool := match q.2.2.2 with
  | .int v => st_is (st_bz.getD k 0) (.eq (.static q.1 q.2.1 q.2.2.1) (.int v))
  | .ref id => (decide (id = 2816) && decide (Term.static q.1 q.2.1 q.2.2.1 = st_fm)) || (st_gd id && decide (st_tm id = .static q.1 q.2.1 q.2.2.1))
  | _ => false
def st_co (k : Nat) (q : String × String × String × Value × Nat) : Bool := match q.2.2.2.1 with
  | .int v => st_is (st_bo.getD k 0) (.eq (.field (st_tm q.2.2.2.2) q.1 q.2.1 q.2.2.1) (.int v))
  | .ref id => st_gd id && (st_is (st_bo.getD k 0) (.eq (.field (st_tm q.2.2.2.2) q.1 q.2.1 q.2.2.1) (st_tm id)) || decide (st_tm id = .field (st_tm q.2.2.2.2) q.1 q.2.1 q.2.2.1))
  | _ => false
theorem nx_z : (List.range 30).all (fun k => (a_Zs[k]?).elim true (st_cz k)) = true := by decide +kernel
theorem nx_o : (List.range 161).all (fun k => (a_OFs[k]?).elim true (fun q => st_gd q.2.2.2.2 && st_co k q)) = true := by decide +kernel
theorem nx_zl : a_Zs.length = 30 := by decide +kernel
theorem nx_ol : a_OFs.length = 161 := by decide +kernel
theorem nx_r : a_Rs.all (fun q => st_gd q.2.2.2 && decide (st_tm q.2.2.2 = .string q.1 q.2.1) && lw_tbl.contains (.stringRef q.1 q.2.1 q.2.2.1)) = true := by decide +kernel
theorem nx_l : a_Zs.all (fun q => lw_tbl.contains (.laysStatic q.1 q.2.1 q.2.2.1) && lw_tbl.contains (.initialized q.1)) = true := by decide +kernel
def st_cn (i j : Nat) : Bool := decide (i = j) || st_is (st_bn.getD (23 * i + j) 0) (.not (.eq (st_tm (2560 + i)) (st_tm (2560 + j)))) || st_is (st_bn.getD (23 * i + j) 0) (.not (.eq (st_tm (2560 + j)) (st_tm (2560 + i))))
theorem nx_ne : (List.range 23).all (fun i => (List.range 23).all (fun j => st_cn i j)) = true := by decide +kernel
theorem nx_q : (st_is 35 (.isRef st_fm) && st_is 4 (.isRef (.static Bundle.tN "UNASSIGNED_STACK" Bundle.steD)) && st_is 5 (.isRef (.static Bundle.tN "SUPPRESSED_SENTINEL" Bundle.listD)) && st_is 436 (.not (.castable "java/lang/IllegalArgumentException" "java/util/NoSuchElementException"))) = true := by decide +kernel
theorem nx_g : (List.range 2754).all (fun id => !(st_gd id) || decide (a_sq id = 0)) = true := by decide +kernel
theorem nx_a : (List.range 23).all (fun j => Nat.ble 2560 (a_ra 2752 j) && Nat.ble (a_ra 2752 j) 2582) = true := by decide +kernel
theorem nx_k : a_vw.all (fun q => lw_tbl.contains (.instantiable q.1 q.2.2)) = true := by decide +kernel
theorem nx_h : (lw_tbl.contains (.arrayClass .int) && lw_tbl.contains (.arrayClass .boolean) && lw_tbl.contains (.arrayClass .long) && lw_tbl.contains (.arrayOver (.object "YieldedHours$State")) && lw_tbl.contains (.laysStatic Bundle.tN "UNASSIGNED_STACK" Bundle.steD) && lw_tbl.contains (.laysStatic Bundle.tN "SUPPRESSED_SENTINEL" Bundle.listD) && lw_tbl.contains (.initialized Bundle.tN)) = true := by decide +kernel
/-! what the start's conditions give: the constant objects' addresses and what they hold -/
/-- the address of a constant object, out of its term -/
def st_ad (b : Nat) (s : State) (id : Nat) : Nat := match (st_tm id).eval #[Value.ref b] s none [] s with
  | some (.ref a) => a
  | _ => 0
theorem st_ad_of {b : Nat} {s : State} {id a : Nat} (h : (st_tm id).eval #[Value.ref b] s none [] s = some (.ref a)) : st_ad b s id = a := by
  unfold st_ad
  rw [h]
/-- what may change: what is made from the start on -/
def st_A (s : State) : Nat → Prop := fun q => s.heap.size ≤ q
theorem st_nA (s : State) : ∀ a : Nat, a < s.heap.size → ¬ st_A s a := fun a h g => by
  have g : s.heap.size ≤ a := g
  omega
theorem st_W {b : Nat} {s : State} (h : (Jvm.Cond.and given_1 narrow_1).before #[Value.ref b] s = true) {k : Nat} (hk : k < 23) : (st_tm (2560 + k)).eval #[Value.ref b] s none [] s = some (.ref (st_ad b s (2560 + k))) ∧ va_O "YieldedHours$Word" (st_ad b s (2560 + k)) (st_A s) s s.heap := by
  have hx := st_mem h (show st_is (st_bw.getD k 0) (.exactly (st_tm (2560 + k)) "YieldedHours$Word") = true from List.all_eq_true.mp nx_w k (List.mem_range.mpr hk))
  obtain ⟨a, c, cA, kA, q1, q2, q3, q4, q5, q6, -⟩ := Cond.exactly_spec (args := #[Value.ref b]) (first := s) (o := none) (s := s) (idx := []) (t := st_tm (2560 + k)) (cls := "YieldedHours$Word") hx
  rw [st_ad_of q1]
  exact ⟨q1, va_Oof hx q1 (st_nA s)⟩
theorem st_S {b : Nat} {s : State} (h : (Jvm.Cond.and given_1 narrow_1).before #[Value.ref b] s = true) {k : Nat} (hk : k < 46) : (st_tm (2624 + k)).eval #[Value.ref b] s none [] s = some (.ref (st_ad b s (2624 + k))) ∧ (st_tm (2688 + k)).eval #[Value.ref b] s none [] s = some (.ref (st_ad b s (2688 + k))) ∧ va_O "java/lang/String" (st_ad b s (2624 + k)) (st_A s) s s.heap ∧ va_T .byte (st_ad b s (2688 + k)) (a_sz (2688 + k)) (fun j => .int (a_ca (2688 + k) j)) (st_A s) s s.heap := by
  have h0 := List.all_eq_true.mp nx_s k (List.mem_range.mpr hk)
  simp only [st_cs, Bool.and_eq_true] at h0
  obtain ⟨⟨⟨⟨h1, h2⟩, h3⟩, h4⟩, h5⟩ := h0
  have hx := st_mem h h1
  obtain ⟨a, c, cA, kA, q1, q2, q3, q4, q5, q6, -⟩ := Cond.exactly_spec (args := #[Value.ref b]) (first := s) (o := none) (s := s) (idx := []) (t := st_tm (2624 + k)) (cls := "java/lang/String") hx
  have hsz : ∀ k, k < 46 → a_sz (2688 + k) < 2 ^ 31 := by decide +kernel
  obtain ⟨t, ht, hT⟩ := va_Tof (f := fun j => .int (a_ca (2688 + k) j)) (A := st_A s) (hsz k hk) (st_mem h h3) (va_eqt (st_mem h h4)) (fun j hj => va_eqt (st_mem h (List.all_eq_true.mp h5 j (List.mem_range.mpr hj)))) (st_nA s)
  rw [st_ad_of q1, st_ad_of ht]
  exact ⟨q1, ht, va_Oof hx q1 (st_nA s), hT⟩
theorem st_ra {j : Nat} (hj : j < 23) : ∃ k, k < 23 ∧ a_ra 2752 j = 2560 + k := by
  have h := List.all_eq_true.mp nx_a j (List.mem_range.mpr hj)
  simp only [Bool.and_eq_true, Nat.ble_eq] at h
  exact ⟨a_ra 2752 j - 2560, by omega, by omega⟩
theorem st_TW {b : Nat} {s : State} (h : (Jvm.Cond.and given_1 narrow_1).before #[Value.ref b] s = true) : (st_tm 2752).eval #[Value.ref b] s none [] s = some (.ref (st_ad b s 2752)) ∧ va_T (.object "YieldedHours$Word") (st_ad b s 2752) 23 (fun j => .ref (st_ad b s (a_ra 2752 j))) (st_A s) s s.heap := by
  have h0 := nx_t
  simp only [Bool.and_eq_true] at h0
  obtain ⟨⟨⟨⟨⟨h1, h2⟩, h3⟩, -⟩, -⟩, -⟩ := h0
  obtain ⟨t, ht, hT⟩ := va_Tof (N := 23) (f := fun j => .ref (st_ad b s (a_ra 2752 j))) (A := st_A s) (by decide) (st_mem h h1) (va_eqt (st_mem h h2)) (fun j hj => by
    obtain ⟨k, hk, e⟩ := st_ra hj
    have h4 := st_mem h (List.all_eq_true.mp h3 j (List.mem_range.mpr hj))
    rw [e] at h4 ⊢
    exact va_eqv h4 (st_W h hk).1) (st_nA s)
  rw [st_ad_of ht]
  exact ⟨ht, hT⟩
theorem st_TS {b : Nat} {s : State} (h : (Jvm.Cond.and given_1 narrow_1).before #[Value.ref b] s = true) : (st_tm 2753).eval #[Value.ref b] s none [] s = some (.ref (st_ad b s 2753)) ∧ va_T .int (st_ad b s 2753) (a_sz 2753) (fun j => .int (a_ca 2753 j)) (st_A s) s s.heap := by
  have h0 := nx_t
  simp only [Bool.and_eq_true] at h0
  obtain ⟨⟨⟨⟨⟨-, -⟩, -⟩, h4⟩, h5⟩, h6⟩ := h0
  have hsz : a_sz 2753 < 2 ^ 31 := by decide +kernel
  obtain ⟨t, ht, hT⟩ := va_Tof (f := fun j => .int (a_ca 2753 j)) (A := st_A s) hsz (st_mem h h4) (va_eqt (st_mem h h5)) (fun j hj => va_eqt (st_mem h (List.all_eq_true.mp h6 j (List.mem_range.mpr hj)))) (st_nA s)
  rw [st_ad_of ht]
  exact ⟨ht, hT⟩
theorem st_gdc {id : Nat} (h : st_gd id = true) : (∃ k, k < 23 ∧ id = 2560 + k) ∨ (∃ k, k < 46 ∧ id = 2624 + k) ∨ (∃ k, k < 46 ∧ id = 2688 + k) ∨ id = 2752 ∨ id = 2753 := by
  simp only [st_gd, Bool.or_eq_true, Bool.and_eq_true, Nat.ble_eq, Nat.beq_eq] at h
  rcases h with (((h | h) | h) | h) | h
  · exact Or.inl ⟨id - 2560, by omega, by omega⟩
  · exact Or.inr (Or.inl ⟨id - 2624, by omega, by omega⟩)
  · exact Or.inr (Or.inr (Or.inl ⟨id - 2688, by omega, by omega⟩))
  · exact Or.inr (Or.inr (Or.inr (Or.inl h)))
  · exact Or.inr (Or.inr (Or.inr (Or.inr h)))
theorem st_E {b : Nat} {s : State} (h : (Jvm.Cond.and given_1 narrow_1).before #[Value.ref b] s = true) {id : Nat} (hi : st_gd id = true) : (st_tm id).eval #[Value.ref b] s none [] s = some (.ref (st_ad b s id)) := by
  rcases st_gdc hi with ⟨k, hk, rfl⟩ | ⟨k, hk, rfl⟩ | ⟨k, hk, rfl⟩ | rfl | rfl
  · exact (st_W h hk).1
  · exact (st_S h hk).1
  · exact (st_S h hk).2.1
  · exact (st_TW h).1
  · exact (st_TS h).1
/-- the start's numbers -/
def st_G (b L : Nat) (xs : Nat → Int32) (s : State) (fm : Value) (dC : Nat → ClassId) (dI : Nat → Nat → Nat) (aC : Nat → ClassId) : AG := (s.heap.size, fun id => if id = 1344 then b else st_ad b s id, fm, dC, dI, aC, b, L, xs)
theorem st_gC {b L : Nat} {xs : Nat → Int32} {s : State} {fm : Value} {dC : Nat → ClassId} {dI : Nat → Nat → Nat} {aC : Nat → ClassId} {id : Nat} (h : id ≠ 1344) : gC (st_G b L xs s fm dC dI aC) id = st_ad b s id := if_neg h
theorem st_g0 {b L : Nat} {xs : Nat → Int32} {s : State} {fm : Value} {dC : Nat → ClassId} {dI : Nat → Nat → Nat} {aC : Nat → ClassId} : gC (st_G b L xs s fm dC dI aC) 1344 = b := by
  show (if (1344 : Nat) = 1344 then b else st_ad b s 1344) = b
  rw [if_pos rfl]
theorem st_gn {id : Nat} (h : st_gd id = true) : id ≠ 0 ∧ id ≠ 2816 ∧ id ≠ 1344 ∧ a_sq id = 0 := by
  have hl : id < 2754 ∧ id ≠ 0 ∧ id ≠ 2816 ∧ id ≠ 1344 := by
    rcases st_gdc h with ⟨k, hk, rfl⟩ | ⟨k, hk, rfl⟩ | ⟨k, hk, rfl⟩ | rfl | rfl <;> omega
  have h2 := List.all_eq_true.mp nx_g id (List.mem_range.mpr hl.1)
  rw [h] at h2
  exact ⟨hl.2.1, hl.2.2.1, hl.2.2.2, of_decide_eq_true h2⟩
theorem st_cv {b L : Nat} {xs : Nat → Int32} {s : State} {fm : Value} {dC : Nat → ClassId} {dI : Nat → Nat → Nat} {aC : Nat → ClassId} {id : Nat} (h : st_gd id = true) : cv (st_G b L xs s fm dC dI aC) (.ref id) = .ref (st_ad b s id) := by
  obtain ⟨h0, h1, h2, hq⟩ := st_gn h
  show (if id = 0 then Value.null else if id = 2816 then fm else Value.ref (if a_sq id = 0 then (if id = 1344 then b else st_ad b s id) else s.heap.size + (a_sq id - 1))) = _
  rw [if_neg h0, if_neg h1, if_pos hq, if_neg h2]
theorem st_Zs {b L : Nat} {xs : Nat → Int32} {s : State} {fm : Value} {dC : Nat → ClassId} {dI : Nat → Nat → Nat} {aC : Nat → ClassId} (h : (Jvm.Cond.and given_1 narrow_1).before #[Value.ref b] s = true) (hts : ∀ w ∈ lw_tbl, w.before #[Value.ref b] s = true) (hfm : st_fm.eval #[Value.ref b] s none [] s = some fm) : ∀ q ∈ a_Zs, va_Z q.1 q.2.1 q.2.2.1 (cv (st_G b L xs s fm dC dI aC) q.2.2.2) (st_A s) s s.heap := by
  intro q hq
  obtain ⟨k, hk⟩ := List.mem_iff_getElem?.mp hq
  have hl : k < 30 := by
    have := (List.getElem?_eq_some_iff.mp hk).1
    rw [nx_zl] at this
    exact this
  have hz := List.all_eq_true.mp nx_z k (List.mem_range.mpr hl)
  rw [hk] at hz
  have hw := List.all_eq_true.mp nx_l q hq
  simp only [Bool.and_eq_true] at hw
  have w1 := hts _ (List.contains_iff_mem.mp hw.1)
  have w2 := hts _ (List.contains_iff_mem.mp hw.2)
  obtain ⟨C, n, d, v⟩ := q
  cases v with
  | int v => exact va_Zof w1 w2 (va_eqt (st_mem h (show st_is (st_bz.getD k 0) (.eq (.static C n d) (.int v)) = true from hz))) (st_nA s)
  | ref id =>
    have hz : ((decide (id = 2816) && decide (Term.static C n d = st_fm)) || (st_gd id && decide (st_tm id = .static C n d))) = true := hz
    simp only [Bool.or_eq_true, Bool.and_eq_true, decide_eq_true_eq] at hz
    rcases hz with ⟨rfl, e⟩ | ⟨hg, e⟩
    · exact va_Zof w1 w2 (by rw [e]; exact hfm) (st_nA s)
    · show va_Z C n d (cv (st_G b L xs s fm dC dI aC) (.ref id)) (st_A s) s s.heap
      rw [st_cv hg]
      exact va_Zof w1 w2 (by rw [← e]; exact st_E h hg) (st_nA s)
  | _ => exact absurd (show false = true from hz) Bool.false_ne_true
theorem st_OFs {b L : Nat} {xs : Nat → Int32} {s : State} {fm : Value} {dC : Nat → ClassId} {dI : Nat → Nat → Nat} {aC : Nat → ClassId} (h : (Jvm.Cond.and given_1 narrow_1).before #[Value.ref b] s = true) : ∀ q ∈ a_OFs, va_OF q.1 q.2.1 q.2.2.1 (cv (st_G b L xs s fm dC dI aC) q.2.2.2.1) (gC (st_G b L xs s fm dC dI aC) q.2.2.2.2) (st_A s) s s.heap := by
  intro q hq
  obtain ⟨k, hk⟩ := List.mem_iff_getElem?.mp hq
  have hl : k < 161 := by
    have := (List.getElem?_eq_some_iff.mp hk).1
    rw [nx_ol] at this
    exact this
  have hz := List.all_eq_true.mp nx_o k (List.mem_range.mpr hl)
  rw [hk] at hz
  obtain ⟨C, n, d, v, o⟩ := q
  have hz : (st_gd o && st_co k (C, n, d, v, o)) = true := hz
  rw [Bool.and_eq_true] at hz
  obtain ⟨ho, hz⟩ := hz
  have e0 := st_E h ho
  show va_OF C n d (cv (st_G b L xs s fm dC dI aC) v) (gC (st_G b L xs s fm dC dI aC) o) (st_A s) s s.heap
  rw [st_gC (st_gn ho).2.2.1]
  cases v with
  | int v => exact vk_OFof e0 (va_eqt (st_mem h (show st_is (st_bo.getD k 0) (.eq (.field (st_tm o) C n d) (.int v)) = true from hz))) (st_nA s)
  | ref id =>
    have hz : (st_gd id && (st_is (st_bo.getD k 0) (.eq (.field (st_tm o) C n d) (st_tm id)) || decide (st_tm id = .field (st_tm o) C n d))) = true := hz
    simp only [Bool.or_eq_true, Bool.and_eq_true, decide_eq_true_eq] at hz
    obtain ⟨hg, hz⟩ := hz
    rw [st_cv hg]
    rcases hz with hz | e
    · exact vk_OFof e0 (va_eqv (st_mem h hz) (st_E h hg)) (st_nA s)
    · exact vk_OFof e0 (by rw [← e]; exact st_E h hg) (st_nA s)
  | _ => exact absurd (show false = true from hz) Bool.false_ne_true
theorem st_Rs {b L : Nat} {xs : Nat → Int32} {s : State} {fm : Value} {dC : Nat → ClassId} {dI : Nat → Nat → Nat} {aC : Nat → ClassId} (h : (Jvm.Cond.and given_1 narrow_1).before #[Value.ref b] s = true) (hts : ∀ w ∈ lw_tbl, w.before #[Value.ref b] s = true) : ∀ q ∈ a_Rs, vk_R q.1 q.2.1 q.2.2.1 (gC (st_G b L xs s fm dC dI aC) q.2.2.2) s := by
  intro q hq
  have h0 := List.all_eq_true.mp nx_r q hq
  simp only [Bool.and_eq_true, decide_eq_true_eq] at h0
  obtain ⟨⟨hg, e⟩, hw⟩ := h0
  rw [st_gC (st_gn hg).2.2.1]
  exact vk_R.of (hts _ (List.contains_iff_mem.mp hw)) (by rw [← e]; exact st_E h hg)
/-- the classes, with their fields' places, and the classes of arrays -/
theorem st_K {b : Nat} {s : State} (hts : ∀ w ∈ lw_tbl, w.before #[Value.ref b] s = true) : ∃ (dC : Nat → ClassId) (dI : Nat → Nat → Nat) (aC : Nat → ClassId), va_K (dC, dI) a_vw [(aC 32, .int), (aC 33, .boolean), (aC 34, .object "YieldedHours$State"), (aC 35, .long)] s := by
  have hk : ∀ c : Nat, ∃ x : ClassId × (Nat → Nat), ∀ q : vw_C, a_vw[c]? = some q → u_Kn s q.1 q.2.1 q.2.2 x.1 x.2 := by
    intro c
    cases hq : a_vw[c]? with
    | none => exact ⟨(0, fun _ => 0), fun q h => by cases h⟩
    | some q =>
      obtain ⟨cC, iS, h⟩ := u_known (ws := lw_tbl) (C := q.1) (T := q.2.1) (N := q.2.2) hts (fun w hw => (List.mem_filter.mp (a_lay hq w hw)).1) (hts _ (List.contains_iff_mem.mp (List.all_eq_true.mp nx_k q (List.mem_of_getElem? hq))))
      exact ⟨(cC, iS), fun q' h' => by cases h'; exact h⟩
  have h0 := nx_h
  simp only [Bool.and_eq_true] at h0
  obtain ⟨⟨⟨⟨⟨⟨a1, a2⟩, a3⟩, a4⟩, -⟩, -⟩, -⟩ := h0
  obtain ⟨c1, k1, p1, f1, f2, f3⟩ := Cond.arrayClass_spec (hts _ (List.contains_iff_mem.mp a1))
  obtain ⟨c2, k2, p2, g1, g2, g3⟩ := Cond.arrayClass_spec (hts _ (List.contains_iff_mem.mp a2))
  obtain ⟨c4, k4, p4, j1, j2, j3⟩ := Cond.arrayClass_spec (hts _ (List.contains_iff_mem.mp a3))
  obtain ⟨p3, c3, k3, h1, -, h3, h4, h5⟩ := Cond.arrayOver_spec (hts _ (List.contains_iff_mem.mp a4))
  refine ⟨fun c => (Classical.choose (hk c)).1, fun c => (Classical.choose (hk c)).2, fun k => match k with | 32 => c1 | 33 => c2 | 34 => c3 | _ => c4, fun c q h => Classical.choose_spec (hk c) q h, fun k q h => ?_⟩
  rcases k with _ | _ | _ | _ | k
  · obtain rfl := Option.some.inj h
    exact ⟨fun n z => ⟨fun k h => (by cases h), k1, f2, p1, f3⟩, f1⟩
  · obtain rfl := Option.some.inj h
    exact ⟨fun n z => ⟨fun k h => (by cases h), k2, g2, p2, g3⟩, g1⟩
  · obtain rfl := Option.some.inj h
    exact ⟨fun n z => ⟨fun k h => (by cases h), k3, h3, p3, h4⟩, k3, p3, h3, h4, h1, h5⟩
  · obtain rfl := Option.some.inj h
    exact ⟨fun n z => ⟨fun k h => (by cases h), k4, j2, p4, j3⟩, j1⟩
  · cases h
/-- all that is fixed, at the law's entry -/
theorem st_SF {b L : Nat} {xs : Nat → Int32} {s : State} (h : (Jvm.Cond.and given_1 narrow_1).before #[Value.ref b] s = true) (hts : ∀ w ∈ lw_tbl, w.before #[Value.ref b] s = true) (hX : va_X b L xs s s.heap) (hb : b < s.heap.size) : ∃ G : AG, SF G s s.heap ∧ GOK G ∧ gB G = s.heap.size ∧ gS G = b ∧ gL G = L ∧ gX G = xs := by
  obtain ⟨dC, dI, aC, hK⟩ := st_K hts
  have h0 := nx_q
  simp only [Bool.and_eq_true] at h0
  obtain ⟨⟨⟨q1, q2⟩, q3⟩, q4⟩ := h0
  have h9 := nx_h
  simp only [Bool.and_eq_true] at h9
  obtain ⟨⟨⟨⟨⟨⟨-, -⟩, -⟩, a4⟩, a5⟩, a6⟩, a7⟩ := h9
  obtain ⟨fm, hfm, hrf⟩ := Cond.isRef_spec (st_mem h q1)
  refine ⟨st_G b L xs s fm dC dI aC, ⟨hK, st_Zs h hts hfm, st_OFs h, st_Rs h hts, fun k hk => ?_, fun k hk => ?_, ?_, ?_, ⟨hX, hb, st_nA s b hb⟩, ⟨?_, ?_⟩, fun w hw => ?_, va_Nc.of (st_mem h q4), va_AO.of (hts _ (List.contains_iff_mem.mp a4))⟩, ⟨?_, st_g0, fun i j hi hj e => ?_⟩, rfl, rfl, rfl, rfl⟩
  · have hk : k < 46 := hk
    rw [st_gC (show 2624 + k ≠ 1344 by omega), st_gC (show 2688 + k ≠ 1344 by omega)]
    exact (st_S h hk).2.2
  · have hk : k < 23 := hk
    rw [st_gC (show 2560 + k ≠ 1344 by omega)]
    exact (st_W h hk).2
  · obtain ⟨cell, c1, c2, c3, c4, c5, c6, c7⟩ := (st_TW h).2
    exact ⟨cell, c1, c2, c3, c4, c5, fun j hj => by
      obtain ⟨k, hk, e⟩ := st_ra hj
      show cell.slots[j]? = some (Value.ref (gC (st_G b L xs s fm dC dI aC) (a_ra 2752 j)))
      rw [st_gC (show a_ra 2752 j ≠ 1344 by omega)]
      exact c6 j hj, c7⟩
  · exact (st_TS h).2
  · exact vx_Zqof (hts _ (List.contains_iff_mem.mp a5)) (hts _ (List.contains_iff_mem.mp a7)) (st_mem h q2) (st_nA s)
  · exact vx_Zqof (hts _ (List.contains_iff_mem.mp a6)) (hts _ (List.contains_iff_mem.mp a7)) (st_mem h q3) (st_nA s)
  · have hk : a_W2k w = true := (List.mem_filter.mp hw).2
    have hb := hts w (List.mem_filter.mp hw).1
    cases w <;> first | exact va_Nw.of rfl hb | (simp [a_W2k] at hk)
  · show fm = .null ∨ ∃ a, fm = .ref a
    cases fm with
    | null => exact Or.inl rfl
    | ref a => exact Or.inr ⟨a, rfl⟩
    | _ => exact absurd (show false = true from hrf) Bool.false_ne_true
  · have hi : i < 23 := hi
    have hj : j < 23 := hj
    rw [st_gC (show 2560 + i ≠ 1344 by omega), st_gC (show 2560 + j ≠ 1344 by omega)] at e
    have hn := List.all_eq_true.mp (List.all_eq_true.mp nx_ne i (List.mem_range.mpr hi)) j (List.mem_range.mpr hj)
    simp only [st_cn, Bool.or_eq_true, decide_eq_true_eq] at hn
    rcases hn with (hn | hn) | hn
    · exact hn
    · exact absurd e (va_neR (st_mem h hn) (st_W h hi).1 (st_W h hj).1)
    · exact absurd e.symm (va_neR (st_mem h hn) (st_W h hj).1 (st_W h hi).1)
