/-! THE ABSTRACT MACHINE: it runs the decoded bytecode over objects that are numbers; memory is by regions, each a function of the object's place in it and of the index -/
abbrev AM : Type := Nat × Nat × Nat × List (Nat → Nat → Int32) × List Nat × Int64
abbrev ACfg : Type := Nat × Nat × Nat × Nat × Nat × List Slot × List Value × AM
abbrev AOut : Type := Nat × Option Value × AM
def a_nth {α : Type} : List α → α → Nat → α
  | [], d, _ => d
  | a :: _, _, 0 => a
  | _ :: l, d, n + 1 => a_nth l d n
def a_get {α : Type} : List α → Nat → Option α
  | [], _ => none
  | a :: _, 0 => some a
  | _ :: l, n + 1 => a_get l n
def a_z : Nat → Nat → Int32 := fun _ _ => 0
/-- the k-th object's i-th place becomes v -/
def u2 (A : Nat → Nat → Int32) (k i : Nat) (v : Int32) : Nat → Nat → Int32 := fun a b => bif Nat.beq a k then (bif Nat.beq b i then v else A a b) else A a b
/-- the k-th object becomes f -/
def u1 (A : Nat → Nat → Int32) (k : Nat) (f : Nat → Int32) : Nat → Nat → Int32 := fun a b => bif Nat.beq a k then f b else A a b
def a_cpy (f g : Nat → Int32) (sp dp n : Nat) : Nat → Int32 := fun k => if dp ≤ k ∧ k < dp + n then f (sp + (k - dp)) else g k
/-- a read of an array of n places -/
def rdx (A : Nat → Int32) (n : Nat) (i : Int32) : Option Int32 := if i < 0 ∨ n ≤ i.toNatClampNeg then none else some (A i.toNatClampNeg)
/-- an index of an array of n places -/
def ixx (n : Nat) (i : Int32) : Option Nat := if i < 0 ∨ n ≤ i.toNatClampNeg then none else some i.toNatClampNeg
def zb (v : Int32) : Int32 := v &&& 1
def a_shl (x y : Int32) : Int32 := x <<< (y &&& 31)
def a_shr (x y : Int32) : Int32 := x >>> (y &&& 31)
def a_ushr (x y : Int32) : Int32 := (x.toUInt32 >>> (y.toUInt32 &&& Int32.toUInt32 31)).toInt32
def a_rem (x y : Int32) : Int32 := x - x / y * y
def a_cmpL (x y : Int64) : Int32 := if y < x then 1 else if x = y then 0 else -1
def a_opt {α : Type} (o : Option α) (f : α → Option AOut) : Option AOut := match o with
  | some v => f v
  | none => none
/-- what comes behind a call: where it returned, where it threw -/
def a_beh (o : Option AOut) (f : Option Value → AM → Option AOut) (g : Nat → AM → Option AOut) : Option AOut := match o with
  | some (0, v, μ) => f v μ
  | some (k + 1, _, μ) => g k μ
  | none => none
/-- a value that says nothing: what a local holds is not known -/
abbrev a_unk : Value := .retAddr 0
def a_l2 (ls : List Slot) (i : Nat) : List Slot := match a_get ls i with
  | some .second => (match a_get ls (i - 1) with
    | some (.val _) => ls.set (i - 1) (.val a_unk)
    | _ => ls)
  | _ => ls
def a_sto (ls : List Slot) (i : Nat) (v : Value) : List Slot := (a_l2 ls i).set i (.val v)
def a_stl (ls : List Slot) (i : Nat) (v : Value) : List Slot := ((a_l2 ls i).set i (.val v)).set (i + 1) .second
def a_ent (args : List Value) (n : Nat) : List Slot := let l := args.flatMap (fun v => match v with | .long x => [Slot.val (.long x), Slot.second] | w => [Slot.val w]); l ++ List.replicate (n - l.length) (Slot.val a_unk)
def a_ni (n : Int) : Nat := n.toNat
/-- a target of a jump -/
def a_tg (pc : Nat) (off : Int) : Nat := ((pc : Int) + off).toNat
/-- a class's field: 0 a number, 1 a final reference, 2 another reference, 3 of a constant object; and the shift of its region, or the reference's place -/
def a_fk (ci k : Nat) : Nat × Nat := a_nth (a_nth a_fkt [] ci) (9, 0) k
/-- a constant object's field -/
def a_cf (id k : Nat) : Value := a_nth (a_nth (a_nth a_cft [] (id / 64 - 40)) [] (id % 64)) .null k
/-- a constant array's elements -/
def a_ca (id : Nat) (i : Nat) : Int32 := a_nth (a_nth (a_nth a_cat [] (id / 64 - 40)) [] (id % 64)) 0 i
def a_ra (id : Nat) (i : Nat) : Nat := a_nth (a_nth (a_nth a_rat [] (id / 64 - 40)) [] (id % 64)) 0 i
def a_wt (l : List Value) : Nat := (l.map fun v => v.category).sum
/-- the words of arguments; nothing takes a double -/
def a_wt2 (l : List Value) : Nat := (l.map fun v => match v with | .long _ => 2 | .double _ => 1000 | _ => 1).sum
def a_nar (rk : Nat) (x : Int32) : Int32 := match rk with
  | 2 => zb x
  | 5 => (x.toUInt32 % 65536).toInt32
  | 6 => x.toInt8.toInt32
  | _ => x
/-- is the object made already -/
def a_live (id cnt : Nat) : Bool := Nat.ble (a_sq id) cnt
def a_len (id L : Nat) : Nat := bif Nat.beq (a_kind id) 36 then L else a_sz id
def a_reg (id : Nat) : Nat := id / 64 - 1
def a_loc (id : Nat) : Nat := id % 64
def a_gt (Is : List (Nat → Nat → Int32)) (r k i : Nat) : Int32 := a_nth Is a_z r k i
def a_row (Is : List (Nat → Nat → Int32)) (id : Nat) : Nat → Int32 := a_nth Is a_z (a_reg id) (a_loc id)
def a_pt (Is : List (Nat → Nat → Int32)) (r k i : Nat) (v : Int32) : List (Nat → Nat → Int32) := Is.set r (u2 (a_nth Is a_z r) k i v)
def a_pr (Is : List (Nat → Nat → Int32)) (r k : Nat) (f : Nat → Int32) : List (Nat → Nat → Int32) := Is.set r (u1 (a_nth Is a_z r) k f)
def a_cnd (cn : Jvm.ClassFile.Cond) (x y : Int32) (a b : Option AOut) : Option AOut := match cn with
  | .eq => if x = y then a else b
  | .ne => if x ≠ y then a else b
  | .lt => if x < y then a else b
  | .ge => if y ≤ x then a else b
  | .gt => if y < x then a else b
  | .le => if x ≤ y then a else b
def a_sw : List (Int32 × Nat) → Int32 → (Nat → Option AOut) → Nat → Option AOut
  | [], _, f, d => f d
  | (k, t) :: l, v, f, d => if v = k then f t else a_sw l v f d
/-- nothing, or a word of the language -/
abbrev okW (w : Nat) : Prop := w = 0 ∨ (2560 ≤ w ∧ w < 2583)
section
variable (rec : ACfg → Option AOut)
/-- a call, the callee's numbers being known -/
def a_call2 (d gc gs m pc : Nat) (ls : List Slot) (st : List Value) (μ : AM) (c maxL n gc1 gs1 : Nat) : Option AOut := match d with
  | 0 => none
  | d' + 1 => a_beh (rec (d', gc1, gs1, c, 0, a_ent (st.take n).reverse maxL, [], μ))
      (fun v μ' => rec (d, gc - gc1, gs - gs1, m, pc + 3, ls, v.toList ++ st.drop n, μ'))
      (fun k μ' => match a_hnd m pc (k + 1) with
        | some (hp, i) => rec (d, gc - gc1, gs - gs1, m, hp, a_sto ls i a_unk, [], μ')
        | none => (match Nat.ble m 348 with | true => some (k + 1, none, μ') | false => none))
/-- a call: by its number, with the arguments that it takes from the stack -/
def a_call (d gc gs m pc : Nat) (ls : List Slot) (st : List Value) (μ : AM) (c : Nat) : Option AOut := match a_mt c with
  | (maxL, n, rk, _, gc1, gs1) => (match Nat.ble n st.length && Nat.ble (a_wt (st.drop n)) 8 && Nat.ble (a_wt2 (st.take n)) maxL && Nat.ble gc1 gc && Nat.ble gs1 gs && (Nat.beq rk 0 || (match a_get st (n - 1) with | some (.ref id) => Nat.beq (a_kind id) rk && a_live id μ.1 | _ => false)) with | true => (a_call2 rec d gc gs m pc ls st μ c maxL n gc1 gs1) | false => (none))
/-- getfield -/
def a_getf (d gc gs m pc : Nat) (ls : List Slot) (r : List Value) (μ : AM) (id ci k : Nat) : Option AOut := match μ with
  | (cnt, asg, _, Is, Rs, _) => (match Nat.beq (a_kind id) ci && a_live id cnt with | true => ((match a_fk ci k with | (kd, q) => (match Nat.beq kd 0 with | true => (rec (d, gc, gs, m, pc + 3, ls, .int (a_gt Is (a_reg id + q) (a_loc id) k) :: r, μ)) | false => ((match Nat.beq kd 1 with | true => ((match a_fr id k with | (v, q') => (match Nat.ble q' asg with | true => (rec (d, gc, gs, m, pc + 3, ls, .ref v :: r, μ)) | false => (none)))) | false => ((match Nat.beq kd 2 with | true => (rec (d, gc, gs, m, pc + 3, ls, .ref (a_nth Rs 0 q) :: r, μ)) | false => ((match Nat.beq kd 3 with | true => (rec (d, gc, gs, m, pc + 3, ls, a_cf id k :: r, μ)) | false => (none)))))))))) | false => (none))
/-- putfield -/
def a_putf (d gc gs m pc : Nat) (ls : List Slot) (st : List Value) (μ : AM) (ci k : Nat) : Option AOut := match μ with
  | (cnt, asg, L, Is, Rs, Lg) => match a_fk ci k with | (kd, q) => (match Nat.beq kd 0 with | true => ((match st with | .int v :: .ref id :: r => (match Nat.beq (a_kind id) ci && a_live id cnt with | true => (rec (d, gc, gs, m, pc + 3, ls, r, (cnt, asg, L, a_pt Is (a_reg id + q) (a_loc id) k v, Rs, Lg))) | false => (none)) | _ => none)) | false => ((match Nat.beq kd 1 with | true => ((match st with | .ref v :: .ref id :: r => (match a_fr id k with | (w, q') => (match Nat.beq (a_kind id) ci && a_live id cnt && Nat.beq v w && Nat.beq q' (asg + 1) && a_live v cnt with | true => (rec (d, gc, gs, m, pc + 3, ls, r, (cnt, asg + 1, L, Is, Rs, Lg))) | false => (none))) | _ => none)) | false => ((match Nat.beq kd 2 with | true => ((match st with | .ref v :: .ref id :: r => (match Nat.beq (a_kind id) ci && a_live id cnt with | true => (rec (d, gc, gs, m, pc + 3, ls, r, (cnt, asg, L, Is, Rs.set q v, Lg))) | false => (none)) | _ => none)) | false => (none))))))
/-- iaload -/
def a_iald (d gc gs m pc : Nat) (ls : List Slot) (r : List Value) (μ : AM) (i : Int32) (id : Nat) : Option AOut := match μ with
  | (cnt, _, L, Is, _, _) => (match Nat.beq (a_kind id) 32 && a_live id cnt with | true => (a_opt (rdx (a_row Is id) (a_sz id) i) (fun v => rec (d, gc, gs, m, pc + 1, ls, .int v :: r, μ))) | false => ((match Nat.beq (a_kind id) 36 with | true => (a_opt (rdx (a_row Is id) L i) (fun v => rec (d, gc, gs, m, pc + 1, ls, .int v :: r, μ))) | false => ((match Nat.beq (a_kind id) 44 with | true => (a_opt (rdx (a_ca id) (a_sz id) i) (fun v => rec (d, gc, gs, m, pc + 1, ls, .int v :: r, μ))) | false => (none))))))
def a_bald (d gc gs m pc : Nat) (ls : List Slot) (r : List Value) (μ : AM) (i : Int32) (id : Nat) : Option AOut := match μ with
  | (cnt, _, _, Is, _, _) => (match Nat.beq (a_kind id) 33 && a_live id cnt with | true => (a_opt (rdx (a_row Is id) (a_sz id) i) (fun v => rec (d, gc, gs, m, pc + 1, ls, .int v :: r, μ))) | false => ((match Nat.beq (a_kind id) 42 with | true => (a_opt (rdx (a_ca id) (a_sz id) i) (fun v => rec (d, gc, gs, m, pc + 1, ls, .int v :: r, μ))) | false => (none))))
def a_aald (d gc gs m pc : Nat) (ls : List Slot) (r : List Value) (μ : AM) (i : Int32) (id : Nat) : Option AOut := match μ with
  | (cnt, _, _, _, Rs, _) => (match Nat.beq (a_kind id) 34 && a_live id cnt with | true => (a_opt (ixx (a_sz id) i) (fun j => rec (d, gc, gs, m, pc + 1, ls, .ref (a_nth Rs 0 (6 + j)) :: r, μ))) | false => ((match Nat.beq (a_kind id) 43 with | true => (a_opt (ixx (a_sz id) i) (fun j => rec (d, gc, gs, m, pc + 1, ls, .ref (a_ra id j) :: r, μ))) | false => (none))))
def a_lald (d gc gs m pc : Nat) (ls : List Slot) (r : List Value) (μ : AM) (i : Int32) (id : Nat) : Option AOut := match μ with
  | (cnt, _, _, _, _, Lg) => (match Nat.beq (a_kind id) 35 && a_live id cnt with | true => ((a_opt (ixx (a_sz id) i) (fun _ => rec (d, gc, gs, m, pc + 1, ls, .long Lg :: r, μ)))) | false => (none))
def a_iast (d gc gs m pc : Nat) (ls : List Slot) (r : List Value) (μ : AM) (v i : Int32) (id : Nat) : Option AOut := match μ with
  | (cnt, asg, L, Is, Rs, Lg) => (match Nat.beq (a_kind id) 32 && a_live id cnt with | true => ((a_opt (ixx (a_sz id) i) (fun j => rec (d, gc, gs, m, pc + 1, ls, r, (cnt, asg, L, a_pt Is (a_reg id) (a_loc id) j v, Rs, Lg))))) | false => (none))
def a_bast (d gc gs m pc : Nat) (ls : List Slot) (r : List Value) (μ : AM) (v i : Int32) (id : Nat) : Option AOut := match μ with
  | (cnt, asg, L, Is, Rs, Lg) => (match Nat.beq (a_kind id) 33 && a_live id cnt with | true => ((a_opt (ixx (a_sz id) i) (fun j => rec (d, gc, gs, m, pc + 1, ls, r, (cnt, asg, L, a_pt Is (a_reg id) (a_loc id) j (zb v), Rs, Lg))))) | false => (none))
def a_aast (d gc gs m pc : Nat) (ls : List Slot) (r : List Value) (μ : AM) (v : Nat) (i : Int32) (id : Nat) : Option AOut := match μ with
  | (cnt, asg, L, Is, Rs, Lg) => (match Nat.beq (a_kind id) 34 && a_live id cnt && Nat.beq (a_kind v) a_kS && a_live v cnt with | true => ((a_opt (ixx (a_sz id) i) (fun j => rec (d, gc, gs, m, pc + 1, ls, r, (cnt, asg, L, Is, Rs.set (6 + j) v, Lg))))) | false => (none))
def a_last (d gc gs m pc : Nat) (ls : List Slot) (r : List Value) (μ : AM) (v : Int64) (i : Int32) (id : Nat) : Option AOut := match μ with
  | (cnt, asg, L, Is, Rs, _) => (match Nat.beq (a_kind id) 35 && a_live id cnt with | true => ((a_opt (ixx (a_sz id) i) (fun _ => rec (d, gc, gs, m, pc + 1, ls, r, (cnt, asg, L, Is, Rs, v))))) | false => (none))
/-- the memory behind the making of an object: nothing in it -/
def a_zero (id ci : Nat) (μ : AM) : AM := match μ with
  | (cnt, asg, L, Is, Rs, Lg) => match a_zs ci with
    | (zs, qs) => (cnt + 1, asg, L, zs.foldl (fun I sh => a_pr I (a_reg id + sh) (a_loc id) (fun _ => 0)) Is, qs.foldl (fun R q => R.set q 0) Rs, Lg)
def a_new (d gc gs m pc : Nat) (ls : List Slot) (st : List Value) (μ : AM) (x : Nat × Nat × Nat) : Option AOut := match x with
  | (ci, n, _) => (match Nat.beq ci 200 with | true => (((match Nat.ble 1 gc && Nat.ble 8 gs && Nat.ble a_made μ.1 && Nat.ble (a_wt st) 8 with | true => (some (n, none, μ)) | false => (none)))) | false => ((match a_ord μ.1 with | id => (match Nat.beq (a_kind id) ci && Nat.beq (a_sq id) (μ.1 + 1) && Nat.ble 1 gc && Nat.ble n gs && Nat.beq n (a_sz id) && Nat.ble (μ.2.1 + 1) (a_fm id) with | true => (rec (d, gc - 1, gs - n, m, pc + 3, ls, .ref id :: st, a_zero id ci μ)) | false => (none)))))
/-- a new array: its kind's memory is zeroes -/
def a_newa (d gc gs m pc : Nat) (ls : List Slot) (r : List Value) (μ : AM) (n : Int32) (kd len : Nat) : Option AOut := match μ with
  | (cnt, asg, L, Is, Rs, Lg) => match a_ord cnt with | id => (match Nat.beq (a_kind id) kd && Nat.beq (a_sq id) (cnt + 1) && Nat.beq n.toNatClampNeg (a_sz id) && Nat.ble 1 gc && Nat.ble (a_sz id) gs && Nat.ble (a_sz id) 100000 && Nat.ble 1 (a_sz id) with | true => ((match kd with | 34 => rec (d, gc - 1, gs - a_sz id, m, pc + len, ls, .ref id :: r, (cnt + 1, asg, L, Is, Rs.take 6 ++ List.replicate (a_sz id) 0, Lg)) | 35 => rec (d, gc - 1, gs - a_sz id, m, pc + len, ls, .ref id :: r, (cnt + 1, asg, L, Is, Rs, 0)) | _ => rec (d, gc - 1, gs - a_sz id, m, pc + len, ls, .ref id :: r, (cnt + 1, asg, L, a_pr Is (a_reg id) (a_loc id) (fun _ => 0), Rs, Lg)))) | false => (none))
/-- System.arraycopy over numbers -/
def a_acp (d gc gs m pc : Nat) (ls : List Slot) (r : List Value) (μ : AM) (n dp : Int32) (b : Nat) (sp : Int32) (a : Nat) : Option AOut := match μ with
  | (cnt, asg, L, Is, Rs, Lg) => (match Nat.beq (a_kind a) 32 && Nat.beq (a_kind b) 32 && a_live a cnt && a_live b cnt && Nat.ble 1 d && Nat.ble (a_wt r) 8 with | true => ((if sp < 0 ∨ dp < 0 ∨ n < 0 ∨ a_sz a < sp.toNatClampNeg + n.toNatClampNeg ∨ a_sz b < dp.toNatClampNeg + n.toNatClampNeg then none else rec (d, gc, gs, m, pc + 3, ls, r, (cnt, asg, L, a_pr Is (a_reg b) (a_loc b) (a_cpy (a_row Is a) (a_row Is b) sp.toNatClampNeg dp.toNatClampNeg n.toNatClampNeg), Rs, Lg)))) | false => (none))
/-- one instruction -/
def a_ins (ins : Instr) (d gc gs m pc : Nat) (ls : List Slot) (st : List Value) (μ : AM) (x : Nat × Nat × Nat) : Option AOut := match μ with
  | (cnt, asg, L, Is, Rs, Lg) => match ins with
    | .iconst _ => rec (d, gc, gs, m, pc + 1, ls, .int (a_ci x.2.1) :: st, μ)
    | .bipush _ => rec (d, gc, gs, m, pc + 2, ls, .int (a_ci x.2.1) :: st, μ)
    | .sipush _ => rec (d, gc, gs, m, pc + 3, ls, .int (a_ci x.2.1) :: st, μ)
    | .lconst n => rec (d, gc, gs, m, pc + 1, ls, .long (Int64.ofNat (n : Nat)) :: st, μ)
    | .aconst_null => rec (d, gc, gs, m, pc + 1, ls, .ref 0 :: st, μ)
    | .ldc _ => (match Nat.beq x.1 0 with | true => (rec (d, gc, gs, m, pc + 2, ls, .int (a_ci x.2.1) :: st, μ)) | false => ((match Nat.beq x.1 1 with | true => (rec (d, gc, gs, m, pc + 2, ls, .ref x.2.1 :: st, μ)) | false => (none))))
    | .ldc_w _ => (match Nat.beq x.1 0 with | true => (rec (d, gc, gs, m, pc + 3, ls, .int (a_ci x.2.1) :: st, μ)) | false => ((match Nat.beq x.1 1 with | true => (rec (d, gc, gs, m, pc + 3, ls, .ref x.2.1 :: st, μ)) | false => (none))))
    | .ldc2_w _ => rec (d, gc, gs, m, pc + 3, ls, .long (a_cl x.2.1) :: st, μ)
    | .iload_n k => (match a_get ls ((k : Nat)) with | some (.val (.int v)) => rec (d, gc, gs, m, pc + 1, ls, .int v :: st, μ) | _ => none)
    | .iload k => (match a_get ls (k) with | some (.val (.int v)) => rec (d, gc, gs, m, pc + 2, ls, .int v :: st, μ) | _ => none)
    | .lload_n k => (match a_get ls ((k : Nat)) with | some (.val (.long v)) => rec (d, gc, gs, m, pc + 1, ls, .long v :: st, μ) | _ => none)
    | .lload k => (match a_get ls (k) with | some (.val (.long v)) => rec (d, gc, gs, m, pc + 2, ls, .long v :: st, μ) | _ => none)
    | .aload_n k => (match a_get ls ((k : Nat)) with | some (.val (.ref v)) => rec (d, gc, gs, m, pc + 1, ls, .ref v :: st, μ) | _ => none)
    | .aload k => (match a_get ls (k) with | some (.val (.ref v)) => rec (d, gc, gs, m, pc + 2, ls, .ref v :: st, μ) | _ => none)
    | .istore_n k => (match st with | .int v :: r => (match Nat.ble ((k : Nat) + 1) ls.length with | true => (rec (d, gc, gs, m, pc + 1, a_sto ls k (.int v), r, μ)) | false => (none)) | _ => none)
    | .istore k => (match st with | .int v :: r => (match Nat.ble (k + 1) ls.length with | true => (rec (d, gc, gs, m, pc + 2, a_sto ls k (.int v), r, μ)) | false => (none)) | _ => none)
    | .astore_n k => (match st with | .ref v :: r => (match Nat.ble ((k : Nat) + 1) ls.length with | true => (rec (d, gc, gs, m, pc + 1, a_sto ls k (.ref v), r, μ)) | false => (none)) | _ => none)
    | .astore k => (match st with | .ref v :: r => (match Nat.ble (k + 1) ls.length with | true => (rec (d, gc, gs, m, pc + 2, a_sto ls k (.ref v), r, μ)) | false => (none)) | _ => none)
    | .lstore_n k => (match st with | .long v :: r => (match Nat.ble ((k : Nat) + 2) ls.length with | true => (rec (d, gc, gs, m, pc + 1, a_stl ls k (.long v), r, μ)) | false => (none)) | _ => none)
    | .lstore k => (match st with | .long v :: r => (match Nat.ble (k + 2) ls.length with | true => (rec (d, gc, gs, m, pc + 2, a_stl ls k (.long v), r, μ)) | false => (none)) | _ => none)
    | .iinc k _ => (match a_get ls (k) with | some (.val (.int v)) => rec (d, gc, gs, m, pc + 3, a_sto ls k (.int (v + a_ci x.2.1)), st, μ) | _ => none)
    | .dup => (match st with | v :: r => (match Nat.beq v.category 1 with | true => (rec (d, gc, gs, m, pc + 1, ls, v :: v :: r, μ)) | false => (none)) | _ => none)
    | .dup2 => (match st with | v :: w :: r => (match Nat.beq v.category 1 && Nat.beq w.category 1 with | true => (rec (d, gc, gs, m, pc + 1, ls, v :: w :: v :: w :: r, μ)) | false => (none)) | _ => none)
    | .pop => (match st with | v :: r => (match Nat.beq v.category 1 with | true => (rec (d, gc, gs, m, pc + 1, ls, r, μ)) | false => (none)) | _ => none)
    | .iadd => (match st with | .int y :: .int x :: r => rec (d, gc, gs, m, pc + 1, ls, .int (x + y) :: r, μ) | _ => none)
    | .isub => (match st with | .int y :: .int x :: r => rec (d, gc, gs, m, pc + 1, ls, .int (x - y) :: r, μ) | _ => none)
    | .imul => (match st with | .int y :: .int x :: r => rec (d, gc, gs, m, pc + 1, ls, .int (x * y) :: r, μ) | _ => none)
    | .iand => (match st with | .int y :: .int x :: r => rec (d, gc, gs, m, pc + 1, ls, .int (x &&& y) :: r, μ) | _ => none)
    | .ior => (match st with | .int y :: .int x :: r => rec (d, gc, gs, m, pc + 1, ls, .int (x ||| y) :: r, μ) | _ => none)
    | .ixor => (match st with | .int y :: .int x :: r => rec (d, gc, gs, m, pc + 1, ls, .int (x ^^^ y) :: r, μ) | _ => none)
    | .ishl => (match st with | .int y :: .int x :: r => rec (d, gc, gs, m, pc + 1, ls, .int (a_shl x y) :: r, μ) | _ => none)
    | .ishr => (match st with | .int y :: .int x :: r => rec (d, gc, gs, m, pc + 1, ls, .int (a_shr x y) :: r, μ) | _ => none)
    | .iushr => (match st with | .int y :: .int x :: r => rec (d, gc, gs, m, pc + 1, ls, .int (a_ushr x y) :: r, μ) | _ => none)
    | .ineg => (match st with | .int x :: r => rec (d, gc, gs, m, pc + 1, ls, .int (-x) :: r, μ) | _ => none)
    | .idiv => (match st with | .int y :: .int x :: r => if y = 0 then none else rec (d, gc, gs, m, pc + 1, ls, .int (x / y) :: r, μ) | _ => none)
    | .irem => (match st with | .int y :: .int x :: r => if y = 0 then none else rec (d, gc, gs, m, pc + 1, ls, .int (a_rem x y) :: r, μ) | _ => none)
    | .i2l => (match st with | .int x :: r => rec (d, gc, gs, m, pc + 1, ls, .long x.toInt64 :: r, μ) | _ => none)
    | .i2c => (match st with | .int x :: r => rec (d, gc, gs, m, pc + 1, ls, .int (x.toUInt32 % 65536).toInt32 :: r, μ) | _ => none)
    | .ladd => (match st with | .long y :: .long x :: r => rec (d, gc, gs, m, pc + 1, ls, .long (x + y) :: r, μ) | _ => none)
    | .lmul => (match st with | .long y :: .long x :: r => rec (d, gc, gs, m, pc + 1, ls, .long (x * y) :: r, μ) | _ => none)
    | .lcmp => (match st with | .long y :: .long x :: r => rec (d, gc, gs, m, pc + 1, ls, .int (a_cmpL x y) :: r, μ) | _ => none)
    | .goto o => rec (d, gc, gs, m, a_tg pc o, ls, st, μ)
    | .ifCond cn o => (match st with | .int x :: r => a_cnd cn x 0 (rec (d, gc, gs, m, a_tg pc o, ls, r, μ)) (rec (d, gc, gs, m, pc + 3, ls, r, μ)) | _ => none)
    | .if_icmp cn o => (match st with | .int y :: .int x :: r => a_cnd cn x y (rec (d, gc, gs, m, a_tg pc o, ls, r, μ)) (rec (d, gc, gs, m, pc + 3, ls, r, μ)) | _ => none)
    | .if_acmp cn o => (match st with | .ref y :: .ref x :: r => (match cn with | .eq => (if okW x ∧ okW y then (if x = y then rec (d, gc, gs, m, a_tg pc o, ls, r, μ) else rec (d, gc, gs, m, pc + 3, ls, r, μ)) else none) | .ne => (if okW x ∧ okW y then (if x = y then rec (d, gc, gs, m, pc + 3, ls, r, μ) else rec (d, gc, gs, m, a_tg pc o, ls, r, μ)) else none)) | _ => none)
    | .ifnull o => (match st with | .ref x :: r => (if okW x then (if x = 0 then rec (d, gc, gs, m, a_tg pc o, ls, r, μ) else rec (d, gc, gs, m, pc + 3, ls, r, μ)) else none) | _ => none)
    | .ifnonnull o => (match st with | .ref x :: r => (if okW x then (if x = 0 then rec (d, gc, gs, m, pc + 3, ls, r, μ) else rec (d, gc, gs, m, a_tg pc o, ls, r, μ)) else none) | _ => none)
    | .tableswitch _ _ _ _ => (match st with | .int v :: r => a_sw (a_swt x.1) v (fun t => rec (d, gc, gs, m, t, ls, r, μ)) x.2.1 | _ => none)
    | .lookupswitch _ _ => (match st with | .int v :: r => a_sw (a_swt x.1) v (fun t => rec (d, gc, gs, m, t, ls, r, μ)) x.2.1 | _ => none)
    | .getfield _ => (match st with | .ref id :: r => a_getf rec d gc gs m pc ls r μ id x.1 x.2.1 | _ => none)
    | .putfield _ => a_putf rec d gc gs m pc ls st μ x.1 x.2.1
    | .getstatic _ => (match Nat.beq x.1 0 with | true => (rec (d, gc, gs, m, pc + 3, ls, .int (a_ci x.2.1) :: st, μ)) | false => (rec (d, gc, gs, m, pc + 3, ls, .ref x.2.1 :: st, μ)))
    | .iaload => (match st with | .int i :: .ref id :: r => a_iald rec d gc gs m pc ls r μ i id | _ => none)
    | .baload => (match st with | .int i :: .ref id :: r => a_bald rec d gc gs m pc ls r μ i id | _ => none)
    | .aaload => (match st with | .int i :: .ref id :: r => a_aald rec d gc gs m pc ls r μ i id | _ => none)
    | .laload => (match st with | .int i :: .ref id :: r => a_lald rec d gc gs m pc ls r μ i id | _ => none)
    | .iastore => (match st with | .int v :: .int i :: .ref id :: r => a_iast rec d gc gs m pc ls r μ v i id | _ => none)
    | .bastore => (match st with | .int v :: .int i :: .ref id :: r => a_bast rec d gc gs m pc ls r μ v i id | _ => none)
    | .aastore => (match st with | .ref v :: .int i :: .ref id :: r => a_aast rec d gc gs m pc ls r μ v i id | _ => none)
    | .lastore => (match st with | .long v :: .int i :: .ref id :: r => a_last rec d gc gs m pc ls r μ v i id | _ => none)
    | .arraylength => (match st with | .ref id :: r => (match Nat.ble 32 (a_kind id) && (Nat.ble (a_kind id) 36 || Nat.ble 42 (a_kind id)) && a_live id cnt with | true => (rec (d, gc, gs, m, pc + 1, ls, .int (Int32.ofNat (a_len id L)) :: r, μ)) | false => (none)) | _ => none)
    | .new _ => a_new rec d gc gs m pc ls st μ x
    | .newarray _ => (match st with | .int n :: r => a_newa rec d gc gs m pc ls r μ n x.1 2 | _ => none)
    | .anewarray _ => (match st with | .int n :: r => a_newa rec d gc gs m pc ls r μ n 34 3 | _ => none)
    | .invokevirtual _ => a_call rec d gc gs m pc ls st μ x.1
    | .invokestatic _ => (match Nat.beq x.1 999 with | true => ((match st with | .int n :: .int dp :: .ref b :: .int sp :: .ref a :: r => a_acp rec d gc gs m pc ls r μ n dp b sp a | _ => none)) | false => (a_call rec d gc gs m pc ls st μ x.1))
    | .invokespecial _ => (match Nat.beq x.1 998 with | true => ((match st with | .ref id :: r => (match Nat.ble 1 d && Nat.ble 1 (a_sq id) && a_live id cnt && Nat.ble (a_wt r) 8 with | true => (rec (d, gc, gs, m, pc + 3, ls, r, μ)) | false => (none)) | _ => none)) | false => (a_call rec d gc gs m pc ls st μ x.1))
    | .ireturn => (match st with | [.int v] => some (0, some (.int (a_nar (a_mt m).2.2.2.1 v)), μ) | _ => none)
    | .lreturn => (match st with | [.long v] => some (0, some (.long v), μ) | _ => none)
    | .areturn => (match st with | [.ref v] => some (0, some (.ref v), μ) | _ => none)
    | .return_ => (match st with | [] => some (0, none, μ) | _ => none) | _ => none
/-- one step -/
def a_step (C : ACfg) : Option AOut := match C with
  | (d, gc, gs, m, pc, ls, st, μ) => match a_pg m pc with
    | (ins, x) => a_ins rec ins d gc gs m pc ls st μ x
end
/-- so many steps at most, in all calls one behind another -/
def a_run : Nat → ACfg → Option AOut
  | 0, _ => none
  | n + 1, C => a_step (a_run n) C
