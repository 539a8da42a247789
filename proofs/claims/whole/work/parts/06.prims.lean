/-- the reference's copies: so many from one row to another -/
def cpM (f : Nat → Int32) (nf : Nat) (g : Nat → Int32) (ng : Nat) (n : Int32) : Option (Nat → Int32) := if n.toNatClampNeg ≤ nf ∧ n.toNatClampNeg ≤ ng then some (fun j => if j < n.toNatClampNeg then f j else g j) else none
def filM (g : Nat → Int32) (n : Nat) (v : Int32) : Nat → Int32 := fun j => if j < n then v else g j
