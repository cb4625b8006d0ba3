/-- a line: who, inches, feet, pace, eye, elbow, paces -/
abbrev zLn : Type := (Nat → Int32) × (Nat → Int32) × (Nat → Int32) × Int32 × Int32 × Int32 × Int32
theorem vpd {i : Int32} {n : Nat} (h : ¬ (i < 0 ∨ n ≤ i.toNatClampNeg)) : vp_in i n := h
def zfl (Q P : Nat → zLn) (p : Nat) : Nat → zLn := fun j => if j < p then Q j else P j
