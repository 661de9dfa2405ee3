/-! arrays as they are made -/
def ko_z : Nat → Int32 := fun _ => 0
def ko_f (n : Nat) (v : Int32) (f : Nat → Int32) : Nat → Int32 := fun j => if j < n then v else f j
