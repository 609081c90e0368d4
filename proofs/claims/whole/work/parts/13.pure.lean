/-- the two states behind the constructors -/
def way0 : Nat → Int32 := upd (upd (upd (upd (upd (fun _ => 0) (0 : Int32).toNatClampNeg 10) (1 : Int32).toNatClampNeg 10) (2 : Int32).toNatClampNeg 10) (3 : Int32).toNatClampNeg 10) (4 : Int32).toNatClampNeg 10
def x0 : ST := (fun k => if k = 4 then -1 else if k = 13 then 30 else if k = 16 then 100 else 0, fun p => if p = 23 then way0 else fun _ => 0, fun _ _ => 0)
def y0 : ST := (fun k => if k = 24 then 30 else if k = 25 then 100 else if k = 28 then -1 else 0, fun p => if p = 45 then way0 else fun _ => 0, fun _ _ => 0)
theorem law_pure {L : Nat} (hL : L ≤ 3072) (xs : Nat → Int32) : ∃ n, it (fun (_ : Int32) (_ : ST) (_ : ST) => False) (FL L xs) n 0 x0 y0 := sorry
