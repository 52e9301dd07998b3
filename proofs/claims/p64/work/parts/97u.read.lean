/-! the calls that only read, on both sides (wip/gen/zo.py) -/
theorem jgap (a b c : Int32) : a + b + c = b + c + a := by rw [Int32.add_assoc, Int32.add_comm]
def yrst (b : Bool × Bool × Bool × Bool × Bool × Bool × Bool) (p : Int32 × Int32) : Option ((Int32 × Int32) ⊕ (Int32 × Int32)) := if jn 7 < p.2 then some (.inr (p.1, p.2)) else some (.inl (p.1 ||| ((if yget b (z_n p.2 - 1) = true then jn 1 else jn 0) <<< (p.2 &&& 31)), p.2 + jn 1))
theorem yrst_ok : ∀ a b c d e f g : Bool, (z_it (yrst (a, b, c, d, e, f, g)) z_F (jn 0, jn 1)) = some (yall (a, b, c, d, e, f, g), jn 8) := by decide +kernel
