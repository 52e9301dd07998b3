/-! the reference's next token -/
section TKM
variable {N p q : Nat} {A : Nat → Int32} {I : z_H}
/-- the state with the token at q ahead -/
def rP (N : Nat) (A : Nat → Int32) (q : Nat) (I : z_H) : Prop := I 241 10 = jn 0 ∧ I 241 11 = jg 1 ∧ I 241 12 = jn N ∧ I 241 14 = jn q ∧ I 241 15 = jn (tK N A q) ∧ (¬ tK N A q = 0 → I 241 13 = jn (tE N A q)) ∧ (tK N A q = 3 → I 241 16 = tV N A q) ∧ q ≤ N
end TKM
