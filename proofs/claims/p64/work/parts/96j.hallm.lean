/-! hanging all that is wet: the reference -/
section YHM
variable {L : LL} {B : Nat} {I : z_H} {s : Nat}
theorem Lhst_G {L : LL} {i : Nat} {a : Int32} (g : qG L) (hi : i < qF L) : qG (Lhst i (a, L)).2 := by
  unfold Lhst
  by_cases h_ : ¬ qf L i 4 = jn 0 ∧ qf L i 8 = jn 0 ∧ ¬ yfree L = jg 1
  · rw [if_pos h_]
    obtain ⟨p, hp_, e_, e2_⟩ := yfree_at g h_.2.2
    have n01_ : ¬ jn 0 = jn 1 := by decide
    exact qG_mv g hi (by rw [h_.2.1]; exact n01_) (Or.inr (Or.inl ⟨rfl, p, hp_, e_, e2_⟩))
  · rw [if_neg h_]
    exact g
end YHM
