/-! hanging a flag on the first free peg, on both sides -/
section YHG
variable {L : LL} {B : Nat} {I : z_H} {s f : Nat}
theorem yfree_at (g : qG L) (h : ¬ yfree L = jg 1) : ∃ p, p < qP L ∧ yfree L = jn p ∧ qpg L p = jg 1 := by
  unfold yfree at h ⊢
  by_cases h_ : qk (fun p => qpg L p = jg 1) (qP L) < qP L
  · exact ⟨_, h_, by rw [if_pos h_], qk_at (P := fun p => qpg L p = jg 1) h_⟩
  · exact absurd (if_neg h_) h
theorem sq_hang (h : qS L I (s + 7) (s + 1)) (g : qG L) (hf : f < qF L) (h0 : qf L f 8 = jn 0) (hq : ¬ yfree L = jg 1) : ∃ J, d_L_hangOnFirstFree s (jn f) I = some (yfree L, J) ∧ WS (Lmv L f (jn 2) (yfree L)) I J (s + 7) (s + 1) ∧ qG (Lmv L f (jn 2) (yfree L)) := by
  obtain ⟨p, hp_, e_, e2_⟩ := yfree_at g hq
  obtain ⟨J_, e3_, w_, g_⟩ := sq_hangs h g (by omega) hf h0 hp_ e2_
  refine ⟨J_, ?_, by rw [e_]; exact w_, by rw [e_]; exact g_⟩
  unfold d_L_hangOnFirstFree
  rw [sq_free h g, ob_s, if_neg hq, e_, e3_, ob_s, ob_s]
theorem mq_hang (h : qM L B (I 242)) (g : qG L) (hf : f < qF L) : ∃ J, d_M_hangs (jn f) I = some J ∧ WM (Lmv L f (jn 2) (yfree L)) B I J := by
  obtain ⟨J_, e_, w_⟩ := mq_goes h g hf (jn 2) (yfree L)
  refine ⟨J_, ?_, w_⟩
  unfold d_M_hangs
  rw [mq_free h g, ob_s, e_, ob_s]
end YHG
