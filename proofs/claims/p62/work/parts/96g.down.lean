/-! off a peg, into the basket -/
section YN
variable {L : LL} {B : Nat} {I : z_H} {s u f : Nat}
theorem sq_offPeg (h : qS L I s u) (g : qG L) (d : u + 6 ≤ s) (hf : f < qF L) (h8 : qf L f 8 = jn 2) : ∃ J, d_S_moveToBasket s (jn f) I = some J ∧ WS (Lmv L f (jn 0) (jg 1)) I J s u ∧ qG (Lmv L f (jn 0) (jg 1)) := by
  have h1_ := g.1
  have h5_ := g.2.2.2.2.1
  have b_ := qG_B g
  have n21_ : ¬ jn 2 = jn 1 := by decide
  have n02_ : ¬ jn 0 = jn 2 := by decide
  have g2_ : qG (Lmv L f (jn 0) (jg 1)) := qG_mv g hf (by rw [h8]; exact n21_) (Or.inl ⟨rfl, rfl⟩)
  have q_ := (g.2.2.2.2.2.1 f hf).2.2.2.2.2.2.2.2
  have p_ : ∃ p, p < qP L ∧ qf L f 9 = jn p := by
    rcases q_ with k_ | k_ | k_ | k_
    · exact absurd (k_.1.symm.trans h8) (by decide)
    · exact absurd (k_.1.symm.trans h8) (by decide)
    · exact k_.2
    · exact absurd (k_.1.symm.trans h8) (by decide)
  obtain ⟨p, hp_, h9_⟩ := p_
  have r_ := rS_mv (w := jn 0) (y := jg 1) (rS_p (qS_r.mp h) b_ d (p := p) (jg 1)) b_ d (f := f) (by omega)
  refine ⟨_, ?_, ⟨rS_cg r_ (fun q hq => ?_), fun a ha => by rw [ju_na (by omega), ju_na (by omega), ju_na (by omega)]⟩, g2_⟩
  · unfold d_S_moveToBasket d_G_moveTo
    rw [if_pos (sq_in g hf), sq_n g hf, sq_f h hf (by omega), sq_f h hf (by omega), h8, if_neg n21_, if_pos rfl, h9_, if_pos (by rw [jn_in (by omega)]; omega), jn_n (by omega), ob_s, ob_s]
  · by_cases e3_ : q = p
    · rw [e3_, jup_at, qpg_mv3 g g2_ hf (fun q_ => n02_ q_.1) h8 h9_]
    · rw [jup_ne e3_, qpg_mv2 (fun q_ => n02_ q_.1) (fun q_ => e3_ ?_)]
      have k_ := q_.2
      rw [h9_, jn_eq (by omega) (by omega)] at k_
      exact k_.symm
end YN
