/-! moves from and to places that are no tub -/
def Lmv (L : LL) (f : Nat) (w y : Int32) : LL := lf (lf L f 8 w) f 9 y
section YV
variable {L : LL} {B : Nat} {I : z_H} {s u f : Nat} {w y : Int32}
theorem qf_mv {a k : Nat} (h : ¬ (a = f ∧ (k = 8 ∨ k = 9))) : qf (Lmv L f w y) a k = qf L a k := by
  show qf (lf (lf L f 8 w) f 9 y) a k = _
  rw [lf_ne (fun q_ => h ⟨q_.1, Or.inr q_.2⟩), lf_ne (fun q_ => h ⟨q_.1, Or.inl q_.2⟩)]
theorem qf_mv8 : qf (Lmv L f w y) f 8 = w := by
  show qf (lf (lf L f 8 w) f 9 y) f 8 = _
  rw [lf_ne (by omega), lf_at]
theorem qf_mv9 : qf (Lmv L f w y) f 9 = y := lf_at
/-- a place that is no tub, and free if it is a peg -/
def jpl (L : LL) (w y : Int32) : Prop := (w = jn 0 ∧ y = jg 1) ∨ (w = jn 2 ∧ ∃ p, p < qP L ∧ y = jn p ∧ qpg L p = jg 1) ∨ (w = jn 3 ∧ y = jg 1)
theorem jpl_1 (h : jpl L w y) : ¬ w = jn 1 := by
  have n0_ : ¬ jn 0 = jn 1 := by decide
  have n2_ : ¬ jn 2 = jn 1 := by decide
  have n3_ : ¬ jn 3 = jn 1 := by decide
  rcases h with e_ | e_ | e_
  · rw [e_.1]; exact n0_
  · rw [e_.1]; exact n2_
  · rw [e_.1]; exact n3_
theorem qpg_no (g : qG L) {p c : Nat} (h : qpg L p = jg 1) (hc : c < qF L) (h8 : qf L c 8 = jn 2) : ¬ qf L c 9 = jn p := fun q_ => by
  have h1_ := g.1
  have h2_ := qpg_of g hc h8 q_
  have e_ : (jg 1 = jn c) = False := jg_ne (by omega) (by omega) (by omega)
  rw [h, e_] at h2_
  exact h2_
theorem qG_mv (g : qG L) (hf : f < qF L) (h1 : ¬ qf L f 8 = jn 1) (hw : jpl L w y) : qG (Lmv L f w y) := by
  have g0_ := g
  obtain ⟨g1_, g2_, g3_, g4_, g5_, g6_, g7_, g8_, g9_, ga_⟩ := g
  have w1_ := jpl_1 hw
  have n02_ : ¬ jn 0 = jn 2 := by decide
  have n32_ : ¬ jn 3 = jn 2 := by decide
  have pg_ : w = jn 2 → ∀ c, c < qF L → qf L c 8 = jn 2 → ¬ qf L c 9 = y := fun e_ c hc h8 => by
    rcases hw with k_ | ⟨_, p_, _, ey_, ep_⟩ | k_
    · rw [k_.1] at e_; exact absurd e_ n02_
    · rw [ey_]; exact qpg_no g0_ ep_ hc h8
    · rw [k_.1] at e_; exact absurd e_ n32_
  refine ⟨g1_, g2_, g3_, g4_, g5_, fun a ha => ?_, g7_, fun v hv => ?_, g9_, fun a c ha hc => ?_⟩
  · obtain ⟨q0_, q1_, q2_, q3_, q4_, q5_, q6_, q7_, q8_⟩ := g6_ a ha
    unfold qgf
    rw [qf_mv (by omega), qf_mv (by omega), qf_mv (by omega), qf_mv (by omega), qf_mv (by omega), qf_mv (by omega), qf_mv (by omega), qf_mv (by omega)]
    refine ⟨q0_, q1_, q2_, q3_, q4_, q5_, q6_, q7_, ?_⟩
    by_cases e_ : a = f
    · rw [e_, qf_mv8, qf_mv9]
      rcases hw with k_ | ⟨k1_, p_, hp_, k2_, _⟩ | k_
      · exact Or.inl k_
      · exact Or.inr (Or.inr (Or.inl ⟨k1_, p_, hp_, k2_⟩))
      · exact Or.inr (Or.inr (Or.inr k_))
    · rw [qf_mv (fun q_ => e_ q_.1), qf_mv (fun q_ => e_ q_.1)]
      exact q8_
  · obtain ⟨q0_, q1_, q2_⟩ := g8_ v hv
    refine ⟨q0_, q1_, fun a => ?_⟩
    by_cases e_ : a = f
    · rw [e_, qf_mv8, qf_mv9]
      exact ⟨fun q_ => absurd ((q2_ f).mp q_).2.1 h1, fun q_ => absurd q_.2.1 w1_⟩
    · rw [qf_mv (fun q_ => e_ q_.1), qf_mv (fun q_ => e_ q_.1)]
      exact q2_ a
  · have ha2_ : a < qF L := ha
    have hc2_ : c < qF L := hc
    by_cases e_ : a = f
    · by_cases e2_ : c = f
      · intro _ _ _
        rw [e_, e2_]
      · rw [e_, qf_mv8, qf_mv9, qf_mv (fun q_ => e2_ q_.1), qf_mv (fun q_ => e2_ q_.1)]
        exact fun k1_ k2_ k3_ => absurd k3_.symm (pg_ k1_ c hc2_ k2_)
    · by_cases e2_ : c = f
      · rw [e2_, qf_mv8, qf_mv9, qf_mv (fun q_ => e_ q_.1), qf_mv (fun q_ => e_ q_.1)]
        exact fun k1_ k2_ k3_ => absurd k3_ (pg_ k2_ a ha2_ k1_)
      · rw [qf_mv (fun q_ => e_ q_.1), qf_mv (fun q_ => e_ q_.1), qf_mv (fun q_ => e2_ q_.1), qf_mv (fun q_ => e2_ q_.1)]
        exact ga_ a c ha hc
theorem qpg_mv1 (g : qG (Lmv L f w y)) (hf : f < qF L) {p : Nat} (h1 : w = jn 2) (h2 : y = jn p) : qpg (Lmv L f w y) p = jn f := qpg_of g hf (by rw [qf_mv8]; exact h1) (by rw [qf_mv9]; exact h2)
theorem qpg_mv2 {p : Nat} (h1 : ¬ (w = jn 2 ∧ y = jn p)) (h2 : ¬ (qf L f 8 = jn 2 ∧ qf L f 9 = jn p)) : qpg (Lmv L f w y) p = qpg L p := by
  have e_ : qw (Lmv L f w y) p = qw L p := by
    rw [qw_qk, qw_qk]
    refine qk_congr (fun i _ => ?_)
    by_cases e2_ : i = f
    · rw [e2_, qf_mv8, qf_mv9]
      exact ⟨fun q_ => absurd q_ h1, fun q_ => absurd q_ h2⟩
    · rw [qf_mv (fun q_ => e2_ q_.1), qf_mv (fun q_ => e2_ q_.1)]
  unfold qpg
  rw [e_]
  rfl
theorem qpg_mv3 (g : qG L) (g2 : qG (Lmv L f w y)) (hf : f < qF L) {p : Nat} (h1 : ¬ (w = jn 2 ∧ y = jn p)) (h2 : qf L f 8 = jn 2) (h3 : qf L f 9 = jn p) : qpg (Lmv L f w y) p = jg 1 := by
  rcases qpg_at g2 (p := p) with k_ | ⟨c_, hc_, _, k8_, k9_⟩
  · exact k_
  · have hc2_ : c_ < qF L := hc_
    by_cases e_ : c_ = f
    · rw [e_, qf_mv8] at k8_
      rw [e_, qf_mv9] at k9_
      exact absurd ⟨k8_, k9_⟩ h1
    · rw [qf_mv (fun q_ => e_ q_.1)] at k8_ k9_
      exact absurd (g.2.2.2.2.2.2.2.2.2 c_ f hc2_ hf k8_ h2 (by rw [k9_, h3])) e_
theorem mq_goes (h : qM L B (I 242)) (g : qG L) (hf : f < qF L) (w y : Int32) : ∃ J, d_M_goesTo (jn f) w y I = some J ∧ WM (Lmv L f w y) B I J := by
  have h1_ := g.1
  have b_ := qG_B g
  refine ⟨_, rm_goes (by omega) w y, ?_, fun a ha => by rw [ju_na ha, ju_na ha]⟩
  rw [ju_up, ju_up]
  exact qM_f (qM_f h b_ (f := f) (k := 8) (by omega) w) b_ (f := f) (k := 9) (by omega) y
theorem rS_mv {pg : Nat → Int32} (h : rS L pg I s u) (b : qB L) (d : u + 6 ≤ s) (hf : f < 12) : rS (Lmv L f w y) pg (ev_u2 (ev_u2 I (s + 2 + f) 8 w) (s + 2 + f) 9 y) s u := rS_f (rS_f h b d (f := f) (k := 8) hf w) b d (f := f) (k := 9) hf y
/-- hung on a free peg -/
theorem sq_hangs (h : qS L I s u) (g : qG L) (d : u + 6 ≤ s) (hf : f < qF L) (h0 : qf L f 8 = jn 0) {p : Nat} (hp : p < qP L) (hq : qpg L p = jg 1) : ∃ J, d_S_moveToPeg s (jn f) (jn p) I = some J ∧ WS (Lmv L f (jn 2) (jn p)) I J s u ∧ qG (Lmv L f (jn 2) (jn p)) := by
  have h1_ := g.1
  have h5_ := g.2.2.2.2.1
  have b_ := qG_B g
  have n01_ : ¬ jn 0 = jn 1 := by decide
  have n02_ : ¬ jn 0 = jn 2 := by decide
  have g2_ : qG (Lmv L f (jn 2) (jn p)) := qG_mv g hf (by rw [h0]; exact n01_) (Or.inr (Or.inl ⟨rfl, p, hp, rfl, hq⟩))
  have r_ := rS_mv (w := jn 2) (y := jn p) (rS_p (qS_r.mp h) b_ d (p := p) (jn f)) b_ d (f := f) (by omega)
  refine ⟨_, ?_, ⟨rS_cg r_ (fun q hq2 => ?_), fun a ha => by rw [ju_na (by omega), ju_na (by omega), ju_na (by omega)]⟩, g2_⟩
  · unfold d_S_moveToPeg d_G_moveTo
    rw [if_pos (by rw [jn_in (by omega)]; omega), if_pos (sq_in g hf), sq_n g hf, jn_n (by omega), ob_s]
  · by_cases e_ : q = p
    · rw [e_, jup_at, qpg_mv1 g2_ hf rfl rfl]
    · rw [jup_ne e_, qpg_mv2 (fun q_ => e_ ?_) (fun q_ => n02_ (h0.symm.trans q_.1))]
      have k_ := q_.2
      rw [jn_eq (by omega) (by omega)] at k_
      exact k_.symm
end YV
