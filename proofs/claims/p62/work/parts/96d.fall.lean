/-! what falls from the line -/
def Lfal (L : LL) (f : Nat) : LL := ls (lf (Lmv L f (jn 0) (jg 1)) f 3 (z_mn (jn 9) (qf L f 3 + jn 1))) 5 (qs L 5 + jn 1)
def Llst (L : LL) : LL := match ylst L with | some p => Lfal L (z_n (qpg L p)) | none => L
def Lfall (L : LL) : LL := if qs L 1 < jn 7 then L else Llst L
theorem ymn_10 : ∀ a : Fin 10, ∃ k : Fin 10, z_mn (jn 9) (jn a.val + jn 1) = jn k.val := by decide +kernel
theorem ylst_at {L : LL} (g : qG L) {p : Nat} (h : ylst L = some p) : p < qP L ∧ ∃ f, f < qF L ∧ qpg L p = jn f ∧ qf L f 8 = jn 2 ∧ qf L f 9 = jn p := by
  have h1_ := qkd_lt h
  refine ⟨h1_.1, ?_⟩
  rcases qpg_at g (p := p) with k_ | k_
  · exact absurd k_ h1_.2
  · exact k_
theorem qG_fal {L : LL} (g : qG L) {f : Nat} (hf : f < qF L) (h : qf L f 8 = jn 2) : qG (Lfal L f) := by
  have n21_ : ¬ jn 2 = jn 1 := by decide
  have g2_ : qG (Lmv L f (jn 0) (jg 1)) := qG_mv g hf (by rw [h]; exact n21_) (Or.inl ⟨rfl, rfl⟩)
  obtain ⟨a_, ha_, ea_⟩ := (g.2.2.2.2.2.1 f hf).2.2.2.1
  obtain ⟨k_, ek_⟩ := ymn_10 ⟨a_, ha_⟩
  exact qG_s (qG_f g2_ (Or.inl ⟨rfl, k_.val, k_.isLt, by rw [ea_]; exact ek_⟩)) (by omega)
theorem qG_lst {L : LL} (g : qG L) : qG (Llst L) := by
  have h1_ := g.1
  unfold Llst
  cases e_ : ylst L with
  | none => exact g
  | some p =>
    obtain ⟨_, f_, hf_, e2_, h8_, _⟩ := ylst_at g e_
    show qG (Lfal L (z_n (qpg L p)))
    rw [e2_, jn_n (by omega)]
    exact qG_fal g hf_ h8_
theorem qG_fall {L : LL} (g : qG L) : qG (Lfall L) := by
  unfold Lfall
  by_cases h_ : qs L 1 < jn 7
  · rw [if_pos h_]; exact g
  · rw [if_neg h_]; exact qG_lst g
section YFL
variable {L : LL} {B : Nat} {I : z_H} {s u : Nat}
theorem sq_drop (h : qS L I s u) (g : qG L) (d : u + 6 ≤ s) : ∃ J, d_S_dropLastFromLine s I = some J ∧ WS (Llst L) I J s u := by
  have h1_ := g.1
  have h5_ := g.2.2.2.2.1
  have b_ := qG_B g
  unfold d_S_dropLastFromLine Llst
  rw [sq_last h g, ob_s]
  cases e_ : ylst L with
  | none => exact ⟨I, if_pos rfl, h, fun _ _ => rfl⟩
  | some p =>
    obtain ⟨hp_, f_, hf_, e2_, h8_, h9_⟩ := ylst_at g e_
    have n21_ : ¬ jn 2 = jn 1 := by decide
    have n02_ : ¬ jn 0 = jn 2 := by decide
    have g2_ : qG (Lmv L f_ (jn 0) (jg 1)) := qG_mv g hf_ (by rw [h8_]; exact n21_) (Or.inl ⟨rfl, rfl⟩)
    have r_ := rS_s (rS_f (rS_mv (w := jn 0) (y := jg 1) (rS_p (qS_r.mp h) b_ d (p := p) (jg 1)) b_ d (f := f_) (by omega)) b_ d (f := f_) (k := 3) (by omega) (z_mn (jn 9) (qf L f_ 3 + jn 1))) b_ d (k := 5) (by omega) (qs L 5 + jn 1)
    show ∃ J, (if jn p = jg 1 then _ else _) = some J ∧ WS (Lfal L (z_n (qpg L p))) I J s u
    rw [if_neg (by rw [jn_ng (by omega) (by omega) (by omega)]; exact fun q_ => q_), if_pos (by rw [jn_in (by omega)]; omega), jn_n (by omega), sq_pg h (by omega), e2_, if_pos (sq_in g hf_), if_pos (by rw [jn_in (by omega)]; omega), sq_n g hf_]
    refine ⟨_, ?_, rS_cg r_ (fun q hq => ?_), fun a ha => ?_⟩
    · unfold d_G_moveTo d_G_takeFall
      rw [ob_s, ob_s]
      simp only [ju_na (show ¬ s = s + 2 + f_ by omega), ju_na (show ¬ s = s + 16 by omega)]
      rw [ju_ne (by omega), ju_ne (by omega), ju_na (by omega), sq_f h hf_ (by omega), sq_now h (by omega)]
    · show jup (qpg L) p (jg 1) q = qpg (lf (Lmv L f_ (jn 0) (jg 1)) f_ 3 (z_mn (jn 9) (qf L f_ 3 + jn 1))) q
      rw [qpg_f (by omega)]
      by_cases e3_ : q = p
      · rw [e3_, jup_at, qpg_mv3 g g2_ hf_ (fun q_ => n02_ q_.1) h8_ h9_]
      · rw [jup_ne e3_, qpg_mv2 (fun q_ => n02_ q_.1) (fun q_ => e3_ ?_)]
        have k_ := q_.2
        rw [h9_, jn_eq (by omega) (by omega)] at k_
        exact k_.symm
    · rw [ju_na (by omega), ju_na (by omega), ju_na (by omega), ju_na (by omega), ju_na (by omega)]
theorem mq_falls (h : qM L B (I 242)) (g : qG L) : ∃ J, d_M_falls I = some J ∧ WM (Lfall L) B I J := by
  have h1_ := g.1
  have b_ := qG_B g
  unfold d_M_falls Lfall
  rw [if_pos (show z_in (jn 1) 173 by rw [jn_in (by omega)]; omega), mq_now h (by omega), mq_last h g, ob_s]
  by_cases hw_ : qs L 1 < jn 7
  · rw [if_pos hw_, if_pos hw_, ob_s, if_pos rfl]
    exact ⟨I, rfl, h, fun _ _ => rfl⟩
  · rw [if_neg hw_, if_neg hw_, ob_s]
    unfold Llst
    cases e_ : ylst L with
    | none => exact ⟨I, if_pos rfl, h, fun _ _ => rfl⟩
    | some p =>
      obtain ⟨hp_, f_, hf_, e2_, h8_, h9_⟩ := ylst_at g e_
      have m2_ := qM_s (qM_f (qM_f (qM_f h b_ (f := f_) (k := 8) (by omega) (jn 0)) b_ (f := f_) (k := 9) (by omega) (jg 1)) b_ (f := f_) (k := 3) (by omega) (z_mn (jn 9) (qf L f_ 3 + jn 1))) (k := 5) (by omega) (qs L 5 + jn 1)
      dsimp only
      rw [if_neg (by rw [e2_, jn_ng (by omega) (by omega) (by omega)]; exact fun q_ => q_), e2_, jn_n (a := f_) (by omega), rm_goes (by omega), ob_s, mq_ofFlag (by omega) (by omega), ob_s, rm_put (by omega) (by omega), ob_s, if_pos (show z_in (jn 5) 173 by rw [jn_in (by omega)]; omega), if_pos (show z_in (jn 5) 173 by rw [jn_in (by omega)]; omega), jn_n (by omega)]
      refine ⟨_, rfl, ?_, fun a ha => by rw [ju_na ha, ju_na ha, ju_na ha, ju_na ha]⟩
      rw [ju_ne (by omega), ju_ne (by omega), ju_ne (by omega), ju_ne (by omega), ju_ne (by omega), h.1 5 (by omega), h.2.2.2.2.2.2.2.2.2.1 f_ 3 hf_ (by omega), ju_up, ju_up, ju_up, ju_up]
      exact m2_
end YFL
