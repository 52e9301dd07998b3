/-! washes until clean; bleaching in the reference -/
def ywf (L : LL) (f : Nat) : Int32 := ((qf L f 3 + (jn 1 + jn 2 * qf L f 2)) - jn 1) / (jn 1 + jn 2 * qf L f 2)
def ywsh (c : Int32) (p : Int32 × Int32) : Option ((Int32 × Int32) ⊕ (Int32 × Int32)) := if jn 0 < p.2 then (if p.1 < jn 9 then some (.inl (p.1 + jn 1, p.2 - (jn 1 + jn 2 * c))) else some (.inr (p.1, p.2))) else some (.inr (p.1, p.2))
theorem ywsh_ok : ∀ (a : Fin 10) (c : Fin 4), (z_it (ywsh (jn c.val)) z_F (jn 0, jn a.val)).bind (fun q => some q.1) = some (((jn a.val + (jn 1 + jn 2 * jn c.val)) - jn 1) / (jn 1 + jn 2 * jn c.val)) := by decide +kernel
theorem ywsh_0 : ∀ c : Fin 4, ¬ (jn 1 + jn 2 * jn c.val) = jn 0 := by decide +kernel
section YX
variable {L : LL} {B : Nat} {I : z_H} {s u f : Nat}
theorem sq_washes (h : qS L I s u) (g : qG L) (hf : f < qF L) : d_G_washesUntilClean (s + 2 + f) I = some (ywf L f) := by
  obtain ⟨c_, hc_, ec_⟩ := (g.2.2.2.2.2.1 f hf).2.2.1
  obtain ⟨a_, ha_, ea_⟩ := (g.2.2.2.2.2.1 f hf).2.2.2.1
  have e_ : d_G_washesUntilClean_2 (s + 2 + f) I = ywsh (qf L f 2) := by
    funext p
    unfold d_G_washesUntilClean_2 ywsh
    rw [sq_f h hf (by omega)]
  unfold d_G_washesUntilClean ywf
  rw [e_, sq_f h hf (by omega), ec_, ea_]
  exact ywsh_ok ⟨a_, ha_⟩ ⟨c_, hc_⟩
theorem qf_w0 (g : qG L) (hf : f < qF L) : ¬ (jn 1 + jn 2 * qf L f 2) = jn 0 := by
  obtain ⟨c_, hc_, ec_⟩ := (g.2.2.2.2.2.1 f hf).2.2.1
  rw [ec_]
  exact ywsh_0 ⟨c_, hc_⟩
theorem mq_bleach (h : qM L B (I 242)) (g : qG L) (hf : f < qF L) : ∃ J, ((d_M_putsFlag (jn f) (jn 6) (jn 0) I).bind fun q12 => ((d_M_ofFlag (jn f) (jn 7) q12).bind fun q14 => ((d_M_putsFlag (jn f) (jn 7) (q14 + jn 1) q12).bind fun q16 => some (ystc L f, q16)))) = some (ystc L f, J) ∧ WM (Lble L f) B I J := by
  have h1_ := g.1
  have b_ := qG_B g
  have m2_ := qM_f (qM_f h b_ (f := f) (k := 6) (by omega) (jn 0)) b_ (f := f) (k := 7) (by omega) (qf L f 7 + jn 1)
  refine ⟨ev_u2 (ev_u2 I 242 (41 + 11 * f + 6) (jn 0)) 242 (41 + 11 * f + 7) (qf L f 7 + jn 1), ?_, ?_, fun a ha => by rw [ju_na ha, ju_na ha]⟩
  · rw [rm_put (by omega) (by omega), ob_s, mq_ofFlag (by omega) (by omega), ob_s, rm_put (by omega) (by omega), ob_s, ju_ne (by omega), h.2.2.2.2.2.2.2.2.2.1 f 7 hf (by omega)]
  · rw [ju_up, ju_up]
    exact m2_
end YX
