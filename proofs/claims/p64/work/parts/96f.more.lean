/-! washes until clean; bleaching in the reference -/
def ywf (L : LL) (f : Nat) : Int32 := ((qf L f 3 + (jn 1 + jn 2 * qf L f 2)) - jn 1) / (jn 1 + jn 2 * qf L f 2)
def ywsh (c : Int32) (p : Int32 × Int32) : Option ((Int32 × Int32) ⊕ (Int32 × Int32)) := if jn 0 < p.2 then (if p.1 < jn 9 then some (.inl (p.1 + jn 1, p.2 - (jn 1 + jn 2 * c))) else some (.inr (p.1, p.2))) else some (.inr (p.1, p.2))
theorem ywsh_ok : ∀ (a : Fin 10) (c : Fin 4), (z_it (ywsh (jn c.val)) z_F (jn 0, jn a.val)).bind (fun q => some q.1) = some (((jn a.val + (jn 1 + jn 2 * jn c.val)) - jn 1) / (jn 1 + jn 2 * jn c.val)) := by decide +kernel
theorem ywsh_0 : ∀ c : Fin 4, ¬ (jn 1 + jn 2 * jn c.val) = jn 0 := by decide +kernel
section YX
variable {L : LL} {B : Nat} {I : z_H} {s u f : Nat}
theorem qf_w0 (g : qG L) (hf : f < qF L) : ¬ (jn 1 + jn 2 * qf L f 2) = jn 0 := by
  obtain ⟨c_, hc_, ec_⟩ := (g.2.2.2.2.2.1 f hf).2.2.1
  rw [ec_]
  exact ywsh_0 ⟨c_, hc_⟩
end YX
