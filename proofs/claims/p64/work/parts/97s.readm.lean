section RDM
variable {N q B : Nat} {A : Nat → Int32} {I J : z_H} {L : LL}
def tR (N : Nat) (x : PE ⊕ LL) (K : z_H) : Prop := (∃ e, x = .inl e ∧ fM e K) ∨ (∃ L, x = .inr L ∧ K 241 10 = jn 0 ∧ K 241 11 = jg 1 ∧ mS L N K)
theorem qM_00 (h : ∀ k, k < 173 → A k = jn 0) : qM (L00 0) 0 A := qM_r.mpr ⟨⟨fun k hk => h k (by omega), h 6 (by omega), h 7 (by omega), h 8 (by omega), h 9 (by omega), h 10 (by omega), fun c hc => absurd hc (Nat.not_lt_zero _), fun n k hn => absurd hn (Nat.not_lt_zero _), fun t ht => absurd ht (Nat.not_lt_zero _), fun f k hf => absurd hf (Nat.not_lt_zero _), fun n _ hn => h _ (by omega)⟩, 0, h 11 (by omega), Nat.le_refl _, fun t ht => absurd ht (Nat.not_lt_zero _)⟩
theorem qM_00k {k : Nat} (h : qM (L00 0) 0 A) : qM (L00 k) 0 (jup A 9 (jn k)) := by
  obtain ⟨⟨h1_, h2_, h3_, h4_, h5_, h6_, h7_, h8_, h9_, ha_, hb_⟩, p_, p1_, p2_, p3_⟩ := qM_r.mp h
  refine qM_r.mpr ⟨⟨fun j hj => ?_, ?_, ?_, ?_, jup_at, ?_, fun c hc => absurd hc (Nat.not_lt_zero _), fun n k hn => absurd hn (Nat.not_lt_zero _), fun t ht => absurd ht (Nat.not_lt_zero _), fun f k hf => absurd hf (Nat.not_lt_zero _), fun n hn hn2 => ?_⟩, p_, ?_, p2_, fun t ht => absurd ht (Nat.not_lt_zero _)⟩
  · rw [jup_ne (by omega)]; exact h1_ j hj
  · rw [jup_ne (by omega)]; exact h2_
  · rw [jup_ne (by omega)]; exact h3_
  · rw [jup_ne (by omega)]; exact h4_
  · rw [jup_ne (by omega)]; exact h6_
  · rw [jup_ne (by omega)]; exact hb_ n hn hn2
  · rw [jup_ne (by omega)]; exact p1_
theorem lz_00 {P : Nat} : Lz (L00 P) (fun _ => jn 0) = L00 P := by
  have e_ : (fun (n k : Nat) => if k = 4 ∧ ¬ qn (L00 P) n 3 = jn 1 then jn 0 else qn (L00 P) n k) = fun _ _ => jn 0 := by
    funext n k
    by_cases h_ : k = 4 ∧ ¬ qn (L00 P) n 3 = jn 1
    · rw [if_pos h_]
    · rw [if_neg h_]
      rfl
  show ((0, 0, 0, 0, P), _, (fun (n k : Nat) => if k = 4 ∧ ¬ qn (L00 P) n 3 = jn 1 then jn 0 else qn (L00 P) n k), _, _, _, _) = L00 P
  rw [e_]
  rfl
end RDM
