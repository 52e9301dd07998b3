/-! the reference's lines of deeds and flags -/
section DDM
variable {N q q0 B : Nat} {A : Nat → Int32} {I J : z_H} {L : LL} {lo hi : Int32}
/-- the loop over colours -/
theorem pD_L (h : pD A q = true) : ¬ pL A q = true := by
  intro k_
  unfold pD at h
  unfold pL at k_
  rw [decide_eq_true_eq] at h k_
  obtain ⟨_, h2_⟩ := h
  obtain ⟨k1_, _⟩ := k_
  have e1_ : (jn 97).toInt = 97 := by decide
  have e2_ : (jn 57).toInt = 57 := by decide
  rw [Int32.lt_iff_toInt_lt, e2_] at h2_
  rw [Int32.lt_iff_toInt_lt, e1_] at k1_
  omega
theorem tK_D (h1 : q < N) (h2 : pD A q = true) : tK N A q = 3 ∨ tK N A q = 0 := by
  unfold tK
  rw [if_pos h1, if_neg (pD_L h2), if_pos h2]
  by_cases w_ : 2 < tE N A q - q
  · rw [if_pos w_]; exact Or.inr rfl
  · rw [if_neg w_]; exact Or.inl rfl
theorem tK_3 (h : tK N A q = 3) : q < N ∧ pD A q = true := by
  unfold tK at h
  by_cases h1_ : q < N
  · rw [if_pos h1_] at h
    by_cases h2_ : pL A q = true
    · rw [if_pos h2_] at h
      by_cases w_ : 6 < tE N A q - q
      · rw [if_pos w_] at h; omega
      · rw [if_neg w_] at h; omega
    · rw [if_neg h2_] at h
      by_cases h3_ : pD A q = true
      · exact ⟨h1_, h3_⟩
      · rw [if_neg h3_] at h
        by_cases w_ : A q = jn 59
        · rw [if_pos w_] at h; omega
        · rw [if_neg w_] at h; omega
  · rw [if_neg h1_] at h
    omega
end DDM
