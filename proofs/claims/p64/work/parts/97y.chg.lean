/-! the calls that change a laundry, on both sides (wip/gen/zo3.py) -/
section CHG
variable {n B : Nat} {I J J1 J2 : z_H} {L L2 : LL} {U : List LL} {V : Nat → Option LL}
/-- what keeping leaves -/
def kC (n : Nat) (U : List LL) (L : LL) (I J : z_H) : Prop := hU (kU U L) J (n + 1) ∧ ∀ b, b < 55 ∨ 201 ≤ b → J b = I b
theorem chgC (hn : n = 2 ∨ n = 28) (g : qG L) (S : qS L I (n + 7) (n + 1)) (hu : hU U I (n + 1)) (gu : gU U) : ∃ J, d_H_keep (n + 7) I = some J ∧ qS L J (n + 7) (n + 1) ∧ kC n U L I J := by
  obtain ⟨J_, e_, h1_, h2_⟩ := sq_keep S g hn hu gu
  exact ⟨J_, e_, qS_out S (fun b b1 b2 => h2_ b (by omega)) (fun b b1 b2 => h2_ b (by omega)) g, h1_, h2_⟩
theorem rng_n {lo hi : Nat} {x : Int32} (hl : lo < 1000) (hh : hi < 1000) (h : ¬ x < jn lo ∧ ¬ jn hi < x) : ∃ k, k ≤ hi ∧ x = jn k := by
  obtain ⟨a_, b_⟩ := h
  rw [Int32.lt_iff_toInt_lt, jn_toInt (by omega)] at a_ b_
  refine ⟨x.toInt.toNat, by omega, Int32.toInt_inj.mp ?_⟩
  rw [jn_toInt (by omega)]
  omega
theorem rng_j {c : Nat} {x y : Int32} (hc : c < 1000) (h : ¬ x < jn 0 ∧ ¬ y < x) (e : jn c - jn 1 = y) : jlt x c := by
  rw [← e] at h
  exact (jlt_r hc).mp h
theorem hOk_4 {x : Int32} (h : hOk x) : jlt x 4 := rng_j (by omega) h (by decide)
theorem yput_0 {f t : Nat} (h : yput L f t = jn 0) : qf L f 8 = jn 0 ∧ jn (qt L t).length < qo L t := by
  unfold yput at h
  by_cases a_ : qf L f 8 = jn 0
  · rw [if_pos a_] at h
    by_cases b_ : jn (qt L t).length < qo L t
    · exact ⟨a_, b_⟩
    · rw [if_neg b_] at h
      exact absurd h (by decide)
  · rw [if_neg a_] at h
    exact absurd h (by decide)
theorem yble_0 {f : Nat} (h : yble L f = jn 0) : ¬ qf L f 7 = jn 2 := fun q_ => by
  unfold yble at h
  rw [if_pos q_] at h
  by_cases a_ : qf L f 8 = jn 0
  · rw [if_pos a_] at h
    by_cases b_ : qf L f 6 = jn 0
    · rw [if_pos b_] at h
      exact absurd h (by decide)
    · rw [if_neg b_] at h
      exact absurd h (by decide)
  · rw [if_neg a_] at h
    exact absurd h (by decide)
theorem all_c {c : Nat} (h : c ≤ 6) : ((jn 1) <<< ((jn c) &&& 31)) - (jn 1) = jn (2 ^ c - 1) := by
  have i_ : c = 0 ∨ c = 1 ∨ c = 2 ∨ c = 3 ∨ c = 4 ∨ c = 5 ∨ c = 6 := by omega
  rcases i_ with rfl | rfl | rfl | rfl | rfl | rfl | rfl <;> decide
end CHG
