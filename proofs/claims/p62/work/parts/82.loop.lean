/-! loops over flags: what they come to -/
/-- a loop that goes on over 0 .. n-1 with a value -/
theorem z_fl {α : Type} {f : α × Int32 → Option ((α × Int32) ⊕ (α × Int32))} (st : Nat → α → α) (a0 : α) {n : Nat} (hn : n < 100000) (hs : ∀ i, i < n → ∀ a, f (a, jn i) = some (.inl (st i a, jn (i + 1)))) (he : ∀ a, f (a, jn n) = some (.inr (a, jn n))) : z_it f z_F (a0, jn 0) = some (jfd st a0 n, jn n) :=
  z_for0 (fun i => (jfd st a0 i, jn i)) n hn (fun i hi => hs i hi _) (he _)
theorem zb {α β : Type} {x : Option α} {v : α} {f : α → Option β} (h : x = some v) : x.bind f = f v := by rw [h]; rfl
/-- the first i of 0 .. n-1 with P, else n -/
def qk (P : Nat → Prop) [DecidablePred P] (n : Nat) : Nat := jfst (fun i => decide (P i)) n 0
theorem jfst_le {P : Nat → Bool} : ∀ (n i : Nat), jfst P n i ≤ i + n ∧ i ≤ jfst P n i
  | 0, i => ⟨Nat.le_refl _, Nat.le_refl _⟩
  | n + 1, i => by
    have h_ := jfst_le (P := P) n (i + 1)
    unfold jfst
    cases hP_ : P i with
    | true => rw [if_pos rfl]; omega
    | false => rw [if_neg (by decide)]; omega
theorem jfst_lt {P : Nat → Bool} : ∀ (n i : Nat), ∀ j, i ≤ j → j < jfst P n i → P j = false
  | 0, i, j, h1_, h2_ => by
    have h3_ : j < i := h2_
    omega
  | n + 1, i, j, h1_, h2_ => by
    unfold jfst at h2_
    cases hP_ : P i with
    | true => rw [hP_, if_pos rfl] at h2_; omega
    | false =>
      rw [hP_, if_neg (by decide)] at h2_
      rcases Nat.lt_or_ge i j with h3_ | h3_
      · exact jfst_lt n (i + 1) j h3_ h2_
      · have e_ : j = i := by omega
        rw [e_]; exact hP_
theorem jfst_at {P : Nat → Bool} : ∀ (n i : Nat), jfst P n i < i + n → P (jfst P n i) = true
  | 0, i, h_ => by
    have h3_ : i < i + 0 := h_
    omega
  | n + 1, i, h_ => by
    unfold jfst at h_ ⊢
    cases hP_ : P i with
    | true => rw [if_pos rfl]; exact hP_
    | false =>
      rw [hP_, if_neg (by decide)] at h_
      rw [if_neg (by decide)]
      exact jfst_at n (i + 1) (by omega)
theorem qk_le {P : Nat → Prop} [DecidablePred P] {n : Nat} : qk P n ≤ n := by
  have h_ := (jfst_le (P := fun i => decide (P i)) n 0).1
  unfold qk
  omega
theorem qk_lt {P : Nat → Prop} [DecidablePred P] {n : Nat} {i : Nat} (h : i < qk P n) : ¬ P i := of_decide_eq_false (jfst_lt (P := fun i => decide (P i)) n 0 i (Nat.zero_le _) h)
theorem qk_at {P : Nat → Prop} [DecidablePred P] {n : Nat} (h : qk P n < n) : P (qk P n) := of_decide_eq_true (jfst_at (P := fun i => decide (P i)) n 0 (by rw [Nat.zero_add]; exact h))
theorem qk_eq {P : Nat → Prop} [DecidablePred P] {n : Nat} {i : Nat} (h1 : i < n) (h2 : P i) (h3 : ∀ j, j < i → ¬ P j) : qk P n = i := by
  rcases Nat.lt_trichotomy (qk P n) i with h_ | h_ | h_
  · exact absurd (qk_at (by omega)) (h3 _ h_)
  · exact h_
  · exact absurd h2 (qk_lt h_)
theorem qk_no {P : Nat → Prop} [DecidablePred P] {n : Nat} (h : ∀ i, i < n → ¬ P i) : qk P n = n := by
  rcases Nat.lt_or_ge (qk P n) n with h_ | h_
  · exact absurd (qk_at h_) (h _ h_)
  · have h9_ := qk_le (P := P) (n := n)
    omega
/-- a search -/
theorem z_srch {ρ : Type} {f : Int32 → Option (Int32 ⊕ ρ)} (P : Nat → Prop) [DecidablePred P] (r : Nat → ρ) (r0 : ρ) {n : Nat} (hn : n < 100000) (hs : ∀ i, i < n → f (jn i) = if P i then some (.inr (r i)) else some (.inl (jn (i + 1)))) (he : f (jn n) = some (.inr r0)) : z_it f z_F (jn 0) = some (if qk P n < n then r (qk P n) else r0) := by
  have hle_ := qk_le (P := P) (n := n)
  refine z_for0 (fun i => jn i) (qk P n) (by omega) (fun i hi => ?_) ?_
  · show f (jn i) = _
    rw [hs i (by omega), if_neg (qk_lt hi)]
  · show f (jn (qk P n)) = _
    rcases Nat.lt_or_ge (qk P n) n with h_ | h_
    · rw [hs _ h_, if_pos (qk_at h_), if_pos h_]
    · rw [if_neg (by omega), show qk P n = n from by omega, he]
theorem qk_congr {P R : Nat → Prop} [DecidablePred P] [DecidablePred R] {n : Nat} (h : ∀ i, i < n → (P i ↔ R i)) : qk P n = qk R n := by
  rcases Nat.lt_or_ge (qk P n) n with h_ | h_
  · exact (qk_eq h_ ((h _ h_).mp (qk_at h_)) (fun j hj => fun h9_ => qk_lt hj ((h j (by omega)).mpr h9_))).symm
  · have h9_ := qk_le (P := P) (n := n)
    have e_ : qk P n = n := by omega
    rw [e_]
    refine (qk_no (fun i hi h8_ => ?_)).symm
    exact qk_lt (P := P) (n := n) (by rw [e_]; exact hi) ((h i hi).mpr h8_)
/-- how many of 0 .. n-1 have P, as an int -/
def qct (P : Nat → Prop) [DecidablePred P] (n : Nat) : Int32 := jfd (fun i a => a + (if P i then jn 1 else jn 0)) (jn 0) n
theorem qct_congr {P R : Nat → Prop} [DecidablePred P] [DecidablePred R] {n : Nat} (h : ∀ i, i < n → (P i ↔ R i)) : qct P n = qct R n := jfd_congr (fun i hi x => by
  by_cases h_ : P i
  · rw [if_pos h_, if_pos ((h i hi).mp h_)]
  · rw [if_neg h_, if_neg (fun h9_ => h_ ((h i hi).mpr h9_))])
theorem jn_z (a : Int32) : a + jn 0 = a := Int32.add_zero a
theorem qct_if {c : Prop} [Decidable c] (a : Int32) : (if c then a + jn 1 else a) = a + (if c then jn 1 else jn 0) := by
  by_cases h_ : c
  · rw [if_pos h_, if_pos h_]
  · rw [if_neg h_, if_neg h_, jn_z]
theorem qct_fi {c : Prop} [Decidable c] (a : Int32) : (if c then a else a + jn 1) = a + (if ¬ c then jn 1 else jn 0) := by
  by_cases h_ : c
  · rw [if_pos h_, if_neg (fun h9_ => h9_ h_), jn_z]
  · rw [if_neg h_, if_pos h_]
/-- the same as a number -/
def qcn (P : Nat → Prop) [DecidablePred P] : Nat → Nat
  | 0 => 0
  | n + 1 => qcn P n + (if P n then 1 else 0)
theorem qcn_le {P : Nat → Prop} [DecidablePred P] {n : Nat} : qcn P n ≤ n := by
  induction n with
  | zero => exact Nat.le_refl _
  | succ n ih_ =>
    show qcn P n + (if P n then 1 else 0) ≤ n + 1
    by_cases h_ : P n
    · rw [if_pos h_]; omega
    · rw [if_neg h_]; omega
theorem qct_n {P : Nat → Prop} [DecidablePred P] {n : Nat} : qct P n = jn (qcn P n) := by
  induction n with
  | zero => rfl
  | succ n ih_ =>
    show qct P n + (if P n then jn 1 else jn 0) = jn (qcn P n + (if P n then 1 else 0))
    rw [ih_]
    by_cases h_ : P n
    · rw [if_pos h_, if_pos h_, jn_add]
    · rw [if_neg h_, if_neg h_, jn_add]
/-! the reference's counts -/
section QM2
variable {L : LL} {B : Nat} {I : z_H}
theorem mq_in10 : z_in (jn 10) 173 := by rw [jn_in (by omega)]; omega
theorem mq_go (h : qM L B (I 242)) (g : qG L) {i : Nat} (hi : i < qF L) : jn i < I 242 (z_n (jn 10)) := by
  have h1_ := g.1
  rw [mq_F h, jn_lt (by omega) (by omega)]
  exact hi
theorem mq_end (h : qM L B (I 242)) (g : qG L) : ¬ jn (qF L) < I 242 (z_n (jn 10)) := by
  have h1_ := g.1
  rw [mq_F h, jn_lt (by omega) (by omega)]
  omega
theorem mq_flagsAt (h : qM L B (I 242)) (g : qG L) (x : Int32) : d_M_flagsAt x I = some (qct (fun f => qf L f 8 = x) (qF L)) := by
  have h1_ := g.1
  unfold d_M_flagsAt
  refine (zb (z_fl (fun i a => a + (if qf L i 8 = x then jn 1 else jn 0)) (jn 0) (n := qF L) (by omega) (fun i hi a => ?_) (fun a => ?_))).trans rfl
  · show d_M_flagsAt_2 x I (a, jn i) = _
    unfold d_M_flagsAt_2
    dsimp only
    rw [if_pos mq_in10, if_pos (mq_go h g hi), mq_where h g hi, ob_s, ob_is, ob_s, mq_one, ob_s, jn_add]
  · show d_M_flagsAt_2 x I (a, jn (qF L)) = _
    unfold d_M_flagsAt_2
    dsimp only
    rw [if_pos mq_in10, if_neg (mq_end h g)]
theorem mq_flagsOf (h : qM L B (I 242)) (g : qG L) (x : Int32) : d_M_flagsOf x I = some (qct (fun f => qf L f 0 = x) (qF L)) := by
  have h1_ := g.1
  unfold d_M_flagsOf
  refine (zb (z_fl (fun i a => a + (if qf L i 0 = x then jn 1 else jn 0)) (jn 0) (n := qF L) (by omega) (fun i hi a => ?_) (fun a => ?_))).trans rfl
  · show d_M_flagsOf_2 x I (a, jn i) = _
    unfold d_M_flagsOf_2
    dsimp only
    rw [if_pos mq_in10, if_pos (mq_go h g hi), mq_f h g hi (by omega), ob_s, ob_is, ob_s, mq_one, ob_s, jn_add]
  · show d_M_flagsOf_2 x I (a, jn (qF L)) = _
    unfold d_M_flagsOf_2
    dsimp only
    rw [if_pos mq_in10, if_neg (mq_end h g)]
theorem mq_manyIn (h : qM L B (I 242)) (g : qG L) (x : Int32) : d_M_manyIn x I = some (qct (fun f => qf L f 8 = jn 1 ∧ qf L f 9 = x) (qF L)) := by
  have h1_ := g.1
  unfold d_M_manyIn
  refine (zb (z_fl (fun i a => a + (if qf L i 8 = jn 1 ∧ qf L i 9 = x then jn 1 else jn 0)) (jn 0) (n := qF L) (by omega) (fun i hi a => ?_) (fun a => ?_))).trans rfl
  · show d_M_manyIn_2 x I (a, jn i) = _
    unfold d_M_manyIn_2
    dsimp only
    rw [if_pos mq_in10, if_pos (mq_go h g hi), mq_inTub h g hi, ob_s, mq_one, ob_s, jn_add]
  · show d_M_manyIn_2 x I (a, jn (qF L)) = _
    unfold d_M_manyIn_2
    dsimp only
    rw [if_pos mq_in10, if_neg (mq_end h g)]
theorem mq_allDirt (h : qM L B (I 242)) (g : qG L) : d_M_allDirt I = some (jfd (fun i a => a + qf L i 3) (jn 0) (qF L)) := by
  have h1_ := g.1
  unfold d_M_allDirt
  refine (zb (z_fl (fun i a => a + qf L i 3) (jn 0) (n := qF L) (by omega) (fun i hi a => ?_) (fun a => ?_))).trans rfl
  · show d_M_allDirt_2 I (a, jn i) = _
    unfold d_M_allDirt_2
    dsimp only
    rw [if_pos mq_in10, if_pos (mq_go h g hi), mq_f h g hi (by omega), ob_s, jn_add]
  · show d_M_allDirt_2 I (a, jn (qF L)) = _
    unfold d_M_allDirt_2
    dsimp only
    rw [if_pos mq_in10, if_neg (mq_end h g)]
theorem mq_flagOn (h : qM L B (I 242)) (g : qG L) (x : Int32) : d_M_flagOn x I = some (if qk (fun f => qf L f 8 = jn 2 ∧ qf L f 9 = x) (qF L) < qF L then jn (qk (fun f => qf L f 8 = jn 2 ∧ qf L f 9 = x) (qF L)) else jg 1) := by
  have h1_ := g.1
  unfold d_M_flagOn
  refine z_srch (fun f => qf L f 8 = jn 2 ∧ qf L f 9 = x) (fun i => jn i) (jg 1) (by omega) (fun i hi => ?_) ?_
  · unfold d_M_flagOn_2
    rw [if_pos mq_in10, if_pos (mq_go h g hi), mq_where h g hi, ob_s]
    by_cases h2_ : qf L i 8 = jn 2
    · rw [if_pos h2_, mq_f h g hi (by omega), ob_s, jn_add]
      simp only [h2_, true_and]
    · rw [if_neg h2_, if_neg (fun h9_ => h2_ h9_.1), jn_add]
  · unfold d_M_flagOn_2
    rw [if_pos mq_in10, if_neg (mq_end h g)]
end QM2
