/-! numbers, loops, folds: what the texts' arithmetic comes to -/
theorem jn_toInt {a : Nat} (h : a < 100000) : (jn a).toInt = (a : Int) := Int32.toInt_ofNat_of_lt (by show a < 2147483648; omega)
theorem jg_toInt {a : Nat} (h : a < 100000) : (jg a).toInt = -(a : Int) := Int32.toInt_ofInt_of_le (by omega) (by omega)
theorem jn_n {a : Nat} (h : a < 100000) : z_n (jn a) = a := by
  show (jn a).toInt.toNat = a
  rw [jn_toInt h]
  rfl
theorem jn_add (a b : Nat) : jn a + jn b = jn (a + b) := (Int32.ofNat_add a b).symm
theorem jn_mul (a b : Nat) : jn a * jn b = jn (a * b) := (Int32.ofNat_mul a b).symm
theorem jn_sub {a b : Nat} (h : b ≤ a) : jn a - jn b = jn (a - b) := (Int32.ofNat_sub a b h).symm
theorem jn_lt {a b : Nat} (ha : a < 100000) (hb : b < 100000) : (jn a < jn b) = (a < b) := by
  apply propext
  rw [Int32.lt_iff_toInt_lt, jn_toInt ha, jn_toInt hb]
  omega
theorem jn_eq {a b : Nat} (ha : a < 100000) (hb : b < 100000) : (jn a = jn b) = (a = b) := by
  apply propext
  rw [← Int32.toInt_inj, jn_toInt ha, jn_toInt hb]
  omega
theorem jg_ne {a b : Nat} (ha : a < 100000) (hb : b < 100000) (h : 0 < a) : (jg a = jn b) = False := by
  apply propext
  rw [← Int32.toInt_inj, jg_toInt ha, jn_toInt hb]
  constructor
  · intro h_; omega
  · intro h_; exact h_.elim
theorem jn_ng {a b : Nat} (ha : a < 100000) (hb : b < 100000) (h : 0 < a) : (jn b = jg a) = False := by
  apply propext
  rw [← Int32.toInt_inj, jg_toInt ha, jn_toInt hb]
  constructor
  · intro h_; omega
  · intro h_; exact h_.elim
theorem jg_eq {a b : Nat} (ha : a < 100000) (hb : b < 100000) : (jg a = jg b) = (a = b) := by
  apply propext
  rw [← Int32.toInt_inj, jg_toInt ha, jg_toInt hb]
  omega
theorem jn_lg {a b : Nat} (ha : a < 100000) (hb : b < 100000) : (jn b < jg a) = False := by
  apply propext
  rw [Int32.lt_iff_toInt_lt, jg_toInt ha, jn_toInt hb]
  constructor
  · intro h_; omega
  · intro h_; exact h_.elim
theorem jg_lt {a b : Nat} (ha : a < 100000) (hb : b < 100000) (h : 0 < a) : (jg a < jn b) = True := by
  apply propext
  rw [Int32.lt_iff_toInt_lt, jg_toInt ha, jn_toInt hb]
  constructor
  · intro _; trivial
  · intro _; omega
theorem jn_in {a n : Nat} (ha : a < 100000) : z_in (jn a) n = (a < n) := by
  apply propext
  show ev_ok (jn a) n = true ↔ a < n
  unfold ev_ok
  rw [Bool.and_eq_true, decide_eq_true_eq, decide_eq_true_eq, show (jn a).toNatClampNeg = a from jn_n ha]
  constructor
  · intro h_; exact h_.2
  · intro h_
    refine ⟨Int32.le_iff_toInt_le.mpr ?_, h_⟩
    rw [jn_toInt ha]
    exact Int.natCast_nonneg _
theorem jg_in {a n : Nat} (ha : a < 100000) (h : 0 < a) : z_in (jg a) n = False := by
  apply propext
  show ev_ok (jg a) n = true ↔ False
  unfold ev_ok
  rw [Bool.and_eq_true, decide_eq_true_eq, decide_eq_true_eq, Int32.le_iff_toInt_le, jg_toInt ha]
  have h0_ : (0 : Int32).toInt = 0 := by decide
  constructor
  · intro h_; omega
  · intro h_; exact h_.elim
/-- an int that is one of 0 .. n-1 -/
def jlt (x : Int32) (n : Nat) : Prop := ∃ k, k < n ∧ x = jn k
theorem jlt_in {x : Int32} {n : Nat} (hn : n ≤ 100000) : z_in x n ↔ jlt x n := by
  constructor
  · intro h_
    have h9_ : ev_ok x n = true := h_
    unfold ev_ok at h9_
    rw [Bool.and_eq_true, decide_eq_true_eq, decide_eq_true_eq] at h9_
    refine ⟨z_n x, h9_.2, ?_⟩
    have h1_ : (0 : Int) ≤ x.toInt := by
      have h8_ := Int32.le_iff_toInt_le.mp h9_.1
      simpa using h8_
    have h2_ : x.toInt.toNat < n := h9_.2
    refine Int32.toInt_inj.mp ?_
    rw [jn_toInt (by show x.toInt.toNat < 100000; omega)]
    show x.toInt = ((x.toInt.toNat : Nat) : Int)
    omega
  · rintro ⟨k_, h1_, rfl⟩
    rw [jn_in (by omega)]
    exact h1_
/-- a loop whose states are known: it goes n times round and ends -/
theorem z_for {σ ρ : Type} {f : σ → Option (σ ⊕ ρ)} (g : Nat → σ) {n : Nat} {r : ρ} (hs : ∀ i, i < n → f (g i) = some (.inl (g (i + 1)))) (he : f (g n) = some (.inr r)) : ∀ (m i : Nat), i ≤ n → n < m + i → z_it f m (g i) = some r := by
  intro m
  induction m with
  | zero => intro i h1_ h2_; omega
  | succ m ih_ =>
    intro i h1_ h2_
    unfold z_it
    rcases Nat.lt_or_ge i n with h3_ | h3_
    · rw [hs i h3_]
      exact ih_ (i + 1) (by omega) (by omega)
    · have e_ : i = n := by omega
      rw [e_, he]
theorem z_for0 {σ ρ : Type} {f : σ → Option (σ ⊕ ρ)} (g : Nat → σ) (n : Nat) {r : ρ} (hn : n < 100000) (hs : ∀ i, i < n → f (g i) = some (.inl (g (i + 1)))) (he : f (g n) = some (.inr r)) : z_it f z_F (g 0) = some r := z_for g hs he z_F 0 (Nat.zero_le _) (by unfold z_F; omega)
/-- n steps on from a -/
def jfd {α : Type} (st : Nat → α → α) (a : α) : Nat → α
  | 0 => a
  | n + 1 => st n (jfd st a n)
theorem jfd_s {α : Type} (st : Nat → α → α) (a : α) (n : Nat) : jfd st a (n + 1) = st n (jfd st a n) := rfl
theorem jfd_congr {α : Type} {st st2 : Nat → α → α} {a : α} {n : Nat} (h : ∀ i, i < n → ∀ x, st i x = st2 i x) : jfd st a n = jfd st2 a n := by
  induction n with
  | zero => rfl
  | succ n ih_ =>
    rw [jfd_s, jfd_s, ih_ (fun i hi x => h i (by omega) x), h n (by omega)]
/-- the first of 0 .. n-1 with P, else n -/
def jfst (P : Nat → Bool) : Nat → Nat → Nat
  | 0, i => i
  | n + 1, i => if P i then i else jfst P n (i + 1)
theorem ob_s {α β : Type} (a : α) (f : α → Option β) : (some a).bind f = f a := rfl
theorem ob_i {α β : Type} {c : Prop} [Decidable c] {a b : Option α} (f : α → Option β) : Option.bind (if c then a else b) f = if c then a.bind f else b.bind f := by
  by_cases h_ : c
  · rw [if_pos h_, if_pos h_]
  · rw [if_neg h_, if_neg h_]
theorem ob_is {α : Type} {c : Prop} [Decidable c] {a b : α} : (if c then some a else some b) = some (if c then a else b) := by
  by_cases h_ : c
  · rw [if_pos h_, if_pos h_]
  · rw [if_neg h_, if_neg h_]
theorem jeq0 {c : Prop} [Decidable c] : ((if c then jn 1 else jn 0) = jn 0) = ¬ c := by
  by_cases h_ : c
  · rw [if_pos h_, jn_eq (by omega) (by omega)]
    apply propext
    constructor
    · intro h9_; omega
    · intro h9_; exact absurd h_ h9_
  · rw [if_neg h_]
    apply propext
    exact ⟨fun _ => h_, fun _ => rfl⟩
theorem j01 {c : Prop} [Decidable c] : ((if c then jn 1 else jn 0) = jn 0 ∨ (if c then jn 1 else jn 0) = jn 1) = True := by
  apply propext
  refine ⟨fun _ => trivial, fun _ => ?_⟩
  by_cases h_ : c
  · rw [if_pos h_]; exact Or.inr rfl
  · rw [if_neg h_]; exact Or.inl rfl
/-- a write read back -/
theorem ju_at (I : z_H) (a i : Nat) (x : Int32) : ev_u2 I a i x a i = x := by
  unfold ev_u2
  rw [if_pos rfl]
  exact if_pos rfl
theorem ju_ne {I : z_H} {a i b j : Nat} {x : Int32} (h : ¬ (b = a ∧ j = i)) : ev_u2 I a i x b j = I b j := by
  unfold ev_u2
  by_cases e_ : b = a
  · rw [if_pos e_]
    exact if_neg (fun h9_ => h ⟨e_, h9_⟩)
  · rw [if_neg e_]
theorem ju_na {I : z_H} {a i b : Nat} {x : Int32} (h : ¬ b = a) : ev_u2 I a i x b = I b := by
  unfold ev_u2
  rw [if_neg h]
