/-! a laundry as a value; how the class's heap and the reference's array hold it -/
abbrev LL : Type := (Nat × Nat × Nat × Nat × Nat) × (Nat → Nat → Int32) × (Nat → Nat → Int32) × (Nat → Int32) × (Nat → Int32) × (Nat → Int32) × (Nat → List Nat)
/-- how many flags, colours, nations, tubs, pegs; a flag's numbers (as the class's fields lie), a nation's (DUE, FEE, FINE, handed, late then), RUNS, ROOM, the sums (HOUR, WIND, EARNED, FINED, washes, falls), the tubs' flags -/
def qF (L : LL) : Nat := L.1.1
def qC (L : LL) : Nat := L.1.2.1
def qN (L : LL) : Nat := L.1.2.2.1
def qT (L : LL) : Nat := L.1.2.2.2.1
def qP (L : LL) : Nat := L.1.2.2.2.2
def qf (L : LL) : Nat → Nat → Int32 := L.2.1
def qn (L : LL) : Nat → Nat → Int32 := L.2.2.1
def qr (L : LL) : Nat → Int32 := L.2.2.2.1
def qo (L : LL) : Nat → Int32 := L.2.2.2.2.1
def qs (L : LL) : Nat → Int32 := L.2.2.2.2.2.1
def qt (L : LL) : Nat → List Nat := L.2.2.2.2.2.2
/-- the first flag on a peg, else how many flags there are -/
def qw (L : LL) (p : Nat) : Nat := jfst (fun f => decide (qf L f 8 = jn 2) && decide (qf L f 9 = jn p)) (qF L) 0
def qpg (L : LL) (p : Nat) : Int32 := if qw L p < qF L then jn (qw L p) else jg 1
/-- what a flag's numbers may be -/
def qgf (L : LL) (f : Nat) : Prop := jlt (qf L f 0) (qN L) ∧ jlt (qf L f 1) (2 ^ qC L) ∧ jlt (qf L f 2) 4 ∧ jlt (qf L f 3) 10 ∧ jlt (qf L f 4) 10 ∧ jlt (qf L f 5) 10 ∧ jlt (qf L f 6) (2 ^ qC L) ∧ jlt (qf L f 7) 3 ∧
  ((qf L f 8 = jn 0 ∧ qf L f 9 = jg 1) ∨ (qf L f 8 = jn 1 ∧ jlt (qf L f 9) (qT L)) ∨ (qf L f 8 = jn 2 ∧ jlt (qf L f 9) (qP L)) ∨ (qf L f 8 = jn 3 ∧ qf L f 9 = jg 1))
def qgn (L : LL) (n : Nat) : Prop := jlt (qn L n 0) 100 ∧ jlt (qn L n 1) 100 ∧ jlt (qn L n 2) 10 ∧ (qn L n 3 = jn 0 ∨ (qn L n 3 = jn 1 ∧ ¬ qn L n 4 = jg 1))
def qgt (L : LL) (t : Nat) : Prop := (∃ m, m < 7 ∧ qo L t = jn m ∧ (qt L t).length ≤ m) ∧ (qt L t).Nodup ∧ ∀ f, f ∈ qt L t ↔ (f < qF L ∧ qf L f 8 = jn 1 ∧ qf L f 9 = jn t)
/-- a laundry as it may be -/
def qG (L : LL) : Prop := qF L ≤ 12 ∧ qC L ≤ 6 ∧ qN L ≤ 4 ∧ qT L ≤ 3 ∧ qP L ≤ 8 ∧ (∀ f, f < qF L → qgf L f) ∧ (∀ n, n < qN L → qgn L n) ∧ (∀ t, t < qT L → qgt L t) ∧ jlt (qs L 1) 10 ∧ (∀ f g, f < qF L → g < qF L → qf L f 8 = jn 2 → qf L g 8 = jn 2 → qf L f 9 = qf L g 9 → f = g)
/-- the order in which flags were put, as the reference tells it -/
def qMo (L : LL) (B : Nat) (A : Nat → Int32) : Prop := ∃ p, A 11 = jn p ∧ p ≤ B ∧ ∀ t, t < qT L → (∀ f ∈ qt L t, ∃ k, k < p ∧ A (41 + 11 * f + 10) = jn k) ∧ (qt L t).Pairwise (fun f g => A (41 + 11 * f + 10) < A (41 + 11 * g + 10))
/-- the reference's array holds the laundry -/
def qM (L : LL) (B : Nat) (A : Nat → Int32) : Prop := (∀ k, k < 6 → A k = qs L k) ∧ A 6 = jn (qC L) ∧ A 7 = jn (qN L) ∧ A 8 = jn (qT L) ∧ A 9 = jn (qP L) ∧ A 10 = jn (qF L) ∧ (∀ c, c < qC L → A (12 + c) = qr L c) ∧ (∀ n k, n < qN L → k < 5 → A (18 + 5 * n + k) = qn L n k) ∧ (∀ t, t < qT L → A (38 + t) = qo L t) ∧ (∀ f k, f < qF L → k < 10 → A (41 + 11 * f + k) = qf L f k) ∧ (∀ n, qN L ≤ n → n < 4 → A (18 + 5 * n + 3) = jn 0) ∧ qMo L B A
/-- the class's state s holds it, its setup being u -/
def qSn (L : LL) (I : z_H) (s u n : Nat) : Prop := I (u + 2) n = qn L n 0 ∧ I (u + 3) n = qn L n 1 ∧ I (u + 4) n = qn L n 2 ∧ I (s + 17) n = (if qn L n 3 = jn 1 then qn L n 4 else jg 1)
def qSt (L : LL) (I : z_H) (s u t : Nat) : Prop := I (u + 5) t = qo L t ∧ I (s + 14) t = jn (qt L t).length ∧ ∀ i f, (qt L t)[i]? = some f → I (s + 15) (t * 6 + i) = jn f
def qS (L : LL) (I : z_H) (s u : Nat) : Prop := (∀ k, k < 6 → I s k = qs L k) ∧ I s 6 = jn (qF L) ∧ I u 0 = jn (qP L) ∧ I u 1 = jn (qC L) ∧ I u 2 = jn (qN L) ∧ I u 3 = jn (qT L) ∧ (∀ c, c < qC L → I (u + 1) c = qr L c) ∧ (∀ n, n < qN L → qSn L I s u n) ∧ (∀ t, t < qT L → qSt L I s u t) ∧ (∀ f k, f < qF L → k < 10 → I (s + 2 + f) k = qf L f k) ∧ (∀ p, p < 8 → I (s + 16) p = qpg L p) ∧ (∀ n, qN L ≤ n → n < 4 → I (s + 17) n = jg 1) ∧ (∀ t, qT L ≤ t → t < 3 → I (s + 14) t = jn 0)
/-! the reference's readers -/
section QM
variable {L : LL} {B : Nat} {I : z_H}
theorem mq_ofFlag {f k : Nat} (hf : f < 12) (hk : k < 11) : d_M_ofFlag (jn f) (jn k) I = some (I 242 (41 + 11 * f + k)) := by
  unfold d_M_ofFlag
  simp only [jn_mul, jn_add]
  rw [if_pos (by rw [jn_in (by omega)]; omega), jn_n (by omega)]
theorem mq_ofNation {n k : Nat} (hn : n < 4) (hk : k < 5) : d_M_ofNation (jn n) (jn k) I = some (I 242 (18 + 5 * n + k)) := by
  unfold d_M_ofNation
  simp only [jn_mul, jn_add]
  rw [if_pos (by rw [jn_in (by omega)]; omega), jn_n (by omega)]
theorem mq_f (h : qM L B (I 242)) (g : qG L) {f k : Nat} (hf : f < qF L) (hk : k < 10) : d_M_ofFlag (jn f) (jn k) I = some (qf L f k) := by
  have h1_ := g.1
  rw [mq_ofFlag (by omega) (by omega), h.2.2.2.2.2.2.2.2.2.1 f k hf hk]
theorem mq_n (h : qM L B (I 242)) (g : qG L) {n k : Nat} (hn : n < qN L) (hk : k < 5) : d_M_ofNation (jn n) (jn k) I = some (qn L n k) := by
  have h1_ := g.2.2.1
  rw [mq_ofNation (by omega) hk, h.2.2.2.2.2.2.2.1 n k hn hk]
theorem mq_where (h : qM L B (I 242)) (g : qG L) {f : Nat} (hf : f < qF L) : d_M_where (jn f) I = some (qf L f 8) := by
  unfold d_M_where
  rw [mq_f h g hf (by omega)]
  rfl
theorem mq_F (h : qM L B (I 242)) : I 242 (z_n (jn 10)) = jn (qF L) := by rw [jn_n (by omega)]; exact h.2.2.2.2.2.1
theorem mq_one {c : Prop} [Decidable c] : d_M_one (if c then jn 1 else jn 0) = some (if c then jn 1 else jn 0) := by
  unfold d_M_one
  by_cases h_ : c
  · simp only [if_pos h_]
    rw [if_neg (by rw [jn_eq (by omega) (by omega)]; omega)]
    rfl
  · simp only [if_neg h_, if_true]
    rfl
theorem mq_inTub (h : qM L B (I 242)) (g : qG L) {f : Nat} (hf : f < qF L) (x : Int32) : d_M_isInTub (jn f) x I = some (if qf L f 8 = jn 1 ∧ qf L f 9 = x then jn 1 else jn 0) := by
  unfold d_M_isInTub
  rw [mq_where h g hf, ob_s]
  by_cases h1_ : qf L f 8 = jn 1
  · rw [if_pos h1_, mq_f h g hf (by omega), ob_s, ob_is, ob_s]
    rw [if_pos (by rw [j01]; trivial)]
    simp only [h1_, true_and]
  · rw [if_neg h1_, ob_s, if_pos (Or.inl rfl), if_neg (fun h9_ => h1_ h9_.1)]
theorem mq_basket (h : qM L B (I 242)) (g : qG L) {f : Nat} (hf : f < qF L) : d_M_isInBasket (jn f) I = some (if qf L f 8 = jn 0 then jn 1 else jn 0) := by
  unfold d_M_isInBasket
  rw [mq_where h g hf, ob_s]
  by_cases h1_ : qf L f 8 = jn 0
  · simp only [if_pos h1_, ob_s]
    rfl
  · simp only [if_neg h1_, ob_s]
    rfl
end QM
