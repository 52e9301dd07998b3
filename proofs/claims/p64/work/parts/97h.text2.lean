/-! texts of tubs, nations and the line: both sides -/
def ytst (l : List Nat) (i : Nat) (w : List Nat) : List Nat := (if w.length = 0 then w else w ++ [44]) ++ jnum (l[i]?.getD 0)
def ytl (l : List Nat) (n : Nat) : List Nat := jfd (ytst l) [] n
def yhyp (w : List Nat) : List Nat := if w.length = 0 then [45] else w
theorem ytl_le {l : List Nat} : ∀ n, n ≤ (ytl l n).length ∧ (ytl l n).length ≤ 3 * n := by
  intro n
  induction n with
  | zero => exact ⟨Nat.le_refl _, Nat.le_refl _⟩
  | succ n ih_ =>
    show n + 1 ≤ (ytst l n (ytl l n)).length ∧ (ytst l n (ytl l n)).length ≤ 3 * (n + 1)
    have k_ := jnum_le (v := l[n]?.getD 0)
    unfold ytst
    rw [List.length_append]
    by_cases h_ : (ytl l n).length = 0
    · rw [if_pos h_]; omega
    · rw [if_neg h_, ap_len]; omega
def ynst (L : LL) (n f : Nat) (w : List Nat) : List Nat := if qf L f 0 = jn n then (if w.length = 0 then w else w ++ [32]) ++ jnum f ++ [58] ++ jnum (z_n (ywhy (ybs L f))) else w
def ynl (L : LL) (n m : Nat) : List Nat := jfd (ynst L n) [] m
theorem ywhy_lt : ∀ a b c d e f g : Bool, ∃ k : Fin 8, ywhy (a, b, c, d, e, f, g) = jn k.val := by decide +kernel
theorem ywhy_8 {L : LL} {f : Nat} : ∃ k, k < 8 ∧ ywhy (ybs L f) = jn k := by
  obtain ⟨k_, e_⟩ := ywhy_lt (decide (qf L f 8 = jn 3)) (decide (qf L f 8 = jn 1)) (decide (qf L f 8 = jn 2)) (decide (jn 0 < qf L f 3)) (decide (¬ qf L f 6 = jn 0)) (decide (jn 0 < qf L f 4)) (decide (jn 0 < qf L f 5))
  exact ⟨k_.val, k_.isLt, e_⟩
theorem ynl_le {L : LL} {n : Nat} : ∀ m, (ynl L n m).length ≤ 4 * m + (m - 10) := by
  intro m
  induction m with
  | zero => exact Nat.le_refl _
  | succ m ih_ =>
    show (ynst L n m (ynl L n m)).length ≤ _
    obtain ⟨k_, hk_, ek_⟩ := ywhy_8 (L := L) (f := m)
    unfold ynst
    by_cases h_ : qf L m 0 = jn n
    · rw [if_pos h_, List.length_append, ap_len, List.length_append, ek_, jn_n (a := k_) (by omega), jnum_1 (v := k_) (by omega)]
      have l_ : (jnum m).length ≤ 1 + (if m < 10 then 0 else 1) := by
        by_cases m_ : m < 10
        · rw [if_pos m_, jnum_1 m_]; exact Nat.le_refl _
        · rw [if_neg m_]; exact jnum_le.2
      by_cases m_ : m < 10
      · rw [if_pos m_] at l_
        by_cases w_ : (ynl L n m).length = 0
        · rw [if_pos w_]; omega
        · rw [if_neg w_, ap_len]; omega
      · rw [if_neg m_] at l_
        by_cases w_ : (ynl L n m).length = 0
        · rw [if_pos w_]; omega
        · rw [if_neg w_, ap_len]; omega
    · rw [if_neg h_]; omega
def ylst2 (L : LL) (p : Nat) (w : List Nat) : List Nat := (if w.length = 0 then w else w ++ [47]) ++ (if qpg L p = jg 1 then [46] else jnum (z_n (qpg L p)))
def yll (L : LL) (n : Nat) : List Nat := jfd (ylst2 L) [] n
theorem yll_le {L : LL} : ∀ n, n ≤ (yll L n).length ∧ (yll L n).length ≤ 3 * n := by
  intro n
  induction n with
  | zero => exact ⟨Nat.le_refl _, Nat.le_refl _⟩
  | succ n ih_ =>
    show n + 1 ≤ (ylst2 L n (yll L n)).length ∧ (ylst2 L n (yll L n)).length ≤ 3 * (n + 1)
    have k_ := jnum_le (v := z_n (qpg L n))
    have k2_ : 1 ≤ (if qpg L n = jg 1 then [46] else jnum (z_n (qpg L n))).length ∧ (if qpg L n = jg 1 then [46] else jnum (z_n (qpg L n))).length ≤ 2 := by
      by_cases q_ : qpg L n = jg 1
      · rw [if_pos q_]
        show 1 ≤ 1 ∧ 1 ≤ 2
        omega
      · rw [if_neg q_]; exact k_
    unfold ylst2
    rw [List.length_append]
    by_cases h_ : (yll L n).length = 0
    · rw [if_pos h_]; omega
    · rw [if_neg h_, ap_len]; omega
section TX2
variable {L : LL} {B : Nat} {I : z_H} {s u t n : Nat} {w : List Nat}
theorem tT_S {J : z_H} (h : qS L I s u) (g : qG L) (d : s + 18 ≤ 239) (d2 : u + 6 ≤ 239) (t_ : tT w I J) : qS L J s u := qS_out h (fun b b1 b2 => t_.2 b (by omega) (by omega)) (fun b b1 b2 => t_.2 b (by omega) (by omega)) g
theorem tM_M {J : z_H} (h : qM L B (I 242)) (t_ : tM w I J) : qM L B (J 242) := by
  rw [t_.2.1 242 (by omega) (by omega)]; exact h
theorem btw_le {c : Nat} : (if w.length = 0 then w else w ++ [c]).length ≤ w.length + 1 := by
  by_cases w_ : w.length = 0
  · rw [if_pos w_]; omega
  · rw [if_neg w_, ap_len]; omega
end TX2
