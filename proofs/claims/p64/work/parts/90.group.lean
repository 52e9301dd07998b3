/-! groups: both sides write them into an array of their own -/
/-- a heap with one object's numbers in place of its own -/
def jset (I : z_H) (a : Nat) (G : Nat → Int32) : z_H := fun b => if b = a then G else I b
theorem jset_at {I : z_H} {a : Nat} {G : Nat → Int32} : jset I a G a = G := if_pos rfl
theorem jset_ne {I : z_H} {a b : Nat} {G : Nat → Int32} (h : ¬ b = a) : jset I a G b = I b := if_neg h
theorem jset_id {I : z_H} {a : Nat} : jset I a (I a) = I := by
  funext b
  by_cases h_ : b = a
  · rw [h_, jset_at]
  · rw [jset_ne h_]
theorem jset_u {I : z_H} {a i : Nat} {G : Nat → Int32} {x : Int32} : ev_u2 (jset I a G) a i x = jset I a (fun j => if j = i then x else G j) := by
  funext b j
  by_cases h_ : b = a
  · rw [h_, jset_at]
    by_cases h2_ : j = i
    · rw [h2_, ju_at, if_pos rfl]
    · rw [ju_ne (fun h9_ => h2_ h9_.2), jset_at, if_neg h2_]
  · rw [ju_ne (fun h9_ => h_ h9_.1), jset_ne h_, jset_ne h_]
theorem qS_out {L : LL} {I J : z_H} {s u : Nat} (h : qS L I s u) (e1 : ∀ b, s ≤ b → b < s + 18 → J b = I b) (e2 : ∀ b, u ≤ b → b < u + 6 → J b = I b) (g : qG L) : qS L J s u := by
  have h1_ := g.1
  have h2_ := g.2.2.2.1
  refine ⟨fun k hk => ?_, ?_, ?_, ?_, ?_, ?_, fun c hc => ?_, fun n hn => ?_, fun t ht => ?_, fun f k hf hk => ?_, fun p hp => ?_, fun n h3 h4 => ?_, fun t h3 h4 => ?_⟩
  · rw [e1 s (by omega) (by omega)]; exact h.1 k hk
  · rw [e1 s (by omega) (by omega)]; exact h.2.1
  · rw [e2 u (by omega) (by omega)]; exact h.2.2.1
  · rw [e2 u (by omega) (by omega)]; exact h.2.2.2.1
  · rw [e2 u (by omega) (by omega)]; exact h.2.2.2.2.1
  · rw [e2 u (by omega) (by omega)]; exact h.2.2.2.2.2.1
  · rw [e2 (u + 1) (by omega) (by omega)]; exact h.2.2.2.2.2.2.1 c hc
  · have h9_ := h.2.2.2.2.2.2.2.1 n hn
    exact ⟨by rw [e2 (u + 2) (by omega) (by omega)]; exact h9_.1, by rw [e2 (u + 3) (by omega) (by omega)]; exact h9_.2.1, by rw [e2 (u + 4) (by omega) (by omega)]; exact h9_.2.2.1, by rw [e1 (s + 17) (by omega) (by omega)]; exact h9_.2.2.2⟩
  · have h9_ := h.2.2.2.2.2.2.2.2.1 t ht
    exact ⟨by rw [e2 (u + 5) (by omega) (by omega)]; exact h9_.1, by rw [e1 (s + 14) (by omega) (by omega)]; exact h9_.2.1, fun i f hi => by rw [e1 (s + 15) (by omega) (by omega)]; exact h9_.2.2 i f hi⟩
  · rw [e1 (s + 2 + f) (by omega) (by omega)]; exact h.2.2.2.2.2.2.2.2.2.1 f k hf hk
  · rw [e1 (s + 16) (by omega) (by omega)]; exact h.2.2.2.2.2.2.2.2.2.2.1 p hp
  · rw [e1 (s + 17) (by omega) (by omega)]; exact h.2.2.2.2.2.2.2.2.2.2.2.1 n h3 h4
  · rw [e1 (s + 14) (by omega) (by omega)]; exact h.2.2.2.2.2.2.2.2.2.2.2.2 t h3 h4
theorem qS_jset {L : LL} {I : z_H} {s : Nat} {G : Nat → Int32} (h : qS L I (s + 7) (s + 1)) (g : qG L) : qS L (jset I (s + 25) G) (s + 7) (s + 1) := qS_out h (fun b h1 h2 => jset_ne (by omega)) (fun b h1 h2 => jset_ne (by omega)) g
theorem qM_jset {L : LL} {I : z_H} {B : Nat} {G : Nat → Int32} (h : qM L B (I 242)) : qM L B ((jset I 248 G) 242) := by rw [jset_ne (by omega)]; exact h
/-- flag i mixes with one of group k -/
def ymg (L : LL) (G : Nat → Int32) (x : Int32) (i k : Nat) : Bool := decide (qk (fun j => G j = jn k ∧ ¬ ymix L i j x = jn 0) i < i)
/-- the first group that it may join -/
def yfg (L : LL) (G : Nat → Int32) (x : Int32) (i n : Nat) : Nat := qk (fun k => ¬ ymg L G x i k = true) n
def ygst (L : LL) (x : Int32) (i : Nat) (p : Nat × (Nat → Int32)) : Nat × (Nat → Int32) := if qf L i 8 = jn 0 ∧ ¬ qf L i 3 = jn 0 ∧ ¬ qf L i 2 < x then (if p.1 < yfg L p.2 x i p.1 + 1 then yfg L p.2 x i p.1 + 1 else p.1, fun j => if j = i then jn (yfg L p.2 x i p.1) else p.2 j) else (p.1, fun j => if j = i then jg 1 else p.2 j)
def ygrp (L : LL) (x : Int32) (G : Nat → Int32) (n : Nat) : Nat × (Nat → Int32) := jfd (ygst L x) (0, G) n
theorem ygst_le {L : LL} {x : Int32} {i : Nat} {p : Nat × (Nat → Int32)} : (ygst L x i p).1 ≤ p.1 + 1 := by
  have h_ := qk_le (P := fun k => ¬ ymg L p.2 x i k = true) (n := p.1)
  unfold ygst
  by_cases h1_ : qf L i 8 = jn 0 ∧ ¬ qf L i 3 = jn 0 ∧ ¬ qf L i 2 < x
  · rw [if_pos h1_]
    show (if p.1 < yfg L p.2 x i p.1 + 1 then yfg L p.2 x i p.1 + 1 else p.1) ≤ p.1 + 1
    have h2_ : yfg L p.2 x i p.1 ≤ p.1 := h_
    by_cases h3_ : p.1 < yfg L p.2 x i p.1 + 1
    · rw [if_pos h3_]; omega
    · rw [if_neg h3_]; omega
  · rw [if_neg h1_]
    exact Nat.le_succ _
theorem ygrp_le {L : LL} {x : Int32} {G : Nat → Int32} : ∀ n, (ygrp L x G n).1 ≤ n := by
  intro n
  induction n with
  | zero => exact Nat.le_refl _
  | succ n ih_ =>
    show (ygst L x n (ygrp L x G n)).1 ≤ n + 1
    have h_ := ygst_le (L := L) (x := x) (i := n) (p := ygrp L x G n)
    omega
theorem ymg_cg {L : LL} {x : Int32} {G H : Nat → Int32} {i k : Nat} (h : ∀ j, j < i → G j = H j) : ymg L G x i k = ymg L H x i k := by
  unfold ymg
  rw [qk_congr (P := fun j => G j = jn k ∧ ¬ ymix L i j x = jn 0) (R := fun j => H j = jn k ∧ ¬ ymix L i j x = jn 0) (fun j hj => by rw [h j hj])]
theorem yfg_cg {L : LL} {x : Int32} {G H : Nat → Int32} {i n : Nat} (h : ∀ j, j < i → G j = H j) : yfg L G x i n = yfg L H x i n := by
  unfold yfg
  exact qk_congr (fun k _ => by rw [ymg_cg h])
/-- what lay in the array before doesn't count -/
theorem ygrp_cg {L : LL} {x : Int32} (G H : Nat → Int32) : ∀ n, (ygrp L x G n).1 = (ygrp L x H n).1 ∧ ∀ j, j < n → (ygrp L x G n).2 j = (ygrp L x H n).2 j := by
  intro n
  induction n with
  | zero => exact ⟨rfl, fun j hj => absurd hj (Nat.not_lt_zero _)⟩
  | succ n ih_ =>
    show (ygst L x n (ygrp L x G n)).1 = (ygst L x n (ygrp L x H n)).1 ∧ ∀ j, j < n + 1 → (ygst L x n (ygrp L x G n)).2 j = (ygst L x n (ygrp L x H n)).2 j
    generalize ygrp L x G n = a_ at ih_ ⊢
    generalize ygrp L x H n = b_ at ih_ ⊢
    have e_ := yfg_cg (L := L) (x := x) (n := a_.1) ih_.2
    unfold ygst
    by_cases h1_ : qf L n 8 = jn 0 ∧ ¬ qf L n 3 = jn 0 ∧ ¬ qf L n 2 < x
    · rw [if_pos h1_, if_pos h1_]
      dsimp only
      rw [e_, ih_.1]
      refine ⟨rfl, fun j hj => ?_⟩
      by_cases h2_ : j = n
      · rw [if_pos h2_, if_pos h2_]
      · rw [if_neg h2_, if_neg h2_]
        exact ih_.2 j (by omega)
    · rw [if_neg h1_, if_neg h1_]
      dsimp only
      refine ⟨ih_.1, fun j hj => ?_⟩
      by_cases h2_ : j = n
      · rw [if_pos h2_, if_pos h2_]
      · rw [if_neg h2_, if_neg h2_]
        exact ih_.2 j (by omega)
theorem jmx_n {a b : Nat} (ha : a < 100000) (hb : b < 100000) : z_mx (jn a) (jn b) = jn (if a < b then b else a) := by
  unfold z_mx
  have e_ : (jn a < jn b) = (a < b) := jn_lt ha hb
  by_cases h_ : a < b
  · rw [if_pos (by rw [e_]; exact h_), if_pos h_]
  · rw [if_neg (by rw [e_]; exact h_), if_neg h_]
section YG
variable {L : LL} {B : Nat} {I : z_H} {s : Nat} {G : Nat → Int32}
theorem sq_bears {u f : Nat} (h : qS L I s u) (hf : f < qF L) (x : Int32) : d_G_bears (s + 2 + f) x I = some (if qf L f 2 < x then jn 0 else jn 1) := by
  unfold d_G_bears
  rw [sq_f h hf (by omega), ob_is, ob_s]
  by_cases h_ : qf L f 2 < x
  · rw [if_pos h_, if_pos (Or.inl rfl)]
  · rw [if_neg h_, if_pos (Or.inr rfl)]
theorem jset_uu {a i : Nat} {x y : Int32} : ev_u2 (jset I a (fun j => if j = i then x else G j)) a i y = jset I a (fun j => if j = i then y else G j) := by
  rw [jset_u]
  congr 1
  funext j
  by_cases h_ : j = i
  · rw [if_pos h_, if_pos h_]
  · rw [if_neg h_, if_neg h_, if_neg h_]
theorem qf_d0 (g : qG L) {f : Nat} (hf : f < qF L) : (jn 0 < qf L f 3) = ¬ qf L f 3 = jn 0 := by
  obtain ⟨k_, hk_, e_⟩ := (g.2.2.2.2.2.1 f hf).2.2.2.1
  rw [e_, jn_lt (by omega) (by omega), jn_eq (by omega) (by omega)]
  exact propext ⟨fun h9_ => by omega, fun h9_ => by omega⟩
end YG
