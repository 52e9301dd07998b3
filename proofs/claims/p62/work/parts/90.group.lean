/-! groups: both sides write them into an array of their own -/
/-- a heap with one object's numbers in place of its own -/
def jset (I : z_H) (a : Nat) (G : Nat → Int32) : z_H := fun b => if b = a then G else I b
theorem jset_at {I : z_H} {a : Nat} {G : Nat → Int32} : jset I a G a = G := if_pos rfl
theorem jset_ne {I : z_H} {a b : Nat} {G : Nat → Int32} (h : ¬ b = a) : jset I a G b = I b := if_neg h
theorem jset_id {I : z_H} {a : Nat} : jset I a (I a) = I := by
  funext b
  by_cases h_ : b = a
  · rw [h_, jset_at]
  · rw [jset_ne h_]
theorem jset_u {I : z_H} {a i : Nat} {G : Nat → Int32} {x : Int32} : ev_u2 (jset I a G) a i x = jset I a (fun j => if j = i then x else G j) := by
  funext b j
  by_cases h_ : b = a
  · rw [h_, jset_at]
    by_cases h2_ : j = i
    · rw [h2_, ju_at, if_pos rfl]
    · rw [ju_ne (fun h9_ => h2_ h9_.2), jset_at, if_neg h2_]
  · rw [ju_ne (fun h9_ => h_ h9_.1), jset_ne h_, jset_ne h_]
theorem qS_out {L : LL} {I J : z_H} {s u : Nat} (h : qS L I s u) (e1 : ∀ b, s ≤ b → b < s + 18 → J b = I b) (e2 : ∀ b, u ≤ b → b < u + 6 → J b = I b) (g : qG L) : qS L J s u := by
  have h1_ := g.1
  have h2_ := g.2.2.2.1
  refine ⟨fun k hk => ?_, ?_, ?_, ?_, ?_, ?_, fun c hc => ?_, fun n hn => ?_, fun t ht => ?_, fun f k hf hk => ?_, fun p hp => ?_, fun n h3 h4 => ?_, fun t h3 h4 => ?_⟩
  · rw [e1 s (by omega) (by omega)]; exact h.1 k hk
  · rw [e1 s (by omega) (by omega)]; exact h.2.1
  · rw [e2 u (by omega) (by omega)]; exact h.2.2.1
  · rw [e2 u (by omega) (by omega)]; exact h.2.2.2.1
  · rw [e2 u (by omega) (by omega)]; exact h.2.2.2.2.1
  · rw [e2 u (by omega) (by omega)]; exact h.2.2.2.2.2.1
  · rw [e2 (u + 1) (by omega) (by omega)]; exact h.2.2.2.2.2.2.1 c hc
  · have h9_ := h.2.2.2.2.2.2.2.1 n hn
    exact ⟨by rw [e2 (u + 2) (by omega) (by omega)]; exact h9_.1, by rw [e2 (u + 3) (by omega) (by omega)]; exact h9_.2.1, by rw [e2 (u + 4) (by omega) (by omega)]; exact h9_.2.2.1, by rw [e1 (s + 17) (by omega) (by omega)]; exact h9_.2.2.2⟩
  · have h9_ := h.2.2.2.2.2.2.2.2.1 t ht
    exact ⟨by rw [e2 (u + 5) (by omega) (by omega)]; exact h9_.1, by rw [e1 (s + 14) (by omega) (by omega)]; exact h9_.2.1, fun i f hi => by rw [e1 (s + 15) (by omega) (by omega)]; exact h9_.2.2 i f hi⟩
  · rw [e1 (s + 2 + f) (by omega) (by omega)]; exact h.2.2.2.2.2.2.2.2.2.1 f k hf hk
  · rw [e1 (s + 16) (by omega) (by omega)]; exact h.2.2.2.2.2.2.2.2.2.2.1 p hp
  · rw [e1 (s + 17) (by omega) (by omega)]; exact h.2.2.2.2.2.2.2.2.2.2.2.1 n h3 h4
  · rw [e1 (s + 14) (by omega) (by omega)]; exact h.2.2.2.2.2.2.2.2.2.2.2.2 t h3 h4
theorem qS_jset {L : LL} {I : z_H} {s : Nat} {G : Nat → Int32} (h : qS L I (s + 7) (s + 1)) (g : qG L) : qS L (jset I (s + 25) G) (s + 7) (s + 1) := qS_out h (fun b h1 h2 => jset_ne (by omega)) (fun b h1 h2 => jset_ne (by omega)) g
theorem qM_jset {L : LL} {I : z_H} {B : Nat} {G : Nat → Int32} (h : qM L B (I 242)) : qM L B ((jset I 248 G) 242) := by rw [jset_ne (by omega)]; exact h
/-- flag i mixes with one of group k -/
def ymg (L : LL) (G : Nat → Int32) (x : Int32) (i k : Nat) : Bool := decide (qk (fun j => G j = jn k ∧ ¬ ymix L i j x = jn 0) i < i)
/-- the first group that it may join -/
def yfg (L : LL) (G : Nat → Int32) (x : Int32) (i n : Nat) : Nat := qk (fun k => ¬ ymg L G x i k = true) n
def ygst (L : LL) (x : Int32) (i : Nat) (p : Nat × (Nat → Int32)) : Nat × (Nat → Int32) := if qf L i 8 = jn 0 ∧ ¬ qf L i 3 = jn 0 ∧ ¬ qf L i 2 < x then (if p.1 < yfg L p.2 x i p.1 + 1 then yfg L p.2 x i p.1 + 1 else p.1, fun j => if j = i then jn (yfg L p.2 x i p.1) else p.2 j) else (p.1, fun j => if j = i then jg 1 else p.2 j)
def ygrp (L : LL) (x : Int32) (G : Nat → Int32) (n : Nat) : Nat × (Nat → Int32) := jfd (ygst L x) (0, G) n
theorem ygst_le {L : LL} {x : Int32} {i : Nat} {p : Nat × (Nat → Int32)} : (ygst L x i p).1 ≤ p.1 + 1 := by
  have h_ := qk_le (P := fun k => ¬ ymg L p.2 x i k = true) (n := p.1)
  unfold ygst
  by_cases h1_ : qf L i 8 = jn 0 ∧ ¬ qf L i 3 = jn 0 ∧ ¬ qf L i 2 < x
  · rw [if_pos h1_]
    show (if p.1 < yfg L p.2 x i p.1 + 1 then yfg L p.2 x i p.1 + 1 else p.1) ≤ p.1 + 1
    have h2_ : yfg L p.2 x i p.1 ≤ p.1 := h_
    by_cases h3_ : p.1 < yfg L p.2 x i p.1 + 1
    · rw [if_pos h3_]; omega
    · rw [if_neg h3_]; omega
  · rw [if_neg h1_]
    exact Nat.le_succ _
theorem ygrp_le {L : LL} {x : Int32} {G : Nat → Int32} : ∀ n, (ygrp L x G n).1 ≤ n := by
  intro n
  induction n with
  | zero => exact Nat.le_refl _
  | succ n ih_ =>
    show (ygst L x n (ygrp L x G n)).1 ≤ n + 1
    have h_ := ygst_le (L := L) (x := x) (i := n) (p := ygrp L x G n)
    omega
theorem ymg_cg {L : LL} {x : Int32} {G H : Nat → Int32} {i k : Nat} (h : ∀ j, j < i → G j = H j) : ymg L G x i k = ymg L H x i k := by
  unfold ymg
  rw [qk_congr (P := fun j => G j = jn k ∧ ¬ ymix L i j x = jn 0) (R := fun j => H j = jn k ∧ ¬ ymix L i j x = jn 0) (fun j hj => by rw [h j hj])]
theorem yfg_cg {L : LL} {x : Int32} {G H : Nat → Int32} {i n : Nat} (h : ∀ j, j < i → G j = H j) : yfg L G x i n = yfg L H x i n := by
  unfold yfg
  exact qk_congr (fun k _ => by rw [ymg_cg h])
/-- what lay in the array before doesn't count -/
theorem ygrp_cg {L : LL} {x : Int32} (G H : Nat → Int32) : ∀ n, (ygrp L x G n).1 = (ygrp L x H n).1 ∧ ∀ j, j < n → (ygrp L x G n).2 j = (ygrp L x H n).2 j := by
  intro n
  induction n with
  | zero => exact ⟨rfl, fun j hj => absurd hj (Nat.not_lt_zero _)⟩
  | succ n ih_ =>
    show (ygst L x n (ygrp L x G n)).1 = (ygst L x n (ygrp L x H n)).1 ∧ ∀ j, j < n + 1 → (ygst L x n (ygrp L x G n)).2 j = (ygst L x n (ygrp L x H n)).2 j
    generalize ygrp L x G n = a_ at ih_ ⊢
    generalize ygrp L x H n = b_ at ih_ ⊢
    have e_ := yfg_cg (L := L) (x := x) (n := a_.1) ih_.2
    unfold ygst
    by_cases h1_ : qf L n 8 = jn 0 ∧ ¬ qf L n 3 = jn 0 ∧ ¬ qf L n 2 < x
    · rw [if_pos h1_, if_pos h1_]
      dsimp only
      rw [e_, ih_.1]
      refine ⟨rfl, fun j hj => ?_⟩
      by_cases h2_ : j = n
      · rw [if_pos h2_, if_pos h2_]
      · rw [if_neg h2_, if_neg h2_]
        exact ih_.2 j (by omega)
    · rw [if_neg h1_, if_neg h1_]
      dsimp only
      refine ⟨ih_.1, fun j hj => ?_⟩
      by_cases h2_ : j = n
      · rw [if_pos h2_, if_pos h2_]
      · rw [if_neg h2_, if_neg h2_]
        exact ih_.2 j (by omega)
theorem jmx_n {a b : Nat} (ha : a < 100000) (hb : b < 100000) : z_mx (jn a) (jn b) = jn (if a < b then b else a) := by
  unfold z_mx
  have e_ : (jn a < jn b) = (a < b) := jn_lt ha hb
  by_cases h_ : a < b
  · rw [if_pos (by rw [e_]; exact h_), if_pos h_]
  · rw [if_neg (by rw [e_]; exact h_), if_neg h_]
section YG
variable {L : LL} {B : Nat} {I : z_H} {s : Nat} {G : Nat → Int32}
theorem sq_mg (h : qS L I (s + 7) (s + 1)) (g : qG L) {i : Nat} (hi : i < qF L) (k : Nat) (x : Int32) : d_L_mixesInGroup s (jn i) (jn k) x I = some (if ymg L (I (s + 25)) x i k = true then jn 1 else jn 0) := by
  have h1_ := g.1
  unfold d_L_mixesInGroup ymg
  refine (z_srch (fun j => I (s + 25) j = jn k ∧ ¬ ymix L i j x = jn 0) (fun _ => jn 1) (jn 0) (n := i) (by omega) (fun j hj => ?_) ?_).trans ?_
  · unfold d_L_mixesInGroup_2
    rw [if_pos (by rw [jn_lt (by omega) (by omega)]; exact hj), if_pos (by rw [jn_in (by omega)]; omega), jn_n (by omega), sq_mix h g hi (by omega), ob_s]
    by_cases h2_ : I (s + 25) j = jn k
    · by_cases h3_ : ymix L i j x = jn 0
      · rw [if_pos h2_, if_pos h3_, if_neg (fun h9_ => h9_.2 h3_), jn_add]
      · rw [if_pos h2_, if_neg h3_, if_pos ⟨h2_, h3_⟩]
    · rw [if_neg h2_, if_neg (fun h9_ => h2_ h9_.1), jn_add]
  · unfold d_L_mixesInGroup_2
    rw [if_neg (by rw [jn_lt (by omega) (by omega)]; omega)]
  · simp only [decide_eq_true_eq]
theorem sq_fg (h : qS L I (s + 7) (s + 1)) (g : qG L) {i n : Nat} (hi : i < qF L) (hn : n < 100) (x : Int32) : d_L_firstGroupFor s (jn i) (jn n) x I = some (jn (yfg L (I (s + 25)) x i n)) := by
  unfold d_L_firstGroupFor
  refine (z_srch (fun k => ¬ ymg L (I (s + 25)) x i k = true) (fun k => jn k) (jn n) (n := n) (by omega) (fun j hj => ?_) ?_).trans ?_
  · unfold d_L_firstGroupFor_2
    rw [if_pos (by rw [jn_lt (by omega) (by omega)]; exact hj), sq_mg h g hi, ob_s]
    by_cases h2_ : ymg L (I (s + 25)) x i j = true
    · rw [if_pos h2_, if_neg (by decide), if_neg (fun h9_ => h9_ h2_), jn_add]
    · rw [if_neg h2_, if_pos rfl, if_pos h2_]
  · unfold d_L_firstGroupFor_2
    rw [if_neg (by rw [jn_lt (by omega) (by omega)]; omega)]
  · have h3_ := qk_le (P := fun k => ¬ ymg L (I (s + 25)) x i k = true) (n := n)
    unfold yfg
    by_cases h4_ : qk (fun k => ¬ ymg L (I (s + 25)) x i k = true) n < n
    · rw [if_pos h4_]
    · rw [if_neg h4_, show qk (fun k => ¬ ymg L (I (s + 25)) x i k = true) n = n from by omega]
theorem sq_bears {u f : Nat} (h : qS L I s u) (hf : f < qF L) (x : Int32) : d_G_bears (s + 2 + f) x I = some (if qf L f 2 < x then jn 0 else jn 1) := by
  unfold d_G_bears
  rw [sq_f h hf (by omega), ob_is, ob_s]
  by_cases h_ : qf L f 2 < x
  · rw [if_pos h_, if_pos (Or.inl rfl)]
  · rw [if_neg h_, if_pos (Or.inr rfl)]
theorem jset_uu {a i : Nat} {x y : Int32} : ev_u2 (jset I a (fun j => if j = i then x else G j)) a i y = jset I a (fun j => if j = i then y else G j) := by
  rw [jset_u]
  congr 1
  funext j
  by_cases h_ : j = i
  · rw [if_pos h_, if_pos h_]
  · rw [if_neg h_, if_neg h_, if_neg h_]
theorem qf_d0 (g : qG L) {f : Nat} (hf : f < qF L) : (jn 0 < qf L f 3) = ¬ qf L f 3 = jn 0 := by
  obtain ⟨k_, hk_, e_⟩ := (g.2.2.2.2.2.1 f hf).2.2.2.1
  rw [e_, jn_lt (by omega) (by omega), jn_eq (by omega) (by omega)]
  exact propext ⟨fun h9_ => by omega, fun h9_ => by omega⟩
theorem sq_grst (h : qS L I (s + 7) (s + 1)) (g : qG L) {i n : Nat} (hi : i < qF L) (hn : n < 100) (x : Int32) : d_L_groupsOfDirty_2 s x (jn n, jn i, jset I (s + 25) G) = some (.inl (jn (ygst L x i (n, G)).1, jn (i + 1), jset I (s + 25) (ygst L x i (n, G)).2)) := by
  have h1_ := g.1
  have h2_ : qS L (jset I (s + 25) G) (s + 7) (s + 1) := qS_jset h g
  have h3_ : qS L (jset I (s + 25) (fun j => if j = i then jg 1 else G j)) (s + 7) (s + 1) := qS_jset h g
  have e5_ := sq_fg h3_ g hi hn x
  rw [jset_at, yfg_cg (G := fun j => if j = i then jg 1 else G j) (H := G) (fun j hj => if_neg (by omega))] at e5_
  have h6_ := qk_le (P := fun k => ¬ ymg L G x i k = true) (n := n)
  have h7_ : yfg L G x i n ≤ n := h6_
  unfold d_L_groupsOfDirty_2 ygst
  dsimp only
  rw [if_pos (sq_go h2_ g hi), if_pos (sq_in g hi), if_pos (sq_in g hi), sq_n g hi, jset_u, sq_f h3_ hi (by omega), sq_f h3_ hi (by omega), sq_bears h3_ hi, ob_s, e5_, ob_s, if_pos (sq_in g hi), jset_uu, jn_add, jmx_n (by omega) (by omega), jn_add]
  simp only [qf_d0 g hi]
  by_cases h4_ : qf L i 8 = jn 0
  · by_cases h5_ : qf L i 3 = jn 0
    · rw [if_pos h4_, if_neg (fun h9_ => h9_ h5_), ob_s, if_neg (fun h9_ => h9_.2.1 h5_)]
    · by_cases h6_ : qf L i 2 < x
      · rw [if_pos h4_, if_pos h5_, if_pos h6_, if_pos rfl, ob_s, if_neg (fun h9_ => h9_.2.2 h6_)]
      · rw [if_pos h4_, if_pos h5_, if_neg h6_, if_neg (by decide), ob_s, if_pos (show qf L i 8 = jn 0 ∧ ¬ qf L i 3 = jn 0 ∧ ¬ qf L i 2 < x from ⟨h4_, h5_, h6_⟩)]
  · rw [if_neg h4_, ob_s, if_neg (fun h9_ => h4_ h9_.1)]
theorem sq_groups (h : qS L I (s + 7) (s + 1)) (g : qG L) (x : Int32) : d_L_groupsOfDirty s x I = some (jn (ygrp L x (I (s + 25)) (qF L)).1, jset I (s + 25) (ygrp L x (I (s + 25)) (qF L)).2) := by
  have h1_ := g.1
  unfold d_L_groupsOfDirty
  refine (zb (v := (jn (ygrp L x (I (s + 25)) (qF L)).1, jn (qF L), jset I (s + 25) (ygrp L x (I (s + 25)) (qF L)).2)) ?_).trans rfl
  have e0_ : (jn 0, jn 0, I) = (jn (ygrp L x (I (s + 25)) 0).1, jn 0, jset I (s + 25) (ygrp L x (I (s + 25)) 0).2) := by
    show _ = (jn 0, jn 0, jset I (s + 25) (I (s + 25)))
    rw [jset_id]
  rw [e0_]
  refine z_for0 (fun i => (jn (ygrp L x (I (s + 25)) i).1, jn i, jset I (s + 25) (ygrp L x (I (s + 25)) i).2)) (qF L) (by omega) (fun i hi => ?_) ?_
  · have h2_ := ygrp_le (L := L) (x := x) (G := I (s + 25)) i
    exact sq_grst h g hi (by omega) x
  · show d_L_groupsOfDirty_2 s x (jn (ygrp L x (I (s + 25)) (qF L)).1, jn (qF L), jset I (s + 25) (ygrp L x (I (s + 25)) (qF L)).2) = _
    unfold d_L_groupsOfDirty_2
    dsimp only
    rw [if_neg (sq_end (qS_jset h g) g)]
theorem mq_join (h : qM L B (I 242)) (g : qG L) {i : Nat} (hi : i < qF L) (k : Nat) (x : Int32) : d_M_canJoin (jn i) (jn k) x I = some (if ymg L (I 248) x i k = true then jn 0 else jn 1) := by
  have h1_ := g.1
  unfold d_M_canJoin ymg
  refine (z_srch (fun j => I 248 j = jn k ∧ ¬ ymix L i j x = jn 0) (fun _ => jn 0) (jn 1) (n := i) (by omega) (fun j hj => ?_) ?_).trans ?_
  · unfold d_M_canJoin_2
    rw [if_pos (by rw [jn_lt (by omega) (by omega)]; exact hj), if_pos (by rw [jn_in (by omega)]; omega), jn_n (by omega), mq_mix h g (by omega) hi, ob_s]
    have e_ := ymix_comm (L := L) j i x
    by_cases h2_ : I 248 j = jn k
    · by_cases h3_ : ymix L i j x = jn 0
      · rw [if_pos h2_, if_pos (by rw [e_]; exact h3_), if_neg (fun h9_ => h9_.2 h3_), jn_add]
      · rw [if_pos h2_, if_neg (by rw [e_]; exact h3_), if_pos ⟨h2_, h3_⟩]
    · rw [if_neg h2_, if_neg (fun h9_ => h2_ h9_.1), jn_add]
  · unfold d_M_canJoin_2
    rw [if_neg (by rw [jn_lt (by omega) (by omega)]; omega)]
  · simp only [decide_eq_true_eq]
theorem mq_fg {q : Int32 × Int32 × z_H} {i n : Nat} (h : qM L B (q.2.2 242)) (g : qG L) (hi : i < qF L) (hn : n < 100) (e1 : q.1 = jn n) (e2 : q.2.1 = jn i) (x : Int32) : z_it (d_M_groups_22 x q) z_F (jn 0) = some (jn (yfg L (ev_u2 q.2.2 248 i (jg 1) 248) x i n)) := by
  have h1_ := g.1
  have h2_ : qM L B (ev_u2 q.2.2 248 i (jg 1) 242) := by rw [ju_na (by omega)]; exact h
  have h3_ := qk_le (P := fun k => ¬ ymg L (ev_u2 q.2.2 248 i (jg 1) 248) x i k = true) (n := n)
  have e0_ : z_it (d_M_groups_22 x q) z_F (jn 0) = some (if qk (fun k => ¬ ymg L (ev_u2 q.2.2 248 i (jg 1) 248) x i k = true) n < n then jn (qk (fun k => ¬ ymg L (ev_u2 q.2.2 248 i (jg 1) 248) x i k = true) n) else jn n) := by
    refine z_srch (fun k => ¬ ymg L (ev_u2 q.2.2 248 i (jg 1) 248) x i k = true) (fun k => jn k) (jn n) (n := n) (by omega) (fun j hj => ?_) ?_
    · unfold d_M_groups_22
      rw [e1, e2, if_pos (by rw [jn_lt (by omega) (by omega)]; exact hj), jn_n (by omega), mq_join h2_ g hi, ob_s]
      by_cases h4_ : ymg L (ev_u2 q.2.2 248 i (jg 1) 248) x i j = true
      · rw [if_pos h4_, if_pos rfl, if_neg (fun h9_ => h9_ h4_), jn_add]
      · rw [if_neg h4_, if_neg (by decide), if_pos h4_]
    · unfold d_M_groups_22
      rw [e1, if_neg (by rw [jn_lt (by omega) (by omega)]; omega)]
  rw [e0_]
  unfold yfg
  by_cases h4_ : qk (fun k => ¬ ymg L (ev_u2 q.2.2 248 i (jg 1) 248) x i k = true) n < n
  · rw [if_pos h4_]
  · rw [if_neg h4_, show qk (fun k => ¬ ymg L (ev_u2 q.2.2 248 i (jg 1) 248) x i k = true) n = n from by omega]
theorem mq_grst (h : qM L B (I 242)) (g : qG L) {i n : Nat} (hi : i < qF L) (hn : n < 100) (x : Int32) : d_M_groups_6 x (jn n, jn i, jset I 248 G) = some (.inl (jn (ygst L x i (n, G)).1, jn (i + 1), jset I 248 (ygst L x i (n, G)).2)) := by
  have h1_ := g.1
  have h2_ : qM L B (jset I 248 G 242) := qM_jset h
  have h3_ : qM L B (jset I 248 (fun j => if j = i then jg 1 else G j) 242) := qM_jset h
  have e5_ := mq_fg (q := (jn n, jn i, jset I 248 G)) (n := n) h2_ g hi hn rfl rfl x
  dsimp only at e5_
  rw [jset_u, jset_at, yfg_cg (G := fun j => if j = i then jg 1 else G j) (H := G) (fun j hj => if_neg (by omega))] at e5_
  have h6_ := qk_le (P := fun k => ¬ ymg L G x i k = true) (n := n)
  have h7_ : yfg L G x i n ≤ n := h6_
  unfold d_M_groups_6 ygst
  dsimp only
  rw [if_pos mq_in10, if_pos (mq_go h2_ g hi), if_pos (sq_in g hi), sq_n g hi, jset_u, mq_basket h3_ g hi, ob_s, mq_f h3_ g hi (by omega), ob_s, mq_f h3_ g hi (by omega), ob_s, e5_, ob_s, if_pos (sq_in g hi), jset_uu, jn_add, jmx_n (by omega) (by omega), jn_add]
  by_cases h4_ : qf L i 8 = jn 0
  · by_cases h5_ : qf L i 3 = jn 0
    · rw [if_pos h4_, if_neg (by decide), if_pos h5_, ob_s, if_neg (fun h9_ => h9_.2.1 h5_)]
    · by_cases h6_ : qf L i 2 < x
      · rw [if_pos h4_, if_neg (by decide), if_neg h5_, if_pos h6_, ob_s, if_neg (fun h9_ => h9_.2.2 h6_)]
      · rw [if_pos h4_, if_neg (by decide), if_neg h5_, if_neg h6_, ob_s, if_pos (show qf L i 8 = jn 0 ∧ ¬ qf L i 3 = jn 0 ∧ ¬ qf L i 2 < x from ⟨h4_, h5_, h6_⟩)]
  · rw [if_neg h4_, if_pos rfl, ob_s, if_neg (fun h9_ => h4_ h9_.1)]
theorem mq_groups (h : qM L B (I 242)) (g : qG L) (x : Int32) : z_it (d_M_groups_6 x) z_F (jn 0, jn 0, I) = some (jn (ygrp L x (I 248) (qF L)).1, jn (qF L), jset I 248 (ygrp L x (I 248) (qF L)).2) := by
  have h1_ := g.1
  have e0_ : (jn 0, jn 0, I) = (jn (ygrp L x (I 248) 0).1, jn 0, jset I 248 (ygrp L x (I 248) 0).2) := by
    show _ = (jn 0, jn 0, jset I 248 (I 248))
    rw [jset_id]
  rw [e0_]
  refine z_for0 (fun i => (jn (ygrp L x (I 248) i).1, jn i, jset I 248 (ygrp L x (I 248) i).2)) (qF L) (by omega) (fun i hi => ?_) ?_
  · have h2_ := ygrp_le (L := L) (x := x) (G := I 248) i
    exact mq_grst h g hi (by omega) x
  · show d_M_groups_6 x (jn (ygrp L x (I 248) (qF L)).1, jn (qF L), jset I 248 (ygrp L x (I 248) (qF L)).2) = _
    unfold d_M_groups_6
    dsimp only
    rw [if_pos mq_in10, if_neg (mq_end (B := B) (I := jset I 248 (ygrp L x (I 248) (qF L)).2) (qM_jset h) g)]
end YG
