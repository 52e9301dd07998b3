/-! sums that differ, the dearest, purest, the best heat: on both sides -/
def ygap (L : LL) : Int32 := (z_ab (jn (qF L) - (((qct (fun f => qf L f 8 = jn 0) (qF L) + qct (fun f => qf L f 8 = jn 1) (qF L)) + qct (fun f => qf L f 8 = jn 2) (qF L)) + qct (fun f => qf L f 8 = jn 3) (qF L))) + z_ab ((qs L 2 + qs L 3) - yshr L)) + yown L
theorem qf_nat {L : LL} (g : qG L) {f : Nat} (hf : f < qF L) : ∃ n, n < qN L ∧ qf L f 0 = jn n := (g.2.2.2.2.2.1 f hf).1
/-- the nation that loses most by the next hour -/
def ydst (L : LL) (i : Nat) (p : Int32 × Int32) : Int32 × Int32 := if p.2 < yahead L i (jn 0) - yahead L i (jn 1) then (jn i, yahead L i (jn 0) - yahead L i (jn 1)) else p
def ydear (L : LL) : Int32 := (jfd (ydst L) (jg 1, jn 0) (qN L)).1
/-- how many in the basket it mixes with -/
def ymxs (L : LL) (a : Nat) (x : Int32) : Int32 := qct (fun f => qf L f 8 = jn 0 ∧ ¬ ymix L a f x = jn 0) (qF L)
theorem qcn_lt {P : Nat → Prop} [DecidablePred P] {a : Nat} (ha : ¬ P a) : ∀ {n : Nat}, a < n → qcn P n < n := by
  intro n
  induction n with
  | zero => intro h_; omega
  | succ n ih_ =>
    intro h_
    show qcn P n + (if P n then 1 else 0) < n + 1
    rcases Nat.lt_or_ge a n with h1_ | h1_
    · have h2_ := ih_ h1_
      by_cases h3_ : P n
      · rw [if_pos h3_]; omega
      · rw [if_neg h3_]; omega
    · have e_ : a = n := by omega
      rw [← e_, if_neg ha]
      have h2_ := qcn_le (P := P) (n := a)
      omega
theorem ymxs_lt {L : LL} (g : qG L) {a : Nat} (ha : a < qF L) (x : Int32) : ymxs L a x < jn 12 := by
  have h1_ := g.1
  have h2_ : qcn (fun f => qf L f 8 = jn 0 ∧ ¬ ymix L a f x = jn 0) (qF L) < qF L := qcn_lt (a := a) (fun h9_ => h9_.2 (ymix_self a x)) ha
  unfold ymxs
  rw [qct_n, jn_lt (by omega) (by omega)]
  omega
def ypst (L : LL) (x : Int32) (i : Nat) (a : Int32) : Int32 := if qf L i 8 = jn 0 then (if a = jg 1 then jn i else if ymxs L i x < ymxs L (z_n a) x then jn i else a) else a
def ypure (L : LL) (x : Int32) : Int32 := jfd (ypst L x) (jg 1) (qF L)
def ypv (L : LL) (x : Int32) (a : Int32) : Int32 := if a = jg 1 then jn 12 else ymxs L (z_n a) x
theorem ypst_or {L : LL} {x : Int32} (i : Nat) (a : Int32) : ypst L x i a = a ∨ ypst L x i a = jn i := by
  unfold ypst
  by_cases h1_ : qf L i 8 = jn 0
  · rw [if_pos h1_]
    by_cases h2_ : a = jg 1
    · rw [if_pos h2_]; exact Or.inr rfl
    · rw [if_neg h2_]
      by_cases h3_ : ymxs L i x < ymxs L (z_n a) x
      · rw [if_pos h3_]; exact Or.inr rfl
      · rw [if_neg h3_]; exact Or.inl rfl
  · rw [if_neg h1_]; exact Or.inl rfl
section YH
variable {L : LL} {B : Nat} {I : z_H} {s u : Nat}
theorem sq_gap {s : Nat} (h : qS L I (s + 7) (s + 1)) (g : qG L) : d_L_sumsThatDiffer s I = some (ygap L) := by
  have h1_ := g.1
  have h2_ := g.2.2.1
  unfold d_L_sumsThatDiffer ygap
  rw [sq_flagsAt h g, ob_s, sq_flagsAt h g, ob_s, sq_flagsAt h g, ob_s, sq_flagsAt h g, ob_s]
  have e9_ : z_it (d_L_sumsThatDiffer_10 s I) z_F (jn 0, jn 0, jn 0) = some (yshr L, yown L, jn (qF L)) := by
    refine z_for0 (fun i => (jfd (fun i a => a + (if qf L i 8 = jn 3 then qn L (z_n (qf L i 0)) 1 else jn 0)) (jn 0) i, jfd (fun i a => a + (if qf L i 6 &&& qf L i 1 = jn 0 then jn 0 else jn 1)) (jn 0) i, jn i)) (qF L) (r := (yshr L, yown L, jn (qF L))) (by omega) (fun i hi => ?_) ?_
    · show d_L_sumsThatDiffer_10 s I (jfd (fun i a => a + (if qf L i 8 = jn 3 then qn L (z_n (qf L i 0)) 1 else jn 0)) (jn 0) i, jfd (fun i a => a + (if qf L i 6 &&& qf L i 1 = jn 0 then jn 0 else jn 1)) (jn 0) i, jn i) = _
      rw [jfd_s, jfd_s]
      obtain ⟨n_, hn_, e_⟩ := qf_nat g hi
      unfold d_L_sumsThatDiffer_10
      dsimp only
      rw [if_pos (sq_go h g hi), if_pos (sq_in g hi), sq_n g hi, sq_f h hi (by omega), sq_f h hi (by omega), sq_f h hi (by omega), sq_f h hi (by omega), e_, if_pos (sq_nin g hn_), sq_nn g hn_, (h.2.2.2.2.2.2.2.1 n_ hn_).2.1, ob_is, ob_s, ob_is, ob_s, jn_add]
    · show d_L_sumsThatDiffer_10 s I (yshr L, yown L, jn (qF L)) = _
      unfold d_L_sumsThatDiffer_10
      dsimp only
      rw [if_neg (sq_end h g)]
  rw [e9_, ob_s, h.2.1, sq_now h (by omega), sq_now h (by omega)]
end YH
