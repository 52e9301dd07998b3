/-! sums that differ, the dearest, purest, the best heat: on both sides -/
def ygap (L : LL) : Int32 := (z_ab (jn (qF L) - (((qct (fun f => qf L f 8 = jn 0) (qF L) + qct (fun f => qf L f 8 = jn 1) (qF L)) + qct (fun f => qf L f 8 = jn 2) (qF L)) + qct (fun f => qf L f 8 = jn 3) (qF L))) + z_ab ((qs L 2 + qs L 3) - yshr L)) + yown L
theorem qf_nat {L : LL} (g : qG L) {f : Nat} (hf : f < qF L) : ∃ n, n < qN L ∧ qf L f 0 = jn n := (g.2.2.2.2.2.1 f hf).1
/-- the nation that loses most by the next hour -/
def ydst (L : LL) (i : Nat) (p : Int32 × Int32) : Int32 × Int32 := if p.2 < yahead L i (jn 0) - yahead L i (jn 1) then (jn i, yahead L i (jn 0) - yahead L i (jn 1)) else p
def ydear (L : LL) : Int32 := (jfd (ydst L) (jg 1, jn 0) (qN L)).1
/-- how many in the basket it mixes with -/
def ymxs (L : LL) (a : Nat) (x : Int32) : Int32 := qct (fun f => qf L f 8 = jn 0 ∧ ¬ ymix L a f x = jn 0) (qF L)
theorem qcn_lt {P : Nat → Prop} [DecidablePred P] {a : Nat} (ha : ¬ P a) : ∀ {n : Nat}, a < n → qcn P n < n := by
  intro n
  induction n with
  | zero => intro h_; omega
  | succ n ih_ =>
    intro h_
    show qcn P n + (if P n then 1 else 0) < n + 1
    rcases Nat.lt_or_ge a n with h1_ | h1_
    · have h2_ := ih_ h1_
      by_cases h3_ : P n
      · rw [if_pos h3_]; omega
      · rw [if_neg h3_]; omega
    · have e_ : a = n := by omega
      rw [← e_, if_neg ha]
      have h2_ := qcn_le (P := P) (n := a)
      omega
theorem ymxs_lt {L : LL} (g : qG L) {a : Nat} (ha : a < qF L) (x : Int32) : ymxs L a x < jn 12 := by
  have h1_ := g.1
  have h2_ : qcn (fun f => qf L f 8 = jn 0 ∧ ¬ ymix L a f x = jn 0) (qF L) < qF L := qcn_lt (a := a) (fun h9_ => h9_.2 (ymix_self a x)) ha
  unfold ymxs
  rw [qct_n, jn_lt (by omega) (by omega)]
  omega
def ypst (L : LL) (x : Int32) (i : Nat) (a : Int32) : Int32 := if qf L i 8 = jn 0 then (if a = jg 1 then jn i else if ymxs L i x < ymxs L (z_n a) x then jn i else a) else a
def ypure (L : LL) (x : Int32) : Int32 := jfd (ypst L x) (jg 1) (qF L)
def ypv (L : LL) (x : Int32) (a : Int32) : Int32 := if a = jg 1 then jn 12 else ymxs L (z_n a) x
theorem ypst_or {L : LL} {x : Int32} (i : Nat) (a : Int32) : ypst L x i a = a ∨ ypst L x i a = jn i := by
  unfold ypst
  by_cases h1_ : qf L i 8 = jn 0
  · rw [if_pos h1_]
    by_cases h2_ : a = jg 1
    · rw [if_pos h2_]; exact Or.inr rfl
    · rw [if_neg h2_]
      by_cases h3_ : ymxs L i x < ymxs L (z_n a) x
      · rw [if_pos h3_]; exact Or.inr rfl
      · rw [if_neg h3_]; exact Or.inl rfl
  · rw [if_neg h1_]; exact Or.inl rfl
section YH
variable {L : LL} {B : Nat} {I : z_H} {s u : Nat}
theorem sq_gap {s : Nat} (h : qS L I (s + 7) (s + 1)) (g : qG L) : d_L_sumsThatDiffer s I = some (ygap L) := by
  have h1_ := g.1
  have h2_ := g.2.2.1
  unfold d_L_sumsThatDiffer ygap
  rw [sq_flagsAt h g, ob_s, sq_flagsAt h g, ob_s, sq_flagsAt h g, ob_s, sq_flagsAt h g, ob_s]
  have e9_ : z_it (d_L_sumsThatDiffer_10 s I) z_F (jn 0, jn 0, jn 0) = some (yshr L, yown L, jn (qF L)) := by
    refine z_for0 (fun i => (jfd (fun i a => a + (if qf L i 8 = jn 3 then qn L (z_n (qf L i 0)) 1 else jn 0)) (jn 0) i, jfd (fun i a => a + (if qf L i 6 &&& qf L i 1 = jn 0 then jn 0 else jn 1)) (jn 0) i, jn i)) (qF L) (r := (yshr L, yown L, jn (qF L))) (by omega) (fun i hi => ?_) ?_
    · show d_L_sumsThatDiffer_10 s I (jfd (fun i a => a + (if qf L i 8 = jn 3 then qn L (z_n (qf L i 0)) 1 else jn 0)) (jn 0) i, jfd (fun i a => a + (if qf L i 6 &&& qf L i 1 = jn 0 then jn 0 else jn 1)) (jn 0) i, jn i) = _
      rw [jfd_s, jfd_s]
      obtain ⟨n_, hn_, e_⟩ := qf_nat g hi
      unfold d_L_sumsThatDiffer_10
      dsimp only
      rw [if_pos (sq_go h g hi), if_pos (sq_in g hi), sq_n g hi, sq_f h hi (by omega), sq_f h hi (by omega), sq_f h hi (by omega), sq_f h hi (by omega), e_, if_pos (sq_nin g hn_), sq_nn g hn_, (h.2.2.2.2.2.2.2.1 n_ hn_).2.1, ob_is, ob_s, ob_is, ob_s, jn_add]
    · show d_L_sumsThatDiffer_10 s I (yshr L, yown L, jn (qF L)) = _
      unfold d_L_sumsThatDiffer_10
      dsimp only
      rw [if_neg (sq_end h g)]
  rw [e9_, ob_s, h.2.1, sq_now h (by omega), sq_now h (by omega)]
theorem mq_gapl {q : Int32 × z_H} (h : qM L B (q.2 242)) (g : qG L) : z_it (d_M_gap_4 q) z_F (jn 0, jn 0, jn 0) = some (yshr L, yown L, jn (qF L)) := by
  have h1_ := g.1
  refine z_for0 (fun i => (jfd (fun i a => a + (if qf L i 8 = jn 3 then qn L (z_n (qf L i 0)) 1 else jn 0)) (jn 0) i, jfd (fun i a => a + (if qf L i 6 &&& qf L i 1 = jn 0 then jn 0 else jn 1)) (jn 0) i, jn i)) (qF L) (by omega) (fun i hi => ?_) ?_
  · show d_M_gap_4 q (jfd (fun i a => a + (if qf L i 8 = jn 3 then qn L (z_n (qf L i 0)) 1 else jn 0)) (jn 0) i, jfd (fun i a => a + (if qf L i 6 &&& qf L i 1 = jn 0 then jn 0 else jn 1)) (jn 0) i, jn i) = _
    rw [jfd_s, jfd_s]
    obtain ⟨n_, hn_, e_⟩ := qf_nat g hi
    unfold d_M_gap_4
    dsimp only
    rw [if_pos mq_in10, if_pos (mq_go h g hi), mq_where h g hi, ob_s, mq_f h g hi (by omega), ob_s, e_, mq_n h g hn_ (by omega), ob_s, sq_nn g hn_, ob_is, ob_s, mq_f h g hi (by omega), ob_s, mq_f h g hi (by omega), ob_s, ob_is, ob_s]
    by_cases h3_ : qf L i 6 &&& qf L i 1 = jn 0
    · rw [if_pos h3_, show d_M_one (jn 0) = some (jn 0) from rfl, ob_s, jn_add]
    · rw [if_neg h3_, show d_M_one (jn 1) = some (jn 1) from rfl, ob_s, jn_add]
  · show d_M_gap_4 q (yshr L, yown L, jn (qF L)) = _
    unfold d_M_gap_4
    dsimp only
    rw [if_pos mq_in10, if_neg (mq_end h g)]
theorem sq_dear {s : Nat} (h : qS L I (s + 7) (s + 1)) (g : qG L) : d_L_nationLosingMost s I = some (ydear L) := by
  have h1_ := g.2.2.1
  unfold d_L_nationLosingMost
  refine (zb (z_for0 (fun i => ((jfd (ydst L) (jg 1, jn 0) i).1, (jfd (ydst L) (jg 1, jn 0) i).2, jn i)) (qN L) (r := (ydear L, (jfd (ydst L) (jg 1, jn 0) (qN L)).2, jn (qN L))) (by omega) (fun i hi => ?_) ?_)).trans rfl
  · show d_L_nationLosingMost_2 s I ((jfd (ydst L) (jg 1, jn 0) i).1, (jfd (ydst L) (jg 1, jn 0) i).2, jn i) = _
    rw [jfd_s]
    generalize jfd (ydst L) (jg 1, jn 0) i = a_
    unfold d_L_nationLosingMost_2 ydst
    dsimp only
    rw [h.2.2.2.2.1, if_pos (by rw [jn_lt (by omega) (by omega)]; exact hi), sq_ahead h g hi, ob_s, sq_ahead h g hi, ob_s]
    by_cases h2_ : a_.2 < yahead L i (jn 0) - yahead L i (jn 1)
    · rw [if_pos h2_, if_pos h2_, ob_s, jn_add]
    · rw [if_neg h2_, if_neg h2_, ob_s, jn_add]
  · show d_L_nationLosingMost_2 s I (ydear L, (jfd (ydst L) (jg 1, jn 0) (qN L)).2, jn (qN L)) = _
    unfold d_L_nationLosingMost_2
    dsimp only
    rw [h.2.2.2.2.1, if_neg (by rw [jn_lt (by omega) (by omega)]; omega)]
theorem mq_dear {q : Int32 × z_H} (h : qM L B (q.2 242)) (g : qG L) : z_it (d_M_dearest_4 q) z_F (jg 1, jn 0, jn 0) = some (ydear L, (jfd (ydst L) (jg 1, jn 0) (qN L)).2, jn (qN L)) := by
  have h1_ := g.2.2.1
  have h3_ : q.2 242 (z_n (jn 7)) = jn (qN L) := by rw [jn_n (by omega)]; exact h.2.2.1
  refine z_for0 (fun i => ((jfd (ydst L) (jg 1, jn 0) i).1, (jfd (ydst L) (jg 1, jn 0) i).2, jn i)) (qN L) (by omega) (fun i hi => ?_) ?_
  · show d_M_dearest_4 q ((jfd (ydst L) (jg 1, jn 0) i).1, (jfd (ydst L) (jg 1, jn 0) i).2, jn i) = _
    rw [jfd_s]
    generalize jfd (ydst L) (jg 1, jn 0) i = a_
    unfold d_M_dearest_4 ydst
    dsimp only
    rw [if_pos (show z_in (jn 7) 173 by rw [jn_in (by omega)]; omega), h3_, if_pos (by rw [jn_lt (by omega) (by omega)]; exact hi), mq_payIn h g hi, ob_s, mq_payIn h g hi, ob_s]
    by_cases h2_ : a_.2 < yahead L i (jn 0) - yahead L i (jn 1)
    · rw [if_pos h2_, if_pos h2_, ob_s, jn_add]
    · rw [if_neg h2_, if_neg h2_, ob_s, jn_add]
  · show d_M_dearest_4 q (ydear L, (jfd (ydst L) (jg 1, jn 0) (qN L)).2, jn (qN L)) = _
    unfold d_M_dearest_4
    dsimp only
    rw [if_pos (show z_in (jn 7) 173 by rw [jn_in (by omega)]; omega), h3_, if_neg (by rw [jn_lt (by omega) (by omega)]; omega)]
theorem sq_mixes {s : Nat} (h : qS L I (s + 7) (s + 1)) (g : qG L) {a : Nat} (ha : a < qF L) (x : Int32) : d_L_mixesInBasket s (jn a) x I = some (ymxs L a x) := by
  have h1_ := g.1
  unfold d_L_mixesInBasket
  refine (zb (z_fl (fun i b => b + (if qf L i 8 = jn 0 ∧ ¬ ymix L a i x = jn 0 then jn 1 else jn 0)) (jn 0) (n := qF L) (by omega) (fun i hi b => ?_) (fun b => ?_))).trans rfl
  · show d_L_mixesInBasket_2 s (jn a) x I (b, jn i) = _
    unfold d_L_mixesInBasket_2
    dsimp only
    rw [if_pos (sq_go h g hi), if_pos (sq_in g hi), sq_n g hi, sq_f h hi (by omega), sq_mix h g ha hi, ob_s]
    by_cases h2_ : qf L i 8 = jn 0
    · rw [if_pos h2_]
      by_cases h3_ : ymix L a i x = jn 0
      · rw [if_pos h3_, ob_s, if_neg (fun h9_ => h9_.2 h3_), jn_z, jn_add]
      · rw [if_neg h3_, ob_s, if_pos ⟨h2_, h3_⟩, jn_add]
    · rw [if_neg h2_, ob_s, if_neg (fun h9_ => h2_ h9_.1), jn_z, jn_add]
  · show d_L_mixesInBasket_2 s (jn a) x I (b, jn (qF L)) = _
    unfold d_L_mixesInBasket_2
    dsimp only
    rw [if_neg (sq_end h g)]
theorem mq_mixed (h : qM L B (I 242)) (g : qG L) {a : Nat} (ha : a < qF L) (x : Int32) : d_M_mixedWith (jn a) x I = some (ymxs L a x) := by
  have h1_ := g.1
  unfold d_M_mixedWith
  refine (zb (z_fl (fun i b => b + (if qf L i 8 = jn 0 ∧ ¬ ymix L a i x = jn 0 then jn 1 else jn 0)) (jn 0) (n := qF L) (by omega) (fun i hi b => ?_) (fun b => ?_))).trans rfl
  · show d_M_mixedWith_2 (jn a) x I (b, jn i) = _
    unfold d_M_mixedWith_2
    dsimp only
    rw [if_pos mq_in10, if_pos (mq_go h g hi), mq_basket h g hi, ob_s, mq_mix h g ha hi, ob_s]
    by_cases h2_ : qf L i 8 = jn 0
    · rw [if_pos h2_, if_neg (by decide)]
      by_cases h3_ : ymix L a i x = jn 0
      · rw [if_pos h3_, ob_s, if_neg (fun h9_ => h9_.2 h3_), show d_M_one (jn 0) = some (jn 0) from rfl, ob_s, jn_add]
      · rw [if_neg h3_, ob_s, if_pos ⟨h2_, h3_⟩, show d_M_one (jn 1) = some (jn 1) from rfl, ob_s, jn_add]
    · rw [if_neg h2_, if_pos rfl, ob_s, if_neg (fun h9_ => h2_ h9_.1), show d_M_one (jn 0) = some (jn 0) from rfl, ob_s, jn_add]
  · show d_M_mixedWith_2 (jn a) x I (b, jn (qF L)) = _
    unfold d_M_mixedWith_2
    dsimp only
    rw [if_pos mq_in10, if_neg (mq_end h g)]
theorem sq_pure {s : Nat} (h : qS L I (s + 7) (s + 1)) (g : qG L) (x : Int32) : d_L_purestInBasket s x I = some (ypure L x) := by
  have h1_ := g.1
  unfold d_L_purestInBasket
  refine (zb (z_for0 (fun i => (jfd (ypst L x) (jg 1) i, ypv L x (jfd (ypst L x) (jg 1) i), jn i)) (qF L) (r := (ypure L x, ypv L x (ypure L x), jn (qF L))) (by omega) (fun i hi => ?_) ?_)).trans rfl
  · show d_L_purestInBasket_2 s x I (jfd (ypst L x) (jg 1) i, ypv L x (jfd (ypst L x) (jg 1) i), jn i) = _
    rw [jfd_s]
    generalize jfd (ypst L x) (jg 1) i = a_
    unfold d_L_purestInBasket_2
    dsimp only
    rw [if_pos (sq_go h g hi), sq_mixes h g hi, ob_s, if_pos (sq_in g hi), sq_n g hi, sq_f h hi (by omega)]
    have e0_ : ∀ a : Int32, a = jn i → ypv L x a = ymxs L i x := fun a e => by
      unfold ypv
      rw [e, if_neg (by rw [jn_ng (by omega) (by omega) (by omega)]; exact fun h9_ => h9_), jn_n (by omega)]
    unfold ypst
    by_cases h2_ : qf L i 8 = jn 0
    · rw [if_pos h2_, if_pos h2_]
      by_cases h3_ : a_ = jg 1
      · have e_ : ypv L x a_ = jn 12 := by unfold ypv; rw [if_pos h3_]
        rw [if_pos h3_, e_, if_pos (ymxs_lt g hi x), ob_s, e0_ _ rfl, jn_add]
      · have e_ : ypv L x a_ = ymxs L (z_n a_) x := by unfold ypv; rw [if_neg h3_]
        rw [if_neg h3_, e_]
        by_cases h4_ : ymxs L i x < ymxs L (z_n a_) x
        · rw [if_pos h4_, if_pos h4_, ob_s, e0_ _ rfl, jn_add]
        · rw [if_neg h4_, if_neg h4_, ob_s, e_, jn_add]
    · rw [if_neg h2_, if_neg h2_, ob_s, jn_add]
  · show d_L_purestInBasket_2 s x I (ypure L x, ypv L x (ypure L x), jn (qF L)) = _
    unfold d_L_purestInBasket_2
    dsimp only
    rw [if_neg (sq_end h g)]
theorem mq_pure {q : Int32 × z_H} (h : qM L B (q.2 242)) (g : qG L) (x : Int32) : z_it (d_M_purest_6 x q) z_F (jg 1, jn 0) = some (ypure L x, jn (qF L)) := by
  have h1_ := g.1
  refine z_for0 (fun i => (jfd (ypst L x) (jg 1) i, jn i)) (qF L) (by omega) (fun i hi => ?_) ?_
  · show d_M_purest_6 x q (jfd (ypst L x) (jg 1) i, jn i) = _
    rw [jfd_s]
    have h2_ := jbst (st := ypst L x) ypst_or i
    generalize jfd (ypst L x) (jg 1) i = a_ at h2_ ⊢
    unfold d_M_purest_6 ypst
    dsimp only
    rw [if_pos mq_in10, if_pos (mq_go h g hi), mq_basket h g hi, ob_s, mq_mixed h g hi, ob_s]
    by_cases h3_ : qf L i 8 = jn 0
    · rw [if_pos h3_, if_neg (by decide), if_pos h3_]
      by_cases h4_ : a_ = jg 1
      · rw [if_pos h4_, if_pos h4_, ob_s, jn_add]
      · rw [if_neg h4_, if_neg h4_]
        rcases h2_ with h2_ | ⟨k_, hk_, e_⟩
        · exact absurd h2_ h4_
        · rw [e_, mq_mixed h g (by omega), ob_s, jn_n (by omega)]
          by_cases h5_ : ymxs L i x < ymxs L k_ x
          · rw [if_pos h5_, if_pos h5_, ob_s, jn_add]
          · rw [if_neg h5_, if_neg h5_, ob_s, jn_add]
    · rw [if_neg h3_, if_pos rfl, if_neg h3_, ob_s, jn_add]
  · show d_M_purest_6 x q (ypure L x, jn (qF L)) = _
    unfold d_M_purest_6
    dsimp only
    rw [if_pos mq_in10, if_neg (mq_end h g)]
end YH
