/-! the wettest, sums that differ, mixing, late hours, last hours, the dearest: on both sides -/
theorem jand_not {x y : Int32} : (x &&& y) &&& (x ^^^ jg 1) = jn 0 := by
  have e_ : jg 1 = -1 := by decide
  rw [e_, Int32.xor_neg_one, Int32.and_assoc, Int32.and_comm y, ← Int32.and_assoc, Int32.and_not_self]
  exact j0and y
/-- the index of the best so far, or -1 -/
theorem jbst {st : Nat → Int32 → Int32} (h : ∀ i a, st i a = a ∨ st i a = jn i) : ∀ n, jfd st (jg 1) n = jg 1 ∨ ∃ k, k < n ∧ jfd st (jg 1) n = jn k := by
  intro n
  induction n with
  | zero => exact Or.inl rfl
  | succ n ih_ =>
    rw [jfd_s]
    rcases h n (jfd st (jg 1) n) with e_ | e_
    · rw [e_]
      rcases ih_ with e2_ | ⟨k_, h1_, h2_⟩
      · exact Or.inl e2_
      · exact Or.inr ⟨k_, by omega, h2_⟩
    · exact Or.inr ⟨n, by omega, e_⟩
def ywst (L : LL) (i : Nat) (a : Int32) : Int32 := if qf L i 8 = jn 2 then (if a = jg 1 then jn i else if qf L (z_n a) 4 < qf L i 4 then jn i else a) else a
def ywet (L : LL) : Int32 := jfd (ywst L) (jg 1) (qF L)
def ywv (L : LL) (a : Int32) : Int32 := if a = jg 1 then jg 1 else qf L (z_n a) 4
theorem ywst_or {L : LL} (i : Nat) (a : Int32) : ywst L i a = a ∨ ywst L i a = jn i := by
  unfold ywst
  by_cases h1_ : qf L i 8 = jn 2
  · rw [if_pos h1_]
    by_cases h2_ : a = jg 1
    · rw [if_pos h2_]; exact Or.inr rfl
    · rw [if_neg h2_]
      by_cases h3_ : qf L (z_n a) 4 < qf L i 4
      · rw [if_pos h3_]; exact Or.inr rfl
      · rw [if_neg h3_]; exact Or.inl rfl
  · rw [if_neg h1_]; exact Or.inl rfl
/-- mixing two flags at a heat -/
def yst1 (L : LL) (a b : Nat) (x : Int32) : Int32 := ynew L b ((qf L a 1 ||| qf L a 6) &&& yrun L x)
def ymix (L : LL) (a b : Nat) (x : Int32) : Int32 := (if yst1 L a b x = jn 0 then jn 0 else jn 1) + (if yst1 L b a x = jn 0 then jn 0 else jn 2)
theorem ymix_self {L : LL} (a : Nat) (x : Int32) : ymix L a a x = jn 0 := by
  have e_ : yst1 L a a x = jn 0 := jand_not
  unfold ymix
  rw [if_pos e_, if_pos e_]
  rfl
theorem ymix_comm {L : LL} (a b : Nat) (x : Int32) : (ymix L a b x = jn 0) = (ymix L b a x = jn 0) := by
  unfold ymix
  by_cases h1_ : yst1 L a b x = jn 0
  · by_cases h2_ : yst1 L b a x = jn 0
    · rw [if_pos h1_, if_pos h2_, if_pos h2_, if_pos h1_]
    · rw [if_pos h1_, if_neg h2_, if_neg h2_, if_pos h1_]
      exact propext ⟨fun h9_ => absurd h9_ (by decide), fun h9_ => absurd h9_ (by decide)⟩
  · by_cases h2_ : yst1 L b a x = jn 0
    · rw [if_neg h1_, if_pos h2_, if_pos h2_, if_neg h1_]
      exact propext ⟨fun h9_ => absurd h9_ (by decide), fun h9_ => absurd h9_ (by decide)⟩
    · rw [if_neg h1_, if_neg h2_, if_neg h2_, if_neg h1_]
def yshr (L : LL) : Int32 := jfd (fun i a => a + (if qf L i 8 = jn 3 then qn L (z_n (qf L i 0)) 1 else jn 0)) (jn 0) (qF L)
def yown (L : LL) : Int32 := jfd (fun i a => a + (if qf L i 6 &&& qf L i 1 = jn 0 then jn 0 else jn 1)) (jn 0) (qF L)
section YB
variable {L : LL} {B : Nat} {I : z_H} {s u : Nat}
theorem sq_wet (h : qS L I s u) (g : qG L) : d_S_wettestOnLine s I = some (ywet L) := by
  have h1_ := g.1
  unfold d_S_wettestOnLine
  refine (zb (z_for0 (fun i => (jfd (ywst L) (jg 1) i, ywv L (jfd (ywst L) (jg 1) i), jn i)) (qF L) (r := (ywet L, ywv L (ywet L), jn (qF L))) (by omega) (fun i hi => ?_) ?_)).trans rfl
  · show d_S_wettestOnLine_2 s I (jfd (ywst L) (jg 1) i, ywv L (jfd (ywst L) (jg 1) i), jn i) = _
    rw [jfd_s]
    generalize jfd (ywst L) (jg 1) i = a_
    unfold d_S_wettestOnLine_2
    dsimp only
    rw [if_pos (sq_go h g hi), if_pos (sq_in g hi), if_pos (sq_in g hi), if_pos (sq_in g hi), sq_n g hi, sq_f h hi (by omega), sq_f h hi (by omega)]
    have e0_ : ∀ a : Int32, a = jn i → ywv L a = qf L i 4 := fun a e => by
      unfold ywv
      rw [e, if_neg (by rw [jn_ng (by omega) (by omega) (by omega)]; exact fun h9_ => h9_), jn_n (by omega)]
    obtain ⟨k4_, _, e4_⟩ := (g.2.2.2.2.2.1 i hi).2.2.2.2.1
    unfold ywst
    by_cases h2_ : qf L i 8 = jn 2
    · rw [if_pos h2_, if_pos h2_]
      by_cases h3_ : a_ = jg 1
      · have e_ : ywv L a_ = jg 1 := by unfold ywv; rw [if_pos h3_]
        rw [if_pos h3_, e_, if_pos (by rw [e4_, jg_lt (by omega) (by omega) (by omega)]; trivial), ob_s, e0_ _ rfl, jn_add]
      · have e_ : ywv L a_ = qf L (z_n a_) 4 := by unfold ywv; rw [if_neg h3_]
        rw [if_neg h3_, e_]
        by_cases h4_ : qf L (z_n a_) 4 < qf L i 4
        · rw [if_pos h4_, if_pos h4_, ob_s, e0_ _ rfl, jn_add]
        · rw [if_neg h4_, if_neg h4_, ob_s, e_, jn_add]
    · rw [if_neg h2_, if_neg h2_, ob_s, jn_add]
  · show d_S_wettestOnLine_2 s I (ywet L, ywv L (ywet L), jn (qF L)) = _
    unfold d_S_wettestOnLine_2
    dsimp only
    rw [if_neg (sq_end h g)]
theorem mq_wet {q : Int32 × z_H} (h : qM L B (q.2 242)) (g : qG L) : z_it (d_M_wettest_4 q) z_F (jg 1, jn 0) = some (ywet L, jn (qF L)) := by
  have h1_ := g.1
  refine z_for0 (fun i => (jfd (ywst L) (jg 1) i, jn i)) (qF L) (by omega) (fun i hi => ?_) ?_
  · show d_M_wettest_4 q (jfd (ywst L) (jg 1) i, jn i) = _
    rw [jfd_s]
    have h2_ := jbst (st := ywst L) ywst_or i
    generalize jfd (ywst L) (jg 1) i = a_ at h2_ ⊢
    unfold d_M_wettest_4 ywst
    dsimp only
    rw [if_pos mq_in10, if_pos (mq_go h g hi), mq_where h g hi, ob_s, mq_f h g hi (by omega), ob_s]
    by_cases h3_ : qf L i 8 = jn 2
    · rw [if_pos h3_, if_pos h3_]
      by_cases h4_ : a_ = jg 1
      · rw [if_pos h4_, if_pos h4_, ob_s, jn_add]
      · rw [if_neg h4_, if_neg h4_]
        rcases h2_ with h2_ | ⟨k_, hk_, e_⟩
        · exact absurd h2_ h4_
        · rw [e_, mq_f h g (by omega) (by omega), ob_s, jn_n (by omega)]
          by_cases h5_ : qf L k_ 4 < qf L i 4
          · rw [if_pos h5_, if_pos h5_, ob_s, jn_add]
          · rw [if_neg h5_, if_neg h5_, ob_s, jn_add]
    · rw [if_neg h3_, if_neg h3_, ob_s, jn_add]
  · show d_M_wettest_4 q (ywet L, jn (qF L)) = _
    unfold d_M_wettest_4
    dsimp only
    rw [if_pos mq_in10, if_neg (mq_end h g)]
theorem sq_mix {s : Nat} (h : qS L I (s + 7) (s + 1)) (g : qG L) {a b : Nat} (ha : a < qF L) (hb : b < qF L) (x : Int32) : d_L_mixing s (jn a) (jn b) x I = some (ymix L a b x) := by
  unfold d_L_mixing
  rw [if_pos (sq_in g ha), if_pos (sq_in g hb), sq_n g ha, sq_n g hb, sq_running h g, ob_s, sq_carried h ha, ob_s, sq_new h hb, ob_s, ob_is, ob_s, sq_carried h hb, ob_s, sq_new h ha, ob_s, ob_is, ob_s]
  rfl
theorem mq_mix (h : qM L B (I 242)) (g : qG L) {a b : Nat} (ha : a < qF L) (hb : b < qF L) (x : Int32) : d_M_mixes (jn a) (jn b) x I = some (ymix L a b x) := by
  have h1_ := g.1
  unfold d_M_mixes
  have e9_ : (jn a = jn b) = (a = b) := jn_eq (by omega) (by omega)
  by_cases h2_ : a = b
  · rw [if_pos (by rw [e9_]; exact h2_), h2_, ymix_self]
  · rw [if_neg (by rw [e9_]; exact h2_), mq_runningFrom h g ha, ob_s, mq_new h g hb, ob_s]
    show _ = some ((if yst1 L a b x = jn 0 then jn 0 else jn 1) + (if yst1 L b a x = jn 0 then jn 0 else jn 2))
    show Option.bind (if yst1 L a b x = jn 0 then some (jn 0) else some (jn 1)) _ = _
    by_cases h3_ : yst1 L a b x = jn 0
    · rw [if_pos h3_, if_pos h3_, ob_s, show d_M_one (jn 0) = some (jn 0) from rfl, ob_s, mq_runningFrom h g hb, ob_s, mq_new h g ha, ob_s]
      show Option.bind (if yst1 L b a x = jn 0 then some (jn 0) else some (jn 1)) _ = _
      by_cases h4_ : yst1 L b a x = jn 0
      · rw [if_pos h4_, if_pos h4_, ob_s]
        rfl
      · rw [if_neg h4_, if_neg h4_, ob_s]
        rfl
    · rw [if_neg h3_, if_neg h3_, ob_s, show d_M_one (jn 1) = some (jn 1) from rfl, ob_s, mq_runningFrom h g hb, ob_s, mq_new h g ha, ob_s]
      show Option.bind (if yst1 L b a x = jn 0 then some (jn 0) else some (jn 1)) _ = _
      by_cases h4_ : yst1 L b a x = jn 0
      · rw [if_pos h4_, if_pos h4_, ob_s]
        rfl
      · rw [if_neg h4_, if_neg h4_, ob_s]
        rfl
/-- late hours, last paid hour -/
def yhrs (L : LL) (n : Nat) : Int32 := if qn L n 3 = jn 1 then qn L n 4 else ylate L n (qs L 0)
theorem sq_hours {s : Nat} (h : qS L I (s + 7) (s + 1)) (g : qG L) {n : Nat} (hn : n < qN L) : d_L_hoursLate s (jn n) I = some (yhrs L n) := by
  unfold d_L_hoursLate yhrs
  rw [sq_hand h g hn, ob_s, sq_now h (by omega), sq_late h g hn, ob_s, if_pos (sq_nin g hn), sq_nn g hn, (h.2.2.2.2.2.2.2.1 n hn).2.2.2]
  by_cases h1_ : qn L n 3 = jn 1
  · rw [if_pos h1_, if_neg (by decide), ob_s, if_pos h1_, if_pos h1_]
  · rw [if_neg h1_, if_pos rfl, ob_s, if_neg h1_]
def ylh (L : LL) (n : Nat) : Int32 := qn L n 0 + (qn L n 1 - jn 1) / qn L n 2
def ylsth (L : LL) (n : Nat) : Int32 := if qn L n 3 = jn 1 then jg 1 else if yof L n = jn 0 then jg 1 else if qn L n 2 = jn 0 then jn 999 else if ylh L n < qs L 0 then jg 1 else ylh L n
theorem sq_lastHour {s : Nat} (h : qS L I (s + 7) (s + 1)) (g : qG L) {n : Nat} (hn : n < qN L) : d_L_lastPaidHour s (jn n) I = some (ylsth L n) := by
  obtain ⟨k_, hk_, e_⟩ := (g.2.2.2.2.2.2.1 n hn).2.2.1
  unfold d_L_lastPaidHour ylsth
  rw [sq_hand h g hn, ob_s, sq_flagsOf h g, ob_s]
  simp only [if_pos (sq_nin g hn), sq_nn g hn, (h.2.2.2.2.2.2.2.1 n hn).1, (h.2.2.2.2.2.2.2.1 n hn).2.1, (h.2.2.2.2.2.2.2.1 n hn).2.2.1, sq_now h (show 0 < 6 by omega)]
  have e2_ : (jn 0 < qn L n 2) = ¬ qn L n 2 = jn 0 := by
    rw [e_, jn_lt (by omega) (by omega), jn_eq (by omega) (by omega)]
    exact propext ⟨fun h9_ => by omega, fun h9_ => by omega⟩
  simp only [e2_]
  show _ = some (if qn L n 3 = jn 1 then jg 1 else if qct (fun f => qf L f 0 = jn n) (qF L) = jn 0 then jg 1 else if qn L n 2 = jn 0 then jn 999 else if ylh L n < qs L 0 then jg 1 else ylh L n)
  by_cases h1_ : qn L n 3 = jn 1
  · rw [if_pos h1_, if_neg (by decide), if_pos h1_]
  · rw [if_neg h1_, if_pos rfl, if_neg h1_]
    by_cases h2_ : qct (fun f => qf L f 0 = jn n) (qF L) = jn 0
    · rw [if_pos h2_, if_pos h2_]
    · rw [if_neg h2_, if_neg h2_]
      by_cases h3_ : qn L n 2 = jn 0
      · rw [if_neg (fun h9_ => h9_ h3_), if_pos h3_]
      · rw [if_pos h3_, if_pos h3_, if_neg h3_, ob_is, ob_s]
        rfl
theorem mq_lastHour (h : qM L B (I 242)) (g : qG L) {n : Nat} (hn : n < qN L) : d_M_lastHour (jn n) I = some (ylsth L n) := by
  unfold d_M_lastHour ylsth
  rw [mq_hand h g hn, ob_s, mq_flagsOf h g, ob_s, mq_n h g hn (by omega), ob_s, mq_n h g hn (by omega), ob_s, mq_n h g hn (by omega), ob_s, ob_s]
  simp only [if_pos (show z_in (jn 0) 173 by rw [jn_in (by omega)]; omega), mq_now h (show 0 < 6 by omega)]
  show _ = some (if qn L n 3 = jn 1 then jg 1 else if qct (fun f => qf L f 0 = jn n) (qF L) = jn 0 then jg 1 else if qn L n 2 = jn 0 then jn 999 else if ylh L n < qs L 0 then jg 1 else ylh L n)
  by_cases h1_ : qn L n 3 = jn 1
  · rw [if_pos h1_, if_neg (by decide), if_pos h1_]
  · rw [if_neg h1_, if_pos rfl, if_neg h1_]
    by_cases h2_ : qct (fun f => qf L f 0 = jn n) (qF L) = jn 0
    · rw [if_pos h2_, if_pos h2_]
    · rw [if_neg h2_, if_neg h2_]
      by_cases h3_ : qn L n 2 = jn 0
      · rw [if_pos h3_, if_pos h3_]
      · rw [if_neg h3_, if_pos h3_, if_neg h3_, ob_is, ob_s]
        rfl
/-- may it be handed over -/
def ycul (L : LL) (n : Nat) : Int32 := if qk (fun f => qf L f 0 = jn n ∧ ¬ ywhy (ybs L f) = jn 0) (qF L) < qF L then jn (qk (fun f => qf L f 0 = jn n ∧ ¬ ywhy (ybs L f) = jn 0) (qF L)) else jg 1
theorem sq_canHand {s : Nat} (h : qS L I (s + 7) (s + 1)) (g : qG L) {n : Nat} (hn : n < qN L) : d_L_canHandOver s (jn n) I = some (if jn 0 < yof L n ∧ ¬ qn L n 3 = jn 1 ∧ ycul L n = jg 1 then jn 1 else jn 0) := by
  unfold d_L_canHandOver
  rw [sq_flagsOf h g, ob_s, sq_hand h g hn, ob_s, sq_culprit h g, ob_s]
  show Option.bind (if jn 0 < yof L n then (if (if qn L n 3 = jn 1 then jn 1 else jn 0) = jn 0 then (if ycul L n = jg 1 then some (jn 1) else some (jn 0)) else some (jn 0)) else some (jn 0)) _ = _
  by_cases h1_ : jn 0 < yof L n
  · by_cases h2_ : qn L n 3 = jn 1
    · rw [if_pos h1_, if_pos h2_, if_neg (by decide), ob_s, if_pos (Or.inl rfl), if_neg (fun h9_ => h9_.2.1 h2_)]
    · by_cases h3_ : ycul L n = jg 1
      · rw [if_pos h1_, if_neg h2_, if_pos rfl, if_pos h3_, ob_s, if_pos (Or.inr rfl), if_pos ⟨h1_, h2_, h3_⟩]
      · rw [if_pos h1_, if_neg h2_, if_pos rfl, if_neg h3_, ob_s, if_pos (Or.inl rfl), if_neg (fun h9_ => h3_ h9_.2.2)]
  · rw [if_neg h1_, ob_s, if_pos (Or.inl rfl), if_neg (fun h9_ => h1_ h9_.1)]
end YB
