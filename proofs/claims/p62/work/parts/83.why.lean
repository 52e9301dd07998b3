/-! reasons against being ready: on both sides -/
def ybs (L : LL) (f : Nat) : Bool × Bool × Bool × Bool × Bool × Bool × Bool := (decide (qf L f 8 = jn 3), decide (qf L f 8 = jn 1), decide (qf L f 8 = jn 2), decide (jn 0 < qf L f 3), decide (¬ qf L f 6 = jn 0), decide (jn 0 < qf L f 4), decide (jn 0 < qf L f 5))
/-- the first reason, and all of them, out of seven conditions -/
def ywhy (b : Bool × Bool × Bool × Bool × Bool × Bool × Bool) : Int32 := if b.1 then jn 1 else if b.2.1 then jn 2 else if b.2.2.1 then jn 3 else if b.2.2.2.1 then jn 4 else if b.2.2.2.2.1 then jn 5 else if b.2.2.2.2.2.1 then jn 6 else if b.2.2.2.2.2.2 then jn 7 else jn 0
def yall (b : Bool × Bool × Bool × Bool × Bool × Bool × Bool) : Int32 := (((((((if b.1 then jn 2 else jn 0) ||| (if b.2.1 then jn 4 else jn 0)) ||| (if b.2.2.1 then jn 8 else jn 0)) ||| (if b.2.2.2.1 then jn 16 else jn 0)) ||| (if b.2.2.2.2.1 then jn 32 else jn 0)) ||| (if b.2.2.2.2.2.1 then jn 64 else jn 0)) ||| (if b.2.2.2.2.2.2 then jn 128 else jn 0))
def yget (b : Bool × Bool × Bool × Bool × Bool × Bool × Bool) (i : Nat) : Bool := [b.1, b.2.1, b.2.2.1, b.2.2.2.1, b.2.2.2.2.1, b.2.2.2.2.2.1, b.2.2.2.2.2.2].getD i false
theorem ywhy_zero : ∀ a b c d e f g : Bool, (yall (a, b, c, d, e, f, g) = jn 0) = (ywhy (a, b, c, d, e, f, g) = jn 0) := by
  have h_ : ∀ a b c d e f g : Bool, decide (yall (a, b, c, d, e, f, g) = jn 0) = decide (ywhy (a, b, c, d, e, f, g) = jn 0) := by decide +kernel
  intro a b c d e f g
  exact propext (decide_eq_decide.mp (h_ a b c d e f g))
theorem ywhy_loop : ∀ a b c d e f g : Bool, z_it (d_G_firstReason_4 (yall (a, b, c, d, e, f, g))) z_F (jn 1) = some (ywhy (a, b, c, d, e, f, g)) := by decide +kernel
/-- the loop of a flag's reasons, whatever tells whether one applies -/
def ystp (b : Bool × Bool × Bool × Bool × Bool × Bool × Bool) (p : Int32) : Option (Int32 ⊕ Int32) := if jn 7 < p then some (.inr (jn 0)) else if yget b (z_n p - 1) then some (.inr p) else some (.inl (p + jn 1))
theorem ystp_ok : ∀ a b c d e f g : Bool, z_it (ystp (a, b, c, d, e, f, g)) z_F (jn 1) = some (ywhy (a, b, c, d, e, f, g)) := by decide +kernel
/-- two loops that do the same from the start on -/
theorem z_same {σ ρ : Type} {f k : σ → Option (σ ⊕ ρ)} (Q : σ → Prop) (h : ∀ s, Q s → f s = k s) (hk : ∀ s s2, Q s → k s = some (.inl s2) → Q s2) : ∀ (n : Nat) (s : σ), Q s → z_it f n s = z_it k n s := by
  intro n
  induction n with
  | zero => intro s _; rfl
  | succ n ih_ =>
    intro s hs
    unfold z_it
    rw [h s hs]
    cases hk9_ : k s with
    | none => rfl
    | some q_ =>
      cases q_ with
      | inl s2_ => exact ih_ s2_ (hk s s2_ hs hk9_)
      | inr r_ => rfl
section YM
variable {L : LL} {B : Nat} {I : z_H}
theorem mq_applies (h : qM L B (I 242)) (g : qG L) {f : Nat} (hf : f < qF L) {r : Nat} (h1 : 1 ≤ r) (h7 : r ≤ 7) : d_M_applies (jn r) (jn f) I = some (if yget (ybs L f) (r - 1) = true then jn 1 else jn 0) := by
  have e_ : r = 1 ∨ r = 2 ∨ r = 3 ∨ r = 4 ∨ r = 5 ∨ r = 6 ∨ r = 7 := by omega
  unfold d_M_applies
  rcases e_ with e_ | e_ | e_ | e_ | e_ | e_ | e_
  · subst e_
    rw [if_pos rfl, mq_where h g hf, ob_s, ob_is, ob_s, if_pos (by rw [j01]; trivial)]
    show _ = some (if decide (qf L f 8 = jn 3) = true then jn 1 else jn 0)
    simp only [decide_eq_true_eq]
  · subst e_
    rw [if_neg (by decide), if_pos rfl, mq_where h g hf, ob_s, ob_is, ob_s, if_pos (by rw [j01]; trivial)]
    show _ = some (if decide (qf L f 8 = jn 1) = true then jn 1 else jn 0)
    simp only [decide_eq_true_eq]
  · subst e_
    rw [if_neg (by decide), if_neg (by decide), if_pos rfl, mq_where h g hf, ob_s, ob_is, ob_s, if_pos (by rw [j01]; trivial)]
    show _ = some (if decide (qf L f 8 = jn 2) = true then jn 1 else jn 0)
    simp only [decide_eq_true_eq]
  · subst e_
    rw [if_neg (by decide), if_neg (by decide), if_neg (by decide), if_pos rfl, mq_f h g hf (by omega), ob_s, ob_is, ob_s, if_pos (by rw [j01]; trivial)]
    show _ = some (if decide (jn 0 < qf L f 3) = true then jn 1 else jn 0)
    simp only [decide_eq_true_eq]
  · subst e_
    rw [if_neg (by decide), if_neg (by decide), if_neg (by decide), if_neg (by decide), if_pos rfl, mq_f h g hf (by omega), ob_s]
    show _ = some (if decide (¬ qf L f 6 = jn 0) = true then jn 1 else jn 0)
    simp only [decide_eq_true_eq]
    by_cases h9_ : qf L f 6 = jn 0
    · rw [if_pos h9_, if_neg (fun q_ => q_ h9_)]
      rfl
    · rw [if_neg h9_, if_pos h9_]
      rfl
  · subst e_
    rw [if_neg (by decide), if_neg (by decide), if_neg (by decide), if_neg (by decide), if_neg (by decide), if_pos rfl, mq_f h g hf (by omega), ob_s, ob_is, ob_s, if_pos (by rw [j01]; trivial)]
    show _ = some (if decide (jn 0 < qf L f 4) = true then jn 1 else jn 0)
    simp only [decide_eq_true_eq]
  · subst e_
    rw [if_neg (by decide), if_neg (by decide), if_neg (by decide), if_neg (by decide), if_neg (by decide), if_neg (by decide), mq_f h g hf (by omega), ob_s, ob_is, ob_s, if_pos (by rw [j01]; trivial)]
    show _ = some (if decide (jn 0 < qf L f 5) = true then jn 1 else jn 0)
    simp only [decide_eq_true_eq]
theorem mq_why (h : qM L B (I 242)) (g : qG L) {f : Nat} (hf : f < qF L) : d_M_whyNotReady (jn f) I = some (ywhy (ybs L f)) := by
  unfold d_M_whyNotReady
  rw [z_same (k := ystp (ybs L f)) (fun p => ∃ r, 1 ≤ r ∧ r ≤ 8 ∧ p = jn r) (fun p hp => ?_) (fun p p2 hp hk => ?_) z_F (jn 1) ⟨1, by omega, by omega, rfl⟩]
  · exact ystp_ok _ _ _ _ _ _ _
  · obtain ⟨r_, h1_, h2_, rfl⟩ := hp
    unfold d_M_whyNotReady_2 ystp
    rw [jn_n (by omega)]
    by_cases h3_ : r_ ≤ 7
    · have h4_ : ¬ jn 7 < jn r_ := by rw [jn_lt (by omega) (by omega)]; omega
      rw [if_neg h4_, if_neg h4_, mq_applies h g hf h1_ h3_, ob_s]
      by_cases h5_ : yget (ybs L f) (r_ - 1) = true
      · rw [if_pos h5_, if_pos h5_, if_neg (by decide)]
      · rw [if_neg h5_, if_neg h5_, if_pos rfl]
    · have h4_ : jn 7 < jn r_ := by rw [jn_lt (by omega) (by omega)]; omega
      rw [if_pos h4_, if_pos h4_]
  · obtain ⟨r_, h1_, h2_, rfl⟩ := hp
    unfold ystp at hk
    by_cases h3_ : r_ ≤ 7
    · have h4_ : ¬ jn 7 < jn r_ := by rw [jn_lt (by omega) (by omega)]; omega
      rw [if_neg h4_] at hk
      by_cases h5_ : yget (ybs L f) (z_n (jn r_) - 1) = true
      · rw [if_pos h5_] at hk; cases hk
      · rw [if_neg h5_] at hk
        cases hk
        exact ⟨r_ + 1, by omega, by omega, jn_add _ _⟩
    · have h4_ : jn 7 < jn r_ := by rw [jn_lt (by omega) (by omega)]; omega
      rw [if_pos h4_] at hk; cases hk
/-- ready -/
def qrd (L : LL) (f : Nat) : Prop := ywhy (ybs L f) = jn 0
theorem mq_readyMany (h : qM L B (I 242)) (g : qG L) : d_M_readyMany I = some (qct (fun f => ywhy (ybs L f) = jn 0) (qF L)) := by
  have h1_ := g.1
  unfold d_M_readyMany
  refine (zb (z_fl (fun i a => a + (if ywhy (ybs L i) = jn 0 then jn 1 else jn 0)) (jn 0) (n := qF L) (by omega) (fun i hi a => ?_) (fun a => ?_))).trans rfl
  · show d_M_readyMany_2 I (a, jn i) = _
    unfold d_M_readyMany_2
    dsimp only
    rw [if_pos mq_in10, if_pos (mq_go h g hi), mq_why h g hi, ob_s, ob_is, ob_s, mq_one, ob_s, jn_add]
  · show d_M_readyMany_2 I (a, jn (qF L)) = _
    unfold d_M_readyMany_2
    dsimp only
    rw [if_pos mq_in10, if_neg (mq_end h g)]
theorem mq_readyOf (h : qM L B (I 242)) (g : qG L) (x : Int32) : d_M_readyOf x I = some (qct (fun f => qf L f 0 = x ∧ ywhy (ybs L f) = jn 0) (qF L)) := by
  have h1_ := g.1
  unfold d_M_readyOf
  refine (zb (z_fl (fun i a => a + (if qf L i 0 = x ∧ ywhy (ybs L i) = jn 0 then jn 1 else jn 0)) (jn 0) (n := qF L) (by omega) (fun i hi a => ?_) (fun a => ?_))).trans rfl
  · show d_M_readyOf_2 x I (a, jn i) = _
    unfold d_M_readyOf_2
    dsimp only
    rw [if_pos mq_in10, if_pos (mq_go h g hi), mq_f h g hi (by omega), ob_s]
    by_cases h2_ : qf L i 0 = x
    · rw [if_pos h2_, mq_why h g hi, ob_s, ob_is, ob_s, mq_one, ob_s, jn_add]
      simp only [h2_, true_and]
    · rw [if_neg h2_, ob_s, if_neg (fun h9_ => h2_ h9_.1)]
      show (d_M_one (jn 0)).bind _ = _
      rw [show d_M_one (jn 0) = some (jn 0) from rfl, ob_s, jn_add]
  · show d_M_readyOf_2 x I (a, jn (qF L)) = _
    unfold d_M_readyOf_2
    dsimp only
    rw [if_pos mq_in10, if_neg (mq_end h g)]
theorem mq_culprit (h : qM L B (I 242)) (g : qG L) (x : Int32) : d_M_culpritOf x I = some (if qk (fun f => qf L f 0 = x ∧ ¬ ywhy (ybs L f) = jn 0) (qF L) < qF L then jn (qk (fun f => qf L f 0 = x ∧ ¬ ywhy (ybs L f) = jn 0) (qF L)) else jg 1) := by
  have h1_ := g.1
  unfold d_M_culpritOf
  refine z_srch (fun f => qf L f 0 = x ∧ ¬ ywhy (ybs L f) = jn 0) (fun i => jn i) (jg 1) (by omega) (fun i hi => ?_) ?_
  · unfold d_M_culpritOf_2
    rw [if_pos mq_in10, if_pos (mq_go h g hi), mq_f h g hi (by omega), ob_s]
    by_cases h2_ : qf L i 0 = x
    · rw [if_pos h2_, mq_why h g hi, ob_s, jn_add]
      by_cases h3_ : ywhy (ybs L i) = jn 0
      · rw [if_pos h3_, if_neg (fun h9_ => h9_.2 h3_)]
      · rw [if_neg h3_, if_pos ⟨h2_, h3_⟩]
    · rw [if_neg h2_, if_neg (fun h9_ => h2_ h9_.1), jn_add]
  · unfold d_M_culpritOf_2
    rw [if_pos mq_in10, if_neg (mq_end h g)]
end YM
/-! the class's side -/
section YS
variable {L : LL} {I : z_H} {s u : Nat}
theorem sq_go (h : qS L I s u) (g : qG L) {i : Nat} (hi : i < qF L) : jn i < I s 6 := by
  have h1_ := g.1
  rw [h.2.1, jn_lt (by omega) (by omega)]
  exact hi
theorem sq_end (h : qS L I s u) (g : qG L) : ¬ jn (qF L) < I s 6 := by
  have h1_ := g.1
  rw [h.2.1, jn_lt (by omega) (by omega)]
  omega
theorem sq_in (g : qG L) {i : Nat} (hi : i < qF L) : z_in (jn i) 12 := by
  have h1_ := g.1
  rw [jn_in (by omega)]
  omega
theorem sq_n (g : qG L) {i : Nat} (hi : i < qF L) : z_n (jn i) = i := by
  have h1_ := g.1
  exact jn_n (by omega)
theorem sq_f (h : qS L I s u) {f k : Nat} (hf : f < qF L) (hk : k < 10) : I (s + 2 + f) k = qf L f k := h.2.2.2.2.2.2.2.2.2.1 f k hf hk
theorem sq_all (h : qS L I s u) {f : Nat} (hf : f < qF L) : d_G_allReasons (s + 2 + f) I = some (yall (ybs L f)) := by
  unfold d_G_allReasons
  rw [sq_f h hf (by omega), sq_f h hf (by omega), sq_f h hf (by omega), sq_f h hf (by omega), sq_f h hf (by omega)]
  simp only [ob_is, ob_s]
  unfold yall ybs
  simp only [decide_eq_true_eq]
  by_cases h9_ : qf L f 6 = jn 0
  · simp only [h9_, not_true, if_false, if_true]
  · simp only [h9_, not_false_iff, if_true, if_false]
theorem sq_why (h : qS L I s u) {f : Nat} (hf : f < qF L) : d_G_firstReason (s + 2 + f) I = some (ywhy (ybs L f)) := by
  unfold d_G_firstReason
  rw [sq_all h hf, ob_s]
  exact ywhy_loop _ _ _ _ _ _ _
theorem sq_ready (h : qS L I s u) {f : Nat} (hf : f < qF L) : d_G_isReady (s + 2 + f) I = some (if ywhy (ybs L f) = jn 0 then jn 1 else jn 0) := by
  unfold d_G_isReady
  rw [sq_all h hf, ob_s, ob_is, ob_s, if_pos (by rw [j01]; trivial)]
  have e_ : (yall (ybs L f) = jn 0) = (ywhy (ybs L f) = jn 0) := ywhy_zero _ _ _ _ _ _ _
  simp only [e_]
theorem sq_flagsAt (h : qS L I s u) (g : qG L) (x : Int32) : d_S_flagsAt s x I = some (qct (fun f => qf L f 8 = x) (qF L)) := by
  have h1_ := g.1
  unfold d_S_flagsAt
  refine (zb (z_fl (fun i a => a + (if qf L i 8 = x then jn 1 else jn 0)) (jn 0) (n := qF L) (by omega) (fun i hi a => ?_) (fun a => ?_))).trans rfl
  · show d_S_flagsAt_2 s x I (a, jn i) = _
    unfold d_S_flagsAt_2
    dsimp only
    rw [if_pos (sq_go h g hi), if_pos (sq_in g hi), sq_n g hi, sq_f h hi (by omega), ob_is, ob_s, qct_if, jn_add]
  · show d_S_flagsAt_2 s x I (a, jn (qF L)) = _
    unfold d_S_flagsAt_2
    dsimp only
    rw [if_neg (sq_end h g)]
theorem sq_flagsOf (h : qS L I s u) (g : qG L) (x : Int32) : d_S_flagsOf s x I = some (qct (fun f => qf L f 0 = x) (qF L)) := by
  have h1_ := g.1
  unfold d_S_flagsOf
  refine (zb (z_fl (fun i a => a + (if qf L i 0 = x then jn 1 else jn 0)) (jn 0) (n := qF L) (by omega) (fun i hi a => ?_) (fun a => ?_))).trans rfl
  · show d_S_flagsOf_2 s x I (a, jn i) = _
    unfold d_S_flagsOf_2
    dsimp only
    rw [if_pos (sq_go h g hi), if_pos (sq_in g hi), sq_n g hi, sq_f h hi (by omega), ob_is, ob_s, qct_if, jn_add]
  · show d_S_flagsOf_2 s x I (a, jn (qF L)) = _
    unfold d_S_flagsOf_2
    dsimp only
    rw [if_neg (sq_end h g)]
theorem sq_readyFlags (h : qS L I s u) (g : qG L) : d_S_readyFlags s I = some (qct (fun f => ywhy (ybs L f) = jn 0) (qF L)) := by
  have h1_ := g.1
  unfold d_S_readyFlags
  refine (zb (z_fl (fun i a => a + (if ywhy (ybs L i) = jn 0 then jn 1 else jn 0)) (jn 0) (n := qF L) (by omega) (fun i hi a => ?_) (fun a => ?_))).trans rfl
  · show d_S_readyFlags_2 s I (a, jn i) = _
    unfold d_S_readyFlags_2
    dsimp only
    rw [if_pos (sq_go h g hi), if_pos (sq_in g hi), sq_n g hi, sq_ready h hi, ob_s]
    simp only [jeq0, ob_is, ob_s]
    rw [qct_fi, jn_add]
    simp only [Decidable.not_not]
  · show d_S_readyFlags_2 s I (a, jn (qF L)) = _
    unfold d_S_readyFlags_2
    dsimp only
    rw [if_neg (sq_end h g)]
end YS
