/-! pegs, the wettest, nations: on both sides -/
theorem qw_qk {L : LL} {p : Nat} : qw L p = qk (fun f => qf L f 8 = jn 2 ∧ qf L f 9 = jn p) (qF L) := by
  unfold qw qk
  congr 1
  funext f
  exact (Bool.decide_and ..).symm
theorem jdec (n : Nat) : jn (n + 1) + jg 1 = jn n := by
  rw [← jn_add n 1, Int32.add_assoc, show jn 1 + jg 1 = jn 0 from by decide, jn_z]
/-- the last of 0 .. n-1 with P -/
def qkd (P : Nat → Prop) [DecidablePred P] : Nat → Option Nat
  | 0 => none
  | n + 1 => if P n then some n else qkd P n
theorem qkd_lt {P : Nat → Prop} [DecidablePred P] : ∀ {n k : Nat}, qkd P n = some k → k < n ∧ P k
  | 0, k, h => by cases h
  | n + 1, k, h => by
    unfold qkd at h
    by_cases h_ : P n
    · rw [if_pos h_] at h
      cases h
      exact ⟨Nat.lt_succ_self _, h_⟩
    · rw [if_neg h_] at h
      have h9_ := qkd_lt h
      exact ⟨by omega, h9_.2⟩
theorem qkd_up {P : Nat → Prop} [DecidablePred P] {m : Nat} : ∀ n, m ≤ n → (∀ i, m ≤ i → i < n → ¬ P i) → qkd P n = qkd P m
  | 0, h1, _ => by rw [show m = 0 from by omega]
  | n + 1, h1, h2 => by
    rcases Nat.lt_or_ge n m with h_ | h_
    · rw [show m = n + 1 from by omega]
    · show (if P n then some n else qkd P n) = _
      rw [if_neg (h2 n h_ (Nat.lt_succ_self _))]
      exact qkd_up n h_ (fun i hi hj => h2 i hi (by omega))
/-- a search from above -/
theorem z_down {ρ : Type} {f : Int32 → Option (Int32 ⊕ ρ)} (P : Nat → Prop) [DecidablePred P] (r : Nat → ρ) (r0 : ρ) {N : Nat} (hs : ∀ i, i < N → f (jn i) = if P i then some (.inr (r i)) else some (.inl (jn i + jg 1))) (he : f (jg 1) = some (.inr r0)) : ∀ (n m : Nat), n ≤ N → n < m → z_it f m (jn n + jg 1) = some (match qkd P n with | some k => r k | none => r0) := by
  intro n
  induction n with
  | zero =>
    intro m _ hm
    obtain ⟨k_, rfl⟩ : ∃ k, m = k + 1 := ⟨m - 1, by omega⟩
    unfold z_it
    rw [show jn 0 + jg 1 = jg 1 from by decide, he]
    rfl
  | succ n ih_ =>
    intro m hn hm
    obtain ⟨k_, rfl⟩ : ∃ k, m = k + 1 := ⟨m - 1, by omega⟩
    unfold z_it
    rw [jdec, hs n (by omega)]
    unfold qkd
    by_cases h_ : P n
    · rw [if_pos h_, if_pos h_]
    · rw [if_neg h_, if_neg h_]
      exact ih_ k_ (by omega) (by omega)
def yfree (L : LL) : Int32 := if qk (fun p => qpg L p = jg 1) (qP L) < qP L then jn (qk (fun p => qpg L p = jg 1) (qP L)) else jg 1
/-- the last peg in use -/
def ylst (L : LL) : Option Nat := qkd (fun p => ¬ qpg L p = jg 1) (qP L)
def ycan (L : LL) (f : Nat) : Prop := qf L f 8 = jn 0 ∧ ¬ yfree L = jg 1
theorem qpg_at {L : LL} (g : qG L) {p : Nat} : qpg L p = jg 1 ∨ ∃ f, f < qF L ∧ qpg L p = jn f ∧ qf L f 8 = jn 2 ∧ qf L f 9 = jn p := by
  unfold qpg
  rw [qw_qk]
  by_cases h_ : qk (fun f => qf L f 8 = jn 2 ∧ qf L f 9 = jn p) (qF L) < qF L
  · rw [if_pos h_]
    exact Or.inr ⟨_, h_, rfl, qk_at (P := fun f => qf L f 8 = jn 2 ∧ qf L f 9 = jn p) h_⟩
  · rw [if_neg h_]
    exact Or.inl rfl
theorem qpg_of {L : LL} (g : qG L) {f p : Nat} (hf : f < qF L) (h1 : qf L f 8 = jn 2) (h2 : qf L f 9 = jn p) : qpg L p = jn f := by
  unfold qpg
  rw [qw_qk, qk_eq (P := fun f => qf L f 8 = jn 2 ∧ qf L f 9 = jn p) hf ⟨h1, h2⟩ (fun j hj h9_ => ?_), if_pos hf]
  have e_ := g.2.2.2.2.2.2.2.2.2 f j hf (by omega) h1 h9_.1 (by rw [h2, h9_.2])
  omega
theorem qpg_hi {L : LL} (g : qG L) {p : Nat} (h1 : qP L ≤ p) (h2 : p < 100000) : qpg L p = jg 1 := by
  rcases qpg_at g (p := p) with h_ | ⟨f_, h3_, _, h4_, h5_⟩
  · exact h_
  · have h6_ := (g.2.2.2.2.2.1 f_ h3_).2.2.2.2.2.2.2.2
    rw [h4_, h5_] at h6_
    have h7_ := g.2.2.2.2.1
    rcases h6_ with ⟨e_, _⟩ | ⟨e_, _⟩ | ⟨_, k_, e1_, e2_⟩ | ⟨e_, _⟩
    · rw [jn_eq (by omega) (by omega)] at e_; omega
    · rw [jn_eq (by omega) (by omega)] at e_; omega
    · rw [jn_eq (by omega) (by omega)] at e2_; omega
    · rw [jn_eq (by omega) (by omega)] at e_; omega
theorem ylst8 {L : LL} (g : qG L) : qkd (fun p => ¬ qpg L p = jg 1) 8 = ylst L := qkd_up 8 g.2.2.2.2.1 (fun i hi hj h9_ => h9_ (qpg_hi g hi (by omega)))
section YP
variable {L : LL} {B : Nat} {I : z_H} {s u : Nat}
theorem mq_on (h : qM L B (I 242)) (g : qG L) (p : Nat) : d_M_flagOn (jn p) I = some (qpg L p) := by
  rw [mq_flagOn h g]
  unfold qpg
  rw [qw_qk]
theorem mq_P (h : qM L B (I 242)) : I 242 (z_n (jn 9)) = jn (qP L) := by rw [jn_n (by omega)]; exact h.2.2.2.2.1
theorem mq_free (h : qM L B (I 242)) (g : qG L) : d_M_freePeg I = some (yfree L) := by
  have h1_ := g.2.2.2.2.1
  unfold d_M_freePeg yfree
  refine z_srch (fun p => qpg L p = jg 1) (fun i => jn i) (jg 1) (by omega) (fun i hi => ?_) ?_
  · unfold d_M_freePeg_2
    rw [if_pos (by rw [jn_in (by omega)]; omega), mq_P h, if_pos (by rw [jn_lt (by omega) (by omega)]; exact hi), mq_on h g, ob_s, jn_add]
  · unfold d_M_freePeg_2
    rw [if_pos (by rw [jn_in (by omega)]; omega), mq_P h, if_neg (by rw [jn_lt (by omega) (by omega)]; omega)]
theorem sq_pg (h : qS L I s u) {p : Nat} (hp : p < 8) : I (s + 16) p = qpg L p := h.2.2.2.2.2.2.2.2.2.2.1 p hp
theorem sq_free {s : Nat} (h : qS L I (s + 7) (s + 1)) (g : qG L) : d_L_firstFreePeg s I = some (yfree L) := by
  have h1_ := g.2.2.2.2.1
  unfold d_L_firstFreePeg yfree
  refine z_srch (fun p => qpg L p = jg 1) (fun i => jn i) (jg 1) (by omega) (fun i hi => ?_) ?_
  · unfold d_L_firstFreePeg_2
    rw [h.2.2.1, if_pos (by rw [jn_lt (by omega) (by omega)]; exact hi), if_pos (by rw [jn_in (by omega)]; omega), jn_n (by omega), sq_pg h (by omega), jn_add]
  · unfold d_L_firstFreePeg_2
    rw [h.2.2.1, if_neg (by rw [jn_lt (by omega) (by omega)]; omega)]
theorem mq_can (h : qM L B (I 242)) (g : qG L) {f : Nat} (hf : f < qF L) : d_M_canHang (jn f) I = some (if qf L f 8 = jn 0 ∧ ¬ yfree L = jg 1 then jn 1 else jn 0) := by
  unfold d_M_canHang
  rw [mq_basket h g hf, ob_s, mq_free h g, ob_s]
  by_cases h1_ : qf L f 8 = jn 0
  · rw [if_pos h1_, if_neg (by decide)]
    by_cases h2_ : yfree L = jg 1
    · rw [if_pos h2_, ob_s, if_pos (Or.inl rfl), if_neg (fun h9_ => h9_.2 h2_)]
    · rw [if_neg h2_, ob_s, if_pos (Or.inr rfl), if_pos ⟨h1_, h2_⟩]
  · rw [if_neg h1_, if_pos rfl, ob_s, if_pos (Or.inl rfl), if_neg (fun h9_ => h1_ h9_.1)]
theorem sq_can {s : Nat} (h : qS L I (s + 7) (s + 1)) (g : qG L) {f : Nat} (hf : f < qF L) : d_L_canHang s (jn f) I = some (if qf L f 8 = jn 0 ∧ ¬ yfree L = jg 1 then jn 1 else jn 0) := by
  unfold d_L_canHang
  rw [if_pos (sq_in g hf), sq_n g hf, sq_f h hf (by omega), sq_free h g, ob_s]
  by_cases h1_ : qf L f 8 = jn 0
  · rw [if_pos h1_]
    by_cases h2_ : yfree L = jg 1
    · rw [if_pos h2_, ob_s, if_pos (Or.inl rfl), if_neg (fun h9_ => h9_.2 h2_)]
    · rw [if_neg h2_, ob_s, if_pos (Or.inr rfl), if_pos ⟨h1_, h2_⟩]
  · rw [if_neg h1_, ob_s, if_pos (Or.inl rfl), if_neg (fun h9_ => h1_ h9_.1)]
theorem jn_neg {a : Nat} (ha : a < 100000) : (jn a < jn 0) = False := by
  rw [jn_lt ha (by omega)]
  exact propext ⟨fun h9_ => absurd h9_ (Nat.not_lt_zero _), fun h9_ => h9_.elim⟩
theorem mq_last (h : qM L B (I 242)) (g : qG L) : d_M_lastHung I = some (match ylst L with | some p => qpg L p | none => jg 1) := by
  have h1_ := g.2.2.2.2.1
  unfold d_M_lastHung
  rw [if_pos (by rw [jn_in (by omega)]; omega), mq_P h, show jn (qP L) - jn 1 = jn (qP L) + jg 1 from by rw [Int32.sub_eq_add_neg]; rfl]
  refine z_down (N := 8) (fun p => ¬ qpg L p = jg 1) (fun p => qpg L p) (jg 1) (fun i hi => ?_) rfl (qP L) z_F h1_ (by unfold z_F; omega)
  unfold d_M_lastHung_3
  rw [if_neg (by rw [jn_neg (by omega)]; exact fun h9_ => h9_), mq_on h g, ob_s, ob_s]
  by_cases h2_ : qpg L i = jg 1
  · rw [if_pos h2_, if_neg (fun h9_ => h9_ h2_)]
  · rw [if_neg h2_, if_pos h2_]
theorem sq_last (h : qS L I s u) (g : qG L) : d_S_lastPegInUse s I = some (match ylst L with | some p => jn p | none => jg 1) := by
  unfold d_S_lastPegInUse
  rw [show jn 7 = jn 8 + jg 1 from by decide, ← ylst8 g]
  refine z_down (N := 8) (fun p => ¬ qpg L p = jg 1) (fun p => jn p) (jg 1) (fun i hi => ?_) rfl 8 z_F (by omega) (by unfold z_F; omega)
  unfold d_S_lastPegInUse_2
  rw [if_neg (by rw [jn_neg (by omega)]; exact fun h9_ => h9_), if_pos (by rw [jn_in (by omega)]; exact hi), jn_n (by omega), sq_pg h hi]
  by_cases h2_ : qpg L i = jg 1
  · rw [if_pos h2_, if_neg (fun h9_ => h9_ h2_)]
  · rw [if_neg h2_, if_pos h2_]
/-! nations -/
theorem sq_nin (g : qG L) {n : Nat} (hn : n < qN L) : z_in (jn n) 4 := by
  have h1_ := g.2.2.1
  rw [jn_in (by omega)]
  omega
theorem sq_nn (g : qG L) {n : Nat} (hn : n < qN L) : z_n (jn n) = n := by
  have h1_ := g.2.2.1
  exact jn_n (by omega)
theorem mq_now (h : qM L B (I 242)) {k : Nat} (hk : k < 6) : I 242 (z_n (jn k)) = qs L k := by rw [jn_n (by omega)]; exact h.1 k hk
theorem sq_now (h : qS L I s u) {k : Nat} (hk : k < 6) : I s k = qs L k := h.1 k hk
def yhand (L : LL) (n : Nat) : Prop := qn L n 3 = jn 1
theorem sq_hand (h : qS L I s u) (g : qG L) {n : Nat} (hn : n < qN L) : d_S_wasHandedOver s (jn n) I = some (if qn L n 3 = jn 1 then jn 1 else jn 0) := by
  unfold d_S_wasHandedOver
  rw [if_pos (sq_nin g hn), sq_nn g hn, (h.2.2.2.2.2.2.2.1 n hn).2.2.2]
  rcases (g.2.2.2.2.2.2.1 n hn).2.2.2 with h1_ | ⟨h1_, h2_⟩
  · have h3_ : ¬ qn L n 3 = jn 1 := by rw [h1_]; decide
    rw [if_neg h3_, if_pos rfl, ob_s, if_pos (Or.inl rfl), if_neg h3_]
  · rw [if_pos h1_, if_neg h2_, ob_s, if_pos (Or.inr rfl), if_pos h1_]
theorem mq_hand (h : qM L B (I 242)) (g : qG L) {n : Nat} (hn : n < qN L) : d_M_isHanded (jn n) I = some (if qn L n 3 = jn 1 then jn 1 else jn 0) := by
  unfold d_M_isHanded
  rw [mq_n h g hn (by omega), ob_s, ob_is, ob_s, if_pos (by rw [j01]; trivial)]
def ylate (L : LL) (n : Nat) (x : Int32) : Int32 := z_mx (jn 0) (x - qn L n 0)
def ypay (L : LL) (n : Nat) (x : Int32) : Int32 := z_mx (jn 0) (qn L n 1 - qn L n 2 * ylate L n x)
def yof (L : LL) (n : Nat) : Int32 := qct (fun f => qf L f 0 = jn n) (qF L)
def yahead (L : LL) (n : Nat) (x : Int32) : Int32 := if qn L n 3 = jn 1 then jn 0 else ypay L n (qs L 0 + x) * yof L n
theorem sq_late {s : Nat} (h : qS L I (s + 7) (s + 1)) (g : qG L) {n : Nat} (hn : n < qN L) (x : Int32) : d_L_lateAt s (jn n) x I = some (ylate L n x) := by
  unfold d_L_lateAt ylate
  rw [if_pos (sq_nin g hn), sq_nn g hn, (h.2.2.2.2.2.2.2.1 n hn).1]
theorem mq_late (h : qM L B (I 242)) (g : qG L) {n : Nat} (hn : n < qN L) (x : Int32) : d_M_lateAt (jn n) x I = some (ylate L n x) := by
  unfold d_M_lateAt ylate
  rw [mq_n h g hn (by omega), ob_s]
theorem sq_each {s : Nat} (h : qS L I (s + 7) (s + 1)) (g : qG L) {n : Nat} (hn : n < qN L) (x : Int32) : d_L_payForEach s (jn n) x I = some (ypay L n x) := by
  unfold d_L_payForEach ypay
  rw [if_pos (sq_nin g hn), if_pos (sq_nin g hn), sq_nn g hn, (h.2.2.2.2.2.2.2.1 n hn).2.1, (h.2.2.2.2.2.2.2.1 n hn).2.2.1, sq_late h g hn, ob_s]
theorem mq_payAt (h : qM L B (I 242)) (g : qG L) {n : Nat} (hn : n < qN L) (x : Int32) : d_M_payAt (jn n) x I = some (ypay L n x * yof L n) := by
  unfold d_M_payAt
  rw [mq_flagsOf h g, ob_s, mq_n h g hn (by omega), ob_s, mq_n h g hn (by omega), ob_s, mq_late h g hn, ob_s, Int32.mul_comm]
  rfl
theorem sq_ahead {s : Nat} (h : qS L I (s + 7) (s + 1)) (g : qG L) {n : Nat} (hn : n < qN L) (x : Int32) : d_L_payAhead s (jn n) x I = some (yahead L n x) := by
  unfold d_L_payAhead yahead
  rw [sq_hand h g hn, ob_s, sq_now h (by omega), sq_each h g hn, ob_s, sq_flagsOf h g, ob_s]
  by_cases h1_ : qn L n 3 = jn 1
  · rw [if_pos h1_, if_neg (by decide), ob_s, if_pos h1_]
  · rw [if_neg h1_, if_pos rfl, ob_s, if_neg h1_]
    rfl
theorem mq_payIn (h : qM L B (I 242)) (g : qG L) {n : Nat} (hn : n < qN L) (x : Int32) : d_M_payIn (jn n) x I = some (yahead L n x) := by
  unfold d_M_payIn yahead
  rw [mq_hand h g hn, ob_s, if_pos (show z_in (jn 0) 173 by rw [jn_in (by omega)]; omega), mq_now h (by omega), mq_payAt h g hn, ob_s]
  by_cases h1_ : qn L n 3 = jn 1
  · rw [if_pos h1_, if_neg (by decide), ob_s, if_pos h1_]
  · rw [if_neg h1_, if_pos rfl, ob_s, if_neg h1_]
end YP
