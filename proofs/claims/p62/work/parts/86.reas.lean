/-! reasons against; counts over all flags: on both sides -/
def yput (L : LL) (f t : Nat) : Int32 := if qf L f 8 = jn 0 then (if jn (qt L t).length < qo L t then jn 0 else jn 2) else jn 1
def ywash (L : LL) (t : Nat) (x : Int32) : Int32 := if jn (qt L t).length = jn 0 then jn 1 else if ycare L t < x then jn 2 else jn 0
def yiron (L : LL) (f : Nat) (x : Int32) : Int32 := if qf L f 8 = jn 0 then (if qf L f 2 < x then jn 2 else if jn 3 < qf L f 4 then jn 3 else if qf L f 6 = jn 0 then jn 0 else jn 4) else jn 1
def yble (L : LL) (f : Nat) : Int32 := if qf L f 8 = jn 0 then (if qf L f 6 = jn 0 then jn 2 else if qf L f 7 = jn 2 then jn 3 else jn 0) else jn 1
section YE
variable {L : LL} {B : Nat} {I : z_H} {s u : Nat}
theorem mq_put (h : qM L B (I 242)) (g : qG L) {f t : Nat} (hf : f < qF L) (ht : t < qT L) : d_M_whyPut (jn f) (jn t) I = some (yput L f t) := by
  have h1_ := g.2.2.2.1
  unfold d_M_whyPut yput
  rw [mq_basket h g hf, ob_s]
  by_cases h2_ : qf L f 8 = jn 0
  · rw [if_pos h2_, if_neg (by decide), if_pos h2_, mq_many h g ht, ob_s, jn_add, if_pos (by rw [jn_in (by omega)]; omega), jn_n (by omega), h.2.2.2.2.2.2.2.2.1 t ht, ob_is, ob_s]
  · rw [if_neg h2_, if_pos rfl, if_neg h2_]
theorem sq_put {s : Nat} (h : qS L I (s + 7) (s + 1)) (g : qG L) {f t : Nat} (hf : f < qF L) (ht : t < qT L) : d_L_reasonAgainstPut s (jn f) (jn t) I = some (yput L f t) := by
  unfold d_L_reasonAgainstPut yput
  rw [if_pos (sq_in g hf), sq_n g hf, sq_f h hf (by omega), if_pos (sq_tin g ht), sq_tn g ht, sq_many h ht, (h.2.2.2.2.2.2.2.2.1 t ht).1, ob_is, ob_s]
  by_cases h2_ : qf L f 8 = jn 0
  · rw [if_pos h2_, if_pos h2_]
    by_cases h3_ : jn (qt L t).length < qo L t
    · rw [if_pos h3_, if_pos (sq_tin g ht)]
    · rw [if_neg h3_, if_pos (sq_tin g ht)]
  · rw [if_neg h2_, if_neg h2_]
theorem mq_wash (h : qM L B (I 242)) (g : qG L) {t : Nat} (ht : t < qT L) (x : Int32) : d_M_whyWash (jn t) x I = some (ywash L t x) := by
  unfold d_M_whyWash ywash
  rw [mq_many h g ht, ob_s, mq_care h g ht, ob_s, ob_is, ob_s, ob_is]
theorem sq_wash (h : qS L I (s + 7) u) (g : qG L) {t : Nat} (ht : t < qT L) (x : Int32) : d_L_reasonAgainstWash s (jn t) x I = some (ywash L t x) := by
  unfold d_L_reasonAgainstWash ywash
  rw [if_pos (sq_tin g ht), sq_tn g ht, sq_many h ht, sq_care h g ht, ob_s, ob_is, ob_s, ob_is]
theorem mq_iron (h : qM L B (I 242)) (g : qG L) {f : Nat} (hf : f < qF L) (x : Int32) : d_M_whyIron (jn f) x I = some (yiron L f x) := by
  unfold d_M_whyIron yiron
  rw [mq_basket h g hf, ob_s, mq_f h g hf (by omega), ob_s, mq_f h g hf (by omega), ob_s, mq_f h g hf (by omega), ob_s]
  by_cases h2_ : qf L f 8 = jn 0
  · rw [if_pos h2_, if_neg (by decide), if_pos h2_]
    simp only [ob_is, ob_s]
  · rw [if_neg h2_, if_pos rfl, if_neg h2_]
theorem sq_iron (h : qS L I s u) {f : Nat} (hf : f < qF L) (x : Int32) : d_G_reasonAgainstIron (s + 2 + f) x I = some (yiron L f x) := by
  unfold d_G_reasonAgainstIron yiron d_G_bears
  rw [sq_f h hf (by omega), sq_f h hf (by omega), sq_f h hf (by omega), sq_f h hf (by omega), ob_is, ob_s]
  by_cases h3_ : qf L f 2 < x
  · simp only [if_pos h3_]
    rw [if_pos (Or.inl trivial), ob_s, if_pos rfl, ob_is]
  · simp only [if_neg h3_]
    rw [if_pos (Or.inr trivial), ob_s, if_neg (show ¬ jn 1 = jn 0 by decide)]
    simp only [ob_is, ob_s]
theorem mq_ble (h : qM L B (I 242)) (g : qG L) {f : Nat} (hf : f < qF L) : d_M_whyBleach (jn f) I = some (yble L f) := by
  unfold d_M_whyBleach yble
  rw [mq_basket h g hf, ob_s, mq_f h g hf (by omega), ob_s, mq_f h g hf (by omega), ob_s]
  by_cases h2_ : qf L f 8 = jn 0
  · rw [if_pos h2_, if_neg (by decide), if_pos h2_]
    simp only [ob_is, ob_s]
  · rw [if_neg h2_, if_pos rfl, if_neg h2_]
theorem sq_ble (h : qS L I s u) (g : qG L) {f : Nat} (hf : f < qF L) : d_G_reasonAgainstBleach (s + 2 + f) I = some (yble L f) := by
  unfold d_G_reasonAgainstBleach yble
  rw [sq_f h hf (by omega), sq_f h hf (by omega), sq_f h hf (by omega), ob_is, ob_s]
  obtain ⟨k_, hk_, e_⟩ := (g.2.2.2.2.2.1 f hf).2.2.2.2.2.2.2.1
  have e2_ : (if qf L f 7 < jn 2 then jn 0 else jn 3) = (if qf L f 7 = jn 2 then jn 3 else jn 0) := by
    rw [e_]
    simp only [jn_lt (show k_ < 100000 by omega) (show 2 < 100000 by omega), jn_eq (show k_ < 100000 by omega) (show 2 < 100000 by omega)]
    by_cases h3_ : k_ = 2
    · rw [if_neg (by omega), if_pos h3_]
    · rw [if_pos (by omega), if_neg h3_]
  rw [e2_]
  simp only [ob_is]
/-- all flags' dirt -/
theorem sq_dirtOfAll (h : qS L I s u) (g : qG L) : d_S_dirtOfAll s I = some (jfd (fun i a => a + qf L i 3) (jn 0) (qF L)) := by
  have h1_ := g.1
  unfold d_S_dirtOfAll
  refine (zb (z_fl (fun i a => a + qf L i 3) (jn 0) (n := qF L) (by omega) (fun i hi a => ?_) (fun a => ?_))).trans rfl
  · show d_S_dirtOfAll_2 s I (a, jn i) = _
    unfold d_S_dirtOfAll_2
    dsimp only
    rw [if_pos (sq_go h g hi), if_pos (sq_in g hi), sq_n g hi, sq_f h hi (by omega), jn_add]
  · show d_S_dirtOfAll_2 s I (a, jn (qF L)) = _
    unfold d_S_dirtOfAll_2
    dsimp only
    rw [if_neg (sq_end h g)]
theorem sq_readyOf (h : qS L I s u) (g : qG L) (x : Int32) : d_S_readyFlagsOf s x I = some (qct (fun f => qf L f 0 = x ∧ ywhy (ybs L f) = jn 0) (qF L)) := by
  have h1_ := g.1
  unfold d_S_readyFlagsOf
  refine (zb (z_fl (fun i a => a + (if qf L i 0 = x ∧ ywhy (ybs L i) = jn 0 then jn 1 else jn 0)) (jn 0) (n := qF L) (by omega) (fun i hi a => ?_) (fun a => ?_))).trans rfl
  · show d_S_readyFlagsOf_2 s x I (a, jn i) = _
    unfold d_S_readyFlagsOf_2
    dsimp only
    rw [if_pos (sq_go h g hi), if_pos (sq_in g hi), if_pos (sq_in g hi), sq_n g hi, sq_f h hi (by omega), sq_ready h hi, ob_s]
    by_cases h2_ : qf L i 0 = x
    · by_cases h3_ : ywhy (ybs L i) = jn 0
      · rw [if_pos h2_, if_pos h3_, if_neg (by decide), ob_s, if_pos ⟨h2_, h3_⟩, jn_add]
      · rw [if_pos h2_, if_neg h3_, if_pos rfl, ob_s, if_neg (fun h9_ => h3_ h9_.2), jn_z, jn_add]
    · rw [if_neg h2_, ob_s, if_neg (fun h9_ => h2_ h9_.1), jn_z, jn_add]
  · show d_S_readyFlagsOf_2 s x I (a, jn (qF L)) = _
    unfold d_S_readyFlagsOf_2
    dsimp only
    rw [if_neg (sq_end h g)]
theorem sq_culprit (h : qS L I s u) (g : qG L) (x : Int32) : d_S_firstNotReady s x I = some (if qk (fun f => qf L f 0 = x ∧ ¬ ywhy (ybs L f) = jn 0) (qF L) < qF L then jn (qk (fun f => qf L f 0 = x ∧ ¬ ywhy (ybs L f) = jn 0) (qF L)) else jg 1) := by
  have h1_ := g.1
  unfold d_S_firstNotReady
  refine z_srch (fun f => qf L f 0 = x ∧ ¬ ywhy (ybs L f) = jn 0) (fun i => jn i) (jg 1) (by omega) (fun i hi => ?_) ?_
  · unfold d_S_firstNotReady_2
    rw [if_pos (sq_go h g hi), if_pos (sq_in g hi), if_pos (sq_in g hi), sq_n g hi, sq_f h hi (by omega), sq_ready h hi, ob_s]
    by_cases h2_ : qf L i 0 = x
    · by_cases h3_ : ywhy (ybs L i) = jn 0
      · rw [if_pos h2_, if_pos h3_, if_neg (by decide), if_neg (fun h9_ => h9_.2 h3_), jn_add]
      · rw [if_pos h2_, if_neg h3_, if_pos rfl, if_pos ⟨h2_, h3_⟩]
    · rw [if_neg h2_, if_neg (fun h9_ => h2_ h9_.1), jn_add]
  · unfold d_S_firstNotReady_2
    rw [if_neg (sq_end h g)]
/-- how many have a colour among the own ones (k = 1) or the stains (k = 6) -/
def yhas (L : LL) (k : Nat) (x : Int32) : Int32 := jfd (fun i a => a + ((qf L i k >>> (x &&& 31)) &&& jn 1)) (jn 0) (qF L)
theorem sq_with (h : qS L I s u) (g : qG L) (x : Int32) : d_S_flagsWithColour s x I = some (yhas L 1 x) := by
  have h1_ := g.1
  unfold d_S_flagsWithColour
  refine (zb (z_fl (fun i a => a + ((qf L i 1 >>> (x &&& 31)) &&& jn 1)) (jn 0) (n := qF L) (by omega) (fun i hi a => ?_) (fun a => ?_))).trans rfl
  · show d_S_flagsWithColour_2 s x I (a, jn i) = _
    unfold d_S_flagsWithColour_2
    dsimp only
    rw [if_pos (sq_go h g hi), if_pos (sq_in g hi), sq_n g hi, sq_f h hi (by omega), jn_add]
  · show d_S_flagsWithColour_2 s x I (a, jn (qF L)) = _
    unfold d_S_flagsWithColour_2
    dsimp only
    rw [if_neg (sq_end h g)]
theorem sq_stainedWith (h : qS L I s u) (g : qG L) (x : Int32) : d_S_flagsStainedBy s x I = some (yhas L 6 x) := by
  have h1_ := g.1
  unfold d_S_flagsStainedBy
  refine (zb (z_fl (fun i a => a + ((qf L i 6 >>> (x &&& 31)) &&& jn 1)) (jn 0) (n := qF L) (by omega) (fun i hi a => ?_) (fun a => ?_))).trans rfl
  · show d_S_flagsStainedBy_2 s x I (a, jn i) = _
    unfold d_S_flagsStainedBy_2
    dsimp only
    rw [if_pos (sq_go h g hi), if_pos (sq_in g hi), sq_n g hi, sq_f h hi (by omega), jn_add]
  · show d_S_flagsStainedBy_2 s x I (a, jn (qF L)) = _
    unfold d_S_flagsStainedBy_2
    dsimp only
    rw [if_neg (sq_end h g)]
theorem jbit : ∀ (k : Fin 64) (c : Fin 6), (if (jn k.val >>> (jn c.val &&& 31)) &&& jn 1 = jn 1 then jn 1 else jn 0) = (jn k.val >>> (jn c.val &&& 31)) &&& jn 1 := by decide +kernel
theorem mq_with (h : qM L B (I 242)) (g : qG L) {k c : Nat} (hk : k = 1 ∨ k = 6) (hc : c < 6) : d_M_flagsWith (jn c) (jn k) I = some (yhas L k (jn c)) := by
  have h1_ := g.1
  unfold d_M_flagsWith
  refine (zb (z_fl (fun i a => a + ((qf L i k >>> (jn c &&& 31)) &&& jn 1)) (jn 0) (n := qF L) (by omega) (fun i hi a => ?_) (fun a => ?_))).trans rfl
  · show d_M_flagsWith_2 (jn c) (jn k) I (a, jn i) = _
    unfold d_M_flagsWith_2
    dsimp only
    have h2_ : jlt (qf L i k) 64 := by
      have h3_ := g.2.2.2.2.2.1 i hi
      have h4_ : 2 ^ qC L ≤ 64 := Nat.pow_le_pow_right (n := 2) (by omega) g.2.1
      rcases hk with e_ | e_
      · rw [e_]; exact jlt_mono h4_ h3_.2.1
      · rw [e_]; exact jlt_mono h4_ h3_.2.2.2.2.2.2.1
    obtain ⟨m_, hm_, e_⟩ := h2_
    rw [if_pos mq_in10, if_pos (mq_go h g hi), mq_f h g hi (by omega), ob_s, mq_has, ob_s, mq_one, ob_s, e_, jbit ⟨m_, hm_⟩ ⟨c, hc⟩, jn_add]
  · show d_M_flagsWith_2 (jn c) (jn k) I (a, jn (qF L)) = _
    unfold d_M_flagsWith_2
    dsimp only
    rw [if_pos mq_in10, if_neg (mq_end h g)]
end YE
