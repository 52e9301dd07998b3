/-! tubs: the reference's loops; running colours on both sides -/
theorem jand_or {x y z : Int32} : x &&& (y ||| z) = (x &&& y) ||| (x &&& z) := Int32.toBitVec_inj.1 BitVec.and_or_distrib_left
theorem jor_and {x y z : Int32} : (x ||| y) &&& z = (x &&& z) ||| (y &&& z) := Int32.toBitVec_inj.1 BitVec.and_or_distrib_right
theorem jnot_or {x y : Int32} : (x ||| y) ^^^ jg 1 = (x ^^^ jg 1) &&& (y ^^^ jg 1) := by
  have e_ : jg 1 = -1 := by decide
  rw [e_, Int32.xor_neg_one, Int32.xor_neg_one, Int32.xor_neg_one]
  exact Int32.toBitVec_inj.1 BitVec.not_or
theorem jor0 (x : Int32) : x ||| jn 0 = x := Int32.or_zero
theorem j0or (x : Int32) : jn 0 ||| x = x := Int32.zero_or
theorem jand0 (x : Int32) : x &&& jn 0 = jn 0 := Int32.and_zero
theorem j0and (x : Int32) : jn 0 &&& x = jn 0 := Int32.zero_and
theorem jn_or64 : ∀ a b : Fin 64, jn a.val ||| jn b.val = jn (a.val ||| b.val) := by decide +kernel
theorem jlt_or {x y : Int32} (hx : jlt x 64) (hy : jlt y 64) : jlt (x ||| y) 64 := by
  obtain ⟨a_, h1_, rfl⟩ := hx
  obtain ⟨b_, h2_, rfl⟩ := hy
  refine ⟨a_ ||| b_, ?_, jn_or64 ⟨a_, h1_⟩ ⟨b_, h2_⟩⟩
  exact Nat.or_lt_two_pow (n := 6) h1_ h2_
theorem jlt_mono {x : Int32} {n m : Nat} (h : n ≤ m) (hx : jlt x n) : jlt x m := by
  obtain ⟨a_, h1_, h2_⟩ := hx
  exact ⟨a_, by omega, h2_⟩
/-- the colours that run at a heat -/
def yrun (L : LL) (x : Int32) : Int32 := jfd (fun c a => if x < qr L c then a else a ||| (jn 1 <<< (jn c &&& 31))) (jn 0) (qC L)
theorem jhas : ∀ (k : Fin 64) (c : Fin 6), (if (jn k.val >>> (jn c.val &&& 31)) &&& jn 1 = jn 1 then jn 1 else jn 0) <<< (jn c.val &&& 31) = jn k.val &&& (jn 1 <<< (jn c.val &&& 31)) := by decide +kernel
theorem jsh0 (c : Int32) : jn 0 <<< c = jn 0 := Int32.zero_shiftLeft
section YR
variable {L : LL} {B : Nat} {I : z_H} {s u : Nat}
theorem sq_cin (g : qG L) {c : Nat} (hc : c < qC L) : z_in (jn c) 6 := by
  have h1_ := g.2.1
  rw [jn_in (by omega)]
  omega
theorem sq_running (h : qS L I s u) (g : qG L) (x : Int32) : d_U_runningWith u x I = some (yrun L x) := by
  have h1_ := g.2.1
  unfold d_U_runningWith
  refine (zb (z_fl (fun c a => if x < qr L c then a else a ||| (jn 1 <<< (jn c &&& 31))) (jn 0) (n := qC L) (by omega) (fun i hi a => ?_) (fun a => ?_))).trans rfl
  · show d_U_runningWith_2 u x I (a, jn i) = _
    unfold d_U_runningWith_2
    dsimp only
    rw [h.2.2.2.1, if_pos (by rw [jn_lt (by omega) (by omega)]; exact hi), if_pos (sq_cin g hi), jn_n (by omega), h.2.2.2.2.2.2.1 i hi, ob_is, ob_s, jn_add]
  · show d_U_runningWith_2 u x I (a, jn (qC L)) = _
    unfold d_U_runningWith_2
    dsimp only
    rw [h.2.2.2.1, if_neg (by rw [jn_lt (by omega) (by omega)]; omega)]
theorem mq_has {x y : Int32} : d_M_has x y = some (if (x >>> (y &&& 31)) &&& jn 1 = jn 1 then jn 1 else jn 0) := by
  unfold d_M_has
  rw [ob_is, ob_s, if_pos (by rw [j01]; trivial)]
theorem mq_runningOf (h : qM L B (I 242)) (g : qG L) {k : Nat} (hk : k < 64) (x : Int32) : d_M_runningOf (jn k) x I = some (jn k &&& yrun L x) := by
  have h1_ := g.2.1
  have h2_ : I 242 6 = jn (qC L) := h.2.1
  unfold d_M_runningOf
  refine (zb (z_fl (fun c a => a ||| ((if x < qr L c then jn 0 else (if (jn k >>> (jn c &&& 31)) &&& jn 1 = jn 1 then jn 1 else jn 0)) <<< (jn c &&& 31))) (jn 0) (n := qC L) (by omega) (fun i hi a => ?_) (fun a => ?_))).trans ?_
  · show d_M_runningOf_2 (jn k) x I (a, jn i) = _
    unfold d_M_runningOf_2
    dsimp only
    rw [if_pos (by rw [jn_in (by omega)]; omega), jn_n (by omega), h2_, if_pos (by rw [jn_lt (by omega) (by omega)]; exact hi), mq_has, ob_s]
    simp only [jn_add]
    rw [if_pos (show z_in (jn (12 + i)) 173 by rw [jn_in (by omega)]; omega), jn_n (by omega), h.2.2.2.2.2.2.1 i hi]
    by_cases h3_ : (jn k >>> (jn i &&& 31)) &&& jn 1 = jn 1
    · rw [if_pos h3_, if_neg (by decide), ob_is, ob_s]
      by_cases h4_ : x < qr L i
      · rw [if_pos h4_, show d_M_one (jn 0) = some (jn 0) from rfl, ob_s]
      · rw [if_neg h4_, show d_M_one (jn 1) = some (jn 1) from rfl, ob_s]
    · rw [if_neg h3_, if_pos rfl, ob_s, show d_M_one (jn 0) = some (jn 0) from rfl, ob_s]
      by_cases h4_ : x < qr L i
      · rw [if_pos h4_]
      · rw [if_neg h4_]
  · show d_M_runningOf_2 (jn k) x I (a, jn (qC L)) = _
    unfold d_M_runningOf_2
    dsimp only
    rw [if_pos (by rw [jn_in (by omega)]; omega), jn_n (by omega), h2_, if_neg (by rw [jn_lt (by omega) (by omega)]; omega)]
  · show some _ = some _
    refine congrArg some ?_
    have e_ : ∀ n, n ≤ 6 → jfd (fun c a => a ||| ((if x < qr L c then jn 0 else (if (jn k >>> (jn c &&& 31)) &&& jn 1 = jn 1 then jn 1 else jn 0)) <<< (jn c &&& 31))) (jn 0) n = jn k &&& jfd (fun c a => if x < qr L c then a else a ||| (jn 1 <<< (jn c &&& 31))) (jn 0) n := by
      intro n
      induction n with
      | zero => intro _; exact (jand0 _).symm
      | succ n ih_ =>
        intro hn
        rw [jfd_s, jfd_s, ih_ (by omega)]
        by_cases h4_ : x < qr L n
        · rw [if_pos h4_, if_pos h4_, jsh0, jor0]
        · rw [if_neg h4_, if_neg h4_, jand_or, jhas ⟨k, hk⟩ ⟨n, by omega⟩]
    exact e_ _ h1_
theorem qf_carr (g : qG L) {f : Nat} (hf : f < qF L) : jlt (qf L f 1 ||| qf L f 6) 64 := by
  have h_ := g.2.2.2.2.2.1 f hf
  have h1_ : 2 ^ qC L ≤ 64 := Nat.pow_le_pow_right (n := 2) (by omega) g.2.1
  exact jlt_or (jlt_mono h1_ h_.2.1) (jlt_mono h1_ h_.2.2.2.2.2.2.1)
theorem mq_runningFrom (h : qM L B (I 242)) (g : qG L) {f : Nat} (hf : f < qF L) (x : Int32) : d_M_runningFrom (jn f) x I = some ((qf L f 1 ||| qf L f 6) &&& yrun L x) := by
  unfold d_M_runningFrom
  rw [mq_f h g hf (by omega), ob_s, mq_f h g hf (by omega), ob_s]
  obtain ⟨k_, hk_, e_⟩ := qf_carr g hf
  rw [e_, mq_runningOf h g hk_, ob_s]
theorem foldl_and {l : List Nat} {v : Nat → Int32} {m : Int32} : ∀ a, l.foldl (fun a f => a ||| (v f &&& m)) (a &&& m) = (l.foldl (fun a f => a ||| v f) a) &&& m := by
  induction l with
  | nil => intro a; rfl
  | cons b l ih_ =>
    intro a
    show l.foldl _ ((a &&& m) ||| (v b &&& m)) = _
    rw [← jor_and, ih_]
    rfl
/-- what runs in a tub at a heat -/
def yrunt (L : LL) (t : Nat) (x : Int32) : Int32 := ycarr L t &&& yrun L x
theorem sq_runningIn {s : Nat} (h : qS L I (s + 7) (s + 1)) (g : qG L) {t : Nat} (ht : t < qT L) (x : Int32) : d_L_runningIn s (jn t) x I = some (yrunt L t x) := by
  unfold d_L_runningIn
  rw [sq_carriedIn h g ht, ob_s, sq_running h g, ob_s]
  rfl
theorem mq_runningIn (h : qM L B (I 242)) (g : qG L) {t : Nat} (ht : t < qT L) (x : Int32) : d_M_runningIn (jn t) x I = some (yrunt L t x) := by
  have h1_ := g.1
  unfold d_M_runningIn
  refine (zb (z_fl (fun i a => if qf L i 8 = jn 1 ∧ qf L i 9 = jn t then a ||| ((qf L i 1 ||| qf L i 6) &&& yrun L x) else a) (jn 0) (n := qF L) (by omega) (fun i hi a => ?_) (fun a => ?_))).trans ?_
  · show d_M_runningIn_2 (jn t) x I (a, jn i) = _
    unfold d_M_runningIn_2
    dsimp only
    rw [if_pos mq_in10, if_pos (mq_go h g hi), mq_inTub h g hi, ob_s]
    by_cases h2_ : qf L i 8 = jn 1 ∧ qf L i 9 = jn t
    · rw [if_pos h2_, if_neg (by decide), mq_runningFrom h g hi, ob_s, ob_s, if_pos h2_, jn_add]
    · rw [if_neg h2_, if_pos rfl, ob_s, if_neg h2_, jor0, jn_add]
  · show d_M_runningIn_2 (jn t) x I (a, jn (qF L)) = _
    unfold d_M_runningIn_2
    dsimp only
    rw [if_pos mq_in10, if_neg (mq_end h g)]
  · show some _ = some _
    refine congrArg some ?_
    show jfd _ _ _ = _
    rw [qt_fold g ht (op := fun a i => a ||| ((qf L i 1 ||| qf L i 6) &&& yrun L x)) (fun z y w => jor_rc)]
    have e_ := foldl_and (l := qt L t) (v := fun i => qf L i 1 ||| qf L i 6) (m := yrun L x) (jn 0)
    rw [j0and] at e_
    exact e_
theorem mq_new (h : qM L B (I 242)) (g : qG L) {f : Nat} (hf : f < qF L) (x : Int32) : d_M_newStains (jn f) x I = some (ynew L f x) := by
  unfold d_M_newStains ynew
  rw [mq_f h g hf (by omega), ob_s, mq_f h g hf (by omega), ob_s, jnot_or, Int32.and_assoc]
theorem mq_after (h : qM L B (I 242)) (g : qG L) {f : Nat} (hf : f < qF L) (x : Int32) : d_M_dirtBehind (jn f) x I = some (yaft L f x) := by
  unfold d_M_dirtBehind yaft
  rw [mq_f h g hf (by omega), ob_s]
theorem mq_stained (h : qM L B (I 242)) (g : qG L) {t : Nat} (ht : t < qT L) (x : Int32) : d_M_stainedBy (jn t) x I = some (ystn L t (yrunt L t x)) := by
  have h1_ := g.1
  unfold d_M_stainedBy
  rw [mq_runningIn h g ht, ob_s]
  refine (zb (z_fl (fun i a => if qf L i 8 = jn 1 ∧ qf L i 9 = jn t then a + (if ynew L i (yrunt L t x) = jn 0 then jn 0 else jn 1) else a) (jn 0) (n := qF L) (by omega) (fun i hi a => ?_) (fun a => ?_))).trans ?_
  · show d_M_stainedBy_4 (jn t) I (yrunt L t x) (a, jn i) = _
    unfold d_M_stainedBy_4
    dsimp only
    rw [if_pos mq_in10, if_pos (mq_go h g hi), mq_inTub h g hi, ob_s]
    by_cases h2_ : qf L i 8 = jn 1 ∧ qf L i 9 = jn t
    · rw [if_pos h2_, if_neg (by decide), mq_new h g hi, ob_s, if_pos h2_]
      by_cases h3_ : ynew L i (yrunt L t x) = jn 0
      · rw [if_pos h3_, if_pos h3_, ob_s, show d_M_one (jn 0) = some (jn 0) from rfl, ob_s, jn_add]
      · rw [if_neg h3_, if_neg h3_, ob_s, show d_M_one (jn 1) = some (jn 1) from rfl, ob_s, jn_add]
    · rw [if_neg h2_, if_pos rfl, ob_s, if_neg h2_, show d_M_one (jn 0) = some (jn 0) from rfl, ob_s, jn_z, jn_add]
  · show d_M_stainedBy_4 (jn t) I (yrunt L t x) (a, jn (qF L)) = _
    unfold d_M_stainedBy_4
    dsimp only
    rw [if_pos mq_in10, if_neg (mq_end h g)]
  · show some _ = some _
    refine congrArg some ?_
    show jfd _ _ _ = _
    rw [qt_fold g ht (op := fun a i => a + (if ynew L i (yrunt L t x) = jn 0 then jn 0 else jn 1)) (fun z y w => jadd_rc)]
    rfl
theorem mq_dirtBy (h : qM L B (I 242)) (g : qG L) {t : Nat} (ht : t < qT L) (x : Int32) : d_M_dirtBy (jn t) x I = some (yleft L t x) := by
  have h1_ := g.1
  unfold d_M_dirtBy
  refine (zb (z_fl (fun i a => if qf L i 8 = jn 1 ∧ qf L i 9 = jn t then a + yaft L i x else a) (jn 0) (n := qF L) (by omega) (fun i hi a => ?_) (fun a => ?_))).trans ?_
  · show d_M_dirtBy_2 (jn t) x I (a, jn i) = _
    unfold d_M_dirtBy_2
    dsimp only
    rw [if_pos mq_in10, if_pos (mq_go h g hi), mq_inTub h g hi, ob_s]
    by_cases h2_ : qf L i 8 = jn 1 ∧ qf L i 9 = jn t
    · rw [if_pos h2_, if_neg (by decide), mq_after h g hi, ob_s, ob_s, if_pos h2_, jn_add]
    · rw [if_neg h2_, if_pos rfl, ob_s, if_neg h2_, jn_z, jn_add]
  · show d_M_dirtBy_2 (jn t) x I (a, jn (qF L)) = _
    unfold d_M_dirtBy_2
    dsimp only
    rw [if_pos mq_in10, if_neg (mq_end h g)]
  · show some _ = some _
    refine congrArg some ?_
    show jfd _ _ _ = _
    rw [qt_fold g ht (op := fun a i => a + yaft L i x) (fun z y w => jadd_rc)]
    rfl
theorem mq_care (h : qM L B (I 242)) (g : qG L) {t : Nat} (ht : t < qT L) : d_M_leastCare (jn t) I = some (ycare L t) := by
  have h1_ := g.1
  unfold d_M_leastCare
  refine (zb (z_fl (fun i a => if qf L i 8 = jn 1 ∧ qf L i 9 = jn t then z_mn a (qf L i 2) else a) (jn 3) (n := qF L) (by omega) (fun i hi a => ?_) (fun a => ?_))).trans ?_
  · show d_M_leastCare_2 (jn t) I (a, jn i) = _
    unfold d_M_leastCare_2
    dsimp only
    rw [if_pos mq_in10, if_pos (mq_go h g hi), mq_inTub h g hi, ob_s]
    by_cases h2_ : qf L i 8 = jn 1 ∧ qf L i 9 = jn t
    · rw [if_pos h2_, if_neg (by decide), mq_f h g hi (by omega), ob_s, ob_s, if_pos h2_, jn_add]
    · rw [if_neg h2_, if_pos rfl, ob_s, if_neg h2_, jn_add]
  · show d_M_leastCare_2 (jn t) I (a, jn (qF L)) = _
    unfold d_M_leastCare_2
    dsimp only
    rw [if_pos mq_in10, if_neg (mq_end h g)]
  · show some _ = some _
    refine congrArg some ?_
    show jfd _ _ _ = _
    rw [qt_fold g ht (op := fun a i => z_mn a (qf L i 2)) (fun z y w => jmn_rc)]
    rfl
theorem mq_many (h : qM L B (I 242)) (g : qG L) {t : Nat} (ht : t < qT L) : d_M_manyIn (jn t) I = some (jn (qt L t).length) := by rw [mq_manyIn h g, qct_tub g ht]
theorem mq_ofTub3 (h : qM L B (I 242)) (g : qG L) {t : Nat} (ht : t < qT L) : d_M_ofTub (jn t) (jn 3) I = some (ydirt L t) := by
  have h1_ := g.1
  unfold d_M_ofTub
  refine (zb (z_fl (fun i a => if qf L i 8 = jn 1 ∧ qf L i 9 = jn t then a + qf L i 3 else a) (jn 0) (n := qF L) (by omega) (fun i hi a => ?_) (fun a => ?_))).trans ?_
  · show d_M_ofTub_2 (jn t) (jn 3) I (a, jn i) = _
    unfold d_M_ofTub_2
    dsimp only
    rw [if_pos mq_in10, if_pos (mq_go h g hi), mq_inTub h g hi, ob_s]
    by_cases h2_ : qf L i 8 = jn 1 ∧ qf L i 9 = jn t
    · rw [if_pos h2_, if_neg (by decide), if_pos rfl, mq_f h g hi (by omega), ob_s, ob_s, if_pos h2_, jn_add]
    · rw [if_neg h2_, if_pos rfl, ob_s, if_neg h2_, jn_add]
  · show d_M_ofTub_2 (jn t) (jn 3) I (a, jn (qF L)) = _
    unfold d_M_ofTub_2
    dsimp only
    rw [if_pos mq_in10, if_neg (mq_end h g)]
  · show some _ = some _
    refine congrArg some ?_
    show jfd _ _ _ = _
    rw [qt_fold g ht (op := fun a i => a + qf L i 3) (fun z y w => jadd_rc)]
    rfl
theorem mq_ofTub4 (h : qM L B (I 242)) (g : qG L) {t : Nat} (ht : t < qT L) {x : Int32} (hx : ¬ x = jn 3) : d_M_ofTub (jn t) x I = some (ycols L t) := by
  have h1_ := g.1
  unfold d_M_ofTub
  refine (zb (z_fl (fun i a => if qf L i 8 = jn 1 ∧ qf L i 9 = jn t then a ||| qf L i 1 else a) (jn 0) (n := qF L) (by omega) (fun i hi a => ?_) (fun a => ?_))).trans ?_
  · show d_M_ofTub_2 (jn t) x I (a, jn i) = _
    unfold d_M_ofTub_2
    dsimp only
    rw [if_pos mq_in10, if_pos (mq_go h g hi), mq_inTub h g hi, ob_s]
    by_cases h2_ : qf L i 8 = jn 1 ∧ qf L i 9 = jn t
    · rw [if_pos h2_, if_neg (by decide), if_neg hx, mq_f h g hi (by omega), ob_s, ob_s, if_pos h2_, jn_add]
    · rw [if_neg h2_, if_pos rfl, ob_s, if_neg h2_, jn_add]
  · show d_M_ofTub_2 (jn t) x I (a, jn (qF L)) = _
    unfold d_M_ofTub_2
    dsimp only
    rw [if_pos mq_in10, if_neg (mq_end h g)]
  · show some _ = some _
    refine congrArg some ?_
    show jfd _ _ _ = _
    rw [qt_fold g ht (op := fun a i => a ||| qf L i 1) (fun z y w => jor_rc)]
    rfl
end YR
