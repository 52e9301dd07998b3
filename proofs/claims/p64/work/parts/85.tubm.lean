/-! tubs: the reference's loops; running colours on both sides -/
theorem jand_or {x y z : Int32} : x &&& (y ||| z) = (x &&& y) ||| (x &&& z) := Int32.toBitVec_inj.1 BitVec.and_or_distrib_left
theorem jor_and {x y z : Int32} : (x ||| y) &&& z = (x &&& z) ||| (y &&& z) := Int32.toBitVec_inj.1 BitVec.and_or_distrib_right
theorem jnot_or {x y : Int32} : (x ||| y) ^^^ jg 1 = (x ^^^ jg 1) &&& (y ^^^ jg 1) := by
  have e_ : jg 1 = -1 := by decide
  rw [e_, Int32.xor_neg_one, Int32.xor_neg_one, Int32.xor_neg_one]
  exact Int32.toBitVec_inj.1 BitVec.not_or
theorem jor0 (x : Int32) : x ||| jn 0 = x := Int32.or_zero
theorem j0or (x : Int32) : jn 0 ||| x = x := Int32.zero_or
theorem jand0 (x : Int32) : x &&& jn 0 = jn 0 := Int32.and_zero
theorem j0and (x : Int32) : jn 0 &&& x = jn 0 := Int32.zero_and
theorem jn_or64 : ∀ a b : Fin 64, jn a.val ||| jn b.val = jn (a.val ||| b.val) := by decide +kernel
theorem jlt_or {x y : Int32} (hx : jlt x 64) (hy : jlt y 64) : jlt (x ||| y) 64 := by
  obtain ⟨a_, h1_, rfl⟩ := hx
  obtain ⟨b_, h2_, rfl⟩ := hy
  refine ⟨a_ ||| b_, ?_, jn_or64 ⟨a_, h1_⟩ ⟨b_, h2_⟩⟩
  exact Nat.or_lt_two_pow (n := 6) h1_ h2_
theorem jlt_mono {x : Int32} {n m : Nat} (h : n ≤ m) (hx : jlt x n) : jlt x m := by
  obtain ⟨a_, h1_, h2_⟩ := hx
  exact ⟨a_, by omega, h2_⟩
/-- the colours that run at a heat -/
def yrun (L : LL) (x : Int32) : Int32 := jfd (fun c a => if x < qr L c then a else a ||| (jn 1 <<< (jn c &&& 31))) (jn 0) (qC L)
theorem jhas : ∀ (k : Fin 64) (c : Fin 6), (if (jn k.val >>> (jn c.val &&& 31)) &&& jn 1 = jn 1 then jn 1 else jn 0) <<< (jn c.val &&& 31) = jn k.val &&& (jn 1 <<< (jn c.val &&& 31)) := by decide +kernel
theorem jsh0 (c : Int32) : jn 0 <<< c = jn 0 := Int32.zero_shiftLeft
section YR
variable {L : LL} {B : Nat} {I : z_H} {s u : Nat}
theorem sq_cin (g : qG L) {c : Nat} (hc : c < qC L) : z_in (jn c) 6 := by
  have h1_ := g.2.1
  rw [jn_in (by omega)]
  omega
theorem sq_running (h : qS L I s u) (g : qG L) (x : Int32) : d_U_runningWith u x I = some (yrun L x) := by
  have h1_ := g.2.1
  unfold d_U_runningWith
  refine (zb (z_fl (fun c a => if x < qr L c then a else a ||| (jn 1 <<< (jn c &&& 31))) (jn 0) (n := qC L) (by omega) (fun i hi a => ?_) (fun a => ?_))).trans rfl
  · show d_U_runningWith_2 u x I (a, jn i) = _
    unfold d_U_runningWith_2
    dsimp only
    rw [h.2.2.2.1, if_pos (by rw [jn_lt (by omega) (by omega)]; exact hi), if_pos (sq_cin g hi), jn_n (by omega), h.2.2.2.2.2.2.1 i hi, ob_is, ob_s, jn_add]
  · show d_U_runningWith_2 u x I (a, jn (qC L)) = _
    unfold d_U_runningWith_2
    dsimp only
    rw [h.2.2.2.1, if_neg (by rw [jn_lt (by omega) (by omega)]; omega)]
theorem qf_carr (g : qG L) {f : Nat} (hf : f < qF L) : jlt (qf L f 1 ||| qf L f 6) 64 := by
  have h_ := g.2.2.2.2.2.1 f hf
  have h1_ : 2 ^ qC L ≤ 64 := Nat.pow_le_pow_right (n := 2) (by omega) g.2.1
  exact jlt_or (jlt_mono h1_ h_.2.1) (jlt_mono h1_ h_.2.2.2.2.2.2.1)
theorem foldl_and {l : List Nat} {v : Nat → Int32} {m : Int32} : ∀ a, l.foldl (fun a f => a ||| (v f &&& m)) (a &&& m) = (l.foldl (fun a f => a ||| v f) a) &&& m := by
  induction l with
  | nil => intro a; rfl
  | cons b l ih_ =>
    intro a
    show l.foldl _ ((a &&& m) ||| (v b &&& m)) = _
    rw [← jor_and, ih_]
    rfl
/-- what runs in a tub at a heat -/
def yrunt (L : LL) (t : Nat) (x : Int32) : Int32 := ycarr L t &&& yrun L x
theorem sq_runningIn {s : Nat} (h : qS L I (s + 7) (s + 1)) (g : qG L) {t : Nat} (ht : t < qT L) (x : Int32) : d_L_runningIn s (jn t) x I = some (yrunt L t x) := by
  unfold d_L_runningIn
  rw [sq_carriedIn h g ht, ob_s, sq_running h g, ob_s]
  rfl
end YR
