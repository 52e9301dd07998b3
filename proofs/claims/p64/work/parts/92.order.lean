/-! the flags of a tub in their order: on both sides -/
/-- the flag at a place of a tub, else -1 -/
def yin (L : LL) (t : Nat) (x : Int32) : Int32 := if z_in x (qt L t).length then jn ((qt L t)[z_n x]?.getD 0) else jg 1
theorem jlt_as {x y : Int32} (h : x < y) : ¬ y < x := by
  rw [Int32.lt_iff_toInt_lt] at h ⊢
  omega
theorem foldl_no {l : List Nat} {P : Nat → Prop} [DecidablePred P] (h : ∀ f, f ∈ l → ¬ P f) : ∀ a : Int32, l.foldl (fun x f => if P f then x + jn 1 else x) a = a := by
  induction l with
  | nil => intro a; rfl
  | cons b l ih_ =>
    intro a
    show l.foldl _ (if P b then a + jn 1 else a) = a
    rw [if_neg (h b (List.mem_cons_self ..))]
    exact ih_ (fun f hf => h f (List.mem_cons_of_mem _ hf)) a
theorem foldl_ord {o : Nat → Int32} : ∀ {l : List Nat}, l.Pairwise (fun f g => o f < o g) → ∀ (k : Nat) (f : Nat), l[k]? = some f → ∀ a : Nat, l.foldl (fun x i => if o i < o f then x + jn 1 else x) (jn a) = jn (a + k)
  | [], _, k, f, hk, a => by simp at hk
  | b :: l, hp, 0, f, hk, a => by
    have e_ : b = f := by simpa using hk
    have h1_ := List.pairwise_cons.mp hp
    show l.foldl _ (if o b < o f then jn a + jn 1 else jn a) = _
    rw [if_neg (by rw [e_]; exact fun h9_ => jlt_as h9_ h9_)]
    exact foldl_no (P := fun i => o i < o f) (fun i hi => by rw [← e_]; exact jlt_as (h1_.1 i hi)) (jn a)
  | b :: l, hp, k + 1, f, hk, a => by
    have h1_ := List.pairwise_cons.mp hp
    have h2_ : l[k]? = some f := by simpa using hk
    show l.foldl _ (if o b < o f then jn a + jn 1 else jn a) = _
    rw [if_pos (h1_.1 f (List.mem_of_getElem? h2_)), jn_add, foldl_ord h1_.2 k f h2_ (a + 1)]
    congr 1
    omega
section YO
variable {L : LL} {B : Nat} {I : z_H} {s u : Nat}
theorem sq_inT (h : qS L I s u) (g : qG L) {t : Nat} (ht : t < qT L) (x : Int32) : (if x < jn 0 then some (jg 1) else (if z_in (jn t) 3 then (if x < I (s + 14) (z_n (jn t)) then ((d_S_flagInTub s (jn t) x I).bind fun q9 => some q9) else some (jg 1)) else none)) = some (yin L t x) := by
  have h2_ := qt_len g ht
  unfold yin
  rw [if_pos (sq_tin g ht), sq_tn g ht, sq_many h ht]
  by_cases h3_ : z_in x (qt L t).length
  · obtain ⟨m_, hm_, em_⟩ := (jlt_in (by omega)).mp h3_
    rw [if_pos h3_, em_, if_neg (by rw [jn_neg (by omega)]; exact fun h9_ => h9_), if_pos (by rw [jn_lt (by omega) (by omega)]; exact hm_), jn_n (by omega), sq_inTub h g ht (List.getElem?_eq_getElem hm_), ob_s, List.getElem?_eq_getElem hm_]
    rfl
  · rw [if_neg h3_]
    by_cases h4_ : x < jn 0
    · rw [if_pos h4_]
    · by_cases h5_ : x < jn (qt L t).length
      · refine absurd ((jlt_in (by omega)).mpr ⟨z_n x, ?_, ?_⟩) h3_
        · rw [Int32.lt_iff_toInt_lt, jn_toInt (by omega)] at h4_ h5_
          show x.toInt.toNat < _
          omega
        · rw [Int32.lt_iff_toInt_lt, jn_toInt (by omega)] at h4_ h5_
          refine Int32.toInt_inj.mp ?_
          have h6_ : z_n x = x.toInt.toNat := rfl
          rw [jn_toInt (by omega)]
          omega
      · rw [if_neg h4_, if_neg h5_]
end YO
