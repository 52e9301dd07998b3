/-! the flags of a tub in their order: on both sides -/
/-- the flag at a place of a tub, else -1 -/
def yin (L : LL) (t : Nat) (x : Int32) : Int32 := if z_in x (qt L t).length then jn ((qt L t)[z_n x]?.getD 0) else jg 1
theorem jlt_as {x y : Int32} (h : x < y) : ¬ y < x := by
  rw [Int32.lt_iff_toInt_lt] at h ⊢
  omega
theorem foldl_no {l : List Nat} {P : Nat → Prop} [DecidablePred P] (h : ∀ f, f ∈ l → ¬ P f) : ∀ a : Int32, l.foldl (fun x f => if P f then x + jn 1 else x) a = a := by
  induction l with
  | nil => intro a; rfl
  | cons b l ih_ =>
    intro a
    show l.foldl _ (if P b then a + jn 1 else a) = a
    rw [if_neg (h b (List.mem_cons_self ..))]
    exact ih_ (fun f hf => h f (List.mem_cons_of_mem _ hf)) a
theorem foldl_ord {o : Nat → Int32} : ∀ {l : List Nat}, l.Pairwise (fun f g => o f < o g) → ∀ (k : Nat) (f : Nat), l[k]? = some f → ∀ a : Nat, l.foldl (fun x i => if o i < o f then x + jn 1 else x) (jn a) = jn (a + k)
  | [], _, k, f, hk, a => by simp at hk
  | b :: l, hp, 0, f, hk, a => by
    have e_ : b = f := by simpa using hk
    have h1_ := List.pairwise_cons.mp hp
    show l.foldl _ (if o b < o f then jn a + jn 1 else jn a) = _
    rw [if_neg (by rw [e_]; exact fun h9_ => jlt_as h9_ h9_)]
    exact foldl_no (P := fun i => o i < o f) (fun i hi => by rw [← e_]; exact jlt_as (h1_.1 i hi)) (jn a)
  | b :: l, hp, k + 1, f, hk, a => by
    have h1_ := List.pairwise_cons.mp hp
    have h2_ : l[k]? = some f := by simpa using hk
    show l.foldl _ (if o b < o f then jn a + jn 1 else jn a) = _
    rw [if_pos (h1_.1 f (List.mem_of_getElem? h2_)), jn_add, foldl_ord h1_.2 k f h2_ (a + 1)]
    congr 1
    omega
section YO
variable {L : LL} {B : Nat} {I : z_H} {s u : Nat}
theorem mq_ahead (h : qM L B (I 242)) (g : qG L) {t f k : Nat} (ht : t < qT L) (hk : (qt L t)[k]? = some f) : d_M_ahead (jn f) I = some (jn k) := by
  have h1_ := g.1
  obtain ⟨hf_, h2_, h3_⟩ := qt_lt g ht hk
  obtain ⟨p_, hp1_, hp2_, hp3_⟩ := h.2.2.2.2.2.2.2.2.2.2.2
  have h4_ := (hp3_ t ht).2
  unfold d_M_ahead
  refine (zb (z_fl (fun i a => if qf L i 8 = jn 1 ∧ qf L i 9 = jn t then (if I 242 (41 + 11 * i + 10) < I 242 (41 + 11 * f + 10) then a + jn 1 else a) else a) (jn 0) (n := qF L) (by omega) (fun i hi a => ?_) (fun a => ?_))).trans ?_
  · show d_M_ahead_2 (jn f) I (a, jn i) = _
    unfold d_M_ahead_2
    dsimp only
    rw [if_pos mq_in10, if_pos (mq_go h g hi), mq_f h g hf_ (by omega), ob_s, mq_inTub h g hi, ob_s, h3_, mq_ofFlag (by omega) (by omega), ob_s, mq_ofFlag (by omega) (by omega), ob_s]
    by_cases h5_ : qf L i 8 = jn 1 ∧ qf L i 9 = jn t
    · rw [if_pos h5_, if_neg (by decide), if_pos h5_]
      by_cases h6_ : I 242 (41 + 11 * i + 10) < I 242 (41 + 11 * f + 10)
      · rw [if_pos h6_, ob_s, show d_M_one (jn 1) = some (jn 1) from rfl, ob_s, if_pos h6_, jn_add]
      · rw [if_neg h6_, ob_s, show d_M_one (jn 0) = some (jn 0) from rfl, ob_s, if_neg h6_, jn_z, jn_add]
    · rw [if_neg h5_, if_pos rfl, ob_s, show d_M_one (jn 0) = some (jn 0) from rfl, ob_s, if_neg h5_, jn_z, jn_add]
  · show d_M_ahead_2 (jn f) I (a, jn (qF L)) = _
    unfold d_M_ahead_2
    dsimp only
    rw [if_pos mq_in10, if_neg (mq_end h g)]
  · show some _ = some _
    refine congrArg some ?_
    show jfd _ _ _ = _
    rw [qt_fold g ht (op := fun a i => if I 242 (41 + 11 * i + 10) < I 242 (41 + 11 * f + 10) then a + jn 1 else a) (fun z x y => by
      by_cases h5_ : I 242 (41 + 11 * x + 10) < I 242 (41 + 11 * f + 10)
      · by_cases h6_ : I 242 (41 + 11 * y + 10) < I 242 (41 + 11 * f + 10)
        · simp only [if_pos h5_, if_pos h6_]
        · simp only [if_pos h5_, if_neg h6_]
      · simp only [if_neg h5_])]
    rw [foldl_ord (o := fun i => I 242 (41 + 11 * i + 10)) h4_ k f hk 0, Nat.zero_add]
theorem mq_flagIn (h : qM L B (I 242)) (g : qG L) {t : Nat} (ht : t < qT L) (x : Int32) : d_M_flagIn (jn t) x I = some (yin L t x) := by
  have h1_ := g.1
  have h2_ := qt_len g ht
  unfold d_M_flagIn
  refine (z_srch (fun i => z_in x (qt L t).length ∧ (qt L t)[z_n x]? = some i) (fun i => jn i) (jg 1) (n := qF L) (by omega) (fun i hi => ?_) ?_).trans ?_
  · unfold d_M_flagIn_2
    rw [if_pos mq_in10, if_pos (mq_go h g hi), mq_inTub h g hi, ob_s, jn_add]
    by_cases h3_ : qf L i 8 = jn 1 ∧ qf L i 9 = jn t
    · rw [if_pos h3_, if_neg (by decide)]
      have h4_ : i ∈ qt L t := ((g.2.2.2.2.2.2.2.1 t ht).2.2 i).mpr ⟨hi, h3_.1, h3_.2⟩
      obtain ⟨k_, hk_⟩ := List.getElem?_of_mem h4_
      have h5_ := (List.getElem?_eq_some_iff.mp hk_).1
      rw [mq_ahead h g ht hk_, ob_s]
      by_cases h6_ : jn k_ = x
      · rw [if_pos h6_, if_pos ⟨by rw [← h6_, jn_in (by omega)]; exact h5_, by rw [← h6_, jn_n (by omega)]; exact hk_⟩]
      · rw [if_neg h6_, if_neg (fun h9_ => h6_ ?_)]
        obtain ⟨m_, hm_, em_⟩ := (jlt_in (by omega)).mp h9_.1
        have h7_ := h9_.2
        rw [em_, jn_n (by omega)] at h7_
        have h8_ := mq_ahead h g ht h7_
        rw [mq_ahead h g ht hk_] at h8_
        rw [em_]
        exact Option.some.inj h8_
    · rw [if_neg h3_, if_pos rfl, if_neg (fun h9_ => h3_ (qt_lt g ht h9_.2).2)]
  · unfold d_M_flagIn_2
    rw [if_pos mq_in10, if_neg (mq_end h g)]
  · unfold yin
    by_cases h3_ : z_in x (qt L t).length
    · obtain ⟨m_, hm_, em_⟩ := (jlt_in (by omega)).mp h3_
      obtain ⟨i_, hi_⟩ : ∃ i, (qt L t)[z_n x]? = some i := by
        rw [em_, jn_n (by omega)]
        exact ⟨(qt L t)[m_], List.getElem?_eq_getElem hm_⟩
      have h4_ := (qt_lt g ht hi_).1
      have e_ : qk (fun i => z_in x (qt L t).length ∧ (qt L t)[z_n x]? = some i) (qF L) = i_ := qk_eq h4_ ⟨h3_, hi_⟩ (fun j hj h9_ => by
        have h8_ := h9_.2
        rw [hi_] at h8_
        have h7_ := Option.some.inj h8_
        omega)
      rw [e_, if_pos h4_, if_pos h3_, hi_]
      rfl
    · rw [qk_no (fun i _ h9_ => h3_ h9_.1), if_neg (Nat.lt_irrefl _), if_neg h3_]
theorem sq_inT (h : qS L I s u) (g : qG L) {t : Nat} (ht : t < qT L) (x : Int32) : (if x < jn 0 then some (jg 1) else (if z_in (jn t) 3 then (if x < I (s + 14) (z_n (jn t)) then ((d_S_flagInTub s (jn t) x I).bind fun q9 => some q9) else some (jg 1)) else none)) = some (yin L t x) := by
  have h2_ := qt_len g ht
  unfold yin
  rw [if_pos (sq_tin g ht), sq_tn g ht, sq_many h ht]
  by_cases h3_ : z_in x (qt L t).length
  · obtain ⟨m_, hm_, em_⟩ := (jlt_in (by omega)).mp h3_
    rw [if_pos h3_, em_, if_neg (by rw [jn_neg (by omega)]; exact fun h9_ => h9_), if_pos (by rw [jn_lt (by omega) (by omega)]; exact hm_), jn_n (by omega), sq_inTub h g ht (List.getElem?_eq_getElem hm_), ob_s, List.getElem?_eq_getElem hm_]
    rfl
  · rw [if_neg h3_]
    by_cases h4_ : x < jn 0
    · rw [if_pos h4_]
    · by_cases h5_ : x < jn (qt L t).length
      · refine absurd ((jlt_in (by omega)).mpr ⟨z_n x, ?_, ?_⟩) h3_
        · rw [Int32.lt_iff_toInt_lt, jn_toInt (by omega)] at h4_ h5_
          show x.toInt.toNat < _
          omega
        · rw [Int32.lt_iff_toInt_lt, jn_toInt (by omega)] at h4_ h5_
          refine Int32.toInt_inj.mp ?_
          have h6_ : z_n x = x.toInt.toNat := rfl
          rw [jn_toInt (by omega)]
          omega
      · rw [if_neg h4_, if_neg h5_]
end YO
