/-! the best heat; which flag lies where in a tub: on both sides -/
def yhs (L : LL) (t : Nat) (x : Int32) : Int32 := ystn L t (yrunt L t x)
theorem foldl_01 {l : List Nat} {v : Nat → Int32} (h : ∀ f, v f = jn 0 ∨ v f = jn 1) : ∀ a, ∃ k, a ≤ k ∧ k ≤ a + l.length ∧ l.foldl (fun x f => x + v f) (jn a) = jn k := by
  induction l with
  | nil => intro a; exact ⟨a, Nat.le_refl _, Nat.le_refl _, rfl⟩
  | cons b l ih_ =>
    intro a
    rcases h b with e_ | e_
    · obtain ⟨k_, h1_, h2_, h3_⟩ := ih_ a
      refine ⟨k_, h1_, by rw [List.length_cons]; omega, ?_⟩
      show l.foldl _ (jn a + v b) = _
      rw [e_, jn_z]
      exact h3_
    · obtain ⟨k_, h1_, h2_, h3_⟩ := ih_ (a + 1)
      refine ⟨k_, by omega, by rw [List.length_cons]; omega, ?_⟩
      show l.foldl _ (jn a + v b) = _
      rw [e_, jn_add]
      exact h3_
theorem yhs_n {L : LL} (g : qG L) {t : Nat} (ht : t < qT L) (x : Int32) : ∃ k, k < 7 ∧ yhs L t x = jn k := by
  have h1_ := qt_len g ht
  obtain ⟨k_, _, h2_, h3_⟩ := foldl_01 (l := qt L t) (v := fun f => if ynew L f (yrunt L t x) = jn 0 then jn 0 else jn 1) (fun f => by
    by_cases h_ : ynew L f (yrunt L t x) = jn 0
    · exact Or.inl (if_pos h_)
    · exact Or.inr (if_neg h_)) 0
  exact ⟨k_, by omega, h3_⟩
theorem jsub7 : ∀ a b : Fin 7, (jn a.val - jn b.val < jn 0 ↔ jn a.val < jn b.val) ∧ (jn a.val - jn b.val = jn 0 ↔ jn a.val = jn b.val) := by
  have h_ : ∀ a b : Fin 7, decide (jn a.val - jn b.val < jn 0) = decide (jn a.val < jn b.val) ∧ decide (jn a.val - jn b.val = jn 0) = decide (jn a.val = jn b.val) := by decide +kernel
  intro a b
  exact ⟨decide_eq_decide.mp (h_ a b).1, decide_eq_decide.mp (h_ a b).2⟩
theorem jmn_4 {x y : Int32} (hx : jlt x 4) (hy : jlt y 4) : jlt (z_mn x y) 4 := by
  unfold z_mn
  by_cases h_ : y < x
  · rw [if_pos h_]; exact hy
  · rw [if_neg h_]; exact hx
theorem ycare_4 {L : LL} (g : qG L) {t : Nat} (ht : t < qT L) : jlt (ycare L t) 4 := by
  have e_ : ∀ (l : List Nat) (a : Int32), jlt a 4 → (∀ f, f ∈ l → f < qF L) → jlt (l.foldl (fun a f => z_mn a (qf L f 2)) a) 4 := by
    intro l
    induction l with
    | nil => intro a h1 _; exact h1
    | cons b l ih_ =>
      intro a h1 h2
      exact ih_ _ (jmn_4 h1 ((g.2.2.2.2.2.1 b (h2 b (List.mem_cons_self ..))).2.2.1)) (fun f hf => h2 f (List.mem_cons_of_mem _ hf))
  exact e_ (qt L t) (jn 3) ⟨3, by omega, rfl⟩ (fun f hf => (((g.2.2.2.2.2.2.2.1 t ht).2.2 f).mp hf).1)
/-- the better of two heats -/
def ybet (L : LL) (t : Nat) (x y : Int32) : Bool := decide (yhs L t x < yhs L t y) || (decide (yhs L t x = yhs L t y) && decide (yleft L t x < yleft L t y))
def yhst (L : LL) (t : Nat) (i : Nat) (a : Int32) : Int32 := if ybet L t (jn (i + 1)) a = true then jn (i + 1) else a
def ybhl (L : LL) (t : Nat) : Int32 := jfd (yhst L t) (jn 0) (z_n (ycare L t))
def ybh (L : LL) (t : Nat) : Int32 := if jn (qt L t).length = jn 0 then jg 1 else ybhl L t
section YW
variable {L : LL} {B : Nat} {I : z_H} {s : Nat}
theorem mq_better (h : qM L B (I 242)) (g : qG L) {t : Nat} (ht : t < qT L) (x y : Int32) : d_M_isBetterHeat (jn t) x y I = some (if ybet L t x y = true then jn 1 else jn 0) := by
  obtain ⟨a_, ha_, ea_⟩ := yhs_n g ht x
  obtain ⟨b_, hb_, eb_⟩ := yhs_n g ht y
  have h1_ := jsub7 ⟨a_, ha_⟩ ⟨b_, hb_⟩
  unfold d_M_isBetterHeat ybet
  rw [mq_stained h g ht, ob_s, mq_stained h g ht, ob_s, mq_dirtBy h g ht, ob_s, mq_dirtBy h g ht, ob_s]
  show Option.bind (if yhs L t x - yhs L t y < jn 0 then some (jn 1) else if yhs L t x - yhs L t y = jn 0 then (if yleft L t x < yleft L t y then some (jn 1) else some (jn 0)) else some (jn 0)) _ = _
  rw [ea_, eb_]
  simp only [h1_.1, h1_.2, Bool.or_eq_true, Bool.and_eq_true, decide_eq_true_eq]
  by_cases h2_ : jn a_ < jn b_
  · rw [if_pos h2_, ob_s, if_pos (Or.inr rfl), if_pos (Or.inl h2_)]
  · rw [if_neg h2_]
    by_cases h3_ : jn a_ = jn b_
    · rw [if_pos h3_]
      by_cases h4_ : yleft L t x < yleft L t y
      · rw [if_pos h4_, ob_s, if_pos (Or.inr rfl), if_pos (Or.inr ⟨h3_, h4_⟩)]
      · rw [if_neg h4_, ob_s, if_pos (Or.inl rfl), if_neg (fun h9_ => h9_.elim h2_ (fun h8_ => h4_ h8_.2))]
    · rw [if_neg h3_, ob_s, if_pos (Or.inl rfl), if_neg (fun h9_ => h9_.elim h2_ (fun h8_ => h3_ h8_.1))]
theorem sq_best (h : qS L I (s + 7) (s + 1)) (g : qG L) {t : Nat} (ht : t < qT L) : d_L_bestHeatFor s (jn t) I = some (ybh L t) := by
  obtain ⟨c_, hc_, ec_⟩ := ycare_4 g ht
  unfold d_L_bestHeatFor ybh
  rw [if_pos (sq_tin g ht), sq_tn g ht, sq_many h ht, sq_runningIn h g ht, ob_s, sq_stained h g ht, ob_s, sq_care h g ht, ob_s, ec_]
  have e9_ : z_it (d_L_bestHeatFor_9 s (jn t) I (jn c_)) z_F (jn 0, ystn L t (yrunt L t (jn 0)), jn 1) = some (ybhl L t, yhs L t (ybhl L t), jn (c_ + 1)) := by
    unfold ybhl
    rw [ec_, jn_n (by omega)]
    refine z_for0 (fun i => (jfd (yhst L t) (jn 0) i, yhs L t (jfd (yhst L t) (jn 0) i), jn (i + 1))) c_ (by omega) (fun i hi => ?_) ?_
    · show d_L_bestHeatFor_9 s (jn t) I (jn c_) (jfd (yhst L t) (jn 0) i, yhs L t (jfd (yhst L t) (jn 0) i), jn (i + 1)) = _
      rw [jfd_s]
      generalize jfd (yhst L t) (jn 0) i = a_
      unfold d_L_bestHeatFor_9 yhst ybet
      dsimp only
      rw [if_neg (by rw [jn_lt (by omega) (by omega)]; omega), sq_runningIn h g ht, ob_s, sq_stained h g ht, ob_s, sq_dirtLeft h g ht, ob_s, sq_dirtLeft h g ht, ob_s, jn_add]
      show Option.bind (if yhs L t (jn (i + 1)) < yhs L t a_ then some (jn (i + 1), yhs L t (jn (i + 1))) else if yhs L t (jn (i + 1)) = yhs L t a_ then (if yleft L t (jn (i + 1)) < yleft L t a_ then some (jn (i + 1), yhs L t (jn (i + 1))) else some (a_, yhs L t a_)) else some (a_, yhs L t a_)) _ = _
      simp only [Bool.or_eq_true, Bool.and_eq_true, decide_eq_true_eq]
      by_cases h2_ : yhs L t (jn (i + 1)) < yhs L t a_
      · rw [if_pos h2_, ob_s, if_pos (Or.inl h2_)]
      · rw [if_neg h2_]
        by_cases h3_ : yhs L t (jn (i + 1)) = yhs L t a_
        · rw [if_pos h3_]
          by_cases h4_ : yleft L t (jn (i + 1)) < yleft L t a_
          · rw [if_pos h4_, ob_s, if_pos (Or.inr ⟨h3_, h4_⟩)]
          · rw [if_neg h4_, ob_s, if_neg (fun h9_ => h9_.elim h2_ (fun h8_ => h4_ h8_.2))]
        · rw [if_neg h3_, ob_s, if_neg (fun h9_ => h9_.elim h2_ (fun h8_ => h3_ h8_.1))]
    · show d_L_bestHeatFor_9 s (jn t) I (jn c_) (jfd (yhst L t) (jn 0) c_, yhs L t (jfd (yhst L t) (jn 0) c_), jn (c_ + 1)) = _
      unfold d_L_bestHeatFor_9
      dsimp only
      rw [if_pos (by rw [jn_lt (by omega) (by omega)]; omega)]
  rw [e9_, ob_s, ob_is]
theorem mq_best {q : Int32 × z_H} (h : qM L B (q.2 242)) (g : qG L) {t : Nat} (ht : t < qT L) : ∃ e, z_it (d_M_bestHeat_6 (jn t) q) z_F (jn 0, jn 1) = some (ybhl L t, e) := by
  obtain ⟨c_, hc_, ec_⟩ := ycare_4 g ht
  refine ⟨jn (c_ + 1), ?_⟩
  unfold ybhl
  rw [ec_, jn_n (by omega)]
  refine z_for0 (fun i => (jfd (yhst L t) (jn 0) i, jn (i + 1))) c_ (by omega) (fun i hi => ?_) ?_
  · show d_M_bestHeat_6 (jn t) q (jfd (yhst L t) (jn 0) i, jn (i + 1)) = _
    rw [jfd_s]
    generalize jfd (yhst L t) (jn 0) i = a_
    unfold d_M_bestHeat_6 yhst
    dsimp only
    rw [mq_care h g ht, ob_s, ec_, if_neg (by rw [jn_lt (by omega) (by omega)]; omega), mq_better h g ht, ob_s, jn_add]
    by_cases h2_ : ybet L t (jn (i + 1)) a_ = true
    · rw [if_pos h2_, if_neg (by decide), ob_s, if_pos h2_]
    · rw [if_neg h2_, if_pos rfl, ob_s, if_neg h2_]
  · show d_M_bestHeat_6 (jn t) q (jfd (yhst L t) (jn 0) c_, jn (c_ + 1)) = _
    unfold d_M_bestHeat_6
    dsimp only
    rw [mq_care h g ht, ob_s, ec_, if_pos (by rw [jn_lt (by omega) (by omega)]; omega)]
end YW
