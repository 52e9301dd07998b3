/-! the first flag that can be put without harm: both sides -/
theorem z_srchR {σ ρ : Type} {f : σ → Option (σ ⊕ ρ)} (R : Nat → σ → Prop) (P : Nat → Prop) [DecidablePred P] (Q : Nat → ρ → Prop) {n : Nat} (hn : n < 100000) {s0 : σ} (h0 : R 0 s0) (hs : ∀ i s, i < n → R i s → P i → ∃ r, f s = some (.inr r) ∧ Q i r) (hs2 : ∀ i s, i < n → R i s → ¬ P i → ∃ s2, f s = some (.inl s2) ∧ R (i + 1) s2) (he : ∀ s, R n s → ∃ r, f s = some (.inr r) ∧ Q n r) : ∃ r, z_it f z_F s0 = some r ∧ Q (qk P n) r := by
  have h_ : ∀ (m i : Nat) (s : σ), i ≤ n → n < m + i → R i s → (∀ j, j < i → ¬ P j) → ∃ r, z_it f m s = some r ∧ Q (qk P n) r := by
    intro m
    induction m with
    | zero => intro i s h1_ h2_ _ _; omega
    | succ m ih_ =>
      intro i s h1_ h2_ h3_ h4_
      unfold z_it
      rcases Nat.lt_or_ge i n with h5_ | h5_
      · by_cases p_ : P i
        · obtain ⟨r_, e_, q_⟩ := hs i s h5_ h3_ p_
          rw [e_, qk_eq h5_ p_ h4_]
          exact ⟨r_, rfl, q_⟩
        · obtain ⟨s2_, e_, q_⟩ := hs2 i s h5_ h3_ p_
          rw [e_]
          refine ih_ (i + 1) s2_ (by omega) (by omega) q_ (fun j hj => ?_)
          by_cases e2_ : j = i
          · rw [e2_]; exact p_
          · exact h4_ j (by omega)
      · have e_ : i = n := by omega
        rw [e_] at h3_ h4_
        obtain ⟨r_, e2_, q_⟩ := he s h3_
        rw [e2_, qk_no h4_]
        exact ⟨r_, rfl, q_⟩
  exact h_ z_F 0 s0 (Nat.zero_le _) (by unfold z_F; omega) h0 (fun j hj => absurd hj (Nat.not_lt_zero _))
def yrnf (L : LL) (f t : Nat) (x : Int32) : Int32 := (ycarr L t ||| (qf L f 1 ||| qf L f 6)) &&& yrun L x
def ysb (L : LL) (t : Nat) (x : Int32) (f : Nat) : Bool := decide (yput L f t = jn 0 ∧ ¬ ycare L t < x ∧ ¬ qf L f 2 < x ∧ ynew L f (yrnf L f t x) = jn 0 ∧ ystn L t (yrnf L f t x) = jn 0)
theorem ysb_eq {L : LL} {t f : Nat} {x : Int32} : (ysb L t x f = true) = (yput L f t = jn 0 ∧ ¬ ycare L t < x ∧ ¬ qf L f 2 < x ∧ ynew L f (yrnf L f t x) = jn 0 ∧ ystn L t (yrnf L f t x) = jn 0) := by
  unfold ysb
  rw [decide_eq_true_eq]
def ysafe (L : LL) (t : Nat) (x : Int32) : Int32 := if qk (fun f => ysb L t x f = true) (qF L) < qF L then jn (qk (fun f => ysb L t x f = true) (qF L)) else jg 1
theorem ystn_n {L : LL} (g : qG L) {t : Nat} (ht : t < qT L) (x : Int32) : ∃ k, k ≤ 6 ∧ ystn L t x = jn k := by
  have h1_ := qt_len g ht
  obtain ⟨k_, _, hk_, e_⟩ := foldl_01 (l := qt L t) (v := fun f => if ynew L f x = jn 0 then jn 0 else jn 1) (fun f => by
    by_cases q_ : ynew L f x = jn 0
    · exact Or.inl (if_pos q_)
    · exact Or.inr (if_neg q_)) 0
  exact ⟨k_, by omega, e_⟩
theorem jmn_lt {a c x : Int32} : z_mn a c < x ↔ (a < x ∨ c < x) := by
  unfold z_mn
  simp only [Int32.lt_iff_toInt_lt]
  by_cases h_ : c.toInt < a.toInt
  · rw [if_pos h_]; omega
  · rw [if_neg h_]; omega
theorem put_new {L : LL} {f t a : Nat} {x : Int32} : ynew (Lput L f t) a x = ynew L a x := by
  unfold ynew
  rw [qf_put (by omega), qf_put (by omega)]
theorem put_care {L : LL} {f t : Nat} : ycare (Lput L f t) t = z_mn (ycare L t) (qf L f 2) := by
  unfold ycare
  rw [qt_put, List.foldl_append]
  have e_ : ∀ a : Int32, (qt L t).foldl (fun a c => z_mn a (qf (Lput L f t) c 2)) a = (qt L t).foldl (fun a c => z_mn a (qf L c 2)) a := foldl_cg (fun c _ a => by rw [qf_put (by omega)])
  rw [e_]
  show z_mn _ (qf (Lput L f t) f 2) = _
  rw [qf_put (by omega)]
theorem put_carr {L : LL} {f t : Nat} : ycarr (Lput L f t) t = ycarr L t ||| (qf L f 1 ||| qf L f 6) := by
  unfold ycarr
  rw [qt_put, List.foldl_append]
  have e_ : ∀ a : Int32, (qt L t).foldl (fun a c => a ||| (qf (Lput L f t) c 1 ||| qf (Lput L f t) c 6)) a = (qt L t).foldl (fun a c => a ||| (qf L c 1 ||| qf L c 6)) a := foldl_cg (fun c _ a => by rw [qf_put (by omega), qf_put (by omega)])
  rw [e_]
  show _ ||| (qf (Lput L f t) f 1 ||| qf (Lput L f t) f 6) = _
  rw [qf_put (by omega), qf_put (by omega)]
theorem put_runt {L : LL} {f t : Nat} {x : Int32} : yrunt (Lput L f t) t x = yrnf L f t x := by
  unfold yrunt yrnf
  rw [put_carr]
  rfl
theorem put_stn {L : LL} {f t : Nat} {x : Int32} : ystn (Lput L f t) t x = ystn L t x + (if ynew L f x = jn 0 then jn 0 else jn 1) := by
  unfold ystn
  rw [qt_put, List.foldl_append]
  have e_ : ∀ a : Int32, (qt L t).foldl (fun a c => a + (if ynew (Lput L f t) c x = jn 0 then jn 0 else jn 1)) a = (qt L t).foldl (fun a c => a + (if ynew L c x = jn 0 then jn 0 else jn 1)) a := foldl_cg (fun c _ a => by rw [put_new])
  rw [e_]
  show _ + (if ynew (Lput L f t) f x = jn 0 then jn 0 else jn 1) = _
  rw [put_new]
theorem put_wash {L : LL} (g : qG L) {f t : Nat} (ht : t < qT L) {x : Int32} : ywash (Lput L f t) t x = if ycare L t < x ∨ qf L f 2 < x then jn 2 else jn 0 := by
  have h1_ := qt_len g ht
  unfold ywash
  rw [put_care, qt_put, List.length_append, if_neg (show ¬ jn ((qt L t).length + [f].length) = jn 0 by
    show ¬ jn ((qt L t).length + 1) = jn 0
    rw [jn_eq (by omega) (by omega)]
    omega)]
  by_cases q_ : ycare L t < x ∨ qf L f 2 < x
  · rw [if_pos q_, if_pos (jmn_lt.mpr q_)]
  · rw [if_neg q_, if_neg (fun k_ => q_ (jmn_lt.mp k_))]
section SAF
variable {L : LL} {B : Nat} {I : z_H} {s f t : Nat}
theorem sq_safeWith (h : qS L I (s + 7) (s + 1)) (g : qG L) (hf : f < qF L) (ht : t < qT L) (x : Int32) : d_L_isSafeWith s (s + 7 + 2 + f) (jn t) x I = some (if ¬ qf L f 2 < x ∧ ynew L f (yrnf L f t x) = jn 0 ∧ ystn L t (yrnf L f t x) = jn 0 then jn 1 else jn 0) := by
  unfold d_L_isSafeWith
  rw [sq_carriedIn h g ht, ob_s, sq_carried h hf, ob_s, sq_running h g, ob_s, sq_bears h hf, ob_s, sq_new h hf, sq_stained h g ht]
  show Option.bind (if (if qf L f 2 < x then jn 0 else jn 1) = jn 0 then some (jn 0) else (Option.bind (some (ynew L f (yrnf L f t x))) fun q13 => (if q13 = jn 0 then (Option.bind (some (ystn L t (yrnf L f t x))) fun q15 => (if q15 = jn 0 then some ((jn 1)) else some ((jn 0)))) else some ((jn 0))))) _ = _
  rw [ob_s, ob_s]
  by_cases h1_ : qf L f 2 < x
  · rw [if_pos h1_, if_pos rfl, ob_s, if_pos (Or.inl rfl), if_neg (fun q_ => q_.1 h1_)]
  · rw [if_neg h1_, if_neg (show ¬ jn 1 = jn 0 by decide)]
    by_cases h2_ : ynew L f (yrnf L f t x) = jn 0
    · rw [if_pos h2_]
      by_cases h3_ : ystn L t (yrnf L f t x) = jn 0
      · rw [if_pos h3_, ob_s, if_pos (Or.inr rfl), if_pos ⟨h1_, h2_, h3_⟩]
      · rw [if_neg h3_, ob_s, if_pos (Or.inl rfl), if_neg (fun q_ => h3_ q_.2.2)]
    · rw [if_neg h2_, ob_s, if_pos (Or.inl rfl), if_neg (fun q_ => h2_ q_.2.1)]
theorem sq_safe (h : qS L I (s + 7) (s + 1)) (g : qG L) (ht : t < qT L) (x : Int32) : d_L_firstSafeFor s (jn t) x I = some (ysafe L t x) := by
  have h1_ := g.1
  unfold d_L_firstSafeFor
  rw [sq_care h g ht, ob_s]
  by_cases c_ : ycare L t < x
  · rw [if_pos c_]
    unfold ysafe
    rw [if_neg (show ¬ qk (fun f => ysb L t x f = true) (qF L) < qF L by
      rw [qk_no (fun i _ q_ => by rw [ysb_eq] at q_; exact q_.2.1 c_)]
      exact Nat.lt_irrefl _)]
  · rw [if_neg c_]
    refine (z_srch (f := d_L_firstSafeFor_4 s (jn t) x I) (fun f => ysb L t x f = true) (fun f => jn f) (jg 1) (n := qF L) (by omega) (fun i hi => ?_) ?_).trans rfl
    · unfold d_L_firstSafeFor_4
      rw [if_pos (sq_go h g hi), sq_put h g hi ht, ob_s]
      by_cases p_ : yput L i t = jn 0
      · rw [if_pos p_, if_pos (sq_in g hi), sq_n g hi, sq_safeWith h g hi ht, ob_s]
        by_cases w_ : ¬ qf L i 2 < x ∧ ynew L i (yrnf L i t x) = jn 0 ∧ ystn L t (yrnf L i t x) = jn 0
        · rw [if_pos w_, if_neg (show ¬ jn 1 = jn 0 by decide), if_pos (by rw [ysb_eq]; exact ⟨p_, c_, w_⟩)]
        · rw [if_neg w_, if_pos rfl, if_neg (fun q_ => by rw [ysb_eq] at q_; exact w_ q_.2.2), jn_add]
      · rw [if_neg p_, if_neg (fun q_ => by rw [ysb_eq] at q_; exact p_ q_.1), jn_add]
    · unfold d_L_firstSafeFor_4
      rw [if_neg (sq_end h g)]
theorem mq_isSafe (h : qM L B (I 242)) (g : qG L) (hB : B + 1 < 100000) (hf : f < qF L) (ht : t < qT L) (x : Int32) : ∃ J, d_M_isSafe (jn f) (jn t) x I = some (if ysb L t x f = true then jn 1 else jn 0, J) ∧ WK I J := by
  have wk0_ : WK I I := ⟨fun _ _ => rfl, fun _ _ _ => rfl⟩
  unfold d_M_isSafe
  rw [mq_put h g hf ht, ob_s]
  by_cases p_ : yput L f t = jn 0
  · rw [if_pos p_]
    have h0_ : qf L f 8 = jn 0 := by
      unfold yput at p_
      by_cases q_ : qf L f 8 = jn 0
      · exact q_
      · rw [if_neg q_] at p_
        exact absurd p_ (by decide)
    have hr_ : jn (qt L t).length < qo L t := by
      unfold yput at p_
      rw [if_pos h0_] at p_
      by_cases q_ : jn (qt L t).length < qo L t
      · exact q_
      · rw [if_neg q_] at p_
        exact absurd p_ (by decide)
    have g2_ := qG_put g hf ht h0_ hr_
    obtain ⟨J1_, e1_, f1_, c1_⟩ := mq_thinks (I := I)
    have m1_ : qM L B (J1_ 242) := by rw [f1_ 242 (by omega)]; exact h
    obtain ⟨J2_, e2_, w2_, f2_⟩ := mq_putsInto m1_ g hB hf ht h0_
    have ht2_ : t < qT (Lput L f t) := ht
    obtain ⟨k_, hk_, ek_⟩ := ystn_n g ht (yrnf L f t x)
    obtain ⟨J3_, e3_, w3_⟩ := mq_thought (x := ywash (Lput L f t) t x + ystn (Lput L f t) t (yrunt (Lput L f t) t x)) f1_ c1_ f2_
    rw [e1_, ob_s, e2_, ob_s, mq_wash w2_ g2_ ht2_, ob_s, mq_stained w2_ g2_ ht2_, ob_s, e3_, ob_s]
    refine ⟨J3_, ?_, w3_⟩
    dsimp only
    rw [put_wash g ht, put_runt, put_stn, ek_]
    by_cases a_ : ycare L t < x ∨ qf L f 2 < x
    · rw [if_pos a_, if_neg (show ¬ ysb L t x f = true from fun q_ => by
        rw [ysb_eq] at q_
        exact a_.elim q_.2.1 q_.2.2.1)]
      by_cases n_ : ynew L f (yrnf L f t x) = jn 0
      · rw [if_pos n_, jn_add, jn_add, if_neg (by rw [jn_eq (by omega) (by omega)]; omega), ob_s, if_pos (Or.inl rfl)]
      · rw [if_neg n_, jn_add, jn_add, if_neg (by rw [jn_eq (by omega) (by omega)]; omega), ob_s, if_pos (Or.inl rfl)]
    · rw [if_neg a_]
      by_cases n_ : ynew L f (yrnf L f t x) = jn 0
      · rw [if_pos n_, jn_add, jn_add]
        by_cases k0_ : k_ = 0
        · rw [if_pos (by rw [k0_]), if_pos (show ysb L t x f = true by
            rw [ysb_eq]
            exact ⟨p_, fun q_ => a_ (Or.inl q_), fun q_ => a_ (Or.inr q_), n_, by rw [ek_, k0_]⟩), ob_s, if_pos (Or.inr rfl)]
        · rw [if_neg (by rw [jn_eq (by omega) (by omega)]; omega), if_neg (show ¬ ysb L t x f = true from fun q_ => by
            rw [ysb_eq, ek_, jn_eq (by omega) (by omega)] at q_
            exact k0_ q_.2.2.2.2), ob_s, if_pos (Or.inl rfl)]
      · rw [if_neg n_, jn_add, jn_add, if_neg (by rw [jn_eq (by omega) (by omega)]; omega), if_neg (show ¬ ysb L t x f = true from fun q_ => by
            rw [ysb_eq] at q_
            exact n_ q_.2.2.2.1), ob_s, if_pos (Or.inl rfl)]
  · rw [if_neg p_, if_neg (show ¬ ysb L t x f = true from fun q_ => by rw [ysb_eq] at q_; exact p_ q_.1)]
    exact ⟨I, rfl, wk0_⟩
theorem mq_safe (h : qM L B (I 242)) (g : qG L) (hB : B + 1 < 100000) (ht : t < qT L) (x : Int32) : ∃ J, z_it (d_M_firstSafe_4 (jn t) x) z_F (jn 0, I) = some (ysafe L t x, J) ∧ WK I J := by
  have h1_ := g.1
  have z9_ := z_srchR (f := d_M_firstSafe_4 (jn t) x) (s0 := (jn 0, I)) (fun (i : Nat) (p : Int32 × z_H) => p.1 = jn i ∧ WK I p.2) (fun f => ysb L t x f = true) (fun (i : Nat) (r : Int32 × z_H) => r.1 = (if i < qF L then jn i else jg 1) ∧ WK I r.2) (n := qF L) (by omega) ⟨rfl, fun _ _ => rfl, fun _ _ _ => rfl⟩ (fun i p hi hp hP => ?_) (fun i p hi hp hP => ?_) (fun p hp => ?_)
  · obtain ⟨r_, e_, e2_, w_⟩ := z9_
    exact ⟨r_.2, by rw [e_]; unfold ysafe; rw [← e2_], w_⟩
  · obtain ⟨e1_, w_⟩ := hp
    have m_ := WK_M h g w_
    obtain ⟨J_, e_, w2_⟩ := mq_isSafe m_ g hB hi ht x
    unfold d_M_firstSafe_4
    rw [e1_, if_pos mq_in10, if_pos (mq_go m_ g hi), e_, ob_s]
    dsimp only
    rw [if_pos hP, if_neg (show ¬ jn 1 = jn 0 by decide)]
    exact ⟨_, rfl, (if_pos hi).symm, fun k hk => (w2_.1 k hk).trans (w_.1 k hk), fun c h1 h2 => (w2_.2 c h1 h2).trans (w_.2 c h1 h2)⟩
  · obtain ⟨e1_, w_⟩ := hp
    have m_ := WK_M h g w_
    obtain ⟨J_, e_, w2_⟩ := mq_isSafe m_ g hB hi ht x
    unfold d_M_firstSafe_4
    rw [e1_, if_pos mq_in10, if_pos (mq_go m_ g hi), e_, ob_s]
    dsimp only
    rw [if_neg hP, if_pos rfl]
    exact ⟨_, rfl, jn_add i 1, fun k hk => (w2_.1 k hk).trans (w_.1 k hk), fun c h1 h2 => (w2_.2 c h1 h2).trans (w_.2 c h1 h2)⟩
  · obtain ⟨e1_, w_⟩ := hp
    have m_ := WK_M h g w_
    unfold d_M_firstSafe_4
    rw [e1_, if_pos mq_in10, if_neg (mq_end m_ g)]
    exact ⟨_, rfl, (if_neg (Nat.lt_irrefl _)).symm, w_⟩
end SAF
