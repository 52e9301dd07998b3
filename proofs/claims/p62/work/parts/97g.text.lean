/-! texts: what both sides write -/
def wT (w : List Nat) (I : z_H) : Prop := I 239 0 = jn w.length ∧ w.length ≤ 60 ∧ ∀ (i c : Nat), w[i]? = some c → I 240 i = jn c
def wM (w : List Nat) (I : z_H) : Prop := I 241 19 = jn w.length ∧ w.length ≤ 60 ∧ ∀ (i c : Nat), w[i]? = some c → I 249 i = jn c
def tT (w : List Nat) (I J : z_H) : Prop := wT w J ∧ ∀ b, ¬ b = 239 → ¬ b = 240 → J b = I b
def tM (w : List Nat) (I J : z_H) : Prop := wM w J ∧ (∀ b, ¬ b = 241 → ¬ b = 249 → J b = I b) ∧ ∀ k, ¬ k = 19 → J 241 k = I 241 k
theorem jbyte : ∀ c : Fin 128, vp_nar .byte ((jn c.val).toInt8.toInt32) = jn c.val := by decide +kernel
def jnum (v : Nat) : List Nat := if v < 10 then [48 + v] else [48 + v / 10, 48 + v % 10]
theorem jnum_le {v : Nat} : 1 ≤ (jnum v).length ∧ (jnum v).length ≤ 2 := by
  unfold jnum
  by_cases h_ : v < 10
  · rw [if_pos h_]
    show 1 ≤ 1 ∧ 1 ≤ 2
    omega
  · rw [if_neg h_]
    show 1 ≤ 2 ∧ 2 ≤ 2
    omega
theorem jnum_1 {v : Nat} (h : v < 10) : (jnum v).length = 1 := by
  unfold jnum
  rw [if_pos h]
  rfl
theorem jdig : ∀ v : Fin 100, jn 48 + jn v.val / jn 10 = jn (48 + v.val / 10) ∧ jn 48 + (jn v.val - jn v.val / jn 10 * jn 10) = jn (48 + v.val % 10) := by decide +kernel
theorem ap_at {w : List Nat} {c i x : Nat} (h : (w ++ [c])[i]? = some x) : (i < w.length ∧ w[i]? = some x) ∨ (i = w.length ∧ x = c) := by
  rcases Nat.lt_or_ge i w.length with k_ | k_
  · rw [List.getElem?_append_left k_] at h
    exact Or.inl ⟨k_, h⟩
  · rw [List.getElem?_append_right k_] at h
    have k3_ := (List.getElem?_eq_some_iff.mp h).1
    have k4_ : ([c] : List Nat).length = 1 := rfl
    have k2_ : i - w.length = 0 := by omega
    rw [k2_] at h
    exact Or.inr ⟨by omega, (Option.some.inj h).symm⟩
section TXT
variable {w : List Nat} {I : z_H} {c v : Nat}
theorem ap_len : (w ++ [c]).length = w.length + 1 := by rw [List.length_append]; rfl
theorem sq_add (h : wT w I) (hl : w.length < 60) : ∃ J, d_T_add (jn c) I = some J ∧ tT (w ++ [c]) I J := by
  obtain ⟨h1_, h2_, h3_⟩ := h
  refine ⟨ev_u2 (ev_u2 I 240 w.length (jn c)) 239 0 (jn (w.length + 1)), ?_, ⟨?_, by rw [ap_len]; omega, fun i x hi => ?_⟩, fun b b1 b2 => by rw [ju_na b1, ju_na b2]⟩
  · unfold d_T_add
    rw [h1_, if_pos (by rw [jn_lt (by omega) (by omega)]; omega), if_pos (by rw [jn_in (by omega)]; omega), jn_n (by omega), ju_na (by omega), h1_, jn_add, ob_s]
  · rw [ju_at, ap_len]
  · rw [ju_na (by omega)]
    rcases ap_at hi with k_ | k_
    · rw [ju_ne (by omega)]; exact h3_ i x k_.2
    · rw [k_.1, k_.2, ju_at]
theorem mq_add (h : wM w I) (hl : w.length < 60) (hc : c < 128) : ∃ J, d_M_writesByte (jn c) I = some J ∧ tM (w ++ [c]) I J := by
  obtain ⟨h1_, h2_, h3_⟩ := h
  refine ⟨ev_u2 (ev_u2 I 249 w.length (jn c)) 241 19 (jn (w.length + 1)), ?_, ⟨?_, by rw [ap_len]; omega, fun i x hi => ?_⟩, fun b b1 b2 => by rw [ju_na b1, ju_na b2], fun k hk => by rw [ju_ne (fun q_ => hk q_.2), ju_na (by omega)]⟩
  · unfold d_M_writesByte
    rw [h1_, if_pos (by rw [jn_in (by omega)]; omega), jn_n (by omega), jbyte ⟨c, hc⟩, ju_na (by omega), h1_, jn_add, ob_s]
  · rw [ju_at, ap_len]
  · rw [ju_na (by omega)]
    rcases ap_at hi with k_ | k_
    · rw [ju_ne (by omega)]; exact h3_ i x k_.2
    · rw [k_.1, k_.2, ju_at]
theorem tT_tr {w2 : List Nat} {J K : z_H} (h : tT w I J) (h2 : tT w2 J K) : tT w2 I K := ⟨h2.1, fun b b1 b2 => (h2.2 b b1 b2).trans (h.2 b b1 b2)⟩
theorem tM_tr {w2 : List Nat} {J K : z_H} (h : tM w I J) (h2 : tM w2 J K) : tM w2 I K := ⟨h2.1, fun b b1 b2 => (h2.2.1 b b1 b2).trans (h.2.1 b b1 b2), fun k hk => (h2.2.2 k hk).trans (h.2.2 k hk)⟩
theorem sq_num (h : wT w I) (hl : w.length < 59) (hv : v < 100) : ∃ J, d_T_addNumber (jn v) I = some J ∧ tT (w ++ jnum v) I J := by
  obtain ⟨d1_, d2_⟩ := jdig ⟨v, hv⟩
  unfold d_T_addNumber jnum
  by_cases v_ : v < 10
  · have m_ : v % 10 = v := by omega
    obtain ⟨J_, e_, t_⟩ := sq_add (c := 48 + v) h (by omega)
    rw [if_pos (by rw [jn_lt (by omega) (by omega)]; exact v_), ob_s, if_pos v_, d2_, m_, e_, ob_s]
    exact ⟨J_, rfl, t_⟩
  · obtain ⟨J_, e_, t_⟩ := sq_add (c := 48 + v / 10) h (by omega)
    obtain ⟨J2_, e2_, t2_⟩ := sq_add (c := 48 + v % 10) t_.1 (by rw [ap_len]; omega)
    rw [if_neg (by rw [jn_lt (by omega) (by omega)]; exact v_), if_neg v_, d1_, e_, ob_s, ob_s, d2_, e2_, ob_s]
    refine ⟨J2_, rfl, ?_⟩
    have k_ := tT_tr t_ t2_
    rw [List.append_assoc] at k_
    exact k_
theorem mq_num (h : wM w I) (hl : w.length < 59) (hv : v < 100) : ∃ J, d_M_writesNumber (jn v) I = some J ∧ tM (w ++ jnum v) I J := by
  obtain ⟨d1_, d2_⟩ := jdig ⟨v, hv⟩
  unfold d_M_writesNumber jnum
  by_cases v_ : v < 10
  · have m_ : v % 10 = v := by omega
    obtain ⟨J_, e_, t_⟩ := mq_add (c := 48 + v) h (by omega) (by omega)
    rw [if_neg (by rw [jn_lt (by omega) (by omega)]; omega), ob_s, if_pos v_, d2_, m_, e_, ob_s]
    exact ⟨J_, rfl, t_⟩
  · obtain ⟨J_, e_, t_⟩ := mq_add (c := 48 + v / 10) h (by omega) (by omega)
    obtain ⟨J2_, e2_, t2_⟩ := mq_add (c := 48 + v % 10) t_.1 (by rw [ap_len]; omega) (by omega)
    rw [if_pos (by rw [jn_lt (by omega) (by omega)]; omega), if_neg v_, d1_, e_, ob_s, ob_s, d2_, e2_, ob_s]
    refine ⟨J2_, rfl, ?_⟩
    have k_ := tM_tr t_ t2_
    rw [List.append_assoc] at k_
    exact k_
theorem tT_0 : tT [] I (ev_u2 I 239 0 (jn 0)) := ⟨⟨ju_at .., Nat.zero_le _, fun i c h => by cases h⟩, fun b b1 _ => ju_na b1⟩
theorem tM_0 : tM [] I (ev_u2 I 241 19 (jn 0)) := ⟨⟨ju_at .., Nat.zero_le _, fun i c h => by cases h⟩, fun b b1 _ => ju_na b1, fun k hk => ju_ne (fun q_ => hk q_.2)⟩
/-- what stands between -/
theorem sq_btw (h : wT w I) (hl : w.length < 60) : ∃ J, d_T_addBetween (jn c) I = some J ∧ tT (if w.length = 0 then w else w ++ [c]) I J := by
  have h2_ := h.1
  unfold d_T_addBetween
  rw [h2_]
  by_cases w_ : w.length = 0
  · rw [if_neg (by rw [jn_lt (by omega) (by omega)]; omega), if_pos w_, ob_s]
    exact ⟨I, rfl, h, fun _ _ _ => rfl⟩
  · obtain ⟨J_, e_, t_⟩ := sq_add (c := c) h hl
    rw [if_pos (by rw [jn_lt (by omega) (by omega)]; omega), if_neg w_, e_, ob_s, ob_s]
    exact ⟨J_, rfl, t_⟩
theorem sq_hyp (h : wT w I) : ∃ J, d_T_addHyphenIfEmpty I = some J ∧ tT (if w.length = 0 then [45] else w) I J := by
  have h2_ := h.1
  have h3_ := h.2.1
  unfold d_T_addHyphenIfEmpty
  rw [h2_]
  by_cases w_ : w.length = 0
  · have e0_ : w = [] := List.eq_nil_of_length_eq_zero w_
    obtain ⟨J_, e_, t_⟩ := sq_add (c := 45) h (by omega)
    rw [if_pos (by rw [w_]), if_pos w_, e_, ob_s, ob_s]
    rw [e0_] at t_
    exact ⟨J_, rfl, t_⟩
  · rw [if_neg (by rw [jn_eq (by omega) (by omega)]; exact w_), if_neg w_, ob_s]
    exact ⟨I, rfl, h, fun _ _ _ => rfl⟩
end TXT
/-- a flag's text -/
def yltr (L : LL) (f : Nat) : Nat := if qf L f 8 = jn 0 then 98 else if qf L f 8 = jn 1 then 116 else if qf L f 8 = jn 2 then 108 else 103
def yfst (L : LL) (f c : Nat) (w : List Nat) : List Nat := if (qf L f 6 >>> (jn c &&& 31)) &&& jn 1 = jn 0 then w else w ++ [43] ++ jnum c
def yfb (L : LL) (f : Nat) : List Nat := [yltr L f] ++ jnum (z_n (qf L f 3)) ++ jnum (z_n (qf L f 4)) ++ jnum (z_n (qf L f 5))
def yfl (L : LL) (f n : Nat) : List Nat := jfd (yfst L f) (yfb L f) n
theorem yltr_lt {L : LL} {f : Nat} : yltr L f < 128 := by
  unfold yltr
  by_cases h_ : qf L f 8 = jn 0
  · rw [if_pos h_]; omega
  · rw [if_neg h_]
    by_cases h2_ : qf L f 8 = jn 1
    · rw [if_pos h2_]; omega
    · rw [if_neg h2_]
      by_cases h3_ : qf L f 8 = jn 2
      · rw [if_pos h3_]; omega
      · rw [if_neg h3_]; omega
theorem yfb_le {L : LL} {f : Nat} : (yfb L f).length ≤ 7 := by
  unfold yfb
  have k1_ := (jnum_le (v := z_n (qf L f 3))).2
  have k2_ := (jnum_le (v := z_n (qf L f 4))).2
  have k3_ := (jnum_le (v := z_n (qf L f 5))).2
  rw [List.length_append, List.length_append, List.length_append]
  show 1 + _ + _ + _ ≤ 7
  omega
theorem yfl_le {L : LL} {f : Nat} : ∀ n, (yfl L f n).length ≤ 7 + 3 * n := by
  intro n
  induction n with
  | zero => exact yfb_le
  | succ n ih_ =>
    show (yfst L f n (yfl L f n)).length ≤ _
    have k_ := (jnum_le (v := n)).2
    unfold yfst
    by_cases h_ : (qf L f 6 >>> (jn n &&& 31)) &&& jn 1 = jn 0
    · rw [if_pos h_]; omega
    · rw [if_neg h_, List.length_append, ap_len]; omega
theorem jbit0 : ∀ (m : Fin 7) (k : Fin 64) (c : Fin 6), k.val < 2 ^ m.val → m.val ≤ c.val → (jn k.val >>> (jn c.val &&& 31)) &&& jn 1 = jn 0 := by decide +kernel
theorem jbit1 : ∀ (k : Fin 64) (c : Fin 6), ((if (jn k.val >>> (jn c.val &&& 31)) &&& jn 1 = jn 1 then jn 1 else jn 0) = jn 0) ↔ ((jn k.val >>> (jn c.val &&& 31)) &&& jn 1 = jn 0) := by decide +kernel
theorem yfl_6 {L : LL} (g : qG L) {f : Nat} (hf : f < qF L) : ∀ d, qC L + d ≤ 6 → yfl L f (qC L + d) = yfl L f (qC L) := by
  intro d
  induction d with
  | zero => intro _; rfl
  | succ d ih_ =>
    intro h_
    have g2_ := g.2.1
    obtain ⟨k_, hk_, e_⟩ := (g.2.2.2.2.2.1 f hf).2.2.2.2.2.2.1
    have h2_ : 2 ^ qC L ≤ 64 := Nat.pow_le_pow_right (n := 2) (by omega) g2_
    show yfst L f (qC L + d) (yfl L f (qC L + d)) = _
    unfold yfst
    rw [e_, if_pos (jbit0 ⟨qC L, by omega⟩ ⟨k_, by omega⟩ ⟨qC L + d, by omega⟩ hk_ (by show qC L ≤ qC L + d; omega)), ih_ (by omega)]
section TFL
variable {L : LL} {B : Nat} {I : z_H} {s u f : Nat}
theorem sq_ltr : d_T_letterOf (qf L f 8) = some (jn (yltr L f)) := by
  unfold d_T_letterOf yltr
  by_cases h_ : qf L f 8 = jn 0
  · rw [if_pos h_, if_pos h_]
  · rw [if_neg h_, if_neg h_]
    by_cases h2_ : qf L f 8 = jn 1
    · rw [if_pos h2_, if_pos h2_]
    · rw [if_neg h2_, if_neg h2_]
      by_cases h3_ : qf L f 8 = jn 2
      · rw [if_pos h3_, if_pos h3_]
      · rw [if_neg h3_, if_neg h3_]
theorem mq_ltr : d_M_letterOf (qf L f 8) = some (jn (yltr L f)) := by
  unfold d_M_letterOf
  have k_ := sq_ltr (L := L) (f := f)
  unfold d_T_letterOf at k_
  rw [k_, ob_s]
theorem sq_tellFlag (h : qS L I s u) (g : qG L) (d : s + 18 ≤ 239) (hf : f < qF L) : ∃ J, d_T_tellFlag (s + 2 + f) I = some J ∧ tT (yfl L f (qC L)) I J := by
  have h1_ := g.1
  have g2_ := g.2.1
  obtain ⟨q0_, q1_, q2_, ⟨a_, ha_, ea_⟩, ⟨b_, hb_, eb_⟩, ⟨c_, hc_, ec_⟩, q6_, q7_, q8_⟩ := g.2.2.2.2.2.1 f hf
  obtain ⟨J1_, e1_, t1_⟩ := sq_add (c := yltr L f) (tT_0 (I := I)).1 (show ([] : List Nat).length < 60 by show 0 < 60; omega)
  have T1_ := tT_tr tT_0 t1_
  have l1_ : ([] ++ [yltr L f] : List Nat).length = 1 := rfl
  obtain ⟨J2_, e2_, t2_⟩ := sq_num (v := a_) T1_.1 (by omega) (by omega)
  have T2_ := tT_tr T1_ t2_
  have n1_ := (jnum_le (v := a_)).2
  have n2_ := (jnum_le (v := b_)).2
  have l2_ : ([] ++ [yltr L f] ++ jnum a_ : List Nat).length ≤ 3 := by rw [List.length_append]; omega
  obtain ⟨J3_, e3_, t3_⟩ := sq_num (v := b_) T2_.1 (by omega) (by omega)
  have T3_ := tT_tr T2_ t3_
  have l3_ : ([] ++ [yltr L f] ++ jnum a_ ++ jnum b_ : List Nat).length ≤ 5 := by rw [List.length_append]; omega
  obtain ⟨J4_, e4_, t4_⟩ := sq_num (v := c_) T3_.1 (by omega) (by omega)
  have T4_ := tT_tr T3_ t4_
  have bs_ : ([] ++ [yltr L f] ++ jnum a_ ++ jnum b_ ++ jnum c_ : List Nat) = yfb L f := by
    unfold yfb
    rw [ea_, eb_, ec_, jn_n (a := a_) (by omega), jn_n (a := b_) (by omega), jn_n (a := c_) (by omega)]
    rfl
  rw [bs_] at T4_
  have out_ : ∀ {w : List Nat} {J : z_H} (k : Nat), k < 10 → tT w I J → J (s + 2 + f) k = qf L f k := fun k hk t_ => by
    rw [t_.2 _ (by omega) (by omega)]
    exact sq_f h hf hk
  have z9_ : ∃ r, z_it (d_T_tellFlag_12 (s + 2 + f)) z_F (jn 0, J4_) = some r ∧ tT (yfl L f 6) I r.2 := by
    refine z_inv (fun (i : Nat) (p : Int32 × z_H) => p.1 = jn i ∧ tT (yfl L f i) I p.2) (fun (r : Int32 × z_H) => tT (yfl L f 6) I r.2) (n := 6) (by omega) ⟨rfl, T4_⟩ (fun i p hi hp => ?_) (fun p hp => ?_)
    · obtain ⟨x1_, x2_⟩ := hp
      have le_ := yfl_le (L := L) (f := f) i
      unfold d_T_tellFlag_12
      rw [x1_, if_pos (by rw [jn_lt (by omega) (by omega)]; exact hi), out_ 6 (by omega) x2_]
      by_cases b0_ : (qf L f 6 >>> (jn i &&& 31)) &&& jn 1 = jn 0
      · rw [if_pos b0_, ob_s]
        refine ⟨_, rfl, jn_add i 1, ?_⟩
        show tT (yfst L f i (yfl L f i)) I p.2
        unfold yfst
        rw [if_pos b0_]
        exact x2_
      · obtain ⟨K1_, k1_, s1_⟩ := sq_add (c := 43) x2_.1 (by omega)
        obtain ⟨K2_, k2_, s2_⟩ := sq_num (v := i) s1_.1 (by rw [ap_len]; omega) (by omega)
        rw [if_neg b0_, k1_, ob_s, k2_, ob_s, ob_s]
        refine ⟨_, rfl, jn_add i 1, ?_⟩
        show tT (yfst L f i (yfl L f i)) I K2_
        unfold yfst
        rw [if_neg b0_]
        exact tT_tr x2_ (tT_tr s1_ s2_)
    · obtain ⟨x1_, x2_⟩ := hp
      unfold d_T_tellFlag_12
      rw [x1_, if_neg (by rw [jn_lt (by omega) (by omega)]; omega)]
      exact ⟨_, rfl, x2_⟩
  obtain ⟨r_, e5_, t5_⟩ := z9_
  have s6_ := yfl_6 g hf (6 - qC L) (by omega)
  rw [show qC L + (6 - qC L) = 6 from by omega] at s6_
  rw [s6_] at t5_
  refine ⟨r_.2, ?_, t5_⟩
  unfold d_T_tellFlag
  rw [ju_na (by omega), sq_f h hf (by omega), sq_ltr, ob_s, e1_, ob_s, out_ 3 (by omega) T1_, ea_, e2_, ob_s, out_ 4 (by omega) T2_, eb_, e3_, ob_s, out_ 5 (by omega) T3_, ec_, e4_, ob_s, e5_, ob_s]
theorem mq_tellFlag (h : qM L B (I 242)) (g : qG L) (hf : f < qF L) : ∃ J, ((d_M_where (jn f) (ev_u2 I 241 19 (jn 0))).bind fun q3 => ((d_M_letterOf (q3)).bind fun q5 => ((d_M_writesByte (q5) (ev_u2 I 241 19 (jn 0))).bind fun q7 => ((d_M_ofFlag (jn f) ((jn 3)) q7).bind fun q9 => ((d_M_writesNumber (q9) q7).bind fun q11 => ((d_M_ofFlag (jn f) ((jn 4)) q11).bind fun q13 => ((d_M_writesNumber (q13) q11).bind fun q15 => ((d_M_ofFlag (jn f) ((jn 5)) q15).bind fun q17 => ((d_M_writesNumber (q17) q15).bind fun q19 => ((z_it (d_M_writeFlag_22 (jn f)) z_F ((jn 0), q19)).bind fun q23 => some (((q23.2 241 19), q23.2)))))))))))) = some (jn (yfl L f (qC L)).length, J) ∧ tM (yfl L f (qC L)) I J := by
  have h1_ := g.1
  have g2_ := g.2.1
  obtain ⟨q0_, q1_, q2_, ⟨a_, ha_, ea_⟩, ⟨b_, hb_, eb_⟩, ⟨c_, hc_, ec_⟩, ⟨st_, hst_, est_⟩, q7_, q8_⟩ := g.2.2.2.2.2.1 f hf
  have h64_ : 2 ^ qC L ≤ 64 := Nat.pow_le_pow_right (n := 2) (by omega) g2_
  have M_ : ∀ {w : List Nat} {J : z_H}, tM w I J → qM L B (J 242) := fun t_ => by
    rw [t_.2.1 242 (by omega) (by omega)]; exact h
  obtain ⟨J1_, e1_, t1_⟩ := mq_add (c := yltr L f) (tM_0 (I := I)).1 (show ([] : List Nat).length < 60 by show 0 < 60; omega) yltr_lt
  have T1_ := tM_tr tM_0 t1_
  have l1_ : ([] ++ [yltr L f] : List Nat).length = 1 := rfl
  obtain ⟨J2_, e2_, t2_⟩ := mq_num (v := a_) T1_.1 (by omega) (by omega)
  have T2_ := tM_tr T1_ t2_
  have n1_ := (jnum_le (v := a_)).2
  have n2_ := (jnum_le (v := b_)).2
  have l2_ : ([] ++ [yltr L f] ++ jnum a_ : List Nat).length ≤ 3 := by rw [List.length_append]; omega
  obtain ⟨J3_, e3_, t3_⟩ := mq_num (v := b_) T2_.1 (by omega) (by omega)
  have T3_ := tM_tr T2_ t3_
  have l3_ : ([] ++ [yltr L f] ++ jnum a_ ++ jnum b_ : List Nat).length ≤ 5 := by rw [List.length_append]; omega
  obtain ⟨J4_, e4_, t4_⟩ := mq_num (v := c_) T3_.1 (by omega) (by omega)
  have T4_ := tM_tr T3_ t4_
  have bs_ : ([] ++ [yltr L f] ++ jnum a_ ++ jnum b_ ++ jnum c_ : List Nat) = yfb L f := by
    unfold yfb
    rw [ea_, eb_, ec_, jn_n (a := a_) (by omega), jn_n (a := b_) (by omega), jn_n (a := c_) (by omega)]
    rfl
  rw [bs_] at T4_
  have z9_ : ∃ r, z_it (d_M_writeFlag_22 (jn f)) z_F (jn 0, J4_) = some r ∧ tM (yfl L f (qC L)) I r.2 := by
    refine z_inv (fun (i : Nat) (p : Int32 × z_H) => p.1 = jn i ∧ tM (yfl L f i) I p.2) (fun (r : Int32 × z_H) => tM (yfl L f (qC L)) I r.2) (n := qC L) (by omega) ⟨rfl, T4_⟩ (fun i p hi hp => ?_) (fun p hp => ?_)
    · obtain ⟨x1_, x2_⟩ := hp
      have le_ := yfl_le (L := L) (f := f) i
      have m_ := M_ x2_
      have bb_ := jbit1 ⟨st_, by omega⟩ ⟨i, by omega⟩
      unfold d_M_writeFlag_22
      rw [x1_, if_pos (show z_in (jn 6) 173 by rw [jn_in (by omega)]; omega), if_pos (show jn i < p.2 242 (z_n (jn 6)) by rw [jn_n (by omega), m_.2.1, jn_lt (by omega) (by omega)]; exact hi), mq_f m_ g hf (by omega), ob_s, mq_has, ob_s]
      by_cases b0_ : (qf L f 6 >>> (jn i &&& 31)) &&& jn 1 = jn 0
      · rw [if_pos (show (if (qf L f 6 >>> (jn i &&& 31)) &&& jn 1 = jn 1 then jn 1 else jn 0) = jn 0 by rw [est_] at b0_ ⊢; exact bb_.mpr b0_), ob_s]
        refine ⟨_, rfl, jn_add i 1, ?_⟩
        show tM (yfst L f i (yfl L f i)) I p.2
        unfold yfst
        rw [if_pos b0_]
        exact x2_
      · obtain ⟨K1_, k1_, s1_⟩ := mq_add (c := 43) x2_.1 (by omega) (by omega)
        obtain ⟨K2_, k2_, s2_⟩ := mq_num (v := i) s1_.1 (by rw [ap_len]; omega) (by omega)
        rw [if_neg (show ¬ (if (qf L f 6 >>> (jn i &&& 31)) &&& jn 1 = jn 1 then jn 1 else jn 0) = jn 0 by rw [est_] at b0_ ⊢; exact fun q_ => b0_ (bb_.mp q_)), k1_, ob_s, k2_, ob_s, ob_s]
        refine ⟨_, rfl, jn_add i 1, ?_⟩
        show tM (yfst L f i (yfl L f i)) I K2_
        unfold yfst
        rw [if_neg b0_]
        exact tM_tr x2_ (tM_tr s1_ s2_)
    · obtain ⟨x1_, x2_⟩ := hp
      have m_ := M_ x2_
      unfold d_M_writeFlag_22
      rw [x1_, if_pos (show z_in (jn 6) 173 by rw [jn_in (by omega)]; omega), if_neg (show ¬ jn (qC L) < p.2 242 (z_n (jn 6)) by rw [jn_n (by omega), m_.2.1, jn_lt (by omega) (by omega)]; omega)]
      exact ⟨_, rfl, x2_⟩
  obtain ⟨r_, e5_, t5_⟩ := z9_
  refine ⟨r_.2, ?_, t5_⟩
  rw [mq_where (M_ (tM_0 (I := I))) g hf, ob_s, mq_ltr, ob_s, e1_, ob_s, mq_f (M_ T1_) g hf (by omega), ob_s, ea_, e2_, ob_s, mq_f (M_ T2_) g hf (by omega), ob_s, eb_, e3_, ob_s, mq_f (M_ T3_) g hf (by omega), ob_s, ec_, e4_, ob_s, e5_, ob_s, t5_.1.1]
end TFL
