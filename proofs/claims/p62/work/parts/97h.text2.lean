/-! texts of tubs, nations and the line: both sides -/
def ytst (l : List Nat) (i : Nat) (w : List Nat) : List Nat := (if w.length = 0 then w else w ++ [44]) ++ jnum (l[i]?.getD 0)
def ytl (l : List Nat) (n : Nat) : List Nat := jfd (ytst l) [] n
def yhyp (w : List Nat) : List Nat := if w.length = 0 then [45] else w
theorem ytl_le {l : List Nat} : ∀ n, n ≤ (ytl l n).length ∧ (ytl l n).length ≤ 3 * n := by
  intro n
  induction n with
  | zero => exact ⟨Nat.le_refl _, Nat.le_refl _⟩
  | succ n ih_ =>
    show n + 1 ≤ (ytst l n (ytl l n)).length ∧ (ytst l n (ytl l n)).length ≤ 3 * (n + 1)
    have k_ := jnum_le (v := l[n]?.getD 0)
    unfold ytst
    rw [List.length_append]
    by_cases h_ : (ytl l n).length = 0
    · rw [if_pos h_]; omega
    · rw [if_neg h_, ap_len]; omega
def ynst (L : LL) (n f : Nat) (w : List Nat) : List Nat := if qf L f 0 = jn n then (if w.length = 0 then w else w ++ [32]) ++ jnum f ++ [58] ++ jnum (z_n (ywhy (ybs L f))) else w
def ynl (L : LL) (n m : Nat) : List Nat := jfd (ynst L n) [] m
theorem ywhy_lt : ∀ a b c d e f g : Bool, ∃ k : Fin 8, ywhy (a, b, c, d, e, f, g) = jn k.val := by decide +kernel
theorem ywhy_8 {L : LL} {f : Nat} : ∃ k, k < 8 ∧ ywhy (ybs L f) = jn k := by
  obtain ⟨k_, e_⟩ := ywhy_lt (decide (qf L f 8 = jn 3)) (decide (qf L f 8 = jn 1)) (decide (qf L f 8 = jn 2)) (decide (jn 0 < qf L f 3)) (decide (¬ qf L f 6 = jn 0)) (decide (jn 0 < qf L f 4)) (decide (jn 0 < qf L f 5))
  exact ⟨k_.val, k_.isLt, e_⟩
theorem ynl_le {L : LL} {n : Nat} : ∀ m, (ynl L n m).length ≤ 4 * m + (m - 10) := by
  intro m
  induction m with
  | zero => exact Nat.le_refl _
  | succ m ih_ =>
    show (ynst L n m (ynl L n m)).length ≤ _
    obtain ⟨k_, hk_, ek_⟩ := ywhy_8 (L := L) (f := m)
    unfold ynst
    by_cases h_ : qf L m 0 = jn n
    · rw [if_pos h_, List.length_append, ap_len, List.length_append, ek_, jn_n (a := k_) (by omega), jnum_1 (v := k_) (by omega)]
      have l_ : (jnum m).length ≤ 1 + (if m < 10 then 0 else 1) := by
        by_cases m_ : m < 10
        · rw [if_pos m_, jnum_1 m_]; exact Nat.le_refl _
        · rw [if_neg m_]; exact jnum_le.2
      by_cases m_ : m < 10
      · rw [if_pos m_] at l_
        by_cases w_ : (ynl L n m).length = 0
        · rw [if_pos w_]; omega
        · rw [if_neg w_, ap_len]; omega
      · rw [if_neg m_] at l_
        by_cases w_ : (ynl L n m).length = 0
        · rw [if_pos w_]; omega
        · rw [if_neg w_, ap_len]; omega
    · rw [if_neg h_]; omega
def ylst2 (L : LL) (p : Nat) (w : List Nat) : List Nat := (if w.length = 0 then w else w ++ [47]) ++ (if qpg L p = jg 1 then [46] else jnum (z_n (qpg L p)))
def yll (L : LL) (n : Nat) : List Nat := jfd (ylst2 L) [] n
theorem yll_le {L : LL} : ∀ n, n ≤ (yll L n).length ∧ (yll L n).length ≤ 3 * n := by
  intro n
  induction n with
  | zero => exact ⟨Nat.le_refl _, Nat.le_refl _⟩
  | succ n ih_ =>
    show n + 1 ≤ (ylst2 L n (yll L n)).length ∧ (ylst2 L n (yll L n)).length ≤ 3 * (n + 1)
    have k_ := jnum_le (v := z_n (qpg L n))
    have k2_ : 1 ≤ (if qpg L n = jg 1 then [46] else jnum (z_n (qpg L n))).length ∧ (if qpg L n = jg 1 then [46] else jnum (z_n (qpg L n))).length ≤ 2 := by
      by_cases q_ : qpg L n = jg 1
      · rw [if_pos q_]
        show 1 ≤ 1 ∧ 1 ≤ 2
        omega
      · rw [if_neg q_]; exact k_
    unfold ylst2
    rw [List.length_append]
    by_cases h_ : (yll L n).length = 0
    · rw [if_pos h_]; omega
    · rw [if_neg h_, ap_len]; omega
section TX2
variable {L : LL} {B : Nat} {I : z_H} {s u t n : Nat} {w : List Nat}
theorem tT_S {J : z_H} (h : qS L I s u) (g : qG L) (d : s + 18 ≤ 239) (d2 : u + 6 ≤ 239) (t_ : tT w I J) : qS L J s u := qS_out h (fun b b1 b2 => t_.2 b (by omega) (by omega)) (fun b b1 b2 => t_.2 b (by omega) (by omega)) g
theorem tM_M {J : z_H} (h : qM L B (I 242)) (t_ : tM w I J) : qM L B (J 242) := by
  rw [t_.2.1 242 (by omega) (by omega)]; exact h
theorem mq_btw {c : Nat} {P : Prop} [Decidable P] (h : wM w I) (hl : w.length < 60) (hc : c < 128) (hP : P ↔ ¬ w.length = 0) : ∃ J, (if P then ((d_M_writesByte (jn c) I).bind fun q22 => some (q22)) else some I) = some J ∧ tM (if w.length = 0 then w else w ++ [c]) I J := by
  by_cases w_ : w.length = 0
  · rw [if_neg (fun q_ => (hP.mp q_) w_), if_pos w_]
    exact ⟨I, rfl, h, fun _ _ _ => rfl, fun _ _ => rfl⟩
  · obtain ⟨J_, e_, t_⟩ := mq_add (c := c) h hl hc
    rw [if_pos (hP.mpr w_), if_neg w_, e_, ob_s]
    exact ⟨J_, rfl, t_⟩
theorem mq_hyp {P : Prop} [Decidable P] (h : wM w I) (hP : P ↔ w.length = 0) : ∃ J, (if P then ((d_M_writesByte (jn 45) I).bind fun q13 => some (q13)) else some I) = some J ∧ tM (yhyp w) I J := by
  unfold yhyp
  by_cases w_ : w.length = 0
  · have e0_ : w = [] := List.eq_nil_of_length_eq_zero w_
    obtain ⟨J_, e_, t_⟩ := mq_add (c := 45) h (by omega) (by omega)
    rw [if_pos (hP.mpr w_), if_pos w_, e_, ob_s]
    rw [e0_] at t_
    exact ⟨J_, rfl, t_⟩
  · rw [if_neg (fun q_ => w_ (hP.mp q_)), if_neg w_]
    exact ⟨I, rfl, h, fun _ _ _ => rfl, fun _ _ => rfl⟩
theorem btw_le {c : Nat} : (if w.length = 0 then w else w ++ [c]).length ≤ w.length + 1 := by
  by_cases w_ : w.length = 0
  · rw [if_pos w_]; omega
  · rw [if_neg w_, ap_len]; omega
/-- tubs -/
theorem sq_tellTub (h : qS L I s u) (g : qG L) (d : s + 18 ≤ 239) (d2 : u + 6 ≤ 239) (ht : t < qT L) : ∃ J, d_T_tellTub s (jn t) I = some J ∧ tT (yhyp (ytl (qt L t) (qt L t).length)) I J := by
  have h1_ := g.1
  have l6_ := qt_len g ht
  have z9_ : ∃ r, z_it (d_T_tellTub_2 s (jn t)) z_F (jn 0, ev_u2 I 239 0 (jn 0)) = some r ∧ tT (ytl (qt L t) (qt L t).length) I r.2 := by
    refine z_inv (fun (i : Nat) (p : Int32 × z_H) => p.1 = jn i ∧ tT (ytl (qt L t) i) I p.2) (fun (r : Int32 × z_H) => tT (ytl (qt L t) (qt L t).length) I r.2) (n := (qt L t).length) (by omega) ⟨rfl, tT_0⟩ (fun i p hi hp => ?_) (fun p hp => ?_)
    · obtain ⟨x1_, x2_⟩ := hp
      have le_ := (ytl_le (l := qt L t) i).2
      obtain ⟨c_, hc_⟩ : ∃ c, (qt L t)[i]? = some c := ⟨(qt L t)[i], List.getElem?_eq_getElem hi⟩
      have c12_ := (qt_lt g ht hc_).1
      have s_ := tT_S h g d d2 x2_
      obtain ⟨K1_, k1_, s1_⟩ := sq_btw (c := 44) x2_.1 (by omega)
      have T1_ := tT_tr x2_ s1_
      have bl_ := btw_le (w := ytl (qt L t) i) (c := 44)
      obtain ⟨K2_, k2_, s2_⟩ := sq_num (v := c_) s1_.1 (by omega) (by omega)
      unfold d_T_tellTub_2
      rw [x1_, if_pos (sq_tin g ht), sq_tn g ht, if_pos (sq_tgo s_ g ht hc_), k1_, ob_s, sq_inTub (tT_S h g d d2 T1_) g ht hc_, ob_s, k2_, ob_s]
      refine ⟨_, rfl, jn_add i 1, ?_⟩
      show tT (ytst (qt L t) i (ytl (qt L t) i)) I K2_
      unfold ytst
      rw [hc_]
      exact tT_tr T1_ s2_
    · obtain ⟨x1_, x2_⟩ := hp
      have s_ := tT_S h g d d2 x2_
      unfold d_T_tellTub_2
      rw [x1_, if_pos (sq_tin g ht), sq_tn g ht, if_neg (sq_tend s_ g ht)]
      exact ⟨_, rfl, x2_⟩
  obtain ⟨r_, e_, t_⟩ := z9_
  obtain ⟨J_, e2_, t2_⟩ := sq_hyp t_.1
  refine ⟨J_, ?_, tT_tr t_ t2_⟩
  unfold d_T_tellTub
  rw [e_, ob_s, e2_, ob_s]
theorem mq_tellTub (h : qM L B (I 242)) (g : qG L) (ht : t < qT L) : ∃ J, ((d_M_manyIn (jn t) (ev_u2 I 241 19 (jn 0))).bind fun q3 => ((z_it (d_M_writeTub_6 (jn t) q3) z_F ((jn 0), (ev_u2 I 241 19 (jn 0)))).bind fun q7 => (Option.bind (α := z_H) (if q3 = jn 0 then ((d_M_writesByte ((jn 45)) q7.2).bind fun q13 => some (q13)) else some (q7.2)) fun q10 => some (((q10 241 19), q10))))) = some (jn (yhyp (ytl (qt L t) (qt L t).length)).length, J) ∧ tM (yhyp (ytl (qt L t) (qt L t).length)) I J := by
  have h1_ := g.1
  have l6_ := qt_len g ht
  have z9_ : ∃ r, z_it (d_M_writeTub_6 (jn t) (jn (qt L t).length)) z_F (jn 0, ev_u2 I 241 19 (jn 0)) = some r ∧ tM (ytl (qt L t) (qt L t).length) I r.2 := by
    refine z_inv (fun (i : Nat) (p : Int32 × z_H) => p.1 = jn i ∧ tM (ytl (qt L t) i) I p.2) (fun (r : Int32 × z_H) => tM (ytl (qt L t) (qt L t).length) I r.2) (n := (qt L t).length) (by omega) ⟨rfl, tM_0⟩ (fun i p hi hp => ?_) (fun p hp => ?_)
    · obtain ⟨x1_, x2_⟩ := hp
      have le1_ := (ytl_le (l := qt L t) i).1
      have le_ := (ytl_le (l := qt L t) i).2
      obtain ⟨c_, hc_⟩ : ∃ c, (qt L t)[i]? = some c := ⟨(qt L t)[i], List.getElem?_eq_getElem hi⟩
      have c12_ := (qt_lt g ht hc_).1
      have P_ : jn 0 < jn i ↔ ¬ (ytl (qt L t) i).length = 0 := by
        rw [jn_lt (by omega) (by omega)]
        constructor
        · intro q_; omega
        · intro q_
          rcases Nat.lt_or_ge 0 i with k_ | k_
          · exact k_
          · have k2_ : i = 0 := by omega
            rw [k2_] at q_
            exact absurd rfl q_
      obtain ⟨K1_, k1_, s1_⟩ := mq_btw (c := 44) x2_.1 (by omega) (by omega) P_
      have T1_ := tM_tr x2_ s1_
      have bl_ := btw_le (w := ytl (qt L t) i) (c := 44)
      obtain ⟨K2_, k2_, s2_⟩ := mq_num (v := c_) s1_.1 (by omega) (by omega)
      have y_ : yin L t (jn i) = jn c_ := by
        unfold yin
        rw [if_pos (by rw [jn_in (by omega)]; exact hi), jn_n (by omega), hc_]
        rfl
      unfold d_M_writeTub_6
      rw [x1_, if_pos (show jn i < jn (qt L t).length by rw [jn_lt (by omega) (by omega)]; exact hi), k1_, ob_s, mq_flagIn (tM_M h T1_) g ht, y_, ob_s, k2_, ob_s]
      refine ⟨_, rfl, jn_add i 1, ?_⟩
      show tM (ytst (qt L t) i (ytl (qt L t) i)) I K2_
      unfold ytst
      rw [hc_]
      exact tM_tr T1_ s2_
    · obtain ⟨x1_, x2_⟩ := hp
      unfold d_M_writeTub_6
      rw [x1_, if_neg (by rw [jn_lt (by omega) (by omega)]; omega)]
      exact ⟨_, rfl, x2_⟩
  obtain ⟨r_, e_, t_⟩ := z9_
  have le1_ := (ytl_le (l := qt L t) (qt L t).length).1
  obtain ⟨J_, e2_, t2_⟩ := mq_hyp (P := jn (qt L t).length = jn 0) t_.1 (by
    rw [jn_eq (by omega) (by omega)]
    constructor
    · intro q_
      rw [q_]
      rfl
    · intro q_; omega)
  have T_ := tM_tr t_ t2_
  refine ⟨J_, ?_, T_⟩
  rw [mq_many (tM_M h (tM_0 (I := I))) g ht, ob_s, e_, ob_s, e2_, ob_s, T_.1.1]
/-- nations -/
theorem sq_tellNation (h : qS L I s u) (g : qG L) (d : s + 18 ≤ 239) (d2 : u + 6 ≤ 239) : ∃ J, d_T_tellNation s (jn n) I = some J ∧ tT (yhyp (ynl L n (qF L))) I J := by
  have h1_ := g.1
  have z9_ : ∃ r, z_it (d_T_tellNation_2 s (jn n)) z_F (jn 0, ev_u2 I 239 0 (jn 0)) = some r ∧ tT (ynl L n (qF L)) I r.2 := by
    refine z_inv (fun (i : Nat) (p : Int32 × z_H) => p.1 = jn i ∧ tT (ynl L n i) I p.2) (fun (r : Int32 × z_H) => tT (ynl L n (qF L)) I r.2) (n := qF L) (by omega) ⟨rfl, tT_0⟩ (fun i p hi hp => ?_) (fun p hp => ?_)
    · obtain ⟨x1_, x2_⟩ := hp
      have le_ := ynl_le (L := L) (n := n) i
      have s_ := tT_S h g d d2 x2_
      unfold d_T_tellNation_2
      rw [x1_, if_pos (sq_go s_ g hi), if_pos (sq_in g hi), sq_n g hi, sq_f s_ hi (by omega)]
      by_cases q_ : qf L i 0 = jn n
      · obtain ⟨K1_, k1_, s1_⟩ := sq_btw (c := 32) x2_.1 (by omega)
        have T1_ := tT_tr x2_ s1_
        have bl_ := btw_le (w := ynl L n i) (c := 32)
        obtain ⟨K2_, k2_, s2_⟩ := sq_num (v := i) s1_.1 (by omega) (by omega)
        have T2_ := tT_tr T1_ s2_
        have nl_ : (jnum i).length ≤ 1 + (if i < 10 then 0 else 1) := by
          by_cases m_ : i < 10
          · rw [if_pos m_, jnum_1 m_]; exact Nat.le_refl _
          · rw [if_neg m_]; exact jnum_le.2
        have nl2_ : 4 * i + (i - 10) + 1 + (1 + (if i < 10 then 0 else 1)) < 58 := by
          by_cases m_ : i < 10
          · rw [if_pos m_]; omega
          · rw [if_neg m_]; omega
        obtain ⟨K3_, k3_, s3_⟩ := sq_add (c := 58) s2_.1 (by rw [List.length_append]; omega)
        have T3_ := tT_tr T2_ s3_
        obtain ⟨y_, hy_, ey_⟩ := ywhy_8 (L := L) (f := i)
        obtain ⟨K4_, k4_, s4_⟩ := sq_num (v := y_) s3_.1 (by rw [ap_len, List.length_append]; omega) (by omega)
        rw [if_pos q_, k1_, ob_s, k2_, ob_s, k3_, ob_s, if_pos (sq_in g hi), sq_why (tT_S h g d d2 T3_) hi, ob_s, ey_, k4_, ob_s, ob_s]
        refine ⟨_, rfl, jn_add i 1, ?_⟩
        show tT (ynst L n i (ynl L n i)) I K4_
        unfold ynst
        rw [if_pos q_, ey_, jn_n (by omega)]
        exact tT_tr T3_ s4_
      · rw [if_neg q_, ob_s]
        refine ⟨_, rfl, jn_add i 1, ?_⟩
        show tT (ynst L n i (ynl L n i)) I p.2
        unfold ynst
        rw [if_neg q_]
        exact x2_
    · obtain ⟨x1_, x2_⟩ := hp
      have s_ := tT_S h g d d2 x2_
      unfold d_T_tellNation_2
      rw [x1_, if_neg (sq_end s_ g)]
      exact ⟨_, rfl, x2_⟩
  obtain ⟨r_, e_, t_⟩ := z9_
  obtain ⟨J_, e2_, t2_⟩ := sq_hyp t_.1
  refine ⟨J_, ?_, tT_tr t_ t2_⟩
  unfold d_T_tellNation
  rw [e_, ob_s, e2_, ob_s]
theorem mq_tellNation (h : qM L B (I 242)) (g : qG L) : ∃ J, ((z_it (d_M_writeNation_6 (jn n)) z_F ((jn 0), (ev_u2 I 241 19 (jn 0)))).bind fun q7 => (Option.bind (α := z_H) (if (q7.2 241 19) = jn 0 then ((d_M_writesByte ((jn 45)) q7.2).bind fun q13 => some (q13)) else some (q7.2)) fun q10 => some (((q10 241 19), q10)))) = some (jn (yhyp (ynl L n (qF L))).length, J) ∧ tM (yhyp (ynl L n (qF L))) I J := by
  have h1_ := g.1
  have z9_ : ∃ r, z_it (d_M_writeNation_6 (jn n)) z_F (jn 0, ev_u2 I 241 19 (jn 0)) = some r ∧ tM (ynl L n (qF L)) I r.2 := by
    refine z_inv (fun (i : Nat) (p : Int32 × z_H) => p.1 = jn i ∧ tM (ynl L n i) I p.2) (fun (r : Int32 × z_H) => tM (ynl L n (qF L)) I r.2) (n := qF L) (by omega) ⟨rfl, tM_0⟩ (fun i p hi hp => ?_) (fun p hp => ?_)
    · obtain ⟨x1_, x2_⟩ := hp
      have le_ := ynl_le (L := L) (n := n) i
      have m_ := tM_M h x2_
      unfold d_M_writeNation_6
      rw [x1_, if_pos mq_in10, if_pos (mq_go m_ g hi), mq_f m_ g hi (by omega), ob_s]
      by_cases q_ : qf L i 0 = jn n
      · have w1_ := x2_.1.1
        have w2_ := x2_.1.2.1
        have P_ : jn 0 < p.2 241 19 ↔ ¬ (ynl L n i).length = 0 := by
          rw [w1_, jn_lt (by omega) (by omega)]
          constructor
          · intro q_; omega
          · intro q_; omega
        obtain ⟨K1_, k1_, s1_⟩ := mq_btw (c := 32) x2_.1 (by omega) (by omega) P_
        have T1_ := tM_tr x2_ s1_
        have bl_ := btw_le (w := ynl L n i) (c := 32)
        obtain ⟨K2_, k2_, s2_⟩ := mq_num (v := i) s1_.1 (by omega) (by omega)
        have T2_ := tM_tr T1_ s2_
        have nl_ : (jnum i).length ≤ 1 + (if i < 10 then 0 else 1) := by
          by_cases m_ : i < 10
          · rw [if_pos m_, jnum_1 m_]; exact Nat.le_refl _
          · rw [if_neg m_]; exact jnum_le.2
        have nl2_ : 4 * i + (i - 10) + 1 + (1 + (if i < 10 then 0 else 1)) < 58 := by
          by_cases m_ : i < 10
          · rw [if_pos m_]; omega
          · rw [if_neg m_]; omega
        obtain ⟨K3_, k3_, s3_⟩ := mq_add (c := 58) s2_.1 (by rw [List.length_append]; omega) (by omega)
        have T3_ := tM_tr T2_ s3_
        obtain ⟨y_, hy_, ey_⟩ := ywhy_8 (L := L) (f := i)
        obtain ⟨K4_, k4_, s4_⟩ := mq_num (v := y_) s3_.1 (by rw [ap_len, List.length_append]; omega) (by omega)
        unfold d_M_writesReason
        rw [if_pos q_, k1_, ob_s, k2_, ob_s, k3_, ob_s, mq_why (tM_M h T3_) g hi, ob_s, ey_, k4_, ob_s, ob_s, ob_s]
        refine ⟨_, rfl, jn_add i 1, ?_⟩
        show tM (ynst L n i (ynl L n i)) I K4_
        unfold ynst
        rw [if_pos q_, ey_, jn_n (by omega)]
        exact tM_tr T3_ s4_
      · rw [if_neg q_, ob_s]
        refine ⟨_, rfl, jn_add i 1, ?_⟩
        show tM (ynst L n i (ynl L n i)) I p.2
        unfold ynst
        rw [if_neg q_]
        exact x2_
    · obtain ⟨x1_, x2_⟩ := hp
      have m_ := tM_M h x2_
      unfold d_M_writeNation_6
      rw [x1_, if_pos mq_in10, if_neg (mq_end m_ g)]
      exact ⟨_, rfl, x2_⟩
  obtain ⟨r_, e_, t_⟩ := z9_
  have w1_ := t_.1.1
  have w2_ := t_.1.2.1
  obtain ⟨J_, e2_, t2_⟩ := mq_hyp (P := r_.2 241 19 = jn 0) t_.1 (by rw [w1_, jn_eq (by omega) (by omega)])
  have T_ := tM_tr t_ t2_
  refine ⟨J_, ?_, T_⟩
  rw [e_, ob_s, e2_, ob_s, T_.1.1]
/-- the line -/
theorem sq_tellLine (h : qS L I s u) (g : qG L) (d : s + 18 ≤ 239) (d2 : u + 6 ≤ 239) : ∃ J, d_T_tellLine s (jn (qP L)) I = some J ∧ tT (yll L (qP L)) I J := by
  have h1_ := g.1
  have h5_ := g.2.2.2.2.1
  have z9_ : ∃ r, z_it (d_T_tellLine_2 s (jn (qP L))) z_F (jn 0, ev_u2 I 239 0 (jn 0)) = some r ∧ tT (yll L (qP L)) I r.2 := by
    refine z_inv (fun (i : Nat) (p : Int32 × z_H) => p.1 = jn i ∧ tT (yll L i) I p.2) (fun (r : Int32 × z_H) => tT (yll L (qP L)) I r.2) (n := qP L) (by omega) ⟨rfl, tT_0⟩ (fun i p hi hp => ?_) (fun p hp => ?_)
    · obtain ⟨x1_, x2_⟩ := hp
      have le_ := (yll_le (L := L) i).2
      obtain ⟨K1_, k1_, s1_⟩ := sq_btw (c := 47) x2_.1 (by omega)
      have T1_ := tT_tr x2_ s1_
      have s_ := tT_S h g d d2 T1_
      have bl_ := btw_le (w := yll L i) (c := 47)
      unfold d_T_tellLine_2
      rw [x1_, if_pos (by rw [jn_lt (by omega) (by omega)]; exact hi), k1_, ob_s, if_pos (show z_in (jn i) 8 by rw [jn_in (by omega)]; omega), jn_n (by omega), sq_pg s_ (by omega)]
      by_cases q_ : qpg L i = jg 1
      · obtain ⟨K2_, k2_, s2_⟩ := sq_add (c := 46) s1_.1 (by omega)
        rw [if_pos q_, k2_, ob_s, ob_s]
        refine ⟨_, rfl, jn_add i 1, ?_⟩
        show tT (ylst2 L i (yll L i)) I K2_
        unfold ylst2
        rw [if_pos q_]
        exact tT_tr T1_ s2_
      · obtain ⟨f_, hf_, ef_, _, _⟩ := (qpg_at g (p := i)).resolve_left q_
        obtain ⟨K2_, k2_, s2_⟩ := sq_num (v := f_) s1_.1 (by omega) (by omega)
        rw [if_neg q_, if_pos (show z_in (jn i) 8 by rw [jn_in (by omega)]; omega), ef_, k2_, ob_s, ob_s]
        refine ⟨_, rfl, jn_add i 1, ?_⟩
        show tT (ylst2 L i (yll L i)) I K2_
        unfold ylst2
        rw [if_neg q_, ef_, jn_n (by omega)]
        exact tT_tr T1_ s2_
    · obtain ⟨x1_, x2_⟩ := hp
      unfold d_T_tellLine_2
      rw [x1_, if_neg (by rw [jn_lt (by omega) (by omega)]; omega)]
      exact ⟨_, rfl, x2_⟩
  obtain ⟨r_, e_, t_⟩ := z9_
  refine ⟨r_.2, ?_, t_⟩
  unfold d_T_tellLine
  rw [e_, ob_s]
theorem mq_tellLine (h : qM L B (I 242)) (g : qG L) : ∃ J, ((z_it (d_M_writeLine_4) z_F ((jn 0), (ev_u2 I 241 19 (jn 0)))).bind fun q5 => some (((q5.2 241 19), q5.2))) = some (jn (yll L (qP L)).length, J) ∧ tM (yll L (qP L)) I J := by
  have h1_ := g.1
  have h5_ := g.2.2.2.2.1
  have z9_ : ∃ r, z_it (d_M_writeLine_4) z_F (jn 0, ev_u2 I 241 19 (jn 0)) = some r ∧ tM (yll L (qP L)) I r.2 := by
    refine z_inv (fun (i : Nat) (p : Int32 × z_H) => p.1 = jn i ∧ tM (yll L i) I p.2) (fun (r : Int32 × z_H) => tM (yll L (qP L)) I r.2) (n := qP L) (by omega) ⟨rfl, tM_0⟩ (fun i p hi hp => ?_) (fun p hp => ?_)
    · obtain ⟨x1_, x2_⟩ := hp
      have le1_ := (yll_le (L := L) i).1
      have le_ := (yll_le (L := L) i).2
      have m0_ := tM_M h x2_
      have P_ : jn 0 < jn i ↔ ¬ (yll L i).length = 0 := by
        rw [jn_lt (by omega) (by omega)]
        constructor
        · intro q_; omega
        · intro q_
          rcases Nat.lt_or_ge 0 i with k_ | k_
          · exact k_
          · have k2_ : i = 0 := by omega
            rw [k2_] at q_
            exact absurd rfl q_
      obtain ⟨K1_, k1_, s1_⟩ := mq_btw (c := 47) x2_.1 (by omega) (by omega) P_
      have T1_ := tM_tr x2_ s1_
      have m_ := tM_M h T1_
      have bl_ := btw_le (w := yll L i) (c := 47)
      unfold d_M_writeLine_4
      rw [x1_, if_pos (show z_in (jn 9) 173 by rw [jn_in (by omega)]; omega), if_pos (show jn i < p.2 242 (z_n (jn 9)) by rw [mq_P m0_, jn_lt (by omega) (by omega)]; exact hi), k1_, ob_s, mq_on m_ g, ob_s]
      by_cases q_ : qpg L i = jg 1
      · obtain ⟨K2_, k2_, s2_⟩ := mq_add (c := 46) s1_.1 (by omega) (by omega)
        rw [if_pos q_, k2_, ob_s, ob_s]
        refine ⟨_, rfl, jn_add i 1, ?_⟩
        show tM (ylst2 L i (yll L i)) I K2_
        unfold ylst2
        rw [if_pos q_]
        exact tM_tr T1_ s2_
      · obtain ⟨f_, hf_, ef_, _, _⟩ := (qpg_at g (p := i)).resolve_left q_
        obtain ⟨K2_, k2_, s2_⟩ := mq_num (v := f_) s1_.1 (by omega) (by omega)
        rw [if_neg q_, ob_s, ef_, k2_, ob_s, ob_s]
        refine ⟨_, rfl, jn_add i 1, ?_⟩
        show tM (ylst2 L i (yll L i)) I K2_
        unfold ylst2
        rw [if_neg q_, ef_, jn_n (by omega)]
        exact tM_tr T1_ s2_
    · obtain ⟨x1_, x2_⟩ := hp
      have m0_ := tM_M h x2_
      unfold d_M_writeLine_4
      rw [x1_, if_pos (show z_in (jn 9) 173 by rw [jn_in (by omega)]; omega), if_neg (show ¬ jn (qP L) < p.2 242 (z_n (jn 9)) by rw [mq_P m0_, jn_lt (by omega) (by omega)]; omega)]
      exact ⟨_, rfl, x2_⟩
  obtain ⟨r_, e_, t_⟩ := z9_
  refine ⟨r_.2, ?_, t_⟩
  rw [e_, ob_s, t_.1.1]
end TX2
