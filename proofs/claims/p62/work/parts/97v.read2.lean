/-! further calls that only read, on both sides (wip/gen/zo2.py) -/
section OPS
variable {n B : Nat} {I : z_H}
theorem op_whyNotPut (h : Inv n B I) (x1 : Int32) (x2 : Int32) : ∃ r v J, d_F_whyNotPut n x1 x2 I = some r ∧ d_M_whyNotPut x1 x2 I = some (v, J) ∧ opR [(0, 1), (1, 2)] r v J ∧ Inw n B I J := by
  have h_ := h
  have n10_ : ¬ jn 1 = jn 0 := by decide
  obtain ⟨hn_, _, _, _, s_⟩ := h
  rcases s_ with ⟨a_, b_, _⟩ | ⟨L_, U_, V_, a_, b_, g_, _, _, S_, M_, _⟩
  · exact ⟨.inl 0, jn 0, ev_u2 I 241 0 (jn 1), by simp only [d_F_whyNotPut, f_t0 a_, f_f0 (n := n) a_, f_n0 (n := n) a_, f_u0 (n := n) a_, ob_s, eq_self, if_true, if_false, n10_, not_false_eq_true], by simp only [d_M_whyNotPut, m_mF0 b_, m_mU0 b_, m_mH0 b_, m_look0 b_, m_f0 b_, m_n0 b_, m_u0 b_, m_c0 b_, b_, m_two0, m_may0, ob_s, eq_self, if_true, if_false, n10_, not_false_eq_true], ⟨1, by decide, ju_at ..⟩, Inw_k h_ _⟩
  have F_ := g_.1
  have C_ := g_.2.1
  have N_ := g_.2.2.1
  have T_ := g_.2.2.2.1
  have P_ := g_.2.2.2.2.1
  have M0_ : qM L_ B (ev_u2 I 241 0 (jn 0) 242) := by rw [ju_na (by omega)]; exact M_
  by_cases hx_ : jlt x1 (qF L_)
  rotate_left
  · exact ⟨.inl 1, jn 0, ev_u2 I 241 0 (jn 2), by simp only [d_F_whyNotPut, f_fN a_ S_ g_ hx_, ob_s, eq_self, if_true, if_false, n10_, not_false_eq_true], by simp only [d_M_whyNotPut, m_fN b_ M_ g_ hx_, b_, m_two1, m_twoY, m_may1, m_may2, m_mayY, ob_s, eq_self, if_true, if_false, n10_, not_false_eq_true], ⟨2, by decide, ju_at ..⟩, Inw_k h_ _⟩
  by_cases hy_ : jlt x2 (qT L_)
  rotate_left
  · exact ⟨.inl 1, jn 0, ev_u2 I 241 0 (jn 2), by simp only [d_F_whyNotPut, f_fY a_ S_ g_ hx_, f_uN a_ S_ g_ hy_, ob_s, eq_self, if_true, if_false, n10_, not_false_eq_true], by simp only [d_M_whyNotPut, m_fY b_ M_ g_ hx_, m_uN b_ M_ g_ hy_, b_, m_two1, m_twoY, m_may1, m_may2, m_mayY, ob_s, eq_self, if_true, if_false, n10_, not_false_eq_true], ⟨2, by decide, ju_at ..⟩, Inw_k h_ _⟩
  have hx2_ := hx_
  have hy2_ := hy_
  obtain ⟨k_, hk_, rfl⟩ := hx_
  obtain ⟨t_, ht_, rfl⟩ := hy_
  exact ⟨.inr (yput L_ k_ t_), yput L_ k_ t_, ev_u2 I 241 0 (jn 0), by simp only [d_F_whyNotPut, f_fY a_ S_ g_ hx2_, f_uY a_ S_ g_ hy2_, sq_put S_ g_ hk_ ht_, ob_s, eq_self, if_true, if_false, n10_, not_false_eq_true] <;> rfl, by simp only [d_M_whyNotPut, m_fY b_ M_ g_ hx2_, m_uY b_ M_ g_ hy2_, b_, m_two1, m_twoY, m_may1, m_may2, m_mayY, mq_put M0_ g_ hk_ ht_, ob_s, eq_self, if_true, if_false, n10_, not_false_eq_true] <;> rfl, ⟨rfl, ju_at ..⟩, Inw_k h_ _⟩
theorem op_doNotMix (h : Inv n B I) (x1 : Int32) (x2 : Int32) (x3 : Int32) : ∃ r v J, d_F_doNotMix n x1 x2 x3 I = some r ∧ d_M_doNotMix x1 x2 x3 I = some (v, J) ∧ opR [(0, 1), (1, 2), (2, 3)] r v J ∧ Inw n B I J := by
  have h_ := h
  have n10_ : ¬ jn 1 = jn 0 := by decide
  obtain ⟨hn_, _, _, _, s_⟩ := h
  obtain ⟨hb_, eh_⟩ := m_hB x3
  rcases s_ with ⟨a_, b_, _⟩ | ⟨L_, U_, V_, a_, b_, g_, _, _, S_, M_, _⟩
  · exact ⟨.inl 0, jn 0, ev_u2 I 241 0 (jn 1), by simp only [d_F_doNotMix, f_t0 a_, f_f0 (n := n) a_, f_n0 (n := n) a_, f_u0 (n := n) a_, ob_s, eq_self, if_true, if_false, n10_, not_false_eq_true], by simp only [d_M_doNotMix, m_mF0 b_, m_mU0 b_, m_mH0 b_, m_look0 b_, m_f0 b_, m_n0 b_, m_u0 b_, m_c0 b_, b_, m_two0, m_may0, eh_, ob_s, eq_self, if_true, if_false, n10_, not_false_eq_true], ⟨1, by decide, ju_at ..⟩, Inw_k h_ _⟩
  have F_ := g_.1
  have C_ := g_.2.1
  have N_ := g_.2.2.1
  have T_ := g_.2.2.2.1
  have P_ := g_.2.2.2.2.1
  have M0_ : qM L_ B (ev_u2 I 241 0 (jn 0) 242) := by rw [ju_na (by omega)]; exact M_
  by_cases hx_ : jlt x1 (qF L_)
  rotate_left
  · exact ⟨.inl 1, jn 0, ev_u2 I 241 0 (jn 2), by simp only [d_F_doNotMix, f_fN a_ S_ g_ hx_, ob_s, eq_self, if_true, if_false, n10_, not_false_eq_true], by simp only [d_M_doNotMix, m_fN b_ M_ g_ hx_, b_, m_two1, m_twoY, m_may1, m_may2, m_mayY, eh_, ob_s, eq_self, if_true, if_false, n10_, not_false_eq_true], ⟨2, by decide, ju_at ..⟩, Inw_k h_ _⟩
  by_cases hy_ : jlt x2 (qF L_)
  rotate_left
  · exact ⟨.inl 1, jn 0, ev_u2 I 241 0 (jn 2), by simp only [d_F_doNotMix, f_fY a_ S_ g_ hx_, f_fN a_ S_ g_ hy_, ob_s, eq_self, if_true, if_false, n10_, not_false_eq_true], by simp only [d_M_doNotMix, m_fY b_ M_ g_ hx_, m_fN b_ M_ g_ hy_, b_, m_two1, m_twoY, m_may1, m_may2, m_mayY, eh_, ob_s, eq_self, if_true, if_false, n10_, not_false_eq_true], ⟨2, by decide, ju_at ..⟩, Inw_k h_ _⟩
  by_cases hz_ : hOk x3
  rotate_left
  · exact ⟨.inl 2, jn 0, ev_u2 I 241 0 (jn 3), by simp only [d_F_doNotMix, f_fY a_ S_ g_ hx_, f_fY a_ S_ g_ hy_, f_hN hz_, ob_s, eq_self, if_true, if_false, n10_, not_false_eq_true], by simp only [d_M_doNotMix, m_fY b_ M_ g_ hx_, m_fY b_ M_ g_ hy_, m_hN hz_, b_, m_two1, m_twoY, m_may1, m_may2, m_mayY, ob_s, eq_self, if_true, if_false, n10_, not_false_eq_true], ⟨3, by decide, ju_at ..⟩, Inw_k h_ _⟩
  have hx2_ := hx_
  have hy2_ := hy_
  obtain ⟨k_, hk_, rfl⟩ := hx_
  obtain ⟨t_, ht_, rfl⟩ := hy_
  exact ⟨.inr (ymix L_ k_ t_ x3), ymix L_ k_ t_ x3, ev_u2 I 241 0 (jn 0), by simp only [d_F_doNotMix, f_fY a_ S_ g_ hx2_, f_fY a_ S_ g_ hy2_, f_hY hz_, sq_mix S_ g_ hk_ ht_, ob_s, eq_self, if_true, if_false, n10_, not_false_eq_true] <;> rfl, by simp only [d_M_doNotMix, m_fY b_ M_ g_ hx2_, m_fY b_ M_ g_ hy2_, m_hY hz_, b_, m_two1, m_twoY, m_may1, m_may2, m_mayY, mq_mix M0_ g_ hk_ ht_, ob_s, eq_self, if_true, if_false, n10_, not_false_eq_true] <;> rfl, ⟨rfl, ju_at ..⟩, Inw_k h_ _⟩
theorem op_purest (h : Inv n B I) (x1 : Int32) : ∃ r v J, d_F_purest n x1 I = some r ∧ d_M_purest x1 I = some (v, J) ∧ opR [(0, 1), (2, 2)] r v J ∧ Inw n B I J := by
  have h_ := h
  have n10_ : ¬ jn 1 = jn 0 := by decide
  obtain ⟨hn_, _, _, _, s_⟩ := h
  obtain ⟨hb_, eh_⟩ := m_hB x1
  rcases s_ with ⟨a_, b_, _⟩ | ⟨L_, U_, V_, a_, b_, g_, _, _, S_, M_, _⟩
  · exact ⟨.inl 0, jn 0, ev_u2 I 241 0 (jn 1), by simp only [d_F_purest, f_t0 a_, f_f0 (n := n) a_, f_n0 (n := n) a_, f_u0 (n := n) a_, ob_s, eq_self, if_true, if_false, n10_, not_false_eq_true], by simp only [d_M_purest, m_mF0 b_, m_mU0 b_, m_mH0 b_, m_look0 b_, m_f0 b_, m_n0 b_, m_u0 b_, m_c0 b_, b_, m_two0, m_may0, eh_, ob_s, eq_self, if_true, if_false, n10_, not_false_eq_true], ⟨1, by decide, ju_at ..⟩, Inw_k h_ _⟩
  have F_ := g_.1
  have C_ := g_.2.1
  have N_ := g_.2.2.1
  have T_ := g_.2.2.2.1
  have P_ := g_.2.2.2.2.1
  have M0_ : qM L_ B (ev_u2 I 241 0 (jn 0) 242) := by rw [ju_na (by omega)]; exact M_
  by_cases hz_ : hOk x1
  rotate_left
  · exact ⟨.inl 2, jn 0, ev_u2 I 241 0 (jn 2), by simp only [d_F_purest, f_t1 a_, f_hN hz_, ob_s, eq_self, if_true, if_false, n10_, not_false_eq_true], by simp only [d_M_purest, m_hN hz_, b_, m_two1, m_twoY, m_may1, m_may2, m_mayY, ob_s, eq_self, if_true, if_false, n10_, not_false_eq_true], ⟨2, by decide, ju_at ..⟩, Inw_k h_ _⟩
  exact ⟨.inr (ypure L_ x1), ypure L_ x1, ev_u2 I 241 0 (jn 0), by simp only [d_F_purest, f_t1 a_, f_hY hz_, sq_pure S_ g_, ob_s, eq_self, if_true, if_false, n10_, not_false_eq_true] <;> rfl, by simp only [d_M_purest, m_hY hz_, b_, m_two1, m_twoY, m_may1, m_may2, m_mayY, mq_pure (q := (jn 1, ev_u2 I 241 0 (jn 0))) M0_ g_ x1, ob_s, eq_self, if_true, if_false, n10_, not_false_eq_true] <;> rfl, ⟨rfl, ju_at ..⟩, Inw_k h_ _⟩
theorem op_onPeg (h : Inv n B I) (x1 : Int32) : ∃ r v J, d_F_onPeg n x1 I = some r ∧ d_M_onPeg x1 I = some (v, J) ∧ opR [(0, 1), (1, 2)] r v J ∧ Inw n B I J := by
  have h_ := h
  have n10_ : ¬ jn 1 = jn 0 := by decide
  obtain ⟨hn_, _, _, _, s_⟩ := h
  rcases s_ with ⟨a_, b_, _⟩ | ⟨L_, U_, V_, a_, b_, g_, _, _, S_, M_, _⟩
  · exact ⟨.inl 0, jn 0, ev_u2 I 241 0 (jn 1), by simp only [d_F_onPeg, f_t0 a_, f_f0 (n := n) a_, f_n0 (n := n) a_, f_u0 (n := n) a_, ob_s, eq_self, if_true, if_false, n10_, not_false_eq_true], by simp only [d_M_onPeg, m_mF0 b_, m_mU0 b_, m_mH0 b_, m_look0 b_, m_f0 b_, m_n0 b_, m_u0 b_, m_c0 b_, b_, m_two0, m_may0, ob_s, eq_self, if_true, if_false, n10_, not_false_eq_true], ⟨1, by decide, ju_at ..⟩, Inw_k h_ _⟩
  have F_ := g_.1
  have C_ := g_.2.1
  have N_ := g_.2.2.1
  have T_ := g_.2.2.2.1
  have P_ := g_.2.2.2.2.1
  have M0_ : qM L_ B (ev_u2 I 241 0 (jn 0) 242) := by rw [ju_na (by omega)]; exact M_
  by_cases hx_ : jlt x1 (qP L_)
  rotate_left
  · have p_ : I (n + 1) 0 = jn (qP L_) := S_.2.2.1
    refine ⟨.inl 1, jn 0, ev_u2 I 241 0 (jn 2), ?_, by simp only [d_M_onPeg, b_, n10_, mq_P M_, if_pos (in173 (show 9 < 173 by omega)), m_gN (show qP L_ < 1000 by omega) hx_, m_two1, ob_s, eq_self, if_true, if_false], ⟨2, by decide, ju_at ..⟩, Inw_k h_ _⟩
    unfold d_F_onPeg
    rw [f_t1 a_, ob_s]
    dsimp only
    rw [p_]
    rcases jltN (by omega) hx_ with q_ | q_
    · rw [if_pos q_]
    · by_cases q2_ : x1 < jn 0
      · rw [if_pos q2_]
      · rw [if_neg q2_, if_neg q_]
  have hx2_ := hx_
  obtain ⟨k_, hk_, rfl⟩ := hx_
  have p_ : I (n + 1) 0 = jn (qP L_) := S_.2.2.1
  have y_ := jltY (show qP L_ < 1000 by omega) hx2_
  have i8_ : z_in (jn k_) 8 := by rw [jn_in (by omega)]; omega
  have w_ : I (n + 7 + 16) (z_n (jn k_)) = qpg L_ k_ := by rw [jn_n (by omega)]; exact sq_pg S_ (by omega)
  exact ⟨.inr (qpg L_ k_), qpg L_ k_, ev_u2 I 241 0 (jn 0), by simp only [d_F_onPeg, f_t1 a_, p_, y_.1, y_.2, if_pos i8_, w_, ob_s, eq_self, if_true, if_false, n10_, not_false_eq_true] <;> rfl, by simp only [d_M_onPeg, b_, mq_P M_, if_pos (in173 (show 9 < 173 by omega)), m_gY (show qP L_ < 1000 by omega) hx2_, m_twoY, mq_on M0_ g_, ob_s, eq_self, if_true, if_false, n10_, not_false_eq_true] <;> rfl, ⟨rfl, ju_at ..⟩, Inw_k h_ _⟩
theorem op_inTub (h : Inv n B I) (x1 : Int32) (x2 : Int32) : ∃ r v J, d_F_inTub n x1 x2 I = some r ∧ d_M_inTub x1 x2 I = some (v, J) ∧ opR [(0, 1), (1, 2)] r v J ∧ Inw n B I J := by
  have h_ := h
  have n10_ : ¬ jn 1 = jn 0 := by decide
  obtain ⟨hn_, _, _, _, s_⟩ := h
  rcases s_ with ⟨a_, b_, _⟩ | ⟨L_, U_, V_, a_, b_, g_, _, _, S_, M_, _⟩
  · exact ⟨.inl 0, jn 0, ev_u2 I 241 0 (jn 1), by simp only [d_F_inTub, f_t0 a_, f_f0 (n := n) a_, f_n0 (n := n) a_, f_u0 (n := n) a_, ob_s, eq_self, if_true, if_false, n10_, not_false_eq_true], by simp only [d_M_inTub, m_mF0 b_, m_mU0 b_, m_mH0 b_, m_look0 b_, m_f0 b_, m_n0 b_, m_u0 b_, m_c0 b_, b_, m_two0, m_may0, ob_s, eq_self, if_true, if_false, n10_, not_false_eq_true], ⟨1, by decide, ju_at ..⟩, Inw_k h_ _⟩
  have F_ := g_.1
  have C_ := g_.2.1
  have N_ := g_.2.2.1
  have T_ := g_.2.2.2.1
  have P_ := g_.2.2.2.2.1
  have M0_ : qM L_ B (ev_u2 I 241 0 (jn 0) 242) := by rw [ju_na (by omega)]; exact M_
  by_cases hx_ : jlt x1 (qT L_)
  rotate_left
  · exact ⟨.inl 1, jn 0, ev_u2 I 241 0 (jn 2), by simp only [d_F_inTub, f_uN a_ S_ g_ hx_, ob_s, eq_self, if_true, if_false, n10_, not_false_eq_true], by simp only [d_M_inTub, m_mUN b_ M_ g_ hx_, ob_s, eq_self, if_true, if_false, n10_, not_false_eq_true], ⟨2, by decide, ju_at ..⟩, Inw_k h_ _⟩
  have hx2_ := hx_
  obtain ⟨k_, hk_, rfl⟩ := hx_
  refine ⟨.inr (yin L_ k_ x2), yin L_ k_ x2, ev_u2 I 241 0 (jn 0), ?_, by simp only [d_M_inTub, m_mUY b_ M_ g_ hx2_, mq_flagIn M0_ g_ hk_, ob_s, n10_, if_false], ⟨rfl, ju_at ..⟩, Inw_k h_ _⟩
  unfold d_F_inTub
  rw [f_uY a_ S_ g_ hx2_, ob_s]
  dsimp only
  rw [sq_inT S_ g_ hk_, ob_s]
theorem op_bestHeat (h : Inv n B I) (x1 : Int32) : ∃ r v J, d_F_bestHeat n x1 I = some r ∧ d_M_bestHeat x1 I = some (v, J) ∧ opR [(0, 1), (1, 2)] r v J ∧ Inw n B I J := by
  have h_ := h
  have n10_ : ¬ jn 1 = jn 0 := by decide
  obtain ⟨hn_, _, _, _, s_⟩ := h
  rcases s_ with ⟨a_, b_, _⟩ | ⟨L_, U_, V_, a_, b_, g_, _, _, S_, M_, _⟩
  · exact ⟨.inl 0, jn 0, ev_u2 I 241 0 (jn 1), by simp only [d_F_bestHeat, f_t0 a_, f_f0 (n := n) a_, f_n0 (n := n) a_, f_u0 (n := n) a_, ob_s, eq_self, if_true, if_false, n10_, not_false_eq_true], by simp only [d_M_bestHeat, m_mF0 b_, m_mU0 b_, m_mH0 b_, m_look0 b_, m_f0 b_, m_n0 b_, m_u0 b_, m_c0 b_, b_, m_two0, m_may0, ob_s, eq_self, if_true, if_false, n10_, not_false_eq_true], ⟨1, by decide, ju_at ..⟩, Inw_k h_ _⟩
  have F_ := g_.1
  have C_ := g_.2.1
  have N_ := g_.2.2.1
  have T_ := g_.2.2.2.1
  have P_ := g_.2.2.2.2.1
  have M0_ : qM L_ B (ev_u2 I 241 0 (jn 0) 242) := by rw [ju_na (by omega)]; exact M_
  by_cases hx_ : jlt x1 (qT L_)
  rotate_left
  · exact ⟨.inl 1, jn 0, ev_u2 I 241 0 (jn 2), by simp only [d_F_bestHeat, f_uN a_ S_ g_ hx_, ob_s, eq_self, if_true, if_false, n10_, not_false_eq_true], by simp only [d_M_bestHeat, m_mUN b_ M_ g_ hx_, ob_s, eq_self, if_true, if_false, n10_, not_false_eq_true], ⟨2, by decide, ju_at ..⟩, Inw_k h_ _⟩
  have hx2_ := hx_
  obtain ⟨k_, hk_, rfl⟩ := hx_
  refine ⟨.inr (ybh L_ k_), ybh L_ k_, ev_u2 I 241 0 (jn 0), by simp only [d_F_bestHeat, f_uY a_ S_ g_ hx2_, sq_best S_ g_ hk_, ob_s], ?_, ⟨rfl, ju_at ..⟩, Inw_k h_ _⟩
  obtain ⟨e_, eb_⟩ := mq_best (q := (jn 1, ev_u2 I 241 0 (jn 0))) M0_ g_ hk_
  unfold ybh
  by_cases l_ : jn (qt L_ k_).length = jn 0
  · simp only [d_M_bestHeat, m_mUY b_ M_ g_ hx2_, mq_many M0_ g_ hk_, ob_s, n10_, if_false, l_, if_true, eq_self]
  · simp only [d_M_bestHeat, m_mUY b_ M_ g_ hx2_, mq_many M0_ g_ hk_, ob_s, n10_, if_false, l_, eb_]
theorem op_count (h : Inv n B I) (x1 : Int32) : ∃ r v J, d_F_count n x1 I = some r ∧ d_M_count x1 I = some (v, J) ∧ opR [(0, 1), (2, 2)] r v J ∧ Inw n B I J := by
  have h_ := h
  have n10_ : ¬ jn 1 = jn 0 := by decide
  obtain ⟨hn_, _, _, _, s_⟩ := h
  rcases s_ with ⟨a_, b_, _⟩ | ⟨L_, U_, V_, a_, b_, g_, _, _, S_, M_, _⟩
  · exact ⟨.inl 0, jn 0, ev_u2 I 241 0 (jn 1), by simp only [d_F_count, f_t0 a_, f_f0 (n := n) a_, f_n0 (n := n) a_, f_u0 (n := n) a_, ob_s, eq_self, if_true, if_false, n10_, not_false_eq_true], by simp only [d_M_count, m_mF0 b_, m_mU0 b_, m_mH0 b_, m_look0 b_, m_f0 b_, m_n0 b_, m_u0 b_, m_c0 b_, b_, m_two0, m_may0, rp_rng, ob_s, eq_self, if_true, if_false, n10_, not_false_eq_true], ⟨1, by decide, ju_at ..⟩, Inw_k h_ _⟩
  have F_ := g_.1
  have C_ := g_.2.1
  have N_ := g_.2.2.1
  have T_ := g_.2.2.2.1
  have P_ := g_.2.2.2.2.1
  have M0_ : qM L_ B (ev_u2 I 241 0 (jn 0) 242) := by rw [ju_na (by omega)]; exact M_
  by_cases hy_ : ¬ x1 < jn 0 ∧ ¬ jn 15 < x1
  rotate_left
  · exact ⟨.inl 2, jn 0, ev_u2 I 241 0 (jn 2), by simp only [d_F_count, f_t1 a_, f_rN hy_, ob_s, eq_self, if_true, if_false, n10_, not_false_eq_true], by simp only [d_M_count, m_rN hy_, b_, m_two1, m_twoY, m_may1, m_may2, m_mayY, ob_s, eq_self, if_true, if_false, n10_, not_false_eq_true], ⟨2, by decide, ju_at ..⟩, Inw_k h_ _⟩
  have hy2_ := hy_
  obtain ⟨k_, _, hk_, rfl⟩ := jrg (by omega) (by omega) hy_.1 hy_.2
  have c_ : k_ = 0 ∨ k_ = 1 ∨ k_ = 2 ∨ k_ = 3 ∨ k_ = 4 ∨ k_ = 5 ∨ k_ = 6 ∨ k_ = 7 ∨ k_ = 8 ∨ k_ = 9 ∨ k_ = 10 ∨ k_ = 11 ∨ k_ = 12 ∨ k_ = 13 ∨ k_ = 14 ∨ k_ = 15 := by omega
  rcases c_ with rfl | rfl | rfl | rfl | rfl | rfl | rfl | rfl | rfl | rfl | rfl | rfl | rfl | rfl | rfl | rfl
  · exact ⟨.inr (jn (qC L_)), jn (qC L_), ev_u2 I 241 0 (jn 0), by simp only [d_F_count, f_t1 a_, f_rYi hy2_, S_.2.2.2.1, ob_s, eq_self, if_true, if_false, n10_, not_false_eq_true] <;> rfl, by simp only [d_M_count, m_rY hy2_, b_, m_two1, m_twoY, m_may1, m_may2, m_mayY, if_pos (in173 (show 6 < 173 by omega)), m_c6 M0_, ob_s, eq_self, if_true, if_false, n10_, not_false_eq_true] <;> rfl, ⟨rfl, ju_at ..⟩, Inw_k h_ _⟩
  · exact ⟨.inr (jn (qN L_)), jn (qN L_), ev_u2 I 241 0 (jn 0), by simp only [d_F_count, f_t1 a_, f_rYi hy2_, (show ¬ jn 1 = jn 0 by decide), S_.2.2.2.2.1, ob_s, eq_self, if_true, if_false, n10_, not_false_eq_true] <;> rfl, by simp only [d_M_count, m_rY hy2_, b_, m_two1, m_twoY, m_may1, m_may2, m_mayY, (show ¬ jn 1 = jn 0 by decide), if_pos (in173 (show 7 < 173 by omega)), m_c7 M0_, ob_s, eq_self, if_true, if_false, n10_, not_false_eq_true] <;> rfl, ⟨rfl, ju_at ..⟩, Inw_k h_ _⟩
  · exact ⟨.inr (jn (qT L_)), jn (qT L_), ev_u2 I 241 0 (jn 0), by simp only [d_F_count, f_t1 a_, f_rYi hy2_, (show ¬ jn 2 = jn 0 by decide), (show ¬ jn 2 = jn 1 by decide), S_.2.2.2.2.2.1, ob_s, eq_self, if_true, if_false, n10_, not_false_eq_true] <;> rfl, by simp only [d_M_count, m_rY hy2_, b_, m_two1, m_twoY, m_may1, m_may2, m_mayY, (show ¬ jn 2 = jn 0 by decide), (show ¬ jn 2 = jn 1 by decide), if_pos (in173 (show 8 < 173 by omega)), m_c8 M0_, ob_s, eq_self, if_true, if_false, n10_, not_false_eq_true] <;> rfl, ⟨rfl, ju_at ..⟩, Inw_k h_ _⟩
  · exact ⟨.inr (jn (qP L_)), jn (qP L_), ev_u2 I 241 0 (jn 0), by simp only [d_F_count, f_t1 a_, f_rYi hy2_, (show ¬ jn 3 = jn 0 by decide), (show ¬ jn 3 = jn 1 by decide), (show ¬ jn 3 = jn 2 by decide), S_.2.2.1, ob_s, eq_self, if_true, if_false, n10_, not_false_eq_true] <;> rfl, by simp only [d_M_count, m_rY hy2_, b_, m_two1, m_twoY, m_may1, m_may2, m_mayY, (show ¬ jn 3 = jn 0 by decide), (show ¬ jn 3 = jn 1 by decide), (show ¬ jn 3 = jn 2 by decide), if_pos (in173 (show 9 < 173 by omega)), mq_P M0_, ob_s, eq_self, if_true, if_false, n10_, not_false_eq_true] <;> rfl, ⟨rfl, ju_at ..⟩, Inw_k h_ _⟩
  · exact ⟨.inr (jn (qF L_)), jn (qF L_), ev_u2 I 241 0 (jn 0), by simp only [d_F_count, f_t1 a_, f_rYi hy2_, (show ¬ jn 4 = jn 0 by decide), (show ¬ jn 4 = jn 1 by decide), (show ¬ jn 4 = jn 2 by decide), (show ¬ jn 4 = jn 3 by decide), S_.2.1, ob_s, eq_self, if_true, if_false, n10_, not_false_eq_true] <;> rfl, by simp only [d_M_count, m_rY hy2_, b_, m_two1, m_twoY, m_may1, m_may2, m_mayY, (show ¬ jn 4 = jn 0 by decide), (show ¬ jn 4 = jn 1 by decide), (show ¬ jn 4 = jn 2 by decide), (show ¬ jn 4 = jn 3 by decide), if_pos (in173 (show 10 < 173 by omega)), mq_F M0_, ob_s, eq_self, if_true, if_false, n10_, not_false_eq_true] <;> rfl, ⟨rfl, ju_at ..⟩, Inw_k h_ _⟩
  · exact ⟨.inr (qs L_ 0), qs L_ 0, ev_u2 I 241 0 (jn 0), by simp only [d_F_count, f_t1 a_, f_rYi hy2_, (show ¬ jn 5 = jn 0 by decide), (show ¬ jn 5 = jn 1 by decide), (show ¬ jn 5 = jn 2 by decide), (show ¬ jn 5 = jn 3 by decide), (show ¬ jn 5 = jn 4 by decide), sq_now S_ (show 0 < 6 by omega), ob_s, eq_self, if_true, if_false, n10_, not_false_eq_true] <;> rfl, by simp only [d_M_count, m_rY hy2_, b_, m_two1, m_twoY, m_may1, m_may2, m_mayY, (show ¬ jn 5 = jn 0 by decide), (show ¬ jn 5 = jn 1 by decide), (show ¬ jn 5 = jn 2 by decide), (show ¬ jn 5 = jn 3 by decide), (show ¬ jn 5 = jn 4 by decide), if_pos (in173 (show 0 < 173 by omega)), mq_now M0_ (show 0 < 6 by omega), ob_s, eq_self, if_true, if_false, n10_, not_false_eq_true] <;> rfl, ⟨rfl, ju_at ..⟩, Inw_k h_ _⟩
  · exact ⟨.inr (qs L_ 1), qs L_ 1, ev_u2 I 241 0 (jn 0), by simp only [d_F_count, f_t1 a_, f_rYi hy2_, (show ¬ jn 6 = jn 0 by decide), (show ¬ jn 6 = jn 1 by decide), (show ¬ jn 6 = jn 2 by decide), (show ¬ jn 6 = jn 3 by decide), (show ¬ jn 6 = jn 4 by decide), (show ¬ jn 6 = jn 5 by decide), sq_now S_ (show 1 < 6 by omega), ob_s, eq_self, if_true, if_false, n10_, not_false_eq_true] <;> rfl, by simp only [d_M_count, m_rY hy2_, b_, m_two1, m_twoY, m_may1, m_may2, m_mayY, (show ¬ jn 6 = jn 0 by decide), (show ¬ jn 6 = jn 1 by decide), (show ¬ jn 6 = jn 2 by decide), (show ¬ jn 6 = jn 3 by decide), (show ¬ jn 6 = jn 4 by decide), (show ¬ jn 6 = jn 5 by decide), if_pos (in173 (show 1 < 173 by omega)), mq_now M0_ (show 1 < 6 by omega), ob_s, eq_self, if_true, if_false, n10_, not_false_eq_true] <;> rfl, ⟨rfl, ju_at ..⟩, Inw_k h_ _⟩
  · exact ⟨.inr (qct (fun f => qf L_ f 8 = jn 0) (qF L_)), qct (fun f => qf L_ f 8 = jn 0) (qF L_), ev_u2 I 241 0 (jn 0), by simp only [d_F_count, f_t1 a_, f_rYi hy2_, (show ¬ jn 7 = jn 0 by decide), (show ¬ jn 7 = jn 1 by decide), (show ¬ jn 7 = jn 2 by decide), (show ¬ jn 7 = jn 3 by decide), (show ¬ jn 7 = jn 4 by decide), (show ¬ jn 7 = jn 5 by decide), (show ¬ jn 7 = jn 6 by decide), sq_flagsAt S_ g_, ob_s, eq_self, if_true, if_false, n10_, not_false_eq_true] <;> rfl, by simp only [d_M_count, m_rY hy2_, b_, m_two1, m_twoY, m_may1, m_may2, m_mayY, (show ¬ jn 7 = jn 0 by decide), (show ¬ jn 7 = jn 1 by decide), (show ¬ jn 7 = jn 2 by decide), (show ¬ jn 7 = jn 3 by decide), (show ¬ jn 7 = jn 4 by decide), (show ¬ jn 7 = jn 5 by decide), (show ¬ jn 7 = jn 6 by decide), (show jn 7 - jn 7 = jn 0 by decide), mq_flagsAt M0_ g_, ob_s, eq_self, if_true, if_false, n10_, not_false_eq_true] <;> rfl, ⟨rfl, ju_at ..⟩, Inw_k h_ _⟩
  · exact ⟨.inr (qct (fun f => qf L_ f 8 = jn 1) (qF L_)), qct (fun f => qf L_ f 8 = jn 1) (qF L_), ev_u2 I 241 0 (jn 0), by simp only [d_F_count, f_t1 a_, f_rYi hy2_, (show ¬ jn 8 = jn 0 by decide), (show ¬ jn 8 = jn 1 by decide), (show ¬ jn 8 = jn 2 by decide), (show ¬ jn 8 = jn 3 by decide), (show ¬ jn 8 = jn 4 by decide), (show ¬ jn 8 = jn 5 by decide), (show ¬ jn 8 = jn 6 by decide), (show ¬ jn 8 = jn 7 by decide), sq_flagsAt S_ g_, ob_s, eq_self, if_true, if_false, n10_, not_false_eq_true] <;> rfl, by simp only [d_M_count, m_rY hy2_, b_, m_two1, m_twoY, m_may1, m_may2, m_mayY, (show ¬ jn 8 = jn 0 by decide), (show ¬ jn 8 = jn 1 by decide), (show ¬ jn 8 = jn 2 by decide), (show ¬ jn 8 = jn 3 by decide), (show ¬ jn 8 = jn 4 by decide), (show ¬ jn 8 = jn 5 by decide), (show ¬ jn 8 = jn 6 by decide), (show ¬ jn 8 = jn 7 by decide), (show jn 8 - jn 7 = jn 1 by decide), mq_flagsAt M0_ g_, ob_s, eq_self, if_true, if_false, n10_, not_false_eq_true] <;> rfl, ⟨rfl, ju_at ..⟩, Inw_k h_ _⟩
  · exact ⟨.inr (qct (fun f => qf L_ f 8 = jn 2) (qF L_)), qct (fun f => qf L_ f 8 = jn 2) (qF L_), ev_u2 I 241 0 (jn 0), by simp only [d_F_count, f_t1 a_, f_rYi hy2_, (show ¬ jn 9 = jn 0 by decide), (show ¬ jn 9 = jn 1 by decide), (show ¬ jn 9 = jn 2 by decide), (show ¬ jn 9 = jn 3 by decide), (show ¬ jn 9 = jn 4 by decide), (show ¬ jn 9 = jn 5 by decide), (show ¬ jn 9 = jn 6 by decide), (show ¬ jn 9 = jn 7 by decide), (show ¬ jn 9 = jn 8 by decide), sq_flagsAt S_ g_, ob_s, eq_self, if_true, if_false, n10_, not_false_eq_true] <;> rfl, by simp only [d_M_count, m_rY hy2_, b_, m_two1, m_twoY, m_may1, m_may2, m_mayY, (show ¬ jn 9 = jn 0 by decide), (show ¬ jn 9 = jn 1 by decide), (show ¬ jn 9 = jn 2 by decide), (show ¬ jn 9 = jn 3 by decide), (show ¬ jn 9 = jn 4 by decide), (show ¬ jn 9 = jn 5 by decide), (show ¬ jn 9 = jn 6 by decide), (show ¬ jn 9 = jn 7 by decide), (show ¬ jn 9 = jn 8 by decide), (show jn 9 - jn 7 = jn 2 by decide), mq_flagsAt M0_ g_, ob_s, eq_self, if_true, if_false, n10_, not_false_eq_true] <;> rfl, ⟨rfl, ju_at ..⟩, Inw_k h_ _⟩
  · exact ⟨.inr (qct (fun f => qf L_ f 8 = jn 3) (qF L_)), qct (fun f => qf L_ f 8 = jn 3) (qF L_), ev_u2 I 241 0 (jn 0), by simp only [d_F_count, f_t1 a_, f_rYi hy2_, (show ¬ jn 10 = jn 0 by decide), (show ¬ jn 10 = jn 1 by decide), (show ¬ jn 10 = jn 2 by decide), (show ¬ jn 10 = jn 3 by decide), (show ¬ jn 10 = jn 4 by decide), (show ¬ jn 10 = jn 5 by decide), (show ¬ jn 10 = jn 6 by decide), (show ¬ jn 10 = jn 7 by decide), (show ¬ jn 10 = jn 8 by decide), (show ¬ jn 10 = jn 9 by decide), sq_flagsAt S_ g_, ob_s, eq_self, if_true, if_false, n10_, not_false_eq_true] <;> rfl, by simp only [d_M_count, m_rY hy2_, b_, m_two1, m_twoY, m_may1, m_may2, m_mayY, (show ¬ jn 10 = jn 0 by decide), (show ¬ jn 10 = jn 1 by decide), (show ¬ jn 10 = jn 2 by decide), (show ¬ jn 10 = jn 3 by decide), (show ¬ jn 10 = jn 4 by decide), (show ¬ jn 10 = jn 5 by decide), (show ¬ jn 10 = jn 6 by decide), (show ¬ jn 10 = jn 7 by decide), (show ¬ jn 10 = jn 8 by decide), (show ¬ jn 10 = jn 9 by decide), (show jn 10 - jn 7 = jn 3 by decide), mq_flagsAt M0_ g_, ob_s, eq_self, if_true, if_false, n10_, not_false_eq_true] <;> rfl, ⟨rfl, ju_at ..⟩, Inw_k h_ _⟩
  · exact ⟨.inr (qs L_ 2), qs L_ 2, ev_u2 I 241 0 (jn 0), by simp only [d_F_count, f_t1 a_, f_rYi hy2_, (show ¬ jn 11 = jn 0 by decide), (show ¬ jn 11 = jn 1 by decide), (show ¬ jn 11 = jn 2 by decide), (show ¬ jn 11 = jn 3 by decide), (show ¬ jn 11 = jn 4 by decide), (show ¬ jn 11 = jn 5 by decide), (show ¬ jn 11 = jn 6 by decide), (show ¬ jn 11 = jn 7 by decide), (show ¬ jn 11 = jn 8 by decide), (show ¬ jn 11 = jn 9 by decide), (show ¬ jn 11 = jn 10 by decide), sq_now S_ (show 2 < 6 by omega), ob_s, eq_self, if_true, if_false, n10_, not_false_eq_true] <;> rfl, by simp only [d_M_count, m_rY hy2_, b_, m_two1, m_twoY, m_may1, m_may2, m_mayY, (show ¬ jn 11 = jn 0 by decide), (show ¬ jn 11 = jn 1 by decide), (show ¬ jn 11 = jn 2 by decide), (show ¬ jn 11 = jn 3 by decide), (show ¬ jn 11 = jn 4 by decide), (show ¬ jn 11 = jn 5 by decide), (show ¬ jn 11 = jn 6 by decide), (show ¬ jn 11 = jn 7 by decide), (show ¬ jn 11 = jn 8 by decide), (show ¬ jn 11 = jn 9 by decide), (show ¬ jn 11 = jn 10 by decide), if_pos (in173 (show 2 < 173 by omega)), mq_now M0_ (show 2 < 6 by omega), ob_s, eq_self, if_true, if_false, n10_, not_false_eq_true] <;> rfl, ⟨rfl, ju_at ..⟩, Inw_k h_ _⟩
  · exact ⟨.inr (qs L_ 3), qs L_ 3, ev_u2 I 241 0 (jn 0), by simp only [d_F_count, f_t1 a_, f_rYi hy2_, (show ¬ jn 12 = jn 0 by decide), (show ¬ jn 12 = jn 1 by decide), (show ¬ jn 12 = jn 2 by decide), (show ¬ jn 12 = jn 3 by decide), (show ¬ jn 12 = jn 4 by decide), (show ¬ jn 12 = jn 5 by decide), (show ¬ jn 12 = jn 6 by decide), (show ¬ jn 12 = jn 7 by decide), (show ¬ jn 12 = jn 8 by decide), (show ¬ jn 12 = jn 9 by decide), (show ¬ jn 12 = jn 10 by decide), (show ¬ jn 12 = jn 11 by decide), sq_now S_ (show 3 < 6 by omega), ob_s, eq_self, if_true, if_false, n10_, not_false_eq_true] <;> rfl, by simp only [d_M_count, m_rY hy2_, b_, m_two1, m_twoY, m_may1, m_may2, m_mayY, (show ¬ jn 12 = jn 0 by decide), (show ¬ jn 12 = jn 1 by decide), (show ¬ jn 12 = jn 2 by decide), (show ¬ jn 12 = jn 3 by decide), (show ¬ jn 12 = jn 4 by decide), (show ¬ jn 12 = jn 5 by decide), (show ¬ jn 12 = jn 6 by decide), (show ¬ jn 12 = jn 7 by decide), (show ¬ jn 12 = jn 8 by decide), (show ¬ jn 12 = jn 9 by decide), (show ¬ jn 12 = jn 10 by decide), (show ¬ jn 12 = jn 11 by decide), if_pos (in173 (show 3 < 173 by omega)), mq_now M0_ (show 3 < 6 by omega), ob_s, eq_self, if_true, if_false, n10_, not_false_eq_true] <;> rfl, ⟨rfl, ju_at ..⟩, Inw_k h_ _⟩
  · exact ⟨.inr (qs L_ 4), qs L_ 4, ev_u2 I 241 0 (jn 0), by simp only [d_F_count, f_t1 a_, f_rYi hy2_, (show ¬ jn 13 = jn 0 by decide), (show ¬ jn 13 = jn 1 by decide), (show ¬ jn 13 = jn 2 by decide), (show ¬ jn 13 = jn 3 by decide), (show ¬ jn 13 = jn 4 by decide), (show ¬ jn 13 = jn 5 by decide), (show ¬ jn 13 = jn 6 by decide), (show ¬ jn 13 = jn 7 by decide), (show ¬ jn 13 = jn 8 by decide), (show ¬ jn 13 = jn 9 by decide), (show ¬ jn 13 = jn 10 by decide), (show ¬ jn 13 = jn 11 by decide), (show ¬ jn 13 = jn 12 by decide), sq_now S_ (show 4 < 6 by omega), ob_s, eq_self, if_true, if_false, n10_, not_false_eq_true] <;> rfl, by simp only [d_M_count, m_rY hy2_, b_, m_two1, m_twoY, m_may1, m_may2, m_mayY, (show ¬ jn 13 = jn 0 by decide), (show ¬ jn 13 = jn 1 by decide), (show ¬ jn 13 = jn 2 by decide), (show ¬ jn 13 = jn 3 by decide), (show ¬ jn 13 = jn 4 by decide), (show ¬ jn 13 = jn 5 by decide), (show ¬ jn 13 = jn 6 by decide), (show ¬ jn 13 = jn 7 by decide), (show ¬ jn 13 = jn 8 by decide), (show ¬ jn 13 = jn 9 by decide), (show ¬ jn 13 = jn 10 by decide), (show ¬ jn 13 = jn 11 by decide), (show ¬ jn 13 = jn 12 by decide), if_pos (in173 (show 4 < 173 by omega)), mq_now M0_ (show 4 < 6 by omega), ob_s, eq_self, if_true, if_false, n10_, not_false_eq_true] <;> rfl, ⟨rfl, ju_at ..⟩, Inw_k h_ _⟩
  · exact ⟨.inr (qs L_ 5), qs L_ 5, ev_u2 I 241 0 (jn 0), by simp only [d_F_count, f_t1 a_, f_rYi hy2_, (show ¬ jn 14 = jn 0 by decide), (show ¬ jn 14 = jn 1 by decide), (show ¬ jn 14 = jn 2 by decide), (show ¬ jn 14 = jn 3 by decide), (show ¬ jn 14 = jn 4 by decide), (show ¬ jn 14 = jn 5 by decide), (show ¬ jn 14 = jn 6 by decide), (show ¬ jn 14 = jn 7 by decide), (show ¬ jn 14 = jn 8 by decide), (show ¬ jn 14 = jn 9 by decide), (show ¬ jn 14 = jn 10 by decide), (show ¬ jn 14 = jn 11 by decide), (show ¬ jn 14 = jn 12 by decide), (show ¬ jn 14 = jn 13 by decide), sq_now S_ (show 5 < 6 by omega), ob_s, eq_self, if_true, if_false, n10_, not_false_eq_true] <;> rfl, by simp only [d_M_count, m_rY hy2_, b_, m_two1, m_twoY, m_may1, m_may2, m_mayY, (show ¬ jn 14 = jn 0 by decide), (show ¬ jn 14 = jn 1 by decide), (show ¬ jn 14 = jn 2 by decide), (show ¬ jn 14 = jn 3 by decide), (show ¬ jn 14 = jn 4 by decide), (show ¬ jn 14 = jn 5 by decide), (show ¬ jn 14 = jn 6 by decide), (show ¬ jn 14 = jn 7 by decide), (show ¬ jn 14 = jn 8 by decide), (show ¬ jn 14 = jn 9 by decide), (show ¬ jn 14 = jn 10 by decide), (show ¬ jn 14 = jn 11 by decide), (show ¬ jn 14 = jn 12 by decide), (show ¬ jn 14 = jn 13 by decide), if_pos (in173 (show 5 < 173 by omega)), mq_now M0_ (show 5 < 6 by omega), ob_s, eq_self, if_true, if_false, n10_, not_false_eq_true] <;> rfl, ⟨rfl, ju_at ..⟩, Inw_k h_ _⟩
  · exact ⟨.inr (qct (fun f => ywhy (ybs L_ f) = jn 0) (qF L_)), qct (fun f => ywhy (ybs L_ f) = jn 0) (qF L_), ev_u2 I 241 0 (jn 0), by simp only [d_F_count, f_t1 a_, f_rYi hy2_, (show ¬ jn 15 = jn 0 by decide), (show ¬ jn 15 = jn 1 by decide), (show ¬ jn 15 = jn 2 by decide), (show ¬ jn 15 = jn 3 by decide), (show ¬ jn 15 = jn 4 by decide), (show ¬ jn 15 = jn 5 by decide), (show ¬ jn 15 = jn 6 by decide), (show ¬ jn 15 = jn 7 by decide), (show ¬ jn 15 = jn 8 by decide), (show ¬ jn 15 = jn 9 by decide), (show ¬ jn 15 = jn 10 by decide), (show ¬ jn 15 = jn 11 by decide), (show ¬ jn 15 = jn 12 by decide), (show ¬ jn 15 = jn 13 by decide), (show ¬ jn 15 = jn 14 by decide), sq_readyFlags S_ g_, ob_s, eq_self, if_true, if_false, n10_, not_false_eq_true] <;> rfl, by simp only [d_M_count, m_rY hy2_, b_, m_two1, m_twoY, m_may1, m_may2, m_mayY, (show ¬ jn 15 = jn 0 by decide), (show ¬ jn 15 = jn 1 by decide), (show ¬ jn 15 = jn 2 by decide), (show ¬ jn 15 = jn 3 by decide), (show ¬ jn 15 = jn 4 by decide), (show ¬ jn 15 = jn 5 by decide), (show ¬ jn 15 = jn 6 by decide), (show ¬ jn 15 = jn 7 by decide), (show ¬ jn 15 = jn 8 by decide), (show ¬ jn 15 = jn 9 by decide), (show ¬ jn 15 = jn 10 by decide), (show ¬ jn 15 = jn 11 by decide), (show ¬ jn 15 = jn 12 by decide), (show ¬ jn 15 = jn 13 by decide), (show ¬ jn 15 = jn 14 by decide), mq_readyMany M0_ g_, ob_s, eq_self, if_true, if_false, n10_, not_false_eq_true] <;> rfl, ⟨rfl, ju_at ..⟩, Inw_k h_ _⟩
theorem op_flag (h : Inv n B I) (x1 : Int32) (x2 : Int32) : ∃ r v J, d_F_flag n x1 x2 I = some r ∧ d_M_flag x1 x2 I = some (v, J) ∧ opR [(0, 1), (1, 2), (2, 3)] r v J ∧ Inw n B I J := by
  have h_ := h
  have n10_ : ¬ jn 1 = jn 0 := by decide
  obtain ⟨hn_, _, _, _, s_⟩ := h
  rcases s_ with ⟨a_, b_, _⟩ | ⟨L_, U_, V_, a_, b_, g_, _, _, S_, M_, _⟩
  · exact ⟨.inl 0, jn 0, ev_u2 I 241 0 (jn 1), by simp only [d_F_flag, f_t0 a_, f_f0 (n := n) a_, f_n0 (n := n) a_, f_u0 (n := n) a_, ob_s, eq_self, if_true, if_false, n10_, not_false_eq_true], by simp only [d_M_flag, m_mF0 b_, m_mU0 b_, m_mH0 b_, m_look0 b_, m_f0 b_, m_n0 b_, m_u0 b_, m_c0 b_, b_, m_two0, m_may0, rp_rng, ob_s, eq_self, if_true, if_false, n10_, not_false_eq_true], ⟨1, by decide, ju_at ..⟩, Inw_k h_ _⟩
  have F_ := g_.1
  have C_ := g_.2.1
  have N_ := g_.2.2.1
  have T_ := g_.2.2.2.1
  have P_ := g_.2.2.2.2.1
  have M0_ : qM L_ B (ev_u2 I 241 0 (jn 0) 242) := by rw [ju_na (by omega)]; exact M_
  by_cases hx_ : jlt x1 (qF L_)
  rotate_left
  · exact ⟨.inl 1, jn 0, ev_u2 I 241 0 (jn 2), by simp only [d_F_flag, f_fN a_ S_ g_ hx_, ob_s, eq_self, if_true, if_false, n10_, not_false_eq_true], by simp only [d_M_flag, m_fN b_ M_ g_ hx_, rp_rng, b_, m_two1, m_twoY, m_may1, m_may2, m_mayY, ob_s, eq_self, if_true, if_false, n10_, not_false_eq_true], ⟨2, by decide, ju_at ..⟩, Inw_k h_ _⟩
  by_cases hy_ : ¬ x2 < jn 0 ∧ ¬ jn 9 < x2
  rotate_left
  · exact ⟨.inl 2, jn 0, ev_u2 I 241 0 (jn 3), by simp only [d_F_flag, f_fY a_ S_ g_ hx_, f_rN hy_, ob_s, eq_self, if_true, if_false, n10_, not_false_eq_true], by simp only [d_M_flag, m_fY b_ M_ g_ hx_, m_rN hy_, b_, m_two1, m_twoY, m_may1, m_may2, m_mayY, ob_s, eq_self, if_true, if_false, n10_, not_false_eq_true], ⟨3, by decide, ju_at ..⟩, Inw_k h_ _⟩
  have hx2_ := hx_
  obtain ⟨f_, hf_, rfl⟩ := hx_
  have hy2_ := hy_
  obtain ⟨k_, _, hk_, rfl⟩ := jrg (by omega) (by omega) hy_.1 hy_.2
  have c_ : k_ = 0 ∨ k_ = 1 ∨ k_ = 2 ∨ k_ = 3 ∨ k_ = 4 ∨ k_ = 5 ∨ k_ = 6 ∨ k_ = 7 ∨ k_ = 8 ∨ k_ = 9 := by omega
  rcases c_ with rfl | rfl | rfl | rfl | rfl | rfl | rfl | rfl | rfl | rfl
  · exact ⟨.inr (qf L_ f_ 0), qf L_ f_ 0, ev_u2 I 241 0 (jn 0), by simp only [d_F_flag, f_fY a_ S_ g_ hx2_, f_rYi hy2_, if_pos (sq_in g_ hf_), sq_n g_ hf_, sq_f S_ hf_ (show 0 < 10 by omega), ob_s, eq_self, if_true, if_false, n10_, not_false_eq_true] <;> rfl, by simp only [d_M_flag, m_fY b_ M_ g_ hx2_, m_rY hy2_, b_, m_two1, m_twoY, m_may1, m_may2, m_mayY, mq_f M0_ g_ hf_ (show 0 < 10 by omega), ob_s, eq_self, if_true, if_false, n10_, not_false_eq_true] <;> rfl, ⟨rfl, ju_at ..⟩, Inw_k h_ _⟩
  · exact ⟨.inr (qf L_ f_ 1), qf L_ f_ 1, ev_u2 I 241 0 (jn 0), by simp only [d_F_flag, f_fY a_ S_ g_ hx2_, f_rYi hy2_, if_pos (sq_in g_ hf_), sq_n g_ hf_, (show ¬ jn 1 = jn 0 by decide), sq_f S_ hf_ (show 1 < 10 by omega), ob_s, eq_self, if_true, if_false, n10_, not_false_eq_true] <;> rfl, by simp only [d_M_flag, m_fY b_ M_ g_ hx2_, m_rY hy2_, b_, m_two1, m_twoY, m_may1, m_may2, m_mayY, mq_f M0_ g_ hf_ (show 1 < 10 by omega), ob_s, eq_self, if_true, if_false, n10_, not_false_eq_true] <;> rfl, ⟨rfl, ju_at ..⟩, Inw_k h_ _⟩
  · exact ⟨.inr (qf L_ f_ 2), qf L_ f_ 2, ev_u2 I 241 0 (jn 0), by simp only [d_F_flag, f_fY a_ S_ g_ hx2_, f_rYi hy2_, if_pos (sq_in g_ hf_), sq_n g_ hf_, (show ¬ jn 2 = jn 0 by decide), (show ¬ jn 2 = jn 1 by decide), sq_f S_ hf_ (show 2 < 10 by omega), ob_s, eq_self, if_true, if_false, n10_, not_false_eq_true] <;> rfl, by simp only [d_M_flag, m_fY b_ M_ g_ hx2_, m_rY hy2_, b_, m_two1, m_twoY, m_may1, m_may2, m_mayY, mq_f M0_ g_ hf_ (show 2 < 10 by omega), ob_s, eq_self, if_true, if_false, n10_, not_false_eq_true] <;> rfl, ⟨rfl, ju_at ..⟩, Inw_k h_ _⟩
  · exact ⟨.inr (qf L_ f_ 3), qf L_ f_ 3, ev_u2 I 241 0 (jn 0), by simp only [d_F_flag, f_fY a_ S_ g_ hx2_, f_rYi hy2_, if_pos (sq_in g_ hf_), sq_n g_ hf_, (show ¬ jn 3 = jn 0 by decide), (show ¬ jn 3 = jn 1 by decide), (show ¬ jn 3 = jn 2 by decide), sq_f S_ hf_ (show 3 < 10 by omega), ob_s, eq_self, if_true, if_false, n10_, not_false_eq_true] <;> rfl, by simp only [d_M_flag, m_fY b_ M_ g_ hx2_, m_rY hy2_, b_, m_two1, m_twoY, m_may1, m_may2, m_mayY, mq_f M0_ g_ hf_ (show 3 < 10 by omega), ob_s, eq_self, if_true, if_false, n10_, not_false_eq_true] <;> rfl, ⟨rfl, ju_at ..⟩, Inw_k h_ _⟩
  · exact ⟨.inr (qf L_ f_ 4), qf L_ f_ 4, ev_u2 I 241 0 (jn 0), by simp only [d_F_flag, f_fY a_ S_ g_ hx2_, f_rYi hy2_, if_pos (sq_in g_ hf_), sq_n g_ hf_, (show ¬ jn 4 = jn 0 by decide), (show ¬ jn 4 = jn 1 by decide), (show ¬ jn 4 = jn 2 by decide), (show ¬ jn 4 = jn 3 by decide), sq_f S_ hf_ (show 4 < 10 by omega), ob_s, eq_self, if_true, if_false, n10_, not_false_eq_true] <;> rfl, by simp only [d_M_flag, m_fY b_ M_ g_ hx2_, m_rY hy2_, b_, m_two1, m_twoY, m_may1, m_may2, m_mayY, mq_f M0_ g_ hf_ (show 4 < 10 by omega), ob_s, eq_self, if_true, if_false, n10_, not_false_eq_true] <;> rfl, ⟨rfl, ju_at ..⟩, Inw_k h_ _⟩
  · exact ⟨.inr (qf L_ f_ 5), qf L_ f_ 5, ev_u2 I 241 0 (jn 0), by simp only [d_F_flag, f_fY a_ S_ g_ hx2_, f_rYi hy2_, if_pos (sq_in g_ hf_), sq_n g_ hf_, (show ¬ jn 5 = jn 0 by decide), (show ¬ jn 5 = jn 1 by decide), (show ¬ jn 5 = jn 2 by decide), (show ¬ jn 5 = jn 3 by decide), (show ¬ jn 5 = jn 4 by decide), sq_f S_ hf_ (show 5 < 10 by omega), ob_s, eq_self, if_true, if_false, n10_, not_false_eq_true] <;> rfl, by simp only [d_M_flag, m_fY b_ M_ g_ hx2_, m_rY hy2_, b_, m_two1, m_twoY, m_may1, m_may2, m_mayY, mq_f M0_ g_ hf_ (show 5 < 10 by omega), ob_s, eq_self, if_true, if_false, n10_, not_false_eq_true] <;> rfl, ⟨rfl, ju_at ..⟩, Inw_k h_ _⟩
  · exact ⟨.inr (qf L_ f_ 6), qf L_ f_ 6, ev_u2 I 241 0 (jn 0), by simp only [d_F_flag, f_fY a_ S_ g_ hx2_, f_rYi hy2_, if_pos (sq_in g_ hf_), sq_n g_ hf_, (show ¬ jn 6 = jn 0 by decide), (show ¬ jn 6 = jn 1 by decide), (show ¬ jn 6 = jn 2 by decide), (show ¬ jn 6 = jn 3 by decide), (show ¬ jn 6 = jn 4 by decide), (show ¬ jn 6 = jn 5 by decide), sq_f S_ hf_ (show 6 < 10 by omega), ob_s, eq_self, if_true, if_false, n10_, not_false_eq_true] <;> rfl, by simp only [d_M_flag, m_fY b_ M_ g_ hx2_, m_rY hy2_, b_, m_two1, m_twoY, m_may1, m_may2, m_mayY, mq_f M0_ g_ hf_ (show 6 < 10 by omega), ob_s, eq_self, if_true, if_false, n10_, not_false_eq_true] <;> rfl, ⟨rfl, ju_at ..⟩, Inw_k h_ _⟩
  · exact ⟨.inr (qf L_ f_ 7), qf L_ f_ 7, ev_u2 I 241 0 (jn 0), by simp only [d_F_flag, f_fY a_ S_ g_ hx2_, f_rYi hy2_, if_pos (sq_in g_ hf_), sq_n g_ hf_, (show ¬ jn 7 = jn 0 by decide), (show ¬ jn 7 = jn 1 by decide), (show ¬ jn 7 = jn 2 by decide), (show ¬ jn 7 = jn 3 by decide), (show ¬ jn 7 = jn 4 by decide), (show ¬ jn 7 = jn 5 by decide), (show ¬ jn 7 = jn 6 by decide), sq_f S_ hf_ (show 7 < 10 by omega), ob_s, eq_self, if_true, if_false, n10_, not_false_eq_true] <;> rfl, by simp only [d_M_flag, m_fY b_ M_ g_ hx2_, m_rY hy2_, b_, m_two1, m_twoY, m_may1, m_may2, m_mayY, mq_f M0_ g_ hf_ (show 7 < 10 by omega), ob_s, eq_self, if_true, if_false, n10_, not_false_eq_true] <;> rfl, ⟨rfl, ju_at ..⟩, Inw_k h_ _⟩
  · exact ⟨.inr (qf L_ f_ 8), qf L_ f_ 8, ev_u2 I 241 0 (jn 0), by simp only [d_F_flag, f_fY a_ S_ g_ hx2_, f_rYi hy2_, if_pos (sq_in g_ hf_), sq_n g_ hf_, (show ¬ jn 8 = jn 0 by decide), (show ¬ jn 8 = jn 1 by decide), (show ¬ jn 8 = jn 2 by decide), (show ¬ jn 8 = jn 3 by decide), (show ¬ jn 8 = jn 4 by decide), (show ¬ jn 8 = jn 5 by decide), (show ¬ jn 8 = jn 6 by decide), (show ¬ jn 8 = jn 7 by decide), sq_f S_ hf_ (show 8 < 10 by omega), ob_s, eq_self, if_true, if_false, n10_, not_false_eq_true] <;> rfl, by simp only [d_M_flag, m_fY b_ M_ g_ hx2_, m_rY hy2_, b_, m_two1, m_twoY, m_may1, m_may2, m_mayY, mq_f M0_ g_ hf_ (show 8 < 10 by omega), ob_s, eq_self, if_true, if_false, n10_, not_false_eq_true] <;> rfl, ⟨rfl, ju_at ..⟩, Inw_k h_ _⟩
  · exact ⟨.inr (qf L_ f_ 9), qf L_ f_ 9, ev_u2 I 241 0 (jn 0), by simp only [d_F_flag, f_fY a_ S_ g_ hx2_, f_rYi hy2_, if_pos (sq_in g_ hf_), sq_n g_ hf_, (show ¬ jn 9 = jn 0 by decide), (show ¬ jn 9 = jn 1 by decide), (show ¬ jn 9 = jn 2 by decide), (show ¬ jn 9 = jn 3 by decide), (show ¬ jn 9 = jn 4 by decide), (show ¬ jn 9 = jn 5 by decide), (show ¬ jn 9 = jn 6 by decide), (show ¬ jn 9 = jn 7 by decide), (show ¬ jn 9 = jn 8 by decide), sq_f S_ hf_ (show 9 < 10 by omega), ob_s, eq_self, if_true, if_false, n10_, not_false_eq_true] <;> rfl, by simp only [d_M_flag, m_fY b_ M_ g_ hx2_, m_rY hy2_, b_, m_two1, m_twoY, m_may1, m_may2, m_mayY, mq_f M0_ g_ hf_ (show 9 < 10 by omega), ob_s, eq_self, if_true, if_false, n10_, not_false_eq_true] <;> rfl, ⟨rfl, ju_at ..⟩, Inw_k h_ _⟩
theorem op_tub (h : Inv n B I) (x1 : Int32) (x2 : Int32) : ∃ r v J, d_F_tub n x1 x2 I = some r ∧ d_M_tub x1 x2 I = some (v, J) ∧ opR [(0, 1), (1, 2), (2, 3)] r v J ∧ Inw n B I J := by
  have h_ := h
  have n10_ : ¬ jn 1 = jn 0 := by decide
  obtain ⟨hn_, _, _, _, s_⟩ := h
  rcases s_ with ⟨a_, b_, _⟩ | ⟨L_, U_, V_, a_, b_, g_, _, _, S_, M_, _⟩
  · exact ⟨.inl 0, jn 0, ev_u2 I 241 0 (jn 1), by simp only [d_F_tub, f_t0 a_, f_f0 (n := n) a_, f_n0 (n := n) a_, f_u0 (n := n) a_, ob_s, eq_self, if_true, if_false, n10_, not_false_eq_true], by simp only [d_M_tub, m_mF0 b_, m_mU0 b_, m_mH0 b_, m_look0 b_, m_f0 b_, m_n0 b_, m_u0 b_, m_c0 b_, b_, m_two0, m_may0, rp_rng, ob_s, eq_self, if_true, if_false, n10_, not_false_eq_true], ⟨1, by decide, ju_at ..⟩, Inw_k h_ _⟩
  have F_ := g_.1
  have C_ := g_.2.1
  have N_ := g_.2.2.1
  have T_ := g_.2.2.2.1
  have P_ := g_.2.2.2.2.1
  have M0_ : qM L_ B (ev_u2 I 241 0 (jn 0) 242) := by rw [ju_na (by omega)]; exact M_
  by_cases hx_ : jlt x1 (qT L_)
  rotate_left
  · exact ⟨.inl 1, jn 0, ev_u2 I 241 0 (jn 2), by simp only [d_F_tub, f_uN a_ S_ g_ hx_, ob_s, eq_self, if_true, if_false, n10_, not_false_eq_true], by simp only [d_M_tub, m_uN b_ M_ g_ hx_, rp_rng, b_, m_two1, m_twoY, m_may1, m_may2, m_mayY, ob_s, eq_self, if_true, if_false, n10_, not_false_eq_true], ⟨2, by decide, ju_at ..⟩, Inw_k h_ _⟩
  by_cases hy_ : ¬ x2 < jn 0 ∧ ¬ jn 4 < x2
  rotate_left
  · exact ⟨.inl 2, jn 0, ev_u2 I 241 0 (jn 3), by simp only [d_F_tub, f_uY a_ S_ g_ hx_, f_rN hy_, ob_s, eq_self, if_true, if_false, n10_, not_false_eq_true], by simp only [d_M_tub, m_uY b_ M_ g_ hx_, m_rN hy_, b_, m_two1, m_twoY, m_may1, m_may2, m_mayY, ob_s, eq_self, if_true, if_false, n10_, not_false_eq_true], ⟨3, by decide, ju_at ..⟩, Inw_k h_ _⟩
  have hx2_ := hx_
  obtain ⟨t_, ht_, rfl⟩ := hx_
  have hy2_ := hy_
  obtain ⟨k_, _, hk_, rfl⟩ := jrg (by omega) (by omega) hy_.1 hy_.2
  have ro_ : I (n + 1 + 5) t_ = qo L_ t_ := (S_.2.2.2.2.2.2.2.2.1 t_ ht_).1
  have rm_ : ev_u2 I 241 0 (jn 0) 242 (38 + t_) = qo L_ t_ := M0_.2.2.2.2.2.2.2.2.1 t_ ht_
  have e38_ : z_n (jn (38 + t_)) = 38 + t_ := jn_n (by omega)
  have c_ : k_ = 0 ∨ k_ = 1 ∨ k_ = 2 ∨ k_ = 3 ∨ k_ = 4 := by omega
  rcases c_ with rfl | rfl | rfl | rfl | rfl
  · exact ⟨.inr (qo L_ t_), qo L_ t_, ev_u2 I 241 0 (jn 0), by simp only [d_F_tub, f_uY a_ S_ g_ hx2_, f_rYi hy2_, if_pos (sq_tin g_ ht_), sq_tn g_ ht_, ro_, ob_s, eq_self, if_true, if_false, n10_, not_false_eq_true] <;> rfl, by simp only [d_M_tub, m_uY b_ M_ g_ hx2_, m_rY hy2_, b_, m_two1, m_twoY, m_may1, m_may2, m_mayY, jn_add, if_pos (in173 (show 38 + t_ < 173 by omega)), e38_, rm_, ob_s, eq_self, if_true, if_false, n10_, not_false_eq_true] <;> rfl, ⟨rfl, ju_at ..⟩, Inw_k h_ _⟩
  · exact ⟨.inr (jn (qt L_ t_).length), jn (qt L_ t_).length, ev_u2 I 241 0 (jn 0), by simp only [d_F_tub, f_uY a_ S_ g_ hx2_, f_rYi hy2_, (show ¬ jn 1 = jn 0 by decide), if_pos (sq_tin g_ ht_), sq_tn g_ ht_, sq_many S_ ht_, ob_s, eq_self, if_true, if_false, n10_, not_false_eq_true] <;> rfl, by simp only [d_M_tub, m_uY b_ M_ g_ hx2_, m_rY hy2_, b_, m_two1, m_twoY, m_may1, m_may2, m_mayY, (show ¬ jn 1 = jn 0 by decide), mq_many M0_ g_ ht_, ob_s, eq_self, if_true, if_false, n10_, not_false_eq_true] <;> rfl, ⟨rfl, ju_at ..⟩, Inw_k h_ _⟩
  · exact ⟨.inr (ycare L_ t_), ycare L_ t_, ev_u2 I 241 0 (jn 0), by simp only [d_F_tub, f_uY a_ S_ g_ hx2_, f_rYi hy2_, (show ¬ jn 2 = jn 0 by decide), (show ¬ jn 2 = jn 1 by decide), sq_care S_ g_ ht_, ob_s, eq_self, if_true, if_false, n10_, not_false_eq_true] <;> rfl, by simp only [d_M_tub, m_uY b_ M_ g_ hx2_, m_rY hy2_, b_, m_two1, m_twoY, m_may1, m_may2, m_mayY, (show ¬ jn 2 = jn 0 by decide), (show ¬ jn 2 = jn 1 by decide), mq_care M0_ g_ ht_, ob_s, eq_self, if_true, if_false, n10_, not_false_eq_true] <;> rfl, ⟨rfl, ju_at ..⟩, Inw_k h_ _⟩
  · exact ⟨.inr (ydirt L_ t_), ydirt L_ t_, ev_u2 I 241 0 (jn 0), by simp only [d_F_tub, f_uY a_ S_ g_ hx2_, f_rYi hy2_, (show ¬ jn 3 = jn 0 by decide), (show ¬ jn 3 = jn 1 by decide), (show ¬ jn 3 = jn 2 by decide), sq_dirtIn S_ g_ ht_, ob_s, eq_self, if_true, if_false, n10_, not_false_eq_true] <;> rfl, by simp only [d_M_tub, m_uY b_ M_ g_ hx2_, m_rY hy2_, b_, m_two1, m_twoY, m_may1, m_may2, m_mayY, (show ¬ jn 3 = jn 0 by decide), (show ¬ jn 3 = jn 1 by decide), (show ¬ jn 3 = jn 2 by decide), mq_ofTub3 M0_ g_ ht_, ob_s, eq_self, if_true, if_false, n10_, not_false_eq_true] <;> rfl, ⟨rfl, ju_at ..⟩, Inw_k h_ _⟩
  · exact ⟨.inr (ycols L_ t_), ycols L_ t_, ev_u2 I 241 0 (jn 0), by simp only [d_F_tub, f_uY a_ S_ g_ hx2_, f_rYi hy2_, (show ¬ jn 4 = jn 0 by decide), (show ¬ jn 4 = jn 1 by decide), (show ¬ jn 4 = jn 2 by decide), (show ¬ jn 4 = jn 3 by decide), sq_coloursIn S_ g_ ht_, ob_s, eq_self, if_true, if_false, n10_, not_false_eq_true] <;> rfl, by simp only [d_M_tub, m_uY b_ M_ g_ hx2_, m_rY hy2_, b_, m_two1, m_twoY, m_may1, m_may2, m_mayY, (show ¬ jn 4 = jn 0 by decide), (show ¬ jn 4 = jn 1 by decide), (show ¬ jn 4 = jn 2 by decide), (show ¬ jn 4 = jn 3 by decide), mq_ofTub4 M0_ g_ ht_ (show ¬ jn 4 = jn 3 by decide), ob_s, eq_self, if_true, if_false, n10_, not_false_eq_true] <;> rfl, ⟨rfl, ju_at ..⟩, Inw_k h_ _⟩
theorem op_colour (h : Inv n B I) (x1 : Int32) (x2 : Int32) : ∃ r v J, d_F_colour n x1 x2 I = some r ∧ d_M_colour x1 x2 I = some (v, J) ∧ opR [(0, 1), (1, 2), (2, 3)] r v J ∧ Inw n B I J := by
  have h_ := h
  have n10_ : ¬ jn 1 = jn 0 := by decide
  obtain ⟨hn_, _, _, _, s_⟩ := h
  rcases s_ with ⟨a_, b_, _⟩ | ⟨L_, U_, V_, a_, b_, g_, _, _, S_, M_, _⟩
  · exact ⟨.inl 0, jn 0, ev_u2 I 241 0 (jn 1), by simp only [d_F_colour, f_t0 a_, f_f0 (n := n) a_, f_n0 (n := n) a_, f_u0 (n := n) a_, ob_s, eq_self, if_true, if_false, n10_, not_false_eq_true], by simp only [d_M_colour, m_mF0 b_, m_mU0 b_, m_mH0 b_, m_look0 b_, m_f0 b_, m_n0 b_, m_u0 b_, m_c0 b_, b_, m_two0, m_may0, rp_rng, ob_s, eq_self, if_true, if_false, n10_, not_false_eq_true], ⟨1, by decide, ju_at ..⟩, Inw_k h_ _⟩
  have F_ := g_.1
  have C_ := g_.2.1
  have N_ := g_.2.2.1
  have T_ := g_.2.2.2.1
  have P_ := g_.2.2.2.2.1
  have M0_ : qM L_ B (ev_u2 I 241 0 (jn 0) 242) := by rw [ju_na (by omega)]; exact M_
  have p_ : I (n + 1) 1 = jn (qC L_) := S_.2.2.2.1
  by_cases hx_ : jlt x1 (qC L_)
  rotate_left
  · refine ⟨.inl 1, jn 0, ev_u2 I 241 0 (jn 2), ?_, by simp only [d_M_colour, m_cN b_ M_ g_ hx_, rp_rng, b_, m_two1, m_twoY, m_may1, m_may2, m_mayY, ob_s, eq_self, if_true, if_false, n10_, not_false_eq_true], ⟨2, by decide, ju_at ..⟩, Inw_k h_ _⟩
    unfold d_F_colour
    rw [f_t1 a_, ob_s]
    dsimp only
    rw [p_]
    rcases jltN (by omega) hx_ with q_ | q_
    · rw [if_pos q_]
    · by_cases q2_ : x1 < jn 0
      · rw [if_pos q2_]
      · rw [if_neg q2_, if_neg q_]
  have y_ := jltY (show qC L_ < 1000 by omega) hx_
  by_cases hy_ : ¬ x2 < jn 0 ∧ ¬ jn 2 < x2
  rotate_left
  · exact ⟨.inl 2, jn 0, ev_u2 I 241 0 (jn 3), by simp only [d_F_colour, f_t1 a_, p_, y_.1, y_.2, f_rN hy_, ob_s, eq_self, if_true, if_false, n10_, not_false_eq_true], by simp only [d_M_colour, m_cY b_ M_ g_ hx_, m_rN hy_, b_, m_two1, m_twoY, m_may1, m_may2, m_mayY, ob_s, eq_self, if_true, if_false, n10_, not_false_eq_true], ⟨3, by decide, ju_at ..⟩, Inw_k h_ _⟩
  have hx2_ := hx_
  obtain ⟨t_, ht_, rfl⟩ := hx_
  have hy2_ := hy_
  obtain ⟨k_, _, hk_, rfl⟩ := jrg (by omega) (by omega) hy_.1 hy_.2
  have ro_ : I (n + 1 + 1) (z_n (jn t_)) = qr L_ t_ := by rw [jn_n (by omega)]; exact S_.2.2.2.2.2.2.1 t_ ht_
  have rm_ : ev_u2 I 241 0 (jn 0) 242 (z_n (jn (12 + t_))) = qr L_ t_ := by rw [jn_n (by omega)]; exact M0_.2.2.2.2.2.2.1 t_ ht_
  have c_ : k_ = 0 ∨ k_ = 1 ∨ k_ = 2 := by omega
  rcases c_ with rfl | rfl | rfl
  · exact ⟨.inr (qr L_ t_), qr L_ t_, ev_u2 I 241 0 (jn 0), by simp only [d_F_colour, f_t1 a_, p_, y_.1, y_.2, f_rYi hy2_, if_pos (sq_cin g_ ht_), ro_, ob_s, eq_self, if_true, if_false, n10_, not_false_eq_true] <;> rfl, by simp only [d_M_colour, m_cY b_ M_ g_ hx2_, m_rY hy2_, b_, m_two1, m_twoY, m_may1, m_may2, m_mayY, jn_add, if_pos (in173 (show 12 + t_ < 173 by omega)), rm_, ob_s, eq_self, if_true, if_false, n10_, not_false_eq_true] <;> rfl, ⟨rfl, ju_at ..⟩, Inw_k h_ _⟩
  · exact ⟨.inr (yhas L_ 1 (jn t_)), yhas L_ 1 (jn t_), ev_u2 I 241 0 (jn 0), by simp only [d_F_colour, f_t1 a_, p_, y_.1, y_.2, f_rYi hy2_, (show ¬ jn 1 = jn 0 by decide), sq_with S_ g_, ob_s, eq_self, if_true, if_false, n10_, not_false_eq_true] <;> rfl, by simp only [d_M_colour, m_cY b_ M_ g_ hx2_, m_rY hy2_, b_, m_two1, m_twoY, m_may1, m_may2, m_mayY, (show ¬ jn 1 = jn 0 by decide), mq_with M0_ g_ (Or.inl rfl) (show t_ < 6 by omega), ob_s, eq_self, if_true, if_false, n10_, not_false_eq_true] <;> rfl, ⟨rfl, ju_at ..⟩, Inw_k h_ _⟩
  · exact ⟨.inr (yhas L_ 6 (jn t_)), yhas L_ 6 (jn t_), ev_u2 I 241 0 (jn 0), by simp only [d_F_colour, f_t1 a_, p_, y_.1, y_.2, f_rYi hy2_, (show ¬ jn 2 = jn 0 by decide), (show ¬ jn 2 = jn 1 by decide), sq_stainedWith S_ g_, ob_s, eq_self, if_true, if_false, n10_, not_false_eq_true] <;> rfl, by simp only [d_M_colour, m_cY b_ M_ g_ hx2_, m_rY hy2_, b_, m_two1, m_twoY, m_may1, m_may2, m_mayY, (show ¬ jn 2 = jn 0 by decide), (show ¬ jn 2 = jn 1 by decide), mq_with M0_ g_ (Or.inr rfl) (show t_ < 6 by omega), ob_s, eq_self, if_true, if_false, n10_, not_false_eq_true] <;> rfl, ⟨rfl, ju_at ..⟩, Inw_k h_ _⟩
theorem op_nation (h : Inv n B I) (x1 : Int32) (x2 : Int32) : ∃ r v J, d_F_nation n x1 x2 I = some r ∧ d_M_nation x1 x2 I = some (v, J) ∧ opR [(0, 1), (1, 2), (2, 3)] r v J ∧ Inw n B I J := by
  have h_ := h
  have n10_ : ¬ jn 1 = jn 0 := by decide
  obtain ⟨hn_, _, _, _, s_⟩ := h
  rcases s_ with ⟨a_, b_, _⟩ | ⟨L_, U_, V_, a_, b_, g_, _, _, S_, M_, _⟩
  · exact ⟨.inl 0, jn 0, ev_u2 I 241 0 (jn 1), by simp only [d_F_nation, f_t0 a_, f_f0 (n := n) a_, f_n0 (n := n) a_, f_u0 (n := n) a_, ob_s, eq_self, if_true, if_false, n10_, not_false_eq_true], by simp only [d_M_nation, m_mF0 b_, m_mU0 b_, m_mH0 b_, m_look0 b_, m_f0 b_, m_n0 b_, m_u0 b_, m_c0 b_, b_, m_two0, m_may0, rp_rng, ob_s, eq_self, if_true, if_false, n10_, not_false_eq_true], ⟨1, by decide, ju_at ..⟩, Inw_k h_ _⟩
  have F_ := g_.1
  have C_ := g_.2.1
  have N_ := g_.2.2.1
  have T_ := g_.2.2.2.1
  have P_ := g_.2.2.2.2.1
  have M0_ : qM L_ B (ev_u2 I 241 0 (jn 0) 242) := by rw [ju_na (by omega)]; exact M_
  by_cases hx_ : jlt x1 (qN L_)
  rotate_left
  · exact ⟨.inl 1, jn 0, ev_u2 I 241 0 (jn 2), by simp only [d_F_nation, f_nN a_ S_ g_ hx_, ob_s, eq_self, if_true, if_false, n10_, not_false_eq_true], by simp only [d_M_nation, m_nN b_ M_ g_ hx_, rp_rng, b_, m_two1, m_twoY, m_may1, m_may2, m_mayY, ob_s, eq_self, if_true, if_false, n10_, not_false_eq_true], ⟨2, by decide, ju_at ..⟩, Inw_k h_ _⟩
  by_cases hy_ : ¬ x2 < jn 0 ∧ ¬ jn 6 < x2
  rotate_left
  · exact ⟨.inl 2, jn 0, ev_u2 I 241 0 (jn 3), by simp only [d_F_nation, f_nY a_ S_ g_ hx_, f_rN hy_, ob_s, eq_self, if_true, if_false, n10_, not_false_eq_true], by simp only [d_M_nation, m_nY b_ M_ g_ hx_, m_rN hy_, b_, m_two1, m_twoY, m_may1, m_may2, m_mayY, ob_s, eq_self, if_true, if_false, n10_, not_false_eq_true], ⟨3, by decide, ju_at ..⟩, Inw_k h_ _⟩
  have hx2_ := hx_
  obtain ⟨t_, ht_, rfl⟩ := hx_
  have hy2_ := hy_
  obtain ⟨k_, _, hk_, rfl⟩ := jrg (by omega) (by omega) hy_.1 hy_.2
  obtain ⟨r0_, r1_, r2_, _⟩ := S_.2.2.2.2.2.2.2.1 t_ ht_
  have n3_ := (g_.2.2.2.2.2.2.1 t_ ht_).2.2.2
  have c_ : k_ = 0 ∨ k_ = 1 ∨ k_ = 2 ∨ k_ = 3 ∨ k_ = 4 ∨ k_ = 5 ∨ k_ = 6 := by omega
  rcases c_ with rfl | rfl | rfl | rfl | rfl | rfl | rfl
  · exact ⟨.inr (qn L_ t_ 0), qn L_ t_ 0, ev_u2 I 241 0 (jn 0), by simp only [d_F_nation, f_nY a_ S_ g_ hx2_, f_rYi hy2_, if_pos (sq_nin g_ ht_), sq_nn g_ ht_, r0_, ob_s, eq_self, if_true, if_false, n10_, not_false_eq_true] <;> rfl, by simp only [d_M_nation, m_nY b_ M_ g_ hx2_, m_rY hy2_, b_, m_two1, m_twoY, m_may1, m_may2, m_mayY, (show ¬ jn 0 = jn 3 by decide), (show ¬ jn 0 = jn 4 by decide), (show ¬ jn 0 = jn 5 by decide), (show ¬ jn 0 = jn 6 by decide), mq_n M0_ g_ ht_ (show 0 < 5 by omega), ob_s, eq_self, if_true, if_false, n10_, not_false_eq_true] <;> rfl, ⟨rfl, ju_at ..⟩, Inw_k h_ _⟩
  · exact ⟨.inr (qn L_ t_ 1), qn L_ t_ 1, ev_u2 I 241 0 (jn 0), by simp only [d_F_nation, f_nY a_ S_ g_ hx2_, f_rYi hy2_, (show ¬ jn 1 = jn 0 by decide), if_pos (sq_nin g_ ht_), sq_nn g_ ht_, r1_, ob_s, eq_self, if_true, if_false, n10_, not_false_eq_true] <;> rfl, by simp only [d_M_nation, m_nY b_ M_ g_ hx2_, m_rY hy2_, b_, m_two1, m_twoY, m_may1, m_may2, m_mayY, (show ¬ jn 1 = jn 3 by decide), (show ¬ jn 1 = jn 4 by decide), (show ¬ jn 1 = jn 5 by decide), (show ¬ jn 1 = jn 6 by decide), mq_n M0_ g_ ht_ (show 1 < 5 by omega), ob_s, eq_self, if_true, if_false, n10_, not_false_eq_true] <;> rfl, ⟨rfl, ju_at ..⟩, Inw_k h_ _⟩
  · exact ⟨.inr (qn L_ t_ 2), qn L_ t_ 2, ev_u2 I 241 0 (jn 0), by simp only [d_F_nation, f_nY a_ S_ g_ hx2_, f_rYi hy2_, (show ¬ jn 2 = jn 0 by decide), (show ¬ jn 2 = jn 1 by decide), if_pos (sq_nin g_ ht_), sq_nn g_ ht_, r2_, ob_s, eq_self, if_true, if_false, n10_, not_false_eq_true] <;> rfl, by simp only [d_M_nation, m_nY b_ M_ g_ hx2_, m_rY hy2_, b_, m_two1, m_twoY, m_may1, m_may2, m_mayY, (show ¬ jn 2 = jn 3 by decide), (show ¬ jn 2 = jn 4 by decide), (show ¬ jn 2 = jn 5 by decide), (show ¬ jn 2 = jn 6 by decide), mq_n M0_ g_ ht_ (show 2 < 5 by omega), ob_s, eq_self, if_true, if_false, n10_, not_false_eq_true] <;> rfl, ⟨rfl, ju_at ..⟩, Inw_k h_ _⟩
  · exact ⟨.inr (yof L_ t_), yof L_ t_, ev_u2 I 241 0 (jn 0), by simp only [d_F_nation, f_nY a_ S_ g_ hx2_, f_rYi hy2_, (show ¬ jn 3 = jn 0 by decide), (show ¬ jn 3 = jn 1 by decide), (show ¬ jn 3 = jn 2 by decide), sq_flagsOf S_ g_, ob_s, eq_self, if_true, if_false, n10_, not_false_eq_true] <;> rfl, by simp only [d_M_nation, m_nY b_ M_ g_ hx2_, m_rY hy2_, b_, m_two1, m_twoY, m_may1, m_may2, m_mayY, mq_flagsOf M0_ g_, ob_s, eq_self, if_true, if_false, n10_, not_false_eq_true] <;> rfl, ⟨rfl, ju_at ..⟩, Inw_k h_ _⟩
  · exact ⟨.inr (qct (fun f => qf L_ f 0 = jn t_ ∧ ywhy (ybs L_ f) = jn 0) (qF L_)), qct (fun f => qf L_ f 0 = jn t_ ∧ ywhy (ybs L_ f) = jn 0) (qF L_), ev_u2 I 241 0 (jn 0), by simp only [d_F_nation, f_nY a_ S_ g_ hx2_, f_rYi hy2_, (show ¬ jn 4 = jn 0 by decide), (show ¬ jn 4 = jn 1 by decide), (show ¬ jn 4 = jn 2 by decide), (show ¬ jn 4 = jn 3 by decide), sq_readyOf S_ g_, ob_s, eq_self, if_true, if_false, n10_, not_false_eq_true] <;> rfl, by simp only [d_M_nation, m_nY b_ M_ g_ hx2_, m_rY hy2_, b_, m_two1, m_twoY, m_may1, m_may2, m_mayY, (show ¬ jn 4 = jn 3 by decide), mq_readyOf M0_ g_, ob_s, eq_self, if_true, if_false, n10_, not_false_eq_true] <;> rfl, ⟨rfl, ju_at ..⟩, Inw_k h_ _⟩
  · rcases n3_ with w_ | ⟨w_, _⟩
    · have nw_ : ¬ qn L_ t_ 3 = jn 1 := by rw [w_]; decide
      exact ⟨.inr (jn 0), jn 0, ev_u2 I 241 0 (jn 0), by simp only [d_F_nation, f_nY a_ S_ g_ hx2_, f_rYi hy2_, (show ¬ jn 5 = jn 0 by decide), (show ¬ jn 5 = jn 1 by decide), (show ¬ jn 5 = jn 2 by decide), (show ¬ jn 5 = jn 3 by decide), (show ¬ jn 5 = jn 4 by decide), sq_hand S_ g_ ht_, nw_, ob_s, eq_self, if_true, if_false, n10_, not_false_eq_true] <;> rfl, by simp only [d_M_nation, m_nY b_ M_ g_ hx2_, m_rY hy2_, b_, m_two1, m_twoY, m_may1, m_may2, m_mayY, (show ¬ jn 5 = jn 3 by decide), (show ¬ jn 5 = jn 4 by decide), mq_n M0_ g_ ht_ (show 3 < 5 by omega), w_, ob_s, eq_self, if_true, if_false, n10_, not_false_eq_true] <;> rfl, ⟨rfl, ju_at ..⟩, Inw_k h_ _⟩
    · exact ⟨.inr (jn 1), jn 1, ev_u2 I 241 0 (jn 0), by simp only [d_F_nation, f_nY a_ S_ g_ hx2_, f_rYi hy2_, (show ¬ jn 5 = jn 0 by decide), (show ¬ jn 5 = jn 1 by decide), (show ¬ jn 5 = jn 2 by decide), (show ¬ jn 5 = jn 3 by decide), (show ¬ jn 5 = jn 4 by decide), sq_hand S_ g_ ht_, w_, ob_s, eq_self, if_true, if_false, n10_, not_false_eq_true] <;> rfl, by simp only [d_M_nation, m_nY b_ M_ g_ hx2_, m_rY hy2_, b_, m_two1, m_twoY, m_may1, m_may2, m_mayY, (show ¬ jn 5 = jn 3 by decide), (show ¬ jn 5 = jn 4 by decide), mq_n M0_ g_ ht_ (show 3 < 5 by omega), w_, ob_s, eq_self, if_true, if_false, n10_, not_false_eq_true] <;> rfl, ⟨rfl, ju_at ..⟩, Inw_k h_ _⟩
  · by_cases w_ : qn L_ t_ 3 = jn 1
    · have y_ : yhrs L_ t_ = qn L_ t_ 4 := if_pos w_
      exact ⟨.inr (qn L_ t_ 4), qn L_ t_ 4, ev_u2 I 241 0 (jn 0), by simp only [d_F_nation, f_nY a_ S_ g_ hx2_, f_rYi hy2_, (show ¬ jn 6 = jn 0 by decide), (show ¬ jn 6 = jn 1 by decide), (show ¬ jn 6 = jn 2 by decide), (show ¬ jn 6 = jn 3 by decide), (show ¬ jn 6 = jn 4 by decide), (show ¬ jn 6 = jn 5 by decide), sq_hours S_ g_ ht_, y_, ob_s, eq_self, if_true, if_false, n10_, not_false_eq_true] <;> rfl, by simp only [d_M_nation, m_nY b_ M_ g_ hx2_, m_rY hy2_, b_, m_two1, m_twoY, m_may1, m_may2, m_mayY, (show ¬ jn 6 = jn 3 by decide), (show ¬ jn 6 = jn 4 by decide), (show ¬ jn 6 = jn 5 by decide), mq_hand M0_ g_ ht_, w_, mq_n M0_ g_ ht_ (show 4 < 5 by omega), ob_s, eq_self, if_true, if_false, n10_, not_false_eq_true] <;> rfl, ⟨rfl, ju_at ..⟩, Inw_k h_ _⟩
    · have y_ : yhrs L_ t_ = ylate L_ t_ (qs L_ 0) := if_neg w_
      exact ⟨.inr (ylate L_ t_ (qs L_ 0)), ylate L_ t_ (qs L_ 0), ev_u2 I 241 0 (jn 0), by simp only [d_F_nation, f_nY a_ S_ g_ hx2_, f_rYi hy2_, (show ¬ jn 6 = jn 0 by decide), (show ¬ jn 6 = jn 1 by decide), (show ¬ jn 6 = jn 2 by decide), (show ¬ jn 6 = jn 3 by decide), (show ¬ jn 6 = jn 4 by decide), (show ¬ jn 6 = jn 5 by decide), sq_hours S_ g_ ht_, y_, ob_s, eq_self, if_true, if_false, n10_, not_false_eq_true] <;> rfl, by simp only [d_M_nation, m_nY b_ M_ g_ hx2_, m_rY hy2_, b_, m_two1, m_twoY, m_may1, m_may2, m_mayY, (show ¬ jn 6 = jn 3 by decide), (show ¬ jn 6 = jn 4 by decide), (show ¬ jn 6 = jn 5 by decide), mq_hand M0_ g_ ht_, w_, if_pos (in173 (show 0 < 173 by omega)), mq_now M0_ (show 0 < 6 by omega), mq_late M0_ g_ ht_, ob_s, eq_self, if_true, if_false, n10_, not_false_eq_true] <;> rfl, ⟨rfl, ju_at ..⟩, Inw_k h_ _⟩
end OPS
