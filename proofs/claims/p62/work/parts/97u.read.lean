/-! the calls that only read, on both sides (wip/gen/zo.py) -/
theorem jgap (a b c : Int32) : a + b + c = b + c + a := by rw [Int32.add_assoc, Int32.add_comm]
def yrst (b : Bool × Bool × Bool × Bool × Bool × Bool × Bool) (p : Int32 × Int32) : Option ((Int32 × Int32) ⊕ (Int32 × Int32)) := if jn 7 < p.2 then some (.inr (p.1, p.2)) else some (.inl (p.1 ||| ((if yget b (z_n p.2 - 1) = true then jn 1 else jn 0) <<< (p.2 &&& 31)), p.2 + jn 1))
theorem yrst_ok : ∀ a b c d e f g : Bool, (z_it (yrst (a, b, c, d, e, f, g)) z_F (jn 0, jn 1)) = some (yall (a, b, c, d, e, f, g), jn 8) := by decide +kernel
theorem mq_reas {L : LL} {B : Nat} {q : Int32 × z_H} (h : qM L B (q.2 242)) (g : qG L) {f : Nat} (hf : f < qF L) : z_it (d_M_reasons_4 (jn f) q) z_F (jn 0, jn 1) = some (yall (ybs L f), jn 8) := by
  have e_ : z_it (d_M_reasons_4 (jn f) q) z_F (jn 0, jn 1) = z_it (yrst (ybs L f)) z_F (jn 0, jn 1) := by
    refine z_same (fun s => ∃ r, 1 ≤ r ∧ r ≤ 8 ∧ s.2 = jn r) (fun s hs => ?_) (fun s s2 hs hk => ?_) z_F _ ⟨1, by omega, by omega, rfl⟩
    · obtain ⟨r_, h1_, h8_, es_⟩ := hs
      unfold d_M_reasons_4 yrst
      rw [es_]
      by_cases k_ : jn 7 < jn r_
      · rw [if_pos k_, if_pos k_]
      · have k2_ := k_
        rw [jn_lt (by omega) (by omega)] at k2_
        rw [if_neg k_, if_neg k_, mq_applies h g hf h1_ (by omega), ob_s, mq_one, ob_s, jn_n (by omega)]
    · obtain ⟨r_, h1_, h8_, es_⟩ := hs
      unfold yrst at hk
      rw [es_] at hk
      by_cases k_ : jn 7 < jn r_
      · rw [if_pos k_] at hk
        cases hk
      · have k2_ := k_
        rw [jn_lt (by omega) (by omega)] at k2_
        rw [if_neg k_] at hk
        have e2_ := Sum.inl.inj (Option.some.inj hk)
        exact ⟨r_ + 1, by omega, by omega, by rw [← e2_, jn_add]⟩
  rw [e_]
  exact yrst_ok _ _ _ _ _ _ _
section OPR
variable {n B : Nat} {I : z_H}
theorem op_why (h : Inv n B I) (x1 : Int32) : ∃ r v J, d_F_why n x1 I = some r ∧ d_M_why x1 I = some (v, J) ∧ opR [(0, 1), (1, 2)] r v J ∧ Inw n B I J := by
  have h_ := h
  have n10_ : ¬ jn 1 = jn 0 := by decide
  obtain ⟨hn_, _, _, _, s_⟩ := h
  rcases s_ with ⟨a_, b_, _⟩ | ⟨L_, U_, V_, a_, b_, g_, _, _, S_, M_, _⟩
  · exact ⟨.inl 0, jn 0, ev_u2 I 241 0 (jn 1), by simp only [d_F_why, f_t0 a_, f_f0 (n := n) a_, f_n0 (n := n) a_, f_u0 (n := n) a_, ob_s, eq_self, if_true, if_false, n10_, not_false_eq_true], by simp only [d_M_why, m_mF0 b_, m_mU0 b_, m_mH0 b_, m_look0 b_, m_f0 b_, m_n0 b_, m_u0 b_, m_c0 b_, b_, m_two0, m_may0, ob_s, eq_self, if_true, if_false, n10_, not_false_eq_true], ⟨1, by decide, ju_at ..⟩, Inw_k h_ _⟩
  have F_ := g_.1
  have C_ := g_.2.1
  have N_ := g_.2.2.1
  have T_ := g_.2.2.2.1
  have P_ := g_.2.2.2.2.1
  have M0_ : qM L_ B (ev_u2 I 241 0 (jn 0) 242) := by rw [ju_na (by omega)]; exact M_
  by_cases hx_ : jlt x1 (qF L_)
  rotate_left
  · exact ⟨.inl 1, jn 0, ev_u2 I 241 0 (jn 2), by simp only [d_F_why, f_fN a_ S_ g_ hx_, ob_s, eq_self, if_true, if_false, n10_, not_false_eq_true], by simp only [d_M_why, m_mFN b_ M_ g_ hx_, b_, m_two1, m_twoY, m_may1, m_may2, m_mayY, ob_s, eq_self, if_true, if_false, n10_, not_false_eq_true], ⟨2, by decide, ju_at ..⟩, Inw_k h_ _⟩
  have hx2_ := hx_
  obtain ⟨k_, hk_, rfl⟩ := hx_
  exact ⟨.inr (ywhy (ybs L_ k_)), ywhy (ybs L_ k_), ev_u2 I 241 0 (jn 0), by simp only [d_F_why, f_fY a_ S_ g_ hx2_, if_pos (sq_in g_ hk_), sq_n g_ hk_, sq_why S_ hk_, ob_s, eq_self, if_true, if_false, n10_, not_false_eq_true] <;> rfl, by simp only [d_M_why, m_mFY b_ M_ g_ hx2_, b_, m_two1, m_twoY, m_may1, m_may2, m_mayY, mq_why M0_ g_ hk_, ob_s, eq_self, if_true, if_false, n10_, not_false_eq_true] <;> rfl, ⟨rfl, ju_at ..⟩, Inw_k h_ _⟩
theorem op_reasons (h : Inv n B I) (x1 : Int32) : ∃ r v J, d_F_reasons n x1 I = some r ∧ d_M_reasons x1 I = some (v, J) ∧ opR [(0, 1), (1, 2)] r v J ∧ Inw n B I J := by
  have h_ := h
  have n10_ : ¬ jn 1 = jn 0 := by decide
  obtain ⟨hn_, _, _, _, s_⟩ := h
  rcases s_ with ⟨a_, b_, _⟩ | ⟨L_, U_, V_, a_, b_, g_, _, _, S_, M_, _⟩
  · exact ⟨.inl 0, jn 0, ev_u2 I 241 0 (jn 1), by simp only [d_F_reasons, f_t0 a_, f_f0 (n := n) a_, f_n0 (n := n) a_, f_u0 (n := n) a_, ob_s, eq_self, if_true, if_false, n10_, not_false_eq_true], by simp only [d_M_reasons, m_mF0 b_, m_mU0 b_, m_mH0 b_, m_look0 b_, m_f0 b_, m_n0 b_, m_u0 b_, m_c0 b_, b_, m_two0, m_may0, ob_s, eq_self, if_true, if_false, n10_, not_false_eq_true], ⟨1, by decide, ju_at ..⟩, Inw_k h_ _⟩
  have F_ := g_.1
  have C_ := g_.2.1
  have N_ := g_.2.2.1
  have T_ := g_.2.2.2.1
  have P_ := g_.2.2.2.2.1
  have M0_ : qM L_ B (ev_u2 I 241 0 (jn 0) 242) := by rw [ju_na (by omega)]; exact M_
  by_cases hx_ : jlt x1 (qF L_)
  rotate_left
  · exact ⟨.inl 1, jn 0, ev_u2 I 241 0 (jn 2), by simp only [d_F_reasons, f_fN a_ S_ g_ hx_, ob_s, eq_self, if_true, if_false, n10_, not_false_eq_true], by simp only [d_M_reasons, m_mFN b_ M_ g_ hx_, b_, m_two1, m_twoY, m_may1, m_may2, m_mayY, ob_s, eq_self, if_true, if_false, n10_, not_false_eq_true], ⟨2, by decide, ju_at ..⟩, Inw_k h_ _⟩
  have hx2_ := hx_
  obtain ⟨k_, hk_, rfl⟩ := hx_
  exact ⟨.inr (yall (ybs L_ k_)), yall (ybs L_ k_), ev_u2 I 241 0 (jn 0), by simp only [d_F_reasons, f_fY a_ S_ g_ hx2_, if_pos (sq_in g_ hk_), sq_n g_ hk_, sq_all S_ hk_, ob_s, eq_self, if_true, if_false, n10_, not_false_eq_true] <;> rfl, by simp only [d_M_reasons, m_mFY b_ M_ g_ hx2_, b_, m_two1, m_twoY, m_may1, m_may2, m_mayY, mq_reas (q := (jn 1, ev_u2 I 241 0 (jn 0))) M0_ g_ hk_, ob_s, eq_self, if_true, if_false, n10_, not_false_eq_true] <;> rfl, ⟨rfl, ju_at ..⟩, Inw_k h_ _⟩
theorem op_whyNotBleach (h : Inv n B I) (x1 : Int32) : ∃ r v J, d_F_whyNotBleach n x1 I = some r ∧ d_M_whyNotBleach x1 I = some (v, J) ∧ opR [(0, 1), (1, 2)] r v J ∧ Inw n B I J := by
  have h_ := h
  have n10_ : ¬ jn 1 = jn 0 := by decide
  obtain ⟨hn_, _, _, _, s_⟩ := h
  rcases s_ with ⟨a_, b_, _⟩ | ⟨L_, U_, V_, a_, b_, g_, _, _, S_, M_, _⟩
  · exact ⟨.inl 0, jn 0, ev_u2 I 241 0 (jn 1), by simp only [d_F_whyNotBleach, f_t0 a_, f_f0 (n := n) a_, f_n0 (n := n) a_, f_u0 (n := n) a_, ob_s, eq_self, if_true, if_false, n10_, not_false_eq_true], by simp only [d_M_whyNotBleach, m_mF0 b_, m_mU0 b_, m_mH0 b_, m_look0 b_, m_f0 b_, m_n0 b_, m_u0 b_, m_c0 b_, b_, m_two0, m_may0, ob_s, eq_self, if_true, if_false, n10_, not_false_eq_true], ⟨1, by decide, ju_at ..⟩, Inw_k h_ _⟩
  have F_ := g_.1
  have C_ := g_.2.1
  have N_ := g_.2.2.1
  have T_ := g_.2.2.2.1
  have P_ := g_.2.2.2.2.1
  have M0_ : qM L_ B (ev_u2 I 241 0 (jn 0) 242) := by rw [ju_na (by omega)]; exact M_
  by_cases hx_ : jlt x1 (qF L_)
  rotate_left
  · exact ⟨.inl 1, jn 0, ev_u2 I 241 0 (jn 2), by simp only [d_F_whyNotBleach, f_fN a_ S_ g_ hx_, ob_s, eq_self, if_true, if_false, n10_, not_false_eq_true], by simp only [d_M_whyNotBleach, m_mFN b_ M_ g_ hx_, b_, m_two1, m_twoY, m_may1, m_may2, m_mayY, ob_s, eq_self, if_true, if_false, n10_, not_false_eq_true], ⟨2, by decide, ju_at ..⟩, Inw_k h_ _⟩
  have hx2_ := hx_
  obtain ⟨k_, hk_, rfl⟩ := hx_
  exact ⟨.inr (yble L_ k_), yble L_ k_, ev_u2 I 241 0 (jn 0), by simp only [d_F_whyNotBleach, f_fY a_ S_ g_ hx2_, if_pos (sq_in g_ hk_), sq_n g_ hk_, sq_ble S_ g_ hk_, ob_s, eq_self, if_true, if_false, n10_, not_false_eq_true] <;> rfl, by simp only [d_M_whyNotBleach, m_mFY b_ M_ g_ hx2_, b_, m_two1, m_twoY, m_may1, m_may2, m_mayY, mq_ble M0_ g_ hk_, ob_s, eq_self, if_true, if_false, n10_, not_false_eq_true] <;> rfl, ⟨rfl, ju_at ..⟩, Inw_k h_ _⟩
theorem op_washesFor (h : Inv n B I) (x1 : Int32) : ∃ r v J, d_F_washesFor n x1 I = some r ∧ d_M_washesFor x1 I = some (v, J) ∧ opR [(0, 1), (1, 2)] r v J ∧ Inw n B I J := by
  have h_ := h
  have n10_ : ¬ jn 1 = jn 0 := by decide
  obtain ⟨hn_, _, _, _, s_⟩ := h
  rcases s_ with ⟨a_, b_, _⟩ | ⟨L_, U_, V_, a_, b_, g_, _, _, S_, M_, _⟩
  · exact ⟨.inl 0, jn 0, ev_u2 I 241 0 (jn 1), by simp only [d_F_washesFor, f_t0 a_, f_f0 (n := n) a_, f_n0 (n := n) a_, f_u0 (n := n) a_, ob_s, eq_self, if_true, if_false, n10_, not_false_eq_true], by simp only [d_M_washesFor, m_mF0 b_, m_mU0 b_, m_mH0 b_, m_look0 b_, m_f0 b_, m_n0 b_, m_u0 b_, m_c0 b_, b_, m_two0, m_may0, ob_s, eq_self, if_true, if_false, n10_, not_false_eq_true], ⟨1, by decide, ju_at ..⟩, Inw_k h_ _⟩
  have F_ := g_.1
  have C_ := g_.2.1
  have N_ := g_.2.2.1
  have T_ := g_.2.2.2.1
  have P_ := g_.2.2.2.2.1
  have M0_ : qM L_ B (ev_u2 I 241 0 (jn 0) 242) := by rw [ju_na (by omega)]; exact M_
  by_cases hx_ : jlt x1 (qF L_)
  rotate_left
  · exact ⟨.inl 1, jn 0, ev_u2 I 241 0 (jn 2), by simp only [d_F_washesFor, f_fN a_ S_ g_ hx_, ob_s, eq_self, if_true, if_false, n10_, not_false_eq_true], by simp only [d_M_washesFor, m_mFN b_ M_ g_ hx_, b_, m_two1, m_twoY, m_may1, m_may2, m_mayY, ob_s, eq_self, if_true, if_false, n10_, not_false_eq_true], ⟨2, by decide, ju_at ..⟩, Inw_k h_ _⟩
  have hx2_ := hx_
  obtain ⟨k_, hk_, rfl⟩ := hx_
  exact ⟨.inr (ywf L_ k_), ywf L_ k_, ev_u2 I 241 0 (jn 0), by simp only [d_F_washesFor, f_fY a_ S_ g_ hx2_, if_pos (sq_in g_ hk_), sq_n g_ hk_, sq_washes S_ g_ hk_, ob_s, eq_self, if_true, if_false, n10_, not_false_eq_true] <;> rfl, by simp only [d_M_washesFor, m_mFY b_ M_ g_ hx2_, b_, m_two1, m_twoY, m_may1, m_may2, m_mayY, mq_f M0_ g_ hk_ (show 2 < 10 by omega), mq_f M0_ g_ hk_ (show 3 < 10 by omega), qf_w0 g_ hk_, ob_s, eq_self, if_true, if_false, n10_, not_false_eq_true] <;> rfl, ⟨rfl, ju_at ..⟩, Inw_k h_ _⟩
theorem op_whyNotIron (h : Inv n B I) (x1 : Int32) (x2 : Int32) : ∃ r v J, d_F_whyNotIron n x1 x2 I = some r ∧ d_M_whyNotIron x1 x2 I = some (v, J) ∧ opR [(0, 1), (1, 2), (2, 3)] r v J ∧ Inw n B I J := by
  have h_ := h
  have n10_ : ¬ jn 1 = jn 0 := by decide
  obtain ⟨hn_, _, _, _, s_⟩ := h
  obtain ⟨hb_, eh_⟩ := m_hB x2
  rcases s_ with ⟨a_, b_, _⟩ | ⟨L_, U_, V_, a_, b_, g_, _, _, S_, M_, _⟩
  · exact ⟨.inl 0, jn 0, ev_u2 I 241 0 (jn 1), by simp only [d_F_whyNotIron, f_t0 a_, f_f0 (n := n) a_, f_n0 (n := n) a_, f_u0 (n := n) a_, ob_s, eq_self, if_true, if_false, n10_, not_false_eq_true], by simp only [d_M_whyNotIron, m_mF0 b_, m_mU0 b_, m_mH0 b_, m_look0 b_, m_f0 b_, m_n0 b_, m_u0 b_, m_c0 b_, b_, m_two0, m_may0, eh_, ob_s, eq_self, if_true, if_false, n10_, not_false_eq_true], ⟨1, by decide, ju_at ..⟩, Inw_k h_ _⟩
  have F_ := g_.1
  have C_ := g_.2.1
  have N_ := g_.2.2.1
  have T_ := g_.2.2.2.1
  have P_ := g_.2.2.2.2.1
  have M0_ : qM L_ B (ev_u2 I 241 0 (jn 0) 242) := by rw [ju_na (by omega)]; exact M_
  by_cases hx_ : jlt x1 (qF L_)
  rotate_left
  · exact ⟨.inl 1, jn 0, ev_u2 I 241 0 (jn 2), by simp only [d_F_whyNotIron, f_fN a_ S_ g_ hx_, ob_s, eq_self, if_true, if_false, n10_, not_false_eq_true], by simp only [d_M_whyNotIron, m_fN b_ M_ g_ hx_, b_, m_two1, m_twoY, m_may1, m_may2, m_mayY, eh_, ob_s, eq_self, if_true, if_false, n10_, not_false_eq_true], ⟨2, by decide, ju_at ..⟩, Inw_k h_ _⟩
  by_cases hy_ : hOk x2
  rotate_left
  · exact ⟨.inl 2, jn 0, ev_u2 I 241 0 (jn 3), by simp only [d_F_whyNotIron, f_fY a_ S_ g_ hx_, f_hN hy_, ob_s, eq_self, if_true, if_false, n10_, not_false_eq_true], by simp only [d_M_whyNotIron, m_fY b_ M_ g_ hx_, m_hN hy_, b_, m_two1, m_twoY, m_may1, m_may2, m_mayY, ob_s, eq_self, if_true, if_false, n10_, not_false_eq_true], ⟨3, by decide, ju_at ..⟩, Inw_k h_ _⟩
  have hx2_ := hx_
  obtain ⟨k_, hk_, rfl⟩ := hx_
  exact ⟨.inr (yiron L_ k_ x2), yiron L_ k_ x2, ev_u2 I 241 0 (jn 0), by simp only [d_F_whyNotIron, f_fY a_ S_ g_ hx2_, f_hY hy_, if_pos (sq_in g_ hk_), sq_n g_ hk_, sq_iron S_ hk_, ob_s, eq_self, if_true, if_false, n10_, not_false_eq_true] <;> rfl, by simp only [d_M_whyNotIron, m_fY b_ M_ g_ hx2_, m_hY hy_, b_, m_two1, m_twoY, m_may1, m_may2, m_mayY, mq_iron M0_ g_ hk_, ob_s, eq_self, if_true, if_false, n10_, not_false_eq_true] <;> rfl, ⟨rfl, ju_at ..⟩, Inw_k h_ _⟩
theorem op_whyNotWash (h : Inv n B I) (x1 : Int32) (x2 : Int32) : ∃ r v J, d_F_whyNotWash n x1 x2 I = some r ∧ d_M_whyNotWash x1 x2 I = some (v, J) ∧ opR [(0, 1), (1, 2), (2, 3)] r v J ∧ Inw n B I J := by
  have h_ := h
  have n10_ : ¬ jn 1 = jn 0 := by decide
  obtain ⟨hn_, _, _, _, s_⟩ := h
  rcases s_ with ⟨a_, b_, _⟩ | ⟨L_, U_, V_, a_, b_, g_, _, _, S_, M_, _⟩
  · exact ⟨.inl 0, jn 0, ev_u2 I 241 0 (jn 1), by simp only [d_F_whyNotWash, f_t0 a_, f_f0 (n := n) a_, f_n0 (n := n) a_, f_u0 (n := n) a_, ob_s, eq_self, if_true, if_false, n10_, not_false_eq_true], by simp only [d_M_whyNotWash, m_mF0 b_, m_mU0 b_, m_mH0 b_, m_look0 b_, m_f0 b_, m_n0 b_, m_u0 b_, m_c0 b_, b_, m_two0, m_may0, ob_s, eq_self, if_true, if_false, n10_, not_false_eq_true], ⟨1, by decide, ju_at ..⟩, Inw_k h_ _⟩
  have F_ := g_.1
  have C_ := g_.2.1
  have N_ := g_.2.2.1
  have T_ := g_.2.2.2.1
  have P_ := g_.2.2.2.2.1
  have M0_ : qM L_ B (ev_u2 I 241 0 (jn 0) 242) := by rw [ju_na (by omega)]; exact M_
  by_cases hx_ : jlt x1 (qT L_)
  rotate_left
  · exact ⟨.inl 1, jn 0, ev_u2 I 241 0 (jn 2), by simp only [d_F_whyNotWash, f_uN a_ S_ g_ hx_, ob_s, eq_self, if_true, if_false, n10_, not_false_eq_true], by simp only [d_M_whyNotWash, m_mHN b_ M_ g_ hx_, b_, m_two1, m_twoY, m_may1, m_may2, m_mayY, ob_s, eq_self, if_true, if_false, n10_, not_false_eq_true], ⟨2, by decide, ju_at ..⟩, Inw_k h_ _⟩
  by_cases hy_ : hOk x2
  rotate_left
  · exact ⟨.inl 2, jn 0, ev_u2 I 241 0 (jn 3), by simp only [d_F_whyNotWash, f_uY a_ S_ g_ hx_, f_hN hy_, ob_s, eq_self, if_true, if_false, n10_, not_false_eq_true], by simp only [d_M_whyNotWash, m_mHh b_ M_ g_ hx_ hy_, b_, m_two1, m_twoY, m_may1, m_may2, m_mayY, ob_s, eq_self, if_true, if_false, n10_, not_false_eq_true], ⟨3, by decide, ju_at ..⟩, Inw_k h_ _⟩
  have hx2_ := hx_
  obtain ⟨k_, hk_, rfl⟩ := hx_
  exact ⟨.inr (ywash L_ k_ x2), ywash L_ k_ x2, ev_u2 I 241 0 (jn 0), by simp only [d_F_whyNotWash, f_uY a_ S_ g_ hx2_, f_hY hy_, sq_wash S_ g_ hk_, ob_s, eq_self, if_true, if_false, n10_, not_false_eq_true] <;> rfl, by simp only [d_M_whyNotWash, m_mHY b_ M_ g_ hx2_ hy_, b_, m_two1, m_twoY, m_may1, m_may2, m_mayY, mq_wash M0_ g_ hk_, ob_s, eq_self, if_true, if_false, n10_, not_false_eq_true] <;> rfl, ⟨rfl, ju_at ..⟩, Inw_k h_ _⟩
theorem op_running (h : Inv n B I) (x1 : Int32) (x2 : Int32) : ∃ r v J, d_F_running n x1 x2 I = some r ∧ d_M_running x1 x2 I = some (v, J) ∧ opR [(0, 1), (1, 2), (2, 3)] r v J ∧ Inw n B I J := by
  have h_ := h
  have n10_ : ¬ jn 1 = jn 0 := by decide
  obtain ⟨hn_, _, _, _, s_⟩ := h
  rcases s_ with ⟨a_, b_, _⟩ | ⟨L_, U_, V_, a_, b_, g_, _, _, S_, M_, _⟩
  · exact ⟨.inl 0, jn 0, ev_u2 I 241 0 (jn 1), by simp only [d_F_running, f_t0 a_, f_f0 (n := n) a_, f_n0 (n := n) a_, f_u0 (n := n) a_, ob_s, eq_self, if_true, if_false, n10_, not_false_eq_true], by simp only [d_M_running, m_mF0 b_, m_mU0 b_, m_mH0 b_, m_look0 b_, m_f0 b_, m_n0 b_, m_u0 b_, m_c0 b_, b_, m_two0, m_may0, ob_s, eq_self, if_true, if_false, n10_, not_false_eq_true], ⟨1, by decide, ju_at ..⟩, Inw_k h_ _⟩
  have F_ := g_.1
  have C_ := g_.2.1
  have N_ := g_.2.2.1
  have T_ := g_.2.2.2.1
  have P_ := g_.2.2.2.2.1
  have M0_ : qM L_ B (ev_u2 I 241 0 (jn 0) 242) := by rw [ju_na (by omega)]; exact M_
  by_cases hx_ : jlt x1 (qT L_)
  rotate_left
  · exact ⟨.inl 1, jn 0, ev_u2 I 241 0 (jn 2), by simp only [d_F_running, f_uN a_ S_ g_ hx_, ob_s, eq_self, if_true, if_false, n10_, not_false_eq_true], by simp only [d_M_running, m_mHN b_ M_ g_ hx_, b_, m_two1, m_twoY, m_may1, m_may2, m_mayY, ob_s, eq_self, if_true, if_false, n10_, not_false_eq_true], ⟨2, by decide, ju_at ..⟩, Inw_k h_ _⟩
  by_cases hy_ : hOk x2
  rotate_left
  · exact ⟨.inl 2, jn 0, ev_u2 I 241 0 (jn 3), by simp only [d_F_running, f_uY a_ S_ g_ hx_, f_hN hy_, ob_s, eq_self, if_true, if_false, n10_, not_false_eq_true], by simp only [d_M_running, m_mHh b_ M_ g_ hx_ hy_, b_, m_two1, m_twoY, m_may1, m_may2, m_mayY, ob_s, eq_self, if_true, if_false, n10_, not_false_eq_true], ⟨3, by decide, ju_at ..⟩, Inw_k h_ _⟩
  have hx2_ := hx_
  obtain ⟨k_, hk_, rfl⟩ := hx_
  exact ⟨.inr (yrunt L_ k_ x2), yrunt L_ k_ x2, ev_u2 I 241 0 (jn 0), by simp only [d_F_running, f_uY a_ S_ g_ hx2_, f_hY hy_, sq_runningIn S_ g_ hk_, ob_s, eq_self, if_true, if_false, n10_, not_false_eq_true] <;> rfl, by simp only [d_M_running, m_mHY b_ M_ g_ hx2_ hy_, b_, m_two1, m_twoY, m_may1, m_may2, m_mayY, mq_runningIn M0_ g_ hk_, ob_s, eq_self, if_true, if_false, n10_, not_false_eq_true] <;> rfl, ⟨rfl, ju_at ..⟩, Inw_k h_ _⟩
theorem op_stainedIf (h : Inv n B I) (x1 : Int32) (x2 : Int32) : ∃ r v J, d_F_stainedIf n x1 x2 I = some r ∧ d_M_stainedIf x1 x2 I = some (v, J) ∧ opR [(0, 1), (1, 2), (2, 3)] r v J ∧ Inw n B I J := by
  have h_ := h
  have n10_ : ¬ jn 1 = jn 0 := by decide
  obtain ⟨hn_, _, _, _, s_⟩ := h
  rcases s_ with ⟨a_, b_, _⟩ | ⟨L_, U_, V_, a_, b_, g_, _, _, S_, M_, _⟩
  · exact ⟨.inl 0, jn 0, ev_u2 I 241 0 (jn 1), by simp only [d_F_stainedIf, f_t0 a_, f_f0 (n := n) a_, f_n0 (n := n) a_, f_u0 (n := n) a_, ob_s, eq_self, if_true, if_false, n10_, not_false_eq_true], by simp only [d_M_stainedIf, m_mF0 b_, m_mU0 b_, m_mH0 b_, m_look0 b_, m_f0 b_, m_n0 b_, m_u0 b_, m_c0 b_, b_, m_two0, m_may0, ob_s, eq_self, if_true, if_false, n10_, not_false_eq_true], ⟨1, by decide, ju_at ..⟩, Inw_k h_ _⟩
  have F_ := g_.1
  have C_ := g_.2.1
  have N_ := g_.2.2.1
  have T_ := g_.2.2.2.1
  have P_ := g_.2.2.2.2.1
  have M0_ : qM L_ B (ev_u2 I 241 0 (jn 0) 242) := by rw [ju_na (by omega)]; exact M_
  by_cases hx_ : jlt x1 (qT L_)
  rotate_left
  · exact ⟨.inl 1, jn 0, ev_u2 I 241 0 (jn 2), by simp only [d_F_stainedIf, f_uN a_ S_ g_ hx_, ob_s, eq_self, if_true, if_false, n10_, not_false_eq_true], by simp only [d_M_stainedIf, m_mHN b_ M_ g_ hx_, b_, m_two1, m_twoY, m_may1, m_may2, m_mayY, ob_s, eq_self, if_true, if_false, n10_, not_false_eq_true], ⟨2, by decide, ju_at ..⟩, Inw_k h_ _⟩
  by_cases hy_ : hOk x2
  rotate_left
  · exact ⟨.inl 2, jn 0, ev_u2 I 241 0 (jn 3), by simp only [d_F_stainedIf, f_uY a_ S_ g_ hx_, f_hN hy_, ob_s, eq_self, if_true, if_false, n10_, not_false_eq_true], by simp only [d_M_stainedIf, m_mHh b_ M_ g_ hx_ hy_, b_, m_two1, m_twoY, m_may1, m_may2, m_mayY, ob_s, eq_self, if_true, if_false, n10_, not_false_eq_true], ⟨3, by decide, ju_at ..⟩, Inw_k h_ _⟩
  have hx2_ := hx_
  obtain ⟨k_, hk_, rfl⟩ := hx_
  exact ⟨.inr (ystn L_ k_ (yrunt L_ k_ x2)), ystn L_ k_ (yrunt L_ k_ x2), ev_u2 I 241 0 (jn 0), by simp only [d_F_stainedIf, f_uY a_ S_ g_ hx2_, f_hY hy_, sq_runningIn S_ g_ hk_, sq_stained S_ g_ hk_, ob_s, eq_self, if_true, if_false, n10_, not_false_eq_true] <;> rfl, by simp only [d_M_stainedIf, m_mHY b_ M_ g_ hx2_ hy_, b_, m_two1, m_twoY, m_may1, m_may2, m_mayY, mq_stained M0_ g_ hk_, ob_s, eq_self, if_true, if_false, n10_, not_false_eq_true] <;> rfl, ⟨rfl, ju_at ..⟩, Inw_k h_ _⟩
theorem op_dirtIf (h : Inv n B I) (x1 : Int32) (x2 : Int32) : ∃ r v J, d_F_dirtIf n x1 x2 I = some r ∧ d_M_dirtIf x1 x2 I = some (v, J) ∧ opR [(0, 1), (1, 2), (2, 3)] r v J ∧ Inw n B I J := by
  have h_ := h
  have n10_ : ¬ jn 1 = jn 0 := by decide
  obtain ⟨hn_, _, _, _, s_⟩ := h
  rcases s_ with ⟨a_, b_, _⟩ | ⟨L_, U_, V_, a_, b_, g_, _, _, S_, M_, _⟩
  · exact ⟨.inl 0, jn 0, ev_u2 I 241 0 (jn 1), by simp only [d_F_dirtIf, f_t0 a_, f_f0 (n := n) a_, f_n0 (n := n) a_, f_u0 (n := n) a_, ob_s, eq_self, if_true, if_false, n10_, not_false_eq_true], by simp only [d_M_dirtIf, m_mF0 b_, m_mU0 b_, m_mH0 b_, m_look0 b_, m_f0 b_, m_n0 b_, m_u0 b_, m_c0 b_, b_, m_two0, m_may0, ob_s, eq_self, if_true, if_false, n10_, not_false_eq_true], ⟨1, by decide, ju_at ..⟩, Inw_k h_ _⟩
  have F_ := g_.1
  have C_ := g_.2.1
  have N_ := g_.2.2.1
  have T_ := g_.2.2.2.1
  have P_ := g_.2.2.2.2.1
  have M0_ : qM L_ B (ev_u2 I 241 0 (jn 0) 242) := by rw [ju_na (by omega)]; exact M_
  by_cases hx_ : jlt x1 (qT L_)
  rotate_left
  · exact ⟨.inl 1, jn 0, ev_u2 I 241 0 (jn 2), by simp only [d_F_dirtIf, f_uN a_ S_ g_ hx_, ob_s, eq_self, if_true, if_false, n10_, not_false_eq_true], by simp only [d_M_dirtIf, m_mHN b_ M_ g_ hx_, b_, m_two1, m_twoY, m_may1, m_may2, m_mayY, ob_s, eq_self, if_true, if_false, n10_, not_false_eq_true], ⟨2, by decide, ju_at ..⟩, Inw_k h_ _⟩
  by_cases hy_ : hOk x2
  rotate_left
  · exact ⟨.inl 2, jn 0, ev_u2 I 241 0 (jn 3), by simp only [d_F_dirtIf, f_uY a_ S_ g_ hx_, f_hN hy_, ob_s, eq_self, if_true, if_false, n10_, not_false_eq_true], by simp only [d_M_dirtIf, m_mHh b_ M_ g_ hx_ hy_, b_, m_two1, m_twoY, m_may1, m_may2, m_mayY, ob_s, eq_self, if_true, if_false, n10_, not_false_eq_true], ⟨3, by decide, ju_at ..⟩, Inw_k h_ _⟩
  have hx2_ := hx_
  obtain ⟨k_, hk_, rfl⟩ := hx_
  exact ⟨.inr (yleft L_ k_ x2), yleft L_ k_ x2, ev_u2 I 241 0 (jn 0), by simp only [d_F_dirtIf, f_uY a_ S_ g_ hx2_, f_hY hy_, sq_dirtLeft S_ g_ hk_, ob_s, eq_self, if_true, if_false, n10_, not_false_eq_true] <;> rfl, by simp only [d_M_dirtIf, m_mHY b_ M_ g_ hx2_ hy_, b_, m_two1, m_twoY, m_may1, m_may2, m_mayY, mq_dirtBy M0_ g_ hk_, ob_s, eq_self, if_true, if_false, n10_, not_false_eq_true] <;> rfl, ⟨rfl, ju_at ..⟩, Inw_k h_ _⟩
theorem op_culprit (h : Inv n B I) (x1 : Int32) : ∃ r v J, d_F_culprit n x1 I = some r ∧ d_M_culprit x1 I = some (v, J) ∧ opR [(0, 1), (1, 2)] r v J ∧ Inw n B I J := by
  have h_ := h
  have n10_ : ¬ jn 1 = jn 0 := by decide
  obtain ⟨hn_, _, _, _, s_⟩ := h
  rcases s_ with ⟨a_, b_, _⟩ | ⟨L_, U_, V_, a_, b_, g_, _, _, S_, M_, _⟩
  · exact ⟨.inl 0, jn 0, ev_u2 I 241 0 (jn 1), by simp only [d_F_culprit, f_t0 a_, f_f0 (n := n) a_, f_n0 (n := n) a_, f_u0 (n := n) a_, ob_s, eq_self, if_true, if_false, n10_, not_false_eq_true], by simp only [d_M_culprit, m_mF0 b_, m_mU0 b_, m_mH0 b_, m_look0 b_, m_f0 b_, m_n0 b_, m_u0 b_, m_c0 b_, b_, m_two0, m_may0, ob_s, eq_self, if_true, if_false, n10_, not_false_eq_true], ⟨1, by decide, ju_at ..⟩, Inw_k h_ _⟩
  have F_ := g_.1
  have C_ := g_.2.1
  have N_ := g_.2.2.1
  have T_ := g_.2.2.2.1
  have P_ := g_.2.2.2.2.1
  have M0_ : qM L_ B (ev_u2 I 241 0 (jn 0) 242) := by rw [ju_na (by omega)]; exact M_
  by_cases hx_ : jlt x1 (qN L_)
  rotate_left
  · exact ⟨.inl 1, jn 0, ev_u2 I 241 0 (jn 2), by simp only [d_F_culprit, f_nN a_ S_ g_ hx_, ob_s, eq_self, if_true, if_false, n10_, not_false_eq_true], by simp only [d_M_culprit, m_nN b_ M_ g_ hx_, b_, m_two1, m_twoY, m_may1, m_may2, m_mayY, ob_s, eq_self, if_true, if_false, n10_, not_false_eq_true], ⟨2, by decide, ju_at ..⟩, Inw_k h_ _⟩
  have hx2_ := hx_
  obtain ⟨k_, hk_, rfl⟩ := hx_
  exact ⟨.inr (ycul L_ k_), ycul L_ k_, ev_u2 I 241 0 (jn 0), by simp only [d_F_culprit, f_nY a_ S_ g_ hx2_, sq_culprit S_ g_, ob_s, eq_self, if_true, if_false, n10_, not_false_eq_true] <;> rfl, by simp only [d_M_culprit, m_nY b_ M_ g_ hx2_, b_, m_two1, m_twoY, m_may1, m_may2, m_mayY, mq_culprit M0_ g_, ob_s, eq_self, if_true, if_false, n10_, not_false_eq_true] <;> rfl, ⟨rfl, ju_at ..⟩, Inw_k h_ _⟩
theorem op_latest (h : Inv n B I) (x1 : Int32) : ∃ r v J, d_F_latest n x1 I = some r ∧ d_M_latest x1 I = some (v, J) ∧ opR [(0, 1), (1, 2)] r v J ∧ Inw n B I J := by
  have h_ := h
  have n10_ : ¬ jn 1 = jn 0 := by decide
  obtain ⟨hn_, _, _, _, s_⟩ := h
  rcases s_ with ⟨a_, b_, _⟩ | ⟨L_, U_, V_, a_, b_, g_, _, _, S_, M_, _⟩
  · exact ⟨.inl 0, jn 0, ev_u2 I 241 0 (jn 1), by simp only [d_F_latest, f_t0 a_, f_f0 (n := n) a_, f_n0 (n := n) a_, f_u0 (n := n) a_, ob_s, eq_self, if_true, if_false, n10_, not_false_eq_true], by simp only [d_M_latest, m_mF0 b_, m_mU0 b_, m_mH0 b_, m_look0 b_, m_f0 b_, m_n0 b_, m_u0 b_, m_c0 b_, b_, m_two0, m_may0, ob_s, eq_self, if_true, if_false, n10_, not_false_eq_true], ⟨1, by decide, ju_at ..⟩, Inw_k h_ _⟩
  have F_ := g_.1
  have C_ := g_.2.1
  have N_ := g_.2.2.1
  have T_ := g_.2.2.2.1
  have P_ := g_.2.2.2.2.1
  have M0_ : qM L_ B (ev_u2 I 241 0 (jn 0) 242) := by rw [ju_na (by omega)]; exact M_
  by_cases hx_ : jlt x1 (qN L_)
  rotate_left
  · exact ⟨.inl 1, jn 0, ev_u2 I 241 0 (jn 2), by simp only [d_F_latest, f_nN a_ S_ g_ hx_, ob_s, eq_self, if_true, if_false, n10_, not_false_eq_true], by simp only [d_M_latest, m_nN b_ M_ g_ hx_, b_, m_two1, m_twoY, m_may1, m_may2, m_mayY, ob_s, eq_self, if_true, if_false, n10_, not_false_eq_true], ⟨2, by decide, ju_at ..⟩, Inw_k h_ _⟩
  have hx2_ := hx_
  obtain ⟨k_, hk_, rfl⟩ := hx_
  exact ⟨.inr (ylsth L_ k_), ylsth L_ k_, ev_u2 I 241 0 (jn 0), by simp only [d_F_latest, f_nY a_ S_ g_ hx2_, sq_lastHour S_ g_ hk_, ob_s, eq_self, if_true, if_false, n10_, not_false_eq_true] <;> rfl, by simp only [d_M_latest, m_nY b_ M_ g_ hx2_, b_, m_two1, m_twoY, m_may1, m_may2, m_mayY, mq_lastHour M0_ g_ hk_, ob_s, eq_self, if_true, if_false, n10_, not_false_eq_true] <;> rfl, ⟨rfl, ju_at ..⟩, Inw_k h_ _⟩
theorem op_payIf (h : Inv n B I) (x1 : Int32) (x2 : Int32) : ∃ r v J, d_F_payIf n x1 x2 I = some r ∧ d_M_payIf x1 x2 I = some (v, J) ∧ opR [(0, 1), (1, 2), (2, 3)] r v J ∧ Inw n B I J := by
  have h_ := h
  have n10_ : ¬ jn 1 = jn 0 := by decide
  obtain ⟨hn_, _, _, _, s_⟩ := h
  rcases s_ with ⟨a_, b_, _⟩ | ⟨L_, U_, V_, a_, b_, g_, _, _, S_, M_, _⟩
  · exact ⟨.inl 0, jn 0, ev_u2 I 241 0 (jn 1), by simp only [d_F_payIf, f_t0 a_, f_f0 (n := n) a_, f_n0 (n := n) a_, f_u0 (n := n) a_, ob_s, eq_self, if_true, if_false, n10_, not_false_eq_true], by simp only [d_M_payIf, m_mF0 b_, m_mU0 b_, m_mH0 b_, m_look0 b_, m_f0 b_, m_n0 b_, m_u0 b_, m_c0 b_, b_, m_two0, m_may0, rp_rng, ob_s, eq_self, if_true, if_false, n10_, not_false_eq_true], ⟨1, by decide, ju_at ..⟩, Inw_k h_ _⟩
  have F_ := g_.1
  have C_ := g_.2.1
  have N_ := g_.2.2.1
  have T_ := g_.2.2.2.1
  have P_ := g_.2.2.2.2.1
  have M0_ : qM L_ B (ev_u2 I 241 0 (jn 0) 242) := by rw [ju_na (by omega)]; exact M_
  by_cases hx_ : jlt x1 (qN L_)
  rotate_left
  · exact ⟨.inl 1, jn 0, ev_u2 I 241 0 (jn 2), by simp only [d_F_payIf, f_nN a_ S_ g_ hx_, ob_s, eq_self, if_true, if_false, n10_, not_false_eq_true], by simp only [d_M_payIf, m_nN b_ M_ g_ hx_, b_, m_two1, m_twoY, m_may1, m_may2, m_mayY, rp_rng, ob_s, eq_self, if_true, if_false, n10_, not_false_eq_true], ⟨2, by decide, ju_at ..⟩, Inw_k h_ _⟩
  by_cases hy_ : ¬ x2 < jn 0 ∧ ¬ jn 99 < x2
  rotate_left
  · exact ⟨.inl 2, jn 0, ev_u2 I 241 0 (jn 3), by simp only [d_F_payIf, f_nY a_ S_ g_ hx_, f_rN hy_, ob_s, eq_self, if_true, if_false, n10_, not_false_eq_true], by simp only [d_M_payIf, m_nY b_ M_ g_ hx_, m_rN hy_, b_, m_two1, m_twoY, m_may1, m_may2, m_mayY, ob_s, eq_self, if_true, if_false, n10_, not_false_eq_true], ⟨3, by decide, ju_at ..⟩, Inw_k h_ _⟩
  have hx2_ := hx_
  obtain ⟨k_, hk_, rfl⟩ := hx_
  exact ⟨.inr (yahead L_ k_ x2), yahead L_ k_ x2, ev_u2 I 241 0 (jn 0), by simp only [d_F_payIf, f_nY a_ S_ g_ hx2_, f_rYi hy_, sq_ahead S_ g_ hk_, ob_s, eq_self, if_true, if_false, n10_, not_false_eq_true] <;> rfl, by simp only [d_M_payIf, m_nY b_ M_ g_ hx2_, m_rY hy_, b_, m_two1, m_twoY, m_may1, m_may2, m_mayY, mq_payIn M0_ g_ hk_, ob_s, eq_self, if_true, if_false, n10_, not_false_eq_true] <;> rfl, ⟨rfl, ju_at ..⟩, Inw_k h_ _⟩
theorem op_freePegs (h : Inv n B I) : ∃ r v J, d_F_freePegs n I = some r ∧ d_M_freePegs I = some (v, J) ∧ opR [(0, 1)] r v J ∧ Inw n B I J := by
  have h_ := h
  have n10_ : ¬ jn 1 = jn 0 := by decide
  obtain ⟨hn_, _, _, _, s_⟩ := h
  rcases s_ with ⟨a_, b_, _⟩ | ⟨L_, U_, V_, a_, b_, g_, _, _, S_, M_, _⟩
  · exact ⟨.inl 0, jn 0, ev_u2 I 241 0 (jn 1), by simp only [d_F_freePegs, f_t0 a_, f_f0 (n := n) a_, f_n0 (n := n) a_, f_u0 (n := n) a_, ob_s, eq_self, if_true, if_false, n10_, not_false_eq_true], by simp only [d_M_freePegs, m_mF0 b_, m_mU0 b_, m_mH0 b_, m_look0 b_, m_f0 b_, m_n0 b_, m_u0 b_, m_c0 b_, b_, m_two0, m_may0, ob_s, eq_self, if_true, if_false, n10_, not_false_eq_true], ⟨1, by decide, ju_at ..⟩, Inw_k h_ _⟩
  have F_ := g_.1
  have C_ := g_.2.1
  have N_ := g_.2.2.1
  have T_ := g_.2.2.2.1
  have P_ := g_.2.2.2.2.1
  have M0_ : qM L_ B (ev_u2 I 241 0 (jn 0) 242) := by rw [ju_na (by omega)]; exact M_
  exact ⟨.inr (jn (qP L_) - qct (fun f => qf L_ f 8 = jn 2) (qF L_)), jn (qP L_) - qct (fun f => qf L_ f 8 = jn 2) (qF L_), ev_u2 I 241 0 (jn 0), by simp only [d_F_freePegs, f_t1 a_, sq_flagsAt S_ g_, S_.2.2.1, ob_s, eq_self, if_true, if_false, n10_, not_false_eq_true] <;> rfl, by simp only [d_M_freePegs, m_lookY b_, if_pos (in173 (show 9 < 173 by omega)), mq_flagsAt M0_ g_, mq_P M0_, ob_s, eq_self, if_true, if_false, n10_, not_false_eq_true] <;> rfl, ⟨rfl, ju_at ..⟩, Inw_k h_ _⟩
theorem op_wettest (h : Inv n B I) : ∃ r v J, d_F_wettest n I = some r ∧ d_M_wettest I = some (v, J) ∧ opR [(0, 1)] r v J ∧ Inw n B I J := by
  have h_ := h
  have n10_ : ¬ jn 1 = jn 0 := by decide
  obtain ⟨hn_, _, _, _, s_⟩ := h
  rcases s_ with ⟨a_, b_, _⟩ | ⟨L_, U_, V_, a_, b_, g_, _, _, S_, M_, _⟩
  · exact ⟨.inl 0, jn 0, ev_u2 I 241 0 (jn 1), by simp only [d_F_wettest, f_t0 a_, f_f0 (n := n) a_, f_n0 (n := n) a_, f_u0 (n := n) a_, ob_s, eq_self, if_true, if_false, n10_, not_false_eq_true], by simp only [d_M_wettest, m_mF0 b_, m_mU0 b_, m_mH0 b_, m_look0 b_, m_f0 b_, m_n0 b_, m_u0 b_, m_c0 b_, b_, m_two0, m_may0, ob_s, eq_self, if_true, if_false, n10_, not_false_eq_true], ⟨1, by decide, ju_at ..⟩, Inw_k h_ _⟩
  have F_ := g_.1
  have C_ := g_.2.1
  have N_ := g_.2.2.1
  have T_ := g_.2.2.2.1
  have P_ := g_.2.2.2.2.1
  have M0_ : qM L_ B (ev_u2 I 241 0 (jn 0) 242) := by rw [ju_na (by omega)]; exact M_
  exact ⟨.inr (ywet L_), ywet L_, ev_u2 I 241 0 (jn 0), by simp only [d_F_wettest, f_t1 a_, sq_wet S_ g_, ob_s, eq_self, if_true, if_false, n10_, not_false_eq_true] <;> rfl, by simp only [d_M_wettest, m_lookY b_, mq_wet (q := (jn 1, ev_u2 I 241 0 (jn 0))) M0_ g_, ob_s, eq_self, if_true, if_false, n10_, not_false_eq_true] <;> rfl, ⟨rfl, ju_at ..⟩, Inw_k h_ _⟩
theorem op_dearest (h : Inv n B I) : ∃ r v J, d_F_dearest n I = some r ∧ d_M_dearest I = some (v, J) ∧ opR [(0, 1)] r v J ∧ Inw n B I J := by
  have h_ := h
  have n10_ : ¬ jn 1 = jn 0 := by decide
  obtain ⟨hn_, _, _, _, s_⟩ := h
  rcases s_ with ⟨a_, b_, _⟩ | ⟨L_, U_, V_, a_, b_, g_, _, _, S_, M_, _⟩
  · exact ⟨.inl 0, jn 0, ev_u2 I 241 0 (jn 1), by simp only [d_F_dearest, f_t0 a_, f_f0 (n := n) a_, f_n0 (n := n) a_, f_u0 (n := n) a_, ob_s, eq_self, if_true, if_false, n10_, not_false_eq_true], by simp only [d_M_dearest, m_mF0 b_, m_mU0 b_, m_mH0 b_, m_look0 b_, m_f0 b_, m_n0 b_, m_u0 b_, m_c0 b_, b_, m_two0, m_may0, ob_s, eq_self, if_true, if_false, n10_, not_false_eq_true], ⟨1, by decide, ju_at ..⟩, Inw_k h_ _⟩
  have F_ := g_.1
  have C_ := g_.2.1
  have N_ := g_.2.2.1
  have T_ := g_.2.2.2.1
  have P_ := g_.2.2.2.2.1
  have M0_ : qM L_ B (ev_u2 I 241 0 (jn 0) 242) := by rw [ju_na (by omega)]; exact M_
  exact ⟨.inr (ydear L_), ydear L_, ev_u2 I 241 0 (jn 0), by simp only [d_F_dearest, f_t1 a_, sq_dear S_ g_, ob_s, eq_self, if_true, if_false, n10_, not_false_eq_true] <;> rfl, by simp only [d_M_dearest, m_lookY b_, mq_dear (q := (jn 1, ev_u2 I 241 0 (jn 0))) M0_ g_, ob_s, eq_self, if_true, if_false, n10_, not_false_eq_true] <;> rfl, ⟨rfl, ju_at ..⟩, Inw_k h_ _⟩
theorem op_gap (h : Inv n B I) : ∃ r v J, d_F_gap n I = some r ∧ d_M_gap I = some (v, J) ∧ opR [(0, 1)] r v J ∧ Inw n B I J := by
  have h_ := h
  have n10_ : ¬ jn 1 = jn 0 := by decide
  obtain ⟨hn_, _, _, _, s_⟩ := h
  rcases s_ with ⟨a_, b_, _⟩ | ⟨L_, U_, V_, a_, b_, g_, _, _, S_, M_, _⟩
  · exact ⟨.inl 0, jn 0, ev_u2 I 241 0 (jn 1), by simp only [d_F_gap, f_t0 a_, f_f0 (n := n) a_, f_n0 (n := n) a_, f_u0 (n := n) a_, ob_s, eq_self, if_true, if_false, n10_, not_false_eq_true], by simp only [d_M_gap, m_mF0 b_, m_mU0 b_, m_mH0 b_, m_look0 b_, m_f0 b_, m_n0 b_, m_u0 b_, m_c0 b_, b_, m_two0, m_may0, ob_s, eq_self, if_true, if_false, n10_, not_false_eq_true], ⟨1, by decide, ju_at ..⟩, Inw_k h_ _⟩
  have F_ := g_.1
  have C_ := g_.2.1
  have N_ := g_.2.2.1
  have T_ := g_.2.2.2.1
  have P_ := g_.2.2.2.2.1
  have M0_ : qM L_ B (ev_u2 I 241 0 (jn 0) 242) := by rw [ju_na (by omega)]; exact M_
  exact ⟨.inr (ygap L_), ygap L_, ev_u2 I 241 0 (jn 0), by simp only [d_F_gap, f_t1 a_, sq_gap S_ g_, ob_s, eq_self, if_true, if_false, n10_, not_false_eq_true] <;> rfl, by simp only [d_M_gap, m_lookY b_, mq_gapl (q := (jn 1, ev_u2 I 241 0 (jn 0))) M0_ g_, mq_flagsAt M0_ g_, if_pos (in173 (show 10 < 173 by omega)), if_pos (in173 (show 2 < 173 by omega)), if_pos (in173 (show 3 < 173 by omega)), mq_F M0_, mq_now M0_ (show 2 < 6 by omega), mq_now M0_ (show 3 < 6 by omega), ob_s, eq_self, if_true, if_false, n10_, not_false_eq_true]; rw [jgap]; rfl, ⟨rfl, ju_at ..⟩, Inw_k h_ _⟩
end OPR
