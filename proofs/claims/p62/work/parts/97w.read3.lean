/-! calls that think ahead; shares and means; both sides -/
theorem irs_ok : ∀ (c w : Fin 10) (x : Fin 4), (z_it (d_G_ironsUntilSmooth_4 (jn x.val)) z_F (jn 0, jn c.val, jn w.val)).isSome = true := by decide +kernel
theorem irs_1 : ∀ (c w : Fin 10) (x : Fin 4) (b : Bool), 0 < c.val → ∃ k : Fin 10, k.val < c.val ∧ z_mx (jn 0) (((jn c.val - jn 1) - jn x.val) - (if b = true then jn 1 else jn 0)) = jn k.val := by decide +kernel
theorem fp_ok : ∀ (a : Fin 25) (b : Fin 13), 0 < b.val → (FP.fdiv (FP.i2f (jn a.val)) (FP.i2f (jn b.val))) &&& 0x7fffffff ≤ 0x7f800000 := by decide +kernel
theorem fp_ok2 : ∀ (a : Fin 25) (b : Fin 13), 0 < b.val → (FP.f2d (FP.fdiv (FP.i2f (jn a.val)) (FP.i2f (jn b.val)))) &&& 0x7fffffffffffffff ≤ 0x7ff0000000000000 := by decide +kernel
theorem fp_ok0 : (FP.f2d FP.fconst0) &&& 0x7fffffffffffffff ≤ 0x7ff0000000000000 := by decide +kernel
theorem dp_ok : ∀ (a : Fin 109) (b : Fin 13), 0 < b.val → (FP.ddiv (FP.i2d (jn a.val)) (FP.i2d (jn b.val))) &&& 0x7fffffffffffffff ≤ 0x7ff0000000000000 := by decide +kernel
theorem sum_dirt {L : LL} (g : qG L) : ∀ n, n ≤ qF L → ∃ k, k ≤ 9 * n ∧ jfd (fun i a => a + qf L i 3) (jn 0) n = jn k := by
  intro n
  induction n with
  | zero => intro _; exact ⟨0, by omega, rfl⟩
  | succ n ih_ =>
    intro hn
    obtain ⟨k_, hk_, e_⟩ := ih_ (by omega)
    obtain ⟨d_, hd_, ed_⟩ := (g.2.2.2.2.2.1 n (by omega)).2.2.2.1
    exact ⟨k_ + d_, by omega, by rw [jfd_s, e_, ed_, jn_add]⟩
section RD3
variable {n B : Nat} {I : z_H}
theorem Inv_w {J : z_H} {c : Int32} (h : Inv n B I) (w : WK (ev_u2 I 241 0 c) J) : Inw n B I J ∧ J 241 0 = c := by
  have e_ : J 241 = ev_u2 I 241 0 c 241 := w.2 241 (by omega) (by omega)
  refine ⟨Inw_rd h (fun b b1 b2 b3 _ _ => by rw [w.2 b b2 b3, ju_na b1]) (fun k hk => by rw [e_, ju_ne (fun q_ => hk q_.2)]) (fun k hk => by rw [w.1 k hk, ju_na (by omega)]), by rw [e_, ju_at]⟩
theorem op_dryIn (h : Inv n B I) (x1 : Int32) : ∃ r v J, d_F_dryIn n x1 I = some r ∧ d_M_dryIn x1 I = some (v, J) ∧ opR [(0, 1), (1, 2)] r v J ∧ Inw n B I J := by
  have h_ := h
  have n10_ : ¬ jn 1 = jn 0 := by decide
  obtain ⟨hn_, _, _, _, s_⟩ := h
  rcases s_ with ⟨a_, b_, _⟩ | ⟨L_, U_, V_, a_, b_, g_, _, _, S_, M_, _⟩
  · exact ⟨.inl 0, jn 0, ev_u2 I 241 0 (jn 1), by simp only [d_F_dryIn, f_f0 (n := n) a_, ob_s], by simp only [d_M_dryIn, m_mF0 b_, ob_s, eq_self, if_true], ⟨1, by decide, ju_at ..⟩, Inw_k h_ _⟩
  have M0_ : qM L_ B (ev_u2 I 241 0 (jn 0) 242) := by rw [ju_na (by omega)]; exact M_
  by_cases hx_ : jlt x1 (qF L_)
  rotate_left
  · exact ⟨.inl 1, jn 0, ev_u2 I 241 0 (jn 2), by simp only [d_F_dryIn, f_fN a_ S_ g_ hx_, ob_s], by simp only [d_M_dryIn, m_mFN b_ M_ g_ hx_, ob_s, eq_self, if_true], ⟨2, by decide, ju_at ..⟩, Inw_k h_ _⟩
  have hx2_ := hx_
  obtain ⟨k_, hk_, rfl⟩ := hx_
  obtain ⟨w_, hw_, ew_⟩ := g_.2.2.2.2.2.2.2.2.1
  have iw_ : I (n + 7) 1 = jn w_ := (S_.1 1 (by omega)).trans ew_
  obtain ⟨J1_, e1_, f1_, c1_⟩ := mq_thinks (I := ev_u2 I 241 0 (jn 0))
  have m1_ : qM L_ B (J1_ 242) := by rw [f1_ 242 (by omega)]; exact M0_
  obtain ⟨J2_, e2_, f2_⟩ := mq_dryIn m1_ g_ hk_ hw_ ew_
  obtain ⟨J3_, e3_, w3_⟩ := mq_thought (x := ydry L_ k_ w_) f1_ c1_ f2_
  obtain ⟨i_, t_⟩ := Inv_w h_ w3_
  exact ⟨.inr (ydry L_ k_ w_), ydry L_ k_ w_, J3_, by simp only [d_F_dryIn, f_fY a_ S_ g_ hx2_, ob_s, iw_, sq_dryIn S_ g_ hk_ hw_], by simp only [d_M_dryIn, m_mFY b_ M_ g_ hx2_, ob_s, n10_, if_false, e1_, e2_, e3_], ⟨rfl, t_⟩, i_⟩
theorem op_dryByWind (h : Inv n B I) (x1 x2 : Int32) : ∃ r v J, d_F_dryByWind n x1 x2 I = some r ∧ d_M_dryByWind x1 x2 I = some (v, J) ∧ opR [(0, 1), (1, 2), (2, 3)] r v J ∧ Inw n B I J := by
  have h_ := h
  have n10_ : ¬ jn 1 = jn 0 := by decide
  obtain ⟨hn_, _, _, _, s_⟩ := h
  have iw_ : ∀ x, d_M_isWind x = some (if ¬ x < jn 0 ∧ ¬ jn 9 < x then jn 1 else jn 0) := fun x => by
    unfold d_M_isWind
    rw [rp_rng, ob_s, if_pos (by rw [j01]; trivial)]
  rcases s_ with ⟨a_, b_, _⟩ | ⟨L_, U_, V_, a_, b_, g_, _, _, S_, M_, _⟩
  · exact ⟨.inl 0, jn 0, ev_u2 I 241 0 (jn 1), by simp only [d_F_dryByWind, f_f0 (n := n) a_, ob_s], by simp only [d_M_dryByWind, m_f0 b_, iw_, b_, m_may0, ob_s, eq_self, if_true], ⟨1, by decide, ju_at ..⟩, Inw_k h_ _⟩
  have M0_ : qM L_ B (ev_u2 I 241 0 (jn 0) 242) := by rw [ju_na (by omega)]; exact M_
  by_cases hx_ : jlt x1 (qF L_)
  rotate_left
  · exact ⟨.inl 1, jn 0, ev_u2 I 241 0 (jn 2), by simp only [d_F_dryByWind, f_fN a_ S_ g_ hx_, ob_s], by simp only [d_M_dryByWind, m_fN b_ M_ g_ hx_, iw_, b_, m_may1, ob_s, eq_self, if_true], ⟨2, by decide, ju_at ..⟩, Inw_k h_ _⟩
  by_cases hy_ : ¬ x2 < jn 0 ∧ ¬ jn 9 < x2
  rotate_left
  · exact ⟨.inl 2, jn 0, ev_u2 I 241 0 (jn 3), by simp only [d_F_dryByWind, f_fY a_ S_ g_ hx_, f_rN hy_, ob_s], by simp only [d_M_dryByWind, m_fY b_ M_ g_ hx_, iw_, if_neg hy_, b_, m_may2, ob_s, eq_self, if_true], ⟨3, by decide, ju_at ..⟩, Inw_k h_ _⟩
  have hx2_ := hx_
  have hy2_ := hy_
  obtain ⟨k_, hk_, rfl⟩ := hx_
  obtain ⟨w_, _, hw_, rfl⟩ := jrg (by omega) (by omega) hy_.1 hy_.2
  obtain ⟨J1_, e1_, f1_, c1_⟩ := mq_thinks (I := ev_u2 I 241 0 (jn 0))
  have m1_ : qM L_ B (J1_ 242) := by rw [f1_ 242 (by omega)]; exact M0_
  obtain ⟨m2_, f2_⟩ := mq_wind m1_ (jn w_)
  have g2_ : qG (ls L_ 1 (jn w_)) := qG_w g_ ⟨w_, by omega, rfl⟩
  obtain ⟨J2_, e2_, f3_⟩ := mq_dryIn m2_ g2_ (show k_ < qF (ls L_ 1 (jn w_)) from hk_) (w := w_) (by omega) ls_at
  have y_ : ydry (ls L_ 1 (jn w_)) k_ w_ = ydry L_ k_ w_ := rfl
  rw [y_] at e2_
  obtain ⟨J3_, e3_, w3_⟩ := mq_thought (x := ydry L_ k_ w_) (J2 := J2_) f1_ c1_ (fun c hc => by rw [f3_ c hc, f2_ c hc])
  obtain ⟨i_, t_⟩ := Inv_w h_ w3_
  have z1_ : z_n (jn 1) = 1 := jn_n (by omega)
  exact ⟨.inr (ydry L_ k_ w_), ydry L_ k_ w_, J3_, by simp only [d_F_dryByWind, f_fY a_ S_ g_ hx2_, f_rYi hy2_, ob_s, sq_dryIn S_ g_ hk_ (show w_ < 10 by omega)], by simp only [d_M_dryByWind, m_fY b_ M_ g_ hx2_, iw_, if_pos hy2_, b_, m_mayY, ob_s, n10_, if_false, e1_, if_pos (in173 (show 1 < 173 by omega)), z1_, e2_, e3_], ⟨rfl, t_⟩, i_⟩
theorem op_fallsIn (h : Inv n B I) (x1 : Int32) : ∃ r v J, d_F_fallsIn n x1 I = some r ∧ d_M_fallsIn x1 I = some (v, J) ∧ opR [(0, 1), (2, 2)] r v J ∧ Inw n B I J := by
  have h_ := h
  have n10_ : ¬ jn 1 = jn 0 := by decide
  obtain ⟨hn_, _, _, _, s_⟩ := h
  rcases s_ with ⟨a_, b_, _⟩ | ⟨L_, U_, V_, a_, b_, g_, _, _, S_, M_, _⟩
  · exact ⟨.inl 0, jn 0, ev_u2 I 241 0 (jn 1), by simp only [d_F_fallsIn, f_t0 a_, ob_s], by simp only [d_M_fallsIn, rp_rng, b_, m_two0, ob_s, eq_self, if_true], ⟨1, by decide, ju_at ..⟩, Inw_k h_ _⟩
  have M0_ : qM L_ B (ev_u2 I 241 0 (jn 0) 242) := by rw [ju_na (by omega)]; exact M_
  by_cases hy_ : ¬ x1 < jn 0 ∧ ¬ jn 99 < x1
  rotate_left
  · exact ⟨.inl 2, jn 0, ev_u2 I 241 0 (jn 2), by simp only [d_F_fallsIn, f_t1 a_, f_rN hy_, ob_s], by simp only [d_M_fallsIn, m_rN hy_, b_, m_two1, ob_s, eq_self, if_true], ⟨2, by decide, ju_at ..⟩, Inw_k h_ _⟩
  have hy2_ := hy_
  obtain ⟨k_, _, hk_, rfl⟩ := jrg (by omega) (by omega) hy_.1 hy_.2
  obtain ⟨J1_, e1_, f1_, c1_⟩ := mq_thinks (I := ev_u2 I 241 0 (jn 0))
  have m1_ : qM L_ B (J1_ 242) := by rw [f1_ 242 (by omega)]; exact M0_
  obtain ⟨r2_, e2_, m2_, f2_⟩ := mq_pass m1_ g_ (n := k_) (by omega)
  have e2b_ : z_it (d_M_fallsIn_9 (jn k_)) z_F (jn 0, J1_) = some r2_ := e2_
  have z5_ : z_n (jn 5) = 5 := jn_n (by omega)
  have v2_ : r2_.2 242 5 = qs (Lpss L_ k_) 5 := m2_.1 5 (by omega)
  have v1_ : ev_u2 I 241 0 (jn 0) 242 5 = qs L_ 5 := M0_.1 5 (by omega)
  have v_ := mq_fls g_ (n := k_) (by omega)
  obtain ⟨J3_, e3_, w3_⟩ := mq_thought (x := yfls L_ k_) (J2 := r2_.2) f1_ c1_ f2_
  obtain ⟨i_, t_⟩ := Inv_w h_ w3_
  refine ⟨.inr (yfls L_ k_), yfls L_ k_, J3_, ?_, by simp only [d_M_fallsIn, m_rY hy2_, b_, m_twoY, ob_s, n10_, if_false, e1_, if_pos (in173 (show 5 < 173 by omega)), z5_, e2b_, v2_, v1_, v_, e3_], ⟨rfl, t_⟩, i_⟩
  have w1_ : I (n + 7) 1 = qs L_ 1 := S_.1 1 (by omega)
  unfold yfls
  by_cases q_ : qs L_ 1 < jn 7
  · simp only [d_F_fallsIn, f_t1 a_, f_rYi hy2_, ob_s, w1_, if_pos q_]
  · simp only [d_F_fallsIn, f_t1 a_, f_rYi hy2_, ob_s, w1_, if_neg q_, sq_line S_ g_]
theorem op_firstSafe (h : Inv n B I) (hB : B + 1 < 100000) (x1 x2 : Int32) : ∃ r v J, d_F_firstSafe n x1 x2 I = some r ∧ d_M_firstSafe x1 x2 I = some (v, J) ∧ opR [(0, 1), (1, 2), (2, 3)] r v J ∧ Inw n B I J := by
  have h_ := h
  have n10_ : ¬ jn 1 = jn 0 := by decide
  obtain ⟨hn_, _, _, _, s_⟩ := h
  rcases s_ with ⟨a_, b_, _⟩ | ⟨L_, U_, V_, a_, b_, g_, _, _, S_, M_, _⟩
  · exact ⟨.inl 0, jn 0, ev_u2 I 241 0 (jn 1), by simp only [d_F_firstSafe, f_u0 (n := n) a_, ob_s], by simp only [d_M_firstSafe, m_mH0 b_, ob_s, eq_self, if_true], ⟨1, by decide, ju_at ..⟩, Inw_k h_ _⟩
  have M0_ : qM L_ B (ev_u2 I 241 0 (jn 0) 242) := by rw [ju_na (by omega)]; exact M_
  by_cases hx_ : jlt x1 (qT L_)
  rotate_left
  · exact ⟨.inl 1, jn 0, ev_u2 I 241 0 (jn 2), by simp only [d_F_firstSafe, f_uN a_ S_ g_ hx_, ob_s], by simp only [d_M_firstSafe, m_mHN b_ M_ g_ hx_, ob_s, eq_self, if_true], ⟨2, by decide, ju_at ..⟩, Inw_k h_ _⟩
  by_cases hy_ : hOk x2
  rotate_left
  · exact ⟨.inl 2, jn 0, ev_u2 I 241 0 (jn 3), by simp only [d_F_firstSafe, f_uY a_ S_ g_ hx_, f_hN hy_, ob_s], by simp only [d_M_firstSafe, m_mHh b_ M_ g_ hx_ hy_, ob_s, eq_self, if_true], ⟨3, by decide, ju_at ..⟩, Inw_k h_ _⟩
  have hx2_ := hx_
  obtain ⟨k_, hk_, rfl⟩ := hx_
  obtain ⟨J3_, e3_, w3_⟩ := mq_safe M0_ g_ hB hk_ x2
  obtain ⟨i_, t_⟩ := Inv_w h_ w3_
  exact ⟨.inr (ysafe L_ k_ x2), ysafe L_ k_ x2, J3_, by simp only [d_F_firstSafe, f_uY a_ S_ g_ hx2_, f_hY hy_, ob_s, sq_safe S_ g_ hk_], by simp only [d_M_firstSafe, m_mHY b_ M_ g_ hx2_ hy_, ob_s, n10_, if_false, e3_], ⟨rfl, t_⟩, i_⟩
theorem op_groups (h : Inv n B I) (x1 : Int32) : ∃ r J1 v J, d_F_groups n x1 I = some (r, J1) ∧ d_M_groups x1 J1 = some (v, J) ∧ opR [(0, 1), (2, 2)] r v J ∧ Inx n B I J1 J := by
  have h_ := h
  have n10_ : ¬ jn 1 = jn 0 := by decide
  obtain ⟨hb_, eh_⟩ := m_hB x1
  obtain ⟨hn_, _, _, _, s_⟩ := h
  rcases s_ with ⟨a_, b_, _⟩ | ⟨L_, U_, V_, a_, b_, g_, _, _, S_, M_, _⟩
  · exact ⟨.inl 0, I, jn 0, ev_u2 I 241 0 (jn 1), by simp only [d_F_groups, f_t0 a_, ob_s], by simp only [d_M_groups, eh_, b_, m_two0, ob_s, eq_self, if_true], ⟨1, by decide, ju_at ..⟩, Inx_k h_ _⟩
  by_cases hy_ : hOk x1
  rotate_left
  · exact ⟨.inl 2, I, jn 0, ev_u2 I 241 0 (jn 2), by simp only [d_F_groups, f_t1 a_, f_hN hy_, ob_s], by simp only [d_M_groups, m_hN hy_, b_, m_two1, ob_s, eq_self, if_true], ⟨2, by decide, ju_at ..⟩, Inx_k h_ _⟩
  have q_ := sq_groups S_ g_ x1
  obtain ⟨J1_, eJ_⟩ : ∃ K, K = jset I (n + 25) (ygrp L_ x1 (I (n + 25)) (qF L_)).2 := ⟨_, rfl⟩
  rw [← eJ_] at q_
  have o_ : ∀ b, ¬ b = n + 25 → J1_ b = I b := fun b hb => by rw [eJ_, jset_ne hb]
  have b1_ : J1_ 241 6 = jn 1 := by rw [o_ 241 (by omega)]; exact b_
  have M0_ : qM L_ B (ev_u2 J1_ 241 0 (jn 0) 242) := by rw [ju_na (by omega), o_ 242 (by omega)]; exact M_
  have w_ := mq_groups M0_ g_ x1
  obtain ⟨J2_, eJ2_⟩ : ∃ K, K = jset (ev_u2 J1_ 241 0 (jn 0)) 248 (ygrp L_ x1 (ev_u2 J1_ 241 0 (jn 0) 248) (qF L_)).2 := ⟨_, rfl⟩
  rw [← eJ2_] at w_
  have o2_ : ∀ b, ¬ b = 248 → J2_ b = ev_u2 J1_ 241 0 (jn 0) b := fun b hb => by rw [eJ2_, jset_ne hb]
  have v_ : (ygrp L_ x1 (ev_u2 J1_ 241 0 (jn 0) 248) (qF L_)).1 = (ygrp L_ x1 (I (n + 25)) (qF L_)).1 := (ygrp_cg _ _ (qF L_)).1
  rw [v_] at w_
  refine ⟨.inr (jn (ygrp L_ x1 (I (n + 25)) (qF L_)).1), J1_, jn (ygrp L_ x1 (I (n + 25)) (qF L_)).1, J2_, by simp only [d_F_groups, f_t1 a_, f_hY hy_, ob_s, q_], by simp only [d_M_groups, m_hY hy_, b1_, m_twoY, ob_s, n10_, if_false, w_], ⟨rfl, by rw [o2_ 241 (by omega), ju_at]⟩, Inx_w (Inw_rd h_ (fun b c1 c2 c3 c4 c5 => by rw [o2_ b c4, ju_na c1, o_ b c5]) (fun k hk => by rw [o2_ 241 (by omega), ju_ne (fun q_ => hk q_.2), o_ 241 (by omega)]) (fun k hk => by rw [o2_ 242 (by omega), ju_na (by omega), o_ 242 (by omega)])) (by have s_ := evS; exact o_ ev_S (by omega))⟩
/-- irons until it is smooth: both come to an end -/
theorem mq_irs {f x : Nat} (hx : x < 4) : ∀ (k c : Nat) (L : LL) (I : z_H), k < 10 → c + k < 1000 → qM L B (I 242) → qG L → f < qF L → qf L f 5 = jn k → ∀ m, k < m → ∃ v J, z_it (d_M_ironsUntil_4 (jn f) (jn x)) m (jn c, I) = some (v, J) ∧ ∀ b, ¬ b = 242 → J b = I b := by
  intro k
  induction k using Nat.strongRecOn with
  | ind k ih_ =>
    intro c L I hk hc h g hf h5 m hm
    obtain ⟨m2_, rfl⟩ : ∃ m2, m = m2 + 1 := ⟨m - 1, by omega⟩
    unfold z_it d_M_ironsUntil_4
    dsimp only
    rw [mq_f h g hf (by omega), ob_s, h5]
    by_cases k0_ : k = 0
    · rw [if_neg (by rw [jn_lt (by omega) (by omega)]; omega)]
      exact ⟨_, _, rfl, fun _ _ => rfl⟩
    · rw [if_pos (by rw [jn_lt (by omega) (by omega)]; omega)]
      obtain ⟨J_, e_, w_, f_⟩ := mq_irons h g hf (jn x)
      have g2_ := qG_iron g hf (x := jn x) ⟨x, by omega, rfl⟩
      obtain ⟨d_, hd_, ed_⟩ := (g.2.2.2.2.2.1 f hf).2.2.2.2.1
      obtain ⟨k2_, hk2_, ek2_⟩ := irs_1 ⟨k, hk⟩ ⟨d_, hd_⟩ ⟨x, hx⟩ (decide (jn 0 < qf L f 4)) (by show 0 < k; omega)
      simp only [decide_eq_true_eq] at ek2_
      have c5_ : qf (Liron L f (jn x)) f 5 = jn k2_.val := by
        show qf (lf (lf L f 5 (ycr L f (jn x))) f 4 (ywe L f (jn x))) f 5 = _
        rw [lf_ne (by omega), lf_at]
        unfold ycr
        rw [h5]
        exact ek2_
      have hk3_ : k2_.val < k := hk2_
      rw [e_, ob_s, jn_add]
      dsimp only
      obtain ⟨v_, J2_, e2_, f2_⟩ := ih_ k2_.val hk3_ (c + 1) (Liron L f (jn x)) J_ (by omega) (by omega) w_ g2_ hf c5_ m2_ (by omega)
      exact ⟨v_, J2_, e2_, fun b hb => (f2_ b hb).trans (f_ b hb)⟩
theorem op_ironsFor (h : Inv n B I) (x1 x2 : Int32) : ∃ r v J, d_F_ironsFor n x1 x2 I = some r ∧ d_M_ironsFor x1 x2 I = some (v, J) ∧ (∀ e, r = .inl e → e = 0 ∨ e = 1 ∨ e = 2) ∧ Inw n B I J := by
  have h_ := h
  have n10_ : ¬ jn 1 = jn 0 := by decide
  obtain ⟨hb_, eh_⟩ := m_hB x2
  obtain ⟨hn_, _, _, _, s_⟩ := h
  rcases s_ with ⟨a_, b_, _⟩ | ⟨L_, U_, V_, a_, b_, g_, _, _, S_, M_, _⟩
  · exact ⟨.inl 0, jn 0, ev_u2 I 241 0 (jn 1), by simp only [d_F_ironsFor, f_f0 (n := n) a_, ob_s], by simp only [d_M_ironsFor, m_f0 b_, eh_, b_, m_may0, ob_s, eq_self, if_true], fun e he => Or.inl (Sum.inl.inj he).symm, Inw_k h_ _⟩
  have F_ := g_.1
  have M0_ : qM L_ B (ev_u2 I 241 0 (jn 0) 242) := by rw [ju_na (by omega)]; exact M_
  by_cases hx_ : jlt x1 (qF L_)
  rotate_left
  · exact ⟨.inl 1, jn 0, ev_u2 I 241 0 (jn 2), by simp only [d_F_ironsFor, f_fN a_ S_ g_ hx_, ob_s], by simp only [d_M_ironsFor, m_fN b_ M_ g_ hx_, eh_, b_, m_may1, ob_s, eq_self, if_true], fun e he => Or.inr (Or.inl (Sum.inl.inj he).symm), Inw_k h_ _⟩
  by_cases hy_ : hOk x2
  rotate_left
  · exact ⟨.inl 2, jn 0, ev_u2 I 241 0 (jn 3), by simp only [d_F_ironsFor, f_fY a_ S_ g_ hx_, f_hN hy_, ob_s], by simp only [d_M_ironsFor, m_fY b_ M_ g_ hx_, m_hN hy_, b_, m_may2, ob_s, eq_self, if_true], fun e he => Or.inr (Or.inr (Sum.inl.inj he).symm), Inw_k h_ _⟩
  have hx2_ := hx_
  have hy2_ := hy_
  obtain ⟨k_, hk_, rfl⟩ := hx_
  obtain ⟨x_, _, hx3_, rfl⟩ := jrg (by omega) (by omega) hy_.1 hy_.2
  obtain ⟨c_, hc_, ec_⟩ := (g_.2.2.2.2.2.1 k_ hk_).2.2.2.2.2.1
  obtain ⟨d_, hd_, ed_⟩ := (g_.2.2.2.2.2.1 k_ hk_).2.2.2.2.1
  -- the class comes to an end
  have cl_ : ∃ v, d_F_ironsFor n (jn k_) (jn x_) I = some (.inr v) := by
    simp only [d_F_ironsFor, f_fY a_ S_ g_ hx2_, f_hY hy2_, ob_s, if_pos (sq_in g_ hk_), sq_n g_ hk_, d_G_ironsUntilSmooth, sq_iron S_ hk_]
    by_cases y_ : yiron L_ k_ (jn x_) = jn 0
    · have k2_ := irs_ok ⟨c_, hc_⟩ ⟨d_, hd_⟩ ⟨x_, by omega⟩
      rw [if_pos y_, sq_f S_ hk_ (by omega), sq_f S_ hk_ (by omega), ec_, ed_]
      cases e_ : z_it (d_G_ironsUntilSmooth_4 (jn x_)) z_F (jn 0, jn c_, jn d_) with
      | none =>
        have k3_ : (z_it (d_G_ironsUntilSmooth_4 (jn x_)) z_F (jn 0, jn c_, jn d_)).isSome = true := k2_
        rw [e_] at k3_
        cases k3_
      | some q => exact ⟨_, rfl⟩
    · rw [if_neg y_]
      exact ⟨_, rfl⟩
  obtain ⟨v_, ev_⟩ := cl_
  refine ⟨.inr v_, ?_⟩
  by_cases c0_ : qf L_ k_ 5 = jn 0
  · exact ⟨jn 0, ev_u2 I 241 0 (jn 0), ev_, by simp only [d_M_ironsFor, m_fY b_ M_ g_ hx2_, m_hY hy2_, b_, m_mayY, ob_s, n10_, if_false, mq_f M0_ g_ hk_ (show 5 < 10 by omega), c0_, eq_self, if_true], (fun e he => by cases he), Inw_k h_ _⟩
  · by_cases y_ : yiron L_ k_ (jn x_) = jn 0
    · obtain ⟨J1_, e1_, f1_, c1_⟩ := mq_thinks (I := ev_u2 I 241 0 (jn 0))
      have m1_ : qM L_ B (J1_ 242) := by rw [f1_ 242 (by omega)]; exact M0_
      obtain ⟨v2_, J2_, e2_, f2_⟩ := mq_irs (x := x_) (f := k_) (by omega) c_ 0 L_ J1_ hc_ (by omega) m1_ g_ hk_ ec_ z_F (by unfold z_F; omega)
      obtain ⟨J3_, e3_, w3_⟩ := mq_thought (x := v2_) f1_ c1_ f2_
      obtain ⟨i_, t_⟩ := Inv_w h_ w3_
      exact ⟨v2_, J3_, ev_, by simp only [d_M_ironsFor, m_fY b_ M_ g_ hx2_, m_hY hy2_, b_, m_mayY, ob_s, n10_, if_false, mq_f M0_ g_ hk_ (show 5 < 10 by omega), c0_, mq_iron M0_ g_ hk_, y_, eq_self, if_true, d_M_ironsUntil, e1_, e2_, e3_], (fun e he => by cases he), i_⟩
    · exact ⟨jg 1, ev_u2 I 241 0 (jn 0), ev_, by simp only [d_M_ironsFor, m_fY b_ M_ g_ hx2_, m_hY hy2_, b_, m_mayY, ob_s, n10_, if_false, mq_f M0_ g_ hk_ (show 5 < 10 by omega), c0_, mq_iron M0_ g_ hk_, y_], (fun e he => by cases he), Inw_k h_ _⟩
theorem op_readyShare (h : Inv n B I) : ∃ (r : Nat ⊕ UInt32) (v : UInt32) (J : z_H), d_F_readyShare n I = some r ∧ d_M_readyShare I = some (v, J) ∧ ((r = .inr v ∧ J 241 0 = jn 0 ∧ vf_n64 (FP.f2d v)) ∨ (r = .inl 0 ∧ J 241 0 = jn 1)) ∧ Inw n B I J := by
  have h_ := h
  have n10_ : ¬ jn 1 = jn 0 := by decide
  obtain ⟨hn_, _, _, _, s_⟩ := h
  rcases s_ with ⟨a_, b_, _⟩ | ⟨L_, U_, V_, a_, b_, g_, _, _, S_, M_, _⟩
  · exact ⟨.inl 0, FP.fconst0, ev_u2 I 241 0 (jn 1), by simp only [d_F_readyShare, f_t0 a_, ob_s], by simp only [d_M_readyShare, m_look0 b_, ob_s, eq_self, if_true], Or.inr ⟨rfl, ju_at ..⟩, Inw_k h_ _⟩
  have F_ := g_.1
  have M0_ : qM L_ B (ev_u2 I 241 0 (jn 0) 242) := by rw [ju_na (by omega)]; exact M_
  have f6_ : I (n + 7) 6 = jn (qF L_) := S_.2.1
  by_cases z_ : qF L_ = 0
  · exact ⟨.inr FP.fconst0, FP.fconst0, ev_u2 I 241 0 (jn 0), by simp only [d_F_readyShare, f_t1 a_, ob_s, f6_, z_, eq_self, if_true], by simp only [d_M_readyShare, m_lookY b_, ob_s, n10_, if_false, if_pos (in173 (show 10 < 173 by omega)), mq_F M0_, z_, (show ¬ jn 0 < jn 0 by decide)], Or.inl ⟨rfl, ju_at .., fp_ok0⟩, Inw_k h_ _⟩
  · have nz_ : ¬ jn (qF L_) = jn 0 := by rw [jn_eq (by omega) (by omega)]; exact z_
    have pz_ : jn 0 < jn (qF L_) := by rw [jn_lt (by omega) (by omega)]; omega
    have e1_ : qct (fun f => ywhy (ybs L_ f) = jn 0) (qF L_) = jn (qcn (fun f => ywhy (ybs L_ f) = jn 0) (qF L_)) := qct_n
    have e2_ : qct (fun f => qf L_ f 8 = jn 3) (qF L_) = jn (qcn (fun f => qf L_ f 8 = jn 3) (qF L_)) := qct_n
    have l1_ : qcn (fun f => ywhy (ybs L_ f) = jn 0) (qF L_) ≤ qF L_ := qcn_le
    have l2_ : qcn (fun f => qf L_ f 8 = jn 3) (qF L_) ≤ qF L_ := qcn_le
    have ok_ := fp_ok ⟨qcn (fun f => ywhy (ybs L_ f) = jn 0) (qF L_) + qcn (fun f => qf L_ f 8 = jn 3) (qF L_), by omega⟩ ⟨qF L_, by omega⟩ (by show 0 < qF L_; omega)
    have ok3_ := fp_ok2 ⟨qcn (fun f => ywhy (ybs L_ f) = jn 0) (qF L_) + qcn (fun f => qf L_ f 8 = jn 3) (qF L_), by omega⟩ ⟨qF L_, by omega⟩ (by show 0 < qF L_; omega)
    have ok2_ : (FP.fdiv (FP.i2f (jn (qcn (fun f => ywhy (ybs L_ f) = jn 0) (qF L_) + qcn (fun f => qf L_ f 8 = jn 3) (qF L_)))) (FP.i2f (jn (qF L_)))) &&& 0x7fffffff ≤ 0x7f800000 := ok_
    exact ⟨.inr (FP.fdiv (FP.i2f (jn (qcn (fun f => ywhy (ybs L_ f) = jn 0) (qF L_) + qcn (fun f => qf L_ f 8 = jn 3) (qF L_)))) (FP.i2f (jn (qF L_)))), FP.fdiv (FP.i2f (jn (qcn (fun f => ywhy (ybs L_ f) = jn 0) (qF L_) + qcn (fun f => qf L_ f 8 = jn 3) (qF L_)))) (FP.i2f (jn (qF L_))), ev_u2 I 241 0 (jn 0), by simp only [d_F_readyShare, f_t1 a_, ob_s, f6_, nz_, if_false, sq_readyFlags S_ g_, sq_flagsAt S_ g_, e1_, e2_, jn_add, if_pos ok2_], by simp only [d_M_readyShare, m_lookY b_, ob_s, n10_, if_false, if_pos (in173 (show 10 < 173 by omega)), mq_F M0_, if_pos pz_, mq_readyMany M0_ g_, mq_flagsAt M0_ g_, e1_, e2_, jn_add, if_pos ok2_], Or.inl ⟨rfl, ju_at .., ok3_⟩, Inw_k h_ _⟩
theorem op_meanDirt (h : Inv n B I) : ∃ (r : Nat ⊕ UInt64) (v : UInt64) (J : z_H), d_F_meanDirt n I = some r ∧ d_M_meanDirt I = some (v, J) ∧ ((r = .inr v ∧ J 241 0 = jn 0) ∨ (r = .inl 0 ∧ J 241 0 = jn 1)) ∧ Inw n B I J := by
  have h_ := h
  have n10_ : ¬ jn 1 = jn 0 := by decide
  obtain ⟨hn_, _, _, _, s_⟩ := h
  rcases s_ with ⟨a_, b_, _⟩ | ⟨L_, U_, V_, a_, b_, g_, _, _, S_, M_, _⟩
  · exact ⟨.inl 0, FP.dconst0, ev_u2 I 241 0 (jn 1), by simp only [d_F_meanDirt, f_t0 a_, ob_s], by simp only [d_M_meanDirt, m_look0 b_, ob_s, eq_self, if_true], Or.inr ⟨rfl, ju_at ..⟩, Inw_k h_ _⟩
  have F_ := g_.1
  have M0_ : qM L_ B (ev_u2 I 241 0 (jn 0) 242) := by rw [ju_na (by omega)]; exact M_
  have f6_ : I (n + 7) 6 = jn (qF L_) := S_.2.1
  by_cases z_ : qF L_ = 0
  · exact ⟨.inr FP.dconst0, FP.dconst0, ev_u2 I 241 0 (jn 0), by simp only [d_F_meanDirt, f_t1 a_, ob_s, f6_, z_, eq_self, if_true], by simp only [d_M_meanDirt, m_lookY b_, ob_s, n10_, if_false, if_pos (in173 (show 10 < 173 by omega)), mq_F M0_, z_, (show ¬ jn 0 < jn 0 by decide)], Or.inl ⟨rfl, ju_at ..⟩, Inw_k h_ _⟩
  · have nz_ : ¬ jn (qF L_) = jn 0 := by rw [jn_eq (by omega) (by omega)]; exact z_
    have pz_ : jn 0 < jn (qF L_) := by rw [jn_lt (by omega) (by omega)]; omega
    obtain ⟨k_, hk_, ek_⟩ := sum_dirt g_ (qF L_) (Nat.le_refl _)
    have ok_ := dp_ok ⟨k_, by omega⟩ ⟨qF L_, by omega⟩ (by show 0 < qF L_; omega)
    have ok2_ : (FP.ddiv (FP.i2d (jn k_)) (FP.i2d (jn (qF L_)))) &&& 0x7fffffffffffffff ≤ 0x7ff0000000000000 := ok_
    exact ⟨.inr (FP.ddiv (FP.i2d (jn k_)) (FP.i2d (jn (qF L_)))), FP.ddiv (FP.i2d (jn k_)) (FP.i2d (jn (qF L_))), ev_u2 I 241 0 (jn 0), by simp only [d_F_meanDirt, f_t1 a_, ob_s, f6_, nz_, if_false, sq_dirtOfAll S_ g_, ek_, if_pos ok2_], by simp only [d_M_meanDirt, m_lookY b_, ob_s, n10_, if_false, if_pos (in173 (show 10 < 173 by omega)), mq_F M0_, if_pos pz_, mq_allDirt M0_ g_, ek_, if_pos ok2_], Or.inl ⟨rfl, ju_at ..⟩, Inw_k h_ _⟩
end RD3
