/-! the cases, on: by wip/gen/zs.py -/
section LOOP
variable {G : z_G} {X : Nat → Int32} {n B B2 c k : Nat} {w : ev_W} {J1 J : z_H}
theorem lc_32 (W : Wi G X n B c w) (hG : G.1 ≤ 3072) (h6 : 6 * k + 6 ≤ G.1) (hB : 500 ≤ B ∧ B + 1 < 100000) : Pc G X B c k w 1332 := by
  obtain ⟨r_, v_, J_, e1_, e2_, o_, i_⟩ := op_dryByWind W.2.2.1 (X (z_n (Int32.ofNat (6 * k) + Int32.ofNat 1))) (X (z_n (Int32.ofNat (6 * k) + Int32.ofNat 2)))
  cases r_ with
  | inr x_ =>
    have k0_ := t_F_dryByWind W.1 W.2.2.2.1 e1_
    have k_ : z_K G 163 [.ref 0, .int (X (z_n (Int32.ofNat (6 * k) + Int32.ofNat 1))), .int (X (z_n (Int32.ofNat (6 * k) + Int32.ofNat 2)))] w (.inl (some (.int x_))) (z_w w (w_I w)) := zK_r rfl k0_
    obtain ⟨f1_, f2_, f3_⟩ := fin_v W (Inx_r i_) (by omega) x_.toInt64
    have m_ := t_M_dryByWind f1_ e2_
    have l_ := lh_dryByWind_v W.1 (z_Ok_zw W.1) k_
    exact ⟨_, _, f3_, fun o w1 kk => lo_32 W.1 W.2.1 f1_ f2_ f3_.1 f3_.2.1 (okj hG h6 (show 1 < 6 by omega)) rfl (okj hG h6 (show 2 < 6 by omega)) rfl l_ (zK_r rfl m_) kk⟩
  | inl e_ =>
    obtain ⟨f1_, f2_, f3_⟩ := fin_e W (Inx_r i_) (by omega)
    obtain ⟨c_, hm_, hj_⟩ := o_
    have m_ : (e_ = 0 ∧ c_ = 1) ∨ (e_ = 1 ∧ c_ = 2) ∨ (e_ = 2 ∧ c_ = 3) := by simpa using hm_
    rcases m_ with ⟨rfl, rfl⟩ | ⟨rfl, rfl⟩ | ⟨rfl, rfl⟩
    · have k0_ := t_F_dryByWind W.1 W.2.2.2.1 e1_
      have k_ : z_K G 163 [.ref 0, .int (X (z_n (Int32.ofNat (6 * k) + Int32.ofNat 1))), .int (X (z_n (Int32.ofNat (6 * k) + Int32.ofNat 2)))] w (.inr 0) (w_th (z_w w (w_I w))) := zK_r rfl k0_
      have m_ := t_M_dryByWind f1_ e2_
      have l_ := lh_dryByWind_0 W.1 k_
      exact ⟨_, _, f3_, fun o w1 kk => lo_32 W.1 W.2.1 f1_ f2_ f3_.1 f3_.2.1 (okj hG h6 (show 1 < 6 by omega)) rfl (okj hG h6 (show 2 < 6 by omega)) rfl l_ (zK_r rfl m_) kk⟩
    · have k0_ := t_F_dryByWind W.1 W.2.2.2.1 e1_
      have k_ : z_K G 163 [.ref 0, .int (X (z_n (Int32.ofNat (6 * k) + Int32.ofNat 1))), .int (X (z_n (Int32.ofNat (6 * k) + Int32.ofNat 2)))] w (.inr 1) (w_th (z_w w (w_I w))) := zK_r rfl k0_
      have m_ := t_M_dryByWind f1_ e2_
      have l_ := lh_dryByWind_1 W.1 k_
      exact ⟨_, _, f3_, fun o w1 kk => lo_32 W.1 W.2.1 f1_ f2_ f3_.1 f3_.2.1 (okj hG h6 (show 1 < 6 by omega)) rfl (okj hG h6 (show 2 < 6 by omega)) rfl l_ (zK_r rfl m_) kk⟩
    · have k0_ := t_F_dryByWind W.1 W.2.2.2.1 e1_
      have k_ : z_K G 163 [.ref 0, .int (X (z_n (Int32.ofNat (6 * k) + Int32.ofNat 1))), .int (X (z_n (Int32.ofNat (6 * k) + Int32.ofNat 2)))] w (.inr 2) (w_th (z_w w (w_I w))) := zK_r rfl k0_
      have m_ := t_M_dryByWind f1_ e2_
      have l_ := lh_dryByWind_2 W.1 k_
      exact ⟨_, _, f3_, fun o w1 kk => lo_32 W.1 W.2.1 f1_ f2_ f3_.1 f3_.2.1 (okj hG h6 (show 1 < 6 by omega)) rfl (okj hG h6 (show 2 < 6 by omega)) rfl l_ (zK_r rfl m_) kk⟩
theorem lc_33 (W : Wi G X n B c w) (hG : G.1 ≤ 3072) (h6 : 6 * k + 6 ≤ G.1) (hB : 500 ≤ B ∧ B + 1 < 100000) : Pc G X B c k w 1372 := by
  obtain ⟨r_, v_, J_, e1_, e2_, o_, i_⟩ := op_fallsIn W.2.2.1 (X (z_n (Int32.ofNat (6 * k) + Int32.ofNat 1)))
  cases r_ with
  | inr x_ =>
    have k0_ := t_F_fallsIn W.1 W.2.2.2.1 e1_
    have k_ : z_K G 164 [.ref 0, .int (X (z_n (Int32.ofNat (6 * k) + Int32.ofNat 1)))] w (.inl (some (.int x_))) (z_w w (w_I w)) := zK_r rfl k0_
    obtain ⟨f1_, f2_, f3_⟩ := fin_v W (Inx_r i_) (by omega) x_.toInt64
    have m_ := t_M_fallsIn f1_ e2_
    have l_ := lh_fallsIn_v W.1 (z_Ok_zw W.1) k_
    exact ⟨_, _, f3_, fun o w1 kk => lo_33 W.1 W.2.1 f1_ f2_ f3_.1 f3_.2.1 (okj hG h6 (show 1 < 6 by omega)) rfl l_ (zK_r rfl m_) kk⟩
  | inl e_ =>
    obtain ⟨f1_, f2_, f3_⟩ := fin_e W (Inx_r i_) (by omega)
    obtain ⟨c_, hm_, hj_⟩ := o_
    have m_ : (e_ = 0 ∧ c_ = 1) ∨ (e_ = 2 ∧ c_ = 2) := by simpa using hm_
    rcases m_ with ⟨rfl, rfl⟩ | ⟨rfl, rfl⟩
    · have k0_ := t_F_fallsIn W.1 W.2.2.2.1 e1_
      have k_ : z_K G 164 [.ref 0, .int (X (z_n (Int32.ofNat (6 * k) + Int32.ofNat 1)))] w (.inr 0) (w_th (z_w w (w_I w))) := zK_r rfl k0_
      have m_ := t_M_fallsIn f1_ e2_
      have l_ := lh_fallsIn_0 W.1 k_
      exact ⟨_, _, f3_, fun o w1 kk => lo_33 W.1 W.2.1 f1_ f2_ f3_.1 f3_.2.1 (okj hG h6 (show 1 < 6 by omega)) rfl l_ (zK_r rfl m_) kk⟩
    · have k0_ := t_F_fallsIn W.1 W.2.2.2.1 e1_
      have k_ : z_K G 164 [.ref 0, .int (X (z_n (Int32.ofNat (6 * k) + Int32.ofNat 1)))] w (.inr 2) (w_th (z_w w (w_I w))) := zK_r rfl k0_
      have m_ := t_M_fallsIn f1_ e2_
      have l_ := lh_fallsIn_2 W.1 k_
      exact ⟨_, _, f3_, fun o w1 kk => lo_33 W.1 W.2.1 f1_ f2_ f3_.1 f3_.2.1 (okj hG h6 (show 1 < 6 by omega)) rfl l_ (zK_r rfl m_) kk⟩
theorem lc_34 (W : Wi G X n B c w) (hG : G.1 ≤ 3072) (h6 : 6 * k + 6 ≤ G.1) (hB : 500 ≤ B ∧ B + 1 < 100000) : Pc G X B c k w 1400 := by
  obtain ⟨r_, v_, J_, e1_, e2_, o_, i_⟩ := op_payIf W.2.2.1 (X (z_n (Int32.ofNat (6 * k) + Int32.ofNat 1))) (X (z_n (Int32.ofNat (6 * k) + Int32.ofNat 2)))
  cases r_ with
  | inr x_ =>
    have k0_ := t_F_payIf W.1 W.2.2.2.1 e1_
    have k_ : z_K G 165 [.ref 0, .int (X (z_n (Int32.ofNat (6 * k) + Int32.ofNat 1))), .int (X (z_n (Int32.ofNat (6 * k) + Int32.ofNat 2)))] w (.inl (some (.int x_))) (z_w w (w_I w)) := zK_r rfl k0_
    obtain ⟨f1_, f2_, f3_⟩ := fin_v W (Inx_r i_) (by omega) x_.toInt64
    have m_ := t_M_payIf f1_ e2_
    have l_ := lh_payIf_v W.1 (z_Ok_zw W.1) k_
    exact ⟨_, _, f3_, fun o w1 kk => lo_34 W.1 W.2.1 f1_ f2_ f3_.1 f3_.2.1 (okj hG h6 (show 1 < 6 by omega)) rfl (okj hG h6 (show 2 < 6 by omega)) rfl l_ (zK_r rfl m_) kk⟩
  | inl e_ =>
    obtain ⟨f1_, f2_, f3_⟩ := fin_e W (Inx_r i_) (by omega)
    obtain ⟨c_, hm_, hj_⟩ := o_
    have m_ : (e_ = 0 ∧ c_ = 1) ∨ (e_ = 1 ∧ c_ = 2) ∨ (e_ = 2 ∧ c_ = 3) := by simpa using hm_
    rcases m_ with ⟨rfl, rfl⟩ | ⟨rfl, rfl⟩ | ⟨rfl, rfl⟩
    · have k0_ := t_F_payIf W.1 W.2.2.2.1 e1_
      have k_ : z_K G 165 [.ref 0, .int (X (z_n (Int32.ofNat (6 * k) + Int32.ofNat 1))), .int (X (z_n (Int32.ofNat (6 * k) + Int32.ofNat 2)))] w (.inr 0) (w_th (z_w w (w_I w))) := zK_r rfl k0_
      have m_ := t_M_payIf f1_ e2_
      have l_ := lh_payIf_0 W.1 k_
      exact ⟨_, _, f3_, fun o w1 kk => lo_34 W.1 W.2.1 f1_ f2_ f3_.1 f3_.2.1 (okj hG h6 (show 1 < 6 by omega)) rfl (okj hG h6 (show 2 < 6 by omega)) rfl l_ (zK_r rfl m_) kk⟩
    · have k0_ := t_F_payIf W.1 W.2.2.2.1 e1_
      have k_ : z_K G 165 [.ref 0, .int (X (z_n (Int32.ofNat (6 * k) + Int32.ofNat 1))), .int (X (z_n (Int32.ofNat (6 * k) + Int32.ofNat 2)))] w (.inr 1) (w_th (z_w w (w_I w))) := zK_r rfl k0_
      have m_ := t_M_payIf f1_ e2_
      have l_ := lh_payIf_1 W.1 k_
      exact ⟨_, _, f3_, fun o w1 kk => lo_34 W.1 W.2.1 f1_ f2_ f3_.1 f3_.2.1 (okj hG h6 (show 1 < 6 by omega)) rfl (okj hG h6 (show 2 < 6 by omega)) rfl l_ (zK_r rfl m_) kk⟩
    · have k0_ := t_F_payIf W.1 W.2.2.2.1 e1_
      have k_ : z_K G 165 [.ref 0, .int (X (z_n (Int32.ofNat (6 * k) + Int32.ofNat 1))), .int (X (z_n (Int32.ofNat (6 * k) + Int32.ofNat 2)))] w (.inr 2) (w_th (z_w w (w_I w))) := zK_r rfl k0_
      have m_ := t_M_payIf f1_ e2_
      have l_ := lh_payIf_2 W.1 k_
      exact ⟨_, _, f3_, fun o w1 kk => lo_34 W.1 W.2.1 f1_ f2_ f3_.1 f3_.2.1 (okj hG h6 (show 1 < 6 by omega)) rfl (okj hG h6 (show 2 < 6 by omega)) rfl l_ (zK_r rfl m_) kk⟩
theorem lc_35 (W : Wi G X n B c w) (hG : G.1 ≤ 3072) (h6 : 6 * k + 6 ≤ G.1) (hB : 500 ≤ B ∧ B + 1 < 100000) : Pc G X B c k w 1440 := by
  obtain ⟨r_, v_, J_, e1_, e2_, o_, i_⟩ := op_latest W.2.2.1 (X (z_n (Int32.ofNat (6 * k) + Int32.ofNat 1)))
  cases r_ with
  | inr x_ =>
    have k0_ := t_F_latest W.1 W.2.2.2.1 e1_
    have k_ : z_K G 166 [.ref 0, .int (X (z_n (Int32.ofNat (6 * k) + Int32.ofNat 1)))] w (.inl (some (.int x_))) (z_w w (w_I w)) := zK_r rfl k0_
    obtain ⟨f1_, f2_, f3_⟩ := fin_v W (Inx_r i_) (by omega) x_.toInt64
    have m_ := t_M_latest f1_ e2_
    have l_ := lh_latest_v W.1 (z_Ok_zw W.1) k_
    exact ⟨_, _, f3_, fun o w1 kk => lo_35 W.1 W.2.1 f1_ f2_ f3_.1 f3_.2.1 (okj hG h6 (show 1 < 6 by omega)) rfl l_ (zK_r rfl m_) kk⟩
  | inl e_ =>
    obtain ⟨f1_, f2_, f3_⟩ := fin_e W (Inx_r i_) (by omega)
    obtain ⟨c_, hm_, hj_⟩ := o_
    have m_ : (e_ = 0 ∧ c_ = 1) ∨ (e_ = 1 ∧ c_ = 2) := by simpa using hm_
    rcases m_ with ⟨rfl, rfl⟩ | ⟨rfl, rfl⟩
    · have k0_ := t_F_latest W.1 W.2.2.2.1 e1_
      have k_ : z_K G 166 [.ref 0, .int (X (z_n (Int32.ofNat (6 * k) + Int32.ofNat 1)))] w (.inr 0) (w_th (z_w w (w_I w))) := zK_r rfl k0_
      have m_ := t_M_latest f1_ e2_
      have l_ := lh_latest_0 W.1 k_
      exact ⟨_, _, f3_, fun o w1 kk => lo_35 W.1 W.2.1 f1_ f2_ f3_.1 f3_.2.1 (okj hG h6 (show 1 < 6 by omega)) rfl l_ (zK_r rfl m_) kk⟩
    · have k0_ := t_F_latest W.1 W.2.2.2.1 e1_
      have k_ : z_K G 166 [.ref 0, .int (X (z_n (Int32.ofNat (6 * k) + Int32.ofNat 1)))] w (.inr 1) (w_th (z_w w (w_I w))) := zK_r rfl k0_
      have m_ := t_M_latest f1_ e2_
      have l_ := lh_latest_1 W.1 k_
      exact ⟨_, _, f3_, fun o w1 kk => lo_35 W.1 W.2.1 f1_ f2_ f3_.1 f3_.2.1 (okj hG h6 (show 1 < 6 by omega)) rfl l_ (zK_r rfl m_) kk⟩
theorem lc_36 (W : Wi G X n B c w) (hG : G.1 ≤ 3072) (h6 : 6 * k + 6 ≤ G.1) (hB : 500 ≤ B ∧ B + 1 < 100000) : Pc G X B c k w 1468 := by
  obtain ⟨r_, v_, J_, e1_, e2_, o_, i_⟩ := op_dearest W.2.2.1
  cases r_ with
  | inr x_ =>
    have k0_ := t_F_dearest W.1 W.2.2.2.1 e1_
    have k_ : z_K G 167 [.ref 0] w (.inl (some (.int x_))) (z_w w (w_I w)) := zK_r rfl k0_
    obtain ⟨f1_, f2_, f3_⟩ := fin_v W (Inx_r i_) (by omega) x_.toInt64
    have m_ := t_M_dearest f1_ e2_
    have l_ := lh_dearest_v W.1 (z_Ok_zw W.1) k_
    exact ⟨_, _, f3_, fun o w1 kk => lo_36 W.1 W.2.1 f1_ f2_ f3_.1 f3_.2.1 l_ (zK_r rfl m_) kk⟩
  | inl e_ =>
    obtain ⟨f1_, f2_, f3_⟩ := fin_e W (Inx_r i_) (by omega)
    obtain ⟨c_, hm_, hj_⟩ := o_
    have m_ : (e_ = 0 ∧ c_ = 1) := by simpa using hm_
    obtain ⟨rfl, rfl⟩ := m_
    · have k0_ := t_F_dearest W.1 W.2.2.2.1 e1_
      have k_ : z_K G 167 [.ref 0] w (.inr 0) (w_th (z_w w (w_I w))) := zK_r rfl k0_
      have m_ := t_M_dearest f1_ e2_
      have l_ := lh_dearest_0 W.1 k_
      exact ⟨_, _, f3_, fun o w1 kk => lo_36 W.1 W.2.1 f1_ f2_ f3_.1 f3_.2.1 l_ (zK_r rfl m_) kk⟩
theorem lc_37 (W : Wi G X n B c w) (hG : G.1 ≤ 3072) (h6 : 6 * k + 6 ≤ G.1) (hB : 500 ≤ B ∧ B + 1 < 100000) : Pc G X B c k w 1484 := by
  obtain ⟨r_, v_, J_, e1_, e2_, o_, i_⟩ := op_ironsFor W.2.2.1 (X (z_n (Int32.ofNat (6 * k) + Int32.ofNat 1))) (X (z_n (Int32.ofNat (6 * k) + Int32.ofNat 2)))
  cases r_ with
  | inr x_ =>
    have k0_ := t_F_ironsFor W.1 W.2.2.2.1 e1_
    have k_ : z_K G 168 [.ref 0, .int (X (z_n (Int32.ofNat (6 * k) + Int32.ofNat 1))), .int (X (z_n (Int32.ofNat (6 * k) + Int32.ofNat 2)))] w (.inl (some (.int x_))) (z_w w (w_I w)) := zK_r rfl k0_
    obtain ⟨f1_, f2_, f3_⟩ := fin_v W (Inx_r i_) (by omega) x_.toInt64
    have m_ := t_M_ironsFor f1_ e2_
    have l_ := lh_ironsFor_v W.1 (z_Ok_zw W.1) k_
    exact ⟨_, _, f3_, fun o w1 kk => lo_37 W.1 W.2.1 f1_ f2_ f3_.1 f3_.2.1 (okj hG h6 (show 1 < 6 by omega)) rfl (okj hG h6 (show 2 < 6 by omega)) rfl l_ (zK_r rfl m_) kk⟩
  | inl e_ =>
    obtain ⟨f1_, f2_, f3_⟩ := fin_e W (Inx_r i_) (by omega)
    have m_ := o_ e_ rfl
    rcases m_ with rfl | rfl | rfl
    · have k0_ := t_F_ironsFor W.1 W.2.2.2.1 e1_
      have k_ : z_K G 168 [.ref 0, .int (X (z_n (Int32.ofNat (6 * k) + Int32.ofNat 1))), .int (X (z_n (Int32.ofNat (6 * k) + Int32.ofNat 2)))] w (.inr 0) (w_th (z_w w (w_I w))) := zK_r rfl k0_
      have m_ := t_M_ironsFor f1_ e2_
      have l_ := lh_ironsFor_0 W.1 k_
      exact ⟨_, _, f3_, fun o w1 kk => lo_37 W.1 W.2.1 f1_ f2_ f3_.1 f3_.2.1 (okj hG h6 (show 1 < 6 by omega)) rfl (okj hG h6 (show 2 < 6 by omega)) rfl l_ (zK_r rfl m_) kk⟩
    · have k0_ := t_F_ironsFor W.1 W.2.2.2.1 e1_
      have k_ : z_K G 168 [.ref 0, .int (X (z_n (Int32.ofNat (6 * k) + Int32.ofNat 1))), .int (X (z_n (Int32.ofNat (6 * k) + Int32.ofNat 2)))] w (.inr 1) (w_th (z_w w (w_I w))) := zK_r rfl k0_
      have m_ := t_M_ironsFor f1_ e2_
      have l_ := lh_ironsFor_1 W.1 k_
      exact ⟨_, _, f3_, fun o w1 kk => lo_37 W.1 W.2.1 f1_ f2_ f3_.1 f3_.2.1 (okj hG h6 (show 1 < 6 by omega)) rfl (okj hG h6 (show 2 < 6 by omega)) rfl l_ (zK_r rfl m_) kk⟩
    · have k0_ := t_F_ironsFor W.1 W.2.2.2.1 e1_
      have k_ : z_K G 168 [.ref 0, .int (X (z_n (Int32.ofNat (6 * k) + Int32.ofNat 1))), .int (X (z_n (Int32.ofNat (6 * k) + Int32.ofNat 2)))] w (.inr 2) (w_th (z_w w (w_I w))) := zK_r rfl k0_
      have m_ := t_M_ironsFor f1_ e2_
      have l_ := lh_ironsFor_2 W.1 k_
      exact ⟨_, _, f3_, fun o w1 kk => lo_37 W.1 W.2.1 f1_ f2_ f3_.1 f3_.2.1 (okj hG h6 (show 1 < 6 by omega)) rfl (okj hG h6 (show 2 < 6 by omega)) rfl l_ (zK_r rfl m_) kk⟩
theorem lc_38 (W : Wi G X n B c w) (hG : G.1 ≤ 3072) (h6 : 6 * k + 6 ≤ G.1) (hB : 500 ≤ B ∧ B + 1 < 100000) : Pc G X B c k w 1524 := by
  obtain ⟨r_, v_, J_, e1_, e2_, o_, i_⟩ := op_readyShare W.2.2.1
  rcases o_ with ⟨rfl, t_, nn_⟩ | ⟨rfl, t_⟩
  · have k0_ := t_F_readyShare W.1 W.2.2.2.1 e1_
    have k_ : z_K G 169 [.ref 0] w (.inl (some (.float v_))) (z_w w (w_I w)) := zK_r rfl k0_
    obtain ⟨f1_, f2_, f3_⟩ := fin_d W (Inx_r i_) (by omega) (FP.f2d v_)
    have m_ := t_M_readyShare f1_ e2_
    have l_ := lh_readyShare_v W.1 (z_Ok_zw W.1) nn_ k_
    exact ⟨_, _, f3_, fun o w1 kk => lo_38 W.1 W.2.1 f1_ f2_ f3_.1 f3_.2.1 l_ (zK_r rfl m_) kk⟩
  · have k0_ := t_F_readyShare W.1 W.2.2.2.1 e1_
    have k_ : z_K G 169 [.ref 0] w (.inr 0) (w_th (z_w w (w_I w))) := zK_r rfl k0_
    obtain ⟨f1_, f2_, f3_⟩ := fin_e W (Inx_r i_) (by omega)
    have m_ := t_M_readyShare f1_ e2_
    have l_ := lh_readyShare_0 W.1 k_
    exact ⟨_, _, f3_, fun o w1 kk => lo_38 W.1 W.2.1 f1_ f2_ f3_.1 f3_.2.1 l_ (zK_r rfl m_) kk⟩
theorem lc_39 (W : Wi G X n B c w) (hG : G.1 ≤ 3072) (h6 : 6 * k + 6 ≤ G.1) (hB : 500 ≤ B ∧ B + 1 < 100000) : Pc G X B c k w 1541 := by
  obtain ⟨r_, v_, J_, e1_, e2_, o_, i_⟩ := op_meanDirt W.2.2.1
  rcases o_ with ⟨rfl, t_⟩ | ⟨rfl, t_⟩
  · have k0_ := t_F_meanDirt W.1 W.2.2.2.1 e1_
    have k_ : z_K G 170 [.ref 0] w (.inl (some (.double v_))) (z_w w (w_I w)) := zK_r rfl k0_
    obtain ⟨f1_, f2_, f3_⟩ := fin_d W (Inx_r i_) (by omega) v_
    have m_ := t_M_meanDirt f1_ e2_
    have l_ := lh_meanDirt_v W.1 (z_Ok_zw W.1) k_
    exact ⟨_, _, f3_, fun o w1 kk => lo_39 W.1 W.2.1 f1_ f2_ f3_.1 f3_.2.1 l_ (zK_r rfl m_) kk⟩
  · have k0_ := t_F_meanDirt W.1 W.2.2.2.1 e1_
    have k_ : z_K G 170 [.ref 0] w (.inr 0) (w_th (z_w w (w_I w))) := zK_r rfl k0_
    obtain ⟨f1_, f2_, f3_⟩ := fin_e W (Inx_r i_) (by omega)
    have m_ := t_M_meanDirt f1_ e2_
    have l_ := lh_meanDirt_0 W.1 k_
    exact ⟨_, _, f3_, fun o w1 kk => lo_39 W.1 W.2.1 f1_ f2_ f3_.1 f3_.2.1 l_ (zK_r rfl m_) kk⟩
end LOOP
