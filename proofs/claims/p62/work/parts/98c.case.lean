/-! the cases, on: by wip/gen/zs.py -/
section LOOP
variable {G : z_G} {X : Nat → Int32} {n B B2 c k : Nat} {w : ev_W} {J1 J : z_H}
theorem lc_16 (W : Wi G X n B c w) (hG : G.1 ≤ 3072) (h6 : 6 * k + 6 ≤ G.1) (hB : 500 ≤ B ∧ B + 1 < 100000) : Pc G X B c k w 776 := by
  obtain ⟨r_, v_, J_, e1_, e2_, o_, i_⟩ := op_reasons W.2.2.1 (X (z_n (Int32.ofNat (6 * k) + Int32.ofNat 1)))
  cases r_ with
  | inr x_ =>
    have k0_ := t_F_reasons W.1 W.2.2.2.1 e1_
    have k_ : z_K G 147 [.ref 0, .int (X (z_n (Int32.ofNat (6 * k) + Int32.ofNat 1)))] w (.inl (some (.int x_))) (z_w w (w_I w)) := zK_r rfl k0_
    obtain ⟨f1_, f2_, f3_⟩ := fin_v W (Inx_r i_) (by omega) x_.toInt64
    have m_ := t_M_reasons f1_ e2_
    have l_ := lh_reasons_v W.1 (z_Ok_zw W.1) k_
    exact ⟨_, _, f3_, fun o w1 kk => lo_16 W.1 W.2.1 f1_ f2_ f3_.1 f3_.2.1 (okj hG h6 (show 1 < 6 by omega)) rfl l_ (zK_r rfl m_) kk⟩
  | inl e_ =>
    obtain ⟨f1_, f2_, f3_⟩ := fin_e W (Inx_r i_) (by omega)
    obtain ⟨c_, hm_, hj_⟩ := o_
    have m_ : (e_ = 0 ∧ c_ = 1) ∨ (e_ = 1 ∧ c_ = 2) := by simpa using hm_
    rcases m_ with ⟨rfl, rfl⟩ | ⟨rfl, rfl⟩
    · have k0_ := t_F_reasons W.1 W.2.2.2.1 e1_
      have k_ : z_K G 147 [.ref 0, .int (X (z_n (Int32.ofNat (6 * k) + Int32.ofNat 1)))] w (.inr 0) (w_th (z_w w (w_I w))) := zK_r rfl k0_
      have m_ := t_M_reasons f1_ e2_
      have l_ := lh_reasons_0 W.1 k_
      exact ⟨_, _, f3_, fun o w1 kk => lo_16 W.1 W.2.1 f1_ f2_ f3_.1 f3_.2.1 (okj hG h6 (show 1 < 6 by omega)) rfl l_ (zK_r rfl m_) kk⟩
    · have k0_ := t_F_reasons W.1 W.2.2.2.1 e1_
      have k_ : z_K G 147 [.ref 0, .int (X (z_n (Int32.ofNat (6 * k) + Int32.ofNat 1)))] w (.inr 1) (w_th (z_w w (w_I w))) := zK_r rfl k0_
      have m_ := t_M_reasons f1_ e2_
      have l_ := lh_reasons_1 W.1 k_
      exact ⟨_, _, f3_, fun o w1 kk => lo_16 W.1 W.2.1 f1_ f2_ f3_.1 f3_.2.1 (okj hG h6 (show 1 < 6 by omega)) rfl l_ (zK_r rfl m_) kk⟩
theorem lc_17 (W : Wi G X n B c w) (hG : G.1 ≤ 3072) (h6 : 6 * k + 6 ≤ G.1) (hB : 500 ≤ B ∧ B + 1 < 100000) : Pc G X B c k w 804 := by
  obtain ⟨r_, v_, J_, e1_, e2_, o_, i_⟩ := op_culprit W.2.2.1 (X (z_n (Int32.ofNat (6 * k) + Int32.ofNat 1)))
  cases r_ with
  | inr x_ =>
    have k0_ := t_F_culprit W.1 W.2.2.2.1 e1_
    have k_ : z_K G 148 [.ref 0, .int (X (z_n (Int32.ofNat (6 * k) + Int32.ofNat 1)))] w (.inl (some (.int x_))) (z_w w (w_I w)) := zK_r rfl k0_
    obtain ⟨f1_, f2_, f3_⟩ := fin_v W (Inx_r i_) (by omega) x_.toInt64
    have m_ := t_M_culprit f1_ e2_
    have l_ := lh_culprit_v W.1 (z_Ok_zw W.1) k_
    exact ⟨_, _, f3_, fun o w1 kk => lo_17 W.1 W.2.1 f1_ f2_ f3_.1 f3_.2.1 (okj hG h6 (show 1 < 6 by omega)) rfl l_ (zK_r rfl m_) kk⟩
  | inl e_ =>
    obtain ⟨f1_, f2_, f3_⟩ := fin_e W (Inx_r i_) (by omega)
    obtain ⟨c_, hm_, hj_⟩ := o_
    have m_ : (e_ = 0 ∧ c_ = 1) ∨ (e_ = 1 ∧ c_ = 2) := by simpa using hm_
    rcases m_ with ⟨rfl, rfl⟩ | ⟨rfl, rfl⟩
    · have k0_ := t_F_culprit W.1 W.2.2.2.1 e1_
      have k_ : z_K G 148 [.ref 0, .int (X (z_n (Int32.ofNat (6 * k) + Int32.ofNat 1)))] w (.inr 0) (w_th (z_w w (w_I w))) := zK_r rfl k0_
      have m_ := t_M_culprit f1_ e2_
      have l_ := lh_culprit_0 W.1 k_
      exact ⟨_, _, f3_, fun o w1 kk => lo_17 W.1 W.2.1 f1_ f2_ f3_.1 f3_.2.1 (okj hG h6 (show 1 < 6 by omega)) rfl l_ (zK_r rfl m_) kk⟩
    · have k0_ := t_F_culprit W.1 W.2.2.2.1 e1_
      have k_ : z_K G 148 [.ref 0, .int (X (z_n (Int32.ofNat (6 * k) + Int32.ofNat 1)))] w (.inr 1) (w_th (z_w w (w_I w))) := zK_r rfl k0_
      have m_ := t_M_culprit f1_ e2_
      have l_ := lh_culprit_1 W.1 k_
      exact ⟨_, _, f3_, fun o w1 kk => lo_17 W.1 W.2.1 f1_ f2_ f3_.1 f3_.2.1 (okj hG h6 (show 1 < 6 by omega)) rfl l_ (zK_r rfl m_) kk⟩
theorem lc_18 (W : Wi G X n B c w) (hG : G.1 ≤ 3072) (h6 : 6 * k + 6 ≤ G.1) (hB : 500 ≤ B ∧ B + 1 < 100000) : Pc G X B c k w 832 := by
  obtain ⟨r_, v_, J_, e1_, e2_, o_, i_⟩ := op_whyNotPut W.2.2.1 (X (z_n (Int32.ofNat (6 * k) + Int32.ofNat 1))) (X (z_n (Int32.ofNat (6 * k) + Int32.ofNat 2)))
  cases r_ with
  | inr x_ =>
    have k0_ := t_F_whyNotPut W.1 W.2.2.2.1 e1_
    have k_ : z_K G 149 [.ref 0, .int (X (z_n (Int32.ofNat (6 * k) + Int32.ofNat 1))), .int (X (z_n (Int32.ofNat (6 * k) + Int32.ofNat 2)))] w (.inl (some (.int x_))) (z_w w (w_I w)) := zK_r rfl k0_
    obtain ⟨f1_, f2_, f3_⟩ := fin_v W (Inx_r i_) (by omega) x_.toInt64
    have m_ := t_M_whyNotPut f1_ e2_
    have l_ := lh_whyNotPut_v W.1 (z_Ok_zw W.1) k_
    exact ⟨_, _, f3_, fun o w1 kk => lo_18 W.1 W.2.1 f1_ f2_ f3_.1 f3_.2.1 (okj hG h6 (show 1 < 6 by omega)) rfl (okj hG h6 (show 2 < 6 by omega)) rfl l_ (zK_r rfl m_) kk⟩
  | inl e_ =>
    obtain ⟨f1_, f2_, f3_⟩ := fin_e W (Inx_r i_) (by omega)
    obtain ⟨c_, hm_, hj_⟩ := o_
    have m_ : (e_ = 0 ∧ c_ = 1) ∨ (e_ = 1 ∧ c_ = 2) := by simpa using hm_
    rcases m_ with ⟨rfl, rfl⟩ | ⟨rfl, rfl⟩
    · have k0_ := t_F_whyNotPut W.1 W.2.2.2.1 e1_
      have k_ : z_K G 149 [.ref 0, .int (X (z_n (Int32.ofNat (6 * k) + Int32.ofNat 1))), .int (X (z_n (Int32.ofNat (6 * k) + Int32.ofNat 2)))] w (.inr 0) (w_th (z_w w (w_I w))) := zK_r rfl k0_
      have m_ := t_M_whyNotPut f1_ e2_
      have l_ := lh_whyNotPut_0 W.1 k_
      exact ⟨_, _, f3_, fun o w1 kk => lo_18 W.1 W.2.1 f1_ f2_ f3_.1 f3_.2.1 (okj hG h6 (show 1 < 6 by omega)) rfl (okj hG h6 (show 2 < 6 by omega)) rfl l_ (zK_r rfl m_) kk⟩
    · have k0_ := t_F_whyNotPut W.1 W.2.2.2.1 e1_
      have k_ : z_K G 149 [.ref 0, .int (X (z_n (Int32.ofNat (6 * k) + Int32.ofNat 1))), .int (X (z_n (Int32.ofNat (6 * k) + Int32.ofNat 2)))] w (.inr 1) (w_th (z_w w (w_I w))) := zK_r rfl k0_
      have m_ := t_M_whyNotPut f1_ e2_
      have l_ := lh_whyNotPut_1 W.1 k_
      exact ⟨_, _, f3_, fun o w1 kk => lo_18 W.1 W.2.1 f1_ f2_ f3_.1 f3_.2.1 (okj hG h6 (show 1 < 6 by omega)) rfl (okj hG h6 (show 2 < 6 by omega)) rfl l_ (zK_r rfl m_) kk⟩
theorem lc_19 (W : Wi G X n B c w) (hG : G.1 ≤ 3072) (h6 : 6 * k + 6 ≤ G.1) (hB : 500 ≤ B ∧ B + 1 < 100000) : Pc G X B c k w 872 := by
  obtain ⟨r_, v_, J_, e1_, e2_, o_, i_⟩ := op_whyNotWash W.2.2.1 (X (z_n (Int32.ofNat (6 * k) + Int32.ofNat 1))) (X (z_n (Int32.ofNat (6 * k) + Int32.ofNat 2)))
  cases r_ with
  | inr x_ =>
    have k0_ := t_F_whyNotWash W.1 W.2.2.2.1 e1_
    have k_ : z_K G 150 [.ref 0, .int (X (z_n (Int32.ofNat (6 * k) + Int32.ofNat 1))), .int (X (z_n (Int32.ofNat (6 * k) + Int32.ofNat 2)))] w (.inl (some (.int x_))) (z_w w (w_I w)) := zK_r rfl k0_
    obtain ⟨f1_, f2_, f3_⟩ := fin_v W (Inx_r i_) (by omega) x_.toInt64
    have m_ := t_M_whyNotWash f1_ e2_
    have l_ := lh_whyNotWash_v W.1 (z_Ok_zw W.1) k_
    exact ⟨_, _, f3_, fun o w1 kk => lo_19 W.1 W.2.1 f1_ f2_ f3_.1 f3_.2.1 (okj hG h6 (show 1 < 6 by omega)) rfl (okj hG h6 (show 2 < 6 by omega)) rfl l_ (zK_r rfl m_) kk⟩
  | inl e_ =>
    obtain ⟨f1_, f2_, f3_⟩ := fin_e W (Inx_r i_) (by omega)
    obtain ⟨c_, hm_, hj_⟩ := o_
    have m_ : (e_ = 0 ∧ c_ = 1) ∨ (e_ = 1 ∧ c_ = 2) ∨ (e_ = 2 ∧ c_ = 3) := by simpa using hm_
    rcases m_ with ⟨rfl, rfl⟩ | ⟨rfl, rfl⟩ | ⟨rfl, rfl⟩
    · have k0_ := t_F_whyNotWash W.1 W.2.2.2.1 e1_
      have k_ : z_K G 150 [.ref 0, .int (X (z_n (Int32.ofNat (6 * k) + Int32.ofNat 1))), .int (X (z_n (Int32.ofNat (6 * k) + Int32.ofNat 2)))] w (.inr 0) (w_th (z_w w (w_I w))) := zK_r rfl k0_
      have m_ := t_M_whyNotWash f1_ e2_
      have l_ := lh_whyNotWash_0 W.1 k_
      exact ⟨_, _, f3_, fun o w1 kk => lo_19 W.1 W.2.1 f1_ f2_ f3_.1 f3_.2.1 (okj hG h6 (show 1 < 6 by omega)) rfl (okj hG h6 (show 2 < 6 by omega)) rfl l_ (zK_r rfl m_) kk⟩
    · have k0_ := t_F_whyNotWash W.1 W.2.2.2.1 e1_
      have k_ : z_K G 150 [.ref 0, .int (X (z_n (Int32.ofNat (6 * k) + Int32.ofNat 1))), .int (X (z_n (Int32.ofNat (6 * k) + Int32.ofNat 2)))] w (.inr 1) (w_th (z_w w (w_I w))) := zK_r rfl k0_
      have m_ := t_M_whyNotWash f1_ e2_
      have l_ := lh_whyNotWash_1 W.1 k_
      exact ⟨_, _, f3_, fun o w1 kk => lo_19 W.1 W.2.1 f1_ f2_ f3_.1 f3_.2.1 (okj hG h6 (show 1 < 6 by omega)) rfl (okj hG h6 (show 2 < 6 by omega)) rfl l_ (zK_r rfl m_) kk⟩
    · have k0_ := t_F_whyNotWash W.1 W.2.2.2.1 e1_
      have k_ : z_K G 150 [.ref 0, .int (X (z_n (Int32.ofNat (6 * k) + Int32.ofNat 1))), .int (X (z_n (Int32.ofNat (6 * k) + Int32.ofNat 2)))] w (.inr 2) (w_th (z_w w (w_I w))) := zK_r rfl k0_
      have m_ := t_M_whyNotWash f1_ e2_
      have l_ := lh_whyNotWash_2 W.1 k_
      exact ⟨_, _, f3_, fun o w1 kk => lo_19 W.1 W.2.1 f1_ f2_ f3_.1 f3_.2.1 (okj hG h6 (show 1 < 6 by omega)) rfl (okj hG h6 (show 2 < 6 by omega)) rfl l_ (zK_r rfl m_) kk⟩
theorem lc_20 (W : Wi G X n B c w) (hG : G.1 ≤ 3072) (h6 : 6 * k + 6 ≤ G.1) (hB : 500 ≤ B ∧ B + 1 < 100000) : Pc G X B c k w 912 := by
  obtain ⟨r_, v_, J_, e1_, e2_, o_, i_⟩ := op_whyNotIron W.2.2.1 (X (z_n (Int32.ofNat (6 * k) + Int32.ofNat 1))) (X (z_n (Int32.ofNat (6 * k) + Int32.ofNat 2)))
  cases r_ with
  | inr x_ =>
    have k0_ := t_F_whyNotIron W.1 W.2.2.2.1 e1_
    have k_ : z_K G 151 [.ref 0, .int (X (z_n (Int32.ofNat (6 * k) + Int32.ofNat 1))), .int (X (z_n (Int32.ofNat (6 * k) + Int32.ofNat 2)))] w (.inl (some (.int x_))) (z_w w (w_I w)) := zK_r rfl k0_
    obtain ⟨f1_, f2_, f3_⟩ := fin_v W (Inx_r i_) (by omega) x_.toInt64
    have m_ := t_M_whyNotIron f1_ e2_
    have l_ := lh_whyNotIron_v W.1 (z_Ok_zw W.1) k_
    exact ⟨_, _, f3_, fun o w1 kk => lo_20 W.1 W.2.1 f1_ f2_ f3_.1 f3_.2.1 (okj hG h6 (show 1 < 6 by omega)) rfl (okj hG h6 (show 2 < 6 by omega)) rfl l_ (zK_r rfl m_) kk⟩
  | inl e_ =>
    obtain ⟨f1_, f2_, f3_⟩ := fin_e W (Inx_r i_) (by omega)
    obtain ⟨c_, hm_, hj_⟩ := o_
    have m_ : (e_ = 0 ∧ c_ = 1) ∨ (e_ = 1 ∧ c_ = 2) ∨ (e_ = 2 ∧ c_ = 3) := by simpa using hm_
    rcases m_ with ⟨rfl, rfl⟩ | ⟨rfl, rfl⟩ | ⟨rfl, rfl⟩
    · have k0_ := t_F_whyNotIron W.1 W.2.2.2.1 e1_
      have k_ : z_K G 151 [.ref 0, .int (X (z_n (Int32.ofNat (6 * k) + Int32.ofNat 1))), .int (X (z_n (Int32.ofNat (6 * k) + Int32.ofNat 2)))] w (.inr 0) (w_th (z_w w (w_I w))) := zK_r rfl k0_
      have m_ := t_M_whyNotIron f1_ e2_
      have l_ := lh_whyNotIron_0 W.1 k_
      exact ⟨_, _, f3_, fun o w1 kk => lo_20 W.1 W.2.1 f1_ f2_ f3_.1 f3_.2.1 (okj hG h6 (show 1 < 6 by omega)) rfl (okj hG h6 (show 2 < 6 by omega)) rfl l_ (zK_r rfl m_) kk⟩
    · have k0_ := t_F_whyNotIron W.1 W.2.2.2.1 e1_
      have k_ : z_K G 151 [.ref 0, .int (X (z_n (Int32.ofNat (6 * k) + Int32.ofNat 1))), .int (X (z_n (Int32.ofNat (6 * k) + Int32.ofNat 2)))] w (.inr 1) (w_th (z_w w (w_I w))) := zK_r rfl k0_
      have m_ := t_M_whyNotIron f1_ e2_
      have l_ := lh_whyNotIron_1 W.1 k_
      exact ⟨_, _, f3_, fun o w1 kk => lo_20 W.1 W.2.1 f1_ f2_ f3_.1 f3_.2.1 (okj hG h6 (show 1 < 6 by omega)) rfl (okj hG h6 (show 2 < 6 by omega)) rfl l_ (zK_r rfl m_) kk⟩
    · have k0_ := t_F_whyNotIron W.1 W.2.2.2.1 e1_
      have k_ : z_K G 151 [.ref 0, .int (X (z_n (Int32.ofNat (6 * k) + Int32.ofNat 1))), .int (X (z_n (Int32.ofNat (6 * k) + Int32.ofNat 2)))] w (.inr 2) (w_th (z_w w (w_I w))) := zK_r rfl k0_
      have m_ := t_M_whyNotIron f1_ e2_
      have l_ := lh_whyNotIron_2 W.1 k_
      exact ⟨_, _, f3_, fun o w1 kk => lo_20 W.1 W.2.1 f1_ f2_ f3_.1 f3_.2.1 (okj hG h6 (show 1 < 6 by omega)) rfl (okj hG h6 (show 2 < 6 by omega)) rfl l_ (zK_r rfl m_) kk⟩
theorem lc_21 (W : Wi G X n B c w) (hG : G.1 ≤ 3072) (h6 : 6 * k + 6 ≤ G.1) (hB : 500 ≤ B ∧ B + 1 < 100000) : Pc G X B c k w 952 := by
  obtain ⟨r_, v_, J_, e1_, e2_, o_, i_⟩ := op_whyNotBleach W.2.2.1 (X (z_n (Int32.ofNat (6 * k) + Int32.ofNat 1)))
  cases r_ with
  | inr x_ =>
    have k0_ := t_F_whyNotBleach W.1 W.2.2.2.1 e1_
    have k_ : z_K G 152 [.ref 0, .int (X (z_n (Int32.ofNat (6 * k) + Int32.ofNat 1)))] w (.inl (some (.int x_))) (z_w w (w_I w)) := zK_r rfl k0_
    obtain ⟨f1_, f2_, f3_⟩ := fin_v W (Inx_r i_) (by omega) x_.toInt64
    have m_ := t_M_whyNotBleach f1_ e2_
    have l_ := lh_whyNotBleach_v W.1 (z_Ok_zw W.1) k_
    exact ⟨_, _, f3_, fun o w1 kk => lo_21 W.1 W.2.1 f1_ f2_ f3_.1 f3_.2.1 (okj hG h6 (show 1 < 6 by omega)) rfl l_ (zK_r rfl m_) kk⟩
  | inl e_ =>
    obtain ⟨f1_, f2_, f3_⟩ := fin_e W (Inx_r i_) (by omega)
    obtain ⟨c_, hm_, hj_⟩ := o_
    have m_ : (e_ = 0 ∧ c_ = 1) ∨ (e_ = 1 ∧ c_ = 2) := by simpa using hm_
    rcases m_ with ⟨rfl, rfl⟩ | ⟨rfl, rfl⟩
    · have k0_ := t_F_whyNotBleach W.1 W.2.2.2.1 e1_
      have k_ : z_K G 152 [.ref 0, .int (X (z_n (Int32.ofNat (6 * k) + Int32.ofNat 1)))] w (.inr 0) (w_th (z_w w (w_I w))) := zK_r rfl k0_
      have m_ := t_M_whyNotBleach f1_ e2_
      have l_ := lh_whyNotBleach_0 W.1 k_
      exact ⟨_, _, f3_, fun o w1 kk => lo_21 W.1 W.2.1 f1_ f2_ f3_.1 f3_.2.1 (okj hG h6 (show 1 < 6 by omega)) rfl l_ (zK_r rfl m_) kk⟩
    · have k0_ := t_F_whyNotBleach W.1 W.2.2.2.1 e1_
      have k_ : z_K G 152 [.ref 0, .int (X (z_n (Int32.ofNat (6 * k) + Int32.ofNat 1)))] w (.inr 1) (w_th (z_w w (w_I w))) := zK_r rfl k0_
      have m_ := t_M_whyNotBleach f1_ e2_
      have l_ := lh_whyNotBleach_1 W.1 k_
      exact ⟨_, _, f3_, fun o w1 kk => lo_21 W.1 W.2.1 f1_ f2_ f3_.1 f3_.2.1 (okj hG h6 (show 1 < 6 by omega)) rfl l_ (zK_r rfl m_) kk⟩
theorem lc_22 (W : Wi G X n B c w) (hG : G.1 ≤ 3072) (h6 : 6 * k + 6 ≤ G.1) (hB : 500 ≤ B ∧ B + 1 < 100000) : Pc G X B c k w 980 := by
  obtain ⟨r_, v_, J_, e1_, e2_, o_, i_⟩ := op_running W.2.2.1 (X (z_n (Int32.ofNat (6 * k) + Int32.ofNat 1))) (X (z_n (Int32.ofNat (6 * k) + Int32.ofNat 2)))
  cases r_ with
  | inr x_ =>
    have k0_ := t_F_running W.1 W.2.2.2.1 e1_
    have k_ : z_K G 153 [.ref 0, .int (X (z_n (Int32.ofNat (6 * k) + Int32.ofNat 1))), .int (X (z_n (Int32.ofNat (6 * k) + Int32.ofNat 2)))] w (.inl (some (.int x_))) (z_w w (w_I w)) := zK_r rfl k0_
    obtain ⟨f1_, f2_, f3_⟩ := fin_v W (Inx_r i_) (by omega) x_.toInt64
    have m_ := t_M_running f1_ e2_
    have l_ := lh_running_v W.1 (z_Ok_zw W.1) k_
    exact ⟨_, _, f3_, fun o w1 kk => lo_22 W.1 W.2.1 f1_ f2_ f3_.1 f3_.2.1 (okj hG h6 (show 1 < 6 by omega)) rfl (okj hG h6 (show 2 < 6 by omega)) rfl l_ (zK_r rfl m_) kk⟩
  | inl e_ =>
    obtain ⟨f1_, f2_, f3_⟩ := fin_e W (Inx_r i_) (by omega)
    obtain ⟨c_, hm_, hj_⟩ := o_
    have m_ : (e_ = 0 ∧ c_ = 1) ∨ (e_ = 1 ∧ c_ = 2) ∨ (e_ = 2 ∧ c_ = 3) := by simpa using hm_
    rcases m_ with ⟨rfl, rfl⟩ | ⟨rfl, rfl⟩ | ⟨rfl, rfl⟩
    · have k0_ := t_F_running W.1 W.2.2.2.1 e1_
      have k_ : z_K G 153 [.ref 0, .int (X (z_n (Int32.ofNat (6 * k) + Int32.ofNat 1))), .int (X (z_n (Int32.ofNat (6 * k) + Int32.ofNat 2)))] w (.inr 0) (w_th (z_w w (w_I w))) := zK_r rfl k0_
      have m_ := t_M_running f1_ e2_
      have l_ := lh_running_0 W.1 k_
      exact ⟨_, _, f3_, fun o w1 kk => lo_22 W.1 W.2.1 f1_ f2_ f3_.1 f3_.2.1 (okj hG h6 (show 1 < 6 by omega)) rfl (okj hG h6 (show 2 < 6 by omega)) rfl l_ (zK_r rfl m_) kk⟩
    · have k0_ := t_F_running W.1 W.2.2.2.1 e1_
      have k_ : z_K G 153 [.ref 0, .int (X (z_n (Int32.ofNat (6 * k) + Int32.ofNat 1))), .int (X (z_n (Int32.ofNat (6 * k) + Int32.ofNat 2)))] w (.inr 1) (w_th (z_w w (w_I w))) := zK_r rfl k0_
      have m_ := t_M_running f1_ e2_
      have l_ := lh_running_1 W.1 k_
      exact ⟨_, _, f3_, fun o w1 kk => lo_22 W.1 W.2.1 f1_ f2_ f3_.1 f3_.2.1 (okj hG h6 (show 1 < 6 by omega)) rfl (okj hG h6 (show 2 < 6 by omega)) rfl l_ (zK_r rfl m_) kk⟩
    · have k0_ := t_F_running W.1 W.2.2.2.1 e1_
      have k_ : z_K G 153 [.ref 0, .int (X (z_n (Int32.ofNat (6 * k) + Int32.ofNat 1))), .int (X (z_n (Int32.ofNat (6 * k) + Int32.ofNat 2)))] w (.inr 2) (w_th (z_w w (w_I w))) := zK_r rfl k0_
      have m_ := t_M_running f1_ e2_
      have l_ := lh_running_2 W.1 k_
      exact ⟨_, _, f3_, fun o w1 kk => lo_22 W.1 W.2.1 f1_ f2_ f3_.1 f3_.2.1 (okj hG h6 (show 1 < 6 by omega)) rfl (okj hG h6 (show 2 < 6 by omega)) rfl l_ (zK_r rfl m_) kk⟩
theorem lc_23 (W : Wi G X n B c w) (hG : G.1 ≤ 3072) (h6 : 6 * k + 6 ≤ G.1) (hB : 500 ≤ B ∧ B + 1 < 100000) : Pc G X B c k w 1020 := by
  obtain ⟨r_, v_, J_, e1_, e2_, o_, i_⟩ := op_stainedIf W.2.2.1 (X (z_n (Int32.ofNat (6 * k) + Int32.ofNat 1))) (X (z_n (Int32.ofNat (6 * k) + Int32.ofNat 2)))
  cases r_ with
  | inr x_ =>
    have k0_ := t_F_stainedIf W.1 W.2.2.2.1 e1_
    have k_ : z_K G 154 [.ref 0, .int (X (z_n (Int32.ofNat (6 * k) + Int32.ofNat 1))), .int (X (z_n (Int32.ofNat (6 * k) + Int32.ofNat 2)))] w (.inl (some (.int x_))) (z_w w (w_I w)) := zK_r rfl k0_
    obtain ⟨f1_, f2_, f3_⟩ := fin_v W (Inx_r i_) (by omega) x_.toInt64
    have m_ := t_M_stainedIf f1_ e2_
    have l_ := lh_stainedIf_v W.1 (z_Ok_zw W.1) k_
    exact ⟨_, _, f3_, fun o w1 kk => lo_23 W.1 W.2.1 f1_ f2_ f3_.1 f3_.2.1 (okj hG h6 (show 1 < 6 by omega)) rfl (okj hG h6 (show 2 < 6 by omega)) rfl l_ (zK_r rfl m_) kk⟩
  | inl e_ =>
    obtain ⟨f1_, f2_, f3_⟩ := fin_e W (Inx_r i_) (by omega)
    obtain ⟨c_, hm_, hj_⟩ := o_
    have m_ : (e_ = 0 ∧ c_ = 1) ∨ (e_ = 1 ∧ c_ = 2) ∨ (e_ = 2 ∧ c_ = 3) := by simpa using hm_
    rcases m_ with ⟨rfl, rfl⟩ | ⟨rfl, rfl⟩ | ⟨rfl, rfl⟩
    · have k0_ := t_F_stainedIf W.1 W.2.2.2.1 e1_
      have k_ : z_K G 154 [.ref 0, .int (X (z_n (Int32.ofNat (6 * k) + Int32.ofNat 1))), .int (X (z_n (Int32.ofNat (6 * k) + Int32.ofNat 2)))] w (.inr 0) (w_th (z_w w (w_I w))) := zK_r rfl k0_
      have m_ := t_M_stainedIf f1_ e2_
      have l_ := lh_stainedIf_0 W.1 k_
      exact ⟨_, _, f3_, fun o w1 kk => lo_23 W.1 W.2.1 f1_ f2_ f3_.1 f3_.2.1 (okj hG h6 (show 1 < 6 by omega)) rfl (okj hG h6 (show 2 < 6 by omega)) rfl l_ (zK_r rfl m_) kk⟩
    · have k0_ := t_F_stainedIf W.1 W.2.2.2.1 e1_
      have k_ : z_K G 154 [.ref 0, .int (X (z_n (Int32.ofNat (6 * k) + Int32.ofNat 1))), .int (X (z_n (Int32.ofNat (6 * k) + Int32.ofNat 2)))] w (.inr 1) (w_th (z_w w (w_I w))) := zK_r rfl k0_
      have m_ := t_M_stainedIf f1_ e2_
      have l_ := lh_stainedIf_1 W.1 k_
      exact ⟨_, _, f3_, fun o w1 kk => lo_23 W.1 W.2.1 f1_ f2_ f3_.1 f3_.2.1 (okj hG h6 (show 1 < 6 by omega)) rfl (okj hG h6 (show 2 < 6 by omega)) rfl l_ (zK_r rfl m_) kk⟩
    · have k0_ := t_F_stainedIf W.1 W.2.2.2.1 e1_
      have k_ : z_K G 154 [.ref 0, .int (X (z_n (Int32.ofNat (6 * k) + Int32.ofNat 1))), .int (X (z_n (Int32.ofNat (6 * k) + Int32.ofNat 2)))] w (.inr 2) (w_th (z_w w (w_I w))) := zK_r rfl k0_
      have m_ := t_M_stainedIf f1_ e2_
      have l_ := lh_stainedIf_2 W.1 k_
      exact ⟨_, _, f3_, fun o w1 kk => lo_23 W.1 W.2.1 f1_ f2_ f3_.1 f3_.2.1 (okj hG h6 (show 1 < 6 by omega)) rfl (okj hG h6 (show 2 < 6 by omega)) rfl l_ (zK_r rfl m_) kk⟩
end LOOP
