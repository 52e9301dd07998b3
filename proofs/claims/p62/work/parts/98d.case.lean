/-! the cases, on: by wip/gen/zs.py -/
section LOOP
variable {G : z_G} {X : Nat → Int32} {n B B2 c k : Nat} {w : ev_W} {J1 J : z_H}
theorem lc_24 (W : Wi G X n B c w) (hG : G.1 ≤ 3072) (h6 : 6 * k + 6 ≤ G.1) (hB : 500 ≤ B ∧ B + 1 < 100000) : Pc G X B c k w 1060 := by
  obtain ⟨r_, v_, J_, e1_, e2_, o_, i_⟩ := op_dirtIf W.2.2.1 (X (z_n (Int32.ofNat (6 * k) + Int32.ofNat 1))) (X (z_n (Int32.ofNat (6 * k) + Int32.ofNat 2)))
  cases r_ with
  | inr x_ =>
    have k0_ := t_F_dirtIf W.1 W.2.2.2.1 e1_
    have k_ : z_K G 155 [.ref 0, .int (X (z_n (Int32.ofNat (6 * k) + Int32.ofNat 1))), .int (X (z_n (Int32.ofNat (6 * k) + Int32.ofNat 2)))] w (.inl (some (.int x_))) (z_w w (w_I w)) := zK_r rfl k0_
    obtain ⟨f1_, f2_, f3_⟩ := fin_v W (Inx_r i_) (by omega) x_.toInt64
    have m_ := t_M_dirtIf f1_ e2_
    have l_ := lh_dirtIf_v W.1 (z_Ok_zw W.1) k_
    exact ⟨_, _, f3_, fun o w1 kk => lo_24 W.1 W.2.1 f1_ f2_ f3_.1 f3_.2.1 (okj hG h6 (show 1 < 6 by omega)) rfl (okj hG h6 (show 2 < 6 by omega)) rfl l_ (zK_r rfl m_) kk⟩
  | inl e_ =>
    obtain ⟨f1_, f2_, f3_⟩ := fin_e W (Inx_r i_) (by omega)
    obtain ⟨c_, hm_, hj_⟩ := o_
    have m_ : (e_ = 0 ∧ c_ = 1) ∨ (e_ = 1 ∧ c_ = 2) ∨ (e_ = 2 ∧ c_ = 3) := by simpa using hm_
    rcases m_ with ⟨rfl, rfl⟩ | ⟨rfl, rfl⟩ | ⟨rfl, rfl⟩
    · have k0_ := t_F_dirtIf W.1 W.2.2.2.1 e1_
      have k_ : z_K G 155 [.ref 0, .int (X (z_n (Int32.ofNat (6 * k) + Int32.ofNat 1))), .int (X (z_n (Int32.ofNat (6 * k) + Int32.ofNat 2)))] w (.inr 0) (w_th (z_w w (w_I w))) := zK_r rfl k0_
      have m_ := t_M_dirtIf f1_ e2_
      have l_ := lh_dirtIf_0 W.1 k_
      exact ⟨_, _, f3_, fun o w1 kk => lo_24 W.1 W.2.1 f1_ f2_ f3_.1 f3_.2.1 (okj hG h6 (show 1 < 6 by omega)) rfl (okj hG h6 (show 2 < 6 by omega)) rfl l_ (zK_r rfl m_) kk⟩
    · have k0_ := t_F_dirtIf W.1 W.2.2.2.1 e1_
      have k_ : z_K G 155 [.ref 0, .int (X (z_n (Int32.ofNat (6 * k) + Int32.ofNat 1))), .int (X (z_n (Int32.ofNat (6 * k) + Int32.ofNat 2)))] w (.inr 1) (w_th (z_w w (w_I w))) := zK_r rfl k0_
      have m_ := t_M_dirtIf f1_ e2_
      have l_ := lh_dirtIf_1 W.1 k_
      exact ⟨_, _, f3_, fun o w1 kk => lo_24 W.1 W.2.1 f1_ f2_ f3_.1 f3_.2.1 (okj hG h6 (show 1 < 6 by omega)) rfl (okj hG h6 (show 2 < 6 by omega)) rfl l_ (zK_r rfl m_) kk⟩
    · have k0_ := t_F_dirtIf W.1 W.2.2.2.1 e1_
      have k_ : z_K G 155 [.ref 0, .int (X (z_n (Int32.ofNat (6 * k) + Int32.ofNat 1))), .int (X (z_n (Int32.ofNat (6 * k) + Int32.ofNat 2)))] w (.inr 2) (w_th (z_w w (w_I w))) := zK_r rfl k0_
      have m_ := t_M_dirtIf f1_ e2_
      have l_ := lh_dirtIf_2 W.1 k_
      exact ⟨_, _, f3_, fun o w1 kk => lo_24 W.1 W.2.1 f1_ f2_ f3_.1 f3_.2.1 (okj hG h6 (show 1 < 6 by omega)) rfl (okj hG h6 (show 2 < 6 by omega)) rfl l_ (zK_r rfl m_) kk⟩
theorem lc_25 (W : Wi G X n B c w) (hG : G.1 ≤ 3072) (h6 : 6 * k + 6 ≤ G.1) (hB : 500 ≤ B ∧ B + 1 < 100000) : Pc G X B c k w 1100 := by
  obtain ⟨r_, v_, J_, e1_, e2_, o_, i_⟩ := op_bestHeat W.2.2.1 (X (z_n (Int32.ofNat (6 * k) + Int32.ofNat 1)))
  cases r_ with
  | inr x_ =>
    have k0_ := t_F_bestHeat W.1 W.2.2.2.1 e1_
    have k_ : z_K G 156 [.ref 0, .int (X (z_n (Int32.ofNat (6 * k) + Int32.ofNat 1)))] w (.inl (some (.int x_))) (z_w w (w_I w)) := zK_r rfl k0_
    obtain ⟨f1_, f2_, f3_⟩ := fin_v W (Inx_r i_) (by omega) x_.toInt64
    have m_ := t_M_bestHeat f1_ e2_
    have l_ := lh_bestHeat_v W.1 (z_Ok_zw W.1) k_
    exact ⟨_, _, f3_, fun o w1 kk => lo_25 W.1 W.2.1 f1_ f2_ f3_.1 f3_.2.1 (okj hG h6 (show 1 < 6 by omega)) rfl l_ (zK_r rfl m_) kk⟩
  | inl e_ =>
    obtain ⟨f1_, f2_, f3_⟩ := fin_e W (Inx_r i_) (by omega)
    obtain ⟨c_, hm_, hj_⟩ := o_
    have m_ : (e_ = 0 ∧ c_ = 1) ∨ (e_ = 1 ∧ c_ = 2) := by simpa using hm_
    rcases m_ with ⟨rfl, rfl⟩ | ⟨rfl, rfl⟩
    · have k0_ := t_F_bestHeat W.1 W.2.2.2.1 e1_
      have k_ : z_K G 156 [.ref 0, .int (X (z_n (Int32.ofNat (6 * k) + Int32.ofNat 1)))] w (.inr 0) (w_th (z_w w (w_I w))) := zK_r rfl k0_
      have m_ := t_M_bestHeat f1_ e2_
      have l_ := lh_bestHeat_0 W.1 k_
      exact ⟨_, _, f3_, fun o w1 kk => lo_25 W.1 W.2.1 f1_ f2_ f3_.1 f3_.2.1 (okj hG h6 (show 1 < 6 by omega)) rfl l_ (zK_r rfl m_) kk⟩
    · have k0_ := t_F_bestHeat W.1 W.2.2.2.1 e1_
      have k_ : z_K G 156 [.ref 0, .int (X (z_n (Int32.ofNat (6 * k) + Int32.ofNat 1)))] w (.inr 1) (w_th (z_w w (w_I w))) := zK_r rfl k0_
      have m_ := t_M_bestHeat f1_ e2_
      have l_ := lh_bestHeat_1 W.1 k_
      exact ⟨_, _, f3_, fun o w1 kk => lo_25 W.1 W.2.1 f1_ f2_ f3_.1 f3_.2.1 (okj hG h6 (show 1 < 6 by omega)) rfl l_ (zK_r rfl m_) kk⟩
theorem lc_26 (W : Wi G X n B c w) (hG : G.1 ≤ 3072) (h6 : 6 * k + 6 ≤ G.1) (hB : 500 ≤ B ∧ B + 1 < 100000) : Pc G X B c k w 1128 := by
  obtain ⟨r_, v_, J_, e1_, e2_, o_, i_⟩ := op_firstSafe W.2.2.1 hB.2 (X (z_n (Int32.ofNat (6 * k) + Int32.ofNat 1))) (X (z_n (Int32.ofNat (6 * k) + Int32.ofNat 2)))
  cases r_ with
  | inr x_ =>
    have k0_ := t_F_firstSafe W.1 W.2.2.2.1 e1_
    have k_ : z_K G 157 [.ref 0, .int (X (z_n (Int32.ofNat (6 * k) + Int32.ofNat 1))), .int (X (z_n (Int32.ofNat (6 * k) + Int32.ofNat 2)))] w (.inl (some (.int x_))) (z_w w (w_I w)) := zK_r rfl k0_
    obtain ⟨f1_, f2_, f3_⟩ := fin_v W (Inx_r i_) (by omega) x_.toInt64
    have m_ := t_M_firstSafe f1_ e2_
    have l_ := lh_firstSafe_v W.1 (z_Ok_zw W.1) k_
    exact ⟨_, _, f3_, fun o w1 kk => lo_26 W.1 W.2.1 f1_ f2_ f3_.1 f3_.2.1 (okj hG h6 (show 1 < 6 by omega)) rfl (okj hG h6 (show 2 < 6 by omega)) rfl l_ (zK_r rfl m_) kk⟩
  | inl e_ =>
    obtain ⟨f1_, f2_, f3_⟩ := fin_e W (Inx_r i_) (by omega)
    obtain ⟨c_, hm_, hj_⟩ := o_
    have m_ : (e_ = 0 ∧ c_ = 1) ∨ (e_ = 1 ∧ c_ = 2) ∨ (e_ = 2 ∧ c_ = 3) := by simpa using hm_
    rcases m_ with ⟨rfl, rfl⟩ | ⟨rfl, rfl⟩ | ⟨rfl, rfl⟩
    · have k0_ := t_F_firstSafe W.1 W.2.2.2.1 e1_
      have k_ : z_K G 157 [.ref 0, .int (X (z_n (Int32.ofNat (6 * k) + Int32.ofNat 1))), .int (X (z_n (Int32.ofNat (6 * k) + Int32.ofNat 2)))] w (.inr 0) (w_th (z_w w (w_I w))) := zK_r rfl k0_
      have m_ := t_M_firstSafe f1_ e2_
      have l_ := lh_firstSafe_0 W.1 k_
      exact ⟨_, _, f3_, fun o w1 kk => lo_26 W.1 W.2.1 f1_ f2_ f3_.1 f3_.2.1 (okj hG h6 (show 1 < 6 by omega)) rfl (okj hG h6 (show 2 < 6 by omega)) rfl l_ (zK_r rfl m_) kk⟩
    · have k0_ := t_F_firstSafe W.1 W.2.2.2.1 e1_
      have k_ : z_K G 157 [.ref 0, .int (X (z_n (Int32.ofNat (6 * k) + Int32.ofNat 1))), .int (X (z_n (Int32.ofNat (6 * k) + Int32.ofNat 2)))] w (.inr 1) (w_th (z_w w (w_I w))) := zK_r rfl k0_
      have m_ := t_M_firstSafe f1_ e2_
      have l_ := lh_firstSafe_1 W.1 k_
      exact ⟨_, _, f3_, fun o w1 kk => lo_26 W.1 W.2.1 f1_ f2_ f3_.1 f3_.2.1 (okj hG h6 (show 1 < 6 by omega)) rfl (okj hG h6 (show 2 < 6 by omega)) rfl l_ (zK_r rfl m_) kk⟩
    · have k0_ := t_F_firstSafe W.1 W.2.2.2.1 e1_
      have k_ : z_K G 157 [.ref 0, .int (X (z_n (Int32.ofNat (6 * k) + Int32.ofNat 1))), .int (X (z_n (Int32.ofNat (6 * k) + Int32.ofNat 2)))] w (.inr 2) (w_th (z_w w (w_I w))) := zK_r rfl k0_
      have m_ := t_M_firstSafe f1_ e2_
      have l_ := lh_firstSafe_2 W.1 k_
      exact ⟨_, _, f3_, fun o w1 kk => lo_26 W.1 W.2.1 f1_ f2_ f3_.1 f3_.2.1 (okj hG h6 (show 1 < 6 by omega)) rfl (okj hG h6 (show 2 < 6 by omega)) rfl l_ (zK_r rfl m_) kk⟩
theorem lc_27 (W : Wi G X n B c w) (hG : G.1 ≤ 3072) (h6 : 6 * k + 6 ≤ G.1) (hB : 500 ≤ B ∧ B + 1 < 100000) : Pc G X B c k w 1168 := by
  obtain ⟨r_, v_, J_, e1_, e2_, o_, i_⟩ := op_doNotMix W.2.2.1 (X (z_n (Int32.ofNat (6 * k) + Int32.ofNat 1))) (X (z_n (Int32.ofNat (6 * k) + Int32.ofNat 2))) (X (z_n (Int32.ofNat (6 * k) + Int32.ofNat 3)))
  cases r_ with
  | inr x_ =>
    have k0_ := t_F_doNotMix W.1 W.2.2.2.1 e1_
    have k_ : z_K G 158 [.ref 0, .int (X (z_n (Int32.ofNat (6 * k) + Int32.ofNat 1))), .int (X (z_n (Int32.ofNat (6 * k) + Int32.ofNat 2))), .int (X (z_n (Int32.ofNat (6 * k) + Int32.ofNat 3)))] w (.inl (some (.int x_))) (z_w w (w_I w)) := zK_r rfl k0_
    obtain ⟨f1_, f2_, f3_⟩ := fin_v W (Inx_r i_) (by omega) x_.toInt64
    have m_ := t_M_doNotMix f1_ e2_
    have l_ := lh_doNotMix_v W.1 (z_Ok_zw W.1) k_
    exact ⟨_, _, f3_, fun o w1 kk => lo_27 W.1 W.2.1 f1_ f2_ f3_.1 f3_.2.1 (okj hG h6 (show 1 < 6 by omega)) rfl (okj hG h6 (show 2 < 6 by omega)) rfl (okj hG h6 (show 3 < 6 by omega)) rfl l_ (zK_r rfl m_) kk⟩
  | inl e_ =>
    obtain ⟨f1_, f2_, f3_⟩ := fin_e W (Inx_r i_) (by omega)
    obtain ⟨c_, hm_, hj_⟩ := o_
    have m_ : (e_ = 0 ∧ c_ = 1) ∨ (e_ = 1 ∧ c_ = 2) ∨ (e_ = 2 ∧ c_ = 3) := by simpa using hm_
    rcases m_ with ⟨rfl, rfl⟩ | ⟨rfl, rfl⟩ | ⟨rfl, rfl⟩
    · have k0_ := t_F_doNotMix W.1 W.2.2.2.1 e1_
      have k_ : z_K G 158 [.ref 0, .int (X (z_n (Int32.ofNat (6 * k) + Int32.ofNat 1))), .int (X (z_n (Int32.ofNat (6 * k) + Int32.ofNat 2))), .int (X (z_n (Int32.ofNat (6 * k) + Int32.ofNat 3)))] w (.inr 0) (w_th (z_w w (w_I w))) := zK_r rfl k0_
      have m_ := t_M_doNotMix f1_ e2_
      have l_ := lh_doNotMix_0 W.1 k_
      exact ⟨_, _, f3_, fun o w1 kk => lo_27 W.1 W.2.1 f1_ f2_ f3_.1 f3_.2.1 (okj hG h6 (show 1 < 6 by omega)) rfl (okj hG h6 (show 2 < 6 by omega)) rfl (okj hG h6 (show 3 < 6 by omega)) rfl l_ (zK_r rfl m_) kk⟩
    · have k0_ := t_F_doNotMix W.1 W.2.2.2.1 e1_
      have k_ : z_K G 158 [.ref 0, .int (X (z_n (Int32.ofNat (6 * k) + Int32.ofNat 1))), .int (X (z_n (Int32.ofNat (6 * k) + Int32.ofNat 2))), .int (X (z_n (Int32.ofNat (6 * k) + Int32.ofNat 3)))] w (.inr 1) (w_th (z_w w (w_I w))) := zK_r rfl k0_
      have m_ := t_M_doNotMix f1_ e2_
      have l_ := lh_doNotMix_1 W.1 k_
      exact ⟨_, _, f3_, fun o w1 kk => lo_27 W.1 W.2.1 f1_ f2_ f3_.1 f3_.2.1 (okj hG h6 (show 1 < 6 by omega)) rfl (okj hG h6 (show 2 < 6 by omega)) rfl (okj hG h6 (show 3 < 6 by omega)) rfl l_ (zK_r rfl m_) kk⟩
    · have k0_ := t_F_doNotMix W.1 W.2.2.2.1 e1_
      have k_ : z_K G 158 [.ref 0, .int (X (z_n (Int32.ofNat (6 * k) + Int32.ofNat 1))), .int (X (z_n (Int32.ofNat (6 * k) + Int32.ofNat 2))), .int (X (z_n (Int32.ofNat (6 * k) + Int32.ofNat 3)))] w (.inr 2) (w_th (z_w w (w_I w))) := zK_r rfl k0_
      have m_ := t_M_doNotMix f1_ e2_
      have l_ := lh_doNotMix_2 W.1 k_
      exact ⟨_, _, f3_, fun o w1 kk => lo_27 W.1 W.2.1 f1_ f2_ f3_.1 f3_.2.1 (okj hG h6 (show 1 < 6 by omega)) rfl (okj hG h6 (show 2 < 6 by omega)) rfl (okj hG h6 (show 3 < 6 by omega)) rfl l_ (zK_r rfl m_) kk⟩
theorem lc_28 (W : Wi G X n B c w) (hG : G.1 ≤ 3072) (h6 : 6 * k + 6 ≤ G.1) (hB : 500 ≤ B ∧ B + 1 < 100000) : Pc G X B c k w 1220 := by
  obtain ⟨r_, J1_, v_, J_, e1_, e2_, o_, i_⟩ := op_groups W.2.2.1 (X (z_n (Int32.ofNat (6 * k) + Int32.ofNat 1)))
  cases r_ with
  | inr x_ =>
    have k0_ := t_F_groups W.1 W.2.2.2.1 e1_
    have k_ : z_K G 159 [.ref 0, .int (X (z_n (Int32.ofNat (6 * k) + Int32.ofNat 1)))] w (.inl (some (.int x_))) (z_w w J1_) := zK_r rfl k0_
    obtain ⟨f1_, f2_, f3_⟩ := fin_v W i_ (by omega) x_.toInt64
    have m_ := t_M_groups f1_ e2_
    have l_ := lh_groups_v W.1 (z_Ok_zw W.1) k_
    exact ⟨_, _, f3_, fun o w1 kk => lo_28 W.1 W.2.1 f1_ f2_ f3_.1 f3_.2.1 (okj hG h6 (show 1 < 6 by omega)) rfl l_ (zK_r rfl m_) kk⟩
  | inl e_ =>
    obtain ⟨f1_, f2_, f3_⟩ := fin_e W i_ (by omega)
    obtain ⟨c_, hm_, hj_⟩ := o_
    have m_ : (e_ = 0 ∧ c_ = 1) ∨ (e_ = 2 ∧ c_ = 2) := by simpa using hm_
    rcases m_ with ⟨rfl, rfl⟩ | ⟨rfl, rfl⟩
    · have k0_ := t_F_groups W.1 W.2.2.2.1 e1_
      have k_ : z_K G 159 [.ref 0, .int (X (z_n (Int32.ofNat (6 * k) + Int32.ofNat 1)))] w (.inr 0) (w_th (z_w w J1_)) := zK_r rfl k0_
      have m_ := t_M_groups f1_ e2_
      have l_ := lh_groups_0 W.1 k_
      exact ⟨_, _, f3_, fun o w1 kk => lo_28 W.1 W.2.1 f1_ f2_ f3_.1 f3_.2.1 (okj hG h6 (show 1 < 6 by omega)) rfl l_ (zK_r rfl m_) kk⟩
    · have k0_ := t_F_groups W.1 W.2.2.2.1 e1_
      have k_ : z_K G 159 [.ref 0, .int (X (z_n (Int32.ofNat (6 * k) + Int32.ofNat 1)))] w (.inr 2) (w_th (z_w w J1_)) := zK_r rfl k0_
      have m_ := t_M_groups f1_ e2_
      have l_ := lh_groups_2 W.1 k_
      exact ⟨_, _, f3_, fun o w1 kk => lo_28 W.1 W.2.1 f1_ f2_ f3_.1 f3_.2.1 (okj hG h6 (show 1 < 6 by omega)) rfl l_ (zK_r rfl m_) kk⟩
theorem lc_29 (W : Wi G X n B c w) (hG : G.1 ≤ 3072) (h6 : 6 * k + 6 ≤ G.1) (hB : 500 ≤ B ∧ B + 1 < 100000) : Pc G X B c k w 1248 := by
  obtain ⟨r_, v_, J_, e1_, e2_, o_, i_⟩ := op_purest W.2.2.1 (X (z_n (Int32.ofNat (6 * k) + Int32.ofNat 1)))
  cases r_ with
  | inr x_ =>
    have k0_ := t_F_purest W.1 W.2.2.2.1 e1_
    have k_ : z_K G 160 [.ref 0, .int (X (z_n (Int32.ofNat (6 * k) + Int32.ofNat 1)))] w (.inl (some (.int x_))) (z_w w (w_I w)) := zK_r rfl k0_
    obtain ⟨f1_, f2_, f3_⟩ := fin_v W (Inx_r i_) (by omega) x_.toInt64
    have m_ := t_M_purest f1_ e2_
    have l_ := lh_purest_v W.1 (z_Ok_zw W.1) k_
    exact ⟨_, _, f3_, fun o w1 kk => lo_29 W.1 W.2.1 f1_ f2_ f3_.1 f3_.2.1 (okj hG h6 (show 1 < 6 by omega)) rfl l_ (zK_r rfl m_) kk⟩
  | inl e_ =>
    obtain ⟨f1_, f2_, f3_⟩ := fin_e W (Inx_r i_) (by omega)
    obtain ⟨c_, hm_, hj_⟩ := o_
    have m_ : (e_ = 0 ∧ c_ = 1) ∨ (e_ = 2 ∧ c_ = 2) := by simpa using hm_
    rcases m_ with ⟨rfl, rfl⟩ | ⟨rfl, rfl⟩
    · have k0_ := t_F_purest W.1 W.2.2.2.1 e1_
      have k_ : z_K G 160 [.ref 0, .int (X (z_n (Int32.ofNat (6 * k) + Int32.ofNat 1)))] w (.inr 0) (w_th (z_w w (w_I w))) := zK_r rfl k0_
      have m_ := t_M_purest f1_ e2_
      have l_ := lh_purest_0 W.1 k_
      exact ⟨_, _, f3_, fun o w1 kk => lo_29 W.1 W.2.1 f1_ f2_ f3_.1 f3_.2.1 (okj hG h6 (show 1 < 6 by omega)) rfl l_ (zK_r rfl m_) kk⟩
    · have k0_ := t_F_purest W.1 W.2.2.2.1 e1_
      have k_ : z_K G 160 [.ref 0, .int (X (z_n (Int32.ofNat (6 * k) + Int32.ofNat 1)))] w (.inr 2) (w_th (z_w w (w_I w))) := zK_r rfl k0_
      have m_ := t_M_purest f1_ e2_
      have l_ := lh_purest_2 W.1 k_
      exact ⟨_, _, f3_, fun o w1 kk => lo_29 W.1 W.2.1 f1_ f2_ f3_.1 f3_.2.1 (okj hG h6 (show 1 < 6 by omega)) rfl l_ (zK_r rfl m_) kk⟩
theorem lc_30 (W : Wi G X n B c w) (hG : G.1 ≤ 3072) (h6 : 6 * k + 6 ≤ G.1) (hB : 500 ≤ B ∧ B + 1 < 100000) : Pc G X B c k w 1276 := by
  obtain ⟨r_, v_, J_, e1_, e2_, o_, i_⟩ := op_washesFor W.2.2.1 (X (z_n (Int32.ofNat (6 * k) + Int32.ofNat 1)))
  cases r_ with
  | inr x_ =>
    have k0_ := t_F_washesFor W.1 W.2.2.2.1 e1_
    have k_ : z_K G 161 [.ref 0, .int (X (z_n (Int32.ofNat (6 * k) + Int32.ofNat 1)))] w (.inl (some (.int x_))) (z_w w (w_I w)) := zK_r rfl k0_
    obtain ⟨f1_, f2_, f3_⟩ := fin_v W (Inx_r i_) (by omega) x_.toInt64
    have m_ := t_M_washesFor f1_ e2_
    have l_ := lh_washesFor_v W.1 (z_Ok_zw W.1) k_
    exact ⟨_, _, f3_, fun o w1 kk => lo_30 W.1 W.2.1 f1_ f2_ f3_.1 f3_.2.1 (okj hG h6 (show 1 < 6 by omega)) rfl l_ (zK_r rfl m_) kk⟩
  | inl e_ =>
    obtain ⟨f1_, f2_, f3_⟩ := fin_e W (Inx_r i_) (by omega)
    obtain ⟨c_, hm_, hj_⟩ := o_
    have m_ : (e_ = 0 ∧ c_ = 1) ∨ (e_ = 1 ∧ c_ = 2) := by simpa using hm_
    rcases m_ with ⟨rfl, rfl⟩ | ⟨rfl, rfl⟩
    · have k0_ := t_F_washesFor W.1 W.2.2.2.1 e1_
      have k_ : z_K G 161 [.ref 0, .int (X (z_n (Int32.ofNat (6 * k) + Int32.ofNat 1)))] w (.inr 0) (w_th (z_w w (w_I w))) := zK_r rfl k0_
      have m_ := t_M_washesFor f1_ e2_
      have l_ := lh_washesFor_0 W.1 k_
      exact ⟨_, _, f3_, fun o w1 kk => lo_30 W.1 W.2.1 f1_ f2_ f3_.1 f3_.2.1 (okj hG h6 (show 1 < 6 by omega)) rfl l_ (zK_r rfl m_) kk⟩
    · have k0_ := t_F_washesFor W.1 W.2.2.2.1 e1_
      have k_ : z_K G 161 [.ref 0, .int (X (z_n (Int32.ofNat (6 * k) + Int32.ofNat 1)))] w (.inr 1) (w_th (z_w w (w_I w))) := zK_r rfl k0_
      have m_ := t_M_washesFor f1_ e2_
      have l_ := lh_washesFor_1 W.1 k_
      exact ⟨_, _, f3_, fun o w1 kk => lo_30 W.1 W.2.1 f1_ f2_ f3_.1 f3_.2.1 (okj hG h6 (show 1 < 6 by omega)) rfl l_ (zK_r rfl m_) kk⟩
theorem lc_31 (W : Wi G X n B c w) (hG : G.1 ≤ 3072) (h6 : 6 * k + 6 ≤ G.1) (hB : 500 ≤ B ∧ B + 1 < 100000) : Pc G X B c k w 1304 := by
  obtain ⟨r_, v_, J_, e1_, e2_, o_, i_⟩ := op_dryIn W.2.2.1 (X (z_n (Int32.ofNat (6 * k) + Int32.ofNat 1)))
  cases r_ with
  | inr x_ =>
    have k0_ := t_F_dryIn W.1 W.2.2.2.1 e1_
    have k_ : z_K G 162 [.ref 0, .int (X (z_n (Int32.ofNat (6 * k) + Int32.ofNat 1)))] w (.inl (some (.int x_))) (z_w w (w_I w)) := zK_r rfl k0_
    obtain ⟨f1_, f2_, f3_⟩ := fin_v W (Inx_r i_) (by omega) x_.toInt64
    have m_ := t_M_dryIn f1_ e2_
    have l_ := lh_dryIn_v W.1 (z_Ok_zw W.1) k_
    exact ⟨_, _, f3_, fun o w1 kk => lo_31 W.1 W.2.1 f1_ f2_ f3_.1 f3_.2.1 (okj hG h6 (show 1 < 6 by omega)) rfl l_ (zK_r rfl m_) kk⟩
  | inl e_ =>
    obtain ⟨f1_, f2_, f3_⟩ := fin_e W (Inx_r i_) (by omega)
    obtain ⟨c_, hm_, hj_⟩ := o_
    have m_ : (e_ = 0 ∧ c_ = 1) ∨ (e_ = 1 ∧ c_ = 2) := by simpa using hm_
    rcases m_ with ⟨rfl, rfl⟩ | ⟨rfl, rfl⟩
    · have k0_ := t_F_dryIn W.1 W.2.2.2.1 e1_
      have k_ : z_K G 162 [.ref 0, .int (X (z_n (Int32.ofNat (6 * k) + Int32.ofNat 1)))] w (.inr 0) (w_th (z_w w (w_I w))) := zK_r rfl k0_
      have m_ := t_M_dryIn f1_ e2_
      have l_ := lh_dryIn_0 W.1 k_
      exact ⟨_, _, f3_, fun o w1 kk => lo_31 W.1 W.2.1 f1_ f2_ f3_.1 f3_.2.1 (okj hG h6 (show 1 < 6 by omega)) rfl l_ (zK_r rfl m_) kk⟩
    · have k0_ := t_F_dryIn W.1 W.2.2.2.1 e1_
      have k_ : z_K G 162 [.ref 0, .int (X (z_n (Int32.ofNat (6 * k) + Int32.ofNat 1)))] w (.inr 1) (w_th (z_w w (w_I w))) := zK_r rfl k0_
      have m_ := t_M_dryIn f1_ e2_
      have l_ := lh_dryIn_1 W.1 k_
      exact ⟨_, _, f3_, fun o w1 kk => lo_31 W.1 W.2.1 f1_ f2_ f3_.1 f3_.2.1 (okj hG h6 (show 1 < 6 by omega)) rfl l_ (zK_r rfl m_) kk⟩
end LOOP
