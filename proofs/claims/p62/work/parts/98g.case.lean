/-! the cases, on: by wip/gen/zs.py -/
section LOOP
variable {G : z_G} {X : Nat → Int32} {n B B2 c k : Nat} {w : ev_W} {J1 J : z_H}
theorem lc_48 (W : Wi G X n B c w) (hG : G.1 ≤ 3072) (h6 : 6 * k + 6 ≤ G.1) (hB : 500 ≤ B ∧ B + 1 < 100000) : Pc G X B c k w 1794 := by
  obtain ⟨r_, J1_, v_, J_, e1_, e2_, o_, i_⟩ := op_hangAll W.2.2.1
  cases r_ with
  | inr x_ =>
    have k0_ := t_F_hangAll W.1 W.2.2.2.1 e1_
    have k_ : z_K G 179 [.ref 0] w (.inl (some (.int x_))) (z_w w J1_) := zK_r rfl k0_
    obtain ⟨f1_, f2_, f3_⟩ := fin_v W i_ (by omega) x_.toInt64
    have m_ := t_M_hangAll f1_ e2_
    have l_ := lh_hangAll_v W.1 (z_Ok_zw W.1) k_
    exact ⟨_, _, f3_, fun o w1 kk => lo_48 W.1 W.2.1 f1_ f2_ f3_.1 f3_.2.1 l_ (zK_r rfl m_) kk⟩
  | inl e_ =>
    obtain ⟨f1_, f2_, f3_⟩ := fin_e W i_ (by omega)
    obtain ⟨c_, hm_, hj_⟩ := o_
    have m_ : (e_ = 0 ∧ c_ = 1) := by simpa using hm_
    obtain ⟨rfl, rfl⟩ := m_
    · have k0_ := t_F_hangAll W.1 W.2.2.2.1 e1_
      have k_ : z_K G 179 [.ref 0] w (.inr 0) (w_th (z_w w J1_)) := zK_r rfl k0_
      have m_ := t_M_hangAll f1_ e2_
      have l_ := lh_hangAll_0 W.1 k_
      exact ⟨_, _, f3_, fun o w1 kk => lo_48 W.1 W.2.1 f1_ f2_ f3_.1 f3_.2.1 l_ (zK_r rfl m_) kk⟩
theorem lc_49 (W : Wi G X n B c w) (hG : G.1 ≤ 3072) (h6 : 6 * k + 6 ≤ G.1) (hB : 500 ≤ B ∧ B + 1 < 100000) : Pc G X B c k w 1810 := by
  obtain ⟨r_, J1_, v_, J_, e1_, e2_, o_, i_⟩ := op_takeDown W.2.2.1 (X (z_n (Int32.ofNat (6 * k) + Int32.ofNat 1)))
  cases r_ with
  | inr x_ =>
    have k0_ := t_F_takeDown W.1 W.2.2.2.1 e1_
    have k_ : z_K G 180 [.ref 0, .int (X (z_n (Int32.ofNat (6 * k) + Int32.ofNat 1)))] w (.inl (some (.int x_))) (z_w w J1_) := zK_r rfl k0_
    obtain ⟨f1_, f2_, f3_⟩ := fin_v W i_ (by omega) x_.toInt64
    have m_ := t_M_takeDown f1_ e2_
    have l_ := lh_takeDown_v W.1 (z_Ok_zw W.1) k_
    exact ⟨_, _, f3_, fun o w1 kk => lo_49 W.1 W.2.1 f1_ f2_ f3_.1 f3_.2.1 (okj hG h6 (show 1 < 6 by omega)) rfl l_ (zK_r rfl m_) kk⟩
  | inl e_ =>
    obtain ⟨f1_, f2_, f3_⟩ := fin_e W i_ (by omega)
    obtain ⟨c_, hm_, hj_⟩ := o_
    have m_ : (e_ = 0 ∧ c_ = 1) ∨ (e_ = 1 ∧ c_ = 2) ∨ (e_ = 2 ∧ c_ = 3) := by simpa using hm_
    rcases m_ with ⟨rfl, rfl⟩ | ⟨rfl, rfl⟩ | ⟨rfl, rfl⟩
    · have k0_ := t_F_takeDown W.1 W.2.2.2.1 e1_
      have k_ : z_K G 180 [.ref 0, .int (X (z_n (Int32.ofNat (6 * k) + Int32.ofNat 1)))] w (.inr 0) (w_th (z_w w J1_)) := zK_r rfl k0_
      have m_ := t_M_takeDown f1_ e2_
      have l_ := lh_takeDown_0 W.1 k_
      exact ⟨_, _, f3_, fun o w1 kk => lo_49 W.1 W.2.1 f1_ f2_ f3_.1 f3_.2.1 (okj hG h6 (show 1 < 6 by omega)) rfl l_ (zK_r rfl m_) kk⟩
    · have k0_ := t_F_takeDown W.1 W.2.2.2.1 e1_
      have k_ : z_K G 180 [.ref 0, .int (X (z_n (Int32.ofNat (6 * k) + Int32.ofNat 1)))] w (.inr 1) (w_th (z_w w J1_)) := zK_r rfl k0_
      have m_ := t_M_takeDown f1_ e2_
      have l_ := lh_takeDown_1 W.1 k_
      exact ⟨_, _, f3_, fun o w1 kk => lo_49 W.1 W.2.1 f1_ f2_ f3_.1 f3_.2.1 (okj hG h6 (show 1 < 6 by omega)) rfl l_ (zK_r rfl m_) kk⟩
    · have k0_ := t_F_takeDown W.1 W.2.2.2.1 e1_
      have k_ : z_K G 180 [.ref 0, .int (X (z_n (Int32.ofNat (6 * k) + Int32.ofNat 1)))] w (.inr 2) (w_th (z_w w J1_)) := zK_r rfl k0_
      have m_ := t_M_takeDown f1_ e2_
      have l_ := lh_takeDown_2 W.1 k_
      exact ⟨_, _, f3_, fun o w1 kk => lo_49 W.1 W.2.1 f1_ f2_ f3_.1 f3_.2.1 (okj hG h6 (show 1 < 6 by omega)) rfl l_ (zK_r rfl m_) kk⟩
theorem lc_50 (W : Wi G X n B c w) (hG : G.1 ≤ 3072) (h6 : 6 * k + 6 ≤ G.1) (hB : 500 ≤ B ∧ B + 1 < 100000) : Pc G X B c k w 1838 := by
  obtain ⟨r_, J1_, v_, J_, e1_, e2_, o_, i_⟩ := op_clearTub W.2.2.1 (X (z_n (Int32.ofNat (6 * k) + Int32.ofNat 1)))
  cases r_ with
  | inr x_ =>
    have k0_ := t_F_clearTub W.1 W.2.2.2.1 e1_
    have k_ : z_K G 181 [.ref 0, .int (X (z_n (Int32.ofNat (6 * k) + Int32.ofNat 1)))] w (.inl (some (.int x_))) (z_w w J1_) := zK_r rfl k0_
    obtain ⟨f1_, f2_, f3_⟩ := fin_v W i_ (by omega) x_.toInt64
    have m_ := t_M_clearTub f1_ e2_
    have l_ := lh_clearTub_v W.1 (z_Ok_zw W.1) k_
    exact ⟨_, _, f3_, fun o w1 kk => lo_50 W.1 W.2.1 f1_ f2_ f3_.1 f3_.2.1 (okj hG h6 (show 1 < 6 by omega)) rfl l_ (zK_r rfl m_) kk⟩
  | inl e_ =>
    obtain ⟨f1_, f2_, f3_⟩ := fin_e W i_ (by omega)
    obtain ⟨c_, hm_, hj_⟩ := o_
    have m_ : (e_ = 0 ∧ c_ = 1) ∨ (e_ = 1 ∧ c_ = 2) := by simpa using hm_
    rcases m_ with ⟨rfl, rfl⟩ | ⟨rfl, rfl⟩
    · have k0_ := t_F_clearTub W.1 W.2.2.2.1 e1_
      have k_ : z_K G 181 [.ref 0, .int (X (z_n (Int32.ofNat (6 * k) + Int32.ofNat 1)))] w (.inr 0) (w_th (z_w w J1_)) := zK_r rfl k0_
      have m_ := t_M_clearTub f1_ e2_
      have l_ := lh_clearTub_0 W.1 k_
      exact ⟨_, _, f3_, fun o w1 kk => lo_50 W.1 W.2.1 f1_ f2_ f3_.1 f3_.2.1 (okj hG h6 (show 1 < 6 by omega)) rfl l_ (zK_r rfl m_) kk⟩
    · have k0_ := t_F_clearTub W.1 W.2.2.2.1 e1_
      have k_ : z_K G 181 [.ref 0, .int (X (z_n (Int32.ofNat (6 * k) + Int32.ofNat 1)))] w (.inr 1) (w_th (z_w w J1_)) := zK_r rfl k0_
      have m_ := t_M_clearTub f1_ e2_
      have l_ := lh_clearTub_1 W.1 k_
      exact ⟨_, _, f3_, fun o w1 kk => lo_50 W.1 W.2.1 f1_ f2_ f3_.1 f3_.2.1 (okj hG h6 (show 1 < 6 by omega)) rfl l_ (zK_r rfl m_) kk⟩
theorem lc_51 (W : Wi G X n B c w) (hG : G.1 ≤ 3072) (h6 : 6 * k + 6 ≤ G.1) (hB : 500 ≤ B ∧ B + 1 < 100000) : Pc G X B c k w 1866 := by
  obtain ⟨r_, J1_, v_, J_, e1_, e2_, o_, i_⟩ := op_iron W.2.2.1 (X (z_n (Int32.ofNat (6 * k) + Int32.ofNat 1))) (X (z_n (Int32.ofNat (6 * k) + Int32.ofNat 2)))
  cases r_ with
  | inr x_ =>
    have k0_ := t_F_iron W.1 W.2.2.2.1 e1_
    have k_ : z_K G 182 [.ref 0, .int (X (z_n (Int32.ofNat (6 * k) + Int32.ofNat 1))), .int (X (z_n (Int32.ofNat (6 * k) + Int32.ofNat 2)))] w (.inl (some (.int x_))) (z_w w J1_) := zK_r rfl k0_
    obtain ⟨f1_, f2_, f3_⟩ := fin_v W i_ (by omega) x_.toInt64
    have m_ := t_M_iron f1_ e2_
    have l_ := lh_iron_v W.1 (z_Ok_zw W.1) k_
    exact ⟨_, _, f3_, fun o w1 kk => lo_51 W.1 W.2.1 f1_ f2_ f3_.1 f3_.2.1 (okj hG h6 (show 1 < 6 by omega)) rfl (okj hG h6 (show 2 < 6 by omega)) rfl l_ (zK_r rfl m_) kk⟩
  | inl e_ =>
    obtain ⟨f1_, f2_, f3_⟩ := fin_e W i_ (by omega)
    obtain ⟨c_, hm_, hj_⟩ := o_
    have m_ : (e_ = 0 ∧ c_ = 1) ∨ (e_ = 1 ∧ c_ = 2) ∨ (e_ = 2 ∧ c_ = 3) := by simpa using hm_
    rcases m_ with ⟨rfl, rfl⟩ | ⟨rfl, rfl⟩ | ⟨rfl, rfl⟩
    · have k0_ := t_F_iron W.1 W.2.2.2.1 e1_
      have k_ : z_K G 182 [.ref 0, .int (X (z_n (Int32.ofNat (6 * k) + Int32.ofNat 1))), .int (X (z_n (Int32.ofNat (6 * k) + Int32.ofNat 2)))] w (.inr 0) (w_th (z_w w J1_)) := zK_r rfl k0_
      have m_ := t_M_iron f1_ e2_
      have l_ := lh_iron_0 W.1 k_
      exact ⟨_, _, f3_, fun o w1 kk => lo_51 W.1 W.2.1 f1_ f2_ f3_.1 f3_.2.1 (okj hG h6 (show 1 < 6 by omega)) rfl (okj hG h6 (show 2 < 6 by omega)) rfl l_ (zK_r rfl m_) kk⟩
    · have k0_ := t_F_iron W.1 W.2.2.2.1 e1_
      have k_ : z_K G 182 [.ref 0, .int (X (z_n (Int32.ofNat (6 * k) + Int32.ofNat 1))), .int (X (z_n (Int32.ofNat (6 * k) + Int32.ofNat 2)))] w (.inr 1) (w_th (z_w w J1_)) := zK_r rfl k0_
      have m_ := t_M_iron f1_ e2_
      have l_ := lh_iron_1 W.1 k_
      exact ⟨_, _, f3_, fun o w1 kk => lo_51 W.1 W.2.1 f1_ f2_ f3_.1 f3_.2.1 (okj hG h6 (show 1 < 6 by omega)) rfl (okj hG h6 (show 2 < 6 by omega)) rfl l_ (zK_r rfl m_) kk⟩
    · have k0_ := t_F_iron W.1 W.2.2.2.1 e1_
      have k_ : z_K G 182 [.ref 0, .int (X (z_n (Int32.ofNat (6 * k) + Int32.ofNat 1))), .int (X (z_n (Int32.ofNat (6 * k) + Int32.ofNat 2)))] w (.inr 2) (w_th (z_w w J1_)) := zK_r rfl k0_
      have m_ := t_M_iron f1_ e2_
      have l_ := lh_iron_2 W.1 k_
      exact ⟨_, _, f3_, fun o w1 kk => lo_51 W.1 W.2.1 f1_ f2_ f3_.1 f3_.2.1 (okj hG h6 (show 1 < 6 by omega)) rfl (okj hG h6 (show 2 < 6 by omega)) rfl l_ (zK_r rfl m_) kk⟩
theorem lc_52 (W : Wi G X n B c w) (hG : G.1 ≤ 3072) (h6 : 6 * k + 6 ≤ G.1) (hB : 500 ≤ B ∧ B + 1 < 100000) : Pc G X B c k w 1906 := by
  obtain ⟨r_, J1_, v_, J_, e1_, e2_, o_, i_⟩ := op_bleach W.2.2.1 (X (z_n (Int32.ofNat (6 * k) + Int32.ofNat 1)))
  cases r_ with
  | inr x_ =>
    have k0_ := t_F_bleach W.1 W.2.2.2.1 e1_
    have k_ : z_K G 183 [.ref 0, .int (X (z_n (Int32.ofNat (6 * k) + Int32.ofNat 1)))] w (.inl (some (.int x_))) (z_w w J1_) := zK_r rfl k0_
    obtain ⟨f1_, f2_, f3_⟩ := fin_v W i_ (by omega) x_.toInt64
    have m_ := t_M_bleach f1_ e2_
    have l_ := lh_bleach_v W.1 (z_Ok_zw W.1) k_
    exact ⟨_, _, f3_, fun o w1 kk => lo_52 W.1 W.2.1 f1_ f2_ f3_.1 f3_.2.1 (okj hG h6 (show 1 < 6 by omega)) rfl l_ (zK_r rfl m_) kk⟩
  | inl e_ =>
    obtain ⟨f1_, f2_, f3_⟩ := fin_e W i_ (by omega)
    obtain ⟨c_, hm_, hj_⟩ := o_
    have m_ : (e_ = 0 ∧ c_ = 1) ∨ (e_ = 1 ∧ c_ = 2) ∨ (e_ = 2 ∧ c_ = 3) := by simpa using hm_
    rcases m_ with ⟨rfl, rfl⟩ | ⟨rfl, rfl⟩ | ⟨rfl, rfl⟩
    · have k0_ := t_F_bleach W.1 W.2.2.2.1 e1_
      have k_ : z_K G 183 [.ref 0, .int (X (z_n (Int32.ofNat (6 * k) + Int32.ofNat 1)))] w (.inr 0) (w_th (z_w w J1_)) := zK_r rfl k0_
      have m_ := t_M_bleach f1_ e2_
      have l_ := lh_bleach_0 W.1 k_
      exact ⟨_, _, f3_, fun o w1 kk => lo_52 W.1 W.2.1 f1_ f2_ f3_.1 f3_.2.1 (okj hG h6 (show 1 < 6 by omega)) rfl l_ (zK_r rfl m_) kk⟩
    · have k0_ := t_F_bleach W.1 W.2.2.2.1 e1_
      have k_ : z_K G 183 [.ref 0, .int (X (z_n (Int32.ofNat (6 * k) + Int32.ofNat 1)))] w (.inr 1) (w_th (z_w w J1_)) := zK_r rfl k0_
      have m_ := t_M_bleach f1_ e2_
      have l_ := lh_bleach_1 W.1 k_
      exact ⟨_, _, f3_, fun o w1 kk => lo_52 W.1 W.2.1 f1_ f2_ f3_.1 f3_.2.1 (okj hG h6 (show 1 < 6 by omega)) rfl l_ (zK_r rfl m_) kk⟩
    · have k0_ := t_F_bleach W.1 W.2.2.2.1 e1_
      have k_ : z_K G 183 [.ref 0, .int (X (z_n (Int32.ofNat (6 * k) + Int32.ofNat 1)))] w (.inr 2) (w_th (z_w w J1_)) := zK_r rfl k0_
      have m_ := t_M_bleach f1_ e2_
      have l_ := lh_bleach_2 W.1 k_
      exact ⟨_, _, f3_, fun o w1 kk => lo_52 W.1 W.2.1 f1_ f2_ f3_.1 f3_.2.1 (okj hG h6 (show 1 < 6 by omega)) rfl l_ (zK_r rfl m_) kk⟩
theorem lc_53 (W : Wi G X n B c w) (hG : G.1 ≤ 3072) (h6 : 6 * k + 6 ≤ G.1) (hB : 500 ≤ B ∧ B + 1 < 100000) : Pc G X B c k w 1934 := by
  obtain ⟨r_, J1_, v_, J_, e1_, e2_, o_, i_⟩ := op_handOver W.2.2.1 (X (z_n (Int32.ofNat (6 * k) + Int32.ofNat 1)))
  cases r_ with
  | inr x_ =>
    have k0_ := t_F_handOver W.1 W.2.2.2.1 e1_
    have k_ : z_K G 184 [.ref 0, .int (X (z_n (Int32.ofNat (6 * k) + Int32.ofNat 1)))] w (.inl (some (.int x_))) (z_w w J1_) := zK_r rfl k0_
    obtain ⟨f1_, f2_, f3_⟩ := fin_v W i_ (by omega) x_.toInt64
    have m_ := t_M_handOver f1_ e2_
    have l_ := lh_handOver_v W.1 (z_Ok_zw W.1) k_
    exact ⟨_, _, f3_, fun o w1 kk => lo_53 W.1 W.2.1 f1_ f2_ f3_.1 f3_.2.1 (okj hG h6 (show 1 < 6 by omega)) rfl l_ (zK_r rfl m_) kk⟩
  | inl e_ =>
    obtain ⟨f1_, f2_, f3_⟩ := fin_e W i_ (by omega)
    obtain ⟨c_, hm_, hj_⟩ := o_
    have m_ : (e_ = 0 ∧ c_ = 1) ∨ (e_ = 1 ∧ c_ = 2) ∨ (e_ = 2 ∧ c_ = 3) := by simpa using hm_
    rcases m_ with ⟨rfl, rfl⟩ | ⟨rfl, rfl⟩ | ⟨rfl, rfl⟩
    · have k0_ := t_F_handOver W.1 W.2.2.2.1 e1_
      have k_ : z_K G 184 [.ref 0, .int (X (z_n (Int32.ofNat (6 * k) + Int32.ofNat 1)))] w (.inr 0) (w_th (z_w w J1_)) := zK_r rfl k0_
      have m_ := t_M_handOver f1_ e2_
      have l_ := lh_handOver_0 W.1 k_
      exact ⟨_, _, f3_, fun o w1 kk => lo_53 W.1 W.2.1 f1_ f2_ f3_.1 f3_.2.1 (okj hG h6 (show 1 < 6 by omega)) rfl l_ (zK_r rfl m_) kk⟩
    · have k0_ := t_F_handOver W.1 W.2.2.2.1 e1_
      have k_ : z_K G 184 [.ref 0, .int (X (z_n (Int32.ofNat (6 * k) + Int32.ofNat 1)))] w (.inr 1) (w_th (z_w w J1_)) := zK_r rfl k0_
      have m_ := t_M_handOver f1_ e2_
      have l_ := lh_handOver_1 W.1 k_
      exact ⟨_, _, f3_, fun o w1 kk => lo_53 W.1 W.2.1 f1_ f2_ f3_.1 f3_.2.1 (okj hG h6 (show 1 < 6 by omega)) rfl l_ (zK_r rfl m_) kk⟩
    · have k0_ := t_F_handOver W.1 W.2.2.2.1 e1_
      have k_ : z_K G 184 [.ref 0, .int (X (z_n (Int32.ofNat (6 * k) + Int32.ofNat 1)))] w (.inr 2) (w_th (z_w w J1_)) := zK_r rfl k0_
      have m_ := t_M_handOver f1_ e2_
      have l_ := lh_handOver_2 W.1 k_
      exact ⟨_, _, f3_, fun o w1 kk => lo_53 W.1 W.2.1 f1_ f2_ f3_.1 f3_.2.1 (okj hG h6 (show 1 < 6 by omega)) rfl l_ (zK_r rfl m_) kk⟩
theorem lc_54 (W : Wi G X n B c w) (hG : G.1 ≤ 3072) (h6 : 6 * k + 6 ≤ G.1) (hB : 500 ≤ B ∧ B + 1 < 100000) : Pc G X B c k w 1962 := by
  obtain ⟨r_, J1_, v_, J_, e1_, e2_, o_, i_⟩ := op_pass W.2.2.1 (X (z_n (Int32.ofNat (6 * k) + Int32.ofNat 1)))
  cases r_ with
  | inr x_ =>
    have k0_ := t_F_pass W.1 W.2.2.2.1 e1_
    have k_ : z_K G 185 [.ref 0, .int (X (z_n (Int32.ofNat (6 * k) + Int32.ofNat 1)))] w (.inl (some (.int x_))) (z_w w J1_) := zK_r rfl k0_
    obtain ⟨f1_, f2_, f3_⟩ := fin_v W i_ (by omega) x_.toInt64
    have m_ := t_M_pass f1_ e2_
    have l_ := lh_pass_v W.1 (z_Ok_zw W.1) k_
    exact ⟨_, _, f3_, fun o w1 kk => lo_54 W.1 W.2.1 f1_ f2_ f3_.1 f3_.2.1 (okj hG h6 (show 1 < 6 by omega)) rfl l_ (zK_r rfl m_) kk⟩
  | inl e_ =>
    obtain ⟨f1_, f2_, f3_⟩ := fin_e W i_ (by omega)
    obtain ⟨c_, hm_, hj_⟩ := o_
    have m_ : (e_ = 0 ∧ c_ = 1) ∨ (e_ = 2 ∧ c_ = 2) := by simpa using hm_
    rcases m_ with ⟨rfl, rfl⟩ | ⟨rfl, rfl⟩
    · have k0_ := t_F_pass W.1 W.2.2.2.1 e1_
      have k_ : z_K G 185 [.ref 0, .int (X (z_n (Int32.ofNat (6 * k) + Int32.ofNat 1)))] w (.inr 0) (w_th (z_w w J1_)) := zK_r rfl k0_
      have m_ := t_M_pass f1_ e2_
      have l_ := lh_pass_0 W.1 k_
      exact ⟨_, _, f3_, fun o w1 kk => lo_54 W.1 W.2.1 f1_ f2_ f3_.1 f3_.2.1 (okj hG h6 (show 1 < 6 by omega)) rfl l_ (zK_r rfl m_) kk⟩
    · have k0_ := t_F_pass W.1 W.2.2.2.1 e1_
      have k_ : z_K G 185 [.ref 0, .int (X (z_n (Int32.ofNat (6 * k) + Int32.ofNat 1)))] w (.inr 2) (w_th (z_w w J1_)) := zK_r rfl k0_
      have m_ := t_M_pass f1_ e2_
      have l_ := lh_pass_2 W.1 k_
      exact ⟨_, _, f3_, fun o w1 kk => lo_54 W.1 W.2.1 f1_ f2_ f3_.1 f3_.2.1 (okj hG h6 (show 1 < 6 by omega)) rfl l_ (zK_r rfl m_) kk⟩
theorem lc_55 (W : Wi G X n B c w) (hG : G.1 ≤ 3072) (h6 : 6 * k + 6 ≤ G.1) (hB : 500 ≤ B ∧ B + 1 < 100000) : Pc G X B c k w 1990 := by
  obtain ⟨r_, J1_, v_, J_, e1_, e2_, o_, i_⟩ := op_setWind W.2.2.1 (X (z_n (Int32.ofNat (6 * k) + Int32.ofNat 1)))
  cases r_ with
  | inr x_ =>
    have k0_ := t_F_setWind W.1 W.2.2.2.1 e1_
    have k_ : z_K G 186 [.ref 0, .int (X (z_n (Int32.ofNat (6 * k) + Int32.ofNat 1)))] w (.inl (some (.int x_))) (z_w w J1_) := zK_r rfl k0_
    obtain ⟨f1_, f2_, f3_⟩ := fin_v W i_ (by omega) x_.toInt64
    have m_ := t_M_setWind f1_ e2_
    have l_ := lh_setWind_v W.1 (z_Ok_zw W.1) k_
    exact ⟨_, _, f3_, fun o w1 kk => lo_55 W.1 W.2.1 f1_ f2_ f3_.1 f3_.2.1 (okj hG h6 (show 1 < 6 by omega)) rfl l_ (zK_r rfl m_) kk⟩
  | inl e_ =>
    obtain ⟨f1_, f2_, f3_⟩ := fin_e W i_ (by omega)
    obtain ⟨c_, hm_, hj_⟩ := o_
    have m_ : (e_ = 0 ∧ c_ = 1) ∨ (e_ = 2 ∧ c_ = 2) := by simpa using hm_
    rcases m_ with ⟨rfl, rfl⟩ | ⟨rfl, rfl⟩
    · have k0_ := t_F_setWind W.1 W.2.2.2.1 e1_
      have k_ : z_K G 186 [.ref 0, .int (X (z_n (Int32.ofNat (6 * k) + Int32.ofNat 1)))] w (.inr 0) (w_th (z_w w J1_)) := zK_r rfl k0_
      have m_ := t_M_setWind f1_ e2_
      have l_ := lh_setWind_0 W.1 k_
      exact ⟨_, _, f3_, fun o w1 kk => lo_55 W.1 W.2.1 f1_ f2_ f3_.1 f3_.2.1 (okj hG h6 (show 1 < 6 by omega)) rfl l_ (zK_r rfl m_) kk⟩
    · have k0_ := t_F_setWind W.1 W.2.2.2.1 e1_
      have k_ : z_K G 186 [.ref 0, .int (X (z_n (Int32.ofNat (6 * k) + Int32.ofNat 1)))] w (.inr 2) (w_th (z_w w J1_)) := zK_r rfl k0_
      have m_ := t_M_setWind f1_ e2_
      have l_ := lh_setWind_2 W.1 k_
      exact ⟨_, _, f3_, fun o w1 kk => lo_55 W.1 W.2.1 f1_ f2_ f3_.1 f3_.2.1 (okj hG h6 (show 1 < 6 by omega)) rfl l_ (zK_r rfl m_) kk⟩
end LOOP
