/-! the cases, on: by wip/gen/zs.py -/
section LOOP
variable {G : z_G} {X : Nat → Int32} {n B B2 c k : Nat} {w : ev_W} {J1 J : z_H}
theorem lc_40 (W : Wi G X n B c w) (hG : G.1 ≤ 3072) (h6 : 6 * k + 6 ≤ G.1) (hB : 500 ≤ B ∧ B + 1 < 100000) : Pc G X B c k w 1558 := by
  obtain ⟨r_, J1_, v_, J_, e1_, e2_, o_, i_⟩ := op_writeFlag W.2.2.1 (X (z_n (Int32.ofNat (6 * k) + Int32.ofNat 1)))
  cases r_ with
  | inr x_ =>
    have k0_ := t_F_writeFlag W.1 W.2.2.2.1 e1_
    have k_ : z_K G 171 [.ref 0, .int (X (z_n (Int32.ofNat (6 * k) + Int32.ofNat 1)))] w (.inl (some (.int x_))) (z_w w J1_) := zK_r rfl k0_
    obtain ⟨f1_, f2_, f3_⟩ := fin_v W i_ (by omega) x_.toInt64
    have m_ := t_M_writeFlag f1_ e2_
    have l_ := lh_writeFlag_v W.1 (z_Ok_zw W.1) k_
    exact ⟨_, _, f3_, fun o w1 kk => lo_40 W.1 W.2.1 f1_ f2_ f3_.1 f3_.2.1 (okj hG h6 (show 1 < 6 by omega)) rfl l_ (zK_r rfl m_) kk⟩
  | inl e_ =>
    obtain ⟨f1_, f2_, f3_⟩ := fin_e W i_ (by omega)
    obtain ⟨c_, hm_, hj_⟩ := o_
    have m_ : (e_ = 0 ∧ c_ = 1) ∨ (e_ = 1 ∧ c_ = 2) := by simpa using hm_
    rcases m_ with ⟨rfl, rfl⟩ | ⟨rfl, rfl⟩
    · have k0_ := t_F_writeFlag W.1 W.2.2.2.1 e1_
      have k_ : z_K G 171 [.ref 0, .int (X (z_n (Int32.ofNat (6 * k) + Int32.ofNat 1)))] w (.inr 0) (w_th (z_w w J1_)) := zK_r rfl k0_
      have m_ := t_M_writeFlag f1_ e2_
      have l_ := lh_writeFlag_0 W.1 k_
      exact ⟨_, _, f3_, fun o w1 kk => lo_40 W.1 W.2.1 f1_ f2_ f3_.1 f3_.2.1 (okj hG h6 (show 1 < 6 by omega)) rfl l_ (zK_r rfl m_) kk⟩
    · have k0_ := t_F_writeFlag W.1 W.2.2.2.1 e1_
      have k_ : z_K G 171 [.ref 0, .int (X (z_n (Int32.ofNat (6 * k) + Int32.ofNat 1)))] w (.inr 1) (w_th (z_w w J1_)) := zK_r rfl k0_
      have m_ := t_M_writeFlag f1_ e2_
      have l_ := lh_writeFlag_1 W.1 k_
      exact ⟨_, _, f3_, fun o w1 kk => lo_40 W.1 W.2.1 f1_ f2_ f3_.1 f3_.2.1 (okj hG h6 (show 1 < 6 by omega)) rfl l_ (zK_r rfl m_) kk⟩
theorem lc_41 (W : Wi G X n B c w) (hG : G.1 ≤ 3072) (h6 : 6 * k + 6 ≤ G.1) (hB : 500 ≤ B ∧ B + 1 < 100000) : Pc G X B c k w 1586 := by
  obtain ⟨r_, J1_, v_, J_, e1_, e2_, o_, i_⟩ := op_writeTub W.2.2.1 (X (z_n (Int32.ofNat (6 * k) + Int32.ofNat 1)))
  cases r_ with
  | inr x_ =>
    have k0_ := t_F_writeTub W.1 W.2.2.2.1 e1_
    have k_ : z_K G 172 [.ref 0, .int (X (z_n (Int32.ofNat (6 * k) + Int32.ofNat 1)))] w (.inl (some (.int x_))) (z_w w J1_) := zK_r rfl k0_
    obtain ⟨f1_, f2_, f3_⟩ := fin_v W i_ (by omega) x_.toInt64
    have m_ := t_M_writeTub f1_ e2_
    have l_ := lh_writeTub_v W.1 (z_Ok_zw W.1) k_
    exact ⟨_, _, f3_, fun o w1 kk => lo_41 W.1 W.2.1 f1_ f2_ f3_.1 f3_.2.1 (okj hG h6 (show 1 < 6 by omega)) rfl l_ (zK_r rfl m_) kk⟩
  | inl e_ =>
    obtain ⟨f1_, f2_, f3_⟩ := fin_e W i_ (by omega)
    obtain ⟨c_, hm_, hj_⟩ := o_
    have m_ : (e_ = 0 ∧ c_ = 1) ∨ (e_ = 1 ∧ c_ = 2) := by simpa using hm_
    rcases m_ with ⟨rfl, rfl⟩ | ⟨rfl, rfl⟩
    · have k0_ := t_F_writeTub W.1 W.2.2.2.1 e1_
      have k_ : z_K G 172 [.ref 0, .int (X (z_n (Int32.ofNat (6 * k) + Int32.ofNat 1)))] w (.inr 0) (w_th (z_w w J1_)) := zK_r rfl k0_
      have m_ := t_M_writeTub f1_ e2_
      have l_ := lh_writeTub_0 W.1 k_
      exact ⟨_, _, f3_, fun o w1 kk => lo_41 W.1 W.2.1 f1_ f2_ f3_.1 f3_.2.1 (okj hG h6 (show 1 < 6 by omega)) rfl l_ (zK_r rfl m_) kk⟩
    · have k0_ := t_F_writeTub W.1 W.2.2.2.1 e1_
      have k_ : z_K G 172 [.ref 0, .int (X (z_n (Int32.ofNat (6 * k) + Int32.ofNat 1)))] w (.inr 1) (w_th (z_w w J1_)) := zK_r rfl k0_
      have m_ := t_M_writeTub f1_ e2_
      have l_ := lh_writeTub_1 W.1 k_
      exact ⟨_, _, f3_, fun o w1 kk => lo_41 W.1 W.2.1 f1_ f2_ f3_.1 f3_.2.1 (okj hG h6 (show 1 < 6 by omega)) rfl l_ (zK_r rfl m_) kk⟩
theorem lc_42 (W : Wi G X n B c w) (hG : G.1 ≤ 3072) (h6 : 6 * k + 6 ≤ G.1) (hB : 500 ≤ B ∧ B + 1 < 100000) : Pc G X B c k w 1614 := by
  obtain ⟨r_, J1_, v_, J_, e1_, e2_, o_, i_⟩ := op_writeNation W.2.2.1 (X (z_n (Int32.ofNat (6 * k) + Int32.ofNat 1)))
  cases r_ with
  | inr x_ =>
    have k0_ := t_F_writeNation W.1 W.2.2.2.1 e1_
    have k_ : z_K G 173 [.ref 0, .int (X (z_n (Int32.ofNat (6 * k) + Int32.ofNat 1)))] w (.inl (some (.int x_))) (z_w w J1_) := zK_r rfl k0_
    obtain ⟨f1_, f2_, f3_⟩ := fin_v W i_ (by omega) x_.toInt64
    have m_ := t_M_writeNation f1_ e2_
    have l_ := lh_writeNation_v W.1 (z_Ok_zw W.1) k_
    exact ⟨_, _, f3_, fun o w1 kk => lo_42 W.1 W.2.1 f1_ f2_ f3_.1 f3_.2.1 (okj hG h6 (show 1 < 6 by omega)) rfl l_ (zK_r rfl m_) kk⟩
  | inl e_ =>
    obtain ⟨f1_, f2_, f3_⟩ := fin_e W i_ (by omega)
    obtain ⟨c_, hm_, hj_⟩ := o_
    have m_ : (e_ = 0 ∧ c_ = 1) ∨ (e_ = 1 ∧ c_ = 2) := by simpa using hm_
    rcases m_ with ⟨rfl, rfl⟩ | ⟨rfl, rfl⟩
    · have k0_ := t_F_writeNation W.1 W.2.2.2.1 e1_
      have k_ : z_K G 173 [.ref 0, .int (X (z_n (Int32.ofNat (6 * k) + Int32.ofNat 1)))] w (.inr 0) (w_th (z_w w J1_)) := zK_r rfl k0_
      have m_ := t_M_writeNation f1_ e2_
      have l_ := lh_writeNation_0 W.1 k_
      exact ⟨_, _, f3_, fun o w1 kk => lo_42 W.1 W.2.1 f1_ f2_ f3_.1 f3_.2.1 (okj hG h6 (show 1 < 6 by omega)) rfl l_ (zK_r rfl m_) kk⟩
    · have k0_ := t_F_writeNation W.1 W.2.2.2.1 e1_
      have k_ : z_K G 173 [.ref 0, .int (X (z_n (Int32.ofNat (6 * k) + Int32.ofNat 1)))] w (.inr 1) (w_th (z_w w J1_)) := zK_r rfl k0_
      have m_ := t_M_writeNation f1_ e2_
      have l_ := lh_writeNation_1 W.1 k_
      exact ⟨_, _, f3_, fun o w1 kk => lo_42 W.1 W.2.1 f1_ f2_ f3_.1 f3_.2.1 (okj hG h6 (show 1 < 6 by omega)) rfl l_ (zK_r rfl m_) kk⟩
theorem lc_43 (W : Wi G X n B c w) (hG : G.1 ≤ 3072) (h6 : 6 * k + 6 ≤ G.1) (hB : 500 ≤ B ∧ B + 1 < 100000) : Pc G X B c k w 1642 := by
  obtain ⟨r_, J1_, v_, J_, e1_, e2_, o_, i_⟩ := op_writeLine W.2.2.1
  cases r_ with
  | inr x_ =>
    have k0_ := t_F_writeLine W.1 W.2.2.2.1 e1_
    have k_ : z_K G 174 [.ref 0] w (.inl (some (.int x_))) (z_w w J1_) := zK_r rfl k0_
    obtain ⟨f1_, f2_, f3_⟩ := fin_v W i_ (by omega) x_.toInt64
    have m_ := t_M_writeLine f1_ e2_
    have l_ := lh_writeLine_v W.1 (z_Ok_zw W.1) k_
    exact ⟨_, _, f3_, fun o w1 kk => lo_43 W.1 W.2.1 f1_ f2_ f3_.1 f3_.2.1 l_ (zK_r rfl m_) kk⟩
  | inl e_ =>
    obtain ⟨f1_, f2_, f3_⟩ := fin_e W i_ (by omega)
    obtain ⟨c_, hm_, hj_⟩ := o_
    have m_ : (e_ = 0 ∧ c_ = 1) := by simpa using hm_
    obtain ⟨rfl, rfl⟩ := m_
    · have k0_ := t_F_writeLine W.1 W.2.2.2.1 e1_
      have k_ : z_K G 174 [.ref 0] w (.inr 0) (w_th (z_w w J1_)) := zK_r rfl k0_
      have m_ := t_M_writeLine f1_ e2_
      have l_ := lh_writeLine_0 W.1 k_
      exact ⟨_, _, f3_, fun o w1 kk => lo_43 W.1 W.2.1 f1_ f2_ f3_.1 f3_.2.1 l_ (zK_r rfl m_) kk⟩
theorem lc_44 (W : Wi G X n B c w) (hG : G.1 ≤ 3072) (h6 : 6 * k + 6 ≤ G.1) (hB : 500 ≤ B ∧ B + 1 < 100000) : Pc G X B c k w 1658 := by
  obtain ⟨r_, v_, J_, e1_, e2_, o_, i_⟩ := op_textByte W.2.2.1 (X (z_n (Int32.ofNat (6 * k) + Int32.ofNat 1)))
  cases r_ with
  | inr x_ =>
    have k0_ := t_F_textByte W.1 e1_
    have k_ : z_K G 175 [.ref 0, .int (X (z_n (Int32.ofNat (6 * k) + Int32.ofNat 1)))] w (.inl (some (.int x_))) (z_w w (w_I w)) := zK_r rfl k0_
    obtain ⟨f1_, f2_, f3_⟩ := fin_v W (Inx_r i_) (by omega) x_.toInt64
    have m_ := t_M_textByte f1_ e2_
    have l_ := lh_textByte_v W.1 (z_Ok_zw W.1) k_
    exact ⟨_, _, f3_, fun o w1 kk => lo_44 W.1 W.2.1 f1_ f2_ f3_.1 f3_.2.1 (okj hG h6 (show 1 < 6 by omega)) rfl l_ (zK_r rfl m_) kk⟩
  | inl e_ =>
    obtain ⟨f1_, f2_, f3_⟩ := fin_e W (Inx_r i_) (by omega)
    obtain ⟨c_, hm_, hj_⟩ := o_
    have m_ : (e_ = 1 ∧ c_ = 1) := by simpa using hm_
    obtain ⟨rfl, rfl⟩ := m_
    · have k0_ := t_F_textByte W.1 e1_
      have k_ : z_K G 175 [.ref 0, .int (X (z_n (Int32.ofNat (6 * k) + Int32.ofNat 1)))] w (.inr 1) (w_th (z_w w (w_I w))) := zK_r rfl k0_
      have m_ := t_M_textByte f1_ e2_
      have l_ := lh_textByte_1 W.1 k_
      exact ⟨_, _, f3_, fun o w1 kk => lo_44 W.1 W.2.1 f1_ f2_ f3_.1 f3_.2.1 (okj hG h6 (show 1 < 6 by omega)) rfl l_ (zK_r rfl m_) kk⟩
theorem lc_45 (W : Wi G X n B c w) (hG : G.1 ≤ 3072) (h6 : 6 * k + 6 ≤ G.1) (hB : 500 ≤ B ∧ B + 1 < 100000) : Pc G X B c k w 1686 := by
  obtain ⟨r_, J1_, v_, J_, e1_, e2_, o_, i_⟩ := op_put W.2.2.1 hB.2 (X (z_n (Int32.ofNat (6 * k) + Int32.ofNat 1))) (X (z_n (Int32.ofNat (6 * k) + Int32.ofNat 2)))
  cases r_ with
  | inr x_ =>
    have k0_ := t_F_put W.1 W.2.2.2.1 e1_
    have k_ : z_K G 176 [.ref 0, .int (X (z_n (Int32.ofNat (6 * k) + Int32.ofNat 1))), .int (X (z_n (Int32.ofNat (6 * k) + Int32.ofNat 2)))] w (.inl (some (.int x_))) (z_w w J1_) := zK_r rfl k0_
    obtain ⟨f1_, f2_, f3_⟩ := fin_v W i_ (by omega) x_.toInt64
    have m_ := t_M_put f1_ e2_
    have l_ := lh_put_v W.1 (z_Ok_zw W.1) k_
    exact ⟨_, _, f3_, fun o w1 kk => lo_45 W.1 W.2.1 f1_ f2_ f3_.1 f3_.2.1 (okj hG h6 (show 1 < 6 by omega)) rfl (okj hG h6 (show 2 < 6 by omega)) rfl l_ (zK_r rfl m_) kk⟩
  | inl e_ =>
    obtain ⟨f1_, f2_, f3_⟩ := fin_e W i_ (by omega)
    obtain ⟨c_, hm_, hj_⟩ := o_
    have m_ : (e_ = 0 ∧ c_ = 1) ∨ (e_ = 1 ∧ c_ = 2) ∨ (e_ = 2 ∧ c_ = 3) := by simpa using hm_
    rcases m_ with ⟨rfl, rfl⟩ | ⟨rfl, rfl⟩ | ⟨rfl, rfl⟩
    · have k0_ := t_F_put W.1 W.2.2.2.1 e1_
      have k_ : z_K G 176 [.ref 0, .int (X (z_n (Int32.ofNat (6 * k) + Int32.ofNat 1))), .int (X (z_n (Int32.ofNat (6 * k) + Int32.ofNat 2)))] w (.inr 0) (w_th (z_w w J1_)) := zK_r rfl k0_
      have m_ := t_M_put f1_ e2_
      have l_ := lh_put_0 W.1 k_
      exact ⟨_, _, f3_, fun o w1 kk => lo_45 W.1 W.2.1 f1_ f2_ f3_.1 f3_.2.1 (okj hG h6 (show 1 < 6 by omega)) rfl (okj hG h6 (show 2 < 6 by omega)) rfl l_ (zK_r rfl m_) kk⟩
    · have k0_ := t_F_put W.1 W.2.2.2.1 e1_
      have k_ : z_K G 176 [.ref 0, .int (X (z_n (Int32.ofNat (6 * k) + Int32.ofNat 1))), .int (X (z_n (Int32.ofNat (6 * k) + Int32.ofNat 2)))] w (.inr 1) (w_th (z_w w J1_)) := zK_r rfl k0_
      have m_ := t_M_put f1_ e2_
      have l_ := lh_put_1 W.1 k_
      exact ⟨_, _, f3_, fun o w1 kk => lo_45 W.1 W.2.1 f1_ f2_ f3_.1 f3_.2.1 (okj hG h6 (show 1 < 6 by omega)) rfl (okj hG h6 (show 2 < 6 by omega)) rfl l_ (zK_r rfl m_) kk⟩
    · have k0_ := t_F_put W.1 W.2.2.2.1 e1_
      have k_ : z_K G 176 [.ref 0, .int (X (z_n (Int32.ofNat (6 * k) + Int32.ofNat 1))), .int (X (z_n (Int32.ofNat (6 * k) + Int32.ofNat 2)))] w (.inr 2) (w_th (z_w w J1_)) := zK_r rfl k0_
      have m_ := t_M_put f1_ e2_
      have l_ := lh_put_2 W.1 k_
      exact ⟨_, _, f3_, fun o w1 kk => lo_45 W.1 W.2.1 f1_ f2_ f3_.1 f3_.2.1 (okj hG h6 (show 1 < 6 by omega)) rfl (okj hG h6 (show 2 < 6 by omega)) rfl l_ (zK_r rfl m_) kk⟩
theorem lc_46 (W : Wi G X n B c w) (hG : G.1 ≤ 3072) (h6 : 6 * k + 6 ≤ G.1) (hB : 500 ≤ B ∧ B + 1 < 100000) : Pc G X B c k w 1726 := by
  obtain ⟨r_, J1_, v_, J_, e1_, e2_, o_, i_⟩ := op_wash W.2.2.1 (X (z_n (Int32.ofNat (6 * k) + Int32.ofNat 1))) (X (z_n (Int32.ofNat (6 * k) + Int32.ofNat 2)))
  cases r_ with
  | inr x_ =>
    have k0_ := t_F_wash W.1 W.2.2.2.1 e1_
    have k_ : z_K G 177 [.ref 0, .int (X (z_n (Int32.ofNat (6 * k) + Int32.ofNat 1))), .int (X (z_n (Int32.ofNat (6 * k) + Int32.ofNat 2)))] w (.inl (some (.int x_))) (z_w w J1_) := zK_r rfl k0_
    obtain ⟨f1_, f2_, f3_⟩ := fin_v W i_ (by omega) x_.toInt64
    have m_ := t_M_wash f1_ e2_
    have l_ := lh_wash_v W.1 (z_Ok_zw W.1) k_
    exact ⟨_, _, f3_, fun o w1 kk => lo_46 W.1 W.2.1 f1_ f2_ f3_.1 f3_.2.1 (okj hG h6 (show 1 < 6 by omega)) rfl (okj hG h6 (show 2 < 6 by omega)) rfl l_ (zK_r rfl m_) kk⟩
  | inl e_ =>
    obtain ⟨f1_, f2_, f3_⟩ := fin_e W i_ (by omega)
    obtain ⟨c_, hm_, hj_⟩ := o_
    have m_ : (e_ = 0 ∧ c_ = 1) ∨ (e_ = 1 ∧ c_ = 2) ∨ (e_ = 2 ∧ c_ = 3) := by simpa using hm_
    rcases m_ with ⟨rfl, rfl⟩ | ⟨rfl, rfl⟩ | ⟨rfl, rfl⟩
    · have k0_ := t_F_wash W.1 W.2.2.2.1 e1_
      have k_ : z_K G 177 [.ref 0, .int (X (z_n (Int32.ofNat (6 * k) + Int32.ofNat 1))), .int (X (z_n (Int32.ofNat (6 * k) + Int32.ofNat 2)))] w (.inr 0) (w_th (z_w w J1_)) := zK_r rfl k0_
      have m_ := t_M_wash f1_ e2_
      have l_ := lh_wash_0 W.1 k_
      exact ⟨_, _, f3_, fun o w1 kk => lo_46 W.1 W.2.1 f1_ f2_ f3_.1 f3_.2.1 (okj hG h6 (show 1 < 6 by omega)) rfl (okj hG h6 (show 2 < 6 by omega)) rfl l_ (zK_r rfl m_) kk⟩
    · have k0_ := t_F_wash W.1 W.2.2.2.1 e1_
      have k_ : z_K G 177 [.ref 0, .int (X (z_n (Int32.ofNat (6 * k) + Int32.ofNat 1))), .int (X (z_n (Int32.ofNat (6 * k) + Int32.ofNat 2)))] w (.inr 1) (w_th (z_w w J1_)) := zK_r rfl k0_
      have m_ := t_M_wash f1_ e2_
      have l_ := lh_wash_1 W.1 k_
      exact ⟨_, _, f3_, fun o w1 kk => lo_46 W.1 W.2.1 f1_ f2_ f3_.1 f3_.2.1 (okj hG h6 (show 1 < 6 by omega)) rfl (okj hG h6 (show 2 < 6 by omega)) rfl l_ (zK_r rfl m_) kk⟩
    · have k0_ := t_F_wash W.1 W.2.2.2.1 e1_
      have k_ : z_K G 177 [.ref 0, .int (X (z_n (Int32.ofNat (6 * k) + Int32.ofNat 1))), .int (X (z_n (Int32.ofNat (6 * k) + Int32.ofNat 2)))] w (.inr 2) (w_th (z_w w J1_)) := zK_r rfl k0_
      have m_ := t_M_wash f1_ e2_
      have l_ := lh_wash_2 W.1 k_
      exact ⟨_, _, f3_, fun o w1 kk => lo_46 W.1 W.2.1 f1_ f2_ f3_.1 f3_.2.1 (okj hG h6 (show 1 < 6 by omega)) rfl (okj hG h6 (show 2 < 6 by omega)) rfl l_ (zK_r rfl m_) kk⟩
theorem lc_47 (W : Wi G X n B c w) (hG : G.1 ≤ 3072) (h6 : 6 * k + 6 ≤ G.1) (hB : 500 ≤ B ∧ B + 1 < 100000) : Pc G X B c k w 1766 := by
  obtain ⟨r_, J1_, v_, J_, e1_, e2_, o_, i_⟩ := op_hang W.2.2.1 (X (z_n (Int32.ofNat (6 * k) + Int32.ofNat 1)))
  cases r_ with
  | inr x_ =>
    have k0_ := t_F_hang W.1 W.2.2.2.1 e1_
    have k_ : z_K G 178 [.ref 0, .int (X (z_n (Int32.ofNat (6 * k) + Int32.ofNat 1)))] w (.inl (some (.int x_))) (z_w w J1_) := zK_r rfl k0_
    obtain ⟨f1_, f2_, f3_⟩ := fin_v W i_ (by omega) x_.toInt64
    have m_ := t_M_hang f1_ e2_
    have l_ := lh_hang_v W.1 (z_Ok_zw W.1) k_
    exact ⟨_, _, f3_, fun o w1 kk => lo_47 W.1 W.2.1 f1_ f2_ f3_.1 f3_.2.1 (okj hG h6 (show 1 < 6 by omega)) rfl l_ (zK_r rfl m_) kk⟩
  | inl e_ =>
    obtain ⟨f1_, f2_, f3_⟩ := fin_e W i_ (by omega)
    obtain ⟨c_, hm_, hj_⟩ := o_
    have m_ : (e_ = 0 ∧ c_ = 1) ∨ (e_ = 1 ∧ c_ = 2) ∨ (e_ = 2 ∧ c_ = 3) := by simpa using hm_
    rcases m_ with ⟨rfl, rfl⟩ | ⟨rfl, rfl⟩ | ⟨rfl, rfl⟩
    · have k0_ := t_F_hang W.1 W.2.2.2.1 e1_
      have k_ : z_K G 178 [.ref 0, .int (X (z_n (Int32.ofNat (6 * k) + Int32.ofNat 1)))] w (.inr 0) (w_th (z_w w J1_)) := zK_r rfl k0_
      have m_ := t_M_hang f1_ e2_
      have l_ := lh_hang_0 W.1 k_
      exact ⟨_, _, f3_, fun o w1 kk => lo_47 W.1 W.2.1 f1_ f2_ f3_.1 f3_.2.1 (okj hG h6 (show 1 < 6 by omega)) rfl l_ (zK_r rfl m_) kk⟩
    · have k0_ := t_F_hang W.1 W.2.2.2.1 e1_
      have k_ : z_K G 178 [.ref 0, .int (X (z_n (Int32.ofNat (6 * k) + Int32.ofNat 1)))] w (.inr 1) (w_th (z_w w J1_)) := zK_r rfl k0_
      have m_ := t_M_hang f1_ e2_
      have l_ := lh_hang_1 W.1 k_
      exact ⟨_, _, f3_, fun o w1 kk => lo_47 W.1 W.2.1 f1_ f2_ f3_.1 f3_.2.1 (okj hG h6 (show 1 < 6 by omega)) rfl l_ (zK_r rfl m_) kk⟩
    · have k0_ := t_F_hang W.1 W.2.2.2.1 e1_
      have k_ : z_K G 178 [.ref 0, .int (X (z_n (Int32.ofNat (6 * k) + Int32.ofNat 1)))] w (.inr 2) (w_th (z_w w J1_)) := zK_r rfl k0_
      have m_ := t_M_hang f1_ e2_
      have l_ := lh_hang_2 W.1 k_
      exact ⟨_, _, f3_, fun o w1 kk => lo_47 W.1 W.2.1 f1_ f2_ f3_.1 f3_.2.1 (okj hG h6 (show 1 < 6 by omega)) rfl l_ (zK_r rfl m_) kk⟩
end LOOP
