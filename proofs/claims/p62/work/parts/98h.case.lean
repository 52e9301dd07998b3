/-! the cases, on: by wip/gen/zs.py -/
section LOOP
variable {G : z_G} {X : Nat → Int32} {n B B2 c k : Nat} {w : ev_W} {J1 J : z_H}
theorem lc_56 (W : Wi G X n B c w) (hG : G.1 ≤ 3072) (h6 : 6 * k + 6 ≤ G.1) (hB : 500 ≤ B ∧ B + 1 < 100000) : Pc G X B c k w 2018 := by
  obtain ⟨r_, J1_, v_, J_, e1_, e2_, o_, i_⟩ := op_addFlag W.2.2.1 (X (z_n (Int32.ofNat (6 * k) + Int32.ofNat 1))) (X (z_n (Int32.ofNat (6 * k) + Int32.ofNat 2))) (X (z_n (Int32.ofNat (6 * k) + Int32.ofNat 3))) (X (z_n (Int32.ofNat (6 * k) + Int32.ofNat 4)))
  cases r_ with
  | inr x_ =>
    have k0_ := t_F_addFlag W.1 W.2.2.2.1 e1_
    have k_ : z_K G 187 [.ref 0, .int (X (z_n (Int32.ofNat (6 * k) + Int32.ofNat 1))), .int (X (z_n (Int32.ofNat (6 * k) + Int32.ofNat 2))), .int (X (z_n (Int32.ofNat (6 * k) + Int32.ofNat 3))), .int (X (z_n (Int32.ofNat (6 * k) + Int32.ofNat 4)))] w (.inl (some (.int x_))) (z_w w J1_) := zK_r rfl k0_
    obtain ⟨f1_, f2_, f3_⟩ := fin_v W i_ (by omega) x_.toInt64
    have m_ := t_M_addFlag f1_ e2_
    have l_ := lh_addFlag_v W.1 (z_Ok_zw W.1) k_
    exact ⟨_, _, f3_, fun o w1 kk => lo_56 W.1 W.2.1 f1_ f2_ f3_.1 f3_.2.1 (okj hG h6 (show 1 < 6 by omega)) rfl (okj hG h6 (show 2 < 6 by omega)) rfl (okj hG h6 (show 3 < 6 by omega)) rfl (okj hG h6 (show 4 < 6 by omega)) rfl l_ (zK_r rfl m_) kk⟩
  | inl e_ =>
    obtain ⟨f1_, f2_, f3_⟩ := fin_e W i_ (by omega)
    obtain ⟨c_, hm_, hj_⟩ := o_
    have m_ : (e_ = 0 ∧ c_ = 1) ∨ (e_ = 1 ∧ c_ = 2) ∨ (e_ = 2 ∧ c_ = 3) := by simpa using hm_
    rcases m_ with ⟨rfl, rfl⟩ | ⟨rfl, rfl⟩ | ⟨rfl, rfl⟩
    · have k0_ := t_F_addFlag W.1 W.2.2.2.1 e1_
      have k_ : z_K G 187 [.ref 0, .int (X (z_n (Int32.ofNat (6 * k) + Int32.ofNat 1))), .int (X (z_n (Int32.ofNat (6 * k) + Int32.ofNat 2))), .int (X (z_n (Int32.ofNat (6 * k) + Int32.ofNat 3))), .int (X (z_n (Int32.ofNat (6 * k) + Int32.ofNat 4)))] w (.inr 0) (w_th (z_w w J1_)) := zK_r rfl k0_
      have m_ := t_M_addFlag f1_ e2_
      have l_ := lh_addFlag_0 W.1 k_
      exact ⟨_, _, f3_, fun o w1 kk => lo_56 W.1 W.2.1 f1_ f2_ f3_.1 f3_.2.1 (okj hG h6 (show 1 < 6 by omega)) rfl (okj hG h6 (show 2 < 6 by omega)) rfl (okj hG h6 (show 3 < 6 by omega)) rfl (okj hG h6 (show 4 < 6 by omega)) rfl l_ (zK_r rfl m_) kk⟩
    · have k0_ := t_F_addFlag W.1 W.2.2.2.1 e1_
      have k_ : z_K G 187 [.ref 0, .int (X (z_n (Int32.ofNat (6 * k) + Int32.ofNat 1))), .int (X (z_n (Int32.ofNat (6 * k) + Int32.ofNat 2))), .int (X (z_n (Int32.ofNat (6 * k) + Int32.ofNat 3))), .int (X (z_n (Int32.ofNat (6 * k) + Int32.ofNat 4)))] w (.inr 1) (w_th (z_w w J1_)) := zK_r rfl k0_
      have m_ := t_M_addFlag f1_ e2_
      have l_ := lh_addFlag_1 W.1 k_
      exact ⟨_, _, f3_, fun o w1 kk => lo_56 W.1 W.2.1 f1_ f2_ f3_.1 f3_.2.1 (okj hG h6 (show 1 < 6 by omega)) rfl (okj hG h6 (show 2 < 6 by omega)) rfl (okj hG h6 (show 3 < 6 by omega)) rfl (okj hG h6 (show 4 < 6 by omega)) rfl l_ (zK_r rfl m_) kk⟩
    · have k0_ := t_F_addFlag W.1 W.2.2.2.1 e1_
      have k_ : z_K G 187 [.ref 0, .int (X (z_n (Int32.ofNat (6 * k) + Int32.ofNat 1))), .int (X (z_n (Int32.ofNat (6 * k) + Int32.ofNat 2))), .int (X (z_n (Int32.ofNat (6 * k) + Int32.ofNat 3))), .int (X (z_n (Int32.ofNat (6 * k) + Int32.ofNat 4)))] w (.inr 2) (w_th (z_w w J1_)) := zK_r rfl k0_
      have m_ := t_M_addFlag f1_ e2_
      have l_ := lh_addFlag_2 W.1 k_
      exact ⟨_, _, f3_, fun o w1 kk => lo_56 W.1 W.2.1 f1_ f2_ f3_.1 f3_.2.1 (okj hG h6 (show 1 < 6 by omega)) rfl (okj hG h6 (show 2 < 6 by omega)) rfl (okj hG h6 (show 3 < 6 by omega)) rfl (okj hG h6 (show 4 < 6 by omega)) rfl l_ (zK_r rfl m_) kk⟩
theorem lc_57 (W : Wi G X n B c w) (hG : G.1 ≤ 3072) (h6 : 6 * k + 6 ≤ G.1) (hB : 500 ≤ B ∧ B + 1 < 100000) : Pc G X B c k w 2082 := by
  obtain ⟨r_, J1_, v_, J_, e1_, e2_, o_, i_⟩ := op_undo W.2.2.1
  cases r_ with
  | inr x_ =>
    have k0_ := t_F_undo W.1 W.2.2.2.1 e1_
    have k_ : z_K G 188 [.ref 0] w (.inl (some (.int x_))) (z_w w J1_) := zK_r rfl k0_
    obtain ⟨f1_, f2_, f3_⟩ := fin_v W i_ (by omega) x_.toInt64
    have m_ := t_M_undo f1_ e2_
    have l_ := lh_undo_v W.1 (z_Ok_zw W.1) k_
    exact ⟨_, _, f3_, fun o w1 kk => lo_57 W.1 W.2.1 f1_ f2_ f3_.1 f3_.2.1 l_ (zK_r rfl m_) kk⟩
  | inl e_ =>
    obtain ⟨f1_, f2_, f3_⟩ := fin_e W i_ (by omega)
    obtain ⟨c_, hm_, hj_⟩ := o_
    have m_ : (e_ = 0 ∧ c_ = 1) := by simpa using hm_
    obtain ⟨rfl, rfl⟩ := m_
    · have k0_ := t_F_undo W.1 W.2.2.2.1 e1_
      have k_ : z_K G 188 [.ref 0] w (.inr 0) (w_th (z_w w J1_)) := zK_r rfl k0_
      have m_ := t_M_undo f1_ e2_
      have l_ := lh_undo_0 W.1 k_
      exact ⟨_, _, f3_, fun o w1 kk => lo_57 W.1 W.2.1 f1_ f2_ f3_.1 f3_.2.1 l_ (zK_r rfl m_) kk⟩
theorem lc_58 (W : Wi G X n B c w) (hG : G.1 ≤ 3072) (h6 : 6 * k + 6 ≤ G.1) (hB : 500 ≤ B ∧ B + 1 < 100000) : Pc G X B c k w 2098 := by
  obtain ⟨r_, J_, e1_, e2_, t_, i_⟩ := op_undoable W.2.2.1
  have k0_ := t_F_undoable W.1 e1_
  have k_ : z_K G 189 [.ref 0] w (.inl (some (.int r_))) (z_w w (w_I w)) := zK_r rfl k0_
  obtain ⟨f1_, f2_, f3_⟩ := fin_0 W (Inx_r i_) (by omega)
  have m_ := t_M_undoable f1_ e2_
  have l_ := k_
  exact ⟨_, _, f3_, fun o w1 kk => lo_58 W.1 W.2.1 f1_ f2_ f3_.1 f3_.2.1 l_ (zK_r rfl m_) kk⟩
theorem lc_59 (W : Wi G X n B c w) (hG : G.1 ≤ 3072) (h6 : 6 * k + 6 ≤ G.1) (hB : 500 ≤ B ∧ B + 1 < 100000) : Pc G X B c k w 2111 := by
  obtain ⟨r_, J1_, v_, J_, e1_, e2_, o_, i_⟩ := op_save W.2.2.1 (X (z_n (Int32.ofNat (6 * k) + Int32.ofNat 1)))
  cases r_ with
  | inr x_ =>
    have k0_ := t_F_save W.1 W.2.2.2.1 e1_
    have k_ : z_K G 190 [.ref 0, .int (X (z_n (Int32.ofNat (6 * k) + Int32.ofNat 1)))] w (.inl (some (.int x_))) (z_w w J1_) := zK_r rfl k0_
    obtain ⟨f1_, f2_, f3_⟩ := fin_v W i_ (by omega) x_.toInt64
    have m_ := t_M_save f1_ e2_
    have l_ := lh_save_v W.1 (z_Ok_zw W.1) k_
    exact ⟨_, _, f3_, fun o w1 kk => lo_59 W.1 W.2.1 f1_ f2_ f3_.1 f3_.2.1 (okj hG h6 (show 1 < 6 by omega)) rfl l_ (zK_r rfl m_) kk⟩
  | inl e_ =>
    obtain ⟨f1_, f2_, f3_⟩ := fin_e W i_ (by omega)
    obtain ⟨c_, hm_, hj_⟩ := o_
    have m_ : (e_ = 0 ∧ c_ = 1) ∨ (e_ = 1 ∧ c_ = 2) := by simpa using hm_
    rcases m_ with ⟨rfl, rfl⟩ | ⟨rfl, rfl⟩
    · have k0_ := t_F_save W.1 W.2.2.2.1 e1_
      have k_ : z_K G 190 [.ref 0, .int (X (z_n (Int32.ofNat (6 * k) + Int32.ofNat 1)))] w (.inr 0) (w_th (z_w w J1_)) := zK_r rfl k0_
      have m_ := t_M_save f1_ e2_
      have l_ := lh_save_0 W.1 k_
      exact ⟨_, _, f3_, fun o w1 kk => lo_59 W.1 W.2.1 f1_ f2_ f3_.1 f3_.2.1 (okj hG h6 (show 1 < 6 by omega)) rfl l_ (zK_r rfl m_) kk⟩
    · have k0_ := t_F_save W.1 W.2.2.2.1 e1_
      have k_ : z_K G 190 [.ref 0, .int (X (z_n (Int32.ofNat (6 * k) + Int32.ofNat 1)))] w (.inr 1) (w_th (z_w w J1_)) := zK_r rfl k0_
      have m_ := t_M_save f1_ e2_
      have l_ := lh_save_1 W.1 k_
      exact ⟨_, _, f3_, fun o w1 kk => lo_59 W.1 W.2.1 f1_ f2_ f3_.1 f3_.2.1 (okj hG h6 (show 1 < 6 by omega)) rfl l_ (zK_r rfl m_) kk⟩
theorem lc_60 (W : Wi G X n B c w) (hG : G.1 ≤ 3072) (h6 : 6 * k + 6 ≤ G.1) (hB : 500 ≤ B ∧ B + 1 < 100000) : Pc G X B c k w 2139 := by
  obtain ⟨r_, J1_, v_, J_, e1_, e2_, o_, i_⟩ := op_restore W.2.2.1 (X (z_n (Int32.ofNat (6 * k) + Int32.ofNat 1)))
  cases r_ with
  | inr x_ =>
    have k0_ := t_F_restore W.1 W.2.2.2.1 e1_
    have k_ : z_K G 191 [.ref 0, .int (X (z_n (Int32.ofNat (6 * k) + Int32.ofNat 1)))] w (.inl (some (.int x_))) (z_w w J1_) := zK_r rfl k0_
    obtain ⟨f1_, f2_, f3_⟩ := fin_v W i_ (by omega) x_.toInt64
    have o2_ : v_ = x_ ∧ J_ 241 0 = jn 0 := o_
    have m_ := t_M_restore f1_ e2_
    have l_ := lh_restore_v W.1 (z_Ok_zw W.1) k_
    have th_ := t_M_thrown f3_.1 (I := J_) rfl
    exact ⟨_, _, f3_, fun o w1 kk => lo_60 W.1 W.2.1 f1_ f2_ f3_.1 f3_.2.1 f3_.1 f3_.2.1 (okj hG h6 (show 1 < 6 by omega)) rfl l_ (zK_r rfl m_) (zK_r rfl th_) o2_.2 (fun _ => (wJ_at ..).trans (by rw [o2_.1])) kk⟩
  | inl e_ =>
    obtain ⟨f1_, f2_, f3_⟩ := fin_e W i_ (by omega)
    obtain ⟨c_, hm_, hj_⟩ := o_
    have m_ : (e_ = 1 ∧ c_ = 1) ∨ (e_ = 0 ∧ c_ = 2) := by simpa using hm_
    rcases m_ with ⟨rfl, rfl⟩ | ⟨rfl, rfl⟩
    · have k0_ := t_F_restore W.1 W.2.2.2.1 e1_
      have k_ : z_K G 191 [.ref 0, .int (X (z_n (Int32.ofNat (6 * k) + Int32.ofNat 1)))] w (.inr 1) (w_th (z_w w J1_)) := zK_r rfl k0_
      have m_ := t_M_restore f1_ e2_
      have l_ := lh_restore_1 W.1 k_
      have th_ := t_M_thrown f3_.1 (I := J_) rfl
      exact ⟨_, _, f3_, fun o w1 kk => lo_60 W.1 W.2.1 f1_ f2_ f3_.1 f3_.2.1 f3_.1 f3_.2.1 (okj hG h6 (show 1 < 6 by omega)) rfl l_ (zK_r rfl m_) (zK_r rfl th_) hj_ (fun q_ => absurd q_ (by decide)) kk⟩
    · have k0_ := t_F_restore W.1 W.2.2.2.1 e1_
      have k_ : z_K G 191 [.ref 0, .int (X (z_n (Int32.ofNat (6 * k) + Int32.ofNat 1)))] w (.inr 0) (w_th (z_w w J1_)) := zK_r rfl k0_
      have m_ := t_M_restore f1_ e2_
      have l_ := lh_restore_0 W.1 k_
      have th_ := t_M_thrown f3_.1 (I := J_) rfl
      exact ⟨_, _, f3_, fun o w1 kk => lo_60 W.1 W.2.1 f1_ f2_ f3_.1 f3_.2.1 f3_.1 f3_.2.1 (okj hG h6 (show 1 < 6 by omega)) rfl l_ (zK_r rfl m_) (zK_r rfl th_) hj_ (fun q_ => absurd q_ (by decide)) kk⟩
end LOOP
