/-! the calls of a run, one after another: by wip/gen/zs.py -/
/-- what holds of the world at the loop's head, after c calls -/
def Wi (G : z_G) (X : Nat → Int32) (n B c : Nat) (w : ev_W) : Prop := z_Ok G w ∧ w_I w ev_S = X ∧ Inv n B (w_I w) ∧ z_fc w n ∧ z_fs w (30 - n) ∧ w_c w ≤ 1000 + c ∧ w_z w ≤ 20000 + 6 * c
/-- one call comes back to the head -/
def Pc (G : z_G) (X : Nat → Int32) (B c k : Nat) (w : ev_W) (pc : Nat) : Prop := ∃ n2 W2, Wi G X n2 (B + 1) (c + 1) W2 ∧ ∀ (o : Option Value ⊕ Nat) (w1 : ev_W), z_R G ev_LAW 28 (z_ls (Int32.ofNat (6 * k) + Int32.ofNat 6)) [] W2 o w1 → z_R G ev_LAW pc (z_ls (Int32.ofNat (6 * k))) [] w o w1
section LOOP
variable {G : z_G} {X : Nat → Int32} {n B B2 c k : Nat} {w : ev_W} {J1 J : z_H}
theorem z_Ok_th (ok : z_Ok G w) : z_Ok G (w_th w) := ⟨ok.1, ok.2.1, rfl, ok.2.2.2.1, ok.2.2.2.2.1, ok.2.2.2.2.2⟩
theorem z_Ok_zw (ok : z_Ok G w) : z_Ok G (z_w w J1) := ⟨ok.1, ok.2.1, ok.2.2.1, ok.2.2.2.1, ok.2.2.2.2.1, ok.2.2.2.2.2⟩
theorem z_Ok_sJ9 {x : Int64} (ok : z_Ok G w) : z_Ok G (w_sJ w 250 0 x) := ⟨ok.1, ok.2.1, ok.2.2.1, ok.2.2.2.1, ok.2.2.2.2.1, ok.2.2.2.2.2⟩
theorem z_Ok_sD9 {x : UInt64} (ok : z_Ok G w) : z_Ok G (w_sD w 251 0 x) := ⟨ok.1, ok.2.1, ok.2.2.1, ok.2.2.2.1, ok.2.2.2.2.1, ok.2.2.2.2.2⟩
theorem wJ_at {a i : Nat} {x : Int64} : w_J (z_w (w_sJ w a i x) J) a i = x := by
  show ev_u2 (w_J w) a i x a i = x
  unfold ev_u2
  rw [if_pos rfl]
  exact if_pos rfl
theorem zK_r {j : Nat} {as : List Value} {w2 : ev_W} {o : Option Value ⊕ Nat} (hI : w_I w = J) (h : z_K G j as (z_w w J) o w2) : z_K G j as w o w2 := by
  subst hI
  exact h
theorem Wi_m {W1 : ev_W} (ok : z_Ok G W1) (hX : J ev_S = X) (i : Inv n B J) (fc : w_R W1 0 5 = some n ∧ zt 2 n = true) (fs : w_R W1 0 6 = some (30 - n) ∧ zt 2 (30 - n) = true) (hc : w_c W1 ≤ 1000 + c) (hz : w_z W1 ≤ 20000 + 6 * c) : Wi G X n B c (z_w W1 J) := ⟨z_Ok_zw ok, hX, i, fc, fs, hc, hz⟩
theorem fin_v (W : Wi G X n B c w) (i : Inx n B2 (w_I w) J1 J) (hB : B2 ≤ B + 1) (x : Int64) : z_Ok G (w_sJ (z_w w J1) 250 0 x) ∧ w_I (w_sJ (z_w w J1) 250 0 x) ev_S = X ∧ Wi G X n (B + 1) (c + 1) (z_w (w_sJ (z_w w J1) 250 0 x) J) := by
  obtain ⟨ok_, hX_, _, fc_, fs_, c_, z_⟩ := W
  obtain ⟨i_, s_, s1_⟩ := i
  exact ⟨z_Ok_sJ9 (z_Ok_zw ok_), s1_.trans hX_, Wi_m (z_Ok_sJ9 (z_Ok_zw ok_)) (s_.trans hX_) (Inv_B i_ hB) fc_ fs_ (Nat.le_trans c_ (by omega)) (Nat.le_trans z_ (by omega))⟩
theorem fin_d (W : Wi G X n B c w) (i : Inx n B2 (w_I w) J1 J) (hB : B2 ≤ B + 1) (x : UInt64) : z_Ok G (w_sD (z_w w J1) 251 0 x) ∧ w_I (w_sD (z_w w J1) 251 0 x) ev_S = X ∧ Wi G X n (B + 1) (c + 1) (z_w (w_sD (z_w w J1) 251 0 x) J) := by
  obtain ⟨ok_, hX_, _, fc_, fs_, c_, z_⟩ := W
  obtain ⟨i_, s_, s1_⟩ := i
  exact ⟨z_Ok_sD9 (z_Ok_zw ok_), s1_.trans hX_, Wi_m (z_Ok_sD9 (z_Ok_zw ok_)) (s_.trans hX_) (Inv_B i_ hB) fc_ fs_ (Nat.le_trans c_ (by omega)) (Nat.le_trans z_ (by omega))⟩
theorem fin_0 (W : Wi G X n B c w) (i : Inx n B2 (w_I w) J1 J) (hB : B2 ≤ B + 1) : z_Ok G (z_w w J1) ∧ w_I (z_w w J1) ev_S = X ∧ Wi G X n (B + 1) (c + 1) (z_w (z_w w J1) J) := by
  obtain ⟨ok_, hX_, _, fc_, fs_, c_, z_⟩ := W
  obtain ⟨i_, s_, s1_⟩ := i
  exact ⟨z_Ok_zw ok_, s1_.trans hX_, Wi_m (z_Ok_zw ok_) (s_.trans hX_) (Inv_B i_ hB) fc_ fs_ (Nat.le_trans c_ (by omega)) (Nat.le_trans z_ (by omega))⟩
theorem fin_e (W : Wi G X n B c w) (i : Inx n B2 (w_I w) J1 J) (hB : B2 ≤ B + 1) : z_Ok G (w_th (z_w w J1)) ∧ w_I (w_th (z_w w J1)) ev_S = X ∧ Wi G X n (B + 1) (c + 1) (z_w (w_th (z_w w J1)) J) := by
  obtain ⟨ok_, hX_, _, fc_, fs_, c_, z_⟩ := W
  obtain ⟨i_, s_, s1_⟩ := i
  have t_ : z_Ok G (w_th (z_w w J1)) := z_Ok_th (z_Ok_zw ok_)
  exact ⟨t_, s1_.trans hX_, Wi_m t_ (s_.trans hX_) (Inv_B i_ hB) fc_ fs_ (show w_c w + 1 ≤ 1000 + (c + 1) by omega) (show w_z w + 6 ≤ 20000 + 6 * (c + 1) by omega)⟩
theorem okj (hG : G.1 ≤ 3072) (h6 : 6 * k + 6 ≤ G.1) {j : Nat} (hj : j < 6) : ev_ok (Int32.ofNat (6 * k) + Int32.ofNat j) G.1 = true := by
  have e6_ : (Int32.ofNat (6 * k + j)).toInt = ((6 * k + j : Nat) : Int) := Int32.toInt_ofNat_of_lt (by show 6 * k + j < 2147483648; omega)
  rw [← Int32.ofNat_add]
  unfold ev_ok
  rw [Bool.and_eq_true, decide_eq_true_eq, decide_eq_true_eq]
  refine ⟨Int32.le_iff_toInt_le.mpr (by rw [e6_]; exact Int.natCast_nonneg _), ?_⟩
  show (Int32.ofNat (6 * k + j)).toInt.toNat < G.1
  rw [e6_]
  show 6 * k + j < G.1
  omega
theorem sw_c {P : Nat → Prop} {a x : Int32} {q d : Nat} {l : List (Int32 × Nat)} (h : P q) (t : P (z_sw l d x)) : P (z_sw ((a, q) :: l) d x) := by
  by_cases e_ : x = a
  · rw [z_sw_p e_]; exact h
  · rw [z_sw_n e_]; exact t
theorem sw_e {P : Nat → Prop} {x : Int32} {d : Nat} (h : P d) : P (z_sw [] d x) := h
theorem lc_0 (W : Wi G X n B c w) (hG : G.1 ≤ 3072) (h6 : 6 * k + 6 ≤ G.1) (hB : 500 ≤ B ∧ B + 1 < 100000) : Pc G X B c k w 304 := by
  obtain ⟨r_, J1_, J_, e1_, e2_, t_, i_⟩ := op_append W.2.2.1 (X (z_n (Int32.ofNat (6 * k) + Int32.ofNat 1))) (X (z_n (Int32.ofNat (6 * k) + Int32.ofNat 2))) (X (z_n (Int32.ofNat (6 * k) + Int32.ofNat 3))) (X (z_n (Int32.ofNat (6 * k) + Int32.ofNat 4))) (X (z_n (Int32.ofNat (6 * k) + Int32.ofNat 5)))
  have k0_ := t_F_append W.1 e1_
  have k_ : z_K G 131 [.ref 0, .int (X (z_n (Int32.ofNat (6 * k) + Int32.ofNat 1))), .int (X (z_n (Int32.ofNat (6 * k) + Int32.ofNat 2))), .int (X (z_n (Int32.ofNat (6 * k) + Int32.ofNat 3))), .int (X (z_n (Int32.ofNat (6 * k) + Int32.ofNat 4))), .int (X (z_n (Int32.ofNat (6 * k) + Int32.ofNat 5)))] w (.inl (some (.int r_))) (z_w w J1_) := zK_r rfl k0_
  obtain ⟨f1_, f2_, f3_⟩ := fin_0 W i_ (by omega)
  have m_ := t_M_append f1_ e2_
  have l_ := k_
  exact ⟨_, _, f3_, fun o w1 kk => lo_0 W.1 W.2.1 f1_ f2_ f3_.1 f3_.2.1 (okj hG h6 (show 1 < 6 by omega)) rfl (okj hG h6 (show 2 < 6 by omega)) rfl (okj hG h6 (show 3 < 6 by omega)) rfl (okj hG h6 (show 4 < 6 by omega)) rfl (okj hG h6 (show 5 < 6 by omega)) rfl l_ (zK_r rfl m_) kk⟩
theorem lc_1 (W : Wi G X n B c w) (hG : G.1 ≤ 3072) (h6 : 6 * k + 6 ≤ G.1) (hB : 500 ≤ B ∧ B + 1 < 100000) : Pc G X B c k w 377 := by
  have hn_ := W.2.2.1.1
  obtain ⟨r_, J1_, v_, J_, e1_, e2_, o_, i_⟩ := op_load W.2.2.1 (p := 30 - n) (by omega) hB.1 (X (z_n (Int32.ofNat (6 * k) + Int32.ofNat 1)))
  have k_ := t_F_load W.1 W.2.2.2.1 W.2.2.2.2.1 e1_
  obtain ⟨ok_, hX_, iv_, fc_, fs_, wc_, wz_⟩ := W
  rcases i_ with ⟨x_, rfl, i_, s_, s1_⟩ | ⟨x_, rfl, i_, s_, s1_⟩
  · obtain ⟨c_, hm_, hj_⟩ := o_
    have m_ : (x_ = 1 ∧ c_ = 1) ∨ (x_ = 2 ∧ c_ = 2) := by simpa using hm_
    rcases m_ with ⟨rfl, rfl⟩ | ⟨rfl, rfl⟩
    · have k2_ : z_K G 132 [.ref 0, .int (X (z_n (Int32.ofNat (6 * k) + Int32.ofNat 1)))] w (.inr 1) (w_th (z_w w J1_)) := zK_r rfl k_
      have okt_ : z_Ok G (w_th (z_w w J1_)) := z_Ok_th (z_Ok_zw ok_)
      have W2_ : Wi G X n (B + 1) (c + 1) (z_w (w_th (z_w w J1_)) J_) := Wi_m okt_ (s_.trans hX_) (Inv_B i_ (by omega)) fc_ fs_ (show w_c w + 1 ≤ 1000 + (c + 1) by omega) (show w_z w + 6 ≤ 20000 + 6 * (c + 1) by omega)
      have m_ := t_M_load okt_ e2_
      have l_ := lh_load_1 ok_ k2_
      exact ⟨_, _, W2_, fun o w1 kk => lo_1 ok_ hX_ okt_ (s1_.trans hX_) W2_.1 W2_.2.1 (okj hG h6 (show 1 < 6 by omega)) rfl l_ (zK_r rfl m_) kk⟩
    · have k2_ : z_K G 132 [.ref 0, .int (X (z_n (Int32.ofNat (6 * k) + Int32.ofNat 1)))] w (.inr 2) (w_th (z_w (z_par w (30 - n)) J1_)) := zK_r rfl k_
      have ok0_ : z_Ok G (z_par w (30 - n)) := z_Ok_par ok_
      have okt_ : z_Ok G (w_th (z_w (z_par w (30 - n)) J1_)) := z_Ok_th (z_Ok_zw ok0_)
      have fc2_ : z_fc (z_par w (30 - n)) n := z_fc_par fc_
      have fs2_ : z_fs (z_par w (30 - n)) (30 - n) := z_fs_par fs_
      have W2_ : Wi G X n (B + 1) (c + 1) (z_w (w_th (z_w (z_par w (30 - n)) J1_)) J_) := Wi_m okt_ (s_.trans hX_) (Inv_B i_ (by omega)) fc2_ fs2_ (show w_c w + 1 ≤ 1000 + (c + 1) by omega) (show w_z w + 6 ≤ 20000 + 6 * (c + 1) by omega)
      have m_ := t_M_load okt_ e2_
      have l_ := lh_load_2 ok_ k2_
      exact ⟨_, _, W2_, fun o w1 kk => lo_1 ok_ hX_ okt_ (s1_.trans hX_) W2_.1 W2_.2.1 (okj hG h6 (show 1 < 6 by omega)) rfl l_ (zK_r rfl m_) kk⟩
  · have k2_ : z_K G 132 [.ref 0, .int (X (z_n (Int32.ofNat (6 * k) + Int32.ofNat 1)))] w (.inl (some (.int x_))) (z_w (z_swp (z_par w (30 - n)) n (30 - n)) J1_) := zK_r rfl k_
    have ok0_ : z_Ok G (z_swp (z_par w (30 - n)) n (30 - n)) := z_Ok_swp (z_Ok_par ok_)
    have okp_ : z_Ok G (z_w (z_swp (z_par w (30 - n)) n (30 - n)) J1_) := z_Ok_zw ok0_
    have okt_ : z_Ok G (w_sJ (z_w (z_swp (z_par w (30 - n)) n (30 - n)) J1_) 250 0 x_.toInt64) := z_Ok_sJ9 okp_
    have fc2_ : z_fc (z_swp (z_par w (30 - n)) n (30 - n)) (30 - n) := z_fc_swp fs_.2
    have fs2_ : z_fs (z_swp (z_par w (30 - n)) n (30 - n)) (30 - (30 - n)) := by
      rw [show 30 - (30 - n) = n by omega]
      exact z_fs_swp fc_.2
    have W2_ : Wi G X (30 - n) (B + 1) (c + 1) (z_w (w_sJ (z_w (z_swp (z_par w (30 - n)) n (30 - n)) J1_) 250 0 x_.toInt64) J_) := Wi_m okt_ (s_.trans hX_) (Inv_B i_ (by omega)) fc2_ fs2_ (show w_c w ≤ 1000 + (c + 1) by omega) (show w_z w ≤ 20000 + 6 * (c + 1) by omega)
    have m_ := t_M_load okt_ e2_
    have l_ := lh_load_v ok_ okp_ k2_
    exact ⟨_, _, W2_, fun o w1 kk => lo_1 ok_ hX_ okt_ (s1_.trans hX_) W2_.1 W2_.2.1 (okj hG h6 (show 1 < 6 by omega)) rfl l_ (zK_r rfl m_) kk⟩
theorem lc_2 (W : Wi G X n B c w) (hG : G.1 ≤ 3072) (h6 : 6 * k + 6 ≤ G.1) (hB : 500 ≤ B ∧ B + 1 < 100000) : Pc G X B c k w 405 := by
  obtain ⟨r_, J_, e1_, e2_, t_, i_⟩ := op_parseError W.2.2.1
  have k0_ := t_F_parseError W.1 e1_
  have k_ : z_K G 133 [.ref 0] w (.inl (some (.int r_))) (z_w w (w_I w)) := zK_r rfl k0_
  obtain ⟨f1_, f2_, f3_⟩ := fin_0 W (Inx_r i_) (by omega)
  have m_ := t_M_parseError f1_ e2_
  have l_ := k_
  exact ⟨_, _, f3_, fun o w1 kk => lo_2 W.1 W.2.1 f1_ f2_ f3_.1 f3_.2.1 l_ (zK_r rfl m_) kk⟩
theorem lc_3 (W : Wi G X n B c w) (hG : G.1 ≤ 3072) (h6 : 6 * k + 6 ≤ G.1) (hB : 500 ≤ B ∧ B + 1 < 100000) : Pc G X B c k w 418 := by
  obtain ⟨r_, J_, e1_, e2_, t_, i_⟩ := op_errorPosition W.2.2.1
  have k0_ := t_F_errorPosition W.1 e1_
  have k_ : z_K G 134 [.ref 0] w (.inl (some (.int r_))) (z_w w (w_I w)) := zK_r rfl k0_
  obtain ⟨f1_, f2_, f3_⟩ := fin_0 W (Inx_r i_) (by omega)
  have m_ := t_M_errorPosition f1_ e2_
  have l_ := k_
  exact ⟨_, _, f3_, fun o w1 kk => lo_3 W.1 W.2.1 f1_ f2_ f3_.1 f3_.2.1 l_ (zK_r rfl m_) kk⟩
theorem lc_4 (W : Wi G X n B c w) (hG : G.1 ≤ 3072) (h6 : 6 * k + 6 ≤ G.1) (hB : 500 ≤ B ∧ B + 1 < 100000) : Pc G X B c k w 431 := by
  obtain ⟨r_, J_, e1_, e2_, t_, i_⟩ := op_buffered W.2.2.1
  have k0_ := t_F_buffered W.1 e1_
  have k_ : z_K G 135 [.ref 0] w (.inl (some (.int r_))) (z_w w (w_I w)) := zK_r rfl k0_
  obtain ⟨f1_, f2_, f3_⟩ := fin_0 W (Inx_r i_) (by omega)
  have m_ := t_M_buffered f1_ e2_
  have l_ := k_
  exact ⟨_, _, f3_, fun o w1 kk => lo_4 W.1 W.2.1 f1_ f2_ f3_.1 f3_.2.1 l_ (zK_r rfl m_) kk⟩
theorem lc_5 (W : Wi G X n B c w) (hG : G.1 ≤ 3072) (h6 : 6 * k + 6 ≤ G.1) (hB : 500 ≤ B ∧ B + 1 < 100000) : Pc G X B c k w 444 := by
  obtain ⟨r_, v_, J_, e1_, e2_, o_, i_⟩ := op_count W.2.2.1 (X (z_n (Int32.ofNat (6 * k) + Int32.ofNat 1)))
  cases r_ with
  | inr x_ =>
    have k0_ := t_F_count W.1 W.2.2.2.1 e1_
    have k_ : z_K G 136 [.ref 0, .int (X (z_n (Int32.ofNat (6 * k) + Int32.ofNat 1)))] w (.inl (some (.int x_))) (z_w w (w_I w)) := zK_r rfl k0_
    obtain ⟨f1_, f2_, f3_⟩ := fin_v W (Inx_r i_) (by omega) x_.toInt64
    have m_ := t_M_count f1_ e2_
    have l_ := lh_count_v W.1 (z_Ok_zw W.1) k_
    exact ⟨_, _, f3_, fun o w1 kk => lo_5 W.1 W.2.1 f1_ f2_ f3_.1 f3_.2.1 (okj hG h6 (show 1 < 6 by omega)) rfl l_ (zK_r rfl m_) kk⟩
  | inl e_ =>
    obtain ⟨f1_, f2_, f3_⟩ := fin_e W (Inx_r i_) (by omega)
    obtain ⟨c_, hm_, hj_⟩ := o_
    have m_ : (e_ = 0 ∧ c_ = 1) ∨ (e_ = 2 ∧ c_ = 2) := by simpa using hm_
    rcases m_ with ⟨rfl, rfl⟩ | ⟨rfl, rfl⟩
    · have k0_ := t_F_count W.1 W.2.2.2.1 e1_
      have k_ : z_K G 136 [.ref 0, .int (X (z_n (Int32.ofNat (6 * k) + Int32.ofNat 1)))] w (.inr 0) (w_th (z_w w (w_I w))) := zK_r rfl k0_
      have m_ := t_M_count f1_ e2_
      have l_ := lh_count_0 W.1 k_
      exact ⟨_, _, f3_, fun o w1 kk => lo_5 W.1 W.2.1 f1_ f2_ f3_.1 f3_.2.1 (okj hG h6 (show 1 < 6 by omega)) rfl l_ (zK_r rfl m_) kk⟩
    · have k0_ := t_F_count W.1 W.2.2.2.1 e1_
      have k_ : z_K G 136 [.ref 0, .int (X (z_n (Int32.ofNat (6 * k) + Int32.ofNat 1)))] w (.inr 2) (w_th (z_w w (w_I w))) := zK_r rfl k0_
      have m_ := t_M_count f1_ e2_
      have l_ := lh_count_2 W.1 k_
      exact ⟨_, _, f3_, fun o w1 kk => lo_5 W.1 W.2.1 f1_ f2_ f3_.1 f3_.2.1 (okj hG h6 (show 1 < 6 by omega)) rfl l_ (zK_r rfl m_) kk⟩
theorem lc_6 (W : Wi G X n B c w) (hG : G.1 ≤ 3072) (h6 : 6 * k + 6 ≤ G.1) (hB : 500 ≤ B ∧ B + 1 < 100000) : Pc G X B c k w 472 := by
  obtain ⟨r_, v_, J_, e1_, e2_, o_, i_⟩ := op_colour W.2.2.1 (X (z_n (Int32.ofNat (6 * k) + Int32.ofNat 1))) (X (z_n (Int32.ofNat (6 * k) + Int32.ofNat 2)))
  cases r_ with
  | inr x_ =>
    have k0_ := t_F_colour W.1 W.2.2.2.1 e1_
    have k_ : z_K G 137 [.ref 0, .int (X (z_n (Int32.ofNat (6 * k) + Int32.ofNat 1))), .int (X (z_n (Int32.ofNat (6 * k) + Int32.ofNat 2)))] w (.inl (some (.int x_))) (z_w w (w_I w)) := zK_r rfl k0_
    obtain ⟨f1_, f2_, f3_⟩ := fin_v W (Inx_r i_) (by omega) x_.toInt64
    have m_ := t_M_colour f1_ e2_
    have l_ := lh_colour_v W.1 (z_Ok_zw W.1) k_
    exact ⟨_, _, f3_, fun o w1 kk => lo_6 W.1 W.2.1 f1_ f2_ f3_.1 f3_.2.1 (okj hG h6 (show 1 < 6 by omega)) rfl (okj hG h6 (show 2 < 6 by omega)) rfl l_ (zK_r rfl m_) kk⟩
  | inl e_ =>
    obtain ⟨f1_, f2_, f3_⟩ := fin_e W (Inx_r i_) (by omega)
    obtain ⟨c_, hm_, hj_⟩ := o_
    have m_ : (e_ = 0 ∧ c_ = 1) ∨ (e_ = 1 ∧ c_ = 2) ∨ (e_ = 2 ∧ c_ = 3) := by simpa using hm_
    rcases m_ with ⟨rfl, rfl⟩ | ⟨rfl, rfl⟩ | ⟨rfl, rfl⟩
    · have k0_ := t_F_colour W.1 W.2.2.2.1 e1_
      have k_ : z_K G 137 [.ref 0, .int (X (z_n (Int32.ofNat (6 * k) + Int32.ofNat 1))), .int (X (z_n (Int32.ofNat (6 * k) + Int32.ofNat 2)))] w (.inr 0) (w_th (z_w w (w_I w))) := zK_r rfl k0_
      have m_ := t_M_colour f1_ e2_
      have l_ := lh_colour_0 W.1 k_
      exact ⟨_, _, f3_, fun o w1 kk => lo_6 W.1 W.2.1 f1_ f2_ f3_.1 f3_.2.1 (okj hG h6 (show 1 < 6 by omega)) rfl (okj hG h6 (show 2 < 6 by omega)) rfl l_ (zK_r rfl m_) kk⟩
    · have k0_ := t_F_colour W.1 W.2.2.2.1 e1_
      have k_ : z_K G 137 [.ref 0, .int (X (z_n (Int32.ofNat (6 * k) + Int32.ofNat 1))), .int (X (z_n (Int32.ofNat (6 * k) + Int32.ofNat 2)))] w (.inr 1) (w_th (z_w w (w_I w))) := zK_r rfl k0_
      have m_ := t_M_colour f1_ e2_
      have l_ := lh_colour_1 W.1 k_
      exact ⟨_, _, f3_, fun o w1 kk => lo_6 W.1 W.2.1 f1_ f2_ f3_.1 f3_.2.1 (okj hG h6 (show 1 < 6 by omega)) rfl (okj hG h6 (show 2 < 6 by omega)) rfl l_ (zK_r rfl m_) kk⟩
    · have k0_ := t_F_colour W.1 W.2.2.2.1 e1_
      have k_ : z_K G 137 [.ref 0, .int (X (z_n (Int32.ofNat (6 * k) + Int32.ofNat 1))), .int (X (z_n (Int32.ofNat (6 * k) + Int32.ofNat 2)))] w (.inr 2) (w_th (z_w w (w_I w))) := zK_r rfl k0_
      have m_ := t_M_colour f1_ e2_
      have l_ := lh_colour_2 W.1 k_
      exact ⟨_, _, f3_, fun o w1 kk => lo_6 W.1 W.2.1 f1_ f2_ f3_.1 f3_.2.1 (okj hG h6 (show 1 < 6 by omega)) rfl (okj hG h6 (show 2 < 6 by omega)) rfl l_ (zK_r rfl m_) kk⟩
theorem lc_7 (W : Wi G X n B c w) (hG : G.1 ≤ 3072) (h6 : 6 * k + 6 ≤ G.1) (hB : 500 ≤ B ∧ B + 1 < 100000) : Pc G X B c k w 512 := by
  obtain ⟨r_, v_, J_, e1_, e2_, o_, i_⟩ := op_nation W.2.2.1 (X (z_n (Int32.ofNat (6 * k) + Int32.ofNat 1))) (X (z_n (Int32.ofNat (6 * k) + Int32.ofNat 2)))
  cases r_ with
  | inr x_ =>
    have k0_ := t_F_nation W.1 W.2.2.2.1 e1_
    have k_ : z_K G 138 [.ref 0, .int (X (z_n (Int32.ofNat (6 * k) + Int32.ofNat 1))), .int (X (z_n (Int32.ofNat (6 * k) + Int32.ofNat 2)))] w (.inl (some (.int x_))) (z_w w (w_I w)) := zK_r rfl k0_
    obtain ⟨f1_, f2_, f3_⟩ := fin_v W (Inx_r i_) (by omega) x_.toInt64
    have m_ := t_M_nation f1_ e2_
    have l_ := lh_nation_v W.1 (z_Ok_zw W.1) k_
    exact ⟨_, _, f3_, fun o w1 kk => lo_7 W.1 W.2.1 f1_ f2_ f3_.1 f3_.2.1 (okj hG h6 (show 1 < 6 by omega)) rfl (okj hG h6 (show 2 < 6 by omega)) rfl l_ (zK_r rfl m_) kk⟩
  | inl e_ =>
    obtain ⟨f1_, f2_, f3_⟩ := fin_e W (Inx_r i_) (by omega)
    obtain ⟨c_, hm_, hj_⟩ := o_
    have m_ : (e_ = 0 ∧ c_ = 1) ∨ (e_ = 1 ∧ c_ = 2) ∨ (e_ = 2 ∧ c_ = 3) := by simpa using hm_
    rcases m_ with ⟨rfl, rfl⟩ | ⟨rfl, rfl⟩ | ⟨rfl, rfl⟩
    · have k0_ := t_F_nation W.1 W.2.2.2.1 e1_
      have k_ : z_K G 138 [.ref 0, .int (X (z_n (Int32.ofNat (6 * k) + Int32.ofNat 1))), .int (X (z_n (Int32.ofNat (6 * k) + Int32.ofNat 2)))] w (.inr 0) (w_th (z_w w (w_I w))) := zK_r rfl k0_
      have m_ := t_M_nation f1_ e2_
      have l_ := lh_nation_0 W.1 k_
      exact ⟨_, _, f3_, fun o w1 kk => lo_7 W.1 W.2.1 f1_ f2_ f3_.1 f3_.2.1 (okj hG h6 (show 1 < 6 by omega)) rfl (okj hG h6 (show 2 < 6 by omega)) rfl l_ (zK_r rfl m_) kk⟩
    · have k0_ := t_F_nation W.1 W.2.2.2.1 e1_
      have k_ : z_K G 138 [.ref 0, .int (X (z_n (Int32.ofNat (6 * k) + Int32.ofNat 1))), .int (X (z_n (Int32.ofNat (6 * k) + Int32.ofNat 2)))] w (.inr 1) (w_th (z_w w (w_I w))) := zK_r rfl k0_
      have m_ := t_M_nation f1_ e2_
      have l_ := lh_nation_1 W.1 k_
      exact ⟨_, _, f3_, fun o w1 kk => lo_7 W.1 W.2.1 f1_ f2_ f3_.1 f3_.2.1 (okj hG h6 (show 1 < 6 by omega)) rfl (okj hG h6 (show 2 < 6 by omega)) rfl l_ (zK_r rfl m_) kk⟩
    · have k0_ := t_F_nation W.1 W.2.2.2.1 e1_
      have k_ : z_K G 138 [.ref 0, .int (X (z_n (Int32.ofNat (6 * k) + Int32.ofNat 1))), .int (X (z_n (Int32.ofNat (6 * k) + Int32.ofNat 2)))] w (.inr 2) (w_th (z_w w (w_I w))) := zK_r rfl k0_
      have m_ := t_M_nation f1_ e2_
      have l_ := lh_nation_2 W.1 k_
      exact ⟨_, _, f3_, fun o w1 kk => lo_7 W.1 W.2.1 f1_ f2_ f3_.1 f3_.2.1 (okj hG h6 (show 1 < 6 by omega)) rfl (okj hG h6 (show 2 < 6 by omega)) rfl l_ (zK_r rfl m_) kk⟩
end LOOP
