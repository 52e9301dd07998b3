/-! undo, save, restore, load -/
section LDS
variable {n p B : Nat} {I J K : z_H} {L M : LL} {U : List LL} {V : Nat → Option LL}
theorem mq_undo2 (h2 : ∀ (i : Nat) (L : LL), U[i]? = some L → qM L B (fun k => I 244 (173 * i + k))) (gu : gU U) {m : Nat} (hm : U.length = m + 1) (hM : U[m]? = some M) : ∃ J, d_M_lays 244 (jn m * jn 173) 242 (jn 0) I = some J ∧ qM M B (J 242) ∧ ∀ b, ¬ b = 242 → J b = I b := by
  have l_ := gu.1
  obtain ⟨J_, e2_, f3_, q1_, q2_⟩ := mq_lays (I := I) (a := 244) (b := 242) (i := m * 173) (j := 0) (by omega) (by rw [zl_244]; omega) (by rw [zl_242]; omega) (by omega) (by omega)
  refine ⟨J_, by rw [jn_mul]; exact e2_, qM_cg (h2 m M hM) (gu.2 m M hM) (fun k hk => ?_), f3_⟩
  have k_ := q1_ k hk
  rw [Nat.zero_add] at k_
  rw [k_]
  show I 244 (m * 173 + k) = I 244 (173 * m + k)
  rw [Nat.mul_comm]
theorem Inv_h (h : Inv n B I) (hb : IvB J) (hp : IvP J) (ht : IvT J) (f : ∀ b, (n + 1 ≤ b ∧ b < n + 25) ∨ (55 ≤ b ∧ b < 239) → J b = I b) (f04 : J 0 4 = I 0 4) (f6 : J 241 6 = I 241 6) (f7 : J 241 7 = I 241 7) (f2 : ∀ k, k < 173 → J 242 k = I 242 k) (f4 : J 244 = I 244) (f5 : J 245 = I 245) (fh : J 246 = I 246) : Inv n B J := by
  obtain ⟨hn_, _, _, _, s_⟩ := h
  refine ⟨hn_, hb, hp, ht, ?_⟩
  rcases s_ with ⟨n1_, n2_, n3_, n4_, n5_⟩ | ⟨L_, U_, V_, l1_, l2_, g_, gu_, gv_, qs_, qm_, hu_, mu_, hv_, mv_⟩
  · exact Or.inl ⟨by rw [f04]; exact n1_, by rw [f6]; exact n2_, by rw [f 55 (by omega)]; exact n3_, by rw [f7]; exact n4_, fun k hk => ⟨by rw [f 238 (by omega)]; exact (n5_ k hk).1, by rw [fh]; exact (n5_ k hk).2⟩⟩
  · exact Or.inr ⟨L_, U_, V_, by rw [f04]; exact l1_, by rw [f6]; exact l2_, g_, gu_, gv_, qS_out qs_ (fun b b1 b2 => f b (by omega)) (fun b b1 b2 => f b (by omega)) g_, qM_cg qm_ g_ f2, hU_out hu_ gu_ (fun b b1 b2 => f b (by omega)) (fun b b1 b2 => f b (by omega)), mU_out mu_ f7 f4, hV_out hv_ gv_ (fun b b1 b2 => f b (by omega)) (fun b b1 b2 => f b (by omega)), mV_out mv_ f5 fh⟩
/-- buffer, errors and text of the fields -/
theorem Inv_bpt (h : Inv n B I) (f0 : ∀ k, k < 4 → J 0 k = I 0 k) (f : ∀ b, b = 1 ∨ b = 239 ∨ b = 240 ∨ b = 247 ∨ b = 249 → J b = I b) (f1 : ∀ k, 9 ≤ k → J 241 k = I 241 k) : IvB J ∧ IvP J ∧ IvT J := by
  obtain ⟨_, ⟨b_, b1_, b2_, b3_, b4_⟩, ⟨p1_, p2_⟩, ⟨w_, ⟨t1_, t2_, t3_⟩, ⟨t4_, t5_, t6_⟩⟩, _⟩ := h
  refine ⟨⟨b_, b1_, ?_, ?_, fun k hk => ?_⟩, ⟨?_, ?_⟩, ⟨w_, ⟨?_, t2_, fun i c hc => ?_⟩, ⟨?_, t5_, fun i c hc => ?_⟩⟩⟩
  · rw [f0 1 (by omega)]; exact b2_
  · rw [f1 9 (by omega)]; exact b3_
  · rw [f 1 (by omega), f 247 (by omega)]; exact b4_ k hk
  · rw [f0 2 (by omega), f1 10 (by omega)]; exact p1_
  · rw [f0 3 (by omega), f1 11 (by omega)]; exact p2_
  · rw [f 239 (by omega)]; exact t1_
  · rw [f 240 (by omega)]; exact t3_ i c hc
  · rw [f1 19 (by omega)]; exact t4_
  · rw [f 249 (by omega)]; exact t6_ i c hc
theorem op_undo (h : Inv n B I) : ∃ r J1 v J, d_F_undo n I = some (r, J1) ∧ d_M_undo J1 = some (v, J) ∧ opR [(0, 1)] r v J ∧ Inx n B I J1 J := by
  have h_ := h
  have n10_ : ¬ jn 1 = jn 0 := by decide
  obtain ⟨hn_, hb_, hp_, ht_, s_⟩ := h
  have no_ : I 55 0 = jn 0 → I 241 7 = jn 0 → ∃ r J1 v J, d_F_undo n I = some (r, J1) ∧ d_M_undo J1 = some (v, J) ∧ opR [(0, 1)] r v J ∧ Inx n B I J1 J := fun a_ b_ => by
    refine ⟨.inl 0, I, jn 0, ev_u2 I 241 0 (jn 1), by unfold d_F_undo; exact if_pos a_, ?_, ⟨1, by decide, ju_at ..⟩, Inx_k h_ _⟩
    unfold d_M_undo
    rw [if_neg (show ¬ jn 0 < I 241 7 by rw [b_]; decide), ob_s, m_may0, ob_s, if_pos rfl]
  rcases s_ with ⟨_, _, a_, b_, _⟩ | ⟨L_, U_, V_, a_, b_, g_, gu_, gv_, S_, M_, hu_, mu_, hv_, mv_⟩
  · exact no_ a_ b_
  · have hU0_ := hu_.1
    have mU0_ := mu_.1
    have lu_ := gu_.1
    cases hl_ : U_.length with
    | zero => exact no_ (by rw [hU0_, hl_]) (by rw [mU0_, hl_])
    | succ m =>
      have hm_ : m < U_.length := by omega
      have hM_ : U_[m]? = some U_[m] := List.getElem?_eq_getElem hm_
      have gM_ := gu_.2 m _ hM_
      obtain ⟨J1_, e1_, S1_, hu1_, c1_, o1_⟩ := sq_undo hn_ hu_ gu_ hl_ hM_
      have e241_ : J1_ 241 = I 241 := o1_ 241 (by omega) (by omega)
      have X_ : ∃ X, X = ev_u2 (ev_u2 J1_ 241 0 (jn 0)) 241 7 (jn m) := ⟨_, rfl⟩
      obtain ⟨X_, eX_⟩ := X_
      have xo_ : ∀ b, ¬ b = 241 → X_ b = J1_ b := fun b hb => by rw [eX_, ju_na hb, ju_na hb]
      obtain ⟨J2_, e2_, M2_, o2_⟩ := mq_undo2 (I := X_) (B := B) (fun i N hi => by rw [xo_ 244 (by omega), o1_ 244 (by omega) (by omega)]; exact mu_.2 i N hi) gu_ hl_ hM_
      have x7_ : X_ 241 7 = jn m := by rw [eX_, ju_at]
      have xk_ : ∀ k, ¬ k = 0 → ¬ k = 7 → X_ 241 k = I 241 k := fun k k0 k7 => by rw [eX_, ju_ne (fun q_ => k7 q_.2), ju_ne (fun q_ => k0 q_.2), e241_]
      have y_ : ∀ b, ¬ b = 241 → ¬ b = 242 → J2_ b = J1_ b := fun b b1 b2 => by rw [o2_ b b2, xo_ b b1]
      have yk_ : ∀ k, ¬ k = 0 → ¬ k = 7 → J2_ 241 k = I 241 k := fun k k0 k7 => by rw [o2_ 241 (by omega)]; exact xk_ k k0 k7
      obtain ⟨vb_, vp_, vt_⟩ := Inv_bpt (J := J2_) h_ (fun k _ => by rw [y_ 0 (by omega) (by omega), o1_ 0 (by omega) (by omega)]) (fun b hb => by rw [y_ b (by omega) (by omega), o1_ b (by omega) (by omega)]) (fun k hk => yk_ k (by omega) (by omega))
      refine ⟨.inr (jn m), J1_, jn m, J2_, ?_, ?_, ⟨rfl, ?_⟩, ⟨hn_, vb_, vp_, vt_, Or.inr ⟨U_[m], U_.take m, V_, ?_, ?_, gM_, gU_t gu_, gv_, ?_, M2_, ?_, ?_, ?_, ?_⟩⟩, by have s_ := evS; rw [y_ ev_S (by omega) (by omega), o1_ ev_S (by omega) (by omega)], by have s_ := evS; exact o1_ ev_S (by omega) (by omega)⟩
      · unfold d_F_undo
        rw [if_neg (show ¬ I 55 0 = jn 0 by rw [hU0_, jn_eq (by omega) (by omega)]; omega), e1_, ob_s, c1_]
      · unfold d_M_undo
        have p_ : J1_ 241 7 = jn (m + 1) := by rw [e241_, mU0_, hl_]
        have q_ : ev_u2 J1_ 241 0 (jn 0) 241 7 - jn 1 = jn m := by rw [ju_ne (by omega), p_, jn_sub (by omega), Nat.add_sub_cancel]
        rw [if_pos (show jn 0 < J1_ 241 7 by rw [p_, jn_lt (by omega) (by omega)]; omega), ob_s, m_mayY, ob_s, if_neg n10_]
        show (d_M_lays 244 (ev_u2 (ev_u2 J1_ 241 0 (jn 0)) 241 7 (ev_u2 J1_ 241 0 (jn 0) 241 7 - jn 1) 241 7 * jn 173) 242 (jn 0) (ev_u2 (ev_u2 J1_ 241 0 (jn 0)) 241 7 (ev_u2 J1_ 241 0 (jn 0) 241 7 - jn 1))).bind _ = _
        rw [q_, ← eX_, x7_, e2_, ob_s, o2_ 241 (by omega), x7_]
      · rw [o2_ 241 (by omega), eX_, ju_ne (by omega), ju_at]
      · rw [y_ 0 (by omega) (by omega), o1_ 0 (by omega) (by omega)]; exact a_
      · rw [yk_ 6 (by omega) (by omega)]; exact b_
      · exact qS_out S1_ (fun b b1 b2 => y_ b (by omega) (by omega)) (fun b b1 b2 => y_ b (by omega) (by omega)) gM_
      · exact hU_out hu1_ (gU_t gu_) (fun b b1 b2 => y_ b (by omega) (by omega)) (fun b b1 b2 => y_ b (by omega) (by omega))
      · exact mU_t mu_ (by omega) (by rw [o2_ 241 (by omega), x7_]) (by rw [y_ 244 (by omega) (by omega), o1_ 244 (by omega) (by omega)])
      · exact hV_out hv_ gv_ (fun b b1 b2 => by rw [y_ b (by omega) (by omega), o1_ b (by omega) (by omega)]) (fun b b1 b2 => by rw [y_ b (by omega) (by omega), o1_ b (by omega) (by omega)])
      · exact mV_out mv_ (by rw [y_ 245 (by omega) (by omega), o1_ 245 (by omega) (by omega)]) (by rw [y_ 246 (by omega) (by omega), o1_ 246 (by omega) (by omega)])
theorem f_sY {x : Int32} (h : jlt x 2) : d_F_needSlot x = some (.inr ()) := f_gY (by omega) rfl h
theorem f_sN {x : Int32} (h : ¬ jlt x 2) : d_F_needSlot x = some (.inl 1) := f_gN (by omega) rfl h
theorem m_sl {x : Int32} : d_M_isSlot x = some (if ¬ x < jn 0 ∧ ¬ jn 1 < x then jn 1 else jn 0) := by
  unfold d_M_isSlot
  rw [rp_rng, ob_s]
  by_cases a_ : ¬ x < jn 0 ∧ ¬ jn 1 < x
  · rw [if_pos a_, if_pos (Or.inr rfl)]
  · rw [if_neg a_, if_pos (Or.inl rfl)]
theorem m_s2 {x : Int32} : (¬ x < jn 0 ∧ ¬ jn 1 < x) ↔ jlt x 2 := by
  have e_ : jn 2 - jn 1 = jn 1 := by decide
  have k_ := jlt_r (x := x) (c := 2) (by omega)
  rw [e_] at k_
  exact k_
theorem m_sY {x : Int32} (h : jlt x 2) : d_M_isSlot x = some (jn 1) := by rw [m_sl, if_pos (m_s2.mpr h)]
theorem m_sN {x : Int32} (h : ¬ jlt x 2) : d_M_isSlot x = some (jn 0) := by rw [m_sl, if_neg (fun q_ => h (m_s2.mp q_))]
theorem op_save (h : Inv n B I) (x1 : Int32) : ∃ r J1 v J, d_F_save n x1 I = some (r, J1) ∧ d_M_save x1 J1 = some (v, J) ∧ opR [(0, 1), (1, 2)] r v J ∧ Inx n B I J1 J := by
  have h_ := h
  have n10_ : ¬ jn 1 = jn 0 := by decide
  obtain ⟨hn_, hb_, hp_, ht_, s_⟩ := h
  rcases s_ with ⟨a_, b_, _⟩ | ⟨L_, U_, V_, a_, b_, g_, gu_, gv_, S_, M_, hu_, mu_, hv_, mv_⟩
  · exact ⟨.inl 0, I, jn 0, ev_u2 I 241 0 (jn 1), by simp only [d_F_save, f_t0 a_, ob_s], by simp only [d_M_save, m_sl, b_, m_two0, ob_s, eq_self, if_true], ⟨1, by decide, ju_at ..⟩, Inx_k h_ _⟩
  by_cases hx_ : jlt x1 2
  rotate_left
  · exact ⟨.inl 1, I, jn 0, ev_u2 I 241 0 (jn 2), by simp only [d_F_save, f_t1 a_, f_sN hx_, ob_s], by simp only [d_M_save, m_sN hx_, b_, m_two1, ob_s, eq_self, if_true], ⟨2, by decide, ju_at ..⟩, Inx_k h_ _⟩
  have hx2_ := hx_
  obtain ⟨x_, hxx_, rfl⟩ := hx_
  obtain ⟨J1_, e1_, hv1_, o1_⟩ := sq_save S_ g_ hn_ hv_ gv_ hxx_
  have e241_ : J1_ 241 = I 241 := o1_ 241 (by omega)
  have M0_ : qM L_ B (ev_u2 J1_ 241 0 (jn 0) 242) := by rw [ju_na (by omega), o1_ 242 (by omega)]; exact M_
  have mv0_ : mV V_ B (ev_u2 J1_ 241 0 (jn 0)) := mV_out mv_ (by rw [ju_na (by omega), o1_ 245 (by omega)]) (by rw [ju_na (by omega), o1_ 246 (by omega)])
  obtain ⟨J2_, e2_, mv2_, o2_⟩ := mq_save M0_ g_ mv0_ gv_ hxx_
  have y_ : ∀ b, ¬ b = 241 → ¬ b = 245 → ¬ b = 246 → ev_u2 J2_ 246 x_ (jn 1) b = J1_ b := fun b b1 b2 b3 => by rw [ju_na b3, o2_ b b2, ju_na b1]
  have yk_ : ∀ k, ¬ k = 0 → ev_u2 J2_ 246 x_ (jn 1) 241 k = I 241 k := fun k hk => by rw [ju_na (by omega), o2_ 241 (by omega), ju_ne (fun q_ => hk q_.2), e241_]
  have y2_ : ∀ b, ¬ b = 241 → ¬ b = 245 → ¬ b = 246 → b < 202 ∨ 239 ≤ b → ev_u2 J2_ 246 x_ (jn 1) b = I b := fun b b1 b2 b3 b4 => by rw [y_ b b1 b2 b3, o1_ b b4]
  obtain ⟨vb_, vp_, vt_⟩ := Inv_bpt (J := ev_u2 J2_ 246 x_ (jn 1)) h_ (fun k _ => by rw [y2_ 0 (by omega) (by omega) (by omega) (by omega)]) (fun b hb => y2_ b (by omega) (by omega) (by omega) (by omega)) (fun k hk => yk_ k (by omega))
  have s0_ : J1_ (n + 7) 0 = qs L_ 0 := by rw [o1_ (n + 7) (by omega)]; exact S_.1 0 (by omega)
  have m0_ : ev_u2 J2_ 246 x_ (jn 1) 242 0 = qs L_ 0 := by rw [y2_ 242 (by omega) (by omega) (by omega) (by omega)]; exact M_.1 0 (by omega)
  refine ⟨.inr (qs L_ 0), J1_, qs L_ 0, ev_u2 J2_ 246 x_ (jn 1), ?_, ?_, ⟨rfl, ?_⟩, ⟨hn_, vb_, vp_, vt_, Or.inr ⟨L_, U_, sV V_ x_ L_, ?_, ?_, g_, gu_, gV_s gv_ g_, ?_, ?_, ?_, ?_, ?_, mv2_⟩⟩, by have s_ := evS; exact y2_ ev_S (by omega) (by omega) (by omega) (by omega), by have s_ := evS; exact o1_ ev_S (by omega)⟩
  · simp only [d_F_save, f_t1 a_, f_sY hx2_, e1_, s0_, ob_s]
  · have i2_ : z_in (jn x_) 2 := by rw [jn_in (by omega)]; omega
    have zn_ : z_n (jn x_) = x_ := jn_n (by omega)
    have z0_ : z_n (jn 0) = 0 := jn_n (by omega)
    simp only [d_M_save, m_sY hx2_, e241_, b_, m_twoY, e2_, if_pos i2_, zn_, z0_, jbool1, if_pos (in173 (show 0 < 173 by omega)), m0_, ob_s, n10_, if_false]
  · rw [ju_na (by omega), o2_ 241 (by omega), ju_at]
  · rw [y2_ 0 (by omega) (by omega) (by omega) (by omega)]; exact a_
  · rw [yk_ 6 (by omega)]; exact b_
  · exact qS_out S_ (fun b b1 b2 => y2_ b (by omega) (by omega) (by omega) (by omega)) (fun b b1 b2 => y2_ b (by omega) (by omega) (by omega) (by omega)) g_
  · rw [y2_ 242 (by omega) (by omega) (by omega) (by omega)]; exact M_
  · exact hU_out hu_ gu_ (fun b b1 b2 => y2_ b (by omega) (by omega) (by omega) (by omega)) (fun b b1 b2 => y2_ b (by omega) (by omega) (by omega) (by omega))
  · exact mU_out mu_ (yk_ 7 (by omega)) (y2_ 244 (by omega) (by omega) (by omega) (by omega))
  · exact hV_out hv1_ (gV_s gv_ g_) (fun b b1 b2 => y_ b (by omega) (by omega) (by omega)) (fun b b1 b2 => y_ b (by omega) (by omega) (by omega))
theorem op_restore (h : Inv n B I) (x1 : Int32) : ∃ r J1 v J, d_F_restore n x1 I = some (r, J1) ∧ d_M_restore x1 J1 = some (v, J) ∧ opR [(1, 1), (0, 2)] r v J ∧ Inx n B I J1 J := by
  have h_ := h
  have n10_ : ¬ jn 1 = jn 0 := by decide
  obtain ⟨hn_, hb_, hp_, ht_, s_⟩ := h
  by_cases hx_ : jlt x1 2
  rotate_left
  · exact ⟨.inl 1, I, jn 0, ev_u2 I 241 0 (jn 1), by simp only [d_F_restore, f_sN hx_, ob_s], by simp only [d_M_restore, m_sN hx_, m_two0, ob_s, eq_self, if_true], ⟨1, by decide, ju_at ..⟩, Inx_k h_ _⟩
  have hx2_ := hx_
  obtain ⟨x_, hxx_, rfl⟩ := hx_
  have i2_ : z_in (jn x_) 2 := by rw [jn_in (by omega)]; omega
  have zn_ : z_n (jn x_) = x_ := jn_n (by omega)
  have no_ : I 238 x_ = jn 0 → I 246 x_ = jn 0 → ∃ r J1 v J, d_F_restore n (jn x_) I = some (r, J1) ∧ d_M_restore (jn x_) J1 = some (v, J) ∧ opR [(1, 1), (0, 2)] r v J ∧ Inx n B I J1 J := fun a_ b_ => ⟨.inl 0, I, jn 0, ev_u2 I 241 0 (jn 2), by simp only [d_F_restore, f_sY hx2_, if_pos i2_, zn_, a_, ob_s, if_true], by simp only [d_M_restore, m_sY hx2_, if_pos i2_, zn_, b_, m_two1, ob_s, eq_self, if_true, n10_, if_false], ⟨2, by decide, ju_at ..⟩, Inx_k h_ _⟩
  rcases s_ with ⟨_, _, _, _, z_⟩ | ⟨L_, U_, V_, a_, b_, g_, gu_, gv_, S_, M_, hu_, mu_, hv_, mv_⟩
  · exact no_ (z_ x_ hxx_).1 (z_ x_ hxx_).2
  · cases hV_ : V_ x_ with
    | none => exact no_ (by rw [(hv_ x_ hxx_).1, hV_]; rfl) (by rw [(mv_ x_ hxx_).1, hV_]; rfl)
    | some M =>
      have gM_ := gv_ x_ M hV_
      have c_ : ¬ I 238 x_ = jn 0 := by rw [(hv_ x_ hxx_).1, hV_, if_pos (show (some M).isSome = true from rfl)]; exact n10_
      have d_ : ¬ I 246 x_ = jn 0 := by rw [(mv_ x_ hxx_).1, hV_, if_pos (show (some M).isSome = true from rfl)]; exact n10_
      obtain ⟨J1_, e1_, S1_, hu1_, o1_⟩ := sq_fetch hn_ hv_ gv_ hxx_ hV_
      have e241_ : J1_ 241 = I 241 := o1_ 241 (by omega) (by omega)
      have e246_ : J1_ 246 = I 246 := o1_ 246 (by omega) (by omega)
      have mv0_ : mV V_ B (ev_u2 J1_ 241 0 (jn 0)) := mV_out mv_ (by rw [ju_na (by omega), o1_ 245 (by omega) (by omega)]) (by rw [ju_na (by omega), e246_])
      obtain ⟨J2_, e2_, M2_, o2_⟩ := mq_fetch mv0_ gv_ hxx_ hV_
      have y_ : ∀ b, ¬ b = 241 → ¬ b = 242 → ev_u2 J2_ 241 7 (jn 0) b = J1_ b := fun b b1 b2 => by rw [ju_na b1, o2_ b b2, ju_na b1]
      have yk_ : ∀ k, ¬ k = 0 → ¬ k = 7 → ev_u2 J2_ 241 7 (jn 0) 241 k = I 241 k := fun k k0 k7 => by rw [ju_ne (fun q_ => k7 q_.2), o2_ 241 (by omega), ju_ne (fun q_ => k0 q_.2), e241_]
      have y2_ : ∀ b, ¬ b = 241 → ¬ b = 242 → ¬ b = 55 → b < n + 7 ∨ n + 7 + 18 ≤ b → ev_u2 J2_ 241 7 (jn 0) b = I b := fun b b1 b2 b3 b4 => by rw [y_ b b1 b2, o1_ b b3 b4]
      obtain ⟨vb_, vp_, vt_⟩ := Inv_bpt (J := ev_u2 J2_ 241 7 (jn 0)) h_ (fun k _ => by rw [y2_ 0 (by omega) (by omega) (by omega) (by omega)]) (fun b hb => y2_ b (by omega) (by omega) (by omega) (by omega)) (fun k hk => yk_ k (by omega) (by omega))
      have s0_ : J1_ (n + 7) 0 = qs M 0 := S1_.1 0 (by omega)
      have M3_ : qM M B (ev_u2 J2_ 241 7 (jn 0) 242) := by rw [ju_na (by omega)]; exact M2_
      have m0_ : ev_u2 J2_ 241 7 (jn 0) 242 0 = qs M 0 := M3_.1 0 (by omega)
      refine ⟨.inr (qs M 0), J1_, qs M 0, ev_u2 J2_ 241 7 (jn 0), ?_, ?_, ⟨rfl, ?_⟩, ⟨hn_, vb_, vp_, vt_, Or.inr ⟨M, [], V_, ?_, ?_, gM_, ⟨Nat.zero_le _, fun i N hi => by cases hi⟩, gv_, ?_, M3_, ?_, ⟨ju_at .., fun i N hi => by cases hi⟩, ?_, ?_⟩⟩, by have s_ := evS; exact y2_ ev_S (by omega) (by omega) (by omega) (by omega), by have s_ := evS; exact o1_ ev_S (by omega) (by omega)⟩
      · simp only [d_F_restore, f_sY hx2_, if_pos i2_, zn_, c_, e1_, s0_, ob_s, if_false]
      · have z0_ : z_n (jn 0) = 0 := jn_n (by omega)
        simp only [d_M_restore, m_sY hx2_, if_pos i2_, zn_, e246_, d_, m_twoY, e2_, z0_, if_pos (in173 (show 0 < 173 by omega)), m0_, ob_s, n10_, if_false]
      · rw [ju_ne (by omega), o2_ 241 (by omega), ju_at]
      · rw [y2_ 0 (by omega) (by omega) (by omega) (by omega)]; exact a_
      · rw [yk_ 6 (by omega) (by omega)]; exact b_
      · exact qS_out S1_ (fun b b1 b2 => y_ b (by omega) (by omega)) (fun b b1 b2 => y_ b (by omega) (by omega)) gM_
      · exact hU_out hu1_ ⟨Nat.zero_le _, fun i N hi => by cases hi⟩ (fun b b1 b2 => y_ b (by omega) (by omega)) (fun b b1 b2 => y_ b (by omega) (by omega))
      · exact hV_out hv_ gv_ (fun b b1 b2 => y2_ b (by omega) (by omega) (by omega) (by omega)) (fun b b1 b2 => y2_ b (by omega) (by omega) (by omega) (by omega))
      · exact mV_out mv_ (y2_ 245 (by omega) (by omega) (by omega) (by omega)) (y2_ 246 (by omega) (by omega) (by omega) (by omega))
end LDS
