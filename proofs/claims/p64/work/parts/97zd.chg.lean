/-! what the class's changes do, of a laundry that was told -/
def cO (I J : z_H) : Prop := ∀ b, 241 ≤ b → J b = I b
section CCH
variable {n : Nat} {L L2 : LL} {U : List LL} {V : Nat → Option LL} {I J1 J2 : z_H}
theorem cIv_chg (h : cIv n L U V I) (k : kC n U L I J1) (w : WS L2 J1 J2 (n + 7) (n + 1)) (g2 : qG L2) : cIv n L2 (kU U L) V J2 ∧ cO I J2 := by
  obtain ⟨hn_, a_, g_, gu_, gv_, S_, hu_, hv_⟩ := h
  have o_ : ∀ b, b < n + 7 ∨ n + 25 ≤ b → b < 55 ∨ 201 ≤ b → J2 b = I b := fun b q1 q2 => (w.2 b q1).trans (k.2 b q2)
  refine ⟨⟨hn_, by rw [o_ 0 (by omega) (by omega)]; exact a_, g2, gU_k gu_ g_, gv_, w.1, hU_out k.1 (gU_k gu_ g_) (fun b b1 b2 => w.2 b (by omega)) (fun b b1 b2 => w.2 b (by omega)), hV_out hv_ gv_ (fun b b1 b2 => o_ b (by omega) (by omega)) (fun b b1 b2 => o_ b (by omega) (by omega))⟩, fun b hb => o_ b (by omega) (by omega)⟩
theorem cc_put (h : cIv n L U V I) {k t : Nat} (hk_ : k < qF L) (ht_ : t < qT L) (y_ : yput L k t = jn 0) : ∃ J, d_F_put n (jn k) (jn t) I = some (.inr (jn ((qt L t).length + 1)), J) ∧ cIv n (Lput L k t) (kU U L) V J ∧ cO I J := by
  have h_ := h
  obtain ⟨hn_, a_, g_, gu_, gv_, S_, hu_, hv_⟩ := h
  have n10_ : ¬ jn 1 = jn 0 := by decide
  have F_ := g_.1
  obtain ⟨p1_, p2_⟩ := yput_0 y_
  obtain ⟨J1_, e1_, S1_, k1_⟩ := chgC hn_ g_ S_ hu_ gu_
  obtain ⟨J2_, e2_, w_⟩ := sq_moveTub S1_ g_ (by omega) hk_ ht_ p1_ p2_
  obtain ⟨i_, o_⟩ := cIv_chg h_ k1_ w_ (qG_put g_ hk_ ht_ p1_ p2_)
  refine ⟨J2_, ?_, i_, o_⟩
  simp only [d_F_put, f_fY a_ S_ g_ (jltj hk_), f_uY a_ S_ g_ (jltj ht_), sq_put S_ g_ hk_ ht_, y_, f_aY, e1_, e2_, ob_s, eq_self, if_true, if_false, n10_, not_false_eq_true]
theorem cc_wash (h : cIv n L U V I) {t : Nat} {x2 : Int32} (ht_ : t < qT L) (hz_ : hOk x2) (y_ : ywash L t x2 = jn 0) : ∃ J, d_F_wash n (jn t) x2 I = some (.inr (ystn L t (yrunt L t x2)), J) ∧ cIv n (Lwsh L t x2) (kU U L) V J ∧ cO I J := by
  have h_ := h
  obtain ⟨hn_, a_, g_, gu_, gv_, S_, hu_, hv_⟩ := h
  have n10_ : ¬ jn 1 = jn 0 := by decide
  obtain ⟨J1_, e1_, S1_, k1_⟩ := chgC hn_ g_ S_ hu_ gu_
  obtain ⟨J2_, e2_, w_⟩ := sq_washTub S1_ g_ ht_ (hOk_4 hz_)
  obtain ⟨i_, o_⟩ := cIv_chg h_ k1_ w_ (qG_wsh g_ ht_ (hOk_4 hz_))
  refine ⟨J2_, ?_, i_, o_⟩
  simp only [d_F_wash, f_uY a_ S_ g_ (jltj ht_), f_hY hz_, sq_wash S_ g_ ht_, y_, f_aY, e1_, e2_, ob_s, eq_self, if_true, if_false, n10_, not_false_eq_true]
theorem cc_hangAll (h : cIv n L U V I) : ∃ J, d_F_hangAll n I = some (.inr ((Lhal L (qF L)).1), J) ∧ cIv n (Lhal L (qF L)).2 (kU U L) V J ∧ cO I J := by
  have h_ := h
  obtain ⟨hn_, a_, g_, gu_, gv_, S_, hu_, hv_⟩ := h
  have n10_ : ¬ jn 1 = jn 0 := by decide
  obtain ⟨J1_, e1_, S1_, k1_⟩ := chgC hn_ g_ S_ hu_ gu_
  obtain ⟨J2_, e2_, w_, gg_⟩ := sq_hall S1_ g_
  obtain ⟨i_, o_⟩ := cIv_chg h_ k1_ w_ gg_
  refine ⟨J2_, ?_, i_, o_⟩
  simp only [d_F_hangAll, f_t1 a_, e1_, e2_, ob_s, eq_self, if_true, if_false, n10_, not_false_eq_true]
theorem cc_pass (h : cIv n L U V I) {k : Nat} (hk_ : 1 ≤ k ∧ k ≤ 50) : ∃ J, d_F_pass n (jn k) I = some (.inr (qs (Lpss L k) 5 - qs L 5), J) ∧ cIv n (Lpss L k) (kU U L) V J ∧ cO I J := by
  have h_ := h
  obtain ⟨hn_, a_, g_, gu_, gv_, S_, hu_, hv_⟩ := h
  have n10_ : ¬ jn 1 = jn 0 := by decide
  have hy_ : ¬ jn k < jn 1 ∧ ¬ jn 50 < jn k := ⟨by rw [jn_lt (by omega) (by omega)]; omega, by rw [jn_lt (by omega) (by omega)]; omega⟩
  obtain ⟨J1_, e1_, S1_, k1_⟩ := chgC hn_ g_ S_ hu_ gu_
  obtain ⟨J2_, e2_, w_⟩ := sq_pass S1_ g_ (by omega) (show k < 1000 by omega)
  obtain ⟨i_, o_⟩ := cIv_chg h_ k1_ w_ (qG_pss g_ k)
  refine ⟨J2_, ?_, i_, o_⟩
  simp only [d_F_pass, f_t1 a_, f_rYi hy_, e1_, e2_, ob_s, eq_self, if_true, if_false, n10_, not_false_eq_true]
theorem cc_iron (h : cIv n L U V I) {k : Nat} {x2 : Int32} (hk_ : k < qF L) (hz_ : hOk x2) (y_ : yiron L k x2 = jn 0) : ∃ J, d_F_iron n (jn k) x2 I = some (.inr (qf (Liron L k x2) k 5), J) ∧ cIv n (Liron L k x2) (kU U L) V J ∧ cO I J := by
  have h_ := h
  obtain ⟨hn_, a_, g_, gu_, gv_, S_, hu_, hv_⟩ := h
  have n10_ : ¬ jn 1 = jn 0 := by decide
  have F_ := g_.1
  obtain ⟨J1_, e1_, S1_, k1_⟩ := chgC hn_ g_ S_ hu_ gu_
  obtain ⟨J2_, e2_, w_⟩ := sq_irons S1_ g_ (by omega) hk_ x2
  obtain ⟨i_, o_⟩ := cIv_chg h_ k1_ w_ (qG_iron g_ hk_ (hOk_4 hz_))
  have j5_ : J2_ (n + 7 + 2 + k) 5 = qf (Liron L k x2) k 5 := sq_f w_.1 (show k < qF (Liron L k x2) from hk_) (by omega)
  refine ⟨J2_, ?_, i_, o_⟩
  simp only [d_F_iron, f_fY a_ S_ g_ (jltj hk_), f_hY hz_, if_pos (sq_in g_ hk_), sq_n g_ hk_, sq_iron S_ hk_, y_, f_aY, j5_, e1_, e2_, ob_s, eq_self, if_true, if_false, n10_, not_false_eq_true]
theorem cc_bleach (h : cIv n L U V I) {k : Nat} (hk_ : k < qF L) (y_ : yble L k = jn 0) : ∃ J, d_F_bleach n (jn k) I = some (.inr (ystc L k), J) ∧ cIv n (Lble L k) (kU U L) V J ∧ cO I J := by
  have h_ := h
  obtain ⟨hn_, a_, g_, gu_, gv_, S_, hu_, hv_⟩ := h
  have n10_ : ¬ jn 1 = jn 0 := by decide
  have F_ := g_.1
  obtain ⟨J1_, e1_, S1_, k1_⟩ := chgC hn_ g_ S_ hu_ gu_
  obtain ⟨J2_, e2_, w_⟩ := sq_bleach S1_ g_ (by omega) hk_
  obtain ⟨i_, o_⟩ := cIv_chg h_ k1_ w_ (qG_ble g_ hk_ (yble_0 y_))
  refine ⟨J2_, ?_, i_, o_⟩
  simp only [d_F_bleach, f_fY a_ S_ g_ (jltj hk_), if_pos (sq_in g_ hk_), sq_n g_ hk_, sq_ble S_ g_ hk_, y_, f_aY, e1_, e2_, ob_s, eq_self, if_true, if_false, n10_, not_false_eq_true]
theorem cc_handOver (h : cIv n L U V I) {k : Nat} (hk_ : k < qN L) (y_ : jn 0 < yof L k ∧ ¬ qn L k 3 = jn 1 ∧ ycul L k = jg 1) : ∃ J, d_F_handOver n (jn k) I = some (.inr (ypd L k), J) ∧ cIv n (Lhov L k) (kU U L) V J ∧ cO I J := by
  have h_ := h
  obtain ⟨hn_, a_, g_, gu_, gv_, S_, hu_, hv_⟩ := h
  have n10_ : ¬ jn 1 = jn 0 := by decide
  have h0_ := hov_0 g_ y_.2.2
  obtain ⟨J1_, e1_, S1_, k1_⟩ := chgC hn_ g_ S_ hu_ gu_
  obtain ⟨J2_, e2_, w_⟩ := sq_hov S1_ g_ hk_ y_.2.1 h0_
  obtain ⟨i_, o_⟩ := cIv_chg h_ k1_ w_ (qG_hov g_ hk_ h0_)
  refine ⟨J2_, ?_, i_, o_⟩
  simp only [d_F_handOver, f_nY a_ S_ g_ (jltj hk_), sq_canHand S_ g_ hk_, if_pos y_, f_aY, e1_, e2_, ob_s, eq_self, if_true, if_false, n10_, not_false_eq_true]
theorem cc_setWind (h : cIv n L U V I) {k : Nat} (hk_ : k < 10) : ∃ J, d_F_setWind n (jn k) I = some (.inr (qs L 1), J) ∧ cIv n (ls L 1 (jn k)) (kU U L) V J ∧ cO I J := by
  have h_ := h
  obtain ⟨hn_, a_, g_, gu_, gv_, S_, hu_, hv_⟩ := h
  have n10_ : ¬ jn 1 = jn 0 := by decide
  have hy_ : ¬ jn k < jn 0 ∧ ¬ jn 9 < jn k := ⟨by rw [jn_lt (by omega) (by omega)]; omega, by rw [jn_lt (by omega) (by omega)]; omega⟩
  obtain ⟨J1_, e1_, S1_, k1_⟩ := chgC hn_ g_ S_ hu_ gu_
  have w_ : WS (ls L 1 (jn k)) J1_ (ev_u2 J1_ (n + 7) 1 (jn k)) (n + 7) (n + 1) := sq_wind S1_ g_ (by omega) (jn k)
  obtain ⟨i_, o_⟩ := cIv_chg h_ k1_ w_ (qG_w g_ (jltj hk_))
  have j1_ : J1_ (n + 7) 1 = qs L 1 := S1_.1 1 (by omega)
  refine ⟨_, ?_, i_, o_⟩
  simp only [d_F_setWind, f_t1 a_, f_rYi hy_, j1_, e1_, ob_s, eq_self, if_true, if_false, n10_, not_false_eq_true]
theorem cc_save (h : cIv n L U V I) {x : Nat} (hx_ : x < 2) : ∃ J, d_F_save n (jn x) I = some (.inr (qs L 0), J) ∧ cIv n L U (sV V x L) J ∧ cO I J := by
  obtain ⟨hn_, a_, g_, gu_, gv_, S_, hu_, hv_⟩ := h
  obtain ⟨J1_, e1_, hv1_, o1_⟩ := sq_save S_ g_ hn_ hv_ gv_ hx_
  have s0_ : J1_ (n + 7) 0 = qs L 0 := by rw [o1_ (n + 7) (by omega)]; exact S_.1 0 (by omega)
  refine ⟨J1_, ?_, ⟨hn_, by rw [o1_ 0 (by omega)]; exact a_, g_, gu_, gV_s gv_ g_, qS_out S_ (fun b b1 b2 => o1_ b (by omega)) (fun b b1 b2 => o1_ b (by omega)) g_, hU_out hu_ gu_ (fun b b1 b2 => o1_ b (by omega)) (fun b b1 b2 => o1_ b (by omega)), hv1_⟩, fun b hb => o1_ b (by omega)⟩
  simp only [d_F_save, f_t1 a_, f_sY (jltj hx_), e1_, s0_, ob_s]
theorem cc_restore (h : cIv n L U V I) {x : Nat} {M : LL} (hx_ : x < 2) (hV_ : V x = some M) : ∃ J, d_F_restore n (jn x) I = some (.inr (qs M 0), J) ∧ cIv n M [] V J ∧ cO I J := by
  obtain ⟨hn_, a_, g_, gu_, gv_, S_, hu_, hv_⟩ := h
  have n10_ : ¬ jn 1 = jn 0 := by decide
  have i2_ : z_in (jn x) 2 := by rw [jn_in (by omega)]; omega
  have zn_ : z_n (jn x) = x := jn_n (by omega)
  have gM_ := gv_ x M hV_
  have c_ : ¬ I 238 x = jn 0 := by rw [(hv_ x hx_).1, hV_, if_pos (show (some M).isSome = true from rfl)]; exact n10_
  obtain ⟨J1_, e1_, S1_, hu1_, o1_⟩ := sq_fetch hn_ hv_ gv_ hx_ hV_
  have s0_ : J1_ (n + 7) 0 = qs M 0 := S1_.1 0 (by omega)
  refine ⟨J1_, ?_, ⟨hn_, by rw [o1_ 0 (by omega) (by omega)]; exact a_, gM_, ⟨Nat.zero_le _, fun i N hi => by cases hi⟩, gv_, S1_, hu1_, hV_out hv_ gv_ (fun b b1 b2 => o1_ b (by omega) (by omega)) (fun b b1 b2 => o1_ b (by omega) (by omega))⟩, fun b hb => o1_ b (by omega) (by omega)⟩
  simp only [d_F_restore, f_sY (jltj hx_), if_pos i2_, zn_, c_, e1_, s0_, ob_s, if_false]
theorem cr_undoable (h : cIv n L U V I) : d_F_undoable I = some (jn U.length) := by
  have e_ : I 55 0 = jn U.length := h.2.2.2.2.2.2.1.1
  show some (I 55 0) = _
  rw [e_]
end CCH
