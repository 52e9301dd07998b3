/-! the calls that change a laundry, on both sides (wip/gen/zo3.py) -/
section CHG
variable {n B : Nat} {I J J1 J2 : z_H} {L L2 : LL} {U : List LL} {V : Nat → Option LL}
/-- what keeping leaves -/
def kC (n : Nat) (U : List LL) (L : LL) (I J : z_H) : Prop := hU (kU U L) J (n + 1) ∧ ∀ b, b < 55 ∨ 201 ≤ b → J b = I b
theorem chgC (hn : n = 2 ∨ n = 28) (g : qG L) (S : qS L I (n + 7) (n + 1)) (hu : hU U I (n + 1)) (gu : gU U) : ∃ J, d_H_keep (n + 7) I = some J ∧ qS L J (n + 7) (n + 1) ∧ kC n U L I J := by
  obtain ⟨J_, e_, h1_, h2_⟩ := sq_keep S g hn hu gu
  exact ⟨J_, e_, qS_out S (fun b b1 b2 => h2_ b (by omega)) (fun b b1 b2 => h2_ b (by omega)) g, h1_, h2_⟩
theorem chgM (h : Inv n B I) (a : I 0 4 = jn 1) (b : I 241 6 = jn 1) (g : qG L) (gu : gU U) (gv : gV V) (M : qM L B (I 242)) (mu : mU U B I) (hv : hV V I (n + 1)) (mv : mV V B I) (k : kC n U L I J1) (w : WS L2 J1 J2 (n + 7) (n + 1)) (g2 : qG L2) : J2 241 = I 241 ∧ J2 242 = I 242 ∧ ∃ K1, d_M_remembers (ev_u2 J2 241 0 (jn 0)) = some K1 ∧ qM L B (K1 242) ∧ ∀ B2 K2, B ≤ B2 → WM L2 B2 K1 K2 → K2 241 0 = jn 0 ∧ Inx n B2 I J2 K2 := by
  have s_ := evS
  obtain ⟨hn_, ⟨b_, b1_, b2_, b3_, b4_⟩, ⟨p1_, p2_⟩, ⟨w_, ⟨t1_, t2_, t3_⟩, ⟨t4_, t5_, t6_⟩⟩, _⟩ := h
  have o_ : ∀ b, b < n + 7 ∨ n + 25 ≤ b → b < 55 ∨ 201 ≤ b → J2 b = I b := fun b q1 q2 => (w.2 b q1).trans (k.2 b q2)
  have e1_ : J2 241 = I 241 := o_ 241 (by omega) (by omega)
  have e2_ : J2 242 = I 242 := o_ 242 (by omega) (by omega)
  have M0_ : qM L B (ev_u2 J2 241 0 (jn 0) 242) := by rw [ju_na (by omega), e2_]; exact M
  have mu0_ : mU U B (ev_u2 J2 241 0 (jn 0)) := mU_out mu (by rw [ju_ne (by omega), e1_]) (by rw [ju_na (by omega), o_ 244 (by omega) (by omega)])
  obtain ⟨K1_, r1_, r2_, r3_, r4_⟩ := mq_keep M0_ g mu0_ gu
  have k2_ : K1_ 242 = I 242 := by rw [r3_ 242 (by omega) (by omega), ju_na (by omega), e2_]
  refine ⟨e1_, e2_, K1_, r1_, by rw [k2_]; exact M, fun B2_ K2_ hB_ m_ => ?_⟩
  obtain ⟨m1_, m2_⟩ := m_
  have q0_ : ∀ k, ¬ k = 0 → ¬ k = 7 → K2_ 241 k = I 241 k := fun k q1 q2 => by rw [m2_ 241 (by omega), r4_ k q2, ju_ne (fun q_ => q1 q_.2), e1_]
  have q1_ : ∀ b, ¬ b = 241 → ¬ b = 242 → ¬ b = 244 → K2_ b = J2 b := fun b q1 q2 q3 => by rw [m2_ b q2, r3_ b q1 q3, ju_na q1]
  have q2_ : ∀ b, ¬ b = 241 → ¬ b = 242 → ¬ b = 244 → b < n + 7 ∨ n + 25 ≤ b → b < 55 ∨ 201 ≤ b → K2_ b = I b := fun b q1 q2 q3 q4 q5 => (q1_ b q1 q2 q3).trans (o_ b q4 q5)
  refine ⟨by rw [m2_ 241 (by omega), r4_ 0 (by omega), ju_at], ⟨hn_, ⟨b_, b1_, ?_, ?_, fun k hk => ?_⟩, ⟨?_, ?_⟩, ⟨w_, ⟨?_, t2_, fun i c hc => ?_⟩, ⟨?_, t5_, fun i c hc => ?_⟩⟩, Or.inr ⟨L2, kU U L, V, ?_, ?_, g2, gU_k gu g, gv, ?_, m1_, ?_, ?_, ?_, ?_⟩⟩, q2_ ev_S (by omega) (by omega) (by omega) (by omega) (by omega), o_ ev_S (by omega) (by omega)⟩
  · rw [q2_ 0 (by omega) (by omega) (by omega) (by omega) (by omega)]; exact b2_
  · rw [q0_ 9 (by omega) (by omega)]; exact b3_
  · rw [q2_ 1 (by omega) (by omega) (by omega) (by omega) (by omega), q2_ 247 (by omega) (by omega) (by omega) (by omega) (by omega)]; exact b4_ k hk
  · rw [q2_ 0 (by omega) (by omega) (by omega) (by omega) (by omega), q0_ 10 (by omega) (by omega)]; exact p1_
  · rw [q2_ 0 (by omega) (by omega) (by omega) (by omega) (by omega), q0_ 11 (by omega) (by omega)]; exact p2_
  · rw [q2_ 239 (by omega) (by omega) (by omega) (by omega) (by omega)]; exact t1_
  · rw [q2_ 240 (by omega) (by omega) (by omega) (by omega) (by omega)]; exact t3_ i c hc
  · rw [q0_ 19 (by omega) (by omega)]; exact t4_
  · rw [q2_ 249 (by omega) (by omega) (by omega) (by omega) (by omega)]; exact t6_ i c hc
  · rw [q2_ 0 (by omega) (by omega) (by omega) (by omega) (by omega)]; exact a
  · rw [q0_ 6 (by omega) (by omega)]; exact b
  · exact qS_out w.1 (fun b b1 b2 => q1_ b (by omega) (by omega) (by omega)) (fun b b1 b2 => q1_ b (by omega) (by omega) (by omega)) g2
  · have hu2_ : hU (kU U L) J2 (n + 1) := hU_out k.1 (gU_k gu g) (fun b b1 b2 => w.2 b (by omega)) (fun b b1 b2 => w.2 b (by omega))
    exact hU_out hu2_ (gU_k gu g) (fun b b1 b2 => q1_ b (by omega) (by omega) (by omega)) (fun b b1 b2 => q1_ b (by omega) (by omega) (by omega))
  · have mu2_ : mU (kU U L) B K2_ := mU_out r2_ (by rw [m2_ 241 (by omega)]) (m2_ 244 (by omega))
    exact mU_B mu2_ hB_
  · exact hV_out hv gv (fun b b1 b2 => q2_ b (by omega) (by omega) (by omega) (by omega) (by omega)) (fun b b1 b2 => q2_ b (by omega) (by omega) (by omega) (by omega) (by omega))
  · exact mV_B (mV_out mv (q2_ 245 (by omega) (by omega) (by omega) (by omega) (by omega)) (q2_ 246 (by omega) (by omega) (by omega) (by omega) (by omega))) hB_
theorem rng_n {lo hi : Nat} {x : Int32} (hl : lo < 1000) (hh : hi < 1000) (h : ¬ x < jn lo ∧ ¬ jn hi < x) : ∃ k, k ≤ hi ∧ x = jn k := by
  obtain ⟨a_, b_⟩ := h
  rw [Int32.lt_iff_toInt_lt, jn_toInt (by omega)] at a_ b_
  refine ⟨x.toInt.toNat, by omega, Int32.toInt_inj.mp ?_⟩
  rw [jn_toInt (by omega)]
  omega
theorem rng_j {c : Nat} {x y : Int32} (hc : c < 1000) (h : ¬ x < jn 0 ∧ ¬ y < x) (e : jn c - jn 1 = y) : jlt x c := by
  rw [← e] at h
  exact (jlt_r hc).mp h
theorem hOk_4 {x : Int32} (h : hOk x) : jlt x 4 := rng_j (by omega) h (by decide)
theorem yput_0 {f t : Nat} (h : yput L f t = jn 0) : qf L f 8 = jn 0 ∧ jn (qt L t).length < qo L t := by
  unfold yput at h
  by_cases a_ : qf L f 8 = jn 0
  · rw [if_pos a_] at h
    by_cases b_ : jn (qt L t).length < qo L t
    · exact ⟨a_, b_⟩
    · rw [if_neg b_] at h
      exact absurd h (by decide)
  · rw [if_neg a_] at h
    exact absurd h (by decide)
theorem yble_0 {f : Nat} (h : yble L f = jn 0) : ¬ qf L f 7 = jn 2 := fun q_ => by
  unfold yble at h
  rw [if_pos q_] at h
  by_cases a_ : qf L f 8 = jn 0
  · rw [if_pos a_] at h
    by_cases b_ : qf L f 6 = jn 0
    · rw [if_pos b_] at h
      exact absurd h (by decide)
    · rw [if_neg b_] at h
      exact absurd h (by decide)
  · rw [if_neg a_] at h
    exact absurd h (by decide)
theorem all_c {c : Nat} (h : c ≤ 6) : ((jn 1) <<< ((jn c) &&& 31)) - (jn 1) = jn (2 ^ c - 1) := by
  have i_ : c = 0 ∨ c = 1 ∨ c = 2 ∨ c = 3 ∨ c = 4 ∨ c = 5 ∨ c = 6 := by omega
  rcases i_ with rfl | rfl | rfl | rfl | rfl | rfl | rfl <;> decide
theorem m_isW {x : Int32} : d_M_isWind x = some (if ¬ x < jn 0 ∧ ¬ jn 9 < x then jn 1 else jn 0) := by
  unfold d_M_isWind
  rw [rp_rng, ob_s]
  by_cases a_ : ¬ x < jn 0 ∧ ¬ jn 9 < x
  · rw [if_pos a_, if_pos (Or.inr rfl)]
  · rw [if_neg a_, if_pos (Or.inl rfl)]
theorem mq_canHand (h : qM L B (I 242)) (g : qG L) {k : Nat} (hk : k < qN L) : ((d_M_flagsOf (jn k) I).bind fun q32 => (if jn 0 < q32 then ((d_M_isHanded (jn k) I).bind fun q34 => (if q34 = jn 0 then ((d_M_culpritOf (jn k) I).bind fun q36 => (if q36 = (jg 1) then some ((jn 1)) else some ((jn 0)))) else some ((jn 0)))) else some ((jn 0)))) = some (if jn 0 < yof L k ∧ ¬ qn L k 3 = jn 1 ∧ ycul L k = jg 1 then jn 1 else jn 0) := by
  have ef_ : d_M_flagsOf (jn k) I = some (yof L k) := mq_flagsOf h g _
  have eg_ : d_M_culpritOf (jn k) I = some (ycul L k) := mq_culprit h g _
  rw [ef_, ob_s, mq_hand h g hk, ob_s, eg_, ob_s]
  by_cases a_ : jn 0 < yof L k
  · rw [if_pos a_]
    by_cases b_ : qn L k 3 = jn 1
    · rw [if_pos b_, if_neg (by decide), if_neg (fun q_ => q_.2.1 b_)]
    · rw [if_neg b_, if_pos rfl]
      by_cases c_ : ycul L k = jg 1
      · rw [if_pos c_, if_pos ⟨a_, b_, c_⟩]
      · rw [if_neg c_, if_neg (fun q_ => c_ q_.2.2)]
  · rw [if_neg a_, if_neg (fun q_ => a_ q_.1)]
theorem op_put (h : Inv n B I) (hB : B + 1 < 100000) (x1 : Int32) (x2 : Int32) : ∃ r J1 v J, d_F_put n x1 x2 I = some (r, J1) ∧ d_M_put x1 x2 J1 = some (v, J) ∧ opR [(0, 1), (1, 2), (2, 3)] r v J ∧ Inx n (B + 1) I J1 J := by
  have h_ := h
  have n10_ : ¬ jn 1 = jn 0 := by decide
  obtain ⟨hn_, hb_, hp_, ht_, s_⟩ := h
  rcases s_ with ⟨a_, b_, _⟩ | ⟨L_, U_, V_, a_, b_, g_, gu_, gv_, S_, M_, hu_, mu_, hv_, mv_⟩
  · exact ⟨.inl 0, I, jn 0, ev_u2 I 241 0 (jn 1), by simp only [d_F_put, f_t0 a_, f_f0 (n := n) a_, f_n0 (n := n) a_, f_u0 (n := n) a_, ob_s, eq_self, if_true, if_false, n10_, not_false_eq_true], by simp only [d_M_put, m_f0 b_, m_n0 b_, m_u0 b_, b_, m_two0, m_may0, m_mU0 b_, m_look0 b_, ob_s, eq_self, if_true, if_false, n10_, not_false_eq_true], ⟨1, by decide, ju_at ..⟩, Inx_B (Inx_k h_ _) (by omega)⟩
  have F_ := g_.1
  have C_ := g_.2.1
  have N_ := g_.2.2.1
  have T_ := g_.2.2.2.1
  have P_ := g_.2.2.2.2.1
  by_cases hx_ : jlt x1 (qF L_)
  rotate_left
  · exact ⟨.inl 1, I, jn 0, ev_u2 I 241 0 (jn 2), by simp only [d_F_put, f_fN a_ S_ g_ hx_, ob_s, eq_self, if_true, if_false, n10_, not_false_eq_true], by simp only [d_M_put, m_fN b_ M_ g_ hx_, b_, m_two1, m_twoY, m_may1, m_may2, m_mayY, ob_s, eq_self, if_true, if_false, n10_, not_false_eq_true], ⟨2, by decide, ju_at ..⟩, Inx_B (Inx_k h_ _) (by omega)⟩
  by_cases hy_ : jlt x2 (qT L_)
  rotate_left
  · exact ⟨.inl 1, I, jn 0, ev_u2 I 241 0 (jn 2), by simp only [d_F_put, f_fY a_ S_ g_ hx_, f_uN a_ S_ g_ hy_, ob_s, eq_self, if_true, if_false, n10_, not_false_eq_true], by simp only [d_M_put, m_fY b_ M_ g_ hx_, m_uN b_ M_ g_ hy_, b_, m_two1, m_twoY, m_may1, m_may2, m_mayY, ob_s, eq_self, if_true, if_false, n10_, not_false_eq_true], ⟨2, by decide, ju_at ..⟩, Inx_B (Inx_k h_ _) (by omega)⟩
  have hx2_ := hx_
  obtain ⟨k_, hk_, rfl⟩ := hx_
  have hy2_ := hy_
  obtain ⟨t_, ht2_, rfl⟩ := hy_
  by_cases y_ : yput L_ k_ t_ = jn 0
  rotate_left
  · exact ⟨.inl 2, I, jn 0, ev_u2 I 241 0 (jn 3), by simp only [d_F_put, f_fY a_ S_ g_ hx2_, f_uY a_ S_ g_ hy2_, sq_put S_ g_ hk_ ht2_, y_, f_aN, ob_s, eq_self, if_true, if_false, n10_, not_false_eq_true], by simp only [d_M_put, m_fY b_ M_ g_ hx2_, m_uY b_ M_ g_ hy2_, b_, m_two1, m_twoY, m_may1, m_may2, m_mayY, mq_put M_ g_ hk_ ht2_, y_, ob_s, eq_self, if_true, if_false, n10_, not_false_eq_true], ⟨3, by decide, ju_at ..⟩, Inx_B (Inx_k h_ _) (by omega)⟩
  obtain ⟨p1_, p2_⟩ := yput_0 y_
  obtain ⟨J1_, e1_, S1_, k1_⟩ := chgC hn_ g_ S_ hu_ gu_
  obtain ⟨J2_, e2_, w_⟩ := sq_moveTub S1_ g_ (by omega) hk_ ht2_ p1_ p2_
  have g2_ : qG (Lput L_ k_ t_) := qG_put g_ hk_ ht2_ p1_ p2_
  obtain ⟨i1_, i2_, K1_, e3_, M1_, z_⟩ := chgM h_ a_ b_ g_ gu_ gv_ M_ mu_ hv_ mv_ k1_ w_ g2_
  have b2_ : J2_ 241 6 = jn 1 := by rw [i1_]; exact b_
  have M2_ : qM L_ B (J2_ 242) := by rw [i2_]; exact M_
  obtain ⟨K2_, e4_, m_⟩ := mq_putsInto M1_ g_ hB hk_ ht2_ p1_
  obtain ⟨z0_, zI_⟩ := z_ (B + 1) K2_ (by omega) m_
  have q_len : (qt (Lput L_ k_ t_) t_).length = (qt L_ t_).length + 1 := by
    show (if t_ = t_ then qt L_ t_ ++ [k_] else qt L_ t_).length = _
    rw [if_pos rfl, List.length_append]
    rfl
  refine ⟨.inr (jn ((qt L_ t_).length + 1)), J2_, jn ((qt L_ t_).length + 1), K2_, ?_, ?_, ⟨rfl, z0_⟩, zI_⟩
  · simp only [d_F_put, f_fY a_ S_ g_ hx2_, f_uY a_ S_ g_ hy2_, sq_put S_ g_ hk_ ht2_, y_, f_aY, e1_, e2_, ob_s, eq_self, if_true, if_false, n10_, not_false_eq_true]
  · simp only [d_M_put, m_fY b2_ M2_ g_ hx2_, m_uY b2_ M2_ g_ hy2_, b2_, mq_put M2_ g_ hk_ ht2_, y_, mq_many m_.1 g2_ (show t_ < qT (Lput L_ k_ t_) from ht2_), q_len, m_two1, m_twoY, m_may1, m_may2, m_mayY, e3_, e4_, ob_s, eq_self, if_true, if_false, n10_, not_false_eq_true]
theorem op_wash (h : Inv n B I) (x1 : Int32) (x2 : Int32) : ∃ r J1 v J, d_F_wash n x1 x2 I = some (r, J1) ∧ d_M_wash x1 x2 J1 = some (v, J) ∧ opR [(0, 1), (1, 2), (2, 3)] r v J ∧ Inx n B I J1 J := by
  have h_ := h
  have n10_ : ¬ jn 1 = jn 0 := by decide
  obtain ⟨hn_, hb_, hp_, ht_, s_⟩ := h
  rcases s_ with ⟨a_, b_, _⟩ | ⟨L_, U_, V_, a_, b_, g_, gu_, gv_, S_, M_, hu_, mu_, hv_, mv_⟩
  · exact ⟨.inl 0, I, jn 0, ev_u2 I 241 0 (jn 1), by simp only [d_F_wash, f_t0 a_, f_f0 (n := n) a_, f_n0 (n := n) a_, f_u0 (n := n) a_, ob_s, eq_self, if_true, if_false, n10_, not_false_eq_true], by simp only [d_M_wash, m_f0 b_, m_n0 b_, m_u0 b_, b_, m_two0, m_may0, m_mU0 b_, m_look0 b_, ob_s, eq_self, if_true, if_false, n10_, not_false_eq_true], ⟨1, by decide, ju_at ..⟩, Inx_k h_ _⟩
  have F_ := g_.1
  have C_ := g_.2.1
  have N_ := g_.2.2.1
  have T_ := g_.2.2.2.1
  have P_ := g_.2.2.2.2.1
  by_cases hy_ : jlt x1 (qT L_)
  rotate_left
  · exact ⟨.inl 1, I, jn 0, ev_u2 I 241 0 (jn 2), by simp only [d_F_wash, f_uN a_ S_ g_ hy_, ob_s, eq_self, if_true, if_false, n10_, not_false_eq_true], by simp only [d_M_wash, m_uN b_ M_ g_ hy_, b_, m_two1, m_twoY, m_may1, m_may2, m_mayY, ob_s, eq_self, if_true, if_false, n10_, not_false_eq_true], ⟨2, by decide, ju_at ..⟩, Inx_k h_ _⟩
  by_cases hz_ : hOk x2
  rotate_left
  · exact ⟨.inl 2, I, jn 0, ev_u2 I 241 0 (jn 3), by simp only [d_F_wash, f_uY a_ S_ g_ hy_, f_hN hz_, ob_s, eq_self, if_true, if_false, n10_, not_false_eq_true], by simp only [d_M_wash, m_uY b_ M_ g_ hy_, m_hN hz_, b_, m_two1, m_twoY, m_may1, m_may2, m_mayY, ob_s, eq_self, if_true, if_false, n10_, not_false_eq_true], ⟨3, by decide, ju_at ..⟩, Inx_k h_ _⟩
  have hy2_ := hy_
  obtain ⟨t_, ht2_, rfl⟩ := hy_
  by_cases y_ : ywash L_ t_ x2 = jn 0
  rotate_left
  · exact ⟨.inl 2, I, jn 0, ev_u2 I 241 0 (jn 3), by simp only [d_F_wash, f_uY a_ S_ g_ hy2_, f_hY hz_, sq_wash S_ g_ ht2_, y_, f_aN, ob_s, eq_self, if_true, if_false, n10_, not_false_eq_true], by simp only [d_M_wash, m_uY b_ M_ g_ hy2_, m_hY hz_, b_, m_two1, m_twoY, m_may1, m_may2, m_mayY, mq_wash M_ g_ ht2_, y_, ob_s, eq_self, if_true, if_false, n10_, not_false_eq_true], ⟨3, by decide, ju_at ..⟩, Inx_k h_ _⟩
  obtain ⟨J1_, e1_, S1_, k1_⟩ := chgC hn_ g_ S_ hu_ gu_
  obtain ⟨J2_, e2_, w_⟩ := sq_washTub S1_ g_ ht2_ (hOk_4 hz_)
  have g2_ : qG (Lwsh L_ t_ x2) := qG_wsh g_ ht2_ (hOk_4 hz_)
  obtain ⟨i1_, i2_, K1_, e3_, M1_, z_⟩ := chgM h_ a_ b_ g_ gu_ gv_ M_ mu_ hv_ mv_ k1_ w_ g2_
  have b2_ : J2_ 241 6 = jn 1 := by rw [i1_]; exact b_
  have M2_ : qM L_ B (J2_ 242) := by rw [i2_]; exact M_
  obtain ⟨K2_, e4_, m_⟩ := mq_washTub M1_ g_ ht2_ x2
  obtain ⟨z0_, zI_⟩ := z_ B K2_ (by omega) m_
  refine ⟨.inr (ystn L_ t_ (yrunt L_ t_ x2)), J2_, ystn L_ t_ (yrunt L_ t_ x2), K2_, ?_, ?_, ⟨rfl, z0_⟩, zI_⟩
  · simp only [d_F_wash, f_uY a_ S_ g_ hy2_, f_hY hz_, sq_wash S_ g_ ht2_, y_, f_aY, e1_, e2_, ob_s, eq_self, if_true, if_false, n10_, not_false_eq_true]
  · simp only [d_M_wash, m_uY b2_ M2_ g_ hy2_, m_hY hz_, b2_, mq_wash M2_ g_ ht2_, y_, m_two1, m_twoY, m_may1, m_may2, m_mayY, e3_, e4_, ob_s, eq_self, if_true, if_false, n10_, not_false_eq_true]
theorem op_hang (h : Inv n B I) (x1 : Int32) : ∃ r J1 v J, d_F_hang n x1 I = some (r, J1) ∧ d_M_hang x1 J1 = some (v, J) ∧ opR [(0, 1), (1, 2), (2, 3)] r v J ∧ Inx n B I J1 J := by
  have h_ := h
  have n10_ : ¬ jn 1 = jn 0 := by decide
  obtain ⟨hn_, hb_, hp_, ht_, s_⟩ := h
  rcases s_ with ⟨a_, b_, _⟩ | ⟨L_, U_, V_, a_, b_, g_, gu_, gv_, S_, M_, hu_, mu_, hv_, mv_⟩
  · exact ⟨.inl 0, I, jn 0, ev_u2 I 241 0 (jn 1), by simp only [d_F_hang, f_t0 a_, f_f0 (n := n) a_, f_n0 (n := n) a_, f_u0 (n := n) a_, ob_s, eq_self, if_true, if_false, n10_, not_false_eq_true], by simp only [d_M_hang, m_f0 b_, m_n0 b_, m_u0 b_, b_, m_two0, m_may0, m_mU0 b_, m_look0 b_, ob_s, eq_self, if_true, if_false, n10_, not_false_eq_true], ⟨1, by decide, ju_at ..⟩, Inx_k h_ _⟩
  have F_ := g_.1
  have C_ := g_.2.1
  have N_ := g_.2.2.1
  have T_ := g_.2.2.2.1
  have P_ := g_.2.2.2.2.1
  by_cases hx_ : jlt x1 (qF L_)
  rotate_left
  · exact ⟨.inl 1, I, jn 0, ev_u2 I 241 0 (jn 2), by simp only [d_F_hang, f_fN a_ S_ g_ hx_, ob_s, eq_self, if_true, if_false, n10_, not_false_eq_true], by simp only [d_M_hang, m_fN b_ M_ g_ hx_, b_, m_two1, m_twoY, m_may1, m_may2, m_mayY, ob_s, eq_self, if_true, if_false, n10_, not_false_eq_true], ⟨2, by decide, ju_at ..⟩, Inx_k h_ _⟩
  have hx2_ := hx_
  obtain ⟨k_, hk_, rfl⟩ := hx_
  by_cases y_ : qf L_ k_ 8 = jn 0 ∧ ¬ yfree L_ = jg 1
  rotate_left
  · exact ⟨.inl 2, I, jn 0, ev_u2 I 241 0 (jn 3), by simp only [d_F_hang, f_fY a_ S_ g_ hx2_, sq_can S_ g_ hk_, if_neg y_, f_aN, ob_s, eq_self, if_true, if_false, n10_, not_false_eq_true], by simp only [d_M_hang, m_fY b_ M_ g_ hx2_, b_, m_two1, m_twoY, m_may1, m_may2, m_mayY, mq_can M_ g_ hk_, if_neg y_, ob_s, eq_self, if_true, if_false, n10_, not_false_eq_true], ⟨3, by decide, ju_at ..⟩, Inx_k h_ _⟩
  obtain ⟨J1_, e1_, S1_, k1_⟩ := chgC hn_ g_ S_ hu_ gu_
  obtain ⟨J2_, e2_, w_, gg_⟩ := sq_hang S1_ g_ hk_ y_.1 y_.2
  have g2_ : qG (Lmv L_ k_ (jn 2) (yfree L_)) := gg_
  obtain ⟨i1_, i2_, K1_, e3_, M1_, z_⟩ := chgM h_ a_ b_ g_ gu_ gv_ M_ mu_ hv_ mv_ k1_ w_ g2_
  have b2_ : J2_ 241 6 = jn 1 := by rw [i1_]; exact b_
  have M2_ : qM L_ B (J2_ 242) := by rw [i2_]; exact M_
  obtain ⟨K2_, e4_, m_⟩ := mq_hang M1_ g_ hk_
  obtain ⟨z0_, zI_⟩ := z_ B K2_ (by omega) m_
  have q9_ : qf (Lmv L_ k_ (jn 2) (yfree L_)) k_ 9 = yfree L_ := if_pos ⟨rfl, rfl⟩
  refine ⟨.inr (yfree L_), J2_, yfree L_, K2_, ?_, ?_, ⟨rfl, z0_⟩, zI_⟩
  · simp only [d_F_hang, f_fY a_ S_ g_ hx2_, sq_can S_ g_ hk_, if_pos y_, f_aY, e1_, e2_, ob_s, eq_self, if_true, if_false, n10_, not_false_eq_true]
  · simp only [d_M_hang, m_fY b2_ M2_ g_ hx2_, b2_, mq_can M2_ g_ hk_, if_pos y_, mq_f m_.1 g2_ (show k_ < qF (Lmv L_ k_ (jn 2) (yfree L_)) from hk_) (show 9 < 10 by omega), q9_, m_two1, m_twoY, m_may1, m_may2, m_mayY, e3_, e4_, ob_s, eq_self, if_true, if_false, n10_, not_false_eq_true]
theorem op_hangAll (h : Inv n B I) : ∃ r J1 v J, d_F_hangAll n I = some (r, J1) ∧ d_M_hangAll J1 = some (v, J) ∧ opR [(0, 1)] r v J ∧ Inx n B I J1 J := by
  have h_ := h
  have n10_ : ¬ jn 1 = jn 0 := by decide
  obtain ⟨hn_, hb_, hp_, ht_, s_⟩ := h
  rcases s_ with ⟨a_, b_, _⟩ | ⟨L_, U_, V_, a_, b_, g_, gu_, gv_, S_, M_, hu_, mu_, hv_, mv_⟩
  · exact ⟨.inl 0, I, jn 0, ev_u2 I 241 0 (jn 1), by simp only [d_F_hangAll, f_t0 a_, f_f0 (n := n) a_, f_n0 (n := n) a_, f_u0 (n := n) a_, ob_s, eq_self, if_true, if_false, n10_, not_false_eq_true], by simp only [d_M_hangAll, m_f0 b_, m_n0 b_, m_u0 b_, b_, m_two0, m_may0, m_mU0 b_, m_look0 b_, ob_s, eq_self, if_true, if_false, n10_, not_false_eq_true], ⟨1, by decide, ju_at ..⟩, Inx_k h_ _⟩
  have F_ := g_.1
  have C_ := g_.2.1
  have N_ := g_.2.2.1
  have T_ := g_.2.2.2.1
  have P_ := g_.2.2.2.2.1
  obtain ⟨J1_, e1_, S1_, k1_⟩ := chgC hn_ g_ S_ hu_ gu_
  obtain ⟨J2_, e2_, w_, gg_⟩ := sq_hall S1_ g_
  have g2_ : qG ((Lhal L_ (qF L_)).2) := gg_
  obtain ⟨i1_, i2_, K1_, e3_, M1_, z_⟩ := chgM h_ a_ b_ g_ gu_ gv_ M_ mu_ hv_ mv_ k1_ w_ g2_
  have b2_ : J2_ 241 6 = jn 1 := by rw [i1_]; exact b_
  have M2_ : qM L_ B (J2_ 242) := by rw [i2_]; exact M_
  obtain ⟨⟨r1_, r2_, K2_⟩, e4_, mr_, m_⟩ := mq_hall M1_ g_
  obtain ⟨z0_, zI_⟩ := z_ B K2_ (by omega) m_
  refine ⟨.inr ((Lhal L_ (qF L_)).1), J2_, (Lhal L_ (qF L_)).1, K2_, ?_, ?_, ⟨rfl, z0_⟩, zI_⟩
  · simp only [d_F_hangAll, f_t1 a_, e1_, e2_, ob_s, eq_self, if_true, if_false, n10_, not_false_eq_true]
  · simp only [d_M_hangAll, m_lookY b2_, m_two1, m_twoY, m_may1, m_may2, m_mayY, e3_, e4_, ob_s, eq_self, if_true, if_false, n10_, not_false_eq_true]
    rw [show r1_ = (Lhal L_ (qF L_)).1 from mr_]
theorem op_takeDown (h : Inv n B I) (x1 : Int32) : ∃ r J1 v J, d_F_takeDown n x1 I = some (r, J1) ∧ d_M_takeDown x1 J1 = some (v, J) ∧ opR [(0, 1), (1, 2), (2, 3)] r v J ∧ Inx n B I J1 J := by
  have h_ := h
  have n10_ : ¬ jn 1 = jn 0 := by decide
  obtain ⟨hn_, hb_, hp_, ht_, s_⟩ := h
  rcases s_ with ⟨a_, b_, _⟩ | ⟨L_, U_, V_, a_, b_, g_, gu_, gv_, S_, M_, hu_, mu_, hv_, mv_⟩
  · exact ⟨.inl 0, I, jn 0, ev_u2 I 241 0 (jn 1), by simp only [d_F_takeDown, f_t0 a_, f_f0 (n := n) a_, f_n0 (n := n) a_, f_u0 (n := n) a_, ob_s, eq_self, if_true, if_false, n10_, not_false_eq_true], by simp only [d_M_takeDown, m_f0 b_, m_n0 b_, m_u0 b_, b_, m_two0, m_may0, m_mU0 b_, m_look0 b_, ob_s, eq_self, if_true, if_false, n10_, not_false_eq_true], ⟨1, by decide, ju_at ..⟩, Inx_k h_ _⟩
  have F_ := g_.1
  have C_ := g_.2.1
  have N_ := g_.2.2.1
  have T_ := g_.2.2.2.1
  have P_ := g_.2.2.2.2.1
  by_cases hx_ : jlt x1 (qF L_)
  rotate_left
  · exact ⟨.inl 1, I, jn 0, ev_u2 I 241 0 (jn 2), by simp only [d_F_takeDown, f_fN a_ S_ g_ hx_, ob_s, eq_self, if_true, if_false, n10_, not_false_eq_true], by simp only [d_M_takeDown, m_fN b_ M_ g_ hx_, b_, m_two1, m_twoY, m_may1, m_may2, m_mayY, ob_s, eq_self, if_true, if_false, n10_, not_false_eq_true], ⟨2, by decide, ju_at ..⟩, Inx_k h_ _⟩
  have hx2_ := hx_
  obtain ⟨k_, hk_, rfl⟩ := hx_
  have f8_ : I (n + 7 + 2 + k_) 8 = qf L_ k_ 8 := sq_f S_ hk_ (by omega)
  have n21_ : ¬ jn 2 = jn 1 := by decide
  by_cases y_ : qf L_ k_ 8 = jn 1 ∨ qf L_ k_ 8 = jn 2
  rotate_left
  · have y1_ : ¬ qf L_ k_ 8 = jn 1 := fun q_ => y_ (Or.inl q_)
    have y2_ : ¬ qf L_ k_ 8 = jn 2 := fun q_ => y_ (Or.inr q_)
    exact ⟨.inl 2, I, jn 0, ev_u2 I 241 0 (jn 3), by simp only [d_F_takeDown, f_fY a_ S_ g_ hx2_, if_pos (sq_in g_ hk_), sq_n g_ hk_, f8_, if_neg y1_, if_neg y2_, f_aN, ob_s, eq_self, if_true, if_false, n10_, not_false_eq_true], by simp only [d_M_takeDown, m_fY b_ M_ g_ hx2_, b_, m_two1, m_twoY, m_may1, m_may2, m_mayY, mq_where M_ g_ hk_, if_neg y1_, if_neg y2_, ob_s, eq_self, if_true, if_false, n10_, not_false_eq_true], ⟨3, by decide, ju_at ..⟩, Inx_k h_ _⟩
  have c_ : (if qf L_ k_ 8 = jn 2 then (some (jn 1) : Option Int32) else (if qf L_ k_ 8 = jn 1 then some (jn 1) else some (jn 0))) = some (jn 1) := by
    rcases y_ with q_ | q_
    · rw [q_]; decide
    · rw [q_]; decide
  have c2_ : (if qf L_ k_ 8 = jn 1 then (some (jn 1) : Option Int32) else (if qf L_ k_ 8 = jn 2 then some (jn 1) else some (jn 0))) = some (jn 1) := by
    rcases y_ with q_ | q_
    · rw [q_]; decide
    · rw [q_]; decide
  obtain ⟨J1_, e1_, S1_, k1_⟩ := chgC hn_ g_ S_ hu_ gu_
  obtain ⟨J2_, e2_, w_, gg_⟩ := sq_down S1_ g_ (by omega) hk_ y_
  have g2_ : qG (Ltd L_ k_) := gg_
  obtain ⟨i1_, i2_, K1_, e3_, M1_, z_⟩ := chgM h_ a_ b_ g_ gu_ gv_ M_ mu_ hv_ mv_ k1_ w_ g2_
  have b2_ : J2_ 241 6 = jn 1 := by rw [i1_]; exact b_
  have M2_ : qM L_ B (J2_ 242) := by rw [i2_]; exact M_
  obtain ⟨K2_, e4_, m_⟩ := mq_down M1_ g_ hk_
  obtain ⟨z0_, zI_⟩ := z_ B K2_ (by omega) m_
  have hF_ : k_ < qF (Ltd L_ k_) := by
    have e_ : qF (Ltd L_ k_) = qF L_ := by
      unfold Ltd
      split <;> rfl
    rw [e_]
    exact hk_
  have j4_ : J2_ (n + 7 + 2 + k_) 4 = qf (Ltd L_ k_) k_ 4 := sq_f w_.1 hF_ (by omega)
  refine ⟨.inr (qf (Ltd L_ k_) k_ 4), J2_, qf (Ltd L_ k_) k_ 4, K2_, ?_, ?_, ⟨rfl, z0_⟩, zI_⟩
  · simp only [d_F_takeDown, f_fY a_ S_ g_ hx2_, if_pos (sq_in g_ hk_), sq_n g_ hk_, f8_, c_, f_aY, j4_, e1_, e2_, ob_s, eq_self, if_true, if_false, n10_, not_false_eq_true]
  · simp only [d_M_takeDown, m_fY b2_ M2_ g_ hx2_, b2_, mq_where M2_ g_ hk_, c2_, mq_f m_.1 g2_ hF_ (show 4 < 10 by omega), m_two1, m_twoY, m_may1, m_may2, m_mayY, e3_, e4_, ob_s, eq_self, if_true, if_false, n10_, not_false_eq_true]
theorem op_clearTub (h : Inv n B I) (x1 : Int32) : ∃ r J1 v J, d_F_clearTub n x1 I = some (r, J1) ∧ d_M_clearTub x1 J1 = some (v, J) ∧ opR [(0, 1), (1, 2)] r v J ∧ Inx n B I J1 J := by
  have h_ := h
  have n10_ : ¬ jn 1 = jn 0 := by decide
  obtain ⟨hn_, hb_, hp_, ht_, s_⟩ := h
  rcases s_ with ⟨a_, b_, _⟩ | ⟨L_, U_, V_, a_, b_, g_, gu_, gv_, S_, M_, hu_, mu_, hv_, mv_⟩
  · exact ⟨.inl 0, I, jn 0, ev_u2 I 241 0 (jn 1), by simp only [d_F_clearTub, f_t0 a_, f_f0 (n := n) a_, f_n0 (n := n) a_, f_u0 (n := n) a_, ob_s, eq_self, if_true, if_false, n10_, not_false_eq_true], by simp only [d_M_clearTub, m_f0 b_, m_n0 b_, m_u0 b_, b_, m_two0, m_may0, m_mU0 b_, m_look0 b_, ob_s, eq_self, if_true, if_false, n10_, not_false_eq_true], ⟨1, by decide, ju_at ..⟩, Inx_k h_ _⟩
  have F_ := g_.1
  have C_ := g_.2.1
  have N_ := g_.2.2.1
  have T_ := g_.2.2.2.1
  have P_ := g_.2.2.2.2.1
  by_cases hy_ : jlt x1 (qT L_)
  rotate_left
  · exact ⟨.inl 1, I, jn 0, ev_u2 I 241 0 (jn 2), by simp only [d_F_clearTub, f_uN a_ S_ g_ hy_, ob_s, eq_self, if_true, if_false, n10_, not_false_eq_true], by simp only [d_M_clearTub, m_mUN b_ M_ g_ hy_, b_, m_two1, m_twoY, m_may1, m_may2, m_mayY, ob_s, eq_self, if_true, if_false, n10_, not_false_eq_true], ⟨2, by decide, ju_at ..⟩, Inx_k h_ _⟩
  have hy2_ := hy_
  obtain ⟨t_, ht2_, rfl⟩ := hy_
  obtain ⟨J1_, e1_, S1_, k1_⟩ := chgC hn_ g_ S_ hu_ gu_
  obtain ⟨J2_, e2_, w_⟩ := sq_clear S1_ g_ (by omega) ht2_
  have g2_ : qG (Lclr L_ t_) := qG_clr g_ ht2_
  obtain ⟨i1_, i2_, K1_, e3_, M1_, z_⟩ := chgM h_ a_ b_ g_ gu_ gv_ M_ mu_ hv_ mv_ k1_ w_ g2_
  have b2_ : J2_ 241 6 = jn 1 := by rw [i1_]; exact b_
  have M2_ : qM L_ B (J2_ 242) := by rw [i2_]; exact M_
  obtain ⟨⟨r1_, K2_⟩, e4_, m_⟩ := mq_clear M1_ g_ ht2_
  obtain ⟨z0_, zI_⟩ := z_ B K2_ (by omega) m_
  refine ⟨.inr (jn (qt L_ t_).length), J2_, jn (qt L_ t_).length, K2_, ?_, ?_, ⟨rfl, z0_⟩, zI_⟩
  · simp only [d_F_clearTub, f_uY a_ S_ g_ hy2_, e1_, e2_, ob_s, eq_self, if_true, if_false, n10_, not_false_eq_true]
  · simp only [d_M_clearTub, m_mUY b2_ M2_ g_ hy2_, mq_many M1_ g_ ht2_, m_two1, m_twoY, m_may1, m_may2, m_mayY, e3_, e4_, ob_s, eq_self, if_true, if_false, n10_, not_false_eq_true]
theorem op_iron (h : Inv n B I) (x1 : Int32) (x2 : Int32) : ∃ r J1 v J, d_F_iron n x1 x2 I = some (r, J1) ∧ d_M_iron x1 x2 J1 = some (v, J) ∧ opR [(0, 1), (1, 2), (2, 3)] r v J ∧ Inx n B I J1 J := by
  have h_ := h
  have n10_ : ¬ jn 1 = jn 0 := by decide
  obtain ⟨hn_, hb_, hp_, ht_, s_⟩ := h
  rcases s_ with ⟨a_, b_, _⟩ | ⟨L_, U_, V_, a_, b_, g_, gu_, gv_, S_, M_, hu_, mu_, hv_, mv_⟩
  · exact ⟨.inl 0, I, jn 0, ev_u2 I 241 0 (jn 1), by simp only [d_F_iron, f_t0 a_, f_f0 (n := n) a_, f_n0 (n := n) a_, f_u0 (n := n) a_, ob_s, eq_self, if_true, if_false, n10_, not_false_eq_true], by simp only [d_M_iron, m_f0 b_, m_n0 b_, m_u0 b_, b_, m_two0, m_may0, m_mU0 b_, m_look0 b_, ob_s, eq_self, if_true, if_false, n10_, not_false_eq_true], ⟨1, by decide, ju_at ..⟩, Inx_k h_ _⟩
  have F_ := g_.1
  have C_ := g_.2.1
  have N_ := g_.2.2.1
  have T_ := g_.2.2.2.1
  have P_ := g_.2.2.2.2.1
  by_cases hx_ : jlt x1 (qF L_)
  rotate_left
  · exact ⟨.inl 1, I, jn 0, ev_u2 I 241 0 (jn 2), by simp only [d_F_iron, f_fN a_ S_ g_ hx_, ob_s, eq_self, if_true, if_false, n10_, not_false_eq_true], by simp only [d_M_iron, m_fN b_ M_ g_ hx_, b_, m_two1, m_twoY, m_may1, m_may2, m_mayY, ob_s, eq_self, if_true, if_false, n10_, not_false_eq_true], ⟨2, by decide, ju_at ..⟩, Inx_k h_ _⟩
  by_cases hz_ : hOk x2
  rotate_left
  · exact ⟨.inl 2, I, jn 0, ev_u2 I 241 0 (jn 3), by simp only [d_F_iron, f_fY a_ S_ g_ hx_, f_hN hz_, ob_s, eq_self, if_true, if_false, n10_, not_false_eq_true], by simp only [d_M_iron, m_fY b_ M_ g_ hx_, m_hN hz_, b_, m_two1, m_twoY, m_may1, m_may2, m_mayY, ob_s, eq_self, if_true, if_false, n10_, not_false_eq_true], ⟨3, by decide, ju_at ..⟩, Inx_k h_ _⟩
  have hx2_ := hx_
  obtain ⟨k_, hk_, rfl⟩ := hx_
  by_cases y_ : yiron L_ k_ x2 = jn 0
  rotate_left
  · exact ⟨.inl 2, I, jn 0, ev_u2 I 241 0 (jn 3), by simp only [d_F_iron, f_fY a_ S_ g_ hx2_, f_hY hz_, if_pos (sq_in g_ hk_), sq_n g_ hk_, sq_iron S_ hk_, y_, f_aN, ob_s, eq_self, if_true, if_false, n10_, not_false_eq_true], by simp only [d_M_iron, m_fY b_ M_ g_ hx2_, m_hY hz_, b_, m_two1, m_twoY, m_may1, m_may2, m_mayY, mq_iron M_ g_ hk_, y_, ob_s, eq_self, if_true, if_false, n10_, not_false_eq_true], ⟨3, by decide, ju_at ..⟩, Inx_k h_ _⟩
  obtain ⟨J1_, e1_, S1_, k1_⟩ := chgC hn_ g_ S_ hu_ gu_
  obtain ⟨J2_, e2_, w_⟩ := sq_irons S1_ g_ (by omega) hk_ x2
  have g2_ : qG (Liron L_ k_ x2) := qG_iron g_ hk_ (hOk_4 hz_)
  obtain ⟨i1_, i2_, K1_, e3_, M1_, z_⟩ := chgM h_ a_ b_ g_ gu_ gv_ M_ mu_ hv_ mv_ k1_ w_ g2_
  have b2_ : J2_ 241 6 = jn 1 := by rw [i1_]; exact b_
  have M2_ : qM L_ B (J2_ 242) := by rw [i2_]; exact M_
  obtain ⟨K2_, e4_, m_⟩ := mq_irons M1_ g_ hk_ x2
  obtain ⟨z0_, zI_⟩ := z_ B K2_ (by omega) m_
  have j5_ : J2_ (n + 7 + 2 + k_) 5 = qf (Liron L_ k_ x2) k_ 5 := sq_f w_.1 (show k_ < qF (Liron L_ k_ x2) from hk_) (by omega)
  refine ⟨.inr (qf (Liron L_ k_ x2) k_ 5), J2_, qf (Liron L_ k_ x2) k_ 5, K2_, ?_, ?_, ⟨rfl, z0_⟩, zI_⟩
  · simp only [d_F_iron, f_fY a_ S_ g_ hx2_, f_hY hz_, if_pos (sq_in g_ hk_), sq_n g_ hk_, sq_iron S_ hk_, y_, f_aY, j5_, e1_, e2_, ob_s, eq_self, if_true, if_false, n10_, not_false_eq_true]
  · simp only [d_M_iron, m_fY b2_ M2_ g_ hx2_, m_hY hz_, b2_, mq_iron M2_ g_ hk_, y_, mq_f m_.1 g2_ (show k_ < qF (Liron L_ k_ x2) from hk_) (show 5 < 10 by omega), m_two1, m_twoY, m_may1, m_may2, m_mayY, e3_, e4_, ob_s, eq_self, if_true, if_false, n10_, not_false_eq_true]
theorem op_bleach (h : Inv n B I) (x1 : Int32) : ∃ r J1 v J, d_F_bleach n x1 I = some (r, J1) ∧ d_M_bleach x1 J1 = some (v, J) ∧ opR [(0, 1), (1, 2), (2, 3)] r v J ∧ Inx n B I J1 J := by
  have h_ := h
  have n10_ : ¬ jn 1 = jn 0 := by decide
  obtain ⟨hn_, hb_, hp_, ht_, s_⟩ := h
  rcases s_ with ⟨a_, b_, _⟩ | ⟨L_, U_, V_, a_, b_, g_, gu_, gv_, S_, M_, hu_, mu_, hv_, mv_⟩
  · exact ⟨.inl 0, I, jn 0, ev_u2 I 241 0 (jn 1), by simp only [d_F_bleach, f_t0 a_, f_f0 (n := n) a_, f_n0 (n := n) a_, f_u0 (n := n) a_, ob_s, eq_self, if_true, if_false, n10_, not_false_eq_true], by simp only [d_M_bleach, m_f0 b_, m_n0 b_, m_u0 b_, b_, m_two0, m_may0, m_mU0 b_, m_look0 b_, ob_s, eq_self, if_true, if_false, n10_, not_false_eq_true], ⟨1, by decide, ju_at ..⟩, Inx_k h_ _⟩
  have F_ := g_.1
  have C_ := g_.2.1
  have N_ := g_.2.2.1
  have T_ := g_.2.2.2.1
  have P_ := g_.2.2.2.2.1
  by_cases hx_ : jlt x1 (qF L_)
  rotate_left
  · exact ⟨.inl 1, I, jn 0, ev_u2 I 241 0 (jn 2), by simp only [d_F_bleach, f_fN a_ S_ g_ hx_, ob_s, eq_self, if_true, if_false, n10_, not_false_eq_true], by simp only [d_M_bleach, m_fN b_ M_ g_ hx_, b_, m_two1, m_twoY, m_may1, m_may2, m_mayY, ob_s, eq_self, if_true, if_false, n10_, not_false_eq_true], ⟨2, by decide, ju_at ..⟩, Inx_k h_ _⟩
  have hx2_ := hx_
  obtain ⟨k_, hk_, rfl⟩ := hx_
  by_cases y_ : yble L_ k_ = jn 0
  rotate_left
  · exact ⟨.inl 2, I, jn 0, ev_u2 I 241 0 (jn 3), by simp only [d_F_bleach, f_fY a_ S_ g_ hx2_, if_pos (sq_in g_ hk_), sq_n g_ hk_, sq_ble S_ g_ hk_, y_, f_aN, ob_s, eq_self, if_true, if_false, n10_, not_false_eq_true], by simp only [d_M_bleach, m_fY b_ M_ g_ hx2_, b_, m_two1, m_twoY, m_may1, m_may2, m_mayY, mq_ble M_ g_ hk_, y_, ob_s, eq_self, if_true, if_false, n10_, not_false_eq_true], ⟨3, by decide, ju_at ..⟩, Inx_k h_ _⟩
  obtain ⟨J1_, e1_, S1_, k1_⟩ := chgC hn_ g_ S_ hu_ gu_
  obtain ⟨J2_, e2_, w_⟩ := sq_bleach S1_ g_ (by omega) hk_
  have g2_ : qG (Lble L_ k_) := qG_ble g_ hk_ (yble_0 y_)
  obtain ⟨i1_, i2_, K1_, e3_, M1_, z_⟩ := chgM h_ a_ b_ g_ gu_ gv_ M_ mu_ hv_ mv_ k1_ w_ g2_
  have b2_ : J2_ 241 6 = jn 1 := by rw [i1_]; exact b_
  have M2_ : qM L_ B (J2_ 242) := by rw [i2_]; exact M_
  obtain ⟨K2_, e4_, m_⟩ := mq_bleach M1_ g_ hk_
  obtain ⟨z0_, zI_⟩ := z_ B K2_ (by omega) m_
  refine ⟨.inr (ystc L_ k_), J2_, ystc L_ k_, K2_, ?_, ?_, ⟨rfl, z0_⟩, zI_⟩
  · simp only [d_F_bleach, f_fY a_ S_ g_ hx2_, if_pos (sq_in g_ hk_), sq_n g_ hk_, sq_ble S_ g_ hk_, y_, f_aY, e1_, e2_, ob_s, eq_self, if_true, if_false, n10_, not_false_eq_true]
  · simp only [d_M_bleach, m_fY b2_ M2_ g_ hx2_, b2_, mq_ble M2_ g_ hk_, y_, mq_stc M1_ g_ hk_, m_two1, m_twoY, m_may1, m_may2, m_mayY, e3_, e4_, ob_s, eq_self, if_true, if_false, n10_, not_false_eq_true]
theorem op_handOver (h : Inv n B I) (x1 : Int32) : ∃ r J1 v J, d_F_handOver n x1 I = some (r, J1) ∧ d_M_handOver x1 J1 = some (v, J) ∧ opR [(0, 1), (1, 2), (2, 3)] r v J ∧ Inx n B I J1 J := by
  have h_ := h
  have n10_ : ¬ jn 1 = jn 0 := by decide
  obtain ⟨hn_, hb_, hp_, ht_, s_⟩ := h
  rcases s_ with ⟨a_, b_, _⟩ | ⟨L_, U_, V_, a_, b_, g_, gu_, gv_, S_, M_, hu_, mu_, hv_, mv_⟩
  · exact ⟨.inl 0, I, jn 0, ev_u2 I 241 0 (jn 1), by simp only [d_F_handOver, f_t0 a_, f_f0 (n := n) a_, f_n0 (n := n) a_, f_u0 (n := n) a_, ob_s, eq_self, if_true, if_false, n10_, not_false_eq_true], by simp only [d_M_handOver, m_f0 b_, m_n0 b_, m_u0 b_, b_, m_two0, m_may0, m_mU0 b_, m_look0 b_, ob_s, eq_self, if_true, if_false, n10_, not_false_eq_true], ⟨1, by decide, ju_at ..⟩, Inx_k h_ _⟩
  have F_ := g_.1
  have C_ := g_.2.1
  have N_ := g_.2.2.1
  have T_ := g_.2.2.2.1
  have P_ := g_.2.2.2.2.1
  by_cases hx_ : jlt x1 (qN L_)
  rotate_left
  · exact ⟨.inl 1, I, jn 0, ev_u2 I 241 0 (jn 2), by simp only [d_F_handOver, f_nN a_ S_ g_ hx_, ob_s, eq_self, if_true, if_false, n10_, not_false_eq_true], by simp only [d_M_handOver, m_nN b_ M_ g_ hx_, b_, m_two1, m_twoY, m_may1, m_may2, m_mayY, ob_s, eq_self, if_true, if_false, n10_, not_false_eq_true], ⟨2, by decide, ju_at ..⟩, Inx_k h_ _⟩
  have hx2_ := hx_
  obtain ⟨k_, hk_, rfl⟩ := hx_
  by_cases y_ : jn 0 < yof L_ k_ ∧ ¬ qn L_ k_ 3 = jn 1 ∧ ycul L_ k_ = jg 1
  rotate_left
  · refine ⟨.inl 2, I, jn 0, ev_u2 I 241 0 (jn 3), by simp only [d_F_handOver, f_nY a_ S_ g_ hx2_, sq_canHand S_ g_ hk_, if_neg y_, f_aN, ob_s, eq_self, if_true, if_false, n10_, not_false_eq_true], ?_, ⟨3, by decide, ju_at ..⟩, Inx_k h_ _⟩
    simp only [d_M_handOver, m_nY b_ M_ g_ hx2_, mq_canHand M_ g_ hk_, b_, n10_, if_false, if_neg y_, m_may2, ob_s, eq_self, if_true, if_false, n10_, not_false_eq_true]
  have hh_ : ¬ qn L_ k_ 3 = jn 1 := y_.2.1
  have h0_ := hov_0 g_ y_.2.2
  obtain ⟨J1_, e1_, S1_, k1_⟩ := chgC hn_ g_ S_ hu_ gu_
  obtain ⟨J2_, e2_, w_⟩ := sq_hov S1_ g_ hk_ hh_ h0_
  have g2_ : qG (Lhov L_ k_) := qG_hov g_ hk_ h0_
  obtain ⟨i1_, i2_, K1_, e3_, M1_, z_⟩ := chgM h_ a_ b_ g_ gu_ gv_ M_ mu_ hv_ mv_ k1_ w_ g2_
  have b2_ : J2_ 241 6 = jn 1 := by rw [i1_]; exact b_
  have M2_ : qM L_ B (J2_ 242) := by rw [i2_]; exact M_
  obtain ⟨K2_, e4_, m_⟩ := mq_hov M1_ g_ hk_
  obtain ⟨z0_, zI_⟩ := z_ B K2_ (by omega) m_
  refine ⟨.inr (ypd L_ k_), J2_, ypd L_ k_, K2_, ?_, ?_, ⟨rfl, z0_⟩, zI_⟩
  · simp only [d_F_handOver, f_nY a_ S_ g_ hx2_, sq_canHand S_ g_ hk_, if_pos y_, f_aY, e1_, e2_, ob_s, eq_self, if_true, if_false, n10_, not_false_eq_true]
  · simp only [d_M_handOver, m_nY b2_ M2_ g_ hx2_, mq_canHand M2_ g_ hk_, b2_, n10_, if_false, if_pos y_, m_mayY, e3_, ob_s, eq_self, if_true, if_false, n10_, not_false_eq_true]
    exact e4_
theorem op_pass (h : Inv n B I) (x1 : Int32) : ∃ r J1 v J, d_F_pass n x1 I = some (r, J1) ∧ d_M_pass x1 J1 = some (v, J) ∧ opR [(0, 1), (2, 2)] r v J ∧ Inx n B I J1 J := by
  have h_ := h
  have n10_ : ¬ jn 1 = jn 0 := by decide
  obtain ⟨hn_, hb_, hp_, ht_, s_⟩ := h
  rcases s_ with ⟨a_, b_, _⟩ | ⟨L_, U_, V_, a_, b_, g_, gu_, gv_, S_, M_, hu_, mu_, hv_, mv_⟩
  · exact ⟨.inl 0, I, jn 0, ev_u2 I 241 0 (jn 1), by simp only [d_F_pass, f_t0 a_, f_f0 (n := n) a_, f_n0 (n := n) a_, f_u0 (n := n) a_, ob_s, eq_self, if_true, if_false, n10_, not_false_eq_true], by simp only [d_M_pass, m_f0 b_, m_n0 b_, m_u0 b_, b_, m_two0, m_may0, m_mU0 b_, m_look0 b_, rp_rng, ob_s, eq_self, if_true, if_false, n10_, not_false_eq_true], ⟨1, by decide, ju_at ..⟩, Inx_k h_ _⟩
  have F_ := g_.1
  have C_ := g_.2.1
  have N_ := g_.2.2.1
  have T_ := g_.2.2.2.1
  have P_ := g_.2.2.2.2.1
  by_cases hy_ : ¬ x1 < jn 1 ∧ ¬ jn 50 < x1
  rotate_left
  · exact ⟨.inl 2, I, jn 0, ev_u2 I 241 0 (jn 2), by simp only [d_F_pass, f_t1 a_, f_rN hy_, ob_s, eq_self, if_true, if_false, n10_, not_false_eq_true], by simp only [d_M_pass, m_rN hy_, b_, m_two1, m_twoY, m_may1, m_may2, m_mayY, ob_s, eq_self, if_true, if_false, n10_, not_false_eq_true], ⟨2, by decide, ju_at ..⟩, Inx_k h_ _⟩
  obtain ⟨k_, hk_, rfl⟩ := rng_n (by omega) (by omega) hy_
  obtain ⟨J1_, e1_, S1_, k1_⟩ := chgC hn_ g_ S_ hu_ gu_
  obtain ⟨J2_, e2_, w_⟩ := sq_pass S1_ g_ (by omega) (show k_ < 1000 by omega)
  have g2_ : qG (Lpss L_ k_) := qG_pss g_ k_
  obtain ⟨i1_, i2_, K1_, e3_, M1_, z_⟩ := chgM h_ a_ b_ g_ gu_ gv_ M_ mu_ hv_ mv_ k1_ w_ g2_
  have b2_ : J2_ 241 6 = jn 1 := by rw [i1_]; exact b_
  have M2_ : qM L_ B (J2_ 242) := by rw [i2_]; exact M_
  obtain ⟨⟨r1_, K2_⟩, e4_, m_⟩ := mq_pass M1_ g_ (show k_ < 1000 by omega)
  obtain ⟨z0_, zI_⟩ := z_ B K2_ (by omega) m_
  have q5_ : K1_ 242 (z_n (jn 5)) = qs L_ 5 := by rw [jn_n (by omega)]; exact M1_.1 5 (by omega)
  have q6_ : K2_ 242 (z_n (jn 5)) = qs (Lpss L_ k_) 5 := by rw [jn_n (by omega)]; exact m_.1.1 5 (by omega)
  refine ⟨.inr (qs (Lpss L_ k_) 5 - qs L_ 5), J2_, qs (Lpss L_ k_) 5 - qs L_ 5, K2_, ?_, ?_, ⟨rfl, z0_⟩, zI_⟩
  · simp only [d_F_pass, f_t1 a_, f_rYi hy_, e1_, e2_, ob_s, eq_self, if_true, if_false, n10_, not_false_eq_true]
  · simp only [d_M_pass, m_rY hy_, b2_, if_pos (in173 (show 5 < 173 by omega)), q5_, q6_, m_two1, m_twoY, m_may1, m_may2, m_mayY, e3_, e4_, ob_s, eq_self, if_true, if_false, n10_, not_false_eq_true]
theorem op_setWind (h : Inv n B I) (x1 : Int32) : ∃ r J1 v J, d_F_setWind n x1 I = some (r, J1) ∧ d_M_setWind x1 J1 = some (v, J) ∧ opR [(0, 1), (2, 2)] r v J ∧ Inx n B I J1 J := by
  have h_ := h
  have n10_ : ¬ jn 1 = jn 0 := by decide
  obtain ⟨hn_, hb_, hp_, ht_, s_⟩ := h
  rcases s_ with ⟨a_, b_, _⟩ | ⟨L_, U_, V_, a_, b_, g_, gu_, gv_, S_, M_, hu_, mu_, hv_, mv_⟩
  · exact ⟨.inl 0, I, jn 0, ev_u2 I 241 0 (jn 1), by simp only [d_F_setWind, f_t0 a_, f_f0 (n := n) a_, f_n0 (n := n) a_, f_u0 (n := n) a_, ob_s, eq_self, if_true, if_false, n10_, not_false_eq_true], by simp only [d_M_setWind, m_f0 b_, m_n0 b_, m_u0 b_, b_, m_two0, m_may0, m_mU0 b_, m_look0 b_, m_isW, ob_s, eq_self, if_true, if_false, n10_, not_false_eq_true], ⟨1, by decide, ju_at ..⟩, Inx_k h_ _⟩
  have F_ := g_.1
  have C_ := g_.2.1
  have N_ := g_.2.2.1
  have T_ := g_.2.2.2.1
  have P_ := g_.2.2.2.2.1
  by_cases hy_ : ¬ x1 < jn 0 ∧ ¬ jn 9 < x1
  rotate_left
  · exact ⟨.inl 2, I, jn 0, ev_u2 I 241 0 (jn 2), by simp only [d_F_setWind, f_t1 a_, f_rN hy_, ob_s, eq_self, if_true, if_false, n10_, not_false_eq_true], by simp only [d_M_setWind, m_isW, if_neg hy_, b_, m_two1, m_twoY, m_may1, m_may2, m_mayY, ob_s, eq_self, if_true, if_false, n10_, not_false_eq_true], ⟨2, by decide, ju_at ..⟩, Inx_k h_ _⟩
  obtain ⟨J1_, e1_, S1_, k1_⟩ := chgC hn_ g_ S_ hu_ gu_
  obtain ⟨J2_, e2_, w_⟩ : ∃ J2, J2 = ev_u2 J1_ (n + 7) 1 x1 ∧ WS (ls L_ 1 x1) J1_ J2 (n + 7) (n + 1) := ⟨_, rfl, sq_wind S1_ g_ (by omega) x1⟩
  have g2_ : qG (ls L_ 1 x1) := qG_w g_ (rng_j (by omega) hy_ (show jn 10 - jn 1 = jn 9 by decide))
  obtain ⟨i1_, i2_, K1_, e3_, M1_, z_⟩ := chgM h_ a_ b_ g_ gu_ gv_ M_ mu_ hv_ mv_ k1_ w_ g2_
  have b2_ : J2_ 241 6 = jn 1 := by rw [i1_]; exact b_
  have M2_ : qM L_ B (J2_ 242) := by rw [i2_]; exact M_
  obtain ⟨K2_, e4_, m_⟩ : ∃ K2, K2 = ev_u2 K1_ 242 1 x1 ∧ WM (ls L_ 1 x1) B K1_ K2 := ⟨_, rfl, mq_wind M1_ x1⟩
  obtain ⟨z0_, zI_⟩ := z_ B K2_ (by omega) m_
  have j1_ : J1_ (n + 7) 1 = qs L_ 1 := S1_.1 1 (by omega)
  have q3_ : z_n (jn 1) = 1 := jn_n (by omega)
  have q1_ : K1_ 242 1 = qs L_ 1 := M1_.1 1 (by omega)
  refine ⟨.inr (qs L_ 1), J2_, qs L_ 1, K2_, ?_, ?_, ⟨rfl, z0_⟩, zI_⟩
  · simp only [d_F_setWind, f_t1 a_, f_rYi hy_, j1_, e1_, e2_, ob_s, eq_self, if_true, if_false, n10_, not_false_eq_true]
  · simp only [d_M_setWind, m_isW, if_pos hy_, b2_, if_pos (in173 (show 1 < 173 by omega)), q1_, q3_, m_two1, m_twoY, m_may1, m_may2, m_mayY, e3_, e4_, ob_s, eq_self, if_true, if_false, n10_, not_false_eq_true]
theorem op_addFlag (h : Inv n B I) (x1 : Int32) (x2 : Int32) (x3 : Int32) (x4 : Int32) : ∃ r J1 v J, d_F_addFlag n x1 x2 x3 x4 I = some (r, J1) ∧ d_M_addFlag x1 x2 x3 x4 J1 = some (v, J) ∧ opR [(0, 1), (1, 2), (2, 3)] r v J ∧ Inx n B I J1 J := by
  have h_ := h
  have n10_ : ¬ jn 1 = jn 0 := by decide
  obtain ⟨hn_, hb_, hp_, ht_, s_⟩ := h
  rcases s_ with ⟨a_, b_, _⟩ | ⟨L_, U_, V_, a_, b_, g_, gu_, gv_, S_, M_, hu_, mu_, hv_, mv_⟩
  · exact ⟨.inl 0, I, jn 0, ev_u2 I 241 0 (jn 1), by simp only [d_F_addFlag, f_t0 a_, f_f0 (n := n) a_, f_n0 (n := n) a_, f_u0 (n := n) a_, ob_s, eq_self, if_true, if_false, n10_, not_false_eq_true], by simp only [d_M_addFlag, m_f0 b_, m_n0 b_, m_u0 b_, b_, m_two0, m_may0, m_mU0 b_, m_look0 b_, ob_s, eq_self, if_true, if_false, n10_, not_false_eq_true], ⟨1, by decide, ju_at ..⟩, Inx_k h_ _⟩
  have F_ := g_.1
  have C_ := g_.2.1
  have N_ := g_.2.2.1
  have T_ := g_.2.2.2.1
  have P_ := g_.2.2.2.2.1
  by_cases hx_ : jlt x1 (qN L_)
  rotate_left
  · exact ⟨.inl 1, I, jn 0, ev_u2 I 241 0 (jn 2), by simp only [d_F_addFlag, f_nN a_ S_ g_ hx_, ob_s, eq_self, if_true, if_false, n10_, not_false_eq_true], by simp only [d_M_addFlag, m_nN b_ M_ g_ hx_, b_, m_two1, m_twoY, m_may1, m_may2, m_mayY, ob_s, eq_self, if_true, if_false, n10_, not_false_eq_true], ⟨2, by decide, ju_at ..⟩, Inx_k h_ _⟩
  have hx2_ := hx_
  obtain ⟨k_, hk_, rfl⟩ := hx_
  have ec_ : d_U_allColours (n + 1) I = some (jn (2 ^ qC L_ - 1)) := by
    unfold d_U_allColours
    rw [S_.2.2.2.1, all_c C_]
  have em_ : ((jn 1) <<< ((I 242 (z_n (jn 6))) &&& 31)) - (jn 1) = jn (2 ^ qC L_ - 1) := by rw [m_c6 M_, all_c C_]
  by_cases h2_ : ¬ x2 < jn 1 ∧ ¬ jn (2 ^ qC L_ - 1) < x2
  rotate_left
  · exact ⟨.inl 2, I, jn 0, ev_u2 I 241 0 (jn 3), by simp only [d_F_addFlag, f_nY a_ S_ g_ hx2_, ec_, f_rN h2_, ob_s, eq_self, if_true, if_false, n10_, not_false_eq_true], by simp only [d_M_addFlag, m_nY b_ M_ g_ hx2_, if_pos (in173 (show 6 < 173 by omega)), em_, m_rN h2_, b_, m_two1, m_twoY, m_may1, m_may2, m_mayY, ob_s, eq_self, if_true, if_false, n10_, not_false_eq_true], ⟨3, by decide, ju_at ..⟩, Inx_k h_ _⟩
  by_cases h3_ : ¬ x3 < jn 0 ∧ ¬ jn 3 < x3
  rotate_left
  · exact ⟨.inl 2, I, jn 0, ev_u2 I 241 0 (jn 3), by simp only [d_F_addFlag, f_nY a_ S_ g_ hx2_, ec_, f_rYi h2_, f_rN h3_, ob_s, eq_self, if_true, if_false, n10_, not_false_eq_true], by simp only [d_M_addFlag, m_nY b_ M_ g_ hx2_, if_pos (in173 (show 6 < 173 by omega)), em_, m_rY h2_, m_rN h3_, b_, m_two1, m_twoY, m_may1, m_may2, m_mayY, ob_s, eq_self, if_true, if_false, n10_, not_false_eq_true], ⟨3, by decide, ju_at ..⟩, Inx_k h_ _⟩
  by_cases h4_ : ¬ x4 < jn 0 ∧ ¬ jn 9 < x4
  rotate_left
  · exact ⟨.inl 2, I, jn 0, ev_u2 I 241 0 (jn 3), by simp only [d_F_addFlag, f_nY a_ S_ g_ hx2_, ec_, f_rYi h2_, f_rYi h3_, f_rN h4_, ob_s, eq_self, if_true, if_false, n10_, not_false_eq_true], by simp only [d_M_addFlag, m_nY b_ M_ g_ hx2_, if_pos (in173 (show 6 < 173 by omega)), em_, m_rY h2_, m_rY h3_, m_rN h4_, b_, m_two1, m_twoY, m_may1, m_may2, m_mayY, ob_s, eq_self, if_true, if_false, n10_, not_false_eq_true], ⟨3, by decide, ju_at ..⟩, Inx_k h_ _⟩
  by_cases y_ : qn L_ k_ 3 = jn 1
  · exact ⟨.inl 2, I, jn 0, ev_u2 I 241 0 (jn 3), by simp only [d_F_addFlag, f_nY a_ S_ g_ hx2_, ec_, f_rYi h2_, f_rYi h3_, f_rYi h4_, sq_hand S_ g_ hk_, if_pos y_, f_aN, ob_s, eq_self, if_true, if_false, n10_, not_false_eq_true], by simp only [d_M_addFlag, m_nY b_ M_ g_ hx2_, if_pos (in173 (show 6 < 173 by omega)), em_, m_rY h2_, m_rY h3_, m_rY h4_, mq_hand M_ g_ hk_, if_pos (in173 (show 10 < 173 by omega)), mq_F M_, b_, m_two1, m_twoY, m_may1, m_may2, m_mayY, if_pos y_, ob_s, eq_self, if_true, if_false, n10_, not_false_eq_true], ⟨3, by decide, ju_at ..⟩, Inx_k h_ _⟩
  have f6_ : I (n + 7) 6 = jn (qF L_) := S_.2.1
  by_cases z2_ : jn (qF L_) < jn 12
  rotate_left
  · exact ⟨.inl 2, I, jn 0, ev_u2 I 241 0 (jn 3), by simp only [d_F_addFlag, f_nY a_ S_ g_ hx2_, ec_, f_rYi h2_, f_rYi h3_, f_rYi h4_, sq_hand S_ g_ hk_, if_neg y_, f6_, if_neg z2_, f_aN, ob_s, eq_self, if_true, if_false, n10_, not_false_eq_true], by simp only [d_M_addFlag, m_nY b_ M_ g_ hx2_, if_pos (in173 (show 6 < 173 by omega)), em_, m_rY h2_, m_rY h3_, m_rY h4_, mq_hand M_ g_ hk_, if_pos (in173 (show 10 < 173 by omega)), mq_F M_, b_, m_two1, m_twoY, m_may1, m_may2, m_mayY, if_neg y_, if_neg z2_, ob_s, eq_self, if_true, if_false, n10_, not_false_eq_true], ⟨3, by decide, ju_at ..⟩, Inx_k h_ _⟩
  have zF_ : qF L_ < 12 := by rw [jn_lt (by omega) (by omega)] at z2_; exact z2_
  have j2_ : jlt x2 (2 ^ qC L_) := by
    have c64_ : 2 ^ qC L_ ≤ 64 := Nat.pow_le_pow_right (n := 2) (by omega) C_
    obtain ⟨v_, hv2_, ev_⟩ := rng_n (by omega) (by omega) h2_
    exact ⟨v_, by have p_ : 0 < 2 ^ qC L_ := Nat.pow_pos (by omega); omega, ev_⟩
  have j3_ : jlt x3 4 := rng_j (by omega) h3_ (by decide)
  have j4_ : jlt x4 10 := rng_j (by omega) h4_ (by decide)
  obtain ⟨J1_, e1_, S1_, k1_⟩ := chgC hn_ g_ S_ hu_ gu_
  obtain ⟨J2_, e2_, w_⟩ := sq_bring S1_ g_ (by omega) zF_ hx2_ j2_ j3_ j4_
  have g2_ : qG (Ladd L_ (jn k_) x2 x3 x4) := qG_add g_ zF_ hx2_ j2_ j3_ j4_
  obtain ⟨i1_, i2_, K1_, e3_, M1_, z_⟩ := chgM h_ a_ b_ g_ gu_ gv_ M_ mu_ hv_ mv_ k1_ w_ g2_
  have b2_ : J2_ 241 6 = jn 1 := by rw [i1_]; exact b_
  have M2_ : qM L_ B (J2_ 242) := by rw [i2_]; exact M_
  obtain ⟨K2_, e4_, m_⟩ := mq_adds (x := jn k_) (y := x2) (w := x3) (v := x4) M1_ g_ zF_
  obtain ⟨z0_, zI_⟩ := z_ B K2_ (by omega) m_
  have em2_ : ((jn 1) <<< ((J2_ 242 (z_n (jn 6))) &&& 31)) - (jn 1) = jn (2 ^ qC L_ - 1) := by rw [m_c6 M2_, all_c C_]
  refine ⟨.inr (jn (qF L_)), J2_, jn (qF L_), K2_, ?_, ?_, ⟨rfl, z0_⟩, zI_⟩
  · simp only [d_F_addFlag, f_nY a_ S_ g_ hx2_, ec_, f_rYi h2_, f_rYi h3_, f_rYi h4_, sq_hand S_ g_ hk_, if_neg y_, f6_, if_pos z2_, f_aY, e1_, e2_, ob_s, eq_self, if_true, if_false, n10_, not_false_eq_true]
  · simp only [d_M_addFlag, m_nY b2_ M2_ g_ hx2_, if_pos (in173 (show 6 < 173 by omega)), em2_, m_rY h2_, m_rY h3_, m_rY h4_, mq_hand M2_ g_ hk_, if_pos (in173 (show 10 < 173 by omega)), mq_F M2_, b2_, if_neg y_, if_pos z2_, m_two1, m_twoY, m_may1, m_may2, m_mayY, e3_, e4_, ob_s, eq_self, if_true, if_false, n10_, not_false_eq_true]
end CHG
