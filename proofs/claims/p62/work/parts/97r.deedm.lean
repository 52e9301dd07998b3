/-! the reference's lines of deeds and flags -/
section DDM
variable {N q q0 B : Nat} {A : Nat → Int32} {I J : z_H} {L : LL} {lo hi : Int32}
/-- on, where the token is one -/
theorem rp_onS (h : rP N A q I) (hk : ¬ tK N A q = 0) (hA : mA N A I) (hN : N ≤ 500) (hS : mS L B I) : ∃ J, d_M_goes I = some J ∧ mF I J ∧ mA N A J ∧ mS L B J ∧ rP N A (nx N A q) J := by
  obtain ⟨J_, e_, f1_, f2_, p_⟩ := rp_on h hk hA hN
  have F_ := mF_1 f1_ f2_
  exact ⟨J_, e_, F_, mA_F hA F_, mS_2 hS (f1_ 242 (by omega)), p_⟩
/-- a fault told at the token ahead, then nothing more -/
theorem rp_told (h : rP N A q I) (c : Nat) (hc : ¬ c = 0) (hc5 : c < 5) : ∃ J, d_M_faults (jn c) I = some J ∧ mF I J ∧ fM (c, q) J ∧ jn 0 < J 241 10 ∧ ¬ J 241 10 = jn 0 := by
  obtain ⟨J_, e_, f1_, f2_, m_⟩ := rp_fault h c
  have p_ : jn 0 < J_ 241 10 := by
    rw [m_.1]
    show jn 0 < jn c
    rw [jn_lt (by omega) (by omega)]
    omega
  exact ⟨J_, e_, mF_1 f1_ f2_, m_, p_, fun q_ => by rw [q_] at p_; exact absurd p_ (by decide)⟩
theorem rp_wind (h : rP N A q0 I) (hk : ¬ tK N A q0 = 0) (hA : mA N A I) (hN : N ≤ 500) (hS : mS L B I) (g : qG L) (hB : B ≤ q0) : ∃ J, d_M_readsWind I = some J ∧ mF I J ∧ mR N A (aWind N A (nx N A q0) L) J := by
  have nl_ := (nx_le (A := A) h.2.2.2.2.2.2.2).1
  obtain ⟨J_, e_, F_, A_, S_, P_⟩ := rp_onS h hk hA hN hS
  obtain ⟨v_, J2_, e2_, F2_, A2_, S2_, w_⟩ := rp_numS (lo := jn 0) (hi := jn 9) P_ A_ hN S_
  have G2_ := mF_tr F_ F2_
  unfold d_M_readsWind aWind
  rw [e_, ob_s, e2_, ob_s]
  dsimp only
  rcases w_ with ⟨x_, ex_, fx_, p_, n_⟩ | ⟨r_, er_, p_, _, _, z_, l1_, l2_⟩
  · rw [if_neg n_, ob_s, ex_]
    exact ⟨_, rfl, G2_, Or.inl ⟨_, rfl, Or.inl fx_⟩⟩
  · obtain ⟨zz_, m_⟩ := S2_
    have w2_ := (mq_wind m_ v_).1
    rw [if_pos z_, if_pos (show z_in (jn 1) 173 by rw [jn_in (by omega)]; omega), ob_s, er_, eb_r, jn_n (by omega)]
    exact ⟨_, rfl, mF_tr G2_ (mF_2 (fun b hb => ju_na hb)), Or.inr ⟨_, _, rfl, rP_2 p_ (fun b hb => ju_na hb), zz_, qM_B w2_ (by omega)⟩⟩
theorem rp_passL {n : Nat} {q3 : Int32 × z_H} (hn : n < 1000) (e : q3.1 = jn n) (h : qM L B (I 242)) (g : qG L) (h0 : I 241 10 = jn 0) : ∃ r, z_it (d_M_readsPass_6 q3) z_F (jn 0, I) = some r ∧ WM (Lpss L n) B I r.2 := by
  refine z_inv (fun (i : Nat) (p : Int32 × z_H) => p.1 = jn i ∧ WM (Lpss L i) B I p.2) (fun (p : Int32 × z_H) => WM (Lpss L n) B I p.2) (n := n) (by omega) ⟨rfl, h, fun _ _ => rfl⟩ (fun i p hi hp => ?_) (fun p hp => ?_)
  · obtain ⟨e1_, hS_, hF_⟩ := hp
    obtain ⟨J_, e2_, h2_, f2_⟩ := mq_pass1 hS_ (qG_pss g i)
    unfold d_M_readsPass_6
    rw [e1_, e, if_pos (by rw [jn_lt (by omega) (by omega)]; exact hi), if_pos (show p.2 241 10 = jn 0 by rw [hF_ 241 (by omega)]; exact h0), e2_, ob_s, jn_add]
    exact ⟨_, rfl, rfl, h2_, fun a ha => (f2_ a ha).trans (hF_ a ha)⟩
  · obtain ⟨e1_, hS_, hF_⟩ := hp
    unfold d_M_readsPass_6
    rw [e1_, e, if_neg (by rw [jn_lt (by omega) (by omega)]; omega)]
    exact ⟨_, rfl, hS_, hF_⟩
theorem rp_pass (h : rP N A q0 I) (hk : ¬ tK N A q0 = 0) (hA : mA N A I) (hN : N ≤ 500) (hS : mS L B I) (g : qG L) (hB : B ≤ q0) : ∃ J, d_M_readsPass I = some J ∧ mF I J ∧ mR N A (aPass N A (nx N A q0) L) J := by
  have nl_ := (nx_le (A := A) h.2.2.2.2.2.2.2).1
  obtain ⟨J_, e_, F_, A_, S_, P_⟩ := rp_onS h hk hA hN hS
  obtain ⟨v_, J2_, e2_, F2_, A2_, S2_, w_⟩ := rp_numS (lo := jn 1) (hi := jn 50) P_ A_ hN S_
  have G2_ := mF_tr F_ F2_
  unfold d_M_readsPass aPass
  rw [e_, ob_s, e2_, ob_s]
  rcases w_ with ⟨x_, ex_, fx_, p_, n_⟩ | ⟨r_, er_, p_, b1_, b2_, z_, l1_, l2_⟩
  · have st_ : z_it (d_M_readsPass_6 (v_, J2_)) z_F (jn 0, J2_) = some (jn 0, J2_) := by
      show z_it (d_M_readsPass_6 (v_, J2_)) (99999 + 1) (jn 0, J2_) = _
      unfold z_it d_M_readsPass_6
      dsimp only
      by_cases w_ : jn 0 < v_
      · rw [if_pos w_, if_neg n_]
      · rw [if_neg w_]
    rw [st_, ob_s, ex_]
    exact ⟨_, rfl, G2_, Or.inl ⟨_, rfl, Or.inl fx_⟩⟩
  · obtain ⟨zz_, m_⟩ := S2_
    obtain ⟨k_, _, hk_, ek_⟩ := jrg (by omega) (by omega) b1_ b2_
    obtain ⟨r2_, e3_, w2_, f2_⟩ := rp_passL (q3 := (v_, J2_)) (n := k_) (by omega) ek_ m_ (qG_z g zz_) z_
    rw [e3_, ob_s, er_, eb_r]
    dsimp only
    rw [ek_, jn_n (by omega)]
    rw [lz_pss] at w2_
    exact ⟨_, rfl, mF_tr G2_ (mF_2 f2_), Or.inr ⟨_, _, rfl, rP_2 p_ f2_, zz_, qM_B w2_ (by omega)⟩⟩
theorem rp_hang (h : rP N A q0 I) (hk : ¬ tK N A q0 = 0) (hA : mA N A I) (hN : N ≤ 500) (hS : mS L B I) (g : qG L) (hB : B ≤ q0) : ∃ J, d_M_readsHang I = some J ∧ mF I J ∧ mR N A (aHang N A (nx N A q0) L) J := by
  have g1_ := g.1
  have nl_ := (nx_le (A := A) h.2.2.2.2.2.2.2).1
  obtain ⟨J_, e_, F_, A_, S_, P_⟩ := rp_onS h hk hA hN hS
  have c_ : J_ 242 (z_n (jn 10)) = jn (qF L) := by
    obtain ⟨z_, m_⟩ := S_
    exact mq_F (L := Lz L z_) m_
  obtain ⟨v_, J2_, e2_, F2_, A2_, S2_, w_⟩ := rp_hereS (lo := jn 0) (hi := jn (qF L) - jn 1) P_ A_ S_
  have G2_ := mF_tr F_ F2_
  unfold d_M_readsHang aHang
  rw [e_, ob_s, if_pos mq_in10, c_, e2_, ob_s]
  dsimp only
  rcases w_ with ⟨x_, ex_, fx_, p_, n_⟩ | ⟨r_, er_, eJ_, b1_, b2_, en_, k0_, l1_, l2_⟩
  · rw [if_neg n_, ob_s, if_neg n_, ob_s, rp_goes1 p_, ob_s, ex_]
    exact ⟨_, rfl, G2_, Or.inl ⟨_, rfl, Or.inl fx_⟩⟩
  · obtain ⟨f_, hf_, ef_⟩ := jrg1 (by omega) b1_ b2_
    obtain ⟨zz_, m_⟩ := S2_
    have gz_ := qG_z g zz_
    have P2_ : rP N A (nx N A q0) J2_ := by rw [eJ_]; exact P_
    have z_ := P2_.1
    have can_ : d_M_canHang (jn f_) J2_ = some (if qf L f_ 8 = jn 0 ∧ ¬ yfree L = jg 1 then jn 1 else jn 0) := mq_can m_ gz_ hf_
    rw [if_pos z_, ef_, can_, ob_s, er_, eb_r]
    dsimp only
    rw [ef_, jn_n (by omega)]
    by_cases y_ : qf L f_ 8 = jn 0 ∧ ¬ yfree L = jg 1
    · obtain ⟨J3_, e3_, w3_, f3_⟩ := mq_hang m_ gz_ hf_
      have P3_ := rP_2 P2_ f3_
      obtain ⟨J4_, e4_, F4_, A4_, S4_, P4_⟩ := rp_onS (L := Lmv L f_ (jn 2) (yfree L)) P3_ k0_ (mA_F A2_ (mF_2 f3_)) hN ⟨zz_, w3_⟩
      rw [if_pos y_, if_neg (show ¬ jn 1 = jn 0 by decide), ob_s, if_pos z_, e3_, ob_s, ob_s, e4_, ob_s, if_pos y_]
      exact ⟨_, rfl, mF_tr G2_ (mF_tr (mF_2 f3_) F4_), Or.inr ⟨_, _, rfl, by rw [en_]; exact P4_, mS_B S4_ (by omega)⟩⟩
    · obtain ⟨J3_, e3_, F3_, x3_, p3_, n3_⟩ := rp_told P2_ 3 (by omega) (by omega)
      rw [if_neg y_, if_pos rfl, e3_, ob_s, ob_s, if_neg n3_, ob_s, rp_goes1 p3_, ob_s, if_neg y_]
      exact ⟨_, rfl, mF_tr G2_ F3_, Or.inl ⟨_, rfl, Or.inl x3_⟩⟩
theorem rp_put (h : rP N A q0 I) (hk : ¬ tK N A q0 = 0) (hA : mA N A I) (hN : N ≤ 500) (hS : mS L B I) (g : qG L) (hB : B ≤ q0) : ∃ J, d_M_readsPut I = some J ∧ mF I J ∧ mR N A (aPut N A (nx N A q0) L) J := by
  have g1_ := g.1
  have g4_ := g.2.2.2.1
  have nl_ := (nx_le (A := A) h.2.2.2.2.2.2.2).1
  have in8_ : z_in (jn 8) 173 := by rw [jn_in (by omega)]; omega
  obtain ⟨J_, e_, F_, A_, S_, P_⟩ := rp_onS h hk hA hN hS
  have c_ : J_ 242 (z_n (jn 10)) = jn (qF L) := by
    obtain ⟨z_, m_⟩ := S_
    exact mq_F (L := Lz L z_) m_
  obtain ⟨v_, J2_, e2_, F2_, A2_, S2_, w_⟩ := rp_numS (lo := jn 0) (hi := jn (qF L) - jn 1) P_ A_ hN S_
  have G2_ := mF_tr F_ F2_
  have c8_ : J2_ 242 (z_n (jn 8)) = jn (qT L) := by
    obtain ⟨z_, m_⟩ := S2_
    rw [jn_n (by omega)]
    exact m_.2.2.2.1
  unfold d_M_readsPut aPut
  rw [e_, ob_s, if_pos mq_in10, c_, e2_, ob_s, if_pos in8_]
  dsimp only
  rw [c8_]
  rcases w_ with ⟨x_, ex_, fx_, p_, n_⟩ | ⟨r_, er_, P2_, b1_, b2_, z_, l1_, l2_⟩
  · rw [rp_here1 p_, ob_s, if_neg n_, ob_s, if_neg n_, ob_s, rp_goes1 p_, ob_s, ex_]
    exact ⟨_, rfl, G2_, Or.inl ⟨_, rfl, Or.inl fx_⟩⟩
  obtain ⟨v2_, J3_, e3_, F3_, A3_, S3_, w3_⟩ := rp_hereS (lo := jn 0) (hi := jn (qT L) - jn 1) P2_ A2_ S2_
  have G3_ := mF_tr G2_ F3_
  rw [e3_, ob_s, er_, eb_r]
  dsimp only
  rcases w3_ with ⟨x_, ex_, fx_, p_, n_⟩ | ⟨r2_, er2_, eJ_, b3_, b4_, en_, k0_, l3_, l4_⟩
  · rw [if_neg n_, ob_s, if_neg n_, ob_s, rp_goes1 p_, ob_s, ex_]
    exact ⟨_, rfl, G3_, Or.inl ⟨_, rfl, Or.inl fx_⟩⟩
  · obtain ⟨f_, hf_, ef_⟩ := jrg1 (by omega) b1_ b2_
    obtain ⟨t_, ht_, et_⟩ := jrg1 (by omega) b3_ b4_
    obtain ⟨zz_, m_⟩ := S3_
    have gz_ := qG_z g zz_
    have P3_ : rP N A r_ J3_ := by rw [eJ_]; exact P2_
    have z3_ := P3_.1
    have why_ : d_M_whyPut (jn f_) (jn t_) J3_ = some (yput L f_ t_) := mq_put m_ gz_ hf_ ht_
    rw [if_pos z3_, ef_, et_, why_, ob_s, er2_, eb_r]
    dsimp only
    rw [et_, jn_n (a := f_) (by omega), jn_n (a := t_) (by omega)]
    by_cases y_ : yput L f_ t_ = jn 0
    · have h8_ : qf L f_ 8 = jn 0 := by
        unfold yput at y_
        by_cases q_ : qf L f_ 8 = jn 0
        · exact q_
        · rw [if_neg q_] at y_
          exact absurd y_ (by decide)
      obtain ⟨J4_, e4_, w4_, f4_⟩ := mq_putsInto m_ gz_ (by omega) hf_ ht_ h8_
      have P4_ := rP_2 P3_ f4_
      obtain ⟨J5_, e5_, F5_, A5_, S5_, P5_⟩ := rp_onS (L := Lput L f_ t_) P4_ k0_ (mA_F A3_ (mF_2 f4_)) hN ⟨zz_, w4_⟩
      rw [if_pos y_, ob_s, if_pos z3_, e4_, ob_s, ob_s, e5_, ob_s, if_pos y_]
      exact ⟨_, rfl, mF_tr G3_ (mF_tr (mF_2 f4_) F5_), Or.inr ⟨_, _, rfl, by rw [en_]; exact P5_, mS_B S5_ (by omega)⟩⟩
    · obtain ⟨J4_, e4_, F4_, x4_, p4_, n4_⟩ := rp_told P3_ 3 (by omega) (by omega)
      rw [if_neg y_, e4_, ob_s, ob_s, if_neg n4_, ob_s, rp_goes1 p4_, ob_s, if_neg y_]
      exact ⟨_, rfl, mF_tr G3_ F4_, Or.inl ⟨_, rfl, Or.inl x4_⟩⟩
theorem rp_wash (h : rP N A q0 I) (hk : ¬ tK N A q0 = 0) (hA : mA N A I) (hN : N ≤ 500) (hS : mS L B I) (g : qG L) (hB : B ≤ q0) : ∃ J, d_M_readsWash I = some J ∧ mF I J ∧ mR N A (aWash N A (nx N A q0) L) J := by
  have g4_ := g.2.2.2.1
  have nl_ := (nx_le (A := A) h.2.2.2.2.2.2.2).1
  have in8_ : z_in (jn 8) 173 := by rw [jn_in (by omega)]; omega
  obtain ⟨J_, e_, F_, A_, S_, P_⟩ := rp_onS h hk hA hN hS
  have c_ : J_ 242 (z_n (jn 8)) = jn (qT L) := by
    obtain ⟨z_, m_⟩ := S_
    rw [jn_n (by omega)]
    exact m_.2.2.2.1
  obtain ⟨v_, J2_, e2_, F2_, A2_, S2_, w_⟩ := rp_numS (lo := jn 0) (hi := jn (qT L) - jn 1) P_ A_ hN S_
  have G2_ := mF_tr F_ F2_
  unfold d_M_readsWash aWash
  rw [e_, ob_s, if_pos in8_, c_, e2_, ob_s]
  dsimp only
  rcases w_ with ⟨x_, ex_, fx_, p_, n_⟩ | ⟨r_, er_, P2_, b1_, b2_, z_, l1_, l2_⟩
  · rw [rp_here1 p_, ob_s, if_neg n_, ob_s, if_pos p_, ex_]
    exact ⟨_, rfl, G2_, Or.inl ⟨_, rfl, Or.inl fx_⟩⟩
  obtain ⟨v2_, J3_, e3_, F3_, A3_, S3_, w3_⟩ := rp_hereS (lo := jn 0) (hi := jn 3) P2_ A2_ S2_
  have G3_ := mF_tr G2_ F3_
  rw [e3_, ob_s, er_, eb_r]
  dsimp only
  rcases w3_ with ⟨x_, ex_, fx_, p_, n_⟩ | ⟨r2_, er2_, eJ_, b3_, b4_, en_, k0_, l3_, l4_⟩
  · rw [if_neg n_, ob_s, if_pos p_, ex_]
    exact ⟨_, rfl, G3_, Or.inl ⟨_, rfl, Or.inl fx_⟩⟩
  · obtain ⟨t_, ht_, et_⟩ := jrg1 (by omega) b1_ b2_
    obtain ⟨zz_, m_⟩ := S3_
    have gz_ := qG_z g zz_
    have P3_ : rP N A r_ J3_ := by rw [eJ_]; exact P2_
    have z3_ := P3_.1
    have why_ : d_M_whyWash (jn t_) v2_ J3_ = some (ywash L t_ v2_) := mq_wash m_ gz_ ht_ v2_
    rw [if_pos z3_, et_, why_, ob_s, er2_, eb_r]
    dsimp only
    rw [jn_n (a := t_) (by omega)]
    by_cases y_ : ywash L t_ v2_ = jn 0
    · obtain ⟨J4_, e4_, w4_, f4_⟩ := mq_washTub m_ gz_ ht_ v2_
      have P4_ := rP_2 P3_ f4_
      obtain ⟨J5_, e5_, F5_, A5_, S5_, P5_⟩ := rp_onS (L := Lwsh L t_ v2_) P4_ k0_ (mA_F A3_ (mF_2 f4_)) hN ⟨zz_, w4_⟩
      rw [if_pos y_, ob_s, if_neg (show ¬ jn 0 < J3_ 241 10 by rw [z3_]; decide), e4_, ob_s, e5_, ob_s, if_pos y_]
      exact ⟨_, rfl, mF_tr G3_ (mF_tr (mF_2 f4_) F5_), Or.inr ⟨_, _, rfl, by rw [en_]; exact P5_, mS_B S5_ (by omega)⟩⟩
    · obtain ⟨J4_, e4_, F4_, x4_, p4_, n4_⟩ := rp_told P3_ 3 (by omega) (by omega)
      rw [if_neg y_, e4_, ob_s, ob_s, if_pos p4_, if_neg y_]
      exact ⟨_, rfl, mF_tr G3_ F4_, Or.inl ⟨_, rfl, Or.inl x4_⟩⟩
/-- one colour, as the reference reads it -/
theorem rp_col1 (h : jn 0 < I 241 10) (h0 : ¬ I 241 10 = jn 0) (set : Int32) : d_M_colourRead set I = some (set, I) := by
  unfold d_M_colourRead
  rw [if_pos (show z_in (jn 6) 173 by rw [jn_in (by omega)]; omega), rp_here1 h, ob_s, if_neg h0, ob_s, rp_goes1 h, ob_s, if_pos h, ob_s]
theorem rp_col (h : rP N A q I) (hA : mA N A I) (hN : N ≤ 500) (hS : mS L B I) (g : qG L) {set : Int32} (hs : jlt set 64) : ∃ s J, d_M_colourRead set I = some (s, J) ∧ mF I J ∧ mA N A J ∧ mS L B J ∧ ((∃ e, aCol N A (jn (qC L) - jn 1) set q = .inl e ∧ fM e J ∧ jn 0 < J 241 10 ∧ ¬ J 241 10 = jn 0) ∨ (∃ r, aCol N A (jn (qC L) - jn 1) set q = .inr (s, r) ∧ rP N A r J)) := by
  have g2_ := g.2.1
  obtain ⟨k_, hk_, ek_⟩ := hs
  have in6_ : z_in (jn 6) 173 := by rw [jn_in (by omega)]; omega
  have c_ : I 242 (z_n (jn 6)) = jn (qC L) := by
    obtain ⟨z_, m_⟩ := hS
    rw [jn_n (by omega)]
    exact m_.2.1
  obtain ⟨v_, J2_, e2_, F2_, A2_, S2_, w_⟩ := rp_hereS (lo := jn 0) (hi := jn (qC L) - jn 1) h hA hS
  unfold d_M_colourRead aCol
  rw [if_pos in6_, c_, e2_, ob_s]
  dsimp only
  rcases w_ with ⟨x_, ex_, fx_, p_, n_⟩ | ⟨r_, er_, eJ_, b1_, b2_, en_, k0_, l1_, l2_⟩
  · rw [if_neg n_, ob_s, rp_goes1 p_, ob_s, if_pos p_, ob_s, ex_]
    exact ⟨_, _, rfl, F2_, A2_, S2_, Or.inl ⟨_, rfl, fx_, p_, n_⟩⟩
  · obtain ⟨c2_, hc_, ec_⟩ := jrg1 (by omega) b1_ b2_
    have P2_ : rP N A q J2_ := by rw [eJ_]; exact h
    have z_ := P2_.1
    have bb_ := jbit1 ⟨k_, hk_⟩ ⟨c2_, by omega⟩
    rw [if_pos z_, mq_has, ob_s, er_, eb_r]
    dsimp only
    by_cases b_ : (set >>> (v_ &&& 31)) &&& jn 1 = jn 0
    · have b9_ := b_
      rw [ek_, ec_] at b9_
      obtain ⟨J3_, e3_, F3_, A3_, S3_, P3_⟩ := rp_onS P2_ k0_ A2_ hN S2_
      rw [if_pos (show (if (set >>> (v_ &&& 31)) &&& jn 1 = jn 1 then jn 1 else jn 0) = jn 0 by rw [ek_, ec_]; exact bb_.mpr b9_), ob_s, e3_, ob_s, if_neg (show ¬ jn 0 < J3_ 241 10 by rw [P3_.1]; decide), ob_s, if_pos b_]
      exact ⟨_, _, rfl, mF_tr F2_ F3_, A3_, S3_, Or.inr ⟨_, rfl, by rw [en_]; exact P3_⟩⟩
    · have b9_ := b_
      rw [ek_, ec_] at b9_
      obtain ⟨J3_, e3_, F3_, x3_, p3_, n3_⟩ := rp_told P2_ 3 (by omega) (by omega)
      rw [if_neg (show ¬ (if (set >>> (v_ &&& 31)) &&& jn 1 = jn 1 then jn 1 else jn 0) = jn 0 by rw [ek_, ec_]; exact fun q_ => b9_ (bb_.mp q_)), e3_, ob_s, ob_s, rp_goes1 p3_, ob_s, if_pos p3_, ob_s, if_neg b_]
      obtain ⟨zz_, m_⟩ := S2_
      have f9_ : J3_ 242 = J2_ 242 := by
        have k9_ := Option.some.inj (e3_.symm.trans (rp_faults0 z_ (jn 3)))
        rw [k9_, ju_na (by omega), ju_na (by omega)]
      exact ⟨_, _, rfl, mF_tr F2_ F3_, mA_F A2_ F3_, ⟨zz_, by rw [f9_]; exact m_⟩, Or.inl ⟨_, rfl, x3_, p3_, n3_⟩⟩
/-- the loop over colours -/
theorem pD_L (h : pD A q = true) : ¬ pL A q = true := by
  intro k_
  unfold pD at h
  unfold pL at k_
  rw [decide_eq_true_eq] at h k_
  obtain ⟨_, h2_⟩ := h
  obtain ⟨k1_, _⟩ := k_
  have e1_ : (jn 97).toInt = 97 := by decide
  have e2_ : (jn 57).toInt = 57 := by decide
  rw [Int32.lt_iff_toInt_lt, e2_] at h2_
  rw [Int32.lt_iff_toInt_lt, e1_] at k1_
  omega
theorem tK_D (h1 : q < N) (h2 : pD A q = true) : tK N A q = 3 ∨ tK N A q = 0 := by
  unfold tK
  rw [if_pos h1, if_neg (pD_L h2), if_pos h2]
  by_cases w_ : 2 < tE N A q - q
  · rw [if_pos w_]; exact Or.inr rfl
  · rw [if_neg w_]; exact Or.inl rfl
theorem tK_3 (h : tK N A q = 3) : q < N ∧ pD A q = true := by
  unfold tK at h
  by_cases h1_ : q < N
  · rw [if_pos h1_] at h
    by_cases h2_ : pL A q = true
    · rw [if_pos h2_] at h
      by_cases w_ : 6 < tE N A q - q
      · rw [if_pos w_] at h; omega
      · rw [if_neg w_] at h; omega
    · rw [if_neg h2_] at h
      by_cases h3_ : pD A q = true
      · exact ⟨h1_, h3_⟩
      · rw [if_neg h3_] at h
        by_cases w_ : A q = jn 59
        · rw [if_pos w_] at h; omega
        · rw [if_neg w_] at h; omega
  · rw [if_neg h1_] at h
    omega
theorem rp_colL {c : Nat} (hc : c = qC L) (g : qG L) (hN : N ≤ 500) : ∀ (f s q m : Nat) (I : z_H), s < 2 ^ c → nv s < f → rP N A q I → mA N A I → mS L B I → f + 1 < m → ∃ s2 J, z_it d_M_readsFlag_13 m (jn s, I) = some (s2, J) ∧ mF I J ∧ mS L B J ∧ ((∃ e, aCols N A (jn c - jn 1) f (jn s) q = .inl e ∧ ((fM e J ∧ ¬ J 241 10 = jn 0) ∨ ∃ q2, e = (1, q2) ∧ tK N A q2 = 0 ∧ rP N A q2 J)) ∨ (∃ r, aCols N A (jn c - jn 1) f (jn s) q = .inr (s2, r) ∧ rP N A r J)) := by
  have hc6_ : c ≤ 6 := by rw [hc]; exact g.2.1
  have h64_ : 2 ^ c ≤ 64 := Nat.pow_le_pow_right (n := 2) (by omega) hc6_
  intro f
  induction f with
  | zero =>
    intro s q m I hs hv h hA hS hm
    omega
  | succ f ih_ =>
    intro s q m I hs hv h hA hS hm
    obtain ⟨m2_, rfl⟩ : ∃ m2, m = m2 + 1 := ⟨m - 1, by omega⟩
    have t5_ := tK_5 (N := N) (A := A) (q := q)
    by_cases k3_ : tK N A q = 3
    · obtain ⟨s2_, J_, e_, F_, A_, S_, w_⟩ := rp_col h hA hN hS g (set := jn s) ⟨s, by omega, rfl⟩
      rw [← hc] at w_
      have un_ : aCols N A (jn c - jn 1) (f + 1) (jn s) q = eb (aCol N A (jn c - jn 1) (jn s) q) fun r => aCols N A (jn c - jn 1) f r.1 r.2 := by
        show (if q < N ∧ pD A q = true then _ else _) = _
        rw [if_pos (tK_3 k3_)]
      have st_ : z_it d_M_readsFlag_13 (m2_ + 1) (jn s, I) = z_it d_M_readsFlag_13 m2_ (s2_, J_) := by
        conv => lhs; unfold z_it d_M_readsFlag_13
        dsimp only
        rw [rp_is h 3 (by omega) (by omega), ob_s, if_pos k3_, if_neg (show ¬ jn 1 = jn 0 by decide), e_, ob_s]
        rfl
      rw [st_, un_]
      rcases w_ with ⟨x_, ex_, fx_, p_, n_⟩ | ⟨r_, er_, p_⟩
      · obtain ⟨m3_, rfl⟩ : ∃ m3, m2_ = m3 + 1 := ⟨m2_ - 1, by omega⟩
        have st2_ : z_it d_M_readsFlag_13 (m3_ + 1) (s2_, J_) = some (s2_, J_) := by
          unfold z_it d_M_readsFlag_13
          dsimp only
          rw [rp_is1 n_, ob_s, if_pos rfl]
        rw [st2_, ex_]
        exact ⟨_, _, rfl, F_, S_, Or.inl ⟨x_, rfl, Or.inl ⟨fx_, n_⟩⟩⟩
      · obtain ⟨o1_, o2_, m3_, hm3_, em3_, en_⟩ := aCol_ok hc6_ hs er_
        have em4_ : s2_ = jn m3_ := em3_
        rw [er_, eb_r, em4_]
        obtain ⟨s4_, J4_, e4_, F4_, S4_, w4_⟩ := ih_ m3_ r_ m2_ J_ hm3_ (by omega) p_ A_ S_ (by omega)
        exact ⟨s4_, J4_, e4_, mF_tr F_ F4_, S4_, w4_⟩
    · have st_ : z_it d_M_readsFlag_13 (m2_ + 1) (jn s, I) = some (jn s, I) := by
        unfold z_it d_M_readsFlag_13
        dsimp only
        rw [rp_is h 3 (by omega) (by omega), ob_s, if_neg k3_, if_pos rfl]
      rw [st_]
      by_cases d_ : q < N ∧ pD A q = true
      · have k0_ : tK N A q = 0 := (tK_D d_.1 d_.2).resolve_left k3_
        have nm_ : aNum N A (jn 0) (jn c - jn 1) q = .inl (1, q) := by
          unfold aNum
          rw [if_neg k3_]
        have un_ : aCols N A (jn c - jn 1) (f + 1) (jn s) q = .inl (1, q) := by
          show (if q < N ∧ pD A q = true then (eb (aCol N A (jn c - jn 1) (jn s) q) fun r => aCols N A (jn c - jn 1) f r.1 r.2) else _) = _
          rw [if_pos d_]
          unfold aCol
          rw [nm_]
          rfl
        rw [un_]
        exact ⟨_, _, rfl, mF_0, hS, Or.inl ⟨_, rfl, Or.inr ⟨q, rfl, k0_, h⟩⟩⟩
      · have un_ : aCols N A (jn c - jn 1) (f + 1) (jn s) q = .inr (jn s, q) := by
          show (if q < N ∧ pD A q = true then _ else _) = _
          rw [if_neg d_]
        rw [un_]
        exact ⟨_, _, rfl, mF_0, hS, Or.inr ⟨q, rfl, h⟩⟩
theorem rp_flag (h : rP N A q0 I) (hk : ¬ tK N A q0 = 0) (hA : mA N A I) (hN : N ≤ 500) (hS : mS L B I) (g : qG L) (hB : B ≤ q0) : ∃ J, d_M_readsFlag I = some J ∧ mF I J ∧ mR N A (aFlag N A q0 (nx N A q0) L) J := by
  have g1_ := g.1
  have g2_ := g.2.1
  have g3_ := g.2.2.1
  have q0_ := h.2.2.2.2.2.2.2
  have nl_ := (nx_le (A := A) q0_).1
  have in7_ : z_in (jn 7) 173 := by rw [jn_in (by omega)]; omega
  have c_ : I 242 10 = jn (qF L) := by obtain ⟨z_, m_⟩ := hS; exact m_.2.2.2.2.2.1
  -- once it has failed, nothing more
  have dead_ : ∀ (K : z_H) (s x y w : Int32), jn 0 < K 241 10 → ¬ K 241 10 = jn 0 → ((z_it (d_M_readsFlag_13) z_F (s, K)).bind fun q14 => (Option.bind (α := z_H) (if (q14.2 241 10) = jn 0 then ((d_M_addsFlag x (q14.1) y w q14.2).bind fun q20 => some (q20.2)) else some (q14.2)) fun q17 => some (q17))) = some K := fun K s x y w p_ n_ => by
    have st_ : z_it d_M_readsFlag_13 z_F (s, K) = some (s, K) := by
      show z_it d_M_readsFlag_13 (99999 + 1) (s, K) = _
      unfold z_it d_M_readsFlag_13
      dsimp only
      rw [rp_is1 n_, ob_s, if_pos rfl]
    rw [st_, ob_s]
    dsimp only
    rw [if_neg n_, ob_s]
  unfold d_M_readsFlag aFlag
  by_cases f_ : qF L = 12
  · obtain ⟨J_, e_, F_, x_, p_, n_⟩ := rp_full h (j := 10) (c := 12) (by omega) (by omega) (by rw [c_, f_])
    rw [e_, ob_s, if_pos in7_, rp_num1 p_, ob_s, rp_num1 p_, ob_s, rp_num1 p_, ob_s, rp_col1 p_ n_, ob_s, dead_ J_ _ _ _ _ p_ n_, if_pos f_]
    exact ⟨_, rfl, F_, Or.inl ⟨_, rfl, Or.inl x_⟩⟩
  · obtain ⟨J_, e_, F_, e2_, P_⟩ := rp_room h hk hA hN (j := 10) (c := qF L) (m := 12) (by omega) (by omega) (by omega) c_ f_
    have S_ := mS_2 hS e2_
    have A_ := mA_F hA F_
    have c7_ : J_ 242 (z_n (jn 7)) = jn (qN L) := by
      obtain ⟨z_, m_⟩ := S_
      rw [jn_n (by omega)]
      exact m_.2.2.1
    rw [e_, ob_s, if_pos in7_, c7_, if_neg f_]
    obtain ⟨v_, J2_, e3_, F2_, A2_, S2_, w_⟩ := rp_numS (lo := jn 0) (hi := jn (qN L) - jn 1) P_ A_ hN S_
    have G2_ := mF_tr F_ F2_
    rw [e3_, ob_s]
    dsimp only
    rcases w_ with ⟨x_, ex_, fx_, p_, n_⟩ | ⟨r_, er_, p_, b1_, b2_, z_, l1_, l2_⟩
    · rw [rp_num1 p_, ob_s, rp_num1 p_, ob_s, rp_col1 p_ n_, ob_s, dead_ J2_ _ _ _ _ p_ n_, ex_]
      exact ⟨_, rfl, G2_, Or.inl ⟨_, rfl, Or.inl fx_⟩⟩
    obtain ⟨v2_, J3_, e4_, F3_, A3_, S3_, w2_⟩ := rp_numS (lo := jn 0) (hi := jn 3) p_ A2_ hN S2_
    have G3_ := mF_tr G2_ F3_
    rw [e4_, ob_s, er_, eb_r]
    dsimp only
    rcases w2_ with ⟨x_, ex_, fx_, p2_, n2_⟩ | ⟨r2_, er2_, p2_, _, _, z2_, l3_, l4_⟩
    · rw [rp_num1 p2_, ob_s, rp_col1 p2_ n2_, ob_s, dead_ J3_ _ _ _ _ p2_ n2_, ex_]
      exact ⟨_, rfl, G3_, Or.inl ⟨_, rfl, Or.inl fx_⟩⟩
    obtain ⟨v3_, J4_, e5_, F4_, A4_, S4_, w3_⟩ := rp_numS (lo := jn 0) (hi := jn 9) p2_ A3_ hN S3_
    have G4_ := mF_tr G3_ F4_
    rw [e5_, ob_s, er2_, eb_r]
    dsimp only
    rcases w3_ with ⟨x_, ex_, fx_, p3_, n3_⟩ | ⟨r3_, er3_, p3_, _, _, z3_, l5_, l6_⟩
    · rw [rp_col1 p3_ n3_, ob_s, dead_ J4_ _ _ _ _ p3_ n3_, ex_]
      exact ⟨_, rfl, G4_, Or.inl ⟨_, rfl, Or.inl fx_⟩⟩
    obtain ⟨s_, J5_, e6_, F5_, A5_, S5_, w4_⟩ := rp_col p3_ A4_ hN S4_ g (set := jn 0) ⟨0, by omega, rfl⟩
    have G5_ := mF_tr G4_ F5_
    rw [e6_, ob_s, er3_, eb_r]
    dsimp only
    rcases w4_ with ⟨x_, ex_, fx_, p4_, n4_⟩ | ⟨r4_, er4_, p4_⟩
    · rw [dead_ J5_ _ _ _ _ p4_ n4_, ex_]
      exact ⟨_, rfl, G5_, Or.inl ⟨_, rfl, Or.inl fx_⟩⟩
    obtain ⟨o1_, o2_, m3_, hm3_, em3_, en_⟩ := aCol_ok g2_ (Nat.two_pow_pos _) er4_
    have em4_ : s_ = jn m3_ := em3_
    rw [er4_, eb_r, em4_]
    dsimp only
    obtain ⟨s5_, J6_, e7_, F6_, S6_, w5_⟩ := rp_colL rfl g hN 6 m3_ r4_ z_F J5_ hm3_ (by rw [nv_6] at en_; omega) p4_ A5_ S5_ (by unfold z_F; omega)
    have G6_ := mF_tr G5_ F6_
    obtain ⟨zz_, m_⟩ := S6_
    obtain ⟨J7_, e8_, w8_, f8_⟩ := mq_adds (x := v_) (y := s5_) (w := v2_) (v := v3_) m_ (qG_z g zz_) (show qF L < 12 by omega)
    rw [e7_, ob_s]
    dsimp only
    rcases w5_ with ⟨x_, ex_, (⟨fx_, n5_⟩ | ⟨q5_, eq5_, k5_, p5_⟩)⟩ | ⟨r5_, er5_, p5_⟩
    · rw [if_neg n5_, ob_s, ex_]
      exact ⟨_, rfl, G6_, Or.inl ⟨_, rfl, Or.inl fx_⟩⟩
    · rw [if_pos p5_.1, e8_, ob_s, ob_s, ex_]
      exact ⟨_, rfl, mF_tr G6_ (mF_2 f8_), Or.inl ⟨_, rfl, Or.inr ⟨q5_, eq5_, k5_, rP_2 p5_ f8_⟩⟩⟩
    · obtain ⟨y1_, y2_, y3_⟩ := aCols_ok g2_ 6 m3_ r4_ (s5_, r5_) hm3_ o2_ er5_
      have y1b_ : r4_ ≤ r5_ := y1_
      have o1b_ : r3_ < r4_ := o1_
      rw [if_pos p5_.1, e8_, ob_s, ob_s, er5_, eb_r]
      exact ⟨_, rfl, mF_tr G6_ (mF_2 f8_), Or.inr ⟨_, _, rfl, rP_2 p5_ f8_, zz_, qM_B w8_ (by omega)⟩⟩
end DDM
