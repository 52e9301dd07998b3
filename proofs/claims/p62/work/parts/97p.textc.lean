/-! the class reads a whole text -/
section TXC
variable {N q a : Nat} {A : Nat → Int32} {I J : z_H} {L : LL}
theorem sp_wtot {k p : Nat} (hk : k < 34) (h4 : I 54 4 = jn p) (h6 : I 54 6 = jn q) (hq : q ≤ p) (hp : p ≤ 500) : ∃ v, d_P_isWord a k I = some v := by
  have sm_ : zs_ln k ≤ 1000 := zs_sm ⟨k, hk⟩
  unfold d_P_isWord
  by_cases h5_ : I 54 5 = jn 1
  · rw [if_pos h5_, if_pos hk, h4, h6, jn_sub hq]
    by_cases l_ : p - q = zs_ln k
    · rw [if_pos (show jn (p - q) = zs_len k by rw [l_]; rfl)]
      refine ⟨_, z_srch (f := d_P_isWord_3 k I) (fun i => ¬ I 1 (q + i) = zs_ch k (jn i)) (fun _ => jn 0) (jn 1) (n := zs_ln k) (by omega) (fun i hi => ?_) ?_⟩
      · unfold d_P_isWord_3
        rw [if_pos hk, if_pos (show jn i < zs_len k by unfold zs_len; rw [jn_lt (by omega) (by omega)]; exact hi), h6, jn_add, if_pos (show z_in (jn (q + i)) 500 by rw [jn_in (by omega)]; omega), if_pos hk, if_pos (show z_in (jn i) (zs_ln k) by rw [jn_in (by omega)]; exact hi), jn_n (by omega), jn_add]
        by_cases c_ : I 1 (q + i) = zs_ch k (jn i)
        · rw [if_pos c_, if_neg (fun q_ => q_ c_)]
        · rw [if_neg c_, if_pos c_]
      · unfold d_P_isWord_3
        rw [if_pos hk, if_neg (show ¬ jn (zs_ln k) < zs_len k by unfold zs_len; rw [jn_lt (by omega) (by omega)]; omega)]
    · rw [if_neg (show ¬ jn (p - q) = zs_len k by unfold zs_len; rw [jn_eq (by omega) (by omega)]; exact l_)]
      exact ⟨_, rfl⟩
  · rw [if_neg h5_]
    exact ⟨_, rfl⟩
theorem qS_00 {P k : Nat} (h : qS (L00 P) I (a + 7) (a + 1)) : qS (L00 k) (ev_u2 I (a + 1) 0 (jn k)) (a + 7) (a + 1) := by
  obtain ⟨h1_, h2_, h3_, h4_, h5_, h6_, h7_, h8_, h9_, ha_, hb_, hc_, hd_⟩ := h
  refine ⟨fun j hj => ?_, ?_, ju_at .., ?_, ?_, ?_, fun c hc => absurd hc (Nat.not_lt_zero _), fun m hm => absurd hm (Nat.not_lt_zero _), fun v hv => absurd hv (Nat.not_lt_zero _), fun f j hf => absurd hf (Nat.not_lt_zero _), fun p hp => ?_, fun m hm hm2 => ?_, fun v hv hv2 => ?_⟩
  · rw [ju_na (by omega)]; exact h1_ j hj
  · rw [ju_na (by omega)]; exact h2_
  · rw [ju_ne (by omega)]; exact h4_
  · rw [ju_ne (by omega)]; exact h5_
  · rw [ju_ne (by omega)]; exact h6_
  · rw [ju_na (by omega), hb_ p hp, qpg_00, qpg_00]
  · rw [ju_na (by omega)]; exact hc_ m hm hm2
  · rw [ju_na (by omega)]; exact hd_ v hv hv2
/-- the first line, and all the rest -/
def dfr (a : Nat) (I : z_H) : Option z_H := ((d_P_readFirstLine a I).bind fun q3 => ((z_it (d_P_read_6 a) z_F ((jn 0), q3)).bind fun q7 => ((d_P_readEnd a q7.2).bind fun q10 => some (q10))))
theorem sp_dead (h : ¬ I 54 0 = jn 0) : (z_it (d_P_read_6 a) z_F ((jn 0), I)).bind (fun q7 => ((d_P_readEnd a q7.2).bind fun q10 => some (q10))) = some I := by
  have st_ : z_it (d_P_read_6 a) z_F (jn 0, I) = some (jn 0, I) := by
    show z_it (d_P_read_6 a) (99999 + 1) (jn 0, I) = _
    unfold z_it d_P_read_6
    dsimp only
    by_cases w_ : jn 0 < I 54 3
    · rw [if_pos w_, sp_failed1 h, ob_s, if_neg (show ¬ jn 1 = jn 0 by decide)]
    · rw [if_neg w_]
  rw [st_, ob_s, sp_end1 h, ob_s]
def xR (N : Nat) (A : Nat → Int32) (a : Nat) (K : z_H) : Prop := (∃ e, aText N A = .inl e ∧ fP e K ∧ fE N e) ∨ (∃ L, aText N A = .inr L ∧ K 54 0 = jn 0 ∧ K 54 1 = jg 1 ∧ qS L K (a + 7) (a + 1) ∧ qG L)
theorem aLines_ok : ∀ (f q : Nat) (L : LL), q ≤ N → qG L → (∀ e, aLines N A f q L = .inl e → fE N e) ∧ ∀ K, aLines N A f q L = .inr K → qG K := by
  intro f
  induction f with
  | zero =>
    intro q L hq g
    exact ⟨fun e h => by rw [← Sum.inl.inj h]; exact fE_c (by omega) (by omega) hq, fun K h => by cases h⟩
  | succ f ih_ =>
    intro q L hq g
    unfold aLines
    by_cases k4_ : tK N A q = 4
    · rw [if_pos k4_]
      have ag_ := aG_line (N := N) (A := A) (q := nx N A q) g (nx_le hq).2
      cases x_ : aLine N A (nx N A q) L with
      | inl e => exact ⟨fun e2 h => by rw [← Sum.inl.inj h]; exact ag_.1 e x_, fun K h => by cases h⟩
      | inr r =>
        obtain ⟨g2_, _, b_⟩ := ag_.2 r x_
        exact ih_ r.1 r.2 b_ g2_
    · rw [if_neg k4_]
      by_cases k1_ : tK N A q = 1
      · rw [if_pos k1_]
        by_cases w_ : qC L = 0 ∨ qN L = 0 ∨ qT L = 0
        · rw [if_pos w_]
          exact ⟨fun e h => by rw [← Sum.inl.inj h]; exact fE_c (by omega) (by omega) hq, fun K h => by cases h⟩
        · rw [if_neg w_]
          exact ⟨(fun e h => by cases h), (fun K h => by rw [← Sum.inr.inj h]; exact g)⟩
      · rw [if_neg k1_]
        exact ⟨fun e h => by rw [← Sum.inl.inj h]; exact fE_c (by omega) (by omega) hq, fun K h => by cases h⟩
theorem sp_first (h : cP N A (tS N A 0) I) (hA : cA N A I) (hN : N ≤ 500) (hS : qS (L00 0) I (a + 7) (a + 1)) (ha : a = 2 ∨ a = 28) : ∃ K, dfr a I = some K ∧ cF a I K ∧ xR N A a K := by
  have g0_ := qG_00 (P := 0) (by omega)
  have qle_ := cP_q h
  obtain ⟨J_, e_, f_, n_⟩ := sp_nextN (a := a) h hA hN
  have A_ := cA_54 hA f_
  have S_ := qS_54 hS g0_ ha f_
  have F_ : cF a I J_ := cF_54 f_
  -- once it has failed in its first line
  have dead_ : ∀ K e, ¬ K 54 0 = jn 0 → fP e K → fE N e → aText N A = .inl e → cF a I K → ((d_P_number a ((jn 1)) ((jn 8)) K).bind fun q8 => ((d_P_failed q8.2).bind fun q10 => (Option.bind (α := z_H) (if q10 = jn 0 then some ((ev_u2 q8.2 (a + 1) 0 q8.1)) else some (q8.2)) fun q12 => ((d_P_next a q12).bind fun q15 => some (q15))))) = some K := fun K e n_ _ _ _ _ => by
    rw [sp_num1 n_, ob_s, sp_failed1 n_, ob_s, if_neg (show ¬ jn 1 = jn 0 by decide), ob_s, sp_next1 n_, ob_s]
  unfold dfr d_P_readFirstLine
  rw [e_, ob_s]
  by_cases k0_ : tK N A (tS N A 0) = 0
  · have x_ := n_.2.2.2.2.1 k0_
    have b_ : ¬ J_ 54 0 = jn 0 := fun q_ => absurd (show jn 1 = jn 0 from x_.1.symm.trans q_) (by decide)
    obtain ⟨p_, hp1_, hp2_, hp3_⟩ := n_.2.2.2.1
    obtain ⟨v_, ev_⟩ := sp_wtot (a := a) (k := 1) (by omega) hp3_ n_.2.1 hp1_ (by omega)
    have at_ : aText N A = .inl (1, tS N A 0) := by
      unfold aText
      rw [if_neg (fun q_ => by have k_ := q_.1; omega)]
    have fe_ : fE N (1, tS N A 0) := fE_c (by omega) (by omega) qle_
    have y_ : (if v_ = jn 0 then ((d_P_fail ((jn 1)) J_).bind fun q17 => some (q17)) else some (J_)) = some J_ := by
      by_cases w_ : v_ = jn 0
      · rw [if_pos w_, sp_fail1 b_, ob_s]
      · rw [if_neg w_]
    rw [ev_, ob_s, y_, ob_s, dead_ J_ _ b_ x_ fe_ at_ F_, ob_s, sp_dead b_]
    exact ⟨_, rfl, F_, Or.inl ⟨_, at_, x_, fe_⟩⟩
  · have z_ := (n_.2.2.2.2.2 k0_).1
    have no_ : ¬ (tK N A (tS N A 0) = 2 ∧ tWd N A (tS N A 0) 1 = true) → d_P_isWord a 1 J_ = some (jn 0) := fun hw => by
      by_cases k2_ : tK N A (tS N A 0) = 2
      · rw [nP_w n_ A_ hN k2_ (by omega), if_neg (fun q_ => hw ⟨k2_, q_⟩)]
      · exact nP_n n_ k0_ k2_ 1
    by_cases w_ : tK N A (tS N A 0) = 2 ∧ tWd N A (tS N A 0) 1 = true
    · have P_ := nP_c n_ k0_
      have at_ : aText N A = eb (aNum N A (jn 1) (jn 8) (nx N A (tS N A 0))) fun p => aLines N A (N + 1) p.2 (L00 (z_n p.1)) := by
        unfold aText
        rw [if_pos w_]
      obtain ⟨v_, J2_, e2_, f2_, A2_, S2_, w2_⟩ := sp_numS (lo := jn 1) (hi := jn 8) P_ A_ hN S_ g0_ ha
      rw [nP_w n_ A_ hN w_.1 (by omega), ob_s, if_pos w_.2, if_neg (show ¬ jn 1 = jn 0 by decide), ob_s, e2_, ob_s]
      dsimp only
      have F2_ : cF a I J2_ := cF_tr F_ (cF_54 f2_)
      rcases w2_ with ⟨x_, ex_, fx_, b_⟩ | ⟨r_, er_, p_, _, b1_, b2_, y_⟩
      · rw [ex_] at at_
        have fe_ := aNum_E (cP_q P_) ex_
        rw [sp_failed1 b_, ob_s, if_neg (show ¬ jn 1 = jn 0 by decide), ob_s, sp_next1 b_, ob_s, ob_s, sp_dead b_]
        exact ⟨_, rfl, F2_, Or.inl ⟨_, at_, fx_, fe_⟩⟩
      · obtain ⟨k_, l1_, l2_, ek_⟩ := jrg (by omega) (by omega) b1_ b2_
        rw [er_, eb_r] at at_
        dsimp only at at_
        rw [ek_, jn_n (by omega)] at at_
        have g_ := qG_00 (P := k_) l2_
        have S3_ : qS (L00 k_) (ev_u2 J2_ (a + 1) 0 (jn k_)) (a + 7) (a + 1) := qS_00 S2_
        have p3_ : cP N A r_ (ev_u2 J2_ (a + 1) 0 (jn k_)) := cP_54 p_ (by rw [ju_na (by omega)])
        have A3_ : cA N A (ev_u2 J2_ (a + 1) 0 (jn k_)) := fun k hk => by rw [ju_na (by omega)]; exact A2_ k hk
        have F3_ : cF a I (ev_u2 J2_ (a + 1) 0 (jn k_)) := fun b b1 b2 => by rw [ju_na (by omega)]; exact F2_ b b1 b2
        rw [sp_failed0 y_, ob_s, if_pos rfl, ob_s, ek_]
        obtain ⟨J4_, e4_, f4_, n4_⟩ := sp_nextN (a := a) p3_ A3_ hN
        rw [e4_, ob_s, ob_s]
        have rq_ := (aNum_q er_).2
        obtain ⟨r5_, K_, e5_, d5_, F5_, x5_⟩ := sp_lines ha hN (N + 1) 0 r_ z_F (L00 k_) J4_ (by omega) (by omega) (by unfold z_F; omega) n4_ (cA_54 A3_ f4_) (qS_54 S3_ g_ ha f4_) g_
        have ok_ := aLines_ok (N := N) (A := A) (N + 1) r_ (L00 k_) rq_ g_
        rw [e5_, ob_s, d5_, ob_s]
        refine ⟨_, rfl, cF_tr F3_ (cF_tr (cF_54 f4_) F5_), ?_⟩
        rcases x5_ with ⟨x_, ex_, fx_⟩ | ⟨L_, eL_, y0_, y1_, yS_⟩
        · exact Or.inl ⟨x_, at_.trans ex_, fx_, ok_.1 x_ ex_⟩
        · exact Or.inr ⟨L_, at_.trans eL_, y0_, y1_, yS_, ok_.2 L_ eL_⟩
    · have at_ : aText N A = .inl (1, tS N A 0) := by
        unfold aText
        rw [if_neg w_]
      have fe_ : fE N (1, tS N A 0) := fE_c (by omega) (by omega) qle_
      obtain ⟨K_, e2_, f2_, x_⟩ := nP_f n_ z_ 1
      have b_ : ¬ K_ 54 0 = jn 0 := fun q_ => absurd (show jn 1 = jn 0 from x_.1.symm.trans q_) (by decide)
      have F2_ : cF a I K_ := cF_tr F_ (cF_54 f2_)
      rw [no_ w_, ob_s, if_pos rfl, e2_, ob_s, ob_s, dead_ K_ _ b_ x_ fe_ at_ F2_, ob_s, sp_dead b_]
      exact ⟨_, rfl, F2_, Or.inl ⟨_, at_, x_, fe_⟩⟩
theorem sp_read (ha : a = 2 ∨ a = 28) (hN : N ≤ 500) (hA : cA N A I) : ∃ K, d_P_read a (jn N) I = some K ∧ cF a I K ∧ xR N A a K := by
  have k0_ : ∃ K, K = ev_u2 (ev_u2 (ev_u2 (ev_u2 (ev_u2 I 54 3 (jn N)) 54 4 (jn 0)) 54 5 (jn 0)) 54 0 (jn 0)) 54 1 (jg 1) := ⟨_, rfl⟩
  obtain ⟨K_, eK_⟩ := k0_
  have mn_ : z_mn (jn N) (jn 500) = jn N := by
    unfold z_mn
    rw [if_neg (by rw [jn_lt (by omega) (by omega)]; omega)]
  have fK_ : ∀ b, ¬ b = 54 → K_ b = I b := fun b hb => by rw [eK_, ju_na hb, ju_na hb, ju_na hb, ju_na hb, ju_na hb]
  have c0_ : K_ 54 0 = jn 0 := by rw [eK_]; simp [ev_u2]
  have c1_ : K_ 54 1 = jg 1 := by rw [eK_]; simp [ev_u2]
  have c3_ : K_ 54 3 = jn N := by rw [eK_]; simp [ev_u2]
  have c4_ : K_ 54 4 = jn 0 := by rw [eK_]; simp [ev_u2]
  obtain ⟨J_, e_, f_, S_⟩ := sp_clear ha K_
  have j54_ : J_ 54 = K_ 54 := f_ 54 (by omega)
  have A_ : cA N A J_ := fun k hk => by rw [f_ 1 (by omega), fK_ 1 (by omega)]; exact hA k hk
  obtain ⟨K2_, e2_, F2_, x_⟩ := sp_first (N := N) (A := A) (I := J_) (a := a) ⟨by rw [j54_]; exact c0_, by rw [j54_]; exact c1_, by rw [j54_]; exact c3_, 0, by omega, by rw [j54_]; exact c4_, rfl⟩ A_ hN S_ ha
  refine ⟨K2_, ?_, fun b b1 b2 => by rw [F2_ b b1 b2, f_ b b2, fK_ b b1], x_⟩
  unfold d_P_read
  rw [mn_, ← eK_, e_, ob_s]
  exact e2_
end TXC
