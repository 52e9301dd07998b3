/-! the class's line of a flag -/
theorem tS_id {N p : Nat} {A : Nat → Int32} (hp : p ≤ N) : tS N A (tS N A p) = tS N A p := by
  have le_ := jrun_le (P := pB A) hp
  have le2_ := jrun_le (P := pB A) le_.2
  show jrun (pB A) N (jrun (pB A) N p) = jrun (pB A) N p
  rcases Nat.lt_or_ge (jrun (pB A) N p) (jrun (pB A) N (jrun (pB A) N p)) with w_ | w_
  · have k_ := jrun_in (P := pB A) (N := N) (p := jrun (pB A) N p) (j := jrun (pB A) N p) (Nat.le_refl _) w_
    have k2_ := jrun_at (P := pB A) hp (by omega)
    rw [k_] at k2_
    cases k2_
  · omega
/-- one colour, as the class reads it -/
def dcb (a : Nat) (set k : Int32) (I : z_H) : Option ((Int32 × Int32 × z_H) ⊕ (Int32 × Int32 × z_H)) := ((d_P_number a ((jn 0)) (((I (a + 1) 1) - (jn 1))) I).bind fun q21 => ((d_P_failed q21.2).bind fun q23 => (Option.bind (α := z_H) (if q23 = jn 0 then (if ((set >>> (q21.1 &&& 31)) &&& (jn 1)) = jn 0 then some (q21.2) else ((d_P_fail ((jn 3)) q21.2).bind fun q33 => some (q33))) else some (q21.2)) fun q25 => ((d_P_failed q25).bind fun q28 => (Option.bind (α := Int32) (if q28 = jn 0 then some ((set ||| ((jn 1) <<< (q21.1 &&& 31)))) else some (set)) fun q30 => some (Sum.inl (q30, (k + (jn 1)), q25)))))))
section FLC
variable {N q q0 a : Nat} {A : Nat → Int32} {I J : z_H} {L : LL} {set k : Int32}
theorem fl_0 : d_P_readFlag_10 a (set, jn 0, I) = dcb a set (jn 0) I := by
  unfold d_P_readFlag_10
  rw [if_neg (show ¬ jn 6 < jn 0 by decide), if_pos (show jn 0 = jn 0 from rfl)]
  rfl
theorem fl_k {k : Nat} (h0 : 0 < k) (h6 : k ≤ 6) : d_P_readFlag_10 a (set, jn k, I) = ((d_P_numberFollows a I).bind fun q35 => (if q35.1 = jn 0 then some (Sum.inr (set, jn k, q35.2)) else dcb a set (jn k) q35.2)) := by
  unfold d_P_readFlag_10
  rw [if_neg (show ¬ jn 6 < jn k by rw [jn_lt (by omega) (by omega)]; omega), if_neg (show ¬ jn k = jn 0 by rw [jn_eq (by omega) (by omega)]; omega)]
  rfl
theorem fl_7 : d_P_readFlag_10 a (set, jn 7, I) = some (.inr (set, jn 7, I)) := by
  unfold d_P_readFlag_10
  rw [if_pos (show jn 6 < jn 7 by decide)]
theorem sp_colS (h : cP N A q I) (hA : cA N A I) (hN : N ≤ 500) (hs : qS L I (a + 7) (a + 1)) (g : qG L) (ha : a = 2 ∨ a = 28) : ∃ s J, dcb a set k I = some (.inl (s, k + jn 1, J)) ∧ (∀ b, ¬ b = 54 → J b = I b) ∧ cA N A J ∧ qS L J (a + 7) (a + 1) ∧ cQ N J ∧ ((∃ e, aCol N A (jn (qC L) - jn 1) set q = .inl e ∧ fP e J ∧ ¬ J 54 0 = jn 0) ∨ (∃ r, aCol N A (jn (qC L) - jn 1) set q = .inr (s, r) ∧ cP N A r J)) := by
  have c_ : I (a + 1) 1 = jn (qC L) := hs.2.2.2.1
  obtain ⟨v_, J_, e_, fr_, A_, S_, Q_, w_⟩ := sp_numT (lo := jn 0) (hi := jn (qC L) - jn 1) h hA hN hs g ha
  unfold dcb aCol
  rw [c_, e_, ob_s]
  dsimp only
  rcases w_ with ⟨x_, ex_, fx_, n_⟩ | ⟨r_, er_, p_, h6_, _, _, z_⟩
  · rw [sp_failed1 n_, ob_s, if_neg (show ¬ jn 1 = jn 0 by decide), ob_s, sp_failed1 n_, ob_s, if_neg (show ¬ jn 1 = jn 0 by decide), ob_s, ex_]
    exact ⟨_, _, rfl, fr_, A_, S_, Q_, Or.inl ⟨_, rfl, fx_, n_⟩⟩
  · rw [sp_failed0 z_, ob_s, if_pos rfl, er_, eb_r]
    dsimp only
    by_cases b_ : (set >>> (v_ &&& 31)) &&& jn 1 = jn 0
    · rw [if_pos b_, ob_s, sp_failed0 z_, ob_s, if_pos rfl, ob_s, if_pos b_]
      exact ⟨_, _, rfl, fr_, A_, S_, Q_, Or.inr ⟨_, rfl, p_⟩⟩
    · obtain ⟨K_, e2_, f2_, x_⟩ := sp_told z_ h6_
      have n_ : ¬ K_ 54 0 = jn 0 := fun q_ => absurd (show jn 3 = jn 0 from x_.1.symm.trans q_) (by decide)
      have eK_ : K_ = ev_u2 (ev_u2 J_ 54 0 (jn 3)) 54 1 (J_ 54 6) := Option.some.inj (e2_.symm.trans (sp_fail0 z_ _))
      rw [if_neg b_, e2_, ob_s, ob_s, sp_failed1 n_, ob_s, if_neg (show ¬ jn 1 = jn 0 by decide), ob_s, if_neg b_]
      obtain ⟨q3_, y_, hy_, ey_⟩ := Q_
      refine ⟨_, _, rfl, fun b hb => (f2_ b hb).trans (fr_ b hb), cA_54 A_ f2_, qS_54 S_ g ha f2_, ⟨?_, y_, hy_, ?_⟩, Or.inl ⟨_, rfl, x_, n_⟩⟩
      · rw [eK_, ju_ne (by omega), ju_ne (by omega)]; exact q3_
      · rw [eK_, ju_ne (by omega), ju_ne (by omega)]; exact ey_
/-- what follows, in the class -/
theorem sp_fol (h : cP N A q I) (hA : cA N A I) (hN : N ≤ 500) : ∃ J, d_P_numberFollows a I = some (if q < N ∧ pD A q = true then jn 1 else jn 0, J) ∧ (∀ b, ¬ b = 54 → J b = I b) ∧ cP N A q J := by
  obtain ⟨h0_, h1_, h3_, p_, hp_, h4_, hq_⟩ := h
  obtain ⟨J_, e_, f1_, f2_, f3_⟩ := sp_skip (a := a) h3_ h4_ hp_ hN hA
  have qle_ : tS N A p_ ≤ N := (jrun_le (P := pB A) hp_).2
  have j0_ : J_ 54 0 = jn 0 := by rw [f2_ 0 (by omega)]; exact h0_
  have j3_ : J_ 54 3 = jn N := by rw [f2_ 3 (by omega)]; exact h3_
  have id_ := tS_id (A := A) hp_
  refine ⟨J_, ?_, f1_, j0_, by rw [f2_ 1 (by omega)]; exact h1_, j3_, tS N A p_, qle_, f3_, id_.trans hq_⟩
  unfold d_P_numberFollows
  rw [e_, ob_s, sp_failed0 j0_, ob_s, if_pos rfl, f3_, sp_dig (A := A) j3_ hN (cA_54 hA f1_) qle_, ob_s, hq_]
  by_cases c_ : q < N ∧ pD A q = true
  · rw [if_pos c_, if_neg (show ¬ jn 1 = jn 0 by decide), ob_s, if_pos (Or.inr rfl)]
  · rw [if_neg c_, if_pos rfl, ob_s, if_pos (Or.inl rfl)]
theorem sp_fol1 (h : ¬ I 54 0 = jn 0) (hQ : cQ N I) (hA : cA N A I) (hN : N ≤ 500) : ∃ J, d_P_numberFollows a I = some (jn 0, J) ∧ (∀ b, ¬ b = 54 → J b = I b) ∧ (∀ k, ¬ k = 4 → J 54 k = I 54 k) := by
  obtain ⟨h3_, p_, hp_, h4_⟩ := hQ
  obtain ⟨J_, e_, f1_, f2_, f3_⟩ := sp_skip (a := a) h3_ h4_ hp_ hN hA
  have j0_ : ¬ J_ 54 0 = jn 0 := by rw [f2_ 0 (by omega)]; exact h
  refine ⟨J_, ?_, f1_, f2_⟩
  unfold d_P_numberFollows
  rw [e_, ob_s, sp_failed1 j0_, ob_s, if_neg (show ¬ jn 1 = jn 0 by decide), ob_s, if_pos (Or.inl rfl)]
/-- the loop over colours, once it has failed -/
theorem sp_colX {k : Nat} (h0 : 0 < k) (h7 : k ≤ 7) (h : ¬ I 54 0 = jn 0) (hQ : cQ N I) (hA : cA N A I) (hN : N ≤ 500) {m : Nat} (hm : 0 < m) : ∃ J, z_it (d_P_readFlag_10 a) m (set, jn k, I) = some (set, jn k, J) ∧ (∀ b, ¬ b = 54 → J b = I b) ∧ J 54 0 = I 54 0 ∧ J 54 1 = I 54 1 := by
  obtain ⟨m2_, rfl⟩ : ∃ m2, m = m2 + 1 := ⟨m - 1, by omega⟩
  unfold z_it
  by_cases k7_ : k = 7
  · rw [k7_, fl_7]
    exact ⟨I, rfl, fun _ _ => rfl, rfl, rfl⟩
  · obtain ⟨J_, e_, f1_, f2_⟩ := sp_fol1 (a := a) h hQ hA hN
    rw [fl_k h0 (by omega), e_, ob_s, if_pos rfl]
    exact ⟨J_, rfl, f1_, f2_ 0 (by omega), f2_ 1 (by omega)⟩
/-- .. and while it goes on -/
theorem sp_colL {c : Nat} (hc : c = qC L) (g : qG L) (ha : a = 2 ∨ a = 28) (hN : N ≤ 500) : ∀ (f s q k m : Nat) (I : z_H), f + k = 7 → 0 < k → s < 2 ^ c → nv s < f + 1 → cP N A q I → cA N A I → qS L I (a + 7) (a + 1) → f + 1 < m → ∃ s2 k2 J, z_it (d_P_readFlag_10 a) m (jn s, k2, I) = z_it (d_P_readFlag_10 a) m (jn s, k2, I) ∧ z_it (d_P_readFlag_10 a) m (jn s, jn k, I) = some (s2, k2, J) ∧ (∀ b, ¬ b = 54 → J b = I b) ∧ ((∃ e, aCols N A (jn c - jn 1) f (jn s) q = .inl e ∧ fP e J ∧ ¬ J 54 0 = jn 0) ∨ (∃ r, aCols N A (jn c - jn 1) f (jn s) q = .inr (s2, r) ∧ cP N A r J)) := by
  have hc6_ : c ≤ 6 := by rw [hc]; exact g.2.1
  intro f
  induction f with
  | zero =>
    intro s q k m I hk h0 hs hv h hA hS hm
    obtain ⟨m2_, rfl⟩ : ∃ m2, m = m2 + 1 := ⟨m - 1, by omega⟩
    have k7_ : k = 7 := by omega
    refine ⟨_, _, _, rfl, by unfold z_it; rw [k7_, fl_7], fun _ _ => rfl, Or.inr ⟨q, rfl, h⟩⟩
  | succ f ih_ =>
    intro s q k m I hk h0 hs hv h hA hS hm
    obtain ⟨m2_, rfl⟩ : ∃ m2, m = m2 + 1 := ⟨m - 1, by omega⟩
    obtain ⟨J_, e_, f1_, p_⟩ := sp_fol (a := a) h hA hN
    have A1_ := cA_54 hA f1_
    have S1_ := qS_54 hS g ha f1_
    by_cases t_ : q < N ∧ pD A q = true
    · rw [if_pos t_] at e_
      obtain ⟨s2_, K_, e2_, f2_, A2_, S2_, Q2_, w_⟩ := sp_colS (set := jn s) (k := jn k) p_ A1_ hN S1_ g ha
      have st_ : z_it (d_P_readFlag_10 a) (m2_ + 1) (jn s, jn k, I) = z_it (d_P_readFlag_10 a) m2_ (s2_, jn (k + 1), K_) := by
        conv => lhs; unfold z_it
        rw [fl_k h0 (by omega), e_, ob_s, if_neg (show ¬ jn 1 = jn 0 by decide)]
        dsimp only
        rw [e2_, jn_add]
      rw [st_]
      have un_ : aCols N A (jn c - jn 1) (f + 1) (jn s) q = eb (aCol N A (jn c - jn 1) (jn s) q) fun r => aCols N A (jn c - jn 1) f r.1 r.2 := by
        show (if q < N ∧ pD A q = true then _ else _) = _
        rw [if_pos t_]
      rw [un_]
      rw [← hc] at w_
      rcases w_ with ⟨x_, ex_, fx_, n_⟩ | ⟨r_, er_, p2_⟩
      · obtain ⟨K2_, e3_, f3_, g0_, g1_⟩ := sp_colX (a := a) (set := s2_) (k := k + 1) (by omega) (by omega) n_ Q2_ A2_ hN (m := m2_) (by omega)
        rw [ex_]
        exact ⟨_, _, _, rfl, e3_, fun b hb => by rw [f3_ b hb, f2_ b hb, f1_ b hb], Or.inl ⟨x_, rfl, ⟨g0_.trans fx_.1, g1_.trans fx_.2⟩, by rw [g0_]; exact n_⟩⟩
      · obtain ⟨o1_, o2_, m3_, hm3_, em3_, en_⟩ := aCol_ok hc6_ hs er_
        have em4_ : s2_ = jn m3_ := em3_
        rw [er_, eb_r, em4_]
        obtain ⟨s4_, k4_, J4_, _, e4_, f4_, w4_⟩ := ih_ m3_ r_ (k + 1) m2_ K_ (by omega) (by omega) hm3_ (by omega) p2_ A2_ S2_ (by omega)
        exact ⟨s4_, k4_, J4_, rfl, e4_, fun b hb => by rw [f4_ b hb, f2_ b hb, f1_ b hb], w4_⟩
    · rw [if_neg t_] at e_
      have st_ : z_it (d_P_readFlag_10 a) (m2_ + 1) (jn s, jn k, I) = some (jn s, jn k, J_) := by
        unfold z_it
        rw [fl_k h0 (by omega), e_, ob_s, if_pos rfl]
      have un_ : aCols N A (jn c - jn 1) (f + 1) (jn s) q = .inr (jn s, q) := by
        show (if q < N ∧ pD A q = true then _ else _) = _
        rw [if_neg t_]
      rw [un_]
      exact ⟨_, _, _, rfl, st_, f1_, Or.inr ⟨q, rfl, p_⟩⟩
theorem nv_6 : nv 0 = 6 := by decide
theorem sp_flag (h : cP N A q I) (hA : cA N A I) (hN : N ≤ 500) (hs : qS L I (a + 7) (a + 1)) (g : qG L) (ha : a = 2 ∨ a = 28) (h6 : I 54 6 = jn q0) : ∃ J, d_P_readFlag a I = some J ∧ cF a I J ∧ cR N A a (aFlag N A q0 q L) J := by
  have g1_ := g.1
  have g2_ := g.2.1
  have g3_ := g.2.2.1
  have c_ : I (a + 7) 6 = jn (qF L) := hs.2.1
  -- the loop once it has failed from its first round on
  have dead_ : ∀ (K : z_H) (e : PE), ¬ K 54 0 = jn 0 → fP e K → cQ N K → cA N A K → ∃ s2 k2 J, z_it (d_P_readFlag_10 a) z_F (jn 0, jn 0, K) = some (s2, k2, J) ∧ (∀ b, ¬ b = 54 → J b = K b) ∧ fP e J ∧ ¬ J 54 0 = jn 0 := fun K e n_ x_ Q_ A_ => by
    obtain ⟨J_, e_, f_, g0_, g9_⟩ := sp_colX (a := a) (set := jn 0) (k := 1) (by omega) (by omega) n_ Q_ A_ hN (m := 99999) (by omega)
    refine ⟨jn 0, jn 1, J_, ?_, f_, ⟨g0_.trans x_.1, g9_.trans x_.2⟩, by rw [g0_]; exact n_⟩
    show z_it (d_P_readFlag_10 a) (99999 + 1) (jn 0, jn 0, K) = _
    rw [← e_]
    conv => lhs; unfold z_it
    rw [fl_0]
    unfold dcb
    rw [sp_num1 n_, ob_s, sp_failed1 n_, ob_s, if_neg (show ¬ jn 1 = jn 0 by decide), ob_s, sp_failed1 n_, ob_s, if_neg (show ¬ jn 1 = jn 0 by decide), ob_s, jn_add]
  unfold d_P_readFlag aFlag
  rw [c_]
  by_cases full_ : qF L = 12
  · obtain ⟨J_, e_, fr_, x_⟩ := sp_full h h6 (c := qF L) (m := 12) (by omega) (by omega) (by omega)
    have n_ : ¬ J_ 54 0 = jn 0 := fun q_ => absurd (show jn 4 = jn 0 from x_.1.symm.trans q_) (by decide)
    have Q_ : cQ N J_ := by
      have eJ_ : J_ = ev_u2 (ev_u2 I 54 0 (jn 4)) 54 1 (I 54 6) := by
        unfold d_P_needPlaceFor at e_
        rw [if_neg (by rw [jn_lt (by omega) (by omega)]; omega), sp_fail0 h.1, ob_s, ob_s] at e_
        exact (Option.some.inj e_).symm
      obtain ⟨_, _, h3_, p_, hp_, h4_, _⟩ := h
      exact ⟨by rw [eJ_, ju_ne (by omega), ju_ne (by omega)]; exact h3_, p_, hp_, by rw [eJ_, ju_ne (by omega), ju_ne (by omega)]; exact h4_⟩
    obtain ⟨s2_, k2_, K_, e2_, f2_, x2_, n2_⟩ := dead_ J_ _ n_ x_ Q_ (cA_54 hA fr_)
    rw [e_, ob_s, sp_num1 n_, ob_s, sp_num1 n_, ob_s, sp_num1 n_, ob_s, e2_, ob_s, sp_failed1 n2_, ob_s, if_neg (show ¬ jn 1 = jn 0 by decide), ob_s, if_pos full_]
    exact ⟨_, rfl, cF_tr (cF_54 fr_) (cF_54 f2_), Or.inl ⟨_, rfl, x2_⟩⟩
  · rw [sp_room (by omega) (by omega) (by omega), ob_s, if_neg full_]
    have cn_ : I (a + 1) 2 = jn (qN L) := hs.2.2.2.2.1
    rw [cn_]
    obtain ⟨v_, J_, e_, fr_, A_, S_, Q_, w_⟩ := sp_numT (lo := jn 0) (hi := jn (qN L) - jn 1) h hA hN hs g ha
    rw [e_, ob_s]
    dsimp only
    rcases w_ with ⟨x_, ex_, fx_, n_⟩ | ⟨r_, er_, p_, _, b1_, b2_, z_⟩
    · obtain ⟨s2_, k2_, K_, e2_, f2_, x2_, n2_⟩ := dead_ J_ _ n_ fx_ Q_ A_
      rw [sp_num1 n_, ob_s, sp_num1 n_, ob_s, e2_, ob_s, sp_failed1 n2_, ob_s, if_neg (show ¬ jn 1 = jn 0 by decide), ob_s, ex_]
      exact ⟨_, rfl, cF_tr (cF_54 fr_) (cF_54 f2_), Or.inl ⟨_, rfl, x2_⟩⟩
    obtain ⟨v2_, J2_, e2_, fr2_, A2_, S2_, Q2_, w2_⟩ := sp_numT (lo := jn 0) (hi := jn 3) p_ A_ hN S_ g ha
    have F2_ : cF a I J2_ := cF_tr (cF_54 fr_) (cF_54 fr2_)
    rw [e2_, ob_s, er_, eb_r]
    dsimp only
    rcases w2_ with ⟨x_, ex_, fx_, n_⟩ | ⟨r2_, er2_, p2_, _, b3_, b4_, z2_⟩
    · obtain ⟨s2_, k2_, K_, e3_, f3_, x3_, n3_⟩ := dead_ J2_ _ n_ fx_ Q2_ A2_
      rw [sp_num1 n_, ob_s, e3_, ob_s, sp_failed1 n3_, ob_s, if_neg (show ¬ jn 1 = jn 0 by decide), ob_s, ex_]
      exact ⟨_, rfl, cF_tr F2_ (cF_54 f3_), Or.inl ⟨_, rfl, x3_⟩⟩
    obtain ⟨v3_, J3_, e3_, fr3_, A3_, S3_, Q3_, w3_⟩ := sp_numT (lo := jn 0) (hi := jn 9) p2_ A2_ hN S2_ g ha
    have F3_ : cF a I J3_ := cF_tr F2_ (cF_54 fr3_)
    rw [e3_, ob_s, er2_, eb_r]
    dsimp only
    rcases w3_ with ⟨x_, ex_, fx_, n_⟩ | ⟨r3_, er3_, p3_, _, b5_, b6_, z3_⟩
    · obtain ⟨s2_, k2_, K_, e4_, f4_, x4_, n4_⟩ := dead_ J3_ _ n_ fx_ Q3_ A3_
      rw [e4_, ob_s, sp_failed1 n4_, ob_s, if_neg (show ¬ jn 1 = jn 0 by decide), ob_s, ex_]
      exact ⟨_, rfl, cF_tr F3_ (cF_54 f4_), Or.inl ⟨_, rfl, x4_⟩⟩
    obtain ⟨k1_, l1_, ek1_⟩ := jrg1 (by omega) b1_ b2_
    obtain ⟨k2_, _, l2_, ek2_⟩ := jrg (by omega) (by omega) b3_ b4_
    obtain ⟨k3_, _, l3_, ek3_⟩ := jrg (by omega) (by omega) b5_ b6_
    rw [er3_, eb_r]
    dsimp only
    obtain ⟨s4_, J4_, e4_, f4_, A4_, S4_, Q4_, w4_⟩ := sp_colS (set := jn 0) (k := jn 0) p3_ A3_ hN S3_ g ha
    have F4_ : cF a I J4_ := cF_tr F3_ (cF_54 f4_)
    have st_ : z_it (d_P_readFlag_10 a) z_F (jn 0, jn 0, J3_) = z_it (d_P_readFlag_10 a) 99999 (s4_, jn 1, J4_) := by
      show z_it (d_P_readFlag_10 a) (99999 + 1) (jn 0, jn 0, J3_) = _
      conv => lhs; unfold z_it
      rw [fl_0, e4_, jn_add]
    rw [st_]
    rcases w4_ with ⟨x_, ex_, fx_, n_⟩ | ⟨r4_, er4_, p4_⟩
    · obtain ⟨K_, e5_, f5_, g0_, g9_⟩ := sp_colX (a := a) (set := s4_) (k := 1) (by omega) (by omega) n_ Q4_ A4_ hN (m := 99999) (by omega)
      have n5_ : ¬ K_ 54 0 = jn 0 := by rw [g0_]; exact n_
      rw [e5_, ob_s, sp_failed1 n5_, ob_s, if_neg (show ¬ jn 1 = jn 0 by decide), ob_s, ex_]
      exact ⟨_, rfl, cF_tr F4_ (cF_54 f5_), Or.inl ⟨_, rfl, g0_.trans fx_.1, g9_.trans fx_.2⟩⟩
    · obtain ⟨o1_, o2_, m3_, hm3_, em3_, en_⟩ := aCol_ok g2_ (Nat.two_pow_pos _) er4_
      have em4_ : s4_ = jn m3_ := em3_
      rw [er4_, eb_r, em4_]
      dsimp only
      obtain ⟨s5_, k5_, J5_, _, e5_, f5_, w5_⟩ := sp_colL rfl g ha hN 6 m3_ r4_ 1 99999 J4_ (by omega) (by omega) hm3_ (by rw [nv_6] at en_; omega) p4_ A4_ S4_ (by omega)
      have F5_ : cF a I J5_ := cF_tr F4_ (cF_54 f5_)
      have S5_ := qS_54 S4_ g ha f5_
      rw [e5_, ob_s]
      dsimp only
      rcases w5_ with ⟨x_, ex_, fx_, n_⟩ | ⟨r5_, er5_, p5_⟩
      · rw [sp_failed1 n_, ob_s, if_neg (show ¬ jn 1 = jn 0 by decide), ob_s, ex_]
        exact ⟨_, rfl, F5_, Or.inl ⟨_, rfl, fx_⟩⟩
      · obtain ⟨y1_, y2_, y3_⟩ := aCols_ok g2_ 6 m3_ r4_ (s5_, r5_) hm3_ o2_ er5_
        obtain ⟨J6_, e6_, w6_, f6_⟩ := sq_bring (s := a + 7) S5_ g (by omega) (by omega) ⟨k1_, l1_, ek1_⟩ y3_ ⟨k2_, by omega, ek2_⟩ ⟨k3_, by omega, ek3_⟩
        rw [sp_failed0 p5_.1, ob_s, if_pos rfl, e6_, ob_s, ob_s, er5_, eb_r]
        exact ⟨_, rfl, fun b b1 b2 => by show J6_ b = I b; rw [f6_ b (by omega)]; exact F5_ b b1 b2, Or.inr ⟨_, _, rfl, cP_54 p5_ (f6_ 54 (by omega)), w6_⟩⟩
end FLC
