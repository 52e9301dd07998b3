/-! the class reads a text -/
theorem a_fill {r n : Nat} (hr : z_l r = n) (hn : n < 1000) (x : Int32) (I : z_H) : ∃ J, d_A_fill r x I = some J ∧ (∀ b, ¬ b = r → J b = I b) ∧ ∀ k, k < n → J r k = x := by
  have z9_ : ∃ q, z_it (d_A_fill_2 r x) z_F (jn 0, I) = some q ∧ ((∀ b, ¬ b = r → q.2 b = I b) ∧ ∀ k, k < n → q.2 r k = x) := by
    refine z_inv (fun (i : Nat) (p : Int32 × z_H) => p.1 = jn i ∧ (∀ b, ¬ b = r → p.2 b = I b) ∧ ∀ k, k < i → p.2 r k = x) (fun (q : Int32 × z_H) => (∀ b, ¬ b = r → q.2 b = I b) ∧ ∀ k, k < n → q.2 r k = x) (n := n) (by omega) ⟨rfl, fun _ _ => rfl, fun k hk => absurd hk (Nat.not_lt_zero _)⟩ (fun i p hi hp => ?_) (fun p hp => ?_)
    · obtain ⟨e1_, e2_, e3_⟩ := hp
      unfold d_A_fill_2
      rw [e1_, hr, if_pos (by rw [jn_lt (by omega) (by omega)]; exact hi), if_pos (by rw [jn_in (by omega)]; exact hi), jn_n (by omega)]
      refine ⟨_, rfl, jn_add i 1, fun b hb => ?_, fun k hk => ?_⟩
      · show ev_u2 p.2 r i x b = I b
        rw [ju_na hb]; exact e2_ b hb
      · show ev_u2 p.2 r i x r k = x
        by_cases e_ : k = i
        · rw [e_, ju_at]
        · rw [ju_ne (by omega)]; exact e3_ k (by omega)
    · obtain ⟨e1_, e2_, e3_⟩ := hp
      unfold d_A_fill_2
      rw [e1_, hr, if_neg (by rw [jn_lt (by omega) (by omega)]; omega)]
      exact ⟨_, rfl, e2_, e3_⟩
  obtain ⟨q_, e_, h_⟩ := z9_
  refine ⟨q_.2, ?_, h_⟩
  unfold d_A_fill
  rw [e_, ob_s]
theorem qpg_00 {P p : Nat} : qpg (L00 P) p = jg 1 := by
  unfold qpg
  rw [if_neg (show ¬ qw (L00 P) p < qF (L00 P) from Nat.not_lt_zero _)]
theorem sp_clear {a : Nat} (ha : a = 2 ∨ a = 28) (I : z_H) : ∃ J, d_L_clear a I = some J ∧ (∀ b, b < a + 1 ∨ a + 25 ≤ b → J b = I b) ∧ qS (L00 0) J (a + 7) (a + 1) := by
  have l14_ : z_l (a + 7 + 14) = 3 := by rcases ha with e_ | e_ <;> (rw [e_]; decide)
  have l15_ : z_l (a + 7 + 15) = 18 := by rcases ha with e_ | e_ <;> (rw [e_]; decide)
  have l16_ : z_l (a + 7 + 16) = 8 := by rcases ha with e_ | e_ <;> (rw [e_]; decide)
  have l17_ : z_l (a + 7 + 17) = 4 := by rcases ha with e_ | e_ <;> (rw [e_]; decide)
  have k0_ : ∃ K, K = ev_u2 (ev_u2 (ev_u2 (ev_u2 I (a + 1) 0 (jn 0)) (a + 1) 1 (jn 0)) (a + 1) 2 (jn 0)) (a + 1) 3 (jn 0) := ⟨_, rfl⟩
  obtain ⟨K_, eK_⟩ := k0_
  have k1_ : ∃ K, K = ev_u2 (ev_u2 (ev_u2 (ev_u2 (ev_u2 (ev_u2 (ev_u2 K_ (a + 7) 0 (jn 0)) (a + 7) 1 (jn 0)) (a + 7) 2 (jn 0)) (a + 7) 3 (jn 0)) (a + 7) 4 (jn 0)) (a + 7) 5 (jn 0)) (a + 7) 6 (jn 0) := ⟨_, rfl⟩
  obtain ⟨K1_, eK1_⟩ := k1_
  obtain ⟨J1_, e1_, f1_, c1_⟩ := a_fill l14_ (by omega) (jn 0) K1_
  obtain ⟨J2_, e2_, f2_, c2_⟩ := a_fill l15_ (by omega) (jg 1) J1_
  obtain ⟨J3_, e3_, f3_, c3_⟩ := a_fill l16_ (by omega) (jg 1) J2_
  obtain ⟨J4_, e4_, f4_, c4_⟩ := a_fill l17_ (by omega) (jg 1) J3_
  have u_ : ∀ b, b < a + 7 + 14 → J4_ b = K1_ b := fun b hb => by rw [f4_ b (by omega), f3_ b (by omega), f2_ b (by omega), f1_ b (by omega)]
  have n1_ : ∀ b, ¬ b = a + 7 → K1_ b = K_ b := fun b hb => by rw [eK1_, ju_na hb, ju_na hb, ju_na hb, ju_na hb, ju_na hb, ju_na hb, ju_na hb]
  have n0_ : ∀ b, ¬ b = a + 1 → K_ b = I b := fun b hb => by rw [eK_, ju_na hb, ju_na hb, ju_na hb, ju_na hb]
  have s_ : ∀ k, k < 7 → K1_ (a + 7) k = jn 0 := fun k hk => by
    have k_ : k = 0 ∨ k = 1 ∨ k = 2 ∨ k = 3 ∨ k = 4 ∨ k = 5 ∨ k = 6 := by omega
    rcases k_ with e_ | e_ | e_ | e_ | e_ | e_ | e_ <;> (rw [eK1_, e_]; simp [ev_u2])
  have w_ : ∀ k, k < 4 → K_ (a + 1) k = jn 0 := fun k hk => by
    have k_ : k = 0 ∨ k = 1 ∨ k = 2 ∨ k = 3 := by omega
    rcases k_ with e_ | e_ | e_ | e_ <;> (rw [eK_, e_]; simp [ev_u2])
  have w2_ : ∀ k, k < 4 → J4_ (a + 1) k = jn 0 := fun k hk => by rw [u_ (a + 1) (by omega), n1_ (a + 1) (by omega)]; exact w_ k hk
  refine ⟨J4_, ?_, fun b hb => ?_, fun k hk => ?_, ?_, w2_ 0 (by omega), w2_ 1 (by omega), w2_ 2 (by omega), w2_ 3 (by omega), fun c hc => absurd hc (Nat.not_lt_zero _), fun m hm => absurd hm (Nat.not_lt_zero _), fun v hv => absurd hv (Nat.not_lt_zero _), fun f j hf => absurd hf (Nat.not_lt_zero _), fun p hp => ?_, fun m _ hm => ?_, fun v _ hv => ?_⟩
  · unfold d_L_clear d_U_clear d_S_clear
    rw [ob_s, ← eK_, ob_s, ← eK1_, e1_, ob_s, e2_, ob_s, e3_, ob_s, e4_, ob_s, ob_s]
  · rw [f4_ b (by omega), f3_ b (by omega), f2_ b (by omega), f1_ b (by omega), n1_ b (by omega), n0_ b (by omega)]
  · rw [u_ (a + 7) (by omega), s_ k (by omega)]; rfl
  · rw [u_ (a + 7) (by omega), s_ 6 (by omega)]; rfl
  · rw [f4_ (a + 7 + 16) (by omega), c3_ p hp, qpg_00]
  · rw [c4_ m hm]
  · rw [f4_ (a + 7 + 14) (by omega), f3_ (a + 7 + 14) (by omega), f2_ (a + 7 + 14) (by omega), c1_ v hv]
def nP (N : Nat) (A : Nat → Int32) (q : Nat) (J : z_H) : Prop := J 54 3 = jn N ∧ J 54 6 = jn q ∧ q ≤ N ∧ (∃ p, q ≤ p ∧ p ≤ N ∧ J 54 4 = jn p) ∧ (tK N A q = 0 → fP (1, q) J) ∧ (¬ tK N A q = 0 → J 54 0 = jn 0 ∧ J 54 1 = jg 1 ∧ J 54 4 = jn (tE N A q) ∧ J 54 5 = jn (tK N A q - 1))
section RDC
variable {N q a : Nat} {A : Nat → Int32} {I J : z_H} {L : LL}
theorem nP_c (h : nP N A q J) (hk : ¬ tK N A q = 0) : cP N A (nx N A q) J := by
  obtain ⟨h3_, h6_, hq_, _, _, hb_⟩ := h
  obtain ⟨h0_, h1_, h4_, _⟩ := hb_ hk
  exact ⟨h0_, h1_, h3_, tE N A q, (tE_le hq_).2, h4_, rfl⟩
theorem sp_nextN (h : cP N A q I) (hA : cA N A I) (hN : N ≤ 500) : ∃ J, d_P_next a I = some J ∧ (∀ b, ¬ b = 54 → J b = I b) ∧ nP N A q J := by
  have qle_ := cP_q h
  obtain ⟨h0_, h1_, h3_, p_, hp_, h4_, hq_⟩ := h
  obtain ⟨J_, e_, f_, c3_, c6_, y_, ca_, cb_⟩ := sp_next (a := a) h0_ h3_ h4_ hp_ hN hA
  rw [hq_] at c6_ y_ ca_ cb_
  refine ⟨J_, e_, f_, c3_, c6_, qle_, y_, ca_, fun k_ => ?_⟩
  obtain ⟨d0_, d1_, d4_, d5_, _⟩ := cb_ k_
  exact ⟨d0_, d1_.trans h1_, d4_, d5_⟩
theorem nP_w (h : nP N A q J) (hA : cA N A J) (hN : N ≤ 500) (h2 : tK N A q = 2) {k : Nat} (hk : k < 34) : d_P_isWord a k J = some (if tWd N A q k = true then jn 1 else jn 0) := by
  obtain ⟨h3_, h6_, hq_, _, _, hb_⟩ := h
  obtain ⟨h0_, h1_, h4_, h5_⟩ := hb_ (by omega)
  exact sp_word hk (by rw [h5_, h2]) h4_ h6_ hA hq_ hN
theorem nP_n (h : nP N A q J) (h0 : ¬ tK N A q = 0) (h2 : ¬ tK N A q = 2) (k : Nat) : d_P_isWord a k J = some (jn 0) := by
  have t5_ := tK_5 (N := N) (A := A) (q := q)
  exact sp_noword (by rw [(h.2.2.2.2.2 h0).2.2.2, jn_eq (by omega) (by omega)]; omega)
/-- a fault told at a token read -/
theorem nP_f (h : nP N A q J) (h0 : J 54 0 = jn 0) (c : Nat) : ∃ K, d_P_fail (jn c) J = some K ∧ (∀ b, ¬ b = 54 → K b = J b) ∧ fP (c, q) K := ⟨_, sp_fail0 h0 _, fun b hb => by rw [ju_na hb, ju_na hb], by rw [ju_ne (by omega), ju_at], by rw [ju_at]; exact h.2.1⟩
theorem sp_line (h : cP N A q I) (hA : cA N A I) (hN : N ≤ 500) (hs : qS L I (a + 7) (a + 1)) (g : qG L) (ha : a = 2 ∨ a = 28) : ∃ J, d_P_readLine a I = some J ∧ cF a I J ∧ cR N A a (aLine N A q L) J := by
  have t5_ := tK_5 (N := N) (A := A) (q := q)
  obtain ⟨J_, e_, f_, n_⟩ := sp_nextN (a := a) h hA hN
  have A_ := cA_54 hA f_
  have S_ := qS_54 hs g ha f_
  have F_ : cF a I J_ := cF_54 f_
  unfold d_P_readLine aLine
  rw [e_, ob_s]
  by_cases k0_ : tK N A q = 0
  · have x_ := n_.2.2.2.2.1 k0_
    have b_ : ¬ J_ 54 0 = jn 0 := fun q_ => absurd (show jn 1 = jn 0 from x_.1.symm.trans q_) (by decide)
    rw [sp_failed1 b_, ob_s, if_neg (show ¬ jn 1 = jn 0 by decide), if_neg (by omega)]
    exact ⟨_, rfl, F_, Or.inl ⟨_, rfl, x_⟩⟩
  · have z_ := (n_.2.2.2.2.2 k0_).1
    have P_ := nP_c n_ k0_
    have nq_ := n_.2.1
    rw [sp_failed0 z_, ob_s, if_pos rfl]
    by_cases k2_ : tK N A q = 2
    · rw [if_pos k2_]
      have done_ : ∀ {x : PE ⊕ (Nat × LL)} {f : z_H → Option z_H}, (∃ J, f J_ = some J ∧ cF a J_ J ∧ cR N A a x J) → ∃ J, (Option.bind (α := z_H) ((f J_).bind fun q44 => some (q44)) fun q7 => some (q7)) = some J ∧ cF a I J ∧ cR N A a x J := fun {x f} hx => by
        obtain ⟨K_, e2_, f2_, r2_⟩ := hx
        rw [e2_, ob_s, ob_s]
        exact ⟨_, rfl, cF_tr F_ f2_, r2_⟩
      rw [nP_w n_ A_ hN k2_ (k := 2) (by omega), ob_s]
      by_cases c2_ : tWd N A q 2 = true
      · rw [if_pos c2_, if_neg (show ¬ jn 1 = jn 0 by decide), if_pos c2_]
        exact done_ (f := d_P_readColour a) (sp_colour P_ A_ hN S_ g ha nq_)
      rw [if_neg c2_, if_pos rfl, if_neg c2_, nP_w n_ A_ hN k2_ (k := 3) (by omega), ob_s]
      by_cases c3_ : tWd N A q 3 = true
      · rw [if_pos c3_, if_neg (show ¬ jn 1 = jn 0 by decide), if_pos c3_]
        exact done_ (f := d_P_readNation a) (sp_nation P_ A_ hN S_ g ha nq_)
      rw [if_neg c3_, if_pos rfl, if_neg c3_, nP_w n_ A_ hN k2_ (k := 4) (by omega), ob_s]
      by_cases c4_ : tWd N A q 4 = true
      · rw [if_pos c4_, if_neg (show ¬ jn 1 = jn 0 by decide), if_pos c4_]
        exact done_ (f := d_P_readTub a) (sp_tub P_ A_ hN S_ g ha nq_)
      rw [if_neg c4_, if_pos rfl, if_neg c4_, nP_w n_ A_ hN k2_ (k := 5) (by omega), ob_s]
      by_cases c5_ : tWd N A q 5 = true
      · rw [if_pos c5_, if_neg (show ¬ jn 1 = jn 0 by decide), if_pos c5_]
        exact done_ (f := d_P_readFlag a) (sp_flag P_ A_ hN S_ g ha nq_)
      rw [if_neg c5_, if_pos rfl, if_neg c5_, nP_w n_ A_ hN k2_ (k := 6) (by omega), ob_s]
      by_cases c6_ : tWd N A q 6 = true
      · rw [if_pos c6_, if_neg (show ¬ jn 1 = jn 0 by decide), if_pos c6_]
        exact done_ (f := d_P_readPut a) (sp_put P_ A_ hN S_ g ha)
      rw [if_neg c6_, if_pos rfl, if_neg c6_, nP_w n_ A_ hN k2_ (k := 7) (by omega), ob_s]
      by_cases c7_ : tWd N A q 7 = true
      · rw [if_pos c7_, if_neg (show ¬ jn 1 = jn 0 by decide), if_pos c7_]
        exact done_ (f := d_P_readWash a) (sp_wash P_ A_ hN S_ g ha)
      rw [if_neg c7_, if_pos rfl, if_neg c7_, nP_w n_ A_ hN k2_ (k := 8) (by omega), ob_s]
      by_cases c8_ : tWd N A q 8 = true
      · rw [if_pos c8_, if_neg (show ¬ jn 1 = jn 0 by decide), if_pos c8_]
        exact done_ (f := d_P_readHang a) (sp_hang P_ A_ hN S_ g ha)
      rw [if_neg c8_, if_pos rfl, if_neg c8_, nP_w n_ A_ hN k2_ (k := 9) (by omega), ob_s]
      by_cases c9_ : tWd N A q 9 = true
      · rw [if_pos c9_, if_neg (show ¬ jn 1 = jn 0 by decide), if_pos c9_]
        exact done_ (f := d_P_readWind a) (sp_wind P_ A_ hN S_ g ha)
      rw [if_neg c9_, if_pos rfl, if_neg c9_, nP_w n_ A_ hN k2_ (k := 10) (by omega), ob_s]
      by_cases ca_ : tWd N A q 10 = true
      · rw [if_pos ca_, if_neg (show ¬ jn 1 = jn 0 by decide), if_pos ca_]
        exact done_ (f := d_P_readPass a) (sp_pass P_ A_ hN S_ g ha)
      rw [if_neg ca_, if_pos rfl, if_neg ca_]
      obtain ⟨K_, e2_, f2_, x_⟩ := nP_f n_ z_ 1
      rw [e2_, ob_s, ob_s]
      exact ⟨_, rfl, cF_tr F_ (cF_54 f2_), Or.inl ⟨_, rfl, x_⟩⟩
    · obtain ⟨K_, e2_, f2_, x_⟩ := nP_f n_ z_ 1
      rw [if_neg k2_]
      simp only [nP_n n_ k0_ k2_, ob_s, if_true]
      rw [e2_, ob_s, ob_s]
      exact ⟨_, rfl, cF_tr F_ (cF_54 f2_), Or.inl ⟨_, rfl, x_⟩⟩
/-- the end of a text -/
def eR (N : Nat) (A : Nat → Int32) (a : Nat) (x : PE ⊕ LL) (K : z_H) : Prop := (∃ e, x = .inl e ∧ fP e K) ∨ (∃ L, x = .inr L ∧ K 54 0 = jn 0 ∧ K 54 1 = jg 1 ∧ qS L K (a + 7) (a + 1))
theorem sp_end1 (h : ¬ I 54 0 = jn 0) : d_P_readEnd a I = some I := by
  unfold d_P_readEnd
  rw [sp_failed1 h, ob_s, if_neg (show ¬ jn 1 = jn 0 by decide)]
theorem sp_lines (ha : a = 2 ∨ a = 28) (hN : N ≤ 500) : ∀ (f i q m : Nat) (L : LL) (I : z_H), N + 1 ≤ f + q → i ≤ q → f < m → nP N A q I → cA N A I → qS L I (a + 7) (a + 1) → qG L → ∃ r K, z_it (d_P_read_6 a) m (jn i, I) = some r ∧ d_P_readEnd a r.2 = some K ∧ cF a I K ∧ eR N A a (aLines N A f q L) K := by
  intro f
  induction f with
  | zero =>
    intro i q m L I hf hi hm h hA hS g
    have k_ := h.2.2.1
    omega
  | succ f ih_ =>
    intro i q m L I hf hi hm h hA hS g
    have qle_ := h.2.2.1
    have t5_ := tK_5 (N := N) (A := A) (q := q)
    obtain ⟨m2_, rfl⟩ : ∃ m2, m = m2 + 1 := ⟨m - 1, by omega⟩
    have h3_ := h.1
    -- a heap that has failed ends the loop at once
    have dead_ : ∀ (i m : Nat) (K : z_H), ¬ K 54 0 = jn 0 → z_it (d_P_read_6 a) (m + 1) (jn i, K) = some (jn i, K) := fun i m K hK => by
      unfold z_it d_P_read_6
      dsimp only
      by_cases w_ : jn i < K 54 3
      · rw [if_pos w_, sp_failed1 hK, ob_s, if_neg (show ¬ jn 1 = jn 0 by decide)]
      · rw [if_neg w_]
    unfold aLines
    by_cases k4_ : tK N A q = 4
    · have l_ : q < N := tK_lt (A := A) (by omega)
      have z_ := (h.2.2.2.2.2 (by omega)).1
      have h5_ := (h.2.2.2.2.2 (by omega)).2.2.2
      have P_ := nP_c h (by omega)
      have nq_ := nx_gt (A := A) l_
      have nle_ := (nx_le (A := A) qle_).2
      obtain ⟨J_, e_, F_, r_⟩ := sp_line P_ hA hN hS g ha
      have ag_ := aG_line (N := N) (A := A) (q := nx N A q) g nle_
      have A1_ : cA N A J_ := fun k hk => by rw [F_ 1 (by omega) (by omega)]; exact hA k hk
      rw [if_pos k4_]
      have st_ : ∀ J2, d_P_next a J_ = some J2 → z_it (d_P_read_6 a) (m2_ + 1) (jn i, I) = z_it (d_P_read_6 a) m2_ (jn (i + 1), J2) := fun J2 e2_ => by
        conv => lhs; unfold z_it d_P_read_6
        dsimp only
        rw [if_pos (show jn i < I 54 3 by rw [h3_, jn_lt (by omega) (by omega)]; omega), sp_failed0 z_, ob_s, if_pos rfl, if_pos (show I 54 5 = jn 3 by rw [h5_, k4_]), e_, ob_s, e2_, ob_s, jn_add]
        rfl
      rcases r_ with ⟨x_, ex_, fx_⟩ | ⟨q2_, L2_, er_, p2_, S2_⟩
      · have n_ := fP_n (ag_.1 x_ ex_) fx_
        obtain ⟨m3_, rfl⟩ : ∃ m3, m2_ = m3 + 1 := ⟨m2_ - 1, by omega⟩
        rw [st_ J_ (sp_next1 n_), dead_ (i + 1) m3_ J_ n_, ex_]
        exact ⟨_, _, rfl, sp_end1 n_, F_, Or.inl ⟨_, rfl, fx_⟩⟩
      · obtain ⟨g2_, q2a_, q2b_⟩ := ag_.2 _ er_
        have q2c_ : nx N A q ≤ q2_ := q2a_
        obtain ⟨J2_, e2_, f2_, n2_⟩ := sp_nextN (a := a) p2_ A1_ hN
        rw [st_ J2_ e2_, er_, eb_r]
        obtain ⟨r3_, K3_, e3_, d3_, F3_, x3_⟩ := ih_ (i + 1) q2_ m2_ L2_ J2_ (by omega) (by omega) (by omega) n2_ (cA_54 A1_ f2_) (qS_54 S2_ g2_ ha f2_) g2_
        exact ⟨r3_, K3_, e3_, d3_, cF_tr F_ (cF_tr (cF_54 f2_) F3_), x3_⟩
    · rw [if_neg k4_]
      by_cases k0_ : tK N A q = 0
      · have x_ := h.2.2.2.2.1 k0_
        have n_ : ¬ I 54 0 = jn 0 := fun q_ => absurd (show jn 1 = jn 0 from x_.1.symm.trans q_) (by decide)
        rw [dead_ i m2_ I n_, if_neg (by omega)]
        exact ⟨_, _, rfl, sp_end1 n_, fun _ _ _ => rfl, Or.inl ⟨_, rfl, x_⟩⟩
      · obtain ⟨z_, y_, _, h5_⟩ := h.2.2.2.2.2 k0_
        have st_ : z_it (d_P_read_6 a) (m2_ + 1) (jn i, I) = some (jn i, I) := by
          unfold z_it d_P_read_6
          dsimp only
          by_cases w_ : jn i < I 54 3
          · rw [if_pos w_, sp_failed0 z_, ob_s, if_pos rfl, if_neg (show ¬ I 54 5 = jn 3 by rw [h5_, jn_eq (by omega) (by omega)]; omega)]
          · rw [if_neg w_]
        rw [st_]
        by_cases k1_ : tK N A q = 1
        · rw [if_pos k1_]
          have c1_ : I (a + 1) 1 = jn (qC L) := hS.2.2.2.1
          have c2_ : I (a + 1) 2 = jn (qN L) := hS.2.2.2.2.1
          have c3_ : I (a + 1) 3 = jn (qT L) := hS.2.2.2.2.2.1
          have b1_ := g.2.1
          have b2_ := g.2.2.1
          have b3_ := g.2.2.2.1
          have k5_ : I 54 5 = jn 0 := by rw [h5_, k1_]
          obtain ⟨K_, e2_, f2_, x_⟩ := nP_f h z_ 4
          by_cases w1_ : qC L = 0
          · refine ⟨_, K_, rfl, ?_, cF_54 f2_, Or.inl ⟨(4, q), by rw [if_pos (Or.inl w1_)], x_⟩⟩
            unfold d_P_readEnd
            dsimp only
            rw [sp_failed0 z_, ob_s, if_pos rfl, if_pos k5_, if_pos (show I (a + 1) 1 = jn 0 by rw [c1_, w1_]), e2_, ob_s, ob_s]
          · by_cases w2_ : qN L = 0
            · refine ⟨_, K_, rfl, ?_, cF_54 f2_, Or.inl ⟨(4, q), by rw [if_pos (Or.inr (Or.inl w2_))], x_⟩⟩
              unfold d_P_readEnd
              dsimp only
              rw [sp_failed0 z_, ob_s, if_pos rfl, if_pos k5_, if_neg (show ¬ I (a + 1) 1 = jn 0 by rw [c1_, jn_eq (by omega) (by omega)]; exact w1_), if_pos (show I (a + 1) 2 = jn 0 by rw [c2_, w2_]), e2_, ob_s, ob_s]
            · by_cases w3_ : qT L = 0
              · refine ⟨_, K_, rfl, ?_, cF_54 f2_, Or.inl ⟨(4, q), by rw [if_pos (Or.inr (Or.inr w3_))], x_⟩⟩
                unfold d_P_readEnd
                dsimp only
                rw [sp_failed0 z_, ob_s, if_pos rfl, if_pos k5_, if_neg (show ¬ I (a + 1) 1 = jn 0 by rw [c1_, jn_eq (by omega) (by omega)]; exact w1_), if_neg (show ¬ I (a + 1) 2 = jn 0 by rw [c2_, jn_eq (by omega) (by omega)]; exact w2_), if_pos (show I (a + 1) 3 = jn 0 by rw [c3_, w3_]), e2_, ob_s, ob_s]
              · refine ⟨_, I, rfl, ?_, fun _ _ _ => rfl, Or.inr ⟨L, by rw [if_neg (by omega)], z_, y_, hS⟩⟩
                unfold d_P_readEnd
                dsimp only
                rw [sp_failed0 z_, ob_s, if_pos rfl, if_pos k5_, if_neg (show ¬ I (a + 1) 1 = jn 0 by rw [c1_, jn_eq (by omega) (by omega)]; exact w1_), if_neg (show ¬ I (a + 1) 2 = jn 0 by rw [c2_, jn_eq (by omega) (by omega)]; exact w2_), if_neg (show ¬ I (a + 1) 3 = jn 0 by rw [c3_, jn_eq (by omega) (by omega)]; exact w3_), ob_s]
        · obtain ⟨K_, e2_, f2_, x_⟩ := nP_f h z_ 1
          rw [if_neg k1_]
          refine ⟨_, K_, rfl, ?_, cF_54 f2_, Or.inl ⟨(1, q), rfl, x_⟩⟩
          unfold d_P_readEnd
          dsimp only
          rw [sp_failed0 z_, ob_s, if_pos rfl, if_neg (show ¬ I 54 5 = jn 0 by rw [h5_, jn_eq (by omega) (by omega)]; omega), e2_, ob_s, ob_s]
end RDC
