/-! the reference reads a text -/
/-- what stands behind the lines -/
def dtl (I : z_H) : Option z_H := ((d_M_is ((jn 1)) I).bind fun q18 => (Option.bind (α := z_H) (if q18 = jn 0 then ((d_M_faults ((jn 1)) I).bind fun q35 => some (q35)) else some (I)) fun q20 => (if z_in ((jn 6)) 173 then (Option.bind (α := z_H) (if (q20 242 (z_n ((jn 6)))) = jn 0 then ((d_M_faults ((jn 4)) q20).bind fun q27 => some (q27)) else (if z_in ((jn 7)) 173 then (if (q20 242 (z_n ((jn 7)))) = jn 0 then ((d_M_faults ((jn 4)) q20).bind fun q30 => some (q30)) else (if z_in ((jn 8)) 173 then (if (q20 242 (z_n ((jn 8)))) = jn 0 then ((d_M_faults ((jn 4)) q20).bind fun q33 => some (q33)) else some (q20)) else none)) else none)) fun q24 => some (q24)) else none)))
def dct (q20 : z_H) : Option z_H := (if z_in ((jn 6)) 173 then (Option.bind (α := z_H) (if (q20 242 (z_n ((jn 6)))) = jn 0 then ((d_M_faults ((jn 4)) q20).bind fun q27 => some (q27)) else (if z_in ((jn 7)) 173 then (if (q20 242 (z_n ((jn 7)))) = jn 0 then ((d_M_faults ((jn 4)) q20).bind fun q30 => some (q30)) else (if z_in ((jn 8)) 173 then (if (q20 242 (z_n ((jn 8)))) = jn 0 then ((d_M_faults ((jn 4)) q20).bind fun q33 => some (q33)) else some (q20)) else none)) else none)) fun q24 => some (q24)) else none)
section RDM
variable {N q B : Nat} {A : Nat → Int32} {I J : z_H} {L : LL}
theorem rp_ct1 (h : jn 0 < I 241 10) : dct I = some I := by
  have in6_ : z_in (jn 6) 173 := by rw [jn_in (by omega)]; omega
  have in7_ : z_in (jn 7) 173 := by rw [jn_in (by omega)]; omega
  have in8_ : z_in (jn 8) 173 := by rw [jn_in (by omega)]; omega
  unfold dct
  rw [if_pos in6_, rp_faults1 h, ob_s, if_pos in7_, if_pos in8_]
  by_cases a_ : I 242 (z_n (jn 6)) = jn 0
  · rw [if_pos a_, ob_s]
  · rw [if_neg a_]
    by_cases b_ : I 242 (z_n (jn 7)) = jn 0
    · rw [if_pos b_, ob_s]
    · rw [if_neg b_]
      by_cases c_ : I 242 (z_n (jn 8)) = jn 0
      · rw [if_pos c_, ob_s]
      · rw [if_neg c_, ob_s]
theorem rp_tl1 (h : jn 0 < I 241 10) (h0 : ¬ I 241 10 = jn 0) : dtl I = some I := by
  unfold dtl
  rw [rp_is1 h0, ob_s, if_pos rfl, rp_faults1 h, ob_s, ob_s]
  exact rp_ct1 h
/-- a token that no line and no end begins with -/
theorem rp_tlX (h : rP N A q I) (h1 : ¬ tK N A q = 1) : ∃ K, dtl I = some K ∧ mF I K ∧ fM (1, q) K := by
  have t5_ := tK_5 (N := N) (A := A) (q := q)
  obtain ⟨J_, e_, F_, x_, p_, n_⟩ := rp_told h 1 (by omega) (by omega)
  unfold dtl
  rw [rp_is h 1 (by omega) (by omega), ob_s, if_neg h1, if_pos rfl, e_, ob_s, ob_s]
  exact ⟨_, rp_ct1 p_, F_, x_⟩
theorem rp_tlE (h : rP N A q I) (h1 : tK N A q = 1) (hS : mS L B I) (g : qG L) : ∃ K, dtl I = some K ∧ mF I K ∧ ((qC L = 0 ∨ qN L = 0 ∨ qT L = 0) → fM (4, q) K) ∧ (¬ (qC L = 0 ∨ qN L = 0 ∨ qT L = 0) → K = I) := by
  have b1_ := g.2.1
  have b2_ := g.2.2.1
  have b3_ := g.2.2.2.1
  have in6_ : z_in (jn 6) 173 := by rw [jn_in (by omega)]; omega
  have in7_ : z_in (jn 7) 173 := by rw [jn_in (by omega)]; omega
  have in8_ : z_in (jn 8) 173 := by rw [jn_in (by omega)]; omega
  obtain ⟨zz_, m_⟩ := hS
  have c6_ : I 242 (z_n (jn 6)) = jn (qC L) := by rw [jn_n (by omega)]; exact m_.2.1
  have c7_ : I 242 (z_n (jn 7)) = jn (qN L) := by rw [jn_n (by omega)]; exact m_.2.2.1
  have c8_ : I 242 (z_n (jn 8)) = jn (qT L) := by rw [jn_n (by omega)]; exact m_.2.2.2.1
  obtain ⟨J_, e_, F_, x_, p_, n_⟩ := rp_told h 4 (by omega) (by omega)
  unfold dtl
  rw [rp_is h 1 (by omega) (by omega), ob_s, if_pos h1, if_neg (show ¬ jn 1 = jn 0 by decide), ob_s, if_pos in6_, if_pos in7_, if_pos in8_, c6_, c7_, c8_, e_, ob_s]
  by_cases w1_ : qC L = 0
  · rw [if_pos (show jn (qC L) = jn 0 by rw [w1_]), ob_s]
    exact ⟨_, rfl, F_, fun _ => x_, fun k_ => absurd (Or.inl w1_) k_⟩
  · rw [if_neg (show ¬ jn (qC L) = jn 0 by rw [jn_eq (by omega) (by omega)]; exact w1_)]
    by_cases w2_ : qN L = 0
    · rw [if_pos (show jn (qN L) = jn 0 by rw [w2_]), ob_s]
      exact ⟨_, rfl, F_, fun _ => x_, fun k_ => absurd (Or.inr (Or.inl w2_)) k_⟩
    · rw [if_neg (show ¬ jn (qN L) = jn 0 by rw [jn_eq (by omega) (by omega)]; exact w2_)]
      by_cases w3_ : qT L = 0
      · rw [if_pos (show jn (qT L) = jn 0 by rw [w3_]), ob_s]
        exact ⟨_, rfl, F_, fun _ => x_, fun k_ => absurd (Or.inr (Or.inr w3_)) k_⟩
      · rw [if_neg (show ¬ jn (qT L) = jn 0 by rw [jn_eq (by omega) (by omega)]; exact w3_), ob_s]
        exact ⟨_, rfl, mF_0, fun k_ => by omega, fun _ => rfl⟩
theorem rp_thing (h : rP N A q I) (hA : mA N A I) (hN : N ≤ 500) (hS : mS L B I) (g : qG L) (hB : B ≤ q) : ∃ J, d_M_readsThing I = some J ∧ mF I J ∧ mR N A (aLine N A q L) J := by
  have t5_ := tK_5 (N := N) (A := A) (q := q)
  unfold d_M_readsThing d_M_readsDeed aLine
  by_cases k2_ : tK N A q = 2
  · have k0_ : ¬ tK N A q = 0 := by omega
    have w_ : ∀ k, 1 ≤ k → k < 11 → d_M_isWord (k + 23) I = some (if tWd N A q k = true then jn 1 else jn 0) := fun k h1 h2 => by
      rw [rp_word (by omega) h k2_ hA hN, tWd_eq h1 h2]
    have n1_ : ¬ jn 1 = jn 0 := by decide
    have done_ : ∀ {x : PE ⊕ (Nat × LL)} {o : Option z_H}, (∃ J, o = some J ∧ mF I J ∧ mR N A x J) → ∃ J, (Option.bind (α := z_H) (o.bind fun q44 => some (q44)) fun q7 => some (q7)) = some J ∧ mF I J ∧ mR N A x J := fun {x o} hx => by
      obtain ⟨K_, e2_, f2_, r2_⟩ := hx
      rw [e2_, ob_s, ob_s]
      exact ⟨_, rfl, f2_, r2_⟩
    have done2_ : ∀ {x : PE ⊕ (Nat × LL)} {o : Option z_H}, (∃ J, o = some J ∧ mF I J ∧ mR N A x J) → ∃ J, (Option.bind (α := z_H) ((Option.bind (α := z_H) (o.bind fun q44 => some (q44)) fun q7 => some (q7)).bind fun q12 => some (q12)) fun q3 => some (q3)) = some J ∧ mF I J ∧ mR N A x J := fun {x o} hx => by
      obtain ⟨K_, e2_, f2_, r2_⟩ := hx
      rw [e2_, ob_s, ob_s, ob_s, ob_s]
      exact ⟨_, rfl, f2_, r2_⟩
    rw [if_pos k2_, w_ 2 (by omega) (by omega), ob_s]
    by_cases c2_ : tWd N A q 2 = true
    · rw [if_pos c2_, if_neg n1_, if_pos c2_]
      exact done_ (rp_colour h k0_ hA hN hS g hB)
    rw [if_neg c2_, if_pos rfl, if_neg c2_, w_ 3 (by omega) (by omega), ob_s]
    by_cases c3_ : tWd N A q 3 = true
    · rw [if_pos c3_, if_neg n1_, if_pos c3_]
      exact done_ (rp_nation h k0_ hA hN hS g hB)
    rw [if_neg c3_, if_pos rfl, if_neg c3_, w_ 4 (by omega) (by omega), ob_s]
    by_cases c4_ : tWd N A q 4 = true
    · rw [if_pos c4_, if_neg n1_, if_pos c4_]
      exact done_ (rp_tub h k0_ hA hN hS g hB)
    rw [if_neg c4_, if_pos rfl, if_neg c4_, w_ 5 (by omega) (by omega), ob_s]
    by_cases c5_ : tWd N A q 5 = true
    · rw [if_pos c5_, if_neg n1_, if_pos c5_]
      exact done_ (rp_flag h k0_ hA hN hS g hB)
    rw [if_neg c5_, if_pos rfl, if_neg c5_, w_ 6 (by omega) (by omega), ob_s]
    by_cases c6_ : tWd N A q 6 = true
    · rw [if_pos c6_, if_neg n1_, if_pos c6_]
      exact done2_ (rp_put h k0_ hA hN hS g hB)
    rw [if_neg c6_, if_pos rfl, if_neg c6_, w_ 7 (by omega) (by omega), ob_s]
    by_cases c7_ : tWd N A q 7 = true
    · rw [if_pos c7_, if_neg n1_, if_pos c7_]
      exact done2_ (rp_wash h k0_ hA hN hS g hB)
    rw [if_neg c7_, if_pos rfl, if_neg c7_, w_ 8 (by omega) (by omega), ob_s]
    by_cases c8_ : tWd N A q 8 = true
    · rw [if_pos c8_, if_neg n1_, if_pos c8_]
      exact done2_ (rp_hang h k0_ hA hN hS g hB)
    rw [if_neg c8_, if_pos rfl, if_neg c8_, w_ 9 (by omega) (by omega), ob_s]
    by_cases c9_ : tWd N A q 9 = true
    · rw [if_pos c9_, if_neg n1_, if_pos c9_]
      exact done2_ (rp_wind h k0_ hA hN hS g hB)
    rw [if_neg c9_, if_pos rfl, if_neg c9_, w_ 10 (by omega) (by omega), ob_s]
    by_cases ca_ : tWd N A q 10 = true
    · rw [if_pos ca_, if_neg n1_, if_pos ca_]
      exact done2_ (rp_pass h k0_ hA hN hS g hB)
    rw [if_neg ca_, if_pos rfl, if_neg ca_]
    obtain ⟨J_, e_, F_, x_, p_, n_⟩ := rp_told h 1 (by omega) (by omega)
    exact done2_ ⟨J_, e_, F_, Or.inl ⟨_, rfl, Or.inl x_⟩⟩
  · obtain ⟨J_, e_, F_, x_, p_, n_⟩ := rp_told h 1 (by omega) (by omega)
    rw [if_neg k2_]
    have w_ : ∀ k, d_M_isWord k I = some (jn 0) := fun k => rp_noword h k2_
    simp only [w_, ob_s, if_true]
    rw [e_, ob_s, ob_s, ob_s, ob_s]
    exact ⟨_, rfl, F_, Or.inl ⟨_, rfl, Or.inl x_⟩⟩
def tR (N : Nat) (x : PE ⊕ LL) (K : z_H) : Prop := (∃ e, x = .inl e ∧ fM e K) ∨ (∃ L, x = .inr L ∧ K 241 10 = jn 0 ∧ K 241 11 = jg 1 ∧ mS L N K)
theorem rp_lines (hN : N ≤ 500) : ∀ (f q m B : Nat) (L : LL) (I : z_H), N + 1 ≤ f + q → f < m → rP N A q I → mA N A I → mS L B I → B ≤ q → qG L → ∃ r K, z_it d_M_readsText_14 m I = some r ∧ dtl r = some K ∧ mF I K ∧ tR N (aLines N A f q L) K := by
  intro f
  induction f with
  | zero =>
    intro q m B L I hf hm h hA hS hB g
    have k_ := h.2.2.2.2.2.2.2
    omega
  | succ f ih_ =>
    intro q m B L I hf hm h hA hS hB g
    have qle_ := h.2.2.2.2.2.2.2
    have t5_ := tK_5 (N := N) (A := A) (q := q)
    obtain ⟨m2_, rfl⟩ : ∃ m2, m = m2 + 1 := ⟨m - 1, by omega⟩
    unfold aLines
    by_cases k4_ : tK N A q = 4
    · have l_ : q < N := tK_lt (A := A) (by omega)
      have nq_ := nx_gt (A := A) l_
      have nle_ := (nx_le (A := A) qle_).2
      obtain ⟨J_, e_, F_, A_, S_, P_⟩ := rp_onS h (by omega) hA hN hS
      obtain ⟨J2_, e2_, F2_, r_⟩ := rp_thing P_ A_ hN S_ g (by omega)
      have G2_ := mF_tr F_ F2_
      have A2_ := mA_F A_ F2_
      have ag_ := aG_line (N := N) (A := A) (q := nx N A q) g nle_
      have st_ : z_it d_M_readsText_14 (m2_ + 1) I = z_it d_M_readsText_14 m2_ J2_ := by
        conv => lhs; unfold z_it d_M_readsText_14
        rw [rp_is h 4 (by omega) (by omega), ob_s, if_pos k4_, if_neg (show ¬ jn 1 = jn 0 by decide), e_, ob_s, e2_, ob_s]
        rfl
      rw [if_pos k4_, st_]
      rcases r_ with ⟨x_, ex_, (fx_ | ⟨q5_, eq5_, k5_, p5_⟩)⟩ | ⟨q2_, L2_, er_, p2_, S2_⟩
      · have fe_ := ag_.1 x_ ex_
        have p_ := fM_n fe_ fx_
        have n_ := fM_0 fe_ fx_
        obtain ⟨m3_, rfl⟩ : ∃ m3, m2_ = m3 + 1 := ⟨m2_ - 1, by omega⟩
        have st2_ : z_it d_M_readsText_14 (m3_ + 1) J2_ = some J2_ := by
          unfold z_it d_M_readsText_14
          rw [rp_is1 n_, ob_s, if_pos rfl]
        rw [st2_, ex_]
        exact ⟨_, _, rfl, rp_tl1 p_ n_, G2_, Or.inl ⟨_, rfl, fx_⟩⟩
      · obtain ⟨m3_, rfl⟩ : ∃ m3, m2_ = m3 + 1 := ⟨m2_ - 1, by omega⟩
        have st2_ : z_it d_M_readsText_14 (m3_ + 1) J2_ = some J2_ := by
          unfold z_it d_M_readsText_14
          rw [rp_is p5_ 4 (by omega) (by omega), ob_s, if_neg (show ¬ tK N A q5_ = 4 by omega), if_pos rfl]
        obtain ⟨K_, e3_, F3_, x3_⟩ := rp_tlX p5_ (by omega)
        rw [st2_, ex_]
        exact ⟨_, K_, rfl, e3_, mF_tr G2_ F3_, Or.inl ⟨_, rfl, by rw [eq5_]; exact x3_⟩⟩
      · obtain ⟨g2_, q2a_, q2b_⟩ := ag_.2 _ er_
        have q2c_ : nx N A q ≤ q2_ := q2a_
        rw [er_, eb_r]
        obtain ⟨r3_, K3_, e3_, d3_, F3_, x3_⟩ := ih_ q2_ m2_ q2_ L2_ J2_ (by omega) (by omega) p2_ A2_ S2_ (Nat.le_refl _) g2_
        exact ⟨r3_, K3_, e3_, d3_, mF_tr G2_ F3_, x3_⟩
    · have st_ : z_it d_M_readsText_14 (m2_ + 1) I = some I := by
        unfold z_it d_M_readsText_14
        rw [rp_is h 4 (by omega) (by omega), ob_s, if_neg k4_, if_pos rfl]
      rw [if_neg k4_, st_]
      by_cases k1_ : tK N A q = 1
      · obtain ⟨K_, e3_, F3_, x4_, x5_⟩ := rp_tlE h k1_ hS g
        rw [if_pos k1_]
        by_cases w_ : qC L = 0 ∨ qN L = 0 ∨ qT L = 0
        · rw [if_pos w_]
          exact ⟨_, K_, rfl, e3_, F3_, Or.inl ⟨_, rfl, x4_ w_⟩⟩
        · have eK_ := x5_ w_
          rw [if_neg w_]
          exact ⟨_, K_, rfl, e3_, F3_, Or.inr ⟨L, rfl, by rw [eK_]; exact h.1, by rw [eK_]; exact h.2.1, by rw [eK_]; exact mS_B hS (by omega)⟩⟩
      · obtain ⟨K_, e3_, F3_, x3_⟩ := rp_tlX h k1_
        rw [if_neg k1_]
        exact ⟨_, K_, rfl, e3_, F3_, Or.inl ⟨_, rfl, x3_⟩⟩
theorem qM_00 (h : ∀ k, k < 173 → A k = jn 0) : qM (L00 0) 0 A := qM_r.mpr ⟨⟨fun k hk => h k (by omega), h 6 (by omega), h 7 (by omega), h 8 (by omega), h 9 (by omega), h 10 (by omega), fun c hc => absurd hc (Nat.not_lt_zero _), fun n k hn => absurd hn (Nat.not_lt_zero _), fun t ht => absurd ht (Nat.not_lt_zero _), fun f k hf => absurd hf (Nat.not_lt_zero _), fun n _ hn => h _ (by omega)⟩, 0, h 11 (by omega), Nat.le_refl _, fun t ht => absurd ht (Nat.not_lt_zero _)⟩
theorem qM_00k {k : Nat} (h : qM (L00 0) 0 A) : qM (L00 k) 0 (jup A 9 (jn k)) := by
  obtain ⟨⟨h1_, h2_, h3_, h4_, h5_, h6_, h7_, h8_, h9_, ha_, hb_⟩, p_, p1_, p2_, p3_⟩ := qM_r.mp h
  refine qM_r.mpr ⟨⟨fun j hj => ?_, ?_, ?_, ?_, jup_at, ?_, fun c hc => absurd hc (Nat.not_lt_zero _), fun n k hn => absurd hn (Nat.not_lt_zero _), fun t ht => absurd ht (Nat.not_lt_zero _), fun f k hf => absurd hf (Nat.not_lt_zero _), fun n hn hn2 => ?_⟩, p_, ?_, p2_, fun t ht => absurd ht (Nat.not_lt_zero _)⟩
  · rw [jup_ne (by omega)]; exact h1_ j hj
  · rw [jup_ne (by omega)]; exact h2_
  · rw [jup_ne (by omega)]; exact h3_
  · rw [jup_ne (by omega)]; exact h4_
  · rw [jup_ne (by omega)]; exact h6_
  · rw [jup_ne (by omega)]; exact hb_ n hn hn2
  · rw [jup_ne (by omega)]; exact p1_
theorem lz_00 {P : Nat} : Lz (L00 P) (fun _ => jn 0) = L00 P := by
  have e_ : (fun (n k : Nat) => if k = 4 ∧ ¬ qn (L00 P) n 3 = jn 1 then jn 0 else qn (L00 P) n k) = fun _ _ => jn 0 := by
    funext n k
    by_cases h_ : k = 4 ∧ ¬ qn (L00 P) n 3 = jn 1
    · rw [if_pos h_]
    · rw [if_neg h_]
      rfl
  show ((0, 0, 0, 0, P), _, (fun (n k : Nat) => if k = 4 ∧ ¬ qn (L00 P) n 3 = jn 1 then jn 0 else qn (L00 P) n k), _, _, _, _) = L00 P
  rw [e_]
  rfl
/-- the whole text -/
theorem rp_text (h0 : I 241 10 = jn 0) (h1 : I 241 11 = jg 1) (h3 : I 241 12 = jn N) (h4 : I 241 13 = jn 0) (hA : mA N A I) (hN : N ≤ 500) (hS : qM (L00 0) 0 (I 242)) : ∃ K, d_M_readsText I = some K ∧ mF I K ∧ tR N (aText N A) K := by
  obtain ⟨J_, e_, f1_, f2_, P_⟩ := rp_goes (A := A) h0 h1 h3 h4 (by omega) hN hA
  have F_ := mF_1 f1_ f2_
  have A_ := mA_F hA F_
  have t5_ := tK_5 (N := N) (A := A) (q := tS N A 0)
  have in9_ : z_in (jn 9) 173 := by rw [jn_in (by omega)]; omega
  have S_ : qM (L00 0) 0 (J_ 242) := by rw [f1_ 242 (by omega)]; exact hS
  have word_ : d_M_isWord 24 J_ = some (if tK N A (tS N A 0) = 2 ∧ tWd N A (tS N A 0) 1 = true then jn 1 else jn 0) := by
    by_cases k2_ : tK N A (tS N A 0) = 2
    · rw [rp_word (by omega) P_ k2_ A_ hN, show (24 : Nat) = 1 + 23 from rfl, tWd_eq (by omega) (by omega)]
      by_cases w_ : tWd N A (tS N A 0) 1 = true
      · rw [if_pos w_, if_pos ⟨k2_, w_⟩]
      · rw [if_neg w_, if_neg (fun q_ => w_ q_.2)]
    · rw [rp_noword P_ k2_, if_neg (fun q_ => k2_ q_.1)]
  -- once it has failed ahead of the lines
  have dead_ : ∀ (K : z_H), jn 0 < K 241 10 → ¬ K 241 10 = jn 0 → (z_it (d_M_readsText_14) z_F K).bind dtl = some K := fun K p_ n_ => by
    have st_ : z_it d_M_readsText_14 z_F K = some K := by
      show z_it d_M_readsText_14 (99999 + 1) K = _
      unfold z_it d_M_readsText_14
      rw [rp_is1 n_, ob_s, if_pos rfl]
    rw [st_, ob_s, rp_tl1 p_ n_]
  have body_ : d_M_readsText I = ((d_M_isWord (24) J_).bind fun q3 => (Option.bind (α := z_H) (if q3 = jn 0 then ((d_M_faults ((jn 1)) J_).bind fun q43 => some (q43)) else some (J_)) fun q5 => ((d_M_goes q5).bind fun q8 => ((d_M_number ((jn 1)) ((jn 8)) q8).bind fun q10 => (if z_in ((jn 9)) 173 then ((z_it (d_M_readsText_14) z_F ((ev_u2 q10.2 242 (z_n ((jn 9))) q10.1))).bind dtl) else none))))) := by
    unfold d_M_readsText
    rw [e_, ob_s]
    rfl
  rw [body_, word_, ob_s]
  by_cases w_ : tK N A (tS N A 0) = 2 ∧ tWd N A (tS N A 0) 1 = true
  · have at_ : aText N A = eb (aNum N A (jn 1) (jn 8) (nx N A (tS N A 0))) fun p => aLines N A (N + 1) p.2 (L00 (z_n p.1)) := by
      unfold aText
      rw [if_pos w_]
    obtain ⟨J2_, e2_, F2_, A2_, S2_, P2_⟩ := rp_onS (L := L00 0) (B := 0) P_ (by omega) A_ hN ⟨fun _ => jn 0, by rw [lz_00]; exact S_⟩
    have s2_ : J2_ 242 = J_ 242 := by
      obtain ⟨K_, e9_, g1_, _, _⟩ := rp_on P_ (by omega) A_ hN
      rw [e2_] at e9_
      rw [Option.some.inj e9_]
      exact g1_ 242 (by omega)
    obtain ⟨v_, J3_, e3_, f3_, f4_, w3_⟩ := rp_num (lo := jn 1) (hi := jn 8) P2_ A2_ hN
    have F3_ := mF_1 f3_ f4_
    have G3_ := mF_tr (mF_tr F_ F2_) F3_
    rw [if_pos w_, if_neg (show ¬ jn 1 = jn 0 by decide), ob_s, e2_, ob_s, e3_, ob_s, if_pos in9_, jn_n (by omega)]
    dsimp only
    have up_ : ∀ c, ¬ c = 242 → ev_u2 J3_ 242 9 v_ c = J3_ c := fun c hc => ju_na hc
    rcases w3_ with ⟨x_, ex_, fx_⟩ | ⟨r_, er_, p_⟩
    · have fe_ := aNum_E P2_.2.2.2.2.2.2.2 ex_
      rw [dead_ _ (by rw [ju_na (by omega)]; exact fM_n fe_ fx_) (by rw [ju_na (by omega)]; exact fM_0 fe_ fx_), at_, ex_]
      exact ⟨_, rfl, mF_tr G3_ (mF_2 up_), Or.inl ⟨_, rfl, by rw [ju_na (by omega)]; exact fx_.1, by rw [ju_na (by omega)]; exact fx_.2⟩⟩
    · obtain ⟨b1_, b2_, _⟩ := aNum_V er_
      obtain ⟨k_, l1_, l2_, ek_⟩ := jrg (by omega) (by omega) b1_ b2_
      have rq_ := (aNum_q er_).2
      have g_ := qG_00 (P := k_) l2_
      have S4_ : mS (L00 k_) 0 (ev_u2 J3_ 242 9 v_) := by
        refine ⟨fun _ => jn 0, ?_⟩
        rw [lz_00, ju_up, ek_, f3_ 242 (by omega), s2_]
        exact qM_00k S_
      obtain ⟨r5_, K_, e5_, d5_, F5_, x5_⟩ := rp_lines (A := A) hN (N + 1) r_ z_F 0 (L00 k_) (ev_u2 J3_ 242 9 v_) (by omega) (by unfold z_F; omega) (rP_2 p_ up_) (mA_F A2_ (mF_tr F3_ (mF_2 up_))) S4_ (by omega) g_
      rw [e5_, ob_s, d5_, at_, er_, eb_r]
      dsimp only
      rw [ek_, jn_n (by omega)]
      exact ⟨K_, rfl, mF_tr G3_ (mF_tr (mF_2 up_) F5_), x5_⟩
  · have at_ : aText N A = .inl (1, tS N A 0) := by
      unfold aText
      rw [if_neg w_]
    obtain ⟨J2_, e2_, F2_, x_, p_, n_⟩ := rp_told P_ 1 (by omega) (by omega)
    have up_ : ∀ c, ¬ c = 242 → ev_u2 J2_ 242 9 (jn 1) c = J2_ c := fun c hc => ju_na hc
    rw [if_neg w_, if_pos rfl, e2_, ob_s, ob_s, rp_goes1 p_, ob_s, rp_num1 p_, ob_s, if_pos in9_, jn_n (by omega)]
    dsimp only
    rw [dead_ _ (by rw [ju_na (by omega)]; exact p_) (by rw [ju_na (by omega)]; exact n_), at_]
    exact ⟨_, rfl, mF_tr (mF_tr F_ F2_) (mF_2 up_), Or.inl ⟨_, rfl, by rw [ju_na (by omega)]; exact x_.1, by rw [ju_na (by omega)]; exact x_.2⟩⟩
end RDM
