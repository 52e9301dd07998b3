/-! the reference's next token -/
section TKM
variable {N p q : Nat} {A : Nat → Int32} {I : z_H}
theorem rp_in (x : Int32) (a c : Nat) : d_M_in x (jn a) (jn c) = some (if ¬ x < jn a ∧ ¬ jn c < x then jn 1 else jn 0) := by
  unfold d_M_in
  by_cases h1_ : x < jn a
  · rw [if_pos h1_, ob_s, if_pos (Or.inl rfl), if_neg (fun q_ => q_.1 h1_)]
  · rw [if_neg h1_]
    by_cases h2_ : jn c < x
    · rw [if_pos h2_, ob_s, if_pos (Or.inl rfl), if_neg (fun q_ => q_.2 h2_)]
    · rw [if_neg h2_, ob_s, if_pos (Or.inr rfl), if_pos ⟨h1_, h2_⟩]
theorem rp_let (h3 : I 241 12 = jn N) (hN : N ≤ 500) (hA : ∀ k, k < N → I 247 k = A k) {k : Nat} (hk : k ≤ N) : d_M_isLetter (jn k) I = some (if k < N ∧ pL A k = true then jn 1 else jn 0) := by
  unfold d_M_isLetter
  rw [h3]
  by_cases k_ : k < N
  · rw [if_pos (by rw [jn_lt (by omega) (by omega)]; exact k_), if_pos (show z_in (jn k) 500 by rw [jn_in (by omega)]; omega), jn_n (by omega), hA k k_, rp_in, ob_s]
    by_cases c_ : ¬ A k < jn 97 ∧ ¬ jn 122 < A k
    · rw [if_pos c_, if_neg (show ¬ jn 1 = jn 0 by decide), ob_s, if_pos (Or.inr rfl), if_pos (show k < N ∧ pL A k = true from ⟨k_, by unfold pL; rw [decide_eq_true_eq]; exact c_⟩)]
    · rw [if_neg c_, if_pos rfl, ob_s, if_pos (Or.inl rfl), if_neg (show ¬ (k < N ∧ pL A k = true) from fun q_ => by
        have k2_ := q_.2
        unfold pL at k2_
        rw [decide_eq_true_eq] at k2_
        exact c_ k2_)]
  · rw [if_neg (by rw [jn_lt (by omega) (by omega)]; exact k_), ob_s, if_pos (Or.inl rfl), if_neg (show ¬ (k < N ∧ pL A k = true) from fun q_ => k_ q_.1)]
theorem rp_dig (h3 : I 241 12 = jn N) (hN : N ≤ 500) (hA : ∀ k, k < N → I 247 k = A k) {k : Nat} (hk : k ≤ N) : d_M_isDigit (jn k) I = some (if k < N ∧ pD A k = true then jn 1 else jn 0) := by
  unfold d_M_isDigit
  rw [h3]
  by_cases k_ : k < N
  · rw [if_pos (by rw [jn_lt (by omega) (by omega)]; exact k_), if_pos (show z_in (jn k) 500 by rw [jn_in (by omega)]; omega), jn_n (by omega), hA k k_, rp_in, ob_s]
    by_cases c_ : ¬ A k < jn 48 ∧ ¬ jn 57 < A k
    · rw [if_pos c_, if_neg (show ¬ jn 1 = jn 0 by decide), ob_s, if_pos (Or.inr rfl), if_pos (show k < N ∧ pD A k = true from ⟨k_, by unfold pD; rw [decide_eq_true_eq]; exact c_⟩)]
    · rw [if_neg c_, if_pos rfl, ob_s, if_pos (Or.inl rfl), if_neg (show ¬ (k < N ∧ pD A k = true) from fun q_ => by
        have k2_ := q_.2
        unfold pD at k2_
        rw [decide_eq_true_eq] at k2_
        exact c_ k2_)]
  · rw [if_neg (by rw [jn_lt (by omega) (by omega)]; exact k_), ob_s, if_pos (Or.inl rfl), if_neg (show ¬ (k < N ∧ pD A k = true) from fun q_ => k_ q_.1)]
theorem rp_skip (h3 : I 241 12 = jn N) (h4 : I 241 13 = jn p) (hp : p ≤ N) (hN : N ≤ 500) (hA : ∀ k, k < N → I 247 k = A k) : ∃ J, z_it d_M_goes_2 z_F I = some J ∧ (∀ b, ¬ b = 241 → J b = I b) ∧ (∀ k, ¬ k = 13 → J 241 k = I 241 k) ∧ J 241 13 = jn (tS N A p) := by
  have le_ := jrun_le (P := pB A) hp
  refine z_inv (fun (i : Nat) (s : z_H) => (∀ b, ¬ b = 241 → s b = I b) ∧ (∀ k, ¬ k = 13 → s 241 k = I 241 k) ∧ s 241 13 = jn (p + i)) (fun (r : z_H) => (∀ b, ¬ b = 241 → r b = I b) ∧ (∀ k, ¬ k = 13 → r 241 k = I 241 k) ∧ r 241 13 = jn (tS N A p)) (n := tS N A p - p) (by unfold tS; omega) ⟨fun _ _ => rfl, fun _ _ => rfl, h4⟩ (fun i s hi hs => ?_) (fun s hs => ?_)
  · unfold tS at hi
    obtain ⟨e1_, e2_, e3_⟩ := hs
    have b_ := jrun_in (P := pB A) (N := N) (p := p) (j := p + i) (by omega) (by omega)
    unfold pB at b_
    rw [decide_eq_true_eq] at b_
    unfold d_M_goes_2
    rw [e3_, e2_ 12 (by omega), h3, if_pos (by rw [jn_lt (by omega) (by omega)]; omega), if_pos (by rw [jn_in (by omega)]; omega), jn_n (by omega), if_pos (show s 247 (p + i) = jn 32 by rw [e1_ 247 (by omega), hA _ (by omega)]; exact b_)]
    refine ⟨_, rfl, fun b hb => by rw [ju_na hb]; exact e1_ b hb, fun k hk => by rw [ju_ne (fun q_ => hk q_.2)]; exact e2_ k hk, by rw [ju_at, jn_add]; rfl⟩
  · obtain ⟨e1_, e2_, e3_⟩ := hs
    have q_ : p + (tS N A p - p) = tS N A p := by unfold tS; omega
    rw [q_] at e3_
    unfold d_M_goes_2
    rw [e3_, e2_ 12 (by omega), h3]
    refine ⟨s, ?_, e1_, e2_, e3_⟩
    unfold tS
    by_cases l_ : jrun (pB A) N p < N
    · have b_ := jrun_at hp l_
      rw [if_pos (by rw [jn_lt (by omega) (by omega)]; exact l_), if_pos (by rw [jn_in (by omega)]; omega), jn_n (by omega), if_neg (show ¬ s 247 (jrun (pB A) N p) = jn 32 by
        rw [e1_ 247 (by omega), hA _ l_]
        intro k_
        unfold pB at b_
        rw [decide_eq_false_iff_not] at b_
        exact b_ k_)]
    · rw [if_neg (by rw [jn_lt (by omega) (by omega)]; exact l_)]
theorem rp_lets (h3 : I 241 12 = jn N) (h4 : I 241 13 = jn q) (hq : q ≤ N) (hN : N ≤ 500) (hA : ∀ k, k < N → I 247 k = A k) : ∃ J, z_it d_M_goes_34 z_F I = some J ∧ (∀ b, ¬ b = 241 → J b = I b) ∧ (∀ k, ¬ k = 13 → J 241 k = I 241 k) ∧ J 241 13 = jn (jrun (pL A) N q) := by
  have le_ := jrun_le (P := pL A) hq
  refine z_inv (fun (i : Nat) (s : z_H) => (∀ b, ¬ b = 241 → s b = I b) ∧ (∀ k, ¬ k = 13 → s 241 k = I 241 k) ∧ s 241 13 = jn (q + i)) (fun (r : z_H) => (∀ b, ¬ b = 241 → r b = I b) ∧ (∀ k, ¬ k = 13 → r 241 k = I 241 k) ∧ r 241 13 = jn (jrun (pL A) N q)) (n := jrun (pL A) N q - q) (by omega) ⟨fun _ _ => rfl, fun _ _ => rfl, h4⟩ (fun i s hi hs => ?_) (fun s hs => ?_)
  · obtain ⟨e1_, e2_, e3_⟩ := hs
    have b_ := jrun_in (P := pL A) (N := N) (p := q) (j := q + i) (by omega) (by omega)
    have s3_ : s 241 12 = jn N := (e2_ 12 (by omega)).trans h3
    unfold d_M_goes_34
    rw [e3_, rp_let (A := A) s3_ hN (fun k hk => by rw [e1_ 247 (by omega)]; exact hA k hk) (by omega), ob_s, if_pos (show q + i < N ∧ pL A (q + i) = true from ⟨by omega, b_⟩), if_neg (show ¬ jn 1 = jn 0 by decide)]
    refine ⟨_, rfl, fun b hb => by rw [ju_na hb]; exact e1_ b hb, fun k hk => by rw [ju_ne (fun q_ => hk q_.2)]; exact e2_ k hk, by rw [ju_at, jn_add]; rfl⟩
  · obtain ⟨e1_, e2_, e3_⟩ := hs
    have q_ : q + (jrun (pL A) N q - q) = jrun (pL A) N q := by omega
    rw [q_] at e3_
    have s3_ : s 241 12 = jn N := (e2_ 12 (by omega)).trans h3
    unfold d_M_goes_34
    rw [e3_, rp_let (A := A) s3_ hN (fun k hk => by rw [e1_ 247 (by omega)]; exact hA k hk) (by omega), ob_s, if_neg (show ¬ (jrun (pL A) N q < N ∧ pL A (jrun (pL A) N q) = true) from fun k_ => by
      have b_ := jrun_at hq k_.1
      rw [b_] at k_
      exact Bool.noConfusion k_.2), if_pos rfl]
    exact ⟨s, rfl, e1_, e2_, e3_⟩
theorem rp_digs (h3 : I 241 12 = jn N) (h4 : I 241 13 = jn q) (h6 : I 241 14 = jn q) (h7 : I 241 16 = jn 0) (hq : q ≤ N) (hN : N ≤ 500) (hA : ∀ k, k < N → I 247 k = A k) : ∃ J, z_it d_M_goes_20 z_F I = some J ∧ (∀ b, ¬ b = 241 → J b = I b) ∧ (∀ k, ¬ k = 13 → ¬ k = 16 → J 241 k = I 241 k) ∧ J 241 13 = jn (jrun (pD A) N q) ∧ J 241 16 = tW A q (if jrun (pD A) N q - q < 2 then jrun (pD A) N q - q else 2) := by
  have le_ := jrun_le (P := pD A) hq
  refine z_inv (fun (i : Nat) (s : z_H) => (∀ b, ¬ b = 241 → s b = I b) ∧ (∀ k, ¬ k = 13 → ¬ k = 16 → s 241 k = I 241 k) ∧ s 241 13 = jn (q + i) ∧ s 241 16 = tW A q (if i < 2 then i else 2)) (fun (r : z_H) => (∀ b, ¬ b = 241 → r b = I b) ∧ (∀ k, ¬ k = 13 → ¬ k = 16 → r 241 k = I 241 k) ∧ r 241 13 = jn (jrun (pD A) N q) ∧ r 241 16 = tW A q (if jrun (pD A) N q - q < 2 then jrun (pD A) N q - q else 2)) (n := jrun (pD A) N q - q) (by omega) ⟨fun _ _ => rfl, fun _ _ _ => rfl, h4, h7⟩ (fun i s hi hs => ?_) (fun s hs => ?_)
  · obtain ⟨e1_, e2_, e3_, e4_⟩ := hs
    have b_ := jrun_in (P := pD A) (N := N) (p := q) (j := q + i) (by omega) (by omega)
    have s3_ : s 241 12 = jn N := (e2_ 12 (by omega) (by omega)).trans h3
    have s6_ : s 241 14 = jn q := (e2_ 14 (by omega) (by omega)).trans h6
    unfold d_M_goes_20
    rw [e3_, rp_dig (A := A) s3_ hN (fun k hk => by rw [e1_ 247 (by omega)]; exact hA k hk) (by omega), ob_s, if_pos (show q + i < N ∧ pD A (q + i) = true from ⟨by omega, b_⟩), if_neg (show ¬ jn 1 = jn 0 by decide), s6_, jn_sub (by omega), if_pos (show z_in (jn (q + i)) 500 by rw [jn_in (by omega)]; omega)]
    by_cases i2_ : i < 2
    · rw [if_pos (show jn (q + i - q) < jn 2 by rw [jn_lt (by omega) (by omega)]; omega), ob_s]
      rw [if_pos i2_] at e4_
      refine ⟨_, rfl, fun b hb => by rw [ju_na hb, ju_na hb]; exact e1_ b hb, fun k hk hk2 => by rw [ju_ne (fun q_ => hk q_.2), ju_ne (fun q_ => hk2 q_.2)]; exact e2_ k hk hk2, ?_, ?_⟩
      · rw [ju_at, ju_ne (by omega), e3_, jn_add]; rfl
      · rw [ju_ne (by omega), ju_at, e4_, jn_n (by omega), e1_ 247 (by omega), hA _ (by omega), Int32.mul_comm]
        have e5_ : (if i + 1 < 2 then i + 1 else 2) = i + 1 := by
          by_cases w_ : i + 1 < 2
          · rw [if_pos w_]
          · rw [if_neg w_]; omega
        rw [e5_]
        rfl
    · rw [if_neg (show ¬ jn (q + i - q) < jn 2 by rw [jn_lt (by omega) (by omega)]; omega), ob_s]
      rw [if_neg i2_] at e4_
      refine ⟨_, rfl, fun b hb => by rw [ju_na hb]; exact e1_ b hb, fun k hk hk2 => by rw [ju_ne (fun q_ => hk q_.2)]; exact e2_ k hk hk2, ?_, ?_⟩
      · rw [ju_at, e3_, jn_add]; rfl
      · rw [ju_ne (by omega), e4_, if_neg (by omega)]
  · obtain ⟨e1_, e2_, e3_, e4_⟩ := hs
    have q_ : q + (jrun (pD A) N q - q) = jrun (pD A) N q := by omega
    rw [q_] at e3_
    have s3_ : s 241 12 = jn N := (e2_ 12 (by omega) (by omega)).trans h3
    unfold d_M_goes_20
    rw [e3_, rp_dig (A := A) s3_ hN (fun k hk => by rw [e1_ 247 (by omega)]; exact hA k hk) (by omega), ob_s, if_neg (show ¬ (jrun (pD A) N q < N ∧ pD A (jrun (pD A) N q) = true) from fun k_ => by
      have b_ := jrun_at hq k_.1
      rw [b_] at k_
      exact Bool.noConfusion k_.2), if_pos rfl]
    exact ⟨s, rfl, e1_, e2_, e3_, e4_⟩
theorem rp_goes1 (h : jn 0 < I 241 10) : d_M_goes I = some I := by
  unfold d_M_goes
  rw [if_pos h]
/-- the state with the token at q ahead -/
def rP (N : Nat) (A : Nat → Int32) (q : Nat) (I : z_H) : Prop := I 241 10 = jn 0 ∧ I 241 11 = jg 1 ∧ I 241 12 = jn N ∧ I 241 14 = jn q ∧ I 241 15 = jn (tK N A q) ∧ (¬ tK N A q = 0 → I 241 13 = jn (tE N A q)) ∧ (tK N A q = 3 → I 241 16 = tV N A q) ∧ q ≤ N
theorem rp_goes (h0 : I 241 10 = jn 0) (h1 : I 241 11 = jg 1) (h3 : I 241 12 = jn N) (h4 : I 241 13 = jn p) (hp : p ≤ N) (hN : N ≤ 500) (hA : ∀ k, k < N → I 247 k = A k) : ∃ J, d_M_goes I = some J ∧ (∀ b, ¬ b = 241 → J b = I b) ∧ (∀ k, k < 10 ∨ 17 ≤ k → J 241 k = I 241 k) ∧ rP N A (tS N A p) J := by
  have qle_ : tS N A p ≤ N := (jrun_le (P := pB A) hp).2
  obtain ⟨K_, e_, f1_, f2_, f3_⟩ := rp_skip h3 h4 hp hN hA
  generalize tS N A p = q_ at qle_ f3_ ⊢
  have tle_ := tE_le (A := A) qle_
  unfold d_M_goes
  rw [h0, if_neg (show ¬ jn 0 < jn 0 by decide), e_, ob_s]
  have k1_ : ∃ K1, K1 = ev_u2 K_ 241 14 (K_ 241 13) := ⟨_, rfl⟩
  obtain ⟨K1_, eK_⟩ := k1_
  rw [← eK_]
  have g1_ : ∀ b, ¬ b = 241 → K1_ b = I b := fun b hb => by rw [eK_, ju_na hb, f1_ b hb]
  have cs_ : ∀ k, ¬ k = 13 → ¬ k = 14 → K1_ 241 k = I 241 k := fun k hk hk2 => by rw [eK_, ju_ne (fun q2_ => hk2 q2_.2), f2_ k hk]
  have c3_ : K1_ 241 12 = jn N := (cs_ 12 (by omega) (by omega)).trans h3
  have c4_ : K1_ 241 13 = jn q_ := by rw [eK_, ju_ne (by omega)]; exact f3_
  have c6_ : K1_ 241 14 = jn q_ := by rw [eK_, ju_at]; exact f3_
  have cA_ : ∀ k, k < N → K1_ 247 k = A k := fun k hk => by rw [g1_ 247 (by omega)]; exact hA k hk
  clear eK_
  rw [c3_, c4_]
  by_cases l_ : q_ < N
  · rw [if_neg (show ¬ jn q_ = jn N by rw [jn_eq (by omega) (by omega)]; omega), ob_s, ju_at, if_neg (show ¬ jn 0 = jn 1 by decide), ju_ne (i := 15) (j := 13) (by omega), c4_]
    have k2_ : ∃ K2, K2 = ev_u2 K1_ 241 15 (jn 0) := ⟨_, rfl⟩
    obtain ⟨K2_, eK2_⟩ := k2_
    rw [← eK2_]
    have g2_ : ∀ b, ¬ b = 241 → K2_ b = I b := fun b hb => by rw [eK2_, ju_na hb, g1_ b hb]
    have d_ : ∀ k, ¬ k = 15 → K2_ 241 k = K1_ 241 k := fun k hk => by rw [eK2_, ju_ne (fun q2_ => hk q2_.2)]
    have d3_ : K2_ 241 12 = jn N := (d_ 12 (by omega)).trans c3_
    have d4_ : K2_ 241 13 = jn q_ := (d_ 13 (by omega)).trans c4_
    have d6_ : K2_ 241 14 = jn q_ := (d_ 14 (by omega)).trans c6_
    have dA_ : ∀ k, k < N → K2_ 247 k = A k := fun k hk => by rw [g2_ 247 (by omega)]; exact hA k hk
    have ds_ : ∀ k, ¬ k = 13 → ¬ k = 14 → ¬ k = 15 → K2_ 241 k = I 241 k := fun k h1 h2 h3 => (d_ k h3).trans (cs_ k h1 h2)
    clear eK2_
    rw [rp_let (A := A) d3_ hN dA_ (by omega), ob_s]
    by_cases pl_ : pL A q_ = true
    · have te_ : tE N A q_ = jrun (pL A) N q_ := by unfold tE; rw [if_pos l_, if_pos pl_]
      have tk_ : tK N A q_ = if 6 < tE N A q_ - q_ then 0 else 2 := by unfold tK; rw [if_pos l_, if_pos pl_]
      obtain ⟨J_, j1_, j2_, j3_, j4_⟩ := rp_lets (A := A) d3_ d4_ qle_ hN dA_
      rw [if_pos (show q_ < N ∧ pL A q_ = true from ⟨l_, pl_⟩), if_neg (show ¬ jn 1 = jn 0 by decide), j1_, ob_s, j4_, j3_ 14 (by omega), d6_, ← te_, jn_sub tle_.1]
      have fin_ : ∀ c : Nat, c = tK N A q_ → ∃ J, some (ev_u2 J_ 241 15 (jn c)) = some J ∧ (∀ b, ¬ b = 241 → J b = I b) ∧ (∀ k, k < 10 ∨ 17 ≤ k → J 241 k = I 241 k) ∧ rP N A q_ J := fun c hc => by
        have u_ : ∀ k, ¬ k = 15 → ¬ k = 13 → ¬ k = 14 → ev_u2 J_ 241 15 (jn c) 241 k = I 241 k := fun k h1 h2 h3 => by rw [ju_ne (fun q2_ => h1 q2_.2), j3_ k h2, ds_ k h2 h3 h1]
        refine ⟨_, rfl, fun b hb => by rw [ju_na hb, j2_ b hb, g2_ b hb], fun k hk => u_ k (by omega) (by omega) (by omega), (u_ 10 (by omega) (by omega) (by omega)).trans h0, (u_ 11 (by omega) (by omega) (by omega)).trans h1, (u_ 12 (by omega) (by omega) (by omega)).trans h3, by rw [ju_ne (by omega), j3_ 14 (by omega)]; exact d6_, by rw [ju_at, hc], fun _ => by rw [ju_ne (by omega), te_]; exact j4_, fun k_ => ?_, qle_⟩
        rw [tk_] at k_
        by_cases m_ : 6 < tE N A q_ - q_
        · rw [if_pos m_] at k_; omega
        · rw [if_neg m_] at k_; omega
      by_cases m_ : 6 < tE N A q_ - q_
      · rw [if_pos m_] at tk_
        rw [if_pos (show jn 6 < jn (tE N A q_ - q_) by rw [jn_lt (by omega) (by omega)]; exact m_), ob_s]
        exact fin_ 0 tk_.symm
      · rw [if_neg m_] at tk_
        rw [if_neg (show ¬ jn 6 < jn (tE N A q_ - q_) by rw [jn_lt (by omega) (by omega)]; exact m_), ob_s]
        exact fin_ 2 tk_.symm
    · rw [if_neg (show ¬ (q_ < N ∧ pL A q_ = true) from fun k_ => pl_ k_.2), if_pos rfl, rp_dig (A := A) d3_ hN dA_ (by omega), ob_s]
      by_cases pd_ : pD A q_ = true
      · have te_ : tE N A q_ = jrun (pD A) N q_ := by unfold tE; rw [if_pos l_, if_neg pl_, if_pos pd_]
        have tk_ : tK N A q_ = if 2 < tE N A q_ - q_ then 0 else 3 := by unfold tK; rw [if_pos l_, if_neg pl_, if_pos pd_]
        have v_ : ∀ k, ¬ k = 16 → ev_u2 K2_ 241 16 (jn 0) 241 k = K2_ 241 k := fun k hk => ju_ne (fun q2_ => hk q2_.2)
        obtain ⟨J_, j1_, j2_, j3_, j4_, j5_⟩ := rp_digs (I := ev_u2 K2_ 241 16 (jn 0)) (A := A) ((v_ 12 (by omega)).trans d3_) ((v_ 13 (by omega)).trans d4_) ((v_ 14 (by omega)).trans d6_) (ju_at ..) qle_ hN (fun k hk => by rw [ju_na (by omega)]; exact dA_ k hk)
        rw [if_pos (show q_ < N ∧ pD A q_ = true from ⟨l_, pd_⟩), if_neg (show ¬ jn 1 = jn 0 by decide), j1_, ob_s, j4_, j3_ 14 (by omega) (by omega), v_ 14 (by omega), d6_, ← te_, jn_sub tle_.1]
        have fin_ : ∀ c : Nat, c = tK N A q_ → ∃ J, some (ev_u2 J_ 241 15 (jn c)) = some J ∧ (∀ b, ¬ b = 241 → J b = I b) ∧ (∀ k, k < 10 ∨ 17 ≤ k → J 241 k = I 241 k) ∧ rP N A q_ J := fun c hc => by
          have u_ : ∀ k, ¬ k = 15 → ¬ k = 13 → ¬ k = 14 → ¬ k = 16 → ev_u2 J_ 241 15 (jn c) 241 k = I 241 k := fun k h1 h2 h3 h4 => by rw [ju_ne (fun q2_ => h1 q2_.2), j3_ k h2 h4, v_ k h4, ds_ k h2 h3 h1]
          refine ⟨_, rfl, fun b hb => by rw [ju_na hb, j2_ b hb, ju_na hb, g2_ b hb], fun k hk => u_ k (by omega) (by omega) (by omega) (by omega), (u_ 10 (by omega) (by omega) (by omega) (by omega)).trans h0, (u_ 11 (by omega) (by omega) (by omega) (by omega)).trans h1, (u_ 12 (by omega) (by omega) (by omega) (by omega)).trans h3, by rw [ju_ne (by omega), j3_ 14 (by omega) (by omega), v_ 14 (by omega)]; exact d6_, by rw [ju_at, hc], fun _ => by rw [ju_ne (by omega), te_]; exact j4_, fun k_ => ?_, qle_⟩
          rw [ju_ne (by omega), j5_, ← te_]
          rw [tk_] at k_
          unfold tV
          by_cases m_ : 2 < tE N A q_ - q_
          · rw [if_pos m_] at k_; omega
          · by_cases m2_ : tE N A q_ - q_ < 2
            · rw [if_pos m2_]
            · rw [if_neg m2_, show tE N A q_ - q_ = 2 from by omega]
        by_cases m_ : 2 < tE N A q_ - q_
        · rw [if_pos m_] at tk_
          rw [if_pos (show jn 2 < jn (tE N A q_ - q_) by rw [jn_lt (by omega) (by omega)]; exact m_), ob_s]
          exact fin_ 0 tk_.symm
        · rw [if_neg m_] at tk_
          rw [if_neg (show ¬ jn 2 < jn (tE N A q_ - q_) by rw [jn_lt (by omega) (by omega)]; exact m_), ob_s]
          exact fin_ 3 tk_.symm
      · have te_ : tE N A q_ = q_ + 1 := by unfold tE; rw [if_pos l_, if_neg pl_, if_neg pd_]
        have tk_ : tK N A q_ = if A q_ = jn 59 then 4 else 0 := by unfold tK; rw [if_pos l_, if_neg pl_, if_neg pd_]
        rw [if_neg (show ¬ (q_ < N ∧ pD A q_ = true) from fun k_ => pd_ k_.2), if_pos rfl, if_pos (show z_in (jn q_) 500 by rw [jn_in (by omega)]; omega), jn_n (by omega), dA_ q_ l_]
        have fin_ : ∀ c : Nat, c = tK N A q_ → ∃ J, (Option.bind (α := z_H) (some (ev_u2 (ev_u2 K2_ 241 15 (jn c)) 241 13 (((ev_u2 K2_ 241 15 (jn c)) 241 13) + (jn 1)))) fun J17 => some (J17)) = some J ∧ (∀ b, ¬ b = 241 → J b = I b) ∧ (∀ k, k < 10 ∨ 17 ≤ k → J 241 k = I 241 k) ∧ rP N A q_ J := fun c hc => by
          have u_ : ∀ k, ¬ k = 15 → ¬ k = 13 → ¬ k = 14 → ev_u2 (ev_u2 K2_ 241 15 (jn c)) 241 13 (jn (q_ + 1)) 241 k = I 241 k := fun k h1 h2 h3 => by rw [ju_ne (fun q2_ => h2 q2_.2), ju_ne (fun q2_ => h1 q2_.2), ds_ k h2 h3 h1]
          rw [ob_s, ju_ne (i := 15) (j := 13) (by omega), d4_, jn_add]
          refine ⟨_, rfl, fun b hb => by rw [ju_na hb, ju_na hb, g2_ b hb], fun k hk => u_ k (by omega) (by omega) (by omega), (u_ 10 (by omega) (by omega) (by omega)).trans h0, (u_ 11 (by omega) (by omega) (by omega)).trans h1, (u_ 12 (by omega) (by omega) (by omega)).trans h3, by rw [ju_ne (by omega), ju_ne (by omega)]; exact d6_, by rw [ju_ne (by omega), ju_at, hc], fun _ => by rw [ju_at, te_], fun k_ => ?_, qle_⟩
          rw [tk_] at k_
          by_cases s_ : A q_ = jn 59
          · rw [if_pos s_] at k_; omega
          · rw [if_neg s_] at k_; omega
        by_cases s_ : A q_ = jn 59
        · rw [if_pos s_] at tk_
          rw [if_pos s_, ob_s]
          exact fin_ 4 tk_.symm
        · rw [if_neg s_] at tk_
          rw [if_neg s_, ob_s]
          exact fin_ 0 tk_.symm
  · have te_ : tE N A q_ = q_ := by unfold tE; rw [if_neg l_]
    have tk_ : tK N A q_ = 1 := by unfold tK; rw [if_neg l_]
    have qN_ : q_ = N := by omega
    rw [if_pos (show jn q_ = jn N by rw [qN_]), ob_s, ju_at, if_pos rfl]
    have u_ : ∀ k, ¬ k = 15 → ¬ k = 13 → ¬ k = 14 → ev_u2 K1_ 241 15 (jn 1) 241 k = I 241 k := fun k h1 h2 h3 => by rw [ju_ne (fun q2_ => h1 q2_.2), cs_ k h2 h3]
    exact ⟨_, rfl, fun b hb => by rw [ju_na hb, g1_ b hb], fun k hk => u_ k (by omega) (by omega) (by omega), (u_ 10 (by omega) (by omega) (by omega)).trans h0, (u_ 11 (by omega) (by omega) (by omega)).trans h1, (u_ 12 (by omega) (by omega) (by omega)).trans h3, by rw [ju_ne (by omega)]; exact c6_, by rw [ju_at, tk_], fun _ => by rw [ju_ne (by omega), te_]; exact c4_, fun k_ => by omega, qle_⟩
end TKM
