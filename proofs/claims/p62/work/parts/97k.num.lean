/-! numbers and words of a text: what they come to, on both sides -/
abbrev PE : Type := Nat × Nat
def aNum (N : Nat) (A : Nat → Int32) (lo hi : Int32) (q : Nat) : PE ⊕ (Int32 × Nat) := if tK N A q = 3 then (if tV N A q < lo then .inl (2, q) else if hi < tV N A q then .inl (2, q) else .inr (tV N A q, nx N A q)) else .inl (1, q)
def tWd (N : Nat) (A : Nat → Int32) (q k : Nat) : Bool := decide (tE N A q - q = zs_ln k ∧ ∀ i, i < zs_ln k → A (q + i) = zs_ch k (jn i))
def cA (N : Nat) (A : Nat → Int32) (I : z_H) : Prop := ∀ k, k < N → I 1 k = A k
def mA (N : Nat) (A : Nat → Int32) (I : z_H) : Prop := ∀ k, k < N → I 247 k = A k
def cP (N : Nat) (A : Nat → Int32) (q : Nat) (I : z_H) : Prop := I 54 0 = jn 0 ∧ I 54 1 = jg 1 ∧ I 54 3 = jn N ∧ ∃ p, p ≤ N ∧ I 54 4 = jn p ∧ tS N A p = q
def fE (N : Nat) (e : PE) : Prop := ¬ e.1 = 0 ∧ e.1 < 5 ∧ e.2 ≤ N
def fP (e : PE) (J : z_H) : Prop := J 54 0 = jn e.1 ∧ J 54 1 = jn e.2
def fM (e : PE) (J : z_H) : Prop := J 241 10 = jn e.1 ∧ J 241 11 = jn e.2
theorem fP_n {N : Nat} {e : PE} {J : z_H} (h : fE N e) (f : fP e J) : ¬ J 54 0 = jn 0 := by
  rw [f.1, jn_eq (by have k_ := h.2.1; omega) (by omega)]
  exact h.1
theorem fM_n {N : Nat} {e : PE} {J : z_H} (h : fE N e) (f : fM e J) : jn 0 < J 241 10 := by
  rw [f.1, jn_lt (by omega) (by have k_ := h.2.1; omega)]
  have k_ := h.1
  omega
theorem fM_0 {N : Nat} {e : PE} {J : z_H} (h : fE N e) (f : fM e J) : ¬ J 241 10 = jn 0 := by
  rw [f.1, jn_eq (by have k_ := h.2.1; omega) (by omega)]
  exact h.1
theorem aNum_E {N q : Nat} {A : Nat → Int32} {lo hi : Int32} {e : PE} (hq : q ≤ N) (h : aNum N A lo hi q = .inl e) : fE N e := by
  have k_ : ∀ c, c = 1 ∨ c = 2 → (Sum.inl (c, q) : PE ⊕ (Int32 × Nat)) = .inl e → fE N e := fun c hc h9_ => by
    rw [← Sum.inl.inj h9_]
    refine ⟨?_, ?_, hq⟩
    · show ¬ c = 0
      omega
    · show c < 5
      omega
  unfold aNum at h
  by_cases h1_ : tK N A q = 3
  · rw [if_pos h1_] at h
    by_cases h2_ : tV N A q < lo
    · rw [if_pos h2_] at h
      exact k_ 2 (by omega) h
    · rw [if_neg h2_] at h
      by_cases h3_ : hi < tV N A q
      · rw [if_pos h3_] at h
        exact k_ 2 (by omega) h
      · rw [if_neg h3_] at h
        cases h
  · rw [if_neg h1_] at h
    exact k_ 1 (by omega) h
/-- a number that is read -/
theorem aNum_V {N q r : Nat} {A : Nat → Int32} {lo hi v : Int32} (h : aNum N A lo hi q = .inr (v, r)) : ¬ v < lo ∧ ¬ hi < v ∧ r = nx N A q ∧ tK N A q = 3 ∧ v = tV N A q := by
  unfold aNum at h
  by_cases h1_ : tK N A q = 3
  · rw [if_pos h1_] at h
    by_cases h2_ : tV N A q < lo
    · rw [if_pos h2_] at h
      cases h
    · rw [if_neg h2_] at h
      by_cases h3_ : hi < tV N A q
      · rw [if_pos h3_] at h
        cases h
      · rw [if_neg h3_] at h
        have e_ := Sum.inr.inj h
        have e1_ : tV N A q = v := congrArg Prod.fst e_
        have e2_ : nx N A q = r := congrArg Prod.snd e_
        exact ⟨by rw [← e1_]; exact h2_, by rw [← e1_]; exact h3_, e2_.symm, h1_, e1_.symm⟩
  · rw [if_neg h1_] at h
    cases h
theorem aNum_q {N q r : Nat} {A : Nat → Int32} {lo hi v : Int32} (h : aNum N A lo hi q = .inr (v, r)) : q < r ∧ r ≤ N := by
  obtain ⟨_, _, e_, k_, _⟩ := aNum_V h
  have l_ : q < N := tK_lt (A := A) (by omega)
  rw [e_]
  exact ⟨nx_gt l_, (nx_le (Nat.le_of_lt l_)).2⟩
/-- what lies between bounds -/
theorem jrg {lo c : Nat} {v : Int32} (hl : lo < 1000) (hc : c < 1000) (h1 : ¬ v < jn lo) (h2 : ¬ jn c < v) : ∃ k, lo ≤ k ∧ k ≤ c ∧ v = jn k := by
  rw [Int32.lt_iff_toInt_lt, jn_toInt (by omega)] at h1 h2
  refine ⟨v.toInt.toNat, by omega, by omega, Int32.toInt_inj.mp ?_⟩
  rw [jn_toInt (by omega)]
  omega
theorem jrg1 {c : Nat} {v : Int32} (hc : c < 1000) (h1 : ¬ v < jn 0) (h2 : ¬ jn c - jn 1 < v) : ∃ k, k < c ∧ v = jn k := by
  rcases Nat.lt_or_ge 0 c with k_ | k_
  · rw [jn_sub (by omega)] at h2
    obtain ⟨k2_, _, k3_, e_⟩ := jrg (by omega) (by omega) h1 h2
    exact ⟨k2_, by omega, e_⟩
  · have e_ : c = 0 := by omega
    rw [e_] at h2
    rw [Int32.lt_iff_toInt_lt, jn_toInt (by omega)] at h1
    have m_ : (jn 0 - jn 1).toInt = -1 := by decide
    rw [Int32.lt_iff_toInt_lt, m_] at h2
    omega
theorem zs_sm : ∀ k : Fin 34, zs_ln k.val ≤ 1000 := by decide +kernel
theorem zs_eq : ∀ k : Fin 11, 1 ≤ k.val → ev_sby.getD k.val [] = ev_sby.getD (k.val + 23) [] := by decide +kernel
theorem tWd_eq {N q : Nat} {A : Nat → Int32} {k : Nat} (h1 : 1 ≤ k) (h2 : k < 11) : tWd N A q (k + 23) = tWd N A q k := by
  have e_ := zs_eq ⟨k, h2⟩ h1
  have l_ : zs_ln (k + 23) = zs_ln k := by
    unfold zs_ln
    rw [← e_]
  have c_ : ∀ i, zs_ch (k + 23) i = zs_ch k i := fun i => by
    unfold zs_ch
    rw [← e_]
  unfold tWd
  rw [l_]
  simp only [c_]
section NUM
variable {N q a : Nat} {A : Nat → Int32} {I : z_H} {lo hi : Int32}
theorem sp_num1 (h : ¬ I 54 0 = jn 0) : d_P_number a lo hi I = some (jg 1, I) := by
  unfold d_P_number
  rw [sp_next1 h, ob_s, sp_failed1 h, ob_s, if_neg (show ¬ jn 1 = jn 0 by decide), ob_s, sp_failed1 h, ob_s, if_neg (show ¬ jn 1 = jn 0 by decide), ob_s, sp_failed1 h, ob_s, if_neg (show ¬ jn 1 = jn 0 by decide), ob_s]
def cQ (N : Nat) (J : z_H) : Prop := J 54 3 = jn N ∧ ∃ p, p ≤ N ∧ J 54 4 = jn p
theorem sp_num (h : cP N A q I) (hA : cA N A I) (hN : N ≤ 500) : ∃ v J, d_P_number a lo hi I = some (v, J) ∧ (∀ b, ¬ b = 54 → J b = I b) ∧ cQ N J ∧ ((∃ e, aNum N A lo hi q = .inl e ∧ fP e J) ∨ (∃ r, aNum N A lo hi q = .inr (v, r) ∧ cP N A r J ∧ J 54 6 = jn q)) := by
  obtain ⟨h0_, h1_, h3_, p_, hp_, h4_, hq_⟩ := h
  obtain ⟨J_, e_, f_, c3_, c6_, ⟨y_, _, hy_, ey_⟩, ca_, cb_⟩ := sp_next (a := a) h0_ h3_ h4_ hp_ hN hA
  rw [hq_] at c6_ ca_ cb_
  have qle_ : q ≤ N := by rw [← hq_]; exact (jrun_le (P := pB A) hp_).2
  unfold d_P_number
  rw [e_, ob_s]
  by_cases k0_ : tK N A q = 0
  · obtain ⟨d0_, d1_⟩ := ca_ k0_
    have n0_ : ¬ J_ 54 0 = jn 0 := by rw [d0_]; decide
    rw [sp_failed1 n0_, ob_s, if_neg (show ¬ jn 1 = jn 0 by decide), ob_s, sp_failed1 n0_, ob_s, if_neg (show ¬ jn 1 = jn 0 by decide), ob_s, sp_failed1 n0_, ob_s, if_neg (show ¬ jn 1 = jn 0 by decide), ob_s]
    refine ⟨_, _, rfl, f_, ⟨c3_, y_, hy_, ey_⟩, Or.inl ⟨(1, q), ?_, d0_, d1_⟩⟩
    unfold aNum
    rw [if_neg (by omega)]
  · obtain ⟨d0_, d1_, d4_, d5_, d7_⟩ := cb_ k0_
    rw [sp_failed0 d0_, ob_s, if_pos rfl]
    by_cases k3_ : tK N A q = 3
    · have d7b_ := d7_ k3_
      rw [if_pos (show J_ 54 5 = jn 2 by rw [d5_, k3_]), ob_s, sp_failed0 d0_, ob_s, if_pos rfl, d7b_]
      have end_ : ∀ {x : Int32}, x = jn 2 → ∃ v J, ((d_P_failed (ev_u2 (ev_u2 J_ 54 0 x) 54 1 (J_ 54 6))).bind fun q13 => (Option.bind (α := Int32) (if q13 = jn 0 then some (((ev_u2 (ev_u2 J_ 54 0 x) 54 1 (J_ 54 6)) 54 7)) else some ((jg 1))) fun q15 => some ((q15, (ev_u2 (ev_u2 J_ 54 0 x) 54 1 (J_ 54 6)))))) = some (v, J) ∧ (∀ b, ¬ b = 54 → J b = I b) ∧ cQ N J ∧ J 54 0 = jn 2 ∧ J 54 1 = jn q := fun {x} hx => by
        have n0_ : ¬ (ev_u2 (ev_u2 J_ 54 0 x) 54 1 (J_ 54 6)) 54 0 = jn 0 := by rw [ju_ne (by omega), ju_at, hx]; decide
        rw [sp_failed1 n0_, ob_s, if_neg (show ¬ jn 1 = jn 0 by decide), ob_s]
        exact ⟨_, _, rfl, fun b hb => by rw [ju_na hb, ju_na hb]; exact f_ b hb, ⟨by rw [ju_ne (by omega), ju_ne (by omega)]; exact c3_, y_, hy_, by rw [ju_ne (by omega), ju_ne (by omega)]; exact ey_⟩, by rw [ju_ne (by omega), ju_at, hx], by rw [ju_at]; exact c6_⟩
      by_cases lo_ : tV N A q < lo
      · rw [if_pos lo_, sp_fail0 d0_, ob_s, ob_s]
        obtain ⟨v_, K_, e2_, f2_, q9_, g1_, g2_⟩ := end_ rfl
        refine ⟨v_, K_, e2_, f2_, q9_, Or.inl ⟨(2, q), ?_, g1_, g2_⟩⟩
        unfold aNum
        rw [if_pos k3_, if_pos lo_]
      · rw [if_neg lo_]
        by_cases hi_ : hi < tV N A q
        · rw [if_pos hi_, sp_fail0 d0_, ob_s, ob_s]
          obtain ⟨v_, K_, e2_, f2_, q9_, g1_, g2_⟩ := end_ rfl
          refine ⟨v_, K_, e2_, f2_, q9_, Or.inl ⟨(2, q), ?_, g1_, g2_⟩⟩
          unfold aNum
          rw [if_pos k3_, if_neg lo_, if_pos hi_]
        · rw [if_neg hi_, ob_s, sp_failed0 d0_, ob_s, if_pos rfl, ob_s, d7b_]
          refine ⟨_, _, rfl, f_, ⟨c3_, y_, hy_, ey_⟩, Or.inr ⟨nx N A q, ?_, ⟨d0_, d1_.trans h1_, c3_, tE N A q, (tE_le qle_).2, d4_, rfl⟩, c6_⟩⟩
          unfold aNum
          rw [if_pos k3_, if_neg lo_, if_neg hi_]
    · have tk5_ : tK N A q < 5 := by
        unfold tK
        by_cases l_ : q < N
        · rw [if_pos l_]
          by_cases w1_ : pL A q = true
          · rw [if_pos w1_]
            by_cases w2_ : 6 < tE N A q - q
            · rw [if_pos w2_]; omega
            · rw [if_neg w2_]; omega
          · rw [if_neg w1_]
            by_cases w3_ : pD A q = true
            · rw [if_pos w3_]
              by_cases w2_ : 2 < tE N A q - q
              · rw [if_pos w2_]; omega
              · rw [if_neg w2_]; omega
            · rw [if_neg w3_]
              by_cases w4_ : A q = jn 59
              · rw [if_pos w4_]; omega
              · rw [if_neg w4_]; omega
        · rw [if_neg l_]; omega
      have n5_ : ¬ J_ 54 5 = jn 2 := by rw [d5_, jn_eq (by omega) (by omega)]; omega
      have n0_ : ¬ (ev_u2 (ev_u2 J_ 54 0 (jn 1)) 54 1 (J_ 54 6)) 54 0 = jn 0 := by rw [ju_ne (by omega), ju_at]; decide
      rw [if_neg n5_, sp_fail0 d0_, ob_s, ob_s, sp_failed1 n0_, ob_s, if_neg (show ¬ jn 1 = jn 0 by decide), ob_s, sp_failed1 n0_, ob_s, if_neg (show ¬ jn 1 = jn 0 by decide), ob_s]
      refine ⟨_, _, rfl, fun b hb => by rw [ju_na hb, ju_na hb]; exact f_ b hb, ⟨by rw [ju_ne (by omega), ju_ne (by omega)]; exact c3_, y_, hy_, by rw [ju_ne (by omega), ju_ne (by omega)]; exact ey_⟩, Or.inl ⟨(1, q), ?_, by rw [ju_ne (by omega), ju_at], by rw [ju_at]; exact c6_⟩⟩
      unfold aNum
      rw [if_neg k3_]
/-- words -/
theorem sp_word {k : Nat} (hk : k < 34) (h5 : I 54 5 = jn 1) (h4 : I 54 4 = jn (tE N A q)) (h6 : I 54 6 = jn q) (hA : cA N A I) (hq : q ≤ N) (hN : N ≤ 500) : d_P_isWord a k I = some (if tWd N A q k = true then jn 1 else jn 0) := by
  have tle_ := tE_le (A := A) hq
  have sm_ : zs_ln k ≤ 1000 := zs_sm ⟨k, hk⟩
  unfold d_P_isWord
  rw [h5, if_pos rfl, if_pos hk, h4, h6, jn_sub tle_.1]
  show (if jn (tE N A q - q) = jn (zs_ln k) then _ else _) = _
  by_cases l_ : tE N A q - q = zs_ln k
  · rw [if_pos (by rw [l_])]
    refine (z_srch (f := d_P_isWord_3 k I) (fun i => ¬ A (q + i) = zs_ch k (jn i)) (fun _ => jn 0) (jn 1) (n := zs_ln k) (by omega) (fun i hi => ?_) ?_).trans ?_
    · unfold d_P_isWord_3
      rw [if_pos hk, if_pos (show jn i < zs_len k by unfold zs_len; rw [jn_lt (by omega) (by omega)]; exact hi), h6, jn_add, if_pos (show z_in (jn (q + i)) 500 by rw [jn_in (by omega)]; omega), if_pos hk, if_pos (show z_in (jn i) (zs_ln k) by rw [jn_in (by omega)]; exact hi), jn_n (by omega), hA (q + i) (by omega), jn_add]
      by_cases c_ : A (q + i) = zs_ch k (jn i)
      · rw [if_pos c_, if_neg (fun q_ => q_ c_)]
      · rw [if_neg c_, if_pos c_]
    · unfold d_P_isWord_3
      rw [if_pos hk, if_neg (show ¬ jn (zs_ln k) < zs_len k by unfold zs_len; rw [jn_lt (by omega) (by omega)]; omega)]
    · by_cases w_ : tWd N A q k = true
      · rw [if_pos w_]
        unfold tWd at w_
        rw [decide_eq_true_eq] at w_
        rw [qk_no (fun i hi q_ => q_ (w_.2 i hi)), if_neg (Nat.lt_irrefl _)]
      · rw [if_neg w_]
        unfold tWd at w_
        rw [decide_eq_true_eq] at w_
        by_cases x_ : qk (fun i => ¬ A (q + i) = zs_ch k (jn i)) (zs_ln k) < zs_ln k
        · rw [if_pos x_]
        · refine absurd ⟨l_, fun i hi => ?_⟩ w_
          have k_ := qk_lt (P := fun i => ¬ A (q + i) = zs_ch k (jn i)) (n := zs_ln k) (i := i) (by omega)
          exact Decidable.byContradiction k_
  · have w_ : ¬ tWd N A q k = true := by
      unfold tWd
      rw [decide_eq_true_eq]
      exact fun q_ => l_ q_.1
    rw [if_neg (by rw [jn_eq (by omega) (by omega)]; exact l_), if_neg w_]
theorem sp_noword {k : Nat} (h5 : ¬ I 54 5 = jn 1) : d_P_isWord a k I = some (jn 0) := by
  unfold d_P_isWord
  rw [if_neg h5]
/-! the reference -/
theorem rp_is (h : rP N A q I) (k : Nat) (hk : k < 10) (hK : tK N A q < 10) : d_M_is (jn k) I = some (if tK N A q = k then jn 1 else jn 0) := by
  unfold d_M_is
  rw [h.1, if_pos rfl, h.2.2.2.2.1]
  by_cases e_ : tK N A q = k
  · rw [if_pos (by rw [e_]), ob_s, if_pos (Or.inr rfl), if_pos e_]
  · rw [if_neg (by rw [jn_eq (by omega) (by omega)]; exact e_), ob_s, if_pos (Or.inl rfl), if_neg e_]
theorem tK_5 : tK N A q < 5 := by
  unfold tK
  by_cases l_ : q < N
  · rw [if_pos l_]
    by_cases w1_ : pL A q = true
    · rw [if_pos w1_]
      by_cases w2_ : 6 < tE N A q - q
      · rw [if_pos w2_]; omega
      · rw [if_neg w2_]; omega
    · rw [if_neg w1_]
      by_cases w3_ : pD A q = true
      · rw [if_pos w3_]
        by_cases w2_ : 2 < tE N A q - q
        · rw [if_pos w2_]; omega
        · rw [if_neg w2_]; omega
      · rw [if_neg w3_]
        by_cases w4_ : A q = jn 59
        · rw [if_pos w4_]; omega
        · rw [if_neg w4_]; omega
  · rw [if_neg l_]; omega
theorem rp_is1 (h : ¬ I 241 10 = jn 0) (x : Int32) : d_M_is x I = some (jn 0) := by
  unfold d_M_is
  rw [if_neg h, ob_s, if_pos (Or.inl rfl)]
theorem rp_faults1 (h : jn 0 < I 241 10) (x : Int32) : d_M_faults x I = some I := by
  unfold d_M_faults
  rw [if_pos h]
theorem rp_faults0 (h : I 241 10 = jn 0) (x : Int32) : d_M_faults x I = some (ev_u2 (ev_u2 I 241 10 x) 241 11 (I 241 14)) := by
  unfold d_M_faults
  rw [h, if_neg (show ¬ jn 0 < jn 0 by decide), ju_ne (by omega)]
/-- a fault told here -/
theorem rp_fault (h : rP N A q I) (c : Nat) : ∃ J, d_M_faults (jn c) I = some J ∧ (∀ b, ¬ b = 241 → J b = I b) ∧ (∀ k, k < 10 ∨ 17 ≤ k → J 241 k = I 241 k) ∧ fM (c, q) J := ⟨_, rp_faults0 h.1 _, fun b hb => by rw [ju_na hb, ju_na hb], fun k hk => by rw [ju_ne (by omega), ju_ne (by omega)], by rw [ju_ne (by omega), ju_at], by rw [ju_at]; exact h.2.2.2.1⟩
theorem rp_on (h : rP N A q I) (hk : ¬ tK N A q = 0) (hA : mA N A I) (hN : N ≤ 500) : ∃ J, d_M_goes I = some J ∧ (∀ b, ¬ b = 241 → J b = I b) ∧ (∀ k, k < 10 ∨ 17 ≤ k → J 241 k = I 241 k) ∧ rP N A (nx N A q) J := by
  obtain ⟨h0_, h1_, h3_, h6_, h5_, h4_, h7_, hq_⟩ := h
  exact rp_goes h0_ h1_ h3_ (h4_ hk) (tE_le hq_).2 hN hA
theorem rp_here1 (h : jn 0 < I 241 10) : d_M_numberHere lo hi I = some (lo, I) := by
  have h0_ : ¬ I 241 10 = jn 0 := fun q_ => by
    rw [q_] at h
    exact absurd h (by decide)
  unfold d_M_numberHere
  rw [rp_is1 h0_, ob_s, if_pos rfl, rp_faults1 h, ob_s, ob_s, if_pos h, ob_s]
theorem rp_num1 (h : jn 0 < I 241 10) : d_M_number lo hi I = some (lo, I) := by
  unfold d_M_number
  rw [rp_here1 h, ob_s, rp_goes1 h, ob_s]
theorem rp_rng (x : Int32) : d_M_in x lo hi = some (if ¬ x < lo ∧ ¬ hi < x then jn 1 else jn 0) := by
  unfold d_M_in
  by_cases h1_ : x < lo
  · rw [if_pos h1_, ob_s, if_pos (Or.inl rfl), if_neg (fun q_ => q_.1 h1_)]
  · rw [if_neg h1_]
    by_cases h2_ : hi < x
    · rw [if_pos h2_, ob_s, if_pos (Or.inl rfl), if_neg (fun q_ => q_.2 h2_)]
    · rw [if_neg h2_, ob_s, if_pos (Or.inr rfl), if_pos ⟨h1_, h2_⟩]
theorem rp_here (h : rP N A q I) : ∃ v J, d_M_numberHere lo hi I = some (v, J) ∧ (∀ b, ¬ b = 241 → J b = I b) ∧ (∀ k, k < 10 ∨ 17 ≤ k → J 241 k = I 241 k) ∧ ((∃ e, aNum N A lo hi q = .inl e ∧ fM e J) ∨ (∃ r, aNum N A lo hi q = .inr (v, r) ∧ J = I)) := by
  have h0_ := h.1
  unfold d_M_numberHere
  rw [rp_is h 3 (by omega) (by have k_ := tK_5 (N := N) (A := A) (q := q); omega), ob_s]
  have bad_ : ∀ c : Nat, ¬ c = 0 → c < 5 → aNum N A lo hi q = .inl (c, q) → ∃ v J, (Option.bind (α := z_H) ((d_M_faults (jn c) I).bind fun q13 => some (q13)) fun q3 => (Option.bind (α := Int32) (if jn 0 < (q3 241 10) then some (lo) else some ((q3 241 16))) fun q6 => some ((q6, q3)))) = some (v, J) ∧ (∀ b, ¬ b = 241 → J b = I b) ∧ (∀ k, k < 10 ∨ 17 ≤ k → J 241 k = I 241 k) ∧ ((∃ e, aNum N A lo hi q = .inl e ∧ fM e J) ∨ (∃ r, aNum N A lo hi q = .inr (v, r) ∧ J = I)) := fun c hc0 hc5 hc => by
    obtain ⟨J_, e_, f1_, f2_, m_⟩ := rp_fault h c
    have p_ : jn 0 < J_ 241 10 := by rw [m_.1, jn_lt (by omega) (by omega)]; omega
    rw [e_, ob_s, ob_s, if_pos p_, ob_s]
    exact ⟨_, _, rfl, f1_, f2_, Or.inl ⟨_, hc, m_⟩⟩
  by_cases k3_ : tK N A q = 3
  · rw [if_pos k3_, if_neg (show ¬ jn 1 = jn 0 by decide), h.2.2.2.2.2.2.1 k3_, rp_rng, ob_s]
    by_cases lo_ : tV N A q < lo
    · rw [if_neg (show ¬ (¬ tV N A q < lo ∧ ¬ hi < tV N A q) from fun q_ => q_.1 lo_), if_pos rfl]
      exact bad_ 2 (by omega) (by omega) (by unfold aNum; rw [if_pos k3_, if_pos lo_])
    · by_cases hi_ : hi < tV N A q
      · rw [if_neg (show ¬ (¬ tV N A q < lo ∧ ¬ hi < tV N A q) from fun q_ => q_.2 hi_), if_pos rfl]
        exact bad_ 2 (by omega) (by omega) (by unfold aNum; rw [if_pos k3_, if_neg lo_, if_pos hi_])
      · rw [if_pos (show ¬ tV N A q < lo ∧ ¬ hi < tV N A q from ⟨lo_, hi_⟩), if_neg (show ¬ jn 1 = jn 0 by decide), ob_s, h0_, if_neg (show ¬ jn 0 < jn 0 by decide), ob_s, h.2.2.2.2.2.2.1 k3_]
        exact ⟨_, _, rfl, fun _ _ => rfl, fun _ _ => rfl, Or.inr ⟨nx N A q, by unfold aNum; rw [if_pos k3_, if_neg lo_, if_neg hi_], rfl⟩⟩
  · rw [if_neg k3_, if_pos rfl]
    exact bad_ 1 (by omega) (by omega) (by unfold aNum; rw [if_neg k3_])
theorem rp_num (h : rP N A q I) (hA : mA N A I) (hN : N ≤ 500) : ∃ v J, d_M_number lo hi I = some (v, J) ∧ (∀ b, ¬ b = 241 → J b = I b) ∧ (∀ k, k < 10 ∨ 17 ≤ k → J 241 k = I 241 k) ∧ ((∃ e, aNum N A lo hi q = .inl e ∧ fM e J) ∨ (∃ r, aNum N A lo hi q = .inr (v, r) ∧ rP N A r J)) := by
  obtain ⟨v_, J_, e_, f1_, f2_, c_⟩ := rp_here (lo := lo) (hi := hi) h
  unfold d_M_number
  rw [e_, ob_s]
  rcases c_ with ⟨x_, ex_, m_⟩ | ⟨r_, er_, eJ_⟩
  · rw [rp_goes1 (fM_n (aNum_E h.2.2.2.2.2.2.2 ex_) m_), ob_s]
    exact ⟨_, _, rfl, f1_, f2_, Or.inl ⟨x_, ex_, m_⟩⟩
  · obtain ⟨_, _, en_, k3_, _⟩ := aNum_V er_
    rw [eJ_]
    obtain ⟨K_, e2_, g1_, g2_, p_⟩ := rp_on h (by omega) hA hN
    rw [e2_, ob_s]
    exact ⟨_, _, rfl, g1_, g2_, Or.inr ⟨r_, er_, by rw [en_]; exact p_⟩⟩
theorem rp_word {k : Nat} (hk : k < 34) (h : rP N A q I) (h2 : tK N A q = 2) (hA : mA N A I) (hN : N ≤ 500) : d_M_isWord k I = some (if tWd N A q k = true then jn 1 else jn 0) := by
  have hq_ := h.2.2.2.2.2.2.2
  have tle_ := tE_le (A := A) hq_
  have sm_ : zs_ln k ≤ 1000 := zs_sm ⟨k, hk⟩
  have h6_ := h.2.2.2.1
  unfold d_M_isWord
  rw [rp_is h 2 (by omega) (by omega), ob_s, if_pos h2, if_neg (show ¬ jn 1 = jn 0 by decide), if_pos hk, h.2.2.2.2.2.1 (by omega), h6_, jn_sub tle_.1]
  show (if jn (tE N A q - q) = jn (zs_ln k) then _ else _) = _
  by_cases l_ : tE N A q - q = zs_ln k
  · rw [if_pos (by rw [l_])]
    refine (z_srch (f := d_M_isWord_5 k I) (fun i => ¬ A (q + i) = zs_ch k (jn i)) (fun _ => jn 0) (jn 1) (n := zs_ln k) (by omega) (fun i hi => ?_) ?_).trans ?_
    · unfold d_M_isWord_5
      rw [if_pos hk, if_pos (show jn i < zs_len k by unfold zs_len; rw [jn_lt (by omega) (by omega)]; exact hi), h6_, jn_add, if_pos (show z_in (jn (q + i)) 500 by rw [jn_in (by omega)]; omega), if_pos hk, if_pos (show z_in (jn i) (zs_ln k) by rw [jn_in (by omega)]; exact hi), jn_n (by omega), hA (q + i) (by omega), jn_add]
      by_cases c_ : A (q + i) = zs_ch k (jn i)
      · rw [if_pos c_, if_neg (fun q_ => q_ c_)]
      · rw [if_neg c_, if_pos c_]
    · unfold d_M_isWord_5
      rw [if_pos hk, if_neg (show ¬ jn (zs_ln k) < zs_len k by unfold zs_len; rw [jn_lt (by omega) (by omega)]; omega)]
    · by_cases w_ : tWd N A q k = true
      · rw [if_pos w_]
        unfold tWd at w_
        rw [decide_eq_true_eq] at w_
        rw [qk_no (fun i hi q_ => q_ (w_.2 i hi)), if_neg (Nat.lt_irrefl _)]
      · rw [if_neg w_]
        unfold tWd at w_
        rw [decide_eq_true_eq] at w_
        by_cases x_ : qk (fun i => ¬ A (q + i) = zs_ch k (jn i)) (zs_ln k) < zs_ln k
        · rw [if_pos x_]
        · refine absurd ⟨l_, fun i hi => ?_⟩ w_
          have k_ := qk_lt (P := fun i => ¬ A (q + i) = zs_ch k (jn i)) (n := zs_ln k) (i := i) (by omega)
          exact Decidable.byContradiction k_
  · have w_ : ¬ tWd N A q k = true := by
      unfold tWd
      rw [decide_eq_true_eq]
      exact fun q_ => l_ q_.1
    rw [if_neg (by rw [jn_eq (by omega) (by omega)]; exact l_), if_neg w_]
theorem rp_noword {k : Nat} (h : rP N A q I) (h2 : ¬ tK N A q = 2) : d_M_isWord k I = some (jn 0) := by
  unfold d_M_isWord
  rw [rp_is h 2 (by omega) (by have k_ := tK_5 (N := N) (A := A) (q := q); omega), ob_s, if_neg h2, if_pos rfl]
end NUM
