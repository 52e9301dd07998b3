/-! the class's lines -/
section QSB
variable {L : LL} {I : z_H} {s u : Nat}
theorem qS_col (h : qS L I s u) (g : qG L) (d : u + 6 ≤ s) (hc : qC L < 6) (v : Int32) : qS (Lcol L v) (ev_u2 (ev_u2 I (u + 1) (qC L) v) u 1 (jn (qC L + 1))) s u := by
  have hF_ := g.1
  obtain ⟨h1_, h2_, h3_, h4_, h5_, h6_, h7_, h8_, h9_, ha_, hb_, hc_, hd_⟩ := h
  refine ⟨fun j hj => ?_, ?_, ?_, ?_, ?_, ?_, fun c hc2 => ?_, fun m hm => ?_, fun v hv => ?_, fun f j hf hj => ?_, fun q hq => ?_, fun m hm hm2 => ?_, fun v hv hv2 => ?_⟩
  · rw [ju_na (by omega), ju_na (by omega)]; exact h1_ j hj
  · rw [ju_na (by omega), ju_na (by omega)]; exact h2_
  · rw [ju_ne (by omega), ju_na (by omega)]; exact h3_
  · rw [ju_at]; rfl
  · rw [ju_ne (by omega), ju_na (by omega)]; exact h5_
  · rw [ju_ne (by omega), ju_na (by omega)]; exact h6_
  · have c_ : c < qC L + 1 := hc2
    rw [ju_na (by omega)]
    by_cases e_ : c = qC L
    · rw [e_, ju_at]
      exact (if_pos rfl).symm
    · rw [ju_ne (fun q_ => e_ q_.2)]
      exact (h7_ c (by omega)).trans (if_neg e_).symm
  · obtain ⟨q1_, q2_, q3_, q4_⟩ := h8_ m hm
    exact ⟨by rw [ju_na (by omega), ju_na (by omega)]; exact q1_, by rw [ju_na (by omega), ju_na (by omega)]; exact q2_, by rw [ju_na (by omega), ju_na (by omega)]; exact q3_, by rw [ju_na (by omega), ju_na (by omega)]; exact q4_⟩
  · obtain ⟨q1_, q2_, q3_⟩ := h9_ v hv
    exact ⟨by rw [ju_na (by omega), ju_na (by omega)]; exact q1_, by rw [ju_na (by omega), ju_na (by omega)]; exact q2_, fun i f hi => by rw [ju_na (by omega), ju_na (by omega)]; exact q3_ i f hi⟩
  · have hf2_ : f < qF L := hf
    rw [ju_na (by omega), ju_na (by omega)]; exact ha_ f j hf hj
  · rw [ju_na (by omega), ju_na (by omega)]; exact hb_ q hq
  · rw [ju_na (by omega), ju_na (by omega)]; exact hc_ m hm hm2
  · rw [ju_na (by omega), ju_na (by omega)]; exact hd_ v hv hv2
theorem qS_tub (h : qS L I s u) (g : qG L) (d : u + 6 ≤ s) (hc : qT L < 3) (v : Int32) : qS (Ltub L v) (ev_u2 (ev_u2 I (u + 5) (qT L) v) u 3 (jn (qT L + 1))) s u := by
  have hF_ := g.1
  obtain ⟨h1_, h2_, h3_, h4_, h5_, h6_, h7_, h8_, h9_, ha_, hb_, hc_, hd_⟩ := h
  refine ⟨fun j hj => ?_, ?_, ?_, ?_, ?_, ?_, fun c hc2 => ?_, fun m hm => ?_, fun t ht => ?_, fun f j hf hj => ?_, fun q hq => ?_, fun m hm hm2 => ?_, fun t ht ht2 => ?_⟩
  · rw [ju_na (by omega), ju_na (by omega)]; exact h1_ j hj
  · rw [ju_na (by omega), ju_na (by omega)]; exact h2_
  · rw [ju_ne (by omega), ju_na (by omega)]; exact h3_
  · rw [ju_ne (by omega), ju_na (by omega)]; exact h4_
  · rw [ju_ne (by omega), ju_na (by omega)]; exact h5_
  · rw [ju_at]; rfl
  · rw [ju_na (by omega), ju_na (by omega)]; exact h7_ c hc2
  · obtain ⟨q1_, q2_, q3_, q4_⟩ := h8_ m hm
    exact ⟨by rw [ju_na (by omega), ju_na (by omega)]; exact q1_, by rw [ju_na (by omega), ju_na (by omega)]; exact q2_, by rw [ju_na (by omega), ju_na (by omega)]; exact q3_, by rw [ju_na (by omega), ju_na (by omega)]; exact q4_⟩
  · have ht2_ : t < qT L + 1 := ht
    by_cases e_ : t = qT L
    · have o_ : qo (Ltub L v) t = v := if_pos e_
      have l_ : qt (Ltub L v) t = [] := if_pos e_
      unfold qSt
      rw [o_, l_, e_]
      refine ⟨by rw [ju_na (by omega), ju_at], ?_, fun i f hi => by cases hi⟩
      rw [ju_na (by omega), ju_na (by omega)]
      exact hd_ (qT L) (Nat.le_refl _) hc
    · have o_ : qo (Ltub L v) t = qo L t := if_neg e_
      have l_ : qt (Ltub L v) t = qt L t := if_neg e_
      obtain ⟨q1_, q2_, q3_⟩ := h9_ t (by omega)
      unfold qSt
      rw [o_, l_]
      exact ⟨by rw [ju_na (by omega), ju_ne (fun q_ => e_ q_.2)]; exact q1_, by rw [ju_na (by omega), ju_na (by omega)]; exact q2_, fun i f hi => by rw [ju_na (by omega), ju_na (by omega)]; exact q3_ i f hi⟩
  · have hf2_ : f < qF L := hf
    rw [ju_na (by omega), ju_na (by omega)]; exact ha_ f j hf hj
  · rw [ju_na (by omega), ju_na (by omega)]; exact hb_ q hq
  · rw [ju_na (by omega), ju_na (by omega)]; exact hc_ m hm hm2
  · have k_ : qT L + 1 ≤ t := ht
    rw [ju_na (by omega), ju_na (by omega)]; exact hd_ t (by omega) ht2
theorem qS_nat (h : qS L I s u) (g : qG L) (d : u + 6 ≤ s) (hc : qN L < 4) (x y w : Int32) : qS (Lnat L x y w) (ev_u2 (ev_u2 (ev_u2 (ev_u2 I (u + 2) (qN L) x) (u + 3) (qN L) y) (u + 4) (qN L) w) u 2 (jn (qN L + 1))) s u := by
  have hF_ := g.1
  obtain ⟨h1_, h2_, h3_, h4_, h5_, h6_, h7_, h8_, h9_, ha_, hb_, hc_, hd_⟩ := h
  have o_ : ∀ b, ¬ b = u → ¬ b = u + 2 → ¬ b = u + 3 → ¬ b = u + 4 → (ev_u2 (ev_u2 (ev_u2 (ev_u2 I (u + 2) (qN L) x) (u + 3) (qN L) y) (u + 4) (qN L) w) u 2 (jn (qN L + 1))) b = I b := fun b k1 k2 k3 k4 => by rw [ju_na k1, ju_na k4, ju_na k3, ju_na k2]
  refine ⟨fun j hj => ?_, ?_, ?_, ?_, ?_, ?_, fun c hc2 => ?_, fun m hm => ?_, fun t ht => ?_, fun f j hf hj => ?_, fun q hq => ?_, fun m hm hm2 => ?_, fun t ht ht2 => ?_⟩
  · rw [o_ s (by omega) (by omega) (by omega) (by omega)]; exact h1_ j hj
  · rw [o_ s (by omega) (by omega) (by omega) (by omega)]; exact h2_
  · rw [ju_ne (by omega), ju_na (by omega), ju_na (by omega), ju_na (by omega)]; exact h3_
  · rw [ju_ne (by omega), ju_na (by omega), ju_na (by omega), ju_na (by omega)]; exact h4_
  · rw [ju_at]; rfl
  · rw [ju_ne (by omega), ju_na (by omega), ju_na (by omega), ju_na (by omega)]; exact h6_
  · rw [o_ (u + 1) (by omega) (by omega) (by omega) (by omega)]; exact h7_ c hc2
  · have hm2_ : m < qN L + 1 := hm
    by_cases e_ : m = qN L
    · have v_ : ∀ j, qn (Lnat L x y w) m j = if j = 0 then x else if j = 1 then y else if j = 2 then w else jn 0 := fun j => if_pos e_
      unfold qSn
      simp only [v_]
      rw [e_]
      refine ⟨by rw [ju_na (by omega), ju_na (by omega), ju_na (by omega), ju_at]; rfl, by rw [ju_na (by omega), ju_na (by omega), ju_at]; rfl, by rw [ju_na (by omega), ju_at]; rfl, ?_⟩
      rw [o_ (s + 17) (by omega) (by omega) (by omega) (by omega)]
      exact hc_ (qN L) (Nat.le_refl _) hc
    · have v_ : ∀ j, qn (Lnat L x y w) m j = qn L m j := fun j => if_neg e_
      obtain ⟨q1_, q2_, q3_, q4_⟩ := h8_ m (by omega)
      unfold qSn
      simp only [v_]
      exact ⟨by rw [ju_na (by omega), ju_na (by omega), ju_na (by omega), ju_ne (fun q_ => e_ q_.2)]; exact q1_, by rw [ju_na (by omega), ju_na (by omega), ju_ne (fun q_ => e_ q_.2), ju_na (by omega)]; exact q2_, by rw [ju_na (by omega), ju_ne (fun q_ => e_ q_.2), ju_na (by omega), ju_na (by omega)]; exact q3_, by rw [o_ (s + 17) (by omega) (by omega) (by omega) (by omega)]; exact q4_⟩
  · obtain ⟨q1_, q2_, q3_⟩ := h9_ t ht
    exact ⟨by rw [o_ (u + 5) (by omega) (by omega) (by omega) (by omega)]; exact q1_, by rw [o_ (s + 14) (by omega) (by omega) (by omega) (by omega)]; exact q2_, fun i f hi => by rw [o_ (s + 15) (by omega) (by omega) (by omega) (by omega)]; exact q3_ i f hi⟩
  · have hf2_ : f < qF L := hf
    rw [o_ (s + 2 + f) (by omega) (by omega) (by omega) (by omega)]; exact ha_ f j hf hj
  · rw [o_ (s + 16) (by omega) (by omega) (by omega) (by omega)]; exact hb_ q hq
  · have k_ : qN L + 1 ≤ m := hm
    rw [o_ (s + 17) (by omega) (by omega) (by omega) (by omega)]; exact hc_ m (by omega) hm2
  · rw [o_ (s + 14) (by omega) (by omega) (by omega) (by omega)]; exact hd_ t ht ht2
end QSB
def cF (a : Nat) (I J : z_H) : Prop := ∀ b, ¬ b = 54 → b < a + 1 ∨ a + 25 ≤ b → J b = I b
def cR (N : Nat) (A : Nat → Int32) (a : Nat) (x : PE ⊕ (Nat × LL)) (J : z_H) : Prop := (∃ e, x = .inl e ∧ fP e J) ∨ (∃ q L, x = .inr (q, L) ∧ cP N A q J ∧ qS L J (a + 7) (a + 1))
section LNC
variable {N q q0 a : Nat} {A : Nat → Int32} {I J : z_H} {L : LL} {lo hi : Int32}
theorem qS_54 (h : qS L I (a + 7) (a + 1)) (g : qG L) (ha : a = 2 ∨ a = 28) (f : ∀ b, ¬ b = 54 → J b = I b) : qS L J (a + 7) (a + 1) := qS_out h (fun b b1 b2 => f b (by omega)) (fun b b1 b2 => f b (by omega)) g
theorem cA_54 (h : cA N A I) (f : ∀ b, ¬ b = 54 → J b = I b) : cA N A J := fun k hk => by rw [f 1 (by omega)]; exact h k hk
theorem cP_54 (h : cP N A q I) (f : J 54 = I 54) : cP N A q J := by
  obtain ⟨h0_, h1_, h3_, p_, hp_, h4_, hq_⟩ := h
  exact ⟨by rw [f]; exact h0_, by rw [f]; exact h1_, by rw [f]; exact h3_, p_, hp_, by rw [f]; exact h4_, hq_⟩
theorem cP_q (h : cP N A q I) : q ≤ N := by
  obtain ⟨_, _, _, p_, hp_, _, hq_⟩ := h
  rw [← hq_]
  exact (jrun_le (P := pB A) hp_).2
theorem cF_54 (f : ∀ b, ¬ b = 54 → J b = I b) : cF a I J := fun b hb _ => f b hb
theorem cF_tr {K : z_H} (h : cF a I J) (h2 : cF a J K) : cF a I K := fun b b1 b2 => (h2 b b1 b2).trans (h b b1 b2)
/-- a place that is wanting -/
theorem sp_full (h : cP N A q I) (h6 : I 54 6 = jn q0) {c m : Nat} (hc : c < 1000) (hm : m < 1000) (e : ¬ c < m) : ∃ J, d_P_needPlaceFor (jn c) (jn m) I = some J ∧ (∀ b, ¬ b = 54 → J b = I b) ∧ fP (4, q0) J := by
  unfold d_P_needPlaceFor
  rw [if_neg (by rw [jn_lt (by omega) (by omega)]; exact e), sp_fail0 h.1, ob_s, ob_s]
  exact ⟨_, rfl, fun b hb => by rw [ju_na hb, ju_na hb], by rw [ju_ne (by omega), ju_at], by rw [ju_at]; exact h6⟩
theorem sp_room {c m : Nat} (hc : c < 1000) (hm : m < 1000) (e : c < m) : d_P_needPlaceFor (jn c) (jn m) I = some I := by
  unfold d_P_needPlaceFor
  rw [if_pos (by rw [jn_lt (by omega) (by omega)]; exact e), ob_s]
/-- a number read, or not -/
theorem sp_numT (h : cP N A q I) (hA : cA N A I) (hN : N ≤ 500) (hs : qS L I (a + 7) (a + 1)) (g : qG L) (ha : a = 2 ∨ a = 28) : ∃ v J, d_P_number a lo hi I = some (v, J) ∧ (∀ b, ¬ b = 54 → J b = I b) ∧ cA N A J ∧ qS L J (a + 7) (a + 1) ∧ cQ N J ∧ ((∃ e, aNum N A lo hi q = .inl e ∧ fP e J ∧ ¬ J 54 0 = jn 0) ∨ (∃ r, aNum N A lo hi q = .inr (v, r) ∧ cP N A r J ∧ J 54 6 = jn q ∧ ¬ v < lo ∧ ¬ hi < v ∧ J 54 0 = jn 0)) := by
  obtain ⟨v_, J_, e_, f_, y_, c_⟩ := sp_num (a := a) (lo := lo) (hi := hi) h hA hN
  refine ⟨v_, J_, e_, f_, cA_54 hA f_, qS_54 hs g ha f_, y_, ?_⟩
  rcases c_ with ⟨x_, ex_, fx_⟩ | ⟨r_, er_, p_, h6_⟩
  · exact Or.inl ⟨x_, ex_, fx_, fP_n (aNum_E (cP_q h) ex_) fx_⟩
  · obtain ⟨b1_, b2_, _⟩ := aNum_V er_
    exact Or.inr ⟨r_, er_, p_, h6_, b1_, b2_, p_.1⟩
theorem sp_numS (h : cP N A q I) (hA : cA N A I) (hN : N ≤ 500) (hs : qS L I (a + 7) (a + 1)) (g : qG L) (ha : a = 2 ∨ a = 28) : ∃ v J, d_P_number a lo hi I = some (v, J) ∧ (∀ b, ¬ b = 54 → J b = I b) ∧ cA N A J ∧ qS L J (a + 7) (a + 1) ∧ ((∃ e, aNum N A lo hi q = .inl e ∧ fP e J ∧ ¬ J 54 0 = jn 0) ∨ (∃ r, aNum N A lo hi q = .inr (v, r) ∧ cP N A r J ∧ J 54 6 = jn q ∧ ¬ v < lo ∧ ¬ hi < v ∧ J 54 0 = jn 0)) := by
  obtain ⟨v_, J_, e_, f_, A_, S_, _, c_⟩ := sp_numT (lo := lo) (hi := hi) h hA hN hs g ha
  exact ⟨v_, J_, e_, f_, A_, S_, c_⟩
theorem sp_brC (S : qS L J (a + 7) (a + 1)) (g : qG L) (h : qC L < 6) (v : Int32) : d_U_bringColour (a + 1) v J = some (ev_u2 (ev_u2 J (a + 1 + 1) (qC L) v) (a + 1) 1 (jn (qC L + 1))) := by
  have c2_ : J (a + 1) 1 = jn (qC L) := S.2.2.2.1
  unfold d_U_bringColour
  rw [c2_, if_pos (by rw [jn_in (by omega)]; omega), jn_n (by omega), ju_na (by omega), c2_, jn_add]
theorem sp_brT (S : qS L J (a + 7) (a + 1)) (g : qG L) (h : qT L < 3) (v : Int32) : d_U_bringTub (a + 1) v J = some (ev_u2 (ev_u2 J (a + 1 + 5) (qT L) v) (a + 1) 3 (jn (qT L + 1))) := by
  have c2_ : J (a + 1) 3 = jn (qT L) := S.2.2.2.2.2.1
  unfold d_U_bringTub
  rw [c2_, if_pos (by rw [jn_in (by omega)]; omega), jn_n (by omega), ju_na (by omega), c2_, jn_add]
theorem sp_colour (h : cP N A q I) (hA : cA N A I) (hN : N ≤ 500) (hs : qS L I (a + 7) (a + 1)) (g : qG L) (ha : a = 2 ∨ a = 28) (h6 : I 54 6 = jn q0) : ∃ J, d_P_readColour a I = some J ∧ cF a I J ∧ cR N A a (aColour N A q0 q L) J := by
  have g2_ := g.2.1
  have c_ : I (a + 1) 1 = jn (qC L) := hs.2.2.2.1
  unfold d_P_readColour aColour
  rw [c_]
  by_cases f_ : qC L = 6
  · obtain ⟨J_, e_, fr_, x_⟩ := sp_full h h6 (c := qC L) (m := 6) (by omega) (by omega) (by omega)
    have n_ : ¬ J_ 54 0 = jn 0 := fun q_ => absurd (show jn 4 = jn 0 from x_.1.symm.trans q_) (by decide)
    rw [e_, ob_s, sp_num1 n_, ob_s, sp_failed1 n_, ob_s, if_neg (show ¬ jn 1 = jn 0 by decide), ob_s, if_pos f_]
    exact ⟨_, rfl, cF_54 fr_, Or.inl ⟨_, rfl, x_⟩⟩
  · obtain ⟨v_, J_, e_, fr_, A_, S_, w_⟩ := sp_numS (lo := jn 0) (hi := jn 4) h hA hN hs g ha
    rw [sp_room (by omega) (by omega) (by omega), ob_s, e_, ob_s, if_neg f_]
    rcases w_ with ⟨x_, ex_, fx_, n_⟩ | ⟨r_, er_, p_, _, _, _, z_⟩
    · rw [sp_failed1 n_, ob_s, if_neg (show ¬ jn 1 = jn 0 by decide), ob_s, ex_]
      exact ⟨_, rfl, cF_54 fr_, Or.inl ⟨_, rfl, fx_⟩⟩
    · dsimp only
      rw [sp_failed0 z_, ob_s, if_pos rfl, er_, sp_brC S_ g (by omega), ob_s, ob_s]
      refine ⟨_, rfl, fun b b1 b2 => by rw [ju_na (by omega), ju_na (by omega)]; exact fr_ b b1, Or.inr ⟨_, _, rfl, cP_54 p_ (by rw [ju_na (by omega), ju_na (by omega)]), qS_col S_ g (by omega) (by omega) v_⟩⟩
theorem sp_tub (h : cP N A q I) (hA : cA N A I) (hN : N ≤ 500) (hs : qS L I (a + 7) (a + 1)) (g : qG L) (ha : a = 2 ∨ a = 28) (h6 : I 54 6 = jn q0) : ∃ J, d_P_readTub a I = some J ∧ cF a I J ∧ cR N A a (aTub N A q0 q L) J := by
  have g2_ := g.2.2.2.1
  have c_ : I (a + 1) 3 = jn (qT L) := hs.2.2.2.2.2.1
  unfold d_P_readTub aTub
  rw [c_]
  by_cases f_ : qT L = 3
  · obtain ⟨J_, e_, fr_, x_⟩ := sp_full h h6 (c := qT L) (m := 3) (by omega) (by omega) (by omega)
    have n_ : ¬ J_ 54 0 = jn 0 := fun q_ => absurd (show jn 4 = jn 0 from x_.1.symm.trans q_) (by decide)
    rw [e_, ob_s, sp_num1 n_, ob_s, sp_failed1 n_, ob_s, if_neg (show ¬ jn 1 = jn 0 by decide), ob_s, if_pos f_]
    exact ⟨_, rfl, cF_54 fr_, Or.inl ⟨_, rfl, x_⟩⟩
  · obtain ⟨v_, J_, e_, fr_, A_, S_, w_⟩ := sp_numS (lo := jn 1) (hi := jn 6) h hA hN hs g ha
    rw [sp_room (by omega) (by omega) (by omega), ob_s, e_, ob_s, if_neg f_]
    rcases w_ with ⟨x_, ex_, fx_, n_⟩ | ⟨r_, er_, p_, _, _, _, z_⟩
    · rw [sp_failed1 n_, ob_s, if_neg (show ¬ jn 1 = jn 0 by decide), ob_s, ex_]
      exact ⟨_, rfl, cF_54 fr_, Or.inl ⟨_, rfl, fx_⟩⟩
    · dsimp only
      rw [sp_failed0 z_, ob_s, if_pos rfl, er_, sp_brT S_ g (by omega), ob_s, ob_s]
      refine ⟨_, rfl, fun b b1 b2 => by rw [ju_na (by omega), ju_na (by omega)]; exact fr_ b b1, Or.inr ⟨_, _, rfl, cP_54 p_ (by rw [ju_na (by omega), ju_na (by omega)]), qS_tub S_ g (by omega) (by omega) v_⟩⟩
theorem sp_nation (h : cP N A q I) (hA : cA N A I) (hN : N ≤ 500) (hs : qS L I (a + 7) (a + 1)) (g : qG L) (ha : a = 2 ∨ a = 28) (h6 : I 54 6 = jn q0) : ∃ J, d_P_readNation a I = some J ∧ cF a I J ∧ cR N A a (aNation N A q0 q L) J := by
  have g2_ := g.2.2.1
  have c_ : I (a + 1) 2 = jn (qN L) := hs.2.2.2.2.1
  unfold d_P_readNation aNation
  rw [c_]
  by_cases f_ : qN L = 4
  · obtain ⟨J_, e_, fr_, x_⟩ := sp_full h h6 (c := qN L) (m := 4) (by omega) (by omega) (by omega)
    have n_ : ¬ J_ 54 0 = jn 0 := fun q_ => absurd (show jn 4 = jn 0 from x_.1.symm.trans q_) (by decide)
    rw [e_, ob_s, sp_num1 n_, ob_s, sp_num1 n_, ob_s, sp_num1 n_, ob_s, sp_failed1 n_, ob_s, if_neg (show ¬ jn 1 = jn 0 by decide), ob_s, if_pos f_]
    exact ⟨_, rfl, cF_54 fr_, Or.inl ⟨_, rfl, x_⟩⟩
  · obtain ⟨v_, J_, e_, fr_, A_, S_, w_⟩ := sp_numS (lo := jn 0) (hi := jn 99) h hA hN hs g ha
    rw [sp_room (by omega) (by omega) (by omega), ob_s, e_, ob_s, if_neg f_]
    rcases w_ with ⟨x_, ex_, fx_, n_⟩ | ⟨r_, er_, p_, _, _, _, z_⟩
    · rw [sp_num1 n_, ob_s, sp_num1 n_, ob_s, sp_failed1 n_, ob_s, if_neg (show ¬ jn 1 = jn 0 by decide), ob_s, ex_]
      exact ⟨_, rfl, cF_54 fr_, Or.inl ⟨_, rfl, fx_⟩⟩
    obtain ⟨v2_, J2_, e2_, fr2_, A2_, S2_, w2_⟩ := sp_numS (lo := jn 1) (hi := jn 99) p_ A_ hN S_ g ha
    rw [e2_, ob_s, er_, eb_r]
    rcases w2_ with ⟨x_, ex_, fx_, n_⟩ | ⟨r2_, er2_, p2_, _, _, _, z2_⟩
    · rw [sp_num1 n_, ob_s, sp_failed1 n_, ob_s, if_neg (show ¬ jn 1 = jn 0 by decide), ob_s, ex_]
      exact ⟨_, rfl, cF_tr (cF_54 fr_) (cF_54 fr2_), Or.inl ⟨_, rfl, fx_⟩⟩
    obtain ⟨v3_, J3_, e3_, fr3_, A3_, S3_, w3_⟩ := sp_numS (lo := jn 0) (hi := jn 9) p2_ A2_ hN S2_ g ha
    rw [e3_, ob_s, er2_, eb_r]
    have F3_ : cF a I J3_ := cF_tr (cF_tr (cF_54 fr_) (cF_54 fr2_)) (cF_54 fr3_)
    rcases w3_ with ⟨x_, ex_, fx_, n_⟩ | ⟨r3_, er3_, p3_, _, _, _, z3_⟩
    · rw [sp_failed1 n_, ob_s, if_neg (show ¬ jn 1 = jn 0 by decide), ob_s, ex_]
      exact ⟨_, rfl, F3_, Or.inl ⟨_, rfl, fx_⟩⟩
    · have c2_ : J3_ (a + 1) 2 = jn (qN L) := S3_.2.2.2.2.1
      have in_ : z_in (jn (qN L)) 4 := by rw [jn_in (by omega)]; omega
      rw [sp_failed0 z3_, ob_s, if_pos rfl, er3_]
      unfold d_U_bringNation
      simp only [c2_, jn_n (show qN L < 100000 by omega), ju_na (show ¬ a + 1 = a + 1 + 2 by omega), ju_na (show ¬ a + 1 = a + 1 + 3 by omega), ju_na (show ¬ a + 1 = a + 1 + 4 by omega)]
      rw [if_pos in_, if_pos in_, if_pos in_, ob_s]
      simp only [c2_, jn_n (show qN L < 100000 by omega), ju_na (show ¬ a + 1 = a + 1 + 2 by omega), ju_na (show ¬ a + 1 = a + 1 + 3 by omega), ju_na (show ¬ a + 1 = a + 1 + 4 by omega)]
      rw [jn_add, ob_s, ob_s]
      refine ⟨_, rfl, fun b b1 b2 => by rw [ju_na (by omega), ju_na (by omega), ju_na (by omega), ju_na (by omega)]; exact F3_ b b1 b2, Or.inr ⟨_, _, rfl, cP_54 p3_ (by rw [ju_na (by omega), ju_na (by omega), ju_na (by omega), ju_na (by omega)]), qS_nat S3_ g (by omega) (by omega) v_ v2_ v3_⟩⟩
theorem sp_wind (h : cP N A q I) (hA : cA N A I) (hN : N ≤ 500) (hs : qS L I (a + 7) (a + 1)) (g : qG L) (ha : a = 2 ∨ a = 28) : ∃ J, d_P_readWind a I = some J ∧ cF a I J ∧ cR N A a (aWind N A q L) J := by
  obtain ⟨v_, J_, e_, fr_, A_, S_, w_⟩ := sp_numS (lo := jn 0) (hi := jn 9) h hA hN hs g ha
  unfold d_P_readWind aWind
  rw [e_, ob_s]
  rcases w_ with ⟨x_, ex_, fx_, n_⟩ | ⟨r_, er_, p_, _, _, _, z_⟩
  · rw [sp_failed1 n_, ob_s, if_neg (show ¬ jn 1 = jn 0 by decide), ob_s, ex_]
    exact ⟨_, rfl, cF_54 fr_, Or.inl ⟨_, rfl, fx_⟩⟩
  · rw [sp_failed0 z_, ob_s, if_pos rfl, ob_s, er_]
    have w2_ := sq_wind S_ g (by omega) v_
    refine ⟨_, rfl, fun b b1 b2 => by rw [ju_na (by omega)]; exact fr_ b b1, Or.inr ⟨_, _, rfl, cP_54 p_ (by rw [ju_na (by omega)]), w2_.1⟩⟩
theorem sp_pass (h : cP N A q I) (hA : cA N A I) (hN : N ≤ 500) (hs : qS L I (a + 7) (a + 1)) (g : qG L) (ha : a = 2 ∨ a = 28) : ∃ J, d_P_readPass a I = some J ∧ cF a I J ∧ cR N A a (aPass N A q L) J := by
  obtain ⟨v_, J_, e_, fr_, A_, S_, w_⟩ := sp_numS (lo := jn 1) (hi := jn 50) h hA hN hs g ha
  unfold d_P_readPass aPass
  rw [e_, ob_s]
  rcases w_ with ⟨x_, ex_, fx_, n_⟩ | ⟨r_, er_, p_, _, b1_, b2_, z_⟩
  · rw [sp_failed1 n_, ob_s, if_neg (show ¬ jn 1 = jn 0 by decide), ob_s, ex_]
    exact ⟨_, rfl, cF_54 fr_, Or.inl ⟨_, rfl, fx_⟩⟩
  · obtain ⟨k_, _, hk_, ek_⟩ := jrg (by omega) (by omega) b1_ b2_
    obtain ⟨K_, e2_, w2_, f2_⟩ := sq_pass S_ g (by omega) (n := k_) (by omega)
    dsimp only
    rw [sp_failed0 z_, ob_s, if_pos rfl, ek_, e2_, ob_s, ob_s, er_, eb_r]
    dsimp only
    rw [ek_, jn_n (by omega)]
    refine ⟨_, rfl, fun b b1 b2 => by rw [f2_ b (by omega)]; exact fr_ b b1, Or.inr ⟨_, _, rfl, cP_54 p_ (f2_ 54 (by omega)), w2_⟩⟩
/-- a fault told after a number -/
theorem sp_told (h : J 54 0 = jn 0) (h6 : J 54 6 = jn q) : ∃ K, d_P_fail (jn 3) J = some K ∧ (∀ b, ¬ b = 54 → K b = J b) ∧ fP (3, q) K := ⟨_, sp_fail0 h _, fun b hb => by rw [ju_na hb, ju_na hb], by rw [ju_ne (by omega), ju_at], by rw [ju_at]; exact h6⟩
theorem sp_hang (h : cP N A q I) (hA : cA N A I) (hN : N ≤ 500) (hs : qS L I (a + 7) (a + 1)) (g : qG L) (ha : a = 2 ∨ a = 28) : ∃ J, d_P_readHang a I = some J ∧ cF a I J ∧ cR N A a (aHang N A q L) J := by
  have g1_ := g.1
  have c_ : I (a + 7) 6 = jn (qF L) := hs.2.1
  obtain ⟨v_, J_, e_, fr_, A_, S_, w_⟩ := sp_numS (lo := jn 0) (hi := jn (qF L) - jn 1) h hA hN hs g ha
  unfold d_P_readHang aHang
  rw [c_, e_, ob_s]
  rcases w_ with ⟨x_, ex_, fx_, n_⟩ | ⟨r_, er_, p_, h6_, b1_, b2_, z_⟩
  · rw [sp_failed1 n_, ob_s, if_neg (show ¬ jn 1 = jn 0 by decide), ex_]
    exact ⟨_, rfl, cF_54 fr_, Or.inl ⟨_, rfl, fx_⟩⟩
  · obtain ⟨k_, hk_, ek_⟩ := jrg1 (by omega) b1_ b2_
    dsimp only
    rw [sp_failed0 z_, ob_s, if_pos rfl, er_, eb_r]
    dsimp only
    rw [ek_, sq_can S_ g hk_, ob_s, jn_n (by omega)]
    by_cases y_ : qf L k_ 8 = jn 0 ∧ ¬ yfree L = jg 1
    · obtain ⟨K_, e2_, ⟨w2_, f2_⟩, g2_⟩ := sq_hang S_ g hk_ y_.1 y_.2
      rw [if_pos y_, if_neg (show ¬ jn 1 = jn 0 by decide), e2_, ob_s, ob_s, if_pos y_]
      exact ⟨_, rfl, fun b b1 b2 => by show K_ b = I b; rw [f2_ b (by omega)]; exact fr_ b b1, Or.inr ⟨_, _, rfl, cP_54 p_ (f2_ 54 (by omega)), w2_⟩⟩
    · obtain ⟨K_, e2_, f2_, x_⟩ := sp_told z_ h6_
      rw [if_neg y_, if_pos rfl, e2_, ob_s, ob_s, if_neg y_]
      exact ⟨_, rfl, cF_tr (cF_54 fr_) (cF_54 f2_), Or.inl ⟨_, rfl, x_⟩⟩
theorem sp_put (h : cP N A q I) (hA : cA N A I) (hN : N ≤ 500) (hs : qS L I (a + 7) (a + 1)) (g : qG L) (ha : a = 2 ∨ a = 28) : ∃ J, d_P_readPut a I = some J ∧ cF a I J ∧ cR N A a (aPut N A q L) J := by
  have g1_ := g.1
  have g4_ := g.2.2.2.1
  have c_ : I (a + 7) 6 = jn (qF L) := hs.2.1
  obtain ⟨v_, J_, e_, fr_, A_, S_, w_⟩ := sp_numS (lo := jn 0) (hi := jn (qF L) - jn 1) h hA hN hs g ha
  unfold d_P_readPut aPut
  have c2_ : J_ (a + 1) 3 = jn (qT L) := S_.2.2.2.2.2.1
  rw [c_, e_, ob_s]
  dsimp only
  rw [c2_]
  rcases w_ with ⟨x_, ex_, fx_, n_⟩ | ⟨r_, er_, p_, _, b1_, b2_, z_⟩
  · rw [sp_num1 n_, ob_s, sp_failed1 n_, ob_s, if_neg (show ¬ jn 1 = jn 0 by decide), ex_]
    exact ⟨_, rfl, cF_54 fr_, Or.inl ⟨_, rfl, fx_⟩⟩
  obtain ⟨v2_, J2_, e2_, fr2_, A2_, S2_, w2_⟩ := sp_numS (lo := jn 0) (hi := jn (qT L) - jn 1) p_ A_ hN S_ g ha
  rw [e2_, ob_s, er_, eb_r]
  have F2_ : cF a I J2_ := cF_tr (cF_54 fr_) (cF_54 fr2_)
  dsimp only
  rcases w2_ with ⟨x_, ex_, fx_, n_⟩ | ⟨r2_, er2_, p2_, h6_, b3_, b4_, z2_⟩
  · rw [sp_failed1 n_, ob_s, if_neg (show ¬ jn 1 = jn 0 by decide), ex_]
    exact ⟨_, rfl, F2_, Or.inl ⟨_, rfl, fx_⟩⟩
  · obtain ⟨f_, hf_, ef_⟩ := jrg1 (by omega) b1_ b2_
    obtain ⟨t_, ht_, et_⟩ := jrg1 (by omega) b3_ b4_
    rw [sp_failed0 z2_, ob_s, if_pos rfl, er2_, eb_r]
    dsimp only
    rw [ef_, et_, sq_put S2_ g hf_ ht_, ob_s, jn_n (a := f_) (by omega), jn_n (a := t_) (by omega)]
    by_cases y_ : yput L f_ t_ = jn 0
    · have y2_ := y_
      unfold yput at y2_
      by_cases q8_ : qf L f_ 8 = jn 0
      · rw [if_pos q8_] at y2_
        by_cases r9_ : jn (qt L t_).length < qo L t_
        · obtain ⟨K_, e3_, w3_, f3_⟩ := sq_moveTub S2_ g (by omega) hf_ ht_ q8_ r9_
          rw [if_pos y_, e3_, ob_s, ob_s, if_pos y_]
          exact ⟨_, rfl, fun b b1 b2 => by show K_ b = I b; rw [f3_ b (by omega)]; exact F2_ b b1 b2, Or.inr ⟨_, _, rfl, cP_54 p2_ (f3_ 54 (by omega)), w3_⟩⟩
        · rw [if_neg r9_] at y2_
          exact absurd y2_ (by decide)
      · rw [if_neg q8_] at y2_
        exact absurd y2_ (by decide)
    · obtain ⟨K_, e3_, f3_, x_⟩ := sp_told z2_ h6_
      rw [if_neg y_, e3_, ob_s, ob_s, if_neg y_]
      exact ⟨_, rfl, cF_tr F2_ (cF_54 f3_), Or.inl ⟨_, rfl, x_⟩⟩
theorem sp_wash (h : cP N A q I) (hA : cA N A I) (hN : N ≤ 500) (hs : qS L I (a + 7) (a + 1)) (g : qG L) (ha : a = 2 ∨ a = 28) : ∃ J, d_P_readWash a I = some J ∧ cF a I J ∧ cR N A a (aWash N A q L) J := by
  have g4_ := g.2.2.2.1
  have c_ : I (a + 1) 3 = jn (qT L) := hs.2.2.2.2.2.1
  obtain ⟨v_, J_, e_, fr_, A_, S_, w_⟩ := sp_numS (lo := jn 0) (hi := jn (qT L) - jn 1) h hA hN hs g ha
  unfold d_P_readWash aWash
  rw [c_, e_, ob_s]
  dsimp only
  rcases w_ with ⟨x_, ex_, fx_, n_⟩ | ⟨r_, er_, p_, _, b1_, b2_, z_⟩
  · rw [sp_num1 n_, ob_s, sp_failed1 n_, ob_s, if_neg (show ¬ jn 1 = jn 0 by decide), ex_]
    exact ⟨_, rfl, cF_54 fr_, Or.inl ⟨_, rfl, fx_⟩⟩
  obtain ⟨v2_, J2_, e2_, fr2_, A2_, S2_, w2_⟩ := sp_numS (lo := jn 0) (hi := jn 3) p_ A_ hN S_ g ha
  rw [e2_, ob_s, er_, eb_r]
  have F2_ : cF a I J2_ := cF_tr (cF_54 fr_) (cF_54 fr2_)
  dsimp only
  rcases w2_ with ⟨x_, ex_, fx_, n_⟩ | ⟨r2_, er2_, p2_, h6_, b3_, b4_, z2_⟩
  · rw [sp_failed1 n_, ob_s, if_neg (show ¬ jn 1 = jn 0 by decide), ex_]
    exact ⟨_, rfl, F2_, Or.inl ⟨_, rfl, fx_⟩⟩
  · obtain ⟨t_, ht_, et_⟩ := jrg1 (by omega) b1_ b2_
    obtain ⟨x2_, _, hx_, ex_⟩ := jrg (by omega) (by omega) b3_ b4_
    rw [sp_failed0 z2_, ob_s, if_pos rfl, er2_, eb_r]
    dsimp only
    rw [et_, sq_wash S2_ g ht_, ob_s, jn_n (a := t_) (by omega)]
    by_cases y_ : ywash L t_ v2_ = jn 0
    · obtain ⟨K_, e3_, w3_, f3_⟩ := sq_washTub S2_ g ht_ (x := v2_) ⟨x2_, by omega, ex_⟩
      rw [if_pos y_, e3_, ob_s, ob_s, if_pos y_]
      exact ⟨_, rfl, fun b b1 b2 => by show K_ b = I b; rw [f3_ b (by omega)]; exact F2_ b b1 b2, Or.inr ⟨_, _, rfl, cP_54 p2_ (f3_ 54 (by omega)), w3_⟩⟩
    · obtain ⟨K_, e3_, f3_, x_⟩ := sp_told z2_ h6_
      rw [if_neg y_, e3_, ob_s, ob_s, if_neg y_]
      exact ⟨_, rfl, cF_tr F2_ (cF_54 f3_), Or.inl ⟨_, rfl, x_⟩⟩
end LNC
