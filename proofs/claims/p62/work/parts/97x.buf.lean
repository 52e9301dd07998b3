/-! the text that is gathered, and what is told of it -/
def yby (x : Int32) (i : Nat) : Int32 := vp_nar .byte (((x >>> ((jn (24 - 8 * i)) &&& 31))).toInt8.toInt32)
def yvx (v : Nat → Int32) (b : Nat) (x : Int32) (n : Nat) (k : Nat) : Int32 := if k < b then v k else if k < b + n then yby x (k - b) else v k
def ycb (c q d : Nat) (I : z_H) (b : Nat) (v : Nat → Int32) : Prop := I c q = jn b ∧ ∀ k, k < b → I d k = v k
def yfr (c q d : Nat) (I J : z_H) : Prop := (∀ b, ¬ b = c → ¬ b = d → J b = I b) ∧ ∀ k, ¬ k = q → J c k = I c k
def ybst (c q d b : Nat) (x : Int32) (i : Nat) (H : z_H) : z_H := ev_u2 (ev_u2 H d (b + i) (yby x i)) c q (jn (b + i + 1))
section BUF
variable {n B : Nat} {I J K : z_H}
theorem yfr_t {c q d : Nat} (h : yfr c q d I J) (h2 : yfr c q d J K) : yfr c q d I K := ⟨fun b b1 b2 => (h2.1 b b1 b2).trans (h.1 b b1 b2), fun k hk => (h2.2 k hk).trans (h.2 k hk)⟩
theorem ybs_all {c q d : Nat} (hcd : ¬ c = d) {b : Nat} {v : Nat → Int32} (x : Int32) (h : ycb c q d I b v) : ∀ m, ycb c q d (jfd (ybst c q d b x) I m) (b + m) (yvx v b x m) ∧ yfr c q d I (jfd (ybst c q d b x) I m)
  | 0 => ⟨⟨h.1, fun k hk => by
      have hk2_ : k < b := hk
      show I d k = _
      unfold yvx
      rw [if_pos hk2_]
      exact h.2 k hk2_⟩, fun _ _ _ => rfl, fun _ _ => rfl⟩
  | m + 1 => by
    obtain ⟨⟨h1_, h2_⟩, h3_, h4_⟩ := ybs_all hcd x h m
    rw [jfd_s]
    refine ⟨⟨ju_at .., fun k hk => ?_⟩, fun b2 b2c b2d => ?_, fun k hk => ?_⟩
    · show ev_u2 (ev_u2 _ d (b + m) (yby x m)) c q _ d k = _
      rw [ju_na (fun q_ => hcd q_.symm)]
      by_cases e_ : k = b + m
      · rw [e_, ju_at]
        unfold yvx
        rw [if_neg (by omega), if_pos (by omega), Nat.add_sub_cancel_left]
      · rw [ju_ne (fun q_ => e_ q_.2), h2_ k (by omega)]
        unfold yvx
        by_cases k_ : k < b
        · rw [if_pos k_, if_pos k_]
        · rw [if_neg k_, if_neg k_, if_pos (by omega), if_pos (by omega)]
    · show ev_u2 (ev_u2 _ d (b + m) (yby x m)) c q _ b2 = _
      rw [ju_na b2c, ju_na b2d]
      exact h3_ b2 b2c b2d
    · show ev_u2 (ev_u2 _ d (b + m) (yby x m)) c q _ c k = _
      rw [ju_ne (fun q_ => hk q_.2), ju_na hcd]
      exact h4_ k hk
def ypc (i : Nat) : Int32 := if i < 4 then jn (24 - 8 * i) else jg 8
def ypm (i : Nat) : Int32 := if i < 4 then jn (3 - i) else jg 1
theorem sq_store {b : Nat} {v : Nat → Int32} (x : Int32) (h : ycb 0 1 1 I b v) (hb : b + 4 ≤ 500) : ∃ J, d_F_store x I = some J ∧ ycb 0 1 1 J (b + 4) (yvx v b x 4) ∧ yfr 0 1 1 I J := by
  have a_ := ybs_all (by omega) x h
  refine ⟨jfd (ybst 0 1 1 b x) I 4, ?_, a_ 4⟩
  have e_ : z_it (d_F_store_2 x) z_F (ypc 0, I) = some (jg 8, jfd (ybst 0 1 1 b x) I 4) := by
    refine z_for0 (fun i => (ypc i, jfd (ybst 0 1 1 b x) I i)) 4 (by omega) (fun i hi => ?_) ?_
    · unfold d_F_store_2
      have c_ : jfd (ybst 0 1 1 b x) I i 0 1 = jn (b + i) := (a_ i).1.1
      have p_ : ypc i = jn (24 - 8 * i) := if_pos hi
      have p2_ : ypc i + jg 8 = ypc (i + 1) := by
        have i_ : i = 0 ∨ i = 1 ∨ i = 2 ∨ i = 3 := by omega
        rcases i_ with rfl | rfl | rfl | rfl <;> decide
      have p3_ : ¬ ypc i < jn 0 := by rw [p_, jn_lt (by omega) (by omega)]; omega
      dsimp only
      rw [if_neg p3_, if_pos (show z_in (jfd (ybst 0 1 1 b x) I i 0 1) 500 by rw [c_, jn_in (by omega)]; omega), ob_s, c_, jn_n (by omega)]
      show some (Sum.inl (ypc i + jg 8, ev_u2 (ev_u2 _ 1 (b + i) _) 0 1 (ev_u2 _ 1 (b + i) _ 0 1 + jn 1))) = _
      rw [p2_, ju_na (I := jfd (ybst 0 1 1 b x) I i) (show ¬ 0 = 1 by omega), c_, jn_add, p_]
      rfl
    · show d_F_store_2 x (jg 8, _) = _
      unfold d_F_store_2
      exact if_pos (show jg 8 < jn 0 by decide)
  unfold d_F_store
  rw [show jn 24 = ypc 0 by decide, e_, ob_s]
theorem mq_four {b : Nat} {v : Nat → Int32} (x : Int32) (h : ycb 241 9 247 I b v) (hb : b + 4 ≤ 500) : ∃ J, d_M_four x I = some J ∧ ycb 241 9 247 J (b + 4) (yvx v b x 4) ∧ yfr 241 9 247 I J := by
  have a_ := ybs_all (by omega) x h
  refine ⟨jfd (ybst 241 9 247 b x) I 4, ?_, a_ 4⟩
  have e_ : z_it (d_M_four_2 x) z_F (ypm 0, I) = some (jg 1, jfd (ybst 241 9 247 b x) I 4) := by
    refine z_for0 (fun i => (ypm i, jfd (ybst 241 9 247 b x) I i)) 4 (by omega) (fun i hi => ?_) ?_
    · unfold d_M_four_2
      have c_ : jfd (ybst 241 9 247 b x) I i 241 9 = jn (b + i) := (a_ i).1.1
      have p_ : ypm i = jn (3 - i) := if_pos hi
      have p2_ : ypm i + jg 1 = ypm (i + 1) := by
        have i_ : i = 0 ∨ i = 1 ∨ i = 2 ∨ i = 3 := by omega
        rcases i_ with rfl | rfl | rfl | rfl <;> decide
      have p4_ : jn 8 * ypm i = jn (24 - 8 * i) := by rw [p_, jn_mul]; congr 1; omega
      have p3_ : ¬ ypm i < jn 0 := by rw [p_, jn_lt (by omega) (by omega)]; omega
      dsimp only
      rw [if_neg p3_, if_pos (show z_in (jfd (ybst 241 9 247 b x) I i 241 9) 500 by rw [c_, jn_in (by omega)]; omega), ob_s, c_, jn_n (by omega)]
      show some (Sum.inl (ypm i + jg 1, ev_u2 (ev_u2 _ 247 (b + i) _) 241 9 (ev_u2 _ 247 (b + i) _ 241 9 + jn 1))) = _
      rw [p2_, ju_na (I := jfd (ybst 241 9 247 b x) I i) (show ¬ 241 = 247 by omega), c_, jn_add, p4_]
      rfl
    · show d_M_four_2 x (jg 1, _) = _
      unfold d_M_four_2
      exact if_pos (show jg 1 < jn 0 by decide)
  unfold d_M_four
  rw [show jn 3 = ypm 0 by decide, e_, ob_s]
theorem Inv_g (h : Inv n B I) (hb : IvB J) (hp : IvP J) (ht : IvT J) (f : ∀ b, 2 ≤ b → b < 239 → ¬ b = n + 25 → J b = I b) (f04 : J 0 4 = I 0 4) (f6 : J 241 6 = I 241 6) (f7 : J 241 7 = I 241 7) (f2 : ∀ k, k < 173 → J 242 k = I 242 k) (f4 : J 244 = I 244) (f5 : J 245 = I 245) (fh : J 246 = I 246) : Inv n B J := by
  obtain ⟨hn_, _, _, _, s_⟩ := h
  refine ⟨hn_, hb, hp, ht, ?_⟩
  rcases s_ with ⟨n1_, n2_, n3_, n4_, n5_⟩ | ⟨L_, U_, V_, l1_, l2_, g_, gu_, gv_, qs_, qm_, hu_, mu_, hv_, mv_⟩
  · exact Or.inl ⟨by rw [f04]; exact n1_, by rw [f6]; exact n2_, by rw [f 55 (by omega) (by omega) (by omega)]; exact n3_, by rw [f7]; exact n4_, fun k hk => ⟨by rw [f 238 (by omega) (by omega) (by omega)]; exact (n5_ k hk).1, by rw [fh]; exact (n5_ k hk).2⟩⟩
  · exact Or.inr ⟨L_, U_, V_, by rw [f04]; exact l1_, by rw [f6]; exact l2_, g_, gu_, gv_, qS_out qs_ (fun b b1 b2 => f b (by omega) (by omega) (by omega)) (fun b b1 b2 => f b (by omega) (by omega) (by omega)) g_, qM_cg qm_ g_ f2, hU_out hu_ gu_ (fun b b1 b2 => f b (by omega) (by omega) (by omega)) (fun b b1 b2 => f b (by omega) (by omega) (by omega)), mU_out mu_ f7 f4, hV_out hv_ gv_ (fun b b1 b2 => f b (by omega) (by omega) (by omega)) (fun b b1 b2 => f b (by omega) (by omega) (by omega)), mV_out mv_ f5 fh⟩
theorem op_append (h : Inv n B I) (x1 x2 x3 x4 x5 : Int32) : ∃ r J1 J, d_F_append x1 x2 x3 x4 x5 I = some (r, J1) ∧ d_M_append x1 x2 x3 x4 x5 J1 = some (r, J) ∧ J 241 0 = jn 0 ∧ Inx n B I J1 J := by
  have h_ := h
  obtain ⟨hn_, ⟨b_, hb_, hc_, hm_, he_⟩, ⟨hp1_, hp2_⟩, ⟨w_, ⟨t1_, t2_, t3_⟩, ⟨t4_, t5_, t6_⟩⟩, _⟩ := h
  by_cases c_ : b_ ≤ 480
  · have C0_ : ycb 0 1 1 I b_ (I 1) := ⟨hc_, fun _ _ => rfl⟩
    obtain ⟨J1_, e1_, C1_, F1_⟩ := sq_store x1 C0_ (by omega)
    obtain ⟨J2_, e2_, C2_, F2_⟩ := sq_store x2 C1_ (by omega)
    obtain ⟨J3_, e3_, C3_, F3_⟩ := sq_store x3 C2_ (by omega)
    obtain ⟨J4_, e4_, C4_, F4_⟩ := sq_store x4 C3_ (by omega)
    obtain ⟨J5_, e5_, C5_, F5_⟩ := sq_store x5 C4_ (by omega)
    have F_ := yfr_t F1_ (yfr_t F2_ (yfr_t F3_ (yfr_t F4_ F5_)))
    have M0_ : ycb 241 9 247 (ev_u2 J5_ 241 0 (jn 0)) b_ (I 1) := ⟨by
      rw [ju_ne (by omega), F_.1 241 (by omega) (by omega)]
      exact hm_, fun k hk => by
      rw [ju_na (by omega), F_.1 247 (by omega) (by omega)]
      exact (he_ k hk).symm⟩
    obtain ⟨K1_, d1_, M1_, G1_⟩ := mq_four x1 M0_ (by omega)
    obtain ⟨K2_, d2_, M2_, G2_⟩ := mq_four x2 M1_ (by omega)
    obtain ⟨K3_, d3_, M3_, G3_⟩ := mq_four x3 M2_ (by omega)
    obtain ⟨K4_, d4_, M4_, G4_⟩ := mq_four x4 M3_ (by omega)
    obtain ⟨K5_, d5_, M5_, G5_⟩ := mq_four x5 M4_ (by omega)
    have G_ := yfr_t G1_ (yfr_t G2_ (yfr_t G3_ (yfr_t G4_ G5_)))
    have k0_ : K5_ 241 0 = jn 0 := by rw [G_.2 0 (by omega), ju_at]
    have o_ : ∀ b, ¬ b = 0 → ¬ b = 1 → ¬ b = 241 → ¬ b = 247 → K5_ b = I b := fun b b1 b2 b3 b4 => by rw [G_.1 b b3 b4, ju_na b3, F_.1 b b1 b2]
    have o0_ : ∀ k, ¬ k = 1 → K5_ 0 k = I 0 k := fun k hk => by rw [G_.1 0 (by omega) (by omega), ju_na (by omega), F_.2 k hk]
    have o4_ : ∀ k, ¬ k = 0 → ¬ k = 9 → K5_ 241 k = I 241 k := fun k hk hk2 => by rw [G_.2 k hk2, ju_ne (fun q_ => hk q_.2), F_.1 241 (by omega) (by omega)]
    have s_ := evS
    refine ⟨jn (b_ + 4 + 4 + 4 + 4 + 4), J5_, K5_, ?_, ?_, k0_, Inv_g h_ ⟨b_ + 4 + 4 + 4 + 4 + 4, by omega, ?_, M5_.1, fun k hk => ?_⟩ ⟨?_, ?_⟩ ⟨w_, ⟨?_, t2_, fun i c hc => ?_⟩, ⟨?_, t5_, fun i c hc => ?_⟩⟩ (fun b b1 b2 _ => o_ b (by omega) (by omega) (by omega) (by omega)) (o0_ 4 (by omega)) (o4_ 6 (by omega) (by omega)) (o4_ 7 (by omega) (by omega)) (fun k _ => by rw [o_ 242 (by omega) (by omega) (by omega) (by omega)]) (o_ 244 (by omega) (by omega) (by omega) (by omega)) (o_ 245 (by omega) (by omega) (by omega) (by omega)) (o_ 246 (by omega) (by omega) (by omega) (by omega)), o_ ev_S (by omega) (by omega) (by omega) (by omega), F_.1 ev_S (by omega) (by omega)⟩
    · unfold d_F_append
      rw [if_neg (show ¬ jn 500 < I 0 1 + jn 20 by rw [hc_, jn_add, jn_lt (by omega) (by omega)]; omega), e1_, ob_s, e2_, ob_s, e3_, ob_s, e4_, ob_s, e5_, ob_s, C5_.1]
    · unfold d_M_append
      rw [if_neg (show ¬ jn 480 < ev_u2 J5_ 241 0 (jn 0) 241 9 by rw [M0_.1, jn_lt (by omega) (by omega)]; omega), d1_, ob_s, d2_, ob_s, d3_, ob_s, d4_, ob_s, d5_, ob_s, M5_.1]
    · rw [G_.1 0 (by omega) (by omega), ju_na (by omega)]
      exact C5_.1
    · rw [M5_.2 k hk, G_.1 1 (by omega) (by omega), ju_na (by omega)]
      exact C5_.2 k hk
    · rw [o0_ 2 (by omega), o4_ 10 (by omega) (by omega)]
      exact hp1_
    · rw [o0_ 3 (by omega), o4_ 11 (by omega) (by omega)]
      exact hp2_
    · rw [o_ 239 (by omega) (by omega) (by omega) (by omega)]
      exact t1_
    · rw [o_ 240 (by omega) (by omega) (by omega) (by omega)]
      exact t3_ i c hc
    · rw [o4_ 19 (by omega) (by omega)]
      exact t4_
    · rw [o_ 249 (by omega) (by omega) (by omega) (by omega)]
      exact t6_ i c hc
  · refine ⟨jg 1, I, ev_u2 I 241 0 (jn 0), ?_, ?_, ju_at .., Inx_k h_ _⟩
    · unfold d_F_append
      rw [if_pos (show jn 500 < I 0 1 + jn 20 by rw [hc_, jn_add, jn_lt (by omega) (by omega)]; omega)]
    · unfold d_M_append
      rw [if_pos (show jn 480 < ev_u2 I 241 0 (jn 0) 241 9 by rw [ju_ne (by omega), hm_, jn_lt (by omega) (by omega)]; omega)]
theorem op_parseError (h : Inv n B I) : ∃ r J, d_F_parseError I = some r ∧ d_M_parseError I = some (r, J) ∧ J 241 0 = jn 0 ∧ Inw n B I J := by
  refine ⟨I 0 2, ev_u2 I 241 0 (jn 0), rfl, ?_, ju_at .., Inw_k h _⟩
  unfold d_M_parseError
  rw [ju_ne (by omega), h.2.2.1.1]
theorem op_errorPosition (h : Inv n B I) : ∃ r J, d_F_errorPosition I = some r ∧ d_M_errorPosition I = some (r, J) ∧ J 241 0 = jn 0 ∧ Inw n B I J := by
  refine ⟨I 0 3, ev_u2 I 241 0 (jn 0), rfl, ?_, ju_at .., Inw_k h _⟩
  unfold d_M_errorPosition
  rw [ju_ne (by omega), h.2.2.1.2]
theorem op_buffered (h : Inv n B I) : ∃ r J, d_F_buffered I = some r ∧ d_M_buffered I = some (r, J) ∧ J 241 0 = jn 0 ∧ Inw n B I J := by
  obtain ⟨b_, _, hc_, hm_, _⟩ := h.2.1
  refine ⟨I 0 1, ev_u2 I 241 0 (jn 0), rfl, ?_, ju_at .., Inw_k h _⟩
  unfold d_M_buffered
  rw [ju_ne (by omega), hc_, hm_]
theorem op_undoable (h : Inv n B I) : ∃ r J, d_F_undoable I = some r ∧ d_M_undoable I = some (r, J) ∧ J 241 0 = jn 0 ∧ Inw n B I J := by
  refine ⟨I 55 0, ev_u2 I 241 0 (jn 0), rfl, ?_, ju_at .., Inw_k h _⟩
  unfold d_M_undoable
  rw [ju_ne (by omega)]
  rcases h.2.2.2.2 with ⟨_, _, a_, b_, _⟩ | ⟨L_, U_, V_, _, _, _, _, _, _, _, a_, b_, _⟩
  · rw [a_, b_]
  · rw [a_.1, b_.1]
theorem op_textByte (h : Inv n B I) (x1 : Int32) : ∃ r v J, d_F_textByte x1 I = some r ∧ d_M_textByte x1 I = some (v, J) ∧ opR [(1, 1)] r v J ∧ Inw n B I J := by
  obtain ⟨w_, ⟨t1_, t2_, t3_⟩, ⟨t4_, _, t6_⟩⟩ := h.2.2.2.1
  have n10_ : ¬ jn 1 = jn 0 := by decide
  by_cases x_ : jlt x1 w_.length
  · have x2_ := x_
    have y_ := jltY (by omega) x_
    obtain ⟨k_, hk_, rfl⟩ := x_
    have g_ : w_[k_]? = some w_[k_] := List.getElem?_eq_getElem hk_
    refine ⟨.inr (jn w_[k_]), jn w_[k_], ev_u2 I 241 0 (jn 0), ?_, ?_, ⟨rfl, ju_at ..⟩, Inw_k h _⟩
    · unfold d_F_textByte
      rw [if_neg y_.1, if_pos (show jn k_ < I 239 0 by rw [t1_]; exact y_.2), if_pos (show z_in (jn k_) 100 by rw [jn_in (by omega)]; omega), jn_n (by omega), t3_ k_ _ g_]
    · unfold d_M_textByte
      rw [t4_, m_gY (by omega) x2_, ob_s, m_mayY, ob_s, if_neg n10_, if_pos (show z_in (jn k_) 60 by rw [jn_in (by omega)]; omega), ob_s, jn_n (by omega)]
      show some (ev_u2 I 241 0 (jn 0) 249 k_, _) = _
      rw [ju_na (by omega), t6_ k_ _ g_]
  · refine ⟨.inl 1, jn 0, ev_u2 I 241 0 (jn 1), ?_, ?_, ⟨1, by decide, ju_at ..⟩, Inw_k h _⟩
    · unfold d_F_textByte
      rcases jltN (by omega) x_ with k_ | k_
      · rw [if_pos k_]
      · by_cases a_ : x1 < jn 0
        · rw [if_pos a_]
        · rw [if_neg a_, if_neg (show ¬ x1 < I 239 0 by rw [t1_]; exact k_)]
    · unfold d_M_textByte
      rw [t4_, m_gN (by omega) x_, ob_s, m_may0, ob_s, if_pos rfl, ob_s]
/-! the texts -/
theorem Inv_tx {w : List Nat} {c : Int32} (h : Inv n B I) (t : tT w I J) (m : tM w (ev_u2 J 241 0 c) K) : Inx n B I J K := by
  have h_ := h
  obtain ⟨hn_, ⟨b_, hb_, hc_, hm_, he_⟩, ⟨hp1_, hp2_⟩, _, _⟩ := h
  obtain ⟨⟨t1_, t2_, t3_⟩, t4_⟩ := t
  obtain ⟨w2_, m4_, m5_⟩ := m
  have o_ : ∀ b, ¬ b = 239 → ¬ b = 240 → ¬ b = 241 → ¬ b = 249 → K b = I b := fun b b1 b2 b3 b4 => by rw [m4_ b b3 b4, ju_na b3, t4_ b b1 b2]
  have o4_ : ∀ k, ¬ k = 0 → ¬ k = 19 → K 241 k = I 241 k := fun k hk hk2 => by rw [m5_ k hk2, ju_ne (fun q_ => hk q_.2), t4_ 241 (by omega) (by omega)]
  have s_ := evS
  refine ⟨Inv_g h_ ⟨b_, hb_, ?_, ?_, fun k hk => ?_⟩ ⟨?_, ?_⟩ ⟨w, ⟨?_, t2_, fun i c hc => ?_⟩, w2_⟩ (fun b b1 b2 _ => o_ b (by omega) (by omega) (by omega) (by omega)) (by rw [o_ 0 (by omega) (by omega) (by omega) (by omega)]) (o4_ 6 (by omega) (by omega)) (o4_ 7 (by omega) (by omega)) (fun k _ => by rw [o_ 242 (by omega) (by omega) (by omega) (by omega)]) (o_ 244 (by omega) (by omega) (by omega) (by omega)) (o_ 245 (by omega) (by omega) (by omega) (by omega)) (o_ 246 (by omega) (by omega) (by omega) (by omega)), o_ ev_S (by omega) (by omega) (by omega) (by omega), t4_ ev_S (by omega) (by omega)⟩
  · rw [o_ 0 (by omega) (by omega) (by omega) (by omega)]
    exact hc_
  · rw [o4_ 9 (by omega) (by omega)]
    exact hm_
  · rw [o_ 1 (by omega) (by omega) (by omega) (by omega), o_ 247 (by omega) (by omega) (by omega) (by omega)]
    exact he_ k hk
  · rw [o_ 0 (by omega) (by omega) (by omega) (by omega), o4_ 10 (by omega) (by omega)]
    exact hp1_
  · rw [o_ 0 (by omega) (by omega) (by omega) (by omega), o4_ 11 (by omega) (by omega)]
    exact hp2_
  · rw [m4_ 239 (by omega) (by omega), ju_na (by omega)]
    exact t1_
  · rw [m4_ 240 (by omega) (by omega), ju_na (by omega)]
    exact t3_ i c hc
theorem tM_q {w : List Nat} {c : Int32} (m : tM w (ev_u2 J 241 0 c) K) : K 241 0 = c := by rw [m.2.2 0 (by omega), ju_at]
/-- the reference's laundry, behind the class's text -/
theorem tT_M {w : List Nat} {L : LL} (t : tT w I J) (m : qM L B (I 242)) (c : Int32) : J 241 = I 241 ∧ qM L B (J 242) ∧ qM L B (ev_u2 J 241 0 c 242) := by
  have e_ : J 242 = I 242 := t.2 242 (by omega) (by omega)
  exact ⟨t.2 241 (by omega) (by omega), by rw [e_]; exact m, by rw [ju_na (by omega), e_]; exact m⟩
theorem op_writeFlag (h : Inv n B I) (x1 : Int32) : ∃ r J1 v J, d_F_writeFlag n x1 I = some (r, J1) ∧ d_M_writeFlag x1 J1 = some (v, J) ∧ opR [(0, 1), (1, 2)] r v J ∧ Inx n B I J1 J := by
  have h_ := h
  have n10_ : ¬ jn 1 = jn 0 := by decide
  obtain ⟨hn_, _, _, _, s_⟩ := h
  rcases s_ with ⟨a_, b_, _⟩ | ⟨L_, U_, V_, a_, b_, g_, _, _, S_, M_, _⟩
  · exact ⟨.inl 0, I, jn 0, ev_u2 I 241 0 (jn 1), by simp only [d_F_writeFlag, f_f0 (n := n) a_, ob_s], by simp only [d_M_writeFlag, m_mF0 b_, ob_s, eq_self, if_true], ⟨1, by decide, ju_at ..⟩, Inx_k h_ _⟩
  have F_ := g_.1
  by_cases hx_ : jlt x1 (qF L_)
  rotate_left
  · exact ⟨.inl 1, I, jn 0, ev_u2 I 241 0 (jn 2), by simp only [d_F_writeFlag, f_fN a_ S_ g_ hx_, ob_s], by simp only [d_M_writeFlag, m_mFN b_ M_ g_ hx_, ob_s, eq_self, if_true], ⟨2, by decide, ju_at ..⟩, Inx_k h_ _⟩
  have hx2_ := hx_
  obtain ⟨k_, hk_, rfl⟩ := hx_
  obtain ⟨J1_, e1_, T_⟩ := sq_tellFlag S_ g_ (by omega) hk_
  obtain ⟨i1_, M1_, M2_⟩ := tT_M T_ M_ (jn 0)
  obtain ⟨K_, e2_, T2_⟩ := mq_tellFlag M2_ g_ hk_
  refine ⟨.inr (jn (yfl L_ k_ (qC L_)).length), J1_, jn (yfl L_ k_ (qC L_)).length, K_, ?_, ?_, ⟨rfl, tM_q T2_⟩, Inv_tx h_ T_ T2_⟩
  · unfold d_F_writeFlag
    rw [f_fY a_ S_ g_ hx2_, ob_s]
    show (if z_in (jn k_) 12 then _ else _) = _
    rw [if_pos (sq_in g_ hk_), jn_n (by omega), e1_, ob_s, T_.1.1]
  · unfold d_M_writeFlag
    rw [m_mFY (by rw [i1_]; exact b_) M1_ g_ hx2_, ob_s, if_neg n10_]
    exact e2_
theorem op_writeTub (h : Inv n B I) (x1 : Int32) : ∃ r J1 v J, d_F_writeTub n x1 I = some (r, J1) ∧ d_M_writeTub x1 J1 = some (v, J) ∧ opR [(0, 1), (1, 2)] r v J ∧ Inx n B I J1 J := by
  have h_ := h
  have n10_ : ¬ jn 1 = jn 0 := by decide
  obtain ⟨hn_, _, _, _, s_⟩ := h
  rcases s_ with ⟨a_, b_, _⟩ | ⟨L_, U_, V_, a_, b_, g_, _, _, S_, M_, _⟩
  · exact ⟨.inl 0, I, jn 0, ev_u2 I 241 0 (jn 1), by simp only [d_F_writeTub, f_u0 (n := n) a_, ob_s], by simp only [d_M_writeTub, m_mU0 b_, ob_s, eq_self, if_true], ⟨1, by decide, ju_at ..⟩, Inx_k h_ _⟩
  by_cases hx_ : jlt x1 (qT L_)
  rotate_left
  · exact ⟨.inl 1, I, jn 0, ev_u2 I 241 0 (jn 2), by simp only [d_F_writeTub, f_uN a_ S_ g_ hx_, ob_s], by simp only [d_M_writeTub, m_mUN b_ M_ g_ hx_, ob_s, eq_self, if_true], ⟨2, by decide, ju_at ..⟩, Inx_k h_ _⟩
  have hx2_ := hx_
  obtain ⟨k_, hk_, rfl⟩ := hx_
  obtain ⟨J1_, e1_, T_⟩ := sq_tellTub S_ g_ (by omega) (by omega) hk_
  obtain ⟨i1_, M1_, M2_⟩ := tT_M T_ M_ (jn 0)
  obtain ⟨K_, e2_, T2_⟩ := mq_tellTub M2_ g_ hk_
  refine ⟨.inr (jn (yhyp (ytl (qt L_ k_) (qt L_ k_).length)).length), J1_, jn (yhyp (ytl (qt L_ k_) (qt L_ k_).length)).length, K_, ?_, ?_, ⟨rfl, tM_q T2_⟩, Inv_tx h_ T_ T2_⟩
  · unfold d_F_writeTub
    rw [f_uY a_ S_ g_ hx2_, ob_s]
    show (d_T_tellTub (n + 7) (jn k_) I).bind _ = _
    rw [e1_, ob_s, T_.1.1]
  · unfold d_M_writeTub
    rw [m_mUY (by rw [i1_]; exact b_) M1_ g_ hx2_, ob_s, if_neg n10_]
    exact e2_
theorem op_writeNation (h : Inv n B I) (x1 : Int32) : ∃ r J1 v J, d_F_writeNation n x1 I = some (r, J1) ∧ d_M_writeNation x1 J1 = some (v, J) ∧ opR [(0, 1), (1, 2)] r v J ∧ Inx n B I J1 J := by
  have h_ := h
  have n10_ : ¬ jn 1 = jn 0 := by decide
  obtain ⟨hn_, _, _, _, s_⟩ := h
  rcases s_ with ⟨a_, b_, _⟩ | ⟨L_, U_, V_, a_, b_, g_, _, _, S_, M_, _⟩
  · exact ⟨.inl 0, I, jn 0, ev_u2 I 241 0 (jn 1), by simp only [d_F_writeNation, f_n0 (n := n) a_, ob_s], by simp only [d_M_writeNation, m_n0 b_, ob_s, b_, m_two0, eq_self, if_true], ⟨1, by decide, ju_at ..⟩, Inx_k h_ _⟩
  by_cases hx_ : jlt x1 (qN L_)
  rotate_left
  · exact ⟨.inl 1, I, jn 0, ev_u2 I 241 0 (jn 2), by simp only [d_F_writeNation, f_nN a_ S_ g_ hx_, ob_s], by simp only [d_M_writeNation, m_nN b_ M_ g_ hx_, ob_s, b_, m_two1, eq_self, if_true], ⟨2, by decide, ju_at ..⟩, Inx_k h_ _⟩
  have hx2_ := hx_
  obtain ⟨k_, hk_, rfl⟩ := hx_
  obtain ⟨J1_, e1_, T_⟩ := sq_tellNation (n := k_) S_ g_ (by omega) (by omega)
  obtain ⟨i1_, M1_, M2_⟩ := tT_M T_ M_ (jn 0)
  obtain ⟨K_, e2_, T2_⟩ := mq_tellNation (n := k_) M2_ g_
  have b2_ : J1_ 241 6 = jn 1 := by rw [i1_]; exact b_
  refine ⟨.inr (jn (yhyp (ynl L_ k_ (qF L_))).length), J1_, jn (yhyp (ynl L_ k_ (qF L_))).length, K_, ?_, ?_, ⟨rfl, tM_q T2_⟩, Inv_tx h_ T_ T2_⟩
  · unfold d_F_writeNation
    rw [f_nY a_ S_ g_ hx2_, ob_s]
    show (d_T_tellNation (n + 7) (jn k_) I).bind _ = _
    rw [e1_, ob_s, T_.1.1]
  · unfold d_M_writeNation
    rw [m_nY b2_ M1_ g_ hx2_, ob_s, b2_, m_twoY, ob_s, if_neg n10_]
    exact e2_
theorem op_writeLine (h : Inv n B I) : ∃ r J1 v J, d_F_writeLine n I = some (r, J1) ∧ d_M_writeLine J1 = some (v, J) ∧ opR [(0, 1)] r v J ∧ Inx n B I J1 J := by
  have h_ := h
  have n10_ : ¬ jn 1 = jn 0 := by decide
  obtain ⟨hn_, _, _, _, s_⟩ := h
  rcases s_ with ⟨a_, b_, _⟩ | ⟨L_, U_, V_, a_, b_, g_, _, _, S_, M_, _⟩
  · exact ⟨.inl 0, I, jn 0, ev_u2 I 241 0 (jn 1), by simp only [d_F_writeLine, f_t0 a_, ob_s], by simp only [d_M_writeLine, m_look0 b_, ob_s, eq_self, if_true], ⟨1, by decide, ju_at ..⟩, Inx_k h_ _⟩
  obtain ⟨J1_, e1_, T_⟩ := sq_tellLine S_ g_ (by omega) (by omega)
  obtain ⟨i1_, M1_, M2_⟩ := tT_M T_ M_ (jn 0)
  obtain ⟨K_, e2_, T2_⟩ := mq_tellLine M2_ g_
  refine ⟨.inr (jn (yll L_ (qP L_)).length), J1_, jn (yll L_ (qP L_)).length, K_, ?_, ?_, ⟨rfl, tM_q T2_⟩, Inv_tx h_ T_ T2_⟩
  · unfold d_F_writeLine
    rw [f_t1 a_, ob_s]
    show (d_T_tellLine (n + 7) (I (n + 1) 0) I).bind _ = _
    rw [S_.2.2.1, e1_, ob_s, T_.1.1]
  · unfold d_M_writeLine
    rw [m_lookY (by rw [i1_]; exact b_), ob_s, if_neg n10_]
    exact e2_
end BUF
