/-! a nation's flags handed over, on both sides -/
def Wgo (L : LL) (n : Nat) : Nat → Nat → Int32 := fun g k => if qf L g 0 = jn n then (if k = 8 then jn 3 else if k = 9 then jg 1 else qf L g k) else qf L g k
def ypd (L : LL) (n : Nat) : Int32 := ypay L n (qs L 0) * yof L n
def Lpd (L : LL) (n : Nat) : LL := ls (ls L 2 (qs L 2 + ypd L n)) 3 (qs L 3 + ((qn L n 1 * yof L n) - ypd L n))
def Lhd (L : LL) (n : Nat) : LL := ln (ln (Lpd L n) n 3 (jn 1)) n 4 (ylate L n (qs L 0))
def Lhov (L : LL) (n : Nat) : LL := lq (Lhd L n) (Wgo L n)
theorem hov_in {L : LL} {n a k : Nat} (h : qf L a 0 = jn n) : qf (Lhov L n) a k = if k = 8 then jn 3 else if k = 9 then jg 1 else qf L a k := if_pos h
theorem hov_out {L : LL} {n a k : Nat} (h : ¬ qf L a 0 = jn n) : qf (Lhov L n) a k = qf L a k := if_neg h
theorem hov_k {L : LL} {n a k : Nat} (h8 : ¬ k = 8) (h9 : ¬ k = 9) : qf (Lhov L n) a k = qf L a k := by
  by_cases h_ : qf L a 0 = jn n
  · rw [hov_in h_, if_neg h8, if_neg h9]
  · exact hov_out h_
theorem jmx_0 {y : Int32} : ¬ z_mx (jn 0) y = jg 1 := by
  unfold z_mx
  by_cases h_ : jn 0 < y
  · rw [if_pos h_]
    intro q_
    rw [q_, jn_lg (by omega) (by omega)] at h_
    exact h_
  · rw [if_neg h_, jn_ng (by omega) (by omega) (by omega)]
    exact fun q_ => q_
theorem qG_hov {L : LL} (g : qG L) {n : Nat} (hn : n < qN L) (h0 : ∀ f, f < qF L → qf L f 0 = jn n → qf L f 8 = jn 0) : qG (Lhov L n) := by
  have n01_ : ¬ jn 0 = jn 1 := by decide
  have n31_ : ¬ jn 3 = jn 1 := by decide
  have n32_ : ¬ jn 3 = jn 2 := by decide
  obtain ⟨g1_, g2_, g3_, g4_, g5_, g6_, g7_, g8_, g9_, ga_⟩ := g
  refine ⟨g1_, g2_, g3_, g4_, g5_, fun a ha => ?_, fun m hm => ?_, fun v hv => ?_, ?_, fun a c ha hc => ?_⟩
  · obtain ⟨q0_, q1_, q2_, q3_, q4_, q5_, q6_, q7_, q8_⟩ := g6_ a ha
    unfold qgf
    rw [hov_k (by omega) (by omega), hov_k (by omega) (by omega), hov_k (by omega) (by omega), hov_k (by omega) (by omega), hov_k (by omega) (by omega), hov_k (by omega) (by omega), hov_k (by omega) (by omega), hov_k (by omega) (by omega)]
    refine ⟨q0_, q1_, q2_, q3_, q4_, q5_, q6_, q7_, ?_⟩
    by_cases e_ : qf L a 0 = jn n
    · rw [hov_in e_, hov_in e_]
      exact Or.inr (Or.inr (Or.inr ⟨rfl, rfl⟩))
    · rw [hov_out e_, hov_out e_]
      exact q8_
  · obtain ⟨k0_, k1_, k2_, k3_⟩ := g7_ m hm
    unfold qgn
    show jlt (qn (Lhd L n) m 0) 100 ∧ jlt (qn (Lhd L n) m 1) 100 ∧ jlt (qn (Lhd L n) m 2) 10 ∧ (qn (Lhd L n) m 3 = jn 0 ∨ (qn (Lhd L n) m 3 = jn 1 ∧ ¬ qn (Lhd L n) m 4 = jg 1))
    unfold Lhd
    rw [ln_ne (by omega), ln_ne (by omega), ln_ne (by omega), ln_ne (by omega), ln_ne (by omega), ln_ne (by omega), ln_ne (k := 4) (j := 3) (by omega)]
    refine ⟨k0_, k1_, k2_, ?_⟩
    by_cases e_ : m = n
    · rw [e_, ln_at, ln_at]
      exact Or.inr ⟨rfl, jmx_0⟩
    · rw [ln_ne (fun q_ => e_ q_.1), ln_ne (fun q_ => e_ q_.1), ln_ne (fun q_ => e_ q_.1)]
      exact k3_
  · obtain ⟨⟨m_, hm_, em_, lm_⟩, q1_, q2_⟩ := g8_ v hv
    refine ⟨⟨m_, hm_, em_, lm_⟩, q1_, fun a => ?_⟩
    show a ∈ qt L v ↔ (a < qF L ∧ qf (Lhov L n) a 8 = jn 1 ∧ qf (Lhov L n) a 9 = jn v)
    rw [q2_ a]
    by_cases e_ : qf L a 0 = jn n
    · rw [hov_in e_, if_pos rfl]
      exact ⟨fun k_ => absurd ((h0 a k_.1 e_).symm.trans k_.2.1) n01_, fun k_ => absurd k_.2.1 n31_⟩
    · rw [hov_out e_, hov_out e_]
  · show jlt (qs (Lpd L n) 1) 10
    unfold Lpd
    rw [ls_ne (by omega), ls_ne (by omega)]
    exact g9_
  · by_cases e_ : qf L a 0 = jn n
    · rw [hov_in e_, if_pos rfl]
      exact fun q_ => absurd q_ n32_
    · by_cases e2_ : qf L c 0 = jn n
      · rw [hov_in (a := c) e2_, if_pos rfl]
        exact fun _ q_ => absurd q_ n32_
      · rw [hov_out e_, hov_out e_, hov_out e2_, hov_out e2_]
        exact ga_ a c ha hc
theorem qpg_hov {L : LL} {n : Nat} (h0 : ∀ f, f < qF L → qf L f 0 = jn n → qf L f 8 = jn 0) (p : Nat) : qpg (Lhov L n) p = qpg L p := by
  have n02_ : ¬ jn 0 = jn 2 := by decide
  have n32_ : ¬ jn 3 = jn 2 := by decide
  refine qpg_cg rfl (fun i hi => ?_)
  by_cases e_ : qf L i 0 = jn n
  · rw [hov_in e_, if_pos rfl, h0 i hi e_]
    exact ⟨fun q_ => absurd q_.1 n32_, fun q_ => absurd q_.1 n02_⟩
  · rw [hov_out e_, hov_out e_]
theorem hov_0 {L : LL} (g : qG L) {n : Nat} (h : ycul L n = jg 1) : ∀ f, f < qF L → qf L f 0 = jn n → qf L f 8 = jn 0 := fun f hf e => by
  have h1_ := g.1
  have w_ : ywhy (ybs L f) = jn 0 := by
    by_cases w0_ : ywhy (ybs L f) = jn 0
    · exact w0_
    · have k_ : qk (fun f => qf L f 0 = jn n ∧ ¬ ywhy (ybs L f) = jn 0) (qF L) < qF L := by
        rcases Nat.lt_or_ge (qk (fun f => qf L f 0 = jn n ∧ ¬ ywhy (ybs L f) = jn 0) (qF L)) (qF L) with q_ | q_
        · exact q_
        · exact absurd ⟨e, w0_⟩ (qk_lt (P := fun f => qf L f 0 = jn n ∧ ¬ ywhy (ybs L f) = jn 0) (n := qF L) (by omega))
      unfold ycul at h
      rw [if_pos k_, jn_ng (by omega) (by omega) (by omega)] at h
      exact h.elim
  rcases (g.2.2.2.2.2.1 f hf).2.2.2.2.2.2.2.2 with k_ | k_ | k_ | k_
  · exact k_.1
  · unfold ywhy ybs at w_
    dsimp only at w_
    rw [if_neg (by rw [decide_eq_true_eq, k_.1]; decide), if_pos (by rw [decide_eq_true_eq]; exact k_.1)] at w_
    exact absurd w_ (by decide)
  · unfold ywhy ybs at w_
    dsimp only at w_
    rw [if_neg (by rw [decide_eq_true_eq, k_.1]; decide), if_neg (by rw [decide_eq_true_eq, k_.1]; decide), if_pos (by rw [decide_eq_true_eq]; exact k_.1)] at w_
    exact absurd w_ (by decide)
  · unfold ywhy ybs at w_
    dsimp only at w_
    rw [if_pos (by rw [decide_eq_true_eq]; exact k_.1)] at w_
    exact absurd w_ (by decide)
section HOV
variable {L : LL} {B : Nat} {I : z_H} {s n : Nat}
theorem sq_hov (h : qS L I (s + 7) (s + 1)) (g : qG L) (hn : n < qN L) (hh : ¬ qn L n 3 = jn 1) (h0 : ∀ f, f < qF L → qf L f 0 = jn n → qf L f 8 = jn 0) : ∃ J, d_L_handOverAll s (jn n) I = some (ypd L n, J) ∧ WS (Lhov L n) I J (s + 7) (s + 1) := by
  have h1_ := g.1
  have h3_ := g.2.2.1
  have b_ := qG_B g
  have in_ : z_in (jn n) 4 := sq_nin g hn
  have p_ : yahead L n (jn 0) = ypd L n := by
    unfold yahead ypd
    rw [if_neg hh, jn_z]
  have m1_ := qS_s h b_ (by omega) (k := 2) (by omega) (qs L 2 + ypd L n)
  have g1_ : qG (ls L 2 (qs L 2 + ypd L n)) := qG_s g (by omega)
  have m2_ := qS_s m1_ b_ (by omega) (k := 3) (by omega) (qs L 3 + ((qn L n 1 * yof L n) - ypd L n))
  have g2_ : qG (Lpd L n) := qG_s g1_ (by omega)
  have m3_ := rS_h (qS_r.mp m2_) b_ (by omega) hn (ylate L n (qs L 0))
  have e5_ : ev_u2 I (s + 7) 2 (qs L 2 + ypd L n) (s + 1 + 3) n = qn L n 1 := (m1_.2.2.2.2.2.2.2.1 n hn).2.1
  have e6_ : ev_u2 I (s + 7) 2 (qs L 2 + ypd L n) (s + 7) 3 = qs L 3 := m1_.1 3 (by omega)
  have e7_ : ev_u2 (ev_u2 I (s + 7) 2 (qs L 2 + ypd L n)) (s + 7) 3 (qs L 3 + ((qn L n 1 * yof L n) - ypd L n)) (s + 7) 0 = qs L 0 := m2_.1 0 (by omega)
  have of_ : d_S_flagsOf (s + 7) (jn n) (ev_u2 I (s + 7) 2 (qs L 2 + ypd L n)) = some (yof L n) := sq_flagsOf m1_ g1_ (jn n)
  have la_ : d_L_lateAt s (jn n) (qs L 0) (ev_u2 (ev_u2 I (s + 7) 2 (qs L 2 + ypd L n)) (s + 7) 3 (qs L 3 + ((qn L n 1 * yof L n) - ypd L n))) = some (ylate L n (qs L 0)) := sq_late m2_ g2_ hn (qs L 0)
  have m4_ : rS (Lhd L n) (qpg L) (ev_u2 (ev_u2 (ev_u2 I (s + 7) 2 (qs L 2 + ypd L n)) (s + 7) 3 (qs L 3 + ((qn L n 1 * yof L n) - ypd L n))) (s + 7 + 17) n (ylate L n (qs L 0))) (s + 7) (s + 1) := m3_
  have fr_ : ∀ a, a < s + 7 ∨ s + 7 + 18 ≤ a → (ev_u2 (ev_u2 (ev_u2 I (s + 7) 2 (qs L 2 + ypd L n)) (s + 7) 3 (qs L 3 + ((qn L n 1 * yof L n) - ypd L n))) (s + 7 + 17) n (ylate L n (qs L 0))) a = I a := fun a ha => by rw [ju_na (by omega), ju_na (by omega), ju_na (by omega)]
  unfold d_L_handOverAll
  rw [sq_ahead h g hn, ob_s, p_, if_pos in_, sq_now h (by omega), of_, ob_s, ob_s, sq_nn g hn, e5_, e6_, e7_, la_, ob_s, if_pos in_]
  generalize ev_u2 (ev_u2 (ev_u2 I (s + 7) 2 (qs L 2 + ypd L n)) (s + 7) 3 (qs L 3 + ((qn L n 1 * yof L n) - ypd L n))) (s + 7 + 17) n (ylate L n (qs L 0)) = K_ at m4_ fr_ ⊢
  have z9_ := sq_flagloop (I := K_) (s := s + 7) (W := Wgo L n) (fn := d_L_handOverAll_12 s (jn n)) (n := qF L) h1_ (fun i J hi e1 e2 => ?_) (fun J e1 => ?_)
  · obtain ⟨r_, e_, e1_, e2_⟩ := z9_
    refine ⟨r_.2, by rw [e_, ob_s], rS_cg (rS_lq m4_ b_ (by omega) e1_ (fun f k hf hk => by rw [e2_ f k hk, if_pos (show f < qF L from hf)])) (fun p _ => (qpg_hov h0 p).symm), fun a ha => by rw [e1_ a (by omega), fr_ a ha]⟩
  · have q_ : ∀ k, k < 10 → J (s + 7 + 2 + i) k = qf L i k := fun k hk => (e2 k hk).trans (m4_.2.2.2.2.2.2.2.2.2.1 i k hi hk)
    unfold d_L_handOverAll_12
    dsimp only
    rw [if_pos (show jn i < J (s + 7) 6 by rw [e1 (s + 7) (by omega), m4_.2.1]; show jn i < jn (qF L); rw [jn_lt (by omega) (by omega)]; exact hi), if_pos (sq_in g hi), sq_n g hi]
    by_cases e5_ : qf L i 0 = jn n
    · rw [if_pos (show J (s + 7 + 2 + i) 0 = jn n by rw [q_ 0 (by omega)]; exact e5_), if_pos (sq_in g hi)]
      unfold d_G_moveTo
      rw [ob_s, ob_s, jn_add]
      refine ⟨_, rfl, fun a ha => by rw [ju_na ha, ju_na ha], fun k hk => ?_⟩
      unfold Wgo
      rw [if_pos e5_]
      by_cases k9_ : k = 9
      · rw [k9_, ju_at, if_neg (by omega), if_pos rfl]
      · rw [ju_ne (by omega)]
        by_cases k8_ : k = 8
        · rw [k8_, ju_at, if_pos rfl]
        · rw [ju_ne (by omega), if_neg k8_, if_neg k9_, q_ k hk]
    · rw [if_neg (show ¬ J (s + 7 + 2 + i) 0 = jn n by rw [q_ 0 (by omega)]; exact e5_), ob_s, jn_add]
      refine ⟨_, rfl, fun a ha => rfl, fun k hk => ?_⟩
      unfold Wgo
      rw [if_neg e5_, q_ k hk]
  · unfold d_L_handOverAll_12
    dsimp only
    rw [if_neg (show ¬ jn (qF L) < J (s + 7) 6 by rw [e1 (s + 7) (by omega), m4_.2.1]; show ¬ jn (qF L) < jn (qF L); rw [jn_lt (by omega) (by omega)]; omega)]
theorem rm_putN {n k : Nat} (hn : n < 4) (hk : k < 5) (x : Int32) : d_M_putsNation (jn n) (jn k) x I = some (ev_u2 I 242 (18 + 5 * n + k) x) := by
  unfold d_M_putsNation
  simp only [jn_mul, jn_add]
  rw [if_pos (by rw [jn_in (by omega)]; omega), jn_n (by omega)]
theorem mq_leaves {L2 : LL} (h : rM L2 (I 242)) (b : qB L2) (e : ∀ f k, qf L2 f k = qf L f k) (e2 : qF L2 = qF L) : ∃ J, d_M_leaves (jn n) I = some J ∧ rM (lq L2 (Wgo L n)) (J 242) ∧ (∀ a, ¬ a = 242 → J a = I a) ∧ J 242 11 = I 242 11 ∧ ∀ g, J 242 (41 + 11 * g + 10) = I 242 (41 + 11 * g + 10) := by
  have h1_ : qF L ≤ 12 := by have k_ := b.1; omega
  have z9_ := mq_flagloop (I := I) (W := Wgo L n) (fn := d_M_leaves_2 (jn n)) (n := qF L) h1_ (fun i J hi e1 e3 e4 => ?_) (fun J e3 => ?_)
  · obtain ⟨r_, e_, k1_, k2_, k3_, k4_⟩ := z9_
    refine ⟨r_.2, ?_, rM_lq h b k2_ (fun f k hf hk => k4_ f k hk (by omega)), k1_, k2_ 11 (by omega), k3_⟩
    unfold d_M_leaves
    rw [e_, ob_s]
  · have q_ : ∀ k, k < 10 → J 242 (41 + 11 * i + k) = qf L i k := fun k hk => by rw [e4 k hk, h.2.2.2.2.2.2.2.2.2.1 i k (by omega) hk, e]
    unfold d_M_leaves_2
    dsimp only
    rw [if_pos mq_in10, if_pos (show jn i < J 242 (z_n (jn 10)) by rw [jn_n (by omega), e3 10 (by omega), h.2.2.2.2.2.1, e2, jn_lt (by omega) (by omega)]; exact hi), mq_ofFlag (by omega) (by omega), ob_s, q_ 0 (by omega)]
    by_cases e5_ : qf L i 0 = jn n
    · rw [if_pos e5_, rm_goes (by omega), ob_s, ob_s, jn_add]
      refine ⟨_, rfl, fun a ha => by rw [ju_na ha, ju_na ha], fun j hj => by rw [ju_ne (by omega), ju_ne (by omega)], fun k hk => ?_⟩
      unfold Wgo
      rw [if_pos e5_]
      by_cases k9_ : k = 9
      · rw [k9_, ju_at, if_neg (by omega), if_pos rfl]
      · rw [ju_ne (by omega)]
        by_cases k8_ : k = 8
        · rw [k8_, ju_at, if_pos rfl]
        · rw [ju_ne (by omega), if_neg k8_, if_neg k9_, q_ k hk]
    · rw [if_neg e5_, ob_s, jn_add]
      refine ⟨_, rfl, fun a ha => rfl, fun j hj => rfl, fun k hk => ?_⟩
      unfold Wgo
      rw [if_neg e5_, q_ k hk]
  · unfold d_M_leaves_2
    dsimp only
    rw [if_pos mq_in10, if_neg (show ¬ jn (qF L) < J 242 (z_n (jn 10)) by rw [jn_n (by omega), e3 10 (by omega), h.2.2.2.2.2.1, e2, jn_lt (by omega) (by omega)]; omega)]
theorem mq_hov (h : qM L B (I 242)) (g : qG L) (hn : n < qN L) : ∃ J, (if z_in ((jn 0)) 173 then ((d_M_payAt (jn n) ((I 242 (z_n ((jn 0))))) I).bind fun q11 => (if z_in ((jn 2)) 173 then (if z_in ((jn 2)) 173 then (if z_in ((jn 3)) 173 then ((d_M_flagsOf (jn n) (ev_u2 I 242 (z_n ((jn 2))) ((I 242 (z_n ((jn 2)))) + q11))).bind fun q16 => ((d_M_ofNation (jn n) ((jn 1)) (ev_u2 I 242 (z_n ((jn 2))) ((I 242 (z_n ((jn 2)))) + q11))).bind fun q18 => (if z_in ((jn 3)) 173 then (Option.bind (α := z_H) (some (ev_u2 (ev_u2 I 242 (z_n ((jn 2))) ((I 242 (z_n ((jn 2)))) + q11)) 242 (z_n ((jn 3))) (((ev_u2 I 242 (z_n ((jn 2))) ((I 242 (z_n ((jn 2)))) + q11)) 242 (z_n ((jn 3)))) + ((q16 * q18) - q11)))) fun J21 => ((d_M_putsNation (jn n) ((jn 3)) ((jn 1)) J21).bind fun q23 => (if z_in ((jn 0)) 173 then ((d_M_lateAt (jn n) ((q23 242 (z_n ((jn 0))))) q23).bind fun q26 => ((d_M_putsNation (jn n) ((jn 4)) (q26) q23).bind fun q28 => ((d_M_leaves (jn n) q28).bind fun q30 => some ((q11, q30))))) else none))) else none))) else none) else none) else none)) else none) = some (ypd L n, J) ∧ WM (Lhov L n) B I J := by
  have h1_ := g.1
  have h3_ := g.2.2.1
  have b_ := qG_B g
  have m_ := qM_r.mp h
  have m1_ : qM (ls L 2 (qs L 2 + ypd L n)) B (ev_u2 I 242 2 (qs L 2 + ypd L n) 242) := by
    rw [ju_up]; exact qM_s h (by omega) _
  have g1_ : qG (ls L 2 (qs L 2 + ypd L n)) := qG_s g (by omega)
  have of_ : d_M_flagsOf (jn n) (ev_u2 I 242 2 (qs L 2 + ypd L n)) = some (yof L n) := mq_flagsOf m1_ g1_ (jn n)
  have fe_ : d_M_ofNation (jn n) (jn 1) (ev_u2 I 242 2 (qs L 2 + ypd L n)) = some (qn L n 1) := mq_n m1_ g1_ hn (by omega)
  have py_ : d_M_payAt (jn n) (qs L 0) I = some (ypd L n) := mq_payAt h g hn (qs L 0)
  have mu_ : yof L n * qn L n 1 = qn L n 1 * yof L n := Int32.mul_comm _ _
  have k3_ : ev_u2 I 242 2 (qs L 2 + ypd L n) 242 3 = qs L 3 := by rw [ju_ne (by omega)]; exact h.1 3 (by omega)
  have r4_ := rM_n (rM_n (rM_s (rM_s m_.1 (k := 2) (by omega) (qs L 2 + ypd L n)) (k := 3) (by omega) (qs L 3 + ((qn L n 1 * yof L n) - ypd L n))) b_ hn (k := 3) (by omega) (jn 1)) b_ hn (k := 4) (by omega) (ylate L n (qs L 0))
  rw [if_pos (show z_in (jn 0) 173 by rw [jn_in (by omega)]; omega), mq_now h (by omega), py_, ob_s, if_pos (show z_in (jn 2) 173 by rw [jn_in (by omega)]; omega), if_pos (show z_in (jn 2) 173 by rw [jn_in (by omega)]; omega), if_pos (show z_in (jn 3) 173 by rw [jn_in (by omega)]; omega), mq_now h (by omega), jn_n (a := 2) (by omega), of_, ob_s, fe_, ob_s, if_pos (show z_in (jn 3) 173 by rw [jn_in (by omega)]; omega), ob_s, jn_n (a := 3) (by omega), k3_, mu_, rm_putN (by omega) (by omega), ob_s, if_pos (show z_in (jn 0) 173 by rw [jn_in (by omega)]; omega), jn_n (a := 0) (by omega)]
  have lat_ : d_M_lateAt (jn n) (ev_u2 (ev_u2 (ev_u2 I 242 2 (qs L 2 + ypd L n)) 242 3 (qs L 3 + ((qn L n 1 * yof L n) - ypd L n))) 242 (18 + 5 * n + 3) (jn 1) 242 0) (ev_u2 (ev_u2 (ev_u2 I 242 2 (qs L 2 + ypd L n)) 242 3 (qs L 3 + ((qn L n 1 * yof L n) - ypd L n))) 242 (18 + 5 * n + 3) (jn 1)) = some (ylate L n (qs L 0)) := by
    unfold d_M_lateAt
    rw [mq_ofNation (by omega) (by omega), ob_s, ju_ne (by omega), ju_ne (by omega), ju_ne (by omega), ju_ne (by omega), ju_ne (by omega), ju_ne (by omega), h.1 0 (by omega), h.2.2.2.2.2.2.2.1 n 0 hn (by omega)]
    rfl
  rw [lat_, ob_s, rm_putN (by omega) (by omega), ob_s]
  have r5_ : rM (Lhd L n) (ev_u2 (ev_u2 (ev_u2 (ev_u2 I 242 2 (qs L 2 + ypd L n)) 242 3 (qs L 3 + ((qn L n 1 * yof L n) - ypd L n))) 242 (18 + 5 * n + 3) (jn 1)) 242 (18 + 5 * n + 4) (ylate L n (qs L 0)) 242) := by
    rw [ju_up, ju_up, ju_up, ju_up]
    exact r4_
  obtain ⟨J_, k1_, k2_, k5_, k6_, k7_⟩ := mq_leaves (n := n) (L := L) r5_ b_ (fun _ _ => rfl) rfl
  rw [k1_, ob_s]
  refine ⟨J_, rfl, qM_r.mpr ⟨k2_, qMo_sub m_.2 rfl (fun _ _ => List.Sublist.refl _) ?_ (fun a => ?_)⟩, fun a ha => by rw [k5_ a ha, ju_na ha, ju_na ha, ju_na ha, ju_na ha]⟩
  · rw [k6_, ju_ne (by omega), ju_ne (by omega), ju_ne (by omega), ju_ne (by omega)]
  · rw [k7_, ju_ne (by omega), ju_ne (by omega), ju_ne (by omega), ju_ne (by omega)]
end HOV
