/-! copies: the reference's laid aside and back, the class's states -/
theorem zl_242 : z_l 242 = 173 := by decide
theorem zl_243 : z_l 243 = 173 := by decide
theorem zl_244 : z_l 244 = 1384 := by decide
theorem zl_245 : z_l 245 = 346 := by decide
theorem mq_lays {I : z_H} {a b i j : Nat} (hab : ¬ a = b) (ha : i + 173 ≤ z_l a) (hb : j + 173 ≤ z_l b) (hi : i < 2000) (hj : j < 2000) : ∃ J, d_M_lays a (jn i) b (jn j) I = some J ∧ (∀ c, ¬ c = b → J c = I c) ∧ (∀ k, k < 173 → J b (j + k) = I a (i + k)) ∧ ∀ m, m < j ∨ j + 173 ≤ m → J b m = I b m := by
  have z9_ : ∃ r, z_it (d_M_lays_2 a (jn i) b (jn j)) z_F (jn 0, I) = some r ∧ ((∀ c, ¬ c = b → r.2 c = I c) ∧ (∀ k, k < 173 → r.2 b (j + k) = I a (i + k)) ∧ ∀ m, m < j ∨ j + 173 ≤ m → r.2 b m = I b m) := by
    refine z_inv (fun (q : Nat) (p : Int32 × z_H) => p.1 = jn q ∧ (∀ c, ¬ c = b → p.2 c = I c) ∧ (∀ k, k < q → p.2 b (j + k) = I a (i + k)) ∧ ∀ m, m < j ∨ j + q ≤ m → p.2 b m = I b m) (fun (r : Int32 × z_H) => (∀ c, ¬ c = b → r.2 c = I c) ∧ (∀ k, k < 173 → r.2 b (j + k) = I a (i + k)) ∧ ∀ m, m < j ∨ j + 173 ≤ m → r.2 b m = I b m) (n := 173) (by omega) ⟨rfl, fun _ _ => rfl, fun k hk => absurd hk (Nat.not_lt_zero _), fun _ _ => rfl⟩ (fun q p hq hp => ?_) (fun p hp => ?_)
    · obtain ⟨e1_, e2_, e3_, e4_⟩ := hp
      unfold d_M_lays_2
      rw [e1_, if_pos (by rw [jn_lt (by omega) (by omega)]; exact hq), jn_add, jn_add, if_pos (show z_in (jn (i + q)) (z_l a) by rw [jn_in (by omega)]; omega), if_pos (show z_in (jn (j + q)) (z_l b) by rw [jn_in (by omega)]; omega), jn_n (by omega), jn_n (by omega)]
      refine ⟨_, rfl, jn_add q 1, fun c hc => ?_, fun k hk => ?_, fun m hm => ?_⟩
      · show ev_u2 p.2 b _ _ c = I c
        rw [ju_na hc]; exact e2_ c hc
      · show ev_u2 p.2 b (j + q) (p.2 a (i + q)) b (j + k) = _
        by_cases e_ : k = q
        · rw [e_, ju_at, e2_ a hab]
        · rw [ju_ne (by omega)]; exact e3_ k (by omega)
      · show ev_u2 p.2 b (j + q) (p.2 a (i + q)) b m = _
        rw [ju_ne (by omega)]; exact e4_ m (by omega)
    · obtain ⟨e1_, e2_, e3_, e4_⟩ := hp
      unfold d_M_lays_2
      rw [e1_, if_neg (by rw [jn_lt (by omega) (by omega)]; omega)]
      exact ⟨_, rfl, e2_, e3_, e4_⟩
  obtain ⟨r_, e_, h_⟩ := z9_
  refine ⟨r_.2, ?_, h_⟩
  unfold d_M_lays
  rw [e_, ob_s]
theorem mq_thinks {I : z_H} : ∃ J, d_M_thinks I = some J ∧ (∀ c, ¬ c = 243 → J c = I c) ∧ ∀ k, k < 173 → J 243 k = I 242 k := by
  obtain ⟨J_, e_, h1_, h2_, _⟩ := mq_lays (I := I) (a := 242) (b := 243) (i := 0) (j := 0) (by omega) (by rw [zl_242]; omega) (by rw [zl_243]; omega) (by omega) (by omega)
  refine ⟨J_, ?_, h1_, fun k hk => ?_⟩
  · unfold d_M_thinks
    rw [e_, ob_s]
  · have k_ := h2_ k hk
    rw [Nat.zero_add] at k_
    exact k_
theorem mq_back {I : z_H} (x : Int32) : ∃ J, d_M_back x I = some (x, J) ∧ (∀ c, ¬ c = 242 → J c = I c) ∧ ∀ k, k < 173 → J 242 k = I 243 k := by
  obtain ⟨J_, e_, h1_, h2_, _⟩ := mq_lays (I := I) (a := 243) (b := 242) (i := 0) (j := 0) (by omega) (by rw [zl_243]; omega) (by rw [zl_242]; omega) (by omega) (by omega)
  refine ⟨J_, ?_, h1_, fun k hk => ?_⟩
  · unfold d_M_back
    rw [e_, ob_s]
  · have k_ := h2_ k hk
    rw [Nat.zero_add] at k_
    exact k_
/-- nothing changed but what was laid aside -/
def WK (I J : z_H) : Prop := (∀ k, k < 173 → J 242 k = I 242 k) ∧ ∀ c, ¬ c = 242 → ¬ c = 243 → J c = I c
theorem mq_thought {I J1 J2 : z_H} {x : Int32} (h1 : ∀ c, ¬ c = 243 → J1 c = I c) (h2 : ∀ k, k < 173 → J1 243 k = I 242 k) (h3 : ∀ c, ¬ c = 242 → J2 c = J1 c) : ∃ J, d_M_back x J2 = some (x, J) ∧ WK I J := by
  obtain ⟨J_, e_, k1_, k2_⟩ := mq_back (I := J2) x
  refine ⟨J_, e_, fun k hk => ?_, fun c hc hc2 => ?_⟩
  · rw [k2_ k hk, h3 243 (by omega), h2 k hk]
  · rw [k1_ c hc, h3 c hc, h1 c hc2]
theorem qM_cg {L : LL} {B : Nat} {A A2 : Nat → Int32} (h : qM L B A) (g : qG L) (e : ∀ k, k < 173 → A2 k = A k) : qM L B A2 := by
  have m_ := (g.2.2.2.2.2.2.2.1)
  have g1_ := g.1
  have g2_ := g.2.1
  have g3_ := g.2.2.1
  have g4_ := g.2.2.2.1
  obtain ⟨⟨h1_, h2_, h3_, h4_, h5_, h6_, h7_, h8_, h9_, ha_, hb_⟩, p_, p1_, p2_, p3_⟩ := qM_r.mp h
  refine qM_r.mpr ⟨⟨fun j hj => ?_, ?_, ?_, ?_, ?_, ?_, fun c hc => ?_, fun n j hn hj => ?_, fun t ht => ?_, fun f j hf hj => ?_, fun n hn hn2 => ?_⟩, p_, (e 11 (by omega)).trans p1_, p2_, fun t ht => ?_⟩
  · rw [e j (by omega)]; exact h1_ j hj
  · rw [e 6 (by omega)]; exact h2_
  · rw [e 7 (by omega)]; exact h3_
  · rw [e 8 (by omega)]; exact h4_
  · rw [e 9 (by omega)]; exact h5_
  · rw [e 10 (by omega)]; exact h6_
  · rw [e _ (by omega)]; exact h7_ c hc
  · rw [e _ (by omega)]; exact h8_ n j hn hj
  · rw [e _ (by omega)]; exact h9_ t ht
  · rw [e _ (by omega)]; exact ha_ f j hf hj
  · rw [e _ (by omega)]; exact hb_ n hn hn2
  · have mt_ := (m_ t ht).2.2
    have c2_ : ∀ a, a ∈ qt L t → A2 (41 + 11 * a + 10) = A (41 + 11 * a + 10) := fun a ha => by
      have k_ := ((mt_ a).mp ha).1
      exact e _ (by omega)
    refine ⟨fun a ha => ?_, ?_⟩
    · rw [c2_ a ha]; exact (p3_ t ht).1 a ha
    · exact List.Pairwise.imp_of_mem (fun {a c} ha hc q_ => by rw [c2_ a ha, c2_ c hc]; exact q_) (p3_ t ht).2
theorem WK_M {L : LL} {B : Nat} {I J : z_H} (h : qM L B (I 242)) (g : qG L) (w : WK I J) : qM L B (J 242) := qM_cg h g w.1
/-! a state becomes another -/
theorem g_become {a r : Nat} (har : ¬ a = r) (I : z_H) : ∃ J, d_G_become a r I = some J ∧ (∀ b, ¬ b = a → J b = I b) ∧ ∀ k, k < 10 → J a k = I r k := by
  have hra_ : ¬ r = a := fun q_ => har q_.symm
  unfold d_G_become
  refine ⟨_, rfl, fun b hb => by rw [ju_na hb, ju_na hb, ju_na hb, ju_na hb, ju_na hb, ju_na hb, ju_na hb, ju_na hb, ju_na hb, ju_na hb], fun k hk => ?_⟩
  have k_ : k = 0 ∨ k = 1 ∨ k = 2 ∨ k = 3 ∨ k = 4 ∨ k = 5 ∨ k = 6 ∨ k = 7 ∨ k = 8 ∨ k = 9 := by omega
  rcases k_ with e_ | e_ | e_ | e_ | e_ | e_ | e_ | e_ | e_ | e_ <;> (rw [e_]; simp [ev_u2, hra_])
theorem cpI_na {I : z_H} {a b m c : Nat} (h : ¬ c = b) : z_cpI I a b m c = I c := by
  unfold z_cpI ev_u1
  exact if_neg h
theorem cpI_at {I : z_H} {a b m k : Nat} (h : k < m) : z_cpI I a b m b k = I a k := by
  unfold z_cpI ev_u1
  rw [if_pos rfl]
  unfold z_cpf va_cpy
  rw [if_pos ⟨Nat.zero_le _, by omega⟩]
  congr 1
  omega
theorem s_become {s r : Nat} (d : r + 18 ≤ s ∨ s + 18 ≤ r) (I : z_H) : ∃ J, d_S_become s r I = some J ∧ (∀ b, b < s ∨ s + 18 ≤ b → J b = I b) ∧ (∀ k, k < 7 → J s k = I r k) ∧ (∀ f k, f < 12 → k < 10 → J (s + 2 + f) k = I (r + 2 + f) k) ∧ (∀ k, k < 3 → J (s + 14) k = I (r + 14) k) ∧ (∀ k, k < 18 → J (s + 15) k = I (r + 15) k) ∧ (∀ k, k < 8 → J (s + 16) k = I (r + 16) k) ∧ ∀ k, k < 4 → J (s + 17) k = I (r + 17) k := by
  have hrs_ : ¬ r = s := by omega
  have k0_ : ∃ K, K = ev_u2 (ev_u2 (ev_u2 (ev_u2 (ev_u2 (ev_u2 (ev_u2 I s 0 (I r 0)) s 1 (I r 1)) s 2 (I r 2)) s 3 (I r 3)) s 4 (I r 4)) s 5 (I r 5)) s 6 (I r 6) := ⟨_, rfl⟩
  obtain ⟨K_, eK_⟩ := k0_
  have f_ : ∀ b, ¬ b = s → K_ b = I b := fun b hb => by rw [eK_, ju_na hb, ju_na hb, ju_na hb, ju_na hb, ju_na hb, ju_na hb, ju_na hb]
  have c_ : ∀ k, k < 7 → K_ s k = I r k := fun k hk => by
    have k_ : k = 0 ∨ k = 1 ∨ k = 2 ∨ k = 3 ∨ k = 4 ∨ k = 5 ∨ k = 6 := by omega
    rcases k_ with e_ | e_ | e_ | e_ | e_ | e_ | e_ <;> (rw [eK_, e_]; simp [ev_u2])
  have z9_ := sq_flagloop (I := K_) (s := s) (W := fun g k => I (r + 2 + g) k) (fn := d_S_become_6 s r) (n := 12) (by omega) (fun i J hi e1 e2 => ?_) (fun J e1 => ?_)
  · obtain ⟨r_, e_, e1_, e2_⟩ := z9_
    refine ⟨z_cpI (z_cpI (z_cpI (z_cpI r_.2 (r + 14) (s + 14) 3) (r + 15) (s + 15) 18) (r + 16) (s + 16) 8) (r + 17) (s + 17) 4, ?_, fun b hb => ?_, fun k hk => ?_, fun f k hf hk => ?_, fun k hk => ?_, fun k hk => ?_, fun k hk => ?_, fun k hk => ?_⟩
    · unfold d_S_become
      simp only [ju_na hrs_, ob_s]
      rw [← eK_, e_, ob_s]
    · rw [cpI_na (by omega), cpI_na (by omega), cpI_na (by omega), cpI_na (by omega), e1_ b (by omega), f_ b (by omega)]
    · rw [cpI_na (by omega), cpI_na (by omega), cpI_na (by omega), cpI_na (by omega), e1_ s (by omega), c_ k hk]
    · rw [cpI_na (by omega), cpI_na (by omega), cpI_na (by omega), cpI_na (by omega), e2_ f k hk, if_pos hf]
    · rw [cpI_na (by omega), cpI_na (by omega), cpI_na (by omega), cpI_at hk, e1_ (r + 14) (by omega), f_ (r + 14) (by omega)]
    · rw [cpI_na (by omega), cpI_na (by omega), cpI_at hk, cpI_na (by omega), e1_ (r + 15) (by omega), f_ (r + 15) (by omega)]
    · rw [cpI_na (by omega), cpI_at hk, cpI_na (by omega), cpI_na (by omega), e1_ (r + 16) (by omega), f_ (r + 16) (by omega)]
    · rw [cpI_at hk, cpI_na (by omega), cpI_na (by omega), cpI_na (by omega), e1_ (r + 17) (by omega), f_ (r + 17) (by omega)]
  · obtain ⟨J2_, k1_, k2_, k3_⟩ := g_become (a := s + 2 + i) (r := r + 2 + i) (by omega) J
    refine ⟨J2_, ?_, k2_, fun k hk => ?_⟩
    · unfold d_S_become_6
      dsimp only
      rw [if_pos (by rw [jn_lt (by omega) (by omega)]; exact hi), if_pos (by rw [jn_in (by omega)]; omega), if_pos (by rw [jn_in (by omega)]; omega), jn_n (by omega), k1_, ob_s, jn_add]
    · rw [k3_ k hk, e1 (r + 2 + i) (by omega), f_ (r + 2 + i) (by omega)]
  · unfold d_S_become_6
    dsimp only
    rw [if_neg (by rw [jn_lt (by omega) (by omega)]; omega)]
theorem qS_mv {L : LL} {I J : z_H} {s r u : Nat} (h : qS L I r u) (g : qG L) (eu : ∀ b, u ≤ b → b < u + 6 → J b = I b) (c1 : ∀ k, k < 7 → J s k = I r k) (c2 : ∀ f k, f < 12 → k < 10 → J (s + 2 + f) k = I (r + 2 + f) k) (c3 : ∀ k, k < 3 → J (s + 14) k = I (r + 14) k) (c4 : ∀ k, k < 18 → J (s + 15) k = I (r + 15) k) (c5 : ∀ k, k < 8 → J (s + 16) k = I (r + 16) k) (c6 : ∀ k, k < 4 → J (s + 17) k = I (r + 17) k) : qS L J s u := by
  have g1_ := g.1
  have g3_ := g.2.2.1
  have g4_ := g.2.2.2.1
  obtain ⟨h1_, h2_, h3_, h4_, h5_, h6_, h7_, h8_, h9_, ha_, hb_, hc_, hd_⟩ := h
  refine ⟨fun j hj => ?_, ?_, ?_, ?_, ?_, ?_, fun c hc => ?_, fun m hm => ?_, fun v hv => ?_, fun f j hf hj => ?_, fun q hq => ?_, fun m hm hm2 => ?_, fun v hv hv2 => ?_⟩
  · rw [c1 j (by omega)]; exact h1_ j hj
  · rw [c1 6 (by omega)]; exact h2_
  · rw [eu u (by omega) (by omega)]; exact h3_
  · rw [eu u (by omega) (by omega)]; exact h4_
  · rw [eu u (by omega) (by omega)]; exact h5_
  · rw [eu u (by omega) (by omega)]; exact h6_
  · rw [eu (u + 1) (by omega) (by omega)]; exact h7_ c hc
  · obtain ⟨q1_, q2_, q3_, q4_⟩ := h8_ m hm
    exact ⟨by rw [eu (u + 2) (by omega) (by omega)]; exact q1_, by rw [eu (u + 3) (by omega) (by omega)]; exact q2_, by rw [eu (u + 4) (by omega) (by omega)]; exact q3_, by rw [c6 m (by omega)]; exact q4_⟩
  · obtain ⟨q1_, q2_, q3_⟩ := h9_ v hv
    refine ⟨by rw [eu (u + 5) (by omega) (by omega)]; exact q1_, by rw [c3 v (by omega)]; exact q2_, fun i f hi => ?_⟩
    have k1_ := (List.getElem?_eq_some_iff.mp hi).1
    have k2_ := qt_len g hv
    rw [c4 _ (by omega)]
    exact q3_ i f hi
  · rw [c2 f j (by omega) hj]; exact ha_ f j hf hj
  · rw [c5 q hq]; exact hb_ q hq
  · rw [c6 m hm2]; exact hc_ m hm hm2
  · rw [c3 v hv2]; exact hd_ v hv hv2
theorem sq_become {L : LL} {I : z_H} {s r u : Nat} (h : qS L I r u) (g : qG L) (d : r + 18 ≤ s ∨ s + 18 ≤ r) (d2 : u + 6 ≤ s) : ∃ J, d_S_become s r I = some J ∧ WS L I J s u := by
  obtain ⟨J_, e_, f_, c1_, c2_, c3_, c4_, c5_, c6_⟩ := s_become d I
  exact ⟨J_, e_, qS_mv h g (fun b h1 h2 => f_ b (by omega)) c1_ c2_ c3_ c4_ c5_ c6_, f_⟩
