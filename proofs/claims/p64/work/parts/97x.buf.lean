/-! the text that is gathered, and what is told of it -/
def yby (x : Int32) (i : Nat) : Int32 := vp_nar .byte (((x >>> ((jn (24 - 8 * i)) &&& 31))).toInt8.toInt32)
def yvx (v : Nat → Int32) (b : Nat) (x : Int32) (n : Nat) (k : Nat) : Int32 := if k < b then v k else if k < b + n then yby x (k - b) else v k
def ycb (c q d : Nat) (I : z_H) (b : Nat) (v : Nat → Int32) : Prop := I c q = jn b ∧ ∀ k, k < b → I d k = v k
def yfr (c q d : Nat) (I J : z_H) : Prop := (∀ b, ¬ b = c → ¬ b = d → J b = I b) ∧ ∀ k, ¬ k = q → J c k = I c k
def ybst (c q d b : Nat) (x : Int32) (i : Nat) (H : z_H) : z_H := ev_u2 (ev_u2 H d (b + i) (yby x i)) c q (jn (b + i + 1))
section BUF
variable {n B : Nat} {I J K : z_H}
theorem yfr_t {c q d : Nat} (h : yfr c q d I J) (h2 : yfr c q d J K) : yfr c q d I K := ⟨fun b b1 b2 => (h2.1 b b1 b2).trans (h.1 b b1 b2), fun k hk => (h2.2 k hk).trans (h.2 k hk)⟩
theorem ybs_all {c q d : Nat} (hcd : ¬ c = d) {b : Nat} {v : Nat → Int32} (x : Int32) (h : ycb c q d I b v) : ∀ m, ycb c q d (jfd (ybst c q d b x) I m) (b + m) (yvx v b x m) ∧ yfr c q d I (jfd (ybst c q d b x) I m)
  | 0 => ⟨⟨h.1, fun k hk => by
      have hk2_ : k < b := hk
      show I d k = _
      unfold yvx
      rw [if_pos hk2_]
      exact h.2 k hk2_⟩, fun _ _ _ => rfl, fun _ _ => rfl⟩
  | m + 1 => by
    obtain ⟨⟨h1_, h2_⟩, h3_, h4_⟩ := ybs_all hcd x h m
    rw [jfd_s]
    refine ⟨⟨ju_at .., fun k hk => ?_⟩, fun b2 b2c b2d => ?_, fun k hk => ?_⟩
    · show ev_u2 (ev_u2 _ d (b + m) (yby x m)) c q _ d k = _
      rw [ju_na (fun q_ => hcd q_.symm)]
      by_cases e_ : k = b + m
      · rw [e_, ju_at]
        unfold yvx
        rw [if_neg (by omega), if_pos (by omega), Nat.add_sub_cancel_left]
      · rw [ju_ne (fun q_ => e_ q_.2), h2_ k (by omega)]
        unfold yvx
        by_cases k_ : k < b
        · rw [if_pos k_, if_pos k_]
        · rw [if_neg k_, if_neg k_, if_pos (by omega), if_pos (by omega)]
    · show ev_u2 (ev_u2 _ d (b + m) (yby x m)) c q _ b2 = _
      rw [ju_na b2c, ju_na b2d]
      exact h3_ b2 b2c b2d
    · show ev_u2 (ev_u2 _ d (b + m) (yby x m)) c q _ c k = _
      rw [ju_ne (fun q_ => hk q_.2), ju_na hcd]
      exact h4_ k hk
def ypc (i : Nat) : Int32 := if i < 4 then jn (24 - 8 * i) else jg 8
def ypm (i : Nat) : Int32 := if i < 4 then jn (3 - i) else jg 1
theorem sq_store {b : Nat} {v : Nat → Int32} (x : Int32) (h : ycb 0 1 1 I b v) (hb : b + 4 ≤ 500) : ∃ J, d_F_store x I = some J ∧ ycb 0 1 1 J (b + 4) (yvx v b x 4) ∧ yfr 0 1 1 I J := by
  have a_ := ybs_all (by omega) x h
  refine ⟨jfd (ybst 0 1 1 b x) I 4, ?_, a_ 4⟩
  have e_ : z_it (d_F_store_2 x) z_F (ypc 0, I) = some (jg 8, jfd (ybst 0 1 1 b x) I 4) := by
    refine z_for0 (fun i => (ypc i, jfd (ybst 0 1 1 b x) I i)) 4 (by omega) (fun i hi => ?_) ?_
    · unfold d_F_store_2
      have c_ : jfd (ybst 0 1 1 b x) I i 0 1 = jn (b + i) := (a_ i).1.1
      have p_ : ypc i = jn (24 - 8 * i) := if_pos hi
      have p2_ : ypc i + jg 8 = ypc (i + 1) := by
        have i_ : i = 0 ∨ i = 1 ∨ i = 2 ∨ i = 3 := by omega
        rcases i_ with rfl | rfl | rfl | rfl <;> decide
      have p3_ : ¬ ypc i < jn 0 := by rw [p_, jn_lt (by omega) (by omega)]; omega
      dsimp only
      rw [if_neg p3_, if_pos (show z_in (jfd (ybst 0 1 1 b x) I i 0 1) 500 by rw [c_, jn_in (by omega)]; omega), ob_s, c_, jn_n (by omega)]
      show some (Sum.inl (ypc i + jg 8, ev_u2 (ev_u2 _ 1 (b + i) _) 0 1 (ev_u2 _ 1 (b + i) _ 0 1 + jn 1))) = _
      rw [p2_, ju_na (I := jfd (ybst 0 1 1 b x) I i) (show ¬ 0 = 1 by omega), c_, jn_add, p_]
      rfl
    · show d_F_store_2 x (jg 8, _) = _
      unfold d_F_store_2
      exact if_pos (show jg 8 < jn 0 by decide)
  unfold d_F_store
  rw [show jn 24 = ypc 0 by decide, e_, ob_s]
theorem Inv_g (h : Inv n B I) (hb : IvB J) (hp : IvP J) (ht : IvT J) (f : ∀ b, 2 ≤ b → b < 239 → ¬ b = n + 25 → J b = I b) (f04 : J 0 4 = I 0 4) (f6 : J 241 6 = I 241 6) (f7 : J 241 7 = I 241 7) (f2 : ∀ k, k < 173 → J 242 k = I 242 k) (f4 : J 244 = I 244) (f5 : J 245 = I 245) (fh : J 246 = I 246) : Inv n B J := by
  obtain ⟨hn_, _, _, _, s_⟩ := h
  refine ⟨hn_, hb, hp, ht, ?_⟩
  rcases s_ with ⟨n1_, n2_, n3_, n4_, n5_⟩ | ⟨L_, U_, V_, l1_, l2_, g_, gu_, gv_, qs_, qm_, hu_, mu_, hv_, mv_⟩
  · exact Or.inl ⟨by rw [f04]; exact n1_, by rw [f6]; exact n2_, by rw [f 55 (by omega) (by omega) (by omega)]; exact n3_, by rw [f7]; exact n4_, fun k hk => ⟨by rw [f 238 (by omega) (by omega) (by omega)]; exact (n5_ k hk).1, by rw [fh]; exact (n5_ k hk).2⟩⟩
  · exact Or.inr ⟨L_, U_, V_, by rw [f04]; exact l1_, by rw [f6]; exact l2_, g_, gu_, gv_, qS_out qs_ (fun b b1 b2 => f b (by omega) (by omega) (by omega)) (fun b b1 b2 => f b (by omega) (by omega) (by omega)) g_, qM_cg qm_ g_ f2, hU_out hu_ gu_ (fun b b1 b2 => f b (by omega) (by omega) (by omega)) (fun b b1 b2 => f b (by omega) (by omega) (by omega)), mU_out mu_ f7 f4, hV_out hv_ gv_ (fun b b1 b2 => f b (by omega) (by omega) (by omega)) (fun b b1 b2 => f b (by omega) (by omega) (by omega)), mV_out mv_ f5 fh⟩
/-! the texts -/
theorem Inv_tx {w : List Nat} {c : Int32} (h : Inv n B I) (t : tT w I J) (m : tM w (ev_u2 J 241 0 c) K) : Inx n B I J K := by
  have h_ := h
  obtain ⟨hn_, ⟨b_, hb_, hc_, hm_, he_⟩, ⟨hp1_, hp2_⟩, _, _⟩ := h
  obtain ⟨⟨t1_, t2_, t3_⟩, t4_⟩ := t
  obtain ⟨w2_, m4_, m5_⟩ := m
  have o_ : ∀ b, ¬ b = 239 → ¬ b = 240 → ¬ b = 241 → ¬ b = 249 → K b = I b := fun b b1 b2 b3 b4 => by rw [m4_ b b3 b4, ju_na b3, t4_ b b1 b2]
  have o4_ : ∀ k, ¬ k = 0 → ¬ k = 19 → K 241 k = I 241 k := fun k hk hk2 => by rw [m5_ k hk2, ju_ne (fun q_ => hk q_.2), t4_ 241 (by omega) (by omega)]
  have s_ := evS
  refine ⟨Inv_g h_ ⟨b_, hb_, ?_, ?_, fun k hk => ?_⟩ ⟨?_, ?_⟩ ⟨w, ⟨?_, t2_, fun i c hc => ?_⟩, w2_⟩ (fun b b1 b2 _ => o_ b (by omega) (by omega) (by omega) (by omega)) (by rw [o_ 0 (by omega) (by omega) (by omega) (by omega)]) (o4_ 6 (by omega) (by omega)) (o4_ 7 (by omega) (by omega)) (fun k _ => by rw [o_ 242 (by omega) (by omega) (by omega) (by omega)]) (o_ 244 (by omega) (by omega) (by omega) (by omega)) (o_ 245 (by omega) (by omega) (by omega) (by omega)) (o_ 246 (by omega) (by omega) (by omega) (by omega)), o_ ev_S (by omega) (by omega) (by omega) (by omega), t4_ ev_S (by omega) (by omega)⟩
  · rw [o_ 0 (by omega) (by omega) (by omega) (by omega)]
    exact hc_
  · rw [o4_ 9 (by omega) (by omega)]
    exact hm_
  · rw [o_ 1 (by omega) (by omega) (by omega) (by omega), o_ 247 (by omega) (by omega) (by omega) (by omega)]
    exact he_ k hk
  · rw [o_ 0 (by omega) (by omega) (by omega) (by omega), o4_ 10 (by omega) (by omega)]
    exact hp1_
  · rw [o_ 0 (by omega) (by omega) (by omega) (by omega), o4_ 11 (by omega) (by omega)]
    exact hp2_
  · rw [m4_ 239 (by omega) (by omega), ju_na (by omega)]
    exact t1_
  · rw [m4_ 240 (by omega) (by omega), ju_na (by omega)]
    exact t3_ i c hc
theorem tM_q {w : List Nat} {c : Int32} (m : tM w (ev_u2 J 241 0 c) K) : K 241 0 = c := by rw [m.2.2 0 (by omega), ju_at]
/-- the reference's laundry, behind the class's text -/
theorem tT_M {w : List Nat} {L : LL} (t : tT w I J) (m : qM L B (I 242)) (c : Int32) : J 241 = I 241 ∧ qM L B (J 242) ∧ qM L B (ev_u2 J 241 0 c 242) := by
  have e_ : J 242 = I 242 := t.2 242 (by omega) (by omega)
  exact ⟨t.2 241 (by omega) (by omega), by rw [e_]; exact m, by rw [ju_na (by omega), e_]; exact m⟩
end BUF
