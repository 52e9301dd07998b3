/-! the loop: by wip/gen/zs.py -/
section LOOP
variable {G : z_G} {X : Nat → Int32} {n B B2 c k : Nat} {w : ev_W} {J1 J : z_H}
theorem lc_dfl (W : Wi G X n B c w) : Pc G X B c k w 2195 := by
  obtain ⟨ok_, hX_, i_, fc_, fs_, c_, z_⟩ := W
  refine ⟨n, w, ⟨ok_, hX_, Inv_B i_ (by omega), fc_, fs_, by omega, by omega⟩, fun o w1 kk => ?_⟩
  have hB : z_all [z_is ev_LAW 2195 (zf_iinc 2195 5 (Int32.ofNat 6) 2198), z_is ev_LAW 2198 (zf_goto 2198 28)] = true := by decide +kernel
  refine z_iinc hB rfl rfl (fun hB => ?_)
  refine z_goto hB (fun hB => ?_)
  exact kk
theorem run1 (W : Wi G X n B c w) (hG : G.1 ≤ 3072) (h6 : 6 * k + 6 ≤ G.1) (hB : 500 ≤ B ∧ B + 1 < 100000) (x : Int32) : Pc G X B c k w (z_sw z_cases 2195 x) := by
  unfold z_cases
  refine sw_c (lc_0 W hG h6 hB) ?_
  refine sw_c (lc_1 W hG h6 hB) ?_
  refine sw_c (lc_2 W hG h6 hB) ?_
  refine sw_c (lc_3 W hG h6 hB) ?_
  refine sw_c (lc_4 W hG h6 hB) ?_
  refine sw_c (lc_5 W hG h6 hB) ?_
  refine sw_c (lc_6 W hG h6 hB) ?_
  refine sw_c (lc_7 W hG h6 hB) ?_
  refine sw_c (lc_8 W hG h6 hB) ?_
  refine sw_c (lc_9 W hG h6 hB) ?_
  refine sw_c (lc_10 W hG h6 hB) ?_
  refine sw_c (lc_11 W hG h6 hB) ?_
  refine sw_c (lc_12 W hG h6 hB) ?_
  refine sw_c (lc_13 W hG h6 hB) ?_
  refine sw_c (lc_14 W hG h6 hB) ?_
  refine sw_c (lc_15 W hG h6 hB) ?_
  refine sw_c (lc_16 W hG h6 hB) ?_
  refine sw_c (lc_17 W hG h6 hB) ?_
  refine sw_c (lc_18 W hG h6 hB) ?_
  refine sw_c (lc_19 W hG h6 hB) ?_
  refine sw_c (lc_20 W hG h6 hB) ?_
  refine sw_c (lc_21 W hG h6 hB) ?_
  refine sw_c (lc_22 W hG h6 hB) ?_
  refine sw_c (lc_23 W hG h6 hB) ?_
  refine sw_c (lc_24 W hG h6 hB) ?_
  refine sw_c (lc_25 W hG h6 hB) ?_
  refine sw_c (lc_26 W hG h6 hB) ?_
  refine sw_c (lc_27 W hG h6 hB) ?_
  refine sw_c (lc_28 W hG h6 hB) ?_
  refine sw_c (lc_29 W hG h6 hB) ?_
  refine sw_c (lc_30 W hG h6 hB) ?_
  refine sw_c (lc_31 W hG h6 hB) ?_
  refine sw_c (lc_32 W hG h6 hB) ?_
  refine sw_c (lc_33 W hG h6 hB) ?_
  refine sw_c (lc_34 W hG h6 hB) ?_
  refine sw_c (lc_35 W hG h6 hB) ?_
  refine sw_c (lc_36 W hG h6 hB) ?_
  refine sw_c (lc_37 W hG h6 hB) ?_
  refine sw_c (lc_38 W hG h6 hB) ?_
  refine sw_c (lc_39 W hG h6 hB) ?_
  refine sw_c (lc_40 W hG h6 hB) ?_
  refine sw_c (lc_41 W hG h6 hB) ?_
  refine sw_c (lc_42 W hG h6 hB) ?_
  refine sw_c (lc_43 W hG h6 hB) ?_
  refine sw_c (lc_44 W hG h6 hB) ?_
  refine sw_c (lc_45 W hG h6 hB) ?_
  refine sw_c (lc_46 W hG h6 hB) ?_
  refine sw_c (lc_47 W hG h6 hB) ?_
  refine sw_c (lc_48 W hG h6 hB) ?_
  refine sw_c (lc_49 W hG h6 hB) ?_
  refine sw_c (lc_50 W hG h6 hB) ?_
  refine sw_c (lc_51 W hG h6 hB) ?_
  refine sw_c (lc_52 W hG h6 hB) ?_
  refine sw_c (lc_53 W hG h6 hB) ?_
  refine sw_c (lc_54 W hG h6 hB) ?_
  refine sw_c (lc_55 W hG h6 hB) ?_
  refine sw_c (lc_56 W hG h6 hB) ?_
  refine sw_c (lc_57 W hG h6 hB) ?_
  refine sw_c (lc_58 W hG h6 hB) ?_
  refine sw_c (lc_59 W hG h6 hB) ?_
  refine sw_c (lc_60 W hG h6 hB) ?_
  exact sw_e (P := Pc G X B c k w) (lc_dfl W)
theorem runN (hG : G.1 ≤ 3072) : ∀ (m k n B c : Nat) (w : ev_W), 6 * (k + m) + 6 > G.1 → 6 * k ≤ 3072 → Wi G X n B c w → B = 600 + c → c = k → ∃ w1, z_R G ev_LAW 28 (z_ls (Int32.ofNat (6 * k))) [] w (.inl (some (.int 1))) w1 ∧ w_c w1 ≤ 2000 ∧ w_z w1 ≤ 30000 := by
  intro m
  induction m with
  | zero =>
    intro k n B c w h1 h2 W hb hc
    obtain ⟨ok_, hX_, i_, fc_, fs_, c_, z_⟩ := W
    exact ⟨w, z_head0 ok_ hG h2 (by omega), by omega, by omega⟩
  | succ m ih_ =>
    intro k n B c w h1 h2 W hb hc
    by_cases h6 : 6 * k + 6 ≤ G.1
    · obtain ⟨n2_, W2_, V_, kk_⟩ := run1 W hG h6 (by omega) (X (6 * k) &&& Int32.ofNat 63)
      obtain ⟨w1_, r_, b1_, b2_⟩ := ih_ (k + 1) n2_ (B + 1) (c + 1) W2_ (by omega) (by omega) V_ (by omega) (by omega)
      refine ⟨w1_, z_head1 W.1 W.2.1 hG h6 (kk_ _ _ ?_), b1_, b2_⟩
      rw [← Int32.ofNat_add, show 6 * k + 6 = 6 * (k + 1) by omega]
      exact r_
    · obtain ⟨ok_, hX_, i_, fc_, fs_, c_, z_⟩ := W
      exact ⟨w, z_head0 ok_ hG h2 (by omega), by omega, by omega⟩
theorem Inv_0 {I : z_H} (h : z_I0 I) : Inv 2 B I := by
  have q_ : ∀ a b x, (a, b, x) ∈ z_i0 → I a b = x := fun a b x hm => h (a, b, x) hm
  have m1_ : I 0 1 = jn 0 := q_ 0 1 0 (by decide)
  have m2_ : I 0 2 = jn 0 := q_ 0 2 0 (by decide)
  have m3_ : I 0 3 = -1 := q_ 0 3 (-1) (by decide)
  have m4_ : I 0 4 = jn 0 := q_ 0 4 0 (by decide)
  have m5_ : I 55 0 = jn 0 := q_ 55 0 0 (by decide)
  have m6_ : I 238 0 = jn 0 := q_ 238 0 0 (by decide)
  have m7_ : I 238 1 = jn 0 := q_ 238 1 0 (by decide)
  have m8_ : I 239 0 = jn 0 := q_ 239 0 0 (by decide)
  have m9_ : I 241 6 = jn 0 := q_ 241 6 0 (by decide)
  have ma_ : I 241 7 = jn 0 := q_ 241 7 0 (by decide)
  have mb_ : I 241 9 = jn 0 := q_ 241 9 0 (by decide)
  have mc_ : I 241 10 = jn 0 := q_ 241 10 0 (by decide)
  have md_ : I 241 11 = -1 := q_ 241 11 (-1) (by decide)
  have me_ : I 241 19 = jn 0 := q_ 241 19 0 (by decide)
  have mf_ : I 246 0 = jn 0 := q_ 246 0 0 (by decide)
  have mg_ : I 246 1 = jn 0 := q_ 246 1 0 (by decide)
  refine ⟨Or.inl rfl, ⟨0, by omega, m1_, mb_, fun k hk => absurd hk (Nat.not_lt_zero _)⟩, ⟨m2_.trans mc_.symm, m3_.trans md_.symm⟩, ⟨[], ⟨m8_, Nat.zero_le _, fun i c hc => by cases hc⟩, ⟨me_, Nat.zero_le _, fun i c hc => by cases hc⟩⟩, Or.inl ⟨m4_, m9_, m5_, ma_, fun k hk => ?_⟩⟩
  have k_ : k = 0 ∨ k = 1 := by omega
  rcases k_ with rfl | rfl
  · exact ⟨m6_, mf_⟩
  · exact ⟨m7_, mg_⟩
/-- the law goes through, over every script -/
theorem law_all (hl : G.2.2.stackTraces = false) (hG : G.1 ≤ 3072) : ∃ w1, z_R G ev_LAW 0 (ev_in 9 [.ref ev_S]) [] (ev_w0 G.1 G.2.1) (.inl (some (.int 1))) w1 ∧ w_c w1 ≤ 2000 ∧ w_z w1 ≤ 30000 := by
  obtain ⟨w_, c_, z_, i0_, ok_, k_⟩ := z_first (G := G) hl
  by_cases hL_ : w_L w_ ev_S = G.1
  · obtain ⟨a_, b_, d_⟩ := ok_ hL_
    have W_ : Wi G (w_I w_ ev_S) 2 600 0 (z_lf w_) := ⟨a_, rfl, Inv_0 i0_, b_, d_, Nat.le_trans c_ (by omega), Nat.le_trans z_ (by omega)⟩
    obtain ⟨w1_, r_, b1_, b2_⟩ := runN hG 600 0 2 600 0 (z_lf w_) (by omega) (by omega) W_ rfl rfl
    exact ⟨w1_, k_ _ _ (z_R_lf r_), b1_, b2_⟩
  · exact ⟨w_, k_ _ _ (z_R_M (Nat.le_refl _) (Nat.le_refl _) (fun h _ => absurd h hL_)), by omega, by omega⟩
end LOOP
