/-! append of a blank, the StringBuilder's constructor: by wip/gen/p64/j98d.py -/
theorem n_can {G : z_G} {w : ev_W} (hl : G.2.2.stackTraces = false)  : z_N G 199 [.int (jn 32)] w (fun v1 w1 => v1 = some (.int (jn 1)) ∧ w1 = w) := by
  refine q_con hl (ml := 1) (by decide +kernel) rfl rfl ?_
  have hB : z_all [z_is 199 0 (zf_iload 0 0 1), z_is 199 1 (zf_cst 1 (jn 255) 4), z_is 199 4 (zf_if2 .gt 4 11 7), z_is 199 7 (zf_cst 7 (jn 1) 8), z_is 199 8 (zf_goto 8 12), z_is 199 12 (zf_ret 1)] = true := by decide +kernel
  refine q_s hB (fun _ _ k => z_iload hB rfl k) (fun hB => ?_)
  refine q_s hB (fun _ _ k => z_cst hB k) (fun hB => ?_)
  refine q_s hB (fun _ _ k => z_ic_gt hB (fun h _ => absurd h ((by decide : ¬ jn 255 < jn 32))) (fun _ => k)) (fun hB => ?_)
  refine q_s hB (fun _ _ k => z_cst hB k) (fun hB => ?_)
  refine q_s hB (fun _ _ k => z_goto hB k) (fun hB => ?_)
  exact q_r (z_retz hB (Or.inr rfl)) ⟨rfl, rfl⟩
theorem n_apC {G : z_G} {w : ev_W} (hl : G.2.2.stackTraces = false) {a b cap : Nat} {l : List Nat} (S : SB w a b cap l) (h2 : l.length + 1 ≤ 300) (hll : w_l w = true) (hn : w_n w < 1000) : z_N G 181 [.ref a, .int (jn 32)] w (fun v1 w1 => v1 = some (.ref a) ∧ SBp w w1 a b (l ++ [32])) := by
  refine q_con hl (ml := 2) (by decide +kernel) rfl rfl ?_
  have hc9 := S.2.2.2.1
  have k0 := fun w9 => n_k (n_can (w := w9) hl)
  obtain ⟨v5, w5, k5, rfl, b5, cap5, S5, hq5, F5, n5, d5⟩ := n_ens hl S (q := l.length + 1) h2 hll hn
  have k6 := n_k (n_isL hl S5)
  have hB : z_all [z_is 181 0 (zf_aload 0 0 1), z_is 181 1 (zf_aload 1 0 2), z_at 181 2 (zf_gi 2 18 3 5), z_is 181 5 (zf_cst 5 (jn 1) 6), z_is 181 6 (zf_iadd 6 7), z_at 181 7 (zx_cC 7 183 1 10), z_is 181 10 (zf_aload 10 0 11), z_at 181 11 (zx_cC 11 187 0 14), z_is 181 14 (zf_if1 .eq 14 45 17), z_is 181 17 (zf_iload 17 1 18), z_is 181 18 (zf_cs 18 199 1 21), z_is 181 21 (zf_if1 .eq 21 45 24), z_is 181 24 (zf_aload 24 0 25), z_at 181 25 (zf_gr 25 18 0 28), z_is 181 28 (zf_aload 28 0 29), z_at 181 29 (zx_dup 29 30), z_at 181 30 (zf_gi 30 18 3 33), z_at 181 33 (zx_dupx1 33 34), z_is 181 34 (zf_cst 34 (jn 1) 35), z_is 181 35 (zf_iadd 35 36), z_at 181 36 (zf_pi 36 18 3 39), z_is 181 39 (zf_iload 39 1 40), z_is 181 40 (zf_i2b 40 41), z_at 181 41 (zx_bast 41 42), z_is 181 42 (zf_goto 42 75), z_is 181 75 (zf_aload 75 0 76), z_is 181 76 (zf_ret 5)] = true := by decide +kernel
  refine q_s hB (fun _ _ k => z_aload hB rfl k) (fun hB => ?_)
  refine q_s hB (fun _ _ k => z_aload hB rfl k) (fun hB => ?_)
  refine q_s hB (fun _ _ k => x_geti hB S.1.1 S.1.2 k) (fun hB => ?_)
  rw [S.2.2.1.2.2]
  refine q_s hB (fun _ _ k => z_cst hB k) (fun hB => ?_)
  refine q_s hB (fun _ _ k => z_iadd hB k) (fun hB => ?_)
  rw [jn_add]
  refine q_s hB (fun _ _ k => x_cC hB (rest := []) rfl rfl rfl S.1.1 S.1.2 xs_183 k5 k) (fun hB => ?_)
  refine q_s hB (fun _ _ k => z_aload hB rfl k) (fun hB => ?_)
  refine q_s hB (fun _ _ k => x_cC hB (rest := []) rfl rfl rfl S5.1.1 S5.1.2 xs_187 k6 k) (fun hB => ?_)
  refine q_s hB (fun _ _ k => z_if_eq hB (fun h _ => absurd h ((by decide : ¬ jn 1 = 0))) (fun _ => k)) (fun hB => ?_)
  refine q_s hB (fun _ _ k => z_iload hB rfl k) (fun hB => ?_)
  refine q_s hB (fun _ _ k => z_callS hB (rest := []) rfl rfl rfl (k0 w5) k) (fun hB => ?_)
  refine q_s hB (fun _ _ k => z_if_eq hB (fun h _ => absurd h ((by decide : ¬ jn 1 = 0))) (fun _ => k)) (fun hB => ?_)
  refine q_s hB (fun _ _ k => z_aload hB rfl k) (fun hB => ?_)
  refine q_s hB (fun _ _ k => x_getr hB S5.1.1 S5.1.2 S5.2.2.1.1 k) (fun hB => ?_)
  refine q_s hB (fun _ _ k => z_aload hB rfl k) (fun hB => ?_)
  refine q_s hB (fun _ _ k => x_dup hB rfl k) (fun hB => ?_)
  refine q_s hB (fun _ _ k => x_geti hB S5.1.1 S5.1.2 k) (fun hB => ?_)
  rw [S5.2.2.1.2.2]
  refine q_s hB (fun _ _ k => x_dupx1 hB rfl rfl k) (fun hB => ?_)
  refine q_s hB (fun _ _ k => z_cst hB k) (fun hB => ?_)
  refine q_s hB (fun _ _ k => z_iadd hB k) (fun hB => ?_)
  rw [jn_add]
  refine q_s hB (fun _ _ k => x_puti hB S5.1.1 S5.1.2 k) (fun hB => ?_)
  refine q_s hB (fun _ _ k => z_iload hB rfl k) (fun hB => ?_)
  refine q_s hB (fun _ _ k => z_i2b hB k) (fun hB => ?_)
  rw [show (jn 32).toInt8.toInt32 = jn 32 from by decide]
  refine q_s hB (fun _ _ k => x_bast hB S5.2.1.1 S5.2.1.2 (by show ev_ok _ (w_L w5 b5) = true; rw [S5.2.2.2.1.1]; exact jn_ok (by omega) (by omega)) k) (fun hB => ?_)
  rw [jn_n (by omega), jnar (by omega)]
  refine q_s hB (fun _ _ k => z_goto hB k) (fun hB => ?_)
  refine q_s hB (fun _ _ k => z_aload hB rfl k) (fun hB => ?_)
  refine q_r (z_reta hB) ⟨rfl, b5, cap5, SB_mk S5 (w' := w_sI (w_sI w5 a 3 (jn (l.length + 1))) b5 l.length (jn 32)) (s := [32]) (Nat.le_refl _) rfl rfl rfl rfl ((sI_ne (fun q => S5.ne q.1)).trans (sI_ne (by omega))) ((sI_ne (fun q => S5.ne q.1)).trans sI_at) hq5 (by simp) (fun i => ?_), F5.tr ((FR_I (by omega)).tr (FR_I (by have := S5.2.1.1; omega)) (Z := fun x => x = a ∨ x = b5) (fun _ _ q => Or.inl q) (fun _ _ q => Or.inr q)) (fun _ _ q => Or.inl q) (fun x hx q => by rcases q with q | q; exact Or.inl q; rcases d5 with d5 | d5; exact Or.inr (q.trans d5); omega), n5, d5⟩
  by_cases q : i = l.length
  · rw [q, sI_at, if_pos (by simp), Nat.sub_self]; rfl
  · rw [sI_ne (fun z => q z.2), if_neg (by simp; omega), sI_na (fun q => S5.ne q.symm)]
theorem n_appC {G : z_G} {w : ev_W} (hl : G.2.2.stackTraces = false) {a b cap : Nat} {l : List Nat} (S : SB w a b cap l) (h2 : l.length + 1 ≤ 300) (hll : w_l w = true) (hn : w_n w < 1000) : z_N G 175 [.ref a, .int (jn 32)] w (fun v1 w1 => v1 = some (.ref a) ∧ SBp w w1 a b (l ++ [32])) := by
  refine q_con hl (ml := 2) (by decide +kernel) rfl rfl ?_
  obtain ⟨v5, w5, k5, rfl, h5⟩ := n_apC hl S h2 hll hn
  have hB : z_all [z_is 175 0 (zf_aload 0 0 1), z_is 175 1 (zf_iload 1 1 2), z_at 175 2 (zx_cS 2 181 1 5), z_at 175 5 (zx_pop 5 6), z_is 175 6 (zf_aload 6 0 7), z_is 175 7 (zf_ret 5)] = true := by decide +kernel
  refine q_s hB (fun _ _ k => z_aload hB rfl k) (fun hB => ?_)
  refine q_s hB (fun _ _ k => z_iload hB rfl k) (fun hB => ?_)
  refine q_s hB (fun _ _ k => x_cS hB (rest := []) rfl rfl rfl S.1.1 S.1.2 xs_181 k5 k) (fun hB => ?_)
  refine q_s hB (fun _ _ k => x_pop hB rfl k) (fun hB => ?_)
  refine q_s hB (fun _ _ k => z_aload hB rfl k) (fun hB => ?_)
  exact q_r (z_reta hB) ⟨rfl, h5⟩
