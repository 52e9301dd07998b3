/-! append of a blank, the StringBuilder's constructor: by wip/gen/p64/j98d.py -/
theorem n_can {G : z_G} {w : ev_W} (hl : G.2.2.stackTraces = false)  : z_N G 199 [.int (jn 32)] w (fun v1 w1 => v1 = some (.int (jn 1)) ∧ w1 = w) := by
  refine q_con hl (ml := 1) (by decide +kernel) rfl rfl ?_
  have hB : z_all [z_is 199 0 (zf_iload 0 0 1), z_is 199 1 (zf_cst 1 (jn 255) 4), z_is 199 4 (zf_if2 .gt 4 11 7), z_is 199 7 (zf_cst 7 (jn 1) 8), z_is 199 8 (zf_goto 8 12), z_is 199 12 (zf_ret 1)] = true := by decide +kernel
  refine q_s hB (fun _ _ k => z_iload hB rfl k) (fun hB => ?_)
  refine q_s hB (fun _ _ k => z_cst hB k) (fun hB => ?_)
  refine q_s hB (fun _ _ k => z_ic_gt hB (fun h _ => absurd h ((by decide : ¬ jn 255 < jn 32))) (fun _ => k)) (fun hB => ?_)
  refine q_s hB (fun _ _ k => z_cst hB k) (fun hB => ?_)
  refine q_s hB (fun _ _ k => z_goto hB k) (fun hB => ?_)
  exact q_r (z_retz hB (Or.inr rfl)) ⟨rfl, rfl⟩
theorem n_apC {G : z_G} {w : ev_W} (hl : G.2.2.stackTraces = false) {a b cap : Nat} {l : List Nat} (S : SB w a b cap l) (h2 : l.length + 1 ≤ 300) (hll : w_l w = true) (hn : w_n w < 1000) : z_N G 181 [.ref a, .int (jn 32)] w (fun v1 w1 => v1 = some (.ref a) ∧ SBp w w1 a b (l ++ [32])) := by
  refine q_con hl (ml := 2) (by decide +kernel) rfl rfl ?_
  have hc9 := S.2.2.2.1
  have ha9 := S.1.1
  have hb8 := S.2.1.1
  have k0 := fun w9 => n_k (n_can (w := w9) hl)
  obtain ⟨v5, w5, k5, rfl, b5, cap5, S5, hq5, F5, n5, d5⟩ := n_ens hl S (q := l.length + 1) h2 hll hn
  have k6 := n_k (n_isL hl S5)
  have hB : z_all [z_is 181 0 (zf_aload 0 0 1), z_is 181 1 (zf_aload 1 0 2), z_at 181 2 (zf_gi 2 18 3 5), z_is 181 5 (zf_cst 5 (jn 1) 6), z_is 181 6 (zf_iadd 6 7), z_at 181 7 (zx_cC 7 183 1 10), z_is 181 10 (zf_aload 10 0 11), z_at 181 11 (zx_cC 11 187 0 14), z_is 181 14 (zf_if1 .eq 14 45 17), z_is 181 17 (zf_iload 17 1 18), z_is 181 18 (zf_cs 18 199 1 21), z_is 181 21 (zf_if1 .eq 21 45 24), z_is 181 24 (zf_aload 24 0 25), z_at 181 25 (zf_gr 25 18 0 28), z_is 181 28 (zf_aload 28 0 29), z_at 181 29 (zx_dup 29 30), z_at 181 30 (zf_gi 30 18 3 33), z_at 181 33 (zx_dupx1 33 34), z_is 181 34 (zf_cst 34 (jn 1) 35), z_is 181 35 (zf_iadd 35 36), z_at 181 36 (zf_pi 36 18 3 39), z_is 181 39 (zf_iload 39 1 40), z_is 181 40 (zf_i2b 40 41), z_at 181 41 (zx_bast 41 42), z_is 181 42 (zf_goto 42 75), z_is 181 75 (zf_aload 75 0 76), z_is 181 76 (zf_ret 5)] = true := by decide +kernel
  refine q_s hB (fun _ _ k => z_aload hB rfl k) (fun hB => ?_)
  refine q_s hB (fun _ _ k => z_aload hB rfl k) (fun hB => ?_)
  refine q_s hB (fun _ _ k => x_geti hB S.1.1 S.1.2 k) (fun hB => ?_)
  rw [S.2.2.1.2.2]
  refine q_s hB (fun _ _ k => z_cst hB k) (fun hB => ?_)
  refine q_s hB (fun _ _ k => z_iadd hB k) (fun hB => ?_)
  rw [jn_add]
  refine q_s hB (fun _ _ k => x_cC hB (rest := []) rfl rfl rfl S.1.1 S.1.2 xs_183 k5 k) (fun hB => ?_)
  refine q_s hB (fun _ _ k => z_aload hB rfl k) (fun hB => ?_)
  refine q_s hB (fun _ _ k => x_cC hB (rest := []) rfl rfl rfl S5.1.1 S5.1.2 xs_187 k6 k) (fun hB => ?_)
  refine q_s hB (fun _ _ k => z_if_eq hB (fun h _ => absurd h ((by decide : ¬ jn 1 = 0))) (fun _ => k)) (fun hB => ?_)
  refine q_s hB (fun _ _ k => z_iload hB rfl k) (fun hB => ?_)
  refine q_s hB (fun _ _ k => z_callS hB (rest := []) rfl rfl rfl (k0 w5) k) (fun hB => ?_)
  refine q_s hB (fun _ _ k => z_if_eq hB (fun h _ => absurd h ((by decide : ¬ jn 1 = 0))) (fun _ => k)) (fun hB => ?_)
  refine q_s hB (fun _ _ k => z_aload hB rfl k) (fun hB => ?_)
  refine q_s hB (fun _ _ k => x_getr hB S5.1.1 S5.1.2 S5.2.2.1.1 k) (fun hB => ?_)
  refine q_s hB (fun _ _ k => z_aload hB rfl k) (fun hB => ?_)
  refine q_s hB (fun _ _ k => x_dup hB rfl k) (fun hB => ?_)
  refine q_s hB (fun _ _ k => x_geti hB S5.1.1 S5.1.2 k) (fun hB => ?_)
  rw [S5.2.2.1.2.2]
  refine q_s hB (fun _ _ k => x_dupx1 hB rfl rfl k) (fun hB => ?_)
  refine q_s hB (fun _ _ k => z_cst hB k) (fun hB => ?_)
  refine q_s hB (fun _ _ k => z_iadd hB k) (fun hB => ?_)
  rw [jn_add]
  refine q_s hB (fun _ _ k => x_puti hB S5.1.1 S5.1.2 k) (fun hB => ?_)
  refine q_s hB (fun _ _ k => z_iload hB rfl k) (fun hB => ?_)
  refine q_s hB (fun _ _ k => z_i2b hB k) (fun hB => ?_)
  rw [show (jn 32).toInt8.toInt32 = jn 32 from by decide]
  refine q_s hB (fun _ _ k => x_bast hB S5.2.1.1 S5.2.1.2 (by show ev_ok _ (w_L w5 b5) = true; rw [S5.2.2.2.1.1]; exact jn_ok (by omega) (by omega)) k) (fun hB => ?_)
  rw [jn_n (by omega), jnar (by omega)]
  refine q_s hB (fun _ _ k => z_goto hB k) (fun hB => ?_)
  refine q_s hB (fun _ _ k => z_aload hB rfl k) (fun hB => ?_)
  refine q_r (z_reta hB) ⟨rfl, b5, cap5, SB_mk S5 (w' := w_sI (w_sI w5 a 3 (jn (l.length + 1))) b5 l.length (jn 32)) (s := [32]) (Nat.le_refl _) rfl rfl rfl rfl ((sI_ne (fun q => S5.ne q.1)).trans (sI_ne (by omega))) ((sI_ne (fun q => S5.ne q.1)).trans sI_at) hq5 (by simp) (fun i => ?_), F5.tr ((FR_I (by omega)).tr (FR_I (by have := S5.2.1.1; omega)) (Z := fun x => x = a ∨ x = b5) (fun _ _ q => Or.inl q) (fun _ _ q => Or.inr q)) (fun _ _ q => Or.inl q) (fun x hx q => by rcases q with q | q; exact Or.inl q; rcases d5 with d5 | d5; exact Or.inr (q.trans d5); omega), n5, d5⟩
  by_cases q : i = l.length
  · rw [q, sI_at, if_pos (by simp), Nat.sub_self]; rfl
  · rw [sI_ne (fun z => q z.2), if_neg (by simp; omega), sI_na (fun q => S5.ne q.symm)]
theorem n_appC {G : z_G} {w : ev_W} (hl : G.2.2.stackTraces = false) {a b cap : Nat} {l : List Nat} (S : SB w a b cap l) (h2 : l.length + 1 ≤ 300) (hll : w_l w = true) (hn : w_n w < 1000) : z_N G 175 [.ref a, .int (jn 32)] w (fun v1 w1 => v1 = some (.ref a) ∧ SBp w w1 a b (l ++ [32])) := by
  refine q_con hl (ml := 2) (by decide +kernel) rfl rfl ?_
  obtain ⟨v5, w5, k5, rfl, h5⟩ := n_apC hl S h2 hll hn
  have hB : z_all [z_is 175 0 (zf_aload 0 0 1), z_is 175 1 (zf_iload 1 1 2), z_at 175 2 (zx_cS 2 181 1 5), z_at 175 5 (zx_pop 5 6), z_is 175 6 (zf_aload 6 0 7), z_is 175 7 (zf_ret 5)] = true := by decide +kernel
  refine q_s hB (fun _ _ k => z_aload hB rfl k) (fun hB => ?_)
  refine q_s hB (fun _ _ k => z_iload hB rfl k) (fun hB => ?_)
  refine q_s hB (fun _ _ k => x_cS hB (rest := []) rfl rfl rfl S.1.1 S.1.2 xs_181 k5 k) (fun hB => ?_)
  refine q_s hB (fun _ _ k => x_pop hB rfl k) (fun hB => ?_)
  refine q_s hB (fun _ _ k => z_aload hB rfl k) (fun hB => ?_)
  exact q_r (z_reta hB) ⟨rfl, h5⟩
theorem nw_I0 {w : ev_W} {k n : Nat} : w_I (w_nw w k n) (w_n w) = fun _ => 0 := ev_u1_at _ _ _
theorem jbig4 {m : Nat} (h : m < 100000) : jn m < jn 2147483631 := by
  rw [Int32.lt_iff_toInt_lt, jn_toInt h, show (jn 2147483631).toInt = 2147483631 from by decide]
  omega
theorem n_sb0 {G : z_G} {w : ev_W} (hl : G.2.2.stackTraces = false) {a : Nat} (ha : a < w_n w) (hk : w_K w a = 18) (h3 : w_I w a 3 = 0) {k9 : Nat} (hk9 : k9 < 29) (hll : w_l w = true) (hn : w_n w < 999) : z_N G 179 [.ref a, .ref (ev_S + 1 + k9)] w (fun v1 w1 => v1 = none ∧ ∃ b1 cap1, SB w1 a b1 cap1 (zs_tx k9) ∧ FR (fun x => x = a) w w1 ∧ w_n w1 ≤ w_n w + 2 ∧ w_n w ≤ b1) := by
  refine q_con hl (ml := 5) (by decide +kernel) rfl rfl ?_
  have hq9 : zs_ln k9 ≤ 100 := (zs_txa ⟨k9, hk9⟩).1
  have an : ¬ a = w_n w := Nat.ne_of_lt ha
  have S0 : SB (w_sR (w_nw (w_sI w a 1 0) 9 (zs_ln k9 + 16)) a 0 (some (w_n w))) a (w_n w) (zs_ln k9 + 16) [] := by
    refine ⟨⟨Nat.lt_succ_of_lt ha, (nw_Kb (w := w_sI w a 1 0) (k := 9) (n := zs_ln k9 + 16) ha).trans hk⟩, ⟨Nat.lt_succ_self _, nw_K (w := w_sI w a 1 0) (k := 9) (n := zs_ln k9 + 16)⟩, ⟨sR_at, ?_, ?_⟩, ⟨nw_L (w := w_sI w a 1 0) (k := 9) (n := zs_ln k9 + 16), Nat.zero_le _, by omega⟩, fun i hi => absurd hi (Nat.not_lt_zero _), fun x hx => absurd hx List.not_mem_nil, fun i => ?_⟩
    · show w_I (w_nw (w_sI w a 1 0) 9 (zs_ln k9 + 16)) a 1 = 0
      rw [nw_Ib (w := w_sI w a 1 0) ha, sI_at]
    · show w_I (w_nw (w_sI w a 1 0) 9 (zs_ln k9 + 16)) a 3 = _
      rw [nw_Ib (w := w_sI w a 1 0) ha, sI_ne (by omega), h3]; rfl
    · show fits .byte (.int (w_I (w_nw (w_sI w a 1 0) 9 (zs_ln k9 + 16)) (w_n (w_sI w a 1 0)) i)) = true
      rw [nw_I0]; rfl
  have F0 : FR (fun x => x = a) w (w_sR (w_nw (w_sI w a 1 0) 9 (zs_ln k9 + 16)) a 0 (some (w_n w))) := (FR_I (by omega)).tr ((FR_nw (w := w_sI w a 1 0) (by show w_n w < 1001; omega) (by omega)).tr FR_R (Z := fun x => x = a) (fun _ _ q => q.elim) (fun _ _ q => q)) (fun _ _ q => q) (fun _ _ q => q)
  obtain ⟨v5, w5, k5, rfl, b5, cap5, S5, F5, n5, d5⟩ := n_appB hl S0 hk9 (by simp; omega) hll (by show w_n w + 1 < 1000; omega)
  have k7 := n_k (n_xcod (w := w) hl hk9)
  have n6 : w_n w5 ≤ w_n w + 1 + 1 := n5
  have hB : z_all [z_is 179 0 (zf_aload 0 0 1), z_is 179 1 (zx_obj 1 4), z_is 179 4 (zf_aload 4 1 5), z_at 179 5 (zf_str 5 105 8), z_is 179 8 (zf_istore 8 2 9), z_is 179 9 (zf_iload 9 2 10), z_at 179 10 (zx_ldci 10 (jn 2147483631) 12), z_is 179 12 (zf_if2 .ge 12 22 15), z_is 179 15 (zf_iload 15 2 16), z_is 179 16 (zf_cst 16 (jn 16) 18), z_is 179 18 (zf_iadd 18 19), z_is 179 19 (zf_goto 19 24), z_is 179 24 (zf_istore 24 3 25), z_is 179 25 (zf_aload 25 1 26), z_at 179 26 (zx_cX 26 195 0 29), z_is 179 29 (zf_istore 29 4 31), z_is 179 31 (zf_aload 31 0 32), z_is 179 32 (zf_iload 32 4 34), z_at 179 34 (zf_pb 34 18 1 37), z_is 179 37 (zf_aload 37 0 38), z_is 179 38 (zf_iload 38 4 40), z_is 179 40 (zf_if1 .ne 40 49 43), z_is 179 43 (zf_iload 43 3 44), z_at 179 44 (zx_newa 44 9 46), z_is 179 46 (zf_goto 46 53), z_at 179 53 (zf_pr 53 18 0 56), z_is 179 56 (zf_aload 56 0 57), z_is 179 57 (zf_aload 57 1 58), z_at 179 58 (zx_cUa 58 177 1 61), z_at 179 61 (zx_pop 61 62), z_is 179 62 (zf_ret 6)] = true := by decide +kernel
  refine q_s hB (fun _ _ k => z_aload hB rfl k) (fun hB => ?_)
  refine q_s hB (fun _ _ k => x_obj hB rfl k) (fun hB => ?_)
  refine q_s hB (fun _ _ k => z_aload hB rfl k) (fun hB => ?_)
  refine q_s hB (fun _ _ k => x_strl hB hk9 rfl k) (fun hB => ?_)
  refine q_s hB (fun _ _ k => z_istore hB rfl rfl k) (fun hB => ?_)
  refine q_s hB (fun _ _ k => z_iload hB rfl k) (fun hB => ?_)
  refine q_s hB (fun _ _ k => x_ldci hB k) (fun hB => ?_)
  refine q_s hB (fun _ _ k => z_ic_ge hB (fun h _ => absurd ((jbig4 (by omega))) h) (fun _ => k)) (fun hB => ?_)
  refine q_s hB (fun _ _ k => z_iload hB rfl k) (fun hB => ?_)
  refine q_s hB (fun _ _ k => z_cst hB k) (fun hB => ?_)
  refine q_s hB (fun _ _ k => z_iadd hB k) (fun hB => ?_)
  rw [jn_add]
  refine q_s hB (fun _ _ k => z_goto hB k) (fun hB => ?_)
  refine q_s hB (fun _ _ k => z_istore hB rfl rfl k) (fun hB => ?_)
  refine q_s hB (fun _ _ k => z_aload hB rfl k) (fun hB => ?_)
  refine q_s hB (fun _ _ k => x_cX hB (rest := []) rfl rfl rfl hk9 k7 k) (fun hB => ?_)
  refine q_s hB (fun _ _ k => z_istore hB rfl rfl k) (fun hB => ?_)
  refine q_s hB (fun _ _ k => z_aload hB rfl k) (fun hB => ?_)
  refine q_s hB (fun _ _ k => z_iload hB rfl k) (fun hB => ?_)
  refine q_s hB (fun _ _ k => x_putb hB ha hk (Or.inl rfl) k) (fun hB => ?_)
  refine q_s hB (fun _ _ k => z_aload hB rfl k) (fun hB => ?_)
  refine q_s hB (fun _ _ k => z_iload hB rfl k) (fun hB => ?_)
  refine q_s hB (fun _ _ k => z_if_ne hB (fun h _ => absurd (rfl) h) (fun _ => k)) (fun hB => ?_)
  refine q_s hB (fun _ _ k => z_iload hB rfl k) (fun hB => ?_)
  refine q_s hB (fun _ _ k => x_newa hB hll (show w_n w < 1000 from by omega) (jn_ok (by omega) (by omega)) k) (fun hB => ?_)
  refine q_s hB (fun _ _ k => z_goto hB k) (fun hB => ?_)
  rw [jn_n (by omega)]
  refine q_s hB (fun _ _ k => x_putr hB (Nat.lt_succ_of_lt ha) ((nw_Kb (w := w_sI w a 1 0) (k := 9) (n := zs_ln k9 + 16) ha).trans hk) k) (fun hB => ?_)
  refine q_s hB (fun _ _ k => z_aload hB rfl k) (fun hB => ?_)
  refine q_s hB (fun _ _ k => z_aload hB rfl k) (fun hB => ?_)
  refine q_s hB (fun _ _ k => x_cUa hB (rest := []) rfl rfl rfl (Nat.lt_succ_of_lt ha) ((nw_Kb (w := w_sI w a 1 0) (k := 9) (n := zs_ln k9 + 16) ha).trans hk) k5 k) (fun hB => ?_)
  refine q_s hB (fun _ _ k => x_pop hB rfl k) (fun hB => ?_)
  exact q_r (z_retv hB) ⟨rfl, b5, cap5, S5, F0.tr F5 (fun _ _ q => q) (fun x hx q => by rcases q with q | q; exact q; omega), n6, by rcases d5 with d5 | d5; omega; have d6 : w_n w + 1 ≤ b5 := d5; omega⟩
theorem n_sb {G : z_G} {w : ev_W} (hl : G.2.2.stackTraces = false) {a : Nat} (ha : a < w_n w) (hk : w_K w a = 18) (h3 : w_I w a 3 = 0) {k9 : Nat} (hk9 : k9 < 29) (hll : w_l w = true) (hn : w_n w < 999) : z_N G 173 [.ref a, .ref (ev_S + 1 + k9)] w (fun v1 w1 => v1 = none ∧ ∃ b1 cap1, SB w1 a b1 cap1 (zs_tx k9) ∧ FR (fun x => x = a) w w1 ∧ w_n w1 ≤ w_n w + 2 ∧ w_n w ≤ b1) := by
  refine q_con hl (ml := 2) (by decide +kernel) rfl rfl ?_
  obtain ⟨v5, w5, k5, rfl, h5⟩ := n_sb0 hl ha hk h3 hk9 hll hn
  have hB : z_all [z_is 173 0 (zf_aload 0 0 1), z_is 173 1 (zf_aload 1 1 2), z_at 173 2 (zx_cI 2 179 1 5), z_is 173 5 (zf_ret 6)] = true := by decide +kernel
  refine q_s hB (fun _ _ k => z_aload hB rfl k) (fun hB => ?_)
  refine q_s hB (fun _ _ k => z_aload hB rfl k) (fun hB => ?_)
  refine q_s hB (fun _ _ k => x_cI hB (rest := []) rfl rfl rfl ha k5 k) (fun hB => ?_)
  exact q_r (z_retv hB) ⟨rfl, h5⟩
