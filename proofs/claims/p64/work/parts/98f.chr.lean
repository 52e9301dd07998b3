/-! a String's length and letters: by wip/gen/p64/j98f.py -/
theorem STR.len {w : ev_W} {s v : Nat} {l : List Nat} (S : STR w s v l) : Int32.ofNat (w_L w v) = jn l.length := by rw [S.2.1.2.2]; rfl
theorem jchr : ∀ q : Fin 128, ((jn q.val &&& jn 255).toUInt32 % 65536).toInt32 = jn q.val ∧ (0 ≤ jn q.val ∧ jn q.val < 256) := by decide +kernel
theorem STR.chr {w : ev_W} {s v : Nat} {l : List Nat} (S : STR w s v l) {i : Nat} (hi : i < l.length) : w_I w v i = jn (l.getD i 0) ∧ l.getD i 0 < 128 := by
  refine ⟨S.2.2.2.2.1 i hi, S.2.2.2.2.2 _ ?_⟩
  rw [List.getD_eq_getElem?_getD, List.getElem?_eq_getElem hi]
  exact List.getElem_mem hi
theorem n_cod {G : z_G} {w : ev_W} (hl : G.2.2.stackTraces = false) {s v : Nat} {l : List Nat} (S : STR w s v l) : z_N G 195 [.ref s] w (fun v1 w1 => v1 = some (.int 0) ∧ w1 = w) := by
  refine q_con hl (ml := 1) (by decide +kernel) rfl rfl ?_
  have hB : z_all [z_at 195 0 (zx_cs19 0 3), z_is 195 3 (zf_if1 .eq 3 13 6), z_is 195 6 (zf_aload 6 0 7), z_at 195 7 (zf_gi 7 19 1 10), z_is 195 10 (zf_goto 10 14), z_is 195 14 (zx_ret 0)] = true := by decide +kernel
  refine q_s hB (fun _ _ k => x_cs19 hB k) (fun hB => ?_)
  refine q_s hB (fun _ _ k => z_if_eq hB (fun h _ => absurd h (by decide)) (fun _ => k)) (fun hB => ?_)
  refine q_s hB (fun _ _ k => z_aload hB rfl k) (fun hB => ?_)
  refine q_s hB (fun _ _ k => x_geti hB S.1.1 S.1.2 k) (fun hB => ?_)
  rw [S.2.2.1.2]
  refine q_s hB (fun _ _ k => z_goto hB k) (fun hB => ?_)
  exact q_r (x_retb hB (Or.inl rfl)) ⟨rfl, rfl⟩
theorem n_isL1 {G : z_G} {w : ev_W} (hl : G.2.2.stackTraces = false) {s v : Nat} {l : List Nat} (S : STR w s v l) : z_N G 196 [.ref s] w (fun v1 w1 => v1 = some (.int (jn 1)) ∧ w1 = w) := by
  refine q_con hl (ml := 1) (by decide +kernel) rfl rfl ?_
  have hB : z_all [z_at 196 0 (zx_cs19 0 3), z_is 196 3 (zf_if1 .eq 3 17 6), z_is 196 6 (zf_aload 6 0 7), z_at 196 7 (zf_gi 7 19 1 10), z_is 196 10 (zf_if1 .ne 10 17 13), z_is 196 13 (zf_cst 13 (jn 1) 14), z_is 196 14 (zf_goto 14 18), z_is 196 18 (zf_ret 1)] = true := by decide +kernel
  refine q_s hB (fun _ _ k => x_cs19 hB k) (fun hB => ?_)
  refine q_s hB (fun _ _ k => z_if_eq hB (fun h _ => absurd h (by decide)) (fun _ => k)) (fun hB => ?_)
  refine q_s hB (fun _ _ k => z_aload hB rfl k) (fun hB => ?_)
  refine q_s hB (fun _ _ k => x_geti hB S.1.1 S.1.2 k) (fun hB => ?_)
  refine q_s hB (fun _ _ k => z_if_ne hB (fun h _ => absurd (S.2.2.1.2) h) (fun _ => k)) (fun hB => ?_)
  refine q_s hB (fun _ _ k => z_cst hB k) (fun hB => ?_)
  refine q_s hB (fun _ _ k => z_goto hB k) (fun hB => ?_)
  exact q_r (z_retz hB (Or.inr rfl)) ⟨rfl, rfl⟩
theorem n_slen {G : z_G} {w : ev_W} (hl : G.2.2.stackTraces = false) {s v : Nat} {l : List Nat} (S : STR w s v l) : z_N G 192 [.ref s] w (fun v1 w1 => v1 = some (.int (jn l.length)) ∧ w1 = w) := by
  refine q_con hl (ml := 1) (by decide +kernel) rfl rfl ?_
  have k1 := n_k (n_cod hl S)
  have hB : z_all [z_is 192 0 (zf_aload 0 0 1), z_at 192 1 (zf_gr 1 19 0 4), z_at 192 4 (zx_alen 4 5), z_is 192 5 (zf_aload 5 0 6), z_is 192 6 (zf_cv 6 195 0 19 9), z_is 192 9 (zf_ishr 9 10), z_is 192 10 (zf_ret 0)] = true := by decide +kernel
  refine q_s hB (fun _ _ k => z_aload hB rfl k) (fun hB => ?_)
  refine q_s hB (fun _ _ k => x_getr hB S.1.1 S.1.2 S.2.2.1.1 k) (fun hB => ?_)
  refine q_s hB (fun _ _ k => x_alen hB S.2.1.1 (by rw [S.2.1.2.1]; omega) (by rw [S.2.1.2.1]; omega) k) (fun hB => ?_)
  refine q_s hB (fun _ _ k => z_aload hB rfl k) (fun hB => ?_)
  refine q_s hB (fun _ _ k => z_callV hB (rest := [.int (Int32.ofNat (w_L w v))]) rfl rfl rfl S.1.1 S.1.2 k1 k) (fun hB => ?_)
  refine q_s hB (fun _ _ k => z_ishr hB k) (fun hB => ?_)
  rw [js0, S.len]
  exact q_r (z_reti hB) ⟨rfl, rfl⟩
theorem n_chr {G : z_G} {w : ev_W} (hl : G.2.2.stackTraces = false) {s v : Nat} {l : List Nat} (S : STR w s v l) {i : Nat} (hi : i < l.length) : z_N G 198 [.ref v, .int (jn i)] w (fun v1 w1 => v1 = some (.int (jn (l.getD i 0))) ∧ w1 = w) := by
  refine q_con hl (ml := 2) (by decide +kernel) rfl rfl ?_
  have h3 := S.2.2.2.1
  obtain ⟨c1, c2⟩ := S.chr hi
  obtain ⟨d1, d2⟩ := jchr ⟨_, c2⟩
  have hB : z_all [z_is 198 0 (zf_iload 0 1 1), z_is 198 1 (zf_aload 1 0 2), z_at 198 2 (zx_alen 2 3), z_at 198 3 (zx_chk 3 6), z_is 198 6 (zf_aload 6 0 7), z_is 198 7 (zf_iload 7 1 8), z_at 198 8 (zx_bald 8 9), z_is 198 9 (zf_cst 9 (jn 255) 12), z_is 198 12 (zf_iand 12 13), z_at 198 13 (zx_i2c 13 14), z_is 198 14 (zf_ret 2)] = true := by decide +kernel
  refine q_s hB (fun _ _ k => z_iload hB rfl k) (fun hB => ?_)
  refine q_s hB (fun _ _ k => z_aload hB rfl k) (fun hB => ?_)
  refine q_s hB (fun _ _ k => x_alen hB S.2.1.1 (by rw [S.2.1.2.1]; omega) (by rw [S.2.1.2.1]; omega) k) (fun hB => ?_)
  rw [S.len]
  refine q_s hB (fun _ _ k => x_chk hB (jpos (by omega)) (by rw [jn_lt (by omega) (by omega)]; exact hi) rfl k) (fun hB => ?_)
  refine q_s hB (fun _ _ k => z_aload hB rfl k) (fun hB => ?_)
  refine q_s hB (fun _ _ k => z_iload hB rfl k) (fun hB => ?_)
  refine q_s hB (fun _ _ k => x_bald hB S.2.1.1 S.2.1.2.1 (Or.inl rfl) (by rw [S.2.1.2.2]; exact jn_ok (by omega) hi) k) (fun hB => ?_)
  rw [jn_n (by omega), c1]
  refine q_s hB (fun _ _ k => z_cst hB k) (fun hB => ?_)
  refine q_s hB (fun _ _ k => z_iand hB k) (fun hB => ?_)
  refine q_s hB (fun _ _ k => x_i2c hB k) (fun hB => ?_)
  rw [d1]
  exact q_r (z_retc hB (d2)) ⟨rfl, rfl⟩
theorem n_chrA {G : z_G} {w : ev_W} (hl : G.2.2.stackTraces = false) {s v : Nat} {l : List Nat} (S : STR w s v l) {i : Nat} (hi : i < l.length) : z_N G 193 [.ref s, .int (jn i)] w (fun v1 w1 => v1 = some (.int (jn (l.getD i 0))) ∧ w1 = w) := by
  refine q_con hl (ml := 2) (by decide +kernel) rfl rfl ?_
  obtain ⟨c1, c2⟩ := S.chr hi
  obtain ⟨d1, d2⟩ := jchr ⟨_, c2⟩
  have k1 := n_k (n_isL1 hl S)
  have k2 := n_k (n_chr hl S hi)
  have hB : z_all [z_is 193 0 (zf_aload 0 0 1), z_is 193 1 (zf_cv 1 196 0 19 4), z_is 193 4 (zf_if1 .eq 4 16 7), z_is 193 7 (zf_aload 7 0 8), z_at 193 8 (zf_gr 8 19 0 11), z_is 193 11 (zf_iload 11 1 12), z_is 193 12 (zf_cs 12 198 2 15), z_is 193 15 (zf_ret 2)] = true := by decide +kernel
  refine q_s hB (fun _ _ k => z_aload hB rfl k) (fun hB => ?_)
  refine q_s hB (fun _ _ k => z_callV hB (rest := []) rfl rfl rfl S.1.1 S.1.2 k1 k) (fun hB => ?_)
  refine q_s hB (fun _ _ k => z_if_eq hB (fun h _ => absurd h ((by decide : ¬ jn 1 = 0))) (fun _ => k)) (fun hB => ?_)
  refine q_s hB (fun _ _ k => z_aload hB rfl k) (fun hB => ?_)
  refine q_s hB (fun _ _ k => x_getr hB S.1.1 S.1.2 S.2.2.1.1 k) (fun hB => ?_)
  refine q_s hB (fun _ _ k => z_iload hB rfl k) (fun hB => ?_)
  refine q_s hB (fun _ _ k => z_callS hB (rest := []) rfl rfl rfl k2 k) (fun hB => ?_)
  exact q_r (z_retc hB (d2)) ⟨rfl, rfl⟩
