/-! append of a String constant: by wip/gen/p64/j98b.py -/
theorem jpos {m : Nat} (h : m < 100000) : ¬ jn m < 0 := by
  rw [Int32.lt_iff_toInt_lt, jn_toInt h]
  show ¬ ((m : Int) < 0)
  omega
theorem n_copyOf {G : z_G} {w : ev_W} (hl : G.2.2.stackTraces = false) {a b cap : Nat} {l : List Nat} (S : SB w a b cap l) {m : Nat} (h1 : cap < m) (h2 : m ≤ 700) (hll : w_l w = true) (hn : w_n w < 1000) : z_N G 205 [.ref b, .int (jn m)] w (fun v w1 => v = some (.ref (w_n w)) ∧ ∃ f, w1 = w_cp (w_nw w 9 m) (w_n w) f ∧ ∀ i, f i = if i < cap then w_I w b i else 0) := by
  refine q_con hl (ml := 3) (by decide +kernel) rfl rfl ?_
  have hc9 := S.2.2.2.1
  have ha9 := S.1.1
  have hb8 := S.2.1.1
  have hB : z_all [z_is 205 0 (zf_iload 0 1 1), z_is 205 1 (zf_aload 1 0 2), z_at 205 2 (zx_alen 2 3), z_is 205 3 (zf_if2 .ne 3 14 6), z_is 205 14 (zf_iload 14 1 15), z_at 205 15 (zx_newa 15 9 17), z_is 205 17 (zf_astore 17 2 18), z_is 205 18 (zf_aload 18 0 19), z_is 205 19 (zf_cst 19 (jn 0) 20), z_is 205 20 (zf_aload 20 2 21), z_is 205 21 (zf_cst 21 (jn 0) 22), z_is 205 22 (zf_aload 22 0 23), z_at 205 23 (zx_alen 23 24), z_is 205 24 (zf_iload 24 1 25), z_is 205 25 (zf_nat 25 101 28), z_at 205 28 (zx_acp 28 31), z_is 205 31 (zf_aload 31 2 32), z_is 205 32 (zx_ret 1)] = true := by decide +kernel
  refine q_s hB (fun _ _ k => z_iload hB rfl k) (fun hB => ?_)
  refine q_s hB (fun _ _ k => z_aload hB rfl k) (fun hB => ?_)
  refine q_s hB (fun _ _ k => x_alen hB S.2.1.1 (by rw [S.2.1.2]; omega) (by rw [S.2.1.2]; omega) k) (fun hB => ?_)
  rw [S.len]
  refine q_s hB (fun _ _ k => z_ic_ne hB (fun _ => k) (fun h _ => absurd h (by rw [jn_eq (by omega) (by omega)]; omega))) (fun hB => ?_)
  refine q_s hB (fun _ _ k => z_iload hB rfl k) (fun hB => ?_)
  refine q_s hB (fun _ _ k => x_newa hB hll hn (jn_ok (by omega) (by omega)) k) (fun hB => ?_)
  rw [jn_n (by omega)]
  refine q_s hB (fun _ _ k => z_astore hB rfl rfl k) (fun hB => ?_)
  refine q_s hB (fun _ _ k => z_aload hB rfl k) (fun hB => ?_)
  refine q_s hB (fun _ _ k => z_cst hB k) (fun hB => ?_)
  refine q_s hB (fun _ _ k => z_aload hB rfl k) (fun hB => ?_)
  refine q_s hB (fun _ _ k => z_cst hB k) (fun hB => ?_)
  refine q_s hB (fun _ _ k => z_aload hB rfl k) (fun hB => ?_)
  refine q_s hB (fun _ _ k => x_alen hB (Nat.lt_succ_of_lt S.2.1.1) (by rw [nw_Kb S.2.1.1, S.2.1.2]; omega) (by rw [nw_Kb S.2.1.1, S.2.1.2]; omega) k) (fun hB => ?_)
  rw [nw_Lb S.2.1.1, S.len]
  refine q_s hB (fun _ _ k => z_iload hB rfl k) (fun hB => ?_)
  refine q_s hB (fun _ _ k => z_min hB rfl k) (fun hB => ?_)
  rw [jn_mn (by omega) (by omega), Nat.min_eq_left (by omega)]
  refine q_s hB (fun _ _ k => x_acpW hB (N := cap) (M := m) (sp9 := 0) (dp9 := 0) (m9 := cap) (Nat.lt_succ_of_lt S.2.1.1) ((nw_Kb (k := 9) (n := m) S.2.1.1).trans S.2.1.2) ((nw_Lb (k := 9) (n := m) S.2.1.1).trans S.2.2.2.1.1) (Nat.lt_succ_self _) (nw_K (w := w) (k := 9) (n := m)) (nw_L (w := w) (k := 9) (n := m)) (jpos (by omega)) (jpos (by omega)) (jpos (by omega)) (jn_n (by omega)) (jn_n (by omega)) (jn_n (by omega)) (by omega) (by omega) (fun i hi => by rw [Nat.zero_add, nw_Ib S.2.1.1]; exact S.2.2.2.2.2.2 i) rfl k) (fun hB => ?_)
  refine q_s hB (fun _ _ k => z_aload hB rfl k) (fun hB => ?_)
  exact q_r (x_retA hB) ⟨rfl, _, rfl, fun i => by rw [nw_Ib S.2.1.1]; unfold va_cpy; by_cases h : i < cap <;> simp [h, w_nw, w_I, ev_u1]⟩
theorem n_ens0 {G : z_G} {w : ev_W} (hl : G.2.2.stackTraces = false) {a b cap : Nat} {l : List Nat} (S : SB w a b cap l) {q : Nat} (h1 : q ≤ cap) : z_N G 183 [.ref a, .int (jn q)] w (fun v w1 => v = none ∧ w1 = w) := by
  refine q_con hl (ml := 3) (by decide +kernel) rfl rfl ?_
  have hc9 := S.2.2.2.1
  have ha9 := S.1.1
  have hb8 := S.2.1.1
  have hB : z_all [z_is 183 0 (zf_aload 0 0 1), z_at 183 1 (zf_gr 1 18 0 4), z_at 183 4 (zx_alen 4 5), z_is 183 5 (zf_aload 5 0 6), z_at 183 6 (zf_gi 6 18 1 9), z_is 183 9 (zf_ishr 9 10), z_is 183 10 (zf_istore 10 2 11), z_is 183 11 (zf_iload 11 1 12), z_is 183 12 (zf_iload 12 2 13), z_is 183 13 (zf_isub 13 14), z_is 183 14 (zf_if1 .le 14 38 17), z_is 183 38 (zf_ret 6)] = true := by decide +kernel
  refine q_s hB (fun _ _ k => z_aload hB rfl k) (fun hB => ?_)
  refine q_s hB (fun _ _ k => x_getr hB S.1.1 S.1.2 S.2.2.1.1 k) (fun hB => ?_)
  refine q_s hB (fun _ _ k => x_alen hB S.2.1.1 (by rw [S.2.1.2]; omega) (by rw [S.2.1.2]; omega) k) (fun hB => ?_)
  refine q_s hB (fun _ _ k => z_aload hB rfl k) (fun hB => ?_)
  refine q_s hB (fun _ _ k => x_geti hB S.1.1 S.1.2 k) (fun hB => ?_)
  rw [S.len, S.2.2.1.2.1]
  refine q_s hB (fun _ _ k => z_ishr hB k) (fun hB => ?_)
  rw [js0]
  refine q_s hB (fun _ _ k => z_istore hB rfl rfl k) (fun hB => ?_)
  refine q_s hB (fun _ _ k => z_iload hB rfl k) (fun hB => ?_)
  refine q_s hB (fun _ _ k => z_iload hB rfl k) (fun hB => ?_)
  refine q_s hB (fun _ _ k => z_isub hB k) (fun hB => ?_)
  refine q_s hB (fun _ _ k => z_if_le hB (fun _ => k) (fun h _ => absurd h (jsub_le h1 (by omega)))) (fun hB => ?_)
  exact q_r (z_retv hB) ⟨rfl, rfl⟩
theorem n_ens1 {G : z_G} {w : ev_W} (hl : G.2.2.stackTraces = false) {a b cap : Nat} {l : List Nat} (S : SB w a b cap l) {q : Nat} (h1 : cap < q) (h2 : q ≤ 300) (hll : w_l w = true) (hn : w_n w < 1000) : z_N G 183 [.ref a, .int (jn q)] w (fun v w1 => v = none ∧ ∃ cap1, SB w1 a (w_n w) cap1 l ∧ q ≤ cap1 ∧ FR (fun x => x = a) w w1 ∧ w_n w1 = w_n w + 1) := by
  refine q_con hl (ml := 3) (by decide +kernel) rfl rfl ?_
  have hc9 := S.2.2.2.1
  have ha9 := S.1.1
  have hb8 := S.2.1.1
  have hm9 : cap + max (q - cap) (cap + 2) ≤ 700 := by omega
  have hm8 : cap < cap + max (q - cap) (cap + 2) := by omega
  have hm7 : q ≤ cap + max (q - cap) (cap + 2) := by omega
  have k9 := n_k (n_newCap hl S h1 h2)
  obtain ⟨v8, w8, k8, rfl, f8, rfl, hf8⟩ := n_copyOf hl S hm8 hm9 hll hn
  generalize cap + max (q - cap) (cap + 2) = m9 at k9 k8 hm9 hm8 hm7
  have F1 : FR (fun _ => False) w (w_nw w 9 m9) := FR_nw (by omega) (by omega)
  have F2 : FR (fun b => b = w_n w) (w_nw w 9 m9) (w_cp (w_nw w 9 m9) (w_n w) f8) := FR_cp (by omega)
  have hB : z_all [z_is 183 0 (zf_aload 0 0 1), z_at 183 1 (zf_gr 1 18 0 4), z_at 183 4 (zx_alen 4 5), z_is 183 5 (zf_aload 5 0 6), z_at 183 6 (zf_gi 6 18 1 9), z_is 183 9 (zf_ishr 9 10), z_is 183 10 (zf_istore 10 2 11), z_is 183 11 (zf_iload 11 1 12), z_is 183 12 (zf_iload 12 2 13), z_is 183 13 (zf_isub 13 14), z_is 183 14 (zf_if1 .le 14 38 17), z_is 183 17 (zf_aload 17 0 18), z_is 183 18 (zf_aload 18 0 19), z_at 183 19 (zf_gr 19 18 0 22), z_is 183 22 (zf_aload 22 0 23), z_is 183 23 (zf_iload 23 1 24), z_at 183 24 (zx_cC 24 184 1 27), z_is 183 27 (zf_aload 27 0 28), z_at 183 28 (zf_gi 28 18 1 31), z_is 183 31 (zf_ishl 31 32), z_is 183 32 (zf_cs 32 205 2 35), z_at 183 35 (zf_pr 35 18 0 38), z_is 183 38 (zf_ret 6)] = true := by decide +kernel
  refine q_s hB (fun _ _ k => z_aload hB rfl k) (fun hB => ?_)
  refine q_s hB (fun _ _ k => x_getr hB S.1.1 S.1.2 S.2.2.1.1 k) (fun hB => ?_)
  refine q_s hB (fun _ _ k => x_alen hB S.2.1.1 (by rw [S.2.1.2]; omega) (by rw [S.2.1.2]; omega) k) (fun hB => ?_)
  refine q_s hB (fun _ _ k => z_aload hB rfl k) (fun hB => ?_)
  refine q_s hB (fun _ _ k => x_geti hB S.1.1 S.1.2 k) (fun hB => ?_)
  rw [S.len, S.2.2.1.2.1]
  refine q_s hB (fun _ _ k => z_ishr hB k) (fun hB => ?_)
  rw [js0]
  refine q_s hB (fun _ _ k => z_istore hB rfl rfl k) (fun hB => ?_)
  refine q_s hB (fun _ _ k => z_iload hB rfl k) (fun hB => ?_)
  refine q_s hB (fun _ _ k => z_iload hB rfl k) (fun hB => ?_)
  refine q_s hB (fun _ _ k => z_isub hB k) (fun hB => ?_)
  refine q_s hB (fun _ _ k => z_if_le hB (fun h _ => absurd (jsub_gt h1 (by omega)) h) (fun _ => k)) (fun hB => ?_)
  refine q_s hB (fun _ _ k => z_aload hB rfl k) (fun hB => ?_)
  refine q_s hB (fun _ _ k => z_aload hB rfl k) (fun hB => ?_)
  refine q_s hB (fun _ _ k => x_getr hB S.1.1 S.1.2 S.2.2.1.1 k) (fun hB => ?_)
  refine q_s hB (fun _ _ k => z_aload hB rfl k) (fun hB => ?_)
  refine q_s hB (fun _ _ k => z_iload hB rfl k) (fun hB => ?_)
  refine q_s hB (fun _ _ k => x_cC hB (rest := [.ref b, .ref a]) rfl rfl rfl S.1.1 S.1.2 xs_184 k9 k) (fun hB => ?_)
  refine q_s hB (fun _ _ k => z_aload hB rfl k) (fun hB => ?_)
  refine q_s hB (fun _ _ k => x_geti hB S.1.1 S.1.2 k) (fun hB => ?_)
  rw [S.2.2.1.2.1]
  refine q_s hB (fun _ _ k => z_ishl hB k) (fun hB => ?_)
  rw [js0l]
  refine q_s hB (fun _ _ k => z_callS hB (rest := [.ref a]) rfl rfl rfl k8 k) (fun hB => ?_)
  refine q_s hB (fun _ _ k => x_putr hB (Nat.lt_succ_of_lt S.1.1) ((nw_Kb (k := 9) (n := m9) S.1.1).trans S.1.2) k) (fun hB => ?_)
  exact q_r (z_retv hB) ⟨rfl, m9, SB_grow S (by omega) hm9 hf8, hm7, F1.tr (F2.tr FR_R (Z := fun x => x = a ∨ x = w_n w) (fun _ _ q => Or.inr q) (fun _ _ q => Or.inl q)) (fun _ _ q => q.elim) (fun x hx q => by rcases q with q | q; exact q; omega), rfl⟩
/-- the text of a String constant -/
def zs_tx (k : Nat) : List Nat := (ev_sby.getD k []).map (fun x => x.toNatClampNeg)
theorem zs_txl (k : Nat) : (zs_tx k).length = zs_ln k := List.length_map _
theorem zs_txa : ∀ k : Fin 29, (zs_ln k.val ≤ 100) ∧ (∀ i : Fin 100, (ev_sby.getD k.val []).getD i.val 0 = jn ((zs_tx k.val).getD i.val 0)) ∧ (zs_tx k.val).all (fun x => Nat.blt x 128) = true := by decide +kernel
theorem zs_txi {k i : Nat} (hk : k < 29) (hi : i < zs_ln k) : (ev_sby.getD k []).getD i 0 = jn ((zs_tx k).getD i 0) := by
  have h := zs_txa ⟨k, hk⟩
  exact h.2.1 ⟨i, by have := h.1; dsimp only at this; omega⟩
theorem zs_tx128 {k : Nat} (hk : k < 29) : ∀ x ∈ zs_tx k, x < 128 := fun x hx => Nat.le_of_ble_eq_true (List.all_eq_true.mp (zs_txa ⟨k, hk⟩).2.2 x hx)
theorem n_xcod {G : z_G} {w : ev_W} (hl : G.2.2.stackTraces = false) {k9 : Nat} (hk9 : k9 < 29) : z_N G 195 [.ref (ev_S + 1 + k9)] w (fun v w1 => v = some (.int 0) ∧ w1 = w) := by
  refine q_con hl (ml := 1) (by decide +kernel) rfl rfl ?_
  have hB : z_all [z_at 195 0 (zx_cs19 0 3), z_is 195 3 (zf_if1 .eq 3 13 6), z_is 195 6 (zf_aload 6 0 7), z_at 195 7 (zx_xcod 7 10), z_is 195 10 (zf_goto 10 14), z_is 195 14 (zx_ret 0)] = true := by decide +kernel
  refine q_s hB (fun _ _ k => x_cs19 hB k) (fun hB => ?_)
  refine q_s hB (fun _ _ k => z_if_eq hB (fun h _ => absurd h (by decide)) (fun _ => k)) (fun hB => ?_)
  refine q_s hB (fun _ _ k => z_aload hB rfl k) (fun hB => ?_)
  refine q_s hB (fun _ _ k => x_xcod hB hk9 k) (fun hB => ?_)
  refine q_s hB (fun _ _ k => z_goto hB k) (fun hB => ?_)
  exact q_r (x_retb hB (Or.inl rfl)) ⟨rfl, rfl⟩
theorem n_infl {G : z_G} {w : ev_W} (hl : G.2.2.stackTraces = false) {a b cap : Nat} {l : List Nat} (S : SB w a b cap l) {k9 : Nat} (hk9 : k9 < 29) : z_N G 186 [.ref a, .ref (ev_S + 1 + k9)] w (fun v w1 => v = none ∧ w1 = w) := by
  refine q_con hl (ml := 2) (by decide +kernel) rfl rfl ?_
  have k7 := n_k (n_xcod (w := w) hl hk9)
  have hB : z_all [z_at 186 0 (zx_cs25 0 3), z_is 186 3 (zf_if1 .eq 3 21 6), z_is 186 6 (zf_aload 6 0 7), z_at 186 7 (zf_gi 7 18 1 10), z_is 186 10 (zf_aload 10 1 11), z_at 186 11 (zx_cX 11 195 0 14), z_is 186 14 (zf_if2 .eq 14 21 17), z_is 186 21 (zf_ret 6)] = true := by decide +kernel
  refine q_s hB (fun _ _ k => x_cs25 hB k) (fun hB => ?_)
  refine q_s hB (fun _ _ k => z_if_eq hB (fun h _ => absurd h (by decide)) (fun _ => k)) (fun hB => ?_)
  refine q_s hB (fun _ _ k => z_aload hB rfl k) (fun hB => ?_)
  refine q_s hB (fun _ _ k => x_geti hB S.1.1 S.1.2 k) (fun hB => ?_)
  refine q_s hB (fun _ _ k => z_aload hB rfl k) (fun hB => ?_)
  refine q_s hB (fun _ _ k => x_cX hB (rest := [.int (w_I w a 1)]) rfl rfl rfl hk9 k7 k) (fun hB => ?_)
  refine q_s hB (fun _ _ k => z_ic_eq hB (fun _ => k) (fun h _ => absurd (S.2.2.1.2.1) h)) (fun hB => ?_)
  exact q_r (z_retv hB) ⟨rfl, rfl⟩
theorem n_getB {G : z_G} {w : ev_W} (hl : G.2.2.stackTraces = false) {a b cap : Nat} {l : List Nat} (S : SB w a b cap l) {k9 d : Nat} (hk9 : k9 < 29) (hd : d + zs_ln k9 ≤ cap) : z_N G 194 [.ref (ev_S + 1 + k9), .ref b, .int (jn d), .int 0] w (fun v w1 => v = none ∧ w1 = w_cp w b (va_cpy (fun i => (ev_sby.getD k9 []).getD i 0) (w_I w b) 0 d (zs_ln k9))) := by
  refine q_con hl (ml := 4) (by decide +kernel) rfl rfl ?_
  have hc9 := S.2.2.2.1
  have ha9 := S.1.1
  have hb8 := S.2.1.1
  have k7 := n_k (n_xcod (w := w) hl hk9)
  have hB : z_all [z_is 194 0 (zf_aload 0 0 1), z_at 194 1 (zx_cX 1 195 0 4), z_is 194 4 (zf_iload 4 3 5), z_is 194 5 (zf_if2 .ne 5 28 8), z_is 194 8 (zf_aload 8 0 9), z_at 194 9 (zx_xval 9 12), z_is 194 12 (zf_cst 12 (jn 0) 13), z_is 194 13 (zf_aload 13 1 14), z_is 194 14 (zf_iload 14 2 15), z_is 194 15 (zf_iload 15 3 16), z_is 194 16 (zf_ishl 16 17), z_is 194 17 (zf_aload 17 0 18), z_at 194 18 (zx_xval 18 21), z_at 194 21 (zx_xlen 21 22), z_at 194 22 (zx_acp 22 25), z_is 194 25 (zf_goto 25 43), z_is 194 43 (zf_ret 6)] = true := by decide +kernel
  refine q_s hB (fun _ _ k => z_aload hB rfl k) (fun hB => ?_)
  refine q_s hB (fun _ _ k => x_cX hB (rest := []) rfl rfl rfl hk9 k7 k) (fun hB => ?_)
  refine q_s hB (fun _ _ k => z_iload hB rfl k) (fun hB => ?_)
  refine q_s hB (fun _ _ k => z_ic_ne hB (fun h _ => absurd (rfl) h) (fun _ => k)) (fun hB => ?_)
  refine q_s hB (fun _ _ k => z_aload hB rfl k) (fun hB => ?_)
  refine q_s hB (fun _ _ k => x_xval hB hk9 k) (fun hB => ?_)
  refine q_s hB (fun _ _ k => z_cst hB k) (fun hB => ?_)
  refine q_s hB (fun _ _ k => z_aload hB rfl k) (fun hB => ?_)
  refine q_s hB (fun _ _ k => z_iload hB rfl k) (fun hB => ?_)
  refine q_s hB (fun _ _ k => z_iload hB rfl k) (fun hB => ?_)
  refine q_s hB (fun _ _ k => z_ishl hB k) (fun hB => ?_)
  rw [js0l]
  refine q_s hB (fun _ _ k => z_aload hB rfl k) (fun hB => ?_)
  refine q_s hB (fun _ _ k => x_xval hB hk9 k) (fun hB => ?_)
  refine q_s hB (fun _ _ k => x_xlen hB hk9 k) (fun hB => ?_)
  refine q_s hB (fun _ _ k => x_acpX hB (M := cap) (dp9 := d) hk9 S.2.1.1 S.2.1.2 S.2.2.2.1.1 rfl (jpos (by omega)) (jn_n (by omega)) rfl hd rfl k) (fun hB => ?_)
  refine q_s hB (fun _ _ k => z_goto hB k) (fun hB => ?_)
  exact q_r (z_retv hB) ⟨rfl, rfl⟩
theorem n_putS {G : z_G} {w : ev_W} (hl : G.2.2.stackTraces = false) {a b cap : Nat} {l : List Nat} (S : SB w a b cap l) {k9 d : Nat} (hk9 : k9 < 29) (hd : d + zs_ln k9 ≤ cap) : z_N G 185 [.ref a, .int (jn d), .ref (ev_S + 1 + k9)] w (fun v w1 => v = none ∧ w1 = w_cp w b (va_cpy (fun i => (ev_sby.getD k9 []).getD i 0) (w_I w b) 0 d (zs_ln k9))) := by
  refine q_con hl (ml := 3) (by decide +kernel) rfl rfl ?_
  have k7 := n_k (n_infl hl S hk9)
  have k6 := n_k (n_getB hl S hk9 hd)
  have hB : z_all [z_is 185 0 (zf_aload 0 0 1), z_is 185 1 (zf_aload 1 2 2), z_at 185 2 (zx_cC 2 186 1 5), z_is 185 5 (zf_aload 5 2 6), z_is 185 6 (zf_aload 6 0 7), z_at 185 7 (zf_gr 7 18 0 10), z_is 185 10 (zf_iload 10 1 11), z_is 185 11 (zf_aload 11 0 12), z_at 185 12 (zf_gi 12 18 1 15), z_at 185 15 (zx_cX 15 194 3 18), z_is 185 18 (zf_ret 6)] = true := by decide +kernel
  refine q_s hB (fun _ _ k => z_aload hB rfl k) (fun hB => ?_)
  refine q_s hB (fun _ _ k => z_aload hB rfl k) (fun hB => ?_)
  refine q_s hB (fun _ _ k => x_cC hB (rest := []) rfl rfl rfl S.1.1 S.1.2 xs_186 k7 k) (fun hB => ?_)
  refine q_s hB (fun _ _ k => z_aload hB rfl k) (fun hB => ?_)
  refine q_s hB (fun _ _ k => z_aload hB rfl k) (fun hB => ?_)
  refine q_s hB (fun _ _ k => x_getr hB S.1.1 S.1.2 S.2.2.1.1 k) (fun hB => ?_)
  refine q_s hB (fun _ _ k => z_iload hB rfl k) (fun hB => ?_)
  refine q_s hB (fun _ _ k => z_aload hB rfl k) (fun hB => ?_)
  refine q_s hB (fun _ _ k => x_geti hB S.1.1 S.1.2 k) (fun hB => ?_)
  rw [S.2.2.1.2.1]
  refine q_s hB (fun _ _ k => x_cX hB (rest := []) rfl rfl rfl hk9 k6 k) (fun hB => ?_)
  exact q_r (z_retv hB) ⟨rfl, rfl⟩
/-- a StringBuilder's letters, more of them -/
theorem SB_mk {w w' : ev_W} {a b cap : Nat} {l s : List Nat} (S : SB w a b cap l) (h1 : w_n w ≤ w_n w') (hKa : w_K w' a = w_K w a) (hKb : w_K w' b = w_K w b) (hLb : w_L w' b = w_L w b) (hR : w_R w' a 0 = w_R w a 0) (hI1 : w_I w' a 1 = w_I w a 1) (hI3 : w_I w' a 3 = jn (l.length + s.length)) (hc : l.length + s.length ≤ cap) (hs : ∀ x ∈ s, x < 128)
    (hf : ∀ i, w_I w' b i = if l.length ≤ i ∧ i < l.length + s.length then jn (s.getD (i - l.length) 0) else w_I w b i) : SB w' a b cap (l ++ s) := by
  obtain ⟨⟨a1, a2⟩, ⟨b1, b2⟩, ⟨c1, c2, c3⟩, ⟨d1, d2, d3⟩, e1, f1, g1⟩ := S
  refine ⟨⟨Nat.lt_of_lt_of_le a1 h1, hKa.trans a2⟩, ⟨Nat.lt_of_lt_of_le b1 h1, hKb.trans b2⟩, ⟨hR.trans c1, hI1.trans c2, by rw [hI3, List.length_append]⟩, ⟨hLb.trans d1, by rw [List.length_append]; exact hc, d3⟩, fun i hi => ?_, fun x hx => ?_, fun i => ?_⟩
  · rw [List.length_append] at hi
    rw [hf i]
    by_cases h : l.length ≤ i
    · rw [if_pos ⟨h, hi⟩, List.getD_eq_getElem?_getD, List.getD_eq_getElem?_getD, List.getElem?_append_right h]
    · rw [if_neg (fun q => h q.1), e1 i (by omega), List.getD_eq_getElem?_getD, List.getD_eq_getElem?_getD, List.getElem?_append_left (by omega)]
  · rcases List.mem_append.mp hx with hx | hx
    · exact f1 x hx
    · exact hs x hx
  · rw [hf i]
    by_cases h : l.length ≤ i ∧ i < l.length + s.length
    · rw [if_pos h]
      refine jfit (hs _ ?_)
      rw [List.getD_eq_getElem?_getD, List.getElem?_eq_getElem (by omega)]
      exact List.getElem_mem (by omega)
    · rw [if_neg h]
      exact g1 i
/-- what an append does -/
def SBp (w w1 : ev_W) (a b : Nat) (l : List Nat) : Prop := ∃ b1 cap1, SB w1 a b1 cap1 l ∧ FR (fun x => x = a ∨ x = b) w w1 ∧ w_n w1 ≤ w_n w + 1 ∧ (b1 = b ∨ w_n w ≤ b1)
theorem n_ens {G : z_G} {w : ev_W} (hl : G.2.2.stackTraces = false) {a b cap : Nat} {l : List Nat} (S : SB w a b cap l) {q : Nat} (h2 : q ≤ 300) (hll : w_l w = true) (hn : w_n w < 1000) : z_N G 183 [.ref a, .int (jn q)] w (fun v w1 => v = none ∧ ∃ b1 cap1, SB w1 a b1 cap1 l ∧ q ≤ cap1 ∧ FR (fun x => x = a) w w1 ∧ w_n w1 ≤ w_n w + 1 ∧ (b1 = b ∨ w_n w ≤ b1)) := by
  by_cases h : q ≤ cap
  · exact n_w (n_ens0 hl S h) (fun v w1 hp => by
      obtain ⟨p1, p2⟩ := hp
      rw [p2]
      exact ⟨p1, b, cap, S, h, FR.rf, by omega, Or.inl rfl⟩)
  · exact n_w (n_ens1 hl S (by omega) h2 hll hn) (fun v w1 hp => by
      obtain ⟨p1, cap1, p2, p3, p4, p5⟩ := hp
      exact ⟨p1, w_n w, cap1, p2, p3, p4, by omega, Or.inr (Nat.le_refl _)⟩)
theorem n_app {G : z_G} {w : ev_W} (hl : G.2.2.stackTraces = false) {a b cap : Nat} {l : List Nat} (S : SB w a b cap l) {k9 : Nat} (hk9 : k9 < 29) (h2 : l.length + zs_ln k9 ≤ 300) (hll : w_l w = true) (hn : w_n w < 1000) : z_N G 180 [.ref a, .ref (ev_S + 1 + k9)] w (fun v w1 => v = some (.ref a) ∧ SBp w w1 a b (l ++ zs_tx k9)) := by
  refine q_con hl (ml := 3) (by decide +kernel) rfl rfl ?_
  have hc9 := S.2.2.2.1
  have ha9 := S.1.1
  have hb8 := S.2.1.1
  obtain ⟨v5, w5, k5, rfl, b5, cap5, S5, hq5, F5, n5, d5⟩ := n_ens hl S h2 hll hn
  have k4 := n_k (n_putS hl S5 (d := l.length) hk9 hq5)
  have hb9 := S5.2.1.1
  have hcf : ∀ i, va_cpy (fun i => (ev_sby.getD k9 []).getD i 0) (w_I w5 b5) 0 l.length (zs_ln k9) i = if l.length ≤ i ∧ i < l.length + (zs_tx k9).length then jn ((zs_tx k9).getD (i - l.length) 0) else w_I w5 b5 i := fun i => by
    unfold va_cpy
    rw [zs_txl]
    by_cases h : l.length ≤ i ∧ i < l.length + zs_ln k9
    · rw [if_pos h, if_pos h, Nat.zero_add]; exact zs_txi hk9 (by omega)
    · rw [if_neg h, if_neg h]
  generalize va_cpy (fun i => (ev_sby.getD k9 []).getD i 0) (w_I w5 b5) 0 l.length (zs_ln k9) = f9 at k4 hcf
  have hB : z_all [z_is 180 0 (zf_aload 0 1 1), z_at 180 1 (zx_nnj 1 9), z_is 180 9 (zf_aload 9 1 10), z_at 180 10 (zf_str 10 105 13), z_is 180 13 (zf_istore 13 2 14), z_is 180 14 (zf_aload 14 0 15), z_is 180 15 (zf_aload 15 0 16), z_at 180 16 (zf_gi 16 18 3 19), z_is 180 19 (zf_iload 19 2 20), z_is 180 20 (zf_iadd 20 21), z_at 180 21 (zx_cC 21 183 1 24), z_is 180 24 (zf_aload 24 0 25), z_is 180 25 (zf_aload 25 0 26), z_at 180 26 (zf_gi 26 18 3 29), z_is 180 29 (zf_aload 29 1 30), z_at 180 30 (zx_cC 30 185 2 33), z_is 180 33 (zf_aload 33 0 34), z_at 180 34 (zx_dup 34 35), z_at 180 35 (zf_gi 35 18 3 38), z_is 180 38 (zf_iload 38 2 39), z_is 180 39 (zf_iadd 39 40), z_at 180 40 (zf_pi 40 18 3 43), z_is 180 43 (zf_aload 43 0 44), z_is 180 44 (zf_ret 5)] = true := by decide +kernel
  refine q_s hB (fun _ _ k => z_aload hB rfl k) (fun hB => ?_)
  refine q_s hB (fun _ _ k => x_nnj hB k) (fun hB => ?_)
  refine q_s hB (fun _ _ k => z_aload hB rfl k) (fun hB => ?_)
  refine q_s hB (fun _ _ k => x_strl hB hk9 rfl k) (fun hB => ?_)
  refine q_s hB (fun _ _ k => z_istore hB rfl rfl k) (fun hB => ?_)
  refine q_s hB (fun _ _ k => z_aload hB rfl k) (fun hB => ?_)
  refine q_s hB (fun _ _ k => z_aload hB rfl k) (fun hB => ?_)
  refine q_s hB (fun _ _ k => x_geti hB S.1.1 S.1.2 k) (fun hB => ?_)
  rw [S.2.2.1.2.2]
  refine q_s hB (fun _ _ k => z_iload hB rfl k) (fun hB => ?_)
  refine q_s hB (fun _ _ k => z_iadd hB k) (fun hB => ?_)
  rw [jn_add]
  refine q_s hB (fun _ _ k => x_cC hB (rest := []) rfl rfl rfl S.1.1 S.1.2 xs_183 k5 k) (fun hB => ?_)
  refine q_s hB (fun _ _ k => z_aload hB rfl k) (fun hB => ?_)
  refine q_s hB (fun _ _ k => z_aload hB rfl k) (fun hB => ?_)
  refine q_s hB (fun _ _ k => x_geti hB S5.1.1 S5.1.2 k) (fun hB => ?_)
  rw [S5.2.2.1.2.2]
  refine q_s hB (fun _ _ k => z_aload hB rfl k) (fun hB => ?_)
  refine q_s hB (fun _ _ k => x_cC hB (rest := []) rfl rfl rfl S5.1.1 S5.1.2 xs_185 k4 k) (fun hB => ?_)
  refine q_s hB (fun _ _ k => z_aload hB rfl k) (fun hB => ?_)
  refine q_s hB (fun _ _ k => x_dup hB rfl k) (fun hB => ?_)
  refine q_s hB (fun _ _ k => x_geti hB S5.1.1 S5.1.2 k) (fun hB => ?_)
  rw [cp_Ib S5.ne, S5.2.2.1.2.2]
  refine q_s hB (fun _ _ k => z_iload hB rfl k) (fun hB => ?_)
  refine q_s hB (fun _ _ k => z_iadd hB k) (fun hB => ?_)
  rw [jn_add]
  refine q_s hB (fun _ _ k => x_puti hB S5.1.1 S5.1.2 k) (fun hB => ?_)
  refine q_s hB (fun _ _ k => z_aload hB rfl k) (fun hB => ?_)
  exact q_r (z_reta hB) ⟨rfl, b5, cap5, SB_mk S5 (w' := w_sI (w_cp w5 b5 f9) a 3 (jn (l.length + zs_ln k9))) (Nat.le_refl _) rfl rfl rfl rfl ((sI_ne (by omega)).trans (congrFun (cp_Ib S5.ne) 1)) (by rw [zs_txl]; exact sI_at) (by rw [zs_txl]; exact hq5) (zs_tx128 hk9) (fun i => by rw [sI_na (fun q => S5.ne q.symm), cp_I]; exact hcf i), F5.tr ((FR_cp (by omega)).tr (FR_I (by omega)) (Z := fun x => x = a ∨ x = b5) (fun _ _ q => Or.inr q) (fun _ _ q => Or.inl q)) (fun _ _ q => Or.inl q) (fun x hx q => by rcases q with q | q; exact Or.inl q; rcases d5 with d5 | d5; exact Or.inr (q.trans d5); omega), n5, d5⟩
theorem n_appS {G : z_G} {w : ev_W} (hl : G.2.2.stackTraces = false) {a b cap : Nat} {l : List Nat} (S : SB w a b cap l) {k9 : Nat} (hk9 : k9 < 29) (h2 : l.length + zs_ln k9 ≤ 300) (hll : w_l w = true) (hn : w_n w < 1000) : z_N G 174 [.ref a, .ref (ev_S + 1 + k9)] w (fun v w1 => v = some (.ref a) ∧ SBp w w1 a b (l ++ zs_tx k9)) := by
  refine q_con hl (ml := 2) (by decide +kernel) rfl rfl ?_
  obtain ⟨v5, w5, k5, rfl, h5⟩ := n_app hl S hk9 h2 hll hn
  have hB : z_all [z_is 174 0 (zf_aload 0 0 1), z_is 174 1 (zf_aload 1 1 2), z_at 174 2 (zx_cS 2 180 1 5), z_at 174 5 (zx_pop 5 6), z_is 174 6 (zf_aload 6 0 7), z_is 174 7 (zf_ret 5)] = true := by decide +kernel
  refine q_s hB (fun _ _ k => z_aload hB rfl k) (fun hB => ?_)
  refine q_s hB (fun _ _ k => z_aload hB rfl k) (fun hB => ?_)
  refine q_s hB (fun _ _ k => x_cS hB (rest := []) rfl rfl rfl S.1.1 S.1.2 xs_180 k5 k) (fun hB => ?_)
  refine q_s hB (fun _ _ k => x_pop hB rfl k) (fun hB => ?_)
  refine q_s hB (fun _ _ k => z_aload hB rfl k) (fun hB => ?_)
  exact q_r (z_reta hB) ⟨rfl, h5⟩
theorem n_appB {G : z_G} {w : ev_W} (hl : G.2.2.stackTraces = false) {a b cap : Nat} {l : List Nat} (S : SB w a b cap l) {k9 : Nat} (hk9 : k9 < 29) (h2 : l.length + zs_ln k9 ≤ 300) (hll : w_l w = true) (hn : w_n w < 1000) : z_N G 177 [.ref a, .ref (ev_S + 1 + k9)] w (fun v w1 => v = some (.ref a) ∧ SBp w w1 a b (l ++ zs_tx k9)) := by
  refine q_con hl (ml := 2) (by decide +kernel) rfl rfl ?_
  obtain ⟨v5, w5, k5, rfl, h5⟩ := n_appS hl S hk9 h2 hll hn
  have hB : z_all [z_is 177 0 (zf_aload 0 0 1), z_is 177 1 (zf_aload 1 1 2), z_is 177 2 (zf_cv 2 174 1 18 5), z_is 177 5 (zf_ret 5)] = true := by decide +kernel
  refine q_s hB (fun _ _ k => z_aload hB rfl k) (fun hB => ?_)
  refine q_s hB (fun _ _ k => z_aload hB rfl k) (fun hB => ?_)
  refine q_s hB (fun _ _ k => z_callV hB (rest := []) rfl rfl rfl S.1.1 S.1.2 k5 k) (fun hB => ?_)
  exact q_r (z_reta hB) ⟨rfl, h5⟩
