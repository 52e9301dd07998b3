/-! the StringBuilder's String, its length and letters: by wip/gen/p64/j98e.py -/
theorem SB.fr {X : Nat → Prop} {w w1 : ev_W} {a b cap : Nat} {l : List Nat} (S : SB w a b cap l) (F : FR X w w1) (ha : ¬ X a) (hb : ¬ X b) : SB w1 a b cap l := by
  obtain ⟨⟨a1, a2⟩, ⟨b1, b2⟩, ⟨c1, c2, c3⟩, ⟨d1, d2, d3⟩, e1, f1, g1⟩ := S
  obtain ⟨⟨p1, -⟩, -, q⟩ := F
  obtain ⟨⟨x1, x2⟩, x3⟩ := q a a1
  obtain ⟨⟨y1, y2⟩, y3⟩ := q b b1
  obtain ⟨i1, r1, -⟩ := x3 ha
  obtain ⟨i2, r2, -⟩ := y3 hb
  exact ⟨⟨Nat.lt_of_lt_of_le a1 p1, x1.trans a2⟩, ⟨Nat.lt_of_lt_of_le b1 p1, y1.trans b2⟩, ⟨by rw [r1]; exact c1, by rw [i1]; exact c2, by rw [i1]; exact c3⟩, ⟨y2.trans d1, d2, d3⟩, fun i hi => by rw [i2]; exact e1 i hi, f1, fun i => by rw [i2]; exact g1 i⟩
theorem n_ckl {G : z_G} {w : ev_W} (hl : G.2.2.stackTraces = false) {x y : Nat} (hx : x ≤ y) (hy : y < 100000) : z_N G 208 [.int (jn x), .int (jn y)] w (fun v1 w1 => v1 = none ∧ w1 = w) := by
  refine q_con hl (ml := 2) (by decide +kernel) rfl rfl ?_
  have hB : z_all [z_is 208 0 (zf_iload 0 1 1), z_is 208 1 (zf_iload 1 0 2), z_is 208 2 (zf_if2 .ge 2 37 5), z_is 208 37 (zf_ret 6)] = true := by decide +kernel
  refine q_s hB (fun _ _ k => z_iload hB rfl k) (fun hB => ?_)
  refine q_s hB (fun _ _ k => z_iload hB rfl k) (fun hB => ?_)
  refine q_s hB (fun _ _ k => z_ic_ge hB (fun _ => k) (fun h _ => absurd h ((by rw [jn_lt (by omega) (by omega)]; omega)))) (fun hB => ?_)
  exact q_r (z_retv hB) ⟨rfl, rfl⟩
theorem n_corB {G : z_G} {w : ev_W} (hl : G.2.2.stackTraces = false) {a b cap : Nat} {l : List Nat} (S : SB w a b cap l) {n : Nat} (hnc : n ≤ cap) (hll : w_l w = true) (hn : w_n w < 1000) : z_N G 207 [.ref b, .int (jn 0), .int (jn n)] w (fun v w1 => v = some (.ref (w_n w)) ∧ ∃ f, w1 = w_cp (w_nw w 9 n) (w_n w) f ∧ ∀ i, i < n → f i = w_I w b i) := by
  refine q_con hl (ml := 5) (by decide +kernel) rfl rfl ?_
  have hc9 := S.2.2.2.1
  have ha9 := S.1.1
  have hb8 := S.2.1.1
  have k0 := n_k (n_ckl (w := w) hl (x := 0) (y := n) (Nat.zero_le _) (by omega))
  have hB : z_all [z_is 207 0 (zf_iload 0 1 1), z_is 207 1 (zf_iload 1 2 2), z_is 207 2 (zf_cs 2 208 2 5), z_is 207 5 (zf_iload 5 2 6), z_is 207 6 (zf_iload 6 1 7), z_is 207 7 (zf_isub 7 8), z_is 207 8 (zf_istore 8 3 9), z_is 207 9 (zf_iload 9 3 10), z_at 207 10 (zx_newa 10 9 12), z_is 207 12 (zf_astore 12 4 14), z_is 207 14 (zf_aload 14 0 15), z_is 207 15 (zf_iload 15 1 16), z_is 207 16 (zf_aload 16 4 18), z_is 207 18 (zf_cst 18 (jn 0) 19), z_is 207 19 (zf_aload 19 0 20), z_at 207 20 (zx_alen 20 21), z_is 207 21 (zf_iload 21 1 22), z_is 207 22 (zf_isub 22 23), z_is 207 23 (zf_iload 23 3 24), z_is 207 24 (zf_nat 24 101 27), z_at 207 27 (zx_acp 27 30), z_is 207 30 (zf_aload 30 4 32), z_is 207 32 (zx_ret 1)] = true := by decide +kernel
  refine q_s hB (fun _ _ k => z_iload hB rfl k) (fun hB => ?_)
  refine q_s hB (fun _ _ k => z_iload hB rfl k) (fun hB => ?_)
  refine q_s hB (fun _ _ k => z_callS hB (rest := []) rfl rfl rfl k0 k) (fun hB => ?_)
  refine q_s hB (fun _ _ k => z_iload hB rfl k) (fun hB => ?_)
  refine q_s hB (fun _ _ k => z_iload hB rfl k) (fun hB => ?_)
  refine q_s hB (fun _ _ k => z_isub hB k) (fun hB => ?_)
  rw [jn_sub (Nat.zero_le _), Nat.sub_zero]
  refine q_s hB (fun _ _ k => z_istore hB rfl rfl k) (fun hB => ?_)
  refine q_s hB (fun _ _ k => z_iload hB rfl k) (fun hB => ?_)
  refine q_s hB (fun _ _ k => x_newa hB hll hn (jn_ok (by omega) (by omega)) k) (fun hB => ?_)
  rw [jn_n (by omega)]
  refine q_s hB (fun _ _ k => z_astore hB rfl rfl k) (fun hB => ?_)
  refine q_s hB (fun _ _ k => z_aload hB rfl k) (fun hB => ?_)
  refine q_s hB (fun _ _ k => z_iload hB rfl k) (fun hB => ?_)
  refine q_s hB (fun _ _ k => z_aload hB rfl k) (fun hB => ?_)
  refine q_s hB (fun _ _ k => z_cst hB k) (fun hB => ?_)
  refine q_s hB (fun _ _ k => z_aload hB rfl k) (fun hB => ?_)
  refine q_s hB (fun _ _ k => x_alen hB (Nat.lt_succ_of_lt S.2.1.1) (by rw [nw_Kb S.2.1.1, S.2.1.2]; omega) (by rw [nw_Kb S.2.1.1, S.2.1.2]; omega) k) (fun hB => ?_)
  rw [nw_Lb S.2.1.1, S.len]
  refine q_s hB (fun _ _ k => z_iload hB rfl k) (fun hB => ?_)
  refine q_s hB (fun _ _ k => z_isub hB k) (fun hB => ?_)
  rw [jn_sub (Nat.zero_le _), Nat.sub_zero]
  refine q_s hB (fun _ _ k => z_iload hB rfl k) (fun hB => ?_)
  refine q_s hB (fun _ _ k => z_min hB rfl k) (fun hB => ?_)
  rw [jn_mn (by omega) (by omega), Nat.min_eq_right (by omega)]
  refine q_s hB (fun _ _ k => x_acpW hB (N := cap) (M := n) (sp9 := 0) (dp9 := 0) (m9 := n) (Nat.lt_succ_of_lt S.2.1.1) ((nw_Kb (k := 9) (n := n) S.2.1.1).trans S.2.1.2) ((nw_Lb (k := 9) (n := n) S.2.1.1).trans S.2.2.2.1.1) (Nat.lt_succ_self _) (nw_K (w := w) (k := 9) (n := n)) (nw_L (w := w) (k := 9) (n := n)) (jpos (by omega)) (jpos (by omega)) (jpos (by omega)) (jn_n (by omega)) (jn_n (by omega)) (jn_n (by omega)) (by omega) (by omega) (fun i hi => by rw [Nat.zero_add, nw_Ib S.2.1.1]; exact S.2.2.2.2.2.2 i) rfl k) (fun hB => ?_)
  refine q_s hB (fun _ _ k => z_aload hB rfl k) (fun hB => ?_)
  exact q_r (x_retA hB) ⟨rfl, _, rfl, fun i hi => by rw [nw_Ib S.2.1.1]; unfold va_cpy; simp [hi]⟩
theorem n_cor1 {G : z_G} {w : ev_W} (hl : G.2.2.stackTraces = false) {a b cap : Nat} {l : List Nat} (S : SB w a b cap l) {n : Nat} (hnc : n ≤ cap) (hll : w_l w = true) (hn : w_n w < 1000) (hne : ¬ n = cap) : z_N G 206 [.ref b, .int (jn 0), .int (jn n)] w (fun v w1 => v = some (.ref (w_n w)) ∧ ∃ f, w1 = w_cp (w_nw w 9 n) (w_n w) f ∧ ∀ i, i < n → f i = w_I w b i) := by
  refine q_con hl (ml := 3) (by decide +kernel) rfl rfl ?_
  have hc9 := S.2.2.2.1
  have ha9 := S.1.1
  have hb8 := S.2.1.1
  obtain ⟨v8, w8, k8, rfl, h8⟩ := n_corB hl S hnc hll hn
  have hB : z_all [z_is 206 0 (zf_iload 0 1 1), z_is 206 1 (zf_if1 .ne 1 10 4), z_is 206 4 (zf_iload 4 2 5), z_is 206 5 (zf_aload 5 0 6), z_at 206 6 (zx_alen 6 7), z_is 206 7 (zf_if2 .eq 7 17 10), z_is 206 10 (zf_aload 10 0 11), z_is 206 11 (zf_iload 11 1 12), z_is 206 12 (zf_iload 12 2 13), z_is 206 13 (zf_cs 13 207 3 16), z_is 206 16 (zx_ret 1)] = true := by decide +kernel
  refine q_s hB (fun _ _ k => z_iload hB rfl k) (fun hB => ?_)
  refine q_s hB (fun _ _ k => z_if_ne hB (fun h _ => absurd ((by decide : jn 0 = 0)) h) (fun _ => k)) (fun hB => ?_)
  refine q_s hB (fun _ _ k => z_iload hB rfl k) (fun hB => ?_)
  refine q_s hB (fun _ _ k => z_aload hB rfl k) (fun hB => ?_)
  refine q_s hB (fun _ _ k => x_alen hB S.2.1.1 (by rw [S.2.1.2]; omega) (by rw [S.2.1.2]; omega) k) (fun hB => ?_)
  rw [S.len]
  refine q_s hB (fun _ _ k => z_ic_eq hB (fun h _ => absurd h ((by rw [jn_eq (by omega) (by omega)]; exact hne))) (fun _ => k)) (fun hB => ?_)
  refine q_s hB (fun _ _ k => z_aload hB rfl k) (fun hB => ?_)
  refine q_s hB (fun _ _ k => z_iload hB rfl k) (fun hB => ?_)
  refine q_s hB (fun _ _ k => z_iload hB rfl k) (fun hB => ?_)
  refine q_s hB (fun _ _ k => z_callS hB (rest := []) rfl rfl rfl k8 k) (fun hB => ?_)
  exact q_r (x_retA hB) ⟨rfl, h8⟩
theorem n_cor2 {G : z_G} {w : ev_W} (hl : G.2.2.stackTraces = false) {a b cap : Nat} {l : List Nat} (S : SB w a b cap l) {n : Nat} (hnc : n ≤ cap) (hll : w_l w = true) (hn : w_n w < 1000) (hne : n = cap) : z_N G 206 [.ref b, .int (jn 0), .int (jn n)] w (fun v w1 => v = some (.ref (w_n w)) ∧ ∃ f, w1 = w_cp (w_nw w 9 n) (w_n w) f ∧ ∀ i, i < n → f i = w_I w b i) := by
  refine q_con hl (ml := 3) (by decide +kernel) rfl rfl ?_
  have hc9 := S.2.2.2.1
  have ha9 := S.1.1
  have hb8 := S.2.1.1
  have hB : z_all [z_is 206 0 (zf_iload 0 1 1), z_is 206 1 (zf_if1 .ne 1 10 4), z_is 206 4 (zf_iload 4 2 5), z_is 206 5 (zf_aload 5 0 6), z_at 206 6 (zx_alen 6 7), z_is 206 7 (zf_if2 .eq 7 17 10), z_is 206 17 (zf_aload 17 0 18), z_at 206 18 (zx_cln 18 21), z_at 206 21 (zx_castA 21 24), z_is 206 24 (zx_ret 1)] = true := by decide +kernel
  refine q_s hB (fun _ _ k => z_iload hB rfl k) (fun hB => ?_)
  refine q_s hB (fun _ _ k => z_if_ne hB (fun h _ => absurd ((by decide : jn 0 = 0)) h) (fun _ => k)) (fun hB => ?_)
  refine q_s hB (fun _ _ k => z_iload hB rfl k) (fun hB => ?_)
  refine q_s hB (fun _ _ k => z_aload hB rfl k) (fun hB => ?_)
  refine q_s hB (fun _ _ k => x_alen hB S.2.1.1 (by rw [S.2.1.2]; omega) (by rw [S.2.1.2]; omega) k) (fun hB => ?_)
  rw [S.len]
  refine q_s hB (fun _ _ k => z_ic_eq hB (fun _ => k) (fun h _ => absurd ((by rw [hne])) h)) (fun hB => ?_)
  refine q_s hB (fun _ _ k => z_aload hB rfl k) (fun hB => ?_)
  refine q_s hB (fun _ _ k => x_cln hB S.2.1.1 S.2.1.2 (S.2.2.2.1.1.trans hne.symm) hll hn S.2.2.2.2.2.2 rfl k) (fun hB => ?_)
  refine q_s hB (fun _ _ k => x_castA hB (Nat.lt_succ_self _) (nw_K (w := w) (k := 9) (n := n)) k) (fun hB => ?_)
  exact q_r (x_retA hB) ⟨rfl, _, rfl, fun i hi => rfl⟩
theorem n_cor {G : z_G} {w : ev_W} (hl : G.2.2.stackTraces = false) {a b cap : Nat} {l : List Nat} (S : SB w a b cap l) {n : Nat} (hnc : n ≤ cap) (hll : w_l w = true) (hn : w_n w < 1000) : z_N G 206 [.ref b, .int (jn 0), .int (jn n)] w (fun v w1 => v = some (.ref (w_n w)) ∧ ∃ f, w1 = w_cp (w_nw w 9 n) (w_n w) f ∧ ∀ i, i < n → f i = w_I w b i) := by
  by_cases h : n = cap
  · exact n_cor2 hl S hnc hll hn h
  · exact n_cor1 hl S hnc hll hn h
/-- a String of the world -/
def STR (w : ev_W) (s v : Nat) (l : List Nat) : Prop := (s < w_n w ∧ w_K w s = 19) ∧ (v < w_n w ∧ w_K w v = 9 ∧ w_L w v = l.length) ∧ (w_R w s 0 = some v ∧ w_I w s 1 = 0) ∧ l.length ≤ 300 ∧ (∀ i, i < l.length → w_I w v i = jn (l.getD i 0)) ∧ ∀ x ∈ l, x < 128
theorem n_slenB {G : z_G} {w : ev_W} (hl : G.2.2.stackTraces = false) {a b cap : Nat} {l : List Nat} (S : SB w a b cap l) : z_N G 215 [.ref a] w (fun v w1 => v = some (.int (jn l.length)) ∧ w1 = w) := by
  refine q_con hl (ml := 1) (by decide +kernel) rfl rfl ?_
  have k0 := n_k (n_alen hl S)
  have hB : z_all [z_is 215 0 (zf_aload 0 0 1), z_at 215 1 (zx_cS 1 189 0 4), z_is 215 4 (zf_ret 0)] = true := by decide +kernel
  refine q_s hB (fun _ _ k => z_aload hB rfl k) (fun hB => ?_)
  refine q_s hB (fun _ _ k => x_cS hB (rest := []) rfl rfl rfl S.1.1 S.1.2 xs_189 k0 k) (fun hB => ?_)
  exact q_r (z_reti hB) ⟨rfl, rfl⟩
theorem n_str {G : z_G} {w : ev_W} (hl : G.2.2.stackTraces = false) {a b cap : Nat} {l : List Nat} (S : SB w a b cap l) {s : Nat} (hs : s < w_n w) (hks : w_K w s = 19) (h3 : l.length ≤ 300) (hll : w_l w = true) (hn : w_n w < 1000) : z_N G 191 [.ref s, .ref a, .null] w (fun v1 w1 => v1 = none ∧ ∃ v, STR w1 s v l ∧ FR (fun x => x = s) w w1 ∧ w_n w1 = w_n w + 1) := by
  refine q_con hl (ml := 5) (by decide +kernel) rfl rfl ?_
  have hc9 := S.2.2.2.1
  have ha9 := S.1.1
  have hb8 := S.2.1.1
  have sa : ¬ a = s := fun q => by have := S.1.2; rw [q, hks] at this; cases this
  have sb : ¬ b = s := fun q => by have := S.2.1.2; rw [q, hks] at this; cases this
  have S2 : SB (w_sI w s 1 (jn 0)) a b cap l := S.fr (FR_I (by omega)) sa sb
  have k1 := n_k (n_getV hl S)
  have k2 := n_k (n_slenB hl S)
  have k3 := n_k (n_isL hl S)
  obtain ⟨v8, w8, k8, rfl, f8, rfl, h8⟩ := n_cor hl S2 (n := l.length) (by omega) hll hn
  have hB : z_all [z_is 191 0 (zf_aload 0 0 1), z_is 191 1 (zx_obj 1 4), z_is 191 4 (zf_aload 4 1 5), z_at 191 5 (zx_cC 5 188 0 8), z_is 191 8 (zf_astore 8 3 9), z_is 191 9 (zf_aload 9 1 10), z_at 191 10 (zx_cUl 10 215 0 13), z_is 191 13 (zf_istore 13 4 15), z_is 191 15 (zf_aload 15 1 16), z_at 191 16 (zx_cC 16 187 0 19), z_is 191 19 (zf_if1 .eq 19 41 22), z_is 191 22 (zf_aload 22 0 23), z_is 191 23 (zf_cst 23 (jn 0) 24), z_at 191 24 (zf_pb 24 19 1 27), z_is 191 27 (zf_aload 27 0 28), z_is 191 28 (zf_aload 28 3 29), z_is 191 29 (zf_cst 29 (jn 0) 30), z_is 191 30 (zf_iload 30 4 32), z_is 191 32 (zf_cs 32 206 3 35), z_at 191 35 (zf_pr 35 19 0 38), z_is 191 38 (zf_goto 38 97), z_is 191 97 (zf_ret 6)] = true := by decide +kernel
  refine q_s hB (fun _ _ k => z_aload hB rfl k) (fun hB => ?_)
  refine q_s hB (fun _ _ k => x_obj hB rfl k) (fun hB => ?_)
  refine q_s hB (fun _ _ k => z_aload hB rfl k) (fun hB => ?_)
  refine q_s hB (fun _ _ k => x_cC hB (rest := []) rfl rfl rfl S.1.1 S.1.2 xs_188 k1 k) (fun hB => ?_)
  refine q_s hB (fun _ _ k => z_astore hB rfl rfl k) (fun hB => ?_)
  refine q_s hB (fun _ _ k => z_aload hB rfl k) (fun hB => ?_)
  refine q_s hB (fun _ _ k => x_cUl hB (rest := []) rfl rfl rfl S.1.1 S.1.2 k2 k) (fun hB => ?_)
  refine q_s hB (fun _ _ k => z_istore hB rfl rfl k) (fun hB => ?_)
  refine q_s hB (fun _ _ k => z_aload hB rfl k) (fun hB => ?_)
  refine q_s hB (fun _ _ k => x_cC hB (rest := []) rfl rfl rfl S.1.1 S.1.2 xs_187 k3 k) (fun hB => ?_)
  refine q_s hB (fun _ _ k => z_if_eq hB (fun h _ => absurd h ((by decide : ¬ jn 1 = 0))) (fun _ => k)) (fun hB => ?_)
  refine q_s hB (fun _ _ k => z_aload hB rfl k) (fun hB => ?_)
  refine q_s hB (fun _ _ k => z_cst hB k) (fun hB => ?_)
  refine q_s hB (fun _ _ k => x_putb hB hs hks (Or.inl rfl) k) (fun hB => ?_)
  refine q_s hB (fun _ _ k => z_aload hB rfl k) (fun hB => ?_)
  refine q_s hB (fun _ _ k => z_aload hB rfl k) (fun hB => ?_)
  refine q_s hB (fun _ _ k => z_cst hB k) (fun hB => ?_)
  refine q_s hB (fun _ _ k => z_iload hB rfl k) (fun hB => ?_)
  refine q_s hB (fun _ _ k => z_callS hB (rest := [.ref s]) rfl rfl rfl k8 k) (fun hB => ?_)
  refine q_s hB (fun _ _ k => x_putr hB (Nat.lt_succ_of_lt hs) ((nw_Kb (w := w_sI w s 1 (jn 0)) (k := 9) (n := l.length) hs).trans hks) k) (fun hB => ?_)
  refine q_s hB (fun _ _ k => z_goto hB k) (fun hB => ?_)
  refine q_r (z_retv hB) ⟨rfl, w_n w, ⟨⟨Nat.lt_succ_of_lt hs, (nw_Kb (w := w_sI w s 1 (jn 0)) (k := 9) (n := l.length) hs).trans hks⟩, ⟨Nat.lt_succ_self _, nw_K (w := w_sI w s 1 (jn 0)) (k := 9) (n := l.length), nw_L (w := w_sI w s 1 (jn 0)) (k := 9) (n := l.length)⟩, ⟨sR_at, ?_⟩, h3, fun i hi => ?_, S.2.2.2.2.2.1⟩, ((FR_I (by omega)).tr ((FR_nw (w := w_sI w s 1 (jn 0)) (k := 9) (len := l.length) (by show w_n w < 1001; omega) (by omega)).tr ((FR_cp (by show w_n w < 1001; omega)).tr FR_R (Z := fun x => x = s ∨ x = w_n w) (fun _ _ q => Or.inr q) (fun _ _ q => Or.inl q)) (Z := fun x => x = s ∨ x = w_n w) (fun _ _ q => q.elim) (fun _ _ q => q)) (fun _ _ q => q) (fun x hx q => by rcases q with q | q; exact q; have hx2 : x < w_n w := hx; omega)), rfl⟩
  · show w_I (w_cp (w_nw (w_sI w s 1 (jn 0)) 9 l.length) (w_n w) f8) s 1 = 0
    rw [cp_Ib (by omega), nw_Ib (w := w_sI w s 1 (jn 0)) hs, sI_at]
    rfl
  · show w_I (w_cp (w_nw (w_sI w s 1 (jn 0)) 9 l.length) (w_n w) f8) (w_n w) i = _
    rw [cp_I, h8 i hi]
    exact S2.2.2.2.2.1 i hi
theorem n_strB {G : z_G} {w : ev_W} (hl : G.2.2.stackTraces = false) {a b cap : Nat} {l : List Nat} (S : SB w a b cap l) {s : Nat} (hs : s < w_n w) (hks : w_K w s = 19) (h3 : l.length ≤ 300) (hll : w_l w = true) (hn : w_n w < 1000) : z_N G 190 [.ref s, .ref a] w (fun v1 w1 => v1 = none ∧ ∃ v, STR w1 s v l ∧ FR (fun x => x = s) w w1 ∧ w_n w1 = w_n w + 1) := by
  refine q_con hl (ml := 2) (by decide +kernel) rfl rfl ?_
  obtain ⟨v8, w8, k8, rfl, h8⟩ := n_str hl S hs hks h3 hll hn
  have hB : z_all [z_is 190 0 (zf_aload 0 0 1), z_is 190 1 (zf_aload 1 1 2), z_at 190 2 (zx_null 2 3), z_at 190 3 (zx_cI 3 191 2 6), z_is 190 6 (zf_ret 6)] = true := by decide +kernel
  refine q_s hB (fun _ _ k => z_aload hB rfl k) (fun hB => ?_)
  refine q_s hB (fun _ _ k => z_aload hB rfl k) (fun hB => ?_)
  refine q_s hB (fun _ _ k => x_null (u_ := ()) hB k) (fun hB => ?_)
  refine q_s hB (fun _ _ k => x_cI hB (rest := []) rfl rfl rfl hs k8 k) (fun hB => ?_)
  exact q_r (z_retv hB) ⟨rfl, h8⟩
theorem n_toS {G : z_G} {w : ev_W} (hl : G.2.2.stackTraces = false) {a b cap : Nat} {l : List Nat} (S : SB w a b cap l) (h3 : l.length ≤ 300) (hll : w_l w = true) (hn : w_n w < 999) : z_N G 178 [.ref a] w (fun v1 w1 => v1 = some (.ref (w_n w)) ∧ ∃ v, STR w1 (w_n w) v l ∧ FR (fun _ => False) w w1 ∧ w_n w1 = w_n w + 2) := by
  refine q_con hl (ml := 1) (by decide +kernel) rfl rfl ?_
  have F0 := FR_nw (w := w) (k := 19) (len := 4) (by omega) (by omega)
  obtain ⟨v8, w8, k8, rfl, v9, h9, f9, n9⟩ := n_strB hl (S.fr F0 (fun q => q) (fun q => q)) (s := w_n w) (Nat.lt_succ_self _) (nw_K (w := w) (k := 19) (n := 4)) h3 hll (by show w_n w + 1 < 1000; omega)
  have hB : z_all [z_at 178 0 (zx_new 0 19 4 3), z_at 178 3 (zx_dup 3 4), z_is 178 4 (zf_aload 4 0 5), z_at 178 5 (zx_cI 5 190 1 8), z_is 178 8 (zf_ret 5)] = true := by decide +kernel
  refine q_s hB (fun _ _ k => x_new hB hll (by omega) k) (fun hB => ?_)
  refine q_s hB (fun _ _ k => x_dup hB rfl k) (fun hB => ?_)
  refine q_s hB (fun _ _ k => z_aload hB rfl k) (fun hB => ?_)
  refine q_s hB (fun _ _ k => x_cI hB (rest := [.ref (w_n w)]) rfl rfl rfl (Nat.lt_succ_self _) k8 k) (fun hB => ?_)
  exact q_r (z_reta hB) ⟨rfl, v9, h9, F0.tr f9 (fun _ _ q => q) (fun x hx q => by omega), n9⟩
