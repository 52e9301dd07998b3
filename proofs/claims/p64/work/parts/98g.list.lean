/-! ArrayList: constructor, add, get, size over at most ten flags: by wip/gen/p64/j98g.py -/
/-- a list: its row (the empty one outside the world, or one of ten places), its flags -/
def AL (w : ev_W) (a d : Nat) (fs : List Nat) : Prop := (a < w_n w ∧ w_K w a = 17) ∧ (w_R w a 1 = some d ∧ w_I w a 2 = jn fs.length) ∧ ((fs = [] ∧ d = ev_S + 100) ∨ (d < w_n w ∧ w_K w d = 15 ∧ w_L w d = 10 ∧ fs.length ≤ 10 ∧ ∀ i, i < fs.length → w_R w d i = some (fs.getD i 0)))
theorem AL.fr {X : Nat → Prop} {w w1 : ev_W} {a d : Nat} {fs : List Nat} (S : AL w a d fs) (F : FR X w w1) (ha : ¬ X a) (hd : d < w_n w → ¬ X d) : AL w1 a d fs := by
  obtain ⟨⟨a1, a2⟩, ⟨b1, b2⟩, c1⟩ := S
  obtain ⟨⟨p1, -⟩, -, q⟩ := F
  obtain ⟨⟨x1, x2⟩, x3⟩ := q a a1
  obtain ⟨i1, r1, -⟩ := x3 ha
  refine ⟨⟨Nat.lt_of_lt_of_le a1 p1, x1.trans a2⟩, ⟨by rw [r1]; exact b1, by rw [i1]; exact b2⟩, ?_⟩
  rcases c1 with c1 | ⟨c1, c2, c3, c4, c5⟩
  · exact Or.inl c1
  · obtain ⟨⟨y1, y2⟩, y3⟩ := q d c1
    obtain ⟨i2, r2, -⟩ := y3 (hd c1)
    exact Or.inr ⟨Nat.lt_of_lt_of_le c1 p1, y1.trans c2, y2.trans c3, c4, fun i hi => by rw [r2]; exact c5 i hi⟩
theorem n_acol {G : z_G} {w : ev_W} (hl : G.2.2.stackTraces = false) {a : Nat}  : z_N G 172 [.ref a] w (fun v w1 => v = none ∧ w1 = w) := by
  refine q_con hl (ml := 1) (by decide +kernel) rfl rfl ?_
  have hB : z_all [z_is 172 0 (zf_aload 0 0 1), z_is 172 1 (zx_obj 1 4), z_is 172 4 (zf_ret 6)] = true := by decide +kernel
  refine q_s hB (fun _ _ k => z_aload hB rfl k) (fun hB => ?_)
  refine q_s hB (fun _ _ k => x_obj hB rfl k) (fun hB => ?_)
  exact q_r (z_retv hB) ⟨rfl, rfl⟩
theorem n_alst {G : z_G} {w : ev_W} (hl : G.2.2.stackTraces = false) {a : Nat} (ha : a < w_n w) (hk : w_K w a = 17) : z_N G 171 [.ref a] w (fun v w1 => v = none ∧ w1 = w_sI w a 0 (jn 0)) := by
  refine q_con hl (ml := 1) (by decide +kernel) rfl rfl ?_
  have k1 := n_k (n_acol (w := w) (a := a) hl)
  have hB : z_all [z_is 171 0 (zf_aload 0 0 1), z_at 171 1 (zx_cI 1 172 0 4), z_is 171 4 (zf_aload 4 0 5), z_is 171 5 (zf_cst 5 (jn 0) 6), z_at 171 6 (zf_pi 6 17 0 9), z_is 171 9 (zf_ret 6)] = true := by decide +kernel
  refine q_s hB (fun _ _ k => z_aload hB rfl k) (fun hB => ?_)
  refine q_s hB (fun _ _ k => x_cI hB (rest := []) rfl rfl rfl ha k1 k) (fun hB => ?_)
  refine q_s hB (fun _ _ k => z_aload hB rfl k) (fun hB => ?_)
  refine q_s hB (fun _ _ k => z_cst hB k) (fun hB => ?_)
  refine q_s hB (fun _ _ k => x_puti hB ha hk k) (fun hB => ?_)
  exact q_r (z_retv hB) ⟨rfl, rfl⟩
theorem n_alin {G : z_G} {w : ev_W} (hl : G.2.2.stackTraces = false) {a : Nat} (ha : a < w_n w) (hk : w_K w a = 17) (h2 : w_I w a 2 = 0) (hn : w_n w ≤ 1000) : z_N G 163 [.ref a] w (fun v w1 => v = none ∧ AL w1 a (ev_S + 100) [] ∧ FR (fun x => x = a) w w1 ∧ w_n w1 = w_n w) := by
  refine q_con hl (ml := 1) (by decide +kernel) rfl rfl ?_
  have k1 := n_k (n_alst hl ha hk)
  have hB : z_all [z_is 163 0 (zf_aload 0 0 1), z_at 163 1 (zx_cI 1 171 0 4), z_is 163 4 (zf_aload 4 0 5), z_at 163 5 (zx_empt 5 8), z_at 163 8 (zf_pr 8 17 1 11), z_is 163 11 (zf_ret 6)] = true := by decide +kernel
  refine q_s hB (fun _ _ k => z_aload hB rfl k) (fun hB => ?_)
  refine q_s hB (fun _ _ k => x_cI hB (rest := []) rfl rfl rfl ha k1 k) (fun hB => ?_)
  refine q_s hB (fun _ _ k => z_aload hB rfl k) (fun hB => ?_)
  refine q_s hB (fun _ _ k => x_empt hB k) (fun hB => ?_)
  refine q_s hB (fun _ _ k => x_putr hB ha hk k) (fun hB => ?_)
  exact q_r (z_retv hB) ⟨rfl, ⟨⟨ha, hk⟩, ⟨sR_at, (sI_ne (w := w) (i := 0) (x := jn 0) (by omega)).trans h2⟩, Or.inl ⟨rfl, rfl⟩⟩, (FR_I (by omega)).tr FR_R (fun _ _ q => q) (fun _ _ q => q), rfl⟩
theorem n_alsz {G : z_G} {w : ev_W} (hl : G.2.2.stackTraces = false) {a d : Nat} {fs : List Nat} (S : AL w a d fs) : z_N G 170 [.ref a] w (fun v w1 => v = some (.int (jn fs.length)) ∧ w1 = w) := by
  refine q_con hl (ml := 1) (by decide +kernel) rfl rfl ?_
  have hB : z_all [z_is 170 0 (zf_aload 0 0 1), z_at 170 1 (zf_gi 1 17 2 4), z_is 170 4 (zf_ret 0)] = true := by decide +kernel
  refine q_s hB (fun _ _ k => z_aload hB rfl k) (fun hB => ?_)
  refine q_s hB (fun _ _ k => x_geti hB S.1.1 S.1.2 k) (fun hB => ?_)
  rw [S.2.1.2]
  exact q_r (z_reti hB) ⟨rfl, rfl⟩
theorem n_pchk {G : z_G} {w : ev_W} (hl : G.2.2.stackTraces = false) {x y : Nat} (hx : x < y) (hy : y < 100000) : z_N G 214 [.int (jn x), .int (jn y), .null] w (fun v w1 => v = some (.int (jn x)) ∧ w1 = w) := by
  refine q_con hl (ml := 3) (by decide +kernel) rfl rfl ?_
  have hB : z_all [z_is 214 0 (zf_iload 0 0 1), z_is 214 1 (zf_if1 .lt 1 9 4), z_is 214 4 (zf_iload 4 0 5), z_is 214 5 (zf_iload 5 1 6), z_is 214 6 (zf_if2 .lt 6 16 9), z_is 214 16 (zf_iload 16 0 17), z_is 214 17 (zf_ret 0)] = true := by decide +kernel
  refine q_s hB (fun _ _ k => z_iload hB rfl k) (fun hB => ?_)
  refine q_s hB (fun _ _ k => z_if_lt hB (fun h _ => absurd h (jpos (by omega))) (fun _ => k)) (fun hB => ?_)
  refine q_s hB (fun _ _ k => z_iload hB rfl k) (fun hB => ?_)
  refine q_s hB (fun _ _ k => z_iload hB rfl k) (fun hB => ?_)
  refine q_s hB (fun _ _ k => z_ic_lt hB (fun _ => k) (fun h _ => absurd ((by rw [jn_lt (by omega) (by omega)]; exact hx)) h)) (fun hB => ?_)
  refine q_s hB (fun _ _ k => z_iload hB rfl k) (fun hB => ?_)
  exact q_r (z_reti hB) ⟨rfl, rfl⟩
theorem n_ochk {G : z_G} {w : ev_W} (hl : G.2.2.stackTraces = false) {x y : Nat} (hx : x < y) (hy : y < 100000) : z_N G 213 [.int (jn x), .int (jn y)] w (fun v w1 => v = some (.int (jn x)) ∧ w1 = w) := by
  refine q_con hl (ml := 2) (by decide +kernel) rfl rfl ?_
  have k1 := n_k (n_pchk (w := w) hl hx hy)
  have hB : z_all [z_is 213 0 (zf_iload 0 0 1), z_is 213 1 (zf_iload 1 1 2), z_at 213 2 (zx_null 2 3), z_is 213 3 (zf_cs 3 214 3 6), z_is 213 6 (zf_ret 0)] = true := by decide +kernel
  refine q_s hB (fun _ _ k => z_iload hB rfl k) (fun hB => ?_)
  refine q_s hB (fun _ _ k => z_iload hB rfl k) (fun hB => ?_)
  refine q_s hB (fun _ _ k => x_null (u_ := ()) hB k) (fun hB => ?_)
  refine q_s hB (fun _ _ k => z_callS hB (rest := []) rfl rfl rfl k1 k) (fun hB => ?_)
  exact q_r (z_reti hB) ⟨rfl, rfl⟩
theorem n_aled {G : z_G} {w : ev_W} (hl : G.2.2.stackTraces = false) {a d : Nat} {fs : List Nat} (S : AL w a d fs) {i : Nat} (hi : i < fs.length) : z_N G 169 [.ref a, .int (jn i)] w (fun v w1 => v = some (.ref (fs.getD i 0)) ∧ w1 = w) := by
  refine q_con hl (ml := 2) (by decide +kernel) rfl rfl ?_
  obtain ⟨c1, c2, c3, c4, c5⟩ : d < w_n w ∧ w_K w d = 15 ∧ w_L w d = 10 ∧ fs.length ≤ 10 ∧ ∀ i, i < fs.length → w_R w d i = some (fs.getD i 0) := S.2.2.resolve_left (fun q => by rw [q.1] at hi; exact absurd hi (Nat.not_lt_zero _))
  have hB : z_all [z_is 169 0 (zf_aload 0 0 1), z_at 169 1 (zf_gr 1 17 1 4), z_is 169 4 (zf_iload 4 1 5), z_at 169 5 (zx_aald 5 6), z_is 169 6 (zf_ret 5)] = true := by decide +kernel
  refine q_s hB (fun _ _ k => z_aload hB rfl k) (fun hB => ?_)
  refine q_s hB (fun _ _ k => x_getr hB S.1.1 S.1.2 S.2.1.1 k) (fun hB => ?_)
  refine q_s hB (fun _ _ k => z_iload hB rfl k) (fun hB => ?_)
  refine q_s hB (fun _ _ k => x_aald hB c1 c2 (Or.inl rfl) (by rw [c3]; exact jn_ok (by omega) (by omega)) (by rw [jn_n (by omega)]; exact c5 i hi) k) (fun hB => ?_)
  exact q_r (z_reta hB) ⟨rfl, rfl⟩
theorem n_alget {G : z_G} {w : ev_W} (hl : G.2.2.stackTraces = false) {a d : Nat} {fs : List Nat} (S : AL w a d fs) {i : Nat} (hi : i < fs.length) : z_N G 168 [.ref a, .int (jn i)] w (fun v w1 => v = some (.ref (fs.getD i 0)) ∧ w1 = w) := by
  refine q_con hl (ml := 2) (by decide +kernel) rfl rfl ?_
  obtain ⟨c1, c2, c3, c4, c5⟩ : d < w_n w ∧ w_K w d = 15 ∧ w_L w d = 10 ∧ fs.length ≤ 10 ∧ ∀ i, i < fs.length → w_R w d i = some (fs.getD i 0) := S.2.2.resolve_left (fun q => by rw [q.1] at hi; exact absurd hi (Nat.not_lt_zero _))
  have k1 := n_k (n_ochk (w := w) hl (x := i) (y := fs.length) hi (by omega))
  have k2 := n_k (n_aled hl S hi)
  have hB : z_all [z_is 168 0 (zf_iload 0 1 1), z_is 168 1 (zf_aload 1 0 2), z_at 168 2 (zf_gi 2 17 2 5), z_is 168 5 (zf_cs 5 213 2 8), z_at 168 8 (zx_pop 8 9), z_is 168 9 (zf_aload 9 0 10), z_is 168 10 (zf_iload 10 1 11), z_is 168 11 (zf_cv 11 169 1 17 14), z_is 168 14 (zf_ret 5)] = true := by decide +kernel
  refine q_s hB (fun _ _ k => z_iload hB rfl k) (fun hB => ?_)
  refine q_s hB (fun _ _ k => z_aload hB rfl k) (fun hB => ?_)
  refine q_s hB (fun _ _ k => x_geti hB S.1.1 S.1.2 k) (fun hB => ?_)
  rw [S.2.1.2]
  refine q_s hB (fun _ _ k => z_callS hB (rest := []) rfl rfl rfl k1 k) (fun hB => ?_)
  refine q_s hB (fun _ _ k => x_pop hB rfl k) (fun hB => ?_)
  refine q_s hB (fun _ _ k => z_aload hB rfl k) (fun hB => ?_)
  refine q_s hB (fun _ _ k => z_iload hB rfl k) (fun hB => ?_)
  refine q_s hB (fun _ _ k => z_callV hB (rest := []) rfl rfl rfl S.1.1 S.1.2 k2 k) (fun hB => ?_)
  exact q_r (z_reta hB) ⟨rfl, rfl⟩
theorem n_algr {G : z_G} {w : ev_W} (hl : G.2.2.stackTraces = false) {a : Nat} (S : AL w a (ev_S + 100) []) (hll : w_l w = true) (hn : w_n w < 1000) : z_N G 167 [.ref a, .int (jn 1)] w (fun v w1 => v = some (.ref (w_n w)) ∧ w1 = w_sR (w_nw w 15 10) a 1 (some (w_n w))) := by
  refine q_con hl (ml := 4) (by decide +kernel) rfl rfl ?_
  have hB : z_all [z_is 167 0 (zf_aload 0 0 1), z_at 167 1 (zf_gr 1 17 1 4), z_at 167 4 (zx_elen 4 5), z_is 167 5 (zf_istore 5 2 6), z_is 167 6 (zf_iload 6 2 7), z_is 167 7 (zf_if1 .gt 7 20 10), z_is 167 10 (zf_aload 10 0 11), z_at 167 11 (zf_gr 11 17 1 14), z_at 167 14 (zx_empt 14 17), z_at 167 17 (zx_aeqj 17 45), z_is 167 45 (zf_aload 45 0 46), z_is 167 46 (zf_cst 46 (jn 10) 48), z_is 167 48 (zf_iload 48 1 49), z_is 167 49 (zf_nat 49 100 52), z_at 167 52 (zx_anw 52 17 7 55), z_at 167 55 (zx_dupx1 55 56), z_at 167 56 (zf_pr 56 17 1 59), z_is 167 59 (zx_ret 1)] = true := by decide +kernel
  refine q_s hB (fun _ _ k => z_aload hB rfl k) (fun hB => ?_)
  refine q_s hB (fun _ _ k => x_getr hB S.1.1 S.1.2 S.2.1.1 k) (fun hB => ?_)
  refine q_s hB (fun _ _ k => x_elen (u_ := ()) hB k) (fun hB => ?_)
  refine q_s hB (fun _ _ k => z_istore hB rfl rfl k) (fun hB => ?_)
  refine q_s hB (fun _ _ k => z_iload hB rfl k) (fun hB => ?_)
  refine q_s hB (fun _ _ k => z_if_gt hB (fun h _ => absurd h ((by decide : ¬ (0 : Int32) < Int32.ofNat 0))) (fun _ => k)) (fun hB => ?_)
  refine q_s hB (fun _ _ k => z_aload hB rfl k) (fun hB => ?_)
  refine q_s hB (fun _ _ k => x_getr hB S.1.1 S.1.2 S.2.1.1 k) (fun hB => ?_)
  refine q_s hB (fun _ _ k => x_empt hB k) (fun hB => ?_)
  refine q_s hB (fun _ _ k => x_aeqj hB k) (fun hB => ?_)
  refine q_s hB (fun _ _ k => z_aload hB rfl k) (fun hB => ?_)
  refine q_s hB (fun _ _ k => z_cst hB k) (fun hB => ?_)
  refine q_s hB (fun _ _ k => z_iload hB rfl k) (fun hB => ?_)
  refine q_s hB (fun _ _ k => z_max hB rfl k) (fun hB => ?_)
  rw [jn_mx (by omega) (by omega), show max 10 1 = 10 from rfl]
  refine q_s hB (fun _ _ k => x_anw hB (Or.inl ⟨rfl, rfl, rfl⟩) hll hn (jn_ok (by omega) (by omega)) k) (fun hB => ?_)
  rw [jn_n (by omega)]
  refine q_s hB (fun _ _ k => x_dupx1 hB rfl rfl k) (fun hB => ?_)
  refine q_s hB (fun _ _ k => x_putr hB (Nat.lt_succ_of_lt S.1.1) ((nw_Kb (w := w) (k := 15) (n := 10) S.1.1).trans S.1.2) k) (fun hB => ?_)
  exact q_r (x_retA hB) ⟨rfl, rfl⟩
theorem n_algr0 {G : z_G} {w : ev_W} (hl : G.2.2.stackTraces = false) {a : Nat} (S : AL w a (ev_S + 100) []) (hll : w_l w = true) (hn : w_n w < 1000) : z_N G 166 [.ref a] w (fun v w1 => v = some (.ref (w_n w)) ∧ w1 = w_sR (w_nw w 15 10) a 1 (some (w_n w))) := by
  refine q_con hl (ml := 1) (by decide +kernel) rfl rfl ?_
  have k1 := n_k (n_algr hl S hll hn)
  have hB : z_all [z_is 166 0 (zf_aload 0 0 1), z_is 166 1 (zf_aload 1 0 2), z_at 166 2 (zf_gi 2 17 2 5), z_is 166 5 (zf_cst 5 (jn 1) 6), z_is 166 6 (zf_iadd 6 7), z_is 166 7 (zf_cv 7 167 1 17 10), z_is 166 10 (zx_ret 1)] = true := by decide +kernel
  refine q_s hB (fun _ _ k => z_aload hB rfl k) (fun hB => ?_)
  refine q_s hB (fun _ _ k => z_aload hB rfl k) (fun hB => ?_)
  refine q_s hB (fun _ _ k => x_geti hB S.1.1 S.1.2 k) (fun hB => ?_)
  refine q_s hB (fun _ _ k => z_cst hB k) (fun hB => ?_)
  rw [S.2.1.2]
  refine q_s hB (fun _ _ k => z_iadd hB k) (fun hB => ?_)
  rw [show jn ([] : List Nat).length + jn 1 = jn 1 from by decide]
  refine q_s hB (fun _ _ k => z_callV hB (rest := []) rfl rfl rfl S.1.1 S.1.2 k1 k) (fun hB => ?_)
  exact q_r (x_retA hB) ⟨rfl, rfl⟩
theorem sR_nb {w : ev_W} {a i b : Nat} {x : Option Nat} (h : ¬ b = a) : w_R (w_sR w a i x) b = w_R w b := if_neg h
theorem sR_ni {w : ev_W} {a i k : Nat} {x : Option Nat} (h : ¬ k = i) : w_R (w_sR w a i x) a k = w_R w a k := by
  show ev_u2 (w_R w) a i x a k = _
  unfold ev_u2; rw [if_pos rfl]; exact if_neg h
theorem AL_mod {w : ev_W} {a d : Nat} {fs : List Nat} {v : Int32} (S : AL w a d fs) : AL (w_sI w a 0 v) a d fs := ⟨S.1, ⟨S.2.1.1, (sI_ne (by omega)).trans S.2.1.2⟩, S.2.2⟩
/-- what add does -/
def ALp (w w1 : ev_W) (a d : Nat) (fs : List Nat) : Prop := ∃ d1, AL w1 a d1 fs ∧ FR (fun y => y = a ∨ (y = d ∧ d < w_n w)) w w1 ∧ w_n w1 ≤ w_n w + 1 ∧ (d1 = d ∨ w_n w ≤ d1) ∧ d1 < w_n w1
theorem n_aladd0 {G : z_G} {w : ev_W} (hl : G.2.2.stackTraces = false) {a : Nat} (S : AL w a (ev_S + 100) []) {x : Nat} (hx : x < w_n w) (hkx : w_K w x = 16) (hll : w_l w = true) (hn : w_n w < 1000) : z_N G 165 [.ref a, .ref x, .ref (ev_S + 100), .int (jn 0)] w (fun v w1 => v = none ∧ ALp w w1 a (ev_S + 100) [x]) := by
  refine q_con hl (ml := 4) (by decide +kernel) rfl rfl ?_
  have k1 := n_k (n_algr0 hl S hll hn)
  have ae : ¬ a = w_n w := Nat.ne_of_lt S.1.1
  have na := S.1.1
  have hB : z_all [z_is 165 0 (zf_iload 0 3 1), z_is 165 1 (zf_aload 1 2 2), z_at 165 2 (zx_elen 2 3), z_is 165 3 (zf_if2 .ne 3 11 6), z_is 165 6 (zf_aload 6 0 7), z_is 165 7 (zf_cv 7 166 0 17 10), z_is 165 10 (zf_astore 10 2 11), z_is 165 11 (zf_aload 11 2 12), z_is 165 12 (zf_iload 12 3 13), z_is 165 13 (zf_aload 13 1 14), z_at 165 14 (zx_aast 14 15), z_is 165 15 (zf_aload 15 0 16), z_is 165 16 (zf_iload 16 3 17), z_is 165 17 (zf_cst 17 (jn 1) 18), z_is 165 18 (zf_iadd 18 19), z_at 165 19 (zf_pi 19 17 2 22), z_is 165 22 (zf_ret 6)] = true := by decide +kernel
  refine q_s hB (fun _ _ k => z_iload hB rfl k) (fun hB => ?_)
  refine q_s hB (fun _ _ k => z_aload hB rfl k) (fun hB => ?_)
  refine q_s hB (fun _ _ k => x_elen (u_ := ()) hB k) (fun hB => ?_)
  refine q_s hB (fun _ _ k => z_ic_ne hB (fun h _ => absurd ((rfl : jn 0 = Int32.ofNat 0)) h) (fun _ => k)) (fun hB => ?_)
  refine q_s hB (fun _ _ k => z_aload hB rfl k) (fun hB => ?_)
  refine q_s hB (fun _ _ k => z_callV hB (rest := []) rfl rfl rfl S.1.1 S.1.2 k1 k) (fun hB => ?_)
  refine q_s hB (fun _ _ k => z_astore hB rfl rfl k) (fun hB => ?_)
  refine q_s hB (fun _ _ k => z_aload hB rfl k) (fun hB => ?_)
  refine q_s hB (fun _ _ k => z_iload hB rfl k) (fun hB => ?_)
  refine q_s hB (fun _ _ k => z_aload hB rfl k) (fun hB => ?_)
  refine q_s hB (fun _ _ k => x_aast hB (Nat.lt_succ_self _) (Nat.lt_succ_of_lt hx) (nw_K (w := w) (k := 15) (n := 10)) ((nw_Kb (w := w) (k := 15) (n := 10) hx).trans hkx) (by show ev_ok _ (w_L (w_nw w 15 10) (w_n w)) = true; rw [nw_L]; exact jn_ok (by omega) (by omega)) k) (fun hB => ?_)
  rw [jn_n (by omega)]
  refine q_s hB (fun _ _ k => z_aload hB rfl k) (fun hB => ?_)
  refine q_s hB (fun _ _ k => z_iload hB rfl k) (fun hB => ?_)
  refine q_s hB (fun _ _ k => z_cst hB k) (fun hB => ?_)
  refine q_s hB (fun _ _ k => z_iadd hB k) (fun hB => ?_)
  rw [jn_add]
  refine q_s hB (fun _ _ k => x_puti hB (Nat.lt_succ_of_lt S.1.1) ((nw_Kb (w := w) (k := 15) (n := 10) S.1.1).trans S.1.2) k) (fun hB => ?_)
  refine q_r (z_retv hB) ⟨rfl, w_n w, ⟨⟨Nat.lt_succ_of_lt S.1.1, (nw_Kb (w := w) (k := 15) (n := 10) S.1.1).trans S.1.2⟩, ⟨?_, sI_at⟩, Or.inr ⟨Nat.lt_succ_self _, nw_K (w := w) (k := 15) (n := 10), nw_L (w := w) (k := 15) (n := 10), by simp, fun i hi => ?_⟩⟩, ?_, Nat.le_refl _, Or.inr (Nat.le_refl _), Nat.lt_succ_self _⟩
  · show w_R (w_sR (w_sR (w_nw w 15 10) a 1 (some (w_n w))) (w_n w) 0 (some x)) a 1 = _
    rw [sR_nb ae, sR_at]
  · have h0 : i = 0 := by simp at hi; exact hi
    subst h0
    show w_R (w_sR (w_sR (w_nw w 15 10) a 1 (some (w_n w))) (w_n w) 0 (some x)) (w_n w) 0 = _
    rw [sR_at]
    rfl
  · exact (FR_nw (by omega) (by omega)).tr (FR_R.tr (FR_R.tr (FR_I (by omega)) (Z := fun y => y = a ∨ y = w_n w) (fun _ _ q => Or.inr q) (fun _ _ q => Or.inl q)) (Z := fun y => y = a ∨ y = w_n w) (fun _ _ q => Or.inl q) (fun _ _ q => q)) (fun _ _ q => q.elim) (fun y hy q => by rcases q with q | q; exact Or.inl q; omega)
theorem n_aladd1 {G : z_G} {w : ev_W} (hl : G.2.2.stackTraces = false) {a d : Nat} {fs : List Nat} (S : AL w a d fs) {x : Nat} (hx : x < w_n w) (hkx : w_K w x = 16) (hd : d < w_n w) (hf : fs.length < 10) (hn : w_n w ≤ 1000) : z_N G 165 [.ref a, .ref x, .ref d, .int (jn fs.length)] w (fun v w1 => v = none ∧ ALp w w1 a d (fs ++ [x])) := by
  refine q_con hl (ml := 4) (by decide +kernel) rfl rfl ?_
  obtain ⟨c1, c2, c3, c4, c5⟩ : d < w_n w ∧ w_K w d = 15 ∧ w_L w d = 10 ∧ fs.length ≤ 10 ∧ ∀ i, i < fs.length → w_R w d i = some (fs.getD i 0) := S.2.2.resolve_left (fun q => by rw [q.2] at hd; unfold ev_S at hd; omega)
  have ad : ¬ a = d := fun q => by have h9 := S.1.2; rw [q, c2] at h9; cases h9
  have na := S.1.1
  have hB : z_all [z_is 165 0 (zf_iload 0 3 1), z_is 165 1 (zf_aload 1 2 2), z_at 165 2 (zx_alen 2 3), z_is 165 3 (zf_if2 .ne 3 11 6), z_is 165 11 (zf_aload 11 2 12), z_is 165 12 (zf_iload 12 3 13), z_is 165 13 (zf_aload 13 1 14), z_at 165 14 (zx_aast 14 15), z_is 165 15 (zf_aload 15 0 16), z_is 165 16 (zf_iload 16 3 17), z_is 165 17 (zf_cst 17 (jn 1) 18), z_is 165 18 (zf_iadd 18 19), z_at 165 19 (zf_pi 19 17 2 22), z_is 165 22 (zf_ret 6)] = true := by decide +kernel
  refine q_s hB (fun _ _ k => z_iload hB rfl k) (fun hB => ?_)
  refine q_s hB (fun _ _ k => z_aload hB rfl k) (fun hB => ?_)
  refine q_s hB (fun _ _ k => x_alen hB c1 (by rw [c2]; omega) (by rw [c2]; omega) k) (fun hB => ?_)
  rw [show Int32.ofNat (w_L w d) = jn 10 from by rw [c3]; rfl]
  refine q_s hB (fun _ _ k => z_ic_ne hB (fun _ => k) (fun h _ => absurd h ((by rw [jn_eq (by omega) (by omega)]; omega)))) (fun hB => ?_)
  refine q_s hB (fun _ _ k => z_aload hB rfl k) (fun hB => ?_)
  refine q_s hB (fun _ _ k => z_iload hB rfl k) (fun hB => ?_)
  refine q_s hB (fun _ _ k => z_aload hB rfl k) (fun hB => ?_)
  refine q_s hB (fun _ _ k => x_aast hB c1 hx c2 hkx (by rw [c3]; exact jn_ok (by omega) (by omega)) k) (fun hB => ?_)
  rw [jn_n (by omega)]
  refine q_s hB (fun _ _ k => z_aload hB rfl k) (fun hB => ?_)
  refine q_s hB (fun _ _ k => z_iload hB rfl k) (fun hB => ?_)
  refine q_s hB (fun _ _ k => z_cst hB k) (fun hB => ?_)
  refine q_s hB (fun _ _ k => z_iadd hB k) (fun hB => ?_)
  rw [jn_add]
  refine q_s hB (fun _ _ k => x_puti hB S.1.1 S.1.2 k) (fun hB => ?_)
  refine q_r (z_retv hB) ⟨rfl, d, ⟨S.1, ⟨?_, by rw [List.length_append]; exact sI_at⟩, Or.inr ⟨c1, c2, c3, by rw [List.length_append]; exact hf, fun i hi => ?_⟩⟩, ?_, Nat.le_succ _, Or.inl rfl, c1⟩
  · show w_R (w_sR w d fs.length (some x)) a 1 = _
    rw [sR_nb ad]
    exact S.2.1.1
  · show w_R (w_sR w d fs.length (some x)) d i = _
    rw [List.length_append] at hi
    have hi2 : i < fs.length + 1 := hi
    by_cases q : i = fs.length
    · rw [q, sR_at, List.getD_eq_getElem?_getD, List.getElem?_append_right (Nat.le_refl _), Nat.sub_self]
      rfl
    · rw [sR_ni q, c5 i (by omega), List.getD_eq_getElem?_getD, List.getD_eq_getElem?_getD, List.getElem?_append_left (by omega)]
  · exact FR_R.tr (FR_I (by omega)) (fun _ _ q => Or.inr ⟨q, hd⟩) (fun _ _ q => Or.inl q)
theorem n_alad {G : z_G} {w : ev_W} (hl : G.2.2.stackTraces = false) {a d : Nat} {fs : List Nat} (S : AL w a d fs) {x : Nat} (hx : x < w_n w) (hkx : w_K w x = 16) (hf : fs.length < 10) (hll : w_l w = true) (hn : w_n w < 1000) : z_N G 165 [.ref a, .ref x, .ref d, .int (jn fs.length)] w (fun v w1 => v = none ∧ ALp w w1 a d (fs ++ [x])) := by
  rcases S.2.2 with ⟨q1, q2⟩ | q
  · subst q1 q2
    exact n_aladd0 hl S hx hkx hll hn
  · exact n_aladd1 hl S hx hkx q.1 hf (by omega)
theorem n_add {G : z_G} {w : ev_W} (hl : G.2.2.stackTraces = false) {a d : Nat} {fs : List Nat} (S : AL w a d fs) {x : Nat} (hx : x < w_n w) (hkx : w_K w x = 16) (hf : fs.length < 10) (hll : w_l w = true) (hn : w_n w < 1000) : z_N G 164 [.ref a, .ref x] w (fun v w1 => v = some (.int (jn 1)) ∧ ALp w w1 a d (fs ++ [x])) := by
  refine q_con hl (ml := 2) (by decide +kernel) rfl rfl ?_
  have na := S.1.1
  have S2 := AL_mod (v := w_I w a 0 + jn 1) S
  obtain ⟨v5, w5, k5, rfl, d5, A5, F5, n5, o5, l5⟩ := n_alad hl S2 (x := x) hx hkx hf hll hn
  have hB : z_all [z_is 164 0 (zf_aload 0 0 1), z_at 164 1 (zx_dup 1 2), z_at 164 2 (zf_gi 2 17 0 5), z_is 164 5 (zf_cst 5 (jn 1) 6), z_is 164 6 (zf_iadd 6 7), z_at 164 7 (zf_pi 7 17 0 10), z_is 164 10 (zf_aload 10 0 11), z_is 164 11 (zf_aload 11 1 12), z_is 164 12 (zf_aload 12 0 13), z_at 164 13 (zf_gr 13 17 1 16), z_is 164 16 (zf_aload 16 0 17), z_at 164 17 (zf_gi 17 17 2 20), z_is 164 20 (zf_cv 20 165 3 17 23), z_is 164 23 (zf_cst 23 (jn 1) 24), z_is 164 24 (zf_ret 1)] = true := by decide +kernel
  refine q_s hB (fun _ _ k => z_aload hB rfl k) (fun hB => ?_)
  refine q_s hB (fun _ _ k => x_dup hB rfl k) (fun hB => ?_)
  refine q_s hB (fun _ _ k => x_geti hB S.1.1 S.1.2 k) (fun hB => ?_)
  refine q_s hB (fun _ _ k => z_cst hB k) (fun hB => ?_)
  refine q_s hB (fun _ _ k => z_iadd hB k) (fun hB => ?_)
  refine q_s hB (fun _ _ k => x_puti hB S.1.1 S.1.2 k) (fun hB => ?_)
  refine q_s hB (fun _ _ k => z_aload hB rfl k) (fun hB => ?_)
  refine q_s hB (fun _ _ k => z_aload hB rfl k) (fun hB => ?_)
  refine q_s hB (fun _ _ k => z_aload hB rfl k) (fun hB => ?_)
  refine q_s hB (fun _ _ k => x_getr hB S.1.1 S.1.2 S2.2.1.1 k) (fun hB => ?_)
  refine q_s hB (fun _ _ k => z_aload hB rfl k) (fun hB => ?_)
  refine q_s hB (fun _ _ k => x_geti hB S.1.1 S.1.2 k) (fun hB => ?_)
  rw [S2.2.1.2]
  refine q_s hB (fun _ _ k => z_callV hB (rest := []) rfl rfl rfl S.1.1 S.1.2 k5 k) (fun hB => ?_)
  refine q_s hB (fun _ _ k => z_cst hB k) (fun hB => ?_)
  exact q_r (z_retz hB (Or.inr rfl)) ⟨rfl, d5, A5, (FR_I (by omega)).tr F5 (fun _ _ q => Or.inl q) (fun _ _ q => q), n5, o5, l5⟩
