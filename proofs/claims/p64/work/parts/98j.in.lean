/-! the desk's in, run, running, wash: by wip/gen/p64/j98j.py -/
theorem gdm {l : List Nat} {i : Nat} (h : i < l.length) : l.getD i 0 ∈ l := by
  rw [List.getD_eq_getElem?_getD, List.getElem?_eq_getElem h]
  exact List.getElem_mem h
theorem FR.sI {X : Nat → Prop} {w w1 : ev_W} {a i : Nat} {x : Int32} (F : FR X w w1) (ha : a < 1001) (hX : X a) : FR X w (w_sI w1 a i x) := F.tr (FR_I ha) (fun _ _ q => q) (fun y _ q => by rw [q]; exact hX)
/-- a desk's flags can be reached -/
def DF (w : ev_W) (d al ar : Nat) (fs : List Nat) : Prop := (d < w_n w ∧ w_K w d = 8) ∧ w_R w d 11 = some al ∧ AL w al ar fs ∧ (1 ≤ fs.length ∧ fs.length ≤ 4) ∧ ∀ f ∈ fs, f < w_n w ∧ w_K w f = 16
theorem DF.fr {X : Nat → Prop} {w w1 : ev_W} {d al ar : Nat} {fs : List Nat} (S : DF w d al ar fs) (F : FR X w w1) (h : ∀ x, x < w_n w → X x → w_K w x = 16 ∨ w_K w x = 9 ∨ w_K w x = 18) : DF w1 d al ar fs := by
  obtain ⟨h1, h2, h3, h4, h5⟩ := S
  refine ⟨⟨Nat.lt_of_lt_of_le h1.1 F.n, (F.K h1.1).trans h1.2⟩, (congrFun (F.R h1.1 (fun q => ?_)) 11).trans h2, h3.fr F (fun q => ?_) (fun q0 q => ?_), h4, fun f hf => ⟨Nat.lt_of_lt_of_le (h5 f hf).1 F.n, (F.K (h5 f hf).1).trans (h5 f hf).2⟩⟩
  · rcases h d h1.1 q with q | q | q <;> (rw [h1.2] at q; omega)
  · rcases h al h3.1.1 q with q | q | q <;> (rw [h3.1.2] at q; omega)
  · rcases h3.2.2 with q9 | q9
    · rw [q9.1] at h4; exact absurd h4.1 (by decide)
    · rcases h ar q0 q with q | q | q <;> (rw [q9.2.1] at q; omega)
/-- how many of the first flags lie in a tub -/
def dct (w : ev_W) (fs : List Nat) (t : Int32) : Nat → Nat
  | 0 => 0
  | i + 1 => dct w fs t i + (if w_I w (fs.getD i 0) 8 = t then 1 else 0)
theorem n_in_lp {G : z_G} (hl : G.2.2.stackTraces = false) {w : ev_W} {d al ar : Nat} {fs : List Nat} {t : Int32} (S : DF w d al ar fs) : ∀ (k i : Nat), i + k = fs.length → z_Q G 149 4 [some (.ref d), some (.int t), some (.int (jn (dct w fs t i))), some (.int (jn i))] [] w (fun v w1 => v = some (.int (jn (dct w fs t fs.length))) ∧ w1 = w) := by
  have h4 := S.2.2.2.1
  intro k
  induction k with
  | zero =>
    intro i e
    have e2 : i = fs.length := by omega
    have hB : z_all [z_is 149 4 (zf_iload 4 3 5), z_is 149 5 (zf_aload 5 0 6), z_at 149 6 (zf_gr 6 8 11 9), z_is 149 9 (zf_cv 9 170 0 17 12), z_is 149 12 (zf_if2 .ge 12 42 15), z_is 149 42 (zf_iload 42 2 43), z_is 149 43 (zf_ret 0)] = true := by decide +kernel
    refine q_s hB (fun _ _ k => z_iload hB rfl k) (fun hB => ?_)
    refine q_s hB (fun _ _ k => z_aload hB rfl k) (fun hB => ?_)
    refine q_s hB (fun _ _ k => x_getr hB S.1.1 S.1.2 S.2.1 k) (fun hB => ?_)
    refine q_s hB (fun _ _ k => z_callV hB (rest := [.int (jn i)]) rfl rfl rfl S.2.2.1.1.1 S.2.2.1.1.2 (n_k (n_alsz hl S.2.2.1)) k) (fun hB => ?_)
    refine q_s hB (fun _ _ k => z_ic_ge hB (fun _ => k) (fun h _ => absurd h ((by rw [jn_lt (by omega) (by omega)]; omega)))) (fun hB => ?_)
    refine q_s hB (fun _ _ k => z_iload hB rfl k) (fun hB => ?_)
    exact q_r (z_reti hB) ⟨by rw [e2], rfl⟩
  | succ k ih =>
    intro i e
    have hx := S.2.2.2.2 _ (gdm (l := fs) (i := i) (by omega))
    by_cases h9 : w_I w (fs.getD i 0) 8 = t
    · have e1 : dct w fs t (i + 1) = dct w fs t i + 1 := by show dct w fs t i + (if w_I w (fs.getD i 0) 8 = t then 1 else 0) = _; rw [if_pos h9]
      have hB : z_all [z_is 149 4 (zf_iload 4 3 5), z_is 149 5 (zf_aload 5 0 6), z_at 149 6 (zf_gr 6 8 11 9), z_is 149 9 (zf_cv 9 170 0 17 12), z_is 149 12 (zf_if2 .ge 12 42 15), z_is 149 15 (zf_aload 15 0 16), z_at 149 16 (zf_gr 16 8 11 19), z_is 149 19 (zf_iload 19 3 20), z_is 149 20 (zf_cv 20 168 1 17 23), z_at 149 23 (zx_cast 23 26), z_at 149 26 (zf_gi 26 16 8 29), z_is 149 29 (zf_iload 29 1 30), z_is 149 30 (zf_if2 .ne 30 36 33), z_is 149 33 (zf_iinc 33 2 (jn 1) 36), z_is 149 36 (zf_iinc 36 3 (jn 1) 39), z_is 149 39 (zf_goto 39 4)] = true := by decide +kernel
      refine q_s hB (fun _ _ k => z_iload hB rfl k) (fun hB => ?_)
      refine q_s hB (fun _ _ k => z_aload hB rfl k) (fun hB => ?_)
      refine q_s hB (fun _ _ k => x_getr hB S.1.1 S.1.2 S.2.1 k) (fun hB => ?_)
      refine q_s hB (fun _ _ k => z_callV hB (rest := [.int (jn i)]) rfl rfl rfl S.2.2.1.1.1 S.2.2.1.1.2 (n_k (n_alsz hl S.2.2.1)) k) (fun hB => ?_)
      refine q_s hB (fun _ _ k => z_ic_ge hB (fun h _ => absurd ((by rw [jn_lt (by omega) (by omega)]; omega)) h) (fun _ => k)) (fun hB => ?_)
      refine q_s hB (fun _ _ k => z_aload hB rfl k) (fun hB => ?_)
      refine q_s hB (fun _ _ k => x_getr hB S.1.1 S.1.2 S.2.1 k) (fun hB => ?_)
      refine q_s hB (fun _ _ k => z_iload hB rfl k) (fun hB => ?_)
      refine q_s hB (fun _ _ k => z_callV hB (rest := []) rfl rfl rfl S.2.2.1.1.1 S.2.2.1.1.2 (n_k (n_alget hl S.2.2.1 (i := i) (by omega))) k) (fun hB => ?_)
      refine q_s hB (fun _ _ k => x_cast hB hx.1 hx.2 k) (fun hB => ?_)
      refine q_s hB (fun _ _ k => x_geti hB hx.1 hx.2 k) (fun hB => ?_)
      refine q_s hB (fun _ _ k => z_iload hB rfl k) (fun hB => ?_)
      refine q_s hB (fun _ _ k => z_ic_ne hB (fun h _ => absurd (h9) h) (fun _ => k)) (fun hB => ?_)
      refine q_s hB (fun _ _ k => z_iinc hB rfl rfl k) (fun hB => ?_)
      rw [jn_add, ← e1]
      refine q_s hB (fun _ _ k => z_iinc hB rfl rfl k) (fun hB => ?_)
      rw [jn_add]
      refine q_s hB (fun _ _ k => z_goto hB k) (fun hB => ?_)
      exact ih (i + 1) (by omega)
    · have e1 : dct w fs t (i + 1) = dct w fs t i := by show dct w fs t i + (if w_I w (fs.getD i 0) 8 = t then 1 else 0) = _; rw [if_neg h9]; rfl
      have hB : z_all [z_is 149 4 (zf_iload 4 3 5), z_is 149 5 (zf_aload 5 0 6), z_at 149 6 (zf_gr 6 8 11 9), z_is 149 9 (zf_cv 9 170 0 17 12), z_is 149 12 (zf_if2 .ge 12 42 15), z_is 149 15 (zf_aload 15 0 16), z_at 149 16 (zf_gr 16 8 11 19), z_is 149 19 (zf_iload 19 3 20), z_is 149 20 (zf_cv 20 168 1 17 23), z_at 149 23 (zx_cast 23 26), z_at 149 26 (zf_gi 26 16 8 29), z_is 149 29 (zf_iload 29 1 30), z_is 149 30 (zf_if2 .ne 30 36 33), z_is 149 36 (zf_iinc 36 3 (jn 1) 39), z_is 149 39 (zf_goto 39 4)] = true := by decide +kernel
      refine q_s hB (fun _ _ k => z_iload hB rfl k) (fun hB => ?_)
      refine q_s hB (fun _ _ k => z_aload hB rfl k) (fun hB => ?_)
      refine q_s hB (fun _ _ k => x_getr hB S.1.1 S.1.2 S.2.1 k) (fun hB => ?_)
      refine q_s hB (fun _ _ k => z_callV hB (rest := [.int (jn i)]) rfl rfl rfl S.2.2.1.1.1 S.2.2.1.1.2 (n_k (n_alsz hl S.2.2.1)) k) (fun hB => ?_)
      refine q_s hB (fun _ _ k => z_ic_ge hB (fun h _ => absurd ((by rw [jn_lt (by omega) (by omega)]; omega)) h) (fun _ => k)) (fun hB => ?_)
      refine q_s hB (fun _ _ k => z_aload hB rfl k) (fun hB => ?_)
      refine q_s hB (fun _ _ k => x_getr hB S.1.1 S.1.2 S.2.1 k) (fun hB => ?_)
      refine q_s hB (fun _ _ k => z_iload hB rfl k) (fun hB => ?_)
      refine q_s hB (fun _ _ k => z_callV hB (rest := []) rfl rfl rfl S.2.2.1.1.1 S.2.2.1.1.2 (n_k (n_alget hl S.2.2.1 (i := i) (by omega))) k) (fun hB => ?_)
      refine q_s hB (fun _ _ k => x_cast hB hx.1 hx.2 k) (fun hB => ?_)
      refine q_s hB (fun _ _ k => x_geti hB hx.1 hx.2 k) (fun hB => ?_)
      refine q_s hB (fun _ _ k => z_iload hB rfl k) (fun hB => ?_)
      refine q_s hB (fun _ _ k => z_ic_ne hB (fun _ => k) (fun h _ => absurd h (h9))) (fun hB => ?_)
      refine q_s hB (fun _ _ k => z_iinc hB rfl rfl k) (fun hB => ?_)
      rw [jn_add]
      refine q_s hB (fun _ _ k => z_goto hB k) (fun hB => ?_)
      rw [← e1]
      exact ih (i + 1) (by omega)
theorem n_in {G : z_G} {w : ev_W} (hl : G.2.2.stackTraces = false) {d al ar : Nat} {fs : List Nat} {t : Int32} (S : DF w d al ar fs) : z_N G 149 [.ref d, .int t] w (fun v w1 => v = some (.int (jn (dct w fs t fs.length))) ∧ w1 = w) := by
  refine q_con hl (ml := 4) (by decide +kernel) rfl rfl ?_
  have hB : z_all [z_is 149 0 (zf_cst 0 (jn 0) 1), z_is 149 1 (zf_istore 1 2 2), z_is 149 2 (zf_cst 2 (jn 0) 3), z_is 149 3 (zf_istore 3 3 4)] = true := by decide +kernel
  refine q_s hB (fun _ _ k => z_cst hB k) (fun hB => ?_)
  refine q_s hB (fun _ _ k => z_istore hB rfl rfl k) (fun hB => ?_)
  refine q_s hB (fun _ _ k => z_cst hB k) (fun hB => ?_)
  refine q_s hB (fun _ _ k => z_istore hB rfl rfl k) (fun hB => ?_)
  exact n_in_lp hl S fs.length 0 (by omega)
theorem n_run_lp {G : z_G} (hl : G.2.2.stackTraces = false) {w : ev_W} {d al ar ru C : Nat} {fs : List Nat} {x t : Int32} (S : DF w d al ar fs) (hr : w_R w d 8 = some ru) (hR : RWs w ru C) (hC : C ≤ 4) : ∀ (k i : Nat) (y : Int32), i + k = C → z_Q G 150 5 [some (.ref d), some (.int x), some (.int t), some (.int y), some (.int (jn i))] [] w (fun v w1 => (∃ z9, v = some (.int z9)) ∧ w1 = w) := by
  intro k
  induction k with
  | zero =>
    intro i y e
    have hB : z_all [z_is 150 5 (zf_iload 5 4 7), z_is 150 7 (zf_aload 7 0 8), z_at 150 8 (zf_gr 8 8 8 11), z_at 150 11 (zx_alen 11 12), z_is 150 12 (zf_if2 .ge 12 49 15), z_is 150 49 (zf_iload 49 3 50), z_is 150 50 (zf_ret 0)] = true := by decide +kernel
    refine q_s hB (fun _ _ k => z_iload hB rfl k) (fun hB => ?_)
    refine q_s hB (fun _ _ k => z_aload hB rfl k) (fun hB => ?_)
    refine q_s hB (fun _ _ k => x_getr hB S.1.1 S.1.2 hr k) (fun hB => ?_)
    refine q_s hB (fun _ _ k => x_alen hB hR.1 (by rw [hR.2.1]; omega) (by rw [hR.2.1]; omega) k) (fun hB => ?_)
    rw [hR.2.2, show Int32.ofNat C = jn C from rfl]
    refine q_s hB (fun _ _ k => z_ic_ge hB (fun _ => k) (fun h _ => absurd h ((by rw [jn_lt (by omega) (by omega)]; omega)))) (fun hB => ?_)
    refine q_s hB (fun _ _ k => z_iload hB rfl k) (fun hB => ?_)
    exact q_r (z_reti hB) ⟨⟨_, rfl⟩, rfl⟩
  | succ k ih =>
    intro i y e
    by_cases h9 : (x >>> (jn i &&& 31)) &&& jn 1 = jn 1
    · by_cases h8 : t < w_I w ru i
      · skip
        have hB : z_all [z_is 150 5 (zf_iload 5 4 7), z_is 150 7 (zf_aload 7 0 8), z_at 150 8 (zf_gr 8 8 8 11), z_at 150 11 (zx_alen 11 12), z_is 150 12 (zf_if2 .ge 12 49 15), z_is 150 15 (zf_iload 15 1 16), z_is 150 16 (zf_iload 16 4 18), z_is 150 18 (zf_ishr 18 19), z_is 150 19 (zf_cst 19 (jn 1) 20), z_is 150 20 (zf_iand 20 21), z_is 150 21 (zf_cst 21 (jn 1) 22), z_is 150 22 (zf_if2 .ne 22 43 25), z_is 150 25 (zf_aload 25 0 26), z_at 150 26 (zf_gr 26 8 8 29), z_is 150 29 (zf_iload 29 4 31), z_at 150 31 (zx_iald 31 32), z_is 150 32 (zf_iload 32 2 33), z_is 150 33 (zf_if2 .gt 33 43 36), z_is 150 43 (zf_iinc 43 4 (jn 1) 46), z_is 150 46 (zf_goto 46 5)] = true := by decide +kernel
        refine q_s hB (fun _ _ k => z_iload hB rfl k) (fun hB => ?_)
        refine q_s hB (fun _ _ k => z_aload hB rfl k) (fun hB => ?_)
        refine q_s hB (fun _ _ k => x_getr hB S.1.1 S.1.2 hr k) (fun hB => ?_)
        refine q_s hB (fun _ _ k => x_alen hB hR.1 (by rw [hR.2.1]; omega) (by rw [hR.2.1]; omega) k) (fun hB => ?_)
        rw [hR.2.2, show Int32.ofNat C = jn C from rfl]
        refine q_s hB (fun _ _ k => z_ic_ge hB (fun h _ => absurd ((by rw [jn_lt (by omega) (by omega)]; omega)) h) (fun _ => k)) (fun hB => ?_)
        refine q_s hB (fun _ _ k => z_iload hB rfl k) (fun hB => ?_)
        refine q_s hB (fun _ _ k => z_iload hB rfl k) (fun hB => ?_)
        refine q_s hB (fun _ _ k => z_ishr hB k) (fun hB => ?_)
        refine q_s hB (fun _ _ k => z_cst hB k) (fun hB => ?_)
        refine q_s hB (fun _ _ k => z_iand hB k) (fun hB => ?_)
        refine q_s hB (fun _ _ k => z_cst hB k) (fun hB => ?_)
        refine q_s hB (fun _ _ k => z_ic_ne hB (fun h _ => absurd (h9) h) (fun _ => k)) (fun hB => ?_)
        refine q_s hB (fun _ _ k => z_aload hB rfl k) (fun hB => ?_)
        refine q_s hB (fun _ _ k => x_getr hB S.1.1 S.1.2 hr k) (fun hB => ?_)
        refine q_s hB (fun _ _ k => z_iload hB rfl k) (fun hB => ?_)
        refine q_s hB (fun _ _ k => x_iald hB hR.1 hR.2.1 (by rw [hR.2.2]; exact jn_ok (by omega) (by omega)) k) (fun hB => ?_)
        rw [jn_n (by omega)]
        refine q_s hB (fun _ _ k => z_iload hB rfl k) (fun hB => ?_)
        refine q_s hB (fun _ _ k => z_ic_gt hB (fun _ => k) (fun h _ => absurd (h8) h)) (fun hB => ?_)
        refine q_s hB (fun _ _ k => z_iinc hB rfl rfl k) (fun hB => ?_)
        rw [jn_add]
        refine q_s hB (fun _ _ k => z_goto hB k) (fun hB => ?_)
        exact ih (i + 1) _ (by omega)
      · skip
        have hB : z_all [z_is 150 5 (zf_iload 5 4 7), z_is 150 7 (zf_aload 7 0 8), z_at 150 8 (zf_gr 8 8 8 11), z_at 150 11 (zx_alen 11 12), z_is 150 12 (zf_if2 .ge 12 49 15), z_is 150 15 (zf_iload 15 1 16), z_is 150 16 (zf_iload 16 4 18), z_is 150 18 (zf_ishr 18 19), z_is 150 19 (zf_cst 19 (jn 1) 20), z_is 150 20 (zf_iand 20 21), z_is 150 21 (zf_cst 21 (jn 1) 22), z_is 150 22 (zf_if2 .ne 22 43 25), z_is 150 25 (zf_aload 25 0 26), z_at 150 26 (zf_gr 26 8 8 29), z_is 150 29 (zf_iload 29 4 31), z_at 150 31 (zx_iald 31 32), z_is 150 32 (zf_iload 32 2 33), z_is 150 33 (zf_if2 .gt 33 43 36), z_is 150 36 (zf_iload 36 3 37), z_is 150 37 (zf_cst 37 (jn 1) 38), z_is 150 38 (zf_iload 38 4 40), z_is 150 40 (zf_ishl 40 41), z_is 150 41 (zf_ior 41 42), z_is 150 42 (zf_istore 42 3 43), z_is 150 43 (zf_iinc 43 4 (jn 1) 46), z_is 150 46 (zf_goto 46 5)] = true := by decide +kernel
        refine q_s hB (fun _ _ k => z_iload hB rfl k) (fun hB => ?_)
        refine q_s hB (fun _ _ k => z_aload hB rfl k) (fun hB => ?_)
        refine q_s hB (fun _ _ k => x_getr hB S.1.1 S.1.2 hr k) (fun hB => ?_)
        refine q_s hB (fun _ _ k => x_alen hB hR.1 (by rw [hR.2.1]; omega) (by rw [hR.2.1]; omega) k) (fun hB => ?_)
        rw [hR.2.2, show Int32.ofNat C = jn C from rfl]
        refine q_s hB (fun _ _ k => z_ic_ge hB (fun h _ => absurd ((by rw [jn_lt (by omega) (by omega)]; omega)) h) (fun _ => k)) (fun hB => ?_)
        refine q_s hB (fun _ _ k => z_iload hB rfl k) (fun hB => ?_)
        refine q_s hB (fun _ _ k => z_iload hB rfl k) (fun hB => ?_)
        refine q_s hB (fun _ _ k => z_ishr hB k) (fun hB => ?_)
        refine q_s hB (fun _ _ k => z_cst hB k) (fun hB => ?_)
        refine q_s hB (fun _ _ k => z_iand hB k) (fun hB => ?_)
        refine q_s hB (fun _ _ k => z_cst hB k) (fun hB => ?_)
        refine q_s hB (fun _ _ k => z_ic_ne hB (fun h _ => absurd (h9) h) (fun _ => k)) (fun hB => ?_)
        refine q_s hB (fun _ _ k => z_aload hB rfl k) (fun hB => ?_)
        refine q_s hB (fun _ _ k => x_getr hB S.1.1 S.1.2 hr k) (fun hB => ?_)
        refine q_s hB (fun _ _ k => z_iload hB rfl k) (fun hB => ?_)
        refine q_s hB (fun _ _ k => x_iald hB hR.1 hR.2.1 (by rw [hR.2.2]; exact jn_ok (by omega) (by omega)) k) (fun hB => ?_)
        rw [jn_n (by omega)]
        refine q_s hB (fun _ _ k => z_iload hB rfl k) (fun hB => ?_)
        refine q_s hB (fun _ _ k => z_ic_gt hB (fun h _ => absurd h (h8)) (fun _ => k)) (fun hB => ?_)
        refine q_s hB (fun _ _ k => z_iload hB rfl k) (fun hB => ?_)
        refine q_s hB (fun _ _ k => z_cst hB k) (fun hB => ?_)
        refine q_s hB (fun _ _ k => z_iload hB rfl k) (fun hB => ?_)
        refine q_s hB (fun _ _ k => z_ishl hB k) (fun hB => ?_)
        refine q_s hB (fun _ _ k => z_ior hB k) (fun hB => ?_)
        refine q_s hB (fun _ _ k => z_istore hB rfl rfl k) (fun hB => ?_)
        refine q_s hB (fun _ _ k => z_iinc hB rfl rfl k) (fun hB => ?_)
        rw [jn_add]
        refine q_s hB (fun _ _ k => z_goto hB k) (fun hB => ?_)
        exact ih (i + 1) _ (by omega)
    · skip
      have hB : z_all [z_is 150 5 (zf_iload 5 4 7), z_is 150 7 (zf_aload 7 0 8), z_at 150 8 (zf_gr 8 8 8 11), z_at 150 11 (zx_alen 11 12), z_is 150 12 (zf_if2 .ge 12 49 15), z_is 150 15 (zf_iload 15 1 16), z_is 150 16 (zf_iload 16 4 18), z_is 150 18 (zf_ishr 18 19), z_is 150 19 (zf_cst 19 (jn 1) 20), z_is 150 20 (zf_iand 20 21), z_is 150 21 (zf_cst 21 (jn 1) 22), z_is 150 22 (zf_if2 .ne 22 43 25), z_is 150 43 (zf_iinc 43 4 (jn 1) 46), z_is 150 46 (zf_goto 46 5)] = true := by decide +kernel
      refine q_s hB (fun _ _ k => z_iload hB rfl k) (fun hB => ?_)
      refine q_s hB (fun _ _ k => z_aload hB rfl k) (fun hB => ?_)
      refine q_s hB (fun _ _ k => x_getr hB S.1.1 S.1.2 hr k) (fun hB => ?_)
      refine q_s hB (fun _ _ k => x_alen hB hR.1 (by rw [hR.2.1]; omega) (by rw [hR.2.1]; omega) k) (fun hB => ?_)
      rw [hR.2.2, show Int32.ofNat C = jn C from rfl]
      refine q_s hB (fun _ _ k => z_ic_ge hB (fun h _ => absurd ((by rw [jn_lt (by omega) (by omega)]; omega)) h) (fun _ => k)) (fun hB => ?_)
      refine q_s hB (fun _ _ k => z_iload hB rfl k) (fun hB => ?_)
      refine q_s hB (fun _ _ k => z_iload hB rfl k) (fun hB => ?_)
      refine q_s hB (fun _ _ k => z_ishr hB k) (fun hB => ?_)
      refine q_s hB (fun _ _ k => z_cst hB k) (fun hB => ?_)
      refine q_s hB (fun _ _ k => z_iand hB k) (fun hB => ?_)
      refine q_s hB (fun _ _ k => z_cst hB k) (fun hB => ?_)
      refine q_s hB (fun _ _ k => z_ic_ne hB (fun _ => k) (fun h _ => absurd h (h9))) (fun hB => ?_)
      refine q_s hB (fun _ _ k => z_iinc hB rfl rfl k) (fun hB => ?_)
      rw [jn_add]
      refine q_s hB (fun _ _ k => z_goto hB k) (fun hB => ?_)
      exact ih (i + 1) _ (by omega)
theorem n_run {G : z_G} {w : ev_W} (hl : G.2.2.stackTraces = false) {d al ar ru C : Nat} {fs : List Nat} {x t : Int32} (S : DF w d al ar fs) (hr : w_R w d 8 = some ru) (hR : RWs w ru C) (hC : C ≤ 4) : z_N G 150 [.ref d, .int x, .int t] w (fun v w1 => (∃ z9, v = some (.int z9)) ∧ w1 = w) := by
  refine q_con hl (ml := 5) (by decide +kernel) rfl rfl ?_
  have hB : z_all [z_is 150 0 (zf_cst 0 (jn 0) 1), z_is 150 1 (zf_istore 1 3 2), z_is 150 2 (zf_cst 2 (jn 0) 3), z_is 150 3 (zf_istore 3 4 5)] = true := by decide +kernel
  refine q_s hB (fun _ _ k => z_cst hB k) (fun hB => ?_)
  refine q_s hB (fun _ _ k => z_istore hB rfl rfl k) (fun hB => ?_)
  refine q_s hB (fun _ _ k => z_cst hB k) (fun hB => ?_)
  refine q_s hB (fun _ _ k => z_istore hB rfl rfl k) (fun hB => ?_)
  exact n_run_lp hl S hr hR hC C 0 _ (by omega)
theorem n_rng_lp {G : z_G} (hl : G.2.2.stackTraces = false) {w : ev_W} {d al ar ru C : Nat} {fs : List Nat} {x t : Int32} (S : DF w d al ar fs) (hr : w_R w d 8 = some ru) (hR : RWs w ru C) (hC : C ≤ 4) : ∀ (k i : Nat) (y : Int32), i + k = fs.length → z_Q G 151 5 [some (.ref d), some (.int t), some (.int x), some (.int y), some (.int (jn i))] [] w (fun v w1 => (∃ z9, v = some (.int z9)) ∧ w1 = w) := by
  have h4 := S.2.2.2.1
  intro k
  induction k with
  | zero =>
    intro i y e
    have e2 : i = fs.length := by omega
    obtain ⟨v5, w5, k5, ⟨z5, rfl⟩, f5⟩ := n_run (x := y) (t := x) hl S hr hR hC
    rw [f5] at k5
    have hB : z_all [z_is 151 5 (zf_iload 5 4 7), z_is 151 7 (zf_aload 7 0 8), z_at 151 8 (zf_gr 8 8 11 11), z_is 151 11 (zf_cv 11 170 0 17 14), z_is 151 14 (zf_if2 .ge 14 76 17), z_is 151 76 (zf_aload 76 0 77), z_is 151 77 (zf_iload 77 3 78), z_is 151 78 (zf_iload 78 2 79), z_is 151 79 (zf_cv 79 150 2 8 82), z_is 151 82 (zf_ret 0)] = true := by decide +kernel
    refine q_s hB (fun _ _ k => z_iload hB rfl k) (fun hB => ?_)
    refine q_s hB (fun _ _ k => z_aload hB rfl k) (fun hB => ?_)
    refine q_s hB (fun _ _ k => x_getr hB S.1.1 S.1.2 S.2.1 k) (fun hB => ?_)
    refine q_s hB (fun _ _ k => z_callV hB (rest := [.int (jn i)]) rfl rfl rfl S.2.2.1.1.1 S.2.2.1.1.2 (n_k (n_alsz hl S.2.2.1)) k) (fun hB => ?_)
    refine q_s hB (fun _ _ k => z_ic_ge hB (fun _ => k) (fun h _ => absurd h ((by rw [jn_lt (by omega) (by omega)]; omega)))) (fun hB => ?_)
    refine q_s hB (fun _ _ k => z_aload hB rfl k) (fun hB => ?_)
    refine q_s hB (fun _ _ k => z_iload hB rfl k) (fun hB => ?_)
    refine q_s hB (fun _ _ k => z_iload hB rfl k) (fun hB => ?_)
    refine q_s hB (fun _ _ k => z_callV hB (rest := []) rfl rfl rfl S.1.1 S.1.2 k5 k) (fun hB => ?_)
    exact q_r (z_reti hB) ⟨⟨_, rfl⟩, rfl⟩
  | succ k ih =>
    intro i y e
    have hx := S.2.2.2.2 _ (gdm (l := fs) (i := i) (by omega))
    by_cases h9 : w_I w (fs.getD i 0) 8 = t
    · skip
      have hB : z_all [z_is 151 5 (zf_iload 5 4 7), z_is 151 7 (zf_aload 7 0 8), z_at 151 8 (zf_gr 8 8 11 11), z_is 151 11 (zf_cv 11 170 0 17 14), z_is 151 14 (zf_if2 .ge 14 76 17), z_is 151 17 (zf_aload 17 0 18), z_at 151 18 (zf_gr 18 8 11 21), z_is 151 21 (zf_iload 21 4 23), z_is 151 23 (zf_cv 23 168 1 17 26), z_at 151 26 (zx_cast 26 29), z_at 151 29 (zf_gi 29 16 8 32), z_is 151 32 (zf_iload 32 1 33), z_is 151 33 (zf_if2 .ne 33 70 36), z_is 151 36 (zf_iload 36 3 37), z_is 151 37 (zf_aload 37 0 38), z_at 151 38 (zf_gr 38 8 11 41), z_is 151 41 (zf_iload 41 4 43), z_is 151 43 (zf_cv 43 168 1 17 46), z_at 151 46 (zx_cast 46 49), z_at 151 49 (zf_gi 49 16 1 52), z_is 151 52 (zf_aload 52 0 53), z_at 151 53 (zf_gr 53 8 11 56), z_is 151 56 (zf_iload 56 4 58), z_is 151 58 (zf_cv 58 168 1 17 61), z_at 151 61 (zx_cast 61 64), z_at 151 64 (zf_gi 64 16 6 67), z_is 151 67 (zf_ior 67 68), z_is 151 68 (zf_ior 68 69), z_is 151 69 (zf_istore 69 3 70), z_is 151 70 (zf_iinc 70 4 (jn 1) 73), z_is 151 73 (zf_goto 73 5)] = true := by decide +kernel
      refine q_s hB (fun _ _ k => z_iload hB rfl k) (fun hB => ?_)
      refine q_s hB (fun _ _ k => z_aload hB rfl k) (fun hB => ?_)
      refine q_s hB (fun _ _ k => x_getr hB S.1.1 S.1.2 S.2.1 k) (fun hB => ?_)
      refine q_s hB (fun _ _ k => z_callV hB (rest := [.int (jn i)]) rfl rfl rfl S.2.2.1.1.1 S.2.2.1.1.2 (n_k (n_alsz hl S.2.2.1)) k) (fun hB => ?_)
      refine q_s hB (fun _ _ k => z_ic_ge hB (fun h _ => absurd ((by rw [jn_lt (by omega) (by omega)]; omega)) h) (fun _ => k)) (fun hB => ?_)
      refine q_s hB (fun _ _ k => z_aload hB rfl k) (fun hB => ?_)
      refine q_s hB (fun _ _ k => x_getr hB S.1.1 S.1.2 S.2.1 k) (fun hB => ?_)
      refine q_s hB (fun _ _ k => z_iload hB rfl k) (fun hB => ?_)
      refine q_s hB (fun _ _ k => z_callV hB (rest := []) rfl rfl rfl S.2.2.1.1.1 S.2.2.1.1.2 (n_k (n_alget hl S.2.2.1 (i := i) (by omega))) k) (fun hB => ?_)
      refine q_s hB (fun _ _ k => x_cast hB hx.1 hx.2 k) (fun hB => ?_)
      refine q_s hB (fun _ _ k => x_geti hB hx.1 hx.2 k) (fun hB => ?_)
      refine q_s hB (fun _ _ k => z_iload hB rfl k) (fun hB => ?_)
      refine q_s hB (fun _ _ k => z_ic_ne hB (fun h _ => absurd (h9) h) (fun _ => k)) (fun hB => ?_)
      refine q_s hB (fun _ _ k => z_iload hB rfl k) (fun hB => ?_)
      refine q_s hB (fun _ _ k => z_aload hB rfl k) (fun hB => ?_)
      refine q_s hB (fun _ _ k => x_getr hB S.1.1 S.1.2 S.2.1 k) (fun hB => ?_)
      refine q_s hB (fun _ _ k => z_iload hB rfl k) (fun hB => ?_)
      refine q_s hB (fun _ _ k => z_callV hB (rest := [.int y]) rfl rfl rfl S.2.2.1.1.1 S.2.2.1.1.2 (n_k (n_alget hl S.2.2.1 (i := i) (by omega))) k) (fun hB => ?_)
      refine q_s hB (fun _ _ k => x_cast hB hx.1 hx.2 k) (fun hB => ?_)
      refine q_s hB (fun _ _ k => x_geti hB hx.1 hx.2 k) (fun hB => ?_)
      refine q_s hB (fun _ _ k => z_aload hB rfl k) (fun hB => ?_)
      refine q_s hB (fun _ _ k => x_getr hB S.1.1 S.1.2 S.2.1 k) (fun hB => ?_)
      refine q_s hB (fun _ _ k => z_iload hB rfl k) (fun hB => ?_)
      refine q_s hB (fun _ _ k => z_callV hB (rest := [.int (w_I w (fs.getD i 0) 1), .int y]) rfl rfl rfl S.2.2.1.1.1 S.2.2.1.1.2 (n_k (n_alget hl S.2.2.1 (i := i) (by omega))) k) (fun hB => ?_)
      refine q_s hB (fun _ _ k => x_cast hB hx.1 hx.2 k) (fun hB => ?_)
      refine q_s hB (fun _ _ k => x_geti hB hx.1 hx.2 k) (fun hB => ?_)
      refine q_s hB (fun _ _ k => z_ior hB k) (fun hB => ?_)
      refine q_s hB (fun _ _ k => z_ior hB k) (fun hB => ?_)
      refine q_s hB (fun _ _ k => z_istore hB rfl rfl k) (fun hB => ?_)
      refine q_s hB (fun _ _ k => z_iinc hB rfl rfl k) (fun hB => ?_)
      rw [jn_add]
      refine q_s hB (fun _ _ k => z_goto hB k) (fun hB => ?_)
      exact ih (i + 1) _ (by omega)
    · skip
      have hB : z_all [z_is 151 5 (zf_iload 5 4 7), z_is 151 7 (zf_aload 7 0 8), z_at 151 8 (zf_gr 8 8 11 11), z_is 151 11 (zf_cv 11 170 0 17 14), z_is 151 14 (zf_if2 .ge 14 76 17), z_is 151 17 (zf_aload 17 0 18), z_at 151 18 (zf_gr 18 8 11 21), z_is 151 21 (zf_iload 21 4 23), z_is 151 23 (zf_cv 23 168 1 17 26), z_at 151 26 (zx_cast 26 29), z_at 151 29 (zf_gi 29 16 8 32), z_is 151 32 (zf_iload 32 1 33), z_is 151 33 (zf_if2 .ne 33 70 36), z_is 151 70 (zf_iinc 70 4 (jn 1) 73), z_is 151 73 (zf_goto 73 5)] = true := by decide +kernel
      refine q_s hB (fun _ _ k => z_iload hB rfl k) (fun hB => ?_)
      refine q_s hB (fun _ _ k => z_aload hB rfl k) (fun hB => ?_)
      refine q_s hB (fun _ _ k => x_getr hB S.1.1 S.1.2 S.2.1 k) (fun hB => ?_)
      refine q_s hB (fun _ _ k => z_callV hB (rest := [.int (jn i)]) rfl rfl rfl S.2.2.1.1.1 S.2.2.1.1.2 (n_k (n_alsz hl S.2.2.1)) k) (fun hB => ?_)
      refine q_s hB (fun _ _ k => z_ic_ge hB (fun h _ => absurd ((by rw [jn_lt (by omega) (by omega)]; omega)) h) (fun _ => k)) (fun hB => ?_)
      refine q_s hB (fun _ _ k => z_aload hB rfl k) (fun hB => ?_)
      refine q_s hB (fun _ _ k => x_getr hB S.1.1 S.1.2 S.2.1 k) (fun hB => ?_)
      refine q_s hB (fun _ _ k => z_iload hB rfl k) (fun hB => ?_)
      refine q_s hB (fun _ _ k => z_callV hB (rest := []) rfl rfl rfl S.2.2.1.1.1 S.2.2.1.1.2 (n_k (n_alget hl S.2.2.1 (i := i) (by omega))) k) (fun hB => ?_)
      refine q_s hB (fun _ _ k => x_cast hB hx.1 hx.2 k) (fun hB => ?_)
      refine q_s hB (fun _ _ k => x_geti hB hx.1 hx.2 k) (fun hB => ?_)
      refine q_s hB (fun _ _ k => z_iload hB rfl k) (fun hB => ?_)
      refine q_s hB (fun _ _ k => z_ic_ne hB (fun _ => k) (fun h _ => absurd h (h9))) (fun hB => ?_)
      refine q_s hB (fun _ _ k => z_iinc hB rfl rfl k) (fun hB => ?_)
      rw [jn_add]
      refine q_s hB (fun _ _ k => z_goto hB k) (fun hB => ?_)
      exact ih (i + 1) _ (by omega)
theorem n_rng {G : z_G} {w : ev_W} (hl : G.2.2.stackTraces = false) {d al ar ru C : Nat} {fs : List Nat} {x t : Int32} (S : DF w d al ar fs) (hr : w_R w d 8 = some ru) (hR : RWs w ru C) (hC : C ≤ 4) : z_N G 151 [.ref d, .int t, .int x] w (fun v w1 => (∃ z9, v = some (.int z9)) ∧ w1 = w) := by
  refine q_con hl (ml := 5) (by decide +kernel) rfl rfl ?_
  have hB : z_all [z_is 151 0 (zf_cst 0 (jn 0) 1), z_is 151 1 (zf_istore 1 3 2), z_is 151 2 (zf_cst 2 (jn 0) 3), z_is 151 3 (zf_istore 3 4 5)] = true := by decide +kernel
  refine q_s hB (fun _ _ k => z_cst hB k) (fun hB => ?_)
  refine q_s hB (fun _ _ k => z_istore hB rfl rfl k) (fun hB => ?_)
  refine q_s hB (fun _ _ k => z_cst hB k) (fun hB => ?_)
  refine q_s hB (fun _ _ k => z_istore hB rfl rfl k) (fun hB => ?_)
  exact n_rng_lp hl S hr hR hC fs.length 0 _ (by omega)
theorem n_wsh_lp {G : z_G} (hl : G.2.2.stackTraces = false) {w0 : ev_W} {d al ar : Nat} {fs : List Nat} {x t z : Int32} : ∀ (k i : Nat) {w : ev_W} (y : Int32) (x6 x7 : Option Value), i + k = fs.length → DF w d al ar fs → FR (fun x => x = d ∨ x ∈ fs) w0 w → (w_n w = w_n w0 ∧ w_R w = w_R w0) → w_n w0 ≤ 1000 → z_Q G 152 13 [some (.ref d), some (.int t), some (.int x), some (.int z), some (.int y), some (.int (jn i)), x6, x7] [] w (fun v w1 => (∃ z9, v = some (.int z9)) ∧ FR (fun x => x = d ∨ x ∈ fs) w0 w1 ∧ (w_n w1 = w_n w0 ∧ w_R w1 = w_R w0)) := by
  intro k
  induction k with
  | zero =>
    intro i w y x6 x7 e S F n9 n8
    have h4 := S.2.2.2.1
    have hd9 := S.1.1
    have n7 := n9.1
    have e2 : i = fs.length := by omega
    have hB : z_all [z_is 152 13 (zf_iload 13 5 15), z_is 152 15 (zf_aload 15 0 16), z_at 152 16 (zf_gr 16 8 11 19), z_is 152 19 (zf_cv 19 170 0 17 22), z_is 152 22 (zf_if2 .ge 22 148 25), z_is 152 148 (zf_aload 148 0 149), z_at 152 149 (zx_dup 149 150), z_at 152 150 (zf_gi 150 8 5 153), z_is 152 153 (zf_cst 153 (jn 1) 154), z_is 152 154 (zf_iadd 154 155), z_at 152 155 (zf_pi 155 8 5 158), z_is 152 158 (zf_iload 158 4 160), z_is 152 160 (zf_ret 0)] = true := by decide +kernel
    refine q_s hB (fun _ _ k => z_iload hB rfl k) (fun hB => ?_)
    refine q_s hB (fun _ _ k => z_aload hB rfl k) (fun hB => ?_)
    refine q_s hB (fun _ _ k => x_getr hB S.1.1 S.1.2 S.2.1 k) (fun hB => ?_)
    refine q_s hB (fun _ _ k => z_callV hB (rest := [.int (jn i)]) rfl rfl rfl S.2.2.1.1.1 S.2.2.1.1.2 (n_k (n_alsz hl S.2.2.1)) k) (fun hB => ?_)
    refine q_s hB (fun _ _ k => z_ic_ge hB (fun _ => k) (fun h _ => absurd h ((by rw [jn_lt (by omega) (by omega)]; omega)))) (fun hB => ?_)
    refine q_s hB (fun _ _ k => z_aload hB rfl k) (fun hB => ?_)
    refine q_s hB (fun _ _ k => x_dup hB rfl k) (fun hB => ?_)
    refine q_s hB (fun _ _ k => x_geti hB S.1.1 S.1.2 k) (fun hB => ?_)
    refine q_s hB (fun _ _ k => z_cst hB k) (fun hB => ?_)
    refine q_s hB (fun _ _ k => z_iadd hB k) (fun hB => ?_)
    refine q_s hB (fun _ _ k => x_puti hB S.1.1 S.1.2 k) (fun hB => ?_)
    refine q_s hB (fun _ _ k => z_iload hB rfl k) (fun hB => ?_)
    exact q_r (z_reti hB) ⟨⟨_, rfl⟩, F.sI (by omega) (Or.inl rfl), n9⟩
  | succ k ih =>
    intro i w y x6 x7 e S F n9 n8
    have h4 := S.2.2.2.1
    have hm := gdm (l := fs) (i := i) (by omega)
    have hx := S.2.2.2.2 _ hm
    have hx1 := hx.1
    have n7 := n9.1
    by_cases h9 : w_I w (fs.getD i 0) 8 = t
    · have h6 : w_I (w_sI w (fs.getD i 0) 6 (w_I w (fs.getD i 0) 6 ||| (z &&& (w_I w (fs.getD i 0) 1 ^^^ jg 1)))) (fs.getD i 0) 6 = (w_I w (fs.getD i 0) 6 ||| (z &&& (w_I w (fs.getD i 0) 1 ^^^ jg 1))) := sI_at
      by_cases h8 : (w_I w (fs.getD i 0) 6 ||| (z &&& (w_I w (fs.getD i 0) 1 ^^^ jg 1))) = w_I w (fs.getD i 0) 6
      · skip
        have hB : z_all [z_is 152 13 (zf_iload 13 5 15), z_is 152 15 (zf_aload 15 0 16), z_at 152 16 (zf_gr 16 8 11 19), z_is 152 19 (zf_cv 19 170 0 17 22), z_is 152 22 (zf_if2 .ge 22 148 25), z_is 152 25 (zf_aload 25 0 26), z_at 152 26 (zf_gr 26 8 11 29), z_is 152 29 (zf_iload 29 5 31), z_is 152 31 (zf_cv 31 168 1 17 34), z_at 152 34 (zx_cast 34 37), z_is 152 37 (zf_astore 37 6 39), z_is 152 39 (zf_aload 39 6 41), z_at 152 41 (zf_gi 41 16 8 44), z_is 152 44 (zf_iload 44 1 45), z_is 152 45 (zf_if2 .eq 45 51 48), z_is 152 51 (zf_aload 51 6 53), z_at 152 53 (zf_gi 53 16 6 56), z_is 152 56 (zf_istore 56 7 58), z_is 152 58 (zf_aload 58 6 60), z_at 152 60 (zx_dup 60 61), z_at 152 61 (zf_gi 61 16 6 64), z_is 152 64 (zf_iload 64 3 65), z_is 152 65 (zf_aload 65 6 67), z_at 152 67 (zf_gi 67 16 1 70), z_is 152 70 (zf_cst 70 (jg 1) 71), z_is 152 71 (zf_ixor 71 72), z_is 152 72 (zf_iand 72 73), z_is 152 73 (zf_ior 73 74), z_at 152 74 (zf_pi 74 16 6 77), z_is 152 77 (zf_aload 77 6 79), z_at 152 79 (zf_gi 79 16 6 82), z_is 152 82 (zf_iload 82 7 84), z_is 152 84 (zf_if2 .eq 84 90 87), z_is 152 90 (zf_aload 90 6 92), z_is 152 92 (zf_cst 92 (jn 0) 93), z_is 152 93 (zf_aload 93 6 95), z_at 152 95 (zf_gi 95 16 3 98), z_is 152 98 (zf_cst 98 (jn 1) 99), z_is 152 99 (zf_isub 99 100), z_is 152 100 (zf_iload 100 2 101), z_is 152 101 (zf_isub 101 102), z_is 152 102 (zf_iload 102 2 103), z_is 152 103 (zf_isub 103 104), z_is 152 104 (zf_nat 104 100 107), z_at 152 107 (zf_pi 107 16 3 110), z_is 152 110 (zf_aload 110 6 112), z_is 152 112 (zf_cst 112 (jn 9) 114), z_at 152 114 (zf_pi 114 16 4 117), z_is 152 117 (zf_aload 117 6 119), z_is 152 119 (zf_cst 119 (jn 9) 121), z_is 152 121 (zf_aload 121 6 123), z_at 152 123 (zf_gi 123 16 5 126), z_is 152 126 (zf_cst 126 (jn 1) 127), z_is 152 127 (zf_iadd 127 128), z_is 152 128 (zf_iload 128 2 129), z_is 152 129 (zf_iadd 129 130), z_is 152 130 (zf_nat 130 101 133), z_at 152 133 (zf_pi 133 16 5 136), z_is 152 136 (zf_aload 136 6 138), z_is 152 138 (zf_cst 138 (jg 1) 139), z_at 152 139 (zf_pi 139 16 8 142), z_is 152 142 (zf_iinc 142 5 (jn 1) 145), z_is 152 145 (zf_goto 145 13)] = true := by decide +kernel
        refine q_s hB (fun _ _ k => z_iload hB rfl k) (fun hB => ?_)
        refine q_s hB (fun _ _ k => z_aload hB rfl k) (fun hB => ?_)
        refine q_s hB (fun _ _ k => x_getr hB S.1.1 S.1.2 S.2.1 k) (fun hB => ?_)
        refine q_s hB (fun _ _ k => z_callV hB (rest := [.int (jn i)]) rfl rfl rfl S.2.2.1.1.1 S.2.2.1.1.2 (n_k (n_alsz hl S.2.2.1)) k) (fun hB => ?_)
        refine q_s hB (fun _ _ k => z_ic_ge hB (fun h _ => absurd ((by rw [jn_lt (by omega) (by omega)]; omega)) h) (fun _ => k)) (fun hB => ?_)
        refine q_s hB (fun _ _ k => z_aload hB rfl k) (fun hB => ?_)
        refine q_s hB (fun _ _ k => x_getr hB S.1.1 S.1.2 S.2.1 k) (fun hB => ?_)
        refine q_s hB (fun _ _ k => z_iload hB rfl k) (fun hB => ?_)
        refine q_s hB (fun _ _ k => z_callV hB (rest := []) rfl rfl rfl S.2.2.1.1.1 S.2.2.1.1.2 (n_k (n_alget hl S.2.2.1 (i := i) (by omega))) k) (fun hB => ?_)
        refine q_s hB (fun _ _ k => x_cast hB hx.1 hx.2 k) (fun hB => ?_)
        refine q_s hB (fun _ _ k => z_astore hB rfl rfl k) (fun hB => ?_)
        refine q_s hB (fun _ _ k => z_aload hB rfl k) (fun hB => ?_)
        refine q_s hB (fun _ _ k => x_geti hB hx.1 hx.2 k) (fun hB => ?_)
        refine q_s hB (fun _ _ k => z_iload hB rfl k) (fun hB => ?_)
        refine q_s hB (fun _ _ k => z_ic_eq hB (fun _ => k) (fun h _ => absurd (h9) h)) (fun hB => ?_)
        refine q_s hB (fun _ _ k => z_aload hB rfl k) (fun hB => ?_)
        refine q_s hB (fun _ _ k => x_geti hB hx.1 hx.2 k) (fun hB => ?_)
        refine q_s hB (fun _ _ k => z_istore hB rfl rfl k) (fun hB => ?_)
        refine q_s hB (fun _ _ k => z_aload hB rfl k) (fun hB => ?_)
        refine q_s hB (fun _ _ k => x_dup hB rfl k) (fun hB => ?_)
        refine q_s hB (fun _ _ k => x_geti hB hx.1 hx.2 k) (fun hB => ?_)
        refine q_s hB (fun _ _ k => z_iload hB rfl k) (fun hB => ?_)
        refine q_s hB (fun _ _ k => z_aload hB rfl k) (fun hB => ?_)
        refine q_s hB (fun _ _ k => x_geti hB hx.1 hx.2 k) (fun hB => ?_)
        refine q_s hB (fun _ _ k => z_cst hB k) (fun hB => ?_)
        refine q_s hB (fun _ _ k => z_ixor hB k) (fun hB => ?_)
        refine q_s hB (fun _ _ k => z_iand hB k) (fun hB => ?_)
        refine q_s hB (fun _ _ k => z_ior hB k) (fun hB => ?_)
        refine q_s hB (fun _ _ k => x_puti hB hx.1 hx.2 k) (fun hB => ?_)
        refine q_s hB (fun _ _ k => z_aload hB rfl k) (fun hB => ?_)
        refine q_s hB (fun _ _ k => x_geti hB hx.1 hx.2 k) (fun hB => ?_)
        rw [h6]
        refine q_s hB (fun _ _ k => z_iload hB rfl k) (fun hB => ?_)
        refine q_s hB (fun _ _ k => z_ic_eq hB (fun _ => k) (fun h _ => absurd (h8) h)) (fun hB => ?_)
        refine q_s hB (fun _ _ k => z_aload hB rfl k) (fun hB => ?_)
        refine q_s hB (fun _ _ k => z_cst hB k) (fun hB => ?_)
        refine q_s hB (fun _ _ k => z_aload hB rfl k) (fun hB => ?_)
        refine q_s hB (fun _ _ k => x_geti hB hx.1 hx.2 k) (fun hB => ?_)
        refine q_s hB (fun _ _ k => z_cst hB k) (fun hB => ?_)
        refine q_s hB (fun _ _ k => z_isub hB k) (fun hB => ?_)
        refine q_s hB (fun _ _ k => z_iload hB rfl k) (fun hB => ?_)
        refine q_s hB (fun _ _ k => z_isub hB k) (fun hB => ?_)
        refine q_s hB (fun _ _ k => z_iload hB rfl k) (fun hB => ?_)
        refine q_s hB (fun _ _ k => z_isub hB k) (fun hB => ?_)
        refine q_s hB (fun _ _ k => z_max hB rfl k) (fun hB => ?_)
        refine q_s hB (fun _ _ k => x_puti hB hx.1 hx.2 k) (fun hB => ?_)
        refine q_s hB (fun _ _ k => z_aload hB rfl k) (fun hB => ?_)
        refine q_s hB (fun _ _ k => z_cst hB k) (fun hB => ?_)
        refine q_s hB (fun _ _ k => x_puti hB hx.1 hx.2 k) (fun hB => ?_)
        refine q_s hB (fun _ _ k => z_aload hB rfl k) (fun hB => ?_)
        refine q_s hB (fun _ _ k => z_cst hB k) (fun hB => ?_)
        refine q_s hB (fun _ _ k => z_aload hB rfl k) (fun hB => ?_)
        refine q_s hB (fun _ _ k => x_geti hB hx.1 hx.2 k) (fun hB => ?_)
        refine q_s hB (fun _ _ k => z_cst hB k) (fun hB => ?_)
        refine q_s hB (fun _ _ k => z_iadd hB k) (fun hB => ?_)
        refine q_s hB (fun _ _ k => z_iload hB rfl k) (fun hB => ?_)
        refine q_s hB (fun _ _ k => z_iadd hB k) (fun hB => ?_)
        refine q_s hB (fun _ _ k => z_min hB rfl k) (fun hB => ?_)
        refine q_s hB (fun _ _ k => x_puti hB hx.1 hx.2 k) (fun hB => ?_)
        refine q_s hB (fun _ _ k => z_aload hB rfl k) (fun hB => ?_)
        refine q_s hB (fun _ _ k => z_cst hB k) (fun hB => ?_)
        refine q_s hB (fun _ _ k => x_puti hB hx.1 hx.2 k) (fun hB => ?_)
        refine q_s hB (fun _ _ k => z_iinc hB rfl rfl k) (fun hB => ?_)
        rw [jn_add]
        refine q_s hB (fun _ _ k => z_goto hB k) (fun hB => ?_)
        refine ih (i + 1) _ _ _ (by omega) ?_ ?_ n9 n8
        · exact S.fr (X := fun x => x = fs.getD i 0) (((((FR_I (by omega)).sI (by omega) rfl).sI (by omega) rfl).sI (by omega) rfl).sI (by omega) rfl) (fun x _ q => Or.inl (by rw [q]; exact hx.2))
        · exact ((((F.sI (by omega) (Or.inr hm)).sI (by omega) (Or.inr hm)).sI (by omega) (Or.inr hm)).sI (by omega) (Or.inr hm)).sI (by omega) (Or.inr hm)
      · skip
        have hB : z_all [z_is 152 13 (zf_iload 13 5 15), z_is 152 15 (zf_aload 15 0 16), z_at 152 16 (zf_gr 16 8 11 19), z_is 152 19 (zf_cv 19 170 0 17 22), z_is 152 22 (zf_if2 .ge 22 148 25), z_is 152 25 (zf_aload 25 0 26), z_at 152 26 (zf_gr 26 8 11 29), z_is 152 29 (zf_iload 29 5 31), z_is 152 31 (zf_cv 31 168 1 17 34), z_at 152 34 (zx_cast 34 37), z_is 152 37 (zf_astore 37 6 39), z_is 152 39 (zf_aload 39 6 41), z_at 152 41 (zf_gi 41 16 8 44), z_is 152 44 (zf_iload 44 1 45), z_is 152 45 (zf_if2 .eq 45 51 48), z_is 152 51 (zf_aload 51 6 53), z_at 152 53 (zf_gi 53 16 6 56), z_is 152 56 (zf_istore 56 7 58), z_is 152 58 (zf_aload 58 6 60), z_at 152 60 (zx_dup 60 61), z_at 152 61 (zf_gi 61 16 6 64), z_is 152 64 (zf_iload 64 3 65), z_is 152 65 (zf_aload 65 6 67), z_at 152 67 (zf_gi 67 16 1 70), z_is 152 70 (zf_cst 70 (jg 1) 71), z_is 152 71 (zf_ixor 71 72), z_is 152 72 (zf_iand 72 73), z_is 152 73 (zf_ior 73 74), z_at 152 74 (zf_pi 74 16 6 77), z_is 152 77 (zf_aload 77 6 79), z_at 152 79 (zf_gi 79 16 6 82), z_is 152 82 (zf_iload 82 7 84), z_is 152 84 (zf_if2 .eq 84 90 87), z_is 152 87 (zf_iinc 87 4 (jn 1) 90), z_is 152 90 (zf_aload 90 6 92), z_is 152 92 (zf_cst 92 (jn 0) 93), z_is 152 93 (zf_aload 93 6 95), z_at 152 95 (zf_gi 95 16 3 98), z_is 152 98 (zf_cst 98 (jn 1) 99), z_is 152 99 (zf_isub 99 100), z_is 152 100 (zf_iload 100 2 101), z_is 152 101 (zf_isub 101 102), z_is 152 102 (zf_iload 102 2 103), z_is 152 103 (zf_isub 103 104), z_is 152 104 (zf_nat 104 100 107), z_at 152 107 (zf_pi 107 16 3 110), z_is 152 110 (zf_aload 110 6 112), z_is 152 112 (zf_cst 112 (jn 9) 114), z_at 152 114 (zf_pi 114 16 4 117), z_is 152 117 (zf_aload 117 6 119), z_is 152 119 (zf_cst 119 (jn 9) 121), z_is 152 121 (zf_aload 121 6 123), z_at 152 123 (zf_gi 123 16 5 126), z_is 152 126 (zf_cst 126 (jn 1) 127), z_is 152 127 (zf_iadd 127 128), z_is 152 128 (zf_iload 128 2 129), z_is 152 129 (zf_iadd 129 130), z_is 152 130 (zf_nat 130 101 133), z_at 152 133 (zf_pi 133 16 5 136), z_is 152 136 (zf_aload 136 6 138), z_is 152 138 (zf_cst 138 (jg 1) 139), z_at 152 139 (zf_pi 139 16 8 142), z_is 152 142 (zf_iinc 142 5 (jn 1) 145), z_is 152 145 (zf_goto 145 13)] = true := by decide +kernel
        refine q_s hB (fun _ _ k => z_iload hB rfl k) (fun hB => ?_)
        refine q_s hB (fun _ _ k => z_aload hB rfl k) (fun hB => ?_)
        refine q_s hB (fun _ _ k => x_getr hB S.1.1 S.1.2 S.2.1 k) (fun hB => ?_)
        refine q_s hB (fun _ _ k => z_callV hB (rest := [.int (jn i)]) rfl rfl rfl S.2.2.1.1.1 S.2.2.1.1.2 (n_k (n_alsz hl S.2.2.1)) k) (fun hB => ?_)
        refine q_s hB (fun _ _ k => z_ic_ge hB (fun h _ => absurd ((by rw [jn_lt (by omega) (by omega)]; omega)) h) (fun _ => k)) (fun hB => ?_)
        refine q_s hB (fun _ _ k => z_aload hB rfl k) (fun hB => ?_)
        refine q_s hB (fun _ _ k => x_getr hB S.1.1 S.1.2 S.2.1 k) (fun hB => ?_)
        refine q_s hB (fun _ _ k => z_iload hB rfl k) (fun hB => ?_)
        refine q_s hB (fun _ _ k => z_callV hB (rest := []) rfl rfl rfl S.2.2.1.1.1 S.2.2.1.1.2 (n_k (n_alget hl S.2.2.1 (i := i) (by omega))) k) (fun hB => ?_)
        refine q_s hB (fun _ _ k => x_cast hB hx.1 hx.2 k) (fun hB => ?_)
        refine q_s hB (fun _ _ k => z_astore hB rfl rfl k) (fun hB => ?_)
        refine q_s hB (fun _ _ k => z_aload hB rfl k) (fun hB => ?_)
        refine q_s hB (fun _ _ k => x_geti hB hx.1 hx.2 k) (fun hB => ?_)
        refine q_s hB (fun _ _ k => z_iload hB rfl k) (fun hB => ?_)
        refine q_s hB (fun _ _ k => z_ic_eq hB (fun _ => k) (fun h _ => absurd (h9) h)) (fun hB => ?_)
        refine q_s hB (fun _ _ k => z_aload hB rfl k) (fun hB => ?_)
        refine q_s hB (fun _ _ k => x_geti hB hx.1 hx.2 k) (fun hB => ?_)
        refine q_s hB (fun _ _ k => z_istore hB rfl rfl k) (fun hB => ?_)
        refine q_s hB (fun _ _ k => z_aload hB rfl k) (fun hB => ?_)
        refine q_s hB (fun _ _ k => x_dup hB rfl k) (fun hB => ?_)
        refine q_s hB (fun _ _ k => x_geti hB hx.1 hx.2 k) (fun hB => ?_)
        refine q_s hB (fun _ _ k => z_iload hB rfl k) (fun hB => ?_)
        refine q_s hB (fun _ _ k => z_aload hB rfl k) (fun hB => ?_)
        refine q_s hB (fun _ _ k => x_geti hB hx.1 hx.2 k) (fun hB => ?_)
        refine q_s hB (fun _ _ k => z_cst hB k) (fun hB => ?_)
        refine q_s hB (fun _ _ k => z_ixor hB k) (fun hB => ?_)
        refine q_s hB (fun _ _ k => z_iand hB k) (fun hB => ?_)
        refine q_s hB (fun _ _ k => z_ior hB k) (fun hB => ?_)
        refine q_s hB (fun _ _ k => x_puti hB hx.1 hx.2 k) (fun hB => ?_)
        refine q_s hB (fun _ _ k => z_aload hB rfl k) (fun hB => ?_)
        refine q_s hB (fun _ _ k => x_geti hB hx.1 hx.2 k) (fun hB => ?_)
        rw [h6]
        refine q_s hB (fun _ _ k => z_iload hB rfl k) (fun hB => ?_)
        refine q_s hB (fun _ _ k => z_ic_eq hB (fun h _ => absurd h (h8)) (fun _ => k)) (fun hB => ?_)
        refine q_s hB (fun _ _ k => z_iinc hB rfl rfl k) (fun hB => ?_)
        refine q_s hB (fun _ _ k => z_aload hB rfl k) (fun hB => ?_)
        refine q_s hB (fun _ _ k => z_cst hB k) (fun hB => ?_)
        refine q_s hB (fun _ _ k => z_aload hB rfl k) (fun hB => ?_)
        refine q_s hB (fun _ _ k => x_geti hB hx.1 hx.2 k) (fun hB => ?_)
        refine q_s hB (fun _ _ k => z_cst hB k) (fun hB => ?_)
        refine q_s hB (fun _ _ k => z_isub hB k) (fun hB => ?_)
        refine q_s hB (fun _ _ k => z_iload hB rfl k) (fun hB => ?_)
        refine q_s hB (fun _ _ k => z_isub hB k) (fun hB => ?_)
        refine q_s hB (fun _ _ k => z_iload hB rfl k) (fun hB => ?_)
        refine q_s hB (fun _ _ k => z_isub hB k) (fun hB => ?_)
        refine q_s hB (fun _ _ k => z_max hB rfl k) (fun hB => ?_)
        refine q_s hB (fun _ _ k => x_puti hB hx.1 hx.2 k) (fun hB => ?_)
        refine q_s hB (fun _ _ k => z_aload hB rfl k) (fun hB => ?_)
        refine q_s hB (fun _ _ k => z_cst hB k) (fun hB => ?_)
        refine q_s hB (fun _ _ k => x_puti hB hx.1 hx.2 k) (fun hB => ?_)
        refine q_s hB (fun _ _ k => z_aload hB rfl k) (fun hB => ?_)
        refine q_s hB (fun _ _ k => z_cst hB k) (fun hB => ?_)
        refine q_s hB (fun _ _ k => z_aload hB rfl k) (fun hB => ?_)
        refine q_s hB (fun _ _ k => x_geti hB hx.1 hx.2 k) (fun hB => ?_)
        refine q_s hB (fun _ _ k => z_cst hB k) (fun hB => ?_)
        refine q_s hB (fun _ _ k => z_iadd hB k) (fun hB => ?_)
        refine q_s hB (fun _ _ k => z_iload hB rfl k) (fun hB => ?_)
        refine q_s hB (fun _ _ k => z_iadd hB k) (fun hB => ?_)
        refine q_s hB (fun _ _ k => z_min hB rfl k) (fun hB => ?_)
        refine q_s hB (fun _ _ k => x_puti hB hx.1 hx.2 k) (fun hB => ?_)
        refine q_s hB (fun _ _ k => z_aload hB rfl k) (fun hB => ?_)
        refine q_s hB (fun _ _ k => z_cst hB k) (fun hB => ?_)
        refine q_s hB (fun _ _ k => x_puti hB hx.1 hx.2 k) (fun hB => ?_)
        refine q_s hB (fun _ _ k => z_iinc hB rfl rfl k) (fun hB => ?_)
        rw [jn_add]
        refine q_s hB (fun _ _ k => z_goto hB k) (fun hB => ?_)
        refine ih (i + 1) _ _ _ (by omega) ?_ ?_ n9 n8
        · exact S.fr (X := fun x => x = fs.getD i 0) (((((FR_I (by omega)).sI (by omega) rfl).sI (by omega) rfl).sI (by omega) rfl).sI (by omega) rfl) (fun x _ q => Or.inl (by rw [q]; exact hx.2))
        · exact ((((F.sI (by omega) (Or.inr hm)).sI (by omega) (Or.inr hm)).sI (by omega) (Or.inr hm)).sI (by omega) (Or.inr hm)).sI (by omega) (Or.inr hm)
    · skip
      have hB : z_all [z_is 152 13 (zf_iload 13 5 15), z_is 152 15 (zf_aload 15 0 16), z_at 152 16 (zf_gr 16 8 11 19), z_is 152 19 (zf_cv 19 170 0 17 22), z_is 152 22 (zf_if2 .ge 22 148 25), z_is 152 25 (zf_aload 25 0 26), z_at 152 26 (zf_gr 26 8 11 29), z_is 152 29 (zf_iload 29 5 31), z_is 152 31 (zf_cv 31 168 1 17 34), z_at 152 34 (zx_cast 34 37), z_is 152 37 (zf_astore 37 6 39), z_is 152 39 (zf_aload 39 6 41), z_at 152 41 (zf_gi 41 16 8 44), z_is 152 44 (zf_iload 44 1 45), z_is 152 45 (zf_if2 .eq 45 51 48), z_is 152 48 (zf_goto 48 142), z_is 152 142 (zf_iinc 142 5 (jn 1) 145), z_is 152 145 (zf_goto 145 13)] = true := by decide +kernel
      refine q_s hB (fun _ _ k => z_iload hB rfl k) (fun hB => ?_)
      refine q_s hB (fun _ _ k => z_aload hB rfl k) (fun hB => ?_)
      refine q_s hB (fun _ _ k => x_getr hB S.1.1 S.1.2 S.2.1 k) (fun hB => ?_)
      refine q_s hB (fun _ _ k => z_callV hB (rest := [.int (jn i)]) rfl rfl rfl S.2.2.1.1.1 S.2.2.1.1.2 (n_k (n_alsz hl S.2.2.1)) k) (fun hB => ?_)
      refine q_s hB (fun _ _ k => z_ic_ge hB (fun h _ => absurd ((by rw [jn_lt (by omega) (by omega)]; omega)) h) (fun _ => k)) (fun hB => ?_)
      refine q_s hB (fun _ _ k => z_aload hB rfl k) (fun hB => ?_)
      refine q_s hB (fun _ _ k => x_getr hB S.1.1 S.1.2 S.2.1 k) (fun hB => ?_)
      refine q_s hB (fun _ _ k => z_iload hB rfl k) (fun hB => ?_)
      refine q_s hB (fun _ _ k => z_callV hB (rest := []) rfl rfl rfl S.2.2.1.1.1 S.2.2.1.1.2 (n_k (n_alget hl S.2.2.1 (i := i) (by omega))) k) (fun hB => ?_)
      refine q_s hB (fun _ _ k => x_cast hB hx.1 hx.2 k) (fun hB => ?_)
      refine q_s hB (fun _ _ k => z_astore hB rfl rfl k) (fun hB => ?_)
      refine q_s hB (fun _ _ k => z_aload hB rfl k) (fun hB => ?_)
      refine q_s hB (fun _ _ k => x_geti hB hx.1 hx.2 k) (fun hB => ?_)
      refine q_s hB (fun _ _ k => z_iload hB rfl k) (fun hB => ?_)
      refine q_s hB (fun _ _ k => z_ic_eq hB (fun h _ => absurd h (h9)) (fun _ => k)) (fun hB => ?_)
      refine q_s hB (fun _ _ k => z_goto hB k) (fun hB => ?_)
      refine q_s hB (fun _ _ k => z_iinc hB rfl rfl k) (fun hB => ?_)
      rw [jn_add]
      refine q_s hB (fun _ _ k => z_goto hB k) (fun hB => ?_)
      exact ih (i + 1) _ _ _ (by omega) S F n9 n8
theorem n_wsh {G : z_G} {w : ev_W} (hl : G.2.2.stackTraces = false) {d al ar ru C : Nat} {fs : List Nat} {x t : Int32} (S : DF w d al ar fs) (hr : w_R w d 8 = some ru) (hR : RWs w ru C) (hC : C ≤ 4) (hn : w_n w ≤ 1000) : z_N G 152 [.ref d, .int t, .int x] w (fun v w1 => (∃ z9, v = some (.int z9)) ∧ FR (fun x => x = d ∨ x ∈ fs) w w1 ∧ (w_n w1 = w_n w ∧ w_R w1 = w_R w)) := by
  refine q_con hl (ml := 8) (by decide +kernel) rfl rfl ?_
  obtain ⟨v5, w5, k5, ⟨z5, rfl⟩, f5⟩ := n_rng (x := x) (t := t) hl S hr hR hC
  rw [f5] at k5
  have hB : z_all [z_is 152 0 (zf_aload 0 0 1), z_is 152 1 (zf_iload 1 1 2), z_is 152 2 (zf_iload 2 2 3), z_is 152 3 (zf_cv 3 151 2 8 6), z_is 152 6 (zf_istore 6 3 7), z_is 152 7 (zf_cst 7 (jn 0) 8), z_is 152 8 (zf_istore 8 4 10), z_is 152 10 (zf_cst 10 (jn 0) 11), z_is 152 11 (zf_istore 11 5 13)] = true := by decide +kernel
  refine q_s hB (fun _ _ k => z_aload hB rfl k) (fun hB => ?_)
  refine q_s hB (fun _ _ k => z_iload hB rfl k) (fun hB => ?_)
  refine q_s hB (fun _ _ k => z_iload hB rfl k) (fun hB => ?_)
  refine q_s hB (fun _ _ k => z_callV hB (rest := []) rfl rfl rfl S.1.1 S.1.2 k5 k) (fun hB => ?_)
  refine q_s hB (fun _ _ k => z_istore hB rfl rfl k) (fun hB => ?_)
  refine q_s hB (fun _ _ k => z_cst hB k) (fun hB => ?_)
  refine q_s hB (fun _ _ k => z_istore hB rfl rfl k) (fun hB => ?_)
  refine q_s hB (fun _ _ k => z_cst hB k) (fun hB => ?_)
  refine q_s hB (fun _ _ k => z_istore hB rfl rfl k) (fun hB => ?_)
  exact n_wsh_lp hl fs.length 0 _ _ _ (by omega) S FR.rf ⟨rfl, rfl⟩ hn
