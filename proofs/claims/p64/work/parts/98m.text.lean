/-! the law's text(Desk): puts, wash, the whole: by wip/gen/p64/j98m.py -/
theorem gnd {l : List Nat} (h : l.Nodup) {i j : Nat} (hi : i < l.length) (hj : j < l.length) (e : l.getD i 0 = l.getD j 0) : i = j := by
  refine (List.getElem?_inj hi h).mp ?_
  rw [List.getElem?_eq_getElem hi, List.getElem?_eq_getElem hj]
  rw [List.getD_eq_getElem?_getD, List.getD_eq_getElem?_getD, List.getElem?_eq_getElem hi, List.getElem?_eq_getElem hj] at e
  exact congrArg some e
theorem dct0 {w : ev_W} {fs : List Nat} {t : Int32} : ∀ n, (∀ k, k < n → ¬ w_I w (fs.getD k 0) 8 = t) → dct w fs t n = 0
  | 0, _ => rfl
  | n + 1, h => by
    show dct w fs t n + (if w_I w (fs.getD n 0) 8 = t then 1 else 0) = 0
    rw [if_neg (h n (by omega)), dct0 n (fun k hk => h k (by omega))]
theorem dct1 {w : ev_W} {fs : List Nat} {t : Int32} (h0 : w_I w (fs.getD 0 0) 8 = t) : ∀ n, (∀ k, 0 < k → k < n + 1 → ¬ w_I w (fs.getD k 0) 8 = t) → dct w fs t (n + 1) = 1
  | 0, _ => by
    show 0 + (if w_I w (fs.getD 0 0) 8 = t then 1 else 0) = 1
    rw [if_pos h0]
  | n + 1, h => by
    show dct w fs t (n + 1) + (if w_I w (fs.getD (n + 1) 0) 8 = t then 1 else 0) = 1
    rw [if_neg (h (n + 1) (by omega) (by omega)), dct1 h0 n (fun k h1 hk => h k h1 (by omega))]
theorem DF.sI {w : ev_W} {d al ar x i : Nat} {y : Int32} {fs : List Nat} (S : DF w d al ar fs) (h : ¬ w_K w x = 17) : DF (w_sI w x i y) d al ar fs := by
  obtain ⟨h1, h2, h3, h4, h5⟩ := S
  refine ⟨h1, h2, ⟨h3.1, ⟨h3.2.1.1, ?_⟩, h3.2.2⟩, h4, h5⟩
  rw [sI_na (fun q => h (by rw [← q]; exact h3.1.2))]
  exact h3.2.1.2
theorem SB.sI {w : ev_W} {a b cap x i : Nat} {y : Int32} {l : List Nat} (S : SB w a b cap l) (ha : ¬ w_K w x = 18) (hb : ¬ w_K w x = 9) (hx : x < 1001) : SB (w_sI w x i y) a b cap l :=
  S.fr (FR_I hx) (fun q => ha (by rw [← q]; exact S.1.2)) (fun q => hb (by rw [← q]; exact S.2.1.2))
/-- between two appends, behind the text's first half: ws the world before text began -/
def PTc (ws : ev_W) (d al ar ru ro a : Nat) (fs : List Nat) (C T R0 : Nat) (tb : Nat → Int32) (w : ev_W) (n : Nat) : Prop := (w_l w = true ∧ w_n w ≤ w_n ws + n ∧ w_n ws ≤ a) ∧ (FR (fun x => x = d ∨ x ∈ fs) ws w ∧ w_R w d = w_R ws d) ∧ DF w d al ar fs ∧ (w_R w d 8 = some ru ∧ RWs w ru C ∧ w_R w d 9 = some ro ∧ RWs w ro T ∧ w_I w ro 0 = jn R0) ∧ ∀ k, k < fs.length → w_I w (fs.getD k 0) 8 = tb k
def PT (ws : ev_W) (d al ar ru ro a : Nat) (fs : List Nat) (C T R0 : Nat) (tb : Nat → Int32) (w : ev_W) (l : List Nat) (n : Nat) : Prop := PTc ws d al ar ru ro a fs C T R0 tb w n ∧ ∃ b cap, w_n ws ≤ b ∧ SB w a b cap l
theorem PT.up {ws w w5 : ev_W} {d al ar ru ro a C T R0 n b cap : Nat} {fs : List Nat} {tb : Nat → Int32} {l l5 : List Nat} (c : PTc ws d al ar ru ro a fs C T R0 tb w n) (hb : w_n ws ≤ b) (S : SB w a b cap l) (h : SBp w w5 a b l5) : PT ws d al ar ru ro a fs C T R0 tb w5 l5 (n + 1) := by
  obtain ⟨⟨c1, c2, c3⟩, ⟨F, cR⟩, D, ⟨r1, r2, r3, r4, r5⟩, ht⟩ := c
  obtain ⟨b1, cap1, S1, F1, n1, d1⟩ := h
  have hF := F.n
  have hk : ∀ x, (x = a ∨ x = b) → w_K w x = 18 ∨ w_K w x = 9 := fun x q => by
    rcases q with q | q
    · rw [q]; exact Or.inl S.1.2
    · rw [q]; exact Or.inr S.2.1.2
  have hne : ∀ x κ, w_K w x = κ → ¬ κ = 18 → ¬ κ = 9 → ¬ (x = a ∨ x = b) := fun x κ h1 h2 h3 q => by
    rcases hk x q with q | q
    · exact h2 (h1.symm.trans q)
    · exact h3 (h1.symm.trans q)
  have nd := hne d 8 D.1.2 (by omega) (by omega)
  refine ⟨⟨⟨F1.l.trans c1, by omega, c3⟩, ⟨F.tr F1 (fun _ _ q => q) (fun x hx q => ?_), (F1.R D.1.1 nd).trans cR⟩, D.fr F1 (fun x _ q => ?_), ⟨(congrFun (F1.R D.1.1 nd) 8).trans r1, r2.fr F1, (congrFun (F1.R D.1.1 nd) 9).trans r3, r4.fr F1, (congrFun (F1.I r4.1 (hne ro 10 r4.2.1 (by omega) (by omega))) 0).trans r5⟩, fun k hk9 => ?_⟩, b1, cap1, ?_, S1⟩
  · rcases q with q | q <;> omega
  · rcases hk x q with q | q
    · exact Or.inr (Or.inr q)
    · exact Or.inr (Or.inl q)
  · have hf := D.2.2.2.2 _ (gdm hk9)
    rw [F1.I hf.1 (hne _ 16 hf.2 (by omega) (by omega))]
    exact ht k hk9
  · rcases d1 with d1 | d1 <;> omega
theorem PT.put {ws w : ev_W} {d al ar ru ro a C T R0 n i : Nat} {fs : List Nat} {tb : Nat → Int32} {l : List Nat} {y z : Int32} (h : PT ws d al ar ru ro a fs C T R0 tb w l n) (hi : i < fs.length) (hnd : fs.Nodup) (hn : w_n ws + n ≤ 1000) : PT ws d al ar ru ro a fs C T R0 (fun k => if k = i then jn 0 else tb k) (w_sI (w_sI (w_sI w (fs.getD i 0) 8 (jn 0)) d 7 y) (fs.getD i 0) 10 z) l n := by
  obtain ⟨⟨⟨c1, c2, c3⟩, ⟨F, cR⟩, D, ⟨r1, r2, r3, r4, r5⟩, ht⟩, b, cap, hb, S⟩ := h
  have hm := gdm hi
  have hf := D.2.2.2.2 _ hm
  have hf1 := hf.1
  have hd1 := D.1.1
  have rof : ¬ ro = fs.getD i 0 := fun q => by have h9 := r4.2.1; rw [q, hf.2] at h9; omega
  have rod : ¬ ro = d := fun q => by have h9 := r4.2.1; rw [q, D.1.2] at h9; omega
  have fd : ∀ x ∈ fs, ¬ x = d := fun x hx q => by have h9 := (D.2.2.2.2 x hx).2; rw [q, D.1.2] at h9; omega
  refine ⟨⟨⟨c1, c2, c3⟩, ⟨((F.sI (by omega) (Or.inr hm)).sI (by omega) (Or.inl rfl)).sI (by omega) (Or.inr hm), cR⟩, ((D.sI (by rw [hf.2]; omega)).sI (by show ¬ w_K w d = 17; rw [D.1.2]; omega)).sI (by show ¬ w_K w (fs.getD i 0) = 17; rw [hf.2]; omega), ⟨r1, r2, r3, r4, ?_⟩, fun k hk9 => ?_⟩, b, cap, hb, ((S.sI (by rw [hf.2]; omega) (by rw [hf.2]; omega) (by omega)).sI (by show ¬ w_K w d = 18; rw [D.1.2]; omega) (by show ¬ w_K w d = 9; rw [D.1.2]; omega) (by omega)).sI (by show ¬ w_K w (fs.getD i 0) = 18; rw [hf.2]; omega) (by show ¬ w_K w (fs.getD i 0) = 9; rw [hf.2]; omega) (by omega)⟩
  · rw [sI_na rof, sI_na rod, sI_na rof]
    exact r5
  · by_cases q9 : k = i
    · rw [q9, sI_ne (by omega), sI_ne (by omega), sI_at]
      exact (if_pos rfl).symm
    · have q8 : ¬ fs.getD k 0 = fs.getD i 0 := fun q => q9 (gnd hnd hk9 hi q)
      rw [sI_na q8, sI_na (fd _ (gdm hk9)), sI_na q8]
      exact (ht k hk9).trans (if_neg q9).symm
section PTA
variable {G : z_G} {ws w : ev_W} {d al ar ru ro a C T R0 n : Nat} {fs : List Nat} {tb : Nat → Int32} {l : List Nat}
theorem p_S (hl : G.2.2.stackTraces = false) (h : PT ws d al ar ru ro a fs C T R0 tb w l n) {k9 : Nat} (hk9 : k9 < 29) (h2 : l.length + zs_ln k9 ≤ 300) (hn : w_n ws + n < 999) : ∃ w5, z_K G 174 [.ref a, .ref (ev_S + 1 + k9)] w (.inl (some (.ref a))) w5 ∧ PT ws d al ar ru ro a fs C T R0 tb w5 (l ++ zs_tx k9) (n + 1) := by
  obtain ⟨c, b, cap, hb, S⟩ := h
  have c2 := c.1.2.1
  obtain ⟨v5, w5, k5, rfl, h5⟩ := n_appS hl S hk9 h2 c.1.1 (by omega)
  exact ⟨w5, k5, PT.up c hb S h5⟩
theorem p_I (hl : G.2.2.stackTraces = false) (h : PT ws d al ar ru ro a fs C T R0 tb w l n) {v : Nat} (hv : v < 17) (h2 : l.length + 2 ≤ 300) (hn : w_n ws + n < 999) : ∃ w5, z_K G 176 [.ref a, .int (jn v)] w (.inl (some (.ref a))) w5 ∧ PT ws d al ar ru ro a fs C T R0 tb w5 (l ++ dg v) (n + 1) := by
  obtain ⟨c, b, cap, hb, S⟩ := h
  have c2 := c.1.2.1
  obtain ⟨v5, w5, k5, rfl, h5⟩ := n_appI hl S hv h2 c.1.1 (by omega)
  exact ⟨w5, k5, PT.up c hb S h5⟩
end PTA
theorem PT.sb {ws w : ev_W} {d al ar ru ro a C T R0 n : Nat} {fs : List Nat} {tb : Nat → Int32} {l : List Nat} (h : PT ws d al ar ru ro a fs C T R0 tb w l n) : a < w_n w ∧ w_K w a = 18 := by
  obtain ⟨c, b, cap, hb, S⟩ := h
  exact S.1
theorem PT.mo {ws w : ev_W} {d al ar ru ro a C T R0 n m : Nat} {fs : List Nat} {tb : Nat → Int32} {l : List Nat} (h : PT ws d al ar ru ro a fs C T R0 tb w l n) (hm : n ≤ m) : PT ws d al ar ru ro a fs C T R0 tb w l m := by
  obtain ⟨⟨⟨c1, c2, c3⟩, c⟩, h2⟩ := h
  exact ⟨⟨⟨c1, by omega, c3⟩, c⟩, h2⟩
theorem n_put1 {G : z_G} (hl : G.2.2.stackTraces = false) {P : Option Value → ev_W → Prop} {ws w : ev_W} {d al ar ru ro a C T R0 n : Nat} {fs : List Nat} {tb : Nat → Int32} {l : List Nat} {x3 x4 : Option Value} {i : Nat} (hi : i < fs.length) (hi2 : i < 2) (hnd : fs.Nodup) (T0 : PT ws d al ar ru ro a fs C T R0 tb w l n) (h300 : l.length + 20 ≤ 300) (hn : w_n ws + n + 3 < 999) (fin : ∀ w', PT ws d al ar ru ro a fs C T R0 (fun k => if k = i then jn 0 else tb k) w' (((l ++ zs_tx 26) ++ dg i) ++ zs_tx 27) (n + 3) → z_Q G 159 279 [some (.ref d), some (.ref a), some (.int (jn (i + 1))), x3, x4] [] w' P) : z_Q G 159 312 [some (.ref d), some (.ref a), some (.int (jn i)), x3, x4] [] w P := by
  have q2 := zs_l9
  have d0 := dg_len i
  obtain ⟨w1, k1, T1⟩ := p_S hl T0 (k9 := 26) (by omega) (by omega) (by omega)
  obtain ⟨w2, k2, T2⟩ := p_I hl T1 (v := i) (by omega) (by simp only [List.length_append, zs_txl]; omega) (by omega)
  obtain ⟨w3, k3, T3⟩ := p_S hl T2 (k9 := 27) (by omega) (by simp only [List.length_append, zs_txl]; omega) (by omega)
  have D3 := T3.1.2.2.1
  have hf := D3.2.2.2.2 _ (gdm hi)
  have D4 : DF (w_sI w3 (fs.getD i 0) 8 (jn 0)) d al ar fs := D3.sI (by rw [hf.2]; omega)
  have hB : z_all [z_is 159 312 (zf_aload 312 1 313), z_is 159 313 (zf_lds 313 26 315), z_is 159 315 (zf_cv 315 174 1 18 318), z_is 159 318 (zf_iload 318 2 319), z_is 159 319 (zf_cv 319 176 1 18 322), z_is 159 322 (zf_lds 322 27 324), z_is 159 324 (zf_cv 324 174 1 18 327), z_at 159 327 (zx_pop 327 328), z_is 159 328 (zf_aload 328 0 329), z_at 159 329 (zf_gr 329 8 11 332), z_is 159 332 (zf_iload 332 2 333), z_is 159 333 (zf_cv 333 168 1 17 336), z_at 159 336 (zx_cast 336 339), z_is 159 339 (zf_cst 339 (jn 0) 340), z_at 159 340 (zf_pi 340 16 8 343), z_is 159 343 (zf_aload 343 0 344), z_at 159 344 (zf_gr 344 8 11 347), z_is 159 347 (zf_iload 347 2 348), z_is 159 348 (zf_cv 348 168 1 17 351), z_at 159 351 (zx_cast 351 354), z_is 159 354 (zf_aload 354 0 355), z_at 159 355 (zx_dup 355 356), z_at 159 356 (zf_gi 356 8 7 359), z_at 159 359 (zx_dupx1 359 360), z_is 159 360 (zf_cst 360 (jn 1) 361), z_is 159 361 (zf_iadd 361 362), z_at 159 362 (zf_pi 362 8 7 365), z_at 159 365 (zf_pi 365 16 10 368), z_is 159 368 (zf_iinc 368 2 (jn 1) 371), z_is 159 371 (zf_goto 371 279)] = true := by decide +kernel
  refine q_s hB (fun _ _ k => z_aload hB rfl k) (fun hB => ?_)
  refine q_s hB (fun _ _ k => z_lds hB k) (fun hB => ?_)
  refine q_s hB (fun _ _ k => z_callV hB (rest := []) rfl rfl rfl T0.sb.1 T0.sb.2 k1 k) (fun hB => ?_)
  refine q_s hB (fun _ _ k => z_iload hB rfl k) (fun hB => ?_)
  refine q_s hB (fun _ _ k => z_callV hB (rest := []) rfl rfl rfl T1.sb.1 T1.sb.2 k2 k) (fun hB => ?_)
  refine q_s hB (fun _ _ k => z_lds hB k) (fun hB => ?_)
  refine q_s hB (fun _ _ k => z_callV hB (rest := []) rfl rfl rfl T2.sb.1 T2.sb.2 k3 k) (fun hB => ?_)
  refine q_s hB (fun _ _ k => x_pop hB rfl k) (fun hB => ?_)
  refine q_s hB (fun _ _ k => z_aload hB rfl k) (fun hB => ?_)
  refine q_s hB (fun _ _ k => x_getr hB D3.1.1 D3.1.2 D3.2.1 k) (fun hB => ?_)
  refine q_s hB (fun _ _ k => z_iload hB rfl k) (fun hB => ?_)
  refine q_s hB (fun _ _ k => z_callV hB (rest := []) rfl rfl rfl D3.2.2.1.1.1 D3.2.2.1.1.2 (n_k (n_alget hl D3.2.2.1 (i := i) hi)) k) (fun hB => ?_)
  refine q_s hB (fun _ _ k => x_cast hB hf.1 hf.2 k) (fun hB => ?_)
  refine q_s hB (fun _ _ k => z_cst hB k) (fun hB => ?_)
  refine q_s hB (fun _ _ k => x_puti hB hf.1 hf.2 k) (fun hB => ?_)
  refine q_s hB (fun _ _ k => z_aload hB rfl k) (fun hB => ?_)
  refine q_s hB (fun _ _ k => x_getr hB D4.1.1 D4.1.2 D4.2.1 k) (fun hB => ?_)
  refine q_s hB (fun _ _ k => z_iload hB rfl k) (fun hB => ?_)
  refine q_s hB (fun _ _ k => z_callV hB (rest := []) rfl rfl rfl D4.2.2.1.1.1 D4.2.2.1.1.2 (n_k (n_alget hl D4.2.2.1 (i := i) hi)) k) (fun hB => ?_)
  refine q_s hB (fun _ _ k => x_cast hB hf.1 hf.2 k) (fun hB => ?_)
  refine q_s hB (fun _ _ k => z_aload hB rfl k) (fun hB => ?_)
  refine q_s hB (fun _ _ k => x_dup hB rfl k) (fun hB => ?_)
  refine q_s hB (fun _ _ k => x_geti hB D4.1.1 D4.1.2 k) (fun hB => ?_)
  refine q_s hB (fun _ _ k => x_dupx1 hB rfl rfl k) (fun hB => ?_)
  refine q_s hB (fun _ _ k => z_cst hB k) (fun hB => ?_)
  refine q_s hB (fun _ _ k => z_iadd hB k) (fun hB => ?_)
  refine q_s hB (fun _ _ k => x_puti hB D4.1.1 D4.1.2 k) (fun hB => ?_)
  refine q_s hB (fun _ _ k => x_puti hB hf.1 hf.2 k) (fun hB => ?_)
  refine q_s hB (fun _ _ k => z_iinc hB rfl rfl k) (fun hB => ?_)
  rw [jn_add]
  refine q_s hB (fun _ _ k => z_goto hB k) (fun hB => ?_)
  exact fin _ (T3.put hi hnd (by omega))
theorem n_putx {G : z_G} (hl : G.2.2.stackTraces = false) {P : Option Value → ev_W → Prop} {ws w : ev_W} {d al ar ru ro a C T R0 n : Nat} {fs : List Nat} {tb : Nat → Int32} {l : List Nat} {x3 x4 : Option Value} (hnd : fs.Nodup) (T0 : PT ws d al ar ru ro a fs C T R0 tb w l n) (fin : z_Q G 159 374 [some (.ref d), some (.ref a), some (.int (jn 2)), x3, x4] [] w P) : z_Q G 159 279 [some (.ref d), some (.ref a), some (.int (jn 2)), x3, x4] [] w P := by
  have D0 := T0.1.2.2.1
  have r9 := T0.1.2.2.2.1.2.2.1
  have ro9 := T0.1.2.2.2.1.2.2.2.1
  have rv9 := T0.1.2.2.2.1.2.2.2.2
  have h4 := D0.2.2.2.1
  by_cases hF : fs.length ≤ 2
  · skip
    have hB : z_all [z_is 159 279 (zf_iload 279 2 280), z_is 159 280 (zf_aload 280 0 281), z_at 159 281 (zf_gr 281 8 11 284), z_is 159 284 (zf_cv 284 170 0 17 287), z_is 159 287 (zf_if2 .ge 287 374 290)] = true := by decide +kernel
    refine q_s hB (fun _ _ k => z_iload hB rfl k) (fun hB => ?_)
    refine q_s hB (fun _ _ k => z_aload hB rfl k) (fun hB => ?_)
    refine q_s hB (fun _ _ k => x_getr hB D0.1.1 D0.1.2 D0.2.1 k) (fun hB => ?_)
    refine q_s hB (fun _ _ k => z_callV hB (rest := [.int (jn 2)]) rfl rfl rfl D0.2.2.1.1.1 D0.2.2.1.1.2 (n_k (n_alsz hl D0.2.2.1)) k) (fun hB => ?_)
    refine q_s hB (fun _ _ k => z_ic_ge hB (fun _ => k) (fun h _ => absurd h ((by rw [jn_lt (by omega) (by omega)]; omega)))) (fun hB => ?_)
    exact fin
  · skip
    have hB : z_all [z_is 159 279 (zf_iload 279 2 280), z_is 159 280 (zf_aload 280 0 281), z_at 159 281 (zf_gr 281 8 11 284), z_is 159 284 (zf_cv 284 170 0 17 287), z_is 159 287 (zf_if2 .ge 287 374 290), z_is 159 290 (zf_iload 290 2 291), z_is 159 291 (zf_cst 291 (jn 2) 292), z_is 159 292 (zf_if2 .ge 292 374 295)] = true := by decide +kernel
    refine q_s hB (fun _ _ k => z_iload hB rfl k) (fun hB => ?_)
    refine q_s hB (fun _ _ k => z_aload hB rfl k) (fun hB => ?_)
    refine q_s hB (fun _ _ k => x_getr hB D0.1.1 D0.1.2 D0.2.1 k) (fun hB => ?_)
    refine q_s hB (fun _ _ k => z_callV hB (rest := [.int (jn 2)]) rfl rfl rfl D0.2.2.1.1.1 D0.2.2.1.1.2 (n_k (n_alsz hl D0.2.2.1)) k) (fun hB => ?_)
    refine q_s hB (fun _ _ k => z_ic_ge hB (fun h _ => absurd ((by rw [jn_lt (by omega) (by omega)]; omega)) h) (fun _ => k)) (fun hB => ?_)
    refine q_s hB (fun _ _ k => z_iload hB rfl k) (fun hB => ?_)
    refine q_s hB (fun _ _ k => z_cst hB k) (fun hB => ?_)
    refine q_s hB (fun _ _ k => z_ic_ge hB (fun _ => k) (fun h _ => absurd h ((by decide)))) (fun hB => ?_)
    exact fin
theorem n_puts {G : z_G} (hl : G.2.2.stackTraces = false) {P : Option Value → ev_W → Prop} {ws w : ev_W} {d al ar ru ro a C T R0 n : Nat} {fs : List Nat} {tb : Nat → Int32} {l : List Nat} {x3 x4 : Option Value} (hnd : fs.Nodup) (hT : 1 ≤ T) (hR : 1 ≤ R0 ∧ R0 ≤ 4) (T0 : PT ws d al ar ru ro a fs C T R0 (fun _ => jg 1) w l n) (h300 : l.length + 40 ≤ 300) (hn : w_n ws + n + 6 < 999) (fin : ∀ w' y2, PT ws d al ar ru ro a fs C T R0 (if 2 ≤ fs.length ∧ ¬ R0 = 1 then (fun k => if k = 1 then jn 0 else if k = 0 then jn 0 else jg 1) else (fun k => if k = 0 then jn 0 else jg 1)) w' ((((l ++ zs_tx 26) ++ dg 0) ++ zs_tx 27) ++ (if 2 ≤ fs.length ∧ ¬ R0 = 1 then ((zs_tx 26 ++ dg 1) ++ zs_tx 27) else [])) (n + 6) → z_Q G 159 374 [some (.ref d), some (.ref a), some (.int y2), x3, x4] [] w' P) : z_Q G 159 279 [some (.ref d), some (.ref a), some (.int (jn 0)), x3, x4] [] w P := by
  have D0 := T0.1.2.2.1
  have r9 := T0.1.2.2.2.1.2.2.1
  have ro9 := T0.1.2.2.2.1.2.2.2.1
  have rv9 := T0.1.2.2.2.1.2.2.2.2
  have h4 := D0.2.2.2.1
  have e9 : dct w fs (jn 0) fs.length = 0 := dct0 _ (fun k hk q => absurd (show jg 1 = jn 0 from (T0.1.2.2.2.2 k hk).symm.trans q) (by decide))
  have k9 := n_k (n_in (t := jn 0) hl D0)
  rw [e9] at k9
  have hB : z_all [z_is 159 279 (zf_iload 279 2 280), z_is 159 280 (zf_aload 280 0 281), z_at 159 281 (zf_gr 281 8 11 284), z_is 159 284 (zf_cv 284 170 0 17 287), z_is 159 287 (zf_if2 .ge 287 374 290), z_is 159 290 (zf_iload 290 2 291), z_is 159 291 (zf_cst 291 (jn 2) 292), z_is 159 292 (zf_if2 .ge 292 374 295), z_is 159 295 (zf_aload 295 0 296), z_is 159 296 (zf_cst 296 (jn 0) 297), z_is 159 297 (zf_cv 297 149 1 8 300), z_is 159 300 (zf_aload 300 0 301), z_at 159 301 (zf_gr 301 8 9 304), z_is 159 304 (zf_cst 304 (jn 0) 305), z_at 159 305 (zx_iald 305 306), z_is 159 306 (zf_if2 .ne 306 312 309)] = true := by decide +kernel
  refine q_s hB (fun _ _ k => z_iload hB rfl k) (fun hB => ?_)
  refine q_s hB (fun _ _ k => z_aload hB rfl k) (fun hB => ?_)
  refine q_s hB (fun _ _ k => x_getr hB D0.1.1 D0.1.2 D0.2.1 k) (fun hB => ?_)
  refine q_s hB (fun _ _ k => z_callV hB (rest := [.int (jn 0)]) rfl rfl rfl D0.2.2.1.1.1 D0.2.2.1.1.2 (n_k (n_alsz hl D0.2.2.1)) k) (fun hB => ?_)
  refine q_s hB (fun _ _ k => z_ic_ge hB (fun h _ => absurd ((by rw [jn_lt (by omega) (by omega)]; omega)) h) (fun _ => k)) (fun hB => ?_)
  refine q_s hB (fun _ _ k => z_iload hB rfl k) (fun hB => ?_)
  refine q_s hB (fun _ _ k => z_cst hB k) (fun hB => ?_)
  refine q_s hB (fun _ _ k => z_ic_ge hB (fun h _ => absurd ((by decide)) h) (fun _ => k)) (fun hB => ?_)
  refine q_s hB (fun _ _ k => z_aload hB rfl k) (fun hB => ?_)
  refine q_s hB (fun _ _ k => z_cst hB k) (fun hB => ?_)
  refine q_s hB (fun _ _ k => z_callV hB (rest := []) rfl rfl rfl D0.1.1 D0.1.2 k9 k) (fun hB => ?_)
  refine q_s hB (fun _ _ k => z_aload hB rfl k) (fun hB => ?_)
  refine q_s hB (fun _ _ k => x_getr hB D0.1.1 D0.1.2 r9 k) (fun hB => ?_)
  refine q_s hB (fun _ _ k => z_cst hB k) (fun hB => ?_)
  refine q_s hB (fun _ _ k => x_iald hB ro9.1 ro9.2.1 (by rw [ro9.2.2]; exact jn_ok (by omega) (by omega)) k) (fun hB => ?_)
  rw [jn_n (by omega), rv9]
  refine q_s hB (fun _ _ k => z_ic_ne hB (fun _ => k) (fun h _ => absurd h ((by rw [jn_eq (by omega) (by omega)]; omega)))) (fun hB => ?_)
  refine n_put1 hl (i := 0) (by omega) (by omega) hnd T0 (by omega) (by omega) (fun w' T1 => ?_)
  have q2 := zs_l9
  have D1 := T1.1.2.2.1
  have r9 := T1.1.2.2.2.1.2.2.1
  have ro9 := T1.1.2.2.2.1.2.2.2.1
  have rv9 := T1.1.2.2.2.1.2.2.2.2
  have e8 : dct w' fs (jn 0) fs.length = 1 := by
    obtain ⟨m9, hm9⟩ : ∃ m9, fs.length = m9 + 1 := ⟨fs.length - 1, by omega⟩
    rw [hm9]
    refine dct1 ?_ m9 (fun k h1 hk q => ?_)
    · exact (T1.1.2.2.2.2 0 (by omega)).trans (if_pos rfl)
    · exact absurd ((show (if k = 0 then jn 0 else jg 1) = jg 1 from if_neg (by omega)).symm.trans ((T1.1.2.2.2.2 k (by omega)).symm.trans q)) (by decide)
  have k9 := n_k (n_in (t := jn 0) hl D1)
  rw [e8] at k9
  by_cases hF : fs.length ≤ 1
  · skip
    have hB : z_all [z_is 159 279 (zf_iload 279 2 280), z_is 159 280 (zf_aload 280 0 281), z_at 159 281 (zf_gr 281 8 11 284), z_is 159 284 (zf_cv 284 170 0 17 287), z_is 159 287 (zf_if2 .ge 287 374 290)] = true := by decide +kernel
    refine q_s hB (fun _ _ k => z_iload hB rfl k) (fun hB => ?_)
    refine q_s hB (fun _ _ k => z_aload hB rfl k) (fun hB => ?_)
    refine q_s hB (fun _ _ k => x_getr hB D1.1.1 D1.1.2 D1.2.1 k) (fun hB => ?_)
    refine q_s hB (fun _ _ k => z_callV hB (rest := [.int (jn 1)]) rfl rfl rfl D1.2.2.1.1.1 D1.2.2.1.1.2 (n_k (n_alsz hl D1.2.2.1)) k) (fun hB => ?_)
    refine q_s hB (fun _ _ k => z_ic_ge hB (fun _ => k) (fun h _ => absurd h ((by rw [jn_lt (by omega) (by omega)]; omega)))) (fun hB => ?_)
    have hc : ¬ (2 ≤ fs.length ∧ ¬ R0 = 1) := fun q => by omega
    rw [if_neg hc, if_neg hc] at fin
    rw [List.append_nil] at fin
    exact fin w' _ (T1.mo (by omega))
  · by_cases hR1 : R0 = 1
    · skip
      have hB : z_all [z_is 159 279 (zf_iload 279 2 280), z_is 159 280 (zf_aload 280 0 281), z_at 159 281 (zf_gr 281 8 11 284), z_is 159 284 (zf_cv 284 170 0 17 287), z_is 159 287 (zf_if2 .ge 287 374 290), z_is 159 290 (zf_iload 290 2 291), z_is 159 291 (zf_cst 291 (jn 2) 292), z_is 159 292 (zf_if2 .ge 292 374 295), z_is 159 295 (zf_aload 295 0 296), z_is 159 296 (zf_cst 296 (jn 0) 297), z_is 159 297 (zf_cv 297 149 1 8 300), z_is 159 300 (zf_aload 300 0 301), z_at 159 301 (zf_gr 301 8 9 304), z_is 159 304 (zf_cst 304 (jn 0) 305), z_at 159 305 (zx_iald 305 306), z_is 159 306 (zf_if2 .ne 306 312 309), z_is 159 309 (zf_goto 309 368), z_is 159 368 (zf_iinc 368 2 (jn 1) 371), z_is 159 371 (zf_goto 371 279)] = true := by decide +kernel
      refine q_s hB (fun _ _ k => z_iload hB rfl k) (fun hB => ?_)
      refine q_s hB (fun _ _ k => z_aload hB rfl k) (fun hB => ?_)
      refine q_s hB (fun _ _ k => x_getr hB D1.1.1 D1.1.2 D1.2.1 k) (fun hB => ?_)
      refine q_s hB (fun _ _ k => z_callV hB (rest := [.int (jn 1)]) rfl rfl rfl D1.2.2.1.1.1 D1.2.2.1.1.2 (n_k (n_alsz hl D1.2.2.1)) k) (fun hB => ?_)
      refine q_s hB (fun _ _ k => z_ic_ge hB (fun h _ => absurd ((by rw [jn_lt (by omega) (by omega)]; omega)) h) (fun _ => k)) (fun hB => ?_)
      refine q_s hB (fun _ _ k => z_iload hB rfl k) (fun hB => ?_)
      refine q_s hB (fun _ _ k => z_cst hB k) (fun hB => ?_)
      refine q_s hB (fun _ _ k => z_ic_ge hB (fun h _ => absurd ((by decide)) h) (fun _ => k)) (fun hB => ?_)
      refine q_s hB (fun _ _ k => z_aload hB rfl k) (fun hB => ?_)
      refine q_s hB (fun _ _ k => z_cst hB k) (fun hB => ?_)
      refine q_s hB (fun _ _ k => z_callV hB (rest := []) rfl rfl rfl D1.1.1 D1.1.2 k9 k) (fun hB => ?_)
      refine q_s hB (fun _ _ k => z_aload hB rfl k) (fun hB => ?_)
      refine q_s hB (fun _ _ k => x_getr hB D1.1.1 D1.1.2 r9 k) (fun hB => ?_)
      refine q_s hB (fun _ _ k => z_cst hB k) (fun hB => ?_)
      refine q_s hB (fun _ _ k => x_iald hB ro9.1 ro9.2.1 (by rw [ro9.2.2]; exact jn_ok (by omega) (by omega)) k) (fun hB => ?_)
      rw [jn_n (by omega), rv9]
      refine q_s hB (fun _ _ k => z_ic_ne hB (fun h _ => absurd ((by rw [hR1])) h) (fun _ => k)) (fun hB => ?_)
      refine q_s hB (fun _ _ k => z_goto hB k) (fun hB => ?_)
      refine q_s hB (fun _ _ k => z_iinc hB rfl rfl k) (fun hB => ?_)
      rw [jn_add]
      refine q_s hB (fun _ _ k => z_goto hB k) (fun hB => ?_)
      have hc : ¬ (2 ≤ fs.length ∧ ¬ R0 = 1) := fun q => q.2 hR1
      rw [if_neg hc, if_neg hc] at fin
      rw [List.append_nil] at fin
      exact n_putx hl hnd T1 (fin w' _ (T1.mo (by omega)))
    · skip
      have hB : z_all [z_is 159 279 (zf_iload 279 2 280), z_is 159 280 (zf_aload 280 0 281), z_at 159 281 (zf_gr 281 8 11 284), z_is 159 284 (zf_cv 284 170 0 17 287), z_is 159 287 (zf_if2 .ge 287 374 290), z_is 159 290 (zf_iload 290 2 291), z_is 159 291 (zf_cst 291 (jn 2) 292), z_is 159 292 (zf_if2 .ge 292 374 295), z_is 159 295 (zf_aload 295 0 296), z_is 159 296 (zf_cst 296 (jn 0) 297), z_is 159 297 (zf_cv 297 149 1 8 300), z_is 159 300 (zf_aload 300 0 301), z_at 159 301 (zf_gr 301 8 9 304), z_is 159 304 (zf_cst 304 (jn 0) 305), z_at 159 305 (zx_iald 305 306), z_is 159 306 (zf_if2 .ne 306 312 309)] = true := by decide +kernel
      refine q_s hB (fun _ _ k => z_iload hB rfl k) (fun hB => ?_)
      refine q_s hB (fun _ _ k => z_aload hB rfl k) (fun hB => ?_)
      refine q_s hB (fun _ _ k => x_getr hB D1.1.1 D1.1.2 D1.2.1 k) (fun hB => ?_)
      refine q_s hB (fun _ _ k => z_callV hB (rest := [.int (jn 1)]) rfl rfl rfl D1.2.2.1.1.1 D1.2.2.1.1.2 (n_k (n_alsz hl D1.2.2.1)) k) (fun hB => ?_)
      refine q_s hB (fun _ _ k => z_ic_ge hB (fun h _ => absurd ((by rw [jn_lt (by omega) (by omega)]; omega)) h) (fun _ => k)) (fun hB => ?_)
      refine q_s hB (fun _ _ k => z_iload hB rfl k) (fun hB => ?_)
      refine q_s hB (fun _ _ k => z_cst hB k) (fun hB => ?_)
      refine q_s hB (fun _ _ k => z_ic_ge hB (fun h _ => absurd ((by decide)) h) (fun _ => k)) (fun hB => ?_)
      refine q_s hB (fun _ _ k => z_aload hB rfl k) (fun hB => ?_)
      refine q_s hB (fun _ _ k => z_cst hB k) (fun hB => ?_)
      refine q_s hB (fun _ _ k => z_callV hB (rest := []) rfl rfl rfl D1.1.1 D1.1.2 k9 k) (fun hB => ?_)
      refine q_s hB (fun _ _ k => z_aload hB rfl k) (fun hB => ?_)
      refine q_s hB (fun _ _ k => x_getr hB D1.1.1 D1.1.2 r9 k) (fun hB => ?_)
      refine q_s hB (fun _ _ k => z_cst hB k) (fun hB => ?_)
      refine q_s hB (fun _ _ k => x_iald hB ro9.1 ro9.2.1 (by rw [ro9.2.2]; exact jn_ok (by omega) (by omega)) k) (fun hB => ?_)
      rw [jn_n (by omega), rv9]
      refine q_s hB (fun _ _ k => z_ic_ne hB (fun _ => k) (fun h _ => absurd h ((by rw [jn_eq (by omega) (by omega)]; omega)))) (fun hB => ?_)
      have hc : 2 ≤ fs.length ∧ ¬ R0 = 1 := ⟨by omega, hR1⟩
      rw [if_pos hc, if_pos hc] at fin
      refine n_put1 hl (i := 1) (by omega) (by omega) hnd T1 (by simp only [List.length_append, zs_txl]; have := dg_len 0; omega) (by omega) (fun w2 T2 => ?_)
      refine n_putx hl hnd T2 (fin w2 _ ?_)
      have e7 : ((((l ++ zs_tx 26) ++ dg 0) ++ zs_tx 27) ++ ((zs_tx 26 ++ dg 1) ++ zs_tx 27)) = ((((((l ++ zs_tx 26) ++ dg 0) ++ zs_tx 27) ++ zs_tx 26) ++ dg 1) ++ zs_tx 27) := by simp only [List.append_assoc]
      rw [e7]
      exact T2
theorem n_pend {G : z_G} (hl : G.2.2.stackTraces = false) {P : Option Value → ev_W → Prop} {ws w : ev_W} {d al ar ru ro a C T R0 n : Nat} {fs : List Nat} {tb : Nat → Int32} {l : List Nat} {x3 x4 : Option Value} (hC : C ≤ 4) (T0 : PT ws d al ar ru ro a fs C T R0 tb w l n) (h300 : l.length + 9 ≤ 300) (hn : w_n ws + n + 3 < 999) {x2 : Option Value} : z_Q G 159 374 [some (.ref d), some (.ref a), x2, x3, x4] [] w (fun v w1 => ∃ s v9, v = some (.ref s) ∧ STR w1 s v9 (l ++ zs_tx 28) ∧ FR (fun x => x = d ∨ x ∈ fs) ws w1 ∧ w_R w1 d = w_R ws d ∧ w_n w1 ≤ w_n ws + n + 3) := by
  have q2 := zs_l9
  obtain ⟨w1, k1, T1⟩ := p_S hl T0 (k9 := 28) (by omega) (by omega) (by omega)
  have D1 := T1.1.2.2.1
  have n1 := T1.1.1.2.1
  obtain ⟨v2, w2, k2, ⟨z2, rfl⟩, F2, n2, R2⟩ := n_wsh (x := jn 0) (t := jn 0) hl D1 T1.1.2.2.2.1.1 T1.1.2.2.2.1.2.1 hC (by omega)
  obtain ⟨c1, b, cap, hb, S1⟩ := T1
  have hne : ∀ x, w_K w1 x = 18 ∨ w_K w1 x = 9 → ¬ (x = d ∨ x ∈ fs) := fun x hx q => by
    rcases q with q | q
    · rw [q, D1.1.2] at hx; omega
    · rw [(D1.2.2.2.2 x q).2] at hx; omega
  have S2 := S1.fr F2 (hne a (Or.inl S1.1.2)) (hne b (Or.inr S1.2.1.2))
  have l2 : w_l w2 = true := F2.l.trans c1.1.1
  obtain ⟨v3, w3, k3, rfl, v9, S3, F3, n3⟩ := n_toS hl S2 (by simp only [List.length_append, zs_txl]; omega) l2 (by omega)
  have hB : z_all [z_is 159 374 (zf_aload 374 1 375), z_is 159 375 (zf_lds 375 28 377), z_is 159 377 (zf_cv 377 174 1 18 380), z_at 159 380 (zx_pop 380 381), z_is 159 381 (zf_aload 381 0 382), z_is 159 382 (zf_cst 382 (jn 0) 383), z_is 159 383 (zf_cst 383 (jn 0) 384), z_is 159 384 (zf_cv 384 152 2 8 387), z_is 159 387 (zf_istore 387 2 388), z_is 159 388 (zf_aload 388 1 389), z_is 159 389 (zf_cv 389 178 0 18 392), z_is 159 392 (zf_ret 5)] = true := by decide +kernel
  refine q_s hB (fun _ _ k => z_aload hB rfl k) (fun hB => ?_)
  refine q_s hB (fun _ _ k => z_lds hB k) (fun hB => ?_)
  refine q_s hB (fun _ _ k => z_callV hB (rest := []) rfl rfl rfl T0.sb.1 T0.sb.2 k1 k) (fun hB => ?_)
  refine q_s hB (fun _ _ k => x_pop hB rfl k) (fun hB => ?_)
  refine q_s hB (fun _ _ k => z_aload hB rfl k) (fun hB => ?_)
  refine q_s hB (fun _ _ k => z_cst hB k) (fun hB => ?_)
  refine q_s hB (fun _ _ k => z_cst hB k) (fun hB => ?_)
  refine q_s hB (fun _ _ k => z_callV hB (rest := []) rfl rfl rfl D1.1.1 D1.1.2 k2 k) (fun hB => ?_)
  refine q_s hB (fun _ _ k => z_istore hB rfl rfl k) (fun hB => ?_)
  refine q_s hB (fun _ _ k => z_aload hB rfl k) (fun hB => ?_)
  refine q_s hB (fun _ _ k => z_callV hB (rest := []) rfl rfl rfl S2.1.1 S2.1.2 k3 k) (fun hB => ?_)
  exact q_r (z_reta hB) ⟨_, v9, rfl, S3, (c1.2.1.1.tr F2 (fun _ _ q => q) (fun _ _ q => q)).tr F3 (fun _ _ q => q) (fun _ _ q => q.elim), ((F3.R (Nat.lt_of_lt_of_le D1.1.1 F2.n) (fun q => q)).trans (congrFun R2 d)).trans c1.2.1.2, by omega⟩
