/-! the law's text(Desk), whole: by wip/gen/p64/j98n.py -/
theorem DK.fr {w w1 : ev_W} {d al ar ru na ro C N T : Nat} {fs : List Nat} (D : DK w d al ar ru na ro C N T fs) (F : FR (fun _ => False) w w1) : DK w1 d al ar ru na ro C N T fs := by
  obtain ⟨⟨d1, d2, d3⟩, ⟨r1, r2, r3, r4⟩, b, ⟨u1, u2⟩, ⟨o1, o2⟩, ⟨⟨n1, n2, n3⟩, n4⟩, A, f⟩ := D
  have hI := fun (x : Nat) (hx : x < w_n w) => F.I hx (fun q => q)
  have hR := fun (x : Nat) (hx : x < w_n w) => F.R hx (fun q => q)
  refine ⟨⟨⟨Nat.lt_of_lt_of_le d1.1 F.n, (F.K d1.1).trans d1.2⟩, ?_, ?_⟩, ⟨?_, ?_, ?_, ?_⟩, b, ⟨u1.fr F, fun c hc => ?_⟩, ⟨o1.fr F, fun c hc => ?_⟩, ⟨⟨Nat.lt_of_lt_of_le n1 F.n, (F.K n1).trans n2, (F.L n1).trans n3⟩, fun n hn => (n4 n hn).fr F (fun x q => q.elim) (congrFun (hR na n1) n)⟩, A.fr F (fun q => q) (fun _ q => q), fun x hx => (f x hx).fr F (fun x q => q.elim)⟩
  · rw [hI d d1.1]; exact d2
  · rw [hI d d1.1]; exact d3
  · rw [hR d d1.1]; exact r1
  · rw [hR d d1.1]; exact r2
  · rw [hR d d1.1]; exact r3
  · rw [hR d d1.1]; exact r4
  · rw [hI ru u1.1]; exact u2 c hc
  · rw [hI ro o1.1]; exact o2 c hc
theorem DK.df {w : ev_W} {d al ar ru na ro C N T : Nat} {fs : List Nat} (D : DK w d al ar ru na ro C N T fs) : DF w d al ar fs := ⟨D.1.1, D.2.1.2.2.2, D.2.2.2.2.2.2.1, D.2.2.1.2.2.2.1, fun f hf => (D.2.2.2.2.2.2.2 f hf).1⟩
/-- what the text says -/
def TXD (P W : Nat) (r : Nat → Nat) (vn : Nat → Nat → Nat) (o : Nat → Nat) (vf : Nat → Nat → Nat) (mf : Nat → Int32) (C N T F : Nat) : List Nat :=
  ((((((((((((zs_tx 20 ++ dg P) ++ xcol r C) ++ xnat vn N) ++ xtub o T) ++ xflg C vf mf F) ++ zs_tx 25) ++ dg W) ++ zs_tx 26) ++ dg 0) ++ zs_tx 27) ++ (if 2 ≤ F ∧ ¬ o 0 = 1 then ((zs_tx 26 ++ dg 1) ++ zs_tx 27) else [])) ++ zs_tx 28)
def TBD (P W : Nat) (r : Nat → Nat) (vn : Nat → Nat → Nat) (o : Nat → Nat) (vf : Nat → Nat → Nat) (mf : Nat → Int32) (C N T F : Nat) : Prop :=
  ((1 ≤ P ∧ P ≤ 4) ∧ W ≤ 9) ∧ (∀ c, c < C → r c ≤ 4) ∧ (∀ n, n < N → vn n 0 ≤ 7 ∧ (1 ≤ vn n 1 ∧ vn n 1 ≤ 16) ∧ vn n 2 ≤ 3) ∧ (∀ t, t < T → 1 ≤ o t ∧ o t ≤ 4) ∧ ∀ k, k < F → vf k 0 + 1 ≤ N ∧ vf k 2 ≤ 3 ∧ vf k 3 ≤ 5 ∧ ∃ m, 1 ≤ m ∧ m < 2 ^ C ∧ mf k = jn m
theorem n_text {G : z_G} {w : ev_W} (hl : G.2.2.stackTraces = false) {d al ar ru na ro C N T : Nat} {fs : List Nat} (D : DK w d al ar ru na ro C N T fs) (hll : w_l w = true) (hn : w_n w + 120 ≤ 999) : z_N G 159 [.ref d] w (fun v w9 => ∃ s v9 P W r vn o vf mf, v = some (.ref s) ∧ STR w9 s v9 (TXD P W r vn o vf mf C N T fs.length) ∧ TBD P W r vn o vf mf C N T fs.length ∧ FR (fun x => x = d ∨ x ∈ fs) w w9 ∧ w_R w9 d = w_R w d ∧ w_n w9 ≤ w_n w + 95) := by
  refine q_con hl (ml := 5) (by decide +kernel) rfl rfl ?_
  have q2 := zs_l9
  have dd := D.1.1.1
  obtain ⟨v1, w1, k1, rfl, b1, cap1, S1, F1, n1, c1⟩ := n_sb (w := w_nw w 18 4) hl (a := w_n w) (Nat.lt_succ_self _) (nw_K (w := w) (k := 18) (n := 4)) (by rw [nw_I0]) (k9 := 20) (by omega) hll (by show w_n w + 1 < 999; omega)
  have F0 : FR (fun _ => False) w (w_nw w 18 4) := FR_nw (by omega) (by omega)
  have G1 : FR (fun _ => False) w w1 := F0.tr F1 (fun _ _ q => q) (fun x hx q => by omega)
  have n1b : w_n w1 ≤ w_n w + 1 + 2 := n1
  have c1b : w_n w + 1 ≤ b1 := c1
  have l1 := G1.l.trans hll
  have T0 : TX (fun _ => False) w1 (w_n w) b1 w1 (zs_tx 20) 0 := ⟨⟨l1, S1.1, S1.2.1⟩, b1, cap1, S1, FR.rf, Or.inl rfl, Nat.le_refl _⟩
  have D1 := D.fr G1
  obtain ⟨⟨d1, d2, d3⟩, ⟨r1, r2, r3, r4⟩, ⟨bC, bN, bT, bF, hnd⟩, ⟨u1, u2⟩, ⟨o1, o2⟩, ⟨m1, m2⟩, A1, f1⟩ := D1
  have zP := jgr_z d2 (by omega)
  have zW := jgr_z d3 (by omega)
  have gP := dg_len (z_n (w_I w1 d 0))
  have gW := dg_len (z_n (w_I w1 d 2))
  have g0 := dg_len 0
  have xC := xcol_len (fun c => z_n (w_I w1 ru c)) C
  have xN := xnat_len (fun n j => z_n (w_I w1 ((w_R w1 na n).getD 0) j)) N
  have xT := xtub_len (fun c => z_n (w_I w1 ro c)) T
  have xF := xflg_len C bC.2 (fun k q => z_n (w_I w1 (fs.getD k 0) q)) (fun k => w_I w1 (fs.getD k 0) 1) fs.length
  obtain ⟨w2, k2, T2⟩ := t_I hl T0 (v := z_n (w_I w1 d 0)) (by omega) (by rw [zs_txl]; omega) (by omega)
  have hB : z_all [z_at 159 0 (zx_new 0 18 4 3), z_at 159 3 (zx_dup 3 4), z_is 159 4 (zf_lds 4 20 6), z_at 159 6 (zx_cI 6 173 1 9), z_is 159 9 (zf_aload 9 0 10), z_at 159 10 (zf_gi 10 8 0 13), z_is 159 13 (zf_cv 13 176 1 18 16), z_is 159 16 (zf_astore 16 1 17), z_is 159 17 (zf_cst 17 (jn 0) 18), z_is 159 18 (zf_istore 18 2 19)] = true := by decide +kernel
  refine q_s hB (fun _ _ k => x_new hB hll (by omega) k) (fun hB => ?_)
  refine q_s hB (fun _ _ k => x_dup hB rfl k) (fun hB => ?_)
  refine q_s hB (fun _ _ k => z_lds hB k) (fun hB => ?_)
  refine q_s hB (fun _ _ k => x_cI hB (rest := [.ref (w_n w)]) rfl rfl rfl (Nat.lt_succ_self _) k1 k) (fun hB => ?_)
  refine q_s hB (fun _ _ k => z_aload hB rfl k) (fun hB => ?_)
  refine q_s hB (fun _ _ k => x_geti hB d1.1 d1.2 k) (fun hB => ?_)
  rw [zP.1]
  refine q_s hB (fun _ _ k => z_callV hB (rest := []) rfl rfl rfl T0.sb.1 T0.sb.2 k2 k) (fun hB => ?_)
  refine q_s hB (fun _ _ k => z_astore hB rfl rfl k) (fun hB => ?_)
  refine q_s hB (fun _ _ k => z_cst hB k) (fun hB => ?_)
  refine q_s hB (fun _ _ k => z_istore hB rfl rfl k) (fun hB => ?_)
  refine n_tx1 hl d1 r1 u1 bC.2 u2 (l0 := zs_tx 20 ++ dg (z_n (w_I w1 d 0))) (B0 := 1) (by simp only [List.length_append, zs_txl]; omega) (by omega) C 0 (by omega) (by simp only [xcol, List.append_nil]; exact T2.mo (by omega)) (fun w3 T3 => ?_)
  have hB : z_all [z_is 159 50 (zf_cst 50 (jn 0) 51), z_is 159 51 (zf_istore 51 2 52)] = true := by decide +kernel
  refine q_s hB (fun _ _ k => z_cst hB k) (fun hB => ?_)
  refine q_s hB (fun _ _ k => z_istore hB rfl rfl k) (fun hB => ?_)
  refine n_tx2 hl d1 r3 m1 bN.2 m2 (l0 := (zs_tx 20 ++ dg (z_n (w_I w1 d 0))) ++ xcol (fun c => z_n (w_I w1 ru c)) C) (B0 := 1 + 2 * C) (by simp only [List.length_append, zs_txl]; omega) (by omega) N 0 (by omega) (by simp only [xnat, List.append_nil]; exact T3.mo (by omega)) (fun w4 T4 => ?_)
  have hB : z_all [z_is 159 117 (zf_cst 117 (jn 0) 118), z_is 159 118 (zf_istore 118 2 119)] = true := by decide +kernel
  refine q_s hB (fun _ _ k => z_cst hB k) (fun hB => ?_)
  refine q_s hB (fun _ _ k => z_istore hB rfl rfl k) (fun hB => ?_)
  refine n_tx3 hl d1 r2 o1 (by omega) o2 (l0 := ((zs_tx 20 ++ dg (z_n (w_I w1 d 0))) ++ xcol (fun c => z_n (w_I w1 ru c)) C) ++ xnat (fun n j => z_n (w_I w1 ((w_R w1 na n).getD 0) j)) N) (B0 := 1 + 2 * C + 6 * N) (by simp only [List.length_append, zs_txl]; omega) (by omega) T 0 (by omega) (by simp only [xtub, List.append_nil]; exact T4.mo (by omega)) (fun w5 T5 => ?_)
  have hB : z_all [z_is 159 150 (zf_cst 150 (jn 0) 151), z_is 159 151 (zf_istore 151 2 152)] = true := by decide +kernel
  refine q_s hB (fun _ _ k => z_cst hB k) (fun hB => ?_)
  refine q_s hB (fun _ _ k => z_istore hB rfl rfl k) (fun hB => ?_)
  refine n_tx4 hl d1 r1 r4 u1 bC.2 bN.2 A1 bF f1 (l0 := (((zs_tx 20 ++ dg (z_n (w_I w1 d 0))) ++ xcol (fun c => z_n (w_I w1 ru c)) C) ++ xnat (fun n j => z_n (w_I w1 ((w_R w1 na n).getD 0) j)) N) ++ xtub (fun c => z_n (w_I w1 ro c)) T) (B0 := 1 + 2 * C + 6 * N + 2 * T) (by simp only [List.length_append, zs_txl]; omega) (by omega) fs.length 0 (by omega) (by simp only [xflg, List.append_nil]; exact T5.mo (by omega)) (fun w6 y3 y4 T6 => ?_)
  obtain ⟨w7, k7, T7⟩ := t_S hl T6 (k9 := 25) (by omega) (by simp only [List.length_append, zs_txl]; omega) (by omega)
  obtain ⟨w8, k8, T8⟩ := t_I hl T7 (v := z_n (w_I w1 d 2)) (by omega) (by simp only [List.length_append, zs_txl]; omega) (by omega)
  have E7 := T7.E0 d1.1 d1.2 (by omega)
  have hB : z_all [z_is 159 263 (zf_aload 263 1 264), z_is 159 264 (zf_lds 264 25 266), z_is 159 266 (zf_cv 266 174 1 18 269), z_is 159 269 (zf_aload 269 0 270), z_at 159 270 (zf_gi 270 8 2 273), z_is 159 273 (zf_cv 273 176 1 18 276), z_at 159 276 (zx_pop 276 277), z_is 159 277 (zf_cst 277 (jn 0) 278), z_is 159 278 (zf_istore 278 2 279)] = true := by decide +kernel
  refine q_s hB (fun _ _ k => z_aload hB rfl k) (fun hB => ?_)
  refine q_s hB (fun _ _ k => z_lds hB k) (fun hB => ?_)
  refine q_s hB (fun _ _ k => z_callV hB (rest := []) rfl rfl rfl T6.sb.1 T6.sb.2 k7 k) (fun hB => ?_)
  refine q_s hB (fun _ _ k => z_aload hB rfl k) (fun hB => ?_)
  refine q_s hB (fun _ _ k => x_geti hB E7.1.1 E7.1.2 k) (fun hB => ?_)
  rw [E7.2.2.1, zW.1]
  refine q_s hB (fun _ _ k => z_callV hB (rest := []) rfl rfl rfl T7.sb.1 T7.sb.2 k8 k) (fun hB => ?_)
  refine q_s hB (fun _ _ k => x_pop hB rfl k) (fun hB => ?_)
  refine q_s hB (fun _ _ k => z_cst hB k) (fun hB => ?_)
  refine q_s hB (fun _ _ k => z_istore hB rfl rfl k) (fun hB => ?_)
  have T9 := T8
  obtain ⟨-, b8, cap8, S8, F8, e8, n8⟩ := T8
  have G8 : FR (fun _ => False) w w8 := G1.tr F8 (fun _ _ q => q) (fun x hx q => by rcases q with (q | q) | q; omega; omega; exact q)
  have dw := D.1.1
  have zR := jgr_z (o2 0 (by omega)) (by omega)
  have iro : w_I w8 ro = w_I w1 ro := (G8.I D.2.2.2.2.1.1.1 (fun q => q)).trans (G1.I D.2.2.2.2.1.1.1 (fun q => q)).symm
  have PT0 : PT w d al ar ru ro (w_n w) fs C T (z_n (w_I w1 ro 0)) (fun _ => jg 1) w8 ((((((((zs_tx 20 ++ dg (z_n (w_I w1 d 0))) ++ xcol (fun c => z_n (w_I w1 ru c)) C) ++ xnat (fun n j => z_n (w_I w1 ((w_R w1 na n).getD 0) j)) N) ++ xtub (fun c => z_n (w_I w1 ro c)) T) ++ xflg C (fun k q => z_n (w_I w1 (fs.getD k 0) q)) (fun k => w_I w1 (fs.getD k 0) 1) fs.length) ++ zs_tx 25) ++ dg (z_n (w_I w1 d 2)))) 86 := by
    have hRd := G8.R dw.1 (fun q => q)
    refine ⟨⟨⟨G8.l.trans hll, by omega, Nat.le_refl _⟩, ⟨G8.mo (fun _ _ q => q.elim), hRd⟩, D.df.fr G8 (fun x _ q => q.elim), ⟨(congrFun hRd 8).trans D.2.1.1, D.2.2.2.1.1.fr G8, (congrFun hRd 9).trans D.2.1.2.1, D.2.2.2.2.1.1.fr G8, (congrFun iro 0).trans zR.1⟩, fun k hk => ?_⟩, b8, cap8, ?_, S8⟩
    · have hf := D.2.2.2.2.2.2.2 _ (gdm hk)
      rw [G8.I hf.1.1 (fun q => q)]
      exact hf.2.2.2.2.2
    · rcases e8 with e8 | e8
      · omega
      · have := G1.n; omega
  refine n_puts hl (tb := fun _ => jg 1) hnd bT.1 ⟨zR.2.1, zR.2.2⟩ PT0 (by simp only [List.length_append, zs_txl]; omega) (by omega) (fun w9 y9 T10 => ?_)
  have hif : (if 2 ≤ fs.length ∧ ¬ z_n (w_I w1 ro 0) = 1 then ((zs_tx 26 ++ dg 1) ++ zs_tx 27) else []).length ≤ 9 := by
    have g1 := dg_len 1
    split
    · simp only [List.length_append, zs_txl]; omega
    · exact Nat.zero_le _
  obtain ⟨v10, w10, h10, s10, x10, rfl, S10, F10, R10, n10⟩ := n_pend hl (P := fun _ _ => True) bC.2 T10 (by simp only [List.length_append, zs_txl]; omega) (by omega)
  refine ⟨_, w10, h10, s10, x10, z_n (w_I w1 d 0), z_n (w_I w1 d 2), fun c => z_n (w_I w1 ru c), fun n j => z_n (w_I w1 ((w_R w1 na n).getD 0) j), fun c => z_n (w_I w1 ro c), fun k q => z_n (w_I w1 (fs.getD k 0) q), fun k => w_I w1 (fs.getD k 0) 1, rfl, S10, ⟨⟨zP.2, zW.2.2⟩, fun c hc => (jgr_z (u2 c hc) (by omega)).2.2, fun n hn9 => ?_, fun t ht => (jgr_z (o2 t ht) (by omega)).2, fun k hk => ?_⟩, F10, R10, by omega⟩
  · obtain ⟨r, e1, -, j1, j2, j3⟩ := m2 n hn9
    show z_n (w_I w1 ((w_R w1 na n).getD 0) 0) ≤ 7 ∧ (1 ≤ z_n (w_I w1 ((w_R w1 na n).getD 0) 1) ∧ z_n (w_I w1 ((w_R w1 na n).getD 0) 1) ≤ 16) ∧ z_n (w_I w1 ((w_R w1 na n).getD 0) 2) ≤ 3
    rw [e1]
    exact ⟨(jgr_z j1 (by omega)).2.2, (jgr_z j2 (by omega)).2, (jgr_z j3 (by omega)).2.2⟩
  · have hf := f1 _ (gdm hk)
    have j0 := jgr_z hf.2.1 (by omega)
    obtain ⟨m, h1, h2, h3⟩ := hf.2.2.1
    exact ⟨by show z_n (w_I w1 (fs.getD k 0) 0) + 1 ≤ N; omega, (jgr_z hf.2.2.2.1 (by omega)).2.2, (jgr_z hf.2.2.2.2.1 (by omega)).2.2, m, h1, by omega, h3⟩
