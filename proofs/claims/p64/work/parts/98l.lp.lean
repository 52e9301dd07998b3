/-! the law's text(Desk): its loops: by wip/gen/p64/j98k.py -/
theorem TX.mo {Y : Nat → Prop} {w0 w : ev_W} {a b0 B B2 : Nat} {l : List Nat} (T : TX Y w0 a b0 w l B) (h : B ≤ B2) : TX Y w0 a b0 w l B2 := by
  obtain ⟨h0, b, cap, S, F, d, n⟩ := T
  exact ⟨h0, b, cap, S, F, d, by omega⟩
theorem n_tx1 {G : z_G} (hl : G.2.2.stackTraces = false) {P : Option Value → ev_W → Prop} {w0 : ev_W} {a b0 d ru C B0 : Nat} {l0 : List Nat} {x3 x4 : Option Value} (hd : d < w_n w0 ∧ w_K w0 d = 8) (hr : w_R w0 d 8 = some ru) (hR : RWs w0 ru C) (hC : C ≤ 4) (hv : ∀ c, c < C → jgr (w_I w0 ru c) 0 4) (h300 : l0.length + 10 * C ≤ 300) (hB : w_n w0 + B0 + 2 * C < 999) : ∀ (k i : Nat) {w : ev_W}, i + k = C → TX (fun _ => False) w0 a b0 w (l0 ++ xcol (fun c => z_n (w_I w0 ru c)) i) (B0 + 2 * i) → (∀ w', TX (fun _ => False) w0 a b0 w' (l0 ++ xcol (fun c => z_n (w_I w0 ru c)) C) (B0 + 2 * C) → z_Q G 159 50 [some (.ref d), some (.ref a), some (.int (jn C)), x3, x4] [] w' P) → z_Q G 159 19 [some (.ref d), some (.ref a), some (.int (jn i)), x3, x4] [] w P := by
  intro k
  induction k with
  | zero =>
    intro i w e T fin
    have e2 : i = C := by omega
    have Ed := T.E0 hd.1 hd.2 (by omega)
    have Er := T.E0 hR.1 hR.2.1 (by omega)
    have hrd : w_R w d 8 = some ru := by rw [Ed.2.2.2]; exact hr
    have hB : z_all [z_is 159 19 (zf_iload 19 2 20), z_is 159 20 (zf_aload 20 0 21), z_at 159 21 (zf_gr 21 8 8 24), z_at 159 24 (zx_alen 24 25), z_is 159 25 (zf_if2 .ge 25 50 28)] = true := by decide +kernel
    refine q_s hB (fun _ _ k => z_iload hB rfl k) (fun hB => ?_)
    refine q_s hB (fun _ _ k => z_aload hB rfl k) (fun hB => ?_)
    refine q_s hB (fun _ _ k => x_getr hB Ed.1.1 Ed.1.2 hrd k) (fun hB => ?_)
    refine q_s hB (fun _ _ k => x_alen hB Er.1.1 (by rw [Er.1.2]; omega) (by rw [Er.1.2]; omega) k) (fun hB => ?_)
    rw [Er.2.1, hR.2.2, show Int32.ofNat C = jn C from rfl]
    refine q_s hB (fun _ _ k => z_ic_ge hB (fun _ => k) (fun h _ => absurd h ((by rw [jn_lt (by omega) (by omega)]; omega)))) (fun hB => ?_)
    rw [e2]
    exact fin w (by rw [← e2]; exact T)
  | succ k ih =>
    intro i w e T fin
    have Ed := T.E0 hd.1 hd.2 (by omega)
    have Er := T.E0 hR.1 hR.2.1 (by omega)
    have hrd : w_R w d 8 = some ru := by rw [Ed.2.2.2]; exact hr
    have hz := jgr_z (hv i (by omega)) (by omega)
    have q1 := xcol_len (fun c => z_n (w_I w0 ru c)) i
    have q2 := zs_l9
    have q3 := T.n
    obtain ⟨w5, k5, T5⟩ := t_S hl T (k9 := 21) (by omega) (by rw [List.length_append]; omega) (by omega)
    obtain ⟨w6, k6, T6⟩ := t_I hl T5 (v := z_n (w_I w0 ru i)) (by omega) (by rw [List.length_append, List.length_append, zs_txl]; omega) (by omega)
    have Ed5 := T5.E0 hd.1 hd.2 (by omega)
    have Er5 := T5.E0 hR.1 hR.2.1 (by omega)
    have hrd5 : w_R w5 d 8 = some ru := by rw [Ed5.2.2.2]; exact hr
    have hB : z_all [z_is 159 19 (zf_iload 19 2 20), z_is 159 20 (zf_aload 20 0 21), z_at 159 21 (zf_gr 21 8 8 24), z_at 159 24 (zx_alen 24 25), z_is 159 25 (zf_if2 .ge 25 50 28), z_is 159 28 (zf_aload 28 1 29), z_is 159 29 (zf_lds 29 21 31), z_is 159 31 (zf_cv 31 174 1 18 34), z_is 159 34 (zf_aload 34 0 35), z_at 159 35 (zf_gr 35 8 8 38), z_is 159 38 (zf_iload 38 2 39), z_at 159 39 (zx_iald 39 40), z_is 159 40 (zf_cv 40 176 1 18 43), z_at 159 43 (zx_pop 43 44), z_is 159 44 (zf_iinc 44 2 (jn 1) 47), z_is 159 47 (zf_goto 47 19)] = true := by decide +kernel
    refine q_s hB (fun _ _ k => z_iload hB rfl k) (fun hB => ?_)
    refine q_s hB (fun _ _ k => z_aload hB rfl k) (fun hB => ?_)
    refine q_s hB (fun _ _ k => x_getr hB Ed.1.1 Ed.1.2 hrd k) (fun hB => ?_)
    refine q_s hB (fun _ _ k => x_alen hB Er.1.1 (by rw [Er.1.2]; omega) (by rw [Er.1.2]; omega) k) (fun hB => ?_)
    rw [Er.2.1, hR.2.2, show Int32.ofNat C = jn C from rfl]
    refine q_s hB (fun _ _ k => z_ic_ge hB (fun h _ => absurd ((by rw [jn_lt (by omega) (by omega)]; omega)) h) (fun _ => k)) (fun hB => ?_)
    refine q_s hB (fun _ _ k => z_aload hB rfl k) (fun hB => ?_)
    refine q_s hB (fun _ _ k => z_lds hB k) (fun hB => ?_)
    refine q_s hB (fun _ _ k => z_callV hB (rest := []) rfl rfl rfl T.sb.1 T.sb.2 k5 k) (fun hB => ?_)
    refine q_s hB (fun _ _ k => z_aload hB rfl k) (fun hB => ?_)
    refine q_s hB (fun _ _ k => x_getr hB Ed5.1.1 Ed5.1.2 hrd5 k) (fun hB => ?_)
    refine q_s hB (fun _ _ k => z_iload hB rfl k) (fun hB => ?_)
    refine q_s hB (fun _ _ k => x_iald hB Er5.1.1 Er5.1.2 (by rw [Er5.2.1, hR.2.2]; exact jn_ok (by omega) (by omega)) k) (fun hB => ?_)
    rw [jn_n (by omega), Er5.2.2.1, hz.1]
    refine q_s hB (fun _ _ k => z_callV hB (rest := []) rfl rfl rfl T5.sb.1 T5.sb.2 k6 k) (fun hB => ?_)
    refine q_s hB (fun _ _ k => x_pop hB rfl k) (fun hB => ?_)
    refine q_s hB (fun _ _ k => z_iinc hB rfl rfl k) (fun hB => ?_)
    rw [jn_add]
    refine q_s hB (fun _ _ k => z_goto hB k) (fun hB => ?_)
    refine ih (i + 1) (by omega) ?_ fin
    rw [List.append_assoc, List.append_assoc] at T6
    exact T6.mo (by omega)
theorem n_tx3 {G : z_G} (hl : G.2.2.stackTraces = false) {P : Option Value → ev_W → Prop} {w0 : ev_W} {a b0 d ru C B0 : Nat} {l0 : List Nat} {x3 x4 : Option Value} (hd : d < w_n w0 ∧ w_K w0 d = 8) (hr : w_R w0 d 9 = some ru) (hR : RWs w0 ru C) (hC : C ≤ 4) (hv : ∀ c, c < C → jgr (w_I w0 ru c) 1 4) (h300 : l0.length + 10 * C ≤ 300) (hB : w_n w0 + B0 + 2 * C < 999) : ∀ (k i : Nat) {w : ev_W}, i + k = C → TX (fun _ => False) w0 a b0 w (l0 ++ xtub (fun c => z_n (w_I w0 ru c)) i) (B0 + 2 * i) → (∀ w', TX (fun _ => False) w0 a b0 w' (l0 ++ xtub (fun c => z_n (w_I w0 ru c)) C) (B0 + 2 * C) → z_Q G 159 150 [some (.ref d), some (.ref a), some (.int (jn C)), x3, x4] [] w' P) → z_Q G 159 119 [some (.ref d), some (.ref a), some (.int (jn i)), x3, x4] [] w P := by
  intro k
  induction k with
  | zero =>
    intro i w e T fin
    have e2 : i = C := by omega
    have Ed := T.E0 hd.1 hd.2 (by omega)
    have Er := T.E0 hR.1 hR.2.1 (by omega)
    have hrd : w_R w d 9 = some ru := by rw [Ed.2.2.2]; exact hr
    have hB : z_all [z_is 159 119 (zf_iload 119 2 120), z_is 159 120 (zf_aload 120 0 121), z_at 159 121 (zf_gr 121 8 9 124), z_at 159 124 (zx_alen 124 125), z_is 159 125 (zf_if2 .ge 125 150 128)] = true := by decide +kernel
    refine q_s hB (fun _ _ k => z_iload hB rfl k) (fun hB => ?_)
    refine q_s hB (fun _ _ k => z_aload hB rfl k) (fun hB => ?_)
    refine q_s hB (fun _ _ k => x_getr hB Ed.1.1 Ed.1.2 hrd k) (fun hB => ?_)
    refine q_s hB (fun _ _ k => x_alen hB Er.1.1 (by rw [Er.1.2]; omega) (by rw [Er.1.2]; omega) k) (fun hB => ?_)
    rw [Er.2.1, hR.2.2, show Int32.ofNat C = jn C from rfl]
    refine q_s hB (fun _ _ k => z_ic_ge hB (fun _ => k) (fun h _ => absurd h ((by rw [jn_lt (by omega) (by omega)]; omega)))) (fun hB => ?_)
    rw [e2]
    exact fin w (by rw [← e2]; exact T)
  | succ k ih =>
    intro i w e T fin
    have Ed := T.E0 hd.1 hd.2 (by omega)
    have Er := T.E0 hR.1 hR.2.1 (by omega)
    have hrd : w_R w d 9 = some ru := by rw [Ed.2.2.2]; exact hr
    have hz := jgr_z (hv i (by omega)) (by omega)
    have q1 := xtub_len (fun c => z_n (w_I w0 ru c)) i
    have q2 := zs_l9
    have q3 := T.n
    obtain ⟨w5, k5, T5⟩ := t_S hl T (k9 := 23) (by omega) (by rw [List.length_append]; omega) (by omega)
    obtain ⟨w6, k6, T6⟩ := t_I hl T5 (v := z_n (w_I w0 ru i)) (by omega) (by rw [List.length_append, List.length_append, zs_txl]; omega) (by omega)
    have Ed5 := T5.E0 hd.1 hd.2 (by omega)
    have Er5 := T5.E0 hR.1 hR.2.1 (by omega)
    have hrd5 : w_R w5 d 9 = some ru := by rw [Ed5.2.2.2]; exact hr
    have hB : z_all [z_is 159 119 (zf_iload 119 2 120), z_is 159 120 (zf_aload 120 0 121), z_at 159 121 (zf_gr 121 8 9 124), z_at 159 124 (zx_alen 124 125), z_is 159 125 (zf_if2 .ge 125 150 128), z_is 159 128 (zf_aload 128 1 129), z_is 159 129 (zf_lds 129 23 131), z_is 159 131 (zf_cv 131 174 1 18 134), z_is 159 134 (zf_aload 134 0 135), z_at 159 135 (zf_gr 135 8 9 138), z_is 159 138 (zf_iload 138 2 139), z_at 159 139 (zx_iald 139 140), z_is 159 140 (zf_cv 140 176 1 18 143), z_at 159 143 (zx_pop 143 144), z_is 159 144 (zf_iinc 144 2 (jn 1) 147), z_is 159 147 (zf_goto 147 119)] = true := by decide +kernel
    refine q_s hB (fun _ _ k => z_iload hB rfl k) (fun hB => ?_)
    refine q_s hB (fun _ _ k => z_aload hB rfl k) (fun hB => ?_)
    refine q_s hB (fun _ _ k => x_getr hB Ed.1.1 Ed.1.2 hrd k) (fun hB => ?_)
    refine q_s hB (fun _ _ k => x_alen hB Er.1.1 (by rw [Er.1.2]; omega) (by rw [Er.1.2]; omega) k) (fun hB => ?_)
    rw [Er.2.1, hR.2.2, show Int32.ofNat C = jn C from rfl]
    refine q_s hB (fun _ _ k => z_ic_ge hB (fun h _ => absurd ((by rw [jn_lt (by omega) (by omega)]; omega)) h) (fun _ => k)) (fun hB => ?_)
    refine q_s hB (fun _ _ k => z_aload hB rfl k) (fun hB => ?_)
    refine q_s hB (fun _ _ k => z_lds hB k) (fun hB => ?_)
    refine q_s hB (fun _ _ k => z_callV hB (rest := []) rfl rfl rfl T.sb.1 T.sb.2 k5 k) (fun hB => ?_)
    refine q_s hB (fun _ _ k => z_aload hB rfl k) (fun hB => ?_)
    refine q_s hB (fun _ _ k => x_getr hB Ed5.1.1 Ed5.1.2 hrd5 k) (fun hB => ?_)
    refine q_s hB (fun _ _ k => z_iload hB rfl k) (fun hB => ?_)
    refine q_s hB (fun _ _ k => x_iald hB Er5.1.1 Er5.1.2 (by rw [Er5.2.1, hR.2.2]; exact jn_ok (by omega) (by omega)) k) (fun hB => ?_)
    rw [jn_n (by omega), Er5.2.2.1, hz.1]
    refine q_s hB (fun _ _ k => z_callV hB (rest := []) rfl rfl rfl T5.sb.1 T5.sb.2 k6 k) (fun hB => ?_)
    refine q_s hB (fun _ _ k => x_pop hB rfl k) (fun hB => ?_)
    refine q_s hB (fun _ _ k => z_iinc hB rfl rfl k) (fun hB => ?_)
    rw [jn_add]
    refine q_s hB (fun _ _ k => z_goto hB k) (fun hB => ?_)
    refine ih (i + 1) (by omega) ?_ fin
    rw [List.append_assoc, List.append_assoc] at T6
    exact T6.mo (by omega)
theorem n_tx2 {G : z_G} (hl : G.2.2.stackTraces = false) {P : Option Value → ev_W → Prop} {w0 : ev_W} {a b0 d na C B0 : Nat} {l0 : List Nat} {x3 x4 : Option Value} (hd : d < w_n w0 ∧ w_K w0 d = 8) (hr : w_R w0 d 10 = some na) (hN : na < w_n w0 ∧ w_K w0 na = 20 ∧ w_L w0 na = C) (hC : C ≤ 2) (hv : ∀ n, n < C → NR w0 na n) (h300 : l0.length + 16 * C ≤ 300) (hB : w_n w0 + B0 + 6 * C < 999) : ∀ (k i : Nat) {w : ev_W}, i + k = C → TX (fun _ => False) w0 a b0 w (l0 ++ xnat (fun n j => z_n (w_I w0 ((w_R w0 na n).getD 0) j)) i) (B0 + 6 * i) → (∀ w', TX (fun _ => False) w0 a b0 w' (l0 ++ xnat (fun n j => z_n (w_I w0 ((w_R w0 na n).getD 0) j)) C) (B0 + 6 * C) → z_Q G 159 117 [some (.ref d), some (.ref a), some (.int (jn C)), x3, x4] [] w' P) → z_Q G 159 52 [some (.ref d), some (.ref a), some (.int (jn i)), x3, x4] [] w P := by
  intro k
  induction k with
  | zero =>
    intro i w e T fin
    have e2 : i = C := by omega
    have Ed := T.E0 hd.1 hd.2 (by omega)
    have Er := T.E0 hN.1 hN.2.1 (by omega)
    have hrd : w_R w d 10 = some na := by rw [Ed.2.2.2]; exact hr
    have hB : z_all [z_is 159 52 (zf_iload 52 2 53), z_is 159 53 (zf_aload 53 0 54), z_at 159 54 (zf_gr 54 8 10 57), z_at 159 57 (zx_alen2 57 58), z_is 159 58 (zf_if2 .ge 58 117 61)] = true := by decide +kernel
    refine q_s hB (fun _ _ k => z_iload hB rfl k) (fun hB => ?_)
    refine q_s hB (fun _ _ k => z_aload hB rfl k) (fun hB => ?_)
    refine q_s hB (fun _ _ k => x_getr hB Ed.1.1 Ed.1.2 hrd k) (fun hB => ?_)
    refine q_s hB (fun _ _ k => x_alen2 hB Er.1.1 Er.1.2 k) (fun hB => ?_)
    rw [Er.2.1, hN.2.2, show Int32.ofNat C = jn C from rfl]
    refine q_s hB (fun _ _ k => z_ic_ge hB (fun _ => k) (fun h _ => absurd h ((by rw [jn_lt (by omega) (by omega)]; omega)))) (fun hB => ?_)
    rw [e2]
    exact fin w (by rw [← e2]; exact T)
  | succ k ih =>
    intro i w e T fin
    have Ed := T.E0 hd.1 hd.2 (by omega)
    have Er := T.E0 hN.1 hN.2.1 (by omega)
    have hrd : w_R w d 10 = some na := by rw [Ed.2.2.2]; exact hr
    obtain ⟨r, r1, r2, r3, r4, r5⟩ := hv i (by omega)
    have z0 := jgr_z r3 (by omega)
    have z1 := jgr_z r4 (by omega)
    have z2 := jgr_z r5 (by omega)
    have q1 := xnat_len (fun n j => z_n (w_I w0 ((w_R w0 na n).getD 0) j)) i
    have q2 := zs_l9
    have d0 := dg_len (z_n (w_I w0 r 0))
    have d1 := dg_len (z_n (w_I w0 r 1))
    obtain ⟨w1, k1, T1⟩ := t_S hl T (k9 := 22) (by omega) (by simp only [List.length_append]; omega) (by omega)
    obtain ⟨w2, k2, T2⟩ := t_I hl T1 (v := z_n (w_I w0 r 0)) (by omega) (by simp only [List.length_append, zs_txl]; omega) (by omega)
    obtain ⟨w3, k3, T3⟩ := t_C hl T2 (by simp only [List.length_append, zs_txl]; omega) (by omega)
    obtain ⟨w4, k4, T4⟩ := t_I hl T3 (v := z_n (w_I w0 r 1)) (by omega) (by simp only [List.length_append, zs_txl, List.length_cons, List.length_nil]; omega) (by omega)
    obtain ⟨w5, k5, T5⟩ := t_C hl T4 (by simp only [List.length_append, zs_txl, List.length_cons, List.length_nil]; omega) (by omega)
    obtain ⟨w6, k6, T6⟩ := t_I hl T5 (v := z_n (w_I w0 r 2)) (by omega) (by simp only [List.length_append, zs_txl, List.length_cons, List.length_nil]; omega) (by omega)
    have E1 := T1.E0 hd.1 hd.2 (by omega)
    have N1 := T1.E0 hN.1 hN.2.1 (by omega)
    have R1 := T1.E0 r2.1 r2.2.1 (by omega)
    have h1 : w_R w1 d 10 = some na := by rw [E1.2.2.2]; exact hr
    have E3 := T3.E0 hd.1 hd.2 (by omega)
    have N3 := T3.E0 hN.1 hN.2.1 (by omega)
    have R3 := T3.E0 r2.1 r2.2.1 (by omega)
    have h3 : w_R w3 d 10 = some na := by rw [E3.2.2.2]; exact hr
    have E5 := T5.E0 hd.1 hd.2 (by omega)
    have N5 := T5.E0 hN.1 hN.2.1 (by omega)
    have R5 := T5.E0 r2.1 r2.2.1 (by omega)
    have h5 : w_R w5 d 10 = some na := by rw [E5.2.2.2]; exact hr
    have hB : z_all [z_is 159 52 (zf_iload 52 2 53), z_is 159 53 (zf_aload 53 0 54), z_at 159 54 (zf_gr 54 8 10 57), z_at 159 57 (zx_alen2 57 58), z_is 159 58 (zf_if2 .ge 58 117 61), z_is 159 61 (zf_aload 61 1 62), z_is 159 62 (zf_lds 62 22 64), z_is 159 64 (zf_cv 64 174 1 18 67), z_is 159 67 (zf_aload 67 0 68), z_at 159 68 (zf_gr 68 8 10 71), z_is 159 71 (zf_iload 71 2 72), z_at 159 72 (zx_aald 72 73), z_is 159 73 (zf_cst 73 (jn 0) 74), z_at 159 74 (zx_iald 74 75), z_is 159 75 (zf_cv 75 176 1 18 78), z_is 159 78 (zf_cst 78 (jn 32) 80), z_is 159 80 (zf_cv 80 175 1 18 83), z_is 159 83 (zf_aload 83 0 84), z_at 159 84 (zf_gr 84 8 10 87), z_is 159 87 (zf_iload 87 2 88), z_at 159 88 (zx_aald 88 89), z_is 159 89 (zf_cst 89 (jn 1) 90), z_at 159 90 (zx_iald 90 91), z_is 159 91 (zf_cv 91 176 1 18 94), z_is 159 94 (zf_cst 94 (jn 32) 96), z_is 159 96 (zf_cv 96 175 1 18 99), z_is 159 99 (zf_aload 99 0 100), z_at 159 100 (zf_gr 100 8 10 103), z_is 159 103 (zf_iload 103 2 104), z_at 159 104 (zx_aald 104 105), z_is 159 105 (zf_cst 105 (jn 2) 106), z_at 159 106 (zx_iald 106 107), z_is 159 107 (zf_cv 107 176 1 18 110), z_at 159 110 (zx_pop 110 111), z_is 159 111 (zf_iinc 111 2 (jn 1) 114), z_is 159 114 (zf_goto 114 52)] = true := by decide +kernel
    refine q_s hB (fun _ _ k => z_iload hB rfl k) (fun hB => ?_)
    refine q_s hB (fun _ _ k => z_aload hB rfl k) (fun hB => ?_)
    refine q_s hB (fun _ _ k => x_getr hB Ed.1.1 Ed.1.2 hrd k) (fun hB => ?_)
    refine q_s hB (fun _ _ k => x_alen2 hB Er.1.1 Er.1.2 k) (fun hB => ?_)
    rw [Er.2.1, hN.2.2, show Int32.ofNat C = jn C from rfl]
    refine q_s hB (fun _ _ k => z_ic_ge hB (fun h _ => absurd ((by rw [jn_lt (by omega) (by omega)]; omega)) h) (fun _ => k)) (fun hB => ?_)
    refine q_s hB (fun _ _ k => z_aload hB rfl k) (fun hB => ?_)
    refine q_s hB (fun _ _ k => z_lds hB k) (fun hB => ?_)
    refine q_s hB (fun _ _ k => z_callV hB (rest := []) rfl rfl rfl T.sb.1 T.sb.2 k1 k) (fun hB => ?_)
    refine q_s hB (fun _ _ k => z_aload hB rfl k) (fun hB => ?_)
    refine q_s hB (fun _ _ k => x_getr hB E1.1.1 E1.1.2 h1 k) (fun hB => ?_)
    refine q_s hB (fun _ _ k => z_iload hB rfl k) (fun hB => ?_)
    refine q_s hB (fun _ _ k => x_aald hB (b := r) N1.1.1 N1.1.2 (Or.inr rfl) (by rw [N1.2.1, hN.2.2]; exact jn_ok (by omega) (by omega)) (by rw [jn_n (by omega), N1.2.2.2]; exact r1) k) (fun hB => ?_)
    refine q_s hB (fun _ _ k => z_cst hB k) (fun hB => ?_)
    refine q_s hB (fun _ _ k => x_iald hB R1.1.1 R1.1.2 (by rw [R1.2.1, r2.2.2]; exact jn_ok (by omega) (by omega)) k) (fun hB => ?_)
    rw [jn_n (by omega), R1.2.2.1, z0.1]
    refine q_s hB (fun _ _ k => z_callV hB (rest := []) rfl rfl rfl T1.sb.1 T1.sb.2 k2 k) (fun hB => ?_)
    refine q_s hB (fun _ _ k => z_cst hB k) (fun hB => ?_)
    refine q_s hB (fun _ _ k => z_callV hB (rest := []) rfl rfl rfl T2.sb.1 T2.sb.2 k3 k) (fun hB => ?_)
    refine q_s hB (fun _ _ k => z_aload hB rfl k) (fun hB => ?_)
    refine q_s hB (fun _ _ k => x_getr hB E3.1.1 E3.1.2 h3 k) (fun hB => ?_)
    refine q_s hB (fun _ _ k => z_iload hB rfl k) (fun hB => ?_)
    refine q_s hB (fun _ _ k => x_aald hB (b := r) N3.1.1 N3.1.2 (Or.inr rfl) (by rw [N3.2.1, hN.2.2]; exact jn_ok (by omega) (by omega)) (by rw [jn_n (by omega), N3.2.2.2]; exact r1) k) (fun hB => ?_)
    refine q_s hB (fun _ _ k => z_cst hB k) (fun hB => ?_)
    refine q_s hB (fun _ _ k => x_iald hB R3.1.1 R3.1.2 (by rw [R3.2.1, r2.2.2]; exact jn_ok (by omega) (by omega)) k) (fun hB => ?_)
    rw [jn_n (by omega), R3.2.2.1, z1.1]
    refine q_s hB (fun _ _ k => z_callV hB (rest := []) rfl rfl rfl T3.sb.1 T3.sb.2 k4 k) (fun hB => ?_)
    refine q_s hB (fun _ _ k => z_cst hB k) (fun hB => ?_)
    refine q_s hB (fun _ _ k => z_callV hB (rest := []) rfl rfl rfl T4.sb.1 T4.sb.2 k5 k) (fun hB => ?_)
    refine q_s hB (fun _ _ k => z_aload hB rfl k) (fun hB => ?_)
    refine q_s hB (fun _ _ k => x_getr hB E5.1.1 E5.1.2 h5 k) (fun hB => ?_)
    refine q_s hB (fun _ _ k => z_iload hB rfl k) (fun hB => ?_)
    refine q_s hB (fun _ _ k => x_aald hB (b := r) N5.1.1 N5.1.2 (Or.inr rfl) (by rw [N5.2.1, hN.2.2]; exact jn_ok (by omega) (by omega)) (by rw [jn_n (by omega), N5.2.2.2]; exact r1) k) (fun hB => ?_)
    refine q_s hB (fun _ _ k => z_cst hB k) (fun hB => ?_)
    refine q_s hB (fun _ _ k => x_iald hB R5.1.1 R5.1.2 (by rw [R5.2.1, r2.2.2]; exact jn_ok (by omega) (by omega)) k) (fun hB => ?_)
    rw [jn_n (by omega), R5.2.2.1, z2.1]
    refine q_s hB (fun _ _ k => z_callV hB (rest := []) rfl rfl rfl T5.sb.1 T5.sb.2 k6 k) (fun hB => ?_)
    refine q_s hB (fun _ _ k => x_pop hB rfl k) (fun hB => ?_)
    refine q_s hB (fun _ _ k => z_iinc hB rfl rfl k) (fun hB => ?_)
    rw [jn_add]
    refine q_s hB (fun _ _ k => z_goto hB k) (fun hB => ?_)
    refine ih (i + 1) (by omega) ?_ fin
    have e9 : xnat (fun n j => z_n (w_I w0 ((w_R w0 na n).getD 0) j)) (i + 1) = xnat (fun n j => z_n (w_I w0 ((w_R w0 na n).getD 0) j)) i ++ (((((zs_tx 22 ++ dg (z_n (w_I w0 r 0))) ++ [32]) ++ dg (z_n (w_I w0 r 1))) ++ [32]) ++ dg (z_n (w_I w0 r 2))) := by
      show xnat (fun n j => z_n (w_I w0 ((w_R w0 na n).getD 0) j)) i ++ (((((zs_tx 22 ++ dg (z_n (w_I w0 ((w_R w0 na i).getD 0) 0))) ++ [32]) ++ dg (z_n (w_I w0 ((w_R w0 na i).getD 0) 1))) ++ [32]) ++ dg (z_n (w_I w0 ((w_R w0 na i).getD 0) 2))) = _
      rw [r1]; rfl
    rw [e9]
    simp only [List.append_assoc] at T6 ⊢
    exact T6.mo (by omega)
theorem n_txb {G : z_G} (hl : G.2.2.stackTraces = false) {P : Option Value → ev_W → Prop} {w0 : ev_W} {a b0 d ru C B0 f kk : Nat} {l0 : List Nat} (hd : d < w_n w0 ∧ w_K w0 d = 8) (hr : w_R w0 d 8 = some ru) (hR : RWs w0 ru C) (hC : C ≤ 4) (hf : f < w_n w0 ∧ w_K w0 f = 16) (h300 : l0.length + 3 * C ≤ 300) (hB : w_n w0 + B0 + 2 * C < 999) : ∀ (k i : Nat) {w : ev_W}, i + k = C → TX (fun _ => False) w0 a b0 w (l0 ++ xbit (w_I w0 f 1) i) (B0 + 2 * i) → (∀ w', TX (fun _ => False) w0 a b0 w' (l0 ++ xbit (w_I w0 f 1) C) (B0 + 2 * C) → z_Q G 159 257 [some (.ref d), some (.ref a), some (.int (jn kk)), some (.ref f), some (.int (jn C))] [] w' P) → z_Q G 159 216 [some (.ref d), some (.ref a), some (.int (jn kk)), some (.ref f), some (.int (jn i))] [] w P := by
  intro k
  induction k with
  | zero =>
    intro i w e T fin
    have e2 : i = C := by omega
    have Ed := T.E0 hd.1 hd.2 (by omega)
    have Er := T.E0 hR.1 hR.2.1 (by omega)
    have hrd : w_R w d 8 = some ru := by rw [Ed.2.2.2]; exact hr
    have hB : z_all [z_is 159 216 (zf_iload 216 4 218), z_is 159 218 (zf_aload 218 0 219), z_at 159 219 (zf_gr 219 8 8 222), z_at 159 222 (zx_alen 222 223), z_is 159 223 (zf_if2 .ge 223 257 226)] = true := by decide +kernel
    refine q_s hB (fun _ _ k => z_iload hB rfl k) (fun hB => ?_)
    refine q_s hB (fun _ _ k => z_aload hB rfl k) (fun hB => ?_)
    refine q_s hB (fun _ _ k => x_getr hB Ed.1.1 Ed.1.2 hrd k) (fun hB => ?_)
    refine q_s hB (fun _ _ k => x_alen hB Er.1.1 (by rw [Er.1.2]; omega) (by rw [Er.1.2]; omega) k) (fun hB => ?_)
    rw [Er.2.1, hR.2.2, show Int32.ofNat C = jn C from rfl]
    refine q_s hB (fun _ _ k => z_ic_ge hB (fun _ => k) (fun h _ => absurd h ((by rw [jn_lt (by omega) (by omega)]; omega)))) (fun hB => ?_)
    rw [e2]
    exact fin w (by rw [← e2]; exact T)
  | succ k ih =>
    intro i w e T fin
    have Ed := T.E0 hd.1 hd.2 (by omega)
    have Er := T.E0 hR.1 hR.2.1 (by omega)
    have Ef := T.E0 hf.1 hf.2 (by omega)
    have hrd : w_R w d 8 = some ru := by rw [Ed.2.2.2]; exact hr
    have q1 := xbit_len (w_I w0 f 1) i
    by_cases h9 : ((w_I w0 f 1) >>> (jn i &&& 31)) &&& jn 1 = jn 1
    · obtain ⟨w5, k5, T5⟩ := t_C hl T (by simp only [List.length_append]; omega) (by omega)
      obtain ⟨w6, k6, T6⟩ := t_I hl T5 (v := i) (by omega) (by simp only [List.length_append, List.length_cons, List.length_nil]; omega) (by omega)
      have hB : z_all [z_is 159 216 (zf_iload 216 4 218), z_is 159 218 (zf_aload 218 0 219), z_at 159 219 (zf_gr 219 8 8 222), z_at 159 222 (zx_alen 222 223), z_is 159 223 (zf_if2 .ge 223 257 226), z_is 159 226 (zf_aload 226 3 227), z_at 159 227 (zf_gi 227 16 1 230), z_is 159 230 (zf_iload 230 4 232), z_is 159 232 (zf_ishr 232 233), z_is 159 233 (zf_cst 233 (jn 1) 234), z_is 159 234 (zf_iand 234 235), z_is 159 235 (zf_cst 235 (jn 1) 236), z_is 159 236 (zf_if2 .ne 236 251 239), z_is 159 239 (zf_aload 239 1 240), z_is 159 240 (zf_cst 240 (jn 32) 242), z_is 159 242 (zf_cv 242 175 1 18 245), z_is 159 245 (zf_iload 245 4 247), z_is 159 247 (zf_cv 247 176 1 18 250), z_at 159 250 (zx_pop 250 251), z_is 159 251 (zf_iinc 251 4 (jn 1) 254), z_is 159 254 (zf_goto 254 216)] = true := by decide +kernel
      refine q_s hB (fun _ _ k => z_iload hB rfl k) (fun hB => ?_)
      refine q_s hB (fun _ _ k => z_aload hB rfl k) (fun hB => ?_)
      refine q_s hB (fun _ _ k => x_getr hB Ed.1.1 Ed.1.2 hrd k) (fun hB => ?_)
      refine q_s hB (fun _ _ k => x_alen hB Er.1.1 (by rw [Er.1.2]; omega) (by rw [Er.1.2]; omega) k) (fun hB => ?_)
      rw [Er.2.1, hR.2.2, show Int32.ofNat C = jn C from rfl]
      refine q_s hB (fun _ _ k => z_ic_ge hB (fun h _ => absurd ((by rw [jn_lt (by omega) (by omega)]; omega)) h) (fun _ => k)) (fun hB => ?_)
      refine q_s hB (fun _ _ k => z_aload hB rfl k) (fun hB => ?_)
      refine q_s hB (fun _ _ k => x_geti hB Ef.1.1 Ef.1.2 k) (fun hB => ?_)
      rw [Ef.2.2.1]
      refine q_s hB (fun _ _ k => z_iload hB rfl k) (fun hB => ?_)
      refine q_s hB (fun _ _ k => z_ishr hB k) (fun hB => ?_)
      refine q_s hB (fun _ _ k => z_cst hB k) (fun hB => ?_)
      refine q_s hB (fun _ _ k => z_iand hB k) (fun hB => ?_)
      refine q_s hB (fun _ _ k => z_cst hB k) (fun hB => ?_)
      refine q_s hB (fun _ _ k => z_ic_ne hB (fun h _ => absurd (h9) h) (fun _ => k)) (fun hB => ?_)
      refine q_s hB (fun _ _ k => z_aload hB rfl k) (fun hB => ?_)
      refine q_s hB (fun _ _ k => z_cst hB k) (fun hB => ?_)
      refine q_s hB (fun _ _ k => z_callV hB (rest := []) rfl rfl rfl T.sb.1 T.sb.2 k5 k) (fun hB => ?_)
      refine q_s hB (fun _ _ k => z_iload hB rfl k) (fun hB => ?_)
      refine q_s hB (fun _ _ k => z_callV hB (rest := []) rfl rfl rfl T5.sb.1 T5.sb.2 k6 k) (fun hB => ?_)
      refine q_s hB (fun _ _ k => x_pop hB rfl k) (fun hB => ?_)
      refine q_s hB (fun _ _ k => z_iinc hB rfl rfl k) (fun hB => ?_)
      rw [jn_add]
      refine q_s hB (fun _ _ k => z_goto hB k) (fun hB => ?_)
      refine ih (i + 1) (by omega) ?_ fin
      have e9 : xbit (w_I w0 f 1) (i + 1) = xbit (w_I w0 f 1) i ++ ([32] ++ dg i) := by
        show xbit (w_I w0 f 1) i ++ (if ((w_I w0 f 1) >>> (jn i &&& 31)) &&& jn 1 = jn 1 then [32] ++ dg i else []) = _
        rw [if_pos h9]
      rw [e9]
      simp only [List.append_assoc] at T6 ⊢
      exact T6.mo (by omega)
    · skip
      have hB : z_all [z_is 159 216 (zf_iload 216 4 218), z_is 159 218 (zf_aload 218 0 219), z_at 159 219 (zf_gr 219 8 8 222), z_at 159 222 (zx_alen 222 223), z_is 159 223 (zf_if2 .ge 223 257 226), z_is 159 226 (zf_aload 226 3 227), z_at 159 227 (zf_gi 227 16 1 230), z_is 159 230 (zf_iload 230 4 232), z_is 159 232 (zf_ishr 232 233), z_is 159 233 (zf_cst 233 (jn 1) 234), z_is 159 234 (zf_iand 234 235), z_is 159 235 (zf_cst 235 (jn 1) 236), z_is 159 236 (zf_if2 .ne 236 251 239), z_is 159 251 (zf_iinc 251 4 (jn 1) 254), z_is 159 254 (zf_goto 254 216)] = true := by decide +kernel
      refine q_s hB (fun _ _ k => z_iload hB rfl k) (fun hB => ?_)
      refine q_s hB (fun _ _ k => z_aload hB rfl k) (fun hB => ?_)
      refine q_s hB (fun _ _ k => x_getr hB Ed.1.1 Ed.1.2 hrd k) (fun hB => ?_)
      refine q_s hB (fun _ _ k => x_alen hB Er.1.1 (by rw [Er.1.2]; omega) (by rw [Er.1.2]; omega) k) (fun hB => ?_)
      rw [Er.2.1, hR.2.2, show Int32.ofNat C = jn C from rfl]
      refine q_s hB (fun _ _ k => z_ic_ge hB (fun h _ => absurd ((by rw [jn_lt (by omega) (by omega)]; omega)) h) (fun _ => k)) (fun hB => ?_)
      refine q_s hB (fun _ _ k => z_aload hB rfl k) (fun hB => ?_)
      refine q_s hB (fun _ _ k => x_geti hB Ef.1.1 Ef.1.2 k) (fun hB => ?_)
      rw [Ef.2.2.1]
      refine q_s hB (fun _ _ k => z_iload hB rfl k) (fun hB => ?_)
      refine q_s hB (fun _ _ k => z_ishr hB k) (fun hB => ?_)
      refine q_s hB (fun _ _ k => z_cst hB k) (fun hB => ?_)
      refine q_s hB (fun _ _ k => z_iand hB k) (fun hB => ?_)
      refine q_s hB (fun _ _ k => z_cst hB k) (fun hB => ?_)
      refine q_s hB (fun _ _ k => z_ic_ne hB (fun _ => k) (fun h _ => absurd h (h9))) (fun hB => ?_)
      refine q_s hB (fun _ _ k => z_iinc hB rfl rfl k) (fun hB => ?_)
      rw [jn_add]
      refine q_s hB (fun _ _ k => z_goto hB k) (fun hB => ?_)
      refine ih (i + 1) (by omega) ?_ fin
      have e9 : xbit (w_I w0 f 1) (i + 1) = xbit (w_I w0 f 1) i := by
        show xbit (w_I w0 f 1) i ++ (if ((w_I w0 f 1) >>> (jn i &&& 31)) &&& jn 1 = jn 1 then [32] ++ dg i else []) = _
        rw [if_neg h9, List.append_nil]
      rw [e9]
      exact T.mo (by omega)
theorem n_tx4 {G : z_G} (hl : G.2.2.stackTraces = false) {P : Option Value → ev_W → Prop} {w0 : ev_W} {a b0 d ru al ar C N B0 : Nat} {l0 fs : List Nat} (hd : d < w_n w0 ∧ w_K w0 d = 8) (hr : w_R w0 d 8 = some ru) (hra : w_R w0 d 11 = some al) (hR : RWs w0 ru C) (hC : C ≤ 4) (hN : N ≤ 2) (hA : AL w0 al ar fs) (hF : 1 ≤ fs.length ∧ fs.length ≤ 4) (hv : ∀ f ∈ fs, FG w0 f C N) (h300 : l0.length + 26 * fs.length ≤ 300) (hB : w_n w0 + B0 + 14 * fs.length < 999) : ∀ (k i : Nat) {w : ev_W} {x3 x4 : Option Value}, i + k = fs.length → TX (fun _ => False) w0 a b0 w (l0 ++ xflg C (fun k q => z_n (w_I w0 (fs.getD k 0) q)) (fun k => w_I w0 (fs.getD k 0) 1) i) (B0 + 14 * i) → (∀ w' y3 y4, TX (fun _ => False) w0 a b0 w' (l0 ++ xflg C (fun k q => z_n (w_I w0 (fs.getD k 0) q)) (fun k => w_I w0 (fs.getD k 0) 1) fs.length) (B0 + 14 * fs.length) → z_Q G 159 263 [some (.ref d), some (.ref a), some (.int (jn fs.length)), y3, y4] [] w' P) → z_Q G 159 152 [some (.ref d), some (.ref a), some (.int (jn i)), x3, x4] [] w P := by
  intro k
  induction k with
  | zero =>
    intro i w x3 x4 e T fin
    have e2 : i = fs.length := by omega
    have Ed := T.E0 hd.1 hd.2 (by omega)
    have hrd : w_R w d 11 = some al := by rw [Ed.2.2.2]; exact hra
    have A := T.A hA hF.1 (fun q => q) (fun q => q)
    have hB : z_all [z_is 159 152 (zf_iload 152 2 153), z_is 159 153 (zf_aload 153 0 154), z_at 159 154 (zf_gr 154 8 11 157), z_is 159 157 (zf_cv 157 170 0 17 160), z_is 159 160 (zf_if2 .ge 160 263 163)] = true := by decide +kernel
    refine q_s hB (fun _ _ k => z_iload hB rfl k) (fun hB => ?_)
    refine q_s hB (fun _ _ k => z_aload hB rfl k) (fun hB => ?_)
    refine q_s hB (fun _ _ k => x_getr hB Ed.1.1 Ed.1.2 hrd k) (fun hB => ?_)
    refine q_s hB (fun _ _ k => z_callV hB (rest := [.int (jn i)]) rfl rfl rfl A.1.1 A.1.2 (n_k (n_alsz hl A)) k) (fun hB => ?_)
    refine q_s hB (fun _ _ k => z_ic_ge hB (fun _ => k) (fun h _ => absurd h ((by rw [jn_lt (by omega) (by omega)]; omega)))) (fun hB => ?_)
    rw [e2]
    exact fin w x3 x4 (by rw [← e2]; exact T)
  | succ k ih =>
    intro i w x3 x4 e T fin
    have Ed := T.E0 hd.1 hd.2 (by omega)
    have hrd : w_R w d 11 = some al := by rw [Ed.2.2.2]; exact hra
    have A := T.A hA hF.1 (fun q => q) (fun q => q)
    obtain ⟨f, ef⟩ : ∃ f, fs.getD i 0 = f := ⟨_, rfl⟩
    have hf := hv _ (gdm (l := fs) (i := i) (by omega))
    rw [ef] at hf
    have Ef := T.E0 hf.1.1 hf.1.2 (by omega)
    have z0 := jgr_z hf.2.1 (by omega)
    have z2 := jgr_z hf.2.2.2.1 (by omega)
    have z3 := jgr_z hf.2.2.2.2.1 (by omega)
    have q1 := xflg_len C hC (fun k q => z_n (w_I w0 (fs.getD k 0) q)) (fun k => w_I w0 (fs.getD k 0) 1) i
    have q2 := zs_l9
    have d0 := dg_len (z_n (w_I w0 f 0))
    have d1 := dg_len (z_n (w_I w0 f 2))
    have d2 := dg_len (z_n (w_I w0 f 3))
    obtain ⟨w1, k1, T1⟩ := t_S hl T (k9 := 24) (by omega) (by simp only [List.length_append]; omega) (by omega)
    obtain ⟨w2, k2, T2⟩ := t_I hl T1 (v := z_n (w_I w0 f 0)) (by omega) (by simp only [List.length_append, zs_txl]; omega) (by omega)
    obtain ⟨w3, k3, T3⟩ := t_C hl T2 (by simp only [List.length_append, zs_txl]; omega) (by omega)
    obtain ⟨w4, k4, T4⟩ := t_I hl T3 (v := z_n (w_I w0 f 2)) (by omega) (by simp only [List.length_append, zs_txl, List.length_cons, List.length_nil]; omega) (by omega)
    obtain ⟨w5, k5, T5⟩ := t_C hl T4 (by simp only [List.length_append, zs_txl, List.length_cons, List.length_nil]; omega) (by omega)
    obtain ⟨w6, k6, T6⟩ := t_I hl T5 (v := z_n (w_I w0 f 3)) (by omega) (by simp only [List.length_append, zs_txl, List.length_cons, List.length_nil]; omega) (by omega)
    have E1 := T1.E0 hf.1.1 hf.1.2 (by omega)
    have E3 := T3.E0 hf.1.1 hf.1.2 (by omega)
    have E5 := T5.E0 hf.1.1 hf.1.2 (by omega)
    have hB : z_all [z_is 159 152 (zf_iload 152 2 153), z_is 159 153 (zf_aload 153 0 154), z_at 159 154 (zf_gr 154 8 11 157), z_is 159 157 (zf_cv 157 170 0 17 160), z_is 159 160 (zf_if2 .ge 160 263 163), z_is 159 163 (zf_aload 163 0 164), z_at 159 164 (zf_gr 164 8 11 167), z_is 159 167 (zf_iload 167 2 168), z_is 159 168 (zf_cv 168 168 1 17 171), z_at 159 171 (zx_cast 171 174), z_is 159 174 (zf_astore 174 3 175), z_is 159 175 (zf_aload 175 1 176), z_is 159 176 (zf_lds 176 24 178), z_is 159 178 (zf_cv 178 174 1 18 181), z_is 159 181 (zf_aload 181 3 182), z_at 159 182 (zf_gi 182 16 0 185), z_is 159 185 (zf_cv 185 176 1 18 188), z_is 159 188 (zf_cst 188 (jn 32) 190), z_is 159 190 (zf_cv 190 175 1 18 193), z_is 159 193 (zf_aload 193 3 194), z_at 159 194 (zf_gi 194 16 2 197), z_is 159 197 (zf_cv 197 176 1 18 200), z_is 159 200 (zf_cst 200 (jn 32) 202), z_is 159 202 (zf_cv 202 175 1 18 205), z_is 159 205 (zf_aload 205 3 206), z_at 159 206 (zf_gi 206 16 3 209), z_is 159 209 (zf_cv 209 176 1 18 212), z_at 159 212 (zx_pop 212 213), z_is 159 213 (zf_cst 213 (jn 0) 214), z_is 159 214 (zf_istore 214 4 216)] = true := by decide +kernel
    refine q_s hB (fun _ _ k => z_iload hB rfl k) (fun hB => ?_)
    refine q_s hB (fun _ _ k => z_aload hB rfl k) (fun hB => ?_)
    refine q_s hB (fun _ _ k => x_getr hB Ed.1.1 Ed.1.2 hrd k) (fun hB => ?_)
    refine q_s hB (fun _ _ k => z_callV hB (rest := [.int (jn i)]) rfl rfl rfl A.1.1 A.1.2 (n_k (n_alsz hl A)) k) (fun hB => ?_)
    refine q_s hB (fun _ _ k => z_ic_ge hB (fun h _ => absurd ((by rw [jn_lt (by omega) (by omega)]; omega)) h) (fun _ => k)) (fun hB => ?_)
    refine q_s hB (fun _ _ k => z_aload hB rfl k) (fun hB => ?_)
    refine q_s hB (fun _ _ k => x_getr hB Ed.1.1 Ed.1.2 hrd k) (fun hB => ?_)
    refine q_s hB (fun _ _ k => z_iload hB rfl k) (fun hB => ?_)
    refine q_s hB (fun _ _ k => z_callV hB (rest := []) rfl rfl rfl A.1.1 A.1.2 (n_k (n_alget hl A (i := i) (by omega))) k) (fun hB => ?_)
    rw [ef]
    refine q_s hB (fun _ _ k => x_cast hB Ef.1.1 Ef.1.2 k) (fun hB => ?_)
    refine q_s hB (fun _ _ k => z_astore hB rfl rfl k) (fun hB => ?_)
    refine q_s hB (fun _ _ k => z_aload hB rfl k) (fun hB => ?_)
    refine q_s hB (fun _ _ k => z_lds hB k) (fun hB => ?_)
    refine q_s hB (fun _ _ k => z_callV hB (rest := []) rfl rfl rfl T.sb.1 T.sb.2 k1 k) (fun hB => ?_)
    refine q_s hB (fun _ _ k => z_aload hB rfl k) (fun hB => ?_)
    refine q_s hB (fun _ _ k => x_geti hB E1.1.1 E1.1.2 k) (fun hB => ?_)
    rw [E1.2.2.1, z0.1]
    refine q_s hB (fun _ _ k => z_callV hB (rest := []) rfl rfl rfl T1.sb.1 T1.sb.2 k2 k) (fun hB => ?_)
    refine q_s hB (fun _ _ k => z_cst hB k) (fun hB => ?_)
    refine q_s hB (fun _ _ k => z_callV hB (rest := []) rfl rfl rfl T2.sb.1 T2.sb.2 k3 k) (fun hB => ?_)
    refine q_s hB (fun _ _ k => z_aload hB rfl k) (fun hB => ?_)
    refine q_s hB (fun _ _ k => x_geti hB E3.1.1 E3.1.2 k) (fun hB => ?_)
    rw [E3.2.2.1, z2.1]
    refine q_s hB (fun _ _ k => z_callV hB (rest := []) rfl rfl rfl T3.sb.1 T3.sb.2 k4 k) (fun hB => ?_)
    refine q_s hB (fun _ _ k => z_cst hB k) (fun hB => ?_)
    refine q_s hB (fun _ _ k => z_callV hB (rest := []) rfl rfl rfl T4.sb.1 T4.sb.2 k5 k) (fun hB => ?_)
    refine q_s hB (fun _ _ k => z_aload hB rfl k) (fun hB => ?_)
    refine q_s hB (fun _ _ k => x_geti hB E5.1.1 E5.1.2 k) (fun hB => ?_)
    rw [E5.2.2.1, z3.1]
    refine q_s hB (fun _ _ k => z_callV hB (rest := []) rfl rfl rfl T5.sb.1 T5.sb.2 k6 k) (fun hB => ?_)
    refine q_s hB (fun _ _ k => x_pop hB rfl k) (fun hB => ?_)
    refine q_s hB (fun _ _ k => z_cst hB k) (fun hB => ?_)
    refine q_s hB (fun _ _ k => z_istore hB rfl rfl k) (fun hB => ?_)
    refine n_txb hl hd hr hR hC hf.1 (l0 := (l0 ++ xflg C (fun k q => z_n (w_I w0 (fs.getD k 0) q)) (fun k => w_I w0 (fs.getD k 0) 1) i) ++ (((((zs_tx 24 ++ dg (z_n (w_I w0 f 0))) ++ [32]) ++ dg (z_n (w_I w0 f 2))) ++ [32]) ++ dg (z_n (w_I w0 f 3)))) (B0 := B0 + 14 * i + 6) (by simp only [List.length_append, zs_txl, List.length_cons, List.length_nil]; omega) (by omega) C 0 (by omega) (by simp only [List.append_assoc] at T6 ⊢; simp only [xbit, List.append_nil]; exact T6.mo (by omega)) (fun w' T' => ?_)
    have hB : z_all [z_is 159 257 (zf_iinc 257 2 (jn 1) 260), z_is 159 260 (zf_goto 260 152)] = true := by decide +kernel
    refine q_s hB (fun _ _ k => z_iinc hB rfl rfl k) (fun hB => ?_)
    rw [jn_add]
    refine q_s hB (fun _ _ k => z_goto hB k) (fun hB => ?_)
    refine ih (i + 1) (by omega) ?_ fin
    have e9 : xflg C (fun k q => z_n (w_I w0 (fs.getD k 0) q)) (fun k => w_I w0 (fs.getD k 0) 1) (i + 1) = xflg C (fun k q => z_n (w_I w0 (fs.getD k 0) q)) (fun k => w_I w0 (fs.getD k 0) 1) i ++ ((((((zs_tx 24 ++ dg (z_n (w_I w0 f 0))) ++ [32]) ++ dg (z_n (w_I w0 f 2))) ++ [32]) ++ dg (z_n (w_I w0 f 3))) ++ xbit (w_I w0 f 1) C) := by
      show xflg C (fun k q => z_n (w_I w0 (fs.getD k 0) q)) (fun k => w_I w0 (fs.getD k 0) 1) i ++ ((((((zs_tx 24 ++ dg (z_n (w_I w0 (fs.getD i 0) 0))) ++ [32]) ++ dg (z_n (w_I w0 (fs.getD i 0) 2))) ++ [32]) ++ dg (z_n (w_I w0 (fs.getD i 0) 3))) ++ xbit (w_I w0 (fs.getD i 0) 1) C) = _
      rw [ef]
    rw [e9]
    simp only [List.append_assoc] at T' ⊢
    exact T'.mo (by omega)
