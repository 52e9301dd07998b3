/-! append of a number 0 .. 16 and of a blank: by wip/gen/p64/j98c.py -/
/-- a number's digits -/
def dg (v : Nat) : List Nat := if v < 10 then [48 + v] else [48 + v / 10, 48 + v % 10]
theorem dg_128 {v : Nat} (h : v < 17) : ∀ x ∈ dg v, x < 128 := by
  have h2 : ∀ q : Fin 17, (dg q.val).all (fun x => Nat.blt x 128) = true := by decide +kernel
  exact fun x hx => Nat.le_of_ble_eq_true (List.all_eq_true.mp (h2 ⟨v, h⟩) x hx)
theorem jd_a : ∀ q : Fin 17, ¬ jn q.val < 0 ∧ (q.val < 10 → jg 10 < -(jn q.val)) ∧ (¬ q.val < 10 → ¬ jg 10 < -(jn q.val)) ∧ jn 10 * jg 10 < -(jn q.val) ∧ jg 100 < -(jn q.val) ∧ (q.val < 10 → ¬ -(jn q.val) < jg 9) ∧ (¬ q.val < 10 → -(jn q.val) < jg 9) ∧ -(-(jn q.val)) = jn q.val ∧ vp_nar .byte (Int32.ofNat (48 + q.val % 10)) = jn (48 + q.val % 10) ∧ vp_nar .byte (Int32.ofNat (48 + q.val / 10)) = jn (48 + q.val / 10) := by decide +kernel
theorem n_ss1 {G : z_G} {w : ev_W} (hl : G.2.2.stackTraces = false)  {v : Nat} (hv : v < 17) (h9 : v < 10) : z_N G 200 [.int (jn v)] w (fun v1 w1 => v1 = some (.int (jn 1)) ∧ w1 = w) := by
  refine q_con hl (ml := 4) (by decide +kernel) rfl rfl ?_
  obtain ⟨j1, j2, j3, j4, j5, j6, j7, j8, j9, j0⟩ := jd_a ⟨v, hv⟩
  have hB : z_all [z_is 200 0 (zf_cst 0 (jn 1) 1), z_is 200 1 (zf_istore 1 1 2), z_is 200 2 (zf_iload 2 0 3), z_is 200 3 (zf_if1 .lt 3 11 6), z_is 200 6 (zf_cst 6 (jn 0) 7), z_is 200 7 (zf_istore 7 1 8), z_is 200 8 (zf_iload 8 0 9), z_at 200 9 (zx_ineg 9 10), z_is 200 10 (zf_istore 10 0 11), z_is 200 11 (zf_cst 11 (jg 10) 13), z_is 200 13 (zf_istore 13 2 14), z_is 200 14 (zf_cst 14 (jn 1) 15), z_is 200 15 (zf_istore 15 3 16), z_is 200 16 (zf_iload 16 3 17), z_is 200 17 (zf_cst 17 (jn 10) 19), z_is 200 19 (zf_if2 .ge 19 42 22), z_is 200 22 (zf_iload 22 0 23), z_is 200 23 (zf_iload 23 2 24), z_is 200 24 (zf_if2 .le 24 31 27), z_is 200 27 (zf_iload 27 3 28), z_is 200 28 (zf_iload 28 1 29), z_is 200 29 (zf_iadd 29 30), z_is 200 30 (zf_ret 0)] = true := by decide +kernel
  refine q_s hB (fun _ _ k => z_cst hB k) (fun hB => ?_)
  refine q_s hB (fun _ _ k => z_istore hB rfl rfl k) (fun hB => ?_)
  refine q_s hB (fun _ _ k => z_iload hB rfl k) (fun hB => ?_)
  refine q_s hB (fun _ _ k => z_if_lt hB (fun h _ => absurd h (j1)) (fun _ => k)) (fun hB => ?_)
  refine q_s hB (fun _ _ k => z_cst hB k) (fun hB => ?_)
  refine q_s hB (fun _ _ k => z_istore hB rfl rfl k) (fun hB => ?_)
  refine q_s hB (fun _ _ k => z_iload hB rfl k) (fun hB => ?_)
  refine q_s hB (fun _ _ k => x_ineg hB k) (fun hB => ?_)
  refine q_s hB (fun _ _ k => z_istore hB rfl rfl k) (fun hB => ?_)
  refine q_s hB (fun _ _ k => z_cst hB k) (fun hB => ?_)
  refine q_s hB (fun _ _ k => z_istore hB rfl rfl k) (fun hB => ?_)
  refine q_s hB (fun _ _ k => z_cst hB k) (fun hB => ?_)
  refine q_s hB (fun _ _ k => z_istore hB rfl rfl k) (fun hB => ?_)
  refine q_s hB (fun _ _ k => z_iload hB rfl k) (fun hB => ?_)
  refine q_s hB (fun _ _ k => z_cst hB k) (fun hB => ?_)
  refine q_s hB (fun _ _ k => z_ic_ge hB (fun h _ => absurd ((by decide : jn 1 < jn 10)) h) (fun _ => k)) (fun hB => ?_)
  refine q_s hB (fun _ _ k => z_iload hB rfl k) (fun hB => ?_)
  refine q_s hB (fun _ _ k => z_iload hB rfl k) (fun hB => ?_)
  refine q_s hB (fun _ _ k => z_ic_le hB (fun h _ => absurd (j2 h9) h) (fun _ => k)) (fun hB => ?_)
  refine q_s hB (fun _ _ k => z_iload hB rfl k) (fun hB => ?_)
  refine q_s hB (fun _ _ k => z_iload hB rfl k) (fun hB => ?_)
  refine q_s hB (fun _ _ k => z_iadd hB k) (fun hB => ?_)
  exact q_r (z_reti hB) ⟨rfl, rfl⟩
theorem n_ss2 {G : z_G} {w : ev_W} (hl : G.2.2.stackTraces = false)  {v : Nat} (hv : v < 17) (h9 : ¬ v < 10) : z_N G 200 [.int (jn v)] w (fun v1 w1 => v1 = some (.int (jn 2)) ∧ w1 = w) := by
  refine q_con hl (ml := 4) (by decide +kernel) rfl rfl ?_
  obtain ⟨j1, j2, j3, j4, j5, j6, j7, j8, j9, j0⟩ := jd_a ⟨v, hv⟩
  have hB : z_all [z_is 200 0 (zf_cst 0 (jn 1) 1), z_is 200 1 (zf_istore 1 1 2), z_is 200 2 (zf_iload 2 0 3), z_is 200 3 (zf_if1 .lt 3 11 6), z_is 200 6 (zf_cst 6 (jn 0) 7), z_is 200 7 (zf_istore 7 1 8), z_is 200 8 (zf_iload 8 0 9), z_at 200 9 (zx_ineg 9 10), z_is 200 10 (zf_istore 10 0 11), z_is 200 11 (zf_cst 11 (jg 10) 13), z_is 200 13 (zf_istore 13 2 14), z_is 200 14 (zf_cst 14 (jn 1) 15), z_is 200 15 (zf_istore 15 3 16)] = true := by decide +kernel
  refine q_s hB (fun _ _ k => z_cst hB k) (fun hB => ?_)
  refine q_s hB (fun _ _ k => z_istore hB rfl rfl k) (fun hB => ?_)
  refine q_s hB (fun _ _ k => z_iload hB rfl k) (fun hB => ?_)
  refine q_s hB (fun _ _ k => z_if_lt hB (fun h _ => absurd h (j1)) (fun _ => k)) (fun hB => ?_)
  refine q_s hB (fun _ _ k => z_cst hB k) (fun hB => ?_)
  refine q_s hB (fun _ _ k => z_istore hB rfl rfl k) (fun hB => ?_)
  refine q_s hB (fun _ _ k => z_iload hB rfl k) (fun hB => ?_)
  refine q_s hB (fun _ _ k => x_ineg hB k) (fun hB => ?_)
  refine q_s hB (fun _ _ k => z_istore hB rfl rfl k) (fun hB => ?_)
  refine q_s hB (fun _ _ k => z_cst hB k) (fun hB => ?_)
  refine q_s hB (fun _ _ k => z_istore hB rfl rfl k) (fun hB => ?_)
  refine q_s hB (fun _ _ k => z_cst hB k) (fun hB => ?_)
  refine q_s hB (fun _ _ k => z_istore hB rfl rfl k) (fun hB => ?_)
  have hB : z_all [z_is 200 16 (zf_iload 16 3 17), z_is 200 17 (zf_cst 17 (jn 10) 19), z_is 200 19 (zf_if2 .ge 19 42 22), z_is 200 22 (zf_iload 22 0 23), z_is 200 23 (zf_iload 23 2 24), z_is 200 24 (zf_if2 .le 24 31 27), z_is 200 31 (zf_cst 31 (jn 10) 33), z_is 200 33 (zf_iload 33 2 34), z_is 200 34 (zf_imul 34 35), z_is 200 35 (zf_istore 35 2 36), z_is 200 36 (zf_iinc 36 3 (jn 1) 39), z_is 200 39 (zf_goto 39 16)] = true := by decide +kernel
  refine q_s hB (fun _ _ k => z_iload hB rfl k) (fun hB => ?_)
  refine q_s hB (fun _ _ k => z_cst hB k) (fun hB => ?_)
  refine q_s hB (fun _ _ k => z_ic_ge hB (fun h _ => absurd ((by decide : jn 1 < jn 10)) h) (fun _ => k)) (fun hB => ?_)
  refine q_s hB (fun _ _ k => z_iload hB rfl k) (fun hB => ?_)
  refine q_s hB (fun _ _ k => z_iload hB rfl k) (fun hB => ?_)
  refine q_s hB (fun _ _ k => z_ic_le hB (fun _ => k) (fun h _ => absurd h (j3 h9))) (fun hB => ?_)
  refine q_s hB (fun _ _ k => z_cst hB k) (fun hB => ?_)
  refine q_s hB (fun _ _ k => z_iload hB rfl k) (fun hB => ?_)
  refine q_s hB (fun _ _ k => z_imul hB k) (fun hB => ?_)
  refine q_s hB (fun _ _ k => z_istore hB rfl rfl k) (fun hB => ?_)
  refine q_s hB (fun _ _ k => z_iinc hB rfl rfl k) (fun hB => ?_)
  refine q_s hB (fun _ _ k => z_goto hB k) (fun hB => ?_)
  have hB : z_all [z_is 200 16 (zf_iload 16 3 17), z_is 200 17 (zf_cst 17 (jn 10) 19), z_is 200 19 (zf_if2 .ge 19 42 22), z_is 200 22 (zf_iload 22 0 23), z_is 200 23 (zf_iload 23 2 24), z_is 200 24 (zf_if2 .le 24 31 27), z_is 200 27 (zf_iload 27 3 28), z_is 200 28 (zf_iload 28 1 29), z_is 200 29 (zf_iadd 29 30), z_is 200 30 (zf_ret 0)] = true := by decide +kernel
  refine q_s hB (fun _ _ k => z_iload hB rfl k) (fun hB => ?_)
  refine q_s hB (fun _ _ k => z_cst hB k) (fun hB => ?_)
  refine q_s hB (fun _ _ k => z_ic_ge hB (fun h _ => absurd ((by decide : jn 1 + jn 1 < jn 10)) h) (fun _ => k)) (fun hB => ?_)
  refine q_s hB (fun _ _ k => z_iload hB rfl k) (fun hB => ?_)
  refine q_s hB (fun _ _ k => z_iload hB rfl k) (fun hB => ?_)
  refine q_s hB (fun _ _ k => z_ic_le hB (fun h _ => absurd (j4) h) (fun _ => k)) (fun hB => ?_)
  refine q_s hB (fun _ _ k => z_iload hB rfl k) (fun hB => ?_)
  refine q_s hB (fun _ _ k => z_iload hB rfl k) (fun hB => ?_)
  refine q_s hB (fun _ _ k => z_iadd hB k) (fun hB => ?_)
  exact q_r (z_reti hB) ⟨rfl, rfl⟩
theorem n_gc1 {G : z_G} {w : ev_W} (hl : G.2.2.stackTraces = false) {a b cap : Nat} {l : List Nat} (S : SB w a b cap l) {v : Nat} (hv : v < 17) (h9 : v < 10) {d : Nat} (hd : d < cap) : z_N G 201 [.int (jn v), .int (jn (d + 1)), .ref b] w (fun v1 w1 => (∃ x, v1 = some (.int x)) ∧ w1 = w_sI w b d (jn (48 + v % 10))) := by
  refine q_con hl (ml := 7) (by decide +kernel) rfl rfl ?_
  obtain ⟨j1, j2, j3, j4, j5, j6, j7, j8, j9, j0⟩ := jd_a ⟨v, hv⟩
  have hc9 := S.2.2.2.1
  have ha9 := S.1.1
  have hb8 := S.2.1.1
  have n1 : z_n (jn v) = v := jn_n (by omega)
  have hB : z_all [z_is 201 0 (zf_iload 0 1 1), z_is 201 1 (zf_istore 1 5 3), z_is 201 3 (zf_iload 3 0 4), z_is 201 4 (zf_if1 .ge 4 11 7), z_is 201 11 (zf_cst 11 (jn 0) 12), z_is 201 12 (zf_istore 12 6 14), z_is 201 14 (zf_iload 14 6 16), z_is 201 16 (zf_if1 .ne 16 22 19), z_is 201 19 (zf_iload 19 0 20), z_at 201 20 (zx_ineg 20 21), z_is 201 21 (zf_istore 21 0 22), z_is 201 22 (zf_iload 22 0 23), z_is 201 23 (zf_cst 23 (jg 100) 25), z_is 201 25 (zf_if2 .gt 25 72 28), z_is 201 72 (zf_aload 72 2 73), z_is 201 73 (zf_iinc 73 5 (jg 1) 76), z_is 201 76 (zf_iload 76 5 78), z_at 201 78 (zx_ones 78 81), z_is 201 81 (zf_iload 81 0 82), z_at 201 82 (zx_ineg 82 83), z_at 201 83 (zx_dig1 83 84), z_at 201 84 (zx_bast 84 85), z_is 201 85 (zf_iload 85 0 86), z_is 201 86 (zf_cst 86 (jg 9) 88), z_is 201 88 (zf_if2 .ge 88 104 91), z_is 201 104 (zf_iload 104 6 106), z_is 201 106 (zf_if1 .eq 106 118 109), z_is 201 118 (zf_iload 118 5 120), z_is 201 120 (zf_ret 0)] = true := by decide +kernel
  refine q_s hB (fun _ _ k => z_iload hB rfl k) (fun hB => ?_)
  refine q_s hB (fun _ _ k => z_istore hB rfl rfl k) (fun hB => ?_)
  refine q_s hB (fun _ _ k => z_iload hB rfl k) (fun hB => ?_)
  refine q_s hB (fun _ _ k => z_if_ge hB (fun _ => k) (fun h _ => absurd h (j1))) (fun hB => ?_)
  refine q_s hB (fun _ _ k => z_cst hB k) (fun hB => ?_)
  refine q_s hB (fun _ _ k => z_istore hB rfl rfl k) (fun hB => ?_)
  refine q_s hB (fun _ _ k => z_iload hB rfl k) (fun hB => ?_)
  refine q_s hB (fun _ _ k => z_if_ne hB (fun h _ => absurd ((by decide : jn 0 = 0)) h) (fun _ => k)) (fun hB => ?_)
  refine q_s hB (fun _ _ k => z_iload hB rfl k) (fun hB => ?_)
  refine q_s hB (fun _ _ k => x_ineg hB k) (fun hB => ?_)
  refine q_s hB (fun _ _ k => z_istore hB rfl rfl k) (fun hB => ?_)
  refine q_s hB (fun _ _ k => z_iload hB rfl k) (fun hB => ?_)
  refine q_s hB (fun _ _ k => z_cst hB k) (fun hB => ?_)
  refine q_s hB (fun _ _ k => z_ic_gt hB (fun _ => k) (fun h _ => absurd (j5) h)) (fun hB => ?_)
  refine q_s hB (fun _ _ k => z_aload hB rfl k) (fun hB => ?_)
  refine q_s hB (fun _ _ k => z_iinc hB rfl rfl k) (fun hB => ?_)
  rw [jdec]
  refine q_s hB (fun _ _ k => z_iload hB rfl k) (fun hB => ?_)
  refine q_s hB (fun _ _ k => x_ones hB k) (fun hB => ?_)
  refine q_s hB (fun _ _ k => z_iload hB rfl k) (fun hB => ?_)
  refine q_s hB (fun _ _ k => x_ineg hB k) (fun hB => ?_)
  refine q_s hB (fun _ _ k => x_dig1 hB (by rw [j8]; exact jn_ok (by omega) (by omega)) k) (fun hB => ?_)
  rw [j8, n1]
  refine q_s hB (fun _ _ k => x_bast hB S.2.1.1 S.2.1.2 (by show ev_ok _ (w_L w b) = true; rw [S.2.2.2.1.1]; exact jn_ok (by omega) (by omega)) k) (fun hB => ?_)
  rw [jn_n (by omega), j9]
  refine q_s hB (fun _ _ k => z_iload hB rfl k) (fun hB => ?_)
  refine q_s hB (fun _ _ k => z_cst hB k) (fun hB => ?_)
  refine q_s hB (fun _ _ k => z_ic_ge hB (fun _ => k) (fun h _ => absurd h (j6 h9))) (fun hB => ?_)
  refine q_s hB (fun _ _ k => z_iload hB rfl k) (fun hB => ?_)
  refine q_s hB (fun _ _ k => z_if_eq hB (fun _ => k) (fun h _ => absurd ((by decide : jn 0 = 0)) h)) (fun hB => ?_)
  refine q_s hB (fun _ _ k => z_iload hB rfl k) (fun hB => ?_)
  exact q_r (z_reti hB) ⟨⟨_, rfl⟩, rfl⟩
theorem n_gc2 {G : z_G} {w : ev_W} (hl : G.2.2.stackTraces = false) {a b cap : Nat} {l : List Nat} (S : SB w a b cap l) {v : Nat} (hv : v < 17) (h9 : ¬ v < 10) {d : Nat} (hd : d + 1 < cap) : z_N G 201 [.int (jn v), .int (jn (d + 1 + 1)), .ref b] w (fun v1 w1 => (∃ x, v1 = some (.int x)) ∧ w1 = w_sI (w_sI w b (d + 1) (jn (48 + v % 10))) b d (jn (48 + v / 10))) := by
  refine q_con hl (ml := 7) (by decide +kernel) rfl rfl ?_
  obtain ⟨j1, j2, j3, j4, j5, j6, j7, j8, j9, j0⟩ := jd_a ⟨v, hv⟩
  have hc9 := S.2.2.2.1
  have ha9 := S.1.1
  have hb8 := S.2.1.1
  have n1 : z_n (jn v) = v := jn_n (by omega)
  have hB : z_all [z_is 201 0 (zf_iload 0 1 1), z_is 201 1 (zf_istore 1 5 3), z_is 201 3 (zf_iload 3 0 4), z_is 201 4 (zf_if1 .ge 4 11 7), z_is 201 11 (zf_cst 11 (jn 0) 12), z_is 201 12 (zf_istore 12 6 14), z_is 201 14 (zf_iload 14 6 16), z_is 201 16 (zf_if1 .ne 16 22 19), z_is 201 19 (zf_iload 19 0 20), z_at 201 20 (zx_ineg 20 21), z_is 201 21 (zf_istore 21 0 22), z_is 201 22 (zf_iload 22 0 23), z_is 201 23 (zf_cst 23 (jg 100) 25), z_is 201 25 (zf_if2 .gt 25 72 28), z_is 201 72 (zf_aload 72 2 73), z_is 201 73 (zf_iinc 73 5 (jg 1) 76), z_is 201 76 (zf_iload 76 5 78), z_at 201 78 (zx_ones 78 81), z_is 201 81 (zf_iload 81 0 82), z_at 201 82 (zx_ineg 82 83), z_at 201 83 (zx_dig1 83 84), z_at 201 84 (zx_bast 84 85), z_is 201 85 (zf_iload 85 0 86), z_is 201 86 (zf_cst 86 (jg 9) 88), z_is 201 88 (zf_if2 .ge 88 104 91), z_is 201 91 (zf_aload 91 2 92), z_is 201 92 (zf_iinc 92 5 (jg 1) 95), z_is 201 95 (zf_iload 95 5 97), z_at 201 97 (zx_tens 97 100), z_is 201 100 (zf_iload 100 0 101), z_at 201 101 (zx_ineg 101 102), z_at 201 102 (zx_dig2 102 103), z_at 201 103 (zx_bast 103 104), z_is 201 104 (zf_iload 104 6 106), z_is 201 106 (zf_if1 .eq 106 118 109), z_is 201 118 (zf_iload 118 5 120), z_is 201 120 (zf_ret 0)] = true := by decide +kernel
  refine q_s hB (fun _ _ k => z_iload hB rfl k) (fun hB => ?_)
  refine q_s hB (fun _ _ k => z_istore hB rfl rfl k) (fun hB => ?_)
  refine q_s hB (fun _ _ k => z_iload hB rfl k) (fun hB => ?_)
  refine q_s hB (fun _ _ k => z_if_ge hB (fun _ => k) (fun h _ => absurd h (j1))) (fun hB => ?_)
  refine q_s hB (fun _ _ k => z_cst hB k) (fun hB => ?_)
  refine q_s hB (fun _ _ k => z_istore hB rfl rfl k) (fun hB => ?_)
  refine q_s hB (fun _ _ k => z_iload hB rfl k) (fun hB => ?_)
  refine q_s hB (fun _ _ k => z_if_ne hB (fun h _ => absurd ((by decide : jn 0 = 0)) h) (fun _ => k)) (fun hB => ?_)
  refine q_s hB (fun _ _ k => z_iload hB rfl k) (fun hB => ?_)
  refine q_s hB (fun _ _ k => x_ineg hB k) (fun hB => ?_)
  refine q_s hB (fun _ _ k => z_istore hB rfl rfl k) (fun hB => ?_)
  refine q_s hB (fun _ _ k => z_iload hB rfl k) (fun hB => ?_)
  refine q_s hB (fun _ _ k => z_cst hB k) (fun hB => ?_)
  refine q_s hB (fun _ _ k => z_ic_gt hB (fun _ => k) (fun h _ => absurd (j5) h)) (fun hB => ?_)
  refine q_s hB (fun _ _ k => z_aload hB rfl k) (fun hB => ?_)
  refine q_s hB (fun _ _ k => z_iinc hB rfl rfl k) (fun hB => ?_)
  rw [jdec]
  refine q_s hB (fun _ _ k => z_iload hB rfl k) (fun hB => ?_)
  refine q_s hB (fun _ _ k => x_ones hB k) (fun hB => ?_)
  refine q_s hB (fun _ _ k => z_iload hB rfl k) (fun hB => ?_)
  refine q_s hB (fun _ _ k => x_ineg hB k) (fun hB => ?_)
  refine q_s hB (fun _ _ k => x_dig1 hB (by rw [j8]; exact jn_ok (by omega) (by omega)) k) (fun hB => ?_)
  rw [j8, n1]
  refine q_s hB (fun _ _ k => x_bast hB S.2.1.1 S.2.1.2 (by show ev_ok _ (w_L w b) = true; rw [S.2.2.2.1.1]; exact jn_ok (by omega) (by omega)) k) (fun hB => ?_)
  rw [jn_n (by omega), j9]
  refine q_s hB (fun _ _ k => z_iload hB rfl k) (fun hB => ?_)
  refine q_s hB (fun _ _ k => z_cst hB k) (fun hB => ?_)
  refine q_s hB (fun _ _ k => z_ic_ge hB (fun h _ => absurd (j7 h9) h) (fun _ => k)) (fun hB => ?_)
  refine q_s hB (fun _ _ k => z_aload hB rfl k) (fun hB => ?_)
  refine q_s hB (fun _ _ k => z_iinc hB rfl rfl k) (fun hB => ?_)
  rw [jdec]
  refine q_s hB (fun _ _ k => z_iload hB rfl k) (fun hB => ?_)
  refine q_s hB (fun _ _ k => x_tens hB k) (fun hB => ?_)
  refine q_s hB (fun _ _ k => z_iload hB rfl k) (fun hB => ?_)
  refine q_s hB (fun _ _ k => x_ineg hB k) (fun hB => ?_)
  refine q_s hB (fun _ _ k => x_dig2 hB (by rw [j8]; exact jn_ok (by omega) (by omega)) k) (fun hB => ?_)
  rw [j8, n1]
  refine q_s hB (fun _ _ k => x_bast hB S.2.1.1 S.2.1.2 (by show ev_ok _ (w_L w b) = true; rw [S.2.2.2.1.1]; exact jn_ok (by omega) (by omega)) k) (fun hB => ?_)
  rw [jn_n (by omega), j0]
  refine q_s hB (fun _ _ k => z_iload hB rfl k) (fun hB => ?_)
  refine q_s hB (fun _ _ k => z_if_eq hB (fun _ => k) (fun h _ => absurd ((by decide : jn 0 = 0)) h)) (fun hB => ?_)
  refine q_s hB (fun _ _ k => z_iload hB rfl k) (fun hB => ?_)
  exact q_r (z_reti hB) ⟨⟨_, rfl⟩, rfl⟩
theorem n_ss {G : z_G} {w : ev_W} (hl : G.2.2.stackTraces = false) {v : Nat} (hv : v < 17) : z_K G 200 [.int (jn v)] w (.inl (some (.int (jn (dg v).length)))) w := by
  unfold dg
  by_cases h : v < 10
  · rw [if_pos h]; exact n_k (n_ss1 hl hv h)
  · rw [if_neg h]; exact n_k (n_ss2 hl hv h)
/-- the digits stand behind the letters -/
def Dgs (w w1 : ev_W) (b d v : Nat) : Prop := FR (fun x => x = b) w w1 ∧ w_n w1 = w_n w ∧ (∀ i, w_I w1 b i = if d ≤ i ∧ i < d + (dg v).length then jn ((dg v).getD (i - d) 0) else w_I w b i) ∧ ∀ x, ¬ x = b → w_I w1 x = w_I w x
theorem n_gc {G : z_G} {w : ev_W} (hl : G.2.2.stackTraces = false) {a b cap : Nat} {l : List Nat} (S : SB w a b cap l) {v : Nat} (hv : v < 17) {d : Nat} (hd : d + (dg v).length ≤ cap) (hn : w_n w ≤ 1000) : z_N G 201 [.int (jn v), .int (jn (d + (dg v).length)), .ref b] w (fun v1 w1 => (∃ x, v1 = some (.int x)) ∧ Dgs w w1 b d v) := by
  have hb := S.2.1.1
  by_cases h : v < 10
  · have e1 : (dg v).length = 1 := by unfold dg; rw [if_pos h]; rfl
    have e2 : dg v = [48 + v % 10] := by unfold dg; rw [if_pos h, Nat.mod_eq_of_lt h]
    rw [e1] at hd ⊢
    refine n_w (n_gc1 hl S hv h (by omega)) (fun v1 w1 hp => ?_)
    obtain ⟨p1, p2⟩ := hp
    rw [p2]
    refine ⟨p1, FR_I (by omega), rfl, fun i => ?_, fun x hx => sI_na hx⟩
    rw [e2]
    by_cases q : i = d
    · rw [q, sI_at, if_pos (by simp), Nat.sub_self]; rfl
    · rw [sI_ne (fun z => q z.2), if_neg (by simp; omega)]
  · have e1 : (dg v).length = 1 + 1 := by unfold dg; rw [if_neg h]; rfl
    have e2 : dg v = [48 + v / 10, 48 + v % 10] := by unfold dg; rw [if_neg h]
    rw [e1] at hd ⊢
    refine n_w (n_gc2 hl S hv h (by omega)) (fun v1 w1 hp => ?_)
    obtain ⟨p1, p2⟩ := hp
    rw [p2]
    refine ⟨p1, (FR_I (by omega)).tr (FR_I (by omega)) (fun _ _ q => q) (fun _ _ q => q), rfl, fun i => ?_, fun x hx => (sI_na hx).trans (sI_na hx)⟩
    rw [e2]
    by_cases q : i = d
    · rw [q, sI_at, if_pos (by simp), Nat.sub_self]; rfl
    · rw [sI_ne (fun z => q z.2)]
      by_cases q2 : i = d + 1
      · rw [q2, sI_at, if_pos (by simp), Nat.add_sub_cancel_left]; rfl
      · rw [sI_ne (fun z => q2 z.2), if_neg (by simp; omega)]
theorem n_apI {G : z_G} {w : ev_W} (hl : G.2.2.stackTraces = false) {a b cap : Nat} {l : List Nat} (S : SB w a b cap l) {v : Nat} (hv : v < 17) (h2 : l.length + 2 ≤ 300) (hll : w_l w = true) (hn : w_n w < 999) : z_N G 182 [.ref a, .int (jn v)] w (fun v1 w1 => v1 = some (.ref a) ∧ SBp w w1 a b (l ++ dg v)) := by
  refine q_con hl (ml := 4) (by decide +kernel) rfl rfl ?_
  have hc9 := S.2.2.2.1
  have ha9 := S.1.1
  have hb8 := S.2.1.1
  have hg9 : (dg v).length ≤ 2 := by unfold dg; split <;> simp
  have k0 := n_ss (w := w) hl hv
  obtain ⟨v5, w5, k5, rfl, b5, cap5, S5, hq5, F5, n5, d5⟩ := n_ens hl S (q := l.length + (dg v).length) (by omega) hll (by omega)
  have k6 := n_k (n_isL hl S5)
  obtain ⟨v7, w7, k7, ⟨x7, rfl⟩, D7⟩ := n_gc hl S5 hv (d := l.length) hq5 (by omega)
  obtain ⟨f7, m7, i7, o7⟩ := D7
  have g7 := f7.2.2
  have t7 : w_I w7 a = w_I w5 a := o7 a S5.ne
  have hB : z_all [z_is 182 0 (zf_aload 0 0 1), z_at 182 1 (zf_gi 1 18 3 4), z_is 182 4 (zf_istore 4 2 5), z_is 182 5 (zf_iload 5 2 6), z_is 182 6 (zf_iload 6 1 7), z_is 182 7 (zf_cs 7 200 1 10), z_is 182 10 (zf_iadd 10 11), z_is 182 11 (zf_istore 11 3 12), z_is 182 12 (zf_aload 12 0 13), z_is 182 13 (zf_iload 13 3 14), z_at 182 14 (zx_cC 14 183 1 17), z_is 182 17 (zf_aload 17 0 18), z_at 182 18 (zx_cC 18 187 0 21), z_is 182 21 (zf_if1 .eq 21 37 24), z_is 182 24 (zf_iload 24 1 25), z_is 182 25 (zf_iload 25 3 26), z_is 182 26 (zf_aload 26 0 27), z_at 182 27 (zf_gr 27 18 0 30), z_is 182 30 (zf_cs 30 201 3 33), z_at 182 33 (zx_pop 33 34), z_is 182 34 (zf_goto 34 48), z_is 182 48 (zf_aload 48 0 49), z_is 182 49 (zf_iload 49 3 50), z_at 182 50 (zf_pi 50 18 3 53), z_is 182 53 (zf_aload 53 0 54), z_is 182 54 (zf_ret 5)] = true := by decide +kernel
  refine q_s hB (fun _ _ k => z_aload hB rfl k) (fun hB => ?_)
  refine q_s hB (fun _ _ k => x_geti hB S.1.1 S.1.2 k) (fun hB => ?_)
  rw [S.2.2.1.2.2]
  refine q_s hB (fun _ _ k => z_istore hB rfl rfl k) (fun hB => ?_)
  refine q_s hB (fun _ _ k => z_iload hB rfl k) (fun hB => ?_)
  refine q_s hB (fun _ _ k => z_iload hB rfl k) (fun hB => ?_)
  refine q_s hB (fun _ _ k => z_callS hB (rest := [.int (jn l.length)]) rfl rfl rfl k0 k) (fun hB => ?_)
  refine q_s hB (fun _ _ k => z_iadd hB k) (fun hB => ?_)
  rw [jn_add]
  refine q_s hB (fun _ _ k => z_istore hB rfl rfl k) (fun hB => ?_)
  refine q_s hB (fun _ _ k => z_aload hB rfl k) (fun hB => ?_)
  refine q_s hB (fun _ _ k => z_iload hB rfl k) (fun hB => ?_)
  refine q_s hB (fun _ _ k => x_cC hB (rest := []) rfl rfl rfl S.1.1 S.1.2 xs_183 k5 k) (fun hB => ?_)
  refine q_s hB (fun _ _ k => z_aload hB rfl k) (fun hB => ?_)
  refine q_s hB (fun _ _ k => x_cC hB (rest := []) rfl rfl rfl S5.1.1 S5.1.2 xs_187 k6 k) (fun hB => ?_)
  refine q_s hB (fun _ _ k => z_if_eq hB (fun h _ => absurd h ((by decide : ¬ jn 1 = 0))) (fun _ => k)) (fun hB => ?_)
  refine q_s hB (fun _ _ k => z_iload hB rfl k) (fun hB => ?_)
  refine q_s hB (fun _ _ k => z_iload hB rfl k) (fun hB => ?_)
  refine q_s hB (fun _ _ k => z_aload hB rfl k) (fun hB => ?_)
  refine q_s hB (fun _ _ k => x_getr hB S5.1.1 S5.1.2 S5.2.2.1.1 k) (fun hB => ?_)
  refine q_s hB (fun _ _ k => z_callS hB (rest := []) rfl rfl rfl k7 k) (fun hB => ?_)
  refine q_s hB (fun _ _ k => x_pop hB rfl k) (fun hB => ?_)
  refine q_s hB (fun _ _ k => z_goto hB k) (fun hB => ?_)
  refine q_s hB (fun _ _ k => z_aload hB rfl k) (fun hB => ?_)
  refine q_s hB (fun _ _ k => z_iload hB rfl k) (fun hB => ?_)
  refine q_s hB (fun _ _ k => x_puti hB (by rw [m7]; exact S5.1.1) ((g7 a S5.1.1).1.1.trans S5.1.2) k) (fun hB => ?_)
  refine q_s hB (fun _ _ k => z_aload hB rfl k) (fun hB => ?_)
  exact q_r (z_reta hB) ⟨rfl, b5, cap5, SB_mk S5 (w' := w_sI w7 a 3 (jn (l.length + (dg v).length))) (Nat.le_of_eq m7.symm) (g7 a S5.1.1).1.1 (g7 b5 S5.2.1.1).1.1 (g7 b5 S5.2.1.1).1.2 (congrFun ((g7 a S5.1.1).2 S5.ne).2.1 0) ((sI_ne (by omega)).trans (congrFun t7 1)) sI_at hq5 (dg_128 hv) (fun i => by rw [sI_na (fun q => S5.ne q.symm)]; exact i7 i), F5.tr (f7.tr (FR_I (by omega)) (Z := fun x => x = a ∨ x = b5) (fun _ _ q => Or.inr q) (fun _ _ q => Or.inl q)) (fun _ _ q => Or.inl q) (fun x hx q => by rcases q with q | q; exact Or.inl q; rcases d5 with d5 | d5; exact Or.inr (q.trans d5); omega), by show w_n w7 ≤ _; omega, d5⟩
theorem n_appI {G : z_G} {w : ev_W} (hl : G.2.2.stackTraces = false) {a b cap : Nat} {l : List Nat} (S : SB w a b cap l) {v : Nat} (hv : v < 17) (h2 : l.length + 2 ≤ 300) (hll : w_l w = true) (hn : w_n w < 999) : z_N G 176 [.ref a, .int (jn v)] w (fun v1 w1 => v1 = some (.ref a) ∧ SBp w w1 a b (l ++ dg v)) := by
  refine q_con hl (ml := 2) (by decide +kernel) rfl rfl ?_
  obtain ⟨v5, w5, k5, rfl, h5⟩ := n_apI hl S hv h2 hll hn
  have hB : z_all [z_is 176 0 (zf_aload 0 0 1), z_is 176 1 (zf_iload 1 1 2), z_at 176 2 (zx_cS 2 182 1 5), z_at 176 5 (zx_pop 5 6), z_is 176 6 (zf_aload 6 0 7), z_is 176 7 (zf_ret 5)] = true := by decide +kernel
  refine q_s hB (fun _ _ k => z_aload hB rfl k) (fun hB => ?_)
  refine q_s hB (fun _ _ k => z_iload hB rfl k) (fun hB => ?_)
  refine q_s hB (fun _ _ k => x_cS hB (rest := []) rfl rfl rfl S.1.1 S.1.2 xs_182 k5 k) (fun hB => ?_)
  refine q_s hB (fun _ _ k => x_pop hB rfl k) (fun hB => ?_)
  refine q_s hB (fun _ _ k => z_aload hB rfl k) (fun hB => ?_)
  exact q_r (z_reta hB) ⟨rfl, h5⟩
