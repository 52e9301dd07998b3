/-! the law's cell, the constructors of its flag and its desk: by wip/gen/p64/j98h.py -/
/-- the script's k-th int, 0 behind its end -/
def sc (w : ev_W) (k : Nat) : Int32 := if k < w_L w ev_S then w_I w ev_S k else 0
theorem sc_fr {X : Nat → Prop} {w w1 : ev_W} (F : FR X w w1) (k : Nat) : sc w1 k = sc w k := by
  unfold sc
  rw [F.2.1.1, F.2.1.2]
theorem n_cel1 {G : z_G} {w : ev_W} (hl : G.2.2.stackTraces = false) {k : Nat} (hL : w_L w ev_S ≤ 1000) (hk : k < 1000) (h9 : k < w_L w ev_S) : z_N G 157 [.ref ev_S, .int (jn k)] w (fun v w1 => v = some (.int (w_I w ev_S k)) ∧ w1 = w) := by
  refine q_con hl (ml := 2) (by decide +kernel) rfl rfl ?_
  have hB : z_all [z_is 157 0 (zf_iload 0 1 1), z_is 157 1 (zf_aload 1 0 2), z_at 157 2 (zx_slen 2 3), z_is 157 3 (zf_if2 .ge 3 12 6), z_is 157 6 (zf_aload 6 0 7), z_is 157 7 (zf_iload 7 1 8), z_at 157 8 (zx_sald 8 9), z_is 157 9 (zf_goto 9 13), z_is 157 13 (zf_ret 0)] = true := by decide +kernel
  refine q_s hB (fun _ _ k => z_iload hB rfl k) (fun hB => ?_)
  refine q_s hB (fun _ _ k => z_aload hB rfl k) (fun hB => ?_)
  refine q_s hB (fun _ _ k => x_slen (u_ := ()) hB k) (fun hB => ?_)
  rw [show Int32.ofNat (w_L w ev_S) = jn (w_L w ev_S) from rfl]
  refine q_s hB (fun _ _ k => z_ic_ge hB (fun h _ => absurd ((by rw [jn_lt (by omega) (by omega)]; exact h9)) h) (fun _ => k)) (fun hB => ?_)
  refine q_s hB (fun _ _ k => z_aload hB rfl k) (fun hB => ?_)
  refine q_s hB (fun _ _ k => z_iload hB rfl k) (fun hB => ?_)
  refine q_s hB (fun _ _ k => x_sald hB (jn_ok (by omega) h9) k) (fun hB => ?_)
  rw [jn_n (by omega)]
  refine q_s hB (fun _ _ k => z_goto hB k) (fun hB => ?_)
  exact q_r (z_reti hB) ⟨rfl, rfl⟩
theorem n_cel2 {G : z_G} {w : ev_W} (hl : G.2.2.stackTraces = false) {k : Nat} (hL : w_L w ev_S ≤ 1000) (hk : k < 1000) (h9 : ¬ k < w_L w ev_S) : z_N G 157 [.ref ev_S, .int (jn k)] w (fun v w1 => v = some (.int (jn 0)) ∧ w1 = w) := by
  refine q_con hl (ml := 2) (by decide +kernel) rfl rfl ?_
  have hB : z_all [z_is 157 0 (zf_iload 0 1 1), z_is 157 1 (zf_aload 1 0 2), z_at 157 2 (zx_slen 2 3), z_is 157 3 (zf_if2 .ge 3 12 6), z_is 157 12 (zf_cst 12 (jn 0) 13), z_is 157 13 (zf_ret 0)] = true := by decide +kernel
  refine q_s hB (fun _ _ k => z_iload hB rfl k) (fun hB => ?_)
  refine q_s hB (fun _ _ k => z_aload hB rfl k) (fun hB => ?_)
  refine q_s hB (fun _ _ k => x_slen (u_ := ()) hB k) (fun hB => ?_)
  rw [show Int32.ofNat (w_L w ev_S) = jn (w_L w ev_S) from rfl]
  refine q_s hB (fun _ _ k => z_ic_ge hB (fun _ => k) (fun h _ => absurd h ((by rw [jn_lt (by omega) (by omega)]; exact h9)))) (fun hB => ?_)
  refine q_s hB (fun _ _ k => z_cst hB k) (fun hB => ?_)
  exact q_r (z_reti hB) ⟨rfl, rfl⟩
theorem n_cell {G : z_G} {w : ev_W} (hl : G.2.2.stackTraces = false) {k : Nat} (hL : w_L w ev_S ≤ 1000) (hk : k < 1000) : z_K G 157 [.ref ev_S, .int (jn k)] w (.inl (some (.int (sc w k)))) w := by
  unfold sc
  by_cases h : k < w_L w ev_S
  · rw [if_pos h]; exact n_k (n_cel1 hl hL hk h)
  · rw [if_neg h]; exact n_k (n_cel2 hl hL hk h)
theorem n_flag {G : z_G} {w : ev_W} (hl : G.2.2.stackTraces = false) {a : Nat} (ha : a < w_n w) (hk : w_K w a = 16) : z_N G 153 [.ref a] w (fun v w1 => v = none ∧ w1 = w_sI (w_sI w a 8 (jg 1)) a 9 (jg 1)) := by
  refine q_con hl (ml := 1) (by decide +kernel) rfl rfl ?_
  have hB : z_all [z_is 153 0 (zf_aload 0 0 1), z_is 153 1 (zx_obj 1 4), z_is 153 4 (zf_aload 4 0 5), z_is 153 5 (zf_cst 5 (jg 1) 6), z_at 153 6 (zf_pi 6 16 8 9), z_is 153 9 (zf_aload 9 0 10), z_is 153 10 (zf_cst 10 (jg 1) 11), z_at 153 11 (zf_pi 11 16 9 14), z_is 153 14 (zf_ret 6)] = true := by decide +kernel
  refine q_s hB (fun _ _ k => z_aload hB rfl k) (fun hB => ?_)
  refine q_s hB (fun _ _ k => x_obj hB rfl k) (fun hB => ?_)
  refine q_s hB (fun _ _ k => z_aload hB rfl k) (fun hB => ?_)
  refine q_s hB (fun _ _ k => z_cst hB k) (fun hB => ?_)
  refine q_s hB (fun _ _ k => x_puti hB ha hk k) (fun hB => ?_)
  refine q_s hB (fun _ _ k => z_aload hB rfl k) (fun hB => ?_)
  refine q_s hB (fun _ _ k => z_cst hB k) (fun hB => ?_)
  refine q_s hB (fun _ _ k => x_puti hB ha hk k) (fun hB => ?_)
  exact q_r (z_retv hB) ⟨rfl, rfl⟩
theorem n_desk0 {G : z_G} {w : ev_W} (hl : G.2.2.stackTraces = false) {a : Nat} (ha : a < w_n w) (hk : w_K w a = 8) (hll : w_l w = true) (hn : w_n w < 1000) : z_N G 148 [.ref a] w (fun v w1 => v = none ∧ AL w1 (w_n w) (ev_S + 100) [] ∧ w_R w1 a 11 = some (w_n w) ∧ FR (fun x => x = a) w w1 ∧ w_n w1 = w_n w + 1) := by
  refine q_con hl (ml := 1) (by decide +kernel) rfl rfl ?_
  have an : ¬ w_n w = a := fun q => absurd q.symm (Nat.ne_of_lt ha)
  have F0 := FR_nw (w := w) (k := 17) (len := 3) (by omega) (by omega)
  obtain ⟨v5, w5, k5, rfl, A5, F5, n5⟩ := n_alin (w := w_nw w 17 3) hl (a := w_n w) (Nat.lt_succ_self _) (nw_K (w := w) (k := 17) (n := 3)) (by show ev_u1 (w_I w) (w_n w) (fun _ => 0) (w_n w) 2 = 0; rw [ev_u1_at]) (by show w_n w + 1 ≤ 1000; omega)
  have F6 := F0.tr F5 (Z := fun x => x = w_n w) (fun _ _ q => q.elim) (fun _ _ q => q)
  have h6 := F6.2.2 a ha
  have n6 : w_n w5 = w_n w + 1 := n5
  have hB : z_all [z_is 148 0 (zf_aload 0 0 1), z_is 148 1 (zx_obj 1 4), z_is 148 4 (zf_aload 4 0 5), z_at 148 5 (zx_new 5 17 3 8), z_at 148 8 (zx_dup 8 9), z_at 148 9 (zx_cI 9 163 0 12), z_at 148 12 (zf_pr 12 8 11 15), z_is 148 15 (zf_ret 6)] = true := by decide +kernel
  refine q_s hB (fun _ _ k => z_aload hB rfl k) (fun hB => ?_)
  refine q_s hB (fun _ _ k => x_obj hB rfl k) (fun hB => ?_)
  refine q_s hB (fun _ _ k => z_aload hB rfl k) (fun hB => ?_)
  refine q_s hB (fun _ _ k => x_new hB hll hn k) (fun hB => ?_)
  refine q_s hB (fun _ _ k => x_dup hB rfl k) (fun hB => ?_)
  refine q_s hB (fun _ _ k => x_cI hB (rest := [.ref (w_n w), .ref a]) rfl rfl rfl (Nat.lt_succ_self _) k5 k) (fun hB => ?_)
  refine q_s hB (fun _ _ k => x_putr hB (by rw [n6]; omega) (h6.1.1.trans hk) k) (fun hB => ?_)
  exact q_r (z_retv hB) ⟨rfl, A5.fr (X := fun x => x = a) FR_R an (fun q => fun z => by unfold ev_S at z; omega), sR_at, F6.tr FR_R (fun x hx q => by omega) (fun _ _ q => q), n6⟩
