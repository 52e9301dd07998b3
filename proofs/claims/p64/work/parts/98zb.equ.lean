/-! Arrays.equals of two rows of a hundred longs that are alike: by wip/gen/p64/j98zb.py -/
theorem lcmp_self (x : Int64) : lg_cmp x x = jn 0 := by
  unfold lg_cmp
  rw [if_neg (show ¬ x > x from Int64.lt_irrefl), if_pos rfl]
  rfl
def voff (i : Nat) : Int64 := Int32.toInt64 16 + ((jn i).toInt64 <<< (Int32.toInt64 3 &&& 63))
theorem voff_i : ∀ i : Fin 100, ¬ voff i.val < 0 ∧ (voff i.val).toNatClampNeg = 16 + 8 * i.val ∧ voff i.val &&& 7 = 0 := by decide +kernel
theorem n_vm_lp {G : z_G} {w : ev_W} {a b : Nat} (ha : a < w_n w ∧ w_K w a = 14 ∧ w_L w a = 100) (hb : b < w_n w ∧ w_K w b = 14 ∧ w_L w b = 100) (hs : ∀ c, c < 100 → w_J w a c = w_J w b c) : ∀ (k i : Nat) (x10 x11 x12 x13 x14 x15 x16 x17 x18 : Option Value), i + k = 100 → z_Q G 212 11 [some (.ref a), some (.long (Int32.toInt64 16)), none, some (.ref b), some (.long (Int32.toInt64 16)), none, some (.int (jn 100)), some (.int 3), some (.int (jn 0)), some (.int (jn i)), x10, x11, x12, x13, x14, x15, x16, x17, x18] [] w (fun v w1 => v = some (.int (jg 1)) ∧ w1 = w) := by
  intro k
  induction k with
  | zero =>
    intro i x10 x11 x12 x13 x14 x15 x16 x17 x18 e
    have e2 : i = 100 := by omega
    rw [e2]
    have hB : z_all [z_is 212 11 (zf_iload 11 9 13), z_is 212 13 (zf_iload 13 6 15), z_is 212 15 (zf_iload 15 8 17), z_is 212 17 (zf_ishr 17 18), z_is 212 18 (zf_if2 .ge 18 122 21), z_is 212 122 (zf_iload 122 6 124), z_is 212 124 (zf_iload 124 9 126), z_is 212 126 (zf_iload 126 8 128), z_is 212 128 (zf_ishl 128 129), z_is 212 129 (zf_isub 129 130), z_is 212 130 (zf_istore 130 10 132), z_is 212 132 (zf_iload 132 7 134), z_at 212 134 (zx_lin2 134 137), z_is 212 137 (zf_if2 .ge 137 263 140), z_is 212 263 (zf_iload 263 10 265), z_is 212 265 (zf_cst 265 (jg 1) 266), z_is 212 266 (zf_ixor 266 267), z_is 212 267 (zf_ret 0)] = true := by decide +kernel
    refine q_s hB (fun _ _ k => z_iload hB rfl k) (fun hB => ?_)
    refine q_s hB (fun _ _ k => z_iload hB rfl k) (fun hB => ?_)
    refine q_s hB (fun _ _ k => z_iload hB rfl k) (fun hB => ?_)
    refine q_s hB (fun _ _ k => z_ishr hB k) (fun hB => ?_)
    refine q_s hB (fun _ _ k => z_ic_ge hB (fun _ => k) (fun h _ => absurd h ((by decide)))) (fun hB => ?_)
    refine q_s hB (fun _ _ k => z_iload hB rfl k) (fun hB => ?_)
    refine q_s hB (fun _ _ k => z_iload hB rfl k) (fun hB => ?_)
    refine q_s hB (fun _ _ k => z_iload hB rfl k) (fun hB => ?_)
    refine q_s hB (fun _ _ k => z_ishl hB k) (fun hB => ?_)
    refine q_s hB (fun _ _ k => z_isub hB k) (fun hB => ?_)
    refine q_s hB (fun _ _ k => z_istore hB rfl rfl k) (fun hB => ?_)
    refine q_s hB (fun _ _ k => z_iload hB rfl k) (fun hB => ?_)
    refine q_s hB (fun _ _ k => x_lin2 hB k) (fun hB => ?_)
    refine q_s hB (fun _ _ k => z_ic_ge hB (fun _ => k) (fun h _ => absurd h ((by decide)))) (fun hB => ?_)
    refine q_s hB (fun _ _ k => z_iload hB rfl k) (fun hB => ?_)
    refine q_s hB (fun _ _ k => z_cst hB k) (fun hB => ?_)
    refine q_s hB (fun _ _ k => z_ixor hB k) (fun hB => ?_)
    exact q_r (z_reti hB) ⟨congrArg (fun q => some (Value.int q)) (by decide), rfl⟩
  | succ k ih =>
    intro i x10 x11 x12 x13 x14 x15 x16 x17 x18 e
    obtain ⟨v1, v2, v3⟩ := voff_i ⟨i, by omega⟩
    dsimp only at v1 v2 v3
    have s9 := hs i (by omega)
    have hB : z_all [z_is 212 11 (zf_iload 11 9 13), z_is 212 13 (zf_iload 13 6 15), z_is 212 15 (zf_iload 15 8 17), z_is 212 17 (zf_ishr 17 18), z_is 212 18 (zf_if2 .ge 18 122 21), z_is 212 21 (zf_iload 21 9 23), z_at 212 23 (zx_ilong 23 24), z_at 212 24 (zx_lsca 24 27), z_at 212 27 (zx_lshl 27 28), z_at 212 28 (zx_lstore 28 10 30), z_at 212 30 (zx_usU 30 33), z_is 212 33 (zf_aload 33 0 34), z_at 212 34 (zx_lload 34 1 35), z_at 212 35 (zx_lload 35 10 37), z_at 212 37 (zx_ladd 37 38), z_at 212 38 (zx_ugl 38 41), z_at 212 41 (zx_lstore 41 12 43), z_at 212 43 (zx_usU 43 46), z_is 212 46 (zf_aload 46 3 47), z_at 212 47 (zx_lload 47 4 49), z_at 212 49 (zx_lload 49 10 51), z_at 212 51 (zx_ladd 51 52), z_at 212 52 (zx_ugl 52 55), z_at 212 55 (zx_lstore 55 14 57), z_at 212 57 (zx_lload 57 12 59), z_at 212 59 (zx_lload 59 14 61), z_at 212 61 (zx_lcmp 61 62), z_is 212 62 (zf_if1 .eq 62 116 65), z_is 212 116 (zf_iinc 116 9 (jn 1) 119), z_is 212 119 (zf_goto 119 11)] = true := by decide +kernel
    refine q_s hB (fun _ _ k => z_iload hB rfl k) (fun hB => ?_)
    refine q_s hB (fun _ _ k => z_iload hB rfl k) (fun hB => ?_)
    refine q_s hB (fun _ _ k => z_iload hB rfl k) (fun hB => ?_)
    refine q_s hB (fun _ _ k => z_ishr hB k) (fun hB => ?_)
    refine q_s hB (fun _ _ k => z_ic_ge hB (fun h _ => absurd ((by rw [show jn 100 >>> (jn 0 &&& 31) = jn 100 from by decide, jn_lt (by omega) (by omega)]; omega)) h) (fun _ => k)) (fun hB => ?_)
    refine q_s hB (fun _ _ k => z_iload hB rfl k) (fun hB => ?_)
    refine q_s hB (fun _ _ k => x_ilong hB k) (fun hB => ?_)
    refine q_s hB (fun _ _ k => x_lsca hB k) (fun hB => ?_)
    refine q_s hB (fun _ _ k => x_lshl hB k) (fun hB => ?_)
    refine q_s hB (fun _ _ k => x_lstore hB rfl rfl k) (fun hB => ?_)
    refine q_s hB (fun _ _ k => x_usU hB k) (fun hB => ?_)
    refine q_s hB (fun _ _ k => z_aload hB rfl k) (fun hB => ?_)
    refine q_s hB (fun _ _ k => x_lload hB rfl k) (fun hB => ?_)
    refine q_s hB (fun _ _ k => x_lload hB rfl k) (fun hB => ?_)
    refine q_s hB (fun _ _ k => x_ladd hB k) (fun hB => ?_)
    refine q_s hB (fun _ _ k => x_ugl hB (a := a) (i := i) ha.1 ha.2.1 (by rw [ha.2.2]; omega) v1 v2 v3 rfl k) (fun hB => ?_)
    refine q_s hB (fun _ _ k => x_lstore hB rfl rfl k) (fun hB => ?_)
    refine q_s hB (fun _ _ k => x_usU hB k) (fun hB => ?_)
    refine q_s hB (fun _ _ k => z_aload hB rfl k) (fun hB => ?_)
    refine q_s hB (fun _ _ k => x_lload hB rfl k) (fun hB => ?_)
    refine q_s hB (fun _ _ k => x_lload hB rfl k) (fun hB => ?_)
    refine q_s hB (fun _ _ k => x_ladd hB k) (fun hB => ?_)
    refine q_s hB (fun _ _ k => x_ugl hB (a := b) (i := i) hb.1 hb.2.1 (by rw [hb.2.2]; omega) v1 v2 v3 rfl k) (fun hB => ?_)
    refine q_s hB (fun _ _ k => x_lstore hB rfl rfl k) (fun hB => ?_)
    refine q_s hB (fun _ _ k => x_lload hB rfl k) (fun hB => ?_)
    refine q_s hB (fun _ _ k => x_lload hB rfl k) (fun hB => ?_)
    refine q_s hB (fun _ _ k => x_lcmp hB k) (fun hB => ?_)
    refine q_s hB (fun _ _ k => z_if_eq hB (fun _ => k) (fun h _ => absurd ((by rw [s9]; exact lcmp_self _)) h)) (fun hB => ?_)
    refine q_s hB (fun _ _ k => z_iinc hB rfl rfl k) (fun hB => ?_)
    rw [jn_add]
    refine q_s hB (fun _ _ k => z_goto hB k) (fun hB => ?_)
    exact ih (i + 1) _ _ _ _ _ _ _ _ _ (by omega)
theorem n_vm {G : z_G} {w : ev_W} (hl : G.2.2.stackTraces = false) {a b : Nat} (ha : a < w_n w ∧ w_K w a = 14 ∧ w_L w a = 100) (hb : b < w_n w ∧ w_K w b = 14 ∧ w_L w b = 100) (hs : ∀ c, c < 100 → w_J w a c = w_J w b c) : z_N G 212 [.ref a, .long (Int32.toInt64 16), .ref b, .long (Int32.toInt64 16), .int (jn 100), .int 3] w (fun v w1 => v = some (.int (jg 1)) ∧ w1 = w) := by
  refine q_conL hl (ml := 19) (by decide +kernel) rfl ?_
  have hB : z_all [z_at 212 0 (zx_lsca 0 3), z_is 212 3 (zf_iload 3 7 5), z_is 212 5 (zf_isub 5 6), z_is 212 6 (zf_istore 6 8 8), z_is 212 8 (zf_cst 8 (jn 0) 9), z_is 212 9 (zf_istore 9 9 11)] = true := by decide +kernel
  refine q_s hB (fun _ _ k => x_lsca hB k) (fun hB => ?_)
  refine q_s hB (fun _ _ k => z_iload hB rfl k) (fun hB => ?_)
  refine q_s hB (fun _ _ k => z_isub hB k) (fun hB => ?_)
  rw [show (3 : Int32) - 3 = jn 0 from by decide]
  refine q_s hB (fun _ _ k => z_istore hB rfl rfl k) (fun hB => ?_)
  refine q_s hB (fun _ _ k => z_cst hB k) (fun hB => ?_)
  refine q_s hB (fun _ _ k => z_istore hB rfl rfl k) (fun hB => ?_)
  exact n_vm_lp ha hb hs 100 0 _ _ _ _ _ _ _ _ _ (by omega)
theorem n_mm {G : z_G} {w : ev_W} (hl : G.2.2.stackTraces = false) {a b : Nat} (ha : a < w_n w ∧ w_K w a = 14 ∧ w_L w a = 100) (hb : b < w_n w ∧ w_K w b = 14 ∧ w_L w b = 100) (hs : ∀ c, c < 100 → w_J w a c = w_J w b c) : z_N G 211 [.ref a, .ref b, .int (jn 100)] w (fun v w1 => v = some (.int (jg 1)) ∧ w1 = w) := by
  obtain ⟨v9, w9, k9, e9, rfl⟩ := n_vm hl ha hb hs
  rw [e9] at k9
  have s9 := hs 0 (by omega)
  refine q_con hl (ml := 4) (by decide +kernel) rfl rfl ?_
  have hB : z_all [z_is 211 0 (zf_iload 0 2 1), z_is 211 1 (zf_if1 .ne 1 6 4), z_is 211 6 (zf_aload 6 0 7), z_is 211 7 (zf_cst 7 (jn 0) 8), z_at 211 8 (zx_lald 8 9), z_is 211 9 (zf_aload 9 1 10), z_is 211 10 (zf_cst 10 (jn 0) 11), z_at 211 11 (zx_lald 11 12), z_at 211 12 (zx_lcmp 12 13), z_is 211 13 (zf_if1 .eq 13 18 16), z_is 211 18 (zf_aload 18 0 19), z_at 211 19 (zx_lbas 19 22), z_at 211 22 (zx_ilong 22 23), z_is 211 23 (zf_aload 23 1 24), z_at 211 24 (zx_lbas 24 27), z_at 211 27 (zx_ilong 27 28), z_is 211 28 (zf_iload 28 2 29), z_at 211 29 (zx_lsca 29 32), z_is 211 32 (zf_cs 32 212 6 35), z_is 211 35 (zf_istore 35 3 36), z_is 211 36 (zf_iload 36 3 37), z_is 211 37 (zf_if1 .lt 37 44 40), z_is 211 44 (zf_cst 44 (jg 1) 45), z_is 211 45 (zf_ret 0)] = true := by decide +kernel
  refine q_s hB (fun _ _ k => z_iload hB rfl k) (fun hB => ?_)
  refine q_s hB (fun _ _ k => z_if_ne hB (fun _ => k) (fun h _ => absurd h ((by decide)))) (fun hB => ?_)
  refine q_s hB (fun _ _ k => z_aload hB rfl k) (fun hB => ?_)
  refine q_s hB (fun _ _ k => z_cst hB k) (fun hB => ?_)
  refine q_s hB (fun _ _ k => x_lald hB ha.1 ha.2.1 (by rw [ha.2.2]; decide) k) (fun hB => ?_)
  refine q_s hB (fun _ _ k => z_aload hB rfl k) (fun hB => ?_)
  refine q_s hB (fun _ _ k => z_cst hB k) (fun hB => ?_)
  refine q_s hB (fun _ _ k => x_lald hB hb.1 hb.2.1 (by rw [hb.2.2]; decide) k) (fun hB => ?_)
  refine q_s hB (fun _ _ k => x_lcmp hB k) (fun hB => ?_)
  refine q_s hB (fun _ _ k => z_if_eq hB (fun _ => k) (fun h _ => absurd ((by show lg_cmp (w_J _ a 0) (w_J _ b 0) = 0; rw [s9]; exact lcmp_self _)) h)) (fun hB => ?_)
  refine q_s hB (fun _ _ k => z_aload hB rfl k) (fun hB => ?_)
  refine q_s hB (fun _ _ k => x_lbas hB k) (fun hB => ?_)
  refine q_s hB (fun _ _ k => x_ilong hB k) (fun hB => ?_)
  refine q_s hB (fun _ _ k => z_aload hB rfl k) (fun hB => ?_)
  refine q_s hB (fun _ _ k => x_lbas hB k) (fun hB => ?_)
  refine q_s hB (fun _ _ k => x_ilong hB k) (fun hB => ?_)
  refine q_s hB (fun _ _ k => z_iload hB rfl k) (fun hB => ?_)
  refine q_s hB (fun _ _ k => x_lsca hB k) (fun hB => ?_)
  refine q_s hB (fun _ _ k => z_callS hB (rest := []) rfl rfl rfl k9 k) (fun hB => ?_)
  refine q_s hB (fun _ _ k => z_istore hB rfl rfl k) (fun hB => ?_)
  refine q_s hB (fun _ _ k => z_iload hB rfl k) (fun hB => ?_)
  refine q_s hB (fun _ _ k => z_if_lt hB (fun _ => k) (fun h _ => absurd ((by decide)) h)) (fun hB => ?_)
  refine q_s hB (fun _ _ k => z_cst hB k) (fun hB => ?_)
  exact q_r (z_reti hB) ⟨rfl, rfl⟩
theorem n_equ {G : z_G} {w : ev_W} (hl : G.2.2.stackTraces = false) {a b : Nat} (ha : a < w_n w ∧ w_K w a = 14 ∧ w_L w a = 100) (hb : b < w_n w ∧ w_K w b = 14 ∧ w_L w b = 100) (hab : ¬ a = b) (hs : ∀ c, c < 100 → w_J w a c = w_J w b c) : z_N G 209 [.ref a, .ref b] w (fun v w1 => v = some (.int (jn 1)) ∧ w1 = w) := by
  obtain ⟨v9, w9, k9, e9, rfl⟩ := n_mm hl ha hb hs
  rw [e9] at k9
  refine q_con hl (ml := 3) (by decide +kernel) rfl rfl ?_
  have hB : z_all [z_is 209 0 (zf_aload 0 0 1), z_is 209 1 (zf_aload 1 1 2), z_at 209 2 (zx_aneN 2 7), z_is 209 7 (zf_aload 7 0 8), z_at 209 8 (zx_nun 8 11), z_is 209 11 (zf_aload 11 1 12), z_at 209 12 (zx_nnj 12 17), z_is 209 17 (zf_aload 17 0 18), z_at 209 18 (zx_alen 18 19), z_is 209 19 (zf_istore 19 2 20), z_is 209 20 (zf_aload 20 1 21), z_at 209 21 (zx_alen 21 22), z_is 209 22 (zf_iload 22 2 23), z_is 209 23 (zf_if2 .eq 23 28 26), z_is 209 28 (zf_aload 28 0 29), z_is 209 29 (zf_aload 29 1 30), z_is 209 30 (zf_iload 30 2 31), z_is 209 31 (zf_cs 31 211 3 34), z_is 209 34 (zf_if1 .ge 34 41 37), z_is 209 37 (zf_cst 37 (jn 1) 38), z_is 209 38 (zf_goto 38 42), z_is 209 42 (zf_ret 1)] = true := by decide +kernel
  refine q_s hB (fun _ _ k => z_aload hB rfl k) (fun hB => ?_)
  refine q_s hB (fun _ _ k => z_aload hB rfl k) (fun hB => ?_)
  refine q_s hB (fun _ _ k => x_aneN hB (fun D cy base ext hM q => hab (by obtain ⟨H, hM⟩ := hM; have q1 := Option.some.inj q; have e1 : Value.ref (ev_ρ base ext a) = .ref (base + a) := ev_v_ref ⟨H, hM⟩ ha.1; have e2 : Value.ref (ev_ρ base ext b) = .ref (base + b) := ev_v_ref ⟨H, hM⟩ hb.1; exact Nat.add_left_cancel (((Value.ref.inj e1).symm.trans q1).trans (Value.ref.inj e2)))) k) (fun hB => ?_)
  refine q_s hB (fun _ _ k => z_aload hB rfl k) (fun hB => ?_)
  refine q_s hB (fun _ _ k => x_nun hB k) (fun hB => ?_)
  refine q_s hB (fun _ _ k => z_aload hB rfl k) (fun hB => ?_)
  refine q_s hB (fun _ _ k => x_nnj hB k) (fun hB => ?_)
  refine q_s hB (fun _ _ k => z_aload hB rfl k) (fun hB => ?_)
  refine q_s hB (fun _ _ k => x_alen hB ha.1 (by rw [ha.2.1]; omega) (by rw [ha.2.1]; omega) k) (fun hB => ?_)
  rw [ha.2.2, show Int32.ofNat 100 = jn 100 from rfl]
  refine q_s hB (fun _ _ k => z_istore hB rfl rfl k) (fun hB => ?_)
  refine q_s hB (fun _ _ k => z_aload hB rfl k) (fun hB => ?_)
  refine q_s hB (fun _ _ k => x_alen hB hb.1 (by rw [hb.2.1]; omega) (by rw [hb.2.1]; omega) k) (fun hB => ?_)
  rw [hb.2.2, show Int32.ofNat 100 = jn 100 from rfl]
  refine q_s hB (fun _ _ k => z_iload hB rfl k) (fun hB => ?_)
  refine q_s hB (fun _ _ k => z_ic_eq hB (fun _ => k) (fun h _ => absurd (rfl) h)) (fun hB => ?_)
  refine q_s hB (fun _ _ k => z_aload hB rfl k) (fun hB => ?_)
  refine q_s hB (fun _ _ k => z_aload hB rfl k) (fun hB => ?_)
  refine q_s hB (fun _ _ k => z_iload hB rfl k) (fun hB => ?_)
  refine q_s hB (fun _ _ k => z_callS hB (rest := []) rfl rfl rfl k9 k) (fun hB => ?_)
  refine q_s hB (fun _ _ k => z_if_ge hB (fun h _ => absurd ((by decide)) h) (fun _ => k)) (fun hB => ?_)
  refine q_s hB (fun _ _ k => z_cst hB k) (fun hB => ?_)
  refine q_s hB (fun _ _ k => z_goto hB k) (fun hB => ?_)
  exact q_r (z_retz hB (Or.inr rfl)) ⟨rfl, rfl⟩
