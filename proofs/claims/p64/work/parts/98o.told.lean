/-! letters into ints and into the class's buffer: by wip/gen/p64/j98o.py -/
def wu (x : Int32) : Nat := x.toBitVec.toNat
theorem wu_lt (x : Int32) : wu x < 4294967296 := x.toBitVec.isLt
theorem wu_step (x : Int32) {c : Nat} (hc : c < 256) : wu ((x <<< (jn 8 &&& 31)) ||| jn c) = (wu x % 16777216) * 256 + c := by
  have h2 : (jn c).toBitVec.toNat = c := Nat.mod_eq_of_lt (by omega)
  have h1 : (x.toBitVec <<< (8#32)).toNat = (wu x % 16777216) <<< 8 := by
    rw [BitVec.shiftLeft_eq', BitVec.toNat_shiftLeft]
    show wu x <<< 8 % 4294967296 = _
    rw [Nat.shiftLeft_eq, Nat.shiftLeft_eq]
    omega
  unfold wu
  rw [Int32.toBitVec_or, Int32.toBitVec_shiftLeft, show (jn 8 &&& 31 : Int32).toBitVec.smod 32 = 8#32 from by decide, BitVec.toNat_or, h1, h2, ← Nat.shiftLeft_add_eq_or_of_lt (by omega), Nat.shiftLeft_eq]
  rfl
theorem yby_of {x : Int32} {i v : Nat} (h : wu x < 2147483648) (hi : i < 4) (hv : wu x / 2 ^ (24 - 8 * i) % 256 = v) (h128 : v < 128) : yby x i = jn v := by
  have hs : ((jn (24 - 8 * i) &&& 31 : Int32).toBitVec.smod 32).toNat = 24 - 8 * i := by
    rcases (show i = 0 ∨ i = 1 ∨ i = 2 ∨ i = 3 by omega) with rfl | rfl | rfl | rfl <;> decide
  have h0 : x.toBitVec.toInt = (wu x : Int) := BitVec.toInt_eq_toNat_of_lt (by show 2 * wu x < 4294967296; omega)
  have h1 : (x >>> (jn (24 - 8 * i) &&& 31)).toInt = ((wu x / 2 ^ (24 - 8 * i) : Nat) : Int) := by
    show (x >>> (jn (24 - 8 * i) &&& 31)).toBitVec.toInt = _
    rw [Int32.toBitVec_shiftRight, BitVec.toInt_sshiftRight', hs, h0, Int.shiftRight_eq_div_pow]
    rfl
  have h3 : ∀ z : Int32, vp_nar .byte z = z.toInt8.toInt32 := fun z => rfl
  unfold yby
  rw [h3]
  refine Int32.toInt_inj.mp ?_
  rw [Int8.toInt_toInt32, Int32.toInt_toInt8, Int8.toInt_toInt32, Int32.toInt_toInt8, h1, jn_toInt (by omega), Int.bmod_bmod]
  have h4 : ((wu x / 2 ^ (24 - 8 * i) : Nat) : Int) % 256 = (v : Int) := by rw [← hv]; rfl
  generalize ((wu x / 2 ^ (24 - 8 * i) : Nat) : Int) = z9 at h4
  rw [Int.bmod_def]
  show (if z9 % 256 < (256 + 1) / 2 then z9 % 256 else z9 % 256 - 256) = (v : Int)
  rw [h4, if_pos (by omega)]
/-- letters, packed -/
def pk (g : Nat → Nat) (p : Nat) : Nat → Nat
  | 0 => 0
  | t + 1 => pk g p t * 256 + g (p + t)
/-- q letters of g have been put: b of them lie in the class's buffer, k in the five ints of the law's row -/
def TLH (I : z_H) (q : Nat) (g : Nat → Nat) : Prop := ∃ b k, q = b + k ∧ (k < 20 ∧ b % 20 = 0) ∧ (I 0 1 = jn b ∧ ∀ i, i < b → I 1 i = jn (g i)) ∧ (I 241 5 = jn k ∧ I 241 6 = jn q) ∧ ∀ j, j < 5 → wu (I 241 j) % 256 ^ (min 4 (k - 4 * j)) = pk g (b + 4 * j) (min 4 (k - 4 * j))
def PFH (I J : z_H) : Prop := (∀ b, ¬ b = 0 → ¬ b = 1 → ¬ b = 241 → J b = I b) ∧ ∀ k, ¬ k = 1 → J 0 k = I 0 k
theorem PFH.t {I J K : z_H} (h : PFH I J) (h2 : PFH J K) : PFH I K := ⟨fun b a1 a2 a3 => (h2.1 b a1 a2 a3).trans (h.1 b a1 a2 a3), fun k hk => (h2.2 k hk).trans (h.2 k hk)⟩
theorem z_ok241 {G : z_G} {w : ev_W} (ok : z_Ok G w) : 241 < w_n w ∧ w_K w 241 = 10 ∧ w_L w 241 = 7 := ⟨by have := ok.2.1.1; omega, (ok.2.2.2.1 241 (by omega)).1.trans (by decide), (ok.2.2.2.1 241 (by omega)).2.trans (by decide)⟩
theorem z_ok0 {G : z_G} {w : ev_W} (ok : z_Ok G w) : 0 < w_n w ∧ w_K w 0 = 7 := ⟨by have := ok.2.1.1; omega, (ok.2.2.2.1 0 (by omega)).1.trans (by decide)⟩
theorem jdiv4 : ∀ k : Fin 20, jn k.val / jn 4 = jn (k.val / 4) := by decide +kernel
/-- the class's append of five ints -/
theorem c_app {G : z_G} {w : ev_W} (ok : z_Ok G w) {I : z_H} {b : Nat} {v : Nat → Int32} (h : ycb 0 1 1 I b v) (hb : b + 20 ≤ 500) (x1 x2 x3 x4 x5 : Int32) : ∃ J r, z_K G 105 [.ref 0, .int x1, .int x2, .int x3, .int x4, .int x5] (z_w w I) (.inl (some (.int r))) (z_w w J) ∧ ycb 0 1 1 J (b + 4 + 4 + 4 + 4 + 4) (yvx (yvx (yvx (yvx (yvx v b x1 4) (b + 4) x2 4) (b + 4 + 4) x3 4) (b + 4 + 4 + 4) x4 4) (b + 4 + 4 + 4 + 4) x5 4) ∧ yfr 0 1 1 I J := by
  obtain ⟨J1, e1, c1, f1⟩ := sq_store x1 h (by omega)
  obtain ⟨J2, e2, c2, f2⟩ := sq_store x2 c1 (by omega)
  obtain ⟨J3, e3, c3, f3⟩ := sq_store x3 c2 (by omega)
  obtain ⟨J4, e4, c4, f4⟩ := sq_store x4 c3 (by omega)
  obtain ⟨J5, e5, c5, f5⟩ := sq_store x5 c4 (by omega)
  have hA : d_F_append x1 x2 x3 x4 x5 I = some (J5 0 1, J5) := by
    unfold d_F_append
    rw [if_neg (show ¬ jn 500 < I 0 1 + jn 20 by rw [h.1, jn_add, jn_lt (by omega) (by omega)]; omega), e1, ob_s, e2, ob_s, e3, ob_s, e4, ob_s, e5, ob_s]
  exact ⟨J5, J5 0 1, t_F_append ok hA, c5, yfr_t f1 (yfr_t f2 (yfr_t f3 (yfr_t f4 f5)))⟩
theorem n_flsh {G : z_G} {w : ev_W} (hl : G.2.2.stackTraces = false) (ok : z_Ok G w) {I : z_H} {b : Nat} (h : I 0 1 = jn b) (hb : b + 20 ≤ 500) : z_N G 155 [.ref 0, .ref 241] (z_w w I) (fun v w1 => v = none ∧ ∃ J, w1 = z_w w J ∧ PFH I J ∧ J 0 1 = jn (b + 20) ∧ (∀ i, i < b + 20 → J 1 i = if i < b then I 1 i else yby (I 241 ((i - b) / 4)) ((i - b) % 4)) ∧ J 241 5 = jn 0 ∧ ∀ k, ¬ k = 5 → J 241 k = I 241 k) := by
  refine q_con hl (ml := 3) (by decide +kernel) rfl rfl ?_
  have m1 := z_ok241 ok
  have m0 := z_ok0 ok
  obtain ⟨J, r, k9, c9, f9⟩ := c_app ok (I := I) (b := b) (v := I 1) ⟨h, fun k _ => rfl⟩ hb (I 241 0) (I 241 1) (I 241 2) (I 241 3) (I 241 4)
  have hB : z_all [z_is 155 0 (zf_aload 0 0 1), z_is 155 1 (zf_aload 1 1 2), z_is 155 2 (zf_cst 2 (jn 0) 3), z_at 155 3 (zx_iald 3 4), z_is 155 4 (zf_aload 4 1 5), z_is 155 5 (zf_cst 5 (jn 1) 6), z_at 155 6 (zx_iald 6 7), z_is 155 7 (zf_aload 7 1 8), z_is 155 8 (zf_cst 8 (jn 2) 9), z_at 155 9 (zx_iald 9 10), z_is 155 10 (zf_aload 10 1 11), z_is 155 11 (zf_cst 11 (jn 3) 12), z_at 155 12 (zx_iald 12 13), z_is 155 13 (zf_aload 13 1 14), z_is 155 14 (zf_cst 14 (jn 4) 15), z_at 155 15 (zx_iald 15 16), z_is 155 16 (zf_cv 16 105 5 7 19), z_is 155 19 (zf_istore 19 2 20), z_is 155 20 (zf_aload 20 1 21), z_is 155 21 (zf_cst 21 (jn 5) 22), z_is 155 22 (zf_cst 22 (jn 0) 23), z_at 155 23 (zx_iast 23 24), z_is 155 24 (zf_ret 6)] = true := by decide +kernel
  refine q_s hB (fun _ _ k => z_aload hB rfl k) (fun hB => ?_)
  refine q_s hB (fun _ _ k => z_aload hB rfl k) (fun hB => ?_)
  refine q_s hB (fun _ _ k => z_cst hB k) (fun hB => ?_)
  refine q_s hB (fun _ _ k => x_iald hB m1.1 m1.2.1 (by show ev_ok _ (w_L w 241) = true; rw [m1.2.2]; exact jn_ok (by omega) (by omega)) k) (fun hB => ?_)
  rw [jn_n (by omega), show w_I (z_w w I) = I from rfl]
  refine q_s hB (fun _ _ k => z_aload hB rfl k) (fun hB => ?_)
  refine q_s hB (fun _ _ k => z_cst hB k) (fun hB => ?_)
  refine q_s hB (fun _ _ k => x_iald hB m1.1 m1.2.1 (by show ev_ok _ (w_L w 241) = true; rw [m1.2.2]; exact jn_ok (by omega) (by omega)) k) (fun hB => ?_)
  rw [jn_n (by omega), show w_I (z_w w I) = I from rfl]
  refine q_s hB (fun _ _ k => z_aload hB rfl k) (fun hB => ?_)
  refine q_s hB (fun _ _ k => z_cst hB k) (fun hB => ?_)
  refine q_s hB (fun _ _ k => x_iald hB m1.1 m1.2.1 (by show ev_ok _ (w_L w 241) = true; rw [m1.2.2]; exact jn_ok (by omega) (by omega)) k) (fun hB => ?_)
  rw [jn_n (by omega), show w_I (z_w w I) = I from rfl]
  refine q_s hB (fun _ _ k => z_aload hB rfl k) (fun hB => ?_)
  refine q_s hB (fun _ _ k => z_cst hB k) (fun hB => ?_)
  refine q_s hB (fun _ _ k => x_iald hB m1.1 m1.2.1 (by show ev_ok _ (w_L w 241) = true; rw [m1.2.2]; exact jn_ok (by omega) (by omega)) k) (fun hB => ?_)
  rw [jn_n (by omega), show w_I (z_w w I) = I from rfl]
  refine q_s hB (fun _ _ k => z_aload hB rfl k) (fun hB => ?_)
  refine q_s hB (fun _ _ k => z_cst hB k) (fun hB => ?_)
  refine q_s hB (fun _ _ k => x_iald hB m1.1 m1.2.1 (by show ev_ok _ (w_L w 241) = true; rw [m1.2.2]; exact jn_ok (by omega) (by omega)) k) (fun hB => ?_)
  rw [jn_n (by omega), show w_I (z_w w I) = I from rfl]
  refine q_s hB (fun _ _ k => z_callV hB (rest := []) rfl rfl rfl m0.1 m0.2 k9 k) (fun hB => ?_)
  refine q_s hB (fun _ _ k => z_istore hB rfl rfl k) (fun hB => ?_)
  refine q_s hB (fun _ _ k => z_aload hB rfl k) (fun hB => ?_)
  refine q_s hB (fun _ _ k => z_cst hB k) (fun hB => ?_)
  refine q_s hB (fun _ _ k => z_cst hB k) (fun hB => ?_)
  refine q_s hB (fun _ _ k => x_iast hB m1.1 m1.2.1 (by show ev_ok _ (w_L w 241) = true; rw [m1.2.2]; exact jn_ok (by omega) (by omega)) k) (fun hB => ?_)
  rw [jn_n (by omega)]
  refine q_r (z_retv hB) ⟨rfl, ev_u2 J 241 5 (jn 0), rfl, ⟨fun a a1 a2 a3 => (ju_na a3).trans (f9.1 a a1 a2), fun k hk => (congrFun (ju_na (by omega)) k).trans (f9.2 k hk)⟩, (congrFun (ju_na (by omega)) 1).trans c9.1, fun i hi => ?_, ju_at .., fun k hk => (ju_ne (fun q => hk q.2)).trans (congrFun (f9.1 241 (by omega) (by omega)) k)⟩
  rw [ju_na (by omega), c9.2 i (by omega)]
  unfold yvx
  by_cases q0 : i < b
  · rw [if_pos (by omega), if_pos (by omega), if_pos (by omega), if_pos (by omega), if_pos (by omega), if_pos q0]
  · rw [if_neg q0]
    by_cases q1 : i < b + 4
    · rw [if_pos (by omega), if_pos (by omega), if_pos (by omega), if_pos (by omega), if_neg q0, if_pos q1, show (i - b) / 4 = 0 by omega, show (i - b) % 4 = i - b by omega]
    · by_cases q2 : i < b + 4 + 4
      · rw [if_pos (by omega), if_pos (by omega), if_pos (by omega), if_neg (by omega), if_pos q2, show (i - b) / 4 = 1 by omega, show (i - b) % 4 = i - (b + 4) by omega, if_neg q0]
      · by_cases q3 : i < b + 4 + 4 + 4
        · rw [if_pos (by omega), if_pos (by omega), if_neg (by omega), if_pos q3, show (i - b) / 4 = 2 by omega, show (i - b) % 4 = i - (b + 4 + 4) by omega, if_neg q0]
        · by_cases q4 : i < b + 4 + 4 + 4 + 4
          · rw [if_pos (by omega), if_neg (by omega), if_pos q4, show (i - b) / 4 = 3 by omega, show (i - b) % 4 = i - (b + 4 + 4 + 4) by omega, if_neg q0]
          · rw [if_neg q4, if_pos (by omega), show (i - b) / 4 = 4 by omega, show (i - b) % 4 = i - (b + 4 + 4 + 4 + 4) by omega, if_neg q0]
theorem pk_l4 {g : Nat → Nat} (hg : ∀ i, g i < 128) (p : Nat) : pk g p 4 = g p * 16777216 + g (p + 1) * 65536 + g (p + 2) * 256 + g (p + 3) ∧ pk g p 4 < 2147483648 := by
  have h0 := hg p
  have h1 := hg (p + 1)
  have h2 := hg (p + 2)
  have h3 := hg (p + 3)
  have e : pk g p 4 = (((0 * 256 + g (p + 0)) * 256 + g (p + 1)) * 256 + g (p + 2)) * 256 + g (p + 3) := rfl
  rw [Nat.add_zero] at e
  omega
theorem pk_by {g : Nat → Nat} (hg : ∀ i, g i < 128) {x : Int32} {p : Nat} (h : wu x % 256 ^ 4 = pk g p 4) {i : Nat} (hi : i < 4) : yby x i = jn (g (p + i)) := by
  have h9 := pk_l4 hg p
  have h8 := wu_lt x
  have h0 := hg p
  have h1 := hg (p + 1)
  have h2 := hg (p + 2)
  have h3 := hg (p + 3)
  have e : wu x = g p * 16777216 + g (p + 1) * 65536 + g (p + 2) * 256 + g (p + 3) := by
    rw [← h9.1, ← h, show (256 : Nat) ^ 4 = 4294967296 from by decide, Nat.mod_eq_of_lt h8]
  refine yby_of (by omega) hi ?_ (hg _)
  rw [e]
  rcases (show i = 0 ∨ i = 1 ∨ i = 2 ∨ i = 3 by omega) with q | q | q | q <;> subst q
  · show (g p * 16777216 + g (p + 1) * 65536 + g (p + 2) * 256 + g (p + 3)) / 16777216 % 256 = g p
    omega
  · show (g p * 16777216 + g (p + 1) * 65536 + g (p + 2) * 256 + g (p + 3)) / 65536 % 256 = g (p + 1)
    omega
  · show (g p * 16777216 + g (p + 1) * 65536 + g (p + 2) * 256 + g (p + 3)) / 256 % 256 = g (p + 2)
    omega
  · show (g p * 16777216 + g (p + 1) * 65536 + g (p + 2) * 256 + g (p + 3)) / 1 % 256 = g (p + 3)
    omega
theorem pk_step {x : Int32} {g : Nat → Nat} {p t : Nat} (ht : t < 4) (hg : g (p + t) < 256) (h : wu x % 256 ^ t = pk g p t) : wu ((x <<< (jn 8 &&& 31)) ||| jn (g (p + t))) % 256 ^ (t + 1) = pk g p (t + 1) := by
  rw [wu_step x hg]
  show _ = pk g p t * 256 + g (p + t)
  rw [← h]
  have h8 := wu_lt x
  rcases (show t = 0 ∨ t = 1 ∨ t = 2 ∨ t = 3 by omega) with q | q | q | q <;> subst q
  · show (wu x % 16777216 * 256 + g (p + 0)) % 256 = wu x % 1 * 256 + g (p + 0)
    omega
  · show (wu x % 16777216 * 256 + g (p + 1)) % 65536 = wu x % 256 * 256 + g (p + 1)
    omega
  · show (wu x % 16777216 * 256 + g (p + 2)) % 16777216 = wu x % 65536 * 256 + g (p + 2)
    omega
  · show (wu x % 16777216 * 256 + g (p + 3)) % 4294967296 = wu x % 16777216 * 256 + g (p + 3)
    omega
theorem n_putL {G : z_G} {w : ev_W} (hl : G.2.2.stackTraces = false) (ok : z_Ok G w) {I : z_H} {q : Nat} {g : Nat → Nat} (hg : ∀ i, g i < 128) (T : TLH I q g) (hq : q < 480) : z_N G 154 [.ref 0, .ref 241, .int (jn (g q))] (z_w w I) (fun v w1 => v = none ∧ ∃ J, w1 = z_w w J ∧ PFH I J ∧ TLH J (q + 1) g) := by
  refine q_con hl (ml := 4) (by decide +kernel) rfl rfl ?_
  have m1 := z_ok241 ok
  obtain ⟨b, k, e, ⟨k20, b20⟩, ⟨i1, i2⟩, ⟨h5, h6⟩, h7⟩ := T
  have hd4 : jn k / jn 4 = jn (k / 4) := jdiv4 ⟨k, k20⟩
  have hgq := hg q
  have g9 : PFH I (ev_u2 (ev_u2 (ev_u2 I 241 (k / 4) ((I 241 (k / 4) <<< (jn 8 &&& 31)) ||| jn (g q))) 241 5 (jn (k + 1))) 241 6 (jn (q + 1))) := ⟨fun a a1 a2 a3 => (ju_na a3).trans ((ju_na a3).trans (ju_na a3)), fun a ha => (congrFun (ju_na (by omega)) a).trans ((congrFun (ju_na (by omega)) a).trans (congrFun (ju_na (by omega)) a))⟩
  have j5 : (ev_u2 (ev_u2 (ev_u2 I 241 (k / 4) ((I 241 (k / 4) <<< (jn 8 &&& 31)) ||| jn (g q))) 241 5 (jn (k + 1))) 241 6 (jn (q + 1))) 241 5 = jn (k + 1) := (ju_ne (by omega)).trans (ju_at ..)
  have j6 : (ev_u2 (ev_u2 (ev_u2 I 241 (k / 4) ((I 241 (k / 4) <<< (jn 8 &&& 31)) ||| jn (g q))) 241 5 (jn (k + 1))) 241 6 (jn (q + 1))) 241 6 = jn (q + 1) := ju_at ..
  have jj : ∀ j, j < 5 → (ev_u2 (ev_u2 (ev_u2 I 241 (k / 4) ((I 241 (k / 4) <<< (jn 8 &&& 31)) ||| jn (g q))) 241 5 (jn (k + 1))) 241 6 (jn (q + 1))) 241 j = if j = k / 4 then ((I 241 (k / 4) <<< (jn 8 &&& 31)) ||| jn (g q)) else I 241 j := fun j hj => by
    by_cases q9 : j = k / 4
    · rw [if_pos q9, q9]
      exact (ju_ne (by omega)).trans ((ju_ne (by omega)).trans (ju_at ..))
    · rw [if_neg q9]
      exact (ju_ne (by omega)).trans ((ju_ne (by omega)).trans (ju_ne (fun z => q9 z.2)))
  have j7 : ∀ j, j < 5 → wu ((ev_u2 (ev_u2 (ev_u2 I 241 (k / 4) ((I 241 (k / 4) <<< (jn 8 &&& 31)) ||| jn (g q))) 241 5 (jn (k + 1))) 241 6 (jn (q + 1))) 241 j) % 256 ^ (min 4 (k + 1 - 4 * j)) = pk g (b + 4 * j) (min 4 (k + 1 - 4 * j)) := fun j hj => by
    rw [jj j hj]
    have h8 := h7 j hj
    by_cases q9 : j = k / 4
    · rw [if_pos q9]
      rw [show min 4 (k - 4 * j) = k % 4 by omega] at h8
      rw [show min 4 (k + 1 - 4 * j) = k % 4 + 1 by omega]
      have h10 := pk_step (x := I 241 j) (g := g) (p := b + 4 * j) (t := k % 4) (by omega) (by have := hg (b + 4 * j + k % 4); omega) h8
      rw [show b + 4 * j + k % 4 = q by omega] at h10
      rw [← q9]
      exact h10
    · rw [if_neg q9, show min 4 (k + 1 - 4 * j) = min 4 (k - 4 * j) by omega]
      exact h8
  by_cases hk : k + 1 = 20
  · obtain ⟨v5, w5, k5, rfl, J, e5, p5, f1, f2, f3, f4⟩ := n_flsh hl ok (I := (ev_u2 (ev_u2 (ev_u2 I 241 (k / 4) ((I 241 (k / 4) <<< (jn 8 &&& 31)) ||| jn (g q))) 241 5 (jn (k + 1))) 241 6 (jn (q + 1)))) (b := b) i1 (by omega)
    rw [e5] at k5
    have hB : z_all [z_is 154 0 (zf_aload 0 1 1), z_is 154 1 (zf_cst 1 (jn 5) 2), z_at 154 2 (zx_iald 2 3), z_is 154 3 (zf_istore 3 3 4), z_is 154 4 (zf_aload 4 1 5), z_is 154 5 (zf_iload 5 3 6), z_is 154 6 (zf_cst 6 (jn 4) 7), z_is 154 7 (zf_idiv 7 8), z_is 154 8 (zf_aload 8 1 9), z_is 154 9 (zf_iload 9 3 10), z_is 154 10 (zf_cst 10 (jn 4) 11), z_is 154 11 (zf_idiv 11 12), z_at 154 12 (zx_iald 12 13), z_is 154 13 (zf_cst 13 (jn 8) 15), z_is 154 15 (zf_ishl 15 16), z_is 154 16 (zf_iload 16 2 17), z_is 154 17 (zf_ior 17 18), z_at 154 18 (zx_iast 18 19), z_is 154 19 (zf_aload 19 1 20), z_is 154 20 (zf_cst 20 (jn 5) 21), z_is 154 21 (zf_dup2 21 22), z_at 154 22 (zx_iald 22 23), z_is 154 23 (zf_cst 23 (jn 1) 24), z_is 154 24 (zf_iadd 24 25), z_at 154 25 (zx_iast 25 26), z_is 154 26 (zf_aload 26 1 27), z_is 154 27 (zf_cst 27 (jn 6) 29), z_is 154 29 (zf_dup2 29 30), z_at 154 30 (zx_iald 30 31), z_is 154 31 (zf_cst 31 (jn 1) 32), z_is 154 32 (zf_iadd 32 33), z_at 154 33 (zx_iast 33 34), z_is 154 34 (zf_aload 34 1 35), z_is 154 35 (zf_cst 35 (jn 5) 36), z_at 154 36 (zx_iald 36 37), z_is 154 37 (zf_cst 37 (jn 20) 39), z_is 154 39 (zf_if2 .ne 39 47 42), z_is 154 42 (zf_aload 42 0 43), z_is 154 43 (zf_aload 43 1 44), z_is 154 44 (zf_cs 44 155 2 47), z_is 154 47 (zf_ret 6)] = true := by decide +kernel
    refine q_s hB (fun _ _ k => z_aload hB rfl k) (fun hB => ?_)
    refine q_s hB (fun _ _ k => z_cst hB k) (fun hB => ?_)
    refine q_s hB (fun _ _ k => x_iald hB m1.1 m1.2.1 (by show ev_ok _ (w_L w 241) = true; rw [m1.2.2]; exact jn_ok (by omega) (by omega)) k) (fun hB => ?_)
    rw [jn_n (by omega), show w_I (z_w w I) = I from rfl, h5]
    refine q_s hB (fun _ _ k => z_istore hB rfl rfl k) (fun hB => ?_)
    refine q_s hB (fun _ _ k => z_aload hB rfl k) (fun hB => ?_)
    refine q_s hB (fun _ _ k => z_iload hB rfl k) (fun hB => ?_)
    refine q_s hB (fun _ _ k => z_cst hB k) (fun hB => ?_)
    refine q_s hB (fun _ _ k => z_idiv hB (by decide) k) (fun hB => ?_)
    rw [hd4]
    refine q_s hB (fun _ _ k => z_aload hB rfl k) (fun hB => ?_)
    refine q_s hB (fun _ _ k => z_iload hB rfl k) (fun hB => ?_)
    refine q_s hB (fun _ _ k => z_cst hB k) (fun hB => ?_)
    refine q_s hB (fun _ _ k => z_idiv hB (by decide) k) (fun hB => ?_)
    rw [hd4]
    refine q_s hB (fun _ _ k => x_iald hB m1.1 m1.2.1 (by show ev_ok _ (w_L w 241) = true; rw [m1.2.2]; exact jn_ok (by omega) (by omega)) k) (fun hB => ?_)
    rw [jn_n (by omega), show w_I (z_w w I) = I from rfl]
    refine q_s hB (fun _ _ k => z_cst hB k) (fun hB => ?_)
    refine q_s hB (fun _ _ k => z_ishl hB k) (fun hB => ?_)
    refine q_s hB (fun _ _ k => z_iload hB rfl k) (fun hB => ?_)
    refine q_s hB (fun _ _ k => z_ior hB k) (fun hB => ?_)
    refine q_s hB (fun _ _ k => x_iast hB m1.1 m1.2.1 (by show ev_ok _ (w_L w 241) = true; rw [m1.2.2]; exact jn_ok (by omega) (by omega)) k) (fun hB => ?_)
    rw [jn_n (by omega)]
    refine q_s hB (fun _ _ k => z_aload hB rfl k) (fun hB => ?_)
    refine q_s hB (fun _ _ k => z_cst hB k) (fun hB => ?_)
    refine q_s hB (fun _ _ k => z_dup2 hB k) (fun hB => ?_)
    refine q_s hB (fun _ _ k => x_iald hB m1.1 m1.2.1 (by show ev_ok _ (w_L w 241) = true; rw [m1.2.2]; exact jn_ok (by omega) (by omega)) k) (fun hB => ?_)
    rw [jn_n (by omega), show w_I (w_sI (z_w w I) 241 (k / 4) ((I 241 (k / 4) <<< (jn 8 &&& 31)) ||| jn (g q))) 241 5 = jn k from (sI_ne (by omega)).trans h5]
    refine q_s hB (fun _ _ k => z_cst hB k) (fun hB => ?_)
    refine q_s hB (fun _ _ k => z_iadd hB k) (fun hB => ?_)
    rw [jn_add]
    refine q_s hB (fun _ _ k => x_iast hB m1.1 m1.2.1 (by show ev_ok _ (w_L w 241) = true; rw [m1.2.2]; exact jn_ok (by omega) (by omega)) k) (fun hB => ?_)
    rw [jn_n (by omega)]
    refine q_s hB (fun _ _ k => z_aload hB rfl k) (fun hB => ?_)
    refine q_s hB (fun _ _ k => z_cst hB k) (fun hB => ?_)
    refine q_s hB (fun _ _ k => z_dup2 hB k) (fun hB => ?_)
    refine q_s hB (fun _ _ k => x_iald hB m1.1 m1.2.1 (by show ev_ok _ (w_L w 241) = true; rw [m1.2.2]; exact jn_ok (by omega) (by omega)) k) (fun hB => ?_)
    rw [jn_n (by omega), show w_I (w_sI (w_sI (z_w w I) 241 (k / 4) ((I 241 (k / 4) <<< (jn 8 &&& 31)) ||| jn (g q))) 241 5 (jn (k + 1))) 241 6 = jn q from (sI_ne (by omega)).trans ((sI_ne (by omega)).trans h6)]
    refine q_s hB (fun _ _ k => z_cst hB k) (fun hB => ?_)
    refine q_s hB (fun _ _ k => z_iadd hB k) (fun hB => ?_)
    rw [jn_add]
    refine q_s hB (fun _ _ k => x_iast hB m1.1 m1.2.1 (by show ev_ok _ (w_L w 241) = true; rw [m1.2.2]; exact jn_ok (by omega) (by omega)) k) (fun hB => ?_)
    rw [jn_n (by omega)]
    refine q_s hB (fun _ _ k => z_aload hB rfl k) (fun hB => ?_)
    refine q_s hB (fun _ _ k => z_cst hB k) (fun hB => ?_)
    refine q_s hB (fun _ _ k => x_iald hB m1.1 m1.2.1 (by show ev_ok _ (w_L w 241) = true; rw [m1.2.2]; exact jn_ok (by omega) (by omega)) k) (fun hB => ?_)
    rw [jn_n (by omega), show w_I (w_sI (w_sI (w_sI (z_w w I) 241 (k / 4) ((I 241 (k / 4) <<< (jn 8 &&& 31)) ||| jn (g q))) 241 5 (jn (k + 1))) 241 6 (jn (q + 1))) 241 5 = jn (k + 1) from (sI_ne (by omega)).trans sI_at]
    refine q_s hB (fun _ _ k => z_cst hB k) (fun hB => ?_)
    refine q_s hB (fun _ _ k => z_ic_ne hB (fun h _ => absurd ((by rw [hk])) h) (fun _ => k)) (fun hB => ?_)
    refine q_s hB (fun _ _ k => z_aload hB rfl k) (fun hB => ?_)
    refine q_s hB (fun _ _ k => z_aload hB rfl k) (fun hB => ?_)
    refine q_s hB (fun _ _ k => z_callS hB (rest := []) rfl rfl rfl k5 k) (fun hB => ?_)
    refine q_r (z_retv hB) ⟨rfl, J, rfl, g9.t p5, b + 20, 0, by omega, ⟨by omega, by omega⟩, ⟨f1, fun i hi => ?_⟩, ⟨f3, (f4 6 (by omega)).trans j6⟩, fun j hj => by rw [show min 4 (0 - 4 * j) = 0 by omega]; exact Nat.mod_one _⟩
    rw [f2 i hi]
    by_cases q9 : i < b
    · rw [if_pos q9]
      exact (congrFun ((ju_na (by omega)).trans ((ju_na (by omega)).trans (ju_na (by omega)))) i).trans (i2 i q9)
    · rw [if_neg q9]
      have h8 := j7 ((i - b) / 4) (by omega)
      rw [show min 4 (k + 1 - 4 * ((i - b) / 4)) = 4 by omega] at h8
      rw [pk_by hg h8 (by omega), show b + 4 * ((i - b) / 4) + (i - b) % 4 = i by omega]
  · skip
    have hB : z_all [z_is 154 0 (zf_aload 0 1 1), z_is 154 1 (zf_cst 1 (jn 5) 2), z_at 154 2 (zx_iald 2 3), z_is 154 3 (zf_istore 3 3 4), z_is 154 4 (zf_aload 4 1 5), z_is 154 5 (zf_iload 5 3 6), z_is 154 6 (zf_cst 6 (jn 4) 7), z_is 154 7 (zf_idiv 7 8), z_is 154 8 (zf_aload 8 1 9), z_is 154 9 (zf_iload 9 3 10), z_is 154 10 (zf_cst 10 (jn 4) 11), z_is 154 11 (zf_idiv 11 12), z_at 154 12 (zx_iald 12 13), z_is 154 13 (zf_cst 13 (jn 8) 15), z_is 154 15 (zf_ishl 15 16), z_is 154 16 (zf_iload 16 2 17), z_is 154 17 (zf_ior 17 18), z_at 154 18 (zx_iast 18 19), z_is 154 19 (zf_aload 19 1 20), z_is 154 20 (zf_cst 20 (jn 5) 21), z_is 154 21 (zf_dup2 21 22), z_at 154 22 (zx_iald 22 23), z_is 154 23 (zf_cst 23 (jn 1) 24), z_is 154 24 (zf_iadd 24 25), z_at 154 25 (zx_iast 25 26), z_is 154 26 (zf_aload 26 1 27), z_is 154 27 (zf_cst 27 (jn 6) 29), z_is 154 29 (zf_dup2 29 30), z_at 154 30 (zx_iald 30 31), z_is 154 31 (zf_cst 31 (jn 1) 32), z_is 154 32 (zf_iadd 32 33), z_at 154 33 (zx_iast 33 34), z_is 154 34 (zf_aload 34 1 35), z_is 154 35 (zf_cst 35 (jn 5) 36), z_at 154 36 (zx_iald 36 37), z_is 154 37 (zf_cst 37 (jn 20) 39), z_is 154 39 (zf_if2 .ne 39 47 42), z_is 154 47 (zf_ret 6)] = true := by decide +kernel
    refine q_s hB (fun _ _ k => z_aload hB rfl k) (fun hB => ?_)
    refine q_s hB (fun _ _ k => z_cst hB k) (fun hB => ?_)
    refine q_s hB (fun _ _ k => x_iald hB m1.1 m1.2.1 (by show ev_ok _ (w_L w 241) = true; rw [m1.2.2]; exact jn_ok (by omega) (by omega)) k) (fun hB => ?_)
    rw [jn_n (by omega), show w_I (z_w w I) = I from rfl, h5]
    refine q_s hB (fun _ _ k => z_istore hB rfl rfl k) (fun hB => ?_)
    refine q_s hB (fun _ _ k => z_aload hB rfl k) (fun hB => ?_)
    refine q_s hB (fun _ _ k => z_iload hB rfl k) (fun hB => ?_)
    refine q_s hB (fun _ _ k => z_cst hB k) (fun hB => ?_)
    refine q_s hB (fun _ _ k => z_idiv hB (by decide) k) (fun hB => ?_)
    rw [hd4]
    refine q_s hB (fun _ _ k => z_aload hB rfl k) (fun hB => ?_)
    refine q_s hB (fun _ _ k => z_iload hB rfl k) (fun hB => ?_)
    refine q_s hB (fun _ _ k => z_cst hB k) (fun hB => ?_)
    refine q_s hB (fun _ _ k => z_idiv hB (by decide) k) (fun hB => ?_)
    rw [hd4]
    refine q_s hB (fun _ _ k => x_iald hB m1.1 m1.2.1 (by show ev_ok _ (w_L w 241) = true; rw [m1.2.2]; exact jn_ok (by omega) (by omega)) k) (fun hB => ?_)
    rw [jn_n (by omega), show w_I (z_w w I) = I from rfl]
    refine q_s hB (fun _ _ k => z_cst hB k) (fun hB => ?_)
    refine q_s hB (fun _ _ k => z_ishl hB k) (fun hB => ?_)
    refine q_s hB (fun _ _ k => z_iload hB rfl k) (fun hB => ?_)
    refine q_s hB (fun _ _ k => z_ior hB k) (fun hB => ?_)
    refine q_s hB (fun _ _ k => x_iast hB m1.1 m1.2.1 (by show ev_ok _ (w_L w 241) = true; rw [m1.2.2]; exact jn_ok (by omega) (by omega)) k) (fun hB => ?_)
    rw [jn_n (by omega)]
    refine q_s hB (fun _ _ k => z_aload hB rfl k) (fun hB => ?_)
    refine q_s hB (fun _ _ k => z_cst hB k) (fun hB => ?_)
    refine q_s hB (fun _ _ k => z_dup2 hB k) (fun hB => ?_)
    refine q_s hB (fun _ _ k => x_iald hB m1.1 m1.2.1 (by show ev_ok _ (w_L w 241) = true; rw [m1.2.2]; exact jn_ok (by omega) (by omega)) k) (fun hB => ?_)
    rw [jn_n (by omega), show w_I (w_sI (z_w w I) 241 (k / 4) ((I 241 (k / 4) <<< (jn 8 &&& 31)) ||| jn (g q))) 241 5 = jn k from (sI_ne (by omega)).trans h5]
    refine q_s hB (fun _ _ k => z_cst hB k) (fun hB => ?_)
    refine q_s hB (fun _ _ k => z_iadd hB k) (fun hB => ?_)
    rw [jn_add]
    refine q_s hB (fun _ _ k => x_iast hB m1.1 m1.2.1 (by show ev_ok _ (w_L w 241) = true; rw [m1.2.2]; exact jn_ok (by omega) (by omega)) k) (fun hB => ?_)
    rw [jn_n (by omega)]
    refine q_s hB (fun _ _ k => z_aload hB rfl k) (fun hB => ?_)
    refine q_s hB (fun _ _ k => z_cst hB k) (fun hB => ?_)
    refine q_s hB (fun _ _ k => z_dup2 hB k) (fun hB => ?_)
    refine q_s hB (fun _ _ k => x_iald hB m1.1 m1.2.1 (by show ev_ok _ (w_L w 241) = true; rw [m1.2.2]; exact jn_ok (by omega) (by omega)) k) (fun hB => ?_)
    rw [jn_n (by omega), show w_I (w_sI (w_sI (z_w w I) 241 (k / 4) ((I 241 (k / 4) <<< (jn 8 &&& 31)) ||| jn (g q))) 241 5 (jn (k + 1))) 241 6 = jn q from (sI_ne (by omega)).trans ((sI_ne (by omega)).trans h6)]
    refine q_s hB (fun _ _ k => z_cst hB k) (fun hB => ?_)
    refine q_s hB (fun _ _ k => z_iadd hB k) (fun hB => ?_)
    rw [jn_add]
    refine q_s hB (fun _ _ k => x_iast hB m1.1 m1.2.1 (by show ev_ok _ (w_L w 241) = true; rw [m1.2.2]; exact jn_ok (by omega) (by omega)) k) (fun hB => ?_)
    rw [jn_n (by omega)]
    refine q_s hB (fun _ _ k => z_aload hB rfl k) (fun hB => ?_)
    refine q_s hB (fun _ _ k => z_cst hB k) (fun hB => ?_)
    refine q_s hB (fun _ _ k => x_iald hB m1.1 m1.2.1 (by show ev_ok _ (w_L w 241) = true; rw [m1.2.2]; exact jn_ok (by omega) (by omega)) k) (fun hB => ?_)
    rw [jn_n (by omega), show w_I (w_sI (w_sI (w_sI (z_w w I) 241 (k / 4) ((I 241 (k / 4) <<< (jn 8 &&& 31)) ||| jn (g q))) 241 5 (jn (k + 1))) 241 6 (jn (q + 1))) 241 5 = jn (k + 1) from (sI_ne (by omega)).trans sI_at]
    refine q_s hB (fun _ _ k => z_cst hB k) (fun hB => ?_)
    refine q_s hB (fun _ _ k => z_ic_ne hB (fun _ => k) (fun h _ => absurd h ((by rw [jn_eq (by omega) (by omega)]; exact hk)))) (fun hB => ?_)
    exact q_r (z_retv hB) ⟨rfl, (ev_u2 (ev_u2 (ev_u2 I 241 (k / 4) ((I 241 (k / 4) <<< (jn 8 &&& 31)) ||| jn (g q))) 241 5 (jn (k + 1))) 241 6 (jn (q + 1))), rfl, g9, b, k + 1, by omega, ⟨by omega, b20⟩, ⟨i1, i2⟩, ⟨j5, j6⟩, j7⟩
theorem n_sd_lp {G : z_G} (hl : G.2.2.stackTraces = false) {w : ev_W} (ok : z_Ok G w) {I0 : z_H} {n : Nat} {g : Nat → Nat} (hg : ∀ i, g i < 128) (hb : ∀ i, n ≤ i → g i = 32) (hn : n < 460) : ∀ (m : Nat) {I : z_H} {q : Nat}, q + m = (n + 19) / 20 * 20 → n ≤ q → PFH I0 I → TLH I q g → z_Q G 156 5 [some (.ref 0), some (.ref 241), some (.int (jn n))] [] (z_w w I) (fun v w1 => ∃ J, w1 = z_w w J ∧ PFH I0 J ∧ v = some (.int (jn n)) ∧ J 241 5 = jn 0 ∧ J 241 6 = jn 0 ∧ ∃ b, n ≤ b ∧ b ≤ 500 ∧ J 0 1 = jn b ∧ ∀ i, i < b → J 1 i = jn (g i)) := by
  have m1 := z_ok241 ok
  intro m
  induction m with
  | zero =>
    intro I q e hq F T
    obtain ⟨b, k, e1, ⟨k20, b20⟩, ⟨i1, i2⟩, ⟨h5, h6⟩, h7⟩ := T
    have hk : k = 0 := by omega
    rw [hk] at h5
    have hB : z_all [z_is 156 5 (zf_aload 5 1 6), z_is 156 6 (zf_cst 6 (jn 5) 7), z_at 156 7 (zx_iald 7 8), z_is 156 8 (zf_if1 .le 8 21 11), z_is 156 21 (zf_aload 21 1 22), z_is 156 22 (zf_cst 22 (jn 6) 24), z_is 156 24 (zf_cst 24 (jn 0) 25), z_at 156 25 (zx_iast 25 26), z_is 156 26 (zf_iload 26 2 27), z_is 156 27 (zf_ret 0)] = true := by decide +kernel
    refine q_s hB (fun _ _ k => z_aload hB rfl k) (fun hB => ?_)
    refine q_s hB (fun _ _ k => z_cst hB k) (fun hB => ?_)
    refine q_s hB (fun _ _ k => x_iald hB m1.1 m1.2.1 (by show ev_ok _ (w_L w 241) = true; rw [m1.2.2]; exact jn_ok (by omega) (by omega)) k) (fun hB => ?_)
    rw [jn_n (by omega), show w_I (z_w w I) = I from rfl, h5]
    refine q_s hB (fun _ _ k => z_if_le hB (fun _ => k) (fun h _ => absurd h ((by decide)))) (fun hB => ?_)
    refine q_s hB (fun _ _ k => z_aload hB rfl k) (fun hB => ?_)
    refine q_s hB (fun _ _ k => z_cst hB k) (fun hB => ?_)
    refine q_s hB (fun _ _ k => z_cst hB k) (fun hB => ?_)
    refine q_s hB (fun _ _ k => x_iast hB m1.1 m1.2.1 (by show ev_ok _ (w_L w 241) = true; rw [m1.2.2]; exact jn_ok (by omega) (by omega)) k) (fun hB => ?_)
    rw [jn_n (by omega)]
    refine q_s hB (fun _ _ k => z_iload hB rfl k) (fun hB => ?_)
    exact q_r (z_reti hB) ⟨ev_u2 I 241 6 (jn 0), rfl, ⟨fun a a1 a2 a3 => (ju_na a3).trans (F.1 a a1 a2 a3), fun k hk => (congrFun (ju_na (by omega)) k).trans (F.2 k hk)⟩, rfl, (ju_ne (by omega)).trans h5, ju_at .., b, by omega, by omega, (congrFun (ju_na (by omega)) 1).trans i1, fun i hi => (congrFun (ju_na (by omega)) i).trans (i2 i hi)⟩
  | succ m ih =>
    intro I q e hq F T
    have T0 := T
    obtain ⟨b, k, e1, ⟨k20, b20⟩, ⟨i1, i2⟩, ⟨h5, h6⟩, h7⟩ := T
    obtain ⟨v5, w5, k5, rfl, J, e5, p5, T5⟩ := n_putL hl ok hg T0 (by omega)
    rw [e5, hb q hq] at k5
    have hB : z_all [z_is 156 5 (zf_aload 5 1 6), z_is 156 6 (zf_cst 6 (jn 5) 7), z_at 156 7 (zx_iald 7 8), z_is 156 8 (zf_if1 .le 8 21 11), z_is 156 11 (zf_aload 11 0 12), z_is 156 12 (zf_aload 12 1 13), z_is 156 13 (zf_cst 13 (jn 32) 15), z_is 156 15 (zf_cs 15 154 3 18), z_is 156 18 (zf_goto 18 5)] = true := by decide +kernel
    refine q_s hB (fun _ _ k => z_aload hB rfl k) (fun hB => ?_)
    refine q_s hB (fun _ _ k => z_cst hB k) (fun hB => ?_)
    refine q_s hB (fun _ _ k => x_iald hB m1.1 m1.2.1 (by show ev_ok _ (w_L w 241) = true; rw [m1.2.2]; exact jn_ok (by omega) (by omega)) k) (fun hB => ?_)
    rw [jn_n (by omega), show w_I (z_w w I) = I from rfl, h5]
    refine q_s hB (fun _ _ k => z_if_le hB (fun h _ => absurd ((by rw [show (0 : Int32) = jn 0 from rfl, jn_lt (by omega) (by omega)]; omega)) h) (fun _ => k)) (fun hB => ?_)
    refine q_s hB (fun _ _ k => z_aload hB rfl k) (fun hB => ?_)
    refine q_s hB (fun _ _ k => z_aload hB rfl k) (fun hB => ?_)
    refine q_s hB (fun _ _ k => z_cst hB k) (fun hB => ?_)
    refine q_s hB (fun _ _ k => z_callS hB (rest := []) rfl rfl rfl k5 k) (fun hB => ?_)
    refine q_s hB (fun _ _ k => z_goto hB k) (fun hB => ?_)
    exact ih (by omega) (by omega) (F.t p5) T5
theorem n_said {G : z_G} {w : ev_W} (hl : G.2.2.stackTraces = false) (ok : z_Ok G w) {I : z_H} {n : Nat} {g : Nat → Nat} (hg : ∀ i, g i < 128) (hb : ∀ i, n ≤ i → g i = 32) (hn : n < 460) (T : TLH I n g) : z_N G 156 [.ref 0, .ref 241] (z_w w I) (fun v w1 => ∃ J, w1 = z_w w J ∧ PFH I J ∧ v = some (.int (jn n)) ∧ J 241 5 = jn 0 ∧ J 241 6 = jn 0 ∧ ∃ b, n ≤ b ∧ b ≤ 500 ∧ J 0 1 = jn b ∧ ∀ i, i < b → J 1 i = jn (g i)) := by
  refine q_con hl (ml := 3) (by decide +kernel) rfl rfl ?_
  have m1 := z_ok241 ok
  have h6 : I 241 6 = jn n := by
    obtain ⟨b, k, e1, -, -, ⟨-, h6⟩, -⟩ := T
    exact h6
  have hB : z_all [z_is 156 0 (zf_aload 0 1 1), z_is 156 1 (zf_cst 1 (jn 6) 3), z_at 156 3 (zx_iald 3 4), z_is 156 4 (zf_istore 4 2 5)] = true := by decide +kernel
  refine q_s hB (fun _ _ k => z_aload hB rfl k) (fun hB => ?_)
  refine q_s hB (fun _ _ k => z_cst hB k) (fun hB => ?_)
  refine q_s hB (fun _ _ k => x_iald hB m1.1 m1.2.1 (by show ev_ok _ (w_L w 241) = true; rw [m1.2.2]; exact jn_ok (by omega) (by omega)) k) (fun hB => ?_)
  rw [jn_n (by omega), show w_I (z_w w I) = I from rfl, h6]
  refine q_s hB (fun _ _ k => z_istore hB rfl rfl k) (fun hB => ?_)
  exact n_sd_lp hl ok hg hb hn ((n + 19) / 20 * 20 - n) (by omega) (Nat.le_refl _) ⟨fun _ _ _ _ => rfl, fun _ _ => rfl⟩ T
theorem STR.pf {w : ev_W} {s v : Nat} {l : List Nat} {I J : z_H} (S : STR (z_w w I) s v l) (F : PFH I J) (hs : 242 ≤ s) (hv : 242 ≤ v) : STR (z_w w J) s v l := by
  obtain ⟨h1, h2, h3, h4, h5, h6⟩ := S
  exact ⟨h1, h2, ⟨h3.1, (congrFun (F.1 s (by omega) (by omega) (by omega)) 1).trans h3.2⟩, h4, fun i hi => (congrFun (F.1 v (by omega) (by omega) (by omega)) i).trans (h5 i hi), h6⟩
theorem n_td_lp {G : z_G} (hl : G.2.2.stackTraces = false) {w : ev_W} (ok : z_Ok G w) {I0 : z_H} {s v9 : Nat} {l : List Nat} {g : Nat → Nat} (hs : 242 ≤ s) (hv : 242 ≤ v9) (hg : ∀ i, g i < 128) (hb : ∀ i, l.length ≤ i → g i = 32) (hgl : ∀ i, i < l.length → g i = l.getD i 0) (hn : l.length < 460) : ∀ (m i : Nat) {I : z_H}, i + m = l.length → PFH I0 I → TLH I i g → STR (z_w w I) s v9 l → z_Q G 160 2 [some (.ref 0), some (.ref 241), some (.ref s), some (.int (jn i))] [] (z_w w I) (fun v w1 => ∃ J, w1 = z_w w J ∧ PFH I0 J ∧ v = some (.int (jn l.length)) ∧ J 241 5 = jn 0 ∧ J 241 6 = jn 0 ∧ ∃ b, l.length ≤ b ∧ b ≤ 500 ∧ J 0 1 = jn b ∧ ∀ i, i < b → J 1 i = jn (g i)) := by
  intro m
  induction m with
  | zero =>
    intro i I e F T S
    have e2 : i = l.length := by omega
    rw [e2] at T
    obtain ⟨v5, w5, k5, J, e5, p5, rfl, r5⟩ := n_said hl ok hg hb hn T
    rw [e5] at k5
    have hB : z_all [z_is 160 2 (zf_iload 2 3 3), z_is 160 3 (zf_aload 3 2 4), z_at 160 4 (zx_iL 4 192 0 9), z_is 160 9 (zf_if2 .ge 9 30 12), z_is 160 30 (zf_aload 30 0 31), z_is 160 31 (zf_aload 31 1 32), z_is 160 32 (zf_cs 32 156 2 35), z_is 160 35 (zf_ret 0)] = true := by decide +kernel
    refine q_s hB (fun _ _ k => z_iload hB rfl k) (fun hB => ?_)
    refine q_s hB (fun _ _ k => z_aload hB rfl k) (fun hB => ?_)
    refine q_s hB (fun _ _ k => x_iL hB (rest := [.int (jn i)]) rfl rfl rfl S.1.1 S.1.2 (n_k (n_slen hl S)) k) (fun hB => ?_)
    refine q_s hB (fun _ _ k => z_ic_ge hB (fun _ => k) (fun h _ => absurd h ((by rw [jn_lt (by omega) (by omega)]; omega)))) (fun hB => ?_)
    refine q_s hB (fun _ _ k => z_aload hB rfl k) (fun hB => ?_)
    refine q_s hB (fun _ _ k => z_aload hB rfl k) (fun hB => ?_)
    refine q_s hB (fun _ _ k => z_callS hB (rest := []) rfl rfl rfl k5 k) (fun hB => ?_)
    exact q_r (z_reti hB) ⟨J, rfl, F.t p5, rfl, r5⟩
  | succ m ih =>
    intro i I e F T S
    obtain ⟨v5, w5, k5, rfl, J, e5, p5, T5⟩ := n_putL hl ok hg T (by omega)
    rw [e5, hgl i (by omega)] at k5
    have hB : z_all [z_is 160 2 (zf_iload 2 3 3), z_is 160 3 (zf_aload 3 2 4), z_at 160 4 (zx_iL 4 192 0 9), z_is 160 9 (zf_if2 .ge 9 30 12), z_is 160 12 (zf_aload 12 0 13), z_is 160 13 (zf_aload 13 1 14), z_is 160 14 (zf_aload 14 2 15), z_is 160 15 (zf_iload 15 3 16), z_at 160 16 (zx_iC 16 193 1 21), z_is 160 21 (zf_cs 21 154 3 24), z_is 160 24 (zf_iinc 24 3 (jn 1) 27), z_is 160 27 (zf_goto 27 2)] = true := by decide +kernel
    refine q_s hB (fun _ _ k => z_iload hB rfl k) (fun hB => ?_)
    refine q_s hB (fun _ _ k => z_aload hB rfl k) (fun hB => ?_)
    refine q_s hB (fun _ _ k => x_iL hB (rest := [.int (jn i)]) rfl rfl rfl S.1.1 S.1.2 (n_k (n_slen hl S)) k) (fun hB => ?_)
    refine q_s hB (fun _ _ k => z_ic_ge hB (fun h _ => absurd ((by rw [jn_lt (by omega) (by omega)]; omega)) h) (fun _ => k)) (fun hB => ?_)
    refine q_s hB (fun _ _ k => z_aload hB rfl k) (fun hB => ?_)
    refine q_s hB (fun _ _ k => z_aload hB rfl k) (fun hB => ?_)
    refine q_s hB (fun _ _ k => z_aload hB rfl k) (fun hB => ?_)
    refine q_s hB (fun _ _ k => z_iload hB rfl k) (fun hB => ?_)
    refine q_s hB (fun _ _ k => x_iC hB (rest := [.ref 241, .ref 0]) rfl rfl rfl S.1.1 S.1.2 (n_k (n_chrA hl S (i := i) (by omega))) k) (fun hB => ?_)
    refine q_s hB (fun _ _ k => z_callS hB (rest := []) rfl rfl rfl k5 k) (fun hB => ?_)
    refine q_s hB (fun _ _ k => z_iinc hB rfl rfl k) (fun hB => ?_)
    rw [jn_add]
    refine q_s hB (fun _ _ k => z_goto hB k) (fun hB => ?_)
    exact ih (i + 1) (by omega) (F.t p5) T5 (S.pf p5 hs hv)
theorem n_told {G : z_G} {w : ev_W} (hl : G.2.2.stackTraces = false) (ok : z_Ok G w) {s v9 : Nat} {l : List Nat} (S : STR w s v9 l) (hs : 242 ≤ s) (hv : 242 ≤ v9) (h0 : w_I w 0 1 = jn 0) (h5 : w_I w 241 5 = jn 0) (h6 : w_I w 241 6 = jn 0) : z_N G 160 [.ref 0, .ref 241, .ref s] w (fun v w1 => ∃ J, w1 = z_w w J ∧ PFH (w_I w) J ∧ v = some (.int (jn l.length)) ∧ J 241 5 = jn 0 ∧ J 241 6 = jn 0 ∧ ∃ b, l.length ≤ b ∧ b ≤ 500 ∧ J 0 1 = jn b ∧ ∀ i, i < b → J 1 i = jn (if i < l.length then l.getD i 0 else 32)) := by
  refine q_con hl (ml := 4) (by decide +kernel) rfl rfl ?_
  have hB : z_all [z_is 160 0 (zf_cst 0 (jn 0) 1), z_is 160 1 (zf_istore 1 3 2)] = true := by decide +kernel
  refine q_s hB (fun _ _ k => z_cst hB k) (fun hB => ?_)
  refine q_s hB (fun _ _ k => z_istore hB rfl rfl k) (fun hB => ?_)
  have h4 := S.2.2.2.1
  refine n_td_lp hl ok (I0 := w_I w) (g := fun i => if i < l.length then l.getD i 0 else 32) hs hv (fun i => ?_) (fun i hi => if_neg (by omega)) (fun i hi => if_pos hi) (by omega) l.length 0 (I := w_I w) (by omega) ⟨fun _ _ _ _ => rfl, fun _ _ => rfl⟩ ⟨0, 0, rfl, ⟨by omega, rfl⟩, ⟨h0, fun i hi => absurd hi (Nat.not_lt_zero _)⟩, ⟨h5, h6⟩, fun j hj => by rw [show min 4 (0 - 4 * j) = 0 by omega]; exact Nat.mod_one _⟩ S
  by_cases hi : i < l.length
  · show (if i < l.length then l.getD i 0 else 32) < 128
    rw [if_pos hi]; exact S.2.2.2.2.2 _ (gdm hi)
  · show (if i < l.length then l.getD i 0 else 32) < 128
    rw [if_neg hi]; omega
