/-! worlds that keep what is old; the StringBuilder: by wip/gen/p64/j98a.py -/
def FR (X : Nat → Prop) (w w1 : ev_W) : Prop := (w_n w ≤ w_n w1 ∧ w_c w1 + w_n w = w_c w + w_n w1 ∧ w_z w ≤ w_z w1 ∧ w_z w1 + 1000 * w_n w ≤ w_z w + 1000 * w_n w1 ∧ w_l w1 = w_l w) ∧ (w_L w1 ev_S = w_L w ev_S ∧ w_I w1 ev_S = w_I w ev_S) ∧ ∀ a, a < w_n w → (w_K w1 a = w_K w a ∧ w_L w1 a = w_L w a) ∧ (¬ X a → w_I w1 a = w_I w a ∧ w_R w1 a = w_R w a ∧ w_J w1 a = w_J w a)
theorem FR.rf {X : Nat → Prop} {w : ev_W} : FR X w w := ⟨⟨Nat.le_refl _, rfl, Nat.le_refl _, Nat.le_refl _, rfl⟩, ⟨rfl, rfl⟩, fun _ _ => ⟨⟨rfl, rfl⟩, fun _ => ⟨rfl, rfl, rfl⟩⟩⟩
theorem FR.tr {X Y Z : Nat → Prop} {w w1 w2 : ev_W} (h : FR X w w1) (g : FR Y w1 w2) (hX : ∀ a, a < w_n w → X a → Z a) (hY : ∀ a, a < w_n w → Y a → Z a) : FR Z w w2 := by
  obtain ⟨⟨a1, a2, a3, a4, a5⟩, ⟨b1, b2⟩, c1⟩ := h
  obtain ⟨⟨d1, d2, d3, d4, d5⟩, ⟨e1, e2⟩, f1⟩ := g
  refine ⟨⟨Nat.le_trans a1 d1, by omega, Nat.le_trans a3 d3, by omega, d5.trans a5⟩, ⟨e1.trans b1, e2.trans b2⟩, fun a ha => ?_⟩
  obtain ⟨⟨p1, p2⟩, p3⟩ := c1 a ha
  obtain ⟨⟨q1, q2⟩, q3⟩ := f1 a (Nat.lt_of_lt_of_le ha a1)
  refine ⟨⟨q1.trans p1, q2.trans p2⟩, fun hz => ?_⟩
  obtain ⟨r1, r2, r3⟩ := p3 (fun q => hz (hX a ha q))
  obtain ⟨s1, s2, s3⟩ := q3 (fun q => hz (hY a ha q))
  exact ⟨s1.trans r1, s2.trans r2, s3.trans r3⟩
theorem FR.mo {X Z : Nat → Prop} {w w1 : ev_W} (h : FR X w w1) (hX : ∀ a, a < w_n w → X a → Z a) : FR Z w w1 := h.tr (FR.rf (X := fun _ => False)) hX (fun _ _ q => q.elim)
theorem FR_I {w : ev_W} {a i : Nat} {x : Int32} (ha : a < 1001) : FR (fun b => b = a) w (w_sI w a i x) := by
  have hS : ¬ ev_S = a := by unfold ev_S; omega
  refine ⟨⟨Nat.le_refl _, rfl, Nat.le_refl _, Nat.le_refl _, rfl⟩, ⟨rfl, ?_⟩, fun b _ => ⟨⟨rfl, rfl⟩, fun hb => ⟨?_, rfl, rfl⟩⟩⟩
  · show ev_u2 (w_I w) a i x ev_S = _
    unfold ev_u2; rw [if_neg hS]
  · show ev_u2 (w_I w) a i x b = _
    unfold ev_u2; rw [if_neg hb]
theorem FR_R {w : ev_W} {a i : Nat} {x : Option Nat} : FR (fun b => b = a) w (w_sR w a i x) := by
  refine ⟨⟨Nat.le_refl _, rfl, Nat.le_refl _, Nat.le_refl _, rfl⟩, ⟨rfl, rfl⟩, fun b _ => ⟨⟨rfl, rfl⟩, fun hb => ⟨rfl, ?_, rfl⟩⟩⟩
  show ev_u2 (w_R w) a i x b = _
  unfold ev_u2; rw [if_neg hb]
theorem FR_cp {w : ev_W} {a : Nat} {f : Nat → Int32} (ha : a < 1001) : FR (fun b => b = a) w (w_cp w a f) := by
  have hS : ¬ ev_S = a := by unfold ev_S; omega
  refine ⟨⟨Nat.le_refl _, rfl, Nat.le_refl _, Nat.le_refl _, rfl⟩, ⟨rfl, ?_⟩, fun b _ => ⟨⟨rfl, rfl⟩, fun hb => ⟨?_, rfl, rfl⟩⟩⟩
  · show ev_u1 (w_I w) a f ev_S = _
    unfold ev_u1; rw [if_neg hS]
  · show ev_u1 (w_I w) a f b = _
    unfold ev_u1; rw [if_neg hb]
theorem FR_nw {w : ev_W} {k len : Nat} (hn : w_n w < 1001) (hl : len ≤ 1000) : FR (fun _ => False) w (w_nw w k len) := by
  have hS : ¬ ev_S = w_n w := by unfold ev_S; omega
  refine ⟨⟨Nat.le_succ _, ?_, Nat.le_add_right _ _, ?_, rfl⟩, ⟨?_, ?_⟩, fun b hb => ?_⟩
  · show w_c w + 1 + w_n w = w_c w + (w_n w + 1)
    omega
  · show w_z w + len + 1000 * w_n w ≤ w_z w + 1000 * (w_n w + 1)
    omega
  · show ev_u1 (w_L w) (w_n w) len ev_S = _
    unfold ev_u1; rw [if_neg hS]
  · show ev_u1 (w_I w) (w_n w) _ ev_S = _
    unfold ev_u1; rw [if_neg hS]
  · have hb2 : ¬ b = w_n w := by omega
    refine ⟨⟨?_, ?_⟩, fun _ => ⟨?_, ?_, ?_⟩⟩
    · show ev_u1 (w_K w) (w_n w) k b = _
      unfold ev_u1; rw [if_neg hb2]
    · show ev_u1 (w_L w) (w_n w) len b = _
      unfold ev_u1; rw [if_neg hb2]
    · show ev_u1 (w_I w) (w_n w) _ b = _
      unfold ev_u1; rw [if_neg hb2]
    · show ev_u1 (w_R w) (w_n w) _ b = _
      unfold ev_u1; rw [if_neg hb2]
    · show ev_u1 (w_J w) (w_n w) _ b = _
      unfold ev_u1; rw [if_neg hb2]
theorem n_k {G : z_G} {j : Nat} {as : List Value} {w W : ev_W} {x : Option Value} (h : z_N G j as w (fun v w1 => v = x ∧ w1 = W)) : z_K G j as w (.inl x) W := by
  obtain ⟨v, w2, h, e1, e2⟩ := h
  rw [← e1, ← e2]
  exact h
theorem js0 (x : Int32) : x >>> ((0 : Int32) &&& 31) = x := Int32.shiftRight_zero
theorem js0l (x : Int32) : x <<< ((0 : Int32) &&& 31) = x := Int32.shiftLeft_zero
theorem jsub_toInt {a b : Nat} (ha : a < 100000) (hb : b < 100000) : (jn a - jn b).toInt = (a : Int) - b := by
  rw [Int32.toInt_sub, jn_toInt ha, jn_toInt hb]
  exact Int.bmod_eq_of_le (by omega) (by omega)
theorem jsub_le {a b : Nat} (h : a ≤ b) (hb : b < 100000) : ¬ (0 : Int32) < jn a - jn b := by
  rw [Int32.lt_iff_toInt_lt, jsub_toInt (by omega) hb]
  show ¬ (0 : Int) < _
  omega
theorem jsub_gt {a b : Nat} (h : b < a) (ha : a < 100000) : (0 : Int32) < jn a - jn b := by
  rw [Int32.lt_iff_toInt_lt, jsub_toInt ha (by omega)]
  show (0 : Int) < _
  omega
theorem jn_mx {a b : Nat} (ha : a < 100000) (hb : b < 100000) : z_mx (jn a) (jn b) = jn (max a b) := by
  unfold z_mx
  by_cases h : a < b
  · rw [if_pos (by rw [jn_lt ha hb]; exact h), Nat.max_eq_right (by omega)]
  · rw [if_neg (by rw [jn_lt ha hb]; exact h), Nat.max_eq_left (by omega)]
theorem jn_mn {a b : Nat} (ha : a < 100000) (hb : b < 100000) : z_mn (jn a) (jn b) = jn (min a b) := by
  unfold z_mn
  by_cases h : b < a
  · rw [if_pos (by rw [jn_lt hb ha]; exact h), Nat.min_eq_right (by omega)]
  · rw [if_neg (by rw [jn_lt hb ha]; exact h), Nat.min_eq_left (by omega)]
theorem jbig {m : Nat} (h : m < 100000) : ¬ jn 2147483639 < jn m := by
  rw [Int32.lt_iff_toInt_lt, jn_toInt h, show (jn 2147483639).toInt = 2147483639 from by decide]
  omega
theorem jbig2 {m : Nat} (h : m < 100000) : ¬ jn m = jn 2147483647 := by
  intro q
  have q2 := congrArg Int32.toInt q
  rw [jn_toInt h, show (jn 2147483647).toInt = 2147483647 from by decide] at q2
  omega
theorem jn_ok {a n : Nat} (ha : a < 100000) (h : a < n) : ev_ok (jn a) n = true := by
  have h1 : z_in (jn a) n := by rw [jn_in ha]; exact h
  exact h1
/-- a StringBuilder: its bytes row, the row's length, the letters -/
def SB (w : ev_W) (a b cap : Nat) (l : List Nat) : Prop := (a < w_n w ∧ w_K w a = 18) ∧ (b < w_n w ∧ w_K w b = 9) ∧ (w_R w a 0 = some b ∧ w_I w a 1 = 0 ∧ w_I w a 3 = jn l.length) ∧ (w_L w b = cap ∧ l.length ≤ cap ∧ cap ≤ 700) ∧ (∀ i, i < l.length → w_I w b i = jn (l.getD i 0)) ∧ (∀ x ∈ l, x < 128) ∧ ∀ i, fits .byte (.int (w_I w b i)) = true
theorem SB.len {w : ev_W} {a b cap : Nat} {l : List Nat} (S : SB w a b cap l) : Int32.ofNat (w_L w b) = jn cap := by rw [S.2.2.2.1.1]; rfl
theorem n_newLen {G : z_G} {w : ev_W} (hl : G.2.2.stackTraces = false) {x y z : Nat} (hx : x ≤ 1000) (hy : y ≤ 1000) (hz : z ≤ 1001) (hz0 : 0 < z) : z_N G 210 [.int (jn x), .int (jn y), .int (jn z)] w (fun v w1 => v = some (.int (jn (x + max y z))) ∧ w1 = w) := by
  refine q_con hl (ml := 4) (by decide +kernel) rfl rfl ?_
  have hB : z_all [z_is 210 0 (zf_iload 0 0 1), z_is 210 1 (zf_iload 1 1 2), z_is 210 2 (zf_iload 2 2 3), z_is 210 3 (zf_nat 3 100 6), z_is 210 6 (zf_iadd 6 7), z_is 210 7 (zf_istore 7 3 8), z_is 210 8 (zf_cst 8 (jn 0) 9), z_is 210 9 (zf_iload 9 3 10), z_is 210 10 (zf_if2 .ge 10 21 13), z_is 210 13 (zf_iload 13 3 14), z_at 210 14 (zx_ldci 14 (jn 2147483639) 16), z_is 210 16 (zf_if2 .gt 16 21 19), z_is 210 19 (zf_iload 19 3 20), z_is 210 20 (zf_ret 0)] = true := by decide +kernel
  refine q_s hB (fun _ _ k => z_iload hB rfl k) (fun hB => ?_)
  refine q_s hB (fun _ _ k => z_iload hB rfl k) (fun hB => ?_)
  refine q_s hB (fun _ _ k => z_iload hB rfl k) (fun hB => ?_)
  refine q_s hB (fun _ _ k => z_max hB rfl k) (fun hB => ?_)
  rw [jn_mx (by omega) (by omega)]
  refine q_s hB (fun _ _ k => z_iadd hB k) (fun hB => ?_)
  rw [jn_add]
  refine q_s hB (fun _ _ k => z_istore hB rfl rfl k) (fun hB => ?_)
  refine q_s hB (fun _ _ k => z_cst hB k) (fun hB => ?_)
  refine q_s hB (fun _ _ k => z_iload hB rfl k) (fun hB => ?_)
  refine q_s hB (fun _ _ k => z_ic_ge hB (fun h _ => absurd ((by rw [jn_lt (by omega) (by omega)]; omega : jn 0 < jn (x + max y z))) h) (fun _ => k)) (fun hB => ?_)
  refine q_s hB (fun _ _ k => z_iload hB rfl k) (fun hB => ?_)
  refine q_s hB (fun _ _ k => x_ldci hB k) (fun hB => ?_)
  refine q_s hB (fun _ _ k => z_ic_gt hB (fun h _ => absurd h (jbig (by omega))) (fun _ => k)) (fun hB => ?_)
  refine q_s hB (fun _ _ k => z_iload hB rfl k) (fun hB => ?_)
  exact q_r (z_reti hB) ⟨rfl, rfl⟩
theorem n_isL {G : z_G} {w : ev_W} (hl : G.2.2.stackTraces = false) {a b cap : Nat} {l : List Nat} (S : SB w a b cap l) : z_N G 187 [.ref a] w (fun v w1 => v = some (.int (jn 1)) ∧ w1 = w) := by
  refine q_con hl (ml := 1) (by decide +kernel) rfl rfl ?_
  have hB : z_all [z_at 187 0 (zx_cs25 0 3), z_is 187 3 (zf_if1 .eq 3 17 6), z_is 187 6 (zf_aload 6 0 7), z_at 187 7 (zf_gi 7 18 1 10), z_is 187 10 (zf_if1 .ne 10 17 13), z_is 187 13 (zf_cst 13 (jn 1) 14), z_is 187 14 (zf_goto 14 18), z_is 187 18 (zf_ret 1)] = true := by decide +kernel
  refine q_s hB (fun _ _ k => x_cs25 hB k) (fun hB => ?_)
  refine q_s hB (fun _ _ k => z_if_eq hB (fun h _ => absurd h (by decide)) (fun _ => k)) (fun hB => ?_)
  refine q_s hB (fun _ _ k => z_aload hB rfl k) (fun hB => ?_)
  refine q_s hB (fun _ _ k => x_geti hB S.1.1 S.1.2 k) (fun hB => ?_)
  refine q_s hB (fun _ _ k => z_if_ne hB (fun h _ => absurd (S.2.2.1.2.1) h) (fun _ => k)) (fun hB => ?_)
  refine q_s hB (fun _ _ k => z_cst hB k) (fun hB => ?_)
  refine q_s hB (fun _ _ k => z_goto hB k) (fun hB => ?_)
  exact q_r (z_retz hB (Or.inr rfl)) ⟨rfl, rfl⟩
theorem n_getV {G : z_G} {w : ev_W} (hl : G.2.2.stackTraces = false) {a b cap : Nat} {l : List Nat} (S : SB w a b cap l) : z_N G 188 [.ref a] w (fun v w1 => v = some (.ref b) ∧ w1 = w) := by
  refine q_con hl (ml := 1) (by decide +kernel) rfl rfl ?_
  have hB : z_all [z_is 188 0 (zf_aload 0 0 1), z_at 188 1 (zf_gr 1 18 0 4), z_is 188 4 (zx_ret 1)] = true := by decide +kernel
  refine q_s hB (fun _ _ k => z_aload hB rfl k) (fun hB => ?_)
  refine q_s hB (fun _ _ k => x_getr hB S.1.1 S.1.2 S.2.2.1.1 k) (fun hB => ?_)
  exact q_r (x_retA hB) ⟨rfl, rfl⟩
theorem n_alen {G : z_G} {w : ev_W} (hl : G.2.2.stackTraces = false) {a b cap : Nat} {l : List Nat} (S : SB w a b cap l) : z_N G 189 [.ref a] w (fun v w1 => v = some (.int (jn l.length)) ∧ w1 = w) := by
  refine q_con hl (ml := 1) (by decide +kernel) rfl rfl ?_
  have hB : z_all [z_is 189 0 (zf_aload 0 0 1), z_at 189 1 (zf_gi 1 18 3 4), z_is 189 4 (zf_ret 0)] = true := by decide +kernel
  refine q_s hB (fun _ _ k => z_aload hB rfl k) (fun hB => ?_)
  refine q_s hB (fun _ _ k => x_geti hB S.1.1 S.1.2 k) (fun hB => ?_)
  rw [S.2.2.1.2.2]
  exact q_r (z_reti hB) ⟨rfl, rfl⟩
theorem n_newCap {G : z_G} {w : ev_W} (hl : G.2.2.stackTraces = false) {a b cap q : Nat} {l : List Nat} (S : SB w a b cap l) (h1 : cap < q) (h2 : q ≤ 300) : z_N G 184 [.ref a, .int (jn q)] w (fun v w1 => v = some (.int (jn (cap + max (q - cap) (cap + 2)))) ∧ w1 = w) := by
  refine q_con hl (ml := 6) (by decide +kernel) rfl rfl ?_
  have hc := S.2.2.2.1
  have k9 := n_k <| n_newLen (w := w) hl (x := cap) (y := q - cap) (z := cap + 2) (by omega) (by omega) (by omega) (by omega)
  have hB : z_all [z_is 184 0 (zf_aload 0 0 1), z_at 184 1 (zf_gr 1 18 0 4), z_at 184 4 (zx_alen 4 5), z_is 184 5 (zf_istore 5 2 6), z_is 184 6 (zf_iload 6 1 7), z_is 184 7 (zf_aload 7 0 8), z_at 184 8 (zf_gi 8 18 1 11), z_is 184 11 (zf_ishl 11 12), z_is 184 12 (zf_istore 12 3 13), z_is 184 13 (zf_iload 13 3 14), z_is 184 14 (zf_iload 14 2 15), z_is 184 15 (zf_isub 15 16), z_is 184 16 (zf_istore 16 4 18), z_is 184 18 (zf_iload 18 2 19), z_is 184 19 (zf_iload 19 4 21), z_is 184 21 (zf_iload 21 2 22), z_is 184 22 (zf_cst 22 (jn 2) 23), z_is 184 23 (zf_aload 23 0 24), z_at 184 24 (zf_gi 24 18 1 27), z_is 184 27 (zf_ishl 27 28), z_is 184 28 (zf_iadd 28 29), z_is 184 29 (zf_cs 29 210 3 32), z_is 184 32 (zf_istore 32 5 34), z_is 184 34 (zf_iload 34 5 36), z_at 184 36 (zx_ldci 36 (jn 2147483647) 38), z_is 184 38 (zf_if2 .ne 38 51 41), z_is 184 51 (zf_iload 51 5 53), z_is 184 53 (zf_aload 53 0 54), z_at 184 54 (zf_gi 54 18 1 57), z_is 184 57 (zf_ishr 57 58), z_is 184 58 (zf_ret 0)] = true := by decide +kernel
  refine q_s hB (fun _ _ k => z_aload hB rfl k) (fun hB => ?_)
  refine q_s hB (fun _ _ k => x_getr hB S.1.1 S.1.2 S.2.2.1.1 k) (fun hB => ?_)
  refine q_s hB (fun _ _ k => x_alen hB S.2.1.1 (by rw [S.2.1.2]; omega) (by rw [S.2.1.2]; omega) k) (fun hB => ?_)
  rw [S.len]
  refine q_s hB (fun _ _ k => z_istore hB rfl rfl k) (fun hB => ?_)
  refine q_s hB (fun _ _ k => z_iload hB rfl k) (fun hB => ?_)
  refine q_s hB (fun _ _ k => z_aload hB rfl k) (fun hB => ?_)
  refine q_s hB (fun _ _ k => x_geti hB S.1.1 S.1.2 k) (fun hB => ?_)
  refine q_s hB (fun _ _ k => z_ishl hB k) (fun hB => ?_)
  rw [S.2.2.1.2.1, js0l]
  refine q_s hB (fun _ _ k => z_istore hB rfl rfl k) (fun hB => ?_)
  refine q_s hB (fun _ _ k => z_iload hB rfl k) (fun hB => ?_)
  refine q_s hB (fun _ _ k => z_iload hB rfl k) (fun hB => ?_)
  refine q_s hB (fun _ _ k => z_isub hB k) (fun hB => ?_)
  rw [jn_sub (by omega)]
  refine q_s hB (fun _ _ k => z_istore hB rfl rfl k) (fun hB => ?_)
  refine q_s hB (fun _ _ k => z_iload hB rfl k) (fun hB => ?_)
  refine q_s hB (fun _ _ k => z_iload hB rfl k) (fun hB => ?_)
  refine q_s hB (fun _ _ k => z_iload hB rfl k) (fun hB => ?_)
  refine q_s hB (fun _ _ k => z_cst hB k) (fun hB => ?_)
  refine q_s hB (fun _ _ k => z_aload hB rfl k) (fun hB => ?_)
  refine q_s hB (fun _ _ k => x_geti hB S.1.1 S.1.2 k) (fun hB => ?_)
  refine q_s hB (fun _ _ k => z_ishl hB k) (fun hB => ?_)
  rw [S.2.2.1.2.1, js0l]
  refine q_s hB (fun _ _ k => z_iadd hB k) (fun hB => ?_)
  rw [jn_add]
  refine q_s hB (fun _ _ k => z_callS hB (rest := []) rfl rfl rfl k9 k) (fun hB => ?_)
  refine q_s hB (fun _ _ k => z_istore hB rfl rfl k) (fun hB => ?_)
  refine q_s hB (fun _ _ k => z_iload hB rfl k) (fun hB => ?_)
  refine q_s hB (fun _ _ k => x_ldci hB k) (fun hB => ?_)
  refine q_s hB (fun _ _ k => z_ic_ne hB (fun _ => k) (fun h _ => absurd h (jbig2 (by omega)))) (fun hB => ?_)
  refine q_s hB (fun _ _ k => z_iload hB rfl k) (fun hB => ?_)
  refine q_s hB (fun _ _ k => z_aload hB rfl k) (fun hB => ?_)
  refine q_s hB (fun _ _ k => x_geti hB S.1.1 S.1.2 k) (fun hB => ?_)
  refine q_s hB (fun _ _ k => z_ishr hB k) (fun hB => ?_)
  rw [S.2.2.1.2.1, js0]
  exact q_r (z_reti hB) ⟨rfl, rfl⟩
theorem nw_K {w : ev_W} {k n : Nat} : w_K (w_nw w k n) (w_n w) = k := ev_u1_at _ _ _
theorem nw_L {w : ev_W} {k n : Nat} : w_L (w_nw w k n) (w_n w) = n := ev_u1_at _ _ _
theorem nw_Kb {w : ev_W} {k n b : Nat} (h : b < w_n w) : w_K (w_nw w k n) b = w_K w b := if_neg (Nat.ne_of_lt h)
theorem nw_Lb {w : ev_W} {k n b : Nat} (h : b < w_n w) : w_L (w_nw w k n) b = w_L w b := if_neg (Nat.ne_of_lt h)
theorem nw_Ib {w : ev_W} {k n b : Nat} (h : b < w_n w) : w_I (w_nw w k n) b = w_I w b := if_neg (Nat.ne_of_lt h)
theorem nw_Rb {w : ev_W} {k n b : Nat} (h : b < w_n w) : w_R (w_nw w k n) b = w_R w b := if_neg (Nat.ne_of_lt h)
theorem cp_I {w : ev_W} {a : Nat} {f : Nat → Int32} : w_I (w_cp w a f) a = f := ev_u1_at _ _ _
theorem cp_Ib {w : ev_W} {a b : Nat} {f : Nat → Int32} (h : ¬ b = a) : w_I (w_cp w a f) b = w_I w b := if_neg h
theorem sR_at {w : ev_W} {a i : Nat} {x : Option Nat} : w_R (w_sR w a i x) a i = x := by
  show ev_u2 (w_R w) a i x a i = x
  unfold ev_u2; rw [if_pos rfl]; exact if_pos rfl
theorem sI_at {w : ev_W} {a i : Nat} {x : Int32} : w_I (w_sI w a i x) a i = x := by
  show ev_u2 (w_I w) a i x a i = x
  unfold ev_u2; rw [if_pos rfl]; exact if_pos rfl
theorem sI_ne {w : ev_W} {a i b k : Nat} {x : Int32} (h : ¬ (b = a ∧ k = i)) : w_I (w_sI w a i x) b k = w_I w b k := ju_ne h
theorem sI_na {w : ev_W} {a i b : Nat} {x : Int32} (h : ¬ b = a) : w_I (w_sI w a i x) b = w_I w b := ju_na h
theorem SB.ne {w : ev_W} {a b cap : Nat} {l : List Nat} (S : SB w a b cap l) : ¬ a = b := fun q => by
  have h1 := S.1.2
  have h2 := S.2.1.2
  rw [q, h2] at h1
  cases h1
/-- the buffer has grown -/
theorem SB_grow {w : ev_W} {a b cap m : Nat} {l : List Nat} {f : Nat → Int32} (S : SB w a b cap l) (hm : cap ≤ m) (hm2 : m ≤ 700) (hf : ∀ i, f i = if i < cap then w_I w b i else 0) : SB (w_sR (w_cp (w_nw w 9 m) (w_n w) f) a 0 (some (w_n w))) a (w_n w) m l := by
  obtain ⟨⟨a1, a2⟩, ⟨b1, b2⟩, ⟨c1, c2, c3⟩, ⟨d1, d2, d3⟩, e1, f1, g1⟩ := S
  have na : ¬ a = w_n w := by omega
  have i1 : w_I (w_sR (w_cp (w_nw w 9 m) (w_n w) f) a 0 (some (w_n w))) a = w_I w a := (cp_Ib (w := w_nw w 9 m) (f := f) na).trans (nw_Ib (k := 9) (n := m) a1)
  refine ⟨⟨Nat.lt_succ_of_lt a1, (nw_Kb (k := 9) (n := m) a1).trans a2⟩, ⟨Nat.lt_succ_self _, nw_K (w := w) (k := 9) (n := m)⟩, ⟨sR_at, by rw [i1]; exact c2, by rw [i1]; exact c3⟩, ⟨nw_L (w := w) (k := 9) (n := m), by omega, hm2⟩, fun i hi => ?_, f1, fun i => ?_⟩
  · show w_I (w_cp (w_nw w 9 m) (w_n w) f) (w_n w) i = _
    rw [cp_I, hf i, if_pos (by omega), e1 i hi]
  · show fits .byte (.int (w_I (w_cp (w_nw w 9 m) (w_n w) f) (w_n w) i)) = true
    rw [cp_I, hf i]
    by_cases h : i < cap
    · rw [if_pos h]; exact g1 i
    · rw [if_neg h]; rfl
theorem jfit {x : Nat} (h : x < 128) : fits .byte (.int (jn x)) = true := by
  have h2 : ∀ q : Fin 128, fits .byte (.int (jn q.val)) = true := by decide +kernel
  exact h2 ⟨x, h⟩
theorem jnar {x : Nat} (h : x < 128) : vp_nar .byte (jn x) = jn x := by
  have h2 : ∀ q : Fin 128, vp_nar .byte (jn q.val) = jn q.val := by decide +kernel
  exact h2 ⟨x, h⟩
