/-! texts of the methods, and that the bytecode does what they say: by wip/gen/zd.py -/
def d_I_bitCount (x1 : Int32) : Option (Int32) := some (((((((((x1 - ((((x1).toUInt32 >>> (((jn 1) : Int32).toUInt32 &&& Int32.toUInt32 31)).toInt32) &&& 1431655765)) &&& 858993459) + (((((x1 - ((((x1).toUInt32 >>> (((jn 1) : Int32).toUInt32 &&& Int32.toUInt32 31)).toInt32) &&& 1431655765))).toUInt32 >>> (((jn 2) : Int32).toUInt32 &&& Int32.toUInt32 31)).toInt32) &&& 858993459)) + ((((((x1 - ((((x1).toUInt32 >>> (((jn 1) : Int32).toUInt32 &&& Int32.toUInt32 31)).toInt32) &&& 1431655765)) &&& 858993459) + (((((x1 - ((((x1).toUInt32 >>> (((jn 1) : Int32).toUInt32 &&& Int32.toUInt32 31)).toInt32) &&& 1431655765))).toUInt32 >>> (((jn 2) : Int32).toUInt32 &&& Int32.toUInt32 31)).toInt32) &&& 858993459))).toUInt32 >>> (((jn 4) : Int32).toUInt32 &&& Int32.toUInt32 31)).toInt32)) &&& 252645135) + ((((((((x1 - ((((x1).toUInt32 >>> (((jn 1) : Int32).toUInt32 &&& Int32.toUInt32 31)).toInt32) &&& 1431655765)) &&& 858993459) + (((((x1 - ((((x1).toUInt32 >>> (((jn 1) : Int32).toUInt32 &&& Int32.toUInt32 31)).toInt32) &&& 1431655765))).toUInt32 >>> (((jn 2) : Int32).toUInt32 &&& Int32.toUInt32 31)).toInt32) &&& 858993459)) + ((((((x1 - ((((x1).toUInt32 >>> (((jn 1) : Int32).toUInt32 &&& Int32.toUInt32 31)).toInt32) &&& 1431655765)) &&& 858993459) + (((((x1 - ((((x1).toUInt32 >>> (((jn 1) : Int32).toUInt32 &&& Int32.toUInt32 31)).toInt32) &&& 1431655765))).toUInt32 >>> (((jn 2) : Int32).toUInt32 &&& Int32.toUInt32 31)).toInt32) &&& 858993459))).toUInt32 >>> (((jn 4) : Int32).toUInt32 &&& Int32.toUInt32 31)).toInt32)) &&& 252645135)).toUInt32 >>> (((jn 8) : Int32).toUInt32 &&& Int32.toUInt32 31)).toInt32)) + (((((((((x1 - ((((x1).toUInt32 >>> (((jn 1) : Int32).toUInt32 &&& Int32.toUInt32 31)).toInt32) &&& 1431655765)) &&& 858993459) + (((((x1 - ((((x1).toUInt32 >>> (((jn 1) : Int32).toUInt32 &&& Int32.toUInt32 31)).toInt32) &&& 1431655765))).toUInt32 >>> (((jn 2) : Int32).toUInt32 &&& Int32.toUInt32 31)).toInt32) &&& 858993459)) + ((((((x1 - ((((x1).toUInt32 >>> (((jn 1) : Int32).toUInt32 &&& Int32.toUInt32 31)).toInt32) &&& 1431655765)) &&& 858993459) + (((((x1 - ((((x1).toUInt32 >>> (((jn 1) : Int32).toUInt32 &&& Int32.toUInt32 31)).toInt32) &&& 1431655765))).toUInt32 >>> (((jn 2) : Int32).toUInt32 &&& Int32.toUInt32 31)).toInt32) &&& 858993459))).toUInt32 >>> (((jn 4) : Int32).toUInt32 &&& Int32.toUInt32 31)).toInt32)) &&& 252645135) + ((((((((x1 - ((((x1).toUInt32 >>> (((jn 1) : Int32).toUInt32 &&& Int32.toUInt32 31)).toInt32) &&& 1431655765)) &&& 858993459) + (((((x1 - ((((x1).toUInt32 >>> (((jn 1) : Int32).toUInt32 &&& Int32.toUInt32 31)).toInt32) &&& 1431655765))).toUInt32 >>> (((jn 2) : Int32).toUInt32 &&& Int32.toUInt32 31)).toInt32) &&& 858993459)) + ((((((x1 - ((((x1).toUInt32 >>> (((jn 1) : Int32).toUInt32 &&& Int32.toUInt32 31)).toInt32) &&& 1431655765)) &&& 858993459) + (((((x1 - ((((x1).toUInt32 >>> (((jn 1) : Int32).toUInt32 &&& Int32.toUInt32 31)).toInt32) &&& 1431655765))).toUInt32 >>> (((jn 2) : Int32).toUInt32 &&& Int32.toUInt32 31)).toInt32) &&& 858993459))).toUInt32 >>> (((jn 4) : Int32).toUInt32 &&& Int32.toUInt32 31)).toInt32)) &&& 252645135)).toUInt32 >>> (((jn 8) : Int32).toUInt32 &&& Int32.toUInt32 31)).toInt32))).toUInt32 >>> (((jn 16) : Int32).toUInt32 &&& Int32.toUInt32 31)).toInt32)) &&& (jn 63)))
/-- java/lang/Integer.bitCount(I)I -/
theorem t_I_bitCount {G : z_G} {w : ev_W} (ok : z_Ok G w) {x1 : Int32} {I : z_H} {r : Int32} (h : d_I_bitCount x1 = some r) : z_K G 372 [.int (x1)] (z_w w I) (.inl (some (.int r))) (z_w w I) := by
  refine z_con ok.1 (ml := 1) (by decide +kernel) rfl rfl ?_
  show z_R G 372 0 [some (.int (x1))] [] (z_w w I) (.inl (some (.int r))) (z_w w I)
  unfold d_I_bitCount at h
  have hB : z_all [z_is 372 0 (zf_iload 0 0 1), z_is 372 1 (zf_iload 1 0 2), z_is 372 2 (zf_cst 2 (jn 1) 3), z_at 372 3 (zf_iushr 3 4), z_at 372 4 (zf_ldcw 4 (1431655765 : Int32) 7), z_is 372 7 (zf_iand 7 8), z_is 372 8 (zf_isub 8 9), z_is 372 9 (zf_istore 9 0 10), z_is 372 10 (zf_iload 10 0 11), z_at 372 11 (zf_ldcw 11 (858993459 : Int32) 14), z_is 372 14 (zf_iand 14 15), z_is 372 15 (zf_iload 15 0 16), z_is 372 16 (zf_cst 16 (jn 2) 17), z_at 372 17 (zf_iushr 17 18), z_at 372 18 (zf_ldcw 18 (858993459 : Int32) 21), z_is 372 21 (zf_iand 21 22), z_is 372 22 (zf_iadd 22 23), z_is 372 23 (zf_istore 23 0 24), z_is 372 24 (zf_iload 24 0 25), z_is 372 25 (zf_iload 25 0 26), z_is 372 26 (zf_cst 26 (jn 4) 27), z_at 372 27 (zf_iushr 27 28), z_is 372 28 (zf_iadd 28 29), z_at 372 29 (zf_ldcw 29 (252645135 : Int32) 32), z_is 372 32 (zf_iand 32 33), z_is 372 33 (zf_istore 33 0 34), z_is 372 34 (zf_iload 34 0 35), z_is 372 35 (zf_iload 35 0 36), z_is 372 36 (zf_cst 36 (jn 8) 38), z_at 372 38 (zf_iushr 38 39), z_is 372 39 (zf_iadd 39 40), z_is 372 40 (zf_istore 40 0 41), z_is 372 41 (zf_iload 41 0 42), z_is 372 42 (zf_iload 42 0 43), z_is 372 43 (zf_cst 43 (jn 16) 45), z_at 372 45 (zf_iushr 45 46), z_is 372 46 (zf_iadd 46 47), z_is 372 47 (zf_istore 47 0 48), z_is 372 48 (zf_iload 48 0 49), z_is 372 49 (zf_cst 49 (jn 63) 51), z_is 372 51 (zf_iand 51 52), z_is 372 52 (zf_ret 0)] = true := by decide +kernel
  refine z_iload hB rfl (fun hB => ?_)
  refine z_iload hB rfl (fun hB => ?_)
  refine z_cst hB (fun hB => ?_)
  refine z_iushr hB (fun hB => ?_)
  refine z_ldcw hB (fun hB => ?_)
  refine z_iand hB (fun hB => ?_)
  refine z_isub hB (fun hB => ?_)
  refine z_istore hB rfl rfl (fun hB => ?_)
  refine z_iload hB rfl (fun hB => ?_)
  refine z_ldcw hB (fun hB => ?_)
  refine z_iand hB (fun hB => ?_)
  refine z_iload hB rfl (fun hB => ?_)
  refine z_cst hB (fun hB => ?_)
  refine z_iushr hB (fun hB => ?_)
  refine z_ldcw hB (fun hB => ?_)
  refine z_iand hB (fun hB => ?_)
  refine z_iadd hB (fun hB => ?_)
  refine z_istore hB rfl rfl (fun hB => ?_)
  refine z_iload hB rfl (fun hB => ?_)
  refine z_iload hB rfl (fun hB => ?_)
  refine z_cst hB (fun hB => ?_)
  refine z_iushr hB (fun hB => ?_)
  refine z_iadd hB (fun hB => ?_)
  refine z_ldcw hB (fun hB => ?_)
  refine z_iand hB (fun hB => ?_)
  refine z_istore hB rfl rfl (fun hB => ?_)
  refine z_iload hB rfl (fun hB => ?_)
  refine z_iload hB rfl (fun hB => ?_)
  refine z_cst hB (fun hB => ?_)
  refine z_iushr hB (fun hB => ?_)
  refine z_iadd hB (fun hB => ?_)
  refine z_istore hB rfl rfl (fun hB => ?_)
  refine z_iload hB rfl (fun hB => ?_)
  refine z_iload hB rfl (fun hB => ?_)
  refine z_cst hB (fun hB => ?_)
  refine z_iushr hB (fun hB => ?_)
  refine z_iadd hB (fun hB => ?_)
  refine z_istore hB rfl rfl (fun hB => ?_)
  refine z_iload hB rfl (fun hB => ?_)
  refine z_cst hB (fun hB => ?_)
  refine z_iand hB (fun hB => ?_)
  cases h
  exact z_reti hB
def d_A_fill_2 (r1 : Nat) (x2 : Int32) (p1 : Int32 × z_H) : Option ((Int32 × z_H) ⊕ (Int32 × z_H)) := (if p1.1 < (jn (z_l r1)) then (if z_in (p1.1) (z_l r1) then some (Sum.inl ((p1.1 + (jn 1)), (ev_u2 p1.2 r1 (z_n (p1.1)) x2))) else none) else some (Sum.inr (p1.1, p1.2)))
def d_A_fill (r1 : Nat) (x2 : Int32) (I : z_H) : Option (z_H) := ((z_it (d_A_fill_2 r1 x2) z_F ((jn 0), I)).bind fun q3 => some (q3.2))
/-- java/util/Arrays.fill([II)V -/
theorem t_A_fill {G : z_G} {w : ev_W} (ok : z_Ok G w) {r1 : Nat} {x2 : Int32} (hr1 : zt 10 r1 = true) {I : z_H} {r : z_H} (h : d_A_fill r1 x2 I = some r) : z_K G 371 [.ref (r1), .int (x2)] (z_w w I) (.inl none) (z_w w r) := by
  refine z_con ok.1 (ml := 4) (by decide +kernel) rfl rfl ?_
  show z_R G 371 0 [some (.ref (r1)), some (.int (x2)), none, none] [] (z_w w I) (.inl none) (z_w w r)
  unfold d_A_fill at h
  have hB : z_all [z_is 371 0 (zf_cst 0 (jn 0) 1), z_is 371 1 (zf_istore 1 2 2), z_is 371 2 (zf_aload 2 0 3), z_is 371 3 (zf_alen 3 4), z_is 371 4 (zf_istore 4 3 5)] = true := by decide +kernel
  refine z_cst hB (fun hB => ?_)
  refine z_istore hB rfl rfl (fun hB => ?_)
  refine z_aload hB rfl (fun hB => ?_)
  refine y_alen ok hB hr1 (fun hB => ?_)
  refine z_istore hB rfl rfl (fun hB => ?_)
  obtain ⟨q3, e4, h⟩ := z_bind h
  have k5 : z_R G 371 20 [none, none, none, none] [] (z_w w q3.2) (.inl none) (z_w w r) := by
    have hB : z_all [z_is 371 20 (zf_ret 6)] = true := by decide +kernel
    cases h
    exact z_retv hB
  have l2 : ∀ (m2 : Nat) (p1 : Int32 × z_H), z_it (d_A_fill_2 r1 x2) m2 p1 = some q3 → z_R G 371 5 [some (.ref (r1)), some (.int (x2)), some (.int (p1.1)), some (.int ((jn (z_l r1))))] [] (z_w w p1.2) (.inl none) (z_w w r) := by
    intro m2
    induction m2 with
    | zero => intro p1 h; cases h
    | succ m2 i2 =>
      intro p1 h
      obtain ⟨u2, h, b2⟩ := z_it_o h
      unfold d_A_fill_2 at h
      have hB : z_all [z_is 371 5 (zf_iload 5 2 6), z_is 371 6 (zf_iload 6 3 7), z_is 371 7 (zf_if2 .ge 7 20 10)] = true := by decide +kernel
      refine z_iload hB rfl (fun hB => ?_)
      refine z_iload hB rfl (fun hB => ?_)
      refine z_ic_ge hB (fun hc _ => ?_) (fun hc _ => ?_)
      · have h := z_neg hc h
        cases h
        cases b2
        exact z_weak k5 (z_sn (z_sn (z_sn (z_sn z_s0))))
      · have h := z_pos hc h
        have hB : z_all [z_is 371 10 (zf_aload 10 0 11), z_is 371 11 (zf_iload 11 2 12), z_is 371 12 (zf_iload 12 1 13), z_is 371 13 (zf_iast 13 14), z_is 371 14 (zf_iinc 14 2 (jn 1) 17), z_is 371 17 (zf_goto 17 5)] = true := by decide +kernel
        refine z_aload hB rfl (fun hB => ?_)
        refine z_iload hB rfl (fun hB => ?_)
        refine z_iload hB rfl (fun hB => ?_)
        obtain ⟨g6, h⟩ := z_gd h
        refine y_iast ok hB hr1 rfl g6 (fun hB => ?_)
        refine z_iinc hB rfl rfl (fun hB => ?_)
        refine z_goto hB (fun hB => ?_)
        cases h
        exact z_weak (i2 ((p1.1 + (jn 1)), (ev_u2 p1.2 r1 (z_n (p1.1)) x2)) b2) (z_se (z_se (z_se (z_se z_s0))))
  exact z_weak (l2 _ ((jn 0), I) e4) (z_se (z_se (z_se (z_se z_s0))))
