/-! texts of the methods, and that the bytecode does what they say: by wip/gen/zd.py -/
def d_F_store_2 (x1 : Int32) (p1 : Int32 × z_H) : Option ((Int32 × z_H) ⊕ (Int32 × z_H)) := (if p1.1 < jn 0 then some (Sum.inr (p1.1, p1.2)) else (if z_in ((p1.2 0 1)) 500 then (Option.bind (α := z_H) (some (ev_u2 (ev_u2 p1.2 1 (z_n ((p1.2 0 1))) (vp_nar .byte (((x1 >>> (p1.1 &&& 31))).toInt8.toInt32))) 0 1 (((ev_u2 p1.2 1 (z_n ((p1.2 0 1))) (vp_nar .byte (((x1 >>> (p1.1 &&& 31))).toInt8.toInt32))) 0 1) + (jn 1)))) fun J7 => some (Sum.inl ((p1.1 + (jg 8)), J7))) else none))
def d_F_store (x1 : Int32) (I : z_H) : Option (z_H) := ((z_it (d_F_store_2 x1) z_F ((jn 24), I)).bind fun q3 => some (q3.2))
/-- FlagLaundry.store(I)V -/
theorem t_F_store {G : z_G} {w : ev_W} (ok : z_Ok G w) {x1 : Int32} {I : z_H} {r : z_H} (h : d_F_store x1 I = some r) : z_K G 200 [.ref (0), .int (x1)] (z_w w I) (.inl none) (z_w w r) := by
  refine z_con ok.1 (ml := 3) (by decide +kernel) rfl rfl ?_
  show z_R G 200 0 [some (.ref (0)), some (.int (x1)), none] [] (z_w w I) (.inl none) (z_w w r)
  unfold d_F_store at h
  have hB : z_all [z_is 200 0 (zf_cst 0 (jn 24) 2), z_is 200 2 (zf_istore 2 2 3)] = true := by decide +kernel
  refine z_cst hB (fun hB => ?_)
  refine z_istore hB rfl rfl (fun hB => ?_)
  obtain ⟨q3, e4, h⟩ := z_bind h
  have k5 : z_R G 200 36 [none, none, none] [] (z_w w q3.2) (.inl none) (z_w w r) := by
    have hB : z_all [z_is 200 36 (zf_ret 6)] = true := by decide +kernel
    cases h
    exact z_retv hB
  have l2 : ∀ (m2 : Nat) (p1 : Int32 × z_H), z_it (d_F_store_2 x1) m2 p1 = some q3 → z_R G 200 3 [some (.ref (0)), some (.int (x1)), some (.int (p1.1))] [] (z_w w p1.2) (.inl none) (z_w w r) := by
    intro m2
    induction m2 with
    | zero => intro p1 h; cases h
    | succ m2 i2 =>
      intro p1 h
      obtain ⟨u2, h, b2⟩ := z_it_o h
      unfold d_F_store_2 at h
      have hB : z_all [z_is 200 3 (zf_iload 3 2 4), z_is 200 4 (zf_if1 .lt 4 36 7)] = true := by decide +kernel
      refine z_iload hB rfl (fun hB => ?_)
      refine z_if_lt hB (fun hc _ => ?_) (fun hc _ => ?_)
      · have h := z_pos hc h
        cases h
        cases b2
        exact z_weak k5 (z_sn (z_sn (z_sn z_s0)))
      · have h := z_neg hc h
        have hB : z_all [z_is 200 7 (zf_aload 7 0 8), z_is 200 8 (zf_getr 8 7 0 11), z_is 200 11 (zf_aload 11 0 12), z_is 200 12 (zf_geti 12 7 1 15), z_is 200 15 (zf_iload 15 1 16), z_is 200 16 (zf_iload 16 2 17), z_is 200 17 (zf_ishr 17 18), z_is 200 18 (zf_i2b 18 19), z_is 200 19 (zf_bast 19 20), z_is 200 20 (zf_aload 20 0 21), z_is 200 21 (zf_dupr 21 22), z_is 200 22 (zf_geti 22 7 1 25), z_is 200 25 (zf_cst 25 (jn 1) 26), z_is 200 26 (zf_iadd 26 27), z_is 200 27 (zf_puti 27 7 1 30), z_is 200 30 (zf_iinc 30 2 (jg 8) 33), z_is 200 33 (zf_goto 33 3)] = true := by decide +kernel
        refine z_aload hB rfl (fun hB => ?_)
        refine y_getr (b := 1) ok hB (by decide +kernel) (by decide +kernel) (fun hB => ?_)
        refine z_aload hB rfl (fun hB => ?_)
        refine y_geti ok hB (by decide +kernel) (fun hB => ?_)
        refine z_iload hB rfl (fun hB => ?_)
        refine z_iload hB rfl (fun hB => ?_)
        refine z_ishr hB (fun hB => ?_)
        refine z_i2b hB (fun hB => ?_)
        obtain ⟨g6, h⟩ := z_gd h
        refine y_bast ok hB (by decide +kernel) (by decide +kernel) g6 (fun hB => ?_)
        refine z_aload hB rfl (fun hB => ?_)
        refine z_dupr hB (fun hB => ?_)
        refine y_geti ok hB (by decide +kernel) (fun hB => ?_)
        refine z_cst hB (fun hB => ?_)
        refine z_iadd hB (fun hB => ?_)
        refine y_puti ok hB (by decide +kernel) (fun hB => ?_)
        obtain ⟨J7, e8, h⟩ := z_bind h
        rw [z_inj e8]
        refine z_iinc hB rfl rfl (fun hB => ?_)
        refine z_goto hB (fun hB => ?_)
        cases h
        exact z_weak (i2 ((p1.1 + (jg 8)), J7) b2) (z_se (z_se (z_se z_s0)))
  exact z_weak (l2 _ ((jn 24), I) e4) (z_se (z_se (z_se z_s0)))
def d_F_append (x1 : Int32) (x2 : Int32) (x3 : Int32) (x4 : Int32) (x5 : Int32) (I : z_H) : Option (Int32 × z_H) := (if (jn 500) < ((I 0 1) + (jn 20)) then some (((jg 1), I)) else ((d_F_store (x1) I).bind fun q1 => ((d_F_store (x2) q1).bind fun q3 => ((d_F_store (x3) q3).bind fun q5 => ((d_F_store (x4) q5).bind fun q7 => ((d_F_store (x5) q7).bind fun q9 => some (((q9 0 1), q9))))))))
/-- FlagLaundry.append(IIIII)I -/
theorem t_F_append {G : z_G} {w : ev_W} (ok : z_Ok G w) {x1 : Int32} {x2 : Int32} {x3 : Int32} {x4 : Int32} {x5 : Int32} {I : z_H} {r : Int32 × z_H} (h : d_F_append x1 x2 x3 x4 x5 I = some r) : z_K G 131 [.ref (0), .int (x1), .int (x2), .int (x3), .int (x4), .int (x5)] (z_w w I) (.inl (some (.int r.1))) (z_w w r.2) := by
  refine z_con ok.1 (ml := 6) (by decide +kernel) rfl rfl ?_
  show z_R G 131 0 [some (.ref (0)), some (.int (x1)), some (.int (x2)), some (.int (x3)), some (.int (x4)), some (.int (x5))] [] (z_w w I) (.inl (some (.int r.1))) (z_w w r.2)
  unfold d_F_append at h
  have hB : z_all [z_is 131 0 (zf_aload 0 0 1), z_is 131 1 (zf_geti 1 7 1 4), z_is 131 4 (zf_cst 4 (jn 20) 6), z_is 131 6 (zf_iadd 6 7), z_is 131 7 (zf_cst 7 (jn 500) 10), z_is 131 10 (zf_if2 .le 10 15 13)] = true := by decide +kernel
  refine z_aload hB rfl (fun hB => ?_)
  refine y_geti ok hB (by decide +kernel) (fun hB => ?_)
  refine z_cst hB (fun hB => ?_)
  refine z_iadd hB (fun hB => ?_)
  refine z_cst hB (fun hB => ?_)
  refine z_ic_le hB (fun hc _ => ?_) (fun hc _ => ?_)
  · have h := z_neg hc h
    have hB : z_all [z_is 131 15 (zf_aload 15 0 16), z_is 131 16 (zf_iload 16 1 17), z_is 131 17 (zf_cv 17 200 1 7 20), z_is 131 20 (zf_aload 20 0 21), z_is 131 21 (zf_iload 21 2 22), z_is 131 22 (zf_cv 22 200 1 7 25), z_is 131 25 (zf_aload 25 0 26), z_is 131 26 (zf_iload 26 3 27), z_is 131 27 (zf_cv 27 200 1 7 30), z_is 131 30 (zf_aload 30 0 31), z_is 131 31 (zf_iload 31 4 33), z_is 131 33 (zf_cv 33 200 1 7 36), z_is 131 36 (zf_aload 36 0 37), z_is 131 37 (zf_iload 37 5 39), z_is 131 39 (zf_cv 39 200 1 7 42), z_is 131 42 (zf_aload 42 0 43), z_is 131 43 (zf_geti 43 7 1 46), z_is 131 46 (zf_ret 0)] = true := by decide +kernel
    refine z_aload hB rfl (fun hB => ?_)
    refine z_iload hB rfl (fun hB => ?_)
    obtain ⟨q1, e2, h⟩ := z_bind h
    refine y_cv ok hB (as := [.int (x1)]) (a := 0) (rest := []) rfl rfl rfl (by decide +kernel) (t_F_store (I := I) ok e2) (fun hB => ?_)
    refine z_aload hB rfl (fun hB => ?_)
    refine z_iload hB rfl (fun hB => ?_)
    obtain ⟨q3, e4, h⟩ := z_bind h
    refine y_cv ok hB (as := [.int (x2)]) (a := 0) (rest := []) rfl rfl rfl (by decide +kernel) (t_F_store (I := q1) ok e4) (fun hB => ?_)
    refine z_aload hB rfl (fun hB => ?_)
    refine z_iload hB rfl (fun hB => ?_)
    obtain ⟨q5, e6, h⟩ := z_bind h
    refine y_cv ok hB (as := [.int (x3)]) (a := 0) (rest := []) rfl rfl rfl (by decide +kernel) (t_F_store (I := q3) ok e6) (fun hB => ?_)
    refine z_aload hB rfl (fun hB => ?_)
    refine z_iload hB rfl (fun hB => ?_)
    obtain ⟨q7, e8, h⟩ := z_bind h
    refine y_cv ok hB (as := [.int (x4)]) (a := 0) (rest := []) rfl rfl rfl (by decide +kernel) (t_F_store (I := q5) ok e8) (fun hB => ?_)
    refine z_aload hB rfl (fun hB => ?_)
    refine z_iload hB rfl (fun hB => ?_)
    obtain ⟨q9, e10, h⟩ := z_bind h
    refine y_cv ok hB (as := [.int (x5)]) (a := 0) (rest := []) rfl rfl rfl (by decide +kernel) (t_F_store (I := q7) ok e10) (fun hB => ?_)
    refine z_aload hB rfl (fun hB => ?_)
    refine y_geti ok hB (by decide +kernel) (fun hB => ?_)
    cases h
    exact z_reti hB
  · have h := z_pos hc h
    have hB : z_all [z_is 131 13 (zf_cst 13 (jg 1) 14), z_is 131 14 (zf_ret 0)] = true := by decide +kernel
    refine z_cst hB (fun hB => ?_)
    cases h
    exact z_reti hB
def d_F_load (n : Nat) (p : Nat) (x1 : Int32) (I : z_H) : Option ((Nat ⊕ Int32) × z_H) := (if x1 < jn 0 then some ((Sum.inl 1, I)) else (if (I 0 1) < x1 then some ((Sum.inl 1, I)) else ((d_P_read p (x1) (ev_u2 I 0 1 (jn 0))).bind fun q1 => (if ((ev_u2 (ev_u2 q1 0 2 (q1 54 0)) 0 3 ((ev_u2 q1 0 2 (q1 54 0)) 54 1)) 0 2) = jn 0 then ((d_H_forgetAll (ev_u2 (ev_u2 (ev_u2 q1 0 2 (q1 54 0)) 0 3 ((ev_u2 q1 0 2 (q1 54 0)) 54 1)) 0 4 (jn 1))).bind fun q3 => some ((Sum.inr ((q3 (p + 7) 6)), q3))) else some ((Sum.inl 2, (ev_u2 (ev_u2 q1 0 2 (q1 54 0)) 0 3 ((ev_u2 q1 0 2 (q1 54 0)) 54 1))))))))
/-- FlagLaundry.load(I)I -/
theorem t_F_load {G : z_G} {w : ev_W} (ok : z_Ok G w) {n : Nat} {p : Nat} {x1 : Int32} (hn : z_fc w n) (hp : z_fs w p) {I : z_H} {r : (Nat ⊕ Int32) × z_H} (h : d_F_load n p x1 I = some r) : z_K G 132 [.ref (0), .int (x1)] (z_w w I) (z_o z_vi r.1) (z_ow (z_w (z_ldw w n p r.1) r.2) r.1) := by
  refine z_con ok.1 (ml := 3) (by decide +kernel) rfl rfl ?_
  show z_R G 132 0 [some (.ref (0)), some (.int (x1)), none] [] (z_w w I) (z_o z_vi r.1) (z_ow (z_w (z_ldw w n p r.1) r.2) r.1)
  unfold d_F_load at h
  have hB : z_all [z_is 132 0 (zf_iload 0 1 1), z_is 132 1 (zf_if1 .lt 1 12 4)] = true := by decide +kernel
  refine z_iload hB rfl (fun hB => ?_)
  refine z_if_lt hB (fun hc _ => ?_) (fun hc _ => ?_)
  · have h := z_pos hc h
    have hB : z_all [z_thr 132 12 1] = true := by decide +kernel
    cases h
    exact z_throw hB
  · have h := z_neg hc h
    have hB : z_all [z_is 132 4 (zf_iload 4 1 5), z_is 132 5 (zf_aload 5 0 6), z_is 132 6 (zf_geti 6 7 1 9), z_is 132 9 (zf_if2 .le 9 22 12)] = true := by decide +kernel
    refine z_iload hB rfl (fun hB => ?_)
    refine z_aload hB rfl (fun hB => ?_)
    refine y_geti ok hB (by decide +kernel) (fun hB => ?_)
    refine z_ic_le hB (fun hc _ => ?_) (fun hc _ => ?_)
    · have h := z_neg hc h
      have hB : z_all [z_is 132 22 (zf_aload 22 0 23), z_is 132 23 (zf_cst 23 (jn 0) 24), z_is 132 24 (zf_puti 24 7 1 27), z_is 132 27 (zf_aload 27 0 28), z_is 132 28 (zf_getr 28 7 7 31), z_is 132 31 (zf_aload 31 0 32), z_is 132 32 (zf_getr 32 7 0 35), z_is 132 35 (zf_iload 35 1 36), z_is 132 36 (zf_aload 36 0 37), z_is 132 37 (zf_getr 37 7 6 40), z_is 132 40 (zf_cv 40 63 3 3 43), z_is 132 43 (zf_aload 43 0 44), z_is 132 44 (zf_aload 44 0 45), z_is 132 45 (zf_getr 45 7 7 48), z_is 132 48 (zf_geti 48 3 0 51), z_is 132 51 (zf_puti 51 7 2 54), z_is 132 54 (zf_aload 54 0 55), z_is 132 55 (zf_aload 55 0 56), z_is 132 56 (zf_getr 56 7 7 59), z_is 132 59 (zf_geti 59 3 1 62), z_is 132 62 (zf_puti 62 7 3 65), z_is 132 65 (zf_aload 65 0 66), z_is 132 66 (zf_geti 66 7 2 69), z_is 132 69 (zf_if1 .eq 69 82 72)] = true := by decide +kernel
      refine z_aload hB rfl (fun hB => ?_)
      refine z_cst hB (fun hB => ?_)
      refine y_puti ok hB (by decide +kernel) (fun hB => ?_)
      refine z_aload hB rfl (fun hB => ?_)
      refine y_getr (b := 54) ok hB (by decide +kernel) (by decide +kernel) (fun hB => ?_)
      refine z_aload hB rfl (fun hB => ?_)
      refine y_getr (b := 1) ok hB (by decide +kernel) (by decide +kernel) (fun hB => ?_)
      refine z_iload hB rfl (fun hB => ?_)
      refine z_aload hB rfl (fun hB => ?_)
      refine y_getm ok hB (by decide +kernel) hp.1 (fun hB => ?_)
      obtain ⟨q1, e2, h⟩ := z_bind h
      refine y_cvw ok hB (as := [.ref (1), .int (x1), .ref (p)]) (a := 54) (rest := []) rfl rfl rfl (by decide +kernel) (t_P_read (I := (ev_u2 I 0 1 (jn 0))) ok hp.2 e2) (fun hB => ?_)
      have ok := z_Ok_par (a := p) ok
      have hn := z_fc_par (a := p) hn
      have hp := z_fs_par (a := p) hp
      refine z_aload hB rfl (fun hB => ?_)
      refine z_aload hB rfl (fun hB => ?_)
      refine y_getr (b := 54) ok hB (by decide +kernel) (by decide +kernel) (fun hB => ?_)
      refine y_geti ok hB (by decide +kernel) (fun hB => ?_)
      refine y_puti ok hB (by decide +kernel) (fun hB => ?_)
      refine z_aload hB rfl (fun hB => ?_)
      refine z_aload hB rfl (fun hB => ?_)
      refine y_getr (b := 54) ok hB (by decide +kernel) (by decide +kernel) (fun hB => ?_)
      refine y_geti ok hB (by decide +kernel) (fun hB => ?_)
      refine y_puti ok hB (by decide +kernel) (fun hB => ?_)
      refine z_aload hB rfl (fun hB => ?_)
      refine y_geti ok hB (by decide +kernel) (fun hB => ?_)
      refine z_if_eq hB (fun hc _ => ?_) (fun hc _ => ?_)
      · have h := z_pos hc h
        have hB : z_all [z_is 132 82 (zf_aload 82 0 83), z_is 132 83 (zf_getr 83 7 5 86), z_is 132 86 (zf_astore 86 2 87), z_is 132 87 (zf_aload 87 0 88), z_is 132 88 (zf_aload 88 0 89), z_is 132 89 (zf_getr 89 7 6 92), z_is 132 92 (zf_putr 92 7 5 95), z_is 132 95 (zf_aload 95 0 96), z_is 132 96 (zf_aload 96 2 97), z_is 132 97 (zf_putr 97 7 6 100), z_is 132 100 (zf_aload 100 0 101), z_is 132 101 (zf_cst 101 (jn 1) 102), z_is 132 102 (zf_putz 102 7 4 105), z_is 132 105 (zf_aload 105 0 106), z_is 132 106 (zf_getr 106 7 8 109), z_is 132 109 (zf_cv 109 23 0 1 112), z_is 132 112 (zf_aload 112 0 113), z_is 132 113 (zf_getr 113 7 5 116), z_is 132 116 (zf_getr 116 2 1 119), z_is 132 119 (zf_geti 119 5 6 122), z_is 132 122 (zf_ret 0)] = true := by decide +kernel
        refine z_aload hB rfl (fun hB => ?_)
        refine y_getm ok hB (by decide +kernel) hn.1 (fun hB => ?_)
        refine z_astore hB rfl rfl (fun hB => ?_)
        refine z_aload hB rfl (fun hB => ?_)
        refine z_aload hB rfl (fun hB => ?_)
        refine y_getm ok hB (by decide +kernel) hp.1 (fun hB => ?_)
        refine y_putr ok hB (by decide +kernel) (fun hB => ?_)
        have ok0 := ok
        have ok := z_Ok_sR (a := 0) (k := 5) (x := some p) ok0 (by decide +kernel)
        refine z_aload hB rfl (fun hB => ?_)
        refine z_aload hB rfl (fun hB => ?_)
        refine y_putr ok hB (by decide +kernel) (fun hB => ?_)
        have ok := z_Ok_swp (n := n) (p := p) ok0
        have hn := z_fc_swp (w := z_par w p) (n := n) hp.2
        show z_R G 132 100 _ _ (z_w (z_swp (z_par w p) n p) _) _ _
        refine z_aload hB rfl (fun hB => ?_)
        refine z_cst hB (fun hB => ?_)
        refine y_putz ok hB (by decide +kernel) (by decide) (fun hB => ?_)
        refine z_aload hB rfl (fun hB => ?_)
        refine y_getr (b := 55) ok hB (by decide +kernel) (by decide +kernel) (fun hB => ?_)
        obtain ⟨q3, e4, h⟩ := z_bind h
        refine y_cv ok hB (as := []) (a := 55) (rest := []) rfl rfl rfl (by decide +kernel) (t_H_forgetAll (I := (ev_u2 (ev_u2 (ev_u2 q1 0 2 (q1 54 0)) 0 3 ((ev_u2 q1 0 2 (q1 54 0)) 54 1)) 0 4 (jn 1))) ok e4) (fun hB => ?_)
        refine z_aload hB rfl (fun hB => ?_)
        refine y_getm ok hB (by decide +kernel) hn.1 (fun hB => ?_)
        refine y_getr (b := (p + 7)) ok hB hn.2 (zla_r1 hn.2) (fun hB => ?_)
        refine y_geti ok hB (zla_k1 hn.2) (fun hB => ?_)
        cases h
        exact z_reti hB
      · have h := z_neg hc h
        have hB : z_all [z_thr 132 72 2] = true := by decide +kernel
        cases h
        exact z_throw hB
    · have h := z_pos hc h
      have hB : z_all [z_thr 132 12 1] = true := by decide +kernel
      cases h
      exact z_throw hB
def d_F_parseError  (I : z_H) : Option (Int32) := some ((I 0 2))
/-- FlagLaundry.parseError()I -/
theorem t_F_parseError {G : z_G} {w : ev_W} (ok : z_Ok G w) {I : z_H} {r : Int32} (h : d_F_parseError I = some r) : z_K G 133 [.ref (0)] (z_w w I) (.inl (some (.int r))) (z_w w I) := by
  refine z_con ok.1 (ml := 1) (by decide +kernel) rfl rfl ?_
  show z_R G 133 0 [some (.ref (0))] [] (z_w w I) (.inl (some (.int r))) (z_w w I)
  unfold d_F_parseError at h
  have hB : z_all [z_is 133 0 (zf_aload 0 0 1), z_is 133 1 (zf_geti 1 7 2 4), z_is 133 4 (zf_ret 0)] = true := by decide +kernel
  refine z_aload hB rfl (fun hB => ?_)
  refine y_geti ok hB (by decide +kernel) (fun hB => ?_)
  cases h
  exact z_reti hB
def d_F_errorPosition  (I : z_H) : Option (Int32) := some ((I 0 3))
/-- FlagLaundry.errorPosition()I -/
theorem t_F_errorPosition {G : z_G} {w : ev_W} (ok : z_Ok G w) {I : z_H} {r : Int32} (h : d_F_errorPosition I = some r) : z_K G 134 [.ref (0)] (z_w w I) (.inl (some (.int r))) (z_w w I) := by
  refine z_con ok.1 (ml := 1) (by decide +kernel) rfl rfl ?_
  show z_R G 134 0 [some (.ref (0))] [] (z_w w I) (.inl (some (.int r))) (z_w w I)
  unfold d_F_errorPosition at h
  have hB : z_all [z_is 134 0 (zf_aload 0 0 1), z_is 134 1 (zf_geti 1 7 3 4), z_is 134 4 (zf_ret 0)] = true := by decide +kernel
  refine z_aload hB rfl (fun hB => ?_)
  refine y_geti ok hB (by decide +kernel) (fun hB => ?_)
  cases h
  exact z_reti hB
def d_F_buffered  (I : z_H) : Option (Int32) := some ((I 0 1))
/-- FlagLaundry.buffered()I -/
theorem t_F_buffered {G : z_G} {w : ev_W} (ok : z_Ok G w) {I : z_H} {r : Int32} (h : d_F_buffered I = some r) : z_K G 135 [.ref (0)] (z_w w I) (.inl (some (.int r))) (z_w w I) := by
  refine z_con ok.1 (ml := 1) (by decide +kernel) rfl rfl ?_
  show z_R G 135 0 [some (.ref (0))] [] (z_w w I) (.inl (some (.int r))) (z_w w I)
  unfold d_F_buffered at h
  have hB : z_all [z_is 135 0 (zf_aload 0 0 1), z_is 135 1 (zf_geti 1 7 1 4), z_is 135 4 (zf_ret 0)] = true := by decide +kernel
  refine z_aload hB rfl (fun hB => ?_)
  refine y_geti ok hB (by decide +kernel) (fun hB => ?_)
  cases h
  exact z_reti hB
def d_F_needText  (I : z_H) : Option (Nat ⊕ Unit) := (if (I 0 4) = jn 0 then some (Sum.inl 0) else some (Sum.inr (())))
/-- FlagLaundry.needText()V -/
theorem t_F_needText {G : z_G} {w : ev_W} (ok : z_Ok G w) {I : z_H} {r : Nat ⊕ Unit} (h : d_F_needText I = some r) : z_K G 192 [.ref (0)] (z_w w I) (z_o z_vv r) (z_ow (z_w w I) r) := by
  refine z_con ok.1 (ml := 1) (by decide +kernel) rfl rfl ?_
  show z_R G 192 0 [some (.ref (0))] [] (z_w w I) (z_o z_vv r) (z_ow (z_w w I) r)
  unfold d_F_needText at h
  have hB : z_all [z_is 192 0 (zf_aload 0 0 1), z_is 192 1 (zf_geti 1 7 4 4), z_is 192 4 (zf_if1 .ne 4 18 7)] = true := by decide +kernel
  refine z_aload hB rfl (fun hB => ?_)
  refine y_geti ok hB (by decide +kernel) (fun hB => ?_)
  refine z_if_ne hB (fun hc _ => ?_) (fun hc _ => ?_)
  · have h := z_neg hc h
    have hB : z_all [z_is 192 18 (zf_ret 6)] = true := by decide +kernel
    cases h
    exact z_retv hB
  · have h := z_pos hc h
    have hB : z_all [z_thr 192 7 0] = true := by decide +kernel
    cases h
    exact z_throw hB
def d_F_needRange (x1 : Int32) (x2 : Int32) (x3 : Int32) : Option (Nat ⊕ Unit) := (if x1 < x2 then some (Sum.inl 2) else (if x3 < x1 then some (Sum.inl 2) else some (Sum.inr (()))))
/-- FlagLaundry.needRange(III)V -/
theorem t_F_needRange {G : z_G} {w : ev_W} (ok : z_Ok G w) {x1 : Int32} {x2 : Int32} {x3 : Int32} {I : z_H} {r : Nat ⊕ Unit} (h : d_F_needRange x1 x2 x3 = some r) : z_K G 198 [.int (x1), .int (x2), .int (x3)] (z_w w I) (z_o z_vv r) (z_ow (z_w w I) r) := by
  refine z_con ok.1 (ml := 3) (by decide +kernel) rfl rfl ?_
  show z_R G 198 0 [some (.int (x1)), some (.int (x2)), some (.int (x3))] [] (z_w w I) (z_o z_vv r) (z_ow (z_w w I) r)
  unfold d_F_needRange at h
  have hB : z_all [z_is 198 0 (zf_iload 0 0 1), z_is 198 1 (zf_iload 1 1 2), z_is 198 2 (zf_if2 .lt 2 10 5)] = true := by decide +kernel
  refine z_iload hB rfl (fun hB => ?_)
  refine z_iload hB rfl (fun hB => ?_)
  refine z_ic_lt hB (fun hc _ => ?_) (fun hc _ => ?_)
  · have h := z_pos hc h
    have hB : z_all [z_thr 198 10 2] = true := by decide +kernel
    cases h
    exact z_throw hB
  · have h := z_neg hc h
    have hB : z_all [z_is 198 5 (zf_iload 5 0 6), z_is 198 6 (zf_iload 6 2 7), z_is 198 7 (zf_if2 .le 7 21 10)] = true := by decide +kernel
    refine z_iload hB rfl (fun hB => ?_)
    refine z_iload hB rfl (fun hB => ?_)
    refine z_ic_le hB (fun hc _ => ?_) (fun hc _ => ?_)
    · have h := z_neg hc h
      have hB : z_all [z_is 198 21 (zf_ret 6)] = true := by decide +kernel
      cases h
      exact z_retv hB
    · have h := z_pos hc h
      have hB : z_all [z_thr 198 10 2] = true := by decide +kernel
      cases h
      exact z_throw hB
def d_F_count (n : Nat) (x1 : Int32) (I : z_H) : Option (Nat ⊕ Int32) := ((d_F_needText I).bind fun q1 => (match q1 with | .inl v3 => some (Sum.inl v3) | .inr v4 => ((d_F_needRange (x1) ((jn 0)) ((jn 15))).bind fun q5 => (match q5 with | .inl v7 => some (Sum.inl v7) | .inr v8 => (if x1 = jn 0 then some (Sum.inr ((I (n + 1) 1))) else (if x1 = jn 1 then some (Sum.inr ((I (n + 1) 2))) else (if x1 = jn 2 then some (Sum.inr ((I (n + 1) 3))) else (if x1 = jn 3 then some (Sum.inr ((I (n + 1) 0))) else (if x1 = jn 4 then some (Sum.inr ((I (n + 7) 6))) else (if x1 = jn 5 then some (Sum.inr ((I (n + 7) 0))) else (if x1 = jn 6 then some (Sum.inr ((I (n + 7) 1))) else (if x1 = jn 7 then ((d_S_flagsAt (n + 7) ((jn 0)) I).bind fun q9 => some (Sum.inr (q9))) else (if x1 = jn 8 then ((d_S_flagsAt (n + 7) ((jn 1)) I).bind fun q11 => some (Sum.inr (q11))) else (if x1 = jn 9 then ((d_S_flagsAt (n + 7) ((jn 2)) I).bind fun q13 => some (Sum.inr (q13))) else (if x1 = jn 10 then ((d_S_flagsAt (n + 7) ((jn 3)) I).bind fun q15 => some (Sum.inr (q15))) else (if x1 = jn 11 then some (Sum.inr ((I (n + 7) 2))) else (if x1 = jn 12 then some (Sum.inr ((I (n + 7) 3))) else (if x1 = jn 13 then some (Sum.inr ((I (n + 7) 4))) else (if x1 = jn 14 then some (Sum.inr ((I (n + 7) 5))) else ((d_S_readyFlags (n + 7) I).bind fun q17 => some (Sum.inr (q17))))))))))))))))))))))
/-- FlagLaundry.count(I)I -/
theorem t_F_count {G : z_G} {w : ev_W} (ok : z_Ok G w) {n : Nat} {x1 : Int32} (hn : z_fc w n) {I : z_H} {r : Nat ⊕ Int32} (h : d_F_count n x1 I = some r) : z_K G 136 [.ref (0), .int (x1)] (z_w w I) (z_o z_vi r) (z_ow (z_w w I) r) := by
  refine z_con ok.1 (ml := 4) (by decide +kernel) rfl rfl ?_
  show z_R G 136 0 [some (.ref (0)), some (.int (x1)), none, none] [] (z_w w I) (z_o z_vi r) (z_ow (z_w w I) r)
  unfold d_F_count at h
  have hB : z_all [z_is 136 0 (zf_aload 0 0 1), z_is 136 1 (zf_cv 1 192 0 7 4), z_is 136 4 (zf_iload 4 1 5), z_is 136 5 (zf_cst 5 (jn 0) 6), z_is 136 6 (zf_cst 6 (jn 15) 8), z_is 136 8 (zf_cs 8 198 3 11), z_is 136 11 (zf_aload 11 0 12), z_is 136 12 (zf_getr 12 7 5 15), z_is 136 15 (zf_getr 15 2 0 18), z_is 136 18 (zf_astore 18 2 19), z_is 136 19 (zf_aload 19 0 20), z_is 136 20 (zf_getr 20 7 5 23), z_is 136 23 (zf_getr 23 2 1 26), z_is 136 26 (zf_astore 26 3 27), z_is 136 27 (zf_iload 27 1 28), z_is 136 28 (zf_tsw 28 0 [(jn 0, 104), (jn 1, 109), (jn 2, 114), (jn 3, 119), (jn 4, 124), (jn 5, 129), (jn 6, 134), (jn 7, 139), (jn 8, 145), (jn 9, 151), (jn 10, 157), (jn 11, 163), (jn 12, 168), (jn 13, 173), (jn 14, 178)] 183)] = true := by decide +kernel
  refine z_aload hB rfl (fun hB => ?_)
  obtain ⟨q1, e2, h⟩ := z_bind h
  cases q1 with
  | inl v3 =>
    have hc9 := t_F_needText (I := I) ok e2
    cases h
    exact y_cvx ok hB (as := []) (a := 0) (rest := []) rfl (by decide +kernel) rfl rfl (by decide +kernel) hc9
  | inr v4 =>
    have hc9 := t_F_needText (I := I) ok e2
    refine y_cv ok hB (as := []) (a := 0) (rest := []) rfl rfl rfl (by decide +kernel) hc9 (fun hB => ?_)
    refine z_iload hB rfl (fun hB => ?_)
    refine z_cst hB (fun hB => ?_)
    refine z_cst hB (fun hB => ?_)
    obtain ⟨q5, e6, h⟩ := z_bind h
    cases q5 with
    | inl v7 =>
      have hc9 := t_F_needRange (I := I) ok e6
      cases h
      exact z_callSx hB (as := [.int (x1), .int ((jn 0)), .int ((jn 15))]) (rest := []) rfl (by decide +kernel) rfl rfl hc9
    | inr v8 =>
      have hc9 := t_F_needRange (I := I) ok e6
      refine z_callS hB (as := [.int (x1), .int ((jn 0)), .int ((jn 15))]) (rest := []) rfl rfl rfl hc9 (fun hB => ?_)
      refine z_aload hB rfl (fun hB => ?_)
      refine y_getm ok hB (by decide +kernel) hn.1 (fun hB => ?_)
      refine y_getr (b := (n + 1)) ok hB hn.2 (zla_r0 hn.2) (fun hB => ?_)
      refine z_astore hB rfl rfl (fun hB => ?_)
      refine z_aload hB rfl (fun hB => ?_)
      refine y_getm ok hB (by decide +kernel) hn.1 (fun hB => ?_)
      refine y_getr (b := (n + 7)) ok hB hn.2 (zla_r1 hn.2) (fun hB => ?_)
      refine z_astore hB rfl rfl (fun hB => ?_)
      refine z_iload hB rfl (fun hB => ?_)
      refine z_tsw hB ?_
      refine (Decidable.em (x1 = jn 0)).elim (fun hc => ?_) (fun hc => ?_)
      · have h := z_pos hc h
        rw [z_sw_p hc]
        have hB : z_all [z_is 136 104 (zf_aload 104 2 105), z_is 136 105 (zf_geti 105 4 1 108), z_is 136 108 (zf_ret 0)] = true := by decide +kernel
        refine z_aload hB rfl (fun hB => ?_)
        refine y_geti ok hB (zla_k0 hn.2) (fun hB => ?_)
        cases h
        exact z_reti hB
      · have h := z_neg hc h
        rw [z_sw_n hc]
        refine (Decidable.em (x1 = jn 1)).elim (fun hc => ?_) (fun hc => ?_)
        · have h := z_pos hc h
          rw [z_sw_p hc]
          have hB : z_all [z_is 136 109 (zf_aload 109 2 110), z_is 136 110 (zf_geti 110 4 2 113), z_is 136 113 (zf_ret 0)] = true := by decide +kernel
          refine z_aload hB rfl (fun hB => ?_)
          refine y_geti ok hB (zla_k0 hn.2) (fun hB => ?_)
          cases h
          exact z_reti hB
        · have h := z_neg hc h
          rw [z_sw_n hc]
          refine (Decidable.em (x1 = jn 2)).elim (fun hc => ?_) (fun hc => ?_)
          · have h := z_pos hc h
            rw [z_sw_p hc]
            have hB : z_all [z_is 136 114 (zf_aload 114 2 115), z_is 136 115 (zf_geti 115 4 3 118), z_is 136 118 (zf_ret 0)] = true := by decide +kernel
            refine z_aload hB rfl (fun hB => ?_)
            refine y_geti ok hB (zla_k0 hn.2) (fun hB => ?_)
            cases h
            exact z_reti hB
          · have h := z_neg hc h
            rw [z_sw_n hc]
            refine (Decidable.em (x1 = jn 3)).elim (fun hc => ?_) (fun hc => ?_)
            · have h := z_pos hc h
              rw [z_sw_p hc]
              have hB : z_all [z_is 136 119 (zf_aload 119 2 120), z_is 136 120 (zf_geti 120 4 0 123), z_is 136 123 (zf_ret 0)] = true := by decide +kernel
              refine z_aload hB rfl (fun hB => ?_)
              refine y_geti ok hB (zla_k0 hn.2) (fun hB => ?_)
              cases h
              exact z_reti hB
            · have h := z_neg hc h
              rw [z_sw_n hc]
              refine (Decidable.em (x1 = jn 4)).elim (fun hc => ?_) (fun hc => ?_)
              · have h := z_pos hc h
                rw [z_sw_p hc]
                have hB : z_all [z_is 136 124 (zf_aload 124 3 125), z_is 136 125 (zf_geti 125 5 6 128), z_is 136 128 (zf_ret 0)] = true := by decide +kernel
                refine z_aload hB rfl (fun hB => ?_)
                refine y_geti ok hB (zla_k1 hn.2) (fun hB => ?_)
                cases h
                exact z_reti hB
              · have h := z_neg hc h
                rw [z_sw_n hc]
                refine (Decidable.em (x1 = jn 5)).elim (fun hc => ?_) (fun hc => ?_)
                · have h := z_pos hc h
                  rw [z_sw_p hc]
                  have hB : z_all [z_is 136 129 (zf_aload 129 3 130), z_is 136 130 (zf_geti 130 5 0 133), z_is 136 133 (zf_ret 0)] = true := by decide +kernel
                  refine z_aload hB rfl (fun hB => ?_)
                  refine y_geti ok hB (zla_k1 hn.2) (fun hB => ?_)
                  cases h
                  exact z_reti hB
                · have h := z_neg hc h
                  rw [z_sw_n hc]
                  refine (Decidable.em (x1 = jn 6)).elim (fun hc => ?_) (fun hc => ?_)
                  · have h := z_pos hc h
                    rw [z_sw_p hc]
                    have hB : z_all [z_is 136 134 (zf_aload 134 3 135), z_is 136 135 (zf_geti 135 5 1 138), z_is 136 138 (zf_ret 0)] = true := by decide +kernel
                    refine z_aload hB rfl (fun hB => ?_)
                    refine y_geti ok hB (zla_k1 hn.2) (fun hB => ?_)
                    cases h
                    exact z_reti hB
                  · have h := z_neg hc h
                    rw [z_sw_n hc]
                    refine (Decidable.em (x1 = jn 7)).elim (fun hc => ?_) (fun hc => ?_)
                    · have h := z_pos hc h
                      rw [z_sw_p hc]
                      have hB : z_all [z_is 136 139 (zf_aload 139 3 140), z_is 136 140 (zf_cst 140 (jn 0) 141), z_is 136 141 (zf_cv 141 100 1 5 144), z_is 136 144 (zf_ret 0)] = true := by decide +kernel
                      refine z_aload hB rfl (fun hB => ?_)
                      refine z_cst hB (fun hB => ?_)
                      obtain ⟨q9, e10, h⟩ := z_bind h
                      refine y_cv ok hB (as := [.int ((jn 0))]) (a := (n + 7)) (rest := []) rfl rfl rfl (zla_k1 hn.2) (t_S_flagsAt (I := I) ok (zla_k1 hn.2) e10) (fun hB => ?_)
                      cases h
                      exact z_reti hB
                    · have h := z_neg hc h
                      rw [z_sw_n hc]
                      refine (Decidable.em (x1 = jn 8)).elim (fun hc => ?_) (fun hc => ?_)
                      · have h := z_pos hc h
                        rw [z_sw_p hc]
                        have hB : z_all [z_is 136 145 (zf_aload 145 3 146), z_is 136 146 (zf_cst 146 (jn 1) 147), z_is 136 147 (zf_cv 147 100 1 5 150), z_is 136 150 (zf_ret 0)] = true := by decide +kernel
                        refine z_aload hB rfl (fun hB => ?_)
                        refine z_cst hB (fun hB => ?_)
                        obtain ⟨q11, e12, h⟩ := z_bind h
                        refine y_cv ok hB (as := [.int ((jn 1))]) (a := (n + 7)) (rest := []) rfl rfl rfl (zla_k1 hn.2) (t_S_flagsAt (I := I) ok (zla_k1 hn.2) e12) (fun hB => ?_)
                        cases h
                        exact z_reti hB
                      · have h := z_neg hc h
                        rw [z_sw_n hc]
                        refine (Decidable.em (x1 = jn 9)).elim (fun hc => ?_) (fun hc => ?_)
                        · have h := z_pos hc h
                          rw [z_sw_p hc]
                          have hB : z_all [z_is 136 151 (zf_aload 151 3 152), z_is 136 152 (zf_cst 152 (jn 2) 153), z_is 136 153 (zf_cv 153 100 1 5 156), z_is 136 156 (zf_ret 0)] = true := by decide +kernel
                          refine z_aload hB rfl (fun hB => ?_)
                          refine z_cst hB (fun hB => ?_)
                          obtain ⟨q13, e14, h⟩ := z_bind h
                          refine y_cv ok hB (as := [.int ((jn 2))]) (a := (n + 7)) (rest := []) rfl rfl rfl (zla_k1 hn.2) (t_S_flagsAt (I := I) ok (zla_k1 hn.2) e14) (fun hB => ?_)
                          cases h
                          exact z_reti hB
                        · have h := z_neg hc h
                          rw [z_sw_n hc]
                          refine (Decidable.em (x1 = jn 10)).elim (fun hc => ?_) (fun hc => ?_)
                          · have h := z_pos hc h
                            rw [z_sw_p hc]
                            have hB : z_all [z_is 136 157 (zf_aload 157 3 158), z_is 136 158 (zf_cst 158 (jn 3) 159), z_is 136 159 (zf_cv 159 100 1 5 162), z_is 136 162 (zf_ret 0)] = true := by decide +kernel
                            refine z_aload hB rfl (fun hB => ?_)
                            refine z_cst hB (fun hB => ?_)
                            obtain ⟨q15, e16, h⟩ := z_bind h
                            refine y_cv ok hB (as := [.int ((jn 3))]) (a := (n + 7)) (rest := []) rfl rfl rfl (zla_k1 hn.2) (t_S_flagsAt (I := I) ok (zla_k1 hn.2) e16) (fun hB => ?_)
                            cases h
                            exact z_reti hB
                          · have h := z_neg hc h
                            rw [z_sw_n hc]
                            refine (Decidable.em (x1 = jn 11)).elim (fun hc => ?_) (fun hc => ?_)
                            · have h := z_pos hc h
                              rw [z_sw_p hc]
                              have hB : z_all [z_is 136 163 (zf_aload 163 3 164), z_is 136 164 (zf_geti 164 5 2 167), z_is 136 167 (zf_ret 0)] = true := by decide +kernel
                              refine z_aload hB rfl (fun hB => ?_)
                              refine y_geti ok hB (zla_k1 hn.2) (fun hB => ?_)
                              cases h
                              exact z_reti hB
                            · have h := z_neg hc h
                              rw [z_sw_n hc]
                              refine (Decidable.em (x1 = jn 12)).elim (fun hc => ?_) (fun hc => ?_)
                              · have h := z_pos hc h
                                rw [z_sw_p hc]
                                have hB : z_all [z_is 136 168 (zf_aload 168 3 169), z_is 136 169 (zf_geti 169 5 3 172), z_is 136 172 (zf_ret 0)] = true := by decide +kernel
                                refine z_aload hB rfl (fun hB => ?_)
                                refine y_geti ok hB (zla_k1 hn.2) (fun hB => ?_)
                                cases h
                                exact z_reti hB
                              · have h := z_neg hc h
                                rw [z_sw_n hc]
                                refine (Decidable.em (x1 = jn 13)).elim (fun hc => ?_) (fun hc => ?_)
                                · have h := z_pos hc h
                                  rw [z_sw_p hc]
                                  have hB : z_all [z_is 136 173 (zf_aload 173 3 174), z_is 136 174 (zf_geti 174 5 4 177), z_is 136 177 (zf_ret 0)] = true := by decide +kernel
                                  refine z_aload hB rfl (fun hB => ?_)
                                  refine y_geti ok hB (zla_k1 hn.2) (fun hB => ?_)
                                  cases h
                                  exact z_reti hB
                                · have h := z_neg hc h
                                  rw [z_sw_n hc]
                                  refine (Decidable.em (x1 = jn 14)).elim (fun hc => ?_) (fun hc => ?_)
                                  · have h := z_pos hc h
                                    rw [z_sw_p hc]
                                    have hB : z_all [z_is 136 178 (zf_aload 178 3 179), z_is 136 179 (zf_geti 179 5 5 182), z_is 136 182 (zf_ret 0)] = true := by decide +kernel
                                    refine z_aload hB rfl (fun hB => ?_)
                                    refine y_geti ok hB (zla_k1 hn.2) (fun hB => ?_)
                                    cases h
                                    exact z_reti hB
                                  · have h := z_neg hc h
                                    rw [z_sw_n hc]
                                    show z_R G 136 183 _ _ _ _ _
                                    have hB : z_all [z_is 136 183 (zf_aload 183 3 184), z_is 136 184 (zf_cv 184 101 0 5 187), z_is 136 187 (zf_ret 0)] = true := by decide +kernel
                                    refine z_aload hB rfl (fun hB => ?_)
                                    obtain ⟨q17, e18, h⟩ := z_bind h
                                    refine y_cv ok hB (as := []) (a := (n + 7)) (rest := []) rfl rfl rfl (zla_k1 hn.2) (t_S_readyFlags (I := I) ok (zla_k1 hn.2) e18) (fun hB => ?_)
                                    cases h
                                    exact z_reti hB
def d_F_colour (n : Nat) (x1 : Int32) (x2 : Int32) (I : z_H) : Option (Nat ⊕ Int32) := ((d_F_needText I).bind fun q1 => (match q1 with | .inl v3 => some (Sum.inl v3) | .inr v4 => (if x1 < jn 0 then some (Sum.inl 1) else (if x1 < (I (n + 1) 1) then ((d_F_needRange (x2) ((jn 0)) ((jn 2))).bind fun q5 => (match q5 with | .inl v7 => some (Sum.inl v7) | .inr v8 => (if x2 = jn 0 then (if z_in (x1) 6 then some (Sum.inr ((I ((n + 1) + 1) (z_n (x1))))) else none) else (if x2 = jn 1 then ((d_S_flagsWithColour (n + 7) (x1) I).bind fun q10 => some (Sum.inr (q10))) else ((d_S_flagsStainedBy (n + 7) (x1) I).bind fun q12 => some (Sum.inr (q12))))))) else some (Sum.inl 1)))))
/-- FlagLaundry.colour(II)I -/
theorem t_F_colour {G : z_G} {w : ev_W} (ok : z_Ok G w) {n : Nat} {x1 : Int32} {x2 : Int32} (hn : z_fc w n) {I : z_H} {r : Nat ⊕ Int32} (h : d_F_colour n x1 x2 I = some r) : z_K G 137 [.ref (0), .int (x1), .int (x2)] (z_w w I) (z_o z_vi r) (z_ow (z_w w I) r) := by
  refine z_con ok.1 (ml := 3) (by decide +kernel) rfl rfl ?_
  show z_R G 137 0 [some (.ref (0)), some (.int (x1)), some (.int (x2))] [] (z_w w I) (z_o z_vi r) (z_ow (z_w w I) r)
  unfold d_F_colour at h
  have hB : z_all [z_is 137 0 (zf_aload 0 0 1), z_is 137 1 (zf_cv 1 192 0 7 4), z_is 137 4 (zf_iload 4 1 5), z_is 137 5 (zf_if1 .lt 5 22 8)] = true := by decide +kernel
  refine z_aload hB rfl (fun hB => ?_)
  obtain ⟨q1, e2, h⟩ := z_bind h
  cases q1 with
  | inl v3 =>
    have hc9 := t_F_needText (I := I) ok e2
    cases h
    exact y_cvx ok hB (as := []) (a := 0) (rest := []) rfl (by decide +kernel) rfl rfl (by decide +kernel) hc9
  | inr v4 =>
    have hc9 := t_F_needText (I := I) ok e2
    refine y_cv ok hB (as := []) (a := 0) (rest := []) rfl rfl rfl (by decide +kernel) hc9 (fun hB => ?_)
    refine z_iload hB rfl (fun hB => ?_)
    refine z_if_lt hB (fun hc _ => ?_) (fun hc _ => ?_)
    · have h := z_pos hc h
      have hB : z_all [z_thr 137 22 1] = true := by decide +kernel
      cases h
      exact z_throw hB
    · have h := z_neg hc h
      have hB : z_all [z_is 137 8 (zf_iload 8 1 9), z_is 137 9 (zf_aload 9 0 10), z_is 137 10 (zf_getr 10 7 5 13), z_is 137 13 (zf_getr 13 2 0 16), z_is 137 16 (zf_geti 16 4 1 19), z_is 137 19 (zf_if2 .lt 19 32 22)] = true := by decide +kernel
      refine z_iload hB rfl (fun hB => ?_)
      refine z_aload hB rfl (fun hB => ?_)
      refine y_getm ok hB (by decide +kernel) hn.1 (fun hB => ?_)
      refine y_getr (b := (n + 1)) ok hB hn.2 (zla_r0 hn.2) (fun hB => ?_)
      refine y_geti ok hB (zla_k0 hn.2) (fun hB => ?_)
      refine z_ic_lt hB (fun hc _ => ?_) (fun hc _ => ?_)
      · have h := z_pos hc h
        have hB : z_all [z_is 137 32 (zf_iload 32 2 33), z_is 137 33 (zf_cst 33 (jn 0) 34), z_is 137 34 (zf_cst 34 (jn 2) 35), z_is 137 35 (zf_cs 35 198 3 38), z_is 137 38 (zf_iload 38 2 39), z_at 137 39 (zf_lsw 39 [(jn 0, 64), (jn 1, 77)] 89)] = true := by decide +kernel
        refine z_iload hB rfl (fun hB => ?_)
        refine z_cst hB (fun hB => ?_)
        refine z_cst hB (fun hB => ?_)
        obtain ⟨q5, e6, h⟩ := z_bind h
        cases q5 with
        | inl v7 =>
          have hc9 := t_F_needRange (I := I) ok e6
          cases h
          exact z_callSx hB (as := [.int (x2), .int ((jn 0)), .int ((jn 2))]) (rest := []) rfl (by decide +kernel) rfl rfl hc9
        | inr v8 =>
          have hc9 := t_F_needRange (I := I) ok e6
          refine z_callS hB (as := [.int (x2), .int ((jn 0)), .int ((jn 2))]) (rest := []) rfl rfl rfl hc9 (fun hB => ?_)
          refine z_iload hB rfl (fun hB => ?_)
          refine z_lsw hB ?_
          refine (Decidable.em (x2 = jn 0)).elim (fun hc => ?_) (fun hc => ?_)
          · have h := z_pos hc h
            rw [z_sw_p hc]
            have hB : z_all [z_is 137 64 (zf_aload 64 0 65), z_is 137 65 (zf_getr 65 7 5 68), z_is 137 68 (zf_getr 68 2 0 71), z_is 137 71 (zf_getr 71 4 4 74), z_is 137 74 (zf_iload 74 1 75), z_is 137 75 (zf_iald 75 76), z_is 137 76 (zf_ret 0)] = true := by decide +kernel
            refine z_aload hB rfl (fun hB => ?_)
            refine y_getm ok hB (by decide +kernel) hn.1 (fun hB => ?_)
            refine y_getr (b := (n + 1)) ok hB hn.2 (zla_r0 hn.2) (fun hB => ?_)
            refine y_getr (b := ((n + 1) + 1)) ok hB (zla_k0 hn.2) (zsu_r4 (zla_k0 hn.2)) (fun hB => ?_)
            refine z_iload hB rfl (fun hB => ?_)
            obtain ⟨g9, h⟩ := z_gd h
            refine y_iald ok hB (zsu_k4 (zla_k0 hn.2)) (zsu_l4 (zla_k0 hn.2)) g9 (fun hB => ?_)
            cases h
            exact z_reti hB
          · have h := z_neg hc h
            rw [z_sw_n hc]
            refine (Decidable.em (x2 = jn 1)).elim (fun hc => ?_) (fun hc => ?_)
            · have h := z_pos hc h
              rw [z_sw_p hc]
              have hB : z_all [z_is 137 77 (zf_aload 77 0 78), z_is 137 78 (zf_getr 78 7 5 81), z_is 137 81 (zf_getr 81 2 1 84), z_is 137 84 (zf_iload 84 1 85), z_is 137 85 (zf_cv 85 105 1 5 88), z_is 137 88 (zf_ret 0)] = true := by decide +kernel
              refine z_aload hB rfl (fun hB => ?_)
              refine y_getm ok hB (by decide +kernel) hn.1 (fun hB => ?_)
              refine y_getr (b := (n + 7)) ok hB hn.2 (zla_r1 hn.2) (fun hB => ?_)
              refine z_iload hB rfl (fun hB => ?_)
              obtain ⟨q10, e11, h⟩ := z_bind h
              refine y_cv ok hB (as := [.int (x1)]) (a := (n + 7)) (rest := []) rfl rfl rfl (zla_k1 hn.2) (t_S_flagsWithColour (I := I) ok (zla_k1 hn.2) e11) (fun hB => ?_)
              cases h
              exact z_reti hB
            · have h := z_neg hc h
              rw [z_sw_n hc]
              show z_R G 137 89 _ _ _ _ _
              have hB : z_all [z_is 137 89 (zf_aload 89 0 90), z_is 137 90 (zf_getr 90 7 5 93), z_is 137 93 (zf_getr 93 2 1 96), z_is 137 96 (zf_iload 96 1 97), z_is 137 97 (zf_cv 97 106 1 5 100), z_is 137 100 (zf_ret 0)] = true := by decide +kernel
              refine z_aload hB rfl (fun hB => ?_)
              refine y_getm ok hB (by decide +kernel) hn.1 (fun hB => ?_)
              refine y_getr (b := (n + 7)) ok hB hn.2 (zla_r1 hn.2) (fun hB => ?_)
              refine z_iload hB rfl (fun hB => ?_)
              obtain ⟨q12, e13, h⟩ := z_bind h
              refine y_cv ok hB (as := [.int (x1)]) (a := (n + 7)) (rest := []) rfl rfl rfl (zla_k1 hn.2) (t_S_flagsStainedBy (I := I) ok (zla_k1 hn.2) e13) (fun hB => ?_)
              cases h
              exact z_reti hB
      · have h := z_neg hc h
        have hB : z_all [z_thr 137 22 1] = true := by decide +kernel
        cases h
        exact z_throw hB
def d_F_needNation (n : Nat) (x1 : Int32) (I : z_H) : Option (Nat ⊕ Unit) := ((d_F_needText I).bind fun q1 => (match q1 with | .inl v3 => some (Sum.inl v3) | .inr v4 => (if x1 < jn 0 then some (Sum.inl 1) else (if x1 < (I (n + 1) 2) then some (Sum.inr (())) else some (Sum.inl 1)))))
/-- FlagLaundry.needNation(I)V -/
theorem t_F_needNation {G : z_G} {w : ev_W} (ok : z_Ok G w) {n : Nat} {x1 : Int32} (hn : z_fc w n) {I : z_H} {r : Nat ⊕ Unit} (h : d_F_needNation n x1 I = some r) : z_K G 195 [.ref (0), .int (x1)] (z_w w I) (z_o z_vv r) (z_ow (z_w w I) r) := by
  refine z_con ok.1 (ml := 2) (by decide +kernel) rfl rfl ?_
  show z_R G 195 0 [some (.ref (0)), some (.int (x1))] [] (z_w w I) (z_o z_vv r) (z_ow (z_w w I) r)
  unfold d_F_needNation at h
  have hB : z_all [z_is 195 0 (zf_aload 0 0 1), z_is 195 1 (zf_cv 1 192 0 7 4), z_is 195 4 (zf_iload 4 1 5), z_is 195 5 (zf_if1 .lt 5 22 8)] = true := by decide +kernel
  refine z_aload hB rfl (fun hB => ?_)
  obtain ⟨q1, e2, h⟩ := z_bind h
  cases q1 with
  | inl v3 =>
    have hc9 := t_F_needText (I := I) ok e2
    cases h
    exact y_cvx ok hB (as := []) (a := 0) (rest := []) rfl (by decide +kernel) rfl rfl (by decide +kernel) hc9
  | inr v4 =>
    have hc9 := t_F_needText (I := I) ok e2
    refine y_cv ok hB (as := []) (a := 0) (rest := []) rfl rfl rfl (by decide +kernel) hc9 (fun hB => ?_)
    refine z_iload hB rfl (fun hB => ?_)
    refine z_if_lt hB (fun hc _ => ?_) (fun hc _ => ?_)
    · have h := z_pos hc h
      have hB : z_all [z_thr 195 22 1] = true := by decide +kernel
      cases h
      exact z_throw hB
    · have h := z_neg hc h
      have hB : z_all [z_is 195 8 (zf_iload 8 1 9), z_is 195 9 (zf_aload 9 0 10), z_is 195 10 (zf_getr 10 7 5 13), z_is 195 13 (zf_getr 13 2 0 16), z_is 195 16 (zf_geti 16 4 2 19), z_is 195 19 (zf_if2 .lt 19 33 22)] = true := by decide +kernel
      refine z_iload hB rfl (fun hB => ?_)
      refine z_aload hB rfl (fun hB => ?_)
      refine y_getm ok hB (by decide +kernel) hn.1 (fun hB => ?_)
      refine y_getr (b := (n + 1)) ok hB hn.2 (zla_r0 hn.2) (fun hB => ?_)
      refine y_geti ok hB (zla_k0 hn.2) (fun hB => ?_)
      refine z_ic_lt hB (fun hc _ => ?_) (fun hc _ => ?_)
      · have h := z_pos hc h
        have hB : z_all [z_is 195 33 (zf_ret 6)] = true := by decide +kernel
        cases h
        exact z_retv hB
      · have h := z_neg hc h
        have hB : z_all [z_thr 195 22 1] = true := by decide +kernel
        cases h
        exact z_throw hB
def d_F_nation (n : Nat) (x1 : Int32) (x2 : Int32) (I : z_H) : Option (Nat ⊕ Int32) := ((d_F_needNation n (x1) I).bind fun q1 => (match q1 with | .inl v3 => some (Sum.inl v3) | .inr v4 => ((d_F_needRange (x2) ((jn 0)) ((jn 6))).bind fun q5 => (match q5 with | .inl v7 => some (Sum.inl v7) | .inr v8 => (if x2 = jn 0 then (if z_in (x1) 4 then some (Sum.inr ((I ((n + 1) + 2) (z_n (x1))))) else none) else (if x2 = jn 1 then (if z_in (x1) 4 then some (Sum.inr ((I ((n + 1) + 3) (z_n (x1))))) else none) else (if x2 = jn 2 then (if z_in (x1) 4 then some (Sum.inr ((I ((n + 1) + 4) (z_n (x1))))) else none) else (if x2 = jn 3 then ((d_S_flagsOf (n + 7) (x1) I).bind fun q12 => some (Sum.inr (q12))) else (if x2 = jn 4 then ((d_S_readyFlagsOf (n + 7) (x1) I).bind fun q14 => some (Sum.inr (q14))) else (if x2 = jn 5 then ((d_S_wasHandedOver (n + 7) (x1) I).bind fun q16 => (Option.bind (α := Int32) (if q16 = jn 0 then some ((jn 0)) else some ((jn 1))) fun q18 => some (Sum.inr (q18)))) else ((d_L_hoursLate n (x1) I).bind fun q21 => some (Sum.inr (q21)))))))))))))
/-- FlagLaundry.nation(II)I -/
theorem t_F_nation {G : z_G} {w : ev_W} (ok : z_Ok G w) {n : Nat} {x1 : Int32} {x2 : Int32} (hn : z_fc w n) {I : z_H} {r : Nat ⊕ Int32} (h : d_F_nation n x1 x2 I = some r) : z_K G 138 [.ref (0), .int (x1), .int (x2)] (z_w w I) (z_o z_vi r) (z_ow (z_w w I) r) := by
  refine z_con ok.1 (ml := 3) (by decide +kernel) rfl rfl ?_
  show z_R G 138 0 [some (.ref (0)), some (.int (x1)), some (.int (x2))] [] (z_w w I) (z_o z_vi r) (z_ow (z_w w I) r)
  unfold d_F_nation at h
  have hB : z_all [z_is 138 0 (zf_aload 0 0 1), z_is 138 1 (zf_iload 1 1 2), z_is 138 2 (zf_cv 2 195 1 7 5), z_is 138 5 (zf_iload 5 2 6), z_is 138 6 (zf_cst 6 (jn 0) 7), z_is 138 7 (zf_cst 7 (jn 6) 9), z_is 138 9 (zf_cs 9 198 3 12), z_is 138 12 (zf_iload 12 2 13), z_is 138 13 (zf_tsw 13 0 [(jn 0, 52), (jn 1, 65), (jn 2, 78), (jn 3, 91), (jn 4, 103), (jn 5, 115)] 135)] = true := by decide +kernel
  refine z_aload hB rfl (fun hB => ?_)
  refine z_iload hB rfl (fun hB => ?_)
  obtain ⟨q1, e2, h⟩ := z_bind h
  cases q1 with
  | inl v3 =>
    have hc9 := t_F_needNation (I := I) ok hn e2
    cases h
    exact y_cvx ok hB (as := [.int (x1)]) (a := 0) (rest := []) rfl (by decide +kernel) rfl rfl (by decide +kernel) hc9
  | inr v4 =>
    have hc9 := t_F_needNation (I := I) ok hn e2
    refine y_cv ok hB (as := [.int (x1)]) (a := 0) (rest := []) rfl rfl rfl (by decide +kernel) hc9 (fun hB => ?_)
    refine z_iload hB rfl (fun hB => ?_)
    refine z_cst hB (fun hB => ?_)
    refine z_cst hB (fun hB => ?_)
    obtain ⟨q5, e6, h⟩ := z_bind h
    cases q5 with
    | inl v7 =>
      have hc9 := t_F_needRange (I := I) ok e6
      cases h
      exact z_callSx hB (as := [.int (x2), .int ((jn 0)), .int ((jn 6))]) (rest := []) rfl (by decide +kernel) rfl rfl hc9
    | inr v8 =>
      have hc9 := t_F_needRange (I := I) ok e6
      refine z_callS hB (as := [.int (x2), .int ((jn 0)), .int ((jn 6))]) (rest := []) rfl rfl rfl hc9 (fun hB => ?_)
      refine z_iload hB rfl (fun hB => ?_)
      refine z_tsw hB ?_
      refine (Decidable.em (x2 = jn 0)).elim (fun hc => ?_) (fun hc => ?_)
      · have h := z_pos hc h
        rw [z_sw_p hc]
        have hB : z_all [z_is 138 52 (zf_aload 52 0 53), z_is 138 53 (zf_getr 53 7 5 56), z_is 138 56 (zf_getr 56 2 0 59), z_is 138 59 (zf_getr 59 4 5 62), z_is 138 62 (zf_iload 62 1 63), z_is 138 63 (zf_iald 63 64), z_is 138 64 (zf_ret 0)] = true := by decide +kernel
        refine z_aload hB rfl (fun hB => ?_)
        refine y_getm ok hB (by decide +kernel) hn.1 (fun hB => ?_)
        refine y_getr (b := (n + 1)) ok hB hn.2 (zla_r0 hn.2) (fun hB => ?_)
        refine y_getr (b := ((n + 1) + 2)) ok hB (zla_k0 hn.2) (zsu_r5 (zla_k0 hn.2)) (fun hB => ?_)
        refine z_iload hB rfl (fun hB => ?_)
        obtain ⟨g9, h⟩ := z_gd h
        refine y_iald ok hB (zsu_k5 (zla_k0 hn.2)) (zsu_l5 (zla_k0 hn.2)) g9 (fun hB => ?_)
        cases h
        exact z_reti hB
      · have h := z_neg hc h
        rw [z_sw_n hc]
        refine (Decidable.em (x2 = jn 1)).elim (fun hc => ?_) (fun hc => ?_)
        · have h := z_pos hc h
          rw [z_sw_p hc]
          have hB : z_all [z_is 138 65 (zf_aload 65 0 66), z_is 138 66 (zf_getr 66 7 5 69), z_is 138 69 (zf_getr 69 2 0 72), z_is 138 72 (zf_getr 72 4 6 75), z_is 138 75 (zf_iload 75 1 76), z_is 138 76 (zf_iald 76 77), z_is 138 77 (zf_ret 0)] = true := by decide +kernel
          refine z_aload hB rfl (fun hB => ?_)
          refine y_getm ok hB (by decide +kernel) hn.1 (fun hB => ?_)
          refine y_getr (b := (n + 1)) ok hB hn.2 (zla_r0 hn.2) (fun hB => ?_)
          refine y_getr (b := ((n + 1) + 3)) ok hB (zla_k0 hn.2) (zsu_r6 (zla_k0 hn.2)) (fun hB => ?_)
          refine z_iload hB rfl (fun hB => ?_)
          obtain ⟨g10, h⟩ := z_gd h
          refine y_iald ok hB (zsu_k6 (zla_k0 hn.2)) (zsu_l6 (zla_k0 hn.2)) g10 (fun hB => ?_)
          cases h
          exact z_reti hB
        · have h := z_neg hc h
          rw [z_sw_n hc]
          refine (Decidable.em (x2 = jn 2)).elim (fun hc => ?_) (fun hc => ?_)
          · have h := z_pos hc h
            rw [z_sw_p hc]
            have hB : z_all [z_is 138 78 (zf_aload 78 0 79), z_is 138 79 (zf_getr 79 7 5 82), z_is 138 82 (zf_getr 82 2 0 85), z_is 138 85 (zf_getr 85 4 7 88), z_is 138 88 (zf_iload 88 1 89), z_is 138 89 (zf_iald 89 90), z_is 138 90 (zf_ret 0)] = true := by decide +kernel
            refine z_aload hB rfl (fun hB => ?_)
            refine y_getm ok hB (by decide +kernel) hn.1 (fun hB => ?_)
            refine y_getr (b := (n + 1)) ok hB hn.2 (zla_r0 hn.2) (fun hB => ?_)
            refine y_getr (b := ((n + 1) + 4)) ok hB (zla_k0 hn.2) (zsu_r7 (zla_k0 hn.2)) (fun hB => ?_)
            refine z_iload hB rfl (fun hB => ?_)
            obtain ⟨g11, h⟩ := z_gd h
            refine y_iald ok hB (zsu_k7 (zla_k0 hn.2)) (zsu_l7 (zla_k0 hn.2)) g11 (fun hB => ?_)
            cases h
            exact z_reti hB
          · have h := z_neg hc h
            rw [z_sw_n hc]
            refine (Decidable.em (x2 = jn 3)).elim (fun hc => ?_) (fun hc => ?_)
            · have h := z_pos hc h
              rw [z_sw_p hc]
              have hB : z_all [z_is 138 91 (zf_aload 91 0 92), z_is 138 92 (zf_getr 92 7 5 95), z_is 138 95 (zf_getr 95 2 1 98), z_is 138 98 (zf_iload 98 1 99), z_is 138 99 (zf_cv 99 102 1 5 102), z_is 138 102 (zf_ret 0)] = true := by decide +kernel
              refine z_aload hB rfl (fun hB => ?_)
              refine y_getm ok hB (by decide +kernel) hn.1 (fun hB => ?_)
              refine y_getr (b := (n + 7)) ok hB hn.2 (zla_r1 hn.2) (fun hB => ?_)
              refine z_iload hB rfl (fun hB => ?_)
              obtain ⟨q12, e13, h⟩ := z_bind h
              refine y_cv ok hB (as := [.int (x1)]) (a := (n + 7)) (rest := []) rfl rfl rfl (zla_k1 hn.2) (t_S_flagsOf (I := I) ok (zla_k1 hn.2) e13) (fun hB => ?_)
              cases h
              exact z_reti hB
            · have h := z_neg hc h
              rw [z_sw_n hc]
              refine (Decidable.em (x2 = jn 4)).elim (fun hc => ?_) (fun hc => ?_)
              · have h := z_pos hc h
                rw [z_sw_p hc]
                have hB : z_all [z_is 138 103 (zf_aload 103 0 104), z_is 138 104 (zf_getr 104 7 5 107), z_is 138 107 (zf_getr 107 2 1 110), z_is 138 110 (zf_iload 110 1 111), z_is 138 111 (zf_cv 111 103 1 5 114), z_is 138 114 (zf_ret 0)] = true := by decide +kernel
                refine z_aload hB rfl (fun hB => ?_)
                refine y_getm ok hB (by decide +kernel) hn.1 (fun hB => ?_)
                refine y_getr (b := (n + 7)) ok hB hn.2 (zla_r1 hn.2) (fun hB => ?_)
                refine z_iload hB rfl (fun hB => ?_)
                obtain ⟨q14, e15, h⟩ := z_bind h
                refine y_cv ok hB (as := [.int (x1)]) (a := (n + 7)) (rest := []) rfl rfl rfl (zla_k1 hn.2) (t_S_readyFlagsOf (I := I) ok (zla_k1 hn.2) e15) (fun hB => ?_)
                cases h
                exact z_reti hB
              · have h := z_neg hc h
                rw [z_sw_n hc]
                refine (Decidable.em (x2 = jn 5)).elim (fun hc => ?_) (fun hc => ?_)
                · have h := z_pos hc h
                  rw [z_sw_p hc]
                  have hB : z_all [z_is 138 115 (zf_aload 115 0 116), z_is 138 116 (zf_getr 116 7 5 119), z_is 138 119 (zf_getr 119 2 1 122), z_is 138 122 (zf_iload 122 1 123), z_is 138 123 (zf_cv 123 99 1 5 126), z_is 138 126 (zf_if1 .eq 126 133 129)] = true := by decide +kernel
                  refine z_aload hB rfl (fun hB => ?_)
                  refine y_getm ok hB (by decide +kernel) hn.1 (fun hB => ?_)
                  refine y_getr (b := (n + 7)) ok hB hn.2 (zla_r1 hn.2) (fun hB => ?_)
                  refine z_iload hB rfl (fun hB => ?_)
                  obtain ⟨q16, e17, h⟩ := z_bind h
                  refine y_cv ok hB (as := [.int (x1)]) (a := (n + 7)) (rest := []) rfl rfl rfl (zla_k1 hn.2) (t_S_wasHandedOver (I := I) ok (zla_k1 hn.2) e17) (fun hB => ?_)
                  obtain ⟨q18, e19, h⟩ := z_bind h
                  have k20 : z_R G 138 134 [none, none, none] [.int (q18)] (z_w w I) (z_o z_vi r) (z_ow (z_w w I) r) := by
                    have hB : z_all [z_is 138 134 (zf_ret 0)] = true := by decide +kernel
                    cases h
                    exact z_reti hB
                  have h := e19
                  refine z_if_eq hB (fun hc _ => ?_) (fun hc _ => ?_)
                  · have h := z_pos hc h
                    have hB : z_all [z_is 138 133 (zf_cst 133 (jn 0) 134)] = true := by decide +kernel
                    refine z_cst hB (fun hB => ?_)
                    cases h
                    exact z_weak k20 (z_sn (z_sn (z_sn z_s0)))
                  · have h := z_neg hc h
                    have hB : z_all [z_is 138 129 (zf_cst 129 (jn 1) 130), z_is 138 130 (zf_goto 130 134)] = true := by decide +kernel
                    refine z_cst hB (fun hB => ?_)
                    refine z_goto hB (fun hB => ?_)
                    cases h
                    exact z_weak k20 (z_sn (z_sn (z_sn z_s0)))
                · have h := z_neg hc h
                  rw [z_sw_n hc]
                  show z_R G 138 135 _ _ _ _ _
                  have hB : z_all [z_is 138 135 (zf_aload 135 0 136), z_is 138 136 (zf_getr 136 7 5 139), z_is 138 139 (zf_iload 139 1 140), z_is 138 140 (zf_cv 140 54 1 2 143), z_is 138 143 (zf_ret 0)] = true := by decide +kernel
                  refine z_aload hB rfl (fun hB => ?_)
                  refine y_getm ok hB (by decide +kernel) hn.1 (fun hB => ?_)
                  refine z_iload hB rfl (fun hB => ?_)
                  obtain ⟨q21, e22, h⟩ := z_bind h
                  refine y_cv ok hB (as := [.int (x1)]) (a := n) (rest := []) rfl rfl rfl hn.2 (t_L_hoursLate (I := I) ok hn.2 e22) (fun hB => ?_)
                  cases h
                  exact z_reti hB
def d_F_needFlag (n : Nat) (x1 : Int32) (I : z_H) : Option (Nat ⊕ Unit) := ((d_F_needText I).bind fun q1 => (match q1 with | .inl v3 => some (Sum.inl v3) | .inr v4 => (if x1 < jn 0 then some (Sum.inl 1) else (if x1 < (I (n + 7) 6) then some (Sum.inr (())) else some (Sum.inl 1)))))
/-- FlagLaundry.needFlag(I)V -/
theorem t_F_needFlag {G : z_G} {w : ev_W} (ok : z_Ok G w) {n : Nat} {x1 : Int32} (hn : z_fc w n) {I : z_H} {r : Nat ⊕ Unit} (h : d_F_needFlag n x1 I = some r) : z_K G 193 [.ref (0), .int (x1)] (z_w w I) (z_o z_vv r) (z_ow (z_w w I) r) := by
  refine z_con ok.1 (ml := 2) (by decide +kernel) rfl rfl ?_
  show z_R G 193 0 [some (.ref (0)), some (.int (x1))] [] (z_w w I) (z_o z_vv r) (z_ow (z_w w I) r)
  unfold d_F_needFlag at h
  have hB : z_all [z_is 193 0 (zf_aload 0 0 1), z_is 193 1 (zf_cv 1 192 0 7 4), z_is 193 4 (zf_iload 4 1 5), z_is 193 5 (zf_if1 .lt 5 22 8)] = true := by decide +kernel
  refine z_aload hB rfl (fun hB => ?_)
  obtain ⟨q1, e2, h⟩ := z_bind h
  cases q1 with
  | inl v3 =>
    have hc9 := t_F_needText (I := I) ok e2
    cases h
    exact y_cvx ok hB (as := []) (a := 0) (rest := []) rfl (by decide +kernel) rfl rfl (by decide +kernel) hc9
  | inr v4 =>
    have hc9 := t_F_needText (I := I) ok e2
    refine y_cv ok hB (as := []) (a := 0) (rest := []) rfl rfl rfl (by decide +kernel) hc9 (fun hB => ?_)
    refine z_iload hB rfl (fun hB => ?_)
    refine z_if_lt hB (fun hc _ => ?_) (fun hc _ => ?_)
    · have h := z_pos hc h
      have hB : z_all [z_thr 193 22 1] = true := by decide +kernel
      cases h
      exact z_throw hB
    · have h := z_neg hc h
      have hB : z_all [z_is 193 8 (zf_iload 8 1 9), z_is 193 9 (zf_aload 9 0 10), z_is 193 10 (zf_getr 10 7 5 13), z_is 193 13 (zf_getr 13 2 1 16), z_is 193 16 (zf_geti 16 5 6 19), z_is 193 19 (zf_if2 .lt 19 33 22)] = true := by decide +kernel
      refine z_iload hB rfl (fun hB => ?_)
      refine z_aload hB rfl (fun hB => ?_)
      refine y_getm ok hB (by decide +kernel) hn.1 (fun hB => ?_)
      refine y_getr (b := (n + 7)) ok hB hn.2 (zla_r1 hn.2) (fun hB => ?_)
      refine y_geti ok hB (zla_k1 hn.2) (fun hB => ?_)
      refine z_ic_lt hB (fun hc _ => ?_) (fun hc _ => ?_)
      · have h := z_pos hc h
        have hB : z_all [z_is 193 33 (zf_ret 6)] = true := by decide +kernel
        cases h
        exact z_retv hB
      · have h := z_neg hc h
        have hB : z_all [z_thr 193 22 1] = true := by decide +kernel
        cases h
        exact z_throw hB
def d_F_flag (n : Nat) (x1 : Int32) (x2 : Int32) (I : z_H) : Option (Nat ⊕ Int32) := ((d_F_needFlag n (x1) I).bind fun q1 => (match q1 with | .inl v3 => some (Sum.inl v3) | .inr v4 => ((d_F_needRange (x2) ((jn 0)) ((jn 9))).bind fun q5 => (match q5 with | .inl v7 => some (Sum.inl v7) | .inr v8 => (if z_in (x1) 12 then (if x2 = jn 0 then some (Sum.inr ((I ((n + 7) + 2 + z_n (x1)) 0))) else (if x2 = jn 1 then some (Sum.inr ((I ((n + 7) + 2 + z_n (x1)) 1))) else (if x2 = jn 2 then some (Sum.inr ((I ((n + 7) + 2 + z_n (x1)) 2))) else (if x2 = jn 3 then some (Sum.inr ((I ((n + 7) + 2 + z_n (x1)) 3))) else (if x2 = jn 4 then some (Sum.inr ((I ((n + 7) + 2 + z_n (x1)) 4))) else (if x2 = jn 5 then some (Sum.inr ((I ((n + 7) + 2 + z_n (x1)) 5))) else (if x2 = jn 6 then some (Sum.inr ((I ((n + 7) + 2 + z_n (x1)) 6))) else (if x2 = jn 7 then some (Sum.inr ((I ((n + 7) + 2 + z_n (x1)) 7))) else (if x2 = jn 8 then some (Sum.inr ((I ((n + 7) + 2 + z_n (x1)) 8))) else some (Sum.inr ((I ((n + 7) + 2 + z_n (x1)) 9)))))))))))) else none)))))
/-- FlagLaundry.flag(II)I -/
theorem t_F_flag {G : z_G} {w : ev_W} (ok : z_Ok G w) {n : Nat} {x1 : Int32} {x2 : Int32} (hn : z_fc w n) {I : z_H} {r : Nat ⊕ Int32} (h : d_F_flag n x1 x2 I = some r) : z_K G 139 [.ref (0), .int (x1), .int (x2)] (z_w w I) (z_o z_vi r) (z_ow (z_w w I) r) := by
  refine z_con ok.1 (ml := 4) (by decide +kernel) rfl rfl ?_
  show z_R G 139 0 [some (.ref (0)), some (.int (x1)), some (.int (x2)), none] [] (z_w w I) (z_o z_vi r) (z_ow (z_w w I) r)
  unfold d_F_flag at h
  have hB : z_all [z_is 139 0 (zf_aload 0 0 1), z_is 139 1 (zf_iload 1 1 2), z_is 139 2 (zf_cv 2 193 1 7 5), z_is 139 5 (zf_iload 5 2 6), z_is 139 6 (zf_cst 6 (jn 0) 7), z_is 139 7 (zf_cst 7 (jn 9) 9), z_is 139 9 (zf_cs 9 198 3 12), z_is 139 12 (zf_aload 12 0 13), z_is 139 13 (zf_getr 13 7 5 16), z_is 139 16 (zf_getr 16 2 1 19), z_is 139 19 (zf_getr 19 5 7 22), z_is 139 22 (zf_iload 22 1 23), z_is 139 23 (zf_aald 23 24), z_is 139 24 (zf_astore 24 3 25), z_is 139 25 (zf_iload 25 2 26), z_is 139 26 (zf_tsw 26 0 [(jn 0, 76), (jn 1, 81), (jn 2, 86), (jn 3, 91), (jn 4, 96), (jn 5, 101), (jn 6, 106), (jn 7, 111), (jn 8, 116)] 121)] = true := by decide +kernel
  refine z_aload hB rfl (fun hB => ?_)
  refine z_iload hB rfl (fun hB => ?_)
  obtain ⟨q1, e2, h⟩ := z_bind h
  cases q1 with
  | inl v3 =>
    have hc9 := t_F_needFlag (I := I) ok hn e2
    cases h
    exact y_cvx ok hB (as := [.int (x1)]) (a := 0) (rest := []) rfl (by decide +kernel) rfl rfl (by decide +kernel) hc9
  | inr v4 =>
    have hc9 := t_F_needFlag (I := I) ok hn e2
    refine y_cv ok hB (as := [.int (x1)]) (a := 0) (rest := []) rfl rfl rfl (by decide +kernel) hc9 (fun hB => ?_)
    refine z_iload hB rfl (fun hB => ?_)
    refine z_cst hB (fun hB => ?_)
    refine z_cst hB (fun hB => ?_)
    obtain ⟨q5, e6, h⟩ := z_bind h
    cases q5 with
    | inl v7 =>
      have hc9 := t_F_needRange (I := I) ok e6
      cases h
      exact z_callSx hB (as := [.int (x2), .int ((jn 0)), .int ((jn 9))]) (rest := []) rfl (by decide +kernel) rfl rfl hc9
    | inr v8 =>
      have hc9 := t_F_needRange (I := I) ok e6
      refine z_callS hB (as := [.int (x2), .int ((jn 0)), .int ((jn 9))]) (rest := []) rfl rfl rfl hc9 (fun hB => ?_)
      refine z_aload hB rfl (fun hB => ?_)
      refine y_getm ok hB (by decide +kernel) hn.1 (fun hB => ?_)
      refine y_getr (b := (n + 7)) ok hB hn.2 (zla_r1 hn.2) (fun hB => ?_)
      refine y_getr (b := ((n + 7) + 1)) ok hB (zla_k1 hn.2) (zst_r7 (zla_k1 hn.2)) (fun hB => ?_)
      refine z_iload hB rfl (fun hB => ?_)
      obtain ⟨g9, h⟩ := z_gd h
      refine y_fald ok hB (zst_k1 (zla_k1 hn.2)) (zst_l1 (zla_k1 hn.2)) g9 (zst_fR (zla_k1 hn.2) g9) (fun hB => ?_)
      refine z_astore hB rfl rfl (fun hB => ?_)
      refine z_iload hB rfl (fun hB => ?_)
      refine z_tsw hB ?_
      refine (Decidable.em (x2 = jn 0)).elim (fun hc => ?_) (fun hc => ?_)
      · have h := z_pos hc h
        rw [z_sw_p hc]
        have hB : z_all [z_is 139 76 (zf_aload 76 3 77), z_is 139 77 (zf_geti 77 0 0 80), z_is 139 80 (zf_ret 0)] = true := by decide +kernel
        refine z_aload hB rfl (fun hB => ?_)
        refine y_geti ok hB (zst_fK (zla_k1 hn.2) g9) (fun hB => ?_)
        cases h
        exact z_reti hB
      · have h := z_neg hc h
        rw [z_sw_n hc]
        refine (Decidable.em (x2 = jn 1)).elim (fun hc => ?_) (fun hc => ?_)
        · have h := z_pos hc h
          rw [z_sw_p hc]
          have hB : z_all [z_is 139 81 (zf_aload 81 3 82), z_is 139 82 (zf_geti 82 0 1 85), z_is 139 85 (zf_ret 0)] = true := by decide +kernel
          refine z_aload hB rfl (fun hB => ?_)
          refine y_geti ok hB (zst_fK (zla_k1 hn.2) g9) (fun hB => ?_)
          cases h
          exact z_reti hB
        · have h := z_neg hc h
          rw [z_sw_n hc]
          refine (Decidable.em (x2 = jn 2)).elim (fun hc => ?_) (fun hc => ?_)
          · have h := z_pos hc h
            rw [z_sw_p hc]
            have hB : z_all [z_is 139 86 (zf_aload 86 3 87), z_is 139 87 (zf_geti 87 0 2 90), z_is 139 90 (zf_ret 0)] = true := by decide +kernel
            refine z_aload hB rfl (fun hB => ?_)
            refine y_geti ok hB (zst_fK (zla_k1 hn.2) g9) (fun hB => ?_)
            cases h
            exact z_reti hB
          · have h := z_neg hc h
            rw [z_sw_n hc]
            refine (Decidable.em (x2 = jn 3)).elim (fun hc => ?_) (fun hc => ?_)
            · have h := z_pos hc h
              rw [z_sw_p hc]
              have hB : z_all [z_is 139 91 (zf_aload 91 3 92), z_is 139 92 (zf_geti 92 0 3 95), z_is 139 95 (zf_ret 0)] = true := by decide +kernel
              refine z_aload hB rfl (fun hB => ?_)
              refine y_geti ok hB (zst_fK (zla_k1 hn.2) g9) (fun hB => ?_)
              cases h
              exact z_reti hB
            · have h := z_neg hc h
              rw [z_sw_n hc]
              refine (Decidable.em (x2 = jn 4)).elim (fun hc => ?_) (fun hc => ?_)
              · have h := z_pos hc h
                rw [z_sw_p hc]
                have hB : z_all [z_is 139 96 (zf_aload 96 3 97), z_is 139 97 (zf_geti 97 0 4 100), z_is 139 100 (zf_ret 0)] = true := by decide +kernel
                refine z_aload hB rfl (fun hB => ?_)
                refine y_geti ok hB (zst_fK (zla_k1 hn.2) g9) (fun hB => ?_)
                cases h
                exact z_reti hB
              · have h := z_neg hc h
                rw [z_sw_n hc]
                refine (Decidable.em (x2 = jn 5)).elim (fun hc => ?_) (fun hc => ?_)
                · have h := z_pos hc h
                  rw [z_sw_p hc]
                  have hB : z_all [z_is 139 101 (zf_aload 101 3 102), z_is 139 102 (zf_geti 102 0 5 105), z_is 139 105 (zf_ret 0)] = true := by decide +kernel
                  refine z_aload hB rfl (fun hB => ?_)
                  refine y_geti ok hB (zst_fK (zla_k1 hn.2) g9) (fun hB => ?_)
                  cases h
                  exact z_reti hB
                · have h := z_neg hc h
                  rw [z_sw_n hc]
                  refine (Decidable.em (x2 = jn 6)).elim (fun hc => ?_) (fun hc => ?_)
                  · have h := z_pos hc h
                    rw [z_sw_p hc]
                    have hB : z_all [z_is 139 106 (zf_aload 106 3 107), z_is 139 107 (zf_geti 107 0 6 110), z_is 139 110 (zf_ret 0)] = true := by decide +kernel
                    refine z_aload hB rfl (fun hB => ?_)
                    refine y_geti ok hB (zst_fK (zla_k1 hn.2) g9) (fun hB => ?_)
                    cases h
                    exact z_reti hB
                  · have h := z_neg hc h
                    rw [z_sw_n hc]
                    refine (Decidable.em (x2 = jn 7)).elim (fun hc => ?_) (fun hc => ?_)
                    · have h := z_pos hc h
                      rw [z_sw_p hc]
                      have hB : z_all [z_is 139 111 (zf_aload 111 3 112), z_is 139 112 (zf_geti 112 0 7 115), z_is 139 115 (zf_ret 0)] = true := by decide +kernel
                      refine z_aload hB rfl (fun hB => ?_)
                      refine y_geti ok hB (zst_fK (zla_k1 hn.2) g9) (fun hB => ?_)
                      cases h
                      exact z_reti hB
                    · have h := z_neg hc h
                      rw [z_sw_n hc]
                      refine (Decidable.em (x2 = jn 8)).elim (fun hc => ?_) (fun hc => ?_)
                      · have h := z_pos hc h
                        rw [z_sw_p hc]
                        have hB : z_all [z_is 139 116 (zf_aload 116 3 117), z_is 139 117 (zf_geti 117 0 8 120), z_is 139 120 (zf_ret 0)] = true := by decide +kernel
                        refine z_aload hB rfl (fun hB => ?_)
                        refine y_geti ok hB (zst_fK (zla_k1 hn.2) g9) (fun hB => ?_)
                        cases h
                        exact z_reti hB
                      · have h := z_neg hc h
                        rw [z_sw_n hc]
                        show z_R G 139 121 _ _ _ _ _
                        have hB : z_all [z_is 139 121 (zf_aload 121 3 122), z_is 139 122 (zf_geti 122 0 9 125), z_is 139 125 (zf_ret 0)] = true := by decide +kernel
                        refine z_aload hB rfl (fun hB => ?_)
                        refine y_geti ok hB (zst_fK (zla_k1 hn.2) g9) (fun hB => ?_)
                        cases h
                        exact z_reti hB
def d_F_needTub (n : Nat) (x1 : Int32) (I : z_H) : Option (Nat ⊕ Unit) := ((d_F_needText I).bind fun q1 => (match q1 with | .inl v3 => some (Sum.inl v3) | .inr v4 => (if x1 < jn 0 then some (Sum.inl 1) else (if x1 < (I (n + 1) 3) then some (Sum.inr (())) else some (Sum.inl 1)))))
/-- FlagLaundry.needTub(I)V -/
theorem t_F_needTub {G : z_G} {w : ev_W} (ok : z_Ok G w) {n : Nat} {x1 : Int32} (hn : z_fc w n) {I : z_H} {r : Nat ⊕ Unit} (h : d_F_needTub n x1 I = some r) : z_K G 194 [.ref (0), .int (x1)] (z_w w I) (z_o z_vv r) (z_ow (z_w w I) r) := by
  refine z_con ok.1 (ml := 2) (by decide +kernel) rfl rfl ?_
  show z_R G 194 0 [some (.ref (0)), some (.int (x1))] [] (z_w w I) (z_o z_vv r) (z_ow (z_w w I) r)
  unfold d_F_needTub at h
  have hB : z_all [z_is 194 0 (zf_aload 0 0 1), z_is 194 1 (zf_cv 1 192 0 7 4), z_is 194 4 (zf_iload 4 1 5), z_is 194 5 (zf_if1 .lt 5 22 8)] = true := by decide +kernel
  refine z_aload hB rfl (fun hB => ?_)
  obtain ⟨q1, e2, h⟩ := z_bind h
  cases q1 with
  | inl v3 =>
    have hc9 := t_F_needText (I := I) ok e2
    cases h
    exact y_cvx ok hB (as := []) (a := 0) (rest := []) rfl (by decide +kernel) rfl rfl (by decide +kernel) hc9
  | inr v4 =>
    have hc9 := t_F_needText (I := I) ok e2
    refine y_cv ok hB (as := []) (a := 0) (rest := []) rfl rfl rfl (by decide +kernel) hc9 (fun hB => ?_)
    refine z_iload hB rfl (fun hB => ?_)
    refine z_if_lt hB (fun hc _ => ?_) (fun hc _ => ?_)
    · have h := z_pos hc h
      have hB : z_all [z_thr 194 22 1] = true := by decide +kernel
      cases h
      exact z_throw hB
    · have h := z_neg hc h
      have hB : z_all [z_is 194 8 (zf_iload 8 1 9), z_is 194 9 (zf_aload 9 0 10), z_is 194 10 (zf_getr 10 7 5 13), z_is 194 13 (zf_getr 13 2 0 16), z_is 194 16 (zf_geti 16 4 3 19), z_is 194 19 (zf_if2 .lt 19 33 22)] = true := by decide +kernel
      refine z_iload hB rfl (fun hB => ?_)
      refine z_aload hB rfl (fun hB => ?_)
      refine y_getm ok hB (by decide +kernel) hn.1 (fun hB => ?_)
      refine y_getr (b := (n + 1)) ok hB hn.2 (zla_r0 hn.2) (fun hB => ?_)
      refine y_geti ok hB (zla_k0 hn.2) (fun hB => ?_)
      refine z_ic_lt hB (fun hc _ => ?_) (fun hc _ => ?_)
      · have h := z_pos hc h
        have hB : z_all [z_is 194 33 (zf_ret 6)] = true := by decide +kernel
        cases h
        exact z_retv hB
      · have h := z_neg hc h
        have hB : z_all [z_thr 194 22 1] = true := by decide +kernel
        cases h
        exact z_throw hB
def d_F_tub (n : Nat) (x1 : Int32) (x2 : Int32) (I : z_H) : Option (Nat ⊕ Int32) := ((d_F_needTub n (x1) I).bind fun q1 => (match q1 with | .inl v3 => some (Sum.inl v3) | .inr v4 => ((d_F_needRange (x2) ((jn 0)) ((jn 4))).bind fun q5 => (match q5 with | .inl v7 => some (Sum.inl v7) | .inr v8 => (if x2 = jn 0 then (if z_in (x1) 3 then some (Sum.inr ((I ((n + 1) + 5) (z_n (x1))))) else none) else (if x2 = jn 1 then (if z_in (x1) 3 then some (Sum.inr ((I ((n + 7) + 14) (z_n (x1))))) else none) else (if x2 = jn 2 then ((d_L_greatestHeat n (x1) I).bind fun q11 => some (Sum.inr (q11))) else (if x2 = jn 3 then ((d_L_dirtIn n (x1) I).bind fun q13 => some (Sum.inr (q13))) else ((d_L_coloursIn n (x1) I).bind fun q15 => some (Sum.inr (q15)))))))))))
/-- FlagLaundry.tub(II)I -/
theorem t_F_tub {G : z_G} {w : ev_W} (ok : z_Ok G w) {n : Nat} {x1 : Int32} {x2 : Int32} (hn : z_fc w n) {I : z_H} {r : Nat ⊕ Int32} (h : d_F_tub n x1 x2 I = some r) : z_K G 140 [.ref (0), .int (x1), .int (x2)] (z_w w I) (z_o z_vi r) (z_ow (z_w w I) r) := by
  refine z_con ok.1 (ml := 3) (by decide +kernel) rfl rfl ?_
  show z_R G 140 0 [some (.ref (0)), some (.int (x1)), some (.int (x2))] [] (z_w w I) (z_o z_vi r) (z_ow (z_w w I) r)
  unfold d_F_tub at h
  have hB : z_all [z_is 140 0 (zf_aload 0 0 1), z_is 140 1 (zf_iload 1 1 2), z_is 140 2 (zf_cv 2 194 1 7 5), z_is 140 5 (zf_iload 5 2 6), z_is 140 6 (zf_cst 6 (jn 0) 7), z_is 140 7 (zf_cst 7 (jn 4) 8), z_is 140 8 (zf_cs 8 198 3 11), z_is 140 11 (zf_iload 11 2 12), z_is 140 12 (zf_tsw 12 0 [(jn 0, 44), (jn 1, 57), (jn 2, 70), (jn 3, 79)] 88)] = true := by decide +kernel
  refine z_aload hB rfl (fun hB => ?_)
  refine z_iload hB rfl (fun hB => ?_)
  obtain ⟨q1, e2, h⟩ := z_bind h
  cases q1 with
  | inl v3 =>
    have hc9 := t_F_needTub (I := I) ok hn e2
    cases h
    exact y_cvx ok hB (as := [.int (x1)]) (a := 0) (rest := []) rfl (by decide +kernel) rfl rfl (by decide +kernel) hc9
  | inr v4 =>
    have hc9 := t_F_needTub (I := I) ok hn e2
    refine y_cv ok hB (as := [.int (x1)]) (a := 0) (rest := []) rfl rfl rfl (by decide +kernel) hc9 (fun hB => ?_)
    refine z_iload hB rfl (fun hB => ?_)
    refine z_cst hB (fun hB => ?_)
    refine z_cst hB (fun hB => ?_)
    obtain ⟨q5, e6, h⟩ := z_bind h
    cases q5 with
    | inl v7 =>
      have hc9 := t_F_needRange (I := I) ok e6
      cases h
      exact z_callSx hB (as := [.int (x2), .int ((jn 0)), .int ((jn 4))]) (rest := []) rfl (by decide +kernel) rfl rfl hc9
    | inr v8 =>
      have hc9 := t_F_needRange (I := I) ok e6
      refine z_callS hB (as := [.int (x2), .int ((jn 0)), .int ((jn 4))]) (rest := []) rfl rfl rfl hc9 (fun hB => ?_)
      refine z_iload hB rfl (fun hB => ?_)
      refine z_tsw hB ?_
      refine (Decidable.em (x2 = jn 0)).elim (fun hc => ?_) (fun hc => ?_)
      · have h := z_pos hc h
        rw [z_sw_p hc]
        have hB : z_all [z_is 140 44 (zf_aload 44 0 45), z_is 140 45 (zf_getr 45 7 5 48), z_is 140 48 (zf_getr 48 2 0 51), z_is 140 51 (zf_getr 51 4 8 54), z_is 140 54 (zf_iload 54 1 55), z_is 140 55 (zf_iald 55 56), z_is 140 56 (zf_ret 0)] = true := by decide +kernel
        refine z_aload hB rfl (fun hB => ?_)
        refine y_getm ok hB (by decide +kernel) hn.1 (fun hB => ?_)
        refine y_getr (b := (n + 1)) ok hB hn.2 (zla_r0 hn.2) (fun hB => ?_)
        refine y_getr (b := ((n + 1) + 5)) ok hB (zla_k0 hn.2) (zsu_r8 (zla_k0 hn.2)) (fun hB => ?_)
        refine z_iload hB rfl (fun hB => ?_)
        obtain ⟨g9, h⟩ := z_gd h
        refine y_iald ok hB (zsu_k8 (zla_k0 hn.2)) (zsu_l8 (zla_k0 hn.2)) g9 (fun hB => ?_)
        cases h
        exact z_reti hB
      · have h := z_neg hc h
        rw [z_sw_n hc]
        refine (Decidable.em (x2 = jn 1)).elim (fun hc => ?_) (fun hc => ?_)
        · have h := z_pos hc h
          rw [z_sw_p hc]
          have hB : z_all [z_is 140 57 (zf_aload 57 0 58), z_is 140 58 (zf_getr 58 7 5 61), z_is 140 61 (zf_getr 61 2 1 64), z_is 140 64 (zf_getr 64 5 8 67), z_is 140 67 (zf_iload 67 1 68), z_is 140 68 (zf_iald 68 69), z_is 140 69 (zf_ret 0)] = true := by decide +kernel
          refine z_aload hB rfl (fun hB => ?_)
          refine y_getm ok hB (by decide +kernel) hn.1 (fun hB => ?_)
          refine y_getr (b := (n + 7)) ok hB hn.2 (zla_r1 hn.2) (fun hB => ?_)
          refine y_getr (b := ((n + 7) + 14)) ok hB (zla_k1 hn.2) (zst_r8 (zla_k1 hn.2)) (fun hB => ?_)
          refine z_iload hB rfl (fun hB => ?_)
          obtain ⟨g10, h⟩ := z_gd h
          refine y_iald ok hB (zst_k14 (zla_k1 hn.2)) (zst_l14 (zla_k1 hn.2)) g10 (fun hB => ?_)
          cases h
          exact z_reti hB
        · have h := z_neg hc h
          rw [z_sw_n hc]
          refine (Decidable.em (x2 = jn 2)).elim (fun hc => ?_) (fun hc => ?_)
          · have h := z_pos hc h
            rw [z_sw_p hc]
            have hB : z_all [z_is 140 70 (zf_aload 70 0 71), z_is 140 71 (zf_getr 71 7 5 74), z_is 140 74 (zf_iload 74 1 75), z_is 140 75 (zf_cv 75 30 1 2 78), z_is 140 78 (zf_ret 0)] = true := by decide +kernel
            refine z_aload hB rfl (fun hB => ?_)
            refine y_getm ok hB (by decide +kernel) hn.1 (fun hB => ?_)
            refine z_iload hB rfl (fun hB => ?_)
            obtain ⟨q11, e12, h⟩ := z_bind h
            refine y_cv ok hB (as := [.int (x1)]) (a := n) (rest := []) rfl rfl rfl hn.2 (t_L_greatestHeat (I := I) ok hn.2 e12) (fun hB => ?_)
            cases h
            exact z_reti hB
          · have h := z_neg hc h
            rw [z_sw_n hc]
            refine (Decidable.em (x2 = jn 3)).elim (fun hc => ?_) (fun hc => ?_)
            · have h := z_pos hc h
              rw [z_sw_p hc]
              have hB : z_all [z_is 140 79 (zf_aload 79 0 80), z_is 140 80 (zf_getr 80 7 5 83), z_is 140 83 (zf_iload 83 1 84), z_is 140 84 (zf_cv 84 31 1 2 87), z_is 140 87 (zf_ret 0)] = true := by decide +kernel
              refine z_aload hB rfl (fun hB => ?_)
              refine y_getm ok hB (by decide +kernel) hn.1 (fun hB => ?_)
              refine z_iload hB rfl (fun hB => ?_)
              obtain ⟨q13, e14, h⟩ := z_bind h
              refine y_cv ok hB (as := [.int (x1)]) (a := n) (rest := []) rfl rfl rfl hn.2 (t_L_dirtIn (I := I) ok hn.2 e14) (fun hB => ?_)
              cases h
              exact z_reti hB
            · have h := z_neg hc h
              rw [z_sw_n hc]
              show z_R G 140 88 _ _ _ _ _
              have hB : z_all [z_is 140 88 (zf_aload 88 0 89), z_is 140 89 (zf_getr 89 7 5 92), z_is 140 92 (zf_iload 92 1 93), z_is 140 93 (zf_cv 93 32 1 2 96), z_is 140 96 (zf_ret 0)] = true := by decide +kernel
              refine z_aload hB rfl (fun hB => ?_)
              refine y_getm ok hB (by decide +kernel) hn.1 (fun hB => ?_)
              refine z_iload hB rfl (fun hB => ?_)
              obtain ⟨q15, e16, h⟩ := z_bind h
              refine y_cv ok hB (as := [.int (x1)]) (a := n) (rest := []) rfl rfl rfl hn.2 (t_L_coloursIn (I := I) ok hn.2 e16) (fun hB => ?_)
              cases h
              exact z_reti hB
def d_F_inTub (n : Nat) (x1 : Int32) (x2 : Int32) (I : z_H) : Option (Nat ⊕ Int32) := ((d_F_needTub n (x1) I).bind fun q1 => (match q1 with | .inl v3 => some (Sum.inl v3) | .inr v4 => (Option.bind (α := Int32) (if x2 < jn 0 then some ((jg 1)) else (if z_in (x1) 3 then (if x2 < (I ((n + 7) + 14) (z_n (x1))) then ((d_S_flagInTub (n + 7) (x1) (x2) I).bind fun q9 => some (q9)) else some ((jg 1))) else none)) fun q5 => some (Sum.inr (q5)))))
/-- FlagLaundry.inTub(II)I -/
theorem t_F_inTub {G : z_G} {w : ev_W} (ok : z_Ok G w) {n : Nat} {x1 : Int32} {x2 : Int32} (hn : z_fc w n) {I : z_H} {r : Nat ⊕ Int32} (h : d_F_inTub n x1 x2 I = some r) : z_K G 141 [.ref (0), .int (x1), .int (x2)] (z_w w I) (z_o z_vi r) (z_ow (z_w w I) r) := by
  refine z_con ok.1 (ml := 3) (by decide +kernel) rfl rfl ?_
  show z_R G 141 0 [some (.ref (0)), some (.int (x1)), some (.int (x2))] [] (z_w w I) (z_o z_vi r) (z_ow (z_w w I) r)
  unfold d_F_inTub at h
  have hB : z_all [z_is 141 0 (zf_aload 0 0 1), z_is 141 1 (zf_iload 1 1 2), z_is 141 2 (zf_cv 2 194 1 7 5), z_is 141 5 (zf_iload 5 2 6), z_is 141 6 (zf_if1 .lt 6 40 9)] = true := by decide +kernel
  refine z_aload hB rfl (fun hB => ?_)
  refine z_iload hB rfl (fun hB => ?_)
  obtain ⟨q1, e2, h⟩ := z_bind h
  cases q1 with
  | inl v3 =>
    have hc9 := t_F_needTub (I := I) ok hn e2
    cases h
    exact y_cvx ok hB (as := [.int (x1)]) (a := 0) (rest := []) rfl (by decide +kernel) rfl rfl (by decide +kernel) hc9
  | inr v4 =>
    have hc9 := t_F_needTub (I := I) ok hn e2
    refine y_cv ok hB (as := [.int (x1)]) (a := 0) (rest := []) rfl rfl rfl (by decide +kernel) hc9 (fun hB => ?_)
    refine z_iload hB rfl (fun hB => ?_)
    obtain ⟨q5, e6, h⟩ := z_bind h
    have k7 : z_R G 141 41 [none, none, none] [.int (q5)] (z_w w I) (z_o z_vi r) (z_ow (z_w w I) r) := by
      have hB : z_all [z_is 141 41 (zf_ret 0)] = true := by decide +kernel
      cases h
      exact z_reti hB
    have h := e6
    refine z_if_lt hB (fun hc _ => ?_) (fun hc _ => ?_)
    · have h := z_pos hc h
      have hB : z_all [z_is 141 40 (zf_cst 40 (jg 1) 41)] = true := by decide +kernel
      refine z_cst hB (fun hB => ?_)
      cases h
      exact z_weak k7 (z_sn (z_sn (z_sn z_s0)))
    · have h := z_neg hc h
      have hB : z_all [z_is 141 9 (zf_iload 9 2 10), z_is 141 10 (zf_aload 10 0 11), z_is 141 11 (zf_getr 11 7 5 14), z_is 141 14 (zf_getr 14 2 1 17), z_is 141 17 (zf_getr 17 5 8 20), z_is 141 20 (zf_iload 20 1 21), z_is 141 21 (zf_iald 21 22), z_is 141 22 (zf_if2 .ge 22 40 25)] = true := by decide +kernel
      refine z_iload hB rfl (fun hB => ?_)
      refine z_aload hB rfl (fun hB => ?_)
      refine y_getm ok hB (by decide +kernel) hn.1 (fun hB => ?_)
      refine y_getr (b := (n + 7)) ok hB hn.2 (zla_r1 hn.2) (fun hB => ?_)
      refine y_getr (b := ((n + 7) + 14)) ok hB (zla_k1 hn.2) (zst_r8 (zla_k1 hn.2)) (fun hB => ?_)
      refine z_iload hB rfl (fun hB => ?_)
      obtain ⟨g8, h⟩ := z_gd h
      refine y_iald ok hB (zst_k14 (zla_k1 hn.2)) (zst_l14 (zla_k1 hn.2)) g8 (fun hB => ?_)
      refine z_ic_ge hB (fun hc _ => ?_) (fun hc _ => ?_)
      · have h := z_neg hc h
        have hB : z_all [z_is 141 40 (zf_cst 40 (jg 1) 41)] = true := by decide +kernel
        refine z_cst hB (fun hB => ?_)
        cases h
        exact z_weak k7 (z_sn (z_sn (z_sn z_s0)))
      · have h := z_pos hc h
        have hB : z_all [z_is 141 25 (zf_aload 25 0 26), z_is 141 26 (zf_getr 26 7 5 29), z_is 141 29 (zf_getr 29 2 1 32), z_is 141 32 (zf_iload 32 1 33), z_is 141 33 (zf_iload 33 2 34), z_is 141 34 (zf_cv 34 97 2 5 37), z_is 141 37 (zf_goto 37 41)] = true := by decide +kernel
        refine z_aload hB rfl (fun hB => ?_)
        refine y_getm ok hB (by decide +kernel) hn.1 (fun hB => ?_)
        refine y_getr (b := (n + 7)) ok hB hn.2 (zla_r1 hn.2) (fun hB => ?_)
        refine z_iload hB rfl (fun hB => ?_)
        refine z_iload hB rfl (fun hB => ?_)
        obtain ⟨q9, e10, h⟩ := z_bind h
        refine y_cv ok hB (as := [.int (x1), .int (x2)]) (a := (n + 7)) (rest := []) rfl rfl rfl (zla_k1 hn.2) (t_S_flagInTub (I := I) ok (zla_k1 hn.2) e10) (fun hB => ?_)
        refine z_goto hB (fun hB => ?_)
        cases h
        exact z_weak k7 (z_sn (z_sn (z_sn z_s0)))
def d_F_onPeg (n : Nat) (x1 : Int32) (I : z_H) : Option (Nat ⊕ Int32) := ((d_F_needText I).bind fun q1 => (match q1 with | .inl v3 => some (Sum.inl v3) | .inr v4 => (if x1 < jn 0 then some (Sum.inl 1) else (if x1 < (I (n + 1) 0) then (if z_in (x1) 8 then some (Sum.inr ((I ((n + 7) + 16) (z_n (x1))))) else none) else some (Sum.inl 1)))))
/-- FlagLaundry.onPeg(I)I -/
theorem t_F_onPeg {G : z_G} {w : ev_W} (ok : z_Ok G w) {n : Nat} {x1 : Int32} (hn : z_fc w n) {I : z_H} {r : Nat ⊕ Int32} (h : d_F_onPeg n x1 I = some r) : z_K G 142 [.ref (0), .int (x1)] (z_w w I) (z_o z_vi r) (z_ow (z_w w I) r) := by
  refine z_con ok.1 (ml := 2) (by decide +kernel) rfl rfl ?_
  show z_R G 142 0 [some (.ref (0)), some (.int (x1))] [] (z_w w I) (z_o z_vi r) (z_ow (z_w w I) r)
  unfold d_F_onPeg at h
  have hB : z_all [z_is 142 0 (zf_aload 0 0 1), z_is 142 1 (zf_cv 1 192 0 7 4), z_is 142 4 (zf_iload 4 1 5), z_is 142 5 (zf_if1 .lt 5 22 8)] = true := by decide +kernel
  refine z_aload hB rfl (fun hB => ?_)
  obtain ⟨q1, e2, h⟩ := z_bind h
  cases q1 with
  | inl v3 =>
    have hc9 := t_F_needText (I := I) ok e2
    cases h
    exact y_cvx ok hB (as := []) (a := 0) (rest := []) rfl (by decide +kernel) rfl rfl (by decide +kernel) hc9
  | inr v4 =>
    have hc9 := t_F_needText (I := I) ok e2
    refine y_cv ok hB (as := []) (a := 0) (rest := []) rfl rfl rfl (by decide +kernel) hc9 (fun hB => ?_)
    refine z_iload hB rfl (fun hB => ?_)
    refine z_if_lt hB (fun hc _ => ?_) (fun hc _ => ?_)
    · have h := z_pos hc h
      have hB : z_all [z_thr 142 22 1] = true := by decide +kernel
      cases h
      exact z_throw hB
    · have h := z_neg hc h
      have hB : z_all [z_is 142 8 (zf_iload 8 1 9), z_is 142 9 (zf_aload 9 0 10), z_is 142 10 (zf_getr 10 7 5 13), z_is 142 13 (zf_getr 13 2 0 16), z_is 142 16 (zf_geti 16 4 0 19), z_is 142 19 (zf_if2 .lt 19 32 22)] = true := by decide +kernel
      refine z_iload hB rfl (fun hB => ?_)
      refine z_aload hB rfl (fun hB => ?_)
      refine y_getm ok hB (by decide +kernel) hn.1 (fun hB => ?_)
      refine y_getr (b := (n + 1)) ok hB hn.2 (zla_r0 hn.2) (fun hB => ?_)
      refine y_geti ok hB (zla_k0 hn.2) (fun hB => ?_)
      refine z_ic_lt hB (fun hc _ => ?_) (fun hc _ => ?_)
      · have h := z_pos hc h
        have hB : z_all [z_is 142 32 (zf_aload 32 0 33), z_is 142 33 (zf_getr 33 7 5 36), z_is 142 36 (zf_getr 36 2 1 39), z_is 142 39 (zf_getr 39 5 10 42), z_is 142 42 (zf_iload 42 1 43), z_is 142 43 (zf_iald 43 44), z_is 142 44 (zf_ret 0)] = true := by decide +kernel
        refine z_aload hB rfl (fun hB => ?_)
        refine y_getm ok hB (by decide +kernel) hn.1 (fun hB => ?_)
        refine y_getr (b := (n + 7)) ok hB hn.2 (zla_r1 hn.2) (fun hB => ?_)
        refine y_getr (b := ((n + 7) + 16)) ok hB (zla_k1 hn.2) (zst_r10 (zla_k1 hn.2)) (fun hB => ?_)
        refine z_iload hB rfl (fun hB => ?_)
        obtain ⟨g5, h⟩ := z_gd h
        refine y_iald ok hB (zst_k16 (zla_k1 hn.2)) (zst_l16 (zla_k1 hn.2)) g5 (fun hB => ?_)
        cases h
        exact z_reti hB
      · have h := z_neg hc h
        have hB : z_all [z_thr 142 22 1] = true := by decide +kernel
        cases h
        exact z_throw hB
def d_F_freePegs (n : Nat) (I : z_H) : Option (Nat ⊕ Int32) := ((d_F_needText I).bind fun q1 => (match q1 with | .inl v3 => some (Sum.inl v3) | .inr v4 => ((d_S_flagsAt (n + 7) ((jn 2)) I).bind fun q5 => some (Sum.inr (((I (n + 1) 0) - q5))))))
/-- FlagLaundry.freePegs()I -/
theorem t_F_freePegs {G : z_G} {w : ev_W} (ok : z_Ok G w) {n : Nat} (hn : z_fc w n) {I : z_H} {r : Nat ⊕ Int32} (h : d_F_freePegs n I = some r) : z_K G 143 [.ref (0)] (z_w w I) (z_o z_vi r) (z_ow (z_w w I) r) := by
  refine z_con ok.1 (ml := 1) (by decide +kernel) rfl rfl ?_
  show z_R G 143 0 [some (.ref (0))] [] (z_w w I) (z_o z_vi r) (z_ow (z_w w I) r)
  unfold d_F_freePegs at h
  have hB : z_all [z_is 143 0 (zf_aload 0 0 1), z_is 143 1 (zf_cv 1 192 0 7 4), z_is 143 4 (zf_aload 4 0 5), z_is 143 5 (zf_getr 5 7 5 8), z_is 143 8 (zf_getr 8 2 0 11), z_is 143 11 (zf_geti 11 4 0 14), z_is 143 14 (zf_aload 14 0 15), z_is 143 15 (zf_getr 15 7 5 18), z_is 143 18 (zf_getr 18 2 1 21), z_is 143 21 (zf_cst 21 (jn 2) 22), z_is 143 22 (zf_cv 22 100 1 5 25), z_is 143 25 (zf_isub 25 26), z_is 143 26 (zf_ret 0)] = true := by decide +kernel
  refine z_aload hB rfl (fun hB => ?_)
  obtain ⟨q1, e2, h⟩ := z_bind h
  cases q1 with
  | inl v3 =>
    have hc9 := t_F_needText (I := I) ok e2
    cases h
    exact y_cvx ok hB (as := []) (a := 0) (rest := []) rfl (by decide +kernel) rfl rfl (by decide +kernel) hc9
  | inr v4 =>
    have hc9 := t_F_needText (I := I) ok e2
    refine y_cv ok hB (as := []) (a := 0) (rest := []) rfl rfl rfl (by decide +kernel) hc9 (fun hB => ?_)
    refine z_aload hB rfl (fun hB => ?_)
    refine y_getm ok hB (by decide +kernel) hn.1 (fun hB => ?_)
    refine y_getr (b := (n + 1)) ok hB hn.2 (zla_r0 hn.2) (fun hB => ?_)
    refine y_geti ok hB (zla_k0 hn.2) (fun hB => ?_)
    refine z_aload hB rfl (fun hB => ?_)
    refine y_getm ok hB (by decide +kernel) hn.1 (fun hB => ?_)
    refine y_getr (b := (n + 7)) ok hB hn.2 (zla_r1 hn.2) (fun hB => ?_)
    refine z_cst hB (fun hB => ?_)
    obtain ⟨q5, e6, h⟩ := z_bind h
    refine y_cv ok hB (as := [.int ((jn 2))]) (a := (n + 7)) (rest := [.int ((I (n + 1) 0))]) rfl rfl rfl (zla_k1 hn.2) (t_S_flagsAt (I := I) ok (zla_k1 hn.2) e6) (fun hB => ?_)
    refine z_isub hB (fun hB => ?_)
    cases h
    exact z_reti hB
def d_F_wettest (n : Nat) (I : z_H) : Option (Nat ⊕ Int32) := ((d_F_needText I).bind fun q1 => (match q1 with | .inl v3 => some (Sum.inl v3) | .inr v4 => ((d_S_wettestOnLine (n + 7) I).bind fun q5 => some (Sum.inr (q5)))))
/-- FlagLaundry.wettest()I -/
theorem t_F_wettest {G : z_G} {w : ev_W} (ok : z_Ok G w) {n : Nat} (hn : z_fc w n) {I : z_H} {r : Nat ⊕ Int32} (h : d_F_wettest n I = some r) : z_K G 144 [.ref (0)] (z_w w I) (z_o z_vi r) (z_ow (z_w w I) r) := by
  refine z_con ok.1 (ml := 1) (by decide +kernel) rfl rfl ?_
  show z_R G 144 0 [some (.ref (0))] [] (z_w w I) (z_o z_vi r) (z_ow (z_w w I) r)
  unfold d_F_wettest at h
  have hB : z_all [z_is 144 0 (zf_aload 0 0 1), z_is 144 1 (zf_cv 1 192 0 7 4), z_is 144 4 (zf_aload 4 0 5), z_is 144 5 (zf_getr 5 7 5 8), z_is 144 8 (zf_getr 8 2 1 11), z_is 144 11 (zf_cv 11 108 0 5 14), z_is 144 14 (zf_ret 0)] = true := by decide +kernel
  refine z_aload hB rfl (fun hB => ?_)
  obtain ⟨q1, e2, h⟩ := z_bind h
  cases q1 with
  | inl v3 =>
    have hc9 := t_F_needText (I := I) ok e2
    cases h
    exact y_cvx ok hB (as := []) (a := 0) (rest := []) rfl (by decide +kernel) rfl rfl (by decide +kernel) hc9
  | inr v4 =>
    have hc9 := t_F_needText (I := I) ok e2
    refine y_cv ok hB (as := []) (a := 0) (rest := []) rfl rfl rfl (by decide +kernel) hc9 (fun hB => ?_)
    refine z_aload hB rfl (fun hB => ?_)
    refine y_getm ok hB (by decide +kernel) hn.1 (fun hB => ?_)
    refine y_getr (b := (n + 7)) ok hB hn.2 (zla_r1 hn.2) (fun hB => ?_)
    obtain ⟨q5, e6, h⟩ := z_bind h
    refine y_cv ok hB (as := []) (a := (n + 7)) (rest := []) rfl rfl rfl (zla_k1 hn.2) (t_S_wettestOnLine (I := I) ok (zla_k1 hn.2) e6) (fun hB => ?_)
    cases h
    exact z_reti hB
def d_F_gap (n : Nat) (I : z_H) : Option (Nat ⊕ Int32) := ((d_F_needText I).bind fun q1 => (match q1 with | .inl v3 => some (Sum.inl v3) | .inr v4 => ((d_L_sumsThatDiffer n I).bind fun q5 => some (Sum.inr (q5)))))
/-- FlagLaundry.gap()I -/
theorem t_F_gap {G : z_G} {w : ev_W} (ok : z_Ok G w) {n : Nat} (hn : z_fc w n) {I : z_H} {r : Nat ⊕ Int32} (h : d_F_gap n I = some r) : z_K G 145 [.ref (0)] (z_w w I) (z_o z_vi r) (z_ow (z_w w I) r) := by
  refine z_con ok.1 (ml := 1) (by decide +kernel) rfl rfl ?_
  show z_R G 145 0 [some (.ref (0))] [] (z_w w I) (z_o z_vi r) (z_ow (z_w w I) r)
  unfold d_F_gap at h
  have hB : z_all [z_is 145 0 (zf_aload 0 0 1), z_is 145 1 (zf_cv 1 192 0 7 4), z_is 145 4 (zf_aload 4 0 5), z_is 145 5 (zf_getr 5 7 5 8), z_is 145 8 (zf_cv 8 61 0 2 11), z_is 145 11 (zf_ret 0)] = true := by decide +kernel
  refine z_aload hB rfl (fun hB => ?_)
  obtain ⟨q1, e2, h⟩ := z_bind h
  cases q1 with
  | inl v3 =>
    have hc9 := t_F_needText (I := I) ok e2
    cases h
    exact y_cvx ok hB (as := []) (a := 0) (rest := []) rfl (by decide +kernel) rfl rfl (by decide +kernel) hc9
  | inr v4 =>
    have hc9 := t_F_needText (I := I) ok e2
    refine y_cv ok hB (as := []) (a := 0) (rest := []) rfl rfl rfl (by decide +kernel) hc9 (fun hB => ?_)
    refine z_aload hB rfl (fun hB => ?_)
    refine y_getm ok hB (by decide +kernel) hn.1 (fun hB => ?_)
    obtain ⟨q5, e6, h⟩ := z_bind h
    refine y_cv ok hB (as := []) (a := n) (rest := []) rfl rfl rfl hn.2 (t_L_sumsThatDiffer (I := I) ok hn.2 e6) (fun hB => ?_)
    cases h
    exact z_reti hB
def d_F_why (n : Nat) (x1 : Int32) (I : z_H) : Option (Nat ⊕ Int32) := ((d_F_needFlag n (x1) I).bind fun q1 => (match q1 with | .inl v3 => some (Sum.inl v3) | .inr v4 => (if z_in (x1) 12 then ((d_G_firstReason ((n + 7) + 2 + z_n (x1)) I).bind fun q6 => some (Sum.inr (q6))) else none)))
/-- FlagLaundry.why(I)I -/
theorem t_F_why {G : z_G} {w : ev_W} (ok : z_Ok G w) {n : Nat} {x1 : Int32} (hn : z_fc w n) {I : z_H} {r : Nat ⊕ Int32} (h : d_F_why n x1 I = some r) : z_K G 146 [.ref (0), .int (x1)] (z_w w I) (z_o z_vi r) (z_ow (z_w w I) r) := by
  refine z_con ok.1 (ml := 2) (by decide +kernel) rfl rfl ?_
  show z_R G 146 0 [some (.ref (0)), some (.int (x1))] [] (z_w w I) (z_o z_vi r) (z_ow (z_w w I) r)
  unfold d_F_why at h
  have hB : z_all [z_is 146 0 (zf_aload 0 0 1), z_is 146 1 (zf_iload 1 1 2), z_is 146 2 (zf_cv 2 193 1 7 5), z_is 146 5 (zf_aload 5 0 6), z_is 146 6 (zf_getr 6 7 5 9), z_is 146 9 (zf_getr 9 2 1 12), z_is 146 12 (zf_getr 12 5 7 15), z_is 146 15 (zf_iload 15 1 16), z_is 146 16 (zf_aald 16 17), z_is 146 17 (zf_cv 17 5 0 0 20), z_is 146 20 (zf_ret 0)] = true := by decide +kernel
  refine z_aload hB rfl (fun hB => ?_)
  refine z_iload hB rfl (fun hB => ?_)
  obtain ⟨q1, e2, h⟩ := z_bind h
  cases q1 with
  | inl v3 =>
    have hc9 := t_F_needFlag (I := I) ok hn e2
    cases h
    exact y_cvx ok hB (as := [.int (x1)]) (a := 0) (rest := []) rfl (by decide +kernel) rfl rfl (by decide +kernel) hc9
  | inr v4 =>
    have hc9 := t_F_needFlag (I := I) ok hn e2
    refine y_cv ok hB (as := [.int (x1)]) (a := 0) (rest := []) rfl rfl rfl (by decide +kernel) hc9 (fun hB => ?_)
    refine z_aload hB rfl (fun hB => ?_)
    refine y_getm ok hB (by decide +kernel) hn.1 (fun hB => ?_)
    refine y_getr (b := (n + 7)) ok hB hn.2 (zla_r1 hn.2) (fun hB => ?_)
    refine y_getr (b := ((n + 7) + 1)) ok hB (zla_k1 hn.2) (zst_r7 (zla_k1 hn.2)) (fun hB => ?_)
    refine z_iload hB rfl (fun hB => ?_)
    obtain ⟨g5, h⟩ := z_gd h
    refine y_fald ok hB (zst_k1 (zla_k1 hn.2)) (zst_l1 (zla_k1 hn.2)) g5 (zst_fR (zla_k1 hn.2) g5) (fun hB => ?_)
    obtain ⟨q6, e7, h⟩ := z_bind h
    refine y_cv ok hB (as := []) (a := ((n + 7) + 2 + z_n (x1))) (rest := []) rfl rfl rfl (zst_fK (zla_k1 hn.2) g5) (t_G_firstReason (I := I) ok (zst_fK (zla_k1 hn.2) g5) e7) (fun hB => ?_)
    cases h
    exact z_reti hB
def d_F_reasons (n : Nat) (x1 : Int32) (I : z_H) : Option (Nat ⊕ Int32) := ((d_F_needFlag n (x1) I).bind fun q1 => (match q1 with | .inl v3 => some (Sum.inl v3) | .inr v4 => (if z_in (x1) 12 then ((d_G_allReasons ((n + 7) + 2 + z_n (x1)) I).bind fun q6 => some (Sum.inr (q6))) else none)))
/-- FlagLaundry.reasons(I)I -/
theorem t_F_reasons {G : z_G} {w : ev_W} (ok : z_Ok G w) {n : Nat} {x1 : Int32} (hn : z_fc w n) {I : z_H} {r : Nat ⊕ Int32} (h : d_F_reasons n x1 I = some r) : z_K G 147 [.ref (0), .int (x1)] (z_w w I) (z_o z_vi r) (z_ow (z_w w I) r) := by
  refine z_con ok.1 (ml := 2) (by decide +kernel) rfl rfl ?_
  show z_R G 147 0 [some (.ref (0)), some (.int (x1))] [] (z_w w I) (z_o z_vi r) (z_ow (z_w w I) r)
  unfold d_F_reasons at h
  have hB : z_all [z_is 147 0 (zf_aload 0 0 1), z_is 147 1 (zf_iload 1 1 2), z_is 147 2 (zf_cv 2 193 1 7 5), z_is 147 5 (zf_aload 5 0 6), z_is 147 6 (zf_getr 6 7 5 9), z_is 147 9 (zf_getr 9 2 1 12), z_is 147 12 (zf_getr 12 5 7 15), z_is 147 15 (zf_iload 15 1 16), z_is 147 16 (zf_aald 16 17), z_is 147 17 (zf_cv 17 4 0 0 20), z_is 147 20 (zf_ret 0)] = true := by decide +kernel
  refine z_aload hB rfl (fun hB => ?_)
  refine z_iload hB rfl (fun hB => ?_)
  obtain ⟨q1, e2, h⟩ := z_bind h
  cases q1 with
  | inl v3 =>
    have hc9 := t_F_needFlag (I := I) ok hn e2
    cases h
    exact y_cvx ok hB (as := [.int (x1)]) (a := 0) (rest := []) rfl (by decide +kernel) rfl rfl (by decide +kernel) hc9
  | inr v4 =>
    have hc9 := t_F_needFlag (I := I) ok hn e2
    refine y_cv ok hB (as := [.int (x1)]) (a := 0) (rest := []) rfl rfl rfl (by decide +kernel) hc9 (fun hB => ?_)
    refine z_aload hB rfl (fun hB => ?_)
    refine y_getm ok hB (by decide +kernel) hn.1 (fun hB => ?_)
    refine y_getr (b := (n + 7)) ok hB hn.2 (zla_r1 hn.2) (fun hB => ?_)
    refine y_getr (b := ((n + 7) + 1)) ok hB (zla_k1 hn.2) (zst_r7 (zla_k1 hn.2)) (fun hB => ?_)
    refine z_iload hB rfl (fun hB => ?_)
    obtain ⟨g5, h⟩ := z_gd h
    refine y_fald ok hB (zst_k1 (zla_k1 hn.2)) (zst_l1 (zla_k1 hn.2)) g5 (zst_fR (zla_k1 hn.2) g5) (fun hB => ?_)
    obtain ⟨q6, e7, h⟩ := z_bind h
    refine y_cv ok hB (as := []) (a := ((n + 7) + 2 + z_n (x1))) (rest := []) rfl rfl rfl (zst_fK (zla_k1 hn.2) g5) (t_G_allReasons (I := I) ok (zst_fK (zla_k1 hn.2) g5) e7) (fun hB => ?_)
    cases h
    exact z_reti hB
def d_F_culprit (n : Nat) (x1 : Int32) (I : z_H) : Option (Nat ⊕ Int32) := ((d_F_needNation n (x1) I).bind fun q1 => (match q1 with | .inl v3 => some (Sum.inl v3) | .inr v4 => ((d_S_firstNotReady (n + 7) (x1) I).bind fun q5 => some (Sum.inr (q5)))))
/-- FlagLaundry.culprit(I)I -/
theorem t_F_culprit {G : z_G} {w : ev_W} (ok : z_Ok G w) {n : Nat} {x1 : Int32} (hn : z_fc w n) {I : z_H} {r : Nat ⊕ Int32} (h : d_F_culprit n x1 I = some r) : z_K G 148 [.ref (0), .int (x1)] (z_w w I) (z_o z_vi r) (z_ow (z_w w I) r) := by
  refine z_con ok.1 (ml := 2) (by decide +kernel) rfl rfl ?_
  show z_R G 148 0 [some (.ref (0)), some (.int (x1))] [] (z_w w I) (z_o z_vi r) (z_ow (z_w w I) r)
  unfold d_F_culprit at h
  have hB : z_all [z_is 148 0 (zf_aload 0 0 1), z_is 148 1 (zf_iload 1 1 2), z_is 148 2 (zf_cv 2 195 1 7 5), z_is 148 5 (zf_aload 5 0 6), z_is 148 6 (zf_getr 6 7 5 9), z_is 148 9 (zf_getr 9 2 1 12), z_is 148 12 (zf_iload 12 1 13), z_is 148 13 (zf_cv 13 104 1 5 16), z_is 148 16 (zf_ret 0)] = true := by decide +kernel
  refine z_aload hB rfl (fun hB => ?_)
  refine z_iload hB rfl (fun hB => ?_)
  obtain ⟨q1, e2, h⟩ := z_bind h
  cases q1 with
  | inl v3 =>
    have hc9 := t_F_needNation (I := I) ok hn e2
    cases h
    exact y_cvx ok hB (as := [.int (x1)]) (a := 0) (rest := []) rfl (by decide +kernel) rfl rfl (by decide +kernel) hc9
  | inr v4 =>
    have hc9 := t_F_needNation (I := I) ok hn e2
    refine y_cv ok hB (as := [.int (x1)]) (a := 0) (rest := []) rfl rfl rfl (by decide +kernel) hc9 (fun hB => ?_)
    refine z_aload hB rfl (fun hB => ?_)
    refine y_getm ok hB (by decide +kernel) hn.1 (fun hB => ?_)
    refine y_getr (b := (n + 7)) ok hB hn.2 (zla_r1 hn.2) (fun hB => ?_)
    refine z_iload hB rfl (fun hB => ?_)
    obtain ⟨q5, e6, h⟩ := z_bind h
    refine y_cv ok hB (as := [.int (x1)]) (a := (n + 7)) (rest := []) rfl rfl rfl (zla_k1 hn.2) (t_S_firstNotReady (I := I) ok (zla_k1 hn.2) e6) (fun hB => ?_)
    cases h
    exact z_reti hB
def d_F_whyNotPut (n : Nat) (x1 : Int32) (x2 : Int32) (I : z_H) : Option (Nat ⊕ Int32) := ((d_F_needFlag n (x1) I).bind fun q1 => (match q1 with | .inl v3 => some (Sum.inl v3) | .inr v4 => ((d_F_needTub n (x2) I).bind fun q5 => (match q5 with | .inl v7 => some (Sum.inl v7) | .inr v8 => ((d_L_reasonAgainstPut n (x1) (x2) I).bind fun q9 => some (Sum.inr (q9)))))))
/-- FlagLaundry.whyNotPut(II)I -/
theorem t_F_whyNotPut {G : z_G} {w : ev_W} (ok : z_Ok G w) {n : Nat} {x1 : Int32} {x2 : Int32} (hn : z_fc w n) {I : z_H} {r : Nat ⊕ Int32} (h : d_F_whyNotPut n x1 x2 I = some r) : z_K G 149 [.ref (0), .int (x1), .int (x2)] (z_w w I) (z_o z_vi r) (z_ow (z_w w I) r) := by
  refine z_con ok.1 (ml := 3) (by decide +kernel) rfl rfl ?_
  show z_R G 149 0 [some (.ref (0)), some (.int (x1)), some (.int (x2))] [] (z_w w I) (z_o z_vi r) (z_ow (z_w w I) r)
  unfold d_F_whyNotPut at h
  have hB : z_all [z_is 149 0 (zf_aload 0 0 1), z_is 149 1 (zf_iload 1 1 2), z_is 149 2 (zf_cv 2 193 1 7 5), z_is 149 5 (zf_aload 5 0 6), z_is 149 6 (zf_iload 6 2 7), z_is 149 7 (zf_cv 7 194 1 7 10), z_is 149 10 (zf_aload 10 0 11), z_is 149 11 (zf_getr 11 7 5 14), z_is 149 14 (zf_iload 14 1 15), z_is 149 15 (zf_iload 15 2 16), z_is 149 16 (zf_cv 16 37 2 2 19), z_is 149 19 (zf_ret 0)] = true := by decide +kernel
  refine z_aload hB rfl (fun hB => ?_)
  refine z_iload hB rfl (fun hB => ?_)
  obtain ⟨q1, e2, h⟩ := z_bind h
  cases q1 with
  | inl v3 =>
    have hc9 := t_F_needFlag (I := I) ok hn e2
    cases h
    exact y_cvx ok hB (as := [.int (x1)]) (a := 0) (rest := []) rfl (by decide +kernel) rfl rfl (by decide +kernel) hc9
  | inr v4 =>
    have hc9 := t_F_needFlag (I := I) ok hn e2
    refine y_cv ok hB (as := [.int (x1)]) (a := 0) (rest := []) rfl rfl rfl (by decide +kernel) hc9 (fun hB => ?_)
    refine z_aload hB rfl (fun hB => ?_)
    refine z_iload hB rfl (fun hB => ?_)
    obtain ⟨q5, e6, h⟩ := z_bind h
    cases q5 with
    | inl v7 =>
      have hc9 := t_F_needTub (I := I) ok hn e6
      cases h
      exact y_cvx ok hB (as := [.int (x2)]) (a := 0) (rest := []) rfl (by decide +kernel) rfl rfl (by decide +kernel) hc9
    | inr v8 =>
      have hc9 := t_F_needTub (I := I) ok hn e6
      refine y_cv ok hB (as := [.int (x2)]) (a := 0) (rest := []) rfl rfl rfl (by decide +kernel) hc9 (fun hB => ?_)
      refine z_aload hB rfl (fun hB => ?_)
      refine y_getm ok hB (by decide +kernel) hn.1 (fun hB => ?_)
      refine z_iload hB rfl (fun hB => ?_)
      refine z_iload hB rfl (fun hB => ?_)
      obtain ⟨q9, e10, h⟩ := z_bind h
      refine y_cv ok hB (as := [.int (x1), .int (x2)]) (a := n) (rest := []) rfl rfl rfl hn.2 (t_L_reasonAgainstPut (I := I) ok hn.2 e10) (fun hB => ?_)
      cases h
      exact z_reti hB
def d_F_needHeat (x1 : Int32) : Option (Nat ⊕ Unit) := ((d_F_needRange (x1) ((jn 0)) ((jn 3))).bind fun q1 => (match q1 with | .inl v3 => some (Sum.inl v3) | .inr v4 => some (Sum.inr (()))))
/-- FlagLaundry.needHeat(I)V -/
theorem t_F_needHeat {G : z_G} {w : ev_W} (ok : z_Ok G w) {x1 : Int32} {I : z_H} {r : Nat ⊕ Unit} (h : d_F_needHeat x1 = some r) : z_K G 197 [.int (x1)] (z_w w I) (z_o z_vv r) (z_ow (z_w w I) r) := by
  refine z_con ok.1 (ml := 1) (by decide +kernel) rfl rfl ?_
  show z_R G 197 0 [some (.int (x1))] [] (z_w w I) (z_o z_vv r) (z_ow (z_w w I) r)
  unfold d_F_needHeat at h
  have hB : z_all [z_is 197 0 (zf_iload 0 0 1), z_is 197 1 (zf_cst 1 (jn 0) 2), z_is 197 2 (zf_cst 2 (jn 3) 3), z_is 197 3 (zf_cs 3 198 3 6), z_is 197 6 (zf_ret 6)] = true := by decide +kernel
  refine z_iload hB rfl (fun hB => ?_)
  refine z_cst hB (fun hB => ?_)
  refine z_cst hB (fun hB => ?_)
  obtain ⟨q1, e2, h⟩ := z_bind h
  cases q1 with
  | inl v3 =>
    have hc9 := t_F_needRange (I := I) ok e2
    cases h
    exact z_callSx hB (as := [.int (x1), .int ((jn 0)), .int ((jn 3))]) (rest := []) rfl (by decide +kernel) rfl rfl hc9
  | inr v4 =>
    have hc9 := t_F_needRange (I := I) ok e2
    refine z_callS hB (as := [.int (x1), .int ((jn 0)), .int ((jn 3))]) (rest := []) rfl rfl rfl hc9 (fun hB => ?_)
    cases h
    exact z_retv hB
def d_F_whyNotWash (n : Nat) (x1 : Int32) (x2 : Int32) (I : z_H) : Option (Nat ⊕ Int32) := ((d_F_needTub n (x1) I).bind fun q1 => (match q1 with | .inl v3 => some (Sum.inl v3) | .inr v4 => ((d_F_needHeat (x2)).bind fun q5 => (match q5 with | .inl v7 => some (Sum.inl v7) | .inr v8 => ((d_L_reasonAgainstWash n (x1) (x2) I).bind fun q9 => some (Sum.inr (q9)))))))
/-- FlagLaundry.whyNotWash(II)I -/
theorem t_F_whyNotWash {G : z_G} {w : ev_W} (ok : z_Ok G w) {n : Nat} {x1 : Int32} {x2 : Int32} (hn : z_fc w n) {I : z_H} {r : Nat ⊕ Int32} (h : d_F_whyNotWash n x1 x2 I = some r) : z_K G 150 [.ref (0), .int (x1), .int (x2)] (z_w w I) (z_o z_vi r) (z_ow (z_w w I) r) := by
  refine z_con ok.1 (ml := 3) (by decide +kernel) rfl rfl ?_
  show z_R G 150 0 [some (.ref (0)), some (.int (x1)), some (.int (x2))] [] (z_w w I) (z_o z_vi r) (z_ow (z_w w I) r)
  unfold d_F_whyNotWash at h
  have hB : z_all [z_is 150 0 (zf_aload 0 0 1), z_is 150 1 (zf_iload 1 1 2), z_is 150 2 (zf_cv 2 194 1 7 5), z_is 150 5 (zf_iload 5 2 6), z_is 150 6 (zf_cs 6 197 1 9), z_is 150 9 (zf_aload 9 0 10), z_is 150 10 (zf_getr 10 7 5 13), z_is 150 13 (zf_iload 13 1 14), z_is 150 14 (zf_iload 14 2 15), z_is 150 15 (zf_cv 15 38 2 2 18), z_is 150 18 (zf_ret 0)] = true := by decide +kernel
  refine z_aload hB rfl (fun hB => ?_)
  refine z_iload hB rfl (fun hB => ?_)
  obtain ⟨q1, e2, h⟩ := z_bind h
  cases q1 with
  | inl v3 =>
    have hc9 := t_F_needTub (I := I) ok hn e2
    cases h
    exact y_cvx ok hB (as := [.int (x1)]) (a := 0) (rest := []) rfl (by decide +kernel) rfl rfl (by decide +kernel) hc9
  | inr v4 =>
    have hc9 := t_F_needTub (I := I) ok hn e2
    refine y_cv ok hB (as := [.int (x1)]) (a := 0) (rest := []) rfl rfl rfl (by decide +kernel) hc9 (fun hB => ?_)
    refine z_iload hB rfl (fun hB => ?_)
    obtain ⟨q5, e6, h⟩ := z_bind h
    cases q5 with
    | inl v7 =>
      have hc9 := t_F_needHeat (I := I) ok e6
      cases h
      exact z_callSx hB (as := [.int (x2)]) (rest := []) rfl (by decide +kernel) rfl rfl hc9
    | inr v8 =>
      have hc9 := t_F_needHeat (I := I) ok e6
      refine z_callS hB (as := [.int (x2)]) (rest := []) rfl rfl rfl hc9 (fun hB => ?_)
      refine z_aload hB rfl (fun hB => ?_)
      refine y_getm ok hB (by decide +kernel) hn.1 (fun hB => ?_)
      refine z_iload hB rfl (fun hB => ?_)
      refine z_iload hB rfl (fun hB => ?_)
      obtain ⟨q9, e10, h⟩ := z_bind h
      refine y_cv ok hB (as := [.int (x1), .int (x2)]) (a := n) (rest := []) rfl rfl rfl hn.2 (t_L_reasonAgainstWash (I := I) ok hn.2 e10) (fun hB => ?_)
      cases h
      exact z_reti hB
def d_F_whyNotIron (n : Nat) (x1 : Int32) (x2 : Int32) (I : z_H) : Option (Nat ⊕ Int32) := ((d_F_needFlag n (x1) I).bind fun q1 => (match q1 with | .inl v3 => some (Sum.inl v3) | .inr v4 => ((d_F_needHeat (x2)).bind fun q5 => (match q5 with | .inl v7 => some (Sum.inl v7) | .inr v8 => (if z_in (x1) 12 then ((d_G_reasonAgainstIron ((n + 7) + 2 + z_n (x1)) (x2) I).bind fun q10 => some (Sum.inr (q10))) else none)))))
/-- FlagLaundry.whyNotIron(II)I -/
theorem t_F_whyNotIron {G : z_G} {w : ev_W} (ok : z_Ok G w) {n : Nat} {x1 : Int32} {x2 : Int32} (hn : z_fc w n) {I : z_H} {r : Nat ⊕ Int32} (h : d_F_whyNotIron n x1 x2 I = some r) : z_K G 151 [.ref (0), .int (x1), .int (x2)] (z_w w I) (z_o z_vi r) (z_ow (z_w w I) r) := by
  refine z_con ok.1 (ml := 3) (by decide +kernel) rfl rfl ?_
  show z_R G 151 0 [some (.ref (0)), some (.int (x1)), some (.int (x2))] [] (z_w w I) (z_o z_vi r) (z_ow (z_w w I) r)
  unfold d_F_whyNotIron at h
  have hB : z_all [z_is 151 0 (zf_aload 0 0 1), z_is 151 1 (zf_iload 1 1 2), z_is 151 2 (zf_cv 2 193 1 7 5), z_is 151 5 (zf_iload 5 2 6), z_is 151 6 (zf_cs 6 197 1 9), z_is 151 9 (zf_aload 9 0 10), z_is 151 10 (zf_getr 10 7 5 13), z_is 151 13 (zf_getr 13 2 1 16), z_is 151 16 (zf_getr 16 5 7 19), z_is 151 19 (zf_iload 19 1 20), z_is 151 20 (zf_aald 20 21), z_is 151 21 (zf_iload 21 2 22), z_is 151 22 (zf_cv 22 8 1 0 25), z_is 151 25 (zf_ret 0)] = true := by decide +kernel
  refine z_aload hB rfl (fun hB => ?_)
  refine z_iload hB rfl (fun hB => ?_)
  obtain ⟨q1, e2, h⟩ := z_bind h
  cases q1 with
  | inl v3 =>
    have hc9 := t_F_needFlag (I := I) ok hn e2
    cases h
    exact y_cvx ok hB (as := [.int (x1)]) (a := 0) (rest := []) rfl (by decide +kernel) rfl rfl (by decide +kernel) hc9
  | inr v4 =>
    have hc9 := t_F_needFlag (I := I) ok hn e2
    refine y_cv ok hB (as := [.int (x1)]) (a := 0) (rest := []) rfl rfl rfl (by decide +kernel) hc9 (fun hB => ?_)
    refine z_iload hB rfl (fun hB => ?_)
    obtain ⟨q5, e6, h⟩ := z_bind h
    cases q5 with
    | inl v7 =>
      have hc9 := t_F_needHeat (I := I) ok e6
      cases h
      exact z_callSx hB (as := [.int (x2)]) (rest := []) rfl (by decide +kernel) rfl rfl hc9
    | inr v8 =>
      have hc9 := t_F_needHeat (I := I) ok e6
      refine z_callS hB (as := [.int (x2)]) (rest := []) rfl rfl rfl hc9 (fun hB => ?_)
      refine z_aload hB rfl (fun hB => ?_)
      refine y_getm ok hB (by decide +kernel) hn.1 (fun hB => ?_)
      refine y_getr (b := (n + 7)) ok hB hn.2 (zla_r1 hn.2) (fun hB => ?_)
      refine y_getr (b := ((n + 7) + 1)) ok hB (zla_k1 hn.2) (zst_r7 (zla_k1 hn.2)) (fun hB => ?_)
      refine z_iload hB rfl (fun hB => ?_)
      obtain ⟨g9, h⟩ := z_gd h
      refine y_fald ok hB (zst_k1 (zla_k1 hn.2)) (zst_l1 (zla_k1 hn.2)) g9 (zst_fR (zla_k1 hn.2) g9) (fun hB => ?_)
      refine z_iload hB rfl (fun hB => ?_)
      obtain ⟨q10, e11, h⟩ := z_bind h
      refine y_cv ok hB (as := [.int (x2)]) (a := ((n + 7) + 2 + z_n (x1))) (rest := []) rfl rfl rfl (zst_fK (zla_k1 hn.2) g9) (t_G_reasonAgainstIron (I := I) ok (zst_fK (zla_k1 hn.2) g9) e11) (fun hB => ?_)
      cases h
      exact z_reti hB
def d_F_whyNotBleach (n : Nat) (x1 : Int32) (I : z_H) : Option (Nat ⊕ Int32) := ((d_F_needFlag n (x1) I).bind fun q1 => (match q1 with | .inl v3 => some (Sum.inl v3) | .inr v4 => (if z_in (x1) 12 then ((d_G_reasonAgainstBleach ((n + 7) + 2 + z_n (x1)) I).bind fun q6 => some (Sum.inr (q6))) else none)))
/-- FlagLaundry.whyNotBleach(I)I -/
theorem t_F_whyNotBleach {G : z_G} {w : ev_W} (ok : z_Ok G w) {n : Nat} {x1 : Int32} (hn : z_fc w n) {I : z_H} {r : Nat ⊕ Int32} (h : d_F_whyNotBleach n x1 I = some r) : z_K G 152 [.ref (0), .int (x1)] (z_w w I) (z_o z_vi r) (z_ow (z_w w I) r) := by
  refine z_con ok.1 (ml := 2) (by decide +kernel) rfl rfl ?_
  show z_R G 152 0 [some (.ref (0)), some (.int (x1))] [] (z_w w I) (z_o z_vi r) (z_ow (z_w w I) r)
  unfold d_F_whyNotBleach at h
  have hB : z_all [z_is 152 0 (zf_aload 0 0 1), z_is 152 1 (zf_iload 1 1 2), z_is 152 2 (zf_cv 2 193 1 7 5), z_is 152 5 (zf_aload 5 0 6), z_is 152 6 (zf_getr 6 7 5 9), z_is 152 9 (zf_getr 9 2 1 12), z_is 152 12 (zf_getr 12 5 7 15), z_is 152 15 (zf_iload 15 1 16), z_is 152 16 (zf_aald 16 17), z_is 152 17 (zf_cv 17 9 0 0 20), z_is 152 20 (zf_ret 0)] = true := by decide +kernel
  refine z_aload hB rfl (fun hB => ?_)
  refine z_iload hB rfl (fun hB => ?_)
  obtain ⟨q1, e2, h⟩ := z_bind h
  cases q1 with
  | inl v3 =>
    have hc9 := t_F_needFlag (I := I) ok hn e2
    cases h
    exact y_cvx ok hB (as := [.int (x1)]) (a := 0) (rest := []) rfl (by decide +kernel) rfl rfl (by decide +kernel) hc9
  | inr v4 =>
    have hc9 := t_F_needFlag (I := I) ok hn e2
    refine y_cv ok hB (as := [.int (x1)]) (a := 0) (rest := []) rfl rfl rfl (by decide +kernel) hc9 (fun hB => ?_)
    refine z_aload hB rfl (fun hB => ?_)
    refine y_getm ok hB (by decide +kernel) hn.1 (fun hB => ?_)
    refine y_getr (b := (n + 7)) ok hB hn.2 (zla_r1 hn.2) (fun hB => ?_)
    refine y_getr (b := ((n + 7) + 1)) ok hB (zla_k1 hn.2) (zst_r7 (zla_k1 hn.2)) (fun hB => ?_)
    refine z_iload hB rfl (fun hB => ?_)
    obtain ⟨g5, h⟩ := z_gd h
    refine y_fald ok hB (zst_k1 (zla_k1 hn.2)) (zst_l1 (zla_k1 hn.2)) g5 (zst_fR (zla_k1 hn.2) g5) (fun hB => ?_)
    obtain ⟨q6, e7, h⟩ := z_bind h
    refine y_cv ok hB (as := []) (a := ((n + 7) + 2 + z_n (x1))) (rest := []) rfl rfl rfl (zst_fK (zla_k1 hn.2) g5) (t_G_reasonAgainstBleach (I := I) ok (zst_fK (zla_k1 hn.2) g5) e7) (fun hB => ?_)
    cases h
    exact z_reti hB
def d_F_running (n : Nat) (x1 : Int32) (x2 : Int32) (I : z_H) : Option (Nat ⊕ Int32) := ((d_F_needTub n (x1) I).bind fun q1 => (match q1 with | .inl v3 => some (Sum.inl v3) | .inr v4 => ((d_F_needHeat (x2)).bind fun q5 => (match q5 with | .inl v7 => some (Sum.inl v7) | .inr v8 => ((d_L_runningIn n (x1) (x2) I).bind fun q9 => some (Sum.inr (q9)))))))
/-- FlagLaundry.running(II)I -/
theorem t_F_running {G : z_G} {w : ev_W} (ok : z_Ok G w) {n : Nat} {x1 : Int32} {x2 : Int32} (hn : z_fc w n) {I : z_H} {r : Nat ⊕ Int32} (h : d_F_running n x1 x2 I = some r) : z_K G 153 [.ref (0), .int (x1), .int (x2)] (z_w w I) (z_o z_vi r) (z_ow (z_w w I) r) := by
  refine z_con ok.1 (ml := 3) (by decide +kernel) rfl rfl ?_
  show z_R G 153 0 [some (.ref (0)), some (.int (x1)), some (.int (x2))] [] (z_w w I) (z_o z_vi r) (z_ow (z_w w I) r)
  unfold d_F_running at h
  have hB : z_all [z_is 153 0 (zf_aload 0 0 1), z_is 153 1 (zf_iload 1 1 2), z_is 153 2 (zf_cv 2 194 1 7 5), z_is 153 5 (zf_iload 5 2 6), z_is 153 6 (zf_cs 6 197 1 9), z_is 153 9 (zf_aload 9 0 10), z_is 153 10 (zf_getr 10 7 5 13), z_is 153 13 (zf_iload 13 1 14), z_is 153 14 (zf_iload 14 2 15), z_is 153 15 (zf_cv 15 34 2 2 18), z_is 153 18 (zf_ret 0)] = true := by decide +kernel
  refine z_aload hB rfl (fun hB => ?_)
  refine z_iload hB rfl (fun hB => ?_)
  obtain ⟨q1, e2, h⟩ := z_bind h
  cases q1 with
  | inl v3 =>
    have hc9 := t_F_needTub (I := I) ok hn e2
    cases h
    exact y_cvx ok hB (as := [.int (x1)]) (a := 0) (rest := []) rfl (by decide +kernel) rfl rfl (by decide +kernel) hc9
  | inr v4 =>
    have hc9 := t_F_needTub (I := I) ok hn e2
    refine y_cv ok hB (as := [.int (x1)]) (a := 0) (rest := []) rfl rfl rfl (by decide +kernel) hc9 (fun hB => ?_)
    refine z_iload hB rfl (fun hB => ?_)
    obtain ⟨q5, e6, h⟩ := z_bind h
    cases q5 with
    | inl v7 =>
      have hc9 := t_F_needHeat (I := I) ok e6
      cases h
      exact z_callSx hB (as := [.int (x2)]) (rest := []) rfl (by decide +kernel) rfl rfl hc9
    | inr v8 =>
      have hc9 := t_F_needHeat (I := I) ok e6
      refine z_callS hB (as := [.int (x2)]) (rest := []) rfl rfl rfl hc9 (fun hB => ?_)
      refine z_aload hB rfl (fun hB => ?_)
      refine y_getm ok hB (by decide +kernel) hn.1 (fun hB => ?_)
      refine z_iload hB rfl (fun hB => ?_)
      refine z_iload hB rfl (fun hB => ?_)
      obtain ⟨q9, e10, h⟩ := z_bind h
      refine y_cv ok hB (as := [.int (x1), .int (x2)]) (a := n) (rest := []) rfl rfl rfl hn.2 (t_L_runningIn (I := I) ok hn.2 e10) (fun hB => ?_)
      cases h
      exact z_reti hB
def d_F_stainedIf (n : Nat) (x1 : Int32) (x2 : Int32) (I : z_H) : Option (Nat ⊕ Int32) := ((d_F_needTub n (x1) I).bind fun q1 => (match q1 with | .inl v3 => some (Sum.inl v3) | .inr v4 => ((d_F_needHeat (x2)).bind fun q5 => (match q5 with | .inl v7 => some (Sum.inl v7) | .inr v8 => ((d_L_runningIn n (x1) (x2) I).bind fun q9 => ((d_L_stainedBy n (x1) (q9) I).bind fun q11 => some (Sum.inr (q11))))))))
/-- FlagLaundry.stainedIf(II)I -/
theorem t_F_stainedIf {G : z_G} {w : ev_W} (ok : z_Ok G w) {n : Nat} {x1 : Int32} {x2 : Int32} (hn : z_fc w n) {I : z_H} {r : Nat ⊕ Int32} (h : d_F_stainedIf n x1 x2 I = some r) : z_K G 154 [.ref (0), .int (x1), .int (x2)] (z_w w I) (z_o z_vi r) (z_ow (z_w w I) r) := by
  refine z_con ok.1 (ml := 3) (by decide +kernel) rfl rfl ?_
  show z_R G 154 0 [some (.ref (0)), some (.int (x1)), some (.int (x2))] [] (z_w w I) (z_o z_vi r) (z_ow (z_w w I) r)
  unfold d_F_stainedIf at h
  have hB : z_all [z_is 154 0 (zf_aload 0 0 1), z_is 154 1 (zf_iload 1 1 2), z_is 154 2 (zf_cv 2 194 1 7 5), z_is 154 5 (zf_iload 5 2 6), z_is 154 6 (zf_cs 6 197 1 9), z_is 154 9 (zf_aload 9 0 10), z_is 154 10 (zf_getr 10 7 5 13), z_is 154 13 (zf_iload 13 1 14), z_is 154 14 (zf_aload 14 0 15), z_is 154 15 (zf_getr 15 7 5 18), z_is 154 18 (zf_iload 18 1 19), z_is 154 19 (zf_iload 19 2 20), z_is 154 20 (zf_cv 20 34 2 2 23), z_is 154 23 (zf_cv 23 35 2 2 26), z_is 154 26 (zf_ret 0)] = true := by decide +kernel
  refine z_aload hB rfl (fun hB => ?_)
  refine z_iload hB rfl (fun hB => ?_)
  obtain ⟨q1, e2, h⟩ := z_bind h
  cases q1 with
  | inl v3 =>
    have hc9 := t_F_needTub (I := I) ok hn e2
    cases h
    exact y_cvx ok hB (as := [.int (x1)]) (a := 0) (rest := []) rfl (by decide +kernel) rfl rfl (by decide +kernel) hc9
  | inr v4 =>
    have hc9 := t_F_needTub (I := I) ok hn e2
    refine y_cv ok hB (as := [.int (x1)]) (a := 0) (rest := []) rfl rfl rfl (by decide +kernel) hc9 (fun hB => ?_)
    refine z_iload hB rfl (fun hB => ?_)
    obtain ⟨q5, e6, h⟩ := z_bind h
    cases q5 with
    | inl v7 =>
      have hc9 := t_F_needHeat (I := I) ok e6
      cases h
      exact z_callSx hB (as := [.int (x2)]) (rest := []) rfl (by decide +kernel) rfl rfl hc9
    | inr v8 =>
      have hc9 := t_F_needHeat (I := I) ok e6
      refine z_callS hB (as := [.int (x2)]) (rest := []) rfl rfl rfl hc9 (fun hB => ?_)
      refine z_aload hB rfl (fun hB => ?_)
      refine y_getm ok hB (by decide +kernel) hn.1 (fun hB => ?_)
      refine z_iload hB rfl (fun hB => ?_)
      refine z_aload hB rfl (fun hB => ?_)
      refine y_getm ok hB (by decide +kernel) hn.1 (fun hB => ?_)
      refine z_iload hB rfl (fun hB => ?_)
      refine z_iload hB rfl (fun hB => ?_)
      obtain ⟨q9, e10, h⟩ := z_bind h
      refine y_cv ok hB (as := [.int (x1), .int (x2)]) (a := n) (rest := [.int (x1), .ref (n)]) rfl rfl rfl hn.2 (t_L_runningIn (I := I) ok hn.2 e10) (fun hB => ?_)
      obtain ⟨q11, e12, h⟩ := z_bind h
      refine y_cv ok hB (as := [.int (x1), .int (q9)]) (a := n) (rest := []) rfl rfl rfl hn.2 (t_L_stainedBy (I := I) ok hn.2 e12) (fun hB => ?_)
      cases h
      exact z_reti hB
def d_F_dirtIf (n : Nat) (x1 : Int32) (x2 : Int32) (I : z_H) : Option (Nat ⊕ Int32) := ((d_F_needTub n (x1) I).bind fun q1 => (match q1 with | .inl v3 => some (Sum.inl v3) | .inr v4 => ((d_F_needHeat (x2)).bind fun q5 => (match q5 with | .inl v7 => some (Sum.inl v7) | .inr v8 => ((d_L_dirtLeftIn n (x1) (x2) I).bind fun q9 => some (Sum.inr (q9)))))))
/-- FlagLaundry.dirtIf(II)I -/
theorem t_F_dirtIf {G : z_G} {w : ev_W} (ok : z_Ok G w) {n : Nat} {x1 : Int32} {x2 : Int32} (hn : z_fc w n) {I : z_H} {r : Nat ⊕ Int32} (h : d_F_dirtIf n x1 x2 I = some r) : z_K G 155 [.ref (0), .int (x1), .int (x2)] (z_w w I) (z_o z_vi r) (z_ow (z_w w I) r) := by
  refine z_con ok.1 (ml := 3) (by decide +kernel) rfl rfl ?_
  show z_R G 155 0 [some (.ref (0)), some (.int (x1)), some (.int (x2))] [] (z_w w I) (z_o z_vi r) (z_ow (z_w w I) r)
  unfold d_F_dirtIf at h
  have hB : z_all [z_is 155 0 (zf_aload 0 0 1), z_is 155 1 (zf_iload 1 1 2), z_is 155 2 (zf_cv 2 194 1 7 5), z_is 155 5 (zf_iload 5 2 6), z_is 155 6 (zf_cs 6 197 1 9), z_is 155 9 (zf_aload 9 0 10), z_is 155 10 (zf_getr 10 7 5 13), z_is 155 13 (zf_iload 13 1 14), z_is 155 14 (zf_iload 14 2 15), z_is 155 15 (zf_cv 15 36 2 2 18), z_is 155 18 (zf_ret 0)] = true := by decide +kernel
  refine z_aload hB rfl (fun hB => ?_)
  refine z_iload hB rfl (fun hB => ?_)
  obtain ⟨q1, e2, h⟩ := z_bind h
  cases q1 with
  | inl v3 =>
    have hc9 := t_F_needTub (I := I) ok hn e2
    cases h
    exact y_cvx ok hB (as := [.int (x1)]) (a := 0) (rest := []) rfl (by decide +kernel) rfl rfl (by decide +kernel) hc9
  | inr v4 =>
    have hc9 := t_F_needTub (I := I) ok hn e2
    refine y_cv ok hB (as := [.int (x1)]) (a := 0) (rest := []) rfl rfl rfl (by decide +kernel) hc9 (fun hB => ?_)
    refine z_iload hB rfl (fun hB => ?_)
    obtain ⟨q5, e6, h⟩ := z_bind h
    cases q5 with
    | inl v7 =>
      have hc9 := t_F_needHeat (I := I) ok e6
      cases h
      exact z_callSx hB (as := [.int (x2)]) (rest := []) rfl (by decide +kernel) rfl rfl hc9
    | inr v8 =>
      have hc9 := t_F_needHeat (I := I) ok e6
      refine z_callS hB (as := [.int (x2)]) (rest := []) rfl rfl rfl hc9 (fun hB => ?_)
      refine z_aload hB rfl (fun hB => ?_)
      refine y_getm ok hB (by decide +kernel) hn.1 (fun hB => ?_)
      refine z_iload hB rfl (fun hB => ?_)
      refine z_iload hB rfl (fun hB => ?_)
      obtain ⟨q9, e10, h⟩ := z_bind h
      refine y_cv ok hB (as := [.int (x1), .int (x2)]) (a := n) (rest := []) rfl rfl rfl hn.2 (t_L_dirtLeftIn (I := I) ok hn.2 e10) (fun hB => ?_)
      cases h
      exact z_reti hB
def d_F_bestHeat (n : Nat) (x1 : Int32) (I : z_H) : Option (Nat ⊕ Int32) := ((d_F_needTub n (x1) I).bind fun q1 => (match q1 with | .inl v3 => some (Sum.inl v3) | .inr v4 => ((d_L_bestHeatFor n (x1) I).bind fun q5 => some (Sum.inr (q5)))))
/-- FlagLaundry.bestHeat(I)I -/
theorem t_F_bestHeat {G : z_G} {w : ev_W} (ok : z_Ok G w) {n : Nat} {x1 : Int32} (hn : z_fc w n) {I : z_H} {r : Nat ⊕ Int32} (h : d_F_bestHeat n x1 I = some r) : z_K G 156 [.ref (0), .int (x1)] (z_w w I) (z_o z_vi r) (z_ow (z_w w I) r) := by
  refine z_con ok.1 (ml := 2) (by decide +kernel) rfl rfl ?_
  show z_R G 156 0 [some (.ref (0)), some (.int (x1))] [] (z_w w I) (z_o z_vi r) (z_ow (z_w w I) r)
  unfold d_F_bestHeat at h
  have hB : z_all [z_is 156 0 (zf_aload 0 0 1), z_is 156 1 (zf_iload 1 1 2), z_is 156 2 (zf_cv 2 194 1 7 5), z_is 156 5 (zf_aload 5 0 6), z_is 156 6 (zf_getr 6 7 5 9), z_is 156 9 (zf_iload 9 1 10), z_is 156 10 (zf_cv 10 40 1 2 13), z_is 156 13 (zf_ret 0)] = true := by decide +kernel
  refine z_aload hB rfl (fun hB => ?_)
  refine z_iload hB rfl (fun hB => ?_)
  obtain ⟨q1, e2, h⟩ := z_bind h
  cases q1 with
  | inl v3 =>
    have hc9 := t_F_needTub (I := I) ok hn e2
    cases h
    exact y_cvx ok hB (as := [.int (x1)]) (a := 0) (rest := []) rfl (by decide +kernel) rfl rfl (by decide +kernel) hc9
  | inr v4 =>
    have hc9 := t_F_needTub (I := I) ok hn e2
    refine y_cv ok hB (as := [.int (x1)]) (a := 0) (rest := []) rfl rfl rfl (by decide +kernel) hc9 (fun hB => ?_)
    refine z_aload hB rfl (fun hB => ?_)
    refine y_getm ok hB (by decide +kernel) hn.1 (fun hB => ?_)
    refine z_iload hB rfl (fun hB => ?_)
    obtain ⟨q5, e6, h⟩ := z_bind h
    refine y_cv ok hB (as := [.int (x1)]) (a := n) (rest := []) rfl rfl rfl hn.2 (t_L_bestHeatFor (I := I) ok hn.2 e6) (fun hB => ?_)
    cases h
    exact z_reti hB
def d_F_firstSafe (n : Nat) (x1 : Int32) (x2 : Int32) (I : z_H) : Option (Nat ⊕ Int32) := ((d_F_needTub n (x1) I).bind fun q1 => (match q1 with | .inl v3 => some (Sum.inl v3) | .inr v4 => ((d_F_needHeat (x2)).bind fun q5 => (match q5 with | .inl v7 => some (Sum.inl v7) | .inr v8 => ((d_L_firstSafeFor n (x1) (x2) I).bind fun q9 => some (Sum.inr (q9)))))))
/-- FlagLaundry.firstSafe(II)I -/
theorem t_F_firstSafe {G : z_G} {w : ev_W} (ok : z_Ok G w) {n : Nat} {x1 : Int32} {x2 : Int32} (hn : z_fc w n) {I : z_H} {r : Nat ⊕ Int32} (h : d_F_firstSafe n x1 x2 I = some r) : z_K G 157 [.ref (0), .int (x1), .int (x2)] (z_w w I) (z_o z_vi r) (z_ow (z_w w I) r) := by
  refine z_con ok.1 (ml := 3) (by decide +kernel) rfl rfl ?_
  show z_R G 157 0 [some (.ref (0)), some (.int (x1)), some (.int (x2))] [] (z_w w I) (z_o z_vi r) (z_ow (z_w w I) r)
  unfold d_F_firstSafe at h
  have hB : z_all [z_is 157 0 (zf_aload 0 0 1), z_is 157 1 (zf_iload 1 1 2), z_is 157 2 (zf_cv 2 194 1 7 5), z_is 157 5 (zf_iload 5 2 6), z_is 157 6 (zf_cs 6 197 1 9), z_is 157 9 (zf_aload 9 0 10), z_is 157 10 (zf_getr 10 7 5 13), z_is 157 13 (zf_iload 13 1 14), z_is 157 14 (zf_iload 14 2 15), z_is 157 15 (zf_cv 15 41 2 2 18), z_is 157 18 (zf_ret 0)] = true := by decide +kernel
  refine z_aload hB rfl (fun hB => ?_)
  refine z_iload hB rfl (fun hB => ?_)
  obtain ⟨q1, e2, h⟩ := z_bind h
  cases q1 with
  | inl v3 =>
    have hc9 := t_F_needTub (I := I) ok hn e2
    cases h
    exact y_cvx ok hB (as := [.int (x1)]) (a := 0) (rest := []) rfl (by decide +kernel) rfl rfl (by decide +kernel) hc9
  | inr v4 =>
    have hc9 := t_F_needTub (I := I) ok hn e2
    refine y_cv ok hB (as := [.int (x1)]) (a := 0) (rest := []) rfl rfl rfl (by decide +kernel) hc9 (fun hB => ?_)
    refine z_iload hB rfl (fun hB => ?_)
    obtain ⟨q5, e6, h⟩ := z_bind h
    cases q5 with
    | inl v7 =>
      have hc9 := t_F_needHeat (I := I) ok e6
      cases h
      exact z_callSx hB (as := [.int (x2)]) (rest := []) rfl (by decide +kernel) rfl rfl hc9
    | inr v8 =>
      have hc9 := t_F_needHeat (I := I) ok e6
      refine z_callS hB (as := [.int (x2)]) (rest := []) rfl rfl rfl hc9 (fun hB => ?_)
      refine z_aload hB rfl (fun hB => ?_)
      refine y_getm ok hB (by decide +kernel) hn.1 (fun hB => ?_)
      refine z_iload hB rfl (fun hB => ?_)
      refine z_iload hB rfl (fun hB => ?_)
      obtain ⟨q9, e10, h⟩ := z_bind h
      refine y_cv ok hB (as := [.int (x1), .int (x2)]) (a := n) (rest := []) rfl rfl rfl hn.2 (t_L_firstSafeFor (I := I) ok hn.2 e10) (fun hB => ?_)
      cases h
      exact z_reti hB
def d_F_doNotMix (n : Nat) (x1 : Int32) (x2 : Int32) (x3 : Int32) (I : z_H) : Option (Nat ⊕ Int32) := ((d_F_needFlag n (x1) I).bind fun q1 => (match q1 with | .inl v3 => some (Sum.inl v3) | .inr v4 => ((d_F_needFlag n (x2) I).bind fun q5 => (match q5 with | .inl v7 => some (Sum.inl v7) | .inr v8 => ((d_F_needHeat (x3)).bind fun q9 => (match q9 with | .inl v11 => some (Sum.inl v11) | .inr v12 => ((d_L_mixing n (x1) (x2) (x3) I).bind fun q13 => some (Sum.inr (q13)))))))))
/-- FlagLaundry.doNotMix(III)I -/
theorem t_F_doNotMix {G : z_G} {w : ev_W} (ok : z_Ok G w) {n : Nat} {x1 : Int32} {x2 : Int32} {x3 : Int32} (hn : z_fc w n) {I : z_H} {r : Nat ⊕ Int32} (h : d_F_doNotMix n x1 x2 x3 I = some r) : z_K G 158 [.ref (0), .int (x1), .int (x2), .int (x3)] (z_w w I) (z_o z_vi r) (z_ow (z_w w I) r) := by
  refine z_con ok.1 (ml := 4) (by decide +kernel) rfl rfl ?_
  show z_R G 158 0 [some (.ref (0)), some (.int (x1)), some (.int (x2)), some (.int (x3))] [] (z_w w I) (z_o z_vi r) (z_ow (z_w w I) r)
  unfold d_F_doNotMix at h
  have hB : z_all [z_is 158 0 (zf_aload 0 0 1), z_is 158 1 (zf_iload 1 1 2), z_is 158 2 (zf_cv 2 193 1 7 5), z_is 158 5 (zf_aload 5 0 6), z_is 158 6 (zf_iload 6 2 7), z_is 158 7 (zf_cv 7 193 1 7 10), z_is 158 10 (zf_iload 10 3 11), z_is 158 11 (zf_cs 11 197 1 14), z_is 158 14 (zf_aload 14 0 15), z_is 158 15 (zf_getr 15 7 5 18), z_is 158 18 (zf_iload 18 1 19), z_is 158 19 (zf_iload 19 2 20), z_is 158 20 (zf_iload 20 3 21), z_is 158 21 (zf_cv 21 43 3 2 24), z_is 158 24 (zf_ret 0)] = true := by decide +kernel
  refine z_aload hB rfl (fun hB => ?_)
  refine z_iload hB rfl (fun hB => ?_)
  obtain ⟨q1, e2, h⟩ := z_bind h
  cases q1 with
  | inl v3 =>
    have hc9 := t_F_needFlag (I := I) ok hn e2
    cases h
    exact y_cvx ok hB (as := [.int (x1)]) (a := 0) (rest := []) rfl (by decide +kernel) rfl rfl (by decide +kernel) hc9
  | inr v4 =>
    have hc9 := t_F_needFlag (I := I) ok hn e2
    refine y_cv ok hB (as := [.int (x1)]) (a := 0) (rest := []) rfl rfl rfl (by decide +kernel) hc9 (fun hB => ?_)
    refine z_aload hB rfl (fun hB => ?_)
    refine z_iload hB rfl (fun hB => ?_)
    obtain ⟨q5, e6, h⟩ := z_bind h
    cases q5 with
    | inl v7 =>
      have hc9 := t_F_needFlag (I := I) ok hn e6
      cases h
      exact y_cvx ok hB (as := [.int (x2)]) (a := 0) (rest := []) rfl (by decide +kernel) rfl rfl (by decide +kernel) hc9
    | inr v8 =>
      have hc9 := t_F_needFlag (I := I) ok hn e6
      refine y_cv ok hB (as := [.int (x2)]) (a := 0) (rest := []) rfl rfl rfl (by decide +kernel) hc9 (fun hB => ?_)
      refine z_iload hB rfl (fun hB => ?_)
      obtain ⟨q9, e10, h⟩ := z_bind h
      cases q9 with
      | inl v11 =>
        have hc9 := t_F_needHeat (I := I) ok e10
        cases h
        exact z_callSx hB (as := [.int (x3)]) (rest := []) rfl (by decide +kernel) rfl rfl hc9
      | inr v12 =>
        have hc9 := t_F_needHeat (I := I) ok e10
        refine z_callS hB (as := [.int (x3)]) (rest := []) rfl rfl rfl hc9 (fun hB => ?_)
        refine z_aload hB rfl (fun hB => ?_)
        refine y_getm ok hB (by decide +kernel) hn.1 (fun hB => ?_)
        refine z_iload hB rfl (fun hB => ?_)
        refine z_iload hB rfl (fun hB => ?_)
        refine z_iload hB rfl (fun hB => ?_)
        obtain ⟨q13, e14, h⟩ := z_bind h
        refine y_cv ok hB (as := [.int (x1), .int (x2), .int (x3)]) (a := n) (rest := []) rfl rfl rfl hn.2 (t_L_mixing (I := I) ok hn.2 e14) (fun hB => ?_)
        cases h
        exact z_reti hB
def d_F_groups (n : Nat) (x1 : Int32) (I : z_H) : Option ((Nat ⊕ Int32) × z_H) := ((d_F_needText I).bind fun q1 => (match q1 with | .inl v3 => some ((Sum.inl v3, I)) | .inr v4 => ((d_F_needHeat (x1)).bind fun q5 => (match q5 with | .inl v7 => some ((Sum.inl v7, I)) | .inr v8 => ((d_L_groupsOfDirty n (x1) I).bind fun q9 => some ((Sum.inr (q9.1), q9.2)))))))
/-- FlagLaundry.groups(I)I -/
theorem t_F_groups {G : z_G} {w : ev_W} (ok : z_Ok G w) {n : Nat} {x1 : Int32} (hn : z_fc w n) {I : z_H} {r : (Nat ⊕ Int32) × z_H} (h : d_F_groups n x1 I = some r) : z_K G 159 [.ref (0), .int (x1)] (z_w w I) (z_o z_vi r.1) (z_ow (z_w w r.2) r.1) := by
  refine z_con ok.1 (ml := 2) (by decide +kernel) rfl rfl ?_
  show z_R G 159 0 [some (.ref (0)), some (.int (x1))] [] (z_w w I) (z_o z_vi r.1) (z_ow (z_w w r.2) r.1)
  unfold d_F_groups at h
  have hB : z_all [z_is 159 0 (zf_aload 0 0 1), z_is 159 1 (zf_cv 1 192 0 7 4), z_is 159 4 (zf_iload 4 1 5), z_is 159 5 (zf_cs 5 197 1 8), z_is 159 8 (zf_aload 8 0 9), z_is 159 9 (zf_getr 9 7 5 12), z_is 159 12 (zf_iload 12 1 13), z_is 159 13 (zf_cv 13 44 1 2 16), z_is 159 16 (zf_ret 0)] = true := by decide +kernel
  refine z_aload hB rfl (fun hB => ?_)
  obtain ⟨q1, e2, h⟩ := z_bind h
  cases q1 with
  | inl v3 =>
    have hc9 := t_F_needText (I := I) ok e2
    cases h
    exact y_cvx ok hB (as := []) (a := 0) (rest := []) rfl (by decide +kernel) rfl rfl (by decide +kernel) hc9
  | inr v4 =>
    have hc9 := t_F_needText (I := I) ok e2
    refine y_cv ok hB (as := []) (a := 0) (rest := []) rfl rfl rfl (by decide +kernel) hc9 (fun hB => ?_)
    refine z_iload hB rfl (fun hB => ?_)
    obtain ⟨q5, e6, h⟩ := z_bind h
    cases q5 with
    | inl v7 =>
      have hc9 := t_F_needHeat (I := I) ok e6
      cases h
      exact z_callSx hB (as := [.int (x1)]) (rest := []) rfl (by decide +kernel) rfl rfl hc9
    | inr v8 =>
      have hc9 := t_F_needHeat (I := I) ok e6
      refine z_callS hB (as := [.int (x1)]) (rest := []) rfl rfl rfl hc9 (fun hB => ?_)
      refine z_aload hB rfl (fun hB => ?_)
      refine y_getm ok hB (by decide +kernel) hn.1 (fun hB => ?_)
      refine z_iload hB rfl (fun hB => ?_)
      obtain ⟨q9, e10, h⟩ := z_bind h
      refine y_cv ok hB (as := [.int (x1)]) (a := n) (rest := []) rfl rfl rfl hn.2 (t_L_groupsOfDirty (I := I) ok hn.2 e10) (fun hB => ?_)
      cases h
      exact z_reti hB
def d_F_purest (n : Nat) (x1 : Int32) (I : z_H) : Option (Nat ⊕ Int32) := ((d_F_needText I).bind fun q1 => (match q1 with | .inl v3 => some (Sum.inl v3) | .inr v4 => ((d_F_needHeat (x1)).bind fun q5 => (match q5 with | .inl v7 => some (Sum.inl v7) | .inr v8 => ((d_L_purestInBasket n (x1) I).bind fun q9 => some (Sum.inr (q9)))))))
/-- FlagLaundry.purest(I)I -/
theorem t_F_purest {G : z_G} {w : ev_W} (ok : z_Ok G w) {n : Nat} {x1 : Int32} (hn : z_fc w n) {I : z_H} {r : Nat ⊕ Int32} (h : d_F_purest n x1 I = some r) : z_K G 160 [.ref (0), .int (x1)] (z_w w I) (z_o z_vi r) (z_ow (z_w w I) r) := by
  refine z_con ok.1 (ml := 2) (by decide +kernel) rfl rfl ?_
  show z_R G 160 0 [some (.ref (0)), some (.int (x1))] [] (z_w w I) (z_o z_vi r) (z_ow (z_w w I) r)
  unfold d_F_purest at h
  have hB : z_all [z_is 160 0 (zf_aload 0 0 1), z_is 160 1 (zf_cv 1 192 0 7 4), z_is 160 4 (zf_iload 4 1 5), z_is 160 5 (zf_cs 5 197 1 8), z_is 160 8 (zf_aload 8 0 9), z_is 160 9 (zf_getr 9 7 5 12), z_is 160 12 (zf_iload 12 1 13), z_is 160 13 (zf_cv 13 47 1 2 16), z_is 160 16 (zf_ret 0)] = true := by decide +kernel
  refine z_aload hB rfl (fun hB => ?_)
  obtain ⟨q1, e2, h⟩ := z_bind h
  cases q1 with
  | inl v3 =>
    have hc9 := t_F_needText (I := I) ok e2
    cases h
    exact y_cvx ok hB (as := []) (a := 0) (rest := []) rfl (by decide +kernel) rfl rfl (by decide +kernel) hc9
  | inr v4 =>
    have hc9 := t_F_needText (I := I) ok e2
    refine y_cv ok hB (as := []) (a := 0) (rest := []) rfl rfl rfl (by decide +kernel) hc9 (fun hB => ?_)
    refine z_iload hB rfl (fun hB => ?_)
    obtain ⟨q5, e6, h⟩ := z_bind h
    cases q5 with
    | inl v7 =>
      have hc9 := t_F_needHeat (I := I) ok e6
      cases h
      exact z_callSx hB (as := [.int (x1)]) (rest := []) rfl (by decide +kernel) rfl rfl hc9
    | inr v8 =>
      have hc9 := t_F_needHeat (I := I) ok e6
      refine z_callS hB (as := [.int (x1)]) (rest := []) rfl rfl rfl hc9 (fun hB => ?_)
      refine z_aload hB rfl (fun hB => ?_)
      refine y_getm ok hB (by decide +kernel) hn.1 (fun hB => ?_)
      refine z_iload hB rfl (fun hB => ?_)
      obtain ⟨q9, e10, h⟩ := z_bind h
      refine y_cv ok hB (as := [.int (x1)]) (a := n) (rest := []) rfl rfl rfl hn.2 (t_L_purestInBasket (I := I) ok hn.2 e10) (fun hB => ?_)
      cases h
      exact z_reti hB
def d_F_washesFor (n : Nat) (x1 : Int32) (I : z_H) : Option (Nat ⊕ Int32) := ((d_F_needFlag n (x1) I).bind fun q1 => (match q1 with | .inl v3 => some (Sum.inl v3) | .inr v4 => (if z_in (x1) 12 then ((d_G_washesUntilClean ((n + 7) + 2 + z_n (x1)) I).bind fun q6 => some (Sum.inr (q6))) else none)))
/-- FlagLaundry.washesFor(I)I -/
theorem t_F_washesFor {G : z_G} {w : ev_W} (ok : z_Ok G w) {n : Nat} {x1 : Int32} (hn : z_fc w n) {I : z_H} {r : Nat ⊕ Int32} (h : d_F_washesFor n x1 I = some r) : z_K G 161 [.ref (0), .int (x1)] (z_w w I) (z_o z_vi r) (z_ow (z_w w I) r) := by
  refine z_con ok.1 (ml := 2) (by decide +kernel) rfl rfl ?_
  show z_R G 161 0 [some (.ref (0)), some (.int (x1))] [] (z_w w I) (z_o z_vi r) (z_ow (z_w w I) r)
  unfold d_F_washesFor at h
  have hB : z_all [z_is 161 0 (zf_aload 0 0 1), z_is 161 1 (zf_iload 1 1 2), z_is 161 2 (zf_cv 2 193 1 7 5), z_is 161 5 (zf_aload 5 0 6), z_is 161 6 (zf_getr 6 7 5 9), z_is 161 9 (zf_getr 9 2 1 12), z_is 161 12 (zf_getr 12 5 7 15), z_is 161 15 (zf_iload 15 1 16), z_is 161 16 (zf_aald 16 17), z_is 161 17 (zf_cv 17 19 0 0 20), z_is 161 20 (zf_ret 0)] = true := by decide +kernel
  refine z_aload hB rfl (fun hB => ?_)
  refine z_iload hB rfl (fun hB => ?_)
  obtain ⟨q1, e2, h⟩ := z_bind h
  cases q1 with
  | inl v3 =>
    have hc9 := t_F_needFlag (I := I) ok hn e2
    cases h
    exact y_cvx ok hB (as := [.int (x1)]) (a := 0) (rest := []) rfl (by decide +kernel) rfl rfl (by decide +kernel) hc9
  | inr v4 =>
    have hc9 := t_F_needFlag (I := I) ok hn e2
    refine y_cv ok hB (as := [.int (x1)]) (a := 0) (rest := []) rfl rfl rfl (by decide +kernel) hc9 (fun hB => ?_)
    refine z_aload hB rfl (fun hB => ?_)
    refine y_getm ok hB (by decide +kernel) hn.1 (fun hB => ?_)
    refine y_getr (b := (n + 7)) ok hB hn.2 (zla_r1 hn.2) (fun hB => ?_)
    refine y_getr (b := ((n + 7) + 1)) ok hB (zla_k1 hn.2) (zst_r7 (zla_k1 hn.2)) (fun hB => ?_)
    refine z_iload hB rfl (fun hB => ?_)
    obtain ⟨g5, h⟩ := z_gd h
    refine y_fald ok hB (zst_k1 (zla_k1 hn.2)) (zst_l1 (zla_k1 hn.2)) g5 (zst_fR (zla_k1 hn.2) g5) (fun hB => ?_)
    obtain ⟨q6, e7, h⟩ := z_bind h
    refine y_cv ok hB (as := []) (a := ((n + 7) + 2 + z_n (x1))) (rest := []) rfl rfl rfl (zst_fK (zla_k1 hn.2) g5) (t_G_washesUntilClean (I := I) ok (zst_fK (zla_k1 hn.2) g5) e7) (fun hB => ?_)
    cases h
    exact z_reti hB
def d_F_dryIn (n : Nat) (x1 : Int32) (I : z_H) : Option (Nat ⊕ Int32) := ((d_F_needFlag n (x1) I).bind fun q1 => (match q1 with | .inl v3 => some (Sum.inl v3) | .inr v4 => ((d_S_hoursToDry (n + 7) (x1) ((I (n + 7) 1)) I).bind fun q5 => some (Sum.inr (q5)))))
/-- FlagLaundry.dryIn(I)I -/
theorem t_F_dryIn {G : z_G} {w : ev_W} (ok : z_Ok G w) {n : Nat} {x1 : Int32} (hn : z_fc w n) {I : z_H} {r : Nat ⊕ Int32} (h : d_F_dryIn n x1 I = some r) : z_K G 162 [.ref (0), .int (x1)] (z_w w I) (z_o z_vi r) (z_ow (z_w w I) r) := by
  refine z_con ok.1 (ml := 2) (by decide +kernel) rfl rfl ?_
  show z_R G 162 0 [some (.ref (0)), some (.int (x1))] [] (z_w w I) (z_o z_vi r) (z_ow (z_w w I) r)
  unfold d_F_dryIn at h
  have hB : z_all [z_is 162 0 (zf_aload 0 0 1), z_is 162 1 (zf_iload 1 1 2), z_is 162 2 (zf_cv 2 193 1 7 5), z_is 162 5 (zf_aload 5 0 6), z_is 162 6 (zf_getr 6 7 5 9), z_is 162 9 (zf_getr 9 2 1 12), z_is 162 12 (zf_iload 12 1 13), z_is 162 13 (zf_aload 13 0 14), z_is 162 14 (zf_getr 14 7 5 17), z_is 162 17 (zf_getr 17 2 1 20), z_is 162 20 (zf_geti 20 5 1 23), z_is 162 23 (zf_cv 23 118 2 5 26), z_is 162 26 (zf_ret 0)] = true := by decide +kernel
  refine z_aload hB rfl (fun hB => ?_)
  refine z_iload hB rfl (fun hB => ?_)
  obtain ⟨q1, e2, h⟩ := z_bind h
  cases q1 with
  | inl v3 =>
    have hc9 := t_F_needFlag (I := I) ok hn e2
    cases h
    exact y_cvx ok hB (as := [.int (x1)]) (a := 0) (rest := []) rfl (by decide +kernel) rfl rfl (by decide +kernel) hc9
  | inr v4 =>
    have hc9 := t_F_needFlag (I := I) ok hn e2
    refine y_cv ok hB (as := [.int (x1)]) (a := 0) (rest := []) rfl rfl rfl (by decide +kernel) hc9 (fun hB => ?_)
    refine z_aload hB rfl (fun hB => ?_)
    refine y_getm ok hB (by decide +kernel) hn.1 (fun hB => ?_)
    refine y_getr (b := (n + 7)) ok hB hn.2 (zla_r1 hn.2) (fun hB => ?_)
    refine z_iload hB rfl (fun hB => ?_)
    refine z_aload hB rfl (fun hB => ?_)
    refine y_getm ok hB (by decide +kernel) hn.1 (fun hB => ?_)
    refine y_getr (b := (n + 7)) ok hB hn.2 (zla_r1 hn.2) (fun hB => ?_)
    refine y_geti ok hB (zla_k1 hn.2) (fun hB => ?_)
    obtain ⟨q5, e6, h⟩ := z_bind h
    refine y_cv ok hB (as := [.int (x1), .int ((I (n + 7) 1))]) (a := (n + 7)) (rest := []) rfl rfl rfl (zla_k1 hn.2) (t_S_hoursToDry (I := I) ok (zla_k1 hn.2) e6) (fun hB => ?_)
    cases h
    exact z_reti hB
def d_F_dryByWind (n : Nat) (x1 : Int32) (x2 : Int32) (I : z_H) : Option (Nat ⊕ Int32) := ((d_F_needFlag n (x1) I).bind fun q1 => (match q1 with | .inl v3 => some (Sum.inl v3) | .inr v4 => ((d_F_needRange (x2) ((jn 0)) ((jn 9))).bind fun q5 => (match q5 with | .inl v7 => some (Sum.inl v7) | .inr v8 => ((d_S_hoursToDry (n + 7) (x1) (x2) I).bind fun q9 => some (Sum.inr (q9)))))))
/-- FlagLaundry.dryByWind(II)I -/
theorem t_F_dryByWind {G : z_G} {w : ev_W} (ok : z_Ok G w) {n : Nat} {x1 : Int32} {x2 : Int32} (hn : z_fc w n) {I : z_H} {r : Nat ⊕ Int32} (h : d_F_dryByWind n x1 x2 I = some r) : z_K G 163 [.ref (0), .int (x1), .int (x2)] (z_w w I) (z_o z_vi r) (z_ow (z_w w I) r) := by
  refine z_con ok.1 (ml := 3) (by decide +kernel) rfl rfl ?_
  show z_R G 163 0 [some (.ref (0)), some (.int (x1)), some (.int (x2))] [] (z_w w I) (z_o z_vi r) (z_ow (z_w w I) r)
  unfold d_F_dryByWind at h
  have hB : z_all [z_is 163 0 (zf_aload 0 0 1), z_is 163 1 (zf_iload 1 1 2), z_is 163 2 (zf_cv 2 193 1 7 5), z_is 163 5 (zf_iload 5 2 6), z_is 163 6 (zf_cst 6 (jn 0) 7), z_is 163 7 (zf_cst 7 (jn 9) 9), z_is 163 9 (zf_cs 9 198 3 12), z_is 163 12 (zf_aload 12 0 13), z_is 163 13 (zf_getr 13 7 5 16), z_is 163 16 (zf_getr 16 2 1 19), z_is 163 19 (zf_iload 19 1 20), z_is 163 20 (zf_iload 20 2 21), z_is 163 21 (zf_cv 21 118 2 5 24), z_is 163 24 (zf_ret 0)] = true := by decide +kernel
  refine z_aload hB rfl (fun hB => ?_)
  refine z_iload hB rfl (fun hB => ?_)
  obtain ⟨q1, e2, h⟩ := z_bind h
  cases q1 with
  | inl v3 =>
    have hc9 := t_F_needFlag (I := I) ok hn e2
    cases h
    exact y_cvx ok hB (as := [.int (x1)]) (a := 0) (rest := []) rfl (by decide +kernel) rfl rfl (by decide +kernel) hc9
  | inr v4 =>
    have hc9 := t_F_needFlag (I := I) ok hn e2
    refine y_cv ok hB (as := [.int (x1)]) (a := 0) (rest := []) rfl rfl rfl (by decide +kernel) hc9 (fun hB => ?_)
    refine z_iload hB rfl (fun hB => ?_)
    refine z_cst hB (fun hB => ?_)
    refine z_cst hB (fun hB => ?_)
    obtain ⟨q5, e6, h⟩ := z_bind h
    cases q5 with
    | inl v7 =>
      have hc9 := t_F_needRange (I := I) ok e6
      cases h
      exact z_callSx hB (as := [.int (x2), .int ((jn 0)), .int ((jn 9))]) (rest := []) rfl (by decide +kernel) rfl rfl hc9
    | inr v8 =>
      have hc9 := t_F_needRange (I := I) ok e6
      refine z_callS hB (as := [.int (x2), .int ((jn 0)), .int ((jn 9))]) (rest := []) rfl rfl rfl hc9 (fun hB => ?_)
      refine z_aload hB rfl (fun hB => ?_)
      refine y_getm ok hB (by decide +kernel) hn.1 (fun hB => ?_)
      refine y_getr (b := (n + 7)) ok hB hn.2 (zla_r1 hn.2) (fun hB => ?_)
      refine z_iload hB rfl (fun hB => ?_)
      refine z_iload hB rfl (fun hB => ?_)
      obtain ⟨q9, e10, h⟩ := z_bind h
      refine y_cv ok hB (as := [.int (x1), .int (x2)]) (a := (n + 7)) (rest := []) rfl rfl rfl (zla_k1 hn.2) (t_S_hoursToDry (I := I) ok (zla_k1 hn.2) e10) (fun hB => ?_)
      cases h
      exact z_reti hB
def d_F_fallsIn (n : Nat) (x1 : Int32) (I : z_H) : Option (Nat ⊕ Int32) := ((d_F_needText I).bind fun q1 => (match q1 with | .inl v3 => some (Sum.inl v3) | .inr v4 => ((d_F_needRange (x1) ((jn 0)) ((jn 99))).bind fun q5 => (match q5 with | .inl v7 => some (Sum.inl v7) | .inr v8 => (Option.bind (α := Int32) (if (I (n + 7) 1) < (jn 7) then some ((jn 0)) else ((d_S_flagsAt (n + 7) ((jn 2)) I).bind fun q12 => some ((z_mn (x1) (q12))))) fun q9 => some (Sum.inr (q9)))))))
/-- FlagLaundry.fallsIn(I)I -/
theorem t_F_fallsIn {G : z_G} {w : ev_W} (ok : z_Ok G w) {n : Nat} {x1 : Int32} (hn : z_fc w n) {I : z_H} {r : Nat ⊕ Int32} (h : d_F_fallsIn n x1 I = some r) : z_K G 164 [.ref (0), .int (x1)] (z_w w I) (z_o z_vi r) (z_ow (z_w w I) r) := by
  refine z_con ok.1 (ml := 2) (by decide +kernel) rfl rfl ?_
  show z_R G 164 0 [some (.ref (0)), some (.int (x1))] [] (z_w w I) (z_o z_vi r) (z_ow (z_w w I) r)
  unfold d_F_fallsIn at h
  have hB : z_all [z_is 164 0 (zf_aload 0 0 1), z_is 164 1 (zf_cv 1 192 0 7 4), z_is 164 4 (zf_iload 4 1 5), z_is 164 5 (zf_cst 5 (jn 0) 6), z_is 164 6 (zf_cst 6 (jn 99) 8), z_is 164 8 (zf_cs 8 198 3 11), z_is 164 11 (zf_aload 11 0 12), z_is 164 12 (zf_getr 12 7 5 15), z_is 164 15 (zf_getr 15 2 1 18), z_is 164 18 (zf_geti 18 5 1 21), z_is 164 21 (zf_cst 21 (jn 7) 23), z_is 164 23 (zf_if2 .lt 23 44 26)] = true := by decide +kernel
  refine z_aload hB rfl (fun hB => ?_)
  obtain ⟨q1, e2, h⟩ := z_bind h
  cases q1 with
  | inl v3 =>
    have hc9 := t_F_needText (I := I) ok e2
    cases h
    exact y_cvx ok hB (as := []) (a := 0) (rest := []) rfl (by decide +kernel) rfl rfl (by decide +kernel) hc9
  | inr v4 =>
    have hc9 := t_F_needText (I := I) ok e2
    refine y_cv ok hB (as := []) (a := 0) (rest := []) rfl rfl rfl (by decide +kernel) hc9 (fun hB => ?_)
    refine z_iload hB rfl (fun hB => ?_)
    refine z_cst hB (fun hB => ?_)
    refine z_cst hB (fun hB => ?_)
    obtain ⟨q5, e6, h⟩ := z_bind h
    cases q5 with
    | inl v7 =>
      have hc9 := t_F_needRange (I := I) ok e6
      cases h
      exact z_callSx hB (as := [.int (x1), .int ((jn 0)), .int ((jn 99))]) (rest := []) rfl (by decide +kernel) rfl rfl hc9
    | inr v8 =>
      have hc9 := t_F_needRange (I := I) ok e6
      refine z_callS hB (as := [.int (x1), .int ((jn 0)), .int ((jn 99))]) (rest := []) rfl rfl rfl hc9 (fun hB => ?_)
      refine z_aload hB rfl (fun hB => ?_)
      refine y_getm ok hB (by decide +kernel) hn.1 (fun hB => ?_)
      refine y_getr (b := (n + 7)) ok hB hn.2 (zla_r1 hn.2) (fun hB => ?_)
      refine y_geti ok hB (zla_k1 hn.2) (fun hB => ?_)
      refine z_cst hB (fun hB => ?_)
      obtain ⟨q9, e10, h⟩ := z_bind h
      have k11 : z_R G 164 45 [none, none] [.int (q9)] (z_w w I) (z_o z_vi r) (z_ow (z_w w I) r) := by
        have hB : z_all [z_is 164 45 (zf_ret 0)] = true := by decide +kernel
        cases h
        exact z_reti hB
      have h := e10
      refine z_ic_lt hB (fun hc _ => ?_) (fun hc _ => ?_)
      · have h := z_pos hc h
        have hB : z_all [z_is 164 44 (zf_cst 44 (jn 0) 45)] = true := by decide +kernel
        refine z_cst hB (fun hB => ?_)
        cases h
        exact z_weak k11 (z_sn (z_sn z_s0))
      · have h := z_neg hc h
        have hB : z_all [z_is 164 26 (zf_iload 26 1 27), z_is 164 27 (zf_aload 27 0 28), z_is 164 28 (zf_getr 28 7 5 31), z_is 164 31 (zf_getr 31 2 1 34), z_is 164 34 (zf_cst 34 (jn 2) 35), z_is 164 35 (zf_cv 35 100 1 5 38), z_is 164 38 (zf_nat 38 101 41), z_is 164 41 (zf_goto 41 45)] = true := by decide +kernel
        refine z_iload hB rfl (fun hB => ?_)
        refine z_aload hB rfl (fun hB => ?_)
        refine y_getm ok hB (by decide +kernel) hn.1 (fun hB => ?_)
        refine y_getr (b := (n + 7)) ok hB hn.2 (zla_r1 hn.2) (fun hB => ?_)
        refine z_cst hB (fun hB => ?_)
        obtain ⟨q12, e13, h⟩ := z_bind h
        refine y_cv ok hB (as := [.int ((jn 2))]) (a := (n + 7)) (rest := [.int (x1)]) rfl rfl rfl (zla_k1 hn.2) (t_S_flagsAt (I := I) ok (zla_k1 hn.2) e13) (fun hB => ?_)
        refine z_min hB rfl (fun hB => ?_)
        refine z_goto hB (fun hB => ?_)
        cases h
        exact z_weak k11 (z_sn (z_sn z_s0))
def d_F_payIf (n : Nat) (x1 : Int32) (x2 : Int32) (I : z_H) : Option (Nat ⊕ Int32) := ((d_F_needNation n (x1) I).bind fun q1 => (match q1 with | .inl v3 => some (Sum.inl v3) | .inr v4 => ((d_F_needRange (x2) ((jn 0)) ((jn 99))).bind fun q5 => (match q5 with | .inl v7 => some (Sum.inl v7) | .inr v8 => ((d_L_payAhead n (x1) (x2) I).bind fun q9 => some (Sum.inr (q9)))))))
/-- FlagLaundry.payIf(II)I -/
theorem t_F_payIf {G : z_G} {w : ev_W} (ok : z_Ok G w) {n : Nat} {x1 : Int32} {x2 : Int32} (hn : z_fc w n) {I : z_H} {r : Nat ⊕ Int32} (h : d_F_payIf n x1 x2 I = some r) : z_K G 165 [.ref (0), .int (x1), .int (x2)] (z_w w I) (z_o z_vi r) (z_ow (z_w w I) r) := by
  refine z_con ok.1 (ml := 3) (by decide +kernel) rfl rfl ?_
  show z_R G 165 0 [some (.ref (0)), some (.int (x1)), some (.int (x2))] [] (z_w w I) (z_o z_vi r) (z_ow (z_w w I) r)
  unfold d_F_payIf at h
  have hB : z_all [z_is 165 0 (zf_aload 0 0 1), z_is 165 1 (zf_iload 1 1 2), z_is 165 2 (zf_cv 2 195 1 7 5), z_is 165 5 (zf_iload 5 2 6), z_is 165 6 (zf_cst 6 (jn 0) 7), z_is 165 7 (zf_cst 7 (jn 99) 9), z_is 165 9 (zf_cs 9 198 3 12), z_is 165 12 (zf_aload 12 0 13), z_is 165 13 (zf_getr 13 7 5 16), z_is 165 16 (zf_iload 16 1 17), z_is 165 17 (zf_iload 17 2 18), z_is 165 18 (zf_cv 18 56 2 2 21), z_is 165 21 (zf_ret 0)] = true := by decide +kernel
  refine z_aload hB rfl (fun hB => ?_)
  refine z_iload hB rfl (fun hB => ?_)
  obtain ⟨q1, e2, h⟩ := z_bind h
  cases q1 with
  | inl v3 =>
    have hc9 := t_F_needNation (I := I) ok hn e2
    cases h
    exact y_cvx ok hB (as := [.int (x1)]) (a := 0) (rest := []) rfl (by decide +kernel) rfl rfl (by decide +kernel) hc9
  | inr v4 =>
    have hc9 := t_F_needNation (I := I) ok hn e2
    refine y_cv ok hB (as := [.int (x1)]) (a := 0) (rest := []) rfl rfl rfl (by decide +kernel) hc9 (fun hB => ?_)
    refine z_iload hB rfl (fun hB => ?_)
    refine z_cst hB (fun hB => ?_)
    refine z_cst hB (fun hB => ?_)
    obtain ⟨q5, e6, h⟩ := z_bind h
    cases q5 with
    | inl v7 =>
      have hc9 := t_F_needRange (I := I) ok e6
      cases h
      exact z_callSx hB (as := [.int (x2), .int ((jn 0)), .int ((jn 99))]) (rest := []) rfl (by decide +kernel) rfl rfl hc9
    | inr v8 =>
      have hc9 := t_F_needRange (I := I) ok e6
      refine z_callS hB (as := [.int (x2), .int ((jn 0)), .int ((jn 99))]) (rest := []) rfl rfl rfl hc9 (fun hB => ?_)
      refine z_aload hB rfl (fun hB => ?_)
      refine y_getm ok hB (by decide +kernel) hn.1 (fun hB => ?_)
      refine z_iload hB rfl (fun hB => ?_)
      refine z_iload hB rfl (fun hB => ?_)
      obtain ⟨q9, e10, h⟩ := z_bind h
      refine y_cv ok hB (as := [.int (x1), .int (x2)]) (a := n) (rest := []) rfl rfl rfl hn.2 (t_L_payAhead (I := I) ok hn.2 e10) (fun hB => ?_)
      cases h
      exact z_reti hB
def d_F_latest (n : Nat) (x1 : Int32) (I : z_H) : Option (Nat ⊕ Int32) := ((d_F_needNation n (x1) I).bind fun q1 => (match q1 with | .inl v3 => some (Sum.inl v3) | .inr v4 => ((d_L_lastPaidHour n (x1) I).bind fun q5 => some (Sum.inr (q5)))))
/-- FlagLaundry.latest(I)I -/
theorem t_F_latest {G : z_G} {w : ev_W} (ok : z_Ok G w) {n : Nat} {x1 : Int32} (hn : z_fc w n) {I : z_H} {r : Nat ⊕ Int32} (h : d_F_latest n x1 I = some r) : z_K G 166 [.ref (0), .int (x1)] (z_w w I) (z_o z_vi r) (z_ow (z_w w I) r) := by
  refine z_con ok.1 (ml := 2) (by decide +kernel) rfl rfl ?_
  show z_R G 166 0 [some (.ref (0)), some (.int (x1))] [] (z_w w I) (z_o z_vi r) (z_ow (z_w w I) r)
  unfold d_F_latest at h
  have hB : z_all [z_is 166 0 (zf_aload 0 0 1), z_is 166 1 (zf_iload 1 1 2), z_is 166 2 (zf_cv 2 195 1 7 5), z_is 166 5 (zf_aload 5 0 6), z_is 166 6 (zf_getr 6 7 5 9), z_is 166 9 (zf_iload 9 1 10), z_is 166 10 (zf_cv 10 57 1 2 13), z_is 166 13 (zf_ret 0)] = true := by decide +kernel
  refine z_aload hB rfl (fun hB => ?_)
  refine z_iload hB rfl (fun hB => ?_)
  obtain ⟨q1, e2, h⟩ := z_bind h
  cases q1 with
  | inl v3 =>
    have hc9 := t_F_needNation (I := I) ok hn e2
    cases h
    exact y_cvx ok hB (as := [.int (x1)]) (a := 0) (rest := []) rfl (by decide +kernel) rfl rfl (by decide +kernel) hc9
  | inr v4 =>
    have hc9 := t_F_needNation (I := I) ok hn e2
    refine y_cv ok hB (as := [.int (x1)]) (a := 0) (rest := []) rfl rfl rfl (by decide +kernel) hc9 (fun hB => ?_)
    refine z_aload hB rfl (fun hB => ?_)
    refine y_getm ok hB (by decide +kernel) hn.1 (fun hB => ?_)
    refine z_iload hB rfl (fun hB => ?_)
    obtain ⟨q5, e6, h⟩ := z_bind h
    refine y_cv ok hB (as := [.int (x1)]) (a := n) (rest := []) rfl rfl rfl hn.2 (t_L_lastPaidHour (I := I) ok hn.2 e6) (fun hB => ?_)
    cases h
    exact z_reti hB
def d_F_dearest (n : Nat) (I : z_H) : Option (Nat ⊕ Int32) := ((d_F_needText I).bind fun q1 => (match q1 with | .inl v3 => some (Sum.inl v3) | .inr v4 => ((d_L_nationLosingMost n I).bind fun q5 => some (Sum.inr (q5)))))
/-- FlagLaundry.dearest()I -/
theorem t_F_dearest {G : z_G} {w : ev_W} (ok : z_Ok G w) {n : Nat} (hn : z_fc w n) {I : z_H} {r : Nat ⊕ Int32} (h : d_F_dearest n I = some r) : z_K G 167 [.ref (0)] (z_w w I) (z_o z_vi r) (z_ow (z_w w I) r) := by
  refine z_con ok.1 (ml := 1) (by decide +kernel) rfl rfl ?_
  show z_R G 167 0 [some (.ref (0))] [] (z_w w I) (z_o z_vi r) (z_ow (z_w w I) r)
  unfold d_F_dearest at h
  have hB : z_all [z_is 167 0 (zf_aload 0 0 1), z_is 167 1 (zf_cv 1 192 0 7 4), z_is 167 4 (zf_aload 4 0 5), z_is 167 5 (zf_getr 5 7 5 8), z_is 167 8 (zf_cv 8 58 0 2 11), z_is 167 11 (zf_ret 0)] = true := by decide +kernel
  refine z_aload hB rfl (fun hB => ?_)
  obtain ⟨q1, e2, h⟩ := z_bind h
  cases q1 with
  | inl v3 =>
    have hc9 := t_F_needText (I := I) ok e2
    cases h
    exact y_cvx ok hB (as := []) (a := 0) (rest := []) rfl (by decide +kernel) rfl rfl (by decide +kernel) hc9
  | inr v4 =>
    have hc9 := t_F_needText (I := I) ok e2
    refine y_cv ok hB (as := []) (a := 0) (rest := []) rfl rfl rfl (by decide +kernel) hc9 (fun hB => ?_)
    refine z_aload hB rfl (fun hB => ?_)
    refine y_getm ok hB (by decide +kernel) hn.1 (fun hB => ?_)
    obtain ⟨q5, e6, h⟩ := z_bind h
    refine y_cv ok hB (as := []) (a := n) (rest := []) rfl rfl rfl hn.2 (t_L_nationLosingMost (I := I) ok hn.2 e6) (fun hB => ?_)
    cases h
    exact z_reti hB
def d_F_ironsFor (n : Nat) (x1 : Int32) (x2 : Int32) (I : z_H) : Option (Nat ⊕ Int32) := ((d_F_needFlag n (x1) I).bind fun q1 => (match q1 with | .inl v3 => some (Sum.inl v3) | .inr v4 => ((d_F_needHeat (x2)).bind fun q5 => (match q5 with | .inl v7 => some (Sum.inl v7) | .inr v8 => (if z_in (x1) 12 then ((d_G_ironsUntilSmooth ((n + 7) + 2 + z_n (x1)) (x2) I).bind fun q10 => some (Sum.inr (q10))) else none)))))
/-- FlagLaundry.ironsFor(II)I -/
theorem t_F_ironsFor {G : z_G} {w : ev_W} (ok : z_Ok G w) {n : Nat} {x1 : Int32} {x2 : Int32} (hn : z_fc w n) {I : z_H} {r : Nat ⊕ Int32} (h : d_F_ironsFor n x1 x2 I = some r) : z_K G 168 [.ref (0), .int (x1), .int (x2)] (z_w w I) (z_o z_vi r) (z_ow (z_w w I) r) := by
  refine z_con ok.1 (ml := 3) (by decide +kernel) rfl rfl ?_
  show z_R G 168 0 [some (.ref (0)), some (.int (x1)), some (.int (x2))] [] (z_w w I) (z_o z_vi r) (z_ow (z_w w I) r)
  unfold d_F_ironsFor at h
  have hB : z_all [z_is 168 0 (zf_aload 0 0 1), z_is 168 1 (zf_iload 1 1 2), z_is 168 2 (zf_cv 2 193 1 7 5), z_is 168 5 (zf_iload 5 2 6), z_is 168 6 (zf_cs 6 197 1 9), z_is 168 9 (zf_aload 9 0 10), z_is 168 10 (zf_getr 10 7 5 13), z_is 168 13 (zf_getr 13 2 1 16), z_is 168 16 (zf_getr 16 5 7 19), z_is 168 19 (zf_iload 19 1 20), z_is 168 20 (zf_aald 20 21), z_is 168 21 (zf_iload 21 2 22), z_is 168 22 (zf_cv 22 20 1 0 25), z_is 168 25 (zf_ret 0)] = true := by decide +kernel
  refine z_aload hB rfl (fun hB => ?_)
  refine z_iload hB rfl (fun hB => ?_)
  obtain ⟨q1, e2, h⟩ := z_bind h
  cases q1 with
  | inl v3 =>
    have hc9 := t_F_needFlag (I := I) ok hn e2
    cases h
    exact y_cvx ok hB (as := [.int (x1)]) (a := 0) (rest := []) rfl (by decide +kernel) rfl rfl (by decide +kernel) hc9
  | inr v4 =>
    have hc9 := t_F_needFlag (I := I) ok hn e2
    refine y_cv ok hB (as := [.int (x1)]) (a := 0) (rest := []) rfl rfl rfl (by decide +kernel) hc9 (fun hB => ?_)
    refine z_iload hB rfl (fun hB => ?_)
    obtain ⟨q5, e6, h⟩ := z_bind h
    cases q5 with
    | inl v7 =>
      have hc9 := t_F_needHeat (I := I) ok e6
      cases h
      exact z_callSx hB (as := [.int (x2)]) (rest := []) rfl (by decide +kernel) rfl rfl hc9
    | inr v8 =>
      have hc9 := t_F_needHeat (I := I) ok e6
      refine z_callS hB (as := [.int (x2)]) (rest := []) rfl rfl rfl hc9 (fun hB => ?_)
      refine z_aload hB rfl (fun hB => ?_)
      refine y_getm ok hB (by decide +kernel) hn.1 (fun hB => ?_)
      refine y_getr (b := (n + 7)) ok hB hn.2 (zla_r1 hn.2) (fun hB => ?_)
      refine y_getr (b := ((n + 7) + 1)) ok hB (zla_k1 hn.2) (zst_r7 (zla_k1 hn.2)) (fun hB => ?_)
      refine z_iload hB rfl (fun hB => ?_)
      obtain ⟨g9, h⟩ := z_gd h
      refine y_fald ok hB (zst_k1 (zla_k1 hn.2)) (zst_l1 (zla_k1 hn.2)) g9 (zst_fR (zla_k1 hn.2) g9) (fun hB => ?_)
      refine z_iload hB rfl (fun hB => ?_)
      obtain ⟨q10, e11, h⟩ := z_bind h
      refine y_cv ok hB (as := [.int (x2)]) (a := ((n + 7) + 2 + z_n (x1))) (rest := []) rfl rfl rfl (zst_fK (zla_k1 hn.2) g9) (t_G_ironsUntilSmooth (I := I) ok (zst_fK (zla_k1 hn.2) g9) e11) (fun hB => ?_)
      cases h
      exact z_reti hB
def d_F_readyShare (n : Nat) (I : z_H) : Option (Nat ⊕ UInt32) := ((d_F_needText I).bind fun q1 => (match q1 with | .inl v3 => some (Sum.inl v3) | .inr v4 => (if (I (n + 7) 6) = jn 0 then some (Sum.inr (FP.fconst0)) else ((d_S_readyFlags (n + 7) I).bind fun q5 => ((d_S_flagsAt (n + 7) ((jn 3)) I).bind fun q7 => (if (FP.fdiv (FP.i2f (q5 + q7)) (FP.i2f (I (n + 7) 6))) &&& 0x7fffffff ≤ 0x7f800000 then some (Sum.inr ((FP.fdiv (FP.i2f (q5 + q7)) (FP.i2f (I (n + 7) 6))))) else none))))))
/-- FlagLaundry.readyShare()F -/
theorem t_F_readyShare {G : z_G} {w : ev_W} (ok : z_Ok G w) {n : Nat} (hn : z_fc w n) {I : z_H} {r : Nat ⊕ UInt32} (h : d_F_readyShare n I = some r) : z_K G 169 [.ref (0)] (z_w w I) (z_o z_vf r) (z_ow (z_w w I) r) := by
  refine z_con ok.1 (ml := 2) (by decide +kernel) rfl rfl ?_
  show z_R G 169 0 [some (.ref (0)), none] [] (z_w w I) (z_o z_vf r) (z_ow (z_w w I) r)
  unfold d_F_readyShare at h
  have hB : z_all [z_is 169 0 (zf_aload 0 0 1), z_is 169 1 (zf_cv 1 192 0 7 4), z_is 169 4 (zf_aload 4 0 5), z_is 169 5 (zf_getr 5 7 5 8), z_is 169 8 (zf_getr 8 2 1 11), z_is 169 11 (zf_geti 11 5 6 14), z_is 169 14 (zf_istore 14 1 15), z_is 169 15 (zf_iload 15 1 16), z_is 169 16 (zf_if1 .ne 16 21 19)] = true := by decide +kernel
  refine z_aload hB rfl (fun hB => ?_)
  obtain ⟨q1, e2, h⟩ := z_bind h
  cases q1 with
  | inl v3 =>
    have hc9 := t_F_needText (I := I) ok e2
    cases h
    exact y_cvx ok hB (as := []) (a := 0) (rest := []) rfl (by decide +kernel) rfl rfl (by decide +kernel) hc9
  | inr v4 =>
    have hc9 := t_F_needText (I := I) ok e2
    refine y_cv ok hB (as := []) (a := 0) (rest := []) rfl rfl rfl (by decide +kernel) hc9 (fun hB => ?_)
    refine z_aload hB rfl (fun hB => ?_)
    refine y_getm ok hB (by decide +kernel) hn.1 (fun hB => ?_)
    refine y_getr (b := (n + 7)) ok hB hn.2 (zla_r1 hn.2) (fun hB => ?_)
    refine y_geti ok hB (zla_k1 hn.2) (fun hB => ?_)
    refine z_istore hB rfl rfl (fun hB => ?_)
    refine z_iload hB rfl (fun hB => ?_)
    refine z_if_ne hB (fun hc _ => ?_) (fun hc _ => ?_)
    · have h := z_neg hc h
      have hB : z_all [z_is 169 21 (zf_aload 21 0 22), z_is 169 22 (zf_getr 22 7 5 25), z_is 169 25 (zf_getr 25 2 1 28), z_is 169 28 (zf_cv 28 101 0 5 31), z_is 169 31 (zf_aload 31 0 32), z_is 169 32 (zf_getr 32 7 5 35), z_is 169 35 (zf_getr 35 2 1 38), z_is 169 38 (zf_cst 38 (jn 3) 39), z_is 169 39 (zf_cv 39 100 1 5 42), z_is 169 42 (zf_iadd 42 43), z_is 169 43 (zf_i2f 43 44), z_is 169 44 (zf_iload 44 1 45), z_is 169 45 (zf_i2f 45 46), z_at 169 46 (zf_fdiv 46 47), z_is 169 47 (zf_ret 3)] = true := by decide +kernel
      refine z_aload hB rfl (fun hB => ?_)
      refine y_getm ok hB (by decide +kernel) hn.1 (fun hB => ?_)
      refine y_getr (b := (n + 7)) ok hB hn.2 (zla_r1 hn.2) (fun hB => ?_)
      obtain ⟨q5, e6, h⟩ := z_bind h
      refine y_cv ok hB (as := []) (a := (n + 7)) (rest := []) rfl rfl rfl (zla_k1 hn.2) (t_S_readyFlags (I := I) ok (zla_k1 hn.2) e6) (fun hB => ?_)
      refine z_aload hB rfl (fun hB => ?_)
      refine y_getm ok hB (by decide +kernel) hn.1 (fun hB => ?_)
      refine y_getr (b := (n + 7)) ok hB hn.2 (zla_r1 hn.2) (fun hB => ?_)
      refine z_cst hB (fun hB => ?_)
      obtain ⟨q7, e8, h⟩ := z_bind h
      refine y_cv ok hB (as := [.int ((jn 3))]) (a := (n + 7)) (rest := [.int (q5)]) rfl rfl rfl (zla_k1 hn.2) (t_S_flagsAt (I := I) ok (zla_k1 hn.2) e8) (fun hB => ?_)
      refine z_iadd hB (fun hB => ?_)
      refine z_i2f hB (fun hB => ?_)
      refine z_iload hB rfl (fun hB => ?_)
      refine z_i2f hB (fun hB => ?_)
      obtain ⟨g9, h⟩ := z_gd h
      refine z_fdiv hB g9 (fun hB => ?_)
      cases h
      exact z_retf hB
    · have h := z_pos hc h
      have hB : z_all [z_is 169 19 (zf_fc0 19 20), z_is 169 20 (zf_ret 3)] = true := by decide +kernel
      refine z_fc0 hB (fun hB => ?_)
      cases h
      exact z_retf hB
def d_F_meanDirt (n : Nat) (I : z_H) : Option (Nat ⊕ UInt64) := ((d_F_needText I).bind fun q1 => (match q1 with | .inl v3 => some (Sum.inl v3) | .inr v4 => (if (I (n + 7) 6) = jn 0 then some (Sum.inr (FP.dconst0)) else ((d_S_dirtOfAll (n + 7) I).bind fun q5 => (if (FP.ddiv (FP.i2d q5) (FP.i2d (I (n + 7) 6))) &&& 0x7fffffffffffffff ≤ 0x7ff0000000000000 then some (Sum.inr ((FP.ddiv (FP.i2d q5) (FP.i2d (I (n + 7) 6))))) else none)))))
/-- FlagLaundry.meanDirt()D -/
theorem t_F_meanDirt {G : z_G} {w : ev_W} (ok : z_Ok G w) {n : Nat} (hn : z_fc w n) {I : z_H} {r : Nat ⊕ UInt64} (h : d_F_meanDirt n I = some r) : z_K G 170 [.ref (0)] (z_w w I) (z_o z_vd r) (z_ow (z_w w I) r) := by
  refine z_con ok.1 (ml := 2) (by decide +kernel) rfl rfl ?_
  show z_R G 170 0 [some (.ref (0)), none] [] (z_w w I) (z_o z_vd r) (z_ow (z_w w I) r)
  unfold d_F_meanDirt at h
  have hB : z_all [z_is 170 0 (zf_aload 0 0 1), z_is 170 1 (zf_cv 1 192 0 7 4), z_is 170 4 (zf_aload 4 0 5), z_is 170 5 (zf_getr 5 7 5 8), z_is 170 8 (zf_getr 8 2 1 11), z_is 170 11 (zf_geti 11 5 6 14), z_is 170 14 (zf_istore 14 1 15), z_is 170 15 (zf_iload 15 1 16), z_is 170 16 (zf_if1 .ne 16 21 19)] = true := by decide +kernel
  refine z_aload hB rfl (fun hB => ?_)
  obtain ⟨q1, e2, h⟩ := z_bind h
  cases q1 with
  | inl v3 =>
    have hc9 := t_F_needText (I := I) ok e2
    cases h
    exact y_cvx ok hB (as := []) (a := 0) (rest := []) rfl (by decide +kernel) rfl rfl (by decide +kernel) hc9
  | inr v4 =>
    have hc9 := t_F_needText (I := I) ok e2
    refine y_cv ok hB (as := []) (a := 0) (rest := []) rfl rfl rfl (by decide +kernel) hc9 (fun hB => ?_)
    refine z_aload hB rfl (fun hB => ?_)
    refine y_getm ok hB (by decide +kernel) hn.1 (fun hB => ?_)
    refine y_getr (b := (n + 7)) ok hB hn.2 (zla_r1 hn.2) (fun hB => ?_)
    refine y_geti ok hB (zla_k1 hn.2) (fun hB => ?_)
    refine z_istore hB rfl rfl (fun hB => ?_)
    refine z_iload hB rfl (fun hB => ?_)
    refine z_if_ne hB (fun hc _ => ?_) (fun hc _ => ?_)
    · have h := z_neg hc h
      have hB : z_all [z_is 170 21 (zf_aload 21 0 22), z_is 170 22 (zf_getr 22 7 5 25), z_is 170 25 (zf_getr 25 2 1 28), z_is 170 28 (zf_cv 28 107 0 5 31), z_is 170 31 (zf_i2d 31 32), z_is 170 32 (zf_iload 32 1 33), z_is 170 33 (zf_i2d 33 34), z_at 170 34 (zf_ddiv 34 35), z_is 170 35 (zf_ret 4)] = true := by decide +kernel
      refine z_aload hB rfl (fun hB => ?_)
      refine y_getm ok hB (by decide +kernel) hn.1 (fun hB => ?_)
      refine y_getr (b := (n + 7)) ok hB hn.2 (zla_r1 hn.2) (fun hB => ?_)
      obtain ⟨q5, e6, h⟩ := z_bind h
      refine y_cv ok hB (as := []) (a := (n + 7)) (rest := []) rfl rfl rfl (zla_k1 hn.2) (t_S_dirtOfAll (I := I) ok (zla_k1 hn.2) e6) (fun hB => ?_)
      refine z_i2d hB (fun hB => ?_)
      refine z_iload hB rfl (fun hB => ?_)
      refine z_i2d hB (fun hB => ?_)
      obtain ⟨g7, h⟩ := z_gd h
      refine z_ddiv hB g7 (fun hB => ?_)
      cases h
      exact z_retd hB
    · have h := z_pos hc h
      have hB : z_all [z_is 170 19 (zf_dc0 19 20), z_is 170 20 (zf_ret 4)] = true := by decide +kernel
      refine z_dc0 hB (fun hB => ?_)
      cases h
      exact z_retd hB
def d_F_writeFlag (n : Nat) (x1 : Int32) (I : z_H) : Option ((Nat ⊕ Int32) × z_H) := ((d_F_needFlag n (x1) I).bind fun q1 => (match q1 with | .inl v3 => some ((Sum.inl v3, I)) | .inr v4 => (if z_in (x1) 12 then ((d_T_tellFlag (((n + 7) + 2 + z_n (x1))) I).bind fun q6 => some ((Sum.inr ((q6 239 0)), q6))) else none)))
/-- FlagLaundry.writeFlag(I)I -/
theorem t_F_writeFlag {G : z_G} {w : ev_W} (ok : z_Ok G w) {n : Nat} {x1 : Int32} (hn : z_fc w n) {I : z_H} {r : (Nat ⊕ Int32) × z_H} (h : d_F_writeFlag n x1 I = some r) : z_K G 171 [.ref (0), .int (x1)] (z_w w I) (z_o z_vi r.1) (z_ow (z_w w r.2) r.1) := by
  refine z_con ok.1 (ml := 2) (by decide +kernel) rfl rfl ?_
  show z_R G 171 0 [some (.ref (0)), some (.int (x1))] [] (z_w w I) (z_o z_vi r.1) (z_ow (z_w w r.2) r.1)
  unfold d_F_writeFlag at h
  have hB : z_all [z_is 171 0 (zf_aload 0 0 1), z_is 171 1 (zf_iload 1 1 2), z_is 171 2 (zf_cv 2 193 1 7 5), z_is 171 5 (zf_aload 5 0 6), z_is 171 6 (zf_getr 6 7 9 9), z_is 171 9 (zf_aload 9 0 10), z_is 171 10 (zf_getr 10 7 5 13), z_is 171 13 (zf_getr 13 2 1 16), z_is 171 16 (zf_getr 16 5 7 19), z_is 171 19 (zf_iload 19 1 20), z_is 171 20 (zf_aald 20 21), z_is 171 21 (zf_cv 21 126 1 6 24), z_is 171 24 (zf_aload 24 0 25), z_is 171 25 (zf_getr 25 7 9 28), z_is 171 28 (zf_geti 28 6 0 31), z_is 171 31 (zf_ret 0)] = true := by decide +kernel
  refine z_aload hB rfl (fun hB => ?_)
  refine z_iload hB rfl (fun hB => ?_)
  obtain ⟨q1, e2, h⟩ := z_bind h
  cases q1 with
  | inl v3 =>
    have hc9 := t_F_needFlag (I := I) ok hn e2
    cases h
    exact y_cvx ok hB (as := [.int (x1)]) (a := 0) (rest := []) rfl (by decide +kernel) rfl rfl (by decide +kernel) hc9
  | inr v4 =>
    have hc9 := t_F_needFlag (I := I) ok hn e2
    refine y_cv ok hB (as := [.int (x1)]) (a := 0) (rest := []) rfl rfl rfl (by decide +kernel) hc9 (fun hB => ?_)
    refine z_aload hB rfl (fun hB => ?_)
    refine y_getr (b := 239) ok hB (by decide +kernel) (by decide +kernel) (fun hB => ?_)
    refine z_aload hB rfl (fun hB => ?_)
    refine y_getm ok hB (by decide +kernel) hn.1 (fun hB => ?_)
    refine y_getr (b := (n + 7)) ok hB hn.2 (zla_r1 hn.2) (fun hB => ?_)
    refine y_getr (b := ((n + 7) + 1)) ok hB (zla_k1 hn.2) (zst_r7 (zla_k1 hn.2)) (fun hB => ?_)
    refine z_iload hB rfl (fun hB => ?_)
    obtain ⟨g5, h⟩ := z_gd h
    refine y_fald ok hB (zst_k1 (zla_k1 hn.2)) (zst_l1 (zla_k1 hn.2)) g5 (zst_fR (zla_k1 hn.2) g5) (fun hB => ?_)
    obtain ⟨q6, e7, h⟩ := z_bind h
    refine y_cv ok hB (as := [.ref (((n + 7) + 2 + z_n (x1)))]) (a := 239) (rest := []) rfl rfl rfl (by decide +kernel) (t_T_tellFlag (I := I) ok (zst_fK (zla_k1 hn.2) g5) e7) (fun hB => ?_)
    refine z_aload hB rfl (fun hB => ?_)
    refine y_getr (b := 239) ok hB (by decide +kernel) (by decide +kernel) (fun hB => ?_)
    refine y_geti ok hB (by decide +kernel) (fun hB => ?_)
    cases h
    exact z_reti hB
def d_F_writeTub (n : Nat) (x1 : Int32) (I : z_H) : Option ((Nat ⊕ Int32) × z_H) := ((d_F_needTub n (x1) I).bind fun q1 => (match q1 with | .inl v3 => some ((Sum.inl v3, I)) | .inr v4 => ((d_T_tellTub ((n + 7)) (x1) I).bind fun q5 => some ((Sum.inr ((q5 239 0)), q5)))))
/-- FlagLaundry.writeTub(I)I -/
theorem t_F_writeTub {G : z_G} {w : ev_W} (ok : z_Ok G w) {n : Nat} {x1 : Int32} (hn : z_fc w n) {I : z_H} {r : (Nat ⊕ Int32) × z_H} (h : d_F_writeTub n x1 I = some r) : z_K G 172 [.ref (0), .int (x1)] (z_w w I) (z_o z_vi r.1) (z_ow (z_w w r.2) r.1) := by
  refine z_con ok.1 (ml := 2) (by decide +kernel) rfl rfl ?_
  show z_R G 172 0 [some (.ref (0)), some (.int (x1))] [] (z_w w I) (z_o z_vi r.1) (z_ow (z_w w r.2) r.1)
  unfold d_F_writeTub at h
  have hB : z_all [z_is 172 0 (zf_aload 0 0 1), z_is 172 1 (zf_iload 1 1 2), z_is 172 2 (zf_cv 2 194 1 7 5), z_is 172 5 (zf_aload 5 0 6), z_is 172 6 (zf_getr 6 7 9 9), z_is 172 9 (zf_aload 9 0 10), z_is 172 10 (zf_getr 10 7 5 13), z_is 172 13 (zf_getr 13 2 1 16), z_is 172 16 (zf_iload 16 1 17), z_is 172 17 (zf_cv 17 127 2 6 20), z_is 172 20 (zf_aload 20 0 21), z_is 172 21 (zf_getr 21 7 9 24), z_is 172 24 (zf_geti 24 6 0 27), z_is 172 27 (zf_ret 0)] = true := by decide +kernel
  refine z_aload hB rfl (fun hB => ?_)
  refine z_iload hB rfl (fun hB => ?_)
  obtain ⟨q1, e2, h⟩ := z_bind h
  cases q1 with
  | inl v3 =>
    have hc9 := t_F_needTub (I := I) ok hn e2
    cases h
    exact y_cvx ok hB (as := [.int (x1)]) (a := 0) (rest := []) rfl (by decide +kernel) rfl rfl (by decide +kernel) hc9
  | inr v4 =>
    have hc9 := t_F_needTub (I := I) ok hn e2
    refine y_cv ok hB (as := [.int (x1)]) (a := 0) (rest := []) rfl rfl rfl (by decide +kernel) hc9 (fun hB => ?_)
    refine z_aload hB rfl (fun hB => ?_)
    refine y_getr (b := 239) ok hB (by decide +kernel) (by decide +kernel) (fun hB => ?_)
    refine z_aload hB rfl (fun hB => ?_)
    refine y_getm ok hB (by decide +kernel) hn.1 (fun hB => ?_)
    refine y_getr (b := (n + 7)) ok hB hn.2 (zla_r1 hn.2) (fun hB => ?_)
    refine z_iload hB rfl (fun hB => ?_)
    obtain ⟨q5, e6, h⟩ := z_bind h
    refine y_cv ok hB (as := [.ref ((n + 7)), .int (x1)]) (a := 239) (rest := []) rfl rfl rfl (by decide +kernel) (t_T_tellTub (I := I) ok (zla_k1 hn.2) e6) (fun hB => ?_)
    refine z_aload hB rfl (fun hB => ?_)
    refine y_getr (b := 239) ok hB (by decide +kernel) (by decide +kernel) (fun hB => ?_)
    refine y_geti ok hB (by decide +kernel) (fun hB => ?_)
    cases h
    exact z_reti hB
def d_F_writeNation (n : Nat) (x1 : Int32) (I : z_H) : Option ((Nat ⊕ Int32) × z_H) := ((d_F_needNation n (x1) I).bind fun q1 => (match q1 with | .inl v3 => some ((Sum.inl v3, I)) | .inr v4 => ((d_T_tellNation ((n + 7)) (x1) I).bind fun q5 => some ((Sum.inr ((q5 239 0)), q5)))))
/-- FlagLaundry.writeNation(I)I -/
theorem t_F_writeNation {G : z_G} {w : ev_W} (ok : z_Ok G w) {n : Nat} {x1 : Int32} (hn : z_fc w n) {I : z_H} {r : (Nat ⊕ Int32) × z_H} (h : d_F_writeNation n x1 I = some r) : z_K G 173 [.ref (0), .int (x1)] (z_w w I) (z_o z_vi r.1) (z_ow (z_w w r.2) r.1) := by
  refine z_con ok.1 (ml := 2) (by decide +kernel) rfl rfl ?_
  show z_R G 173 0 [some (.ref (0)), some (.int (x1))] [] (z_w w I) (z_o z_vi r.1) (z_ow (z_w w r.2) r.1)
  unfold d_F_writeNation at h
  have hB : z_all [z_is 173 0 (zf_aload 0 0 1), z_is 173 1 (zf_iload 1 1 2), z_is 173 2 (zf_cv 2 195 1 7 5), z_is 173 5 (zf_aload 5 0 6), z_is 173 6 (zf_getr 6 7 9 9), z_is 173 9 (zf_aload 9 0 10), z_is 173 10 (zf_getr 10 7 5 13), z_is 173 13 (zf_getr 13 2 1 16), z_is 173 16 (zf_iload 16 1 17), z_is 173 17 (zf_cv 17 128 2 6 20), z_is 173 20 (zf_aload 20 0 21), z_is 173 21 (zf_getr 21 7 9 24), z_is 173 24 (zf_geti 24 6 0 27), z_is 173 27 (zf_ret 0)] = true := by decide +kernel
  refine z_aload hB rfl (fun hB => ?_)
  refine z_iload hB rfl (fun hB => ?_)
  obtain ⟨q1, e2, h⟩ := z_bind h
  cases q1 with
  | inl v3 =>
    have hc9 := t_F_needNation (I := I) ok hn e2
    cases h
    exact y_cvx ok hB (as := [.int (x1)]) (a := 0) (rest := []) rfl (by decide +kernel) rfl rfl (by decide +kernel) hc9
  | inr v4 =>
    have hc9 := t_F_needNation (I := I) ok hn e2
    refine y_cv ok hB (as := [.int (x1)]) (a := 0) (rest := []) rfl rfl rfl (by decide +kernel) hc9 (fun hB => ?_)
    refine z_aload hB rfl (fun hB => ?_)
    refine y_getr (b := 239) ok hB (by decide +kernel) (by decide +kernel) (fun hB => ?_)
    refine z_aload hB rfl (fun hB => ?_)
    refine y_getm ok hB (by decide +kernel) hn.1 (fun hB => ?_)
    refine y_getr (b := (n + 7)) ok hB hn.2 (zla_r1 hn.2) (fun hB => ?_)
    refine z_iload hB rfl (fun hB => ?_)
    obtain ⟨q5, e6, h⟩ := z_bind h
    refine y_cv ok hB (as := [.ref ((n + 7)), .int (x1)]) (a := 239) (rest := []) rfl rfl rfl (by decide +kernel) (t_T_tellNation (I := I) ok (zla_k1 hn.2) e6) (fun hB => ?_)
    refine z_aload hB rfl (fun hB => ?_)
    refine y_getr (b := 239) ok hB (by decide +kernel) (by decide +kernel) (fun hB => ?_)
    refine y_geti ok hB (by decide +kernel) (fun hB => ?_)
    cases h
    exact z_reti hB
def d_F_writeLine (n : Nat) (I : z_H) : Option ((Nat ⊕ Int32) × z_H) := ((d_F_needText I).bind fun q1 => (match q1 with | .inl v3 => some ((Sum.inl v3, I)) | .inr v4 => ((d_T_tellLine ((n + 7)) ((I (n + 1) 0)) I).bind fun q5 => some ((Sum.inr ((q5 239 0)), q5)))))
/-- FlagLaundry.writeLine()I -/
theorem t_F_writeLine {G : z_G} {w : ev_W} (ok : z_Ok G w) {n : Nat} (hn : z_fc w n) {I : z_H} {r : (Nat ⊕ Int32) × z_H} (h : d_F_writeLine n I = some r) : z_K G 174 [.ref (0)] (z_w w I) (z_o z_vi r.1) (z_ow (z_w w r.2) r.1) := by
  refine z_con ok.1 (ml := 1) (by decide +kernel) rfl rfl ?_
  show z_R G 174 0 [some (.ref (0))] [] (z_w w I) (z_o z_vi r.1) (z_ow (z_w w r.2) r.1)
  unfold d_F_writeLine at h
  have hB : z_all [z_is 174 0 (zf_aload 0 0 1), z_is 174 1 (zf_cv 1 192 0 7 4), z_is 174 4 (zf_aload 4 0 5), z_is 174 5 (zf_getr 5 7 9 8), z_is 174 8 (zf_aload 8 0 9), z_is 174 9 (zf_getr 9 7 5 12), z_is 174 12 (zf_getr 12 2 1 15), z_is 174 15 (zf_aload 15 0 16), z_is 174 16 (zf_getr 16 7 5 19), z_is 174 19 (zf_getr 19 2 0 22), z_is 174 22 (zf_geti 22 4 0 25), z_is 174 25 (zf_cv 25 129 2 6 28), z_is 174 28 (zf_aload 28 0 29), z_is 174 29 (zf_getr 29 7 9 32), z_is 174 32 (zf_geti 32 6 0 35), z_is 174 35 (zf_ret 0)] = true := by decide +kernel
  refine z_aload hB rfl (fun hB => ?_)
  obtain ⟨q1, e2, h⟩ := z_bind h
  cases q1 with
  | inl v3 =>
    have hc9 := t_F_needText (I := I) ok e2
    cases h
    exact y_cvx ok hB (as := []) (a := 0) (rest := []) rfl (by decide +kernel) rfl rfl (by decide +kernel) hc9
  | inr v4 =>
    have hc9 := t_F_needText (I := I) ok e2
    refine y_cv ok hB (as := []) (a := 0) (rest := []) rfl rfl rfl (by decide +kernel) hc9 (fun hB => ?_)
    refine z_aload hB rfl (fun hB => ?_)
    refine y_getr (b := 239) ok hB (by decide +kernel) (by decide +kernel) (fun hB => ?_)
    refine z_aload hB rfl (fun hB => ?_)
    refine y_getm ok hB (by decide +kernel) hn.1 (fun hB => ?_)
    refine y_getr (b := (n + 7)) ok hB hn.2 (zla_r1 hn.2) (fun hB => ?_)
    refine z_aload hB rfl (fun hB => ?_)
    refine y_getm ok hB (by decide +kernel) hn.1 (fun hB => ?_)
    refine y_getr (b := (n + 1)) ok hB hn.2 (zla_r0 hn.2) (fun hB => ?_)
    refine y_geti ok hB (zla_k0 hn.2) (fun hB => ?_)
    obtain ⟨q5, e6, h⟩ := z_bind h
    refine y_cv ok hB (as := [.ref ((n + 7)), .int ((I (n + 1) 0))]) (a := 239) (rest := []) rfl rfl rfl (by decide +kernel) (t_T_tellLine (I := I) ok (zla_k1 hn.2) e6) (fun hB => ?_)
    refine z_aload hB rfl (fun hB => ?_)
    refine y_getr (b := 239) ok hB (by decide +kernel) (by decide +kernel) (fun hB => ?_)
    refine y_geti ok hB (by decide +kernel) (fun hB => ?_)
    cases h
    exact z_reti hB
def d_F_textByte (x1 : Int32) (I : z_H) : Option (Nat ⊕ Int32) := (if x1 < jn 0 then some (Sum.inl 1) else (if x1 < (I 239 0) then (if z_in (x1) 100 then some (Sum.inr ((I 240 (z_n (x1))))) else none) else some (Sum.inl 1)))
/-- FlagLaundry.textByte(I)I -/
theorem t_F_textByte {G : z_G} {w : ev_W} (ok : z_Ok G w) {x1 : Int32} {I : z_H} {r : Nat ⊕ Int32} (h : d_F_textByte x1 I = some r) : z_K G 175 [.ref (0), .int (x1)] (z_w w I) (z_o z_vi r) (z_ow (z_w w I) r) := by
  refine z_con ok.1 (ml := 2) (by decide +kernel) rfl rfl ?_
  show z_R G 175 0 [some (.ref (0)), some (.int (x1))] [] (z_w w I) (z_o z_vi r) (z_ow (z_w w I) r)
  unfold d_F_textByte at h
  have hB : z_all [z_is 175 0 (zf_iload 0 1 1), z_is 175 1 (zf_if1 .lt 1 15 4)] = true := by decide +kernel
  refine z_iload hB rfl (fun hB => ?_)
  refine z_if_lt hB (fun hc _ => ?_) (fun hc _ => ?_)
  · have h := z_pos hc h
    have hB : z_all [z_thr 175 15 1] = true := by decide +kernel
    cases h
    exact z_throw hB
  · have h := z_neg hc h
    have hB : z_all [z_is 175 4 (zf_iload 4 1 5), z_is 175 5 (zf_aload 5 0 6), z_is 175 6 (zf_getr 6 7 9 9), z_is 175 9 (zf_geti 9 6 0 12), z_is 175 12 (zf_if2 .lt 12 26 15)] = true := by decide +kernel
    refine z_iload hB rfl (fun hB => ?_)
    refine z_aload hB rfl (fun hB => ?_)
    refine y_getr (b := 239) ok hB (by decide +kernel) (by decide +kernel) (fun hB => ?_)
    refine y_geti ok hB (by decide +kernel) (fun hB => ?_)
    refine z_ic_lt hB (fun hc _ => ?_) (fun hc _ => ?_)
    · have h := z_pos hc h
      have hB : z_all [z_is 175 26 (zf_aload 26 0 27), z_is 175 27 (zf_getr 27 7 9 30), z_is 175 30 (zf_getr 30 6 1 33), z_is 175 33 (zf_iload 33 1 34), z_is 175 34 (zf_iald 34 35), z_is 175 35 (zf_ret 0)] = true := by decide +kernel
      refine z_aload hB rfl (fun hB => ?_)
      refine y_getr (b := 239) ok hB (by decide +kernel) (by decide +kernel) (fun hB => ?_)
      refine y_getr (b := 240) ok hB (by decide +kernel) (by decide +kernel) (fun hB => ?_)
      refine z_iload hB rfl (fun hB => ?_)
      obtain ⟨g1, h⟩ := z_gd h
      refine y_iald ok hB (by decide +kernel) (by decide +kernel) g1 (fun hB => ?_)
      cases h
      exact z_reti hB
    · have h := z_neg hc h
      have hB : z_all [z_thr 175 15 1] = true := by decide +kernel
      cases h
      exact z_throw hB
def d_F_needAllowed (x1 : Int32) : Option (Nat ⊕ Unit) := (if x1 = jn 0 then some (Sum.inl 2) else some (Sum.inr (())))
/-- FlagLaundry.needAllowed(Z)V -/
theorem t_F_needAllowed {G : z_G} {w : ev_W} (ok : z_Ok G w) {x1 : Int32} {I : z_H} {r : Nat ⊕ Unit} (h : d_F_needAllowed x1 = some r) : z_K G 199 [.int (x1)] (z_w w I) (z_o z_vv r) (z_ow (z_w w I) r) := by
  refine z_con ok.1 (ml := 1) (by decide +kernel) rfl rfl ?_
  show z_R G 199 0 [some (.int (x1))] [] (z_w w I) (z_o z_vv r) (z_ow (z_w w I) r)
  unfold d_F_needAllowed at h
  have hB : z_all [z_is 199 0 (zf_iload 0 0 1), z_is 199 1 (zf_if1 .ne 1 15 4)] = true := by decide +kernel
  refine z_iload hB rfl (fun hB => ?_)
  refine z_if_ne hB (fun hc _ => ?_) (fun hc _ => ?_)
  · have h := z_neg hc h
    have hB : z_all [z_is 199 15 (zf_ret 6)] = true := by decide +kernel
    cases h
    exact z_retv hB
  · have h := z_pos hc h
    have hB : z_all [z_thr 199 4 2] = true := by decide +kernel
    cases h
    exact z_throw hB
def d_F_put (n : Nat) (x1 : Int32) (x2 : Int32) (I : z_H) : Option ((Nat ⊕ Int32) × z_H) := ((d_F_needFlag n (x1) I).bind fun q1 => (match q1 with | .inl v3 => some ((Sum.inl v3, I)) | .inr v4 => ((d_F_needTub n (x2) I).bind fun q5 => (match q5 with | .inl v7 => some ((Sum.inl v7, I)) | .inr v8 => ((d_L_reasonAgainstPut n (x1) (x2) I).bind fun q9 => (Option.bind (α := Int32) (if q9 = jn 0 then some ((jn 1)) else some ((jn 0))) fun q11 => ((d_F_needAllowed (q11)).bind fun q14 => (match q14 with | .inl v16 => some ((Sum.inl v16, I)) | .inr v17 => ((d_H_keep ((n + 7)) I).bind fun q18 => ((d_S_moveToTub (n + 7) (x1) (x2) q18).bind fun q20 => some ((Sum.inr (q20.1), q20.2))))))))))))
/-- FlagLaundry.put(II)I -/
theorem t_F_put {G : z_G} {w : ev_W} (ok : z_Ok G w) {n : Nat} {x1 : Int32} {x2 : Int32} (hn : z_fc w n) {I : z_H} {r : (Nat ⊕ Int32) × z_H} (h : d_F_put n x1 x2 I = some r) : z_K G 176 [.ref (0), .int (x1), .int (x2)] (z_w w I) (z_o z_vi r.1) (z_ow (z_w w r.2) r.1) := by
  refine z_con ok.1 (ml := 3) (by decide +kernel) rfl rfl ?_
  show z_R G 176 0 [some (.ref (0)), some (.int (x1)), some (.int (x2))] [] (z_w w I) (z_o z_vi r.1) (z_ow (z_w w r.2) r.1)
  unfold d_F_put at h
  have hB : z_all [z_is 176 0 (zf_aload 0 0 1), z_is 176 1 (zf_iload 1 1 2), z_is 176 2 (zf_cv 2 193 1 7 5), z_is 176 5 (zf_aload 5 0 6), z_is 176 6 (zf_iload 6 2 7), z_is 176 7 (zf_cv 7 194 1 7 10), z_is 176 10 (zf_aload 10 0 11), z_is 176 11 (zf_getr 11 7 5 14), z_is 176 14 (zf_iload 14 1 15), z_is 176 15 (zf_iload 15 2 16), z_is 176 16 (zf_cv 16 37 2 2 19), z_is 176 19 (zf_if1 .ne 19 26 22)] = true := by decide +kernel
  refine z_aload hB rfl (fun hB => ?_)
  refine z_iload hB rfl (fun hB => ?_)
  obtain ⟨q1, e2, h⟩ := z_bind h
  cases q1 with
  | inl v3 =>
    have hc9 := t_F_needFlag (I := I) ok hn e2
    cases h
    exact y_cvx ok hB (as := [.int (x1)]) (a := 0) (rest := []) rfl (by decide +kernel) rfl rfl (by decide +kernel) hc9
  | inr v4 =>
    have hc9 := t_F_needFlag (I := I) ok hn e2
    refine y_cv ok hB (as := [.int (x1)]) (a := 0) (rest := []) rfl rfl rfl (by decide +kernel) hc9 (fun hB => ?_)
    refine z_aload hB rfl (fun hB => ?_)
    refine z_iload hB rfl (fun hB => ?_)
    obtain ⟨q5, e6, h⟩ := z_bind h
    cases q5 with
    | inl v7 =>
      have hc9 := t_F_needTub (I := I) ok hn e6
      cases h
      exact y_cvx ok hB (as := [.int (x2)]) (a := 0) (rest := []) rfl (by decide +kernel) rfl rfl (by decide +kernel) hc9
    | inr v8 =>
      have hc9 := t_F_needTub (I := I) ok hn e6
      refine y_cv ok hB (as := [.int (x2)]) (a := 0) (rest := []) rfl rfl rfl (by decide +kernel) hc9 (fun hB => ?_)
      refine z_aload hB rfl (fun hB => ?_)
      refine y_getm ok hB (by decide +kernel) hn.1 (fun hB => ?_)
      refine z_iload hB rfl (fun hB => ?_)
      refine z_iload hB rfl (fun hB => ?_)
      obtain ⟨q9, e10, h⟩ := z_bind h
      refine y_cv ok hB (as := [.int (x1), .int (x2)]) (a := n) (rest := []) rfl rfl rfl hn.2 (t_L_reasonAgainstPut (I := I) ok hn.2 e10) (fun hB => ?_)
      obtain ⟨q11, e12, h⟩ := z_bind h
      have k13 : z_R G 176 27 [some (.ref (0)), some (.int (x1)), some (.int (x2))] [.int (q11)] (z_w w I) (z_o z_vi r.1) (z_ow (z_w w r.2) r.1) := by
        have hB : z_all [z_is 176 27 (zf_cs 27 199 1 30), z_is 176 30 (zf_aload 30 0 31), z_is 176 31 (zf_getr 31 7 8 34), z_is 176 34 (zf_aload 34 0 35), z_is 176 35 (zf_getr 35 7 5 38), z_is 176 38 (zf_getr 38 2 1 41), z_is 176 41 (zf_cv 41 24 1 1 44), z_is 176 44 (zf_aload 44 0 45), z_is 176 45 (zf_getr 45 7 5 48), z_is 176 48 (zf_getr 48 2 1 51), z_is 176 51 (zf_iload 51 1 52), z_is 176 52 (zf_iload 52 2 53), z_is 176 53 (zf_cv 53 109 2 5 56), z_is 176 56 (zf_ret 0)] = true := by decide +kernel
        obtain ⟨q14, e15, h⟩ := z_bind h
        cases q14 with
        | inl v16 =>
          have hc9 := t_F_needAllowed (I := I) ok e15
          cases h
          exact z_callSx hB (as := [.int (q11)]) (rest := []) rfl (by decide +kernel) rfl rfl hc9
        | inr v17 =>
          have hc9 := t_F_needAllowed (I := I) ok e15
          refine z_callS hB (as := [.int (q11)]) (rest := []) rfl rfl rfl hc9 (fun hB => ?_)
          refine z_aload hB rfl (fun hB => ?_)
          refine y_getr (b := 55) ok hB (by decide +kernel) (by decide +kernel) (fun hB => ?_)
          refine z_aload hB rfl (fun hB => ?_)
          refine y_getm ok hB (by decide +kernel) hn.1 (fun hB => ?_)
          refine y_getr (b := (n + 7)) ok hB hn.2 (zla_r1 hn.2) (fun hB => ?_)
          obtain ⟨q18, e19, h⟩ := z_bind h
          refine y_cv ok hB (as := [.ref ((n + 7))]) (a := 55) (rest := []) rfl rfl rfl (by decide +kernel) (t_H_keep (I := I) ok (zla_k1 hn.2) e19) (fun hB => ?_)
          refine z_aload hB rfl (fun hB => ?_)
          refine y_getm ok hB (by decide +kernel) hn.1 (fun hB => ?_)
          refine y_getr (b := (n + 7)) ok hB hn.2 (zla_r1 hn.2) (fun hB => ?_)
          refine z_iload hB rfl (fun hB => ?_)
          refine z_iload hB rfl (fun hB => ?_)
          obtain ⟨q20, e21, h⟩ := z_bind h
          refine y_cv ok hB (as := [.int (x1), .int (x2)]) (a := (n + 7)) (rest := []) rfl rfl rfl (zla_k1 hn.2) (t_S_moveToTub (I := q18) ok (zla_k1 hn.2) e21) (fun hB => ?_)
          cases h
          exact z_reti hB
      have h := e12
      refine z_if_ne hB (fun hc _ => ?_) (fun hc _ => ?_)
      · have h := z_neg hc h
        have hB : z_all [z_is 176 26 (zf_cst 26 (jn 0) 27)] = true := by decide +kernel
        refine z_cst hB (fun hB => ?_)
        cases h
        exact z_weak k13 (z_se (z_se (z_se z_s0)))
      · have h := z_pos hc h
        have hB : z_all [z_is 176 22 (zf_cst 22 (jn 1) 23), z_is 176 23 (zf_goto 23 27)] = true := by decide +kernel
        refine z_cst hB (fun hB => ?_)
        refine z_goto hB (fun hB => ?_)
        cases h
        exact z_weak k13 (z_se (z_se (z_se z_s0)))
def d_F_wash (n : Nat) (x1 : Int32) (x2 : Int32) (I : z_H) : Option ((Nat ⊕ Int32) × z_H) := ((d_F_needTub n (x1) I).bind fun q1 => (match q1 with | .inl v3 => some ((Sum.inl v3, I)) | .inr v4 => ((d_F_needHeat (x2)).bind fun q5 => (match q5 with | .inl v7 => some ((Sum.inl v7, I)) | .inr v8 => ((d_L_reasonAgainstWash n (x1) (x2) I).bind fun q9 => (Option.bind (α := Int32) (if q9 = jn 0 then some ((jn 1)) else some ((jn 0))) fun q11 => ((d_F_needAllowed (q11)).bind fun q14 => (match q14 with | .inl v16 => some ((Sum.inl v16, I)) | .inr v17 => ((d_H_keep ((n + 7)) I).bind fun q18 => ((d_L_washTub n (x1) (x2) q18).bind fun q20 => some ((Sum.inr (q20.1), q20.2))))))))))))
/-- FlagLaundry.wash(II)I -/
theorem t_F_wash {G : z_G} {w : ev_W} (ok : z_Ok G w) {n : Nat} {x1 : Int32} {x2 : Int32} (hn : z_fc w n) {I : z_H} {r : (Nat ⊕ Int32) × z_H} (h : d_F_wash n x1 x2 I = some r) : z_K G 177 [.ref (0), .int (x1), .int (x2)] (z_w w I) (z_o z_vi r.1) (z_ow (z_w w r.2) r.1) := by
  refine z_con ok.1 (ml := 3) (by decide +kernel) rfl rfl ?_
  show z_R G 177 0 [some (.ref (0)), some (.int (x1)), some (.int (x2))] [] (z_w w I) (z_o z_vi r.1) (z_ow (z_w w r.2) r.1)
  unfold d_F_wash at h
  have hB : z_all [z_is 177 0 (zf_aload 0 0 1), z_is 177 1 (zf_iload 1 1 2), z_is 177 2 (zf_cv 2 194 1 7 5), z_is 177 5 (zf_iload 5 2 6), z_is 177 6 (zf_cs 6 197 1 9), z_is 177 9 (zf_aload 9 0 10), z_is 177 10 (zf_getr 10 7 5 13), z_is 177 13 (zf_iload 13 1 14), z_is 177 14 (zf_iload 14 2 15), z_is 177 15 (zf_cv 15 38 2 2 18), z_is 177 18 (zf_if1 .ne 18 25 21)] = true := by decide +kernel
  refine z_aload hB rfl (fun hB => ?_)
  refine z_iload hB rfl (fun hB => ?_)
  obtain ⟨q1, e2, h⟩ := z_bind h
  cases q1 with
  | inl v3 =>
    have hc9 := t_F_needTub (I := I) ok hn e2
    cases h
    exact y_cvx ok hB (as := [.int (x1)]) (a := 0) (rest := []) rfl (by decide +kernel) rfl rfl (by decide +kernel) hc9
  | inr v4 =>
    have hc9 := t_F_needTub (I := I) ok hn e2
    refine y_cv ok hB (as := [.int (x1)]) (a := 0) (rest := []) rfl rfl rfl (by decide +kernel) hc9 (fun hB => ?_)
    refine z_iload hB rfl (fun hB => ?_)
    obtain ⟨q5, e6, h⟩ := z_bind h
    cases q5 with
    | inl v7 =>
      have hc9 := t_F_needHeat (I := I) ok e6
      cases h
      exact z_callSx hB (as := [.int (x2)]) (rest := []) rfl (by decide +kernel) rfl rfl hc9
    | inr v8 =>
      have hc9 := t_F_needHeat (I := I) ok e6
      refine z_callS hB (as := [.int (x2)]) (rest := []) rfl rfl rfl hc9 (fun hB => ?_)
      refine z_aload hB rfl (fun hB => ?_)
      refine y_getm ok hB (by decide +kernel) hn.1 (fun hB => ?_)
      refine z_iload hB rfl (fun hB => ?_)
      refine z_iload hB rfl (fun hB => ?_)
      obtain ⟨q9, e10, h⟩ := z_bind h
      refine y_cv ok hB (as := [.int (x1), .int (x2)]) (a := n) (rest := []) rfl rfl rfl hn.2 (t_L_reasonAgainstWash (I := I) ok hn.2 e10) (fun hB => ?_)
      obtain ⟨q11, e12, h⟩ := z_bind h
      have k13 : z_R G 177 26 [some (.ref (0)), some (.int (x1)), some (.int (x2))] [.int (q11)] (z_w w I) (z_o z_vi r.1) (z_ow (z_w w r.2) r.1) := by
        have hB : z_all [z_is 177 26 (zf_cs 26 199 1 29), z_is 177 29 (zf_aload 29 0 30), z_is 177 30 (zf_getr 30 7 8 33), z_is 177 33 (zf_aload 33 0 34), z_is 177 34 (zf_getr 34 7 5 37), z_is 177 37 (zf_getr 37 2 1 40), z_is 177 40 (zf_cv 40 24 1 1 43), z_is 177 43 (zf_aload 43 0 44), z_is 177 44 (zf_getr 44 7 5 47), z_is 177 47 (zf_iload 47 1 48), z_is 177 48 (zf_iload 48 2 49), z_is 177 49 (zf_cv 49 39 2 2 52), z_is 177 52 (zf_ret 0)] = true := by decide +kernel
        obtain ⟨q14, e15, h⟩ := z_bind h
        cases q14 with
        | inl v16 =>
          have hc9 := t_F_needAllowed (I := I) ok e15
          cases h
          exact z_callSx hB (as := [.int (q11)]) (rest := []) rfl (by decide +kernel) rfl rfl hc9
        | inr v17 =>
          have hc9 := t_F_needAllowed (I := I) ok e15
          refine z_callS hB (as := [.int (q11)]) (rest := []) rfl rfl rfl hc9 (fun hB => ?_)
          refine z_aload hB rfl (fun hB => ?_)
          refine y_getr (b := 55) ok hB (by decide +kernel) (by decide +kernel) (fun hB => ?_)
          refine z_aload hB rfl (fun hB => ?_)
          refine y_getm ok hB (by decide +kernel) hn.1 (fun hB => ?_)
          refine y_getr (b := (n + 7)) ok hB hn.2 (zla_r1 hn.2) (fun hB => ?_)
          obtain ⟨q18, e19, h⟩ := z_bind h
          refine y_cv ok hB (as := [.ref ((n + 7))]) (a := 55) (rest := []) rfl rfl rfl (by decide +kernel) (t_H_keep (I := I) ok (zla_k1 hn.2) e19) (fun hB => ?_)
          refine z_aload hB rfl (fun hB => ?_)
          refine y_getm ok hB (by decide +kernel) hn.1 (fun hB => ?_)
          refine z_iload hB rfl (fun hB => ?_)
          refine z_iload hB rfl (fun hB => ?_)
          obtain ⟨q20, e21, h⟩ := z_bind h
          refine y_cv ok hB (as := [.int (x1), .int (x2)]) (a := n) (rest := []) rfl rfl rfl hn.2 (t_L_washTub (I := q18) ok hn.2 e21) (fun hB => ?_)
          cases h
          exact z_reti hB
      have h := e12
      refine z_if_ne hB (fun hc _ => ?_) (fun hc _ => ?_)
      · have h := z_neg hc h
        have hB : z_all [z_is 177 25 (zf_cst 25 (jn 0) 26)] = true := by decide +kernel
        refine z_cst hB (fun hB => ?_)
        cases h
        exact z_weak k13 (z_se (z_se (z_se z_s0)))
      · have h := z_pos hc h
        have hB : z_all [z_is 177 21 (zf_cst 21 (jn 1) 22), z_is 177 22 (zf_goto 22 26)] = true := by decide +kernel
        refine z_cst hB (fun hB => ?_)
        refine z_goto hB (fun hB => ?_)
        cases h
        exact z_weak k13 (z_se (z_se (z_se z_s0)))
def d_F_hang (n : Nat) (x1 : Int32) (I : z_H) : Option ((Nat ⊕ Int32) × z_H) := ((d_F_needFlag n (x1) I).bind fun q1 => (match q1 with | .inl v3 => some ((Sum.inl v3, I)) | .inr v4 => ((d_L_canHang n (x1) I).bind fun q5 => ((d_F_needAllowed (q5)).bind fun q7 => (match q7 with | .inl v9 => some ((Sum.inl v9, I)) | .inr v10 => ((d_H_keep ((n + 7)) I).bind fun q11 => ((d_L_hangOnFirstFree n (x1) q11).bind fun q13 => some ((Sum.inr (q13.1), q13.2)))))))))
/-- FlagLaundry.hang(I)I -/
theorem t_F_hang {G : z_G} {w : ev_W} (ok : z_Ok G w) {n : Nat} {x1 : Int32} (hn : z_fc w n) {I : z_H} {r : (Nat ⊕ Int32) × z_H} (h : d_F_hang n x1 I = some r) : z_K G 178 [.ref (0), .int (x1)] (z_w w I) (z_o z_vi r.1) (z_ow (z_w w r.2) r.1) := by
  refine z_con ok.1 (ml := 2) (by decide +kernel) rfl rfl ?_
  show z_R G 178 0 [some (.ref (0)), some (.int (x1))] [] (z_w w I) (z_o z_vi r.1) (z_ow (z_w w r.2) r.1)
  unfold d_F_hang at h
  have hB : z_all [z_is 178 0 (zf_aload 0 0 1), z_is 178 1 (zf_iload 1 1 2), z_is 178 2 (zf_cv 2 193 1 7 5), z_is 178 5 (zf_aload 5 0 6), z_is 178 6 (zf_getr 6 7 5 9), z_is 178 9 (zf_iload 9 1 10), z_is 178 10 (zf_cv 10 50 1 2 13), z_is 178 13 (zf_cs 13 199 1 16), z_is 178 16 (zf_aload 16 0 17), z_is 178 17 (zf_getr 17 7 8 20), z_is 178 20 (zf_aload 20 0 21), z_is 178 21 (zf_getr 21 7 5 24), z_is 178 24 (zf_getr 24 2 1 27), z_is 178 27 (zf_cv 27 24 1 1 30), z_is 178 30 (zf_aload 30 0 31), z_is 178 31 (zf_getr 31 7 5 34), z_is 178 34 (zf_iload 34 1 35), z_is 178 35 (zf_cv 35 51 1 2 38), z_is 178 38 (zf_ret 0)] = true := by decide +kernel
  refine z_aload hB rfl (fun hB => ?_)
  refine z_iload hB rfl (fun hB => ?_)
  obtain ⟨q1, e2, h⟩ := z_bind h
  cases q1 with
  | inl v3 =>
    have hc9 := t_F_needFlag (I := I) ok hn e2
    cases h
    exact y_cvx ok hB (as := [.int (x1)]) (a := 0) (rest := []) rfl (by decide +kernel) rfl rfl (by decide +kernel) hc9
  | inr v4 =>
    have hc9 := t_F_needFlag (I := I) ok hn e2
    refine y_cv ok hB (as := [.int (x1)]) (a := 0) (rest := []) rfl rfl rfl (by decide +kernel) hc9 (fun hB => ?_)
    refine z_aload hB rfl (fun hB => ?_)
    refine y_getm ok hB (by decide +kernel) hn.1 (fun hB => ?_)
    refine z_iload hB rfl (fun hB => ?_)
    obtain ⟨q5, e6, h⟩ := z_bind h
    refine y_cv ok hB (as := [.int (x1)]) (a := n) (rest := []) rfl rfl rfl hn.2 (t_L_canHang (I := I) ok hn.2 e6) (fun hB => ?_)
    obtain ⟨q7, e8, h⟩ := z_bind h
    cases q7 with
    | inl v9 =>
      have hc9 := t_F_needAllowed (I := I) ok e8
      cases h
      exact z_callSx hB (as := [.int (q5)]) (rest := []) rfl (by decide +kernel) rfl rfl hc9
    | inr v10 =>
      have hc9 := t_F_needAllowed (I := I) ok e8
      refine z_callS hB (as := [.int (q5)]) (rest := []) rfl rfl rfl hc9 (fun hB => ?_)
      refine z_aload hB rfl (fun hB => ?_)
      refine y_getr (b := 55) ok hB (by decide +kernel) (by decide +kernel) (fun hB => ?_)
      refine z_aload hB rfl (fun hB => ?_)
      refine y_getm ok hB (by decide +kernel) hn.1 (fun hB => ?_)
      refine y_getr (b := (n + 7)) ok hB hn.2 (zla_r1 hn.2) (fun hB => ?_)
      obtain ⟨q11, e12, h⟩ := z_bind h
      refine y_cv ok hB (as := [.ref ((n + 7))]) (a := 55) (rest := []) rfl rfl rfl (by decide +kernel) (t_H_keep (I := I) ok (zla_k1 hn.2) e12) (fun hB => ?_)
      refine z_aload hB rfl (fun hB => ?_)
      refine y_getm ok hB (by decide +kernel) hn.1 (fun hB => ?_)
      refine z_iload hB rfl (fun hB => ?_)
      obtain ⟨q13, e14, h⟩ := z_bind h
      refine y_cv ok hB (as := [.int (x1)]) (a := n) (rest := []) rfl rfl rfl hn.2 (t_L_hangOnFirstFree (I := q11) ok hn.2 e14) (fun hB => ?_)
      cases h
      exact z_reti hB
def d_F_hangAll (n : Nat) (I : z_H) : Option ((Nat ⊕ Int32) × z_H) := ((d_F_needText I).bind fun q1 => (match q1 with | .inl v3 => some ((Sum.inl v3, I)) | .inr v4 => ((d_H_keep ((n + 7)) I).bind fun q5 => ((d_L_hangAllWet n q5).bind fun q7 => some ((Sum.inr (q7.1), q7.2))))))
/-- FlagLaundry.hangAll()I -/
theorem t_F_hangAll {G : z_G} {w : ev_W} (ok : z_Ok G w) {n : Nat} (hn : z_fc w n) {I : z_H} {r : (Nat ⊕ Int32) × z_H} (h : d_F_hangAll n I = some r) : z_K G 179 [.ref (0)] (z_w w I) (z_o z_vi r.1) (z_ow (z_w w r.2) r.1) := by
  refine z_con ok.1 (ml := 1) (by decide +kernel) rfl rfl ?_
  show z_R G 179 0 [some (.ref (0))] [] (z_w w I) (z_o z_vi r.1) (z_ow (z_w w r.2) r.1)
  unfold d_F_hangAll at h
  have hB : z_all [z_is 179 0 (zf_aload 0 0 1), z_is 179 1 (zf_cv 1 192 0 7 4), z_is 179 4 (zf_aload 4 0 5), z_is 179 5 (zf_getr 5 7 8 8), z_is 179 8 (zf_aload 8 0 9), z_is 179 9 (zf_getr 9 7 5 12), z_is 179 12 (zf_getr 12 2 1 15), z_is 179 15 (zf_cv 15 24 1 1 18), z_is 179 18 (zf_aload 18 0 19), z_is 179 19 (zf_getr 19 7 5 22), z_is 179 22 (zf_cv 22 52 0 2 25), z_is 179 25 (zf_ret 0)] = true := by decide +kernel
  refine z_aload hB rfl (fun hB => ?_)
  obtain ⟨q1, e2, h⟩ := z_bind h
  cases q1 with
  | inl v3 =>
    have hc9 := t_F_needText (I := I) ok e2
    cases h
    exact y_cvx ok hB (as := []) (a := 0) (rest := []) rfl (by decide +kernel) rfl rfl (by decide +kernel) hc9
  | inr v4 =>
    have hc9 := t_F_needText (I := I) ok e2
    refine y_cv ok hB (as := []) (a := 0) (rest := []) rfl rfl rfl (by decide +kernel) hc9 (fun hB => ?_)
    refine z_aload hB rfl (fun hB => ?_)
    refine y_getr (b := 55) ok hB (by decide +kernel) (by decide +kernel) (fun hB => ?_)
    refine z_aload hB rfl (fun hB => ?_)
    refine y_getm ok hB (by decide +kernel) hn.1 (fun hB => ?_)
    refine y_getr (b := (n + 7)) ok hB hn.2 (zla_r1 hn.2) (fun hB => ?_)
    obtain ⟨q5, e6, h⟩ := z_bind h
    refine y_cv ok hB (as := [.ref ((n + 7))]) (a := 55) (rest := []) rfl rfl rfl (by decide +kernel) (t_H_keep (I := I) ok (zla_k1 hn.2) e6) (fun hB => ?_)
    refine z_aload hB rfl (fun hB => ?_)
    refine y_getm ok hB (by decide +kernel) hn.1 (fun hB => ?_)
    obtain ⟨q7, e8, h⟩ := z_bind h
    refine y_cv ok hB (as := []) (a := n) (rest := []) rfl rfl rfl hn.2 (t_L_hangAllWet (I := q5) ok hn.2 e8) (fun hB => ?_)
    cases h
    exact z_reti hB
def d_F_takeDown (n : Nat) (x1 : Int32) (I : z_H) : Option ((Nat ⊕ Int32) × z_H) := ((d_F_needFlag n (x1) I).bind fun q1 => (match q1 with | .inl v3 => some ((Sum.inl v3, I)) | .inr v4 => (if z_in (x1) 12 then (Option.bind (α := Int32) (if (I ((n + 7) + 2 + z_n (x1)) 8) = (jn 2) then some ((jn 1)) else (if (I ((n + 7) + 2 + z_n (x1)) 8) = (jn 1) then some ((jn 1)) else some ((jn 0)))) fun q6 => ((d_F_needAllowed (q6)).bind fun q9 => (match q9 with | .inl v11 => some ((Sum.inl v11, I)) | .inr v12 => ((d_H_keep ((n + 7)) I).bind fun q13 => ((d_S_moveToBasket (n + 7) (x1) q13).bind fun q15 => some ((Sum.inr ((q15 ((n + 7) + 2 + z_n (x1)) 4)), q15))))))) else none)))
/-- FlagLaundry.takeDown(I)I -/
theorem t_F_takeDown {G : z_G} {w : ev_W} (ok : z_Ok G w) {n : Nat} {x1 : Int32} (hn : z_fc w n) {I : z_H} {r : (Nat ⊕ Int32) × z_H} (h : d_F_takeDown n x1 I = some r) : z_K G 180 [.ref (0), .int (x1)] (z_w w I) (z_o z_vi r.1) (z_ow (z_w w r.2) r.1) := by
  refine z_con ok.1 (ml := 3) (by decide +kernel) rfl rfl ?_
  show z_R G 180 0 [some (.ref (0)), some (.int (x1)), none] [] (z_w w I) (z_o z_vi r.1) (z_ow (z_w w r.2) r.1)
  unfold d_F_takeDown at h
  have hB : z_all [z_is 180 0 (zf_aload 0 0 1), z_is 180 1 (zf_iload 1 1 2), z_is 180 2 (zf_cv 2 193 1 7 5), z_is 180 5 (zf_aload 5 0 6), z_is 180 6 (zf_getr 6 7 5 9), z_is 180 9 (zf_getr 9 2 1 12), z_is 180 12 (zf_getr 12 5 7 15), z_is 180 15 (zf_iload 15 1 16), z_is 180 16 (zf_aald 16 17), z_is 180 17 (zf_astore 17 2 18), z_is 180 18 (zf_aload 18 2 19), z_is 180 19 (zf_geti 19 0 8 22), z_is 180 22 (zf_cst 22 (jn 2) 23), z_is 180 23 (zf_if2 .eq 23 34 26)] = true := by decide +kernel
  refine z_aload hB rfl (fun hB => ?_)
  refine z_iload hB rfl (fun hB => ?_)
  obtain ⟨q1, e2, h⟩ := z_bind h
  cases q1 with
  | inl v3 =>
    have hc9 := t_F_needFlag (I := I) ok hn e2
    cases h
    exact y_cvx ok hB (as := [.int (x1)]) (a := 0) (rest := []) rfl (by decide +kernel) rfl rfl (by decide +kernel) hc9
  | inr v4 =>
    have hc9 := t_F_needFlag (I := I) ok hn e2
    refine y_cv ok hB (as := [.int (x1)]) (a := 0) (rest := []) rfl rfl rfl (by decide +kernel) hc9 (fun hB => ?_)
    refine z_aload hB rfl (fun hB => ?_)
    refine y_getm ok hB (by decide +kernel) hn.1 (fun hB => ?_)
    refine y_getr (b := (n + 7)) ok hB hn.2 (zla_r1 hn.2) (fun hB => ?_)
    refine y_getr (b := ((n + 7) + 1)) ok hB (zla_k1 hn.2) (zst_r7 (zla_k1 hn.2)) (fun hB => ?_)
    refine z_iload hB rfl (fun hB => ?_)
    obtain ⟨g5, h⟩ := z_gd h
    refine y_fald ok hB (zst_k1 (zla_k1 hn.2)) (zst_l1 (zla_k1 hn.2)) g5 (zst_fR (zla_k1 hn.2) g5) (fun hB => ?_)
    refine z_astore hB rfl rfl (fun hB => ?_)
    refine z_aload hB rfl (fun hB => ?_)
    refine y_geti ok hB (zst_fK (zla_k1 hn.2) g5) (fun hB => ?_)
    refine z_cst hB (fun hB => ?_)
    obtain ⟨q6, e7, h⟩ := z_bind h
    have k8 : z_R G 180 39 [some (.ref (0)), some (.int (x1)), some (.ref (((n + 7) + 2 + z_n (x1))))] [.int (q6)] (z_w w I) (z_o z_vi r.1) (z_ow (z_w w r.2) r.1) := by
      have hB : z_all [z_is 180 39 (zf_cs 39 199 1 42), z_is 180 42 (zf_aload 42 0 43), z_is 180 43 (zf_getr 43 7 8 46), z_is 180 46 (zf_aload 46 0 47), z_is 180 47 (zf_getr 47 7 5 50), z_is 180 50 (zf_getr 50 2 1 53), z_is 180 53 (zf_cv 53 24 1 1 56), z_is 180 56 (zf_aload 56 0 57), z_is 180 57 (zf_getr 57 7 5 60), z_is 180 60 (zf_getr 60 2 1 63), z_is 180 63 (zf_iload 63 1 64), z_is 180 64 (zf_cv 64 111 1 5 67), z_is 180 67 (zf_aload 67 2 68), z_is 180 68 (zf_geti 68 0 4 71), z_is 180 71 (zf_ret 0)] = true := by decide +kernel
      obtain ⟨q9, e10, h⟩ := z_bind h
      cases q9 with
      | inl v11 =>
        have hc9 := t_F_needAllowed (I := I) ok e10
        cases h
        exact z_callSx hB (as := [.int (q6)]) (rest := []) rfl (by decide +kernel) rfl rfl hc9
      | inr v12 =>
        have hc9 := t_F_needAllowed (I := I) ok e10
        refine z_callS hB (as := [.int (q6)]) (rest := []) rfl rfl rfl hc9 (fun hB => ?_)
        refine z_aload hB rfl (fun hB => ?_)
        refine y_getr (b := 55) ok hB (by decide +kernel) (by decide +kernel) (fun hB => ?_)
        refine z_aload hB rfl (fun hB => ?_)
        refine y_getm ok hB (by decide +kernel) hn.1 (fun hB => ?_)
        refine y_getr (b := (n + 7)) ok hB hn.2 (zla_r1 hn.2) (fun hB => ?_)
        obtain ⟨q13, e14, h⟩ := z_bind h
        refine y_cv ok hB (as := [.ref ((n + 7))]) (a := 55) (rest := []) rfl rfl rfl (by decide +kernel) (t_H_keep (I := I) ok (zla_k1 hn.2) e14) (fun hB => ?_)
        refine z_aload hB rfl (fun hB => ?_)
        refine y_getm ok hB (by decide +kernel) hn.1 (fun hB => ?_)
        refine y_getr (b := (n + 7)) ok hB hn.2 (zla_r1 hn.2) (fun hB => ?_)
        refine z_iload hB rfl (fun hB => ?_)
        obtain ⟨q15, e16, h⟩ := z_bind h
        refine y_cv ok hB (as := [.int (x1)]) (a := (n + 7)) (rest := []) rfl rfl rfl (zla_k1 hn.2) (t_S_moveToBasket (I := q13) ok (zla_k1 hn.2) e16) (fun hB => ?_)
        refine z_aload hB rfl (fun hB => ?_)
        refine y_geti ok hB (zst_fK (zla_k1 hn.2) g5) (fun hB => ?_)
        cases h
        exact z_reti hB
    have h := e7
    refine z_ic_eq hB (fun hc _ => ?_) (fun hc _ => ?_)
    · have h := z_pos hc h
      have hB : z_all [z_is 180 34 (zf_cst 34 (jn 1) 35), z_is 180 35 (zf_goto 35 39)] = true := by decide +kernel
      refine z_cst hB (fun hB => ?_)
      refine z_goto hB (fun hB => ?_)
      cases h
      exact z_weak k8 (z_se (z_se (z_se z_s0)))
    · have h := z_neg hc h
      have hB : z_all [z_is 180 26 (zf_aload 26 2 27), z_is 180 27 (zf_geti 27 0 8 30), z_is 180 30 (zf_cst 30 (jn 1) 31), z_is 180 31 (zf_if2 .ne 31 38 34)] = true := by decide +kernel
      refine z_aload hB rfl (fun hB => ?_)
      refine y_geti ok hB (zst_fK (zla_k1 hn.2) g5) (fun hB => ?_)
      refine z_cst hB (fun hB => ?_)
      refine z_ic_ne hB (fun hc _ => ?_) (fun hc _ => ?_)
      · have h := z_neg hc h
        have hB : z_all [z_is 180 38 (zf_cst 38 (jn 0) 39)] = true := by decide +kernel
        refine z_cst hB (fun hB => ?_)
        cases h
        exact z_weak k8 (z_se (z_se (z_se z_s0)))
      · have h := z_pos hc h
        have hB : z_all [z_is 180 34 (zf_cst 34 (jn 1) 35), z_is 180 35 (zf_goto 35 39)] = true := by decide +kernel
        refine z_cst hB (fun hB => ?_)
        refine z_goto hB (fun hB => ?_)
        cases h
        exact z_weak k8 (z_se (z_se (z_se z_s0)))
def d_F_clearTub (n : Nat) (x1 : Int32) (I : z_H) : Option ((Nat ⊕ Int32) × z_H) := ((d_F_needTub n (x1) I).bind fun q1 => (match q1 with | .inl v3 => some ((Sum.inl v3, I)) | .inr v4 => ((d_H_keep ((n + 7)) I).bind fun q5 => ((d_S_emptyTub (n + 7) (x1) q5).bind fun q7 => some ((Sum.inr (q7.1), q7.2))))))
/-- FlagLaundry.clearTub(I)I -/
theorem t_F_clearTub {G : z_G} {w : ev_W} (ok : z_Ok G w) {n : Nat} {x1 : Int32} (hn : z_fc w n) {I : z_H} {r : (Nat ⊕ Int32) × z_H} (h : d_F_clearTub n x1 I = some r) : z_K G 181 [.ref (0), .int (x1)] (z_w w I) (z_o z_vi r.1) (z_ow (z_w w r.2) r.1) := by
  refine z_con ok.1 (ml := 2) (by decide +kernel) rfl rfl ?_
  show z_R G 181 0 [some (.ref (0)), some (.int (x1))] [] (z_w w I) (z_o z_vi r.1) (z_ow (z_w w r.2) r.1)
  unfold d_F_clearTub at h
  have hB : z_all [z_is 181 0 (zf_aload 0 0 1), z_is 181 1 (zf_iload 1 1 2), z_is 181 2 (zf_cv 2 194 1 7 5), z_is 181 5 (zf_aload 5 0 6), z_is 181 6 (zf_getr 6 7 8 9), z_is 181 9 (zf_aload 9 0 10), z_is 181 10 (zf_getr 10 7 5 13), z_is 181 13 (zf_getr 13 2 1 16), z_is 181 16 (zf_cv 16 24 1 1 19), z_is 181 19 (zf_aload 19 0 20), z_is 181 20 (zf_getr 20 7 5 23), z_is 181 23 (zf_getr 23 2 1 26), z_is 181 26 (zf_iload 26 1 27), z_is 181 27 (zf_cv 27 113 1 5 30), z_is 181 30 (zf_ret 0)] = true := by decide +kernel
  refine z_aload hB rfl (fun hB => ?_)
  refine z_iload hB rfl (fun hB => ?_)
  obtain ⟨q1, e2, h⟩ := z_bind h
  cases q1 with
  | inl v3 =>
    have hc9 := t_F_needTub (I := I) ok hn e2
    cases h
    exact y_cvx ok hB (as := [.int (x1)]) (a := 0) (rest := []) rfl (by decide +kernel) rfl rfl (by decide +kernel) hc9
  | inr v4 =>
    have hc9 := t_F_needTub (I := I) ok hn e2
    refine y_cv ok hB (as := [.int (x1)]) (a := 0) (rest := []) rfl rfl rfl (by decide +kernel) hc9 (fun hB => ?_)
    refine z_aload hB rfl (fun hB => ?_)
    refine y_getr (b := 55) ok hB (by decide +kernel) (by decide +kernel) (fun hB => ?_)
    refine z_aload hB rfl (fun hB => ?_)
    refine y_getm ok hB (by decide +kernel) hn.1 (fun hB => ?_)
    refine y_getr (b := (n + 7)) ok hB hn.2 (zla_r1 hn.2) (fun hB => ?_)
    obtain ⟨q5, e6, h⟩ := z_bind h
    refine y_cv ok hB (as := [.ref ((n + 7))]) (a := 55) (rest := []) rfl rfl rfl (by decide +kernel) (t_H_keep (I := I) ok (zla_k1 hn.2) e6) (fun hB => ?_)
    refine z_aload hB rfl (fun hB => ?_)
    refine y_getm ok hB (by decide +kernel) hn.1 (fun hB => ?_)
    refine y_getr (b := (n + 7)) ok hB hn.2 (zla_r1 hn.2) (fun hB => ?_)
    refine z_iload hB rfl (fun hB => ?_)
    obtain ⟨q7, e8, h⟩ := z_bind h
    refine y_cv ok hB (as := [.int (x1)]) (a := (n + 7)) (rest := []) rfl rfl rfl (zla_k1 hn.2) (t_S_emptyTub (I := q5) ok (zla_k1 hn.2) e8) (fun hB => ?_)
    cases h
    exact z_reti hB
def d_F_iron (n : Nat) (x1 : Int32) (x2 : Int32) (I : z_H) : Option ((Nat ⊕ Int32) × z_H) := ((d_F_needFlag n (x1) I).bind fun q1 => (match q1 with | .inl v3 => some ((Sum.inl v3, I)) | .inr v4 => ((d_F_needHeat (x2)).bind fun q5 => (match q5 with | .inl v7 => some ((Sum.inl v7, I)) | .inr v8 => (if z_in (x1) 12 then ((d_G_reasonAgainstIron ((n + 7) + 2 + z_n (x1)) (x2) I).bind fun q10 => (Option.bind (α := Int32) (if q10 = jn 0 then some ((jn 1)) else some ((jn 0))) fun q12 => ((d_F_needAllowed (q12)).bind fun q15 => (match q15 with | .inl v17 => some ((Sum.inl v17, I)) | .inr v18 => ((d_H_keep ((n + 7)) I).bind fun q19 => ((d_G_takeIron ((n + 7) + 2 + z_n (x1)) (x2) q19).bind fun q21 => some ((Sum.inr ((q21 ((n + 7) + 2 + z_n (x1)) 5)), q21)))))))) else none)))))
/-- FlagLaundry.iron(II)I -/
theorem t_F_iron {G : z_G} {w : ev_W} (ok : z_Ok G w) {n : Nat} {x1 : Int32} {x2 : Int32} (hn : z_fc w n) {I : z_H} {r : (Nat ⊕ Int32) × z_H} (h : d_F_iron n x1 x2 I = some r) : z_K G 182 [.ref (0), .int (x1), .int (x2)] (z_w w I) (z_o z_vi r.1) (z_ow (z_w w r.2) r.1) := by
  refine z_con ok.1 (ml := 4) (by decide +kernel) rfl rfl ?_
  show z_R G 182 0 [some (.ref (0)), some (.int (x1)), some (.int (x2)), none] [] (z_w w I) (z_o z_vi r.1) (z_ow (z_w w r.2) r.1)
  unfold d_F_iron at h
  have hB : z_all [z_is 182 0 (zf_aload 0 0 1), z_is 182 1 (zf_iload 1 1 2), z_is 182 2 (zf_cv 2 193 1 7 5), z_is 182 5 (zf_iload 5 2 6), z_is 182 6 (zf_cs 6 197 1 9), z_is 182 9 (zf_aload 9 0 10), z_is 182 10 (zf_getr 10 7 5 13), z_is 182 13 (zf_getr 13 2 1 16), z_is 182 16 (zf_getr 16 5 7 19), z_is 182 19 (zf_iload 19 1 20), z_is 182 20 (zf_aald 20 21), z_is 182 21 (zf_astore 21 3 22), z_is 182 22 (zf_aload 22 3 23), z_is 182 23 (zf_iload 23 2 24), z_is 182 24 (zf_cv 24 8 1 0 27), z_is 182 27 (zf_if1 .ne 27 34 30)] = true := by decide +kernel
  refine z_aload hB rfl (fun hB => ?_)
  refine z_iload hB rfl (fun hB => ?_)
  obtain ⟨q1, e2, h⟩ := z_bind h
  cases q1 with
  | inl v3 =>
    have hc9 := t_F_needFlag (I := I) ok hn e2
    cases h
    exact y_cvx ok hB (as := [.int (x1)]) (a := 0) (rest := []) rfl (by decide +kernel) rfl rfl (by decide +kernel) hc9
  | inr v4 =>
    have hc9 := t_F_needFlag (I := I) ok hn e2
    refine y_cv ok hB (as := [.int (x1)]) (a := 0) (rest := []) rfl rfl rfl (by decide +kernel) hc9 (fun hB => ?_)
    refine z_iload hB rfl (fun hB => ?_)
    obtain ⟨q5, e6, h⟩ := z_bind h
    cases q5 with
    | inl v7 =>
      have hc9 := t_F_needHeat (I := I) ok e6
      cases h
      exact z_callSx hB (as := [.int (x2)]) (rest := []) rfl (by decide +kernel) rfl rfl hc9
    | inr v8 =>
      have hc9 := t_F_needHeat (I := I) ok e6
      refine z_callS hB (as := [.int (x2)]) (rest := []) rfl rfl rfl hc9 (fun hB => ?_)
      refine z_aload hB rfl (fun hB => ?_)
      refine y_getm ok hB (by decide +kernel) hn.1 (fun hB => ?_)
      refine y_getr (b := (n + 7)) ok hB hn.2 (zla_r1 hn.2) (fun hB => ?_)
      refine y_getr (b := ((n + 7) + 1)) ok hB (zla_k1 hn.2) (zst_r7 (zla_k1 hn.2)) (fun hB => ?_)
      refine z_iload hB rfl (fun hB => ?_)
      obtain ⟨g9, h⟩ := z_gd h
      refine y_fald ok hB (zst_k1 (zla_k1 hn.2)) (zst_l1 (zla_k1 hn.2)) g9 (zst_fR (zla_k1 hn.2) g9) (fun hB => ?_)
      refine z_astore hB rfl rfl (fun hB => ?_)
      refine z_aload hB rfl (fun hB => ?_)
      refine z_iload hB rfl (fun hB => ?_)
      obtain ⟨q10, e11, h⟩ := z_bind h
      refine y_cv ok hB (as := [.int (x2)]) (a := ((n + 7) + 2 + z_n (x1))) (rest := []) rfl rfl rfl (zst_fK (zla_k1 hn.2) g9) (t_G_reasonAgainstIron (I := I) ok (zst_fK (zla_k1 hn.2) g9) e11) (fun hB => ?_)
      obtain ⟨q12, e13, h⟩ := z_bind h
      have k14 : z_R G 182 35 [some (.ref (0)), none, some (.int (x2)), some (.ref (((n + 7) + 2 + z_n (x1))))] [.int (q12)] (z_w w I) (z_o z_vi r.1) (z_ow (z_w w r.2) r.1) := by
        have hB : z_all [z_is 182 35 (zf_cs 35 199 1 38), z_is 182 38 (zf_aload 38 0 39), z_is 182 39 (zf_getr 39 7 8 42), z_is 182 42 (zf_aload 42 0 43), z_is 182 43 (zf_getr 43 7 5 46), z_is 182 46 (zf_getr 46 2 1 49), z_is 182 49 (zf_cv 49 24 1 1 52), z_is 182 52 (zf_aload 52 3 53), z_is 182 53 (zf_iload 53 2 54), z_is 182 54 (zf_cv 54 17 1 0 57), z_is 182 57 (zf_aload 57 3 58), z_is 182 58 (zf_geti 58 0 5 61), z_is 182 61 (zf_ret 0)] = true := by decide +kernel
        obtain ⟨q15, e16, h⟩ := z_bind h
        cases q15 with
        | inl v17 =>
          have hc9 := t_F_needAllowed (I := I) ok e16
          cases h
          exact z_callSx hB (as := [.int (q12)]) (rest := []) rfl (by decide +kernel) rfl rfl hc9
        | inr v18 =>
          have hc9 := t_F_needAllowed (I := I) ok e16
          refine z_callS hB (as := [.int (q12)]) (rest := []) rfl rfl rfl hc9 (fun hB => ?_)
          refine z_aload hB rfl (fun hB => ?_)
          refine y_getr (b := 55) ok hB (by decide +kernel) (by decide +kernel) (fun hB => ?_)
          refine z_aload hB rfl (fun hB => ?_)
          refine y_getm ok hB (by decide +kernel) hn.1 (fun hB => ?_)
          refine y_getr (b := (n + 7)) ok hB hn.2 (zla_r1 hn.2) (fun hB => ?_)
          obtain ⟨q19, e20, h⟩ := z_bind h
          refine y_cv ok hB (as := [.ref ((n + 7))]) (a := 55) (rest := []) rfl rfl rfl (by decide +kernel) (t_H_keep (I := I) ok (zla_k1 hn.2) e20) (fun hB => ?_)
          refine z_aload hB rfl (fun hB => ?_)
          refine z_iload hB rfl (fun hB => ?_)
          obtain ⟨q21, e22, h⟩ := z_bind h
          refine y_cv ok hB (as := [.int (x2)]) (a := ((n + 7) + 2 + z_n (x1))) (rest := []) rfl rfl rfl (zst_fK (zla_k1 hn.2) g9) (t_G_takeIron (I := q19) ok (zst_fK (zla_k1 hn.2) g9) e22) (fun hB => ?_)
          refine z_aload hB rfl (fun hB => ?_)
          refine y_geti ok hB (zst_fK (zla_k1 hn.2) g9) (fun hB => ?_)
          cases h
          exact z_reti hB
      have h := e13
      refine z_if_ne hB (fun hc _ => ?_) (fun hc _ => ?_)
      · have h := z_neg hc h
        have hB : z_all [z_is 182 34 (zf_cst 34 (jn 0) 35)] = true := by decide +kernel
        refine z_cst hB (fun hB => ?_)
        cases h
        exact z_weak k14 (z_se (z_sn (z_se (z_se z_s0))))
      · have h := z_pos hc h
        have hB : z_all [z_is 182 30 (zf_cst 30 (jn 1) 31), z_is 182 31 (zf_goto 31 35)] = true := by decide +kernel
        refine z_cst hB (fun hB => ?_)
        refine z_goto hB (fun hB => ?_)
        cases h
        exact z_weak k14 (z_se (z_sn (z_se (z_se z_s0))))
def d_F_bleach (n : Nat) (x1 : Int32) (I : z_H) : Option ((Nat ⊕ Int32) × z_H) := ((d_F_needFlag n (x1) I).bind fun q1 => (match q1 with | .inl v3 => some ((Sum.inl v3, I)) | .inr v4 => (if z_in (x1) 12 then ((d_G_reasonAgainstBleach ((n + 7) + 2 + z_n (x1)) I).bind fun q6 => (Option.bind (α := Int32) (if q6 = jn 0 then some ((jn 1)) else some ((jn 0))) fun q8 => ((d_F_needAllowed (q8)).bind fun q11 => (match q11 with | .inl v13 => some ((Sum.inl v13, I)) | .inr v14 => ((d_H_keep ((n + 7)) I).bind fun q15 => ((d_G_takeBleach ((n + 7) + 2 + z_n (x1)) q15).bind fun q17 => some ((Sum.inr (q17.1), q17.2)))))))) else none)))
/-- FlagLaundry.bleach(I)I -/
theorem t_F_bleach {G : z_G} {w : ev_W} (ok : z_Ok G w) {n : Nat} {x1 : Int32} (hn : z_fc w n) {I : z_H} {r : (Nat ⊕ Int32) × z_H} (h : d_F_bleach n x1 I = some r) : z_K G 183 [.ref (0), .int (x1)] (z_w w I) (z_o z_vi r.1) (z_ow (z_w w r.2) r.1) := by
  refine z_con ok.1 (ml := 3) (by decide +kernel) rfl rfl ?_
  show z_R G 183 0 [some (.ref (0)), some (.int (x1)), none] [] (z_w w I) (z_o z_vi r.1) (z_ow (z_w w r.2) r.1)
  unfold d_F_bleach at h
  have hB : z_all [z_is 183 0 (zf_aload 0 0 1), z_is 183 1 (zf_iload 1 1 2), z_is 183 2 (zf_cv 2 193 1 7 5), z_is 183 5 (zf_aload 5 0 6), z_is 183 6 (zf_getr 6 7 5 9), z_is 183 9 (zf_getr 9 2 1 12), z_is 183 12 (zf_getr 12 5 7 15), z_is 183 15 (zf_iload 15 1 16), z_is 183 16 (zf_aald 16 17), z_is 183 17 (zf_astore 17 2 18), z_is 183 18 (zf_aload 18 2 19), z_is 183 19 (zf_cv 19 9 0 0 22), z_is 183 22 (zf_if1 .ne 22 29 25)] = true := by decide +kernel
  refine z_aload hB rfl (fun hB => ?_)
  refine z_iload hB rfl (fun hB => ?_)
  obtain ⟨q1, e2, h⟩ := z_bind h
  cases q1 with
  | inl v3 =>
    have hc9 := t_F_needFlag (I := I) ok hn e2
    cases h
    exact y_cvx ok hB (as := [.int (x1)]) (a := 0) (rest := []) rfl (by decide +kernel) rfl rfl (by decide +kernel) hc9
  | inr v4 =>
    have hc9 := t_F_needFlag (I := I) ok hn e2
    refine y_cv ok hB (as := [.int (x1)]) (a := 0) (rest := []) rfl rfl rfl (by decide +kernel) hc9 (fun hB => ?_)
    refine z_aload hB rfl (fun hB => ?_)
    refine y_getm ok hB (by decide +kernel) hn.1 (fun hB => ?_)
    refine y_getr (b := (n + 7)) ok hB hn.2 (zla_r1 hn.2) (fun hB => ?_)
    refine y_getr (b := ((n + 7) + 1)) ok hB (zla_k1 hn.2) (zst_r7 (zla_k1 hn.2)) (fun hB => ?_)
    refine z_iload hB rfl (fun hB => ?_)
    obtain ⟨g5, h⟩ := z_gd h
    refine y_fald ok hB (zst_k1 (zla_k1 hn.2)) (zst_l1 (zla_k1 hn.2)) g5 (zst_fR (zla_k1 hn.2) g5) (fun hB => ?_)
    refine z_astore hB rfl rfl (fun hB => ?_)
    refine z_aload hB rfl (fun hB => ?_)
    obtain ⟨q6, e7, h⟩ := z_bind h
    refine y_cv ok hB (as := []) (a := ((n + 7) + 2 + z_n (x1))) (rest := []) rfl rfl rfl (zst_fK (zla_k1 hn.2) g5) (t_G_reasonAgainstBleach (I := I) ok (zst_fK (zla_k1 hn.2) g5) e7) (fun hB => ?_)
    obtain ⟨q8, e9, h⟩ := z_bind h
    have k10 : z_R G 183 30 [some (.ref (0)), none, some (.ref (((n + 7) + 2 + z_n (x1))))] [.int (q8)] (z_w w I) (z_o z_vi r.1) (z_ow (z_w w r.2) r.1) := by
      have hB : z_all [z_is 183 30 (zf_cs 30 199 1 33), z_is 183 33 (zf_aload 33 0 34), z_is 183 34 (zf_getr 34 7 8 37), z_is 183 37 (zf_aload 37 0 38), z_is 183 38 (zf_getr 38 7 5 41), z_is 183 41 (zf_getr 41 2 1 44), z_is 183 44 (zf_cv 44 24 1 1 47), z_is 183 47 (zf_aload 47 2 48), z_is 183 48 (zf_cv 48 18 0 0 51), z_is 183 51 (zf_ret 0)] = true := by decide +kernel
      obtain ⟨q11, e12, h⟩ := z_bind h
      cases q11 with
      | inl v13 =>
        have hc9 := t_F_needAllowed (I := I) ok e12
        cases h
        exact z_callSx hB (as := [.int (q8)]) (rest := []) rfl (by decide +kernel) rfl rfl hc9
      | inr v14 =>
        have hc9 := t_F_needAllowed (I := I) ok e12
        refine z_callS hB (as := [.int (q8)]) (rest := []) rfl rfl rfl hc9 (fun hB => ?_)
        refine z_aload hB rfl (fun hB => ?_)
        refine y_getr (b := 55) ok hB (by decide +kernel) (by decide +kernel) (fun hB => ?_)
        refine z_aload hB rfl (fun hB => ?_)
        refine y_getm ok hB (by decide +kernel) hn.1 (fun hB => ?_)
        refine y_getr (b := (n + 7)) ok hB hn.2 (zla_r1 hn.2) (fun hB => ?_)
        obtain ⟨q15, e16, h⟩ := z_bind h
        refine y_cv ok hB (as := [.ref ((n + 7))]) (a := 55) (rest := []) rfl rfl rfl (by decide +kernel) (t_H_keep (I := I) ok (zla_k1 hn.2) e16) (fun hB => ?_)
        refine z_aload hB rfl (fun hB => ?_)
        obtain ⟨q17, e18, h⟩ := z_bind h
        refine y_cv ok hB (as := []) (a := ((n + 7) + 2 + z_n (x1))) (rest := []) rfl rfl rfl (zst_fK (zla_k1 hn.2) g5) (t_G_takeBleach (I := q15) ok (zst_fK (zla_k1 hn.2) g5) e18) (fun hB => ?_)
        cases h
        exact z_reti hB
    have h := e9
    refine z_if_ne hB (fun hc _ => ?_) (fun hc _ => ?_)
    · have h := z_neg hc h
      have hB : z_all [z_is 183 29 (zf_cst 29 (jn 0) 30)] = true := by decide +kernel
      refine z_cst hB (fun hB => ?_)
      cases h
      exact z_weak k10 (z_se (z_sn (z_se z_s0)))
    · have h := z_pos hc h
      have hB : z_all [z_is 183 25 (zf_cst 25 (jn 1) 26), z_is 183 26 (zf_goto 26 30)] = true := by decide +kernel
      refine z_cst hB (fun hB => ?_)
      refine z_goto hB (fun hB => ?_)
      cases h
      exact z_weak k10 (z_se (z_sn (z_se z_s0)))
def d_F_handOver (n : Nat) (x1 : Int32) (I : z_H) : Option ((Nat ⊕ Int32) × z_H) := ((d_F_needNation n (x1) I).bind fun q1 => (match q1 with | .inl v3 => some ((Sum.inl v3, I)) | .inr v4 => ((d_L_canHandOver n (x1) I).bind fun q5 => ((d_F_needAllowed (q5)).bind fun q7 => (match q7 with | .inl v9 => some ((Sum.inl v9, I)) | .inr v10 => ((d_H_keep ((n + 7)) I).bind fun q11 => ((d_L_handOverAll n (x1) q11).bind fun q13 => some ((Sum.inr (q13.1), q13.2)))))))))
/-- FlagLaundry.handOver(I)I -/
theorem t_F_handOver {G : z_G} {w : ev_W} (ok : z_Ok G w) {n : Nat} {x1 : Int32} (hn : z_fc w n) {I : z_H} {r : (Nat ⊕ Int32) × z_H} (h : d_F_handOver n x1 I = some r) : z_K G 184 [.ref (0), .int (x1)] (z_w w I) (z_o z_vi r.1) (z_ow (z_w w r.2) r.1) := by
  refine z_con ok.1 (ml := 2) (by decide +kernel) rfl rfl ?_
  show z_R G 184 0 [some (.ref (0)), some (.int (x1))] [] (z_w w I) (z_o z_vi r.1) (z_ow (z_w w r.2) r.1)
  unfold d_F_handOver at h
  have hB : z_all [z_is 184 0 (zf_aload 0 0 1), z_is 184 1 (zf_iload 1 1 2), z_is 184 2 (zf_cv 2 195 1 7 5), z_is 184 5 (zf_aload 5 0 6), z_is 184 6 (zf_getr 6 7 5 9), z_is 184 9 (zf_iload 9 1 10), z_is 184 10 (zf_cv 10 59 1 2 13), z_is 184 13 (zf_cs 13 199 1 16), z_is 184 16 (zf_aload 16 0 17), z_is 184 17 (zf_getr 17 7 8 20), z_is 184 20 (zf_aload 20 0 21), z_is 184 21 (zf_getr 21 7 5 24), z_is 184 24 (zf_getr 24 2 1 27), z_is 184 27 (zf_cv 27 24 1 1 30), z_is 184 30 (zf_aload 30 0 31), z_is 184 31 (zf_getr 31 7 5 34), z_is 184 34 (zf_iload 34 1 35), z_is 184 35 (zf_cv 35 60 1 2 38), z_is 184 38 (zf_ret 0)] = true := by decide +kernel
  refine z_aload hB rfl (fun hB => ?_)
  refine z_iload hB rfl (fun hB => ?_)
  obtain ⟨q1, e2, h⟩ := z_bind h
  cases q1 with
  | inl v3 =>
    have hc9 := t_F_needNation (I := I) ok hn e2
    cases h
    exact y_cvx ok hB (as := [.int (x1)]) (a := 0) (rest := []) rfl (by decide +kernel) rfl rfl (by decide +kernel) hc9
  | inr v4 =>
    have hc9 := t_F_needNation (I := I) ok hn e2
    refine y_cv ok hB (as := [.int (x1)]) (a := 0) (rest := []) rfl rfl rfl (by decide +kernel) hc9 (fun hB => ?_)
    refine z_aload hB rfl (fun hB => ?_)
    refine y_getm ok hB (by decide +kernel) hn.1 (fun hB => ?_)
    refine z_iload hB rfl (fun hB => ?_)
    obtain ⟨q5, e6, h⟩ := z_bind h
    refine y_cv ok hB (as := [.int (x1)]) (a := n) (rest := []) rfl rfl rfl hn.2 (t_L_canHandOver (I := I) ok hn.2 e6) (fun hB => ?_)
    obtain ⟨q7, e8, h⟩ := z_bind h
    cases q7 with
    | inl v9 =>
      have hc9 := t_F_needAllowed (I := I) ok e8
      cases h
      exact z_callSx hB (as := [.int (q5)]) (rest := []) rfl (by decide +kernel) rfl rfl hc9
    | inr v10 =>
      have hc9 := t_F_needAllowed (I := I) ok e8
      refine z_callS hB (as := [.int (q5)]) (rest := []) rfl rfl rfl hc9 (fun hB => ?_)
      refine z_aload hB rfl (fun hB => ?_)
      refine y_getr (b := 55) ok hB (by decide +kernel) (by decide +kernel) (fun hB => ?_)
      refine z_aload hB rfl (fun hB => ?_)
      refine y_getm ok hB (by decide +kernel) hn.1 (fun hB => ?_)
      refine y_getr (b := (n + 7)) ok hB hn.2 (zla_r1 hn.2) (fun hB => ?_)
      obtain ⟨q11, e12, h⟩ := z_bind h
      refine y_cv ok hB (as := [.ref ((n + 7))]) (a := 55) (rest := []) rfl rfl rfl (by decide +kernel) (t_H_keep (I := I) ok (zla_k1 hn.2) e12) (fun hB => ?_)
      refine z_aload hB rfl (fun hB => ?_)
      refine y_getm ok hB (by decide +kernel) hn.1 (fun hB => ?_)
      refine z_iload hB rfl (fun hB => ?_)
      obtain ⟨q13, e14, h⟩ := z_bind h
      refine y_cv ok hB (as := [.int (x1)]) (a := n) (rest := []) rfl rfl rfl hn.2 (t_L_handOverAll (I := q11) ok hn.2 e14) (fun hB => ?_)
      cases h
      exact z_reti hB
def d_F_pass (n : Nat) (x1 : Int32) (I : z_H) : Option ((Nat ⊕ Int32) × z_H) := ((d_F_needText I).bind fun q1 => (match q1 with | .inl v3 => some ((Sum.inl v3, I)) | .inr v4 => ((d_F_needRange (x1) ((jn 1)) ((jn 50))).bind fun q5 => (match q5 with | .inl v7 => some ((Sum.inl v7, I)) | .inr v8 => ((d_H_keep ((n + 7)) I).bind fun q9 => ((d_S_passHours (n + 7) (x1) q9).bind fun q11 => some ((Sum.inr (q11.1), q11.2))))))))
/-- FlagLaundry.pass(I)I -/
theorem t_F_pass {G : z_G} {w : ev_W} (ok : z_Ok G w) {n : Nat} {x1 : Int32} (hn : z_fc w n) {I : z_H} {r : (Nat ⊕ Int32) × z_H} (h : d_F_pass n x1 I = some r) : z_K G 185 [.ref (0), .int (x1)] (z_w w I) (z_o z_vi r.1) (z_ow (z_w w r.2) r.1) := by
  refine z_con ok.1 (ml := 2) (by decide +kernel) rfl rfl ?_
  show z_R G 185 0 [some (.ref (0)), some (.int (x1))] [] (z_w w I) (z_o z_vi r.1) (z_ow (z_w w r.2) r.1)
  unfold d_F_pass at h
  have hB : z_all [z_is 185 0 (zf_aload 0 0 1), z_is 185 1 (zf_cv 1 192 0 7 4), z_is 185 4 (zf_iload 4 1 5), z_is 185 5 (zf_cst 5 (jn 1) 6), z_is 185 6 (zf_cst 6 (jn 50) 8), z_is 185 8 (zf_cs 8 198 3 11), z_is 185 11 (zf_aload 11 0 12), z_is 185 12 (zf_getr 12 7 8 15), z_is 185 15 (zf_aload 15 0 16), z_is 185 16 (zf_getr 16 7 5 19), z_is 185 19 (zf_getr 19 2 1 22), z_is 185 22 (zf_cv 22 24 1 1 25), z_is 185 25 (zf_aload 25 0 26), z_is 185 26 (zf_getr 26 7 5 29), z_is 185 29 (zf_getr 29 2 1 32), z_is 185 32 (zf_iload 32 1 33), z_is 185 33 (zf_cv 33 115 1 5 36), z_is 185 36 (zf_ret 0)] = true := by decide +kernel
  refine z_aload hB rfl (fun hB => ?_)
  obtain ⟨q1, e2, h⟩ := z_bind h
  cases q1 with
  | inl v3 =>
    have hc9 := t_F_needText (I := I) ok e2
    cases h
    exact y_cvx ok hB (as := []) (a := 0) (rest := []) rfl (by decide +kernel) rfl rfl (by decide +kernel) hc9
  | inr v4 =>
    have hc9 := t_F_needText (I := I) ok e2
    refine y_cv ok hB (as := []) (a := 0) (rest := []) rfl rfl rfl (by decide +kernel) hc9 (fun hB => ?_)
    refine z_iload hB rfl (fun hB => ?_)
    refine z_cst hB (fun hB => ?_)
    refine z_cst hB (fun hB => ?_)
    obtain ⟨q5, e6, h⟩ := z_bind h
    cases q5 with
    | inl v7 =>
      have hc9 := t_F_needRange (I := I) ok e6
      cases h
      exact z_callSx hB (as := [.int (x1), .int ((jn 1)), .int ((jn 50))]) (rest := []) rfl (by decide +kernel) rfl rfl hc9
    | inr v8 =>
      have hc9 := t_F_needRange (I := I) ok e6
      refine z_callS hB (as := [.int (x1), .int ((jn 1)), .int ((jn 50))]) (rest := []) rfl rfl rfl hc9 (fun hB => ?_)
      refine z_aload hB rfl (fun hB => ?_)
      refine y_getr (b := 55) ok hB (by decide +kernel) (by decide +kernel) (fun hB => ?_)
      refine z_aload hB rfl (fun hB => ?_)
      refine y_getm ok hB (by decide +kernel) hn.1 (fun hB => ?_)
      refine y_getr (b := (n + 7)) ok hB hn.2 (zla_r1 hn.2) (fun hB => ?_)
      obtain ⟨q9, e10, h⟩ := z_bind h
      refine y_cv ok hB (as := [.ref ((n + 7))]) (a := 55) (rest := []) rfl rfl rfl (by decide +kernel) (t_H_keep (I := I) ok (zla_k1 hn.2) e10) (fun hB => ?_)
      refine z_aload hB rfl (fun hB => ?_)
      refine y_getm ok hB (by decide +kernel) hn.1 (fun hB => ?_)
      refine y_getr (b := (n + 7)) ok hB hn.2 (zla_r1 hn.2) (fun hB => ?_)
      refine z_iload hB rfl (fun hB => ?_)
      obtain ⟨q11, e12, h⟩ := z_bind h
      refine y_cv ok hB (as := [.int (x1)]) (a := (n + 7)) (rest := []) rfl rfl rfl (zla_k1 hn.2) (t_S_passHours (I := q9) ok (zla_k1 hn.2) e12) (fun hB => ?_)
      cases h
      exact z_reti hB
def d_F_setWind (n : Nat) (x1 : Int32) (I : z_H) : Option ((Nat ⊕ Int32) × z_H) := ((d_F_needText I).bind fun q1 => (match q1 with | .inl v3 => some ((Sum.inl v3, I)) | .inr v4 => ((d_F_needRange (x1) ((jn 0)) ((jn 9))).bind fun q5 => (match q5 with | .inl v7 => some ((Sum.inl v7, I)) | .inr v8 => ((d_H_keep ((n + 7)) I).bind fun q9 => some ((Sum.inr ((q9 (n + 7) 1)), (ev_u2 q9 (n + 7) 1 x1))))))))
/-- FlagLaundry.setWind(I)I -/
theorem t_F_setWind {G : z_G} {w : ev_W} (ok : z_Ok G w) {n : Nat} {x1 : Int32} (hn : z_fc w n) {I : z_H} {r : (Nat ⊕ Int32) × z_H} (h : d_F_setWind n x1 I = some r) : z_K G 186 [.ref (0), .int (x1)] (z_w w I) (z_o z_vi r.1) (z_ow (z_w w r.2) r.1) := by
  refine z_con ok.1 (ml := 3) (by decide +kernel) rfl rfl ?_
  show z_R G 186 0 [some (.ref (0)), some (.int (x1)), none] [] (z_w w I) (z_o z_vi r.1) (z_ow (z_w w r.2) r.1)
  unfold d_F_setWind at h
  have hB : z_all [z_is 186 0 (zf_aload 0 0 1), z_is 186 1 (zf_cv 1 192 0 7 4), z_is 186 4 (zf_iload 4 1 5), z_is 186 5 (zf_cst 5 (jn 0) 6), z_is 186 6 (zf_cst 6 (jn 9) 8), z_is 186 8 (zf_cs 8 198 3 11), z_is 186 11 (zf_aload 11 0 12), z_is 186 12 (zf_getr 12 7 8 15), z_is 186 15 (zf_aload 15 0 16), z_is 186 16 (zf_getr 16 7 5 19), z_is 186 19 (zf_getr 19 2 1 22), z_is 186 22 (zf_cv 22 24 1 1 25), z_is 186 25 (zf_aload 25 0 26), z_is 186 26 (zf_getr 26 7 5 29), z_is 186 29 (zf_getr 29 2 1 32), z_is 186 32 (zf_geti 32 5 1 35), z_is 186 35 (zf_istore 35 2 36), z_is 186 36 (zf_aload 36 0 37), z_is 186 37 (zf_getr 37 7 5 40), z_is 186 40 (zf_getr 40 2 1 43), z_is 186 43 (zf_iload 43 1 44), z_is 186 44 (zf_puti 44 5 1 47), z_is 186 47 (zf_iload 47 2 48), z_is 186 48 (zf_ret 0)] = true := by decide +kernel
  refine z_aload hB rfl (fun hB => ?_)
  obtain ⟨q1, e2, h⟩ := z_bind h
  cases q1 with
  | inl v3 =>
    have hc9 := t_F_needText (I := I) ok e2
    cases h
    exact y_cvx ok hB (as := []) (a := 0) (rest := []) rfl (by decide +kernel) rfl rfl (by decide +kernel) hc9
  | inr v4 =>
    have hc9 := t_F_needText (I := I) ok e2
    refine y_cv ok hB (as := []) (a := 0) (rest := []) rfl rfl rfl (by decide +kernel) hc9 (fun hB => ?_)
    refine z_iload hB rfl (fun hB => ?_)
    refine z_cst hB (fun hB => ?_)
    refine z_cst hB (fun hB => ?_)
    obtain ⟨q5, e6, h⟩ := z_bind h
    cases q5 with
    | inl v7 =>
      have hc9 := t_F_needRange (I := I) ok e6
      cases h
      exact z_callSx hB (as := [.int (x1), .int ((jn 0)), .int ((jn 9))]) (rest := []) rfl (by decide +kernel) rfl rfl hc9
    | inr v8 =>
      have hc9 := t_F_needRange (I := I) ok e6
      refine z_callS hB (as := [.int (x1), .int ((jn 0)), .int ((jn 9))]) (rest := []) rfl rfl rfl hc9 (fun hB => ?_)
      refine z_aload hB rfl (fun hB => ?_)
      refine y_getr (b := 55) ok hB (by decide +kernel) (by decide +kernel) (fun hB => ?_)
      refine z_aload hB rfl (fun hB => ?_)
      refine y_getm ok hB (by decide +kernel) hn.1 (fun hB => ?_)
      refine y_getr (b := (n + 7)) ok hB hn.2 (zla_r1 hn.2) (fun hB => ?_)
      obtain ⟨q9, e10, h⟩ := z_bind h
      refine y_cv ok hB (as := [.ref ((n + 7))]) (a := 55) (rest := []) rfl rfl rfl (by decide +kernel) (t_H_keep (I := I) ok (zla_k1 hn.2) e10) (fun hB => ?_)
      refine z_aload hB rfl (fun hB => ?_)
      refine y_getm ok hB (by decide +kernel) hn.1 (fun hB => ?_)
      refine y_getr (b := (n + 7)) ok hB hn.2 (zla_r1 hn.2) (fun hB => ?_)
      refine y_geti ok hB (zla_k1 hn.2) (fun hB => ?_)
      refine z_istore hB rfl rfl (fun hB => ?_)
      refine z_aload hB rfl (fun hB => ?_)
      refine y_getm ok hB (by decide +kernel) hn.1 (fun hB => ?_)
      refine y_getr (b := (n + 7)) ok hB hn.2 (zla_r1 hn.2) (fun hB => ?_)
      refine z_iload hB rfl (fun hB => ?_)
      refine y_puti ok hB (zla_k1 hn.2) (fun hB => ?_)
      refine z_iload hB rfl (fun hB => ?_)
      cases h
      exact z_reti hB
def d_F_addFlag (n : Nat) (x1 : Int32) (x2 : Int32) (x3 : Int32) (x4 : Int32) (I : z_H) : Option ((Nat ⊕ Int32) × z_H) := ((d_F_needNation n (x1) I).bind fun q1 => (match q1 with | .inl v3 => some ((Sum.inl v3, I)) | .inr v4 => ((d_U_allColours (n + 1) I).bind fun q5 => ((d_F_needRange (x2) ((jn 1)) (q5)).bind fun q7 => (match q7 with | .inl v9 => some ((Sum.inl v9, I)) | .inr v10 => ((d_F_needRange (x3) ((jn 0)) ((jn 3))).bind fun q11 => (match q11 with | .inl v13 => some ((Sum.inl v13, I)) | .inr v14 => ((d_F_needRange (x4) ((jn 0)) ((jn 9))).bind fun q15 => (match q15 with | .inl v17 => some ((Sum.inl v17, I)) | .inr v18 => ((d_S_wasHandedOver (n + 7) (x1) I).bind fun q19 => (Option.bind (α := Int32) (if q19 = jn 0 then (if (I (n + 7) 6) < (jn 12) then some ((jn 1)) else some ((jn 0))) else some ((jn 0))) fun q21 => ((d_F_needAllowed (q21)).bind fun q24 => (match q24 with | .inl v26 => some ((Sum.inl v26, I)) | .inr v27 => ((d_H_keep ((n + 7)) I).bind fun q28 => ((d_S_bringFlag (n + 7) (x1) (x2) (x3) (x4) q28).bind fun q30 => some ((Sum.inr (q30.1), q30.2)))))))))))))))))
/-- FlagLaundry.addFlag(IIII)I -/
theorem t_F_addFlag {G : z_G} {w : ev_W} (ok : z_Ok G w) {n : Nat} {x1 : Int32} {x2 : Int32} {x3 : Int32} {x4 : Int32} (hn : z_fc w n) {I : z_H} {r : (Nat ⊕ Int32) × z_H} (h : d_F_addFlag n x1 x2 x3 x4 I = some r) : z_K G 187 [.ref (0), .int (x1), .int (x2), .int (x3), .int (x4)] (z_w w I) (z_o z_vi r.1) (z_ow (z_w w r.2) r.1) := by
  refine z_con ok.1 (ml := 5) (by decide +kernel) rfl rfl ?_
  show z_R G 187 0 [some (.ref (0)), some (.int (x1)), some (.int (x2)), some (.int (x3)), some (.int (x4))] [] (z_w w I) (z_o z_vi r.1) (z_ow (z_w w r.2) r.1)
  unfold d_F_addFlag at h
  have hB : z_all [z_is 187 0 (zf_aload 0 0 1), z_is 187 1 (zf_iload 1 1 2), z_is 187 2 (zf_cv 2 195 1 7 5), z_is 187 5 (zf_iload 5 2 6), z_is 187 6 (zf_cst 6 (jn 1) 7), z_is 187 7 (zf_aload 7 0 8), z_is 187 8 (zf_getr 8 7 5 11), z_is 187 11 (zf_getr 11 2 0 14), z_is 187 14 (zf_cv 14 91 0 4 17), z_is 187 17 (zf_cs 17 198 3 20), z_is 187 20 (zf_iload 20 3 21), z_is 187 21 (zf_cst 21 (jn 0) 22), z_is 187 22 (zf_cst 22 (jn 3) 23), z_is 187 23 (zf_cs 23 198 3 26), z_is 187 26 (zf_iload 26 4 28), z_is 187 28 (zf_cst 28 (jn 0) 29), z_is 187 29 (zf_cst 29 (jn 9) 31), z_is 187 31 (zf_cs 31 198 3 34), z_is 187 34 (zf_aload 34 0 35), z_is 187 35 (zf_getr 35 7 5 38), z_is 187 38 (zf_getr 38 2 1 41), z_is 187 41 (zf_iload 41 1 42), z_is 187 42 (zf_cv 42 99 1 5 45), z_is 187 45 (zf_if1 .ne 45 67 48)] = true := by decide +kernel
  refine z_aload hB rfl (fun hB => ?_)
  refine z_iload hB rfl (fun hB => ?_)
  obtain ⟨q1, e2, h⟩ := z_bind h
  cases q1 with
  | inl v3 =>
    have hc9 := t_F_needNation (I := I) ok hn e2
    cases h
    exact y_cvx ok hB (as := [.int (x1)]) (a := 0) (rest := []) rfl (by decide +kernel) rfl rfl (by decide +kernel) hc9
  | inr v4 =>
    have hc9 := t_F_needNation (I := I) ok hn e2
    refine y_cv ok hB (as := [.int (x1)]) (a := 0) (rest := []) rfl rfl rfl (by decide +kernel) hc9 (fun hB => ?_)
    refine z_iload hB rfl (fun hB => ?_)
    refine z_cst hB (fun hB => ?_)
    refine z_aload hB rfl (fun hB => ?_)
    refine y_getm ok hB (by decide +kernel) hn.1 (fun hB => ?_)
    refine y_getr (b := (n + 1)) ok hB hn.2 (zla_r0 hn.2) (fun hB => ?_)
    obtain ⟨q5, e6, h⟩ := z_bind h
    refine y_cv ok hB (as := []) (a := (n + 1)) (rest := [.int ((jn 1)), .int (x2)]) rfl rfl rfl (zla_k0 hn.2) (t_U_allColours (I := I) ok (zla_k0 hn.2) e6) (fun hB => ?_)
    obtain ⟨q7, e8, h⟩ := z_bind h
    cases q7 with
    | inl v9 =>
      have hc9 := t_F_needRange (I := I) ok e8
      cases h
      exact z_callSx hB (as := [.int (x2), .int ((jn 1)), .int (q5)]) (rest := []) rfl (by decide +kernel) rfl rfl hc9
    | inr v10 =>
      have hc9 := t_F_needRange (I := I) ok e8
      refine z_callS hB (as := [.int (x2), .int ((jn 1)), .int (q5)]) (rest := []) rfl rfl rfl hc9 (fun hB => ?_)
      refine z_iload hB rfl (fun hB => ?_)
      refine z_cst hB (fun hB => ?_)
      refine z_cst hB (fun hB => ?_)
      obtain ⟨q11, e12, h⟩ := z_bind h
      cases q11 with
      | inl v13 =>
        have hc9 := t_F_needRange (I := I) ok e12
        cases h
        exact z_callSx hB (as := [.int (x3), .int ((jn 0)), .int ((jn 3))]) (rest := []) rfl (by decide +kernel) rfl rfl hc9
      | inr v14 =>
        have hc9 := t_F_needRange (I := I) ok e12
        refine z_callS hB (as := [.int (x3), .int ((jn 0)), .int ((jn 3))]) (rest := []) rfl rfl rfl hc9 (fun hB => ?_)
        refine z_iload hB rfl (fun hB => ?_)
        refine z_cst hB (fun hB => ?_)
        refine z_cst hB (fun hB => ?_)
        obtain ⟨q15, e16, h⟩ := z_bind h
        cases q15 with
        | inl v17 =>
          have hc9 := t_F_needRange (I := I) ok e16
          cases h
          exact z_callSx hB (as := [.int (x4), .int ((jn 0)), .int ((jn 9))]) (rest := []) rfl (by decide +kernel) rfl rfl hc9
        | inr v18 =>
          have hc9 := t_F_needRange (I := I) ok e16
          refine z_callS hB (as := [.int (x4), .int ((jn 0)), .int ((jn 9))]) (rest := []) rfl rfl rfl hc9 (fun hB => ?_)
          refine z_aload hB rfl (fun hB => ?_)
          refine y_getm ok hB (by decide +kernel) hn.1 (fun hB => ?_)
          refine y_getr (b := (n + 7)) ok hB hn.2 (zla_r1 hn.2) (fun hB => ?_)
          refine z_iload hB rfl (fun hB => ?_)
          obtain ⟨q19, e20, h⟩ := z_bind h
          refine y_cv ok hB (as := [.int (x1)]) (a := (n + 7)) (rest := []) rfl rfl rfl (zla_k1 hn.2) (t_S_wasHandedOver (I := I) ok (zla_k1 hn.2) e20) (fun hB => ?_)
          obtain ⟨q21, e22, h⟩ := z_bind h
          have k23 : z_R G 187 68 [some (.ref (0)), some (.int (x1)), some (.int (x2)), some (.int (x3)), some (.int (x4))] [.int (q21)] (z_w w I) (z_o z_vi r.1) (z_ow (z_w w r.2) r.1) := by
            have hB : z_all [z_is 187 68 (zf_cs 68 199 1 71), z_is 187 71 (zf_aload 71 0 72), z_is 187 72 (zf_getr 72 7 8 75), z_is 187 75 (zf_aload 75 0 76), z_is 187 76 (zf_getr 76 7 5 79), z_is 187 79 (zf_getr 79 2 1 82), z_is 187 82 (zf_cv 82 24 1 1 85), z_is 187 85 (zf_aload 85 0 86), z_is 187 86 (zf_getr 86 7 5 89), z_is 187 89 (zf_getr 89 2 1 92), z_is 187 92 (zf_iload 92 1 93), z_is 187 93 (zf_iload 93 2 94), z_is 187 94 (zf_iload 94 3 95), z_is 187 95 (zf_iload 95 4 97), z_is 187 97 (zf_cv 97 96 4 5 100), z_is 187 100 (zf_ret 0)] = true := by decide +kernel
            obtain ⟨q24, e25, h⟩ := z_bind h
            cases q24 with
            | inl v26 =>
              have hc9 := t_F_needAllowed (I := I) ok e25
              cases h
              exact z_callSx hB (as := [.int (q21)]) (rest := []) rfl (by decide +kernel) rfl rfl hc9
            | inr v27 =>
              have hc9 := t_F_needAllowed (I := I) ok e25
              refine z_callS hB (as := [.int (q21)]) (rest := []) rfl rfl rfl hc9 (fun hB => ?_)
              refine z_aload hB rfl (fun hB => ?_)
              refine y_getr (b := 55) ok hB (by decide +kernel) (by decide +kernel) (fun hB => ?_)
              refine z_aload hB rfl (fun hB => ?_)
              refine y_getm ok hB (by decide +kernel) hn.1 (fun hB => ?_)
              refine y_getr (b := (n + 7)) ok hB hn.2 (zla_r1 hn.2) (fun hB => ?_)
              obtain ⟨q28, e29, h⟩ := z_bind h
              refine y_cv ok hB (as := [.ref ((n + 7))]) (a := 55) (rest := []) rfl rfl rfl (by decide +kernel) (t_H_keep (I := I) ok (zla_k1 hn.2) e29) (fun hB => ?_)
              refine z_aload hB rfl (fun hB => ?_)
              refine y_getm ok hB (by decide +kernel) hn.1 (fun hB => ?_)
              refine y_getr (b := (n + 7)) ok hB hn.2 (zla_r1 hn.2) (fun hB => ?_)
              refine z_iload hB rfl (fun hB => ?_)
              refine z_iload hB rfl (fun hB => ?_)
              refine z_iload hB rfl (fun hB => ?_)
              refine z_iload hB rfl (fun hB => ?_)
              obtain ⟨q30, e31, h⟩ := z_bind h
              refine y_cv ok hB (as := [.int (x1), .int (x2), .int (x3), .int (x4)]) (a := (n + 7)) (rest := []) rfl rfl rfl (zla_k1 hn.2) (t_S_bringFlag (I := q28) ok (zla_k1 hn.2) e31) (fun hB => ?_)
              cases h
              exact z_reti hB
          have h := e22
          refine z_if_ne hB (fun hc _ => ?_) (fun hc _ => ?_)
          · have h := z_neg hc h
            have hB : z_all [z_is 187 67 (zf_cst 67 (jn 0) 68)] = true := by decide +kernel
            refine z_cst hB (fun hB => ?_)
            cases h
            exact z_weak k23 (z_se (z_se (z_se (z_se (z_se z_s0)))))
          · have h := z_pos hc h
            have hB : z_all [z_is 187 48 (zf_aload 48 0 49), z_is 187 49 (zf_getr 49 7 5 52), z_is 187 52 (zf_getr 52 2 1 55), z_is 187 55 (zf_geti 55 5 6 58), z_is 187 58 (zf_cst 58 (jn 12) 60), z_is 187 60 (zf_if2 .ge 60 67 63)] = true := by decide +kernel
            refine z_aload hB rfl (fun hB => ?_)
            refine y_getm ok hB (by decide +kernel) hn.1 (fun hB => ?_)
            refine y_getr (b := (n + 7)) ok hB hn.2 (zla_r1 hn.2) (fun hB => ?_)
            refine y_geti ok hB (zla_k1 hn.2) (fun hB => ?_)
            refine z_cst hB (fun hB => ?_)
            refine z_ic_ge hB (fun hc _ => ?_) (fun hc _ => ?_)
            · have h := z_neg hc h
              have hB : z_all [z_is 187 67 (zf_cst 67 (jn 0) 68)] = true := by decide +kernel
              refine z_cst hB (fun hB => ?_)
              cases h
              exact z_weak k23 (z_se (z_se (z_se (z_se (z_se z_s0)))))
            · have h := z_pos hc h
              have hB : z_all [z_is 187 63 (zf_cst 63 (jn 1) 64), z_is 187 64 (zf_goto 64 68)] = true := by decide +kernel
              refine z_cst hB (fun hB => ?_)
              refine z_goto hB (fun hB => ?_)
              cases h
              exact z_weak k23 (z_se (z_se (z_se (z_se (z_se z_s0)))))
def d_F_undo (n : Nat) (I : z_H) : Option ((Nat ⊕ Int32) × z_H) := (if (I 55 0) = jn 0 then some ((Sum.inl 0, I)) else ((d_H_takeBack ((n + 7)) I).bind fun q1 => some ((Sum.inr ((q1 55 0)), q1))))
/-- FlagLaundry.undo()I -/
theorem t_F_undo {G : z_G} {w : ev_W} (ok : z_Ok G w) {n : Nat} (hn : z_fc w n) {I : z_H} {r : (Nat ⊕ Int32) × z_H} (h : d_F_undo n I = some r) : z_K G 188 [.ref (0)] (z_w w I) (z_o z_vi r.1) (z_ow (z_w w r.2) r.1) := by
  refine z_con ok.1 (ml := 1) (by decide +kernel) rfl rfl ?_
  show z_R G 188 0 [some (.ref (0))] [] (z_w w I) (z_o z_vi r.1) (z_ow (z_w w r.2) r.1)
  unfold d_F_undo at h
  have hB : z_all [z_is 188 0 (zf_aload 0 0 1), z_is 188 1 (zf_getr 1 7 8 4), z_is 188 4 (zf_geti 4 1 0 7), z_is 188 7 (zf_if1 .ne 7 21 10)] = true := by decide +kernel
  refine z_aload hB rfl (fun hB => ?_)
  refine y_getr (b := 55) ok hB (by decide +kernel) (by decide +kernel) (fun hB => ?_)
  refine y_geti ok hB (by decide +kernel) (fun hB => ?_)
  refine z_if_ne hB (fun hc _ => ?_) (fun hc _ => ?_)
  · have h := z_neg hc h
    have hB : z_all [z_is 188 21 (zf_aload 21 0 22), z_is 188 22 (zf_getr 22 7 8 25), z_is 188 25 (zf_aload 25 0 26), z_is 188 26 (zf_getr 26 7 5 29), z_is 188 29 (zf_getr 29 2 1 32), z_is 188 32 (zf_cv 32 25 1 1 35), z_is 188 35 (zf_aload 35 0 36), z_is 188 36 (zf_getr 36 7 8 39), z_is 188 39 (zf_geti 39 1 0 42), z_is 188 42 (zf_ret 0)] = true := by decide +kernel
    refine z_aload hB rfl (fun hB => ?_)
    refine y_getr (b := 55) ok hB (by decide +kernel) (by decide +kernel) (fun hB => ?_)
    refine z_aload hB rfl (fun hB => ?_)
    refine y_getm ok hB (by decide +kernel) hn.1 (fun hB => ?_)
    refine y_getr (b := (n + 7)) ok hB hn.2 (zla_r1 hn.2) (fun hB => ?_)
    obtain ⟨q1, e2, h⟩ := z_bind h
    refine y_cv ok hB (as := [.ref ((n + 7))]) (a := 55) (rest := []) rfl rfl rfl (by decide +kernel) (t_H_takeBack (I := I) ok (zla_k1 hn.2) e2) (fun hB => ?_)
    refine z_aload hB rfl (fun hB => ?_)
    refine y_getr (b := 55) ok hB (by decide +kernel) (by decide +kernel) (fun hB => ?_)
    refine y_geti ok hB (by decide +kernel) (fun hB => ?_)
    cases h
    exact z_reti hB
  · have h := z_pos hc h
    have hB : z_all [z_thr 188 10 0] = true := by decide +kernel
    cases h
    exact z_throw hB
def d_F_undoable  (I : z_H) : Option (Int32) := some ((I 55 0))
/-- FlagLaundry.undoable()I -/
theorem t_F_undoable {G : z_G} {w : ev_W} (ok : z_Ok G w) {I : z_H} {r : Int32} (h : d_F_undoable I = some r) : z_K G 189 [.ref (0)] (z_w w I) (.inl (some (.int r))) (z_w w I) := by
  refine z_con ok.1 (ml := 1) (by decide +kernel) rfl rfl ?_
  show z_R G 189 0 [some (.ref (0))] [] (z_w w I) (.inl (some (.int r))) (z_w w I)
  unfold d_F_undoable at h
  have hB : z_all [z_is 189 0 (zf_aload 0 0 1), z_is 189 1 (zf_getr 1 7 8 4), z_is 189 4 (zf_geti 4 1 0 7), z_is 189 7 (zf_ret 0)] = true := by decide +kernel
  refine z_aload hB rfl (fun hB => ?_)
  refine y_getr (b := 55) ok hB (by decide +kernel) (by decide +kernel) (fun hB => ?_)
  refine y_geti ok hB (by decide +kernel) (fun hB => ?_)
  cases h
  exact z_reti hB
def d_F_needSlot (x1 : Int32) : Option (Nat ⊕ Unit) := (if x1 < jn 0 then some (Sum.inl 1) else (if x1 < (jn 2) then some (Sum.inr (())) else some (Sum.inl 1)))
/-- FlagLaundry.needSlot(I)V -/
theorem t_F_needSlot {G : z_G} {w : ev_W} (ok : z_Ok G w) {x1 : Int32} {I : z_H} {r : Nat ⊕ Unit} (h : d_F_needSlot x1 = some r) : z_K G 196 [.int (x1)] (z_w w I) (z_o z_vv r) (z_ow (z_w w I) r) := by
  refine z_con ok.1 (ml := 1) (by decide +kernel) rfl rfl ?_
  show z_R G 196 0 [some (.int (x1))] [] (z_w w I) (z_o z_vv r) (z_ow (z_w w I) r)
  unfold d_F_needSlot at h
  have hB : z_all [z_is 196 0 (zf_iload 0 0 1), z_is 196 1 (zf_if1 .lt 1 9 4)] = true := by decide +kernel
  refine z_iload hB rfl (fun hB => ?_)
  refine z_if_lt hB (fun hc _ => ?_) (fun hc _ => ?_)
  · have h := z_pos hc h
    have hB : z_all [z_thr 196 9 1] = true := by decide +kernel
    cases h
    exact z_throw hB
  · have h := z_neg hc h
    have hB : z_all [z_is 196 4 (zf_iload 4 0 5), z_is 196 5 (zf_cst 5 (jn 2) 6), z_is 196 6 (zf_if2 .lt 6 20 9)] = true := by decide +kernel
    refine z_iload hB rfl (fun hB => ?_)
    refine z_cst hB (fun hB => ?_)
    refine z_ic_lt hB (fun hc _ => ?_) (fun hc _ => ?_)
    · have h := z_pos hc h
      have hB : z_all [z_is 196 20 (zf_ret 6)] = true := by decide +kernel
      cases h
      exact z_retv hB
    · have h := z_neg hc h
      have hB : z_all [z_thr 196 9 1] = true := by decide +kernel
      cases h
      exact z_throw hB
def d_F_save (n : Nat) (x1 : Int32) (I : z_H) : Option ((Nat ⊕ Int32) × z_H) := ((d_F_needText I).bind fun q1 => (match q1 with | .inl v3 => some ((Sum.inl v3, I)) | .inr v4 => ((d_F_needSlot (x1)).bind fun q5 => (match q5 with | .inl v7 => some ((Sum.inl v7, I)) | .inr v8 => ((d_H_saveIn (x1) ((n + 7)) I).bind fun q9 => some ((Sum.inr ((q9 (n + 7) 0)), q9)))))))
/-- FlagLaundry.save(I)I -/
theorem t_F_save {G : z_G} {w : ev_W} (ok : z_Ok G w) {n : Nat} {x1 : Int32} (hn : z_fc w n) {I : z_H} {r : (Nat ⊕ Int32) × z_H} (h : d_F_save n x1 I = some r) : z_K G 190 [.ref (0), .int (x1)] (z_w w I) (z_o z_vi r.1) (z_ow (z_w w r.2) r.1) := by
  refine z_con ok.1 (ml := 2) (by decide +kernel) rfl rfl ?_
  show z_R G 190 0 [some (.ref (0)), some (.int (x1))] [] (z_w w I) (z_o z_vi r.1) (z_ow (z_w w r.2) r.1)
  unfold d_F_save at h
  have hB : z_all [z_is 190 0 (zf_aload 0 0 1), z_is 190 1 (zf_cv 1 192 0 7 4), z_is 190 4 (zf_iload 4 1 5), z_is 190 5 (zf_cs 5 196 1 8), z_is 190 8 (zf_aload 8 0 9), z_is 190 9 (zf_getr 9 7 8 12), z_is 190 12 (zf_iload 12 1 13), z_is 190 13 (zf_aload 13 0 14), z_is 190 14 (zf_getr 14 7 5 17), z_is 190 17 (zf_getr 17 2 1 20), z_is 190 20 (zf_cv 20 26 2 1 23), z_is 190 23 (zf_aload 23 0 24), z_is 190 24 (zf_getr 24 7 5 27), z_is 190 27 (zf_getr 27 2 1 30), z_is 190 30 (zf_geti 30 5 0 33), z_is 190 33 (zf_ret 0)] = true := by decide +kernel
  refine z_aload hB rfl (fun hB => ?_)
  obtain ⟨q1, e2, h⟩ := z_bind h
  cases q1 with
  | inl v3 =>
    have hc9 := t_F_needText (I := I) ok e2
    cases h
    exact y_cvx ok hB (as := []) (a := 0) (rest := []) rfl (by decide +kernel) rfl rfl (by decide +kernel) hc9
  | inr v4 =>
    have hc9 := t_F_needText (I := I) ok e2
    refine y_cv ok hB (as := []) (a := 0) (rest := []) rfl rfl rfl (by decide +kernel) hc9 (fun hB => ?_)
    refine z_iload hB rfl (fun hB => ?_)
    obtain ⟨q5, e6, h⟩ := z_bind h
    cases q5 with
    | inl v7 =>
      have hc9 := t_F_needSlot (I := I) ok e6
      cases h
      exact z_callSx hB (as := [.int (x1)]) (rest := []) rfl (by decide +kernel) rfl rfl hc9
    | inr v8 =>
      have hc9 := t_F_needSlot (I := I) ok e6
      refine z_callS hB (as := [.int (x1)]) (rest := []) rfl rfl rfl hc9 (fun hB => ?_)
      refine z_aload hB rfl (fun hB => ?_)
      refine y_getr (b := 55) ok hB (by decide +kernel) (by decide +kernel) (fun hB => ?_)
      refine z_iload hB rfl (fun hB => ?_)
      refine z_aload hB rfl (fun hB => ?_)
      refine y_getm ok hB (by decide +kernel) hn.1 (fun hB => ?_)
      refine y_getr (b := (n + 7)) ok hB hn.2 (zla_r1 hn.2) (fun hB => ?_)
      obtain ⟨q9, e10, h⟩ := z_bind h
      refine y_cv ok hB (as := [.int (x1), .ref ((n + 7))]) (a := 55) (rest := []) rfl rfl rfl (by decide +kernel) (t_H_saveIn (I := I) ok (zla_k1 hn.2) e10) (fun hB => ?_)
      refine z_aload hB rfl (fun hB => ?_)
      refine y_getm ok hB (by decide +kernel) hn.1 (fun hB => ?_)
      refine y_getr (b := (n + 7)) ok hB hn.2 (zla_r1 hn.2) (fun hB => ?_)
      refine y_geti ok hB (zla_k1 hn.2) (fun hB => ?_)
      cases h
      exact z_reti hB
def d_F_restore (n : Nat) (x1 : Int32) (I : z_H) : Option ((Nat ⊕ Int32) × z_H) := ((d_F_needSlot (x1)).bind fun q1 => (match q1 with | .inl v3 => some ((Sum.inl v3, I)) | .inr v4 => (if z_in (x1) 2 then (if (I 238 (z_n (x1))) = jn 0 then some ((Sum.inl 0, I)) else ((d_H_fetchFrom (x1) ((n + 7)) I).bind fun q6 => some ((Sum.inr ((q6 (n + 7) 0)), q6)))) else none)))
/-- FlagLaundry.restore(I)I -/
theorem t_F_restore {G : z_G} {w : ev_W} (ok : z_Ok G w) {n : Nat} {x1 : Int32} (hn : z_fc w n) {I : z_H} {r : (Nat ⊕ Int32) × z_H} (h : d_F_restore n x1 I = some r) : z_K G 191 [.ref (0), .int (x1)] (z_w w I) (z_o z_vi r.1) (z_ow (z_w w r.2) r.1) := by
  refine z_con ok.1 (ml := 2) (by decide +kernel) rfl rfl ?_
  show z_R G 191 0 [some (.ref (0)), some (.int (x1))] [] (z_w w I) (z_o z_vi r.1) (z_ow (z_w w r.2) r.1)
  unfold d_F_restore at h
  have hB : z_all [z_is 191 0 (zf_iload 0 1 1), z_is 191 1 (zf_cs 1 196 1 4), z_is 191 4 (zf_aload 4 0 5), z_is 191 5 (zf_getr 5 7 8 8), z_is 191 8 (zf_getr 8 1 1 11), z_is 191 11 (zf_iload 11 1 12), z_is 191 12 (zf_bald 12 13), z_is 191 13 (zf_if1 .ne 13 27 16)] = true := by decide +kernel
  refine z_iload hB rfl (fun hB => ?_)
  obtain ⟨q1, e2, h⟩ := z_bind h
  cases q1 with
  | inl v3 =>
    have hc9 := t_F_needSlot (I := I) ok e2
    cases h
    exact z_callSx hB (as := [.int (x1)]) (rest := []) rfl (by decide +kernel) rfl rfl hc9
  | inr v4 =>
    have hc9 := t_F_needSlot (I := I) ok e2
    refine z_callS hB (as := [.int (x1)]) (rest := []) rfl rfl rfl hc9 (fun hB => ?_)
    refine z_aload hB rfl (fun hB => ?_)
    refine y_getr (b := 55) ok hB (by decide +kernel) (by decide +kernel) (fun hB => ?_)
    refine y_getr (b := 238) ok hB (by decide +kernel) (by decide +kernel) (fun hB => ?_)
    refine z_iload hB rfl (fun hB => ?_)
    obtain ⟨g5, h⟩ := z_gd h
    refine y_zald ok hB (by decide +kernel) (by decide +kernel) g5 (fun hB => ?_)
    refine z_if_ne hB (fun hc _ => ?_) (fun hc _ => ?_)
    · have h := z_neg hc h
      have hB : z_all [z_is 191 27 (zf_aload 27 0 28), z_is 191 28 (zf_getr 28 7 8 31), z_is 191 31 (zf_iload 31 1 32), z_is 191 32 (zf_aload 32 0 33), z_is 191 33 (zf_getr 33 7 5 36), z_is 191 36 (zf_getr 36 2 1 39), z_is 191 39 (zf_cv 39 27 2 1 42), z_is 191 42 (zf_aload 42 0 43), z_is 191 43 (zf_getr 43 7 5 46), z_is 191 46 (zf_getr 46 2 1 49), z_is 191 49 (zf_geti 49 5 0 52), z_is 191 52 (zf_ret 0)] = true := by decide +kernel
      refine z_aload hB rfl (fun hB => ?_)
      refine y_getr (b := 55) ok hB (by decide +kernel) (by decide +kernel) (fun hB => ?_)
      refine z_iload hB rfl (fun hB => ?_)
      refine z_aload hB rfl (fun hB => ?_)
      refine y_getm ok hB (by decide +kernel) hn.1 (fun hB => ?_)
      refine y_getr (b := (n + 7)) ok hB hn.2 (zla_r1 hn.2) (fun hB => ?_)
      obtain ⟨q6, e7, h⟩ := z_bind h
      refine y_cv ok hB (as := [.int (x1), .ref ((n + 7))]) (a := 55) (rest := []) rfl rfl rfl (by decide +kernel) (t_H_fetchFrom (I := I) ok (zla_k1 hn.2) e7) (fun hB => ?_)
      refine z_aload hB rfl (fun hB => ?_)
      refine y_getm ok hB (by decide +kernel) hn.1 (fun hB => ?_)
      refine y_getr (b := (n + 7)) ok hB hn.2 (zla_r1 hn.2) (fun hB => ?_)
      refine y_geti ok hB (zla_k1 hn.2) (fun hB => ?_)
      cases h
      exact z_reti hB
    · have h := z_pos hc h
      have hB : z_all [z_thr 191 16 0] = true := by decide +kernel
      cases h
      exact z_throw hB
