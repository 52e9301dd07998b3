/-! texts of the methods, and that the bytecode does what they say: by wip/gen/zd.py -/
def d_F_store_2 (x1 : Int32) (p1 : Int32 × z_H) : Option ((Int32 × z_H) ⊕ (Int32 × z_H)) := (if p1.1 < jn 0 then some (Sum.inr (p1.1, p1.2)) else (if z_in ((p1.2 0 1)) 500 then (Option.bind (α := z_H) (some (ev_u2 (ev_u2 p1.2 1 (z_n ((p1.2 0 1))) (vp_nar .byte (((x1 >>> (p1.1 &&& 31))).toInt8.toInt32))) 0 1 (((ev_u2 p1.2 1 (z_n ((p1.2 0 1))) (vp_nar .byte (((x1 >>> (p1.1 &&& 31))).toInt8.toInt32))) 0 1) + (jn 1)))) fun J7 => some (Sum.inl ((p1.1 + (jg 8)), J7))) else none))
def d_F_store (x1 : Int32) (I : z_H) : Option (z_H) := ((z_it (d_F_store_2 x1) z_F ((jn 24), I)).bind fun q3 => some (q3.2))
/-- FlagLaundry.store(I)V -/
theorem t_F_store {G : z_G} {w : ev_W} (ok : z_Ok G w) {x1 : Int32} {I : z_H} {r : z_H} (h : d_F_store x1 I = some r) : z_K G 147 [.ref (0), .int (x1)] (z_w w I) (.inl none) (z_w w r) := by
  refine z_con ok.1 (ml := 3) (by decide +kernel) rfl rfl ?_
  show z_R G 147 0 [some (.ref (0)), some (.int (x1)), none] [] (z_w w I) (.inl none) (z_w w r)
  unfold d_F_store at h
  have hB : z_all [z_is 147 0 (zf_cst 0 (jn 24) 2), z_is 147 2 (zf_istore 2 2 3)] = true := by decide +kernel
  refine z_cst hB (fun hB => ?_)
  refine z_istore hB rfl rfl (fun hB => ?_)
  obtain ⟨q3, e4, h⟩ := z_bind h
  have k5 : z_R G 147 36 [none, none, none] [] (z_w w q3.2) (.inl none) (z_w w r) := by
    have hB : z_all [z_is 147 36 (zf_ret 6)] = true := by decide +kernel
    cases h
    exact z_retv hB
  have l2 : ∀ (m2 : Nat) (p1 : Int32 × z_H), z_it (d_F_store_2 x1) m2 p1 = some q3 → z_R G 147 3 [some (.ref (0)), some (.int (x1)), some (.int (p1.1))] [] (z_w w p1.2) (.inl none) (z_w w r) := by
    intro m2
    induction m2 with
    | zero => intro p1 h; cases h
    | succ m2 i2 =>
      intro p1 h
      obtain ⟨u2, h, b2⟩ := z_it_o h
      unfold d_F_store_2 at h
      have hB : z_all [z_is 147 3 (zf_iload 3 2 4), z_is 147 4 (zf_if1 .lt 4 36 7)] = true := by decide +kernel
      refine z_iload hB rfl (fun hB => ?_)
      refine z_if_lt hB (fun hc _ => ?_) (fun hc _ => ?_)
      · have h := z_pos hc h
        cases h
        cases b2
        exact z_weak k5 (z_sn (z_sn (z_sn z_s0)))
      · have h := z_neg hc h
        have hB : z_all [z_is 147 7 (zf_aload 7 0 8), z_is 147 8 (zf_getr 8 7 0 11), z_is 147 11 (zf_aload 11 0 12), z_is 147 12 (zf_geti 12 7 1 15), z_is 147 15 (zf_iload 15 1 16), z_is 147 16 (zf_iload 16 2 17), z_is 147 17 (zf_ishr 17 18), z_is 147 18 (zf_i2b 18 19), z_is 147 19 (zf_bast 19 20), z_is 147 20 (zf_aload 20 0 21), z_is 147 21 (zf_dupr 21 22), z_is 147 22 (zf_geti 22 7 1 25), z_is 147 25 (zf_cst 25 (jn 1) 26), z_is 147 26 (zf_iadd 26 27), z_is 147 27 (zf_puti 27 7 1 30), z_is 147 30 (zf_iinc 30 2 (jg 8) 33), z_is 147 33 (zf_goto 33 3)] = true := by decide +kernel
        refine z_aload hB rfl (fun hB => ?_)
        refine y_getr (b := 1) ok hB (by decide +kernel) (by decide +kernel) (fun hB => ?_)
        refine z_aload hB rfl (fun hB => ?_)
        refine y_geti ok hB (by decide +kernel) (fun hB => ?_)
        refine z_iload hB rfl (fun hB => ?_)
        refine z_iload hB rfl (fun hB => ?_)
        refine z_ishr hB (fun hB => ?_)
        refine z_i2b hB (fun hB => ?_)
        obtain ⟨g6, h⟩ := z_gd h
        refine y_bast ok hB (by decide +kernel) (by decide +kernel) g6 (fun hB => ?_)
        refine z_aload hB rfl (fun hB => ?_)
        refine z_dupr hB (fun hB => ?_)
        refine y_geti ok hB (by decide +kernel) (fun hB => ?_)
        refine z_cst hB (fun hB => ?_)
        refine z_iadd hB (fun hB => ?_)
        refine y_puti ok hB (by decide +kernel) (fun hB => ?_)
        obtain ⟨J7, e8, h⟩ := z_bind h
        rw [z_inj e8]
        refine z_iinc hB rfl rfl (fun hB => ?_)
        refine z_goto hB (fun hB => ?_)
        cases h
        exact z_weak (i2 ((p1.1 + (jg 8)), J7) b2) (z_se (z_se (z_se z_s0)))
  exact z_weak (l2 _ ((jn 24), I) e4) (z_se (z_se (z_se z_s0)))
def d_F_append (x1 : Int32) (x2 : Int32) (x3 : Int32) (x4 : Int32) (x5 : Int32) (I : z_H) : Option (Int32 × z_H) := (if (jn 500) < ((I 0 1) + (jn 20)) then some (((jg 1), I)) else ((d_F_store (x1) I).bind fun q1 => ((d_F_store (x2) q1).bind fun q3 => ((d_F_store (x3) q3).bind fun q5 => ((d_F_store (x4) q5).bind fun q7 => ((d_F_store (x5) q7).bind fun q9 => some (((q9 0 1), q9))))))))
/-- FlagLaundry.append(IIIII)I -/
theorem t_F_append {G : z_G} {w : ev_W} (ok : z_Ok G w) {x1 : Int32} {x2 : Int32} {x3 : Int32} {x4 : Int32} {x5 : Int32} {I : z_H} {r : Int32 × z_H} (h : d_F_append x1 x2 x3 x4 x5 I = some r) : z_K G 105 [.ref (0), .int (x1), .int (x2), .int (x3), .int (x4), .int (x5)] (z_w w I) (.inl (some (.int r.1))) (z_w w r.2) := by
  refine z_con ok.1 (ml := 6) (by decide +kernel) rfl rfl ?_
  show z_R G 105 0 [some (.ref (0)), some (.int (x1)), some (.int (x2)), some (.int (x3)), some (.int (x4)), some (.int (x5))] [] (z_w w I) (.inl (some (.int r.1))) (z_w w r.2)
  unfold d_F_append at h
  have hB : z_all [z_is 105 0 (zf_aload 0 0 1), z_is 105 1 (zf_geti 1 7 1 4), z_is 105 4 (zf_cst 4 (jn 20) 6), z_is 105 6 (zf_iadd 6 7), z_is 105 7 (zf_cst 7 (jn 500) 10), z_is 105 10 (zf_if2 .le 10 15 13)] = true := by decide +kernel
  refine z_aload hB rfl (fun hB => ?_)
  refine y_geti ok hB (by decide +kernel) (fun hB => ?_)
  refine z_cst hB (fun hB => ?_)
  refine z_iadd hB (fun hB => ?_)
  refine z_cst hB (fun hB => ?_)
  refine z_ic_le hB (fun hc _ => ?_) (fun hc _ => ?_)
  · have h := z_neg hc h
    have hB : z_all [z_is 105 15 (zf_aload 15 0 16), z_is 105 16 (zf_iload 16 1 17), z_is 105 17 (zf_cv 17 147 1 7 20), z_is 105 20 (zf_aload 20 0 21), z_is 105 21 (zf_iload 21 2 22), z_is 105 22 (zf_cv 22 147 1 7 25), z_is 105 25 (zf_aload 25 0 26), z_is 105 26 (zf_iload 26 3 27), z_is 105 27 (zf_cv 27 147 1 7 30), z_is 105 30 (zf_aload 30 0 31), z_is 105 31 (zf_iload 31 4 33), z_is 105 33 (zf_cv 33 147 1 7 36), z_is 105 36 (zf_aload 36 0 37), z_is 105 37 (zf_iload 37 5 39), z_is 105 39 (zf_cv 39 147 1 7 42), z_is 105 42 (zf_aload 42 0 43), z_is 105 43 (zf_geti 43 7 1 46), z_is 105 46 (zf_ret 0)] = true := by decide +kernel
    refine z_aload hB rfl (fun hB => ?_)
    refine z_iload hB rfl (fun hB => ?_)
    obtain ⟨q1, e2, h⟩ := z_bind h
    refine y_cv ok hB (as := [.int (x1)]) (a := 0) (rest := []) rfl rfl rfl (by decide +kernel) (t_F_store (I := I) ok e2) (fun hB => ?_)
    refine z_aload hB rfl (fun hB => ?_)
    refine z_iload hB rfl (fun hB => ?_)
    obtain ⟨q3, e4, h⟩ := z_bind h
    refine y_cv ok hB (as := [.int (x2)]) (a := 0) (rest := []) rfl rfl rfl (by decide +kernel) (t_F_store (I := q1) ok e4) (fun hB => ?_)
    refine z_aload hB rfl (fun hB => ?_)
    refine z_iload hB rfl (fun hB => ?_)
    obtain ⟨q5, e6, h⟩ := z_bind h
    refine y_cv ok hB (as := [.int (x3)]) (a := 0) (rest := []) rfl rfl rfl (by decide +kernel) (t_F_store (I := q3) ok e6) (fun hB => ?_)
    refine z_aload hB rfl (fun hB => ?_)
    refine z_iload hB rfl (fun hB => ?_)
    obtain ⟨q7, e8, h⟩ := z_bind h
    refine y_cv ok hB (as := [.int (x4)]) (a := 0) (rest := []) rfl rfl rfl (by decide +kernel) (t_F_store (I := q5) ok e8) (fun hB => ?_)
    refine z_aload hB rfl (fun hB => ?_)
    refine z_iload hB rfl (fun hB => ?_)
    obtain ⟨q9, e10, h⟩ := z_bind h
    refine y_cv ok hB (as := [.int (x5)]) (a := 0) (rest := []) rfl rfl rfl (by decide +kernel) (t_F_store (I := q7) ok e10) (fun hB => ?_)
    refine z_aload hB rfl (fun hB => ?_)
    refine y_geti ok hB (by decide +kernel) (fun hB => ?_)
    cases h
    exact z_reti hB
  · have h := z_pos hc h
    have hB : z_all [z_is 105 13 (zf_cst 13 (jg 1) 14), z_is 105 14 (zf_ret 0)] = true := by decide +kernel
    refine z_cst hB (fun hB => ?_)
    cases h
    exact z_reti hB
def d_F_load (n : Nat) (p : Nat) (x1 : Int32) (I : z_H) : Option ((Nat ⊕ Int32) × z_H) := (if x1 < jn 0 then some ((Sum.inl 1, I)) else (if (I 0 1) < x1 then some ((Sum.inl 1, I)) else ((d_P_read p (x1) (ev_u2 I 0 1 (jn 0))).bind fun q1 => (if ((ev_u2 (ev_u2 q1 0 2 (q1 54 0)) 0 3 ((ev_u2 q1 0 2 (q1 54 0)) 54 1)) 0 2) = jn 0 then ((d_H_forgetAll (ev_u2 (ev_u2 (ev_u2 q1 0 2 (q1 54 0)) 0 3 ((ev_u2 q1 0 2 (q1 54 0)) 54 1)) 0 4 (jn 1))).bind fun q3 => some ((Sum.inr ((q3 (p + 7) 6)), q3))) else some ((Sum.inl 2, (ev_u2 (ev_u2 q1 0 2 (q1 54 0)) 0 3 ((ev_u2 q1 0 2 (q1 54 0)) 54 1))))))))
/-- FlagLaundry.load(I)I -/
theorem t_F_load {G : z_G} {w : ev_W} (ok : z_Ok G w) {n : Nat} {p : Nat} {x1 : Int32} (hn : z_fc w n) (hp : z_fs w p) {I : z_H} {r : (Nat ⊕ Int32) × z_H} (h : d_F_load n p x1 I = some r) : z_K G 106 [.ref (0), .int (x1)] (z_w w I) (z_o z_vi r.1) (z_ow (z_w (z_ldw w n p r.1) r.2) r.1) := by
  refine z_con ok.1 (ml := 3) (by decide +kernel) rfl rfl ?_
  show z_R G 106 0 [some (.ref (0)), some (.int (x1)), none] [] (z_w w I) (z_o z_vi r.1) (z_ow (z_w (z_ldw w n p r.1) r.2) r.1)
  unfold d_F_load at h
  have hB : z_all [z_is 106 0 (zf_iload 0 1 1), z_is 106 1 (zf_if1 .lt 1 12 4)] = true := by decide +kernel
  refine z_iload hB rfl (fun hB => ?_)
  refine z_if_lt hB (fun hc _ => ?_) (fun hc _ => ?_)
  · have h := z_pos hc h
    have hB : z_all [z_thr 106 12 1] = true := by decide +kernel
    cases h
    exact z_throw hB
  · have h := z_neg hc h
    have hB : z_all [z_is 106 4 (zf_iload 4 1 5), z_is 106 5 (zf_aload 5 0 6), z_is 106 6 (zf_geti 6 7 1 9), z_is 106 9 (zf_if2 .le 9 22 12)] = true := by decide +kernel
    refine z_iload hB rfl (fun hB => ?_)
    refine z_aload hB rfl (fun hB => ?_)
    refine y_geti ok hB (by decide +kernel) (fun hB => ?_)
    refine z_ic_le hB (fun hc _ => ?_) (fun hc _ => ?_)
    · have h := z_neg hc h
      have hB : z_all [z_is 106 22 (zf_aload 22 0 23), z_is 106 23 (zf_cst 23 (jn 0) 24), z_is 106 24 (zf_puti 24 7 1 27), z_is 106 27 (zf_aload 27 0 28), z_is 106 28 (zf_getr 28 7 7 31), z_is 106 31 (zf_aload 31 0 32), z_is 106 32 (zf_getr 32 7 0 35), z_is 106 35 (zf_iload 35 1 36), z_is 106 36 (zf_aload 36 0 37), z_is 106 37 (zf_getr 37 7 6 40), z_is 106 40 (zf_cv 40 53 3 3 43), z_is 106 43 (zf_aload 43 0 44), z_is 106 44 (zf_aload 44 0 45), z_is 106 45 (zf_getr 45 7 7 48), z_is 106 48 (zf_geti 48 3 0 51), z_is 106 51 (zf_puti 51 7 2 54), z_is 106 54 (zf_aload 54 0 55), z_is 106 55 (zf_aload 55 0 56), z_is 106 56 (zf_getr 56 7 7 59), z_is 106 59 (zf_geti 59 3 1 62), z_is 106 62 (zf_puti 62 7 3 65), z_is 106 65 (zf_aload 65 0 66), z_is 106 66 (zf_geti 66 7 2 69), z_is 106 69 (zf_if1 .eq 69 82 72)] = true := by decide +kernel
      refine z_aload hB rfl (fun hB => ?_)
      refine z_cst hB (fun hB => ?_)
      refine y_puti ok hB (by decide +kernel) (fun hB => ?_)
      refine z_aload hB rfl (fun hB => ?_)
      refine y_getr (b := 54) ok hB (by decide +kernel) (by decide +kernel) (fun hB => ?_)
      refine z_aload hB rfl (fun hB => ?_)
      refine y_getr (b := 1) ok hB (by decide +kernel) (by decide +kernel) (fun hB => ?_)
      refine z_iload hB rfl (fun hB => ?_)
      refine z_aload hB rfl (fun hB => ?_)
      refine y_getm ok hB (by decide +kernel) hp.1 (fun hB => ?_)
      obtain ⟨q1, e2, h⟩ := z_bind h
      refine y_cvw ok hB (as := [.ref (1), .int (x1), .ref (p)]) (a := 54) (rest := []) rfl rfl rfl (by decide +kernel) (t_P_read (I := (ev_u2 I 0 1 (jn 0))) ok hp.2 e2) (fun hB => ?_)
      have ok := z_Ok_par (a := p) ok
      have hn := z_fc_par (a := p) hn
      have hp := z_fs_par (a := p) hp
      refine z_aload hB rfl (fun hB => ?_)
      refine z_aload hB rfl (fun hB => ?_)
      refine y_getr (b := 54) ok hB (by decide +kernel) (by decide +kernel) (fun hB => ?_)
      refine y_geti ok hB (by decide +kernel) (fun hB => ?_)
      refine y_puti ok hB (by decide +kernel) (fun hB => ?_)
      refine z_aload hB rfl (fun hB => ?_)
      refine z_aload hB rfl (fun hB => ?_)
      refine y_getr (b := 54) ok hB (by decide +kernel) (by decide +kernel) (fun hB => ?_)
      refine y_geti ok hB (by decide +kernel) (fun hB => ?_)
      refine y_puti ok hB (by decide +kernel) (fun hB => ?_)
      refine z_aload hB rfl (fun hB => ?_)
      refine y_geti ok hB (by decide +kernel) (fun hB => ?_)
      refine z_if_eq hB (fun hc _ => ?_) (fun hc _ => ?_)
      · have h := z_pos hc h
        have hB : z_all [z_is 106 82 (zf_aload 82 0 83), z_is 106 83 (zf_getr 83 7 5 86), z_is 106 86 (zf_astore 86 2 87), z_is 106 87 (zf_aload 87 0 88), z_is 106 88 (zf_aload 88 0 89), z_is 106 89 (zf_getr 89 7 6 92), z_is 106 92 (zf_putr 92 7 5 95), z_is 106 95 (zf_aload 95 0 96), z_is 106 96 (zf_aload 96 2 97), z_is 106 97 (zf_putr 97 7 6 100), z_is 106 100 (zf_aload 100 0 101), z_is 106 101 (zf_cst 101 (jn 1) 102), z_is 106 102 (zf_putz 102 7 4 105), z_is 106 105 (zf_aload 105 0 106), z_is 106 106 (zf_getr 106 7 8 109), z_is 106 109 (zf_cv 109 22 0 1 112), z_is 106 112 (zf_aload 112 0 113), z_is 106 113 (zf_getr 113 7 5 116), z_is 106 116 (zf_getr 116 2 1 119), z_is 106 119 (zf_geti 119 5 6 122), z_is 106 122 (zf_ret 0)] = true := by decide +kernel
        refine z_aload hB rfl (fun hB => ?_)
        refine y_getm ok hB (by decide +kernel) hn.1 (fun hB => ?_)
        refine z_astore hB rfl rfl (fun hB => ?_)
        refine z_aload hB rfl (fun hB => ?_)
        refine z_aload hB rfl (fun hB => ?_)
        refine y_getm ok hB (by decide +kernel) hp.1 (fun hB => ?_)
        refine y_putr ok hB (by decide +kernel) (fun hB => ?_)
        have ok0 := ok
        have ok := z_Ok_sR (a := 0) (k := 5) (x := some p) ok0 (by decide +kernel)
        refine z_aload hB rfl (fun hB => ?_)
        refine z_aload hB rfl (fun hB => ?_)
        refine y_putr ok hB (by decide +kernel) (fun hB => ?_)
        have ok := z_Ok_swp (n := n) (p := p) ok0
        have hn := z_fc_swp (w := z_par w p) (n := n) hp.2
        show z_R G 106 100 _ _ (z_w (z_swp (z_par w p) n p) _) _ _
        refine z_aload hB rfl (fun hB => ?_)
        refine z_cst hB (fun hB => ?_)
        refine y_putz ok hB (by decide +kernel) (by decide) (fun hB => ?_)
        refine z_aload hB rfl (fun hB => ?_)
        refine y_getr (b := 55) ok hB (by decide +kernel) (by decide +kernel) (fun hB => ?_)
        obtain ⟨q3, e4, h⟩ := z_bind h
        refine y_cv ok hB (as := []) (a := 55) (rest := []) rfl rfl rfl (by decide +kernel) (t_H_forgetAll (I := (ev_u2 (ev_u2 (ev_u2 q1 0 2 (q1 54 0)) 0 3 ((ev_u2 q1 0 2 (q1 54 0)) 54 1)) 0 4 (jn 1))) ok e4) (fun hB => ?_)
        refine z_aload hB rfl (fun hB => ?_)
        refine y_getm ok hB (by decide +kernel) hn.1 (fun hB => ?_)
        refine y_getr (b := (p + 7)) ok hB hn.2 (zla_r1 hn.2) (fun hB => ?_)
        refine y_geti ok hB (zla_k1 hn.2) (fun hB => ?_)
        cases h
        exact z_reti hB
      · have h := z_neg hc h
        have hB : z_all [z_thr 106 72 2] = true := by decide +kernel
        cases h
        exact z_throw hB
    · have h := z_pos hc h
      have hB : z_all [z_thr 106 12 1] = true := by decide +kernel
      cases h
      exact z_throw hB
def d_F_needText  (I : z_H) : Option (Nat ⊕ Unit) := (if (I 0 4) = jn 0 then some (Sum.inl 0) else some (Sum.inr (())))
/-- FlagLaundry.needText()V -/
theorem t_F_needText {G : z_G} {w : ev_W} (ok : z_Ok G w) {I : z_H} {r : Nat ⊕ Unit} (h : d_F_needText I = some r) : z_K G 139 [.ref (0)] (z_w w I) (z_o z_vv r) (z_ow (z_w w I) r) := by
  refine z_con ok.1 (ml := 1) (by decide +kernel) rfl rfl ?_
  show z_R G 139 0 [some (.ref (0))] [] (z_w w I) (z_o z_vv r) (z_ow (z_w w I) r)
  unfold d_F_needText at h
  have hB : z_all [z_is 139 0 (zf_aload 0 0 1), z_is 139 1 (zf_geti 1 7 4 4), z_is 139 4 (zf_if1 .ne 4 18 7)] = true := by decide +kernel
  refine z_aload hB rfl (fun hB => ?_)
  refine y_geti ok hB (by decide +kernel) (fun hB => ?_)
  refine z_if_ne hB (fun hc _ => ?_) (fun hc _ => ?_)
  · have h := z_neg hc h
    have hB : z_all [z_is 139 18 (zf_ret 6)] = true := by decide +kernel
    cases h
    exact z_retv hB
  · have h := z_pos hc h
    have hB : z_all [z_thr 139 7 0] = true := by decide +kernel
    cases h
    exact z_throw hB
def d_F_needRange (x1 : Int32) (x2 : Int32) (x3 : Int32) : Option (Nat ⊕ Unit) := (if x1 < x2 then some (Sum.inl 2) else (if x3 < x1 then some (Sum.inl 2) else some (Sum.inr (()))))
/-- FlagLaundry.needRange(III)V -/
theorem t_F_needRange {G : z_G} {w : ev_W} (ok : z_Ok G w) {x1 : Int32} {x2 : Int32} {x3 : Int32} {I : z_H} {r : Nat ⊕ Unit} (h : d_F_needRange x1 x2 x3 = some r) : z_K G 145 [.int (x1), .int (x2), .int (x3)] (z_w w I) (z_o z_vv r) (z_ow (z_w w I) r) := by
  refine z_con ok.1 (ml := 3) (by decide +kernel) rfl rfl ?_
  show z_R G 145 0 [some (.int (x1)), some (.int (x2)), some (.int (x3))] [] (z_w w I) (z_o z_vv r) (z_ow (z_w w I) r)
  unfold d_F_needRange at h
  have hB : z_all [z_is 145 0 (zf_iload 0 0 1), z_is 145 1 (zf_iload 1 1 2), z_is 145 2 (zf_if2 .lt 2 10 5)] = true := by decide +kernel
  refine z_iload hB rfl (fun hB => ?_)
  refine z_iload hB rfl (fun hB => ?_)
  refine z_ic_lt hB (fun hc _ => ?_) (fun hc _ => ?_)
  · have h := z_pos hc h
    have hB : z_all [z_thr 145 10 2] = true := by decide +kernel
    cases h
    exact z_throw hB
  · have h := z_neg hc h
    have hB : z_all [z_is 145 5 (zf_iload 5 0 6), z_is 145 6 (zf_iload 6 2 7), z_is 145 7 (zf_if2 .le 7 21 10)] = true := by decide +kernel
    refine z_iload hB rfl (fun hB => ?_)
    refine z_iload hB rfl (fun hB => ?_)
    refine z_ic_le hB (fun hc _ => ?_) (fun hc _ => ?_)
    · have h := z_neg hc h
      have hB : z_all [z_is 145 21 (zf_ret 6)] = true := by decide +kernel
      cases h
      exact z_retv hB
    · have h := z_pos hc h
      have hB : z_all [z_thr 145 10 2] = true := by decide +kernel
      cases h
      exact z_throw hB
def d_F_count (n : Nat) (x1 : Int32) (I : z_H) : Option (Nat ⊕ Int32) := ((d_F_needText I).bind fun q1 => (match q1 with | .inl v3 => some (Sum.inl v3) | .inr v4 => ((d_F_needRange (x1) ((jn 0)) ((jn 15))).bind fun q5 => (match q5 with | .inl v7 => some (Sum.inl v7) | .inr v8 => (if x1 = jn 0 then some (Sum.inr ((I (n + 1) 1))) else (if x1 = jn 1 then some (Sum.inr ((I (n + 1) 2))) else (if x1 = jn 2 then some (Sum.inr ((I (n + 1) 3))) else (if x1 = jn 3 then some (Sum.inr ((I (n + 1) 0))) else (if x1 = jn 4 then some (Sum.inr ((I (n + 7) 6))) else (if x1 = jn 5 then some (Sum.inr ((I (n + 7) 0))) else (if x1 = jn 6 then some (Sum.inr ((I (n + 7) 1))) else (if x1 = jn 7 then ((d_S_flagsAt (n + 7) ((jn 0)) I).bind fun q9 => some (Sum.inr (q9))) else (if x1 = jn 8 then ((d_S_flagsAt (n + 7) ((jn 1)) I).bind fun q11 => some (Sum.inr (q11))) else (if x1 = jn 9 then ((d_S_flagsAt (n + 7) ((jn 2)) I).bind fun q13 => some (Sum.inr (q13))) else (if x1 = jn 10 then ((d_S_flagsAt (n + 7) ((jn 3)) I).bind fun q15 => some (Sum.inr (q15))) else (if x1 = jn 11 then some (Sum.inr ((I (n + 7) 2))) else (if x1 = jn 12 then some (Sum.inr ((I (n + 7) 3))) else (if x1 = jn 13 then some (Sum.inr ((I (n + 7) 4))) else (if x1 = jn 14 then some (Sum.inr ((I (n + 7) 5))) else ((d_S_readyFlags (n + 7) I).bind fun q17 => some (Sum.inr (q17))))))))))))))))))))))
/-- FlagLaundry.count(I)I -/
theorem t_F_count {G : z_G} {w : ev_W} (ok : z_Ok G w) {n : Nat} {x1 : Int32} (hn : z_fc w n) {I : z_H} {r : Nat ⊕ Int32} (h : d_F_count n x1 I = some r) : z_K G 107 [.ref (0), .int (x1)] (z_w w I) (z_o z_vi r) (z_ow (z_w w I) r) := by
  refine z_con ok.1 (ml := 4) (by decide +kernel) rfl rfl ?_
  show z_R G 107 0 [some (.ref (0)), some (.int (x1)), none, none] [] (z_w w I) (z_o z_vi r) (z_ow (z_w w I) r)
  unfold d_F_count at h
  have hB : z_all [z_is 107 0 (zf_aload 0 0 1), z_is 107 1 (zf_cv 1 139 0 7 4), z_is 107 4 (zf_iload 4 1 5), z_is 107 5 (zf_cst 5 (jn 0) 6), z_is 107 6 (zf_cst 6 (jn 15) 8), z_is 107 8 (zf_cs 8 145 3 11), z_is 107 11 (zf_aload 11 0 12), z_is 107 12 (zf_getr 12 7 5 15), z_is 107 15 (zf_getr 15 2 0 18), z_is 107 18 (zf_astore 18 2 19), z_is 107 19 (zf_aload 19 0 20), z_is 107 20 (zf_getr 20 7 5 23), z_is 107 23 (zf_getr 23 2 1 26), z_is 107 26 (zf_astore 26 3 27), z_is 107 27 (zf_iload 27 1 28), z_is 107 28 (zf_tsw 28 0 [(jn 0, 104), (jn 1, 109), (jn 2, 114), (jn 3, 119), (jn 4, 124), (jn 5, 129), (jn 6, 134), (jn 7, 139), (jn 8, 145), (jn 9, 151), (jn 10, 157), (jn 11, 163), (jn 12, 168), (jn 13, 173), (jn 14, 178)] 183)] = true := by decide +kernel
  refine z_aload hB rfl (fun hB => ?_)
  obtain ⟨q1, e2, h⟩ := z_bind h
  cases q1 with
  | inl v3 =>
    have hc9 := t_F_needText (I := I) ok e2
    cases h
    exact y_cvx ok hB (as := []) (a := 0) (rest := []) rfl (by decide +kernel) rfl rfl (by decide +kernel) hc9
  | inr v4 =>
    have hc9 := t_F_needText (I := I) ok e2
    refine y_cv ok hB (as := []) (a := 0) (rest := []) rfl rfl rfl (by decide +kernel) hc9 (fun hB => ?_)
    refine z_iload hB rfl (fun hB => ?_)
    refine z_cst hB (fun hB => ?_)
    refine z_cst hB (fun hB => ?_)
    obtain ⟨q5, e6, h⟩ := z_bind h
    cases q5 with
    | inl v7 =>
      have hc9 := t_F_needRange (I := I) ok e6
      cases h
      exact z_callSx hB (as := [.int (x1), .int ((jn 0)), .int ((jn 15))]) (rest := []) rfl (by decide +kernel) rfl rfl hc9
    | inr v8 =>
      have hc9 := t_F_needRange (I := I) ok e6
      refine z_callS hB (as := [.int (x1), .int ((jn 0)), .int ((jn 15))]) (rest := []) rfl rfl rfl hc9 (fun hB => ?_)
      refine z_aload hB rfl (fun hB => ?_)
      refine y_getm ok hB (by decide +kernel) hn.1 (fun hB => ?_)
      refine y_getr (b := (n + 1)) ok hB hn.2 (zla_r0 hn.2) (fun hB => ?_)
      refine z_astore hB rfl rfl (fun hB => ?_)
      refine z_aload hB rfl (fun hB => ?_)
      refine y_getm ok hB (by decide +kernel) hn.1 (fun hB => ?_)
      refine y_getr (b := (n + 7)) ok hB hn.2 (zla_r1 hn.2) (fun hB => ?_)
      refine z_astore hB rfl rfl (fun hB => ?_)
      refine z_iload hB rfl (fun hB => ?_)
      refine z_tsw hB ?_
      refine (Decidable.em (x1 = jn 0)).elim (fun hc => ?_) (fun hc => ?_)
      · have h := z_pos hc h
        rw [z_sw_p hc]
        have hB : z_all [z_is 107 104 (zf_aload 104 2 105), z_is 107 105 (zf_geti 105 4 1 108), z_is 107 108 (zf_ret 0)] = true := by decide +kernel
        refine z_aload hB rfl (fun hB => ?_)
        refine y_geti ok hB (zla_k0 hn.2) (fun hB => ?_)
        cases h
        exact z_reti hB
      · have h := z_neg hc h
        rw [z_sw_n hc]
        refine (Decidable.em (x1 = jn 1)).elim (fun hc => ?_) (fun hc => ?_)
        · have h := z_pos hc h
          rw [z_sw_p hc]
          have hB : z_all [z_is 107 109 (zf_aload 109 2 110), z_is 107 110 (zf_geti 110 4 2 113), z_is 107 113 (zf_ret 0)] = true := by decide +kernel
          refine z_aload hB rfl (fun hB => ?_)
          refine y_geti ok hB (zla_k0 hn.2) (fun hB => ?_)
          cases h
          exact z_reti hB
        · have h := z_neg hc h
          rw [z_sw_n hc]
          refine (Decidable.em (x1 = jn 2)).elim (fun hc => ?_) (fun hc => ?_)
          · have h := z_pos hc h
            rw [z_sw_p hc]
            have hB : z_all [z_is 107 114 (zf_aload 114 2 115), z_is 107 115 (zf_geti 115 4 3 118), z_is 107 118 (zf_ret 0)] = true := by decide +kernel
            refine z_aload hB rfl (fun hB => ?_)
            refine y_geti ok hB (zla_k0 hn.2) (fun hB => ?_)
            cases h
            exact z_reti hB
          · have h := z_neg hc h
            rw [z_sw_n hc]
            refine (Decidable.em (x1 = jn 3)).elim (fun hc => ?_) (fun hc => ?_)
            · have h := z_pos hc h
              rw [z_sw_p hc]
              have hB : z_all [z_is 107 119 (zf_aload 119 2 120), z_is 107 120 (zf_geti 120 4 0 123), z_is 107 123 (zf_ret 0)] = true := by decide +kernel
              refine z_aload hB rfl (fun hB => ?_)
              refine y_geti ok hB (zla_k0 hn.2) (fun hB => ?_)
              cases h
              exact z_reti hB
            · have h := z_neg hc h
              rw [z_sw_n hc]
              refine (Decidable.em (x1 = jn 4)).elim (fun hc => ?_) (fun hc => ?_)
              · have h := z_pos hc h
                rw [z_sw_p hc]
                have hB : z_all [z_is 107 124 (zf_aload 124 3 125), z_is 107 125 (zf_geti 125 5 6 128), z_is 107 128 (zf_ret 0)] = true := by decide +kernel
                refine z_aload hB rfl (fun hB => ?_)
                refine y_geti ok hB (zla_k1 hn.2) (fun hB => ?_)
                cases h
                exact z_reti hB
              · have h := z_neg hc h
                rw [z_sw_n hc]
                refine (Decidable.em (x1 = jn 5)).elim (fun hc => ?_) (fun hc => ?_)
                · have h := z_pos hc h
                  rw [z_sw_p hc]
                  have hB : z_all [z_is 107 129 (zf_aload 129 3 130), z_is 107 130 (zf_geti 130 5 0 133), z_is 107 133 (zf_ret 0)] = true := by decide +kernel
                  refine z_aload hB rfl (fun hB => ?_)
                  refine y_geti ok hB (zla_k1 hn.2) (fun hB => ?_)
                  cases h
                  exact z_reti hB
                · have h := z_neg hc h
                  rw [z_sw_n hc]
                  refine (Decidable.em (x1 = jn 6)).elim (fun hc => ?_) (fun hc => ?_)
                  · have h := z_pos hc h
                    rw [z_sw_p hc]
                    have hB : z_all [z_is 107 134 (zf_aload 134 3 135), z_is 107 135 (zf_geti 135 5 1 138), z_is 107 138 (zf_ret 0)] = true := by decide +kernel
                    refine z_aload hB rfl (fun hB => ?_)
                    refine y_geti ok hB (zla_k1 hn.2) (fun hB => ?_)
                    cases h
                    exact z_reti hB
                  · have h := z_neg hc h
                    rw [z_sw_n hc]
                    refine (Decidable.em (x1 = jn 7)).elim (fun hc => ?_) (fun hc => ?_)
                    · have h := z_pos hc h
                      rw [z_sw_p hc]
                      have hB : z_all [z_is 107 139 (zf_aload 139 3 140), z_is 107 140 (zf_cst 140 (jn 0) 141), z_is 107 141 (zf_cv 141 89 1 5 144), z_is 107 144 (zf_ret 0)] = true := by decide +kernel
                      refine z_aload hB rfl (fun hB => ?_)
                      refine z_cst hB (fun hB => ?_)
                      obtain ⟨q9, e10, h⟩ := z_bind h
                      refine y_cv ok hB (as := [.int ((jn 0))]) (a := (n + 7)) (rest := []) rfl rfl rfl (zla_k1 hn.2) (t_S_flagsAt (I := I) ok (zla_k1 hn.2) e10) (fun hB => ?_)
                      cases h
                      exact z_reti hB
                    · have h := z_neg hc h
                      rw [z_sw_n hc]
                      refine (Decidable.em (x1 = jn 8)).elim (fun hc => ?_) (fun hc => ?_)
                      · have h := z_pos hc h
                        rw [z_sw_p hc]
                        have hB : z_all [z_is 107 145 (zf_aload 145 3 146), z_is 107 146 (zf_cst 146 (jn 1) 147), z_is 107 147 (zf_cv 147 89 1 5 150), z_is 107 150 (zf_ret 0)] = true := by decide +kernel
                        refine z_aload hB rfl (fun hB => ?_)
                        refine z_cst hB (fun hB => ?_)
                        obtain ⟨q11, e12, h⟩ := z_bind h
                        refine y_cv ok hB (as := [.int ((jn 1))]) (a := (n + 7)) (rest := []) rfl rfl rfl (zla_k1 hn.2) (t_S_flagsAt (I := I) ok (zla_k1 hn.2) e12) (fun hB => ?_)
                        cases h
                        exact z_reti hB
                      · have h := z_neg hc h
                        rw [z_sw_n hc]
                        refine (Decidable.em (x1 = jn 9)).elim (fun hc => ?_) (fun hc => ?_)
                        · have h := z_pos hc h
                          rw [z_sw_p hc]
                          have hB : z_all [z_is 107 151 (zf_aload 151 3 152), z_is 107 152 (zf_cst 152 (jn 2) 153), z_is 107 153 (zf_cv 153 89 1 5 156), z_is 107 156 (zf_ret 0)] = true := by decide +kernel
                          refine z_aload hB rfl (fun hB => ?_)
                          refine z_cst hB (fun hB => ?_)
                          obtain ⟨q13, e14, h⟩ := z_bind h
                          refine y_cv ok hB (as := [.int ((jn 2))]) (a := (n + 7)) (rest := []) rfl rfl rfl (zla_k1 hn.2) (t_S_flagsAt (I := I) ok (zla_k1 hn.2) e14) (fun hB => ?_)
                          cases h
                          exact z_reti hB
                        · have h := z_neg hc h
                          rw [z_sw_n hc]
                          refine (Decidable.em (x1 = jn 10)).elim (fun hc => ?_) (fun hc => ?_)
                          · have h := z_pos hc h
                            rw [z_sw_p hc]
                            have hB : z_all [z_is 107 157 (zf_aload 157 3 158), z_is 107 158 (zf_cst 158 (jn 3) 159), z_is 107 159 (zf_cv 159 89 1 5 162), z_is 107 162 (zf_ret 0)] = true := by decide +kernel
                            refine z_aload hB rfl (fun hB => ?_)
                            refine z_cst hB (fun hB => ?_)
                            obtain ⟨q15, e16, h⟩ := z_bind h
                            refine y_cv ok hB (as := [.int ((jn 3))]) (a := (n + 7)) (rest := []) rfl rfl rfl (zla_k1 hn.2) (t_S_flagsAt (I := I) ok (zla_k1 hn.2) e16) (fun hB => ?_)
                            cases h
                            exact z_reti hB
                          · have h := z_neg hc h
                            rw [z_sw_n hc]
                            refine (Decidable.em (x1 = jn 11)).elim (fun hc => ?_) (fun hc => ?_)
                            · have h := z_pos hc h
                              rw [z_sw_p hc]
                              have hB : z_all [z_is 107 163 (zf_aload 163 3 164), z_is 107 164 (zf_geti 164 5 2 167), z_is 107 167 (zf_ret 0)] = true := by decide +kernel
                              refine z_aload hB rfl (fun hB => ?_)
                              refine y_geti ok hB (zla_k1 hn.2) (fun hB => ?_)
                              cases h
                              exact z_reti hB
                            · have h := z_neg hc h
                              rw [z_sw_n hc]
                              refine (Decidable.em (x1 = jn 12)).elim (fun hc => ?_) (fun hc => ?_)
                              · have h := z_pos hc h
                                rw [z_sw_p hc]
                                have hB : z_all [z_is 107 168 (zf_aload 168 3 169), z_is 107 169 (zf_geti 169 5 3 172), z_is 107 172 (zf_ret 0)] = true := by decide +kernel
                                refine z_aload hB rfl (fun hB => ?_)
                                refine y_geti ok hB (zla_k1 hn.2) (fun hB => ?_)
                                cases h
                                exact z_reti hB
                              · have h := z_neg hc h
                                rw [z_sw_n hc]
                                refine (Decidable.em (x1 = jn 13)).elim (fun hc => ?_) (fun hc => ?_)
                                · have h := z_pos hc h
                                  rw [z_sw_p hc]
                                  have hB : z_all [z_is 107 173 (zf_aload 173 3 174), z_is 107 174 (zf_geti 174 5 4 177), z_is 107 177 (zf_ret 0)] = true := by decide +kernel
                                  refine z_aload hB rfl (fun hB => ?_)
                                  refine y_geti ok hB (zla_k1 hn.2) (fun hB => ?_)
                                  cases h
                                  exact z_reti hB
                                · have h := z_neg hc h
                                  rw [z_sw_n hc]
                                  refine (Decidable.em (x1 = jn 14)).elim (fun hc => ?_) (fun hc => ?_)
                                  · have h := z_pos hc h
                                    rw [z_sw_p hc]
                                    have hB : z_all [z_is 107 178 (zf_aload 178 3 179), z_is 107 179 (zf_geti 179 5 5 182), z_is 107 182 (zf_ret 0)] = true := by decide +kernel
                                    refine z_aload hB rfl (fun hB => ?_)
                                    refine y_geti ok hB (zla_k1 hn.2) (fun hB => ?_)
                                    cases h
                                    exact z_reti hB
                                  · have h := z_neg hc h
                                    rw [z_sw_n hc]
                                    show z_R G 107 183 _ _ _ _ _
                                    have hB : z_all [z_is 107 183 (zf_aload 183 3 184), z_is 107 184 (zf_cv 184 90 0 5 187), z_is 107 187 (zf_ret 0)] = true := by decide +kernel
                                    refine z_aload hB rfl (fun hB => ?_)
                                    obtain ⟨q17, e18, h⟩ := z_bind h
                                    refine y_cv ok hB (as := []) (a := (n + 7)) (rest := []) rfl rfl rfl (zla_k1 hn.2) (t_S_readyFlags (I := I) ok (zla_k1 hn.2) e18) (fun hB => ?_)
                                    cases h
                                    exact z_reti hB
def d_F_needNation (n : Nat) (x1 : Int32) (I : z_H) : Option (Nat ⊕ Unit) := ((d_F_needText I).bind fun q1 => (match q1 with | .inl v3 => some (Sum.inl v3) | .inr v4 => (if x1 < jn 0 then some (Sum.inl 1) else (if x1 < (I (n + 1) 2) then some (Sum.inr (())) else some (Sum.inl 1)))))
/-- FlagLaundry.needNation(I)V -/
theorem t_F_needNation {G : z_G} {w : ev_W} (ok : z_Ok G w) {n : Nat} {x1 : Int32} (hn : z_fc w n) {I : z_H} {r : Nat ⊕ Unit} (h : d_F_needNation n x1 I = some r) : z_K G 142 [.ref (0), .int (x1)] (z_w w I) (z_o z_vv r) (z_ow (z_w w I) r) := by
  refine z_con ok.1 (ml := 2) (by decide +kernel) rfl rfl ?_
  show z_R G 142 0 [some (.ref (0)), some (.int (x1))] [] (z_w w I) (z_o z_vv r) (z_ow (z_w w I) r)
  unfold d_F_needNation at h
  have hB : z_all [z_is 142 0 (zf_aload 0 0 1), z_is 142 1 (zf_cv 1 139 0 7 4), z_is 142 4 (zf_iload 4 1 5), z_is 142 5 (zf_if1 .lt 5 22 8)] = true := by decide +kernel
  refine z_aload hB rfl (fun hB => ?_)
  obtain ⟨q1, e2, h⟩ := z_bind h
  cases q1 with
  | inl v3 =>
    have hc9 := t_F_needText (I := I) ok e2
    cases h
    exact y_cvx ok hB (as := []) (a := 0) (rest := []) rfl (by decide +kernel) rfl rfl (by decide +kernel) hc9
  | inr v4 =>
    have hc9 := t_F_needText (I := I) ok e2
    refine y_cv ok hB (as := []) (a := 0) (rest := []) rfl rfl rfl (by decide +kernel) hc9 (fun hB => ?_)
    refine z_iload hB rfl (fun hB => ?_)
    refine z_if_lt hB (fun hc _ => ?_) (fun hc _ => ?_)
    · have h := z_pos hc h
      have hB : z_all [z_thr 142 22 1] = true := by decide +kernel
      cases h
      exact z_throw hB
    · have h := z_neg hc h
      have hB : z_all [z_is 142 8 (zf_iload 8 1 9), z_is 142 9 (zf_aload 9 0 10), z_is 142 10 (zf_getr 10 7 5 13), z_is 142 13 (zf_getr 13 2 0 16), z_is 142 16 (zf_geti 16 4 2 19), z_is 142 19 (zf_if2 .lt 19 33 22)] = true := by decide +kernel
      refine z_iload hB rfl (fun hB => ?_)
      refine z_aload hB rfl (fun hB => ?_)
      refine y_getm ok hB (by decide +kernel) hn.1 (fun hB => ?_)
      refine y_getr (b := (n + 1)) ok hB hn.2 (zla_r0 hn.2) (fun hB => ?_)
      refine y_geti ok hB (zla_k0 hn.2) (fun hB => ?_)
      refine z_ic_lt hB (fun hc _ => ?_) (fun hc _ => ?_)
      · have h := z_pos hc h
        have hB : z_all [z_is 142 33 (zf_ret 6)] = true := by decide +kernel
        cases h
        exact z_retv hB
      · have h := z_neg hc h
        have hB : z_all [z_thr 142 22 1] = true := by decide +kernel
        cases h
        exact z_throw hB
def d_F_nation (n : Nat) (x1 : Int32) (x2 : Int32) (I : z_H) : Option (Nat ⊕ Int32) := ((d_F_needNation n (x1) I).bind fun q1 => (match q1 with | .inl v3 => some (Sum.inl v3) | .inr v4 => ((d_F_needRange (x2) ((jn 0)) ((jn 6))).bind fun q5 => (match q5 with | .inl v7 => some (Sum.inl v7) | .inr v8 => (if x2 = jn 0 then (if z_in (x1) 4 then some (Sum.inr ((I ((n + 1) + 2) (z_n (x1))))) else none) else (if x2 = jn 1 then (if z_in (x1) 4 then some (Sum.inr ((I ((n + 1) + 3) (z_n (x1))))) else none) else (if x2 = jn 2 then (if z_in (x1) 4 then some (Sum.inr ((I ((n + 1) + 4) (z_n (x1))))) else none) else (if x2 = jn 3 then ((d_S_flagsOf (n + 7) (x1) I).bind fun q12 => some (Sum.inr (q12))) else (if x2 = jn 4 then ((d_S_readyFlagsOf (n + 7) (x1) I).bind fun q14 => some (Sum.inr (q14))) else (if x2 = jn 5 then ((d_S_wasHandedOver (n + 7) (x1) I).bind fun q16 => (Option.bind (α := Int32) (if q16 = jn 0 then some ((jn 0)) else some ((jn 1))) fun q18 => some (Sum.inr (q18)))) else ((d_L_hoursLate n (x1) I).bind fun q21 => some (Sum.inr (q21)))))))))))))
/-- FlagLaundry.nation(II)I -/
theorem t_F_nation {G : z_G} {w : ev_W} (ok : z_Ok G w) {n : Nat} {x1 : Int32} {x2 : Int32} (hn : z_fc w n) {I : z_H} {r : Nat ⊕ Int32} (h : d_F_nation n x1 x2 I = some r) : z_K G 108 [.ref (0), .int (x1), .int (x2)] (z_w w I) (z_o z_vi r) (z_ow (z_w w I) r) := by
  refine z_con ok.1 (ml := 3) (by decide +kernel) rfl rfl ?_
  show z_R G 108 0 [some (.ref (0)), some (.int (x1)), some (.int (x2))] [] (z_w w I) (z_o z_vi r) (z_ow (z_w w I) r)
  unfold d_F_nation at h
  have hB : z_all [z_is 108 0 (zf_aload 0 0 1), z_is 108 1 (zf_iload 1 1 2), z_is 108 2 (zf_cv 2 142 1 7 5), z_is 108 5 (zf_iload 5 2 6), z_is 108 6 (zf_cst 6 (jn 0) 7), z_is 108 7 (zf_cst 7 (jn 6) 9), z_is 108 9 (zf_cs 9 145 3 12), z_is 108 12 (zf_iload 12 2 13), z_is 108 13 (zf_tsw 13 0 [(jn 0, 52), (jn 1, 65), (jn 2, 78), (jn 3, 91), (jn 4, 103), (jn 5, 115)] 135)] = true := by decide +kernel
  refine z_aload hB rfl (fun hB => ?_)
  refine z_iload hB rfl (fun hB => ?_)
  obtain ⟨q1, e2, h⟩ := z_bind h
  cases q1 with
  | inl v3 =>
    have hc9 := t_F_needNation (I := I) ok hn e2
    cases h
    exact y_cvx ok hB (as := [.int (x1)]) (a := 0) (rest := []) rfl (by decide +kernel) rfl rfl (by decide +kernel) hc9
  | inr v4 =>
    have hc9 := t_F_needNation (I := I) ok hn e2
    refine y_cv ok hB (as := [.int (x1)]) (a := 0) (rest := []) rfl rfl rfl (by decide +kernel) hc9 (fun hB => ?_)
    refine z_iload hB rfl (fun hB => ?_)
    refine z_cst hB (fun hB => ?_)
    refine z_cst hB (fun hB => ?_)
    obtain ⟨q5, e6, h⟩ := z_bind h
    cases q5 with
    | inl v7 =>
      have hc9 := t_F_needRange (I := I) ok e6
      cases h
      exact z_callSx hB (as := [.int (x2), .int ((jn 0)), .int ((jn 6))]) (rest := []) rfl (by decide +kernel) rfl rfl hc9
    | inr v8 =>
      have hc9 := t_F_needRange (I := I) ok e6
      refine z_callS hB (as := [.int (x2), .int ((jn 0)), .int ((jn 6))]) (rest := []) rfl rfl rfl hc9 (fun hB => ?_)
      refine z_iload hB rfl (fun hB => ?_)
      refine z_tsw hB ?_
      refine (Decidable.em (x2 = jn 0)).elim (fun hc => ?_) (fun hc => ?_)
      · have h := z_pos hc h
        rw [z_sw_p hc]
        have hB : z_all [z_is 108 52 (zf_aload 52 0 53), z_is 108 53 (zf_getr 53 7 5 56), z_is 108 56 (zf_getr 56 2 0 59), z_is 108 59 (zf_getr 59 4 5 62), z_is 108 62 (zf_iload 62 1 63), z_is 108 63 (zf_iald 63 64), z_is 108 64 (zf_ret 0)] = true := by decide +kernel
        refine z_aload hB rfl (fun hB => ?_)
        refine y_getm ok hB (by decide +kernel) hn.1 (fun hB => ?_)
        refine y_getr (b := (n + 1)) ok hB hn.2 (zla_r0 hn.2) (fun hB => ?_)
        refine y_getr (b := ((n + 1) + 2)) ok hB (zla_k0 hn.2) (zsu_r5 (zla_k0 hn.2)) (fun hB => ?_)
        refine z_iload hB rfl (fun hB => ?_)
        obtain ⟨g9, h⟩ := z_gd h
        refine y_iald ok hB (zsu_k5 (zla_k0 hn.2)) (zsu_l5 (zla_k0 hn.2)) g9 (fun hB => ?_)
        cases h
        exact z_reti hB
      · have h := z_neg hc h
        rw [z_sw_n hc]
        refine (Decidable.em (x2 = jn 1)).elim (fun hc => ?_) (fun hc => ?_)
        · have h := z_pos hc h
          rw [z_sw_p hc]
          have hB : z_all [z_is 108 65 (zf_aload 65 0 66), z_is 108 66 (zf_getr 66 7 5 69), z_is 108 69 (zf_getr 69 2 0 72), z_is 108 72 (zf_getr 72 4 6 75), z_is 108 75 (zf_iload 75 1 76), z_is 108 76 (zf_iald 76 77), z_is 108 77 (zf_ret 0)] = true := by decide +kernel
          refine z_aload hB rfl (fun hB => ?_)
          refine y_getm ok hB (by decide +kernel) hn.1 (fun hB => ?_)
          refine y_getr (b := (n + 1)) ok hB hn.2 (zla_r0 hn.2) (fun hB => ?_)
          refine y_getr (b := ((n + 1) + 3)) ok hB (zla_k0 hn.2) (zsu_r6 (zla_k0 hn.2)) (fun hB => ?_)
          refine z_iload hB rfl (fun hB => ?_)
          obtain ⟨g10, h⟩ := z_gd h
          refine y_iald ok hB (zsu_k6 (zla_k0 hn.2)) (zsu_l6 (zla_k0 hn.2)) g10 (fun hB => ?_)
          cases h
          exact z_reti hB
        · have h := z_neg hc h
          rw [z_sw_n hc]
          refine (Decidable.em (x2 = jn 2)).elim (fun hc => ?_) (fun hc => ?_)
          · have h := z_pos hc h
            rw [z_sw_p hc]
            have hB : z_all [z_is 108 78 (zf_aload 78 0 79), z_is 108 79 (zf_getr 79 7 5 82), z_is 108 82 (zf_getr 82 2 0 85), z_is 108 85 (zf_getr 85 4 7 88), z_is 108 88 (zf_iload 88 1 89), z_is 108 89 (zf_iald 89 90), z_is 108 90 (zf_ret 0)] = true := by decide +kernel
            refine z_aload hB rfl (fun hB => ?_)
            refine y_getm ok hB (by decide +kernel) hn.1 (fun hB => ?_)
            refine y_getr (b := (n + 1)) ok hB hn.2 (zla_r0 hn.2) (fun hB => ?_)
            refine y_getr (b := ((n + 1) + 4)) ok hB (zla_k0 hn.2) (zsu_r7 (zla_k0 hn.2)) (fun hB => ?_)
            refine z_iload hB rfl (fun hB => ?_)
            obtain ⟨g11, h⟩ := z_gd h
            refine y_iald ok hB (zsu_k7 (zla_k0 hn.2)) (zsu_l7 (zla_k0 hn.2)) g11 (fun hB => ?_)
            cases h
            exact z_reti hB
          · have h := z_neg hc h
            rw [z_sw_n hc]
            refine (Decidable.em (x2 = jn 3)).elim (fun hc => ?_) (fun hc => ?_)
            · have h := z_pos hc h
              rw [z_sw_p hc]
              have hB : z_all [z_is 108 91 (zf_aload 91 0 92), z_is 108 92 (zf_getr 92 7 5 95), z_is 108 95 (zf_getr 95 2 1 98), z_is 108 98 (zf_iload 98 1 99), z_is 108 99 (zf_cv 99 91 1 5 102), z_is 108 102 (zf_ret 0)] = true := by decide +kernel
              refine z_aload hB rfl (fun hB => ?_)
              refine y_getm ok hB (by decide +kernel) hn.1 (fun hB => ?_)
              refine y_getr (b := (n + 7)) ok hB hn.2 (zla_r1 hn.2) (fun hB => ?_)
              refine z_iload hB rfl (fun hB => ?_)
              obtain ⟨q12, e13, h⟩ := z_bind h
              refine y_cv ok hB (as := [.int (x1)]) (a := (n + 7)) (rest := []) rfl rfl rfl (zla_k1 hn.2) (t_S_flagsOf (I := I) ok (zla_k1 hn.2) e13) (fun hB => ?_)
              cases h
              exact z_reti hB
            · have h := z_neg hc h
              rw [z_sw_n hc]
              refine (Decidable.em (x2 = jn 4)).elim (fun hc => ?_) (fun hc => ?_)
              · have h := z_pos hc h
                rw [z_sw_p hc]
                have hB : z_all [z_is 108 103 (zf_aload 103 0 104), z_is 108 104 (zf_getr 104 7 5 107), z_is 108 107 (zf_getr 107 2 1 110), z_is 108 110 (zf_iload 110 1 111), z_is 108 111 (zf_cv 111 92 1 5 114), z_is 108 114 (zf_ret 0)] = true := by decide +kernel
                refine z_aload hB rfl (fun hB => ?_)
                refine y_getm ok hB (by decide +kernel) hn.1 (fun hB => ?_)
                refine y_getr (b := (n + 7)) ok hB hn.2 (zla_r1 hn.2) (fun hB => ?_)
                refine z_iload hB rfl (fun hB => ?_)
                obtain ⟨q14, e15, h⟩ := z_bind h
                refine y_cv ok hB (as := [.int (x1)]) (a := (n + 7)) (rest := []) rfl rfl rfl (zla_k1 hn.2) (t_S_readyFlagsOf (I := I) ok (zla_k1 hn.2) e15) (fun hB => ?_)
                cases h
                exact z_reti hB
              · have h := z_neg hc h
                rw [z_sw_n hc]
                refine (Decidable.em (x2 = jn 5)).elim (fun hc => ?_) (fun hc => ?_)
                · have h := z_pos hc h
                  rw [z_sw_p hc]
                  have hB : z_all [z_is 108 115 (zf_aload 115 0 116), z_is 108 116 (zf_getr 116 7 5 119), z_is 108 119 (zf_getr 119 2 1 122), z_is 108 122 (zf_iload 122 1 123), z_is 108 123 (zf_cv 123 88 1 5 126), z_is 108 126 (zf_if1 .eq 126 133 129)] = true := by decide +kernel
                  refine z_aload hB rfl (fun hB => ?_)
                  refine y_getm ok hB (by decide +kernel) hn.1 (fun hB => ?_)
                  refine y_getr (b := (n + 7)) ok hB hn.2 (zla_r1 hn.2) (fun hB => ?_)
                  refine z_iload hB rfl (fun hB => ?_)
                  obtain ⟨q16, e17, h⟩ := z_bind h
                  refine y_cv ok hB (as := [.int (x1)]) (a := (n + 7)) (rest := []) rfl rfl rfl (zla_k1 hn.2) (t_S_wasHandedOver (I := I) ok (zla_k1 hn.2) e17) (fun hB => ?_)
                  obtain ⟨q18, e19, h⟩ := z_bind h
                  have k20 : z_R G 108 134 [none, none, none] [.int (q18)] (z_w w I) (z_o z_vi r) (z_ow (z_w w I) r) := by
                    have hB : z_all [z_is 108 134 (zf_ret 0)] = true := by decide +kernel
                    cases h
                    exact z_reti hB
                  have h := e19
                  refine z_if_eq hB (fun hc _ => ?_) (fun hc _ => ?_)
                  · have h := z_pos hc h
                    have hB : z_all [z_is 108 133 (zf_cst 133 (jn 0) 134)] = true := by decide +kernel
                    refine z_cst hB (fun hB => ?_)
                    cases h
                    exact z_weak k20 (z_sn (z_sn (z_sn z_s0)))
                  · have h := z_neg hc h
                    have hB : z_all [z_is 108 129 (zf_cst 129 (jn 1) 130), z_is 108 130 (zf_goto 130 134)] = true := by decide +kernel
                    refine z_cst hB (fun hB => ?_)
                    refine z_goto hB (fun hB => ?_)
                    cases h
                    exact z_weak k20 (z_sn (z_sn (z_sn z_s0)))
                · have h := z_neg hc h
                  rw [z_sw_n hc]
                  show z_R G 108 135 _ _ _ _ _
                  have hB : z_all [z_is 108 135 (zf_aload 135 0 136), z_is 108 136 (zf_getr 136 7 5 139), z_is 108 139 (zf_iload 139 1 140), z_is 108 140 (zf_cv 140 46 1 2 143), z_is 108 143 (zf_ret 0)] = true := by decide +kernel
                  refine z_aload hB rfl (fun hB => ?_)
                  refine y_getm ok hB (by decide +kernel) hn.1 (fun hB => ?_)
                  refine z_iload hB rfl (fun hB => ?_)
                  obtain ⟨q21, e22, h⟩ := z_bind h
                  refine y_cv ok hB (as := [.int (x1)]) (a := n) (rest := []) rfl rfl rfl hn.2 (t_L_hoursLate (I := I) ok hn.2 e22) (fun hB => ?_)
                  cases h
                  exact z_reti hB
def d_F_needFlag (n : Nat) (x1 : Int32) (I : z_H) : Option (Nat ⊕ Unit) := ((d_F_needText I).bind fun q1 => (match q1 with | .inl v3 => some (Sum.inl v3) | .inr v4 => (if x1 < jn 0 then some (Sum.inl 1) else (if x1 < (I (n + 7) 6) then some (Sum.inr (())) else some (Sum.inl 1)))))
/-- FlagLaundry.needFlag(I)V -/
theorem t_F_needFlag {G : z_G} {w : ev_W} (ok : z_Ok G w) {n : Nat} {x1 : Int32} (hn : z_fc w n) {I : z_H} {r : Nat ⊕ Unit} (h : d_F_needFlag n x1 I = some r) : z_K G 140 [.ref (0), .int (x1)] (z_w w I) (z_o z_vv r) (z_ow (z_w w I) r) := by
  refine z_con ok.1 (ml := 2) (by decide +kernel) rfl rfl ?_
  show z_R G 140 0 [some (.ref (0)), some (.int (x1))] [] (z_w w I) (z_o z_vv r) (z_ow (z_w w I) r)
  unfold d_F_needFlag at h
  have hB : z_all [z_is 140 0 (zf_aload 0 0 1), z_is 140 1 (zf_cv 1 139 0 7 4), z_is 140 4 (zf_iload 4 1 5), z_is 140 5 (zf_if1 .lt 5 22 8)] = true := by decide +kernel
  refine z_aload hB rfl (fun hB => ?_)
  obtain ⟨q1, e2, h⟩ := z_bind h
  cases q1 with
  | inl v3 =>
    have hc9 := t_F_needText (I := I) ok e2
    cases h
    exact y_cvx ok hB (as := []) (a := 0) (rest := []) rfl (by decide +kernel) rfl rfl (by decide +kernel) hc9
  | inr v4 =>
    have hc9 := t_F_needText (I := I) ok e2
    refine y_cv ok hB (as := []) (a := 0) (rest := []) rfl rfl rfl (by decide +kernel) hc9 (fun hB => ?_)
    refine z_iload hB rfl (fun hB => ?_)
    refine z_if_lt hB (fun hc _ => ?_) (fun hc _ => ?_)
    · have h := z_pos hc h
      have hB : z_all [z_thr 140 22 1] = true := by decide +kernel
      cases h
      exact z_throw hB
    · have h := z_neg hc h
      have hB : z_all [z_is 140 8 (zf_iload 8 1 9), z_is 140 9 (zf_aload 9 0 10), z_is 140 10 (zf_getr 10 7 5 13), z_is 140 13 (zf_getr 13 2 1 16), z_is 140 16 (zf_geti 16 5 6 19), z_is 140 19 (zf_if2 .lt 19 33 22)] = true := by decide +kernel
      refine z_iload hB rfl (fun hB => ?_)
      refine z_aload hB rfl (fun hB => ?_)
      refine y_getm ok hB (by decide +kernel) hn.1 (fun hB => ?_)
      refine y_getr (b := (n + 7)) ok hB hn.2 (zla_r1 hn.2) (fun hB => ?_)
      refine y_geti ok hB (zla_k1 hn.2) (fun hB => ?_)
      refine z_ic_lt hB (fun hc _ => ?_) (fun hc _ => ?_)
      · have h := z_pos hc h
        have hB : z_all [z_is 140 33 (zf_ret 6)] = true := by decide +kernel
        cases h
        exact z_retv hB
      · have h := z_neg hc h
        have hB : z_all [z_thr 140 22 1] = true := by decide +kernel
        cases h
        exact z_throw hB
def d_F_flag (n : Nat) (x1 : Int32) (x2 : Int32) (I : z_H) : Option (Nat ⊕ Int32) := ((d_F_needFlag n (x1) I).bind fun q1 => (match q1 with | .inl v3 => some (Sum.inl v3) | .inr v4 => ((d_F_needRange (x2) ((jn 0)) ((jn 9))).bind fun q5 => (match q5 with | .inl v7 => some (Sum.inl v7) | .inr v8 => (if z_in (x1) 12 then (if x2 = jn 0 then some (Sum.inr ((I ((n + 7) + 2 + z_n (x1)) 0))) else (if x2 = jn 1 then some (Sum.inr ((I ((n + 7) + 2 + z_n (x1)) 1))) else (if x2 = jn 2 then some (Sum.inr ((I ((n + 7) + 2 + z_n (x1)) 2))) else (if x2 = jn 3 then some (Sum.inr ((I ((n + 7) + 2 + z_n (x1)) 3))) else (if x2 = jn 4 then some (Sum.inr ((I ((n + 7) + 2 + z_n (x1)) 4))) else (if x2 = jn 5 then some (Sum.inr ((I ((n + 7) + 2 + z_n (x1)) 5))) else (if x2 = jn 6 then some (Sum.inr ((I ((n + 7) + 2 + z_n (x1)) 6))) else (if x2 = jn 7 then some (Sum.inr ((I ((n + 7) + 2 + z_n (x1)) 7))) else (if x2 = jn 8 then some (Sum.inr ((I ((n + 7) + 2 + z_n (x1)) 8))) else some (Sum.inr ((I ((n + 7) + 2 + z_n (x1)) 9)))))))))))) else none)))))
/-- FlagLaundry.flag(II)I -/
theorem t_F_flag {G : z_G} {w : ev_W} (ok : z_Ok G w) {n : Nat} {x1 : Int32} {x2 : Int32} (hn : z_fc w n) {I : z_H} {r : Nat ⊕ Int32} (h : d_F_flag n x1 x2 I = some r) : z_K G 109 [.ref (0), .int (x1), .int (x2)] (z_w w I) (z_o z_vi r) (z_ow (z_w w I) r) := by
  refine z_con ok.1 (ml := 4) (by decide +kernel) rfl rfl ?_
  show z_R G 109 0 [some (.ref (0)), some (.int (x1)), some (.int (x2)), none] [] (z_w w I) (z_o z_vi r) (z_ow (z_w w I) r)
  unfold d_F_flag at h
  have hB : z_all [z_is 109 0 (zf_aload 0 0 1), z_is 109 1 (zf_iload 1 1 2), z_is 109 2 (zf_cv 2 140 1 7 5), z_is 109 5 (zf_iload 5 2 6), z_is 109 6 (zf_cst 6 (jn 0) 7), z_is 109 7 (zf_cst 7 (jn 9) 9), z_is 109 9 (zf_cs 9 145 3 12), z_is 109 12 (zf_aload 12 0 13), z_is 109 13 (zf_getr 13 7 5 16), z_is 109 16 (zf_getr 16 2 1 19), z_is 109 19 (zf_getr 19 5 7 22), z_is 109 22 (zf_iload 22 1 23), z_is 109 23 (zf_aald 23 24), z_is 109 24 (zf_astore 24 3 25), z_is 109 25 (zf_iload 25 2 26), z_is 109 26 (zf_tsw 26 0 [(jn 0, 76), (jn 1, 81), (jn 2, 86), (jn 3, 91), (jn 4, 96), (jn 5, 101), (jn 6, 106), (jn 7, 111), (jn 8, 116)] 121)] = true := by decide +kernel
  refine z_aload hB rfl (fun hB => ?_)
  refine z_iload hB rfl (fun hB => ?_)
  obtain ⟨q1, e2, h⟩ := z_bind h
  cases q1 with
  | inl v3 =>
    have hc9 := t_F_needFlag (I := I) ok hn e2
    cases h
    exact y_cvx ok hB (as := [.int (x1)]) (a := 0) (rest := []) rfl (by decide +kernel) rfl rfl (by decide +kernel) hc9
  | inr v4 =>
    have hc9 := t_F_needFlag (I := I) ok hn e2
    refine y_cv ok hB (as := [.int (x1)]) (a := 0) (rest := []) rfl rfl rfl (by decide +kernel) hc9 (fun hB => ?_)
    refine z_iload hB rfl (fun hB => ?_)
    refine z_cst hB (fun hB => ?_)
    refine z_cst hB (fun hB => ?_)
    obtain ⟨q5, e6, h⟩ := z_bind h
    cases q5 with
    | inl v7 =>
      have hc9 := t_F_needRange (I := I) ok e6
      cases h
      exact z_callSx hB (as := [.int (x2), .int ((jn 0)), .int ((jn 9))]) (rest := []) rfl (by decide +kernel) rfl rfl hc9
    | inr v8 =>
      have hc9 := t_F_needRange (I := I) ok e6
      refine z_callS hB (as := [.int (x2), .int ((jn 0)), .int ((jn 9))]) (rest := []) rfl rfl rfl hc9 (fun hB => ?_)
      refine z_aload hB rfl (fun hB => ?_)
      refine y_getm ok hB (by decide +kernel) hn.1 (fun hB => ?_)
      refine y_getr (b := (n + 7)) ok hB hn.2 (zla_r1 hn.2) (fun hB => ?_)
      refine y_getr (b := ((n + 7) + 1)) ok hB (zla_k1 hn.2) (zst_r7 (zla_k1 hn.2)) (fun hB => ?_)
      refine z_iload hB rfl (fun hB => ?_)
      obtain ⟨g9, h⟩ := z_gd h
      refine y_fald ok hB (zst_k1 (zla_k1 hn.2)) (zst_l1 (zla_k1 hn.2)) g9 (zst_fR (zla_k1 hn.2) g9) (fun hB => ?_)
      refine z_astore hB rfl rfl (fun hB => ?_)
      refine z_iload hB rfl (fun hB => ?_)
      refine z_tsw hB ?_
      refine (Decidable.em (x2 = jn 0)).elim (fun hc => ?_) (fun hc => ?_)
      · have h := z_pos hc h
        rw [z_sw_p hc]
        have hB : z_all [z_is 109 76 (zf_aload 76 3 77), z_is 109 77 (zf_geti 77 0 0 80), z_is 109 80 (zf_ret 0)] = true := by decide +kernel
        refine z_aload hB rfl (fun hB => ?_)
        refine y_geti ok hB (zst_fK (zla_k1 hn.2) g9) (fun hB => ?_)
        cases h
        exact z_reti hB
      · have h := z_neg hc h
        rw [z_sw_n hc]
        refine (Decidable.em (x2 = jn 1)).elim (fun hc => ?_) (fun hc => ?_)
        · have h := z_pos hc h
          rw [z_sw_p hc]
          have hB : z_all [z_is 109 81 (zf_aload 81 3 82), z_is 109 82 (zf_geti 82 0 1 85), z_is 109 85 (zf_ret 0)] = true := by decide +kernel
          refine z_aload hB rfl (fun hB => ?_)
          refine y_geti ok hB (zst_fK (zla_k1 hn.2) g9) (fun hB => ?_)
          cases h
          exact z_reti hB
        · have h := z_neg hc h
          rw [z_sw_n hc]
          refine (Decidable.em (x2 = jn 2)).elim (fun hc => ?_) (fun hc => ?_)
          · have h := z_pos hc h
            rw [z_sw_p hc]
            have hB : z_all [z_is 109 86 (zf_aload 86 3 87), z_is 109 87 (zf_geti 87 0 2 90), z_is 109 90 (zf_ret 0)] = true := by decide +kernel
            refine z_aload hB rfl (fun hB => ?_)
            refine y_geti ok hB (zst_fK (zla_k1 hn.2) g9) (fun hB => ?_)
            cases h
            exact z_reti hB
          · have h := z_neg hc h
            rw [z_sw_n hc]
            refine (Decidable.em (x2 = jn 3)).elim (fun hc => ?_) (fun hc => ?_)
            · have h := z_pos hc h
              rw [z_sw_p hc]
              have hB : z_all [z_is 109 91 (zf_aload 91 3 92), z_is 109 92 (zf_geti 92 0 3 95), z_is 109 95 (zf_ret 0)] = true := by decide +kernel
              refine z_aload hB rfl (fun hB => ?_)
              refine y_geti ok hB (zst_fK (zla_k1 hn.2) g9) (fun hB => ?_)
              cases h
              exact z_reti hB
            · have h := z_neg hc h
              rw [z_sw_n hc]
              refine (Decidable.em (x2 = jn 4)).elim (fun hc => ?_) (fun hc => ?_)
              · have h := z_pos hc h
                rw [z_sw_p hc]
                have hB : z_all [z_is 109 96 (zf_aload 96 3 97), z_is 109 97 (zf_geti 97 0 4 100), z_is 109 100 (zf_ret 0)] = true := by decide +kernel
                refine z_aload hB rfl (fun hB => ?_)
                refine y_geti ok hB (zst_fK (zla_k1 hn.2) g9) (fun hB => ?_)
                cases h
                exact z_reti hB
              · have h := z_neg hc h
                rw [z_sw_n hc]
                refine (Decidable.em (x2 = jn 5)).elim (fun hc => ?_) (fun hc => ?_)
                · have h := z_pos hc h
                  rw [z_sw_p hc]
                  have hB : z_all [z_is 109 101 (zf_aload 101 3 102), z_is 109 102 (zf_geti 102 0 5 105), z_is 109 105 (zf_ret 0)] = true := by decide +kernel
                  refine z_aload hB rfl (fun hB => ?_)
                  refine y_geti ok hB (zst_fK (zla_k1 hn.2) g9) (fun hB => ?_)
                  cases h
                  exact z_reti hB
                · have h := z_neg hc h
                  rw [z_sw_n hc]
                  refine (Decidable.em (x2 = jn 6)).elim (fun hc => ?_) (fun hc => ?_)
                  · have h := z_pos hc h
                    rw [z_sw_p hc]
                    have hB : z_all [z_is 109 106 (zf_aload 106 3 107), z_is 109 107 (zf_geti 107 0 6 110), z_is 109 110 (zf_ret 0)] = true := by decide +kernel
                    refine z_aload hB rfl (fun hB => ?_)
                    refine y_geti ok hB (zst_fK (zla_k1 hn.2) g9) (fun hB => ?_)
                    cases h
                    exact z_reti hB
                  · have h := z_neg hc h
                    rw [z_sw_n hc]
                    refine (Decidable.em (x2 = jn 7)).elim (fun hc => ?_) (fun hc => ?_)
                    · have h := z_pos hc h
                      rw [z_sw_p hc]
                      have hB : z_all [z_is 109 111 (zf_aload 111 3 112), z_is 109 112 (zf_geti 112 0 7 115), z_is 109 115 (zf_ret 0)] = true := by decide +kernel
                      refine z_aload hB rfl (fun hB => ?_)
                      refine y_geti ok hB (zst_fK (zla_k1 hn.2) g9) (fun hB => ?_)
                      cases h
                      exact z_reti hB
                    · have h := z_neg hc h
                      rw [z_sw_n hc]
                      refine (Decidable.em (x2 = jn 8)).elim (fun hc => ?_) (fun hc => ?_)
                      · have h := z_pos hc h
                        rw [z_sw_p hc]
                        have hB : z_all [z_is 109 116 (zf_aload 116 3 117), z_is 109 117 (zf_geti 117 0 8 120), z_is 109 120 (zf_ret 0)] = true := by decide +kernel
                        refine z_aload hB rfl (fun hB => ?_)
                        refine y_geti ok hB (zst_fK (zla_k1 hn.2) g9) (fun hB => ?_)
                        cases h
                        exact z_reti hB
                      · have h := z_neg hc h
                        rw [z_sw_n hc]
                        show z_R G 109 121 _ _ _ _ _
                        have hB : z_all [z_is 109 121 (zf_aload 121 3 122), z_is 109 122 (zf_geti 122 0 9 125), z_is 109 125 (zf_ret 0)] = true := by decide +kernel
                        refine z_aload hB rfl (fun hB => ?_)
                        refine y_geti ok hB (zst_fK (zla_k1 hn.2) g9) (fun hB => ?_)
                        cases h
                        exact z_reti hB
def d_F_needTub (n : Nat) (x1 : Int32) (I : z_H) : Option (Nat ⊕ Unit) := ((d_F_needText I).bind fun q1 => (match q1 with | .inl v3 => some (Sum.inl v3) | .inr v4 => (if x1 < jn 0 then some (Sum.inl 1) else (if x1 < (I (n + 1) 3) then some (Sum.inr (())) else some (Sum.inl 1)))))
/-- FlagLaundry.needTub(I)V -/
theorem t_F_needTub {G : z_G} {w : ev_W} (ok : z_Ok G w) {n : Nat} {x1 : Int32} (hn : z_fc w n) {I : z_H} {r : Nat ⊕ Unit} (h : d_F_needTub n x1 I = some r) : z_K G 141 [.ref (0), .int (x1)] (z_w w I) (z_o z_vv r) (z_ow (z_w w I) r) := by
  refine z_con ok.1 (ml := 2) (by decide +kernel) rfl rfl ?_
  show z_R G 141 0 [some (.ref (0)), some (.int (x1))] [] (z_w w I) (z_o z_vv r) (z_ow (z_w w I) r)
  unfold d_F_needTub at h
  have hB : z_all [z_is 141 0 (zf_aload 0 0 1), z_is 141 1 (zf_cv 1 139 0 7 4), z_is 141 4 (zf_iload 4 1 5), z_is 141 5 (zf_if1 .lt 5 22 8)] = true := by decide +kernel
  refine z_aload hB rfl (fun hB => ?_)
  obtain ⟨q1, e2, h⟩ := z_bind h
  cases q1 with
  | inl v3 =>
    have hc9 := t_F_needText (I := I) ok e2
    cases h
    exact y_cvx ok hB (as := []) (a := 0) (rest := []) rfl (by decide +kernel) rfl rfl (by decide +kernel) hc9
  | inr v4 =>
    have hc9 := t_F_needText (I := I) ok e2
    refine y_cv ok hB (as := []) (a := 0) (rest := []) rfl rfl rfl (by decide +kernel) hc9 (fun hB => ?_)
    refine z_iload hB rfl (fun hB => ?_)
    refine z_if_lt hB (fun hc _ => ?_) (fun hc _ => ?_)
    · have h := z_pos hc h
      have hB : z_all [z_thr 141 22 1] = true := by decide +kernel
      cases h
      exact z_throw hB
    · have h := z_neg hc h
      have hB : z_all [z_is 141 8 (zf_iload 8 1 9), z_is 141 9 (zf_aload 9 0 10), z_is 141 10 (zf_getr 10 7 5 13), z_is 141 13 (zf_getr 13 2 0 16), z_is 141 16 (zf_geti 16 4 3 19), z_is 141 19 (zf_if2 .lt 19 33 22)] = true := by decide +kernel
      refine z_iload hB rfl (fun hB => ?_)
      refine z_aload hB rfl (fun hB => ?_)
      refine y_getm ok hB (by decide +kernel) hn.1 (fun hB => ?_)
      refine y_getr (b := (n + 1)) ok hB hn.2 (zla_r0 hn.2) (fun hB => ?_)
      refine y_geti ok hB (zla_k0 hn.2) (fun hB => ?_)
      refine z_ic_lt hB (fun hc _ => ?_) (fun hc _ => ?_)
      · have h := z_pos hc h
        have hB : z_all [z_is 141 33 (zf_ret 6)] = true := by decide +kernel
        cases h
        exact z_retv hB
      · have h := z_neg hc h
        have hB : z_all [z_thr 141 22 1] = true := by decide +kernel
        cases h
        exact z_throw hB
def d_F_tub (n : Nat) (x1 : Int32) (x2 : Int32) (I : z_H) : Option (Nat ⊕ Int32) := ((d_F_needTub n (x1) I).bind fun q1 => (match q1 with | .inl v3 => some (Sum.inl v3) | .inr v4 => ((d_F_needRange (x2) ((jn 0)) ((jn 4))).bind fun q5 => (match q5 with | .inl v7 => some (Sum.inl v7) | .inr v8 => (if x2 = jn 0 then (if z_in (x1) 3 then some (Sum.inr ((I ((n + 1) + 5) (z_n (x1))))) else none) else (if x2 = jn 1 then (if z_in (x1) 3 then some (Sum.inr ((I ((n + 7) + 14) (z_n (x1))))) else none) else (if x2 = jn 2 then ((d_L_greatestHeat n (x1) I).bind fun q11 => some (Sum.inr (q11))) else (if x2 = jn 3 then ((d_L_dirtIn n (x1) I).bind fun q13 => some (Sum.inr (q13))) else ((d_L_coloursIn n (x1) I).bind fun q15 => some (Sum.inr (q15)))))))))))
/-- FlagLaundry.tub(II)I -/
theorem t_F_tub {G : z_G} {w : ev_W} (ok : z_Ok G w) {n : Nat} {x1 : Int32} {x2 : Int32} (hn : z_fc w n) {I : z_H} {r : Nat ⊕ Int32} (h : d_F_tub n x1 x2 I = some r) : z_K G 110 [.ref (0), .int (x1), .int (x2)] (z_w w I) (z_o z_vi r) (z_ow (z_w w I) r) := by
  refine z_con ok.1 (ml := 3) (by decide +kernel) rfl rfl ?_
  show z_R G 110 0 [some (.ref (0)), some (.int (x1)), some (.int (x2))] [] (z_w w I) (z_o z_vi r) (z_ow (z_w w I) r)
  unfold d_F_tub at h
  have hB : z_all [z_is 110 0 (zf_aload 0 0 1), z_is 110 1 (zf_iload 1 1 2), z_is 110 2 (zf_cv 2 141 1 7 5), z_is 110 5 (zf_iload 5 2 6), z_is 110 6 (zf_cst 6 (jn 0) 7), z_is 110 7 (zf_cst 7 (jn 4) 8), z_is 110 8 (zf_cs 8 145 3 11), z_is 110 11 (zf_iload 11 2 12), z_is 110 12 (zf_tsw 12 0 [(jn 0, 44), (jn 1, 57), (jn 2, 70), (jn 3, 79)] 88)] = true := by decide +kernel
  refine z_aload hB rfl (fun hB => ?_)
  refine z_iload hB rfl (fun hB => ?_)
  obtain ⟨q1, e2, h⟩ := z_bind h
  cases q1 with
  | inl v3 =>
    have hc9 := t_F_needTub (I := I) ok hn e2
    cases h
    exact y_cvx ok hB (as := [.int (x1)]) (a := 0) (rest := []) rfl (by decide +kernel) rfl rfl (by decide +kernel) hc9
  | inr v4 =>
    have hc9 := t_F_needTub (I := I) ok hn e2
    refine y_cv ok hB (as := [.int (x1)]) (a := 0) (rest := []) rfl rfl rfl (by decide +kernel) hc9 (fun hB => ?_)
    refine z_iload hB rfl (fun hB => ?_)
    refine z_cst hB (fun hB => ?_)
    refine z_cst hB (fun hB => ?_)
    obtain ⟨q5, e6, h⟩ := z_bind h
    cases q5 with
    | inl v7 =>
      have hc9 := t_F_needRange (I := I) ok e6
      cases h
      exact z_callSx hB (as := [.int (x2), .int ((jn 0)), .int ((jn 4))]) (rest := []) rfl (by decide +kernel) rfl rfl hc9
    | inr v8 =>
      have hc9 := t_F_needRange (I := I) ok e6
      refine z_callS hB (as := [.int (x2), .int ((jn 0)), .int ((jn 4))]) (rest := []) rfl rfl rfl hc9 (fun hB => ?_)
      refine z_iload hB rfl (fun hB => ?_)
      refine z_tsw hB ?_
      refine (Decidable.em (x2 = jn 0)).elim (fun hc => ?_) (fun hc => ?_)
      · have h := z_pos hc h
        rw [z_sw_p hc]
        have hB : z_all [z_is 110 44 (zf_aload 44 0 45), z_is 110 45 (zf_getr 45 7 5 48), z_is 110 48 (zf_getr 48 2 0 51), z_is 110 51 (zf_getr 51 4 8 54), z_is 110 54 (zf_iload 54 1 55), z_is 110 55 (zf_iald 55 56), z_is 110 56 (zf_ret 0)] = true := by decide +kernel
        refine z_aload hB rfl (fun hB => ?_)
        refine y_getm ok hB (by decide +kernel) hn.1 (fun hB => ?_)
        refine y_getr (b := (n + 1)) ok hB hn.2 (zla_r0 hn.2) (fun hB => ?_)
        refine y_getr (b := ((n + 1) + 5)) ok hB (zla_k0 hn.2) (zsu_r8 (zla_k0 hn.2)) (fun hB => ?_)
        refine z_iload hB rfl (fun hB => ?_)
        obtain ⟨g9, h⟩ := z_gd h
        refine y_iald ok hB (zsu_k8 (zla_k0 hn.2)) (zsu_l8 (zla_k0 hn.2)) g9 (fun hB => ?_)
        cases h
        exact z_reti hB
      · have h := z_neg hc h
        rw [z_sw_n hc]
        refine (Decidable.em (x2 = jn 1)).elim (fun hc => ?_) (fun hc => ?_)
        · have h := z_pos hc h
          rw [z_sw_p hc]
          have hB : z_all [z_is 110 57 (zf_aload 57 0 58), z_is 110 58 (zf_getr 58 7 5 61), z_is 110 61 (zf_getr 61 2 1 64), z_is 110 64 (zf_getr 64 5 8 67), z_is 110 67 (zf_iload 67 1 68), z_is 110 68 (zf_iald 68 69), z_is 110 69 (zf_ret 0)] = true := by decide +kernel
          refine z_aload hB rfl (fun hB => ?_)
          refine y_getm ok hB (by decide +kernel) hn.1 (fun hB => ?_)
          refine y_getr (b := (n + 7)) ok hB hn.2 (zla_r1 hn.2) (fun hB => ?_)
          refine y_getr (b := ((n + 7) + 14)) ok hB (zla_k1 hn.2) (zst_r8 (zla_k1 hn.2)) (fun hB => ?_)
          refine z_iload hB rfl (fun hB => ?_)
          obtain ⟨g10, h⟩ := z_gd h
          refine y_iald ok hB (zst_k14 (zla_k1 hn.2)) (zst_l14 (zla_k1 hn.2)) g10 (fun hB => ?_)
          cases h
          exact z_reti hB
        · have h := z_neg hc h
          rw [z_sw_n hc]
          refine (Decidable.em (x2 = jn 2)).elim (fun hc => ?_) (fun hc => ?_)
          · have h := z_pos hc h
            rw [z_sw_p hc]
            have hB : z_all [z_is 110 70 (zf_aload 70 0 71), z_is 110 71 (zf_getr 71 7 5 74), z_is 110 74 (zf_iload 74 1 75), z_is 110 75 (zf_cv 75 28 1 2 78), z_is 110 78 (zf_ret 0)] = true := by decide +kernel
            refine z_aload hB rfl (fun hB => ?_)
            refine y_getm ok hB (by decide +kernel) hn.1 (fun hB => ?_)
            refine z_iload hB rfl (fun hB => ?_)
            obtain ⟨q11, e12, h⟩ := z_bind h
            refine y_cv ok hB (as := [.int (x1)]) (a := n) (rest := []) rfl rfl rfl hn.2 (t_L_greatestHeat (I := I) ok hn.2 e12) (fun hB => ?_)
            cases h
            exact z_reti hB
          · have h := z_neg hc h
            rw [z_sw_n hc]
            refine (Decidable.em (x2 = jn 3)).elim (fun hc => ?_) (fun hc => ?_)
            · have h := z_pos hc h
              rw [z_sw_p hc]
              have hB : z_all [z_is 110 79 (zf_aload 79 0 80), z_is 110 80 (zf_getr 80 7 5 83), z_is 110 83 (zf_iload 83 1 84), z_is 110 84 (zf_cv 84 29 1 2 87), z_is 110 87 (zf_ret 0)] = true := by decide +kernel
              refine z_aload hB rfl (fun hB => ?_)
              refine y_getm ok hB (by decide +kernel) hn.1 (fun hB => ?_)
              refine z_iload hB rfl (fun hB => ?_)
              obtain ⟨q13, e14, h⟩ := z_bind h
              refine y_cv ok hB (as := [.int (x1)]) (a := n) (rest := []) rfl rfl rfl hn.2 (t_L_dirtIn (I := I) ok hn.2 e14) (fun hB => ?_)
              cases h
              exact z_reti hB
            · have h := z_neg hc h
              rw [z_sw_n hc]
              show z_R G 110 88 _ _ _ _ _
              have hB : z_all [z_is 110 88 (zf_aload 88 0 89), z_is 110 89 (zf_getr 89 7 5 92), z_is 110 92 (zf_iload 92 1 93), z_is 110 93 (zf_cv 93 30 1 2 96), z_is 110 96 (zf_ret 0)] = true := by decide +kernel
              refine z_aload hB rfl (fun hB => ?_)
              refine y_getm ok hB (by decide +kernel) hn.1 (fun hB => ?_)
              refine z_iload hB rfl (fun hB => ?_)
              obtain ⟨q15, e16, h⟩ := z_bind h
              refine y_cv ok hB (as := [.int (x1)]) (a := n) (rest := []) rfl rfl rfl hn.2 (t_L_coloursIn (I := I) ok hn.2 e16) (fun hB => ?_)
              cases h
              exact z_reti hB
def d_F_inTub (n : Nat) (x1 : Int32) (x2 : Int32) (I : z_H) : Option (Nat ⊕ Int32) := ((d_F_needTub n (x1) I).bind fun q1 => (match q1 with | .inl v3 => some (Sum.inl v3) | .inr v4 => (Option.bind (α := Int32) (if x2 < jn 0 then some ((jg 1)) else (if z_in (x1) 3 then (if x2 < (I ((n + 7) + 14) (z_n (x1))) then ((d_S_flagInTub (n + 7) (x1) (x2) I).bind fun q9 => some (q9)) else some ((jg 1))) else none)) fun q5 => some (Sum.inr (q5)))))
/-- FlagLaundry.inTub(II)I -/
theorem t_F_inTub {G : z_G} {w : ev_W} (ok : z_Ok G w) {n : Nat} {x1 : Int32} {x2 : Int32} (hn : z_fc w n) {I : z_H} {r : Nat ⊕ Int32} (h : d_F_inTub n x1 x2 I = some r) : z_K G 111 [.ref (0), .int (x1), .int (x2)] (z_w w I) (z_o z_vi r) (z_ow (z_w w I) r) := by
  refine z_con ok.1 (ml := 3) (by decide +kernel) rfl rfl ?_
  show z_R G 111 0 [some (.ref (0)), some (.int (x1)), some (.int (x2))] [] (z_w w I) (z_o z_vi r) (z_ow (z_w w I) r)
  unfold d_F_inTub at h
  have hB : z_all [z_is 111 0 (zf_aload 0 0 1), z_is 111 1 (zf_iload 1 1 2), z_is 111 2 (zf_cv 2 141 1 7 5), z_is 111 5 (zf_iload 5 2 6), z_is 111 6 (zf_if1 .lt 6 40 9)] = true := by decide +kernel
  refine z_aload hB rfl (fun hB => ?_)
  refine z_iload hB rfl (fun hB => ?_)
  obtain ⟨q1, e2, h⟩ := z_bind h
  cases q1 with
  | inl v3 =>
    have hc9 := t_F_needTub (I := I) ok hn e2
    cases h
    exact y_cvx ok hB (as := [.int (x1)]) (a := 0) (rest := []) rfl (by decide +kernel) rfl rfl (by decide +kernel) hc9
  | inr v4 =>
    have hc9 := t_F_needTub (I := I) ok hn e2
    refine y_cv ok hB (as := [.int (x1)]) (a := 0) (rest := []) rfl rfl rfl (by decide +kernel) hc9 (fun hB => ?_)
    refine z_iload hB rfl (fun hB => ?_)
    obtain ⟨q5, e6, h⟩ := z_bind h
    have k7 : z_R G 111 41 [none, none, none] [.int (q5)] (z_w w I) (z_o z_vi r) (z_ow (z_w w I) r) := by
      have hB : z_all [z_is 111 41 (zf_ret 0)] = true := by decide +kernel
      cases h
      exact z_reti hB
    have h := e6
    refine z_if_lt hB (fun hc _ => ?_) (fun hc _ => ?_)
    · have h := z_pos hc h
      have hB : z_all [z_is 111 40 (zf_cst 40 (jg 1) 41)] = true := by decide +kernel
      refine z_cst hB (fun hB => ?_)
      cases h
      exact z_weak k7 (z_sn (z_sn (z_sn z_s0)))
    · have h := z_neg hc h
      have hB : z_all [z_is 111 9 (zf_iload 9 2 10), z_is 111 10 (zf_aload 10 0 11), z_is 111 11 (zf_getr 11 7 5 14), z_is 111 14 (zf_getr 14 2 1 17), z_is 111 17 (zf_getr 17 5 8 20), z_is 111 20 (zf_iload 20 1 21), z_is 111 21 (zf_iald 21 22), z_is 111 22 (zf_if2 .ge 22 40 25)] = true := by decide +kernel
      refine z_iload hB rfl (fun hB => ?_)
      refine z_aload hB rfl (fun hB => ?_)
      refine y_getm ok hB (by decide +kernel) hn.1 (fun hB => ?_)
      refine y_getr (b := (n + 7)) ok hB hn.2 (zla_r1 hn.2) (fun hB => ?_)
      refine y_getr (b := ((n + 7) + 14)) ok hB (zla_k1 hn.2) (zst_r8 (zla_k1 hn.2)) (fun hB => ?_)
      refine z_iload hB rfl (fun hB => ?_)
      obtain ⟨g8, h⟩ := z_gd h
      refine y_iald ok hB (zst_k14 (zla_k1 hn.2)) (zst_l14 (zla_k1 hn.2)) g8 (fun hB => ?_)
      refine z_ic_ge hB (fun hc _ => ?_) (fun hc _ => ?_)
      · have h := z_neg hc h
        have hB : z_all [z_is 111 40 (zf_cst 40 (jg 1) 41)] = true := by decide +kernel
        refine z_cst hB (fun hB => ?_)
        cases h
        exact z_weak k7 (z_sn (z_sn (z_sn z_s0)))
      · have h := z_pos hc h
        have hB : z_all [z_is 111 25 (zf_aload 25 0 26), z_is 111 26 (zf_getr 26 7 5 29), z_is 111 29 (zf_getr 29 2 1 32), z_is 111 32 (zf_iload 32 1 33), z_is 111 33 (zf_iload 33 2 34), z_is 111 34 (zf_cv 34 86 2 5 37), z_is 111 37 (zf_goto 37 41)] = true := by decide +kernel
        refine z_aload hB rfl (fun hB => ?_)
        refine y_getm ok hB (by decide +kernel) hn.1 (fun hB => ?_)
        refine y_getr (b := (n + 7)) ok hB hn.2 (zla_r1 hn.2) (fun hB => ?_)
        refine z_iload hB rfl (fun hB => ?_)
        refine z_iload hB rfl (fun hB => ?_)
        obtain ⟨q9, e10, h⟩ := z_bind h
        refine y_cv ok hB (as := [.int (x1), .int (x2)]) (a := (n + 7)) (rest := []) rfl rfl rfl (zla_k1 hn.2) (t_S_flagInTub (I := I) ok (zla_k1 hn.2) e10) (fun hB => ?_)
        refine z_goto hB (fun hB => ?_)
        cases h
        exact z_weak k7 (z_sn (z_sn (z_sn z_s0)))
def d_F_freePegs (n : Nat) (I : z_H) : Option (Nat ⊕ Int32) := ((d_F_needText I).bind fun q1 => (match q1 with | .inl v3 => some (Sum.inl v3) | .inr v4 => ((d_S_flagsAt (n + 7) ((jn 2)) I).bind fun q5 => some (Sum.inr (((I (n + 1) 0) - q5))))))
/-- FlagLaundry.freePegs()I -/
theorem t_F_freePegs {G : z_G} {w : ev_W} (ok : z_Ok G w) {n : Nat} (hn : z_fc w n) {I : z_H} {r : Nat ⊕ Int32} (h : d_F_freePegs n I = some r) : z_K G 112 [.ref (0)] (z_w w I) (z_o z_vi r) (z_ow (z_w w I) r) := by
  refine z_con ok.1 (ml := 1) (by decide +kernel) rfl rfl ?_
  show z_R G 112 0 [some (.ref (0))] [] (z_w w I) (z_o z_vi r) (z_ow (z_w w I) r)
  unfold d_F_freePegs at h
  have hB : z_all [z_is 112 0 (zf_aload 0 0 1), z_is 112 1 (zf_cv 1 139 0 7 4), z_is 112 4 (zf_aload 4 0 5), z_is 112 5 (zf_getr 5 7 5 8), z_is 112 8 (zf_getr 8 2 0 11), z_is 112 11 (zf_geti 11 4 0 14), z_is 112 14 (zf_aload 14 0 15), z_is 112 15 (zf_getr 15 7 5 18), z_is 112 18 (zf_getr 18 2 1 21), z_is 112 21 (zf_cst 21 (jn 2) 22), z_is 112 22 (zf_cv 22 89 1 5 25), z_is 112 25 (zf_isub 25 26), z_is 112 26 (zf_ret 0)] = true := by decide +kernel
  refine z_aload hB rfl (fun hB => ?_)
  obtain ⟨q1, e2, h⟩ := z_bind h
  cases q1 with
  | inl v3 =>
    have hc9 := t_F_needText (I := I) ok e2
    cases h
    exact y_cvx ok hB (as := []) (a := 0) (rest := []) rfl (by decide +kernel) rfl rfl (by decide +kernel) hc9
  | inr v4 =>
    have hc9 := t_F_needText (I := I) ok e2
    refine y_cv ok hB (as := []) (a := 0) (rest := []) rfl rfl rfl (by decide +kernel) hc9 (fun hB => ?_)
    refine z_aload hB rfl (fun hB => ?_)
    refine y_getm ok hB (by decide +kernel) hn.1 (fun hB => ?_)
    refine y_getr (b := (n + 1)) ok hB hn.2 (zla_r0 hn.2) (fun hB => ?_)
    refine y_geti ok hB (zla_k0 hn.2) (fun hB => ?_)
    refine z_aload hB rfl (fun hB => ?_)
    refine y_getm ok hB (by decide +kernel) hn.1 (fun hB => ?_)
    refine y_getr (b := (n + 7)) ok hB hn.2 (zla_r1 hn.2) (fun hB => ?_)
    refine z_cst hB (fun hB => ?_)
    obtain ⟨q5, e6, h⟩ := z_bind h
    refine y_cv ok hB (as := [.int ((jn 2))]) (a := (n + 7)) (rest := [.int ((I (n + 1) 0))]) rfl rfl rfl (zla_k1 hn.2) (t_S_flagsAt (I := I) ok (zla_k1 hn.2) e6) (fun hB => ?_)
    refine z_isub hB (fun hB => ?_)
    cases h
    exact z_reti hB
def d_F_gap (n : Nat) (I : z_H) : Option (Nat ⊕ Int32) := ((d_F_needText I).bind fun q1 => (match q1 with | .inl v3 => some (Sum.inl v3) | .inr v4 => ((d_L_sumsThatDiffer n I).bind fun q5 => some (Sum.inr (q5)))))
/-- FlagLaundry.gap()I -/
theorem t_F_gap {G : z_G} {w : ev_W} (ok : z_Ok G w) {n : Nat} (hn : z_fc w n) {I : z_H} {r : Nat ⊕ Int32} (h : d_F_gap n I = some r) : z_K G 113 [.ref (0)] (z_w w I) (z_o z_vi r) (z_ow (z_w w I) r) := by
  refine z_con ok.1 (ml := 1) (by decide +kernel) rfl rfl ?_
  show z_R G 113 0 [some (.ref (0))] [] (z_w w I) (z_o z_vi r) (z_ow (z_w w I) r)
  unfold d_F_gap at h
  have hB : z_all [z_is 113 0 (zf_aload 0 0 1), z_is 113 1 (zf_cv 1 139 0 7 4), z_is 113 4 (zf_aload 4 0 5), z_is 113 5 (zf_getr 5 7 5 8), z_is 113 8 (zf_cv 8 51 0 2 11), z_is 113 11 (zf_ret 0)] = true := by decide +kernel
  refine z_aload hB rfl (fun hB => ?_)
  obtain ⟨q1, e2, h⟩ := z_bind h
  cases q1 with
  | inl v3 =>
    have hc9 := t_F_needText (I := I) ok e2
    cases h
    exact y_cvx ok hB (as := []) (a := 0) (rest := []) rfl (by decide +kernel) rfl rfl (by decide +kernel) hc9
  | inr v4 =>
    have hc9 := t_F_needText (I := I) ok e2
    refine y_cv ok hB (as := []) (a := 0) (rest := []) rfl rfl rfl (by decide +kernel) hc9 (fun hB => ?_)
    refine z_aload hB rfl (fun hB => ?_)
    refine y_getm ok hB (by decide +kernel) hn.1 (fun hB => ?_)
    obtain ⟨q5, e6, h⟩ := z_bind h
    refine y_cv ok hB (as := []) (a := n) (rest := []) rfl rfl rfl hn.2 (t_L_sumsThatDiffer (I := I) ok hn.2 e6) (fun hB => ?_)
    cases h
    exact z_reti hB
def d_F_why (n : Nat) (x1 : Int32) (I : z_H) : Option (Nat ⊕ Int32) := ((d_F_needFlag n (x1) I).bind fun q1 => (match q1 with | .inl v3 => some (Sum.inl v3) | .inr v4 => (if z_in (x1) 12 then ((d_G_firstReason ((n + 7) + 2 + z_n (x1)) I).bind fun q6 => some (Sum.inr (q6))) else none)))
/-- FlagLaundry.why(I)I -/
theorem t_F_why {G : z_G} {w : ev_W} (ok : z_Ok G w) {n : Nat} {x1 : Int32} (hn : z_fc w n) {I : z_H} {r : Nat ⊕ Int32} (h : d_F_why n x1 I = some r) : z_K G 114 [.ref (0), .int (x1)] (z_w w I) (z_o z_vi r) (z_ow (z_w w I) r) := by
  refine z_con ok.1 (ml := 2) (by decide +kernel) rfl rfl ?_
  show z_R G 114 0 [some (.ref (0)), some (.int (x1))] [] (z_w w I) (z_o z_vi r) (z_ow (z_w w I) r)
  unfold d_F_why at h
  have hB : z_all [z_is 114 0 (zf_aload 0 0 1), z_is 114 1 (zf_iload 1 1 2), z_is 114 2 (zf_cv 2 140 1 7 5), z_is 114 5 (zf_aload 5 0 6), z_is 114 6 (zf_getr 6 7 5 9), z_is 114 9 (zf_getr 9 2 1 12), z_is 114 12 (zf_getr 12 5 7 15), z_is 114 15 (zf_iload 15 1 16), z_is 114 16 (zf_aald 16 17), z_is 114 17 (zf_cv 17 5 0 0 20), z_is 114 20 (zf_ret 0)] = true := by decide +kernel
  refine z_aload hB rfl (fun hB => ?_)
  refine z_iload hB rfl (fun hB => ?_)
  obtain ⟨q1, e2, h⟩ := z_bind h
  cases q1 with
  | inl v3 =>
    have hc9 := t_F_needFlag (I := I) ok hn e2
    cases h
    exact y_cvx ok hB (as := [.int (x1)]) (a := 0) (rest := []) rfl (by decide +kernel) rfl rfl (by decide +kernel) hc9
  | inr v4 =>
    have hc9 := t_F_needFlag (I := I) ok hn e2
    refine y_cv ok hB (as := [.int (x1)]) (a := 0) (rest := []) rfl rfl rfl (by decide +kernel) hc9 (fun hB => ?_)
    refine z_aload hB rfl (fun hB => ?_)
    refine y_getm ok hB (by decide +kernel) hn.1 (fun hB => ?_)
    refine y_getr (b := (n + 7)) ok hB hn.2 (zla_r1 hn.2) (fun hB => ?_)
    refine y_getr (b := ((n + 7) + 1)) ok hB (zla_k1 hn.2) (zst_r7 (zla_k1 hn.2)) (fun hB => ?_)
    refine z_iload hB rfl (fun hB => ?_)
    obtain ⟨g5, h⟩ := z_gd h
    refine y_fald ok hB (zst_k1 (zla_k1 hn.2)) (zst_l1 (zla_k1 hn.2)) g5 (zst_fR (zla_k1 hn.2) g5) (fun hB => ?_)
    obtain ⟨q6, e7, h⟩ := z_bind h
    refine y_cv ok hB (as := []) (a := ((n + 7) + 2 + z_n (x1))) (rest := []) rfl rfl rfl (zst_fK (zla_k1 hn.2) g5) (t_G_firstReason (I := I) ok (zst_fK (zla_k1 hn.2) g5) e7) (fun hB => ?_)
    cases h
    exact z_reti hB
def d_F_culprit (n : Nat) (x1 : Int32) (I : z_H) : Option (Nat ⊕ Int32) := ((d_F_needNation n (x1) I).bind fun q1 => (match q1 with | .inl v3 => some (Sum.inl v3) | .inr v4 => ((d_S_firstNotReady (n + 7) (x1) I).bind fun q5 => some (Sum.inr (q5)))))
/-- FlagLaundry.culprit(I)I -/
theorem t_F_culprit {G : z_G} {w : ev_W} (ok : z_Ok G w) {n : Nat} {x1 : Int32} (hn : z_fc w n) {I : z_H} {r : Nat ⊕ Int32} (h : d_F_culprit n x1 I = some r) : z_K G 115 [.ref (0), .int (x1)] (z_w w I) (z_o z_vi r) (z_ow (z_w w I) r) := by
  refine z_con ok.1 (ml := 2) (by decide +kernel) rfl rfl ?_
  show z_R G 115 0 [some (.ref (0)), some (.int (x1))] [] (z_w w I) (z_o z_vi r) (z_ow (z_w w I) r)
  unfold d_F_culprit at h
  have hB : z_all [z_is 115 0 (zf_aload 0 0 1), z_is 115 1 (zf_iload 1 1 2), z_is 115 2 (zf_cv 2 142 1 7 5), z_is 115 5 (zf_aload 5 0 6), z_is 115 6 (zf_getr 6 7 5 9), z_is 115 9 (zf_getr 9 2 1 12), z_is 115 12 (zf_iload 12 1 13), z_is 115 13 (zf_cv 13 93 1 5 16), z_is 115 16 (zf_ret 0)] = true := by decide +kernel
  refine z_aload hB rfl (fun hB => ?_)
  refine z_iload hB rfl (fun hB => ?_)
  obtain ⟨q1, e2, h⟩ := z_bind h
  cases q1 with
  | inl v3 =>
    have hc9 := t_F_needNation (I := I) ok hn e2
    cases h
    exact y_cvx ok hB (as := [.int (x1)]) (a := 0) (rest := []) rfl (by decide +kernel) rfl rfl (by decide +kernel) hc9
  | inr v4 =>
    have hc9 := t_F_needNation (I := I) ok hn e2
    refine y_cv ok hB (as := [.int (x1)]) (a := 0) (rest := []) rfl rfl rfl (by decide +kernel) hc9 (fun hB => ?_)
    refine z_aload hB rfl (fun hB => ?_)
    refine y_getm ok hB (by decide +kernel) hn.1 (fun hB => ?_)
    refine y_getr (b := (n + 7)) ok hB hn.2 (zla_r1 hn.2) (fun hB => ?_)
    refine z_iload hB rfl (fun hB => ?_)
    obtain ⟨q5, e6, h⟩ := z_bind h
    refine y_cv ok hB (as := [.int (x1)]) (a := (n + 7)) (rest := []) rfl rfl rfl (zla_k1 hn.2) (t_S_firstNotReady (I := I) ok (zla_k1 hn.2) e6) (fun hB => ?_)
    cases h
    exact z_reti hB
def d_F_whyNotPut (n : Nat) (x1 : Int32) (x2 : Int32) (I : z_H) : Option (Nat ⊕ Int32) := ((d_F_needFlag n (x1) I).bind fun q1 => (match q1 with | .inl v3 => some (Sum.inl v3) | .inr v4 => ((d_F_needTub n (x2) I).bind fun q5 => (match q5 with | .inl v7 => some (Sum.inl v7) | .inr v8 => ((d_L_reasonAgainstPut n (x1) (x2) I).bind fun q9 => some (Sum.inr (q9)))))))
/-- FlagLaundry.whyNotPut(II)I -/
theorem t_F_whyNotPut {G : z_G} {w : ev_W} (ok : z_Ok G w) {n : Nat} {x1 : Int32} {x2 : Int32} (hn : z_fc w n) {I : z_H} {r : Nat ⊕ Int32} (h : d_F_whyNotPut n x1 x2 I = some r) : z_K G 116 [.ref (0), .int (x1), .int (x2)] (z_w w I) (z_o z_vi r) (z_ow (z_w w I) r) := by
  refine z_con ok.1 (ml := 3) (by decide +kernel) rfl rfl ?_
  show z_R G 116 0 [some (.ref (0)), some (.int (x1)), some (.int (x2))] [] (z_w w I) (z_o z_vi r) (z_ow (z_w w I) r)
  unfold d_F_whyNotPut at h
  have hB : z_all [z_is 116 0 (zf_aload 0 0 1), z_is 116 1 (zf_iload 1 1 2), z_is 116 2 (zf_cv 2 140 1 7 5), z_is 116 5 (zf_aload 5 0 6), z_is 116 6 (zf_iload 6 2 7), z_is 116 7 (zf_cv 7 141 1 7 10), z_is 116 10 (zf_aload 10 0 11), z_is 116 11 (zf_getr 11 7 5 14), z_is 116 14 (zf_iload 14 1 15), z_is 116 15 (zf_iload 15 2 16), z_is 116 16 (zf_cv 16 35 2 2 19), z_is 116 19 (zf_ret 0)] = true := by decide +kernel
  refine z_aload hB rfl (fun hB => ?_)
  refine z_iload hB rfl (fun hB => ?_)
  obtain ⟨q1, e2, h⟩ := z_bind h
  cases q1 with
  | inl v3 =>
    have hc9 := t_F_needFlag (I := I) ok hn e2
    cases h
    exact y_cvx ok hB (as := [.int (x1)]) (a := 0) (rest := []) rfl (by decide +kernel) rfl rfl (by decide +kernel) hc9
  | inr v4 =>
    have hc9 := t_F_needFlag (I := I) ok hn e2
    refine y_cv ok hB (as := [.int (x1)]) (a := 0) (rest := []) rfl rfl rfl (by decide +kernel) hc9 (fun hB => ?_)
    refine z_aload hB rfl (fun hB => ?_)
    refine z_iload hB rfl (fun hB => ?_)
    obtain ⟨q5, e6, h⟩ := z_bind h
    cases q5 with
    | inl v7 =>
      have hc9 := t_F_needTub (I := I) ok hn e6
      cases h
      exact y_cvx ok hB (as := [.int (x2)]) (a := 0) (rest := []) rfl (by decide +kernel) rfl rfl (by decide +kernel) hc9
    | inr v8 =>
      have hc9 := t_F_needTub (I := I) ok hn e6
      refine y_cv ok hB (as := [.int (x2)]) (a := 0) (rest := []) rfl rfl rfl (by decide +kernel) hc9 (fun hB => ?_)
      refine z_aload hB rfl (fun hB => ?_)
      refine y_getm ok hB (by decide +kernel) hn.1 (fun hB => ?_)
      refine z_iload hB rfl (fun hB => ?_)
      refine z_iload hB rfl (fun hB => ?_)
      obtain ⟨q9, e10, h⟩ := z_bind h
      refine y_cv ok hB (as := [.int (x1), .int (x2)]) (a := n) (rest := []) rfl rfl rfl hn.2 (t_L_reasonAgainstPut (I := I) ok hn.2 e10) (fun hB => ?_)
      cases h
      exact z_reti hB
def d_F_needHeat (x1 : Int32) : Option (Nat ⊕ Unit) := ((d_F_needRange (x1) ((jn 0)) ((jn 3))).bind fun q1 => (match q1 with | .inl v3 => some (Sum.inl v3) | .inr v4 => some (Sum.inr (()))))
/-- FlagLaundry.needHeat(I)V -/
theorem t_F_needHeat {G : z_G} {w : ev_W} (ok : z_Ok G w) {x1 : Int32} {I : z_H} {r : Nat ⊕ Unit} (h : d_F_needHeat x1 = some r) : z_K G 144 [.int (x1)] (z_w w I) (z_o z_vv r) (z_ow (z_w w I) r) := by
  refine z_con ok.1 (ml := 1) (by decide +kernel) rfl rfl ?_
  show z_R G 144 0 [some (.int (x1))] [] (z_w w I) (z_o z_vv r) (z_ow (z_w w I) r)
  unfold d_F_needHeat at h
  have hB : z_all [z_is 144 0 (zf_iload 0 0 1), z_is 144 1 (zf_cst 1 (jn 0) 2), z_is 144 2 (zf_cst 2 (jn 3) 3), z_is 144 3 (zf_cs 3 145 3 6), z_is 144 6 (zf_ret 6)] = true := by decide +kernel
  refine z_iload hB rfl (fun hB => ?_)
  refine z_cst hB (fun hB => ?_)
  refine z_cst hB (fun hB => ?_)
  obtain ⟨q1, e2, h⟩ := z_bind h
  cases q1 with
  | inl v3 =>
    have hc9 := t_F_needRange (I := I) ok e2
    cases h
    exact z_callSx hB (as := [.int (x1), .int ((jn 0)), .int ((jn 3))]) (rest := []) rfl (by decide +kernel) rfl rfl hc9
  | inr v4 =>
    have hc9 := t_F_needRange (I := I) ok e2
    refine z_callS hB (as := [.int (x1), .int ((jn 0)), .int ((jn 3))]) (rest := []) rfl rfl rfl hc9 (fun hB => ?_)
    cases h
    exact z_retv hB
def d_F_whyNotWash (n : Nat) (x1 : Int32) (x2 : Int32) (I : z_H) : Option (Nat ⊕ Int32) := ((d_F_needTub n (x1) I).bind fun q1 => (match q1 with | .inl v3 => some (Sum.inl v3) | .inr v4 => ((d_F_needHeat (x2)).bind fun q5 => (match q5 with | .inl v7 => some (Sum.inl v7) | .inr v8 => ((d_L_reasonAgainstWash n (x1) (x2) I).bind fun q9 => some (Sum.inr (q9)))))))
/-- FlagLaundry.whyNotWash(II)I -/
theorem t_F_whyNotWash {G : z_G} {w : ev_W} (ok : z_Ok G w) {n : Nat} {x1 : Int32} {x2 : Int32} (hn : z_fc w n) {I : z_H} {r : Nat ⊕ Int32} (h : d_F_whyNotWash n x1 x2 I = some r) : z_K G 117 [.ref (0), .int (x1), .int (x2)] (z_w w I) (z_o z_vi r) (z_ow (z_w w I) r) := by
  refine z_con ok.1 (ml := 3) (by decide +kernel) rfl rfl ?_
  show z_R G 117 0 [some (.ref (0)), some (.int (x1)), some (.int (x2))] [] (z_w w I) (z_o z_vi r) (z_ow (z_w w I) r)
  unfold d_F_whyNotWash at h
  have hB : z_all [z_is 117 0 (zf_aload 0 0 1), z_is 117 1 (zf_iload 1 1 2), z_is 117 2 (zf_cv 2 141 1 7 5), z_is 117 5 (zf_iload 5 2 6), z_is 117 6 (zf_cs 6 144 1 9), z_is 117 9 (zf_aload 9 0 10), z_is 117 10 (zf_getr 10 7 5 13), z_is 117 13 (zf_iload 13 1 14), z_is 117 14 (zf_iload 14 2 15), z_is 117 15 (zf_cv 15 36 2 2 18), z_is 117 18 (zf_ret 0)] = true := by decide +kernel
  refine z_aload hB rfl (fun hB => ?_)
  refine z_iload hB rfl (fun hB => ?_)
  obtain ⟨q1, e2, h⟩ := z_bind h
  cases q1 with
  | inl v3 =>
    have hc9 := t_F_needTub (I := I) ok hn e2
    cases h
    exact y_cvx ok hB (as := [.int (x1)]) (a := 0) (rest := []) rfl (by decide +kernel) rfl rfl (by decide +kernel) hc9
  | inr v4 =>
    have hc9 := t_F_needTub (I := I) ok hn e2
    refine y_cv ok hB (as := [.int (x1)]) (a := 0) (rest := []) rfl rfl rfl (by decide +kernel) hc9 (fun hB => ?_)
    refine z_iload hB rfl (fun hB => ?_)
    obtain ⟨q5, e6, h⟩ := z_bind h
    cases q5 with
    | inl v7 =>
      have hc9 := t_F_needHeat (I := I) ok e6
      cases h
      exact z_callSx hB (as := [.int (x2)]) (rest := []) rfl (by decide +kernel) rfl rfl hc9
    | inr v8 =>
      have hc9 := t_F_needHeat (I := I) ok e6
      refine z_callS hB (as := [.int (x2)]) (rest := []) rfl rfl rfl hc9 (fun hB => ?_)
      refine z_aload hB rfl (fun hB => ?_)
      refine y_getm ok hB (by decide +kernel) hn.1 (fun hB => ?_)
      refine z_iload hB rfl (fun hB => ?_)
      refine z_iload hB rfl (fun hB => ?_)
      obtain ⟨q9, e10, h⟩ := z_bind h
      refine y_cv ok hB (as := [.int (x1), .int (x2)]) (a := n) (rest := []) rfl rfl rfl hn.2 (t_L_reasonAgainstWash (I := I) ok hn.2 e10) (fun hB => ?_)
      cases h
      exact z_reti hB
def d_F_whyNotIron (n : Nat) (x1 : Int32) (x2 : Int32) (I : z_H) : Option (Nat ⊕ Int32) := ((d_F_needFlag n (x1) I).bind fun q1 => (match q1 with | .inl v3 => some (Sum.inl v3) | .inr v4 => ((d_F_needHeat (x2)).bind fun q5 => (match q5 with | .inl v7 => some (Sum.inl v7) | .inr v8 => (if z_in (x1) 12 then ((d_G_reasonAgainstIron ((n + 7) + 2 + z_n (x1)) (x2) I).bind fun q10 => some (Sum.inr (q10))) else none)))))
/-- FlagLaundry.whyNotIron(II)I -/
theorem t_F_whyNotIron {G : z_G} {w : ev_W} (ok : z_Ok G w) {n : Nat} {x1 : Int32} {x2 : Int32} (hn : z_fc w n) {I : z_H} {r : Nat ⊕ Int32} (h : d_F_whyNotIron n x1 x2 I = some r) : z_K G 118 [.ref (0), .int (x1), .int (x2)] (z_w w I) (z_o z_vi r) (z_ow (z_w w I) r) := by
  refine z_con ok.1 (ml := 3) (by decide +kernel) rfl rfl ?_
  show z_R G 118 0 [some (.ref (0)), some (.int (x1)), some (.int (x2))] [] (z_w w I) (z_o z_vi r) (z_ow (z_w w I) r)
  unfold d_F_whyNotIron at h
  have hB : z_all [z_is 118 0 (zf_aload 0 0 1), z_is 118 1 (zf_iload 1 1 2), z_is 118 2 (zf_cv 2 140 1 7 5), z_is 118 5 (zf_iload 5 2 6), z_is 118 6 (zf_cs 6 144 1 9), z_is 118 9 (zf_aload 9 0 10), z_is 118 10 (zf_getr 10 7 5 13), z_is 118 13 (zf_getr 13 2 1 16), z_is 118 16 (zf_getr 16 5 7 19), z_is 118 19 (zf_iload 19 1 20), z_is 118 20 (zf_aald 20 21), z_is 118 21 (zf_iload 21 2 22), z_is 118 22 (zf_cv 22 8 1 0 25), z_is 118 25 (zf_ret 0)] = true := by decide +kernel
  refine z_aload hB rfl (fun hB => ?_)
  refine z_iload hB rfl (fun hB => ?_)
  obtain ⟨q1, e2, h⟩ := z_bind h
  cases q1 with
  | inl v3 =>
    have hc9 := t_F_needFlag (I := I) ok hn e2
    cases h
    exact y_cvx ok hB (as := [.int (x1)]) (a := 0) (rest := []) rfl (by decide +kernel) rfl rfl (by decide +kernel) hc9
  | inr v4 =>
    have hc9 := t_F_needFlag (I := I) ok hn e2
    refine y_cv ok hB (as := [.int (x1)]) (a := 0) (rest := []) rfl rfl rfl (by decide +kernel) hc9 (fun hB => ?_)
    refine z_iload hB rfl (fun hB => ?_)
    obtain ⟨q5, e6, h⟩ := z_bind h
    cases q5 with
    | inl v7 =>
      have hc9 := t_F_needHeat (I := I) ok e6
      cases h
      exact z_callSx hB (as := [.int (x2)]) (rest := []) rfl (by decide +kernel) rfl rfl hc9
    | inr v8 =>
      have hc9 := t_F_needHeat (I := I) ok e6
      refine z_callS hB (as := [.int (x2)]) (rest := []) rfl rfl rfl hc9 (fun hB => ?_)
      refine z_aload hB rfl (fun hB => ?_)
      refine y_getm ok hB (by decide +kernel) hn.1 (fun hB => ?_)
      refine y_getr (b := (n + 7)) ok hB hn.2 (zla_r1 hn.2) (fun hB => ?_)
      refine y_getr (b := ((n + 7) + 1)) ok hB (zla_k1 hn.2) (zst_r7 (zla_k1 hn.2)) (fun hB => ?_)
      refine z_iload hB rfl (fun hB => ?_)
      obtain ⟨g9, h⟩ := z_gd h
      refine y_fald ok hB (zst_k1 (zla_k1 hn.2)) (zst_l1 (zla_k1 hn.2)) g9 (zst_fR (zla_k1 hn.2) g9) (fun hB => ?_)
      refine z_iload hB rfl (fun hB => ?_)
      obtain ⟨q10, e11, h⟩ := z_bind h
      refine y_cv ok hB (as := [.int (x2)]) (a := ((n + 7) + 2 + z_n (x1))) (rest := []) rfl rfl rfl (zst_fK (zla_k1 hn.2) g9) (t_G_reasonAgainstIron (I := I) ok (zst_fK (zla_k1 hn.2) g9) e11) (fun hB => ?_)
      cases h
      exact z_reti hB
def d_F_whyNotBleach (n : Nat) (x1 : Int32) (I : z_H) : Option (Nat ⊕ Int32) := ((d_F_needFlag n (x1) I).bind fun q1 => (match q1 with | .inl v3 => some (Sum.inl v3) | .inr v4 => (if z_in (x1) 12 then ((d_G_reasonAgainstBleach ((n + 7) + 2 + z_n (x1)) I).bind fun q6 => some (Sum.inr (q6))) else none)))
/-- FlagLaundry.whyNotBleach(I)I -/
theorem t_F_whyNotBleach {G : z_G} {w : ev_W} (ok : z_Ok G w) {n : Nat} {x1 : Int32} (hn : z_fc w n) {I : z_H} {r : Nat ⊕ Int32} (h : d_F_whyNotBleach n x1 I = some r) : z_K G 119 [.ref (0), .int (x1)] (z_w w I) (z_o z_vi r) (z_ow (z_w w I) r) := by
  refine z_con ok.1 (ml := 2) (by decide +kernel) rfl rfl ?_
  show z_R G 119 0 [some (.ref (0)), some (.int (x1))] [] (z_w w I) (z_o z_vi r) (z_ow (z_w w I) r)
  unfold d_F_whyNotBleach at h
  have hB : z_all [z_is 119 0 (zf_aload 0 0 1), z_is 119 1 (zf_iload 1 1 2), z_is 119 2 (zf_cv 2 140 1 7 5), z_is 119 5 (zf_aload 5 0 6), z_is 119 6 (zf_getr 6 7 5 9), z_is 119 9 (zf_getr 9 2 1 12), z_is 119 12 (zf_getr 12 5 7 15), z_is 119 15 (zf_iload 15 1 16), z_is 119 16 (zf_aald 16 17), z_is 119 17 (zf_cv 17 9 0 0 20), z_is 119 20 (zf_ret 0)] = true := by decide +kernel
  refine z_aload hB rfl (fun hB => ?_)
  refine z_iload hB rfl (fun hB => ?_)
  obtain ⟨q1, e2, h⟩ := z_bind h
  cases q1 with
  | inl v3 =>
    have hc9 := t_F_needFlag (I := I) ok hn e2
    cases h
    exact y_cvx ok hB (as := [.int (x1)]) (a := 0) (rest := []) rfl (by decide +kernel) rfl rfl (by decide +kernel) hc9
  | inr v4 =>
    have hc9 := t_F_needFlag (I := I) ok hn e2
    refine y_cv ok hB (as := [.int (x1)]) (a := 0) (rest := []) rfl rfl rfl (by decide +kernel) hc9 (fun hB => ?_)
    refine z_aload hB rfl (fun hB => ?_)
    refine y_getm ok hB (by decide +kernel) hn.1 (fun hB => ?_)
    refine y_getr (b := (n + 7)) ok hB hn.2 (zla_r1 hn.2) (fun hB => ?_)
    refine y_getr (b := ((n + 7) + 1)) ok hB (zla_k1 hn.2) (zst_r7 (zla_k1 hn.2)) (fun hB => ?_)
    refine z_iload hB rfl (fun hB => ?_)
    obtain ⟨g5, h⟩ := z_gd h
    refine y_fald ok hB (zst_k1 (zla_k1 hn.2)) (zst_l1 (zla_k1 hn.2)) g5 (zst_fR (zla_k1 hn.2) g5) (fun hB => ?_)
    obtain ⟨q6, e7, h⟩ := z_bind h
    refine y_cv ok hB (as := []) (a := ((n + 7) + 2 + z_n (x1))) (rest := []) rfl rfl rfl (zst_fK (zla_k1 hn.2) g5) (t_G_reasonAgainstBleach (I := I) ok (zst_fK (zla_k1 hn.2) g5) e7) (fun hB => ?_)
    cases h
    exact z_reti hB
def d_F_stainedIf (n : Nat) (x1 : Int32) (x2 : Int32) (I : z_H) : Option (Nat ⊕ Int32) := ((d_F_needTub n (x1) I).bind fun q1 => (match q1 with | .inl v3 => some (Sum.inl v3) | .inr v4 => ((d_F_needHeat (x2)).bind fun q5 => (match q5 with | .inl v7 => some (Sum.inl v7) | .inr v8 => ((d_L_runningIn n (x1) (x2) I).bind fun q9 => ((d_L_stainedBy n (x1) (q9) I).bind fun q11 => some (Sum.inr (q11))))))))
/-- FlagLaundry.stainedIf(II)I -/
theorem t_F_stainedIf {G : z_G} {w : ev_W} (ok : z_Ok G w) {n : Nat} {x1 : Int32} {x2 : Int32} (hn : z_fc w n) {I : z_H} {r : Nat ⊕ Int32} (h : d_F_stainedIf n x1 x2 I = some r) : z_K G 120 [.ref (0), .int (x1), .int (x2)] (z_w w I) (z_o z_vi r) (z_ow (z_w w I) r) := by
  refine z_con ok.1 (ml := 3) (by decide +kernel) rfl rfl ?_
  show z_R G 120 0 [some (.ref (0)), some (.int (x1)), some (.int (x2))] [] (z_w w I) (z_o z_vi r) (z_ow (z_w w I) r)
  unfold d_F_stainedIf at h
  have hB : z_all [z_is 120 0 (zf_aload 0 0 1), z_is 120 1 (zf_iload 1 1 2), z_is 120 2 (zf_cv 2 141 1 7 5), z_is 120 5 (zf_iload 5 2 6), z_is 120 6 (zf_cs 6 144 1 9), z_is 120 9 (zf_aload 9 0 10), z_is 120 10 (zf_getr 10 7 5 13), z_is 120 13 (zf_iload 13 1 14), z_is 120 14 (zf_aload 14 0 15), z_is 120 15 (zf_getr 15 7 5 18), z_is 120 18 (zf_iload 18 1 19), z_is 120 19 (zf_iload 19 2 20), z_is 120 20 (zf_cv 20 32 2 2 23), z_is 120 23 (zf_cv 23 33 2 2 26), z_is 120 26 (zf_ret 0)] = true := by decide +kernel
  refine z_aload hB rfl (fun hB => ?_)
  refine z_iload hB rfl (fun hB => ?_)
  obtain ⟨q1, e2, h⟩ := z_bind h
  cases q1 with
  | inl v3 =>
    have hc9 := t_F_needTub (I := I) ok hn e2
    cases h
    exact y_cvx ok hB (as := [.int (x1)]) (a := 0) (rest := []) rfl (by decide +kernel) rfl rfl (by decide +kernel) hc9
  | inr v4 =>
    have hc9 := t_F_needTub (I := I) ok hn e2
    refine y_cv ok hB (as := [.int (x1)]) (a := 0) (rest := []) rfl rfl rfl (by decide +kernel) hc9 (fun hB => ?_)
    refine z_iload hB rfl (fun hB => ?_)
    obtain ⟨q5, e6, h⟩ := z_bind h
    cases q5 with
    | inl v7 =>
      have hc9 := t_F_needHeat (I := I) ok e6
      cases h
      exact z_callSx hB (as := [.int (x2)]) (rest := []) rfl (by decide +kernel) rfl rfl hc9
    | inr v8 =>
      have hc9 := t_F_needHeat (I := I) ok e6
      refine z_callS hB (as := [.int (x2)]) (rest := []) rfl rfl rfl hc9 (fun hB => ?_)
      refine z_aload hB rfl (fun hB => ?_)
      refine y_getm ok hB (by decide +kernel) hn.1 (fun hB => ?_)
      refine z_iload hB rfl (fun hB => ?_)
      refine z_aload hB rfl (fun hB => ?_)
      refine y_getm ok hB (by decide +kernel) hn.1 (fun hB => ?_)
      refine z_iload hB rfl (fun hB => ?_)
      refine z_iload hB rfl (fun hB => ?_)
      obtain ⟨q9, e10, h⟩ := z_bind h
      refine y_cv ok hB (as := [.int (x1), .int (x2)]) (a := n) (rest := [.int (x1), .ref (n)]) rfl rfl rfl hn.2 (t_L_runningIn (I := I) ok hn.2 e10) (fun hB => ?_)
      obtain ⟨q11, e12, h⟩ := z_bind h
      refine y_cv ok hB (as := [.int (x1), .int (q9)]) (a := n) (rest := []) rfl rfl rfl hn.2 (t_L_stainedBy (I := I) ok hn.2 e12) (fun hB => ?_)
      cases h
      exact z_reti hB
def d_F_bestHeat (n : Nat) (x1 : Int32) (I : z_H) : Option (Nat ⊕ Int32) := ((d_F_needTub n (x1) I).bind fun q1 => (match q1 with | .inl v3 => some (Sum.inl v3) | .inr v4 => ((d_L_bestHeatFor n (x1) I).bind fun q5 => some (Sum.inr (q5)))))
/-- FlagLaundry.bestHeat(I)I -/
theorem t_F_bestHeat {G : z_G} {w : ev_W} (ok : z_Ok G w) {n : Nat} {x1 : Int32} (hn : z_fc w n) {I : z_H} {r : Nat ⊕ Int32} (h : d_F_bestHeat n x1 I = some r) : z_K G 121 [.ref (0), .int (x1)] (z_w w I) (z_o z_vi r) (z_ow (z_w w I) r) := by
  refine z_con ok.1 (ml := 2) (by decide +kernel) rfl rfl ?_
  show z_R G 121 0 [some (.ref (0)), some (.int (x1))] [] (z_w w I) (z_o z_vi r) (z_ow (z_w w I) r)
  unfold d_F_bestHeat at h
  have hB : z_all [z_is 121 0 (zf_aload 0 0 1), z_is 121 1 (zf_iload 1 1 2), z_is 121 2 (zf_cv 2 141 1 7 5), z_is 121 5 (zf_aload 5 0 6), z_is 121 6 (zf_getr 6 7 5 9), z_is 121 9 (zf_iload 9 1 10), z_is 121 10 (zf_cv 10 38 1 2 13), z_is 121 13 (zf_ret 0)] = true := by decide +kernel
  refine z_aload hB rfl (fun hB => ?_)
  refine z_iload hB rfl (fun hB => ?_)
  obtain ⟨q1, e2, h⟩ := z_bind h
  cases q1 with
  | inl v3 =>
    have hc9 := t_F_needTub (I := I) ok hn e2
    cases h
    exact y_cvx ok hB (as := [.int (x1)]) (a := 0) (rest := []) rfl (by decide +kernel) rfl rfl (by decide +kernel) hc9
  | inr v4 =>
    have hc9 := t_F_needTub (I := I) ok hn e2
    refine y_cv ok hB (as := [.int (x1)]) (a := 0) (rest := []) rfl rfl rfl (by decide +kernel) hc9 (fun hB => ?_)
    refine z_aload hB rfl (fun hB => ?_)
    refine y_getm ok hB (by decide +kernel) hn.1 (fun hB => ?_)
    refine z_iload hB rfl (fun hB => ?_)
    obtain ⟨q5, e6, h⟩ := z_bind h
    refine y_cv ok hB (as := [.int (x1)]) (a := n) (rest := []) rfl rfl rfl hn.2 (t_L_bestHeatFor (I := I) ok hn.2 e6) (fun hB => ?_)
    cases h
    exact z_reti hB
def d_F_firstSafe (n : Nat) (x1 : Int32) (x2 : Int32) (I : z_H) : Option (Nat ⊕ Int32) := ((d_F_needTub n (x1) I).bind fun q1 => (match q1 with | .inl v3 => some (Sum.inl v3) | .inr v4 => ((d_F_needHeat (x2)).bind fun q5 => (match q5 with | .inl v7 => some (Sum.inl v7) | .inr v8 => ((d_L_firstSafeFor n (x1) (x2) I).bind fun q9 => some (Sum.inr (q9)))))))
/-- FlagLaundry.firstSafe(II)I -/
theorem t_F_firstSafe {G : z_G} {w : ev_W} (ok : z_Ok G w) {n : Nat} {x1 : Int32} {x2 : Int32} (hn : z_fc w n) {I : z_H} {r : Nat ⊕ Int32} (h : d_F_firstSafe n x1 x2 I = some r) : z_K G 122 [.ref (0), .int (x1), .int (x2)] (z_w w I) (z_o z_vi r) (z_ow (z_w w I) r) := by
  refine z_con ok.1 (ml := 3) (by decide +kernel) rfl rfl ?_
  show z_R G 122 0 [some (.ref (0)), some (.int (x1)), some (.int (x2))] [] (z_w w I) (z_o z_vi r) (z_ow (z_w w I) r)
  unfold d_F_firstSafe at h
  have hB : z_all [z_is 122 0 (zf_aload 0 0 1), z_is 122 1 (zf_iload 1 1 2), z_is 122 2 (zf_cv 2 141 1 7 5), z_is 122 5 (zf_iload 5 2 6), z_is 122 6 (zf_cs 6 144 1 9), z_is 122 9 (zf_aload 9 0 10), z_is 122 10 (zf_getr 10 7 5 13), z_is 122 13 (zf_iload 13 1 14), z_is 122 14 (zf_iload 14 2 15), z_is 122 15 (zf_cv 15 39 2 2 18), z_is 122 18 (zf_ret 0)] = true := by decide +kernel
  refine z_aload hB rfl (fun hB => ?_)
  refine z_iload hB rfl (fun hB => ?_)
  obtain ⟨q1, e2, h⟩ := z_bind h
  cases q1 with
  | inl v3 =>
    have hc9 := t_F_needTub (I := I) ok hn e2
    cases h
    exact y_cvx ok hB (as := [.int (x1)]) (a := 0) (rest := []) rfl (by decide +kernel) rfl rfl (by decide +kernel) hc9
  | inr v4 =>
    have hc9 := t_F_needTub (I := I) ok hn e2
    refine y_cv ok hB (as := [.int (x1)]) (a := 0) (rest := []) rfl rfl rfl (by decide +kernel) hc9 (fun hB => ?_)
    refine z_iload hB rfl (fun hB => ?_)
    obtain ⟨q5, e6, h⟩ := z_bind h
    cases q5 with
    | inl v7 =>
      have hc9 := t_F_needHeat (I := I) ok e6
      cases h
      exact z_callSx hB (as := [.int (x2)]) (rest := []) rfl (by decide +kernel) rfl rfl hc9
    | inr v8 =>
      have hc9 := t_F_needHeat (I := I) ok e6
      refine z_callS hB (as := [.int (x2)]) (rest := []) rfl rfl rfl hc9 (fun hB => ?_)
      refine z_aload hB rfl (fun hB => ?_)
      refine y_getm ok hB (by decide +kernel) hn.1 (fun hB => ?_)
      refine z_iload hB rfl (fun hB => ?_)
      refine z_iload hB rfl (fun hB => ?_)
      obtain ⟨q9, e10, h⟩ := z_bind h
      refine y_cv ok hB (as := [.int (x1), .int (x2)]) (a := n) (rest := []) rfl rfl rfl hn.2 (t_L_firstSafeFor (I := I) ok hn.2 e10) (fun hB => ?_)
      cases h
      exact z_reti hB
def d_F_dryIn (n : Nat) (x1 : Int32) (I : z_H) : Option (Nat ⊕ Int32) := ((d_F_needFlag n (x1) I).bind fun q1 => (match q1 with | .inl v3 => some (Sum.inl v3) | .inr v4 => ((d_S_hoursToDry (n + 7) (x1) ((I (n + 7) 1)) I).bind fun q5 => some (Sum.inr (q5)))))
/-- FlagLaundry.dryIn(I)I -/
theorem t_F_dryIn {G : z_G} {w : ev_W} (ok : z_Ok G w) {n : Nat} {x1 : Int32} (hn : z_fc w n) {I : z_H} {r : Nat ⊕ Int32} (h : d_F_dryIn n x1 I = some r) : z_K G 123 [.ref (0), .int (x1)] (z_w w I) (z_o z_vi r) (z_ow (z_w w I) r) := by
  refine z_con ok.1 (ml := 2) (by decide +kernel) rfl rfl ?_
  show z_R G 123 0 [some (.ref (0)), some (.int (x1))] [] (z_w w I) (z_o z_vi r) (z_ow (z_w w I) r)
  unfold d_F_dryIn at h
  have hB : z_all [z_is 123 0 (zf_aload 0 0 1), z_is 123 1 (zf_iload 1 1 2), z_is 123 2 (zf_cv 2 140 1 7 5), z_is 123 5 (zf_aload 5 0 6), z_is 123 6 (zf_getr 6 7 5 9), z_is 123 9 (zf_getr 9 2 1 12), z_is 123 12 (zf_iload 12 1 13), z_is 123 13 (zf_aload 13 0 14), z_is 123 14 (zf_getr 14 7 5 17), z_is 123 17 (zf_getr 17 2 1 20), z_is 123 20 (zf_geti 20 5 1 23), z_is 123 23 (zf_cv 23 101 2 5 26), z_is 123 26 (zf_ret 0)] = true := by decide +kernel
  refine z_aload hB rfl (fun hB => ?_)
  refine z_iload hB rfl (fun hB => ?_)
  obtain ⟨q1, e2, h⟩ := z_bind h
  cases q1 with
  | inl v3 =>
    have hc9 := t_F_needFlag (I := I) ok hn e2
    cases h
    exact y_cvx ok hB (as := [.int (x1)]) (a := 0) (rest := []) rfl (by decide +kernel) rfl rfl (by decide +kernel) hc9
  | inr v4 =>
    have hc9 := t_F_needFlag (I := I) ok hn e2
    refine y_cv ok hB (as := [.int (x1)]) (a := 0) (rest := []) rfl rfl rfl (by decide +kernel) hc9 (fun hB => ?_)
    refine z_aload hB rfl (fun hB => ?_)
    refine y_getm ok hB (by decide +kernel) hn.1 (fun hB => ?_)
    refine y_getr (b := (n + 7)) ok hB hn.2 (zla_r1 hn.2) (fun hB => ?_)
    refine z_iload hB rfl (fun hB => ?_)
    refine z_aload hB rfl (fun hB => ?_)
    refine y_getm ok hB (by decide +kernel) hn.1 (fun hB => ?_)
    refine y_getr (b := (n + 7)) ok hB hn.2 (zla_r1 hn.2) (fun hB => ?_)
    refine y_geti ok hB (zla_k1 hn.2) (fun hB => ?_)
    obtain ⟨q5, e6, h⟩ := z_bind h
    refine y_cv ok hB (as := [.int (x1), .int ((I (n + 7) 1))]) (a := (n + 7)) (rest := []) rfl rfl rfl (zla_k1 hn.2) (t_S_hoursToDry (I := I) ok (zla_k1 hn.2) e6) (fun hB => ?_)
    cases h
    exact z_reti hB
def d_F_dryByWind (n : Nat) (x1 : Int32) (x2 : Int32) (I : z_H) : Option (Nat ⊕ Int32) := ((d_F_needFlag n (x1) I).bind fun q1 => (match q1 with | .inl v3 => some (Sum.inl v3) | .inr v4 => ((d_F_needRange (x2) ((jn 0)) ((jn 9))).bind fun q5 => (match q5 with | .inl v7 => some (Sum.inl v7) | .inr v8 => ((d_S_hoursToDry (n + 7) (x1) (x2) I).bind fun q9 => some (Sum.inr (q9)))))))
/-- FlagLaundry.dryByWind(II)I -/
theorem t_F_dryByWind {G : z_G} {w : ev_W} (ok : z_Ok G w) {n : Nat} {x1 : Int32} {x2 : Int32} (hn : z_fc w n) {I : z_H} {r : Nat ⊕ Int32} (h : d_F_dryByWind n x1 x2 I = some r) : z_K G 124 [.ref (0), .int (x1), .int (x2)] (z_w w I) (z_o z_vi r) (z_ow (z_w w I) r) := by
  refine z_con ok.1 (ml := 3) (by decide +kernel) rfl rfl ?_
  show z_R G 124 0 [some (.ref (0)), some (.int (x1)), some (.int (x2))] [] (z_w w I) (z_o z_vi r) (z_ow (z_w w I) r)
  unfold d_F_dryByWind at h
  have hB : z_all [z_is 124 0 (zf_aload 0 0 1), z_is 124 1 (zf_iload 1 1 2), z_is 124 2 (zf_cv 2 140 1 7 5), z_is 124 5 (zf_iload 5 2 6), z_is 124 6 (zf_cst 6 (jn 0) 7), z_is 124 7 (zf_cst 7 (jn 9) 9), z_is 124 9 (zf_cs 9 145 3 12), z_is 124 12 (zf_aload 12 0 13), z_is 124 13 (zf_getr 13 7 5 16), z_is 124 16 (zf_getr 16 2 1 19), z_is 124 19 (zf_iload 19 1 20), z_is 124 20 (zf_iload 20 2 21), z_is 124 21 (zf_cv 21 101 2 5 24), z_is 124 24 (zf_ret 0)] = true := by decide +kernel
  refine z_aload hB rfl (fun hB => ?_)
  refine z_iload hB rfl (fun hB => ?_)
  obtain ⟨q1, e2, h⟩ := z_bind h
  cases q1 with
  | inl v3 =>
    have hc9 := t_F_needFlag (I := I) ok hn e2
    cases h
    exact y_cvx ok hB (as := [.int (x1)]) (a := 0) (rest := []) rfl (by decide +kernel) rfl rfl (by decide +kernel) hc9
  | inr v4 =>
    have hc9 := t_F_needFlag (I := I) ok hn e2
    refine y_cv ok hB (as := [.int (x1)]) (a := 0) (rest := []) rfl rfl rfl (by decide +kernel) hc9 (fun hB => ?_)
    refine z_iload hB rfl (fun hB => ?_)
    refine z_cst hB (fun hB => ?_)
    refine z_cst hB (fun hB => ?_)
    obtain ⟨q5, e6, h⟩ := z_bind h
    cases q5 with
    | inl v7 =>
      have hc9 := t_F_needRange (I := I) ok e6
      cases h
      exact z_callSx hB (as := [.int (x2), .int ((jn 0)), .int ((jn 9))]) (rest := []) rfl (by decide +kernel) rfl rfl hc9
    | inr v8 =>
      have hc9 := t_F_needRange (I := I) ok e6
      refine z_callS hB (as := [.int (x2), .int ((jn 0)), .int ((jn 9))]) (rest := []) rfl rfl rfl hc9 (fun hB => ?_)
      refine z_aload hB rfl (fun hB => ?_)
      refine y_getm ok hB (by decide +kernel) hn.1 (fun hB => ?_)
      refine y_getr (b := (n + 7)) ok hB hn.2 (zla_r1 hn.2) (fun hB => ?_)
      refine z_iload hB rfl (fun hB => ?_)
      refine z_iload hB rfl (fun hB => ?_)
      obtain ⟨q9, e10, h⟩ := z_bind h
      refine y_cv ok hB (as := [.int (x1), .int (x2)]) (a := (n + 7)) (rest := []) rfl rfl rfl (zla_k1 hn.2) (t_S_hoursToDry (I := I) ok (zla_k1 hn.2) e10) (fun hB => ?_)
      cases h
      exact z_reti hB
def d_F_fallsIn (n : Nat) (x1 : Int32) (I : z_H) : Option (Nat ⊕ Int32) := ((d_F_needText I).bind fun q1 => (match q1 with | .inl v3 => some (Sum.inl v3) | .inr v4 => ((d_F_needRange (x1) ((jn 0)) ((jn 99))).bind fun q5 => (match q5 with | .inl v7 => some (Sum.inl v7) | .inr v8 => (Option.bind (α := Int32) (if (I (n + 7) 1) < (jn 7) then some ((jn 0)) else ((d_S_flagsAt (n + 7) ((jn 2)) I).bind fun q12 => some ((z_mn (x1) (q12))))) fun q9 => some (Sum.inr (q9)))))))
/-- FlagLaundry.fallsIn(I)I -/
theorem t_F_fallsIn {G : z_G} {w : ev_W} (ok : z_Ok G w) {n : Nat} {x1 : Int32} (hn : z_fc w n) {I : z_H} {r : Nat ⊕ Int32} (h : d_F_fallsIn n x1 I = some r) : z_K G 125 [.ref (0), .int (x1)] (z_w w I) (z_o z_vi r) (z_ow (z_w w I) r) := by
  refine z_con ok.1 (ml := 2) (by decide +kernel) rfl rfl ?_
  show z_R G 125 0 [some (.ref (0)), some (.int (x1))] [] (z_w w I) (z_o z_vi r) (z_ow (z_w w I) r)
  unfold d_F_fallsIn at h
  have hB : z_all [z_is 125 0 (zf_aload 0 0 1), z_is 125 1 (zf_cv 1 139 0 7 4), z_is 125 4 (zf_iload 4 1 5), z_is 125 5 (zf_cst 5 (jn 0) 6), z_is 125 6 (zf_cst 6 (jn 99) 8), z_is 125 8 (zf_cs 8 145 3 11), z_is 125 11 (zf_aload 11 0 12), z_is 125 12 (zf_getr 12 7 5 15), z_is 125 15 (zf_getr 15 2 1 18), z_is 125 18 (zf_geti 18 5 1 21), z_is 125 21 (zf_cst 21 (jn 7) 23), z_is 125 23 (zf_if2 .lt 23 44 26)] = true := by decide +kernel
  refine z_aload hB rfl (fun hB => ?_)
  obtain ⟨q1, e2, h⟩ := z_bind h
  cases q1 with
  | inl v3 =>
    have hc9 := t_F_needText (I := I) ok e2
    cases h
    exact y_cvx ok hB (as := []) (a := 0) (rest := []) rfl (by decide +kernel) rfl rfl (by decide +kernel) hc9
  | inr v4 =>
    have hc9 := t_F_needText (I := I) ok e2
    refine y_cv ok hB (as := []) (a := 0) (rest := []) rfl rfl rfl (by decide +kernel) hc9 (fun hB => ?_)
    refine z_iload hB rfl (fun hB => ?_)
    refine z_cst hB (fun hB => ?_)
    refine z_cst hB (fun hB => ?_)
    obtain ⟨q5, e6, h⟩ := z_bind h
    cases q5 with
    | inl v7 =>
      have hc9 := t_F_needRange (I := I) ok e6
      cases h
      exact z_callSx hB (as := [.int (x1), .int ((jn 0)), .int ((jn 99))]) (rest := []) rfl (by decide +kernel) rfl rfl hc9
    | inr v8 =>
      have hc9 := t_F_needRange (I := I) ok e6
      refine z_callS hB (as := [.int (x1), .int ((jn 0)), .int ((jn 99))]) (rest := []) rfl rfl rfl hc9 (fun hB => ?_)
      refine z_aload hB rfl (fun hB => ?_)
      refine y_getm ok hB (by decide +kernel) hn.1 (fun hB => ?_)
      refine y_getr (b := (n + 7)) ok hB hn.2 (zla_r1 hn.2) (fun hB => ?_)
      refine y_geti ok hB (zla_k1 hn.2) (fun hB => ?_)
      refine z_cst hB (fun hB => ?_)
      obtain ⟨q9, e10, h⟩ := z_bind h
      have k11 : z_R G 125 45 [none, none] [.int (q9)] (z_w w I) (z_o z_vi r) (z_ow (z_w w I) r) := by
        have hB : z_all [z_is 125 45 (zf_ret 0)] = true := by decide +kernel
        cases h
        exact z_reti hB
      have h := e10
      refine z_ic_lt hB (fun hc _ => ?_) (fun hc _ => ?_)
      · have h := z_pos hc h
        have hB : z_all [z_is 125 44 (zf_cst 44 (jn 0) 45)] = true := by decide +kernel
        refine z_cst hB (fun hB => ?_)
        cases h
        exact z_weak k11 (z_sn (z_sn z_s0))
      · have h := z_neg hc h
        have hB : z_all [z_is 125 26 (zf_iload 26 1 27), z_is 125 27 (zf_aload 27 0 28), z_is 125 28 (zf_getr 28 7 5 31), z_is 125 31 (zf_getr 31 2 1 34), z_is 125 34 (zf_cst 34 (jn 2) 35), z_is 125 35 (zf_cv 35 89 1 5 38), z_is 125 38 (zf_nat 38 101 41), z_is 125 41 (zf_goto 41 45)] = true := by decide +kernel
        refine z_iload hB rfl (fun hB => ?_)
        refine z_aload hB rfl (fun hB => ?_)
        refine y_getm ok hB (by decide +kernel) hn.1 (fun hB => ?_)
        refine y_getr (b := (n + 7)) ok hB hn.2 (zla_r1 hn.2) (fun hB => ?_)
        refine z_cst hB (fun hB => ?_)
        obtain ⟨q12, e13, h⟩ := z_bind h
        refine y_cv ok hB (as := [.int ((jn 2))]) (a := (n + 7)) (rest := [.int (x1)]) rfl rfl rfl (zla_k1 hn.2) (t_S_flagsAt (I := I) ok (zla_k1 hn.2) e13) (fun hB => ?_)
        refine z_min hB rfl (fun hB => ?_)
        refine z_goto hB (fun hB => ?_)
        cases h
        exact z_weak k11 (z_sn (z_sn z_s0))
def d_F_payIf (n : Nat) (x1 : Int32) (x2 : Int32) (I : z_H) : Option (Nat ⊕ Int32) := ((d_F_needNation n (x1) I).bind fun q1 => (match q1 with | .inl v3 => some (Sum.inl v3) | .inr v4 => ((d_F_needRange (x2) ((jn 0)) ((jn 99))).bind fun q5 => (match q5 with | .inl v7 => some (Sum.inl v7) | .inr v8 => ((d_L_payAhead n (x1) (x2) I).bind fun q9 => some (Sum.inr (q9)))))))
/-- FlagLaundry.payIf(II)I -/
theorem t_F_payIf {G : z_G} {w : ev_W} (ok : z_Ok G w) {n : Nat} {x1 : Int32} {x2 : Int32} (hn : z_fc w n) {I : z_H} {r : Nat ⊕ Int32} (h : d_F_payIf n x1 x2 I = some r) : z_K G 126 [.ref (0), .int (x1), .int (x2)] (z_w w I) (z_o z_vi r) (z_ow (z_w w I) r) := by
  refine z_con ok.1 (ml := 3) (by decide +kernel) rfl rfl ?_
  show z_R G 126 0 [some (.ref (0)), some (.int (x1)), some (.int (x2))] [] (z_w w I) (z_o z_vi r) (z_ow (z_w w I) r)
  unfold d_F_payIf at h
  have hB : z_all [z_is 126 0 (zf_aload 0 0 1), z_is 126 1 (zf_iload 1 1 2), z_is 126 2 (zf_cv 2 142 1 7 5), z_is 126 5 (zf_iload 5 2 6), z_is 126 6 (zf_cst 6 (jn 0) 7), z_is 126 7 (zf_cst 7 (jn 99) 9), z_is 126 9 (zf_cs 9 145 3 12), z_is 126 12 (zf_aload 12 0 13), z_is 126 13 (zf_getr 13 7 5 16), z_is 126 16 (zf_iload 16 1 17), z_is 126 17 (zf_iload 17 2 18), z_is 126 18 (zf_cv 18 48 2 2 21), z_is 126 21 (zf_ret 0)] = true := by decide +kernel
  refine z_aload hB rfl (fun hB => ?_)
  refine z_iload hB rfl (fun hB => ?_)
  obtain ⟨q1, e2, h⟩ := z_bind h
  cases q1 with
  | inl v3 =>
    have hc9 := t_F_needNation (I := I) ok hn e2
    cases h
    exact y_cvx ok hB (as := [.int (x1)]) (a := 0) (rest := []) rfl (by decide +kernel) rfl rfl (by decide +kernel) hc9
  | inr v4 =>
    have hc9 := t_F_needNation (I := I) ok hn e2
    refine y_cv ok hB (as := [.int (x1)]) (a := 0) (rest := []) rfl rfl rfl (by decide +kernel) hc9 (fun hB => ?_)
    refine z_iload hB rfl (fun hB => ?_)
    refine z_cst hB (fun hB => ?_)
    refine z_cst hB (fun hB => ?_)
    obtain ⟨q5, e6, h⟩ := z_bind h
    cases q5 with
    | inl v7 =>
      have hc9 := t_F_needRange (I := I) ok e6
      cases h
      exact z_callSx hB (as := [.int (x2), .int ((jn 0)), .int ((jn 99))]) (rest := []) rfl (by decide +kernel) rfl rfl hc9
    | inr v8 =>
      have hc9 := t_F_needRange (I := I) ok e6
      refine z_callS hB (as := [.int (x2), .int ((jn 0)), .int ((jn 99))]) (rest := []) rfl rfl rfl hc9 (fun hB => ?_)
      refine z_aload hB rfl (fun hB => ?_)
      refine y_getm ok hB (by decide +kernel) hn.1 (fun hB => ?_)
      refine z_iload hB rfl (fun hB => ?_)
      refine z_iload hB rfl (fun hB => ?_)
      obtain ⟨q9, e10, h⟩ := z_bind h
      refine y_cv ok hB (as := [.int (x1), .int (x2)]) (a := n) (rest := []) rfl rfl rfl hn.2 (t_L_payAhead (I := I) ok hn.2 e10) (fun hB => ?_)
      cases h
      exact z_reti hB
def d_F_ironsFor (n : Nat) (x1 : Int32) (x2 : Int32) (I : z_H) : Option (Nat ⊕ Int32) := ((d_F_needFlag n (x1) I).bind fun q1 => (match q1 with | .inl v3 => some (Sum.inl v3) | .inr v4 => ((d_F_needHeat (x2)).bind fun q5 => (match q5 with | .inl v7 => some (Sum.inl v7) | .inr v8 => (if z_in (x1) 12 then ((d_G_ironsUntilSmooth ((n + 7) + 2 + z_n (x1)) (x2) I).bind fun q10 => some (Sum.inr (q10))) else none)))))
/-- FlagLaundry.ironsFor(II)I -/
theorem t_F_ironsFor {G : z_G} {w : ev_W} (ok : z_Ok G w) {n : Nat} {x1 : Int32} {x2 : Int32} (hn : z_fc w n) {I : z_H} {r : Nat ⊕ Int32} (h : d_F_ironsFor n x1 x2 I = some r) : z_K G 127 [.ref (0), .int (x1), .int (x2)] (z_w w I) (z_o z_vi r) (z_ow (z_w w I) r) := by
  refine z_con ok.1 (ml := 3) (by decide +kernel) rfl rfl ?_
  show z_R G 127 0 [some (.ref (0)), some (.int (x1)), some (.int (x2))] [] (z_w w I) (z_o z_vi r) (z_ow (z_w w I) r)
  unfold d_F_ironsFor at h
  have hB : z_all [z_is 127 0 (zf_aload 0 0 1), z_is 127 1 (zf_iload 1 1 2), z_is 127 2 (zf_cv 2 140 1 7 5), z_is 127 5 (zf_iload 5 2 6), z_is 127 6 (zf_cs 6 144 1 9), z_is 127 9 (zf_aload 9 0 10), z_is 127 10 (zf_getr 10 7 5 13), z_is 127 13 (zf_getr 13 2 1 16), z_is 127 16 (zf_getr 16 5 7 19), z_is 127 19 (zf_iload 19 1 20), z_is 127 20 (zf_aald 20 21), z_is 127 21 (zf_iload 21 2 22), z_is 127 22 (zf_cv 22 19 1 0 25), z_is 127 25 (zf_ret 0)] = true := by decide +kernel
  refine z_aload hB rfl (fun hB => ?_)
  refine z_iload hB rfl (fun hB => ?_)
  obtain ⟨q1, e2, h⟩ := z_bind h
  cases q1 with
  | inl v3 =>
    have hc9 := t_F_needFlag (I := I) ok hn e2
    cases h
    exact y_cvx ok hB (as := [.int (x1)]) (a := 0) (rest := []) rfl (by decide +kernel) rfl rfl (by decide +kernel) hc9
  | inr v4 =>
    have hc9 := t_F_needFlag (I := I) ok hn e2
    refine y_cv ok hB (as := [.int (x1)]) (a := 0) (rest := []) rfl rfl rfl (by decide +kernel) hc9 (fun hB => ?_)
    refine z_iload hB rfl (fun hB => ?_)
    obtain ⟨q5, e6, h⟩ := z_bind h
    cases q5 with
    | inl v7 =>
      have hc9 := t_F_needHeat (I := I) ok e6
      cases h
      exact z_callSx hB (as := [.int (x2)]) (rest := []) rfl (by decide +kernel) rfl rfl hc9
    | inr v8 =>
      have hc9 := t_F_needHeat (I := I) ok e6
      refine z_callS hB (as := [.int (x2)]) (rest := []) rfl rfl rfl hc9 (fun hB => ?_)
      refine z_aload hB rfl (fun hB => ?_)
      refine y_getm ok hB (by decide +kernel) hn.1 (fun hB => ?_)
      refine y_getr (b := (n + 7)) ok hB hn.2 (zla_r1 hn.2) (fun hB => ?_)
      refine y_getr (b := ((n + 7) + 1)) ok hB (zla_k1 hn.2) (zst_r7 (zla_k1 hn.2)) (fun hB => ?_)
      refine z_iload hB rfl (fun hB => ?_)
      obtain ⟨g9, h⟩ := z_gd h
      refine y_fald ok hB (zst_k1 (zla_k1 hn.2)) (zst_l1 (zla_k1 hn.2)) g9 (zst_fR (zla_k1 hn.2) g9) (fun hB => ?_)
      refine z_iload hB rfl (fun hB => ?_)
      obtain ⟨q10, e11, h⟩ := z_bind h
      refine y_cv ok hB (as := [.int (x2)]) (a := ((n + 7) + 2 + z_n (x1))) (rest := []) rfl rfl rfl (zst_fK (zla_k1 hn.2) g9) (t_G_ironsUntilSmooth (I := I) ok (zst_fK (zla_k1 hn.2) g9) e11) (fun hB => ?_)
      cases h
      exact z_reti hB
def d_F_needAllowed (x1 : Int32) : Option (Nat ⊕ Unit) := (if x1 = jn 0 then some (Sum.inl 2) else some (Sum.inr (())))
/-- FlagLaundry.needAllowed(Z)V -/
theorem t_F_needAllowed {G : z_G} {w : ev_W} (ok : z_Ok G w) {x1 : Int32} {I : z_H} {r : Nat ⊕ Unit} (h : d_F_needAllowed x1 = some r) : z_K G 146 [.int (x1)] (z_w w I) (z_o z_vv r) (z_ow (z_w w I) r) := by
  refine z_con ok.1 (ml := 1) (by decide +kernel) rfl rfl ?_
  show z_R G 146 0 [some (.int (x1))] [] (z_w w I) (z_o z_vv r) (z_ow (z_w w I) r)
  unfold d_F_needAllowed at h
  have hB : z_all [z_is 146 0 (zf_iload 0 0 1), z_is 146 1 (zf_if1 .ne 1 15 4)] = true := by decide +kernel
  refine z_iload hB rfl (fun hB => ?_)
  refine z_if_ne hB (fun hc _ => ?_) (fun hc _ => ?_)
  · have h := z_neg hc h
    have hB : z_all [z_is 146 15 (zf_ret 6)] = true := by decide +kernel
    cases h
    exact z_retv hB
  · have h := z_pos hc h
    have hB : z_all [z_thr 146 4 2] = true := by decide +kernel
    cases h
    exact z_throw hB
def d_F_put (n : Nat) (x1 : Int32) (x2 : Int32) (I : z_H) : Option ((Nat ⊕ Int32) × z_H) := ((d_F_needFlag n (x1) I).bind fun q1 => (match q1 with | .inl v3 => some ((Sum.inl v3, I)) | .inr v4 => ((d_F_needTub n (x2) I).bind fun q5 => (match q5 with | .inl v7 => some ((Sum.inl v7, I)) | .inr v8 => ((d_L_reasonAgainstPut n (x1) (x2) I).bind fun q9 => (Option.bind (α := Int32) (if q9 = jn 0 then some ((jn 1)) else some ((jn 0))) fun q11 => ((d_F_needAllowed (q11)).bind fun q14 => (match q14 with | .inl v16 => some ((Sum.inl v16, I)) | .inr v17 => ((d_H_keep ((n + 7)) I).bind fun q18 => ((d_S_moveToTub (n + 7) (x1) (x2) q18).bind fun q20 => some ((Sum.inr (q20.1), q20.2))))))))))))
/-- FlagLaundry.put(II)I -/
theorem t_F_put {G : z_G} {w : ev_W} (ok : z_Ok G w) {n : Nat} {x1 : Int32} {x2 : Int32} (hn : z_fc w n) {I : z_H} {r : (Nat ⊕ Int32) × z_H} (h : d_F_put n x1 x2 I = some r) : z_K G 128 [.ref (0), .int (x1), .int (x2)] (z_w w I) (z_o z_vi r.1) (z_ow (z_w w r.2) r.1) := by
  refine z_con ok.1 (ml := 3) (by decide +kernel) rfl rfl ?_
  show z_R G 128 0 [some (.ref (0)), some (.int (x1)), some (.int (x2))] [] (z_w w I) (z_o z_vi r.1) (z_ow (z_w w r.2) r.1)
  unfold d_F_put at h
  have hB : z_all [z_is 128 0 (zf_aload 0 0 1), z_is 128 1 (zf_iload 1 1 2), z_is 128 2 (zf_cv 2 140 1 7 5), z_is 128 5 (zf_aload 5 0 6), z_is 128 6 (zf_iload 6 2 7), z_is 128 7 (zf_cv 7 141 1 7 10), z_is 128 10 (zf_aload 10 0 11), z_is 128 11 (zf_getr 11 7 5 14), z_is 128 14 (zf_iload 14 1 15), z_is 128 15 (zf_iload 15 2 16), z_is 128 16 (zf_cv 16 35 2 2 19), z_is 128 19 (zf_if1 .ne 19 26 22)] = true := by decide +kernel
  refine z_aload hB rfl (fun hB => ?_)
  refine z_iload hB rfl (fun hB => ?_)
  obtain ⟨q1, e2, h⟩ := z_bind h
  cases q1 with
  | inl v3 =>
    have hc9 := t_F_needFlag (I := I) ok hn e2
    cases h
    exact y_cvx ok hB (as := [.int (x1)]) (a := 0) (rest := []) rfl (by decide +kernel) rfl rfl (by decide +kernel) hc9
  | inr v4 =>
    have hc9 := t_F_needFlag (I := I) ok hn e2
    refine y_cv ok hB (as := [.int (x1)]) (a := 0) (rest := []) rfl rfl rfl (by decide +kernel) hc9 (fun hB => ?_)
    refine z_aload hB rfl (fun hB => ?_)
    refine z_iload hB rfl (fun hB => ?_)
    obtain ⟨q5, e6, h⟩ := z_bind h
    cases q5 with
    | inl v7 =>
      have hc9 := t_F_needTub (I := I) ok hn e6
      cases h
      exact y_cvx ok hB (as := [.int (x2)]) (a := 0) (rest := []) rfl (by decide +kernel) rfl rfl (by decide +kernel) hc9
    | inr v8 =>
      have hc9 := t_F_needTub (I := I) ok hn e6
      refine y_cv ok hB (as := [.int (x2)]) (a := 0) (rest := []) rfl rfl rfl (by decide +kernel) hc9 (fun hB => ?_)
      refine z_aload hB rfl (fun hB => ?_)
      refine y_getm ok hB (by decide +kernel) hn.1 (fun hB => ?_)
      refine z_iload hB rfl (fun hB => ?_)
      refine z_iload hB rfl (fun hB => ?_)
      obtain ⟨q9, e10, h⟩ := z_bind h
      refine y_cv ok hB (as := [.int (x1), .int (x2)]) (a := n) (rest := []) rfl rfl rfl hn.2 (t_L_reasonAgainstPut (I := I) ok hn.2 e10) (fun hB => ?_)
      obtain ⟨q11, e12, h⟩ := z_bind h
      have k13 : z_R G 128 27 [some (.ref (0)), some (.int (x1)), some (.int (x2))] [.int (q11)] (z_w w I) (z_o z_vi r.1) (z_ow (z_w w r.2) r.1) := by
        have hB : z_all [z_is 128 27 (zf_cs 27 146 1 30), z_is 128 30 (zf_aload 30 0 31), z_is 128 31 (zf_getr 31 7 8 34), z_is 128 34 (zf_aload 34 0 35), z_is 128 35 (zf_getr 35 7 5 38), z_is 128 38 (zf_getr 38 2 1 41), z_is 128 41 (zf_cv 41 23 1 1 44), z_is 128 44 (zf_aload 44 0 45), z_is 128 45 (zf_getr 45 7 5 48), z_is 128 48 (zf_getr 48 2 1 51), z_is 128 51 (zf_iload 51 1 52), z_is 128 52 (zf_iload 52 2 53), z_is 128 53 (zf_cv 53 94 2 5 56), z_is 128 56 (zf_ret 0)] = true := by decide +kernel
        obtain ⟨q14, e15, h⟩ := z_bind h
        cases q14 with
        | inl v16 =>
          have hc9 := t_F_needAllowed (I := I) ok e15
          cases h
          exact z_callSx hB (as := [.int (q11)]) (rest := []) rfl (by decide +kernel) rfl rfl hc9
        | inr v17 =>
          have hc9 := t_F_needAllowed (I := I) ok e15
          refine z_callS hB (as := [.int (q11)]) (rest := []) rfl rfl rfl hc9 (fun hB => ?_)
          refine z_aload hB rfl (fun hB => ?_)
          refine y_getr (b := 55) ok hB (by decide +kernel) (by decide +kernel) (fun hB => ?_)
          refine z_aload hB rfl (fun hB => ?_)
          refine y_getm ok hB (by decide +kernel) hn.1 (fun hB => ?_)
          refine y_getr (b := (n + 7)) ok hB hn.2 (zla_r1 hn.2) (fun hB => ?_)
          obtain ⟨q18, e19, h⟩ := z_bind h
          refine y_cv ok hB (as := [.ref ((n + 7))]) (a := 55) (rest := []) rfl rfl rfl (by decide +kernel) (t_H_keep (I := I) ok (zla_k1 hn.2) e19) (fun hB => ?_)
          refine z_aload hB rfl (fun hB => ?_)
          refine y_getm ok hB (by decide +kernel) hn.1 (fun hB => ?_)
          refine y_getr (b := (n + 7)) ok hB hn.2 (zla_r1 hn.2) (fun hB => ?_)
          refine z_iload hB rfl (fun hB => ?_)
          refine z_iload hB rfl (fun hB => ?_)
          obtain ⟨q20, e21, h⟩ := z_bind h
          refine y_cv ok hB (as := [.int (x1), .int (x2)]) (a := (n + 7)) (rest := []) rfl rfl rfl (zla_k1 hn.2) (t_S_moveToTub (I := q18) ok (zla_k1 hn.2) e21) (fun hB => ?_)
          cases h
          exact z_reti hB
      have h := e12
      refine z_if_ne hB (fun hc _ => ?_) (fun hc _ => ?_)
      · have h := z_neg hc h
        have hB : z_all [z_is 128 26 (zf_cst 26 (jn 0) 27)] = true := by decide +kernel
        refine z_cst hB (fun hB => ?_)
        cases h
        exact z_weak k13 (z_se (z_se (z_se z_s0)))
      · have h := z_pos hc h
        have hB : z_all [z_is 128 22 (zf_cst 22 (jn 1) 23), z_is 128 23 (zf_goto 23 27)] = true := by decide +kernel
        refine z_cst hB (fun hB => ?_)
        refine z_goto hB (fun hB => ?_)
        cases h
        exact z_weak k13 (z_se (z_se (z_se z_s0)))
def d_F_wash (n : Nat) (x1 : Int32) (x2 : Int32) (I : z_H) : Option ((Nat ⊕ Int32) × z_H) := ((d_F_needTub n (x1) I).bind fun q1 => (match q1 with | .inl v3 => some ((Sum.inl v3, I)) | .inr v4 => ((d_F_needHeat (x2)).bind fun q5 => (match q5 with | .inl v7 => some ((Sum.inl v7, I)) | .inr v8 => ((d_L_reasonAgainstWash n (x1) (x2) I).bind fun q9 => (Option.bind (α := Int32) (if q9 = jn 0 then some ((jn 1)) else some ((jn 0))) fun q11 => ((d_F_needAllowed (q11)).bind fun q14 => (match q14 with | .inl v16 => some ((Sum.inl v16, I)) | .inr v17 => ((d_H_keep ((n + 7)) I).bind fun q18 => ((d_L_washTub n (x1) (x2) q18).bind fun q20 => some ((Sum.inr (q20.1), q20.2))))))))))))
/-- FlagLaundry.wash(II)I -/
theorem t_F_wash {G : z_G} {w : ev_W} (ok : z_Ok G w) {n : Nat} {x1 : Int32} {x2 : Int32} (hn : z_fc w n) {I : z_H} {r : (Nat ⊕ Int32) × z_H} (h : d_F_wash n x1 x2 I = some r) : z_K G 129 [.ref (0), .int (x1), .int (x2)] (z_w w I) (z_o z_vi r.1) (z_ow (z_w w r.2) r.1) := by
  refine z_con ok.1 (ml := 3) (by decide +kernel) rfl rfl ?_
  show z_R G 129 0 [some (.ref (0)), some (.int (x1)), some (.int (x2))] [] (z_w w I) (z_o z_vi r.1) (z_ow (z_w w r.2) r.1)
  unfold d_F_wash at h
  have hB : z_all [z_is 129 0 (zf_aload 0 0 1), z_is 129 1 (zf_iload 1 1 2), z_is 129 2 (zf_cv 2 141 1 7 5), z_is 129 5 (zf_iload 5 2 6), z_is 129 6 (zf_cs 6 144 1 9), z_is 129 9 (zf_aload 9 0 10), z_is 129 10 (zf_getr 10 7 5 13), z_is 129 13 (zf_iload 13 1 14), z_is 129 14 (zf_iload 14 2 15), z_is 129 15 (zf_cv 15 36 2 2 18), z_is 129 18 (zf_if1 .ne 18 25 21)] = true := by decide +kernel
  refine z_aload hB rfl (fun hB => ?_)
  refine z_iload hB rfl (fun hB => ?_)
  obtain ⟨q1, e2, h⟩ := z_bind h
  cases q1 with
  | inl v3 =>
    have hc9 := t_F_needTub (I := I) ok hn e2
    cases h
    exact y_cvx ok hB (as := [.int (x1)]) (a := 0) (rest := []) rfl (by decide +kernel) rfl rfl (by decide +kernel) hc9
  | inr v4 =>
    have hc9 := t_F_needTub (I := I) ok hn e2
    refine y_cv ok hB (as := [.int (x1)]) (a := 0) (rest := []) rfl rfl rfl (by decide +kernel) hc9 (fun hB => ?_)
    refine z_iload hB rfl (fun hB => ?_)
    obtain ⟨q5, e6, h⟩ := z_bind h
    cases q5 with
    | inl v7 =>
      have hc9 := t_F_needHeat (I := I) ok e6
      cases h
      exact z_callSx hB (as := [.int (x2)]) (rest := []) rfl (by decide +kernel) rfl rfl hc9
    | inr v8 =>
      have hc9 := t_F_needHeat (I := I) ok e6
      refine z_callS hB (as := [.int (x2)]) (rest := []) rfl rfl rfl hc9 (fun hB => ?_)
      refine z_aload hB rfl (fun hB => ?_)
      refine y_getm ok hB (by decide +kernel) hn.1 (fun hB => ?_)
      refine z_iload hB rfl (fun hB => ?_)
      refine z_iload hB rfl (fun hB => ?_)
      obtain ⟨q9, e10, h⟩ := z_bind h
      refine y_cv ok hB (as := [.int (x1), .int (x2)]) (a := n) (rest := []) rfl rfl rfl hn.2 (t_L_reasonAgainstWash (I := I) ok hn.2 e10) (fun hB => ?_)
      obtain ⟨q11, e12, h⟩ := z_bind h
      have k13 : z_R G 129 26 [some (.ref (0)), some (.int (x1)), some (.int (x2))] [.int (q11)] (z_w w I) (z_o z_vi r.1) (z_ow (z_w w r.2) r.1) := by
        have hB : z_all [z_is 129 26 (zf_cs 26 146 1 29), z_is 129 29 (zf_aload 29 0 30), z_is 129 30 (zf_getr 30 7 8 33), z_is 129 33 (zf_aload 33 0 34), z_is 129 34 (zf_getr 34 7 5 37), z_is 129 37 (zf_getr 37 2 1 40), z_is 129 40 (zf_cv 40 23 1 1 43), z_is 129 43 (zf_aload 43 0 44), z_is 129 44 (zf_getr 44 7 5 47), z_is 129 47 (zf_iload 47 1 48), z_is 129 48 (zf_iload 48 2 49), z_is 129 49 (zf_cv 49 37 2 2 52), z_is 129 52 (zf_ret 0)] = true := by decide +kernel
        obtain ⟨q14, e15, h⟩ := z_bind h
        cases q14 with
        | inl v16 =>
          have hc9 := t_F_needAllowed (I := I) ok e15
          cases h
          exact z_callSx hB (as := [.int (q11)]) (rest := []) rfl (by decide +kernel) rfl rfl hc9
        | inr v17 =>
          have hc9 := t_F_needAllowed (I := I) ok e15
          refine z_callS hB (as := [.int (q11)]) (rest := []) rfl rfl rfl hc9 (fun hB => ?_)
          refine z_aload hB rfl (fun hB => ?_)
          refine y_getr (b := 55) ok hB (by decide +kernel) (by decide +kernel) (fun hB => ?_)
          refine z_aload hB rfl (fun hB => ?_)
          refine y_getm ok hB (by decide +kernel) hn.1 (fun hB => ?_)
          refine y_getr (b := (n + 7)) ok hB hn.2 (zla_r1 hn.2) (fun hB => ?_)
          obtain ⟨q18, e19, h⟩ := z_bind h
          refine y_cv ok hB (as := [.ref ((n + 7))]) (a := 55) (rest := []) rfl rfl rfl (by decide +kernel) (t_H_keep (I := I) ok (zla_k1 hn.2) e19) (fun hB => ?_)
          refine z_aload hB rfl (fun hB => ?_)
          refine y_getm ok hB (by decide +kernel) hn.1 (fun hB => ?_)
          refine z_iload hB rfl (fun hB => ?_)
          refine z_iload hB rfl (fun hB => ?_)
          obtain ⟨q20, e21, h⟩ := z_bind h
          refine y_cv ok hB (as := [.int (x1), .int (x2)]) (a := n) (rest := []) rfl rfl rfl hn.2 (t_L_washTub (I := q18) ok hn.2 e21) (fun hB => ?_)
          cases h
          exact z_reti hB
      have h := e12
      refine z_if_ne hB (fun hc _ => ?_) (fun hc _ => ?_)
      · have h := z_neg hc h
        have hB : z_all [z_is 129 25 (zf_cst 25 (jn 0) 26)] = true := by decide +kernel
        refine z_cst hB (fun hB => ?_)
        cases h
        exact z_weak k13 (z_se (z_se (z_se z_s0)))
      · have h := z_pos hc h
        have hB : z_all [z_is 129 21 (zf_cst 21 (jn 1) 22), z_is 129 22 (zf_goto 22 26)] = true := by decide +kernel
        refine z_cst hB (fun hB => ?_)
        refine z_goto hB (fun hB => ?_)
        cases h
        exact z_weak k13 (z_se (z_se (z_se z_s0)))
def d_F_hangAll (n : Nat) (I : z_H) : Option ((Nat ⊕ Int32) × z_H) := ((d_F_needText I).bind fun q1 => (match q1 with | .inl v3 => some ((Sum.inl v3, I)) | .inr v4 => ((d_H_keep ((n + 7)) I).bind fun q5 => ((d_L_hangAllWet n q5).bind fun q7 => some ((Sum.inr (q7.1), q7.2))))))
/-- FlagLaundry.hangAll()I -/
theorem t_F_hangAll {G : z_G} {w : ev_W} (ok : z_Ok G w) {n : Nat} (hn : z_fc w n) {I : z_H} {r : (Nat ⊕ Int32) × z_H} (h : d_F_hangAll n I = some r) : z_K G 130 [.ref (0)] (z_w w I) (z_o z_vi r.1) (z_ow (z_w w r.2) r.1) := by
  refine z_con ok.1 (ml := 1) (by decide +kernel) rfl rfl ?_
  show z_R G 130 0 [some (.ref (0))] [] (z_w w I) (z_o z_vi r.1) (z_ow (z_w w r.2) r.1)
  unfold d_F_hangAll at h
  have hB : z_all [z_is 130 0 (zf_aload 0 0 1), z_is 130 1 (zf_cv 1 139 0 7 4), z_is 130 4 (zf_aload 4 0 5), z_is 130 5 (zf_getr 5 7 8 8), z_is 130 8 (zf_aload 8 0 9), z_is 130 9 (zf_getr 9 7 5 12), z_is 130 12 (zf_getr 12 2 1 15), z_is 130 15 (zf_cv 15 23 1 1 18), z_is 130 18 (zf_aload 18 0 19), z_is 130 19 (zf_getr 19 7 5 22), z_is 130 22 (zf_cv 22 44 0 2 25), z_is 130 25 (zf_ret 0)] = true := by decide +kernel
  refine z_aload hB rfl (fun hB => ?_)
  obtain ⟨q1, e2, h⟩ := z_bind h
  cases q1 with
  | inl v3 =>
    have hc9 := t_F_needText (I := I) ok e2
    cases h
    exact y_cvx ok hB (as := []) (a := 0) (rest := []) rfl (by decide +kernel) rfl rfl (by decide +kernel) hc9
  | inr v4 =>
    have hc9 := t_F_needText (I := I) ok e2
    refine y_cv ok hB (as := []) (a := 0) (rest := []) rfl rfl rfl (by decide +kernel) hc9 (fun hB => ?_)
    refine z_aload hB rfl (fun hB => ?_)
    refine y_getr (b := 55) ok hB (by decide +kernel) (by decide +kernel) (fun hB => ?_)
    refine z_aload hB rfl (fun hB => ?_)
    refine y_getm ok hB (by decide +kernel) hn.1 (fun hB => ?_)
    refine y_getr (b := (n + 7)) ok hB hn.2 (zla_r1 hn.2) (fun hB => ?_)
    obtain ⟨q5, e6, h⟩ := z_bind h
    refine y_cv ok hB (as := [.ref ((n + 7))]) (a := 55) (rest := []) rfl rfl rfl (by decide +kernel) (t_H_keep (I := I) ok (zla_k1 hn.2) e6) (fun hB => ?_)
    refine z_aload hB rfl (fun hB => ?_)
    refine y_getm ok hB (by decide +kernel) hn.1 (fun hB => ?_)
    obtain ⟨q7, e8, h⟩ := z_bind h
    refine y_cv ok hB (as := []) (a := n) (rest := []) rfl rfl rfl hn.2 (t_L_hangAllWet (I := q5) ok hn.2 e8) (fun hB => ?_)
    cases h
    exact z_reti hB
def d_F_iron (n : Nat) (x1 : Int32) (x2 : Int32) (I : z_H) : Option ((Nat ⊕ Int32) × z_H) := ((d_F_needFlag n (x1) I).bind fun q1 => (match q1 with | .inl v3 => some ((Sum.inl v3, I)) | .inr v4 => ((d_F_needHeat (x2)).bind fun q5 => (match q5 with | .inl v7 => some ((Sum.inl v7, I)) | .inr v8 => (if z_in (x1) 12 then ((d_G_reasonAgainstIron ((n + 7) + 2 + z_n (x1)) (x2) I).bind fun q10 => (Option.bind (α := Int32) (if q10 = jn 0 then some ((jn 1)) else some ((jn 0))) fun q12 => ((d_F_needAllowed (q12)).bind fun q15 => (match q15 with | .inl v17 => some ((Sum.inl v17, I)) | .inr v18 => ((d_H_keep ((n + 7)) I).bind fun q19 => ((d_G_takeIron ((n + 7) + 2 + z_n (x1)) (x2) q19).bind fun q21 => some ((Sum.inr ((q21 ((n + 7) + 2 + z_n (x1)) 5)), q21)))))))) else none)))))
/-- FlagLaundry.iron(II)I -/
theorem t_F_iron {G : z_G} {w : ev_W} (ok : z_Ok G w) {n : Nat} {x1 : Int32} {x2 : Int32} (hn : z_fc w n) {I : z_H} {r : (Nat ⊕ Int32) × z_H} (h : d_F_iron n x1 x2 I = some r) : z_K G 131 [.ref (0), .int (x1), .int (x2)] (z_w w I) (z_o z_vi r.1) (z_ow (z_w w r.2) r.1) := by
  refine z_con ok.1 (ml := 4) (by decide +kernel) rfl rfl ?_
  show z_R G 131 0 [some (.ref (0)), some (.int (x1)), some (.int (x2)), none] [] (z_w w I) (z_o z_vi r.1) (z_ow (z_w w r.2) r.1)
  unfold d_F_iron at h
  have hB : z_all [z_is 131 0 (zf_aload 0 0 1), z_is 131 1 (zf_iload 1 1 2), z_is 131 2 (zf_cv 2 140 1 7 5), z_is 131 5 (zf_iload 5 2 6), z_is 131 6 (zf_cs 6 144 1 9), z_is 131 9 (zf_aload 9 0 10), z_is 131 10 (zf_getr 10 7 5 13), z_is 131 13 (zf_getr 13 2 1 16), z_is 131 16 (zf_getr 16 5 7 19), z_is 131 19 (zf_iload 19 1 20), z_is 131 20 (zf_aald 20 21), z_is 131 21 (zf_astore 21 3 22), z_is 131 22 (zf_aload 22 3 23), z_is 131 23 (zf_iload 23 2 24), z_is 131 24 (zf_cv 24 8 1 0 27), z_is 131 27 (zf_if1 .ne 27 34 30)] = true := by decide +kernel
  refine z_aload hB rfl (fun hB => ?_)
  refine z_iload hB rfl (fun hB => ?_)
  obtain ⟨q1, e2, h⟩ := z_bind h
  cases q1 with
  | inl v3 =>
    have hc9 := t_F_needFlag (I := I) ok hn e2
    cases h
    exact y_cvx ok hB (as := [.int (x1)]) (a := 0) (rest := []) rfl (by decide +kernel) rfl rfl (by decide +kernel) hc9
  | inr v4 =>
    have hc9 := t_F_needFlag (I := I) ok hn e2
    refine y_cv ok hB (as := [.int (x1)]) (a := 0) (rest := []) rfl rfl rfl (by decide +kernel) hc9 (fun hB => ?_)
    refine z_iload hB rfl (fun hB => ?_)
    obtain ⟨q5, e6, h⟩ := z_bind h
    cases q5 with
    | inl v7 =>
      have hc9 := t_F_needHeat (I := I) ok e6
      cases h
      exact z_callSx hB (as := [.int (x2)]) (rest := []) rfl (by decide +kernel) rfl rfl hc9
    | inr v8 =>
      have hc9 := t_F_needHeat (I := I) ok e6
      refine z_callS hB (as := [.int (x2)]) (rest := []) rfl rfl rfl hc9 (fun hB => ?_)
      refine z_aload hB rfl (fun hB => ?_)
      refine y_getm ok hB (by decide +kernel) hn.1 (fun hB => ?_)
      refine y_getr (b := (n + 7)) ok hB hn.2 (zla_r1 hn.2) (fun hB => ?_)
      refine y_getr (b := ((n + 7) + 1)) ok hB (zla_k1 hn.2) (zst_r7 (zla_k1 hn.2)) (fun hB => ?_)
      refine z_iload hB rfl (fun hB => ?_)
      obtain ⟨g9, h⟩ := z_gd h
      refine y_fald ok hB (zst_k1 (zla_k1 hn.2)) (zst_l1 (zla_k1 hn.2)) g9 (zst_fR (zla_k1 hn.2) g9) (fun hB => ?_)
      refine z_astore hB rfl rfl (fun hB => ?_)
      refine z_aload hB rfl (fun hB => ?_)
      refine z_iload hB rfl (fun hB => ?_)
      obtain ⟨q10, e11, h⟩ := z_bind h
      refine y_cv ok hB (as := [.int (x2)]) (a := ((n + 7) + 2 + z_n (x1))) (rest := []) rfl rfl rfl (zst_fK (zla_k1 hn.2) g9) (t_G_reasonAgainstIron (I := I) ok (zst_fK (zla_k1 hn.2) g9) e11) (fun hB => ?_)
      obtain ⟨q12, e13, h⟩ := z_bind h
      have k14 : z_R G 131 35 [some (.ref (0)), none, some (.int (x2)), some (.ref (((n + 7) + 2 + z_n (x1))))] [.int (q12)] (z_w w I) (z_o z_vi r.1) (z_ow (z_w w r.2) r.1) := by
        have hB : z_all [z_is 131 35 (zf_cs 35 146 1 38), z_is 131 38 (zf_aload 38 0 39), z_is 131 39 (zf_getr 39 7 8 42), z_is 131 42 (zf_aload 42 0 43), z_is 131 43 (zf_getr 43 7 5 46), z_is 131 46 (zf_getr 46 2 1 49), z_is 131 49 (zf_cv 49 23 1 1 52), z_is 131 52 (zf_aload 52 3 53), z_is 131 53 (zf_iload 53 2 54), z_is 131 54 (zf_cv 54 17 1 0 57), z_is 131 57 (zf_aload 57 3 58), z_is 131 58 (zf_geti 58 0 5 61), z_is 131 61 (zf_ret 0)] = true := by decide +kernel
        obtain ⟨q15, e16, h⟩ := z_bind h
        cases q15 with
        | inl v17 =>
          have hc9 := t_F_needAllowed (I := I) ok e16
          cases h
          exact z_callSx hB (as := [.int (q12)]) (rest := []) rfl (by decide +kernel) rfl rfl hc9
        | inr v18 =>
          have hc9 := t_F_needAllowed (I := I) ok e16
          refine z_callS hB (as := [.int (q12)]) (rest := []) rfl rfl rfl hc9 (fun hB => ?_)
          refine z_aload hB rfl (fun hB => ?_)
          refine y_getr (b := 55) ok hB (by decide +kernel) (by decide +kernel) (fun hB => ?_)
          refine z_aload hB rfl (fun hB => ?_)
          refine y_getm ok hB (by decide +kernel) hn.1 (fun hB => ?_)
          refine y_getr (b := (n + 7)) ok hB hn.2 (zla_r1 hn.2) (fun hB => ?_)
          obtain ⟨q19, e20, h⟩ := z_bind h
          refine y_cv ok hB (as := [.ref ((n + 7))]) (a := 55) (rest := []) rfl rfl rfl (by decide +kernel) (t_H_keep (I := I) ok (zla_k1 hn.2) e20) (fun hB => ?_)
          refine z_aload hB rfl (fun hB => ?_)
          refine z_iload hB rfl (fun hB => ?_)
          obtain ⟨q21, e22, h⟩ := z_bind h
          refine y_cv ok hB (as := [.int (x2)]) (a := ((n + 7) + 2 + z_n (x1))) (rest := []) rfl rfl rfl (zst_fK (zla_k1 hn.2) g9) (t_G_takeIron (I := q19) ok (zst_fK (zla_k1 hn.2) g9) e22) (fun hB => ?_)
          refine z_aload hB rfl (fun hB => ?_)
          refine y_geti ok hB (zst_fK (zla_k1 hn.2) g9) (fun hB => ?_)
          cases h
          exact z_reti hB
      have h := e13
      refine z_if_ne hB (fun hc _ => ?_) (fun hc _ => ?_)
      · have h := z_neg hc h
        have hB : z_all [z_is 131 34 (zf_cst 34 (jn 0) 35)] = true := by decide +kernel
        refine z_cst hB (fun hB => ?_)
        cases h
        exact z_weak k14 (z_se (z_sn (z_se (z_se z_s0))))
      · have h := z_pos hc h
        have hB : z_all [z_is 131 30 (zf_cst 30 (jn 1) 31), z_is 131 31 (zf_goto 31 35)] = true := by decide +kernel
        refine z_cst hB (fun hB => ?_)
        refine z_goto hB (fun hB => ?_)
        cases h
        exact z_weak k14 (z_se (z_sn (z_se (z_se z_s0))))
def d_F_bleach (n : Nat) (x1 : Int32) (I : z_H) : Option ((Nat ⊕ Int32) × z_H) := ((d_F_needFlag n (x1) I).bind fun q1 => (match q1 with | .inl v3 => some ((Sum.inl v3, I)) | .inr v4 => (if z_in (x1) 12 then ((d_G_reasonAgainstBleach ((n + 7) + 2 + z_n (x1)) I).bind fun q6 => (Option.bind (α := Int32) (if q6 = jn 0 then some ((jn 1)) else some ((jn 0))) fun q8 => ((d_F_needAllowed (q8)).bind fun q11 => (match q11 with | .inl v13 => some ((Sum.inl v13, I)) | .inr v14 => ((d_H_keep ((n + 7)) I).bind fun q15 => ((d_G_takeBleach ((n + 7) + 2 + z_n (x1)) q15).bind fun q17 => some ((Sum.inr (q17.1), q17.2)))))))) else none)))
/-- FlagLaundry.bleach(I)I -/
theorem t_F_bleach {G : z_G} {w : ev_W} (ok : z_Ok G w) {n : Nat} {x1 : Int32} (hn : z_fc w n) {I : z_H} {r : (Nat ⊕ Int32) × z_H} (h : d_F_bleach n x1 I = some r) : z_K G 132 [.ref (0), .int (x1)] (z_w w I) (z_o z_vi r.1) (z_ow (z_w w r.2) r.1) := by
  refine z_con ok.1 (ml := 3) (by decide +kernel) rfl rfl ?_
  show z_R G 132 0 [some (.ref (0)), some (.int (x1)), none] [] (z_w w I) (z_o z_vi r.1) (z_ow (z_w w r.2) r.1)
  unfold d_F_bleach at h
  have hB : z_all [z_is 132 0 (zf_aload 0 0 1), z_is 132 1 (zf_iload 1 1 2), z_is 132 2 (zf_cv 2 140 1 7 5), z_is 132 5 (zf_aload 5 0 6), z_is 132 6 (zf_getr 6 7 5 9), z_is 132 9 (zf_getr 9 2 1 12), z_is 132 12 (zf_getr 12 5 7 15), z_is 132 15 (zf_iload 15 1 16), z_is 132 16 (zf_aald 16 17), z_is 132 17 (zf_astore 17 2 18), z_is 132 18 (zf_aload 18 2 19), z_is 132 19 (zf_cv 19 9 0 0 22), z_is 132 22 (zf_if1 .ne 22 29 25)] = true := by decide +kernel
  refine z_aload hB rfl (fun hB => ?_)
  refine z_iload hB rfl (fun hB => ?_)
  obtain ⟨q1, e2, h⟩ := z_bind h
  cases q1 with
  | inl v3 =>
    have hc9 := t_F_needFlag (I := I) ok hn e2
    cases h
    exact y_cvx ok hB (as := [.int (x1)]) (a := 0) (rest := []) rfl (by decide +kernel) rfl rfl (by decide +kernel) hc9
  | inr v4 =>
    have hc9 := t_F_needFlag (I := I) ok hn e2
    refine y_cv ok hB (as := [.int (x1)]) (a := 0) (rest := []) rfl rfl rfl (by decide +kernel) hc9 (fun hB => ?_)
    refine z_aload hB rfl (fun hB => ?_)
    refine y_getm ok hB (by decide +kernel) hn.1 (fun hB => ?_)
    refine y_getr (b := (n + 7)) ok hB hn.2 (zla_r1 hn.2) (fun hB => ?_)
    refine y_getr (b := ((n + 7) + 1)) ok hB (zla_k1 hn.2) (zst_r7 (zla_k1 hn.2)) (fun hB => ?_)
    refine z_iload hB rfl (fun hB => ?_)
    obtain ⟨g5, h⟩ := z_gd h
    refine y_fald ok hB (zst_k1 (zla_k1 hn.2)) (zst_l1 (zla_k1 hn.2)) g5 (zst_fR (zla_k1 hn.2) g5) (fun hB => ?_)
    refine z_astore hB rfl rfl (fun hB => ?_)
    refine z_aload hB rfl (fun hB => ?_)
    obtain ⟨q6, e7, h⟩ := z_bind h
    refine y_cv ok hB (as := []) (a := ((n + 7) + 2 + z_n (x1))) (rest := []) rfl rfl rfl (zst_fK (zla_k1 hn.2) g5) (t_G_reasonAgainstBleach (I := I) ok (zst_fK (zla_k1 hn.2) g5) e7) (fun hB => ?_)
    obtain ⟨q8, e9, h⟩ := z_bind h
    have k10 : z_R G 132 30 [some (.ref (0)), none, some (.ref (((n + 7) + 2 + z_n (x1))))] [.int (q8)] (z_w w I) (z_o z_vi r.1) (z_ow (z_w w r.2) r.1) := by
      have hB : z_all [z_is 132 30 (zf_cs 30 146 1 33), z_is 132 33 (zf_aload 33 0 34), z_is 132 34 (zf_getr 34 7 8 37), z_is 132 37 (zf_aload 37 0 38), z_is 132 38 (zf_getr 38 7 5 41), z_is 132 41 (zf_getr 41 2 1 44), z_is 132 44 (zf_cv 44 23 1 1 47), z_is 132 47 (zf_aload 47 2 48), z_is 132 48 (zf_cv 48 18 0 0 51), z_is 132 51 (zf_ret 0)] = true := by decide +kernel
      obtain ⟨q11, e12, h⟩ := z_bind h
      cases q11 with
      | inl v13 =>
        have hc9 := t_F_needAllowed (I := I) ok e12
        cases h
        exact z_callSx hB (as := [.int (q8)]) (rest := []) rfl (by decide +kernel) rfl rfl hc9
      | inr v14 =>
        have hc9 := t_F_needAllowed (I := I) ok e12
        refine z_callS hB (as := [.int (q8)]) (rest := []) rfl rfl rfl hc9 (fun hB => ?_)
        refine z_aload hB rfl (fun hB => ?_)
        refine y_getr (b := 55) ok hB (by decide +kernel) (by decide +kernel) (fun hB => ?_)
        refine z_aload hB rfl (fun hB => ?_)
        refine y_getm ok hB (by decide +kernel) hn.1 (fun hB => ?_)
        refine y_getr (b := (n + 7)) ok hB hn.2 (zla_r1 hn.2) (fun hB => ?_)
        obtain ⟨q15, e16, h⟩ := z_bind h
        refine y_cv ok hB (as := [.ref ((n + 7))]) (a := 55) (rest := []) rfl rfl rfl (by decide +kernel) (t_H_keep (I := I) ok (zla_k1 hn.2) e16) (fun hB => ?_)
        refine z_aload hB rfl (fun hB => ?_)
        obtain ⟨q17, e18, h⟩ := z_bind h
        refine y_cv ok hB (as := []) (a := ((n + 7) + 2 + z_n (x1))) (rest := []) rfl rfl rfl (zst_fK (zla_k1 hn.2) g5) (t_G_takeBleach (I := q15) ok (zst_fK (zla_k1 hn.2) g5) e18) (fun hB => ?_)
        cases h
        exact z_reti hB
    have h := e9
    refine z_if_ne hB (fun hc _ => ?_) (fun hc _ => ?_)
    · have h := z_neg hc h
      have hB : z_all [z_is 132 29 (zf_cst 29 (jn 0) 30)] = true := by decide +kernel
      refine z_cst hB (fun hB => ?_)
      cases h
      exact z_weak k10 (z_se (z_sn (z_se z_s0)))
    · have h := z_pos hc h
      have hB : z_all [z_is 132 25 (zf_cst 25 (jn 1) 26), z_is 132 26 (zf_goto 26 30)] = true := by decide +kernel
      refine z_cst hB (fun hB => ?_)
      refine z_goto hB (fun hB => ?_)
      cases h
      exact z_weak k10 (z_se (z_sn (z_se z_s0)))
def d_F_handOver (n : Nat) (x1 : Int32) (I : z_H) : Option ((Nat ⊕ Int32) × z_H) := ((d_F_needNation n (x1) I).bind fun q1 => (match q1 with | .inl v3 => some ((Sum.inl v3, I)) | .inr v4 => ((d_L_canHandOver n (x1) I).bind fun q5 => ((d_F_needAllowed (q5)).bind fun q7 => (match q7 with | .inl v9 => some ((Sum.inl v9, I)) | .inr v10 => ((d_H_keep ((n + 7)) I).bind fun q11 => ((d_L_handOverAll n (x1) q11).bind fun q13 => some ((Sum.inr (q13.1), q13.2)))))))))
/-- FlagLaundry.handOver(I)I -/
theorem t_F_handOver {G : z_G} {w : ev_W} (ok : z_Ok G w) {n : Nat} {x1 : Int32} (hn : z_fc w n) {I : z_H} {r : (Nat ⊕ Int32) × z_H} (h : d_F_handOver n x1 I = some r) : z_K G 133 [.ref (0), .int (x1)] (z_w w I) (z_o z_vi r.1) (z_ow (z_w w r.2) r.1) := by
  refine z_con ok.1 (ml := 2) (by decide +kernel) rfl rfl ?_
  show z_R G 133 0 [some (.ref (0)), some (.int (x1))] [] (z_w w I) (z_o z_vi r.1) (z_ow (z_w w r.2) r.1)
  unfold d_F_handOver at h
  have hB : z_all [z_is 133 0 (zf_aload 0 0 1), z_is 133 1 (zf_iload 1 1 2), z_is 133 2 (zf_cv 2 142 1 7 5), z_is 133 5 (zf_aload 5 0 6), z_is 133 6 (zf_getr 6 7 5 9), z_is 133 9 (zf_iload 9 1 10), z_is 133 10 (zf_cv 10 49 1 2 13), z_is 133 13 (zf_cs 13 146 1 16), z_is 133 16 (zf_aload 16 0 17), z_is 133 17 (zf_getr 17 7 8 20), z_is 133 20 (zf_aload 20 0 21), z_is 133 21 (zf_getr 21 7 5 24), z_is 133 24 (zf_getr 24 2 1 27), z_is 133 27 (zf_cv 27 23 1 1 30), z_is 133 30 (zf_aload 30 0 31), z_is 133 31 (zf_getr 31 7 5 34), z_is 133 34 (zf_iload 34 1 35), z_is 133 35 (zf_cv 35 50 1 2 38), z_is 133 38 (zf_ret 0)] = true := by decide +kernel
  refine z_aload hB rfl (fun hB => ?_)
  refine z_iload hB rfl (fun hB => ?_)
  obtain ⟨q1, e2, h⟩ := z_bind h
  cases q1 with
  | inl v3 =>
    have hc9 := t_F_needNation (I := I) ok hn e2
    cases h
    exact y_cvx ok hB (as := [.int (x1)]) (a := 0) (rest := []) rfl (by decide +kernel) rfl rfl (by decide +kernel) hc9
  | inr v4 =>
    have hc9 := t_F_needNation (I := I) ok hn e2
    refine y_cv ok hB (as := [.int (x1)]) (a := 0) (rest := []) rfl rfl rfl (by decide +kernel) hc9 (fun hB => ?_)
    refine z_aload hB rfl (fun hB => ?_)
    refine y_getm ok hB (by decide +kernel) hn.1 (fun hB => ?_)
    refine z_iload hB rfl (fun hB => ?_)
    obtain ⟨q5, e6, h⟩ := z_bind h
    refine y_cv ok hB (as := [.int (x1)]) (a := n) (rest := []) rfl rfl rfl hn.2 (t_L_canHandOver (I := I) ok hn.2 e6) (fun hB => ?_)
    obtain ⟨q7, e8, h⟩ := z_bind h
    cases q7 with
    | inl v9 =>
      have hc9 := t_F_needAllowed (I := I) ok e8
      cases h
      exact z_callSx hB (as := [.int (q5)]) (rest := []) rfl (by decide +kernel) rfl rfl hc9
    | inr v10 =>
      have hc9 := t_F_needAllowed (I := I) ok e8
      refine z_callS hB (as := [.int (q5)]) (rest := []) rfl rfl rfl hc9 (fun hB => ?_)
      refine z_aload hB rfl (fun hB => ?_)
      refine y_getr (b := 55) ok hB (by decide +kernel) (by decide +kernel) (fun hB => ?_)
      refine z_aload hB rfl (fun hB => ?_)
      refine y_getm ok hB (by decide +kernel) hn.1 (fun hB => ?_)
      refine y_getr (b := (n + 7)) ok hB hn.2 (zla_r1 hn.2) (fun hB => ?_)
      obtain ⟨q11, e12, h⟩ := z_bind h
      refine y_cv ok hB (as := [.ref ((n + 7))]) (a := 55) (rest := []) rfl rfl rfl (by decide +kernel) (t_H_keep (I := I) ok (zla_k1 hn.2) e12) (fun hB => ?_)
      refine z_aload hB rfl (fun hB => ?_)
      refine y_getm ok hB (by decide +kernel) hn.1 (fun hB => ?_)
      refine z_iload hB rfl (fun hB => ?_)
      obtain ⟨q13, e14, h⟩ := z_bind h
      refine y_cv ok hB (as := [.int (x1)]) (a := n) (rest := []) rfl rfl rfl hn.2 (t_L_handOverAll (I := q11) ok hn.2 e14) (fun hB => ?_)
      cases h
      exact z_reti hB
def d_F_pass (n : Nat) (x1 : Int32) (I : z_H) : Option ((Nat ⊕ Int32) × z_H) := ((d_F_needText I).bind fun q1 => (match q1 with | .inl v3 => some ((Sum.inl v3, I)) | .inr v4 => ((d_F_needRange (x1) ((jn 1)) ((jn 50))).bind fun q5 => (match q5 with | .inl v7 => some ((Sum.inl v7, I)) | .inr v8 => ((d_H_keep ((n + 7)) I).bind fun q9 => ((d_S_passHours (n + 7) (x1) q9).bind fun q11 => some ((Sum.inr (q11.1), q11.2))))))))
/-- FlagLaundry.pass(I)I -/
theorem t_F_pass {G : z_G} {w : ev_W} (ok : z_Ok G w) {n : Nat} {x1 : Int32} (hn : z_fc w n) {I : z_H} {r : (Nat ⊕ Int32) × z_H} (h : d_F_pass n x1 I = some r) : z_K G 134 [.ref (0), .int (x1)] (z_w w I) (z_o z_vi r.1) (z_ow (z_w w r.2) r.1) := by
  refine z_con ok.1 (ml := 2) (by decide +kernel) rfl rfl ?_
  show z_R G 134 0 [some (.ref (0)), some (.int (x1))] [] (z_w w I) (z_o z_vi r.1) (z_ow (z_w w r.2) r.1)
  unfold d_F_pass at h
  have hB : z_all [z_is 134 0 (zf_aload 0 0 1), z_is 134 1 (zf_cv 1 139 0 7 4), z_is 134 4 (zf_iload 4 1 5), z_is 134 5 (zf_cst 5 (jn 1) 6), z_is 134 6 (zf_cst 6 (jn 50) 8), z_is 134 8 (zf_cs 8 145 3 11), z_is 134 11 (zf_aload 11 0 12), z_is 134 12 (zf_getr 12 7 8 15), z_is 134 15 (zf_aload 15 0 16), z_is 134 16 (zf_getr 16 7 5 19), z_is 134 19 (zf_getr 19 2 1 22), z_is 134 22 (zf_cv 22 23 1 1 25), z_is 134 25 (zf_aload 25 0 26), z_is 134 26 (zf_getr 26 7 5 29), z_is 134 29 (zf_getr 29 2 1 32), z_is 134 32 (zf_iload 32 1 33), z_is 134 33 (zf_cv 33 98 1 5 36), z_is 134 36 (zf_ret 0)] = true := by decide +kernel
  refine z_aload hB rfl (fun hB => ?_)
  obtain ⟨q1, e2, h⟩ := z_bind h
  cases q1 with
  | inl v3 =>
    have hc9 := t_F_needText (I := I) ok e2
    cases h
    exact y_cvx ok hB (as := []) (a := 0) (rest := []) rfl (by decide +kernel) rfl rfl (by decide +kernel) hc9
  | inr v4 =>
    have hc9 := t_F_needText (I := I) ok e2
    refine y_cv ok hB (as := []) (a := 0) (rest := []) rfl rfl rfl (by decide +kernel) hc9 (fun hB => ?_)
    refine z_iload hB rfl (fun hB => ?_)
    refine z_cst hB (fun hB => ?_)
    refine z_cst hB (fun hB => ?_)
    obtain ⟨q5, e6, h⟩ := z_bind h
    cases q5 with
    | inl v7 =>
      have hc9 := t_F_needRange (I := I) ok e6
      cases h
      exact z_callSx hB (as := [.int (x1), .int ((jn 1)), .int ((jn 50))]) (rest := []) rfl (by decide +kernel) rfl rfl hc9
    | inr v8 =>
      have hc9 := t_F_needRange (I := I) ok e6
      refine z_callS hB (as := [.int (x1), .int ((jn 1)), .int ((jn 50))]) (rest := []) rfl rfl rfl hc9 (fun hB => ?_)
      refine z_aload hB rfl (fun hB => ?_)
      refine y_getr (b := 55) ok hB (by decide +kernel) (by decide +kernel) (fun hB => ?_)
      refine z_aload hB rfl (fun hB => ?_)
      refine y_getm ok hB (by decide +kernel) hn.1 (fun hB => ?_)
      refine y_getr (b := (n + 7)) ok hB hn.2 (zla_r1 hn.2) (fun hB => ?_)
      obtain ⟨q9, e10, h⟩ := z_bind h
      refine y_cv ok hB (as := [.ref ((n + 7))]) (a := 55) (rest := []) rfl rfl rfl (by decide +kernel) (t_H_keep (I := I) ok (zla_k1 hn.2) e10) (fun hB => ?_)
      refine z_aload hB rfl (fun hB => ?_)
      refine y_getm ok hB (by decide +kernel) hn.1 (fun hB => ?_)
      refine y_getr (b := (n + 7)) ok hB hn.2 (zla_r1 hn.2) (fun hB => ?_)
      refine z_iload hB rfl (fun hB => ?_)
      obtain ⟨q11, e12, h⟩ := z_bind h
      refine y_cv ok hB (as := [.int (x1)]) (a := (n + 7)) (rest := []) rfl rfl rfl (zla_k1 hn.2) (t_S_passHours (I := q9) ok (zla_k1 hn.2) e12) (fun hB => ?_)
      cases h
      exact z_reti hB
def d_F_setWind (n : Nat) (x1 : Int32) (I : z_H) : Option ((Nat ⊕ Int32) × z_H) := ((d_F_needText I).bind fun q1 => (match q1 with | .inl v3 => some ((Sum.inl v3, I)) | .inr v4 => ((d_F_needRange (x1) ((jn 0)) ((jn 9))).bind fun q5 => (match q5 with | .inl v7 => some ((Sum.inl v7, I)) | .inr v8 => ((d_H_keep ((n + 7)) I).bind fun q9 => some ((Sum.inr ((q9 (n + 7) 1)), (ev_u2 q9 (n + 7) 1 x1))))))))
/-- FlagLaundry.setWind(I)I -/
theorem t_F_setWind {G : z_G} {w : ev_W} (ok : z_Ok G w) {n : Nat} {x1 : Int32} (hn : z_fc w n) {I : z_H} {r : (Nat ⊕ Int32) × z_H} (h : d_F_setWind n x1 I = some r) : z_K G 135 [.ref (0), .int (x1)] (z_w w I) (z_o z_vi r.1) (z_ow (z_w w r.2) r.1) := by
  refine z_con ok.1 (ml := 3) (by decide +kernel) rfl rfl ?_
  show z_R G 135 0 [some (.ref (0)), some (.int (x1)), none] [] (z_w w I) (z_o z_vi r.1) (z_ow (z_w w r.2) r.1)
  unfold d_F_setWind at h
  have hB : z_all [z_is 135 0 (zf_aload 0 0 1), z_is 135 1 (zf_cv 1 139 0 7 4), z_is 135 4 (zf_iload 4 1 5), z_is 135 5 (zf_cst 5 (jn 0) 6), z_is 135 6 (zf_cst 6 (jn 9) 8), z_is 135 8 (zf_cs 8 145 3 11), z_is 135 11 (zf_aload 11 0 12), z_is 135 12 (zf_getr 12 7 8 15), z_is 135 15 (zf_aload 15 0 16), z_is 135 16 (zf_getr 16 7 5 19), z_is 135 19 (zf_getr 19 2 1 22), z_is 135 22 (zf_cv 22 23 1 1 25), z_is 135 25 (zf_aload 25 0 26), z_is 135 26 (zf_getr 26 7 5 29), z_is 135 29 (zf_getr 29 2 1 32), z_is 135 32 (zf_geti 32 5 1 35), z_is 135 35 (zf_istore 35 2 36), z_is 135 36 (zf_aload 36 0 37), z_is 135 37 (zf_getr 37 7 5 40), z_is 135 40 (zf_getr 40 2 1 43), z_is 135 43 (zf_iload 43 1 44), z_is 135 44 (zf_puti 44 5 1 47), z_is 135 47 (zf_iload 47 2 48), z_is 135 48 (zf_ret 0)] = true := by decide +kernel
  refine z_aload hB rfl (fun hB => ?_)
  obtain ⟨q1, e2, h⟩ := z_bind h
  cases q1 with
  | inl v3 =>
    have hc9 := t_F_needText (I := I) ok e2
    cases h
    exact y_cvx ok hB (as := []) (a := 0) (rest := []) rfl (by decide +kernel) rfl rfl (by decide +kernel) hc9
  | inr v4 =>
    have hc9 := t_F_needText (I := I) ok e2
    refine y_cv ok hB (as := []) (a := 0) (rest := []) rfl rfl rfl (by decide +kernel) hc9 (fun hB => ?_)
    refine z_iload hB rfl (fun hB => ?_)
    refine z_cst hB (fun hB => ?_)
    refine z_cst hB (fun hB => ?_)
    obtain ⟨q5, e6, h⟩ := z_bind h
    cases q5 with
    | inl v7 =>
      have hc9 := t_F_needRange (I := I) ok e6
      cases h
      exact z_callSx hB (as := [.int (x1), .int ((jn 0)), .int ((jn 9))]) (rest := []) rfl (by decide +kernel) rfl rfl hc9
    | inr v8 =>
      have hc9 := t_F_needRange (I := I) ok e6
      refine z_callS hB (as := [.int (x1), .int ((jn 0)), .int ((jn 9))]) (rest := []) rfl rfl rfl hc9 (fun hB => ?_)
      refine z_aload hB rfl (fun hB => ?_)
      refine y_getr (b := 55) ok hB (by decide +kernel) (by decide +kernel) (fun hB => ?_)
      refine z_aload hB rfl (fun hB => ?_)
      refine y_getm ok hB (by decide +kernel) hn.1 (fun hB => ?_)
      refine y_getr (b := (n + 7)) ok hB hn.2 (zla_r1 hn.2) (fun hB => ?_)
      obtain ⟨q9, e10, h⟩ := z_bind h
      refine y_cv ok hB (as := [.ref ((n + 7))]) (a := 55) (rest := []) rfl rfl rfl (by decide +kernel) (t_H_keep (I := I) ok (zla_k1 hn.2) e10) (fun hB => ?_)
      refine z_aload hB rfl (fun hB => ?_)
      refine y_getm ok hB (by decide +kernel) hn.1 (fun hB => ?_)
      refine y_getr (b := (n + 7)) ok hB hn.2 (zla_r1 hn.2) (fun hB => ?_)
      refine y_geti ok hB (zla_k1 hn.2) (fun hB => ?_)
      refine z_istore hB rfl rfl (fun hB => ?_)
      refine z_aload hB rfl (fun hB => ?_)
      refine y_getm ok hB (by decide +kernel) hn.1 (fun hB => ?_)
      refine y_getr (b := (n + 7)) ok hB hn.2 (zla_r1 hn.2) (fun hB => ?_)
      refine z_iload hB rfl (fun hB => ?_)
      refine y_puti ok hB (zla_k1 hn.2) (fun hB => ?_)
      refine z_iload hB rfl (fun hB => ?_)
      cases h
      exact z_reti hB
def d_F_undoable  (I : z_H) : Option (Int32) := some ((I 55 0))
/-- FlagLaundry.undoable()I -/
theorem t_F_undoable {G : z_G} {w : ev_W} (ok : z_Ok G w) {I : z_H} {r : Int32} (h : d_F_undoable I = some r) : z_K G 136 [.ref (0)] (z_w w I) (.inl (some (.int r))) (z_w w I) := by
  refine z_con ok.1 (ml := 1) (by decide +kernel) rfl rfl ?_
  show z_R G 136 0 [some (.ref (0))] [] (z_w w I) (.inl (some (.int r))) (z_w w I)
  unfold d_F_undoable at h
  have hB : z_all [z_is 136 0 (zf_aload 0 0 1), z_is 136 1 (zf_getr 1 7 8 4), z_is 136 4 (zf_geti 4 1 0 7), z_is 136 7 (zf_ret 0)] = true := by decide +kernel
  refine z_aload hB rfl (fun hB => ?_)
  refine y_getr (b := 55) ok hB (by decide +kernel) (by decide +kernel) (fun hB => ?_)
  refine y_geti ok hB (by decide +kernel) (fun hB => ?_)
  cases h
  exact z_reti hB
def d_F_needSlot (x1 : Int32) : Option (Nat ⊕ Unit) := (if x1 < jn 0 then some (Sum.inl 1) else (if x1 < (jn 2) then some (Sum.inr (())) else some (Sum.inl 1)))
/-- FlagLaundry.needSlot(I)V -/
theorem t_F_needSlot {G : z_G} {w : ev_W} (ok : z_Ok G w) {x1 : Int32} {I : z_H} {r : Nat ⊕ Unit} (h : d_F_needSlot x1 = some r) : z_K G 143 [.int (x1)] (z_w w I) (z_o z_vv r) (z_ow (z_w w I) r) := by
  refine z_con ok.1 (ml := 1) (by decide +kernel) rfl rfl ?_
  show z_R G 143 0 [some (.int (x1))] [] (z_w w I) (z_o z_vv r) (z_ow (z_w w I) r)
  unfold d_F_needSlot at h
  have hB : z_all [z_is 143 0 (zf_iload 0 0 1), z_is 143 1 (zf_if1 .lt 1 9 4)] = true := by decide +kernel
  refine z_iload hB rfl (fun hB => ?_)
  refine z_if_lt hB (fun hc _ => ?_) (fun hc _ => ?_)
  · have h := z_pos hc h
    have hB : z_all [z_thr 143 9 1] = true := by decide +kernel
    cases h
    exact z_throw hB
  · have h := z_neg hc h
    have hB : z_all [z_is 143 4 (zf_iload 4 0 5), z_is 143 5 (zf_cst 5 (jn 2) 6), z_is 143 6 (zf_if2 .lt 6 20 9)] = true := by decide +kernel
    refine z_iload hB rfl (fun hB => ?_)
    refine z_cst hB (fun hB => ?_)
    refine z_ic_lt hB (fun hc _ => ?_) (fun hc _ => ?_)
    · have h := z_pos hc h
      have hB : z_all [z_is 143 20 (zf_ret 6)] = true := by decide +kernel
      cases h
      exact z_retv hB
    · have h := z_neg hc h
      have hB : z_all [z_thr 143 9 1] = true := by decide +kernel
      cases h
      exact z_throw hB
def d_F_save (n : Nat) (x1 : Int32) (I : z_H) : Option ((Nat ⊕ Int32) × z_H) := ((d_F_needText I).bind fun q1 => (match q1 with | .inl v3 => some ((Sum.inl v3, I)) | .inr v4 => ((d_F_needSlot (x1)).bind fun q5 => (match q5 with | .inl v7 => some ((Sum.inl v7, I)) | .inr v8 => ((d_H_saveIn (x1) ((n + 7)) I).bind fun q9 => some ((Sum.inr ((q9 (n + 7) 0)), q9)))))))
/-- FlagLaundry.save(I)I -/
theorem t_F_save {G : z_G} {w : ev_W} (ok : z_Ok G w) {n : Nat} {x1 : Int32} (hn : z_fc w n) {I : z_H} {r : (Nat ⊕ Int32) × z_H} (h : d_F_save n x1 I = some r) : z_K G 137 [.ref (0), .int (x1)] (z_w w I) (z_o z_vi r.1) (z_ow (z_w w r.2) r.1) := by
  refine z_con ok.1 (ml := 2) (by decide +kernel) rfl rfl ?_
  show z_R G 137 0 [some (.ref (0)), some (.int (x1))] [] (z_w w I) (z_o z_vi r.1) (z_ow (z_w w r.2) r.1)
  unfold d_F_save at h
  have hB : z_all [z_is 137 0 (zf_aload 0 0 1), z_is 137 1 (zf_cv 1 139 0 7 4), z_is 137 4 (zf_iload 4 1 5), z_is 137 5 (zf_cs 5 143 1 8), z_is 137 8 (zf_aload 8 0 9), z_is 137 9 (zf_getr 9 7 8 12), z_is 137 12 (zf_iload 12 1 13), z_is 137 13 (zf_aload 13 0 14), z_is 137 14 (zf_getr 14 7 5 17), z_is 137 17 (zf_getr 17 2 1 20), z_is 137 20 (zf_cv 20 24 2 1 23), z_is 137 23 (zf_aload 23 0 24), z_is 137 24 (zf_getr 24 7 5 27), z_is 137 27 (zf_getr 27 2 1 30), z_is 137 30 (zf_geti 30 5 0 33), z_is 137 33 (zf_ret 0)] = true := by decide +kernel
  refine z_aload hB rfl (fun hB => ?_)
  obtain ⟨q1, e2, h⟩ := z_bind h
  cases q1 with
  | inl v3 =>
    have hc9 := t_F_needText (I := I) ok e2
    cases h
    exact y_cvx ok hB (as := []) (a := 0) (rest := []) rfl (by decide +kernel) rfl rfl (by decide +kernel) hc9
  | inr v4 =>
    have hc9 := t_F_needText (I := I) ok e2
    refine y_cv ok hB (as := []) (a := 0) (rest := []) rfl rfl rfl (by decide +kernel) hc9 (fun hB => ?_)
    refine z_iload hB rfl (fun hB => ?_)
    obtain ⟨q5, e6, h⟩ := z_bind h
    cases q5 with
    | inl v7 =>
      have hc9 := t_F_needSlot (I := I) ok e6
      cases h
      exact z_callSx hB (as := [.int (x1)]) (rest := []) rfl (by decide +kernel) rfl rfl hc9
    | inr v8 =>
      have hc9 := t_F_needSlot (I := I) ok e6
      refine z_callS hB (as := [.int (x1)]) (rest := []) rfl rfl rfl hc9 (fun hB => ?_)
      refine z_aload hB rfl (fun hB => ?_)
      refine y_getr (b := 55) ok hB (by decide +kernel) (by decide +kernel) (fun hB => ?_)
      refine z_iload hB rfl (fun hB => ?_)
      refine z_aload hB rfl (fun hB => ?_)
      refine y_getm ok hB (by decide +kernel) hn.1 (fun hB => ?_)
      refine y_getr (b := (n + 7)) ok hB hn.2 (zla_r1 hn.2) (fun hB => ?_)
      obtain ⟨q9, e10, h⟩ := z_bind h
      refine y_cv ok hB (as := [.int (x1), .ref ((n + 7))]) (a := 55) (rest := []) rfl rfl rfl (by decide +kernel) (t_H_saveIn (I := I) ok (zla_k1 hn.2) e10) (fun hB => ?_)
      refine z_aload hB rfl (fun hB => ?_)
      refine y_getm ok hB (by decide +kernel) hn.1 (fun hB => ?_)
      refine y_getr (b := (n + 7)) ok hB hn.2 (zla_r1 hn.2) (fun hB => ?_)
      refine y_geti ok hB (zla_k1 hn.2) (fun hB => ?_)
      cases h
      exact z_reti hB
def d_F_restore (n : Nat) (x1 : Int32) (I : z_H) : Option ((Nat ⊕ Int32) × z_H) := ((d_F_needSlot (x1)).bind fun q1 => (match q1 with | .inl v3 => some ((Sum.inl v3, I)) | .inr v4 => (if z_in (x1) 2 then (if (I 238 (z_n (x1))) = jn 0 then some ((Sum.inl 0, I)) else ((d_H_fetchFrom (x1) ((n + 7)) I).bind fun q6 => some ((Sum.inr ((q6 (n + 7) 0)), q6)))) else none)))
/-- FlagLaundry.restore(I)I -/
theorem t_F_restore {G : z_G} {w : ev_W} (ok : z_Ok G w) {n : Nat} {x1 : Int32} (hn : z_fc w n) {I : z_H} {r : (Nat ⊕ Int32) × z_H} (h : d_F_restore n x1 I = some r) : z_K G 138 [.ref (0), .int (x1)] (z_w w I) (z_o z_vi r.1) (z_ow (z_w w r.2) r.1) := by
  refine z_con ok.1 (ml := 2) (by decide +kernel) rfl rfl ?_
  show z_R G 138 0 [some (.ref (0)), some (.int (x1))] [] (z_w w I) (z_o z_vi r.1) (z_ow (z_w w r.2) r.1)
  unfold d_F_restore at h
  have hB : z_all [z_is 138 0 (zf_iload 0 1 1), z_is 138 1 (zf_cs 1 143 1 4), z_is 138 4 (zf_aload 4 0 5), z_is 138 5 (zf_getr 5 7 8 8), z_is 138 8 (zf_getr 8 1 1 11), z_is 138 11 (zf_iload 11 1 12), z_is 138 12 (zf_bald 12 13), z_is 138 13 (zf_if1 .ne 13 27 16)] = true := by decide +kernel
  refine z_iload hB rfl (fun hB => ?_)
  obtain ⟨q1, e2, h⟩ := z_bind h
  cases q1 with
  | inl v3 =>
    have hc9 := t_F_needSlot (I := I) ok e2
    cases h
    exact z_callSx hB (as := [.int (x1)]) (rest := []) rfl (by decide +kernel) rfl rfl hc9
  | inr v4 =>
    have hc9 := t_F_needSlot (I := I) ok e2
    refine z_callS hB (as := [.int (x1)]) (rest := []) rfl rfl rfl hc9 (fun hB => ?_)
    refine z_aload hB rfl (fun hB => ?_)
    refine y_getr (b := 55) ok hB (by decide +kernel) (by decide +kernel) (fun hB => ?_)
    refine y_getr (b := 238) ok hB (by decide +kernel) (by decide +kernel) (fun hB => ?_)
    refine z_iload hB rfl (fun hB => ?_)
    obtain ⟨g5, h⟩ := z_gd h
    refine y_zald ok hB (by decide +kernel) (by decide +kernel) g5 (fun hB => ?_)
    refine z_if_ne hB (fun hc _ => ?_) (fun hc _ => ?_)
    · have h := z_neg hc h
      have hB : z_all [z_is 138 27 (zf_aload 27 0 28), z_is 138 28 (zf_getr 28 7 8 31), z_is 138 31 (zf_iload 31 1 32), z_is 138 32 (zf_aload 32 0 33), z_is 138 33 (zf_getr 33 7 5 36), z_is 138 36 (zf_getr 36 2 1 39), z_is 138 39 (zf_cv 39 25 2 1 42), z_is 138 42 (zf_aload 42 0 43), z_is 138 43 (zf_getr 43 7 5 46), z_is 138 46 (zf_getr 46 2 1 49), z_is 138 49 (zf_geti 49 5 0 52), z_is 138 52 (zf_ret 0)] = true := by decide +kernel
      refine z_aload hB rfl (fun hB => ?_)
      refine y_getr (b := 55) ok hB (by decide +kernel) (by decide +kernel) (fun hB => ?_)
      refine z_iload hB rfl (fun hB => ?_)
      refine z_aload hB rfl (fun hB => ?_)
      refine y_getm ok hB (by decide +kernel) hn.1 (fun hB => ?_)
      refine y_getr (b := (n + 7)) ok hB hn.2 (zla_r1 hn.2) (fun hB => ?_)
      obtain ⟨q6, e7, h⟩ := z_bind h
      refine y_cv ok hB (as := [.int (x1), .ref ((n + 7))]) (a := 55) (rest := []) rfl rfl rfl (by decide +kernel) (t_H_fetchFrom (I := I) ok (zla_k1 hn.2) e7) (fun hB => ?_)
      refine z_aload hB rfl (fun hB => ?_)
      refine y_getm ok hB (by decide +kernel) hn.1 (fun hB => ?_)
      refine y_getr (b := (n + 7)) ok hB hn.2 (zla_r1 hn.2) (fun hB => ?_)
      refine y_geti ok hB (zla_k1 hn.2) (fun hB => ?_)
      cases h
      exact z_reti hB
    · have h := z_pos hc h
      have hB : z_all [z_thr 138 16 0] = true := by decide +kernel
      cases h
      exact z_throw hB
