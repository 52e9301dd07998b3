/-! texts of the methods, and that the bytecode does what they say: by wip/gen/zd.py -/
def d_T_add (x1 : Int32) (I : z_H) : Option (z_H) := (Option.bind (α := z_H) (if (I 239 0) < (jn 100) then (if z_in ((I 239 0)) 100 then some ((ev_u2 (ev_u2 I 240 (z_n ((I 239 0))) x1) 239 0 (((ev_u2 I 240 (z_n ((I 239 0))) x1) 239 0) + (jn 1)))) else none) else some (I)) fun q1 => some (q1))
/-- Text.add(I)V -/
theorem t_T_add {G : z_G} {w : ev_W} (ok : z_Ok G w) {x1 : Int32} {I : z_H} {r : z_H} (h : d_T_add x1 I = some r) : z_K G 121 [.ref (239), .int (x1)] (z_w w I) (.inl none) (z_w w r) := by
  refine z_con ok.1 (ml := 2) (by decide +kernel) rfl rfl ?_
  show z_R G 121 0 [some (.ref (239)), some (.int (x1))] [] (z_w w I) (.inl none) (z_w w r)
  unfold d_T_add at h
  have hB : z_all [z_is 121 0 (zf_aload 0 0 1), z_is 121 1 (zf_geti 1 6 0 4), z_is 121 4 (zf_cst 4 (jn 100) 6), z_is 121 6 (zf_if2 .ge 6 29 9)] = true := by decide +kernel
  refine z_aload hB rfl (fun hB => ?_)
  refine y_geti ok hB (by decide +kernel) (fun hB => ?_)
  refine z_cst hB (fun hB => ?_)
  obtain ⟨q1, e2, h⟩ := z_bind h
  have k3 : z_R G 121 29 [none, none] [] (z_w w q1) (.inl none) (z_w w r) := by
    have hB : z_all [z_is 121 29 (zf_ret 6)] = true := by decide +kernel
    cases h
    exact z_retv hB
  have h := e2
  refine z_ic_ge hB (fun hc _ => ?_) (fun hc _ => ?_)
  · have h := z_neg hc h
    cases h
    exact z_weak k3 (z_sn (z_sn z_s0))
  · have h := z_pos hc h
    have hB : z_all [z_is 121 9 (zf_aload 9 0 10), z_is 121 10 (zf_getr 10 6 1 13), z_is 121 13 (zf_aload 13 0 14), z_is 121 14 (zf_geti 14 6 0 17), z_is 121 17 (zf_iload 17 1 18), z_is 121 18 (zf_iast 18 19), z_is 121 19 (zf_aload 19 0 20), z_is 121 20 (zf_dupr 20 21), z_is 121 21 (zf_geti 21 6 0 24), z_is 121 24 (zf_cst 24 (jn 1) 25), z_is 121 25 (zf_iadd 25 26), z_is 121 26 (zf_puti 26 6 0 29)] = true := by decide +kernel
    refine z_aload hB rfl (fun hB => ?_)
    refine y_getr (b := 240) ok hB (by decide +kernel) (by decide +kernel) (fun hB => ?_)
    refine z_aload hB rfl (fun hB => ?_)
    refine y_geti ok hB (by decide +kernel) (fun hB => ?_)
    refine z_iload hB rfl (fun hB => ?_)
    obtain ⟨g4, h⟩ := z_gd h
    refine y_iast ok hB (by decide +kernel) (by decide +kernel) g4 (fun hB => ?_)
    refine z_aload hB rfl (fun hB => ?_)
    refine z_dupr hB (fun hB => ?_)
    refine y_geti ok hB (by decide +kernel) (fun hB => ?_)
    refine z_cst hB (fun hB => ?_)
    refine z_iadd hB (fun hB => ?_)
    refine y_puti ok hB (by decide +kernel) (fun hB => ?_)
    cases h
    exact z_weak k3 (z_sn (z_sn z_s0))
def d_T_addNumber (x1 : Int32) (I : z_H) : Option (z_H) := (Option.bind (α := z_H) (if x1 < (jn 10) then some (I) else ((d_T_add (((jn 48) + (x1 / (jn 10)))) I).bind fun q6 => some (q6))) fun q1 => ((d_T_add (((jn 48) + (x1 - x1 / (jn 10) * (jn 10)))) q1).bind fun q4 => some (q4)))
/-- Text.addNumber(I)V -/
theorem t_T_addNumber {G : z_G} {w : ev_W} (ok : z_Ok G w) {x1 : Int32} {I : z_H} {r : z_H} (h : d_T_addNumber x1 I = some r) : z_K G 122 [.ref (239), .int (x1)] (z_w w I) (.inl none) (z_w w r) := by
  refine z_con ok.1 (ml := 2) (by decide +kernel) rfl rfl ?_
  show z_R G 122 0 [some (.ref (239)), some (.int (x1))] [] (z_w w I) (.inl none) (z_w w r)
  unfold d_T_addNumber at h
  have hB : z_all [z_is 122 0 (zf_iload 0 1 1), z_is 122 1 (zf_cst 1 (jn 10) 3), z_is 122 3 (zf_if2 .lt 3 17 6)] = true := by decide +kernel
  refine z_iload hB rfl (fun hB => ?_)
  refine z_cst hB (fun hB => ?_)
  obtain ⟨q1, e2, h⟩ := z_bind h
  have k3 : z_R G 122 17 [some (.ref (239)), some (.int (x1))] [] (z_w w q1) (.inl none) (z_w w r) := by
    have hB : z_all [z_is 122 17 (zf_aload 17 0 18), z_is 122 18 (zf_cst 18 (jn 48) 20), z_is 122 20 (zf_iload 20 1 21), z_is 122 21 (zf_cst 21 (jn 10) 23), z_is 122 23 (zf_irem 23 24), z_is 122 24 (zf_iadd 24 25), z_is 122 25 (zf_cv 25 121 1 6 28), z_is 122 28 (zf_ret 6)] = true := by decide +kernel
    refine z_aload hB rfl (fun hB => ?_)
    refine z_cst hB (fun hB => ?_)
    refine z_iload hB rfl (fun hB => ?_)
    refine z_cst hB (fun hB => ?_)
    refine z_irem hB (by decide) (fun hB => ?_)
    refine z_iadd hB (fun hB => ?_)
    obtain ⟨q4, e5, h⟩ := z_bind h
    refine y_cv ok hB (as := [.int (((jn 48) + (x1 - x1 / (jn 10) * (jn 10))))]) (a := 239) (rest := []) rfl rfl rfl (by decide +kernel) (t_T_add (I := q1) ok e5) (fun hB => ?_)
    cases h
    exact z_retv hB
  have h := e2
  refine z_ic_lt hB (fun hc _ => ?_) (fun hc _ => ?_)
  · have h := z_pos hc h
    cases h
    exact z_weak k3 (z_se (z_se z_s0))
  · have h := z_neg hc h
    have hB : z_all [z_is 122 6 (zf_aload 6 0 7), z_is 122 7 (zf_cst 7 (jn 48) 9), z_is 122 9 (zf_iload 9 1 10), z_is 122 10 (zf_cst 10 (jn 10) 12), z_is 122 12 (zf_idiv 12 13), z_is 122 13 (zf_iadd 13 14), z_is 122 14 (zf_cv 14 121 1 6 17)] = true := by decide +kernel
    refine z_aload hB rfl (fun hB => ?_)
    refine z_cst hB (fun hB => ?_)
    refine z_iload hB rfl (fun hB => ?_)
    refine z_cst hB (fun hB => ?_)
    refine z_idiv hB (by decide) (fun hB => ?_)
    refine z_iadd hB (fun hB => ?_)
    obtain ⟨q6, e7, h⟩ := z_bind h
    refine y_cv ok hB (as := [.int (((jn 48) + (x1 / (jn 10))))]) (a := 239) (rest := []) rfl rfl rfl (by decide +kernel) (t_T_add (I := I) ok e7) (fun hB => ?_)
    cases h
    exact z_weak k3 (z_se (z_se z_s0))
def d_T_addBetween (x1 : Int32) (I : z_H) : Option (z_H) := (Option.bind (α := z_H) (if jn 0 < (I 239 0) then ((d_T_add (x1) I).bind fun q4 => some (q4)) else some (I)) fun q1 => some (q1))
/-- Text.addBetween(I)V -/
theorem t_T_addBetween {G : z_G} {w : ev_W} (ok : z_Ok G w) {x1 : Int32} {I : z_H} {r : z_H} (h : d_T_addBetween x1 I = some r) : z_K G 123 [.ref (239), .int (x1)] (z_w w I) (.inl none) (z_w w r) := by
  refine z_con ok.1 (ml := 2) (by decide +kernel) rfl rfl ?_
  show z_R G 123 0 [some (.ref (239)), some (.int (x1))] [] (z_w w I) (.inl none) (z_w w r)
  unfold d_T_addBetween at h
  have hB : z_all [z_is 123 0 (zf_aload 0 0 1), z_is 123 1 (zf_geti 1 6 0 4), z_is 123 4 (zf_if1 .le 4 12 7)] = true := by decide +kernel
  refine z_aload hB rfl (fun hB => ?_)
  refine y_geti ok hB (by decide +kernel) (fun hB => ?_)
  obtain ⟨q1, e2, h⟩ := z_bind h
  have k3 : z_R G 123 12 [none, none] [] (z_w w q1) (.inl none) (z_w w r) := by
    have hB : z_all [z_is 123 12 (zf_ret 6)] = true := by decide +kernel
    cases h
    exact z_retv hB
  have h := e2
  refine z_if_le hB (fun hc _ => ?_) (fun hc _ => ?_)
  · have h := z_neg hc h
    cases h
    exact z_weak k3 (z_sn (z_sn z_s0))
  · have h := z_pos hc h
    have hB : z_all [z_is 123 7 (zf_aload 7 0 8), z_is 123 8 (zf_iload 8 1 9), z_is 123 9 (zf_cv 9 121 1 6 12)] = true := by decide +kernel
    refine z_aload hB rfl (fun hB => ?_)
    refine z_iload hB rfl (fun hB => ?_)
    obtain ⟨q4, e5, h⟩ := z_bind h
    refine y_cv ok hB (as := [.int (x1)]) (a := 239) (rest := []) rfl rfl rfl (by decide +kernel) (t_T_add (I := I) ok e5) (fun hB => ?_)
    cases h
    exact z_weak k3 (z_sn (z_sn z_s0))
def d_T_addHyphenIfEmpty  (I : z_H) : Option (z_H) := (Option.bind (α := z_H) (if (I 239 0) = jn 0 then ((d_T_add ((jn 45)) I).bind fun q4 => some (q4)) else some (I)) fun q1 => some (q1))
/-- Text.addHyphenIfEmpty()V -/
theorem t_T_addHyphenIfEmpty {G : z_G} {w : ev_W} (ok : z_Ok G w) {I : z_H} {r : z_H} (h : d_T_addHyphenIfEmpty I = some r) : z_K G 124 [.ref (239)] (z_w w I) (.inl none) (z_w w r) := by
  refine z_con ok.1 (ml := 1) (by decide +kernel) rfl rfl ?_
  show z_R G 124 0 [some (.ref (239))] [] (z_w w I) (.inl none) (z_w w r)
  unfold d_T_addHyphenIfEmpty at h
  have hB : z_all [z_is 124 0 (zf_aload 0 0 1), z_is 124 1 (zf_geti 1 6 0 4), z_is 124 4 (zf_if1 .ne 4 13 7)] = true := by decide +kernel
  refine z_aload hB rfl (fun hB => ?_)
  refine y_geti ok hB (by decide +kernel) (fun hB => ?_)
  obtain ⟨q1, e2, h⟩ := z_bind h
  have k3 : z_R G 124 13 [none] [] (z_w w q1) (.inl none) (z_w w r) := by
    have hB : z_all [z_is 124 13 (zf_ret 6)] = true := by decide +kernel
    cases h
    exact z_retv hB
  have h := e2
  refine z_if_ne hB (fun hc _ => ?_) (fun hc _ => ?_)
  · have h := z_neg hc h
    cases h
    exact z_weak k3 (z_sn z_s0)
  · have h := z_pos hc h
    have hB : z_all [z_is 124 7 (zf_aload 7 0 8), z_is 124 8 (zf_cst 8 (jn 45) 10), z_is 124 10 (zf_cv 10 121 1 6 13)] = true := by decide +kernel
    refine z_aload hB rfl (fun hB => ?_)
    refine z_cst hB (fun hB => ?_)
    obtain ⟨q4, e5, h⟩ := z_bind h
    refine y_cv ok hB (as := [.int ((jn 45))]) (a := 239) (rest := []) rfl rfl rfl (by decide +kernel) (t_T_add (I := I) ok e5) (fun hB => ?_)
    cases h
    exact z_weak k3 (z_sn z_s0)
def d_T_letterOf (x1 : Int32) : Option (Int32) := (if x1 = jn 0 then some ((jn 98)) else (if x1 = jn 1 then some ((jn 116)) else (if x1 = jn 2 then some ((jn 108)) else some ((jn 103)))))
/-- Text.letterOf(I)C -/
theorem t_T_letterOf {G : z_G} {w : ev_W} (ok : z_Ok G w) {x1 : Int32} {I : z_H} {r : Int32} (h : d_T_letterOf x1 = some r) : z_K G 125 [.int (x1)] (z_w w I) (.inl (some (.int r))) (z_w w I) := by
  refine z_con ok.1 (ml := 1) (by decide +kernel) rfl rfl ?_
  show z_R G 125 0 [some (.int (x1))] [] (z_w w I) (.inl (some (.int r))) (z_w w I)
  unfold d_T_letterOf at h
  have hB : z_all [z_is 125 0 (zf_iload 0 0 1), z_is 125 1 (zf_tsw 1 0 [(jn 0, 28), (jn 1, 31), (jn 2, 34)] 37)] = true := by decide +kernel
  refine z_iload hB rfl (fun hB => ?_)
  refine z_tsw hB ?_
  refine (Decidable.em (x1 = jn 0)).elim (fun hc => ?_) (fun hc => ?_)
  · have h := z_pos hc h
    rw [z_sw_p hc]
    have hB : z_all [z_is 125 28 (zf_cst 28 (jn 98) 30), z_is 125 30 (zf_ret 2)] = true := by decide +kernel
    refine z_cst hB (fun hB => ?_)
    cases h
    exact z_retc hB (by decide)
  · have h := z_neg hc h
    rw [z_sw_n hc]
    refine (Decidable.em (x1 = jn 1)).elim (fun hc => ?_) (fun hc => ?_)
    · have h := z_pos hc h
      rw [z_sw_p hc]
      have hB : z_all [z_is 125 31 (zf_cst 31 (jn 116) 33), z_is 125 33 (zf_ret 2)] = true := by decide +kernel
      refine z_cst hB (fun hB => ?_)
      cases h
      exact z_retc hB (by decide)
    · have h := z_neg hc h
      rw [z_sw_n hc]
      refine (Decidable.em (x1 = jn 2)).elim (fun hc => ?_) (fun hc => ?_)
      · have h := z_pos hc h
        rw [z_sw_p hc]
        have hB : z_all [z_is 125 34 (zf_cst 34 (jn 108) 36), z_is 125 36 (zf_ret 2)] = true := by decide +kernel
        refine z_cst hB (fun hB => ?_)
        cases h
        exact z_retc hB (by decide)
      · have h := z_neg hc h
        rw [z_sw_n hc]
        show z_R G 125 37 _ _ _ _ _
        have hB : z_all [z_is 125 37 (zf_cst 37 (jn 103) 39), z_is 125 39 (zf_ret 2)] = true := by decide +kernel
        refine z_cst hB (fun hB => ?_)
        cases h
        exact z_retc hB (by decide)
def d_T_tellFlag_12 (r1 : Nat) (p11 : Int32 × z_H) : Option ((Int32 × z_H) ⊕ (Int32 × z_H)) := (if p11.1 < (jn 6) then (Option.bind (α := z_H) (if (((p11.2 r1 6) >>> (p11.1 &&& 31)) &&& (jn 1)) = jn 0 then some (p11.2) else ((d_T_add ((jn 43)) p11.2).bind fun q19 => ((d_T_addNumber (p11.1) q19).bind fun q21 => some (q21)))) fun q16 => some (Sum.inl ((p11.1 + (jn 1)), q16))) else some (Sum.inr (p11.1, p11.2)))
def d_T_tellFlag (r1 : Nat) (I : z_H) : Option (z_H) := ((d_T_letterOf (((ev_u2 I 239 0 (jn 0)) r1 8))).bind fun q1 => ((d_T_add (q1) (ev_u2 I 239 0 (jn 0))).bind fun q3 => ((d_T_addNumber ((q3 r1 3)) q3).bind fun q5 => ((d_T_addNumber ((q5 r1 4)) q5).bind fun q7 => ((d_T_addNumber ((q7 r1 5)) q7).bind fun q9 => ((z_it (d_T_tellFlag_12 r1) z_F ((jn 0), q9)).bind fun q13 => some (q13.2)))))))
/-- Text.tellFlag(LFlagLaundry$Flag;)V -/
theorem t_T_tellFlag {G : z_G} {w : ev_W} (ok : z_Ok G w) {r1 : Nat} (hr1 : zt 0 r1 = true) {I : z_H} {r : z_H} (h : d_T_tellFlag r1 I = some r) : z_K G 126 [.ref (239), .ref (r1)] (z_w w I) (.inl none) (z_w w r) := by
  refine z_con ok.1 (ml := 3) (by decide +kernel) rfl rfl ?_
  show z_R G 126 0 [some (.ref (239)), some (.ref (r1)), none] [] (z_w w I) (.inl none) (z_w w r)
  unfold d_T_tellFlag at h
  have hB : z_all [z_is 126 0 (zf_aload 0 0 1), z_is 126 1 (zf_cst 1 (jn 0) 2), z_is 126 2 (zf_puti 2 6 0 5), z_is 126 5 (zf_aload 5 0 6), z_is 126 6 (zf_aload 6 1 7), z_is 126 7 (zf_geti 7 0 8 10), z_is 126 10 (zf_cs 10 125 1 13), z_is 126 13 (zf_cv 13 121 1 6 16), z_is 126 16 (zf_aload 16 0 17), z_is 126 17 (zf_aload 17 1 18), z_is 126 18 (zf_geti 18 0 3 21), z_is 126 21 (zf_cv 21 122 1 6 24), z_is 126 24 (zf_aload 24 0 25), z_is 126 25 (zf_aload 25 1 26), z_is 126 26 (zf_geti 26 0 4 29), z_is 126 29 (zf_cv 29 122 1 6 32), z_is 126 32 (zf_aload 32 0 33), z_is 126 33 (zf_aload 33 1 34), z_is 126 34 (zf_geti 34 0 5 37), z_is 126 37 (zf_cv 37 122 1 6 40), z_is 126 40 (zf_cst 40 (jn 0) 41), z_is 126 41 (zf_istore 41 2 42)] = true := by decide +kernel
  refine z_aload hB rfl (fun hB => ?_)
  refine z_cst hB (fun hB => ?_)
  refine y_puti ok hB (by decide +kernel) (fun hB => ?_)
  refine z_aload hB rfl (fun hB => ?_)
  refine z_aload hB rfl (fun hB => ?_)
  refine y_geti ok hB hr1 (fun hB => ?_)
  obtain ⟨q1, e2, h⟩ := z_bind h
  refine z_callS hB (as := [.int (((ev_u2 I 239 0 (jn 0)) r1 8))]) (rest := [.ref (239)]) rfl rfl rfl (t_T_letterOf (I := (ev_u2 I 239 0 (jn 0))) ok e2) (fun hB => ?_)
  obtain ⟨q3, e4, h⟩ := z_bind h
  refine y_cv ok hB (as := [.int (q1)]) (a := 239) (rest := []) rfl rfl rfl (by decide +kernel) (t_T_add (I := (ev_u2 I 239 0 (jn 0))) ok e4) (fun hB => ?_)
  refine z_aload hB rfl (fun hB => ?_)
  refine z_aload hB rfl (fun hB => ?_)
  refine y_geti ok hB hr1 (fun hB => ?_)
  obtain ⟨q5, e6, h⟩ := z_bind h
  refine y_cv ok hB (as := [.int ((q3 r1 3))]) (a := 239) (rest := []) rfl rfl rfl (by decide +kernel) (t_T_addNumber (I := q3) ok e6) (fun hB => ?_)
  refine z_aload hB rfl (fun hB => ?_)
  refine z_aload hB rfl (fun hB => ?_)
  refine y_geti ok hB hr1 (fun hB => ?_)
  obtain ⟨q7, e8, h⟩ := z_bind h
  refine y_cv ok hB (as := [.int ((q5 r1 4))]) (a := 239) (rest := []) rfl rfl rfl (by decide +kernel) (t_T_addNumber (I := q5) ok e8) (fun hB => ?_)
  refine z_aload hB rfl (fun hB => ?_)
  refine z_aload hB rfl (fun hB => ?_)
  refine y_geti ok hB hr1 (fun hB => ?_)
  obtain ⟨q9, e10, h⟩ := z_bind h
  refine y_cv ok hB (as := [.int ((q7 r1 5))]) (a := 239) (rest := []) rfl rfl rfl (by decide +kernel) (t_T_addNumber (I := q7) ok e10) (fun hB => ?_)
  refine z_cst hB (fun hB => ?_)
  refine z_istore hB rfl rfl (fun hB => ?_)
  obtain ⟨q13, e14, h⟩ := z_bind h
  have k15 : z_R G 126 76 [none, none, none] [] (z_w w q13.2) (.inl none) (z_w w r) := by
    have hB : z_all [z_is 126 76 (zf_ret 6)] = true := by decide +kernel
    cases h
    exact z_retv hB
  have l12 : ∀ (m12 : Nat) (p11 : Int32 × z_H), z_it (d_T_tellFlag_12 r1) m12 p11 = some q13 → z_R G 126 42 [some (.ref (239)), some (.ref (r1)), some (.int (p11.1))] [] (z_w w p11.2) (.inl none) (z_w w r) := by
    intro m12
    induction m12 with
    | zero => intro p11 h; cases h
    | succ m12 i12 =>
      intro p11 h
      obtain ⟨u12, h, b12⟩ := z_it_o h
      unfold d_T_tellFlag_12 at h
      have hB : z_all [z_is 126 42 (zf_iload 42 2 43), z_is 126 43 (zf_cst 43 (jn 6) 45), z_is 126 45 (zf_if2 .ge 45 76 48)] = true := by decide +kernel
      refine z_iload hB rfl (fun hB => ?_)
      refine z_cst hB (fun hB => ?_)
      refine z_ic_ge hB (fun hc _ => ?_) (fun hc _ => ?_)
      · have h := z_neg hc h
        cases h
        cases b12
        exact z_weak k15 (z_sn (z_sn (z_sn z_s0)))
      · have h := z_pos hc h
        have hB : z_all [z_is 126 48 (zf_aload 48 1 49), z_is 126 49 (zf_geti 49 0 6 52), z_is 126 52 (zf_iload 52 2 53), z_is 126 53 (zf_ishr 53 54), z_is 126 54 (zf_cst 54 (jn 1) 55), z_is 126 55 (zf_iand 55 56), z_is 126 56 (zf_if1 .eq 56 70 59)] = true := by decide +kernel
        refine z_aload hB rfl (fun hB => ?_)
        refine y_geti ok hB hr1 (fun hB => ?_)
        refine z_iload hB rfl (fun hB => ?_)
        refine z_ishr hB (fun hB => ?_)
        refine z_cst hB (fun hB => ?_)
        refine z_iand hB (fun hB => ?_)
        obtain ⟨q16, e17, h⟩ := z_bind h
        have k18 : z_R G 126 70 [some (.ref (239)), some (.ref (r1)), some (.int (p11.1))] [] (z_w w q16) (.inl none) (z_w w r) := by
          have hB : z_all [z_is 126 70 (zf_iinc 70 2 (jn 1) 73), z_is 126 73 (zf_goto 73 42)] = true := by decide +kernel
          refine z_iinc hB rfl rfl (fun hB => ?_)
          refine z_goto hB (fun hB => ?_)
          cases h
          exact z_weak (i12 ((p11.1 + (jn 1)), q16) b12) (z_se (z_se (z_se z_s0)))
        have h := e17
        refine z_if_eq hB (fun hc _ => ?_) (fun hc _ => ?_)
        · have h := z_pos hc h
          cases h
          exact z_weak k18 (z_se (z_se (z_se z_s0)))
        · have h := z_neg hc h
          have hB : z_all [z_is 126 59 (zf_aload 59 0 60), z_is 126 60 (zf_cst 60 (jn 43) 62), z_is 126 62 (zf_cv 62 121 1 6 65), z_is 126 65 (zf_aload 65 0 66), z_is 126 66 (zf_iload 66 2 67), z_is 126 67 (zf_cv 67 122 1 6 70)] = true := by decide +kernel
          refine z_aload hB rfl (fun hB => ?_)
          refine z_cst hB (fun hB => ?_)
          obtain ⟨q19, e20, h⟩ := z_bind h
          refine y_cv ok hB (as := [.int ((jn 43))]) (a := 239) (rest := []) rfl rfl rfl (by decide +kernel) (t_T_add (I := p11.2) ok e20) (fun hB => ?_)
          refine z_aload hB rfl (fun hB => ?_)
          refine z_iload hB rfl (fun hB => ?_)
          obtain ⟨q21, e22, h⟩ := z_bind h
          refine y_cv ok hB (as := [.int (p11.1)]) (a := 239) (rest := []) rfl rfl rfl (by decide +kernel) (t_T_addNumber (I := q19) ok e22) (fun hB => ?_)
          cases h
          exact z_weak k18 (z_se (z_se (z_se z_s0)))
  exact z_weak (l12 _ ((jn 0), q9) e14) (z_se (z_se (z_se z_s0)))
def d_T_tellTub_2 (r1 : Nat) (x2 : Int32) (p1 : Int32 × z_H) : Option ((Int32 × z_H) ⊕ (Int32 × z_H)) := (if z_in (x2) 3 then (if p1.1 < (p1.2 (r1 + 14) (z_n (x2))) then ((d_T_addBetween ((jn 44)) p1.2).bind fun q9 => ((d_S_flagInTub r1 (x2) (p1.1) q9).bind fun q11 => ((d_T_addNumber (q11) q9).bind fun q13 => some (Sum.inl ((p1.1 + (jn 1)), q13))))) else some (Sum.inr (p1.1, p1.2))) else none)
def d_T_tellTub (r1 : Nat) (x2 : Int32) (I : z_H) : Option (z_H) := ((z_it (d_T_tellTub_2 r1 x2) z_F ((jn 0), (ev_u2 I 239 0 (jn 0)))).bind fun q3 => ((d_T_addHyphenIfEmpty q3.2).bind fun q6 => some (q6)))
/-- Text.tellTub(LFlagLaundry$State;I)V -/
theorem t_T_tellTub {G : z_G} {w : ev_W} (ok : z_Ok G w) {r1 : Nat} {x2 : Int32} (hr1 : zt 5 r1 = true) {I : z_H} {r : z_H} (h : d_T_tellTub r1 x2 I = some r) : z_K G 127 [.ref (239), .ref (r1), .int (x2)] (z_w w I) (.inl none) (z_w w r) := by
  refine z_con ok.1 (ml := 4) (by decide +kernel) rfl rfl ?_
  show z_R G 127 0 [some (.ref (239)), some (.ref (r1)), some (.int (x2)), none] [] (z_w w I) (.inl none) (z_w w r)
  unfold d_T_tellTub at h
  have hB : z_all [z_is 127 0 (zf_aload 0 0 1), z_is 127 1 (zf_cst 1 (jn 0) 2), z_is 127 2 (zf_puti 2 6 0 5), z_is 127 5 (zf_cst 5 (jn 0) 6), z_is 127 6 (zf_istore 6 3 7)] = true := by decide +kernel
  refine z_aload hB rfl (fun hB => ?_)
  refine z_cst hB (fun hB => ?_)
  refine y_puti ok hB (by decide +kernel) (fun hB => ?_)
  refine z_cst hB (fun hB => ?_)
  refine z_istore hB rfl rfl (fun hB => ?_)
  obtain ⟨q3, e4, h⟩ := z_bind h
  have k5 : z_R G 127 39 [some (.ref (239)), none, none, none] [] (z_w w q3.2) (.inl none) (z_w w r) := by
    have hB : z_all [z_is 127 39 (zf_aload 39 0 40), z_is 127 40 (zf_cv 40 124 0 6 43), z_is 127 43 (zf_ret 6)] = true := by decide +kernel
    refine z_aload hB rfl (fun hB => ?_)
    obtain ⟨q6, e7, h⟩ := z_bind h
    refine y_cv ok hB (as := []) (a := 239) (rest := []) rfl rfl rfl (by decide +kernel) (t_T_addHyphenIfEmpty (I := q3.2) ok e7) (fun hB => ?_)
    cases h
    exact z_retv hB
  have l2 : ∀ (m2 : Nat) (p1 : Int32 × z_H), z_it (d_T_tellTub_2 r1 x2) m2 p1 = some q3 → z_R G 127 7 [some (.ref (239)), some (.ref (r1)), some (.int (x2)), some (.int (p1.1))] [] (z_w w p1.2) (.inl none) (z_w w r) := by
    intro m2
    induction m2 with
    | zero => intro p1 h; cases h
    | succ m2 i2 =>
      intro p1 h
      obtain ⟨u2, h, b2⟩ := z_it_o h
      unfold d_T_tellTub_2 at h
      have hB : z_all [z_is 127 7 (zf_iload 7 3 8), z_is 127 8 (zf_aload 8 1 9), z_is 127 9 (zf_getr 9 5 8 12), z_is 127 12 (zf_iload 12 2 13), z_is 127 13 (zf_iald 13 14), z_is 127 14 (zf_if2 .ge 14 39 17)] = true := by decide +kernel
      refine z_iload hB rfl (fun hB => ?_)
      refine z_aload hB rfl (fun hB => ?_)
      refine y_getr (b := (r1 + 14)) ok hB hr1 (zst_r8 hr1) (fun hB => ?_)
      refine z_iload hB rfl (fun hB => ?_)
      obtain ⟨g8, h⟩ := z_gd h
      refine y_iald ok hB (zst_k14 hr1) (zst_l14 hr1) g8 (fun hB => ?_)
      refine z_ic_ge hB (fun hc _ => ?_) (fun hc _ => ?_)
      · have h := z_neg hc h
        cases h
        cases b2
        exact z_weak k5 (z_se (z_sn (z_sn (z_sn z_s0))))
      · have h := z_pos hc h
        have hB : z_all [z_is 127 17 (zf_aload 17 0 18), z_is 127 18 (zf_cst 18 (jn 44) 20), z_is 127 20 (zf_cv 20 123 1 6 23), z_is 127 23 (zf_aload 23 0 24), z_is 127 24 (zf_aload 24 1 25), z_is 127 25 (zf_iload 25 2 26), z_is 127 26 (zf_iload 26 3 27), z_is 127 27 (zf_cv 27 97 2 5 30), z_is 127 30 (zf_cv 30 122 1 6 33), z_is 127 33 (zf_iinc 33 3 (jn 1) 36), z_is 127 36 (zf_goto 36 7)] = true := by decide +kernel
        refine z_aload hB rfl (fun hB => ?_)
        refine z_cst hB (fun hB => ?_)
        obtain ⟨q9, e10, h⟩ := z_bind h
        refine y_cv ok hB (as := [.int ((jn 44))]) (a := 239) (rest := []) rfl rfl rfl (by decide +kernel) (t_T_addBetween (I := p1.2) ok e10) (fun hB => ?_)
        refine z_aload hB rfl (fun hB => ?_)
        refine z_aload hB rfl (fun hB => ?_)
        refine z_iload hB rfl (fun hB => ?_)
        refine z_iload hB rfl (fun hB => ?_)
        obtain ⟨q11, e12, h⟩ := z_bind h
        refine y_cv ok hB (as := [.int (x2), .int (p1.1)]) (a := r1) (rest := [.ref (239)]) rfl rfl rfl hr1 (t_S_flagInTub (I := q9) ok hr1 e12) (fun hB => ?_)
        obtain ⟨q13, e14, h⟩ := z_bind h
        refine y_cv ok hB (as := [.int (q11)]) (a := 239) (rest := []) rfl rfl rfl (by decide +kernel) (t_T_addNumber (I := q9) ok e14) (fun hB => ?_)
        refine z_iinc hB rfl rfl (fun hB => ?_)
        refine z_goto hB (fun hB => ?_)
        cases h
        exact z_weak (i2 ((p1.1 + (jn 1)), q13) b2) (z_se (z_se (z_se (z_se z_s0))))
  exact z_weak (l2 _ ((jn 0), (ev_u2 I 239 0 (jn 0))) e4) (z_se (z_se (z_se (z_se z_s0))))
def d_T_tellNation_2 (r1 : Nat) (x2 : Int32) (p1 : Int32 × z_H) : Option ((Int32 × z_H) ⊕ (Int32 × z_H)) := (if p1.1 < (p1.2 r1 6) then (if z_in (p1.1) 12 then (Option.bind (α := z_H) (if (p1.2 (r1 + 2 + z_n (p1.1)) 0) = x2 then ((d_T_addBetween ((jn 32)) p1.2).bind fun q12 => ((d_T_addNumber (p1.1) q12).bind fun q14 => ((d_T_add ((jn 58)) q14).bind fun q16 => (if z_in (p1.1) 12 then ((d_G_firstReason (r1 + 2 + z_n (p1.1)) q16).bind fun q19 => ((d_T_addNumber (q19) q16).bind fun q21 => some (q21))) else none)))) else some (p1.2)) fun q9 => some (Sum.inl ((p1.1 + (jn 1)), q9))) else none) else some (Sum.inr (p1.1, p1.2)))
def d_T_tellNation (r1 : Nat) (x2 : Int32) (I : z_H) : Option (z_H) := ((z_it (d_T_tellNation_2 r1 x2) z_F ((jn 0), (ev_u2 I 239 0 (jn 0)))).bind fun q3 => ((d_T_addHyphenIfEmpty q3.2).bind fun q6 => some (q6)))
/-- Text.tellNation(LFlagLaundry$State;I)V -/
theorem t_T_tellNation {G : z_G} {w : ev_W} (ok : z_Ok G w) {r1 : Nat} {x2 : Int32} (hr1 : zt 5 r1 = true) {I : z_H} {r : z_H} (h : d_T_tellNation r1 x2 I = some r) : z_K G 128 [.ref (239), .ref (r1), .int (x2)] (z_w w I) (.inl none) (z_w w r) := by
  refine z_con ok.1 (ml := 4) (by decide +kernel) rfl rfl ?_
  show z_R G 128 0 [some (.ref (239)), some (.ref (r1)), some (.int (x2)), none] [] (z_w w I) (.inl none) (z_w w r)
  unfold d_T_tellNation at h
  have hB : z_all [z_is 128 0 (zf_aload 0 0 1), z_is 128 1 (zf_cst 1 (jn 0) 2), z_is 128 2 (zf_puti 2 6 0 5), z_is 128 5 (zf_cst 5 (jn 0) 6), z_is 128 6 (zf_istore 6 3 7)] = true := by decide +kernel
  refine z_aload hB rfl (fun hB => ?_)
  refine z_cst hB (fun hB => ?_)
  refine y_puti ok hB (by decide +kernel) (fun hB => ?_)
  refine z_cst hB (fun hB => ?_)
  refine z_istore hB rfl rfl (fun hB => ?_)
  obtain ⟨q3, e4, h⟩ := z_bind h
  have k5 : z_R G 128 64 [some (.ref (239)), none, none, none] [] (z_w w q3.2) (.inl none) (z_w w r) := by
    have hB : z_all [z_is 128 64 (zf_aload 64 0 65), z_is 128 65 (zf_cv 65 124 0 6 68), z_is 128 68 (zf_ret 6)] = true := by decide +kernel
    refine z_aload hB rfl (fun hB => ?_)
    obtain ⟨q6, e7, h⟩ := z_bind h
    refine y_cv ok hB (as := []) (a := 239) (rest := []) rfl rfl rfl (by decide +kernel) (t_T_addHyphenIfEmpty (I := q3.2) ok e7) (fun hB => ?_)
    cases h
    exact z_retv hB
  have l2 : ∀ (m2 : Nat) (p1 : Int32 × z_H), z_it (d_T_tellNation_2 r1 x2) m2 p1 = some q3 → z_R G 128 7 [some (.ref (239)), some (.ref (r1)), some (.int (x2)), some (.int (p1.1))] [] (z_w w p1.2) (.inl none) (z_w w r) := by
    intro m2
    induction m2 with
    | zero => intro p1 h; cases h
    | succ m2 i2 =>
      intro p1 h
      obtain ⟨u2, h, b2⟩ := z_it_o h
      unfold d_T_tellNation_2 at h
      have hB : z_all [z_is 128 7 (zf_iload 7 3 8), z_is 128 8 (zf_aload 8 1 9), z_is 128 9 (zf_geti 9 5 6 12), z_is 128 12 (zf_if2 .ge 12 64 15)] = true := by decide +kernel
      refine z_iload hB rfl (fun hB => ?_)
      refine z_aload hB rfl (fun hB => ?_)
      refine y_geti ok hB hr1 (fun hB => ?_)
      refine z_ic_ge hB (fun hc _ => ?_) (fun hc _ => ?_)
      · have h := z_neg hc h
        cases h
        cases b2
        exact z_weak k5 (z_se (z_sn (z_sn (z_sn z_s0))))
      · have h := z_pos hc h
        have hB : z_all [z_is 128 15 (zf_aload 15 1 16), z_is 128 16 (zf_getr 16 5 7 19), z_is 128 19 (zf_iload 19 3 20), z_is 128 20 (zf_aald 20 21), z_is 128 21 (zf_geti 21 0 0 24), z_is 128 24 (zf_iload 24 2 25), z_is 128 25 (zf_if2 .ne 25 58 28)] = true := by decide +kernel
        refine z_aload hB rfl (fun hB => ?_)
        refine y_getr (b := (r1 + 1)) ok hB hr1 (zst_r7 hr1) (fun hB => ?_)
        refine z_iload hB rfl (fun hB => ?_)
        obtain ⟨g8, h⟩ := z_gd h
        refine y_fald ok hB (zst_k1 hr1) (zst_l1 hr1) g8 (zst_fR hr1 g8) (fun hB => ?_)
        refine y_geti ok hB (zst_fK hr1 g8) (fun hB => ?_)
        refine z_iload hB rfl (fun hB => ?_)
        obtain ⟨q9, e10, h⟩ := z_bind h
        have k11 : z_R G 128 58 [some (.ref (239)), some (.ref (r1)), some (.int (x2)), some (.int (p1.1))] [] (z_w w q9) (.inl none) (z_w w r) := by
          have hB : z_all [z_is 128 58 (zf_iinc 58 3 (jn 1) 61), z_is 128 61 (zf_goto 61 7)] = true := by decide +kernel
          refine z_iinc hB rfl rfl (fun hB => ?_)
          refine z_goto hB (fun hB => ?_)
          cases h
          exact z_weak (i2 ((p1.1 + (jn 1)), q9) b2) (z_se (z_se (z_se (z_se z_s0))))
        have h := e10
        refine z_ic_ne hB (fun hc _ => ?_) (fun hc _ => ?_)
        · have h := z_neg hc h
          cases h
          exact z_weak k11 (z_se (z_se (z_se (z_se z_s0))))
        · have h := z_pos hc h
          have hB : z_all [z_is 128 28 (zf_aload 28 0 29), z_is 128 29 (zf_cst 29 (jn 32) 31), z_is 128 31 (zf_cv 31 123 1 6 34), z_is 128 34 (zf_aload 34 0 35), z_is 128 35 (zf_iload 35 3 36), z_is 128 36 (zf_cv 36 122 1 6 39), z_is 128 39 (zf_aload 39 0 40), z_is 128 40 (zf_cst 40 (jn 58) 42), z_is 128 42 (zf_cv 42 121 1 6 45), z_is 128 45 (zf_aload 45 0 46), z_is 128 46 (zf_aload 46 1 47), z_is 128 47 (zf_getr 47 5 7 50), z_is 128 50 (zf_iload 50 3 51), z_is 128 51 (zf_aald 51 52), z_is 128 52 (zf_cv 52 5 0 0 55), z_is 128 55 (zf_cv 55 122 1 6 58)] = true := by decide +kernel
          refine z_aload hB rfl (fun hB => ?_)
          refine z_cst hB (fun hB => ?_)
          obtain ⟨q12, e13, h⟩ := z_bind h
          refine y_cv ok hB (as := [.int ((jn 32))]) (a := 239) (rest := []) rfl rfl rfl (by decide +kernel) (t_T_addBetween (I := p1.2) ok e13) (fun hB => ?_)
          refine z_aload hB rfl (fun hB => ?_)
          refine z_iload hB rfl (fun hB => ?_)
          obtain ⟨q14, e15, h⟩ := z_bind h
          refine y_cv ok hB (as := [.int (p1.1)]) (a := 239) (rest := []) rfl rfl rfl (by decide +kernel) (t_T_addNumber (I := q12) ok e15) (fun hB => ?_)
          refine z_aload hB rfl (fun hB => ?_)
          refine z_cst hB (fun hB => ?_)
          obtain ⟨q16, e17, h⟩ := z_bind h
          refine y_cv ok hB (as := [.int ((jn 58))]) (a := 239) (rest := []) rfl rfl rfl (by decide +kernel) (t_T_add (I := q14) ok e17) (fun hB => ?_)
          refine z_aload hB rfl (fun hB => ?_)
          refine z_aload hB rfl (fun hB => ?_)
          refine y_getr (b := (r1 + 1)) ok hB hr1 (zst_r7 hr1) (fun hB => ?_)
          refine z_iload hB rfl (fun hB => ?_)
          obtain ⟨g18, h⟩ := z_gd h
          refine y_fald ok hB (zst_k1 hr1) (zst_l1 hr1) g18 (zst_fR hr1 g18) (fun hB => ?_)
          obtain ⟨q19, e20, h⟩ := z_bind h
          refine y_cv ok hB (as := []) (a := (r1 + 2 + z_n (p1.1))) (rest := [.ref (239)]) rfl rfl rfl (zst_fK hr1 g18) (t_G_firstReason (I := q16) ok (zst_fK hr1 g18) e20) (fun hB => ?_)
          obtain ⟨q21, e22, h⟩ := z_bind h
          refine y_cv ok hB (as := [.int (q19)]) (a := 239) (rest := []) rfl rfl rfl (by decide +kernel) (t_T_addNumber (I := q16) ok e22) (fun hB => ?_)
          cases h
          exact z_weak k11 (z_se (z_se (z_se (z_se z_s0))))
  exact z_weak (l2 _ ((jn 0), (ev_u2 I 239 0 (jn 0))) e4) (z_se (z_se (z_se (z_se z_s0))))
def d_T_tellLine_2 (r1 : Nat) (x2 : Int32) (p1 : Int32 × z_H) : Option ((Int32 × z_H) ⊕ (Int32 × z_H)) := (if p1.1 < x2 then ((d_T_addBetween ((jn 47)) p1.2).bind fun q6 => (if z_in (p1.1) 8 then (Option.bind (α := z_H) (if (q6 (r1 + 16) (z_n (p1.1))) = (jg 1) then ((d_T_add ((jn 46)) q6).bind fun q15 => some (q15)) else (if z_in (p1.1) 8 then ((d_T_addNumber ((q6 (r1 + 16) (z_n (p1.1)))) q6).bind fun q13 => some (q13)) else none)) fun q9 => some (Sum.inl ((p1.1 + (jn 1)), q9))) else none)) else some (Sum.inr (p1.1, p1.2)))
def d_T_tellLine (r1 : Nat) (x2 : Int32) (I : z_H) : Option (z_H) := ((z_it (d_T_tellLine_2 r1 x2) z_F ((jn 0), (ev_u2 I 239 0 (jn 0)))).bind fun q3 => some (q3.2))
/-- Text.tellLine(LFlagLaundry$State;I)V -/
theorem t_T_tellLine {G : z_G} {w : ev_W} (ok : z_Ok G w) {r1 : Nat} {x2 : Int32} (hr1 : zt 5 r1 = true) {I : z_H} {r : z_H} (h : d_T_tellLine r1 x2 I = some r) : z_K G 129 [.ref (239), .ref (r1), .int (x2)] (z_w w I) (.inl none) (z_w w r) := by
  refine z_con ok.1 (ml := 4) (by decide +kernel) rfl rfl ?_
  show z_R G 129 0 [some (.ref (239)), some (.ref (r1)), some (.int (x2)), none] [] (z_w w I) (.inl none) (z_w w r)
  unfold d_T_tellLine at h
  have hB : z_all [z_is 129 0 (zf_aload 0 0 1), z_is 129 1 (zf_cst 1 (jn 0) 2), z_is 129 2 (zf_puti 2 6 0 5), z_is 129 5 (zf_cst 5 (jn 0) 6), z_is 129 6 (zf_istore 6 3 7)] = true := by decide +kernel
  refine z_aload hB rfl (fun hB => ?_)
  refine z_cst hB (fun hB => ?_)
  refine y_puti ok hB (by decide +kernel) (fun hB => ?_)
  refine z_cst hB (fun hB => ?_)
  refine z_istore hB rfl rfl (fun hB => ?_)
  obtain ⟨q3, e4, h⟩ := z_bind h
  have k5 : z_R G 129 53 [none, none, none, none] [] (z_w w q3.2) (.inl none) (z_w w r) := by
    have hB : z_all [z_is 129 53 (zf_ret 6)] = true := by decide +kernel
    cases h
    exact z_retv hB
  have l2 : ∀ (m2 : Nat) (p1 : Int32 × z_H), z_it (d_T_tellLine_2 r1 x2) m2 p1 = some q3 → z_R G 129 7 [some (.ref (239)), some (.ref (r1)), some (.int (x2)), some (.int (p1.1))] [] (z_w w p1.2) (.inl none) (z_w w r) := by
    intro m2
    induction m2 with
    | zero => intro p1 h; cases h
    | succ m2 i2 =>
      intro p1 h
      obtain ⟨u2, h, b2⟩ := z_it_o h
      unfold d_T_tellLine_2 at h
      have hB : z_all [z_is 129 7 (zf_iload 7 3 8), z_is 129 8 (zf_iload 8 2 9), z_is 129 9 (zf_if2 .ge 9 53 12)] = true := by decide +kernel
      refine z_iload hB rfl (fun hB => ?_)
      refine z_iload hB rfl (fun hB => ?_)
      refine z_ic_ge hB (fun hc _ => ?_) (fun hc _ => ?_)
      · have h := z_neg hc h
        cases h
        cases b2
        exact z_weak k5 (z_sn (z_sn (z_sn (z_sn z_s0))))
      · have h := z_pos hc h
        have hB : z_all [z_is 129 12 (zf_aload 12 0 13), z_is 129 13 (zf_cst 13 (jn 47) 15), z_is 129 15 (zf_cv 15 123 1 6 18), z_is 129 18 (zf_aload 18 1 19), z_is 129 19 (zf_getr 19 5 10 22), z_is 129 22 (zf_iload 22 3 23), z_is 129 23 (zf_iald 23 24), z_is 129 24 (zf_cst 24 (jg 1) 25), z_is 129 25 (zf_if2 .ne 25 37 28)] = true := by decide +kernel
        refine z_aload hB rfl (fun hB => ?_)
        refine z_cst hB (fun hB => ?_)
        obtain ⟨q6, e7, h⟩ := z_bind h
        refine y_cv ok hB (as := [.int ((jn 47))]) (a := 239) (rest := []) rfl rfl rfl (by decide +kernel) (t_T_addBetween (I := p1.2) ok e7) (fun hB => ?_)
        refine z_aload hB rfl (fun hB => ?_)
        refine y_getr (b := (r1 + 16)) ok hB hr1 (zst_r10 hr1) (fun hB => ?_)
        refine z_iload hB rfl (fun hB => ?_)
        obtain ⟨g8, h⟩ := z_gd h
        refine y_iald ok hB (zst_k16 hr1) (zst_l16 hr1) g8 (fun hB => ?_)
        refine z_cst hB (fun hB => ?_)
        obtain ⟨q9, e10, h⟩ := z_bind h
        have k11 : z_R G 129 47 [some (.ref (239)), some (.ref (r1)), some (.int (x2)), some (.int (p1.1))] [] (z_w w q9) (.inl none) (z_w w r) := by
          have hB : z_all [z_is 129 47 (zf_iinc 47 3 (jn 1) 50), z_is 129 50 (zf_goto 50 7)] = true := by decide +kernel
          refine z_iinc hB rfl rfl (fun hB => ?_)
          refine z_goto hB (fun hB => ?_)
          cases h
          exact z_weak (i2 ((p1.1 + (jn 1)), q9) b2) (z_se (z_se (z_se (z_se z_s0))))
        have h := e10
        refine z_ic_ne hB (fun hc _ => ?_) (fun hc _ => ?_)
        · have h := z_neg hc h
          have hB : z_all [z_is 129 37 (zf_aload 37 0 38), z_is 129 38 (zf_aload 38 1 39), z_is 129 39 (zf_getr 39 5 10 42), z_is 129 42 (zf_iload 42 3 43), z_is 129 43 (zf_iald 43 44), z_is 129 44 (zf_cv 44 122 1 6 47)] = true := by decide +kernel
          refine z_aload hB rfl (fun hB => ?_)
          refine z_aload hB rfl (fun hB => ?_)
          refine y_getr (b := (r1 + 16)) ok hB hr1 (zst_r10 hr1) (fun hB => ?_)
          refine z_iload hB rfl (fun hB => ?_)
          obtain ⟨g12, h⟩ := z_gd h
          refine y_iald ok hB (zst_k16 hr1) (zst_l16 hr1) g12 (fun hB => ?_)
          obtain ⟨q13, e14, h⟩ := z_bind h
          refine y_cv ok hB (as := [.int ((q6 (r1 + 16) (z_n (p1.1))))]) (a := 239) (rest := []) rfl rfl rfl (by decide +kernel) (t_T_addNumber (I := q6) ok e14) (fun hB => ?_)
          cases h
          exact z_weak k11 (z_se (z_se (z_se (z_se z_s0))))
        · have h := z_pos hc h
          have hB : z_all [z_is 129 28 (zf_aload 28 0 29), z_is 129 29 (zf_cst 29 (jn 46) 31), z_is 129 31 (zf_cv 31 121 1 6 34), z_is 129 34 (zf_goto 34 47)] = true := by decide +kernel
          refine z_aload hB rfl (fun hB => ?_)
          refine z_cst hB (fun hB => ?_)
          obtain ⟨q15, e16, h⟩ := z_bind h
          refine y_cv ok hB (as := [.int ((jn 46))]) (a := 239) (rest := []) rfl rfl rfl (by decide +kernel) (t_T_add (I := q6) ok e16) (fun hB => ?_)
          refine z_goto hB (fun hB => ?_)
          cases h
          exact z_weak k11 (z_se (z_se (z_se (z_se z_s0))))
  exact z_weak (l2 _ ((jn 0), (ev_u2 I 239 0 (jn 0))) e4) (z_se (z_se (z_se (z_se z_s0))))
