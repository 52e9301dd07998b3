/-! texts of the methods, and that the bytecode does what they say: by wip/gen/zd.py -/
def d_P_failed  (I : z_H) : Option (Int32) := (Option.bind (α := Int32) (if (I 54 0) = jn 0 then some ((jn 0)) else some ((jn 1))) fun q1 => (if (q1) = jn 0 ∨ (q1) = jn 1 then some (q1) else none))
/-- Parser.failed()Z -/
theorem t_P_failed {G : z_G} {w : ev_W} (ok : z_Ok G w) {I : z_H} {r : Int32} (h : d_P_failed I = some r) : z_K G 64 [.ref (54)] (z_w w I) (.inl (some (.int r))) (z_w w I) := by
  refine z_con ok.1 (ml := 1) (by decide +kernel) rfl rfl ?_
  show z_R G 64 0 [some (.ref (54))] [] (z_w w I) (.inl (some (.int r))) (z_w w I)
  unfold d_P_failed at h
  have hB : z_all [z_is 64 0 (zf_aload 0 0 1), z_is 64 1 (zf_geti 1 3 0 4), z_is 64 4 (zf_if1 .eq 4 11 7)] = true := by decide +kernel
  refine z_aload hB rfl (fun hB => ?_)
  refine y_geti ok hB (by decide +kernel) (fun hB => ?_)
  obtain ⟨q1, e2, h⟩ := z_bind h
  have k3 : z_R G 64 12 [none] [.int (q1)] (z_w w I) (.inl (some (.int r))) (z_w w I) := by
    have hB : z_all [z_is 64 12 (zf_ret 1)] = true := by decide +kernel
    obtain ⟨g4, h⟩ := z_gd h
    cases h
    exact z_retz hB g4
  have h := e2
  refine z_if_eq hB (fun hc _ => ?_) (fun hc _ => ?_)
  · have h := z_pos hc h
    have hB : z_all [z_is 64 11 (zf_cst 11 (jn 0) 12)] = true := by decide +kernel
    refine z_cst hB (fun hB => ?_)
    cases h
    exact z_weak k3 (z_sn z_s0)
  · have h := z_neg hc h
    have hB : z_all [z_is 64 7 (zf_cst 7 (jn 1) 8), z_is 64 8 (zf_goto 8 12)] = true := by decide +kernel
    refine z_cst hB (fun hB => ?_)
    refine z_goto hB (fun hB => ?_)
    cases h
    exact z_weak k3 (z_sn z_s0)
def d_P_fail (x1 : Int32) (I : z_H) : Option (z_H) := (Option.bind (α := z_H) (if (I 54 0) = jn 0 then some ((ev_u2 (ev_u2 I 54 0 x1) 54 1 ((ev_u2 I 54 0 x1) 54 6))) else some (I)) fun q1 => some (q1))
/-- Parser.fail(I)V -/
theorem t_P_fail {G : z_G} {w : ev_W} (ok : z_Ok G w) {x1 : Int32} {I : z_H} {r : z_H} (h : d_P_fail x1 I = some r) : z_K G 65 [.ref (54), .int (x1)] (z_w w I) (.inl none) (z_w w r) := by
  refine z_con ok.1 (ml := 2) (by decide +kernel) rfl rfl ?_
  show z_R G 65 0 [some (.ref (54)), some (.int (x1))] [] (z_w w I) (.inl none) (z_w w r)
  unfold d_P_fail at h
  have hB : z_all [z_is 65 0 (zf_aload 0 0 1), z_is 65 1 (zf_geti 1 3 0 4), z_is 65 4 (zf_if1 .ne 4 20 7)] = true := by decide +kernel
  refine z_aload hB rfl (fun hB => ?_)
  refine y_geti ok hB (by decide +kernel) (fun hB => ?_)
  obtain ⟨q1, e2, h⟩ := z_bind h
  have k3 : z_R G 65 20 [none, none] [] (z_w w q1) (.inl none) (z_w w r) := by
    have hB : z_all [z_is 65 20 (zf_ret 6)] = true := by decide +kernel
    cases h
    exact z_retv hB
  have h := e2
  refine z_if_ne hB (fun hc _ => ?_) (fun hc _ => ?_)
  · have h := z_neg hc h
    cases h
    exact z_weak k3 (z_sn (z_sn z_s0))
  · have h := z_pos hc h
    have hB : z_all [z_is 65 7 (zf_aload 7 0 8), z_is 65 8 (zf_iload 8 1 9), z_is 65 9 (zf_puti 9 3 0 12), z_is 65 12 (zf_aload 12 0 13), z_is 65 13 (zf_aload 13 0 14), z_is 65 14 (zf_geti 14 3 6 17), z_is 65 17 (zf_puti 17 3 1 20)] = true := by decide +kernel
    refine z_aload hB rfl (fun hB => ?_)
    refine z_iload hB rfl (fun hB => ?_)
    refine y_puti ok hB (by decide +kernel) (fun hB => ?_)
    refine z_aload hB rfl (fun hB => ?_)
    refine z_aload hB rfl (fun hB => ?_)
    refine y_geti ok hB (by decide +kernel) (fun hB => ?_)
    refine y_puti ok hB (by decide +kernel) (fun hB => ?_)
    cases h
    exact z_weak k3 (z_sn (z_sn z_s0))
def d_P_isLetterAt (a : Nat) (x1 : Int32) (I : z_H) : Option (Int32) := (Option.bind (α := Int32) (if x1 < (I 54 3) then (if z_in (x1) 500 then (if (I 1 (z_n (x1))) < (jn 97) then some ((jn 0)) else (if z_in (x1) 500 then (if (jn 122) < (I 1 (z_n (x1))) then some ((jn 0)) else some ((jn 1))) else none)) else none) else some ((jn 0))) fun q1 => (if (q1) = jn 0 ∨ (q1) = jn 1 then some (q1) else none))
/-- Parser.isLetterAt(I)Z -/
theorem t_P_isLetterAt {G : z_G} {w : ev_W} (ok : z_Ok G w) {a : Nat} {x1 : Int32} (ha : z_pc w a) {I : z_H} {r : Int32} (h : d_P_isLetterAt a x1 I = some r) : z_K G 66 [.ref (54), .int (x1)] (z_w w I) (.inl (some (.int r))) (z_w w I) := by
  refine z_con ok.1 (ml := 2) (by decide +kernel) rfl rfl ?_
  show z_R G 66 0 [some (.ref (54)), some (.int (x1))] [] (z_w w I) (.inl (some (.int r))) (z_w w I)
  unfold d_P_isLetterAt at h
  have hB : z_all [z_is 66 0 (zf_iload 0 1 1), z_is 66 1 (zf_aload 1 0 2), z_is 66 2 (zf_geti 2 3 3 5), z_is 66 5 (zf_if2 .ge 5 34 8)] = true := by decide +kernel
  refine z_iload hB rfl (fun hB => ?_)
  refine z_aload hB rfl (fun hB => ?_)
  refine y_geti ok hB (by decide +kernel) (fun hB => ?_)
  obtain ⟨q1, e2, h⟩ := z_bind h
  have k3 : z_R G 66 35 [none, none] [.int (q1)] (z_w w I) (.inl (some (.int r))) (z_w w I) := by
    have hB : z_all [z_is 66 35 (zf_ret 1)] = true := by decide +kernel
    obtain ⟨g4, h⟩ := z_gd h
    cases h
    exact z_retz hB g4
  have h := e2
  refine z_ic_ge hB (fun hc _ => ?_) (fun hc _ => ?_)
  · have h := z_neg hc h
    have hB : z_all [z_is 66 34 (zf_cst 34 (jn 0) 35)] = true := by decide +kernel
    refine z_cst hB (fun hB => ?_)
    cases h
    exact z_weak k3 (z_sn (z_sn z_s0))
  · have h := z_pos hc h
    have hB : z_all [z_is 66 8 (zf_aload 8 0 9), z_is 66 9 (zf_getr 9 3 2 12), z_is 66 12 (zf_iload 12 1 13), z_is 66 13 (zf_bald 13 14), z_is 66 14 (zf_cst 14 (jn 97) 16), z_is 66 16 (zf_if2 .lt 16 34 19)] = true := by decide +kernel
    refine z_aload hB rfl (fun hB => ?_)
    refine y_getm ok hB (by decide +kernel) ha.1 (fun hB => ?_)
    refine z_iload hB rfl (fun hB => ?_)
    obtain ⟨g5, h⟩ := z_gd h
    refine y_bald ok hB (by decide +kernel) (by decide +kernel) g5 (fun hB => ?_)
    refine z_cst hB (fun hB => ?_)
    refine z_ic_lt hB (fun hc _ => ?_) (fun hc _ => ?_)
    · have h := z_pos hc h
      have hB : z_all [z_is 66 34 (zf_cst 34 (jn 0) 35)] = true := by decide +kernel
      refine z_cst hB (fun hB => ?_)
      cases h
      exact z_weak k3 (z_sn (z_sn z_s0))
    · have h := z_neg hc h
      have hB : z_all [z_is 66 19 (zf_aload 19 0 20), z_is 66 20 (zf_getr 20 3 2 23), z_is 66 23 (zf_iload 23 1 24), z_is 66 24 (zf_bald 24 25), z_is 66 25 (zf_cst 25 (jn 122) 27), z_is 66 27 (zf_if2 .gt 27 34 30)] = true := by decide +kernel
      refine z_aload hB rfl (fun hB => ?_)
      refine y_getm ok hB (by decide +kernel) ha.1 (fun hB => ?_)
      refine z_iload hB rfl (fun hB => ?_)
      obtain ⟨g6, h⟩ := z_gd h
      refine y_bald ok hB (by decide +kernel) (by decide +kernel) g6 (fun hB => ?_)
      refine z_cst hB (fun hB => ?_)
      refine z_ic_gt hB (fun hc _ => ?_) (fun hc _ => ?_)
      · have h := z_pos hc h
        have hB : z_all [z_is 66 34 (zf_cst 34 (jn 0) 35)] = true := by decide +kernel
        refine z_cst hB (fun hB => ?_)
        cases h
        exact z_weak k3 (z_sn (z_sn z_s0))
      · have h := z_neg hc h
        have hB : z_all [z_is 66 30 (zf_cst 30 (jn 1) 31), z_is 66 31 (zf_goto 31 35)] = true := by decide +kernel
        refine z_cst hB (fun hB => ?_)
        refine z_goto hB (fun hB => ?_)
        cases h
        exact z_weak k3 (z_sn (z_sn z_s0))
def d_P_isDigitAt (a : Nat) (x1 : Int32) (I : z_H) : Option (Int32) := (Option.bind (α := Int32) (if x1 < (I 54 3) then (if z_in (x1) 500 then (if (I 1 (z_n (x1))) < (jn 48) then some ((jn 0)) else (if z_in (x1) 500 then (if (jn 57) < (I 1 (z_n (x1))) then some ((jn 0)) else some ((jn 1))) else none)) else none) else some ((jn 0))) fun q1 => (if (q1) = jn 0 ∨ (q1) = jn 1 then some (q1) else none))
/-- Parser.isDigitAt(I)Z -/
theorem t_P_isDigitAt {G : z_G} {w : ev_W} (ok : z_Ok G w) {a : Nat} {x1 : Int32} (ha : z_pc w a) {I : z_H} {r : Int32} (h : d_P_isDigitAt a x1 I = some r) : z_K G 67 [.ref (54), .int (x1)] (z_w w I) (.inl (some (.int r))) (z_w w I) := by
  refine z_con ok.1 (ml := 2) (by decide +kernel) rfl rfl ?_
  show z_R G 67 0 [some (.ref (54)), some (.int (x1))] [] (z_w w I) (.inl (some (.int r))) (z_w w I)
  unfold d_P_isDigitAt at h
  have hB : z_all [z_is 67 0 (zf_iload 0 1 1), z_is 67 1 (zf_aload 1 0 2), z_is 67 2 (zf_geti 2 3 3 5), z_is 67 5 (zf_if2 .ge 5 34 8)] = true := by decide +kernel
  refine z_iload hB rfl (fun hB => ?_)
  refine z_aload hB rfl (fun hB => ?_)
  refine y_geti ok hB (by decide +kernel) (fun hB => ?_)
  obtain ⟨q1, e2, h⟩ := z_bind h
  have k3 : z_R G 67 35 [none, none] [.int (q1)] (z_w w I) (.inl (some (.int r))) (z_w w I) := by
    have hB : z_all [z_is 67 35 (zf_ret 1)] = true := by decide +kernel
    obtain ⟨g4, h⟩ := z_gd h
    cases h
    exact z_retz hB g4
  have h := e2
  refine z_ic_ge hB (fun hc _ => ?_) (fun hc _ => ?_)
  · have h := z_neg hc h
    have hB : z_all [z_is 67 34 (zf_cst 34 (jn 0) 35)] = true := by decide +kernel
    refine z_cst hB (fun hB => ?_)
    cases h
    exact z_weak k3 (z_sn (z_sn z_s0))
  · have h := z_pos hc h
    have hB : z_all [z_is 67 8 (zf_aload 8 0 9), z_is 67 9 (zf_getr 9 3 2 12), z_is 67 12 (zf_iload 12 1 13), z_is 67 13 (zf_bald 13 14), z_is 67 14 (zf_cst 14 (jn 48) 16), z_is 67 16 (zf_if2 .lt 16 34 19)] = true := by decide +kernel
    refine z_aload hB rfl (fun hB => ?_)
    refine y_getm ok hB (by decide +kernel) ha.1 (fun hB => ?_)
    refine z_iload hB rfl (fun hB => ?_)
    obtain ⟨g5, h⟩ := z_gd h
    refine y_bald ok hB (by decide +kernel) (by decide +kernel) g5 (fun hB => ?_)
    refine z_cst hB (fun hB => ?_)
    refine z_ic_lt hB (fun hc _ => ?_) (fun hc _ => ?_)
    · have h := z_pos hc h
      have hB : z_all [z_is 67 34 (zf_cst 34 (jn 0) 35)] = true := by decide +kernel
      refine z_cst hB (fun hB => ?_)
      cases h
      exact z_weak k3 (z_sn (z_sn z_s0))
    · have h := z_neg hc h
      have hB : z_all [z_is 67 19 (zf_aload 19 0 20), z_is 67 20 (zf_getr 20 3 2 23), z_is 67 23 (zf_iload 23 1 24), z_is 67 24 (zf_bald 24 25), z_is 67 25 (zf_cst 25 (jn 57) 27), z_is 67 27 (zf_if2 .gt 27 34 30)] = true := by decide +kernel
      refine z_aload hB rfl (fun hB => ?_)
      refine y_getm ok hB (by decide +kernel) ha.1 (fun hB => ?_)
      refine z_iload hB rfl (fun hB => ?_)
      obtain ⟨g6, h⟩ := z_gd h
      refine y_bald ok hB (by decide +kernel) (by decide +kernel) g6 (fun hB => ?_)
      refine z_cst hB (fun hB => ?_)
      refine z_ic_gt hB (fun hc _ => ?_) (fun hc _ => ?_)
      · have h := z_pos hc h
        have hB : z_all [z_is 67 34 (zf_cst 34 (jn 0) 35)] = true := by decide +kernel
        refine z_cst hB (fun hB => ?_)
        cases h
        exact z_weak k3 (z_sn (z_sn z_s0))
      · have h := z_neg hc h
        have hB : z_all [z_is 67 30 (zf_cst 30 (jn 1) 31), z_is 67 31 (zf_goto 31 35)] = true := by decide +kernel
        refine z_cst hB (fun hB => ?_)
        refine z_goto hB (fun hB => ?_)
        cases h
        exact z_weak k3 (z_sn (z_sn z_s0))
def d_P_skipBlanks_2  (p1 : z_H) : Option ((z_H) ⊕ (z_H)) := (if (p1 54 4) < (p1 54 3) then (if z_in ((p1 54 4)) 500 then (if (p1 1 (z_n ((p1 54 4)))) = (jn 32) then some (Sum.inl ((ev_u2 p1 54 4 ((p1 54 4) + (jn 1))))) else some (Sum.inr (p1))) else none) else some (Sum.inr (p1)))
def d_P_skipBlanks (a : Nat) (I : z_H) : Option (z_H) := ((z_it (d_P_skipBlanks_2) z_F (I)).bind fun q3 => some (q3))
/-- Parser.skipBlanks()V -/
theorem t_P_skipBlanks {G : z_G} {w : ev_W} (ok : z_Ok G w) {a : Nat} (ha : z_pc w a) {I : z_H} {r : z_H} (h : d_P_skipBlanks a I = some r) : z_K G 68 [.ref (54)] (z_w w I) (.inl none) (z_w w r) := by
  refine z_con ok.1 (ml := 1) (by decide +kernel) rfl rfl ?_
  show z_R G 68 0 [some (.ref (54))] [] (z_w w I) (.inl none) (z_w w r)
  unfold d_P_skipBlanks at h
  obtain ⟨q3, e4, h⟩ := z_bind h
  have k5 : z_R G 68 38 [none] [] (z_w w q3) (.inl none) (z_w w r) := by
    have hB : z_all [z_is 68 38 (zf_ret 6)] = true := by decide +kernel
    cases h
    exact z_retv hB
  have l2 : ∀ (m2 : Nat) (p1 : z_H), z_it (d_P_skipBlanks_2) m2 p1 = some q3 → z_R G 68 0 [some (.ref (54))] [] (z_w w p1) (.inl none) (z_w w r) := by
    intro m2
    induction m2 with
    | zero => intro p1 h; cases h
    | succ m2 i2 =>
      intro p1 h
      obtain ⟨u2, h, b2⟩ := z_it_o h
      unfold d_P_skipBlanks_2 at h
      have hB : z_all [z_is 68 0 (zf_aload 0 0 1), z_is 68 1 (zf_geti 1 3 4 4), z_is 68 4 (zf_aload 4 0 5), z_is 68 5 (zf_geti 5 3 3 8), z_is 68 8 (zf_if2 .ge 8 38 11)] = true := by decide +kernel
      refine z_aload hB rfl (fun hB => ?_)
      refine y_geti ok hB (by decide +kernel) (fun hB => ?_)
      refine z_aload hB rfl (fun hB => ?_)
      refine y_geti ok hB (by decide +kernel) (fun hB => ?_)
      refine z_ic_ge hB (fun hc _ => ?_) (fun hc _ => ?_)
      · have h := z_neg hc h
        cases h
        cases b2
        exact z_weak k5 (z_sn z_s0)
      · have h := z_pos hc h
        have hB : z_all [z_is 68 11 (zf_aload 11 0 12), z_is 68 12 (zf_getr 12 3 2 15), z_is 68 15 (zf_aload 15 0 16), z_is 68 16 (zf_geti 16 3 4 19), z_is 68 19 (zf_bald 19 20), z_is 68 20 (zf_cst 20 (jn 32) 22), z_is 68 22 (zf_if2 .ne 22 38 25)] = true := by decide +kernel
        refine z_aload hB rfl (fun hB => ?_)
        refine y_getm ok hB (by decide +kernel) ha.1 (fun hB => ?_)
        refine z_aload hB rfl (fun hB => ?_)
        refine y_geti ok hB (by decide +kernel) (fun hB => ?_)
        obtain ⟨g6, h⟩ := z_gd h
        refine y_bald ok hB (by decide +kernel) (by decide +kernel) g6 (fun hB => ?_)
        refine z_cst hB (fun hB => ?_)
        refine z_ic_ne hB (fun hc _ => ?_) (fun hc _ => ?_)
        · have h := z_neg hc h
          cases h
          cases b2
          exact z_weak k5 (z_sn z_s0)
        · have h := z_pos hc h
          have hB : z_all [z_is 68 25 (zf_aload 25 0 26), z_is 68 26 (zf_dupr 26 27), z_is 68 27 (zf_geti 27 3 4 30), z_is 68 30 (zf_cst 30 (jn 1) 31), z_is 68 31 (zf_iadd 31 32), z_is 68 32 (zf_puti 32 3 4 35), z_is 68 35 (zf_goto 35 0)] = true := by decide +kernel
          refine z_aload hB rfl (fun hB => ?_)
          refine z_dupr hB (fun hB => ?_)
          refine y_geti ok hB (by decide +kernel) (fun hB => ?_)
          refine z_cst hB (fun hB => ?_)
          refine z_iadd hB (fun hB => ?_)
          refine y_puti ok hB (by decide +kernel) (fun hB => ?_)
          refine z_goto hB (fun hB => ?_)
          cases h
          exact z_weak (i2 ((ev_u2 p1 54 4 ((p1 54 4) + (jn 1)))) b2) (z_se z_s0)
  exact z_weak (l2 _ (I) e4) (z_se z_s0)
def d_P_next_26 (a : Nat) (p25 : z_H) : Option ((z_H) ⊕ (z_H)) := (if (p25 54 4) < (p25 54 3) then ((d_P_isDigitAt a ((p25 54 4)) p25).bind fun q30 => (if q30 = jn 0 then some (Sum.inr (p25)) else (if z_in ((p25 54 4)) 500 then (Option.bind (α := z_H) (some (ev_u2 (ev_u2 p25 54 7 ((((p25 54 7) * (jn 10)) + (p25 1 (z_n ((p25 54 4))))) - (jn 48))) 54 4 (((ev_u2 p25 54 7 ((((p25 54 7) * (jn 10)) + (p25 1 (z_n ((p25 54 4))))) - (jn 48))) 54 4) + (jn 1)))) fun J33 => some (Sum.inl (J33))) else none))) else some (Sum.inr (p25)))
def d_P_next_36 (a : Nat) (p35 : z_H) : Option ((z_H) ⊕ (z_H)) := (if (p35 54 4) < (p35 54 3) then ((d_P_isLetterAt a ((p35 54 4)) p35).bind fun q40 => (if q40 = jn 0 then some (Sum.inr (p35)) else some (Sum.inl ((ev_u2 p35 54 4 ((p35 54 4) + (jn 1))))))) else some (Sum.inr (p35)))
def d_P_next (a : Nat) (I : z_H) : Option (z_H) := ((d_P_failed I).bind fun q1 => (if q1 = jn 0 then ((d_P_skipBlanks a I).bind fun q3 => (Option.bind (α := z_H) (if ((ev_u2 q3 54 6 (q3 54 4)) 54 4) < ((ev_u2 q3 54 6 (q3 54 4)) 54 3) then ((d_P_isLetterAt a (((ev_u2 q3 54 6 (q3 54 4)) 54 4)) (ev_u2 q3 54 6 (q3 54 4))).bind fun q16 => (if q16 = jn 0 then ((d_P_isDigitAt a (((ev_u2 q3 54 6 (q3 54 4)) 54 4)) (ev_u2 q3 54 6 (q3 54 4))).bind fun q18 => (if q18 = jn 0 then (if z_in (((ev_u2 q3 54 6 (q3 54 4)) 54 4)) 500 then (if ((ev_u2 q3 54 6 (q3 54 4)) 1 (z_n (((ev_u2 q3 54 6 (q3 54 4)) 54 4)))) = (jn 59) then (Option.bind (α := z_H) (some (ev_u2 (ev_u2 (ev_u2 q3 54 6 (q3 54 4)) 54 5 (jn 3)) 54 4 (((ev_u2 (ev_u2 q3 54 6 (q3 54 4)) 54 5 (jn 3)) 54 4) + (jn 1)))) fun J23 => some (J23)) else ((d_P_fail ((jn 1)) (ev_u2 q3 54 6 (q3 54 4))).bind fun q21 => some (q21))) else none) else ((z_it (d_P_next_26 a) z_F ((ev_u2 (ev_u2 (ev_u2 q3 54 6 (q3 54 4)) 54 5 (jn 2)) 54 7 (jn 0)))).bind fun q27 => some (q27)))) else ((z_it (d_P_next_36 a) z_F ((ev_u2 (ev_u2 q3 54 6 (q3 54 4)) 54 5 (jn 1)))).bind fun q37 => some (q37)))) else some ((ev_u2 (ev_u2 q3 54 6 (q3 54 4)) 54 5 (jn 0)))) fun q5 => (Option.bind (α := Int32) (if (q5 54 5) = (jn 1) then some ((jn 6)) else some ((jn 2))) fun q8 => (Option.bind (α := z_H) (if q8 < ((q5 54 4) - (q5 54 6)) then ((d_P_fail ((jn 1)) q5).bind fun q14 => some (q14)) else some (q5)) fun q11 => some (q11))))) else some (I)))
/-- Parser.next()V -/
theorem t_P_next {G : z_G} {w : ev_W} (ok : z_Ok G w) {a : Nat} (ha : z_pc w a) {I : z_H} {r : z_H} (h : d_P_next a I = some r) : z_K G 69 [.ref (54)] (z_w w I) (.inl none) (z_w w r) := by
  refine z_con ok.1 (ml := 2) (by decide +kernel) rfl rfl ?_
  show z_R G 69 0 [some (.ref (54)), none] [] (z_w w I) (.inl none) (z_w w r)
  unfold d_P_next at h
  have hB : z_all [z_is 69 0 (zf_aload 0 0 1), z_is 69 1 (zf_cv 1 64 0 3 4), z_is 69 4 (zf_if1 .eq 4 8 7)] = true := by decide +kernel
  refine z_aload hB rfl (fun hB => ?_)
  obtain ⟨q1, e2, h⟩ := z_bind h
  refine y_cv ok hB (as := []) (a := 54) (rest := []) rfl rfl rfl (by decide +kernel) (t_P_failed (I := I) ok e2) (fun hB => ?_)
  refine z_if_eq hB (fun hc _ => ?_) (fun hc _ => ?_)
  · have h := z_pos hc h
    have hB : z_all [z_is 69 8 (zf_aload 8 0 9), z_is 69 9 (zf_cv 9 68 0 3 12), z_is 69 12 (zf_aload 12 0 13), z_is 69 13 (zf_aload 13 0 14), z_is 69 14 (zf_geti 14 3 4 17), z_is 69 17 (zf_puti 17 3 6 20), z_is 69 20 (zf_aload 20 0 21), z_is 69 21 (zf_geti 21 3 4 24), z_is 69 24 (zf_aload 24 0 25), z_is 69 25 (zf_geti 25 3 3 28), z_is 69 28 (zf_if2 .lt 28 39 31)] = true := by decide +kernel
    refine z_aload hB rfl (fun hB => ?_)
    obtain ⟨q3, e4, h⟩ := z_bind h
    refine y_cv ok hB (as := []) (a := 54) (rest := []) rfl rfl rfl (by decide +kernel) (t_P_skipBlanks (I := I) ok ha e4) (fun hB => ?_)
    refine z_aload hB rfl (fun hB => ?_)
    refine z_aload hB rfl (fun hB => ?_)
    refine y_geti ok hB (by decide +kernel) (fun hB => ?_)
    refine y_puti ok hB (by decide +kernel) (fun hB => ?_)
    refine z_aload hB rfl (fun hB => ?_)
    refine y_geti ok hB (by decide +kernel) (fun hB => ?_)
    refine z_aload hB rfl (fun hB => ?_)
    refine y_geti ok hB (by decide +kernel) (fun hB => ?_)
    obtain ⟨q5, e6, h⟩ := z_bind h
    have k7 : z_R G 69 207 [some (.ref (54)), none] [] (z_w w q5) (.inl none) (z_w w r) := by
      have hB : z_all [z_is 69 207 (zf_aload 207 0 208), z_is 69 208 (zf_geti 208 3 5 211), z_is 69 211 (zf_cst 211 (jn 1) 212), z_is 69 212 (zf_if2 .ne 212 220 215)] = true := by decide +kernel
      refine z_aload hB rfl (fun hB => ?_)
      refine y_geti ok hB (by decide +kernel) (fun hB => ?_)
      refine z_cst hB (fun hB => ?_)
      obtain ⟨q8, e9, h⟩ := z_bind h
      have k10 : z_R G 69 221 [some (.ref (54)), none] [.int (q8)] (z_w w q5) (.inl none) (z_w w r) := by
        have hB : z_all [z_is 69 221 (zf_istore 221 1 222), z_is 69 222 (zf_aload 222 0 223), z_is 69 223 (zf_geti 223 3 4 226), z_is 69 226 (zf_aload 226 0 227), z_is 69 227 (zf_geti 227 3 6 230), z_is 69 230 (zf_isub 230 231), z_is 69 231 (zf_iload 231 1 232), z_is 69 232 (zf_if2 .le 232 240 235)] = true := by decide +kernel
        refine z_istore hB rfl rfl (fun hB => ?_)
        refine z_aload hB rfl (fun hB => ?_)
        refine y_geti ok hB (by decide +kernel) (fun hB => ?_)
        refine z_aload hB rfl (fun hB => ?_)
        refine y_geti ok hB (by decide +kernel) (fun hB => ?_)
        refine z_isub hB (fun hB => ?_)
        refine z_iload hB rfl (fun hB => ?_)
        obtain ⟨q11, e12, h⟩ := z_bind h
        have k13 : z_R G 69 240 [none, none] [] (z_w w q11) (.inl none) (z_w w r) := by
          have hB : z_all [z_is 69 240 (zf_ret 6)] = true := by decide +kernel
          cases h
          exact z_retv hB
        have h := e12
        refine z_ic_le hB (fun hc _ => ?_) (fun hc _ => ?_)
        · have h := z_neg hc h
          cases h
          exact z_weak k13 (z_sn (z_sn z_s0))
        · have h := z_pos hc h
          have hB : z_all [z_is 69 235 (zf_aload 235 0 236), z_is 69 236 (zf_cst 236 (jn 1) 237), z_is 69 237 (zf_cv 237 65 1 3 240)] = true := by decide +kernel
          refine z_aload hB rfl (fun hB => ?_)
          refine z_cst hB (fun hB => ?_)
          obtain ⟨q14, e15, h⟩ := z_bind h
          refine y_cv ok hB (as := [.int ((jn 1))]) (a := 54) (rest := []) rfl rfl rfl (by decide +kernel) (t_P_fail (I := q5) ok e15) (fun hB => ?_)
          cases h
          exact z_weak k13 (z_sn (z_sn z_s0))
      have h := e9
      refine z_ic_ne hB (fun hc _ => ?_) (fun hc _ => ?_)
      · have h := z_neg hc h
        have hB : z_all [z_is 69 220 (zf_cst 220 (jn 2) 221)] = true := by decide +kernel
        refine z_cst hB (fun hB => ?_)
        cases h
        exact z_weak k10 (z_se (z_sn z_s0))
      · have h := z_pos hc h
        have hB : z_all [z_is 69 215 (zf_cst 215 (jn 6) 217), z_is 69 217 (zf_goto 217 221)] = true := by decide +kernel
        refine z_cst hB (fun hB => ?_)
        refine z_goto hB (fun hB => ?_)
        cases h
        exact z_weak k10 (z_se (z_sn z_s0))
    have h := e6
    refine z_ic_lt hB (fun hc _ => ?_) (fun hc _ => ?_)
    · have h := z_pos hc h
      have hB : z_all [z_is 69 39 (zf_aload 39 0 40), z_is 69 40 (zf_aload 40 0 41), z_is 69 41 (zf_geti 41 3 4 44), z_is 69 44 (zf_cv 44 66 1 3 47), z_is 69 47 (zf_if1 .eq 47 90 50)] = true := by decide +kernel
      refine z_aload hB rfl (fun hB => ?_)
      refine z_aload hB rfl (fun hB => ?_)
      refine y_geti ok hB (by decide +kernel) (fun hB => ?_)
      obtain ⟨q16, e17, h⟩ := z_bind h
      refine y_cv ok hB (as := [.int (((ev_u2 q3 54 6 (q3 54 4)) 54 4))]) (a := 54) (rest := []) rfl rfl rfl (by decide +kernel) (t_P_isLetterAt (I := (ev_u2 q3 54 6 (q3 54 4))) ok ha e17) (fun hB => ?_)
      refine z_if_eq hB (fun hc _ => ?_) (fun hc _ => ?_)
      · have h := z_pos hc h
        have hB : z_all [z_is 69 90 (zf_aload 90 0 91), z_is 69 91 (zf_aload 91 0 92), z_is 69 92 (zf_geti 92 3 4 95), z_is 69 95 (zf_cv 95 67 1 3 98), z_is 69 98 (zf_if1 .eq 98 170 101)] = true := by decide +kernel
        refine z_aload hB rfl (fun hB => ?_)
        refine z_aload hB rfl (fun hB => ?_)
        refine y_geti ok hB (by decide +kernel) (fun hB => ?_)
        obtain ⟨q18, e19, h⟩ := z_bind h
        refine y_cv ok hB (as := [.int (((ev_u2 q3 54 6 (q3 54 4)) 54 4))]) (a := 54) (rest := []) rfl rfl rfl (by decide +kernel) (t_P_isDigitAt (I := (ev_u2 q3 54 6 (q3 54 4))) ok ha e19) (fun hB => ?_)
        refine z_if_eq hB (fun hc _ => ?_) (fun hc _ => ?_)
        · have h := z_pos hc h
          have hB : z_all [z_is 69 170 (zf_aload 170 0 171), z_is 69 171 (zf_getr 171 3 2 174), z_is 69 174 (zf_aload 174 0 175), z_is 69 175 (zf_geti 175 3 4 178), z_is 69 178 (zf_bald 178 179), z_is 69 179 (zf_cst 179 (jn 59) 181), z_is 69 181 (zf_if2 .ne 181 202 184)] = true := by decide +kernel
          refine z_aload hB rfl (fun hB => ?_)
          refine y_getm ok hB (by decide +kernel) ha.1 (fun hB => ?_)
          refine z_aload hB rfl (fun hB => ?_)
          refine y_geti ok hB (by decide +kernel) (fun hB => ?_)
          obtain ⟨g20, h⟩ := z_gd h
          refine y_bald ok hB (by decide +kernel) (by decide +kernel) g20 (fun hB => ?_)
          refine z_cst hB (fun hB => ?_)
          refine z_ic_ne hB (fun hc _ => ?_) (fun hc _ => ?_)
          · have h := z_neg hc h
            have hB : z_all [z_is 69 202 (zf_aload 202 0 203), z_is 69 203 (zf_cst 203 (jn 1) 204), z_is 69 204 (zf_cv 204 65 1 3 207)] = true := by decide +kernel
            refine z_aload hB rfl (fun hB => ?_)
            refine z_cst hB (fun hB => ?_)
            obtain ⟨q21, e22, h⟩ := z_bind h
            refine y_cv ok hB (as := [.int ((jn 1))]) (a := 54) (rest := []) rfl rfl rfl (by decide +kernel) (t_P_fail (I := (ev_u2 q3 54 6 (q3 54 4))) ok e22) (fun hB => ?_)
            cases h
            exact z_weak k7 (z_se (z_sn z_s0))
          · have h := z_pos hc h
            have hB : z_all [z_is 69 184 (zf_aload 184 0 185), z_is 69 185 (zf_cst 185 (jn 3) 186), z_is 69 186 (zf_puti 186 3 5 189), z_is 69 189 (zf_aload 189 0 190), z_is 69 190 (zf_dupr 190 191), z_is 69 191 (zf_geti 191 3 4 194), z_is 69 194 (zf_cst 194 (jn 1) 195), z_is 69 195 (zf_iadd 195 196), z_is 69 196 (zf_puti 196 3 4 199), z_is 69 199 (zf_goto 199 207)] = true := by decide +kernel
            refine z_aload hB rfl (fun hB => ?_)
            refine z_cst hB (fun hB => ?_)
            refine y_puti ok hB (by decide +kernel) (fun hB => ?_)
            refine z_aload hB rfl (fun hB => ?_)
            refine z_dupr hB (fun hB => ?_)
            refine y_geti ok hB (by decide +kernel) (fun hB => ?_)
            refine z_cst hB (fun hB => ?_)
            refine z_iadd hB (fun hB => ?_)
            refine y_puti ok hB (by decide +kernel) (fun hB => ?_)
            obtain ⟨J23, e24, h⟩ := z_bind h
            rw [z_inj e24]
            refine z_goto hB (fun hB => ?_)
            cases h
            exact z_weak k7 (z_se (z_sn z_s0))
        · have h := z_neg hc h
          have hB : z_all [z_is 69 101 (zf_aload 101 0 102), z_is 69 102 (zf_cst 102 (jn 2) 103), z_is 69 103 (zf_puti 103 3 5 106), z_is 69 106 (zf_aload 106 0 107), z_is 69 107 (zf_cst 107 (jn 0) 108), z_is 69 108 (zf_puti 108 3 7 111)] = true := by decide +kernel
          refine z_aload hB rfl (fun hB => ?_)
          refine z_cst hB (fun hB => ?_)
          refine y_puti ok hB (by decide +kernel) (fun hB => ?_)
          refine z_aload hB rfl (fun hB => ?_)
          refine z_cst hB (fun hB => ?_)
          refine y_puti ok hB (by decide +kernel) (fun hB => ?_)
          obtain ⟨q27, e28, h⟩ := z_bind h
          have k29 : z_R G 69 207 [some (.ref (54)), none] [] (z_w w q27) (.inl none) (z_w w r) := by
            cases h
            exact z_weak k7 (z_se (z_sn z_s0))
          have l26 : ∀ (m26 : Nat) (p25 : z_H), z_it (d_P_next_26 a) m26 p25 = some q27 → z_R G 69 111 [some (.ref (54)), none] [] (z_w w p25) (.inl none) (z_w w r) := by
            intro m26
            induction m26 with
            | zero => intro p25 h; cases h
            | succ m26 i26 =>
              intro p25 h
              obtain ⟨u26, h, b26⟩ := z_it_o h
              unfold d_P_next_26 at h
              have hB : z_all [z_is 69 111 (zf_aload 111 0 112), z_is 69 112 (zf_geti 112 3 4 115), z_is 69 115 (zf_aload 115 0 116), z_is 69 116 (zf_geti 116 3 3 119), z_is 69 119 (zf_if2 .ge 119 207 122)] = true := by decide +kernel
              refine z_aload hB rfl (fun hB => ?_)
              refine y_geti ok hB (by decide +kernel) (fun hB => ?_)
              refine z_aload hB rfl (fun hB => ?_)
              refine y_geti ok hB (by decide +kernel) (fun hB => ?_)
              refine z_ic_ge hB (fun hc _ => ?_) (fun hc _ => ?_)
              · have h := z_neg hc h
                cases h
                cases b26
                exact z_weak k29 (z_se (z_sn z_s0))
              · have h := z_pos hc h
                have hB : z_all [z_is 69 122 (zf_aload 122 0 123), z_is 69 123 (zf_aload 123 0 124), z_is 69 124 (zf_geti 124 3 4 127), z_is 69 127 (zf_cv 127 67 1 3 130), z_is 69 130 (zf_if1 .eq 130 207 133)] = true := by decide +kernel
                refine z_aload hB rfl (fun hB => ?_)
                refine z_aload hB rfl (fun hB => ?_)
                refine y_geti ok hB (by decide +kernel) (fun hB => ?_)
                obtain ⟨q30, e31, h⟩ := z_bind h
                refine y_cv ok hB (as := [.int ((p25 54 4))]) (a := 54) (rest := []) rfl rfl rfl (by decide +kernel) (t_P_isDigitAt (I := p25) ok ha e31) (fun hB => ?_)
                refine z_if_eq hB (fun hc _ => ?_) (fun hc _ => ?_)
                · have h := z_pos hc h
                  cases h
                  cases b26
                  exact z_weak k29 (z_se (z_sn z_s0))
                · have h := z_neg hc h
                  have hB : z_all [z_is 69 133 (zf_aload 133 0 134), z_is 69 134 (zf_aload 134 0 135), z_is 69 135 (zf_geti 135 3 7 138), z_is 69 138 (zf_cst 138 (jn 10) 140), z_is 69 140 (zf_imul 140 141), z_is 69 141 (zf_aload 141 0 142), z_is 69 142 (zf_getr 142 3 2 145), z_is 69 145 (zf_aload 145 0 146), z_is 69 146 (zf_geti 146 3 4 149), z_is 69 149 (zf_bald 149 150), z_is 69 150 (zf_iadd 150 151), z_is 69 151 (zf_cst 151 (jn 48) 153), z_is 69 153 (zf_isub 153 154), z_is 69 154 (zf_puti 154 3 7 157), z_is 69 157 (zf_aload 157 0 158), z_is 69 158 (zf_dupr 158 159), z_is 69 159 (zf_geti 159 3 4 162), z_is 69 162 (zf_cst 162 (jn 1) 163), z_is 69 163 (zf_iadd 163 164), z_is 69 164 (zf_puti 164 3 4 167), z_is 69 167 (zf_goto 167 111)] = true := by decide +kernel
                  refine z_aload hB rfl (fun hB => ?_)
                  refine z_aload hB rfl (fun hB => ?_)
                  refine y_geti ok hB (by decide +kernel) (fun hB => ?_)
                  refine z_cst hB (fun hB => ?_)
                  refine z_imul hB (fun hB => ?_)
                  refine z_aload hB rfl (fun hB => ?_)
                  refine y_getm ok hB (by decide +kernel) ha.1 (fun hB => ?_)
                  refine z_aload hB rfl (fun hB => ?_)
                  refine y_geti ok hB (by decide +kernel) (fun hB => ?_)
                  obtain ⟨g32, h⟩ := z_gd h
                  refine y_bald ok hB (by decide +kernel) (by decide +kernel) g32 (fun hB => ?_)
                  refine z_iadd hB (fun hB => ?_)
                  refine z_cst hB (fun hB => ?_)
                  refine z_isub hB (fun hB => ?_)
                  refine y_puti ok hB (by decide +kernel) (fun hB => ?_)
                  refine z_aload hB rfl (fun hB => ?_)
                  refine z_dupr hB (fun hB => ?_)
                  refine y_geti ok hB (by decide +kernel) (fun hB => ?_)
                  refine z_cst hB (fun hB => ?_)
                  refine z_iadd hB (fun hB => ?_)
                  refine y_puti ok hB (by decide +kernel) (fun hB => ?_)
                  obtain ⟨J33, e34, h⟩ := z_bind h
                  rw [z_inj e34]
                  refine z_goto hB (fun hB => ?_)
                  cases h
                  exact z_weak (i26 (J33) b26) (z_se (z_sn z_s0))
          exact z_weak (l26 _ ((ev_u2 (ev_u2 (ev_u2 q3 54 6 (q3 54 4)) 54 5 (jn 2)) 54 7 (jn 0))) e28) (z_se (z_sn z_s0))
      · have h := z_neg hc h
        have hB : z_all [z_is 69 50 (zf_aload 50 0 51), z_is 69 51 (zf_cst 51 (jn 1) 52), z_is 69 52 (zf_puti 52 3 5 55)] = true := by decide +kernel
        refine z_aload hB rfl (fun hB => ?_)
        refine z_cst hB (fun hB => ?_)
        refine y_puti ok hB (by decide +kernel) (fun hB => ?_)
        obtain ⟨q37, e38, h⟩ := z_bind h
        have k39 : z_R G 69 207 [some (.ref (54)), none] [] (z_w w q37) (.inl none) (z_w w r) := by
          cases h
          exact z_weak k7 (z_se (z_sn z_s0))
        have l36 : ∀ (m36 : Nat) (p35 : z_H), z_it (d_P_next_36 a) m36 p35 = some q37 → z_R G 69 55 [some (.ref (54)), none] [] (z_w w p35) (.inl none) (z_w w r) := by
          intro m36
          induction m36 with
          | zero => intro p35 h; cases h
          | succ m36 i36 =>
            intro p35 h
            obtain ⟨u36, h, b36⟩ := z_it_o h
            unfold d_P_next_36 at h
            have hB : z_all [z_is 69 55 (zf_aload 55 0 56), z_is 69 56 (zf_geti 56 3 4 59), z_is 69 59 (zf_aload 59 0 60), z_is 69 60 (zf_geti 60 3 3 63), z_is 69 63 (zf_if2 .ge 63 207 66)] = true := by decide +kernel
            refine z_aload hB rfl (fun hB => ?_)
            refine y_geti ok hB (by decide +kernel) (fun hB => ?_)
            refine z_aload hB rfl (fun hB => ?_)
            refine y_geti ok hB (by decide +kernel) (fun hB => ?_)
            refine z_ic_ge hB (fun hc _ => ?_) (fun hc _ => ?_)
            · have h := z_neg hc h
              cases h
              cases b36
              exact z_weak k39 (z_se (z_sn z_s0))
            · have h := z_pos hc h
              have hB : z_all [z_is 69 66 (zf_aload 66 0 67), z_is 69 67 (zf_aload 67 0 68), z_is 69 68 (zf_geti 68 3 4 71), z_is 69 71 (zf_cv 71 66 1 3 74), z_is 69 74 (zf_if1 .eq 74 207 77)] = true := by decide +kernel
              refine z_aload hB rfl (fun hB => ?_)
              refine z_aload hB rfl (fun hB => ?_)
              refine y_geti ok hB (by decide +kernel) (fun hB => ?_)
              obtain ⟨q40, e41, h⟩ := z_bind h
              refine y_cv ok hB (as := [.int ((p35 54 4))]) (a := 54) (rest := []) rfl rfl rfl (by decide +kernel) (t_P_isLetterAt (I := p35) ok ha e41) (fun hB => ?_)
              refine z_if_eq hB (fun hc _ => ?_) (fun hc _ => ?_)
              · have h := z_pos hc h
                cases h
                cases b36
                exact z_weak k39 (z_se (z_sn z_s0))
              · have h := z_neg hc h
                have hB : z_all [z_is 69 77 (zf_aload 77 0 78), z_is 69 78 (zf_dupr 78 79), z_is 69 79 (zf_geti 79 3 4 82), z_is 69 82 (zf_cst 82 (jn 1) 83), z_is 69 83 (zf_iadd 83 84), z_is 69 84 (zf_puti 84 3 4 87), z_is 69 87 (zf_goto 87 55)] = true := by decide +kernel
                refine z_aload hB rfl (fun hB => ?_)
                refine z_dupr hB (fun hB => ?_)
                refine y_geti ok hB (by decide +kernel) (fun hB => ?_)
                refine z_cst hB (fun hB => ?_)
                refine z_iadd hB (fun hB => ?_)
                refine y_puti ok hB (by decide +kernel) (fun hB => ?_)
                refine z_goto hB (fun hB => ?_)
                cases h
                exact z_weak (i36 ((ev_u2 p35 54 4 ((p35 54 4) + (jn 1)))) b36) (z_se (z_sn z_s0))
        exact z_weak (l36 _ ((ev_u2 (ev_u2 q3 54 6 (q3 54 4)) 54 5 (jn 1))) e38) (z_se (z_sn z_s0))
    · have h := z_neg hc h
      have hB : z_all [z_is 69 31 (zf_aload 31 0 32), z_is 69 32 (zf_cst 32 (jn 0) 33), z_is 69 33 (zf_puti 33 3 5 36), z_is 69 36 (zf_goto 36 207)] = true := by decide +kernel
      refine z_aload hB rfl (fun hB => ?_)
      refine z_cst hB (fun hB => ?_)
      refine y_puti ok hB (by decide +kernel) (fun hB => ?_)
      refine z_goto hB (fun hB => ?_)
      cases h
      exact z_weak k7 (z_se (z_sn z_s0))
  · have h := z_neg hc h
    have hB : z_all [z_is 69 7 (zf_ret 6)] = true := by decide +kernel
    cases h
    exact z_retv hB
def d_P_isWord_3 (k1 : Nat) (I : z_H) (p2 : Int32) : Option ((Int32) ⊕ (Int32)) := (if k1 < 34 then (if p2 < (zs_len k1) then (if z_in (((I 54 6) + p2)) 500 then (if k1 < 34 then (if z_in (p2) (zs_ln k1) then (if (I 1 (z_n (((I 54 6) + p2)))) = (zs_ch k1 (p2)) then some (Sum.inl ((p2 + (jn 1)))) else some (Sum.inr ((jn 0)))) else none) else none) else none) else some (Sum.inr ((jn 1)))) else none)
def d_P_isWord (a : Nat) (k1 : Nat) (I : z_H) : Option (Int32) := (if (I 54 5) = (jn 1) then (if k1 < 34 then (if ((I 54 4) - (I 54 6)) = (zs_len k1) then (z_it (d_P_isWord_3 k1 I) z_F ((jn 0))) else some ((jn 0))) else none) else some ((jn 0)))
/-- Parser.isWord(Ljava/lang/String;)Z -/
theorem t_P_isWord {G : z_G} {w : ev_W} (ok : z_Ok G w) {a : Nat} {k1 : Nat} (ha : z_pc w a) {I : z_H} {r : Int32} (h : d_P_isWord a k1 I = some r) : z_K G 70 [.ref (54), .ref (ev_S + 1 + k1)] (z_w w I) (.inl (some (.int r))) (z_w w I) := by
  refine z_con ok.1 (ml := 3) (by decide +kernel) rfl rfl ?_
  show z_R G 70 0 [some (.ref (54)), some (.ref (ev_S + 1 + k1)), none] [] (z_w w I) (.inl (some (.int r))) (z_w w I)
  unfold d_P_isWord at h
  have hB : z_all [z_is 70 0 (zf_aload 0 0 1), z_is 70 1 (zf_geti 1 3 5 4), z_is 70 4 (zf_cst 4 (jn 1) 5), z_is 70 5 (zf_if2 .ne 5 24 8)] = true := by decide +kernel
  refine z_aload hB rfl (fun hB => ?_)
  refine y_geti ok hB (by decide +kernel) (fun hB => ?_)
  refine z_cst hB (fun hB => ?_)
  refine z_ic_ne hB (fun hc _ => ?_) (fun hc _ => ?_)
  · have h := z_neg hc h
    have hB : z_all [z_is 70 24 (zf_cst 24 (jn 0) 25), z_is 70 25 (zf_ret 1)] = true := by decide +kernel
    refine z_cst hB (fun hB => ?_)
    cases h
    exact z_retz hB (by decide)
  · have h := z_pos hc h
    have hB : z_all [z_is 70 8 (zf_aload 8 0 9), z_is 70 9 (zf_geti 9 3 4 12), z_is 70 12 (zf_aload 12 0 13), z_is 70 13 (zf_geti 13 3 6 16), z_is 70 16 (zf_isub 16 17), z_is 70 17 (zf_aload 17 1 18), z_at 70 18 (zf_str 18 105 21), z_is 70 21 (zf_if2 .eq 21 26 24)] = true := by decide +kernel
    refine z_aload hB rfl (fun hB => ?_)
    refine y_geti ok hB (by decide +kernel) (fun hB => ?_)
    refine z_aload hB rfl (fun hB => ?_)
    refine y_geti ok hB (by decide +kernel) (fun hB => ?_)
    refine z_isub hB (fun hB => ?_)
    refine z_aload hB rfl (fun hB => ?_)
    obtain ⟨g1, h⟩ := z_gd h
    refine y_slen (k := k1) ok hB g1 rfl (fun hB => ?_)
    refine z_ic_eq hB (fun hc _ => ?_) (fun hc _ => ?_)
    · have h := z_pos hc h
      have hB : z_all [z_is 70 26 (zf_cst 26 (jn 0) 27), z_is 70 27 (zf_istore 27 2 28)] = true := by decide +kernel
      refine z_cst hB (fun hB => ?_)
      refine z_istore hB rfl rfl (fun hB => ?_)
      have l3 : ∀ (m3 : Nat) (p2 : Int32), z_it (d_P_isWord_3 k1 I) m3 p2 = some r → z_R G 70 28 [some (.ref (54)), some (.ref (ev_S + 1 + k1)), some (.int (p2))] [] (z_w w I) (.inl (some (.int r))) (z_w w I) := by
        intro m3
        induction m3 with
        | zero => intro p2 h; cases h
        | succ m3 i3 =>
          intro p2 h
          obtain ⟨u3, h, b3⟩ := z_it_o h
          unfold d_P_isWord_3 at h
          have hB : z_all [z_is 70 28 (zf_iload 28 2 29), z_is 70 29 (zf_aload 29 1 30), z_at 70 30 (zf_str 30 105 33), z_is 70 33 (zf_if2 .ge 33 63 36)] = true := by decide +kernel
          refine z_iload hB rfl (fun hB => ?_)
          refine z_aload hB rfl (fun hB => ?_)
          obtain ⟨g4, h⟩ := z_gd h
          refine y_slen (k := k1) ok hB g4 rfl (fun hB => ?_)
          refine z_ic_ge hB (fun hc _ => ?_) (fun hc _ => ?_)
          · have h := z_neg hc h
            have hB : z_all [z_is 70 63 (zf_cst 63 (jn 1) 64), z_is 70 64 (zf_ret 1)] = true := by decide +kernel
            refine z_cst hB (fun hB => ?_)
            cases h
            cases b3
            exact z_retz hB (by decide)
          · have h := z_pos hc h
            have hB : z_all [z_is 70 36 (zf_aload 36 0 37), z_is 70 37 (zf_getr 37 3 2 40), z_is 70 40 (zf_aload 40 0 41), z_is 70 41 (zf_geti 41 3 6 44), z_is 70 44 (zf_iload 44 2 45), z_is 70 45 (zf_iadd 45 46), z_is 70 46 (zf_bald 46 47), z_is 70 47 (zf_aload 47 1 48), z_is 70 48 (zf_iload 48 2 49), z_at 70 49 (zf_str 49 106 52), z_is 70 52 (zf_if2 .eq 52 57 55)] = true := by decide +kernel
            refine z_aload hB rfl (fun hB => ?_)
            refine y_getm ok hB (by decide +kernel) ha.1 (fun hB => ?_)
            refine z_aload hB rfl (fun hB => ?_)
            refine y_geti ok hB (by decide +kernel) (fun hB => ?_)
            refine z_iload hB rfl (fun hB => ?_)
            refine z_iadd hB (fun hB => ?_)
            obtain ⟨g5, h⟩ := z_gd h
            refine y_bald ok hB (by decide +kernel) (by decide +kernel) g5 (fun hB => ?_)
            refine z_aload hB rfl (fun hB => ?_)
            refine z_iload hB rfl (fun hB => ?_)
            obtain ⟨g6, h⟩ := z_gd h
            obtain ⟨g7, h⟩ := z_gd h
            refine y_schr (k := k1) ok hB g6 g7 rfl (fun hB => ?_)
            refine z_ic_eq hB (fun hc _ => ?_) (fun hc _ => ?_)
            · have h := z_pos hc h
              have hB : z_all [z_is 70 57 (zf_iinc 57 2 (jn 1) 60), z_is 70 60 (zf_goto 60 28)] = true := by decide +kernel
              refine z_iinc hB rfl rfl (fun hB => ?_)
              refine z_goto hB (fun hB => ?_)
              cases h
              exact z_weak (i3 ((p2 + (jn 1))) b3) (z_se (z_se (z_se z_s0)))
            · have h := z_neg hc h
              have hB : z_all [z_is 70 55 (zf_cst 55 (jn 0) 56), z_is 70 56 (zf_ret 1)] = true := by decide +kernel
              refine z_cst hB (fun hB => ?_)
              cases h
              cases b3
              exact z_retz hB (by decide)
      exact z_weak (l3 _ ((jn 0)) h) (z_se (z_se (z_se z_s0)))
    · have h := z_neg hc h
      have hB : z_all [z_is 70 24 (zf_cst 24 (jn 0) 25), z_is 70 25 (zf_ret 1)] = true := by decide +kernel
      refine z_cst hB (fun hB => ?_)
      cases h
      exact z_retz hB (by decide)
def d_P_number (a : Nat) (x1 : Int32) (x2 : Int32) (I : z_H) : Option (Int32 × z_H) := ((d_P_next a I).bind fun q1 => ((d_P_failed q1).bind fun q3 => (Option.bind (α := z_H) (if q3 = jn 0 then (if (q1 54 5) = (jn 2) then some (q1) else ((d_P_fail ((jn 1)) q1).bind fun q22 => some (q22))) else some (q1)) fun q5 => ((d_P_failed q5).bind fun q8 => (Option.bind (α := z_H) (if q8 = jn 0 then (if (q5 54 7) < x1 then ((d_P_fail ((jn 2)) q5).bind fun q18 => some (q18)) else (if x2 < (q5 54 7) then ((d_P_fail ((jn 2)) q5).bind fun q20 => some (q20)) else some (q5))) else some (q5)) fun q10 => ((d_P_failed q10).bind fun q13 => (Option.bind (α := Int32) (if q13 = jn 0 then some ((q10 54 7)) else some ((jg 1))) fun q15 => some ((q15, q10)))))))))
/-- Parser.number(II)I -/
theorem t_P_number {G : z_G} {w : ev_W} (ok : z_Ok G w) {a : Nat} {x1 : Int32} {x2 : Int32} (ha : z_pc w a) {I : z_H} {r : Int32 × z_H} (h : d_P_number a x1 x2 I = some r) : z_K G 72 [.ref (54), .int (x1), .int (x2)] (z_w w I) (.inl (some (.int r.1))) (z_w w r.2) := by
  refine z_con ok.1 (ml := 3) (by decide +kernel) rfl rfl ?_
  show z_R G 72 0 [some (.ref (54)), some (.int (x1)), some (.int (x2))] [] (z_w w I) (.inl (some (.int r.1))) (z_w w r.2)
  unfold d_P_number at h
  have hB : z_all [z_is 72 0 (zf_aload 0 0 1), z_is 72 1 (zf_cv 1 69 0 3 4), z_is 72 4 (zf_aload 4 0 5), z_is 72 5 (zf_cv 5 64 0 3 8), z_is 72 8 (zf_if1 .ne 8 24 11)] = true := by decide +kernel
  refine z_aload hB rfl (fun hB => ?_)
  obtain ⟨q1, e2, h⟩ := z_bind h
  refine y_cv ok hB (as := []) (a := 54) (rest := []) rfl rfl rfl (by decide +kernel) (t_P_next (I := I) ok ha e2) (fun hB => ?_)
  refine z_aload hB rfl (fun hB => ?_)
  obtain ⟨q3, e4, h⟩ := z_bind h
  refine y_cv ok hB (as := []) (a := 54) (rest := []) rfl rfl rfl (by decide +kernel) (t_P_failed (I := q1) ok e4) (fun hB => ?_)
  obtain ⟨q5, e6, h⟩ := z_bind h
  have k7 : z_R G 72 24 [some (.ref (54)), some (.int (x1)), some (.int (x2))] [] (z_w w q5) (.inl (some (.int r.1))) (z_w w r.2) := by
    have hB : z_all [z_is 72 24 (zf_aload 24 0 25), z_is 72 25 (zf_cv 25 64 0 3 28), z_is 72 28 (zf_if1 .ne 28 52 31)] = true := by decide +kernel
    refine z_aload hB rfl (fun hB => ?_)
    obtain ⟨q8, e9, h⟩ := z_bind h
    refine y_cv ok hB (as := []) (a := 54) (rest := []) rfl rfl rfl (by decide +kernel) (t_P_failed (I := q5) ok e9) (fun hB => ?_)
    obtain ⟨q10, e11, h⟩ := z_bind h
    have k12 : z_R G 72 52 [some (.ref (54)), none, none] [] (z_w w q10) (.inl (some (.int r.1))) (z_w w r.2) := by
      have hB : z_all [z_is 72 52 (zf_aload 52 0 53), z_is 72 53 (zf_cv 53 64 0 3 56), z_is 72 56 (zf_if1 .eq 56 63 59)] = true := by decide +kernel
      refine z_aload hB rfl (fun hB => ?_)
      obtain ⟨q13, e14, h⟩ := z_bind h
      refine y_cv ok hB (as := []) (a := 54) (rest := []) rfl rfl rfl (by decide +kernel) (t_P_failed (I := q10) ok e14) (fun hB => ?_)
      obtain ⟨q15, e16, h⟩ := z_bind h
      have k17 : z_R G 72 67 [none, none, none] [.int (q15)] (z_w w q10) (.inl (some (.int r.1))) (z_w w r.2) := by
        have hB : z_all [z_is 72 67 (zf_ret 0)] = true := by decide +kernel
        cases h
        exact z_reti hB
      have h := e16
      refine z_if_eq hB (fun hc _ => ?_) (fun hc _ => ?_)
      · have h := z_pos hc h
        have hB : z_all [z_is 72 63 (zf_aload 63 0 64), z_is 72 64 (zf_geti 64 3 7 67)] = true := by decide +kernel
        refine z_aload hB rfl (fun hB => ?_)
        refine y_geti ok hB (by decide +kernel) (fun hB => ?_)
        cases h
        exact z_weak k17 (z_sn (z_sn (z_sn z_s0)))
      · have h := z_neg hc h
        have hB : z_all [z_is 72 59 (zf_cst 59 (jg 1) 60), z_is 72 60 (zf_goto 60 67)] = true := by decide +kernel
        refine z_cst hB (fun hB => ?_)
        refine z_goto hB (fun hB => ?_)
        cases h
        exact z_weak k17 (z_sn (z_sn (z_sn z_s0)))
    have h := e11
    refine z_if_ne hB (fun hc _ => ?_) (fun hc _ => ?_)
    · have h := z_neg hc h
      cases h
      exact z_weak k12 (z_se (z_sn (z_sn z_s0)))
    · have h := z_pos hc h
      have hB : z_all [z_is 72 31 (zf_aload 31 0 32), z_is 72 32 (zf_geti 32 3 7 35), z_is 72 35 (zf_iload 35 1 36), z_is 72 36 (zf_if2 .lt 36 47 39)] = true := by decide +kernel
      refine z_aload hB rfl (fun hB => ?_)
      refine y_geti ok hB (by decide +kernel) (fun hB => ?_)
      refine z_iload hB rfl (fun hB => ?_)
      refine z_ic_lt hB (fun hc _ => ?_) (fun hc _ => ?_)
      · have h := z_pos hc h
        have hB : z_all [z_is 72 47 (zf_aload 47 0 48), z_is 72 48 (zf_cst 48 (jn 2) 49), z_is 72 49 (zf_cv 49 65 1 3 52)] = true := by decide +kernel
        refine z_aload hB rfl (fun hB => ?_)
        refine z_cst hB (fun hB => ?_)
        obtain ⟨q18, e19, h⟩ := z_bind h
        refine y_cv ok hB (as := [.int ((jn 2))]) (a := 54) (rest := []) rfl rfl rfl (by decide +kernel) (t_P_fail (I := q5) ok e19) (fun hB => ?_)
        cases h
        exact z_weak k12 (z_se (z_sn (z_sn z_s0)))
      · have h := z_neg hc h
        have hB : z_all [z_is 72 39 (zf_aload 39 0 40), z_is 72 40 (zf_geti 40 3 7 43), z_is 72 43 (zf_iload 43 2 44), z_is 72 44 (zf_if2 .le 44 52 47)] = true := by decide +kernel
        refine z_aload hB rfl (fun hB => ?_)
        refine y_geti ok hB (by decide +kernel) (fun hB => ?_)
        refine z_iload hB rfl (fun hB => ?_)
        refine z_ic_le hB (fun hc _ => ?_) (fun hc _ => ?_)
        · have h := z_neg hc h
          cases h
          exact z_weak k12 (z_se (z_sn (z_sn z_s0)))
        · have h := z_pos hc h
          have hB : z_all [z_is 72 47 (zf_aload 47 0 48), z_is 72 48 (zf_cst 48 (jn 2) 49), z_is 72 49 (zf_cv 49 65 1 3 52)] = true := by decide +kernel
          refine z_aload hB rfl (fun hB => ?_)
          refine z_cst hB (fun hB => ?_)
          obtain ⟨q20, e21, h⟩ := z_bind h
          refine y_cv ok hB (as := [.int ((jn 2))]) (a := 54) (rest := []) rfl rfl rfl (by decide +kernel) (t_P_fail (I := q5) ok e21) (fun hB => ?_)
          cases h
          exact z_weak k12 (z_se (z_sn (z_sn z_s0)))
  have h := e6
  refine z_if_ne hB (fun hc _ => ?_) (fun hc _ => ?_)
  · have h := z_neg hc h
    cases h
    exact z_weak k7 (z_se (z_se (z_se z_s0)))
  · have h := z_pos hc h
    have hB : z_all [z_is 72 11 (zf_aload 11 0 12), z_is 72 12 (zf_geti 12 3 5 15), z_is 72 15 (zf_cst 15 (jn 2) 16), z_is 72 16 (zf_if2 .eq 16 24 19)] = true := by decide +kernel
    refine z_aload hB rfl (fun hB => ?_)
    refine y_geti ok hB (by decide +kernel) (fun hB => ?_)
    refine z_cst hB (fun hB => ?_)
    refine z_ic_eq hB (fun hc _ => ?_) (fun hc _ => ?_)
    · have h := z_pos hc h
      cases h
      exact z_weak k7 (z_se (z_se (z_se z_s0)))
    · have h := z_neg hc h
      have hB : z_all [z_is 72 19 (zf_aload 19 0 20), z_is 72 20 (zf_cst 20 (jn 1) 21), z_is 72 21 (zf_cv 21 65 1 3 24)] = true := by decide +kernel
      refine z_aload hB rfl (fun hB => ?_)
      refine z_cst hB (fun hB => ?_)
      obtain ⟨q22, e23, h⟩ := z_bind h
      refine y_cv ok hB (as := [.int ((jn 1))]) (a := 54) (rest := []) rfl rfl rfl (by decide +kernel) (t_P_fail (I := q1) ok e23) (fun hB => ?_)
      cases h
      exact z_weak k7 (z_se (z_se (z_se z_s0)))
def d_P_readFirstLine (a : Nat) (I : z_H) : Option (z_H) := ((d_P_next a I).bind fun q1 => ((d_P_isWord a (1) q1).bind fun q3 => (Option.bind (α := z_H) (if q3 = jn 0 then ((d_P_fail ((jn 1)) q1).bind fun q17 => some (q17)) else some (q1)) fun q5 => ((d_P_number a ((jn 1)) ((jn 8)) q5).bind fun q8 => ((d_P_failed q8.2).bind fun q10 => (Option.bind (α := z_H) (if q10 = jn 0 then some ((ev_u2 q8.2 (a + 1) 0 q8.1)) else some (q8.2)) fun q12 => ((d_P_next a q12).bind fun q15 => some (q15))))))))
/-- Parser.readFirstLine()V -/
theorem t_P_readFirstLine {G : z_G} {w : ev_W} (ok : z_Ok G w) {a : Nat} (ha : z_pc w a) {I : z_H} {r : z_H} (h : d_P_readFirstLine a I = some r) : z_K G 73 [.ref (54)] (z_w w I) (.inl none) (z_w w r) := by
  refine z_con ok.1 (ml := 2) (by decide +kernel) rfl rfl ?_
  show z_R G 73 0 [some (.ref (54)), none] [] (z_w w I) (.inl none) (z_w w r)
  unfold d_P_readFirstLine at h
  have hB : z_all [z_is 73 0 (zf_aload 0 0 1), z_is 73 1 (zf_cv 1 69 0 3 4), z_is 73 4 (zf_aload 4 0 5), z_is 73 5 (zf_lds 5 1 7), z_is 73 7 (zf_cv 7 70 1 3 10), z_is 73 10 (zf_if1 .ne 10 18 13)] = true := by decide +kernel
  refine z_aload hB rfl (fun hB => ?_)
  obtain ⟨q1, e2, h⟩ := z_bind h
  refine y_cv ok hB (as := []) (a := 54) (rest := []) rfl rfl rfl (by decide +kernel) (t_P_next (I := I) ok ha e2) (fun hB => ?_)
  refine z_aload hB rfl (fun hB => ?_)
  refine z_lds hB (fun hB => ?_)
  obtain ⟨q3, e4, h⟩ := z_bind h
  refine y_cv ok hB (as := [.ref (ev_S + 1 + 1)]) (a := 54) (rest := []) rfl rfl rfl (by decide +kernel) (t_P_isWord (I := q1) ok ha e4) (fun hB => ?_)
  obtain ⟨q5, e6, h⟩ := z_bind h
  have k7 : z_R G 73 18 [some (.ref (54)), none] [] (z_w w q5) (.inl none) (z_w w r) := by
    have hB : z_all [z_is 73 18 (zf_aload 18 0 19), z_is 73 19 (zf_cst 19 (jn 1) 20), z_is 73 20 (zf_cst 20 (jn 8) 22), z_is 73 22 (zf_cv 22 72 2 3 25), z_is 73 25 (zf_istore 25 1 26), z_is 73 26 (zf_aload 26 0 27), z_is 73 27 (zf_cv 27 64 0 3 30), z_is 73 30 (zf_if1 .ne 30 44 33)] = true := by decide +kernel
    refine z_aload hB rfl (fun hB => ?_)
    refine z_cst hB (fun hB => ?_)
    refine z_cst hB (fun hB => ?_)
    obtain ⟨q8, e9, h⟩ := z_bind h
    refine y_cv ok hB (as := [.int ((jn 1)), .int ((jn 8))]) (a := 54) (rest := []) rfl rfl rfl (by decide +kernel) (t_P_number (I := q5) ok ha e9) (fun hB => ?_)
    refine z_istore hB rfl rfl (fun hB => ?_)
    refine z_aload hB rfl (fun hB => ?_)
    obtain ⟨q10, e11, h⟩ := z_bind h
    refine y_cv ok hB (as := []) (a := 54) (rest := []) rfl rfl rfl (by decide +kernel) (t_P_failed (I := q8.2) ok e11) (fun hB => ?_)
    obtain ⟨q12, e13, h⟩ := z_bind h
    have k14 : z_R G 73 44 [some (.ref (54)), none] [] (z_w w q12) (.inl none) (z_w w r) := by
      have hB : z_all [z_is 73 44 (zf_aload 44 0 45), z_is 73 45 (zf_cv 45 69 0 3 48), z_is 73 48 (zf_ret 6)] = true := by decide +kernel
      refine z_aload hB rfl (fun hB => ?_)
      obtain ⟨q15, e16, h⟩ := z_bind h
      refine y_cv ok hB (as := []) (a := 54) (rest := []) rfl rfl rfl (by decide +kernel) (t_P_next (I := q12) ok ha e16) (fun hB => ?_)
      cases h
      exact z_retv hB
    have h := e13
    refine z_if_ne hB (fun hc _ => ?_) (fun hc _ => ?_)
    · have h := z_neg hc h
      cases h
      exact z_weak k14 (z_se (z_sn z_s0))
    · have h := z_pos hc h
      have hB : z_all [z_is 73 33 (zf_aload 33 0 34), z_is 73 34 (zf_getr 34 3 8 37), z_is 73 37 (zf_getr 37 2 0 40), z_is 73 40 (zf_iload 40 1 41), z_is 73 41 (zf_puti 41 4 0 44)] = true := by decide +kernel
      refine z_aload hB rfl (fun hB => ?_)
      refine y_getm ok hB (by decide +kernel) ha.2.1 (fun hB => ?_)
      refine y_getr (b := (a + 1)) ok hB ha.2.2 (zla_r0 ha.2.2) (fun hB => ?_)
      refine z_iload hB rfl (fun hB => ?_)
      refine y_puti ok hB (zla_k0 ha.2.2) (fun hB => ?_)
      cases h
      exact z_weak k14 (z_se (z_sn z_s0))
  have h := e6
  refine z_if_ne hB (fun hc _ => ?_) (fun hc _ => ?_)
  · have h := z_neg hc h
    cases h
    exact z_weak k7 (z_se (z_sn z_s0))
  · have h := z_pos hc h
    have hB : z_all [z_is 73 13 (zf_aload 13 0 14), z_is 73 14 (zf_cst 14 (jn 1) 15), z_is 73 15 (zf_cv 15 65 1 3 18)] = true := by decide +kernel
    refine z_aload hB rfl (fun hB => ?_)
    refine z_cst hB (fun hB => ?_)
    obtain ⟨q17, e18, h⟩ := z_bind h
    refine y_cv ok hB (as := [.int ((jn 1))]) (a := 54) (rest := []) rfl rfl rfl (by decide +kernel) (t_P_fail (I := q1) ok e18) (fun hB => ?_)
    cases h
    exact z_weak k7 (z_se (z_sn z_s0))
def d_P_readEnd (a : Nat) (I : z_H) : Option (z_H) := ((d_P_failed I).bind fun q1 => (if q1 = jn 0 then (Option.bind (α := z_H) (if (I 54 5) = jn 0 then (if (I (a + 1) 1) = jn 0 then ((d_P_fail ((jn 4)) I).bind fun q6 => some (q6)) else (if (I (a + 1) 2) = jn 0 then ((d_P_fail ((jn 4)) I).bind fun q8 => some (q8)) else (if (I (a + 1) 3) = jn 0 then ((d_P_fail ((jn 4)) I).bind fun q10 => some (q10)) else some (I)))) else ((d_P_fail ((jn 1)) I).bind fun q12 => some (q12))) fun q3 => some (q3)) else some (I)))
/-- Parser.readEnd()V -/
theorem t_P_readEnd {G : z_G} {w : ev_W} (ok : z_Ok G w) {a : Nat} (ha : z_pc w a) {I : z_H} {r : z_H} (h : d_P_readEnd a I = some r) : z_K G 74 [.ref (54)] (z_w w I) (.inl none) (z_w w r) := by
  refine z_con ok.1 (ml := 2) (by decide +kernel) rfl rfl ?_
  show z_R G 74 0 [some (.ref (54)), none] [] (z_w w I) (.inl none) (z_w w r)
  unfold d_P_readEnd at h
  have hB : z_all [z_is 74 0 (zf_aload 0 0 1), z_is 74 1 (zf_cv 1 64 0 3 4), z_is 74 4 (zf_if1 .eq 4 8 7)] = true := by decide +kernel
  refine z_aload hB rfl (fun hB => ?_)
  obtain ⟨q1, e2, h⟩ := z_bind h
  refine y_cv ok hB (as := []) (a := 54) (rest := []) rfl rfl rfl (by decide +kernel) (t_P_failed (I := I) ok e2) (fun hB => ?_)
  refine z_if_eq hB (fun hc _ => ?_) (fun hc _ => ?_)
  · have h := z_pos hc h
    have hB : z_all [z_is 74 8 (zf_aload 8 0 9), z_is 74 9 (zf_getr 9 3 8 12), z_is 74 12 (zf_getr 12 2 0 15), z_is 74 15 (zf_astore 15 1 16), z_is 74 16 (zf_aload 16 0 17), z_is 74 17 (zf_geti 17 3 5 20), z_is 74 20 (zf_if1 .eq 20 31 23)] = true := by decide +kernel
    refine z_aload hB rfl (fun hB => ?_)
    refine y_getm ok hB (by decide +kernel) ha.2.1 (fun hB => ?_)
    refine y_getr (b := (a + 1)) ok hB ha.2.2 (zla_r0 ha.2.2) (fun hB => ?_)
    refine z_astore hB rfl rfl (fun hB => ?_)
    refine z_aload hB rfl (fun hB => ?_)
    refine y_geti ok hB (by decide +kernel) (fun hB => ?_)
    obtain ⟨q3, e4, h⟩ := z_bind h
    have k5 : z_R G 74 57 [none, none] [] (z_w w q3) (.inl none) (z_w w r) := by
      have hB : z_all [z_is 74 57 (zf_ret 6)] = true := by decide +kernel
      cases h
      exact z_retv hB
    have h := e4
    refine z_if_eq hB (fun hc _ => ?_) (fun hc _ => ?_)
    · have h := z_pos hc h
      have hB : z_all [z_is 74 31 (zf_aload 31 1 32), z_is 74 32 (zf_geti 32 4 1 35), z_is 74 35 (zf_if1 .eq 35 52 38)] = true := by decide +kernel
      refine z_aload hB rfl (fun hB => ?_)
      refine y_geti ok hB (zla_k0 ha.2.2) (fun hB => ?_)
      refine z_if_eq hB (fun hc _ => ?_) (fun hc _ => ?_)
      · have h := z_pos hc h
        have hB : z_all [z_is 74 52 (zf_aload 52 0 53), z_is 74 53 (zf_cst 53 (jn 4) 54), z_is 74 54 (zf_cv 54 65 1 3 57)] = true := by decide +kernel
        refine z_aload hB rfl (fun hB => ?_)
        refine z_cst hB (fun hB => ?_)
        obtain ⟨q6, e7, h⟩ := z_bind h
        refine y_cv ok hB (as := [.int ((jn 4))]) (a := 54) (rest := []) rfl rfl rfl (by decide +kernel) (t_P_fail (I := I) ok e7) (fun hB => ?_)
        cases h
        exact z_weak k5 (z_sn (z_sn z_s0))
      · have h := z_neg hc h
        have hB : z_all [z_is 74 38 (zf_aload 38 1 39), z_is 74 39 (zf_geti 39 4 2 42), z_is 74 42 (zf_if1 .eq 42 52 45)] = true := by decide +kernel
        refine z_aload hB rfl (fun hB => ?_)
        refine y_geti ok hB (zla_k0 ha.2.2) (fun hB => ?_)
        refine z_if_eq hB (fun hc _ => ?_) (fun hc _ => ?_)
        · have h := z_pos hc h
          have hB : z_all [z_is 74 52 (zf_aload 52 0 53), z_is 74 53 (zf_cst 53 (jn 4) 54), z_is 74 54 (zf_cv 54 65 1 3 57)] = true := by decide +kernel
          refine z_aload hB rfl (fun hB => ?_)
          refine z_cst hB (fun hB => ?_)
          obtain ⟨q8, e9, h⟩ := z_bind h
          refine y_cv ok hB (as := [.int ((jn 4))]) (a := 54) (rest := []) rfl rfl rfl (by decide +kernel) (t_P_fail (I := I) ok e9) (fun hB => ?_)
          cases h
          exact z_weak k5 (z_sn (z_sn z_s0))
        · have h := z_neg hc h
          have hB : z_all [z_is 74 45 (zf_aload 45 1 46), z_is 74 46 (zf_geti 46 4 3 49), z_is 74 49 (zf_if1 .ne 49 57 52)] = true := by decide +kernel
          refine z_aload hB rfl (fun hB => ?_)
          refine y_geti ok hB (zla_k0 ha.2.2) (fun hB => ?_)
          refine z_if_ne hB (fun hc _ => ?_) (fun hc _ => ?_)
          · have h := z_neg hc h
            cases h
            exact z_weak k5 (z_sn (z_sn z_s0))
          · have h := z_pos hc h
            have hB : z_all [z_is 74 52 (zf_aload 52 0 53), z_is 74 53 (zf_cst 53 (jn 4) 54), z_is 74 54 (zf_cv 54 65 1 3 57)] = true := by decide +kernel
            refine z_aload hB rfl (fun hB => ?_)
            refine z_cst hB (fun hB => ?_)
            obtain ⟨q10, e11, h⟩ := z_bind h
            refine y_cv ok hB (as := [.int ((jn 4))]) (a := 54) (rest := []) rfl rfl rfl (by decide +kernel) (t_P_fail (I := I) ok e11) (fun hB => ?_)
            cases h
            exact z_weak k5 (z_sn (z_sn z_s0))
    · have h := z_neg hc h
      have hB : z_all [z_is 74 23 (zf_aload 23 0 24), z_is 74 24 (zf_cst 24 (jn 1) 25), z_is 74 25 (zf_cv 25 65 1 3 28), z_is 74 28 (zf_goto 28 57)] = true := by decide +kernel
      refine z_aload hB rfl (fun hB => ?_)
      refine z_cst hB (fun hB => ?_)
      obtain ⟨q12, e13, h⟩ := z_bind h
      refine y_cv ok hB (as := [.int ((jn 1))]) (a := 54) (rest := []) rfl rfl rfl (by decide +kernel) (t_P_fail (I := I) ok e13) (fun hB => ?_)
      refine z_goto hB (fun hB => ?_)
      cases h
      exact z_weak k5 (z_sn (z_sn z_s0))
  · have h := z_neg hc h
    have hB : z_all [z_is 74 7 (zf_ret 6)] = true := by decide +kernel
    cases h
    exact z_retv hB
def d_P_needPlaceFor (x1 : Int32) (x2 : Int32) (I : z_H) : Option (z_H) := (Option.bind (α := z_H) (if x1 < x2 then some (I) else ((d_P_fail ((jn 4)) I).bind fun q4 => some (q4))) fun q1 => some (q1))
/-- Parser.needPlaceFor(II)V -/
theorem t_P_needPlaceFor {G : z_G} {w : ev_W} (ok : z_Ok G w) {x1 : Int32} {x2 : Int32} {I : z_H} {r : z_H} (h : d_P_needPlaceFor x1 x2 I = some r) : z_K G 76 [.ref (54), .int (x1), .int (x2)] (z_w w I) (.inl none) (z_w w r) := by
  refine z_con ok.1 (ml := 3) (by decide +kernel) rfl rfl ?_
  show z_R G 76 0 [some (.ref (54)), some (.int (x1)), some (.int (x2))] [] (z_w w I) (.inl none) (z_w w r)
  unfold d_P_needPlaceFor at h
  have hB : z_all [z_is 76 0 (zf_iload 0 1 1), z_is 76 1 (zf_iload 1 2 2), z_is 76 2 (zf_if2 .lt 2 10 5)] = true := by decide +kernel
  refine z_iload hB rfl (fun hB => ?_)
  refine z_iload hB rfl (fun hB => ?_)
  obtain ⟨q1, e2, h⟩ := z_bind h
  have k3 : z_R G 76 10 [none, none, none] [] (z_w w q1) (.inl none) (z_w w r) := by
    have hB : z_all [z_is 76 10 (zf_ret 6)] = true := by decide +kernel
    cases h
    exact z_retv hB
  have h := e2
  refine z_ic_lt hB (fun hc _ => ?_) (fun hc _ => ?_)
  · have h := z_pos hc h
    cases h
    exact z_weak k3 (z_sn (z_sn (z_sn z_s0)))
  · have h := z_neg hc h
    have hB : z_all [z_is 76 5 (zf_aload 5 0 6), z_is 76 6 (zf_cst 6 (jn 4) 7), z_is 76 7 (zf_cv 7 65 1 3 10)] = true := by decide +kernel
    refine z_aload hB rfl (fun hB => ?_)
    refine z_cst hB (fun hB => ?_)
    obtain ⟨q4, e5, h⟩ := z_bind h
    refine y_cv ok hB (as := [.int ((jn 4))]) (a := 54) (rest := []) rfl rfl rfl (by decide +kernel) (t_P_fail (I := I) ok e5) (fun hB => ?_)
    cases h
    exact z_weak k3 (z_sn (z_sn (z_sn z_s0)))
def d_P_readColour (a : Nat) (I : z_H) : Option (z_H) := ((d_P_needPlaceFor ((I (a + 1) 1)) ((jn 6)) I).bind fun q1 => ((d_P_number a ((jn 0)) ((jn 4)) q1).bind fun q3 => ((d_P_failed q3.2).bind fun q5 => (Option.bind (α := z_H) (if q5 = jn 0 then ((d_U_bringColour (a + 1) (q3.1) q3.2).bind fun q10 => some (q10)) else some (q3.2)) fun q7 => some (q7)))))
/-- Parser.readColour()V -/
theorem t_P_readColour {G : z_G} {w : ev_W} (ok : z_Ok G w) {a : Nat} (ha : z_pc w a) {I : z_H} {r : z_H} (h : d_P_readColour a I = some r) : z_K G 77 [.ref (54)] (z_w w I) (.inl none) (z_w w r) := by
  refine z_con ok.1 (ml := 2) (by decide +kernel) rfl rfl ?_
  show z_R G 77 0 [some (.ref (54)), none] [] (z_w w I) (.inl none) (z_w w r)
  unfold d_P_readColour at h
  have hB : z_all [z_is 77 0 (zf_aload 0 0 1), z_is 77 1 (zf_aload 1 0 2), z_is 77 2 (zf_getr 2 3 8 5), z_is 77 5 (zf_getr 5 2 0 8), z_is 77 8 (zf_geti 8 4 1 11), z_is 77 11 (zf_cst 11 (jn 6) 13), z_is 77 13 (zf_cv 13 76 2 3 16), z_is 77 16 (zf_aload 16 0 17), z_is 77 17 (zf_cst 17 (jn 0) 18), z_is 77 18 (zf_cst 18 (jn 4) 19), z_is 77 19 (zf_cv 19 72 2 3 22), z_is 77 22 (zf_istore 22 1 23), z_is 77 23 (zf_aload 23 0 24), z_is 77 24 (zf_cv 24 64 0 3 27), z_is 77 27 (zf_if1 .ne 27 41 30)] = true := by decide +kernel
  refine z_aload hB rfl (fun hB => ?_)
  refine z_aload hB rfl (fun hB => ?_)
  refine y_getm ok hB (by decide +kernel) ha.2.1 (fun hB => ?_)
  refine y_getr (b := (a + 1)) ok hB ha.2.2 (zla_r0 ha.2.2) (fun hB => ?_)
  refine y_geti ok hB (zla_k0 ha.2.2) (fun hB => ?_)
  refine z_cst hB (fun hB => ?_)
  obtain ⟨q1, e2, h⟩ := z_bind h
  refine y_cv ok hB (as := [.int ((I (a + 1) 1)), .int ((jn 6))]) (a := 54) (rest := []) rfl rfl rfl (by decide +kernel) (t_P_needPlaceFor (I := I) ok e2) (fun hB => ?_)
  refine z_aload hB rfl (fun hB => ?_)
  refine z_cst hB (fun hB => ?_)
  refine z_cst hB (fun hB => ?_)
  obtain ⟨q3, e4, h⟩ := z_bind h
  refine y_cv ok hB (as := [.int ((jn 0)), .int ((jn 4))]) (a := 54) (rest := []) rfl rfl rfl (by decide +kernel) (t_P_number (I := q1) ok ha e4) (fun hB => ?_)
  refine z_istore hB rfl rfl (fun hB => ?_)
  refine z_aload hB rfl (fun hB => ?_)
  obtain ⟨q5, e6, h⟩ := z_bind h
  refine y_cv ok hB (as := []) (a := 54) (rest := []) rfl rfl rfl (by decide +kernel) (t_P_failed (I := q3.2) ok e6) (fun hB => ?_)
  obtain ⟨q7, e8, h⟩ := z_bind h
  have k9 : z_R G 77 41 [none, none] [] (z_w w q7) (.inl none) (z_w w r) := by
    have hB : z_all [z_is 77 41 (zf_ret 6)] = true := by decide +kernel
    cases h
    exact z_retv hB
  have h := e8
  refine z_if_ne hB (fun hc _ => ?_) (fun hc _ => ?_)
  · have h := z_neg hc h
    cases h
    exact z_weak k9 (z_sn (z_sn z_s0))
  · have h := z_pos hc h
    have hB : z_all [z_is 77 30 (zf_aload 30 0 31), z_is 77 31 (zf_getr 31 3 8 34), z_is 77 34 (zf_getr 34 2 0 37), z_is 77 37 (zf_iload 37 1 38), z_is 77 38 (zf_cv 38 88 1 4 41)] = true := by decide +kernel
    refine z_aload hB rfl (fun hB => ?_)
    refine y_getm ok hB (by decide +kernel) ha.2.1 (fun hB => ?_)
    refine y_getr (b := (a + 1)) ok hB ha.2.2 (zla_r0 ha.2.2) (fun hB => ?_)
    refine z_iload hB rfl (fun hB => ?_)
    obtain ⟨q10, e11, h⟩ := z_bind h
    refine y_cv ok hB (as := [.int (q3.1)]) (a := (a + 1)) (rest := []) rfl rfl rfl (zla_k0 ha.2.2) (t_U_bringColour (I := q3.2) ok (zla_k0 ha.2.2) e11) (fun hB => ?_)
    cases h
    exact z_weak k9 (z_sn (z_sn z_s0))
def d_P_readNation (a : Nat) (I : z_H) : Option (z_H) := ((d_P_needPlaceFor ((I (a + 1) 2)) ((jn 4)) I).bind fun q1 => ((d_P_number a ((jn 0)) ((jn 99)) q1).bind fun q3 => ((d_P_number a ((jn 1)) ((jn 99)) q3.2).bind fun q5 => ((d_P_number a ((jn 0)) ((jn 9)) q5.2).bind fun q7 => ((d_P_failed q7.2).bind fun q9 => (Option.bind (α := z_H) (if q9 = jn 0 then ((d_U_bringNation (a + 1) (q3.1) (q5.1) (q7.1) q7.2).bind fun q14 => some (q14)) else some (q7.2)) fun q11 => some (q11)))))))
/-- Parser.readNation()V -/
theorem t_P_readNation {G : z_G} {w : ev_W} (ok : z_Ok G w) {a : Nat} (ha : z_pc w a) {I : z_H} {r : z_H} (h : d_P_readNation a I = some r) : z_K G 78 [.ref (54)] (z_w w I) (.inl none) (z_w w r) := by
  refine z_con ok.1 (ml := 4) (by decide +kernel) rfl rfl ?_
  show z_R G 78 0 [some (.ref (54)), none, none, none] [] (z_w w I) (.inl none) (z_w w r)
  unfold d_P_readNation at h
  have hB : z_all [z_is 78 0 (zf_aload 0 0 1), z_is 78 1 (zf_aload 1 0 2), z_is 78 2 (zf_getr 2 3 8 5), z_is 78 5 (zf_getr 5 2 0 8), z_is 78 8 (zf_geti 8 4 2 11), z_is 78 11 (zf_cst 11 (jn 4) 12), z_is 78 12 (zf_cv 12 76 2 3 15), z_is 78 15 (zf_aload 15 0 16), z_is 78 16 (zf_cst 16 (jn 0) 17), z_is 78 17 (zf_cst 17 (jn 99) 19), z_is 78 19 (zf_cv 19 72 2 3 22), z_is 78 22 (zf_istore 22 1 23), z_is 78 23 (zf_aload 23 0 24), z_is 78 24 (zf_cst 24 (jn 1) 25), z_is 78 25 (zf_cst 25 (jn 99) 27), z_is 78 27 (zf_cv 27 72 2 3 30), z_is 78 30 (zf_istore 30 2 31), z_is 78 31 (zf_aload 31 0 32), z_is 78 32 (zf_cst 32 (jn 0) 33), z_is 78 33 (zf_cst 33 (jn 9) 35), z_is 78 35 (zf_cv 35 72 2 3 38), z_is 78 38 (zf_istore 38 3 39), z_is 78 39 (zf_aload 39 0 40), z_is 78 40 (zf_cv 40 64 0 3 43), z_is 78 43 (zf_if1 .ne 43 59 46)] = true := by decide +kernel
  refine z_aload hB rfl (fun hB => ?_)
  refine z_aload hB rfl (fun hB => ?_)
  refine y_getm ok hB (by decide +kernel) ha.2.1 (fun hB => ?_)
  refine y_getr (b := (a + 1)) ok hB ha.2.2 (zla_r0 ha.2.2) (fun hB => ?_)
  refine y_geti ok hB (zla_k0 ha.2.2) (fun hB => ?_)
  refine z_cst hB (fun hB => ?_)
  obtain ⟨q1, e2, h⟩ := z_bind h
  refine y_cv ok hB (as := [.int ((I (a + 1) 2)), .int ((jn 4))]) (a := 54) (rest := []) rfl rfl rfl (by decide +kernel) (t_P_needPlaceFor (I := I) ok e2) (fun hB => ?_)
  refine z_aload hB rfl (fun hB => ?_)
  refine z_cst hB (fun hB => ?_)
  refine z_cst hB (fun hB => ?_)
  obtain ⟨q3, e4, h⟩ := z_bind h
  refine y_cv ok hB (as := [.int ((jn 0)), .int ((jn 99))]) (a := 54) (rest := []) rfl rfl rfl (by decide +kernel) (t_P_number (I := q1) ok ha e4) (fun hB => ?_)
  refine z_istore hB rfl rfl (fun hB => ?_)
  refine z_aload hB rfl (fun hB => ?_)
  refine z_cst hB (fun hB => ?_)
  refine z_cst hB (fun hB => ?_)
  obtain ⟨q5, e6, h⟩ := z_bind h
  refine y_cv ok hB (as := [.int ((jn 1)), .int ((jn 99))]) (a := 54) (rest := []) rfl rfl rfl (by decide +kernel) (t_P_number (I := q3.2) ok ha e6) (fun hB => ?_)
  refine z_istore hB rfl rfl (fun hB => ?_)
  refine z_aload hB rfl (fun hB => ?_)
  refine z_cst hB (fun hB => ?_)
  refine z_cst hB (fun hB => ?_)
  obtain ⟨q7, e8, h⟩ := z_bind h
  refine y_cv ok hB (as := [.int ((jn 0)), .int ((jn 9))]) (a := 54) (rest := []) rfl rfl rfl (by decide +kernel) (t_P_number (I := q5.2) ok ha e8) (fun hB => ?_)
  refine z_istore hB rfl rfl (fun hB => ?_)
  refine z_aload hB rfl (fun hB => ?_)
  obtain ⟨q9, e10, h⟩ := z_bind h
  refine y_cv ok hB (as := []) (a := 54) (rest := []) rfl rfl rfl (by decide +kernel) (t_P_failed (I := q7.2) ok e10) (fun hB => ?_)
  obtain ⟨q11, e12, h⟩ := z_bind h
  have k13 : z_R G 78 59 [none, none, none, none] [] (z_w w q11) (.inl none) (z_w w r) := by
    have hB : z_all [z_is 78 59 (zf_ret 6)] = true := by decide +kernel
    cases h
    exact z_retv hB
  have h := e12
  refine z_if_ne hB (fun hc _ => ?_) (fun hc _ => ?_)
  · have h := z_neg hc h
    cases h
    exact z_weak k13 (z_sn (z_sn (z_sn (z_sn z_s0))))
  · have h := z_pos hc h
    have hB : z_all [z_is 78 46 (zf_aload 46 0 47), z_is 78 47 (zf_getr 47 3 8 50), z_is 78 50 (zf_getr 50 2 0 53), z_is 78 53 (zf_iload 53 1 54), z_is 78 54 (zf_iload 54 2 55), z_is 78 55 (zf_iload 55 3 56), z_is 78 56 (zf_cv 56 89 3 4 59)] = true := by decide +kernel
    refine z_aload hB rfl (fun hB => ?_)
    refine y_getm ok hB (by decide +kernel) ha.2.1 (fun hB => ?_)
    refine y_getr (b := (a + 1)) ok hB ha.2.2 (zla_r0 ha.2.2) (fun hB => ?_)
    refine z_iload hB rfl (fun hB => ?_)
    refine z_iload hB rfl (fun hB => ?_)
    refine z_iload hB rfl (fun hB => ?_)
    obtain ⟨q14, e15, h⟩ := z_bind h
    refine y_cv ok hB (as := [.int (q3.1), .int (q5.1), .int (q7.1)]) (a := (a + 1)) (rest := []) rfl rfl rfl (zla_k0 ha.2.2) (t_U_bringNation (I := q7.2) ok (zla_k0 ha.2.2) e15) (fun hB => ?_)
    cases h
    exact z_weak k13 (z_sn (z_sn (z_sn (z_sn z_s0))))
def d_P_readTub (a : Nat) (I : z_H) : Option (z_H) := ((d_P_needPlaceFor ((I (a + 1) 3)) ((jn 3)) I).bind fun q1 => ((d_P_number a ((jn 1)) ((jn 6)) q1).bind fun q3 => ((d_P_failed q3.2).bind fun q5 => (Option.bind (α := z_H) (if q5 = jn 0 then ((d_U_bringTub (a + 1) (q3.1) q3.2).bind fun q10 => some (q10)) else some (q3.2)) fun q7 => some (q7)))))
/-- Parser.readTub()V -/
theorem t_P_readTub {G : z_G} {w : ev_W} (ok : z_Ok G w) {a : Nat} (ha : z_pc w a) {I : z_H} {r : z_H} (h : d_P_readTub a I = some r) : z_K G 79 [.ref (54)] (z_w w I) (.inl none) (z_w w r) := by
  refine z_con ok.1 (ml := 2) (by decide +kernel) rfl rfl ?_
  show z_R G 79 0 [some (.ref (54)), none] [] (z_w w I) (.inl none) (z_w w r)
  unfold d_P_readTub at h
  have hB : z_all [z_is 79 0 (zf_aload 0 0 1), z_is 79 1 (zf_aload 1 0 2), z_is 79 2 (zf_getr 2 3 8 5), z_is 79 5 (zf_getr 5 2 0 8), z_is 79 8 (zf_geti 8 4 3 11), z_is 79 11 (zf_cst 11 (jn 3) 12), z_is 79 12 (zf_cv 12 76 2 3 15), z_is 79 15 (zf_aload 15 0 16), z_is 79 16 (zf_cst 16 (jn 1) 17), z_is 79 17 (zf_cst 17 (jn 6) 19), z_is 79 19 (zf_cv 19 72 2 3 22), z_is 79 22 (zf_istore 22 1 23), z_is 79 23 (zf_aload 23 0 24), z_is 79 24 (zf_cv 24 64 0 3 27), z_is 79 27 (zf_if1 .ne 27 41 30)] = true := by decide +kernel
  refine z_aload hB rfl (fun hB => ?_)
  refine z_aload hB rfl (fun hB => ?_)
  refine y_getm ok hB (by decide +kernel) ha.2.1 (fun hB => ?_)
  refine y_getr (b := (a + 1)) ok hB ha.2.2 (zla_r0 ha.2.2) (fun hB => ?_)
  refine y_geti ok hB (zla_k0 ha.2.2) (fun hB => ?_)
  refine z_cst hB (fun hB => ?_)
  obtain ⟨q1, e2, h⟩ := z_bind h
  refine y_cv ok hB (as := [.int ((I (a + 1) 3)), .int ((jn 3))]) (a := 54) (rest := []) rfl rfl rfl (by decide +kernel) (t_P_needPlaceFor (I := I) ok e2) (fun hB => ?_)
  refine z_aload hB rfl (fun hB => ?_)
  refine z_cst hB (fun hB => ?_)
  refine z_cst hB (fun hB => ?_)
  obtain ⟨q3, e4, h⟩ := z_bind h
  refine y_cv ok hB (as := [.int ((jn 1)), .int ((jn 6))]) (a := 54) (rest := []) rfl rfl rfl (by decide +kernel) (t_P_number (I := q1) ok ha e4) (fun hB => ?_)
  refine z_istore hB rfl rfl (fun hB => ?_)
  refine z_aload hB rfl (fun hB => ?_)
  obtain ⟨q5, e6, h⟩ := z_bind h
  refine y_cv ok hB (as := []) (a := 54) (rest := []) rfl rfl rfl (by decide +kernel) (t_P_failed (I := q3.2) ok e6) (fun hB => ?_)
  obtain ⟨q7, e8, h⟩ := z_bind h
  have k9 : z_R G 79 41 [none, none] [] (z_w w q7) (.inl none) (z_w w r) := by
    have hB : z_all [z_is 79 41 (zf_ret 6)] = true := by decide +kernel
    cases h
    exact z_retv hB
  have h := e8
  refine z_if_ne hB (fun hc _ => ?_) (fun hc _ => ?_)
  · have h := z_neg hc h
    cases h
    exact z_weak k9 (z_sn (z_sn z_s0))
  · have h := z_pos hc h
    have hB : z_all [z_is 79 30 (zf_aload 30 0 31), z_is 79 31 (zf_getr 31 3 8 34), z_is 79 34 (zf_getr 34 2 0 37), z_is 79 37 (zf_iload 37 1 38), z_is 79 38 (zf_cv 38 90 1 4 41)] = true := by decide +kernel
    refine z_aload hB rfl (fun hB => ?_)
    refine y_getm ok hB (by decide +kernel) ha.2.1 (fun hB => ?_)
    refine y_getr (b := (a + 1)) ok hB ha.2.2 (zla_r0 ha.2.2) (fun hB => ?_)
    refine z_iload hB rfl (fun hB => ?_)
    obtain ⟨q10, e11, h⟩ := z_bind h
    refine y_cv ok hB (as := [.int (q3.1)]) (a := (a + 1)) (rest := []) rfl rfl rfl (zla_k0 ha.2.2) (t_U_bringTub (I := q3.2) ok (zla_k0 ha.2.2) e11) (fun hB => ?_)
    cases h
    exact z_weak k9 (z_sn (z_sn z_s0))
def d_P_numberFollows (a : Nat) (I : z_H) : Option (Int32 × z_H) := ((d_P_skipBlanks a I).bind fun q1 => ((d_P_failed q1).bind fun q3 => (Option.bind (α := Int32) (if q3 = jn 0 then ((d_P_isDigitAt a ((q1 54 4)) q1).bind fun q9 => (if q9 = jn 0 then some ((jn 0)) else some ((jn 1)))) else some ((jn 0))) fun q5 => (if (q5) = jn 0 ∨ (q5) = jn 1 then some ((q5, q1)) else none))))
/-- Parser.numberFollows()Z -/
theorem t_P_numberFollows {G : z_G} {w : ev_W} (ok : z_Ok G w) {a : Nat} (ha : z_pc w a) {I : z_H} {r : Int32 × z_H} (h : d_P_numberFollows a I = some r) : z_K G 71 [.ref (54)] (z_w w I) (.inl (some (.int r.1))) (z_w w r.2) := by
  refine z_con ok.1 (ml := 1) (by decide +kernel) rfl rfl ?_
  show z_R G 71 0 [some (.ref (54))] [] (z_w w I) (.inl (some (.int r.1))) (z_w w r.2)
  unfold d_P_numberFollows at h
  have hB : z_all [z_is 71 0 (zf_aload 0 0 1), z_is 71 1 (zf_cv 1 68 0 3 4), z_is 71 4 (zf_aload 4 0 5), z_is 71 5 (zf_cv 5 64 0 3 8), z_is 71 8 (zf_if1 .ne 8 26 11)] = true := by decide +kernel
  refine z_aload hB rfl (fun hB => ?_)
  obtain ⟨q1, e2, h⟩ := z_bind h
  refine y_cv ok hB (as := []) (a := 54) (rest := []) rfl rfl rfl (by decide +kernel) (t_P_skipBlanks (I := I) ok ha e2) (fun hB => ?_)
  refine z_aload hB rfl (fun hB => ?_)
  obtain ⟨q3, e4, h⟩ := z_bind h
  refine y_cv ok hB (as := []) (a := 54) (rest := []) rfl rfl rfl (by decide +kernel) (t_P_failed (I := q1) ok e4) (fun hB => ?_)
  obtain ⟨q5, e6, h⟩ := z_bind h
  have k7 : z_R G 71 27 [none] [.int (q5)] (z_w w q1) (.inl (some (.int r.1))) (z_w w r.2) := by
    have hB : z_all [z_is 71 27 (zf_ret 1)] = true := by decide +kernel
    obtain ⟨g8, h⟩ := z_gd h
    cases h
    exact z_retz hB g8
  have h := e6
  refine z_if_ne hB (fun hc _ => ?_) (fun hc _ => ?_)
  · have h := z_neg hc h
    have hB : z_all [z_is 71 26 (zf_cst 26 (jn 0) 27)] = true := by decide +kernel
    refine z_cst hB (fun hB => ?_)
    cases h
    exact z_weak k7 (z_sn z_s0)
  · have h := z_pos hc h
    have hB : z_all [z_is 71 11 (zf_aload 11 0 12), z_is 71 12 (zf_aload 12 0 13), z_is 71 13 (zf_geti 13 3 4 16), z_is 71 16 (zf_cv 16 67 1 3 19), z_is 71 19 (zf_if1 .eq 19 26 22)] = true := by decide +kernel
    refine z_aload hB rfl (fun hB => ?_)
    refine z_aload hB rfl (fun hB => ?_)
    refine y_geti ok hB (by decide +kernel) (fun hB => ?_)
    obtain ⟨q9, e10, h⟩ := z_bind h
    refine y_cv ok hB (as := [.int ((q1 54 4))]) (a := 54) (rest := []) rfl rfl rfl (by decide +kernel) (t_P_isDigitAt (I := q1) ok ha e10) (fun hB => ?_)
    refine z_if_eq hB (fun hc _ => ?_) (fun hc _ => ?_)
    · have h := z_pos hc h
      have hB : z_all [z_is 71 26 (zf_cst 26 (jn 0) 27)] = true := by decide +kernel
      refine z_cst hB (fun hB => ?_)
      cases h
      exact z_weak k7 (z_sn z_s0)
    · have h := z_neg hc h
      have hB : z_all [z_is 71 22 (zf_cst 22 (jn 1) 23), z_is 71 23 (zf_goto 23 27)] = true := by decide +kernel
      refine z_cst hB (fun hB => ?_)
      refine z_goto hB (fun hB => ?_)
      cases h
      exact z_weak k7 (z_sn z_s0)
def d_P_readFlag_10 (a : Nat) (p9 : Int32 × Int32 × z_H) : Option ((Int32 × Int32 × z_H) ⊕ (Int32 × Int32 × z_H)) := (if (jn 6) < p9.2.1 then some (Sum.inr (p9.1, p9.2.1, p9.2.2)) else (if p9.2.1 = jn 0 then ((d_P_number a ((jn 0)) (((p9.2.2 (a + 1) 1) - (jn 1))) p9.2.2).bind fun q21 => ((d_P_failed q21.2).bind fun q23 => (Option.bind (α := z_H) (if q23 = jn 0 then (if ((p9.1 >>> (q21.1 &&& 31)) &&& (jn 1)) = jn 0 then some (q21.2) else ((d_P_fail ((jn 3)) q21.2).bind fun q33 => some (q33))) else some (q21.2)) fun q25 => ((d_P_failed q25).bind fun q28 => (Option.bind (α := Int32) (if q28 = jn 0 then some ((p9.1 ||| ((jn 1) <<< (q21.1 &&& 31)))) else some (p9.1)) fun q30 => some (Sum.inl (q30, (p9.2.1 + (jn 1)), q25))))))) else ((d_P_numberFollows a p9.2.2).bind fun q35 => (if q35.1 = jn 0 then some (Sum.inr (p9.1, p9.2.1, q35.2)) else ((d_P_number a ((jn 0)) (((q35.2 (a + 1) 1) - (jn 1))) q35.2).bind fun q37 => ((d_P_failed q37.2).bind fun q39 => (Option.bind (α := z_H) (if q39 = jn 0 then (if ((p9.1 >>> (q37.1 &&& 31)) &&& (jn 1)) = jn 0 then some (q37.2) else ((d_P_fail ((jn 3)) q37.2).bind fun q49 => some (q49))) else some (q37.2)) fun q41 => ((d_P_failed q41).bind fun q44 => (Option.bind (α := Int32) (if q44 = jn 0 then some ((p9.1 ||| ((jn 1) <<< (q37.1 &&& 31)))) else some (p9.1)) fun q46 => some (Sum.inl (q46, (p9.2.1 + (jn 1)), q41)))))))))))
def d_P_readFlag (a : Nat) (I : z_H) : Option (z_H) := ((d_P_needPlaceFor ((I (a + 7) 6)) ((jn 12)) I).bind fun q1 => ((d_P_number a ((jn 0)) (((q1 (a + 1) 2) - (jn 1))) q1).bind fun q3 => ((d_P_number a ((jn 0)) ((jn 3)) q3.2).bind fun q5 => ((d_P_number a ((jn 0)) ((jn 9)) q5.2).bind fun q7 => ((z_it (d_P_readFlag_10 a) z_F ((jn 0), (jn 0), q7.2)).bind fun q11 => ((d_P_failed q11.2.2).bind fun q14 => (Option.bind (α := z_H) (if q14 = jn 0 then ((d_S_bringFlag (a + 7) (q3.1) (q11.1) (q5.1) (q7.1) q11.2.2).bind fun q19 => some (q19.2)) else some (q11.2.2)) fun q16 => some (q16))))))))
/-- Parser.readFlag()V -/
theorem t_P_readFlag {G : z_G} {w : ev_W} (ok : z_Ok G w) {a : Nat} (ha : z_pc w a) {I : z_H} {r : z_H} (h : d_P_readFlag a I = some r) : z_K G 80 [.ref (54)] (z_w w I) (.inl none) (z_w w r) := by
  refine z_con ok.1 (ml := 7) (by decide +kernel) rfl rfl ?_
  show z_R G 80 0 [some (.ref (54)), none, none, none, none, none, none] [] (z_w w I) (.inl none) (z_w w r)
  unfold d_P_readFlag at h
  have hB : z_all [z_is 80 0 (zf_aload 0 0 1), z_is 80 1 (zf_aload 1 0 2), z_is 80 2 (zf_getr 2 3 8 5), z_is 80 5 (zf_getr 5 2 1 8), z_is 80 8 (zf_geti 8 5 6 11), z_is 80 11 (zf_cst 11 (jn 12) 13), z_is 80 13 (zf_cv 13 76 2 3 16), z_is 80 16 (zf_aload 16 0 17), z_is 80 17 (zf_cst 17 (jn 0) 18), z_is 80 18 (zf_aload 18 0 19), z_is 80 19 (zf_getr 19 3 8 22), z_is 80 22 (zf_getr 22 2 0 25), z_is 80 25 (zf_geti 25 4 2 28), z_is 80 28 (zf_cst 28 (jn 1) 29), z_is 80 29 (zf_isub 29 30), z_is 80 30 (zf_cv 30 72 2 3 33), z_is 80 33 (zf_istore 33 1 34), z_is 80 34 (zf_aload 34 0 35), z_is 80 35 (zf_cst 35 (jn 0) 36), z_is 80 36 (zf_cst 36 (jn 3) 37), z_is 80 37 (zf_cv 37 72 2 3 40), z_is 80 40 (zf_istore 40 2 41), z_is 80 41 (zf_aload 41 0 42), z_is 80 42 (zf_cst 42 (jn 0) 43), z_is 80 43 (zf_cst 43 (jn 9) 45), z_is 80 45 (zf_cv 45 72 2 3 48), z_is 80 48 (zf_istore 48 3 49), z_is 80 49 (zf_cst 49 (jn 0) 50), z_is 80 50 (zf_istore 50 4 52), z_is 80 52 (zf_cst 52 (jn 0) 53), z_is 80 53 (zf_istore 53 5 55)] = true := by decide +kernel
  refine z_aload hB rfl (fun hB => ?_)
  refine z_aload hB rfl (fun hB => ?_)
  refine y_getm ok hB (by decide +kernel) ha.2.1 (fun hB => ?_)
  refine y_getr (b := (a + 7)) ok hB ha.2.2 (zla_r1 ha.2.2) (fun hB => ?_)
  refine y_geti ok hB (zla_k1 ha.2.2) (fun hB => ?_)
  refine z_cst hB (fun hB => ?_)
  obtain ⟨q1, e2, h⟩ := z_bind h
  refine y_cv ok hB (as := [.int ((I (a + 7) 6)), .int ((jn 12))]) (a := 54) (rest := []) rfl rfl rfl (by decide +kernel) (t_P_needPlaceFor (I := I) ok e2) (fun hB => ?_)
  refine z_aload hB rfl (fun hB => ?_)
  refine z_cst hB (fun hB => ?_)
  refine z_aload hB rfl (fun hB => ?_)
  refine y_getm ok hB (by decide +kernel) ha.2.1 (fun hB => ?_)
  refine y_getr (b := (a + 1)) ok hB ha.2.2 (zla_r0 ha.2.2) (fun hB => ?_)
  refine y_geti ok hB (zla_k0 ha.2.2) (fun hB => ?_)
  refine z_cst hB (fun hB => ?_)
  refine z_isub hB (fun hB => ?_)
  obtain ⟨q3, e4, h⟩ := z_bind h
  refine y_cv ok hB (as := [.int ((jn 0)), .int (((q1 (a + 1) 2) - (jn 1)))]) (a := 54) (rest := []) rfl rfl rfl (by decide +kernel) (t_P_number (I := q1) ok ha e4) (fun hB => ?_)
  refine z_istore hB rfl rfl (fun hB => ?_)
  refine z_aload hB rfl (fun hB => ?_)
  refine z_cst hB (fun hB => ?_)
  refine z_cst hB (fun hB => ?_)
  obtain ⟨q5, e6, h⟩ := z_bind h
  refine y_cv ok hB (as := [.int ((jn 0)), .int ((jn 3))]) (a := 54) (rest := []) rfl rfl rfl (by decide +kernel) (t_P_number (I := q3.2) ok ha e6) (fun hB => ?_)
  refine z_istore hB rfl rfl (fun hB => ?_)
  refine z_aload hB rfl (fun hB => ?_)
  refine z_cst hB (fun hB => ?_)
  refine z_cst hB (fun hB => ?_)
  obtain ⟨q7, e8, h⟩ := z_bind h
  refine y_cv ok hB (as := [.int ((jn 0)), .int ((jn 9))]) (a := 54) (rest := []) rfl rfl rfl (by decide +kernel) (t_P_number (I := q5.2) ok ha e8) (fun hB => ?_)
  refine z_istore hB rfl rfl (fun hB => ?_)
  refine z_cst hB (fun hB => ?_)
  refine z_istore hB rfl rfl (fun hB => ?_)
  refine z_cst hB (fun hB => ?_)
  refine z_istore hB rfl rfl (fun hB => ?_)
  obtain ⟨q11, e12, h⟩ := z_bind h
  have k13 : z_R G 80 137 [some (.ref (54)), some (.int (q3.1)), some (.int (q5.1)), some (.int (q7.1)), some (.int (q11.1)), none, none] [] (z_w w q11.2.2) (.inl none) (z_w w r) := by
    have hB : z_all [z_is 80 137 (zf_aload 137 0 138), z_is 80 138 (zf_cv 138 64 0 3 141), z_is 80 141 (zf_if1 .ne 141 160 144)] = true := by decide +kernel
    refine z_aload hB rfl (fun hB => ?_)
    obtain ⟨q14, e15, h⟩ := z_bind h
    refine y_cv ok hB (as := []) (a := 54) (rest := []) rfl rfl rfl (by decide +kernel) (t_P_failed (I := q11.2.2) ok e15) (fun hB => ?_)
    obtain ⟨q16, e17, h⟩ := z_bind h
    have k18 : z_R G 80 160 [none, none, none, none, none, none, none] [] (z_w w q16) (.inl none) (z_w w r) := by
      have hB : z_all [z_is 80 160 (zf_ret 6)] = true := by decide +kernel
      cases h
      exact z_retv hB
    have h := e17
    refine z_if_ne hB (fun hc _ => ?_) (fun hc _ => ?_)
    · have h := z_neg hc h
      cases h
      exact z_weak k18 (z_sn (z_sn (z_sn (z_sn (z_sn (z_sn (z_sn z_s0)))))))
    · have h := z_pos hc h
      have hB : z_all [z_is 80 144 (zf_aload 144 0 145), z_is 80 145 (zf_getr 145 3 8 148), z_is 80 148 (zf_getr 148 2 1 151), z_is 80 151 (zf_iload 151 1 152), z_is 80 152 (zf_iload 152 4 154), z_is 80 154 (zf_iload 154 2 155), z_is 80 155 (zf_iload 155 3 156), z_is 80 156 (zf_cv 156 96 4 5 159), z_is 80 159 (zf_popi 159 160)] = true := by decide +kernel
      refine z_aload hB rfl (fun hB => ?_)
      refine y_getm ok hB (by decide +kernel) ha.2.1 (fun hB => ?_)
      refine y_getr (b := (a + 7)) ok hB ha.2.2 (zla_r1 ha.2.2) (fun hB => ?_)
      refine z_iload hB rfl (fun hB => ?_)
      refine z_iload hB rfl (fun hB => ?_)
      refine z_iload hB rfl (fun hB => ?_)
      refine z_iload hB rfl (fun hB => ?_)
      obtain ⟨q19, e20, h⟩ := z_bind h
      refine y_cv ok hB (as := [.int (q3.1), .int (q11.1), .int (q5.1), .int (q7.1)]) (a := (a + 7)) (rest := []) rfl rfl rfl (zla_k1 ha.2.2) (t_S_bringFlag (I := q11.2.2) ok (zla_k1 ha.2.2) e20) (fun hB => ?_)
      refine z_popi hB (fun hB => ?_)
      cases h
      exact z_weak k18 (z_sn (z_sn (z_sn (z_sn (z_sn (z_sn (z_sn z_s0)))))))
  have l10 : ∀ (m10 : Nat) (p9 : Int32 × Int32 × z_H), z_it (d_P_readFlag_10 a) m10 p9 = some q11 → z_R G 80 55 [some (.ref (54)), some (.int (q3.1)), some (.int (q5.1)), some (.int (q7.1)), some (.int (p9.1)), some (.int (p9.2.1)), none] [] (z_w w p9.2.2) (.inl none) (z_w w r) := by
    intro m10
    induction m10 with
    | zero => intro p9 h; cases h
    | succ m10 i10 =>
      intro p9 h
      obtain ⟨u10, h, b10⟩ := z_it_o h
      unfold d_P_readFlag_10 at h
      have hB : z_all [z_is 80 55 (zf_iload 55 5 57), z_is 80 57 (zf_cst 57 (jn 6) 59), z_is 80 59 (zf_if2 .gt 59 137 62)] = true := by decide +kernel
      refine z_iload hB rfl (fun hB => ?_)
      refine z_cst hB (fun hB => ?_)
      refine z_ic_gt hB (fun hc _ => ?_) (fun hc _ => ?_)
      · have h := z_pos hc h
        cases h
        cases b10
        exact z_weak k13 (z_se (z_se (z_se (z_se (z_se (z_sn (z_sn z_s0)))))))
      · have h := z_neg hc h
        have hB : z_all [z_is 80 62 (zf_iload 62 5 64), z_is 80 64 (zf_if1 .eq 64 74 67)] = true := by decide +kernel
        refine z_iload hB rfl (fun hB => ?_)
        refine z_if_eq hB (fun hc _ => ?_) (fun hc _ => ?_)
        · have h := z_pos hc h
          have hB : z_all [z_is 80 74 (zf_aload 74 0 75), z_is 80 75 (zf_cst 75 (jn 0) 76), z_is 80 76 (zf_aload 76 0 77), z_is 80 77 (zf_getr 77 3 8 80), z_is 80 80 (zf_getr 80 2 0 83), z_is 80 83 (zf_geti 83 4 1 86), z_is 80 86 (zf_cst 86 (jn 1) 87), z_is 80 87 (zf_isub 87 88), z_is 80 88 (zf_cv 88 72 2 3 91), z_is 80 91 (zf_istore 91 6 93), z_is 80 93 (zf_aload 93 0 94), z_is 80 94 (zf_cv 94 64 0 3 97), z_is 80 97 (zf_if1 .ne 97 115 100)] = true := by decide +kernel
          refine z_aload hB rfl (fun hB => ?_)
          refine z_cst hB (fun hB => ?_)
          refine z_aload hB rfl (fun hB => ?_)
          refine y_getm ok hB (by decide +kernel) ha.2.1 (fun hB => ?_)
          refine y_getr (b := (a + 1)) ok hB ha.2.2 (zla_r0 ha.2.2) (fun hB => ?_)
          refine y_geti ok hB (zla_k0 ha.2.2) (fun hB => ?_)
          refine z_cst hB (fun hB => ?_)
          refine z_isub hB (fun hB => ?_)
          obtain ⟨q21, e22, h⟩ := z_bind h
          refine y_cv ok hB (as := [.int ((jn 0)), .int (((p9.2.2 (a + 1) 1) - (jn 1)))]) (a := 54) (rest := []) rfl rfl rfl (by decide +kernel) (t_P_number (I := p9.2.2) ok ha e22) (fun hB => ?_)
          refine z_istore hB rfl rfl (fun hB => ?_)
          refine z_aload hB rfl (fun hB => ?_)
          obtain ⟨q23, e24, h⟩ := z_bind h
          refine y_cv ok hB (as := []) (a := 54) (rest := []) rfl rfl rfl (by decide +kernel) (t_P_failed (I := q21.2) ok e24) (fun hB => ?_)
          obtain ⟨q25, e26, h⟩ := z_bind h
          have k27 : z_R G 80 115 [some (.ref (54)), some (.int (q3.1)), some (.int (q5.1)), some (.int (q7.1)), some (.int (p9.1)), some (.int (p9.2.1)), some (.int (q21.1))] [] (z_w w q25) (.inl none) (z_w w r) := by
            have hB : z_all [z_is 80 115 (zf_aload 115 0 116), z_is 80 116 (zf_cv 116 64 0 3 119), z_is 80 119 (zf_if1 .ne 119 131 122)] = true := by decide +kernel
            refine z_aload hB rfl (fun hB => ?_)
            obtain ⟨q28, e29, h⟩ := z_bind h
            refine y_cv ok hB (as := []) (a := 54) (rest := []) rfl rfl rfl (by decide +kernel) (t_P_failed (I := q25) ok e29) (fun hB => ?_)
            obtain ⟨q30, e31, h⟩ := z_bind h
            have k32 : z_R G 80 131 [some (.ref (54)), some (.int (q3.1)), some (.int (q5.1)), some (.int (q7.1)), some (.int (q30)), some (.int (p9.2.1)), none] [] (z_w w q25) (.inl none) (z_w w r) := by
              have hB : z_all [z_is 80 131 (zf_iinc 131 5 (jn 1) 134), z_is 80 134 (zf_goto 134 55)] = true := by decide +kernel
              refine z_iinc hB rfl rfl (fun hB => ?_)
              refine z_goto hB (fun hB => ?_)
              cases h
              exact z_weak (i10 (q30, (p9.2.1 + (jn 1)), q25) b10) (z_se (z_se (z_se (z_se (z_se (z_se (z_sn z_s0)))))))
            have h := e31
            refine z_if_ne hB (fun hc _ => ?_) (fun hc _ => ?_)
            · have h := z_neg hc h
              cases h
              exact z_weak k32 (z_se (z_se (z_se (z_se (z_se (z_se (z_sn z_s0)))))))
            · have h := z_pos hc h
              have hB : z_all [z_is 80 122 (zf_iload 122 4 124), z_is 80 124 (zf_cst 124 (jn 1) 125), z_is 80 125 (zf_iload 125 6 127), z_is 80 127 (zf_ishl 127 128), z_is 80 128 (zf_ior 128 129), z_is 80 129 (zf_istore 129 4 131)] = true := by decide +kernel
              refine z_iload hB rfl (fun hB => ?_)
              refine z_cst hB (fun hB => ?_)
              refine z_iload hB rfl (fun hB => ?_)
              refine z_ishl hB (fun hB => ?_)
              refine z_ior hB (fun hB => ?_)
              refine z_istore hB rfl rfl (fun hB => ?_)
              cases h
              exact z_weak k32 (z_se (z_se (z_se (z_se (z_se (z_se (z_sn z_s0)))))))
          have h := e26
          refine z_if_ne hB (fun hc _ => ?_) (fun hc _ => ?_)
          · have h := z_neg hc h
            cases h
            exact z_weak k27 (z_se (z_se (z_se (z_se (z_se (z_se (z_se z_s0)))))))
          · have h := z_pos hc h
            have hB : z_all [z_is 80 100 (zf_iload 100 4 102), z_is 80 102 (zf_iload 102 6 104), z_is 80 104 (zf_ishr 104 105), z_is 80 105 (zf_cst 105 (jn 1) 106), z_is 80 106 (zf_iand 106 107), z_is 80 107 (zf_if1 .eq 107 115 110)] = true := by decide +kernel
            refine z_iload hB rfl (fun hB => ?_)
            refine z_iload hB rfl (fun hB => ?_)
            refine z_ishr hB (fun hB => ?_)
            refine z_cst hB (fun hB => ?_)
            refine z_iand hB (fun hB => ?_)
            refine z_if_eq hB (fun hc _ => ?_) (fun hc _ => ?_)
            · have h := z_pos hc h
              cases h
              exact z_weak k27 (z_se (z_se (z_se (z_se (z_se (z_se (z_se z_s0)))))))
            · have h := z_neg hc h
              have hB : z_all [z_is 80 110 (zf_aload 110 0 111), z_is 80 111 (zf_cst 111 (jn 3) 112), z_is 80 112 (zf_cv 112 65 1 3 115)] = true := by decide +kernel
              refine z_aload hB rfl (fun hB => ?_)
              refine z_cst hB (fun hB => ?_)
              obtain ⟨q33, e34, h⟩ := z_bind h
              refine y_cv ok hB (as := [.int ((jn 3))]) (a := 54) (rest := []) rfl rfl rfl (by decide +kernel) (t_P_fail (I := q21.2) ok e34) (fun hB => ?_)
              cases h
              exact z_weak k27 (z_se (z_se (z_se (z_se (z_se (z_se (z_se z_s0)))))))
        · have h := z_neg hc h
          have hB : z_all [z_is 80 67 (zf_aload 67 0 68), z_is 80 68 (zf_cv 68 71 0 3 71), z_is 80 71 (zf_if1 .eq 71 137 74)] = true := by decide +kernel
          refine z_aload hB rfl (fun hB => ?_)
          obtain ⟨q35, e36, h⟩ := z_bind h
          refine y_cv ok hB (as := []) (a := 54) (rest := []) rfl rfl rfl (by decide +kernel) (t_P_numberFollows (I := p9.2.2) ok ha e36) (fun hB => ?_)
          refine z_if_eq hB (fun hc _ => ?_) (fun hc _ => ?_)
          · have h := z_pos hc h
            cases h
            cases b10
            exact z_weak k13 (z_se (z_se (z_se (z_se (z_se (z_sn (z_sn z_s0)))))))
          · have h := z_neg hc h
            have hB : z_all [z_is 80 74 (zf_aload 74 0 75), z_is 80 75 (zf_cst 75 (jn 0) 76), z_is 80 76 (zf_aload 76 0 77), z_is 80 77 (zf_getr 77 3 8 80), z_is 80 80 (zf_getr 80 2 0 83), z_is 80 83 (zf_geti 83 4 1 86), z_is 80 86 (zf_cst 86 (jn 1) 87), z_is 80 87 (zf_isub 87 88), z_is 80 88 (zf_cv 88 72 2 3 91), z_is 80 91 (zf_istore 91 6 93), z_is 80 93 (zf_aload 93 0 94), z_is 80 94 (zf_cv 94 64 0 3 97), z_is 80 97 (zf_if1 .ne 97 115 100)] = true := by decide +kernel
            refine z_aload hB rfl (fun hB => ?_)
            refine z_cst hB (fun hB => ?_)
            refine z_aload hB rfl (fun hB => ?_)
            refine y_getm ok hB (by decide +kernel) ha.2.1 (fun hB => ?_)
            refine y_getr (b := (a + 1)) ok hB ha.2.2 (zla_r0 ha.2.2) (fun hB => ?_)
            refine y_geti ok hB (zla_k0 ha.2.2) (fun hB => ?_)
            refine z_cst hB (fun hB => ?_)
            refine z_isub hB (fun hB => ?_)
            obtain ⟨q37, e38, h⟩ := z_bind h
            refine y_cv ok hB (as := [.int ((jn 0)), .int (((q35.2 (a + 1) 1) - (jn 1)))]) (a := 54) (rest := []) rfl rfl rfl (by decide +kernel) (t_P_number (I := q35.2) ok ha e38) (fun hB => ?_)
            refine z_istore hB rfl rfl (fun hB => ?_)
            refine z_aload hB rfl (fun hB => ?_)
            obtain ⟨q39, e40, h⟩ := z_bind h
            refine y_cv ok hB (as := []) (a := 54) (rest := []) rfl rfl rfl (by decide +kernel) (t_P_failed (I := q37.2) ok e40) (fun hB => ?_)
            obtain ⟨q41, e42, h⟩ := z_bind h
            have k43 : z_R G 80 115 [some (.ref (54)), some (.int (q3.1)), some (.int (q5.1)), some (.int (q7.1)), some (.int (p9.1)), some (.int (p9.2.1)), some (.int (q37.1))] [] (z_w w q41) (.inl none) (z_w w r) := by
              have hB : z_all [z_is 80 115 (zf_aload 115 0 116), z_is 80 116 (zf_cv 116 64 0 3 119), z_is 80 119 (zf_if1 .ne 119 131 122)] = true := by decide +kernel
              refine z_aload hB rfl (fun hB => ?_)
              obtain ⟨q44, e45, h⟩ := z_bind h
              refine y_cv ok hB (as := []) (a := 54) (rest := []) rfl rfl rfl (by decide +kernel) (t_P_failed (I := q41) ok e45) (fun hB => ?_)
              obtain ⟨q46, e47, h⟩ := z_bind h
              have k48 : z_R G 80 131 [some (.ref (54)), some (.int (q3.1)), some (.int (q5.1)), some (.int (q7.1)), some (.int (q46)), some (.int (p9.2.1)), none] [] (z_w w q41) (.inl none) (z_w w r) := by
                have hB : z_all [z_is 80 131 (zf_iinc 131 5 (jn 1) 134), z_is 80 134 (zf_goto 134 55)] = true := by decide +kernel
                refine z_iinc hB rfl rfl (fun hB => ?_)
                refine z_goto hB (fun hB => ?_)
                cases h
                exact z_weak (i10 (q46, (p9.2.1 + (jn 1)), q41) b10) (z_se (z_se (z_se (z_se (z_se (z_se (z_sn z_s0)))))))
              have h := e47
              refine z_if_ne hB (fun hc _ => ?_) (fun hc _ => ?_)
              · have h := z_neg hc h
                cases h
                exact z_weak k48 (z_se (z_se (z_se (z_se (z_se (z_se (z_sn z_s0)))))))
              · have h := z_pos hc h
                have hB : z_all [z_is 80 122 (zf_iload 122 4 124), z_is 80 124 (zf_cst 124 (jn 1) 125), z_is 80 125 (zf_iload 125 6 127), z_is 80 127 (zf_ishl 127 128), z_is 80 128 (zf_ior 128 129), z_is 80 129 (zf_istore 129 4 131)] = true := by decide +kernel
                refine z_iload hB rfl (fun hB => ?_)
                refine z_cst hB (fun hB => ?_)
                refine z_iload hB rfl (fun hB => ?_)
                refine z_ishl hB (fun hB => ?_)
                refine z_ior hB (fun hB => ?_)
                refine z_istore hB rfl rfl (fun hB => ?_)
                cases h
                exact z_weak k48 (z_se (z_se (z_se (z_se (z_se (z_se (z_sn z_s0)))))))
            have h := e42
            refine z_if_ne hB (fun hc _ => ?_) (fun hc _ => ?_)
            · have h := z_neg hc h
              cases h
              exact z_weak k43 (z_se (z_se (z_se (z_se (z_se (z_se (z_se z_s0)))))))
            · have h := z_pos hc h
              have hB : z_all [z_is 80 100 (zf_iload 100 4 102), z_is 80 102 (zf_iload 102 6 104), z_is 80 104 (zf_ishr 104 105), z_is 80 105 (zf_cst 105 (jn 1) 106), z_is 80 106 (zf_iand 106 107), z_is 80 107 (zf_if1 .eq 107 115 110)] = true := by decide +kernel
              refine z_iload hB rfl (fun hB => ?_)
              refine z_iload hB rfl (fun hB => ?_)
              refine z_ishr hB (fun hB => ?_)
              refine z_cst hB (fun hB => ?_)
              refine z_iand hB (fun hB => ?_)
              refine z_if_eq hB (fun hc _ => ?_) (fun hc _ => ?_)
              · have h := z_pos hc h
                cases h
                exact z_weak k43 (z_se (z_se (z_se (z_se (z_se (z_se (z_se z_s0)))))))
              · have h := z_neg hc h
                have hB : z_all [z_is 80 110 (zf_aload 110 0 111), z_is 80 111 (zf_cst 111 (jn 3) 112), z_is 80 112 (zf_cv 112 65 1 3 115)] = true := by decide +kernel
                refine z_aload hB rfl (fun hB => ?_)
                refine z_cst hB (fun hB => ?_)
                obtain ⟨q49, e50, h⟩ := z_bind h
                refine y_cv ok hB (as := [.int ((jn 3))]) (a := 54) (rest := []) rfl rfl rfl (by decide +kernel) (t_P_fail (I := q37.2) ok e50) (fun hB => ?_)
                cases h
                exact z_weak k43 (z_se (z_se (z_se (z_se (z_se (z_se (z_se z_s0)))))))
  exact z_weak (l10 _ ((jn 0), (jn 0), q7.2) e12) (z_se (z_se (z_se (z_se (z_se (z_se (z_sn z_s0)))))))
def d_P_readPut (a : Nat) (I : z_H) : Option (z_H) := ((d_P_number a ((jn 0)) (((I (a + 7) 6) - (jn 1))) I).bind fun q1 => ((d_P_number a ((jn 0)) (((q1.2 (a + 1) 3) - (jn 1))) q1.2).bind fun q3 => ((d_P_failed q3.2).bind fun q5 => (if q5 = jn 0 then ((d_L_reasonAgainstPut a (q1.1) (q3.1) q3.2).bind fun q7 => (Option.bind (α := z_H) (if q7 = jn 0 then ((d_S_moveToTub (a + 7) (q1.1) (q3.1) q3.2).bind fun q12 => some (q12.2)) else ((d_P_fail ((jn 3)) q3.2).bind fun q14 => some (q14))) fun q9 => some (q9))) else some (q3.2)))))
/-- Parser.readPut()V -/
theorem t_P_readPut {G : z_G} {w : ev_W} (ok : z_Ok G w) {a : Nat} (ha : z_pc w a) {I : z_H} {r : z_H} (h : d_P_readPut a I = some r) : z_K G 81 [.ref (54)] (z_w w I) (.inl none) (z_w w r) := by
  refine z_con ok.1 (ml := 3) (by decide +kernel) rfl rfl ?_
  show z_R G 81 0 [some (.ref (54)), none, none] [] (z_w w I) (.inl none) (z_w w r)
  unfold d_P_readPut at h
  have hB : z_all [z_is 81 0 (zf_aload 0 0 1), z_is 81 1 (zf_cst 1 (jn 0) 2), z_is 81 2 (zf_aload 2 0 3), z_is 81 3 (zf_getr 3 3 8 6), z_is 81 6 (zf_getr 6 2 1 9), z_is 81 9 (zf_geti 9 5 6 12), z_is 81 12 (zf_cst 12 (jn 1) 13), z_is 81 13 (zf_isub 13 14), z_is 81 14 (zf_cv 14 72 2 3 17), z_is 81 17 (zf_istore 17 1 18), z_is 81 18 (zf_aload 18 0 19), z_is 81 19 (zf_cst 19 (jn 0) 20), z_is 81 20 (zf_aload 20 0 21), z_is 81 21 (zf_getr 21 3 8 24), z_is 81 24 (zf_getr 24 2 0 27), z_is 81 27 (zf_geti 27 4 3 30), z_is 81 30 (zf_cst 30 (jn 1) 31), z_is 81 31 (zf_isub 31 32), z_is 81 32 (zf_cv 32 72 2 3 35), z_is 81 35 (zf_istore 35 2 36), z_is 81 36 (zf_aload 36 0 37), z_is 81 37 (zf_cv 37 64 0 3 40), z_is 81 40 (zf_if1 .eq 40 44 43)] = true := by decide +kernel
  refine z_aload hB rfl (fun hB => ?_)
  refine z_cst hB (fun hB => ?_)
  refine z_aload hB rfl (fun hB => ?_)
  refine y_getm ok hB (by decide +kernel) ha.2.1 (fun hB => ?_)
  refine y_getr (b := (a + 7)) ok hB ha.2.2 (zla_r1 ha.2.2) (fun hB => ?_)
  refine y_geti ok hB (zla_k1 ha.2.2) (fun hB => ?_)
  refine z_cst hB (fun hB => ?_)
  refine z_isub hB (fun hB => ?_)
  obtain ⟨q1, e2, h⟩ := z_bind h
  refine y_cv ok hB (as := [.int ((jn 0)), .int (((I (a + 7) 6) - (jn 1)))]) (a := 54) (rest := []) rfl rfl rfl (by decide +kernel) (t_P_number (I := I) ok ha e2) (fun hB => ?_)
  refine z_istore hB rfl rfl (fun hB => ?_)
  refine z_aload hB rfl (fun hB => ?_)
  refine z_cst hB (fun hB => ?_)
  refine z_aload hB rfl (fun hB => ?_)
  refine y_getm ok hB (by decide +kernel) ha.2.1 (fun hB => ?_)
  refine y_getr (b := (a + 1)) ok hB ha.2.2 (zla_r0 ha.2.2) (fun hB => ?_)
  refine y_geti ok hB (zla_k0 ha.2.2) (fun hB => ?_)
  refine z_cst hB (fun hB => ?_)
  refine z_isub hB (fun hB => ?_)
  obtain ⟨q3, e4, h⟩ := z_bind h
  refine y_cv ok hB (as := [.int ((jn 0)), .int (((q1.2 (a + 1) 3) - (jn 1)))]) (a := 54) (rest := []) rfl rfl rfl (by decide +kernel) (t_P_number (I := q1.2) ok ha e4) (fun hB => ?_)
  refine z_istore hB rfl rfl (fun hB => ?_)
  refine z_aload hB rfl (fun hB => ?_)
  obtain ⟨q5, e6, h⟩ := z_bind h
  refine y_cv ok hB (as := []) (a := 54) (rest := []) rfl rfl rfl (by decide +kernel) (t_P_failed (I := q3.2) ok e6) (fun hB => ?_)
  refine z_if_eq hB (fun hc _ => ?_) (fun hc _ => ?_)
  · have h := z_pos hc h
    have hB : z_all [z_is 81 44 (zf_aload 44 0 45), z_is 81 45 (zf_getr 45 3 8 48), z_is 81 48 (zf_iload 48 1 49), z_is 81 49 (zf_iload 49 2 50), z_is 81 50 (zf_cv 50 37 2 2 53), z_is 81 53 (zf_if1 .eq 53 64 56)] = true := by decide +kernel
    refine z_aload hB rfl (fun hB => ?_)
    refine y_getm ok hB (by decide +kernel) ha.2.1 (fun hB => ?_)
    refine z_iload hB rfl (fun hB => ?_)
    refine z_iload hB rfl (fun hB => ?_)
    obtain ⟨q7, e8, h⟩ := z_bind h
    refine y_cv ok hB (as := [.int (q1.1), .int (q3.1)]) (a := a) (rest := []) rfl rfl rfl ha.2.2 (t_L_reasonAgainstPut (I := q3.2) ok ha.2.2 e8) (fun hB => ?_)
    obtain ⟨q9, e10, h⟩ := z_bind h
    have k11 : z_R G 81 77 [none, none, none] [] (z_w w q9) (.inl none) (z_w w r) := by
      have hB : z_all [z_is 81 77 (zf_ret 6)] = true := by decide +kernel
      cases h
      exact z_retv hB
    have h := e10
    refine z_if_eq hB (fun hc _ => ?_) (fun hc _ => ?_)
    · have h := z_pos hc h
      have hB : z_all [z_is 81 64 (zf_aload 64 0 65), z_is 81 65 (zf_getr 65 3 8 68), z_is 81 68 (zf_getr 68 2 1 71), z_is 81 71 (zf_iload 71 1 72), z_is 81 72 (zf_iload 72 2 73), z_is 81 73 (zf_cv 73 109 2 5 76), z_is 81 76 (zf_popi 76 77)] = true := by decide +kernel
      refine z_aload hB rfl (fun hB => ?_)
      refine y_getm ok hB (by decide +kernel) ha.2.1 (fun hB => ?_)
      refine y_getr (b := (a + 7)) ok hB ha.2.2 (zla_r1 ha.2.2) (fun hB => ?_)
      refine z_iload hB rfl (fun hB => ?_)
      refine z_iload hB rfl (fun hB => ?_)
      obtain ⟨q12, e13, h⟩ := z_bind h
      refine y_cv ok hB (as := [.int (q1.1), .int (q3.1)]) (a := (a + 7)) (rest := []) rfl rfl rfl (zla_k1 ha.2.2) (t_S_moveToTub (I := q3.2) ok (zla_k1 ha.2.2) e13) (fun hB => ?_)
      refine z_popi hB (fun hB => ?_)
      cases h
      exact z_weak k11 (z_sn (z_sn (z_sn z_s0)))
    · have h := z_neg hc h
      have hB : z_all [z_is 81 56 (zf_aload 56 0 57), z_is 81 57 (zf_cst 57 (jn 3) 58), z_is 81 58 (zf_cv 58 65 1 3 61), z_is 81 61 (zf_goto 61 77)] = true := by decide +kernel
      refine z_aload hB rfl (fun hB => ?_)
      refine z_cst hB (fun hB => ?_)
      obtain ⟨q14, e15, h⟩ := z_bind h
      refine y_cv ok hB (as := [.int ((jn 3))]) (a := 54) (rest := []) rfl rfl rfl (by decide +kernel) (t_P_fail (I := q3.2) ok e15) (fun hB => ?_)
      refine z_goto hB (fun hB => ?_)
      cases h
      exact z_weak k11 (z_sn (z_sn (z_sn z_s0)))
  · have h := z_neg hc h
    have hB : z_all [z_is 81 43 (zf_ret 6)] = true := by decide +kernel
    cases h
    exact z_retv hB
def d_P_readWash (a : Nat) (I : z_H) : Option (z_H) := ((d_P_number a ((jn 0)) (((I (a + 1) 3) - (jn 1))) I).bind fun q1 => ((d_P_number a ((jn 0)) ((jn 3)) q1.2).bind fun q3 => ((d_P_failed q3.2).bind fun q5 => (if q5 = jn 0 then ((d_L_reasonAgainstWash a (q1.1) (q3.1) q3.2).bind fun q7 => (Option.bind (α := z_H) (if q7 = jn 0 then ((d_L_washTub a (q1.1) (q3.1) q3.2).bind fun q12 => some (q12.2)) else ((d_P_fail ((jn 3)) q3.2).bind fun q14 => some (q14))) fun q9 => some (q9))) else some (q3.2)))))
/-- Parser.readWash()V -/
theorem t_P_readWash {G : z_G} {w : ev_W} (ok : z_Ok G w) {a : Nat} (ha : z_pc w a) {I : z_H} {r : z_H} (h : d_P_readWash a I = some r) : z_K G 82 [.ref (54)] (z_w w I) (.inl none) (z_w w r) := by
  refine z_con ok.1 (ml := 3) (by decide +kernel) rfl rfl ?_
  show z_R G 82 0 [some (.ref (54)), none, none] [] (z_w w I) (.inl none) (z_w w r)
  unfold d_P_readWash at h
  have hB : z_all [z_is 82 0 (zf_aload 0 0 1), z_is 82 1 (zf_cst 1 (jn 0) 2), z_is 82 2 (zf_aload 2 0 3), z_is 82 3 (zf_getr 3 3 8 6), z_is 82 6 (zf_getr 6 2 0 9), z_is 82 9 (zf_geti 9 4 3 12), z_is 82 12 (zf_cst 12 (jn 1) 13), z_is 82 13 (zf_isub 13 14), z_is 82 14 (zf_cv 14 72 2 3 17), z_is 82 17 (zf_istore 17 1 18), z_is 82 18 (zf_aload 18 0 19), z_is 82 19 (zf_cst 19 (jn 0) 20), z_is 82 20 (zf_cst 20 (jn 3) 21), z_is 82 21 (zf_cv 21 72 2 3 24), z_is 82 24 (zf_istore 24 2 25), z_is 82 25 (zf_aload 25 0 26), z_is 82 26 (zf_cv 26 64 0 3 29), z_is 82 29 (zf_if1 .eq 29 33 32)] = true := by decide +kernel
  refine z_aload hB rfl (fun hB => ?_)
  refine z_cst hB (fun hB => ?_)
  refine z_aload hB rfl (fun hB => ?_)
  refine y_getm ok hB (by decide +kernel) ha.2.1 (fun hB => ?_)
  refine y_getr (b := (a + 1)) ok hB ha.2.2 (zla_r0 ha.2.2) (fun hB => ?_)
  refine y_geti ok hB (zla_k0 ha.2.2) (fun hB => ?_)
  refine z_cst hB (fun hB => ?_)
  refine z_isub hB (fun hB => ?_)
  obtain ⟨q1, e2, h⟩ := z_bind h
  refine y_cv ok hB (as := [.int ((jn 0)), .int (((I (a + 1) 3) - (jn 1)))]) (a := 54) (rest := []) rfl rfl rfl (by decide +kernel) (t_P_number (I := I) ok ha e2) (fun hB => ?_)
  refine z_istore hB rfl rfl (fun hB => ?_)
  refine z_aload hB rfl (fun hB => ?_)
  refine z_cst hB (fun hB => ?_)
  refine z_cst hB (fun hB => ?_)
  obtain ⟨q3, e4, h⟩ := z_bind h
  refine y_cv ok hB (as := [.int ((jn 0)), .int ((jn 3))]) (a := 54) (rest := []) rfl rfl rfl (by decide +kernel) (t_P_number (I := q1.2) ok ha e4) (fun hB => ?_)
  refine z_istore hB rfl rfl (fun hB => ?_)
  refine z_aload hB rfl (fun hB => ?_)
  obtain ⟨q5, e6, h⟩ := z_bind h
  refine y_cv ok hB (as := []) (a := 54) (rest := []) rfl rfl rfl (by decide +kernel) (t_P_failed (I := q3.2) ok e6) (fun hB => ?_)
  refine z_if_eq hB (fun hc _ => ?_) (fun hc _ => ?_)
  · have h := z_pos hc h
    have hB : z_all [z_is 82 33 (zf_aload 33 0 34), z_is 82 34 (zf_getr 34 3 8 37), z_is 82 37 (zf_iload 37 1 38), z_is 82 38 (zf_iload 38 2 39), z_is 82 39 (zf_cv 39 38 2 2 42), z_is 82 42 (zf_if1 .eq 42 53 45)] = true := by decide +kernel
    refine z_aload hB rfl (fun hB => ?_)
    refine y_getm ok hB (by decide +kernel) ha.2.1 (fun hB => ?_)
    refine z_iload hB rfl (fun hB => ?_)
    refine z_iload hB rfl (fun hB => ?_)
    obtain ⟨q7, e8, h⟩ := z_bind h
    refine y_cv ok hB (as := [.int (q1.1), .int (q3.1)]) (a := a) (rest := []) rfl rfl rfl ha.2.2 (t_L_reasonAgainstWash (I := q3.2) ok ha.2.2 e8) (fun hB => ?_)
    obtain ⟨q9, e10, h⟩ := z_bind h
    have k11 : z_R G 82 63 [none, none, none] [] (z_w w q9) (.inl none) (z_w w r) := by
      have hB : z_all [z_is 82 63 (zf_ret 6)] = true := by decide +kernel
      cases h
      exact z_retv hB
    have h := e10
    refine z_if_eq hB (fun hc _ => ?_) (fun hc _ => ?_)
    · have h := z_pos hc h
      have hB : z_all [z_is 82 53 (zf_aload 53 0 54), z_is 82 54 (zf_getr 54 3 8 57), z_is 82 57 (zf_iload 57 1 58), z_is 82 58 (zf_iload 58 2 59), z_is 82 59 (zf_cv 59 39 2 2 62), z_is 82 62 (zf_popi 62 63)] = true := by decide +kernel
      refine z_aload hB rfl (fun hB => ?_)
      refine y_getm ok hB (by decide +kernel) ha.2.1 (fun hB => ?_)
      refine z_iload hB rfl (fun hB => ?_)
      refine z_iload hB rfl (fun hB => ?_)
      obtain ⟨q12, e13, h⟩ := z_bind h
      refine y_cv ok hB (as := [.int (q1.1), .int (q3.1)]) (a := a) (rest := []) rfl rfl rfl ha.2.2 (t_L_washTub (I := q3.2) ok ha.2.2 e13) (fun hB => ?_)
      refine z_popi hB (fun hB => ?_)
      cases h
      exact z_weak k11 (z_sn (z_sn (z_sn z_s0)))
    · have h := z_neg hc h
      have hB : z_all [z_is 82 45 (zf_aload 45 0 46), z_is 82 46 (zf_cst 46 (jn 3) 47), z_is 82 47 (zf_cv 47 65 1 3 50), z_is 82 50 (zf_goto 50 63)] = true := by decide +kernel
      refine z_aload hB rfl (fun hB => ?_)
      refine z_cst hB (fun hB => ?_)
      obtain ⟨q14, e15, h⟩ := z_bind h
      refine y_cv ok hB (as := [.int ((jn 3))]) (a := 54) (rest := []) rfl rfl rfl (by decide +kernel) (t_P_fail (I := q3.2) ok e15) (fun hB => ?_)
      refine z_goto hB (fun hB => ?_)
      cases h
      exact z_weak k11 (z_sn (z_sn (z_sn z_s0)))
  · have h := z_neg hc h
    have hB : z_all [z_is 82 32 (zf_ret 6)] = true := by decide +kernel
    cases h
    exact z_retv hB
def d_P_readHang (a : Nat) (I : z_H) : Option (z_H) := ((d_P_number a ((jn 0)) (((I (a + 7) 6) - (jn 1))) I).bind fun q1 => ((d_P_failed q1.2).bind fun q3 => (if q3 = jn 0 then ((d_L_canHang a (q1.1) q1.2).bind fun q5 => (Option.bind (α := z_H) (if q5 = jn 0 then ((d_P_fail ((jn 3)) q1.2).bind fun q12 => some (q12)) else ((d_L_hangOnFirstFree a (q1.1) q1.2).bind fun q10 => some (q10.2))) fun q7 => some (q7))) else some (q1.2))))
/-- Parser.readHang()V -/
theorem t_P_readHang {G : z_G} {w : ev_W} (ok : z_Ok G w) {a : Nat} (ha : z_pc w a) {I : z_H} {r : z_H} (h : d_P_readHang a I = some r) : z_K G 83 [.ref (54)] (z_w w I) (.inl none) (z_w w r) := by
  refine z_con ok.1 (ml := 2) (by decide +kernel) rfl rfl ?_
  show z_R G 83 0 [some (.ref (54)), none] [] (z_w w I) (.inl none) (z_w w r)
  unfold d_P_readHang at h
  have hB : z_all [z_is 83 0 (zf_aload 0 0 1), z_is 83 1 (zf_cst 1 (jn 0) 2), z_is 83 2 (zf_aload 2 0 3), z_is 83 3 (zf_getr 3 3 8 6), z_is 83 6 (zf_getr 6 2 1 9), z_is 83 9 (zf_geti 9 5 6 12), z_is 83 12 (zf_cst 12 (jn 1) 13), z_is 83 13 (zf_isub 13 14), z_is 83 14 (zf_cv 14 72 2 3 17), z_is 83 17 (zf_istore 17 1 18), z_is 83 18 (zf_aload 18 0 19), z_is 83 19 (zf_cv 19 64 0 3 22), z_is 83 22 (zf_if1 .eq 22 26 25)] = true := by decide +kernel
  refine z_aload hB rfl (fun hB => ?_)
  refine z_cst hB (fun hB => ?_)
  refine z_aload hB rfl (fun hB => ?_)
  refine y_getm ok hB (by decide +kernel) ha.2.1 (fun hB => ?_)
  refine y_getr (b := (a + 7)) ok hB ha.2.2 (zla_r1 ha.2.2) (fun hB => ?_)
  refine y_geti ok hB (zla_k1 ha.2.2) (fun hB => ?_)
  refine z_cst hB (fun hB => ?_)
  refine z_isub hB (fun hB => ?_)
  obtain ⟨q1, e2, h⟩ := z_bind h
  refine y_cv ok hB (as := [.int ((jn 0)), .int (((I (a + 7) 6) - (jn 1)))]) (a := 54) (rest := []) rfl rfl rfl (by decide +kernel) (t_P_number (I := I) ok ha e2) (fun hB => ?_)
  refine z_istore hB rfl rfl (fun hB => ?_)
  refine z_aload hB rfl (fun hB => ?_)
  obtain ⟨q3, e4, h⟩ := z_bind h
  refine y_cv ok hB (as := []) (a := 54) (rest := []) rfl rfl rfl (by decide +kernel) (t_P_failed (I := q1.2) ok e4) (fun hB => ?_)
  refine z_if_eq hB (fun hc _ => ?_) (fun hc _ => ?_)
  · have h := z_pos hc h
    have hB : z_all [z_is 83 26 (zf_aload 26 0 27), z_is 83 27 (zf_getr 27 3 8 30), z_is 83 30 (zf_iload 30 1 31), z_is 83 31 (zf_cv 31 50 1 2 34), z_is 83 34 (zf_if1 .ne 34 45 37)] = true := by decide +kernel
    refine z_aload hB rfl (fun hB => ?_)
    refine y_getm ok hB (by decide +kernel) ha.2.1 (fun hB => ?_)
    refine z_iload hB rfl (fun hB => ?_)
    obtain ⟨q5, e6, h⟩ := z_bind h
    refine y_cv ok hB (as := [.int (q1.1)]) (a := a) (rest := []) rfl rfl rfl ha.2.2 (t_L_canHang (I := q1.2) ok ha.2.2 e6) (fun hB => ?_)
    obtain ⟨q7, e8, h⟩ := z_bind h
    have k9 : z_R G 83 54 [none, none] [] (z_w w q7) (.inl none) (z_w w r) := by
      have hB : z_all [z_is 83 54 (zf_ret 6)] = true := by decide +kernel
      cases h
      exact z_retv hB
    have h := e8
    refine z_if_ne hB (fun hc _ => ?_) (fun hc _ => ?_)
    · have h := z_neg hc h
      have hB : z_all [z_is 83 45 (zf_aload 45 0 46), z_is 83 46 (zf_getr 46 3 8 49), z_is 83 49 (zf_iload 49 1 50), z_is 83 50 (zf_cv 50 51 1 2 53), z_is 83 53 (zf_popi 53 54)] = true := by decide +kernel
      refine z_aload hB rfl (fun hB => ?_)
      refine y_getm ok hB (by decide +kernel) ha.2.1 (fun hB => ?_)
      refine z_iload hB rfl (fun hB => ?_)
      obtain ⟨q10, e11, h⟩ := z_bind h
      refine y_cv ok hB (as := [.int (q1.1)]) (a := a) (rest := []) rfl rfl rfl ha.2.2 (t_L_hangOnFirstFree (I := q1.2) ok ha.2.2 e11) (fun hB => ?_)
      refine z_popi hB (fun hB => ?_)
      cases h
      exact z_weak k9 (z_sn (z_sn z_s0))
    · have h := z_pos hc h
      have hB : z_all [z_is 83 37 (zf_aload 37 0 38), z_is 83 38 (zf_cst 38 (jn 3) 39), z_is 83 39 (zf_cv 39 65 1 3 42), z_is 83 42 (zf_goto 42 54)] = true := by decide +kernel
      refine z_aload hB rfl (fun hB => ?_)
      refine z_cst hB (fun hB => ?_)
      obtain ⟨q12, e13, h⟩ := z_bind h
      refine y_cv ok hB (as := [.int ((jn 3))]) (a := 54) (rest := []) rfl rfl rfl (by decide +kernel) (t_P_fail (I := q1.2) ok e13) (fun hB => ?_)
      refine z_goto hB (fun hB => ?_)
      cases h
      exact z_weak k9 (z_sn (z_sn z_s0))
  · have h := z_neg hc h
    have hB : z_all [z_is 83 25 (zf_ret 6)] = true := by decide +kernel
    cases h
    exact z_retv hB
def d_P_readWind (a : Nat) (I : z_H) : Option (z_H) := ((d_P_number a ((jn 0)) ((jn 9)) I).bind fun q1 => ((d_P_failed q1.2).bind fun q3 => (Option.bind (α := z_H) (if q3 = jn 0 then some ((ev_u2 q1.2 (a + 7) 1 q1.1)) else some (q1.2)) fun q5 => some (q5))))
/-- Parser.readWind()V -/
theorem t_P_readWind {G : z_G} {w : ev_W} (ok : z_Ok G w) {a : Nat} (ha : z_pc w a) {I : z_H} {r : z_H} (h : d_P_readWind a I = some r) : z_K G 84 [.ref (54)] (z_w w I) (.inl none) (z_w w r) := by
  refine z_con ok.1 (ml := 2) (by decide +kernel) rfl rfl ?_
  show z_R G 84 0 [some (.ref (54)), none] [] (z_w w I) (.inl none) (z_w w r)
  unfold d_P_readWind at h
  have hB : z_all [z_is 84 0 (zf_aload 0 0 1), z_is 84 1 (zf_cst 1 (jn 0) 2), z_is 84 2 (zf_cst 2 (jn 9) 4), z_is 84 4 (zf_cv 4 72 2 3 7), z_is 84 7 (zf_istore 7 1 8), z_is 84 8 (zf_aload 8 0 9), z_is 84 9 (zf_cv 9 64 0 3 12), z_is 84 12 (zf_if1 .ne 12 26 15)] = true := by decide +kernel
  refine z_aload hB rfl (fun hB => ?_)
  refine z_cst hB (fun hB => ?_)
  refine z_cst hB (fun hB => ?_)
  obtain ⟨q1, e2, h⟩ := z_bind h
  refine y_cv ok hB (as := [.int ((jn 0)), .int ((jn 9))]) (a := 54) (rest := []) rfl rfl rfl (by decide +kernel) (t_P_number (I := I) ok ha e2) (fun hB => ?_)
  refine z_istore hB rfl rfl (fun hB => ?_)
  refine z_aload hB rfl (fun hB => ?_)
  obtain ⟨q3, e4, h⟩ := z_bind h
  refine y_cv ok hB (as := []) (a := 54) (rest := []) rfl rfl rfl (by decide +kernel) (t_P_failed (I := q1.2) ok e4) (fun hB => ?_)
  obtain ⟨q5, e6, h⟩ := z_bind h
  have k7 : z_R G 84 26 [none, none] [] (z_w w q5) (.inl none) (z_w w r) := by
    have hB : z_all [z_is 84 26 (zf_ret 6)] = true := by decide +kernel
    cases h
    exact z_retv hB
  have h := e6
  refine z_if_ne hB (fun hc _ => ?_) (fun hc _ => ?_)
  · have h := z_neg hc h
    cases h
    exact z_weak k7 (z_sn (z_sn z_s0))
  · have h := z_pos hc h
    have hB : z_all [z_is 84 15 (zf_aload 15 0 16), z_is 84 16 (zf_getr 16 3 8 19), z_is 84 19 (zf_getr 19 2 1 22), z_is 84 22 (zf_iload 22 1 23), z_is 84 23 (zf_puti 23 5 1 26)] = true := by decide +kernel
    refine z_aload hB rfl (fun hB => ?_)
    refine y_getm ok hB (by decide +kernel) ha.2.1 (fun hB => ?_)
    refine y_getr (b := (a + 7)) ok hB ha.2.2 (zla_r1 ha.2.2) (fun hB => ?_)
    refine z_iload hB rfl (fun hB => ?_)
    refine y_puti ok hB (zla_k1 ha.2.2) (fun hB => ?_)
    cases h
    exact z_weak k7 (z_sn (z_sn z_s0))
def d_P_readPass (a : Nat) (I : z_H) : Option (z_H) := ((d_P_number a ((jn 1)) ((jn 50)) I).bind fun q1 => ((d_P_failed q1.2).bind fun q3 => (Option.bind (α := z_H) (if q3 = jn 0 then ((d_S_passHours (a + 7) (q1.1) q1.2).bind fun q8 => some (q8.2)) else some (q1.2)) fun q5 => some (q5))))
/-- Parser.readPass()V -/
theorem t_P_readPass {G : z_G} {w : ev_W} (ok : z_Ok G w) {a : Nat} (ha : z_pc w a) {I : z_H} {r : z_H} (h : d_P_readPass a I = some r) : z_K G 85 [.ref (54)] (z_w w I) (.inl none) (z_w w r) := by
  refine z_con ok.1 (ml := 2) (by decide +kernel) rfl rfl ?_
  show z_R G 85 0 [some (.ref (54)), none] [] (z_w w I) (.inl none) (z_w w r)
  unfold d_P_readPass at h
  have hB : z_all [z_is 85 0 (zf_aload 0 0 1), z_is 85 1 (zf_cst 1 (jn 1) 2), z_is 85 2 (zf_cst 2 (jn 50) 4), z_is 85 4 (zf_cv 4 72 2 3 7), z_is 85 7 (zf_istore 7 1 8), z_is 85 8 (zf_aload 8 0 9), z_is 85 9 (zf_cv 9 64 0 3 12), z_is 85 12 (zf_if1 .ne 12 27 15)] = true := by decide +kernel
  refine z_aload hB rfl (fun hB => ?_)
  refine z_cst hB (fun hB => ?_)
  refine z_cst hB (fun hB => ?_)
  obtain ⟨q1, e2, h⟩ := z_bind h
  refine y_cv ok hB (as := [.int ((jn 1)), .int ((jn 50))]) (a := 54) (rest := []) rfl rfl rfl (by decide +kernel) (t_P_number (I := I) ok ha e2) (fun hB => ?_)
  refine z_istore hB rfl rfl (fun hB => ?_)
  refine z_aload hB rfl (fun hB => ?_)
  obtain ⟨q3, e4, h⟩ := z_bind h
  refine y_cv ok hB (as := []) (a := 54) (rest := []) rfl rfl rfl (by decide +kernel) (t_P_failed (I := q1.2) ok e4) (fun hB => ?_)
  obtain ⟨q5, e6, h⟩ := z_bind h
  have k7 : z_R G 85 27 [none, none] [] (z_w w q5) (.inl none) (z_w w r) := by
    have hB : z_all [z_is 85 27 (zf_ret 6)] = true := by decide +kernel
    cases h
    exact z_retv hB
  have h := e6
  refine z_if_ne hB (fun hc _ => ?_) (fun hc _ => ?_)
  · have h := z_neg hc h
    cases h
    exact z_weak k7 (z_sn (z_sn z_s0))
  · have h := z_pos hc h
    have hB : z_all [z_is 85 15 (zf_aload 15 0 16), z_is 85 16 (zf_getr 16 3 8 19), z_is 85 19 (zf_getr 19 2 1 22), z_is 85 22 (zf_iload 22 1 23), z_is 85 23 (zf_cv 23 115 1 5 26), z_is 85 26 (zf_popi 26 27)] = true := by decide +kernel
    refine z_aload hB rfl (fun hB => ?_)
    refine y_getm ok hB (by decide +kernel) ha.2.1 (fun hB => ?_)
    refine y_getr (b := (a + 7)) ok hB ha.2.2 (zla_r1 ha.2.2) (fun hB => ?_)
    refine z_iload hB rfl (fun hB => ?_)
    obtain ⟨q8, e9, h⟩ := z_bind h
    refine y_cv ok hB (as := [.int (q1.1)]) (a := (a + 7)) (rest := []) rfl rfl rfl (zla_k1 ha.2.2) (t_S_passHours (I := q1.2) ok (zla_k1 ha.2.2) e9) (fun hB => ?_)
    refine z_popi hB (fun hB => ?_)
    cases h
    exact z_weak k7 (z_sn (z_sn z_s0))
def d_P_readLine (a : Nat) (I : z_H) : Option (z_H) := ((d_P_next a I).bind fun q1 => ((d_P_failed q1).bind fun q3 => (if q3 = jn 0 then ((d_P_isWord a (2) q1).bind fun q5 => (Option.bind (α := z_H) (if q5 = jn 0 then ((d_P_isWord a (3) q1).bind fun q10 => (if q10 = jn 0 then ((d_P_isWord a (4) q1).bind fun q12 => (if q12 = jn 0 then ((d_P_isWord a (5) q1).bind fun q14 => (if q14 = jn 0 then ((d_P_isWord a (6) q1).bind fun q16 => (if q16 = jn 0 then ((d_P_isWord a (7) q1).bind fun q18 => (if q18 = jn 0 then ((d_P_isWord a (8) q1).bind fun q20 => (if q20 = jn 0 then ((d_P_isWord a (9) q1).bind fun q22 => (if q22 = jn 0 then ((d_P_isWord a (10) q1).bind fun q24 => (if q24 = jn 0 then ((d_P_fail ((jn 1)) q1).bind fun q26 => some (q26)) else ((d_P_readPass a q1).bind fun q28 => some (q28)))) else ((d_P_readWind a q1).bind fun q30 => some (q30)))) else ((d_P_readHang a q1).bind fun q32 => some (q32)))) else ((d_P_readWash a q1).bind fun q34 => some (q34)))) else ((d_P_readPut a q1).bind fun q36 => some (q36)))) else ((d_P_readFlag a q1).bind fun q38 => some (q38)))) else ((d_P_readTub a q1).bind fun q40 => some (q40)))) else ((d_P_readNation a q1).bind fun q42 => some (q42)))) else ((d_P_readColour a q1).bind fun q44 => some (q44))) fun q7 => some (q7))) else some (q1))))
/-- Parser.readLine()V -/
theorem t_P_readLine {G : z_G} {w : ev_W} (ok : z_Ok G w) {a : Nat} (ha : z_pc w a) {I : z_H} {r : z_H} (h : d_P_readLine a I = some r) : z_K G 75 [.ref (54)] (z_w w I) (.inl none) (z_w w r) := by
  refine z_con ok.1 (ml := 1) (by decide +kernel) rfl rfl ?_
  show z_R G 75 0 [some (.ref (54))] [] (z_w w I) (.inl none) (z_w w r)
  unfold d_P_readLine at h
  have hB : z_all [z_is 75 0 (zf_aload 0 0 1), z_is 75 1 (zf_cv 1 69 0 3 4), z_is 75 4 (zf_aload 4 0 5), z_is 75 5 (zf_cv 5 64 0 3 8), z_is 75 8 (zf_if1 .eq 8 12 11)] = true := by decide +kernel
  refine z_aload hB rfl (fun hB => ?_)
  obtain ⟨q1, e2, h⟩ := z_bind h
  refine y_cv ok hB (as := []) (a := 54) (rest := []) rfl rfl rfl (by decide +kernel) (t_P_next (I := I) ok ha e2) (fun hB => ?_)
  refine z_aload hB rfl (fun hB => ?_)
  obtain ⟨q3, e4, h⟩ := z_bind h
  refine y_cv ok hB (as := []) (a := 54) (rest := []) rfl rfl rfl (by decide +kernel) (t_P_failed (I := q1) ok e4) (fun hB => ?_)
  refine z_if_eq hB (fun hc _ => ?_) (fun hc _ => ?_)
  · have h := z_pos hc h
    have hB : z_all [z_is 75 12 (zf_aload 12 0 13), z_is 75 13 (zf_lds 13 2 15), z_is 75 15 (zf_cv 15 70 1 3 18), z_is 75 18 (zf_if1 .eq 18 28 21)] = true := by decide +kernel
    refine z_aload hB rfl (fun hB => ?_)
    refine z_lds hB (fun hB => ?_)
    obtain ⟨q5, e6, h⟩ := z_bind h
    refine y_cv ok hB (as := [.ref (ev_S + 1 + 2)]) (a := 54) (rest := []) rfl rfl rfl (by decide +kernel) (t_P_isWord (I := q1) ok ha e6) (fun hB => ?_)
    obtain ⟨q7, e8, h⟩ := z_bind h
    have k9 : z_R G 75 161 [none] [] (z_w w q7) (.inl none) (z_w w r) := by
      have hB : z_all [z_is 75 161 (zf_ret 6)] = true := by decide +kernel
      cases h
      exact z_retv hB
    have h := e8
    refine z_if_eq hB (fun hc _ => ?_) (fun hc _ => ?_)
    · have h := z_pos hc h
      have hB : z_all [z_is 75 28 (zf_aload 28 0 29), z_is 75 29 (zf_lds 29 3 31), z_is 75 31 (zf_cv 31 70 1 3 34), z_is 75 34 (zf_if1 .eq 34 44 37)] = true := by decide +kernel
      refine z_aload hB rfl (fun hB => ?_)
      refine z_lds hB (fun hB => ?_)
      obtain ⟨q10, e11, h⟩ := z_bind h
      refine y_cv ok hB (as := [.ref (ev_S + 1 + 3)]) (a := 54) (rest := []) rfl rfl rfl (by decide +kernel) (t_P_isWord (I := q1) ok ha e11) (fun hB => ?_)
      refine z_if_eq hB (fun hc _ => ?_) (fun hc _ => ?_)
      · have h := z_pos hc h
        have hB : z_all [z_is 75 44 (zf_aload 44 0 45), z_is 75 45 (zf_lds 45 4 47), z_is 75 47 (zf_cv 47 70 1 3 50), z_is 75 50 (zf_if1 .eq 50 60 53)] = true := by decide +kernel
        refine z_aload hB rfl (fun hB => ?_)
        refine z_lds hB (fun hB => ?_)
        obtain ⟨q12, e13, h⟩ := z_bind h
        refine y_cv ok hB (as := [.ref (ev_S + 1 + 4)]) (a := 54) (rest := []) rfl rfl rfl (by decide +kernel) (t_P_isWord (I := q1) ok ha e13) (fun hB => ?_)
        refine z_if_eq hB (fun hc _ => ?_) (fun hc _ => ?_)
        · have h := z_pos hc h
          have hB : z_all [z_is 75 60 (zf_aload 60 0 61), z_is 75 61 (zf_lds 61 5 63), z_is 75 63 (zf_cv 63 70 1 3 66), z_is 75 66 (zf_if1 .eq 66 76 69)] = true := by decide +kernel
          refine z_aload hB rfl (fun hB => ?_)
          refine z_lds hB (fun hB => ?_)
          obtain ⟨q14, e15, h⟩ := z_bind h
          refine y_cv ok hB (as := [.ref (ev_S + 1 + 5)]) (a := 54) (rest := []) rfl rfl rfl (by decide +kernel) (t_P_isWord (I := q1) ok ha e15) (fun hB => ?_)
          refine z_if_eq hB (fun hc _ => ?_) (fun hc _ => ?_)
          · have h := z_pos hc h
            have hB : z_all [z_is 75 76 (zf_aload 76 0 77), z_is 75 77 (zf_lds 77 6 79), z_is 75 79 (zf_cv 79 70 1 3 82), z_is 75 82 (zf_if1 .eq 82 92 85)] = true := by decide +kernel
            refine z_aload hB rfl (fun hB => ?_)
            refine z_lds hB (fun hB => ?_)
            obtain ⟨q16, e17, h⟩ := z_bind h
            refine y_cv ok hB (as := [.ref (ev_S + 1 + 6)]) (a := 54) (rest := []) rfl rfl rfl (by decide +kernel) (t_P_isWord (I := q1) ok ha e17) (fun hB => ?_)
            refine z_if_eq hB (fun hc _ => ?_) (fun hc _ => ?_)
            · have h := z_pos hc h
              have hB : z_all [z_is 75 92 (zf_aload 92 0 93), z_is 75 93 (zf_lds 93 7 95), z_is 75 95 (zf_cv 95 70 1 3 98), z_is 75 98 (zf_if1 .eq 98 108 101)] = true := by decide +kernel
              refine z_aload hB rfl (fun hB => ?_)
              refine z_lds hB (fun hB => ?_)
              obtain ⟨q18, e19, h⟩ := z_bind h
              refine y_cv ok hB (as := [.ref (ev_S + 1 + 7)]) (a := 54) (rest := []) rfl rfl rfl (by decide +kernel) (t_P_isWord (I := q1) ok ha e19) (fun hB => ?_)
              refine z_if_eq hB (fun hc _ => ?_) (fun hc _ => ?_)
              · have h := z_pos hc h
                have hB : z_all [z_is 75 108 (zf_aload 108 0 109), z_is 75 109 (zf_lds 109 8 111), z_is 75 111 (zf_cv 111 70 1 3 114), z_is 75 114 (zf_if1 .eq 114 124 117)] = true := by decide +kernel
                refine z_aload hB rfl (fun hB => ?_)
                refine z_lds hB (fun hB => ?_)
                obtain ⟨q20, e21, h⟩ := z_bind h
                refine y_cv ok hB (as := [.ref (ev_S + 1 + 8)]) (a := 54) (rest := []) rfl rfl rfl (by decide +kernel) (t_P_isWord (I := q1) ok ha e21) (fun hB => ?_)
                refine z_if_eq hB (fun hc _ => ?_) (fun hc _ => ?_)
                · have h := z_pos hc h
                  have hB : z_all [z_is 75 124 (zf_aload 124 0 125), z_is 75 125 (zf_lds 125 9 127), z_is 75 127 (zf_cv 127 70 1 3 130), z_is 75 130 (zf_if1 .eq 130 140 133)] = true := by decide +kernel
                  refine z_aload hB rfl (fun hB => ?_)
                  refine z_lds hB (fun hB => ?_)
                  obtain ⟨q22, e23, h⟩ := z_bind h
                  refine y_cv ok hB (as := [.ref (ev_S + 1 + 9)]) (a := 54) (rest := []) rfl rfl rfl (by decide +kernel) (t_P_isWord (I := q1) ok ha e23) (fun hB => ?_)
                  refine z_if_eq hB (fun hc _ => ?_) (fun hc _ => ?_)
                  · have h := z_pos hc h
                    have hB : z_all [z_is 75 140 (zf_aload 140 0 141), z_is 75 141 (zf_lds 141 10 143), z_is 75 143 (zf_cv 143 70 1 3 146), z_is 75 146 (zf_if1 .eq 146 156 149)] = true := by decide +kernel
                    refine z_aload hB rfl (fun hB => ?_)
                    refine z_lds hB (fun hB => ?_)
                    obtain ⟨q24, e25, h⟩ := z_bind h
                    refine y_cv ok hB (as := [.ref (ev_S + 1 + 10)]) (a := 54) (rest := []) rfl rfl rfl (by decide +kernel) (t_P_isWord (I := q1) ok ha e25) (fun hB => ?_)
                    refine z_if_eq hB (fun hc _ => ?_) (fun hc _ => ?_)
                    · have h := z_pos hc h
                      have hB : z_all [z_is 75 156 (zf_aload 156 0 157), z_is 75 157 (zf_cst 157 (jn 1) 158), z_is 75 158 (zf_cv 158 65 1 3 161)] = true := by decide +kernel
                      refine z_aload hB rfl (fun hB => ?_)
                      refine z_cst hB (fun hB => ?_)
                      obtain ⟨q26, e27, h⟩ := z_bind h
                      refine y_cv ok hB (as := [.int ((jn 1))]) (a := 54) (rest := []) rfl rfl rfl (by decide +kernel) (t_P_fail (I := q1) ok e27) (fun hB => ?_)
                      cases h
                      exact z_weak k9 (z_sn z_s0)
                    · have h := z_neg hc h
                      have hB : z_all [z_is 75 149 (zf_aload 149 0 150), z_is 75 150 (zf_cv 150 85 0 3 153), z_is 75 153 (zf_goto 153 161)] = true := by decide +kernel
                      refine z_aload hB rfl (fun hB => ?_)
                      obtain ⟨q28, e29, h⟩ := z_bind h
                      refine y_cv ok hB (as := []) (a := 54) (rest := []) rfl rfl rfl (by decide +kernel) (t_P_readPass (I := q1) ok ha e29) (fun hB => ?_)
                      refine z_goto hB (fun hB => ?_)
                      cases h
                      exact z_weak k9 (z_sn z_s0)
                  · have h := z_neg hc h
                    have hB : z_all [z_is 75 133 (zf_aload 133 0 134), z_is 75 134 (zf_cv 134 84 0 3 137), z_is 75 137 (zf_goto 137 161)] = true := by decide +kernel
                    refine z_aload hB rfl (fun hB => ?_)
                    obtain ⟨q30, e31, h⟩ := z_bind h
                    refine y_cv ok hB (as := []) (a := 54) (rest := []) rfl rfl rfl (by decide +kernel) (t_P_readWind (I := q1) ok ha e31) (fun hB => ?_)
                    refine z_goto hB (fun hB => ?_)
                    cases h
                    exact z_weak k9 (z_sn z_s0)
                · have h := z_neg hc h
                  have hB : z_all [z_is 75 117 (zf_aload 117 0 118), z_is 75 118 (zf_cv 118 83 0 3 121), z_is 75 121 (zf_goto 121 161)] = true := by decide +kernel
                  refine z_aload hB rfl (fun hB => ?_)
                  obtain ⟨q32, e33, h⟩ := z_bind h
                  refine y_cv ok hB (as := []) (a := 54) (rest := []) rfl rfl rfl (by decide +kernel) (t_P_readHang (I := q1) ok ha e33) (fun hB => ?_)
                  refine z_goto hB (fun hB => ?_)
                  cases h
                  exact z_weak k9 (z_sn z_s0)
              · have h := z_neg hc h
                have hB : z_all [z_is 75 101 (zf_aload 101 0 102), z_is 75 102 (zf_cv 102 82 0 3 105), z_is 75 105 (zf_goto 105 161)] = true := by decide +kernel
                refine z_aload hB rfl (fun hB => ?_)
                obtain ⟨q34, e35, h⟩ := z_bind h
                refine y_cv ok hB (as := []) (a := 54) (rest := []) rfl rfl rfl (by decide +kernel) (t_P_readWash (I := q1) ok ha e35) (fun hB => ?_)
                refine z_goto hB (fun hB => ?_)
                cases h
                exact z_weak k9 (z_sn z_s0)
            · have h := z_neg hc h
              have hB : z_all [z_is 75 85 (zf_aload 85 0 86), z_is 75 86 (zf_cv 86 81 0 3 89), z_is 75 89 (zf_goto 89 161)] = true := by decide +kernel
              refine z_aload hB rfl (fun hB => ?_)
              obtain ⟨q36, e37, h⟩ := z_bind h
              refine y_cv ok hB (as := []) (a := 54) (rest := []) rfl rfl rfl (by decide +kernel) (t_P_readPut (I := q1) ok ha e37) (fun hB => ?_)
              refine z_goto hB (fun hB => ?_)
              cases h
              exact z_weak k9 (z_sn z_s0)
          · have h := z_neg hc h
            have hB : z_all [z_is 75 69 (zf_aload 69 0 70), z_is 75 70 (zf_cv 70 80 0 3 73), z_is 75 73 (zf_goto 73 161)] = true := by decide +kernel
            refine z_aload hB rfl (fun hB => ?_)
            obtain ⟨q38, e39, h⟩ := z_bind h
            refine y_cv ok hB (as := []) (a := 54) (rest := []) rfl rfl rfl (by decide +kernel) (t_P_readFlag (I := q1) ok ha e39) (fun hB => ?_)
            refine z_goto hB (fun hB => ?_)
            cases h
            exact z_weak k9 (z_sn z_s0)
        · have h := z_neg hc h
          have hB : z_all [z_is 75 53 (zf_aload 53 0 54), z_is 75 54 (zf_cv 54 79 0 3 57), z_is 75 57 (zf_goto 57 161)] = true := by decide +kernel
          refine z_aload hB rfl (fun hB => ?_)
          obtain ⟨q40, e41, h⟩ := z_bind h
          refine y_cv ok hB (as := []) (a := 54) (rest := []) rfl rfl rfl (by decide +kernel) (t_P_readTub (I := q1) ok ha e41) (fun hB => ?_)
          refine z_goto hB (fun hB => ?_)
          cases h
          exact z_weak k9 (z_sn z_s0)
      · have h := z_neg hc h
        have hB : z_all [z_is 75 37 (zf_aload 37 0 38), z_is 75 38 (zf_cv 38 78 0 3 41), z_is 75 41 (zf_goto 41 161)] = true := by decide +kernel
        refine z_aload hB rfl (fun hB => ?_)
        obtain ⟨q42, e43, h⟩ := z_bind h
        refine y_cv ok hB (as := []) (a := 54) (rest := []) rfl rfl rfl (by decide +kernel) (t_P_readNation (I := q1) ok ha e43) (fun hB => ?_)
        refine z_goto hB (fun hB => ?_)
        cases h
        exact z_weak k9 (z_sn z_s0)
    · have h := z_neg hc h
      have hB : z_all [z_is 75 21 (zf_aload 21 0 22), z_is 75 22 (zf_cv 22 77 0 3 25), z_is 75 25 (zf_goto 25 161)] = true := by decide +kernel
      refine z_aload hB rfl (fun hB => ?_)
      obtain ⟨q44, e45, h⟩ := z_bind h
      refine y_cv ok hB (as := []) (a := 54) (rest := []) rfl rfl rfl (by decide +kernel) (t_P_readColour (I := q1) ok ha e45) (fun hB => ?_)
      refine z_goto hB (fun hB => ?_)
      cases h
      exact z_weak k9 (z_sn z_s0)
  · have h := z_neg hc h
    have hB : z_all [z_is 75 11 (zf_ret 6)] = true := by decide +kernel
    cases h
    exact z_retv hB
def d_P_read_6 (a : Nat) (p5 : Int32 × z_H) : Option ((Int32 × z_H) ⊕ (Int32 × z_H)) := (if p5.1 < (p5.2 54 3) then ((d_P_failed p5.2).bind fun q12 => (if q12 = jn 0 then (if (p5.2 54 5) = (jn 3) then ((d_P_readLine a p5.2).bind fun q14 => ((d_P_next a q14).bind fun q16 => some (Sum.inl ((p5.1 + (jn 1)), q16)))) else some (Sum.inr (p5.1, p5.2))) else some (Sum.inr (p5.1, p5.2)))) else some (Sum.inr (p5.1, p5.2)))
def d_P_read (a : Nat) (x2 : Int32) (I : z_H) : Option (z_H) := ((d_L_clear a (ev_u2 (ev_u2 (ev_u2 (ev_u2 (ev_u2 I 54 3 (z_mn (x2) ((jn 500)))) 54 4 (jn 0)) 54 5 (jn 0)) 54 0 (jn 0)) 54 1 (jg 1))).bind fun q1 => ((d_P_readFirstLine a q1).bind fun q3 => ((z_it (d_P_read_6 a) z_F ((jn 0), q3)).bind fun q7 => ((d_P_readEnd a q7.2).bind fun q10 => some (q10)))))
/-- Parser.read([BILFlagLaundry$Laundry;)V -/
theorem t_P_read {G : z_G} {w : ev_W} (ok : z_Ok G w) {a : Nat} {x2 : Int32} (hr3 : zt 2 a = true) {I : z_H} {r : z_H} (h : d_P_read a x2 I = some r) : z_K G 63 [.ref (54), .ref (1), .int (x2), .ref (a)] (z_w w I) (.inl none) (z_w (z_par w a) r) := by
  refine z_con ok.1 (ml := 5) (by decide +kernel) rfl rfl ?_
  show z_R G 63 0 [some (.ref (54)), some (.ref (1)), some (.int (x2)), some (.ref (a)), none] [] (z_w w I) (.inl none) (z_w (z_par w a) r)
  unfold d_P_read at h
  have hB : z_all [z_is 63 0 (zf_aload 0 0 1), z_is 63 1 (zf_aload 1 1 2), z_is 63 2 (zf_putr 2 3 2 5), z_is 63 5 (zf_aload 5 0 6), z_is 63 6 (zf_iload 6 2 7), z_is 63 7 (zf_aload 7 1 8), z_is 63 8 (zf_alen 8 9), z_is 63 9 (zf_nat 9 101 12), z_is 63 12 (zf_puti 12 3 3 15), z_is 63 15 (zf_aload 15 0 16), z_is 63 16 (zf_cst 16 (jn 0) 17), z_is 63 17 (zf_puti 17 3 4 20), z_is 63 20 (zf_aload 20 0 21), z_is 63 21 (zf_cst 21 (jn 0) 22), z_is 63 22 (zf_puti 22 3 5 25), z_is 63 25 (zf_aload 25 0 26), z_is 63 26 (zf_cst 26 (jn 0) 27), z_is 63 27 (zf_puti 27 3 0 30), z_is 63 30 (zf_aload 30 0 31), z_is 63 31 (zf_cst 31 (jg 1) 32), z_is 63 32 (zf_puti 32 3 1 35), z_is 63 35 (zf_aload 35 0 36), z_is 63 36 (zf_aload 36 3 37), z_is 63 37 (zf_putr 37 3 8 40), z_is 63 40 (zf_aload 40 0 41), z_is 63 41 (zf_getr 41 3 8 44), z_is 63 44 (zf_cv 44 29 0 2 47), z_is 63 47 (zf_aload 47 0 48), z_is 63 48 (zf_cv 48 73 0 3 51), z_is 63 51 (zf_cst 51 (jn 0) 52), z_is 63 52 (zf_istore 52 4 54)] = true := by decide +kernel
  refine z_aload hB rfl (fun hB => ?_)
  refine z_aload hB rfl (fun hB => ?_)
  refine y_putr ok hB (by decide +kernel) (fun hB => ?_)
  have ok0 := ok
  have ok := z_Ok_sR (a := 54) (k := 2) (x := some 1) ok0 (by decide +kernel)
  refine z_aload hB rfl (fun hB => ?_)
  refine z_iload hB rfl (fun hB => ?_)
  refine z_aload hB rfl (fun hB => ?_)
  refine y_alenb (N := 500) ok hB (by decide +kernel) (by decide +kernel) (fun hB => ?_)
  refine z_min hB rfl (fun hB => ?_)
  refine y_puti ok hB (by decide +kernel) (fun hB => ?_)
  refine z_aload hB rfl (fun hB => ?_)
  refine z_cst hB (fun hB => ?_)
  refine y_puti ok hB (by decide +kernel) (fun hB => ?_)
  refine z_aload hB rfl (fun hB => ?_)
  refine z_cst hB (fun hB => ?_)
  refine y_puti ok hB (by decide +kernel) (fun hB => ?_)
  refine z_aload hB rfl (fun hB => ?_)
  refine z_cst hB (fun hB => ?_)
  refine y_puti ok hB (by decide +kernel) (fun hB => ?_)
  refine z_aload hB rfl (fun hB => ?_)
  refine z_cst hB (fun hB => ?_)
  refine y_puti ok hB (by decide +kernel) (fun hB => ?_)
  refine z_aload hB rfl (fun hB => ?_)
  refine z_aload hB rfl (fun hB => ?_)
  refine y_putr ok hB (by decide +kernel) (fun hB => ?_)
  have ok := z_Ok_par (a := a) ok0
  have ha := z_pc_par (w := w) hr3
  show z_R G 63 40 _ _ (z_w (z_par w a) _) _ _
  refine z_aload hB rfl (fun hB => ?_)
  refine y_getm ok hB (by decide +kernel) ha.2.1 (fun hB => ?_)
  obtain ⟨q1, e2, h⟩ := z_bind h
  refine y_cv ok hB (as := []) (a := a) (rest := []) rfl rfl rfl ha.2.2 (t_L_clear (I := (ev_u2 (ev_u2 (ev_u2 (ev_u2 (ev_u2 I 54 3 (z_mn (x2) ((jn 500)))) 54 4 (jn 0)) 54 5 (jn 0)) 54 0 (jn 0)) 54 1 (jg 1))) ok ha.2.2 e2) (fun hB => ?_)
  refine z_aload hB rfl (fun hB => ?_)
  obtain ⟨q3, e4, h⟩ := z_bind h
  refine y_cv ok hB (as := []) (a := 54) (rest := []) rfl rfl rfl (by decide +kernel) (t_P_readFirstLine (I := q1) ok ha e4) (fun hB => ?_)
  refine z_cst hB (fun hB => ?_)
  refine z_istore hB rfl rfl (fun hB => ?_)
  obtain ⟨q7, e8, h⟩ := z_bind h
  have k9 : z_R G 63 92 [some (.ref (54)), none, none, none, none] [] (z_w (z_par w a) q7.2) (.inl none) (z_w (z_par w a) r) := by
    have hB : z_all [z_is 63 92 (zf_aload 92 0 93), z_is 63 93 (zf_cv 93 74 0 3 96), z_is 63 96 (zf_ret 6)] = true := by decide +kernel
    refine z_aload hB rfl (fun hB => ?_)
    obtain ⟨q10, e11, h⟩ := z_bind h
    refine y_cv ok hB (as := []) (a := 54) (rest := []) rfl rfl rfl (by decide +kernel) (t_P_readEnd (I := q7.2) ok ha e11) (fun hB => ?_)
    cases h
    exact z_retv hB
  have l6 : ∀ (m6 : Nat) (p5 : Int32 × z_H), z_it (d_P_read_6 a) m6 p5 = some q7 → z_R G 63 54 [some (.ref (54)), none, none, none, some (.int (p5.1))] [] (z_w (z_par w a) p5.2) (.inl none) (z_w (z_par w a) r) := by
    intro m6
    induction m6 with
    | zero => intro p5 h; cases h
    | succ m6 i6 =>
      intro p5 h
      obtain ⟨u6, h, b6⟩ := z_it_o h
      unfold d_P_read_6 at h
      have hB : z_all [z_is 63 54 (zf_iload 54 4 56), z_is 63 56 (zf_aload 56 0 57), z_is 63 57 (zf_geti 57 3 3 60), z_is 63 60 (zf_if2 .ge 60 92 63)] = true := by decide +kernel
      refine z_iload hB rfl (fun hB => ?_)
      refine z_aload hB rfl (fun hB => ?_)
      refine y_geti ok hB (by decide +kernel) (fun hB => ?_)
      refine z_ic_ge hB (fun hc _ => ?_) (fun hc _ => ?_)
      · have h := z_neg hc h
        cases h
        cases b6
        exact z_weak k9 (z_se (z_sn (z_sn (z_sn (z_sn z_s0)))))
      · have h := z_pos hc h
        have hB : z_all [z_is 63 63 (zf_aload 63 0 64), z_is 63 64 (zf_cv 64 64 0 3 67), z_is 63 67 (zf_if1 .ne 67 92 70)] = true := by decide +kernel
        refine z_aload hB rfl (fun hB => ?_)
        obtain ⟨q12, e13, h⟩ := z_bind h
        refine y_cv ok hB (as := []) (a := 54) (rest := []) rfl rfl rfl (by decide +kernel) (t_P_failed (I := p5.2) ok e13) (fun hB => ?_)
        refine z_if_ne hB (fun hc _ => ?_) (fun hc _ => ?_)
        · have h := z_neg hc h
          cases h
          cases b6
          exact z_weak k9 (z_se (z_sn (z_sn (z_sn (z_sn z_s0)))))
        · have h := z_pos hc h
          have hB : z_all [z_is 63 70 (zf_aload 70 0 71), z_is 63 71 (zf_geti 71 3 5 74), z_is 63 74 (zf_cst 74 (jn 3) 75), z_is 63 75 (zf_if2 .ne 75 92 78)] = true := by decide +kernel
          refine z_aload hB rfl (fun hB => ?_)
          refine y_geti ok hB (by decide +kernel) (fun hB => ?_)
          refine z_cst hB (fun hB => ?_)
          refine z_ic_ne hB (fun hc _ => ?_) (fun hc _ => ?_)
          · have h := z_neg hc h
            cases h
            cases b6
            exact z_weak k9 (z_se (z_sn (z_sn (z_sn (z_sn z_s0)))))
          · have h := z_pos hc h
            have hB : z_all [z_is 63 78 (zf_aload 78 0 79), z_is 63 79 (zf_cv 79 75 0 3 82), z_is 63 82 (zf_aload 82 0 83), z_is 63 83 (zf_cv 83 69 0 3 86), z_is 63 86 (zf_iinc 86 4 (jn 1) 89), z_is 63 89 (zf_goto 89 54)] = true := by decide +kernel
            refine z_aload hB rfl (fun hB => ?_)
            obtain ⟨q14, e15, h⟩ := z_bind h
            refine y_cv ok hB (as := []) (a := 54) (rest := []) rfl rfl rfl (by decide +kernel) (t_P_readLine (I := p5.2) ok ha e15) (fun hB => ?_)
            refine z_aload hB rfl (fun hB => ?_)
            obtain ⟨q16, e17, h⟩ := z_bind h
            refine y_cv ok hB (as := []) (a := 54) (rest := []) rfl rfl rfl (by decide +kernel) (t_P_next (I := q14) ok ha e17) (fun hB => ?_)
            refine z_iinc hB rfl rfl (fun hB => ?_)
            refine z_goto hB (fun hB => ?_)
            cases h
            exact z_weak (i6 ((p5.1 + (jn 1)), q16) b6) (z_se (z_sn (z_sn (z_sn (z_se z_s0)))))
  exact z_weak (l6 _ ((jn 0), q3) e8) (z_se (z_sn (z_sn (z_sn (z_se z_s0)))))
