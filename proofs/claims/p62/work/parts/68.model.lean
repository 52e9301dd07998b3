/-! texts of the methods, and that the bytecode does what they say: by wip/gen/zd.py -/
def d_M_thrown  (I : z_H) : Option (Int32) := some ((I 241 0))
/-- FlagLaundryModel.thrown()I -/
theorem t_M_thrown {G : z_G} {w : ev_W} (ok : z_Ok G w) {I : z_H} {r : Int32} (h : d_M_thrown I = some r) : z_K G 202 [.ref (241)] (z_w w I) (.inl (some (.int r))) (z_w w I) := by
  refine z_con ok.1 (ml := 1) (by decide +kernel) rfl rfl ?_
  show z_R G 202 0 [some (.ref (241))] [] (z_w w I) (.inl (some (.int r))) (z_w w I)
  unfold d_M_thrown at h
  have hB : z_all [z_is 202 0 (zf_aload 0 0 1), z_is 202 1 (zf_geti 1 8 0 4), z_is 202 4 (zf_ret 0)] = true := by decide +kernel
  refine z_aload hB rfl (fun hB => ?_)
  refine y_geti ok hB (by decide +kernel) (fun hB => ?_)
  cases h
  exact z_reti hB
def d_M_in (x1 : Int32) (x2 : Int32) (x3 : Int32) : Option (Int32) := (Option.bind (α := Int32) (if x1 < x2 then some ((jn 0)) else (if x3 < x1 then some ((jn 0)) else some ((jn 1)))) fun q1 => (if (q1) = jn 0 ∨ (q1) = jn 1 then some (q1) else none))
/-- FlagLaundryModel.in(III)Z -/
theorem t_M_in {G : z_G} {w : ev_W} (ok : z_Ok G w) {x1 : Int32} {x2 : Int32} {x3 : Int32} {I : z_H} {r : Int32} (h : d_M_in x1 x2 x3 = some r) : z_K G 203 [.int (x1), .int (x2), .int (x3)] (z_w w I) (.inl (some (.int r))) (z_w w I) := by
  refine z_con ok.1 (ml := 3) (by decide +kernel) rfl rfl ?_
  show z_R G 203 0 [some (.int (x1)), some (.int (x2)), some (.int (x3))] [] (z_w w I) (.inl (some (.int r))) (z_w w I)
  unfold d_M_in at h
  have hB : z_all [z_is 203 0 (zf_iload 0 1 1), z_is 203 1 (zf_iload 1 0 2), z_is 203 2 (zf_if2 .gt 2 14 5)] = true := by decide +kernel
  refine z_iload hB rfl (fun hB => ?_)
  refine z_iload hB rfl (fun hB => ?_)
  obtain ⟨q1, e2, h⟩ := z_bind h
  have k3 : z_R G 203 15 [none, none, none] [.int (q1)] (z_w w I) (.inl (some (.int r))) (z_w w I) := by
    have hB : z_all [z_is 203 15 (zf_ret 1)] = true := by decide +kernel
    obtain ⟨g4, h⟩ := z_gd h
    cases h
    exact z_retz hB g4
  have h := e2
  refine z_ic_gt hB (fun hc _ => ?_) (fun hc _ => ?_)
  · have h := z_pos hc h
    have hB : z_all [z_is 203 14 (zf_cst 14 (jn 0) 15)] = true := by decide +kernel
    refine z_cst hB (fun hB => ?_)
    cases h
    exact z_weak k3 (z_sn (z_sn (z_sn z_s0)))
  · have h := z_neg hc h
    have hB : z_all [z_is 203 5 (zf_iload 5 0 6), z_is 203 6 (zf_iload 6 2 7), z_is 203 7 (zf_if2 .gt 7 14 10)] = true := by decide +kernel
    refine z_iload hB rfl (fun hB => ?_)
    refine z_iload hB rfl (fun hB => ?_)
    refine z_ic_gt hB (fun hc _ => ?_) (fun hc _ => ?_)
    · have h := z_pos hc h
      have hB : z_all [z_is 203 14 (zf_cst 14 (jn 0) 15)] = true := by decide +kernel
      refine z_cst hB (fun hB => ?_)
      cases h
      exact z_weak k3 (z_sn (z_sn (z_sn z_s0)))
    · have h := z_neg hc h
      have hB : z_all [z_is 203 10 (zf_cst 10 (jn 1) 11), z_is 203 11 (zf_goto 11 15)] = true := by decide +kernel
      refine z_cst hB (fun hB => ?_)
      refine z_goto hB (fun hB => ?_)
      cases h
      exact z_weak k3 (z_sn (z_sn (z_sn z_s0)))
def d_M_one (x1 : Int32) : Option (Int32) := (Option.bind (α := Int32) (if x1 = jn 0 then some ((jn 0)) else some ((jn 1))) fun q1 => some (q1))
/-- FlagLaundryModel.one(Z)I -/
theorem t_M_one {G : z_G} {w : ev_W} (ok : z_Ok G w) {x1 : Int32} {I : z_H} {r : Int32} (h : d_M_one x1 = some r) : z_K G 204 [.int (x1)] (z_w w I) (.inl (some (.int r))) (z_w w I) := by
  refine z_con ok.1 (ml := 1) (by decide +kernel) rfl rfl ?_
  show z_R G 204 0 [some (.int (x1))] [] (z_w w I) (.inl (some (.int r))) (z_w w I)
  unfold d_M_one at h
  have hB : z_all [z_is 204 0 (zf_iload 0 0 1), z_is 204 1 (zf_if1 .eq 1 8 4)] = true := by decide +kernel
  refine z_iload hB rfl (fun hB => ?_)
  obtain ⟨q1, e2, h⟩ := z_bind h
  have k3 : z_R G 204 9 [none] [.int (q1)] (z_w w I) (.inl (some (.int r))) (z_w w I) := by
    have hB : z_all [z_is 204 9 (zf_ret 0)] = true := by decide +kernel
    cases h
    exact z_reti hB
  have h := e2
  refine z_if_eq hB (fun hc _ => ?_) (fun hc _ => ?_)
  · have h := z_pos hc h
    have hB : z_all [z_is 204 8 (zf_cst 8 (jn 0) 9)] = true := by decide +kernel
    refine z_cst hB (fun hB => ?_)
    cases h
    exact z_weak k3 (z_sn z_s0)
  · have h := z_neg hc h
    have hB : z_all [z_is 204 4 (zf_cst 4 (jn 1) 5), z_is 204 5 (zf_goto 5 9)] = true := by decide +kernel
    refine z_cst hB (fun hB => ?_)
    refine z_goto hB (fun hB => ?_)
    cases h
    exact z_weak k3 (z_sn z_s0)
def d_M_has (x1 : Int32) (x2 : Int32) : Option (Int32) := (Option.bind (α := Int32) (if ((x1 >>> (x2 &&& 31)) &&& (jn 1)) = (jn 1) then some ((jn 1)) else some ((jn 0))) fun q1 => (if (q1) = jn 0 ∨ (q1) = jn 1 then some (q1) else none))
/-- FlagLaundryModel.has(II)Z -/
theorem t_M_has {G : z_G} {w : ev_W} (ok : z_Ok G w) {x1 : Int32} {x2 : Int32} {I : z_H} {r : Int32} (h : d_M_has x1 x2 = some r) : z_K G 205 [.int (x1), .int (x2)] (z_w w I) (.inl (some (.int r))) (z_w w I) := by
  refine z_con ok.1 (ml := 2) (by decide +kernel) rfl rfl ?_
  show z_R G 205 0 [some (.int (x1)), some (.int (x2))] [] (z_w w I) (.inl (some (.int r))) (z_w w I)
  unfold d_M_has at h
  have hB : z_all [z_is 205 0 (zf_iload 0 0 1), z_is 205 1 (zf_iload 1 1 2), z_is 205 2 (zf_ishr 2 3), z_is 205 3 (zf_cst 3 (jn 1) 4), z_is 205 4 (zf_iand 4 5), z_is 205 5 (zf_cst 5 (jn 1) 6), z_is 205 6 (zf_if2 .ne 6 13 9)] = true := by decide +kernel
  refine z_iload hB rfl (fun hB => ?_)
  refine z_iload hB rfl (fun hB => ?_)
  refine z_ishr hB (fun hB => ?_)
  refine z_cst hB (fun hB => ?_)
  refine z_iand hB (fun hB => ?_)
  refine z_cst hB (fun hB => ?_)
  obtain ⟨q1, e2, h⟩ := z_bind h
  have k3 : z_R G 205 14 [none, none] [.int (q1)] (z_w w I) (.inl (some (.int r))) (z_w w I) := by
    have hB : z_all [z_is 205 14 (zf_ret 1)] = true := by decide +kernel
    obtain ⟨g4, h⟩ := z_gd h
    cases h
    exact z_retz hB g4
  have h := e2
  refine z_ic_ne hB (fun hc _ => ?_) (fun hc _ => ?_)
  · have h := z_neg hc h
    have hB : z_all [z_is 205 13 (zf_cst 13 (jn 0) 14)] = true := by decide +kernel
    refine z_cst hB (fun hB => ?_)
    cases h
    exact z_weak k3 (z_sn (z_sn z_s0))
  · have h := z_pos hc h
    have hB : z_all [z_is 205 9 (zf_cst 9 (jn 1) 10), z_is 205 10 (zf_goto 10 14)] = true := by decide +kernel
    refine z_cst hB (fun hB => ?_)
    refine z_goto hB (fun hB => ?_)
    cases h
    exact z_weak k3 (z_sn (z_sn z_s0))
def d_M_may (x1 : Int32) (x2 : Int32) (x3 : Int32) (I : z_H) : Option (Int32 × z_H) := (Option.bind (α := Int32) (if x1 = jn 0 then some ((jn 1)) else (if x2 = jn 0 then some ((jn 2)) else (if x3 = jn 0 then some ((jn 3)) else some ((jn 0))))) fun q1 => (Option.bind (α := Int32) (if ((ev_u2 I 241 0 q1) 241 0) = jn 0 then some ((jn 1)) else some ((jn 0))) fun q4 => (if (q4) = jn 0 ∨ (q4) = jn 1 then some ((q4, (ev_u2 I 241 0 q1))) else none)))
/-- FlagLaundryModel.may(ZZZ)Z -/
theorem t_M_may {G : z_G} {w : ev_W} (ok : z_Ok G w) {x1 : Int32} {x2 : Int32} {x3 : Int32} {I : z_H} {r : Int32 × z_H} (h : d_M_may x1 x2 x3 I = some r) : z_K G 206 [.ref (241), .int (x1), .int (x2), .int (x3)] (z_w w I) (.inl (some (.int r.1))) (z_w w r.2) := by
  refine z_con ok.1 (ml := 4) (by decide +kernel) rfl rfl ?_
  show z_R G 206 0 [some (.ref (241)), some (.int (x1)), some (.int (x2)), some (.int (x3))] [] (z_w w I) (.inl (some (.int r.1))) (z_w w r.2)
  unfold d_M_may at h
  have hB : z_all [z_is 206 0 (zf_aload 0 0 1), z_is 206 1 (zf_iload 1 1 2), z_is 206 2 (zf_if1 .ne 2 9 5)] = true := by decide +kernel
  refine z_aload hB rfl (fun hB => ?_)
  refine z_iload hB rfl (fun hB => ?_)
  obtain ⟨q1, e2, h⟩ := z_bind h
  have k3 : z_R G 206 26 [some (.ref (241)), none, none, none] [.int (q1), .ref (241)] (z_w w I) (.inl (some (.int r.1))) (z_w w r.2) := by
    have hB : z_all [z_is 206 26 (zf_puti 26 8 0 29), z_is 206 29 (zf_aload 29 0 30), z_is 206 30 (zf_geti 30 8 0 33), z_is 206 33 (zf_if1 .ne 33 40 36)] = true := by decide +kernel
    refine y_puti ok hB (by decide +kernel) (fun hB => ?_)
    refine z_aload hB rfl (fun hB => ?_)
    refine y_geti ok hB (by decide +kernel) (fun hB => ?_)
    obtain ⟨q4, e5, h⟩ := z_bind h
    have k6 : z_R G 206 41 [none, none, none, none] [.int (q4)] (z_w w (ev_u2 I 241 0 q1)) (.inl (some (.int r.1))) (z_w w r.2) := by
      have hB : z_all [z_is 206 41 (zf_ret 1)] = true := by decide +kernel
      obtain ⟨g7, h⟩ := z_gd h
      cases h
      exact z_retz hB g7
    have h := e5
    refine z_if_ne hB (fun hc _ => ?_) (fun hc _ => ?_)
    · have h := z_neg hc h
      have hB : z_all [z_is 206 40 (zf_cst 40 (jn 0) 41)] = true := by decide +kernel
      refine z_cst hB (fun hB => ?_)
      cases h
      exact z_weak k6 (z_sn (z_sn (z_sn (z_sn z_s0))))
    · have h := z_pos hc h
      have hB : z_all [z_is 206 36 (zf_cst 36 (jn 1) 37), z_is 206 37 (zf_goto 37 41)] = true := by decide +kernel
      refine z_cst hB (fun hB => ?_)
      refine z_goto hB (fun hB => ?_)
      cases h
      exact z_weak k6 (z_sn (z_sn (z_sn (z_sn z_s0))))
  have h := e2
  refine z_if_ne hB (fun hc _ => ?_) (fun hc _ => ?_)
  · have h := z_neg hc h
    have hB : z_all [z_is 206 9 (zf_iload 9 2 10), z_is 206 10 (zf_if1 .ne 10 17 13)] = true := by decide +kernel
    refine z_iload hB rfl (fun hB => ?_)
    refine z_if_ne hB (fun hc _ => ?_) (fun hc _ => ?_)
    · have h := z_neg hc h
      have hB : z_all [z_is 206 17 (zf_iload 17 3 18), z_is 206 18 (zf_if1 .eq 18 25 21)] = true := by decide +kernel
      refine z_iload hB rfl (fun hB => ?_)
      refine z_if_eq hB (fun hc _ => ?_) (fun hc _ => ?_)
      · have h := z_pos hc h
        have hB : z_all [z_is 206 25 (zf_cst 25 (jn 3) 26)] = true := by decide +kernel
        refine z_cst hB (fun hB => ?_)
        cases h
        exact z_weak k3 (z_se (z_sn (z_sn (z_sn z_s0))))
      · have h := z_neg hc h
        have hB : z_all [z_is 206 21 (zf_cst 21 (jn 0) 22), z_is 206 22 (zf_goto 22 26)] = true := by decide +kernel
        refine z_cst hB (fun hB => ?_)
        refine z_goto hB (fun hB => ?_)
        cases h
        exact z_weak k3 (z_se (z_sn (z_sn (z_sn z_s0))))
    · have h := z_pos hc h
      have hB : z_all [z_is 206 13 (zf_cst 13 (jn 2) 14), z_is 206 14 (zf_goto 14 26)] = true := by decide +kernel
      refine z_cst hB (fun hB => ?_)
      refine z_goto hB (fun hB => ?_)
      cases h
      exact z_weak k3 (z_se (z_sn (z_sn (z_sn z_s0))))
  · have h := z_pos hc h
    have hB : z_all [z_is 206 5 (zf_cst 5 (jn 1) 6), z_is 206 6 (zf_goto 6 26)] = true := by decide +kernel
    refine z_cst hB (fun hB => ?_)
    refine z_goto hB (fun hB => ?_)
    cases h
    exact z_weak k3 (z_se (z_sn (z_sn (z_sn z_s0))))
def d_M_mayTwo (x1 : Int32) (x2 : Int32) (I : z_H) : Option (Int32 × z_H) := ((d_M_may (x1) (x2) ((jn 1)) I).bind fun q1 => (if (q1.1) = jn 0 ∨ (q1.1) = jn 1 then some ((q1.1, q1.2)) else none))
/-- FlagLaundryModel.mayTwo(ZZ)Z -/
theorem t_M_mayTwo {G : z_G} {w : ev_W} (ok : z_Ok G w) {x1 : Int32} {x2 : Int32} {I : z_H} {r : Int32 × z_H} (h : d_M_mayTwo x1 x2 I = some r) : z_K G 207 [.ref (241), .int (x1), .int (x2)] (z_w w I) (.inl (some (.int r.1))) (z_w w r.2) := by
  refine z_con ok.1 (ml := 3) (by decide +kernel) rfl rfl ?_
  show z_R G 207 0 [some (.ref (241)), some (.int (x1)), some (.int (x2))] [] (z_w w I) (.inl (some (.int r.1))) (z_w w r.2)
  unfold d_M_mayTwo at h
  have hB : z_all [z_is 207 0 (zf_aload 0 0 1), z_is 207 1 (zf_iload 1 1 2), z_is 207 2 (zf_iload 2 2 3), z_is 207 3 (zf_cst 3 (jn 1) 4), z_is 207 4 (zf_cv 4 206 3 8 7), z_is 207 7 (zf_ret 1)] = true := by decide +kernel
  refine z_aload hB rfl (fun hB => ?_)
  refine z_iload hB rfl (fun hB => ?_)
  refine z_iload hB rfl (fun hB => ?_)
  refine z_cst hB (fun hB => ?_)
  obtain ⟨q1, e2, h⟩ := z_bind h
  refine y_cv ok hB (as := [.int (x1), .int (x2), .int ((jn 1))]) (a := 241) (rest := []) rfl rfl rfl (by decide +kernel) (t_M_may (I := I) ok e2) (fun hB => ?_)
  obtain ⟨g3, h⟩ := z_gd h
  cases h
  exact z_retz hB g3
def d_M_mayLook  (I : z_H) : Option (Int32 × z_H) := ((d_M_may ((I 241 6)) ((jn 1)) ((jn 1)) I).bind fun q1 => (if (q1.1) = jn 0 ∨ (q1.1) = jn 1 then some ((q1.1, q1.2)) else none))
/-- FlagLaundryModel.mayLook()Z -/
theorem t_M_mayLook {G : z_G} {w : ev_W} (ok : z_Ok G w) {I : z_H} {r : Int32 × z_H} (h : d_M_mayLook I = some r) : z_K G 208 [.ref (241)] (z_w w I) (.inl (some (.int r.1))) (z_w w r.2) := by
  refine z_con ok.1 (ml := 1) (by decide +kernel) rfl rfl ?_
  show z_R G 208 0 [some (.ref (241))] [] (z_w w I) (.inl (some (.int r.1))) (z_w w r.2)
  unfold d_M_mayLook at h
  have hB : z_all [z_is 208 0 (zf_aload 0 0 1), z_is 208 1 (zf_aload 1 0 2), z_is 208 2 (zf_geti 2 8 6 5), z_is 208 5 (zf_cst 5 (jn 1) 6), z_is 208 6 (zf_cst 6 (jn 1) 7), z_is 208 7 (zf_cv 7 206 3 8 10), z_is 208 10 (zf_ret 1)] = true := by decide +kernel
  refine z_aload hB rfl (fun hB => ?_)
  refine z_aload hB rfl (fun hB => ?_)
  refine y_geti ok hB (by decide +kernel) (fun hB => ?_)
  refine z_cst hB (fun hB => ?_)
  refine z_cst hB (fun hB => ?_)
  obtain ⟨q1, e2, h⟩ := z_bind h
  refine y_cv ok hB (as := [.int ((I 241 6)), .int ((jn 1)), .int ((jn 1))]) (a := 241) (rest := []) rfl rfl rfl (by decide +kernel) (t_M_may (I := I) ok e2) (fun hB => ?_)
  obtain ⟨g3, h⟩ := z_gd h
  cases h
  exact z_retz hB g3
def d_M_lays_2 (r1 : Nat) (x2 : Int32) (r3 : Nat) (x4 : Int32) (p1 : Int32 × z_H) : Option ((Int32 × z_H) ⊕ (Int32 × z_H)) := (if p1.1 < (jn 173) then (if z_in ((x2 + p1.1)) (z_l r1) then (if z_in ((x4 + p1.1)) (z_l r3) then some (Sum.inl ((p1.1 + (jn 1)), (ev_u2 p1.2 r3 (z_n ((x4 + p1.1))) (p1.2 r1 (z_n ((x2 + p1.1))))))) else none) else none) else some (Sum.inr (p1.1, p1.2)))
def d_M_lays (r1 : Nat) (x2 : Int32) (r3 : Nat) (x4 : Int32) (I : z_H) : Option (z_H) := ((z_it (d_M_lays_2 r1 x2 r3 x4) z_F ((jn 0), I)).bind fun q3 => some (q3.2))
/-- FlagLaundryModel.lays([II[II)V -/
theorem t_M_lays {G : z_G} {w : ev_W} (ok : z_Ok G w) {r1 : Nat} {x2 : Int32} {r3 : Nat} {x4 : Int32} (hr1 : zt 10 r1 = true) (hr3 : zt 10 r3 = true) {I : z_H} {r : z_H} (h : d_M_lays r1 x2 r3 x4 I = some r) : z_K G 209 [.ref (r1), .int (x2), .ref (r3), .int (x4)] (z_w w I) (.inl none) (z_w w r) := by
  refine z_con ok.1 (ml := 5) (by decide +kernel) rfl rfl ?_
  show z_R G 209 0 [some (.ref (r1)), some (.int (x2)), some (.ref (r3)), some (.int (x4)), none] [] (z_w w I) (.inl none) (z_w w r)
  unfold d_M_lays at h
  have hB : z_all [z_is 209 0 (zf_cst 0 (jn 0) 1), z_is 209 1 (zf_istore 1 4 3)] = true := by decide +kernel
  refine z_cst hB (fun hB => ?_)
  refine z_istore hB rfl rfl (fun hB => ?_)
  obtain ⟨q3, e4, h⟩ := z_bind h
  have k5 : z_R G 209 29 [none, none, none, none, none] [] (z_w w q3.2) (.inl none) (z_w w r) := by
    have hB : z_all [z_is 209 29 (zf_ret 6)] = true := by decide +kernel
    cases h
    exact z_retv hB
  have l2 : ∀ (m2 : Nat) (p1 : Int32 × z_H), z_it (d_M_lays_2 r1 x2 r3 x4) m2 p1 = some q3 → z_R G 209 3 [some (.ref (r1)), some (.int (x2)), some (.ref (r3)), some (.int (x4)), some (.int (p1.1))] [] (z_w w p1.2) (.inl none) (z_w w r) := by
    intro m2
    induction m2 with
    | zero => intro p1 h; cases h
    | succ m2 i2 =>
      intro p1 h
      obtain ⟨u2, h, b2⟩ := z_it_o h
      unfold d_M_lays_2 at h
      have hB : z_all [z_is 209 3 (zf_iload 3 4 5), z_is 209 5 (zf_cst 5 (jn 173) 8), z_is 209 8 (zf_if2 .ge 8 29 11)] = true := by decide +kernel
      refine z_iload hB rfl (fun hB => ?_)
      refine z_cst hB (fun hB => ?_)
      refine z_ic_ge hB (fun hc _ => ?_) (fun hc _ => ?_)
      · have h := z_neg hc h
        cases h
        cases b2
        exact z_weak k5 (z_sn (z_sn (z_sn (z_sn (z_sn z_s0)))))
      · have h := z_pos hc h
        have hB : z_all [z_is 209 11 (zf_aload 11 2 12), z_is 209 12 (zf_iload 12 3 13), z_is 209 13 (zf_iload 13 4 15), z_is 209 15 (zf_iadd 15 16), z_is 209 16 (zf_aload 16 0 17), z_is 209 17 (zf_iload 17 1 18), z_is 209 18 (zf_iload 18 4 20), z_is 209 20 (zf_iadd 20 21), z_is 209 21 (zf_iald 21 22), z_is 209 22 (zf_iast 22 23), z_is 209 23 (zf_iinc 23 4 (jn 1) 26), z_is 209 26 (zf_goto 26 3)] = true := by decide +kernel
        refine z_aload hB rfl (fun hB => ?_)
        refine z_iload hB rfl (fun hB => ?_)
        refine z_iload hB rfl (fun hB => ?_)
        refine z_iadd hB (fun hB => ?_)
        refine z_aload hB rfl (fun hB => ?_)
        refine z_iload hB rfl (fun hB => ?_)
        refine z_iload hB rfl (fun hB => ?_)
        refine z_iadd hB (fun hB => ?_)
        obtain ⟨g6, h⟩ := z_gd h
        refine y_iald ok hB hr1 rfl g6 (fun hB => ?_)
        obtain ⟨g7, h⟩ := z_gd h
        refine y_iast ok hB hr3 rfl g7 (fun hB => ?_)
        refine z_iinc hB rfl rfl (fun hB => ?_)
        refine z_goto hB (fun hB => ?_)
        cases h
        exact z_weak (i2 ((p1.1 + (jn 1)), (ev_u2 p1.2 r3 (z_n ((x4 + p1.1))) (p1.2 r1 (z_n ((x2 + p1.1)))))) b2) (z_se (z_se (z_se (z_se (z_se z_s0)))))
  exact z_weak (l2 _ ((jn 0), I) e4) (z_se (z_se (z_se (z_se (z_se z_s0)))))
def d_M_thinks  (I : z_H) : Option (z_H) := ((d_M_lays (242) ((jn 0)) (243) ((jn 0)) I).bind fun q1 => some (q1))
/-- FlagLaundryModel.thinks()V -/
theorem t_M_thinks {G : z_G} {w : ev_W} (ok : z_Ok G w) {I : z_H} {r : z_H} (h : d_M_thinks I = some r) : z_K G 210 [.ref (241)] (z_w w I) (.inl none) (z_w w r) := by
  refine z_con ok.1 (ml := 1) (by decide +kernel) rfl rfl ?_
  show z_R G 210 0 [some (.ref (241))] [] (z_w w I) (.inl none) (z_w w r)
  unfold d_M_thinks at h
  have hB : z_all [z_is 210 0 (zf_aload 0 0 1), z_is 210 1 (zf_getr 1 8 1 4), z_is 210 4 (zf_cst 4 (jn 0) 5), z_is 210 5 (zf_aload 5 0 6), z_is 210 6 (zf_getr 6 8 2 9), z_is 210 9 (zf_cst 9 (jn 0) 10), z_is 210 10 (zf_cs 10 209 4 13), z_is 210 13 (zf_ret 6)] = true := by decide +kernel
  refine z_aload hB rfl (fun hB => ?_)
  refine y_getr (b := 242) ok hB (by decide +kernel) (by decide +kernel) (fun hB => ?_)
  refine z_cst hB (fun hB => ?_)
  refine z_aload hB rfl (fun hB => ?_)
  refine y_getr (b := 243) ok hB (by decide +kernel) (by decide +kernel) (fun hB => ?_)
  refine z_cst hB (fun hB => ?_)
  obtain ⟨q1, e2, h⟩ := z_bind h
  refine z_callS hB (as := [.ref (242), .int ((jn 0)), .ref (243), .int ((jn 0))]) (rest := []) rfl rfl rfl (t_M_lays (I := I) ok (by decide +kernel) (by decide +kernel) e2) (fun hB => ?_)
  cases h
  exact z_retv hB
def d_M_back (x1 : Int32) (I : z_H) : Option (Int32 × z_H) := ((d_M_lays (243) ((jn 0)) (242) ((jn 0)) I).bind fun q1 => some ((x1, q1)))
/-- FlagLaundryModel.back(I)I -/
theorem t_M_back {G : z_G} {w : ev_W} (ok : z_Ok G w) {x1 : Int32} {I : z_H} {r : Int32 × z_H} (h : d_M_back x1 I = some r) : z_K G 211 [.ref (241), .int (x1)] (z_w w I) (.inl (some (.int r.1))) (z_w w r.2) := by
  refine z_con ok.1 (ml := 2) (by decide +kernel) rfl rfl ?_
  show z_R G 211 0 [some (.ref (241)), some (.int (x1))] [] (z_w w I) (.inl (some (.int r.1))) (z_w w r.2)
  unfold d_M_back at h
  have hB : z_all [z_is 211 0 (zf_aload 0 0 1), z_is 211 1 (zf_getr 1 8 2 4), z_is 211 4 (zf_cst 4 (jn 0) 5), z_is 211 5 (zf_aload 5 0 6), z_is 211 6 (zf_getr 6 8 1 9), z_is 211 9 (zf_cst 9 (jn 0) 10), z_is 211 10 (zf_cs 10 209 4 13), z_is 211 13 (zf_iload 13 1 14), z_is 211 14 (zf_ret 0)] = true := by decide +kernel
  refine z_aload hB rfl (fun hB => ?_)
  refine y_getr (b := 243) ok hB (by decide +kernel) (by decide +kernel) (fun hB => ?_)
  refine z_cst hB (fun hB => ?_)
  refine z_aload hB rfl (fun hB => ?_)
  refine y_getr (b := 242) ok hB (by decide +kernel) (by decide +kernel) (fun hB => ?_)
  refine z_cst hB (fun hB => ?_)
  obtain ⟨q1, e2, h⟩ := z_bind h
  refine z_callS hB (as := [.ref (243), .int ((jn 0)), .ref (242), .int ((jn 0))]) (rest := []) rfl rfl rfl (t_M_lays (I := I) ok (by decide +kernel) (by decide +kernel) e2) (fun hB => ?_)
  refine z_iload hB rfl (fun hB => ?_)
  cases h
  exact z_reti hB
def d_M_four_2 (x1 : Int32) (p1 : Int32 × z_H) : Option ((Int32 × z_H) ⊕ (Int32 × z_H)) := (if p1.1 < jn 0 then some (Sum.inr (p1.1, p1.2)) else (if z_in ((p1.2 241 9)) 500 then (Option.bind (α := z_H) (some (ev_u2 (ev_u2 p1.2 247 (z_n ((p1.2 241 9))) (vp_nar .byte (((x1 >>> (((jn 8) * p1.1) &&& 31))).toInt8.toInt32))) 241 9 (((ev_u2 p1.2 247 (z_n ((p1.2 241 9))) (vp_nar .byte (((x1 >>> (((jn 8) * p1.1) &&& 31))).toInt8.toInt32))) 241 9) + (jn 1)))) fun J7 => some (Sum.inl ((p1.1 + (jg 1)), J7))) else none))
def d_M_four (x1 : Int32) (I : z_H) : Option (z_H) := ((z_it (d_M_four_2 x1) z_F ((jn 3), I)).bind fun q3 => some (q3.2))
/-- FlagLaundryModel.four(I)V -/
theorem t_M_four {G : z_G} {w : ev_W} (ok : z_Ok G w) {x1 : Int32} {I : z_H} {r : z_H} (h : d_M_four x1 I = some r) : z_K G 213 [.ref (241), .int (x1)] (z_w w I) (.inl none) (z_w w r) := by
  refine z_con ok.1 (ml := 3) (by decide +kernel) rfl rfl ?_
  show z_R G 213 0 [some (.ref (241)), some (.int (x1)), none] [] (z_w w I) (.inl none) (z_w w r)
  unfold d_M_four at h
  have hB : z_all [z_is 213 0 (zf_cst 0 (jn 3) 1), z_is 213 1 (zf_istore 1 2 2)] = true := by decide +kernel
  refine z_cst hB (fun hB => ?_)
  refine z_istore hB rfl rfl (fun hB => ?_)
  obtain ⟨q3, e4, h⟩ := z_bind h
  have k5 : z_R G 213 38 [none, none, none] [] (z_w w q3.2) (.inl none) (z_w w r) := by
    have hB : z_all [z_is 213 38 (zf_ret 6)] = true := by decide +kernel
    cases h
    exact z_retv hB
  have l2 : ∀ (m2 : Nat) (p1 : Int32 × z_H), z_it (d_M_four_2 x1) m2 p1 = some q3 → z_R G 213 2 [some (.ref (241)), some (.int (x1)), some (.int (p1.1))] [] (z_w w p1.2) (.inl none) (z_w w r) := by
    intro m2
    induction m2 with
    | zero => intro p1 h; cases h
    | succ m2 i2 =>
      intro p1 h
      obtain ⟨u2, h, b2⟩ := z_it_o h
      unfold d_M_four_2 at h
      have hB : z_all [z_is 213 2 (zf_iload 2 2 3), z_is 213 3 (zf_if1 .lt 3 38 6)] = true := by decide +kernel
      refine z_iload hB rfl (fun hB => ?_)
      refine z_if_lt hB (fun hc _ => ?_) (fun hc _ => ?_)
      · have h := z_pos hc h
        cases h
        cases b2
        exact z_weak k5 (z_sn (z_sn (z_sn z_s0)))
      · have h := z_neg hc h
        have hB : z_all [z_is 213 6 (zf_aload 6 0 7), z_is 213 7 (zf_getr 7 8 8 10), z_is 213 10 (zf_aload 10 0 11), z_is 213 11 (zf_geti 11 8 9 14), z_is 213 14 (zf_iload 14 1 15), z_is 213 15 (zf_cst 15 (jn 8) 17), z_is 213 17 (zf_iload 17 2 18), z_is 213 18 (zf_imul 18 19), z_is 213 19 (zf_ishr 19 20), z_is 213 20 (zf_i2b 20 21), z_is 213 21 (zf_bast 21 22), z_is 213 22 (zf_aload 22 0 23), z_is 213 23 (zf_dupr 23 24), z_is 213 24 (zf_geti 24 8 9 27), z_is 213 27 (zf_cst 27 (jn 1) 28), z_is 213 28 (zf_iadd 28 29), z_is 213 29 (zf_puti 29 8 9 32), z_is 213 32 (zf_iinc 32 2 (jg 1) 35), z_is 213 35 (zf_goto 35 2)] = true := by decide +kernel
        refine z_aload hB rfl (fun hB => ?_)
        refine y_getr (b := 247) ok hB (by decide +kernel) (by decide +kernel) (fun hB => ?_)
        refine z_aload hB rfl (fun hB => ?_)
        refine y_geti ok hB (by decide +kernel) (fun hB => ?_)
        refine z_iload hB rfl (fun hB => ?_)
        refine z_cst hB (fun hB => ?_)
        refine z_iload hB rfl (fun hB => ?_)
        refine z_imul hB (fun hB => ?_)
        refine z_ishr hB (fun hB => ?_)
        refine z_i2b hB (fun hB => ?_)
        obtain ⟨g6, h⟩ := z_gd h
        refine y_bast ok hB (by decide +kernel) (by decide +kernel) g6 (fun hB => ?_)
        refine z_aload hB rfl (fun hB => ?_)
        refine z_dupr hB (fun hB => ?_)
        refine y_geti ok hB (by decide +kernel) (fun hB => ?_)
        refine z_cst hB (fun hB => ?_)
        refine z_iadd hB (fun hB => ?_)
        refine y_puti ok hB (by decide +kernel) (fun hB => ?_)
        obtain ⟨J7, e8, h⟩ := z_bind h
        rw [z_inj e8]
        refine z_iinc hB rfl rfl (fun hB => ?_)
        refine z_goto hB (fun hB => ?_)
        cases h
        exact z_weak (i2 ((p1.1 + (jg 1)), J7) b2) (z_se (z_se (z_se z_s0)))
  exact z_weak (l2 _ ((jn 3), I) e4) (z_se (z_se (z_se z_s0)))
def d_M_append (x1 : Int32) (x2 : Int32) (x3 : Int32) (x4 : Int32) (x5 : Int32) (I : z_H) : Option (Int32 × z_H) := (if (jn 480) < ((ev_u2 I 241 0 (jn 0)) 241 9) then some (((jg 1), (ev_u2 I 241 0 (jn 0)))) else ((d_M_four (x1) (ev_u2 I 241 0 (jn 0))).bind fun q1 => ((d_M_four (x2) q1).bind fun q3 => ((d_M_four (x3) q3).bind fun q5 => ((d_M_four (x4) q5).bind fun q7 => ((d_M_four (x5) q7).bind fun q9 => some (((q9 241 9), q9))))))))
/-- FlagLaundryModel.append(IIIII)I -/
theorem t_M_append {G : z_G} {w : ev_W} (ok : z_Ok G w) {x1 : Int32} {x2 : Int32} {x3 : Int32} {x4 : Int32} {x5 : Int32} {I : z_H} {r : Int32 × z_H} (h : d_M_append x1 x2 x3 x4 x5 I = some r) : z_K G 212 [.ref (241), .int (x1), .int (x2), .int (x3), .int (x4), .int (x5)] (z_w w I) (.inl (some (.int r.1))) (z_w w r.2) := by
  refine z_con ok.1 (ml := 6) (by decide +kernel) rfl rfl ?_
  show z_R G 212 0 [some (.ref (241)), some (.int (x1)), some (.int (x2)), some (.int (x3)), some (.int (x4)), some (.int (x5))] [] (z_w w I) (.inl (some (.int r.1))) (z_w w r.2)
  unfold d_M_append at h
  have hB : z_all [z_is 212 0 (zf_aload 0 0 1), z_is 212 1 (zf_cst 1 (jn 0) 2), z_is 212 2 (zf_puti 2 8 0 5), z_is 212 5 (zf_aload 5 0 6), z_is 212 6 (zf_geti 6 8 9 9), z_is 212 9 (zf_cst 9 (jn 480) 12), z_is 212 12 (zf_if2 .le 12 17 15)] = true := by decide +kernel
  refine z_aload hB rfl (fun hB => ?_)
  refine z_cst hB (fun hB => ?_)
  refine y_puti ok hB (by decide +kernel) (fun hB => ?_)
  refine z_aload hB rfl (fun hB => ?_)
  refine y_geti ok hB (by decide +kernel) (fun hB => ?_)
  refine z_cst hB (fun hB => ?_)
  refine z_ic_le hB (fun hc _ => ?_) (fun hc _ => ?_)
  · have h := z_neg hc h
    have hB : z_all [z_is 212 17 (zf_aload 17 0 18), z_is 212 18 (zf_iload 18 1 19), z_is 212 19 (zf_cv 19 213 1 8 22), z_is 212 22 (zf_aload 22 0 23), z_is 212 23 (zf_iload 23 2 24), z_is 212 24 (zf_cv 24 213 1 8 27), z_is 212 27 (zf_aload 27 0 28), z_is 212 28 (zf_iload 28 3 29), z_is 212 29 (zf_cv 29 213 1 8 32), z_is 212 32 (zf_aload 32 0 33), z_is 212 33 (zf_iload 33 4 35), z_is 212 35 (zf_cv 35 213 1 8 38), z_is 212 38 (zf_aload 38 0 39), z_is 212 39 (zf_iload 39 5 41), z_is 212 41 (zf_cv 41 213 1 8 44), z_is 212 44 (zf_aload 44 0 45), z_is 212 45 (zf_geti 45 8 9 48), z_is 212 48 (zf_ret 0)] = true := by decide +kernel
    refine z_aload hB rfl (fun hB => ?_)
    refine z_iload hB rfl (fun hB => ?_)
    obtain ⟨q1, e2, h⟩ := z_bind h
    refine y_cv ok hB (as := [.int (x1)]) (a := 241) (rest := []) rfl rfl rfl (by decide +kernel) (t_M_four (I := (ev_u2 I 241 0 (jn 0))) ok e2) (fun hB => ?_)
    refine z_aload hB rfl (fun hB => ?_)
    refine z_iload hB rfl (fun hB => ?_)
    obtain ⟨q3, e4, h⟩ := z_bind h
    refine y_cv ok hB (as := [.int (x2)]) (a := 241) (rest := []) rfl rfl rfl (by decide +kernel) (t_M_four (I := q1) ok e4) (fun hB => ?_)
    refine z_aload hB rfl (fun hB => ?_)
    refine z_iload hB rfl (fun hB => ?_)
    obtain ⟨q5, e6, h⟩ := z_bind h
    refine y_cv ok hB (as := [.int (x3)]) (a := 241) (rest := []) rfl rfl rfl (by decide +kernel) (t_M_four (I := q3) ok e6) (fun hB => ?_)
    refine z_aload hB rfl (fun hB => ?_)
    refine z_iload hB rfl (fun hB => ?_)
    obtain ⟨q7, e8, h⟩ := z_bind h
    refine y_cv ok hB (as := [.int (x4)]) (a := 241) (rest := []) rfl rfl rfl (by decide +kernel) (t_M_four (I := q5) ok e8) (fun hB => ?_)
    refine z_aload hB rfl (fun hB => ?_)
    refine z_iload hB rfl (fun hB => ?_)
    obtain ⟨q9, e10, h⟩ := z_bind h
    refine y_cv ok hB (as := [.int (x5)]) (a := 241) (rest := []) rfl rfl rfl (by decide +kernel) (t_M_four (I := q7) ok e10) (fun hB => ?_)
    refine z_aload hB rfl (fun hB => ?_)
    refine y_geti ok hB (by decide +kernel) (fun hB => ?_)
    cases h
    exact z_reti hB
  · have h := z_pos hc h
    have hB : z_all [z_is 212 15 (zf_cst 15 (jg 1) 16), z_is 212 16 (zf_ret 0)] = true := by decide +kernel
    refine z_cst hB (fun hB => ?_)
    cases h
    exact z_reti hB
def d_M_parseError  (I : z_H) : Option (Int32 × z_H) := some ((((ev_u2 I 241 0 (jn 0)) 241 10), (ev_u2 I 241 0 (jn 0))))
/-- FlagLaundryModel.parseError()I -/
theorem t_M_parseError {G : z_G} {w : ev_W} (ok : z_Ok G w) {I : z_H} {r : Int32 × z_H} (h : d_M_parseError I = some r) : z_K G 214 [.ref (241)] (z_w w I) (.inl (some (.int r.1))) (z_w w r.2) := by
  refine z_con ok.1 (ml := 1) (by decide +kernel) rfl rfl ?_
  show z_R G 214 0 [some (.ref (241))] [] (z_w w I) (.inl (some (.int r.1))) (z_w w r.2)
  unfold d_M_parseError at h
  have hB : z_all [z_is 214 0 (zf_aload 0 0 1), z_is 214 1 (zf_cst 1 (jn 0) 2), z_is 214 2 (zf_puti 2 8 0 5), z_is 214 5 (zf_aload 5 0 6), z_is 214 6 (zf_geti 6 8 10 9), z_is 214 9 (zf_ret 0)] = true := by decide +kernel
  refine z_aload hB rfl (fun hB => ?_)
  refine z_cst hB (fun hB => ?_)
  refine y_puti ok hB (by decide +kernel) (fun hB => ?_)
  refine z_aload hB rfl (fun hB => ?_)
  refine y_geti ok hB (by decide +kernel) (fun hB => ?_)
  cases h
  exact z_reti hB
def d_M_errorPosition  (I : z_H) : Option (Int32 × z_H) := some ((((ev_u2 I 241 0 (jn 0)) 241 11), (ev_u2 I 241 0 (jn 0))))
/-- FlagLaundryModel.errorPosition()I -/
theorem t_M_errorPosition {G : z_G} {w : ev_W} (ok : z_Ok G w) {I : z_H} {r : Int32 × z_H} (h : d_M_errorPosition I = some r) : z_K G 215 [.ref (241)] (z_w w I) (.inl (some (.int r.1))) (z_w w r.2) := by
  refine z_con ok.1 (ml := 1) (by decide +kernel) rfl rfl ?_
  show z_R G 215 0 [some (.ref (241))] [] (z_w w I) (.inl (some (.int r.1))) (z_w w r.2)
  unfold d_M_errorPosition at h
  have hB : z_all [z_is 215 0 (zf_aload 0 0 1), z_is 215 1 (zf_cst 1 (jn 0) 2), z_is 215 2 (zf_puti 2 8 0 5), z_is 215 5 (zf_aload 5 0 6), z_is 215 6 (zf_geti 6 8 11 9), z_is 215 9 (zf_ret 0)] = true := by decide +kernel
  refine z_aload hB rfl (fun hB => ?_)
  refine z_cst hB (fun hB => ?_)
  refine y_puti ok hB (by decide +kernel) (fun hB => ?_)
  refine z_aload hB rfl (fun hB => ?_)
  refine y_geti ok hB (by decide +kernel) (fun hB => ?_)
  cases h
  exact z_reti hB
def d_M_buffered  (I : z_H) : Option (Int32 × z_H) := some ((((ev_u2 I 241 0 (jn 0)) 241 9), (ev_u2 I 241 0 (jn 0))))
/-- FlagLaundryModel.buffered()I -/
theorem t_M_buffered {G : z_G} {w : ev_W} (ok : z_Ok G w) {I : z_H} {r : Int32 × z_H} (h : d_M_buffered I = some r) : z_K G 216 [.ref (241)] (z_w w I) (.inl (some (.int r.1))) (z_w w r.2) := by
  refine z_con ok.1 (ml := 1) (by decide +kernel) rfl rfl ?_
  show z_R G 216 0 [some (.ref (241))] [] (z_w w I) (.inl (some (.int r.1))) (z_w w r.2)
  unfold d_M_buffered at h
  have hB : z_all [z_is 216 0 (zf_aload 0 0 1), z_is 216 1 (zf_cst 1 (jn 0) 2), z_is 216 2 (zf_puti 2 8 0 5), z_is 216 5 (zf_aload 5 0 6), z_is 216 6 (zf_geti 6 8 9 9), z_is 216 9 (zf_ret 0)] = true := by decide +kernel
  refine z_aload hB rfl (fun hB => ?_)
  refine z_cst hB (fun hB => ?_)
  refine y_puti ok hB (by decide +kernel) (fun hB => ?_)
  refine z_aload hB rfl (fun hB => ?_)
  refine y_geti ok hB (by decide +kernel) (fun hB => ?_)
  cases h
  exact z_reti hB
def d_M_isLetter (x1 : Int32) (I : z_H) : Option (Int32) := (Option.bind (α := Int32) (if x1 < (I 241 12) then (if z_in (x1) 500 then ((d_M_in ((I 247 (z_n (x1)))) ((jn 97)) ((jn 122))).bind fun q6 => (if q6 = jn 0 then some ((jn 0)) else some ((jn 1)))) else none) else some ((jn 0))) fun q1 => (if (q1) = jn 0 ∨ (q1) = jn 1 then some (q1) else none))
/-- FlagLaundryModel.isLetter(I)Z -/
theorem t_M_isLetter {G : z_G} {w : ev_W} (ok : z_Ok G w) {x1 : Int32} {I : z_H} {r : Int32} (h : d_M_isLetter x1 I = some r) : z_K G 217 [.ref (241), .int (x1)] (z_w w I) (.inl (some (.int r))) (z_w w I) := by
  refine z_con ok.1 (ml := 2) (by decide +kernel) rfl rfl ?_
  show z_R G 217 0 [some (.ref (241)), some (.int (x1))] [] (z_w w I) (.inl (some (.int r))) (z_w w I)
  unfold d_M_isLetter at h
  have hB : z_all [z_is 217 0 (zf_iload 0 1 1), z_is 217 1 (zf_aload 1 0 2), z_is 217 2 (zf_geti 2 8 12 5), z_is 217 5 (zf_if2 .ge 5 28 8)] = true := by decide +kernel
  refine z_iload hB rfl (fun hB => ?_)
  refine z_aload hB rfl (fun hB => ?_)
  refine y_geti ok hB (by decide +kernel) (fun hB => ?_)
  obtain ⟨q1, e2, h⟩ := z_bind h
  have k3 : z_R G 217 29 [none, none] [.int (q1)] (z_w w I) (.inl (some (.int r))) (z_w w I) := by
    have hB : z_all [z_is 217 29 (zf_ret 1)] = true := by decide +kernel
    obtain ⟨g4, h⟩ := z_gd h
    cases h
    exact z_retz hB g4
  have h := e2
  refine z_ic_ge hB (fun hc _ => ?_) (fun hc _ => ?_)
  · have h := z_neg hc h
    have hB : z_all [z_is 217 28 (zf_cst 28 (jn 0) 29)] = true := by decide +kernel
    refine z_cst hB (fun hB => ?_)
    cases h
    exact z_weak k3 (z_sn (z_sn z_s0))
  · have h := z_pos hc h
    have hB : z_all [z_is 217 8 (zf_aload 8 0 9), z_is 217 9 (zf_getr 9 8 8 12), z_is 217 12 (zf_iload 12 1 13), z_is 217 13 (zf_bald 13 14), z_is 217 14 (zf_cst 14 (jn 97) 16), z_is 217 16 (zf_cst 16 (jn 122) 18), z_is 217 18 (zf_cs 18 203 3 21), z_is 217 21 (zf_if1 .eq 21 28 24)] = true := by decide +kernel
    refine z_aload hB rfl (fun hB => ?_)
    refine y_getr (b := 247) ok hB (by decide +kernel) (by decide +kernel) (fun hB => ?_)
    refine z_iload hB rfl (fun hB => ?_)
    obtain ⟨g5, h⟩ := z_gd h
    refine y_bald ok hB (by decide +kernel) (by decide +kernel) g5 (fun hB => ?_)
    refine z_cst hB (fun hB => ?_)
    refine z_cst hB (fun hB => ?_)
    obtain ⟨q6, e7, h⟩ := z_bind h
    refine z_callS hB (as := [.int ((I 247 (z_n (x1)))), .int ((jn 97)), .int ((jn 122))]) (rest := []) rfl rfl rfl (t_M_in (I := I) ok e7) (fun hB => ?_)
    refine z_if_eq hB (fun hc _ => ?_) (fun hc _ => ?_)
    · have h := z_pos hc h
      have hB : z_all [z_is 217 28 (zf_cst 28 (jn 0) 29)] = true := by decide +kernel
      refine z_cst hB (fun hB => ?_)
      cases h
      exact z_weak k3 (z_sn (z_sn z_s0))
    · have h := z_neg hc h
      have hB : z_all [z_is 217 24 (zf_cst 24 (jn 1) 25), z_is 217 25 (zf_goto 25 29)] = true := by decide +kernel
      refine z_cst hB (fun hB => ?_)
      refine z_goto hB (fun hB => ?_)
      cases h
      exact z_weak k3 (z_sn (z_sn z_s0))
def d_M_isDigit (x1 : Int32) (I : z_H) : Option (Int32) := (Option.bind (α := Int32) (if x1 < (I 241 12) then (if z_in (x1) 500 then ((d_M_in ((I 247 (z_n (x1)))) ((jn 48)) ((jn 57))).bind fun q6 => (if q6 = jn 0 then some ((jn 0)) else some ((jn 1)))) else none) else some ((jn 0))) fun q1 => (if (q1) = jn 0 ∨ (q1) = jn 1 then some (q1) else none))
/-- FlagLaundryModel.isDigit(I)Z -/
theorem t_M_isDigit {G : z_G} {w : ev_W} (ok : z_Ok G w) {x1 : Int32} {I : z_H} {r : Int32} (h : d_M_isDigit x1 I = some r) : z_K G 218 [.ref (241), .int (x1)] (z_w w I) (.inl (some (.int r))) (z_w w I) := by
  refine z_con ok.1 (ml := 2) (by decide +kernel) rfl rfl ?_
  show z_R G 218 0 [some (.ref (241)), some (.int (x1))] [] (z_w w I) (.inl (some (.int r))) (z_w w I)
  unfold d_M_isDigit at h
  have hB : z_all [z_is 218 0 (zf_iload 0 1 1), z_is 218 1 (zf_aload 1 0 2), z_is 218 2 (zf_geti 2 8 12 5), z_is 218 5 (zf_if2 .ge 5 28 8)] = true := by decide +kernel
  refine z_iload hB rfl (fun hB => ?_)
  refine z_aload hB rfl (fun hB => ?_)
  refine y_geti ok hB (by decide +kernel) (fun hB => ?_)
  obtain ⟨q1, e2, h⟩ := z_bind h
  have k3 : z_R G 218 29 [none, none] [.int (q1)] (z_w w I) (.inl (some (.int r))) (z_w w I) := by
    have hB : z_all [z_is 218 29 (zf_ret 1)] = true := by decide +kernel
    obtain ⟨g4, h⟩ := z_gd h
    cases h
    exact z_retz hB g4
  have h := e2
  refine z_ic_ge hB (fun hc _ => ?_) (fun hc _ => ?_)
  · have h := z_neg hc h
    have hB : z_all [z_is 218 28 (zf_cst 28 (jn 0) 29)] = true := by decide +kernel
    refine z_cst hB (fun hB => ?_)
    cases h
    exact z_weak k3 (z_sn (z_sn z_s0))
  · have h := z_pos hc h
    have hB : z_all [z_is 218 8 (zf_aload 8 0 9), z_is 218 9 (zf_getr 9 8 8 12), z_is 218 12 (zf_iload 12 1 13), z_is 218 13 (zf_bald 13 14), z_is 218 14 (zf_cst 14 (jn 48) 16), z_is 218 16 (zf_cst 16 (jn 57) 18), z_is 218 18 (zf_cs 18 203 3 21), z_is 218 21 (zf_if1 .eq 21 28 24)] = true := by decide +kernel
    refine z_aload hB rfl (fun hB => ?_)
    refine y_getr (b := 247) ok hB (by decide +kernel) (by decide +kernel) (fun hB => ?_)
    refine z_iload hB rfl (fun hB => ?_)
    obtain ⟨g5, h⟩ := z_gd h
    refine y_bald ok hB (by decide +kernel) (by decide +kernel) g5 (fun hB => ?_)
    refine z_cst hB (fun hB => ?_)
    refine z_cst hB (fun hB => ?_)
    obtain ⟨q6, e7, h⟩ := z_bind h
    refine z_callS hB (as := [.int ((I 247 (z_n (x1)))), .int ((jn 48)), .int ((jn 57))]) (rest := []) rfl rfl rfl (t_M_in (I := I) ok e7) (fun hB => ?_)
    refine z_if_eq hB (fun hc _ => ?_) (fun hc _ => ?_)
    · have h := z_pos hc h
      have hB : z_all [z_is 218 28 (zf_cst 28 (jn 0) 29)] = true := by decide +kernel
      refine z_cst hB (fun hB => ?_)
      cases h
      exact z_weak k3 (z_sn (z_sn z_s0))
    · have h := z_neg hc h
      have hB : z_all [z_is 218 24 (zf_cst 24 (jn 1) 25), z_is 218 25 (zf_goto 25 29)] = true := by decide +kernel
      refine z_cst hB (fun hB => ?_)
      refine z_goto hB (fun hB => ?_)
      cases h
      exact z_weak k3 (z_sn (z_sn z_s0))
def d_M_goes_20  (p19 : z_H) : Option ((z_H) ⊕ (z_H)) := ((d_M_isDigit ((p19 241 13)) p19).bind fun q27 => (if q27 = jn 0 then some (Sum.inr (p19)) else (Option.bind (α := z_H) (if ((p19 241 13) - (p19 241 14)) < (jn 2) then (if z_in ((p19 241 13)) 500 then some ((ev_u2 p19 241 16 ((((jn 10) * (p19 241 16)) + (p19 247 (z_n ((p19 241 13))))) - (jn 48)))) else none) else some (p19)) fun q29 => some (Sum.inl ((ev_u2 q29 241 13 ((q29 241 13) + (jn 1))))))))
def d_M_goes_34  (p33 : z_H) : Option ((z_H) ⊕ (z_H)) := ((d_M_isLetter ((p33 241 13)) p33).bind fun q41 => (if q41 = jn 0 then some (Sum.inr (p33)) else some (Sum.inl ((ev_u2 p33 241 13 ((p33 241 13) + (jn 1)))))))
def d_M_goes_2  (p1 : z_H) : Option ((z_H) ⊕ (z_H)) := (if (p1 241 13) < (p1 241 12) then (if z_in ((p1 241 13)) 500 then (if (p1 247 (z_n ((p1 241 13)))) = (jn 32) then some (Sum.inl ((ev_u2 p1 241 13 ((p1 241 13) + (jn 1))))) else some (Sum.inr (p1))) else none) else some (Sum.inr (p1)))
def d_M_goes  (I : z_H) : Option (z_H) := (if jn 0 < (I 241 10) then some (I) else ((z_it (d_M_goes_2) z_F (I)).bind fun q3 => (Option.bind (α := Int32) (if ((ev_u2 q3 241 14 (q3 241 13)) 241 13) = ((ev_u2 q3 241 14 (q3 241 13)) 241 12) then some ((jn 1)) else some ((jn 0))) fun q6 => (if ((ev_u2 (ev_u2 q3 241 14 (q3 241 13)) 241 15 q6) 241 15) = (jn 1) then some ((ev_u2 (ev_u2 q3 241 14 (q3 241 13)) 241 15 q6)) else ((d_M_isLetter (((ev_u2 (ev_u2 q3 241 14 (q3 241 13)) 241 15 q6) 241 13)) (ev_u2 (ev_u2 q3 241 14 (q3 241 13)) 241 15 q6)).bind fun q9 => (if q9 = jn 0 then ((d_M_isDigit (((ev_u2 (ev_u2 q3 241 14 (q3 241 13)) 241 15 q6) 241 13)) (ev_u2 (ev_u2 q3 241 14 (q3 241 13)) 241 15 q6)).bind fun q11 => (if q11 = jn 0 then (if z_in (((ev_u2 (ev_u2 q3 241 14 (q3 241 13)) 241 15 q6) 241 13)) 500 then (Option.bind (α := Int32) (if ((ev_u2 (ev_u2 q3 241 14 (q3 241 13)) 241 15 q6) 247 (z_n (((ev_u2 (ev_u2 q3 241 14 (q3 241 13)) 241 15 q6) 241 13)))) = (jn 59) then some ((jn 4)) else some ((jn 0))) fun q14 => (Option.bind (α := z_H) (some (ev_u2 (ev_u2 (ev_u2 (ev_u2 q3 241 14 (q3 241 13)) 241 15 q6) 241 15 q14) 241 13 (((ev_u2 (ev_u2 (ev_u2 q3 241 14 (q3 241 13)) 241 15 q6) 241 15 q14) 241 13) + (jn 1)))) fun J17 => some (J17))) else none) else ((z_it (d_M_goes_20) z_F ((ev_u2 (ev_u2 (ev_u2 q3 241 14 (q3 241 13)) 241 15 q6) 241 16 (jn 0)))).bind fun q21 => (Option.bind (α := Int32) (if (jn 2) < ((q21 241 13) - (q21 241 14)) then some ((jn 0)) else some ((jn 3))) fun q24 => some ((ev_u2 q21 241 15 q24)))))) else ((z_it (d_M_goes_34) z_F ((ev_u2 (ev_u2 q3 241 14 (q3 241 13)) 241 15 q6))).bind fun q35 => (Option.bind (α := Int32) (if (jn 6) < ((q35 241 13) - (q35 241 14)) then some ((jn 0)) else some ((jn 2))) fun q38 => some ((ev_u2 q35 241 15 q38))))))))))
/-- FlagLaundryModel.goes()V -/
theorem t_M_goes {G : z_G} {w : ev_W} (ok : z_Ok G w) {I : z_H} {r : z_H} (h : d_M_goes I = some r) : z_K G 219 [.ref (241)] (z_w w I) (.inl none) (z_w w r) := by
  refine z_con ok.1 (ml := 1) (by decide +kernel) rfl rfl ?_
  show z_R G 219 0 [some (.ref (241))] [] (z_w w I) (.inl none) (z_w w r)
  unfold d_M_goes at h
  have hB : z_all [z_is 219 0 (zf_aload 0 0 1), z_is 219 1 (zf_geti 1 8 10 4), z_is 219 4 (zf_if1 .le 4 8 7)] = true := by decide +kernel
  refine z_aload hB rfl (fun hB => ?_)
  refine y_geti ok hB (by decide +kernel) (fun hB => ?_)
  refine z_if_le hB (fun hc _ => ?_) (fun hc _ => ?_)
  · have h := z_neg hc h
    obtain ⟨q3, e4, h⟩ := z_bind h
    have k5 : z_R G 219 46 [some (.ref (241))] [] (z_w w q3) (.inl none) (z_w w r) := by
      have hB : z_all [z_is 219 46 (zf_aload 46 0 47), z_is 219 47 (zf_aload 47 0 48), z_is 219 48 (zf_geti 48 8 13 51), z_is 219 51 (zf_puti 51 8 14 54), z_is 219 54 (zf_aload 54 0 55), z_is 219 55 (zf_aload 55 0 56), z_is 219 56 (zf_geti 56 8 13 59), z_is 219 59 (zf_aload 59 0 60), z_is 219 60 (zf_geti 60 8 12 63), z_is 219 63 (zf_if2 .ne 63 70 66)] = true := by decide +kernel
      refine z_aload hB rfl (fun hB => ?_)
      refine z_aload hB rfl (fun hB => ?_)
      refine y_geti ok hB (by decide +kernel) (fun hB => ?_)
      refine y_puti ok hB (by decide +kernel) (fun hB => ?_)
      refine z_aload hB rfl (fun hB => ?_)
      refine z_aload hB rfl (fun hB => ?_)
      refine y_geti ok hB (by decide +kernel) (fun hB => ?_)
      refine z_aload hB rfl (fun hB => ?_)
      refine y_geti ok hB (by decide +kernel) (fun hB => ?_)
      obtain ⟨q6, e7, h⟩ := z_bind h
      have k8 : z_R G 219 71 [some (.ref (241))] [.int (q6), .ref (241)] (z_w w (ev_u2 q3 241 14 (q3 241 13))) (.inl none) (z_w w r) := by
        have hB : z_all [z_is 219 71 (zf_puti 71 8 15 74), z_is 219 74 (zf_aload 74 0 75), z_is 219 75 (zf_geti 75 8 15 78), z_is 219 78 (zf_cst 78 (jn 1) 79), z_is 219 79 (zf_if2 .ne 79 83 82)] = true := by decide +kernel
        refine y_puti ok hB (by decide +kernel) (fun hB => ?_)
        refine z_aload hB rfl (fun hB => ?_)
        refine y_geti ok hB (by decide +kernel) (fun hB => ?_)
        refine z_cst hB (fun hB => ?_)
        refine z_ic_ne hB (fun hc _ => ?_) (fun hc _ => ?_)
        · have h := z_neg hc h
          have hB : z_all [z_is 219 83 (zf_aload 83 0 84), z_is 219 84 (zf_aload 84 0 85), z_is 219 85 (zf_geti 85 8 13 88), z_is 219 88 (zf_cv 88 217 1 8 91), z_is 219 91 (zf_if1 .eq 91 142 94)] = true := by decide +kernel
          refine z_aload hB rfl (fun hB => ?_)
          refine z_aload hB rfl (fun hB => ?_)
          refine y_geti ok hB (by decide +kernel) (fun hB => ?_)
          obtain ⟨q9, e10, h⟩ := z_bind h
          refine y_cv ok hB (as := [.int (((ev_u2 (ev_u2 q3 241 14 (q3 241 13)) 241 15 q6) 241 13))]) (a := 241) (rest := []) rfl rfl rfl (by decide +kernel) (t_M_isLetter (I := (ev_u2 (ev_u2 q3 241 14 (q3 241 13)) 241 15 q6)) ok e10) (fun hB => ?_)
          refine z_if_eq hB (fun hc _ => ?_) (fun hc _ => ?_)
          · have h := z_pos hc h
            have hB : z_all [z_is 219 142 (zf_aload 142 0 143), z_is 219 143 (zf_aload 143 0 144), z_is 219 144 (zf_geti 144 8 13 147), z_is 219 147 (zf_cv 147 218 1 8 150), z_is 219 150 (zf_if1 .eq 150 242 153)] = true := by decide +kernel
            refine z_aload hB rfl (fun hB => ?_)
            refine z_aload hB rfl (fun hB => ?_)
            refine y_geti ok hB (by decide +kernel) (fun hB => ?_)
            obtain ⟨q11, e12, h⟩ := z_bind h
            refine y_cv ok hB (as := [.int (((ev_u2 (ev_u2 q3 241 14 (q3 241 13)) 241 15 q6) 241 13))]) (a := 241) (rest := []) rfl rfl rfl (by decide +kernel) (t_M_isDigit (I := (ev_u2 (ev_u2 q3 241 14 (q3 241 13)) 241 15 q6)) ok e12) (fun hB => ?_)
            refine z_if_eq hB (fun hc _ => ?_) (fun hc _ => ?_)
            · have h := z_pos hc h
              have hB : z_all [z_is 219 242 (zf_aload 242 0 243), z_is 219 243 (zf_aload 243 0 244), z_is 219 244 (zf_getr 244 8 8 247), z_is 219 247 (zf_aload 247 0 248), z_is 219 248 (zf_geti 248 8 13 251), z_is 219 251 (zf_bald 251 252), z_is 219 252 (zf_cst 252 (jn 59) 254), z_is 219 254 (zf_if2 .ne 254 261 257)] = true := by decide +kernel
              refine z_aload hB rfl (fun hB => ?_)
              refine z_aload hB rfl (fun hB => ?_)
              refine y_getr (b := 247) ok hB (by decide +kernel) (by decide +kernel) (fun hB => ?_)
              refine z_aload hB rfl (fun hB => ?_)
              refine y_geti ok hB (by decide +kernel) (fun hB => ?_)
              obtain ⟨g13, h⟩ := z_gd h
              refine y_bald ok hB (by decide +kernel) (by decide +kernel) g13 (fun hB => ?_)
              refine z_cst hB (fun hB => ?_)
              obtain ⟨q14, e15, h⟩ := z_bind h
              have k16 : z_R G 219 262 [some (.ref (241))] [.int (q14), .ref (241)] (z_w w (ev_u2 (ev_u2 q3 241 14 (q3 241 13)) 241 15 q6)) (.inl none) (z_w w r) := by
                have hB : z_all [z_is 219 262 (zf_puti 262 8 15 265), z_is 219 265 (zf_aload 265 0 266), z_is 219 266 (zf_dupr 266 267), z_is 219 267 (zf_geti 267 8 13 270), z_is 219 270 (zf_cst 270 (jn 1) 271), z_is 219 271 (zf_iadd 271 272), z_is 219 272 (zf_puti 272 8 13 275), z_is 219 275 (zf_ret 6)] = true := by decide +kernel
                refine y_puti ok hB (by decide +kernel) (fun hB => ?_)
                refine z_aload hB rfl (fun hB => ?_)
                refine z_dupr hB (fun hB => ?_)
                refine y_geti ok hB (by decide +kernel) (fun hB => ?_)
                refine z_cst hB (fun hB => ?_)
                refine z_iadd hB (fun hB => ?_)
                refine y_puti ok hB (by decide +kernel) (fun hB => ?_)
                obtain ⟨J17, e18, h⟩ := z_bind h
                rw [z_inj e18]
                cases h
                exact z_retv hB
              have h := e15
              refine z_ic_ne hB (fun hc _ => ?_) (fun hc _ => ?_)
              · have h := z_neg hc h
                have hB : z_all [z_is 219 261 (zf_cst 261 (jn 0) 262)] = true := by decide +kernel
                refine z_cst hB (fun hB => ?_)
                cases h
                exact z_weak k16 (z_se z_s0)
              · have h := z_pos hc h
                have hB : z_all [z_is 219 257 (zf_cst 257 (jn 4) 258), z_is 219 258 (zf_goto 258 262)] = true := by decide +kernel
                refine z_cst hB (fun hB => ?_)
                refine z_goto hB (fun hB => ?_)
                cases h
                exact z_weak k16 (z_se z_s0)
            · have h := z_neg hc h
              have hB : z_all [z_is 219 153 (zf_aload 153 0 154), z_is 219 154 (zf_cst 154 (jn 0) 155), z_is 219 155 (zf_puti 155 8 16 158)] = true := by decide +kernel
              refine z_aload hB rfl (fun hB => ?_)
              refine z_cst hB (fun hB => ?_)
              refine y_puti ok hB (by decide +kernel) (fun hB => ?_)
              obtain ⟨q21, e22, h⟩ := z_bind h
              have k23 : z_R G 219 219 [some (.ref (241))] [] (z_w w q21) (.inl none) (z_w w r) := by
                have hB : z_all [z_is 219 219 (zf_aload 219 0 220), z_is 219 220 (zf_aload 220 0 221), z_is 219 221 (zf_geti 221 8 13 224), z_is 219 224 (zf_aload 224 0 225), z_is 219 225 (zf_geti 225 8 14 228), z_is 219 228 (zf_isub 228 229), z_is 219 229 (zf_cst 229 (jn 2) 230), z_is 219 230 (zf_if2 .gt 230 237 233)] = true := by decide +kernel
                refine z_aload hB rfl (fun hB => ?_)
                refine z_aload hB rfl (fun hB => ?_)
                refine y_geti ok hB (by decide +kernel) (fun hB => ?_)
                refine z_aload hB rfl (fun hB => ?_)
                refine y_geti ok hB (by decide +kernel) (fun hB => ?_)
                refine z_isub hB (fun hB => ?_)
                refine z_cst hB (fun hB => ?_)
                obtain ⟨q24, e25, h⟩ := z_bind h
                have k26 : z_R G 219 238 [none] [.int (q24), .ref (241)] (z_w w q21) (.inl none) (z_w w r) := by
                  have hB : z_all [z_is 219 238 (zf_puti 238 8 15 241), z_is 219 241 (zf_ret 6)] = true := by decide +kernel
                  refine y_puti ok hB (by decide +kernel) (fun hB => ?_)
                  cases h
                  exact z_retv hB
                have h := e25
                refine z_ic_gt hB (fun hc _ => ?_) (fun hc _ => ?_)
                · have h := z_pos hc h
                  have hB : z_all [z_is 219 237 (zf_cst 237 (jn 0) 238)] = true := by decide +kernel
                  refine z_cst hB (fun hB => ?_)
                  cases h
                  exact z_weak k26 (z_sn z_s0)
                · have h := z_neg hc h
                  have hB : z_all [z_is 219 233 (zf_cst 233 (jn 3) 234), z_is 219 234 (zf_goto 234 238)] = true := by decide +kernel
                  refine z_cst hB (fun hB => ?_)
                  refine z_goto hB (fun hB => ?_)
                  cases h
                  exact z_weak k26 (z_sn z_s0)
              have l20 : ∀ (m20 : Nat) (p19 : z_H), z_it (d_M_goes_20) m20 p19 = some q21 → z_R G 219 158 [some (.ref (241))] [] (z_w w p19) (.inl none) (z_w w r) := by
                intro m20
                induction m20 with
                | zero => intro p19 h; cases h
                | succ m20 i20 =>
                  intro p19 h
                  obtain ⟨u20, h, b20⟩ := z_it_o h
                  unfold d_M_goes_20 at h
                  have hB : z_all [z_is 219 158 (zf_aload 158 0 159), z_is 219 159 (zf_aload 159 0 160), z_is 219 160 (zf_geti 160 8 13 163), z_is 219 163 (zf_cv 163 218 1 8 166), z_is 219 166 (zf_if1 .eq 166 219 169)] = true := by decide +kernel
                  refine z_aload hB rfl (fun hB => ?_)
                  refine z_aload hB rfl (fun hB => ?_)
                  refine y_geti ok hB (by decide +kernel) (fun hB => ?_)
                  obtain ⟨q27, e28, h⟩ := z_bind h
                  refine y_cv ok hB (as := [.int ((p19 241 13))]) (a := 241) (rest := []) rfl rfl rfl (by decide +kernel) (t_M_isDigit (I := p19) ok e28) (fun hB => ?_)
                  refine z_if_eq hB (fun hc _ => ?_) (fun hc _ => ?_)
                  · have h := z_pos hc h
                    cases h
                    cases b20
                    exact z_weak k23 (z_se z_s0)
                  · have h := z_neg hc h
                    have hB : z_all [z_is 219 169 (zf_aload 169 0 170), z_is 219 170 (zf_geti 170 8 13 173), z_is 219 173 (zf_aload 173 0 174), z_is 219 174 (zf_geti 174 8 14 177), z_is 219 177 (zf_isub 177 178), z_is 219 178 (zf_cst 178 (jn 2) 179), z_is 219 179 (zf_if2 .ge 179 206 182)] = true := by decide +kernel
                    refine z_aload hB rfl (fun hB => ?_)
                    refine y_geti ok hB (by decide +kernel) (fun hB => ?_)
                    refine z_aload hB rfl (fun hB => ?_)
                    refine y_geti ok hB (by decide +kernel) (fun hB => ?_)
                    refine z_isub hB (fun hB => ?_)
                    refine z_cst hB (fun hB => ?_)
                    obtain ⟨q29, e30, h⟩ := z_bind h
                    have k31 : z_R G 219 206 [some (.ref (241))] [] (z_w w q29) (.inl none) (z_w w r) := by
                      have hB : z_all [z_is 219 206 (zf_aload 206 0 207), z_is 219 207 (zf_dupr 207 208), z_is 219 208 (zf_geti 208 8 13 211), z_is 219 211 (zf_cst 211 (jn 1) 212), z_is 219 212 (zf_iadd 212 213), z_is 219 213 (zf_puti 213 8 13 216), z_is 219 216 (zf_goto 216 158)] = true := by decide +kernel
                      refine z_aload hB rfl (fun hB => ?_)
                      refine z_dupr hB (fun hB => ?_)
                      refine y_geti ok hB (by decide +kernel) (fun hB => ?_)
                      refine z_cst hB (fun hB => ?_)
                      refine z_iadd hB (fun hB => ?_)
                      refine y_puti ok hB (by decide +kernel) (fun hB => ?_)
                      refine z_goto hB (fun hB => ?_)
                      cases h
                      exact z_weak (i20 ((ev_u2 q29 241 13 ((q29 241 13) + (jn 1)))) b20) (z_se z_s0)
                    have h := e30
                    refine z_ic_ge hB (fun hc _ => ?_) (fun hc _ => ?_)
                    · have h := z_neg hc h
                      cases h
                      exact z_weak k31 (z_se z_s0)
                    · have h := z_pos hc h
                      have hB : z_all [z_is 219 182 (zf_aload 182 0 183), z_is 219 183 (zf_cst 183 (jn 10) 185), z_is 219 185 (zf_aload 185 0 186), z_is 219 186 (zf_geti 186 8 16 189), z_is 219 189 (zf_imul 189 190), z_is 219 190 (zf_aload 190 0 191), z_is 219 191 (zf_getr 191 8 8 194), z_is 219 194 (zf_aload 194 0 195), z_is 219 195 (zf_geti 195 8 13 198), z_is 219 198 (zf_bald 198 199), z_is 219 199 (zf_iadd 199 200), z_is 219 200 (zf_cst 200 (jn 48) 202), z_is 219 202 (zf_isub 202 203), z_is 219 203 (zf_puti 203 8 16 206)] = true := by decide +kernel
                      refine z_aload hB rfl (fun hB => ?_)
                      refine z_cst hB (fun hB => ?_)
                      refine z_aload hB rfl (fun hB => ?_)
                      refine y_geti ok hB (by decide +kernel) (fun hB => ?_)
                      refine z_imul hB (fun hB => ?_)
                      refine z_aload hB rfl (fun hB => ?_)
                      refine y_getr (b := 247) ok hB (by decide +kernel) (by decide +kernel) (fun hB => ?_)
                      refine z_aload hB rfl (fun hB => ?_)
                      refine y_geti ok hB (by decide +kernel) (fun hB => ?_)
                      obtain ⟨g32, h⟩ := z_gd h
                      refine y_bald ok hB (by decide +kernel) (by decide +kernel) g32 (fun hB => ?_)
                      refine z_iadd hB (fun hB => ?_)
                      refine z_cst hB (fun hB => ?_)
                      refine z_isub hB (fun hB => ?_)
                      refine y_puti ok hB (by decide +kernel) (fun hB => ?_)
                      cases h
                      exact z_weak k31 (z_se z_s0)
              exact z_weak (l20 _ ((ev_u2 (ev_u2 (ev_u2 q3 241 14 (q3 241 13)) 241 15 q6) 241 16 (jn 0))) e22) (z_se z_s0)
          · have h := z_neg hc h
            obtain ⟨q35, e36, h⟩ := z_bind h
            have k37 : z_R G 219 118 [some (.ref (241))] [] (z_w w q35) (.inl none) (z_w w r) := by
              have hB : z_all [z_is 219 118 (zf_aload 118 0 119), z_is 219 119 (zf_aload 119 0 120), z_is 219 120 (zf_geti 120 8 13 123), z_is 219 123 (zf_aload 123 0 124), z_is 219 124 (zf_geti 124 8 14 127), z_is 219 127 (zf_isub 127 128), z_is 219 128 (zf_cst 128 (jn 6) 130), z_is 219 130 (zf_if2 .gt 130 137 133)] = true := by decide +kernel
              refine z_aload hB rfl (fun hB => ?_)
              refine z_aload hB rfl (fun hB => ?_)
              refine y_geti ok hB (by decide +kernel) (fun hB => ?_)
              refine z_aload hB rfl (fun hB => ?_)
              refine y_geti ok hB (by decide +kernel) (fun hB => ?_)
              refine z_isub hB (fun hB => ?_)
              refine z_cst hB (fun hB => ?_)
              obtain ⟨q38, e39, h⟩ := z_bind h
              have k40 : z_R G 219 138 [none] [.int (q38), .ref (241)] (z_w w q35) (.inl none) (z_w w r) := by
                have hB : z_all [z_is 219 138 (zf_puti 138 8 15 141), z_is 219 141 (zf_ret 6)] = true := by decide +kernel
                refine y_puti ok hB (by decide +kernel) (fun hB => ?_)
                cases h
                exact z_retv hB
              have h := e39
              refine z_ic_gt hB (fun hc _ => ?_) (fun hc _ => ?_)
              · have h := z_pos hc h
                have hB : z_all [z_is 219 137 (zf_cst 137 (jn 0) 138)] = true := by decide +kernel
                refine z_cst hB (fun hB => ?_)
                cases h
                exact z_weak k40 (z_sn z_s0)
              · have h := z_neg hc h
                have hB : z_all [z_is 219 133 (zf_cst 133 (jn 2) 134), z_is 219 134 (zf_goto 134 138)] = true := by decide +kernel
                refine z_cst hB (fun hB => ?_)
                refine z_goto hB (fun hB => ?_)
                cases h
                exact z_weak k40 (z_sn z_s0)
            have l34 : ∀ (m34 : Nat) (p33 : z_H), z_it (d_M_goes_34) m34 p33 = some q35 → z_R G 219 94 [some (.ref (241))] [] (z_w w p33) (.inl none) (z_w w r) := by
              intro m34
              induction m34 with
              | zero => intro p33 h; cases h
              | succ m34 i34 =>
                intro p33 h
                obtain ⟨u34, h, b34⟩ := z_it_o h
                unfold d_M_goes_34 at h
                have hB : z_all [z_is 219 94 (zf_aload 94 0 95), z_is 219 95 (zf_aload 95 0 96), z_is 219 96 (zf_geti 96 8 13 99), z_is 219 99 (zf_cv 99 217 1 8 102), z_is 219 102 (zf_if1 .eq 102 118 105)] = true := by decide +kernel
                refine z_aload hB rfl (fun hB => ?_)
                refine z_aload hB rfl (fun hB => ?_)
                refine y_geti ok hB (by decide +kernel) (fun hB => ?_)
                obtain ⟨q41, e42, h⟩ := z_bind h
                refine y_cv ok hB (as := [.int ((p33 241 13))]) (a := 241) (rest := []) rfl rfl rfl (by decide +kernel) (t_M_isLetter (I := p33) ok e42) (fun hB => ?_)
                refine z_if_eq hB (fun hc _ => ?_) (fun hc _ => ?_)
                · have h := z_pos hc h
                  cases h
                  cases b34
                  exact z_weak k37 (z_se z_s0)
                · have h := z_neg hc h
                  have hB : z_all [z_is 219 105 (zf_aload 105 0 106), z_is 219 106 (zf_dupr 106 107), z_is 219 107 (zf_geti 107 8 13 110), z_is 219 110 (zf_cst 110 (jn 1) 111), z_is 219 111 (zf_iadd 111 112), z_is 219 112 (zf_puti 112 8 13 115), z_is 219 115 (zf_goto 115 94)] = true := by decide +kernel
                  refine z_aload hB rfl (fun hB => ?_)
                  refine z_dupr hB (fun hB => ?_)
                  refine y_geti ok hB (by decide +kernel) (fun hB => ?_)
                  refine z_cst hB (fun hB => ?_)
                  refine z_iadd hB (fun hB => ?_)
                  refine y_puti ok hB (by decide +kernel) (fun hB => ?_)
                  refine z_goto hB (fun hB => ?_)
                  cases h
                  exact z_weak (i34 ((ev_u2 p33 241 13 ((p33 241 13) + (jn 1)))) b34) (z_se z_s0)
            exact z_weak (l34 _ ((ev_u2 (ev_u2 q3 241 14 (q3 241 13)) 241 15 q6)) e36) (z_se z_s0)
        · have h := z_pos hc h
          have hB : z_all [z_is 219 82 (zf_ret 6)] = true := by decide +kernel
          cases h
          exact z_retv hB
      have h := e7
      refine z_ic_ne hB (fun hc _ => ?_) (fun hc _ => ?_)
      · have h := z_neg hc h
        have hB : z_all [z_is 219 70 (zf_cst 70 (jn 0) 71)] = true := by decide +kernel
        refine z_cst hB (fun hB => ?_)
        cases h
        exact z_weak k8 (z_se z_s0)
      · have h := z_pos hc h
        have hB : z_all [z_is 219 66 (zf_cst 66 (jn 1) 67), z_is 219 67 (zf_goto 67 71)] = true := by decide +kernel
        refine z_cst hB (fun hB => ?_)
        refine z_goto hB (fun hB => ?_)
        cases h
        exact z_weak k8 (z_se z_s0)
    have l2 : ∀ (m2 : Nat) (p1 : z_H), z_it (d_M_goes_2) m2 p1 = some q3 → z_R G 219 8 [some (.ref (241))] [] (z_w w p1) (.inl none) (z_w w r) := by
      intro m2
      induction m2 with
      | zero => intro p1 h; cases h
      | succ m2 i2 =>
        intro p1 h
        obtain ⟨u2, h, b2⟩ := z_it_o h
        unfold d_M_goes_2 at h
        have hB : z_all [z_is 219 8 (zf_aload 8 0 9), z_is 219 9 (zf_geti 9 8 13 12), z_is 219 12 (zf_aload 12 0 13), z_is 219 13 (zf_geti 13 8 12 16), z_is 219 16 (zf_if2 .ge 16 46 19)] = true := by decide +kernel
        refine z_aload hB rfl (fun hB => ?_)
        refine y_geti ok hB (by decide +kernel) (fun hB => ?_)
        refine z_aload hB rfl (fun hB => ?_)
        refine y_geti ok hB (by decide +kernel) (fun hB => ?_)
        refine z_ic_ge hB (fun hc _ => ?_) (fun hc _ => ?_)
        · have h := z_neg hc h
          cases h
          cases b2
          exact z_weak k5 (z_se z_s0)
        · have h := z_pos hc h
          have hB : z_all [z_is 219 19 (zf_aload 19 0 20), z_is 219 20 (zf_getr 20 8 8 23), z_is 219 23 (zf_aload 23 0 24), z_is 219 24 (zf_geti 24 8 13 27), z_is 219 27 (zf_bald 27 28), z_is 219 28 (zf_cst 28 (jn 32) 30), z_is 219 30 (zf_if2 .ne 30 46 33)] = true := by decide +kernel
          refine z_aload hB rfl (fun hB => ?_)
          refine y_getr (b := 247) ok hB (by decide +kernel) (by decide +kernel) (fun hB => ?_)
          refine z_aload hB rfl (fun hB => ?_)
          refine y_geti ok hB (by decide +kernel) (fun hB => ?_)
          obtain ⟨g43, h⟩ := z_gd h
          refine y_bald ok hB (by decide +kernel) (by decide +kernel) g43 (fun hB => ?_)
          refine z_cst hB (fun hB => ?_)
          refine z_ic_ne hB (fun hc _ => ?_) (fun hc _ => ?_)
          · have h := z_neg hc h
            cases h
            cases b2
            exact z_weak k5 (z_se z_s0)
          · have h := z_pos hc h
            have hB : z_all [z_is 219 33 (zf_aload 33 0 34), z_is 219 34 (zf_dupr 34 35), z_is 219 35 (zf_geti 35 8 13 38), z_is 219 38 (zf_cst 38 (jn 1) 39), z_is 219 39 (zf_iadd 39 40), z_is 219 40 (zf_puti 40 8 13 43), z_is 219 43 (zf_goto 43 8)] = true := by decide +kernel
            refine z_aload hB rfl (fun hB => ?_)
            refine z_dupr hB (fun hB => ?_)
            refine y_geti ok hB (by decide +kernel) (fun hB => ?_)
            refine z_cst hB (fun hB => ?_)
            refine z_iadd hB (fun hB => ?_)
            refine y_puti ok hB (by decide +kernel) (fun hB => ?_)
            refine z_goto hB (fun hB => ?_)
            cases h
            exact z_weak (i2 ((ev_u2 p1 241 13 ((p1 241 13) + (jn 1)))) b2) (z_se z_s0)
    exact z_weak (l2 _ (I) e4) (z_se z_s0)
  · have h := z_pos hc h
    have hB : z_all [z_is 219 7 (zf_ret 6)] = true := by decide +kernel
    cases h
    exact z_retv hB
def d_M_faults (x1 : Int32) (I : z_H) : Option (z_H) := (if jn 0 < (I 241 10) then some (I) else some ((ev_u2 (ev_u2 I 241 10 x1) 241 11 ((ev_u2 I 241 10 x1) 241 14))))
/-- FlagLaundryModel.faults(I)V -/
theorem t_M_faults {G : z_G} {w : ev_W} (ok : z_Ok G w) {x1 : Int32} {I : z_H} {r : z_H} (h : d_M_faults x1 I = some r) : z_K G 220 [.ref (241), .int (x1)] (z_w w I) (.inl none) (z_w w r) := by
  refine z_con ok.1 (ml := 2) (by decide +kernel) rfl rfl ?_
  show z_R G 220 0 [some (.ref (241)), some (.int (x1))] [] (z_w w I) (.inl none) (z_w w r)
  unfold d_M_faults at h
  have hB : z_all [z_is 220 0 (zf_aload 0 0 1), z_is 220 1 (zf_geti 1 8 10 4), z_is 220 4 (zf_if1 .le 4 8 7)] = true := by decide +kernel
  refine z_aload hB rfl (fun hB => ?_)
  refine y_geti ok hB (by decide +kernel) (fun hB => ?_)
  refine z_if_le hB (fun hc _ => ?_) (fun hc _ => ?_)
  · have h := z_neg hc h
    have hB : z_all [z_is 220 8 (zf_aload 8 0 9), z_is 220 9 (zf_iload 9 1 10), z_is 220 10 (zf_puti 10 8 10 13), z_is 220 13 (zf_aload 13 0 14), z_is 220 14 (zf_aload 14 0 15), z_is 220 15 (zf_geti 15 8 14 18), z_is 220 18 (zf_puti 18 8 11 21), z_is 220 21 (zf_ret 6)] = true := by decide +kernel
    refine z_aload hB rfl (fun hB => ?_)
    refine z_iload hB rfl (fun hB => ?_)
    refine y_puti ok hB (by decide +kernel) (fun hB => ?_)
    refine z_aload hB rfl (fun hB => ?_)
    refine z_aload hB rfl (fun hB => ?_)
    refine y_geti ok hB (by decide +kernel) (fun hB => ?_)
    refine y_puti ok hB (by decide +kernel) (fun hB => ?_)
    cases h
    exact z_retv hB
  · have h := z_pos hc h
    have hB : z_all [z_is 220 7 (zf_ret 6)] = true := by decide +kernel
    cases h
    exact z_retv hB
def d_M_is (x1 : Int32) (I : z_H) : Option (Int32) := (Option.bind (α := Int32) (if (I 241 10) = jn 0 then (if (I 241 15) = x1 then some ((jn 1)) else some ((jn 0))) else some ((jn 0))) fun q1 => (if (q1) = jn 0 ∨ (q1) = jn 1 then some (q1) else none))
/-- FlagLaundryModel.is(I)Z -/
theorem t_M_is {G : z_G} {w : ev_W} (ok : z_Ok G w) {x1 : Int32} {I : z_H} {r : Int32} (h : d_M_is x1 I = some r) : z_K G 221 [.ref (241), .int (x1)] (z_w w I) (.inl (some (.int r))) (z_w w I) := by
  refine z_con ok.1 (ml := 2) (by decide +kernel) rfl rfl ?_
  show z_R G 221 0 [some (.ref (241)), some (.int (x1))] [] (z_w w I) (.inl (some (.int r))) (z_w w I)
  unfold d_M_is at h
  have hB : z_all [z_is 221 0 (zf_aload 0 0 1), z_is 221 1 (zf_geti 1 8 10 4), z_is 221 4 (zf_if1 .ne 4 19 7)] = true := by decide +kernel
  refine z_aload hB rfl (fun hB => ?_)
  refine y_geti ok hB (by decide +kernel) (fun hB => ?_)
  obtain ⟨q1, e2, h⟩ := z_bind h
  have k3 : z_R G 221 20 [none, none] [.int (q1)] (z_w w I) (.inl (some (.int r))) (z_w w I) := by
    have hB : z_all [z_is 221 20 (zf_ret 1)] = true := by decide +kernel
    obtain ⟨g4, h⟩ := z_gd h
    cases h
    exact z_retz hB g4
  have h := e2
  refine z_if_ne hB (fun hc _ => ?_) (fun hc _ => ?_)
  · have h := z_neg hc h
    have hB : z_all [z_is 221 19 (zf_cst 19 (jn 0) 20)] = true := by decide +kernel
    refine z_cst hB (fun hB => ?_)
    cases h
    exact z_weak k3 (z_sn (z_sn z_s0))
  · have h := z_pos hc h
    have hB : z_all [z_is 221 7 (zf_aload 7 0 8), z_is 221 8 (zf_geti 8 8 15 11), z_is 221 11 (zf_iload 11 1 12), z_is 221 12 (zf_if2 .ne 12 19 15)] = true := by decide +kernel
    refine z_aload hB rfl (fun hB => ?_)
    refine y_geti ok hB (by decide +kernel) (fun hB => ?_)
    refine z_iload hB rfl (fun hB => ?_)
    refine z_ic_ne hB (fun hc _ => ?_) (fun hc _ => ?_)
    · have h := z_neg hc h
      have hB : z_all [z_is 221 19 (zf_cst 19 (jn 0) 20)] = true := by decide +kernel
      refine z_cst hB (fun hB => ?_)
      cases h
      exact z_weak k3 (z_sn (z_sn z_s0))
    · have h := z_pos hc h
      have hB : z_all [z_is 221 15 (zf_cst 15 (jn 1) 16), z_is 221 16 (zf_goto 16 20)] = true := by decide +kernel
      refine z_cst hB (fun hB => ?_)
      refine z_goto hB (fun hB => ?_)
      cases h
      exact z_weak k3 (z_sn (z_sn z_s0))
def d_M_isWord_5 (k1 : Nat) (I : z_H) (p4 : Int32) : Option ((Int32) ⊕ (Int32)) := (if k1 < 34 then (if p4 < (zs_len k1) then (if z_in (((I 241 14) + p4)) 500 then (if k1 < 34 then (if z_in (p4) (zs_ln k1) then (if (I 247 (z_n (((I 241 14) + p4)))) = (zs_ch k1 (p4)) then some (Sum.inl ((p4 + (jn 1)))) else some (Sum.inr ((jn 0)))) else none) else none) else none) else some (Sum.inr ((jn 1)))) else none)
def d_M_isWord (k1 : Nat) (I : z_H) : Option (Int32) := ((d_M_is ((jn 2)) I).bind fun q1 => (if q1 = jn 0 then some ((jn 0)) else (if k1 < 34 then (if ((I 241 13) - (I 241 14)) = (zs_len k1) then (z_it (d_M_isWord_5 k1 I) z_F ((jn 0))) else some ((jn 0))) else none)))
/-- FlagLaundryModel.isWord(Ljava/lang/String;)Z -/
theorem t_M_isWord {G : z_G} {w : ev_W} (ok : z_Ok G w) {k1 : Nat} {I : z_H} {r : Int32} (h : d_M_isWord k1 I = some r) : z_K G 222 [.ref (241), .ref (ev_S + 1 + k1)] (z_w w I) (.inl (some (.int r))) (z_w w I) := by
  refine z_con ok.1 (ml := 3) (by decide +kernel) rfl rfl ?_
  show z_R G 222 0 [some (.ref (241)), some (.ref (ev_S + 1 + k1)), none] [] (z_w w I) (.inl (some (.int r))) (z_w w I)
  unfold d_M_isWord at h
  have hB : z_all [z_is 222 0 (zf_aload 0 0 1), z_is 222 1 (zf_cst 1 (jn 2) 2), z_is 222 2 (zf_cv 2 221 1 8 5), z_is 222 5 (zf_if1 .eq 5 24 8)] = true := by decide +kernel
  refine z_aload hB rfl (fun hB => ?_)
  refine z_cst hB (fun hB => ?_)
  obtain ⟨q1, e2, h⟩ := z_bind h
  refine y_cv ok hB (as := [.int ((jn 2))]) (a := 241) (rest := []) rfl rfl rfl (by decide +kernel) (t_M_is (I := I) ok e2) (fun hB => ?_)
  refine z_if_eq hB (fun hc _ => ?_) (fun hc _ => ?_)
  · have h := z_pos hc h
    have hB : z_all [z_is 222 24 (zf_cst 24 (jn 0) 25), z_is 222 25 (zf_ret 1)] = true := by decide +kernel
    refine z_cst hB (fun hB => ?_)
    cases h
    exact z_retz hB (by decide)
  · have h := z_neg hc h
    have hB : z_all [z_is 222 8 (zf_aload 8 0 9), z_is 222 9 (zf_geti 9 8 13 12), z_is 222 12 (zf_aload 12 0 13), z_is 222 13 (zf_geti 13 8 14 16), z_is 222 16 (zf_isub 16 17), z_is 222 17 (zf_aload 17 1 18), z_at 222 18 (zf_str 18 105 21), z_is 222 21 (zf_if2 .eq 21 26 24)] = true := by decide +kernel
    refine z_aload hB rfl (fun hB => ?_)
    refine y_geti ok hB (by decide +kernel) (fun hB => ?_)
    refine z_aload hB rfl (fun hB => ?_)
    refine y_geti ok hB (by decide +kernel) (fun hB => ?_)
    refine z_isub hB (fun hB => ?_)
    refine z_aload hB rfl (fun hB => ?_)
    obtain ⟨g3, h⟩ := z_gd h
    refine y_slen (k := k1) ok hB g3 rfl (fun hB => ?_)
    refine z_ic_eq hB (fun hc _ => ?_) (fun hc _ => ?_)
    · have h := z_pos hc h
      have hB : z_all [z_is 222 26 (zf_cst 26 (jn 0) 27), z_is 222 27 (zf_istore 27 2 28)] = true := by decide +kernel
      refine z_cst hB (fun hB => ?_)
      refine z_istore hB rfl rfl (fun hB => ?_)
      have l5 : ∀ (m5 : Nat) (p4 : Int32), z_it (d_M_isWord_5 k1 I) m5 p4 = some r → z_R G 222 28 [some (.ref (241)), some (.ref (ev_S + 1 + k1)), some (.int (p4))] [] (z_w w I) (.inl (some (.int r))) (z_w w I) := by
        intro m5
        induction m5 with
        | zero => intro p4 h; cases h
        | succ m5 i5 =>
          intro p4 h
          obtain ⟨u5, h, b5⟩ := z_it_o h
          unfold d_M_isWord_5 at h
          have hB : z_all [z_is 222 28 (zf_iload 28 2 29), z_is 222 29 (zf_aload 29 1 30), z_at 222 30 (zf_str 30 105 33), z_is 222 33 (zf_if2 .ge 33 63 36)] = true := by decide +kernel
          refine z_iload hB rfl (fun hB => ?_)
          refine z_aload hB rfl (fun hB => ?_)
          obtain ⟨g6, h⟩ := z_gd h
          refine y_slen (k := k1) ok hB g6 rfl (fun hB => ?_)
          refine z_ic_ge hB (fun hc _ => ?_) (fun hc _ => ?_)
          · have h := z_neg hc h
            have hB : z_all [z_is 222 63 (zf_cst 63 (jn 1) 64), z_is 222 64 (zf_ret 1)] = true := by decide +kernel
            refine z_cst hB (fun hB => ?_)
            cases h
            cases b5
            exact z_retz hB (by decide)
          · have h := z_pos hc h
            have hB : z_all [z_is 222 36 (zf_aload 36 0 37), z_is 222 37 (zf_getr 37 8 8 40), z_is 222 40 (zf_aload 40 0 41), z_is 222 41 (zf_geti 41 8 14 44), z_is 222 44 (zf_iload 44 2 45), z_is 222 45 (zf_iadd 45 46), z_is 222 46 (zf_bald 46 47), z_is 222 47 (zf_aload 47 1 48), z_is 222 48 (zf_iload 48 2 49), z_at 222 49 (zf_str 49 106 52), z_is 222 52 (zf_if2 .eq 52 57 55)] = true := by decide +kernel
            refine z_aload hB rfl (fun hB => ?_)
            refine y_getr (b := 247) ok hB (by decide +kernel) (by decide +kernel) (fun hB => ?_)
            refine z_aload hB rfl (fun hB => ?_)
            refine y_geti ok hB (by decide +kernel) (fun hB => ?_)
            refine z_iload hB rfl (fun hB => ?_)
            refine z_iadd hB (fun hB => ?_)
            obtain ⟨g7, h⟩ := z_gd h
            refine y_bald ok hB (by decide +kernel) (by decide +kernel) g7 (fun hB => ?_)
            refine z_aload hB rfl (fun hB => ?_)
            refine z_iload hB rfl (fun hB => ?_)
            obtain ⟨g8, h⟩ := z_gd h
            obtain ⟨g9, h⟩ := z_gd h
            refine y_schr (k := k1) ok hB g8 g9 rfl (fun hB => ?_)
            refine z_ic_eq hB (fun hc _ => ?_) (fun hc _ => ?_)
            · have h := z_pos hc h
              have hB : z_all [z_is 222 57 (zf_iinc 57 2 (jn 1) 60), z_is 222 60 (zf_goto 60 28)] = true := by decide +kernel
              refine z_iinc hB rfl rfl (fun hB => ?_)
              refine z_goto hB (fun hB => ?_)
              cases h
              exact z_weak (i5 ((p4 + (jn 1))) b5) (z_se (z_se (z_se z_s0)))
            · have h := z_neg hc h
              have hB : z_all [z_is 222 55 (zf_cst 55 (jn 0) 56), z_is 222 56 (zf_ret 1)] = true := by decide +kernel
              refine z_cst hB (fun hB => ?_)
              cases h
              cases b5
              exact z_retz hB (by decide)
      exact z_weak (l5 _ ((jn 0)) h) (z_se (z_se (z_se z_s0)))
    · have h := z_neg hc h
      have hB : z_all [z_is 222 24 (zf_cst 24 (jn 0) 25), z_is 222 25 (zf_ret 1)] = true := by decide +kernel
      refine z_cst hB (fun hB => ?_)
      cases h
      exact z_retz hB (by decide)
def d_M_numberHere (x1 : Int32) (x2 : Int32) (I : z_H) : Option (Int32 × z_H) := ((d_M_is ((jn 3)) I).bind fun q1 => (Option.bind (α := z_H) (if q1 = jn 0 then ((d_M_faults ((jn 1)) I).bind fun q13 => some (q13)) else ((d_M_in ((I 241 16)) (x1) (x2)).bind fun q9 => (if q9 = jn 0 then ((d_M_faults ((jn 2)) I).bind fun q11 => some (q11)) else some (I)))) fun q3 => (Option.bind (α := Int32) (if jn 0 < (q3 241 10) then some (x1) else some ((q3 241 16))) fun q6 => some ((q6, q3)))))
/-- FlagLaundryModel.numberHere(II)I -/
theorem t_M_numberHere {G : z_G} {w : ev_W} (ok : z_Ok G w) {x1 : Int32} {x2 : Int32} {I : z_H} {r : Int32 × z_H} (h : d_M_numberHere x1 x2 I = some r) : z_K G 223 [.ref (241), .int (x1), .int (x2)] (z_w w I) (.inl (some (.int r.1))) (z_w w r.2) := by
  refine z_con ok.1 (ml := 3) (by decide +kernel) rfl rfl ?_
  show z_R G 223 0 [some (.ref (241)), some (.int (x1)), some (.int (x2))] [] (z_w w I) (.inl (some (.int r.1))) (z_w w r.2)
  unfold d_M_numberHere at h
  have hB : z_all [z_is 223 0 (zf_aload 0 0 1), z_is 223 1 (zf_cst 1 (jn 3) 2), z_is 223 2 (zf_cv 2 221 1 8 5), z_is 223 5 (zf_if1 .ne 5 16 8)] = true := by decide +kernel
  refine z_aload hB rfl (fun hB => ?_)
  refine z_cst hB (fun hB => ?_)
  obtain ⟨q1, e2, h⟩ := z_bind h
  refine y_cv ok hB (as := [.int ((jn 3))]) (a := 241) (rest := []) rfl rfl rfl (by decide +kernel) (t_M_is (I := I) ok e2) (fun hB => ?_)
  obtain ⟨q3, e4, h⟩ := z_bind h
  have k5 : z_R G 223 33 [some (.ref (241)), some (.int (x1)), none] [] (z_w w q3) (.inl (some (.int r.1))) (z_w w r.2) := by
    have hB : z_all [z_is 223 33 (zf_aload 33 0 34), z_is 223 34 (zf_geti 34 8 10 37), z_is 223 37 (zf_if1 .le 37 44 40)] = true := by decide +kernel
    refine z_aload hB rfl (fun hB => ?_)
    refine y_geti ok hB (by decide +kernel) (fun hB => ?_)
    obtain ⟨q6, e7, h⟩ := z_bind h
    have k8 : z_R G 223 48 [none, none, none] [.int (q6)] (z_w w q3) (.inl (some (.int r.1))) (z_w w r.2) := by
      have hB : z_all [z_is 223 48 (zf_ret 0)] = true := by decide +kernel
      cases h
      exact z_reti hB
    have h := e7
    refine z_if_le hB (fun hc _ => ?_) (fun hc _ => ?_)
    · have h := z_neg hc h
      have hB : z_all [z_is 223 44 (zf_aload 44 0 45), z_is 223 45 (zf_geti 45 8 16 48)] = true := by decide +kernel
      refine z_aload hB rfl (fun hB => ?_)
      refine y_geti ok hB (by decide +kernel) (fun hB => ?_)
      cases h
      exact z_weak k8 (z_sn (z_sn (z_sn z_s0)))
    · have h := z_pos hc h
      have hB : z_all [z_is 223 40 (zf_iload 40 1 41), z_is 223 41 (zf_goto 41 48)] = true := by decide +kernel
      refine z_iload hB rfl (fun hB => ?_)
      refine z_goto hB (fun hB => ?_)
      cases h
      exact z_weak k8 (z_sn (z_sn (z_sn z_s0)))
  have h := e4
  refine z_if_ne hB (fun hc _ => ?_) (fun hc _ => ?_)
  · have h := z_neg hc h
    have hB : z_all [z_is 223 16 (zf_aload 16 0 17), z_is 223 17 (zf_geti 17 8 16 20), z_is 223 20 (zf_iload 20 1 21), z_is 223 21 (zf_iload 21 2 22), z_is 223 22 (zf_cs 22 203 3 25), z_is 223 25 (zf_if1 .ne 25 33 28)] = true := by decide +kernel
    refine z_aload hB rfl (fun hB => ?_)
    refine y_geti ok hB (by decide +kernel) (fun hB => ?_)
    refine z_iload hB rfl (fun hB => ?_)
    refine z_iload hB rfl (fun hB => ?_)
    obtain ⟨q9, e10, h⟩ := z_bind h
    refine z_callS hB (as := [.int ((I 241 16)), .int (x1), .int (x2)]) (rest := []) rfl rfl rfl (t_M_in (I := I) ok e10) (fun hB => ?_)
    refine z_if_ne hB (fun hc _ => ?_) (fun hc _ => ?_)
    · have h := z_neg hc h
      cases h
      exact z_weak k5 (z_se (z_se (z_sn z_s0)))
    · have h := z_pos hc h
      have hB : z_all [z_is 223 28 (zf_aload 28 0 29), z_is 223 29 (zf_cst 29 (jn 2) 30), z_is 223 30 (zf_cv 30 220 1 8 33)] = true := by decide +kernel
      refine z_aload hB rfl (fun hB => ?_)
      refine z_cst hB (fun hB => ?_)
      obtain ⟨q11, e12, h⟩ := z_bind h
      refine y_cv ok hB (as := [.int ((jn 2))]) (a := 241) (rest := []) rfl rfl rfl (by decide +kernel) (t_M_faults (I := I) ok e12) (fun hB => ?_)
      cases h
      exact z_weak k5 (z_se (z_se (z_sn z_s0)))
  · have h := z_pos hc h
    have hB : z_all [z_is 223 8 (zf_aload 8 0 9), z_is 223 9 (zf_cst 9 (jn 1) 10), z_is 223 10 (zf_cv 10 220 1 8 13), z_is 223 13 (zf_goto 13 33)] = true := by decide +kernel
    refine z_aload hB rfl (fun hB => ?_)
    refine z_cst hB (fun hB => ?_)
    obtain ⟨q13, e14, h⟩ := z_bind h
    refine y_cv ok hB (as := [.int ((jn 1))]) (a := 241) (rest := []) rfl rfl rfl (by decide +kernel) (t_M_faults (I := I) ok e14) (fun hB => ?_)
    refine z_goto hB (fun hB => ?_)
    cases h
    exact z_weak k5 (z_se (z_se (z_sn z_s0)))
def d_M_number (x1 : Int32) (x2 : Int32) (I : z_H) : Option (Int32 × z_H) := ((d_M_numberHere (x1) (x2) I).bind fun q1 => ((d_M_goes q1.2).bind fun q3 => some ((q1.1, q3))))
/-- FlagLaundryModel.number(II)I -/
theorem t_M_number {G : z_G} {w : ev_W} (ok : z_Ok G w) {x1 : Int32} {x2 : Int32} {I : z_H} {r : Int32 × z_H} (h : d_M_number x1 x2 I = some r) : z_K G 224 [.ref (241), .int (x1), .int (x2)] (z_w w I) (.inl (some (.int r.1))) (z_w w r.2) := by
  refine z_con ok.1 (ml := 4) (by decide +kernel) rfl rfl ?_
  show z_R G 224 0 [some (.ref (241)), some (.int (x1)), some (.int (x2)), none] [] (z_w w I) (.inl (some (.int r.1))) (z_w w r.2)
  unfold d_M_number at h
  have hB : z_all [z_is 224 0 (zf_aload 0 0 1), z_is 224 1 (zf_iload 1 1 2), z_is 224 2 (zf_iload 2 2 3), z_is 224 3 (zf_cv 3 223 2 8 6), z_is 224 6 (zf_istore 6 3 7), z_is 224 7 (zf_aload 7 0 8), z_is 224 8 (zf_cv 8 219 0 8 11), z_is 224 11 (zf_iload 11 3 12), z_is 224 12 (zf_ret 0)] = true := by decide +kernel
  refine z_aload hB rfl (fun hB => ?_)
  refine z_iload hB rfl (fun hB => ?_)
  refine z_iload hB rfl (fun hB => ?_)
  obtain ⟨q1, e2, h⟩ := z_bind h
  refine y_cv ok hB (as := [.int (x1), .int (x2)]) (a := 241) (rest := []) rfl rfl rfl (by decide +kernel) (t_M_numberHere (I := I) ok e2) (fun hB => ?_)
  refine z_istore hB rfl rfl (fun hB => ?_)
  refine z_aload hB rfl (fun hB => ?_)
  obtain ⟨q3, e4, h⟩ := z_bind h
  refine y_cv ok hB (as := []) (a := 241) (rest := []) rfl rfl rfl (by decide +kernel) (t_M_goes (I := q1.2) ok e4) (fun hB => ?_)
  refine z_iload hB rfl (fun hB => ?_)
  cases h
  exact z_reti hB
def d_M_begins (x1 : Int32) (x2 : Int32) (I : z_H) : Option (z_H) := (if z_in (x1) 173 then (Option.bind (α := z_H) (if (I 242 (z_n (x1))) = x2 then ((d_M_faults ((jn 4)) I).bind fun q7 => some (q7)) else some (I)) fun q2 => ((d_M_goes q2).bind fun q5 => some (q5))) else none)
/-- FlagLaundryModel.begins(II)V -/
theorem t_M_begins {G : z_G} {w : ev_W} (ok : z_Ok G w) {x1 : Int32} {x2 : Int32} {I : z_H} {r : z_H} (h : d_M_begins x1 x2 I = some r) : z_K G 225 [.ref (241), .int (x1), .int (x2)] (z_w w I) (.inl none) (z_w w r) := by
  refine z_con ok.1 (ml := 3) (by decide +kernel) rfl rfl ?_
  show z_R G 225 0 [some (.ref (241)), some (.int (x1)), some (.int (x2))] [] (z_w w I) (.inl none) (z_w w r)
  unfold d_M_begins at h
  have hB : z_all [z_is 225 0 (zf_aload 0 0 1), z_is 225 1 (zf_getr 1 8 1 4), z_is 225 4 (zf_iload 4 1 5), z_is 225 5 (zf_iald 5 6), z_is 225 6 (zf_iload 6 2 7), z_is 225 7 (zf_if2 .ne 7 15 10)] = true := by decide +kernel
  refine z_aload hB rfl (fun hB => ?_)
  refine y_getr (b := 242) ok hB (by decide +kernel) (by decide +kernel) (fun hB => ?_)
  refine z_iload hB rfl (fun hB => ?_)
  obtain ⟨g1, h⟩ := z_gd h
  refine y_iald ok hB (by decide +kernel) (by decide +kernel) g1 (fun hB => ?_)
  refine z_iload hB rfl (fun hB => ?_)
  obtain ⟨q2, e3, h⟩ := z_bind h
  have k4 : z_R G 225 15 [some (.ref (241)), none, none] [] (z_w w q2) (.inl none) (z_w w r) := by
    have hB : z_all [z_is 225 15 (zf_aload 15 0 16), z_is 225 16 (zf_cv 16 219 0 8 19), z_is 225 19 (zf_ret 6)] = true := by decide +kernel
    refine z_aload hB rfl (fun hB => ?_)
    obtain ⟨q5, e6, h⟩ := z_bind h
    refine y_cv ok hB (as := []) (a := 241) (rest := []) rfl rfl rfl (by decide +kernel) (t_M_goes (I := q2) ok e6) (fun hB => ?_)
    cases h
    exact z_retv hB
  have h := e3
  refine z_ic_ne hB (fun hc _ => ?_) (fun hc _ => ?_)
  · have h := z_neg hc h
    cases h
    exact z_weak k4 (z_se (z_sn (z_sn z_s0)))
  · have h := z_pos hc h
    have hB : z_all [z_is 225 10 (zf_aload 10 0 11), z_is 225 11 (zf_cst 11 (jn 4) 12), z_is 225 12 (zf_cv 12 220 1 8 15)] = true := by decide +kernel
    refine z_aload hB rfl (fun hB => ?_)
    refine z_cst hB (fun hB => ?_)
    obtain ⟨q7, e8, h⟩ := z_bind h
    refine y_cv ok hB (as := [.int ((jn 4))]) (a := 241) (rest := []) rfl rfl rfl (by decide +kernel) (t_M_faults (I := I) ok e8) (fun hB => ?_)
    cases h
    exact z_weak k4 (z_se (z_sn (z_sn z_s0)))
def d_M_readsColour  (I : z_H) : Option (z_H) := ((d_M_begins ((jn 6)) ((jn 6)) I).bind fun q1 => ((d_M_number ((jn 0)) ((jn 4)) q1).bind fun q3 => (if jn 0 < (q3.2 241 10) then some (q3.2) else (if z_in ((jn 6)) 173 then (if z_in (((jn 12) + (q3.2 242 (z_n ((jn 6)))))) 173 then (if z_in ((jn 6)) 173 then (if z_in ((jn 6)) 173 then (Option.bind (α := z_H) (some (ev_u2 (ev_u2 q3.2 242 (z_n (((jn 12) + (q3.2 242 (z_n ((jn 6))))))) q3.1) 242 (z_n ((jn 6))) (((ev_u2 q3.2 242 (z_n (((jn 12) + (q3.2 242 (z_n ((jn 6))))))) q3.1) 242 (z_n ((jn 6)))) + (jn 1)))) fun J9 => some (J9)) else none) else none) else none) else none))))
/-- FlagLaundryModel.readsColour()V -/
theorem t_M_readsColour {G : z_G} {w : ev_W} (ok : z_Ok G w) {I : z_H} {r : z_H} (h : d_M_readsColour I = some r) : z_K G 226 [.ref (241)] (z_w w I) (.inl none) (z_w w r) := by
  refine z_con ok.1 (ml := 2) (by decide +kernel) rfl rfl ?_
  show z_R G 226 0 [some (.ref (241)), none] [] (z_w w I) (.inl none) (z_w w r)
  unfold d_M_readsColour at h
  have hB : z_all [z_is 226 0 (zf_aload 0 0 1), z_is 226 1 (zf_cst 1 (jn 6) 3), z_is 226 3 (zf_cst 3 (jn 6) 5), z_is 226 5 (zf_cv 5 225 2 8 8), z_is 226 8 (zf_aload 8 0 9), z_is 226 9 (zf_cst 9 (jn 0) 10), z_is 226 10 (zf_cst 10 (jn 4) 11), z_is 226 11 (zf_cv 11 224 2 8 14), z_is 226 14 (zf_istore 14 1 15), z_is 226 15 (zf_aload 15 0 16), z_is 226 16 (zf_geti 16 8 10 19), z_is 226 19 (zf_if1 .le 19 23 22)] = true := by decide +kernel
  refine z_aload hB rfl (fun hB => ?_)
  refine z_cst hB (fun hB => ?_)
  refine z_cst hB (fun hB => ?_)
  obtain ⟨q1, e2, h⟩ := z_bind h
  refine y_cv ok hB (as := [.int ((jn 6)), .int ((jn 6))]) (a := 241) (rest := []) rfl rfl rfl (by decide +kernel) (t_M_begins (I := I) ok e2) (fun hB => ?_)
  refine z_aload hB rfl (fun hB => ?_)
  refine z_cst hB (fun hB => ?_)
  refine z_cst hB (fun hB => ?_)
  obtain ⟨q3, e4, h⟩ := z_bind h
  refine y_cv ok hB (as := [.int ((jn 0)), .int ((jn 4))]) (a := 241) (rest := []) rfl rfl rfl (by decide +kernel) (t_M_number (I := q1) ok e4) (fun hB => ?_)
  refine z_istore hB rfl rfl (fun hB => ?_)
  refine z_aload hB rfl (fun hB => ?_)
  refine y_geti ok hB (by decide +kernel) (fun hB => ?_)
  refine z_if_le hB (fun hc _ => ?_) (fun hc _ => ?_)
  · have h := z_neg hc h
    have hB : z_all [z_is 226 23 (zf_aload 23 0 24), z_is 226 24 (zf_getr 24 8 1 27), z_is 226 27 (zf_cst 27 (jn 12) 29), z_is 226 29 (zf_aload 29 0 30), z_is 226 30 (zf_getr 30 8 1 33), z_is 226 33 (zf_cst 33 (jn 6) 35), z_is 226 35 (zf_iald 35 36), z_is 226 36 (zf_iadd 36 37), z_is 226 37 (zf_iload 37 1 38), z_is 226 38 (zf_iast 38 39), z_is 226 39 (zf_aload 39 0 40), z_is 226 40 (zf_getr 40 8 1 43), z_is 226 43 (zf_cst 43 (jn 6) 45), z_is 226 45 (zf_dup2 45 46), z_is 226 46 (zf_iald 46 47), z_is 226 47 (zf_cst 47 (jn 1) 48), z_is 226 48 (zf_iadd 48 49), z_is 226 49 (zf_iast 49 50), z_is 226 50 (zf_ret 6)] = true := by decide +kernel
    refine z_aload hB rfl (fun hB => ?_)
    refine y_getr (b := 242) ok hB (by decide +kernel) (by decide +kernel) (fun hB => ?_)
    refine z_cst hB (fun hB => ?_)
    refine z_aload hB rfl (fun hB => ?_)
    refine y_getr (b := 242) ok hB (by decide +kernel) (by decide +kernel) (fun hB => ?_)
    refine z_cst hB (fun hB => ?_)
    obtain ⟨g5, h⟩ := z_gd h
    refine y_iald ok hB (by decide +kernel) (by decide +kernel) g5 (fun hB => ?_)
    refine z_iadd hB (fun hB => ?_)
    refine z_iload hB rfl (fun hB => ?_)
    obtain ⟨g6, h⟩ := z_gd h
    refine y_iast ok hB (by decide +kernel) (by decide +kernel) g6 (fun hB => ?_)
    refine z_aload hB rfl (fun hB => ?_)
    refine y_getr (b := 242) ok hB (by decide +kernel) (by decide +kernel) (fun hB => ?_)
    refine z_cst hB (fun hB => ?_)
    refine z_dup2 hB (fun hB => ?_)
    obtain ⟨g7, h⟩ := z_gd h
    refine y_iald ok hB (by decide +kernel) (by decide +kernel) g7 (fun hB => ?_)
    refine z_cst hB (fun hB => ?_)
    refine z_iadd hB (fun hB => ?_)
    obtain ⟨g8, h⟩ := z_gd h
    refine y_iast ok hB (by decide +kernel) (by decide +kernel) g8 (fun hB => ?_)
    obtain ⟨J9, e10, h⟩ := z_bind h
    rw [z_inj e10]
    cases h
    exact z_retv hB
  · have h := z_pos hc h
    have hB : z_all [z_is 226 22 (zf_ret 6)] = true := by decide +kernel
    cases h
    exact z_retv hB
def d_M_putsNation (x1 : Int32) (x2 : Int32) (x3 : Int32) (I : z_H) : Option (z_H) := (if z_in ((((jn 18) + ((jn 5) * x1)) + x2)) 173 then some ((ev_u2 I 242 (z_n ((((jn 18) + ((jn 5) * x1)) + x2))) x3)) else none)
/-- FlagLaundryModel.putsNation(III)V -/
theorem t_M_putsNation {G : z_G} {w : ev_W} (ok : z_Ok G w) {x1 : Int32} {x2 : Int32} {x3 : Int32} {I : z_H} {r : z_H} (h : d_M_putsNation x1 x2 x3 I = some r) : z_K G 241 [.ref (241), .int (x1), .int (x2), .int (x3)] (z_w w I) (.inl none) (z_w w r) := by
  refine z_con ok.1 (ml := 4) (by decide +kernel) rfl rfl ?_
  show z_R G 241 0 [some (.ref (241)), some (.int (x1)), some (.int (x2)), some (.int (x3))] [] (z_w w I) (.inl none) (z_w w r)
  unfold d_M_putsNation at h
  have hB : z_all [z_is 241 0 (zf_aload 0 0 1), z_is 241 1 (zf_getr 1 8 1 4), z_is 241 4 (zf_cst 4 (jn 18) 6), z_is 241 6 (zf_cst 6 (jn 5) 7), z_is 241 7 (zf_iload 7 1 8), z_is 241 8 (zf_imul 8 9), z_is 241 9 (zf_iadd 9 10), z_is 241 10 (zf_iload 10 2 11), z_is 241 11 (zf_iadd 11 12), z_is 241 12 (zf_iload 12 3 13), z_is 241 13 (zf_iast 13 14), z_is 241 14 (zf_ret 6)] = true := by decide +kernel
  refine z_aload hB rfl (fun hB => ?_)
  refine y_getr (b := 242) ok hB (by decide +kernel) (by decide +kernel) (fun hB => ?_)
  refine z_cst hB (fun hB => ?_)
  refine z_cst hB (fun hB => ?_)
  refine z_iload hB rfl (fun hB => ?_)
  refine z_imul hB (fun hB => ?_)
  refine z_iadd hB (fun hB => ?_)
  refine z_iload hB rfl (fun hB => ?_)
  refine z_iadd hB (fun hB => ?_)
  refine z_iload hB rfl (fun hB => ?_)
  obtain ⟨g1, h⟩ := z_gd h
  refine y_iast ok hB (by decide +kernel) (by decide +kernel) g1 (fun hB => ?_)
  cases h
  exact z_retv hB
def d_M_readsNation  (I : z_H) : Option (z_H) := ((d_M_begins ((jn 7)) ((jn 4)) I).bind fun q1 => ((d_M_number ((jn 0)) ((jn 99)) q1).bind fun q3 => ((d_M_number ((jn 1)) ((jn 99)) q3.2).bind fun q5 => ((d_M_number ((jn 0)) ((jn 9)) q5.2).bind fun q7 => (if jn 0 < (q7.2 241 10) then some (q7.2) else (if z_in ((jn 7)) 173 then ((d_M_putsNation ((q7.2 242 (z_n ((jn 7))))) ((jn 0)) (q3.1) q7.2).bind fun q10 => ((d_M_putsNation ((q7.2 242 (z_n ((jn 7))))) ((jn 1)) (q5.1) q10).bind fun q12 => ((d_M_putsNation ((q7.2 242 (z_n ((jn 7))))) ((jn 2)) (q7.1) q12).bind fun q14 => (if z_in ((jn 7)) 173 then (if z_in ((jn 7)) 173 then some ((ev_u2 q14 242 (z_n ((jn 7))) ((q14 242 (z_n ((jn 7)))) + (jn 1)))) else none) else none)))) else none))))))
/-- FlagLaundryModel.readsNation()V -/
theorem t_M_readsNation {G : z_G} {w : ev_W} (ok : z_Ok G w) {I : z_H} {r : z_H} (h : d_M_readsNation I = some r) : z_K G 227 [.ref (241)] (z_w w I) (.inl none) (z_w w r) := by
  refine z_con ok.1 (ml := 5) (by decide +kernel) rfl rfl ?_
  show z_R G 227 0 [some (.ref (241)), none, none, none, none] [] (z_w w I) (.inl none) (z_w w r)
  unfold d_M_readsNation at h
  have hB : z_all [z_is 227 0 (zf_aload 0 0 1), z_is 227 1 (zf_cst 1 (jn 7) 3), z_is 227 3 (zf_cst 3 (jn 4) 4), z_is 227 4 (zf_cv 4 225 2 8 7), z_is 227 7 (zf_aload 7 0 8), z_is 227 8 (zf_cst 8 (jn 0) 9), z_is 227 9 (zf_cst 9 (jn 99) 11), z_is 227 11 (zf_cv 11 224 2 8 14), z_is 227 14 (zf_istore 14 1 15), z_is 227 15 (zf_aload 15 0 16), z_is 227 16 (zf_cst 16 (jn 1) 17), z_is 227 17 (zf_cst 17 (jn 99) 19), z_is 227 19 (zf_cv 19 224 2 8 22), z_is 227 22 (zf_istore 22 2 23), z_is 227 23 (zf_aload 23 0 24), z_is 227 24 (zf_cst 24 (jn 0) 25), z_is 227 25 (zf_cst 25 (jn 9) 27), z_is 227 27 (zf_cv 27 224 2 8 30), z_is 227 30 (zf_istore 30 3 31), z_is 227 31 (zf_aload 31 0 32), z_is 227 32 (zf_geti 32 8 10 35), z_is 227 35 (zf_if1 .le 35 39 38)] = true := by decide +kernel
  refine z_aload hB rfl (fun hB => ?_)
  refine z_cst hB (fun hB => ?_)
  refine z_cst hB (fun hB => ?_)
  obtain ⟨q1, e2, h⟩ := z_bind h
  refine y_cv ok hB (as := [.int ((jn 7)), .int ((jn 4))]) (a := 241) (rest := []) rfl rfl rfl (by decide +kernel) (t_M_begins (I := I) ok e2) (fun hB => ?_)
  refine z_aload hB rfl (fun hB => ?_)
  refine z_cst hB (fun hB => ?_)
  refine z_cst hB (fun hB => ?_)
  obtain ⟨q3, e4, h⟩ := z_bind h
  refine y_cv ok hB (as := [.int ((jn 0)), .int ((jn 99))]) (a := 241) (rest := []) rfl rfl rfl (by decide +kernel) (t_M_number (I := q1) ok e4) (fun hB => ?_)
  refine z_istore hB rfl rfl (fun hB => ?_)
  refine z_aload hB rfl (fun hB => ?_)
  refine z_cst hB (fun hB => ?_)
  refine z_cst hB (fun hB => ?_)
  obtain ⟨q5, e6, h⟩ := z_bind h
  refine y_cv ok hB (as := [.int ((jn 1)), .int ((jn 99))]) (a := 241) (rest := []) rfl rfl rfl (by decide +kernel) (t_M_number (I := q3.2) ok e6) (fun hB => ?_)
  refine z_istore hB rfl rfl (fun hB => ?_)
  refine z_aload hB rfl (fun hB => ?_)
  refine z_cst hB (fun hB => ?_)
  refine z_cst hB (fun hB => ?_)
  obtain ⟨q7, e8, h⟩ := z_bind h
  refine y_cv ok hB (as := [.int ((jn 0)), .int ((jn 9))]) (a := 241) (rest := []) rfl rfl rfl (by decide +kernel) (t_M_number (I := q5.2) ok e8) (fun hB => ?_)
  refine z_istore hB rfl rfl (fun hB => ?_)
  refine z_aload hB rfl (fun hB => ?_)
  refine y_geti ok hB (by decide +kernel) (fun hB => ?_)
  refine z_if_le hB (fun hc _ => ?_) (fun hc _ => ?_)
  · have h := z_neg hc h
    have hB : z_all [z_is 227 39 (zf_aload 39 0 40), z_is 227 40 (zf_getr 40 8 1 43), z_is 227 43 (zf_cst 43 (jn 7) 45), z_is 227 45 (zf_iald 45 46), z_is 227 46 (zf_istore 46 4 48), z_is 227 48 (zf_aload 48 0 49), z_is 227 49 (zf_iload 49 4 51), z_is 227 51 (zf_cst 51 (jn 0) 52), z_is 227 52 (zf_iload 52 1 53), z_is 227 53 (zf_cv 53 241 3 8 56), z_is 227 56 (zf_aload 56 0 57), z_is 227 57 (zf_iload 57 4 59), z_is 227 59 (zf_cst 59 (jn 1) 60), z_is 227 60 (zf_iload 60 2 61), z_is 227 61 (zf_cv 61 241 3 8 64), z_is 227 64 (zf_aload 64 0 65), z_is 227 65 (zf_iload 65 4 67), z_is 227 67 (zf_cst 67 (jn 2) 68), z_is 227 68 (zf_iload 68 3 69), z_is 227 69 (zf_cv 69 241 3 8 72), z_is 227 72 (zf_aload 72 0 73), z_is 227 73 (zf_getr 73 8 1 76), z_is 227 76 (zf_cst 76 (jn 7) 78), z_is 227 78 (zf_dup2 78 79), z_is 227 79 (zf_iald 79 80), z_is 227 80 (zf_cst 80 (jn 1) 81), z_is 227 81 (zf_iadd 81 82), z_is 227 82 (zf_iast 82 83), z_is 227 83 (zf_ret 6)] = true := by decide +kernel
    refine z_aload hB rfl (fun hB => ?_)
    refine y_getr (b := 242) ok hB (by decide +kernel) (by decide +kernel) (fun hB => ?_)
    refine z_cst hB (fun hB => ?_)
    obtain ⟨g9, h⟩ := z_gd h
    refine y_iald ok hB (by decide +kernel) (by decide +kernel) g9 (fun hB => ?_)
    refine z_istore hB rfl rfl (fun hB => ?_)
    refine z_aload hB rfl (fun hB => ?_)
    refine z_iload hB rfl (fun hB => ?_)
    refine z_cst hB (fun hB => ?_)
    refine z_iload hB rfl (fun hB => ?_)
    obtain ⟨q10, e11, h⟩ := z_bind h
    refine y_cv ok hB (as := [.int ((q7.2 242 (z_n ((jn 7))))), .int ((jn 0)), .int (q3.1)]) (a := 241) (rest := []) rfl rfl rfl (by decide +kernel) (t_M_putsNation (I := q7.2) ok e11) (fun hB => ?_)
    refine z_aload hB rfl (fun hB => ?_)
    refine z_iload hB rfl (fun hB => ?_)
    refine z_cst hB (fun hB => ?_)
    refine z_iload hB rfl (fun hB => ?_)
    obtain ⟨q12, e13, h⟩ := z_bind h
    refine y_cv ok hB (as := [.int ((q7.2 242 (z_n ((jn 7))))), .int ((jn 1)), .int (q5.1)]) (a := 241) (rest := []) rfl rfl rfl (by decide +kernel) (t_M_putsNation (I := q10) ok e13) (fun hB => ?_)
    refine z_aload hB rfl (fun hB => ?_)
    refine z_iload hB rfl (fun hB => ?_)
    refine z_cst hB (fun hB => ?_)
    refine z_iload hB rfl (fun hB => ?_)
    obtain ⟨q14, e15, h⟩ := z_bind h
    refine y_cv ok hB (as := [.int ((q7.2 242 (z_n ((jn 7))))), .int ((jn 2)), .int (q7.1)]) (a := 241) (rest := []) rfl rfl rfl (by decide +kernel) (t_M_putsNation (I := q12) ok e15) (fun hB => ?_)
    refine z_aload hB rfl (fun hB => ?_)
    refine y_getr (b := 242) ok hB (by decide +kernel) (by decide +kernel) (fun hB => ?_)
    refine z_cst hB (fun hB => ?_)
    refine z_dup2 hB (fun hB => ?_)
    obtain ⟨g16, h⟩ := z_gd h
    refine y_iald ok hB (by decide +kernel) (by decide +kernel) g16 (fun hB => ?_)
    refine z_cst hB (fun hB => ?_)
    refine z_iadd hB (fun hB => ?_)
    obtain ⟨g17, h⟩ := z_gd h
    refine y_iast ok hB (by decide +kernel) (by decide +kernel) g17 (fun hB => ?_)
    cases h
    exact z_retv hB
  · have h := z_pos hc h
    have hB : z_all [z_is 227 38 (zf_ret 6)] = true := by decide +kernel
    cases h
    exact z_retv hB
def d_M_readsTub  (I : z_H) : Option (z_H) := ((d_M_begins ((jn 8)) ((jn 3)) I).bind fun q1 => ((d_M_number ((jn 1)) ((jn 6)) q1).bind fun q3 => (if jn 0 < (q3.2 241 10) then some (q3.2) else (if z_in ((jn 8)) 173 then (if z_in (((jn 38) + (q3.2 242 (z_n ((jn 8)))))) 173 then (if z_in ((jn 8)) 173 then (if z_in ((jn 8)) 173 then (Option.bind (α := z_H) (some (ev_u2 (ev_u2 q3.2 242 (z_n (((jn 38) + (q3.2 242 (z_n ((jn 8))))))) q3.1) 242 (z_n ((jn 8))) (((ev_u2 q3.2 242 (z_n (((jn 38) + (q3.2 242 (z_n ((jn 8))))))) q3.1) 242 (z_n ((jn 8)))) + (jn 1)))) fun J9 => some (J9)) else none) else none) else none) else none))))
/-- FlagLaundryModel.readsTub()V -/
theorem t_M_readsTub {G : z_G} {w : ev_W} (ok : z_Ok G w) {I : z_H} {r : z_H} (h : d_M_readsTub I = some r) : z_K G 228 [.ref (241)] (z_w w I) (.inl none) (z_w w r) := by
  refine z_con ok.1 (ml := 2) (by decide +kernel) rfl rfl ?_
  show z_R G 228 0 [some (.ref (241)), none] [] (z_w w I) (.inl none) (z_w w r)
  unfold d_M_readsTub at h
  have hB : z_all [z_is 228 0 (zf_aload 0 0 1), z_is 228 1 (zf_cst 1 (jn 8) 3), z_is 228 3 (zf_cst 3 (jn 3) 4), z_is 228 4 (zf_cv 4 225 2 8 7), z_is 228 7 (zf_aload 7 0 8), z_is 228 8 (zf_cst 8 (jn 1) 9), z_is 228 9 (zf_cst 9 (jn 6) 11), z_is 228 11 (zf_cv 11 224 2 8 14), z_is 228 14 (zf_istore 14 1 15), z_is 228 15 (zf_aload 15 0 16), z_is 228 16 (zf_geti 16 8 10 19), z_is 228 19 (zf_if1 .le 19 23 22)] = true := by decide +kernel
  refine z_aload hB rfl (fun hB => ?_)
  refine z_cst hB (fun hB => ?_)
  refine z_cst hB (fun hB => ?_)
  obtain ⟨q1, e2, h⟩ := z_bind h
  refine y_cv ok hB (as := [.int ((jn 8)), .int ((jn 3))]) (a := 241) (rest := []) rfl rfl rfl (by decide +kernel) (t_M_begins (I := I) ok e2) (fun hB => ?_)
  refine z_aload hB rfl (fun hB => ?_)
  refine z_cst hB (fun hB => ?_)
  refine z_cst hB (fun hB => ?_)
  obtain ⟨q3, e4, h⟩ := z_bind h
  refine y_cv ok hB (as := [.int ((jn 1)), .int ((jn 6))]) (a := 241) (rest := []) rfl rfl rfl (by decide +kernel) (t_M_number (I := q1) ok e4) (fun hB => ?_)
  refine z_istore hB rfl rfl (fun hB => ?_)
  refine z_aload hB rfl (fun hB => ?_)
  refine y_geti ok hB (by decide +kernel) (fun hB => ?_)
  refine z_if_le hB (fun hc _ => ?_) (fun hc _ => ?_)
  · have h := z_neg hc h
    have hB : z_all [z_is 228 23 (zf_aload 23 0 24), z_is 228 24 (zf_getr 24 8 1 27), z_is 228 27 (zf_cst 27 (jn 38) 29), z_is 228 29 (zf_aload 29 0 30), z_is 228 30 (zf_getr 30 8 1 33), z_is 228 33 (zf_cst 33 (jn 8) 35), z_is 228 35 (zf_iald 35 36), z_is 228 36 (zf_iadd 36 37), z_is 228 37 (zf_iload 37 1 38), z_is 228 38 (zf_iast 38 39), z_is 228 39 (zf_aload 39 0 40), z_is 228 40 (zf_getr 40 8 1 43), z_is 228 43 (zf_cst 43 (jn 8) 45), z_is 228 45 (zf_dup2 45 46), z_is 228 46 (zf_iald 46 47), z_is 228 47 (zf_cst 47 (jn 1) 48), z_is 228 48 (zf_iadd 48 49), z_is 228 49 (zf_iast 49 50), z_is 228 50 (zf_ret 6)] = true := by decide +kernel
    refine z_aload hB rfl (fun hB => ?_)
    refine y_getr (b := 242) ok hB (by decide +kernel) (by decide +kernel) (fun hB => ?_)
    refine z_cst hB (fun hB => ?_)
    refine z_aload hB rfl (fun hB => ?_)
    refine y_getr (b := 242) ok hB (by decide +kernel) (by decide +kernel) (fun hB => ?_)
    refine z_cst hB (fun hB => ?_)
    obtain ⟨g5, h⟩ := z_gd h
    refine y_iald ok hB (by decide +kernel) (by decide +kernel) g5 (fun hB => ?_)
    refine z_iadd hB (fun hB => ?_)
    refine z_iload hB rfl (fun hB => ?_)
    obtain ⟨g6, h⟩ := z_gd h
    refine y_iast ok hB (by decide +kernel) (by decide +kernel) g6 (fun hB => ?_)
    refine z_aload hB rfl (fun hB => ?_)
    refine y_getr (b := 242) ok hB (by decide +kernel) (by decide +kernel) (fun hB => ?_)
    refine z_cst hB (fun hB => ?_)
    refine z_dup2 hB (fun hB => ?_)
    obtain ⟨g7, h⟩ := z_gd h
    refine y_iald ok hB (by decide +kernel) (by decide +kernel) g7 (fun hB => ?_)
    refine z_cst hB (fun hB => ?_)
    refine z_iadd hB (fun hB => ?_)
    obtain ⟨g8, h⟩ := z_gd h
    refine y_iast ok hB (by decide +kernel) (by decide +kernel) g8 (fun hB => ?_)
    obtain ⟨J9, e10, h⟩ := z_bind h
    rw [z_inj e10]
    cases h
    exact z_retv hB
  · have h := z_pos hc h
    have hB : z_all [z_is 228 22 (zf_ret 6)] = true := by decide +kernel
    cases h
    exact z_retv hB
def d_M_colourRead (x1 : Int32) (I : z_H) : Option (Int32 × z_H) := (if z_in ((jn 6)) 173 then ((d_M_numberHere ((jn 0)) (((I 242 (z_n ((jn 6)))) - (jn 1))) I).bind fun q2 => (Option.bind (α := z_H) (if (q2.2 241 10) = jn 0 then ((d_M_has (x1) (q2.1)).bind fun q12 => (if q12 = jn 0 then some (q2.2) else ((d_M_faults ((jn 3)) q2.2).bind fun q14 => some (q14)))) else some (q2.2)) fun q4 => ((d_M_goes q4).bind fun q7 => (Option.bind (α := Int32) (if jn 0 < (q7 241 10) then some (x1) else some ((x1 ||| ((jn 1) <<< (q2.1 &&& 31))))) fun q9 => some ((q9, q7)))))) else none)
/-- FlagLaundryModel.colourRead(I)I -/
theorem t_M_colourRead {G : z_G} {w : ev_W} (ok : z_Ok G w) {x1 : Int32} {I : z_H} {r : Int32 × z_H} (h : d_M_colourRead x1 I = some r) : z_K G 229 [.ref (241), .int (x1)] (z_w w I) (.inl (some (.int r.1))) (z_w w r.2) := by
  refine z_con ok.1 (ml := 3) (by decide +kernel) rfl rfl ?_
  show z_R G 229 0 [some (.ref (241)), some (.int (x1)), none] [] (z_w w I) (.inl (some (.int r.1))) (z_w w r.2)
  unfold d_M_colourRead at h
  have hB : z_all [z_is 229 0 (zf_aload 0 0 1), z_is 229 1 (zf_cst 1 (jn 0) 2), z_is 229 2 (zf_aload 2 0 3), z_is 229 3 (zf_getr 3 8 1 6), z_is 229 6 (zf_cst 6 (jn 6) 8), z_is 229 8 (zf_iald 8 9), z_is 229 9 (zf_cst 9 (jn 1) 10), z_is 229 10 (zf_isub 10 11), z_is 229 11 (zf_cv 11 223 2 8 14), z_is 229 14 (zf_istore 14 2 15), z_is 229 15 (zf_aload 15 0 16), z_is 229 16 (zf_geti 16 8 10 19), z_is 229 19 (zf_if1 .ne 19 35 22)] = true := by decide +kernel
  refine z_aload hB rfl (fun hB => ?_)
  refine z_cst hB (fun hB => ?_)
  refine z_aload hB rfl (fun hB => ?_)
  refine y_getr (b := 242) ok hB (by decide +kernel) (by decide +kernel) (fun hB => ?_)
  refine z_cst hB (fun hB => ?_)
  obtain ⟨g1, h⟩ := z_gd h
  refine y_iald ok hB (by decide +kernel) (by decide +kernel) g1 (fun hB => ?_)
  refine z_cst hB (fun hB => ?_)
  refine z_isub hB (fun hB => ?_)
  obtain ⟨q2, e3, h⟩ := z_bind h
  refine y_cv ok hB (as := [.int ((jn 0)), .int (((I 242 (z_n ((jn 6)))) - (jn 1)))]) (a := 241) (rest := []) rfl rfl rfl (by decide +kernel) (t_M_numberHere (I := I) ok e3) (fun hB => ?_)
  refine z_istore hB rfl rfl (fun hB => ?_)
  refine z_aload hB rfl (fun hB => ?_)
  refine y_geti ok hB (by decide +kernel) (fun hB => ?_)
  obtain ⟨q4, e5, h⟩ := z_bind h
  have k6 : z_R G 229 35 [some (.ref (241)), some (.int (x1)), some (.int (q2.1))] [] (z_w w q4) (.inl (some (.int r.1))) (z_w w r.2) := by
    have hB : z_all [z_is 229 35 (zf_aload 35 0 36), z_is 229 36 (zf_cv 36 219 0 8 39), z_is 229 39 (zf_aload 39 0 40), z_is 229 40 (zf_geti 40 8 10 43), z_is 229 43 (zf_if1 .le 43 50 46)] = true := by decide +kernel
    refine z_aload hB rfl (fun hB => ?_)
    obtain ⟨q7, e8, h⟩ := z_bind h
    refine y_cv ok hB (as := []) (a := 241) (rest := []) rfl rfl rfl (by decide +kernel) (t_M_goes (I := q4) ok e8) (fun hB => ?_)
    refine z_aload hB rfl (fun hB => ?_)
    refine y_geti ok hB (by decide +kernel) (fun hB => ?_)
    obtain ⟨q9, e10, h⟩ := z_bind h
    have k11 : z_R G 229 55 [none, none, none] [.int (q9)] (z_w w q7) (.inl (some (.int r.1))) (z_w w r.2) := by
      have hB : z_all [z_is 229 55 (zf_ret 0)] = true := by decide +kernel
      cases h
      exact z_reti hB
    have h := e10
    refine z_if_le hB (fun hc _ => ?_) (fun hc _ => ?_)
    · have h := z_neg hc h
      have hB : z_all [z_is 229 50 (zf_iload 50 1 51), z_is 229 51 (zf_cst 51 (jn 1) 52), z_is 229 52 (zf_iload 52 2 53), z_is 229 53 (zf_ishl 53 54), z_is 229 54 (zf_ior 54 55)] = true := by decide +kernel
      refine z_iload hB rfl (fun hB => ?_)
      refine z_cst hB (fun hB => ?_)
      refine z_iload hB rfl (fun hB => ?_)
      refine z_ishl hB (fun hB => ?_)
      refine z_ior hB (fun hB => ?_)
      cases h
      exact z_weak k11 (z_sn (z_sn (z_sn z_s0)))
    · have h := z_pos hc h
      have hB : z_all [z_is 229 46 (zf_iload 46 1 47), z_is 229 47 (zf_goto 47 55)] = true := by decide +kernel
      refine z_iload hB rfl (fun hB => ?_)
      refine z_goto hB (fun hB => ?_)
      cases h
      exact z_weak k11 (z_sn (z_sn (z_sn z_s0)))
  have h := e5
  refine z_if_ne hB (fun hc _ => ?_) (fun hc _ => ?_)
  · have h := z_neg hc h
    cases h
    exact z_weak k6 (z_se (z_se (z_se z_s0)))
  · have h := z_pos hc h
    have hB : z_all [z_is 229 22 (zf_iload 22 1 23), z_is 229 23 (zf_iload 23 2 24), z_is 229 24 (zf_cs 24 205 2 27), z_is 229 27 (zf_if1 .eq 27 35 30)] = true := by decide +kernel
    refine z_iload hB rfl (fun hB => ?_)
    refine z_iload hB rfl (fun hB => ?_)
    obtain ⟨q12, e13, h⟩ := z_bind h
    refine z_callS hB (as := [.int (x1), .int (q2.1)]) (rest := []) rfl rfl rfl (t_M_has (I := q2.2) ok e13) (fun hB => ?_)
    refine z_if_eq hB (fun hc _ => ?_) (fun hc _ => ?_)
    · have h := z_pos hc h
      cases h
      exact z_weak k6 (z_se (z_se (z_se z_s0)))
    · have h := z_neg hc h
      have hB : z_all [z_is 229 30 (zf_aload 30 0 31), z_is 229 31 (zf_cst 31 (jn 3) 32), z_is 229 32 (zf_cv 32 220 1 8 35)] = true := by decide +kernel
      refine z_aload hB rfl (fun hB => ?_)
      refine z_cst hB (fun hB => ?_)
      obtain ⟨q14, e15, h⟩ := z_bind h
      refine y_cv ok hB (as := [.int ((jn 3))]) (a := 241) (rest := []) rfl rfl rfl (by decide +kernel) (t_M_faults (I := q2.2) ok e15) (fun hB => ?_)
      cases h
      exact z_weak k6 (z_se (z_se (z_se z_s0)))
def d_M_putsFlag (x1 : Int32) (x2 : Int32) (x3 : Int32) (I : z_H) : Option (z_H) := (if z_in ((((jn 41) + ((jn 11) * x1)) + x2)) 173 then some ((ev_u2 I 242 (z_n ((((jn 41) + ((jn 11) * x1)) + x2))) x3)) else none)
/-- FlagLaundryModel.putsFlag(III)V -/
theorem t_M_putsFlag {G : z_G} {w : ev_W} (ok : z_Ok G w) {x1 : Int32} {x2 : Int32} {x3 : Int32} {I : z_H} {r : z_H} (h : d_M_putsFlag x1 x2 x3 I = some r) : z_K G 243 [.ref (241), .int (x1), .int (x2), .int (x3)] (z_w w I) (.inl none) (z_w w r) := by
  refine z_con ok.1 (ml := 4) (by decide +kernel) rfl rfl ?_
  show z_R G 243 0 [some (.ref (241)), some (.int (x1)), some (.int (x2)), some (.int (x3))] [] (z_w w I) (.inl none) (z_w w r)
  unfold d_M_putsFlag at h
  have hB : z_all [z_is 243 0 (zf_aload 0 0 1), z_is 243 1 (zf_getr 1 8 1 4), z_is 243 4 (zf_cst 4 (jn 41) 6), z_is 243 6 (zf_cst 6 (jn 11) 8), z_is 243 8 (zf_iload 8 1 9), z_is 243 9 (zf_imul 9 10), z_is 243 10 (zf_iadd 10 11), z_is 243 11 (zf_iload 11 2 12), z_is 243 12 (zf_iadd 12 13), z_is 243 13 (zf_iload 13 3 14), z_is 243 14 (zf_iast 14 15), z_is 243 15 (zf_ret 6)] = true := by decide +kernel
  refine z_aload hB rfl (fun hB => ?_)
  refine y_getr (b := 242) ok hB (by decide +kernel) (by decide +kernel) (fun hB => ?_)
  refine z_cst hB (fun hB => ?_)
  refine z_cst hB (fun hB => ?_)
  refine z_iload hB rfl (fun hB => ?_)
  refine z_imul hB (fun hB => ?_)
  refine z_iadd hB (fun hB => ?_)
  refine z_iload hB rfl (fun hB => ?_)
  refine z_iadd hB (fun hB => ?_)
  refine z_iload hB rfl (fun hB => ?_)
  obtain ⟨g1, h⟩ := z_gd h
  refine y_iast ok hB (by decide +kernel) (by decide +kernel) g1 (fun hB => ?_)
  cases h
  exact z_retv hB
def d_M_goesTo (x1 : Int32) (x2 : Int32) (x3 : Int32) (I : z_H) : Option (z_H) := ((d_M_putsFlag (x1) ((jn 8)) (x2) I).bind fun q1 => ((d_M_putsFlag (x1) ((jn 9)) (x3) q1).bind fun q3 => some (q3)))
/-- FlagLaundryModel.goesTo(III)V -/
theorem t_M_goesTo {G : z_G} {w : ev_W} (ok : z_Ok G w) {x1 : Int32} {x2 : Int32} {x3 : Int32} {I : z_H} {r : z_H} (h : d_M_goesTo x1 x2 x3 I = some r) : z_K G 247 [.ref (241), .int (x1), .int (x2), .int (x3)] (z_w w I) (.inl none) (z_w w r) := by
  refine z_con ok.1 (ml := 4) (by decide +kernel) rfl rfl ?_
  show z_R G 247 0 [some (.ref (241)), some (.int (x1)), some (.int (x2)), some (.int (x3))] [] (z_w w I) (.inl none) (z_w w r)
  unfold d_M_goesTo at h
  have hB : z_all [z_is 247 0 (zf_aload 0 0 1), z_is 247 1 (zf_iload 1 1 2), z_is 247 2 (zf_cst 2 (jn 8) 4), z_is 247 4 (zf_iload 4 2 5), z_is 247 5 (zf_cv 5 243 3 8 8), z_is 247 8 (zf_aload 8 0 9), z_is 247 9 (zf_iload 9 1 10), z_is 247 10 (zf_cst 10 (jn 9) 12), z_is 247 12 (zf_iload 12 3 13), z_is 247 13 (zf_cv 13 243 3 8 16), z_is 247 16 (zf_ret 6)] = true := by decide +kernel
  refine z_aload hB rfl (fun hB => ?_)
  refine z_iload hB rfl (fun hB => ?_)
  refine z_cst hB (fun hB => ?_)
  refine z_iload hB rfl (fun hB => ?_)
  obtain ⟨q1, e2, h⟩ := z_bind h
  refine y_cv ok hB (as := [.int (x1), .int ((jn 8)), .int (x2)]) (a := 241) (rest := []) rfl rfl rfl (by decide +kernel) (t_M_putsFlag (I := I) ok e2) (fun hB => ?_)
  refine z_aload hB rfl (fun hB => ?_)
  refine z_iload hB rfl (fun hB => ?_)
  refine z_cst hB (fun hB => ?_)
  refine z_iload hB rfl (fun hB => ?_)
  obtain ⟨q3, e4, h⟩ := z_bind h
  refine y_cv ok hB (as := [.int (x1), .int ((jn 9)), .int (x3)]) (a := 241) (rest := []) rfl rfl rfl (by decide +kernel) (t_M_putsFlag (I := q1) ok e4) (fun hB => ?_)
  cases h
  exact z_retv hB
def d_M_addsFlag_3 (I : z_H) (p2 : Int32 × z_H) : Option ((Int32 × z_H) ⊕ (Int32 × z_H)) := (if p2.1 < (jn 11) then ((d_M_putsFlag ((I 242 (z_n ((jn 10))))) (p2.1) ((jn 0)) p2.2).bind fun q19 => some (Sum.inl ((p2.1 + (jn 1)), q19))) else some (Sum.inr (p2.1, p2.2)))
def d_M_addsFlag (x1 : Int32) (x2 : Int32) (x3 : Int32) (x4 : Int32) (I : z_H) : Option (Int32 × z_H) := (if z_in ((jn 10)) 173 then ((z_it (d_M_addsFlag_3 I) z_F ((jn 0), I)).bind fun q4 => ((d_M_putsFlag ((I 242 (z_n ((jn 10))))) ((jn 0)) (x1) q4.2).bind fun q7 => ((d_M_putsFlag ((I 242 (z_n ((jn 10))))) ((jn 1)) (x2) q7).bind fun q9 => ((d_M_putsFlag ((I 242 (z_n ((jn 10))))) ((jn 2)) (x3) q9).bind fun q11 => ((d_M_putsFlag ((I 242 (z_n ((jn 10))))) ((jn 3)) (x4) q11).bind fun q13 => ((d_M_goesTo ((I 242 (z_n ((jn 10))))) ((jn 0)) ((jg 1)) q13).bind fun q15 => (if z_in ((jn 10)) 173 then (if z_in ((jn 10)) 173 then some (((I 242 (z_n ((jn 10)))), (ev_u2 q15 242 (z_n ((jn 10))) ((q15 242 (z_n ((jn 10)))) + (jn 1))))) else none) else none))))))) else none)
/-- FlagLaundryModel.addsFlag(IIII)I -/
theorem t_M_addsFlag {G : z_G} {w : ev_W} (ok : z_Ok G w) {x1 : Int32} {x2 : Int32} {x3 : Int32} {x4 : Int32} {I : z_H} {r : Int32 × z_H} (h : d_M_addsFlag x1 x2 x3 x4 I = some r) : z_K G 248 [.ref (241), .int (x1), .int (x2), .int (x3), .int (x4)] (z_w w I) (.inl (some (.int r.1))) (z_w w r.2) := by
  refine z_con ok.1 (ml := 7) (by decide +kernel) rfl rfl ?_
  show z_R G 248 0 [some (.ref (241)), some (.int (x1)), some (.int (x2)), some (.int (x3)), some (.int (x4)), none, none] [] (z_w w I) (.inl (some (.int r.1))) (z_w w r.2)
  unfold d_M_addsFlag at h
  have hB : z_all [z_is 248 0 (zf_aload 0 0 1), z_is 248 1 (zf_getr 1 8 1 4), z_is 248 4 (zf_cst 4 (jn 10) 6), z_is 248 6 (zf_iald 6 7), z_is 248 7 (zf_istore 7 5 9), z_is 248 9 (zf_cst 9 (jn 0) 10), z_is 248 10 (zf_istore 10 6 12)] = true := by decide +kernel
  refine z_aload hB rfl (fun hB => ?_)
  refine y_getr (b := 242) ok hB (by decide +kernel) (by decide +kernel) (fun hB => ?_)
  refine z_cst hB (fun hB => ?_)
  obtain ⟨g1, h⟩ := z_gd h
  refine y_iald ok hB (by decide +kernel) (by decide +kernel) g1 (fun hB => ?_)
  refine z_istore hB rfl rfl (fun hB => ?_)
  refine z_cst hB (fun hB => ?_)
  refine z_istore hB rfl rfl (fun hB => ?_)
  obtain ⟨q4, e5, h⟩ := z_bind h
  have k6 : z_R G 248 34 [some (.ref (241)), some (.int (x1)), some (.int (x2)), some (.int (x3)), some (.int (x4)), some (.int ((I 242 (z_n ((jn 10)))))), none] [] (z_w w q4.2) (.inl (some (.int r.1))) (z_w w r.2) := by
    have hB : z_all [z_is 248 34 (zf_aload 34 0 35), z_is 248 35 (zf_iload 35 5 37), z_is 248 37 (zf_cst 37 (jn 0) 38), z_is 248 38 (zf_iload 38 1 39), z_is 248 39 (zf_cv 39 243 3 8 42), z_is 248 42 (zf_aload 42 0 43), z_is 248 43 (zf_iload 43 5 45), z_is 248 45 (zf_cst 45 (jn 1) 46), z_is 248 46 (zf_iload 46 2 47), z_is 248 47 (zf_cv 47 243 3 8 50), z_is 248 50 (zf_aload 50 0 51), z_is 248 51 (zf_iload 51 5 53), z_is 248 53 (zf_cst 53 (jn 2) 54), z_is 248 54 (zf_iload 54 3 55), z_is 248 55 (zf_cv 55 243 3 8 58), z_is 248 58 (zf_aload 58 0 59), z_is 248 59 (zf_iload 59 5 61), z_is 248 61 (zf_cst 61 (jn 3) 62), z_is 248 62 (zf_iload 62 4 64), z_is 248 64 (zf_cv 64 243 3 8 67), z_is 248 67 (zf_aload 67 0 68), z_is 248 68 (zf_iload 68 5 70), z_is 248 70 (zf_cst 70 (jn 0) 71), z_is 248 71 (zf_cst 71 (jg 1) 72), z_is 248 72 (zf_cv 72 247 3 8 75), z_is 248 75 (zf_aload 75 0 76), z_is 248 76 (zf_getr 76 8 1 79), z_is 248 79 (zf_cst 79 (jn 10) 81), z_is 248 81 (zf_dup2 81 82), z_is 248 82 (zf_iald 82 83), z_is 248 83 (zf_cst 83 (jn 1) 84), z_is 248 84 (zf_iadd 84 85), z_is 248 85 (zf_iast 85 86), z_is 248 86 (zf_iload 86 5 88), z_is 248 88 (zf_ret 0)] = true := by decide +kernel
    refine z_aload hB rfl (fun hB => ?_)
    refine z_iload hB rfl (fun hB => ?_)
    refine z_cst hB (fun hB => ?_)
    refine z_iload hB rfl (fun hB => ?_)
    obtain ⟨q7, e8, h⟩ := z_bind h
    refine y_cv ok hB (as := [.int ((I 242 (z_n ((jn 10))))), .int ((jn 0)), .int (x1)]) (a := 241) (rest := []) rfl rfl rfl (by decide +kernel) (t_M_putsFlag (I := q4.2) ok e8) (fun hB => ?_)
    refine z_aload hB rfl (fun hB => ?_)
    refine z_iload hB rfl (fun hB => ?_)
    refine z_cst hB (fun hB => ?_)
    refine z_iload hB rfl (fun hB => ?_)
    obtain ⟨q9, e10, h⟩ := z_bind h
    refine y_cv ok hB (as := [.int ((I 242 (z_n ((jn 10))))), .int ((jn 1)), .int (x2)]) (a := 241) (rest := []) rfl rfl rfl (by decide +kernel) (t_M_putsFlag (I := q7) ok e10) (fun hB => ?_)
    refine z_aload hB rfl (fun hB => ?_)
    refine z_iload hB rfl (fun hB => ?_)
    refine z_cst hB (fun hB => ?_)
    refine z_iload hB rfl (fun hB => ?_)
    obtain ⟨q11, e12, h⟩ := z_bind h
    refine y_cv ok hB (as := [.int ((I 242 (z_n ((jn 10))))), .int ((jn 2)), .int (x3)]) (a := 241) (rest := []) rfl rfl rfl (by decide +kernel) (t_M_putsFlag (I := q9) ok e12) (fun hB => ?_)
    refine z_aload hB rfl (fun hB => ?_)
    refine z_iload hB rfl (fun hB => ?_)
    refine z_cst hB (fun hB => ?_)
    refine z_iload hB rfl (fun hB => ?_)
    obtain ⟨q13, e14, h⟩ := z_bind h
    refine y_cv ok hB (as := [.int ((I 242 (z_n ((jn 10))))), .int ((jn 3)), .int (x4)]) (a := 241) (rest := []) rfl rfl rfl (by decide +kernel) (t_M_putsFlag (I := q11) ok e14) (fun hB => ?_)
    refine z_aload hB rfl (fun hB => ?_)
    refine z_iload hB rfl (fun hB => ?_)
    refine z_cst hB (fun hB => ?_)
    refine z_cst hB (fun hB => ?_)
    obtain ⟨q15, e16, h⟩ := z_bind h
    refine y_cv ok hB (as := [.int ((I 242 (z_n ((jn 10))))), .int ((jn 0)), .int ((jg 1))]) (a := 241) (rest := []) rfl rfl rfl (by decide +kernel) (t_M_goesTo (I := q13) ok e16) (fun hB => ?_)
    refine z_aload hB rfl (fun hB => ?_)
    refine y_getr (b := 242) ok hB (by decide +kernel) (by decide +kernel) (fun hB => ?_)
    refine z_cst hB (fun hB => ?_)
    refine z_dup2 hB (fun hB => ?_)
    obtain ⟨g17, h⟩ := z_gd h
    refine y_iald ok hB (by decide +kernel) (by decide +kernel) g17 (fun hB => ?_)
    refine z_cst hB (fun hB => ?_)
    refine z_iadd hB (fun hB => ?_)
    obtain ⟨g18, h⟩ := z_gd h
    refine y_iast ok hB (by decide +kernel) (by decide +kernel) g18 (fun hB => ?_)
    refine z_iload hB rfl (fun hB => ?_)
    cases h
    exact z_reti hB
  have l3 : ∀ (m3 : Nat) (p2 : Int32 × z_H), z_it (d_M_addsFlag_3 I) m3 p2 = some q4 → z_R G 248 12 [some (.ref (241)), some (.int (x1)), some (.int (x2)), some (.int (x3)), some (.int (x4)), some (.int ((I 242 (z_n ((jn 10)))))), some (.int (p2.1))] [] (z_w w p2.2) (.inl (some (.int r.1))) (z_w w r.2) := by
    intro m3
    induction m3 with
    | zero => intro p2 h; cases h
    | succ m3 i3 =>
      intro p2 h
      obtain ⟨u3, h, b3⟩ := z_it_o h
      unfold d_M_addsFlag_3 at h
      have hB : z_all [z_is 248 12 (zf_iload 12 6 14), z_is 248 14 (zf_cst 14 (jn 11) 16), z_is 248 16 (zf_if2 .ge 16 34 19)] = true := by decide +kernel
      refine z_iload hB rfl (fun hB => ?_)
      refine z_cst hB (fun hB => ?_)
      refine z_ic_ge hB (fun hc _ => ?_) (fun hc _ => ?_)
      · have h := z_neg hc h
        cases h
        cases b3
        exact z_weak k6 (z_se (z_se (z_se (z_se (z_se (z_se (z_sn z_s0)))))))
      · have h := z_pos hc h
        have hB : z_all [z_is 248 19 (zf_aload 19 0 20), z_is 248 20 (zf_iload 20 5 22), z_is 248 22 (zf_iload 22 6 24), z_is 248 24 (zf_cst 24 (jn 0) 25), z_is 248 25 (zf_cv 25 243 3 8 28), z_is 248 28 (zf_iinc 28 6 (jn 1) 31), z_is 248 31 (zf_goto 31 12)] = true := by decide +kernel
        refine z_aload hB rfl (fun hB => ?_)
        refine z_iload hB rfl (fun hB => ?_)
        refine z_iload hB rfl (fun hB => ?_)
        refine z_cst hB (fun hB => ?_)
        obtain ⟨q19, e20, h⟩ := z_bind h
        refine y_cv ok hB (as := [.int ((I 242 (z_n ((jn 10))))), .int (p2.1), .int ((jn 0))]) (a := 241) (rest := []) rfl rfl rfl (by decide +kernel) (t_M_putsFlag (I := p2.2) ok e20) (fun hB => ?_)
        refine z_iinc hB rfl rfl (fun hB => ?_)
        refine z_goto hB (fun hB => ?_)
        cases h
        exact z_weak (i3 ((p2.1 + (jn 1)), q19) b3) (z_se (z_se (z_se (z_se (z_se (z_se (z_se z_s0)))))))
  exact z_weak (l3 _ ((jn 0), I) e5) (z_se (z_se (z_se (z_se (z_se (z_se (z_se z_s0)))))))
def d_M_readsFlag_13  (p12 : Int32 × z_H) : Option ((Int32 × z_H) ⊕ (Int32 × z_H)) := ((d_M_is ((jn 3)) p12.2).bind fun q22 => (if q22 = jn 0 then some (Sum.inr (p12.1, p12.2)) else ((d_M_colourRead (p12.1) p12.2).bind fun q24 => some (Sum.inl (q24.1, q24.2)))))
def d_M_readsFlag  (I : z_H) : Option (z_H) := ((d_M_begins ((jn 10)) ((jn 12)) I).bind fun q1 => (if z_in ((jn 7)) 173 then ((d_M_number ((jn 0)) (((q1 242 (z_n ((jn 7)))) - (jn 1))) q1).bind fun q4 => ((d_M_number ((jn 0)) ((jn 3)) q4.2).bind fun q6 => ((d_M_number ((jn 0)) ((jn 9)) q6.2).bind fun q8 => ((d_M_colourRead ((jn 0)) q8.2).bind fun q10 => ((z_it (d_M_readsFlag_13) z_F (q10.1, q10.2)).bind fun q14 => (Option.bind (α := z_H) (if (q14.2 241 10) = jn 0 then ((d_M_addsFlag (q4.1) (q14.1) (q6.1) (q8.1) q14.2).bind fun q20 => some (q20.2)) else some (q14.2)) fun q17 => some (q17))))))) else none))
/-- FlagLaundryModel.readsFlag()V -/
theorem t_M_readsFlag {G : z_G} {w : ev_W} (ok : z_Ok G w) {I : z_H} {r : z_H} (h : d_M_readsFlag I = some r) : z_K G 230 [.ref (241)] (z_w w I) (.inl none) (z_w w r) := by
  refine z_con ok.1 (ml := 5) (by decide +kernel) rfl rfl ?_
  show z_R G 230 0 [some (.ref (241)), none, none, none, none] [] (z_w w I) (.inl none) (z_w w r)
  unfold d_M_readsFlag at h
  have hB : z_all [z_is 230 0 (zf_aload 0 0 1), z_is 230 1 (zf_cst 1 (jn 10) 3), z_is 230 3 (zf_cst 3 (jn 12) 5), z_is 230 5 (zf_cv 5 225 2 8 8), z_is 230 8 (zf_aload 8 0 9), z_is 230 9 (zf_cst 9 (jn 0) 10), z_is 230 10 (zf_aload 10 0 11), z_is 230 11 (zf_getr 11 8 1 14), z_is 230 14 (zf_cst 14 (jn 7) 16), z_is 230 16 (zf_iald 16 17), z_is 230 17 (zf_cst 17 (jn 1) 18), z_is 230 18 (zf_isub 18 19), z_is 230 19 (zf_cv 19 224 2 8 22), z_is 230 22 (zf_istore 22 1 23), z_is 230 23 (zf_aload 23 0 24), z_is 230 24 (zf_cst 24 (jn 0) 25), z_is 230 25 (zf_cst 25 (jn 3) 26), z_is 230 26 (zf_cv 26 224 2 8 29), z_is 230 29 (zf_istore 29 2 30), z_is 230 30 (zf_aload 30 0 31), z_is 230 31 (zf_cst 31 (jn 0) 32), z_is 230 32 (zf_cst 32 (jn 9) 34), z_is 230 34 (zf_cv 34 224 2 8 37), z_is 230 37 (zf_istore 37 3 38), z_is 230 38 (zf_aload 38 0 39), z_is 230 39 (zf_cst 39 (jn 0) 40), z_is 230 40 (zf_cv 40 229 1 8 43), z_is 230 43 (zf_istore 43 4 45)] = true := by decide +kernel
  refine z_aload hB rfl (fun hB => ?_)
  refine z_cst hB (fun hB => ?_)
  refine z_cst hB (fun hB => ?_)
  obtain ⟨q1, e2, h⟩ := z_bind h
  refine y_cv ok hB (as := [.int ((jn 10)), .int ((jn 12))]) (a := 241) (rest := []) rfl rfl rfl (by decide +kernel) (t_M_begins (I := I) ok e2) (fun hB => ?_)
  refine z_aload hB rfl (fun hB => ?_)
  refine z_cst hB (fun hB => ?_)
  refine z_aload hB rfl (fun hB => ?_)
  refine y_getr (b := 242) ok hB (by decide +kernel) (by decide +kernel) (fun hB => ?_)
  refine z_cst hB (fun hB => ?_)
  obtain ⟨g3, h⟩ := z_gd h
  refine y_iald ok hB (by decide +kernel) (by decide +kernel) g3 (fun hB => ?_)
  refine z_cst hB (fun hB => ?_)
  refine z_isub hB (fun hB => ?_)
  obtain ⟨q4, e5, h⟩ := z_bind h
  refine y_cv ok hB (as := [.int ((jn 0)), .int (((q1 242 (z_n ((jn 7)))) - (jn 1)))]) (a := 241) (rest := []) rfl rfl rfl (by decide +kernel) (t_M_number (I := q1) ok e5) (fun hB => ?_)
  refine z_istore hB rfl rfl (fun hB => ?_)
  refine z_aload hB rfl (fun hB => ?_)
  refine z_cst hB (fun hB => ?_)
  refine z_cst hB (fun hB => ?_)
  obtain ⟨q6, e7, h⟩ := z_bind h
  refine y_cv ok hB (as := [.int ((jn 0)), .int ((jn 3))]) (a := 241) (rest := []) rfl rfl rfl (by decide +kernel) (t_M_number (I := q4.2) ok e7) (fun hB => ?_)
  refine z_istore hB rfl rfl (fun hB => ?_)
  refine z_aload hB rfl (fun hB => ?_)
  refine z_cst hB (fun hB => ?_)
  refine z_cst hB (fun hB => ?_)
  obtain ⟨q8, e9, h⟩ := z_bind h
  refine y_cv ok hB (as := [.int ((jn 0)), .int ((jn 9))]) (a := 241) (rest := []) rfl rfl rfl (by decide +kernel) (t_M_number (I := q6.2) ok e9) (fun hB => ?_)
  refine z_istore hB rfl rfl (fun hB => ?_)
  refine z_aload hB rfl (fun hB => ?_)
  refine z_cst hB (fun hB => ?_)
  obtain ⟨q10, e11, h⟩ := z_bind h
  refine y_cv ok hB (as := [.int ((jn 0))]) (a := 241) (rest := []) rfl rfl rfl (by decide +kernel) (t_M_colourRead (I := q8.2) ok e11) (fun hB => ?_)
  refine z_istore hB rfl rfl (fun hB => ?_)
  obtain ⟨q14, e15, h⟩ := z_bind h
  have k16 : z_R G 230 64 [some (.ref (241)), some (.int (q4.1)), some (.int (q6.1)), some (.int (q8.1)), some (.int (q14.1))] [] (z_w w q14.2) (.inl none) (z_w w r) := by
    have hB : z_all [z_is 230 64 (zf_aload 64 0 65), z_is 230 65 (zf_geti 65 8 10 68), z_is 230 68 (zf_if1 .ne 68 81 71)] = true := by decide +kernel
    refine z_aload hB rfl (fun hB => ?_)
    refine y_geti ok hB (by decide +kernel) (fun hB => ?_)
    obtain ⟨q17, e18, h⟩ := z_bind h
    have k19 : z_R G 230 81 [none, none, none, none, none] [] (z_w w q17) (.inl none) (z_w w r) := by
      have hB : z_all [z_is 230 81 (zf_ret 6)] = true := by decide +kernel
      cases h
      exact z_retv hB
    have h := e18
    refine z_if_ne hB (fun hc _ => ?_) (fun hc _ => ?_)
    · have h := z_neg hc h
      cases h
      exact z_weak k19 (z_sn (z_sn (z_sn (z_sn (z_sn z_s0)))))
    · have h := z_pos hc h
      have hB : z_all [z_is 230 71 (zf_aload 71 0 72), z_is 230 72 (zf_iload 72 1 73), z_is 230 73 (zf_iload 73 4 75), z_is 230 75 (zf_iload 75 2 76), z_is 230 76 (zf_iload 76 3 77), z_is 230 77 (zf_cv 77 248 4 8 80), z_is 230 80 (zf_popi 80 81)] = true := by decide +kernel
      refine z_aload hB rfl (fun hB => ?_)
      refine z_iload hB rfl (fun hB => ?_)
      refine z_iload hB rfl (fun hB => ?_)
      refine z_iload hB rfl (fun hB => ?_)
      refine z_iload hB rfl (fun hB => ?_)
      obtain ⟨q20, e21, h⟩ := z_bind h
      refine y_cv ok hB (as := [.int (q4.1), .int (q14.1), .int (q6.1), .int (q8.1)]) (a := 241) (rest := []) rfl rfl rfl (by decide +kernel) (t_M_addsFlag (I := q14.2) ok e21) (fun hB => ?_)
      refine z_popi hB (fun hB => ?_)
      cases h
      exact z_weak k19 (z_sn (z_sn (z_sn (z_sn (z_sn z_s0)))))
  have l13 : ∀ (m13 : Nat) (p12 : Int32 × z_H), z_it (d_M_readsFlag_13) m13 p12 = some q14 → z_R G 230 45 [some (.ref (241)), some (.int (q4.1)), some (.int (q6.1)), some (.int (q8.1)), some (.int (p12.1))] [] (z_w w p12.2) (.inl none) (z_w w r) := by
    intro m13
    induction m13 with
    | zero => intro p12 h; cases h
    | succ m13 i13 =>
      intro p12 h
      obtain ⟨u13, h, b13⟩ := z_it_o h
      unfold d_M_readsFlag_13 at h
      have hB : z_all [z_is 230 45 (zf_aload 45 0 46), z_is 230 46 (zf_cst 46 (jn 3) 47), z_is 230 47 (zf_cv 47 221 1 8 50), z_is 230 50 (zf_if1 .eq 50 64 53)] = true := by decide +kernel
      refine z_aload hB rfl (fun hB => ?_)
      refine z_cst hB (fun hB => ?_)
      obtain ⟨q22, e23, h⟩ := z_bind h
      refine y_cv ok hB (as := [.int ((jn 3))]) (a := 241) (rest := []) rfl rfl rfl (by decide +kernel) (t_M_is (I := p12.2) ok e23) (fun hB => ?_)
      refine z_if_eq hB (fun hc _ => ?_) (fun hc _ => ?_)
      · have h := z_pos hc h
        cases h
        cases b13
        exact z_weak k16 (z_se (z_se (z_se (z_se (z_se z_s0)))))
      · have h := z_neg hc h
        have hB : z_all [z_is 230 53 (zf_aload 53 0 54), z_is 230 54 (zf_iload 54 4 56), z_is 230 56 (zf_cv 56 229 1 8 59), z_is 230 59 (zf_istore 59 4 61), z_is 230 61 (zf_goto 61 45)] = true := by decide +kernel
        refine z_aload hB rfl (fun hB => ?_)
        refine z_iload hB rfl (fun hB => ?_)
        obtain ⟨q24, e25, h⟩ := z_bind h
        refine y_cv ok hB (as := [.int (p12.1)]) (a := 241) (rest := []) rfl rfl rfl (by decide +kernel) (t_M_colourRead (I := p12.2) ok e25) (fun hB => ?_)
        refine z_istore hB rfl rfl (fun hB => ?_)
        refine z_goto hB (fun hB => ?_)
        cases h
        exact z_weak (i13 (q24.1, q24.2) b13) (z_se (z_se (z_se (z_se (z_se z_s0)))))
  exact z_weak (l13 _ (q10.1, q10.2) e15) (z_se (z_se (z_se (z_se (z_se z_s0)))))
def d_M_ofFlag (x1 : Int32) (x2 : Int32) (I : z_H) : Option (Int32) := (if z_in ((((jn 41) + ((jn 11) * x1)) + x2)) 173 then some ((I 242 (z_n ((((jn 41) + ((jn 11) * x1)) + x2))))) else none)
/-- FlagLaundryModel.ofFlag(II)I -/
theorem t_M_ofFlag {G : z_G} {w : ev_W} (ok : z_Ok G w) {x1 : Int32} {x2 : Int32} {I : z_H} {r : Int32} (h : d_M_ofFlag x1 x2 I = some r) : z_K G 242 [.ref (241), .int (x1), .int (x2)] (z_w w I) (.inl (some (.int r))) (z_w w I) := by
  refine z_con ok.1 (ml := 3) (by decide +kernel) rfl rfl ?_
  show z_R G 242 0 [some (.ref (241)), some (.int (x1)), some (.int (x2))] [] (z_w w I) (.inl (some (.int r))) (z_w w I)
  unfold d_M_ofFlag at h
  have hB : z_all [z_is 242 0 (zf_aload 0 0 1), z_is 242 1 (zf_getr 1 8 1 4), z_is 242 4 (zf_cst 4 (jn 41) 6), z_is 242 6 (zf_cst 6 (jn 11) 8), z_is 242 8 (zf_iload 8 1 9), z_is 242 9 (zf_imul 9 10), z_is 242 10 (zf_iadd 10 11), z_is 242 11 (zf_iload 11 2 12), z_is 242 12 (zf_iadd 12 13), z_is 242 13 (zf_iald 13 14), z_is 242 14 (zf_ret 0)] = true := by decide +kernel
  refine z_aload hB rfl (fun hB => ?_)
  refine y_getr (b := 242) ok hB (by decide +kernel) (by decide +kernel) (fun hB => ?_)
  refine z_cst hB (fun hB => ?_)
  refine z_cst hB (fun hB => ?_)
  refine z_iload hB rfl (fun hB => ?_)
  refine z_imul hB (fun hB => ?_)
  refine z_iadd hB (fun hB => ?_)
  refine z_iload hB rfl (fun hB => ?_)
  refine z_iadd hB (fun hB => ?_)
  obtain ⟨g1, h⟩ := z_gd h
  refine y_iald ok hB (by decide +kernel) (by decide +kernel) g1 (fun hB => ?_)
  cases h
  exact z_reti hB
def d_M_where (x1 : Int32) (I : z_H) : Option (Int32) := ((d_M_ofFlag (x1) ((jn 8)) I).bind fun q1 => some (q1))
/-- FlagLaundryModel.where(I)I -/
theorem t_M_where {G : z_G} {w : ev_W} (ok : z_Ok G w) {x1 : Int32} {I : z_H} {r : Int32} (h : d_M_where x1 I = some r) : z_K G 244 [.ref (241), .int (x1)] (z_w w I) (.inl (some (.int r))) (z_w w I) := by
  refine z_con ok.1 (ml := 2) (by decide +kernel) rfl rfl ?_
  show z_R G 244 0 [some (.ref (241)), some (.int (x1))] [] (z_w w I) (.inl (some (.int r))) (z_w w I)
  unfold d_M_where at h
  have hB : z_all [z_is 244 0 (zf_aload 0 0 1), z_is 244 1 (zf_iload 1 1 2), z_is 244 2 (zf_cst 2 (jn 8) 4), z_is 244 4 (zf_cv 4 242 2 8 7), z_is 244 7 (zf_ret 0)] = true := by decide +kernel
  refine z_aload hB rfl (fun hB => ?_)
  refine z_iload hB rfl (fun hB => ?_)
  refine z_cst hB (fun hB => ?_)
  obtain ⟨q1, e2, h⟩ := z_bind h
  refine y_cv ok hB (as := [.int (x1), .int ((jn 8))]) (a := 241) (rest := []) rfl rfl rfl (by decide +kernel) (t_M_ofFlag (I := I) ok e2) (fun hB => ?_)
  cases h
  exact z_reti hB
def d_M_isInBasket (x1 : Int32) (I : z_H) : Option (Int32) := ((d_M_where (x1) I).bind fun q1 => (Option.bind (α := Int32) (if q1 = jn 0 then some ((jn 1)) else some ((jn 0))) fun q3 => (if (q3) = jn 0 ∨ (q3) = jn 1 then some (q3) else none)))
/-- FlagLaundryModel.isInBasket(I)Z -/
theorem t_M_isInBasket {G : z_G} {w : ev_W} (ok : z_Ok G w) {x1 : Int32} {I : z_H} {r : Int32} (h : d_M_isInBasket x1 I = some r) : z_K G 245 [.ref (241), .int (x1)] (z_w w I) (.inl (some (.int r))) (z_w w I) := by
  refine z_con ok.1 (ml := 2) (by decide +kernel) rfl rfl ?_
  show z_R G 245 0 [some (.ref (241)), some (.int (x1))] [] (z_w w I) (.inl (some (.int r))) (z_w w I)
  unfold d_M_isInBasket at h
  have hB : z_all [z_is 245 0 (zf_aload 0 0 1), z_is 245 1 (zf_iload 1 1 2), z_is 245 2 (zf_cv 2 244 1 8 5), z_is 245 5 (zf_if1 .ne 5 12 8)] = true := by decide +kernel
  refine z_aload hB rfl (fun hB => ?_)
  refine z_iload hB rfl (fun hB => ?_)
  obtain ⟨q1, e2, h⟩ := z_bind h
  refine y_cv ok hB (as := [.int (x1)]) (a := 241) (rest := []) rfl rfl rfl (by decide +kernel) (t_M_where (I := I) ok e2) (fun hB => ?_)
  obtain ⟨q3, e4, h⟩ := z_bind h
  have k5 : z_R G 245 13 [none, none] [.int (q3)] (z_w w I) (.inl (some (.int r))) (z_w w I) := by
    have hB : z_all [z_is 245 13 (zf_ret 1)] = true := by decide +kernel
    obtain ⟨g6, h⟩ := z_gd h
    cases h
    exact z_retz hB g6
  have h := e4
  refine z_if_ne hB (fun hc _ => ?_) (fun hc _ => ?_)
  · have h := z_neg hc h
    have hB : z_all [z_is 245 12 (zf_cst 12 (jn 0) 13)] = true := by decide +kernel
    refine z_cst hB (fun hB => ?_)
    cases h
    exact z_weak k5 (z_sn (z_sn z_s0))
  · have h := z_pos hc h
    have hB : z_all [z_is 245 8 (zf_cst 8 (jn 1) 9), z_is 245 9 (zf_goto 9 13)] = true := by decide +kernel
    refine z_cst hB (fun hB => ?_)
    refine z_goto hB (fun hB => ?_)
    cases h
    exact z_weak k5 (z_sn (z_sn z_s0))
def d_M_isInTub (x1 : Int32) (x2 : Int32) (I : z_H) : Option (Int32) := ((d_M_where (x1) I).bind fun q1 => (Option.bind (α := Int32) (if q1 = (jn 1) then ((d_M_ofFlag (x1) ((jn 9)) I).bind fun q7 => (if q7 = x2 then some ((jn 1)) else some ((jn 0)))) else some ((jn 0))) fun q3 => (if (q3) = jn 0 ∨ (q3) = jn 1 then some (q3) else none)))
/-- FlagLaundryModel.isInTub(II)Z -/
theorem t_M_isInTub {G : z_G} {w : ev_W} (ok : z_Ok G w) {x1 : Int32} {x2 : Int32} {I : z_H} {r : Int32} (h : d_M_isInTub x1 x2 I = some r) : z_K G 246 [.ref (241), .int (x1), .int (x2)] (z_w w I) (.inl (some (.int r))) (z_w w I) := by
  refine z_con ok.1 (ml := 3) (by decide +kernel) rfl rfl ?_
  show z_R G 246 0 [some (.ref (241)), some (.int (x1)), some (.int (x2))] [] (z_w w I) (.inl (some (.int r))) (z_w w I)
  unfold d_M_isInTub at h
  have hB : z_all [z_is 246 0 (zf_aload 0 0 1), z_is 246 1 (zf_iload 1 1 2), z_is 246 2 (zf_cv 2 244 1 8 5), z_is 246 5 (zf_cst 5 (jn 1) 6), z_is 246 6 (zf_if2 .ne 6 24 9)] = true := by decide +kernel
  refine z_aload hB rfl (fun hB => ?_)
  refine z_iload hB rfl (fun hB => ?_)
  obtain ⟨q1, e2, h⟩ := z_bind h
  refine y_cv ok hB (as := [.int (x1)]) (a := 241) (rest := []) rfl rfl rfl (by decide +kernel) (t_M_where (I := I) ok e2) (fun hB => ?_)
  refine z_cst hB (fun hB => ?_)
  obtain ⟨q3, e4, h⟩ := z_bind h
  have k5 : z_R G 246 25 [none, none, none] [.int (q3)] (z_w w I) (.inl (some (.int r))) (z_w w I) := by
    have hB : z_all [z_is 246 25 (zf_ret 1)] = true := by decide +kernel
    obtain ⟨g6, h⟩ := z_gd h
    cases h
    exact z_retz hB g6
  have h := e4
  refine z_ic_ne hB (fun hc _ => ?_) (fun hc _ => ?_)
  · have h := z_neg hc h
    have hB : z_all [z_is 246 24 (zf_cst 24 (jn 0) 25)] = true := by decide +kernel
    refine z_cst hB (fun hB => ?_)
    cases h
    exact z_weak k5 (z_sn (z_sn (z_sn z_s0)))
  · have h := z_pos hc h
    have hB : z_all [z_is 246 9 (zf_aload 9 0 10), z_is 246 10 (zf_iload 10 1 11), z_is 246 11 (zf_cst 11 (jn 9) 13), z_is 246 13 (zf_cv 13 242 2 8 16), z_is 246 16 (zf_iload 16 2 17), z_is 246 17 (zf_if2 .ne 17 24 20)] = true := by decide +kernel
    refine z_aload hB rfl (fun hB => ?_)
    refine z_iload hB rfl (fun hB => ?_)
    refine z_cst hB (fun hB => ?_)
    obtain ⟨q7, e8, h⟩ := z_bind h
    refine y_cv ok hB (as := [.int (x1), .int ((jn 9))]) (a := 241) (rest := []) rfl rfl rfl (by decide +kernel) (t_M_ofFlag (I := I) ok e8) (fun hB => ?_)
    refine z_iload hB rfl (fun hB => ?_)
    refine z_ic_ne hB (fun hc _ => ?_) (fun hc _ => ?_)
    · have h := z_neg hc h
      have hB : z_all [z_is 246 24 (zf_cst 24 (jn 0) 25)] = true := by decide +kernel
      refine z_cst hB (fun hB => ?_)
      cases h
      exact z_weak k5 (z_sn (z_sn (z_sn z_s0)))
    · have h := z_pos hc h
      have hB : z_all [z_is 246 20 (zf_cst 20 (jn 1) 21), z_is 246 21 (zf_goto 21 25)] = true := by decide +kernel
      refine z_cst hB (fun hB => ?_)
      refine z_goto hB (fun hB => ?_)
      cases h
      exact z_weak k5 (z_sn (z_sn (z_sn z_s0)))
def d_M_manyIn_2 (x1 : Int32) (I : z_H) (p1 : Int32 × Int32) : Option ((Int32 × Int32) ⊕ (Int32 × Int32)) := (if z_in ((jn 10)) 173 then (if p1.2 < (I 242 (z_n ((jn 10)))) then ((d_M_isInTub (p1.2) (x1) I).bind fun q7 => ((d_M_one (q7)).bind fun q9 => some (Sum.inl ((p1.1 + q9), (p1.2 + (jn 1)))))) else some (Sum.inr (p1.1, p1.2))) else none)
def d_M_manyIn (x1 : Int32) (I : z_H) : Option (Int32) := ((z_it (d_M_manyIn_2 x1 I) z_F ((jn 0), (jn 0))).bind fun q3 => some (q3.1))
/-- FlagLaundryModel.manyIn(I)I -/
theorem t_M_manyIn {G : z_G} {w : ev_W} (ok : z_Ok G w) {x1 : Int32} {I : z_H} {r : Int32} (h : d_M_manyIn x1 I = some r) : z_K G 251 [.ref (241), .int (x1)] (z_w w I) (.inl (some (.int r))) (z_w w I) := by
  refine z_con ok.1 (ml := 4) (by decide +kernel) rfl rfl ?_
  show z_R G 251 0 [some (.ref (241)), some (.int (x1)), none, none] [] (z_w w I) (.inl (some (.int r))) (z_w w I)
  unfold d_M_manyIn at h
  have hB : z_all [z_is 251 0 (zf_cst 0 (jn 0) 1), z_is 251 1 (zf_istore 1 2 2), z_is 251 2 (zf_cst 2 (jn 0) 3), z_is 251 3 (zf_istore 3 3 4)] = true := by decide +kernel
  refine z_cst hB (fun hB => ?_)
  refine z_istore hB rfl rfl (fun hB => ?_)
  refine z_cst hB (fun hB => ?_)
  refine z_istore hB rfl rfl (fun hB => ?_)
  obtain ⟨q3, e4, h⟩ := z_bind h
  have k5 : z_R G 251 33 [none, none, some (.int (q3.1)), none] [] (z_w w I) (.inl (some (.int r))) (z_w w I) := by
    have hB : z_all [z_is 251 33 (zf_iload 33 2 34), z_is 251 34 (zf_ret 0)] = true := by decide +kernel
    refine z_iload hB rfl (fun hB => ?_)
    cases h
    exact z_reti hB
  have l2 : ∀ (m2 : Nat) (p1 : Int32 × Int32), z_it (d_M_manyIn_2 x1 I) m2 p1 = some q3 → z_R G 251 4 [some (.ref (241)), some (.int (x1)), some (.int (p1.1)), some (.int (p1.2))] [] (z_w w I) (.inl (some (.int r))) (z_w w I) := by
    intro m2
    induction m2 with
    | zero => intro p1 h; cases h
    | succ m2 i2 =>
      intro p1 h
      obtain ⟨u2, h, b2⟩ := z_it_o h
      unfold d_M_manyIn_2 at h
      have hB : z_all [z_is 251 4 (zf_iload 4 3 5), z_is 251 5 (zf_aload 5 0 6), z_is 251 6 (zf_getr 6 8 1 9), z_is 251 9 (zf_cst 9 (jn 10) 11), z_is 251 11 (zf_iald 11 12), z_is 251 12 (zf_if2 .ge 12 33 15)] = true := by decide +kernel
      refine z_iload hB rfl (fun hB => ?_)
      refine z_aload hB rfl (fun hB => ?_)
      refine y_getr (b := 242) ok hB (by decide +kernel) (by decide +kernel) (fun hB => ?_)
      refine z_cst hB (fun hB => ?_)
      obtain ⟨g6, h⟩ := z_gd h
      refine y_iald ok hB (by decide +kernel) (by decide +kernel) g6 (fun hB => ?_)
      refine z_ic_ge hB (fun hc _ => ?_) (fun hc _ => ?_)
      · have h := z_neg hc h
        cases h
        cases b2
        exact z_weak k5 (z_sn (z_sn (z_se (z_sn z_s0))))
      · have h := z_pos hc h
        have hB : z_all [z_is 251 15 (zf_iload 15 2 16), z_is 251 16 (zf_aload 16 0 17), z_is 251 17 (zf_iload 17 3 18), z_is 251 18 (zf_iload 18 1 19), z_is 251 19 (zf_cv 19 246 2 8 22), z_is 251 22 (zf_cs 22 204 1 25), z_is 251 25 (zf_iadd 25 26), z_is 251 26 (zf_istore 26 2 27), z_is 251 27 (zf_iinc 27 3 (jn 1) 30), z_is 251 30 (zf_goto 30 4)] = true := by decide +kernel
        refine z_iload hB rfl (fun hB => ?_)
        refine z_aload hB rfl (fun hB => ?_)
        refine z_iload hB rfl (fun hB => ?_)
        refine z_iload hB rfl (fun hB => ?_)
        obtain ⟨q7, e8, h⟩ := z_bind h
        refine y_cv ok hB (as := [.int (p1.2), .int (x1)]) (a := 241) (rest := [.int (p1.1)]) rfl rfl rfl (by decide +kernel) (t_M_isInTub (I := I) ok e8) (fun hB => ?_)
        obtain ⟨q9, e10, h⟩ := z_bind h
        refine z_callS hB (as := [.int (q7)]) (rest := [.int (p1.1)]) rfl rfl rfl (t_M_one (I := I) ok e10) (fun hB => ?_)
        refine z_iadd hB (fun hB => ?_)
        refine z_istore hB rfl rfl (fun hB => ?_)
        refine z_iinc hB rfl rfl (fun hB => ?_)
        refine z_goto hB (fun hB => ?_)
        cases h
        exact z_weak (i2 ((p1.1 + q9), (p1.2 + (jn 1))) b2) (z_se (z_se (z_se (z_se z_s0))))
  exact z_weak (l2 _ ((jn 0), (jn 0)) e4) (z_se (z_se (z_se (z_se z_s0))))
def d_M_whyPut (x1 : Int32) (x2 : Int32) (I : z_H) : Option (Int32) := ((d_M_isInBasket (x1) I).bind fun q1 => (if q1 = jn 0 then some ((jn 1)) else ((d_M_manyIn (x2) I).bind fun q3 => (if z_in (((jn 38) + x2)) 173 then (Option.bind (α := Int32) (if q3 < (I 242 (z_n (((jn 38) + x2)))) then some ((jn 0)) else some ((jn 2))) fun q6 => some (q6)) else none))))
/-- FlagLaundryModel.whyPut(II)I -/
theorem t_M_whyPut {G : z_G} {w : ev_W} (ok : z_Ok G w) {x1 : Int32} {x2 : Int32} {I : z_H} {r : Int32} (h : d_M_whyPut x1 x2 I = some r) : z_K G 252 [.ref (241), .int (x1), .int (x2)] (z_w w I) (.inl (some (.int r))) (z_w w I) := by
  refine z_con ok.1 (ml := 3) (by decide +kernel) rfl rfl ?_
  show z_R G 252 0 [some (.ref (241)), some (.int (x1)), some (.int (x2))] [] (z_w w I) (.inl (some (.int r))) (z_w w I)
  unfold d_M_whyPut at h
  have hB : z_all [z_is 252 0 (zf_aload 0 0 1), z_is 252 1 (zf_iload 1 1 2), z_is 252 2 (zf_cv 2 245 1 8 5), z_is 252 5 (zf_if1 .ne 5 10 8)] = true := by decide +kernel
  refine z_aload hB rfl (fun hB => ?_)
  refine z_iload hB rfl (fun hB => ?_)
  obtain ⟨q1, e2, h⟩ := z_bind h
  refine y_cv ok hB (as := [.int (x1)]) (a := 241) (rest := []) rfl rfl rfl (by decide +kernel) (t_M_isInBasket (I := I) ok e2) (fun hB => ?_)
  refine z_if_ne hB (fun hc _ => ?_) (fun hc _ => ?_)
  · have h := z_neg hc h
    have hB : z_all [z_is 252 10 (zf_aload 10 0 11), z_is 252 11 (zf_iload 11 2 12), z_is 252 12 (zf_cv 12 251 1 8 15), z_is 252 15 (zf_aload 15 0 16), z_is 252 16 (zf_getr 16 8 1 19), z_is 252 19 (zf_cst 19 (jn 38) 21), z_is 252 21 (zf_iload 21 2 22), z_is 252 22 (zf_iadd 22 23), z_is 252 23 (zf_iald 23 24), z_is 252 24 (zf_if2 .ge 24 31 27)] = true := by decide +kernel
    refine z_aload hB rfl (fun hB => ?_)
    refine z_iload hB rfl (fun hB => ?_)
    obtain ⟨q3, e4, h⟩ := z_bind h
    refine y_cv ok hB (as := [.int (x2)]) (a := 241) (rest := []) rfl rfl rfl (by decide +kernel) (t_M_manyIn (I := I) ok e4) (fun hB => ?_)
    refine z_aload hB rfl (fun hB => ?_)
    refine y_getr (b := 242) ok hB (by decide +kernel) (by decide +kernel) (fun hB => ?_)
    refine z_cst hB (fun hB => ?_)
    refine z_iload hB rfl (fun hB => ?_)
    refine z_iadd hB (fun hB => ?_)
    obtain ⟨g5, h⟩ := z_gd h
    refine y_iald ok hB (by decide +kernel) (by decide +kernel) g5 (fun hB => ?_)
    obtain ⟨q6, e7, h⟩ := z_bind h
    have k8 : z_R G 252 32 [none, none, none] [.int (q6)] (z_w w I) (.inl (some (.int r))) (z_w w I) := by
      have hB : z_all [z_is 252 32 (zf_ret 0)] = true := by decide +kernel
      cases h
      exact z_reti hB
    have h := e7
    refine z_ic_ge hB (fun hc _ => ?_) (fun hc _ => ?_)
    · have h := z_neg hc h
      have hB : z_all [z_is 252 31 (zf_cst 31 (jn 2) 32)] = true := by decide +kernel
      refine z_cst hB (fun hB => ?_)
      cases h
      exact z_weak k8 (z_sn (z_sn (z_sn z_s0)))
    · have h := z_pos hc h
      have hB : z_all [z_is 252 27 (zf_cst 27 (jn 0) 28), z_is 252 28 (zf_goto 28 32)] = true := by decide +kernel
      refine z_cst hB (fun hB => ?_)
      refine z_goto hB (fun hB => ?_)
      cases h
      exact z_weak k8 (z_sn (z_sn (z_sn z_s0)))
  · have h := z_pos hc h
    have hB : z_all [z_is 252 8 (zf_cst 8 (jn 1) 9), z_is 252 9 (zf_ret 0)] = true := by decide +kernel
    refine z_cst hB (fun hB => ?_)
    cases h
    exact z_reti hB
def d_M_putsInto (x1 : Int32) (x2 : Int32) (I : z_H) : Option (z_H) := ((d_M_goesTo (x1) ((jn 1)) (x2) I).bind fun q1 => (if z_in ((jn 11)) 173 then ((d_M_putsFlag (x1) ((jn 10)) ((q1 242 (z_n ((jn 11))))) q1).bind fun q4 => (if z_in ((jn 11)) 173 then (if z_in ((jn 11)) 173 then some ((ev_u2 q4 242 (z_n ((jn 11))) ((q4 242 (z_n ((jn 11)))) + (jn 1)))) else none) else none)) else none))
/-- FlagLaundryModel.putsInto(II)V -/
theorem t_M_putsInto {G : z_G} {w : ev_W} (ok : z_Ok G w) {x1 : Int32} {x2 : Int32} {I : z_H} {r : z_H} (h : d_M_putsInto x1 x2 I = some r) : z_K G 253 [.ref (241), .int (x1), .int (x2)] (z_w w I) (.inl none) (z_w w r) := by
  refine z_con ok.1 (ml := 3) (by decide +kernel) rfl rfl ?_
  show z_R G 253 0 [some (.ref (241)), some (.int (x1)), some (.int (x2))] [] (z_w w I) (.inl none) (z_w w r)
  unfold d_M_putsInto at h
  have hB : z_all [z_is 253 0 (zf_aload 0 0 1), z_is 253 1 (zf_iload 1 1 2), z_is 253 2 (zf_cst 2 (jn 1) 3), z_is 253 3 (zf_iload 3 2 4), z_is 253 4 (zf_cv 4 247 3 8 7), z_is 253 7 (zf_aload 7 0 8), z_is 253 8 (zf_iload 8 1 9), z_is 253 9 (zf_cst 9 (jn 10) 11), z_is 253 11 (zf_aload 11 0 12), z_is 253 12 (zf_getr 12 8 1 15), z_is 253 15 (zf_cst 15 (jn 11) 17), z_is 253 17 (zf_iald 17 18), z_is 253 18 (zf_cv 18 243 3 8 21), z_is 253 21 (zf_aload 21 0 22), z_is 253 22 (zf_getr 22 8 1 25), z_is 253 25 (zf_cst 25 (jn 11) 27), z_is 253 27 (zf_dup2 27 28), z_is 253 28 (zf_iald 28 29), z_is 253 29 (zf_cst 29 (jn 1) 30), z_is 253 30 (zf_iadd 30 31), z_is 253 31 (zf_iast 31 32), z_is 253 32 (zf_ret 6)] = true := by decide +kernel
  refine z_aload hB rfl (fun hB => ?_)
  refine z_iload hB rfl (fun hB => ?_)
  refine z_cst hB (fun hB => ?_)
  refine z_iload hB rfl (fun hB => ?_)
  obtain ⟨q1, e2, h⟩ := z_bind h
  refine y_cv ok hB (as := [.int (x1), .int ((jn 1)), .int (x2)]) (a := 241) (rest := []) rfl rfl rfl (by decide +kernel) (t_M_goesTo (I := I) ok e2) (fun hB => ?_)
  refine z_aload hB rfl (fun hB => ?_)
  refine z_iload hB rfl (fun hB => ?_)
  refine z_cst hB (fun hB => ?_)
  refine z_aload hB rfl (fun hB => ?_)
  refine y_getr (b := 242) ok hB (by decide +kernel) (by decide +kernel) (fun hB => ?_)
  refine z_cst hB (fun hB => ?_)
  obtain ⟨g3, h⟩ := z_gd h
  refine y_iald ok hB (by decide +kernel) (by decide +kernel) g3 (fun hB => ?_)
  obtain ⟨q4, e5, h⟩ := z_bind h
  refine y_cv ok hB (as := [.int (x1), .int ((jn 10)), .int ((q1 242 (z_n ((jn 11)))))]) (a := 241) (rest := []) rfl rfl rfl (by decide +kernel) (t_M_putsFlag (I := q1) ok e5) (fun hB => ?_)
  refine z_aload hB rfl (fun hB => ?_)
  refine y_getr (b := 242) ok hB (by decide +kernel) (by decide +kernel) (fun hB => ?_)
  refine z_cst hB (fun hB => ?_)
  refine z_dup2 hB (fun hB => ?_)
  obtain ⟨g6, h⟩ := z_gd h
  refine y_iald ok hB (by decide +kernel) (by decide +kernel) g6 (fun hB => ?_)
  refine z_cst hB (fun hB => ?_)
  refine z_iadd hB (fun hB => ?_)
  obtain ⟨g7, h⟩ := z_gd h
  refine y_iast ok hB (by decide +kernel) (by decide +kernel) g7 (fun hB => ?_)
  cases h
  exact z_retv hB
def d_M_readsPut  (I : z_H) : Option (z_H) := ((d_M_goes I).bind fun q1 => (if z_in ((jn 10)) 173 then ((d_M_number ((jn 0)) (((q1 242 (z_n ((jn 10)))) - (jn 1))) q1).bind fun q4 => (if z_in ((jn 8)) 173 then ((d_M_numberHere ((jn 0)) (((q4.2 242 (z_n ((jn 8)))) - (jn 1))) q4.2).bind fun q7 => (Option.bind (α := z_H) (if (q7.2 241 10) = jn 0 then ((d_M_whyPut (q4.1) (q7.1) q7.2).bind fun q19 => (if q19 = jn 0 then some (q7.2) else ((d_M_faults ((jn 3)) q7.2).bind fun q21 => some (q21)))) else some (q7.2)) fun q9 => (Option.bind (α := z_H) (if (q9 241 10) = jn 0 then ((d_M_putsInto (q4.1) (q7.1) q9).bind fun q17 => some (q17)) else some (q9)) fun q12 => ((d_M_goes q12).bind fun q15 => some (q15))))) else none)) else none))
/-- FlagLaundryModel.readsPut()V -/
theorem t_M_readsPut {G : z_G} {w : ev_W} (ok : z_Ok G w) {I : z_H} {r : z_H} (h : d_M_readsPut I = some r) : z_K G 231 [.ref (241)] (z_w w I) (.inl none) (z_w w r) := by
  refine z_con ok.1 (ml := 3) (by decide +kernel) rfl rfl ?_
  show z_R G 231 0 [some (.ref (241)), none, none] [] (z_w w I) (.inl none) (z_w w r)
  unfold d_M_readsPut at h
  have hB : z_all [z_is 231 0 (zf_aload 0 0 1), z_is 231 1 (zf_cv 1 219 0 8 4), z_is 231 4 (zf_aload 4 0 5), z_is 231 5 (zf_cst 5 (jn 0) 6), z_is 231 6 (zf_aload 6 0 7), z_is 231 7 (zf_getr 7 8 1 10), z_is 231 10 (zf_cst 10 (jn 10) 12), z_is 231 12 (zf_iald 12 13), z_is 231 13 (zf_cst 13 (jn 1) 14), z_is 231 14 (zf_isub 14 15), z_is 231 15 (zf_cv 15 224 2 8 18), z_is 231 18 (zf_istore 18 1 19), z_is 231 19 (zf_aload 19 0 20), z_is 231 20 (zf_cst 20 (jn 0) 21), z_is 231 21 (zf_aload 21 0 22), z_is 231 22 (zf_getr 22 8 1 25), z_is 231 25 (zf_cst 25 (jn 8) 27), z_is 231 27 (zf_iald 27 28), z_is 231 28 (zf_cst 28 (jn 1) 29), z_is 231 29 (zf_isub 29 30), z_is 231 30 (zf_cv 30 223 2 8 33), z_is 231 33 (zf_istore 33 2 34), z_is 231 34 (zf_aload 34 0 35), z_is 231 35 (zf_geti 35 8 10 38), z_is 231 38 (zf_if1 .ne 38 55 41)] = true := by decide +kernel
  refine z_aload hB rfl (fun hB => ?_)
  obtain ⟨q1, e2, h⟩ := z_bind h
  refine y_cv ok hB (as := []) (a := 241) (rest := []) rfl rfl rfl (by decide +kernel) (t_M_goes (I := I) ok e2) (fun hB => ?_)
  refine z_aload hB rfl (fun hB => ?_)
  refine z_cst hB (fun hB => ?_)
  refine z_aload hB rfl (fun hB => ?_)
  refine y_getr (b := 242) ok hB (by decide +kernel) (by decide +kernel) (fun hB => ?_)
  refine z_cst hB (fun hB => ?_)
  obtain ⟨g3, h⟩ := z_gd h
  refine y_iald ok hB (by decide +kernel) (by decide +kernel) g3 (fun hB => ?_)
  refine z_cst hB (fun hB => ?_)
  refine z_isub hB (fun hB => ?_)
  obtain ⟨q4, e5, h⟩ := z_bind h
  refine y_cv ok hB (as := [.int ((jn 0)), .int (((q1 242 (z_n ((jn 10)))) - (jn 1)))]) (a := 241) (rest := []) rfl rfl rfl (by decide +kernel) (t_M_number (I := q1) ok e5) (fun hB => ?_)
  refine z_istore hB rfl rfl (fun hB => ?_)
  refine z_aload hB rfl (fun hB => ?_)
  refine z_cst hB (fun hB => ?_)
  refine z_aload hB rfl (fun hB => ?_)
  refine y_getr (b := 242) ok hB (by decide +kernel) (by decide +kernel) (fun hB => ?_)
  refine z_cst hB (fun hB => ?_)
  obtain ⟨g6, h⟩ := z_gd h
  refine y_iald ok hB (by decide +kernel) (by decide +kernel) g6 (fun hB => ?_)
  refine z_cst hB (fun hB => ?_)
  refine z_isub hB (fun hB => ?_)
  obtain ⟨q7, e8, h⟩ := z_bind h
  refine y_cv ok hB (as := [.int ((jn 0)), .int (((q4.2 242 (z_n ((jn 8)))) - (jn 1)))]) (a := 241) (rest := []) rfl rfl rfl (by decide +kernel) (t_M_numberHere (I := q4.2) ok e8) (fun hB => ?_)
  refine z_istore hB rfl rfl (fun hB => ?_)
  refine z_aload hB rfl (fun hB => ?_)
  refine y_geti ok hB (by decide +kernel) (fun hB => ?_)
  obtain ⟨q9, e10, h⟩ := z_bind h
  have k11 : z_R G 231 55 [some (.ref (241)), some (.int (q4.1)), some (.int (q7.1))] [] (z_w w q9) (.inl none) (z_w w r) := by
    have hB : z_all [z_is 231 55 (zf_aload 55 0 56), z_is 231 56 (zf_geti 56 8 10 59), z_is 231 59 (zf_if1 .ne 59 68 62)] = true := by decide +kernel
    refine z_aload hB rfl (fun hB => ?_)
    refine y_geti ok hB (by decide +kernel) (fun hB => ?_)
    obtain ⟨q12, e13, h⟩ := z_bind h
    have k14 : z_R G 231 68 [some (.ref (241)), none, none] [] (z_w w q12) (.inl none) (z_w w r) := by
      have hB : z_all [z_is 231 68 (zf_aload 68 0 69), z_is 231 69 (zf_cv 69 219 0 8 72), z_is 231 72 (zf_ret 6)] = true := by decide +kernel
      refine z_aload hB rfl (fun hB => ?_)
      obtain ⟨q15, e16, h⟩ := z_bind h
      refine y_cv ok hB (as := []) (a := 241) (rest := []) rfl rfl rfl (by decide +kernel) (t_M_goes (I := q12) ok e16) (fun hB => ?_)
      cases h
      exact z_retv hB
    have h := e13
    refine z_if_ne hB (fun hc _ => ?_) (fun hc _ => ?_)
    · have h := z_neg hc h
      cases h
      exact z_weak k14 (z_se (z_sn (z_sn z_s0)))
    · have h := z_pos hc h
      have hB : z_all [z_is 231 62 (zf_aload 62 0 63), z_is 231 63 (zf_iload 63 1 64), z_is 231 64 (zf_iload 64 2 65), z_is 231 65 (zf_cv 65 253 2 8 68)] = true := by decide +kernel
      refine z_aload hB rfl (fun hB => ?_)
      refine z_iload hB rfl (fun hB => ?_)
      refine z_iload hB rfl (fun hB => ?_)
      obtain ⟨q17, e18, h⟩ := z_bind h
      refine y_cv ok hB (as := [.int (q4.1), .int (q7.1)]) (a := 241) (rest := []) rfl rfl rfl (by decide +kernel) (t_M_putsInto (I := q9) ok e18) (fun hB => ?_)
      cases h
      exact z_weak k14 (z_se (z_sn (z_sn z_s0)))
  have h := e10
  refine z_if_ne hB (fun hc _ => ?_) (fun hc _ => ?_)
  · have h := z_neg hc h
    cases h
    exact z_weak k11 (z_se (z_se (z_se z_s0)))
  · have h := z_pos hc h
    have hB : z_all [z_is 231 41 (zf_aload 41 0 42), z_is 231 42 (zf_iload 42 1 43), z_is 231 43 (zf_iload 43 2 44), z_is 231 44 (zf_cv 44 252 2 8 47), z_is 231 47 (zf_if1 .eq 47 55 50)] = true := by decide +kernel
    refine z_aload hB rfl (fun hB => ?_)
    refine z_iload hB rfl (fun hB => ?_)
    refine z_iload hB rfl (fun hB => ?_)
    obtain ⟨q19, e20, h⟩ := z_bind h
    refine y_cv ok hB (as := [.int (q4.1), .int (q7.1)]) (a := 241) (rest := []) rfl rfl rfl (by decide +kernel) (t_M_whyPut (I := q7.2) ok e20) (fun hB => ?_)
    refine z_if_eq hB (fun hc _ => ?_) (fun hc _ => ?_)
    · have h := z_pos hc h
      cases h
      exact z_weak k11 (z_se (z_se (z_se z_s0)))
    · have h := z_neg hc h
      have hB : z_all [z_is 231 50 (zf_aload 50 0 51), z_is 231 51 (zf_cst 51 (jn 3) 52), z_is 231 52 (zf_cv 52 220 1 8 55)] = true := by decide +kernel
      refine z_aload hB rfl (fun hB => ?_)
      refine z_cst hB (fun hB => ?_)
      obtain ⟨q21, e22, h⟩ := z_bind h
      refine y_cv ok hB (as := [.int ((jn 3))]) (a := 241) (rest := []) rfl rfl rfl (by decide +kernel) (t_M_faults (I := q7.2) ok e22) (fun hB => ?_)
      cases h
      exact z_weak k11 (z_se (z_se (z_se z_s0)))
def d_M_leastCare_2 (x1 : Int32) (I : z_H) (p1 : Int32 × Int32) : Option ((Int32 × Int32) ⊕ (Int32 × Int32)) := (if z_in ((jn 10)) 173 then (if p1.2 < (I 242 (z_n ((jn 10)))) then ((d_M_isInTub (p1.2) (x1) I).bind fun q7 => (Option.bind (α := Int32) (if q7 = jn 0 then some (p1.1) else ((d_M_ofFlag (p1.2) ((jn 2)) I).bind fun q12 => some ((z_mn (p1.1) (q12))))) fun q9 => some (Sum.inl (q9, (p1.2 + (jn 1)))))) else some (Sum.inr (p1.1, p1.2))) else none)
def d_M_leastCare (x1 : Int32) (I : z_H) : Option (Int32) := ((z_it (d_M_leastCare_2 x1 I) z_F ((jn 3), (jn 0))).bind fun q3 => some (q3.1))
/-- FlagLaundryModel.leastCare(I)I -/
theorem t_M_leastCare {G : z_G} {w : ev_W} (ok : z_Ok G w) {x1 : Int32} {I : z_H} {r : Int32} (h : d_M_leastCare x1 I = some r) : z_K G 254 [.ref (241), .int (x1)] (z_w w I) (.inl (some (.int r))) (z_w w I) := by
  refine z_con ok.1 (ml := 4) (by decide +kernel) rfl rfl ?_
  show z_R G 254 0 [some (.ref (241)), some (.int (x1)), none, none] [] (z_w w I) (.inl (some (.int r))) (z_w w I)
  unfold d_M_leastCare at h
  have hB : z_all [z_is 254 0 (zf_cst 0 (jn 3) 1), z_is 254 1 (zf_istore 1 2 2), z_is 254 2 (zf_cst 2 (jn 0) 3), z_is 254 3 (zf_istore 3 3 4)] = true := by decide +kernel
  refine z_cst hB (fun hB => ?_)
  refine z_istore hB rfl rfl (fun hB => ?_)
  refine z_cst hB (fun hB => ?_)
  refine z_istore hB rfl rfl (fun hB => ?_)
  obtain ⟨q3, e4, h⟩ := z_bind h
  have k5 : z_R G 254 41 [none, none, some (.int (q3.1)), none] [] (z_w w I) (.inl (some (.int r))) (z_w w I) := by
    have hB : z_all [z_is 254 41 (zf_iload 41 2 42), z_is 254 42 (zf_ret 0)] = true := by decide +kernel
    refine z_iload hB rfl (fun hB => ?_)
    cases h
    exact z_reti hB
  have l2 : ∀ (m2 : Nat) (p1 : Int32 × Int32), z_it (d_M_leastCare_2 x1 I) m2 p1 = some q3 → z_R G 254 4 [some (.ref (241)), some (.int (x1)), some (.int (p1.1)), some (.int (p1.2))] [] (z_w w I) (.inl (some (.int r))) (z_w w I) := by
    intro m2
    induction m2 with
    | zero => intro p1 h; cases h
    | succ m2 i2 =>
      intro p1 h
      obtain ⟨u2, h, b2⟩ := z_it_o h
      unfold d_M_leastCare_2 at h
      have hB : z_all [z_is 254 4 (zf_iload 4 3 5), z_is 254 5 (zf_aload 5 0 6), z_is 254 6 (zf_getr 6 8 1 9), z_is 254 9 (zf_cst 9 (jn 10) 11), z_is 254 11 (zf_iald 11 12), z_is 254 12 (zf_if2 .ge 12 41 15)] = true := by decide +kernel
      refine z_iload hB rfl (fun hB => ?_)
      refine z_aload hB rfl (fun hB => ?_)
      refine y_getr (b := 242) ok hB (by decide +kernel) (by decide +kernel) (fun hB => ?_)
      refine z_cst hB (fun hB => ?_)
      obtain ⟨g6, h⟩ := z_gd h
      refine y_iald ok hB (by decide +kernel) (by decide +kernel) g6 (fun hB => ?_)
      refine z_ic_ge hB (fun hc _ => ?_) (fun hc _ => ?_)
      · have h := z_neg hc h
        cases h
        cases b2
        exact z_weak k5 (z_sn (z_sn (z_se (z_sn z_s0))))
      · have h := z_pos hc h
        have hB : z_all [z_is 254 15 (zf_aload 15 0 16), z_is 254 16 (zf_iload 16 3 17), z_is 254 17 (zf_iload 17 1 18), z_is 254 18 (zf_cv 18 246 2 8 21), z_is 254 21 (zf_if1 .eq 21 35 24)] = true := by decide +kernel
        refine z_aload hB rfl (fun hB => ?_)
        refine z_iload hB rfl (fun hB => ?_)
        refine z_iload hB rfl (fun hB => ?_)
        obtain ⟨q7, e8, h⟩ := z_bind h
        refine y_cv ok hB (as := [.int (p1.2), .int (x1)]) (a := 241) (rest := []) rfl rfl rfl (by decide +kernel) (t_M_isInTub (I := I) ok e8) (fun hB => ?_)
        obtain ⟨q9, e10, h⟩ := z_bind h
        have k11 : z_R G 254 35 [some (.ref (241)), some (.int (x1)), some (.int (q9)), some (.int (p1.2))] [] (z_w w I) (.inl (some (.int r))) (z_w w I) := by
          have hB : z_all [z_is 254 35 (zf_iinc 35 3 (jn 1) 38), z_is 254 38 (zf_goto 38 4)] = true := by decide +kernel
          refine z_iinc hB rfl rfl (fun hB => ?_)
          refine z_goto hB (fun hB => ?_)
          cases h
          exact z_weak (i2 (q9, (p1.2 + (jn 1))) b2) (z_se (z_se (z_se (z_se z_s0))))
        have h := e10
        refine z_if_eq hB (fun hc _ => ?_) (fun hc _ => ?_)
        · have h := z_pos hc h
          cases h
          exact z_weak k11 (z_se (z_se (z_se (z_se z_s0))))
        · have h := z_neg hc h
          have hB : z_all [z_is 254 24 (zf_iload 24 2 25), z_is 254 25 (zf_aload 25 0 26), z_is 254 26 (zf_iload 26 3 27), z_is 254 27 (zf_cst 27 (jn 2) 28), z_is 254 28 (zf_cv 28 242 2 8 31), z_is 254 31 (zf_nat 31 101 34), z_is 254 34 (zf_istore 34 2 35)] = true := by decide +kernel
          refine z_iload hB rfl (fun hB => ?_)
          refine z_aload hB rfl (fun hB => ?_)
          refine z_iload hB rfl (fun hB => ?_)
          refine z_cst hB (fun hB => ?_)
          obtain ⟨q12, e13, h⟩ := z_bind h
          refine y_cv ok hB (as := [.int (p1.2), .int ((jn 2))]) (a := 241) (rest := [.int (p1.1)]) rfl rfl rfl (by decide +kernel) (t_M_ofFlag (I := I) ok e13) (fun hB => ?_)
          refine z_min hB rfl (fun hB => ?_)
          refine z_istore hB rfl rfl (fun hB => ?_)
          cases h
          exact z_weak k11 (z_se (z_se (z_se (z_se z_s0))))
  exact z_weak (l2 _ ((jn 3), (jn 0)) e4) (z_se (z_se (z_se (z_se z_s0))))
def d_M_whyWash (x1 : Int32) (x2 : Int32) (I : z_H) : Option (Int32) := ((d_M_manyIn (x1) I).bind fun q1 => (if q1 = jn 0 then some ((jn 1)) else ((d_M_leastCare (x1) I).bind fun q3 => (Option.bind (α := Int32) (if q3 < x2 then some ((jn 2)) else some ((jn 0))) fun q5 => some (q5)))))
/-- FlagLaundryModel.whyWash(II)I -/
theorem t_M_whyWash {G : z_G} {w : ev_W} (ok : z_Ok G w) {x1 : Int32} {x2 : Int32} {I : z_H} {r : Int32} (h : d_M_whyWash x1 x2 I = some r) : z_K G 255 [.ref (241), .int (x1), .int (x2)] (z_w w I) (.inl (some (.int r))) (z_w w I) := by
  refine z_con ok.1 (ml := 3) (by decide +kernel) rfl rfl ?_
  show z_R G 255 0 [some (.ref (241)), some (.int (x1)), some (.int (x2))] [] (z_w w I) (.inl (some (.int r))) (z_w w I)
  unfold d_M_whyWash at h
  have hB : z_all [z_is 255 0 (zf_aload 0 0 1), z_is 255 1 (zf_iload 1 1 2), z_is 255 2 (zf_cv 2 251 1 8 5), z_is 255 5 (zf_if1 .ne 5 10 8)] = true := by decide +kernel
  refine z_aload hB rfl (fun hB => ?_)
  refine z_iload hB rfl (fun hB => ?_)
  obtain ⟨q1, e2, h⟩ := z_bind h
  refine y_cv ok hB (as := [.int (x1)]) (a := 241) (rest := []) rfl rfl rfl (by decide +kernel) (t_M_manyIn (I := I) ok e2) (fun hB => ?_)
  refine z_if_ne hB (fun hc _ => ?_) (fun hc _ => ?_)
  · have h := z_neg hc h
    have hB : z_all [z_is 255 10 (zf_iload 10 2 11), z_is 255 11 (zf_aload 11 0 12), z_is 255 12 (zf_iload 12 1 13), z_is 255 13 (zf_cv 13 254 1 8 16), z_is 255 16 (zf_if2 .gt 16 23 19)] = true := by decide +kernel
    refine z_iload hB rfl (fun hB => ?_)
    refine z_aload hB rfl (fun hB => ?_)
    refine z_iload hB rfl (fun hB => ?_)
    obtain ⟨q3, e4, h⟩ := z_bind h
    refine y_cv ok hB (as := [.int (x1)]) (a := 241) (rest := [.int (x2)]) rfl rfl rfl (by decide +kernel) (t_M_leastCare (I := I) ok e4) (fun hB => ?_)
    obtain ⟨q5, e6, h⟩ := z_bind h
    have k7 : z_R G 255 24 [none, none, none] [.int (q5)] (z_w w I) (.inl (some (.int r))) (z_w w I) := by
      have hB : z_all [z_is 255 24 (zf_ret 0)] = true := by decide +kernel
      cases h
      exact z_reti hB
    have h := e6
    refine z_ic_gt hB (fun hc _ => ?_) (fun hc _ => ?_)
    · have h := z_pos hc h
      have hB : z_all [z_is 255 23 (zf_cst 23 (jn 2) 24)] = true := by decide +kernel
      refine z_cst hB (fun hB => ?_)
      cases h
      exact z_weak k7 (z_sn (z_sn (z_sn z_s0)))
    · have h := z_neg hc h
      have hB : z_all [z_is 255 19 (zf_cst 19 (jn 0) 20), z_is 255 20 (zf_goto 20 24)] = true := by decide +kernel
      refine z_cst hB (fun hB => ?_)
      refine z_goto hB (fun hB => ?_)
      cases h
      exact z_weak k7 (z_sn (z_sn (z_sn z_s0)))
  · have h := z_pos hc h
    have hB : z_all [z_is 255 8 (zf_cst 8 (jn 1) 9), z_is 255 9 (zf_ret 0)] = true := by decide +kernel
    refine z_cst hB (fun hB => ?_)
    cases h
    exact z_reti hB
def d_M_runningOf_2 (x1 : Int32) (x2 : Int32) (I : z_H) (p1 : Int32 × Int32) : Option ((Int32 × Int32) ⊕ (Int32 × Int32)) := (if z_in ((jn 6)) 173 then (if p1.2 < (I 242 (z_n ((jn 6)))) then ((d_M_has (x1) (p1.2)).bind fun q7 => (Option.bind (α := Int32) (if q7 = jn 0 then some ((jn 0)) else (if z_in (((jn 12) + p1.2)) 173 then (if x2 < (I 242 (z_n (((jn 12) + p1.2)))) then some ((jn 0)) else some ((jn 1))) else none)) fun q9 => ((d_M_one (q9)).bind fun q12 => some (Sum.inl ((p1.1 ||| (q12 <<< (p1.2 &&& 31))), (p1.2 + (jn 1))))))) else some (Sum.inr (p1.1, p1.2))) else none)
def d_M_runningOf (x1 : Int32) (x2 : Int32) (I : z_H) : Option (Int32) := ((z_it (d_M_runningOf_2 x1 x2 I) z_F ((jn 0), (jn 0))).bind fun q3 => some (q3.1))
/-- FlagLaundryModel.runningOf(II)I -/
theorem t_M_runningOf {G : z_G} {w : ev_W} (ok : z_Ok G w) {x1 : Int32} {x2 : Int32} {I : z_H} {r : Int32} (h : d_M_runningOf x1 x2 I = some r) : z_K G 256 [.ref (241), .int (x1), .int (x2)] (z_w w I) (.inl (some (.int r))) (z_w w I) := by
  refine z_con ok.1 (ml := 5) (by decide +kernel) rfl rfl ?_
  show z_R G 256 0 [some (.ref (241)), some (.int (x1)), some (.int (x2)), none, none] [] (z_w w I) (.inl (some (.int r))) (z_w w I)
  unfold d_M_runningOf at h
  have hB : z_all [z_is 256 0 (zf_cst 0 (jn 0) 1), z_is 256 1 (zf_istore 1 3 2), z_is 256 2 (zf_cst 2 (jn 0) 3), z_is 256 3 (zf_istore 3 4 5)] = true := by decide +kernel
  refine z_cst hB (fun hB => ?_)
  refine z_istore hB rfl rfl (fun hB => ?_)
  refine z_cst hB (fun hB => ?_)
  refine z_istore hB rfl rfl (fun hB => ?_)
  obtain ⟨q3, e4, h⟩ := z_bind h
  have k5 : z_R G 256 60 [none, none, none, some (.int (q3.1)), none] [] (z_w w I) (.inl (some (.int r))) (z_w w I) := by
    have hB : z_all [z_is 256 60 (zf_iload 60 3 61), z_is 256 61 (zf_ret 0)] = true := by decide +kernel
    refine z_iload hB rfl (fun hB => ?_)
    cases h
    exact z_reti hB
  have l2 : ∀ (m2 : Nat) (p1 : Int32 × Int32), z_it (d_M_runningOf_2 x1 x2 I) m2 p1 = some q3 → z_R G 256 5 [some (.ref (241)), some (.int (x1)), some (.int (x2)), some (.int (p1.1)), some (.int (p1.2))] [] (z_w w I) (.inl (some (.int r))) (z_w w I) := by
    intro m2
    induction m2 with
    | zero => intro p1 h; cases h
    | succ m2 i2 =>
      intro p1 h
      obtain ⟨u2, h, b2⟩ := z_it_o h
      unfold d_M_runningOf_2 at h
      have hB : z_all [z_is 256 5 (zf_iload 5 4 7), z_is 256 7 (zf_aload 7 0 8), z_is 256 8 (zf_getr 8 8 1 11), z_is 256 11 (zf_cst 11 (jn 6) 13), z_is 256 13 (zf_iald 13 14), z_is 256 14 (zf_if2 .ge 14 60 17)] = true := by decide +kernel
      refine z_iload hB rfl (fun hB => ?_)
      refine z_aload hB rfl (fun hB => ?_)
      refine y_getr (b := 242) ok hB (by decide +kernel) (by decide +kernel) (fun hB => ?_)
      refine z_cst hB (fun hB => ?_)
      obtain ⟨g6, h⟩ := z_gd h
      refine y_iald ok hB (by decide +kernel) (by decide +kernel) g6 (fun hB => ?_)
      refine z_ic_ge hB (fun hc _ => ?_) (fun hc _ => ?_)
      · have h := z_neg hc h
        cases h
        cases b2
        exact z_weak k5 (z_sn (z_sn (z_sn (z_se (z_sn z_s0)))))
      · have h := z_pos hc h
        have hB : z_all [z_is 256 17 (zf_iload 17 3 18), z_is 256 18 (zf_iload 18 1 19), z_is 256 19 (zf_iload 19 4 21), z_is 256 21 (zf_cs 21 205 2 24), z_is 256 24 (zf_if1 .eq 24 45 27)] = true := by decide +kernel
        refine z_iload hB rfl (fun hB => ?_)
        refine z_iload hB rfl (fun hB => ?_)
        refine z_iload hB rfl (fun hB => ?_)
        obtain ⟨q7, e8, h⟩ := z_bind h
        refine z_callS hB (as := [.int (x1), .int (p1.2)]) (rest := [.int (p1.1)]) rfl rfl rfl (t_M_has (I := I) ok e8) (fun hB => ?_)
        obtain ⟨q9, e10, h⟩ := z_bind h
        have k11 : z_R G 256 46 [some (.ref (241)), some (.int (x1)), some (.int (x2)), none, some (.int (p1.2))] [.int (q9), .int (p1.1)] (z_w w I) (.inl (some (.int r))) (z_w w I) := by
          have hB : z_all [z_is 256 46 (zf_cs 46 204 1 49), z_is 256 49 (zf_iload 49 4 51), z_is 256 51 (zf_ishl 51 52), z_is 256 52 (zf_ior 52 53), z_is 256 53 (zf_istore 53 3 54), z_is 256 54 (zf_iinc 54 4 (jn 1) 57), z_is 256 57 (zf_goto 57 5)] = true := by decide +kernel
          obtain ⟨q12, e13, h⟩ := z_bind h
          refine z_callS hB (as := [.int (q9)]) (rest := [.int (p1.1)]) rfl rfl rfl (t_M_one (I := I) ok e13) (fun hB => ?_)
          refine z_iload hB rfl (fun hB => ?_)
          refine z_ishl hB (fun hB => ?_)
          refine z_ior hB (fun hB => ?_)
          refine z_istore hB rfl rfl (fun hB => ?_)
          refine z_iinc hB rfl rfl (fun hB => ?_)
          refine z_goto hB (fun hB => ?_)
          cases h
          exact z_weak (i2 ((p1.1 ||| (q12 <<< (p1.2 &&& 31))), (p1.2 + (jn 1))) b2) (z_se (z_se (z_se (z_se (z_se z_s0)))))
        have h := e10
        refine z_if_eq hB (fun hc _ => ?_) (fun hc _ => ?_)
        · have h := z_pos hc h
          have hB : z_all [z_is 256 45 (zf_cst 45 (jn 0) 46)] = true := by decide +kernel
          refine z_cst hB (fun hB => ?_)
          cases h
          exact z_weak k11 (z_se (z_se (z_se (z_sn (z_se z_s0)))))
        · have h := z_neg hc h
          have hB : z_all [z_is 256 27 (zf_aload 27 0 28), z_is 256 28 (zf_getr 28 8 1 31), z_is 256 31 (zf_cst 31 (jn 12) 33), z_is 256 33 (zf_iload 33 4 35), z_is 256 35 (zf_iadd 35 36), z_is 256 36 (zf_iald 36 37), z_is 256 37 (zf_iload 37 2 38), z_is 256 38 (zf_if2 .gt 38 45 41)] = true := by decide +kernel
          refine z_aload hB rfl (fun hB => ?_)
          refine y_getr (b := 242) ok hB (by decide +kernel) (by decide +kernel) (fun hB => ?_)
          refine z_cst hB (fun hB => ?_)
          refine z_iload hB rfl (fun hB => ?_)
          refine z_iadd hB (fun hB => ?_)
          obtain ⟨g14, h⟩ := z_gd h
          refine y_iald ok hB (by decide +kernel) (by decide +kernel) g14 (fun hB => ?_)
          refine z_iload hB rfl (fun hB => ?_)
          refine z_ic_gt hB (fun hc _ => ?_) (fun hc _ => ?_)
          · have h := z_pos hc h
            have hB : z_all [z_is 256 45 (zf_cst 45 (jn 0) 46)] = true := by decide +kernel
            refine z_cst hB (fun hB => ?_)
            cases h
            exact z_weak k11 (z_se (z_se (z_se (z_sn (z_se z_s0)))))
          · have h := z_neg hc h
            have hB : z_all [z_is 256 41 (zf_cst 41 (jn 1) 42), z_is 256 42 (zf_goto 42 46)] = true := by decide +kernel
            refine z_cst hB (fun hB => ?_)
            refine z_goto hB (fun hB => ?_)
            cases h
            exact z_weak k11 (z_se (z_se (z_se (z_sn (z_se z_s0)))))
  exact z_weak (l2 _ ((jn 0), (jn 0)) e4) (z_se (z_se (z_se (z_se (z_se z_s0)))))
def d_M_runningFrom (x1 : Int32) (x2 : Int32) (I : z_H) : Option (Int32) := ((d_M_ofFlag (x1) ((jn 1)) I).bind fun q1 => ((d_M_ofFlag (x1) ((jn 6)) I).bind fun q3 => ((d_M_runningOf ((q1 ||| q3)) (x2) I).bind fun q5 => some (q5))))
/-- FlagLaundryModel.runningFrom(II)I -/
theorem t_M_runningFrom {G : z_G} {w : ev_W} (ok : z_Ok G w) {x1 : Int32} {x2 : Int32} {I : z_H} {r : Int32} (h : d_M_runningFrom x1 x2 I = some r) : z_K G 257 [.ref (241), .int (x1), .int (x2)] (z_w w I) (.inl (some (.int r))) (z_w w I) := by
  refine z_con ok.1 (ml := 3) (by decide +kernel) rfl rfl ?_
  show z_R G 257 0 [some (.ref (241)), some (.int (x1)), some (.int (x2))] [] (z_w w I) (.inl (some (.int r))) (z_w w I)
  unfold d_M_runningFrom at h
  have hB : z_all [z_is 257 0 (zf_aload 0 0 1), z_is 257 1 (zf_aload 1 0 2), z_is 257 2 (zf_iload 2 1 3), z_is 257 3 (zf_cst 3 (jn 1) 4), z_is 257 4 (zf_cv 4 242 2 8 7), z_is 257 7 (zf_aload 7 0 8), z_is 257 8 (zf_iload 8 1 9), z_is 257 9 (zf_cst 9 (jn 6) 11), z_is 257 11 (zf_cv 11 242 2 8 14), z_is 257 14 (zf_ior 14 15), z_is 257 15 (zf_iload 15 2 16), z_is 257 16 (zf_cv 16 256 2 8 19), z_is 257 19 (zf_ret 0)] = true := by decide +kernel
  refine z_aload hB rfl (fun hB => ?_)
  refine z_aload hB rfl (fun hB => ?_)
  refine z_iload hB rfl (fun hB => ?_)
  refine z_cst hB (fun hB => ?_)
  obtain ⟨q1, e2, h⟩ := z_bind h
  refine y_cv ok hB (as := [.int (x1), .int ((jn 1))]) (a := 241) (rest := [.ref (241)]) rfl rfl rfl (by decide +kernel) (t_M_ofFlag (I := I) ok e2) (fun hB => ?_)
  refine z_aload hB rfl (fun hB => ?_)
  refine z_iload hB rfl (fun hB => ?_)
  refine z_cst hB (fun hB => ?_)
  obtain ⟨q3, e4, h⟩ := z_bind h
  refine y_cv ok hB (as := [.int (x1), .int ((jn 6))]) (a := 241) (rest := [.int (q1), .ref (241)]) rfl rfl rfl (by decide +kernel) (t_M_ofFlag (I := I) ok e4) (fun hB => ?_)
  refine z_ior hB (fun hB => ?_)
  refine z_iload hB rfl (fun hB => ?_)
  obtain ⟨q5, e6, h⟩ := z_bind h
  refine y_cv ok hB (as := [.int ((q1 ||| q3)), .int (x2)]) (a := 241) (rest := []) rfl rfl rfl (by decide +kernel) (t_M_runningOf (I := I) ok e6) (fun hB => ?_)
  cases h
  exact z_reti hB
def d_M_runningIn_2 (x1 : Int32) (x2 : Int32) (I : z_H) (p1 : Int32 × Int32) : Option ((Int32 × Int32) ⊕ (Int32 × Int32)) := (if z_in ((jn 10)) 173 then (if p1.2 < (I 242 (z_n ((jn 10)))) then ((d_M_isInTub (p1.2) (x1) I).bind fun q7 => (Option.bind (α := Int32) (if q7 = jn 0 then some ((jn 0)) else ((d_M_runningFrom (p1.2) (x2) I).bind fun q12 => some (q12))) fun q9 => some (Sum.inl ((p1.1 ||| q9), (p1.2 + (jn 1)))))) else some (Sum.inr (p1.1, p1.2))) else none)
def d_M_runningIn (x1 : Int32) (x2 : Int32) (I : z_H) : Option (Int32) := ((z_it (d_M_runningIn_2 x1 x2 I) z_F ((jn 0), (jn 0))).bind fun q3 => some (q3.1))
/-- FlagLaundryModel.runningIn(II)I -/
theorem t_M_runningIn {G : z_G} {w : ev_W} (ok : z_Ok G w) {x1 : Int32} {x2 : Int32} {I : z_H} {r : Int32} (h : d_M_runningIn x1 x2 I = some r) : z_K G 258 [.ref (241), .int (x1), .int (x2)] (z_w w I) (.inl (some (.int r))) (z_w w I) := by
  refine z_con ok.1 (ml := 5) (by decide +kernel) rfl rfl ?_
  show z_R G 258 0 [some (.ref (241)), some (.int (x1)), some (.int (x2)), none, none] [] (z_w w I) (.inl (some (.int r))) (z_w w I)
  unfold d_M_runningIn at h
  have hB : z_all [z_is 258 0 (zf_cst 0 (jn 0) 1), z_is 258 1 (zf_istore 1 3 2), z_is 258 2 (zf_cst 2 (jn 0) 3), z_is 258 3 (zf_istore 3 4 5)] = true := by decide +kernel
  refine z_cst hB (fun hB => ?_)
  refine z_istore hB rfl rfl (fun hB => ?_)
  refine z_cst hB (fun hB => ?_)
  refine z_istore hB rfl rfl (fun hB => ?_)
  obtain ⟨q3, e4, h⟩ := z_bind h
  have k5 : z_R G 258 47 [none, none, none, some (.int (q3.1)), none] [] (z_w w I) (.inl (some (.int r))) (z_w w I) := by
    have hB : z_all [z_is 258 47 (zf_iload 47 3 48), z_is 258 48 (zf_ret 0)] = true := by decide +kernel
    refine z_iload hB rfl (fun hB => ?_)
    cases h
    exact z_reti hB
  have l2 : ∀ (m2 : Nat) (p1 : Int32 × Int32), z_it (d_M_runningIn_2 x1 x2 I) m2 p1 = some q3 → z_R G 258 5 [some (.ref (241)), some (.int (x1)), some (.int (x2)), some (.int (p1.1)), some (.int (p1.2))] [] (z_w w I) (.inl (some (.int r))) (z_w w I) := by
    intro m2
    induction m2 with
    | zero => intro p1 h; cases h
    | succ m2 i2 =>
      intro p1 h
      obtain ⟨u2, h, b2⟩ := z_it_o h
      unfold d_M_runningIn_2 at h
      have hB : z_all [z_is 258 5 (zf_iload 5 4 7), z_is 258 7 (zf_aload 7 0 8), z_is 258 8 (zf_getr 8 8 1 11), z_is 258 11 (zf_cst 11 (jn 10) 13), z_is 258 13 (zf_iald 13 14), z_is 258 14 (zf_if2 .ge 14 47 17)] = true := by decide +kernel
      refine z_iload hB rfl (fun hB => ?_)
      refine z_aload hB rfl (fun hB => ?_)
      refine y_getr (b := 242) ok hB (by decide +kernel) (by decide +kernel) (fun hB => ?_)
      refine z_cst hB (fun hB => ?_)
      obtain ⟨g6, h⟩ := z_gd h
      refine y_iald ok hB (by decide +kernel) (by decide +kernel) g6 (fun hB => ?_)
      refine z_ic_ge hB (fun hc _ => ?_) (fun hc _ => ?_)
      · have h := z_neg hc h
        cases h
        cases b2
        exact z_weak k5 (z_sn (z_sn (z_sn (z_se (z_sn z_s0)))))
      · have h := z_pos hc h
        have hB : z_all [z_is 258 17 (zf_iload 17 3 18), z_is 258 18 (zf_aload 18 0 19), z_is 258 19 (zf_iload 19 4 21), z_is 258 21 (zf_iload 21 1 22), z_is 258 22 (zf_cv 22 246 2 8 25), z_is 258 25 (zf_if1 .eq 25 38 28)] = true := by decide +kernel
        refine z_iload hB rfl (fun hB => ?_)
        refine z_aload hB rfl (fun hB => ?_)
        refine z_iload hB rfl (fun hB => ?_)
        refine z_iload hB rfl (fun hB => ?_)
        obtain ⟨q7, e8, h⟩ := z_bind h
        refine y_cv ok hB (as := [.int (p1.2), .int (x1)]) (a := 241) (rest := [.int (p1.1)]) rfl rfl rfl (by decide +kernel) (t_M_isInTub (I := I) ok e8) (fun hB => ?_)
        obtain ⟨q9, e10, h⟩ := z_bind h
        have k11 : z_R G 258 39 [some (.ref (241)), some (.int (x1)), some (.int (x2)), none, some (.int (p1.2))] [.int (q9), .int (p1.1)] (z_w w I) (.inl (some (.int r))) (z_w w I) := by
          have hB : z_all [z_is 258 39 (zf_ior 39 40), z_is 258 40 (zf_istore 40 3 41), z_is 258 41 (zf_iinc 41 4 (jn 1) 44), z_is 258 44 (zf_goto 44 5)] = true := by decide +kernel
          refine z_ior hB (fun hB => ?_)
          refine z_istore hB rfl rfl (fun hB => ?_)
          refine z_iinc hB rfl rfl (fun hB => ?_)
          refine z_goto hB (fun hB => ?_)
          cases h
          exact z_weak (i2 ((p1.1 ||| q9), (p1.2 + (jn 1))) b2) (z_se (z_se (z_se (z_se (z_se z_s0)))))
        have h := e10
        refine z_if_eq hB (fun hc _ => ?_) (fun hc _ => ?_)
        · have h := z_pos hc h
          have hB : z_all [z_is 258 38 (zf_cst 38 (jn 0) 39)] = true := by decide +kernel
          refine z_cst hB (fun hB => ?_)
          cases h
          exact z_weak k11 (z_se (z_se (z_se (z_sn (z_se z_s0)))))
        · have h := z_neg hc h
          have hB : z_all [z_is 258 28 (zf_aload 28 0 29), z_is 258 29 (zf_iload 29 4 31), z_is 258 31 (zf_iload 31 2 32), z_is 258 32 (zf_cv 32 257 2 8 35), z_is 258 35 (zf_goto 35 39)] = true := by decide +kernel
          refine z_aload hB rfl (fun hB => ?_)
          refine z_iload hB rfl (fun hB => ?_)
          refine z_iload hB rfl (fun hB => ?_)
          obtain ⟨q12, e13, h⟩ := z_bind h
          refine y_cv ok hB (as := [.int (p1.2), .int (x2)]) (a := 241) (rest := [.int (p1.1)]) rfl rfl rfl (by decide +kernel) (t_M_runningFrom (I := I) ok e13) (fun hB => ?_)
          refine z_goto hB (fun hB => ?_)
          cases h
          exact z_weak k11 (z_se (z_se (z_se (z_sn (z_se z_s0)))))
  exact z_weak (l2 _ ((jn 0), (jn 0)) e4) (z_se (z_se (z_se (z_se (z_se z_s0)))))
def d_M_newStains (x1 : Int32) (x2 : Int32) (I : z_H) : Option (Int32) := ((d_M_ofFlag (x1) ((jn 1)) I).bind fun q1 => ((d_M_ofFlag (x1) ((jn 6)) I).bind fun q3 => some (((x2 &&& (q1 ^^^ (jg 1))) &&& (q3 ^^^ (jg 1))))))
/-- FlagLaundryModel.newStains(II)I -/
theorem t_M_newStains {G : z_G} {w : ev_W} (ok : z_Ok G w) {x1 : Int32} {x2 : Int32} {I : z_H} {r : Int32} (h : d_M_newStains x1 x2 I = some r) : z_K G 259 [.ref (241), .int (x1), .int (x2)] (z_w w I) (.inl (some (.int r))) (z_w w I) := by
  refine z_con ok.1 (ml := 3) (by decide +kernel) rfl rfl ?_
  show z_R G 259 0 [some (.ref (241)), some (.int (x1)), some (.int (x2))] [] (z_w w I) (.inl (some (.int r))) (z_w w I)
  unfold d_M_newStains at h
  have hB : z_all [z_is 259 0 (zf_iload 0 2 1), z_is 259 1 (zf_aload 1 0 2), z_is 259 2 (zf_iload 2 1 3), z_is 259 3 (zf_cst 3 (jn 1) 4), z_is 259 4 (zf_cv 4 242 2 8 7), z_is 259 7 (zf_cst 7 (jg 1) 8), z_is 259 8 (zf_ixor 8 9), z_is 259 9 (zf_iand 9 10), z_is 259 10 (zf_aload 10 0 11), z_is 259 11 (zf_iload 11 1 12), z_is 259 12 (zf_cst 12 (jn 6) 14), z_is 259 14 (zf_cv 14 242 2 8 17), z_is 259 17 (zf_cst 17 (jg 1) 18), z_is 259 18 (zf_ixor 18 19), z_is 259 19 (zf_iand 19 20), z_is 259 20 (zf_ret 0)] = true := by decide +kernel
  refine z_iload hB rfl (fun hB => ?_)
  refine z_aload hB rfl (fun hB => ?_)
  refine z_iload hB rfl (fun hB => ?_)
  refine z_cst hB (fun hB => ?_)
  obtain ⟨q1, e2, h⟩ := z_bind h
  refine y_cv ok hB (as := [.int (x1), .int ((jn 1))]) (a := 241) (rest := [.int (x2)]) rfl rfl rfl (by decide +kernel) (t_M_ofFlag (I := I) ok e2) (fun hB => ?_)
  refine z_cst hB (fun hB => ?_)
  refine z_ixor hB (fun hB => ?_)
  refine z_iand hB (fun hB => ?_)
  refine z_aload hB rfl (fun hB => ?_)
  refine z_iload hB rfl (fun hB => ?_)
  refine z_cst hB (fun hB => ?_)
  obtain ⟨q3, e4, h⟩ := z_bind h
  refine y_cv ok hB (as := [.int (x1), .int ((jn 6))]) (a := 241) (rest := [.int ((x2 &&& (q1 ^^^ (jg 1))))]) rfl rfl rfl (by decide +kernel) (t_M_ofFlag (I := I) ok e4) (fun hB => ?_)
  refine z_cst hB (fun hB => ?_)
  refine z_ixor hB (fun hB => ?_)
  refine z_iand hB (fun hB => ?_)
  cases h
  exact z_reti hB
def d_M_stainedBy_4 (x1 : Int32) (I : z_H) (q1 : Int32) (p3 : Int32 × Int32) : Option ((Int32 × Int32) ⊕ (Int32 × Int32)) := (if z_in ((jn 10)) 173 then (if p3.2 < (I 242 (z_n ((jn 10)))) then ((d_M_isInTub (p3.2) (x1) I).bind fun q9 => (Option.bind (α := Int32) (if q9 = jn 0 then some ((jn 0)) else ((d_M_newStains (p3.2) (q1) I).bind fun q16 => (if q16 = jn 0 then some ((jn 0)) else some ((jn 1))))) fun q11 => ((d_M_one (q11)).bind fun q14 => some (Sum.inl ((p3.1 + q14), (p3.2 + (jn 1))))))) else some (Sum.inr (p3.1, p3.2))) else none)
def d_M_stainedBy (x1 : Int32) (x2 : Int32) (I : z_H) : Option (Int32) := ((d_M_runningIn (x1) (x2) I).bind fun q1 => ((z_it (d_M_stainedBy_4 x1 I q1) z_F ((jn 0), (jn 0))).bind fun q5 => some (q5.1)))
/-- FlagLaundryModel.stainedBy(II)I -/
theorem t_M_stainedBy {G : z_G} {w : ev_W} (ok : z_Ok G w) {x1 : Int32} {x2 : Int32} {I : z_H} {r : Int32} (h : d_M_stainedBy x1 x2 I = some r) : z_K G 260 [.ref (241), .int (x1), .int (x2)] (z_w w I) (.inl (some (.int r))) (z_w w I) := by
  refine z_con ok.1 (ml := 6) (by decide +kernel) rfl rfl ?_
  show z_R G 260 0 [some (.ref (241)), some (.int (x1)), some (.int (x2)), none, none, none] [] (z_w w I) (.inl (some (.int r))) (z_w w I)
  unfold d_M_stainedBy at h
  have hB : z_all [z_is 260 0 (zf_aload 0 0 1), z_is 260 1 (zf_iload 1 1 2), z_is 260 2 (zf_iload 2 2 3), z_is 260 3 (zf_cv 3 258 2 8 6), z_is 260 6 (zf_istore 6 3 7), z_is 260 7 (zf_cst 7 (jn 0) 8), z_is 260 8 (zf_istore 8 4 10), z_is 260 10 (zf_cst 10 (jn 0) 11), z_is 260 11 (zf_istore 11 5 13)] = true := by decide +kernel
  refine z_aload hB rfl (fun hB => ?_)
  refine z_iload hB rfl (fun hB => ?_)
  refine z_iload hB rfl (fun hB => ?_)
  obtain ⟨q1, e2, h⟩ := z_bind h
  refine y_cv ok hB (as := [.int (x1), .int (x2)]) (a := 241) (rest := []) rfl rfl rfl (by decide +kernel) (t_M_runningIn (I := I) ok e2) (fun hB => ?_)
  refine z_istore hB rfl rfl (fun hB => ?_)
  refine z_cst hB (fun hB => ?_)
  refine z_istore hB rfl rfl (fun hB => ?_)
  refine z_cst hB (fun hB => ?_)
  refine z_istore hB rfl rfl (fun hB => ?_)
  obtain ⟨q5, e6, h⟩ := z_bind h
  have k7 : z_R G 260 64 [none, none, none, none, some (.int (q5.1)), none] [] (z_w w I) (.inl (some (.int r))) (z_w w I) := by
    have hB : z_all [z_is 260 64 (zf_iload 64 4 66), z_is 260 66 (zf_ret 0)] = true := by decide +kernel
    refine z_iload hB rfl (fun hB => ?_)
    cases h
    exact z_reti hB
  have l4 : ∀ (m4 : Nat) (p3 : Int32 × Int32), z_it (d_M_stainedBy_4 x1 I q1) m4 p3 = some q5 → z_R G 260 13 [some (.ref (241)), some (.int (x1)), none, some (.int (q1)), some (.int (p3.1)), some (.int (p3.2))] [] (z_w w I) (.inl (some (.int r))) (z_w w I) := by
    intro m4
    induction m4 with
    | zero => intro p3 h; cases h
    | succ m4 i4 =>
      intro p3 h
      obtain ⟨u4, h, b4⟩ := z_it_o h
      unfold d_M_stainedBy_4 at h
      have hB : z_all [z_is 260 13 (zf_iload 13 5 15), z_is 260 15 (zf_aload 15 0 16), z_is 260 16 (zf_getr 16 8 1 19), z_is 260 19 (zf_cst 19 (jn 10) 21), z_is 260 21 (zf_iald 21 22), z_is 260 22 (zf_if2 .ge 22 64 25)] = true := by decide +kernel
      refine z_iload hB rfl (fun hB => ?_)
      refine z_aload hB rfl (fun hB => ?_)
      refine y_getr (b := 242) ok hB (by decide +kernel) (by decide +kernel) (fun hB => ?_)
      refine z_cst hB (fun hB => ?_)
      obtain ⟨g8, h⟩ := z_gd h
      refine y_iald ok hB (by decide +kernel) (by decide +kernel) g8 (fun hB => ?_)
      refine z_ic_ge hB (fun hc _ => ?_) (fun hc _ => ?_)
      · have h := z_neg hc h
        cases h
        cases b4
        exact z_weak k7 (z_sn (z_sn (z_sn (z_sn (z_se (z_sn z_s0))))))
      · have h := z_pos hc h
        have hB : z_all [z_is 260 25 (zf_iload 25 4 27), z_is 260 27 (zf_aload 27 0 28), z_is 260 28 (zf_iload 28 5 30), z_is 260 30 (zf_iload 30 1 31), z_is 260 31 (zf_cv 31 246 2 8 34), z_is 260 34 (zf_if1 .eq 34 51 37)] = true := by decide +kernel
        refine z_iload hB rfl (fun hB => ?_)
        refine z_aload hB rfl (fun hB => ?_)
        refine z_iload hB rfl (fun hB => ?_)
        refine z_iload hB rfl (fun hB => ?_)
        obtain ⟨q9, e10, h⟩ := z_bind h
        refine y_cv ok hB (as := [.int (p3.2), .int (x1)]) (a := 241) (rest := [.int (p3.1)]) rfl rfl rfl (by decide +kernel) (t_M_isInTub (I := I) ok e10) (fun hB => ?_)
        obtain ⟨q11, e12, h⟩ := z_bind h
        have k13 : z_R G 260 52 [some (.ref (241)), some (.int (x1)), none, some (.int (q1)), none, some (.int (p3.2))] [.int (q11), .int (p3.1)] (z_w w I) (.inl (some (.int r))) (z_w w I) := by
          have hB : z_all [z_is 260 52 (zf_cs 52 204 1 55), z_is 260 55 (zf_iadd 55 56), z_is 260 56 (zf_istore 56 4 58), z_is 260 58 (zf_iinc 58 5 (jn 1) 61), z_is 260 61 (zf_goto 61 13)] = true := by decide +kernel
          obtain ⟨q14, e15, h⟩ := z_bind h
          refine z_callS hB (as := [.int (q11)]) (rest := [.int (p3.1)]) rfl rfl rfl (t_M_one (I := I) ok e15) (fun hB => ?_)
          refine z_iadd hB (fun hB => ?_)
          refine z_istore hB rfl rfl (fun hB => ?_)
          refine z_iinc hB rfl rfl (fun hB => ?_)
          refine z_goto hB (fun hB => ?_)
          cases h
          exact z_weak (i4 ((p3.1 + q14), (p3.2 + (jn 1))) b4) (z_se (z_se (z_sn (z_se (z_se (z_se z_s0))))))
        have h := e12
        refine z_if_eq hB (fun hc _ => ?_) (fun hc _ => ?_)
        · have h := z_pos hc h
          have hB : z_all [z_is 260 51 (zf_cst 51 (jn 0) 52)] = true := by decide +kernel
          refine z_cst hB (fun hB => ?_)
          cases h
          exact z_weak k13 (z_se (z_se (z_sn (z_se (z_sn (z_se z_s0))))))
        · have h := z_neg hc h
          have hB : z_all [z_is 260 37 (zf_aload 37 0 38), z_is 260 38 (zf_iload 38 5 40), z_is 260 40 (zf_iload 40 3 41), z_is 260 41 (zf_cv 41 259 2 8 44), z_is 260 44 (zf_if1 .eq 44 51 47)] = true := by decide +kernel
          refine z_aload hB rfl (fun hB => ?_)
          refine z_iload hB rfl (fun hB => ?_)
          refine z_iload hB rfl (fun hB => ?_)
          obtain ⟨q16, e17, h⟩ := z_bind h
          refine y_cv ok hB (as := [.int (p3.2), .int (q1)]) (a := 241) (rest := [.int (p3.1)]) rfl rfl rfl (by decide +kernel) (t_M_newStains (I := I) ok e17) (fun hB => ?_)
          refine z_if_eq hB (fun hc _ => ?_) (fun hc _ => ?_)
          · have h := z_pos hc h
            have hB : z_all [z_is 260 51 (zf_cst 51 (jn 0) 52)] = true := by decide +kernel
            refine z_cst hB (fun hB => ?_)
            cases h
            exact z_weak k13 (z_se (z_se (z_sn (z_se (z_sn (z_se z_s0))))))
          · have h := z_neg hc h
            have hB : z_all [z_is 260 47 (zf_cst 47 (jn 1) 48), z_is 260 48 (zf_goto 48 52)] = true := by decide +kernel
            refine z_cst hB (fun hB => ?_)
            refine z_goto hB (fun hB => ?_)
            cases h
            exact z_weak k13 (z_se (z_se (z_sn (z_se (z_sn (z_se z_s0))))))
  exact z_weak (l4 _ ((jn 0), (jn 0)) e6) (z_se (z_se (z_sn (z_se (z_se (z_se z_s0))))))
def d_M_dirtBehind (x1 : Int32) (x2 : Int32) (I : z_H) : Option (Int32) := ((d_M_ofFlag (x1) ((jn 3)) I).bind fun q1 => some ((z_mx ((jn 0)) (((q1 - (jn 1)) - ((jn 2) * x2))))))
/-- FlagLaundryModel.dirtBehind(II)I -/
theorem t_M_dirtBehind {G : z_G} {w : ev_W} (ok : z_Ok G w) {x1 : Int32} {x2 : Int32} {I : z_H} {r : Int32} (h : d_M_dirtBehind x1 x2 I = some r) : z_K G 261 [.ref (241), .int (x1), .int (x2)] (z_w w I) (.inl (some (.int r))) (z_w w I) := by
  refine z_con ok.1 (ml := 3) (by decide +kernel) rfl rfl ?_
  show z_R G 261 0 [some (.ref (241)), some (.int (x1)), some (.int (x2))] [] (z_w w I) (.inl (some (.int r))) (z_w w I)
  unfold d_M_dirtBehind at h
  have hB : z_all [z_is 261 0 (zf_cst 0 (jn 0) 1), z_is 261 1 (zf_aload 1 0 2), z_is 261 2 (zf_iload 2 1 3), z_is 261 3 (zf_cst 3 (jn 3) 4), z_is 261 4 (zf_cv 4 242 2 8 7), z_is 261 7 (zf_cst 7 (jn 1) 8), z_is 261 8 (zf_isub 8 9), z_is 261 9 (zf_cst 9 (jn 2) 10), z_is 261 10 (zf_iload 10 2 11), z_is 261 11 (zf_imul 11 12), z_is 261 12 (zf_isub 12 13), z_is 261 13 (zf_nat 13 100 16), z_is 261 16 (zf_ret 0)] = true := by decide +kernel
  refine z_cst hB (fun hB => ?_)
  refine z_aload hB rfl (fun hB => ?_)
  refine z_iload hB rfl (fun hB => ?_)
  refine z_cst hB (fun hB => ?_)
  obtain ⟨q1, e2, h⟩ := z_bind h
  refine y_cv ok hB (as := [.int (x1), .int ((jn 3))]) (a := 241) (rest := [.int ((jn 0))]) rfl rfl rfl (by decide +kernel) (t_M_ofFlag (I := I) ok e2) (fun hB => ?_)
  refine z_cst hB (fun hB => ?_)
  refine z_isub hB (fun hB => ?_)
  refine z_cst hB (fun hB => ?_)
  refine z_iload hB rfl (fun hB => ?_)
  refine z_imul hB (fun hB => ?_)
  refine z_isub hB (fun hB => ?_)
  refine z_max hB rfl (fun hB => ?_)
  cases h
  exact z_reti hB
def d_M_isWashed (x1 : Int32) (x2 : Int32) (x3 : Int32) (I : z_H) : Option (z_H) := ((d_M_ofFlag (x1) ((jn 6)) I).bind fun q1 => ((d_M_newStains (x1) (x2) I).bind fun q3 => ((d_M_putsFlag (x1) ((jn 6)) ((q1 ||| q3)) I).bind fun q5 => ((d_M_dirtBehind (x1) (x3) q5).bind fun q7 => ((d_M_putsFlag (x1) ((jn 3)) (q7) q5).bind fun q9 => ((d_M_putsFlag (x1) ((jn 4)) ((jn 9)) q9).bind fun q11 => ((d_M_ofFlag (x1) ((jn 5)) q11).bind fun q13 => ((d_M_putsFlag (x1) ((jn 5)) ((z_mn ((jn 9)) (((q13 + (jn 1)) + x3)))) q11).bind fun q15 => ((d_M_goesTo (x1) ((jn 0)) ((jg 1)) q15).bind fun q17 => some (q17))))))))))
/-- FlagLaundryModel.isWashed(III)V -/
theorem t_M_isWashed {G : z_G} {w : ev_W} (ok : z_Ok G w) {x1 : Int32} {x2 : Int32} {x3 : Int32} {I : z_H} {r : z_H} (h : d_M_isWashed x1 x2 x3 I = some r) : z_K G 263 [.ref (241), .int (x1), .int (x2), .int (x3)] (z_w w I) (.inl none) (z_w w r) := by
  refine z_con ok.1 (ml := 4) (by decide +kernel) rfl rfl ?_
  show z_R G 263 0 [some (.ref (241)), some (.int (x1)), some (.int (x2)), some (.int (x3))] [] (z_w w I) (.inl none) (z_w w r)
  unfold d_M_isWashed at h
  have hB : z_all [z_is 263 0 (zf_aload 0 0 1), z_is 263 1 (zf_iload 1 1 2), z_is 263 2 (zf_cst 2 (jn 6) 4), z_is 263 4 (zf_aload 4 0 5), z_is 263 5 (zf_iload 5 1 6), z_is 263 6 (zf_cst 6 (jn 6) 8), z_is 263 8 (zf_cv 8 242 2 8 11), z_is 263 11 (zf_aload 11 0 12), z_is 263 12 (zf_iload 12 1 13), z_is 263 13 (zf_iload 13 2 14), z_is 263 14 (zf_cv 14 259 2 8 17), z_is 263 17 (zf_ior 17 18), z_is 263 18 (zf_cv 18 243 3 8 21), z_is 263 21 (zf_aload 21 0 22), z_is 263 22 (zf_iload 22 1 23), z_is 263 23 (zf_cst 23 (jn 3) 24), z_is 263 24 (zf_aload 24 0 25), z_is 263 25 (zf_iload 25 1 26), z_is 263 26 (zf_iload 26 3 27), z_is 263 27 (zf_cv 27 261 2 8 30), z_is 263 30 (zf_cv 30 243 3 8 33), z_is 263 33 (zf_aload 33 0 34), z_is 263 34 (zf_iload 34 1 35), z_is 263 35 (zf_cst 35 (jn 4) 36), z_is 263 36 (zf_cst 36 (jn 9) 38), z_is 263 38 (zf_cv 38 243 3 8 41), z_is 263 41 (zf_aload 41 0 42), z_is 263 42 (zf_iload 42 1 43), z_is 263 43 (zf_cst 43 (jn 5) 44), z_is 263 44 (zf_cst 44 (jn 9) 46), z_is 263 46 (zf_aload 46 0 47), z_is 263 47 (zf_iload 47 1 48), z_is 263 48 (zf_cst 48 (jn 5) 49), z_is 263 49 (zf_cv 49 242 2 8 52), z_is 263 52 (zf_cst 52 (jn 1) 53), z_is 263 53 (zf_iadd 53 54), z_is 263 54 (zf_iload 54 3 55), z_is 263 55 (zf_iadd 55 56), z_is 263 56 (zf_nat 56 101 59), z_is 263 59 (zf_cv 59 243 3 8 62), z_is 263 62 (zf_aload 62 0 63), z_is 263 63 (zf_iload 63 1 64), z_is 263 64 (zf_cst 64 (jn 0) 65), z_is 263 65 (zf_cst 65 (jg 1) 66), z_is 263 66 (zf_cv 66 247 3 8 69), z_is 263 69 (zf_ret 6)] = true := by decide +kernel
  refine z_aload hB rfl (fun hB => ?_)
  refine z_iload hB rfl (fun hB => ?_)
  refine z_cst hB (fun hB => ?_)
  refine z_aload hB rfl (fun hB => ?_)
  refine z_iload hB rfl (fun hB => ?_)
  refine z_cst hB (fun hB => ?_)
  obtain ⟨q1, e2, h⟩ := z_bind h
  refine y_cv ok hB (as := [.int (x1), .int ((jn 6))]) (a := 241) (rest := [.int ((jn 6)), .int (x1), .ref (241)]) rfl rfl rfl (by decide +kernel) (t_M_ofFlag (I := I) ok e2) (fun hB => ?_)
  refine z_aload hB rfl (fun hB => ?_)
  refine z_iload hB rfl (fun hB => ?_)
  refine z_iload hB rfl (fun hB => ?_)
  obtain ⟨q3, e4, h⟩ := z_bind h
  refine y_cv ok hB (as := [.int (x1), .int (x2)]) (a := 241) (rest := [.int (q1), .int ((jn 6)), .int (x1), .ref (241)]) rfl rfl rfl (by decide +kernel) (t_M_newStains (I := I) ok e4) (fun hB => ?_)
  refine z_ior hB (fun hB => ?_)
  obtain ⟨q5, e6, h⟩ := z_bind h
  refine y_cv ok hB (as := [.int (x1), .int ((jn 6)), .int ((q1 ||| q3))]) (a := 241) (rest := []) rfl rfl rfl (by decide +kernel) (t_M_putsFlag (I := I) ok e6) (fun hB => ?_)
  refine z_aload hB rfl (fun hB => ?_)
  refine z_iload hB rfl (fun hB => ?_)
  refine z_cst hB (fun hB => ?_)
  refine z_aload hB rfl (fun hB => ?_)
  refine z_iload hB rfl (fun hB => ?_)
  refine z_iload hB rfl (fun hB => ?_)
  obtain ⟨q7, e8, h⟩ := z_bind h
  refine y_cv ok hB (as := [.int (x1), .int (x3)]) (a := 241) (rest := [.int ((jn 3)), .int (x1), .ref (241)]) rfl rfl rfl (by decide +kernel) (t_M_dirtBehind (I := q5) ok e8) (fun hB => ?_)
  obtain ⟨q9, e10, h⟩ := z_bind h
  refine y_cv ok hB (as := [.int (x1), .int ((jn 3)), .int (q7)]) (a := 241) (rest := []) rfl rfl rfl (by decide +kernel) (t_M_putsFlag (I := q5) ok e10) (fun hB => ?_)
  refine z_aload hB rfl (fun hB => ?_)
  refine z_iload hB rfl (fun hB => ?_)
  refine z_cst hB (fun hB => ?_)
  refine z_cst hB (fun hB => ?_)
  obtain ⟨q11, e12, h⟩ := z_bind h
  refine y_cv ok hB (as := [.int (x1), .int ((jn 4)), .int ((jn 9))]) (a := 241) (rest := []) rfl rfl rfl (by decide +kernel) (t_M_putsFlag (I := q9) ok e12) (fun hB => ?_)
  refine z_aload hB rfl (fun hB => ?_)
  refine z_iload hB rfl (fun hB => ?_)
  refine z_cst hB (fun hB => ?_)
  refine z_cst hB (fun hB => ?_)
  refine z_aload hB rfl (fun hB => ?_)
  refine z_iload hB rfl (fun hB => ?_)
  refine z_cst hB (fun hB => ?_)
  obtain ⟨q13, e14, h⟩ := z_bind h
  refine y_cv ok hB (as := [.int (x1), .int ((jn 5))]) (a := 241) (rest := [.int ((jn 9)), .int ((jn 5)), .int (x1), .ref (241)]) rfl rfl rfl (by decide +kernel) (t_M_ofFlag (I := q11) ok e14) (fun hB => ?_)
  refine z_cst hB (fun hB => ?_)
  refine z_iadd hB (fun hB => ?_)
  refine z_iload hB rfl (fun hB => ?_)
  refine z_iadd hB (fun hB => ?_)
  refine z_min hB rfl (fun hB => ?_)
  obtain ⟨q15, e16, h⟩ := z_bind h
  refine y_cv ok hB (as := [.int (x1), .int ((jn 5)), .int ((z_mn ((jn 9)) (((q13 + (jn 1)) + x3))))]) (a := 241) (rest := []) rfl rfl rfl (by decide +kernel) (t_M_putsFlag (I := q11) ok e16) (fun hB => ?_)
  refine z_aload hB rfl (fun hB => ?_)
  refine z_iload hB rfl (fun hB => ?_)
  refine z_cst hB (fun hB => ?_)
  refine z_cst hB (fun hB => ?_)
  obtain ⟨q17, e18, h⟩ := z_bind h
  refine y_cv ok hB (as := [.int (x1), .int ((jn 0)), .int ((jg 1))]) (a := 241) (rest := []) rfl rfl rfl (by decide +kernel) (t_M_goesTo (I := q15) ok e18) (fun hB => ?_)
  cases h
  exact z_retv hB
def d_M_washes_6 (x1 : Int32) (x2 : Int32) (q1 : Int32) (p5 : Int32 × z_H) : Option ((Int32 × z_H) ⊕ (Int32 × z_H)) := (if z_in ((jn 10)) 173 then (if p5.1 < (p5.2 242 (z_n ((jn 10)))) then ((d_M_isInTub (p5.1) (x1) p5.2).bind fun q13 => (Option.bind (α := z_H) (if q13 = jn 0 then some (p5.2) else ((d_M_isWashed (p5.1) (q1) (x2) p5.2).bind fun q18 => some (q18))) fun q15 => some (Sum.inl ((p5.1 + (jn 1)), q15)))) else some (Sum.inr (p5.1, p5.2))) else none)
def d_M_washes (x1 : Int32) (x2 : Int32) (I : z_H) : Option (Int32 × z_H) := ((d_M_runningIn (x1) (x2) I).bind fun q1 => ((d_M_stainedBy (x1) (x2) I).bind fun q3 => ((z_it (d_M_washes_6 x1 x2 q1) z_F ((jn 0), I)).bind fun q7 => (if z_in ((jn 4)) 173 then (if z_in ((jn 4)) 173 then some ((q3, (ev_u2 q7.2 242 (z_n ((jn 4))) ((q7.2 242 (z_n ((jn 4)))) + (jn 1))))) else none) else none))))
/-- FlagLaundryModel.washes(II)I -/
theorem t_M_washes {G : z_G} {w : ev_W} (ok : z_Ok G w) {x1 : Int32} {x2 : Int32} {I : z_H} {r : Int32 × z_H} (h : d_M_washes x1 x2 I = some r) : z_K G 264 [.ref (241), .int (x1), .int (x2)] (z_w w I) (.inl (some (.int r.1))) (z_w w r.2) := by
  refine z_con ok.1 (ml := 6) (by decide +kernel) rfl rfl ?_
  show z_R G 264 0 [some (.ref (241)), some (.int (x1)), some (.int (x2)), none, none, none] [] (z_w w I) (.inl (some (.int r.1))) (z_w w r.2)
  unfold d_M_washes at h
  have hB : z_all [z_is 264 0 (zf_aload 0 0 1), z_is 264 1 (zf_iload 1 1 2), z_is 264 2 (zf_iload 2 2 3), z_is 264 3 (zf_cv 3 258 2 8 6), z_is 264 6 (zf_istore 6 3 7), z_is 264 7 (zf_aload 7 0 8), z_is 264 8 (zf_iload 8 1 9), z_is 264 9 (zf_iload 9 2 10), z_is 264 10 (zf_cv 10 260 2 8 13), z_is 264 13 (zf_istore 13 4 15), z_is 264 15 (zf_cst 15 (jn 0) 16), z_is 264 16 (zf_istore 16 5 18)] = true := by decide +kernel
  refine z_aload hB rfl (fun hB => ?_)
  refine z_iload hB rfl (fun hB => ?_)
  refine z_iload hB rfl (fun hB => ?_)
  obtain ⟨q1, e2, h⟩ := z_bind h
  refine y_cv ok hB (as := [.int (x1), .int (x2)]) (a := 241) (rest := []) rfl rfl rfl (by decide +kernel) (t_M_runningIn (I := I) ok e2) (fun hB => ?_)
  refine z_istore hB rfl rfl (fun hB => ?_)
  refine z_aload hB rfl (fun hB => ?_)
  refine z_iload hB rfl (fun hB => ?_)
  refine z_iload hB rfl (fun hB => ?_)
  obtain ⟨q3, e4, h⟩ := z_bind h
  refine y_cv ok hB (as := [.int (x1), .int (x2)]) (a := 241) (rest := []) rfl rfl rfl (by decide +kernel) (t_M_stainedBy (I := I) ok e4) (fun hB => ?_)
  refine z_istore hB rfl rfl (fun hB => ?_)
  refine z_cst hB (fun hB => ?_)
  refine z_istore hB rfl rfl (fun hB => ?_)
  obtain ⟨q7, e8, h⟩ := z_bind h
  have k9 : z_R G 264 54 [some (.ref (241)), none, none, none, some (.int (q3)), none] [] (z_w w q7.2) (.inl (some (.int r.1))) (z_w w r.2) := by
    have hB : z_all [z_is 264 54 (zf_aload 54 0 55), z_is 264 55 (zf_getr 55 8 1 58), z_is 264 58 (zf_cst 58 (jn 4) 59), z_is 264 59 (zf_dup2 59 60), z_is 264 60 (zf_iald 60 61), z_is 264 61 (zf_cst 61 (jn 1) 62), z_is 264 62 (zf_iadd 62 63), z_is 264 63 (zf_iast 63 64), z_is 264 64 (zf_iload 64 4 66), z_is 264 66 (zf_ret 0)] = true := by decide +kernel
    refine z_aload hB rfl (fun hB => ?_)
    refine y_getr (b := 242) ok hB (by decide +kernel) (by decide +kernel) (fun hB => ?_)
    refine z_cst hB (fun hB => ?_)
    refine z_dup2 hB (fun hB => ?_)
    obtain ⟨g10, h⟩ := z_gd h
    refine y_iald ok hB (by decide +kernel) (by decide +kernel) g10 (fun hB => ?_)
    refine z_cst hB (fun hB => ?_)
    refine z_iadd hB (fun hB => ?_)
    obtain ⟨g11, h⟩ := z_gd h
    refine y_iast ok hB (by decide +kernel) (by decide +kernel) g11 (fun hB => ?_)
    refine z_iload hB rfl (fun hB => ?_)
    cases h
    exact z_reti hB
  have l6 : ∀ (m6 : Nat) (p5 : Int32 × z_H), z_it (d_M_washes_6 x1 x2 q1) m6 p5 = some q7 → z_R G 264 18 [some (.ref (241)), some (.int (x1)), some (.int (x2)), some (.int (q1)), some (.int (q3)), some (.int (p5.1))] [] (z_w w p5.2) (.inl (some (.int r.1))) (z_w w r.2) := by
    intro m6
    induction m6 with
    | zero => intro p5 h; cases h
    | succ m6 i6 =>
      intro p5 h
      obtain ⟨u6, h, b6⟩ := z_it_o h
      unfold d_M_washes_6 at h
      have hB : z_all [z_is 264 18 (zf_iload 18 5 20), z_is 264 20 (zf_aload 20 0 21), z_is 264 21 (zf_getr 21 8 1 24), z_is 264 24 (zf_cst 24 (jn 10) 26), z_is 264 26 (zf_iald 26 27), z_is 264 27 (zf_if2 .ge 27 54 30)] = true := by decide +kernel
      refine z_iload hB rfl (fun hB => ?_)
      refine z_aload hB rfl (fun hB => ?_)
      refine y_getr (b := 242) ok hB (by decide +kernel) (by decide +kernel) (fun hB => ?_)
      refine z_cst hB (fun hB => ?_)
      obtain ⟨g12, h⟩ := z_gd h
      refine y_iald ok hB (by decide +kernel) (by decide +kernel) g12 (fun hB => ?_)
      refine z_ic_ge hB (fun hc _ => ?_) (fun hc _ => ?_)
      · have h := z_neg hc h
        cases h
        cases b6
        exact z_weak k9 (z_se (z_sn (z_sn (z_sn (z_se (z_sn z_s0))))))
      · have h := z_pos hc h
        have hB : z_all [z_is 264 30 (zf_aload 30 0 31), z_is 264 31 (zf_iload 31 5 33), z_is 264 33 (zf_iload 33 1 34), z_is 264 34 (zf_cv 34 246 2 8 37), z_is 264 37 (zf_if1 .eq 37 48 40)] = true := by decide +kernel
        refine z_aload hB rfl (fun hB => ?_)
        refine z_iload hB rfl (fun hB => ?_)
        refine z_iload hB rfl (fun hB => ?_)
        obtain ⟨q13, e14, h⟩ := z_bind h
        refine y_cv ok hB (as := [.int (p5.1), .int (x1)]) (a := 241) (rest := []) rfl rfl rfl (by decide +kernel) (t_M_isInTub (I := p5.2) ok e14) (fun hB => ?_)
        obtain ⟨q15, e16, h⟩ := z_bind h
        have k17 : z_R G 264 48 [some (.ref (241)), some (.int (x1)), some (.int (x2)), some (.int (q1)), some (.int (q3)), some (.int (p5.1))] [] (z_w w q15) (.inl (some (.int r.1))) (z_w w r.2) := by
          have hB : z_all [z_is 264 48 (zf_iinc 48 5 (jn 1) 51), z_is 264 51 (zf_goto 51 18)] = true := by decide +kernel
          refine z_iinc hB rfl rfl (fun hB => ?_)
          refine z_goto hB (fun hB => ?_)
          cases h
          exact z_weak (i6 ((p5.1 + (jn 1)), q15) b6) (z_se (z_se (z_se (z_se (z_se (z_se z_s0))))))
        have h := e16
        refine z_if_eq hB (fun hc _ => ?_) (fun hc _ => ?_)
        · have h := z_pos hc h
          cases h
          exact z_weak k17 (z_se (z_se (z_se (z_se (z_se (z_se z_s0))))))
        · have h := z_neg hc h
          have hB : z_all [z_is 264 40 (zf_aload 40 0 41), z_is 264 41 (zf_iload 41 5 43), z_is 264 43 (zf_iload 43 3 44), z_is 264 44 (zf_iload 44 2 45), z_is 264 45 (zf_cv 45 263 3 8 48)] = true := by decide +kernel
          refine z_aload hB rfl (fun hB => ?_)
          refine z_iload hB rfl (fun hB => ?_)
          refine z_iload hB rfl (fun hB => ?_)
          refine z_iload hB rfl (fun hB => ?_)
          obtain ⟨q18, e19, h⟩ := z_bind h
          refine y_cv ok hB (as := [.int (p5.1), .int (q1), .int (x2)]) (a := 241) (rest := []) rfl rfl rfl (by decide +kernel) (t_M_isWashed (I := p5.2) ok e19) (fun hB => ?_)
          cases h
          exact z_weak k17 (z_se (z_se (z_se (z_se (z_se (z_se z_s0))))))
  exact z_weak (l6 _ ((jn 0), I) e8) (z_se (z_se (z_se (z_se (z_se (z_se z_s0))))))
def d_M_readsWash  (I : z_H) : Option (z_H) := ((d_M_goes I).bind fun q1 => (if z_in ((jn 8)) 173 then ((d_M_number ((jn 0)) (((q1 242 (z_n ((jn 8)))) - (jn 1))) q1).bind fun q4 => ((d_M_numberHere ((jn 0)) ((jn 3)) q4.2).bind fun q6 => (Option.bind (α := z_H) (if (q6.2 241 10) = jn 0 then ((d_M_whyWash (q4.1) (q6.1) q6.2).bind fun q15 => (if q15 = jn 0 then some (q6.2) else ((d_M_faults ((jn 3)) q6.2).bind fun q17 => some (q17)))) else some (q6.2)) fun q8 => (if jn 0 < (q8 241 10) then some (q8) else ((d_M_washes (q4.1) (q6.1) q8).bind fun q11 => ((d_M_goes q11.2).bind fun q13 => some (q13))))))) else none))
/-- FlagLaundryModel.readsWash()V -/
theorem t_M_readsWash {G : z_G} {w : ev_W} (ok : z_Ok G w) {I : z_H} {r : z_H} (h : d_M_readsWash I = some r) : z_K G 232 [.ref (241)] (z_w w I) (.inl none) (z_w w r) := by
  refine z_con ok.1 (ml := 4) (by decide +kernel) rfl rfl ?_
  show z_R G 232 0 [some (.ref (241)), none, none, none] [] (z_w w I) (.inl none) (z_w w r)
  unfold d_M_readsWash at h
  have hB : z_all [z_is 232 0 (zf_aload 0 0 1), z_is 232 1 (zf_cv 1 219 0 8 4), z_is 232 4 (zf_aload 4 0 5), z_is 232 5 (zf_cst 5 (jn 0) 6), z_is 232 6 (zf_aload 6 0 7), z_is 232 7 (zf_getr 7 8 1 10), z_is 232 10 (zf_cst 10 (jn 8) 12), z_is 232 12 (zf_iald 12 13), z_is 232 13 (zf_cst 13 (jn 1) 14), z_is 232 14 (zf_isub 14 15), z_is 232 15 (zf_cv 15 224 2 8 18), z_is 232 18 (zf_istore 18 1 19), z_is 232 19 (zf_aload 19 0 20), z_is 232 20 (zf_cst 20 (jn 0) 21), z_is 232 21 (zf_cst 21 (jn 3) 22), z_is 232 22 (zf_cv 22 223 2 8 25), z_is 232 25 (zf_istore 25 2 26), z_is 232 26 (zf_aload 26 0 27), z_is 232 27 (zf_geti 27 8 10 30), z_is 232 30 (zf_if1 .ne 30 47 33)] = true := by decide +kernel
  refine z_aload hB rfl (fun hB => ?_)
  obtain ⟨q1, e2, h⟩ := z_bind h
  refine y_cv ok hB (as := []) (a := 241) (rest := []) rfl rfl rfl (by decide +kernel) (t_M_goes (I := I) ok e2) (fun hB => ?_)
  refine z_aload hB rfl (fun hB => ?_)
  refine z_cst hB (fun hB => ?_)
  refine z_aload hB rfl (fun hB => ?_)
  refine y_getr (b := 242) ok hB (by decide +kernel) (by decide +kernel) (fun hB => ?_)
  refine z_cst hB (fun hB => ?_)
  obtain ⟨g3, h⟩ := z_gd h
  refine y_iald ok hB (by decide +kernel) (by decide +kernel) g3 (fun hB => ?_)
  refine z_cst hB (fun hB => ?_)
  refine z_isub hB (fun hB => ?_)
  obtain ⟨q4, e5, h⟩ := z_bind h
  refine y_cv ok hB (as := [.int ((jn 0)), .int (((q1 242 (z_n ((jn 8)))) - (jn 1)))]) (a := 241) (rest := []) rfl rfl rfl (by decide +kernel) (t_M_number (I := q1) ok e5) (fun hB => ?_)
  refine z_istore hB rfl rfl (fun hB => ?_)
  refine z_aload hB rfl (fun hB => ?_)
  refine z_cst hB (fun hB => ?_)
  refine z_cst hB (fun hB => ?_)
  obtain ⟨q6, e7, h⟩ := z_bind h
  refine y_cv ok hB (as := [.int ((jn 0)), .int ((jn 3))]) (a := 241) (rest := []) rfl rfl rfl (by decide +kernel) (t_M_numberHere (I := q4.2) ok e7) (fun hB => ?_)
  refine z_istore hB rfl rfl (fun hB => ?_)
  refine z_aload hB rfl (fun hB => ?_)
  refine y_geti ok hB (by decide +kernel) (fun hB => ?_)
  obtain ⟨q8, e9, h⟩ := z_bind h
  have k10 : z_R G 232 47 [some (.ref (241)), some (.int (q4.1)), some (.int (q6.1)), none] [] (z_w w q8) (.inl none) (z_w w r) := by
    have hB : z_all [z_is 232 47 (zf_aload 47 0 48), z_is 232 48 (zf_geti 48 8 10 51), z_is 232 51 (zf_if1 .le 51 55 54)] = true := by decide +kernel
    refine z_aload hB rfl (fun hB => ?_)
    refine y_geti ok hB (by decide +kernel) (fun hB => ?_)
    refine z_if_le hB (fun hc _ => ?_) (fun hc _ => ?_)
    · have h := z_neg hc h
      have hB : z_all [z_is 232 55 (zf_aload 55 0 56), z_is 232 56 (zf_iload 56 1 57), z_is 232 57 (zf_iload 57 2 58), z_is 232 58 (zf_cv 58 264 2 8 61), z_is 232 61 (zf_istore 61 3 62), z_is 232 62 (zf_aload 62 0 63), z_is 232 63 (zf_cv 63 219 0 8 66), z_is 232 66 (zf_ret 6)] = true := by decide +kernel
      refine z_aload hB rfl (fun hB => ?_)
      refine z_iload hB rfl (fun hB => ?_)
      refine z_iload hB rfl (fun hB => ?_)
      obtain ⟨q11, e12, h⟩ := z_bind h
      refine y_cv ok hB (as := [.int (q4.1), .int (q6.1)]) (a := 241) (rest := []) rfl rfl rfl (by decide +kernel) (t_M_washes (I := q8) ok e12) (fun hB => ?_)
      refine z_istore hB rfl rfl (fun hB => ?_)
      refine z_aload hB rfl (fun hB => ?_)
      obtain ⟨q13, e14, h⟩ := z_bind h
      refine y_cv ok hB (as := []) (a := 241) (rest := []) rfl rfl rfl (by decide +kernel) (t_M_goes (I := q11.2) ok e14) (fun hB => ?_)
      cases h
      exact z_retv hB
    · have h := z_pos hc h
      have hB : z_all [z_is 232 54 (zf_ret 6)] = true := by decide +kernel
      cases h
      exact z_retv hB
  have h := e9
  refine z_if_ne hB (fun hc _ => ?_) (fun hc _ => ?_)
  · have h := z_neg hc h
    cases h
    exact z_weak k10 (z_se (z_se (z_se (z_sn z_s0))))
  · have h := z_pos hc h
    have hB : z_all [z_is 232 33 (zf_aload 33 0 34), z_is 232 34 (zf_iload 34 1 35), z_is 232 35 (zf_iload 35 2 36), z_is 232 36 (zf_cv 36 255 2 8 39), z_is 232 39 (zf_if1 .eq 39 47 42)] = true := by decide +kernel
    refine z_aload hB rfl (fun hB => ?_)
    refine z_iload hB rfl (fun hB => ?_)
    refine z_iload hB rfl (fun hB => ?_)
    obtain ⟨q15, e16, h⟩ := z_bind h
    refine y_cv ok hB (as := [.int (q4.1), .int (q6.1)]) (a := 241) (rest := []) rfl rfl rfl (by decide +kernel) (t_M_whyWash (I := q6.2) ok e16) (fun hB => ?_)
    refine z_if_eq hB (fun hc _ => ?_) (fun hc _ => ?_)
    · have h := z_pos hc h
      cases h
      exact z_weak k10 (z_se (z_se (z_se (z_sn z_s0))))
    · have h := z_neg hc h
      have hB : z_all [z_is 232 42 (zf_aload 42 0 43), z_is 232 43 (zf_cst 43 (jn 3) 44), z_is 232 44 (zf_cv 44 220 1 8 47)] = true := by decide +kernel
      refine z_aload hB rfl (fun hB => ?_)
      refine z_cst hB (fun hB => ?_)
      obtain ⟨q17, e18, h⟩ := z_bind h
      refine y_cv ok hB (as := [.int ((jn 3))]) (a := 241) (rest := []) rfl rfl rfl (by decide +kernel) (t_M_faults (I := q6.2) ok e18) (fun hB => ?_)
      cases h
      exact z_weak k10 (z_se (z_se (z_se (z_sn z_s0))))
def d_M_flagOn_2 (x1 : Int32) (I : z_H) (p1 : Int32) : Option ((Int32) ⊕ (Int32)) := (if z_in ((jn 10)) 173 then (if p1 < (I 242 (z_n ((jn 10)))) then ((d_M_where (p1) I).bind fun q4 => (if q4 = (jn 2) then ((d_M_ofFlag (p1) ((jn 9)) I).bind fun q6 => (if q6 = x1 then some (Sum.inr (p1)) else some (Sum.inl ((p1 + (jn 1)))))) else some (Sum.inl ((p1 + (jn 1)))))) else some (Sum.inr ((jg 1)))) else none)
def d_M_flagOn (x1 : Int32) (I : z_H) : Option (Int32) := (z_it (d_M_flagOn_2 x1 I) z_F ((jn 0)))
/-- FlagLaundryModel.flagOn(I)I -/
theorem t_M_flagOn {G : z_G} {w : ev_W} (ok : z_Ok G w) {x1 : Int32} {I : z_H} {r : Int32} (h : d_M_flagOn x1 I = some r) : z_K G 265 [.ref (241), .int (x1)] (z_w w I) (.inl (some (.int r))) (z_w w I) := by
  refine z_con ok.1 (ml := 3) (by decide +kernel) rfl rfl ?_
  show z_R G 265 0 [some (.ref (241)), some (.int (x1)), none] [] (z_w w I) (.inl (some (.int r))) (z_w w I)
  unfold d_M_flagOn at h
  have hB : z_all [z_is 265 0 (zf_cst 0 (jn 0) 1), z_is 265 1 (zf_istore 1 2 2)] = true := by decide +kernel
  refine z_cst hB (fun hB => ?_)
  refine z_istore hB rfl rfl (fun hB => ?_)
  have l2 : ∀ (m2 : Nat) (p1 : Int32), z_it (d_M_flagOn_2 x1 I) m2 p1 = some r → z_R G 265 2 [some (.ref (241)), some (.int (x1)), some (.int (p1))] [] (z_w w I) (.inl (some (.int r))) (z_w w I) := by
    intro m2
    induction m2 with
    | zero => intro p1 h; cases h
    | succ m2 i2 =>
      intro p1 h
      obtain ⟨u2, h, b2⟩ := z_it_o h
      unfold d_M_flagOn_2 at h
      have hB : z_all [z_is 265 2 (zf_iload 2 2 3), z_is 265 3 (zf_aload 3 0 4), z_is 265 4 (zf_getr 4 8 1 7), z_is 265 7 (zf_cst 7 (jn 10) 9), z_is 265 9 (zf_iald 9 10), z_is 265 10 (zf_if2 .ge 10 41 13)] = true := by decide +kernel
      refine z_iload hB rfl (fun hB => ?_)
      refine z_aload hB rfl (fun hB => ?_)
      refine y_getr (b := 242) ok hB (by decide +kernel) (by decide +kernel) (fun hB => ?_)
      refine z_cst hB (fun hB => ?_)
      obtain ⟨g3, h⟩ := z_gd h
      refine y_iald ok hB (by decide +kernel) (by decide +kernel) g3 (fun hB => ?_)
      refine z_ic_ge hB (fun hc _ => ?_) (fun hc _ => ?_)
      · have h := z_neg hc h
        have hB : z_all [z_is 265 41 (zf_cst 41 (jg 1) 42), z_is 265 42 (zf_ret 0)] = true := by decide +kernel
        refine z_cst hB (fun hB => ?_)
        cases h
        cases b2
        exact z_reti hB
      · have h := z_pos hc h
        have hB : z_all [z_is 265 13 (zf_aload 13 0 14), z_is 265 14 (zf_iload 14 2 15), z_is 265 15 (zf_cv 15 244 1 8 18), z_is 265 18 (zf_cst 18 (jn 2) 19), z_is 265 19 (zf_if2 .ne 19 35 22)] = true := by decide +kernel
        refine z_aload hB rfl (fun hB => ?_)
        refine z_iload hB rfl (fun hB => ?_)
        obtain ⟨q4, e5, h⟩ := z_bind h
        refine y_cv ok hB (as := [.int (p1)]) (a := 241) (rest := []) rfl rfl rfl (by decide +kernel) (t_M_where (I := I) ok e5) (fun hB => ?_)
        refine z_cst hB (fun hB => ?_)
        refine z_ic_ne hB (fun hc _ => ?_) (fun hc _ => ?_)
        · have h := z_neg hc h
          have hB : z_all [z_is 265 35 (zf_iinc 35 2 (jn 1) 38), z_is 265 38 (zf_goto 38 2)] = true := by decide +kernel
          refine z_iinc hB rfl rfl (fun hB => ?_)
          refine z_goto hB (fun hB => ?_)
          cases h
          exact z_weak (i2 ((p1 + (jn 1))) b2) (z_se (z_se (z_se z_s0)))
        · have h := z_pos hc h
          have hB : z_all [z_is 265 22 (zf_aload 22 0 23), z_is 265 23 (zf_iload 23 2 24), z_is 265 24 (zf_cst 24 (jn 9) 26), z_is 265 26 (zf_cv 26 242 2 8 29), z_is 265 29 (zf_iload 29 1 30), z_is 265 30 (zf_if2 .ne 30 35 33)] = true := by decide +kernel
          refine z_aload hB rfl (fun hB => ?_)
          refine z_iload hB rfl (fun hB => ?_)
          refine z_cst hB (fun hB => ?_)
          obtain ⟨q6, e7, h⟩ := z_bind h
          refine y_cv ok hB (as := [.int (p1), .int ((jn 9))]) (a := 241) (rest := []) rfl rfl rfl (by decide +kernel) (t_M_ofFlag (I := I) ok e7) (fun hB => ?_)
          refine z_iload hB rfl (fun hB => ?_)
          refine z_ic_ne hB (fun hc _ => ?_) (fun hc _ => ?_)
          · have h := z_neg hc h
            have hB : z_all [z_is 265 35 (zf_iinc 35 2 (jn 1) 38), z_is 265 38 (zf_goto 38 2)] = true := by decide +kernel
            refine z_iinc hB rfl rfl (fun hB => ?_)
            refine z_goto hB (fun hB => ?_)
            cases h
            exact z_weak (i2 ((p1 + (jn 1))) b2) (z_se (z_se (z_se z_s0)))
          · have h := z_pos hc h
            have hB : z_all [z_is 265 33 (zf_iload 33 2 34), z_is 265 34 (zf_ret 0)] = true := by decide +kernel
            refine z_iload hB rfl (fun hB => ?_)
            cases h
            cases b2
            exact z_reti hB
  exact z_weak (l2 _ ((jn 0)) h) (z_se (z_se (z_se z_s0)))
def d_M_freePeg_2 (I : z_H) (p1 : Int32) : Option ((Int32) ⊕ (Int32)) := (if z_in ((jn 9)) 173 then (if p1 < (I 242 (z_n ((jn 9)))) then ((d_M_flagOn (p1) I).bind fun q4 => (if q4 = (jg 1) then some (Sum.inr (p1)) else some (Sum.inl ((p1 + (jn 1)))))) else some (Sum.inr ((jg 1)))) else none)
def d_M_freePeg  (I : z_H) : Option (Int32) := (z_it (d_M_freePeg_2 I) z_F ((jn 0)))
/-- FlagLaundryModel.freePeg()I -/
theorem t_M_freePeg {G : z_G} {w : ev_W} (ok : z_Ok G w) {I : z_H} {r : Int32} (h : d_M_freePeg I = some r) : z_K G 266 [.ref (241)] (z_w w I) (.inl (some (.int r))) (z_w w I) := by
  refine z_con ok.1 (ml := 2) (by decide +kernel) rfl rfl ?_
  show z_R G 266 0 [some (.ref (241)), none] [] (z_w w I) (.inl (some (.int r))) (z_w w I)
  unfold d_M_freePeg at h
  have hB : z_all [z_is 266 0 (zf_cst 0 (jn 0) 1), z_is 266 1 (zf_istore 1 1 2)] = true := by decide +kernel
  refine z_cst hB (fun hB => ?_)
  refine z_istore hB rfl rfl (fun hB => ?_)
  have l2 : ∀ (m2 : Nat) (p1 : Int32), z_it (d_M_freePeg_2 I) m2 p1 = some r → z_R G 266 2 [some (.ref (241)), some (.int (p1))] [] (z_w w I) (.inl (some (.int r))) (z_w w I) := by
    intro m2
    induction m2 with
    | zero => intro p1 h; cases h
    | succ m2 i2 =>
      intro p1 h
      obtain ⟨u2, h, b2⟩ := z_it_o h
      unfold d_M_freePeg_2 at h
      have hB : z_all [z_is 266 2 (zf_iload 2 1 3), z_is 266 3 (zf_aload 3 0 4), z_is 266 4 (zf_getr 4 8 1 7), z_is 266 7 (zf_cst 7 (jn 9) 9), z_is 266 9 (zf_iald 9 10), z_is 266 10 (zf_if2 .ge 10 30 13)] = true := by decide +kernel
      refine z_iload hB rfl (fun hB => ?_)
      refine z_aload hB rfl (fun hB => ?_)
      refine y_getr (b := 242) ok hB (by decide +kernel) (by decide +kernel) (fun hB => ?_)
      refine z_cst hB (fun hB => ?_)
      obtain ⟨g3, h⟩ := z_gd h
      refine y_iald ok hB (by decide +kernel) (by decide +kernel) g3 (fun hB => ?_)
      refine z_ic_ge hB (fun hc _ => ?_) (fun hc _ => ?_)
      · have h := z_neg hc h
        have hB : z_all [z_is 266 30 (zf_cst 30 (jg 1) 31), z_is 266 31 (zf_ret 0)] = true := by decide +kernel
        refine z_cst hB (fun hB => ?_)
        cases h
        cases b2
        exact z_reti hB
      · have h := z_pos hc h
        have hB : z_all [z_is 266 13 (zf_aload 13 0 14), z_is 266 14 (zf_iload 14 1 15), z_is 266 15 (zf_cv 15 265 1 8 18), z_is 266 18 (zf_cst 18 (jg 1) 19), z_is 266 19 (zf_if2 .ne 19 24 22)] = true := by decide +kernel
        refine z_aload hB rfl (fun hB => ?_)
        refine z_iload hB rfl (fun hB => ?_)
        obtain ⟨q4, e5, h⟩ := z_bind h
        refine y_cv ok hB (as := [.int (p1)]) (a := 241) (rest := []) rfl rfl rfl (by decide +kernel) (t_M_flagOn (I := I) ok e5) (fun hB => ?_)
        refine z_cst hB (fun hB => ?_)
        refine z_ic_ne hB (fun hc _ => ?_) (fun hc _ => ?_)
        · have h := z_neg hc h
          have hB : z_all [z_is 266 24 (zf_iinc 24 1 (jn 1) 27), z_is 266 27 (zf_goto 27 2)] = true := by decide +kernel
          refine z_iinc hB rfl rfl (fun hB => ?_)
          refine z_goto hB (fun hB => ?_)
          cases h
          exact z_weak (i2 ((p1 + (jn 1))) b2) (z_se (z_se z_s0))
        · have h := z_pos hc h
          have hB : z_all [z_is 266 22 (zf_iload 22 1 23), z_is 266 23 (zf_ret 0)] = true := by decide +kernel
          refine z_iload hB rfl (fun hB => ?_)
          cases h
          cases b2
          exact z_reti hB
  exact z_weak (l2 _ ((jn 0)) h) (z_se (z_se z_s0))
def d_M_canHang (x1 : Int32) (I : z_H) : Option (Int32) := ((d_M_isInBasket (x1) I).bind fun q1 => (Option.bind (α := Int32) (if q1 = jn 0 then some ((jn 0)) else ((d_M_freePeg I).bind fun q7 => (if q7 = (jg 1) then some ((jn 0)) else some ((jn 1))))) fun q3 => (if (q3) = jn 0 ∨ (q3) = jn 1 then some (q3) else none)))
/-- FlagLaundryModel.canHang(I)Z -/
theorem t_M_canHang {G : z_G} {w : ev_W} (ok : z_Ok G w) {x1 : Int32} {I : z_H} {r : Int32} (h : d_M_canHang x1 I = some r) : z_K G 267 [.ref (241), .int (x1)] (z_w w I) (.inl (some (.int r))) (z_w w I) := by
  refine z_con ok.1 (ml := 2) (by decide +kernel) rfl rfl ?_
  show z_R G 267 0 [some (.ref (241)), some (.int (x1))] [] (z_w w I) (.inl (some (.int r))) (z_w w I)
  unfold d_M_canHang at h
  have hB : z_all [z_is 267 0 (zf_aload 0 0 1), z_is 267 1 (zf_iload 1 1 2), z_is 267 2 (zf_cv 2 245 1 8 5), z_is 267 5 (zf_if1 .eq 5 20 8)] = true := by decide +kernel
  refine z_aload hB rfl (fun hB => ?_)
  refine z_iload hB rfl (fun hB => ?_)
  obtain ⟨q1, e2, h⟩ := z_bind h
  refine y_cv ok hB (as := [.int (x1)]) (a := 241) (rest := []) rfl rfl rfl (by decide +kernel) (t_M_isInBasket (I := I) ok e2) (fun hB => ?_)
  obtain ⟨q3, e4, h⟩ := z_bind h
  have k5 : z_R G 267 21 [none, none] [.int (q3)] (z_w w I) (.inl (some (.int r))) (z_w w I) := by
    have hB : z_all [z_is 267 21 (zf_ret 1)] = true := by decide +kernel
    obtain ⟨g6, h⟩ := z_gd h
    cases h
    exact z_retz hB g6
  have h := e4
  refine z_if_eq hB (fun hc _ => ?_) (fun hc _ => ?_)
  · have h := z_pos hc h
    have hB : z_all [z_is 267 20 (zf_cst 20 (jn 0) 21)] = true := by decide +kernel
    refine z_cst hB (fun hB => ?_)
    cases h
    exact z_weak k5 (z_sn (z_sn z_s0))
  · have h := z_neg hc h
    have hB : z_all [z_is 267 8 (zf_aload 8 0 9), z_is 267 9 (zf_cv 9 266 0 8 12), z_is 267 12 (zf_cst 12 (jg 1) 13), z_is 267 13 (zf_if2 .eq 13 20 16)] = true := by decide +kernel
    refine z_aload hB rfl (fun hB => ?_)
    obtain ⟨q7, e8, h⟩ := z_bind h
    refine y_cv ok hB (as := []) (a := 241) (rest := []) rfl rfl rfl (by decide +kernel) (t_M_freePeg (I := I) ok e8) (fun hB => ?_)
    refine z_cst hB (fun hB => ?_)
    refine z_ic_eq hB (fun hc _ => ?_) (fun hc _ => ?_)
    · have h := z_pos hc h
      have hB : z_all [z_is 267 20 (zf_cst 20 (jn 0) 21)] = true := by decide +kernel
      refine z_cst hB (fun hB => ?_)
      cases h
      exact z_weak k5 (z_sn (z_sn z_s0))
    · have h := z_neg hc h
      have hB : z_all [z_is 267 16 (zf_cst 16 (jn 1) 17), z_is 267 17 (zf_goto 17 21)] = true := by decide +kernel
      refine z_cst hB (fun hB => ?_)
      refine z_goto hB (fun hB => ?_)
      cases h
      exact z_weak k5 (z_sn (z_sn z_s0))
def d_M_hangs (x1 : Int32) (I : z_H) : Option (z_H) := ((d_M_freePeg I).bind fun q1 => ((d_M_goesTo (x1) ((jn 2)) (q1) I).bind fun q3 => some (q3)))
/-- FlagLaundryModel.hangs(I)V -/
theorem t_M_hangs {G : z_G} {w : ev_W} (ok : z_Ok G w) {x1 : Int32} {I : z_H} {r : z_H} (h : d_M_hangs x1 I = some r) : z_K G 268 [.ref (241), .int (x1)] (z_w w I) (.inl none) (z_w w r) := by
  refine z_con ok.1 (ml := 2) (by decide +kernel) rfl rfl ?_
  show z_R G 268 0 [some (.ref (241)), some (.int (x1))] [] (z_w w I) (.inl none) (z_w w r)
  unfold d_M_hangs at h
  have hB : z_all [z_is 268 0 (zf_aload 0 0 1), z_is 268 1 (zf_iload 1 1 2), z_is 268 2 (zf_cst 2 (jn 2) 3), z_is 268 3 (zf_aload 3 0 4), z_is 268 4 (zf_cv 4 266 0 8 7), z_is 268 7 (zf_cv 7 247 3 8 10), z_is 268 10 (zf_ret 6)] = true := by decide +kernel
  refine z_aload hB rfl (fun hB => ?_)
  refine z_iload hB rfl (fun hB => ?_)
  refine z_cst hB (fun hB => ?_)
  refine z_aload hB rfl (fun hB => ?_)
  obtain ⟨q1, e2, h⟩ := z_bind h
  refine y_cv ok hB (as := []) (a := 241) (rest := [.int ((jn 2)), .int (x1), .ref (241)]) rfl rfl rfl (by decide +kernel) (t_M_freePeg (I := I) ok e2) (fun hB => ?_)
  obtain ⟨q3, e4, h⟩ := z_bind h
  refine y_cv ok hB (as := [.int (x1), .int ((jn 2)), .int (q1)]) (a := 241) (rest := []) rfl rfl rfl (by decide +kernel) (t_M_goesTo (I := I) ok e4) (fun hB => ?_)
  cases h
  exact z_retv hB
def d_M_readsHang  (I : z_H) : Option (z_H) := ((d_M_goes I).bind fun q1 => (if z_in ((jn 10)) 173 then ((d_M_numberHere ((jn 0)) (((q1 242 (z_n ((jn 10)))) - (jn 1))) q1).bind fun q4 => (Option.bind (α := z_H) (if (q4.2 241 10) = jn 0 then ((d_M_canHang (q4.1) q4.2).bind fun q16 => (if q16 = jn 0 then ((d_M_faults ((jn 3)) q4.2).bind fun q18 => some (q18)) else some (q4.2))) else some (q4.2)) fun q6 => (Option.bind (α := z_H) (if (q6 241 10) = jn 0 then ((d_M_hangs (q4.1) q6).bind fun q14 => some (q14)) else some (q6)) fun q9 => ((d_M_goes q9).bind fun q12 => some (q12))))) else none))
/-- FlagLaundryModel.readsHang()V -/
theorem t_M_readsHang {G : z_G} {w : ev_W} (ok : z_Ok G w) {I : z_H} {r : z_H} (h : d_M_readsHang I = some r) : z_K G 233 [.ref (241)] (z_w w I) (.inl none) (z_w w r) := by
  refine z_con ok.1 (ml := 2) (by decide +kernel) rfl rfl ?_
  show z_R G 233 0 [some (.ref (241)), none] [] (z_w w I) (.inl none) (z_w w r)
  unfold d_M_readsHang at h
  have hB : z_all [z_is 233 0 (zf_aload 0 0 1), z_is 233 1 (zf_cv 1 219 0 8 4), z_is 233 4 (zf_aload 4 0 5), z_is 233 5 (zf_cst 5 (jn 0) 6), z_is 233 6 (zf_aload 6 0 7), z_is 233 7 (zf_getr 7 8 1 10), z_is 233 10 (zf_cst 10 (jn 10) 12), z_is 233 12 (zf_iald 12 13), z_is 233 13 (zf_cst 13 (jn 1) 14), z_is 233 14 (zf_isub 14 15), z_is 233 15 (zf_cv 15 223 2 8 18), z_is 233 18 (zf_istore 18 1 19), z_is 233 19 (zf_aload 19 0 20), z_is 233 20 (zf_geti 20 8 10 23), z_is 233 23 (zf_if1 .ne 23 39 26)] = true := by decide +kernel
  refine z_aload hB rfl (fun hB => ?_)
  obtain ⟨q1, e2, h⟩ := z_bind h
  refine y_cv ok hB (as := []) (a := 241) (rest := []) rfl rfl rfl (by decide +kernel) (t_M_goes (I := I) ok e2) (fun hB => ?_)
  refine z_aload hB rfl (fun hB => ?_)
  refine z_cst hB (fun hB => ?_)
  refine z_aload hB rfl (fun hB => ?_)
  refine y_getr (b := 242) ok hB (by decide +kernel) (by decide +kernel) (fun hB => ?_)
  refine z_cst hB (fun hB => ?_)
  obtain ⟨g3, h⟩ := z_gd h
  refine y_iald ok hB (by decide +kernel) (by decide +kernel) g3 (fun hB => ?_)
  refine z_cst hB (fun hB => ?_)
  refine z_isub hB (fun hB => ?_)
  obtain ⟨q4, e5, h⟩ := z_bind h
  refine y_cv ok hB (as := [.int ((jn 0)), .int (((q1 242 (z_n ((jn 10)))) - (jn 1)))]) (a := 241) (rest := []) rfl rfl rfl (by decide +kernel) (t_M_numberHere (I := q1) ok e5) (fun hB => ?_)
  refine z_istore hB rfl rfl (fun hB => ?_)
  refine z_aload hB rfl (fun hB => ?_)
  refine y_geti ok hB (by decide +kernel) (fun hB => ?_)
  obtain ⟨q6, e7, h⟩ := z_bind h
  have k8 : z_R G 233 39 [some (.ref (241)), some (.int (q4.1))] [] (z_w w q6) (.inl none) (z_w w r) := by
    have hB : z_all [z_is 233 39 (zf_aload 39 0 40), z_is 233 40 (zf_geti 40 8 10 43), z_is 233 43 (zf_if1 .ne 43 51 46)] = true := by decide +kernel
    refine z_aload hB rfl (fun hB => ?_)
    refine y_geti ok hB (by decide +kernel) (fun hB => ?_)
    obtain ⟨q9, e10, h⟩ := z_bind h
    have k11 : z_R G 233 51 [some (.ref (241)), none] [] (z_w w q9) (.inl none) (z_w w r) := by
      have hB : z_all [z_is 233 51 (zf_aload 51 0 52), z_is 233 52 (zf_cv 52 219 0 8 55), z_is 233 55 (zf_ret 6)] = true := by decide +kernel
      refine z_aload hB rfl (fun hB => ?_)
      obtain ⟨q12, e13, h⟩ := z_bind h
      refine y_cv ok hB (as := []) (a := 241) (rest := []) rfl rfl rfl (by decide +kernel) (t_M_goes (I := q9) ok e13) (fun hB => ?_)
      cases h
      exact z_retv hB
    have h := e10
    refine z_if_ne hB (fun hc _ => ?_) (fun hc _ => ?_)
    · have h := z_neg hc h
      cases h
      exact z_weak k11 (z_se (z_sn z_s0))
    · have h := z_pos hc h
      have hB : z_all [z_is 233 46 (zf_aload 46 0 47), z_is 233 47 (zf_iload 47 1 48), z_is 233 48 (zf_cv 48 268 1 8 51)] = true := by decide +kernel
      refine z_aload hB rfl (fun hB => ?_)
      refine z_iload hB rfl (fun hB => ?_)
      obtain ⟨q14, e15, h⟩ := z_bind h
      refine y_cv ok hB (as := [.int (q4.1)]) (a := 241) (rest := []) rfl rfl rfl (by decide +kernel) (t_M_hangs (I := q6) ok e15) (fun hB => ?_)
      cases h
      exact z_weak k11 (z_se (z_sn z_s0))
  have h := e7
  refine z_if_ne hB (fun hc _ => ?_) (fun hc _ => ?_)
  · have h := z_neg hc h
    cases h
    exact z_weak k8 (z_se (z_se z_s0))
  · have h := z_pos hc h
    have hB : z_all [z_is 233 26 (zf_aload 26 0 27), z_is 233 27 (zf_iload 27 1 28), z_is 233 28 (zf_cv 28 267 1 8 31), z_is 233 31 (zf_if1 .ne 31 39 34)] = true := by decide +kernel
    refine z_aload hB rfl (fun hB => ?_)
    refine z_iload hB rfl (fun hB => ?_)
    obtain ⟨q16, e17, h⟩ := z_bind h
    refine y_cv ok hB (as := [.int (q4.1)]) (a := 241) (rest := []) rfl rfl rfl (by decide +kernel) (t_M_canHang (I := q4.2) ok e17) (fun hB => ?_)
    refine z_if_ne hB (fun hc _ => ?_) (fun hc _ => ?_)
    · have h := z_neg hc h
      cases h
      exact z_weak k8 (z_se (z_se z_s0))
    · have h := z_pos hc h
      have hB : z_all [z_is 233 34 (zf_aload 34 0 35), z_is 233 35 (zf_cst 35 (jn 3) 36), z_is 233 36 (zf_cv 36 220 1 8 39)] = true := by decide +kernel
      refine z_aload hB rfl (fun hB => ?_)
      refine z_cst hB (fun hB => ?_)
      obtain ⟨q18, e19, h⟩ := z_bind h
      refine y_cv ok hB (as := [.int ((jn 3))]) (a := 241) (rest := []) rfl rfl rfl (by decide +kernel) (t_M_faults (I := q4.2) ok e19) (fun hB => ?_)
      cases h
      exact z_weak k8 (z_se (z_se z_s0))
def d_M_readsWind  (I : z_H) : Option (z_H) := ((d_M_goes I).bind fun q1 => ((d_M_number ((jn 0)) ((jn 9)) q1).bind fun q3 => (Option.bind (α := z_H) (if (q3.2 241 10) = jn 0 then (if z_in ((jn 1)) 173 then some ((ev_u2 q3.2 242 (z_n ((jn 1))) q3.1)) else none) else some (q3.2)) fun q5 => some (q5))))
/-- FlagLaundryModel.readsWind()V -/
theorem t_M_readsWind {G : z_G} {w : ev_W} (ok : z_Ok G w) {I : z_H} {r : z_H} (h : d_M_readsWind I = some r) : z_K G 234 [.ref (241)] (z_w w I) (.inl none) (z_w w r) := by
  refine z_con ok.1 (ml := 2) (by decide +kernel) rfl rfl ?_
  show z_R G 234 0 [some (.ref (241)), none] [] (z_w w I) (.inl none) (z_w w r)
  unfold d_M_readsWind at h
  have hB : z_all [z_is 234 0 (zf_aload 0 0 1), z_is 234 1 (zf_cv 1 219 0 8 4), z_is 234 4 (zf_aload 4 0 5), z_is 234 5 (zf_cst 5 (jn 0) 6), z_is 234 6 (zf_cst 6 (jn 9) 8), z_is 234 8 (zf_cv 8 224 2 8 11), z_is 234 11 (zf_istore 11 1 12), z_is 234 12 (zf_aload 12 0 13), z_is 234 13 (zf_geti 13 8 10 16), z_is 234 16 (zf_if1 .ne 16 26 19)] = true := by decide +kernel
  refine z_aload hB rfl (fun hB => ?_)
  obtain ⟨q1, e2, h⟩ := z_bind h
  refine y_cv ok hB (as := []) (a := 241) (rest := []) rfl rfl rfl (by decide +kernel) (t_M_goes (I := I) ok e2) (fun hB => ?_)
  refine z_aload hB rfl (fun hB => ?_)
  refine z_cst hB (fun hB => ?_)
  refine z_cst hB (fun hB => ?_)
  obtain ⟨q3, e4, h⟩ := z_bind h
  refine y_cv ok hB (as := [.int ((jn 0)), .int ((jn 9))]) (a := 241) (rest := []) rfl rfl rfl (by decide +kernel) (t_M_number (I := q1) ok e4) (fun hB => ?_)
  refine z_istore hB rfl rfl (fun hB => ?_)
  refine z_aload hB rfl (fun hB => ?_)
  refine y_geti ok hB (by decide +kernel) (fun hB => ?_)
  obtain ⟨q5, e6, h⟩ := z_bind h
  have k7 : z_R G 234 26 [none, none] [] (z_w w q5) (.inl none) (z_w w r) := by
    have hB : z_all [z_is 234 26 (zf_ret 6)] = true := by decide +kernel
    cases h
    exact z_retv hB
  have h := e6
  refine z_if_ne hB (fun hc _ => ?_) (fun hc _ => ?_)
  · have h := z_neg hc h
    cases h
    exact z_weak k7 (z_sn (z_sn z_s0))
  · have h := z_pos hc h
    have hB : z_all [z_is 234 19 (zf_aload 19 0 20), z_is 234 20 (zf_getr 20 8 1 23), z_is 234 23 (zf_cst 23 (jn 1) 24), z_is 234 24 (zf_iload 24 1 25), z_is 234 25 (zf_iast 25 26)] = true := by decide +kernel
    refine z_aload hB rfl (fun hB => ?_)
    refine y_getr (b := 242) ok hB (by decide +kernel) (by decide +kernel) (fun hB => ?_)
    refine z_cst hB (fun hB => ?_)
    refine z_iload hB rfl (fun hB => ?_)
    obtain ⟨g8, h⟩ := z_gd h
    refine y_iast ok hB (by decide +kernel) (by decide +kernel) g8 (fun hB => ?_)
    cases h
    exact z_weak k7 (z_sn (z_sn z_s0))
def d_M_dries_2  (p1 : Int32 × z_H) : Option ((Int32 × z_H) ⊕ (Int32 × z_H)) := (if z_in ((jn 10)) 173 then (if p1.1 < (p1.2 242 (z_n ((jn 10)))) then ((d_M_where (p1.1) p1.2).bind fun q7 => (Option.bind (α := z_H) (if q7 = (jn 2) then ((d_M_ofFlag (p1.1) ((jn 4)) p1.2).bind fun q12 => (if z_in ((jn 1)) 173 then ((d_M_putsFlag (p1.1) ((jn 4)) ((z_mx ((jn 0)) (((q12 - (jn 1)) - ((p1.2 242 (z_n ((jn 1)))) / (jn 3)))))) p1.2).bind fun q15 => some (q15)) else none)) else some (p1.2)) fun q9 => some (Sum.inl ((p1.1 + (jn 1)), q9)))) else some (Sum.inr (p1.1, p1.2))) else none)
def d_M_dries  (I : z_H) : Option (z_H) := ((z_it (d_M_dries_2) z_F ((jn 0), I)).bind fun q3 => some (q3.2))
/-- FlagLaundryModel.dries()V -/
theorem t_M_dries {G : z_G} {w : ev_W} (ok : z_Ok G w) {I : z_H} {r : z_H} (h : d_M_dries I = some r) : z_K G 270 [.ref (241)] (z_w w I) (.inl none) (z_w w r) := by
  refine z_con ok.1 (ml := 2) (by decide +kernel) rfl rfl ?_
  show z_R G 270 0 [some (.ref (241)), none] [] (z_w w I) (.inl none) (z_w w r)
  unfold d_M_dries at h
  have hB : z_all [z_is 270 0 (zf_cst 0 (jn 0) 1), z_is 270 1 (zf_istore 1 1 2)] = true := by decide +kernel
  refine z_cst hB (fun hB => ?_)
  refine z_istore hB rfl rfl (fun hB => ?_)
  obtain ⟨q3, e4, h⟩ := z_bind h
  have k5 : z_R G 270 55 [none, none] [] (z_w w q3.2) (.inl none) (z_w w r) := by
    have hB : z_all [z_is 270 55 (zf_ret 6)] = true := by decide +kernel
    cases h
    exact z_retv hB
  have l2 : ∀ (m2 : Nat) (p1 : Int32 × z_H), z_it (d_M_dries_2) m2 p1 = some q3 → z_R G 270 2 [some (.ref (241)), some (.int (p1.1))] [] (z_w w p1.2) (.inl none) (z_w w r) := by
    intro m2
    induction m2 with
    | zero => intro p1 h; cases h
    | succ m2 i2 =>
      intro p1 h
      obtain ⟨u2, h, b2⟩ := z_it_o h
      unfold d_M_dries_2 at h
      have hB : z_all [z_is 270 2 (zf_iload 2 1 3), z_is 270 3 (zf_aload 3 0 4), z_is 270 4 (zf_getr 4 8 1 7), z_is 270 7 (zf_cst 7 (jn 10) 9), z_is 270 9 (zf_iald 9 10), z_is 270 10 (zf_if2 .ge 10 55 13)] = true := by decide +kernel
      refine z_iload hB rfl (fun hB => ?_)
      refine z_aload hB rfl (fun hB => ?_)
      refine y_getr (b := 242) ok hB (by decide +kernel) (by decide +kernel) (fun hB => ?_)
      refine z_cst hB (fun hB => ?_)
      obtain ⟨g6, h⟩ := z_gd h
      refine y_iald ok hB (by decide +kernel) (by decide +kernel) g6 (fun hB => ?_)
      refine z_ic_ge hB (fun hc _ => ?_) (fun hc _ => ?_)
      · have h := z_neg hc h
        cases h
        cases b2
        exact z_weak k5 (z_sn (z_sn z_s0))
      · have h := z_pos hc h
        have hB : z_all [z_is 270 13 (zf_aload 13 0 14), z_is 270 14 (zf_iload 14 1 15), z_is 270 15 (zf_cv 15 244 1 8 18), z_is 270 18 (zf_cst 18 (jn 2) 19), z_is 270 19 (zf_if2 .ne 19 49 22)] = true := by decide +kernel
        refine z_aload hB rfl (fun hB => ?_)
        refine z_iload hB rfl (fun hB => ?_)
        obtain ⟨q7, e8, h⟩ := z_bind h
        refine y_cv ok hB (as := [.int (p1.1)]) (a := 241) (rest := []) rfl rfl rfl (by decide +kernel) (t_M_where (I := p1.2) ok e8) (fun hB => ?_)
        refine z_cst hB (fun hB => ?_)
        obtain ⟨q9, e10, h⟩ := z_bind h
        have k11 : z_R G 270 49 [some (.ref (241)), some (.int (p1.1))] [] (z_w w q9) (.inl none) (z_w w r) := by
          have hB : z_all [z_is 270 49 (zf_iinc 49 1 (jn 1) 52), z_is 270 52 (zf_goto 52 2)] = true := by decide +kernel
          refine z_iinc hB rfl rfl (fun hB => ?_)
          refine z_goto hB (fun hB => ?_)
          cases h
          exact z_weak (i2 ((p1.1 + (jn 1)), q9) b2) (z_se (z_se z_s0))
        have h := e10
        refine z_ic_ne hB (fun hc _ => ?_) (fun hc _ => ?_)
        · have h := z_neg hc h
          cases h
          exact z_weak k11 (z_se (z_se z_s0))
        · have h := z_pos hc h
          have hB : z_all [z_is 270 22 (zf_aload 22 0 23), z_is 270 23 (zf_iload 23 1 24), z_is 270 24 (zf_cst 24 (jn 4) 25), z_is 270 25 (zf_cst 25 (jn 0) 26), z_is 270 26 (zf_aload 26 0 27), z_is 270 27 (zf_iload 27 1 28), z_is 270 28 (zf_cst 28 (jn 4) 29), z_is 270 29 (zf_cv 29 242 2 8 32), z_is 270 32 (zf_cst 32 (jn 1) 33), z_is 270 33 (zf_isub 33 34), z_is 270 34 (zf_aload 34 0 35), z_is 270 35 (zf_getr 35 8 1 38), z_is 270 38 (zf_cst 38 (jn 1) 39), z_is 270 39 (zf_iald 39 40), z_is 270 40 (zf_cst 40 (jn 3) 41), z_is 270 41 (zf_idiv 41 42), z_is 270 42 (zf_isub 42 43), z_is 270 43 (zf_nat 43 100 46), z_is 270 46 (zf_cv 46 243 3 8 49)] = true := by decide +kernel
          refine z_aload hB rfl (fun hB => ?_)
          refine z_iload hB rfl (fun hB => ?_)
          refine z_cst hB (fun hB => ?_)
          refine z_cst hB (fun hB => ?_)
          refine z_aload hB rfl (fun hB => ?_)
          refine z_iload hB rfl (fun hB => ?_)
          refine z_cst hB (fun hB => ?_)
          obtain ⟨q12, e13, h⟩ := z_bind h
          refine y_cv ok hB (as := [.int (p1.1), .int ((jn 4))]) (a := 241) (rest := [.int ((jn 0)), .int ((jn 4)), .int (p1.1), .ref (241)]) rfl rfl rfl (by decide +kernel) (t_M_ofFlag (I := p1.2) ok e13) (fun hB => ?_)
          refine z_cst hB (fun hB => ?_)
          refine z_isub hB (fun hB => ?_)
          refine z_aload hB rfl (fun hB => ?_)
          refine y_getr (b := 242) ok hB (by decide +kernel) (by decide +kernel) (fun hB => ?_)
          refine z_cst hB (fun hB => ?_)
          obtain ⟨g14, h⟩ := z_gd h
          refine y_iald ok hB (by decide +kernel) (by decide +kernel) g14 (fun hB => ?_)
          refine z_cst hB (fun hB => ?_)
          refine z_idiv hB (by decide) (fun hB => ?_)
          refine z_isub hB (fun hB => ?_)
          refine z_max hB rfl (fun hB => ?_)
          obtain ⟨q15, e16, h⟩ := z_bind h
          refine y_cv ok hB (as := [.int (p1.1), .int ((jn 4)), .int ((z_mx ((jn 0)) (((q12 - (jn 1)) - ((p1.2 242 (z_n ((jn 1)))) / (jn 3))))))]) (a := 241) (rest := []) rfl rfl rfl (by decide +kernel) (t_M_putsFlag (I := p1.2) ok e16) (fun hB => ?_)
          cases h
          exact z_weak k11 (z_se (z_se z_s0))
  exact z_weak (l2 _ ((jn 0), I) e4) (z_se (z_se z_s0))
def d_M_lastHung_3 (I : z_H) (p2 : Int32) : Option ((Int32) ⊕ (Int32)) := (if p2 < jn 0 then some (Sum.inr ((jg 1))) else ((d_M_flagOn (p2) I).bind fun q4 => (if q4 = (jg 1) then some (Sum.inl ((p2 + (jg 1)))) else ((d_M_flagOn (p2) I).bind fun q6 => some (Sum.inr (q6))))))
def d_M_lastHung  (I : z_H) : Option (Int32) := (if z_in ((jn 9)) 173 then (z_it (d_M_lastHung_3 I) z_F (((I 242 (z_n ((jn 9)))) - (jn 1)))) else none)
/-- FlagLaundryModel.lastHung()I -/
theorem t_M_lastHung {G : z_G} {w : ev_W} (ok : z_Ok G w) {I : z_H} {r : Int32} (h : d_M_lastHung I = some r) : z_K G 269 [.ref (241)] (z_w w I) (.inl (some (.int r))) (z_w w I) := by
  refine z_con ok.1 (ml := 2) (by decide +kernel) rfl rfl ?_
  show z_R G 269 0 [some (.ref (241)), none] [] (z_w w I) (.inl (some (.int r))) (z_w w I)
  unfold d_M_lastHung at h
  have hB : z_all [z_is 269 0 (zf_aload 0 0 1), z_is 269 1 (zf_getr 1 8 1 4), z_is 269 4 (zf_cst 4 (jn 9) 6), z_is 269 6 (zf_iald 6 7), z_is 269 7 (zf_cst 7 (jn 1) 8), z_is 269 8 (zf_isub 8 9), z_is 269 9 (zf_istore 9 1 10)] = true := by decide +kernel
  refine z_aload hB rfl (fun hB => ?_)
  refine y_getr (b := 242) ok hB (by decide +kernel) (by decide +kernel) (fun hB => ?_)
  refine z_cst hB (fun hB => ?_)
  obtain ⟨g1, h⟩ := z_gd h
  refine y_iald ok hB (by decide +kernel) (by decide +kernel) g1 (fun hB => ?_)
  refine z_cst hB (fun hB => ?_)
  refine z_isub hB (fun hB => ?_)
  refine z_istore hB rfl rfl (fun hB => ?_)
  have l3 : ∀ (m3 : Nat) (p2 : Int32), z_it (d_M_lastHung_3 I) m3 p2 = some r → z_R G 269 10 [some (.ref (241)), some (.int (p2))] [] (z_w w I) (.inl (some (.int r))) (z_w w I) := by
    intro m3
    induction m3 with
    | zero => intro p2 h; cases h
    | succ m3 i3 =>
      intro p2 h
      obtain ⟨u3, h, b3⟩ := z_it_o h
      unfold d_M_lastHung_3 at h
      have hB : z_all [z_is 269 10 (zf_iload 10 1 11), z_is 269 11 (zf_if1 .lt 11 35 14)] = true := by decide +kernel
      refine z_iload hB rfl (fun hB => ?_)
      refine z_if_lt hB (fun hc _ => ?_) (fun hc _ => ?_)
      · have h := z_pos hc h
        have hB : z_all [z_is 269 35 (zf_cst 35 (jg 1) 36), z_is 269 36 (zf_ret 0)] = true := by decide +kernel
        refine z_cst hB (fun hB => ?_)
        cases h
        cases b3
        exact z_reti hB
      · have h := z_neg hc h
        have hB : z_all [z_is 269 14 (zf_aload 14 0 15), z_is 269 15 (zf_iload 15 1 16), z_is 269 16 (zf_cv 16 265 1 8 19), z_is 269 19 (zf_cst 19 (jg 1) 20), z_is 269 20 (zf_if2 .eq 20 29 23)] = true := by decide +kernel
        refine z_aload hB rfl (fun hB => ?_)
        refine z_iload hB rfl (fun hB => ?_)
        obtain ⟨q4, e5, h⟩ := z_bind h
        refine y_cv ok hB (as := [.int (p2)]) (a := 241) (rest := []) rfl rfl rfl (by decide +kernel) (t_M_flagOn (I := I) ok e5) (fun hB => ?_)
        refine z_cst hB (fun hB => ?_)
        refine z_ic_eq hB (fun hc _ => ?_) (fun hc _ => ?_)
        · have h := z_pos hc h
          have hB : z_all [z_is 269 29 (zf_iinc 29 1 (jg 1) 32), z_is 269 32 (zf_goto 32 10)] = true := by decide +kernel
          refine z_iinc hB rfl rfl (fun hB => ?_)
          refine z_goto hB (fun hB => ?_)
          cases h
          exact z_weak (i3 ((p2 + (jg 1))) b3) (z_se (z_se z_s0))
        · have h := z_neg hc h
          have hB : z_all [z_is 269 23 (zf_aload 23 0 24), z_is 269 24 (zf_iload 24 1 25), z_is 269 25 (zf_cv 25 265 1 8 28), z_is 269 28 (zf_ret 0)] = true := by decide +kernel
          refine z_aload hB rfl (fun hB => ?_)
          refine z_iload hB rfl (fun hB => ?_)
          obtain ⟨q6, e7, h⟩ := z_bind h
          refine y_cv ok hB (as := [.int (p2)]) (a := 241) (rest := []) rfl rfl rfl (by decide +kernel) (t_M_flagOn (I := I) ok e7) (fun hB => ?_)
          cases h
          cases b3
          exact z_reti hB
  exact z_weak (l3 _ (((I 242 (z_n ((jn 9)))) - (jn 1))) h) (z_se (z_se z_s0))
def d_M_falls  (I : z_H) : Option (z_H) := (if z_in ((jn 1)) 173 then (Option.bind (α := Int32) (if (I 242 (z_n ((jn 1)))) < (jn 7) then some ((jg 1)) else ((d_M_lastHung I).bind fun q13 => some (q13))) fun q2 => (if q2 = (jg 1) then some (I) else ((d_M_goesTo (q2) ((jn 0)) ((jg 1)) I).bind fun q5 => ((d_M_ofFlag (q2) ((jn 3)) q5).bind fun q7 => ((d_M_putsFlag (q2) ((jn 3)) ((z_mn ((jn 9)) ((q7 + (jn 1))))) q5).bind fun q9 => (if z_in ((jn 5)) 173 then (if z_in ((jn 5)) 173 then some ((ev_u2 q9 242 (z_n ((jn 5))) ((q9 242 (z_n ((jn 5)))) + (jn 1)))) else none) else none)))))) else none)
/-- FlagLaundryModel.falls()V -/
theorem t_M_falls {G : z_G} {w : ev_W} (ok : z_Ok G w) {I : z_H} {r : z_H} (h : d_M_falls I = some r) : z_K G 271 [.ref (241)] (z_w w I) (.inl none) (z_w w r) := by
  refine z_con ok.1 (ml := 2) (by decide +kernel) rfl rfl ?_
  show z_R G 271 0 [some (.ref (241)), none] [] (z_w w I) (.inl none) (z_w w r)
  unfold d_M_falls at h
  have hB : z_all [z_is 271 0 (zf_aload 0 0 1), z_is 271 1 (zf_getr 1 8 1 4), z_is 271 4 (zf_cst 4 (jn 1) 5), z_is 271 5 (zf_iald 5 6), z_is 271 6 (zf_cst 6 (jn 7) 8), z_is 271 8 (zf_if2 .lt 8 18 11)] = true := by decide +kernel
  refine z_aload hB rfl (fun hB => ?_)
  refine y_getr (b := 242) ok hB (by decide +kernel) (by decide +kernel) (fun hB => ?_)
  refine z_cst hB (fun hB => ?_)
  obtain ⟨g1, h⟩ := z_gd h
  refine y_iald ok hB (by decide +kernel) (by decide +kernel) g1 (fun hB => ?_)
  refine z_cst hB (fun hB => ?_)
  obtain ⟨q2, e3, h⟩ := z_bind h
  have k4 : z_R G 271 19 [some (.ref (241)), none] [.int (q2)] (z_w w I) (.inl none) (z_w w r) := by
    have hB : z_all [z_is 271 19 (zf_istore 19 1 20), z_is 271 20 (zf_iload 20 1 21), z_is 271 21 (zf_cst 21 (jg 1) 22), z_is 271 22 (zf_if2 .ne 22 26 25)] = true := by decide +kernel
    refine z_istore hB rfl rfl (fun hB => ?_)
    refine z_iload hB rfl (fun hB => ?_)
    refine z_cst hB (fun hB => ?_)
    refine z_ic_ne hB (fun hc _ => ?_) (fun hc _ => ?_)
    · have h := z_neg hc h
      have hB : z_all [z_is 271 26 (zf_aload 26 0 27), z_is 271 27 (zf_iload 27 1 28), z_is 271 28 (zf_cst 28 (jn 0) 29), z_is 271 29 (zf_cst 29 (jg 1) 30), z_is 271 30 (zf_cv 30 247 3 8 33), z_is 271 33 (zf_aload 33 0 34), z_is 271 34 (zf_iload 34 1 35), z_is 271 35 (zf_cst 35 (jn 3) 36), z_is 271 36 (zf_cst 36 (jn 9) 38), z_is 271 38 (zf_aload 38 0 39), z_is 271 39 (zf_iload 39 1 40), z_is 271 40 (zf_cst 40 (jn 3) 41), z_is 271 41 (zf_cv 41 242 2 8 44), z_is 271 44 (zf_cst 44 (jn 1) 45), z_is 271 45 (zf_iadd 45 46), z_is 271 46 (zf_nat 46 101 49), z_is 271 49 (zf_cv 49 243 3 8 52), z_is 271 52 (zf_aload 52 0 53), z_is 271 53 (zf_getr 53 8 1 56), z_is 271 56 (zf_cst 56 (jn 5) 57), z_is 271 57 (zf_dup2 57 58), z_is 271 58 (zf_iald 58 59), z_is 271 59 (zf_cst 59 (jn 1) 60), z_is 271 60 (zf_iadd 60 61), z_is 271 61 (zf_iast 61 62), z_is 271 62 (zf_ret 6)] = true := by decide +kernel
      refine z_aload hB rfl (fun hB => ?_)
      refine z_iload hB rfl (fun hB => ?_)
      refine z_cst hB (fun hB => ?_)
      refine z_cst hB (fun hB => ?_)
      obtain ⟨q5, e6, h⟩ := z_bind h
      refine y_cv ok hB (as := [.int (q2), .int ((jn 0)), .int ((jg 1))]) (a := 241) (rest := []) rfl rfl rfl (by decide +kernel) (t_M_goesTo (I := I) ok e6) (fun hB => ?_)
      refine z_aload hB rfl (fun hB => ?_)
      refine z_iload hB rfl (fun hB => ?_)
      refine z_cst hB (fun hB => ?_)
      refine z_cst hB (fun hB => ?_)
      refine z_aload hB rfl (fun hB => ?_)
      refine z_iload hB rfl (fun hB => ?_)
      refine z_cst hB (fun hB => ?_)
      obtain ⟨q7, e8, h⟩ := z_bind h
      refine y_cv ok hB (as := [.int (q2), .int ((jn 3))]) (a := 241) (rest := [.int ((jn 9)), .int ((jn 3)), .int (q2), .ref (241)]) rfl rfl rfl (by decide +kernel) (t_M_ofFlag (I := q5) ok e8) (fun hB => ?_)
      refine z_cst hB (fun hB => ?_)
      refine z_iadd hB (fun hB => ?_)
      refine z_min hB rfl (fun hB => ?_)
      obtain ⟨q9, e10, h⟩ := z_bind h
      refine y_cv ok hB (as := [.int (q2), .int ((jn 3)), .int ((z_mn ((jn 9)) ((q7 + (jn 1)))))]) (a := 241) (rest := []) rfl rfl rfl (by decide +kernel) (t_M_putsFlag (I := q5) ok e10) (fun hB => ?_)
      refine z_aload hB rfl (fun hB => ?_)
      refine y_getr (b := 242) ok hB (by decide +kernel) (by decide +kernel) (fun hB => ?_)
      refine z_cst hB (fun hB => ?_)
      refine z_dup2 hB (fun hB => ?_)
      obtain ⟨g11, h⟩ := z_gd h
      refine y_iald ok hB (by decide +kernel) (by decide +kernel) g11 (fun hB => ?_)
      refine z_cst hB (fun hB => ?_)
      refine z_iadd hB (fun hB => ?_)
      obtain ⟨g12, h⟩ := z_gd h
      refine y_iast ok hB (by decide +kernel) (by decide +kernel) g12 (fun hB => ?_)
      cases h
      exact z_retv hB
    · have h := z_pos hc h
      have hB : z_all [z_is 271 25 (zf_ret 6)] = true := by decide +kernel
      cases h
      exact z_retv hB
  have h := e3
  refine z_ic_lt hB (fun hc _ => ?_) (fun hc _ => ?_)
  · have h := z_pos hc h
    have hB : z_all [z_is 271 18 (zf_cst 18 (jg 1) 19)] = true := by decide +kernel
    refine z_cst hB (fun hB => ?_)
    cases h
    exact z_weak k4 (z_se (z_sn z_s0))
  · have h := z_neg hc h
    have hB : z_all [z_is 271 11 (zf_aload 11 0 12), z_is 271 12 (zf_cv 12 269 0 8 15), z_is 271 15 (zf_goto 15 19)] = true := by decide +kernel
    refine z_aload hB rfl (fun hB => ?_)
    obtain ⟨q13, e14, h⟩ := z_bind h
    refine y_cv ok hB (as := []) (a := 241) (rest := []) rfl rfl rfl (by decide +kernel) (t_M_lastHung (I := I) ok e14) (fun hB => ?_)
    refine z_goto hB (fun hB => ?_)
    cases h
    exact z_weak k4 (z_se (z_sn z_s0))
def d_M_passes  (I : z_H) : Option (z_H) := ((d_M_dries I).bind fun q1 => ((d_M_falls q1).bind fun q3 => (if z_in ((jn 0)) 173 then (if z_in ((jn 0)) 173 then some ((ev_u2 q3 242 (z_n ((jn 0))) ((q3 242 (z_n ((jn 0)))) + (jn 1)))) else none) else none)))
/-- FlagLaundryModel.passes()V -/
theorem t_M_passes {G : z_G} {w : ev_W} (ok : z_Ok G w) {I : z_H} {r : z_H} (h : d_M_passes I = some r) : z_K G 272 [.ref (241)] (z_w w I) (.inl none) (z_w w r) := by
  refine z_con ok.1 (ml := 1) (by decide +kernel) rfl rfl ?_
  show z_R G 272 0 [some (.ref (241))] [] (z_w w I) (.inl none) (z_w w r)
  unfold d_M_passes at h
  have hB : z_all [z_is 272 0 (zf_aload 0 0 1), z_is 272 1 (zf_cv 1 270 0 8 4), z_is 272 4 (zf_aload 4 0 5), z_is 272 5 (zf_cv 5 271 0 8 8), z_is 272 8 (zf_aload 8 0 9), z_is 272 9 (zf_getr 9 8 1 12), z_is 272 12 (zf_cst 12 (jn 0) 13), z_is 272 13 (zf_dup2 13 14), z_is 272 14 (zf_iald 14 15), z_is 272 15 (zf_cst 15 (jn 1) 16), z_is 272 16 (zf_iadd 16 17), z_is 272 17 (zf_iast 17 18), z_is 272 18 (zf_ret 6)] = true := by decide +kernel
  refine z_aload hB rfl (fun hB => ?_)
  obtain ⟨q1, e2, h⟩ := z_bind h
  refine y_cv ok hB (as := []) (a := 241) (rest := []) rfl rfl rfl (by decide +kernel) (t_M_dries (I := I) ok e2) (fun hB => ?_)
  refine z_aload hB rfl (fun hB => ?_)
  obtain ⟨q3, e4, h⟩ := z_bind h
  refine y_cv ok hB (as := []) (a := 241) (rest := []) rfl rfl rfl (by decide +kernel) (t_M_falls (I := q1) ok e4) (fun hB => ?_)
  refine z_aload hB rfl (fun hB => ?_)
  refine y_getr (b := 242) ok hB (by decide +kernel) (by decide +kernel) (fun hB => ?_)
  refine z_cst hB (fun hB => ?_)
  refine z_dup2 hB (fun hB => ?_)
  obtain ⟨g5, h⟩ := z_gd h
  refine y_iald ok hB (by decide +kernel) (by decide +kernel) g5 (fun hB => ?_)
  refine z_cst hB (fun hB => ?_)
  refine z_iadd hB (fun hB => ?_)
  obtain ⟨g6, h⟩ := z_gd h
  refine y_iast ok hB (by decide +kernel) (by decide +kernel) g6 (fun hB => ?_)
  cases h
  exact z_retv hB
def d_M_readsPass_6 (q3 : Int32 × z_H) (p5 : Int32 × z_H) : Option ((Int32 × z_H) ⊕ (Int32 × z_H)) := (if p5.1 < q3.1 then (if (p5.2 241 10) = jn 0 then ((d_M_passes p5.2).bind fun q10 => some (Sum.inl ((p5.1 + (jn 1)), q10))) else some (Sum.inr (p5.1, p5.2))) else some (Sum.inr (p5.1, p5.2)))
def d_M_readsPass  (I : z_H) : Option (z_H) := ((d_M_goes I).bind fun q1 => ((d_M_number ((jn 1)) ((jn 50)) q1).bind fun q3 => ((z_it (d_M_readsPass_6 q3) z_F ((jn 0), q3.2)).bind fun q7 => some (q7.2))))
/-- FlagLaundryModel.readsPass()V -/
theorem t_M_readsPass {G : z_G} {w : ev_W} (ok : z_Ok G w) {I : z_H} {r : z_H} (h : d_M_readsPass I = some r) : z_K G 235 [.ref (241)] (z_w w I) (.inl none) (z_w w r) := by
  refine z_con ok.1 (ml := 3) (by decide +kernel) rfl rfl ?_
  show z_R G 235 0 [some (.ref (241)), none, none] [] (z_w w I) (.inl none) (z_w w r)
  unfold d_M_readsPass at h
  have hB : z_all [z_is 235 0 (zf_aload 0 0 1), z_is 235 1 (zf_cv 1 219 0 8 4), z_is 235 4 (zf_aload 4 0 5), z_is 235 5 (zf_cst 5 (jn 1) 6), z_is 235 6 (zf_cst 6 (jn 50) 8), z_is 235 8 (zf_cv 8 224 2 8 11), z_is 235 11 (zf_istore 11 1 12), z_is 235 12 (zf_cst 12 (jn 0) 13), z_is 235 13 (zf_istore 13 2 14)] = true := by decide +kernel
  refine z_aload hB rfl (fun hB => ?_)
  obtain ⟨q1, e2, h⟩ := z_bind h
  refine y_cv ok hB (as := []) (a := 241) (rest := []) rfl rfl rfl (by decide +kernel) (t_M_goes (I := I) ok e2) (fun hB => ?_)
  refine z_aload hB rfl (fun hB => ?_)
  refine z_cst hB (fun hB => ?_)
  refine z_cst hB (fun hB => ?_)
  obtain ⟨q3, e4, h⟩ := z_bind h
  refine y_cv ok hB (as := [.int ((jn 1)), .int ((jn 50))]) (a := 241) (rest := []) rfl rfl rfl (by decide +kernel) (t_M_number (I := q1) ok e4) (fun hB => ?_)
  refine z_istore hB rfl rfl (fun hB => ?_)
  refine z_cst hB (fun hB => ?_)
  refine z_istore hB rfl rfl (fun hB => ?_)
  obtain ⟨q7, e8, h⟩ := z_bind h
  have k9 : z_R G 235 36 [none, none, none] [] (z_w w q7.2) (.inl none) (z_w w r) := by
    have hB : z_all [z_is 235 36 (zf_ret 6)] = true := by decide +kernel
    cases h
    exact z_retv hB
  have l6 : ∀ (m6 : Nat) (p5 : Int32 × z_H), z_it (d_M_readsPass_6 q3) m6 p5 = some q7 → z_R G 235 14 [some (.ref (241)), some (.int (q3.1)), some (.int (p5.1))] [] (z_w w p5.2) (.inl none) (z_w w r) := by
    intro m6
    induction m6 with
    | zero => intro p5 h; cases h
    | succ m6 i6 =>
      intro p5 h
      obtain ⟨u6, h, b6⟩ := z_it_o h
      unfold d_M_readsPass_6 at h
      have hB : z_all [z_is 235 14 (zf_iload 14 2 15), z_is 235 15 (zf_iload 15 1 16), z_is 235 16 (zf_if2 .ge 16 36 19)] = true := by decide +kernel
      refine z_iload hB rfl (fun hB => ?_)
      refine z_iload hB rfl (fun hB => ?_)
      refine z_ic_ge hB (fun hc _ => ?_) (fun hc _ => ?_)
      · have h := z_neg hc h
        cases h
        cases b6
        exact z_weak k9 (z_sn (z_sn (z_sn z_s0)))
      · have h := z_pos hc h
        have hB : z_all [z_is 235 19 (zf_aload 19 0 20), z_is 235 20 (zf_geti 20 8 10 23), z_is 235 23 (zf_if1 .ne 23 36 26)] = true := by decide +kernel
        refine z_aload hB rfl (fun hB => ?_)
        refine y_geti ok hB (by decide +kernel) (fun hB => ?_)
        refine z_if_ne hB (fun hc _ => ?_) (fun hc _ => ?_)
        · have h := z_neg hc h
          cases h
          cases b6
          exact z_weak k9 (z_sn (z_sn (z_sn z_s0)))
        · have h := z_pos hc h
          have hB : z_all [z_is 235 26 (zf_aload 26 0 27), z_is 235 27 (zf_cv 27 272 0 8 30), z_is 235 30 (zf_iinc 30 2 (jn 1) 33), z_is 235 33 (zf_goto 33 14)] = true := by decide +kernel
          refine z_aload hB rfl (fun hB => ?_)
          obtain ⟨q10, e11, h⟩ := z_bind h
          refine y_cv ok hB (as := []) (a := 241) (rest := []) rfl rfl rfl (by decide +kernel) (t_M_passes (I := p5.2) ok e11) (fun hB => ?_)
          refine z_iinc hB rfl rfl (fun hB => ?_)
          refine z_goto hB (fun hB => ?_)
          cases h
          exact z_weak (i6 ((p5.1 + (jn 1)), q10) b6) (z_se (z_se (z_se z_s0)))
  exact z_weak (l6 _ ((jn 0), q3.2) e8) (z_se (z_se (z_se z_s0)))
def d_M_readsDeed  (I : z_H) : Option (z_H) := ((d_M_isWord (29) I).bind fun q1 => (Option.bind (α := z_H) (if q1 = jn 0 then ((d_M_isWord (30) I).bind fun q6 => (if q6 = jn 0 then ((d_M_isWord (31) I).bind fun q8 => (if q8 = jn 0 then ((d_M_isWord (32) I).bind fun q10 => (if q10 = jn 0 then ((d_M_isWord (33) I).bind fun q12 => (if q12 = jn 0 then ((d_M_faults ((jn 1)) I).bind fun q14 => some (q14)) else ((d_M_readsPass I).bind fun q16 => some (q16)))) else ((d_M_readsWind I).bind fun q18 => some (q18)))) else ((d_M_readsHang I).bind fun q20 => some (q20)))) else ((d_M_readsWash I).bind fun q22 => some (q22)))) else ((d_M_readsPut I).bind fun q24 => some (q24))) fun q3 => some (q3)))
/-- FlagLaundryModel.readsDeed()V -/
theorem t_M_readsDeed {G : z_G} {w : ev_W} (ok : z_Ok G w) {I : z_H} {r : z_H} (h : d_M_readsDeed I = some r) : z_K G 237 [.ref (241)] (z_w w I) (.inl none) (z_w w r) := by
  refine z_con ok.1 (ml := 1) (by decide +kernel) rfl rfl ?_
  show z_R G 237 0 [some (.ref (241))] [] (z_w w I) (.inl none) (z_w w r)
  unfold d_M_readsDeed at h
  have hB : z_all [z_is 237 0 (zf_aload 0 0 1), z_is 237 1 (zf_lds 1 29 3), z_is 237 3 (zf_cv 3 222 1 8 6), z_is 237 6 (zf_if1 .eq 6 16 9)] = true := by decide +kernel
  refine z_aload hB rfl (fun hB => ?_)
  refine z_lds hB (fun hB => ?_)
  obtain ⟨q1, e2, h⟩ := z_bind h
  refine y_cv ok hB (as := [.ref (ev_S + 1 + 29)]) (a := 241) (rest := []) rfl rfl rfl (by decide +kernel) (t_M_isWord (I := I) ok e2) (fun hB => ?_)
  obtain ⟨q3, e4, h⟩ := z_bind h
  have k5 : z_R G 237 85 [none] [] (z_w w q3) (.inl none) (z_w w r) := by
    have hB : z_all [z_is 237 85 (zf_ret 6)] = true := by decide +kernel
    cases h
    exact z_retv hB
  have h := e4
  refine z_if_eq hB (fun hc _ => ?_) (fun hc _ => ?_)
  · have h := z_pos hc h
    have hB : z_all [z_is 237 16 (zf_aload 16 0 17), z_is 237 17 (zf_lds 17 30 19), z_is 237 19 (zf_cv 19 222 1 8 22), z_is 237 22 (zf_if1 .eq 22 32 25)] = true := by decide +kernel
    refine z_aload hB rfl (fun hB => ?_)
    refine z_lds hB (fun hB => ?_)
    obtain ⟨q6, e7, h⟩ := z_bind h
    refine y_cv ok hB (as := [.ref (ev_S + 1 + 30)]) (a := 241) (rest := []) rfl rfl rfl (by decide +kernel) (t_M_isWord (I := I) ok e7) (fun hB => ?_)
    refine z_if_eq hB (fun hc _ => ?_) (fun hc _ => ?_)
    · have h := z_pos hc h
      have hB : z_all [z_is 237 32 (zf_aload 32 0 33), z_is 237 33 (zf_lds 33 31 35), z_is 237 35 (zf_cv 35 222 1 8 38), z_is 237 38 (zf_if1 .eq 38 48 41)] = true := by decide +kernel
      refine z_aload hB rfl (fun hB => ?_)
      refine z_lds hB (fun hB => ?_)
      obtain ⟨q8, e9, h⟩ := z_bind h
      refine y_cv ok hB (as := [.ref (ev_S + 1 + 31)]) (a := 241) (rest := []) rfl rfl rfl (by decide +kernel) (t_M_isWord (I := I) ok e9) (fun hB => ?_)
      refine z_if_eq hB (fun hc _ => ?_) (fun hc _ => ?_)
      · have h := z_pos hc h
        have hB : z_all [z_is 237 48 (zf_aload 48 0 49), z_is 237 49 (zf_lds 49 32 51), z_is 237 51 (zf_cv 51 222 1 8 54), z_is 237 54 (zf_if1 .eq 54 64 57)] = true := by decide +kernel
        refine z_aload hB rfl (fun hB => ?_)
        refine z_lds hB (fun hB => ?_)
        obtain ⟨q10, e11, h⟩ := z_bind h
        refine y_cv ok hB (as := [.ref (ev_S + 1 + 32)]) (a := 241) (rest := []) rfl rfl rfl (by decide +kernel) (t_M_isWord (I := I) ok e11) (fun hB => ?_)
        refine z_if_eq hB (fun hc _ => ?_) (fun hc _ => ?_)
        · have h := z_pos hc h
          have hB : z_all [z_is 237 64 (zf_aload 64 0 65), z_is 237 65 (zf_lds 65 33 67), z_is 237 67 (zf_cv 67 222 1 8 70), z_is 237 70 (zf_if1 .eq 70 80 73)] = true := by decide +kernel
          refine z_aload hB rfl (fun hB => ?_)
          refine z_lds hB (fun hB => ?_)
          obtain ⟨q12, e13, h⟩ := z_bind h
          refine y_cv ok hB (as := [.ref (ev_S + 1 + 33)]) (a := 241) (rest := []) rfl rfl rfl (by decide +kernel) (t_M_isWord (I := I) ok e13) (fun hB => ?_)
          refine z_if_eq hB (fun hc _ => ?_) (fun hc _ => ?_)
          · have h := z_pos hc h
            have hB : z_all [z_is 237 80 (zf_aload 80 0 81), z_is 237 81 (zf_cst 81 (jn 1) 82), z_is 237 82 (zf_cv 82 220 1 8 85)] = true := by decide +kernel
            refine z_aload hB rfl (fun hB => ?_)
            refine z_cst hB (fun hB => ?_)
            obtain ⟨q14, e15, h⟩ := z_bind h
            refine y_cv ok hB (as := [.int ((jn 1))]) (a := 241) (rest := []) rfl rfl rfl (by decide +kernel) (t_M_faults (I := I) ok e15) (fun hB => ?_)
            cases h
            exact z_weak k5 (z_sn z_s0)
          · have h := z_neg hc h
            have hB : z_all [z_is 237 73 (zf_aload 73 0 74), z_is 237 74 (zf_cv 74 235 0 8 77), z_is 237 77 (zf_goto 77 85)] = true := by decide +kernel
            refine z_aload hB rfl (fun hB => ?_)
            obtain ⟨q16, e17, h⟩ := z_bind h
            refine y_cv ok hB (as := []) (a := 241) (rest := []) rfl rfl rfl (by decide +kernel) (t_M_readsPass (I := I) ok e17) (fun hB => ?_)
            refine z_goto hB (fun hB => ?_)
            cases h
            exact z_weak k5 (z_sn z_s0)
        · have h := z_neg hc h
          have hB : z_all [z_is 237 57 (zf_aload 57 0 58), z_is 237 58 (zf_cv 58 234 0 8 61), z_is 237 61 (zf_goto 61 85)] = true := by decide +kernel
          refine z_aload hB rfl (fun hB => ?_)
          obtain ⟨q18, e19, h⟩ := z_bind h
          refine y_cv ok hB (as := []) (a := 241) (rest := []) rfl rfl rfl (by decide +kernel) (t_M_readsWind (I := I) ok e19) (fun hB => ?_)
          refine z_goto hB (fun hB => ?_)
          cases h
          exact z_weak k5 (z_sn z_s0)
      · have h := z_neg hc h
        have hB : z_all [z_is 237 41 (zf_aload 41 0 42), z_is 237 42 (zf_cv 42 233 0 8 45), z_is 237 45 (zf_goto 45 85)] = true := by decide +kernel
        refine z_aload hB rfl (fun hB => ?_)
        obtain ⟨q20, e21, h⟩ := z_bind h
        refine y_cv ok hB (as := []) (a := 241) (rest := []) rfl rfl rfl (by decide +kernel) (t_M_readsHang (I := I) ok e21) (fun hB => ?_)
        refine z_goto hB (fun hB => ?_)
        cases h
        exact z_weak k5 (z_sn z_s0)
    · have h := z_neg hc h
      have hB : z_all [z_is 237 25 (zf_aload 25 0 26), z_is 237 26 (zf_cv 26 232 0 8 29), z_is 237 29 (zf_goto 29 85)] = true := by decide +kernel
      refine z_aload hB rfl (fun hB => ?_)
      obtain ⟨q22, e23, h⟩ := z_bind h
      refine y_cv ok hB (as := []) (a := 241) (rest := []) rfl rfl rfl (by decide +kernel) (t_M_readsWash (I := I) ok e23) (fun hB => ?_)
      refine z_goto hB (fun hB => ?_)
      cases h
      exact z_weak k5 (z_sn z_s0)
  · have h := z_neg hc h
    have hB : z_all [z_is 237 9 (zf_aload 9 0 10), z_is 237 10 (zf_cv 10 231 0 8 13), z_is 237 13 (zf_goto 13 85)] = true := by decide +kernel
    refine z_aload hB rfl (fun hB => ?_)
    obtain ⟨q24, e25, h⟩ := z_bind h
    refine y_cv ok hB (as := []) (a := 241) (rest := []) rfl rfl rfl (by decide +kernel) (t_M_readsPut (I := I) ok e25) (fun hB => ?_)
    refine z_goto hB (fun hB => ?_)
    cases h
    exact z_weak k5 (z_sn z_s0)
def d_M_readsThing  (I : z_H) : Option (z_H) := ((d_M_isWord (25) I).bind fun q1 => (Option.bind (α := z_H) (if q1 = jn 0 then ((d_M_isWord (26) I).bind fun q6 => (if q6 = jn 0 then ((d_M_isWord (27) I).bind fun q8 => (if q8 = jn 0 then ((d_M_isWord (28) I).bind fun q10 => (if q10 = jn 0 then ((d_M_readsDeed I).bind fun q12 => some (q12)) else ((d_M_readsFlag I).bind fun q14 => some (q14)))) else ((d_M_readsTub I).bind fun q16 => some (q16)))) else ((d_M_readsNation I).bind fun q18 => some (q18)))) else ((d_M_readsColour I).bind fun q20 => some (q20))) fun q3 => some (q3)))
/-- FlagLaundryModel.readsThing()V -/
theorem t_M_readsThing {G : z_G} {w : ev_W} (ok : z_Ok G w) {I : z_H} {r : z_H} (h : d_M_readsThing I = some r) : z_K G 236 [.ref (241)] (z_w w I) (.inl none) (z_w w r) := by
  refine z_con ok.1 (ml := 1) (by decide +kernel) rfl rfl ?_
  show z_R G 236 0 [some (.ref (241))] [] (z_w w I) (.inl none) (z_w w r)
  unfold d_M_readsThing at h
  have hB : z_all [z_is 236 0 (zf_aload 0 0 1), z_is 236 1 (zf_lds 1 25 3), z_is 236 3 (zf_cv 3 222 1 8 6), z_is 236 6 (zf_if1 .eq 6 16 9)] = true := by decide +kernel
  refine z_aload hB rfl (fun hB => ?_)
  refine z_lds hB (fun hB => ?_)
  obtain ⟨q1, e2, h⟩ := z_bind h
  refine y_cv ok hB (as := [.ref (ev_S + 1 + 25)]) (a := 241) (rest := []) rfl rfl rfl (by decide +kernel) (t_M_isWord (I := I) ok e2) (fun hB => ?_)
  obtain ⟨q3, e4, h⟩ := z_bind h
  have k5 : z_R G 236 68 [none] [] (z_w w q3) (.inl none) (z_w w r) := by
    have hB : z_all [z_is 236 68 (zf_ret 6)] = true := by decide +kernel
    cases h
    exact z_retv hB
  have h := e4
  refine z_if_eq hB (fun hc _ => ?_) (fun hc _ => ?_)
  · have h := z_pos hc h
    have hB : z_all [z_is 236 16 (zf_aload 16 0 17), z_is 236 17 (zf_lds 17 26 19), z_is 236 19 (zf_cv 19 222 1 8 22), z_is 236 22 (zf_if1 .eq 22 32 25)] = true := by decide +kernel
    refine z_aload hB rfl (fun hB => ?_)
    refine z_lds hB (fun hB => ?_)
    obtain ⟨q6, e7, h⟩ := z_bind h
    refine y_cv ok hB (as := [.ref (ev_S + 1 + 26)]) (a := 241) (rest := []) rfl rfl rfl (by decide +kernel) (t_M_isWord (I := I) ok e7) (fun hB => ?_)
    refine z_if_eq hB (fun hc _ => ?_) (fun hc _ => ?_)
    · have h := z_pos hc h
      have hB : z_all [z_is 236 32 (zf_aload 32 0 33), z_is 236 33 (zf_lds 33 27 35), z_is 236 35 (zf_cv 35 222 1 8 38), z_is 236 38 (zf_if1 .eq 38 48 41)] = true := by decide +kernel
      refine z_aload hB rfl (fun hB => ?_)
      refine z_lds hB (fun hB => ?_)
      obtain ⟨q8, e9, h⟩ := z_bind h
      refine y_cv ok hB (as := [.ref (ev_S + 1 + 27)]) (a := 241) (rest := []) rfl rfl rfl (by decide +kernel) (t_M_isWord (I := I) ok e9) (fun hB => ?_)
      refine z_if_eq hB (fun hc _ => ?_) (fun hc _ => ?_)
      · have h := z_pos hc h
        have hB : z_all [z_is 236 48 (zf_aload 48 0 49), z_is 236 49 (zf_lds 49 28 51), z_is 236 51 (zf_cv 51 222 1 8 54), z_is 236 54 (zf_if1 .eq 54 64 57)] = true := by decide +kernel
        refine z_aload hB rfl (fun hB => ?_)
        refine z_lds hB (fun hB => ?_)
        obtain ⟨q10, e11, h⟩ := z_bind h
        refine y_cv ok hB (as := [.ref (ev_S + 1 + 28)]) (a := 241) (rest := []) rfl rfl rfl (by decide +kernel) (t_M_isWord (I := I) ok e11) (fun hB => ?_)
        refine z_if_eq hB (fun hc _ => ?_) (fun hc _ => ?_)
        · have h := z_pos hc h
          have hB : z_all [z_is 236 64 (zf_aload 64 0 65), z_is 236 65 (zf_cv 65 237 0 8 68)] = true := by decide +kernel
          refine z_aload hB rfl (fun hB => ?_)
          obtain ⟨q12, e13, h⟩ := z_bind h
          refine y_cv ok hB (as := []) (a := 241) (rest := []) rfl rfl rfl (by decide +kernel) (t_M_readsDeed (I := I) ok e13) (fun hB => ?_)
          cases h
          exact z_weak k5 (z_sn z_s0)
        · have h := z_neg hc h
          have hB : z_all [z_is 236 57 (zf_aload 57 0 58), z_is 236 58 (zf_cv 58 230 0 8 61), z_is 236 61 (zf_goto 61 68)] = true := by decide +kernel
          refine z_aload hB rfl (fun hB => ?_)
          obtain ⟨q14, e15, h⟩ := z_bind h
          refine y_cv ok hB (as := []) (a := 241) (rest := []) rfl rfl rfl (by decide +kernel) (t_M_readsFlag (I := I) ok e15) (fun hB => ?_)
          refine z_goto hB (fun hB => ?_)
          cases h
          exact z_weak k5 (z_sn z_s0)
      · have h := z_neg hc h
        have hB : z_all [z_is 236 41 (zf_aload 41 0 42), z_is 236 42 (zf_cv 42 228 0 8 45), z_is 236 45 (zf_goto 45 68)] = true := by decide +kernel
        refine z_aload hB rfl (fun hB => ?_)
        obtain ⟨q16, e17, h⟩ := z_bind h
        refine y_cv ok hB (as := []) (a := 241) (rest := []) rfl rfl rfl (by decide +kernel) (t_M_readsTub (I := I) ok e17) (fun hB => ?_)
        refine z_goto hB (fun hB => ?_)
        cases h
        exact z_weak k5 (z_sn z_s0)
    · have h := z_neg hc h
      have hB : z_all [z_is 236 25 (zf_aload 25 0 26), z_is 236 26 (zf_cv 26 227 0 8 29), z_is 236 29 (zf_goto 29 68)] = true := by decide +kernel
      refine z_aload hB rfl (fun hB => ?_)
      obtain ⟨q18, e19, h⟩ := z_bind h
      refine y_cv ok hB (as := []) (a := 241) (rest := []) rfl rfl rfl (by decide +kernel) (t_M_readsNation (I := I) ok e19) (fun hB => ?_)
      refine z_goto hB (fun hB => ?_)
      cases h
      exact z_weak k5 (z_sn z_s0)
  · have h := z_neg hc h
    have hB : z_all [z_is 236 9 (zf_aload 9 0 10), z_is 236 10 (zf_cv 10 226 0 8 13), z_is 236 13 (zf_goto 13 68)] = true := by decide +kernel
    refine z_aload hB rfl (fun hB => ?_)
    obtain ⟨q20, e21, h⟩ := z_bind h
    refine y_cv ok hB (as := []) (a := 241) (rest := []) rfl rfl rfl (by decide +kernel) (t_M_readsColour (I := I) ok e21) (fun hB => ?_)
    refine z_goto hB (fun hB => ?_)
    cases h
    exact z_weak k5 (z_sn z_s0)
def d_M_readsText_14  (p13 : z_H) : Option ((z_H) ⊕ (z_H)) := ((d_M_is ((jn 4)) p13).bind fun q37 => (if q37 = jn 0 then some (Sum.inr (p13)) else ((d_M_goes p13).bind fun q39 => ((d_M_readsThing q39).bind fun q41 => some (Sum.inl (q41))))))
def d_M_readsText  (I : z_H) : Option (z_H) := ((d_M_goes I).bind fun q1 => ((d_M_isWord (24) q1).bind fun q3 => (Option.bind (α := z_H) (if q3 = jn 0 then ((d_M_faults ((jn 1)) q1).bind fun q43 => some (q43)) else some (q1)) fun q5 => ((d_M_goes q5).bind fun q8 => ((d_M_number ((jn 1)) ((jn 8)) q8).bind fun q10 => (if z_in ((jn 9)) 173 then ((z_it (d_M_readsText_14) z_F ((ev_u2 q10.2 242 (z_n ((jn 9))) q10.1))).bind fun q15 => ((d_M_is ((jn 1)) q15).bind fun q18 => (Option.bind (α := z_H) (if q18 = jn 0 then ((d_M_faults ((jn 1)) q15).bind fun q35 => some (q35)) else some (q15)) fun q20 => (if z_in ((jn 6)) 173 then (Option.bind (α := z_H) (if (q20 242 (z_n ((jn 6)))) = jn 0 then ((d_M_faults ((jn 4)) q20).bind fun q27 => some (q27)) else (if z_in ((jn 7)) 173 then (if (q20 242 (z_n ((jn 7)))) = jn 0 then ((d_M_faults ((jn 4)) q20).bind fun q30 => some (q30)) else (if z_in ((jn 8)) 173 then (if (q20 242 (z_n ((jn 8)))) = jn 0 then ((d_M_faults ((jn 4)) q20).bind fun q33 => some (q33)) else some (q20)) else none)) else none)) fun q24 => some (q24)) else none)))) else none))))))
/-- FlagLaundryModel.readsText()V -/
theorem t_M_readsText {G : z_G} {w : ev_W} (ok : z_Ok G w) {I : z_H} {r : z_H} (h : d_M_readsText I = some r) : z_K G 238 [.ref (241)] (z_w w I) (.inl none) (z_w w r) := by
  refine z_con ok.1 (ml := 1) (by decide +kernel) rfl rfl ?_
  show z_R G 238 0 [some (.ref (241))] [] (z_w w I) (.inl none) (z_w w r)
  unfold d_M_readsText at h
  have hB : z_all [z_is 238 0 (zf_aload 0 0 1), z_is 238 1 (zf_cv 1 219 0 8 4), z_is 238 4 (zf_aload 4 0 5), z_is 238 5 (zf_lds 5 24 7), z_is 238 7 (zf_cv 7 222 1 8 10), z_is 238 10 (zf_if1 .ne 10 18 13)] = true := by decide +kernel
  refine z_aload hB rfl (fun hB => ?_)
  obtain ⟨q1, e2, h⟩ := z_bind h
  refine y_cv ok hB (as := []) (a := 241) (rest := []) rfl rfl rfl (by decide +kernel) (t_M_goes (I := I) ok e2) (fun hB => ?_)
  refine z_aload hB rfl (fun hB => ?_)
  refine z_lds hB (fun hB => ?_)
  obtain ⟨q3, e4, h⟩ := z_bind h
  refine y_cv ok hB (as := [.ref (ev_S + 1 + 24)]) (a := 241) (rest := []) rfl rfl rfl (by decide +kernel) (t_M_isWord (I := q1) ok e4) (fun hB => ?_)
  obtain ⟨q5, e6, h⟩ := z_bind h
  have k7 : z_R G 238 18 [some (.ref (241))] [] (z_w w q5) (.inl none) (z_w w r) := by
    have hB : z_all [z_is 238 18 (zf_aload 18 0 19), z_is 238 19 (zf_cv 19 219 0 8 22), z_is 238 22 (zf_aload 22 0 23), z_is 238 23 (zf_getr 23 8 1 26), z_is 238 26 (zf_cst 26 (jn 9) 28), z_is 238 28 (zf_aload 28 0 29), z_is 238 29 (zf_cst 29 (jn 1) 30), z_is 238 30 (zf_cst 30 (jn 8) 32), z_is 238 32 (zf_cv 32 224 2 8 35), z_is 238 35 (zf_iast 35 36)] = true := by decide +kernel
    refine z_aload hB rfl (fun hB => ?_)
    obtain ⟨q8, e9, h⟩ := z_bind h
    refine y_cv ok hB (as := []) (a := 241) (rest := []) rfl rfl rfl (by decide +kernel) (t_M_goes (I := q5) ok e9) (fun hB => ?_)
    refine z_aload hB rfl (fun hB => ?_)
    refine y_getr (b := 242) ok hB (by decide +kernel) (by decide +kernel) (fun hB => ?_)
    refine z_cst hB (fun hB => ?_)
    refine z_aload hB rfl (fun hB => ?_)
    refine z_cst hB (fun hB => ?_)
    refine z_cst hB (fun hB => ?_)
    obtain ⟨q10, e11, h⟩ := z_bind h
    refine y_cv ok hB (as := [.int ((jn 1)), .int ((jn 8))]) (a := 241) (rest := [.int ((jn 9)), .ref (242)]) rfl rfl rfl (by decide +kernel) (t_M_number (I := q8) ok e11) (fun hB => ?_)
    obtain ⟨g12, h⟩ := z_gd h
    refine y_iast ok hB (by decide +kernel) (by decide +kernel) g12 (fun hB => ?_)
    obtain ⟨q15, e16, h⟩ := z_bind h
    have k17 : z_R G 238 55 [some (.ref (241))] [] (z_w w q15) (.inl none) (z_w w r) := by
      have hB : z_all [z_is 238 55 (zf_aload 55 0 56), z_is 238 56 (zf_cst 56 (jn 1) 57), z_is 238 57 (zf_cv 57 221 1 8 60), z_is 238 60 (zf_if1 .ne 60 68 63)] = true := by decide +kernel
      refine z_aload hB rfl (fun hB => ?_)
      refine z_cst hB (fun hB => ?_)
      obtain ⟨q18, e19, h⟩ := z_bind h
      refine y_cv ok hB (as := [.int ((jn 1))]) (a := 241) (rest := []) rfl rfl rfl (by decide +kernel) (t_M_is (I := q15) ok e19) (fun hB => ?_)
      obtain ⟨q20, e21, h⟩ := z_bind h
      have k22 : z_R G 238 68 [some (.ref (241))] [] (z_w w q20) (.inl none) (z_w w r) := by
        have hB : z_all [z_is 238 68 (zf_aload 68 0 69), z_is 238 69 (zf_getr 69 8 1 72), z_is 238 72 (zf_cst 72 (jn 6) 74), z_is 238 74 (zf_iald 74 75), z_is 238 75 (zf_if1 .eq 75 98 78)] = true := by decide +kernel
        refine z_aload hB rfl (fun hB => ?_)
        refine y_getr (b := 242) ok hB (by decide +kernel) (by decide +kernel) (fun hB => ?_)
        refine z_cst hB (fun hB => ?_)
        obtain ⟨g23, h⟩ := z_gd h
        refine y_iald ok hB (by decide +kernel) (by decide +kernel) g23 (fun hB => ?_)
        obtain ⟨q24, e25, h⟩ := z_bind h
        have k26 : z_R G 238 103 [none] [] (z_w w q24) (.inl none) (z_w w r) := by
          have hB : z_all [z_is 238 103 (zf_ret 6)] = true := by decide +kernel
          cases h
          exact z_retv hB
        have h := e25
        refine z_if_eq hB (fun hc _ => ?_) (fun hc _ => ?_)
        · have h := z_pos hc h
          have hB : z_all [z_is 238 98 (zf_aload 98 0 99), z_is 238 99 (zf_cst 99 (jn 4) 100), z_is 238 100 (zf_cv 100 220 1 8 103)] = true := by decide +kernel
          refine z_aload hB rfl (fun hB => ?_)
          refine z_cst hB (fun hB => ?_)
          obtain ⟨q27, e28, h⟩ := z_bind h
          refine y_cv ok hB (as := [.int ((jn 4))]) (a := 241) (rest := []) rfl rfl rfl (by decide +kernel) (t_M_faults (I := q20) ok e28) (fun hB => ?_)
          cases h
          exact z_weak k26 (z_sn z_s0)
        · have h := z_neg hc h
          have hB : z_all [z_is 238 78 (zf_aload 78 0 79), z_is 238 79 (zf_getr 79 8 1 82), z_is 238 82 (zf_cst 82 (jn 7) 84), z_is 238 84 (zf_iald 84 85), z_is 238 85 (zf_if1 .eq 85 98 88)] = true := by decide +kernel
          refine z_aload hB rfl (fun hB => ?_)
          refine y_getr (b := 242) ok hB (by decide +kernel) (by decide +kernel) (fun hB => ?_)
          refine z_cst hB (fun hB => ?_)
          obtain ⟨g29, h⟩ := z_gd h
          refine y_iald ok hB (by decide +kernel) (by decide +kernel) g29 (fun hB => ?_)
          refine z_if_eq hB (fun hc _ => ?_) (fun hc _ => ?_)
          · have h := z_pos hc h
            have hB : z_all [z_is 238 98 (zf_aload 98 0 99), z_is 238 99 (zf_cst 99 (jn 4) 100), z_is 238 100 (zf_cv 100 220 1 8 103)] = true := by decide +kernel
            refine z_aload hB rfl (fun hB => ?_)
            refine z_cst hB (fun hB => ?_)
            obtain ⟨q30, e31, h⟩ := z_bind h
            refine y_cv ok hB (as := [.int ((jn 4))]) (a := 241) (rest := []) rfl rfl rfl (by decide +kernel) (t_M_faults (I := q20) ok e31) (fun hB => ?_)
            cases h
            exact z_weak k26 (z_sn z_s0)
          · have h := z_neg hc h
            have hB : z_all [z_is 238 88 (zf_aload 88 0 89), z_is 238 89 (zf_getr 89 8 1 92), z_is 238 92 (zf_cst 92 (jn 8) 94), z_is 238 94 (zf_iald 94 95), z_is 238 95 (zf_if1 .ne 95 103 98)] = true := by decide +kernel
            refine z_aload hB rfl (fun hB => ?_)
            refine y_getr (b := 242) ok hB (by decide +kernel) (by decide +kernel) (fun hB => ?_)
            refine z_cst hB (fun hB => ?_)
            obtain ⟨g32, h⟩ := z_gd h
            refine y_iald ok hB (by decide +kernel) (by decide +kernel) g32 (fun hB => ?_)
            refine z_if_ne hB (fun hc _ => ?_) (fun hc _ => ?_)
            · have h := z_neg hc h
              cases h
              exact z_weak k26 (z_sn z_s0)
            · have h := z_pos hc h
              have hB : z_all [z_is 238 98 (zf_aload 98 0 99), z_is 238 99 (zf_cst 99 (jn 4) 100), z_is 238 100 (zf_cv 100 220 1 8 103)] = true := by decide +kernel
              refine z_aload hB rfl (fun hB => ?_)
              refine z_cst hB (fun hB => ?_)
              obtain ⟨q33, e34, h⟩ := z_bind h
              refine y_cv ok hB (as := [.int ((jn 4))]) (a := 241) (rest := []) rfl rfl rfl (by decide +kernel) (t_M_faults (I := q20) ok e34) (fun hB => ?_)
              cases h
              exact z_weak k26 (z_sn z_s0)
      have h := e21
      refine z_if_ne hB (fun hc _ => ?_) (fun hc _ => ?_)
      · have h := z_neg hc h
        cases h
        exact z_weak k22 (z_se z_s0)
      · have h := z_pos hc h
        have hB : z_all [z_is 238 63 (zf_aload 63 0 64), z_is 238 64 (zf_cst 64 (jn 1) 65), z_is 238 65 (zf_cv 65 220 1 8 68)] = true := by decide +kernel
        refine z_aload hB rfl (fun hB => ?_)
        refine z_cst hB (fun hB => ?_)
        obtain ⟨q35, e36, h⟩ := z_bind h
        refine y_cv ok hB (as := [.int ((jn 1))]) (a := 241) (rest := []) rfl rfl rfl (by decide +kernel) (t_M_faults (I := q15) ok e36) (fun hB => ?_)
        cases h
        exact z_weak k22 (z_se z_s0)
    have l14 : ∀ (m14 : Nat) (p13 : z_H), z_it (d_M_readsText_14) m14 p13 = some q15 → z_R G 238 36 [some (.ref (241))] [] (z_w w p13) (.inl none) (z_w w r) := by
      intro m14
      induction m14 with
      | zero => intro p13 h; cases h
      | succ m14 i14 =>
        intro p13 h
        obtain ⟨u14, h, b14⟩ := z_it_o h
        unfold d_M_readsText_14 at h
        have hB : z_all [z_is 238 36 (zf_aload 36 0 37), z_is 238 37 (zf_cst 37 (jn 4) 38), z_is 238 38 (zf_cv 38 221 1 8 41), z_is 238 41 (zf_if1 .eq 41 55 44)] = true := by decide +kernel
        refine z_aload hB rfl (fun hB => ?_)
        refine z_cst hB (fun hB => ?_)
        obtain ⟨q37, e38, h⟩ := z_bind h
        refine y_cv ok hB (as := [.int ((jn 4))]) (a := 241) (rest := []) rfl rfl rfl (by decide +kernel) (t_M_is (I := p13) ok e38) (fun hB => ?_)
        refine z_if_eq hB (fun hc _ => ?_) (fun hc _ => ?_)
        · have h := z_pos hc h
          cases h
          cases b14
          exact z_weak k17 (z_se z_s0)
        · have h := z_neg hc h
          have hB : z_all [z_is 238 44 (zf_aload 44 0 45), z_is 238 45 (zf_cv 45 219 0 8 48), z_is 238 48 (zf_aload 48 0 49), z_is 238 49 (zf_cv 49 236 0 8 52), z_is 238 52 (zf_goto 52 36)] = true := by decide +kernel
          refine z_aload hB rfl (fun hB => ?_)
          obtain ⟨q39, e40, h⟩ := z_bind h
          refine y_cv ok hB (as := []) (a := 241) (rest := []) rfl rfl rfl (by decide +kernel) (t_M_goes (I := p13) ok e40) (fun hB => ?_)
          refine z_aload hB rfl (fun hB => ?_)
          obtain ⟨q41, e42, h⟩ := z_bind h
          refine y_cv ok hB (as := []) (a := 241) (rest := []) rfl rfl rfl (by decide +kernel) (t_M_readsThing (I := q39) ok e42) (fun hB => ?_)
          refine z_goto hB (fun hB => ?_)
          cases h
          exact z_weak (i14 (q41) b14) (z_se z_s0)
    exact z_weak (l14 _ ((ev_u2 q10.2 242 (z_n ((jn 9))) q10.1)) e16) (z_se z_s0)
  have h := e6
  refine z_if_ne hB (fun hc _ => ?_) (fun hc _ => ?_)
  · have h := z_neg hc h
    cases h
    exact z_weak k7 (z_se z_s0)
  · have h := z_pos hc h
    have hB : z_all [z_is 238 13 (zf_aload 13 0 14), z_is 238 14 (zf_cst 14 (jn 1) 15), z_is 238 15 (zf_cv 15 220 1 8 18)] = true := by decide +kernel
    refine z_aload hB rfl (fun hB => ?_)
    refine z_cst hB (fun hB => ?_)
    obtain ⟨q43, e44, h⟩ := z_bind h
    refine y_cv ok hB (as := [.int ((jn 1))]) (a := 241) (rest := []) rfl rfl rfl (by decide +kernel) (t_M_faults (I := q1) ok e44) (fun hB => ?_)
    cases h
    exact z_weak k7 (z_se z_s0)
def d_M_load_8  (p7 : Int32 × z_H) : Option ((Int32 × z_H) ⊕ (Int32 × z_H)) := (if p7.1 < (jn 173) then (if z_in (p7.1) 173 then some (Sum.inl ((p7.1 + (jn 1)), (ev_u2 p7.2 242 (z_n (p7.1)) (jn 0)))) else none) else some (Sum.inr (p7.1, p7.2)))
def d_M_load (x1 : Int32) (I : z_H) : Option (Int32 × z_H) := ((d_M_in (x1) ((jn 0)) ((I 241 9))).bind fun q1 => ((d_M_may (q1) ((jn 1)) ((jn 1)) I).bind fun q3 => (if q3.1 = jn 0 then some (((jn 0), q3.2)) else ((d_M_thinks (ev_u2 (ev_u2 (ev_u2 (ev_u2 (ev_u2 q3.2 241 12 x1) 241 13 (jn 0)) 241 9 (jn 0)) 241 10 (jn 0)) 241 11 (jg 1))).bind fun q5 => ((z_it (d_M_load_8) z_F ((jn 0), q5)).bind fun q9 => ((d_M_readsText q9.2).bind fun q12 => (if jn 0 < (q12 241 10) then ((d_M_back ((jn 0)) (ev_u2 q12 241 0 (jn 2))).bind fun q19 => some ((q19.1, q19.2))) else (if z_in ((jn 0)) 2 then (if z_in ((jn 1)) 2 then (Option.bind (α := z_H) (some (ev_u2 (ev_u2 (ev_u2 (ev_u2 q12 241 6 (jn 1)) 241 7 (jn 0)) 246 (z_n ((jn 0))) (vp_nar .boolean ((jn 0)))) 246 (z_n ((jn 1))) (vp_nar .boolean ((jn 0))))) fun J16 => (if z_in ((jn 10)) 173 then some (((J16 242 (z_n ((jn 10)))), J16)) else none)) else none) else none))))))))
/-- FlagLaundryModel.load(I)I -/
theorem t_M_load {G : z_G} {w : ev_W} (ok : z_Ok G w) {x1 : Int32} {I : z_H} {r : Int32 × z_H} (h : d_M_load x1 I = some r) : z_K G 239 [.ref (241), .int (x1)] (z_w w I) (.inl (some (.int r.1))) (z_w w r.2) := by
  refine z_con ok.1 (ml := 3) (by decide +kernel) rfl rfl ?_
  show z_R G 239 0 [some (.ref (241)), some (.int (x1)), none] [] (z_w w I) (.inl (some (.int r.1))) (z_w w r.2)
  unfold d_M_load at h
  have hB : z_all [z_is 239 0 (zf_aload 0 0 1), z_is 239 1 (zf_iload 1 1 2), z_is 239 2 (zf_cst 2 (jn 0) 3), z_is 239 3 (zf_aload 3 0 4), z_is 239 4 (zf_geti 4 8 9 7), z_is 239 7 (zf_cs 7 203 3 10), z_is 239 10 (zf_cst 10 (jn 1) 11), z_is 239 11 (zf_cst 11 (jn 1) 12), z_is 239 12 (zf_cv 12 206 3 8 15), z_is 239 15 (zf_if1 .ne 15 20 18)] = true := by decide +kernel
  refine z_aload hB rfl (fun hB => ?_)
  refine z_iload hB rfl (fun hB => ?_)
  refine z_cst hB (fun hB => ?_)
  refine z_aload hB rfl (fun hB => ?_)
  refine y_geti ok hB (by decide +kernel) (fun hB => ?_)
  obtain ⟨q1, e2, h⟩ := z_bind h
  refine z_callS hB (as := [.int (x1), .int ((jn 0)), .int ((I 241 9))]) (rest := [.ref (241)]) rfl rfl rfl (t_M_in (I := I) ok e2) (fun hB => ?_)
  refine z_cst hB (fun hB => ?_)
  refine z_cst hB (fun hB => ?_)
  obtain ⟨q3, e4, h⟩ := z_bind h
  refine y_cv ok hB (as := [.int (q1), .int ((jn 1)), .int ((jn 1))]) (a := 241) (rest := []) rfl rfl rfl (by decide +kernel) (t_M_may (I := I) ok e4) (fun hB => ?_)
  refine z_if_ne hB (fun hc _ => ?_) (fun hc _ => ?_)
  · have h := z_neg hc h
    have hB : z_all [z_is 239 20 (zf_aload 20 0 21), z_is 239 21 (zf_iload 21 1 22), z_is 239 22 (zf_puti 22 8 12 25), z_is 239 25 (zf_aload 25 0 26), z_is 239 26 (zf_cst 26 (jn 0) 27), z_is 239 27 (zf_puti 27 8 13 30), z_is 239 30 (zf_aload 30 0 31), z_is 239 31 (zf_cst 31 (jn 0) 32), z_is 239 32 (zf_puti 32 8 9 35), z_is 239 35 (zf_aload 35 0 36), z_is 239 36 (zf_cst 36 (jn 0) 37), z_is 239 37 (zf_puti 37 8 10 40), z_is 239 40 (zf_aload 40 0 41), z_is 239 41 (zf_cst 41 (jg 1) 42), z_is 239 42 (zf_puti 42 8 11 45), z_is 239 45 (zf_aload 45 0 46), z_is 239 46 (zf_cv 46 210 0 8 49), z_is 239 49 (zf_cst 49 (jn 0) 50), z_is 239 50 (zf_istore 50 2 51)] = true := by decide +kernel
    refine z_aload hB rfl (fun hB => ?_)
    refine z_iload hB rfl (fun hB => ?_)
    refine y_puti ok hB (by decide +kernel) (fun hB => ?_)
    refine z_aload hB rfl (fun hB => ?_)
    refine z_cst hB (fun hB => ?_)
    refine y_puti ok hB (by decide +kernel) (fun hB => ?_)
    refine z_aload hB rfl (fun hB => ?_)
    refine z_cst hB (fun hB => ?_)
    refine y_puti ok hB (by decide +kernel) (fun hB => ?_)
    refine z_aload hB rfl (fun hB => ?_)
    refine z_cst hB (fun hB => ?_)
    refine y_puti ok hB (by decide +kernel) (fun hB => ?_)
    refine z_aload hB rfl (fun hB => ?_)
    refine z_cst hB (fun hB => ?_)
    refine y_puti ok hB (by decide +kernel) (fun hB => ?_)
    refine z_aload hB rfl (fun hB => ?_)
    obtain ⟨q5, e6, h⟩ := z_bind h
    refine y_cv ok hB (as := []) (a := 241) (rest := []) rfl rfl rfl (by decide +kernel) (t_M_thinks (I := (ev_u2 (ev_u2 (ev_u2 (ev_u2 (ev_u2 q3.2 241 12 x1) 241 13 (jn 0)) 241 9 (jn 0)) 241 10 (jn 0)) 241 11 (jg 1))) ok e6) (fun hB => ?_)
    refine z_cst hB (fun hB => ?_)
    refine z_istore hB rfl rfl (fun hB => ?_)
    obtain ⟨q9, e10, h⟩ := z_bind h
    have k11 : z_R G 239 71 [some (.ref (241)), none, none] [] (z_w w q9.2) (.inl (some (.int r.1))) (z_w w r.2) := by
      have hB : z_all [z_is 239 71 (zf_aload 71 0 72), z_is 239 72 (zf_cv 72 238 0 8 75), z_is 239 75 (zf_aload 75 0 76), z_is 239 76 (zf_geti 76 8 10 79), z_is 239 79 (zf_if1 .le 79 93 82)] = true := by decide +kernel
      refine z_aload hB rfl (fun hB => ?_)
      obtain ⟨q12, e13, h⟩ := z_bind h
      refine y_cv ok hB (as := []) (a := 241) (rest := []) rfl rfl rfl (by decide +kernel) (t_M_readsText (I := q9.2) ok e13) (fun hB => ?_)
      refine z_aload hB rfl (fun hB => ?_)
      refine y_geti ok hB (by decide +kernel) (fun hB => ?_)
      refine z_if_le hB (fun hc _ => ?_) (fun hc _ => ?_)
      · have h := z_neg hc h
        have hB : z_all [z_is 239 93 (zf_aload 93 0 94), z_is 239 94 (zf_cst 94 (jn 1) 95), z_is 239 95 (zf_putz 95 8 6 98), z_is 239 98 (zf_aload 98 0 99), z_is 239 99 (zf_cst 99 (jn 0) 100), z_is 239 100 (zf_puti 100 8 7 103), z_is 239 103 (zf_aload 103 0 104), z_is 239 104 (zf_getr 104 8 5 107), z_is 239 107 (zf_cst 107 (jn 0) 108), z_is 239 108 (zf_cst 108 (jn 0) 109), z_is 239 109 (zf_zast 109 110), z_is 239 110 (zf_aload 110 0 111), z_is 239 111 (zf_getr 111 8 5 114), z_is 239 114 (zf_cst 114 (jn 1) 115), z_is 239 115 (zf_cst 115 (jn 0) 116), z_is 239 116 (zf_zast 116 117), z_is 239 117 (zf_aload 117 0 118), z_is 239 118 (zf_getr 118 8 1 121), z_is 239 121 (zf_cst 121 (jn 10) 123), z_is 239 123 (zf_iald 123 124), z_is 239 124 (zf_ret 0)] = true := by decide +kernel
        refine z_aload hB rfl (fun hB => ?_)
        refine z_cst hB (fun hB => ?_)
        refine y_putz ok hB (by decide +kernel) (by decide) (fun hB => ?_)
        refine z_aload hB rfl (fun hB => ?_)
        refine z_cst hB (fun hB => ?_)
        refine y_puti ok hB (by decide +kernel) (fun hB => ?_)
        refine z_aload hB rfl (fun hB => ?_)
        refine y_getr (b := 246) ok hB (by decide +kernel) (by decide +kernel) (fun hB => ?_)
        refine z_cst hB (fun hB => ?_)
        refine z_cst hB (fun hB => ?_)
        obtain ⟨g14, h⟩ := z_gd h
        refine y_zast ok hB (by decide +kernel) (by decide +kernel) g14 (fun hB => ?_)
        refine z_aload hB rfl (fun hB => ?_)
        refine y_getr (b := 246) ok hB (by decide +kernel) (by decide +kernel) (fun hB => ?_)
        refine z_cst hB (fun hB => ?_)
        refine z_cst hB (fun hB => ?_)
        obtain ⟨g15, h⟩ := z_gd h
        refine y_zast ok hB (by decide +kernel) (by decide +kernel) g15 (fun hB => ?_)
        obtain ⟨J16, e17, h⟩ := z_bind h
        rw [z_inj e17]
        refine z_aload hB rfl (fun hB => ?_)
        refine y_getr (b := 242) ok hB (by decide +kernel) (by decide +kernel) (fun hB => ?_)
        refine z_cst hB (fun hB => ?_)
        obtain ⟨g18, h⟩ := z_gd h
        refine y_iald ok hB (by decide +kernel) (by decide +kernel) g18 (fun hB => ?_)
        cases h
        exact z_reti hB
      · have h := z_pos hc h
        have hB : z_all [z_is 239 82 (zf_aload 82 0 83), z_is 239 83 (zf_cst 83 (jn 2) 84), z_is 239 84 (zf_puti 84 8 0 87), z_is 239 87 (zf_aload 87 0 88), z_is 239 88 (zf_cst 88 (jn 0) 89), z_is 239 89 (zf_cv 89 211 1 8 92), z_is 239 92 (zf_ret 0)] = true := by decide +kernel
        refine z_aload hB rfl (fun hB => ?_)
        refine z_cst hB (fun hB => ?_)
        refine y_puti ok hB (by decide +kernel) (fun hB => ?_)
        refine z_aload hB rfl (fun hB => ?_)
        refine z_cst hB (fun hB => ?_)
        obtain ⟨q19, e20, h⟩ := z_bind h
        refine y_cv ok hB (as := [.int ((jn 0))]) (a := 241) (rest := []) rfl rfl rfl (by decide +kernel) (t_M_back (I := (ev_u2 q12 241 0 (jn 2))) ok e20) (fun hB => ?_)
        cases h
        exact z_reti hB
    have l8 : ∀ (m8 : Nat) (p7 : Int32 × z_H), z_it (d_M_load_8) m8 p7 = some q9 → z_R G 239 51 [some (.ref (241)), none, some (.int (p7.1))] [] (z_w w p7.2) (.inl (some (.int r.1))) (z_w w r.2) := by
      intro m8
      induction m8 with
      | zero => intro p7 h; cases h
      | succ m8 i8 =>
        intro p7 h
        obtain ⟨u8, h, b8⟩ := z_it_o h
        unfold d_M_load_8 at h
        have hB : z_all [z_is 239 51 (zf_iload 51 2 52), z_is 239 52 (zf_cst 52 (jn 173) 55), z_is 239 55 (zf_if2 .ge 55 71 58)] = true := by decide +kernel
        refine z_iload hB rfl (fun hB => ?_)
        refine z_cst hB (fun hB => ?_)
        refine z_ic_ge hB (fun hc _ => ?_) (fun hc _ => ?_)
        · have h := z_neg hc h
          cases h
          cases b8
          exact z_weak k11 (z_se (z_sn (z_sn z_s0)))
        · have h := z_pos hc h
          have hB : z_all [z_is 239 58 (zf_aload 58 0 59), z_is 239 59 (zf_getr 59 8 1 62), z_is 239 62 (zf_iload 62 2 63), z_is 239 63 (zf_cst 63 (jn 0) 64), z_is 239 64 (zf_iast 64 65), z_is 239 65 (zf_iinc 65 2 (jn 1) 68), z_is 239 68 (zf_goto 68 51)] = true := by decide +kernel
          refine z_aload hB rfl (fun hB => ?_)
          refine y_getr (b := 242) ok hB (by decide +kernel) (by decide +kernel) (fun hB => ?_)
          refine z_iload hB rfl (fun hB => ?_)
          refine z_cst hB (fun hB => ?_)
          obtain ⟨g21, h⟩ := z_gd h
          refine y_iast ok hB (by decide +kernel) (by decide +kernel) g21 (fun hB => ?_)
          refine z_iinc hB rfl rfl (fun hB => ?_)
          refine z_goto hB (fun hB => ?_)
          cases h
          exact z_weak (i8 ((p7.1 + (jn 1)), (ev_u2 p7.2 242 (z_n (p7.1)) (jn 0))) b8) (z_se (z_sn (z_se z_s0)))
    exact z_weak (l8 _ ((jn 0), q5) e10) (z_se (z_sn (z_se z_s0)))
  · have h := z_pos hc h
    have hB : z_all [z_is 239 18 (zf_cst 18 (jn 0) 19), z_is 239 19 (zf_ret 0)] = true := by decide +kernel
    refine z_cst hB (fun hB => ?_)
    cases h
    exact z_reti hB
def d_M_ofNation (x1 : Int32) (x2 : Int32) (I : z_H) : Option (Int32) := (if z_in ((((jn 18) + ((jn 5) * x1)) + x2)) 173 then some ((I 242 (z_n ((((jn 18) + ((jn 5) * x1)) + x2))))) else none)
/-- FlagLaundryModel.ofNation(II)I -/
theorem t_M_ofNation {G : z_G} {w : ev_W} (ok : z_Ok G w) {x1 : Int32} {x2 : Int32} {I : z_H} {r : Int32} (h : d_M_ofNation x1 x2 I = some r) : z_K G 240 [.ref (241), .int (x1), .int (x2)] (z_w w I) (.inl (some (.int r))) (z_w w I) := by
  refine z_con ok.1 (ml := 3) (by decide +kernel) rfl rfl ?_
  show z_R G 240 0 [some (.ref (241)), some (.int (x1)), some (.int (x2))] [] (z_w w I) (.inl (some (.int r))) (z_w w I)
  unfold d_M_ofNation at h
  have hB : z_all [z_is 240 0 (zf_aload 0 0 1), z_is 240 1 (zf_getr 1 8 1 4), z_is 240 4 (zf_cst 4 (jn 18) 6), z_is 240 6 (zf_cst 6 (jn 5) 7), z_is 240 7 (zf_iload 7 1 8), z_is 240 8 (zf_imul 8 9), z_is 240 9 (zf_iadd 9 10), z_is 240 10 (zf_iload 10 2 11), z_is 240 11 (zf_iadd 11 12), z_is 240 12 (zf_iald 12 13), z_is 240 13 (zf_ret 0)] = true := by decide +kernel
  refine z_aload hB rfl (fun hB => ?_)
  refine y_getr (b := 242) ok hB (by decide +kernel) (by decide +kernel) (fun hB => ?_)
  refine z_cst hB (fun hB => ?_)
  refine z_cst hB (fun hB => ?_)
  refine z_iload hB rfl (fun hB => ?_)
  refine z_imul hB (fun hB => ?_)
  refine z_iadd hB (fun hB => ?_)
  refine z_iload hB rfl (fun hB => ?_)
  refine z_iadd hB (fun hB => ?_)
  obtain ⟨g1, h⟩ := z_gd h
  refine y_iald ok hB (by decide +kernel) (by decide +kernel) g1 (fun hB => ?_)
  cases h
  exact z_reti hB
def d_M_applies (x1 : Int32) (x2 : Int32) (I : z_H) : Option (Int32) := (if x1 = jn 1 then ((d_M_where (x2) I).bind fun q1 => (Option.bind (α := Int32) (if q1 = (jn 3) then some ((jn 1)) else some ((jn 0))) fun q3 => (if (q3) = jn 0 ∨ (q3) = jn 1 then some (q3) else none))) else (if x1 = jn 2 then ((d_M_where (x2) I).bind fun q7 => (Option.bind (α := Int32) (if q7 = (jn 1) then some ((jn 1)) else some ((jn 0))) fun q9 => (if (q9) = jn 0 ∨ (q9) = jn 1 then some (q9) else none))) else (if x1 = jn 3 then ((d_M_where (x2) I).bind fun q13 => (Option.bind (α := Int32) (if q13 = (jn 2) then some ((jn 1)) else some ((jn 0))) fun q15 => (if (q15) = jn 0 ∨ (q15) = jn 1 then some (q15) else none))) else (if x1 = jn 4 then ((d_M_ofFlag (x2) ((jn 3)) I).bind fun q19 => (Option.bind (α := Int32) (if jn 0 < q19 then some ((jn 1)) else some ((jn 0))) fun q21 => (if (q21) = jn 0 ∨ (q21) = jn 1 then some (q21) else none))) else (if x1 = jn 5 then ((d_M_ofFlag (x2) ((jn 6)) I).bind fun q25 => (Option.bind (α := Int32) (if q25 = jn 0 then some ((jn 0)) else some ((jn 1))) fun q27 => (if (q27) = jn 0 ∨ (q27) = jn 1 then some (q27) else none))) else (if x1 = jn 6 then ((d_M_ofFlag (x2) ((jn 4)) I).bind fun q31 => (Option.bind (α := Int32) (if jn 0 < q31 then some ((jn 1)) else some ((jn 0))) fun q33 => (if (q33) = jn 0 ∨ (q33) = jn 1 then some (q33) else none))) else ((d_M_ofFlag (x2) ((jn 5)) I).bind fun q37 => (Option.bind (α := Int32) (if jn 0 < q37 then some ((jn 1)) else some ((jn 0))) fun q39 => (if (q39) = jn 0 ∨ (q39) = jn 1 then some (q39) else none)))))))))
/-- FlagLaundryModel.applies(II)Z -/
theorem t_M_applies {G : z_G} {w : ev_W} (ok : z_Ok G w) {x1 : Int32} {x2 : Int32} {I : z_H} {r : Int32} (h : d_M_applies x1 x2 I = some r) : z_K G 249 [.ref (241), .int (x1), .int (x2)] (z_w w I) (.inl (some (.int r))) (z_w w I) := by
  refine z_con ok.1 (ml := 3) (by decide +kernel) rfl rfl ?_
  show z_R G 249 0 [some (.ref (241)), some (.int (x1)), some (.int (x2))] [] (z_w w I) (.inl (some (.int r))) (z_w w I)
  unfold d_M_applies at h
  have hB : z_all [z_is 249 0 (zf_iload 0 1 1), z_is 249 1 (zf_tsw 1 1 [(jn 1, 40), (jn 2, 55), (jn 3, 70), (jn 4, 85), (jn 5, 100), (jn 6, 116)] 131)] = true := by decide +kernel
  refine z_iload hB rfl (fun hB => ?_)
  refine z_tsw hB ?_
  refine (Decidable.em (x1 = jn 1)).elim (fun hc => ?_) (fun hc => ?_)
  · have h := z_pos hc h
    rw [z_sw_p hc]
    have hB : z_all [z_is 249 40 (zf_aload 40 0 41), z_is 249 41 (zf_iload 41 2 42), z_is 249 42 (zf_cv 42 244 1 8 45), z_is 249 45 (zf_cst 45 (jn 3) 46), z_is 249 46 (zf_if2 .ne 46 53 49)] = true := by decide +kernel
    refine z_aload hB rfl (fun hB => ?_)
    refine z_iload hB rfl (fun hB => ?_)
    obtain ⟨q1, e2, h⟩ := z_bind h
    refine y_cv ok hB (as := [.int (x2)]) (a := 241) (rest := []) rfl rfl rfl (by decide +kernel) (t_M_where (I := I) ok e2) (fun hB => ?_)
    refine z_cst hB (fun hB => ?_)
    obtain ⟨q3, e4, h⟩ := z_bind h
    have k5 : z_R G 249 54 [none, none, none] [.int (q3)] (z_w w I) (.inl (some (.int r))) (z_w w I) := by
      have hB : z_all [z_is 249 54 (zf_ret 1)] = true := by decide +kernel
      obtain ⟨g6, h⟩ := z_gd h
      cases h
      exact z_retz hB g6
    have h := e4
    refine z_ic_ne hB (fun hc _ => ?_) (fun hc _ => ?_)
    · have h := z_neg hc h
      have hB : z_all [z_is 249 53 (zf_cst 53 (jn 0) 54)] = true := by decide +kernel
      refine z_cst hB (fun hB => ?_)
      cases h
      exact z_weak k5 (z_sn (z_sn (z_sn z_s0)))
    · have h := z_pos hc h
      have hB : z_all [z_is 249 49 (zf_cst 49 (jn 1) 50), z_is 249 50 (zf_goto 50 54)] = true := by decide +kernel
      refine z_cst hB (fun hB => ?_)
      refine z_goto hB (fun hB => ?_)
      cases h
      exact z_weak k5 (z_sn (z_sn (z_sn z_s0)))
  · have h := z_neg hc h
    rw [z_sw_n hc]
    refine (Decidable.em (x1 = jn 2)).elim (fun hc => ?_) (fun hc => ?_)
    · have h := z_pos hc h
      rw [z_sw_p hc]
      have hB : z_all [z_is 249 55 (zf_aload 55 0 56), z_is 249 56 (zf_iload 56 2 57), z_is 249 57 (zf_cv 57 244 1 8 60), z_is 249 60 (zf_cst 60 (jn 1) 61), z_is 249 61 (zf_if2 .ne 61 68 64)] = true := by decide +kernel
      refine z_aload hB rfl (fun hB => ?_)
      refine z_iload hB rfl (fun hB => ?_)
      obtain ⟨q7, e8, h⟩ := z_bind h
      refine y_cv ok hB (as := [.int (x2)]) (a := 241) (rest := []) rfl rfl rfl (by decide +kernel) (t_M_where (I := I) ok e8) (fun hB => ?_)
      refine z_cst hB (fun hB => ?_)
      obtain ⟨q9, e10, h⟩ := z_bind h
      have k11 : z_R G 249 69 [none, none, none] [.int (q9)] (z_w w I) (.inl (some (.int r))) (z_w w I) := by
        have hB : z_all [z_is 249 69 (zf_ret 1)] = true := by decide +kernel
        obtain ⟨g12, h⟩ := z_gd h
        cases h
        exact z_retz hB g12
      have h := e10
      refine z_ic_ne hB (fun hc _ => ?_) (fun hc _ => ?_)
      · have h := z_neg hc h
        have hB : z_all [z_is 249 68 (zf_cst 68 (jn 0) 69)] = true := by decide +kernel
        refine z_cst hB (fun hB => ?_)
        cases h
        exact z_weak k11 (z_sn (z_sn (z_sn z_s0)))
      · have h := z_pos hc h
        have hB : z_all [z_is 249 64 (zf_cst 64 (jn 1) 65), z_is 249 65 (zf_goto 65 69)] = true := by decide +kernel
        refine z_cst hB (fun hB => ?_)
        refine z_goto hB (fun hB => ?_)
        cases h
        exact z_weak k11 (z_sn (z_sn (z_sn z_s0)))
    · have h := z_neg hc h
      rw [z_sw_n hc]
      refine (Decidable.em (x1 = jn 3)).elim (fun hc => ?_) (fun hc => ?_)
      · have h := z_pos hc h
        rw [z_sw_p hc]
        have hB : z_all [z_is 249 70 (zf_aload 70 0 71), z_is 249 71 (zf_iload 71 2 72), z_is 249 72 (zf_cv 72 244 1 8 75), z_is 249 75 (zf_cst 75 (jn 2) 76), z_is 249 76 (zf_if2 .ne 76 83 79)] = true := by decide +kernel
        refine z_aload hB rfl (fun hB => ?_)
        refine z_iload hB rfl (fun hB => ?_)
        obtain ⟨q13, e14, h⟩ := z_bind h
        refine y_cv ok hB (as := [.int (x2)]) (a := 241) (rest := []) rfl rfl rfl (by decide +kernel) (t_M_where (I := I) ok e14) (fun hB => ?_)
        refine z_cst hB (fun hB => ?_)
        obtain ⟨q15, e16, h⟩ := z_bind h
        have k17 : z_R G 249 84 [none, none, none] [.int (q15)] (z_w w I) (.inl (some (.int r))) (z_w w I) := by
          have hB : z_all [z_is 249 84 (zf_ret 1)] = true := by decide +kernel
          obtain ⟨g18, h⟩ := z_gd h
          cases h
          exact z_retz hB g18
        have h := e16
        refine z_ic_ne hB (fun hc _ => ?_) (fun hc _ => ?_)
        · have h := z_neg hc h
          have hB : z_all [z_is 249 83 (zf_cst 83 (jn 0) 84)] = true := by decide +kernel
          refine z_cst hB (fun hB => ?_)
          cases h
          exact z_weak k17 (z_sn (z_sn (z_sn z_s0)))
        · have h := z_pos hc h
          have hB : z_all [z_is 249 79 (zf_cst 79 (jn 1) 80), z_is 249 80 (zf_goto 80 84)] = true := by decide +kernel
          refine z_cst hB (fun hB => ?_)
          refine z_goto hB (fun hB => ?_)
          cases h
          exact z_weak k17 (z_sn (z_sn (z_sn z_s0)))
      · have h := z_neg hc h
        rw [z_sw_n hc]
        refine (Decidable.em (x1 = jn 4)).elim (fun hc => ?_) (fun hc => ?_)
        · have h := z_pos hc h
          rw [z_sw_p hc]
          have hB : z_all [z_is 249 85 (zf_aload 85 0 86), z_is 249 86 (zf_iload 86 2 87), z_is 249 87 (zf_cst 87 (jn 3) 88), z_is 249 88 (zf_cv 88 242 2 8 91), z_is 249 91 (zf_if1 .le 91 98 94)] = true := by decide +kernel
          refine z_aload hB rfl (fun hB => ?_)
          refine z_iload hB rfl (fun hB => ?_)
          refine z_cst hB (fun hB => ?_)
          obtain ⟨q19, e20, h⟩ := z_bind h
          refine y_cv ok hB (as := [.int (x2), .int ((jn 3))]) (a := 241) (rest := []) rfl rfl rfl (by decide +kernel) (t_M_ofFlag (I := I) ok e20) (fun hB => ?_)
          obtain ⟨q21, e22, h⟩ := z_bind h
          have k23 : z_R G 249 99 [none, none, none] [.int (q21)] (z_w w I) (.inl (some (.int r))) (z_w w I) := by
            have hB : z_all [z_is 249 99 (zf_ret 1)] = true := by decide +kernel
            obtain ⟨g24, h⟩ := z_gd h
            cases h
            exact z_retz hB g24
          have h := e22
          refine z_if_le hB (fun hc _ => ?_) (fun hc _ => ?_)
          · have h := z_neg hc h
            have hB : z_all [z_is 249 98 (zf_cst 98 (jn 0) 99)] = true := by decide +kernel
            refine z_cst hB (fun hB => ?_)
            cases h
            exact z_weak k23 (z_sn (z_sn (z_sn z_s0)))
          · have h := z_pos hc h
            have hB : z_all [z_is 249 94 (zf_cst 94 (jn 1) 95), z_is 249 95 (zf_goto 95 99)] = true := by decide +kernel
            refine z_cst hB (fun hB => ?_)
            refine z_goto hB (fun hB => ?_)
            cases h
            exact z_weak k23 (z_sn (z_sn (z_sn z_s0)))
        · have h := z_neg hc h
          rw [z_sw_n hc]
          refine (Decidable.em (x1 = jn 5)).elim (fun hc => ?_) (fun hc => ?_)
          · have h := z_pos hc h
            rw [z_sw_p hc]
            have hB : z_all [z_is 249 100 (zf_aload 100 0 101), z_is 249 101 (zf_iload 101 2 102), z_is 249 102 (zf_cst 102 (jn 6) 104), z_is 249 104 (zf_cv 104 242 2 8 107), z_is 249 107 (zf_if1 .eq 107 114 110)] = true := by decide +kernel
            refine z_aload hB rfl (fun hB => ?_)
            refine z_iload hB rfl (fun hB => ?_)
            refine z_cst hB (fun hB => ?_)
            obtain ⟨q25, e26, h⟩ := z_bind h
            refine y_cv ok hB (as := [.int (x2), .int ((jn 6))]) (a := 241) (rest := []) rfl rfl rfl (by decide +kernel) (t_M_ofFlag (I := I) ok e26) (fun hB => ?_)
            obtain ⟨q27, e28, h⟩ := z_bind h
            have k29 : z_R G 249 115 [none, none, none] [.int (q27)] (z_w w I) (.inl (some (.int r))) (z_w w I) := by
              have hB : z_all [z_is 249 115 (zf_ret 1)] = true := by decide +kernel
              obtain ⟨g30, h⟩ := z_gd h
              cases h
              exact z_retz hB g30
            have h := e28
            refine z_if_eq hB (fun hc _ => ?_) (fun hc _ => ?_)
            · have h := z_pos hc h
              have hB : z_all [z_is 249 114 (zf_cst 114 (jn 0) 115)] = true := by decide +kernel
              refine z_cst hB (fun hB => ?_)
              cases h
              exact z_weak k29 (z_sn (z_sn (z_sn z_s0)))
            · have h := z_neg hc h
              have hB : z_all [z_is 249 110 (zf_cst 110 (jn 1) 111), z_is 249 111 (zf_goto 111 115)] = true := by decide +kernel
              refine z_cst hB (fun hB => ?_)
              refine z_goto hB (fun hB => ?_)
              cases h
              exact z_weak k29 (z_sn (z_sn (z_sn z_s0)))
          · have h := z_neg hc h
            rw [z_sw_n hc]
            refine (Decidable.em (x1 = jn 6)).elim (fun hc => ?_) (fun hc => ?_)
            · have h := z_pos hc h
              rw [z_sw_p hc]
              have hB : z_all [z_is 249 116 (zf_aload 116 0 117), z_is 249 117 (zf_iload 117 2 118), z_is 249 118 (zf_cst 118 (jn 4) 119), z_is 249 119 (zf_cv 119 242 2 8 122), z_is 249 122 (zf_if1 .le 122 129 125)] = true := by decide +kernel
              refine z_aload hB rfl (fun hB => ?_)
              refine z_iload hB rfl (fun hB => ?_)
              refine z_cst hB (fun hB => ?_)
              obtain ⟨q31, e32, h⟩ := z_bind h
              refine y_cv ok hB (as := [.int (x2), .int ((jn 4))]) (a := 241) (rest := []) rfl rfl rfl (by decide +kernel) (t_M_ofFlag (I := I) ok e32) (fun hB => ?_)
              obtain ⟨q33, e34, h⟩ := z_bind h
              have k35 : z_R G 249 130 [none, none, none] [.int (q33)] (z_w w I) (.inl (some (.int r))) (z_w w I) := by
                have hB : z_all [z_is 249 130 (zf_ret 1)] = true := by decide +kernel
                obtain ⟨g36, h⟩ := z_gd h
                cases h
                exact z_retz hB g36
              have h := e34
              refine z_if_le hB (fun hc _ => ?_) (fun hc _ => ?_)
              · have h := z_neg hc h
                have hB : z_all [z_is 249 129 (zf_cst 129 (jn 0) 130)] = true := by decide +kernel
                refine z_cst hB (fun hB => ?_)
                cases h
                exact z_weak k35 (z_sn (z_sn (z_sn z_s0)))
              · have h := z_pos hc h
                have hB : z_all [z_is 249 125 (zf_cst 125 (jn 1) 126), z_is 249 126 (zf_goto 126 130)] = true := by decide +kernel
                refine z_cst hB (fun hB => ?_)
                refine z_goto hB (fun hB => ?_)
                cases h
                exact z_weak k35 (z_sn (z_sn (z_sn z_s0)))
            · have h := z_neg hc h
              rw [z_sw_n hc]
              show z_R G 249 131 _ _ _ _ _
              have hB : z_all [z_is 249 131 (zf_aload 131 0 132), z_is 249 132 (zf_iload 132 2 133), z_is 249 133 (zf_cst 133 (jn 5) 134), z_is 249 134 (zf_cv 134 242 2 8 137), z_is 249 137 (zf_if1 .le 137 144 140)] = true := by decide +kernel
              refine z_aload hB rfl (fun hB => ?_)
              refine z_iload hB rfl (fun hB => ?_)
              refine z_cst hB (fun hB => ?_)
              obtain ⟨q37, e38, h⟩ := z_bind h
              refine y_cv ok hB (as := [.int (x2), .int ((jn 5))]) (a := 241) (rest := []) rfl rfl rfl (by decide +kernel) (t_M_ofFlag (I := I) ok e38) (fun hB => ?_)
              obtain ⟨q39, e40, h⟩ := z_bind h
              have k41 : z_R G 249 145 [none, none, none] [.int (q39)] (z_w w I) (.inl (some (.int r))) (z_w w I) := by
                have hB : z_all [z_is 249 145 (zf_ret 1)] = true := by decide +kernel
                obtain ⟨g42, h⟩ := z_gd h
                cases h
                exact z_retz hB g42
              have h := e40
              refine z_if_le hB (fun hc _ => ?_) (fun hc _ => ?_)
              · have h := z_neg hc h
                have hB : z_all [z_is 249 144 (zf_cst 144 (jn 0) 145)] = true := by decide +kernel
                refine z_cst hB (fun hB => ?_)
                cases h
                exact z_weak k41 (z_sn (z_sn (z_sn z_s0)))
              · have h := z_pos hc h
                have hB : z_all [z_is 249 140 (zf_cst 140 (jn 1) 141), z_is 249 141 (zf_goto 141 145)] = true := by decide +kernel
                refine z_cst hB (fun hB => ?_)
                refine z_goto hB (fun hB => ?_)
                cases h
                exact z_weak k41 (z_sn (z_sn (z_sn z_s0)))
def d_M_whyNotReady_2 (x1 : Int32) (I : z_H) (p1 : Int32) : Option ((Int32) ⊕ (Int32)) := (if (jn 7) < p1 then some (Sum.inr ((jn 0))) else ((d_M_applies (p1) (x1) I).bind fun q3 => (if q3 = jn 0 then some (Sum.inl ((p1 + (jn 1)))) else some (Sum.inr (p1)))))
def d_M_whyNotReady (x1 : Int32) (I : z_H) : Option (Int32) := (z_it (d_M_whyNotReady_2 x1 I) z_F ((jn 1)))
/-- FlagLaundryModel.whyNotReady(I)I -/
theorem t_M_whyNotReady {G : z_G} {w : ev_W} (ok : z_Ok G w) {x1 : Int32} {I : z_H} {r : Int32} (h : d_M_whyNotReady x1 I = some r) : z_K G 250 [.ref (241), .int (x1)] (z_w w I) (.inl (some (.int r))) (z_w w I) := by
  refine z_con ok.1 (ml := 3) (by decide +kernel) rfl rfl ?_
  show z_R G 250 0 [some (.ref (241)), some (.int (x1)), none] [] (z_w w I) (.inl (some (.int r))) (z_w w I)
  unfold d_M_whyNotReady at h
  have hB : z_all [z_is 250 0 (zf_cst 0 (jn 1) 1), z_is 250 1 (zf_istore 1 2 2)] = true := by decide +kernel
  refine z_cst hB (fun hB => ?_)
  refine z_istore hB rfl rfl (fun hB => ?_)
  have l2 : ∀ (m2 : Nat) (p1 : Int32), z_it (d_M_whyNotReady_2 x1 I) m2 p1 = some r → z_R G 250 2 [some (.ref (241)), some (.int (x1)), some (.int (p1))] [] (z_w w I) (.inl (some (.int r))) (z_w w I) := by
    intro m2
    induction m2 with
    | zero => intro p1 h; cases h
    | succ m2 i2 =>
      intro p1 h
      obtain ⟨u2, h, b2⟩ := z_it_o h
      unfold d_M_whyNotReady_2 at h
      have hB : z_all [z_is 250 2 (zf_iload 2 2 3), z_is 250 3 (zf_cst 3 (jn 7) 5), z_is 250 5 (zf_if2 .gt 5 25 8)] = true := by decide +kernel
      refine z_iload hB rfl (fun hB => ?_)
      refine z_cst hB (fun hB => ?_)
      refine z_ic_gt hB (fun hc _ => ?_) (fun hc _ => ?_)
      · have h := z_pos hc h
        have hB : z_all [z_is 250 25 (zf_cst 25 (jn 0) 26), z_is 250 26 (zf_ret 0)] = true := by decide +kernel
        refine z_cst hB (fun hB => ?_)
        cases h
        cases b2
        exact z_reti hB
      · have h := z_neg hc h
        have hB : z_all [z_is 250 8 (zf_aload 8 0 9), z_is 250 9 (zf_iload 9 2 10), z_is 250 10 (zf_iload 10 1 11), z_is 250 11 (zf_cv 11 249 2 8 14), z_is 250 14 (zf_if1 .eq 14 19 17)] = true := by decide +kernel
        refine z_aload hB rfl (fun hB => ?_)
        refine z_iload hB rfl (fun hB => ?_)
        refine z_iload hB rfl (fun hB => ?_)
        obtain ⟨q3, e4, h⟩ := z_bind h
        refine y_cv ok hB (as := [.int (p1), .int (x1)]) (a := 241) (rest := []) rfl rfl rfl (by decide +kernel) (t_M_applies (I := I) ok e4) (fun hB => ?_)
        refine z_if_eq hB (fun hc _ => ?_) (fun hc _ => ?_)
        · have h := z_pos hc h
          have hB : z_all [z_is 250 19 (zf_iinc 19 2 (jn 1) 22), z_is 250 22 (zf_goto 22 2)] = true := by decide +kernel
          refine z_iinc hB rfl rfl (fun hB => ?_)
          refine z_goto hB (fun hB => ?_)
          cases h
          exact z_weak (i2 ((p1 + (jn 1))) b2) (z_se (z_se (z_se z_s0)))
        · have h := z_neg hc h
          have hB : z_all [z_is 250 17 (zf_iload 17 2 18), z_is 250 18 (zf_ret 0)] = true := by decide +kernel
          refine z_iload hB rfl (fun hB => ?_)
          cases h
          cases b2
          exact z_reti hB
  exact z_weak (l2 _ ((jn 1)) h) (z_se (z_se (z_se z_s0)))
def d_M_dirtBy_2 (x1 : Int32) (x2 : Int32) (I : z_H) (p1 : Int32 × Int32) : Option ((Int32 × Int32) ⊕ (Int32 × Int32)) := (if z_in ((jn 10)) 173 then (if p1.2 < (I 242 (z_n ((jn 10)))) then ((d_M_isInTub (p1.2) (x1) I).bind fun q7 => (Option.bind (α := Int32) (if q7 = jn 0 then some ((jn 0)) else ((d_M_dirtBehind (p1.2) (x2) I).bind fun q12 => some (q12))) fun q9 => some (Sum.inl ((p1.1 + q9), (p1.2 + (jn 1)))))) else some (Sum.inr (p1.1, p1.2))) else none)
def d_M_dirtBy (x1 : Int32) (x2 : Int32) (I : z_H) : Option (Int32) := ((z_it (d_M_dirtBy_2 x1 x2 I) z_F ((jn 0), (jn 0))).bind fun q3 => some (q3.1))
/-- FlagLaundryModel.dirtBy(II)I -/
theorem t_M_dirtBy {G : z_G} {w : ev_W} (ok : z_Ok G w) {x1 : Int32} {x2 : Int32} {I : z_H} {r : Int32} (h : d_M_dirtBy x1 x2 I = some r) : z_K G 262 [.ref (241), .int (x1), .int (x2)] (z_w w I) (.inl (some (.int r))) (z_w w I) := by
  refine z_con ok.1 (ml := 5) (by decide +kernel) rfl rfl ?_
  show z_R G 262 0 [some (.ref (241)), some (.int (x1)), some (.int (x2)), none, none] [] (z_w w I) (.inl (some (.int r))) (z_w w I)
  unfold d_M_dirtBy at h
  have hB : z_all [z_is 262 0 (zf_cst 0 (jn 0) 1), z_is 262 1 (zf_istore 1 3 2), z_is 262 2 (zf_cst 2 (jn 0) 3), z_is 262 3 (zf_istore 3 4 5)] = true := by decide +kernel
  refine z_cst hB (fun hB => ?_)
  refine z_istore hB rfl rfl (fun hB => ?_)
  refine z_cst hB (fun hB => ?_)
  refine z_istore hB rfl rfl (fun hB => ?_)
  obtain ⟨q3, e4, h⟩ := z_bind h
  have k5 : z_R G 262 47 [none, none, none, some (.int (q3.1)), none] [] (z_w w I) (.inl (some (.int r))) (z_w w I) := by
    have hB : z_all [z_is 262 47 (zf_iload 47 3 48), z_is 262 48 (zf_ret 0)] = true := by decide +kernel
    refine z_iload hB rfl (fun hB => ?_)
    cases h
    exact z_reti hB
  have l2 : ∀ (m2 : Nat) (p1 : Int32 × Int32), z_it (d_M_dirtBy_2 x1 x2 I) m2 p1 = some q3 → z_R G 262 5 [some (.ref (241)), some (.int (x1)), some (.int (x2)), some (.int (p1.1)), some (.int (p1.2))] [] (z_w w I) (.inl (some (.int r))) (z_w w I) := by
    intro m2
    induction m2 with
    | zero => intro p1 h; cases h
    | succ m2 i2 =>
      intro p1 h
      obtain ⟨u2, h, b2⟩ := z_it_o h
      unfold d_M_dirtBy_2 at h
      have hB : z_all [z_is 262 5 (zf_iload 5 4 7), z_is 262 7 (zf_aload 7 0 8), z_is 262 8 (zf_getr 8 8 1 11), z_is 262 11 (zf_cst 11 (jn 10) 13), z_is 262 13 (zf_iald 13 14), z_is 262 14 (zf_if2 .ge 14 47 17)] = true := by decide +kernel
      refine z_iload hB rfl (fun hB => ?_)
      refine z_aload hB rfl (fun hB => ?_)
      refine y_getr (b := 242) ok hB (by decide +kernel) (by decide +kernel) (fun hB => ?_)
      refine z_cst hB (fun hB => ?_)
      obtain ⟨g6, h⟩ := z_gd h
      refine y_iald ok hB (by decide +kernel) (by decide +kernel) g6 (fun hB => ?_)
      refine z_ic_ge hB (fun hc _ => ?_) (fun hc _ => ?_)
      · have h := z_neg hc h
        cases h
        cases b2
        exact z_weak k5 (z_sn (z_sn (z_sn (z_se (z_sn z_s0)))))
      · have h := z_pos hc h
        have hB : z_all [z_is 262 17 (zf_iload 17 3 18), z_is 262 18 (zf_aload 18 0 19), z_is 262 19 (zf_iload 19 4 21), z_is 262 21 (zf_iload 21 1 22), z_is 262 22 (zf_cv 22 246 2 8 25), z_is 262 25 (zf_if1 .eq 25 38 28)] = true := by decide +kernel
        refine z_iload hB rfl (fun hB => ?_)
        refine z_aload hB rfl (fun hB => ?_)
        refine z_iload hB rfl (fun hB => ?_)
        refine z_iload hB rfl (fun hB => ?_)
        obtain ⟨q7, e8, h⟩ := z_bind h
        refine y_cv ok hB (as := [.int (p1.2), .int (x1)]) (a := 241) (rest := [.int (p1.1)]) rfl rfl rfl (by decide +kernel) (t_M_isInTub (I := I) ok e8) (fun hB => ?_)
        obtain ⟨q9, e10, h⟩ := z_bind h
        have k11 : z_R G 262 39 [some (.ref (241)), some (.int (x1)), some (.int (x2)), none, some (.int (p1.2))] [.int (q9), .int (p1.1)] (z_w w I) (.inl (some (.int r))) (z_w w I) := by
          have hB : z_all [z_is 262 39 (zf_iadd 39 40), z_is 262 40 (zf_istore 40 3 41), z_is 262 41 (zf_iinc 41 4 (jn 1) 44), z_is 262 44 (zf_goto 44 5)] = true := by decide +kernel
          refine z_iadd hB (fun hB => ?_)
          refine z_istore hB rfl rfl (fun hB => ?_)
          refine z_iinc hB rfl rfl (fun hB => ?_)
          refine z_goto hB (fun hB => ?_)
          cases h
          exact z_weak (i2 ((p1.1 + q9), (p1.2 + (jn 1))) b2) (z_se (z_se (z_se (z_se (z_se z_s0)))))
        have h := e10
        refine z_if_eq hB (fun hc _ => ?_) (fun hc _ => ?_)
        · have h := z_pos hc h
          have hB : z_all [z_is 262 38 (zf_cst 38 (jn 0) 39)] = true := by decide +kernel
          refine z_cst hB (fun hB => ?_)
          cases h
          exact z_weak k11 (z_se (z_se (z_se (z_sn (z_se z_s0)))))
        · have h := z_neg hc h
          have hB : z_all [z_is 262 28 (zf_aload 28 0 29), z_is 262 29 (zf_iload 29 4 31), z_is 262 31 (zf_iload 31 2 32), z_is 262 32 (zf_cv 32 261 2 8 35), z_is 262 35 (zf_goto 35 39)] = true := by decide +kernel
          refine z_aload hB rfl (fun hB => ?_)
          refine z_iload hB rfl (fun hB => ?_)
          refine z_iload hB rfl (fun hB => ?_)
          obtain ⟨q12, e13, h⟩ := z_bind h
          refine y_cv ok hB (as := [.int (p1.2), .int (x2)]) (a := 241) (rest := [.int (p1.1)]) rfl rfl rfl (by decide +kernel) (t_M_dirtBehind (I := I) ok e13) (fun hB => ?_)
          refine z_goto hB (fun hB => ?_)
          cases h
          exact z_weak k11 (z_se (z_se (z_se (z_sn (z_se z_s0)))))
  exact z_weak (l2 _ ((jn 0), (jn 0)) e4) (z_se (z_se (z_se (z_se (z_se z_s0)))))
def d_M_whyIron (x1 : Int32) (x2 : Int32) (I : z_H) : Option (Int32) := ((d_M_isInBasket (x1) I).bind fun q1 => (if q1 = jn 0 then some ((jn 1)) else ((d_M_ofFlag (x1) ((jn 2)) I).bind fun q3 => (if q3 < x2 then some ((jn 2)) else ((d_M_ofFlag (x1) ((jn 4)) I).bind fun q5 => (if (jn 3) < q5 then some ((jn 3)) else ((d_M_ofFlag (x1) ((jn 6)) I).bind fun q7 => (Option.bind (α := Int32) (if q7 = jn 0 then some ((jn 0)) else some ((jn 4))) fun q9 => some (q9)))))))))
/-- FlagLaundryModel.whyIron(II)I -/
theorem t_M_whyIron {G : z_G} {w : ev_W} (ok : z_Ok G w) {x1 : Int32} {x2 : Int32} {I : z_H} {r : Int32} (h : d_M_whyIron x1 x2 I = some r) : z_K G 273 [.ref (241), .int (x1), .int (x2)] (z_w w I) (.inl (some (.int r))) (z_w w I) := by
  refine z_con ok.1 (ml := 3) (by decide +kernel) rfl rfl ?_
  show z_R G 273 0 [some (.ref (241)), some (.int (x1)), some (.int (x2))] [] (z_w w I) (.inl (some (.int r))) (z_w w I)
  unfold d_M_whyIron at h
  have hB : z_all [z_is 273 0 (zf_aload 0 0 1), z_is 273 1 (zf_iload 1 1 2), z_is 273 2 (zf_cv 2 245 1 8 5), z_is 273 5 (zf_if1 .ne 5 10 8)] = true := by decide +kernel
  refine z_aload hB rfl (fun hB => ?_)
  refine z_iload hB rfl (fun hB => ?_)
  obtain ⟨q1, e2, h⟩ := z_bind h
  refine y_cv ok hB (as := [.int (x1)]) (a := 241) (rest := []) rfl rfl rfl (by decide +kernel) (t_M_isInBasket (I := I) ok e2) (fun hB => ?_)
  refine z_if_ne hB (fun hc _ => ?_) (fun hc _ => ?_)
  · have h := z_neg hc h
    have hB : z_all [z_is 273 10 (zf_iload 10 2 11), z_is 273 11 (zf_aload 11 0 12), z_is 273 12 (zf_iload 12 1 13), z_is 273 13 (zf_cst 13 (jn 2) 14), z_is 273 14 (zf_cv 14 242 2 8 17), z_is 273 17 (zf_if2 .le 17 22 20)] = true := by decide +kernel
    refine z_iload hB rfl (fun hB => ?_)
    refine z_aload hB rfl (fun hB => ?_)
    refine z_iload hB rfl (fun hB => ?_)
    refine z_cst hB (fun hB => ?_)
    obtain ⟨q3, e4, h⟩ := z_bind h
    refine y_cv ok hB (as := [.int (x1), .int ((jn 2))]) (a := 241) (rest := [.int (x2)]) rfl rfl rfl (by decide +kernel) (t_M_ofFlag (I := I) ok e4) (fun hB => ?_)
    refine z_ic_le hB (fun hc _ => ?_) (fun hc _ => ?_)
    · have h := z_neg hc h
      have hB : z_all [z_is 273 22 (zf_aload 22 0 23), z_is 273 23 (zf_iload 23 1 24), z_is 273 24 (zf_cst 24 (jn 4) 25), z_is 273 25 (zf_cv 25 242 2 8 28), z_is 273 28 (zf_cst 28 (jn 3) 29), z_is 273 29 (zf_if2 .le 29 34 32)] = true := by decide +kernel
      refine z_aload hB rfl (fun hB => ?_)
      refine z_iload hB rfl (fun hB => ?_)
      refine z_cst hB (fun hB => ?_)
      obtain ⟨q5, e6, h⟩ := z_bind h
      refine y_cv ok hB (as := [.int (x1), .int ((jn 4))]) (a := 241) (rest := []) rfl rfl rfl (by decide +kernel) (t_M_ofFlag (I := I) ok e6) (fun hB => ?_)
      refine z_cst hB (fun hB => ?_)
      refine z_ic_le hB (fun hc _ => ?_) (fun hc _ => ?_)
      · have h := z_neg hc h
        have hB : z_all [z_is 273 34 (zf_aload 34 0 35), z_is 273 35 (zf_iload 35 1 36), z_is 273 36 (zf_cst 36 (jn 6) 38), z_is 273 38 (zf_cv 38 242 2 8 41), z_is 273 41 (zf_if1 .ne 41 48 44)] = true := by decide +kernel
        refine z_aload hB rfl (fun hB => ?_)
        refine z_iload hB rfl (fun hB => ?_)
        refine z_cst hB (fun hB => ?_)
        obtain ⟨q7, e8, h⟩ := z_bind h
        refine y_cv ok hB (as := [.int (x1), .int ((jn 6))]) (a := 241) (rest := []) rfl rfl rfl (by decide +kernel) (t_M_ofFlag (I := I) ok e8) (fun hB => ?_)
        obtain ⟨q9, e10, h⟩ := z_bind h
        have k11 : z_R G 273 49 [none, none, none] [.int (q9)] (z_w w I) (.inl (some (.int r))) (z_w w I) := by
          have hB : z_all [z_is 273 49 (zf_ret 0)] = true := by decide +kernel
          cases h
          exact z_reti hB
        have h := e10
        refine z_if_ne hB (fun hc _ => ?_) (fun hc _ => ?_)
        · have h := z_neg hc h
          have hB : z_all [z_is 273 48 (zf_cst 48 (jn 4) 49)] = true := by decide +kernel
          refine z_cst hB (fun hB => ?_)
          cases h
          exact z_weak k11 (z_sn (z_sn (z_sn z_s0)))
        · have h := z_pos hc h
          have hB : z_all [z_is 273 44 (zf_cst 44 (jn 0) 45), z_is 273 45 (zf_goto 45 49)] = true := by decide +kernel
          refine z_cst hB (fun hB => ?_)
          refine z_goto hB (fun hB => ?_)
          cases h
          exact z_weak k11 (z_sn (z_sn (z_sn z_s0)))
      · have h := z_pos hc h
        have hB : z_all [z_is 273 32 (zf_cst 32 (jn 3) 33), z_is 273 33 (zf_ret 0)] = true := by decide +kernel
        refine z_cst hB (fun hB => ?_)
        cases h
        exact z_reti hB
    · have h := z_pos hc h
      have hB : z_all [z_is 273 20 (zf_cst 20 (jn 2) 21), z_is 273 21 (zf_ret 0)] = true := by decide +kernel
      refine z_cst hB (fun hB => ?_)
      cases h
      exact z_reti hB
  · have h := z_pos hc h
    have hB : z_all [z_is 273 8 (zf_cst 8 (jn 1) 9), z_is 273 9 (zf_ret 0)] = true := by decide +kernel
    refine z_cst hB (fun hB => ?_)
    cases h
    exact z_reti hB
def d_M_irons (x1 : Int32) (x2 : Int32) (I : z_H) : Option (z_H) := ((d_M_ofFlag (x1) ((jn 5)) I).bind fun q1 => ((d_M_ofFlag (x1) ((jn 4)) I).bind fun q3 => (Option.bind (α := Int32) (if jn 0 < q3 then some ((jn 1)) else some ((jn 0))) fun q5 => ((d_M_one (q5)).bind fun q8 => ((d_M_putsFlag (x1) ((jn 5)) ((z_mx ((jn 0)) ((((q1 - (jn 1)) - x2) - q8)))) I).bind fun q10 => ((d_M_ofFlag (x1) ((jn 4)) q10).bind fun q12 => ((d_M_putsFlag (x1) ((jn 4)) ((z_mx ((jn 0)) ((q12 - x2)))) q10).bind fun q14 => some (q14))))))))
/-- FlagLaundryModel.irons(II)V -/
theorem t_M_irons {G : z_G} {w : ev_W} (ok : z_Ok G w) {x1 : Int32} {x2 : Int32} {I : z_H} {r : z_H} (h : d_M_irons x1 x2 I = some r) : z_K G 274 [.ref (241), .int (x1), .int (x2)] (z_w w I) (.inl none) (z_w w r) := by
  refine z_con ok.1 (ml := 3) (by decide +kernel) rfl rfl ?_
  show z_R G 274 0 [some (.ref (241)), some (.int (x1)), some (.int (x2))] [] (z_w w I) (.inl none) (z_w w r)
  unfold d_M_irons at h
  have hB : z_all [z_is 274 0 (zf_aload 0 0 1), z_is 274 1 (zf_iload 1 1 2), z_is 274 2 (zf_cst 2 (jn 5) 3), z_is 274 3 (zf_cst 3 (jn 0) 4), z_is 274 4 (zf_aload 4 0 5), z_is 274 5 (zf_iload 5 1 6), z_is 274 6 (zf_cst 6 (jn 5) 7), z_is 274 7 (zf_cv 7 242 2 8 10), z_is 274 10 (zf_cst 10 (jn 1) 11), z_is 274 11 (zf_isub 11 12), z_is 274 12 (zf_iload 12 2 13), z_is 274 13 (zf_isub 13 14), z_is 274 14 (zf_aload 14 0 15), z_is 274 15 (zf_iload 15 1 16), z_is 274 16 (zf_cst 16 (jn 4) 17), z_is 274 17 (zf_cv 17 242 2 8 20), z_is 274 20 (zf_if1 .le 20 27 23)] = true := by decide +kernel
  refine z_aload hB rfl (fun hB => ?_)
  refine z_iload hB rfl (fun hB => ?_)
  refine z_cst hB (fun hB => ?_)
  refine z_cst hB (fun hB => ?_)
  refine z_aload hB rfl (fun hB => ?_)
  refine z_iload hB rfl (fun hB => ?_)
  refine z_cst hB (fun hB => ?_)
  obtain ⟨q1, e2, h⟩ := z_bind h
  refine y_cv ok hB (as := [.int (x1), .int ((jn 5))]) (a := 241) (rest := [.int ((jn 0)), .int ((jn 5)), .int (x1), .ref (241)]) rfl rfl rfl (by decide +kernel) (t_M_ofFlag (I := I) ok e2) (fun hB => ?_)
  refine z_cst hB (fun hB => ?_)
  refine z_isub hB (fun hB => ?_)
  refine z_iload hB rfl (fun hB => ?_)
  refine z_isub hB (fun hB => ?_)
  refine z_aload hB rfl (fun hB => ?_)
  refine z_iload hB rfl (fun hB => ?_)
  refine z_cst hB (fun hB => ?_)
  obtain ⟨q3, e4, h⟩ := z_bind h
  refine y_cv ok hB (as := [.int (x1), .int ((jn 4))]) (a := 241) (rest := [.int (((q1 - (jn 1)) - x2)), .int ((jn 0)), .int ((jn 5)), .int (x1), .ref (241)]) rfl rfl rfl (by decide +kernel) (t_M_ofFlag (I := I) ok e4) (fun hB => ?_)
  obtain ⟨q5, e6, h⟩ := z_bind h
  have k7 : z_R G 274 28 [some (.ref (241)), some (.int (x1)), some (.int (x2))] [.int (q5), .int (((q1 - (jn 1)) - x2)), .int ((jn 0)), .int ((jn 5)), .int (x1), .ref (241)] (z_w w I) (.inl none) (z_w w r) := by
    have hB : z_all [z_is 274 28 (zf_cs 28 204 1 31), z_is 274 31 (zf_isub 31 32), z_is 274 32 (zf_nat 32 100 35), z_is 274 35 (zf_cv 35 243 3 8 38), z_is 274 38 (zf_aload 38 0 39), z_is 274 39 (zf_iload 39 1 40), z_is 274 40 (zf_cst 40 (jn 4) 41), z_is 274 41 (zf_cst 41 (jn 0) 42), z_is 274 42 (zf_aload 42 0 43), z_is 274 43 (zf_iload 43 1 44), z_is 274 44 (zf_cst 44 (jn 4) 45), z_is 274 45 (zf_cv 45 242 2 8 48), z_is 274 48 (zf_iload 48 2 49), z_is 274 49 (zf_isub 49 50), z_is 274 50 (zf_nat 50 100 53), z_is 274 53 (zf_cv 53 243 3 8 56), z_is 274 56 (zf_ret 6)] = true := by decide +kernel
    obtain ⟨q8, e9, h⟩ := z_bind h
    refine z_callS hB (as := [.int (q5)]) (rest := [.int (((q1 - (jn 1)) - x2)), .int ((jn 0)), .int ((jn 5)), .int (x1), .ref (241)]) rfl rfl rfl (t_M_one (I := I) ok e9) (fun hB => ?_)
    refine z_isub hB (fun hB => ?_)
    refine z_max hB rfl (fun hB => ?_)
    obtain ⟨q10, e11, h⟩ := z_bind h
    refine y_cv ok hB (as := [.int (x1), .int ((jn 5)), .int ((z_mx ((jn 0)) ((((q1 - (jn 1)) - x2) - q8))))]) (a := 241) (rest := []) rfl rfl rfl (by decide +kernel) (t_M_putsFlag (I := I) ok e11) (fun hB => ?_)
    refine z_aload hB rfl (fun hB => ?_)
    refine z_iload hB rfl (fun hB => ?_)
    refine z_cst hB (fun hB => ?_)
    refine z_cst hB (fun hB => ?_)
    refine z_aload hB rfl (fun hB => ?_)
    refine z_iload hB rfl (fun hB => ?_)
    refine z_cst hB (fun hB => ?_)
    obtain ⟨q12, e13, h⟩ := z_bind h
    refine y_cv ok hB (as := [.int (x1), .int ((jn 4))]) (a := 241) (rest := [.int ((jn 0)), .int ((jn 4)), .int (x1), .ref (241)]) rfl rfl rfl (by decide +kernel) (t_M_ofFlag (I := q10) ok e13) (fun hB => ?_)
    refine z_iload hB rfl (fun hB => ?_)
    refine z_isub hB (fun hB => ?_)
    refine z_max hB rfl (fun hB => ?_)
    obtain ⟨q14, e15, h⟩ := z_bind h
    refine y_cv ok hB (as := [.int (x1), .int ((jn 4)), .int ((z_mx ((jn 0)) ((q12 - x2))))]) (a := 241) (rest := []) rfl rfl rfl (by decide +kernel) (t_M_putsFlag (I := q10) ok e15) (fun hB => ?_)
    cases h
    exact z_retv hB
  have h := e6
  refine z_if_le hB (fun hc _ => ?_) (fun hc _ => ?_)
  · have h := z_neg hc h
    have hB : z_all [z_is 274 27 (zf_cst 27 (jn 0) 28)] = true := by decide +kernel
    refine z_cst hB (fun hB => ?_)
    cases h
    exact z_weak k7 (z_se (z_se (z_se z_s0)))
  · have h := z_pos hc h
    have hB : z_all [z_is 274 23 (zf_cst 23 (jn 1) 24), z_is 274 24 (zf_goto 24 28)] = true := by decide +kernel
    refine z_cst hB (fun hB => ?_)
    refine z_goto hB (fun hB => ?_)
    cases h
    exact z_weak k7 (z_se (z_se (z_se z_s0)))
def d_M_flagsOf_2 (x1 : Int32) (I : z_H) (p1 : Int32 × Int32) : Option ((Int32 × Int32) ⊕ (Int32 × Int32)) := (if z_in ((jn 10)) 173 then (if p1.2 < (I 242 (z_n ((jn 10)))) then ((d_M_ofFlag (p1.2) ((jn 0)) I).bind fun q7 => (Option.bind (α := Int32) (if q7 = x1 then some ((jn 1)) else some ((jn 0))) fun q9 => ((d_M_one (q9)).bind fun q12 => some (Sum.inl ((p1.1 + q12), (p1.2 + (jn 1))))))) else some (Sum.inr (p1.1, p1.2))) else none)
def d_M_flagsOf (x1 : Int32) (I : z_H) : Option (Int32) := ((z_it (d_M_flagsOf_2 x1 I) z_F ((jn 0), (jn 0))).bind fun q3 => some (q3.1))
/-- FlagLaundryModel.flagsOf(I)I -/
theorem t_M_flagsOf {G : z_G} {w : ev_W} (ok : z_Ok G w) {x1 : Int32} {I : z_H} {r : Int32} (h : d_M_flagsOf x1 I = some r) : z_K G 275 [.ref (241), .int (x1)] (z_w w I) (.inl (some (.int r))) (z_w w I) := by
  refine z_con ok.1 (ml := 4) (by decide +kernel) rfl rfl ?_
  show z_R G 275 0 [some (.ref (241)), some (.int (x1)), none, none] [] (z_w w I) (.inl (some (.int r))) (z_w w I)
  unfold d_M_flagsOf at h
  have hB : z_all [z_is 275 0 (zf_cst 0 (jn 0) 1), z_is 275 1 (zf_istore 1 2 2), z_is 275 2 (zf_cst 2 (jn 0) 3), z_is 275 3 (zf_istore 3 3 4)] = true := by decide +kernel
  refine z_cst hB (fun hB => ?_)
  refine z_istore hB rfl rfl (fun hB => ?_)
  refine z_cst hB (fun hB => ?_)
  refine z_istore hB rfl rfl (fun hB => ?_)
  obtain ⟨q3, e4, h⟩ := z_bind h
  have k5 : z_R G 275 42 [none, none, some (.int (q3.1)), none] [] (z_w w I) (.inl (some (.int r))) (z_w w I) := by
    have hB : z_all [z_is 275 42 (zf_iload 42 2 43), z_is 275 43 (zf_ret 0)] = true := by decide +kernel
    refine z_iload hB rfl (fun hB => ?_)
    cases h
    exact z_reti hB
  have l2 : ∀ (m2 : Nat) (p1 : Int32 × Int32), z_it (d_M_flagsOf_2 x1 I) m2 p1 = some q3 → z_R G 275 4 [some (.ref (241)), some (.int (x1)), some (.int (p1.1)), some (.int (p1.2))] [] (z_w w I) (.inl (some (.int r))) (z_w w I) := by
    intro m2
    induction m2 with
    | zero => intro p1 h; cases h
    | succ m2 i2 =>
      intro p1 h
      obtain ⟨u2, h, b2⟩ := z_it_o h
      unfold d_M_flagsOf_2 at h
      have hB : z_all [z_is 275 4 (zf_iload 4 3 5), z_is 275 5 (zf_aload 5 0 6), z_is 275 6 (zf_getr 6 8 1 9), z_is 275 9 (zf_cst 9 (jn 10) 11), z_is 275 11 (zf_iald 11 12), z_is 275 12 (zf_if2 .ge 12 42 15)] = true := by decide +kernel
      refine z_iload hB rfl (fun hB => ?_)
      refine z_aload hB rfl (fun hB => ?_)
      refine y_getr (b := 242) ok hB (by decide +kernel) (by decide +kernel) (fun hB => ?_)
      refine z_cst hB (fun hB => ?_)
      obtain ⟨g6, h⟩ := z_gd h
      refine y_iald ok hB (by decide +kernel) (by decide +kernel) g6 (fun hB => ?_)
      refine z_ic_ge hB (fun hc _ => ?_) (fun hc _ => ?_)
      · have h := z_neg hc h
        cases h
        cases b2
        exact z_weak k5 (z_sn (z_sn (z_se (z_sn z_s0))))
      · have h := z_pos hc h
        have hB : z_all [z_is 275 15 (zf_iload 15 2 16), z_is 275 16 (zf_aload 16 0 17), z_is 275 17 (zf_iload 17 3 18), z_is 275 18 (zf_cst 18 (jn 0) 19), z_is 275 19 (zf_cv 19 242 2 8 22), z_is 275 22 (zf_iload 22 1 23), z_is 275 23 (zf_if2 .ne 23 30 26)] = true := by decide +kernel
        refine z_iload hB rfl (fun hB => ?_)
        refine z_aload hB rfl (fun hB => ?_)
        refine z_iload hB rfl (fun hB => ?_)
        refine z_cst hB (fun hB => ?_)
        obtain ⟨q7, e8, h⟩ := z_bind h
        refine y_cv ok hB (as := [.int (p1.2), .int ((jn 0))]) (a := 241) (rest := [.int (p1.1)]) rfl rfl rfl (by decide +kernel) (t_M_ofFlag (I := I) ok e8) (fun hB => ?_)
        refine z_iload hB rfl (fun hB => ?_)
        obtain ⟨q9, e10, h⟩ := z_bind h
        have k11 : z_R G 275 31 [some (.ref (241)), some (.int (x1)), none, some (.int (p1.2))] [.int (q9), .int (p1.1)] (z_w w I) (.inl (some (.int r))) (z_w w I) := by
          have hB : z_all [z_is 275 31 (zf_cs 31 204 1 34), z_is 275 34 (zf_iadd 34 35), z_is 275 35 (zf_istore 35 2 36), z_is 275 36 (zf_iinc 36 3 (jn 1) 39), z_is 275 39 (zf_goto 39 4)] = true := by decide +kernel
          obtain ⟨q12, e13, h⟩ := z_bind h
          refine z_callS hB (as := [.int (q9)]) (rest := [.int (p1.1)]) rfl rfl rfl (t_M_one (I := I) ok e13) (fun hB => ?_)
          refine z_iadd hB (fun hB => ?_)
          refine z_istore hB rfl rfl (fun hB => ?_)
          refine z_iinc hB rfl rfl (fun hB => ?_)
          refine z_goto hB (fun hB => ?_)
          cases h
          exact z_weak (i2 ((p1.1 + q12), (p1.2 + (jn 1))) b2) (z_se (z_se (z_se (z_se z_s0))))
        have h := e10
        refine z_ic_ne hB (fun hc _ => ?_) (fun hc _ => ?_)
        · have h := z_neg hc h
          have hB : z_all [z_is 275 30 (zf_cst 30 (jn 0) 31)] = true := by decide +kernel
          refine z_cst hB (fun hB => ?_)
          cases h
          exact z_weak k11 (z_se (z_se (z_sn (z_se z_s0))))
        · have h := z_pos hc h
          have hB : z_all [z_is 275 26 (zf_cst 26 (jn 1) 27), z_is 275 27 (zf_goto 27 31)] = true := by decide +kernel
          refine z_cst hB (fun hB => ?_)
          refine z_goto hB (fun hB => ?_)
          cases h
          exact z_weak k11 (z_se (z_se (z_sn (z_se z_s0))))
  exact z_weak (l2 _ ((jn 0), (jn 0)) e4) (z_se (z_se (z_se (z_se z_s0))))
def d_M_lateAt (x1 : Int32) (x2 : Int32) (I : z_H) : Option (Int32) := ((d_M_ofNation (x1) ((jn 0)) I).bind fun q1 => some ((z_mx ((jn 0)) ((x2 - q1)))))
/-- FlagLaundryModel.lateAt(II)I -/
theorem t_M_lateAt {G : z_G} {w : ev_W} (ok : z_Ok G w) {x1 : Int32} {x2 : Int32} {I : z_H} {r : Int32} (h : d_M_lateAt x1 x2 I = some r) : z_K G 276 [.ref (241), .int (x1), .int (x2)] (z_w w I) (.inl (some (.int r))) (z_w w I) := by
  refine z_con ok.1 (ml := 3) (by decide +kernel) rfl rfl ?_
  show z_R G 276 0 [some (.ref (241)), some (.int (x1)), some (.int (x2))] [] (z_w w I) (.inl (some (.int r))) (z_w w I)
  unfold d_M_lateAt at h
  have hB : z_all [z_is 276 0 (zf_cst 0 (jn 0) 1), z_is 276 1 (zf_iload 1 2 2), z_is 276 2 (zf_aload 2 0 3), z_is 276 3 (zf_iload 3 1 4), z_is 276 4 (zf_cst 4 (jn 0) 5), z_is 276 5 (zf_cv 5 240 2 8 8), z_is 276 8 (zf_isub 8 9), z_is 276 9 (zf_nat 9 100 12), z_is 276 12 (zf_ret 0)] = true := by decide +kernel
  refine z_cst hB (fun hB => ?_)
  refine z_iload hB rfl (fun hB => ?_)
  refine z_aload hB rfl (fun hB => ?_)
  refine z_iload hB rfl (fun hB => ?_)
  refine z_cst hB (fun hB => ?_)
  obtain ⟨q1, e2, h⟩ := z_bind h
  refine y_cv ok hB (as := [.int (x1), .int ((jn 0))]) (a := 241) (rest := [.int (x2), .int ((jn 0))]) rfl rfl rfl (by decide +kernel) (t_M_ofNation (I := I) ok e2) (fun hB => ?_)
  refine z_isub hB (fun hB => ?_)
  refine z_max hB rfl (fun hB => ?_)
  cases h
  exact z_reti hB
def d_M_payAt (x1 : Int32) (x2 : Int32) (I : z_H) : Option (Int32) := ((d_M_flagsOf (x1) I).bind fun q1 => ((d_M_ofNation (x1) ((jn 1)) I).bind fun q3 => ((d_M_ofNation (x1) ((jn 2)) I).bind fun q5 => ((d_M_lateAt (x1) (x2) I).bind fun q7 => some ((q1 * (z_mx ((jn 0)) ((q3 - (q5 * q7))))))))))
/-- FlagLaundryModel.payAt(II)I -/
theorem t_M_payAt {G : z_G} {w : ev_W} (ok : z_Ok G w) {x1 : Int32} {x2 : Int32} {I : z_H} {r : Int32} (h : d_M_payAt x1 x2 I = some r) : z_K G 277 [.ref (241), .int (x1), .int (x2)] (z_w w I) (.inl (some (.int r))) (z_w w I) := by
  refine z_con ok.1 (ml := 3) (by decide +kernel) rfl rfl ?_
  show z_R G 277 0 [some (.ref (241)), some (.int (x1)), some (.int (x2))] [] (z_w w I) (.inl (some (.int r))) (z_w w I)
  unfold d_M_payAt at h
  have hB : z_all [z_is 277 0 (zf_aload 0 0 1), z_is 277 1 (zf_iload 1 1 2), z_is 277 2 (zf_cv 2 275 1 8 5), z_is 277 5 (zf_cst 5 (jn 0) 6), z_is 277 6 (zf_aload 6 0 7), z_is 277 7 (zf_iload 7 1 8), z_is 277 8 (zf_cst 8 (jn 1) 9), z_is 277 9 (zf_cv 9 240 2 8 12), z_is 277 12 (zf_aload 12 0 13), z_is 277 13 (zf_iload 13 1 14), z_is 277 14 (zf_cst 14 (jn 2) 15), z_is 277 15 (zf_cv 15 240 2 8 18), z_is 277 18 (zf_aload 18 0 19), z_is 277 19 (zf_iload 19 1 20), z_is 277 20 (zf_iload 20 2 21), z_is 277 21 (zf_cv 21 276 2 8 24), z_is 277 24 (zf_imul 24 25), z_is 277 25 (zf_isub 25 26), z_is 277 26 (zf_nat 26 100 29), z_is 277 29 (zf_imul 29 30), z_is 277 30 (zf_ret 0)] = true := by decide +kernel
  refine z_aload hB rfl (fun hB => ?_)
  refine z_iload hB rfl (fun hB => ?_)
  obtain ⟨q1, e2, h⟩ := z_bind h
  refine y_cv ok hB (as := [.int (x1)]) (a := 241) (rest := []) rfl rfl rfl (by decide +kernel) (t_M_flagsOf (I := I) ok e2) (fun hB => ?_)
  refine z_cst hB (fun hB => ?_)
  refine z_aload hB rfl (fun hB => ?_)
  refine z_iload hB rfl (fun hB => ?_)
  refine z_cst hB (fun hB => ?_)
  obtain ⟨q3, e4, h⟩ := z_bind h
  refine y_cv ok hB (as := [.int (x1), .int ((jn 1))]) (a := 241) (rest := [.int ((jn 0)), .int (q1)]) rfl rfl rfl (by decide +kernel) (t_M_ofNation (I := I) ok e4) (fun hB => ?_)
  refine z_aload hB rfl (fun hB => ?_)
  refine z_iload hB rfl (fun hB => ?_)
  refine z_cst hB (fun hB => ?_)
  obtain ⟨q5, e6, h⟩ := z_bind h
  refine y_cv ok hB (as := [.int (x1), .int ((jn 2))]) (a := 241) (rest := [.int (q3), .int ((jn 0)), .int (q1)]) rfl rfl rfl (by decide +kernel) (t_M_ofNation (I := I) ok e6) (fun hB => ?_)
  refine z_aload hB rfl (fun hB => ?_)
  refine z_iload hB rfl (fun hB => ?_)
  refine z_iload hB rfl (fun hB => ?_)
  obtain ⟨q7, e8, h⟩ := z_bind h
  refine y_cv ok hB (as := [.int (x1), .int (x2)]) (a := 241) (rest := [.int (q5), .int (q3), .int ((jn 0)), .int (q1)]) rfl rfl rfl (by decide +kernel) (t_M_lateAt (I := I) ok e8) (fun hB => ?_)
  refine z_imul hB (fun hB => ?_)
  refine z_isub hB (fun hB => ?_)
  refine z_max hB rfl (fun hB => ?_)
  refine z_imul hB (fun hB => ?_)
  cases h
  exact z_reti hB
def d_M_isHanded (x1 : Int32) (I : z_H) : Option (Int32) := ((d_M_ofNation (x1) ((jn 3)) I).bind fun q1 => (Option.bind (α := Int32) (if q1 = (jn 1) then some ((jn 1)) else some ((jn 0))) fun q3 => (if (q3) = jn 0 ∨ (q3) = jn 1 then some (q3) else none)))
/-- FlagLaundryModel.isHanded(I)Z -/
theorem t_M_isHanded {G : z_G} {w : ev_W} (ok : z_Ok G w) {x1 : Int32} {I : z_H} {r : Int32} (h : d_M_isHanded x1 I = some r) : z_K G 278 [.ref (241), .int (x1)] (z_w w I) (.inl (some (.int r))) (z_w w I) := by
  refine z_con ok.1 (ml := 2) (by decide +kernel) rfl rfl ?_
  show z_R G 278 0 [some (.ref (241)), some (.int (x1))] [] (z_w w I) (.inl (some (.int r))) (z_w w I)
  unfold d_M_isHanded at h
  have hB : z_all [z_is 278 0 (zf_aload 0 0 1), z_is 278 1 (zf_iload 1 1 2), z_is 278 2 (zf_cst 2 (jn 3) 3), z_is 278 3 (zf_cv 3 240 2 8 6), z_is 278 6 (zf_cst 6 (jn 1) 7), z_is 278 7 (zf_if2 .ne 7 14 10)] = true := by decide +kernel
  refine z_aload hB rfl (fun hB => ?_)
  refine z_iload hB rfl (fun hB => ?_)
  refine z_cst hB (fun hB => ?_)
  obtain ⟨q1, e2, h⟩ := z_bind h
  refine y_cv ok hB (as := [.int (x1), .int ((jn 3))]) (a := 241) (rest := []) rfl rfl rfl (by decide +kernel) (t_M_ofNation (I := I) ok e2) (fun hB => ?_)
  refine z_cst hB (fun hB => ?_)
  obtain ⟨q3, e4, h⟩ := z_bind h
  have k5 : z_R G 278 15 [none, none] [.int (q3)] (z_w w I) (.inl (some (.int r))) (z_w w I) := by
    have hB : z_all [z_is 278 15 (zf_ret 1)] = true := by decide +kernel
    obtain ⟨g6, h⟩ := z_gd h
    cases h
    exact z_retz hB g6
  have h := e4
  refine z_ic_ne hB (fun hc _ => ?_) (fun hc _ => ?_)
  · have h := z_neg hc h
    have hB : z_all [z_is 278 14 (zf_cst 14 (jn 0) 15)] = true := by decide +kernel
    refine z_cst hB (fun hB => ?_)
    cases h
    exact z_weak k5 (z_sn (z_sn z_s0))
  · have h := z_pos hc h
    have hB : z_all [z_is 278 10 (zf_cst 10 (jn 1) 11), z_is 278 11 (zf_goto 11 15)] = true := by decide +kernel
    refine z_cst hB (fun hB => ?_)
    refine z_goto hB (fun hB => ?_)
    cases h
    exact z_weak k5 (z_sn (z_sn z_s0))
def d_M_culpritOf_2 (x1 : Int32) (I : z_H) (p1 : Int32) : Option ((Int32) ⊕ (Int32)) := (if z_in ((jn 10)) 173 then (if p1 < (I 242 (z_n ((jn 10)))) then ((d_M_ofFlag (p1) ((jn 0)) I).bind fun q4 => (if q4 = x1 then ((d_M_whyNotReady (p1) I).bind fun q6 => (if q6 = jn 0 then some (Sum.inl ((p1 + (jn 1)))) else some (Sum.inr (p1)))) else some (Sum.inl ((p1 + (jn 1)))))) else some (Sum.inr ((jg 1)))) else none)
def d_M_culpritOf (x1 : Int32) (I : z_H) : Option (Int32) := (z_it (d_M_culpritOf_2 x1 I) z_F ((jn 0)))
/-- FlagLaundryModel.culpritOf(I)I -/
theorem t_M_culpritOf {G : z_G} {w : ev_W} (ok : z_Ok G w) {x1 : Int32} {I : z_H} {r : Int32} (h : d_M_culpritOf x1 I = some r) : z_K G 279 [.ref (241), .int (x1)] (z_w w I) (.inl (some (.int r))) (z_w w I) := by
  refine z_con ok.1 (ml := 3) (by decide +kernel) rfl rfl ?_
  show z_R G 279 0 [some (.ref (241)), some (.int (x1)), none] [] (z_w w I) (.inl (some (.int r))) (z_w w I)
  unfold d_M_culpritOf at h
  have hB : z_all [z_is 279 0 (zf_cst 0 (jn 0) 1), z_is 279 1 (zf_istore 1 2 2)] = true := by decide +kernel
  refine z_cst hB (fun hB => ?_)
  refine z_istore hB rfl rfl (fun hB => ?_)
  have l2 : ∀ (m2 : Nat) (p1 : Int32), z_it (d_M_culpritOf_2 x1 I) m2 p1 = some r → z_R G 279 2 [some (.ref (241)), some (.int (x1)), some (.int (p1))] [] (z_w w I) (.inl (some (.int r))) (z_w w I) := by
    intro m2
    induction m2 with
    | zero => intro p1 h; cases h
    | succ m2 i2 =>
      intro p1 h
      obtain ⟨u2, h, b2⟩ := z_it_o h
      unfold d_M_culpritOf_2 at h
      have hB : z_all [z_is 279 2 (zf_iload 2 2 3), z_is 279 3 (zf_aload 3 0 4), z_is 279 4 (zf_getr 4 8 1 7), z_is 279 7 (zf_cst 7 (jn 10) 9), z_is 279 9 (zf_iald 9 10), z_is 279 10 (zf_if2 .ge 10 39 13)] = true := by decide +kernel
      refine z_iload hB rfl (fun hB => ?_)
      refine z_aload hB rfl (fun hB => ?_)
      refine y_getr (b := 242) ok hB (by decide +kernel) (by decide +kernel) (fun hB => ?_)
      refine z_cst hB (fun hB => ?_)
      obtain ⟨g3, h⟩ := z_gd h
      refine y_iald ok hB (by decide +kernel) (by decide +kernel) g3 (fun hB => ?_)
      refine z_ic_ge hB (fun hc _ => ?_) (fun hc _ => ?_)
      · have h := z_neg hc h
        have hB : z_all [z_is 279 39 (zf_cst 39 (jg 1) 40), z_is 279 40 (zf_ret 0)] = true := by decide +kernel
        refine z_cst hB (fun hB => ?_)
        cases h
        cases b2
        exact z_reti hB
      · have h := z_pos hc h
        have hB : z_all [z_is 279 13 (zf_aload 13 0 14), z_is 279 14 (zf_iload 14 2 15), z_is 279 15 (zf_cst 15 (jn 0) 16), z_is 279 16 (zf_cv 16 242 2 8 19), z_is 279 19 (zf_iload 19 1 20), z_is 279 20 (zf_if2 .ne 20 33 23)] = true := by decide +kernel
        refine z_aload hB rfl (fun hB => ?_)
        refine z_iload hB rfl (fun hB => ?_)
        refine z_cst hB (fun hB => ?_)
        obtain ⟨q4, e5, h⟩ := z_bind h
        refine y_cv ok hB (as := [.int (p1), .int ((jn 0))]) (a := 241) (rest := []) rfl rfl rfl (by decide +kernel) (t_M_ofFlag (I := I) ok e5) (fun hB => ?_)
        refine z_iload hB rfl (fun hB => ?_)
        refine z_ic_ne hB (fun hc _ => ?_) (fun hc _ => ?_)
        · have h := z_neg hc h
          have hB : z_all [z_is 279 33 (zf_iinc 33 2 (jn 1) 36), z_is 279 36 (zf_goto 36 2)] = true := by decide +kernel
          refine z_iinc hB rfl rfl (fun hB => ?_)
          refine z_goto hB (fun hB => ?_)
          cases h
          exact z_weak (i2 ((p1 + (jn 1))) b2) (z_se (z_se (z_se z_s0)))
        · have h := z_pos hc h
          have hB : z_all [z_is 279 23 (zf_aload 23 0 24), z_is 279 24 (zf_iload 24 2 25), z_is 279 25 (zf_cv 25 250 1 8 28), z_is 279 28 (zf_if1 .eq 28 33 31)] = true := by decide +kernel
          refine z_aload hB rfl (fun hB => ?_)
          refine z_iload hB rfl (fun hB => ?_)
          obtain ⟨q6, e7, h⟩ := z_bind h
          refine y_cv ok hB (as := [.int (p1)]) (a := 241) (rest := []) rfl rfl rfl (by decide +kernel) (t_M_whyNotReady (I := I) ok e7) (fun hB => ?_)
          refine z_if_eq hB (fun hc _ => ?_) (fun hc _ => ?_)
          · have h := z_pos hc h
            have hB : z_all [z_is 279 33 (zf_iinc 33 2 (jn 1) 36), z_is 279 36 (zf_goto 36 2)] = true := by decide +kernel
            refine z_iinc hB rfl rfl (fun hB => ?_)
            refine z_goto hB (fun hB => ?_)
            cases h
            exact z_weak (i2 ((p1 + (jn 1))) b2) (z_se (z_se (z_se z_s0)))
          · have h := z_neg hc h
            have hB : z_all [z_is 279 31 (zf_iload 31 2 32), z_is 279 32 (zf_ret 0)] = true := by decide +kernel
            refine z_iload hB rfl (fun hB => ?_)
            cases h
            cases b2
            exact z_reti hB
  exact z_weak (l2 _ ((jn 0)) h) (z_se (z_se (z_se z_s0)))
def d_M_flagsAt_2 (x1 : Int32) (I : z_H) (p1 : Int32 × Int32) : Option ((Int32 × Int32) ⊕ (Int32 × Int32)) := (if z_in ((jn 10)) 173 then (if p1.2 < (I 242 (z_n ((jn 10)))) then ((d_M_where (p1.2) I).bind fun q7 => (Option.bind (α := Int32) (if q7 = x1 then some ((jn 1)) else some ((jn 0))) fun q9 => ((d_M_one (q9)).bind fun q12 => some (Sum.inl ((p1.1 + q12), (p1.2 + (jn 1))))))) else some (Sum.inr (p1.1, p1.2))) else none)
def d_M_flagsAt (x1 : Int32) (I : z_H) : Option (Int32) := ((z_it (d_M_flagsAt_2 x1 I) z_F ((jn 0), (jn 0))).bind fun q3 => some (q3.1))
/-- FlagLaundryModel.flagsAt(I)I -/
theorem t_M_flagsAt {G : z_G} {w : ev_W} (ok : z_Ok G w) {x1 : Int32} {I : z_H} {r : Int32} (h : d_M_flagsAt x1 I = some r) : z_K G 280 [.ref (241), .int (x1)] (z_w w I) (.inl (some (.int r))) (z_w w I) := by
  refine z_con ok.1 (ml := 4) (by decide +kernel) rfl rfl ?_
  show z_R G 280 0 [some (.ref (241)), some (.int (x1)), none, none] [] (z_w w I) (.inl (some (.int r))) (z_w w I)
  unfold d_M_flagsAt at h
  have hB : z_all [z_is 280 0 (zf_cst 0 (jn 0) 1), z_is 280 1 (zf_istore 1 2 2), z_is 280 2 (zf_cst 2 (jn 0) 3), z_is 280 3 (zf_istore 3 3 4)] = true := by decide +kernel
  refine z_cst hB (fun hB => ?_)
  refine z_istore hB rfl rfl (fun hB => ?_)
  refine z_cst hB (fun hB => ?_)
  refine z_istore hB rfl rfl (fun hB => ?_)
  obtain ⟨q3, e4, h⟩ := z_bind h
  have k5 : z_R G 280 41 [none, none, some (.int (q3.1)), none] [] (z_w w I) (.inl (some (.int r))) (z_w w I) := by
    have hB : z_all [z_is 280 41 (zf_iload 41 2 42), z_is 280 42 (zf_ret 0)] = true := by decide +kernel
    refine z_iload hB rfl (fun hB => ?_)
    cases h
    exact z_reti hB
  have l2 : ∀ (m2 : Nat) (p1 : Int32 × Int32), z_it (d_M_flagsAt_2 x1 I) m2 p1 = some q3 → z_R G 280 4 [some (.ref (241)), some (.int (x1)), some (.int (p1.1)), some (.int (p1.2))] [] (z_w w I) (.inl (some (.int r))) (z_w w I) := by
    intro m2
    induction m2 with
    | zero => intro p1 h; cases h
    | succ m2 i2 =>
      intro p1 h
      obtain ⟨u2, h, b2⟩ := z_it_o h
      unfold d_M_flagsAt_2 at h
      have hB : z_all [z_is 280 4 (zf_iload 4 3 5), z_is 280 5 (zf_aload 5 0 6), z_is 280 6 (zf_getr 6 8 1 9), z_is 280 9 (zf_cst 9 (jn 10) 11), z_is 280 11 (zf_iald 11 12), z_is 280 12 (zf_if2 .ge 12 41 15)] = true := by decide +kernel
      refine z_iload hB rfl (fun hB => ?_)
      refine z_aload hB rfl (fun hB => ?_)
      refine y_getr (b := 242) ok hB (by decide +kernel) (by decide +kernel) (fun hB => ?_)
      refine z_cst hB (fun hB => ?_)
      obtain ⟨g6, h⟩ := z_gd h
      refine y_iald ok hB (by decide +kernel) (by decide +kernel) g6 (fun hB => ?_)
      refine z_ic_ge hB (fun hc _ => ?_) (fun hc _ => ?_)
      · have h := z_neg hc h
        cases h
        cases b2
        exact z_weak k5 (z_sn (z_sn (z_se (z_sn z_s0))))
      · have h := z_pos hc h
        have hB : z_all [z_is 280 15 (zf_iload 15 2 16), z_is 280 16 (zf_aload 16 0 17), z_is 280 17 (zf_iload 17 3 18), z_is 280 18 (zf_cv 18 244 1 8 21), z_is 280 21 (zf_iload 21 1 22), z_is 280 22 (zf_if2 .ne 22 29 25)] = true := by decide +kernel
        refine z_iload hB rfl (fun hB => ?_)
        refine z_aload hB rfl (fun hB => ?_)
        refine z_iload hB rfl (fun hB => ?_)
        obtain ⟨q7, e8, h⟩ := z_bind h
        refine y_cv ok hB (as := [.int (p1.2)]) (a := 241) (rest := [.int (p1.1)]) rfl rfl rfl (by decide +kernel) (t_M_where (I := I) ok e8) (fun hB => ?_)
        refine z_iload hB rfl (fun hB => ?_)
        obtain ⟨q9, e10, h⟩ := z_bind h
        have k11 : z_R G 280 30 [some (.ref (241)), some (.int (x1)), none, some (.int (p1.2))] [.int (q9), .int (p1.1)] (z_w w I) (.inl (some (.int r))) (z_w w I) := by
          have hB : z_all [z_is 280 30 (zf_cs 30 204 1 33), z_is 280 33 (zf_iadd 33 34), z_is 280 34 (zf_istore 34 2 35), z_is 280 35 (zf_iinc 35 3 (jn 1) 38), z_is 280 38 (zf_goto 38 4)] = true := by decide +kernel
          obtain ⟨q12, e13, h⟩ := z_bind h
          refine z_callS hB (as := [.int (q9)]) (rest := [.int (p1.1)]) rfl rfl rfl (t_M_one (I := I) ok e13) (fun hB => ?_)
          refine z_iadd hB (fun hB => ?_)
          refine z_istore hB rfl rfl (fun hB => ?_)
          refine z_iinc hB rfl rfl (fun hB => ?_)
          refine z_goto hB (fun hB => ?_)
          cases h
          exact z_weak (i2 ((p1.1 + q12), (p1.2 + (jn 1))) b2) (z_se (z_se (z_se (z_se z_s0))))
        have h := e10
        refine z_ic_ne hB (fun hc _ => ?_) (fun hc _ => ?_)
        · have h := z_neg hc h
          have hB : z_all [z_is 280 29 (zf_cst 29 (jn 0) 30)] = true := by decide +kernel
          refine z_cst hB (fun hB => ?_)
          cases h
          exact z_weak k11 (z_se (z_se (z_sn (z_se z_s0))))
        · have h := z_pos hc h
          have hB : z_all [z_is 280 25 (zf_cst 25 (jn 1) 26), z_is 280 26 (zf_goto 26 30)] = true := by decide +kernel
          refine z_cst hB (fun hB => ?_)
          refine z_goto hB (fun hB => ?_)
          cases h
          exact z_weak k11 (z_se (z_se (z_sn (z_se z_s0))))
  exact z_weak (l2 _ ((jn 0), (jn 0)) e4) (z_se (z_se (z_se (z_se z_s0))))
def d_M_readyMany_2 (I : z_H) (p1 : Int32 × Int32) : Option ((Int32 × Int32) ⊕ (Int32 × Int32)) := (if z_in ((jn 10)) 173 then (if p1.2 < (I 242 (z_n ((jn 10)))) then ((d_M_whyNotReady (p1.2) I).bind fun q7 => (Option.bind (α := Int32) (if q7 = jn 0 then some ((jn 1)) else some ((jn 0))) fun q9 => ((d_M_one (q9)).bind fun q12 => some (Sum.inl ((p1.1 + q12), (p1.2 + (jn 1))))))) else some (Sum.inr (p1.1, p1.2))) else none)
def d_M_readyMany  (I : z_H) : Option (Int32) := ((z_it (d_M_readyMany_2 I) z_F ((jn 0), (jn 0))).bind fun q3 => some (q3.1))
/-- FlagLaundryModel.readyMany()I -/
theorem t_M_readyMany {G : z_G} {w : ev_W} (ok : z_Ok G w) {I : z_H} {r : Int32} (h : d_M_readyMany I = some r) : z_K G 281 [.ref (241)] (z_w w I) (.inl (some (.int r))) (z_w w I) := by
  refine z_con ok.1 (ml := 3) (by decide +kernel) rfl rfl ?_
  show z_R G 281 0 [some (.ref (241)), none, none] [] (z_w w I) (.inl (some (.int r))) (z_w w I)
  unfold d_M_readyMany at h
  have hB : z_all [z_is 281 0 (zf_cst 0 (jn 0) 1), z_is 281 1 (zf_istore 1 1 2), z_is 281 2 (zf_cst 2 (jn 0) 3), z_is 281 3 (zf_istore 3 2 4)] = true := by decide +kernel
  refine z_cst hB (fun hB => ?_)
  refine z_istore hB rfl rfl (fun hB => ?_)
  refine z_cst hB (fun hB => ?_)
  refine z_istore hB rfl rfl (fun hB => ?_)
  obtain ⟨q3, e4, h⟩ := z_bind h
  have k5 : z_R G 281 40 [none, some (.int (q3.1)), none] [] (z_w w I) (.inl (some (.int r))) (z_w w I) := by
    have hB : z_all [z_is 281 40 (zf_iload 40 1 41), z_is 281 41 (zf_ret 0)] = true := by decide +kernel
    refine z_iload hB rfl (fun hB => ?_)
    cases h
    exact z_reti hB
  have l2 : ∀ (m2 : Nat) (p1 : Int32 × Int32), z_it (d_M_readyMany_2 I) m2 p1 = some q3 → z_R G 281 4 [some (.ref (241)), some (.int (p1.1)), some (.int (p1.2))] [] (z_w w I) (.inl (some (.int r))) (z_w w I) := by
    intro m2
    induction m2 with
    | zero => intro p1 h; cases h
    | succ m2 i2 =>
      intro p1 h
      obtain ⟨u2, h, b2⟩ := z_it_o h
      unfold d_M_readyMany_2 at h
      have hB : z_all [z_is 281 4 (zf_iload 4 2 5), z_is 281 5 (zf_aload 5 0 6), z_is 281 6 (zf_getr 6 8 1 9), z_is 281 9 (zf_cst 9 (jn 10) 11), z_is 281 11 (zf_iald 11 12), z_is 281 12 (zf_if2 .ge 12 40 15)] = true := by decide +kernel
      refine z_iload hB rfl (fun hB => ?_)
      refine z_aload hB rfl (fun hB => ?_)
      refine y_getr (b := 242) ok hB (by decide +kernel) (by decide +kernel) (fun hB => ?_)
      refine z_cst hB (fun hB => ?_)
      obtain ⟨g6, h⟩ := z_gd h
      refine y_iald ok hB (by decide +kernel) (by decide +kernel) g6 (fun hB => ?_)
      refine z_ic_ge hB (fun hc _ => ?_) (fun hc _ => ?_)
      · have h := z_neg hc h
        cases h
        cases b2
        exact z_weak k5 (z_sn (z_se (z_sn z_s0)))
      · have h := z_pos hc h
        have hB : z_all [z_is 281 15 (zf_iload 15 1 16), z_is 281 16 (zf_aload 16 0 17), z_is 281 17 (zf_iload 17 2 18), z_is 281 18 (zf_cv 18 250 1 8 21), z_is 281 21 (zf_if1 .ne 21 28 24)] = true := by decide +kernel
        refine z_iload hB rfl (fun hB => ?_)
        refine z_aload hB rfl (fun hB => ?_)
        refine z_iload hB rfl (fun hB => ?_)
        obtain ⟨q7, e8, h⟩ := z_bind h
        refine y_cv ok hB (as := [.int (p1.2)]) (a := 241) (rest := [.int (p1.1)]) rfl rfl rfl (by decide +kernel) (t_M_whyNotReady (I := I) ok e8) (fun hB => ?_)
        obtain ⟨q9, e10, h⟩ := z_bind h
        have k11 : z_R G 281 29 [some (.ref (241)), none, some (.int (p1.2))] [.int (q9), .int (p1.1)] (z_w w I) (.inl (some (.int r))) (z_w w I) := by
          have hB : z_all [z_is 281 29 (zf_cs 29 204 1 32), z_is 281 32 (zf_iadd 32 33), z_is 281 33 (zf_istore 33 1 34), z_is 281 34 (zf_iinc 34 2 (jn 1) 37), z_is 281 37 (zf_goto 37 4)] = true := by decide +kernel
          obtain ⟨q12, e13, h⟩ := z_bind h
          refine z_callS hB (as := [.int (q9)]) (rest := [.int (p1.1)]) rfl rfl rfl (t_M_one (I := I) ok e13) (fun hB => ?_)
          refine z_iadd hB (fun hB => ?_)
          refine z_istore hB rfl rfl (fun hB => ?_)
          refine z_iinc hB rfl rfl (fun hB => ?_)
          refine z_goto hB (fun hB => ?_)
          cases h
          exact z_weak (i2 ((p1.1 + q12), (p1.2 + (jn 1))) b2) (z_se (z_se (z_se z_s0)))
        have h := e10
        refine z_if_ne hB (fun hc _ => ?_) (fun hc _ => ?_)
        · have h := z_neg hc h
          have hB : z_all [z_is 281 28 (zf_cst 28 (jn 0) 29)] = true := by decide +kernel
          refine z_cst hB (fun hB => ?_)
          cases h
          exact z_weak k11 (z_se (z_sn (z_se z_s0)))
        · have h := z_pos hc h
          have hB : z_all [z_is 281 24 (zf_cst 24 (jn 1) 25), z_is 281 25 (zf_goto 25 29)] = true := by decide +kernel
          refine z_cst hB (fun hB => ?_)
          refine z_goto hB (fun hB => ?_)
          cases h
          exact z_weak k11 (z_se (z_sn (z_se z_s0)))
  exact z_weak (l2 _ ((jn 0), (jn 0)) e4) (z_se (z_se (z_se z_s0)))
def d_M_count (x1 : Int32) (I : z_H) : Option (Int32 × z_H) := ((d_M_in (x1) ((jn 0)) ((jn 15))).bind fun q1 => ((d_M_mayTwo ((I 241 6)) (q1) I).bind fun q3 => (if q3.1 = jn 0 then some (((jn 0), q3.2)) else (if x1 = jn 0 then (if z_in ((jn 6)) 173 then some (((q3.2 242 (z_n ((jn 6)))), q3.2)) else none) else (if x1 = jn 1 then (if z_in ((jn 7)) 173 then some (((q3.2 242 (z_n ((jn 7)))), q3.2)) else none) else (if x1 = jn 2 then (if z_in ((jn 8)) 173 then some (((q3.2 242 (z_n ((jn 8)))), q3.2)) else none) else (if x1 = jn 3 then (if z_in ((jn 9)) 173 then some (((q3.2 242 (z_n ((jn 9)))), q3.2)) else none) else (if x1 = jn 4 then (if z_in ((jn 10)) 173 then some (((q3.2 242 (z_n ((jn 10)))), q3.2)) else none) else (if x1 = jn 5 then (if z_in ((jn 0)) 173 then some (((q3.2 242 (z_n ((jn 0)))), q3.2)) else none) else (if x1 = jn 6 then (if z_in ((jn 1)) 173 then some (((q3.2 242 (z_n ((jn 1)))), q3.2)) else none) else (if x1 = jn 7 then ((d_M_flagsAt ((x1 - (jn 7))) q3.2).bind fun q12 => some ((q12, q3.2))) else (if x1 = jn 8 then ((d_M_flagsAt ((x1 - (jn 7))) q3.2).bind fun q14 => some ((q14, q3.2))) else (if x1 = jn 9 then ((d_M_flagsAt ((x1 - (jn 7))) q3.2).bind fun q16 => some ((q16, q3.2))) else (if x1 = jn 10 then ((d_M_flagsAt ((x1 - (jn 7))) q3.2).bind fun q18 => some ((q18, q3.2))) else (if x1 = jn 11 then (if z_in ((jn 2)) 173 then some (((q3.2 242 (z_n ((jn 2)))), q3.2)) else none) else (if x1 = jn 12 then (if z_in ((jn 3)) 173 then some (((q3.2 242 (z_n ((jn 3)))), q3.2)) else none) else (if x1 = jn 13 then (if z_in ((jn 4)) 173 then some (((q3.2 242 (z_n ((jn 4)))), q3.2)) else none) else (if x1 = jn 14 then (if z_in ((jn 5)) 173 then some (((q3.2 242 (z_n ((jn 5)))), q3.2)) else none) else (if x1 = jn 15 then ((d_M_readyMany q3.2).bind fun q24 => some ((q24, q3.2))) else ((d_M_flagsAt ((x1 - (jn 7))) q3.2).bind fun q26 => some ((q26, q3.2))))))))))))))))))))))
/-- FlagLaundryModel.count(I)I -/
theorem t_M_count {G : z_G} {w : ev_W} (ok : z_Ok G w) {x1 : Int32} {I : z_H} {r : Int32 × z_H} (h : d_M_count x1 I = some r) : z_K G 282 [.ref (241), .int (x1)] (z_w w I) (.inl (some (.int r.1))) (z_w w r.2) := by
  refine z_con ok.1 (ml := 2) (by decide +kernel) rfl rfl ?_
  show z_R G 282 0 [some (.ref (241)), some (.int (x1))] [] (z_w w I) (.inl (some (.int r.1))) (z_w w r.2)
  unfold d_M_count at h
  have hB : z_all [z_is 282 0 (zf_aload 0 0 1), z_is 282 1 (zf_aload 1 0 2), z_is 282 2 (zf_geti 2 8 6 5), z_is 282 5 (zf_iload 5 1 6), z_is 282 6 (zf_cst 6 (jn 0) 7), z_is 282 7 (zf_cst 7 (jn 15) 9), z_is 282 9 (zf_cs 9 203 3 12), z_is 282 12 (zf_cv 12 207 2 8 15), z_is 282 15 (zf_if1 .ne 15 20 18)] = true := by decide +kernel
  refine z_aload hB rfl (fun hB => ?_)
  refine z_aload hB rfl (fun hB => ?_)
  refine y_geti ok hB (by decide +kernel) (fun hB => ?_)
  refine z_iload hB rfl (fun hB => ?_)
  refine z_cst hB (fun hB => ?_)
  refine z_cst hB (fun hB => ?_)
  obtain ⟨q1, e2, h⟩ := z_bind h
  refine z_callS hB (as := [.int (x1), .int ((jn 0)), .int ((jn 15))]) (rest := [.int ((I 241 6)), .ref (241)]) rfl rfl rfl (t_M_in (I := I) ok e2) (fun hB => ?_)
  obtain ⟨q3, e4, h⟩ := z_bind h
  refine y_cv ok hB (as := [.int ((I 241 6)), .int (q1)]) (a := 241) (rest := []) rfl rfl rfl (by decide +kernel) (t_M_mayTwo (I := I) ok e4) (fun hB => ?_)
  refine z_if_ne hB (fun hc _ => ?_) (fun hc _ => ?_)
  · have h := z_neg hc h
    have hB : z_all [z_is 282 20 (zf_iload 20 1 21), z_is 282 21 (zf_tsw 21 0 [(jn 0, 100), (jn 1, 108), (jn 2, 116), (jn 3, 124), (jn 4, 132), (jn 5, 140), (jn 6, 147), (jn 7, 187), (jn 8, 187), (jn 9, 187), (jn 10, 187), (jn 11, 154), (jn 12, 161), (jn 13, 168), (jn 14, 175), (jn 15, 182)] 187)] = true := by decide +kernel
    refine z_iload hB rfl (fun hB => ?_)
    refine z_tsw hB ?_
    refine (Decidable.em (x1 = jn 0)).elim (fun hc => ?_) (fun hc => ?_)
    · have h := z_pos hc h
      rw [z_sw_p hc]
      have hB : z_all [z_is 282 100 (zf_aload 100 0 101), z_is 282 101 (zf_getr 101 8 1 104), z_is 282 104 (zf_cst 104 (jn 6) 106), z_is 282 106 (zf_iald 106 107), z_is 282 107 (zf_ret 0)] = true := by decide +kernel
      refine z_aload hB rfl (fun hB => ?_)
      refine y_getr (b := 242) ok hB (by decide +kernel) (by decide +kernel) (fun hB => ?_)
      refine z_cst hB (fun hB => ?_)
      obtain ⟨g5, h⟩ := z_gd h
      refine y_iald ok hB (by decide +kernel) (by decide +kernel) g5 (fun hB => ?_)
      cases h
      exact z_reti hB
    · have h := z_neg hc h
      rw [z_sw_n hc]
      refine (Decidable.em (x1 = jn 1)).elim (fun hc => ?_) (fun hc => ?_)
      · have h := z_pos hc h
        rw [z_sw_p hc]
        have hB : z_all [z_is 282 108 (zf_aload 108 0 109), z_is 282 109 (zf_getr 109 8 1 112), z_is 282 112 (zf_cst 112 (jn 7) 114), z_is 282 114 (zf_iald 114 115), z_is 282 115 (zf_ret 0)] = true := by decide +kernel
        refine z_aload hB rfl (fun hB => ?_)
        refine y_getr (b := 242) ok hB (by decide +kernel) (by decide +kernel) (fun hB => ?_)
        refine z_cst hB (fun hB => ?_)
        obtain ⟨g6, h⟩ := z_gd h
        refine y_iald ok hB (by decide +kernel) (by decide +kernel) g6 (fun hB => ?_)
        cases h
        exact z_reti hB
      · have h := z_neg hc h
        rw [z_sw_n hc]
        refine (Decidable.em (x1 = jn 2)).elim (fun hc => ?_) (fun hc => ?_)
        · have h := z_pos hc h
          rw [z_sw_p hc]
          have hB : z_all [z_is 282 116 (zf_aload 116 0 117), z_is 282 117 (zf_getr 117 8 1 120), z_is 282 120 (zf_cst 120 (jn 8) 122), z_is 282 122 (zf_iald 122 123), z_is 282 123 (zf_ret 0)] = true := by decide +kernel
          refine z_aload hB rfl (fun hB => ?_)
          refine y_getr (b := 242) ok hB (by decide +kernel) (by decide +kernel) (fun hB => ?_)
          refine z_cst hB (fun hB => ?_)
          obtain ⟨g7, h⟩ := z_gd h
          refine y_iald ok hB (by decide +kernel) (by decide +kernel) g7 (fun hB => ?_)
          cases h
          exact z_reti hB
        · have h := z_neg hc h
          rw [z_sw_n hc]
          refine (Decidable.em (x1 = jn 3)).elim (fun hc => ?_) (fun hc => ?_)
          · have h := z_pos hc h
            rw [z_sw_p hc]
            have hB : z_all [z_is 282 124 (zf_aload 124 0 125), z_is 282 125 (zf_getr 125 8 1 128), z_is 282 128 (zf_cst 128 (jn 9) 130), z_is 282 130 (zf_iald 130 131), z_is 282 131 (zf_ret 0)] = true := by decide +kernel
            refine z_aload hB rfl (fun hB => ?_)
            refine y_getr (b := 242) ok hB (by decide +kernel) (by decide +kernel) (fun hB => ?_)
            refine z_cst hB (fun hB => ?_)
            obtain ⟨g8, h⟩ := z_gd h
            refine y_iald ok hB (by decide +kernel) (by decide +kernel) g8 (fun hB => ?_)
            cases h
            exact z_reti hB
          · have h := z_neg hc h
            rw [z_sw_n hc]
            refine (Decidable.em (x1 = jn 4)).elim (fun hc => ?_) (fun hc => ?_)
            · have h := z_pos hc h
              rw [z_sw_p hc]
              have hB : z_all [z_is 282 132 (zf_aload 132 0 133), z_is 282 133 (zf_getr 133 8 1 136), z_is 282 136 (zf_cst 136 (jn 10) 138), z_is 282 138 (zf_iald 138 139), z_is 282 139 (zf_ret 0)] = true := by decide +kernel
              refine z_aload hB rfl (fun hB => ?_)
              refine y_getr (b := 242) ok hB (by decide +kernel) (by decide +kernel) (fun hB => ?_)
              refine z_cst hB (fun hB => ?_)
              obtain ⟨g9, h⟩ := z_gd h
              refine y_iald ok hB (by decide +kernel) (by decide +kernel) g9 (fun hB => ?_)
              cases h
              exact z_reti hB
            · have h := z_neg hc h
              rw [z_sw_n hc]
              refine (Decidable.em (x1 = jn 5)).elim (fun hc => ?_) (fun hc => ?_)
              · have h := z_pos hc h
                rw [z_sw_p hc]
                have hB : z_all [z_is 282 140 (zf_aload 140 0 141), z_is 282 141 (zf_getr 141 8 1 144), z_is 282 144 (zf_cst 144 (jn 0) 145), z_is 282 145 (zf_iald 145 146), z_is 282 146 (zf_ret 0)] = true := by decide +kernel
                refine z_aload hB rfl (fun hB => ?_)
                refine y_getr (b := 242) ok hB (by decide +kernel) (by decide +kernel) (fun hB => ?_)
                refine z_cst hB (fun hB => ?_)
                obtain ⟨g10, h⟩ := z_gd h
                refine y_iald ok hB (by decide +kernel) (by decide +kernel) g10 (fun hB => ?_)
                cases h
                exact z_reti hB
              · have h := z_neg hc h
                rw [z_sw_n hc]
                refine (Decidable.em (x1 = jn 6)).elim (fun hc => ?_) (fun hc => ?_)
                · have h := z_pos hc h
                  rw [z_sw_p hc]
                  have hB : z_all [z_is 282 147 (zf_aload 147 0 148), z_is 282 148 (zf_getr 148 8 1 151), z_is 282 151 (zf_cst 151 (jn 1) 152), z_is 282 152 (zf_iald 152 153), z_is 282 153 (zf_ret 0)] = true := by decide +kernel
                  refine z_aload hB rfl (fun hB => ?_)
                  refine y_getr (b := 242) ok hB (by decide +kernel) (by decide +kernel) (fun hB => ?_)
                  refine z_cst hB (fun hB => ?_)
                  obtain ⟨g11, h⟩ := z_gd h
                  refine y_iald ok hB (by decide +kernel) (by decide +kernel) g11 (fun hB => ?_)
                  cases h
                  exact z_reti hB
                · have h := z_neg hc h
                  rw [z_sw_n hc]
                  refine (Decidable.em (x1 = jn 7)).elim (fun hc => ?_) (fun hc => ?_)
                  · have h := z_pos hc h
                    rw [z_sw_p hc]
                    have hB : z_all [z_is 282 187 (zf_aload 187 0 188), z_is 282 188 (zf_iload 188 1 189), z_is 282 189 (zf_cst 189 (jn 7) 191), z_is 282 191 (zf_isub 191 192), z_is 282 192 (zf_cv 192 280 1 8 195), z_is 282 195 (zf_ret 0)] = true := by decide +kernel
                    refine z_aload hB rfl (fun hB => ?_)
                    refine z_iload hB rfl (fun hB => ?_)
                    refine z_cst hB (fun hB => ?_)
                    refine z_isub hB (fun hB => ?_)
                    obtain ⟨q12, e13, h⟩ := z_bind h
                    refine y_cv ok hB (as := [.int ((x1 - (jn 7)))]) (a := 241) (rest := []) rfl rfl rfl (by decide +kernel) (t_M_flagsAt (I := q3.2) ok e13) (fun hB => ?_)
                    cases h
                    exact z_reti hB
                  · have h := z_neg hc h
                    rw [z_sw_n hc]
                    refine (Decidable.em (x1 = jn 8)).elim (fun hc => ?_) (fun hc => ?_)
                    · have h := z_pos hc h
                      rw [z_sw_p hc]
                      have hB : z_all [z_is 282 187 (zf_aload 187 0 188), z_is 282 188 (zf_iload 188 1 189), z_is 282 189 (zf_cst 189 (jn 7) 191), z_is 282 191 (zf_isub 191 192), z_is 282 192 (zf_cv 192 280 1 8 195), z_is 282 195 (zf_ret 0)] = true := by decide +kernel
                      refine z_aload hB rfl (fun hB => ?_)
                      refine z_iload hB rfl (fun hB => ?_)
                      refine z_cst hB (fun hB => ?_)
                      refine z_isub hB (fun hB => ?_)
                      obtain ⟨q14, e15, h⟩ := z_bind h
                      refine y_cv ok hB (as := [.int ((x1 - (jn 7)))]) (a := 241) (rest := []) rfl rfl rfl (by decide +kernel) (t_M_flagsAt (I := q3.2) ok e15) (fun hB => ?_)
                      cases h
                      exact z_reti hB
                    · have h := z_neg hc h
                      rw [z_sw_n hc]
                      refine (Decidable.em (x1 = jn 9)).elim (fun hc => ?_) (fun hc => ?_)
                      · have h := z_pos hc h
                        rw [z_sw_p hc]
                        have hB : z_all [z_is 282 187 (zf_aload 187 0 188), z_is 282 188 (zf_iload 188 1 189), z_is 282 189 (zf_cst 189 (jn 7) 191), z_is 282 191 (zf_isub 191 192), z_is 282 192 (zf_cv 192 280 1 8 195), z_is 282 195 (zf_ret 0)] = true := by decide +kernel
                        refine z_aload hB rfl (fun hB => ?_)
                        refine z_iload hB rfl (fun hB => ?_)
                        refine z_cst hB (fun hB => ?_)
                        refine z_isub hB (fun hB => ?_)
                        obtain ⟨q16, e17, h⟩ := z_bind h
                        refine y_cv ok hB (as := [.int ((x1 - (jn 7)))]) (a := 241) (rest := []) rfl rfl rfl (by decide +kernel) (t_M_flagsAt (I := q3.2) ok e17) (fun hB => ?_)
                        cases h
                        exact z_reti hB
                      · have h := z_neg hc h
                        rw [z_sw_n hc]
                        refine (Decidable.em (x1 = jn 10)).elim (fun hc => ?_) (fun hc => ?_)
                        · have h := z_pos hc h
                          rw [z_sw_p hc]
                          have hB : z_all [z_is 282 187 (zf_aload 187 0 188), z_is 282 188 (zf_iload 188 1 189), z_is 282 189 (zf_cst 189 (jn 7) 191), z_is 282 191 (zf_isub 191 192), z_is 282 192 (zf_cv 192 280 1 8 195), z_is 282 195 (zf_ret 0)] = true := by decide +kernel
                          refine z_aload hB rfl (fun hB => ?_)
                          refine z_iload hB rfl (fun hB => ?_)
                          refine z_cst hB (fun hB => ?_)
                          refine z_isub hB (fun hB => ?_)
                          obtain ⟨q18, e19, h⟩ := z_bind h
                          refine y_cv ok hB (as := [.int ((x1 - (jn 7)))]) (a := 241) (rest := []) rfl rfl rfl (by decide +kernel) (t_M_flagsAt (I := q3.2) ok e19) (fun hB => ?_)
                          cases h
                          exact z_reti hB
                        · have h := z_neg hc h
                          rw [z_sw_n hc]
                          refine (Decidable.em (x1 = jn 11)).elim (fun hc => ?_) (fun hc => ?_)
                          · have h := z_pos hc h
                            rw [z_sw_p hc]
                            have hB : z_all [z_is 282 154 (zf_aload 154 0 155), z_is 282 155 (zf_getr 155 8 1 158), z_is 282 158 (zf_cst 158 (jn 2) 159), z_is 282 159 (zf_iald 159 160), z_is 282 160 (zf_ret 0)] = true := by decide +kernel
                            refine z_aload hB rfl (fun hB => ?_)
                            refine y_getr (b := 242) ok hB (by decide +kernel) (by decide +kernel) (fun hB => ?_)
                            refine z_cst hB (fun hB => ?_)
                            obtain ⟨g20, h⟩ := z_gd h
                            refine y_iald ok hB (by decide +kernel) (by decide +kernel) g20 (fun hB => ?_)
                            cases h
                            exact z_reti hB
                          · have h := z_neg hc h
                            rw [z_sw_n hc]
                            refine (Decidable.em (x1 = jn 12)).elim (fun hc => ?_) (fun hc => ?_)
                            · have h := z_pos hc h
                              rw [z_sw_p hc]
                              have hB : z_all [z_is 282 161 (zf_aload 161 0 162), z_is 282 162 (zf_getr 162 8 1 165), z_is 282 165 (zf_cst 165 (jn 3) 166), z_is 282 166 (zf_iald 166 167), z_is 282 167 (zf_ret 0)] = true := by decide +kernel
                              refine z_aload hB rfl (fun hB => ?_)
                              refine y_getr (b := 242) ok hB (by decide +kernel) (by decide +kernel) (fun hB => ?_)
                              refine z_cst hB (fun hB => ?_)
                              obtain ⟨g21, h⟩ := z_gd h
                              refine y_iald ok hB (by decide +kernel) (by decide +kernel) g21 (fun hB => ?_)
                              cases h
                              exact z_reti hB
                            · have h := z_neg hc h
                              rw [z_sw_n hc]
                              refine (Decidable.em (x1 = jn 13)).elim (fun hc => ?_) (fun hc => ?_)
                              · have h := z_pos hc h
                                rw [z_sw_p hc]
                                have hB : z_all [z_is 282 168 (zf_aload 168 0 169), z_is 282 169 (zf_getr 169 8 1 172), z_is 282 172 (zf_cst 172 (jn 4) 173), z_is 282 173 (zf_iald 173 174), z_is 282 174 (zf_ret 0)] = true := by decide +kernel
                                refine z_aload hB rfl (fun hB => ?_)
                                refine y_getr (b := 242) ok hB (by decide +kernel) (by decide +kernel) (fun hB => ?_)
                                refine z_cst hB (fun hB => ?_)
                                obtain ⟨g22, h⟩ := z_gd h
                                refine y_iald ok hB (by decide +kernel) (by decide +kernel) g22 (fun hB => ?_)
                                cases h
                                exact z_reti hB
                              · have h := z_neg hc h
                                rw [z_sw_n hc]
                                refine (Decidable.em (x1 = jn 14)).elim (fun hc => ?_) (fun hc => ?_)
                                · have h := z_pos hc h
                                  rw [z_sw_p hc]
                                  have hB : z_all [z_is 282 175 (zf_aload 175 0 176), z_is 282 176 (zf_getr 176 8 1 179), z_is 282 179 (zf_cst 179 (jn 5) 180), z_is 282 180 (zf_iald 180 181), z_is 282 181 (zf_ret 0)] = true := by decide +kernel
                                  refine z_aload hB rfl (fun hB => ?_)
                                  refine y_getr (b := 242) ok hB (by decide +kernel) (by decide +kernel) (fun hB => ?_)
                                  refine z_cst hB (fun hB => ?_)
                                  obtain ⟨g23, h⟩ := z_gd h
                                  refine y_iald ok hB (by decide +kernel) (by decide +kernel) g23 (fun hB => ?_)
                                  cases h
                                  exact z_reti hB
                                · have h := z_neg hc h
                                  rw [z_sw_n hc]
                                  refine (Decidable.em (x1 = jn 15)).elim (fun hc => ?_) (fun hc => ?_)
                                  · have h := z_pos hc h
                                    rw [z_sw_p hc]
                                    have hB : z_all [z_is 282 182 (zf_aload 182 0 183), z_is 282 183 (zf_cv 183 281 0 8 186), z_is 282 186 (zf_ret 0)] = true := by decide +kernel
                                    refine z_aload hB rfl (fun hB => ?_)
                                    obtain ⟨q24, e25, h⟩ := z_bind h
                                    refine y_cv ok hB (as := []) (a := 241) (rest := []) rfl rfl rfl (by decide +kernel) (t_M_readyMany (I := q3.2) ok e25) (fun hB => ?_)
                                    cases h
                                    exact z_reti hB
                                  · have h := z_neg hc h
                                    rw [z_sw_n hc]
                                    show z_R G 282 187 _ _ _ _ _
                                    have hB : z_all [z_is 282 187 (zf_aload 187 0 188), z_is 282 188 (zf_iload 188 1 189), z_is 282 189 (zf_cst 189 (jn 7) 191), z_is 282 191 (zf_isub 191 192), z_is 282 192 (zf_cv 192 280 1 8 195), z_is 282 195 (zf_ret 0)] = true := by decide +kernel
                                    refine z_aload hB rfl (fun hB => ?_)
                                    refine z_iload hB rfl (fun hB => ?_)
                                    refine z_cst hB (fun hB => ?_)
                                    refine z_isub hB (fun hB => ?_)
                                    obtain ⟨q26, e27, h⟩ := z_bind h
                                    refine y_cv ok hB (as := [.int ((x1 - (jn 7)))]) (a := 241) (rest := []) rfl rfl rfl (by decide +kernel) (t_M_flagsAt (I := q3.2) ok e27) (fun hB => ?_)
                                    cases h
                                    exact z_reti hB
  · have h := z_pos hc h
    have hB : z_all [z_is 282 18 (zf_cst 18 (jn 0) 19), z_is 282 19 (zf_ret 0)] = true := by decide +kernel
    refine z_cst hB (fun hB => ?_)
    cases h
    exact z_reti hB
def d_M_isColour (x1 : Int32) (I : z_H) : Option (Int32) := (Option.bind (α := Int32) (if (I 241 6) = jn 0 then some ((jn 0)) else (if z_in ((jn 6)) 173 then ((d_M_in (x1) ((jn 0)) (((I 242 (z_n ((jn 6)))) - (jn 1)))).bind fun q6 => (if q6 = jn 0 then some ((jn 0)) else some ((jn 1)))) else none)) fun q1 => (if (q1) = jn 0 ∨ (q1) = jn 1 then some (q1) else none))
/-- FlagLaundryModel.isColour(I)Z -/
theorem t_M_isColour {G : z_G} {w : ev_W} (ok : z_Ok G w) {x1 : Int32} {I : z_H} {r : Int32} (h : d_M_isColour x1 I = some r) : z_K G 283 [.ref (241), .int (x1)] (z_w w I) (.inl (some (.int r))) (z_w w I) := by
  refine z_con ok.1 (ml := 2) (by decide +kernel) rfl rfl ?_
  show z_R G 283 0 [some (.ref (241)), some (.int (x1))] [] (z_w w I) (.inl (some (.int r))) (z_w w I)
  unfold d_M_isColour at h
  have hB : z_all [z_is 283 0 (zf_aload 0 0 1), z_is 283 1 (zf_geti 1 8 6 4), z_is 283 4 (zf_if1 .eq 4 28 7)] = true := by decide +kernel
  refine z_aload hB rfl (fun hB => ?_)
  refine y_geti ok hB (by decide +kernel) (fun hB => ?_)
  obtain ⟨q1, e2, h⟩ := z_bind h
  have k3 : z_R G 283 29 [none, none] [.int (q1)] (z_w w I) (.inl (some (.int r))) (z_w w I) := by
    have hB : z_all [z_is 283 29 (zf_ret 1)] = true := by decide +kernel
    obtain ⟨g4, h⟩ := z_gd h
    cases h
    exact z_retz hB g4
  have h := e2
  refine z_if_eq hB (fun hc _ => ?_) (fun hc _ => ?_)
  · have h := z_pos hc h
    have hB : z_all [z_is 283 28 (zf_cst 28 (jn 0) 29)] = true := by decide +kernel
    refine z_cst hB (fun hB => ?_)
    cases h
    exact z_weak k3 (z_sn (z_sn z_s0))
  · have h := z_neg hc h
    have hB : z_all [z_is 283 7 (zf_iload 7 1 8), z_is 283 8 (zf_cst 8 (jn 0) 9), z_is 283 9 (zf_aload 9 0 10), z_is 283 10 (zf_getr 10 8 1 13), z_is 283 13 (zf_cst 13 (jn 6) 15), z_is 283 15 (zf_iald 15 16), z_is 283 16 (zf_cst 16 (jn 1) 17), z_is 283 17 (zf_isub 17 18), z_is 283 18 (zf_cs 18 203 3 21), z_is 283 21 (zf_if1 .eq 21 28 24)] = true := by decide +kernel
    refine z_iload hB rfl (fun hB => ?_)
    refine z_cst hB (fun hB => ?_)
    refine z_aload hB rfl (fun hB => ?_)
    refine y_getr (b := 242) ok hB (by decide +kernel) (by decide +kernel) (fun hB => ?_)
    refine z_cst hB (fun hB => ?_)
    obtain ⟨g5, h⟩ := z_gd h
    refine y_iald ok hB (by decide +kernel) (by decide +kernel) g5 (fun hB => ?_)
    refine z_cst hB (fun hB => ?_)
    refine z_isub hB (fun hB => ?_)
    obtain ⟨q6, e7, h⟩ := z_bind h
    refine z_callS hB (as := [.int (x1), .int ((jn 0)), .int (((I 242 (z_n ((jn 6)))) - (jn 1)))]) (rest := []) rfl rfl rfl (t_M_in (I := I) ok e7) (fun hB => ?_)
    refine z_if_eq hB (fun hc _ => ?_) (fun hc _ => ?_)
    · have h := z_pos hc h
      have hB : z_all [z_is 283 28 (zf_cst 28 (jn 0) 29)] = true := by decide +kernel
      refine z_cst hB (fun hB => ?_)
      cases h
      exact z_weak k3 (z_sn (z_sn z_s0))
    · have h := z_neg hc h
      have hB : z_all [z_is 283 24 (zf_cst 24 (jn 1) 25), z_is 283 25 (zf_goto 25 29)] = true := by decide +kernel
      refine z_cst hB (fun hB => ?_)
      refine z_goto hB (fun hB => ?_)
      cases h
      exact z_weak k3 (z_sn (z_sn z_s0))
def d_M_isNation (x1 : Int32) (I : z_H) : Option (Int32) := (Option.bind (α := Int32) (if (I 241 6) = jn 0 then some ((jn 0)) else (if z_in ((jn 7)) 173 then ((d_M_in (x1) ((jn 0)) (((I 242 (z_n ((jn 7)))) - (jn 1)))).bind fun q6 => (if q6 = jn 0 then some ((jn 0)) else some ((jn 1)))) else none)) fun q1 => (if (q1) = jn 0 ∨ (q1) = jn 1 then some (q1) else none))
/-- FlagLaundryModel.isNation(I)Z -/
theorem t_M_isNation {G : z_G} {w : ev_W} (ok : z_Ok G w) {x1 : Int32} {I : z_H} {r : Int32} (h : d_M_isNation x1 I = some r) : z_K G 284 [.ref (241), .int (x1)] (z_w w I) (.inl (some (.int r))) (z_w w I) := by
  refine z_con ok.1 (ml := 2) (by decide +kernel) rfl rfl ?_
  show z_R G 284 0 [some (.ref (241)), some (.int (x1))] [] (z_w w I) (.inl (some (.int r))) (z_w w I)
  unfold d_M_isNation at h
  have hB : z_all [z_is 284 0 (zf_aload 0 0 1), z_is 284 1 (zf_geti 1 8 6 4), z_is 284 4 (zf_if1 .eq 4 28 7)] = true := by decide +kernel
  refine z_aload hB rfl (fun hB => ?_)
  refine y_geti ok hB (by decide +kernel) (fun hB => ?_)
  obtain ⟨q1, e2, h⟩ := z_bind h
  have k3 : z_R G 284 29 [none, none] [.int (q1)] (z_w w I) (.inl (some (.int r))) (z_w w I) := by
    have hB : z_all [z_is 284 29 (zf_ret 1)] = true := by decide +kernel
    obtain ⟨g4, h⟩ := z_gd h
    cases h
    exact z_retz hB g4
  have h := e2
  refine z_if_eq hB (fun hc _ => ?_) (fun hc _ => ?_)
  · have h := z_pos hc h
    have hB : z_all [z_is 284 28 (zf_cst 28 (jn 0) 29)] = true := by decide +kernel
    refine z_cst hB (fun hB => ?_)
    cases h
    exact z_weak k3 (z_sn (z_sn z_s0))
  · have h := z_neg hc h
    have hB : z_all [z_is 284 7 (zf_iload 7 1 8), z_is 284 8 (zf_cst 8 (jn 0) 9), z_is 284 9 (zf_aload 9 0 10), z_is 284 10 (zf_getr 10 8 1 13), z_is 284 13 (zf_cst 13 (jn 7) 15), z_is 284 15 (zf_iald 15 16), z_is 284 16 (zf_cst 16 (jn 1) 17), z_is 284 17 (zf_isub 17 18), z_is 284 18 (zf_cs 18 203 3 21), z_is 284 21 (zf_if1 .eq 21 28 24)] = true := by decide +kernel
    refine z_iload hB rfl (fun hB => ?_)
    refine z_cst hB (fun hB => ?_)
    refine z_aload hB rfl (fun hB => ?_)
    refine y_getr (b := 242) ok hB (by decide +kernel) (by decide +kernel) (fun hB => ?_)
    refine z_cst hB (fun hB => ?_)
    obtain ⟨g5, h⟩ := z_gd h
    refine y_iald ok hB (by decide +kernel) (by decide +kernel) g5 (fun hB => ?_)
    refine z_cst hB (fun hB => ?_)
    refine z_isub hB (fun hB => ?_)
    obtain ⟨q6, e7, h⟩ := z_bind h
    refine z_callS hB (as := [.int (x1), .int ((jn 0)), .int (((I 242 (z_n ((jn 7)))) - (jn 1)))]) (rest := []) rfl rfl rfl (t_M_in (I := I) ok e7) (fun hB => ?_)
    refine z_if_eq hB (fun hc _ => ?_) (fun hc _ => ?_)
    · have h := z_pos hc h
      have hB : z_all [z_is 284 28 (zf_cst 28 (jn 0) 29)] = true := by decide +kernel
      refine z_cst hB (fun hB => ?_)
      cases h
      exact z_weak k3 (z_sn (z_sn z_s0))
    · have h := z_neg hc h
      have hB : z_all [z_is 284 24 (zf_cst 24 (jn 1) 25), z_is 284 25 (zf_goto 25 29)] = true := by decide +kernel
      refine z_cst hB (fun hB => ?_)
      refine z_goto hB (fun hB => ?_)
      cases h
      exact z_weak k3 (z_sn (z_sn z_s0))
def d_M_isFlag (x1 : Int32) (I : z_H) : Option (Int32) := (Option.bind (α := Int32) (if (I 241 6) = jn 0 then some ((jn 0)) else (if z_in ((jn 10)) 173 then ((d_M_in (x1) ((jn 0)) (((I 242 (z_n ((jn 10)))) - (jn 1)))).bind fun q6 => (if q6 = jn 0 then some ((jn 0)) else some ((jn 1)))) else none)) fun q1 => (if (q1) = jn 0 ∨ (q1) = jn 1 then some (q1) else none))
/-- FlagLaundryModel.isFlag(I)Z -/
theorem t_M_isFlag {G : z_G} {w : ev_W} (ok : z_Ok G w) {x1 : Int32} {I : z_H} {r : Int32} (h : d_M_isFlag x1 I = some r) : z_K G 285 [.ref (241), .int (x1)] (z_w w I) (.inl (some (.int r))) (z_w w I) := by
  refine z_con ok.1 (ml := 2) (by decide +kernel) rfl rfl ?_
  show z_R G 285 0 [some (.ref (241)), some (.int (x1))] [] (z_w w I) (.inl (some (.int r))) (z_w w I)
  unfold d_M_isFlag at h
  have hB : z_all [z_is 285 0 (zf_aload 0 0 1), z_is 285 1 (zf_geti 1 8 6 4), z_is 285 4 (zf_if1 .eq 4 28 7)] = true := by decide +kernel
  refine z_aload hB rfl (fun hB => ?_)
  refine y_geti ok hB (by decide +kernel) (fun hB => ?_)
  obtain ⟨q1, e2, h⟩ := z_bind h
  have k3 : z_R G 285 29 [none, none] [.int (q1)] (z_w w I) (.inl (some (.int r))) (z_w w I) := by
    have hB : z_all [z_is 285 29 (zf_ret 1)] = true := by decide +kernel
    obtain ⟨g4, h⟩ := z_gd h
    cases h
    exact z_retz hB g4
  have h := e2
  refine z_if_eq hB (fun hc _ => ?_) (fun hc _ => ?_)
  · have h := z_pos hc h
    have hB : z_all [z_is 285 28 (zf_cst 28 (jn 0) 29)] = true := by decide +kernel
    refine z_cst hB (fun hB => ?_)
    cases h
    exact z_weak k3 (z_sn (z_sn z_s0))
  · have h := z_neg hc h
    have hB : z_all [z_is 285 7 (zf_iload 7 1 8), z_is 285 8 (zf_cst 8 (jn 0) 9), z_is 285 9 (zf_aload 9 0 10), z_is 285 10 (zf_getr 10 8 1 13), z_is 285 13 (zf_cst 13 (jn 10) 15), z_is 285 15 (zf_iald 15 16), z_is 285 16 (zf_cst 16 (jn 1) 17), z_is 285 17 (zf_isub 17 18), z_is 285 18 (zf_cs 18 203 3 21), z_is 285 21 (zf_if1 .eq 21 28 24)] = true := by decide +kernel
    refine z_iload hB rfl (fun hB => ?_)
    refine z_cst hB (fun hB => ?_)
    refine z_aload hB rfl (fun hB => ?_)
    refine y_getr (b := 242) ok hB (by decide +kernel) (by decide +kernel) (fun hB => ?_)
    refine z_cst hB (fun hB => ?_)
    obtain ⟨g5, h⟩ := z_gd h
    refine y_iald ok hB (by decide +kernel) (by decide +kernel) g5 (fun hB => ?_)
    refine z_cst hB (fun hB => ?_)
    refine z_isub hB (fun hB => ?_)
    obtain ⟨q6, e7, h⟩ := z_bind h
    refine z_callS hB (as := [.int (x1), .int ((jn 0)), .int (((I 242 (z_n ((jn 10)))) - (jn 1)))]) (rest := []) rfl rfl rfl (t_M_in (I := I) ok e7) (fun hB => ?_)
    refine z_if_eq hB (fun hc _ => ?_) (fun hc _ => ?_)
    · have h := z_pos hc h
      have hB : z_all [z_is 285 28 (zf_cst 28 (jn 0) 29)] = true := by decide +kernel
      refine z_cst hB (fun hB => ?_)
      cases h
      exact z_weak k3 (z_sn (z_sn z_s0))
    · have h := z_neg hc h
      have hB : z_all [z_is 285 24 (zf_cst 24 (jn 1) 25), z_is 285 25 (zf_goto 25 29)] = true := by decide +kernel
      refine z_cst hB (fun hB => ?_)
      refine z_goto hB (fun hB => ?_)
      cases h
      exact z_weak k3 (z_sn (z_sn z_s0))
def d_M_isTub (x1 : Int32) (I : z_H) : Option (Int32) := (Option.bind (α := Int32) (if (I 241 6) = jn 0 then some ((jn 0)) else (if z_in ((jn 8)) 173 then ((d_M_in (x1) ((jn 0)) (((I 242 (z_n ((jn 8)))) - (jn 1)))).bind fun q6 => (if q6 = jn 0 then some ((jn 0)) else some ((jn 1)))) else none)) fun q1 => (if (q1) = jn 0 ∨ (q1) = jn 1 then some (q1) else none))
/-- FlagLaundryModel.isTub(I)Z -/
theorem t_M_isTub {G : z_G} {w : ev_W} (ok : z_Ok G w) {x1 : Int32} {I : z_H} {r : Int32} (h : d_M_isTub x1 I = some r) : z_K G 286 [.ref (241), .int (x1)] (z_w w I) (.inl (some (.int r))) (z_w w I) := by
  refine z_con ok.1 (ml := 2) (by decide +kernel) rfl rfl ?_
  show z_R G 286 0 [some (.ref (241)), some (.int (x1))] [] (z_w w I) (.inl (some (.int r))) (z_w w I)
  unfold d_M_isTub at h
  have hB : z_all [z_is 286 0 (zf_aload 0 0 1), z_is 286 1 (zf_geti 1 8 6 4), z_is 286 4 (zf_if1 .eq 4 28 7)] = true := by decide +kernel
  refine z_aload hB rfl (fun hB => ?_)
  refine y_geti ok hB (by decide +kernel) (fun hB => ?_)
  obtain ⟨q1, e2, h⟩ := z_bind h
  have k3 : z_R G 286 29 [none, none] [.int (q1)] (z_w w I) (.inl (some (.int r))) (z_w w I) := by
    have hB : z_all [z_is 286 29 (zf_ret 1)] = true := by decide +kernel
    obtain ⟨g4, h⟩ := z_gd h
    cases h
    exact z_retz hB g4
  have h := e2
  refine z_if_eq hB (fun hc _ => ?_) (fun hc _ => ?_)
  · have h := z_pos hc h
    have hB : z_all [z_is 286 28 (zf_cst 28 (jn 0) 29)] = true := by decide +kernel
    refine z_cst hB (fun hB => ?_)
    cases h
    exact z_weak k3 (z_sn (z_sn z_s0))
  · have h := z_neg hc h
    have hB : z_all [z_is 286 7 (zf_iload 7 1 8), z_is 286 8 (zf_cst 8 (jn 0) 9), z_is 286 9 (zf_aload 9 0 10), z_is 286 10 (zf_getr 10 8 1 13), z_is 286 13 (zf_cst 13 (jn 8) 15), z_is 286 15 (zf_iald 15 16), z_is 286 16 (zf_cst 16 (jn 1) 17), z_is 286 17 (zf_isub 17 18), z_is 286 18 (zf_cs 18 203 3 21), z_is 286 21 (zf_if1 .eq 21 28 24)] = true := by decide +kernel
    refine z_iload hB rfl (fun hB => ?_)
    refine z_cst hB (fun hB => ?_)
    refine z_aload hB rfl (fun hB => ?_)
    refine y_getr (b := 242) ok hB (by decide +kernel) (by decide +kernel) (fun hB => ?_)
    refine z_cst hB (fun hB => ?_)
    obtain ⟨g5, h⟩ := z_gd h
    refine y_iald ok hB (by decide +kernel) (by decide +kernel) g5 (fun hB => ?_)
    refine z_cst hB (fun hB => ?_)
    refine z_isub hB (fun hB => ?_)
    obtain ⟨q6, e7, h⟩ := z_bind h
    refine z_callS hB (as := [.int (x1), .int ((jn 0)), .int (((I 242 (z_n ((jn 8)))) - (jn 1)))]) (rest := []) rfl rfl rfl (t_M_in (I := I) ok e7) (fun hB => ?_)
    refine z_if_eq hB (fun hc _ => ?_) (fun hc _ => ?_)
    · have h := z_pos hc h
      have hB : z_all [z_is 286 28 (zf_cst 28 (jn 0) 29)] = true := by decide +kernel
      refine z_cst hB (fun hB => ?_)
      cases h
      exact z_weak k3 (z_sn (z_sn z_s0))
    · have h := z_neg hc h
      have hB : z_all [z_is 286 24 (zf_cst 24 (jn 1) 25), z_is 286 25 (zf_goto 25 29)] = true := by decide +kernel
      refine z_cst hB (fun hB => ?_)
      refine z_goto hB (fun hB => ?_)
      cases h
      exact z_weak k3 (z_sn (z_sn z_s0))
def d_M_isHeat (x1 : Int32) : Option (Int32) := ((d_M_in (x1) ((jn 0)) ((jn 3))).bind fun q1 => (if (q1) = jn 0 ∨ (q1) = jn 1 then some (q1) else none))
/-- FlagLaundryModel.isHeat(I)Z -/
theorem t_M_isHeat {G : z_G} {w : ev_W} (ok : z_Ok G w) {x1 : Int32} {I : z_H} {r : Int32} (h : d_M_isHeat x1 = some r) : z_K G 287 [.int (x1)] (z_w w I) (.inl (some (.int r))) (z_w w I) := by
  refine z_con ok.1 (ml := 1) (by decide +kernel) rfl rfl ?_
  show z_R G 287 0 [some (.int (x1))] [] (z_w w I) (.inl (some (.int r))) (z_w w I)
  unfold d_M_isHeat at h
  have hB : z_all [z_is 287 0 (zf_iload 0 0 1), z_is 287 1 (zf_cst 1 (jn 0) 2), z_is 287 2 (zf_cst 2 (jn 3) 3), z_is 287 3 (zf_cs 3 203 3 6), z_is 287 6 (zf_ret 1)] = true := by decide +kernel
  refine z_iload hB rfl (fun hB => ?_)
  refine z_cst hB (fun hB => ?_)
  refine z_cst hB (fun hB => ?_)
  obtain ⟨q1, e2, h⟩ := z_bind h
  refine z_callS hB (as := [.int (x1), .int ((jn 0)), .int ((jn 3))]) (rest := []) rfl rfl rfl (t_M_in (I := I) ok e2) (fun hB => ?_)
  obtain ⟨g3, h⟩ := z_gd h
  cases h
  exact z_retz hB g3
def d_M_mayFlag (x1 : Int32) (I : z_H) : Option (Int32 × z_H) := ((d_M_isFlag (x1) I).bind fun q1 => ((d_M_mayTwo ((I 241 6)) (q1) I).bind fun q3 => (if (q3.1) = jn 0 ∨ (q3.1) = jn 1 then some ((q3.1, q3.2)) else none)))
/-- FlagLaundryModel.mayFlag(I)Z -/
theorem t_M_mayFlag {G : z_G} {w : ev_W} (ok : z_Ok G w) {x1 : Int32} {I : z_H} {r : Int32 × z_H} (h : d_M_mayFlag x1 I = some r) : z_K G 288 [.ref (241), .int (x1)] (z_w w I) (.inl (some (.int r.1))) (z_w w r.2) := by
  refine z_con ok.1 (ml := 2) (by decide +kernel) rfl rfl ?_
  show z_R G 288 0 [some (.ref (241)), some (.int (x1))] [] (z_w w I) (.inl (some (.int r.1))) (z_w w r.2)
  unfold d_M_mayFlag at h
  have hB : z_all [z_is 288 0 (zf_aload 0 0 1), z_is 288 1 (zf_aload 1 0 2), z_is 288 2 (zf_geti 2 8 6 5), z_is 288 5 (zf_aload 5 0 6), z_is 288 6 (zf_iload 6 1 7), z_is 288 7 (zf_cv 7 285 1 8 10), z_is 288 10 (zf_cv 10 207 2 8 13), z_is 288 13 (zf_ret 1)] = true := by decide +kernel
  refine z_aload hB rfl (fun hB => ?_)
  refine z_aload hB rfl (fun hB => ?_)
  refine y_geti ok hB (by decide +kernel) (fun hB => ?_)
  refine z_aload hB rfl (fun hB => ?_)
  refine z_iload hB rfl (fun hB => ?_)
  obtain ⟨q1, e2, h⟩ := z_bind h
  refine y_cv ok hB (as := [.int (x1)]) (a := 241) (rest := [.int ((I 241 6)), .ref (241)]) rfl rfl rfl (by decide +kernel) (t_M_isFlag (I := I) ok e2) (fun hB => ?_)
  obtain ⟨q3, e4, h⟩ := z_bind h
  refine y_cv ok hB (as := [.int ((I 241 6)), .int (q1)]) (a := 241) (rest := []) rfl rfl rfl (by decide +kernel) (t_M_mayTwo (I := I) ok e4) (fun hB => ?_)
  obtain ⟨g5, h⟩ := z_gd h
  cases h
  exact z_retz hB g5
def d_M_mayTub (x1 : Int32) (I : z_H) : Option (Int32 × z_H) := ((d_M_isTub (x1) I).bind fun q1 => ((d_M_mayTwo ((I 241 6)) (q1) I).bind fun q3 => (if (q3.1) = jn 0 ∨ (q3.1) = jn 1 then some ((q3.1, q3.2)) else none)))
/-- FlagLaundryModel.mayTub(I)Z -/
theorem t_M_mayTub {G : z_G} {w : ev_W} (ok : z_Ok G w) {x1 : Int32} {I : z_H} {r : Int32 × z_H} (h : d_M_mayTub x1 I = some r) : z_K G 289 [.ref (241), .int (x1)] (z_w w I) (.inl (some (.int r.1))) (z_w w r.2) := by
  refine z_con ok.1 (ml := 2) (by decide +kernel) rfl rfl ?_
  show z_R G 289 0 [some (.ref (241)), some (.int (x1))] [] (z_w w I) (.inl (some (.int r.1))) (z_w w r.2)
  unfold d_M_mayTub at h
  have hB : z_all [z_is 289 0 (zf_aload 0 0 1), z_is 289 1 (zf_aload 1 0 2), z_is 289 2 (zf_geti 2 8 6 5), z_is 289 5 (zf_aload 5 0 6), z_is 289 6 (zf_iload 6 1 7), z_is 289 7 (zf_cv 7 286 1 8 10), z_is 289 10 (zf_cv 10 207 2 8 13), z_is 289 13 (zf_ret 1)] = true := by decide +kernel
  refine z_aload hB rfl (fun hB => ?_)
  refine z_aload hB rfl (fun hB => ?_)
  refine y_geti ok hB (by decide +kernel) (fun hB => ?_)
  refine z_aload hB rfl (fun hB => ?_)
  refine z_iload hB rfl (fun hB => ?_)
  obtain ⟨q1, e2, h⟩ := z_bind h
  refine y_cv ok hB (as := [.int (x1)]) (a := 241) (rest := [.int ((I 241 6)), .ref (241)]) rfl rfl rfl (by decide +kernel) (t_M_isTub (I := I) ok e2) (fun hB => ?_)
  obtain ⟨q3, e4, h⟩ := z_bind h
  refine y_cv ok hB (as := [.int ((I 241 6)), .int (q1)]) (a := 241) (rest := []) rfl rfl rfl (by decide +kernel) (t_M_mayTwo (I := I) ok e4) (fun hB => ?_)
  obtain ⟨g5, h⟩ := z_gd h
  cases h
  exact z_retz hB g5
def d_M_mayHeat (x1 : Int32) (x2 : Int32) (I : z_H) : Option (Int32 × z_H) := ((d_M_isTub (x1) I).bind fun q1 => ((d_M_isHeat (x2)).bind fun q3 => ((d_M_may ((I 241 6)) (q1) (q3) I).bind fun q5 => (if (q5.1) = jn 0 ∨ (q5.1) = jn 1 then some ((q5.1, q5.2)) else none))))
/-- FlagLaundryModel.mayHeat(II)Z -/
theorem t_M_mayHeat {G : z_G} {w : ev_W} (ok : z_Ok G w) {x1 : Int32} {x2 : Int32} {I : z_H} {r : Int32 × z_H} (h : d_M_mayHeat x1 x2 I = some r) : z_K G 290 [.ref (241), .int (x1), .int (x2)] (z_w w I) (.inl (some (.int r.1))) (z_w w r.2) := by
  refine z_con ok.1 (ml := 3) (by decide +kernel) rfl rfl ?_
  show z_R G 290 0 [some (.ref (241)), some (.int (x1)), some (.int (x2))] [] (z_w w I) (.inl (some (.int r.1))) (z_w w r.2)
  unfold d_M_mayHeat at h
  have hB : z_all [z_is 290 0 (zf_aload 0 0 1), z_is 290 1 (zf_aload 1 0 2), z_is 290 2 (zf_geti 2 8 6 5), z_is 290 5 (zf_aload 5 0 6), z_is 290 6 (zf_iload 6 1 7), z_is 290 7 (zf_cv 7 286 1 8 10), z_is 290 10 (zf_iload 10 2 11), z_is 290 11 (zf_cs 11 287 1 14), z_is 290 14 (zf_cv 14 206 3 8 17), z_is 290 17 (zf_ret 1)] = true := by decide +kernel
  refine z_aload hB rfl (fun hB => ?_)
  refine z_aload hB rfl (fun hB => ?_)
  refine y_geti ok hB (by decide +kernel) (fun hB => ?_)
  refine z_aload hB rfl (fun hB => ?_)
  refine z_iload hB rfl (fun hB => ?_)
  obtain ⟨q1, e2, h⟩ := z_bind h
  refine y_cv ok hB (as := [.int (x1)]) (a := 241) (rest := [.int ((I 241 6)), .ref (241)]) rfl rfl rfl (by decide +kernel) (t_M_isTub (I := I) ok e2) (fun hB => ?_)
  refine z_iload hB rfl (fun hB => ?_)
  obtain ⟨q3, e4, h⟩ := z_bind h
  refine z_callS hB (as := [.int (x2)]) (rest := [.int (q1), .int ((I 241 6)), .ref (241)]) rfl rfl rfl (t_M_isHeat (I := I) ok e4) (fun hB => ?_)
  obtain ⟨q5, e6, h⟩ := z_bind h
  refine y_cv ok hB (as := [.int ((I 241 6)), .int (q1), .int (q3)]) (a := 241) (rest := []) rfl rfl rfl (by decide +kernel) (t_M_may (I := I) ok e6) (fun hB => ?_)
  obtain ⟨g7, h⟩ := z_gd h
  cases h
  exact z_retz hB g7
def d_M_flagsWith_2 (x1 : Int32) (x2 : Int32) (I : z_H) (p1 : Int32 × Int32) : Option ((Int32 × Int32) ⊕ (Int32 × Int32)) := (if z_in ((jn 10)) 173 then (if p1.2 < (I 242 (z_n ((jn 10)))) then ((d_M_ofFlag (p1.2) (x2) I).bind fun q7 => ((d_M_has (q7) (x1)).bind fun q9 => ((d_M_one (q9)).bind fun q11 => some (Sum.inl ((p1.1 + q11), (p1.2 + (jn 1))))))) else some (Sum.inr (p1.1, p1.2))) else none)
def d_M_flagsWith (x1 : Int32) (x2 : Int32) (I : z_H) : Option (Int32) := ((z_it (d_M_flagsWith_2 x1 x2 I) z_F ((jn 0), (jn 0))).bind fun q3 => some (q3.1))
/-- FlagLaundryModel.flagsWith(II)I -/
theorem t_M_flagsWith {G : z_G} {w : ev_W} (ok : z_Ok G w) {x1 : Int32} {x2 : Int32} {I : z_H} {r : Int32} (h : d_M_flagsWith x1 x2 I = some r) : z_K G 291 [.ref (241), .int (x1), .int (x2)] (z_w w I) (.inl (some (.int r))) (z_w w I) := by
  refine z_con ok.1 (ml := 5) (by decide +kernel) rfl rfl ?_
  show z_R G 291 0 [some (.ref (241)), some (.int (x1)), some (.int (x2)), none, none] [] (z_w w I) (.inl (some (.int r))) (z_w w I)
  unfold d_M_flagsWith at h
  have hB : z_all [z_is 291 0 (zf_cst 0 (jn 0) 1), z_is 291 1 (zf_istore 1 3 2), z_is 291 2 (zf_cst 2 (jn 0) 3), z_is 291 3 (zf_istore 3 4 5)] = true := by decide +kernel
  refine z_cst hB (fun hB => ?_)
  refine z_istore hB rfl rfl (fun hB => ?_)
  refine z_cst hB (fun hB => ?_)
  refine z_istore hB rfl rfl (fun hB => ?_)
  obtain ⟨q3, e4, h⟩ := z_bind h
  have k5 : z_R G 291 40 [none, none, none, some (.int (q3.1)), none] [] (z_w w I) (.inl (some (.int r))) (z_w w I) := by
    have hB : z_all [z_is 291 40 (zf_iload 40 3 41), z_is 291 41 (zf_ret 0)] = true := by decide +kernel
    refine z_iload hB rfl (fun hB => ?_)
    cases h
    exact z_reti hB
  have l2 : ∀ (m2 : Nat) (p1 : Int32 × Int32), z_it (d_M_flagsWith_2 x1 x2 I) m2 p1 = some q3 → z_R G 291 5 [some (.ref (241)), some (.int (x1)), some (.int (x2)), some (.int (p1.1)), some (.int (p1.2))] [] (z_w w I) (.inl (some (.int r))) (z_w w I) := by
    intro m2
    induction m2 with
    | zero => intro p1 h; cases h
    | succ m2 i2 =>
      intro p1 h
      obtain ⟨u2, h, b2⟩ := z_it_o h
      unfold d_M_flagsWith_2 at h
      have hB : z_all [z_is 291 5 (zf_iload 5 4 7), z_is 291 7 (zf_aload 7 0 8), z_is 291 8 (zf_getr 8 8 1 11), z_is 291 11 (zf_cst 11 (jn 10) 13), z_is 291 13 (zf_iald 13 14), z_is 291 14 (zf_if2 .ge 14 40 17)] = true := by decide +kernel
      refine z_iload hB rfl (fun hB => ?_)
      refine z_aload hB rfl (fun hB => ?_)
      refine y_getr (b := 242) ok hB (by decide +kernel) (by decide +kernel) (fun hB => ?_)
      refine z_cst hB (fun hB => ?_)
      obtain ⟨g6, h⟩ := z_gd h
      refine y_iald ok hB (by decide +kernel) (by decide +kernel) g6 (fun hB => ?_)
      refine z_ic_ge hB (fun hc _ => ?_) (fun hc _ => ?_)
      · have h := z_neg hc h
        cases h
        cases b2
        exact z_weak k5 (z_sn (z_sn (z_sn (z_se (z_sn z_s0)))))
      · have h := z_pos hc h
        have hB : z_all [z_is 291 17 (zf_iload 17 3 18), z_is 291 18 (zf_aload 18 0 19), z_is 291 19 (zf_iload 19 4 21), z_is 291 21 (zf_iload 21 2 22), z_is 291 22 (zf_cv 22 242 2 8 25), z_is 291 25 (zf_iload 25 1 26), z_is 291 26 (zf_cs 26 205 2 29), z_is 291 29 (zf_cs 29 204 1 32), z_is 291 32 (zf_iadd 32 33), z_is 291 33 (zf_istore 33 3 34), z_is 291 34 (zf_iinc 34 4 (jn 1) 37), z_is 291 37 (zf_goto 37 5)] = true := by decide +kernel
        refine z_iload hB rfl (fun hB => ?_)
        refine z_aload hB rfl (fun hB => ?_)
        refine z_iload hB rfl (fun hB => ?_)
        refine z_iload hB rfl (fun hB => ?_)
        obtain ⟨q7, e8, h⟩ := z_bind h
        refine y_cv ok hB (as := [.int (p1.2), .int (x2)]) (a := 241) (rest := [.int (p1.1)]) rfl rfl rfl (by decide +kernel) (t_M_ofFlag (I := I) ok e8) (fun hB => ?_)
        refine z_iload hB rfl (fun hB => ?_)
        obtain ⟨q9, e10, h⟩ := z_bind h
        refine z_callS hB (as := [.int (q7), .int (x1)]) (rest := [.int (p1.1)]) rfl rfl rfl (t_M_has (I := I) ok e10) (fun hB => ?_)
        obtain ⟨q11, e12, h⟩ := z_bind h
        refine z_callS hB (as := [.int (q9)]) (rest := [.int (p1.1)]) rfl rfl rfl (t_M_one (I := I) ok e12) (fun hB => ?_)
        refine z_iadd hB (fun hB => ?_)
        refine z_istore hB rfl rfl (fun hB => ?_)
        refine z_iinc hB rfl rfl (fun hB => ?_)
        refine z_goto hB (fun hB => ?_)
        cases h
        exact z_weak (i2 ((p1.1 + q11), (p1.2 + (jn 1))) b2) (z_se (z_se (z_se (z_se (z_se z_s0)))))
  exact z_weak (l2 _ ((jn 0), (jn 0)) e4) (z_se (z_se (z_se (z_se (z_se z_s0)))))
def d_M_colour (x1 : Int32) (x2 : Int32) (I : z_H) : Option (Int32 × z_H) := ((d_M_isColour (x1) I).bind fun q1 => ((d_M_in (x2) ((jn 0)) ((jn 2))).bind fun q3 => ((d_M_may ((I 241 6)) (q1) (q3) I).bind fun q5 => (if q5.1 = jn 0 then some (((jn 0), q5.2)) else (if x2 = jn 0 then (if z_in (((jn 12) + x1)) 173 then some (((q5.2 242 (z_n (((jn 12) + x1)))), q5.2)) else none) else (Option.bind (α := Int32) (if x2 = (jn 1) then some ((jn 1)) else some ((jn 6))) fun q7 => ((d_M_flagsWith (x1) (q7) q5.2).bind fun q10 => some ((q10, q5.2)))))))))
/-- FlagLaundryModel.colour(II)I -/
theorem t_M_colour {G : z_G} {w : ev_W} (ok : z_Ok G w) {x1 : Int32} {x2 : Int32} {I : z_H} {r : Int32 × z_H} (h : d_M_colour x1 x2 I = some r) : z_K G 292 [.ref (241), .int (x1), .int (x2)] (z_w w I) (.inl (some (.int r.1))) (z_w w r.2) := by
  refine z_con ok.1 (ml := 3) (by decide +kernel) rfl rfl ?_
  show z_R G 292 0 [some (.ref (241)), some (.int (x1)), some (.int (x2))] [] (z_w w I) (.inl (some (.int r.1))) (z_w w r.2)
  unfold d_M_colour at h
  have hB : z_all [z_is 292 0 (zf_aload 0 0 1), z_is 292 1 (zf_aload 1 0 2), z_is 292 2 (zf_geti 2 8 6 5), z_is 292 5 (zf_aload 5 0 6), z_is 292 6 (zf_iload 6 1 7), z_is 292 7 (zf_cv 7 283 1 8 10), z_is 292 10 (zf_iload 10 2 11), z_is 292 11 (zf_cst 11 (jn 0) 12), z_is 292 12 (zf_cst 12 (jn 2) 13), z_is 292 13 (zf_cs 13 203 3 16), z_is 292 16 (zf_cv 16 206 3 8 19), z_is 292 19 (zf_if1 .ne 19 24 22)] = true := by decide +kernel
  refine z_aload hB rfl (fun hB => ?_)
  refine z_aload hB rfl (fun hB => ?_)
  refine y_geti ok hB (by decide +kernel) (fun hB => ?_)
  refine z_aload hB rfl (fun hB => ?_)
  refine z_iload hB rfl (fun hB => ?_)
  obtain ⟨q1, e2, h⟩ := z_bind h
  refine y_cv ok hB (as := [.int (x1)]) (a := 241) (rest := [.int ((I 241 6)), .ref (241)]) rfl rfl rfl (by decide +kernel) (t_M_isColour (I := I) ok e2) (fun hB => ?_)
  refine z_iload hB rfl (fun hB => ?_)
  refine z_cst hB (fun hB => ?_)
  refine z_cst hB (fun hB => ?_)
  obtain ⟨q3, e4, h⟩ := z_bind h
  refine z_callS hB (as := [.int (x2), .int ((jn 0)), .int ((jn 2))]) (rest := [.int (q1), .int ((I 241 6)), .ref (241)]) rfl rfl rfl (t_M_in (I := I) ok e4) (fun hB => ?_)
  obtain ⟨q5, e6, h⟩ := z_bind h
  refine y_cv ok hB (as := [.int ((I 241 6)), .int (q1), .int (q3)]) (a := 241) (rest := []) rfl rfl rfl (by decide +kernel) (t_M_may (I := I) ok e6) (fun hB => ?_)
  refine z_if_ne hB (fun hc _ => ?_) (fun hc _ => ?_)
  · have h := z_neg hc h
    have hB : z_all [z_is 292 24 (zf_iload 24 2 25), z_is 292 25 (zf_if1 .ne 25 38 28)] = true := by decide +kernel
    refine z_iload hB rfl (fun hB => ?_)
    refine z_if_ne hB (fun hc _ => ?_) (fun hc _ => ?_)
    · have h := z_neg hc h
      have hB : z_all [z_is 292 38 (zf_aload 38 0 39), z_is 292 39 (zf_iload 39 1 40), z_is 292 40 (zf_iload 40 2 41), z_is 292 41 (zf_cst 41 (jn 1) 42), z_is 292 42 (zf_if2 .ne 42 49 45)] = true := by decide +kernel
      refine z_aload hB rfl (fun hB => ?_)
      refine z_iload hB rfl (fun hB => ?_)
      refine z_iload hB rfl (fun hB => ?_)
      refine z_cst hB (fun hB => ?_)
      obtain ⟨q7, e8, h⟩ := z_bind h
      have k9 : z_R G 292 51 [none, none, none] [.int (q7), .int (x1), .ref (241)] (z_w w q5.2) (.inl (some (.int r.1))) (z_w w r.2) := by
        have hB : z_all [z_is 292 51 (zf_cv 51 291 2 8 54), z_is 292 54 (zf_ret 0)] = true := by decide +kernel
        obtain ⟨q10, e11, h⟩ := z_bind h
        refine y_cv ok hB (as := [.int (x1), .int (q7)]) (a := 241) (rest := []) rfl rfl rfl (by decide +kernel) (t_M_flagsWith (I := q5.2) ok e11) (fun hB => ?_)
        cases h
        exact z_reti hB
      have h := e8
      refine z_ic_ne hB (fun hc _ => ?_) (fun hc _ => ?_)
      · have h := z_neg hc h
        have hB : z_all [z_is 292 49 (zf_cst 49 (jn 6) 51)] = true := by decide +kernel
        refine z_cst hB (fun hB => ?_)
        cases h
        exact z_weak k9 (z_sn (z_sn (z_sn z_s0)))
      · have h := z_pos hc h
        have hB : z_all [z_is 292 45 (zf_cst 45 (jn 1) 46), z_is 292 46 (zf_goto 46 51)] = true := by decide +kernel
        refine z_cst hB (fun hB => ?_)
        refine z_goto hB (fun hB => ?_)
        cases h
        exact z_weak k9 (z_sn (z_sn (z_sn z_s0)))
    · have h := z_pos hc h
      have hB : z_all [z_is 292 28 (zf_aload 28 0 29), z_is 292 29 (zf_getr 29 8 1 32), z_is 292 32 (zf_cst 32 (jn 12) 34), z_is 292 34 (zf_iload 34 1 35), z_is 292 35 (zf_iadd 35 36), z_is 292 36 (zf_iald 36 37), z_is 292 37 (zf_ret 0)] = true := by decide +kernel
      refine z_aload hB rfl (fun hB => ?_)
      refine y_getr (b := 242) ok hB (by decide +kernel) (by decide +kernel) (fun hB => ?_)
      refine z_cst hB (fun hB => ?_)
      refine z_iload hB rfl (fun hB => ?_)
      refine z_iadd hB (fun hB => ?_)
      obtain ⟨g12, h⟩ := z_gd h
      refine y_iald ok hB (by decide +kernel) (by decide +kernel) g12 (fun hB => ?_)
      cases h
      exact z_reti hB
  · have h := z_pos hc h
    have hB : z_all [z_is 292 22 (zf_cst 22 (jn 0) 23), z_is 292 23 (zf_ret 0)] = true := by decide +kernel
    refine z_cst hB (fun hB => ?_)
    cases h
    exact z_reti hB
def d_M_readyOf_2 (x1 : Int32) (I : z_H) (p1 : Int32 × Int32) : Option ((Int32 × Int32) ⊕ (Int32 × Int32)) := (if z_in ((jn 10)) 173 then (if p1.2 < (I 242 (z_n ((jn 10)))) then ((d_M_ofFlag (p1.2) ((jn 0)) I).bind fun q7 => (Option.bind (α := Int32) (if q7 = x1 then ((d_M_whyNotReady (p1.2) I).bind fun q14 => (if q14 = jn 0 then some ((jn 1)) else some ((jn 0)))) else some ((jn 0))) fun q9 => ((d_M_one (q9)).bind fun q12 => some (Sum.inl ((p1.1 + q12), (p1.2 + (jn 1))))))) else some (Sum.inr (p1.1, p1.2))) else none)
def d_M_readyOf (x1 : Int32) (I : z_H) : Option (Int32) := ((z_it (d_M_readyOf_2 x1 I) z_F ((jn 0), (jn 0))).bind fun q3 => some (q3.1))
/-- FlagLaundryModel.readyOf(I)I -/
theorem t_M_readyOf {G : z_G} {w : ev_W} (ok : z_Ok G w) {x1 : Int32} {I : z_H} {r : Int32} (h : d_M_readyOf x1 I = some r) : z_K G 293 [.ref (241), .int (x1)] (z_w w I) (.inl (some (.int r))) (z_w w I) := by
  refine z_con ok.1 (ml := 4) (by decide +kernel) rfl rfl ?_
  show z_R G 293 0 [some (.ref (241)), some (.int (x1)), none, none] [] (z_w w I) (.inl (some (.int r))) (z_w w I)
  unfold d_M_readyOf at h
  have hB : z_all [z_is 293 0 (zf_cst 0 (jn 0) 1), z_is 293 1 (zf_istore 1 2 2), z_is 293 2 (zf_cst 2 (jn 0) 3), z_is 293 3 (zf_istore 3 3 4)] = true := by decide +kernel
  refine z_cst hB (fun hB => ?_)
  refine z_istore hB rfl rfl (fun hB => ?_)
  refine z_cst hB (fun hB => ?_)
  refine z_istore hB rfl rfl (fun hB => ?_)
  obtain ⟨q3, e4, h⟩ := z_bind h
  have k5 : z_R G 293 50 [none, none, some (.int (q3.1)), none] [] (z_w w I) (.inl (some (.int r))) (z_w w I) := by
    have hB : z_all [z_is 293 50 (zf_iload 50 2 51), z_is 293 51 (zf_ret 0)] = true := by decide +kernel
    refine z_iload hB rfl (fun hB => ?_)
    cases h
    exact z_reti hB
  have l2 : ∀ (m2 : Nat) (p1 : Int32 × Int32), z_it (d_M_readyOf_2 x1 I) m2 p1 = some q3 → z_R G 293 4 [some (.ref (241)), some (.int (x1)), some (.int (p1.1)), some (.int (p1.2))] [] (z_w w I) (.inl (some (.int r))) (z_w w I) := by
    intro m2
    induction m2 with
    | zero => intro p1 h; cases h
    | succ m2 i2 =>
      intro p1 h
      obtain ⟨u2, h, b2⟩ := z_it_o h
      unfold d_M_readyOf_2 at h
      have hB : z_all [z_is 293 4 (zf_iload 4 3 5), z_is 293 5 (zf_aload 5 0 6), z_is 293 6 (zf_getr 6 8 1 9), z_is 293 9 (zf_cst 9 (jn 10) 11), z_is 293 11 (zf_iald 11 12), z_is 293 12 (zf_if2 .ge 12 50 15)] = true := by decide +kernel
      refine z_iload hB rfl (fun hB => ?_)
      refine z_aload hB rfl (fun hB => ?_)
      refine y_getr (b := 242) ok hB (by decide +kernel) (by decide +kernel) (fun hB => ?_)
      refine z_cst hB (fun hB => ?_)
      obtain ⟨g6, h⟩ := z_gd h
      refine y_iald ok hB (by decide +kernel) (by decide +kernel) g6 (fun hB => ?_)
      refine z_ic_ge hB (fun hc _ => ?_) (fun hc _ => ?_)
      · have h := z_neg hc h
        cases h
        cases b2
        exact z_weak k5 (z_sn (z_sn (z_se (z_sn z_s0))))
      · have h := z_pos hc h
        have hB : z_all [z_is 293 15 (zf_iload 15 2 16), z_is 293 16 (zf_aload 16 0 17), z_is 293 17 (zf_iload 17 3 18), z_is 293 18 (zf_cst 18 (jn 0) 19), z_is 293 19 (zf_cv 19 242 2 8 22), z_is 293 22 (zf_iload 22 1 23), z_is 293 23 (zf_if2 .ne 23 38 26)] = true := by decide +kernel
        refine z_iload hB rfl (fun hB => ?_)
        refine z_aload hB rfl (fun hB => ?_)
        refine z_iload hB rfl (fun hB => ?_)
        refine z_cst hB (fun hB => ?_)
        obtain ⟨q7, e8, h⟩ := z_bind h
        refine y_cv ok hB (as := [.int (p1.2), .int ((jn 0))]) (a := 241) (rest := [.int (p1.1)]) rfl rfl rfl (by decide +kernel) (t_M_ofFlag (I := I) ok e8) (fun hB => ?_)
        refine z_iload hB rfl (fun hB => ?_)
        obtain ⟨q9, e10, h⟩ := z_bind h
        have k11 : z_R G 293 39 [some (.ref (241)), some (.int (x1)), none, some (.int (p1.2))] [.int (q9), .int (p1.1)] (z_w w I) (.inl (some (.int r))) (z_w w I) := by
          have hB : z_all [z_is 293 39 (zf_cs 39 204 1 42), z_is 293 42 (zf_iadd 42 43), z_is 293 43 (zf_istore 43 2 44), z_is 293 44 (zf_iinc 44 3 (jn 1) 47), z_is 293 47 (zf_goto 47 4)] = true := by decide +kernel
          obtain ⟨q12, e13, h⟩ := z_bind h
          refine z_callS hB (as := [.int (q9)]) (rest := [.int (p1.1)]) rfl rfl rfl (t_M_one (I := I) ok e13) (fun hB => ?_)
          refine z_iadd hB (fun hB => ?_)
          refine z_istore hB rfl rfl (fun hB => ?_)
          refine z_iinc hB rfl rfl (fun hB => ?_)
          refine z_goto hB (fun hB => ?_)
          cases h
          exact z_weak (i2 ((p1.1 + q12), (p1.2 + (jn 1))) b2) (z_se (z_se (z_se (z_se z_s0))))
        have h := e10
        refine z_ic_ne hB (fun hc _ => ?_) (fun hc _ => ?_)
        · have h := z_neg hc h
          have hB : z_all [z_is 293 38 (zf_cst 38 (jn 0) 39)] = true := by decide +kernel
          refine z_cst hB (fun hB => ?_)
          cases h
          exact z_weak k11 (z_se (z_se (z_sn (z_se z_s0))))
        · have h := z_pos hc h
          have hB : z_all [z_is 293 26 (zf_aload 26 0 27), z_is 293 27 (zf_iload 27 3 28), z_is 293 28 (zf_cv 28 250 1 8 31), z_is 293 31 (zf_if1 .ne 31 38 34)] = true := by decide +kernel
          refine z_aload hB rfl (fun hB => ?_)
          refine z_iload hB rfl (fun hB => ?_)
          obtain ⟨q14, e15, h⟩ := z_bind h
          refine y_cv ok hB (as := [.int (p1.2)]) (a := 241) (rest := [.int (p1.1)]) rfl rfl rfl (by decide +kernel) (t_M_whyNotReady (I := I) ok e15) (fun hB => ?_)
          refine z_if_ne hB (fun hc _ => ?_) (fun hc _ => ?_)
          · have h := z_neg hc h
            have hB : z_all [z_is 293 38 (zf_cst 38 (jn 0) 39)] = true := by decide +kernel
            refine z_cst hB (fun hB => ?_)
            cases h
            exact z_weak k11 (z_se (z_se (z_sn (z_se z_s0))))
          · have h := z_pos hc h
            have hB : z_all [z_is 293 34 (zf_cst 34 (jn 1) 35), z_is 293 35 (zf_goto 35 39)] = true := by decide +kernel
            refine z_cst hB (fun hB => ?_)
            refine z_goto hB (fun hB => ?_)
            cases h
            exact z_weak k11 (z_se (z_se (z_sn (z_se z_s0))))
  exact z_weak (l2 _ ((jn 0), (jn 0)) e4) (z_se (z_se (z_se (z_se z_s0))))
def d_M_nation (x1 : Int32) (x2 : Int32) (I : z_H) : Option (Int32 × z_H) := ((d_M_isNation (x1) I).bind fun q1 => ((d_M_in (x2) ((jn 0)) ((jn 6))).bind fun q3 => ((d_M_may ((I 241 6)) (q1) (q3) I).bind fun q5 => (if q5.1 = jn 0 then some (((jn 0), q5.2)) else (if x2 = jn 3 then ((d_M_flagsOf (x1) q5.2).bind fun q7 => some ((q7, q5.2))) else (if x2 = jn 4 then ((d_M_readyOf (x1) q5.2).bind fun q9 => some ((q9, q5.2))) else (if x2 = jn 5 then ((d_M_ofNation (x1) ((jn 3)) q5.2).bind fun q11 => some ((q11, q5.2))) else (if x2 = jn 6 then ((d_M_isHanded (x1) q5.2).bind fun q13 => (Option.bind (α := Int32) (if q13 = jn 0 then (if z_in ((jn 0)) 173 then ((d_M_lateAt (x1) ((q5.2 242 (z_n ((jn 0))))) q5.2).bind fun q19 => some (q19)) else none) else ((d_M_ofNation (x1) ((jn 4)) q5.2).bind fun q21 => some (q21))) fun q15 => some ((q15, q5.2)))) else ((d_M_ofNation (x1) (x2) q5.2).bind fun q23 => some ((q23, q5.2)))))))))))
/-- FlagLaundryModel.nation(II)I -/
theorem t_M_nation {G : z_G} {w : ev_W} (ok : z_Ok G w) {x1 : Int32} {x2 : Int32} {I : z_H} {r : Int32 × z_H} (h : d_M_nation x1 x2 I = some r) : z_K G 294 [.ref (241), .int (x1), .int (x2)] (z_w w I) (.inl (some (.int r.1))) (z_w w r.2) := by
  refine z_con ok.1 (ml := 3) (by decide +kernel) rfl rfl ?_
  show z_R G 294 0 [some (.ref (241)), some (.int (x1)), some (.int (x2))] [] (z_w w I) (.inl (some (.int r.1))) (z_w w r.2)
  unfold d_M_nation at h
  have hB : z_all [z_is 294 0 (zf_aload 0 0 1), z_is 294 1 (zf_aload 1 0 2), z_is 294 2 (zf_geti 2 8 6 5), z_is 294 5 (zf_aload 5 0 6), z_is 294 6 (zf_iload 6 1 7), z_is 294 7 (zf_cv 7 284 1 8 10), z_is 294 10 (zf_iload 10 2 11), z_is 294 11 (zf_cst 11 (jn 0) 12), z_is 294 12 (zf_cst 12 (jn 6) 14), z_is 294 14 (zf_cs 14 203 3 17), z_is 294 17 (zf_cv 17 206 3 8 20), z_is 294 20 (zf_if1 .ne 20 25 23)] = true := by decide +kernel
  refine z_aload hB rfl (fun hB => ?_)
  refine z_aload hB rfl (fun hB => ?_)
  refine y_geti ok hB (by decide +kernel) (fun hB => ?_)
  refine z_aload hB rfl (fun hB => ?_)
  refine z_iload hB rfl (fun hB => ?_)
  obtain ⟨q1, e2, h⟩ := z_bind h
  refine y_cv ok hB (as := [.int (x1)]) (a := 241) (rest := [.int ((I 241 6)), .ref (241)]) rfl rfl rfl (by decide +kernel) (t_M_isNation (I := I) ok e2) (fun hB => ?_)
  refine z_iload hB rfl (fun hB => ?_)
  refine z_cst hB (fun hB => ?_)
  refine z_cst hB (fun hB => ?_)
  obtain ⟨q3, e4, h⟩ := z_bind h
  refine z_callS hB (as := [.int (x2), .int ((jn 0)), .int ((jn 6))]) (rest := [.int (q1), .int ((I 241 6)), .ref (241)]) rfl rfl rfl (t_M_in (I := I) ok e4) (fun hB => ?_)
  obtain ⟨q5, e6, h⟩ := z_bind h
  refine y_cv ok hB (as := [.int ((I 241 6)), .int (q1), .int (q3)]) (a := 241) (rest := []) rfl rfl rfl (by decide +kernel) (t_M_may (I := I) ok e6) (fun hB => ?_)
  refine z_if_ne hB (fun hc _ => ?_) (fun hc _ => ?_)
  · have h := z_neg hc h
    have hB : z_all [z_is 294 25 (zf_iload 25 2 26), z_is 294 26 (zf_tsw 26 3 [(jn 3, 56), (jn 4, 62), (jn 5, 68), (jn 6, 75)] 104)] = true := by decide +kernel
    refine z_iload hB rfl (fun hB => ?_)
    refine z_tsw hB ?_
    refine (Decidable.em (x2 = jn 3)).elim (fun hc => ?_) (fun hc => ?_)
    · have h := z_pos hc h
      rw [z_sw_p hc]
      have hB : z_all [z_is 294 56 (zf_aload 56 0 57), z_is 294 57 (zf_iload 57 1 58), z_is 294 58 (zf_cv 58 275 1 8 61), z_is 294 61 (zf_ret 0)] = true := by decide +kernel
      refine z_aload hB rfl (fun hB => ?_)
      refine z_iload hB rfl (fun hB => ?_)
      obtain ⟨q7, e8, h⟩ := z_bind h
      refine y_cv ok hB (as := [.int (x1)]) (a := 241) (rest := []) rfl rfl rfl (by decide +kernel) (t_M_flagsOf (I := q5.2) ok e8) (fun hB => ?_)
      cases h
      exact z_reti hB
    · have h := z_neg hc h
      rw [z_sw_n hc]
      refine (Decidable.em (x2 = jn 4)).elim (fun hc => ?_) (fun hc => ?_)
      · have h := z_pos hc h
        rw [z_sw_p hc]
        have hB : z_all [z_is 294 62 (zf_aload 62 0 63), z_is 294 63 (zf_iload 63 1 64), z_is 294 64 (zf_cv 64 293 1 8 67), z_is 294 67 (zf_ret 0)] = true := by decide +kernel
        refine z_aload hB rfl (fun hB => ?_)
        refine z_iload hB rfl (fun hB => ?_)
        obtain ⟨q9, e10, h⟩ := z_bind h
        refine y_cv ok hB (as := [.int (x1)]) (a := 241) (rest := []) rfl rfl rfl (by decide +kernel) (t_M_readyOf (I := q5.2) ok e10) (fun hB => ?_)
        cases h
        exact z_reti hB
      · have h := z_neg hc h
        rw [z_sw_n hc]
        refine (Decidable.em (x2 = jn 5)).elim (fun hc => ?_) (fun hc => ?_)
        · have h := z_pos hc h
          rw [z_sw_p hc]
          have hB : z_all [z_is 294 68 (zf_aload 68 0 69), z_is 294 69 (zf_iload 69 1 70), z_is 294 70 (zf_cst 70 (jn 3) 71), z_is 294 71 (zf_cv 71 240 2 8 74), z_is 294 74 (zf_ret 0)] = true := by decide +kernel
          refine z_aload hB rfl (fun hB => ?_)
          refine z_iload hB rfl (fun hB => ?_)
          refine z_cst hB (fun hB => ?_)
          obtain ⟨q11, e12, h⟩ := z_bind h
          refine y_cv ok hB (as := [.int (x1), .int ((jn 3))]) (a := 241) (rest := []) rfl rfl rfl (by decide +kernel) (t_M_ofNation (I := q5.2) ok e12) (fun hB => ?_)
          cases h
          exact z_reti hB
        · have h := z_neg hc h
          rw [z_sw_n hc]
          refine (Decidable.em (x2 = jn 6)).elim (fun hc => ?_) (fun hc => ?_)
          · have h := z_pos hc h
            rw [z_sw_p hc]
            have hB : z_all [z_is 294 75 (zf_aload 75 0 76), z_is 294 76 (zf_iload 76 1 77), z_is 294 77 (zf_cv 77 278 1 8 80), z_is 294 80 (zf_if1 .eq 80 92 83)] = true := by decide +kernel
            refine z_aload hB rfl (fun hB => ?_)
            refine z_iload hB rfl (fun hB => ?_)
            obtain ⟨q13, e14, h⟩ := z_bind h
            refine y_cv ok hB (as := [.int (x1)]) (a := 241) (rest := []) rfl rfl rfl (by decide +kernel) (t_M_isHanded (I := q5.2) ok e14) (fun hB => ?_)
            obtain ⟨q15, e16, h⟩ := z_bind h
            have k17 : z_R G 294 103 [none, none, none] [.int (q15)] (z_w w q5.2) (.inl (some (.int r.1))) (z_w w r.2) := by
              have hB : z_all [z_is 294 103 (zf_ret 0)] = true := by decide +kernel
              cases h
              exact z_reti hB
            have h := e16
            refine z_if_eq hB (fun hc _ => ?_) (fun hc _ => ?_)
            · have h := z_pos hc h
              have hB : z_all [z_is 294 92 (zf_aload 92 0 93), z_is 294 93 (zf_iload 93 1 94), z_is 294 94 (zf_aload 94 0 95), z_is 294 95 (zf_getr 95 8 1 98), z_is 294 98 (zf_cst 98 (jn 0) 99), z_is 294 99 (zf_iald 99 100), z_is 294 100 (zf_cv 100 276 2 8 103)] = true := by decide +kernel
              refine z_aload hB rfl (fun hB => ?_)
              refine z_iload hB rfl (fun hB => ?_)
              refine z_aload hB rfl (fun hB => ?_)
              refine y_getr (b := 242) ok hB (by decide +kernel) (by decide +kernel) (fun hB => ?_)
              refine z_cst hB (fun hB => ?_)
              obtain ⟨g18, h⟩ := z_gd h
              refine y_iald ok hB (by decide +kernel) (by decide +kernel) g18 (fun hB => ?_)
              obtain ⟨q19, e20, h⟩ := z_bind h
              refine y_cv ok hB (as := [.int (x1), .int ((q5.2 242 (z_n ((jn 0)))))]) (a := 241) (rest := []) rfl rfl rfl (by decide +kernel) (t_M_lateAt (I := q5.2) ok e20) (fun hB => ?_)
              cases h
              exact z_weak k17 (z_sn (z_sn (z_sn z_s0)))
            · have h := z_neg hc h
              have hB : z_all [z_is 294 83 (zf_aload 83 0 84), z_is 294 84 (zf_iload 84 1 85), z_is 294 85 (zf_cst 85 (jn 4) 86), z_is 294 86 (zf_cv 86 240 2 8 89), z_is 294 89 (zf_goto 89 103)] = true := by decide +kernel
              refine z_aload hB rfl (fun hB => ?_)
              refine z_iload hB rfl (fun hB => ?_)
              refine z_cst hB (fun hB => ?_)
              obtain ⟨q21, e22, h⟩ := z_bind h
              refine y_cv ok hB (as := [.int (x1), .int ((jn 4))]) (a := 241) (rest := []) rfl rfl rfl (by decide +kernel) (t_M_ofNation (I := q5.2) ok e22) (fun hB => ?_)
              refine z_goto hB (fun hB => ?_)
              cases h
              exact z_weak k17 (z_sn (z_sn (z_sn z_s0)))
          · have h := z_neg hc h
            rw [z_sw_n hc]
            show z_R G 294 104 _ _ _ _ _
            have hB : z_all [z_is 294 104 (zf_aload 104 0 105), z_is 294 105 (zf_iload 105 1 106), z_is 294 106 (zf_iload 106 2 107), z_is 294 107 (zf_cv 107 240 2 8 110), z_is 294 110 (zf_ret 0)] = true := by decide +kernel
            refine z_aload hB rfl (fun hB => ?_)
            refine z_iload hB rfl (fun hB => ?_)
            refine z_iload hB rfl (fun hB => ?_)
            obtain ⟨q23, e24, h⟩ := z_bind h
            refine y_cv ok hB (as := [.int (x1), .int (x2)]) (a := 241) (rest := []) rfl rfl rfl (by decide +kernel) (t_M_ofNation (I := q5.2) ok e24) (fun hB => ?_)
            cases h
            exact z_reti hB
  · have h := z_pos hc h
    have hB : z_all [z_is 294 23 (zf_cst 23 (jn 0) 24), z_is 294 24 (zf_ret 0)] = true := by decide +kernel
    refine z_cst hB (fun hB => ?_)
    cases h
    exact z_reti hB
def d_M_flag (x1 : Int32) (x2 : Int32) (I : z_H) : Option (Int32 × z_H) := ((d_M_isFlag (x1) I).bind fun q1 => ((d_M_in (x2) ((jn 0)) ((jn 9))).bind fun q3 => ((d_M_may ((I 241 6)) (q1) (q3) I).bind fun q5 => (Option.bind (α := Int32) (if q5.1 = jn 0 then some ((jn 0)) else ((d_M_ofFlag (x1) (x2) q5.2).bind fun q10 => some (q10))) fun q7 => some ((q7, q5.2))))))
/-- FlagLaundryModel.flag(II)I -/
theorem t_M_flag {G : z_G} {w : ev_W} (ok : z_Ok G w) {x1 : Int32} {x2 : Int32} {I : z_H} {r : Int32 × z_H} (h : d_M_flag x1 x2 I = some r) : z_K G 295 [.ref (241), .int (x1), .int (x2)] (z_w w I) (.inl (some (.int r.1))) (z_w w r.2) := by
  refine z_con ok.1 (ml := 3) (by decide +kernel) rfl rfl ?_
  show z_R G 295 0 [some (.ref (241)), some (.int (x1)), some (.int (x2))] [] (z_w w I) (.inl (some (.int r.1))) (z_w w r.2)
  unfold d_M_flag at h
  have hB : z_all [z_is 295 0 (zf_aload 0 0 1), z_is 295 1 (zf_aload 1 0 2), z_is 295 2 (zf_geti 2 8 6 5), z_is 295 5 (zf_aload 5 0 6), z_is 295 6 (zf_iload 6 1 7), z_is 295 7 (zf_cv 7 285 1 8 10), z_is 295 10 (zf_iload 10 2 11), z_is 295 11 (zf_cst 11 (jn 0) 12), z_is 295 12 (zf_cst 12 (jn 9) 14), z_is 295 14 (zf_cs 14 203 3 17), z_is 295 17 (zf_cv 17 206 3 8 20), z_is 295 20 (zf_if1 .eq 20 32 23)] = true := by decide +kernel
  refine z_aload hB rfl (fun hB => ?_)
  refine z_aload hB rfl (fun hB => ?_)
  refine y_geti ok hB (by decide +kernel) (fun hB => ?_)
  refine z_aload hB rfl (fun hB => ?_)
  refine z_iload hB rfl (fun hB => ?_)
  obtain ⟨q1, e2, h⟩ := z_bind h
  refine y_cv ok hB (as := [.int (x1)]) (a := 241) (rest := [.int ((I 241 6)), .ref (241)]) rfl rfl rfl (by decide +kernel) (t_M_isFlag (I := I) ok e2) (fun hB => ?_)
  refine z_iload hB rfl (fun hB => ?_)
  refine z_cst hB (fun hB => ?_)
  refine z_cst hB (fun hB => ?_)
  obtain ⟨q3, e4, h⟩ := z_bind h
  refine z_callS hB (as := [.int (x2), .int ((jn 0)), .int ((jn 9))]) (rest := [.int (q1), .int ((I 241 6)), .ref (241)]) rfl rfl rfl (t_M_in (I := I) ok e4) (fun hB => ?_)
  obtain ⟨q5, e6, h⟩ := z_bind h
  refine y_cv ok hB (as := [.int ((I 241 6)), .int (q1), .int (q3)]) (a := 241) (rest := []) rfl rfl rfl (by decide +kernel) (t_M_may (I := I) ok e6) (fun hB => ?_)
  obtain ⟨q7, e8, h⟩ := z_bind h
  have k9 : z_R G 295 33 [none, none, none] [.int (q7)] (z_w w q5.2) (.inl (some (.int r.1))) (z_w w r.2) := by
    have hB : z_all [z_is 295 33 (zf_ret 0)] = true := by decide +kernel
    cases h
    exact z_reti hB
  have h := e8
  refine z_if_eq hB (fun hc _ => ?_) (fun hc _ => ?_)
  · have h := z_pos hc h
    have hB : z_all [z_is 295 32 (zf_cst 32 (jn 0) 33)] = true := by decide +kernel
    refine z_cst hB (fun hB => ?_)
    cases h
    exact z_weak k9 (z_sn (z_sn (z_sn z_s0)))
  · have h := z_neg hc h
    have hB : z_all [z_is 295 23 (zf_aload 23 0 24), z_is 295 24 (zf_iload 24 1 25), z_is 295 25 (zf_iload 25 2 26), z_is 295 26 (zf_cv 26 242 2 8 29), z_is 295 29 (zf_goto 29 33)] = true := by decide +kernel
    refine z_aload hB rfl (fun hB => ?_)
    refine z_iload hB rfl (fun hB => ?_)
    refine z_iload hB rfl (fun hB => ?_)
    obtain ⟨q10, e11, h⟩ := z_bind h
    refine y_cv ok hB (as := [.int (x1), .int (x2)]) (a := 241) (rest := []) rfl rfl rfl (by decide +kernel) (t_M_ofFlag (I := q5.2) ok e11) (fun hB => ?_)
    refine z_goto hB (fun hB => ?_)
    cases h
    exact z_weak k9 (z_sn (z_sn (z_sn z_s0)))
def d_M_ofTub_2 (x1 : Int32) (x2 : Int32) (I : z_H) (p1 : Int32 × Int32) : Option ((Int32 × Int32) ⊕ (Int32 × Int32)) := (if z_in ((jn 10)) 173 then (if p1.2 < (I 242 (z_n ((jn 10)))) then ((d_M_isInTub (p1.2) (x1) I).bind fun q7 => (Option.bind (α := Int32) (if q7 = jn 0 then some (p1.1) else (if x2 = (jn 3) then ((d_M_ofFlag (p1.2) ((jn 3)) I).bind fun q14 => some ((p1.1 + q14))) else ((d_M_ofFlag (p1.2) ((jn 1)) I).bind fun q12 => some ((p1.1 ||| q12))))) fun q9 => some (Sum.inl (q9, (p1.2 + (jn 1)))))) else some (Sum.inr (p1.1, p1.2))) else none)
def d_M_ofTub (x1 : Int32) (x2 : Int32) (I : z_H) : Option (Int32) := ((z_it (d_M_ofTub_2 x1 x2 I) z_F ((jn 0), (jn 0))).bind fun q3 => some (q3.1))
/-- FlagLaundryModel.ofTub(II)I -/
theorem t_M_ofTub {G : z_G} {w : ev_W} (ok : z_Ok G w) {x1 : Int32} {x2 : Int32} {I : z_H} {r : Int32} (h : d_M_ofTub x1 x2 I = some r) : z_K G 296 [.ref (241), .int (x1), .int (x2)] (z_w w I) (.inl (some (.int r))) (z_w w I) := by
  refine z_con ok.1 (ml := 5) (by decide +kernel) rfl rfl ?_
  show z_R G 296 0 [some (.ref (241)), some (.int (x1)), some (.int (x2)), none, none] [] (z_w w I) (.inl (some (.int r))) (z_w w I)
  unfold d_M_ofTub at h
  have hB : z_all [z_is 296 0 (zf_cst 0 (jn 0) 1), z_is 296 1 (zf_istore 1 3 2), z_is 296 2 (zf_cst 2 (jn 0) 3), z_is 296 3 (zf_istore 3 4 5)] = true := by decide +kernel
  refine z_cst hB (fun hB => ?_)
  refine z_istore hB rfl rfl (fun hB => ?_)
  refine z_cst hB (fun hB => ?_)
  refine z_istore hB rfl rfl (fun hB => ?_)
  obtain ⟨q3, e4, h⟩ := z_bind h
  have k5 : z_R G 296 64 [none, none, none, some (.int (q3.1)), none] [] (z_w w I) (.inl (some (.int r))) (z_w w I) := by
    have hB : z_all [z_is 296 64 (zf_iload 64 3 65), z_is 296 65 (zf_ret 0)] = true := by decide +kernel
    refine z_iload hB rfl (fun hB => ?_)
    cases h
    exact z_reti hB
  have l2 : ∀ (m2 : Nat) (p1 : Int32 × Int32), z_it (d_M_ofTub_2 x1 x2 I) m2 p1 = some q3 → z_R G 296 5 [some (.ref (241)), some (.int (x1)), some (.int (x2)), some (.int (p1.1)), some (.int (p1.2))] [] (z_w w I) (.inl (some (.int r))) (z_w w I) := by
    intro m2
    induction m2 with
    | zero => intro p1 h; cases h
    | succ m2 i2 =>
      intro p1 h
      obtain ⟨u2, h, b2⟩ := z_it_o h
      unfold d_M_ofTub_2 at h
      have hB : z_all [z_is 296 5 (zf_iload 5 4 7), z_is 296 7 (zf_aload 7 0 8), z_is 296 8 (zf_getr 8 8 1 11), z_is 296 11 (zf_cst 11 (jn 10) 13), z_is 296 13 (zf_iald 13 14), z_is 296 14 (zf_if2 .ge 14 64 17)] = true := by decide +kernel
      refine z_iload hB rfl (fun hB => ?_)
      refine z_aload hB rfl (fun hB => ?_)
      refine y_getr (b := 242) ok hB (by decide +kernel) (by decide +kernel) (fun hB => ?_)
      refine z_cst hB (fun hB => ?_)
      obtain ⟨g6, h⟩ := z_gd h
      refine y_iald ok hB (by decide +kernel) (by decide +kernel) g6 (fun hB => ?_)
      refine z_ic_ge hB (fun hc _ => ?_) (fun hc _ => ?_)
      · have h := z_neg hc h
        cases h
        cases b2
        exact z_weak k5 (z_sn (z_sn (z_sn (z_se (z_sn z_s0)))))
      · have h := z_pos hc h
        have hB : z_all [z_is 296 17 (zf_aload 17 0 18), z_is 296 18 (zf_iload 18 4 20), z_is 296 20 (zf_iload 20 1 21), z_is 296 21 (zf_cv 21 246 2 8 24), z_is 296 24 (zf_if1 .ne 24 30 27)] = true := by decide +kernel
        refine z_aload hB rfl (fun hB => ?_)
        refine z_iload hB rfl (fun hB => ?_)
        refine z_iload hB rfl (fun hB => ?_)
        obtain ⟨q7, e8, h⟩ := z_bind h
        refine y_cv ok hB (as := [.int (p1.2), .int (x1)]) (a := 241) (rest := []) rfl rfl rfl (by decide +kernel) (t_M_isInTub (I := I) ok e8) (fun hB => ?_)
        obtain ⟨q9, e10, h⟩ := z_bind h
        have k11 : z_R G 296 58 [some (.ref (241)), some (.int (x1)), some (.int (x2)), some (.int (q9)), some (.int (p1.2))] [] (z_w w I) (.inl (some (.int r))) (z_w w I) := by
          have hB : z_all [z_is 296 58 (zf_iinc 58 4 (jn 1) 61), z_is 296 61 (zf_goto 61 5)] = true := by decide +kernel
          refine z_iinc hB rfl rfl (fun hB => ?_)
          refine z_goto hB (fun hB => ?_)
          cases h
          exact z_weak (i2 (q9, (p1.2 + (jn 1))) b2) (z_se (z_se (z_se (z_se (z_se z_s0)))))
        have h := e10
        refine z_if_ne hB (fun hc _ => ?_) (fun hc _ => ?_)
        · have h := z_neg hc h
          have hB : z_all [z_is 296 30 (zf_iload 30 2 31), z_is 296 31 (zf_cst 31 (jn 3) 32), z_is 296 32 (zf_if2 .ne 32 48 35)] = true := by decide +kernel
          refine z_iload hB rfl (fun hB => ?_)
          refine z_cst hB (fun hB => ?_)
          refine z_ic_ne hB (fun hc _ => ?_) (fun hc _ => ?_)
          · have h := z_neg hc h
            have hB : z_all [z_is 296 48 (zf_iload 48 3 49), z_is 296 49 (zf_aload 49 0 50), z_is 296 50 (zf_iload 50 4 52), z_is 296 52 (zf_cst 52 (jn 1) 53), z_is 296 53 (zf_cv 53 242 2 8 56), z_is 296 56 (zf_ior 56 57), z_is 296 57 (zf_istore 57 3 58)] = true := by decide +kernel
            refine z_iload hB rfl (fun hB => ?_)
            refine z_aload hB rfl (fun hB => ?_)
            refine z_iload hB rfl (fun hB => ?_)
            refine z_cst hB (fun hB => ?_)
            obtain ⟨q12, e13, h⟩ := z_bind h
            refine y_cv ok hB (as := [.int (p1.2), .int ((jn 1))]) (a := 241) (rest := [.int (p1.1)]) rfl rfl rfl (by decide +kernel) (t_M_ofFlag (I := I) ok e13) (fun hB => ?_)
            refine z_ior hB (fun hB => ?_)
            refine z_istore hB rfl rfl (fun hB => ?_)
            cases h
            exact z_weak k11 (z_se (z_se (z_se (z_se (z_se z_s0)))))
          · have h := z_pos hc h
            have hB : z_all [z_is 296 35 (zf_iload 35 3 36), z_is 296 36 (zf_aload 36 0 37), z_is 296 37 (zf_iload 37 4 39), z_is 296 39 (zf_cst 39 (jn 3) 40), z_is 296 40 (zf_cv 40 242 2 8 43), z_is 296 43 (zf_iadd 43 44), z_is 296 44 (zf_istore 44 3 45), z_is 296 45 (zf_goto 45 58)] = true := by decide +kernel
            refine z_iload hB rfl (fun hB => ?_)
            refine z_aload hB rfl (fun hB => ?_)
            refine z_iload hB rfl (fun hB => ?_)
            refine z_cst hB (fun hB => ?_)
            obtain ⟨q14, e15, h⟩ := z_bind h
            refine y_cv ok hB (as := [.int (p1.2), .int ((jn 3))]) (a := 241) (rest := [.int (p1.1)]) rfl rfl rfl (by decide +kernel) (t_M_ofFlag (I := I) ok e15) (fun hB => ?_)
            refine z_iadd hB (fun hB => ?_)
            refine z_istore hB rfl rfl (fun hB => ?_)
            refine z_goto hB (fun hB => ?_)
            cases h
            exact z_weak k11 (z_se (z_se (z_se (z_se (z_se z_s0)))))
        · have h := z_pos hc h
          have hB : z_all [z_is 296 27 (zf_goto 27 58)] = true := by decide +kernel
          refine z_goto hB (fun hB => ?_)
          cases h
          exact z_weak k11 (z_se (z_se (z_se (z_se (z_se z_s0)))))
  exact z_weak (l2 _ ((jn 0), (jn 0)) e4) (z_se (z_se (z_se (z_se (z_se z_s0)))))
def d_M_tub (x1 : Int32) (x2 : Int32) (I : z_H) : Option (Int32 × z_H) := ((d_M_isTub (x1) I).bind fun q1 => ((d_M_in (x2) ((jn 0)) ((jn 4))).bind fun q3 => ((d_M_may ((I 241 6)) (q1) (q3) I).bind fun q5 => (if q5.1 = jn 0 then some (((jn 0), q5.2)) else (if x2 = jn 0 then (if z_in (((jn 38) + x1)) 173 then some (((q5.2 242 (z_n (((jn 38) + x1)))), q5.2)) else none) else (if x2 = jn 1 then ((d_M_manyIn (x1) q5.2).bind fun q8 => some ((q8, q5.2))) else (if x2 = jn 2 then ((d_M_leastCare (x1) q5.2).bind fun q10 => some ((q10, q5.2))) else ((d_M_ofTub (x1) (x2) q5.2).bind fun q12 => some ((q12, q5.2))))))))))
/-- FlagLaundryModel.tub(II)I -/
theorem t_M_tub {G : z_G} {w : ev_W} (ok : z_Ok G w) {x1 : Int32} {x2 : Int32} {I : z_H} {r : Int32 × z_H} (h : d_M_tub x1 x2 I = some r) : z_K G 297 [.ref (241), .int (x1), .int (x2)] (z_w w I) (.inl (some (.int r.1))) (z_w w r.2) := by
  refine z_con ok.1 (ml := 3) (by decide +kernel) rfl rfl ?_
  show z_R G 297 0 [some (.ref (241)), some (.int (x1)), some (.int (x2))] [] (z_w w I) (.inl (some (.int r.1))) (z_w w r.2)
  unfold d_M_tub at h
  have hB : z_all [z_is 297 0 (zf_aload 0 0 1), z_is 297 1 (zf_aload 1 0 2), z_is 297 2 (zf_geti 2 8 6 5), z_is 297 5 (zf_aload 5 0 6), z_is 297 6 (zf_iload 6 1 7), z_is 297 7 (zf_cv 7 286 1 8 10), z_is 297 10 (zf_iload 10 2 11), z_is 297 11 (zf_cst 11 (jn 0) 12), z_is 297 12 (zf_cst 12 (jn 4) 13), z_is 297 13 (zf_cs 13 203 3 16), z_is 297 16 (zf_cv 16 206 3 8 19), z_is 297 19 (zf_if1 .ne 19 24 22)] = true := by decide +kernel
  refine z_aload hB rfl (fun hB => ?_)
  refine z_aload hB rfl (fun hB => ?_)
  refine y_geti ok hB (by decide +kernel) (fun hB => ?_)
  refine z_aload hB rfl (fun hB => ?_)
  refine z_iload hB rfl (fun hB => ?_)
  obtain ⟨q1, e2, h⟩ := z_bind h
  refine y_cv ok hB (as := [.int (x1)]) (a := 241) (rest := [.int ((I 241 6)), .ref (241)]) rfl rfl rfl (by decide +kernel) (t_M_isTub (I := I) ok e2) (fun hB => ?_)
  refine z_iload hB rfl (fun hB => ?_)
  refine z_cst hB (fun hB => ?_)
  refine z_cst hB (fun hB => ?_)
  obtain ⟨q3, e4, h⟩ := z_bind h
  refine z_callS hB (as := [.int (x2), .int ((jn 0)), .int ((jn 4))]) (rest := [.int (q1), .int ((I 241 6)), .ref (241)]) rfl rfl rfl (t_M_in (I := I) ok e4) (fun hB => ?_)
  obtain ⟨q5, e6, h⟩ := z_bind h
  refine y_cv ok hB (as := [.int ((I 241 6)), .int (q1), .int (q3)]) (a := 241) (rest := []) rfl rfl rfl (by decide +kernel) (t_M_may (I := I) ok e6) (fun hB => ?_)
  refine z_if_ne hB (fun hc _ => ?_) (fun hc _ => ?_)
  · have h := z_neg hc h
    have hB : z_all [z_is 297 24 (zf_iload 24 2 25), z_is 297 25 (zf_tsw 25 0 [(jn 0, 52), (jn 1, 62), (jn 2, 68)] 74)] = true := by decide +kernel
    refine z_iload hB rfl (fun hB => ?_)
    refine z_tsw hB ?_
    refine (Decidable.em (x2 = jn 0)).elim (fun hc => ?_) (fun hc => ?_)
    · have h := z_pos hc h
      rw [z_sw_p hc]
      have hB : z_all [z_is 297 52 (zf_aload 52 0 53), z_is 297 53 (zf_getr 53 8 1 56), z_is 297 56 (zf_cst 56 (jn 38) 58), z_is 297 58 (zf_iload 58 1 59), z_is 297 59 (zf_iadd 59 60), z_is 297 60 (zf_iald 60 61), z_is 297 61 (zf_ret 0)] = true := by decide +kernel
      refine z_aload hB rfl (fun hB => ?_)
      refine y_getr (b := 242) ok hB (by decide +kernel) (by decide +kernel) (fun hB => ?_)
      refine z_cst hB (fun hB => ?_)
      refine z_iload hB rfl (fun hB => ?_)
      refine z_iadd hB (fun hB => ?_)
      obtain ⟨g7, h⟩ := z_gd h
      refine y_iald ok hB (by decide +kernel) (by decide +kernel) g7 (fun hB => ?_)
      cases h
      exact z_reti hB
    · have h := z_neg hc h
      rw [z_sw_n hc]
      refine (Decidable.em (x2 = jn 1)).elim (fun hc => ?_) (fun hc => ?_)
      · have h := z_pos hc h
        rw [z_sw_p hc]
        have hB : z_all [z_is 297 62 (zf_aload 62 0 63), z_is 297 63 (zf_iload 63 1 64), z_is 297 64 (zf_cv 64 251 1 8 67), z_is 297 67 (zf_ret 0)] = true := by decide +kernel
        refine z_aload hB rfl (fun hB => ?_)
        refine z_iload hB rfl (fun hB => ?_)
        obtain ⟨q8, e9, h⟩ := z_bind h
        refine y_cv ok hB (as := [.int (x1)]) (a := 241) (rest := []) rfl rfl rfl (by decide +kernel) (t_M_manyIn (I := q5.2) ok e9) (fun hB => ?_)
        cases h
        exact z_reti hB
      · have h := z_neg hc h
        rw [z_sw_n hc]
        refine (Decidable.em (x2 = jn 2)).elim (fun hc => ?_) (fun hc => ?_)
        · have h := z_pos hc h
          rw [z_sw_p hc]
          have hB : z_all [z_is 297 68 (zf_aload 68 0 69), z_is 297 69 (zf_iload 69 1 70), z_is 297 70 (zf_cv 70 254 1 8 73), z_is 297 73 (zf_ret 0)] = true := by decide +kernel
          refine z_aload hB rfl (fun hB => ?_)
          refine z_iload hB rfl (fun hB => ?_)
          obtain ⟨q10, e11, h⟩ := z_bind h
          refine y_cv ok hB (as := [.int (x1)]) (a := 241) (rest := []) rfl rfl rfl (by decide +kernel) (t_M_leastCare (I := q5.2) ok e11) (fun hB => ?_)
          cases h
          exact z_reti hB
        · have h := z_neg hc h
          rw [z_sw_n hc]
          show z_R G 297 74 _ _ _ _ _
          have hB : z_all [z_is 297 74 (zf_aload 74 0 75), z_is 297 75 (zf_iload 75 1 76), z_is 297 76 (zf_iload 76 2 77), z_is 297 77 (zf_cv 77 296 2 8 80), z_is 297 80 (zf_ret 0)] = true := by decide +kernel
          refine z_aload hB rfl (fun hB => ?_)
          refine z_iload hB rfl (fun hB => ?_)
          refine z_iload hB rfl (fun hB => ?_)
          obtain ⟨q12, e13, h⟩ := z_bind h
          refine y_cv ok hB (as := [.int (x1), .int (x2)]) (a := 241) (rest := []) rfl rfl rfl (by decide +kernel) (t_M_ofTub (I := q5.2) ok e13) (fun hB => ?_)
          cases h
          exact z_reti hB
  · have h := z_pos hc h
    have hB : z_all [z_is 297 22 (zf_cst 22 (jn 0) 23), z_is 297 23 (zf_ret 0)] = true := by decide +kernel
    refine z_cst hB (fun hB => ?_)
    cases h
    exact z_reti hB
def d_M_ahead_2 (x1 : Int32) (I : z_H) (p1 : Int32 × Int32) : Option ((Int32 × Int32) ⊕ (Int32 × Int32)) := (if z_in ((jn 10)) 173 then (if p1.2 < (I 242 (z_n ((jn 10)))) then ((d_M_ofFlag (x1) ((jn 9)) I).bind fun q7 => ((d_M_isInTub (p1.2) (q7) I).bind fun q9 => (Option.bind (α := Int32) (if q9 = jn 0 then some ((jn 0)) else ((d_M_ofFlag (p1.2) ((jn 10)) I).bind fun q16 => ((d_M_ofFlag (x1) ((jn 10)) I).bind fun q18 => (if q16 < q18 then some ((jn 1)) else some ((jn 0)))))) fun q11 => ((d_M_one (q11)).bind fun q14 => some (Sum.inl ((p1.1 + q14), (p1.2 + (jn 1)))))))) else some (Sum.inr (p1.1, p1.2))) else none)
def d_M_ahead (x1 : Int32) (I : z_H) : Option (Int32) := ((z_it (d_M_ahead_2 x1 I) z_F ((jn 0), (jn 0))).bind fun q3 => some (q3.1))
/-- FlagLaundryModel.ahead(I)I -/
theorem t_M_ahead {G : z_G} {w : ev_W} (ok : z_Ok G w) {x1 : Int32} {I : z_H} {r : Int32} (h : d_M_ahead x1 I = some r) : z_K G 298 [.ref (241), .int (x1)] (z_w w I) (.inl (some (.int r))) (z_w w I) := by
  refine z_con ok.1 (ml := 4) (by decide +kernel) rfl rfl ?_
  show z_R G 298 0 [some (.ref (241)), some (.int (x1)), none, none] [] (z_w w I) (.inl (some (.int r))) (z_w w I)
  unfold d_M_ahead at h
  have hB : z_all [z_is 298 0 (zf_cst 0 (jn 0) 1), z_is 298 1 (zf_istore 1 2 2), z_is 298 2 (zf_cst 2 (jn 0) 3), z_is 298 3 (zf_istore 3 3 4)] = true := by decide +kernel
  refine z_cst hB (fun hB => ?_)
  refine z_istore hB rfl rfl (fun hB => ?_)
  refine z_cst hB (fun hB => ?_)
  refine z_istore hB rfl rfl (fun hB => ?_)
  obtain ⟨q3, e4, h⟩ := z_bind h
  have k5 : z_R G 298 64 [none, none, some (.int (q3.1)), none] [] (z_w w I) (.inl (some (.int r))) (z_w w I) := by
    have hB : z_all [z_is 298 64 (zf_iload 64 2 65), z_is 298 65 (zf_ret 0)] = true := by decide +kernel
    refine z_iload hB rfl (fun hB => ?_)
    cases h
    exact z_reti hB
  have l2 : ∀ (m2 : Nat) (p1 : Int32 × Int32), z_it (d_M_ahead_2 x1 I) m2 p1 = some q3 → z_R G 298 4 [some (.ref (241)), some (.int (x1)), some (.int (p1.1)), some (.int (p1.2))] [] (z_w w I) (.inl (some (.int r))) (z_w w I) := by
    intro m2
    induction m2 with
    | zero => intro p1 h; cases h
    | succ m2 i2 =>
      intro p1 h
      obtain ⟨u2, h, b2⟩ := z_it_o h
      unfold d_M_ahead_2 at h
      have hB : z_all [z_is 298 4 (zf_iload 4 3 5), z_is 298 5 (zf_aload 5 0 6), z_is 298 6 (zf_getr 6 8 1 9), z_is 298 9 (zf_cst 9 (jn 10) 11), z_is 298 11 (zf_iald 11 12), z_is 298 12 (zf_if2 .ge 12 64 15)] = true := by decide +kernel
      refine z_iload hB rfl (fun hB => ?_)
      refine z_aload hB rfl (fun hB => ?_)
      refine y_getr (b := 242) ok hB (by decide +kernel) (by decide +kernel) (fun hB => ?_)
      refine z_cst hB (fun hB => ?_)
      obtain ⟨g6, h⟩ := z_gd h
      refine y_iald ok hB (by decide +kernel) (by decide +kernel) g6 (fun hB => ?_)
      refine z_ic_ge hB (fun hc _ => ?_) (fun hc _ => ?_)
      · have h := z_neg hc h
        cases h
        cases b2
        exact z_weak k5 (z_sn (z_sn (z_se (z_sn z_s0))))
      · have h := z_pos hc h
        have hB : z_all [z_is 298 15 (zf_iload 15 2 16), z_is 298 16 (zf_aload 16 0 17), z_is 298 17 (zf_iload 17 3 18), z_is 298 18 (zf_aload 18 0 19), z_is 298 19 (zf_iload 19 1 20), z_is 298 20 (zf_cst 20 (jn 9) 22), z_is 298 22 (zf_cv 22 242 2 8 25), z_is 298 25 (zf_cv 25 246 2 8 28), z_is 298 28 (zf_if1 .eq 28 52 31)] = true := by decide +kernel
        refine z_iload hB rfl (fun hB => ?_)
        refine z_aload hB rfl (fun hB => ?_)
        refine z_iload hB rfl (fun hB => ?_)
        refine z_aload hB rfl (fun hB => ?_)
        refine z_iload hB rfl (fun hB => ?_)
        refine z_cst hB (fun hB => ?_)
        obtain ⟨q7, e8, h⟩ := z_bind h
        refine y_cv ok hB (as := [.int (x1), .int ((jn 9))]) (a := 241) (rest := [.int (p1.2), .ref (241), .int (p1.1)]) rfl rfl rfl (by decide +kernel) (t_M_ofFlag (I := I) ok e8) (fun hB => ?_)
        obtain ⟨q9, e10, h⟩ := z_bind h
        refine y_cv ok hB (as := [.int (p1.2), .int (q7)]) (a := 241) (rest := [.int (p1.1)]) rfl rfl rfl (by decide +kernel) (t_M_isInTub (I := I) ok e10) (fun hB => ?_)
        obtain ⟨q11, e12, h⟩ := z_bind h
        have k13 : z_R G 298 53 [some (.ref (241)), some (.int (x1)), none, some (.int (p1.2))] [.int (q11), .int (p1.1)] (z_w w I) (.inl (some (.int r))) (z_w w I) := by
          have hB : z_all [z_is 298 53 (zf_cs 53 204 1 56), z_is 298 56 (zf_iadd 56 57), z_is 298 57 (zf_istore 57 2 58), z_is 298 58 (zf_iinc 58 3 (jn 1) 61), z_is 298 61 (zf_goto 61 4)] = true := by decide +kernel
          obtain ⟨q14, e15, h⟩ := z_bind h
          refine z_callS hB (as := [.int (q11)]) (rest := [.int (p1.1)]) rfl rfl rfl (t_M_one (I := I) ok e15) (fun hB => ?_)
          refine z_iadd hB (fun hB => ?_)
          refine z_istore hB rfl rfl (fun hB => ?_)
          refine z_iinc hB rfl rfl (fun hB => ?_)
          refine z_goto hB (fun hB => ?_)
          cases h
          exact z_weak (i2 ((p1.1 + q14), (p1.2 + (jn 1))) b2) (z_se (z_se (z_se (z_se z_s0))))
        have h := e12
        refine z_if_eq hB (fun hc _ => ?_) (fun hc _ => ?_)
        · have h := z_pos hc h
          have hB : z_all [z_is 298 52 (zf_cst 52 (jn 0) 53)] = true := by decide +kernel
          refine z_cst hB (fun hB => ?_)
          cases h
          exact z_weak k13 (z_se (z_se (z_sn (z_se z_s0))))
        · have h := z_neg hc h
          have hB : z_all [z_is 298 31 (zf_aload 31 0 32), z_is 298 32 (zf_iload 32 3 33), z_is 298 33 (zf_cst 33 (jn 10) 35), z_is 298 35 (zf_cv 35 242 2 8 38), z_is 298 38 (zf_aload 38 0 39), z_is 298 39 (zf_iload 39 1 40), z_is 298 40 (zf_cst 40 (jn 10) 42), z_is 298 42 (zf_cv 42 242 2 8 45), z_is 298 45 (zf_if2 .ge 45 52 48)] = true := by decide +kernel
          refine z_aload hB rfl (fun hB => ?_)
          refine z_iload hB rfl (fun hB => ?_)
          refine z_cst hB (fun hB => ?_)
          obtain ⟨q16, e17, h⟩ := z_bind h
          refine y_cv ok hB (as := [.int (p1.2), .int ((jn 10))]) (a := 241) (rest := [.int (p1.1)]) rfl rfl rfl (by decide +kernel) (t_M_ofFlag (I := I) ok e17) (fun hB => ?_)
          refine z_aload hB rfl (fun hB => ?_)
          refine z_iload hB rfl (fun hB => ?_)
          refine z_cst hB (fun hB => ?_)
          obtain ⟨q18, e19, h⟩ := z_bind h
          refine y_cv ok hB (as := [.int (x1), .int ((jn 10))]) (a := 241) (rest := [.int (q16), .int (p1.1)]) rfl rfl rfl (by decide +kernel) (t_M_ofFlag (I := I) ok e19) (fun hB => ?_)
          refine z_ic_ge hB (fun hc _ => ?_) (fun hc _ => ?_)
          · have h := z_neg hc h
            have hB : z_all [z_is 298 52 (zf_cst 52 (jn 0) 53)] = true := by decide +kernel
            refine z_cst hB (fun hB => ?_)
            cases h
            exact z_weak k13 (z_se (z_se (z_sn (z_se z_s0))))
          · have h := z_pos hc h
            have hB : z_all [z_is 298 48 (zf_cst 48 (jn 1) 49), z_is 298 49 (zf_goto 49 53)] = true := by decide +kernel
            refine z_cst hB (fun hB => ?_)
            refine z_goto hB (fun hB => ?_)
            cases h
            exact z_weak k13 (z_se (z_se (z_sn (z_se z_s0))))
  exact z_weak (l2 _ ((jn 0), (jn 0)) e4) (z_se (z_se (z_se (z_se z_s0))))
def d_M_flagIn_2 (x1 : Int32) (x2 : Int32) (I : z_H) (p1 : Int32) : Option ((Int32) ⊕ (Int32)) := (if z_in ((jn 10)) 173 then (if p1 < (I 242 (z_n ((jn 10)))) then ((d_M_isInTub (p1) (x1) I).bind fun q4 => (if q4 = jn 0 then some (Sum.inl ((p1 + (jn 1)))) else ((d_M_ahead (p1) I).bind fun q6 => (if q6 = x2 then some (Sum.inr (p1)) else some (Sum.inl ((p1 + (jn 1)))))))) else some (Sum.inr ((jg 1)))) else none)
def d_M_flagIn (x1 : Int32) (x2 : Int32) (I : z_H) : Option (Int32) := (z_it (d_M_flagIn_2 x1 x2 I) z_F ((jn 0)))
/-- FlagLaundryModel.flagIn(II)I -/
theorem t_M_flagIn {G : z_G} {w : ev_W} (ok : z_Ok G w) {x1 : Int32} {x2 : Int32} {I : z_H} {r : Int32} (h : d_M_flagIn x1 x2 I = some r) : z_K G 299 [.ref (241), .int (x1), .int (x2)] (z_w w I) (.inl (some (.int r))) (z_w w I) := by
  refine z_con ok.1 (ml := 4) (by decide +kernel) rfl rfl ?_
  show z_R G 299 0 [some (.ref (241)), some (.int (x1)), some (.int (x2)), none] [] (z_w w I) (.inl (some (.int r))) (z_w w I)
  unfold d_M_flagIn at h
  have hB : z_all [z_is 299 0 (zf_cst 0 (jn 0) 1), z_is 299 1 (zf_istore 1 3 2)] = true := by decide +kernel
  refine z_cst hB (fun hB => ?_)
  refine z_istore hB rfl rfl (fun hB => ?_)
  have l2 : ∀ (m2 : Nat) (p1 : Int32), z_it (d_M_flagIn_2 x1 x2 I) m2 p1 = some r → z_R G 299 2 [some (.ref (241)), some (.int (x1)), some (.int (x2)), some (.int (p1))] [] (z_w w I) (.inl (some (.int r))) (z_w w I) := by
    intro m2
    induction m2 with
    | zero => intro p1 h; cases h
    | succ m2 i2 =>
      intro p1 h
      obtain ⟨u2, h, b2⟩ := z_it_o h
      unfold d_M_flagIn_2 at h
      have hB : z_all [z_is 299 2 (zf_iload 2 3 3), z_is 299 3 (zf_aload 3 0 4), z_is 299 4 (zf_getr 4 8 1 7), z_is 299 7 (zf_cst 7 (jn 10) 9), z_is 299 9 (zf_iald 9 10), z_is 299 10 (zf_if2 .ge 10 39 13)] = true := by decide +kernel
      refine z_iload hB rfl (fun hB => ?_)
      refine z_aload hB rfl (fun hB => ?_)
      refine y_getr (b := 242) ok hB (by decide +kernel) (by decide +kernel) (fun hB => ?_)
      refine z_cst hB (fun hB => ?_)
      obtain ⟨g3, h⟩ := z_gd h
      refine y_iald ok hB (by decide +kernel) (by decide +kernel) g3 (fun hB => ?_)
      refine z_ic_ge hB (fun hc _ => ?_) (fun hc _ => ?_)
      · have h := z_neg hc h
        have hB : z_all [z_is 299 39 (zf_cst 39 (jg 1) 40), z_is 299 40 (zf_ret 0)] = true := by decide +kernel
        refine z_cst hB (fun hB => ?_)
        cases h
        cases b2
        exact z_reti hB
      · have h := z_pos hc h
        have hB : z_all [z_is 299 13 (zf_aload 13 0 14), z_is 299 14 (zf_iload 14 3 15), z_is 299 15 (zf_iload 15 1 16), z_is 299 16 (zf_cv 16 246 2 8 19), z_is 299 19 (zf_if1 .eq 19 33 22)] = true := by decide +kernel
        refine z_aload hB rfl (fun hB => ?_)
        refine z_iload hB rfl (fun hB => ?_)
        refine z_iload hB rfl (fun hB => ?_)
        obtain ⟨q4, e5, h⟩ := z_bind h
        refine y_cv ok hB (as := [.int (p1), .int (x1)]) (a := 241) (rest := []) rfl rfl rfl (by decide +kernel) (t_M_isInTub (I := I) ok e5) (fun hB => ?_)
        refine z_if_eq hB (fun hc _ => ?_) (fun hc _ => ?_)
        · have h := z_pos hc h
          have hB : z_all [z_is 299 33 (zf_iinc 33 3 (jn 1) 36), z_is 299 36 (zf_goto 36 2)] = true := by decide +kernel
          refine z_iinc hB rfl rfl (fun hB => ?_)
          refine z_goto hB (fun hB => ?_)
          cases h
          exact z_weak (i2 ((p1 + (jn 1))) b2) (z_se (z_se (z_se (z_se z_s0))))
        · have h := z_neg hc h
          have hB : z_all [z_is 299 22 (zf_aload 22 0 23), z_is 299 23 (zf_iload 23 3 24), z_is 299 24 (zf_cv 24 298 1 8 27), z_is 299 27 (zf_iload 27 2 28), z_is 299 28 (zf_if2 .ne 28 33 31)] = true := by decide +kernel
          refine z_aload hB rfl (fun hB => ?_)
          refine z_iload hB rfl (fun hB => ?_)
          obtain ⟨q6, e7, h⟩ := z_bind h
          refine y_cv ok hB (as := [.int (p1)]) (a := 241) (rest := []) rfl rfl rfl (by decide +kernel) (t_M_ahead (I := I) ok e7) (fun hB => ?_)
          refine z_iload hB rfl (fun hB => ?_)
          refine z_ic_ne hB (fun hc _ => ?_) (fun hc _ => ?_)
          · have h := z_neg hc h
            have hB : z_all [z_is 299 33 (zf_iinc 33 3 (jn 1) 36), z_is 299 36 (zf_goto 36 2)] = true := by decide +kernel
            refine z_iinc hB rfl rfl (fun hB => ?_)
            refine z_goto hB (fun hB => ?_)
            cases h
            exact z_weak (i2 ((p1 + (jn 1))) b2) (z_se (z_se (z_se (z_se z_s0))))
          · have h := z_pos hc h
            have hB : z_all [z_is 299 31 (zf_iload 31 3 32), z_is 299 32 (zf_ret 0)] = true := by decide +kernel
            refine z_iload hB rfl (fun hB => ?_)
            cases h
            cases b2
            exact z_reti hB
  exact z_weak (l2 _ ((jn 0)) h) (z_se (z_se (z_se (z_se z_s0))))
def d_M_inTub (x1 : Int32) (x2 : Int32) (I : z_H) : Option (Int32 × z_H) := ((d_M_mayTub (x1) I).bind fun q1 => (Option.bind (α := Int32) (if q1.1 = jn 0 then some ((jn 0)) else ((d_M_flagIn (x1) (x2) q1.2).bind fun q6 => some (q6))) fun q3 => some ((q3, q1.2))))
/-- FlagLaundryModel.inTub(II)I -/
theorem t_M_inTub {G : z_G} {w : ev_W} (ok : z_Ok G w) {x1 : Int32} {x2 : Int32} {I : z_H} {r : Int32 × z_H} (h : d_M_inTub x1 x2 I = some r) : z_K G 300 [.ref (241), .int (x1), .int (x2)] (z_w w I) (.inl (some (.int r.1))) (z_w w r.2) := by
  refine z_con ok.1 (ml := 3) (by decide +kernel) rfl rfl ?_
  show z_R G 300 0 [some (.ref (241)), some (.int (x1)), some (.int (x2))] [] (z_w w I) (.inl (some (.int r.1))) (z_w w r.2)
  unfold d_M_inTub at h
  have hB : z_all [z_is 300 0 (zf_aload 0 0 1), z_is 300 1 (zf_iload 1 1 2), z_is 300 2 (zf_cv 2 289 1 8 5), z_is 300 5 (zf_if1 .eq 5 17 8)] = true := by decide +kernel
  refine z_aload hB rfl (fun hB => ?_)
  refine z_iload hB rfl (fun hB => ?_)
  obtain ⟨q1, e2, h⟩ := z_bind h
  refine y_cv ok hB (as := [.int (x1)]) (a := 241) (rest := []) rfl rfl rfl (by decide +kernel) (t_M_mayTub (I := I) ok e2) (fun hB => ?_)
  obtain ⟨q3, e4, h⟩ := z_bind h
  have k5 : z_R G 300 18 [none, none, none] [.int (q3)] (z_w w q1.2) (.inl (some (.int r.1))) (z_w w r.2) := by
    have hB : z_all [z_is 300 18 (zf_ret 0)] = true := by decide +kernel
    cases h
    exact z_reti hB
  have h := e4
  refine z_if_eq hB (fun hc _ => ?_) (fun hc _ => ?_)
  · have h := z_pos hc h
    have hB : z_all [z_is 300 17 (zf_cst 17 (jn 0) 18)] = true := by decide +kernel
    refine z_cst hB (fun hB => ?_)
    cases h
    exact z_weak k5 (z_sn (z_sn (z_sn z_s0)))
  · have h := z_neg hc h
    have hB : z_all [z_is 300 8 (zf_aload 8 0 9), z_is 300 9 (zf_iload 9 1 10), z_is 300 10 (zf_iload 10 2 11), z_is 300 11 (zf_cv 11 299 2 8 14), z_is 300 14 (zf_goto 14 18)] = true := by decide +kernel
    refine z_aload hB rfl (fun hB => ?_)
    refine z_iload hB rfl (fun hB => ?_)
    refine z_iload hB rfl (fun hB => ?_)
    obtain ⟨q6, e7, h⟩ := z_bind h
    refine y_cv ok hB (as := [.int (x1), .int (x2)]) (a := 241) (rest := []) rfl rfl rfl (by decide +kernel) (t_M_flagIn (I := q1.2) ok e7) (fun hB => ?_)
    refine z_goto hB (fun hB => ?_)
    cases h
    exact z_weak k5 (z_sn (z_sn (z_sn z_s0)))
def d_M_onPeg (x1 : Int32) (I : z_H) : Option (Int32 × z_H) := (Option.bind (α := Int32) (if (I 241 6) = jn 0 then some ((jn 0)) else (if z_in ((jn 9)) 173 then ((d_M_in (x1) ((jn 0)) (((I 242 (z_n ((jn 9)))) - (jn 1)))).bind fun q12 => (if q12 = jn 0 then some ((jn 0)) else some ((jn 1)))) else none)) fun q1 => ((d_M_mayTwo ((I 241 6)) (q1) I).bind fun q4 => (Option.bind (α := Int32) (if q4.1 = jn 0 then some ((jn 0)) else ((d_M_flagOn (x1) q4.2).bind fun q9 => some (q9))) fun q6 => some ((q6, q4.2)))))
/-- FlagLaundryModel.onPeg(I)I -/
theorem t_M_onPeg {G : z_G} {w : ev_W} (ok : z_Ok G w) {x1 : Int32} {I : z_H} {r : Int32 × z_H} (h : d_M_onPeg x1 I = some r) : z_K G 301 [.ref (241), .int (x1)] (z_w w I) (.inl (some (.int r.1))) (z_w w r.2) := by
  refine z_con ok.1 (ml := 2) (by decide +kernel) rfl rfl ?_
  show z_R G 301 0 [some (.ref (241)), some (.int (x1))] [] (z_w w I) (.inl (some (.int r.1))) (z_w w r.2)
  unfold d_M_onPeg at h
  have hB : z_all [z_is 301 0 (zf_aload 0 0 1), z_is 301 1 (zf_aload 1 0 2), z_is 301 2 (zf_geti 2 8 6 5), z_is 301 5 (zf_aload 5 0 6), z_is 301 6 (zf_geti 6 8 6 9), z_is 301 9 (zf_if1 .eq 9 33 12)] = true := by decide +kernel
  refine z_aload hB rfl (fun hB => ?_)
  refine z_aload hB rfl (fun hB => ?_)
  refine y_geti ok hB (by decide +kernel) (fun hB => ?_)
  refine z_aload hB rfl (fun hB => ?_)
  refine y_geti ok hB (by decide +kernel) (fun hB => ?_)
  obtain ⟨q1, e2, h⟩ := z_bind h
  have k3 : z_R G 301 34 [some (.ref (241)), some (.int (x1))] [.int (q1), .int ((I 241 6)), .ref (241)] (z_w w I) (.inl (some (.int r.1))) (z_w w r.2) := by
    have hB : z_all [z_is 301 34 (zf_cv 34 207 2 8 37), z_is 301 37 (zf_if1 .eq 37 48 40)] = true := by decide +kernel
    obtain ⟨q4, e5, h⟩ := z_bind h
    refine y_cv ok hB (as := [.int ((I 241 6)), .int (q1)]) (a := 241) (rest := []) rfl rfl rfl (by decide +kernel) (t_M_mayTwo (I := I) ok e5) (fun hB => ?_)
    obtain ⟨q6, e7, h⟩ := z_bind h
    have k8 : z_R G 301 49 [none, none] [.int (q6)] (z_w w q4.2) (.inl (some (.int r.1))) (z_w w r.2) := by
      have hB : z_all [z_is 301 49 (zf_ret 0)] = true := by decide +kernel
      cases h
      exact z_reti hB
    have h := e7
    refine z_if_eq hB (fun hc _ => ?_) (fun hc _ => ?_)
    · have h := z_pos hc h
      have hB : z_all [z_is 301 48 (zf_cst 48 (jn 0) 49)] = true := by decide +kernel
      refine z_cst hB (fun hB => ?_)
      cases h
      exact z_weak k8 (z_sn (z_sn z_s0))
    · have h := z_neg hc h
      have hB : z_all [z_is 301 40 (zf_aload 40 0 41), z_is 301 41 (zf_iload 41 1 42), z_is 301 42 (zf_cv 42 265 1 8 45), z_is 301 45 (zf_goto 45 49)] = true := by decide +kernel
      refine z_aload hB rfl (fun hB => ?_)
      refine z_iload hB rfl (fun hB => ?_)
      obtain ⟨q9, e10, h⟩ := z_bind h
      refine y_cv ok hB (as := [.int (x1)]) (a := 241) (rest := []) rfl rfl rfl (by decide +kernel) (t_M_flagOn (I := q4.2) ok e10) (fun hB => ?_)
      refine z_goto hB (fun hB => ?_)
      cases h
      exact z_weak k8 (z_sn (z_sn z_s0))
  have h := e2
  refine z_if_eq hB (fun hc _ => ?_) (fun hc _ => ?_)
  · have h := z_pos hc h
    have hB : z_all [z_is 301 33 (zf_cst 33 (jn 0) 34)] = true := by decide +kernel
    refine z_cst hB (fun hB => ?_)
    cases h
    exact z_weak k3 (z_se (z_se z_s0))
  · have h := z_neg hc h
    have hB : z_all [z_is 301 12 (zf_iload 12 1 13), z_is 301 13 (zf_cst 13 (jn 0) 14), z_is 301 14 (zf_aload 14 0 15), z_is 301 15 (zf_getr 15 8 1 18), z_is 301 18 (zf_cst 18 (jn 9) 20), z_is 301 20 (zf_iald 20 21), z_is 301 21 (zf_cst 21 (jn 1) 22), z_is 301 22 (zf_isub 22 23), z_is 301 23 (zf_cs 23 203 3 26), z_is 301 26 (zf_if1 .eq 26 33 29)] = true := by decide +kernel
    refine z_iload hB rfl (fun hB => ?_)
    refine z_cst hB (fun hB => ?_)
    refine z_aload hB rfl (fun hB => ?_)
    refine y_getr (b := 242) ok hB (by decide +kernel) (by decide +kernel) (fun hB => ?_)
    refine z_cst hB (fun hB => ?_)
    obtain ⟨g11, h⟩ := z_gd h
    refine y_iald ok hB (by decide +kernel) (by decide +kernel) g11 (fun hB => ?_)
    refine z_cst hB (fun hB => ?_)
    refine z_isub hB (fun hB => ?_)
    obtain ⟨q12, e13, h⟩ := z_bind h
    refine z_callS hB (as := [.int (x1), .int ((jn 0)), .int (((I 242 (z_n ((jn 9)))) - (jn 1)))]) (rest := [.int ((I 241 6)), .ref (241)]) rfl rfl rfl (t_M_in (I := I) ok e13) (fun hB => ?_)
    refine z_if_eq hB (fun hc _ => ?_) (fun hc _ => ?_)
    · have h := z_pos hc h
      have hB : z_all [z_is 301 33 (zf_cst 33 (jn 0) 34)] = true := by decide +kernel
      refine z_cst hB (fun hB => ?_)
      cases h
      exact z_weak k3 (z_se (z_se z_s0))
    · have h := z_neg hc h
      have hB : z_all [z_is 301 29 (zf_cst 29 (jn 1) 30), z_is 301 30 (zf_goto 30 34)] = true := by decide +kernel
      refine z_cst hB (fun hB => ?_)
      refine z_goto hB (fun hB => ?_)
      cases h
      exact z_weak k3 (z_se (z_se z_s0))
def d_M_freePegs  (I : z_H) : Option (Int32 × z_H) := ((d_M_mayLook I).bind fun q1 => (Option.bind (α := Int32) (if q1.1 = jn 0 then some ((jn 0)) else (if z_in ((jn 9)) 173 then ((d_M_flagsAt ((jn 2)) q1.2).bind fun q7 => some (((q1.2 242 (z_n ((jn 9)))) - q7))) else none)) fun q3 => some ((q3, q1.2))))
/-- FlagLaundryModel.freePegs()I -/
theorem t_M_freePegs {G : z_G} {w : ev_W} (ok : z_Ok G w) {I : z_H} {r : Int32 × z_H} (h : d_M_freePegs I = some r) : z_K G 302 [.ref (241)] (z_w w I) (.inl (some (.int r.1))) (z_w w r.2) := by
  refine z_con ok.1 (ml := 1) (by decide +kernel) rfl rfl ?_
  show z_R G 302 0 [some (.ref (241))] [] (z_w w I) (.inl (some (.int r.1))) (z_w w r.2)
  unfold d_M_freePegs at h
  have hB : z_all [z_is 302 0 (zf_aload 0 0 1), z_is 302 1 (zf_cv 1 208 0 8 4), z_is 302 4 (zf_if1 .eq 4 23 7)] = true := by decide +kernel
  refine z_aload hB rfl (fun hB => ?_)
  obtain ⟨q1, e2, h⟩ := z_bind h
  refine y_cv ok hB (as := []) (a := 241) (rest := []) rfl rfl rfl (by decide +kernel) (t_M_mayLook (I := I) ok e2) (fun hB => ?_)
  obtain ⟨q3, e4, h⟩ := z_bind h
  have k5 : z_R G 302 24 [none] [.int (q3)] (z_w w q1.2) (.inl (some (.int r.1))) (z_w w r.2) := by
    have hB : z_all [z_is 302 24 (zf_ret 0)] = true := by decide +kernel
    cases h
    exact z_reti hB
  have h := e4
  refine z_if_eq hB (fun hc _ => ?_) (fun hc _ => ?_)
  · have h := z_pos hc h
    have hB : z_all [z_is 302 23 (zf_cst 23 (jn 0) 24)] = true := by decide +kernel
    refine z_cst hB (fun hB => ?_)
    cases h
    exact z_weak k5 (z_sn z_s0)
  · have h := z_neg hc h
    have hB : z_all [z_is 302 7 (zf_aload 7 0 8), z_is 302 8 (zf_getr 8 8 1 11), z_is 302 11 (zf_cst 11 (jn 9) 13), z_is 302 13 (zf_iald 13 14), z_is 302 14 (zf_aload 14 0 15), z_is 302 15 (zf_cst 15 (jn 2) 16), z_is 302 16 (zf_cv 16 280 1 8 19), z_is 302 19 (zf_isub 19 20), z_is 302 20 (zf_goto 20 24)] = true := by decide +kernel
    refine z_aload hB rfl (fun hB => ?_)
    refine y_getr (b := 242) ok hB (by decide +kernel) (by decide +kernel) (fun hB => ?_)
    refine z_cst hB (fun hB => ?_)
    obtain ⟨g6, h⟩ := z_gd h
    refine y_iald ok hB (by decide +kernel) (by decide +kernel) g6 (fun hB => ?_)
    refine z_aload hB rfl (fun hB => ?_)
    refine z_cst hB (fun hB => ?_)
    obtain ⟨q7, e8, h⟩ := z_bind h
    refine y_cv ok hB (as := [.int ((jn 2))]) (a := 241) (rest := [.int ((q1.2 242 (z_n ((jn 9)))))]) rfl rfl rfl (by decide +kernel) (t_M_flagsAt (I := q1.2) ok e8) (fun hB => ?_)
    refine z_isub hB (fun hB => ?_)
    refine z_goto hB (fun hB => ?_)
    cases h
    exact z_weak k5 (z_sn z_s0)
def d_M_wettest_4 (q1 : Int32 × z_H) (p3 : Int32 × Int32) : Option ((Int32 × Int32) ⊕ (Int32 × Int32)) := (if z_in ((jn 10)) 173 then (if p3.2 < (q1.2 242 (z_n ((jn 10)))) then ((d_M_where (p3.2) q1.2).bind fun q9 => (Option.bind (α := Int32) (if q9 = (jn 2) then (if p3.1 = (jg 1) then some (p3.2) else ((d_M_ofFlag (p3.2) ((jn 4)) q1.2).bind fun q14 => ((d_M_ofFlag (p3.1) ((jn 4)) q1.2).bind fun q16 => (if q16 < q14 then some (p3.2) else some (p3.1))))) else some (p3.1)) fun q11 => some (Sum.inl (q11, (p3.2 + (jn 1)))))) else some (Sum.inr (p3.1, p3.2))) else none)
def d_M_wettest  (I : z_H) : Option (Int32 × z_H) := ((d_M_mayLook I).bind fun q1 => (if q1.1 = jn 0 then some (((jn 0), q1.2)) else ((z_it (d_M_wettest_4 q1) z_F ((jg 1), (jn 0))).bind fun q5 => some ((q5.1, q1.2)))))
/-- FlagLaundryModel.wettest()I -/
theorem t_M_wettest {G : z_G} {w : ev_W} (ok : z_Ok G w) {I : z_H} {r : Int32 × z_H} (h : d_M_wettest I = some r) : z_K G 303 [.ref (241)] (z_w w I) (.inl (some (.int r.1))) (z_w w r.2) := by
  refine z_con ok.1 (ml := 3) (by decide +kernel) rfl rfl ?_
  show z_R G 303 0 [some (.ref (241)), none, none] [] (z_w w I) (.inl (some (.int r.1))) (z_w w r.2)
  unfold d_M_wettest at h
  have hB : z_all [z_is 303 0 (zf_aload 0 0 1), z_is 303 1 (zf_cv 1 208 0 8 4), z_is 303 4 (zf_if1 .ne 4 9 7)] = true := by decide +kernel
  refine z_aload hB rfl (fun hB => ?_)
  obtain ⟨q1, e2, h⟩ := z_bind h
  refine y_cv ok hB (as := []) (a := 241) (rest := []) rfl rfl rfl (by decide +kernel) (t_M_mayLook (I := I) ok e2) (fun hB => ?_)
  refine z_if_ne hB (fun hc _ => ?_) (fun hc _ => ?_)
  · have h := z_neg hc h
    have hB : z_all [z_is 303 9 (zf_cst 9 (jg 1) 10), z_is 303 10 (zf_istore 10 1 11), z_is 303 11 (zf_cst 11 (jn 0) 12), z_is 303 12 (zf_istore 12 2 13)] = true := by decide +kernel
    refine z_cst hB (fun hB => ?_)
    refine z_istore hB rfl rfl (fun hB => ?_)
    refine z_cst hB (fun hB => ?_)
    refine z_istore hB rfl rfl (fun hB => ?_)
    obtain ⟨q5, e6, h⟩ := z_bind h
    have k7 : z_R G 303 61 [none, some (.int (q5.1)), none] [] (z_w w q1.2) (.inl (some (.int r.1))) (z_w w r.2) := by
      have hB : z_all [z_is 303 61 (zf_iload 61 1 62), z_is 303 62 (zf_ret 0)] = true := by decide +kernel
      refine z_iload hB rfl (fun hB => ?_)
      cases h
      exact z_reti hB
    have l4 : ∀ (m4 : Nat) (p3 : Int32 × Int32), z_it (d_M_wettest_4 q1) m4 p3 = some q5 → z_R G 303 13 [some (.ref (241)), some (.int (p3.1)), some (.int (p3.2))] [] (z_w w q1.2) (.inl (some (.int r.1))) (z_w w r.2) := by
      intro m4
      induction m4 with
      | zero => intro p3 h; cases h
      | succ m4 i4 =>
        intro p3 h
        obtain ⟨u4, h, b4⟩ := z_it_o h
        unfold d_M_wettest_4 at h
        have hB : z_all [z_is 303 13 (zf_iload 13 2 14), z_is 303 14 (zf_aload 14 0 15), z_is 303 15 (zf_getr 15 8 1 18), z_is 303 18 (zf_cst 18 (jn 10) 20), z_is 303 20 (zf_iald 20 21), z_is 303 21 (zf_if2 .ge 21 61 24)] = true := by decide +kernel
        refine z_iload hB rfl (fun hB => ?_)
        refine z_aload hB rfl (fun hB => ?_)
        refine y_getr (b := 242) ok hB (by decide +kernel) (by decide +kernel) (fun hB => ?_)
        refine z_cst hB (fun hB => ?_)
        obtain ⟨g8, h⟩ := z_gd h
        refine y_iald ok hB (by decide +kernel) (by decide +kernel) g8 (fun hB => ?_)
        refine z_ic_ge hB (fun hc _ => ?_) (fun hc _ => ?_)
        · have h := z_neg hc h
          cases h
          cases b4
          exact z_weak k7 (z_sn (z_se (z_sn z_s0)))
        · have h := z_pos hc h
          have hB : z_all [z_is 303 24 (zf_aload 24 0 25), z_is 303 25 (zf_iload 25 2 26), z_is 303 26 (zf_cv 26 244 1 8 29), z_is 303 29 (zf_cst 29 (jn 2) 30), z_is 303 30 (zf_if2 .ne 30 55 33)] = true := by decide +kernel
          refine z_aload hB rfl (fun hB => ?_)
          refine z_iload hB rfl (fun hB => ?_)
          obtain ⟨q9, e10, h⟩ := z_bind h
          refine y_cv ok hB (as := [.int (p3.2)]) (a := 241) (rest := []) rfl rfl rfl (by decide +kernel) (t_M_where (I := q1.2) ok e10) (fun hB => ?_)
          refine z_cst hB (fun hB => ?_)
          obtain ⟨q11, e12, h⟩ := z_bind h
          have k13 : z_R G 303 55 [some (.ref (241)), some (.int (q11)), some (.int (p3.2))] [] (z_w w q1.2) (.inl (some (.int r.1))) (z_w w r.2) := by
            have hB : z_all [z_is 303 55 (zf_iinc 55 2 (jn 1) 58), z_is 303 58 (zf_goto 58 13)] = true := by decide +kernel
            refine z_iinc hB rfl rfl (fun hB => ?_)
            refine z_goto hB (fun hB => ?_)
            cases h
            exact z_weak (i4 (q11, (p3.2 + (jn 1))) b4) (z_se (z_se (z_se z_s0)))
          have h := e12
          refine z_ic_ne hB (fun hc _ => ?_) (fun hc _ => ?_)
          · have h := z_neg hc h
            cases h
            exact z_weak k13 (z_se (z_se (z_se z_s0)))
          · have h := z_pos hc h
            have hB : z_all [z_is 303 33 (zf_iload 33 1 34), z_is 303 34 (zf_cst 34 (jg 1) 35), z_is 303 35 (zf_if2 .eq 35 53 38)] = true := by decide +kernel
            refine z_iload hB rfl (fun hB => ?_)
            refine z_cst hB (fun hB => ?_)
            refine z_ic_eq hB (fun hc _ => ?_) (fun hc _ => ?_)
            · have h := z_pos hc h
              have hB : z_all [z_is 303 53 (zf_iload 53 2 54), z_is 303 54 (zf_istore 54 1 55)] = true := by decide +kernel
              refine z_iload hB rfl (fun hB => ?_)
              refine z_istore hB rfl rfl (fun hB => ?_)
              cases h
              exact z_weak k13 (z_se (z_se (z_se z_s0)))
            · have h := z_neg hc h
              have hB : z_all [z_is 303 38 (zf_aload 38 0 39), z_is 303 39 (zf_iload 39 2 40), z_is 303 40 (zf_cst 40 (jn 4) 41), z_is 303 41 (zf_cv 41 242 2 8 44), z_is 303 44 (zf_aload 44 0 45), z_is 303 45 (zf_iload 45 1 46), z_is 303 46 (zf_cst 46 (jn 4) 47), z_is 303 47 (zf_cv 47 242 2 8 50), z_is 303 50 (zf_if2 .le 50 55 53)] = true := by decide +kernel
              refine z_aload hB rfl (fun hB => ?_)
              refine z_iload hB rfl (fun hB => ?_)
              refine z_cst hB (fun hB => ?_)
              obtain ⟨q14, e15, h⟩ := z_bind h
              refine y_cv ok hB (as := [.int (p3.2), .int ((jn 4))]) (a := 241) (rest := []) rfl rfl rfl (by decide +kernel) (t_M_ofFlag (I := q1.2) ok e15) (fun hB => ?_)
              refine z_aload hB rfl (fun hB => ?_)
              refine z_iload hB rfl (fun hB => ?_)
              refine z_cst hB (fun hB => ?_)
              obtain ⟨q16, e17, h⟩ := z_bind h
              refine y_cv ok hB (as := [.int (p3.1), .int ((jn 4))]) (a := 241) (rest := [.int (q14)]) rfl rfl rfl (by decide +kernel) (t_M_ofFlag (I := q1.2) ok e17) (fun hB => ?_)
              refine z_ic_le hB (fun hc _ => ?_) (fun hc _ => ?_)
              · have h := z_neg hc h
                cases h
                exact z_weak k13 (z_se (z_se (z_se z_s0)))
              · have h := z_pos hc h
                have hB : z_all [z_is 303 53 (zf_iload 53 2 54), z_is 303 54 (zf_istore 54 1 55)] = true := by decide +kernel
                refine z_iload hB rfl (fun hB => ?_)
                refine z_istore hB rfl rfl (fun hB => ?_)
                cases h
                exact z_weak k13 (z_se (z_se (z_se z_s0)))
    exact z_weak (l4 _ ((jg 1), (jn 0)) e6) (z_se (z_se (z_se z_s0)))
  · have h := z_pos hc h
    have hB : z_all [z_is 303 7 (zf_cst 7 (jn 0) 8), z_is 303 8 (zf_ret 0)] = true := by decide +kernel
    refine z_cst hB (fun hB => ?_)
    cases h
    exact z_reti hB
def d_M_gap_4 (q1 : Int32 × z_H) (p3 : Int32 × Int32 × Int32) : Option ((Int32 × Int32 × Int32) ⊕ (Int32 × Int32 × Int32)) := (if z_in ((jn 10)) 173 then (if p3.2.2 < (q1.2 242 (z_n ((jn 10)))) then ((d_M_where (p3.2.2) q1.2).bind fun q20 => (Option.bind (α := Int32) (if q20 = (jn 3) then ((d_M_ofFlag (p3.2.2) ((jn 0)) q1.2).bind fun q34 => ((d_M_ofNation (q34) ((jn 1)) q1.2).bind fun q36 => some (q36))) else some ((jn 0))) fun q22 => ((d_M_ofFlag (p3.2.2) ((jn 6)) q1.2).bind fun q25 => ((d_M_ofFlag (p3.2.2) ((jn 1)) q1.2).bind fun q27 => (Option.bind (α := Int32) (if (q25 &&& q27) = jn 0 then some ((jn 0)) else some ((jn 1))) fun q29 => ((d_M_one (q29)).bind fun q32 => some (Sum.inl ((p3.1 + q22), (p3.2.1 + q32), (p3.2.2 + (jn 1)))))))))) else some (Sum.inr (p3.1, p3.2.1, p3.2.2))) else none)
def d_M_gap  (I : z_H) : Option (Int32 × z_H) := ((d_M_mayLook I).bind fun q1 => (if q1.1 = jn 0 then some (((jn 0), q1.2)) else ((z_it (d_M_gap_4 q1) z_F ((jn 0), (jn 0), (jn 0))).bind fun q5 => ((d_M_flagsAt ((jn 0)) q1.2).bind fun q8 => ((d_M_flagsAt ((jn 1)) q1.2).bind fun q10 => ((d_M_flagsAt ((jn 2)) q1.2).bind fun q12 => ((d_M_flagsAt ((jn 3)) q1.2).bind fun q14 => (if z_in ((jn 10)) 173 then (if z_in ((jn 2)) 173 then (if z_in ((jn 3)) 173 then some ((((q5.2.1 + (z_ab (((q1.2 242 (z_n ((jn 10)))) - (((q8 + q10) + q12) + q14))))) + (z_ab ((((q1.2 242 (z_n ((jn 2)))) + (q1.2 242 (z_n ((jn 3))))) - q5.1)))), q1.2)) else none) else none) else none))))))))
/-- FlagLaundryModel.gap()I -/
theorem t_M_gap {G : z_G} {w : ev_W} (ok : z_Ok G w) {I : z_H} {r : Int32 × z_H} (h : d_M_gap I = some r) : z_K G 304 [.ref (241)] (z_w w I) (.inl (some (.int r.1))) (z_w w r.2) := by
  refine z_con ok.1 (ml := 4) (by decide +kernel) rfl rfl ?_
  show z_R G 304 0 [some (.ref (241)), none, none, none] [] (z_w w I) (.inl (some (.int r.1))) (z_w w r.2)
  unfold d_M_gap at h
  have hB : z_all [z_is 304 0 (zf_aload 0 0 1), z_is 304 1 (zf_cv 1 208 0 8 4), z_is 304 4 (zf_if1 .ne 4 9 7)] = true := by decide +kernel
  refine z_aload hB rfl (fun hB => ?_)
  obtain ⟨q1, e2, h⟩ := z_bind h
  refine y_cv ok hB (as := []) (a := 241) (rest := []) rfl rfl rfl (by decide +kernel) (t_M_mayLook (I := I) ok e2) (fun hB => ?_)
  refine z_if_ne hB (fun hc _ => ?_) (fun hc _ => ?_)
  · have h := z_neg hc h
    have hB : z_all [z_is 304 9 (zf_cst 9 (jn 0) 10), z_is 304 10 (zf_istore 10 1 11), z_is 304 11 (zf_cst 11 (jn 0) 12), z_is 304 12 (zf_istore 12 2 13), z_is 304 13 (zf_cst 13 (jn 0) 14), z_is 304 14 (zf_istore 14 3 15)] = true := by decide +kernel
    refine z_cst hB (fun hB => ?_)
    refine z_istore hB rfl rfl (fun hB => ?_)
    refine z_cst hB (fun hB => ?_)
    refine z_istore hB rfl rfl (fun hB => ?_)
    refine z_cst hB (fun hB => ?_)
    refine z_istore hB rfl rfl (fun hB => ?_)
    obtain ⟨q5, e6, h⟩ := z_bind h
    have k7 : z_R G 304 87 [some (.ref (241)), some (.int (q5.1)), some (.int (q5.2.1)), none] [] (z_w w q1.2) (.inl (some (.int r.1))) (z_w w r.2) := by
      have hB : z_all [z_is 304 87 (zf_aload 87 0 88), z_is 304 88 (zf_cst 88 (jn 0) 89), z_is 304 89 (zf_cv 89 280 1 8 92), z_is 304 92 (zf_aload 92 0 93), z_is 304 93 (zf_cst 93 (jn 1) 94), z_is 304 94 (zf_cv 94 280 1 8 97), z_is 304 97 (zf_iadd 97 98), z_is 304 98 (zf_aload 98 0 99), z_is 304 99 (zf_cst 99 (jn 2) 100), z_is 304 100 (zf_cv 100 280 1 8 103), z_is 304 103 (zf_iadd 103 104), z_is 304 104 (zf_aload 104 0 105), z_is 304 105 (zf_cst 105 (jn 3) 106), z_is 304 106 (zf_cv 106 280 1 8 109), z_is 304 109 (zf_iadd 109 110), z_is 304 110 (zf_istore 110 3 111), z_is 304 111 (zf_iload 111 2 112), z_is 304 112 (zf_aload 112 0 113), z_is 304 113 (zf_getr 113 8 1 116), z_is 304 116 (zf_cst 116 (jn 10) 118), z_is 304 118 (zf_iald 118 119), z_is 304 119 (zf_iload 119 3 120), z_is 304 120 (zf_isub 120 121), z_is 304 121 (zf_nat 121 102 124), z_is 304 124 (zf_iadd 124 125), z_is 304 125 (zf_aload 125 0 126), z_is 304 126 (zf_getr 126 8 1 129), z_is 304 129 (zf_cst 129 (jn 2) 130), z_is 304 130 (zf_iald 130 131), z_is 304 131 (zf_aload 131 0 132), z_is 304 132 (zf_getr 132 8 1 135), z_is 304 135 (zf_cst 135 (jn 3) 136), z_is 304 136 (zf_iald 136 137), z_is 304 137 (zf_iadd 137 138), z_is 304 138 (zf_iload 138 1 139), z_is 304 139 (zf_isub 139 140), z_is 304 140 (zf_nat 140 102 143), z_is 304 143 (zf_iadd 143 144), z_is 304 144 (zf_ret 0)] = true := by decide +kernel
      refine z_aload hB rfl (fun hB => ?_)
      refine z_cst hB (fun hB => ?_)
      obtain ⟨q8, e9, h⟩ := z_bind h
      refine y_cv ok hB (as := [.int ((jn 0))]) (a := 241) (rest := []) rfl rfl rfl (by decide +kernel) (t_M_flagsAt (I := q1.2) ok e9) (fun hB => ?_)
      refine z_aload hB rfl (fun hB => ?_)
      refine z_cst hB (fun hB => ?_)
      obtain ⟨q10, e11, h⟩ := z_bind h
      refine y_cv ok hB (as := [.int ((jn 1))]) (a := 241) (rest := [.int (q8)]) rfl rfl rfl (by decide +kernel) (t_M_flagsAt (I := q1.2) ok e11) (fun hB => ?_)
      refine z_iadd hB (fun hB => ?_)
      refine z_aload hB rfl (fun hB => ?_)
      refine z_cst hB (fun hB => ?_)
      obtain ⟨q12, e13, h⟩ := z_bind h
      refine y_cv ok hB (as := [.int ((jn 2))]) (a := 241) (rest := [.int ((q8 + q10))]) rfl rfl rfl (by decide +kernel) (t_M_flagsAt (I := q1.2) ok e13) (fun hB => ?_)
      refine z_iadd hB (fun hB => ?_)
      refine z_aload hB rfl (fun hB => ?_)
      refine z_cst hB (fun hB => ?_)
      obtain ⟨q14, e15, h⟩ := z_bind h
      refine y_cv ok hB (as := [.int ((jn 3))]) (a := 241) (rest := [.int (((q8 + q10) + q12))]) rfl rfl rfl (by decide +kernel) (t_M_flagsAt (I := q1.2) ok e15) (fun hB => ?_)
      refine z_iadd hB (fun hB => ?_)
      refine z_istore hB rfl rfl (fun hB => ?_)
      refine z_iload hB rfl (fun hB => ?_)
      refine z_aload hB rfl (fun hB => ?_)
      refine y_getr (b := 242) ok hB (by decide +kernel) (by decide +kernel) (fun hB => ?_)
      refine z_cst hB (fun hB => ?_)
      obtain ⟨g16, h⟩ := z_gd h
      refine y_iald ok hB (by decide +kernel) (by decide +kernel) g16 (fun hB => ?_)
      refine z_iload hB rfl (fun hB => ?_)
      refine z_isub hB (fun hB => ?_)
      refine z_abs hB rfl (fun hB => ?_)
      refine z_iadd hB (fun hB => ?_)
      refine z_aload hB rfl (fun hB => ?_)
      refine y_getr (b := 242) ok hB (by decide +kernel) (by decide +kernel) (fun hB => ?_)
      refine z_cst hB (fun hB => ?_)
      obtain ⟨g17, h⟩ := z_gd h
      refine y_iald ok hB (by decide +kernel) (by decide +kernel) g17 (fun hB => ?_)
      refine z_aload hB rfl (fun hB => ?_)
      refine y_getr (b := 242) ok hB (by decide +kernel) (by decide +kernel) (fun hB => ?_)
      refine z_cst hB (fun hB => ?_)
      obtain ⟨g18, h⟩ := z_gd h
      refine y_iald ok hB (by decide +kernel) (by decide +kernel) g18 (fun hB => ?_)
      refine z_iadd hB (fun hB => ?_)
      refine z_iload hB rfl (fun hB => ?_)
      refine z_isub hB (fun hB => ?_)
      refine z_abs hB rfl (fun hB => ?_)
      refine z_iadd hB (fun hB => ?_)
      cases h
      exact z_reti hB
    have l4 : ∀ (m4 : Nat) (p3 : Int32 × Int32 × Int32), z_it (d_M_gap_4 q1) m4 p3 = some q5 → z_R G 304 15 [some (.ref (241)), some (.int (p3.1)), some (.int (p3.2.1)), some (.int (p3.2.2))] [] (z_w w q1.2) (.inl (some (.int r.1))) (z_w w r.2) := by
      intro m4
      induction m4 with
      | zero => intro p3 h; cases h
      | succ m4 i4 =>
        intro p3 h
        obtain ⟨u4, h, b4⟩ := z_it_o h
        unfold d_M_gap_4 at h
        have hB : z_all [z_is 304 15 (zf_iload 15 3 16), z_is 304 16 (zf_aload 16 0 17), z_is 304 17 (zf_getr 17 8 1 20), z_is 304 20 (zf_cst 20 (jn 10) 22), z_is 304 22 (zf_iald 22 23), z_is 304 23 (zf_if2 .ge 23 87 26)] = true := by decide +kernel
        refine z_iload hB rfl (fun hB => ?_)
        refine z_aload hB rfl (fun hB => ?_)
        refine y_getr (b := 242) ok hB (by decide +kernel) (by decide +kernel) (fun hB => ?_)
        refine z_cst hB (fun hB => ?_)
        obtain ⟨g19, h⟩ := z_gd h
        refine y_iald ok hB (by decide +kernel) (by decide +kernel) g19 (fun hB => ?_)
        refine z_ic_ge hB (fun hc _ => ?_) (fun hc _ => ?_)
        · have h := z_neg hc h
          cases h
          cases b4
          exact z_weak k7 (z_se (z_se (z_se (z_sn z_s0))))
        · have h := z_pos hc h
          have hB : z_all [z_is 304 26 (zf_iload 26 1 27), z_is 304 27 (zf_aload 27 0 28), z_is 304 28 (zf_iload 28 3 29), z_is 304 29 (zf_cv 29 244 1 8 32), z_is 304 32 (zf_cst 32 (jn 3) 33), z_is 304 33 (zf_if2 .ne 33 50 36)] = true := by decide +kernel
          refine z_iload hB rfl (fun hB => ?_)
          refine z_aload hB rfl (fun hB => ?_)
          refine z_iload hB rfl (fun hB => ?_)
          obtain ⟨q20, e21, h⟩ := z_bind h
          refine y_cv ok hB (as := [.int (p3.2.2)]) (a := 241) (rest := [.int (p3.1)]) rfl rfl rfl (by decide +kernel) (t_M_where (I := q1.2) ok e21) (fun hB => ?_)
          refine z_cst hB (fun hB => ?_)
          obtain ⟨q22, e23, h⟩ := z_bind h
          have k24 : z_R G 304 51 [some (.ref (241)), none, some (.int (p3.2.1)), some (.int (p3.2.2))] [.int (q22), .int (p3.1)] (z_w w q1.2) (.inl (some (.int r.1))) (z_w w r.2) := by
            have hB : z_all [z_is 304 51 (zf_iadd 51 52), z_is 304 52 (zf_istore 52 1 53), z_is 304 53 (zf_iload 53 2 54), z_is 304 54 (zf_aload 54 0 55), z_is 304 55 (zf_iload 55 3 56), z_is 304 56 (zf_cst 56 (jn 6) 58), z_is 304 58 (zf_cv 58 242 2 8 61), z_is 304 61 (zf_aload 61 0 62), z_is 304 62 (zf_iload 62 3 63), z_is 304 63 (zf_cst 63 (jn 1) 64), z_is 304 64 (zf_cv 64 242 2 8 67), z_is 304 67 (zf_iand 67 68), z_is 304 68 (zf_if1 .eq 68 75 71)] = true := by decide +kernel
            refine z_iadd hB (fun hB => ?_)
            refine z_istore hB rfl rfl (fun hB => ?_)
            refine z_iload hB rfl (fun hB => ?_)
            refine z_aload hB rfl (fun hB => ?_)
            refine z_iload hB rfl (fun hB => ?_)
            refine z_cst hB (fun hB => ?_)
            obtain ⟨q25, e26, h⟩ := z_bind h
            refine y_cv ok hB (as := [.int (p3.2.2), .int ((jn 6))]) (a := 241) (rest := [.int (p3.2.1)]) rfl rfl rfl (by decide +kernel) (t_M_ofFlag (I := q1.2) ok e26) (fun hB => ?_)
            refine z_aload hB rfl (fun hB => ?_)
            refine z_iload hB rfl (fun hB => ?_)
            refine z_cst hB (fun hB => ?_)
            obtain ⟨q27, e28, h⟩ := z_bind h
            refine y_cv ok hB (as := [.int (p3.2.2), .int ((jn 1))]) (a := 241) (rest := [.int (q25), .int (p3.2.1)]) rfl rfl rfl (by decide +kernel) (t_M_ofFlag (I := q1.2) ok e28) (fun hB => ?_)
            refine z_iand hB (fun hB => ?_)
            obtain ⟨q29, e30, h⟩ := z_bind h
            have k31 : z_R G 304 76 [some (.ref (241)), some (.int ((p3.1 + q22))), none, some (.int (p3.2.2))] [.int (q29), .int (p3.2.1)] (z_w w q1.2) (.inl (some (.int r.1))) (z_w w r.2) := by
              have hB : z_all [z_is 304 76 (zf_cs 76 204 1 79), z_is 304 79 (zf_iadd 79 80), z_is 304 80 (zf_istore 80 2 81), z_is 304 81 (zf_iinc 81 3 (jn 1) 84), z_is 304 84 (zf_goto 84 15)] = true := by decide +kernel
              obtain ⟨q32, e33, h⟩ := z_bind h
              refine z_callS hB (as := [.int (q29)]) (rest := [.int (p3.2.1)]) rfl rfl rfl (t_M_one (I := q1.2) ok e33) (fun hB => ?_)
              refine z_iadd hB (fun hB => ?_)
              refine z_istore hB rfl rfl (fun hB => ?_)
              refine z_iinc hB rfl rfl (fun hB => ?_)
              refine z_goto hB (fun hB => ?_)
              cases h
              exact z_weak (i4 ((p3.1 + q22), (p3.2.1 + q32), (p3.2.2 + (jn 1))) b4) (z_se (z_se (z_se (z_se z_s0))))
            have h := e30
            refine z_if_eq hB (fun hc _ => ?_) (fun hc _ => ?_)
            · have h := z_pos hc h
              have hB : z_all [z_is 304 75 (zf_cst 75 (jn 0) 76)] = true := by decide +kernel
              refine z_cst hB (fun hB => ?_)
              cases h
              exact z_weak k31 (z_se (z_se (z_sn (z_se z_s0))))
            · have h := z_neg hc h
              have hB : z_all [z_is 304 71 (zf_cst 71 (jn 1) 72), z_is 304 72 (zf_goto 72 76)] = true := by decide +kernel
              refine z_cst hB (fun hB => ?_)
              refine z_goto hB (fun hB => ?_)
              cases h
              exact z_weak k31 (z_se (z_se (z_sn (z_se z_s0))))
          have h := e23
          refine z_ic_ne hB (fun hc _ => ?_) (fun hc _ => ?_)
          · have h := z_neg hc h
            have hB : z_all [z_is 304 50 (zf_cst 50 (jn 0) 51)] = true := by decide +kernel
            refine z_cst hB (fun hB => ?_)
            cases h
            exact z_weak k24 (z_se (z_sn (z_se (z_se z_s0))))
          · have h := z_pos hc h
            have hB : z_all [z_is 304 36 (zf_aload 36 0 37), z_is 304 37 (zf_aload 37 0 38), z_is 304 38 (zf_iload 38 3 39), z_is 304 39 (zf_cst 39 (jn 0) 40), z_is 304 40 (zf_cv 40 242 2 8 43), z_is 304 43 (zf_cst 43 (jn 1) 44), z_is 304 44 (zf_cv 44 240 2 8 47), z_is 304 47 (zf_goto 47 51)] = true := by decide +kernel
            refine z_aload hB rfl (fun hB => ?_)
            refine z_aload hB rfl (fun hB => ?_)
            refine z_iload hB rfl (fun hB => ?_)
            refine z_cst hB (fun hB => ?_)
            obtain ⟨q34, e35, h⟩ := z_bind h
            refine y_cv ok hB (as := [.int (p3.2.2), .int ((jn 0))]) (a := 241) (rest := [.ref (241), .int (p3.1)]) rfl rfl rfl (by decide +kernel) (t_M_ofFlag (I := q1.2) ok e35) (fun hB => ?_)
            refine z_cst hB (fun hB => ?_)
            obtain ⟨q36, e37, h⟩ := z_bind h
            refine y_cv ok hB (as := [.int (q34), .int ((jn 1))]) (a := 241) (rest := [.int (p3.1)]) rfl rfl rfl (by decide +kernel) (t_M_ofNation (I := q1.2) ok e37) (fun hB => ?_)
            refine z_goto hB (fun hB => ?_)
            cases h
            exact z_weak k24 (z_se (z_sn (z_se (z_se z_s0))))
    exact z_weak (l4 _ ((jn 0), (jn 0), (jn 0)) e6) (z_se (z_se (z_se (z_se z_s0))))
  · have h := z_pos hc h
    have hB : z_all [z_is 304 7 (zf_cst 7 (jn 0) 8), z_is 304 8 (zf_ret 0)] = true := by decide +kernel
    refine z_cst hB (fun hB => ?_)
    cases h
    exact z_reti hB
def d_M_why (x1 : Int32) (I : z_H) : Option (Int32 × z_H) := ((d_M_mayFlag (x1) I).bind fun q1 => (Option.bind (α := Int32) (if q1.1 = jn 0 then some ((jn 0)) else ((d_M_whyNotReady (x1) q1.2).bind fun q6 => some (q6))) fun q3 => some ((q3, q1.2))))
/-- FlagLaundryModel.why(I)I -/
theorem t_M_why {G : z_G} {w : ev_W} (ok : z_Ok G w) {x1 : Int32} {I : z_H} {r : Int32 × z_H} (h : d_M_why x1 I = some r) : z_K G 305 [.ref (241), .int (x1)] (z_w w I) (.inl (some (.int r.1))) (z_w w r.2) := by
  refine z_con ok.1 (ml := 2) (by decide +kernel) rfl rfl ?_
  show z_R G 305 0 [some (.ref (241)), some (.int (x1))] [] (z_w w I) (.inl (some (.int r.1))) (z_w w r.2)
  unfold d_M_why at h
  have hB : z_all [z_is 305 0 (zf_aload 0 0 1), z_is 305 1 (zf_iload 1 1 2), z_is 305 2 (zf_cv 2 288 1 8 5), z_is 305 5 (zf_if1 .eq 5 16 8)] = true := by decide +kernel
  refine z_aload hB rfl (fun hB => ?_)
  refine z_iload hB rfl (fun hB => ?_)
  obtain ⟨q1, e2, h⟩ := z_bind h
  refine y_cv ok hB (as := [.int (x1)]) (a := 241) (rest := []) rfl rfl rfl (by decide +kernel) (t_M_mayFlag (I := I) ok e2) (fun hB => ?_)
  obtain ⟨q3, e4, h⟩ := z_bind h
  have k5 : z_R G 305 17 [none, none] [.int (q3)] (z_w w q1.2) (.inl (some (.int r.1))) (z_w w r.2) := by
    have hB : z_all [z_is 305 17 (zf_ret 0)] = true := by decide +kernel
    cases h
    exact z_reti hB
  have h := e4
  refine z_if_eq hB (fun hc _ => ?_) (fun hc _ => ?_)
  · have h := z_pos hc h
    have hB : z_all [z_is 305 16 (zf_cst 16 (jn 0) 17)] = true := by decide +kernel
    refine z_cst hB (fun hB => ?_)
    cases h
    exact z_weak k5 (z_sn (z_sn z_s0))
  · have h := z_neg hc h
    have hB : z_all [z_is 305 8 (zf_aload 8 0 9), z_is 305 9 (zf_iload 9 1 10), z_is 305 10 (zf_cv 10 250 1 8 13), z_is 305 13 (zf_goto 13 17)] = true := by decide +kernel
    refine z_aload hB rfl (fun hB => ?_)
    refine z_iload hB rfl (fun hB => ?_)
    obtain ⟨q6, e7, h⟩ := z_bind h
    refine y_cv ok hB (as := [.int (x1)]) (a := 241) (rest := []) rfl rfl rfl (by decide +kernel) (t_M_whyNotReady (I := q1.2) ok e7) (fun hB => ?_)
    refine z_goto hB (fun hB => ?_)
    cases h
    exact z_weak k5 (z_sn (z_sn z_s0))
def d_M_reasons_4 (x1 : Int32) (q1 : Int32 × z_H) (p3 : Int32 × Int32) : Option ((Int32 × Int32) ⊕ (Int32 × Int32)) := (if (jn 7) < p3.2 then some (Sum.inr (p3.1, p3.2)) else ((d_M_applies (p3.2) (x1) q1.2).bind fun q8 => ((d_M_one (q8)).bind fun q10 => some (Sum.inl ((p3.1 ||| (q10 <<< (p3.2 &&& 31))), (p3.2 + (jn 1)))))))
def d_M_reasons (x1 : Int32) (I : z_H) : Option (Int32 × z_H) := ((d_M_mayFlag (x1) I).bind fun q1 => (if q1.1 = jn 0 then some (((jn 0), q1.2)) else ((z_it (d_M_reasons_4 x1 q1) z_F ((jn 0), (jn 1))).bind fun q5 => some ((q5.1, q1.2)))))
/-- FlagLaundryModel.reasons(I)I -/
theorem t_M_reasons {G : z_G} {w : ev_W} (ok : z_Ok G w) {x1 : Int32} {I : z_H} {r : Int32 × z_H} (h : d_M_reasons x1 I = some r) : z_K G 306 [.ref (241), .int (x1)] (z_w w I) (.inl (some (.int r.1))) (z_w w r.2) := by
  refine z_con ok.1 (ml := 4) (by decide +kernel) rfl rfl ?_
  show z_R G 306 0 [some (.ref (241)), some (.int (x1)), none, none] [] (z_w w I) (.inl (some (.int r.1))) (z_w w r.2)
  unfold d_M_reasons at h
  have hB : z_all [z_is 306 0 (zf_aload 0 0 1), z_is 306 1 (zf_iload 1 1 2), z_is 306 2 (zf_cv 2 288 1 8 5), z_is 306 5 (zf_if1 .ne 5 10 8)] = true := by decide +kernel
  refine z_aload hB rfl (fun hB => ?_)
  refine z_iload hB rfl (fun hB => ?_)
  obtain ⟨q1, e2, h⟩ := z_bind h
  refine y_cv ok hB (as := [.int (x1)]) (a := 241) (rest := []) rfl rfl rfl (by decide +kernel) (t_M_mayFlag (I := I) ok e2) (fun hB => ?_)
  refine z_if_ne hB (fun hc _ => ?_) (fun hc _ => ?_)
  · have h := z_neg hc h
    have hB : z_all [z_is 306 10 (zf_cst 10 (jn 0) 11), z_is 306 11 (zf_istore 11 2 12), z_is 306 12 (zf_cst 12 (jn 1) 13), z_is 306 13 (zf_istore 13 3 14)] = true := by decide +kernel
    refine z_cst hB (fun hB => ?_)
    refine z_istore hB rfl rfl (fun hB => ?_)
    refine z_cst hB (fun hB => ?_)
    refine z_istore hB rfl rfl (fun hB => ?_)
    obtain ⟨q5, e6, h⟩ := z_bind h
    have k7 : z_R G 306 40 [none, none, some (.int (q5.1)), none] [] (z_w w q1.2) (.inl (some (.int r.1))) (z_w w r.2) := by
      have hB : z_all [z_is 306 40 (zf_iload 40 2 41), z_is 306 41 (zf_ret 0)] = true := by decide +kernel
      refine z_iload hB rfl (fun hB => ?_)
      cases h
      exact z_reti hB
    have l4 : ∀ (m4 : Nat) (p3 : Int32 × Int32), z_it (d_M_reasons_4 x1 q1) m4 p3 = some q5 → z_R G 306 14 [some (.ref (241)), some (.int (x1)), some (.int (p3.1)), some (.int (p3.2))] [] (z_w w q1.2) (.inl (some (.int r.1))) (z_w w r.2) := by
      intro m4
      induction m4 with
      | zero => intro p3 h; cases h
      | succ m4 i4 =>
        intro p3 h
        obtain ⟨u4, h, b4⟩ := z_it_o h
        unfold d_M_reasons_4 at h
        have hB : z_all [z_is 306 14 (zf_iload 14 3 15), z_is 306 15 (zf_cst 15 (jn 7) 17), z_is 306 17 (zf_if2 .gt 17 40 20)] = true := by decide +kernel
        refine z_iload hB rfl (fun hB => ?_)
        refine z_cst hB (fun hB => ?_)
        refine z_ic_gt hB (fun hc _ => ?_) (fun hc _ => ?_)
        · have h := z_pos hc h
          cases h
          cases b4
          exact z_weak k7 (z_sn (z_sn (z_se (z_sn z_s0))))
        · have h := z_neg hc h
          have hB : z_all [z_is 306 20 (zf_iload 20 2 21), z_is 306 21 (zf_aload 21 0 22), z_is 306 22 (zf_iload 22 3 23), z_is 306 23 (zf_iload 23 1 24), z_is 306 24 (zf_cv 24 249 2 8 27), z_is 306 27 (zf_cs 27 204 1 30), z_is 306 30 (zf_iload 30 3 31), z_is 306 31 (zf_ishl 31 32), z_is 306 32 (zf_ior 32 33), z_is 306 33 (zf_istore 33 2 34), z_is 306 34 (zf_iinc 34 3 (jn 1) 37), z_is 306 37 (zf_goto 37 14)] = true := by decide +kernel
          refine z_iload hB rfl (fun hB => ?_)
          refine z_aload hB rfl (fun hB => ?_)
          refine z_iload hB rfl (fun hB => ?_)
          refine z_iload hB rfl (fun hB => ?_)
          obtain ⟨q8, e9, h⟩ := z_bind h
          refine y_cv ok hB (as := [.int (p3.2), .int (x1)]) (a := 241) (rest := [.int (p3.1)]) rfl rfl rfl (by decide +kernel) (t_M_applies (I := q1.2) ok e9) (fun hB => ?_)
          obtain ⟨q10, e11, h⟩ := z_bind h
          refine z_callS hB (as := [.int (q8)]) (rest := [.int (p3.1)]) rfl rfl rfl (t_M_one (I := q1.2) ok e11) (fun hB => ?_)
          refine z_iload hB rfl (fun hB => ?_)
          refine z_ishl hB (fun hB => ?_)
          refine z_ior hB (fun hB => ?_)
          refine z_istore hB rfl rfl (fun hB => ?_)
          refine z_iinc hB rfl rfl (fun hB => ?_)
          refine z_goto hB (fun hB => ?_)
          cases h
          exact z_weak (i4 ((p3.1 ||| (q10 <<< (p3.2 &&& 31))), (p3.2 + (jn 1))) b4) (z_se (z_se (z_se (z_se z_s0))))
    exact z_weak (l4 _ ((jn 0), (jn 1)) e6) (z_se (z_se (z_se (z_se z_s0))))
  · have h := z_pos hc h
    have hB : z_all [z_is 306 8 (zf_cst 8 (jn 0) 9), z_is 306 9 (zf_ret 0)] = true := by decide +kernel
    refine z_cst hB (fun hB => ?_)
    cases h
    exact z_reti hB
def d_M_culprit (x1 : Int32) (I : z_H) : Option (Int32 × z_H) := ((d_M_isNation (x1) I).bind fun q1 => ((d_M_mayTwo ((I 241 6)) (q1) I).bind fun q3 => (Option.bind (α := Int32) (if q3.1 = jn 0 then some ((jn 0)) else ((d_M_culpritOf (x1) q3.2).bind fun q8 => some (q8))) fun q5 => some ((q5, q3.2)))))
/-- FlagLaundryModel.culprit(I)I -/
theorem t_M_culprit {G : z_G} {w : ev_W} (ok : z_Ok G w) {x1 : Int32} {I : z_H} {r : Int32 × z_H} (h : d_M_culprit x1 I = some r) : z_K G 307 [.ref (241), .int (x1)] (z_w w I) (.inl (some (.int r.1))) (z_w w r.2) := by
  refine z_con ok.1 (ml := 2) (by decide +kernel) rfl rfl ?_
  show z_R G 307 0 [some (.ref (241)), some (.int (x1))] [] (z_w w I) (.inl (some (.int r.1))) (z_w w r.2)
  unfold d_M_culprit at h
  have hB : z_all [z_is 307 0 (zf_aload 0 0 1), z_is 307 1 (zf_aload 1 0 2), z_is 307 2 (zf_geti 2 8 6 5), z_is 307 5 (zf_aload 5 0 6), z_is 307 6 (zf_iload 6 1 7), z_is 307 7 (zf_cv 7 284 1 8 10), z_is 307 10 (zf_cv 10 207 2 8 13), z_is 307 13 (zf_if1 .eq 13 24 16)] = true := by decide +kernel
  refine z_aload hB rfl (fun hB => ?_)
  refine z_aload hB rfl (fun hB => ?_)
  refine y_geti ok hB (by decide +kernel) (fun hB => ?_)
  refine z_aload hB rfl (fun hB => ?_)
  refine z_iload hB rfl (fun hB => ?_)
  obtain ⟨q1, e2, h⟩ := z_bind h
  refine y_cv ok hB (as := [.int (x1)]) (a := 241) (rest := [.int ((I 241 6)), .ref (241)]) rfl rfl rfl (by decide +kernel) (t_M_isNation (I := I) ok e2) (fun hB => ?_)
  obtain ⟨q3, e4, h⟩ := z_bind h
  refine y_cv ok hB (as := [.int ((I 241 6)), .int (q1)]) (a := 241) (rest := []) rfl rfl rfl (by decide +kernel) (t_M_mayTwo (I := I) ok e4) (fun hB => ?_)
  obtain ⟨q5, e6, h⟩ := z_bind h
  have k7 : z_R G 307 25 [none, none] [.int (q5)] (z_w w q3.2) (.inl (some (.int r.1))) (z_w w r.2) := by
    have hB : z_all [z_is 307 25 (zf_ret 0)] = true := by decide +kernel
    cases h
    exact z_reti hB
  have h := e6
  refine z_if_eq hB (fun hc _ => ?_) (fun hc _ => ?_)
  · have h := z_pos hc h
    have hB : z_all [z_is 307 24 (zf_cst 24 (jn 0) 25)] = true := by decide +kernel
    refine z_cst hB (fun hB => ?_)
    cases h
    exact z_weak k7 (z_sn (z_sn z_s0))
  · have h := z_neg hc h
    have hB : z_all [z_is 307 16 (zf_aload 16 0 17), z_is 307 17 (zf_iload 17 1 18), z_is 307 18 (zf_cv 18 279 1 8 21), z_is 307 21 (zf_goto 21 25)] = true := by decide +kernel
    refine z_aload hB rfl (fun hB => ?_)
    refine z_iload hB rfl (fun hB => ?_)
    obtain ⟨q8, e9, h⟩ := z_bind h
    refine y_cv ok hB (as := [.int (x1)]) (a := 241) (rest := []) rfl rfl rfl (by decide +kernel) (t_M_culpritOf (I := q3.2) ok e9) (fun hB => ?_)
    refine z_goto hB (fun hB => ?_)
    cases h
    exact z_weak k7 (z_sn (z_sn z_s0))
def d_M_whyNotPut (x1 : Int32) (x2 : Int32) (I : z_H) : Option (Int32 × z_H) := ((d_M_isFlag (x1) I).bind fun q1 => (Option.bind (α := Int32) (if q1 = jn 0 then some ((jn 0)) else ((d_M_isTub (x2) I).bind fun q13 => (if q13 = jn 0 then some ((jn 0)) else some ((jn 1))))) fun q3 => ((d_M_mayTwo ((I 241 6)) (q3) I).bind fun q6 => (Option.bind (α := Int32) (if q6.1 = jn 0 then some ((jn 0)) else ((d_M_whyPut (x1) (x2) q6.2).bind fun q11 => some (q11))) fun q8 => some ((q8, q6.2))))))
/-- FlagLaundryModel.whyNotPut(II)I -/
theorem t_M_whyNotPut {G : z_G} {w : ev_W} (ok : z_Ok G w) {x1 : Int32} {x2 : Int32} {I : z_H} {r : Int32 × z_H} (h : d_M_whyNotPut x1 x2 I = some r) : z_K G 308 [.ref (241), .int (x1), .int (x2)] (z_w w I) (.inl (some (.int r.1))) (z_w w r.2) := by
  refine z_con ok.1 (ml := 3) (by decide +kernel) rfl rfl ?_
  show z_R G 308 0 [some (.ref (241)), some (.int (x1)), some (.int (x2))] [] (z_w w I) (.inl (some (.int r.1))) (z_w w r.2)
  unfold d_M_whyNotPut at h
  have hB : z_all [z_is 308 0 (zf_aload 0 0 1), z_is 308 1 (zf_aload 1 0 2), z_is 308 2 (zf_geti 2 8 6 5), z_is 308 5 (zf_aload 5 0 6), z_is 308 6 (zf_iload 6 1 7), z_is 308 7 (zf_cv 7 285 1 8 10), z_is 308 10 (zf_if1 .eq 10 25 13)] = true := by decide +kernel
  refine z_aload hB rfl (fun hB => ?_)
  refine z_aload hB rfl (fun hB => ?_)
  refine y_geti ok hB (by decide +kernel) (fun hB => ?_)
  refine z_aload hB rfl (fun hB => ?_)
  refine z_iload hB rfl (fun hB => ?_)
  obtain ⟨q1, e2, h⟩ := z_bind h
  refine y_cv ok hB (as := [.int (x1)]) (a := 241) (rest := [.int ((I 241 6)), .ref (241)]) rfl rfl rfl (by decide +kernel) (t_M_isFlag (I := I) ok e2) (fun hB => ?_)
  obtain ⟨q3, e4, h⟩ := z_bind h
  have k5 : z_R G 308 26 [some (.ref (241)), some (.int (x1)), some (.int (x2))] [.int (q3), .int ((I 241 6)), .ref (241)] (z_w w I) (.inl (some (.int r.1))) (z_w w r.2) := by
    have hB : z_all [z_is 308 26 (zf_cv 26 207 2 8 29), z_is 308 29 (zf_if1 .eq 29 41 32)] = true := by decide +kernel
    obtain ⟨q6, e7, h⟩ := z_bind h
    refine y_cv ok hB (as := [.int ((I 241 6)), .int (q3)]) (a := 241) (rest := []) rfl rfl rfl (by decide +kernel) (t_M_mayTwo (I := I) ok e7) (fun hB => ?_)
    obtain ⟨q8, e9, h⟩ := z_bind h
    have k10 : z_R G 308 42 [none, none, none] [.int (q8)] (z_w w q6.2) (.inl (some (.int r.1))) (z_w w r.2) := by
      have hB : z_all [z_is 308 42 (zf_ret 0)] = true := by decide +kernel
      cases h
      exact z_reti hB
    have h := e9
    refine z_if_eq hB (fun hc _ => ?_) (fun hc _ => ?_)
    · have h := z_pos hc h
      have hB : z_all [z_is 308 41 (zf_cst 41 (jn 0) 42)] = true := by decide +kernel
      refine z_cst hB (fun hB => ?_)
      cases h
      exact z_weak k10 (z_sn (z_sn (z_sn z_s0)))
    · have h := z_neg hc h
      have hB : z_all [z_is 308 32 (zf_aload 32 0 33), z_is 308 33 (zf_iload 33 1 34), z_is 308 34 (zf_iload 34 2 35), z_is 308 35 (zf_cv 35 252 2 8 38), z_is 308 38 (zf_goto 38 42)] = true := by decide +kernel
      refine z_aload hB rfl (fun hB => ?_)
      refine z_iload hB rfl (fun hB => ?_)
      refine z_iload hB rfl (fun hB => ?_)
      obtain ⟨q11, e12, h⟩ := z_bind h
      refine y_cv ok hB (as := [.int (x1), .int (x2)]) (a := 241) (rest := []) rfl rfl rfl (by decide +kernel) (t_M_whyPut (I := q6.2) ok e12) (fun hB => ?_)
      refine z_goto hB (fun hB => ?_)
      cases h
      exact z_weak k10 (z_sn (z_sn (z_sn z_s0)))
  have h := e4
  refine z_if_eq hB (fun hc _ => ?_) (fun hc _ => ?_)
  · have h := z_pos hc h
    have hB : z_all [z_is 308 25 (zf_cst 25 (jn 0) 26)] = true := by decide +kernel
    refine z_cst hB (fun hB => ?_)
    cases h
    exact z_weak k5 (z_se (z_se (z_se z_s0)))
  · have h := z_neg hc h
    have hB : z_all [z_is 308 13 (zf_aload 13 0 14), z_is 308 14 (zf_iload 14 2 15), z_is 308 15 (zf_cv 15 286 1 8 18), z_is 308 18 (zf_if1 .eq 18 25 21)] = true := by decide +kernel
    refine z_aload hB rfl (fun hB => ?_)
    refine z_iload hB rfl (fun hB => ?_)
    obtain ⟨q13, e14, h⟩ := z_bind h
    refine y_cv ok hB (as := [.int (x2)]) (a := 241) (rest := [.int ((I 241 6)), .ref (241)]) rfl rfl rfl (by decide +kernel) (t_M_isTub (I := I) ok e14) (fun hB => ?_)
    refine z_if_eq hB (fun hc _ => ?_) (fun hc _ => ?_)
    · have h := z_pos hc h
      have hB : z_all [z_is 308 25 (zf_cst 25 (jn 0) 26)] = true := by decide +kernel
      refine z_cst hB (fun hB => ?_)
      cases h
      exact z_weak k5 (z_se (z_se (z_se z_s0)))
    · have h := z_neg hc h
      have hB : z_all [z_is 308 21 (zf_cst 21 (jn 1) 22), z_is 308 22 (zf_goto 22 26)] = true := by decide +kernel
      refine z_cst hB (fun hB => ?_)
      refine z_goto hB (fun hB => ?_)
      cases h
      exact z_weak k5 (z_se (z_se (z_se z_s0)))
def d_M_whyNotWash (x1 : Int32) (x2 : Int32) (I : z_H) : Option (Int32 × z_H) := ((d_M_mayHeat (x1) (x2) I).bind fun q1 => (Option.bind (α := Int32) (if q1.1 = jn 0 then some ((jn 0)) else ((d_M_whyWash (x1) (x2) q1.2).bind fun q6 => some (q6))) fun q3 => some ((q3, q1.2))))
/-- FlagLaundryModel.whyNotWash(II)I -/
theorem t_M_whyNotWash {G : z_G} {w : ev_W} (ok : z_Ok G w) {x1 : Int32} {x2 : Int32} {I : z_H} {r : Int32 × z_H} (h : d_M_whyNotWash x1 x2 I = some r) : z_K G 309 [.ref (241), .int (x1), .int (x2)] (z_w w I) (.inl (some (.int r.1))) (z_w w r.2) := by
  refine z_con ok.1 (ml := 3) (by decide +kernel) rfl rfl ?_
  show z_R G 309 0 [some (.ref (241)), some (.int (x1)), some (.int (x2))] [] (z_w w I) (.inl (some (.int r.1))) (z_w w r.2)
  unfold d_M_whyNotWash at h
  have hB : z_all [z_is 309 0 (zf_aload 0 0 1), z_is 309 1 (zf_iload 1 1 2), z_is 309 2 (zf_iload 2 2 3), z_is 309 3 (zf_cv 3 290 2 8 6), z_is 309 6 (zf_if1 .eq 6 18 9)] = true := by decide +kernel
  refine z_aload hB rfl (fun hB => ?_)
  refine z_iload hB rfl (fun hB => ?_)
  refine z_iload hB rfl (fun hB => ?_)
  obtain ⟨q1, e2, h⟩ := z_bind h
  refine y_cv ok hB (as := [.int (x1), .int (x2)]) (a := 241) (rest := []) rfl rfl rfl (by decide +kernel) (t_M_mayHeat (I := I) ok e2) (fun hB => ?_)
  obtain ⟨q3, e4, h⟩ := z_bind h
  have k5 : z_R G 309 19 [none, none, none] [.int (q3)] (z_w w q1.2) (.inl (some (.int r.1))) (z_w w r.2) := by
    have hB : z_all [z_is 309 19 (zf_ret 0)] = true := by decide +kernel
    cases h
    exact z_reti hB
  have h := e4
  refine z_if_eq hB (fun hc _ => ?_) (fun hc _ => ?_)
  · have h := z_pos hc h
    have hB : z_all [z_is 309 18 (zf_cst 18 (jn 0) 19)] = true := by decide +kernel
    refine z_cst hB (fun hB => ?_)
    cases h
    exact z_weak k5 (z_sn (z_sn (z_sn z_s0)))
  · have h := z_neg hc h
    have hB : z_all [z_is 309 9 (zf_aload 9 0 10), z_is 309 10 (zf_iload 10 1 11), z_is 309 11 (zf_iload 11 2 12), z_is 309 12 (zf_cv 12 255 2 8 15), z_is 309 15 (zf_goto 15 19)] = true := by decide +kernel
    refine z_aload hB rfl (fun hB => ?_)
    refine z_iload hB rfl (fun hB => ?_)
    refine z_iload hB rfl (fun hB => ?_)
    obtain ⟨q6, e7, h⟩ := z_bind h
    refine y_cv ok hB (as := [.int (x1), .int (x2)]) (a := 241) (rest := []) rfl rfl rfl (by decide +kernel) (t_M_whyWash (I := q1.2) ok e7) (fun hB => ?_)
    refine z_goto hB (fun hB => ?_)
    cases h
    exact z_weak k5 (z_sn (z_sn (z_sn z_s0)))
def d_M_whyNotIron (x1 : Int32) (x2 : Int32) (I : z_H) : Option (Int32 × z_H) := ((d_M_isFlag (x1) I).bind fun q1 => ((d_M_isHeat (x2)).bind fun q3 => ((d_M_may ((I 241 6)) (q1) (q3) I).bind fun q5 => (Option.bind (α := Int32) (if q5.1 = jn 0 then some ((jn 0)) else ((d_M_whyIron (x1) (x2) q5.2).bind fun q10 => some (q10))) fun q7 => some ((q7, q5.2))))))
/-- FlagLaundryModel.whyNotIron(II)I -/
theorem t_M_whyNotIron {G : z_G} {w : ev_W} (ok : z_Ok G w) {x1 : Int32} {x2 : Int32} {I : z_H} {r : Int32 × z_H} (h : d_M_whyNotIron x1 x2 I = some r) : z_K G 310 [.ref (241), .int (x1), .int (x2)] (z_w w I) (.inl (some (.int r.1))) (z_w w r.2) := by
  refine z_con ok.1 (ml := 3) (by decide +kernel) rfl rfl ?_
  show z_R G 310 0 [some (.ref (241)), some (.int (x1)), some (.int (x2))] [] (z_w w I) (.inl (some (.int r.1))) (z_w w r.2)
  unfold d_M_whyNotIron at h
  have hB : z_all [z_is 310 0 (zf_aload 0 0 1), z_is 310 1 (zf_aload 1 0 2), z_is 310 2 (zf_geti 2 8 6 5), z_is 310 5 (zf_aload 5 0 6), z_is 310 6 (zf_iload 6 1 7), z_is 310 7 (zf_cv 7 285 1 8 10), z_is 310 10 (zf_iload 10 2 11), z_is 310 11 (zf_cs 11 287 1 14), z_is 310 14 (zf_cv 14 206 3 8 17), z_is 310 17 (zf_if1 .eq 17 29 20)] = true := by decide +kernel
  refine z_aload hB rfl (fun hB => ?_)
  refine z_aload hB rfl (fun hB => ?_)
  refine y_geti ok hB (by decide +kernel) (fun hB => ?_)
  refine z_aload hB rfl (fun hB => ?_)
  refine z_iload hB rfl (fun hB => ?_)
  obtain ⟨q1, e2, h⟩ := z_bind h
  refine y_cv ok hB (as := [.int (x1)]) (a := 241) (rest := [.int ((I 241 6)), .ref (241)]) rfl rfl rfl (by decide +kernel) (t_M_isFlag (I := I) ok e2) (fun hB => ?_)
  refine z_iload hB rfl (fun hB => ?_)
  obtain ⟨q3, e4, h⟩ := z_bind h
  refine z_callS hB (as := [.int (x2)]) (rest := [.int (q1), .int ((I 241 6)), .ref (241)]) rfl rfl rfl (t_M_isHeat (I := I) ok e4) (fun hB => ?_)
  obtain ⟨q5, e6, h⟩ := z_bind h
  refine y_cv ok hB (as := [.int ((I 241 6)), .int (q1), .int (q3)]) (a := 241) (rest := []) rfl rfl rfl (by decide +kernel) (t_M_may (I := I) ok e6) (fun hB => ?_)
  obtain ⟨q7, e8, h⟩ := z_bind h
  have k9 : z_R G 310 30 [none, none, none] [.int (q7)] (z_w w q5.2) (.inl (some (.int r.1))) (z_w w r.2) := by
    have hB : z_all [z_is 310 30 (zf_ret 0)] = true := by decide +kernel
    cases h
    exact z_reti hB
  have h := e8
  refine z_if_eq hB (fun hc _ => ?_) (fun hc _ => ?_)
  · have h := z_pos hc h
    have hB : z_all [z_is 310 29 (zf_cst 29 (jn 0) 30)] = true := by decide +kernel
    refine z_cst hB (fun hB => ?_)
    cases h
    exact z_weak k9 (z_sn (z_sn (z_sn z_s0)))
  · have h := z_neg hc h
    have hB : z_all [z_is 310 20 (zf_aload 20 0 21), z_is 310 21 (zf_iload 21 1 22), z_is 310 22 (zf_iload 22 2 23), z_is 310 23 (zf_cv 23 273 2 8 26), z_is 310 26 (zf_goto 26 30)] = true := by decide +kernel
    refine z_aload hB rfl (fun hB => ?_)
    refine z_iload hB rfl (fun hB => ?_)
    refine z_iload hB rfl (fun hB => ?_)
    obtain ⟨q10, e11, h⟩ := z_bind h
    refine y_cv ok hB (as := [.int (x1), .int (x2)]) (a := 241) (rest := []) rfl rfl rfl (by decide +kernel) (t_M_whyIron (I := q5.2) ok e11) (fun hB => ?_)
    refine z_goto hB (fun hB => ?_)
    cases h
    exact z_weak k9 (z_sn (z_sn (z_sn z_s0)))
def d_M_whyBleach (x1 : Int32) (I : z_H) : Option (Int32) := ((d_M_isInBasket (x1) I).bind fun q1 => (if q1 = jn 0 then some ((jn 1)) else ((d_M_ofFlag (x1) ((jn 6)) I).bind fun q3 => (if q3 = jn 0 then some ((jn 2)) else ((d_M_ofFlag (x1) ((jn 7)) I).bind fun q5 => (Option.bind (α := Int32) (if q5 = (jn 2) then some ((jn 3)) else some ((jn 0))) fun q7 => some (q7)))))))
/-- FlagLaundryModel.whyBleach(I)I -/
theorem t_M_whyBleach {G : z_G} {w : ev_W} (ok : z_Ok G w) {x1 : Int32} {I : z_H} {r : Int32} (h : d_M_whyBleach x1 I = some r) : z_K G 311 [.ref (241), .int (x1)] (z_w w I) (.inl (some (.int r))) (z_w w I) := by
  refine z_con ok.1 (ml := 2) (by decide +kernel) rfl rfl ?_
  show z_R G 311 0 [some (.ref (241)), some (.int (x1))] [] (z_w w I) (.inl (some (.int r))) (z_w w I)
  unfold d_M_whyBleach at h
  have hB : z_all [z_is 311 0 (zf_aload 0 0 1), z_is 311 1 (zf_iload 1 1 2), z_is 311 2 (zf_cv 2 245 1 8 5), z_is 311 5 (zf_if1 .ne 5 10 8)] = true := by decide +kernel
  refine z_aload hB rfl (fun hB => ?_)
  refine z_iload hB rfl (fun hB => ?_)
  obtain ⟨q1, e2, h⟩ := z_bind h
  refine y_cv ok hB (as := [.int (x1)]) (a := 241) (rest := []) rfl rfl rfl (by decide +kernel) (t_M_isInBasket (I := I) ok e2) (fun hB => ?_)
  refine z_if_ne hB (fun hc _ => ?_) (fun hc _ => ?_)
  · have h := z_neg hc h
    have hB : z_all [z_is 311 10 (zf_aload 10 0 11), z_is 311 11 (zf_iload 11 1 12), z_is 311 12 (zf_cst 12 (jn 6) 14), z_is 311 14 (zf_cv 14 242 2 8 17), z_is 311 17 (zf_if1 .ne 17 22 20)] = true := by decide +kernel
    refine z_aload hB rfl (fun hB => ?_)
    refine z_iload hB rfl (fun hB => ?_)
    refine z_cst hB (fun hB => ?_)
    obtain ⟨q3, e4, h⟩ := z_bind h
    refine y_cv ok hB (as := [.int (x1), .int ((jn 6))]) (a := 241) (rest := []) rfl rfl rfl (by decide +kernel) (t_M_ofFlag (I := I) ok e4) (fun hB => ?_)
    refine z_if_ne hB (fun hc _ => ?_) (fun hc _ => ?_)
    · have h := z_neg hc h
      have hB : z_all [z_is 311 22 (zf_aload 22 0 23), z_is 311 23 (zf_iload 23 1 24), z_is 311 24 (zf_cst 24 (jn 7) 26), z_is 311 26 (zf_cv 26 242 2 8 29), z_is 311 29 (zf_cst 29 (jn 2) 30), z_is 311 30 (zf_if2 .ne 30 37 33)] = true := by decide +kernel
      refine z_aload hB rfl (fun hB => ?_)
      refine z_iload hB rfl (fun hB => ?_)
      refine z_cst hB (fun hB => ?_)
      obtain ⟨q5, e6, h⟩ := z_bind h
      refine y_cv ok hB (as := [.int (x1), .int ((jn 7))]) (a := 241) (rest := []) rfl rfl rfl (by decide +kernel) (t_M_ofFlag (I := I) ok e6) (fun hB => ?_)
      refine z_cst hB (fun hB => ?_)
      obtain ⟨q7, e8, h⟩ := z_bind h
      have k9 : z_R G 311 38 [none, none] [.int (q7)] (z_w w I) (.inl (some (.int r))) (z_w w I) := by
        have hB : z_all [z_is 311 38 (zf_ret 0)] = true := by decide +kernel
        cases h
        exact z_reti hB
      have h := e8
      refine z_ic_ne hB (fun hc _ => ?_) (fun hc _ => ?_)
      · have h := z_neg hc h
        have hB : z_all [z_is 311 37 (zf_cst 37 (jn 0) 38)] = true := by decide +kernel
        refine z_cst hB (fun hB => ?_)
        cases h
        exact z_weak k9 (z_sn (z_sn z_s0))
      · have h := z_pos hc h
        have hB : z_all [z_is 311 33 (zf_cst 33 (jn 3) 34), z_is 311 34 (zf_goto 34 38)] = true := by decide +kernel
        refine z_cst hB (fun hB => ?_)
        refine z_goto hB (fun hB => ?_)
        cases h
        exact z_weak k9 (z_sn (z_sn z_s0))
    · have h := z_pos hc h
      have hB : z_all [z_is 311 20 (zf_cst 20 (jn 2) 21), z_is 311 21 (zf_ret 0)] = true := by decide +kernel
      refine z_cst hB (fun hB => ?_)
      cases h
      exact z_reti hB
  · have h := z_pos hc h
    have hB : z_all [z_is 311 8 (zf_cst 8 (jn 1) 9), z_is 311 9 (zf_ret 0)] = true := by decide +kernel
    refine z_cst hB (fun hB => ?_)
    cases h
    exact z_reti hB
def d_M_whyNotBleach (x1 : Int32) (I : z_H) : Option (Int32 × z_H) := ((d_M_mayFlag (x1) I).bind fun q1 => (Option.bind (α := Int32) (if q1.1 = jn 0 then some ((jn 0)) else ((d_M_whyBleach (x1) q1.2).bind fun q6 => some (q6))) fun q3 => some ((q3, q1.2))))
/-- FlagLaundryModel.whyNotBleach(I)I -/
theorem t_M_whyNotBleach {G : z_G} {w : ev_W} (ok : z_Ok G w) {x1 : Int32} {I : z_H} {r : Int32 × z_H} (h : d_M_whyNotBleach x1 I = some r) : z_K G 312 [.ref (241), .int (x1)] (z_w w I) (.inl (some (.int r.1))) (z_w w r.2) := by
  refine z_con ok.1 (ml := 2) (by decide +kernel) rfl rfl ?_
  show z_R G 312 0 [some (.ref (241)), some (.int (x1))] [] (z_w w I) (.inl (some (.int r.1))) (z_w w r.2)
  unfold d_M_whyNotBleach at h
  have hB : z_all [z_is 312 0 (zf_aload 0 0 1), z_is 312 1 (zf_iload 1 1 2), z_is 312 2 (zf_cv 2 288 1 8 5), z_is 312 5 (zf_if1 .eq 5 16 8)] = true := by decide +kernel
  refine z_aload hB rfl (fun hB => ?_)
  refine z_iload hB rfl (fun hB => ?_)
  obtain ⟨q1, e2, h⟩ := z_bind h
  refine y_cv ok hB (as := [.int (x1)]) (a := 241) (rest := []) rfl rfl rfl (by decide +kernel) (t_M_mayFlag (I := I) ok e2) (fun hB => ?_)
  obtain ⟨q3, e4, h⟩ := z_bind h
  have k5 : z_R G 312 17 [none, none] [.int (q3)] (z_w w q1.2) (.inl (some (.int r.1))) (z_w w r.2) := by
    have hB : z_all [z_is 312 17 (zf_ret 0)] = true := by decide +kernel
    cases h
    exact z_reti hB
  have h := e4
  refine z_if_eq hB (fun hc _ => ?_) (fun hc _ => ?_)
  · have h := z_pos hc h
    have hB : z_all [z_is 312 16 (zf_cst 16 (jn 0) 17)] = true := by decide +kernel
    refine z_cst hB (fun hB => ?_)
    cases h
    exact z_weak k5 (z_sn (z_sn z_s0))
  · have h := z_neg hc h
    have hB : z_all [z_is 312 8 (zf_aload 8 0 9), z_is 312 9 (zf_iload 9 1 10), z_is 312 10 (zf_cv 10 311 1 8 13), z_is 312 13 (zf_goto 13 17)] = true := by decide +kernel
    refine z_aload hB rfl (fun hB => ?_)
    refine z_iload hB rfl (fun hB => ?_)
    obtain ⟨q6, e7, h⟩ := z_bind h
    refine y_cv ok hB (as := [.int (x1)]) (a := 241) (rest := []) rfl rfl rfl (by decide +kernel) (t_M_whyBleach (I := q1.2) ok e7) (fun hB => ?_)
    refine z_goto hB (fun hB => ?_)
    cases h
    exact z_weak k5 (z_sn (z_sn z_s0))
def d_M_running (x1 : Int32) (x2 : Int32) (I : z_H) : Option (Int32 × z_H) := ((d_M_mayHeat (x1) (x2) I).bind fun q1 => (Option.bind (α := Int32) (if q1.1 = jn 0 then some ((jn 0)) else ((d_M_runningIn (x1) (x2) q1.2).bind fun q6 => some (q6))) fun q3 => some ((q3, q1.2))))
/-- FlagLaundryModel.running(II)I -/
theorem t_M_running {G : z_G} {w : ev_W} (ok : z_Ok G w) {x1 : Int32} {x2 : Int32} {I : z_H} {r : Int32 × z_H} (h : d_M_running x1 x2 I = some r) : z_K G 313 [.ref (241), .int (x1), .int (x2)] (z_w w I) (.inl (some (.int r.1))) (z_w w r.2) := by
  refine z_con ok.1 (ml := 3) (by decide +kernel) rfl rfl ?_
  show z_R G 313 0 [some (.ref (241)), some (.int (x1)), some (.int (x2))] [] (z_w w I) (.inl (some (.int r.1))) (z_w w r.2)
  unfold d_M_running at h
  have hB : z_all [z_is 313 0 (zf_aload 0 0 1), z_is 313 1 (zf_iload 1 1 2), z_is 313 2 (zf_iload 2 2 3), z_is 313 3 (zf_cv 3 290 2 8 6), z_is 313 6 (zf_if1 .eq 6 18 9)] = true := by decide +kernel
  refine z_aload hB rfl (fun hB => ?_)
  refine z_iload hB rfl (fun hB => ?_)
  refine z_iload hB rfl (fun hB => ?_)
  obtain ⟨q1, e2, h⟩ := z_bind h
  refine y_cv ok hB (as := [.int (x1), .int (x2)]) (a := 241) (rest := []) rfl rfl rfl (by decide +kernel) (t_M_mayHeat (I := I) ok e2) (fun hB => ?_)
  obtain ⟨q3, e4, h⟩ := z_bind h
  have k5 : z_R G 313 19 [none, none, none] [.int (q3)] (z_w w q1.2) (.inl (some (.int r.1))) (z_w w r.2) := by
    have hB : z_all [z_is 313 19 (zf_ret 0)] = true := by decide +kernel
    cases h
    exact z_reti hB
  have h := e4
  refine z_if_eq hB (fun hc _ => ?_) (fun hc _ => ?_)
  · have h := z_pos hc h
    have hB : z_all [z_is 313 18 (zf_cst 18 (jn 0) 19)] = true := by decide +kernel
    refine z_cst hB (fun hB => ?_)
    cases h
    exact z_weak k5 (z_sn (z_sn (z_sn z_s0)))
  · have h := z_neg hc h
    have hB : z_all [z_is 313 9 (zf_aload 9 0 10), z_is 313 10 (zf_iload 10 1 11), z_is 313 11 (zf_iload 11 2 12), z_is 313 12 (zf_cv 12 258 2 8 15), z_is 313 15 (zf_goto 15 19)] = true := by decide +kernel
    refine z_aload hB rfl (fun hB => ?_)
    refine z_iload hB rfl (fun hB => ?_)
    refine z_iload hB rfl (fun hB => ?_)
    obtain ⟨q6, e7, h⟩ := z_bind h
    refine y_cv ok hB (as := [.int (x1), .int (x2)]) (a := 241) (rest := []) rfl rfl rfl (by decide +kernel) (t_M_runningIn (I := q1.2) ok e7) (fun hB => ?_)
    refine z_goto hB (fun hB => ?_)
    cases h
    exact z_weak k5 (z_sn (z_sn (z_sn z_s0)))
def d_M_stainedIf (x1 : Int32) (x2 : Int32) (I : z_H) : Option (Int32 × z_H) := ((d_M_mayHeat (x1) (x2) I).bind fun q1 => (Option.bind (α := Int32) (if q1.1 = jn 0 then some ((jn 0)) else ((d_M_stainedBy (x1) (x2) q1.2).bind fun q6 => some (q6))) fun q3 => some ((q3, q1.2))))
/-- FlagLaundryModel.stainedIf(II)I -/
theorem t_M_stainedIf {G : z_G} {w : ev_W} (ok : z_Ok G w) {x1 : Int32} {x2 : Int32} {I : z_H} {r : Int32 × z_H} (h : d_M_stainedIf x1 x2 I = some r) : z_K G 314 [.ref (241), .int (x1), .int (x2)] (z_w w I) (.inl (some (.int r.1))) (z_w w r.2) := by
  refine z_con ok.1 (ml := 3) (by decide +kernel) rfl rfl ?_
  show z_R G 314 0 [some (.ref (241)), some (.int (x1)), some (.int (x2))] [] (z_w w I) (.inl (some (.int r.1))) (z_w w r.2)
  unfold d_M_stainedIf at h
  have hB : z_all [z_is 314 0 (zf_aload 0 0 1), z_is 314 1 (zf_iload 1 1 2), z_is 314 2 (zf_iload 2 2 3), z_is 314 3 (zf_cv 3 290 2 8 6), z_is 314 6 (zf_if1 .eq 6 18 9)] = true := by decide +kernel
  refine z_aload hB rfl (fun hB => ?_)
  refine z_iload hB rfl (fun hB => ?_)
  refine z_iload hB rfl (fun hB => ?_)
  obtain ⟨q1, e2, h⟩ := z_bind h
  refine y_cv ok hB (as := [.int (x1), .int (x2)]) (a := 241) (rest := []) rfl rfl rfl (by decide +kernel) (t_M_mayHeat (I := I) ok e2) (fun hB => ?_)
  obtain ⟨q3, e4, h⟩ := z_bind h
  have k5 : z_R G 314 19 [none, none, none] [.int (q3)] (z_w w q1.2) (.inl (some (.int r.1))) (z_w w r.2) := by
    have hB : z_all [z_is 314 19 (zf_ret 0)] = true := by decide +kernel
    cases h
    exact z_reti hB
  have h := e4
  refine z_if_eq hB (fun hc _ => ?_) (fun hc _ => ?_)
  · have h := z_pos hc h
    have hB : z_all [z_is 314 18 (zf_cst 18 (jn 0) 19)] = true := by decide +kernel
    refine z_cst hB (fun hB => ?_)
    cases h
    exact z_weak k5 (z_sn (z_sn (z_sn z_s0)))
  · have h := z_neg hc h
    have hB : z_all [z_is 314 9 (zf_aload 9 0 10), z_is 314 10 (zf_iload 10 1 11), z_is 314 11 (zf_iload 11 2 12), z_is 314 12 (zf_cv 12 260 2 8 15), z_is 314 15 (zf_goto 15 19)] = true := by decide +kernel
    refine z_aload hB rfl (fun hB => ?_)
    refine z_iload hB rfl (fun hB => ?_)
    refine z_iload hB rfl (fun hB => ?_)
    obtain ⟨q6, e7, h⟩ := z_bind h
    refine y_cv ok hB (as := [.int (x1), .int (x2)]) (a := 241) (rest := []) rfl rfl rfl (by decide +kernel) (t_M_stainedBy (I := q1.2) ok e7) (fun hB => ?_)
    refine z_goto hB (fun hB => ?_)
    cases h
    exact z_weak k5 (z_sn (z_sn (z_sn z_s0)))
def d_M_dirtIf (x1 : Int32) (x2 : Int32) (I : z_H) : Option (Int32 × z_H) := ((d_M_mayHeat (x1) (x2) I).bind fun q1 => (Option.bind (α := Int32) (if q1.1 = jn 0 then some ((jn 0)) else ((d_M_dirtBy (x1) (x2) q1.2).bind fun q6 => some (q6))) fun q3 => some ((q3, q1.2))))
/-- FlagLaundryModel.dirtIf(II)I -/
theorem t_M_dirtIf {G : z_G} {w : ev_W} (ok : z_Ok G w) {x1 : Int32} {x2 : Int32} {I : z_H} {r : Int32 × z_H} (h : d_M_dirtIf x1 x2 I = some r) : z_K G 315 [.ref (241), .int (x1), .int (x2)] (z_w w I) (.inl (some (.int r.1))) (z_w w r.2) := by
  refine z_con ok.1 (ml := 3) (by decide +kernel) rfl rfl ?_
  show z_R G 315 0 [some (.ref (241)), some (.int (x1)), some (.int (x2))] [] (z_w w I) (.inl (some (.int r.1))) (z_w w r.2)
  unfold d_M_dirtIf at h
  have hB : z_all [z_is 315 0 (zf_aload 0 0 1), z_is 315 1 (zf_iload 1 1 2), z_is 315 2 (zf_iload 2 2 3), z_is 315 3 (zf_cv 3 290 2 8 6), z_is 315 6 (zf_if1 .eq 6 18 9)] = true := by decide +kernel
  refine z_aload hB rfl (fun hB => ?_)
  refine z_iload hB rfl (fun hB => ?_)
  refine z_iload hB rfl (fun hB => ?_)
  obtain ⟨q1, e2, h⟩ := z_bind h
  refine y_cv ok hB (as := [.int (x1), .int (x2)]) (a := 241) (rest := []) rfl rfl rfl (by decide +kernel) (t_M_mayHeat (I := I) ok e2) (fun hB => ?_)
  obtain ⟨q3, e4, h⟩ := z_bind h
  have k5 : z_R G 315 19 [none, none, none] [.int (q3)] (z_w w q1.2) (.inl (some (.int r.1))) (z_w w r.2) := by
    have hB : z_all [z_is 315 19 (zf_ret 0)] = true := by decide +kernel
    cases h
    exact z_reti hB
  have h := e4
  refine z_if_eq hB (fun hc _ => ?_) (fun hc _ => ?_)
  · have h := z_pos hc h
    have hB : z_all [z_is 315 18 (zf_cst 18 (jn 0) 19)] = true := by decide +kernel
    refine z_cst hB (fun hB => ?_)
    cases h
    exact z_weak k5 (z_sn (z_sn (z_sn z_s0)))
  · have h := z_neg hc h
    have hB : z_all [z_is 315 9 (zf_aload 9 0 10), z_is 315 10 (zf_iload 10 1 11), z_is 315 11 (zf_iload 11 2 12), z_is 315 12 (zf_cv 12 262 2 8 15), z_is 315 15 (zf_goto 15 19)] = true := by decide +kernel
    refine z_aload hB rfl (fun hB => ?_)
    refine z_iload hB rfl (fun hB => ?_)
    refine z_iload hB rfl (fun hB => ?_)
    obtain ⟨q6, e7, h⟩ := z_bind h
    refine y_cv ok hB (as := [.int (x1), .int (x2)]) (a := 241) (rest := []) rfl rfl rfl (by decide +kernel) (t_M_dirtBy (I := q1.2) ok e7) (fun hB => ?_)
    refine z_goto hB (fun hB => ?_)
    cases h
    exact z_weak k5 (z_sn (z_sn (z_sn z_s0)))
def d_M_isBetterHeat (x1 : Int32) (x2 : Int32) (x3 : Int32) (I : z_H) : Option (Int32) := ((d_M_stainedBy (x1) (x2) I).bind fun q1 => ((d_M_stainedBy (x1) (x3) I).bind fun q3 => (Option.bind (α := Int32) (if (q1 - q3) < jn 0 then some ((jn 1)) else (if (q1 - q3) = jn 0 then ((d_M_dirtBy (x1) (x2) I).bind fun q9 => ((d_M_dirtBy (x1) (x3) I).bind fun q11 => (if q9 < q11 then some ((jn 1)) else some ((jn 0))))) else some ((jn 0)))) fun q5 => (if (q5) = jn 0 ∨ (q5) = jn 1 then some (q5) else none))))
/-- FlagLaundryModel.isBetterHeat(III)Z -/
theorem t_M_isBetterHeat {G : z_G} {w : ev_W} (ok : z_Ok G w) {x1 : Int32} {x2 : Int32} {x3 : Int32} {I : z_H} {r : Int32} (h : d_M_isBetterHeat x1 x2 x3 I = some r) : z_K G 316 [.ref (241), .int (x1), .int (x2), .int (x3)] (z_w w I) (.inl (some (.int r))) (z_w w I) := by
  refine z_con ok.1 (ml := 5) (by decide +kernel) rfl rfl ?_
  show z_R G 316 0 [some (.ref (241)), some (.int (x1)), some (.int (x2)), some (.int (x3)), none] [] (z_w w I) (.inl (some (.int r))) (z_w w I)
  unfold d_M_isBetterHeat at h
  have hB : z_all [z_is 316 0 (zf_aload 0 0 1), z_is 316 1 (zf_iload 1 1 2), z_is 316 2 (zf_iload 2 2 3), z_is 316 3 (zf_cv 3 260 2 8 6), z_is 316 6 (zf_aload 6 0 7), z_is 316 7 (zf_iload 7 1 8), z_is 316 8 (zf_iload 8 3 9), z_is 316 9 (zf_cv 9 260 2 8 12), z_is 316 12 (zf_isub 12 13), z_is 316 13 (zf_istore 13 4 15), z_is 316 15 (zf_iload 15 4 17), z_is 316 17 (zf_if1 .lt 17 40 20)] = true := by decide +kernel
  refine z_aload hB rfl (fun hB => ?_)
  refine z_iload hB rfl (fun hB => ?_)
  refine z_iload hB rfl (fun hB => ?_)
  obtain ⟨q1, e2, h⟩ := z_bind h
  refine y_cv ok hB (as := [.int (x1), .int (x2)]) (a := 241) (rest := []) rfl rfl rfl (by decide +kernel) (t_M_stainedBy (I := I) ok e2) (fun hB => ?_)
  refine z_aload hB rfl (fun hB => ?_)
  refine z_iload hB rfl (fun hB => ?_)
  refine z_iload hB rfl (fun hB => ?_)
  obtain ⟨q3, e4, h⟩ := z_bind h
  refine y_cv ok hB (as := [.int (x1), .int (x3)]) (a := 241) (rest := [.int (q1)]) rfl rfl rfl (by decide +kernel) (t_M_stainedBy (I := I) ok e4) (fun hB => ?_)
  refine z_isub hB (fun hB => ?_)
  refine z_istore hB rfl rfl (fun hB => ?_)
  refine z_iload hB rfl (fun hB => ?_)
  obtain ⟨q5, e6, h⟩ := z_bind h
  have k7 : z_R G 316 45 [none, none, none, none, none] [.int (q5)] (z_w w I) (.inl (some (.int r))) (z_w w I) := by
    have hB : z_all [z_is 316 45 (zf_ret 1)] = true := by decide +kernel
    obtain ⟨g8, h⟩ := z_gd h
    cases h
    exact z_retz hB g8
  have h := e6
  refine z_if_lt hB (fun hc _ => ?_) (fun hc _ => ?_)
  · have h := z_pos hc h
    have hB : z_all [z_is 316 40 (zf_cst 40 (jn 1) 41), z_is 316 41 (zf_goto 41 45)] = true := by decide +kernel
    refine z_cst hB (fun hB => ?_)
    refine z_goto hB (fun hB => ?_)
    cases h
    exact z_weak k7 (z_sn (z_sn (z_sn (z_sn (z_sn z_s0)))))
  · have h := z_neg hc h
    have hB : z_all [z_is 316 20 (zf_iload 20 4 22), z_is 316 22 (zf_if1 .ne 22 44 25)] = true := by decide +kernel
    refine z_iload hB rfl (fun hB => ?_)
    refine z_if_ne hB (fun hc _ => ?_) (fun hc _ => ?_)
    · have h := z_neg hc h
      have hB : z_all [z_is 316 44 (zf_cst 44 (jn 0) 45)] = true := by decide +kernel
      refine z_cst hB (fun hB => ?_)
      cases h
      exact z_weak k7 (z_sn (z_sn (z_sn (z_sn (z_sn z_s0)))))
    · have h := z_pos hc h
      have hB : z_all [z_is 316 25 (zf_aload 25 0 26), z_is 316 26 (zf_iload 26 1 27), z_is 316 27 (zf_iload 27 2 28), z_is 316 28 (zf_cv 28 262 2 8 31), z_is 316 31 (zf_aload 31 0 32), z_is 316 32 (zf_iload 32 1 33), z_is 316 33 (zf_iload 33 3 34), z_is 316 34 (zf_cv 34 262 2 8 37), z_is 316 37 (zf_if2 .ge 37 44 40)] = true := by decide +kernel
      refine z_aload hB rfl (fun hB => ?_)
      refine z_iload hB rfl (fun hB => ?_)
      refine z_iload hB rfl (fun hB => ?_)
      obtain ⟨q9, e10, h⟩ := z_bind h
      refine y_cv ok hB (as := [.int (x1), .int (x2)]) (a := 241) (rest := []) rfl rfl rfl (by decide +kernel) (t_M_dirtBy (I := I) ok e10) (fun hB => ?_)
      refine z_aload hB rfl (fun hB => ?_)
      refine z_iload hB rfl (fun hB => ?_)
      refine z_iload hB rfl (fun hB => ?_)
      obtain ⟨q11, e12, h⟩ := z_bind h
      refine y_cv ok hB (as := [.int (x1), .int (x3)]) (a := 241) (rest := [.int (q9)]) rfl rfl rfl (by decide +kernel) (t_M_dirtBy (I := I) ok e12) (fun hB => ?_)
      refine z_ic_ge hB (fun hc _ => ?_) (fun hc _ => ?_)
      · have h := z_neg hc h
        have hB : z_all [z_is 316 44 (zf_cst 44 (jn 0) 45)] = true := by decide +kernel
        refine z_cst hB (fun hB => ?_)
        cases h
        exact z_weak k7 (z_sn (z_sn (z_sn (z_sn (z_sn z_s0)))))
      · have h := z_pos hc h
        have hB : z_all [z_is 316 40 (zf_cst 40 (jn 1) 41), z_is 316 41 (zf_goto 41 45)] = true := by decide +kernel
        refine z_cst hB (fun hB => ?_)
        refine z_goto hB (fun hB => ?_)
        cases h
        exact z_weak k7 (z_sn (z_sn (z_sn (z_sn (z_sn z_s0)))))
def d_M_bestHeat_6 (x1 : Int32) (q1 : Int32 × z_H) (p5 : Int32 × Int32) : Option ((Int32 × Int32) ⊕ (Int32 × Int32)) := ((d_M_leastCare (x1) q1.2).bind fun q10 => (if q10 < p5.2 then some (Sum.inr (p5.1, p5.2)) else ((d_M_isBetterHeat (x1) (p5.2) (p5.1) q1.2).bind fun q12 => (Option.bind (α := Int32) (if q12 = jn 0 then some (p5.1) else some (p5.2)) fun q14 => some (Sum.inl (q14, (p5.2 + (jn 1))))))))
def d_M_bestHeat (x1 : Int32) (I : z_H) : Option (Int32 × z_H) := ((d_M_mayTub (x1) I).bind fun q1 => (if q1.1 = jn 0 then some (((jn 0), q1.2)) else ((d_M_manyIn (x1) q1.2).bind fun q3 => (if q3 = jn 0 then some (((jg 1), q1.2)) else ((z_it (d_M_bestHeat_6 x1 q1) z_F ((jn 0), (jn 1))).bind fun q7 => some ((q7.1, q1.2)))))))
/-- FlagLaundryModel.bestHeat(I)I -/
theorem t_M_bestHeat {G : z_G} {w : ev_W} (ok : z_Ok G w) {x1 : Int32} {I : z_H} {r : Int32 × z_H} (h : d_M_bestHeat x1 I = some r) : z_K G 317 [.ref (241), .int (x1)] (z_w w I) (.inl (some (.int r.1))) (z_w w r.2) := by
  refine z_con ok.1 (ml := 4) (by decide +kernel) rfl rfl ?_
  show z_R G 317 0 [some (.ref (241)), some (.int (x1)), none, none] [] (z_w w I) (.inl (some (.int r.1))) (z_w w r.2)
  unfold d_M_bestHeat at h
  have hB : z_all [z_is 317 0 (zf_aload 0 0 1), z_is 317 1 (zf_iload 1 1 2), z_is 317 2 (zf_cv 2 289 1 8 5), z_is 317 5 (zf_if1 .ne 5 10 8)] = true := by decide +kernel
  refine z_aload hB rfl (fun hB => ?_)
  refine z_iload hB rfl (fun hB => ?_)
  obtain ⟨q1, e2, h⟩ := z_bind h
  refine y_cv ok hB (as := [.int (x1)]) (a := 241) (rest := []) rfl rfl rfl (by decide +kernel) (t_M_mayTub (I := I) ok e2) (fun hB => ?_)
  refine z_if_ne hB (fun hc _ => ?_) (fun hc _ => ?_)
  · have h := z_neg hc h
    have hB : z_all [z_is 317 10 (zf_aload 10 0 11), z_is 317 11 (zf_iload 11 1 12), z_is 317 12 (zf_cv 12 251 1 8 15), z_is 317 15 (zf_if1 .ne 15 20 18)] = true := by decide +kernel
    refine z_aload hB rfl (fun hB => ?_)
    refine z_iload hB rfl (fun hB => ?_)
    obtain ⟨q3, e4, h⟩ := z_bind h
    refine y_cv ok hB (as := [.int (x1)]) (a := 241) (rest := []) rfl rfl rfl (by decide +kernel) (t_M_manyIn (I := q1.2) ok e4) (fun hB => ?_)
    refine z_if_ne hB (fun hc _ => ?_) (fun hc _ => ?_)
    · have h := z_neg hc h
      have hB : z_all [z_is 317 20 (zf_cst 20 (jn 0) 21), z_is 317 21 (zf_istore 21 2 22), z_is 317 22 (zf_cst 22 (jn 1) 23), z_is 317 23 (zf_istore 23 3 24)] = true := by decide +kernel
      refine z_cst hB (fun hB => ?_)
      refine z_istore hB rfl rfl (fun hB => ?_)
      refine z_cst hB (fun hB => ?_)
      refine z_istore hB rfl rfl (fun hB => ?_)
      obtain ⟨q7, e8, h⟩ := z_bind h
      have k9 : z_R G 317 51 [none, none, some (.int (q7.1)), none] [] (z_w w q1.2) (.inl (some (.int r.1))) (z_w w r.2) := by
        have hB : z_all [z_is 317 51 (zf_iload 51 2 52), z_is 317 52 (zf_ret 0)] = true := by decide +kernel
        refine z_iload hB rfl (fun hB => ?_)
        cases h
        exact z_reti hB
      have l6 : ∀ (m6 : Nat) (p5 : Int32 × Int32), z_it (d_M_bestHeat_6 x1 q1) m6 p5 = some q7 → z_R G 317 24 [some (.ref (241)), some (.int (x1)), some (.int (p5.1)), some (.int (p5.2))] [] (z_w w q1.2) (.inl (some (.int r.1))) (z_w w r.2) := by
        intro m6
        induction m6 with
        | zero => intro p5 h; cases h
        | succ m6 i6 =>
          intro p5 h
          obtain ⟨u6, h, b6⟩ := z_it_o h
          unfold d_M_bestHeat_6 at h
          have hB : z_all [z_is 317 24 (zf_iload 24 3 25), z_is 317 25 (zf_aload 25 0 26), z_is 317 26 (zf_iload 26 1 27), z_is 317 27 (zf_cv 27 254 1 8 30), z_is 317 30 (zf_if2 .gt 30 51 33)] = true := by decide +kernel
          refine z_iload hB rfl (fun hB => ?_)
          refine z_aload hB rfl (fun hB => ?_)
          refine z_iload hB rfl (fun hB => ?_)
          obtain ⟨q10, e11, h⟩ := z_bind h
          refine y_cv ok hB (as := [.int (x1)]) (a := 241) (rest := [.int (p5.2)]) rfl rfl rfl (by decide +kernel) (t_M_leastCare (I := q1.2) ok e11) (fun hB => ?_)
          refine z_ic_gt hB (fun hc _ => ?_) (fun hc _ => ?_)
          · have h := z_pos hc h
            cases h
            cases b6
            exact z_weak k9 (z_sn (z_sn (z_se (z_sn z_s0))))
          · have h := z_neg hc h
            have hB : z_all [z_is 317 33 (zf_aload 33 0 34), z_is 317 34 (zf_iload 34 1 35), z_is 317 35 (zf_iload 35 3 36), z_is 317 36 (zf_iload 36 2 37), z_is 317 37 (zf_cv 37 316 3 8 40), z_is 317 40 (zf_if1 .eq 40 45 43)] = true := by decide +kernel
            refine z_aload hB rfl (fun hB => ?_)
            refine z_iload hB rfl (fun hB => ?_)
            refine z_iload hB rfl (fun hB => ?_)
            refine z_iload hB rfl (fun hB => ?_)
            obtain ⟨q12, e13, h⟩ := z_bind h
            refine y_cv ok hB (as := [.int (x1), .int (p5.2), .int (p5.1)]) (a := 241) (rest := []) rfl rfl rfl (by decide +kernel) (t_M_isBetterHeat (I := q1.2) ok e13) (fun hB => ?_)
            obtain ⟨q14, e15, h⟩ := z_bind h
            have k16 : z_R G 317 45 [some (.ref (241)), some (.int (x1)), some (.int (q14)), some (.int (p5.2))] [] (z_w w q1.2) (.inl (some (.int r.1))) (z_w w r.2) := by
              have hB : z_all [z_is 317 45 (zf_iinc 45 3 (jn 1) 48), z_is 317 48 (zf_goto 48 24)] = true := by decide +kernel
              refine z_iinc hB rfl rfl (fun hB => ?_)
              refine z_goto hB (fun hB => ?_)
              cases h
              exact z_weak (i6 (q14, (p5.2 + (jn 1))) b6) (z_se (z_se (z_se (z_se z_s0))))
            have h := e15
            refine z_if_eq hB (fun hc _ => ?_) (fun hc _ => ?_)
            · have h := z_pos hc h
              cases h
              exact z_weak k16 (z_se (z_se (z_se (z_se z_s0))))
            · have h := z_neg hc h
              have hB : z_all [z_is 317 43 (zf_iload 43 3 44), z_is 317 44 (zf_istore 44 2 45)] = true := by decide +kernel
              refine z_iload hB rfl (fun hB => ?_)
              refine z_istore hB rfl rfl (fun hB => ?_)
              cases h
              exact z_weak k16 (z_se (z_se (z_se (z_se z_s0))))
      exact z_weak (l6 _ ((jn 0), (jn 1)) e8) (z_se (z_se (z_se (z_se z_s0))))
    · have h := z_pos hc h
      have hB : z_all [z_is 317 18 (zf_cst 18 (jg 1) 19), z_is 317 19 (zf_ret 0)] = true := by decide +kernel
      refine z_cst hB (fun hB => ?_)
      cases h
      exact z_reti hB
  · have h := z_pos hc h
    have hB : z_all [z_is 317 8 (zf_cst 8 (jn 0) 9), z_is 317 9 (zf_ret 0)] = true := by decide +kernel
    refine z_cst hB (fun hB => ?_)
    cases h
    exact z_reti hB
def d_M_isSafe (x1 : Int32) (x2 : Int32) (x3 : Int32) (I : z_H) : Option (Int32 × z_H) := ((d_M_whyPut (x1) (x2) I).bind fun q1 => (if q1 = jn 0 then ((d_M_thinks I).bind fun q3 => ((d_M_putsInto (x1) (x2) q3).bind fun q5 => ((d_M_whyWash (x2) (x3) q5).bind fun q7 => ((d_M_stainedBy (x2) (x3) q5).bind fun q9 => ((d_M_back ((q7 + q9)) q5).bind fun q11 => (Option.bind (α := Int32) (if q11.1 = jn 0 then some ((jn 1)) else some ((jn 0))) fun q13 => (if (q13) = jn 0 ∨ (q13) = jn 1 then some ((q13, q11.2)) else none))))))) else some (((jn 0), I))))
/-- FlagLaundryModel.isSafe(III)Z -/
theorem t_M_isSafe {G : z_G} {w : ev_W} (ok : z_Ok G w) {x1 : Int32} {x2 : Int32} {x3 : Int32} {I : z_H} {r : Int32 × z_H} (h : d_M_isSafe x1 x2 x3 I = some r) : z_K G 318 [.ref (241), .int (x1), .int (x2), .int (x3)] (z_w w I) (.inl (some (.int r.1))) (z_w w r.2) := by
  refine z_con ok.1 (ml := 4) (by decide +kernel) rfl rfl ?_
  show z_R G 318 0 [some (.ref (241)), some (.int (x1)), some (.int (x2)), some (.int (x3))] [] (z_w w I) (.inl (some (.int r.1))) (z_w w r.2)
  unfold d_M_isSafe at h
  have hB : z_all [z_is 318 0 (zf_aload 0 0 1), z_is 318 1 (zf_iload 1 1 2), z_is 318 2 (zf_iload 2 2 3), z_is 318 3 (zf_cv 3 252 2 8 6), z_is 318 6 (zf_if1 .eq 6 11 9)] = true := by decide +kernel
  refine z_aload hB rfl (fun hB => ?_)
  refine z_iload hB rfl (fun hB => ?_)
  refine z_iload hB rfl (fun hB => ?_)
  obtain ⟨q1, e2, h⟩ := z_bind h
  refine y_cv ok hB (as := [.int (x1), .int (x2)]) (a := 241) (rest := []) rfl rfl rfl (by decide +kernel) (t_M_whyPut (I := I) ok e2) (fun hB => ?_)
  refine z_if_eq hB (fun hc _ => ?_) (fun hc _ => ?_)
  · have h := z_pos hc h
    have hB : z_all [z_is 318 11 (zf_aload 11 0 12), z_is 318 12 (zf_cv 12 210 0 8 15), z_is 318 15 (zf_aload 15 0 16), z_is 318 16 (zf_iload 16 1 17), z_is 318 17 (zf_iload 17 2 18), z_is 318 18 (zf_cv 18 253 2 8 21), z_is 318 21 (zf_aload 21 0 22), z_is 318 22 (zf_aload 22 0 23), z_is 318 23 (zf_iload 23 2 24), z_is 318 24 (zf_iload 24 3 25), z_is 318 25 (zf_cv 25 255 2 8 28), z_is 318 28 (zf_aload 28 0 29), z_is 318 29 (zf_iload 29 2 30), z_is 318 30 (zf_iload 30 3 31), z_is 318 31 (zf_cv 31 260 2 8 34), z_is 318 34 (zf_iadd 34 35), z_is 318 35 (zf_cv 35 211 1 8 38), z_is 318 38 (zf_if1 .ne 38 45 41)] = true := by decide +kernel
    refine z_aload hB rfl (fun hB => ?_)
    obtain ⟨q3, e4, h⟩ := z_bind h
    refine y_cv ok hB (as := []) (a := 241) (rest := []) rfl rfl rfl (by decide +kernel) (t_M_thinks (I := I) ok e4) (fun hB => ?_)
    refine z_aload hB rfl (fun hB => ?_)
    refine z_iload hB rfl (fun hB => ?_)
    refine z_iload hB rfl (fun hB => ?_)
    obtain ⟨q5, e6, h⟩ := z_bind h
    refine y_cv ok hB (as := [.int (x1), .int (x2)]) (a := 241) (rest := []) rfl rfl rfl (by decide +kernel) (t_M_putsInto (I := q3) ok e6) (fun hB => ?_)
    refine z_aload hB rfl (fun hB => ?_)
    refine z_aload hB rfl (fun hB => ?_)
    refine z_iload hB rfl (fun hB => ?_)
    refine z_iload hB rfl (fun hB => ?_)
    obtain ⟨q7, e8, h⟩ := z_bind h
    refine y_cv ok hB (as := [.int (x2), .int (x3)]) (a := 241) (rest := [.ref (241)]) rfl rfl rfl (by decide +kernel) (t_M_whyWash (I := q5) ok e8) (fun hB => ?_)
    refine z_aload hB rfl (fun hB => ?_)
    refine z_iload hB rfl (fun hB => ?_)
    refine z_iload hB rfl (fun hB => ?_)
    obtain ⟨q9, e10, h⟩ := z_bind h
    refine y_cv ok hB (as := [.int (x2), .int (x3)]) (a := 241) (rest := [.int (q7), .ref (241)]) rfl rfl rfl (by decide +kernel) (t_M_stainedBy (I := q5) ok e10) (fun hB => ?_)
    refine z_iadd hB (fun hB => ?_)
    obtain ⟨q11, e12, h⟩ := z_bind h
    refine y_cv ok hB (as := [.int ((q7 + q9))]) (a := 241) (rest := []) rfl rfl rfl (by decide +kernel) (t_M_back (I := q5) ok e12) (fun hB => ?_)
    obtain ⟨q13, e14, h⟩ := z_bind h
    have k15 : z_R G 318 46 [none, none, none, none] [.int (q13)] (z_w w q11.2) (.inl (some (.int r.1))) (z_w w r.2) := by
      have hB : z_all [z_is 318 46 (zf_ret 1)] = true := by decide +kernel
      obtain ⟨g16, h⟩ := z_gd h
      cases h
      exact z_retz hB g16
    have h := e14
    refine z_if_ne hB (fun hc _ => ?_) (fun hc _ => ?_)
    · have h := z_neg hc h
      have hB : z_all [z_is 318 45 (zf_cst 45 (jn 0) 46)] = true := by decide +kernel
      refine z_cst hB (fun hB => ?_)
      cases h
      exact z_weak k15 (z_sn (z_sn (z_sn (z_sn z_s0))))
    · have h := z_pos hc h
      have hB : z_all [z_is 318 41 (zf_cst 41 (jn 1) 42), z_is 318 42 (zf_goto 42 46)] = true := by decide +kernel
      refine z_cst hB (fun hB => ?_)
      refine z_goto hB (fun hB => ?_)
      cases h
      exact z_weak k15 (z_sn (z_sn (z_sn (z_sn z_s0))))
  · have h := z_neg hc h
    have hB : z_all [z_is 318 9 (zf_cst 9 (jn 0) 10), z_is 318 10 (zf_ret 1)] = true := by decide +kernel
    refine z_cst hB (fun hB => ?_)
    cases h
    exact z_retz hB (by decide)
def d_M_firstSafe_4 (x1 : Int32) (x2 : Int32) (p3 : Int32 × z_H) : Option ((Int32 × z_H) ⊕ (Int32 × z_H)) := (if z_in ((jn 10)) 173 then (if p3.1 < (p3.2 242 (z_n ((jn 10)))) then ((d_M_isSafe (p3.1) (x1) (x2) p3.2).bind fun q6 => (if q6.1 = jn 0 then some (Sum.inl ((p3.1 + (jn 1)), q6.2)) else some (Sum.inr ((p3.1, q6.2))))) else some (Sum.inr (((jg 1), p3.2)))) else none)
def d_M_firstSafe (x1 : Int32) (x2 : Int32) (I : z_H) : Option (Int32 × z_H) := ((d_M_mayHeat (x1) (x2) I).bind fun q1 => (if q1.1 = jn 0 then some (((jn 0), q1.2)) else (z_it (d_M_firstSafe_4 x1 x2) z_F ((jn 0), q1.2))))
/-- FlagLaundryModel.firstSafe(II)I -/
theorem t_M_firstSafe {G : z_G} {w : ev_W} (ok : z_Ok G w) {x1 : Int32} {x2 : Int32} {I : z_H} {r : Int32 × z_H} (h : d_M_firstSafe x1 x2 I = some r) : z_K G 319 [.ref (241), .int (x1), .int (x2)] (z_w w I) (.inl (some (.int r.1))) (z_w w r.2) := by
  refine z_con ok.1 (ml := 4) (by decide +kernel) rfl rfl ?_
  show z_R G 319 0 [some (.ref (241)), some (.int (x1)), some (.int (x2)), none] [] (z_w w I) (.inl (some (.int r.1))) (z_w w r.2)
  unfold d_M_firstSafe at h
  have hB : z_all [z_is 319 0 (zf_aload 0 0 1), z_is 319 1 (zf_iload 1 1 2), z_is 319 2 (zf_iload 2 2 3), z_is 319 3 (zf_cv 3 290 2 8 6), z_is 319 6 (zf_if1 .ne 6 11 9)] = true := by decide +kernel
  refine z_aload hB rfl (fun hB => ?_)
  refine z_iload hB rfl (fun hB => ?_)
  refine z_iload hB rfl (fun hB => ?_)
  obtain ⟨q1, e2, h⟩ := z_bind h
  refine y_cv ok hB (as := [.int (x1), .int (x2)]) (a := 241) (rest := []) rfl rfl rfl (by decide +kernel) (t_M_mayHeat (I := I) ok e2) (fun hB => ?_)
  refine z_if_ne hB (fun hc _ => ?_) (fun hc _ => ?_)
  · have h := z_neg hc h
    have hB : z_all [z_is 319 11 (zf_cst 11 (jn 0) 12), z_is 319 12 (zf_istore 12 3 13)] = true := by decide +kernel
    refine z_cst hB (fun hB => ?_)
    refine z_istore hB rfl rfl (fun hB => ?_)
    have l4 : ∀ (m4 : Nat) (p3 : Int32 × z_H), z_it (d_M_firstSafe_4 x1 x2) m4 p3 = some r → z_R G 319 13 [some (.ref (241)), some (.int (x1)), some (.int (x2)), some (.int (p3.1))] [] (z_w w p3.2) (.inl (some (.int r.1))) (z_w w r.2) := by
      intro m4
      induction m4 with
      | zero => intro p3 h; cases h
      | succ m4 i4 =>
        intro p3 h
        obtain ⟨u4, h, b4⟩ := z_it_o h
        unfold d_M_firstSafe_4 at h
        have hB : z_all [z_is 319 13 (zf_iload 13 3 14), z_is 319 14 (zf_aload 14 0 15), z_is 319 15 (zf_getr 15 8 1 18), z_is 319 18 (zf_cst 18 (jn 10) 20), z_is 319 20 (zf_iald 20 21), z_is 319 21 (zf_if2 .ge 21 42 24)] = true := by decide +kernel
        refine z_iload hB rfl (fun hB => ?_)
        refine z_aload hB rfl (fun hB => ?_)
        refine y_getr (b := 242) ok hB (by decide +kernel) (by decide +kernel) (fun hB => ?_)
        refine z_cst hB (fun hB => ?_)
        obtain ⟨g5, h⟩ := z_gd h
        refine y_iald ok hB (by decide +kernel) (by decide +kernel) g5 (fun hB => ?_)
        refine z_ic_ge hB (fun hc _ => ?_) (fun hc _ => ?_)
        · have h := z_neg hc h
          have hB : z_all [z_is 319 42 (zf_cst 42 (jg 1) 43), z_is 319 43 (zf_ret 0)] = true := by decide +kernel
          refine z_cst hB (fun hB => ?_)
          cases h
          cases b4
          exact z_reti hB
        · have h := z_pos hc h
          have hB : z_all [z_is 319 24 (zf_aload 24 0 25), z_is 319 25 (zf_iload 25 3 26), z_is 319 26 (zf_iload 26 1 27), z_is 319 27 (zf_iload 27 2 28), z_is 319 28 (zf_cv 28 318 3 8 31), z_is 319 31 (zf_if1 .eq 31 36 34)] = true := by decide +kernel
          refine z_aload hB rfl (fun hB => ?_)
          refine z_iload hB rfl (fun hB => ?_)
          refine z_iload hB rfl (fun hB => ?_)
          refine z_iload hB rfl (fun hB => ?_)
          obtain ⟨q6, e7, h⟩ := z_bind h
          refine y_cv ok hB (as := [.int (p3.1), .int (x1), .int (x2)]) (a := 241) (rest := []) rfl rfl rfl (by decide +kernel) (t_M_isSafe (I := p3.2) ok e7) (fun hB => ?_)
          refine z_if_eq hB (fun hc _ => ?_) (fun hc _ => ?_)
          · have h := z_pos hc h
            have hB : z_all [z_is 319 36 (zf_iinc 36 3 (jn 1) 39), z_is 319 39 (zf_goto 39 13)] = true := by decide +kernel
            refine z_iinc hB rfl rfl (fun hB => ?_)
            refine z_goto hB (fun hB => ?_)
            cases h
            exact z_weak (i4 ((p3.1 + (jn 1)), q6.2) b4) (z_se (z_se (z_se (z_se z_s0))))
          · have h := z_neg hc h
            have hB : z_all [z_is 319 34 (zf_iload 34 3 35), z_is 319 35 (zf_ret 0)] = true := by decide +kernel
            refine z_iload hB rfl (fun hB => ?_)
            cases h
            cases b4
            exact z_reti hB
    exact z_weak (l4 _ ((jn 0), q1.2) h) (z_se (z_se (z_se (z_se z_s0))))
  · have h := z_pos hc h
    have hB : z_all [z_is 319 9 (zf_cst 9 (jn 0) 10), z_is 319 10 (zf_ret 0)] = true := by decide +kernel
    refine z_cst hB (fun hB => ?_)
    cases h
    exact z_reti hB
def d_M_mixes (x1 : Int32) (x2 : Int32) (x3 : Int32) (I : z_H) : Option (Int32) := (if x1 = x2 then some ((jn 0)) else ((d_M_runningFrom (x1) (x3) I).bind fun q1 => ((d_M_newStains (x2) (q1) I).bind fun q3 => (Option.bind (α := Int32) (if q3 = jn 0 then some ((jn 0)) else some ((jn 1))) fun q5 => ((d_M_one (q5)).bind fun q8 => ((d_M_runningFrom (x2) (x3) I).bind fun q10 => ((d_M_newStains (x1) (q10) I).bind fun q12 => (Option.bind (α := Int32) (if q12 = jn 0 then some ((jn 0)) else some ((jn 1))) fun q14 => ((d_M_one (q14)).bind fun q17 => some ((q8 + ((jn 2) * q17))))))))))))
/-- FlagLaundryModel.mixes(III)I -/
theorem t_M_mixes {G : z_G} {w : ev_W} (ok : z_Ok G w) {x1 : Int32} {x2 : Int32} {x3 : Int32} {I : z_H} {r : Int32} (h : d_M_mixes x1 x2 x3 I = some r) : z_K G 320 [.ref (241), .int (x1), .int (x2), .int (x3)] (z_w w I) (.inl (some (.int r))) (z_w w I) := by
  refine z_con ok.1 (ml := 4) (by decide +kernel) rfl rfl ?_
  show z_R G 320 0 [some (.ref (241)), some (.int (x1)), some (.int (x2)), some (.int (x3))] [] (z_w w I) (.inl (some (.int r))) (z_w w I)
  unfold d_M_mixes at h
  have hB : z_all [z_is 320 0 (zf_iload 0 1 1), z_is 320 1 (zf_iload 1 2 2), z_is 320 2 (zf_if2 .ne 2 7 5)] = true := by decide +kernel
  refine z_iload hB rfl (fun hB => ?_)
  refine z_iload hB rfl (fun hB => ?_)
  refine z_ic_ne hB (fun hc _ => ?_) (fun hc _ => ?_)
  · have h := z_neg hc h
    have hB : z_all [z_is 320 7 (zf_aload 7 0 8), z_is 320 8 (zf_iload 8 2 9), z_is 320 9 (zf_aload 9 0 10), z_is 320 10 (zf_iload 10 1 11), z_is 320 11 (zf_iload 11 3 12), z_is 320 12 (zf_cv 12 257 2 8 15), z_is 320 15 (zf_cv 15 259 2 8 18), z_is 320 18 (zf_if1 .eq 18 25 21)] = true := by decide +kernel
    refine z_aload hB rfl (fun hB => ?_)
    refine z_iload hB rfl (fun hB => ?_)
    refine z_aload hB rfl (fun hB => ?_)
    refine z_iload hB rfl (fun hB => ?_)
    refine z_iload hB rfl (fun hB => ?_)
    obtain ⟨q1, e2, h⟩ := z_bind h
    refine y_cv ok hB (as := [.int (x1), .int (x3)]) (a := 241) (rest := [.int (x2), .ref (241)]) rfl rfl rfl (by decide +kernel) (t_M_runningFrom (I := I) ok e2) (fun hB => ?_)
    obtain ⟨q3, e4, h⟩ := z_bind h
    refine y_cv ok hB (as := [.int (x2), .int (q1)]) (a := 241) (rest := []) rfl rfl rfl (by decide +kernel) (t_M_newStains (I := I) ok e4) (fun hB => ?_)
    obtain ⟨q5, e6, h⟩ := z_bind h
    have k7 : z_R G 320 26 [some (.ref (241)), some (.int (x1)), some (.int (x2)), some (.int (x3))] [.int (q5)] (z_w w I) (.inl (some (.int r))) (z_w w I) := by
      have hB : z_all [z_is 320 26 (zf_cs 26 204 1 29), z_is 320 29 (zf_cst 29 (jn 2) 30), z_is 320 30 (zf_aload 30 0 31), z_is 320 31 (zf_iload 31 1 32), z_is 320 32 (zf_aload 32 0 33), z_is 320 33 (zf_iload 33 2 34), z_is 320 34 (zf_iload 34 3 35), z_is 320 35 (zf_cv 35 257 2 8 38), z_is 320 38 (zf_cv 38 259 2 8 41), z_is 320 41 (zf_if1 .eq 41 48 44)] = true := by decide +kernel
      obtain ⟨q8, e9, h⟩ := z_bind h
      refine z_callS hB (as := [.int (q5)]) (rest := []) rfl rfl rfl (t_M_one (I := I) ok e9) (fun hB => ?_)
      refine z_cst hB (fun hB => ?_)
      refine z_aload hB rfl (fun hB => ?_)
      refine z_iload hB rfl (fun hB => ?_)
      refine z_aload hB rfl (fun hB => ?_)
      refine z_iload hB rfl (fun hB => ?_)
      refine z_iload hB rfl (fun hB => ?_)
      obtain ⟨q10, e11, h⟩ := z_bind h
      refine y_cv ok hB (as := [.int (x2), .int (x3)]) (a := 241) (rest := [.int (x1), .ref (241), .int ((jn 2)), .int (q8)]) rfl rfl rfl (by decide +kernel) (t_M_runningFrom (I := I) ok e11) (fun hB => ?_)
      obtain ⟨q12, e13, h⟩ := z_bind h
      refine y_cv ok hB (as := [.int (x1), .int (q10)]) (a := 241) (rest := [.int ((jn 2)), .int (q8)]) rfl rfl rfl (by decide +kernel) (t_M_newStains (I := I) ok e13) (fun hB => ?_)
      obtain ⟨q14, e15, h⟩ := z_bind h
      have k16 : z_R G 320 49 [none, none, none, none] [.int (q14), .int ((jn 2)), .int (q8)] (z_w w I) (.inl (some (.int r))) (z_w w I) := by
        have hB : z_all [z_is 320 49 (zf_cs 49 204 1 52), z_is 320 52 (zf_imul 52 53), z_is 320 53 (zf_iadd 53 54), z_is 320 54 (zf_ret 0)] = true := by decide +kernel
        obtain ⟨q17, e18, h⟩ := z_bind h
        refine z_callS hB (as := [.int (q14)]) (rest := [.int ((jn 2)), .int (q8)]) rfl rfl rfl (t_M_one (I := I) ok e18) (fun hB => ?_)
        refine z_imul hB (fun hB => ?_)
        refine z_iadd hB (fun hB => ?_)
        cases h
        exact z_reti hB
      have h := e15
      refine z_if_eq hB (fun hc _ => ?_) (fun hc _ => ?_)
      · have h := z_pos hc h
        have hB : z_all [z_is 320 48 (zf_cst 48 (jn 0) 49)] = true := by decide +kernel
        refine z_cst hB (fun hB => ?_)
        cases h
        exact z_weak k16 (z_sn (z_sn (z_sn (z_sn z_s0))))
      · have h := z_neg hc h
        have hB : z_all [z_is 320 44 (zf_cst 44 (jn 1) 45), z_is 320 45 (zf_goto 45 49)] = true := by decide +kernel
        refine z_cst hB (fun hB => ?_)
        refine z_goto hB (fun hB => ?_)
        cases h
        exact z_weak k16 (z_sn (z_sn (z_sn (z_sn z_s0))))
    have h := e6
    refine z_if_eq hB (fun hc _ => ?_) (fun hc _ => ?_)
    · have h := z_pos hc h
      have hB : z_all [z_is 320 25 (zf_cst 25 (jn 0) 26)] = true := by decide +kernel
      refine z_cst hB (fun hB => ?_)
      cases h
      exact z_weak k7 (z_se (z_se (z_se (z_se z_s0))))
    · have h := z_neg hc h
      have hB : z_all [z_is 320 21 (zf_cst 21 (jn 1) 22), z_is 320 22 (zf_goto 22 26)] = true := by decide +kernel
      refine z_cst hB (fun hB => ?_)
      refine z_goto hB (fun hB => ?_)
      cases h
      exact z_weak k7 (z_se (z_se (z_se (z_se z_s0))))
  · have h := z_pos hc h
    have hB : z_all [z_is 320 5 (zf_cst 5 (jn 0) 6), z_is 320 6 (zf_ret 0)] = true := by decide +kernel
    refine z_cst hB (fun hB => ?_)
    cases h
    exact z_reti hB
def d_M_doNotMix (x1 : Int32) (x2 : Int32) (x3 : Int32) (I : z_H) : Option (Int32 × z_H) := ((d_M_isFlag (x1) I).bind fun q1 => (Option.bind (α := Int32) (if q1 = jn 0 then some ((jn 0)) else ((d_M_isFlag (x2) I).bind fun q15 => (if q15 = jn 0 then some ((jn 0)) else some ((jn 1))))) fun q3 => ((d_M_isHeat (x3)).bind fun q6 => ((d_M_may ((I 241 6)) (q3) (q6) I).bind fun q8 => (Option.bind (α := Int32) (if q8.1 = jn 0 then some ((jn 0)) else ((d_M_mixes (x1) (x2) (x3) q8.2).bind fun q13 => some (q13))) fun q10 => some ((q10, q8.2)))))))
/-- FlagLaundryModel.doNotMix(III)I -/
theorem t_M_doNotMix {G : z_G} {w : ev_W} (ok : z_Ok G w) {x1 : Int32} {x2 : Int32} {x3 : Int32} {I : z_H} {r : Int32 × z_H} (h : d_M_doNotMix x1 x2 x3 I = some r) : z_K G 321 [.ref (241), .int (x1), .int (x2), .int (x3)] (z_w w I) (.inl (some (.int r.1))) (z_w w r.2) := by
  refine z_con ok.1 (ml := 4) (by decide +kernel) rfl rfl ?_
  show z_R G 321 0 [some (.ref (241)), some (.int (x1)), some (.int (x2)), some (.int (x3))] [] (z_w w I) (.inl (some (.int r.1))) (z_w w r.2)
  unfold d_M_doNotMix at h
  have hB : z_all [z_is 321 0 (zf_aload 0 0 1), z_is 321 1 (zf_aload 1 0 2), z_is 321 2 (zf_geti 2 8 6 5), z_is 321 5 (zf_aload 5 0 6), z_is 321 6 (zf_iload 6 1 7), z_is 321 7 (zf_cv 7 285 1 8 10), z_is 321 10 (zf_if1 .eq 10 25 13)] = true := by decide +kernel
  refine z_aload hB rfl (fun hB => ?_)
  refine z_aload hB rfl (fun hB => ?_)
  refine y_geti ok hB (by decide +kernel) (fun hB => ?_)
  refine z_aload hB rfl (fun hB => ?_)
  refine z_iload hB rfl (fun hB => ?_)
  obtain ⟨q1, e2, h⟩ := z_bind h
  refine y_cv ok hB (as := [.int (x1)]) (a := 241) (rest := [.int ((I 241 6)), .ref (241)]) rfl rfl rfl (by decide +kernel) (t_M_isFlag (I := I) ok e2) (fun hB => ?_)
  obtain ⟨q3, e4, h⟩ := z_bind h
  have k5 : z_R G 321 26 [some (.ref (241)), some (.int (x1)), some (.int (x2)), some (.int (x3))] [.int (q3), .int ((I 241 6)), .ref (241)] (z_w w I) (.inl (some (.int r.1))) (z_w w r.2) := by
    have hB : z_all [z_is 321 26 (zf_iload 26 3 27), z_is 321 27 (zf_cs 27 287 1 30), z_is 321 30 (zf_cv 30 206 3 8 33), z_is 321 33 (zf_if1 .eq 33 46 36)] = true := by decide +kernel
    refine z_iload hB rfl (fun hB => ?_)
    obtain ⟨q6, e7, h⟩ := z_bind h
    refine z_callS hB (as := [.int (x3)]) (rest := [.int (q3), .int ((I 241 6)), .ref (241)]) rfl rfl rfl (t_M_isHeat (I := I) ok e7) (fun hB => ?_)
    obtain ⟨q8, e9, h⟩ := z_bind h
    refine y_cv ok hB (as := [.int ((I 241 6)), .int (q3), .int (q6)]) (a := 241) (rest := []) rfl rfl rfl (by decide +kernel) (t_M_may (I := I) ok e9) (fun hB => ?_)
    obtain ⟨q10, e11, h⟩ := z_bind h
    have k12 : z_R G 321 47 [none, none, none, none] [.int (q10)] (z_w w q8.2) (.inl (some (.int r.1))) (z_w w r.2) := by
      have hB : z_all [z_is 321 47 (zf_ret 0)] = true := by decide +kernel
      cases h
      exact z_reti hB
    have h := e11
    refine z_if_eq hB (fun hc _ => ?_) (fun hc _ => ?_)
    · have h := z_pos hc h
      have hB : z_all [z_is 321 46 (zf_cst 46 (jn 0) 47)] = true := by decide +kernel
      refine z_cst hB (fun hB => ?_)
      cases h
      exact z_weak k12 (z_sn (z_sn (z_sn (z_sn z_s0))))
    · have h := z_neg hc h
      have hB : z_all [z_is 321 36 (zf_aload 36 0 37), z_is 321 37 (zf_iload 37 1 38), z_is 321 38 (zf_iload 38 2 39), z_is 321 39 (zf_iload 39 3 40), z_is 321 40 (zf_cv 40 320 3 8 43), z_is 321 43 (zf_goto 43 47)] = true := by decide +kernel
      refine z_aload hB rfl (fun hB => ?_)
      refine z_iload hB rfl (fun hB => ?_)
      refine z_iload hB rfl (fun hB => ?_)
      refine z_iload hB rfl (fun hB => ?_)
      obtain ⟨q13, e14, h⟩ := z_bind h
      refine y_cv ok hB (as := [.int (x1), .int (x2), .int (x3)]) (a := 241) (rest := []) rfl rfl rfl (by decide +kernel) (t_M_mixes (I := q8.2) ok e14) (fun hB => ?_)
      refine z_goto hB (fun hB => ?_)
      cases h
      exact z_weak k12 (z_sn (z_sn (z_sn (z_sn z_s0))))
  have h := e4
  refine z_if_eq hB (fun hc _ => ?_) (fun hc _ => ?_)
  · have h := z_pos hc h
    have hB : z_all [z_is 321 25 (zf_cst 25 (jn 0) 26)] = true := by decide +kernel
    refine z_cst hB (fun hB => ?_)
    cases h
    exact z_weak k5 (z_se (z_se (z_se (z_se z_s0))))
  · have h := z_neg hc h
    have hB : z_all [z_is 321 13 (zf_aload 13 0 14), z_is 321 14 (zf_iload 14 2 15), z_is 321 15 (zf_cv 15 285 1 8 18), z_is 321 18 (zf_if1 .eq 18 25 21)] = true := by decide +kernel
    refine z_aload hB rfl (fun hB => ?_)
    refine z_iload hB rfl (fun hB => ?_)
    obtain ⟨q15, e16, h⟩ := z_bind h
    refine y_cv ok hB (as := [.int (x2)]) (a := 241) (rest := [.int ((I 241 6)), .ref (241)]) rfl rfl rfl (by decide +kernel) (t_M_isFlag (I := I) ok e16) (fun hB => ?_)
    refine z_if_eq hB (fun hc _ => ?_) (fun hc _ => ?_)
    · have h := z_pos hc h
      have hB : z_all [z_is 321 25 (zf_cst 25 (jn 0) 26)] = true := by decide +kernel
      refine z_cst hB (fun hB => ?_)
      cases h
      exact z_weak k5 (z_se (z_se (z_se (z_se z_s0))))
    · have h := z_neg hc h
      have hB : z_all [z_is 321 21 (zf_cst 21 (jn 1) 22), z_is 321 22 (zf_goto 22 26)] = true := by decide +kernel
      refine z_cst hB (fun hB => ?_)
      refine z_goto hB (fun hB => ?_)
      cases h
      exact z_weak k5 (z_se (z_se (z_se (z_se z_s0))))
def d_M_canJoin_2 (x1 : Int32) (x2 : Int32) (x3 : Int32) (I : z_H) (p1 : Int32) : Option ((Int32) ⊕ (Int32)) := (if p1 < x1 then (if z_in (p1) 12 then (if (I 248 (z_n (p1))) = x2 then ((d_M_mixes (p1) (x1) (x3) I).bind fun q4 => (if q4 = jn 0 then some (Sum.inl ((p1 + (jn 1)))) else some (Sum.inr ((jn 0))))) else some (Sum.inl ((p1 + (jn 1))))) else none) else some (Sum.inr ((jn 1))))
def d_M_canJoin (x1 : Int32) (x2 : Int32) (x3 : Int32) (I : z_H) : Option (Int32) := (z_it (d_M_canJoin_2 x1 x2 x3 I) z_F ((jn 0)))
/-- FlagLaundryModel.canJoin(III)Z -/
theorem t_M_canJoin {G : z_G} {w : ev_W} (ok : z_Ok G w) {x1 : Int32} {x2 : Int32} {x3 : Int32} {I : z_H} {r : Int32} (h : d_M_canJoin x1 x2 x3 I = some r) : z_K G 322 [.ref (241), .int (x1), .int (x2), .int (x3)] (z_w w I) (.inl (some (.int r))) (z_w w I) := by
  refine z_con ok.1 (ml := 5) (by decide +kernel) rfl rfl ?_
  show z_R G 322 0 [some (.ref (241)), some (.int (x1)), some (.int (x2)), some (.int (x3)), none] [] (z_w w I) (.inl (some (.int r))) (z_w w I)
  unfold d_M_canJoin at h
  have hB : z_all [z_is 322 0 (zf_cst 0 (jn 0) 1), z_is 322 1 (zf_istore 1 4 3)] = true := by decide +kernel
  refine z_cst hB (fun hB => ?_)
  refine z_istore hB rfl rfl (fun hB => ?_)
  have l2 : ∀ (m2 : Nat) (p1 : Int32), z_it (d_M_canJoin_2 x1 x2 x3 I) m2 p1 = some r → z_R G 322 3 [some (.ref (241)), some (.int (x1)), some (.int (x2)), some (.int (x3)), some (.int (p1))] [] (z_w w I) (.inl (some (.int r))) (z_w w I) := by
    intro m2
    induction m2 with
    | zero => intro p1 h; cases h
    | succ m2 i2 =>
      intro p1 h
      obtain ⟨u2, h, b2⟩ := z_it_o h
      unfold d_M_canJoin_2 at h
      have hB : z_all [z_is 322 3 (zf_iload 3 4 5), z_is 322 5 (zf_iload 5 1 6), z_is 322 6 (zf_if2 .ge 6 39 9)] = true := by decide +kernel
      refine z_iload hB rfl (fun hB => ?_)
      refine z_iload hB rfl (fun hB => ?_)
      refine z_ic_ge hB (fun hc _ => ?_) (fun hc _ => ?_)
      · have h := z_neg hc h
        have hB : z_all [z_is 322 39 (zf_cst 39 (jn 1) 40), z_is 322 40 (zf_ret 1)] = true := by decide +kernel
        refine z_cst hB (fun hB => ?_)
        cases h
        cases b2
        exact z_retz hB (by decide)
      · have h := z_pos hc h
        have hB : z_all [z_is 322 9 (zf_aload 9 0 10), z_is 322 10 (zf_getr 10 8 17 13), z_is 322 13 (zf_iload 13 4 15), z_is 322 15 (zf_iald 15 16), z_is 322 16 (zf_iload 16 2 17), z_is 322 17 (zf_if2 .ne 17 33 20)] = true := by decide +kernel
        refine z_aload hB rfl (fun hB => ?_)
        refine y_getr (b := 248) ok hB (by decide +kernel) (by decide +kernel) (fun hB => ?_)
        refine z_iload hB rfl (fun hB => ?_)
        obtain ⟨g3, h⟩ := z_gd h
        refine y_iald ok hB (by decide +kernel) (by decide +kernel) g3 (fun hB => ?_)
        refine z_iload hB rfl (fun hB => ?_)
        refine z_ic_ne hB (fun hc _ => ?_) (fun hc _ => ?_)
        · have h := z_neg hc h
          have hB : z_all [z_is 322 33 (zf_iinc 33 4 (jn 1) 36), z_is 322 36 (zf_goto 36 3)] = true := by decide +kernel
          refine z_iinc hB rfl rfl (fun hB => ?_)
          refine z_goto hB (fun hB => ?_)
          cases h
          exact z_weak (i2 ((p1 + (jn 1))) b2) (z_se (z_se (z_se (z_se (z_se z_s0)))))
        · have h := z_pos hc h
          have hB : z_all [z_is 322 20 (zf_aload 20 0 21), z_is 322 21 (zf_iload 21 4 23), z_is 322 23 (zf_iload 23 1 24), z_is 322 24 (zf_iload 24 3 25), z_is 322 25 (zf_cv 25 320 3 8 28), z_is 322 28 (zf_if1 .eq 28 33 31)] = true := by decide +kernel
          refine z_aload hB rfl (fun hB => ?_)
          refine z_iload hB rfl (fun hB => ?_)
          refine z_iload hB rfl (fun hB => ?_)
          refine z_iload hB rfl (fun hB => ?_)
          obtain ⟨q4, e5, h⟩ := z_bind h
          refine y_cv ok hB (as := [.int (p1), .int (x1), .int (x3)]) (a := 241) (rest := []) rfl rfl rfl (by decide +kernel) (t_M_mixes (I := I) ok e5) (fun hB => ?_)
          refine z_if_eq hB (fun hc _ => ?_) (fun hc _ => ?_)
          · have h := z_pos hc h
            have hB : z_all [z_is 322 33 (zf_iinc 33 4 (jn 1) 36), z_is 322 36 (zf_goto 36 3)] = true := by decide +kernel
            refine z_iinc hB rfl rfl (fun hB => ?_)
            refine z_goto hB (fun hB => ?_)
            cases h
            exact z_weak (i2 ((p1 + (jn 1))) b2) (z_se (z_se (z_se (z_se (z_se z_s0)))))
          · have h := z_neg hc h
            have hB : z_all [z_is 322 31 (zf_cst 31 (jn 0) 32), z_is 322 32 (zf_ret 1)] = true := by decide +kernel
            refine z_cst hB (fun hB => ?_)
            cases h
            cases b2
            exact z_retz hB (by decide)
  exact z_weak (l2 _ ((jn 0)) h) (z_se (z_se (z_se (z_se (z_se z_s0)))))
def d_M_groups_22 (x1 : Int32) (p5 : Int32 × Int32 × z_H) (p21 : Int32) : Option ((Int32) ⊕ (Int32)) := (if p21 < p5.1 then ((d_M_canJoin (p5.2.1) (p21) (x1) (ev_u2 p5.2.2 248 (z_n (p5.2.1)) (jg 1))).bind fun q27 => (if q27 = jn 0 then some (Sum.inl ((p21 + (jn 1)))) else some (Sum.inr (p21)))) else some (Sum.inr (p21)))
def d_M_groups_6 (x1 : Int32) (p5 : Int32 × Int32 × z_H) : Option ((Int32 × Int32 × z_H) ⊕ (Int32 × Int32 × z_H)) := (if z_in ((jn 10)) 173 then (if p5.2.1 < (p5.2.2 242 (z_n ((jn 10)))) then (if z_in (p5.2.1) 12 then ((d_M_isInBasket (p5.2.1) (ev_u2 p5.2.2 248 (z_n (p5.2.1)) (jg 1))).bind fun q12 => (Option.bind (α := Int32 × z_H) (if q12 = jn 0 then some (p5.1, (ev_u2 p5.2.2 248 (z_n (p5.2.1)) (jg 1))) else ((d_M_ofFlag (p5.2.1) ((jn 3)) (ev_u2 p5.2.2 248 (z_n (p5.2.1)) (jg 1))).bind fun q17 => (if q17 = jn 0 then some (p5.1, (ev_u2 p5.2.2 248 (z_n (p5.2.1)) (jg 1))) else ((d_M_ofFlag (p5.2.1) ((jn 2)) (ev_u2 p5.2.2 248 (z_n (p5.2.1)) (jg 1))).bind fun q19 => (if q19 < x1 then some (p5.1, (ev_u2 p5.2.2 248 (z_n (p5.2.1)) (jg 1))) else ((z_it (d_M_groups_22 x1 p5) z_F ((jn 0))).bind fun q23 => (if z_in (p5.2.1) 12 then some ((z_mx (p5.1) ((q23 + (jn 1)))), (ev_u2 (ev_u2 p5.2.2 248 (z_n (p5.2.1)) (jg 1)) 248 (z_n (p5.2.1)) q23)) else none))))))) fun q14 => some (Sum.inl (q14.1, (p5.2.1 + (jn 1)), q14.2)))) else none) else some (Sum.inr (p5.1, p5.2.1, p5.2.2))) else none)
def d_M_groups (x1 : Int32) (I : z_H) : Option (Int32 × z_H) := ((d_M_isHeat (x1)).bind fun q1 => ((d_M_mayTwo ((I 241 6)) (q1) I).bind fun q3 => (if q3.1 = jn 0 then some (((jn 0), q3.2)) else ((z_it (d_M_groups_6 x1) z_F ((jn 0), (jn 0), q3.2)).bind fun q7 => some ((q7.1, q7.2.2))))))
/-- FlagLaundryModel.groups(I)I -/
theorem t_M_groups {G : z_G} {w : ev_W} (ok : z_Ok G w) {x1 : Int32} {I : z_H} {r : Int32 × z_H} (h : d_M_groups x1 I = some r) : z_K G 323 [.ref (241), .int (x1)] (z_w w I) (.inl (some (.int r.1))) (z_w w r.2) := by
  refine z_con ok.1 (ml := 5) (by decide +kernel) rfl rfl ?_
  show z_R G 323 0 [some (.ref (241)), some (.int (x1)), none, none, none] [] (z_w w I) (.inl (some (.int r.1))) (z_w w r.2)
  unfold d_M_groups at h
  have hB : z_all [z_is 323 0 (zf_aload 0 0 1), z_is 323 1 (zf_aload 1 0 2), z_is 323 2 (zf_geti 2 8 6 5), z_is 323 5 (zf_iload 5 1 6), z_is 323 6 (zf_cs 6 287 1 9), z_is 323 9 (zf_cv 9 207 2 8 12), z_is 323 12 (zf_if1 .ne 12 17 15)] = true := by decide +kernel
  refine z_aload hB rfl (fun hB => ?_)
  refine z_aload hB rfl (fun hB => ?_)
  refine y_geti ok hB (by decide +kernel) (fun hB => ?_)
  refine z_iload hB rfl (fun hB => ?_)
  obtain ⟨q1, e2, h⟩ := z_bind h
  refine z_callS hB (as := [.int (x1)]) (rest := [.int ((I 241 6)), .ref (241)]) rfl rfl rfl (t_M_isHeat (I := I) ok e2) (fun hB => ?_)
  obtain ⟨q3, e4, h⟩ := z_bind h
  refine y_cv ok hB (as := [.int ((I 241 6)), .int (q1)]) (a := 241) (rest := []) rfl rfl rfl (by decide +kernel) (t_M_mayTwo (I := I) ok e4) (fun hB => ?_)
  refine z_if_ne hB (fun hc _ => ?_) (fun hc _ => ?_)
  · have h := z_neg hc h
    have hB : z_all [z_is 323 17 (zf_cst 17 (jn 0) 18), z_is 323 18 (zf_istore 18 2 19), z_is 323 19 (zf_cst 19 (jn 0) 20), z_is 323 20 (zf_istore 20 3 21)] = true := by decide +kernel
    refine z_cst hB (fun hB => ?_)
    refine z_istore hB rfl rfl (fun hB => ?_)
    refine z_cst hB (fun hB => ?_)
    refine z_istore hB rfl rfl (fun hB => ?_)
    obtain ⟨q7, e8, h⟩ := z_bind h
    have k9 : z_R G 323 118 [none, none, some (.int (q7.1)), none, none] [] (z_w w q7.2.2) (.inl (some (.int r.1))) (z_w w r.2) := by
      have hB : z_all [z_is 323 118 (zf_iload 118 2 119), z_is 323 119 (zf_ret 0)] = true := by decide +kernel
      refine z_iload hB rfl (fun hB => ?_)
      cases h
      exact z_reti hB
    have l6 : ∀ (m6 : Nat) (p5 : Int32 × Int32 × z_H), z_it (d_M_groups_6 x1) m6 p5 = some q7 → z_R G 323 21 [some (.ref (241)), some (.int (x1)), some (.int (p5.1)), some (.int (p5.2.1)), none] [] (z_w w p5.2.2) (.inl (some (.int r.1))) (z_w w r.2) := by
      intro m6
      induction m6 with
      | zero => intro p5 h; cases h
      | succ m6 i6 =>
        intro p5 h
        obtain ⟨u6, h, b6⟩ := z_it_o h
        unfold d_M_groups_6 at h
        have hB : z_all [z_is 323 21 (zf_iload 21 3 22), z_is 323 22 (zf_aload 22 0 23), z_is 323 23 (zf_getr 23 8 1 26), z_is 323 26 (zf_cst 26 (jn 10) 28), z_is 323 28 (zf_iald 28 29), z_is 323 29 (zf_if2 .ge 29 118 32)] = true := by decide +kernel
        refine z_iload hB rfl (fun hB => ?_)
        refine z_aload hB rfl (fun hB => ?_)
        refine y_getr (b := 242) ok hB (by decide +kernel) (by decide +kernel) (fun hB => ?_)
        refine z_cst hB (fun hB => ?_)
        obtain ⟨g10, h⟩ := z_gd h
        refine y_iald ok hB (by decide +kernel) (by decide +kernel) g10 (fun hB => ?_)
        refine z_ic_ge hB (fun hc _ => ?_) (fun hc _ => ?_)
        · have h := z_neg hc h
          cases h
          cases b6
          exact z_weak k9 (z_sn (z_sn (z_se (z_sn (z_sn z_s0)))))
        · have h := z_pos hc h
          have hB : z_all [z_is 323 32 (zf_aload 32 0 33), z_is 323 33 (zf_getr 33 8 17 36), z_is 323 36 (zf_iload 36 3 37), z_is 323 37 (zf_cst 37 (jg 1) 38), z_is 323 38 (zf_iast 38 39), z_is 323 39 (zf_aload 39 0 40), z_is 323 40 (zf_iload 40 3 41), z_is 323 41 (zf_cv 41 245 1 8 44), z_is 323 44 (zf_if1 .eq 44 112 47)] = true := by decide +kernel
          refine z_aload hB rfl (fun hB => ?_)
          refine y_getr (b := 248) ok hB (by decide +kernel) (by decide +kernel) (fun hB => ?_)
          refine z_iload hB rfl (fun hB => ?_)
          refine z_cst hB (fun hB => ?_)
          obtain ⟨g11, h⟩ := z_gd h
          refine y_iast ok hB (by decide +kernel) (by decide +kernel) g11 (fun hB => ?_)
          refine z_aload hB rfl (fun hB => ?_)
          refine z_iload hB rfl (fun hB => ?_)
          obtain ⟨q12, e13, h⟩ := z_bind h
          refine y_cv ok hB (as := [.int (p5.2.1)]) (a := 241) (rest := []) rfl rfl rfl (by decide +kernel) (t_M_isInBasket (I := (ev_u2 p5.2.2 248 (z_n (p5.2.1)) (jg 1))) ok e13) (fun hB => ?_)
          obtain ⟨q14, e15, h⟩ := z_bind h
          have k16 : z_R G 323 112 [some (.ref (241)), some (.int (x1)), some (.int (q14.1)), some (.int (p5.2.1)), none] [] (z_w w q14.2) (.inl (some (.int r.1))) (z_w w r.2) := by
            have hB : z_all [z_is 323 112 (zf_iinc 112 3 (jn 1) 115), z_is 323 115 (zf_goto 115 21)] = true := by decide +kernel
            refine z_iinc hB rfl rfl (fun hB => ?_)
            refine z_goto hB (fun hB => ?_)
            cases h
            exact z_weak (i6 (q14.1, (p5.2.1 + (jn 1)), q14.2) b6) (z_se (z_se (z_se (z_se (z_sn z_s0)))))
          have h := e15
          refine z_if_eq hB (fun hc _ => ?_) (fun hc _ => ?_)
          · have h := z_pos hc h
            cases h
            exact z_weak k16 (z_se (z_se (z_se (z_se (z_sn z_s0)))))
          · have h := z_neg hc h
            have hB : z_all [z_is 323 47 (zf_aload 47 0 48), z_is 323 48 (zf_iload 48 3 49), z_is 323 49 (zf_cst 49 (jn 3) 50), z_is 323 50 (zf_cv 50 242 2 8 53), z_is 323 53 (zf_if1 .eq 53 112 56)] = true := by decide +kernel
            refine z_aload hB rfl (fun hB => ?_)
            refine z_iload hB rfl (fun hB => ?_)
            refine z_cst hB (fun hB => ?_)
            obtain ⟨q17, e18, h⟩ := z_bind h
            refine y_cv ok hB (as := [.int (p5.2.1), .int ((jn 3))]) (a := 241) (rest := []) rfl rfl rfl (by decide +kernel) (t_M_ofFlag (I := (ev_u2 p5.2.2 248 (z_n (p5.2.1)) (jg 1))) ok e18) (fun hB => ?_)
            refine z_if_eq hB (fun hc _ => ?_) (fun hc _ => ?_)
            · have h := z_pos hc h
              cases h
              exact z_weak k16 (z_se (z_se (z_se (z_se (z_sn z_s0)))))
            · have h := z_neg hc h
              have hB : z_all [z_is 323 56 (zf_aload 56 0 57), z_is 323 57 (zf_iload 57 3 58), z_is 323 58 (zf_cst 58 (jn 2) 59), z_is 323 59 (zf_cv 59 242 2 8 62), z_is 323 62 (zf_iload 62 1 63), z_is 323 63 (zf_if2 .ge 63 69 66)] = true := by decide +kernel
              refine z_aload hB rfl (fun hB => ?_)
              refine z_iload hB rfl (fun hB => ?_)
              refine z_cst hB (fun hB => ?_)
              obtain ⟨q19, e20, h⟩ := z_bind h
              refine y_cv ok hB (as := [.int (p5.2.1), .int ((jn 2))]) (a := 241) (rest := []) rfl rfl rfl (by decide +kernel) (t_M_ofFlag (I := (ev_u2 p5.2.2 248 (z_n (p5.2.1)) (jg 1))) ok e20) (fun hB => ?_)
              refine z_iload hB rfl (fun hB => ?_)
              refine z_ic_ge hB (fun hc _ => ?_) (fun hc _ => ?_)
              · have h := z_neg hc h
                have hB : z_all [z_is 323 69 (zf_cst 69 (jn 0) 70), z_is 323 70 (zf_istore 70 4 72)] = true := by decide +kernel
                refine z_cst hB (fun hB => ?_)
                refine z_istore hB rfl rfl (fun hB => ?_)
                obtain ⟨q23, e24, h⟩ := z_bind h
                have k25 : z_R G 323 95 [some (.ref (241)), some (.int (x1)), some (.int (p5.1)), some (.int (p5.2.1)), some (.int (q23))] [] (z_w w (ev_u2 p5.2.2 248 (z_n (p5.2.1)) (jg 1))) (.inl (some (.int r.1))) (z_w w r.2) := by
                  have hB : z_all [z_is 323 95 (zf_aload 95 0 96), z_is 323 96 (zf_getr 96 8 17 99), z_is 323 99 (zf_iload 99 3 100), z_is 323 100 (zf_iload 100 4 102), z_is 323 102 (zf_iast 102 103), z_is 323 103 (zf_iload 103 2 104), z_is 323 104 (zf_iload 104 4 106), z_is 323 106 (zf_cst 106 (jn 1) 107), z_is 323 107 (zf_iadd 107 108), z_is 323 108 (zf_nat 108 100 111), z_is 323 111 (zf_istore 111 2 112)] = true := by decide +kernel
                  refine z_aload hB rfl (fun hB => ?_)
                  refine y_getr (b := 248) ok hB (by decide +kernel) (by decide +kernel) (fun hB => ?_)
                  refine z_iload hB rfl (fun hB => ?_)
                  refine z_iload hB rfl (fun hB => ?_)
                  obtain ⟨g26, h⟩ := z_gd h
                  refine y_iast ok hB (by decide +kernel) (by decide +kernel) g26 (fun hB => ?_)
                  refine z_iload hB rfl (fun hB => ?_)
                  refine z_iload hB rfl (fun hB => ?_)
                  refine z_cst hB (fun hB => ?_)
                  refine z_iadd hB (fun hB => ?_)
                  refine z_max hB rfl (fun hB => ?_)
                  refine z_istore hB rfl rfl (fun hB => ?_)
                  cases h
                  exact z_weak k16 (z_se (z_se (z_se (z_se (z_sn z_s0)))))
                have l22 : ∀ (m22 : Nat) (p21 : Int32), z_it (d_M_groups_22 x1 p5) m22 p21 = some q23 → z_R G 323 72 [some (.ref (241)), some (.int (x1)), some (.int (p5.1)), some (.int (p5.2.1)), some (.int (p21))] [] (z_w w (ev_u2 p5.2.2 248 (z_n (p5.2.1)) (jg 1))) (.inl (some (.int r.1))) (z_w w r.2) := by
                  intro m22
                  induction m22 with
                  | zero => intro p21 h; cases h
                  | succ m22 i22 =>
                    intro p21 h
                    obtain ⟨u22, h, b22⟩ := z_it_o h
                    unfold d_M_groups_22 at h
                    have hB : z_all [z_is 323 72 (zf_iload 72 4 74), z_is 323 74 (zf_iload 74 2 75), z_is 323 75 (zf_if2 .ge 75 95 78)] = true := by decide +kernel
                    refine z_iload hB rfl (fun hB => ?_)
                    refine z_iload hB rfl (fun hB => ?_)
                    refine z_ic_ge hB (fun hc _ => ?_) (fun hc _ => ?_)
                    · have h := z_neg hc h
                      cases h
                      cases b22
                      exact z_weak k25 (z_se (z_se (z_se (z_se (z_se z_s0)))))
                    · have h := z_pos hc h
                      have hB : z_all [z_is 323 78 (zf_aload 78 0 79), z_is 323 79 (zf_iload 79 3 80), z_is 323 80 (zf_iload 80 4 82), z_is 323 82 (zf_iload 82 1 83), z_is 323 83 (zf_cv 83 322 3 8 86), z_is 323 86 (zf_if1 .ne 86 95 89)] = true := by decide +kernel
                      refine z_aload hB rfl (fun hB => ?_)
                      refine z_iload hB rfl (fun hB => ?_)
                      refine z_iload hB rfl (fun hB => ?_)
                      refine z_iload hB rfl (fun hB => ?_)
                      obtain ⟨q27, e28, h⟩ := z_bind h
                      refine y_cv ok hB (as := [.int (p5.2.1), .int (p21), .int (x1)]) (a := 241) (rest := []) rfl rfl rfl (by decide +kernel) (t_M_canJoin (I := (ev_u2 p5.2.2 248 (z_n (p5.2.1)) (jg 1))) ok e28) (fun hB => ?_)
                      refine z_if_ne hB (fun hc _ => ?_) (fun hc _ => ?_)
                      · have h := z_neg hc h
                        cases h
                        cases b22
                        exact z_weak k25 (z_se (z_se (z_se (z_se (z_se z_s0)))))
                      · have h := z_pos hc h
                        have hB : z_all [z_is 323 89 (zf_iinc 89 4 (jn 1) 92), z_is 323 92 (zf_goto 92 72)] = true := by decide +kernel
                        refine z_iinc hB rfl rfl (fun hB => ?_)
                        refine z_goto hB (fun hB => ?_)
                        cases h
                        exact z_weak (i22 ((p21 + (jn 1))) b22) (z_se (z_se (z_se (z_se (z_se z_s0)))))
                exact z_weak (l22 _ ((jn 0)) e24) (z_se (z_se (z_se (z_se (z_se z_s0)))))
              · have h := z_pos hc h
                have hB : z_all [z_is 323 66 (zf_goto 66 112)] = true := by decide +kernel
                refine z_goto hB (fun hB => ?_)
                cases h
                exact z_weak k16 (z_se (z_se (z_se (z_se (z_sn z_s0)))))
    exact z_weak (l6 _ ((jn 0), (jn 0), q3.2) e8) (z_se (z_se (z_se (z_se (z_sn z_s0)))))
  · have h := z_pos hc h
    have hB : z_all [z_is 323 15 (zf_cst 15 (jn 0) 16), z_is 323 16 (zf_ret 0)] = true := by decide +kernel
    refine z_cst hB (fun hB => ?_)
    cases h
    exact z_reti hB
def d_M_mixedWith_2 (x1 : Int32) (x2 : Int32) (I : z_H) (p1 : Int32 × Int32) : Option ((Int32 × Int32) ⊕ (Int32 × Int32)) := (if z_in ((jn 10)) 173 then (if p1.2 < (I 242 (z_n ((jn 10)))) then ((d_M_isInBasket (p1.2) I).bind fun q7 => (Option.bind (α := Int32) (if q7 = jn 0 then some ((jn 0)) else ((d_M_mixes (x1) (p1.2) (x2) I).bind fun q14 => (if q14 = jn 0 then some ((jn 0)) else some ((jn 1))))) fun q9 => ((d_M_one (q9)).bind fun q12 => some (Sum.inl ((p1.1 + q12), (p1.2 + (jn 1))))))) else some (Sum.inr (p1.1, p1.2))) else none)
def d_M_mixedWith (x1 : Int32) (x2 : Int32) (I : z_H) : Option (Int32) := ((z_it (d_M_mixedWith_2 x1 x2 I) z_F ((jn 0), (jn 0))).bind fun q3 => some (q3.1))
/-- FlagLaundryModel.mixedWith(II)I -/
theorem t_M_mixedWith {G : z_G} {w : ev_W} (ok : z_Ok G w) {x1 : Int32} {x2 : Int32} {I : z_H} {r : Int32} (h : d_M_mixedWith x1 x2 I = some r) : z_K G 324 [.ref (241), .int (x1), .int (x2)] (z_w w I) (.inl (some (.int r))) (z_w w I) := by
  refine z_con ok.1 (ml := 5) (by decide +kernel) rfl rfl ?_
  show z_R G 324 0 [some (.ref (241)), some (.int (x1)), some (.int (x2)), none, none] [] (z_w w I) (.inl (some (.int r))) (z_w w I)
  unfold d_M_mixedWith at h
  have hB : z_all [z_is 324 0 (zf_cst 0 (jn 0) 1), z_is 324 1 (zf_istore 1 3 2), z_is 324 2 (zf_cst 2 (jn 0) 3), z_is 324 3 (zf_istore 3 4 5)] = true := by decide +kernel
  refine z_cst hB (fun hB => ?_)
  refine z_istore hB rfl rfl (fun hB => ?_)
  refine z_cst hB (fun hB => ?_)
  refine z_istore hB rfl rfl (fun hB => ?_)
  obtain ⟨q3, e4, h⟩ := z_bind h
  have k5 : z_R G 324 54 [none, none, none, some (.int (q3.1)), none] [] (z_w w I) (.inl (some (.int r))) (z_w w I) := by
    have hB : z_all [z_is 324 54 (zf_iload 54 3 55), z_is 324 55 (zf_ret 0)] = true := by decide +kernel
    refine z_iload hB rfl (fun hB => ?_)
    cases h
    exact z_reti hB
  have l2 : ∀ (m2 : Nat) (p1 : Int32 × Int32), z_it (d_M_mixedWith_2 x1 x2 I) m2 p1 = some q3 → z_R G 324 5 [some (.ref (241)), some (.int (x1)), some (.int (x2)), some (.int (p1.1)), some (.int (p1.2))] [] (z_w w I) (.inl (some (.int r))) (z_w w I) := by
    intro m2
    induction m2 with
    | zero => intro p1 h; cases h
    | succ m2 i2 =>
      intro p1 h
      obtain ⟨u2, h, b2⟩ := z_it_o h
      unfold d_M_mixedWith_2 at h
      have hB : z_all [z_is 324 5 (zf_iload 5 4 7), z_is 324 7 (zf_aload 7 0 8), z_is 324 8 (zf_getr 8 8 1 11), z_is 324 11 (zf_cst 11 (jn 10) 13), z_is 324 13 (zf_iald 13 14), z_is 324 14 (zf_if2 .ge 14 54 17)] = true := by decide +kernel
      refine z_iload hB rfl (fun hB => ?_)
      refine z_aload hB rfl (fun hB => ?_)
      refine y_getr (b := 242) ok hB (by decide +kernel) (by decide +kernel) (fun hB => ?_)
      refine z_cst hB (fun hB => ?_)
      obtain ⟨g6, h⟩ := z_gd h
      refine y_iald ok hB (by decide +kernel) (by decide +kernel) g6 (fun hB => ?_)
      refine z_ic_ge hB (fun hc _ => ?_) (fun hc _ => ?_)
      · have h := z_neg hc h
        cases h
        cases b2
        exact z_weak k5 (z_sn (z_sn (z_sn (z_se (z_sn z_s0)))))
      · have h := z_pos hc h
        have hB : z_all [z_is 324 17 (zf_iload 17 3 18), z_is 324 18 (zf_aload 18 0 19), z_is 324 19 (zf_iload 19 4 21), z_is 324 21 (zf_cv 21 245 1 8 24), z_is 324 24 (zf_if1 .eq 24 42 27)] = true := by decide +kernel
        refine z_iload hB rfl (fun hB => ?_)
        refine z_aload hB rfl (fun hB => ?_)
        refine z_iload hB rfl (fun hB => ?_)
        obtain ⟨q7, e8, h⟩ := z_bind h
        refine y_cv ok hB (as := [.int (p1.2)]) (a := 241) (rest := [.int (p1.1)]) rfl rfl rfl (by decide +kernel) (t_M_isInBasket (I := I) ok e8) (fun hB => ?_)
        obtain ⟨q9, e10, h⟩ := z_bind h
        have k11 : z_R G 324 43 [some (.ref (241)), some (.int (x1)), some (.int (x2)), none, some (.int (p1.2))] [.int (q9), .int (p1.1)] (z_w w I) (.inl (some (.int r))) (z_w w I) := by
          have hB : z_all [z_is 324 43 (zf_cs 43 204 1 46), z_is 324 46 (zf_iadd 46 47), z_is 324 47 (zf_istore 47 3 48), z_is 324 48 (zf_iinc 48 4 (jn 1) 51), z_is 324 51 (zf_goto 51 5)] = true := by decide +kernel
          obtain ⟨q12, e13, h⟩ := z_bind h
          refine z_callS hB (as := [.int (q9)]) (rest := [.int (p1.1)]) rfl rfl rfl (t_M_one (I := I) ok e13) (fun hB => ?_)
          refine z_iadd hB (fun hB => ?_)
          refine z_istore hB rfl rfl (fun hB => ?_)
          refine z_iinc hB rfl rfl (fun hB => ?_)
          refine z_goto hB (fun hB => ?_)
          cases h
          exact z_weak (i2 ((p1.1 + q12), (p1.2 + (jn 1))) b2) (z_se (z_se (z_se (z_se (z_se z_s0)))))
        have h := e10
        refine z_if_eq hB (fun hc _ => ?_) (fun hc _ => ?_)
        · have h := z_pos hc h
          have hB : z_all [z_is 324 42 (zf_cst 42 (jn 0) 43)] = true := by decide +kernel
          refine z_cst hB (fun hB => ?_)
          cases h
          exact z_weak k11 (z_se (z_se (z_se (z_sn (z_se z_s0)))))
        · have h := z_neg hc h
          have hB : z_all [z_is 324 27 (zf_aload 27 0 28), z_is 324 28 (zf_iload 28 1 29), z_is 324 29 (zf_iload 29 4 31), z_is 324 31 (zf_iload 31 2 32), z_is 324 32 (zf_cv 32 320 3 8 35), z_is 324 35 (zf_if1 .eq 35 42 38)] = true := by decide +kernel
          refine z_aload hB rfl (fun hB => ?_)
          refine z_iload hB rfl (fun hB => ?_)
          refine z_iload hB rfl (fun hB => ?_)
          refine z_iload hB rfl (fun hB => ?_)
          obtain ⟨q14, e15, h⟩ := z_bind h
          refine y_cv ok hB (as := [.int (x1), .int (p1.2), .int (x2)]) (a := 241) (rest := [.int (p1.1)]) rfl rfl rfl (by decide +kernel) (t_M_mixes (I := I) ok e15) (fun hB => ?_)
          refine z_if_eq hB (fun hc _ => ?_) (fun hc _ => ?_)
          · have h := z_pos hc h
            have hB : z_all [z_is 324 42 (zf_cst 42 (jn 0) 43)] = true := by decide +kernel
            refine z_cst hB (fun hB => ?_)
            cases h
            exact z_weak k11 (z_se (z_se (z_se (z_sn (z_se z_s0)))))
          · have h := z_neg hc h
            have hB : z_all [z_is 324 38 (zf_cst 38 (jn 1) 39), z_is 324 39 (zf_goto 39 43)] = true := by decide +kernel
            refine z_cst hB (fun hB => ?_)
            refine z_goto hB (fun hB => ?_)
            cases h
            exact z_weak k11 (z_se (z_se (z_se (z_sn (z_se z_s0)))))
  exact z_weak (l2 _ ((jn 0), (jn 0)) e4) (z_se (z_se (z_se (z_se (z_se z_s0)))))
def d_M_purest_6 (x1 : Int32) (q3 : Int32 × z_H) (p5 : Int32 × Int32) : Option ((Int32 × Int32) ⊕ (Int32 × Int32)) := (if z_in ((jn 10)) 173 then (if p5.2 < (q3.2 242 (z_n ((jn 10)))) then ((d_M_isInBasket (p5.2) q3.2).bind fun q11 => (Option.bind (α := Int32) (if q11 = jn 0 then some (p5.1) else (if p5.1 = (jg 1) then some (p5.2) else ((d_M_mixedWith (p5.2) (x1) q3.2).bind fun q16 => ((d_M_mixedWith (p5.1) (x1) q3.2).bind fun q18 => (if q16 < q18 then some (p5.2) else some (p5.1)))))) fun q13 => some (Sum.inl (q13, (p5.2 + (jn 1)))))) else some (Sum.inr (p5.1, p5.2))) else none)
def d_M_purest (x1 : Int32) (I : z_H) : Option (Int32 × z_H) := ((d_M_isHeat (x1)).bind fun q1 => ((d_M_mayTwo ((I 241 6)) (q1) I).bind fun q3 => (if q3.1 = jn 0 then some (((jn 0), q3.2)) else ((z_it (d_M_purest_6 x1 q3) z_F ((jg 1), (jn 0))).bind fun q7 => some ((q7.1, q3.2))))))
/-- FlagLaundryModel.purest(I)I -/
theorem t_M_purest {G : z_G} {w : ev_W} (ok : z_Ok G w) {x1 : Int32} {I : z_H} {r : Int32 × z_H} (h : d_M_purest x1 I = some r) : z_K G 325 [.ref (241), .int (x1)] (z_w w I) (.inl (some (.int r.1))) (z_w w r.2) := by
  refine z_con ok.1 (ml := 4) (by decide +kernel) rfl rfl ?_
  show z_R G 325 0 [some (.ref (241)), some (.int (x1)), none, none] [] (z_w w I) (.inl (some (.int r.1))) (z_w w r.2)
  unfold d_M_purest at h
  have hB : z_all [z_is 325 0 (zf_aload 0 0 1), z_is 325 1 (zf_aload 1 0 2), z_is 325 2 (zf_geti 2 8 6 5), z_is 325 5 (zf_iload 5 1 6), z_is 325 6 (zf_cs 6 287 1 9), z_is 325 9 (zf_cv 9 207 2 8 12), z_is 325 12 (zf_if1 .ne 12 17 15)] = true := by decide +kernel
  refine z_aload hB rfl (fun hB => ?_)
  refine z_aload hB rfl (fun hB => ?_)
  refine y_geti ok hB (by decide +kernel) (fun hB => ?_)
  refine z_iload hB rfl (fun hB => ?_)
  obtain ⟨q1, e2, h⟩ := z_bind h
  refine z_callS hB (as := [.int (x1)]) (rest := [.int ((I 241 6)), .ref (241)]) rfl rfl rfl (t_M_isHeat (I := I) ok e2) (fun hB => ?_)
  obtain ⟨q3, e4, h⟩ := z_bind h
  refine y_cv ok hB (as := [.int ((I 241 6)), .int (q1)]) (a := 241) (rest := []) rfl rfl rfl (by decide +kernel) (t_M_mayTwo (I := I) ok e4) (fun hB => ?_)
  refine z_if_ne hB (fun hc _ => ?_) (fun hc _ => ?_)
  · have h := z_neg hc h
    have hB : z_all [z_is 325 17 (zf_cst 17 (jg 1) 18), z_is 325 18 (zf_istore 18 2 19), z_is 325 19 (zf_cst 19 (jn 0) 20), z_is 325 20 (zf_istore 20 3 21)] = true := by decide +kernel
    refine z_cst hB (fun hB => ?_)
    refine z_istore hB rfl rfl (fun hB => ?_)
    refine z_cst hB (fun hB => ?_)
    refine z_istore hB rfl rfl (fun hB => ?_)
    obtain ⟨q7, e8, h⟩ := z_bind h
    have k9 : z_R G 325 68 [none, none, some (.int (q7.1)), none] [] (z_w w q3.2) (.inl (some (.int r.1))) (z_w w r.2) := by
      have hB : z_all [z_is 325 68 (zf_iload 68 2 69), z_is 325 69 (zf_ret 0)] = true := by decide +kernel
      refine z_iload hB rfl (fun hB => ?_)
      cases h
      exact z_reti hB
    have l6 : ∀ (m6 : Nat) (p5 : Int32 × Int32), z_it (d_M_purest_6 x1 q3) m6 p5 = some q7 → z_R G 325 21 [some (.ref (241)), some (.int (x1)), some (.int (p5.1)), some (.int (p5.2))] [] (z_w w q3.2) (.inl (some (.int r.1))) (z_w w r.2) := by
      intro m6
      induction m6 with
      | zero => intro p5 h; cases h
      | succ m6 i6 =>
        intro p5 h
        obtain ⟨u6, h, b6⟩ := z_it_o h
        unfold d_M_purest_6 at h
        have hB : z_all [z_is 325 21 (zf_iload 21 3 22), z_is 325 22 (zf_aload 22 0 23), z_is 325 23 (zf_getr 23 8 1 26), z_is 325 26 (zf_cst 26 (jn 10) 28), z_is 325 28 (zf_iald 28 29), z_is 325 29 (zf_if2 .ge 29 68 32)] = true := by decide +kernel
        refine z_iload hB rfl (fun hB => ?_)
        refine z_aload hB rfl (fun hB => ?_)
        refine y_getr (b := 242) ok hB (by decide +kernel) (by decide +kernel) (fun hB => ?_)
        refine z_cst hB (fun hB => ?_)
        obtain ⟨g10, h⟩ := z_gd h
        refine y_iald ok hB (by decide +kernel) (by decide +kernel) g10 (fun hB => ?_)
        refine z_ic_ge hB (fun hc _ => ?_) (fun hc _ => ?_)
        · have h := z_neg hc h
          cases h
          cases b6
          exact z_weak k9 (z_sn (z_sn (z_se (z_sn z_s0))))
        · have h := z_pos hc h
          have hB : z_all [z_is 325 32 (zf_aload 32 0 33), z_is 325 33 (zf_iload 33 3 34), z_is 325 34 (zf_cv 34 245 1 8 37), z_is 325 37 (zf_if1 .eq 37 62 40)] = true := by decide +kernel
          refine z_aload hB rfl (fun hB => ?_)
          refine z_iload hB rfl (fun hB => ?_)
          obtain ⟨q11, e12, h⟩ := z_bind h
          refine y_cv ok hB (as := [.int (p5.2)]) (a := 241) (rest := []) rfl rfl rfl (by decide +kernel) (t_M_isInBasket (I := q3.2) ok e12) (fun hB => ?_)
          obtain ⟨q13, e14, h⟩ := z_bind h
          have k15 : z_R G 325 62 [some (.ref (241)), some (.int (x1)), some (.int (q13)), some (.int (p5.2))] [] (z_w w q3.2) (.inl (some (.int r.1))) (z_w w r.2) := by
            have hB : z_all [z_is 325 62 (zf_iinc 62 3 (jn 1) 65), z_is 325 65 (zf_goto 65 21)] = true := by decide +kernel
            refine z_iinc hB rfl rfl (fun hB => ?_)
            refine z_goto hB (fun hB => ?_)
            cases h
            exact z_weak (i6 (q13, (p5.2 + (jn 1))) b6) (z_se (z_se (z_se (z_se z_s0))))
          have h := e14
          refine z_if_eq hB (fun hc _ => ?_) (fun hc _ => ?_)
          · have h := z_pos hc h
            cases h
            exact z_weak k15 (z_se (z_se (z_se (z_se z_s0))))
          · have h := z_neg hc h
            have hB : z_all [z_is 325 40 (zf_iload 40 2 41), z_is 325 41 (zf_cst 41 (jg 1) 42), z_is 325 42 (zf_if2 .eq 42 60 45)] = true := by decide +kernel
            refine z_iload hB rfl (fun hB => ?_)
            refine z_cst hB (fun hB => ?_)
            refine z_ic_eq hB (fun hc _ => ?_) (fun hc _ => ?_)
            · have h := z_pos hc h
              have hB : z_all [z_is 325 60 (zf_iload 60 3 61), z_is 325 61 (zf_istore 61 2 62)] = true := by decide +kernel
              refine z_iload hB rfl (fun hB => ?_)
              refine z_istore hB rfl rfl (fun hB => ?_)
              cases h
              exact z_weak k15 (z_se (z_se (z_se (z_se z_s0))))
            · have h := z_neg hc h
              have hB : z_all [z_is 325 45 (zf_aload 45 0 46), z_is 325 46 (zf_iload 46 3 47), z_is 325 47 (zf_iload 47 1 48), z_is 325 48 (zf_cv 48 324 2 8 51), z_is 325 51 (zf_aload 51 0 52), z_is 325 52 (zf_iload 52 2 53), z_is 325 53 (zf_iload 53 1 54), z_is 325 54 (zf_cv 54 324 2 8 57), z_is 325 57 (zf_if2 .ge 57 62 60)] = true := by decide +kernel
              refine z_aload hB rfl (fun hB => ?_)
              refine z_iload hB rfl (fun hB => ?_)
              refine z_iload hB rfl (fun hB => ?_)
              obtain ⟨q16, e17, h⟩ := z_bind h
              refine y_cv ok hB (as := [.int (p5.2), .int (x1)]) (a := 241) (rest := []) rfl rfl rfl (by decide +kernel) (t_M_mixedWith (I := q3.2) ok e17) (fun hB => ?_)
              refine z_aload hB rfl (fun hB => ?_)
              refine z_iload hB rfl (fun hB => ?_)
              refine z_iload hB rfl (fun hB => ?_)
              obtain ⟨q18, e19, h⟩ := z_bind h
              refine y_cv ok hB (as := [.int (p5.1), .int (x1)]) (a := 241) (rest := [.int (q16)]) rfl rfl rfl (by decide +kernel) (t_M_mixedWith (I := q3.2) ok e19) (fun hB => ?_)
              refine z_ic_ge hB (fun hc _ => ?_) (fun hc _ => ?_)
              · have h := z_neg hc h
                cases h
                exact z_weak k15 (z_se (z_se (z_se (z_se z_s0))))
              · have h := z_pos hc h
                have hB : z_all [z_is 325 60 (zf_iload 60 3 61), z_is 325 61 (zf_istore 61 2 62)] = true := by decide +kernel
                refine z_iload hB rfl (fun hB => ?_)
                refine z_istore hB rfl rfl (fun hB => ?_)
                cases h
                exact z_weak k15 (z_se (z_se (z_se (z_se z_s0))))
    exact z_weak (l6 _ ((jg 1), (jn 0)) e8) (z_se (z_se (z_se (z_se z_s0))))
  · have h := z_pos hc h
    have hB : z_all [z_is 325 15 (zf_cst 15 (jn 0) 16), z_is 325 16 (zf_ret 0)] = true := by decide +kernel
    refine z_cst hB (fun hB => ?_)
    cases h
    exact z_reti hB
def d_M_washesFor (x1 : Int32) (I : z_H) : Option (Int32 × z_H) := ((d_M_mayFlag (x1) I).bind fun q1 => (if q1.1 = jn 0 then some (((jn 0), q1.2)) else ((d_M_ofFlag (x1) ((jn 2)) q1.2).bind fun q3 => ((d_M_ofFlag (x1) ((jn 3)) q1.2).bind fun q5 => (if ¬ (((jn 1) + ((jn 2) * q3))) = jn 0 then some (((((q5 + ((jn 1) + ((jn 2) * q3))) - (jn 1)) / ((jn 1) + ((jn 2) * q3))), q1.2)) else none)))))
/-- FlagLaundryModel.washesFor(I)I -/
theorem t_M_washesFor {G : z_G} {w : ev_W} (ok : z_Ok G w) {x1 : Int32} {I : z_H} {r : Int32 × z_H} (h : d_M_washesFor x1 I = some r) : z_K G 326 [.ref (241), .int (x1)] (z_w w I) (.inl (some (.int r.1))) (z_w w r.2) := by
  refine z_con ok.1 (ml := 3) (by decide +kernel) rfl rfl ?_
  show z_R G 326 0 [some (.ref (241)), some (.int (x1)), none] [] (z_w w I) (.inl (some (.int r.1))) (z_w w r.2)
  unfold d_M_washesFor at h
  have hB : z_all [z_is 326 0 (zf_aload 0 0 1), z_is 326 1 (zf_iload 1 1 2), z_is 326 2 (zf_cv 2 288 1 8 5), z_is 326 5 (zf_if1 .ne 5 10 8)] = true := by decide +kernel
  refine z_aload hB rfl (fun hB => ?_)
  refine z_iload hB rfl (fun hB => ?_)
  obtain ⟨q1, e2, h⟩ := z_bind h
  refine y_cv ok hB (as := [.int (x1)]) (a := 241) (rest := []) rfl rfl rfl (by decide +kernel) (t_M_mayFlag (I := I) ok e2) (fun hB => ?_)
  refine z_if_ne hB (fun hc _ => ?_) (fun hc _ => ?_)
  · have h := z_neg hc h
    have hB : z_all [z_is 326 10 (zf_cst 10 (jn 1) 11), z_is 326 11 (zf_cst 11 (jn 2) 12), z_is 326 12 (zf_aload 12 0 13), z_is 326 13 (zf_iload 13 1 14), z_is 326 14 (zf_cst 14 (jn 2) 15), z_is 326 15 (zf_cv 15 242 2 8 18), z_is 326 18 (zf_imul 18 19), z_is 326 19 (zf_iadd 19 20), z_is 326 20 (zf_istore 20 2 21), z_is 326 21 (zf_aload 21 0 22), z_is 326 22 (zf_iload 22 1 23), z_is 326 23 (zf_cst 23 (jn 3) 24), z_is 326 24 (zf_cv 24 242 2 8 27), z_is 326 27 (zf_iload 27 2 28), z_is 326 28 (zf_iadd 28 29), z_is 326 29 (zf_cst 29 (jn 1) 30), z_is 326 30 (zf_isub 30 31), z_is 326 31 (zf_iload 31 2 32), z_is 326 32 (zf_idiv 32 33), z_is 326 33 (zf_ret 0)] = true := by decide +kernel
    refine z_cst hB (fun hB => ?_)
    refine z_cst hB (fun hB => ?_)
    refine z_aload hB rfl (fun hB => ?_)
    refine z_iload hB rfl (fun hB => ?_)
    refine z_cst hB (fun hB => ?_)
    obtain ⟨q3, e4, h⟩ := z_bind h
    refine y_cv ok hB (as := [.int (x1), .int ((jn 2))]) (a := 241) (rest := [.int ((jn 2)), .int ((jn 1))]) rfl rfl rfl (by decide +kernel) (t_M_ofFlag (I := q1.2) ok e4) (fun hB => ?_)
    refine z_imul hB (fun hB => ?_)
    refine z_iadd hB (fun hB => ?_)
    refine z_istore hB rfl rfl (fun hB => ?_)
    refine z_aload hB rfl (fun hB => ?_)
    refine z_iload hB rfl (fun hB => ?_)
    refine z_cst hB (fun hB => ?_)
    obtain ⟨q5, e6, h⟩ := z_bind h
    refine y_cv ok hB (as := [.int (x1), .int ((jn 3))]) (a := 241) (rest := []) rfl rfl rfl (by decide +kernel) (t_M_ofFlag (I := q1.2) ok e6) (fun hB => ?_)
    refine z_iload hB rfl (fun hB => ?_)
    refine z_iadd hB (fun hB => ?_)
    refine z_cst hB (fun hB => ?_)
    refine z_isub hB (fun hB => ?_)
    refine z_iload hB rfl (fun hB => ?_)
    obtain ⟨g7, h⟩ := z_gd h
    refine z_idiv hB g7 (fun hB => ?_)
    cases h
    exact z_reti hB
  · have h := z_pos hc h
    have hB : z_all [z_is 326 8 (zf_cst 8 (jn 0) 9), z_is 326 9 (zf_ret 0)] = true := by decide +kernel
    refine z_cst hB (fun hB => ?_)
    cases h
    exact z_reti hB
def d_M_driesIn_2 (x1 : Int32) (p1 : Int32 × z_H) : Option ((Int32 × z_H) ⊕ (Int32 × z_H)) := (if (jn 99) < p1.1 then some (Sum.inr (((jg 1), p1.2))) else ((d_M_where (x1) p1.2).bind fun q3 => (if q3 = (jn 2) then ((d_M_ofFlag (x1) ((jn 4)) p1.2).bind fun q5 => (if q5 = jn 0 then some (Sum.inr ((p1.1, p1.2))) else ((d_M_dries p1.2).bind fun q7 => ((d_M_ofFlag (x1) ((jn 4)) q7).bind fun q9 => (if q9 = jn 0 then (Option.bind (α := Int32) (if p1.1 < (jn 99) then some ((p1.1 + (jn 1))) else some ((jg 1))) fun q15 => some (Sum.inr ((q15, q7)))) else ((d_M_falls q7).bind fun q11 => (if z_in ((jn 0)) 173 then (if z_in ((jn 0)) 173 then some (Sum.inl ((p1.1 + (jn 1)), (ev_u2 q11 242 (z_n ((jn 0))) ((q11 242 (z_n ((jn 0)))) + (jn 1))))) else none) else none))))))) else some (Sum.inr (((jg 1), p1.2))))))
def d_M_driesIn (x1 : Int32) (I : z_H) : Option (Int32 × z_H) := (z_it (d_M_driesIn_2 x1) z_F ((jn 0), I))
/-- FlagLaundryModel.driesIn(I)I -/
theorem t_M_driesIn {G : z_G} {w : ev_W} (ok : z_Ok G w) {x1 : Int32} {I : z_H} {r : Int32 × z_H} (h : d_M_driesIn x1 I = some r) : z_K G 327 [.ref (241), .int (x1)] (z_w w I) (.inl (some (.int r.1))) (z_w w r.2) := by
  refine z_con ok.1 (ml := 3) (by decide +kernel) rfl rfl ?_
  show z_R G 327 0 [some (.ref (241)), some (.int (x1)), none] [] (z_w w I) (.inl (some (.int r.1))) (z_w w r.2)
  unfold d_M_driesIn at h
  have hB : z_all [z_is 327 0 (zf_cst 0 (jn 0) 1), z_is 327 1 (zf_istore 1 2 2)] = true := by decide +kernel
  refine z_cst hB (fun hB => ?_)
  refine z_istore hB rfl rfl (fun hB => ?_)
  have l2 : ∀ (m2 : Nat) (p1 : Int32 × z_H), z_it (d_M_driesIn_2 x1) m2 p1 = some r → z_R G 327 2 [some (.ref (241)), some (.int (x1)), some (.int (p1.1))] [] (z_w w p1.2) (.inl (some (.int r.1))) (z_w w r.2) := by
    intro m2
    induction m2 with
    | zero => intro p1 h; cases h
    | succ m2 i2 =>
      intro p1 h
      obtain ⟨u2, h, b2⟩ := z_it_o h
      unfold d_M_driesIn_2 at h
      have hB : z_all [z_is 327 2 (zf_iload 2 2 3), z_is 327 3 (zf_cst 3 (jn 99) 5), z_is 327 5 (zf_if2 .gt 5 75 8)] = true := by decide +kernel
      refine z_iload hB rfl (fun hB => ?_)
      refine z_cst hB (fun hB => ?_)
      refine z_ic_gt hB (fun hc _ => ?_) (fun hc _ => ?_)
      · have h := z_pos hc h
        have hB : z_all [z_is 327 75 (zf_cst 75 (jg 1) 76), z_is 327 76 (zf_ret 0)] = true := by decide +kernel
        refine z_cst hB (fun hB => ?_)
        cases h
        cases b2
        exact z_reti hB
      · have h := z_neg hc h
        have hB : z_all [z_is 327 8 (zf_aload 8 0 9), z_is 327 9 (zf_iload 9 1 10), z_is 327 10 (zf_cv 10 244 1 8 13), z_is 327 13 (zf_cst 13 (jn 2) 14), z_is 327 14 (zf_if2 .ne 14 75 17)] = true := by decide +kernel
        refine z_aload hB rfl (fun hB => ?_)
        refine z_iload hB rfl (fun hB => ?_)
        obtain ⟨q3, e4, h⟩ := z_bind h
        refine y_cv ok hB (as := [.int (x1)]) (a := 241) (rest := []) rfl rfl rfl (by decide +kernel) (t_M_where (I := p1.2) ok e4) (fun hB => ?_)
        refine z_cst hB (fun hB => ?_)
        refine z_ic_ne hB (fun hc _ => ?_) (fun hc _ => ?_)
        · have h := z_neg hc h
          have hB : z_all [z_is 327 75 (zf_cst 75 (jg 1) 76), z_is 327 76 (zf_ret 0)] = true := by decide +kernel
          refine z_cst hB (fun hB => ?_)
          cases h
          cases b2
          exact z_reti hB
        · have h := z_pos hc h
          have hB : z_all [z_is 327 17 (zf_aload 17 0 18), z_is 327 18 (zf_iload 18 1 19), z_is 327 19 (zf_cst 19 (jn 4) 20), z_is 327 20 (zf_cv 20 242 2 8 23), z_is 327 23 (zf_if1 .ne 23 28 26)] = true := by decide +kernel
          refine z_aload hB rfl (fun hB => ?_)
          refine z_iload hB rfl (fun hB => ?_)
          refine z_cst hB (fun hB => ?_)
          obtain ⟨q5, e6, h⟩ := z_bind h
          refine y_cv ok hB (as := [.int (x1), .int ((jn 4))]) (a := 241) (rest := []) rfl rfl rfl (by decide +kernel) (t_M_ofFlag (I := p1.2) ok e6) (fun hB => ?_)
          refine z_if_ne hB (fun hc _ => ?_) (fun hc _ => ?_)
          · have h := z_neg hc h
            have hB : z_all [z_is 327 28 (zf_aload 28 0 29), z_is 327 29 (zf_cv 29 270 0 8 32), z_is 327 32 (zf_aload 32 0 33), z_is 327 33 (zf_iload 33 1 34), z_is 327 34 (zf_cst 34 (jn 4) 35), z_is 327 35 (zf_cv 35 242 2 8 38), z_is 327 38 (zf_if1 .ne 38 55 41)] = true := by decide +kernel
            refine z_aload hB rfl (fun hB => ?_)
            obtain ⟨q7, e8, h⟩ := z_bind h
            refine y_cv ok hB (as := []) (a := 241) (rest := []) rfl rfl rfl (by decide +kernel) (t_M_dries (I := p1.2) ok e8) (fun hB => ?_)
            refine z_aload hB rfl (fun hB => ?_)
            refine z_iload hB rfl (fun hB => ?_)
            refine z_cst hB (fun hB => ?_)
            obtain ⟨q9, e10, h⟩ := z_bind h
            refine y_cv ok hB (as := [.int (x1), .int ((jn 4))]) (a := 241) (rest := []) rfl rfl rfl (by decide +kernel) (t_M_ofFlag (I := q7) ok e10) (fun hB => ?_)
            refine z_if_ne hB (fun hc _ => ?_) (fun hc _ => ?_)
            · have h := z_neg hc h
              have hB : z_all [z_is 327 55 (zf_aload 55 0 56), z_is 327 56 (zf_cv 56 271 0 8 59), z_is 327 59 (zf_aload 59 0 60), z_is 327 60 (zf_getr 60 8 1 63), z_is 327 63 (zf_cst 63 (jn 0) 64), z_is 327 64 (zf_dup2 64 65), z_is 327 65 (zf_iald 65 66), z_is 327 66 (zf_cst 66 (jn 1) 67), z_is 327 67 (zf_iadd 67 68), z_is 327 68 (zf_iast 68 69), z_is 327 69 (zf_iinc 69 2 (jn 1) 72), z_is 327 72 (zf_goto 72 2)] = true := by decide +kernel
              refine z_aload hB rfl (fun hB => ?_)
              obtain ⟨q11, e12, h⟩ := z_bind h
              refine y_cv ok hB (as := []) (a := 241) (rest := []) rfl rfl rfl (by decide +kernel) (t_M_falls (I := q7) ok e12) (fun hB => ?_)
              refine z_aload hB rfl (fun hB => ?_)
              refine y_getr (b := 242) ok hB (by decide +kernel) (by decide +kernel) (fun hB => ?_)
              refine z_cst hB (fun hB => ?_)
              refine z_dup2 hB (fun hB => ?_)
              obtain ⟨g13, h⟩ := z_gd h
              refine y_iald ok hB (by decide +kernel) (by decide +kernel) g13 (fun hB => ?_)
              refine z_cst hB (fun hB => ?_)
              refine z_iadd hB (fun hB => ?_)
              obtain ⟨g14, h⟩ := z_gd h
              refine y_iast ok hB (by decide +kernel) (by decide +kernel) g14 (fun hB => ?_)
              refine z_iinc hB rfl rfl (fun hB => ?_)
              refine z_goto hB (fun hB => ?_)
              cases h
              exact z_weak (i2 ((p1.1 + (jn 1)), (ev_u2 q11 242 (z_n ((jn 0))) ((q11 242 (z_n ((jn 0)))) + (jn 1)))) b2) (z_se (z_se (z_se z_s0)))
            · have h := z_pos hc h
              have hB : z_all [z_is 327 41 (zf_iload 41 2 42), z_is 327 42 (zf_cst 42 (jn 99) 44), z_is 327 44 (zf_if2 .ge 44 53 47)] = true := by decide +kernel
              refine z_iload hB rfl (fun hB => ?_)
              refine z_cst hB (fun hB => ?_)
              obtain ⟨q15, e16, h⟩ := z_bind h
              have k17 : z_R G 327 54 [none, none, none] [.int (q15)] (z_w w q7) (.inl (some (.int r.1))) (z_w w r.2) := by
                have hB : z_all [z_is 327 54 (zf_ret 0)] = true := by decide +kernel
                cases h
                cases b2
                exact z_reti hB
              have h := e16
              refine z_ic_ge hB (fun hc _ => ?_) (fun hc _ => ?_)
              · have h := z_neg hc h
                have hB : z_all [z_is 327 53 (zf_cst 53 (jg 1) 54)] = true := by decide +kernel
                refine z_cst hB (fun hB => ?_)
                cases h
                exact z_weak k17 (z_sn (z_sn (z_sn z_s0)))
              · have h := z_pos hc h
                have hB : z_all [z_is 327 47 (zf_iload 47 2 48), z_is 327 48 (zf_cst 48 (jn 1) 49), z_is 327 49 (zf_iadd 49 50), z_is 327 50 (zf_goto 50 54)] = true := by decide +kernel
                refine z_iload hB rfl (fun hB => ?_)
                refine z_cst hB (fun hB => ?_)
                refine z_iadd hB (fun hB => ?_)
                refine z_goto hB (fun hB => ?_)
                cases h
                exact z_weak k17 (z_sn (z_sn (z_sn z_s0)))
          · have h := z_pos hc h
            have hB : z_all [z_is 327 26 (zf_iload 26 2 27), z_is 327 27 (zf_ret 0)] = true := by decide +kernel
            refine z_iload hB rfl (fun hB => ?_)
            cases h
            cases b2
            exact z_reti hB
  exact z_weak (l2 _ ((jn 0), I) h) (z_se (z_se (z_se z_s0)))
def d_M_dryIn (x1 : Int32) (I : z_H) : Option (Int32 × z_H) := ((d_M_mayFlag (x1) I).bind fun q1 => (if q1.1 = jn 0 then some (((jn 0), q1.2)) else ((d_M_thinks q1.2).bind fun q3 => ((d_M_driesIn (x1) q3).bind fun q5 => ((d_M_back (q5.1) q5.2).bind fun q7 => some ((q7.1, q7.2)))))))
/-- FlagLaundryModel.dryIn(I)I -/
theorem t_M_dryIn {G : z_G} {w : ev_W} (ok : z_Ok G w) {x1 : Int32} {I : z_H} {r : Int32 × z_H} (h : d_M_dryIn x1 I = some r) : z_K G 328 [.ref (241), .int (x1)] (z_w w I) (.inl (some (.int r.1))) (z_w w r.2) := by
  refine z_con ok.1 (ml := 2) (by decide +kernel) rfl rfl ?_
  show z_R G 328 0 [some (.ref (241)), some (.int (x1))] [] (z_w w I) (.inl (some (.int r.1))) (z_w w r.2)
  unfold d_M_dryIn at h
  have hB : z_all [z_is 328 0 (zf_aload 0 0 1), z_is 328 1 (zf_iload 1 1 2), z_is 328 2 (zf_cv 2 288 1 8 5), z_is 328 5 (zf_if1 .ne 5 10 8)] = true := by decide +kernel
  refine z_aload hB rfl (fun hB => ?_)
  refine z_iload hB rfl (fun hB => ?_)
  obtain ⟨q1, e2, h⟩ := z_bind h
  refine y_cv ok hB (as := [.int (x1)]) (a := 241) (rest := []) rfl rfl rfl (by decide +kernel) (t_M_mayFlag (I := I) ok e2) (fun hB => ?_)
  refine z_if_ne hB (fun hc _ => ?_) (fun hc _ => ?_)
  · have h := z_neg hc h
    have hB : z_all [z_is 328 10 (zf_aload 10 0 11), z_is 328 11 (zf_cv 11 210 0 8 14), z_is 328 14 (zf_aload 14 0 15), z_is 328 15 (zf_aload 15 0 16), z_is 328 16 (zf_iload 16 1 17), z_is 328 17 (zf_cv 17 327 1 8 20), z_is 328 20 (zf_cv 20 211 1 8 23), z_is 328 23 (zf_ret 0)] = true := by decide +kernel
    refine z_aload hB rfl (fun hB => ?_)
    obtain ⟨q3, e4, h⟩ := z_bind h
    refine y_cv ok hB (as := []) (a := 241) (rest := []) rfl rfl rfl (by decide +kernel) (t_M_thinks (I := q1.2) ok e4) (fun hB => ?_)
    refine z_aload hB rfl (fun hB => ?_)
    refine z_aload hB rfl (fun hB => ?_)
    refine z_iload hB rfl (fun hB => ?_)
    obtain ⟨q5, e6, h⟩ := z_bind h
    refine y_cv ok hB (as := [.int (x1)]) (a := 241) (rest := [.ref (241)]) rfl rfl rfl (by decide +kernel) (t_M_driesIn (I := q3) ok e6) (fun hB => ?_)
    obtain ⟨q7, e8, h⟩ := z_bind h
    refine y_cv ok hB (as := [.int (q5.1)]) (a := 241) (rest := []) rfl rfl rfl (by decide +kernel) (t_M_back (I := q5.2) ok e8) (fun hB => ?_)
    cases h
    exact z_reti hB
  · have h := z_pos hc h
    have hB : z_all [z_is 328 8 (zf_cst 8 (jn 0) 9), z_is 328 9 (zf_ret 0)] = true := by decide +kernel
    refine z_cst hB (fun hB => ?_)
    cases h
    exact z_reti hB
def d_M_isWind (x1 : Int32) : Option (Int32) := ((d_M_in (x1) ((jn 0)) ((jn 9))).bind fun q1 => (if (q1) = jn 0 ∨ (q1) = jn 1 then some (q1) else none))
/-- FlagLaundryModel.isWind(I)Z -/
theorem t_M_isWind {G : z_G} {w : ev_W} (ok : z_Ok G w) {x1 : Int32} {I : z_H} {r : Int32} (h : d_M_isWind x1 = some r) : z_K G 329 [.int (x1)] (z_w w I) (.inl (some (.int r))) (z_w w I) := by
  refine z_con ok.1 (ml := 1) (by decide +kernel) rfl rfl ?_
  show z_R G 329 0 [some (.int (x1))] [] (z_w w I) (.inl (some (.int r))) (z_w w I)
  unfold d_M_isWind at h
  have hB : z_all [z_is 329 0 (zf_iload 0 0 1), z_is 329 1 (zf_cst 1 (jn 0) 2), z_is 329 2 (zf_cst 2 (jn 9) 4), z_is 329 4 (zf_cs 4 203 3 7), z_is 329 7 (zf_ret 1)] = true := by decide +kernel
  refine z_iload hB rfl (fun hB => ?_)
  refine z_cst hB (fun hB => ?_)
  refine z_cst hB (fun hB => ?_)
  obtain ⟨q1, e2, h⟩ := z_bind h
  refine z_callS hB (as := [.int (x1), .int ((jn 0)), .int ((jn 9))]) (rest := []) rfl rfl rfl (t_M_in (I := I) ok e2) (fun hB => ?_)
  obtain ⟨g3, h⟩ := z_gd h
  cases h
  exact z_retz hB g3
def d_M_dryByWind (x1 : Int32) (x2 : Int32) (I : z_H) : Option (Int32 × z_H) := ((d_M_isFlag (x1) I).bind fun q1 => ((d_M_isWind (x2)).bind fun q3 => ((d_M_may ((I 241 6)) (q1) (q3) I).bind fun q5 => (if q5.1 = jn 0 then some (((jn 0), q5.2)) else ((d_M_thinks q5.2).bind fun q7 => (if z_in ((jn 1)) 173 then ((d_M_driesIn (x1) (ev_u2 q7 242 (z_n ((jn 1))) x2)).bind fun q10 => ((d_M_back (q10.1) q10.2).bind fun q12 => some ((q12.1, q12.2)))) else none))))))
/-- FlagLaundryModel.dryByWind(II)I -/
theorem t_M_dryByWind {G : z_G} {w : ev_W} (ok : z_Ok G w) {x1 : Int32} {x2 : Int32} {I : z_H} {r : Int32 × z_H} (h : d_M_dryByWind x1 x2 I = some r) : z_K G 330 [.ref (241), .int (x1), .int (x2)] (z_w w I) (.inl (some (.int r.1))) (z_w w r.2) := by
  refine z_con ok.1 (ml := 3) (by decide +kernel) rfl rfl ?_
  show z_R G 330 0 [some (.ref (241)), some (.int (x1)), some (.int (x2))] [] (z_w w I) (.inl (some (.int r.1))) (z_w w r.2)
  unfold d_M_dryByWind at h
  have hB : z_all [z_is 330 0 (zf_aload 0 0 1), z_is 330 1 (zf_aload 1 0 2), z_is 330 2 (zf_geti 2 8 6 5), z_is 330 5 (zf_aload 5 0 6), z_is 330 6 (zf_iload 6 1 7), z_is 330 7 (zf_cv 7 285 1 8 10), z_is 330 10 (zf_iload 10 2 11), z_is 330 11 (zf_cs 11 329 1 14), z_is 330 14 (zf_cv 14 206 3 8 17), z_is 330 17 (zf_if1 .ne 17 22 20)] = true := by decide +kernel
  refine z_aload hB rfl (fun hB => ?_)
  refine z_aload hB rfl (fun hB => ?_)
  refine y_geti ok hB (by decide +kernel) (fun hB => ?_)
  refine z_aload hB rfl (fun hB => ?_)
  refine z_iload hB rfl (fun hB => ?_)
  obtain ⟨q1, e2, h⟩ := z_bind h
  refine y_cv ok hB (as := [.int (x1)]) (a := 241) (rest := [.int ((I 241 6)), .ref (241)]) rfl rfl rfl (by decide +kernel) (t_M_isFlag (I := I) ok e2) (fun hB => ?_)
  refine z_iload hB rfl (fun hB => ?_)
  obtain ⟨q3, e4, h⟩ := z_bind h
  refine z_callS hB (as := [.int (x2)]) (rest := [.int (q1), .int ((I 241 6)), .ref (241)]) rfl rfl rfl (t_M_isWind (I := I) ok e4) (fun hB => ?_)
  obtain ⟨q5, e6, h⟩ := z_bind h
  refine y_cv ok hB (as := [.int ((I 241 6)), .int (q1), .int (q3)]) (a := 241) (rest := []) rfl rfl rfl (by decide +kernel) (t_M_may (I := I) ok e6) (fun hB => ?_)
  refine z_if_ne hB (fun hc _ => ?_) (fun hc _ => ?_)
  · have h := z_neg hc h
    have hB : z_all [z_is 330 22 (zf_aload 22 0 23), z_is 330 23 (zf_cv 23 210 0 8 26), z_is 330 26 (zf_aload 26 0 27), z_is 330 27 (zf_getr 27 8 1 30), z_is 330 30 (zf_cst 30 (jn 1) 31), z_is 330 31 (zf_iload 31 2 32), z_is 330 32 (zf_iast 32 33), z_is 330 33 (zf_aload 33 0 34), z_is 330 34 (zf_aload 34 0 35), z_is 330 35 (zf_iload 35 1 36), z_is 330 36 (zf_cv 36 327 1 8 39), z_is 330 39 (zf_cv 39 211 1 8 42), z_is 330 42 (zf_ret 0)] = true := by decide +kernel
    refine z_aload hB rfl (fun hB => ?_)
    obtain ⟨q7, e8, h⟩ := z_bind h
    refine y_cv ok hB (as := []) (a := 241) (rest := []) rfl rfl rfl (by decide +kernel) (t_M_thinks (I := q5.2) ok e8) (fun hB => ?_)
    refine z_aload hB rfl (fun hB => ?_)
    refine y_getr (b := 242) ok hB (by decide +kernel) (by decide +kernel) (fun hB => ?_)
    refine z_cst hB (fun hB => ?_)
    refine z_iload hB rfl (fun hB => ?_)
    obtain ⟨g9, h⟩ := z_gd h
    refine y_iast ok hB (by decide +kernel) (by decide +kernel) g9 (fun hB => ?_)
    refine z_aload hB rfl (fun hB => ?_)
    refine z_aload hB rfl (fun hB => ?_)
    refine z_iload hB rfl (fun hB => ?_)
    obtain ⟨q10, e11, h⟩ := z_bind h
    refine y_cv ok hB (as := [.int (x1)]) (a := 241) (rest := [.ref (241)]) rfl rfl rfl (by decide +kernel) (t_M_driesIn (I := (ev_u2 q7 242 (z_n ((jn 1))) x2)) ok e11) (fun hB => ?_)
    obtain ⟨q12, e13, h⟩ := z_bind h
    refine y_cv ok hB (as := [.int (q10.1)]) (a := 241) (rest := []) rfl rfl rfl (by decide +kernel) (t_M_back (I := q10.2) ok e13) (fun hB => ?_)
    cases h
    exact z_reti hB
  · have h := z_pos hc h
    have hB : z_all [z_is 330 20 (zf_cst 20 (jn 0) 21), z_is 330 21 (zf_ret 0)] = true := by decide +kernel
    refine z_cst hB (fun hB => ?_)
    cases h
    exact z_reti hB
def d_M_fallsIn_9 (x1 : Int32) (p8 : Int32 × z_H) : Option ((Int32 × z_H) ⊕ (Int32 × z_H)) := (if p8.1 < x1 then ((d_M_passes p8.2).bind fun q16 => some (Sum.inl ((p8.1 + (jn 1)), q16))) else some (Sum.inr (p8.1, p8.2)))
def d_M_fallsIn (x1 : Int32) (I : z_H) : Option (Int32 × z_H) := ((d_M_in (x1) ((jn 0)) ((jn 99))).bind fun q1 => ((d_M_mayTwo ((I 241 6)) (q1) I).bind fun q3 => (if q3.1 = jn 0 then some (((jn 0), q3.2)) else (if z_in ((jn 5)) 173 then ((d_M_thinks q3.2).bind fun q6 => ((z_it (d_M_fallsIn_9 x1) z_F ((jn 0), q6)).bind fun q10 => (if z_in ((jn 5)) 173 then ((d_M_back (((q10.2 242 (z_n ((jn 5)))) - (q3.2 242 (z_n ((jn 5)))))) q10.2).bind fun q14 => some ((q14.1, q14.2))) else none))) else none))))
/-- FlagLaundryModel.fallsIn(I)I -/
theorem t_M_fallsIn {G : z_G} {w : ev_W} (ok : z_Ok G w) {x1 : Int32} {I : z_H} {r : Int32 × z_H} (h : d_M_fallsIn x1 I = some r) : z_K G 331 [.ref (241), .int (x1)] (z_w w I) (.inl (some (.int r.1))) (z_w w r.2) := by
  refine z_con ok.1 (ml := 4) (by decide +kernel) rfl rfl ?_
  show z_R G 331 0 [some (.ref (241)), some (.int (x1)), none, none] [] (z_w w I) (.inl (some (.int r.1))) (z_w w r.2)
  unfold d_M_fallsIn at h
  have hB : z_all [z_is 331 0 (zf_aload 0 0 1), z_is 331 1 (zf_aload 1 0 2), z_is 331 2 (zf_geti 2 8 6 5), z_is 331 5 (zf_iload 5 1 6), z_is 331 6 (zf_cst 6 (jn 0) 7), z_is 331 7 (zf_cst 7 (jn 99) 9), z_is 331 9 (zf_cs 9 203 3 12), z_is 331 12 (zf_cv 12 207 2 8 15), z_is 331 15 (zf_if1 .ne 15 20 18)] = true := by decide +kernel
  refine z_aload hB rfl (fun hB => ?_)
  refine z_aload hB rfl (fun hB => ?_)
  refine y_geti ok hB (by decide +kernel) (fun hB => ?_)
  refine z_iload hB rfl (fun hB => ?_)
  refine z_cst hB (fun hB => ?_)
  refine z_cst hB (fun hB => ?_)
  obtain ⟨q1, e2, h⟩ := z_bind h
  refine z_callS hB (as := [.int (x1), .int ((jn 0)), .int ((jn 99))]) (rest := [.int ((I 241 6)), .ref (241)]) rfl rfl rfl (t_M_in (I := I) ok e2) (fun hB => ?_)
  obtain ⟨q3, e4, h⟩ := z_bind h
  refine y_cv ok hB (as := [.int ((I 241 6)), .int (q1)]) (a := 241) (rest := []) rfl rfl rfl (by decide +kernel) (t_M_mayTwo (I := I) ok e4) (fun hB => ?_)
  refine z_if_ne hB (fun hc _ => ?_) (fun hc _ => ?_)
  · have h := z_neg hc h
    have hB : z_all [z_is 331 20 (zf_aload 20 0 21), z_is 331 21 (zf_getr 21 8 1 24), z_is 331 24 (zf_cst 24 (jn 5) 25), z_is 331 25 (zf_iald 25 26), z_is 331 26 (zf_istore 26 2 27), z_is 331 27 (zf_aload 27 0 28), z_is 331 28 (zf_cv 28 210 0 8 31), z_is 331 31 (zf_cst 31 (jn 0) 32), z_is 331 32 (zf_istore 32 3 33)] = true := by decide +kernel
    refine z_aload hB rfl (fun hB => ?_)
    refine y_getr (b := 242) ok hB (by decide +kernel) (by decide +kernel) (fun hB => ?_)
    refine z_cst hB (fun hB => ?_)
    obtain ⟨g5, h⟩ := z_gd h
    refine y_iald ok hB (by decide +kernel) (by decide +kernel) g5 (fun hB => ?_)
    refine z_istore hB rfl rfl (fun hB => ?_)
    refine z_aload hB rfl (fun hB => ?_)
    obtain ⟨q6, e7, h⟩ := z_bind h
    refine y_cv ok hB (as := []) (a := 241) (rest := []) rfl rfl rfl (by decide +kernel) (t_M_thinks (I := q3.2) ok e7) (fun hB => ?_)
    refine z_cst hB (fun hB => ?_)
    refine z_istore hB rfl rfl (fun hB => ?_)
    obtain ⟨q10, e11, h⟩ := z_bind h
    have k12 : z_R G 331 48 [some (.ref (241)), none, some (.int ((q3.2 242 (z_n ((jn 5)))))), none] [] (z_w w q10.2) (.inl (some (.int r.1))) (z_w w r.2) := by
      have hB : z_all [z_is 331 48 (zf_aload 48 0 49), z_is 331 49 (zf_aload 49 0 50), z_is 331 50 (zf_getr 50 8 1 53), z_is 331 53 (zf_cst 53 (jn 5) 54), z_is 331 54 (zf_iald 54 55), z_is 331 55 (zf_iload 55 2 56), z_is 331 56 (zf_isub 56 57), z_is 331 57 (zf_cv 57 211 1 8 60), z_is 331 60 (zf_ret 0)] = true := by decide +kernel
      refine z_aload hB rfl (fun hB => ?_)
      refine z_aload hB rfl (fun hB => ?_)
      refine y_getr (b := 242) ok hB (by decide +kernel) (by decide +kernel) (fun hB => ?_)
      refine z_cst hB (fun hB => ?_)
      obtain ⟨g13, h⟩ := z_gd h
      refine y_iald ok hB (by decide +kernel) (by decide +kernel) g13 (fun hB => ?_)
      refine z_iload hB rfl (fun hB => ?_)
      refine z_isub hB (fun hB => ?_)
      obtain ⟨q14, e15, h⟩ := z_bind h
      refine y_cv ok hB (as := [.int (((q10.2 242 (z_n ((jn 5)))) - (q3.2 242 (z_n ((jn 5))))))]) (a := 241) (rest := []) rfl rfl rfl (by decide +kernel) (t_M_back (I := q10.2) ok e15) (fun hB => ?_)
      cases h
      exact z_reti hB
    have l9 : ∀ (m9 : Nat) (p8 : Int32 × z_H), z_it (d_M_fallsIn_9 x1) m9 p8 = some q10 → z_R G 331 33 [some (.ref (241)), some (.int (x1)), some (.int ((q3.2 242 (z_n ((jn 5)))))), some (.int (p8.1))] [] (z_w w p8.2) (.inl (some (.int r.1))) (z_w w r.2) := by
      intro m9
      induction m9 with
      | zero => intro p8 h; cases h
      | succ m9 i9 =>
        intro p8 h
        obtain ⟨u9, h, b9⟩ := z_it_o h
        unfold d_M_fallsIn_9 at h
        have hB : z_all [z_is 331 33 (zf_iload 33 3 34), z_is 331 34 (zf_iload 34 1 35), z_is 331 35 (zf_if2 .ge 35 48 38)] = true := by decide +kernel
        refine z_iload hB rfl (fun hB => ?_)
        refine z_iload hB rfl (fun hB => ?_)
        refine z_ic_ge hB (fun hc _ => ?_) (fun hc _ => ?_)
        · have h := z_neg hc h
          cases h
          cases b9
          exact z_weak k12 (z_se (z_sn (z_se (z_sn z_s0))))
        · have h := z_pos hc h
          have hB : z_all [z_is 331 38 (zf_aload 38 0 39), z_is 331 39 (zf_cv 39 272 0 8 42), z_is 331 42 (zf_iinc 42 3 (jn 1) 45), z_is 331 45 (zf_goto 45 33)] = true := by decide +kernel
          refine z_aload hB rfl (fun hB => ?_)
          obtain ⟨q16, e17, h⟩ := z_bind h
          refine y_cv ok hB (as := []) (a := 241) (rest := []) rfl rfl rfl (by decide +kernel) (t_M_passes (I := p8.2) ok e17) (fun hB => ?_)
          refine z_iinc hB rfl rfl (fun hB => ?_)
          refine z_goto hB (fun hB => ?_)
          cases h
          exact z_weak (i9 ((p8.1 + (jn 1)), q16) b9) (z_se (z_se (z_se (z_se z_s0))))
    exact z_weak (l9 _ ((jn 0), q6) e11) (z_se (z_se (z_se (z_se z_s0))))
  · have h := z_pos hc h
    have hB : z_all [z_is 331 18 (zf_cst 18 (jn 0) 19), z_is 331 19 (zf_ret 0)] = true := by decide +kernel
    refine z_cst hB (fun hB => ?_)
    cases h
    exact z_reti hB
def d_M_payIn (x1 : Int32) (x2 : Int32) (I : z_H) : Option (Int32) := ((d_M_isHanded (x1) I).bind fun q1 => (Option.bind (α := Int32) (if q1 = jn 0 then (if z_in ((jn 0)) 173 then ((d_M_payAt (x1) (((I 242 (z_n ((jn 0)))) + x2)) I).bind fun q7 => some (q7)) else none) else some ((jn 0))) fun q3 => some (q3)))
/-- FlagLaundryModel.payIn(II)I -/
theorem t_M_payIn {G : z_G} {w : ev_W} (ok : z_Ok G w) {x1 : Int32} {x2 : Int32} {I : z_H} {r : Int32} (h : d_M_payIn x1 x2 I = some r) : z_K G 332 [.ref (241), .int (x1), .int (x2)] (z_w w I) (.inl (some (.int r))) (z_w w I) := by
  refine z_con ok.1 (ml := 3) (by decide +kernel) rfl rfl ?_
  show z_R G 332 0 [some (.ref (241)), some (.int (x1)), some (.int (x2))] [] (z_w w I) (.inl (some (.int r))) (z_w w I)
  unfold d_M_payIn at h
  have hB : z_all [z_is 332 0 (zf_aload 0 0 1), z_is 332 1 (zf_iload 1 1 2), z_is 332 2 (zf_cv 2 278 1 8 5), z_is 332 5 (zf_if1 .eq 5 12 8)] = true := by decide +kernel
  refine z_aload hB rfl (fun hB => ?_)
  refine z_iload hB rfl (fun hB => ?_)
  obtain ⟨q1, e2, h⟩ := z_bind h
  refine y_cv ok hB (as := [.int (x1)]) (a := 241) (rest := []) rfl rfl rfl (by decide +kernel) (t_M_isHanded (I := I) ok e2) (fun hB => ?_)
  obtain ⟨q3, e4, h⟩ := z_bind h
  have k5 : z_R G 332 25 [none, none, none] [.int (q3)] (z_w w I) (.inl (some (.int r))) (z_w w I) := by
    have hB : z_all [z_is 332 25 (zf_ret 0)] = true := by decide +kernel
    cases h
    exact z_reti hB
  have h := e4
  refine z_if_eq hB (fun hc _ => ?_) (fun hc _ => ?_)
  · have h := z_pos hc h
    have hB : z_all [z_is 332 12 (zf_aload 12 0 13), z_is 332 13 (zf_iload 13 1 14), z_is 332 14 (zf_aload 14 0 15), z_is 332 15 (zf_getr 15 8 1 18), z_is 332 18 (zf_cst 18 (jn 0) 19), z_is 332 19 (zf_iald 19 20), z_is 332 20 (zf_iload 20 2 21), z_is 332 21 (zf_iadd 21 22), z_is 332 22 (zf_cv 22 277 2 8 25)] = true := by decide +kernel
    refine z_aload hB rfl (fun hB => ?_)
    refine z_iload hB rfl (fun hB => ?_)
    refine z_aload hB rfl (fun hB => ?_)
    refine y_getr (b := 242) ok hB (by decide +kernel) (by decide +kernel) (fun hB => ?_)
    refine z_cst hB (fun hB => ?_)
    obtain ⟨g6, h⟩ := z_gd h
    refine y_iald ok hB (by decide +kernel) (by decide +kernel) g6 (fun hB => ?_)
    refine z_iload hB rfl (fun hB => ?_)
    refine z_iadd hB (fun hB => ?_)
    obtain ⟨q7, e8, h⟩ := z_bind h
    refine y_cv ok hB (as := [.int (x1), .int (((I 242 (z_n ((jn 0)))) + x2))]) (a := 241) (rest := []) rfl rfl rfl (by decide +kernel) (t_M_payAt (I := I) ok e8) (fun hB => ?_)
    cases h
    exact z_weak k5 (z_sn (z_sn (z_sn z_s0)))
  · have h := z_neg hc h
    have hB : z_all [z_is 332 8 (zf_cst 8 (jn 0) 9), z_is 332 9 (zf_goto 9 25)] = true := by decide +kernel
    refine z_cst hB (fun hB => ?_)
    refine z_goto hB (fun hB => ?_)
    cases h
    exact z_weak k5 (z_sn (z_sn (z_sn z_s0)))
def d_M_payIf (x1 : Int32) (x2 : Int32) (I : z_H) : Option (Int32 × z_H) := ((d_M_isNation (x1) I).bind fun q1 => ((d_M_in (x2) ((jn 0)) ((jn 99))).bind fun q3 => ((d_M_may ((I 241 6)) (q1) (q3) I).bind fun q5 => (Option.bind (α := Int32) (if q5.1 = jn 0 then some ((jn 0)) else ((d_M_payIn (x1) (x2) q5.2).bind fun q10 => some (q10))) fun q7 => some ((q7, q5.2))))))
/-- FlagLaundryModel.payIf(II)I -/
theorem t_M_payIf {G : z_G} {w : ev_W} (ok : z_Ok G w) {x1 : Int32} {x2 : Int32} {I : z_H} {r : Int32 × z_H} (h : d_M_payIf x1 x2 I = some r) : z_K G 333 [.ref (241), .int (x1), .int (x2)] (z_w w I) (.inl (some (.int r.1))) (z_w w r.2) := by
  refine z_con ok.1 (ml := 3) (by decide +kernel) rfl rfl ?_
  show z_R G 333 0 [some (.ref (241)), some (.int (x1)), some (.int (x2))] [] (z_w w I) (.inl (some (.int r.1))) (z_w w r.2)
  unfold d_M_payIf at h
  have hB : z_all [z_is 333 0 (zf_aload 0 0 1), z_is 333 1 (zf_aload 1 0 2), z_is 333 2 (zf_geti 2 8 6 5), z_is 333 5 (zf_aload 5 0 6), z_is 333 6 (zf_iload 6 1 7), z_is 333 7 (zf_cv 7 284 1 8 10), z_is 333 10 (zf_iload 10 2 11), z_is 333 11 (zf_cst 11 (jn 0) 12), z_is 333 12 (zf_cst 12 (jn 99) 14), z_is 333 14 (zf_cs 14 203 3 17), z_is 333 17 (zf_cv 17 206 3 8 20), z_is 333 20 (zf_if1 .eq 20 32 23)] = true := by decide +kernel
  refine z_aload hB rfl (fun hB => ?_)
  refine z_aload hB rfl (fun hB => ?_)
  refine y_geti ok hB (by decide +kernel) (fun hB => ?_)
  refine z_aload hB rfl (fun hB => ?_)
  refine z_iload hB rfl (fun hB => ?_)
  obtain ⟨q1, e2, h⟩ := z_bind h
  refine y_cv ok hB (as := [.int (x1)]) (a := 241) (rest := [.int ((I 241 6)), .ref (241)]) rfl rfl rfl (by decide +kernel) (t_M_isNation (I := I) ok e2) (fun hB => ?_)
  refine z_iload hB rfl (fun hB => ?_)
  refine z_cst hB (fun hB => ?_)
  refine z_cst hB (fun hB => ?_)
  obtain ⟨q3, e4, h⟩ := z_bind h
  refine z_callS hB (as := [.int (x2), .int ((jn 0)), .int ((jn 99))]) (rest := [.int (q1), .int ((I 241 6)), .ref (241)]) rfl rfl rfl (t_M_in (I := I) ok e4) (fun hB => ?_)
  obtain ⟨q5, e6, h⟩ := z_bind h
  refine y_cv ok hB (as := [.int ((I 241 6)), .int (q1), .int (q3)]) (a := 241) (rest := []) rfl rfl rfl (by decide +kernel) (t_M_may (I := I) ok e6) (fun hB => ?_)
  obtain ⟨q7, e8, h⟩ := z_bind h
  have k9 : z_R G 333 33 [none, none, none] [.int (q7)] (z_w w q5.2) (.inl (some (.int r.1))) (z_w w r.2) := by
    have hB : z_all [z_is 333 33 (zf_ret 0)] = true := by decide +kernel
    cases h
    exact z_reti hB
  have h := e8
  refine z_if_eq hB (fun hc _ => ?_) (fun hc _ => ?_)
  · have h := z_pos hc h
    have hB : z_all [z_is 333 32 (zf_cst 32 (jn 0) 33)] = true := by decide +kernel
    refine z_cst hB (fun hB => ?_)
    cases h
    exact z_weak k9 (z_sn (z_sn (z_sn z_s0)))
  · have h := z_neg hc h
    have hB : z_all [z_is 333 23 (zf_aload 23 0 24), z_is 333 24 (zf_iload 24 1 25), z_is 333 25 (zf_iload 25 2 26), z_is 333 26 (zf_cv 26 332 2 8 29), z_is 333 29 (zf_goto 29 33)] = true := by decide +kernel
    refine z_aload hB rfl (fun hB => ?_)
    refine z_iload hB rfl (fun hB => ?_)
    refine z_iload hB rfl (fun hB => ?_)
    obtain ⟨q10, e11, h⟩ := z_bind h
    refine y_cv ok hB (as := [.int (x1), .int (x2)]) (a := 241) (rest := []) rfl rfl rfl (by decide +kernel) (t_M_payIn (I := q5.2) ok e11) (fun hB => ?_)
    refine z_goto hB (fun hB => ?_)
    cases h
    exact z_weak k9 (z_sn (z_sn (z_sn z_s0)))
def d_M_lastHour (x1 : Int32) (I : z_H) : Option (Int32) := ((d_M_isHanded (x1) I).bind fun q1 => (if q1 = jn 0 then ((d_M_flagsOf (x1) I).bind fun q3 => (if q3 = jn 0 then some ((jg 1)) else ((d_M_ofNation (x1) ((jn 2)) I).bind fun q5 => (if q5 = jn 0 then some ((jn 999)) else ((d_M_ofNation (x1) ((jn 0)) I).bind fun q7 => ((d_M_ofNation (x1) ((jn 1)) I).bind fun q9 => ((d_M_ofNation (x1) ((jn 2)) I).bind fun q11 => (if ¬ (q11) = jn 0 then (if z_in ((jn 0)) 173 then (Option.bind (α := Int32) (if (q7 + ((q9 - (jn 1)) / q11)) < (I 242 (z_n ((jn 0)))) then some ((jg 1)) else some ((q7 + ((q9 - (jn 1)) / q11)))) fun q15 => some (q15)) else none) else none)))))))) else some ((jg 1))))
/-- FlagLaundryModel.lastHour(I)I -/
theorem t_M_lastHour {G : z_G} {w : ev_W} (ok : z_Ok G w) {x1 : Int32} {I : z_H} {r : Int32} (h : d_M_lastHour x1 I = some r) : z_K G 334 [.ref (241), .int (x1)] (z_w w I) (.inl (some (.int r))) (z_w w I) := by
  refine z_con ok.1 (ml := 3) (by decide +kernel) rfl rfl ?_
  show z_R G 334 0 [some (.ref (241)), some (.int (x1)), none] [] (z_w w I) (.inl (some (.int r))) (z_w w I)
  unfold d_M_lastHour at h
  have hB : z_all [z_is 334 0 (zf_aload 0 0 1), z_is 334 1 (zf_iload 1 1 2), z_is 334 2 (zf_cv 2 278 1 8 5), z_is 334 5 (zf_if1 .ne 5 16 8)] = true := by decide +kernel
  refine z_aload hB rfl (fun hB => ?_)
  refine z_iload hB rfl (fun hB => ?_)
  obtain ⟨q1, e2, h⟩ := z_bind h
  refine y_cv ok hB (as := [.int (x1)]) (a := 241) (rest := []) rfl rfl rfl (by decide +kernel) (t_M_isHanded (I := I) ok e2) (fun hB => ?_)
  refine z_if_ne hB (fun hc _ => ?_) (fun hc _ => ?_)
  · have h := z_neg hc h
    have hB : z_all [z_is 334 16 (zf_cst 16 (jg 1) 17), z_is 334 17 (zf_ret 0)] = true := by decide +kernel
    refine z_cst hB (fun hB => ?_)
    cases h
    exact z_reti hB
  · have h := z_pos hc h
    have hB : z_all [z_is 334 8 (zf_aload 8 0 9), z_is 334 9 (zf_iload 9 1 10), z_is 334 10 (zf_cv 10 275 1 8 13), z_is 334 13 (zf_if1 .ne 13 18 16)] = true := by decide +kernel
    refine z_aload hB rfl (fun hB => ?_)
    refine z_iload hB rfl (fun hB => ?_)
    obtain ⟨q3, e4, h⟩ := z_bind h
    refine y_cv ok hB (as := [.int (x1)]) (a := 241) (rest := []) rfl rfl rfl (by decide +kernel) (t_M_flagsOf (I := I) ok e4) (fun hB => ?_)
    refine z_if_ne hB (fun hc _ => ?_) (fun hc _ => ?_)
    · have h := z_neg hc h
      have hB : z_all [z_is 334 18 (zf_aload 18 0 19), z_is 334 19 (zf_iload 19 1 20), z_is 334 20 (zf_cst 20 (jn 2) 21), z_is 334 21 (zf_cv 21 240 2 8 24), z_is 334 24 (zf_if1 .ne 24 31 27)] = true := by decide +kernel
      refine z_aload hB rfl (fun hB => ?_)
      refine z_iload hB rfl (fun hB => ?_)
      refine z_cst hB (fun hB => ?_)
      obtain ⟨q5, e6, h⟩ := z_bind h
      refine y_cv ok hB (as := [.int (x1), .int ((jn 2))]) (a := 241) (rest := []) rfl rfl rfl (by decide +kernel) (t_M_ofNation (I := I) ok e6) (fun hB => ?_)
      refine z_if_ne hB (fun hc _ => ?_) (fun hc _ => ?_)
      · have h := z_neg hc h
        have hB : z_all [z_is 334 31 (zf_aload 31 0 32), z_is 334 32 (zf_iload 32 1 33), z_is 334 33 (zf_cst 33 (jn 0) 34), z_is 334 34 (zf_cv 34 240 2 8 37), z_is 334 37 (zf_aload 37 0 38), z_is 334 38 (zf_iload 38 1 39), z_is 334 39 (zf_cst 39 (jn 1) 40), z_is 334 40 (zf_cv 40 240 2 8 43), z_is 334 43 (zf_cst 43 (jn 1) 44), z_is 334 44 (zf_isub 44 45), z_is 334 45 (zf_aload 45 0 46), z_is 334 46 (zf_iload 46 1 47), z_is 334 47 (zf_cst 47 (jn 2) 48), z_is 334 48 (zf_cv 48 240 2 8 51), z_is 334 51 (zf_idiv 51 52), z_is 334 52 (zf_iadd 52 53), z_is 334 53 (zf_istore 53 2 54), z_is 334 54 (zf_iload 54 2 55), z_is 334 55 (zf_aload 55 0 56), z_is 334 56 (zf_getr 56 8 1 59), z_is 334 59 (zf_cst 59 (jn 0) 60), z_is 334 60 (zf_iald 60 61), z_is 334 61 (zf_if2 .ge 61 68 64)] = true := by decide +kernel
        refine z_aload hB rfl (fun hB => ?_)
        refine z_iload hB rfl (fun hB => ?_)
        refine z_cst hB (fun hB => ?_)
        obtain ⟨q7, e8, h⟩ := z_bind h
        refine y_cv ok hB (as := [.int (x1), .int ((jn 0))]) (a := 241) (rest := []) rfl rfl rfl (by decide +kernel) (t_M_ofNation (I := I) ok e8) (fun hB => ?_)
        refine z_aload hB rfl (fun hB => ?_)
        refine z_iload hB rfl (fun hB => ?_)
        refine z_cst hB (fun hB => ?_)
        obtain ⟨q9, e10, h⟩ := z_bind h
        refine y_cv ok hB (as := [.int (x1), .int ((jn 1))]) (a := 241) (rest := [.int (q7)]) rfl rfl rfl (by decide +kernel) (t_M_ofNation (I := I) ok e10) (fun hB => ?_)
        refine z_cst hB (fun hB => ?_)
        refine z_isub hB (fun hB => ?_)
        refine z_aload hB rfl (fun hB => ?_)
        refine z_iload hB rfl (fun hB => ?_)
        refine z_cst hB (fun hB => ?_)
        obtain ⟨q11, e12, h⟩ := z_bind h
        refine y_cv ok hB (as := [.int (x1), .int ((jn 2))]) (a := 241) (rest := [.int ((q9 - (jn 1))), .int (q7)]) rfl rfl rfl (by decide +kernel) (t_M_ofNation (I := I) ok e12) (fun hB => ?_)
        obtain ⟨g13, h⟩ := z_gd h
        refine z_idiv hB g13 (fun hB => ?_)
        refine z_iadd hB (fun hB => ?_)
        refine z_istore hB rfl rfl (fun hB => ?_)
        refine z_iload hB rfl (fun hB => ?_)
        refine z_aload hB rfl (fun hB => ?_)
        refine y_getr (b := 242) ok hB (by decide +kernel) (by decide +kernel) (fun hB => ?_)
        refine z_cst hB (fun hB => ?_)
        obtain ⟨g14, h⟩ := z_gd h
        refine y_iald ok hB (by decide +kernel) (by decide +kernel) g14 (fun hB => ?_)
        obtain ⟨q15, e16, h⟩ := z_bind h
        have k17 : z_R G 334 69 [none, none, none] [.int (q15)] (z_w w I) (.inl (some (.int r))) (z_w w I) := by
          have hB : z_all [z_is 334 69 (zf_ret 0)] = true := by decide +kernel
          cases h
          exact z_reti hB
        have h := e16
        refine z_ic_ge hB (fun hc _ => ?_) (fun hc _ => ?_)
        · have h := z_neg hc h
          have hB : z_all [z_is 334 68 (zf_iload 68 2 69)] = true := by decide +kernel
          refine z_iload hB rfl (fun hB => ?_)
          cases h
          exact z_weak k17 (z_sn (z_sn (z_sn z_s0)))
        · have h := z_pos hc h
          have hB : z_all [z_is 334 64 (zf_cst 64 (jg 1) 65), z_is 334 65 (zf_goto 65 69)] = true := by decide +kernel
          refine z_cst hB (fun hB => ?_)
          refine z_goto hB (fun hB => ?_)
          cases h
          exact z_weak k17 (z_sn (z_sn (z_sn z_s0)))
      · have h := z_pos hc h
        have hB : z_all [z_is 334 27 (zf_cst 27 (jn 999) 30), z_is 334 30 (zf_ret 0)] = true := by decide +kernel
        refine z_cst hB (fun hB => ?_)
        cases h
        exact z_reti hB
    · have h := z_pos hc h
      have hB : z_all [z_is 334 16 (zf_cst 16 (jg 1) 17), z_is 334 17 (zf_ret 0)] = true := by decide +kernel
      refine z_cst hB (fun hB => ?_)
      cases h
      exact z_reti hB
def d_M_latest (x1 : Int32) (I : z_H) : Option (Int32 × z_H) := ((d_M_isNation (x1) I).bind fun q1 => ((d_M_mayTwo ((I 241 6)) (q1) I).bind fun q3 => (Option.bind (α := Int32) (if q3.1 = jn 0 then some ((jn 0)) else ((d_M_lastHour (x1) q3.2).bind fun q8 => some (q8))) fun q5 => some ((q5, q3.2)))))
/-- FlagLaundryModel.latest(I)I -/
theorem t_M_latest {G : z_G} {w : ev_W} (ok : z_Ok G w) {x1 : Int32} {I : z_H} {r : Int32 × z_H} (h : d_M_latest x1 I = some r) : z_K G 335 [.ref (241), .int (x1)] (z_w w I) (.inl (some (.int r.1))) (z_w w r.2) := by
  refine z_con ok.1 (ml := 2) (by decide +kernel) rfl rfl ?_
  show z_R G 335 0 [some (.ref (241)), some (.int (x1))] [] (z_w w I) (.inl (some (.int r.1))) (z_w w r.2)
  unfold d_M_latest at h
  have hB : z_all [z_is 335 0 (zf_aload 0 0 1), z_is 335 1 (zf_aload 1 0 2), z_is 335 2 (zf_geti 2 8 6 5), z_is 335 5 (zf_aload 5 0 6), z_is 335 6 (zf_iload 6 1 7), z_is 335 7 (zf_cv 7 284 1 8 10), z_is 335 10 (zf_cv 10 207 2 8 13), z_is 335 13 (zf_if1 .eq 13 24 16)] = true := by decide +kernel
  refine z_aload hB rfl (fun hB => ?_)
  refine z_aload hB rfl (fun hB => ?_)
  refine y_geti ok hB (by decide +kernel) (fun hB => ?_)
  refine z_aload hB rfl (fun hB => ?_)
  refine z_iload hB rfl (fun hB => ?_)
  obtain ⟨q1, e2, h⟩ := z_bind h
  refine y_cv ok hB (as := [.int (x1)]) (a := 241) (rest := [.int ((I 241 6)), .ref (241)]) rfl rfl rfl (by decide +kernel) (t_M_isNation (I := I) ok e2) (fun hB => ?_)
  obtain ⟨q3, e4, h⟩ := z_bind h
  refine y_cv ok hB (as := [.int ((I 241 6)), .int (q1)]) (a := 241) (rest := []) rfl rfl rfl (by decide +kernel) (t_M_mayTwo (I := I) ok e4) (fun hB => ?_)
  obtain ⟨q5, e6, h⟩ := z_bind h
  have k7 : z_R G 335 25 [none, none] [.int (q5)] (z_w w q3.2) (.inl (some (.int r.1))) (z_w w r.2) := by
    have hB : z_all [z_is 335 25 (zf_ret 0)] = true := by decide +kernel
    cases h
    exact z_reti hB
  have h := e6
  refine z_if_eq hB (fun hc _ => ?_) (fun hc _ => ?_)
  · have h := z_pos hc h
    have hB : z_all [z_is 335 24 (zf_cst 24 (jn 0) 25)] = true := by decide +kernel
    refine z_cst hB (fun hB => ?_)
    cases h
    exact z_weak k7 (z_sn (z_sn z_s0))
  · have h := z_neg hc h
    have hB : z_all [z_is 335 16 (zf_aload 16 0 17), z_is 335 17 (zf_iload 17 1 18), z_is 335 18 (zf_cv 18 334 1 8 21), z_is 335 21 (zf_goto 21 25)] = true := by decide +kernel
    refine z_aload hB rfl (fun hB => ?_)
    refine z_iload hB rfl (fun hB => ?_)
    obtain ⟨q8, e9, h⟩ := z_bind h
    refine y_cv ok hB (as := [.int (x1)]) (a := 241) (rest := []) rfl rfl rfl (by decide +kernel) (t_M_lastHour (I := q3.2) ok e9) (fun hB => ?_)
    refine z_goto hB (fun hB => ?_)
    cases h
    exact z_weak k7 (z_sn (z_sn z_s0))
def d_M_dearest_4 (q1 : Int32 × z_H) (p3 : Int32 × Int32 × Int32) : Option ((Int32 × Int32 × Int32) ⊕ (Int32 × Int32 × Int32)) := (if z_in ((jn 7)) 173 then (if p3.2.2 < (q1.2 242 (z_n ((jn 7)))) then ((d_M_payIn (p3.2.2) ((jn 0)) q1.2).bind fun q9 => ((d_M_payIn (p3.2.2) ((jn 1)) q1.2).bind fun q11 => (Option.bind (α := Int32 × Int32) (if p3.2.1 < (q9 - q11) then some (p3.2.2, (q9 - q11)) else some (p3.1, p3.2.1)) fun q13 => some (Sum.inl (q13.1, q13.2, (p3.2.2 + (jn 1))))))) else some (Sum.inr (p3.1, p3.2.1, p3.2.2))) else none)
def d_M_dearest  (I : z_H) : Option (Int32 × z_H) := ((d_M_mayLook I).bind fun q1 => (if q1.1 = jn 0 then some (((jn 0), q1.2)) else ((z_it (d_M_dearest_4 q1) z_F ((jg 1), (jn 0), (jn 0))).bind fun q5 => some ((q5.1, q1.2)))))
/-- FlagLaundryModel.dearest()I -/
theorem t_M_dearest {G : z_G} {w : ev_W} (ok : z_Ok G w) {I : z_H} {r : Int32 × z_H} (h : d_M_dearest I = some r) : z_K G 336 [.ref (241)] (z_w w I) (.inl (some (.int r.1))) (z_w w r.2) := by
  refine z_con ok.1 (ml := 5) (by decide +kernel) rfl rfl ?_
  show z_R G 336 0 [some (.ref (241)), none, none, none, none] [] (z_w w I) (.inl (some (.int r.1))) (z_w w r.2)
  unfold d_M_dearest at h
  have hB : z_all [z_is 336 0 (zf_aload 0 0 1), z_is 336 1 (zf_cv 1 208 0 8 4), z_is 336 4 (zf_if1 .ne 4 9 7)] = true := by decide +kernel
  refine z_aload hB rfl (fun hB => ?_)
  obtain ⟨q1, e2, h⟩ := z_bind h
  refine y_cv ok hB (as := []) (a := 241) (rest := []) rfl rfl rfl (by decide +kernel) (t_M_mayLook (I := I) ok e2) (fun hB => ?_)
  refine z_if_ne hB (fun hc _ => ?_) (fun hc _ => ?_)
  · have h := z_neg hc h
    have hB : z_all [z_is 336 9 (zf_cst 9 (jg 1) 10), z_is 336 10 (zf_istore 10 1 11), z_is 336 11 (zf_cst 11 (jn 0) 12), z_is 336 12 (zf_istore 12 2 13), z_is 336 13 (zf_cst 13 (jn 0) 14), z_is 336 14 (zf_istore 14 3 15)] = true := by decide +kernel
    refine z_cst hB (fun hB => ?_)
    refine z_istore hB rfl rfl (fun hB => ?_)
    refine z_cst hB (fun hB => ?_)
    refine z_istore hB rfl rfl (fun hB => ?_)
    refine z_cst hB (fun hB => ?_)
    refine z_istore hB rfl rfl (fun hB => ?_)
    obtain ⟨q5, e6, h⟩ := z_bind h
    have k7 : z_R G 336 61 [none, some (.int (q5.1)), none, none, none] [] (z_w w q1.2) (.inl (some (.int r.1))) (z_w w r.2) := by
      have hB : z_all [z_is 336 61 (zf_iload 61 1 62), z_is 336 62 (zf_ret 0)] = true := by decide +kernel
      refine z_iload hB rfl (fun hB => ?_)
      cases h
      exact z_reti hB
    have l4 : ∀ (m4 : Nat) (p3 : Int32 × Int32 × Int32), z_it (d_M_dearest_4 q1) m4 p3 = some q5 → z_R G 336 15 [some (.ref (241)), some (.int (p3.1)), some (.int (p3.2.1)), some (.int (p3.2.2)), none] [] (z_w w q1.2) (.inl (some (.int r.1))) (z_w w r.2) := by
      intro m4
      induction m4 with
      | zero => intro p3 h; cases h
      | succ m4 i4 =>
        intro p3 h
        obtain ⟨u4, h, b4⟩ := z_it_o h
        unfold d_M_dearest_4 at h
        have hB : z_all [z_is 336 15 (zf_iload 15 3 16), z_is 336 16 (zf_aload 16 0 17), z_is 336 17 (zf_getr 17 8 1 20), z_is 336 20 (zf_cst 20 (jn 7) 22), z_is 336 22 (zf_iald 22 23), z_is 336 23 (zf_if2 .ge 23 61 26)] = true := by decide +kernel
        refine z_iload hB rfl (fun hB => ?_)
        refine z_aload hB rfl (fun hB => ?_)
        refine y_getr (b := 242) ok hB (by decide +kernel) (by decide +kernel) (fun hB => ?_)
        refine z_cst hB (fun hB => ?_)
        obtain ⟨g8, h⟩ := z_gd h
        refine y_iald ok hB (by decide +kernel) (by decide +kernel) g8 (fun hB => ?_)
        refine z_ic_ge hB (fun hc _ => ?_) (fun hc _ => ?_)
        · have h := z_neg hc h
          cases h
          cases b4
          exact z_weak k7 (z_sn (z_se (z_sn (z_sn (z_sn z_s0)))))
        · have h := z_pos hc h
          have hB : z_all [z_is 336 26 (zf_aload 26 0 27), z_is 336 27 (zf_iload 27 3 28), z_is 336 28 (zf_cst 28 (jn 0) 29), z_is 336 29 (zf_cv 29 332 2 8 32), z_is 336 32 (zf_aload 32 0 33), z_is 336 33 (zf_iload 33 3 34), z_is 336 34 (zf_cst 34 (jn 1) 35), z_is 336 35 (zf_cv 35 332 2 8 38), z_is 336 38 (zf_isub 38 39), z_is 336 39 (zf_istore 39 4 41), z_is 336 41 (zf_iload 41 4 43), z_is 336 43 (zf_iload 43 2 44), z_is 336 44 (zf_if2 .gt 44 50 47)] = true := by decide +kernel
          refine z_aload hB rfl (fun hB => ?_)
          refine z_iload hB rfl (fun hB => ?_)
          refine z_cst hB (fun hB => ?_)
          obtain ⟨q9, e10, h⟩ := z_bind h
          refine y_cv ok hB (as := [.int (p3.2.2), .int ((jn 0))]) (a := 241) (rest := []) rfl rfl rfl (by decide +kernel) (t_M_payIn (I := q1.2) ok e10) (fun hB => ?_)
          refine z_aload hB rfl (fun hB => ?_)
          refine z_iload hB rfl (fun hB => ?_)
          refine z_cst hB (fun hB => ?_)
          obtain ⟨q11, e12, h⟩ := z_bind h
          refine y_cv ok hB (as := [.int (p3.2.2), .int ((jn 1))]) (a := 241) (rest := [.int (q9)]) rfl rfl rfl (by decide +kernel) (t_M_payIn (I := q1.2) ok e12) (fun hB => ?_)
          refine z_isub hB (fun hB => ?_)
          refine z_istore hB rfl rfl (fun hB => ?_)
          refine z_iload hB rfl (fun hB => ?_)
          refine z_iload hB rfl (fun hB => ?_)
          obtain ⟨q13, e14, h⟩ := z_bind h
          have k15 : z_R G 336 55 [some (.ref (241)), some (.int (q13.1)), some (.int (q13.2)), some (.int (p3.2.2)), none] [] (z_w w q1.2) (.inl (some (.int r.1))) (z_w w r.2) := by
            have hB : z_all [z_is 336 55 (zf_iinc 55 3 (jn 1) 58), z_is 336 58 (zf_goto 58 15)] = true := by decide +kernel
            refine z_iinc hB rfl rfl (fun hB => ?_)
            refine z_goto hB (fun hB => ?_)
            cases h
            exact z_weak (i4 (q13.1, q13.2, (p3.2.2 + (jn 1))) b4) (z_se (z_se (z_se (z_se (z_sn z_s0)))))
          have h := e14
          refine z_ic_gt hB (fun hc _ => ?_) (fun hc _ => ?_)
          · have h := z_pos hc h
            have hB : z_all [z_is 336 50 (zf_iload 50 4 52), z_is 336 52 (zf_istore 52 2 53), z_is 336 53 (zf_iload 53 3 54), z_is 336 54 (zf_istore 54 1 55)] = true := by decide +kernel
            refine z_iload hB rfl (fun hB => ?_)
            refine z_istore hB rfl rfl (fun hB => ?_)
            refine z_iload hB rfl (fun hB => ?_)
            refine z_istore hB rfl rfl (fun hB => ?_)
            cases h
            exact z_weak k15 (z_se (z_se (z_se (z_se (z_sn z_s0)))))
          · have h := z_neg hc h
            have hB : z_all [z_is 336 47 (zf_goto 47 55)] = true := by decide +kernel
            refine z_goto hB (fun hB => ?_)
            cases h
            exact z_weak k15 (z_se (z_se (z_se (z_se (z_sn z_s0)))))
    exact z_weak (l4 _ ((jg 1), (jn 0), (jn 0)) e6) (z_se (z_se (z_se (z_se (z_sn z_s0)))))
  · have h := z_pos hc h
    have hB : z_all [z_is 336 7 (zf_cst 7 (jn 0) 8), z_is 336 8 (zf_ret 0)] = true := by decide +kernel
    refine z_cst hB (fun hB => ?_)
    cases h
    exact z_reti hB
def d_M_ironsUntil_4 (x1 : Int32) (x2 : Int32) (p3 : Int32 × z_H) : Option ((Int32 × z_H) ⊕ (Int32 × z_H)) := ((d_M_ofFlag (x1) ((jn 5)) p3.2).bind fun q10 => (if jn 0 < q10 then ((d_M_irons (x1) (x2) p3.2).bind fun q12 => some (Sum.inl ((p3.1 + (jn 1)), q12))) else some (Sum.inr (p3.1, p3.2))))
def d_M_ironsUntil (x1 : Int32) (x2 : Int32) (I : z_H) : Option (Int32 × z_H) := ((d_M_thinks I).bind fun q1 => ((z_it (d_M_ironsUntil_4 x1 x2) z_F ((jn 0), q1)).bind fun q5 => ((d_M_back (q5.1) q5.2).bind fun q8 => some ((q8.1, q8.2)))))
/-- FlagLaundryModel.ironsUntil(II)I -/
theorem t_M_ironsUntil {G : z_G} {w : ev_W} (ok : z_Ok G w) {x1 : Int32} {x2 : Int32} {I : z_H} {r : Int32 × z_H} (h : d_M_ironsUntil x1 x2 I = some r) : z_K G 337 [.ref (241), .int (x1), .int (x2)] (z_w w I) (.inl (some (.int r.1))) (z_w w r.2) := by
  refine z_con ok.1 (ml := 4) (by decide +kernel) rfl rfl ?_
  show z_R G 337 0 [some (.ref (241)), some (.int (x1)), some (.int (x2)), none] [] (z_w w I) (.inl (some (.int r.1))) (z_w w r.2)
  unfold d_M_ironsUntil at h
  have hB : z_all [z_is 337 0 (zf_cst 0 (jn 0) 1), z_is 337 1 (zf_istore 1 3 2), z_is 337 2 (zf_aload 2 0 3), z_is 337 3 (zf_cv 3 210 0 8 6)] = true := by decide +kernel
  refine z_cst hB (fun hB => ?_)
  refine z_istore hB rfl rfl (fun hB => ?_)
  refine z_aload hB rfl (fun hB => ?_)
  obtain ⟨q1, e2, h⟩ := z_bind h
  refine y_cv ok hB (as := []) (a := 241) (rest := []) rfl rfl rfl (by decide +kernel) (t_M_thinks (I := I) ok e2) (fun hB => ?_)
  obtain ⟨q5, e6, h⟩ := z_bind h
  have k7 : z_R G 337 27 [some (.ref (241)), none, none, some (.int (q5.1))] [] (z_w w q5.2) (.inl (some (.int r.1))) (z_w w r.2) := by
    have hB : z_all [z_is 337 27 (zf_aload 27 0 28), z_is 337 28 (zf_iload 28 3 29), z_is 337 29 (zf_cv 29 211 1 8 32), z_is 337 32 (zf_ret 0)] = true := by decide +kernel
    refine z_aload hB rfl (fun hB => ?_)
    refine z_iload hB rfl (fun hB => ?_)
    obtain ⟨q8, e9, h⟩ := z_bind h
    refine y_cv ok hB (as := [.int (q5.1)]) (a := 241) (rest := []) rfl rfl rfl (by decide +kernel) (t_M_back (I := q5.2) ok e9) (fun hB => ?_)
    cases h
    exact z_reti hB
  have l4 : ∀ (m4 : Nat) (p3 : Int32 × z_H), z_it (d_M_ironsUntil_4 x1 x2) m4 p3 = some q5 → z_R G 337 6 [some (.ref (241)), some (.int (x1)), some (.int (x2)), some (.int (p3.1))] [] (z_w w p3.2) (.inl (some (.int r.1))) (z_w w r.2) := by
    intro m4
    induction m4 with
    | zero => intro p3 h; cases h
    | succ m4 i4 =>
      intro p3 h
      obtain ⟨u4, h, b4⟩ := z_it_o h
      unfold d_M_ironsUntil_4 at h
      have hB : z_all [z_is 337 6 (zf_aload 6 0 7), z_is 337 7 (zf_iload 7 1 8), z_is 337 8 (zf_cst 8 (jn 5) 9), z_is 337 9 (zf_cv 9 242 2 8 12), z_is 337 12 (zf_if1 .le 12 27 15)] = true := by decide +kernel
      refine z_aload hB rfl (fun hB => ?_)
      refine z_iload hB rfl (fun hB => ?_)
      refine z_cst hB (fun hB => ?_)
      obtain ⟨q10, e11, h⟩ := z_bind h
      refine y_cv ok hB (as := [.int (x1), .int ((jn 5))]) (a := 241) (rest := []) rfl rfl rfl (by decide +kernel) (t_M_ofFlag (I := p3.2) ok e11) (fun hB => ?_)
      refine z_if_le hB (fun hc _ => ?_) (fun hc _ => ?_)
      · have h := z_neg hc h
        cases h
        cases b4
        exact z_weak k7 (z_se (z_sn (z_sn (z_se z_s0))))
      · have h := z_pos hc h
        have hB : z_all [z_is 337 15 (zf_aload 15 0 16), z_is 337 16 (zf_iload 16 1 17), z_is 337 17 (zf_iload 17 2 18), z_is 337 18 (zf_cv 18 274 2 8 21), z_is 337 21 (zf_iinc 21 3 (jn 1) 24), z_is 337 24 (zf_goto 24 6)] = true := by decide +kernel
        refine z_aload hB rfl (fun hB => ?_)
        refine z_iload hB rfl (fun hB => ?_)
        refine z_iload hB rfl (fun hB => ?_)
        obtain ⟨q12, e13, h⟩ := z_bind h
        refine y_cv ok hB (as := [.int (x1), .int (x2)]) (a := 241) (rest := []) rfl rfl rfl (by decide +kernel) (t_M_irons (I := p3.2) ok e13) (fun hB => ?_)
        refine z_iinc hB rfl rfl (fun hB => ?_)
        refine z_goto hB (fun hB => ?_)
        cases h
        exact z_weak (i4 ((p3.1 + (jn 1)), q12) b4) (z_se (z_se (z_se (z_se z_s0))))
  exact z_weak (l4 _ ((jn 0), q1) e6) (z_se (z_se (z_se (z_se z_s0))))
def d_M_ironsFor (x1 : Int32) (x2 : Int32) (I : z_H) : Option (Int32 × z_H) := ((d_M_isFlag (x1) I).bind fun q1 => ((d_M_isHeat (x2)).bind fun q3 => ((d_M_may ((I 241 6)) (q1) (q3) I).bind fun q5 => (if q5.1 = jn 0 then some (((jn 0), q5.2)) else ((d_M_ofFlag (x1) ((jn 5)) q5.2).bind fun q7 => (if q7 = jn 0 then some (((jn 0), q5.2)) else ((d_M_whyIron (x1) (x2) q5.2).bind fun q9 => (Option.bind (α := Int32 × z_H) (if q9 = jn 0 then ((d_M_ironsUntil (x1) (x2) q5.2).bind fun q14 => some (q14.1, q14.2)) else some ((jg 1), q5.2)) fun q11 => some ((q11.1, q11.2))))))))))
/-- FlagLaundryModel.ironsFor(II)I -/
theorem t_M_ironsFor {G : z_G} {w : ev_W} (ok : z_Ok G w) {x1 : Int32} {x2 : Int32} {I : z_H} {r : Int32 × z_H} (h : d_M_ironsFor x1 x2 I = some r) : z_K G 338 [.ref (241), .int (x1), .int (x2)] (z_w w I) (.inl (some (.int r.1))) (z_w w r.2) := by
  refine z_con ok.1 (ml := 3) (by decide +kernel) rfl rfl ?_
  show z_R G 338 0 [some (.ref (241)), some (.int (x1)), some (.int (x2))] [] (z_w w I) (.inl (some (.int r.1))) (z_w w r.2)
  unfold d_M_ironsFor at h
  have hB : z_all [z_is 338 0 (zf_aload 0 0 1), z_is 338 1 (zf_aload 1 0 2), z_is 338 2 (zf_geti 2 8 6 5), z_is 338 5 (zf_aload 5 0 6), z_is 338 6 (zf_iload 6 1 7), z_is 338 7 (zf_cv 7 285 1 8 10), z_is 338 10 (zf_iload 10 2 11), z_is 338 11 (zf_cs 11 287 1 14), z_is 338 14 (zf_cv 14 206 3 8 17), z_is 338 17 (zf_if1 .ne 17 22 20)] = true := by decide +kernel
  refine z_aload hB rfl (fun hB => ?_)
  refine z_aload hB rfl (fun hB => ?_)
  refine y_geti ok hB (by decide +kernel) (fun hB => ?_)
  refine z_aload hB rfl (fun hB => ?_)
  refine z_iload hB rfl (fun hB => ?_)
  obtain ⟨q1, e2, h⟩ := z_bind h
  refine y_cv ok hB (as := [.int (x1)]) (a := 241) (rest := [.int ((I 241 6)), .ref (241)]) rfl rfl rfl (by decide +kernel) (t_M_isFlag (I := I) ok e2) (fun hB => ?_)
  refine z_iload hB rfl (fun hB => ?_)
  obtain ⟨q3, e4, h⟩ := z_bind h
  refine z_callS hB (as := [.int (x2)]) (rest := [.int (q1), .int ((I 241 6)), .ref (241)]) rfl rfl rfl (t_M_isHeat (I := I) ok e4) (fun hB => ?_)
  obtain ⟨q5, e6, h⟩ := z_bind h
  refine y_cv ok hB (as := [.int ((I 241 6)), .int (q1), .int (q3)]) (a := 241) (rest := []) rfl rfl rfl (by decide +kernel) (t_M_may (I := I) ok e6) (fun hB => ?_)
  refine z_if_ne hB (fun hc _ => ?_) (fun hc _ => ?_)
  · have h := z_neg hc h
    have hB : z_all [z_is 338 22 (zf_aload 22 0 23), z_is 338 23 (zf_iload 23 1 24), z_is 338 24 (zf_cst 24 (jn 5) 25), z_is 338 25 (zf_cv 25 242 2 8 28), z_is 338 28 (zf_if1 .ne 28 33 31)] = true := by decide +kernel
    refine z_aload hB rfl (fun hB => ?_)
    refine z_iload hB rfl (fun hB => ?_)
    refine z_cst hB (fun hB => ?_)
    obtain ⟨q7, e8, h⟩ := z_bind h
    refine y_cv ok hB (as := [.int (x1), .int ((jn 5))]) (a := 241) (rest := []) rfl rfl rfl (by decide +kernel) (t_M_ofFlag (I := q5.2) ok e8) (fun hB => ?_)
    refine z_if_ne hB (fun hc _ => ?_) (fun hc _ => ?_)
    · have h := z_neg hc h
      have hB : z_all [z_is 338 33 (zf_aload 33 0 34), z_is 338 34 (zf_iload 34 1 35), z_is 338 35 (zf_iload 35 2 36), z_is 338 36 (zf_cv 36 273 2 8 39), z_is 338 39 (zf_if1 .ne 39 51 42)] = true := by decide +kernel
      refine z_aload hB rfl (fun hB => ?_)
      refine z_iload hB rfl (fun hB => ?_)
      refine z_iload hB rfl (fun hB => ?_)
      obtain ⟨q9, e10, h⟩ := z_bind h
      refine y_cv ok hB (as := [.int (x1), .int (x2)]) (a := 241) (rest := []) rfl rfl rfl (by decide +kernel) (t_M_whyIron (I := q5.2) ok e10) (fun hB => ?_)
      obtain ⟨q11, e12, h⟩ := z_bind h
      have k13 : z_R G 338 52 [none, none, none] [.int (q11.1)] (z_w w q11.2) (.inl (some (.int r.1))) (z_w w r.2) := by
        have hB : z_all [z_is 338 52 (zf_ret 0)] = true := by decide +kernel
        cases h
        exact z_reti hB
      have h := e12
      refine z_if_ne hB (fun hc _ => ?_) (fun hc _ => ?_)
      · have h := z_neg hc h
        have hB : z_all [z_is 338 51 (zf_cst 51 (jg 1) 52)] = true := by decide +kernel
        refine z_cst hB (fun hB => ?_)
        cases h
        exact z_weak k13 (z_sn (z_sn (z_sn z_s0)))
      · have h := z_pos hc h
        have hB : z_all [z_is 338 42 (zf_aload 42 0 43), z_is 338 43 (zf_iload 43 1 44), z_is 338 44 (zf_iload 44 2 45), z_is 338 45 (zf_cv 45 337 2 8 48), z_is 338 48 (zf_goto 48 52)] = true := by decide +kernel
        refine z_aload hB rfl (fun hB => ?_)
        refine z_iload hB rfl (fun hB => ?_)
        refine z_iload hB rfl (fun hB => ?_)
        obtain ⟨q14, e15, h⟩ := z_bind h
        refine y_cv ok hB (as := [.int (x1), .int (x2)]) (a := 241) (rest := []) rfl rfl rfl (by decide +kernel) (t_M_ironsUntil (I := q5.2) ok e15) (fun hB => ?_)
        refine z_goto hB (fun hB => ?_)
        cases h
        exact z_weak k13 (z_sn (z_sn (z_sn z_s0)))
    · have h := z_pos hc h
      have hB : z_all [z_is 338 31 (zf_cst 31 (jn 0) 32), z_is 338 32 (zf_ret 0)] = true := by decide +kernel
      refine z_cst hB (fun hB => ?_)
      cases h
      exact z_reti hB
  · have h := z_pos hc h
    have hB : z_all [z_is 338 20 (zf_cst 20 (jn 0) 21), z_is 338 21 (zf_ret 0)] = true := by decide +kernel
    refine z_cst hB (fun hB => ?_)
    cases h
    exact z_reti hB
def d_M_readyShare  (I : z_H) : Option (UInt32 × z_H) := ((d_M_mayLook I).bind fun q1 => (Option.bind (α := UInt32) (if q1.1 = jn 0 then some (FP.fconst0) else (if z_in ((jn 10)) 173 then (if jn 0 < (q1.2 242 (z_n ((jn 10)))) then ((d_M_readyMany q1.2).bind fun q7 => ((d_M_flagsAt ((jn 3)) q1.2).bind fun q9 => (if z_in ((jn 10)) 173 then (if (FP.fdiv (FP.i2f (q7 + q9)) (FP.i2f (q1.2 242 (z_n ((jn 10)))))) &&& 0x7fffffff ≤ 0x7f800000 then some ((FP.fdiv (FP.i2f (q7 + q9)) (FP.i2f (q1.2 242 (z_n ((jn 10))))))) else none) else none))) else some (FP.fconst0)) else none)) fun q3 => some ((q3, q1.2))))
/-- FlagLaundryModel.readyShare()F -/
theorem t_M_readyShare {G : z_G} {w : ev_W} (ok : z_Ok G w) {I : z_H} {r : UInt32 × z_H} (h : d_M_readyShare I = some r) : z_K G 339 [.ref (241)] (z_w w I) (.inl (some (.float r.1))) (z_w w r.2) := by
  refine z_con ok.1 (ml := 1) (by decide +kernel) rfl rfl ?_
  show z_R G 339 0 [some (.ref (241))] [] (z_w w I) (.inl (some (.float r.1))) (z_w w r.2)
  unfold d_M_readyShare at h
  have hB : z_all [z_is 339 0 (zf_aload 0 0 1), z_is 339 1 (zf_cv 1 208 0 8 4), z_is 339 4 (zf_if1 .eq 4 40 7)] = true := by decide +kernel
  refine z_aload hB rfl (fun hB => ?_)
  obtain ⟨q1, e2, h⟩ := z_bind h
  refine y_cv ok hB (as := []) (a := 241) (rest := []) rfl rfl rfl (by decide +kernel) (t_M_mayLook (I := I) ok e2) (fun hB => ?_)
  obtain ⟨q3, e4, h⟩ := z_bind h
  have k5 : z_R G 339 41 [none] [.float (q3)] (z_w w q1.2) (.inl (some (.float r.1))) (z_w w r.2) := by
    have hB : z_all [z_is 339 41 (zf_ret 3)] = true := by decide +kernel
    cases h
    exact z_retf hB
  have h := e4
  refine z_if_eq hB (fun hc _ => ?_) (fun hc _ => ?_)
  · have h := z_pos hc h
    have hB : z_all [z_is 339 40 (zf_fc0 40 41)] = true := by decide +kernel
    refine z_fc0 hB (fun hB => ?_)
    cases h
    exact z_weak k5 (z_sn z_s0)
  · have h := z_neg hc h
    have hB : z_all [z_is 339 7 (zf_aload 7 0 8), z_is 339 8 (zf_getr 8 8 1 11), z_is 339 11 (zf_cst 11 (jn 10) 13), z_is 339 13 (zf_iald 13 14), z_is 339 14 (zf_if1 .le 14 40 17)] = true := by decide +kernel
    refine z_aload hB rfl (fun hB => ?_)
    refine y_getr (b := 242) ok hB (by decide +kernel) (by decide +kernel) (fun hB => ?_)
    refine z_cst hB (fun hB => ?_)
    obtain ⟨g6, h⟩ := z_gd h
    refine y_iald ok hB (by decide +kernel) (by decide +kernel) g6 (fun hB => ?_)
    refine z_if_le hB (fun hc _ => ?_) (fun hc _ => ?_)
    · have h := z_neg hc h
      have hB : z_all [z_is 339 40 (zf_fc0 40 41)] = true := by decide +kernel
      refine z_fc0 hB (fun hB => ?_)
      cases h
      exact z_weak k5 (z_sn z_s0)
    · have h := z_pos hc h
      have hB : z_all [z_is 339 17 (zf_aload 17 0 18), z_is 339 18 (zf_cv 18 281 0 8 21), z_is 339 21 (zf_aload 21 0 22), z_is 339 22 (zf_cst 22 (jn 3) 23), z_is 339 23 (zf_cv 23 280 1 8 26), z_is 339 26 (zf_iadd 26 27), z_is 339 27 (zf_i2f 27 28), z_is 339 28 (zf_aload 28 0 29), z_is 339 29 (zf_getr 29 8 1 32), z_is 339 32 (zf_cst 32 (jn 10) 34), z_is 339 34 (zf_iald 34 35), z_is 339 35 (zf_i2f 35 36), z_at 339 36 (zf_fdiv 36 37), z_is 339 37 (zf_goto 37 41)] = true := by decide +kernel
      refine z_aload hB rfl (fun hB => ?_)
      obtain ⟨q7, e8, h⟩ := z_bind h
      refine y_cv ok hB (as := []) (a := 241) (rest := []) rfl rfl rfl (by decide +kernel) (t_M_readyMany (I := q1.2) ok e8) (fun hB => ?_)
      refine z_aload hB rfl (fun hB => ?_)
      refine z_cst hB (fun hB => ?_)
      obtain ⟨q9, e10, h⟩ := z_bind h
      refine y_cv ok hB (as := [.int ((jn 3))]) (a := 241) (rest := [.int (q7)]) rfl rfl rfl (by decide +kernel) (t_M_flagsAt (I := q1.2) ok e10) (fun hB => ?_)
      refine z_iadd hB (fun hB => ?_)
      refine z_i2f hB (fun hB => ?_)
      refine z_aload hB rfl (fun hB => ?_)
      refine y_getr (b := 242) ok hB (by decide +kernel) (by decide +kernel) (fun hB => ?_)
      refine z_cst hB (fun hB => ?_)
      obtain ⟨g11, h⟩ := z_gd h
      refine y_iald ok hB (by decide +kernel) (by decide +kernel) g11 (fun hB => ?_)
      refine z_i2f hB (fun hB => ?_)
      obtain ⟨g12, h⟩ := z_gd h
      refine z_fdiv hB g12 (fun hB => ?_)
      refine z_goto hB (fun hB => ?_)
      cases h
      exact z_weak k5 (z_sn z_s0)
def d_M_allDirt_2 (I : z_H) (p1 : Int32 × Int32) : Option ((Int32 × Int32) ⊕ (Int32 × Int32)) := (if z_in ((jn 10)) 173 then (if p1.2 < (I 242 (z_n ((jn 10)))) then ((d_M_ofFlag (p1.2) ((jn 3)) I).bind fun q7 => some (Sum.inl ((p1.1 + q7), (p1.2 + (jn 1))))) else some (Sum.inr (p1.1, p1.2))) else none)
def d_M_allDirt  (I : z_H) : Option (Int32) := ((z_it (d_M_allDirt_2 I) z_F ((jn 0), (jn 0))).bind fun q3 => some (q3.1))
/-- FlagLaundryModel.allDirt()I -/
theorem t_M_allDirt {G : z_G} {w : ev_W} (ok : z_Ok G w) {I : z_H} {r : Int32} (h : d_M_allDirt I = some r) : z_K G 340 [.ref (241)] (z_w w I) (.inl (some (.int r))) (z_w w I) := by
  refine z_con ok.1 (ml := 3) (by decide +kernel) rfl rfl ?_
  show z_R G 340 0 [some (.ref (241)), none, none] [] (z_w w I) (.inl (some (.int r))) (z_w w I)
  unfold d_M_allDirt at h
  have hB : z_all [z_is 340 0 (zf_cst 0 (jn 0) 1), z_is 340 1 (zf_istore 1 1 2), z_is 340 2 (zf_cst 2 (jn 0) 3), z_is 340 3 (zf_istore 3 2 4)] = true := by decide +kernel
  refine z_cst hB (fun hB => ?_)
  refine z_istore hB rfl rfl (fun hB => ?_)
  refine z_cst hB (fun hB => ?_)
  refine z_istore hB rfl rfl (fun hB => ?_)
  obtain ⟨q3, e4, h⟩ := z_bind h
  have k5 : z_R G 340 30 [none, some (.int (q3.1)), none] [] (z_w w I) (.inl (some (.int r))) (z_w w I) := by
    have hB : z_all [z_is 340 30 (zf_iload 30 1 31), z_is 340 31 (zf_ret 0)] = true := by decide +kernel
    refine z_iload hB rfl (fun hB => ?_)
    cases h
    exact z_reti hB
  have l2 : ∀ (m2 : Nat) (p1 : Int32 × Int32), z_it (d_M_allDirt_2 I) m2 p1 = some q3 → z_R G 340 4 [some (.ref (241)), some (.int (p1.1)), some (.int (p1.2))] [] (z_w w I) (.inl (some (.int r))) (z_w w I) := by
    intro m2
    induction m2 with
    | zero => intro p1 h; cases h
    | succ m2 i2 =>
      intro p1 h
      obtain ⟨u2, h, b2⟩ := z_it_o h
      unfold d_M_allDirt_2 at h
      have hB : z_all [z_is 340 4 (zf_iload 4 2 5), z_is 340 5 (zf_aload 5 0 6), z_is 340 6 (zf_getr 6 8 1 9), z_is 340 9 (zf_cst 9 (jn 10) 11), z_is 340 11 (zf_iald 11 12), z_is 340 12 (zf_if2 .ge 12 30 15)] = true := by decide +kernel
      refine z_iload hB rfl (fun hB => ?_)
      refine z_aload hB rfl (fun hB => ?_)
      refine y_getr (b := 242) ok hB (by decide +kernel) (by decide +kernel) (fun hB => ?_)
      refine z_cst hB (fun hB => ?_)
      obtain ⟨g6, h⟩ := z_gd h
      refine y_iald ok hB (by decide +kernel) (by decide +kernel) g6 (fun hB => ?_)
      refine z_ic_ge hB (fun hc _ => ?_) (fun hc _ => ?_)
      · have h := z_neg hc h
        cases h
        cases b2
        exact z_weak k5 (z_sn (z_se (z_sn z_s0)))
      · have h := z_pos hc h
        have hB : z_all [z_is 340 15 (zf_iload 15 1 16), z_is 340 16 (zf_aload 16 0 17), z_is 340 17 (zf_iload 17 2 18), z_is 340 18 (zf_cst 18 (jn 3) 19), z_is 340 19 (zf_cv 19 242 2 8 22), z_is 340 22 (zf_iadd 22 23), z_is 340 23 (zf_istore 23 1 24), z_is 340 24 (zf_iinc 24 2 (jn 1) 27), z_is 340 27 (zf_goto 27 4)] = true := by decide +kernel
        refine z_iload hB rfl (fun hB => ?_)
        refine z_aload hB rfl (fun hB => ?_)
        refine z_iload hB rfl (fun hB => ?_)
        refine z_cst hB (fun hB => ?_)
        obtain ⟨q7, e8, h⟩ := z_bind h
        refine y_cv ok hB (as := [.int (p1.2), .int ((jn 3))]) (a := 241) (rest := [.int (p1.1)]) rfl rfl rfl (by decide +kernel) (t_M_ofFlag (I := I) ok e8) (fun hB => ?_)
        refine z_iadd hB (fun hB => ?_)
        refine z_istore hB rfl rfl (fun hB => ?_)
        refine z_iinc hB rfl rfl (fun hB => ?_)
        refine z_goto hB (fun hB => ?_)
        cases h
        exact z_weak (i2 ((p1.1 + q7), (p1.2 + (jn 1))) b2) (z_se (z_se (z_se z_s0)))
  exact z_weak (l2 _ ((jn 0), (jn 0)) e4) (z_se (z_se (z_se z_s0)))
def d_M_meanDirt  (I : z_H) : Option (UInt64 × z_H) := ((d_M_mayLook I).bind fun q1 => (Option.bind (α := UInt64) (if q1.1 = jn 0 then some (FP.dconst0) else (if z_in ((jn 10)) 173 then (if jn 0 < (q1.2 242 (z_n ((jn 10)))) then ((d_M_allDirt q1.2).bind fun q7 => (if z_in ((jn 10)) 173 then (if (FP.ddiv (FP.i2d q7) (FP.i2d (q1.2 242 (z_n ((jn 10)))))) &&& 0x7fffffffffffffff ≤ 0x7ff0000000000000 then some ((FP.ddiv (FP.i2d q7) (FP.i2d (q1.2 242 (z_n ((jn 10))))))) else none) else none)) else some (FP.dconst0)) else none)) fun q3 => some ((q3, q1.2))))
/-- FlagLaundryModel.meanDirt()D -/
theorem t_M_meanDirt {G : z_G} {w : ev_W} (ok : z_Ok G w) {I : z_H} {r : UInt64 × z_H} (h : d_M_meanDirt I = some r) : z_K G 341 [.ref (241)] (z_w w I) (.inl (some (.double r.1))) (z_w w r.2) := by
  refine z_con ok.1 (ml := 1) (by decide +kernel) rfl rfl ?_
  show z_R G 341 0 [some (.ref (241))] [] (z_w w I) (.inl (some (.double r.1))) (z_w w r.2)
  unfold d_M_meanDirt at h
  have hB : z_all [z_is 341 0 (zf_aload 0 0 1), z_is 341 1 (zf_cv 1 208 0 8 4), z_is 341 4 (zf_if1 .eq 4 34 7)] = true := by decide +kernel
  refine z_aload hB rfl (fun hB => ?_)
  obtain ⟨q1, e2, h⟩ := z_bind h
  refine y_cv ok hB (as := []) (a := 241) (rest := []) rfl rfl rfl (by decide +kernel) (t_M_mayLook (I := I) ok e2) (fun hB => ?_)
  obtain ⟨q3, e4, h⟩ := z_bind h
  have k5 : z_R G 341 35 [none] [.double (q3)] (z_w w q1.2) (.inl (some (.double r.1))) (z_w w r.2) := by
    have hB : z_all [z_is 341 35 (zf_ret 4)] = true := by decide +kernel
    cases h
    exact z_retd hB
  have h := e4
  refine z_if_eq hB (fun hc _ => ?_) (fun hc _ => ?_)
  · have h := z_pos hc h
    have hB : z_all [z_is 341 34 (zf_dc0 34 35)] = true := by decide +kernel
    refine z_dc0 hB (fun hB => ?_)
    cases h
    exact z_weak k5 (z_sn z_s0)
  · have h := z_neg hc h
    have hB : z_all [z_is 341 7 (zf_aload 7 0 8), z_is 341 8 (zf_getr 8 8 1 11), z_is 341 11 (zf_cst 11 (jn 10) 13), z_is 341 13 (zf_iald 13 14), z_is 341 14 (zf_if1 .le 14 34 17)] = true := by decide +kernel
    refine z_aload hB rfl (fun hB => ?_)
    refine y_getr (b := 242) ok hB (by decide +kernel) (by decide +kernel) (fun hB => ?_)
    refine z_cst hB (fun hB => ?_)
    obtain ⟨g6, h⟩ := z_gd h
    refine y_iald ok hB (by decide +kernel) (by decide +kernel) g6 (fun hB => ?_)
    refine z_if_le hB (fun hc _ => ?_) (fun hc _ => ?_)
    · have h := z_neg hc h
      have hB : z_all [z_is 341 34 (zf_dc0 34 35)] = true := by decide +kernel
      refine z_dc0 hB (fun hB => ?_)
      cases h
      exact z_weak k5 (z_sn z_s0)
    · have h := z_pos hc h
      have hB : z_all [z_is 341 17 (zf_aload 17 0 18), z_is 341 18 (zf_cv 18 340 0 8 21), z_is 341 21 (zf_i2d 21 22), z_is 341 22 (zf_aload 22 0 23), z_is 341 23 (zf_getr 23 8 1 26), z_is 341 26 (zf_cst 26 (jn 10) 28), z_is 341 28 (zf_iald 28 29), z_is 341 29 (zf_i2d 29 30), z_at 341 30 (zf_ddiv 30 31), z_is 341 31 (zf_goto 31 35)] = true := by decide +kernel
      refine z_aload hB rfl (fun hB => ?_)
      obtain ⟨q7, e8, h⟩ := z_bind h
      refine y_cv ok hB (as := []) (a := 241) (rest := []) rfl rfl rfl (by decide +kernel) (t_M_allDirt (I := q1.2) ok e8) (fun hB => ?_)
      refine z_i2d hB (fun hB => ?_)
      refine z_aload hB rfl (fun hB => ?_)
      refine y_getr (b := 242) ok hB (by decide +kernel) (by decide +kernel) (fun hB => ?_)
      refine z_cst hB (fun hB => ?_)
      obtain ⟨g9, h⟩ := z_gd h
      refine y_iald ok hB (by decide +kernel) (by decide +kernel) g9 (fun hB => ?_)
      refine z_i2d hB (fun hB => ?_)
      obtain ⟨g10, h⟩ := z_gd h
      refine z_ddiv hB g10 (fun hB => ?_)
      refine z_goto hB (fun hB => ?_)
      cases h
      exact z_weak k5 (z_sn z_s0)
def d_M_writesByte (x1 : Int32) (I : z_H) : Option (z_H) := (if z_in ((I 241 19)) 60 then (Option.bind (α := z_H) (some (ev_u2 (ev_u2 I 249 (z_n ((I 241 19))) (vp_nar .byte ((x1).toInt8.toInt32))) 241 19 (((ev_u2 I 249 (z_n ((I 241 19))) (vp_nar .byte ((x1).toInt8.toInt32))) 241 19) + (jn 1)))) fun J2 => some (J2)) else none)
/-- FlagLaundryModel.writesByte(I)V -/
theorem t_M_writesByte {G : z_G} {w : ev_W} (ok : z_Ok G w) {x1 : Int32} {I : z_H} {r : z_H} (h : d_M_writesByte x1 I = some r) : z_K G 342 [.ref (241), .int (x1)] (z_w w I) (.inl none) (z_w w r) := by
  refine z_con ok.1 (ml := 2) (by decide +kernel) rfl rfl ?_
  show z_R G 342 0 [some (.ref (241)), some (.int (x1))] [] (z_w w I) (.inl none) (z_w w r)
  unfold d_M_writesByte at h
  have hB : z_all [z_is 342 0 (zf_aload 0 0 1), z_is 342 1 (zf_getr 1 8 18 4), z_is 342 4 (zf_aload 4 0 5), z_is 342 5 (zf_geti 5 8 19 8), z_is 342 8 (zf_iload 8 1 9), z_is 342 9 (zf_i2b 9 10), z_is 342 10 (zf_bast 10 11), z_is 342 11 (zf_aload 11 0 12), z_is 342 12 (zf_dupr 12 13), z_is 342 13 (zf_geti 13 8 19 16), z_is 342 16 (zf_cst 16 (jn 1) 17), z_is 342 17 (zf_iadd 17 18), z_is 342 18 (zf_puti 18 8 19 21), z_is 342 21 (zf_ret 6)] = true := by decide +kernel
  refine z_aload hB rfl (fun hB => ?_)
  refine y_getr (b := 249) ok hB (by decide +kernel) (by decide +kernel) (fun hB => ?_)
  refine z_aload hB rfl (fun hB => ?_)
  refine y_geti ok hB (by decide +kernel) (fun hB => ?_)
  refine z_iload hB rfl (fun hB => ?_)
  refine z_i2b hB (fun hB => ?_)
  obtain ⟨g1, h⟩ := z_gd h
  refine y_bast ok hB (by decide +kernel) (by decide +kernel) g1 (fun hB => ?_)
  refine z_aload hB rfl (fun hB => ?_)
  refine z_dupr hB (fun hB => ?_)
  refine y_geti ok hB (by decide +kernel) (fun hB => ?_)
  refine z_cst hB (fun hB => ?_)
  refine z_iadd hB (fun hB => ?_)
  refine y_puti ok hB (by decide +kernel) (fun hB => ?_)
  obtain ⟨J2, e3, h⟩ := z_bind h
  rw [z_inj e3]
  cases h
  exact z_retv hB
def d_M_writesNumber (x1 : Int32) (I : z_H) : Option (z_H) := (Option.bind (α := z_H) (if (jn 9) < x1 then ((d_M_writesByte (((jn 48) + (x1 / (jn 10)))) I).bind fun q6 => some (q6)) else some (I)) fun q1 => ((d_M_writesByte (((jn 48) + (x1 - x1 / (jn 10) * (jn 10)))) q1).bind fun q4 => some (q4)))
/-- FlagLaundryModel.writesNumber(I)V -/
theorem t_M_writesNumber {G : z_G} {w : ev_W} (ok : z_Ok G w) {x1 : Int32} {I : z_H} {r : z_H} (h : d_M_writesNumber x1 I = some r) : z_K G 343 [.ref (241), .int (x1)] (z_w w I) (.inl none) (z_w w r) := by
  refine z_con ok.1 (ml := 2) (by decide +kernel) rfl rfl ?_
  show z_R G 343 0 [some (.ref (241)), some (.int (x1))] [] (z_w w I) (.inl none) (z_w w r)
  unfold d_M_writesNumber at h
  have hB : z_all [z_is 343 0 (zf_iload 0 1 1), z_is 343 1 (zf_cst 1 (jn 9) 3), z_is 343 3 (zf_if2 .le 3 17 6)] = true := by decide +kernel
  refine z_iload hB rfl (fun hB => ?_)
  refine z_cst hB (fun hB => ?_)
  obtain ⟨q1, e2, h⟩ := z_bind h
  have k3 : z_R G 343 17 [some (.ref (241)), some (.int (x1))] [] (z_w w q1) (.inl none) (z_w w r) := by
    have hB : z_all [z_is 343 17 (zf_aload 17 0 18), z_is 343 18 (zf_cst 18 (jn 48) 20), z_is 343 20 (zf_iload 20 1 21), z_is 343 21 (zf_cst 21 (jn 10) 23), z_is 343 23 (zf_irem 23 24), z_is 343 24 (zf_iadd 24 25), z_is 343 25 (zf_cv 25 342 1 8 28), z_is 343 28 (zf_ret 6)] = true := by decide +kernel
    refine z_aload hB rfl (fun hB => ?_)
    refine z_cst hB (fun hB => ?_)
    refine z_iload hB rfl (fun hB => ?_)
    refine z_cst hB (fun hB => ?_)
    refine z_irem hB (by decide) (fun hB => ?_)
    refine z_iadd hB (fun hB => ?_)
    obtain ⟨q4, e5, h⟩ := z_bind h
    refine y_cv ok hB (as := [.int (((jn 48) + (x1 - x1 / (jn 10) * (jn 10))))]) (a := 241) (rest := []) rfl rfl rfl (by decide +kernel) (t_M_writesByte (I := q1) ok e5) (fun hB => ?_)
    cases h
    exact z_retv hB
  have h := e2
  refine z_ic_le hB (fun hc _ => ?_) (fun hc _ => ?_)
  · have h := z_neg hc h
    cases h
    exact z_weak k3 (z_se (z_se z_s0))
  · have h := z_pos hc h
    have hB : z_all [z_is 343 6 (zf_aload 6 0 7), z_is 343 7 (zf_cst 7 (jn 48) 9), z_is 343 9 (zf_iload 9 1 10), z_is 343 10 (zf_cst 10 (jn 10) 12), z_is 343 12 (zf_idiv 12 13), z_is 343 13 (zf_iadd 13 14), z_is 343 14 (zf_cv 14 342 1 8 17)] = true := by decide +kernel
    refine z_aload hB rfl (fun hB => ?_)
    refine z_cst hB (fun hB => ?_)
    refine z_iload hB rfl (fun hB => ?_)
    refine z_cst hB (fun hB => ?_)
    refine z_idiv hB (by decide) (fun hB => ?_)
    refine z_iadd hB (fun hB => ?_)
    obtain ⟨q6, e7, h⟩ := z_bind h
    refine y_cv ok hB (as := [.int (((jn 48) + (x1 / (jn 10))))]) (a := 241) (rest := []) rfl rfl rfl (by decide +kernel) (t_M_writesByte (I := I) ok e7) (fun hB => ?_)
    cases h
    exact z_weak k3 (z_se (z_se z_s0))
def d_M_letterOf (x1 : Int32) : Option (Int32) := (Option.bind (α := Int32) (if x1 = jn 0 then some ((jn 98)) else (if x1 = (jn 1) then some ((jn 116)) else (if x1 = (jn 2) then some ((jn 108)) else some ((jn 103))))) fun q1 => some (q1))
/-- FlagLaundryModel.letterOf(I)I -/
theorem t_M_letterOf {G : z_G} {w : ev_W} (ok : z_Ok G w) {x1 : Int32} {I : z_H} {r : Int32} (h : d_M_letterOf x1 = some r) : z_K G 344 [.int (x1)] (z_w w I) (.inl (some (.int r))) (z_w w I) := by
  refine z_con ok.1 (ml := 1) (by decide +kernel) rfl rfl ?_
  show z_R G 344 0 [some (.int (x1))] [] (z_w w I) (.inl (some (.int r))) (z_w w I)
  unfold d_M_letterOf at h
  have hB : z_all [z_is 344 0 (zf_iload 0 0 1), z_is 344 1 (zf_if1 .ne 1 9 4)] = true := by decide +kernel
  refine z_iload hB rfl (fun hB => ?_)
  obtain ⟨q1, e2, h⟩ := z_bind h
  have k3 : z_R G 344 31 [none] [.int (q1)] (z_w w I) (.inl (some (.int r))) (z_w w I) := by
    have hB : z_all [z_is 344 31 (zf_ret 0)] = true := by decide +kernel
    cases h
    exact z_reti hB
  have h := e2
  refine z_if_ne hB (fun hc _ => ?_) (fun hc _ => ?_)
  · have h := z_neg hc h
    have hB : z_all [z_is 344 9 (zf_iload 9 0 10), z_is 344 10 (zf_cst 10 (jn 1) 11), z_is 344 11 (zf_if2 .ne 11 19 14)] = true := by decide +kernel
    refine z_iload hB rfl (fun hB => ?_)
    refine z_cst hB (fun hB => ?_)
    refine z_ic_ne hB (fun hc _ => ?_) (fun hc _ => ?_)
    · have h := z_neg hc h
      have hB : z_all [z_is 344 19 (zf_iload 19 0 20), z_is 344 20 (zf_cst 20 (jn 2) 21), z_is 344 21 (zf_if2 .ne 21 29 24)] = true := by decide +kernel
      refine z_iload hB rfl (fun hB => ?_)
      refine z_cst hB (fun hB => ?_)
      refine z_ic_ne hB (fun hc _ => ?_) (fun hc _ => ?_)
      · have h := z_neg hc h
        have hB : z_all [z_is 344 29 (zf_cst 29 (jn 103) 31)] = true := by decide +kernel
        refine z_cst hB (fun hB => ?_)
        cases h
        exact z_weak k3 (z_sn z_s0)
      · have h := z_pos hc h
        have hB : z_all [z_is 344 24 (zf_cst 24 (jn 108) 26), z_is 344 26 (zf_goto 26 31)] = true := by decide +kernel
        refine z_cst hB (fun hB => ?_)
        refine z_goto hB (fun hB => ?_)
        cases h
        exact z_weak k3 (z_sn z_s0)
    · have h := z_pos hc h
      have hB : z_all [z_is 344 14 (zf_cst 14 (jn 116) 16), z_is 344 16 (zf_goto 16 31)] = true := by decide +kernel
      refine z_cst hB (fun hB => ?_)
      refine z_goto hB (fun hB => ?_)
      cases h
      exact z_weak k3 (z_sn z_s0)
  · have h := z_pos hc h
    have hB : z_all [z_is 344 4 (zf_cst 4 (jn 98) 6), z_is 344 6 (zf_goto 6 31)] = true := by decide +kernel
    refine z_cst hB (fun hB => ?_)
    refine z_goto hB (fun hB => ?_)
    cases h
    exact z_weak k3 (z_sn z_s0)
def d_M_writeFlag_22 (x1 : Int32) (p21 : Int32 × z_H) : Option ((Int32 × z_H) ⊕ (Int32 × z_H)) := (if z_in ((jn 6)) 173 then (if p21.1 < (p21.2 242 (z_n ((jn 6)))) then ((d_M_ofFlag (x1) ((jn 6)) p21.2).bind fun q27 => ((d_M_has (q27) (p21.1)).bind fun q29 => (Option.bind (α := z_H) (if q29 = jn 0 then some (p21.2) else ((d_M_writesByte ((jn 43)) p21.2).bind fun q34 => ((d_M_writesNumber (p21.1) q34).bind fun q36 => some (q36)))) fun q31 => some (Sum.inl ((p21.1 + (jn 1)), q31))))) else some (Sum.inr (p21.1, p21.2))) else none)
def d_M_writeFlag (x1 : Int32) (I : z_H) : Option (Int32 × z_H) := ((d_M_mayFlag (x1) I).bind fun q1 => (if q1.1 = jn 0 then some (((jn 0), q1.2)) else ((d_M_where (x1) (ev_u2 q1.2 241 19 (jn 0))).bind fun q3 => ((d_M_letterOf (q3)).bind fun q5 => ((d_M_writesByte (q5) (ev_u2 q1.2 241 19 (jn 0))).bind fun q7 => ((d_M_ofFlag (x1) ((jn 3)) q7).bind fun q9 => ((d_M_writesNumber (q9) q7).bind fun q11 => ((d_M_ofFlag (x1) ((jn 4)) q11).bind fun q13 => ((d_M_writesNumber (q13) q11).bind fun q15 => ((d_M_ofFlag (x1) ((jn 5)) q15).bind fun q17 => ((d_M_writesNumber (q17) q15).bind fun q19 => ((z_it (d_M_writeFlag_22 x1) z_F ((jn 0), q19)).bind fun q23 => some (((q23.2 241 19), q23.2))))))))))))))
/-- FlagLaundryModel.writeFlag(I)I -/
theorem t_M_writeFlag {G : z_G} {w : ev_W} (ok : z_Ok G w) {x1 : Int32} {I : z_H} {r : Int32 × z_H} (h : d_M_writeFlag x1 I = some r) : z_K G 345 [.ref (241), .int (x1)] (z_w w I) (.inl (some (.int r.1))) (z_w w r.2) := by
  refine z_con ok.1 (ml := 3) (by decide +kernel) rfl rfl ?_
  show z_R G 345 0 [some (.ref (241)), some (.int (x1)), none] [] (z_w w I) (.inl (some (.int r.1))) (z_w w r.2)
  unfold d_M_writeFlag at h
  have hB : z_all [z_is 345 0 (zf_aload 0 0 1), z_is 345 1 (zf_iload 1 1 2), z_is 345 2 (zf_cv 2 288 1 8 5), z_is 345 5 (zf_if1 .ne 5 10 8)] = true := by decide +kernel
  refine z_aload hB rfl (fun hB => ?_)
  refine z_iload hB rfl (fun hB => ?_)
  obtain ⟨q1, e2, h⟩ := z_bind h
  refine y_cv ok hB (as := [.int (x1)]) (a := 241) (rest := []) rfl rfl rfl (by decide +kernel) (t_M_mayFlag (I := I) ok e2) (fun hB => ?_)
  refine z_if_ne hB (fun hc _ => ?_) (fun hc _ => ?_)
  · have h := z_neg hc h
    have hB : z_all [z_is 345 10 (zf_aload 10 0 11), z_is 345 11 (zf_cst 11 (jn 0) 12), z_is 345 12 (zf_puti 12 8 19 15), z_is 345 15 (zf_aload 15 0 16), z_is 345 16 (zf_aload 16 0 17), z_is 345 17 (zf_iload 17 1 18), z_is 345 18 (zf_cv 18 244 1 8 21), z_is 345 21 (zf_cs 21 344 1 24), z_is 345 24 (zf_cv 24 342 1 8 27), z_is 345 27 (zf_aload 27 0 28), z_is 345 28 (zf_aload 28 0 29), z_is 345 29 (zf_iload 29 1 30), z_is 345 30 (zf_cst 30 (jn 3) 31), z_is 345 31 (zf_cv 31 242 2 8 34), z_is 345 34 (zf_cv 34 343 1 8 37), z_is 345 37 (zf_aload 37 0 38), z_is 345 38 (zf_aload 38 0 39), z_is 345 39 (zf_iload 39 1 40), z_is 345 40 (zf_cst 40 (jn 4) 41), z_is 345 41 (zf_cv 41 242 2 8 44), z_is 345 44 (zf_cv 44 343 1 8 47), z_is 345 47 (zf_aload 47 0 48), z_is 345 48 (zf_aload 48 0 49), z_is 345 49 (zf_iload 49 1 50), z_is 345 50 (zf_cst 50 (jn 5) 51), z_is 345 51 (zf_cv 51 242 2 8 54), z_is 345 54 (zf_cv 54 343 1 8 57), z_is 345 57 (zf_cst 57 (jn 0) 58), z_is 345 58 (zf_istore 58 2 59)] = true := by decide +kernel
    refine z_aload hB rfl (fun hB => ?_)
    refine z_cst hB (fun hB => ?_)
    refine y_puti ok hB (by decide +kernel) (fun hB => ?_)
    refine z_aload hB rfl (fun hB => ?_)
    refine z_aload hB rfl (fun hB => ?_)
    refine z_iload hB rfl (fun hB => ?_)
    obtain ⟨q3, e4, h⟩ := z_bind h
    refine y_cv ok hB (as := [.int (x1)]) (a := 241) (rest := [.ref (241)]) rfl rfl rfl (by decide +kernel) (t_M_where (I := (ev_u2 q1.2 241 19 (jn 0))) ok e4) (fun hB => ?_)
    obtain ⟨q5, e6, h⟩ := z_bind h
    refine z_callS hB (as := [.int (q3)]) (rest := [.ref (241)]) rfl rfl rfl (t_M_letterOf (I := (ev_u2 q1.2 241 19 (jn 0))) ok e6) (fun hB => ?_)
    obtain ⟨q7, e8, h⟩ := z_bind h
    refine y_cv ok hB (as := [.int (q5)]) (a := 241) (rest := []) rfl rfl rfl (by decide +kernel) (t_M_writesByte (I := (ev_u2 q1.2 241 19 (jn 0))) ok e8) (fun hB => ?_)
    refine z_aload hB rfl (fun hB => ?_)
    refine z_aload hB rfl (fun hB => ?_)
    refine z_iload hB rfl (fun hB => ?_)
    refine z_cst hB (fun hB => ?_)
    obtain ⟨q9, e10, h⟩ := z_bind h
    refine y_cv ok hB (as := [.int (x1), .int ((jn 3))]) (a := 241) (rest := [.ref (241)]) rfl rfl rfl (by decide +kernel) (t_M_ofFlag (I := q7) ok e10) (fun hB => ?_)
    obtain ⟨q11, e12, h⟩ := z_bind h
    refine y_cv ok hB (as := [.int (q9)]) (a := 241) (rest := []) rfl rfl rfl (by decide +kernel) (t_M_writesNumber (I := q7) ok e12) (fun hB => ?_)
    refine z_aload hB rfl (fun hB => ?_)
    refine z_aload hB rfl (fun hB => ?_)
    refine z_iload hB rfl (fun hB => ?_)
    refine z_cst hB (fun hB => ?_)
    obtain ⟨q13, e14, h⟩ := z_bind h
    refine y_cv ok hB (as := [.int (x1), .int ((jn 4))]) (a := 241) (rest := [.ref (241)]) rfl rfl rfl (by decide +kernel) (t_M_ofFlag (I := q11) ok e14) (fun hB => ?_)
    obtain ⟨q15, e16, h⟩ := z_bind h
    refine y_cv ok hB (as := [.int (q13)]) (a := 241) (rest := []) rfl rfl rfl (by decide +kernel) (t_M_writesNumber (I := q11) ok e16) (fun hB => ?_)
    refine z_aload hB rfl (fun hB => ?_)
    refine z_aload hB rfl (fun hB => ?_)
    refine z_iload hB rfl (fun hB => ?_)
    refine z_cst hB (fun hB => ?_)
    obtain ⟨q17, e18, h⟩ := z_bind h
    refine y_cv ok hB (as := [.int (x1), .int ((jn 5))]) (a := 241) (rest := [.ref (241)]) rfl rfl rfl (by decide +kernel) (t_M_ofFlag (I := q15) ok e18) (fun hB => ?_)
    obtain ⟨q19, e20, h⟩ := z_bind h
    refine y_cv ok hB (as := [.int (q17)]) (a := 241) (rest := []) rfl rfl rfl (by decide +kernel) (t_M_writesNumber (I := q15) ok e20) (fun hB => ?_)
    refine z_cst hB (fun hB => ?_)
    refine z_istore hB rfl rfl (fun hB => ?_)
    obtain ⟨q23, e24, h⟩ := z_bind h
    have k25 : z_R G 345 104 [some (.ref (241)), none, none] [] (z_w w q23.2) (.inl (some (.int r.1))) (z_w w r.2) := by
      have hB : z_all [z_is 345 104 (zf_aload 104 0 105), z_is 345 105 (zf_geti 105 8 19 108), z_is 345 108 (zf_ret 0)] = true := by decide +kernel
      refine z_aload hB rfl (fun hB => ?_)
      refine y_geti ok hB (by decide +kernel) (fun hB => ?_)
      cases h
      exact z_reti hB
    have l22 : ∀ (m22 : Nat) (p21 : Int32 × z_H), z_it (d_M_writeFlag_22 x1) m22 p21 = some q23 → z_R G 345 59 [some (.ref (241)), some (.int (x1)), some (.int (p21.1))] [] (z_w w p21.2) (.inl (some (.int r.1))) (z_w w r.2) := by
      intro m22
      induction m22 with
      | zero => intro p21 h; cases h
      | succ m22 i22 =>
        intro p21 h
        obtain ⟨u22, h, b22⟩ := z_it_o h
        unfold d_M_writeFlag_22 at h
        have hB : z_all [z_is 345 59 (zf_iload 59 2 60), z_is 345 60 (zf_aload 60 0 61), z_is 345 61 (zf_getr 61 8 1 64), z_is 345 64 (zf_cst 64 (jn 6) 66), z_is 345 66 (zf_iald 66 67), z_is 345 67 (zf_if2 .ge 67 104 70)] = true := by decide +kernel
        refine z_iload hB rfl (fun hB => ?_)
        refine z_aload hB rfl (fun hB => ?_)
        refine y_getr (b := 242) ok hB (by decide +kernel) (by decide +kernel) (fun hB => ?_)
        refine z_cst hB (fun hB => ?_)
        obtain ⟨g26, h⟩ := z_gd h
        refine y_iald ok hB (by decide +kernel) (by decide +kernel) g26 (fun hB => ?_)
        refine z_ic_ge hB (fun hc _ => ?_) (fun hc _ => ?_)
        · have h := z_neg hc h
          cases h
          cases b22
          exact z_weak k25 (z_se (z_sn (z_sn z_s0)))
        · have h := z_pos hc h
          have hB : z_all [z_is 345 70 (zf_aload 70 0 71), z_is 345 71 (zf_iload 71 1 72), z_is 345 72 (zf_cst 72 (jn 6) 74), z_is 345 74 (zf_cv 74 242 2 8 77), z_is 345 77 (zf_iload 77 2 78), z_is 345 78 (zf_cs 78 205 2 81), z_is 345 81 (zf_if1 .ne 81 87 84)] = true := by decide +kernel
          refine z_aload hB rfl (fun hB => ?_)
          refine z_iload hB rfl (fun hB => ?_)
          refine z_cst hB (fun hB => ?_)
          obtain ⟨q27, e28, h⟩ := z_bind h
          refine y_cv ok hB (as := [.int (x1), .int ((jn 6))]) (a := 241) (rest := []) rfl rfl rfl (by decide +kernel) (t_M_ofFlag (I := p21.2) ok e28) (fun hB => ?_)
          refine z_iload hB rfl (fun hB => ?_)
          obtain ⟨q29, e30, h⟩ := z_bind h
          refine z_callS hB (as := [.int (q27), .int (p21.1)]) (rest := []) rfl rfl rfl (t_M_has (I := p21.2) ok e30) (fun hB => ?_)
          obtain ⟨q31, e32, h⟩ := z_bind h
          have k33 : z_R G 345 98 [some (.ref (241)), some (.int (x1)), some (.int (p21.1))] [] (z_w w q31) (.inl (some (.int r.1))) (z_w w r.2) := by
            have hB : z_all [z_is 345 98 (zf_iinc 98 2 (jn 1) 101), z_is 345 101 (zf_goto 101 59)] = true := by decide +kernel
            refine z_iinc hB rfl rfl (fun hB => ?_)
            refine z_goto hB (fun hB => ?_)
            cases h
            exact z_weak (i22 ((p21.1 + (jn 1)), q31) b22) (z_se (z_se (z_se z_s0)))
          have h := e32
          refine z_if_ne hB (fun hc _ => ?_) (fun hc _ => ?_)
          · have h := z_neg hc h
            have hB : z_all [z_is 345 87 (zf_aload 87 0 88), z_is 345 88 (zf_cst 88 (jn 43) 90), z_is 345 90 (zf_cv 90 342 1 8 93), z_is 345 93 (zf_aload 93 0 94), z_is 345 94 (zf_iload 94 2 95), z_is 345 95 (zf_cv 95 343 1 8 98)] = true := by decide +kernel
            refine z_aload hB rfl (fun hB => ?_)
            refine z_cst hB (fun hB => ?_)
            obtain ⟨q34, e35, h⟩ := z_bind h
            refine y_cv ok hB (as := [.int ((jn 43))]) (a := 241) (rest := []) rfl rfl rfl (by decide +kernel) (t_M_writesByte (I := p21.2) ok e35) (fun hB => ?_)
            refine z_aload hB rfl (fun hB => ?_)
            refine z_iload hB rfl (fun hB => ?_)
            obtain ⟨q36, e37, h⟩ := z_bind h
            refine y_cv ok hB (as := [.int (p21.1)]) (a := 241) (rest := []) rfl rfl rfl (by decide +kernel) (t_M_writesNumber (I := q34) ok e37) (fun hB => ?_)
            cases h
            exact z_weak k33 (z_se (z_se (z_se z_s0)))
          · have h := z_pos hc h
            have hB : z_all [z_is 345 84 (zf_goto 84 98)] = true := by decide +kernel
            refine z_goto hB (fun hB => ?_)
            cases h
            exact z_weak k33 (z_se (z_se (z_se z_s0)))
    exact z_weak (l22 _ ((jn 0), q19) e24) (z_se (z_se (z_se z_s0)))
  · have h := z_pos hc h
    have hB : z_all [z_is 345 8 (zf_cst 8 (jn 0) 9), z_is 345 9 (zf_ret 0)] = true := by decide +kernel
    refine z_cst hB (fun hB => ?_)
    cases h
    exact z_reti hB
def d_M_writeTub_6 (x1 : Int32) (q3 : Int32) (p5 : Int32 × z_H) : Option ((Int32 × z_H) ⊕ (Int32 × z_H)) := (if p5.1 < q3 then (Option.bind (α := z_H) (if jn 0 < p5.1 then ((d_M_writesByte ((jn 44)) p5.2).bind fun q22 => some (q22)) else some (p5.2)) fun q15 => ((d_M_flagIn (x1) (p5.1) q15).bind fun q18 => ((d_M_writesNumber (q18) q15).bind fun q20 => some (Sum.inl ((p5.1 + (jn 1)), q20))))) else some (Sum.inr (p5.1, p5.2)))
def d_M_writeTub (x1 : Int32) (I : z_H) : Option (Int32 × z_H) := ((d_M_mayTub (x1) I).bind fun q1 => (if q1.1 = jn 0 then some (((jn 0), q1.2)) else ((d_M_manyIn (x1) (ev_u2 q1.2 241 19 (jn 0))).bind fun q3 => ((z_it (d_M_writeTub_6 x1 q3) z_F ((jn 0), (ev_u2 q1.2 241 19 (jn 0)))).bind fun q7 => (Option.bind (α := z_H) (if q3 = jn 0 then ((d_M_writesByte ((jn 45)) q7.2).bind fun q13 => some (q13)) else some (q7.2)) fun q10 => some (((q10 241 19), q10)))))))
/-- FlagLaundryModel.writeTub(I)I -/
theorem t_M_writeTub {G : z_G} {w : ev_W} (ok : z_Ok G w) {x1 : Int32} {I : z_H} {r : Int32 × z_H} (h : d_M_writeTub x1 I = some r) : z_K G 346 [.ref (241), .int (x1)] (z_w w I) (.inl (some (.int r.1))) (z_w w r.2) := by
  refine z_con ok.1 (ml := 4) (by decide +kernel) rfl rfl ?_
  show z_R G 346 0 [some (.ref (241)), some (.int (x1)), none, none] [] (z_w w I) (.inl (some (.int r.1))) (z_w w r.2)
  unfold d_M_writeTub at h
  have hB : z_all [z_is 346 0 (zf_aload 0 0 1), z_is 346 1 (zf_iload 1 1 2), z_is 346 2 (zf_cv 2 289 1 8 5), z_is 346 5 (zf_if1 .ne 5 10 8)] = true := by decide +kernel
  refine z_aload hB rfl (fun hB => ?_)
  refine z_iload hB rfl (fun hB => ?_)
  obtain ⟨q1, e2, h⟩ := z_bind h
  refine y_cv ok hB (as := [.int (x1)]) (a := 241) (rest := []) rfl rfl rfl (by decide +kernel) (t_M_mayTub (I := I) ok e2) (fun hB => ?_)
  refine z_if_ne hB (fun hc _ => ?_) (fun hc _ => ?_)
  · have h := z_neg hc h
    have hB : z_all [z_is 346 10 (zf_aload 10 0 11), z_is 346 11 (zf_cst 11 (jn 0) 12), z_is 346 12 (zf_puti 12 8 19 15), z_is 346 15 (zf_aload 15 0 16), z_is 346 16 (zf_iload 16 1 17), z_is 346 17 (zf_cv 17 251 1 8 20), z_is 346 20 (zf_istore 20 2 21), z_is 346 21 (zf_cst 21 (jn 0) 22), z_is 346 22 (zf_istore 22 3 23)] = true := by decide +kernel
    refine z_aload hB rfl (fun hB => ?_)
    refine z_cst hB (fun hB => ?_)
    refine y_puti ok hB (by decide +kernel) (fun hB => ?_)
    refine z_aload hB rfl (fun hB => ?_)
    refine z_iload hB rfl (fun hB => ?_)
    obtain ⟨q3, e4, h⟩ := z_bind h
    refine y_cv ok hB (as := [.int (x1)]) (a := 241) (rest := []) rfl rfl rfl (by decide +kernel) (t_M_manyIn (I := (ev_u2 q1.2 241 19 (jn 0))) ok e4) (fun hB => ?_)
    refine z_istore hB rfl rfl (fun hB => ?_)
    refine z_cst hB (fun hB => ?_)
    refine z_istore hB rfl rfl (fun hB => ?_)
    obtain ⟨q7, e8, h⟩ := z_bind h
    have k9 : z_R G 346 54 [some (.ref (241)), none, some (.int (q3)), none] [] (z_w w q7.2) (.inl (some (.int r.1))) (z_w w r.2) := by
      have hB : z_all [z_is 346 54 (zf_iload 54 2 55), z_is 346 55 (zf_if1 .ne 55 64 58)] = true := by decide +kernel
      refine z_iload hB rfl (fun hB => ?_)
      obtain ⟨q10, e11, h⟩ := z_bind h
      have k12 : z_R G 346 64 [some (.ref (241)), none, none, none] [] (z_w w q10) (.inl (some (.int r.1))) (z_w w r.2) := by
        have hB : z_all [z_is 346 64 (zf_aload 64 0 65), z_is 346 65 (zf_geti 65 8 19 68), z_is 346 68 (zf_ret 0)] = true := by decide +kernel
        refine z_aload hB rfl (fun hB => ?_)
        refine y_geti ok hB (by decide +kernel) (fun hB => ?_)
        cases h
        exact z_reti hB
      have h := e11
      refine z_if_ne hB (fun hc _ => ?_) (fun hc _ => ?_)
      · have h := z_neg hc h
        cases h
        exact z_weak k12 (z_se (z_sn (z_sn (z_sn z_s0))))
      · have h := z_pos hc h
        have hB : z_all [z_is 346 58 (zf_aload 58 0 59), z_is 346 59 (zf_cst 59 (jn 45) 61), z_is 346 61 (zf_cv 61 342 1 8 64)] = true := by decide +kernel
        refine z_aload hB rfl (fun hB => ?_)
        refine z_cst hB (fun hB => ?_)
        obtain ⟨q13, e14, h⟩ := z_bind h
        refine y_cv ok hB (as := [.int ((jn 45))]) (a := 241) (rest := []) rfl rfl rfl (by decide +kernel) (t_M_writesByte (I := q7.2) ok e14) (fun hB => ?_)
        cases h
        exact z_weak k12 (z_se (z_sn (z_sn (z_sn z_s0))))
    have l6 : ∀ (m6 : Nat) (p5 : Int32 × z_H), z_it (d_M_writeTub_6 x1 q3) m6 p5 = some q7 → z_R G 346 23 [some (.ref (241)), some (.int (x1)), some (.int (q3)), some (.int (p5.1))] [] (z_w w p5.2) (.inl (some (.int r.1))) (z_w w r.2) := by
      intro m6
      induction m6 with
      | zero => intro p5 h; cases h
      | succ m6 i6 =>
        intro p5 h
        obtain ⟨u6, h, b6⟩ := z_it_o h
        unfold d_M_writeTub_6 at h
        have hB : z_all [z_is 346 23 (zf_iload 23 3 24), z_is 346 24 (zf_iload 24 2 25), z_is 346 25 (zf_if2 .ge 25 54 28)] = true := by decide +kernel
        refine z_iload hB rfl (fun hB => ?_)
        refine z_iload hB rfl (fun hB => ?_)
        refine z_ic_ge hB (fun hc _ => ?_) (fun hc _ => ?_)
        · have h := z_neg hc h
          cases h
          cases b6
          exact z_weak k9 (z_se (z_sn (z_se (z_sn z_s0))))
        · have h := z_pos hc h
          have hB : z_all [z_is 346 28 (zf_iload 28 3 29), z_is 346 29 (zf_if1 .le 29 38 32)] = true := by decide +kernel
          refine z_iload hB rfl (fun hB => ?_)
          obtain ⟨q15, e16, h⟩ := z_bind h
          have k17 : z_R G 346 38 [some (.ref (241)), some (.int (x1)), some (.int (q3)), some (.int (p5.1))] [] (z_w w q15) (.inl (some (.int r.1))) (z_w w r.2) := by
            have hB : z_all [z_is 346 38 (zf_aload 38 0 39), z_is 346 39 (zf_aload 39 0 40), z_is 346 40 (zf_iload 40 1 41), z_is 346 41 (zf_iload 41 3 42), z_is 346 42 (zf_cv 42 299 2 8 45), z_is 346 45 (zf_cv 45 343 1 8 48), z_is 346 48 (zf_iinc 48 3 (jn 1) 51), z_is 346 51 (zf_goto 51 23)] = true := by decide +kernel
            refine z_aload hB rfl (fun hB => ?_)
            refine z_aload hB rfl (fun hB => ?_)
            refine z_iload hB rfl (fun hB => ?_)
            refine z_iload hB rfl (fun hB => ?_)
            obtain ⟨q18, e19, h⟩ := z_bind h
            refine y_cv ok hB (as := [.int (x1), .int (p5.1)]) (a := 241) (rest := [.ref (241)]) rfl rfl rfl (by decide +kernel) (t_M_flagIn (I := q15) ok e19) (fun hB => ?_)
            obtain ⟨q20, e21, h⟩ := z_bind h
            refine y_cv ok hB (as := [.int (q18)]) (a := 241) (rest := []) rfl rfl rfl (by decide +kernel) (t_M_writesNumber (I := q15) ok e21) (fun hB => ?_)
            refine z_iinc hB rfl rfl (fun hB => ?_)
            refine z_goto hB (fun hB => ?_)
            cases h
            exact z_weak (i6 ((p5.1 + (jn 1)), q20) b6) (z_se (z_se (z_se (z_se z_s0))))
          have h := e16
          refine z_if_le hB (fun hc _ => ?_) (fun hc _ => ?_)
          · have h := z_neg hc h
            cases h
            exact z_weak k17 (z_se (z_se (z_se (z_se z_s0))))
          · have h := z_pos hc h
            have hB : z_all [z_is 346 32 (zf_aload 32 0 33), z_is 346 33 (zf_cst 33 (jn 44) 35), z_is 346 35 (zf_cv 35 342 1 8 38)] = true := by decide +kernel
            refine z_aload hB rfl (fun hB => ?_)
            refine z_cst hB (fun hB => ?_)
            obtain ⟨q22, e23, h⟩ := z_bind h
            refine y_cv ok hB (as := [.int ((jn 44))]) (a := 241) (rest := []) rfl rfl rfl (by decide +kernel) (t_M_writesByte (I := p5.2) ok e23) (fun hB => ?_)
            cases h
            exact z_weak k17 (z_se (z_se (z_se (z_se z_s0))))
    exact z_weak (l6 _ ((jn 0), (ev_u2 q1.2 241 19 (jn 0))) e8) (z_se (z_se (z_se (z_se z_s0))))
  · have h := z_pos hc h
    have hB : z_all [z_is 346 8 (zf_cst 8 (jn 0) 9), z_is 346 9 (zf_ret 0)] = true := by decide +kernel
    refine z_cst hB (fun hB => ?_)
    cases h
    exact z_reti hB
def d_M_writesReason (x1 : Int32) (I : z_H) : Option (z_H) := (Option.bind (α := z_H) (if jn 0 < (I 241 19) then ((d_M_writesByte ((jn 32)) I).bind fun q12 => some (q12)) else some (I)) fun q1 => ((d_M_writesNumber (x1) q1).bind fun q4 => ((d_M_writesByte ((jn 58)) q4).bind fun q6 => ((d_M_whyNotReady (x1) q6).bind fun q8 => ((d_M_writesNumber (q8) q6).bind fun q10 => some (q10))))))
/-- FlagLaundryModel.writesReason(I)V -/
theorem t_M_writesReason {G : z_G} {w : ev_W} (ok : z_Ok G w) {x1 : Int32} {I : z_H} {r : z_H} (h : d_M_writesReason x1 I = some r) : z_K G 347 [.ref (241), .int (x1)] (z_w w I) (.inl none) (z_w w r) := by
  refine z_con ok.1 (ml := 2) (by decide +kernel) rfl rfl ?_
  show z_R G 347 0 [some (.ref (241)), some (.int (x1))] [] (z_w w I) (.inl none) (z_w w r)
  unfold d_M_writesReason at h
  have hB : z_all [z_is 347 0 (zf_aload 0 0 1), z_is 347 1 (zf_geti 1 8 19 4), z_is 347 4 (zf_if1 .le 4 13 7)] = true := by decide +kernel
  refine z_aload hB rfl (fun hB => ?_)
  refine y_geti ok hB (by decide +kernel) (fun hB => ?_)
  obtain ⟨q1, e2, h⟩ := z_bind h
  have k3 : z_R G 347 13 [some (.ref (241)), some (.int (x1))] [] (z_w w q1) (.inl none) (z_w w r) := by
    have hB : z_all [z_is 347 13 (zf_aload 13 0 14), z_is 347 14 (zf_iload 14 1 15), z_is 347 15 (zf_cv 15 343 1 8 18), z_is 347 18 (zf_aload 18 0 19), z_is 347 19 (zf_cst 19 (jn 58) 21), z_is 347 21 (zf_cv 21 342 1 8 24), z_is 347 24 (zf_aload 24 0 25), z_is 347 25 (zf_aload 25 0 26), z_is 347 26 (zf_iload 26 1 27), z_is 347 27 (zf_cv 27 250 1 8 30), z_is 347 30 (zf_cv 30 343 1 8 33), z_is 347 33 (zf_ret 6)] = true := by decide +kernel
    refine z_aload hB rfl (fun hB => ?_)
    refine z_iload hB rfl (fun hB => ?_)
    obtain ⟨q4, e5, h⟩ := z_bind h
    refine y_cv ok hB (as := [.int (x1)]) (a := 241) (rest := []) rfl rfl rfl (by decide +kernel) (t_M_writesNumber (I := q1) ok e5) (fun hB => ?_)
    refine z_aload hB rfl (fun hB => ?_)
    refine z_cst hB (fun hB => ?_)
    obtain ⟨q6, e7, h⟩ := z_bind h
    refine y_cv ok hB (as := [.int ((jn 58))]) (a := 241) (rest := []) rfl rfl rfl (by decide +kernel) (t_M_writesByte (I := q4) ok e7) (fun hB => ?_)
    refine z_aload hB rfl (fun hB => ?_)
    refine z_aload hB rfl (fun hB => ?_)
    refine z_iload hB rfl (fun hB => ?_)
    obtain ⟨q8, e9, h⟩ := z_bind h
    refine y_cv ok hB (as := [.int (x1)]) (a := 241) (rest := [.ref (241)]) rfl rfl rfl (by decide +kernel) (t_M_whyNotReady (I := q6) ok e9) (fun hB => ?_)
    obtain ⟨q10, e11, h⟩ := z_bind h
    refine y_cv ok hB (as := [.int (q8)]) (a := 241) (rest := []) rfl rfl rfl (by decide +kernel) (t_M_writesNumber (I := q6) ok e11) (fun hB => ?_)
    cases h
    exact z_retv hB
  have h := e2
  refine z_if_le hB (fun hc _ => ?_) (fun hc _ => ?_)
  · have h := z_neg hc h
    cases h
    exact z_weak k3 (z_se (z_se z_s0))
  · have h := z_pos hc h
    have hB : z_all [z_is 347 7 (zf_aload 7 0 8), z_is 347 8 (zf_cst 8 (jn 32) 10), z_is 347 10 (zf_cv 10 342 1 8 13)] = true := by decide +kernel
    refine z_aload hB rfl (fun hB => ?_)
    refine z_cst hB (fun hB => ?_)
    obtain ⟨q12, e13, h⟩ := z_bind h
    refine y_cv ok hB (as := [.int ((jn 32))]) (a := 241) (rest := []) rfl rfl rfl (by decide +kernel) (t_M_writesByte (I := I) ok e13) (fun hB => ?_)
    cases h
    exact z_weak k3 (z_se (z_se z_s0))
def d_M_writeNation_6 (x1 : Int32) (p5 : Int32 × z_H) : Option ((Int32 × z_H) ⊕ (Int32 × z_H)) := (if z_in ((jn 10)) 173 then (if p5.1 < (p5.2 242 (z_n ((jn 10)))) then ((d_M_ofFlag (p5.1) ((jn 0)) p5.2).bind fun q16 => (Option.bind (α := z_H) (if q16 = x1 then ((d_M_writesReason (p5.1) p5.2).bind fun q21 => some (q21)) else some (p5.2)) fun q18 => some (Sum.inl ((p5.1 + (jn 1)), q18)))) else some (Sum.inr (p5.1, p5.2))) else none)
def d_M_writeNation (x1 : Int32) (I : z_H) : Option (Int32 × z_H) := ((d_M_isNation (x1) I).bind fun q1 => ((d_M_mayTwo ((I 241 6)) (q1) I).bind fun q3 => (if q3.1 = jn 0 then some (((jn 0), q3.2)) else ((z_it (d_M_writeNation_6 x1) z_F ((jn 0), (ev_u2 q3.2 241 19 (jn 0)))).bind fun q7 => (Option.bind (α := z_H) (if (q7.2 241 19) = jn 0 then ((d_M_writesByte ((jn 45)) q7.2).bind fun q13 => some (q13)) else some (q7.2)) fun q10 => some (((q10 241 19), q10)))))))
/-- FlagLaundryModel.writeNation(I)I -/
theorem t_M_writeNation {G : z_G} {w : ev_W} (ok : z_Ok G w) {x1 : Int32} {I : z_H} {r : Int32 × z_H} (h : d_M_writeNation x1 I = some r) : z_K G 348 [.ref (241), .int (x1)] (z_w w I) (.inl (some (.int r.1))) (z_w w r.2) := by
  refine z_con ok.1 (ml := 3) (by decide +kernel) rfl rfl ?_
  show z_R G 348 0 [some (.ref (241)), some (.int (x1)), none] [] (z_w w I) (.inl (some (.int r.1))) (z_w w r.2)
  unfold d_M_writeNation at h
  have hB : z_all [z_is 348 0 (zf_aload 0 0 1), z_is 348 1 (zf_aload 1 0 2), z_is 348 2 (zf_geti 2 8 6 5), z_is 348 5 (zf_aload 5 0 6), z_is 348 6 (zf_iload 6 1 7), z_is 348 7 (zf_cv 7 284 1 8 10), z_is 348 10 (zf_cv 10 207 2 8 13), z_is 348 13 (zf_if1 .ne 13 18 16)] = true := by decide +kernel
  refine z_aload hB rfl (fun hB => ?_)
  refine z_aload hB rfl (fun hB => ?_)
  refine y_geti ok hB (by decide +kernel) (fun hB => ?_)
  refine z_aload hB rfl (fun hB => ?_)
  refine z_iload hB rfl (fun hB => ?_)
  obtain ⟨q1, e2, h⟩ := z_bind h
  refine y_cv ok hB (as := [.int (x1)]) (a := 241) (rest := [.int ((I 241 6)), .ref (241)]) rfl rfl rfl (by decide +kernel) (t_M_isNation (I := I) ok e2) (fun hB => ?_)
  obtain ⟨q3, e4, h⟩ := z_bind h
  refine y_cv ok hB (as := [.int ((I 241 6)), .int (q1)]) (a := 241) (rest := []) rfl rfl rfl (by decide +kernel) (t_M_mayTwo (I := I) ok e4) (fun hB => ?_)
  refine z_if_ne hB (fun hc _ => ?_) (fun hc _ => ?_)
  · have h := z_neg hc h
    have hB : z_all [z_is 348 18 (zf_aload 18 0 19), z_is 348 19 (zf_cst 19 (jn 0) 20), z_is 348 20 (zf_puti 20 8 19 23), z_is 348 23 (zf_cst 23 (jn 0) 24), z_is 348 24 (zf_istore 24 2 25)] = true := by decide +kernel
    refine z_aload hB rfl (fun hB => ?_)
    refine z_cst hB (fun hB => ?_)
    refine y_puti ok hB (by decide +kernel) (fun hB => ?_)
    refine z_cst hB (fun hB => ?_)
    refine z_istore hB rfl rfl (fun hB => ?_)
    obtain ⟨q7, e8, h⟩ := z_bind h
    have k9 : z_R G 348 57 [some (.ref (241)), none, none] [] (z_w w q7.2) (.inl (some (.int r.1))) (z_w w r.2) := by
      have hB : z_all [z_is 348 57 (zf_aload 57 0 58), z_is 348 58 (zf_geti 58 8 19 61), z_is 348 61 (zf_if1 .ne 61 70 64)] = true := by decide +kernel
      refine z_aload hB rfl (fun hB => ?_)
      refine y_geti ok hB (by decide +kernel) (fun hB => ?_)
      obtain ⟨q10, e11, h⟩ := z_bind h
      have k12 : z_R G 348 70 [some (.ref (241)), none, none] [] (z_w w q10) (.inl (some (.int r.1))) (z_w w r.2) := by
        have hB : z_all [z_is 348 70 (zf_aload 70 0 71), z_is 348 71 (zf_geti 71 8 19 74), z_is 348 74 (zf_ret 0)] = true := by decide +kernel
        refine z_aload hB rfl (fun hB => ?_)
        refine y_geti ok hB (by decide +kernel) (fun hB => ?_)
        cases h
        exact z_reti hB
      have h := e11
      refine z_if_ne hB (fun hc _ => ?_) (fun hc _ => ?_)
      · have h := z_neg hc h
        cases h
        exact z_weak k12 (z_se (z_sn (z_sn z_s0)))
      · have h := z_pos hc h
        have hB : z_all [z_is 348 64 (zf_aload 64 0 65), z_is 348 65 (zf_cst 65 (jn 45) 67), z_is 348 67 (zf_cv 67 342 1 8 70)] = true := by decide +kernel
        refine z_aload hB rfl (fun hB => ?_)
        refine z_cst hB (fun hB => ?_)
        obtain ⟨q13, e14, h⟩ := z_bind h
        refine y_cv ok hB (as := [.int ((jn 45))]) (a := 241) (rest := []) rfl rfl rfl (by decide +kernel) (t_M_writesByte (I := q7.2) ok e14) (fun hB => ?_)
        cases h
        exact z_weak k12 (z_se (z_sn (z_sn z_s0)))
    have l6 : ∀ (m6 : Nat) (p5 : Int32 × z_H), z_it (d_M_writeNation_6 x1) m6 p5 = some q7 → z_R G 348 25 [some (.ref (241)), some (.int (x1)), some (.int (p5.1))] [] (z_w w p5.2) (.inl (some (.int r.1))) (z_w w r.2) := by
      intro m6
      induction m6 with
      | zero => intro p5 h; cases h
      | succ m6 i6 =>
        intro p5 h
        obtain ⟨u6, h, b6⟩ := z_it_o h
        unfold d_M_writeNation_6 at h
        have hB : z_all [z_is 348 25 (zf_iload 25 2 26), z_is 348 26 (zf_aload 26 0 27), z_is 348 27 (zf_getr 27 8 1 30), z_is 348 30 (zf_cst 30 (jn 10) 32), z_is 348 32 (zf_iald 32 33), z_is 348 33 (zf_if2 .ge 33 57 36)] = true := by decide +kernel
        refine z_iload hB rfl (fun hB => ?_)
        refine z_aload hB rfl (fun hB => ?_)
        refine y_getr (b := 242) ok hB (by decide +kernel) (by decide +kernel) (fun hB => ?_)
        refine z_cst hB (fun hB => ?_)
        obtain ⟨g15, h⟩ := z_gd h
        refine y_iald ok hB (by decide +kernel) (by decide +kernel) g15 (fun hB => ?_)
        refine z_ic_ge hB (fun hc _ => ?_) (fun hc _ => ?_)
        · have h := z_neg hc h
          cases h
          cases b6
          exact z_weak k9 (z_se (z_sn (z_sn z_s0)))
        · have h := z_pos hc h
          have hB : z_all [z_is 348 36 (zf_aload 36 0 37), z_is 348 37 (zf_iload 37 2 38), z_is 348 38 (zf_cst 38 (jn 0) 39), z_is 348 39 (zf_cv 39 242 2 8 42), z_is 348 42 (zf_iload 42 1 43), z_is 348 43 (zf_if2 .ne 43 51 46)] = true := by decide +kernel
          refine z_aload hB rfl (fun hB => ?_)
          refine z_iload hB rfl (fun hB => ?_)
          refine z_cst hB (fun hB => ?_)
          obtain ⟨q16, e17, h⟩ := z_bind h
          refine y_cv ok hB (as := [.int (p5.1), .int ((jn 0))]) (a := 241) (rest := []) rfl rfl rfl (by decide +kernel) (t_M_ofFlag (I := p5.2) ok e17) (fun hB => ?_)
          refine z_iload hB rfl (fun hB => ?_)
          obtain ⟨q18, e19, h⟩ := z_bind h
          have k20 : z_R G 348 51 [some (.ref (241)), some (.int (x1)), some (.int (p5.1))] [] (z_w w q18) (.inl (some (.int r.1))) (z_w w r.2) := by
            have hB : z_all [z_is 348 51 (zf_iinc 51 2 (jn 1) 54), z_is 348 54 (zf_goto 54 25)] = true := by decide +kernel
            refine z_iinc hB rfl rfl (fun hB => ?_)
            refine z_goto hB (fun hB => ?_)
            cases h
            exact z_weak (i6 ((p5.1 + (jn 1)), q18) b6) (z_se (z_se (z_se z_s0)))
          have h := e19
          refine z_ic_ne hB (fun hc _ => ?_) (fun hc _ => ?_)
          · have h := z_neg hc h
            cases h
            exact z_weak k20 (z_se (z_se (z_se z_s0)))
          · have h := z_pos hc h
            have hB : z_all [z_is 348 46 (zf_aload 46 0 47), z_is 348 47 (zf_iload 47 2 48), z_is 348 48 (zf_cv 48 347 1 8 51)] = true := by decide +kernel
            refine z_aload hB rfl (fun hB => ?_)
            refine z_iload hB rfl (fun hB => ?_)
            obtain ⟨q21, e22, h⟩ := z_bind h
            refine y_cv ok hB (as := [.int (p5.1)]) (a := 241) (rest := []) rfl rfl rfl (by decide +kernel) (t_M_writesReason (I := p5.2) ok e22) (fun hB => ?_)
            cases h
            exact z_weak k20 (z_se (z_se (z_se z_s0)))
    exact z_weak (l6 _ ((jn 0), (ev_u2 q3.2 241 19 (jn 0))) e8) (z_se (z_se (z_se z_s0)))
  · have h := z_pos hc h
    have hB : z_all [z_is 348 16 (zf_cst 16 (jn 0) 17), z_is 348 17 (zf_ret 0)] = true := by decide +kernel
    refine z_cst hB (fun hB => ?_)
    cases h
    exact z_reti hB
def d_M_writeLine_4  (p3 : Int32 × z_H) : Option ((Int32 × z_H) ⊕ (Int32 × z_H)) := (if z_in ((jn 9)) 173 then (if p3.1 < (p3.2 242 (z_n ((jn 9)))) then (Option.bind (α := z_H) (if jn 0 < p3.1 then ((d_M_writesByte ((jn 47)) p3.2).bind fun q23 => some (q23)) else some (p3.2)) fun q9 => ((d_M_flagOn (p3.1) q9).bind fun q12 => (Option.bind (α := z_H) (if q12 = (jg 1) then ((d_M_writesByte ((jn 46)) q9).bind fun q21 => some (q21)) else ((d_M_flagOn (p3.1) q9).bind fun q17 => ((d_M_writesNumber (q17) q9).bind fun q19 => some (q19)))) fun q14 => some (Sum.inl ((p3.1 + (jn 1)), q14))))) else some (Sum.inr (p3.1, p3.2))) else none)
def d_M_writeLine  (I : z_H) : Option (Int32 × z_H) := ((d_M_mayLook I).bind fun q1 => (if q1.1 = jn 0 then some (((jn 0), q1.2)) else ((z_it (d_M_writeLine_4) z_F ((jn 0), (ev_u2 q1.2 241 19 (jn 0)))).bind fun q5 => some (((q5.2 241 19), q5.2)))))
/-- FlagLaundryModel.writeLine()I -/
theorem t_M_writeLine {G : z_G} {w : ev_W} (ok : z_Ok G w) {I : z_H} {r : Int32 × z_H} (h : d_M_writeLine I = some r) : z_K G 349 [.ref (241)] (z_w w I) (.inl (some (.int r.1))) (z_w w r.2) := by
  refine z_con ok.1 (ml := 2) (by decide +kernel) rfl rfl ?_
  show z_R G 349 0 [some (.ref (241)), none] [] (z_w w I) (.inl (some (.int r.1))) (z_w w r.2)
  unfold d_M_writeLine at h
  have hB : z_all [z_is 349 0 (zf_aload 0 0 1), z_is 349 1 (zf_cv 1 208 0 8 4), z_is 349 4 (zf_if1 .ne 4 9 7)] = true := by decide +kernel
  refine z_aload hB rfl (fun hB => ?_)
  obtain ⟨q1, e2, h⟩ := z_bind h
  refine y_cv ok hB (as := []) (a := 241) (rest := []) rfl rfl rfl (by decide +kernel) (t_M_mayLook (I := I) ok e2) (fun hB => ?_)
  refine z_if_ne hB (fun hc _ => ?_) (fun hc _ => ?_)
  · have h := z_neg hc h
    have hB : z_all [z_is 349 9 (zf_aload 9 0 10), z_is 349 10 (zf_cst 10 (jn 0) 11), z_is 349 11 (zf_puti 11 8 19 14), z_is 349 14 (zf_cst 14 (jn 0) 15), z_is 349 15 (zf_istore 15 1 16)] = true := by decide +kernel
    refine z_aload hB rfl (fun hB => ?_)
    refine z_cst hB (fun hB => ?_)
    refine y_puti ok hB (by decide +kernel) (fun hB => ?_)
    refine z_cst hB (fun hB => ?_)
    refine z_istore hB rfl rfl (fun hB => ?_)
    obtain ⟨q5, e6, h⟩ := z_bind h
    have k7 : z_R G 349 70 [some (.ref (241)), none] [] (z_w w q5.2) (.inl (some (.int r.1))) (z_w w r.2) := by
      have hB : z_all [z_is 349 70 (zf_aload 70 0 71), z_is 349 71 (zf_geti 71 8 19 74), z_is 349 74 (zf_ret 0)] = true := by decide +kernel
      refine z_aload hB rfl (fun hB => ?_)
      refine y_geti ok hB (by decide +kernel) (fun hB => ?_)
      cases h
      exact z_reti hB
    have l4 : ∀ (m4 : Nat) (p3 : Int32 × z_H), z_it (d_M_writeLine_4) m4 p3 = some q5 → z_R G 349 16 [some (.ref (241)), some (.int (p3.1))] [] (z_w w p3.2) (.inl (some (.int r.1))) (z_w w r.2) := by
      intro m4
      induction m4 with
      | zero => intro p3 h; cases h
      | succ m4 i4 =>
        intro p3 h
        obtain ⟨u4, h, b4⟩ := z_it_o h
        unfold d_M_writeLine_4 at h
        have hB : z_all [z_is 349 16 (zf_iload 16 1 17), z_is 349 17 (zf_aload 17 0 18), z_is 349 18 (zf_getr 18 8 1 21), z_is 349 21 (zf_cst 21 (jn 9) 23), z_is 349 23 (zf_iald 23 24), z_is 349 24 (zf_if2 .ge 24 70 27)] = true := by decide +kernel
        refine z_iload hB rfl (fun hB => ?_)
        refine z_aload hB rfl (fun hB => ?_)
        refine y_getr (b := 242) ok hB (by decide +kernel) (by decide +kernel) (fun hB => ?_)
        refine z_cst hB (fun hB => ?_)
        obtain ⟨g8, h⟩ := z_gd h
        refine y_iald ok hB (by decide +kernel) (by decide +kernel) g8 (fun hB => ?_)
        refine z_ic_ge hB (fun hc _ => ?_) (fun hc _ => ?_)
        · have h := z_neg hc h
          cases h
          cases b4
          exact z_weak k7 (z_se (z_sn z_s0))
        · have h := z_pos hc h
          have hB : z_all [z_is 349 27 (zf_iload 27 1 28), z_is 349 28 (zf_if1 .le 28 37 31)] = true := by decide +kernel
          refine z_iload hB rfl (fun hB => ?_)
          obtain ⟨q9, e10, h⟩ := z_bind h
          have k11 : z_R G 349 37 [some (.ref (241)), some (.int (p3.1))] [] (z_w w q9) (.inl (some (.int r.1))) (z_w w r.2) := by
            have hB : z_all [z_is 349 37 (zf_aload 37 0 38), z_is 349 38 (zf_iload 38 1 39), z_is 349 39 (zf_cv 39 265 1 8 42), z_is 349 42 (zf_cst 42 (jg 1) 43), z_is 349 43 (zf_if2 .ne 43 55 46)] = true := by decide +kernel
            refine z_aload hB rfl (fun hB => ?_)
            refine z_iload hB rfl (fun hB => ?_)
            obtain ⟨q12, e13, h⟩ := z_bind h
            refine y_cv ok hB (as := [.int (p3.1)]) (a := 241) (rest := []) rfl rfl rfl (by decide +kernel) (t_M_flagOn (I := q9) ok e13) (fun hB => ?_)
            refine z_cst hB (fun hB => ?_)
            obtain ⟨q14, e15, h⟩ := z_bind h
            have k16 : z_R G 349 64 [some (.ref (241)), some (.int (p3.1))] [] (z_w w q14) (.inl (some (.int r.1))) (z_w w r.2) := by
              have hB : z_all [z_is 349 64 (zf_iinc 64 1 (jn 1) 67), z_is 349 67 (zf_goto 67 16)] = true := by decide +kernel
              refine z_iinc hB rfl rfl (fun hB => ?_)
              refine z_goto hB (fun hB => ?_)
              cases h
              exact z_weak (i4 ((p3.1 + (jn 1)), q14) b4) (z_se (z_se z_s0))
            have h := e15
            refine z_ic_ne hB (fun hc _ => ?_) (fun hc _ => ?_)
            · have h := z_neg hc h
              have hB : z_all [z_is 349 55 (zf_aload 55 0 56), z_is 349 56 (zf_aload 56 0 57), z_is 349 57 (zf_iload 57 1 58), z_is 349 58 (zf_cv 58 265 1 8 61), z_is 349 61 (zf_cv 61 343 1 8 64)] = true := by decide +kernel
              refine z_aload hB rfl (fun hB => ?_)
              refine z_aload hB rfl (fun hB => ?_)
              refine z_iload hB rfl (fun hB => ?_)
              obtain ⟨q17, e18, h⟩ := z_bind h
              refine y_cv ok hB (as := [.int (p3.1)]) (a := 241) (rest := [.ref (241)]) rfl rfl rfl (by decide +kernel) (t_M_flagOn (I := q9) ok e18) (fun hB => ?_)
              obtain ⟨q19, e20, h⟩ := z_bind h
              refine y_cv ok hB (as := [.int (q17)]) (a := 241) (rest := []) rfl rfl rfl (by decide +kernel) (t_M_writesNumber (I := q9) ok e20) (fun hB => ?_)
              cases h
              exact z_weak k16 (z_se (z_se z_s0))
            · have h := z_pos hc h
              have hB : z_all [z_is 349 46 (zf_aload 46 0 47), z_is 349 47 (zf_cst 47 (jn 46) 49), z_is 349 49 (zf_cv 49 342 1 8 52), z_is 349 52 (zf_goto 52 64)] = true := by decide +kernel
              refine z_aload hB rfl (fun hB => ?_)
              refine z_cst hB (fun hB => ?_)
              obtain ⟨q21, e22, h⟩ := z_bind h
              refine y_cv ok hB (as := [.int ((jn 46))]) (a := 241) (rest := []) rfl rfl rfl (by decide +kernel) (t_M_writesByte (I := q9) ok e22) (fun hB => ?_)
              refine z_goto hB (fun hB => ?_)
              cases h
              exact z_weak k16 (z_se (z_se z_s0))
          have h := e10
          refine z_if_le hB (fun hc _ => ?_) (fun hc _ => ?_)
          · have h := z_neg hc h
            cases h
            exact z_weak k11 (z_se (z_se z_s0))
          · have h := z_pos hc h
            have hB : z_all [z_is 349 31 (zf_aload 31 0 32), z_is 349 32 (zf_cst 32 (jn 47) 34), z_is 349 34 (zf_cv 34 342 1 8 37)] = true := by decide +kernel
            refine z_aload hB rfl (fun hB => ?_)
            refine z_cst hB (fun hB => ?_)
            obtain ⟨q23, e24, h⟩ := z_bind h
            refine y_cv ok hB (as := [.int ((jn 47))]) (a := 241) (rest := []) rfl rfl rfl (by decide +kernel) (t_M_writesByte (I := p3.2) ok e24) (fun hB => ?_)
            cases h
            exact z_weak k11 (z_se (z_se z_s0))
    exact z_weak (l4 _ ((jn 0), (ev_u2 q1.2 241 19 (jn 0))) e6) (z_se (z_se z_s0))
  · have h := z_pos hc h
    have hB : z_all [z_is 349 7 (zf_cst 7 (jn 0) 8), z_is 349 8 (zf_ret 0)] = true := by decide +kernel
    refine z_cst hB (fun hB => ?_)
    cases h
    exact z_reti hB
def d_M_textByte (x1 : Int32) (I : z_H) : Option (Int32 × z_H) := ((d_M_in (x1) ((jn 0)) (((I 241 19) - (jn 1)))).bind fun q1 => ((d_M_may (q1) ((jn 1)) ((jn 1)) I).bind fun q3 => (Option.bind (α := Int32) (if q3.1 = jn 0 then some ((jn 0)) else (if z_in (x1) 60 then some ((q3.2 249 (z_n (x1)))) else none)) fun q5 => some ((q5, q3.2)))))
/-- FlagLaundryModel.textByte(I)I -/
theorem t_M_textByte {G : z_G} {w : ev_W} (ok : z_Ok G w) {x1 : Int32} {I : z_H} {r : Int32 × z_H} (h : d_M_textByte x1 I = some r) : z_K G 350 [.ref (241), .int (x1)] (z_w w I) (.inl (some (.int r.1))) (z_w w r.2) := by
  refine z_con ok.1 (ml := 2) (by decide +kernel) rfl rfl ?_
  show z_R G 350 0 [some (.ref (241)), some (.int (x1))] [] (z_w w I) (.inl (some (.int r.1))) (z_w w r.2)
  unfold d_M_textByte at h
  have hB : z_all [z_is 350 0 (zf_aload 0 0 1), z_is 350 1 (zf_iload 1 1 2), z_is 350 2 (zf_cst 2 (jn 0) 3), z_is 350 3 (zf_aload 3 0 4), z_is 350 4 (zf_geti 4 8 19 7), z_is 350 7 (zf_cst 7 (jn 1) 8), z_is 350 8 (zf_isub 8 9), z_is 350 9 (zf_cs 9 203 3 12), z_is 350 12 (zf_cst 12 (jn 1) 13), z_is 350 13 (zf_cst 13 (jn 1) 14), z_is 350 14 (zf_cv 14 206 3 8 17), z_is 350 17 (zf_if1 .eq 17 29 20)] = true := by decide +kernel
  refine z_aload hB rfl (fun hB => ?_)
  refine z_iload hB rfl (fun hB => ?_)
  refine z_cst hB (fun hB => ?_)
  refine z_aload hB rfl (fun hB => ?_)
  refine y_geti ok hB (by decide +kernel) (fun hB => ?_)
  refine z_cst hB (fun hB => ?_)
  refine z_isub hB (fun hB => ?_)
  obtain ⟨q1, e2, h⟩ := z_bind h
  refine z_callS hB (as := [.int (x1), .int ((jn 0)), .int (((I 241 19) - (jn 1)))]) (rest := [.ref (241)]) rfl rfl rfl (t_M_in (I := I) ok e2) (fun hB => ?_)
  refine z_cst hB (fun hB => ?_)
  refine z_cst hB (fun hB => ?_)
  obtain ⟨q3, e4, h⟩ := z_bind h
  refine y_cv ok hB (as := [.int (q1), .int ((jn 1)), .int ((jn 1))]) (a := 241) (rest := []) rfl rfl rfl (by decide +kernel) (t_M_may (I := I) ok e4) (fun hB => ?_)
  obtain ⟨q5, e6, h⟩ := z_bind h
  have k7 : z_R G 350 30 [none, none] [.int (q5)] (z_w w q3.2) (.inl (some (.int r.1))) (z_w w r.2) := by
    have hB : z_all [z_is 350 30 (zf_ret 0)] = true := by decide +kernel
    cases h
    exact z_reti hB
  have h := e6
  refine z_if_eq hB (fun hc _ => ?_) (fun hc _ => ?_)
  · have h := z_pos hc h
    have hB : z_all [z_is 350 29 (zf_cst 29 (jn 0) 30)] = true := by decide +kernel
    refine z_cst hB (fun hB => ?_)
    cases h
    exact z_weak k7 (z_sn (z_sn z_s0))
  · have h := z_neg hc h
    have hB : z_all [z_is 350 20 (zf_aload 20 0 21), z_is 350 21 (zf_getr 21 8 18 24), z_is 350 24 (zf_iload 24 1 25), z_is 350 25 (zf_bald 25 26), z_is 350 26 (zf_goto 26 30)] = true := by decide +kernel
    refine z_aload hB rfl (fun hB => ?_)
    refine y_getr (b := 249) ok hB (by decide +kernel) (by decide +kernel) (fun hB => ?_)
    refine z_iload hB rfl (fun hB => ?_)
    obtain ⟨g8, h⟩ := z_gd h
    refine y_bald ok hB (by decide +kernel) (by decide +kernel) g8 (fun hB => ?_)
    refine z_goto hB (fun hB => ?_)
    cases h
    exact z_weak k7 (z_sn (z_sn z_s0))
def d_M_remembers_7  (p6 : Int32 × z_H) : Option ((Int32 × z_H) ⊕ (Int32 × z_H)) := (if p6.1 < (jn 1211) then (if z_in ((p6.1 + (jn 173))) 1384 then (if z_in (p6.1) 1384 then some (Sum.inl ((p6.1 + (jn 1)), (ev_u2 p6.2 244 (z_n (p6.1)) (p6.2 244 (z_n ((p6.1 + (jn 173)))))))) else none) else none) else some (Sum.inr (p6.1, p6.2)))
def d_M_remembers  (I : z_H) : Option (z_H) := (Option.bind (α := z_H) (if (I 241 7) = (jn 8) then ((z_it (d_M_remembers_7) z_F ((jn 0), I)).bind fun q8 => some ((ev_u2 q8.2 241 7 ((q8.2 241 7) - (jn 1))))) else some (I)) fun q1 => ((d_M_lays (242) ((jn 0)) (244) (((q1 241 7) * (jn 173))) q1).bind fun q4 => some ((ev_u2 q4 241 7 ((q4 241 7) + (jn 1))))))
/-- FlagLaundryModel.remembers()V -/
theorem t_M_remembers {G : z_G} {w : ev_W} (ok : z_Ok G w) {I : z_H} {r : z_H} (h : d_M_remembers I = some r) : z_K G 351 [.ref (241)] (z_w w I) (.inl none) (z_w w r) := by
  refine z_con ok.1 (ml := 2) (by decide +kernel) rfl rfl ?_
  show z_R G 351 0 [some (.ref (241)), none] [] (z_w w I) (.inl none) (z_w w r)
  unfold d_M_remembers at h
  have hB : z_all [z_is 351 0 (zf_aload 0 0 1), z_is 351 1 (zf_geti 1 8 7 4), z_is 351 4 (zf_cst 4 (jn 8) 6), z_is 351 6 (zf_if2 .ne 6 50 9)] = true := by decide +kernel
  refine z_aload hB rfl (fun hB => ?_)
  refine y_geti ok hB (by decide +kernel) (fun hB => ?_)
  refine z_cst hB (fun hB => ?_)
  obtain ⟨q1, e2, h⟩ := z_bind h
  have k3 : z_R G 351 50 [some (.ref (241)), none] [] (z_w w q1) (.inl none) (z_w w r) := by
    have hB : z_all [z_is 351 50 (zf_aload 50 0 51), z_is 351 51 (zf_getr 51 8 1 54), z_is 351 54 (zf_cst 54 (jn 0) 55), z_is 351 55 (zf_aload 55 0 56), z_is 351 56 (zf_getr 56 8 3 59), z_is 351 59 (zf_aload 59 0 60), z_is 351 60 (zf_geti 60 8 7 63), z_is 351 63 (zf_cst 63 (jn 173) 66), z_is 351 66 (zf_imul 66 67), z_is 351 67 (zf_cs 67 209 4 70), z_is 351 70 (zf_aload 70 0 71), z_is 351 71 (zf_dupr 71 72), z_is 351 72 (zf_geti 72 8 7 75), z_is 351 75 (zf_cst 75 (jn 1) 76), z_is 351 76 (zf_iadd 76 77), z_is 351 77 (zf_puti 77 8 7 80), z_is 351 80 (zf_ret 6)] = true := by decide +kernel
    refine z_aload hB rfl (fun hB => ?_)
    refine y_getr (b := 242) ok hB (by decide +kernel) (by decide +kernel) (fun hB => ?_)
    refine z_cst hB (fun hB => ?_)
    refine z_aload hB rfl (fun hB => ?_)
    refine y_getr (b := 244) ok hB (by decide +kernel) (by decide +kernel) (fun hB => ?_)
    refine z_aload hB rfl (fun hB => ?_)
    refine y_geti ok hB (by decide +kernel) (fun hB => ?_)
    refine z_cst hB (fun hB => ?_)
    refine z_imul hB (fun hB => ?_)
    obtain ⟨q4, e5, h⟩ := z_bind h
    refine z_callS hB (as := [.ref (242), .int ((jn 0)), .ref (244), .int (((q1 241 7) * (jn 173)))]) (rest := []) rfl rfl rfl (t_M_lays (I := q1) ok (by decide +kernel) (by decide +kernel) e5) (fun hB => ?_)
    refine z_aload hB rfl (fun hB => ?_)
    refine z_dupr hB (fun hB => ?_)
    refine y_geti ok hB (by decide +kernel) (fun hB => ?_)
    refine z_cst hB (fun hB => ?_)
    refine z_iadd hB (fun hB => ?_)
    refine y_puti ok hB (by decide +kernel) (fun hB => ?_)
    cases h
    exact z_retv hB
  have h := e2
  refine z_ic_ne hB (fun hc _ => ?_) (fun hc _ => ?_)
  · have h := z_neg hc h
    cases h
    exact z_weak k3 (z_se (z_sn z_s0))
  · have h := z_pos hc h
    have hB : z_all [z_is 351 9 (zf_cst 9 (jn 0) 10), z_is 351 10 (zf_istore 10 1 11)] = true := by decide +kernel
    refine z_cst hB (fun hB => ?_)
    refine z_istore hB rfl rfl (fun hB => ?_)
    obtain ⟨q8, e9, h⟩ := z_bind h
    have k10 : z_R G 351 40 [some (.ref (241)), none] [] (z_w w q8.2) (.inl none) (z_w w r) := by
      have hB : z_all [z_is 351 40 (zf_aload 40 0 41), z_is 351 41 (zf_dupr 41 42), z_is 351 42 (zf_geti 42 8 7 45), z_is 351 45 (zf_cst 45 (jn 1) 46), z_is 351 46 (zf_isub 46 47), z_is 351 47 (zf_puti 47 8 7 50)] = true := by decide +kernel
      refine z_aload hB rfl (fun hB => ?_)
      refine z_dupr hB (fun hB => ?_)
      refine y_geti ok hB (by decide +kernel) (fun hB => ?_)
      refine z_cst hB (fun hB => ?_)
      refine z_isub hB (fun hB => ?_)
      refine y_puti ok hB (by decide +kernel) (fun hB => ?_)
      cases h
      exact z_weak k3 (z_se (z_sn z_s0))
    have l7 : ∀ (m7 : Nat) (p6 : Int32 × z_H), z_it (d_M_remembers_7) m7 p6 = some q8 → z_R G 351 11 [some (.ref (241)), some (.int (p6.1))] [] (z_w w p6.2) (.inl none) (z_w w r) := by
      intro m7
      induction m7 with
      | zero => intro p6 h; cases h
      | succ m7 i7 =>
        intro p6 h
        obtain ⟨u7, h, b7⟩ := z_it_o h
        unfold d_M_remembers_7 at h
        have hB : z_all [z_is 351 11 (zf_iload 11 1 12), z_is 351 12 (zf_cst 12 (jn 1211) 15), z_is 351 15 (zf_if2 .ge 15 40 18)] = true := by decide +kernel
        refine z_iload hB rfl (fun hB => ?_)
        refine z_cst hB (fun hB => ?_)
        refine z_ic_ge hB (fun hc _ => ?_) (fun hc _ => ?_)
        · have h := z_neg hc h
          cases h
          cases b7
          exact z_weak k10 (z_se (z_sn z_s0))
        · have h := z_pos hc h
          have hB : z_all [z_is 351 18 (zf_aload 18 0 19), z_is 351 19 (zf_getr 19 8 3 22), z_is 351 22 (zf_iload 22 1 23), z_is 351 23 (zf_aload 23 0 24), z_is 351 24 (zf_getr 24 8 3 27), z_is 351 27 (zf_iload 27 1 28), z_is 351 28 (zf_cst 28 (jn 173) 31), z_is 351 31 (zf_iadd 31 32), z_is 351 32 (zf_iald 32 33), z_is 351 33 (zf_iast 33 34), z_is 351 34 (zf_iinc 34 1 (jn 1) 37), z_is 351 37 (zf_goto 37 11)] = true := by decide +kernel
          refine z_aload hB rfl (fun hB => ?_)
          refine y_getr (b := 244) ok hB (by decide +kernel) (by decide +kernel) (fun hB => ?_)
          refine z_iload hB rfl (fun hB => ?_)
          refine z_aload hB rfl (fun hB => ?_)
          refine y_getr (b := 244) ok hB (by decide +kernel) (by decide +kernel) (fun hB => ?_)
          refine z_iload hB rfl (fun hB => ?_)
          refine z_cst hB (fun hB => ?_)
          refine z_iadd hB (fun hB => ?_)
          obtain ⟨g11, h⟩ := z_gd h
          refine y_iald ok hB (by decide +kernel) (by decide +kernel) g11 (fun hB => ?_)
          obtain ⟨g12, h⟩ := z_gd h
          refine y_iast ok hB (by decide +kernel) (by decide +kernel) g12 (fun hB => ?_)
          refine z_iinc hB rfl rfl (fun hB => ?_)
          refine z_goto hB (fun hB => ?_)
          cases h
          exact z_weak (i7 ((p6.1 + (jn 1)), (ev_u2 p6.2 244 (z_n (p6.1)) (p6.2 244 (z_n ((p6.1 + (jn 173))))))) b7) (z_se (z_se z_s0))
    exact z_weak (l7 _ ((jn 0), I) e9) (z_se (z_se z_s0))
def d_M_put (x1 : Int32) (x2 : Int32) (I : z_H) : Option (Int32 × z_H) := ((d_M_isFlag (x1) I).bind fun q1 => (Option.bind (α := Int32) (if q1 = jn 0 then some ((jn 0)) else ((d_M_isTub (x2) I).bind fun q19 => (if q19 = jn 0 then some ((jn 0)) else some ((jn 1))))) fun q3 => (Option.bind (α := Int32) (if q3 = jn 0 then some ((jn 0)) else ((d_M_whyPut (x1) (x2) I).bind fun q17 => (if q17 = jn 0 then some ((jn 1)) else some ((jn 0))))) fun q6 => ((d_M_may ((I 241 6)) (q3) (q6) I).bind fun q9 => (if q9.1 = jn 0 then some (((jn 0), q9.2)) else ((d_M_remembers q9.2).bind fun q11 => ((d_M_putsInto (x1) (x2) q11).bind fun q13 => ((d_M_manyIn (x2) q13).bind fun q15 => some ((q15, q13))))))))))
/-- FlagLaundryModel.put(II)I -/
theorem t_M_put {G : z_G} {w : ev_W} (ok : z_Ok G w) {x1 : Int32} {x2 : Int32} {I : z_H} {r : Int32 × z_H} (h : d_M_put x1 x2 I = some r) : z_K G 352 [.ref (241), .int (x1), .int (x2)] (z_w w I) (.inl (some (.int r.1))) (z_w w r.2) := by
  refine z_con ok.1 (ml := 4) (by decide +kernel) rfl rfl ?_
  show z_R G 352 0 [some (.ref (241)), some (.int (x1)), some (.int (x2)), none] [] (z_w w I) (.inl (some (.int r.1))) (z_w w r.2)
  unfold d_M_put at h
  have hB : z_all [z_is 352 0 (zf_aload 0 0 1), z_is 352 1 (zf_iload 1 1 2), z_is 352 2 (zf_cv 2 285 1 8 5), z_is 352 5 (zf_if1 .eq 5 20 8)] = true := by decide +kernel
  refine z_aload hB rfl (fun hB => ?_)
  refine z_iload hB rfl (fun hB => ?_)
  obtain ⟨q1, e2, h⟩ := z_bind h
  refine y_cv ok hB (as := [.int (x1)]) (a := 241) (rest := []) rfl rfl rfl (by decide +kernel) (t_M_isFlag (I := I) ok e2) (fun hB => ?_)
  obtain ⟨q3, e4, h⟩ := z_bind h
  have k5 : z_R G 352 21 [some (.ref (241)), some (.int (x1)), some (.int (x2)), none] [.int (q3)] (z_w w I) (.inl (some (.int r.1))) (z_w w r.2) := by
    have hB : z_all [z_is 352 21 (zf_istore 21 3 22), z_is 352 22 (zf_aload 22 0 23), z_is 352 23 (zf_aload 23 0 24), z_is 352 24 (zf_geti 24 8 6 27), z_is 352 27 (zf_iload 27 3 28), z_is 352 28 (zf_iload 28 3 29), z_is 352 29 (zf_if1 .eq 29 45 32)] = true := by decide +kernel
    refine z_istore hB rfl rfl (fun hB => ?_)
    refine z_aload hB rfl (fun hB => ?_)
    refine z_aload hB rfl (fun hB => ?_)
    refine y_geti ok hB (by decide +kernel) (fun hB => ?_)
    refine z_iload hB rfl (fun hB => ?_)
    refine z_iload hB rfl (fun hB => ?_)
    obtain ⟨q6, e7, h⟩ := z_bind h
    have k8 : z_R G 352 46 [some (.ref (241)), some (.int (x1)), some (.int (x2)), none] [.int (q6), .int (q3), .int ((I 241 6)), .ref (241)] (z_w w I) (.inl (some (.int r.1))) (z_w w r.2) := by
      have hB : z_all [z_is 352 46 (zf_cv 46 206 3 8 49), z_is 352 49 (zf_if1 .ne 49 54 52)] = true := by decide +kernel
      obtain ⟨q9, e10, h⟩ := z_bind h
      refine y_cv ok hB (as := [.int ((I 241 6)), .int (q3), .int (q6)]) (a := 241) (rest := []) rfl rfl rfl (by decide +kernel) (t_M_may (I := I) ok e10) (fun hB => ?_)
      refine z_if_ne hB (fun hc _ => ?_) (fun hc _ => ?_)
      · have h := z_neg hc h
        have hB : z_all [z_is 352 54 (zf_aload 54 0 55), z_is 352 55 (zf_cv 55 351 0 8 58), z_is 352 58 (zf_aload 58 0 59), z_is 352 59 (zf_iload 59 1 60), z_is 352 60 (zf_iload 60 2 61), z_is 352 61 (zf_cv 61 253 2 8 64), z_is 352 64 (zf_aload 64 0 65), z_is 352 65 (zf_iload 65 2 66), z_is 352 66 (zf_cv 66 251 1 8 69), z_is 352 69 (zf_ret 0)] = true := by decide +kernel
        refine z_aload hB rfl (fun hB => ?_)
        obtain ⟨q11, e12, h⟩ := z_bind h
        refine y_cv ok hB (as := []) (a := 241) (rest := []) rfl rfl rfl (by decide +kernel) (t_M_remembers (I := q9.2) ok e12) (fun hB => ?_)
        refine z_aload hB rfl (fun hB => ?_)
        refine z_iload hB rfl (fun hB => ?_)
        refine z_iload hB rfl (fun hB => ?_)
        obtain ⟨q13, e14, h⟩ := z_bind h
        refine y_cv ok hB (as := [.int (x1), .int (x2)]) (a := 241) (rest := []) rfl rfl rfl (by decide +kernel) (t_M_putsInto (I := q11) ok e14) (fun hB => ?_)
        refine z_aload hB rfl (fun hB => ?_)
        refine z_iload hB rfl (fun hB => ?_)
        obtain ⟨q15, e16, h⟩ := z_bind h
        refine y_cv ok hB (as := [.int (x2)]) (a := 241) (rest := []) rfl rfl rfl (by decide +kernel) (t_M_manyIn (I := q13) ok e16) (fun hB => ?_)
        cases h
        exact z_reti hB
      · have h := z_pos hc h
        have hB : z_all [z_is 352 52 (zf_cst 52 (jn 0) 53), z_is 352 53 (zf_ret 0)] = true := by decide +kernel
        refine z_cst hB (fun hB => ?_)
        cases h
        exact z_reti hB
    have h := e7
    refine z_if_eq hB (fun hc _ => ?_) (fun hc _ => ?_)
    · have h := z_pos hc h
      have hB : z_all [z_is 352 45 (zf_cst 45 (jn 0) 46)] = true := by decide +kernel
      refine z_cst hB (fun hB => ?_)
      cases h
      exact z_weak k8 (z_se (z_se (z_se (z_sn z_s0))))
    · have h := z_neg hc h
      have hB : z_all [z_is 352 32 (zf_aload 32 0 33), z_is 352 33 (zf_iload 33 1 34), z_is 352 34 (zf_iload 34 2 35), z_is 352 35 (zf_cv 35 252 2 8 38), z_is 352 38 (zf_if1 .ne 38 45 41)] = true := by decide +kernel
      refine z_aload hB rfl (fun hB => ?_)
      refine z_iload hB rfl (fun hB => ?_)
      refine z_iload hB rfl (fun hB => ?_)
      obtain ⟨q17, e18, h⟩ := z_bind h
      refine y_cv ok hB (as := [.int (x1), .int (x2)]) (a := 241) (rest := [.int (q3), .int ((I 241 6)), .ref (241)]) rfl rfl rfl (by decide +kernel) (t_M_whyPut (I := I) ok e18) (fun hB => ?_)
      refine z_if_ne hB (fun hc _ => ?_) (fun hc _ => ?_)
      · have h := z_neg hc h
        have hB : z_all [z_is 352 45 (zf_cst 45 (jn 0) 46)] = true := by decide +kernel
        refine z_cst hB (fun hB => ?_)
        cases h
        exact z_weak k8 (z_se (z_se (z_se (z_sn z_s0))))
      · have h := z_pos hc h
        have hB : z_all [z_is 352 41 (zf_cst 41 (jn 1) 42), z_is 352 42 (zf_goto 42 46)] = true := by decide +kernel
        refine z_cst hB (fun hB => ?_)
        refine z_goto hB (fun hB => ?_)
        cases h
        exact z_weak k8 (z_se (z_se (z_se (z_sn z_s0))))
  have h := e4
  refine z_if_eq hB (fun hc _ => ?_) (fun hc _ => ?_)
  · have h := z_pos hc h
    have hB : z_all [z_is 352 20 (zf_cst 20 (jn 0) 21)] = true := by decide +kernel
    refine z_cst hB (fun hB => ?_)
    cases h
    exact z_weak k5 (z_se (z_se (z_se (z_sn z_s0))))
  · have h := z_neg hc h
    have hB : z_all [z_is 352 8 (zf_aload 8 0 9), z_is 352 9 (zf_iload 9 2 10), z_is 352 10 (zf_cv 10 286 1 8 13), z_is 352 13 (zf_if1 .eq 13 20 16)] = true := by decide +kernel
    refine z_aload hB rfl (fun hB => ?_)
    refine z_iload hB rfl (fun hB => ?_)
    obtain ⟨q19, e20, h⟩ := z_bind h
    refine y_cv ok hB (as := [.int (x2)]) (a := 241) (rest := []) rfl rfl rfl (by decide +kernel) (t_M_isTub (I := I) ok e20) (fun hB => ?_)
    refine z_if_eq hB (fun hc _ => ?_) (fun hc _ => ?_)
    · have h := z_pos hc h
      have hB : z_all [z_is 352 20 (zf_cst 20 (jn 0) 21)] = true := by decide +kernel
      refine z_cst hB (fun hB => ?_)
      cases h
      exact z_weak k5 (z_se (z_se (z_se (z_sn z_s0))))
    · have h := z_neg hc h
      have hB : z_all [z_is 352 16 (zf_cst 16 (jn 1) 17), z_is 352 17 (zf_goto 17 21)] = true := by decide +kernel
      refine z_cst hB (fun hB => ?_)
      refine z_goto hB (fun hB => ?_)
      cases h
      exact z_weak k5 (z_se (z_se (z_se (z_sn z_s0))))
def d_M_wash (x1 : Int32) (x2 : Int32) (I : z_H) : Option (Int32 × z_H) := ((d_M_isTub (x1) I).bind fun q1 => (Option.bind (α := Int32) (if q1 = jn 0 then some ((jn 0)) else ((d_M_isHeat (x2)).bind fun q12 => (if q12 = jn 0 then some ((jn 0)) else ((d_M_whyWash (x1) (x2) I).bind fun q14 => (if q14 = jn 0 then some ((jn 1)) else some ((jn 0))))))) fun q3 => ((d_M_may ((I 241 6)) (q1) (q3) I).bind fun q6 => (if q6.1 = jn 0 then some (((jn 0), q6.2)) else ((d_M_remembers q6.2).bind fun q8 => ((d_M_washes (x1) (x2) q8).bind fun q10 => some ((q10.1, q10.2))))))))
/-- FlagLaundryModel.wash(II)I -/
theorem t_M_wash {G : z_G} {w : ev_W} (ok : z_Ok G w) {x1 : Int32} {x2 : Int32} {I : z_H} {r : Int32 × z_H} (h : d_M_wash x1 x2 I = some r) : z_K G 353 [.ref (241), .int (x1), .int (x2)] (z_w w I) (.inl (some (.int r.1))) (z_w w r.2) := by
  refine z_con ok.1 (ml := 4) (by decide +kernel) rfl rfl ?_
  show z_R G 353 0 [some (.ref (241)), some (.int (x1)), some (.int (x2)), none] [] (z_w w I) (.inl (some (.int r.1))) (z_w w r.2)
  unfold d_M_wash at h
  have hB : z_all [z_is 353 0 (zf_aload 0 0 1), z_is 353 1 (zf_iload 1 1 2), z_is 353 2 (zf_cv 2 286 1 8 5), z_is 353 5 (zf_istore 5 3 6), z_is 353 6 (zf_aload 6 0 7), z_is 353 7 (zf_aload 7 0 8), z_is 353 8 (zf_geti 8 8 6 11), z_is 353 11 (zf_iload 11 3 12), z_is 353 12 (zf_iload 12 3 13), z_is 353 13 (zf_if1 .eq 13 36 16)] = true := by decide +kernel
  refine z_aload hB rfl (fun hB => ?_)
  refine z_iload hB rfl (fun hB => ?_)
  obtain ⟨q1, e2, h⟩ := z_bind h
  refine y_cv ok hB (as := [.int (x1)]) (a := 241) (rest := []) rfl rfl rfl (by decide +kernel) (t_M_isTub (I := I) ok e2) (fun hB => ?_)
  refine z_istore hB rfl rfl (fun hB => ?_)
  refine z_aload hB rfl (fun hB => ?_)
  refine z_aload hB rfl (fun hB => ?_)
  refine y_geti ok hB (by decide +kernel) (fun hB => ?_)
  refine z_iload hB rfl (fun hB => ?_)
  refine z_iload hB rfl (fun hB => ?_)
  obtain ⟨q3, e4, h⟩ := z_bind h
  have k5 : z_R G 353 37 [some (.ref (241)), some (.int (x1)), some (.int (x2)), none] [.int (q3), .int (q1), .int ((I 241 6)), .ref (241)] (z_w w I) (.inl (some (.int r.1))) (z_w w r.2) := by
    have hB : z_all [z_is 353 37 (zf_cv 37 206 3 8 40), z_is 353 40 (zf_if1 .ne 40 45 43)] = true := by decide +kernel
    obtain ⟨q6, e7, h⟩ := z_bind h
    refine y_cv ok hB (as := [.int ((I 241 6)), .int (q1), .int (q3)]) (a := 241) (rest := []) rfl rfl rfl (by decide +kernel) (t_M_may (I := I) ok e7) (fun hB => ?_)
    refine z_if_ne hB (fun hc _ => ?_) (fun hc _ => ?_)
    · have h := z_neg hc h
      have hB : z_all [z_is 353 45 (zf_aload 45 0 46), z_is 353 46 (zf_cv 46 351 0 8 49), z_is 353 49 (zf_aload 49 0 50), z_is 353 50 (zf_iload 50 1 51), z_is 353 51 (zf_iload 51 2 52), z_is 353 52 (zf_cv 52 264 2 8 55), z_is 353 55 (zf_ret 0)] = true := by decide +kernel
      refine z_aload hB rfl (fun hB => ?_)
      obtain ⟨q8, e9, h⟩ := z_bind h
      refine y_cv ok hB (as := []) (a := 241) (rest := []) rfl rfl rfl (by decide +kernel) (t_M_remembers (I := q6.2) ok e9) (fun hB => ?_)
      refine z_aload hB rfl (fun hB => ?_)
      refine z_iload hB rfl (fun hB => ?_)
      refine z_iload hB rfl (fun hB => ?_)
      obtain ⟨q10, e11, h⟩ := z_bind h
      refine y_cv ok hB (as := [.int (x1), .int (x2)]) (a := 241) (rest := []) rfl rfl rfl (by decide +kernel) (t_M_washes (I := q8) ok e11) (fun hB => ?_)
      cases h
      exact z_reti hB
    · have h := z_pos hc h
      have hB : z_all [z_is 353 43 (zf_cst 43 (jn 0) 44), z_is 353 44 (zf_ret 0)] = true := by decide +kernel
      refine z_cst hB (fun hB => ?_)
      cases h
      exact z_reti hB
  have h := e4
  refine z_if_eq hB (fun hc _ => ?_) (fun hc _ => ?_)
  · have h := z_pos hc h
    have hB : z_all [z_is 353 36 (zf_cst 36 (jn 0) 37)] = true := by decide +kernel
    refine z_cst hB (fun hB => ?_)
    cases h
    exact z_weak k5 (z_se (z_se (z_se (z_sn z_s0))))
  · have h := z_neg hc h
    have hB : z_all [z_is 353 16 (zf_iload 16 2 17), z_is 353 17 (zf_cs 17 287 1 20), z_is 353 20 (zf_if1 .eq 20 36 23)] = true := by decide +kernel
    refine z_iload hB rfl (fun hB => ?_)
    obtain ⟨q12, e13, h⟩ := z_bind h
    refine z_callS hB (as := [.int (x2)]) (rest := [.int (q1), .int ((I 241 6)), .ref (241)]) rfl rfl rfl (t_M_isHeat (I := I) ok e13) (fun hB => ?_)
    refine z_if_eq hB (fun hc _ => ?_) (fun hc _ => ?_)
    · have h := z_pos hc h
      have hB : z_all [z_is 353 36 (zf_cst 36 (jn 0) 37)] = true := by decide +kernel
      refine z_cst hB (fun hB => ?_)
      cases h
      exact z_weak k5 (z_se (z_se (z_se (z_sn z_s0))))
    · have h := z_neg hc h
      have hB : z_all [z_is 353 23 (zf_aload 23 0 24), z_is 353 24 (zf_iload 24 1 25), z_is 353 25 (zf_iload 25 2 26), z_is 353 26 (zf_cv 26 255 2 8 29), z_is 353 29 (zf_if1 .ne 29 36 32)] = true := by decide +kernel
      refine z_aload hB rfl (fun hB => ?_)
      refine z_iload hB rfl (fun hB => ?_)
      refine z_iload hB rfl (fun hB => ?_)
      obtain ⟨q14, e15, h⟩ := z_bind h
      refine y_cv ok hB (as := [.int (x1), .int (x2)]) (a := 241) (rest := [.int (q1), .int ((I 241 6)), .ref (241)]) rfl rfl rfl (by decide +kernel) (t_M_whyWash (I := I) ok e15) (fun hB => ?_)
      refine z_if_ne hB (fun hc _ => ?_) (fun hc _ => ?_)
      · have h := z_neg hc h
        have hB : z_all [z_is 353 36 (zf_cst 36 (jn 0) 37)] = true := by decide +kernel
        refine z_cst hB (fun hB => ?_)
        cases h
        exact z_weak k5 (z_se (z_se (z_se (z_sn z_s0))))
      · have h := z_pos hc h
        have hB : z_all [z_is 353 32 (zf_cst 32 (jn 1) 33), z_is 353 33 (zf_goto 33 37)] = true := by decide +kernel
        refine z_cst hB (fun hB => ?_)
        refine z_goto hB (fun hB => ?_)
        cases h
        exact z_weak k5 (z_se (z_se (z_se (z_sn z_s0))))
def d_M_hang (x1 : Int32) (I : z_H) : Option (Int32 × z_H) := ((d_M_isFlag (x1) I).bind fun q1 => (Option.bind (α := Int32) (if q1 = jn 0 then some ((jn 0)) else ((d_M_canHang (x1) I).bind fun q14 => (if q14 = jn 0 then some ((jn 0)) else some ((jn 1))))) fun q3 => ((d_M_may ((I 241 6)) (q1) (q3) I).bind fun q6 => (if q6.1 = jn 0 then some (((jn 0), q6.2)) else ((d_M_remembers q6.2).bind fun q8 => ((d_M_hangs (x1) q8).bind fun q10 => ((d_M_ofFlag (x1) ((jn 9)) q10).bind fun q12 => some ((q12, q10)))))))))
/-- FlagLaundryModel.hang(I)I -/
theorem t_M_hang {G : z_G} {w : ev_W} (ok : z_Ok G w) {x1 : Int32} {I : z_H} {r : Int32 × z_H} (h : d_M_hang x1 I = some r) : z_K G 354 [.ref (241), .int (x1)] (z_w w I) (.inl (some (.int r.1))) (z_w w r.2) := by
  refine z_con ok.1 (ml := 3) (by decide +kernel) rfl rfl ?_
  show z_R G 354 0 [some (.ref (241)), some (.int (x1)), none] [] (z_w w I) (.inl (some (.int r.1))) (z_w w r.2)
  unfold d_M_hang at h
  have hB : z_all [z_is 354 0 (zf_aload 0 0 1), z_is 354 1 (zf_iload 1 1 2), z_is 354 2 (zf_cv 2 285 1 8 5), z_is 354 5 (zf_istore 5 2 6), z_is 354 6 (zf_aload 6 0 7), z_is 354 7 (zf_aload 7 0 8), z_is 354 8 (zf_geti 8 8 6 11), z_is 354 11 (zf_iload 11 2 12), z_is 354 12 (zf_iload 12 2 13), z_is 354 13 (zf_if1 .eq 13 28 16)] = true := by decide +kernel
  refine z_aload hB rfl (fun hB => ?_)
  refine z_iload hB rfl (fun hB => ?_)
  obtain ⟨q1, e2, h⟩ := z_bind h
  refine y_cv ok hB (as := [.int (x1)]) (a := 241) (rest := []) rfl rfl rfl (by decide +kernel) (t_M_isFlag (I := I) ok e2) (fun hB => ?_)
  refine z_istore hB rfl rfl (fun hB => ?_)
  refine z_aload hB rfl (fun hB => ?_)
  refine z_aload hB rfl (fun hB => ?_)
  refine y_geti ok hB (by decide +kernel) (fun hB => ?_)
  refine z_iload hB rfl (fun hB => ?_)
  refine z_iload hB rfl (fun hB => ?_)
  obtain ⟨q3, e4, h⟩ := z_bind h
  have k5 : z_R G 354 29 [some (.ref (241)), some (.int (x1)), none] [.int (q3), .int (q1), .int ((I 241 6)), .ref (241)] (z_w w I) (.inl (some (.int r.1))) (z_w w r.2) := by
    have hB : z_all [z_is 354 29 (zf_cv 29 206 3 8 32), z_is 354 32 (zf_if1 .ne 32 37 35)] = true := by decide +kernel
    obtain ⟨q6, e7, h⟩ := z_bind h
    refine y_cv ok hB (as := [.int ((I 241 6)), .int (q1), .int (q3)]) (a := 241) (rest := []) rfl rfl rfl (by decide +kernel) (t_M_may (I := I) ok e7) (fun hB => ?_)
    refine z_if_ne hB (fun hc _ => ?_) (fun hc _ => ?_)
    · have h := z_neg hc h
      have hB : z_all [z_is 354 37 (zf_aload 37 0 38), z_is 354 38 (zf_cv 38 351 0 8 41), z_is 354 41 (zf_aload 41 0 42), z_is 354 42 (zf_iload 42 1 43), z_is 354 43 (zf_cv 43 268 1 8 46), z_is 354 46 (zf_aload 46 0 47), z_is 354 47 (zf_iload 47 1 48), z_is 354 48 (zf_cst 48 (jn 9) 50), z_is 354 50 (zf_cv 50 242 2 8 53), z_is 354 53 (zf_ret 0)] = true := by decide +kernel
      refine z_aload hB rfl (fun hB => ?_)
      obtain ⟨q8, e9, h⟩ := z_bind h
      refine y_cv ok hB (as := []) (a := 241) (rest := []) rfl rfl rfl (by decide +kernel) (t_M_remembers (I := q6.2) ok e9) (fun hB => ?_)
      refine z_aload hB rfl (fun hB => ?_)
      refine z_iload hB rfl (fun hB => ?_)
      obtain ⟨q10, e11, h⟩ := z_bind h
      refine y_cv ok hB (as := [.int (x1)]) (a := 241) (rest := []) rfl rfl rfl (by decide +kernel) (t_M_hangs (I := q8) ok e11) (fun hB => ?_)
      refine z_aload hB rfl (fun hB => ?_)
      refine z_iload hB rfl (fun hB => ?_)
      refine z_cst hB (fun hB => ?_)
      obtain ⟨q12, e13, h⟩ := z_bind h
      refine y_cv ok hB (as := [.int (x1), .int ((jn 9))]) (a := 241) (rest := []) rfl rfl rfl (by decide +kernel) (t_M_ofFlag (I := q10) ok e13) (fun hB => ?_)
      cases h
      exact z_reti hB
    · have h := z_pos hc h
      have hB : z_all [z_is 354 35 (zf_cst 35 (jn 0) 36), z_is 354 36 (zf_ret 0)] = true := by decide +kernel
      refine z_cst hB (fun hB => ?_)
      cases h
      exact z_reti hB
  have h := e4
  refine z_if_eq hB (fun hc _ => ?_) (fun hc _ => ?_)
  · have h := z_pos hc h
    have hB : z_all [z_is 354 28 (zf_cst 28 (jn 0) 29)] = true := by decide +kernel
    refine z_cst hB (fun hB => ?_)
    cases h
    exact z_weak k5 (z_se (z_se (z_sn z_s0)))
  · have h := z_neg hc h
    have hB : z_all [z_is 354 16 (zf_aload 16 0 17), z_is 354 17 (zf_iload 17 1 18), z_is 354 18 (zf_cv 18 267 1 8 21), z_is 354 21 (zf_if1 .eq 21 28 24)] = true := by decide +kernel
    refine z_aload hB rfl (fun hB => ?_)
    refine z_iload hB rfl (fun hB => ?_)
    obtain ⟨q14, e15, h⟩ := z_bind h
    refine y_cv ok hB (as := [.int (x1)]) (a := 241) (rest := [.int (q1), .int ((I 241 6)), .ref (241)]) rfl rfl rfl (by decide +kernel) (t_M_canHang (I := I) ok e15) (fun hB => ?_)
    refine z_if_eq hB (fun hc _ => ?_) (fun hc _ => ?_)
    · have h := z_pos hc h
      have hB : z_all [z_is 354 28 (zf_cst 28 (jn 0) 29)] = true := by decide +kernel
      refine z_cst hB (fun hB => ?_)
      cases h
      exact z_weak k5 (z_se (z_se (z_sn z_s0)))
    · have h := z_neg hc h
      have hB : z_all [z_is 354 24 (zf_cst 24 (jn 1) 25), z_is 354 25 (zf_goto 25 29)] = true := by decide +kernel
      refine z_cst hB (fun hB => ?_)
      refine z_goto hB (fun hB => ?_)
      cases h
      exact z_weak k5 (z_se (z_se (z_sn z_s0)))
def d_M_hangAll_6  (p5 : Int32 × Int32 × z_H) : Option ((Int32 × Int32 × z_H) ⊕ (Int32 × Int32 × z_H)) := (if z_in ((jn 10)) 173 then (if p5.2.1 < (p5.2.2 242 (z_n ((jn 10)))) then ((d_M_ofFlag (p5.2.1) ((jn 4)) p5.2.2).bind fun q11 => (Option.bind (α := Int32 × z_H) (if q11 = jn 0 then some (p5.1, p5.2.2) else ((d_M_canHang (p5.2.1) p5.2.2).bind fun q16 => (if q16 = jn 0 then some (p5.1, p5.2.2) else ((d_M_hangs (p5.2.1) p5.2.2).bind fun q18 => some ((p5.1 + (jn 1)), q18))))) fun q13 => some (Sum.inl (q13.1, (p5.2.1 + (jn 1)), q13.2)))) else some (Sum.inr (p5.1, p5.2.1, p5.2.2))) else none)
def d_M_hangAll  (I : z_H) : Option (Int32 × z_H) := ((d_M_mayLook I).bind fun q1 => (if q1.1 = jn 0 then some (((jn 0), q1.2)) else ((d_M_remembers q1.2).bind fun q3 => ((z_it (d_M_hangAll_6) z_F ((jn 0), (jn 0), q3)).bind fun q7 => some ((q7.1, q7.2.2))))))
/-- FlagLaundryModel.hangAll()I -/
theorem t_M_hangAll {G : z_G} {w : ev_W} (ok : z_Ok G w) {I : z_H} {r : Int32 × z_H} (h : d_M_hangAll I = some r) : z_K G 355 [.ref (241)] (z_w w I) (.inl (some (.int r.1))) (z_w w r.2) := by
  refine z_con ok.1 (ml := 3) (by decide +kernel) rfl rfl ?_
  show z_R G 355 0 [some (.ref (241)), none, none] [] (z_w w I) (.inl (some (.int r.1))) (z_w w r.2)
  unfold d_M_hangAll at h
  have hB : z_all [z_is 355 0 (zf_aload 0 0 1), z_is 355 1 (zf_cv 1 208 0 8 4), z_is 355 4 (zf_if1 .ne 4 9 7)] = true := by decide +kernel
  refine z_aload hB rfl (fun hB => ?_)
  obtain ⟨q1, e2, h⟩ := z_bind h
  refine y_cv ok hB (as := []) (a := 241) (rest := []) rfl rfl rfl (by decide +kernel) (t_M_mayLook (I := I) ok e2) (fun hB => ?_)
  refine z_if_ne hB (fun hc _ => ?_) (fun hc _ => ?_)
  · have h := z_neg hc h
    have hB : z_all [z_is 355 9 (zf_aload 9 0 10), z_is 355 10 (zf_cv 10 351 0 8 13), z_is 355 13 (zf_cst 13 (jn 0) 14), z_is 355 14 (zf_istore 14 1 15), z_is 355 15 (zf_cst 15 (jn 0) 16), z_is 355 16 (zf_istore 16 2 17)] = true := by decide +kernel
    refine z_aload hB rfl (fun hB => ?_)
    obtain ⟨q3, e4, h⟩ := z_bind h
    refine y_cv ok hB (as := []) (a := 241) (rest := []) rfl rfl rfl (by decide +kernel) (t_M_remembers (I := q1.2) ok e4) (fun hB => ?_)
    refine z_cst hB (fun hB => ?_)
    refine z_istore hB rfl rfl (fun hB => ?_)
    refine z_cst hB (fun hB => ?_)
    refine z_istore hB rfl rfl (fun hB => ?_)
    obtain ⟨q7, e8, h⟩ := z_bind h
    have k9 : z_R G 355 62 [none, some (.int (q7.1)), none] [] (z_w w q7.2.2) (.inl (some (.int r.1))) (z_w w r.2) := by
      have hB : z_all [z_is 355 62 (zf_iload 62 1 63), z_is 355 63 (zf_ret 0)] = true := by decide +kernel
      refine z_iload hB rfl (fun hB => ?_)
      cases h
      exact z_reti hB
    have l6 : ∀ (m6 : Nat) (p5 : Int32 × Int32 × z_H), z_it (d_M_hangAll_6) m6 p5 = some q7 → z_R G 355 17 [some (.ref (241)), some (.int (p5.1)), some (.int (p5.2.1))] [] (z_w w p5.2.2) (.inl (some (.int r.1))) (z_w w r.2) := by
      intro m6
      induction m6 with
      | zero => intro p5 h; cases h
      | succ m6 i6 =>
        intro p5 h
        obtain ⟨u6, h, b6⟩ := z_it_o h
        unfold d_M_hangAll_6 at h
        have hB : z_all [z_is 355 17 (zf_iload 17 2 18), z_is 355 18 (zf_aload 18 0 19), z_is 355 19 (zf_getr 19 8 1 22), z_is 355 22 (zf_cst 22 (jn 10) 24), z_is 355 24 (zf_iald 24 25), z_is 355 25 (zf_if2 .ge 25 62 28)] = true := by decide +kernel
        refine z_iload hB rfl (fun hB => ?_)
        refine z_aload hB rfl (fun hB => ?_)
        refine y_getr (b := 242) ok hB (by decide +kernel) (by decide +kernel) (fun hB => ?_)
        refine z_cst hB (fun hB => ?_)
        obtain ⟨g10, h⟩ := z_gd h
        refine y_iald ok hB (by decide +kernel) (by decide +kernel) g10 (fun hB => ?_)
        refine z_ic_ge hB (fun hc _ => ?_) (fun hc _ => ?_)
        · have h := z_neg hc h
          cases h
          cases b6
          exact z_weak k9 (z_sn (z_se (z_sn z_s0)))
        · have h := z_pos hc h
          have hB : z_all [z_is 355 28 (zf_aload 28 0 29), z_is 355 29 (zf_iload 29 2 30), z_is 355 30 (zf_cst 30 (jn 4) 31), z_is 355 31 (zf_cv 31 242 2 8 34), z_is 355 34 (zf_if1 .eq 34 56 37)] = true := by decide +kernel
          refine z_aload hB rfl (fun hB => ?_)
          refine z_iload hB rfl (fun hB => ?_)
          refine z_cst hB (fun hB => ?_)
          obtain ⟨q11, e12, h⟩ := z_bind h
          refine y_cv ok hB (as := [.int (p5.2.1), .int ((jn 4))]) (a := 241) (rest := []) rfl rfl rfl (by decide +kernel) (t_M_ofFlag (I := p5.2.2) ok e12) (fun hB => ?_)
          obtain ⟨q13, e14, h⟩ := z_bind h
          have k15 : z_R G 355 56 [some (.ref (241)), some (.int (q13.1)), some (.int (p5.2.1))] [] (z_w w q13.2) (.inl (some (.int r.1))) (z_w w r.2) := by
            have hB : z_all [z_is 355 56 (zf_iinc 56 2 (jn 1) 59), z_is 355 59 (zf_goto 59 17)] = true := by decide +kernel
            refine z_iinc hB rfl rfl (fun hB => ?_)
            refine z_goto hB (fun hB => ?_)
            cases h
            exact z_weak (i6 (q13.1, (p5.2.1 + (jn 1)), q13.2) b6) (z_se (z_se (z_se z_s0)))
          have h := e14
          refine z_if_eq hB (fun hc _ => ?_) (fun hc _ => ?_)
          · have h := z_pos hc h
            cases h
            exact z_weak k15 (z_se (z_se (z_se z_s0)))
          · have h := z_neg hc h
            have hB : z_all [z_is 355 37 (zf_aload 37 0 38), z_is 355 38 (zf_iload 38 2 39), z_is 355 39 (zf_cv 39 267 1 8 42), z_is 355 42 (zf_if1 .ne 42 48 45)] = true := by decide +kernel
            refine z_aload hB rfl (fun hB => ?_)
            refine z_iload hB rfl (fun hB => ?_)
            obtain ⟨q16, e17, h⟩ := z_bind h
            refine y_cv ok hB (as := [.int (p5.2.1)]) (a := 241) (rest := []) rfl rfl rfl (by decide +kernel) (t_M_canHang (I := p5.2.2) ok e17) (fun hB => ?_)
            refine z_if_ne hB (fun hc _ => ?_) (fun hc _ => ?_)
            · have h := z_neg hc h
              have hB : z_all [z_is 355 48 (zf_aload 48 0 49), z_is 355 49 (zf_iload 49 2 50), z_is 355 50 (zf_cv 50 268 1 8 53), z_is 355 53 (zf_iinc 53 1 (jn 1) 56)] = true := by decide +kernel
              refine z_aload hB rfl (fun hB => ?_)
              refine z_iload hB rfl (fun hB => ?_)
              obtain ⟨q18, e19, h⟩ := z_bind h
              refine y_cv ok hB (as := [.int (p5.2.1)]) (a := 241) (rest := []) rfl rfl rfl (by decide +kernel) (t_M_hangs (I := p5.2.2) ok e19) (fun hB => ?_)
              refine z_iinc hB rfl rfl (fun hB => ?_)
              cases h
              exact z_weak k15 (z_se (z_se (z_se z_s0)))
            · have h := z_pos hc h
              have hB : z_all [z_is 355 45 (zf_goto 45 56)] = true := by decide +kernel
              refine z_goto hB (fun hB => ?_)
              cases h
              exact z_weak k15 (z_se (z_se (z_se z_s0)))
    exact z_weak (l6 _ ((jn 0), (jn 0), q3) e8) (z_se (z_se (z_se z_s0)))
  · have h := z_pos hc h
    have hB : z_all [z_is 355 7 (zf_cst 7 (jn 0) 8), z_is 355 8 (zf_ret 0)] = true := by decide +kernel
    refine z_cst hB (fun hB => ?_)
    cases h
    exact z_reti hB
def d_M_clearTub_8 (x1 : Int32) (p7 : Int32 × z_H) : Option ((Int32 × z_H) ⊕ (Int32 × z_H)) := (if z_in ((jn 10)) 173 then (if p7.1 < (p7.2 242 (z_n ((jn 10)))) then ((d_M_isInTub (p7.1) (x1) p7.2).bind fun q13 => (Option.bind (α := z_H) (if q13 = jn 0 then some (p7.2) else ((d_M_goesTo (p7.1) ((jn 0)) ((jg 1)) p7.2).bind fun q18 => some (q18))) fun q15 => some (Sum.inl ((p7.1 + (jn 1)), q15)))) else some (Sum.inr (p7.1, p7.2))) else none)
def d_M_clearTub (x1 : Int32) (I : z_H) : Option (Int32 × z_H) := ((d_M_mayTub (x1) I).bind fun q1 => (if q1.1 = jn 0 then some (((jn 0), q1.2)) else ((d_M_remembers q1.2).bind fun q3 => ((d_M_manyIn (x1) q3).bind fun q5 => ((z_it (d_M_clearTub_8 x1) z_F ((jn 0), q3)).bind fun q9 => some ((q5, q9.2)))))))
/-- FlagLaundryModel.clearTub(I)I -/
theorem t_M_clearTub {G : z_G} {w : ev_W} (ok : z_Ok G w) {x1 : Int32} {I : z_H} {r : Int32 × z_H} (h : d_M_clearTub x1 I = some r) : z_K G 356 [.ref (241), .int (x1)] (z_w w I) (.inl (some (.int r.1))) (z_w w r.2) := by
  refine z_con ok.1 (ml := 4) (by decide +kernel) rfl rfl ?_
  show z_R G 356 0 [some (.ref (241)), some (.int (x1)), none, none] [] (z_w w I) (.inl (some (.int r.1))) (z_w w r.2)
  unfold d_M_clearTub at h
  have hB : z_all [z_is 356 0 (zf_aload 0 0 1), z_is 356 1 (zf_iload 1 1 2), z_is 356 2 (zf_cv 2 289 1 8 5), z_is 356 5 (zf_if1 .ne 5 10 8)] = true := by decide +kernel
  refine z_aload hB rfl (fun hB => ?_)
  refine z_iload hB rfl (fun hB => ?_)
  obtain ⟨q1, e2, h⟩ := z_bind h
  refine y_cv ok hB (as := [.int (x1)]) (a := 241) (rest := []) rfl rfl rfl (by decide +kernel) (t_M_mayTub (I := I) ok e2) (fun hB => ?_)
  refine z_if_ne hB (fun hc _ => ?_) (fun hc _ => ?_)
  · have h := z_neg hc h
    have hB : z_all [z_is 356 10 (zf_aload 10 0 11), z_is 356 11 (zf_cv 11 351 0 8 14), z_is 356 14 (zf_aload 14 0 15), z_is 356 15 (zf_iload 15 1 16), z_is 356 16 (zf_cv 16 251 1 8 19), z_is 356 19 (zf_istore 19 2 20), z_is 356 20 (zf_cst 20 (jn 0) 21), z_is 356 21 (zf_istore 21 3 22)] = true := by decide +kernel
    refine z_aload hB rfl (fun hB => ?_)
    obtain ⟨q3, e4, h⟩ := z_bind h
    refine y_cv ok hB (as := []) (a := 241) (rest := []) rfl rfl rfl (by decide +kernel) (t_M_remembers (I := q1.2) ok e4) (fun hB => ?_)
    refine z_aload hB rfl (fun hB => ?_)
    refine z_iload hB rfl (fun hB => ?_)
    obtain ⟨q5, e6, h⟩ := z_bind h
    refine y_cv ok hB (as := [.int (x1)]) (a := 241) (rest := []) rfl rfl rfl (by decide +kernel) (t_M_manyIn (I := q3) ok e6) (fun hB => ?_)
    refine z_istore hB rfl rfl (fun hB => ?_)
    refine z_cst hB (fun hB => ?_)
    refine z_istore hB rfl rfl (fun hB => ?_)
    obtain ⟨q9, e10, h⟩ := z_bind h
    have k11 : z_R G 356 55 [none, none, some (.int (q5)), none] [] (z_w w q9.2) (.inl (some (.int r.1))) (z_w w r.2) := by
      have hB : z_all [z_is 356 55 (zf_iload 55 2 56), z_is 356 56 (zf_ret 0)] = true := by decide +kernel
      refine z_iload hB rfl (fun hB => ?_)
      cases h
      exact z_reti hB
    have l8 : ∀ (m8 : Nat) (p7 : Int32 × z_H), z_it (d_M_clearTub_8 x1) m8 p7 = some q9 → z_R G 356 22 [some (.ref (241)), some (.int (x1)), some (.int (q5)), some (.int (p7.1))] [] (z_w w p7.2) (.inl (some (.int r.1))) (z_w w r.2) := by
      intro m8
      induction m8 with
      | zero => intro p7 h; cases h
      | succ m8 i8 =>
        intro p7 h
        obtain ⟨u8, h, b8⟩ := z_it_o h
        unfold d_M_clearTub_8 at h
        have hB : z_all [z_is 356 22 (zf_iload 22 3 23), z_is 356 23 (zf_aload 23 0 24), z_is 356 24 (zf_getr 24 8 1 27), z_is 356 27 (zf_cst 27 (jn 10) 29), z_is 356 29 (zf_iald 29 30), z_is 356 30 (zf_if2 .ge 30 55 33)] = true := by decide +kernel
        refine z_iload hB rfl (fun hB => ?_)
        refine z_aload hB rfl (fun hB => ?_)
        refine y_getr (b := 242) ok hB (by decide +kernel) (by decide +kernel) (fun hB => ?_)
        refine z_cst hB (fun hB => ?_)
        obtain ⟨g12, h⟩ := z_gd h
        refine y_iald ok hB (by decide +kernel) (by decide +kernel) g12 (fun hB => ?_)
        refine z_ic_ge hB (fun hc _ => ?_) (fun hc _ => ?_)
        · have h := z_neg hc h
          cases h
          cases b8
          exact z_weak k11 (z_sn (z_sn (z_se (z_sn z_s0))))
        · have h := z_pos hc h
          have hB : z_all [z_is 356 33 (zf_aload 33 0 34), z_is 356 34 (zf_iload 34 3 35), z_is 356 35 (zf_iload 35 1 36), z_is 356 36 (zf_cv 36 246 2 8 39), z_is 356 39 (zf_if1 .eq 39 49 42)] = true := by decide +kernel
          refine z_aload hB rfl (fun hB => ?_)
          refine z_iload hB rfl (fun hB => ?_)
          refine z_iload hB rfl (fun hB => ?_)
          obtain ⟨q13, e14, h⟩ := z_bind h
          refine y_cv ok hB (as := [.int (p7.1), .int (x1)]) (a := 241) (rest := []) rfl rfl rfl (by decide +kernel) (t_M_isInTub (I := p7.2) ok e14) (fun hB => ?_)
          obtain ⟨q15, e16, h⟩ := z_bind h
          have k17 : z_R G 356 49 [some (.ref (241)), some (.int (x1)), some (.int (q5)), some (.int (p7.1))] [] (z_w w q15) (.inl (some (.int r.1))) (z_w w r.2) := by
            have hB : z_all [z_is 356 49 (zf_iinc 49 3 (jn 1) 52), z_is 356 52 (zf_goto 52 22)] = true := by decide +kernel
            refine z_iinc hB rfl rfl (fun hB => ?_)
            refine z_goto hB (fun hB => ?_)
            cases h
            exact z_weak (i8 ((p7.1 + (jn 1)), q15) b8) (z_se (z_se (z_se (z_se z_s0))))
          have h := e16
          refine z_if_eq hB (fun hc _ => ?_) (fun hc _ => ?_)
          · have h := z_pos hc h
            cases h
            exact z_weak k17 (z_se (z_se (z_se (z_se z_s0))))
          · have h := z_neg hc h
            have hB : z_all [z_is 356 42 (zf_aload 42 0 43), z_is 356 43 (zf_iload 43 3 44), z_is 356 44 (zf_cst 44 (jn 0) 45), z_is 356 45 (zf_cst 45 (jg 1) 46), z_is 356 46 (zf_cv 46 247 3 8 49)] = true := by decide +kernel
            refine z_aload hB rfl (fun hB => ?_)
            refine z_iload hB rfl (fun hB => ?_)
            refine z_cst hB (fun hB => ?_)
            refine z_cst hB (fun hB => ?_)
            obtain ⟨q18, e19, h⟩ := z_bind h
            refine y_cv ok hB (as := [.int (p7.1), .int ((jn 0)), .int ((jg 1))]) (a := 241) (rest := []) rfl rfl rfl (by decide +kernel) (t_M_goesTo (I := p7.2) ok e19) (fun hB => ?_)
            cases h
            exact z_weak k17 (z_se (z_se (z_se (z_se z_s0))))
    exact z_weak (l8 _ ((jn 0), q3) e10) (z_se (z_se (z_se (z_se z_s0))))
  · have h := z_pos hc h
    have hB : z_all [z_is 356 8 (zf_cst 8 (jn 0) 9), z_is 356 9 (zf_ret 0)] = true := by decide +kernel
    refine z_cst hB (fun hB => ?_)
    cases h
    exact z_reti hB
def d_M_takeDown (x1 : Int32) (I : z_H) : Option (Int32 × z_H) := ((d_M_isFlag (x1) I).bind fun q1 => (Option.bind (α := Int32) (if q1 = jn 0 then some ((jn 0)) else ((d_M_where (x1) I).bind fun q14 => (if q14 = (jn 1) then some ((jn 1)) else ((d_M_where (x1) I).bind fun q16 => (if q16 = (jn 2) then some ((jn 1)) else some ((jn 0))))))) fun q3 => ((d_M_may ((I 241 6)) (q1) (q3) I).bind fun q6 => (if q6.1 = jn 0 then some (((jn 0), q6.2)) else ((d_M_remembers q6.2).bind fun q8 => ((d_M_goesTo (x1) ((jn 0)) ((jg 1)) q8).bind fun q10 => ((d_M_ofFlag (x1) ((jn 4)) q10).bind fun q12 => some ((q12, q10)))))))))
/-- FlagLaundryModel.takeDown(I)I -/
theorem t_M_takeDown {G : z_G} {w : ev_W} (ok : z_Ok G w) {x1 : Int32} {I : z_H} {r : Int32 × z_H} (h : d_M_takeDown x1 I = some r) : z_K G 357 [.ref (241), .int (x1)] (z_w w I) (.inl (some (.int r.1))) (z_w w r.2) := by
  refine z_con ok.1 (ml := 3) (by decide +kernel) rfl rfl ?_
  show z_R G 357 0 [some (.ref (241)), some (.int (x1)), none] [] (z_w w I) (.inl (some (.int r.1))) (z_w w r.2)
  unfold d_M_takeDown at h
  have hB : z_all [z_is 357 0 (zf_aload 0 0 1), z_is 357 1 (zf_iload 1 1 2), z_is 357 2 (zf_cv 2 285 1 8 5), z_is 357 5 (zf_istore 5 2 6), z_is 357 6 (zf_aload 6 0 7), z_is 357 7 (zf_aload 7 0 8), z_is 357 8 (zf_geti 8 8 6 11), z_is 357 11 (zf_iload 11 2 12), z_is 357 12 (zf_iload 12 2 13), z_is 357 13 (zf_if1 .eq 13 38 16)] = true := by decide +kernel
  refine z_aload hB rfl (fun hB => ?_)
  refine z_iload hB rfl (fun hB => ?_)
  obtain ⟨q1, e2, h⟩ := z_bind h
  refine y_cv ok hB (as := [.int (x1)]) (a := 241) (rest := []) rfl rfl rfl (by decide +kernel) (t_M_isFlag (I := I) ok e2) (fun hB => ?_)
  refine z_istore hB rfl rfl (fun hB => ?_)
  refine z_aload hB rfl (fun hB => ?_)
  refine z_aload hB rfl (fun hB => ?_)
  refine y_geti ok hB (by decide +kernel) (fun hB => ?_)
  refine z_iload hB rfl (fun hB => ?_)
  refine z_iload hB rfl (fun hB => ?_)
  obtain ⟨q3, e4, h⟩ := z_bind h
  have k5 : z_R G 357 39 [some (.ref (241)), some (.int (x1)), none] [.int (q3), .int (q1), .int ((I 241 6)), .ref (241)] (z_w w I) (.inl (some (.int r.1))) (z_w w r.2) := by
    have hB : z_all [z_is 357 39 (zf_cv 39 206 3 8 42), z_is 357 42 (zf_if1 .ne 42 47 45)] = true := by decide +kernel
    obtain ⟨q6, e7, h⟩ := z_bind h
    refine y_cv ok hB (as := [.int ((I 241 6)), .int (q1), .int (q3)]) (a := 241) (rest := []) rfl rfl rfl (by decide +kernel) (t_M_may (I := I) ok e7) (fun hB => ?_)
    refine z_if_ne hB (fun hc _ => ?_) (fun hc _ => ?_)
    · have h := z_neg hc h
      have hB : z_all [z_is 357 47 (zf_aload 47 0 48), z_is 357 48 (zf_cv 48 351 0 8 51), z_is 357 51 (zf_aload 51 0 52), z_is 357 52 (zf_iload 52 1 53), z_is 357 53 (zf_cst 53 (jn 0) 54), z_is 357 54 (zf_cst 54 (jg 1) 55), z_is 357 55 (zf_cv 55 247 3 8 58), z_is 357 58 (zf_aload 58 0 59), z_is 357 59 (zf_iload 59 1 60), z_is 357 60 (zf_cst 60 (jn 4) 61), z_is 357 61 (zf_cv 61 242 2 8 64), z_is 357 64 (zf_ret 0)] = true := by decide +kernel
      refine z_aload hB rfl (fun hB => ?_)
      obtain ⟨q8, e9, h⟩ := z_bind h
      refine y_cv ok hB (as := []) (a := 241) (rest := []) rfl rfl rfl (by decide +kernel) (t_M_remembers (I := q6.2) ok e9) (fun hB => ?_)
      refine z_aload hB rfl (fun hB => ?_)
      refine z_iload hB rfl (fun hB => ?_)
      refine z_cst hB (fun hB => ?_)
      refine z_cst hB (fun hB => ?_)
      obtain ⟨q10, e11, h⟩ := z_bind h
      refine y_cv ok hB (as := [.int (x1), .int ((jn 0)), .int ((jg 1))]) (a := 241) (rest := []) rfl rfl rfl (by decide +kernel) (t_M_goesTo (I := q8) ok e11) (fun hB => ?_)
      refine z_aload hB rfl (fun hB => ?_)
      refine z_iload hB rfl (fun hB => ?_)
      refine z_cst hB (fun hB => ?_)
      obtain ⟨q12, e13, h⟩ := z_bind h
      refine y_cv ok hB (as := [.int (x1), .int ((jn 4))]) (a := 241) (rest := []) rfl rfl rfl (by decide +kernel) (t_M_ofFlag (I := q10) ok e13) (fun hB => ?_)
      cases h
      exact z_reti hB
    · have h := z_pos hc h
      have hB : z_all [z_is 357 45 (zf_cst 45 (jn 0) 46), z_is 357 46 (zf_ret 0)] = true := by decide +kernel
      refine z_cst hB (fun hB => ?_)
      cases h
      exact z_reti hB
  have h := e4
  refine z_if_eq hB (fun hc _ => ?_) (fun hc _ => ?_)
  · have h := z_pos hc h
    have hB : z_all [z_is 357 38 (zf_cst 38 (jn 0) 39)] = true := by decide +kernel
    refine z_cst hB (fun hB => ?_)
    cases h
    exact z_weak k5 (z_se (z_se (z_sn z_s0)))
  · have h := z_neg hc h
    have hB : z_all [z_is 357 16 (zf_aload 16 0 17), z_is 357 17 (zf_iload 17 1 18), z_is 357 18 (zf_cv 18 244 1 8 21), z_is 357 21 (zf_cst 21 (jn 1) 22), z_is 357 22 (zf_if2 .eq 22 34 25)] = true := by decide +kernel
    refine z_aload hB rfl (fun hB => ?_)
    refine z_iload hB rfl (fun hB => ?_)
    obtain ⟨q14, e15, h⟩ := z_bind h
    refine y_cv ok hB (as := [.int (x1)]) (a := 241) (rest := [.int (q1), .int ((I 241 6)), .ref (241)]) rfl rfl rfl (by decide +kernel) (t_M_where (I := I) ok e15) (fun hB => ?_)
    refine z_cst hB (fun hB => ?_)
    refine z_ic_eq hB (fun hc _ => ?_) (fun hc _ => ?_)
    · have h := z_pos hc h
      have hB : z_all [z_is 357 34 (zf_cst 34 (jn 1) 35), z_is 357 35 (zf_goto 35 39)] = true := by decide +kernel
      refine z_cst hB (fun hB => ?_)
      refine z_goto hB (fun hB => ?_)
      cases h
      exact z_weak k5 (z_se (z_se (z_sn z_s0)))
    · have h := z_neg hc h
      have hB : z_all [z_is 357 25 (zf_aload 25 0 26), z_is 357 26 (zf_iload 26 1 27), z_is 357 27 (zf_cv 27 244 1 8 30), z_is 357 30 (zf_cst 30 (jn 2) 31), z_is 357 31 (zf_if2 .ne 31 38 34)] = true := by decide +kernel
      refine z_aload hB rfl (fun hB => ?_)
      refine z_iload hB rfl (fun hB => ?_)
      obtain ⟨q16, e17, h⟩ := z_bind h
      refine y_cv ok hB (as := [.int (x1)]) (a := 241) (rest := [.int (q1), .int ((I 241 6)), .ref (241)]) rfl rfl rfl (by decide +kernel) (t_M_where (I := I) ok e17) (fun hB => ?_)
      refine z_cst hB (fun hB => ?_)
      refine z_ic_ne hB (fun hc _ => ?_) (fun hc _ => ?_)
      · have h := z_neg hc h
        have hB : z_all [z_is 357 38 (zf_cst 38 (jn 0) 39)] = true := by decide +kernel
        refine z_cst hB (fun hB => ?_)
        cases h
        exact z_weak k5 (z_se (z_se (z_sn z_s0)))
      · have h := z_pos hc h
        have hB : z_all [z_is 357 34 (zf_cst 34 (jn 1) 35), z_is 357 35 (zf_goto 35 39)] = true := by decide +kernel
        refine z_cst hB (fun hB => ?_)
        refine z_goto hB (fun hB => ?_)
        cases h
        exact z_weak k5 (z_se (z_se (z_sn z_s0)))
def d_M_iron (x1 : Int32) (x2 : Int32) (I : z_H) : Option (Int32 × z_H) := ((d_M_isFlag (x1) I).bind fun q1 => (Option.bind (α := Int32) (if q1 = jn 0 then some ((jn 0)) else ((d_M_isHeat (x2)).bind fun q14 => (if q14 = jn 0 then some ((jn 0)) else ((d_M_whyIron (x1) (x2) I).bind fun q16 => (if q16 = jn 0 then some ((jn 1)) else some ((jn 0))))))) fun q3 => ((d_M_may ((I 241 6)) (q1) (q3) I).bind fun q6 => (if q6.1 = jn 0 then some (((jn 0), q6.2)) else ((d_M_remembers q6.2).bind fun q8 => ((d_M_irons (x1) (x2) q8).bind fun q10 => ((d_M_ofFlag (x1) ((jn 5)) q10).bind fun q12 => some ((q12, q10)))))))))
/-- FlagLaundryModel.iron(II)I -/
theorem t_M_iron {G : z_G} {w : ev_W} (ok : z_Ok G w) {x1 : Int32} {x2 : Int32} {I : z_H} {r : Int32 × z_H} (h : d_M_iron x1 x2 I = some r) : z_K G 358 [.ref (241), .int (x1), .int (x2)] (z_w w I) (.inl (some (.int r.1))) (z_w w r.2) := by
  refine z_con ok.1 (ml := 4) (by decide +kernel) rfl rfl ?_
  show z_R G 358 0 [some (.ref (241)), some (.int (x1)), some (.int (x2)), none] [] (z_w w I) (.inl (some (.int r.1))) (z_w w r.2)
  unfold d_M_iron at h
  have hB : z_all [z_is 358 0 (zf_aload 0 0 1), z_is 358 1 (zf_iload 1 1 2), z_is 358 2 (zf_cv 2 285 1 8 5), z_is 358 5 (zf_istore 5 3 6), z_is 358 6 (zf_aload 6 0 7), z_is 358 7 (zf_aload 7 0 8), z_is 358 8 (zf_geti 8 8 6 11), z_is 358 11 (zf_iload 11 3 12), z_is 358 12 (zf_iload 12 3 13), z_is 358 13 (zf_if1 .eq 13 36 16)] = true := by decide +kernel
  refine z_aload hB rfl (fun hB => ?_)
  refine z_iload hB rfl (fun hB => ?_)
  obtain ⟨q1, e2, h⟩ := z_bind h
  refine y_cv ok hB (as := [.int (x1)]) (a := 241) (rest := []) rfl rfl rfl (by decide +kernel) (t_M_isFlag (I := I) ok e2) (fun hB => ?_)
  refine z_istore hB rfl rfl (fun hB => ?_)
  refine z_aload hB rfl (fun hB => ?_)
  refine z_aload hB rfl (fun hB => ?_)
  refine y_geti ok hB (by decide +kernel) (fun hB => ?_)
  refine z_iload hB rfl (fun hB => ?_)
  refine z_iload hB rfl (fun hB => ?_)
  obtain ⟨q3, e4, h⟩ := z_bind h
  have k5 : z_R G 358 37 [some (.ref (241)), some (.int (x1)), some (.int (x2)), none] [.int (q3), .int (q1), .int ((I 241 6)), .ref (241)] (z_w w I) (.inl (some (.int r.1))) (z_w w r.2) := by
    have hB : z_all [z_is 358 37 (zf_cv 37 206 3 8 40), z_is 358 40 (zf_if1 .ne 40 45 43)] = true := by decide +kernel
    obtain ⟨q6, e7, h⟩ := z_bind h
    refine y_cv ok hB (as := [.int ((I 241 6)), .int (q1), .int (q3)]) (a := 241) (rest := []) rfl rfl rfl (by decide +kernel) (t_M_may (I := I) ok e7) (fun hB => ?_)
    refine z_if_ne hB (fun hc _ => ?_) (fun hc _ => ?_)
    · have h := z_neg hc h
      have hB : z_all [z_is 358 45 (zf_aload 45 0 46), z_is 358 46 (zf_cv 46 351 0 8 49), z_is 358 49 (zf_aload 49 0 50), z_is 358 50 (zf_iload 50 1 51), z_is 358 51 (zf_iload 51 2 52), z_is 358 52 (zf_cv 52 274 2 8 55), z_is 358 55 (zf_aload 55 0 56), z_is 358 56 (zf_iload 56 1 57), z_is 358 57 (zf_cst 57 (jn 5) 58), z_is 358 58 (zf_cv 58 242 2 8 61), z_is 358 61 (zf_ret 0)] = true := by decide +kernel
      refine z_aload hB rfl (fun hB => ?_)
      obtain ⟨q8, e9, h⟩ := z_bind h
      refine y_cv ok hB (as := []) (a := 241) (rest := []) rfl rfl rfl (by decide +kernel) (t_M_remembers (I := q6.2) ok e9) (fun hB => ?_)
      refine z_aload hB rfl (fun hB => ?_)
      refine z_iload hB rfl (fun hB => ?_)
      refine z_iload hB rfl (fun hB => ?_)
      obtain ⟨q10, e11, h⟩ := z_bind h
      refine y_cv ok hB (as := [.int (x1), .int (x2)]) (a := 241) (rest := []) rfl rfl rfl (by decide +kernel) (t_M_irons (I := q8) ok e11) (fun hB => ?_)
      refine z_aload hB rfl (fun hB => ?_)
      refine z_iload hB rfl (fun hB => ?_)
      refine z_cst hB (fun hB => ?_)
      obtain ⟨q12, e13, h⟩ := z_bind h
      refine y_cv ok hB (as := [.int (x1), .int ((jn 5))]) (a := 241) (rest := []) rfl rfl rfl (by decide +kernel) (t_M_ofFlag (I := q10) ok e13) (fun hB => ?_)
      cases h
      exact z_reti hB
    · have h := z_pos hc h
      have hB : z_all [z_is 358 43 (zf_cst 43 (jn 0) 44), z_is 358 44 (zf_ret 0)] = true := by decide +kernel
      refine z_cst hB (fun hB => ?_)
      cases h
      exact z_reti hB
  have h := e4
  refine z_if_eq hB (fun hc _ => ?_) (fun hc _ => ?_)
  · have h := z_pos hc h
    have hB : z_all [z_is 358 36 (zf_cst 36 (jn 0) 37)] = true := by decide +kernel
    refine z_cst hB (fun hB => ?_)
    cases h
    exact z_weak k5 (z_se (z_se (z_se (z_sn z_s0))))
  · have h := z_neg hc h
    have hB : z_all [z_is 358 16 (zf_iload 16 2 17), z_is 358 17 (zf_cs 17 287 1 20), z_is 358 20 (zf_if1 .eq 20 36 23)] = true := by decide +kernel
    refine z_iload hB rfl (fun hB => ?_)
    obtain ⟨q14, e15, h⟩ := z_bind h
    refine z_callS hB (as := [.int (x2)]) (rest := [.int (q1), .int ((I 241 6)), .ref (241)]) rfl rfl rfl (t_M_isHeat (I := I) ok e15) (fun hB => ?_)
    refine z_if_eq hB (fun hc _ => ?_) (fun hc _ => ?_)
    · have h := z_pos hc h
      have hB : z_all [z_is 358 36 (zf_cst 36 (jn 0) 37)] = true := by decide +kernel
      refine z_cst hB (fun hB => ?_)
      cases h
      exact z_weak k5 (z_se (z_se (z_se (z_sn z_s0))))
    · have h := z_neg hc h
      have hB : z_all [z_is 358 23 (zf_aload 23 0 24), z_is 358 24 (zf_iload 24 1 25), z_is 358 25 (zf_iload 25 2 26), z_is 358 26 (zf_cv 26 273 2 8 29), z_is 358 29 (zf_if1 .ne 29 36 32)] = true := by decide +kernel
      refine z_aload hB rfl (fun hB => ?_)
      refine z_iload hB rfl (fun hB => ?_)
      refine z_iload hB rfl (fun hB => ?_)
      obtain ⟨q16, e17, h⟩ := z_bind h
      refine y_cv ok hB (as := [.int (x1), .int (x2)]) (a := 241) (rest := [.int (q1), .int ((I 241 6)), .ref (241)]) rfl rfl rfl (by decide +kernel) (t_M_whyIron (I := I) ok e17) (fun hB => ?_)
      refine z_if_ne hB (fun hc _ => ?_) (fun hc _ => ?_)
      · have h := z_neg hc h
        have hB : z_all [z_is 358 36 (zf_cst 36 (jn 0) 37)] = true := by decide +kernel
        refine z_cst hB (fun hB => ?_)
        cases h
        exact z_weak k5 (z_se (z_se (z_se (z_sn z_s0))))
      · have h := z_pos hc h
        have hB : z_all [z_is 358 32 (zf_cst 32 (jn 1) 33), z_is 358 33 (zf_goto 33 37)] = true := by decide +kernel
        refine z_cst hB (fun hB => ?_)
        refine z_goto hB (fun hB => ?_)
        cases h
        exact z_weak k5 (z_se (z_se (z_se (z_sn z_s0))))
def d_M_stainsOf_2 (x1 : Int32) (I : z_H) (p1 : Int32 × Int32) : Option ((Int32 × Int32) ⊕ (Int32 × Int32)) := (if z_in ((jn 6)) 173 then (if p1.2 < (I 242 (z_n ((jn 6)))) then ((d_M_ofFlag (x1) ((jn 6)) I).bind fun q7 => ((d_M_has (q7) (p1.2)).bind fun q9 => ((d_M_one (q9)).bind fun q11 => some (Sum.inl ((p1.1 + q11), (p1.2 + (jn 1))))))) else some (Sum.inr (p1.1, p1.2))) else none)
def d_M_stainsOf (x1 : Int32) (I : z_H) : Option (Int32) := ((z_it (d_M_stainsOf_2 x1 I) z_F ((jn 0), (jn 0))).bind fun q3 => some (q3.1))
/-- FlagLaundryModel.stainsOf(I)I -/
theorem t_M_stainsOf {G : z_G} {w : ev_W} (ok : z_Ok G w) {x1 : Int32} {I : z_H} {r : Int32} (h : d_M_stainsOf x1 I = some r) : z_K G 359 [.ref (241), .int (x1)] (z_w w I) (.inl (some (.int r))) (z_w w I) := by
  refine z_con ok.1 (ml := 4) (by decide +kernel) rfl rfl ?_
  show z_R G 359 0 [some (.ref (241)), some (.int (x1)), none, none] [] (z_w w I) (.inl (some (.int r))) (z_w w I)
  unfold d_M_stainsOf at h
  have hB : z_all [z_is 359 0 (zf_cst 0 (jn 0) 1), z_is 359 1 (zf_istore 1 2 2), z_is 359 2 (zf_cst 2 (jn 0) 3), z_is 359 3 (zf_istore 3 3 4)] = true := by decide +kernel
  refine z_cst hB (fun hB => ?_)
  refine z_istore hB rfl rfl (fun hB => ?_)
  refine z_cst hB (fun hB => ?_)
  refine z_istore hB rfl rfl (fun hB => ?_)
  obtain ⟨q3, e4, h⟩ := z_bind h
  have k5 : z_R G 359 38 [none, none, some (.int (q3.1)), none] [] (z_w w I) (.inl (some (.int r))) (z_w w I) := by
    have hB : z_all [z_is 359 38 (zf_iload 38 2 39), z_is 359 39 (zf_ret 0)] = true := by decide +kernel
    refine z_iload hB rfl (fun hB => ?_)
    cases h
    exact z_reti hB
  have l2 : ∀ (m2 : Nat) (p1 : Int32 × Int32), z_it (d_M_stainsOf_2 x1 I) m2 p1 = some q3 → z_R G 359 4 [some (.ref (241)), some (.int (x1)), some (.int (p1.1)), some (.int (p1.2))] [] (z_w w I) (.inl (some (.int r))) (z_w w I) := by
    intro m2
    induction m2 with
    | zero => intro p1 h; cases h
    | succ m2 i2 =>
      intro p1 h
      obtain ⟨u2, h, b2⟩ := z_it_o h
      unfold d_M_stainsOf_2 at h
      have hB : z_all [z_is 359 4 (zf_iload 4 3 5), z_is 359 5 (zf_aload 5 0 6), z_is 359 6 (zf_getr 6 8 1 9), z_is 359 9 (zf_cst 9 (jn 6) 11), z_is 359 11 (zf_iald 11 12), z_is 359 12 (zf_if2 .ge 12 38 15)] = true := by decide +kernel
      refine z_iload hB rfl (fun hB => ?_)
      refine z_aload hB rfl (fun hB => ?_)
      refine y_getr (b := 242) ok hB (by decide +kernel) (by decide +kernel) (fun hB => ?_)
      refine z_cst hB (fun hB => ?_)
      obtain ⟨g6, h⟩ := z_gd h
      refine y_iald ok hB (by decide +kernel) (by decide +kernel) g6 (fun hB => ?_)
      refine z_ic_ge hB (fun hc _ => ?_) (fun hc _ => ?_)
      · have h := z_neg hc h
        cases h
        cases b2
        exact z_weak k5 (z_sn (z_sn (z_se (z_sn z_s0))))
      · have h := z_pos hc h
        have hB : z_all [z_is 359 15 (zf_iload 15 2 16), z_is 359 16 (zf_aload 16 0 17), z_is 359 17 (zf_iload 17 1 18), z_is 359 18 (zf_cst 18 (jn 6) 20), z_is 359 20 (zf_cv 20 242 2 8 23), z_is 359 23 (zf_iload 23 3 24), z_is 359 24 (zf_cs 24 205 2 27), z_is 359 27 (zf_cs 27 204 1 30), z_is 359 30 (zf_iadd 30 31), z_is 359 31 (zf_istore 31 2 32), z_is 359 32 (zf_iinc 32 3 (jn 1) 35), z_is 359 35 (zf_goto 35 4)] = true := by decide +kernel
        refine z_iload hB rfl (fun hB => ?_)
        refine z_aload hB rfl (fun hB => ?_)
        refine z_iload hB rfl (fun hB => ?_)
        refine z_cst hB (fun hB => ?_)
        obtain ⟨q7, e8, h⟩ := z_bind h
        refine y_cv ok hB (as := [.int (x1), .int ((jn 6))]) (a := 241) (rest := [.int (p1.1)]) rfl rfl rfl (by decide +kernel) (t_M_ofFlag (I := I) ok e8) (fun hB => ?_)
        refine z_iload hB rfl (fun hB => ?_)
        obtain ⟨q9, e10, h⟩ := z_bind h
        refine z_callS hB (as := [.int (q7), .int (p1.2)]) (rest := [.int (p1.1)]) rfl rfl rfl (t_M_has (I := I) ok e10) (fun hB => ?_)
        obtain ⟨q11, e12, h⟩ := z_bind h
        refine z_callS hB (as := [.int (q9)]) (rest := [.int (p1.1)]) rfl rfl rfl (t_M_one (I := I) ok e12) (fun hB => ?_)
        refine z_iadd hB (fun hB => ?_)
        refine z_istore hB rfl rfl (fun hB => ?_)
        refine z_iinc hB rfl rfl (fun hB => ?_)
        refine z_goto hB (fun hB => ?_)
        cases h
        exact z_weak (i2 ((p1.1 + q11), (p1.2 + (jn 1))) b2) (z_se (z_se (z_se (z_se z_s0))))
  exact z_weak (l2 _ ((jn 0), (jn 0)) e4) (z_se (z_se (z_se (z_se z_s0))))
def d_M_bleach (x1 : Int32) (I : z_H) : Option (Int32 × z_H) := ((d_M_isFlag (x1) I).bind fun q1 => (Option.bind (α := Int32) (if q1 = jn 0 then some ((jn 0)) else ((d_M_whyBleach (x1) I).bind fun q18 => (if q18 = jn 0 then some ((jn 1)) else some ((jn 0))))) fun q3 => ((d_M_may ((I 241 6)) (q1) (q3) I).bind fun q6 => (if q6.1 = jn 0 then some (((jn 0), q6.2)) else ((d_M_remembers q6.2).bind fun q8 => ((d_M_stainsOf (x1) q8).bind fun q10 => ((d_M_putsFlag (x1) ((jn 6)) ((jn 0)) q8).bind fun q12 => ((d_M_ofFlag (x1) ((jn 7)) q12).bind fun q14 => ((d_M_putsFlag (x1) ((jn 7)) ((q14 + (jn 1))) q12).bind fun q16 => some ((q10, q16)))))))))))
/-- FlagLaundryModel.bleach(I)I -/
theorem t_M_bleach {G : z_G} {w : ev_W} (ok : z_Ok G w) {x1 : Int32} {I : z_H} {r : Int32 × z_H} (h : d_M_bleach x1 I = some r) : z_K G 360 [.ref (241), .int (x1)] (z_w w I) (.inl (some (.int r.1))) (z_w w r.2) := by
  refine z_con ok.1 (ml := 4) (by decide +kernel) rfl rfl ?_
  show z_R G 360 0 [some (.ref (241)), some (.int (x1)), none, none] [] (z_w w I) (.inl (some (.int r.1))) (z_w w r.2)
  unfold d_M_bleach at h
  have hB : z_all [z_is 360 0 (zf_aload 0 0 1), z_is 360 1 (zf_iload 1 1 2), z_is 360 2 (zf_cv 2 285 1 8 5), z_is 360 5 (zf_istore 5 2 6), z_is 360 6 (zf_aload 6 0 7), z_is 360 7 (zf_aload 7 0 8), z_is 360 8 (zf_geti 8 8 6 11), z_is 360 11 (zf_iload 11 2 12), z_is 360 12 (zf_iload 12 2 13), z_is 360 13 (zf_if1 .eq 13 28 16)] = true := by decide +kernel
  refine z_aload hB rfl (fun hB => ?_)
  refine z_iload hB rfl (fun hB => ?_)
  obtain ⟨q1, e2, h⟩ := z_bind h
  refine y_cv ok hB (as := [.int (x1)]) (a := 241) (rest := []) rfl rfl rfl (by decide +kernel) (t_M_isFlag (I := I) ok e2) (fun hB => ?_)
  refine z_istore hB rfl rfl (fun hB => ?_)
  refine z_aload hB rfl (fun hB => ?_)
  refine z_aload hB rfl (fun hB => ?_)
  refine y_geti ok hB (by decide +kernel) (fun hB => ?_)
  refine z_iload hB rfl (fun hB => ?_)
  refine z_iload hB rfl (fun hB => ?_)
  obtain ⟨q3, e4, h⟩ := z_bind h
  have k5 : z_R G 360 29 [some (.ref (241)), some (.int (x1)), none, none] [.int (q3), .int (q1), .int ((I 241 6)), .ref (241)] (z_w w I) (.inl (some (.int r.1))) (z_w w r.2) := by
    have hB : z_all [z_is 360 29 (zf_cv 29 206 3 8 32), z_is 360 32 (zf_if1 .ne 32 37 35)] = true := by decide +kernel
    obtain ⟨q6, e7, h⟩ := z_bind h
    refine y_cv ok hB (as := [.int ((I 241 6)), .int (q1), .int (q3)]) (a := 241) (rest := []) rfl rfl rfl (by decide +kernel) (t_M_may (I := I) ok e7) (fun hB => ?_)
    refine z_if_ne hB (fun hc _ => ?_) (fun hc _ => ?_)
    · have h := z_neg hc h
      have hB : z_all [z_is 360 37 (zf_aload 37 0 38), z_is 360 38 (zf_cv 38 351 0 8 41), z_is 360 41 (zf_aload 41 0 42), z_is 360 42 (zf_iload 42 1 43), z_is 360 43 (zf_cv 43 359 1 8 46), z_is 360 46 (zf_istore 46 3 47), z_is 360 47 (zf_aload 47 0 48), z_is 360 48 (zf_iload 48 1 49), z_is 360 49 (zf_cst 49 (jn 6) 51), z_is 360 51 (zf_cst 51 (jn 0) 52), z_is 360 52 (zf_cv 52 243 3 8 55), z_is 360 55 (zf_aload 55 0 56), z_is 360 56 (zf_iload 56 1 57), z_is 360 57 (zf_cst 57 (jn 7) 59), z_is 360 59 (zf_aload 59 0 60), z_is 360 60 (zf_iload 60 1 61), z_is 360 61 (zf_cst 61 (jn 7) 63), z_is 360 63 (zf_cv 63 242 2 8 66), z_is 360 66 (zf_cst 66 (jn 1) 67), z_is 360 67 (zf_iadd 67 68), z_is 360 68 (zf_cv 68 243 3 8 71), z_is 360 71 (zf_iload 71 3 72), z_is 360 72 (zf_ret 0)] = true := by decide +kernel
      refine z_aload hB rfl (fun hB => ?_)
      obtain ⟨q8, e9, h⟩ := z_bind h
      refine y_cv ok hB (as := []) (a := 241) (rest := []) rfl rfl rfl (by decide +kernel) (t_M_remembers (I := q6.2) ok e9) (fun hB => ?_)
      refine z_aload hB rfl (fun hB => ?_)
      refine z_iload hB rfl (fun hB => ?_)
      obtain ⟨q10, e11, h⟩ := z_bind h
      refine y_cv ok hB (as := [.int (x1)]) (a := 241) (rest := []) rfl rfl rfl (by decide +kernel) (t_M_stainsOf (I := q8) ok e11) (fun hB => ?_)
      refine z_istore hB rfl rfl (fun hB => ?_)
      refine z_aload hB rfl (fun hB => ?_)
      refine z_iload hB rfl (fun hB => ?_)
      refine z_cst hB (fun hB => ?_)
      refine z_cst hB (fun hB => ?_)
      obtain ⟨q12, e13, h⟩ := z_bind h
      refine y_cv ok hB (as := [.int (x1), .int ((jn 6)), .int ((jn 0))]) (a := 241) (rest := []) rfl rfl rfl (by decide +kernel) (t_M_putsFlag (I := q8) ok e13) (fun hB => ?_)
      refine z_aload hB rfl (fun hB => ?_)
      refine z_iload hB rfl (fun hB => ?_)
      refine z_cst hB (fun hB => ?_)
      refine z_aload hB rfl (fun hB => ?_)
      refine z_iload hB rfl (fun hB => ?_)
      refine z_cst hB (fun hB => ?_)
      obtain ⟨q14, e15, h⟩ := z_bind h
      refine y_cv ok hB (as := [.int (x1), .int ((jn 7))]) (a := 241) (rest := [.int ((jn 7)), .int (x1), .ref (241)]) rfl rfl rfl (by decide +kernel) (t_M_ofFlag (I := q12) ok e15) (fun hB => ?_)
      refine z_cst hB (fun hB => ?_)
      refine z_iadd hB (fun hB => ?_)
      obtain ⟨q16, e17, h⟩ := z_bind h
      refine y_cv ok hB (as := [.int (x1), .int ((jn 7)), .int ((q14 + (jn 1)))]) (a := 241) (rest := []) rfl rfl rfl (by decide +kernel) (t_M_putsFlag (I := q12) ok e17) (fun hB => ?_)
      refine z_iload hB rfl (fun hB => ?_)
      cases h
      exact z_reti hB
    · have h := z_pos hc h
      have hB : z_all [z_is 360 35 (zf_cst 35 (jn 0) 36), z_is 360 36 (zf_ret 0)] = true := by decide +kernel
      refine z_cst hB (fun hB => ?_)
      cases h
      exact z_reti hB
  have h := e4
  refine z_if_eq hB (fun hc _ => ?_) (fun hc _ => ?_)
  · have h := z_pos hc h
    have hB : z_all [z_is 360 28 (zf_cst 28 (jn 0) 29)] = true := by decide +kernel
    refine z_cst hB (fun hB => ?_)
    cases h
    exact z_weak k5 (z_se (z_se (z_sn (z_sn z_s0))))
  · have h := z_neg hc h
    have hB : z_all [z_is 360 16 (zf_aload 16 0 17), z_is 360 17 (zf_iload 17 1 18), z_is 360 18 (zf_cv 18 311 1 8 21), z_is 360 21 (zf_if1 .ne 21 28 24)] = true := by decide +kernel
    refine z_aload hB rfl (fun hB => ?_)
    refine z_iload hB rfl (fun hB => ?_)
    obtain ⟨q18, e19, h⟩ := z_bind h
    refine y_cv ok hB (as := [.int (x1)]) (a := 241) (rest := [.int (q1), .int ((I 241 6)), .ref (241)]) rfl rfl rfl (by decide +kernel) (t_M_whyBleach (I := I) ok e19) (fun hB => ?_)
    refine z_if_ne hB (fun hc _ => ?_) (fun hc _ => ?_)
    · have h := z_neg hc h
      have hB : z_all [z_is 360 28 (zf_cst 28 (jn 0) 29)] = true := by decide +kernel
      refine z_cst hB (fun hB => ?_)
      cases h
      exact z_weak k5 (z_se (z_se (z_sn (z_sn z_s0))))
    · have h := z_pos hc h
      have hB : z_all [z_is 360 24 (zf_cst 24 (jn 1) 25), z_is 360 25 (zf_goto 25 29)] = true := by decide +kernel
      refine z_cst hB (fun hB => ?_)
      refine z_goto hB (fun hB => ?_)
      cases h
      exact z_weak k5 (z_se (z_se (z_sn (z_sn z_s0))))
def d_M_leaves_2 (x1 : Int32) (p1 : Int32 × z_H) : Option ((Int32 × z_H) ⊕ (Int32 × z_H)) := (if z_in ((jn 10)) 173 then (if p1.1 < (p1.2 242 (z_n ((jn 10)))) then ((d_M_ofFlag (p1.1) ((jn 0)) p1.2).bind fun q7 => (Option.bind (α := z_H) (if q7 = x1 then ((d_M_goesTo (p1.1) ((jn 3)) ((jg 1)) p1.2).bind fun q12 => some (q12)) else some (p1.2)) fun q9 => some (Sum.inl ((p1.1 + (jn 1)), q9)))) else some (Sum.inr (p1.1, p1.2))) else none)
def d_M_leaves (x1 : Int32) (I : z_H) : Option (z_H) := ((z_it (d_M_leaves_2 x1) z_F ((jn 0), I)).bind fun q3 => some (q3.2))
/-- FlagLaundryModel.leaves(I)V -/
theorem t_M_leaves {G : z_G} {w : ev_W} (ok : z_Ok G w) {x1 : Int32} {I : z_H} {r : z_H} (h : d_M_leaves x1 I = some r) : z_K G 361 [.ref (241), .int (x1)] (z_w w I) (.inl none) (z_w w r) := by
  refine z_con ok.1 (ml := 3) (by decide +kernel) rfl rfl ?_
  show z_R G 361 0 [some (.ref (241)), some (.int (x1)), none] [] (z_w w I) (.inl none) (z_w w r)
  unfold d_M_leaves at h
  have hB : z_all [z_is 361 0 (zf_cst 0 (jn 0) 1), z_is 361 1 (zf_istore 1 2 2)] = true := by decide +kernel
  refine z_cst hB (fun hB => ?_)
  refine z_istore hB rfl rfl (fun hB => ?_)
  obtain ⟨q3, e4, h⟩ := z_bind h
  have k5 : z_R G 361 36 [none, none, none] [] (z_w w q3.2) (.inl none) (z_w w r) := by
    have hB : z_all [z_is 361 36 (zf_ret 6)] = true := by decide +kernel
    cases h
    exact z_retv hB
  have l2 : ∀ (m2 : Nat) (p1 : Int32 × z_H), z_it (d_M_leaves_2 x1) m2 p1 = some q3 → z_R G 361 2 [some (.ref (241)), some (.int (x1)), some (.int (p1.1))] [] (z_w w p1.2) (.inl none) (z_w w r) := by
    intro m2
    induction m2 with
    | zero => intro p1 h; cases h
    | succ m2 i2 =>
      intro p1 h
      obtain ⟨u2, h, b2⟩ := z_it_o h
      unfold d_M_leaves_2 at h
      have hB : z_all [z_is 361 2 (zf_iload 2 2 3), z_is 361 3 (zf_aload 3 0 4), z_is 361 4 (zf_getr 4 8 1 7), z_is 361 7 (zf_cst 7 (jn 10) 9), z_is 361 9 (zf_iald 9 10), z_is 361 10 (zf_if2 .ge 10 36 13)] = true := by decide +kernel
      refine z_iload hB rfl (fun hB => ?_)
      refine z_aload hB rfl (fun hB => ?_)
      refine y_getr (b := 242) ok hB (by decide +kernel) (by decide +kernel) (fun hB => ?_)
      refine z_cst hB (fun hB => ?_)
      obtain ⟨g6, h⟩ := z_gd h
      refine y_iald ok hB (by decide +kernel) (by decide +kernel) g6 (fun hB => ?_)
      refine z_ic_ge hB (fun hc _ => ?_) (fun hc _ => ?_)
      · have h := z_neg hc h
        cases h
        cases b2
        exact z_weak k5 (z_sn (z_sn (z_sn z_s0)))
      · have h := z_pos hc h
        have hB : z_all [z_is 361 13 (zf_aload 13 0 14), z_is 361 14 (zf_iload 14 2 15), z_is 361 15 (zf_cst 15 (jn 0) 16), z_is 361 16 (zf_cv 16 242 2 8 19), z_is 361 19 (zf_iload 19 1 20), z_is 361 20 (zf_if2 .ne 20 30 23)] = true := by decide +kernel
        refine z_aload hB rfl (fun hB => ?_)
        refine z_iload hB rfl (fun hB => ?_)
        refine z_cst hB (fun hB => ?_)
        obtain ⟨q7, e8, h⟩ := z_bind h
        refine y_cv ok hB (as := [.int (p1.1), .int ((jn 0))]) (a := 241) (rest := []) rfl rfl rfl (by decide +kernel) (t_M_ofFlag (I := p1.2) ok e8) (fun hB => ?_)
        refine z_iload hB rfl (fun hB => ?_)
        obtain ⟨q9, e10, h⟩ := z_bind h
        have k11 : z_R G 361 30 [some (.ref (241)), some (.int (x1)), some (.int (p1.1))] [] (z_w w q9) (.inl none) (z_w w r) := by
          have hB : z_all [z_is 361 30 (zf_iinc 30 2 (jn 1) 33), z_is 361 33 (zf_goto 33 2)] = true := by decide +kernel
          refine z_iinc hB rfl rfl (fun hB => ?_)
          refine z_goto hB (fun hB => ?_)
          cases h
          exact z_weak (i2 ((p1.1 + (jn 1)), q9) b2) (z_se (z_se (z_se z_s0)))
        have h := e10
        refine z_ic_ne hB (fun hc _ => ?_) (fun hc _ => ?_)
        · have h := z_neg hc h
          cases h
          exact z_weak k11 (z_se (z_se (z_se z_s0)))
        · have h := z_pos hc h
          have hB : z_all [z_is 361 23 (zf_aload 23 0 24), z_is 361 24 (zf_iload 24 2 25), z_is 361 25 (zf_cst 25 (jn 3) 26), z_is 361 26 (zf_cst 26 (jg 1) 27), z_is 361 27 (zf_cv 27 247 3 8 30)] = true := by decide +kernel
          refine z_aload hB rfl (fun hB => ?_)
          refine z_iload hB rfl (fun hB => ?_)
          refine z_cst hB (fun hB => ?_)
          refine z_cst hB (fun hB => ?_)
          obtain ⟨q12, e13, h⟩ := z_bind h
          refine y_cv ok hB (as := [.int (p1.1), .int ((jn 3)), .int ((jg 1))]) (a := 241) (rest := []) rfl rfl rfl (by decide +kernel) (t_M_goesTo (I := p1.2) ok e13) (fun hB => ?_)
          cases h
          exact z_weak k11 (z_se (z_se (z_se z_s0)))
  exact z_weak (l2 _ ((jn 0), I) e4) (z_se (z_se (z_se z_s0)))
def d_M_handOver (x1 : Int32) (I : z_H) : Option (Int32 × z_H) := ((d_M_isNation (x1) I).bind fun q1 => (Option.bind (α := Int32) (if q1 = jn 0 then some ((jn 0)) else ((d_M_flagsOf (x1) I).bind fun q32 => (if jn 0 < q32 then ((d_M_isHanded (x1) I).bind fun q34 => (if q34 = jn 0 then ((d_M_culpritOf (x1) I).bind fun q36 => (if q36 = (jg 1) then some ((jn 1)) else some ((jn 0)))) else some ((jn 0)))) else some ((jn 0))))) fun q3 => ((d_M_may ((I 241 6)) (q1) (q3) I).bind fun q6 => (if q6.1 = jn 0 then some (((jn 0), q6.2)) else ((d_M_remembers q6.2).bind fun q8 => (if z_in ((jn 0)) 173 then ((d_M_payAt (x1) ((q8 242 (z_n ((jn 0))))) q8).bind fun q11 => (if z_in ((jn 2)) 173 then (if z_in ((jn 2)) 173 then (if z_in ((jn 3)) 173 then ((d_M_flagsOf (x1) (ev_u2 q8 242 (z_n ((jn 2))) ((q8 242 (z_n ((jn 2)))) + q11))).bind fun q16 => ((d_M_ofNation (x1) ((jn 1)) (ev_u2 q8 242 (z_n ((jn 2))) ((q8 242 (z_n ((jn 2)))) + q11))).bind fun q18 => (if z_in ((jn 3)) 173 then (Option.bind (α := z_H) (some (ev_u2 (ev_u2 q8 242 (z_n ((jn 2))) ((q8 242 (z_n ((jn 2)))) + q11)) 242 (z_n ((jn 3))) (((ev_u2 q8 242 (z_n ((jn 2))) ((q8 242 (z_n ((jn 2)))) + q11)) 242 (z_n ((jn 3)))) + ((q16 * q18) - q11)))) fun J21 => ((d_M_putsNation (x1) ((jn 3)) ((jn 1)) J21).bind fun q23 => (if z_in ((jn 0)) 173 then ((d_M_lateAt (x1) ((q23 242 (z_n ((jn 0))))) q23).bind fun q26 => ((d_M_putsNation (x1) ((jn 4)) (q26) q23).bind fun q28 => ((d_M_leaves (x1) q28).bind fun q30 => some ((q11, q30))))) else none))) else none))) else none) else none) else none)) else none))))))
/-- FlagLaundryModel.handOver(I)I -/
theorem t_M_handOver {G : z_G} {w : ev_W} (ok : z_Ok G w) {x1 : Int32} {I : z_H} {r : Int32 × z_H} (h : d_M_handOver x1 I = some r) : z_K G 362 [.ref (241), .int (x1)] (z_w w I) (.inl (some (.int r.1))) (z_w w r.2) := by
  refine z_con ok.1 (ml := 4) (by decide +kernel) rfl rfl ?_
  show z_R G 362 0 [some (.ref (241)), some (.int (x1)), none, none] [] (z_w w I) (.inl (some (.int r.1))) (z_w w r.2)
  unfold d_M_handOver at h
  have hB : z_all [z_is 362 0 (zf_aload 0 0 1), z_is 362 1 (zf_iload 1 1 2), z_is 362 2 (zf_cv 2 284 1 8 5), z_is 362 5 (zf_istore 5 2 6), z_is 362 6 (zf_aload 6 0 7), z_is 362 7 (zf_aload 7 0 8), z_is 362 8 (zf_geti 8 8 6 11), z_is 362 11 (zf_iload 11 2 12), z_is 362 12 (zf_iload 12 2 13), z_is 362 13 (zf_if1 .eq 13 45 16)] = true := by decide +kernel
  refine z_aload hB rfl (fun hB => ?_)
  refine z_iload hB rfl (fun hB => ?_)
  obtain ⟨q1, e2, h⟩ := z_bind h
  refine y_cv ok hB (as := [.int (x1)]) (a := 241) (rest := []) rfl rfl rfl (by decide +kernel) (t_M_isNation (I := I) ok e2) (fun hB => ?_)
  refine z_istore hB rfl rfl (fun hB => ?_)
  refine z_aload hB rfl (fun hB => ?_)
  refine z_aload hB rfl (fun hB => ?_)
  refine y_geti ok hB (by decide +kernel) (fun hB => ?_)
  refine z_iload hB rfl (fun hB => ?_)
  refine z_iload hB rfl (fun hB => ?_)
  obtain ⟨q3, e4, h⟩ := z_bind h
  have k5 : z_R G 362 46 [some (.ref (241)), some (.int (x1)), none, none] [.int (q3), .int (q1), .int ((I 241 6)), .ref (241)] (z_w w I) (.inl (some (.int r.1))) (z_w w r.2) := by
    have hB : z_all [z_is 362 46 (zf_cv 46 206 3 8 49), z_is 362 49 (zf_if1 .ne 49 54 52)] = true := by decide +kernel
    obtain ⟨q6, e7, h⟩ := z_bind h
    refine y_cv ok hB (as := [.int ((I 241 6)), .int (q1), .int (q3)]) (a := 241) (rest := []) rfl rfl rfl (by decide +kernel) (t_M_may (I := I) ok e7) (fun hB => ?_)
    refine z_if_ne hB (fun hc _ => ?_) (fun hc _ => ?_)
    · have h := z_neg hc h
      have hB : z_all [z_is 362 54 (zf_aload 54 0 55), z_is 362 55 (zf_cv 55 351 0 8 58), z_is 362 58 (zf_aload 58 0 59), z_is 362 59 (zf_iload 59 1 60), z_is 362 60 (zf_aload 60 0 61), z_is 362 61 (zf_getr 61 8 1 64), z_is 362 64 (zf_cst 64 (jn 0) 65), z_is 362 65 (zf_iald 65 66), z_is 362 66 (zf_cv 66 277 2 8 69), z_is 362 69 (zf_istore 69 3 70), z_is 362 70 (zf_aload 70 0 71), z_is 362 71 (zf_getr 71 8 1 74), z_is 362 74 (zf_cst 74 (jn 2) 75), z_is 362 75 (zf_dup2 75 76), z_is 362 76 (zf_iald 76 77), z_is 362 77 (zf_iload 77 3 78), z_is 362 78 (zf_iadd 78 79), z_is 362 79 (zf_iast 79 80), z_is 362 80 (zf_aload 80 0 81), z_is 362 81 (zf_getr 81 8 1 84), z_is 362 84 (zf_cst 84 (jn 3) 85), z_is 362 85 (zf_dup2 85 86), z_is 362 86 (zf_iald 86 87), z_is 362 87 (zf_aload 87 0 88), z_is 362 88 (zf_iload 88 1 89), z_is 362 89 (zf_cv 89 275 1 8 92), z_is 362 92 (zf_aload 92 0 93), z_is 362 93 (zf_iload 93 1 94), z_is 362 94 (zf_cst 94 (jn 1) 95), z_is 362 95 (zf_cv 95 240 2 8 98), z_is 362 98 (zf_imul 98 99), z_is 362 99 (zf_iload 99 3 100), z_is 362 100 (zf_isub 100 101), z_is 362 101 (zf_iadd 101 102), z_is 362 102 (zf_iast 102 103), z_is 362 103 (zf_aload 103 0 104), z_is 362 104 (zf_iload 104 1 105), z_is 362 105 (zf_cst 105 (jn 3) 106), z_is 362 106 (zf_cst 106 (jn 1) 107), z_is 362 107 (zf_cv 107 241 3 8 110), z_is 362 110 (zf_aload 110 0 111), z_is 362 111 (zf_iload 111 1 112), z_is 362 112 (zf_cst 112 (jn 4) 113), z_is 362 113 (zf_aload 113 0 114), z_is 362 114 (zf_iload 114 1 115), z_is 362 115 (zf_aload 115 0 116), z_is 362 116 (zf_getr 116 8 1 119), z_is 362 119 (zf_cst 119 (jn 0) 120), z_is 362 120 (zf_iald 120 121), z_is 362 121 (zf_cv 121 276 2 8 124), z_is 362 124 (zf_cv 124 241 3 8 127), z_is 362 127 (zf_aload 127 0 128), z_is 362 128 (zf_iload 128 1 129), z_is 362 129 (zf_cv 129 361 1 8 132), z_is 362 132 (zf_iload 132 3 133), z_is 362 133 (zf_ret 0)] = true := by decide +kernel
      refine z_aload hB rfl (fun hB => ?_)
      obtain ⟨q8, e9, h⟩ := z_bind h
      refine y_cv ok hB (as := []) (a := 241) (rest := []) rfl rfl rfl (by decide +kernel) (t_M_remembers (I := q6.2) ok e9) (fun hB => ?_)
      refine z_aload hB rfl (fun hB => ?_)
      refine z_iload hB rfl (fun hB => ?_)
      refine z_aload hB rfl (fun hB => ?_)
      refine y_getr (b := 242) ok hB (by decide +kernel) (by decide +kernel) (fun hB => ?_)
      refine z_cst hB (fun hB => ?_)
      obtain ⟨g10, h⟩ := z_gd h
      refine y_iald ok hB (by decide +kernel) (by decide +kernel) g10 (fun hB => ?_)
      obtain ⟨q11, e12, h⟩ := z_bind h
      refine y_cv ok hB (as := [.int (x1), .int ((q8 242 (z_n ((jn 0)))))]) (a := 241) (rest := []) rfl rfl rfl (by decide +kernel) (t_M_payAt (I := q8) ok e12) (fun hB => ?_)
      refine z_istore hB rfl rfl (fun hB => ?_)
      refine z_aload hB rfl (fun hB => ?_)
      refine y_getr (b := 242) ok hB (by decide +kernel) (by decide +kernel) (fun hB => ?_)
      refine z_cst hB (fun hB => ?_)
      refine z_dup2 hB (fun hB => ?_)
      obtain ⟨g13, h⟩ := z_gd h
      refine y_iald ok hB (by decide +kernel) (by decide +kernel) g13 (fun hB => ?_)
      refine z_iload hB rfl (fun hB => ?_)
      refine z_iadd hB (fun hB => ?_)
      obtain ⟨g14, h⟩ := z_gd h
      refine y_iast ok hB (by decide +kernel) (by decide +kernel) g14 (fun hB => ?_)
      refine z_aload hB rfl (fun hB => ?_)
      refine y_getr (b := 242) ok hB (by decide +kernel) (by decide +kernel) (fun hB => ?_)
      refine z_cst hB (fun hB => ?_)
      refine z_dup2 hB (fun hB => ?_)
      obtain ⟨g15, h⟩ := z_gd h
      refine y_iald ok hB (by decide +kernel) (by decide +kernel) g15 (fun hB => ?_)
      refine z_aload hB rfl (fun hB => ?_)
      refine z_iload hB rfl (fun hB => ?_)
      obtain ⟨q16, e17, h⟩ := z_bind h
      refine y_cv ok hB (as := [.int (x1)]) (a := 241) (rest := [.int (((ev_u2 q8 242 (z_n ((jn 2))) ((q8 242 (z_n ((jn 2)))) + q11)) 242 (z_n ((jn 3))))), .int ((jn 3)), .ref (242)]) rfl rfl rfl (by decide +kernel) (t_M_flagsOf (I := (ev_u2 q8 242 (z_n ((jn 2))) ((q8 242 (z_n ((jn 2)))) + q11))) ok e17) (fun hB => ?_)
      refine z_aload hB rfl (fun hB => ?_)
      refine z_iload hB rfl (fun hB => ?_)
      refine z_cst hB (fun hB => ?_)
      obtain ⟨q18, e19, h⟩ := z_bind h
      refine y_cv ok hB (as := [.int (x1), .int ((jn 1))]) (a := 241) (rest := [.int (q16), .int (((ev_u2 q8 242 (z_n ((jn 2))) ((q8 242 (z_n ((jn 2)))) + q11)) 242 (z_n ((jn 3))))), .int ((jn 3)), .ref (242)]) rfl rfl rfl (by decide +kernel) (t_M_ofNation (I := (ev_u2 q8 242 (z_n ((jn 2))) ((q8 242 (z_n ((jn 2)))) + q11))) ok e19) (fun hB => ?_)
      refine z_imul hB (fun hB => ?_)
      refine z_iload hB rfl (fun hB => ?_)
      refine z_isub hB (fun hB => ?_)
      refine z_iadd hB (fun hB => ?_)
      obtain ⟨g20, h⟩ := z_gd h
      refine y_iast ok hB (by decide +kernel) (by decide +kernel) g20 (fun hB => ?_)
      obtain ⟨J21, e22, h⟩ := z_bind h
      rw [z_inj e22]
      refine z_aload hB rfl (fun hB => ?_)
      refine z_iload hB rfl (fun hB => ?_)
      refine z_cst hB (fun hB => ?_)
      refine z_cst hB (fun hB => ?_)
      obtain ⟨q23, e24, h⟩ := z_bind h
      refine y_cv ok hB (as := [.int (x1), .int ((jn 3)), .int ((jn 1))]) (a := 241) (rest := []) rfl rfl rfl (by decide +kernel) (t_M_putsNation (I := J21) ok e24) (fun hB => ?_)
      refine z_aload hB rfl (fun hB => ?_)
      refine z_iload hB rfl (fun hB => ?_)
      refine z_cst hB (fun hB => ?_)
      refine z_aload hB rfl (fun hB => ?_)
      refine z_iload hB rfl (fun hB => ?_)
      refine z_aload hB rfl (fun hB => ?_)
      refine y_getr (b := 242) ok hB (by decide +kernel) (by decide +kernel) (fun hB => ?_)
      refine z_cst hB (fun hB => ?_)
      obtain ⟨g25, h⟩ := z_gd h
      refine y_iald ok hB (by decide +kernel) (by decide +kernel) g25 (fun hB => ?_)
      obtain ⟨q26, e27, h⟩ := z_bind h
      refine y_cv ok hB (as := [.int (x1), .int ((q23 242 (z_n ((jn 0)))))]) (a := 241) (rest := [.int ((jn 4)), .int (x1), .ref (241)]) rfl rfl rfl (by decide +kernel) (t_M_lateAt (I := q23) ok e27) (fun hB => ?_)
      obtain ⟨q28, e29, h⟩ := z_bind h
      refine y_cv ok hB (as := [.int (x1), .int ((jn 4)), .int (q26)]) (a := 241) (rest := []) rfl rfl rfl (by decide +kernel) (t_M_putsNation (I := q23) ok e29) (fun hB => ?_)
      refine z_aload hB rfl (fun hB => ?_)
      refine z_iload hB rfl (fun hB => ?_)
      obtain ⟨q30, e31, h⟩ := z_bind h
      refine y_cv ok hB (as := [.int (x1)]) (a := 241) (rest := []) rfl rfl rfl (by decide +kernel) (t_M_leaves (I := q28) ok e31) (fun hB => ?_)
      refine z_iload hB rfl (fun hB => ?_)
      cases h
      exact z_reti hB
    · have h := z_pos hc h
      have hB : z_all [z_is 362 52 (zf_cst 52 (jn 0) 53), z_is 362 53 (zf_ret 0)] = true := by decide +kernel
      refine z_cst hB (fun hB => ?_)
      cases h
      exact z_reti hB
  have h := e4
  refine z_if_eq hB (fun hc _ => ?_) (fun hc _ => ?_)
  · have h := z_pos hc h
    have hB : z_all [z_is 362 45 (zf_cst 45 (jn 0) 46)] = true := by decide +kernel
    refine z_cst hB (fun hB => ?_)
    cases h
    exact z_weak k5 (z_se (z_se (z_sn (z_sn z_s0))))
  · have h := z_neg hc h
    have hB : z_all [z_is 362 16 (zf_aload 16 0 17), z_is 362 17 (zf_iload 17 1 18), z_is 362 18 (zf_cv 18 275 1 8 21), z_is 362 21 (zf_if1 .le 21 45 24)] = true := by decide +kernel
    refine z_aload hB rfl (fun hB => ?_)
    refine z_iload hB rfl (fun hB => ?_)
    obtain ⟨q32, e33, h⟩ := z_bind h
    refine y_cv ok hB (as := [.int (x1)]) (a := 241) (rest := [.int (q1), .int ((I 241 6)), .ref (241)]) rfl rfl rfl (by decide +kernel) (t_M_flagsOf (I := I) ok e33) (fun hB => ?_)
    refine z_if_le hB (fun hc _ => ?_) (fun hc _ => ?_)
    · have h := z_neg hc h
      have hB : z_all [z_is 362 45 (zf_cst 45 (jn 0) 46)] = true := by decide +kernel
      refine z_cst hB (fun hB => ?_)
      cases h
      exact z_weak k5 (z_se (z_se (z_sn (z_sn z_s0))))
    · have h := z_pos hc h
      have hB : z_all [z_is 362 24 (zf_aload 24 0 25), z_is 362 25 (zf_iload 25 1 26), z_is 362 26 (zf_cv 26 278 1 8 29), z_is 362 29 (zf_if1 .ne 29 45 32)] = true := by decide +kernel
      refine z_aload hB rfl (fun hB => ?_)
      refine z_iload hB rfl (fun hB => ?_)
      obtain ⟨q34, e35, h⟩ := z_bind h
      refine y_cv ok hB (as := [.int (x1)]) (a := 241) (rest := [.int (q1), .int ((I 241 6)), .ref (241)]) rfl rfl rfl (by decide +kernel) (t_M_isHanded (I := I) ok e35) (fun hB => ?_)
      refine z_if_ne hB (fun hc _ => ?_) (fun hc _ => ?_)
      · have h := z_neg hc h
        have hB : z_all [z_is 362 45 (zf_cst 45 (jn 0) 46)] = true := by decide +kernel
        refine z_cst hB (fun hB => ?_)
        cases h
        exact z_weak k5 (z_se (z_se (z_sn (z_sn z_s0))))
      · have h := z_pos hc h
        have hB : z_all [z_is 362 32 (zf_aload 32 0 33), z_is 362 33 (zf_iload 33 1 34), z_is 362 34 (zf_cv 34 279 1 8 37), z_is 362 37 (zf_cst 37 (jg 1) 38), z_is 362 38 (zf_if2 .ne 38 45 41)] = true := by decide +kernel
        refine z_aload hB rfl (fun hB => ?_)
        refine z_iload hB rfl (fun hB => ?_)
        obtain ⟨q36, e37, h⟩ := z_bind h
        refine y_cv ok hB (as := [.int (x1)]) (a := 241) (rest := [.int (q1), .int ((I 241 6)), .ref (241)]) rfl rfl rfl (by decide +kernel) (t_M_culpritOf (I := I) ok e37) (fun hB => ?_)
        refine z_cst hB (fun hB => ?_)
        refine z_ic_ne hB (fun hc _ => ?_) (fun hc _ => ?_)
        · have h := z_neg hc h
          have hB : z_all [z_is 362 45 (zf_cst 45 (jn 0) 46)] = true := by decide +kernel
          refine z_cst hB (fun hB => ?_)
          cases h
          exact z_weak k5 (z_se (z_se (z_sn (z_sn z_s0))))
        · have h := z_pos hc h
          have hB : z_all [z_is 362 41 (zf_cst 41 (jn 1) 42), z_is 362 42 (zf_goto 42 46)] = true := by decide +kernel
          refine z_cst hB (fun hB => ?_)
          refine z_goto hB (fun hB => ?_)
          cases h
          exact z_weak k5 (z_se (z_se (z_sn (z_sn z_s0))))
def d_M_pass_9 (x1 : Int32) (p8 : Int32 × z_H) : Option ((Int32 × z_H) ⊕ (Int32 × z_H)) := (if p8.1 < x1 then ((d_M_passes p8.2).bind fun q14 => some (Sum.inl ((p8.1 + (jn 1)), q14))) else some (Sum.inr (p8.1, p8.2)))
def d_M_pass (x1 : Int32) (I : z_H) : Option (Int32 × z_H) := ((d_M_in (x1) ((jn 1)) ((jn 50))).bind fun q1 => ((d_M_mayTwo ((I 241 6)) (q1) I).bind fun q3 => (if q3.1 = jn 0 then some (((jn 0), q3.2)) else ((d_M_remembers q3.2).bind fun q5 => (if z_in ((jn 5)) 173 then ((z_it (d_M_pass_9 x1) z_F ((jn 0), q5)).bind fun q10 => (if z_in ((jn 5)) 173 then some ((((q10.2 242 (z_n ((jn 5)))) - (q5 242 (z_n ((jn 5))))), q10.2)) else none)) else none)))))
/-- FlagLaundryModel.pass(I)I -/
theorem t_M_pass {G : z_G} {w : ev_W} (ok : z_Ok G w) {x1 : Int32} {I : z_H} {r : Int32 × z_H} (h : d_M_pass x1 I = some r) : z_K G 363 [.ref (241), .int (x1)] (z_w w I) (.inl (some (.int r.1))) (z_w w r.2) := by
  refine z_con ok.1 (ml := 4) (by decide +kernel) rfl rfl ?_
  show z_R G 363 0 [some (.ref (241)), some (.int (x1)), none, none] [] (z_w w I) (.inl (some (.int r.1))) (z_w w r.2)
  unfold d_M_pass at h
  have hB : z_all [z_is 363 0 (zf_aload 0 0 1), z_is 363 1 (zf_aload 1 0 2), z_is 363 2 (zf_geti 2 8 6 5), z_is 363 5 (zf_iload 5 1 6), z_is 363 6 (zf_cst 6 (jn 1) 7), z_is 363 7 (zf_cst 7 (jn 50) 9), z_is 363 9 (zf_cs 9 203 3 12), z_is 363 12 (zf_cv 12 207 2 8 15), z_is 363 15 (zf_if1 .ne 15 20 18)] = true := by decide +kernel
  refine z_aload hB rfl (fun hB => ?_)
  refine z_aload hB rfl (fun hB => ?_)
  refine y_geti ok hB (by decide +kernel) (fun hB => ?_)
  refine z_iload hB rfl (fun hB => ?_)
  refine z_cst hB (fun hB => ?_)
  refine z_cst hB (fun hB => ?_)
  obtain ⟨q1, e2, h⟩ := z_bind h
  refine z_callS hB (as := [.int (x1), .int ((jn 1)), .int ((jn 50))]) (rest := [.int ((I 241 6)), .ref (241)]) rfl rfl rfl (t_M_in (I := I) ok e2) (fun hB => ?_)
  obtain ⟨q3, e4, h⟩ := z_bind h
  refine y_cv ok hB (as := [.int ((I 241 6)), .int (q1)]) (a := 241) (rest := []) rfl rfl rfl (by decide +kernel) (t_M_mayTwo (I := I) ok e4) (fun hB => ?_)
  refine z_if_ne hB (fun hc _ => ?_) (fun hc _ => ?_)
  · have h := z_neg hc h
    have hB : z_all [z_is 363 20 (zf_aload 20 0 21), z_is 363 21 (zf_cv 21 351 0 8 24), z_is 363 24 (zf_aload 24 0 25), z_is 363 25 (zf_getr 25 8 1 28), z_is 363 28 (zf_cst 28 (jn 5) 29), z_is 363 29 (zf_iald 29 30), z_is 363 30 (zf_istore 30 2 31), z_is 363 31 (zf_cst 31 (jn 0) 32), z_is 363 32 (zf_istore 32 3 33)] = true := by decide +kernel
    refine z_aload hB rfl (fun hB => ?_)
    obtain ⟨q5, e6, h⟩ := z_bind h
    refine y_cv ok hB (as := []) (a := 241) (rest := []) rfl rfl rfl (by decide +kernel) (t_M_remembers (I := q3.2) ok e6) (fun hB => ?_)
    refine z_aload hB rfl (fun hB => ?_)
    refine y_getr (b := 242) ok hB (by decide +kernel) (by decide +kernel) (fun hB => ?_)
    refine z_cst hB (fun hB => ?_)
    obtain ⟨g7, h⟩ := z_gd h
    refine y_iald ok hB (by decide +kernel) (by decide +kernel) g7 (fun hB => ?_)
    refine z_istore hB rfl rfl (fun hB => ?_)
    refine z_cst hB (fun hB => ?_)
    refine z_istore hB rfl rfl (fun hB => ?_)
    obtain ⟨q10, e11, h⟩ := z_bind h
    have k12 : z_R G 363 48 [some (.ref (241)), none, some (.int ((q5 242 (z_n ((jn 5)))))), none] [] (z_w w q10.2) (.inl (some (.int r.1))) (z_w w r.2) := by
      have hB : z_all [z_is 363 48 (zf_aload 48 0 49), z_is 363 49 (zf_getr 49 8 1 52), z_is 363 52 (zf_cst 52 (jn 5) 53), z_is 363 53 (zf_iald 53 54), z_is 363 54 (zf_iload 54 2 55), z_is 363 55 (zf_isub 55 56), z_is 363 56 (zf_ret 0)] = true := by decide +kernel
      refine z_aload hB rfl (fun hB => ?_)
      refine y_getr (b := 242) ok hB (by decide +kernel) (by decide +kernel) (fun hB => ?_)
      refine z_cst hB (fun hB => ?_)
      obtain ⟨g13, h⟩ := z_gd h
      refine y_iald ok hB (by decide +kernel) (by decide +kernel) g13 (fun hB => ?_)
      refine z_iload hB rfl (fun hB => ?_)
      refine z_isub hB (fun hB => ?_)
      cases h
      exact z_reti hB
    have l9 : ∀ (m9 : Nat) (p8 : Int32 × z_H), z_it (d_M_pass_9 x1) m9 p8 = some q10 → z_R G 363 33 [some (.ref (241)), some (.int (x1)), some (.int ((q5 242 (z_n ((jn 5)))))), some (.int (p8.1))] [] (z_w w p8.2) (.inl (some (.int r.1))) (z_w w r.2) := by
      intro m9
      induction m9 with
      | zero => intro p8 h; cases h
      | succ m9 i9 =>
        intro p8 h
        obtain ⟨u9, h, b9⟩ := z_it_o h
        unfold d_M_pass_9 at h
        have hB : z_all [z_is 363 33 (zf_iload 33 3 34), z_is 363 34 (zf_iload 34 1 35), z_is 363 35 (zf_if2 .ge 35 48 38)] = true := by decide +kernel
        refine z_iload hB rfl (fun hB => ?_)
        refine z_iload hB rfl (fun hB => ?_)
        refine z_ic_ge hB (fun hc _ => ?_) (fun hc _ => ?_)
        · have h := z_neg hc h
          cases h
          cases b9
          exact z_weak k12 (z_se (z_sn (z_se (z_sn z_s0))))
        · have h := z_pos hc h
          have hB : z_all [z_is 363 38 (zf_aload 38 0 39), z_is 363 39 (zf_cv 39 272 0 8 42), z_is 363 42 (zf_iinc 42 3 (jn 1) 45), z_is 363 45 (zf_goto 45 33)] = true := by decide +kernel
          refine z_aload hB rfl (fun hB => ?_)
          obtain ⟨q14, e15, h⟩ := z_bind h
          refine y_cv ok hB (as := []) (a := 241) (rest := []) rfl rfl rfl (by decide +kernel) (t_M_passes (I := p8.2) ok e15) (fun hB => ?_)
          refine z_iinc hB rfl rfl (fun hB => ?_)
          refine z_goto hB (fun hB => ?_)
          cases h
          exact z_weak (i9 ((p8.1 + (jn 1)), q14) b9) (z_se (z_se (z_se (z_se z_s0))))
    exact z_weak (l9 _ ((jn 0), q5) e11) (z_se (z_se (z_se (z_se z_s0))))
  · have h := z_pos hc h
    have hB : z_all [z_is 363 18 (zf_cst 18 (jn 0) 19), z_is 363 19 (zf_ret 0)] = true := by decide +kernel
    refine z_cst hB (fun hB => ?_)
    cases h
    exact z_reti hB
def d_M_setWind (x1 : Int32) (I : z_H) : Option (Int32 × z_H) := ((d_M_isWind (x1)).bind fun q1 => ((d_M_mayTwo ((I 241 6)) (q1) I).bind fun q3 => (if q3.1 = jn 0 then some (((jn 0), q3.2)) else ((d_M_remembers q3.2).bind fun q5 => (if z_in ((jn 1)) 173 then (if z_in ((jn 1)) 173 then some (((q5 242 (z_n ((jn 1)))), (ev_u2 q5 242 (z_n ((jn 1))) x1))) else none) else none)))))
/-- FlagLaundryModel.setWind(I)I -/
theorem t_M_setWind {G : z_G} {w : ev_W} (ok : z_Ok G w) {x1 : Int32} {I : z_H} {r : Int32 × z_H} (h : d_M_setWind x1 I = some r) : z_K G 364 [.ref (241), .int (x1)] (z_w w I) (.inl (some (.int r.1))) (z_w w r.2) := by
  refine z_con ok.1 (ml := 3) (by decide +kernel) rfl rfl ?_
  show z_R G 364 0 [some (.ref (241)), some (.int (x1)), none] [] (z_w w I) (.inl (some (.int r.1))) (z_w w r.2)
  unfold d_M_setWind at h
  have hB : z_all [z_is 364 0 (zf_aload 0 0 1), z_is 364 1 (zf_aload 1 0 2), z_is 364 2 (zf_geti 2 8 6 5), z_is 364 5 (zf_iload 5 1 6), z_is 364 6 (zf_cs 6 329 1 9), z_is 364 9 (zf_cv 9 207 2 8 12), z_is 364 12 (zf_if1 .ne 12 17 15)] = true := by decide +kernel
  refine z_aload hB rfl (fun hB => ?_)
  refine z_aload hB rfl (fun hB => ?_)
  refine y_geti ok hB (by decide +kernel) (fun hB => ?_)
  refine z_iload hB rfl (fun hB => ?_)
  obtain ⟨q1, e2, h⟩ := z_bind h
  refine z_callS hB (as := [.int (x1)]) (rest := [.int ((I 241 6)), .ref (241)]) rfl rfl rfl (t_M_isWind (I := I) ok e2) (fun hB => ?_)
  obtain ⟨q3, e4, h⟩ := z_bind h
  refine y_cv ok hB (as := [.int ((I 241 6)), .int (q1)]) (a := 241) (rest := []) rfl rfl rfl (by decide +kernel) (t_M_mayTwo (I := I) ok e4) (fun hB => ?_)
  refine z_if_ne hB (fun hc _ => ?_) (fun hc _ => ?_)
  · have h := z_neg hc h
    have hB : z_all [z_is 364 17 (zf_aload 17 0 18), z_is 364 18 (zf_cv 18 351 0 8 21), z_is 364 21 (zf_aload 21 0 22), z_is 364 22 (zf_getr 22 8 1 25), z_is 364 25 (zf_cst 25 (jn 1) 26), z_is 364 26 (zf_iald 26 27), z_is 364 27 (zf_istore 27 2 28), z_is 364 28 (zf_aload 28 0 29), z_is 364 29 (zf_getr 29 8 1 32), z_is 364 32 (zf_cst 32 (jn 1) 33), z_is 364 33 (zf_iload 33 1 34), z_is 364 34 (zf_iast 34 35), z_is 364 35 (zf_iload 35 2 36), z_is 364 36 (zf_ret 0)] = true := by decide +kernel
    refine z_aload hB rfl (fun hB => ?_)
    obtain ⟨q5, e6, h⟩ := z_bind h
    refine y_cv ok hB (as := []) (a := 241) (rest := []) rfl rfl rfl (by decide +kernel) (t_M_remembers (I := q3.2) ok e6) (fun hB => ?_)
    refine z_aload hB rfl (fun hB => ?_)
    refine y_getr (b := 242) ok hB (by decide +kernel) (by decide +kernel) (fun hB => ?_)
    refine z_cst hB (fun hB => ?_)
    obtain ⟨g7, h⟩ := z_gd h
    refine y_iald ok hB (by decide +kernel) (by decide +kernel) g7 (fun hB => ?_)
    refine z_istore hB rfl rfl (fun hB => ?_)
    refine z_aload hB rfl (fun hB => ?_)
    refine y_getr (b := 242) ok hB (by decide +kernel) (by decide +kernel) (fun hB => ?_)
    refine z_cst hB (fun hB => ?_)
    refine z_iload hB rfl (fun hB => ?_)
    obtain ⟨g8, h⟩ := z_gd h
    refine y_iast ok hB (by decide +kernel) (by decide +kernel) g8 (fun hB => ?_)
    refine z_iload hB rfl (fun hB => ?_)
    cases h
    exact z_reti hB
  · have h := z_pos hc h
    have hB : z_all [z_is 364 15 (zf_cst 15 (jn 0) 16), z_is 364 16 (zf_ret 0)] = true := by decide +kernel
    refine z_cst hB (fun hB => ?_)
    cases h
    exact z_reti hB
def d_M_addFlag (x1 : Int32) (x2 : Int32) (x3 : Int32) (x4 : Int32) (I : z_H) : Option (Int32 × z_H) := ((d_M_isNation (x1) I).bind fun q1 => (Option.bind (α := Int32) (if q1 = jn 0 then some ((jn 0)) else (if z_in ((jn 6)) 173 then ((d_M_in (x2) ((jn 1)) ((((jn 1) <<< ((I 242 (z_n ((jn 6)))) &&& 31)) - (jn 1)))).bind fun q19 => (if q19 = jn 0 then some ((jn 0)) else ((d_M_in (x3) ((jn 0)) ((jn 3))).bind fun q21 => (if q21 = jn 0 then some ((jn 0)) else ((d_M_in (x4) ((jn 0)) ((jn 9))).bind fun q23 => (if q23 = jn 0 then some ((jn 0)) else some ((jn 1)))))))) else none)) fun q3 => (Option.bind (α := Int32) (if q3 = jn 0 then some ((jn 0)) else ((d_M_isHanded (x1) I).bind fun q15 => (if q15 = jn 0 then (if z_in ((jn 10)) 173 then (if (I 242 (z_n ((jn 10)))) < (jn 12) then some ((jn 1)) else some ((jn 0))) else none) else some ((jn 0))))) fun q6 => ((d_M_may ((I 241 6)) (q1) (q6) I).bind fun q9 => (if q9.1 = jn 0 then some (((jn 0), q9.2)) else ((d_M_remembers q9.2).bind fun q11 => ((d_M_addsFlag (x1) (x2) (x3) (x4) q11).bind fun q13 => some ((q13.1, q13.2)))))))))
/-- FlagLaundryModel.addFlag(IIII)I -/
theorem t_M_addFlag {G : z_G} {w : ev_W} (ok : z_Ok G w) {x1 : Int32} {x2 : Int32} {x3 : Int32} {x4 : Int32} {I : z_H} {r : Int32 × z_H} (h : d_M_addFlag x1 x2 x3 x4 I = some r) : z_K G 365 [.ref (241), .int (x1), .int (x2), .int (x3), .int (x4)] (z_w w I) (.inl (some (.int r.1))) (z_w w r.2) := by
  refine z_con ok.1 (ml := 7) (by decide +kernel) rfl rfl ?_
  show z_R G 365 0 [some (.ref (241)), some (.int (x1)), some (.int (x2)), some (.int (x3)), some (.int (x4)), none, none] [] (z_w w I) (.inl (some (.int r.1))) (z_w w r.2)
  unfold d_M_addFlag at h
  have hB : z_all [z_is 365 0 (zf_aload 0 0 1), z_is 365 1 (zf_iload 1 1 2), z_is 365 2 (zf_cv 2 284 1 8 5), z_is 365 5 (zf_istore 5 5 7), z_is 365 7 (zf_iload 7 5 9), z_is 365 9 (zf_if1 .eq 9 55 12)] = true := by decide +kernel
  refine z_aload hB rfl (fun hB => ?_)
  refine z_iload hB rfl (fun hB => ?_)
  obtain ⟨q1, e2, h⟩ := z_bind h
  refine y_cv ok hB (as := [.int (x1)]) (a := 241) (rest := []) rfl rfl rfl (by decide +kernel) (t_M_isNation (I := I) ok e2) (fun hB => ?_)
  refine z_istore hB rfl rfl (fun hB => ?_)
  refine z_iload hB rfl (fun hB => ?_)
  obtain ⟨q3, e4, h⟩ := z_bind h
  have k5 : z_R G 365 56 [some (.ref (241)), some (.int (x1)), some (.int (x2)), some (.int (x3)), some (.int (x4)), some (.int (q1)), none] [.int (q3)] (z_w w I) (.inl (some (.int r.1))) (z_w w r.2) := by
    have hB : z_all [z_is 365 56 (zf_istore 56 6 58), z_is 365 58 (zf_aload 58 0 59), z_is 365 59 (zf_aload 59 0 60), z_is 365 60 (zf_geti 60 8 6 63), z_is 365 63 (zf_iload 63 5 65), z_is 365 65 (zf_iload 65 6 67), z_is 365 67 (zf_if1 .eq 67 94 70)] = true := by decide +kernel
    refine z_istore hB rfl rfl (fun hB => ?_)
    refine z_aload hB rfl (fun hB => ?_)
    refine z_aload hB rfl (fun hB => ?_)
    refine y_geti ok hB (by decide +kernel) (fun hB => ?_)
    refine z_iload hB rfl (fun hB => ?_)
    refine z_iload hB rfl (fun hB => ?_)
    obtain ⟨q6, e7, h⟩ := z_bind h
    have k8 : z_R G 365 95 [some (.ref (241)), some (.int (x1)), some (.int (x2)), some (.int (x3)), some (.int (x4)), none, none] [.int (q6), .int (q1), .int ((I 241 6)), .ref (241)] (z_w w I) (.inl (some (.int r.1))) (z_w w r.2) := by
      have hB : z_all [z_is 365 95 (zf_cv 95 206 3 8 98), z_is 365 98 (zf_if1 .ne 98 103 101)] = true := by decide +kernel
      obtain ⟨q9, e10, h⟩ := z_bind h
      refine y_cv ok hB (as := [.int ((I 241 6)), .int (q1), .int (q6)]) (a := 241) (rest := []) rfl rfl rfl (by decide +kernel) (t_M_may (I := I) ok e10) (fun hB => ?_)
      refine z_if_ne hB (fun hc _ => ?_) (fun hc _ => ?_)
      · have h := z_neg hc h
        have hB : z_all [z_is 365 103 (zf_aload 103 0 104), z_is 365 104 (zf_cv 104 351 0 8 107), z_is 365 107 (zf_aload 107 0 108), z_is 365 108 (zf_iload 108 1 109), z_is 365 109 (zf_iload 109 2 110), z_is 365 110 (zf_iload 110 3 111), z_is 365 111 (zf_iload 111 4 113), z_is 365 113 (zf_cv 113 248 4 8 116), z_is 365 116 (zf_ret 0)] = true := by decide +kernel
        refine z_aload hB rfl (fun hB => ?_)
        obtain ⟨q11, e12, h⟩ := z_bind h
        refine y_cv ok hB (as := []) (a := 241) (rest := []) rfl rfl rfl (by decide +kernel) (t_M_remembers (I := q9.2) ok e12) (fun hB => ?_)
        refine z_aload hB rfl (fun hB => ?_)
        refine z_iload hB rfl (fun hB => ?_)
        refine z_iload hB rfl (fun hB => ?_)
        refine z_iload hB rfl (fun hB => ?_)
        refine z_iload hB rfl (fun hB => ?_)
        obtain ⟨q13, e14, h⟩ := z_bind h
        refine y_cv ok hB (as := [.int (x1), .int (x2), .int (x3), .int (x4)]) (a := 241) (rest := []) rfl rfl rfl (by decide +kernel) (t_M_addsFlag (I := q11) ok e14) (fun hB => ?_)
        cases h
        exact z_reti hB
      · have h := z_pos hc h
        have hB : z_all [z_is 365 101 (zf_cst 101 (jn 0) 102), z_is 365 102 (zf_ret 0)] = true := by decide +kernel
        refine z_cst hB (fun hB => ?_)
        cases h
        exact z_reti hB
    have h := e7
    refine z_if_eq hB (fun hc _ => ?_) (fun hc _ => ?_)
    · have h := z_pos hc h
      have hB : z_all [z_is 365 94 (zf_cst 94 (jn 0) 95)] = true := by decide +kernel
      refine z_cst hB (fun hB => ?_)
      cases h
      exact z_weak k8 (z_se (z_se (z_se (z_se (z_se (z_sn (z_sn z_s0)))))))
    · have h := z_neg hc h
      have hB : z_all [z_is 365 70 (zf_aload 70 0 71), z_is 365 71 (zf_iload 71 1 72), z_is 365 72 (zf_cv 72 278 1 8 75), z_is 365 75 (zf_if1 .ne 75 94 78)] = true := by decide +kernel
      refine z_aload hB rfl (fun hB => ?_)
      refine z_iload hB rfl (fun hB => ?_)
      obtain ⟨q15, e16, h⟩ := z_bind h
      refine y_cv ok hB (as := [.int (x1)]) (a := 241) (rest := [.int (q1), .int ((I 241 6)), .ref (241)]) rfl rfl rfl (by decide +kernel) (t_M_isHanded (I := I) ok e16) (fun hB => ?_)
      refine z_if_ne hB (fun hc _ => ?_) (fun hc _ => ?_)
      · have h := z_neg hc h
        have hB : z_all [z_is 365 94 (zf_cst 94 (jn 0) 95)] = true := by decide +kernel
        refine z_cst hB (fun hB => ?_)
        cases h
        exact z_weak k8 (z_se (z_se (z_se (z_se (z_se (z_sn (z_sn z_s0)))))))
      · have h := z_pos hc h
        have hB : z_all [z_is 365 78 (zf_aload 78 0 79), z_is 365 79 (zf_getr 79 8 1 82), z_is 365 82 (zf_cst 82 (jn 10) 84), z_is 365 84 (zf_iald 84 85), z_is 365 85 (zf_cst 85 (jn 12) 87), z_is 365 87 (zf_if2 .ge 87 94 90)] = true := by decide +kernel
        refine z_aload hB rfl (fun hB => ?_)
        refine y_getr (b := 242) ok hB (by decide +kernel) (by decide +kernel) (fun hB => ?_)
        refine z_cst hB (fun hB => ?_)
        obtain ⟨g17, h⟩ := z_gd h
        refine y_iald ok hB (by decide +kernel) (by decide +kernel) g17 (fun hB => ?_)
        refine z_cst hB (fun hB => ?_)
        refine z_ic_ge hB (fun hc _ => ?_) (fun hc _ => ?_)
        · have h := z_neg hc h
          have hB : z_all [z_is 365 94 (zf_cst 94 (jn 0) 95)] = true := by decide +kernel
          refine z_cst hB (fun hB => ?_)
          cases h
          exact z_weak k8 (z_se (z_se (z_se (z_se (z_se (z_sn (z_sn z_s0)))))))
        · have h := z_pos hc h
          have hB : z_all [z_is 365 90 (zf_cst 90 (jn 1) 91), z_is 365 91 (zf_goto 91 95)] = true := by decide +kernel
          refine z_cst hB (fun hB => ?_)
          refine z_goto hB (fun hB => ?_)
          cases h
          exact z_weak k8 (z_se (z_se (z_se (z_se (z_se (z_sn (z_sn z_s0)))))))
  have h := e4
  refine z_if_eq hB (fun hc _ => ?_) (fun hc _ => ?_)
  · have h := z_pos hc h
    have hB : z_all [z_is 365 55 (zf_cst 55 (jn 0) 56)] = true := by decide +kernel
    refine z_cst hB (fun hB => ?_)
    cases h
    exact z_weak k5 (z_se (z_se (z_se (z_se (z_se (z_se (z_sn z_s0)))))))
  · have h := z_neg hc h
    have hB : z_all [z_is 365 12 (zf_iload 12 2 13), z_is 365 13 (zf_cst 13 (jn 1) 14), z_is 365 14 (zf_cst 14 (jn 1) 15), z_is 365 15 (zf_aload 15 0 16), z_is 365 16 (zf_getr 16 8 1 19), z_is 365 19 (zf_cst 19 (jn 6) 21), z_is 365 21 (zf_iald 21 22), z_is 365 22 (zf_ishl 22 23), z_is 365 23 (zf_cst 23 (jn 1) 24), z_is 365 24 (zf_isub 24 25), z_is 365 25 (zf_cs 25 203 3 28), z_is 365 28 (zf_if1 .eq 28 55 31)] = true := by decide +kernel
    refine z_iload hB rfl (fun hB => ?_)
    refine z_cst hB (fun hB => ?_)
    refine z_cst hB (fun hB => ?_)
    refine z_aload hB rfl (fun hB => ?_)
    refine y_getr (b := 242) ok hB (by decide +kernel) (by decide +kernel) (fun hB => ?_)
    refine z_cst hB (fun hB => ?_)
    obtain ⟨g18, h⟩ := z_gd h
    refine y_iald ok hB (by decide +kernel) (by decide +kernel) g18 (fun hB => ?_)
    refine z_ishl hB (fun hB => ?_)
    refine z_cst hB (fun hB => ?_)
    refine z_isub hB (fun hB => ?_)
    obtain ⟨q19, e20, h⟩ := z_bind h
    refine z_callS hB (as := [.int (x2), .int ((jn 1)), .int ((((jn 1) <<< ((I 242 (z_n ((jn 6)))) &&& 31)) - (jn 1)))]) (rest := []) rfl rfl rfl (t_M_in (I := I) ok e20) (fun hB => ?_)
    refine z_if_eq hB (fun hc _ => ?_) (fun hc _ => ?_)
    · have h := z_pos hc h
      have hB : z_all [z_is 365 55 (zf_cst 55 (jn 0) 56)] = true := by decide +kernel
      refine z_cst hB (fun hB => ?_)
      cases h
      exact z_weak k5 (z_se (z_se (z_se (z_se (z_se (z_se (z_sn z_s0)))))))
    · have h := z_neg hc h
      have hB : z_all [z_is 365 31 (zf_iload 31 3 32), z_is 365 32 (zf_cst 32 (jn 0) 33), z_is 365 33 (zf_cst 33 (jn 3) 34), z_is 365 34 (zf_cs 34 203 3 37), z_is 365 37 (zf_if1 .eq 37 55 40)] = true := by decide +kernel
      refine z_iload hB rfl (fun hB => ?_)
      refine z_cst hB (fun hB => ?_)
      refine z_cst hB (fun hB => ?_)
      obtain ⟨q21, e22, h⟩ := z_bind h
      refine z_callS hB (as := [.int (x3), .int ((jn 0)), .int ((jn 3))]) (rest := []) rfl rfl rfl (t_M_in (I := I) ok e22) (fun hB => ?_)
      refine z_if_eq hB (fun hc _ => ?_) (fun hc _ => ?_)
      · have h := z_pos hc h
        have hB : z_all [z_is 365 55 (zf_cst 55 (jn 0) 56)] = true := by decide +kernel
        refine z_cst hB (fun hB => ?_)
        cases h
        exact z_weak k5 (z_se (z_se (z_se (z_se (z_se (z_se (z_sn z_s0)))))))
      · have h := z_neg hc h
        have hB : z_all [z_is 365 40 (zf_iload 40 4 42), z_is 365 42 (zf_cst 42 (jn 0) 43), z_is 365 43 (zf_cst 43 (jn 9) 45), z_is 365 45 (zf_cs 45 203 3 48), z_is 365 48 (zf_if1 .eq 48 55 51)] = true := by decide +kernel
        refine z_iload hB rfl (fun hB => ?_)
        refine z_cst hB (fun hB => ?_)
        refine z_cst hB (fun hB => ?_)
        obtain ⟨q23, e24, h⟩ := z_bind h
        refine z_callS hB (as := [.int (x4), .int ((jn 0)), .int ((jn 9))]) (rest := []) rfl rfl rfl (t_M_in (I := I) ok e24) (fun hB => ?_)
        refine z_if_eq hB (fun hc _ => ?_) (fun hc _ => ?_)
        · have h := z_pos hc h
          have hB : z_all [z_is 365 55 (zf_cst 55 (jn 0) 56)] = true := by decide +kernel
          refine z_cst hB (fun hB => ?_)
          cases h
          exact z_weak k5 (z_se (z_se (z_se (z_se (z_se (z_se (z_sn z_s0)))))))
        · have h := z_neg hc h
          have hB : z_all [z_is 365 51 (zf_cst 51 (jn 1) 52), z_is 365 52 (zf_goto 52 56)] = true := by decide +kernel
          refine z_cst hB (fun hB => ?_)
          refine z_goto hB (fun hB => ?_)
          cases h
          exact z_weak k5 (z_se (z_se (z_se (z_se (z_se (z_se (z_sn z_s0)))))))
def d_M_undo  (I : z_H) : Option (Int32 × z_H) := (Option.bind (α := Int32) (if jn 0 < (I 241 7) then some ((jn 1)) else some ((jn 0))) fun q1 => ((d_M_may (q1) ((jn 1)) ((jn 1)) I).bind fun q4 => (if q4.1 = jn 0 then some (((jn 0), q4.2)) else ((d_M_lays (244) ((((ev_u2 q4.2 241 7 ((q4.2 241 7) - (jn 1))) 241 7) * (jn 173))) (242) ((jn 0)) (ev_u2 q4.2 241 7 ((q4.2 241 7) - (jn 1)))).bind fun q6 => some (((q6 241 7), q6))))))
/-- FlagLaundryModel.undo()I -/
theorem t_M_undo {G : z_G} {w : ev_W} (ok : z_Ok G w) {I : z_H} {r : Int32 × z_H} (h : d_M_undo I = some r) : z_K G 366 [.ref (241)] (z_w w I) (.inl (some (.int r.1))) (z_w w r.2) := by
  refine z_con ok.1 (ml := 1) (by decide +kernel) rfl rfl ?_
  show z_R G 366 0 [some (.ref (241))] [] (z_w w I) (.inl (some (.int r.1))) (z_w w r.2)
  unfold d_M_undo at h
  have hB : z_all [z_is 366 0 (zf_aload 0 0 1), z_is 366 1 (zf_aload 1 0 2), z_is 366 2 (zf_geti 2 8 7 5), z_is 366 5 (zf_if1 .le 5 12 8)] = true := by decide +kernel
  refine z_aload hB rfl (fun hB => ?_)
  refine z_aload hB rfl (fun hB => ?_)
  refine y_geti ok hB (by decide +kernel) (fun hB => ?_)
  obtain ⟨q1, e2, h⟩ := z_bind h
  have k3 : z_R G 366 13 [some (.ref (241))] [.int (q1), .ref (241)] (z_w w I) (.inl (some (.int r.1))) (z_w w r.2) := by
    have hB : z_all [z_is 366 13 (zf_cst 13 (jn 1) 14), z_is 366 14 (zf_cst 14 (jn 1) 15), z_is 366 15 (zf_cv 15 206 3 8 18), z_is 366 18 (zf_if1 .ne 18 23 21)] = true := by decide +kernel
    refine z_cst hB (fun hB => ?_)
    refine z_cst hB (fun hB => ?_)
    obtain ⟨q4, e5, h⟩ := z_bind h
    refine y_cv ok hB (as := [.int (q1), .int ((jn 1)), .int ((jn 1))]) (a := 241) (rest := []) rfl rfl rfl (by decide +kernel) (t_M_may (I := I) ok e5) (fun hB => ?_)
    refine z_if_ne hB (fun hc _ => ?_) (fun hc _ => ?_)
    · have h := z_neg hc h
      have hB : z_all [z_is 366 23 (zf_aload 23 0 24), z_is 366 24 (zf_dupr 24 25), z_is 366 25 (zf_geti 25 8 7 28), z_is 366 28 (zf_cst 28 (jn 1) 29), z_is 366 29 (zf_isub 29 30), z_is 366 30 (zf_puti 30 8 7 33), z_is 366 33 (zf_aload 33 0 34), z_is 366 34 (zf_getr 34 8 3 37), z_is 366 37 (zf_aload 37 0 38), z_is 366 38 (zf_geti 38 8 7 41), z_is 366 41 (zf_cst 41 (jn 173) 44), z_is 366 44 (zf_imul 44 45), z_is 366 45 (zf_aload 45 0 46), z_is 366 46 (zf_getr 46 8 1 49), z_is 366 49 (zf_cst 49 (jn 0) 50), z_is 366 50 (zf_cs 50 209 4 53), z_is 366 53 (zf_aload 53 0 54), z_is 366 54 (zf_geti 54 8 7 57), z_is 366 57 (zf_ret 0)] = true := by decide +kernel
      refine z_aload hB rfl (fun hB => ?_)
      refine z_dupr hB (fun hB => ?_)
      refine y_geti ok hB (by decide +kernel) (fun hB => ?_)
      refine z_cst hB (fun hB => ?_)
      refine z_isub hB (fun hB => ?_)
      refine y_puti ok hB (by decide +kernel) (fun hB => ?_)
      refine z_aload hB rfl (fun hB => ?_)
      refine y_getr (b := 244) ok hB (by decide +kernel) (by decide +kernel) (fun hB => ?_)
      refine z_aload hB rfl (fun hB => ?_)
      refine y_geti ok hB (by decide +kernel) (fun hB => ?_)
      refine z_cst hB (fun hB => ?_)
      refine z_imul hB (fun hB => ?_)
      refine z_aload hB rfl (fun hB => ?_)
      refine y_getr (b := 242) ok hB (by decide +kernel) (by decide +kernel) (fun hB => ?_)
      refine z_cst hB (fun hB => ?_)
      obtain ⟨q6, e7, h⟩ := z_bind h
      refine z_callS hB (as := [.ref (244), .int ((((ev_u2 q4.2 241 7 ((q4.2 241 7) - (jn 1))) 241 7) * (jn 173))), .ref (242), .int ((jn 0))]) (rest := []) rfl rfl rfl (t_M_lays (I := (ev_u2 q4.2 241 7 ((q4.2 241 7) - (jn 1)))) ok (by decide +kernel) (by decide +kernel) e7) (fun hB => ?_)
      refine z_aload hB rfl (fun hB => ?_)
      refine y_geti ok hB (by decide +kernel) (fun hB => ?_)
      cases h
      exact z_reti hB
    · have h := z_pos hc h
      have hB : z_all [z_is 366 21 (zf_cst 21 (jn 0) 22), z_is 366 22 (zf_ret 0)] = true := by decide +kernel
      refine z_cst hB (fun hB => ?_)
      cases h
      exact z_reti hB
  have h := e2
  refine z_if_le hB (fun hc _ => ?_) (fun hc _ => ?_)
  · have h := z_neg hc h
    have hB : z_all [z_is 366 12 (zf_cst 12 (jn 0) 13)] = true := by decide +kernel
    refine z_cst hB (fun hB => ?_)
    cases h
    exact z_weak k3 (z_se z_s0)
  · have h := z_pos hc h
    have hB : z_all [z_is 366 8 (zf_cst 8 (jn 1) 9), z_is 366 9 (zf_goto 9 13)] = true := by decide +kernel
    refine z_cst hB (fun hB => ?_)
    refine z_goto hB (fun hB => ?_)
    cases h
    exact z_weak k3 (z_se z_s0)
def d_M_undoable  (I : z_H) : Option (Int32 × z_H) := some ((((ev_u2 I 241 0 (jn 0)) 241 7), (ev_u2 I 241 0 (jn 0))))
/-- FlagLaundryModel.undoable()I -/
theorem t_M_undoable {G : z_G} {w : ev_W} (ok : z_Ok G w) {I : z_H} {r : Int32 × z_H} (h : d_M_undoable I = some r) : z_K G 367 [.ref (241)] (z_w w I) (.inl (some (.int r.1))) (z_w w r.2) := by
  refine z_con ok.1 (ml := 1) (by decide +kernel) rfl rfl ?_
  show z_R G 367 0 [some (.ref (241))] [] (z_w w I) (.inl (some (.int r.1))) (z_w w r.2)
  unfold d_M_undoable at h
  have hB : z_all [z_is 367 0 (zf_aload 0 0 1), z_is 367 1 (zf_cst 1 (jn 0) 2), z_is 367 2 (zf_puti 2 8 0 5), z_is 367 5 (zf_aload 5 0 6), z_is 367 6 (zf_geti 6 8 7 9), z_is 367 9 (zf_ret 0)] = true := by decide +kernel
  refine z_aload hB rfl (fun hB => ?_)
  refine z_cst hB (fun hB => ?_)
  refine y_puti ok hB (by decide +kernel) (fun hB => ?_)
  refine z_aload hB rfl (fun hB => ?_)
  refine y_geti ok hB (by decide +kernel) (fun hB => ?_)
  cases h
  exact z_reti hB
def d_M_isSlot (x1 : Int32) : Option (Int32) := ((d_M_in (x1) ((jn 0)) ((jn 1))).bind fun q1 => (if (q1) = jn 0 ∨ (q1) = jn 1 then some (q1) else none))
/-- FlagLaundryModel.isSlot(I)Z -/
theorem t_M_isSlot {G : z_G} {w : ev_W} (ok : z_Ok G w) {x1 : Int32} {I : z_H} {r : Int32} (h : d_M_isSlot x1 = some r) : z_K G 368 [.int (x1)] (z_w w I) (.inl (some (.int r))) (z_w w I) := by
  refine z_con ok.1 (ml := 1) (by decide +kernel) rfl rfl ?_
  show z_R G 368 0 [some (.int (x1))] [] (z_w w I) (.inl (some (.int r))) (z_w w I)
  unfold d_M_isSlot at h
  have hB : z_all [z_is 368 0 (zf_iload 0 0 1), z_is 368 1 (zf_cst 1 (jn 0) 2), z_is 368 2 (zf_cst 2 (jn 1) 3), z_is 368 3 (zf_cs 3 203 3 6), z_is 368 6 (zf_ret 1)] = true := by decide +kernel
  refine z_iload hB rfl (fun hB => ?_)
  refine z_cst hB (fun hB => ?_)
  refine z_cst hB (fun hB => ?_)
  obtain ⟨q1, e2, h⟩ := z_bind h
  refine z_callS hB (as := [.int (x1), .int ((jn 0)), .int ((jn 1))]) (rest := []) rfl rfl rfl (t_M_in (I := I) ok e2) (fun hB => ?_)
  obtain ⟨g3, h⟩ := z_gd h
  cases h
  exact z_retz hB g3
def d_M_save (x1 : Int32) (I : z_H) : Option (Int32 × z_H) := ((d_M_isSlot (x1)).bind fun q1 => ((d_M_mayTwo ((I 241 6)) (q1) I).bind fun q3 => (if q3.1 = jn 0 then some (((jn 0), q3.2)) else ((d_M_lays (242) ((jn 0)) (245) ((x1 * (jn 173))) q3.2).bind fun q5 => (if z_in (x1) 2 then (if z_in ((jn 0)) 173 then some ((((ev_u2 q5 246 (z_n (x1)) (vp_nar .boolean ((jn 1)))) 242 (z_n ((jn 0)))), (ev_u2 q5 246 (z_n (x1)) (vp_nar .boolean ((jn 1)))))) else none) else none)))))
/-- FlagLaundryModel.save(I)I -/
theorem t_M_save {G : z_G} {w : ev_W} (ok : z_Ok G w) {x1 : Int32} {I : z_H} {r : Int32 × z_H} (h : d_M_save x1 I = some r) : z_K G 369 [.ref (241), .int (x1)] (z_w w I) (.inl (some (.int r.1))) (z_w w r.2) := by
  refine z_con ok.1 (ml := 2) (by decide +kernel) rfl rfl ?_
  show z_R G 369 0 [some (.ref (241)), some (.int (x1))] [] (z_w w I) (.inl (some (.int r.1))) (z_w w r.2)
  unfold d_M_save at h
  have hB : z_all [z_is 369 0 (zf_aload 0 0 1), z_is 369 1 (zf_aload 1 0 2), z_is 369 2 (zf_geti 2 8 6 5), z_is 369 5 (zf_iload 5 1 6), z_is 369 6 (zf_cs 6 368 1 9), z_is 369 9 (zf_cv 9 207 2 8 12), z_is 369 12 (zf_if1 .ne 12 17 15)] = true := by decide +kernel
  refine z_aload hB rfl (fun hB => ?_)
  refine z_aload hB rfl (fun hB => ?_)
  refine y_geti ok hB (by decide +kernel) (fun hB => ?_)
  refine z_iload hB rfl (fun hB => ?_)
  obtain ⟨q1, e2, h⟩ := z_bind h
  refine z_callS hB (as := [.int (x1)]) (rest := [.int ((I 241 6)), .ref (241)]) rfl rfl rfl (t_M_isSlot (I := I) ok e2) (fun hB => ?_)
  obtain ⟨q3, e4, h⟩ := z_bind h
  refine y_cv ok hB (as := [.int ((I 241 6)), .int (q1)]) (a := 241) (rest := []) rfl rfl rfl (by decide +kernel) (t_M_mayTwo (I := I) ok e4) (fun hB => ?_)
  refine z_if_ne hB (fun hc _ => ?_) (fun hc _ => ?_)
  · have h := z_neg hc h
    have hB : z_all [z_is 369 17 (zf_aload 17 0 18), z_is 369 18 (zf_getr 18 8 1 21), z_is 369 21 (zf_cst 21 (jn 0) 22), z_is 369 22 (zf_aload 22 0 23), z_is 369 23 (zf_getr 23 8 4 26), z_is 369 26 (zf_iload 26 1 27), z_is 369 27 (zf_cst 27 (jn 173) 30), z_is 369 30 (zf_imul 30 31), z_is 369 31 (zf_cs 31 209 4 34), z_is 369 34 (zf_aload 34 0 35), z_is 369 35 (zf_getr 35 8 5 38), z_is 369 38 (zf_iload 38 1 39), z_is 369 39 (zf_cst 39 (jn 1) 40), z_is 369 40 (zf_zast 40 41), z_is 369 41 (zf_aload 41 0 42), z_is 369 42 (zf_getr 42 8 1 45), z_is 369 45 (zf_cst 45 (jn 0) 46), z_is 369 46 (zf_iald 46 47), z_is 369 47 (zf_ret 0)] = true := by decide +kernel
    refine z_aload hB rfl (fun hB => ?_)
    refine y_getr (b := 242) ok hB (by decide +kernel) (by decide +kernel) (fun hB => ?_)
    refine z_cst hB (fun hB => ?_)
    refine z_aload hB rfl (fun hB => ?_)
    refine y_getr (b := 245) ok hB (by decide +kernel) (by decide +kernel) (fun hB => ?_)
    refine z_iload hB rfl (fun hB => ?_)
    refine z_cst hB (fun hB => ?_)
    refine z_imul hB (fun hB => ?_)
    obtain ⟨q5, e6, h⟩ := z_bind h
    refine z_callS hB (as := [.ref (242), .int ((jn 0)), .ref (245), .int ((x1 * (jn 173)))]) (rest := []) rfl rfl rfl (t_M_lays (I := q3.2) ok (by decide +kernel) (by decide +kernel) e6) (fun hB => ?_)
    refine z_aload hB rfl (fun hB => ?_)
    refine y_getr (b := 246) ok hB (by decide +kernel) (by decide +kernel) (fun hB => ?_)
    refine z_iload hB rfl (fun hB => ?_)
    refine z_cst hB (fun hB => ?_)
    obtain ⟨g7, h⟩ := z_gd h
    refine y_zast ok hB (by decide +kernel) (by decide +kernel) g7 (fun hB => ?_)
    refine z_aload hB rfl (fun hB => ?_)
    refine y_getr (b := 242) ok hB (by decide +kernel) (by decide +kernel) (fun hB => ?_)
    refine z_cst hB (fun hB => ?_)
    obtain ⟨g8, h⟩ := z_gd h
    refine y_iald ok hB (by decide +kernel) (by decide +kernel) g8 (fun hB => ?_)
    cases h
    exact z_reti hB
  · have h := z_pos hc h
    have hB : z_all [z_is 369 15 (zf_cst 15 (jn 0) 16), z_is 369 16 (zf_ret 0)] = true := by decide +kernel
    refine z_cst hB (fun hB => ?_)
    cases h
    exact z_reti hB
def d_M_restore (x1 : Int32) (I : z_H) : Option (Int32 × z_H) := ((d_M_isSlot (x1)).bind fun q1 => (Option.bind (α := Int32) (if q1 = jn 0 then some ((jn 0)) else (if z_in (x1) 2 then (if (I 246 (z_n (x1))) = jn 0 then some ((jn 0)) else some ((jn 1))) else none)) fun q3 => ((d_M_mayTwo (q1) (q3) I).bind fun q6 => (if q6.1 = jn 0 then some (((jn 0), q6.2)) else ((d_M_lays (245) ((x1 * (jn 173))) (242) ((jn 0)) q6.2).bind fun q8 => (if z_in ((jn 0)) 173 then some ((((ev_u2 q8 241 7 (jn 0)) 242 (z_n ((jn 0)))), (ev_u2 q8 241 7 (jn 0)))) else none))))))
/-- FlagLaundryModel.restore(I)I -/
theorem t_M_restore {G : z_G} {w : ev_W} (ok : z_Ok G w) {x1 : Int32} {I : z_H} {r : Int32 × z_H} (h : d_M_restore x1 I = some r) : z_K G 370 [.ref (241), .int (x1)] (z_w w I) (.inl (some (.int r.1))) (z_w w r.2) := by
  refine z_con ok.1 (ml := 3) (by decide +kernel) rfl rfl ?_
  show z_R G 370 0 [some (.ref (241)), some (.int (x1)), none] [] (z_w w I) (.inl (some (.int r.1))) (z_w w r.2)
  unfold d_M_restore at h
  have hB : z_all [z_is 370 0 (zf_iload 0 1 1), z_is 370 1 (zf_cs 1 368 1 4), z_is 370 4 (zf_istore 4 2 5), z_is 370 5 (zf_aload 5 0 6), z_is 370 6 (zf_iload 6 2 7), z_is 370 7 (zf_iload 7 2 8), z_is 370 8 (zf_if1 .eq 8 24 11)] = true := by decide +kernel
  refine z_iload hB rfl (fun hB => ?_)
  obtain ⟨q1, e2, h⟩ := z_bind h
  refine z_callS hB (as := [.int (x1)]) (rest := []) rfl rfl rfl (t_M_isSlot (I := I) ok e2) (fun hB => ?_)
  refine z_istore hB rfl rfl (fun hB => ?_)
  refine z_aload hB rfl (fun hB => ?_)
  refine z_iload hB rfl (fun hB => ?_)
  refine z_iload hB rfl (fun hB => ?_)
  obtain ⟨q3, e4, h⟩ := z_bind h
  have k5 : z_R G 370 25 [some (.ref (241)), some (.int (x1)), none] [.int (q3), .int (q1), .ref (241)] (z_w w I) (.inl (some (.int r.1))) (z_w w r.2) := by
    have hB : z_all [z_is 370 25 (zf_cv 25 207 2 8 28), z_is 370 28 (zf_if1 .ne 28 33 31)] = true := by decide +kernel
    obtain ⟨q6, e7, h⟩ := z_bind h
    refine y_cv ok hB (as := [.int (q1), .int (q3)]) (a := 241) (rest := []) rfl rfl rfl (by decide +kernel) (t_M_mayTwo (I := I) ok e7) (fun hB => ?_)
    refine z_if_ne hB (fun hc _ => ?_) (fun hc _ => ?_)
    · have h := z_neg hc h
      have hB : z_all [z_is 370 33 (zf_aload 33 0 34), z_is 370 34 (zf_getr 34 8 4 37), z_is 370 37 (zf_iload 37 1 38), z_is 370 38 (zf_cst 38 (jn 173) 41), z_is 370 41 (zf_imul 41 42), z_is 370 42 (zf_aload 42 0 43), z_is 370 43 (zf_getr 43 8 1 46), z_is 370 46 (zf_cst 46 (jn 0) 47), z_is 370 47 (zf_cs 47 209 4 50), z_is 370 50 (zf_aload 50 0 51), z_is 370 51 (zf_cst 51 (jn 0) 52), z_is 370 52 (zf_puti 52 8 7 55), z_is 370 55 (zf_aload 55 0 56), z_is 370 56 (zf_getr 56 8 1 59), z_is 370 59 (zf_cst 59 (jn 0) 60), z_is 370 60 (zf_iald 60 61), z_is 370 61 (zf_ret 0)] = true := by decide +kernel
      refine z_aload hB rfl (fun hB => ?_)
      refine y_getr (b := 245) ok hB (by decide +kernel) (by decide +kernel) (fun hB => ?_)
      refine z_iload hB rfl (fun hB => ?_)
      refine z_cst hB (fun hB => ?_)
      refine z_imul hB (fun hB => ?_)
      refine z_aload hB rfl (fun hB => ?_)
      refine y_getr (b := 242) ok hB (by decide +kernel) (by decide +kernel) (fun hB => ?_)
      refine z_cst hB (fun hB => ?_)
      obtain ⟨q8, e9, h⟩ := z_bind h
      refine z_callS hB (as := [.ref (245), .int ((x1 * (jn 173))), .ref (242), .int ((jn 0))]) (rest := []) rfl rfl rfl (t_M_lays (I := q6.2) ok (by decide +kernel) (by decide +kernel) e9) (fun hB => ?_)
      refine z_aload hB rfl (fun hB => ?_)
      refine z_cst hB (fun hB => ?_)
      refine y_puti ok hB (by decide +kernel) (fun hB => ?_)
      refine z_aload hB rfl (fun hB => ?_)
      refine y_getr (b := 242) ok hB (by decide +kernel) (by decide +kernel) (fun hB => ?_)
      refine z_cst hB (fun hB => ?_)
      obtain ⟨g10, h⟩ := z_gd h
      refine y_iald ok hB (by decide +kernel) (by decide +kernel) g10 (fun hB => ?_)
      cases h
      exact z_reti hB
    · have h := z_pos hc h
      have hB : z_all [z_is 370 31 (zf_cst 31 (jn 0) 32), z_is 370 32 (zf_ret 0)] = true := by decide +kernel
      refine z_cst hB (fun hB => ?_)
      cases h
      exact z_reti hB
  have h := e4
  refine z_if_eq hB (fun hc _ => ?_) (fun hc _ => ?_)
  · have h := z_pos hc h
    have hB : z_all [z_is 370 24 (zf_cst 24 (jn 0) 25)] = true := by decide +kernel
    refine z_cst hB (fun hB => ?_)
    cases h
    exact z_weak k5 (z_se (z_se (z_sn z_s0)))
  · have h := z_neg hc h
    have hB : z_all [z_is 370 11 (zf_aload 11 0 12), z_is 370 12 (zf_getr 12 8 5 15), z_is 370 15 (zf_iload 15 1 16), z_is 370 16 (zf_bald 16 17), z_is 370 17 (zf_if1 .eq 17 24 20)] = true := by decide +kernel
    refine z_aload hB rfl (fun hB => ?_)
    refine y_getr (b := 246) ok hB (by decide +kernel) (by decide +kernel) (fun hB => ?_)
    refine z_iload hB rfl (fun hB => ?_)
    obtain ⟨g11, h⟩ := z_gd h
    refine y_zald ok hB (by decide +kernel) (by decide +kernel) g11 (fun hB => ?_)
    refine z_if_eq hB (fun hc _ => ?_) (fun hc _ => ?_)
    · have h := z_pos hc h
      have hB : z_all [z_is 370 24 (zf_cst 24 (jn 0) 25)] = true := by decide +kernel
      refine z_cst hB (fun hB => ?_)
      cases h
      exact z_weak k5 (z_se (z_se (z_sn z_s0)))
    · have h := z_neg hc h
      have hB : z_all [z_is 370 20 (zf_cst 20 (jn 1) 21), z_is 370 21 (zf_goto 21 25)] = true := by decide +kernel
      refine z_cst hB (fun hB => ?_)
      refine z_goto hB (fun hB => ?_)
      cases h
      exact z_weak k5 (z_se (z_se (z_sn z_s0)))
