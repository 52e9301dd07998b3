/-! texts of the methods, and that the bytecode does what they say: by wip/gen/zd.py -/
def d_H_forgetChanges  (I : z_H) : Option (z_H) := some ((ev_u2 (ev_u2 I 55 0 (jn 0)) 55 2 (jn 0)))
/-- History.forgetChanges()V -/
theorem t_H_forgetChanges {G : z_G} {w : ev_W} (ok : z_Ok G w) {I : z_H} {r : z_H} (h : d_H_forgetChanges I = some r) : z_K G 22 [.ref (55)] (z_w w I) (.inl none) (z_w w r) := by
  refine z_con ok.1 (ml := 1) (by decide +kernel) rfl rfl ?_
  show z_R G 22 0 [some (.ref (55))] [] (z_w w I) (.inl none) (z_w w r)
  unfold d_H_forgetChanges at h
  have hB : z_all [z_is 22 0 (zf_aload 0 0 1), z_is 22 1 (zf_cst 1 (jn 0) 2), z_is 22 2 (zf_puti 2 1 0 5), z_is 22 5 (zf_aload 5 0 6), z_is 22 6 (zf_cst 6 (jn 0) 7), z_is 22 7 (zf_puti 7 1 2 10), z_is 22 10 (zf_ret 6)] = true := by decide +kernel
  refine z_aload hB rfl (fun hB => ?_)
  refine z_cst hB (fun hB => ?_)
  refine y_puti ok hB (by decide +kernel) (fun hB => ?_)
  refine z_aload hB rfl (fun hB => ?_)
  refine z_cst hB (fun hB => ?_)
  refine y_puti ok hB (by decide +kernel) (fun hB => ?_)
  cases h
  exact z_retv hB
def d_H_forgetAll_4  (p3 : Int32 × z_H) : Option ((Int32 × z_H) ⊕ (Int32 × z_H)) := (if p3.1 < (jn 2) then (if z_in (p3.1) 2 then some (Sum.inl ((p3.1 + (jn 1)), (ev_u2 p3.2 238 (z_n (p3.1)) (vp_nar .boolean ((jn 0)))))) else none) else some (Sum.inr (p3.1, p3.2)))
def d_H_forgetAll  (I : z_H) : Option (z_H) := ((d_H_forgetChanges I).bind fun q1 => ((z_it (d_H_forgetAll_4) z_F ((jn 0), q1)).bind fun q5 => some (q5.2)))
/-- History.forgetAll()V -/
theorem t_H_forgetAll {G : z_G} {w : ev_W} (ok : z_Ok G w) {I : z_H} {r : z_H} (h : d_H_forgetAll I = some r) : z_K G 23 [.ref (55)] (z_w w I) (.inl none) (z_w w r) := by
  refine z_con ok.1 (ml := 2) (by decide +kernel) rfl rfl ?_
  show z_R G 23 0 [some (.ref (55)), none] [] (z_w w I) (.inl none) (z_w w r)
  unfold d_H_forgetAll at h
  have hB : z_all [z_is 23 0 (zf_aload 0 0 1), z_is 23 1 (zf_cv 1 22 0 1 4), z_is 23 4 (zf_cst 4 (jn 0) 5), z_is 23 5 (zf_istore 5 1 6)] = true := by decide +kernel
  refine z_aload hB rfl (fun hB => ?_)
  obtain ⟨q1, e2, h⟩ := z_bind h
  refine y_cv ok hB (as := []) (a := 55) (rest := []) rfl rfl rfl (by decide +kernel) (t_H_forgetChanges (I := I) ok e2) (fun hB => ?_)
  refine z_cst hB (fun hB => ?_)
  refine z_istore hB rfl rfl (fun hB => ?_)
  obtain ⟨q5, e6, h⟩ := z_bind h
  have k7 : z_R G 23 24 [none, none] [] (z_w w q5.2) (.inl none) (z_w w r) := by
    have hB : z_all [z_is 23 24 (zf_ret 6)] = true := by decide +kernel
    cases h
    exact z_retv hB
  have l4 : ∀ (m4 : Nat) (p3 : Int32 × z_H), z_it (d_H_forgetAll_4) m4 p3 = some q5 → z_R G 23 6 [some (.ref (55)), some (.int (p3.1))] [] (z_w w p3.2) (.inl none) (z_w w r) := by
    intro m4
    induction m4 with
    | zero => intro p3 h; cases h
    | succ m4 i4 =>
      intro p3 h
      obtain ⟨u4, h, b4⟩ := z_it_o h
      unfold d_H_forgetAll_4 at h
      have hB : z_all [z_is 23 6 (zf_iload 6 1 7), z_is 23 7 (zf_cst 7 (jn 2) 8), z_is 23 8 (zf_if2 .ge 8 24 11)] = true := by decide +kernel
      refine z_iload hB rfl (fun hB => ?_)
      refine z_cst hB (fun hB => ?_)
      refine z_ic_ge hB (fun hc _ => ?_) (fun hc _ => ?_)
      · have h := z_neg hc h
        cases h
        cases b4
        exact z_weak k7 (z_sn (z_sn z_s0))
      · have h := z_pos hc h
        have hB : z_all [z_is 23 11 (zf_aload 11 0 12), z_is 23 12 (zf_getr 12 1 1 15), z_is 23 15 (zf_iload 15 1 16), z_is 23 16 (zf_cst 16 (jn 0) 17), z_is 23 17 (zf_zast 17 18), z_is 23 18 (zf_iinc 18 1 (jn 1) 21), z_is 23 21 (zf_goto 21 6)] = true := by decide +kernel
        refine z_aload hB rfl (fun hB => ?_)
        refine y_getr (b := 238) ok hB (by decide +kernel) (by decide +kernel) (fun hB => ?_)
        refine z_iload hB rfl (fun hB => ?_)
        refine z_cst hB (fun hB => ?_)
        obtain ⟨g8, h⟩ := z_gd h
        refine y_zast ok hB (by decide +kernel) (by decide +kernel) g8 (fun hB => ?_)
        refine z_iinc hB rfl rfl (fun hB => ?_)
        refine z_goto hB (fun hB => ?_)
        cases h
        exact z_weak (i4 ((p3.1 + (jn 1)), (ev_u2 p3.2 238 (z_n (p3.1)) (vp_nar .boolean ((jn 0))))) b4) (z_se (z_se z_s0))
  exact z_weak (l4 _ ((jn 0), q1) e6) (z_se (z_se z_s0))
def d_H_keep (r1 : Nat) (I : z_H) : Option (z_H) := (if z_in ((((I 55 2) + (I 55 0)) - ((I 55 2) + (I 55 0)) / (jn 8) * (jn 8))) 8 then ((d_S_become (57 + 18 * z_n ((((I 55 2) + (I 55 0)) - ((I 55 2) + (I 55 0)) / (jn 8) * (jn 8)))) (r1) I).bind fun q2 => (Option.bind (α := z_H) (if (q2 55 0) < (jn 8) then some ((ev_u2 q2 55 0 ((q2 55 0) + (jn 1)))) else some ((ev_u2 q2 55 2 (((q2 55 2) + (jn 1)) - ((q2 55 2) + (jn 1)) / (jn 8) * (jn 8))))) fun q4 => some (q4))) else none)
/-- History.keep(LFlagLaundry$State;)V -/
theorem t_H_keep {G : z_G} {w : ev_W} (ok : z_Ok G w) {r1 : Nat} (hr1 : zt 5 r1 = true) {I : z_H} {r : z_H} (h : d_H_keep r1 I = some r) : z_K G 24 [.ref (55), .ref (r1)] (z_w w I) (.inl none) (z_w w r) := by
  refine z_con ok.1 (ml := 2) (by decide +kernel) rfl rfl ?_
  show z_R G 24 0 [some (.ref (55)), some (.ref (r1))] [] (z_w w I) (.inl none) (z_w w r)
  unfold d_H_keep at h
  have hB : z_all [z_is 24 0 (zf_aload 0 0 1), z_is 24 1 (zf_getr 1 1 3 4), z_is 24 4 (zf_aload 4 0 5), z_is 24 5 (zf_geti 5 1 2 8), z_is 24 8 (zf_aload 8 0 9), z_is 24 9 (zf_geti 9 1 0 12), z_is 24 12 (zf_iadd 12 13), z_is 24 13 (zf_cst 13 (jn 8) 15), z_is 24 15 (zf_irem 15 16), z_is 24 16 (zf_aald 16 17), z_is 24 17 (zf_aload 17 1 18), z_is 24 18 (zf_cv 18 95 1 5 21), z_is 24 21 (zf_aload 21 0 22), z_is 24 22 (zf_geti 22 1 0 25), z_is 24 25 (zf_cst 25 (jn 8) 27), z_is 24 27 (zf_if2 .ge 27 43 30)] = true := by decide +kernel
  refine z_aload hB rfl (fun hB => ?_)
  refine y_getr (b := 56) ok hB (by decide +kernel) (by decide +kernel) (fun hB => ?_)
  refine z_aload hB rfl (fun hB => ?_)
  refine y_geti ok hB (by decide +kernel) (fun hB => ?_)
  refine z_aload hB rfl (fun hB => ?_)
  refine y_geti ok hB (by decide +kernel) (fun hB => ?_)
  refine z_iadd hB (fun hB => ?_)
  refine z_cst hB (fun hB => ?_)
  refine z_irem hB (by decide) (fun hB => ?_)
  obtain ⟨g1, h⟩ := z_gd h
  refine y_sald ok hB (by decide +kernel) (by decide +kernel) g1 (zhb_R g1) (fun hB => ?_)
  refine z_aload hB rfl (fun hB => ?_)
  obtain ⟨q2, e3, h⟩ := z_bind h
  refine y_cv ok hB (as := [.ref (r1)]) (a := (57 + 18 * z_n ((((I 55 2) + (I 55 0)) - ((I 55 2) + (I 55 0)) / (jn 8) * (jn 8))))) (rest := []) rfl rfl rfl (zhb_K g1) (t_S_become (I := I) ok (zhb_K g1) hr1 e3) (fun hB => ?_)
  refine z_aload hB rfl (fun hB => ?_)
  refine y_geti ok hB (by decide +kernel) (fun hB => ?_)
  refine z_cst hB (fun hB => ?_)
  obtain ⟨q4, e5, h⟩ := z_bind h
  have k6 : z_R G 24 56 [none, none] [] (z_w w q4) (.inl none) (z_w w r) := by
    have hB : z_all [z_is 24 56 (zf_ret 6)] = true := by decide +kernel
    cases h
    exact z_retv hB
  have h := e5
  refine z_ic_ge hB (fun hc _ => ?_) (fun hc _ => ?_)
  · have h := z_neg hc h
    have hB : z_all [z_is 24 43 (zf_aload 43 0 44), z_is 24 44 (zf_aload 44 0 45), z_is 24 45 (zf_geti 45 1 2 48), z_is 24 48 (zf_cst 48 (jn 1) 49), z_is 24 49 (zf_iadd 49 50), z_is 24 50 (zf_cst 50 (jn 8) 52), z_is 24 52 (zf_irem 52 53), z_is 24 53 (zf_puti 53 1 2 56)] = true := by decide +kernel
    refine z_aload hB rfl (fun hB => ?_)
    refine z_aload hB rfl (fun hB => ?_)
    refine y_geti ok hB (by decide +kernel) (fun hB => ?_)
    refine z_cst hB (fun hB => ?_)
    refine z_iadd hB (fun hB => ?_)
    refine z_cst hB (fun hB => ?_)
    refine z_irem hB (by decide) (fun hB => ?_)
    refine y_puti ok hB (by decide +kernel) (fun hB => ?_)
    cases h
    exact z_weak k6 (z_sn (z_sn z_s0))
  · have h := z_pos hc h
    have hB : z_all [z_is 24 30 (zf_aload 30 0 31), z_is 24 31 (zf_dupr 31 32), z_is 24 32 (zf_geti 32 1 0 35), z_is 24 35 (zf_cst 35 (jn 1) 36), z_is 24 36 (zf_iadd 36 37), z_is 24 37 (zf_puti 37 1 0 40), z_is 24 40 (zf_goto 40 56)] = true := by decide +kernel
    refine z_aload hB rfl (fun hB => ?_)
    refine z_dupr hB (fun hB => ?_)
    refine y_geti ok hB (by decide +kernel) (fun hB => ?_)
    refine z_cst hB (fun hB => ?_)
    refine z_iadd hB (fun hB => ?_)
    refine y_puti ok hB (by decide +kernel) (fun hB => ?_)
    refine z_goto hB (fun hB => ?_)
    cases h
    exact z_weak k6 (z_sn (z_sn z_s0))
def d_H_takeBack (r1 : Nat) (I : z_H) : Option (z_H) := (Option.bind (α := z_H) (if jn 0 < (I 55 0) then (if z_in (((((ev_u2 I 55 0 ((I 55 0) - (jn 1))) 55 2) + ((ev_u2 I 55 0 ((I 55 0) - (jn 1))) 55 0)) - (((ev_u2 I 55 0 ((I 55 0) - (jn 1))) 55 2) + ((ev_u2 I 55 0 ((I 55 0) - (jn 1))) 55 0)) / (jn 8) * (jn 8))) 8 then ((d_S_become r1 ((57 + 18 * z_n (((((ev_u2 I 55 0 ((I 55 0) - (jn 1))) 55 2) + ((ev_u2 I 55 0 ((I 55 0) - (jn 1))) 55 0)) - (((ev_u2 I 55 0 ((I 55 0) - (jn 1))) 55 2) + ((ev_u2 I 55 0 ((I 55 0) - (jn 1))) 55 0)) / (jn 8) * (jn 8))))) (ev_u2 I 55 0 ((I 55 0) - (jn 1)))).bind fun q5 => some (q5)) else none) else some (I)) fun q1 => some (q1))
/-- History.takeBack(LFlagLaundry$State;)V -/
theorem t_H_takeBack {G : z_G} {w : ev_W} (ok : z_Ok G w) {r1 : Nat} (hr1 : zt 5 r1 = true) {I : z_H} {r : z_H} (h : d_H_takeBack r1 I = some r) : z_K G 25 [.ref (55), .ref (r1)] (z_w w I) (.inl none) (z_w w r) := by
  refine z_con ok.1 (ml := 2) (by decide +kernel) rfl rfl ?_
  show z_R G 25 0 [some (.ref (55)), some (.ref (r1))] [] (z_w w I) (.inl none) (z_w w r)
  unfold d_H_takeBack at h
  have hB : z_all [z_is 25 0 (zf_aload 0 0 1), z_is 25 1 (zf_geti 1 1 0 4), z_is 25 4 (zf_if1 .le 4 38 7)] = true := by decide +kernel
  refine z_aload hB rfl (fun hB => ?_)
  refine y_geti ok hB (by decide +kernel) (fun hB => ?_)
  obtain ⟨q1, e2, h⟩ := z_bind h
  have k3 : z_R G 25 38 [none, none] [] (z_w w q1) (.inl none) (z_w w r) := by
    have hB : z_all [z_is 25 38 (zf_ret 6)] = true := by decide +kernel
    cases h
    exact z_retv hB
  have h := e2
  refine z_if_le hB (fun hc _ => ?_) (fun hc _ => ?_)
  · have h := z_neg hc h
    cases h
    exact z_weak k3 (z_sn (z_sn z_s0))
  · have h := z_pos hc h
    have hB : z_all [z_is 25 7 (zf_aload 7 0 8), z_is 25 8 (zf_dupr 8 9), z_is 25 9 (zf_geti 9 1 0 12), z_is 25 12 (zf_cst 12 (jn 1) 13), z_is 25 13 (zf_isub 13 14), z_is 25 14 (zf_puti 14 1 0 17), z_is 25 17 (zf_aload 17 1 18), z_is 25 18 (zf_aload 18 0 19), z_is 25 19 (zf_getr 19 1 3 22), z_is 25 22 (zf_aload 22 0 23), z_is 25 23 (zf_geti 23 1 2 26), z_is 25 26 (zf_aload 26 0 27), z_is 25 27 (zf_geti 27 1 0 30), z_is 25 30 (zf_iadd 30 31), z_is 25 31 (zf_cst 31 (jn 8) 33), z_is 25 33 (zf_irem 33 34), z_is 25 34 (zf_aald 34 35), z_is 25 35 (zf_cv 35 95 1 5 38)] = true := by decide +kernel
    refine z_aload hB rfl (fun hB => ?_)
    refine z_dupr hB (fun hB => ?_)
    refine y_geti ok hB (by decide +kernel) (fun hB => ?_)
    refine z_cst hB (fun hB => ?_)
    refine z_isub hB (fun hB => ?_)
    refine y_puti ok hB (by decide +kernel) (fun hB => ?_)
    refine z_aload hB rfl (fun hB => ?_)
    refine z_aload hB rfl (fun hB => ?_)
    refine y_getr (b := 56) ok hB (by decide +kernel) (by decide +kernel) (fun hB => ?_)
    refine z_aload hB rfl (fun hB => ?_)
    refine y_geti ok hB (by decide +kernel) (fun hB => ?_)
    refine z_aload hB rfl (fun hB => ?_)
    refine y_geti ok hB (by decide +kernel) (fun hB => ?_)
    refine z_iadd hB (fun hB => ?_)
    refine z_cst hB (fun hB => ?_)
    refine z_irem hB (by decide) (fun hB => ?_)
    obtain ⟨g4, h⟩ := z_gd h
    refine y_sald ok hB (by decide +kernel) (by decide +kernel) g4 (zhb_R g4) (fun hB => ?_)
    obtain ⟨q5, e6, h⟩ := z_bind h
    refine y_cv ok hB (as := [.ref ((57 + 18 * z_n (((((ev_u2 I 55 0 ((I 55 0) - (jn 1))) 55 2) + ((ev_u2 I 55 0 ((I 55 0) - (jn 1))) 55 0)) - (((ev_u2 I 55 0 ((I 55 0) - (jn 1))) 55 2) + ((ev_u2 I 55 0 ((I 55 0) - (jn 1))) 55 0)) / (jn 8) * (jn 8)))))]) (a := r1) (rest := []) rfl rfl rfl hr1 (t_S_become (I := (ev_u2 I 55 0 ((I 55 0) - (jn 1)))) ok hr1 (zhb_K g4) e6) (fun hB => ?_)
    cases h
    exact z_weak k3 (z_sn (z_sn z_s0))
def d_H_saveIn (x1 : Int32) (r2 : Nat) (I : z_H) : Option (z_H) := (if z_in (x1) 2 then ((d_S_become (202 + 18 * z_n (x1)) (r2) I).bind fun q2 => (if z_in (x1) 2 then some ((ev_u2 q2 238 (z_n (x1)) (vp_nar .boolean ((jn 1))))) else none)) else none)
/-- History.saveIn(ILFlagLaundry$State;)V -/
theorem t_H_saveIn {G : z_G} {w : ev_W} (ok : z_Ok G w) {x1 : Int32} {r2 : Nat} (hr2 : zt 5 r2 = true) {I : z_H} {r : z_H} (h : d_H_saveIn x1 r2 I = some r) : z_K G 26 [.ref (55), .int (x1), .ref (r2)] (z_w w I) (.inl none) (z_w w r) := by
  refine z_con ok.1 (ml := 3) (by decide +kernel) rfl rfl ?_
  show z_R G 26 0 [some (.ref (55)), some (.int (x1)), some (.ref (r2))] [] (z_w w I) (.inl none) (z_w w r)
  unfold d_H_saveIn at h
  have hB : z_all [z_is 26 0 (zf_aload 0 0 1), z_is 26 1 (zf_getr 1 1 4 4), z_is 26 4 (zf_iload 4 1 5), z_is 26 5 (zf_aald 5 6), z_is 26 6 (zf_aload 6 2 7), z_is 26 7 (zf_cv 7 95 1 5 10), z_is 26 10 (zf_aload 10 0 11), z_is 26 11 (zf_getr 11 1 1 14), z_is 26 14 (zf_iload 14 1 15), z_is 26 15 (zf_cst 15 (jn 1) 16), z_is 26 16 (zf_zast 16 17), z_is 26 17 (zf_ret 6)] = true := by decide +kernel
  refine z_aload hB rfl (fun hB => ?_)
  refine y_getr (b := 201) ok hB (by decide +kernel) (by decide +kernel) (fun hB => ?_)
  refine z_iload hB rfl (fun hB => ?_)
  obtain ⟨g1, h⟩ := z_gd h
  refine y_sald ok hB (by decide +kernel) (by decide +kernel) g1 (zhs_R g1) (fun hB => ?_)
  refine z_aload hB rfl (fun hB => ?_)
  obtain ⟨q2, e3, h⟩ := z_bind h
  refine y_cv ok hB (as := [.ref (r2)]) (a := (202 + 18 * z_n (x1))) (rest := []) rfl rfl rfl (zhs_K g1) (t_S_become (I := I) ok (zhs_K g1) hr2 e3) (fun hB => ?_)
  refine z_aload hB rfl (fun hB => ?_)
  refine y_getr (b := 238) ok hB (by decide +kernel) (by decide +kernel) (fun hB => ?_)
  refine z_iload hB rfl (fun hB => ?_)
  refine z_cst hB (fun hB => ?_)
  obtain ⟨g4, h⟩ := z_gd h
  refine y_zast ok hB (by decide +kernel) (by decide +kernel) g4 (fun hB => ?_)
  cases h
  exact z_retv hB
def d_H_fetchFrom (x1 : Int32) (r2 : Nat) (I : z_H) : Option (z_H) := (if z_in (x1) 2 then ((d_S_become r2 ((202 + 18 * z_n (x1))) I).bind fun q2 => ((d_H_forgetChanges q2).bind fun q4 => some (q4))) else none)
/-- History.fetchFrom(ILFlagLaundry$State;)V -/
theorem t_H_fetchFrom {G : z_G} {w : ev_W} (ok : z_Ok G w) {x1 : Int32} {r2 : Nat} (hr2 : zt 5 r2 = true) {I : z_H} {r : z_H} (h : d_H_fetchFrom x1 r2 I = some r) : z_K G 27 [.ref (55), .int (x1), .ref (r2)] (z_w w I) (.inl none) (z_w w r) := by
  refine z_con ok.1 (ml := 3) (by decide +kernel) rfl rfl ?_
  show z_R G 27 0 [some (.ref (55)), some (.int (x1)), some (.ref (r2))] [] (z_w w I) (.inl none) (z_w w r)
  unfold d_H_fetchFrom at h
  have hB : z_all [z_is 27 0 (zf_aload 0 2 1), z_is 27 1 (zf_aload 1 0 2), z_is 27 2 (zf_getr 2 1 4 5), z_is 27 5 (zf_iload 5 1 6), z_is 27 6 (zf_aald 6 7), z_is 27 7 (zf_cv 7 95 1 5 10), z_is 27 10 (zf_aload 10 0 11), z_is 27 11 (zf_cv 11 22 0 1 14), z_is 27 14 (zf_ret 6)] = true := by decide +kernel
  refine z_aload hB rfl (fun hB => ?_)
  refine z_aload hB rfl (fun hB => ?_)
  refine y_getr (b := 201) ok hB (by decide +kernel) (by decide +kernel) (fun hB => ?_)
  refine z_iload hB rfl (fun hB => ?_)
  obtain ⟨g1, h⟩ := z_gd h
  refine y_sald ok hB (by decide +kernel) (by decide +kernel) g1 (zhs_R g1) (fun hB => ?_)
  obtain ⟨q2, e3, h⟩ := z_bind h
  refine y_cv ok hB (as := [.ref ((202 + 18 * z_n (x1)))]) (a := r2) (rest := []) rfl rfl rfl hr2 (t_S_become (I := I) ok hr2 (zhs_K g1) e3) (fun hB => ?_)
  refine z_aload hB rfl (fun hB => ?_)
  obtain ⟨q4, e5, h⟩ := z_bind h
  refine y_cv ok hB (as := []) (a := 55) (rest := []) rfl rfl rfl (by decide +kernel) (t_H_forgetChanges (I := q2) ok e5) (fun hB => ?_)
  cases h
  exact z_retv hB
