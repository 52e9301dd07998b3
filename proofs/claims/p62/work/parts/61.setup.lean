/-! texts of the methods, and that the bytecode does what they say: by wip/gen/zd.py -/
def d_U_clear (s : Nat) (I : z_H) : Option (z_H) := some ((ev_u2 (ev_u2 (ev_u2 (ev_u2 I s 0 (jn 0)) s 1 (jn 0)) s 2 (jn 0)) s 3 (jn 0)))
/-- Setup.clear()V -/
theorem t_U_clear {G : z_G} {w : ev_W} (ok : z_Ok G w) {s : Nat} (hs : zt 4 s = true) {I : z_H} {r : z_H} (h : d_U_clear s I = some r) : z_K G 87 [.ref (s)] (z_w w I) (.inl none) (z_w w r) := by
  refine z_con ok.1 (ml := 1) (by decide +kernel) rfl rfl ?_
  show z_R G 87 0 [some (.ref (s))] [] (z_w w I) (.inl none) (z_w w r)
  unfold d_U_clear at h
  have hB : z_all [z_is 87 0 (zf_aload 0 0 1), z_is 87 1 (zf_cst 1 (jn 0) 2), z_is 87 2 (zf_puti 2 4 0 5), z_is 87 5 (zf_aload 5 0 6), z_is 87 6 (zf_cst 6 (jn 0) 7), z_is 87 7 (zf_puti 7 4 1 10), z_is 87 10 (zf_aload 10 0 11), z_is 87 11 (zf_cst 11 (jn 0) 12), z_is 87 12 (zf_puti 12 4 2 15), z_is 87 15 (zf_aload 15 0 16), z_is 87 16 (zf_cst 16 (jn 0) 17), z_is 87 17 (zf_puti 17 4 3 20), z_is 87 20 (zf_ret 6)] = true := by decide +kernel
  refine z_aload hB rfl (fun hB => ?_)
  refine z_cst hB (fun hB => ?_)
  refine y_puti ok hB hs (fun hB => ?_)
  refine z_aload hB rfl (fun hB => ?_)
  refine z_cst hB (fun hB => ?_)
  refine y_puti ok hB hs (fun hB => ?_)
  refine z_aload hB rfl (fun hB => ?_)
  refine z_cst hB (fun hB => ?_)
  refine y_puti ok hB hs (fun hB => ?_)
  refine z_aload hB rfl (fun hB => ?_)
  refine z_cst hB (fun hB => ?_)
  refine y_puti ok hB hs (fun hB => ?_)
  cases h
  exact z_retv hB
def d_U_runningWith_2 (s : Nat) (x1 : Int32) (I : z_H) (p1 : Int32 × Int32) : Option ((Int32 × Int32) ⊕ (Int32 × Int32)) := (if p1.2 < (I s 1) then (if z_in (p1.2) 6 then (Option.bind (α := Int32) (if x1 < (I (s + 1) (z_n (p1.2))) then some (p1.1) else some ((p1.1 ||| ((jn 1) <<< (p1.2 &&& 31))))) fun q7 => some (Sum.inl (q7, (p1.2 + (jn 1))))) else none) else some (Sum.inr (p1.1, p1.2)))
def d_U_runningWith (s : Nat) (x1 : Int32) (I : z_H) : Option (Int32) := ((z_it (d_U_runningWith_2 s x1 I) z_F ((jn 0), (jn 0))).bind fun q3 => some (q3.1))
/-- Setup.runningWith(I)I -/
theorem t_U_runningWith {G : z_G} {w : ev_W} (ok : z_Ok G w) {s : Nat} {x1 : Int32} (hs : zt 4 s = true) {I : z_H} {r : Int32} (h : d_U_runningWith s x1 I = some r) : z_K G 92 [.ref (s), .int (x1)] (z_w w I) (.inl (some (.int r))) (z_w w I) := by
  refine z_con ok.1 (ml := 4) (by decide +kernel) rfl rfl ?_
  show z_R G 92 0 [some (.ref (s)), some (.int (x1)), none, none] [] (z_w w I) (.inl (some (.int r))) (z_w w I)
  unfold d_U_runningWith at h
  have hB : z_all [z_is 92 0 (zf_cst 0 (jn 0) 1), z_is 92 1 (zf_istore 1 2 2), z_is 92 2 (zf_cst 2 (jn 0) 3), z_is 92 3 (zf_istore 3 3 4)] = true := by decide +kernel
  refine z_cst hB (fun hB => ?_)
  refine z_istore hB rfl rfl (fun hB => ?_)
  refine z_cst hB (fun hB => ?_)
  refine z_istore hB rfl rfl (fun hB => ?_)
  obtain ⟨q3, e4, h⟩ := z_bind h
  have k5 : z_R G 92 34 [none, none, some (.int (q3.1)), none] [] (z_w w I) (.inl (some (.int r))) (z_w w I) := by
    have hB : z_all [z_is 92 34 (zf_iload 34 2 35), z_is 92 35 (zf_ret 0)] = true := by decide +kernel
    refine z_iload hB rfl (fun hB => ?_)
    cases h
    exact z_reti hB
  have l2 : ∀ (m2 : Nat) (p1 : Int32 × Int32), z_it (d_U_runningWith_2 s x1 I) m2 p1 = some q3 → z_R G 92 4 [some (.ref (s)), some (.int (x1)), some (.int (p1.1)), some (.int (p1.2))] [] (z_w w I) (.inl (some (.int r))) (z_w w I) := by
    intro m2
    induction m2 with
    | zero => intro p1 h; cases h
    | succ m2 i2 =>
      intro p1 h
      obtain ⟨u2, h, b2⟩ := z_it_o h
      unfold d_U_runningWith_2 at h
      have hB : z_all [z_is 92 4 (zf_iload 4 3 5), z_is 92 5 (zf_aload 5 0 6), z_is 92 6 (zf_geti 6 4 1 9), z_is 92 9 (zf_if2 .ge 9 34 12)] = true := by decide +kernel
      refine z_iload hB rfl (fun hB => ?_)
      refine z_aload hB rfl (fun hB => ?_)
      refine y_geti ok hB hs (fun hB => ?_)
      refine z_ic_ge hB (fun hc _ => ?_) (fun hc _ => ?_)
      · have h := z_neg hc h
        cases h
        cases b2
        exact z_weak k5 (z_sn (z_sn (z_se (z_sn z_s0))))
      · have h := z_pos hc h
        have hB : z_all [z_is 92 12 (zf_aload 12 0 13), z_is 92 13 (zf_getr 13 4 4 16), z_is 92 16 (zf_iload 16 3 17), z_is 92 17 (zf_iald 17 18), z_is 92 18 (zf_iload 18 1 19), z_is 92 19 (zf_if2 .gt 19 28 22)] = true := by decide +kernel
        refine z_aload hB rfl (fun hB => ?_)
        refine y_getr (b := (s + 1)) ok hB hs (zsu_r4 hs) (fun hB => ?_)
        refine z_iload hB rfl (fun hB => ?_)
        obtain ⟨g6, h⟩ := z_gd h
        refine y_iald ok hB (zsu_k4 hs) (zsu_l4 hs) g6 (fun hB => ?_)
        refine z_iload hB rfl (fun hB => ?_)
        obtain ⟨q7, e8, h⟩ := z_bind h
        have k9 : z_R G 92 28 [some (.ref (s)), some (.int (x1)), some (.int (q7)), some (.int (p1.2))] [] (z_w w I) (.inl (some (.int r))) (z_w w I) := by
          have hB : z_all [z_is 92 28 (zf_iinc 28 3 (jn 1) 31), z_is 92 31 (zf_goto 31 4)] = true := by decide +kernel
          refine z_iinc hB rfl rfl (fun hB => ?_)
          refine z_goto hB (fun hB => ?_)
          cases h
          exact z_weak (i2 (q7, (p1.2 + (jn 1))) b2) (z_se (z_se (z_se (z_se z_s0))))
        have h := e8
        refine z_ic_gt hB (fun hc _ => ?_) (fun hc _ => ?_)
        · have h := z_pos hc h
          cases h
          exact z_weak k9 (z_se (z_se (z_se (z_se z_s0))))
        · have h := z_neg hc h
          have hB : z_all [z_is 92 22 (zf_iload 22 2 23), z_is 92 23 (zf_cst 23 (jn 1) 24), z_is 92 24 (zf_iload 24 3 25), z_is 92 25 (zf_ishl 25 26), z_is 92 26 (zf_ior 26 27), z_is 92 27 (zf_istore 27 2 28)] = true := by decide +kernel
          refine z_iload hB rfl (fun hB => ?_)
          refine z_cst hB (fun hB => ?_)
          refine z_iload hB rfl (fun hB => ?_)
          refine z_ishl hB (fun hB => ?_)
          refine z_ior hB (fun hB => ?_)
          refine z_istore hB rfl rfl (fun hB => ?_)
          cases h
          exact z_weak k9 (z_se (z_se (z_se (z_se z_s0))))
  exact z_weak (l2 _ ((jn 0), (jn 0)) e4) (z_se (z_se (z_se (z_se z_s0))))
def d_U_bringColour (s : Nat) (x1 : Int32) (I : z_H) : Option (z_H) := (if z_in ((I s 1)) 6 then some ((ev_u2 (ev_u2 I (s + 1) (z_n ((I s 1))) x1) s 1 (((ev_u2 I (s + 1) (z_n ((I s 1))) x1) s 1) + (jn 1)))) else none)
/-- Setup.bringColour(I)V -/
theorem t_U_bringColour {G : z_G} {w : ev_W} (ok : z_Ok G w) {s : Nat} {x1 : Int32} (hs : zt 4 s = true) {I : z_H} {r : z_H} (h : d_U_bringColour s x1 I = some r) : z_K G 88 [.ref (s), .int (x1)] (z_w w I) (.inl none) (z_w w r) := by
  refine z_con ok.1 (ml := 2) (by decide +kernel) rfl rfl ?_
  show z_R G 88 0 [some (.ref (s)), some (.int (x1))] [] (z_w w I) (.inl none) (z_w w r)
  unfold d_U_bringColour at h
  have hB : z_all [z_is 88 0 (zf_aload 0 0 1), z_is 88 1 (zf_getr 1 4 4 4), z_is 88 4 (zf_aload 4 0 5), z_is 88 5 (zf_geti 5 4 1 8), z_is 88 8 (zf_iload 8 1 9), z_is 88 9 (zf_iast 9 10), z_is 88 10 (zf_aload 10 0 11), z_is 88 11 (zf_dupr 11 12), z_is 88 12 (zf_geti 12 4 1 15), z_is 88 15 (zf_cst 15 (jn 1) 16), z_is 88 16 (zf_iadd 16 17), z_is 88 17 (zf_puti 17 4 1 20), z_is 88 20 (zf_ret 6)] = true := by decide +kernel
  refine z_aload hB rfl (fun hB => ?_)
  refine y_getr (b := (s + 1)) ok hB hs (zsu_r4 hs) (fun hB => ?_)
  refine z_aload hB rfl (fun hB => ?_)
  refine y_geti ok hB hs (fun hB => ?_)
  refine z_iload hB rfl (fun hB => ?_)
  obtain ⟨g1, h⟩ := z_gd h
  refine y_iast ok hB (zsu_k4 hs) (zsu_l4 hs) g1 (fun hB => ?_)
  refine z_aload hB rfl (fun hB => ?_)
  refine z_dupr hB (fun hB => ?_)
  refine y_geti ok hB hs (fun hB => ?_)
  refine z_cst hB (fun hB => ?_)
  refine z_iadd hB (fun hB => ?_)
  refine y_puti ok hB hs (fun hB => ?_)
  cases h
  exact z_retv hB
def d_U_bringNation (s : Nat) (x1 : Int32) (x2 : Int32) (x3 : Int32) (I : z_H) : Option (z_H) := (if z_in ((I s 2)) 4 then (if z_in (((ev_u2 I (s + 2) (z_n ((I s 2))) x1) s 2)) 4 then (if z_in (((ev_u2 (ev_u2 I (s + 2) (z_n ((I s 2))) x1) (s + 3) (z_n (((ev_u2 I (s + 2) (z_n ((I s 2))) x1) s 2))) x2) s 2)) 4 then (Option.bind (α := z_H) (some (ev_u2 (ev_u2 (ev_u2 I (s + 2) (z_n ((I s 2))) x1) (s + 3) (z_n (((ev_u2 I (s + 2) (z_n ((I s 2))) x1) s 2))) x2) (s + 4) (z_n (((ev_u2 (ev_u2 I (s + 2) (z_n ((I s 2))) x1) (s + 3) (z_n (((ev_u2 I (s + 2) (z_n ((I s 2))) x1) s 2))) x2) s 2))) x3)) fun J4 => some ((ev_u2 J4 s 2 ((J4 s 2) + (jn 1))))) else none) else none) else none)
/-- Setup.bringNation(III)V -/
theorem t_U_bringNation {G : z_G} {w : ev_W} (ok : z_Ok G w) {s : Nat} {x1 : Int32} {x2 : Int32} {x3 : Int32} (hs : zt 4 s = true) {I : z_H} {r : z_H} (h : d_U_bringNation s x1 x2 x3 I = some r) : z_K G 89 [.ref (s), .int (x1), .int (x2), .int (x3)] (z_w w I) (.inl none) (z_w w r) := by
  refine z_con ok.1 (ml := 4) (by decide +kernel) rfl rfl ?_
  show z_R G 89 0 [some (.ref (s)), some (.int (x1)), some (.int (x2)), some (.int (x3))] [] (z_w w I) (.inl none) (z_w w r)
  unfold d_U_bringNation at h
  have hB : z_all [z_is 89 0 (zf_aload 0 0 1), z_is 89 1 (zf_getr 1 4 5 4), z_is 89 4 (zf_aload 4 0 5), z_is 89 5 (zf_geti 5 4 2 8), z_is 89 8 (zf_iload 8 1 9), z_is 89 9 (zf_iast 9 10), z_is 89 10 (zf_aload 10 0 11), z_is 89 11 (zf_getr 11 4 6 14), z_is 89 14 (zf_aload 14 0 15), z_is 89 15 (zf_geti 15 4 2 18), z_is 89 18 (zf_iload 18 2 19), z_is 89 19 (zf_iast 19 20), z_is 89 20 (zf_aload 20 0 21), z_is 89 21 (zf_getr 21 4 7 24), z_is 89 24 (zf_aload 24 0 25), z_is 89 25 (zf_geti 25 4 2 28), z_is 89 28 (zf_iload 28 3 29), z_is 89 29 (zf_iast 29 30), z_is 89 30 (zf_aload 30 0 31), z_is 89 31 (zf_dupr 31 32), z_is 89 32 (zf_geti 32 4 2 35), z_is 89 35 (zf_cst 35 (jn 1) 36), z_is 89 36 (zf_iadd 36 37), z_is 89 37 (zf_puti 37 4 2 40), z_is 89 40 (zf_ret 6)] = true := by decide +kernel
  refine z_aload hB rfl (fun hB => ?_)
  refine y_getr (b := (s + 2)) ok hB hs (zsu_r5 hs) (fun hB => ?_)
  refine z_aload hB rfl (fun hB => ?_)
  refine y_geti ok hB hs (fun hB => ?_)
  refine z_iload hB rfl (fun hB => ?_)
  obtain ⟨g1, h⟩ := z_gd h
  refine y_iast ok hB (zsu_k5 hs) (zsu_l5 hs) g1 (fun hB => ?_)
  refine z_aload hB rfl (fun hB => ?_)
  refine y_getr (b := (s + 3)) ok hB hs (zsu_r6 hs) (fun hB => ?_)
  refine z_aload hB rfl (fun hB => ?_)
  refine y_geti ok hB hs (fun hB => ?_)
  refine z_iload hB rfl (fun hB => ?_)
  obtain ⟨g2, h⟩ := z_gd h
  refine y_iast ok hB (zsu_k6 hs) (zsu_l6 hs) g2 (fun hB => ?_)
  refine z_aload hB rfl (fun hB => ?_)
  refine y_getr (b := (s + 4)) ok hB hs (zsu_r7 hs) (fun hB => ?_)
  refine z_aload hB rfl (fun hB => ?_)
  refine y_geti ok hB hs (fun hB => ?_)
  refine z_iload hB rfl (fun hB => ?_)
  obtain ⟨g3, h⟩ := z_gd h
  refine y_iast ok hB (zsu_k7 hs) (zsu_l7 hs) g3 (fun hB => ?_)
  obtain ⟨J4, e5, h⟩ := z_bind h
  rw [z_inj e5]
  refine z_aload hB rfl (fun hB => ?_)
  refine z_dupr hB (fun hB => ?_)
  refine y_geti ok hB hs (fun hB => ?_)
  refine z_cst hB (fun hB => ?_)
  refine z_iadd hB (fun hB => ?_)
  refine y_puti ok hB hs (fun hB => ?_)
  cases h
  exact z_retv hB
def d_U_bringTub (s : Nat) (x1 : Int32) (I : z_H) : Option (z_H) := (if z_in ((I s 3)) 3 then some ((ev_u2 (ev_u2 I (s + 5) (z_n ((I s 3))) x1) s 3 (((ev_u2 I (s + 5) (z_n ((I s 3))) x1) s 3) + (jn 1)))) else none)
/-- Setup.bringTub(I)V -/
theorem t_U_bringTub {G : z_G} {w : ev_W} (ok : z_Ok G w) {s : Nat} {x1 : Int32} (hs : zt 4 s = true) {I : z_H} {r : z_H} (h : d_U_bringTub s x1 I = some r) : z_K G 90 [.ref (s), .int (x1)] (z_w w I) (.inl none) (z_w w r) := by
  refine z_con ok.1 (ml := 2) (by decide +kernel) rfl rfl ?_
  show z_R G 90 0 [some (.ref (s)), some (.int (x1))] [] (z_w w I) (.inl none) (z_w w r)
  unfold d_U_bringTub at h
  have hB : z_all [z_is 90 0 (zf_aload 0 0 1), z_is 90 1 (zf_getr 1 4 8 4), z_is 90 4 (zf_aload 4 0 5), z_is 90 5 (zf_geti 5 4 3 8), z_is 90 8 (zf_iload 8 1 9), z_is 90 9 (zf_iast 9 10), z_is 90 10 (zf_aload 10 0 11), z_is 90 11 (zf_dupr 11 12), z_is 90 12 (zf_geti 12 4 3 15), z_is 90 15 (zf_cst 15 (jn 1) 16), z_is 90 16 (zf_iadd 16 17), z_is 90 17 (zf_puti 17 4 3 20), z_is 90 20 (zf_ret 6)] = true := by decide +kernel
  refine z_aload hB rfl (fun hB => ?_)
  refine y_getr (b := (s + 5)) ok hB hs (zsu_r8 hs) (fun hB => ?_)
  refine z_aload hB rfl (fun hB => ?_)
  refine y_geti ok hB hs (fun hB => ?_)
  refine z_iload hB rfl (fun hB => ?_)
  obtain ⟨g1, h⟩ := z_gd h
  refine y_iast ok hB (zsu_k8 hs) (zsu_l8 hs) g1 (fun hB => ?_)
  refine z_aload hB rfl (fun hB => ?_)
  refine z_dupr hB (fun hB => ?_)
  refine y_geti ok hB hs (fun hB => ?_)
  refine z_cst hB (fun hB => ?_)
  refine z_iadd hB (fun hB => ?_)
  refine y_puti ok hB hs (fun hB => ?_)
  cases h
  exact z_retv hB
def d_U_allColours (s : Nat) (I : z_H) : Option (Int32) := some ((((jn 1) <<< ((I s 1) &&& 31)) - (jn 1)))
/-- Setup.allColours()I -/
theorem t_U_allColours {G : z_G} {w : ev_W} (ok : z_Ok G w) {s : Nat} (hs : zt 4 s = true) {I : z_H} {r : Int32} (h : d_U_allColours s I = some r) : z_K G 91 [.ref (s)] (z_w w I) (.inl (some (.int r))) (z_w w I) := by
  refine z_con ok.1 (ml := 1) (by decide +kernel) rfl rfl ?_
  show z_R G 91 0 [some (.ref (s))] [] (z_w w I) (.inl (some (.int r))) (z_w w I)
  unfold d_U_allColours at h
  have hB : z_all [z_is 91 0 (zf_cst 0 (jn 1) 1), z_is 91 1 (zf_aload 1 0 2), z_is 91 2 (zf_geti 2 4 1 5), z_is 91 5 (zf_ishl 5 6), z_is 91 6 (zf_cst 6 (jn 1) 7), z_is 91 7 (zf_isub 7 8), z_is 91 8 (zf_ret 0)] = true := by decide +kernel
  refine z_cst hB (fun hB => ?_)
  refine z_aload hB rfl (fun hB => ?_)
  refine y_geti ok hB hs (fun hB => ?_)
  refine z_ishl hB (fun hB => ?_)
  refine z_cst hB (fun hB => ?_)
  refine z_isub hB (fun hB => ?_)
  cases h
  exact z_reti hB
