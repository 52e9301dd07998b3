/-! texts of the methods, and that the bytecode does what they say: by wip/gen/zd.py -/
def d_S_become_6 (s : Nat) (r1 : Nat) (p5 : Int32 × z_H) : Option ((Int32 × z_H) ⊕ (Int32 × z_H)) := (if p5.1 < (jn 12) then (if z_in (p5.1) 12 then (if z_in (p5.1) 12 then ((d_G_become (s + 2 + z_n (p5.1)) ((r1 + 2 + z_n (p5.1))) p5.2).bind fun q12 => some (Sum.inl ((p5.1 + (jn 1)), q12))) else none) else none) else some (Sum.inr (p5.1, p5.2)))
def d_S_become (s : Nat) (r1 : Nat) (I : z_H) : Option (z_H) := (Option.bind (α := z_H) (some (ev_u2 (ev_u2 (ev_u2 I s 0 (I r1 0)) s 1 ((ev_u2 I s 0 (I r1 0)) r1 1)) s 2 ((ev_u2 (ev_u2 I s 0 (I r1 0)) s 1 ((ev_u2 I s 0 (I r1 0)) r1 1)) r1 2))) fun J1 => (Option.bind (α := z_H) (some (ev_u2 (ev_u2 (ev_u2 J1 s 3 (J1 r1 3)) s 4 ((ev_u2 J1 s 3 (J1 r1 3)) r1 4)) s 5 ((ev_u2 (ev_u2 J1 s 3 (J1 r1 3)) s 4 ((ev_u2 J1 s 3 (J1 r1 3)) r1 4)) r1 5))) fun J3 => ((z_it (d_S_become_6 s r1) z_F ((jn 0), (ev_u2 J3 s 6 (J3 r1 6)))).bind fun q7 => some ((z_cpI (z_cpI (z_cpI (z_cpI q7.2 (r1 + 14) (s + 14) 3) (r1 + 15) (s + 15) 18) (r1 + 16) (s + 16) 8) (r1 + 17) (s + 17) 4)))))
/-- State.become(LFlagLaundry$State;)V -/
theorem t_S_become {G : z_G} {w : ev_W} (ok : z_Ok G w) {s : Nat} {r1 : Nat} (hs : zt 5 s = true) (hr1 : zt 5 r1 = true) {I : z_H} {r : z_H} (h : d_S_become s r1 I = some r) : z_K G 95 [.ref (s), .ref (r1)] (z_w w I) (.inl none) (z_w w r) := by
  refine z_con ok.1 (ml := 3) (by decide +kernel) rfl rfl ?_
  show z_R G 95 0 [some (.ref (s)), some (.ref (r1)), none] [] (z_w w I) (.inl none) (z_w w r)
  unfold d_S_become at h
  have hB : z_all [z_is 95 0 (zf_aload 0 0 1), z_is 95 1 (zf_aload 1 1 2), z_is 95 2 (zf_geti 2 5 0 5), z_is 95 5 (zf_puti 5 5 0 8), z_is 95 8 (zf_aload 8 0 9), z_is 95 9 (zf_aload 9 1 10), z_is 95 10 (zf_geti 10 5 1 13), z_is 95 13 (zf_puti 13 5 1 16), z_is 95 16 (zf_aload 16 0 17), z_is 95 17 (zf_aload 17 1 18), z_is 95 18 (zf_geti 18 5 2 21), z_is 95 21 (zf_puti 21 5 2 24), z_is 95 24 (zf_aload 24 0 25), z_is 95 25 (zf_aload 25 1 26), z_is 95 26 (zf_geti 26 5 3 29), z_is 95 29 (zf_puti 29 5 3 32), z_is 95 32 (zf_aload 32 0 33), z_is 95 33 (zf_aload 33 1 34), z_is 95 34 (zf_geti 34 5 4 37), z_is 95 37 (zf_puti 37 5 4 40), z_is 95 40 (zf_aload 40 0 41), z_is 95 41 (zf_aload 41 1 42), z_is 95 42 (zf_geti 42 5 5 45), z_is 95 45 (zf_puti 45 5 5 48), z_is 95 48 (zf_aload 48 0 49), z_is 95 49 (zf_aload 49 1 50), z_is 95 50 (zf_geti 50 5 6 53), z_is 95 53 (zf_puti 53 5 6 56), z_is 95 56 (zf_cst 56 (jn 0) 57), z_is 95 57 (zf_istore 57 2 58)] = true := by decide +kernel
  refine z_aload hB rfl (fun hB => ?_)
  refine z_aload hB rfl (fun hB => ?_)
  refine y_geti ok hB hr1 (fun hB => ?_)
  refine y_puti ok hB hs (fun hB => ?_)
  refine z_aload hB rfl (fun hB => ?_)
  refine z_aload hB rfl (fun hB => ?_)
  refine y_geti ok hB hr1 (fun hB => ?_)
  refine y_puti ok hB hs (fun hB => ?_)
  refine z_aload hB rfl (fun hB => ?_)
  refine z_aload hB rfl (fun hB => ?_)
  refine y_geti ok hB hr1 (fun hB => ?_)
  refine y_puti ok hB hs (fun hB => ?_)
  obtain ⟨J1, e2, h⟩ := z_bind h
  rw [z_inj e2]
  refine z_aload hB rfl (fun hB => ?_)
  refine z_aload hB rfl (fun hB => ?_)
  refine y_geti ok hB hr1 (fun hB => ?_)
  refine y_puti ok hB hs (fun hB => ?_)
  refine z_aload hB rfl (fun hB => ?_)
  refine z_aload hB rfl (fun hB => ?_)
  refine y_geti ok hB hr1 (fun hB => ?_)
  refine y_puti ok hB hs (fun hB => ?_)
  refine z_aload hB rfl (fun hB => ?_)
  refine z_aload hB rfl (fun hB => ?_)
  refine y_geti ok hB hr1 (fun hB => ?_)
  refine y_puti ok hB hs (fun hB => ?_)
  obtain ⟨J3, e4, h⟩ := z_bind h
  rw [z_inj e4]
  refine z_aload hB rfl (fun hB => ?_)
  refine z_aload hB rfl (fun hB => ?_)
  refine y_geti ok hB hr1 (fun hB => ?_)
  refine y_puti ok hB hs (fun hB => ?_)
  refine z_cst hB (fun hB => ?_)
  refine z_istore hB rfl rfl (fun hB => ?_)
  obtain ⟨q7, e8, h⟩ := z_bind h
  have k9 : z_R G 95 85 [some (.ref (s)), some (.ref (r1)), none] [] (z_w w q7.2) (.inl none) (z_w w r) := by
    have hB : z_all [z_is 95 85 (zf_aload 85 1 86), z_is 95 86 (zf_getr 86 5 8 89), z_is 95 89 (zf_cst 89 (jn 0) 90), z_is 95 90 (zf_aload 90 0 91), z_is 95 91 (zf_getr 91 5 8 94), z_is 95 94 (zf_cst 94 (jn 0) 95), z_is 95 95 (zf_cst 95 (jn 3) 96), z_at 95 96 (zf_acp 96 99), z_is 95 99 (zf_aload 99 1 100), z_is 95 100 (zf_getr 100 5 9 103), z_is 95 103 (zf_cst 103 (jn 0) 104), z_is 95 104 (zf_aload 104 0 105), z_is 95 105 (zf_getr 105 5 9 108), z_is 95 108 (zf_cst 108 (jn 0) 109), z_is 95 109 (zf_cst 109 (jn 18) 111), z_at 95 111 (zf_acp 111 114), z_is 95 114 (zf_aload 114 1 115), z_is 95 115 (zf_getr 115 5 10 118), z_is 95 118 (zf_cst 118 (jn 0) 119), z_is 95 119 (zf_aload 119 0 120), z_is 95 120 (zf_getr 120 5 10 123), z_is 95 123 (zf_cst 123 (jn 0) 124), z_is 95 124 (zf_cst 124 (jn 8) 126), z_at 95 126 (zf_acp 126 129), z_is 95 129 (zf_aload 129 1 130), z_is 95 130 (zf_getr 130 5 11 133), z_is 95 133 (zf_cst 133 (jn 0) 134), z_is 95 134 (zf_aload 134 0 135), z_is 95 135 (zf_getr 135 5 11 138), z_is 95 138 (zf_cst 138 (jn 0) 139), z_is 95 139 (zf_cst 139 (jn 4) 140), z_at 95 140 (zf_acp 140 143), z_is 95 143 (zf_ret 6)] = true := by decide +kernel
    refine z_aload hB rfl (fun hB => ?_)
    refine y_getr (b := (r1 + 14)) ok hB hr1 (zst_r8 hr1) (fun hB => ?_)
    refine z_cst hB (fun hB => ?_)
    refine z_aload hB rfl (fun hB => ?_)
    refine y_getr (b := (s + 14)) ok hB hs (zst_r8 hs) (fun hB => ?_)
    refine z_cst hB (fun hB => ?_)
    refine z_cst hB (fun hB => ?_)
    refine y_acp (m := 3) ok hB (zst_k14 hr1) (zst_k14 hs) (zst_l14 hr1) (zst_l14 hs) (by decide) (by decide) rfl rfl rfl (fun hB => ?_)
    refine z_aload hB rfl (fun hB => ?_)
    refine y_getr (b := (r1 + 15)) ok hB hr1 (zst_r9 hr1) (fun hB => ?_)
    refine z_cst hB (fun hB => ?_)
    refine z_aload hB rfl (fun hB => ?_)
    refine y_getr (b := (s + 15)) ok hB hs (zst_r9 hs) (fun hB => ?_)
    refine z_cst hB (fun hB => ?_)
    refine z_cst hB (fun hB => ?_)
    refine y_acp (m := 18) ok hB (zst_k15 hr1) (zst_k15 hs) (zst_l15 hr1) (zst_l15 hs) (by decide) (by decide) rfl rfl rfl (fun hB => ?_)
    refine z_aload hB rfl (fun hB => ?_)
    refine y_getr (b := (r1 + 16)) ok hB hr1 (zst_r10 hr1) (fun hB => ?_)
    refine z_cst hB (fun hB => ?_)
    refine z_aload hB rfl (fun hB => ?_)
    refine y_getr (b := (s + 16)) ok hB hs (zst_r10 hs) (fun hB => ?_)
    refine z_cst hB (fun hB => ?_)
    refine z_cst hB (fun hB => ?_)
    refine y_acp (m := 8) ok hB (zst_k16 hr1) (zst_k16 hs) (zst_l16 hr1) (zst_l16 hs) (by decide) (by decide) rfl rfl rfl (fun hB => ?_)
    refine z_aload hB rfl (fun hB => ?_)
    refine y_getr (b := (r1 + 17)) ok hB hr1 (zst_r11 hr1) (fun hB => ?_)
    refine z_cst hB (fun hB => ?_)
    refine z_aload hB rfl (fun hB => ?_)
    refine y_getr (b := (s + 17)) ok hB hs (zst_r11 hs) (fun hB => ?_)
    refine z_cst hB (fun hB => ?_)
    refine z_cst hB (fun hB => ?_)
    refine y_acp (m := 4) ok hB (zst_k17 hr1) (zst_k17 hs) (zst_l17 hr1) (zst_l17 hs) (by decide) (by decide) rfl rfl rfl (fun hB => ?_)
    cases h
    exact z_retv hB
  have l6 : ∀ (m6 : Nat) (p5 : Int32 × z_H), z_it (d_S_become_6 s r1) m6 p5 = some q7 → z_R G 95 58 [some (.ref (s)), some (.ref (r1)), some (.int (p5.1))] [] (z_w w p5.2) (.inl none) (z_w w r) := by
    intro m6
    induction m6 with
    | zero => intro p5 h; cases h
    | succ m6 i6 =>
      intro p5 h
      obtain ⟨u6, h, b6⟩ := z_it_o h
      unfold d_S_become_6 at h
      have hB : z_all [z_is 95 58 (zf_iload 58 2 59), z_is 95 59 (zf_cst 59 (jn 12) 61), z_is 95 61 (zf_if2 .ge 61 85 64)] = true := by decide +kernel
      refine z_iload hB rfl (fun hB => ?_)
      refine z_cst hB (fun hB => ?_)
      refine z_ic_ge hB (fun hc _ => ?_) (fun hc _ => ?_)
      · have h := z_neg hc h
        cases h
        cases b6
        exact z_weak k9 (z_se (z_se (z_sn z_s0)))
      · have h := z_pos hc h
        have hB : z_all [z_is 95 64 (zf_aload 64 0 65), z_is 95 65 (zf_getr 65 5 7 68), z_is 95 68 (zf_iload 68 2 69), z_is 95 69 (zf_aald 69 70), z_is 95 70 (zf_aload 70 1 71), z_is 95 71 (zf_getr 71 5 7 74), z_is 95 74 (zf_iload 74 2 75), z_is 95 75 (zf_aald 75 76), z_is 95 76 (zf_cv 76 2 1 0 79), z_is 95 79 (zf_iinc 79 2 (jn 1) 82), z_is 95 82 (zf_goto 82 58)] = true := by decide +kernel
        refine z_aload hB rfl (fun hB => ?_)
        refine y_getr (b := (s + 1)) ok hB hs (zst_r7 hs) (fun hB => ?_)
        refine z_iload hB rfl (fun hB => ?_)
        obtain ⟨g10, h⟩ := z_gd h
        refine y_fald ok hB (zst_k1 hs) (zst_l1 hs) g10 (zst_fR hs g10) (fun hB => ?_)
        refine z_aload hB rfl (fun hB => ?_)
        refine y_getr (b := (r1 + 1)) ok hB hr1 (zst_r7 hr1) (fun hB => ?_)
        refine z_iload hB rfl (fun hB => ?_)
        obtain ⟨g11, h⟩ := z_gd h
        refine y_fald ok hB (zst_k1 hr1) (zst_l1 hr1) g11 (zst_fR hr1 g11) (fun hB => ?_)
        obtain ⟨q12, e13, h⟩ := z_bind h
        refine y_cv ok hB (as := [.ref ((r1 + 2 + z_n (p5.1)))]) (a := (s + 2 + z_n (p5.1))) (rest := []) rfl rfl rfl (zst_fK hs g10) (t_G_become (I := p5.2) ok (zst_fK hs g10) (zst_fK hr1 g11) e13) (fun hB => ?_)
        refine z_iinc hB rfl rfl (fun hB => ?_)
        refine z_goto hB (fun hB => ?_)
        cases h
        exact z_weak (i6 ((p5.1 + (jn 1)), q12) b6) (z_se (z_se (z_se z_s0)))
  exact z_weak (l6 _ ((jn 0), (ev_u2 J3 s 6 (J3 r1 6))) e8) (z_se (z_se (z_se z_s0)))
def d_S_clear (s : Nat) (I : z_H) : Option (z_H) := (Option.bind (α := z_H) (some (ev_u2 (ev_u2 (ev_u2 (ev_u2 (ev_u2 (ev_u2 (ev_u2 I s 0 (jn 0)) s 1 (jn 0)) s 2 (jn 0)) s 3 (jn 0)) s 4 (jn 0)) s 5 (jn 0)) s 6 (jn 0))) fun J1 => ((d_A_fill ((s + 14)) ((jn 0)) J1).bind fun q3 => ((d_A_fill ((s + 15)) ((jg 1)) q3).bind fun q5 => ((d_A_fill ((s + 16)) ((jg 1)) q5).bind fun q7 => ((d_A_fill ((s + 17)) ((jg 1)) q7).bind fun q9 => some (q9))))))
/-- State.clear()V -/
theorem t_S_clear {G : z_G} {w : ev_W} (ok : z_Ok G w) {s : Nat} (hs : zt 5 s = true) {I : z_H} {r : z_H} (h : d_S_clear s I = some r) : z_K G 94 [.ref (s)] (z_w w I) (.inl none) (z_w w r) := by
  refine z_con ok.1 (ml := 1) (by decide +kernel) rfl rfl ?_
  show z_R G 94 0 [some (.ref (s))] [] (z_w w I) (.inl none) (z_w w r)
  unfold d_S_clear at h
  have hB : z_all [z_is 94 0 (zf_aload 0 0 1), z_is 94 1 (zf_cst 1 (jn 0) 2), z_is 94 2 (zf_puti 2 5 0 5), z_is 94 5 (zf_aload 5 0 6), z_is 94 6 (zf_cst 6 (jn 0) 7), z_is 94 7 (zf_puti 7 5 1 10), z_is 94 10 (zf_aload 10 0 11), z_is 94 11 (zf_cst 11 (jn 0) 12), z_is 94 12 (zf_puti 12 5 2 15), z_is 94 15 (zf_aload 15 0 16), z_is 94 16 (zf_cst 16 (jn 0) 17), z_is 94 17 (zf_puti 17 5 3 20), z_is 94 20 (zf_aload 20 0 21), z_is 94 21 (zf_cst 21 (jn 0) 22), z_is 94 22 (zf_puti 22 5 4 25), z_is 94 25 (zf_aload 25 0 26), z_is 94 26 (zf_cst 26 (jn 0) 27), z_is 94 27 (zf_puti 27 5 5 30), z_is 94 30 (zf_aload 30 0 31), z_is 94 31 (zf_cst 31 (jn 0) 32), z_is 94 32 (zf_puti 32 5 6 35), z_is 94 35 (zf_aload 35 0 36), z_is 94 36 (zf_getr 36 5 8 39), z_is 94 39 (zf_cst 39 (jn 0) 40), z_is 94 40 (zf_cs 40 371 2 43), z_is 94 43 (zf_aload 43 0 44), z_is 94 44 (zf_getr 44 5 9 47), z_is 94 47 (zf_cst 47 (jg 1) 48), z_is 94 48 (zf_cs 48 371 2 51), z_is 94 51 (zf_aload 51 0 52), z_is 94 52 (zf_getr 52 5 10 55), z_is 94 55 (zf_cst 55 (jg 1) 56), z_is 94 56 (zf_cs 56 371 2 59), z_is 94 59 (zf_aload 59 0 60), z_is 94 60 (zf_getr 60 5 11 63), z_is 94 63 (zf_cst 63 (jg 1) 64), z_is 94 64 (zf_cs 64 371 2 67), z_is 94 67 (zf_ret 6)] = true := by decide +kernel
  refine z_aload hB rfl (fun hB => ?_)
  refine z_cst hB (fun hB => ?_)
  refine y_puti ok hB hs (fun hB => ?_)
  refine z_aload hB rfl (fun hB => ?_)
  refine z_cst hB (fun hB => ?_)
  refine y_puti ok hB hs (fun hB => ?_)
  refine z_aload hB rfl (fun hB => ?_)
  refine z_cst hB (fun hB => ?_)
  refine y_puti ok hB hs (fun hB => ?_)
  refine z_aload hB rfl (fun hB => ?_)
  refine z_cst hB (fun hB => ?_)
  refine y_puti ok hB hs (fun hB => ?_)
  refine z_aload hB rfl (fun hB => ?_)
  refine z_cst hB (fun hB => ?_)
  refine y_puti ok hB hs (fun hB => ?_)
  refine z_aload hB rfl (fun hB => ?_)
  refine z_cst hB (fun hB => ?_)
  refine y_puti ok hB hs (fun hB => ?_)
  refine z_aload hB rfl (fun hB => ?_)
  refine z_cst hB (fun hB => ?_)
  refine y_puti ok hB hs (fun hB => ?_)
  obtain ⟨J1, e2, h⟩ := z_bind h
  rw [z_inj e2]
  refine z_aload hB rfl (fun hB => ?_)
  refine y_getr (b := (s + 14)) ok hB hs (zst_r8 hs) (fun hB => ?_)
  refine z_cst hB (fun hB => ?_)
  obtain ⟨q3, e4, h⟩ := z_bind h
  refine z_callS hB (as := [.ref ((s + 14)), .int ((jn 0))]) (rest := []) rfl rfl rfl (t_A_fill (I := J1) ok (zst_k14 hs) e4) (fun hB => ?_)
  refine z_aload hB rfl (fun hB => ?_)
  refine y_getr (b := (s + 15)) ok hB hs (zst_r9 hs) (fun hB => ?_)
  refine z_cst hB (fun hB => ?_)
  obtain ⟨q5, e6, h⟩ := z_bind h
  refine z_callS hB (as := [.ref ((s + 15)), .int ((jg 1))]) (rest := []) rfl rfl rfl (t_A_fill (I := q3) ok (zst_k15 hs) e6) (fun hB => ?_)
  refine z_aload hB rfl (fun hB => ?_)
  refine y_getr (b := (s + 16)) ok hB hs (zst_r10 hs) (fun hB => ?_)
  refine z_cst hB (fun hB => ?_)
  obtain ⟨q7, e8, h⟩ := z_bind h
  refine z_callS hB (as := [.ref ((s + 16)), .int ((jg 1))]) (rest := []) rfl rfl rfl (t_A_fill (I := q5) ok (zst_k16 hs) e8) (fun hB => ?_)
  refine z_aload hB rfl (fun hB => ?_)
  refine y_getr (b := (s + 17)) ok hB hs (zst_r11 hs) (fun hB => ?_)
  refine z_cst hB (fun hB => ?_)
  obtain ⟨q9, e10, h⟩ := z_bind h
  refine z_callS hB (as := [.ref ((s + 17)), .int ((jg 1))]) (rest := []) rfl rfl rfl (t_A_fill (I := q7) ok (zst_k17 hs) e10) (fun hB => ?_)
  cases h
  exact z_retv hB
def d_S_flagObjectInTub (s : Nat) (x1 : Int32) (x2 : Int32) (I : z_H) : Option (Nat) := (if z_in (((x1 * (jn 6)) + x2)) 18 then (if z_in ((I (s + 15) (z_n (((x1 * (jn 6)) + x2))))) 12 then some ((s + 2 + z_n ((I (s + 15) (z_n (((x1 * (jn 6)) + x2))))))) else none) else none)
/-- State.flagObjectInTub(II)LFlagLaundry$Flag; -/
theorem t_S_flagObjectInTub {G : z_G} {w : ev_W} (ok : z_Ok G w) {s : Nat} {x1 : Int32} {x2 : Int32} (hs : zt 5 s = true) {I : z_H} {r : Nat} (h : d_S_flagObjectInTub s x1 x2 I = some r) : z_K G 98 [.ref (s), .int (x1), .int (x2)] (z_w w I) (.inl (some (.ref r))) (z_w w I) := by
  refine z_con ok.1 (ml := 3) (by decide +kernel) rfl rfl ?_
  show z_R G 98 0 [some (.ref (s)), some (.int (x1)), some (.int (x2))] [] (z_w w I) (.inl (some (.ref r))) (z_w w I)
  unfold d_S_flagObjectInTub at h
  have hB : z_all [z_is 98 0 (zf_aload 0 0 1), z_is 98 1 (zf_getr 1 5 7 4), z_is 98 4 (zf_aload 4 0 5), z_is 98 5 (zf_getr 5 5 9 8), z_is 98 8 (zf_iload 8 1 9), z_is 98 9 (zf_cst 9 (jn 6) 11), z_is 98 11 (zf_imul 11 12), z_is 98 12 (zf_iload 12 2 13), z_is 98 13 (zf_iadd 13 14), z_is 98 14 (zf_iald 14 15), z_is 98 15 (zf_aald 15 16), z_is 98 16 (zf_ret 5)] = true := by decide +kernel
  refine z_aload hB rfl (fun hB => ?_)
  refine y_getr (b := (s + 1)) ok hB hs (zst_r7 hs) (fun hB => ?_)
  refine z_aload hB rfl (fun hB => ?_)
  refine y_getr (b := (s + 15)) ok hB hs (zst_r9 hs) (fun hB => ?_)
  refine z_iload hB rfl (fun hB => ?_)
  refine z_cst hB (fun hB => ?_)
  refine z_imul hB (fun hB => ?_)
  refine z_iload hB rfl (fun hB => ?_)
  refine z_iadd hB (fun hB => ?_)
  obtain ⟨g1, h⟩ := z_gd h
  refine y_iald ok hB (zst_k15 hs) (zst_l15 hs) g1 (fun hB => ?_)
  obtain ⟨g2, h⟩ := z_gd h
  refine y_fald ok hB (zst_k1 hs) (zst_l1 hs) g2 (zst_fR hs g2) (fun hB => ?_)
  cases h
  exact z_reta hB
theorem t_S_flagObjectInTub_k {s : Nat} {x1 x2 : Int32} (hs : zt 5 s = true) {I : z_H} {r : Nat} (h : d_S_flagObjectInTub s x1 x2 I = some r) : zt 0 r = true := by
  unfold d_S_flagObjectInTub at h
  obtain ⟨g1, h⟩ := z_gd h
  obtain ⟨g2, h⟩ := z_gd h
  cases h
  exact zst_fK hs g2
def d_S_emptyTub_3 (s : Nat) (x1 : Int32) (I : z_H) (p2 : Int32 × z_H) : Option ((Int32 × z_H) ⊕ (Int32 × z_H)) := (if p2.1 < (I (s + 14) (z_n (x1))) then ((d_S_flagObjectInTub s (x1) (p2.1) p2.2).bind fun q8 => ((d_G_moveTo q8 ((jn 0)) ((jg 1)) p2.2).bind fun q11 => some (Sum.inl ((p2.1 + (jn 1)), q11)))) else some (Sum.inr (p2.1, p2.2)))
def d_S_emptyTub (s : Nat) (x1 : Int32) (I : z_H) : Option (Int32 × z_H) := (if z_in (x1) 3 then ((z_it (d_S_emptyTub_3 s x1 I) z_F ((jn 0), I)).bind fun q4 => (if z_in (x1) 3 then some (((I (s + 14) (z_n (x1))), (ev_u2 q4.2 (s + 14) (z_n (x1)) (jn 0)))) else none)) else none)
/-- State.emptyTub(I)I -/
theorem t_S_emptyTub {G : z_G} {w : ev_W} (ok : z_Ok G w) {s : Nat} {x1 : Int32} (hs : zt 5 s = true) {I : z_H} {r : Int32 × z_H} (h : d_S_emptyTub s x1 I = some r) : z_K G 113 [.ref (s), .int (x1)] (z_w w I) (.inl (some (.int r.1))) (z_w w r.2) := by
  refine z_con ok.1 (ml := 4) (by decide +kernel) rfl rfl ?_
  show z_R G 113 0 [some (.ref (s)), some (.int (x1)), none, none] [] (z_w w I) (.inl (some (.int r.1))) (z_w w r.2)
  unfold d_S_emptyTub at h
  have hB : z_all [z_is 113 0 (zf_aload 0 0 1), z_is 113 1 (zf_getr 1 5 8 4), z_is 113 4 (zf_iload 4 1 5), z_is 113 5 (zf_iald 5 6), z_is 113 6 (zf_istore 6 2 7), z_is 113 7 (zf_cst 7 (jn 0) 8), z_is 113 8 (zf_istore 8 3 9)] = true := by decide +kernel
  refine z_aload hB rfl (fun hB => ?_)
  refine y_getr (b := (s + 14)) ok hB hs (zst_r8 hs) (fun hB => ?_)
  refine z_iload hB rfl (fun hB => ?_)
  obtain ⟨g1, h⟩ := z_gd h
  refine y_iald ok hB (zst_k14 hs) (zst_l14 hs) g1 (fun hB => ?_)
  refine z_istore hB rfl rfl (fun hB => ?_)
  refine z_cst hB (fun hB => ?_)
  refine z_istore hB rfl rfl (fun hB => ?_)
  obtain ⟨q4, e5, h⟩ := z_bind h
  have k6 : z_R G 113 31 [some (.ref (s)), some (.int (x1)), some (.int ((I (s + 14) (z_n (x1))))), none] [] (z_w w q4.2) (.inl (some (.int r.1))) (z_w w r.2) := by
    have hB : z_all [z_is 113 31 (zf_aload 31 0 32), z_is 113 32 (zf_getr 32 5 8 35), z_is 113 35 (zf_iload 35 1 36), z_is 113 36 (zf_cst 36 (jn 0) 37), z_is 113 37 (zf_iast 37 38), z_is 113 38 (zf_iload 38 2 39), z_is 113 39 (zf_ret 0)] = true := by decide +kernel
    refine z_aload hB rfl (fun hB => ?_)
    refine y_getr (b := (s + 14)) ok hB hs (zst_r8 hs) (fun hB => ?_)
    refine z_iload hB rfl (fun hB => ?_)
    refine z_cst hB (fun hB => ?_)
    obtain ⟨g7, h⟩ := z_gd h
    refine y_iast ok hB (zst_k14 hs) (zst_l14 hs) g7 (fun hB => ?_)
    refine z_iload hB rfl (fun hB => ?_)
    cases h
    exact z_reti hB
  have l3 : ∀ (m3 : Nat) (p2 : Int32 × z_H), z_it (d_S_emptyTub_3 s x1 I) m3 p2 = some q4 → z_R G 113 9 [some (.ref (s)), some (.int (x1)), some (.int ((I (s + 14) (z_n (x1))))), some (.int (p2.1))] [] (z_w w p2.2) (.inl (some (.int r.1))) (z_w w r.2) := by
    intro m3
    induction m3 with
    | zero => intro p2 h; cases h
    | succ m3 i3 =>
      intro p2 h
      obtain ⟨u3, h, b3⟩ := z_it_o h
      unfold d_S_emptyTub_3 at h
      have hB : z_all [z_is 113 9 (zf_iload 9 3 10), z_is 113 10 (zf_iload 10 2 11), z_is 113 11 (zf_if2 .ge 11 31 14)] = true := by decide +kernel
      refine z_iload hB rfl (fun hB => ?_)
      refine z_iload hB rfl (fun hB => ?_)
      refine z_ic_ge hB (fun hc _ => ?_) (fun hc _ => ?_)
      · have h := z_neg hc h
        cases h
        cases b3
        exact z_weak k6 (z_se (z_se (z_se (z_sn z_s0))))
      · have h := z_pos hc h
        have hB : z_all [z_is 113 14 (zf_aload 14 0 15), z_is 113 15 (zf_iload 15 1 16), z_is 113 16 (zf_iload 16 3 17), z_is 113 17 (zf_cv 17 98 2 5 20), z_is 113 20 (zf_cst 20 (jn 0) 21), z_is 113 21 (zf_cst 21 (jg 1) 22), z_is 113 22 (zf_cv 22 3 2 0 25), z_is 113 25 (zf_iinc 25 3 (jn 1) 28), z_is 113 28 (zf_goto 28 9)] = true := by decide +kernel
        refine z_aload hB rfl (fun hB => ?_)
        refine z_iload hB rfl (fun hB => ?_)
        refine z_iload hB rfl (fun hB => ?_)
        obtain ⟨q8, e9, h⟩ := z_bind h
        have f10 := t_S_flagObjectInTub_k hs e9
        refine y_cv ok hB (as := [.int (x1), .int (p2.1)]) (a := s) (rest := []) rfl rfl rfl hs (t_S_flagObjectInTub (I := p2.2) ok hs e9) (fun hB => ?_)
        refine z_cst hB (fun hB => ?_)
        refine z_cst hB (fun hB => ?_)
        obtain ⟨q11, e12, h⟩ := z_bind h
        refine y_cv ok hB (as := [.int ((jn 0)), .int ((jg 1))]) (a := q8) (rest := []) rfl rfl rfl f10 (t_G_moveTo (I := p2.2) ok f10 e12) (fun hB => ?_)
        refine z_iinc hB rfl rfl (fun hB => ?_)
        refine z_goto hB (fun hB => ?_)
        cases h
        exact z_weak (i3 ((p2.1 + (jn 1)), q11) b3) (z_se (z_se (z_se (z_se z_s0))))
  exact z_weak (l3 _ ((jn 0), I) e5) (z_se (z_se (z_se (z_se z_s0))))
def d_S_moveToPeg (s : Nat) (x1 : Int32) (x2 : Int32) (I : z_H) : Option (z_H) := (if z_in (x2) 8 then (if z_in (x1) 12 then ((d_G_moveTo (s + 2 + z_n (x1)) ((jn 2)) (x2) (ev_u2 I (s + 16) (z_n (x2)) x1)).bind fun q3 => some (q3)) else none) else none)
/-- State.moveToPeg(II)V -/
theorem t_S_moveToPeg {G : z_G} {w : ev_W} (ok : z_Ok G w) {s : Nat} {x1 : Int32} {x2 : Int32} (hs : zt 5 s = true) {I : z_H} {r : z_H} (h : d_S_moveToPeg s x1 x2 I = some r) : z_K G 110 [.ref (s), .int (x1), .int (x2)] (z_w w I) (.inl none) (z_w w r) := by
  refine z_con ok.1 (ml := 3) (by decide +kernel) rfl rfl ?_
  show z_R G 110 0 [some (.ref (s)), some (.int (x1)), some (.int (x2))] [] (z_w w I) (.inl none) (z_w w r)
  unfold d_S_moveToPeg at h
  have hB : z_all [z_is 110 0 (zf_aload 0 0 1), z_is 110 1 (zf_getr 1 5 10 4), z_is 110 4 (zf_iload 4 2 5), z_is 110 5 (zf_iload 5 1 6), z_is 110 6 (zf_iast 6 7), z_is 110 7 (zf_aload 7 0 8), z_is 110 8 (zf_getr 8 5 7 11), z_is 110 11 (zf_iload 11 1 12), z_is 110 12 (zf_aald 12 13), z_is 110 13 (zf_cst 13 (jn 2) 14), z_is 110 14 (zf_iload 14 2 15), z_is 110 15 (zf_cv 15 3 2 0 18), z_is 110 18 (zf_ret 6)] = true := by decide +kernel
  refine z_aload hB rfl (fun hB => ?_)
  refine y_getr (b := (s + 16)) ok hB hs (zst_r10 hs) (fun hB => ?_)
  refine z_iload hB rfl (fun hB => ?_)
  refine z_iload hB rfl (fun hB => ?_)
  obtain ⟨g1, h⟩ := z_gd h
  refine y_iast ok hB (zst_k16 hs) (zst_l16 hs) g1 (fun hB => ?_)
  refine z_aload hB rfl (fun hB => ?_)
  refine y_getr (b := (s + 1)) ok hB hs (zst_r7 hs) (fun hB => ?_)
  refine z_iload hB rfl (fun hB => ?_)
  obtain ⟨g2, h⟩ := z_gd h
  refine y_fald ok hB (zst_k1 hs) (zst_l1 hs) g2 (zst_fR hs g2) (fun hB => ?_)
  refine z_cst hB (fun hB => ?_)
  refine z_iload hB rfl (fun hB => ?_)
  obtain ⟨q3, e4, h⟩ := z_bind h
  refine y_cv ok hB (as := [.int ((jn 2)), .int (x2)]) (a := (s + 2 + z_n (x1))) (rest := []) rfl rfl rfl (zst_fK hs g2) (t_G_moveTo (I := (ev_u2 I (s + 16) (z_n (x2)) x1)) ok (zst_fK hs g2) e4) (fun hB => ?_)
  cases h
  exact z_retv hB
def d_S_wasHandedOver (s : Nat) (x1 : Int32) (I : z_H) : Option (Int32) := (if z_in (x1) 4 then (Option.bind (α := Int32) (if (I (s + 17) (z_n (x1))) = (jg 1) then some ((jn 0)) else some ((jn 1))) fun q2 => (if (q2) = jn 0 ∨ (q2) = jn 1 then some (q2) else none)) else none)
/-- State.wasHandedOver(I)Z -/
theorem t_S_wasHandedOver {G : z_G} {w : ev_W} (ok : z_Ok G w) {s : Nat} {x1 : Int32} (hs : zt 5 s = true) {I : z_H} {r : Int32} (h : d_S_wasHandedOver s x1 I = some r) : z_K G 99 [.ref (s), .int (x1)] (z_w w I) (.inl (some (.int r))) (z_w w I) := by
  refine z_con ok.1 (ml := 2) (by decide +kernel) rfl rfl ?_
  show z_R G 99 0 [some (.ref (s)), some (.int (x1))] [] (z_w w I) (.inl (some (.int r))) (z_w w I)
  unfold d_S_wasHandedOver at h
  have hB : z_all [z_is 99 0 (zf_aload 0 0 1), z_is 99 1 (zf_getr 1 5 11 4), z_is 99 4 (zf_iload 4 1 5), z_is 99 5 (zf_iald 5 6), z_is 99 6 (zf_cst 6 (jg 1) 7), z_is 99 7 (zf_if2 .eq 7 14 10)] = true := by decide +kernel
  refine z_aload hB rfl (fun hB => ?_)
  refine y_getr (b := (s + 17)) ok hB hs (zst_r11 hs) (fun hB => ?_)
  refine z_iload hB rfl (fun hB => ?_)
  obtain ⟨g1, h⟩ := z_gd h
  refine y_iald ok hB (zst_k17 hs) (zst_l17 hs) g1 (fun hB => ?_)
  refine z_cst hB (fun hB => ?_)
  obtain ⟨q2, e3, h⟩ := z_bind h
  have k4 : z_R G 99 15 [none, none] [.int (q2)] (z_w w I) (.inl (some (.int r))) (z_w w I) := by
    have hB : z_all [z_is 99 15 (zf_ret 1)] = true := by decide +kernel
    obtain ⟨g5, h⟩ := z_gd h
    cases h
    exact z_retz hB g5
  have h := e3
  refine z_ic_eq hB (fun hc _ => ?_) (fun hc _ => ?_)
  · have h := z_pos hc h
    have hB : z_all [z_is 99 14 (zf_cst 14 (jn 0) 15)] = true := by decide +kernel
    refine z_cst hB (fun hB => ?_)
    cases h
    exact z_weak k4 (z_sn (z_sn z_s0))
  · have h := z_neg hc h
    have hB : z_all [z_is 99 10 (zf_cst 10 (jn 1) 11), z_is 99 11 (zf_goto 11 15)] = true := by decide +kernel
    refine z_cst hB (fun hB => ?_)
    refine z_goto hB (fun hB => ?_)
    cases h
    exact z_weak k4 (z_sn (z_sn z_s0))
def d_S_flagsOf_2 (s : Nat) (x1 : Int32) (I : z_H) (p1 : Int32 × Int32) : Option ((Int32 × Int32) ⊕ (Int32 × Int32)) := (if p1.2 < (I s 6) then (if z_in (p1.2) 12 then (Option.bind (α := Int32) (if (I (s + 2 + z_n (p1.2)) 0) = x1 then some ((p1.1 + (jn 1))) else some (p1.1)) fun q7 => some (Sum.inl (q7, (p1.2 + (jn 1))))) else none) else some (Sum.inr (p1.1, p1.2)))
def d_S_flagsOf (s : Nat) (x1 : Int32) (I : z_H) : Option (Int32) := ((z_it (d_S_flagsOf_2 s x1 I) z_F ((jn 0), (jn 0))).bind fun q3 => some (q3.1))
/-- State.flagsOf(I)I -/
theorem t_S_flagsOf {G : z_G} {w : ev_W} (ok : z_Ok G w) {s : Nat} {x1 : Int32} (hs : zt 5 s = true) {I : z_H} {r : Int32} (h : d_S_flagsOf s x1 I = some r) : z_K G 102 [.ref (s), .int (x1)] (z_w w I) (.inl (some (.int r))) (z_w w I) := by
  refine z_con ok.1 (ml := 4) (by decide +kernel) rfl rfl ?_
  show z_R G 102 0 [some (.ref (s)), some (.int (x1)), none, none] [] (z_w w I) (.inl (some (.int r))) (z_w w I)
  unfold d_S_flagsOf at h
  have hB : z_all [z_is 102 0 (zf_cst 0 (jn 0) 1), z_is 102 1 (zf_istore 1 2 2), z_is 102 2 (zf_cst 2 (jn 0) 3), z_is 102 3 (zf_istore 3 3 4)] = true := by decide +kernel
  refine z_cst hB (fun hB => ?_)
  refine z_istore hB rfl rfl (fun hB => ?_)
  refine z_cst hB (fun hB => ?_)
  refine z_istore hB rfl rfl (fun hB => ?_)
  obtain ⟨q3, e4, h⟩ := z_bind h
  have k5 : z_R G 102 34 [none, none, some (.int (q3.1)), none] [] (z_w w I) (.inl (some (.int r))) (z_w w I) := by
    have hB : z_all [z_is 102 34 (zf_iload 34 2 35), z_is 102 35 (zf_ret 0)] = true := by decide +kernel
    refine z_iload hB rfl (fun hB => ?_)
    cases h
    exact z_reti hB
  have l2 : ∀ (m2 : Nat) (p1 : Int32 × Int32), z_it (d_S_flagsOf_2 s x1 I) m2 p1 = some q3 → z_R G 102 4 [some (.ref (s)), some (.int (x1)), some (.int (p1.1)), some (.int (p1.2))] [] (z_w w I) (.inl (some (.int r))) (z_w w I) := by
    intro m2
    induction m2 with
    | zero => intro p1 h; cases h
    | succ m2 i2 =>
      intro p1 h
      obtain ⟨u2, h, b2⟩ := z_it_o h
      unfold d_S_flagsOf_2 at h
      have hB : z_all [z_is 102 4 (zf_iload 4 3 5), z_is 102 5 (zf_aload 5 0 6), z_is 102 6 (zf_geti 6 5 6 9), z_is 102 9 (zf_if2 .ge 9 34 12)] = true := by decide +kernel
      refine z_iload hB rfl (fun hB => ?_)
      refine z_aload hB rfl (fun hB => ?_)
      refine y_geti ok hB hs (fun hB => ?_)
      refine z_ic_ge hB (fun hc _ => ?_) (fun hc _ => ?_)
      · have h := z_neg hc h
        cases h
        cases b2
        exact z_weak k5 (z_sn (z_sn (z_se (z_sn z_s0))))
      · have h := z_pos hc h
        have hB : z_all [z_is 102 12 (zf_aload 12 0 13), z_is 102 13 (zf_getr 13 5 7 16), z_is 102 16 (zf_iload 16 3 17), z_is 102 17 (zf_aald 17 18), z_is 102 18 (zf_geti 18 0 0 21), z_is 102 21 (zf_iload 21 1 22), z_is 102 22 (zf_if2 .ne 22 28 25)] = true := by decide +kernel
        refine z_aload hB rfl (fun hB => ?_)
        refine y_getr (b := (s + 1)) ok hB hs (zst_r7 hs) (fun hB => ?_)
        refine z_iload hB rfl (fun hB => ?_)
        obtain ⟨g6, h⟩ := z_gd h
        refine y_fald ok hB (zst_k1 hs) (zst_l1 hs) g6 (zst_fR hs g6) (fun hB => ?_)
        refine y_geti ok hB (zst_fK hs g6) (fun hB => ?_)
        refine z_iload hB rfl (fun hB => ?_)
        obtain ⟨q7, e8, h⟩ := z_bind h
        have k9 : z_R G 102 28 [some (.ref (s)), some (.int (x1)), some (.int (q7)), some (.int (p1.2))] [] (z_w w I) (.inl (some (.int r))) (z_w w I) := by
          have hB : z_all [z_is 102 28 (zf_iinc 28 3 (jn 1) 31), z_is 102 31 (zf_goto 31 4)] = true := by decide +kernel
          refine z_iinc hB rfl rfl (fun hB => ?_)
          refine z_goto hB (fun hB => ?_)
          cases h
          exact z_weak (i2 (q7, (p1.2 + (jn 1))) b2) (z_se (z_se (z_se (z_se z_s0))))
        have h := e8
        refine z_ic_ne hB (fun hc _ => ?_) (fun hc _ => ?_)
        · have h := z_neg hc h
          cases h
          exact z_weak k9 (z_se (z_se (z_se (z_se z_s0))))
        · have h := z_pos hc h
          have hB : z_all [z_is 102 25 (zf_iinc 25 2 (jn 1) 28)] = true := by decide +kernel
          refine z_iinc hB rfl rfl (fun hB => ?_)
          cases h
          exact z_weak k9 (z_se (z_se (z_se (z_se z_s0))))
  exact z_weak (l2 _ ((jn 0), (jn 0)) e4) (z_se (z_se (z_se (z_se z_s0))))
def d_S_firstNotReady_2 (s : Nat) (x1 : Int32) (I : z_H) (p1 : Int32) : Option ((Int32) ⊕ (Int32)) := (if p1 < (I s 6) then (if z_in (p1) 12 then (if (I (s + 2 + z_n (p1)) 0) = x1 then (if z_in (p1) 12 then ((d_G_isReady (s + 2 + z_n (p1)) I).bind fun q5 => (if q5 = jn 0 then some (Sum.inr (p1)) else some (Sum.inl ((p1 + (jn 1)))))) else none) else some (Sum.inl ((p1 + (jn 1))))) else none) else some (Sum.inr ((jg 1))))
def d_S_firstNotReady (s : Nat) (x1 : Int32) (I : z_H) : Option (Int32) := (z_it (d_S_firstNotReady_2 s x1 I) z_F ((jn 0)))
/-- State.firstNotReady(I)I -/
theorem t_S_firstNotReady {G : z_G} {w : ev_W} (ok : z_Ok G w) {s : Nat} {x1 : Int32} (hs : zt 5 s = true) {I : z_H} {r : Int32} (h : d_S_firstNotReady s x1 I = some r) : z_K G 104 [.ref (s), .int (x1)] (z_w w I) (.inl (some (.int r))) (z_w w I) := by
  refine z_con ok.1 (ml := 3) (by decide +kernel) rfl rfl ?_
  show z_R G 104 0 [some (.ref (s)), some (.int (x1)), none] [] (z_w w I) (.inl (some (.int r))) (z_w w I)
  unfold d_S_firstNotReady at h
  have hB : z_all [z_is 104 0 (zf_cst 0 (jn 0) 1), z_is 104 1 (zf_istore 1 2 2)] = true := by decide +kernel
  refine z_cst hB (fun hB => ?_)
  refine z_istore hB rfl rfl (fun hB => ?_)
  have l2 : ∀ (m2 : Nat) (p1 : Int32), z_it (d_S_firstNotReady_2 s x1 I) m2 p1 = some r → z_R G 104 2 [some (.ref (s)), some (.int (x1)), some (.int (p1))] [] (z_w w I) (.inl (some (.int r))) (z_w w I) := by
    intro m2
    induction m2 with
    | zero => intro p1 h; cases h
    | succ m2 i2 =>
      intro p1 h
      obtain ⟨u2, h, b2⟩ := z_it_o h
      unfold d_S_firstNotReady_2 at h
      have hB : z_all [z_is 104 2 (zf_iload 2 2 3), z_is 104 3 (zf_aload 3 0 4), z_is 104 4 (zf_geti 4 5 6 7), z_is 104 7 (zf_if2 .ge 7 43 10)] = true := by decide +kernel
      refine z_iload hB rfl (fun hB => ?_)
      refine z_aload hB rfl (fun hB => ?_)
      refine y_geti ok hB hs (fun hB => ?_)
      refine z_ic_ge hB (fun hc _ => ?_) (fun hc _ => ?_)
      · have h := z_neg hc h
        have hB : z_all [z_is 104 43 (zf_cst 43 (jg 1) 44), z_is 104 44 (zf_ret 0)] = true := by decide +kernel
        refine z_cst hB (fun hB => ?_)
        cases h
        cases b2
        exact z_reti hB
      · have h := z_pos hc h
        have hB : z_all [z_is 104 10 (zf_aload 10 0 11), z_is 104 11 (zf_getr 11 5 7 14), z_is 104 14 (zf_iload 14 2 15), z_is 104 15 (zf_aald 15 16), z_is 104 16 (zf_geti 16 0 0 19), z_is 104 19 (zf_iload 19 1 20), z_is 104 20 (zf_if2 .ne 20 37 23)] = true := by decide +kernel
        refine z_aload hB rfl (fun hB => ?_)
        refine y_getr (b := (s + 1)) ok hB hs (zst_r7 hs) (fun hB => ?_)
        refine z_iload hB rfl (fun hB => ?_)
        obtain ⟨g3, h⟩ := z_gd h
        refine y_fald ok hB (zst_k1 hs) (zst_l1 hs) g3 (zst_fR hs g3) (fun hB => ?_)
        refine y_geti ok hB (zst_fK hs g3) (fun hB => ?_)
        refine z_iload hB rfl (fun hB => ?_)
        refine z_ic_ne hB (fun hc _ => ?_) (fun hc _ => ?_)
        · have h := z_neg hc h
          have hB : z_all [z_is 104 37 (zf_iinc 37 2 (jn 1) 40), z_is 104 40 (zf_goto 40 2)] = true := by decide +kernel
          refine z_iinc hB rfl rfl (fun hB => ?_)
          refine z_goto hB (fun hB => ?_)
          cases h
          exact z_weak (i2 ((p1 + (jn 1))) b2) (z_se (z_se (z_se z_s0)))
        · have h := z_pos hc h
          have hB : z_all [z_is 104 23 (zf_aload 23 0 24), z_is 104 24 (zf_getr 24 5 7 27), z_is 104 27 (zf_iload 27 2 28), z_is 104 28 (zf_aald 28 29), z_is 104 29 (zf_cv 29 6 0 0 32), z_is 104 32 (zf_if1 .ne 32 37 35)] = true := by decide +kernel
          refine z_aload hB rfl (fun hB => ?_)
          refine y_getr (b := (s + 1)) ok hB hs (zst_r7 hs) (fun hB => ?_)
          refine z_iload hB rfl (fun hB => ?_)
          obtain ⟨g4, h⟩ := z_gd h
          refine y_fald ok hB (zst_k1 hs) (zst_l1 hs) g4 (zst_fR hs g4) (fun hB => ?_)
          obtain ⟨q5, e6, h⟩ := z_bind h
          refine y_cv ok hB (as := []) (a := (s + 2 + z_n (p1))) (rest := []) rfl rfl rfl (zst_fK hs g4) (t_G_isReady (I := I) ok (zst_fK hs g4) e6) (fun hB => ?_)
          refine z_if_ne hB (fun hc _ => ?_) (fun hc _ => ?_)
          · have h := z_neg hc h
            have hB : z_all [z_is 104 37 (zf_iinc 37 2 (jn 1) 40), z_is 104 40 (zf_goto 40 2)] = true := by decide +kernel
            refine z_iinc hB rfl rfl (fun hB => ?_)
            refine z_goto hB (fun hB => ?_)
            cases h
            exact z_weak (i2 ((p1 + (jn 1))) b2) (z_se (z_se (z_se z_s0)))
          · have h := z_pos hc h
            have hB : z_all [z_is 104 35 (zf_iload 35 2 36), z_is 104 36 (zf_ret 0)] = true := by decide +kernel
            refine z_iload hB rfl (fun hB => ?_)
            cases h
            cases b2
            exact z_reti hB
  exact z_weak (l2 _ ((jn 0)) h) (z_se (z_se (z_se z_s0)))
def d_S_flagsAt_2 (s : Nat) (x1 : Int32) (I : z_H) (p1 : Int32 × Int32) : Option ((Int32 × Int32) ⊕ (Int32 × Int32)) := (if p1.2 < (I s 6) then (if z_in (p1.2) 12 then (Option.bind (α := Int32) (if (I (s + 2 + z_n (p1.2)) 8) = x1 then some ((p1.1 + (jn 1))) else some (p1.1)) fun q7 => some (Sum.inl (q7, (p1.2 + (jn 1))))) else none) else some (Sum.inr (p1.1, p1.2)))
def d_S_flagsAt (s : Nat) (x1 : Int32) (I : z_H) : Option (Int32) := ((z_it (d_S_flagsAt_2 s x1 I) z_F ((jn 0), (jn 0))).bind fun q3 => some (q3.1))
/-- State.flagsAt(I)I -/
theorem t_S_flagsAt {G : z_G} {w : ev_W} (ok : z_Ok G w) {s : Nat} {x1 : Int32} (hs : zt 5 s = true) {I : z_H} {r : Int32} (h : d_S_flagsAt s x1 I = some r) : z_K G 100 [.ref (s), .int (x1)] (z_w w I) (.inl (some (.int r))) (z_w w I) := by
  refine z_con ok.1 (ml := 4) (by decide +kernel) rfl rfl ?_
  show z_R G 100 0 [some (.ref (s)), some (.int (x1)), none, none] [] (z_w w I) (.inl (some (.int r))) (z_w w I)
  unfold d_S_flagsAt at h
  have hB : z_all [z_is 100 0 (zf_cst 0 (jn 0) 1), z_is 100 1 (zf_istore 1 2 2), z_is 100 2 (zf_cst 2 (jn 0) 3), z_is 100 3 (zf_istore 3 3 4)] = true := by decide +kernel
  refine z_cst hB (fun hB => ?_)
  refine z_istore hB rfl rfl (fun hB => ?_)
  refine z_cst hB (fun hB => ?_)
  refine z_istore hB rfl rfl (fun hB => ?_)
  obtain ⟨q3, e4, h⟩ := z_bind h
  have k5 : z_R G 100 34 [none, none, some (.int (q3.1)), none] [] (z_w w I) (.inl (some (.int r))) (z_w w I) := by
    have hB : z_all [z_is 100 34 (zf_iload 34 2 35), z_is 100 35 (zf_ret 0)] = true := by decide +kernel
    refine z_iload hB rfl (fun hB => ?_)
    cases h
    exact z_reti hB
  have l2 : ∀ (m2 : Nat) (p1 : Int32 × Int32), z_it (d_S_flagsAt_2 s x1 I) m2 p1 = some q3 → z_R G 100 4 [some (.ref (s)), some (.int (x1)), some (.int (p1.1)), some (.int (p1.2))] [] (z_w w I) (.inl (some (.int r))) (z_w w I) := by
    intro m2
    induction m2 with
    | zero => intro p1 h; cases h
    | succ m2 i2 =>
      intro p1 h
      obtain ⟨u2, h, b2⟩ := z_it_o h
      unfold d_S_flagsAt_2 at h
      have hB : z_all [z_is 100 4 (zf_iload 4 3 5), z_is 100 5 (zf_aload 5 0 6), z_is 100 6 (zf_geti 6 5 6 9), z_is 100 9 (zf_if2 .ge 9 34 12)] = true := by decide +kernel
      refine z_iload hB rfl (fun hB => ?_)
      refine z_aload hB rfl (fun hB => ?_)
      refine y_geti ok hB hs (fun hB => ?_)
      refine z_ic_ge hB (fun hc _ => ?_) (fun hc _ => ?_)
      · have h := z_neg hc h
        cases h
        cases b2
        exact z_weak k5 (z_sn (z_sn (z_se (z_sn z_s0))))
      · have h := z_pos hc h
        have hB : z_all [z_is 100 12 (zf_aload 12 0 13), z_is 100 13 (zf_getr 13 5 7 16), z_is 100 16 (zf_iload 16 3 17), z_is 100 17 (zf_aald 17 18), z_is 100 18 (zf_geti 18 0 8 21), z_is 100 21 (zf_iload 21 1 22), z_is 100 22 (zf_if2 .ne 22 28 25)] = true := by decide +kernel
        refine z_aload hB rfl (fun hB => ?_)
        refine y_getr (b := (s + 1)) ok hB hs (zst_r7 hs) (fun hB => ?_)
        refine z_iload hB rfl (fun hB => ?_)
        obtain ⟨g6, h⟩ := z_gd h
        refine y_fald ok hB (zst_k1 hs) (zst_l1 hs) g6 (zst_fR hs g6) (fun hB => ?_)
        refine y_geti ok hB (zst_fK hs g6) (fun hB => ?_)
        refine z_iload hB rfl (fun hB => ?_)
        obtain ⟨q7, e8, h⟩ := z_bind h
        have k9 : z_R G 100 28 [some (.ref (s)), some (.int (x1)), some (.int (q7)), some (.int (p1.2))] [] (z_w w I) (.inl (some (.int r))) (z_w w I) := by
          have hB : z_all [z_is 100 28 (zf_iinc 28 3 (jn 1) 31), z_is 100 31 (zf_goto 31 4)] = true := by decide +kernel
          refine z_iinc hB rfl rfl (fun hB => ?_)
          refine z_goto hB (fun hB => ?_)
          cases h
          exact z_weak (i2 (q7, (p1.2 + (jn 1))) b2) (z_se (z_se (z_se (z_se z_s0))))
        have h := e8
        refine z_ic_ne hB (fun hc _ => ?_) (fun hc _ => ?_)
        · have h := z_neg hc h
          cases h
          exact z_weak k9 (z_se (z_se (z_se (z_se z_s0))))
        · have h := z_pos hc h
          have hB : z_all [z_is 100 25 (zf_iinc 25 2 (jn 1) 28)] = true := by decide +kernel
          refine z_iinc hB rfl rfl (fun hB => ?_)
          cases h
          exact z_weak k9 (z_se (z_se (z_se (z_se z_s0))))
  exact z_weak (l2 _ ((jn 0), (jn 0)) e4) (z_se (z_se (z_se (z_se z_s0))))
def d_S_bringFlag (s : Nat) (x1 : Int32) (x2 : Int32) (x3 : Int32) (x4 : Int32) (I : z_H) : Option (Int32 × z_H) := (if z_in ((I s 6)) 12 then ((d_G_begin (s + 2 + z_n ((I s 6))) (x1) (x2) (x3) (x4) I).bind fun q2 => some (((I s 6), (ev_u2 q2 s 6 ((q2 s 6) + (jn 1)))))) else none)
/-- State.bringFlag(IIII)I -/
theorem t_S_bringFlag {G : z_G} {w : ev_W} (ok : z_Ok G w) {s : Nat} {x1 : Int32} {x2 : Int32} {x3 : Int32} {x4 : Int32} (hs : zt 5 s = true) {I : z_H} {r : Int32 × z_H} (h : d_S_bringFlag s x1 x2 x3 x4 I = some r) : z_K G 96 [.ref (s), .int (x1), .int (x2), .int (x3), .int (x4)] (z_w w I) (.inl (some (.int r.1))) (z_w w r.2) := by
  refine z_con ok.1 (ml := 6) (by decide +kernel) rfl rfl ?_
  show z_R G 96 0 [some (.ref (s)), some (.int (x1)), some (.int (x2)), some (.int (x3)), some (.int (x4)), none] [] (z_w w I) (.inl (some (.int r.1))) (z_w w r.2)
  unfold d_S_bringFlag at h
  have hB : z_all [z_is 96 0 (zf_aload 0 0 1), z_is 96 1 (zf_geti 1 5 6 4), z_is 96 4 (zf_istore 4 5 6), z_is 96 6 (zf_aload 6 0 7), z_is 96 7 (zf_getr 7 5 7 10), z_is 96 10 (zf_iload 10 5 12), z_is 96 12 (zf_aald 12 13), z_is 96 13 (zf_iload 13 1 14), z_is 96 14 (zf_iload 14 2 15), z_is 96 15 (zf_iload 15 3 16), z_is 96 16 (zf_iload 16 4 18), z_is 96 18 (zf_cv 18 1 4 0 21), z_is 96 21 (zf_aload 21 0 22), z_is 96 22 (zf_dupr 22 23), z_is 96 23 (zf_geti 23 5 6 26), z_is 96 26 (zf_cst 26 (jn 1) 27), z_is 96 27 (zf_iadd 27 28), z_is 96 28 (zf_puti 28 5 6 31), z_is 96 31 (zf_iload 31 5 33), z_is 96 33 (zf_ret 0)] = true := by decide +kernel
  refine z_aload hB rfl (fun hB => ?_)
  refine y_geti ok hB hs (fun hB => ?_)
  refine z_istore hB rfl rfl (fun hB => ?_)
  refine z_aload hB rfl (fun hB => ?_)
  refine y_getr (b := (s + 1)) ok hB hs (zst_r7 hs) (fun hB => ?_)
  refine z_iload hB rfl (fun hB => ?_)
  obtain ⟨g1, h⟩ := z_gd h
  refine y_fald ok hB (zst_k1 hs) (zst_l1 hs) g1 (zst_fR hs g1) (fun hB => ?_)
  refine z_iload hB rfl (fun hB => ?_)
  refine z_iload hB rfl (fun hB => ?_)
  refine z_iload hB rfl (fun hB => ?_)
  refine z_iload hB rfl (fun hB => ?_)
  obtain ⟨q2, e3, h⟩ := z_bind h
  refine y_cv ok hB (as := [.int (x1), .int (x2), .int (x3), .int (x4)]) (a := (s + 2 + z_n ((I s 6)))) (rest := []) rfl rfl rfl (zst_fK hs g1) (t_G_begin (I := I) ok (zst_fK hs g1) e3) (fun hB => ?_)
  refine z_aload hB rfl (fun hB => ?_)
  refine z_dupr hB (fun hB => ?_)
  refine y_geti ok hB hs (fun hB => ?_)
  refine z_cst hB (fun hB => ?_)
  refine z_iadd hB (fun hB => ?_)
  refine y_puti ok hB hs (fun hB => ?_)
  refine z_iload hB rfl (fun hB => ?_)
  cases h
  exact z_reti hB
def d_S_moveToTub (s : Nat) (x1 : Int32) (x2 : Int32) (I : z_H) : Option (Int32 × z_H) := (if z_in (x2) 3 then (if z_in (((x2 * (jn 6)) + (I (s + 14) (z_n (x2))))) 18 then (if z_in (x2) 3 then (if z_in (x2) 3 then (Option.bind (α := z_H) (some (ev_u2 (ev_u2 I (s + 15) (z_n (((x2 * (jn 6)) + (I (s + 14) (z_n (x2)))))) x1) (s + 14) (z_n (x2)) (((ev_u2 I (s + 15) (z_n (((x2 * (jn 6)) + (I (s + 14) (z_n (x2)))))) x1) (s + 14) (z_n (x2))) + (jn 1)))) fun J5 => (if z_in (x1) 12 then ((d_G_moveTo (s + 2 + z_n (x1)) ((jn 1)) (x2) J5).bind fun q8 => (if z_in (x2) 3 then some (((q8 (s + 14) (z_n (x2))), q8)) else none)) else none)) else none) else none) else none) else none)
/-- State.moveToTub(II)I -/
theorem t_S_moveToTub {G : z_G} {w : ev_W} (ok : z_Ok G w) {s : Nat} {x1 : Int32} {x2 : Int32} (hs : zt 5 s = true) {I : z_H} {r : Int32 × z_H} (h : d_S_moveToTub s x1 x2 I = some r) : z_K G 109 [.ref (s), .int (x1), .int (x2)] (z_w w I) (.inl (some (.int r.1))) (z_w w r.2) := by
  refine z_con ok.1 (ml := 3) (by decide +kernel) rfl rfl ?_
  show z_R G 109 0 [some (.ref (s)), some (.int (x1)), some (.int (x2))] [] (z_w w I) (.inl (some (.int r.1))) (z_w w r.2)
  unfold d_S_moveToTub at h
  have hB : z_all [z_is 109 0 (zf_aload 0 0 1), z_is 109 1 (zf_getr 1 5 9 4), z_is 109 4 (zf_iload 4 2 5), z_is 109 5 (zf_cst 5 (jn 6) 7), z_is 109 7 (zf_imul 7 8), z_is 109 8 (zf_aload 8 0 9), z_is 109 9 (zf_getr 9 5 8 12), z_is 109 12 (zf_iload 12 2 13), z_is 109 13 (zf_iald 13 14), z_is 109 14 (zf_iadd 14 15), z_is 109 15 (zf_iload 15 1 16), z_is 109 16 (zf_iast 16 17), z_is 109 17 (zf_aload 17 0 18), z_is 109 18 (zf_getr 18 5 8 21), z_is 109 21 (zf_iload 21 2 22), z_is 109 22 (zf_dup2 22 23), z_is 109 23 (zf_iald 23 24), z_is 109 24 (zf_cst 24 (jn 1) 25), z_is 109 25 (zf_iadd 25 26), z_is 109 26 (zf_iast 26 27), z_is 109 27 (zf_aload 27 0 28), z_is 109 28 (zf_getr 28 5 7 31), z_is 109 31 (zf_iload 31 1 32), z_is 109 32 (zf_aald 32 33), z_is 109 33 (zf_cst 33 (jn 1) 34), z_is 109 34 (zf_iload 34 2 35), z_is 109 35 (zf_cv 35 3 2 0 38), z_is 109 38 (zf_aload 38 0 39), z_is 109 39 (zf_getr 39 5 8 42), z_is 109 42 (zf_iload 42 2 43), z_is 109 43 (zf_iald 43 44), z_is 109 44 (zf_ret 0)] = true := by decide +kernel
  refine z_aload hB rfl (fun hB => ?_)
  refine y_getr (b := (s + 15)) ok hB hs (zst_r9 hs) (fun hB => ?_)
  refine z_iload hB rfl (fun hB => ?_)
  refine z_cst hB (fun hB => ?_)
  refine z_imul hB (fun hB => ?_)
  refine z_aload hB rfl (fun hB => ?_)
  refine y_getr (b := (s + 14)) ok hB hs (zst_r8 hs) (fun hB => ?_)
  refine z_iload hB rfl (fun hB => ?_)
  obtain ⟨g1, h⟩ := z_gd h
  refine y_iald ok hB (zst_k14 hs) (zst_l14 hs) g1 (fun hB => ?_)
  refine z_iadd hB (fun hB => ?_)
  refine z_iload hB rfl (fun hB => ?_)
  obtain ⟨g2, h⟩ := z_gd h
  refine y_iast ok hB (zst_k15 hs) (zst_l15 hs) g2 (fun hB => ?_)
  refine z_aload hB rfl (fun hB => ?_)
  refine y_getr (b := (s + 14)) ok hB hs (zst_r8 hs) (fun hB => ?_)
  refine z_iload hB rfl (fun hB => ?_)
  refine z_dup2 hB (fun hB => ?_)
  obtain ⟨g3, h⟩ := z_gd h
  refine y_iald ok hB (zst_k14 hs) (zst_l14 hs) g3 (fun hB => ?_)
  refine z_cst hB (fun hB => ?_)
  refine z_iadd hB (fun hB => ?_)
  obtain ⟨g4, h⟩ := z_gd h
  refine y_iast ok hB (zst_k14 hs) (zst_l14 hs) g4 (fun hB => ?_)
  obtain ⟨J5, e6, h⟩ := z_bind h
  rw [z_inj e6]
  refine z_aload hB rfl (fun hB => ?_)
  refine y_getr (b := (s + 1)) ok hB hs (zst_r7 hs) (fun hB => ?_)
  refine z_iload hB rfl (fun hB => ?_)
  obtain ⟨g7, h⟩ := z_gd h
  refine y_fald ok hB (zst_k1 hs) (zst_l1 hs) g7 (zst_fR hs g7) (fun hB => ?_)
  refine z_cst hB (fun hB => ?_)
  refine z_iload hB rfl (fun hB => ?_)
  obtain ⟨q8, e9, h⟩ := z_bind h
  refine y_cv ok hB (as := [.int ((jn 1)), .int (x2)]) (a := (s + 2 + z_n (x1))) (rest := []) rfl rfl rfl (zst_fK hs g7) (t_G_moveTo (I := J5) ok (zst_fK hs g7) e9) (fun hB => ?_)
  refine z_aload hB rfl (fun hB => ?_)
  refine y_getr (b := (s + 14)) ok hB hs (zst_r8 hs) (fun hB => ?_)
  refine z_iload hB rfl (fun hB => ?_)
  obtain ⟨g10, h⟩ := z_gd h
  refine y_iald ok hB (zst_k14 hs) (zst_l14 hs) g10 (fun hB => ?_)
  cases h
  exact z_reti hB
def d_S_dryOnLine_2 (s : Nat) (x1 : Int32) (p1 : Int32 × z_H) : Option ((Int32 × z_H) ⊕ (Int32 × z_H)) := (if p1.1 < (p1.2 s 6) then (if z_in (p1.1) 12 then (Option.bind (α := z_H) (if (p1.2 (s + 2 + z_n (p1.1)) 8) = (jn 2) then (if z_in (p1.1) 12 then (if z_in (p1.1) 12 then some ((ev_u2 p1.2 (s + 2 + z_n (p1.1)) 4 (z_mx ((jn 0)) (((p1.2 (s + 2 + z_n (p1.1)) 4) - x1))))) else none) else none) else some (p1.2)) fun q7 => some (Sum.inl ((p1.1 + (jn 1)), q7))) else none) else some (Sum.inr (p1.1, p1.2)))
def d_S_dryOnLine (s : Nat) (x1 : Int32) (I : z_H) : Option (z_H) := ((z_it (d_S_dryOnLine_2 s x1) z_F ((jn 0), I)).bind fun q3 => some (q3.2))
/-- State.dryOnLine(I)V -/
theorem t_S_dryOnLine {G : z_G} {w : ev_W} (ok : z_Ok G w) {s : Nat} {x1 : Int32} (hs : zt 5 s = true) {I : z_H} {r : z_H} (h : d_S_dryOnLine s x1 I = some r) : z_K G 116 [.ref (s), .int (x1)] (z_w w I) (.inl none) (z_w w r) := by
  refine z_con ok.1 (ml := 3) (by decide +kernel) rfl rfl ?_
  show z_R G 116 0 [some (.ref (s)), some (.int (x1)), none] [] (z_w w I) (.inl none) (z_w w r)
  unfold d_S_dryOnLine at h
  have hB : z_all [z_is 116 0 (zf_cst 0 (jn 0) 1), z_is 116 1 (zf_istore 1 2 2)] = true := by decide +kernel
  refine z_cst hB (fun hB => ?_)
  refine z_istore hB rfl rfl (fun hB => ?_)
  obtain ⟨q3, e4, h⟩ := z_bind h
  have k5 : z_R G 116 53 [none, none, none] [] (z_w w q3.2) (.inl none) (z_w w r) := by
    have hB : z_all [z_is 116 53 (zf_ret 6)] = true := by decide +kernel
    cases h
    exact z_retv hB
  have l2 : ∀ (m2 : Nat) (p1 : Int32 × z_H), z_it (d_S_dryOnLine_2 s x1) m2 p1 = some q3 → z_R G 116 2 [some (.ref (s)), some (.int (x1)), some (.int (p1.1))] [] (z_w w p1.2) (.inl none) (z_w w r) := by
    intro m2
    induction m2 with
    | zero => intro p1 h; cases h
    | succ m2 i2 =>
      intro p1 h
      obtain ⟨u2, h, b2⟩ := z_it_o h
      unfold d_S_dryOnLine_2 at h
      have hB : z_all [z_is 116 2 (zf_iload 2 2 3), z_is 116 3 (zf_aload 3 0 4), z_is 116 4 (zf_geti 4 5 6 7), z_is 116 7 (zf_if2 .ge 7 53 10)] = true := by decide +kernel
      refine z_iload hB rfl (fun hB => ?_)
      refine z_aload hB rfl (fun hB => ?_)
      refine y_geti ok hB hs (fun hB => ?_)
      refine z_ic_ge hB (fun hc _ => ?_) (fun hc _ => ?_)
      · have h := z_neg hc h
        cases h
        cases b2
        exact z_weak k5 (z_sn (z_sn (z_sn z_s0)))
      · have h := z_pos hc h
        have hB : z_all [z_is 116 10 (zf_aload 10 0 11), z_is 116 11 (zf_getr 11 5 7 14), z_is 116 14 (zf_iload 14 2 15), z_is 116 15 (zf_aald 15 16), z_is 116 16 (zf_geti 16 0 8 19), z_is 116 19 (zf_cst 19 (jn 2) 20), z_is 116 20 (zf_if2 .ne 20 47 23)] = true := by decide +kernel
        refine z_aload hB rfl (fun hB => ?_)
        refine y_getr (b := (s + 1)) ok hB hs (zst_r7 hs) (fun hB => ?_)
        refine z_iload hB rfl (fun hB => ?_)
        obtain ⟨g6, h⟩ := z_gd h
        refine y_fald ok hB (zst_k1 hs) (zst_l1 hs) g6 (zst_fR hs g6) (fun hB => ?_)
        refine y_geti ok hB (zst_fK hs g6) (fun hB => ?_)
        refine z_cst hB (fun hB => ?_)
        obtain ⟨q7, e8, h⟩ := z_bind h
        have k9 : z_R G 116 47 [some (.ref (s)), some (.int (x1)), some (.int (p1.1))] [] (z_w w q7) (.inl none) (z_w w r) := by
          have hB : z_all [z_is 116 47 (zf_iinc 47 2 (jn 1) 50), z_is 116 50 (zf_goto 50 2)] = true := by decide +kernel
          refine z_iinc hB rfl rfl (fun hB => ?_)
          refine z_goto hB (fun hB => ?_)
          cases h
          exact z_weak (i2 ((p1.1 + (jn 1)), q7) b2) (z_se (z_se (z_se z_s0)))
        have h := e8
        refine z_ic_ne hB (fun hc _ => ?_) (fun hc _ => ?_)
        · have h := z_neg hc h
          cases h
          exact z_weak k9 (z_se (z_se (z_se z_s0)))
        · have h := z_pos hc h
          have hB : z_all [z_is 116 23 (zf_aload 23 0 24), z_is 116 24 (zf_getr 24 5 7 27), z_is 116 27 (zf_iload 27 2 28), z_is 116 28 (zf_aald 28 29), z_is 116 29 (zf_cst 29 (jn 0) 30), z_is 116 30 (zf_aload 30 0 31), z_is 116 31 (zf_getr 31 5 7 34), z_is 116 34 (zf_iload 34 2 35), z_is 116 35 (zf_aald 35 36), z_is 116 36 (zf_geti 36 0 4 39), z_is 116 39 (zf_iload 39 1 40), z_is 116 40 (zf_isub 40 41), z_is 116 41 (zf_nat 41 100 44), z_is 116 44 (zf_puti 44 0 4 47)] = true := by decide +kernel
          refine z_aload hB rfl (fun hB => ?_)
          refine y_getr (b := (s + 1)) ok hB hs (zst_r7 hs) (fun hB => ?_)
          refine z_iload hB rfl (fun hB => ?_)
          obtain ⟨g10, h⟩ := z_gd h
          refine y_fald ok hB (zst_k1 hs) (zst_l1 hs) g10 (zst_fR hs g10) (fun hB => ?_)
          refine z_cst hB (fun hB => ?_)
          refine z_aload hB rfl (fun hB => ?_)
          refine y_getr (b := (s + 1)) ok hB hs (zst_r7 hs) (fun hB => ?_)
          refine z_iload hB rfl (fun hB => ?_)
          obtain ⟨g11, h⟩ := z_gd h
          refine y_fald ok hB (zst_k1 hs) (zst_l1 hs) g11 (zst_fR hs g11) (fun hB => ?_)
          refine y_geti ok hB (zst_fK hs g11) (fun hB => ?_)
          refine z_iload hB rfl (fun hB => ?_)
          refine z_isub hB (fun hB => ?_)
          refine z_max hB rfl (fun hB => ?_)
          refine y_puti ok hB (zst_fK hs g10) (fun hB => ?_)
          cases h
          exact z_weak k9 (z_se (z_se (z_se z_s0)))
  exact z_weak (l2 _ ((jn 0), I) e4) (z_se (z_se (z_se z_s0)))
def d_S_lastPegInUse_2 (s : Nat) (I : z_H) (p1 : Int32) : Option ((Int32) ⊕ (Int32)) := (if p1 < jn 0 then some (Sum.inr ((jg 1))) else (if z_in (p1) 8 then (if (I (s + 16) (z_n (p1))) = (jg 1) then some (Sum.inl ((p1 + (jg 1)))) else some (Sum.inr (p1))) else none))
def d_S_lastPegInUse (s : Nat) (I : z_H) : Option (Int32) := (z_it (d_S_lastPegInUse_2 s I) z_F ((jn 7)))
/-- State.lastPegInUse()I -/
theorem t_S_lastPegInUse {G : z_G} {w : ev_W} (ok : z_Ok G w) {s : Nat} (hs : zt 5 s = true) {I : z_H} {r : Int32} (h : d_S_lastPegInUse s I = some r) : z_K G 114 [.ref (s)] (z_w w I) (.inl (some (.int r))) (z_w w I) := by
  refine z_con ok.1 (ml := 2) (by decide +kernel) rfl rfl ?_
  show z_R G 114 0 [some (.ref (s)), none] [] (z_w w I) (.inl (some (.int r))) (z_w w I)
  unfold d_S_lastPegInUse at h
  have hB : z_all [z_is 114 0 (zf_cst 0 (jn 7) 2), z_is 114 2 (zf_istore 2 1 3)] = true := by decide +kernel
  refine z_cst hB (fun hB => ?_)
  refine z_istore hB rfl rfl (fun hB => ?_)
  have l2 : ∀ (m2 : Nat) (p1 : Int32), z_it (d_S_lastPegInUse_2 s I) m2 p1 = some r → z_R G 114 3 [some (.ref (s)), some (.int (p1))] [] (z_w w I) (.inl (some (.int r))) (z_w w I) := by
    intro m2
    induction m2 with
    | zero => intro p1 h; cases h
    | succ m2 i2 =>
      intro p1 h
      obtain ⟨u2, h, b2⟩ := z_it_o h
      unfold d_S_lastPegInUse_2 at h
      have hB : z_all [z_is 114 3 (zf_iload 3 1 4), z_is 114 4 (zf_if1 .lt 4 25 7)] = true := by decide +kernel
      refine z_iload hB rfl (fun hB => ?_)
      refine z_if_lt hB (fun hc _ => ?_) (fun hc _ => ?_)
      · have h := z_pos hc h
        have hB : z_all [z_is 114 25 (zf_cst 25 (jg 1) 26), z_is 114 26 (zf_ret 0)] = true := by decide +kernel
        refine z_cst hB (fun hB => ?_)
        cases h
        cases b2
        exact z_reti hB
      · have h := z_neg hc h
        have hB : z_all [z_is 114 7 (zf_aload 7 0 8), z_is 114 8 (zf_getr 8 5 10 11), z_is 114 11 (zf_iload 11 1 12), z_is 114 12 (zf_iald 12 13), z_is 114 13 (zf_cst 13 (jg 1) 14), z_is 114 14 (zf_if2 .eq 14 19 17)] = true := by decide +kernel
        refine z_aload hB rfl (fun hB => ?_)
        refine y_getr (b := (s + 16)) ok hB hs (zst_r10 hs) (fun hB => ?_)
        refine z_iload hB rfl (fun hB => ?_)
        obtain ⟨g3, h⟩ := z_gd h
        refine y_iald ok hB (zst_k16 hs) (zst_l16 hs) g3 (fun hB => ?_)
        refine z_cst hB (fun hB => ?_)
        refine z_ic_eq hB (fun hc _ => ?_) (fun hc _ => ?_)
        · have h := z_pos hc h
          have hB : z_all [z_is 114 19 (zf_iinc 19 1 (jg 1) 22), z_is 114 22 (zf_goto 22 3)] = true := by decide +kernel
          refine z_iinc hB rfl rfl (fun hB => ?_)
          refine z_goto hB (fun hB => ?_)
          cases h
          exact z_weak (i2 ((p1 + (jg 1))) b2) (z_se (z_se z_s0))
        · have h := z_neg hc h
          have hB : z_all [z_is 114 17 (zf_iload 17 1 18), z_is 114 18 (zf_ret 0)] = true := by decide +kernel
          refine z_iload hB rfl (fun hB => ?_)
          cases h
          cases b2
          exact z_reti hB
  exact z_weak (l2 _ ((jn 7)) h) (z_se (z_se z_s0))
def d_S_dropLastFromLine (s : Nat) (I : z_H) : Option (z_H) := ((d_S_lastPegInUse s I).bind fun q1 => (if q1 = (jg 1) then some (I) else (if z_in (q1) 8 then (if z_in ((I (s + 16) (z_n (q1)))) 12 then (if z_in (q1) 8 then ((d_G_moveTo (s + 2 + z_n ((I (s + 16) (z_n (q1))))) ((jn 0)) ((jg 1)) (ev_u2 I (s + 16) (z_n (q1)) (jg 1))).bind fun q6 => ((d_G_takeFall (s + 2 + z_n ((I (s + 16) (z_n (q1))))) q6).bind fun q8 => some ((ev_u2 q8 s 5 ((q8 s 5) + (jn 1)))))) else none) else none) else none)))
/-- State.dropLastFromLine()V -/
theorem t_S_dropLastFromLine {G : z_G} {w : ev_W} (ok : z_Ok G w) {s : Nat} (hs : zt 5 s = true) {I : z_H} {r : z_H} (h : d_S_dropLastFromLine s I = some r) : z_K G 117 [.ref (s)] (z_w w I) (.inl none) (z_w w r) := by
  refine z_con ok.1 (ml := 3) (by decide +kernel) rfl rfl ?_
  show z_R G 117 0 [some (.ref (s)), none, none] [] (z_w w I) (.inl none) (z_w w r)
  unfold d_S_dropLastFromLine at h
  have hB : z_all [z_is 117 0 (zf_aload 0 0 1), z_is 117 1 (zf_cv 1 114 0 5 4), z_is 117 4 (zf_istore 4 1 5), z_is 117 5 (zf_iload 5 1 6), z_is 117 6 (zf_cst 6 (jg 1) 7), z_is 117 7 (zf_if2 .ne 7 11 10)] = true := by decide +kernel
  refine z_aload hB rfl (fun hB => ?_)
  obtain ⟨q1, e2, h⟩ := z_bind h
  refine y_cv ok hB (as := []) (a := s) (rest := []) rfl rfl rfl hs (t_S_lastPegInUse (I := I) ok hs e2) (fun hB => ?_)
  refine z_istore hB rfl rfl (fun hB => ?_)
  refine z_iload hB rfl (fun hB => ?_)
  refine z_cst hB (fun hB => ?_)
  refine z_ic_ne hB (fun hc _ => ?_) (fun hc _ => ?_)
  · have h := z_neg hc h
    have hB : z_all [z_is 117 11 (zf_aload 11 0 12), z_is 117 12 (zf_getr 12 5 7 15), z_is 117 15 (zf_aload 15 0 16), z_is 117 16 (zf_getr 16 5 10 19), z_is 117 19 (zf_iload 19 1 20), z_is 117 20 (zf_iald 20 21), z_is 117 21 (zf_aald 21 22), z_is 117 22 (zf_astore 22 2 23), z_is 117 23 (zf_aload 23 0 24), z_is 117 24 (zf_getr 24 5 10 27), z_is 117 27 (zf_iload 27 1 28), z_is 117 28 (zf_cst 28 (jg 1) 29), z_is 117 29 (zf_iast 29 30), z_is 117 30 (zf_aload 30 2 31), z_is 117 31 (zf_cst 31 (jn 0) 32), z_is 117 32 (zf_cst 32 (jg 1) 33), z_is 117 33 (zf_cv 33 3 2 0 36), z_is 117 36 (zf_aload 36 2 37), z_is 117 37 (zf_cv 37 14 0 0 40), z_is 117 40 (zf_aload 40 0 41), z_is 117 41 (zf_dupr 41 42), z_is 117 42 (zf_geti 42 5 5 45), z_is 117 45 (zf_cst 45 (jn 1) 46), z_is 117 46 (zf_iadd 46 47), z_is 117 47 (zf_puti 47 5 5 50), z_is 117 50 (zf_ret 6)] = true := by decide +kernel
    refine z_aload hB rfl (fun hB => ?_)
    refine y_getr (b := (s + 1)) ok hB hs (zst_r7 hs) (fun hB => ?_)
    refine z_aload hB rfl (fun hB => ?_)
    refine y_getr (b := (s + 16)) ok hB hs (zst_r10 hs) (fun hB => ?_)
    refine z_iload hB rfl (fun hB => ?_)
    obtain ⟨g3, h⟩ := z_gd h
    refine y_iald ok hB (zst_k16 hs) (zst_l16 hs) g3 (fun hB => ?_)
    obtain ⟨g4, h⟩ := z_gd h
    refine y_fald ok hB (zst_k1 hs) (zst_l1 hs) g4 (zst_fR hs g4) (fun hB => ?_)
    refine z_astore hB rfl rfl (fun hB => ?_)
    refine z_aload hB rfl (fun hB => ?_)
    refine y_getr (b := (s + 16)) ok hB hs (zst_r10 hs) (fun hB => ?_)
    refine z_iload hB rfl (fun hB => ?_)
    refine z_cst hB (fun hB => ?_)
    obtain ⟨g5, h⟩ := z_gd h
    refine y_iast ok hB (zst_k16 hs) (zst_l16 hs) g5 (fun hB => ?_)
    refine z_aload hB rfl (fun hB => ?_)
    refine z_cst hB (fun hB => ?_)
    refine z_cst hB (fun hB => ?_)
    obtain ⟨q6, e7, h⟩ := z_bind h
    refine y_cv ok hB (as := [.int ((jn 0)), .int ((jg 1))]) (a := (s + 2 + z_n ((I (s + 16) (z_n (q1)))))) (rest := []) rfl rfl rfl (zst_fK hs g4) (t_G_moveTo (I := (ev_u2 I (s + 16) (z_n (q1)) (jg 1))) ok (zst_fK hs g4) e7) (fun hB => ?_)
    refine z_aload hB rfl (fun hB => ?_)
    obtain ⟨q8, e9, h⟩ := z_bind h
    refine y_cv ok hB (as := []) (a := (s + 2 + z_n ((I (s + 16) (z_n (q1)))))) (rest := []) rfl rfl rfl (zst_fK hs g4) (t_G_takeFall (I := q6) ok (zst_fK hs g4) e9) (fun hB => ?_)
    refine z_aload hB rfl (fun hB => ?_)
    refine z_dupr hB (fun hB => ?_)
    refine y_geti ok hB hs (fun hB => ?_)
    refine z_cst hB (fun hB => ?_)
    refine z_iadd hB (fun hB => ?_)
    refine y_puti ok hB hs (fun hB => ?_)
    cases h
    exact z_retv hB
  · have h := z_pos hc h
    have hB : z_all [z_is 117 10 (zf_ret 6)] = true := by decide +kernel
    cases h
    exact z_retv hB
def d_S_passHours_2 (s : Nat) (x1 : Int32) (p1 : Int32 × z_H) : Option ((Int32 × z_H) ⊕ (Int32 × z_H)) := (if p1.1 < x1 then ((d_S_dryOnLine s (((jn 1) + ((p1.2 s 1) / (jn 3)))) p1.2).bind fun q6 => (Option.bind (α := z_H) (if (q6 s 1) < (jn 7) then some (q6) else ((d_S_dropLastFromLine s q6).bind fun q11 => some (q11))) fun q8 => some (Sum.inl ((p1.1 + (jn 1)), (ev_u2 q8 s 0 ((q8 s 0) + (jn 1))))))) else some (Sum.inr (p1.1, p1.2)))
def d_S_passHours (s : Nat) (x1 : Int32) (I : z_H) : Option (Int32 × z_H) := ((z_it (d_S_passHours_2 s x1) z_F ((jn 0), I)).bind fun q3 => some ((((q3.2 s 5) - (I s 5)), q3.2)))
/-- State.passHours(I)I -/
theorem t_S_passHours {G : z_G} {w : ev_W} (ok : z_Ok G w) {s : Nat} {x1 : Int32} (hs : zt 5 s = true) {I : z_H} {r : Int32 × z_H} (h : d_S_passHours s x1 I = some r) : z_K G 115 [.ref (s), .int (x1)] (z_w w I) (.inl (some (.int r.1))) (z_w w r.2) := by
  refine z_con ok.1 (ml := 4) (by decide +kernel) rfl rfl ?_
  show z_R G 115 0 [some (.ref (s)), some (.int (x1)), none, none] [] (z_w w I) (.inl (some (.int r.1))) (z_w w r.2)
  unfold d_S_passHours at h
  have hB : z_all [z_is 115 0 (zf_aload 0 0 1), z_is 115 1 (zf_geti 1 5 5 4), z_is 115 4 (zf_istore 4 2 5), z_is 115 5 (zf_cst 5 (jn 0) 6), z_is 115 6 (zf_istore 6 3 7)] = true := by decide +kernel
  refine z_aload hB rfl (fun hB => ?_)
  refine y_geti ok hB hs (fun hB => ?_)
  refine z_istore hB rfl rfl (fun hB => ?_)
  refine z_cst hB (fun hB => ?_)
  refine z_istore hB rfl rfl (fun hB => ?_)
  obtain ⟨q3, e4, h⟩ := z_bind h
  have k5 : z_R G 115 53 [some (.ref (s)), none, some (.int ((I s 5))), none] [] (z_w w q3.2) (.inl (some (.int r.1))) (z_w w r.2) := by
    have hB : z_all [z_is 115 53 (zf_aload 53 0 54), z_is 115 54 (zf_geti 54 5 5 57), z_is 115 57 (zf_iload 57 2 58), z_is 115 58 (zf_isub 58 59), z_is 115 59 (zf_ret 0)] = true := by decide +kernel
    refine z_aload hB rfl (fun hB => ?_)
    refine y_geti ok hB hs (fun hB => ?_)
    refine z_iload hB rfl (fun hB => ?_)
    refine z_isub hB (fun hB => ?_)
    cases h
    exact z_reti hB
  have l2 : ∀ (m2 : Nat) (p1 : Int32 × z_H), z_it (d_S_passHours_2 s x1) m2 p1 = some q3 → z_R G 115 7 [some (.ref (s)), some (.int (x1)), some (.int ((I s 5))), some (.int (p1.1))] [] (z_w w p1.2) (.inl (some (.int r.1))) (z_w w r.2) := by
    intro m2
    induction m2 with
    | zero => intro p1 h; cases h
    | succ m2 i2 =>
      intro p1 h
      obtain ⟨u2, h, b2⟩ := z_it_o h
      unfold d_S_passHours_2 at h
      have hB : z_all [z_is 115 7 (zf_iload 7 3 8), z_is 115 8 (zf_iload 8 1 9), z_is 115 9 (zf_if2 .ge 9 53 12)] = true := by decide +kernel
      refine z_iload hB rfl (fun hB => ?_)
      refine z_iload hB rfl (fun hB => ?_)
      refine z_ic_ge hB (fun hc _ => ?_) (fun hc _ => ?_)
      · have h := z_neg hc h
        cases h
        cases b2
        exact z_weak k5 (z_se (z_sn (z_se (z_sn z_s0))))
      · have h := z_pos hc h
        have hB : z_all [z_is 115 12 (zf_aload 12 0 13), z_is 115 13 (zf_cst 13 (jn 1) 14), z_is 115 14 (zf_aload 14 0 15), z_is 115 15 (zf_geti 15 5 1 18), z_is 115 18 (zf_cst 18 (jn 3) 19), z_is 115 19 (zf_idiv 19 20), z_is 115 20 (zf_iadd 20 21), z_is 115 21 (zf_cv 21 116 1 5 24), z_is 115 24 (zf_aload 24 0 25), z_is 115 25 (zf_geti 25 5 1 28), z_is 115 28 (zf_cst 28 (jn 7) 30), z_is 115 30 (zf_if2 .lt 30 37 33)] = true := by decide +kernel
        refine z_aload hB rfl (fun hB => ?_)
        refine z_cst hB (fun hB => ?_)
        refine z_aload hB rfl (fun hB => ?_)
        refine y_geti ok hB hs (fun hB => ?_)
        refine z_cst hB (fun hB => ?_)
        refine z_idiv hB (by decide) (fun hB => ?_)
        refine z_iadd hB (fun hB => ?_)
        obtain ⟨q6, e7, h⟩ := z_bind h
        refine y_cv ok hB (as := [.int (((jn 1) + ((p1.2 s 1) / (jn 3))))]) (a := s) (rest := []) rfl rfl rfl hs (t_S_dryOnLine (I := p1.2) ok hs e7) (fun hB => ?_)
        refine z_aload hB rfl (fun hB => ?_)
        refine y_geti ok hB hs (fun hB => ?_)
        refine z_cst hB (fun hB => ?_)
        obtain ⟨q8, e9, h⟩ := z_bind h
        have k10 : z_R G 115 37 [some (.ref (s)), some (.int (x1)), some (.int ((I s 5))), some (.int (p1.1))] [] (z_w w q8) (.inl (some (.int r.1))) (z_w w r.2) := by
          have hB : z_all [z_is 115 37 (zf_aload 37 0 38), z_is 115 38 (zf_dupr 38 39), z_is 115 39 (zf_geti 39 5 0 42), z_is 115 42 (zf_cst 42 (jn 1) 43), z_is 115 43 (zf_iadd 43 44), z_is 115 44 (zf_puti 44 5 0 47), z_is 115 47 (zf_iinc 47 3 (jn 1) 50), z_is 115 50 (zf_goto 50 7)] = true := by decide +kernel
          refine z_aload hB rfl (fun hB => ?_)
          refine z_dupr hB (fun hB => ?_)
          refine y_geti ok hB hs (fun hB => ?_)
          refine z_cst hB (fun hB => ?_)
          refine z_iadd hB (fun hB => ?_)
          refine y_puti ok hB hs (fun hB => ?_)
          refine z_iinc hB rfl rfl (fun hB => ?_)
          refine z_goto hB (fun hB => ?_)
          cases h
          exact z_weak (i2 ((p1.1 + (jn 1)), (ev_u2 q8 s 0 ((q8 s 0) + (jn 1)))) b2) (z_se (z_se (z_se (z_se z_s0))))
        have h := e9
        refine z_ic_lt hB (fun hc _ => ?_) (fun hc _ => ?_)
        · have h := z_pos hc h
          cases h
          exact z_weak k10 (z_se (z_se (z_se (z_se z_s0))))
        · have h := z_neg hc h
          have hB : z_all [z_is 115 33 (zf_aload 33 0 34), z_is 115 34 (zf_cv 34 117 0 5 37)] = true := by decide +kernel
          refine z_aload hB rfl (fun hB => ?_)
          obtain ⟨q11, e12, h⟩ := z_bind h
          refine y_cv ok hB (as := []) (a := s) (rest := []) rfl rfl rfl hs (t_S_dropLastFromLine (I := q6) ok hs e12) (fun hB => ?_)
          cases h
          exact z_weak k10 (z_se (z_se (z_se (z_se z_s0))))
  exact z_weak (l2 _ ((jn 0), I) e4) (z_se (z_se (z_se (z_se z_s0))))
def d_S_flagInTub (s : Nat) (x1 : Int32) (x2 : Int32) (I : z_H) : Option (Int32) := (if z_in (((x1 * (jn 6)) + x2)) 18 then some ((I (s + 15) (z_n (((x1 * (jn 6)) + x2))))) else none)
/-- State.flagInTub(II)I -/
theorem t_S_flagInTub {G : z_G} {w : ev_W} (ok : z_Ok G w) {s : Nat} {x1 : Int32} {x2 : Int32} (hs : zt 5 s = true) {I : z_H} {r : Int32} (h : d_S_flagInTub s x1 x2 I = some r) : z_K G 97 [.ref (s), .int (x1), .int (x2)] (z_w w I) (.inl (some (.int r))) (z_w w I) := by
  refine z_con ok.1 (ml := 3) (by decide +kernel) rfl rfl ?_
  show z_R G 97 0 [some (.ref (s)), some (.int (x1)), some (.int (x2))] [] (z_w w I) (.inl (some (.int r))) (z_w w I)
  unfold d_S_flagInTub at h
  have hB : z_all [z_is 97 0 (zf_aload 0 0 1), z_is 97 1 (zf_getr 1 5 9 4), z_is 97 4 (zf_iload 4 1 5), z_is 97 5 (zf_cst 5 (jn 6) 7), z_is 97 7 (zf_imul 7 8), z_is 97 8 (zf_iload 8 2 9), z_is 97 9 (zf_iadd 9 10), z_is 97 10 (zf_iald 10 11), z_is 97 11 (zf_ret 0)] = true := by decide +kernel
  refine z_aload hB rfl (fun hB => ?_)
  refine y_getr (b := (s + 15)) ok hB hs (zst_r9 hs) (fun hB => ?_)
  refine z_iload hB rfl (fun hB => ?_)
  refine z_cst hB (fun hB => ?_)
  refine z_imul hB (fun hB => ?_)
  refine z_iload hB rfl (fun hB => ?_)
  refine z_iadd hB (fun hB => ?_)
  obtain ⟨g1, h⟩ := z_gd h
  refine y_iald ok hB (zst_k15 hs) (zst_l15 hs) g1 (fun hB => ?_)
  cases h
  exact z_reti hB
def d_S_readyFlags_2 (s : Nat) (I : z_H) (p1 : Int32 × Int32) : Option ((Int32 × Int32) ⊕ (Int32 × Int32)) := (if p1.2 < (I s 6) then (if z_in (p1.2) 12 then ((d_G_isReady (s + 2 + z_n (p1.2)) I).bind fun q7 => (Option.bind (α := Int32) (if q7 = jn 0 then some (p1.1) else some ((p1.1 + (jn 1)))) fun q9 => some (Sum.inl (q9, (p1.2 + (jn 1)))))) else none) else some (Sum.inr (p1.1, p1.2)))
def d_S_readyFlags (s : Nat) (I : z_H) : Option (Int32) := ((z_it (d_S_readyFlags_2 s I) z_F ((jn 0), (jn 0))).bind fun q3 => some (q3.1))
/-- State.readyFlags()I -/
theorem t_S_readyFlags {G : z_G} {w : ev_W} (ok : z_Ok G w) {s : Nat} (hs : zt 5 s = true) {I : z_H} {r : Int32} (h : d_S_readyFlags s I = some r) : z_K G 101 [.ref (s)] (z_w w I) (.inl (some (.int r))) (z_w w I) := by
  refine z_con ok.1 (ml := 3) (by decide +kernel) rfl rfl ?_
  show z_R G 101 0 [some (.ref (s)), none, none] [] (z_w w I) (.inl (some (.int r))) (z_w w I)
  unfold d_S_readyFlags at h
  have hB : z_all [z_is 101 0 (zf_cst 0 (jn 0) 1), z_is 101 1 (zf_istore 1 1 2), z_is 101 2 (zf_cst 2 (jn 0) 3), z_is 101 3 (zf_istore 3 2 4)] = true := by decide +kernel
  refine z_cst hB (fun hB => ?_)
  refine z_istore hB rfl rfl (fun hB => ?_)
  refine z_cst hB (fun hB => ?_)
  refine z_istore hB rfl rfl (fun hB => ?_)
  obtain ⟨q3, e4, h⟩ := z_bind h
  have k5 : z_R G 101 33 [none, some (.int (q3.1)), none] [] (z_w w I) (.inl (some (.int r))) (z_w w I) := by
    have hB : z_all [z_is 101 33 (zf_iload 33 1 34), z_is 101 34 (zf_ret 0)] = true := by decide +kernel
    refine z_iload hB rfl (fun hB => ?_)
    cases h
    exact z_reti hB
  have l2 : ∀ (m2 : Nat) (p1 : Int32 × Int32), z_it (d_S_readyFlags_2 s I) m2 p1 = some q3 → z_R G 101 4 [some (.ref (s)), some (.int (p1.1)), some (.int (p1.2))] [] (z_w w I) (.inl (some (.int r))) (z_w w I) := by
    intro m2
    induction m2 with
    | zero => intro p1 h; cases h
    | succ m2 i2 =>
      intro p1 h
      obtain ⟨u2, h, b2⟩ := z_it_o h
      unfold d_S_readyFlags_2 at h
      have hB : z_all [z_is 101 4 (zf_iload 4 2 5), z_is 101 5 (zf_aload 5 0 6), z_is 101 6 (zf_geti 6 5 6 9), z_is 101 9 (zf_if2 .ge 9 33 12)] = true := by decide +kernel
      refine z_iload hB rfl (fun hB => ?_)
      refine z_aload hB rfl (fun hB => ?_)
      refine y_geti ok hB hs (fun hB => ?_)
      refine z_ic_ge hB (fun hc _ => ?_) (fun hc _ => ?_)
      · have h := z_neg hc h
        cases h
        cases b2
        exact z_weak k5 (z_sn (z_se (z_sn z_s0)))
      · have h := z_pos hc h
        have hB : z_all [z_is 101 12 (zf_aload 12 0 13), z_is 101 13 (zf_getr 13 5 7 16), z_is 101 16 (zf_iload 16 2 17), z_is 101 17 (zf_aald 17 18), z_is 101 18 (zf_cv 18 6 0 0 21), z_is 101 21 (zf_if1 .eq 21 27 24)] = true := by decide +kernel
        refine z_aload hB rfl (fun hB => ?_)
        refine y_getr (b := (s + 1)) ok hB hs (zst_r7 hs) (fun hB => ?_)
        refine z_iload hB rfl (fun hB => ?_)
        obtain ⟨g6, h⟩ := z_gd h
        refine y_fald ok hB (zst_k1 hs) (zst_l1 hs) g6 (zst_fR hs g6) (fun hB => ?_)
        obtain ⟨q7, e8, h⟩ := z_bind h
        refine y_cv ok hB (as := []) (a := (s + 2 + z_n (p1.2))) (rest := []) rfl rfl rfl (zst_fK hs g6) (t_G_isReady (I := I) ok (zst_fK hs g6) e8) (fun hB => ?_)
        obtain ⟨q9, e10, h⟩ := z_bind h
        have k11 : z_R G 101 27 [some (.ref (s)), some (.int (q9)), some (.int (p1.2))] [] (z_w w I) (.inl (some (.int r))) (z_w w I) := by
          have hB : z_all [z_is 101 27 (zf_iinc 27 2 (jn 1) 30), z_is 101 30 (zf_goto 30 4)] = true := by decide +kernel
          refine z_iinc hB rfl rfl (fun hB => ?_)
          refine z_goto hB (fun hB => ?_)
          cases h
          exact z_weak (i2 (q9, (p1.2 + (jn 1))) b2) (z_se (z_se (z_se z_s0)))
        have h := e10
        refine z_if_eq hB (fun hc _ => ?_) (fun hc _ => ?_)
        · have h := z_pos hc h
          cases h
          exact z_weak k11 (z_se (z_se (z_se z_s0)))
        · have h := z_neg hc h
          have hB : z_all [z_is 101 24 (zf_iinc 24 1 (jn 1) 27)] = true := by decide +kernel
          refine z_iinc hB rfl rfl (fun hB => ?_)
          cases h
          exact z_weak k11 (z_se (z_se (z_se z_s0)))
  exact z_weak (l2 _ ((jn 0), (jn 0)) e4) (z_se (z_se (z_se z_s0)))
def d_S_readyFlagsOf_2 (s : Nat) (x1 : Int32) (I : z_H) (p1 : Int32 × Int32) : Option ((Int32 × Int32) ⊕ (Int32 × Int32)) := (if p1.2 < (I s 6) then (if z_in (p1.2) 12 then (Option.bind (α := Int32) (if (I (s + 2 + z_n (p1.2)) 0) = x1 then (if z_in (p1.2) 12 then ((d_G_isReady (s + 2 + z_n (p1.2)) I).bind fun q11 => (if q11 = jn 0 then some (p1.1) else some ((p1.1 + (jn 1))))) else none) else some (p1.1)) fun q7 => some (Sum.inl (q7, (p1.2 + (jn 1))))) else none) else some (Sum.inr (p1.1, p1.2)))
def d_S_readyFlagsOf (s : Nat) (x1 : Int32) (I : z_H) : Option (Int32) := ((z_it (d_S_readyFlagsOf_2 s x1 I) z_F ((jn 0), (jn 0))).bind fun q3 => some (q3.1))
/-- State.readyFlagsOf(I)I -/
theorem t_S_readyFlagsOf {G : z_G} {w : ev_W} (ok : z_Ok G w) {s : Nat} {x1 : Int32} (hs : zt 5 s = true) {I : z_H} {r : Int32} (h : d_S_readyFlagsOf s x1 I = some r) : z_K G 103 [.ref (s), .int (x1)] (z_w w I) (.inl (some (.int r))) (z_w w I) := by
  refine z_con ok.1 (ml := 4) (by decide +kernel) rfl rfl ?_
  show z_R G 103 0 [some (.ref (s)), some (.int (x1)), none, none] [] (z_w w I) (.inl (some (.int r))) (z_w w I)
  unfold d_S_readyFlagsOf at h
  have hB : z_all [z_is 103 0 (zf_cst 0 (jn 0) 1), z_is 103 1 (zf_istore 1 2 2), z_is 103 2 (zf_cst 2 (jn 0) 3), z_is 103 3 (zf_istore 3 3 4)] = true := by decide +kernel
  refine z_cst hB (fun hB => ?_)
  refine z_istore hB rfl rfl (fun hB => ?_)
  refine z_cst hB (fun hB => ?_)
  refine z_istore hB rfl rfl (fun hB => ?_)
  obtain ⟨q3, e4, h⟩ := z_bind h
  have k5 : z_R G 103 46 [none, none, some (.int (q3.1)), none] [] (z_w w I) (.inl (some (.int r))) (z_w w I) := by
    have hB : z_all [z_is 103 46 (zf_iload 46 2 47), z_is 103 47 (zf_ret 0)] = true := by decide +kernel
    refine z_iload hB rfl (fun hB => ?_)
    cases h
    exact z_reti hB
  have l2 : ∀ (m2 : Nat) (p1 : Int32 × Int32), z_it (d_S_readyFlagsOf_2 s x1 I) m2 p1 = some q3 → z_R G 103 4 [some (.ref (s)), some (.int (x1)), some (.int (p1.1)), some (.int (p1.2))] [] (z_w w I) (.inl (some (.int r))) (z_w w I) := by
    intro m2
    induction m2 with
    | zero => intro p1 h; cases h
    | succ m2 i2 =>
      intro p1 h
      obtain ⟨u2, h, b2⟩ := z_it_o h
      unfold d_S_readyFlagsOf_2 at h
      have hB : z_all [z_is 103 4 (zf_iload 4 3 5), z_is 103 5 (zf_aload 5 0 6), z_is 103 6 (zf_geti 6 5 6 9), z_is 103 9 (zf_if2 .ge 9 46 12)] = true := by decide +kernel
      refine z_iload hB rfl (fun hB => ?_)
      refine z_aload hB rfl (fun hB => ?_)
      refine y_geti ok hB hs (fun hB => ?_)
      refine z_ic_ge hB (fun hc _ => ?_) (fun hc _ => ?_)
      · have h := z_neg hc h
        cases h
        cases b2
        exact z_weak k5 (z_sn (z_sn (z_se (z_sn z_s0))))
      · have h := z_pos hc h
        have hB : z_all [z_is 103 12 (zf_aload 12 0 13), z_is 103 13 (zf_getr 13 5 7 16), z_is 103 16 (zf_iload 16 3 17), z_is 103 17 (zf_aald 17 18), z_is 103 18 (zf_geti 18 0 0 21), z_is 103 21 (zf_iload 21 1 22), z_is 103 22 (zf_if2 .ne 22 40 25)] = true := by decide +kernel
        refine z_aload hB rfl (fun hB => ?_)
        refine y_getr (b := (s + 1)) ok hB hs (zst_r7 hs) (fun hB => ?_)
        refine z_iload hB rfl (fun hB => ?_)
        obtain ⟨g6, h⟩ := z_gd h
        refine y_fald ok hB (zst_k1 hs) (zst_l1 hs) g6 (zst_fR hs g6) (fun hB => ?_)
        refine y_geti ok hB (zst_fK hs g6) (fun hB => ?_)
        refine z_iload hB rfl (fun hB => ?_)
        obtain ⟨q7, e8, h⟩ := z_bind h
        have k9 : z_R G 103 40 [some (.ref (s)), some (.int (x1)), some (.int (q7)), some (.int (p1.2))] [] (z_w w I) (.inl (some (.int r))) (z_w w I) := by
          have hB : z_all [z_is 103 40 (zf_iinc 40 3 (jn 1) 43), z_is 103 43 (zf_goto 43 4)] = true := by decide +kernel
          refine z_iinc hB rfl rfl (fun hB => ?_)
          refine z_goto hB (fun hB => ?_)
          cases h
          exact z_weak (i2 (q7, (p1.2 + (jn 1))) b2) (z_se (z_se (z_se (z_se z_s0))))
        have h := e8
        refine z_ic_ne hB (fun hc _ => ?_) (fun hc _ => ?_)
        · have h := z_neg hc h
          cases h
          exact z_weak k9 (z_se (z_se (z_se (z_se z_s0))))
        · have h := z_pos hc h
          have hB : z_all [z_is 103 25 (zf_aload 25 0 26), z_is 103 26 (zf_getr 26 5 7 29), z_is 103 29 (zf_iload 29 3 30), z_is 103 30 (zf_aald 30 31), z_is 103 31 (zf_cv 31 6 0 0 34), z_is 103 34 (zf_if1 .eq 34 40 37)] = true := by decide +kernel
          refine z_aload hB rfl (fun hB => ?_)
          refine y_getr (b := (s + 1)) ok hB hs (zst_r7 hs) (fun hB => ?_)
          refine z_iload hB rfl (fun hB => ?_)
          obtain ⟨g10, h⟩ := z_gd h
          refine y_fald ok hB (zst_k1 hs) (zst_l1 hs) g10 (zst_fR hs g10) (fun hB => ?_)
          obtain ⟨q11, e12, h⟩ := z_bind h
          refine y_cv ok hB (as := []) (a := (s + 2 + z_n (p1.2))) (rest := []) rfl rfl rfl (zst_fK hs g10) (t_G_isReady (I := I) ok (zst_fK hs g10) e12) (fun hB => ?_)
          refine z_if_eq hB (fun hc _ => ?_) (fun hc _ => ?_)
          · have h := z_pos hc h
            cases h
            exact z_weak k9 (z_se (z_se (z_se (z_se z_s0))))
          · have h := z_neg hc h
            have hB : z_all [z_is 103 37 (zf_iinc 37 2 (jn 1) 40)] = true := by decide +kernel
            refine z_iinc hB rfl rfl (fun hB => ?_)
            cases h
            exact z_weak k9 (z_se (z_se (z_se (z_se z_s0))))
  exact z_weak (l2 _ ((jn 0), (jn 0)) e4) (z_se (z_se (z_se (z_se z_s0))))
def d_S_flagsWithColour_2 (s : Nat) (x1 : Int32) (I : z_H) (p1 : Int32 × Int32) : Option ((Int32 × Int32) ⊕ (Int32 × Int32)) := (if p1.2 < (I s 6) then (if z_in (p1.2) 12 then some (Sum.inl ((p1.1 + (((I (s + 2 + z_n (p1.2)) 1) >>> (x1 &&& 31)) &&& (jn 1))), (p1.2 + (jn 1)))) else none) else some (Sum.inr (p1.1, p1.2)))
def d_S_flagsWithColour (s : Nat) (x1 : Int32) (I : z_H) : Option (Int32) := ((z_it (d_S_flagsWithColour_2 s x1 I) z_F ((jn 0), (jn 0))).bind fun q3 => some (q3.1))
/-- State.flagsWithColour(I)I -/
theorem t_S_flagsWithColour {G : z_G} {w : ev_W} (ok : z_Ok G w) {s : Nat} {x1 : Int32} (hs : zt 5 s = true) {I : z_H} {r : Int32} (h : d_S_flagsWithColour s x1 I = some r) : z_K G 105 [.ref (s), .int (x1)] (z_w w I) (.inl (some (.int r))) (z_w w I) := by
  refine z_con ok.1 (ml := 4) (by decide +kernel) rfl rfl ?_
  show z_R G 105 0 [some (.ref (s)), some (.int (x1)), none, none] [] (z_w w I) (.inl (some (.int r))) (z_w w I)
  unfold d_S_flagsWithColour at h
  have hB : z_all [z_is 105 0 (zf_cst 0 (jn 0) 1), z_is 105 1 (zf_istore 1 2 2), z_is 105 2 (zf_cst 2 (jn 0) 3), z_is 105 3 (zf_istore 3 3 4)] = true := by decide +kernel
  refine z_cst hB (fun hB => ?_)
  refine z_istore hB rfl rfl (fun hB => ?_)
  refine z_cst hB (fun hB => ?_)
  refine z_istore hB rfl rfl (fun hB => ?_)
  obtain ⟨q3, e4, h⟩ := z_bind h
  have k5 : z_R G 105 34 [none, none, some (.int (q3.1)), none] [] (z_w w I) (.inl (some (.int r))) (z_w w I) := by
    have hB : z_all [z_is 105 34 (zf_iload 34 2 35), z_is 105 35 (zf_ret 0)] = true := by decide +kernel
    refine z_iload hB rfl (fun hB => ?_)
    cases h
    exact z_reti hB
  have l2 : ∀ (m2 : Nat) (p1 : Int32 × Int32), z_it (d_S_flagsWithColour_2 s x1 I) m2 p1 = some q3 → z_R G 105 4 [some (.ref (s)), some (.int (x1)), some (.int (p1.1)), some (.int (p1.2))] [] (z_w w I) (.inl (some (.int r))) (z_w w I) := by
    intro m2
    induction m2 with
    | zero => intro p1 h; cases h
    | succ m2 i2 =>
      intro p1 h
      obtain ⟨u2, h, b2⟩ := z_it_o h
      unfold d_S_flagsWithColour_2 at h
      have hB : z_all [z_is 105 4 (zf_iload 4 3 5), z_is 105 5 (zf_aload 5 0 6), z_is 105 6 (zf_geti 6 5 6 9), z_is 105 9 (zf_if2 .ge 9 34 12)] = true := by decide +kernel
      refine z_iload hB rfl (fun hB => ?_)
      refine z_aload hB rfl (fun hB => ?_)
      refine y_geti ok hB hs (fun hB => ?_)
      refine z_ic_ge hB (fun hc _ => ?_) (fun hc _ => ?_)
      · have h := z_neg hc h
        cases h
        cases b2
        exact z_weak k5 (z_sn (z_sn (z_se (z_sn z_s0))))
      · have h := z_pos hc h
        have hB : z_all [z_is 105 12 (zf_iload 12 2 13), z_is 105 13 (zf_aload 13 0 14), z_is 105 14 (zf_getr 14 5 7 17), z_is 105 17 (zf_iload 17 3 18), z_is 105 18 (zf_aald 18 19), z_is 105 19 (zf_geti 19 0 1 22), z_is 105 22 (zf_iload 22 1 23), z_is 105 23 (zf_ishr 23 24), z_is 105 24 (zf_cst 24 (jn 1) 25), z_is 105 25 (zf_iand 25 26), z_is 105 26 (zf_iadd 26 27), z_is 105 27 (zf_istore 27 2 28), z_is 105 28 (zf_iinc 28 3 (jn 1) 31), z_is 105 31 (zf_goto 31 4)] = true := by decide +kernel
        refine z_iload hB rfl (fun hB => ?_)
        refine z_aload hB rfl (fun hB => ?_)
        refine y_getr (b := (s + 1)) ok hB hs (zst_r7 hs) (fun hB => ?_)
        refine z_iload hB rfl (fun hB => ?_)
        obtain ⟨g6, h⟩ := z_gd h
        refine y_fald ok hB (zst_k1 hs) (zst_l1 hs) g6 (zst_fR hs g6) (fun hB => ?_)
        refine y_geti ok hB (zst_fK hs g6) (fun hB => ?_)
        refine z_iload hB rfl (fun hB => ?_)
        refine z_ishr hB (fun hB => ?_)
        refine z_cst hB (fun hB => ?_)
        refine z_iand hB (fun hB => ?_)
        refine z_iadd hB (fun hB => ?_)
        refine z_istore hB rfl rfl (fun hB => ?_)
        refine z_iinc hB rfl rfl (fun hB => ?_)
        refine z_goto hB (fun hB => ?_)
        cases h
        exact z_weak (i2 ((p1.1 + (((I (s + 2 + z_n (p1.2)) 1) >>> (x1 &&& 31)) &&& (jn 1))), (p1.2 + (jn 1))) b2) (z_se (z_se (z_se (z_se z_s0))))
  exact z_weak (l2 _ ((jn 0), (jn 0)) e4) (z_se (z_se (z_se (z_se z_s0))))
def d_S_flagsStainedBy_2 (s : Nat) (x1 : Int32) (I : z_H) (p1 : Int32 × Int32) : Option ((Int32 × Int32) ⊕ (Int32 × Int32)) := (if p1.2 < (I s 6) then (if z_in (p1.2) 12 then some (Sum.inl ((p1.1 + (((I (s + 2 + z_n (p1.2)) 6) >>> (x1 &&& 31)) &&& (jn 1))), (p1.2 + (jn 1)))) else none) else some (Sum.inr (p1.1, p1.2)))
def d_S_flagsStainedBy (s : Nat) (x1 : Int32) (I : z_H) : Option (Int32) := ((z_it (d_S_flagsStainedBy_2 s x1 I) z_F ((jn 0), (jn 0))).bind fun q3 => some (q3.1))
/-- State.flagsStainedBy(I)I -/
theorem t_S_flagsStainedBy {G : z_G} {w : ev_W} (ok : z_Ok G w) {s : Nat} {x1 : Int32} (hs : zt 5 s = true) {I : z_H} {r : Int32} (h : d_S_flagsStainedBy s x1 I = some r) : z_K G 106 [.ref (s), .int (x1)] (z_w w I) (.inl (some (.int r))) (z_w w I) := by
  refine z_con ok.1 (ml := 4) (by decide +kernel) rfl rfl ?_
  show z_R G 106 0 [some (.ref (s)), some (.int (x1)), none, none] [] (z_w w I) (.inl (some (.int r))) (z_w w I)
  unfold d_S_flagsStainedBy at h
  have hB : z_all [z_is 106 0 (zf_cst 0 (jn 0) 1), z_is 106 1 (zf_istore 1 2 2), z_is 106 2 (zf_cst 2 (jn 0) 3), z_is 106 3 (zf_istore 3 3 4)] = true := by decide +kernel
  refine z_cst hB (fun hB => ?_)
  refine z_istore hB rfl rfl (fun hB => ?_)
  refine z_cst hB (fun hB => ?_)
  refine z_istore hB rfl rfl (fun hB => ?_)
  obtain ⟨q3, e4, h⟩ := z_bind h
  have k5 : z_R G 106 34 [none, none, some (.int (q3.1)), none] [] (z_w w I) (.inl (some (.int r))) (z_w w I) := by
    have hB : z_all [z_is 106 34 (zf_iload 34 2 35), z_is 106 35 (zf_ret 0)] = true := by decide +kernel
    refine z_iload hB rfl (fun hB => ?_)
    cases h
    exact z_reti hB
  have l2 : ∀ (m2 : Nat) (p1 : Int32 × Int32), z_it (d_S_flagsStainedBy_2 s x1 I) m2 p1 = some q3 → z_R G 106 4 [some (.ref (s)), some (.int (x1)), some (.int (p1.1)), some (.int (p1.2))] [] (z_w w I) (.inl (some (.int r))) (z_w w I) := by
    intro m2
    induction m2 with
    | zero => intro p1 h; cases h
    | succ m2 i2 =>
      intro p1 h
      obtain ⟨u2, h, b2⟩ := z_it_o h
      unfold d_S_flagsStainedBy_2 at h
      have hB : z_all [z_is 106 4 (zf_iload 4 3 5), z_is 106 5 (zf_aload 5 0 6), z_is 106 6 (zf_geti 6 5 6 9), z_is 106 9 (zf_if2 .ge 9 34 12)] = true := by decide +kernel
      refine z_iload hB rfl (fun hB => ?_)
      refine z_aload hB rfl (fun hB => ?_)
      refine y_geti ok hB hs (fun hB => ?_)
      refine z_ic_ge hB (fun hc _ => ?_) (fun hc _ => ?_)
      · have h := z_neg hc h
        cases h
        cases b2
        exact z_weak k5 (z_sn (z_sn (z_se (z_sn z_s0))))
      · have h := z_pos hc h
        have hB : z_all [z_is 106 12 (zf_iload 12 2 13), z_is 106 13 (zf_aload 13 0 14), z_is 106 14 (zf_getr 14 5 7 17), z_is 106 17 (zf_iload 17 3 18), z_is 106 18 (zf_aald 18 19), z_is 106 19 (zf_geti 19 0 6 22), z_is 106 22 (zf_iload 22 1 23), z_is 106 23 (zf_ishr 23 24), z_is 106 24 (zf_cst 24 (jn 1) 25), z_is 106 25 (zf_iand 25 26), z_is 106 26 (zf_iadd 26 27), z_is 106 27 (zf_istore 27 2 28), z_is 106 28 (zf_iinc 28 3 (jn 1) 31), z_is 106 31 (zf_goto 31 4)] = true := by decide +kernel
        refine z_iload hB rfl (fun hB => ?_)
        refine z_aload hB rfl (fun hB => ?_)
        refine y_getr (b := (s + 1)) ok hB hs (zst_r7 hs) (fun hB => ?_)
        refine z_iload hB rfl (fun hB => ?_)
        obtain ⟨g6, h⟩ := z_gd h
        refine y_fald ok hB (zst_k1 hs) (zst_l1 hs) g6 (zst_fR hs g6) (fun hB => ?_)
        refine y_geti ok hB (zst_fK hs g6) (fun hB => ?_)
        refine z_iload hB rfl (fun hB => ?_)
        refine z_ishr hB (fun hB => ?_)
        refine z_cst hB (fun hB => ?_)
        refine z_iand hB (fun hB => ?_)
        refine z_iadd hB (fun hB => ?_)
        refine z_istore hB rfl rfl (fun hB => ?_)
        refine z_iinc hB rfl rfl (fun hB => ?_)
        refine z_goto hB (fun hB => ?_)
        cases h
        exact z_weak (i2 ((p1.1 + (((I (s + 2 + z_n (p1.2)) 6) >>> (x1 &&& 31)) &&& (jn 1))), (p1.2 + (jn 1))) b2) (z_se (z_se (z_se (z_se z_s0))))
  exact z_weak (l2 _ ((jn 0), (jn 0)) e4) (z_se (z_se (z_se (z_se z_s0))))
def d_S_dirtOfAll_2 (s : Nat) (I : z_H) (p1 : Int32 × Int32) : Option ((Int32 × Int32) ⊕ (Int32 × Int32)) := (if p1.2 < (I s 6) then (if z_in (p1.2) 12 then some (Sum.inl ((p1.1 + (I (s + 2 + z_n (p1.2)) 3)), (p1.2 + (jn 1)))) else none) else some (Sum.inr (p1.1, p1.2)))
def d_S_dirtOfAll (s : Nat) (I : z_H) : Option (Int32) := ((z_it (d_S_dirtOfAll_2 s I) z_F ((jn 0), (jn 0))).bind fun q3 => some (q3.1))
/-- State.dirtOfAll()I -/
theorem t_S_dirtOfAll {G : z_G} {w : ev_W} (ok : z_Ok G w) {s : Nat} (hs : zt 5 s = true) {I : z_H} {r : Int32} (h : d_S_dirtOfAll s I = some r) : z_K G 107 [.ref (s)] (z_w w I) (.inl (some (.int r))) (z_w w I) := by
  refine z_con ok.1 (ml := 3) (by decide +kernel) rfl rfl ?_
  show z_R G 107 0 [some (.ref (s)), none, none] [] (z_w w I) (.inl (some (.int r))) (z_w w I)
  unfold d_S_dirtOfAll at h
  have hB : z_all [z_is 107 0 (zf_cst 0 (jn 0) 1), z_is 107 1 (zf_istore 1 1 2), z_is 107 2 (zf_cst 2 (jn 0) 3), z_is 107 3 (zf_istore 3 2 4)] = true := by decide +kernel
  refine z_cst hB (fun hB => ?_)
  refine z_istore hB rfl rfl (fun hB => ?_)
  refine z_cst hB (fun hB => ?_)
  refine z_istore hB rfl rfl (fun hB => ?_)
  obtain ⟨q3, e4, h⟩ := z_bind h
  have k5 : z_R G 107 30 [none, some (.int (q3.1)), none] [] (z_w w I) (.inl (some (.int r))) (z_w w I) := by
    have hB : z_all [z_is 107 30 (zf_iload 30 1 31), z_is 107 31 (zf_ret 0)] = true := by decide +kernel
    refine z_iload hB rfl (fun hB => ?_)
    cases h
    exact z_reti hB
  have l2 : ∀ (m2 : Nat) (p1 : Int32 × Int32), z_it (d_S_dirtOfAll_2 s I) m2 p1 = some q3 → z_R G 107 4 [some (.ref (s)), some (.int (p1.1)), some (.int (p1.2))] [] (z_w w I) (.inl (some (.int r))) (z_w w I) := by
    intro m2
    induction m2 with
    | zero => intro p1 h; cases h
    | succ m2 i2 =>
      intro p1 h
      obtain ⟨u2, h, b2⟩ := z_it_o h
      unfold d_S_dirtOfAll_2 at h
      have hB : z_all [z_is 107 4 (zf_iload 4 2 5), z_is 107 5 (zf_aload 5 0 6), z_is 107 6 (zf_geti 6 5 6 9), z_is 107 9 (zf_if2 .ge 9 30 12)] = true := by decide +kernel
      refine z_iload hB rfl (fun hB => ?_)
      refine z_aload hB rfl (fun hB => ?_)
      refine y_geti ok hB hs (fun hB => ?_)
      refine z_ic_ge hB (fun hc _ => ?_) (fun hc _ => ?_)
      · have h := z_neg hc h
        cases h
        cases b2
        exact z_weak k5 (z_sn (z_se (z_sn z_s0)))
      · have h := z_pos hc h
        have hB : z_all [z_is 107 12 (zf_iload 12 1 13), z_is 107 13 (zf_aload 13 0 14), z_is 107 14 (zf_getr 14 5 7 17), z_is 107 17 (zf_iload 17 2 18), z_is 107 18 (zf_aald 18 19), z_is 107 19 (zf_geti 19 0 3 22), z_is 107 22 (zf_iadd 22 23), z_is 107 23 (zf_istore 23 1 24), z_is 107 24 (zf_iinc 24 2 (jn 1) 27), z_is 107 27 (zf_goto 27 4)] = true := by decide +kernel
        refine z_iload hB rfl (fun hB => ?_)
        refine z_aload hB rfl (fun hB => ?_)
        refine y_getr (b := (s + 1)) ok hB hs (zst_r7 hs) (fun hB => ?_)
        refine z_iload hB rfl (fun hB => ?_)
        obtain ⟨g6, h⟩ := z_gd h
        refine y_fald ok hB (zst_k1 hs) (zst_l1 hs) g6 (zst_fR hs g6) (fun hB => ?_)
        refine y_geti ok hB (zst_fK hs g6) (fun hB => ?_)
        refine z_iadd hB (fun hB => ?_)
        refine z_istore hB rfl rfl (fun hB => ?_)
        refine z_iinc hB rfl rfl (fun hB => ?_)
        refine z_goto hB (fun hB => ?_)
        cases h
        exact z_weak (i2 ((p1.1 + (I (s + 2 + z_n (p1.2)) 3)), (p1.2 + (jn 1))) b2) (z_se (z_se (z_se z_s0)))
  exact z_weak (l2 _ ((jn 0), (jn 0)) e4) (z_se (z_se (z_se z_s0)))
def d_S_wettestOnLine_2 (s : Nat) (I : z_H) (p1 : Int32 × Int32 × Int32) : Option ((Int32 × Int32 × Int32) ⊕ (Int32 × Int32 × Int32)) := (if p1.2.2 < (I s 6) then (if z_in (p1.2.2) 12 then (Option.bind (α := Int32 × Int32) (if (I (s + 2 + z_n (p1.2.2)) 8) = (jn 2) then (if z_in (p1.2.2) 12 then (if p1.2.1 < (I (s + 2 + z_n (p1.2.2)) 4) then (if z_in (p1.2.2) 12 then some (p1.2.2, (I (s + 2 + z_n (p1.2.2)) 4)) else none) else some (p1.1, p1.2.1)) else none) else some (p1.1, p1.2.1)) fun q7 => some (Sum.inl (q7.1, q7.2, (p1.2.2 + (jn 1))))) else none) else some (Sum.inr (p1.1, p1.2.1, p1.2.2)))
def d_S_wettestOnLine (s : Nat) (I : z_H) : Option (Int32) := ((z_it (d_S_wettestOnLine_2 s I) z_F ((jg 1), (jg 1), (jn 0))).bind fun q3 => some (q3.1))
/-- State.wettestOnLine()I -/
theorem t_S_wettestOnLine {G : z_G} {w : ev_W} (ok : z_Ok G w) {s : Nat} (hs : zt 5 s = true) {I : z_H} {r : Int32} (h : d_S_wettestOnLine s I = some r) : z_K G 108 [.ref (s)] (z_w w I) (.inl (some (.int r))) (z_w w I) := by
  refine z_con ok.1 (ml := 4) (by decide +kernel) rfl rfl ?_
  show z_R G 108 0 [some (.ref (s)), none, none, none] [] (z_w w I) (.inl (some (.int r))) (z_w w I)
  unfold d_S_wettestOnLine at h
  have hB : z_all [z_is 108 0 (zf_cst 0 (jg 1) 1), z_is 108 1 (zf_istore 1 1 2), z_is 108 2 (zf_cst 2 (jg 1) 3), z_is 108 3 (zf_istore 3 2 4), z_is 108 4 (zf_cst 4 (jn 0) 5), z_is 108 5 (zf_istore 5 3 6)] = true := by decide +kernel
  refine z_cst hB (fun hB => ?_)
  refine z_istore hB rfl rfl (fun hB => ?_)
  refine z_cst hB (fun hB => ?_)
  refine z_istore hB rfl rfl (fun hB => ?_)
  refine z_cst hB (fun hB => ?_)
  refine z_istore hB rfl rfl (fun hB => ?_)
  obtain ⟨q3, e4, h⟩ := z_bind h
  have k5 : z_R G 108 58 [none, some (.int (q3.1)), none, none] [] (z_w w I) (.inl (some (.int r))) (z_w w I) := by
    have hB : z_all [z_is 108 58 (zf_iload 58 1 59), z_is 108 59 (zf_ret 0)] = true := by decide +kernel
    refine z_iload hB rfl (fun hB => ?_)
    cases h
    exact z_reti hB
  have l2 : ∀ (m2 : Nat) (p1 : Int32 × Int32 × Int32), z_it (d_S_wettestOnLine_2 s I) m2 p1 = some q3 → z_R G 108 6 [some (.ref (s)), some (.int (p1.1)), some (.int (p1.2.1)), some (.int (p1.2.2))] [] (z_w w I) (.inl (some (.int r))) (z_w w I) := by
    intro m2
    induction m2 with
    | zero => intro p1 h; cases h
    | succ m2 i2 =>
      intro p1 h
      obtain ⟨u2, h, b2⟩ := z_it_o h
      unfold d_S_wettestOnLine_2 at h
      have hB : z_all [z_is 108 6 (zf_iload 6 3 7), z_is 108 7 (zf_aload 7 0 8), z_is 108 8 (zf_geti 8 5 6 11), z_is 108 11 (zf_if2 .ge 11 58 14)] = true := by decide +kernel
      refine z_iload hB rfl (fun hB => ?_)
      refine z_aload hB rfl (fun hB => ?_)
      refine y_geti ok hB hs (fun hB => ?_)
      refine z_ic_ge hB (fun hc _ => ?_) (fun hc _ => ?_)
      · have h := z_neg hc h
        cases h
        cases b2
        exact z_weak k5 (z_sn (z_se (z_sn (z_sn z_s0))))
      · have h := z_pos hc h
        have hB : z_all [z_is 108 14 (zf_aload 14 0 15), z_is 108 15 (zf_getr 15 5 7 18), z_is 108 18 (zf_iload 18 3 19), z_is 108 19 (zf_aald 19 20), z_is 108 20 (zf_geti 20 0 8 23), z_is 108 23 (zf_cst 23 (jn 2) 24), z_is 108 24 (zf_if2 .ne 24 52 27)] = true := by decide +kernel
        refine z_aload hB rfl (fun hB => ?_)
        refine y_getr (b := (s + 1)) ok hB hs (zst_r7 hs) (fun hB => ?_)
        refine z_iload hB rfl (fun hB => ?_)
        obtain ⟨g6, h⟩ := z_gd h
        refine y_fald ok hB (zst_k1 hs) (zst_l1 hs) g6 (zst_fR hs g6) (fun hB => ?_)
        refine y_geti ok hB (zst_fK hs g6) (fun hB => ?_)
        refine z_cst hB (fun hB => ?_)
        obtain ⟨q7, e8, h⟩ := z_bind h
        have k9 : z_R G 108 52 [some (.ref (s)), some (.int (q7.1)), some (.int (q7.2)), some (.int (p1.2.2))] [] (z_w w I) (.inl (some (.int r))) (z_w w I) := by
          have hB : z_all [z_is 108 52 (zf_iinc 52 3 (jn 1) 55), z_is 108 55 (zf_goto 55 6)] = true := by decide +kernel
          refine z_iinc hB rfl rfl (fun hB => ?_)
          refine z_goto hB (fun hB => ?_)
          cases h
          exact z_weak (i2 (q7.1, q7.2, (p1.2.2 + (jn 1))) b2) (z_se (z_se (z_se (z_se z_s0))))
        have h := e8
        refine z_ic_ne hB (fun hc _ => ?_) (fun hc _ => ?_)
        · have h := z_neg hc h
          cases h
          exact z_weak k9 (z_se (z_se (z_se (z_se z_s0))))
        · have h := z_pos hc h
          have hB : z_all [z_is 108 27 (zf_aload 27 0 28), z_is 108 28 (zf_getr 28 5 7 31), z_is 108 31 (zf_iload 31 3 32), z_is 108 32 (zf_aald 32 33), z_is 108 33 (zf_geti 33 0 4 36), z_is 108 36 (zf_iload 36 2 37), z_is 108 37 (zf_if2 .le 37 52 40)] = true := by decide +kernel
          refine z_aload hB rfl (fun hB => ?_)
          refine y_getr (b := (s + 1)) ok hB hs (zst_r7 hs) (fun hB => ?_)
          refine z_iload hB rfl (fun hB => ?_)
          obtain ⟨g10, h⟩ := z_gd h
          refine y_fald ok hB (zst_k1 hs) (zst_l1 hs) g10 (zst_fR hs g10) (fun hB => ?_)
          refine y_geti ok hB (zst_fK hs g10) (fun hB => ?_)
          refine z_iload hB rfl (fun hB => ?_)
          refine z_ic_le hB (fun hc _ => ?_) (fun hc _ => ?_)
          · have h := z_neg hc h
            cases h
            exact z_weak k9 (z_se (z_se (z_se (z_se z_s0))))
          · have h := z_pos hc h
            have hB : z_all [z_is 108 40 (zf_iload 40 3 41), z_is 108 41 (zf_istore 41 1 42), z_is 108 42 (zf_aload 42 0 43), z_is 108 43 (zf_getr 43 5 7 46), z_is 108 46 (zf_iload 46 3 47), z_is 108 47 (zf_aald 47 48), z_is 108 48 (zf_geti 48 0 4 51), z_is 108 51 (zf_istore 51 2 52)] = true := by decide +kernel
            refine z_iload hB rfl (fun hB => ?_)
            refine z_istore hB rfl rfl (fun hB => ?_)
            refine z_aload hB rfl (fun hB => ?_)
            refine y_getr (b := (s + 1)) ok hB hs (zst_r7 hs) (fun hB => ?_)
            refine z_iload hB rfl (fun hB => ?_)
            obtain ⟨g11, h⟩ := z_gd h
            refine y_fald ok hB (zst_k1 hs) (zst_l1 hs) g11 (zst_fR hs g11) (fun hB => ?_)
            refine y_geti ok hB (zst_fK hs g11) (fun hB => ?_)
            refine z_istore hB rfl rfl (fun hB => ?_)
            cases h
            exact z_weak k9 (z_se (z_se (z_se (z_se z_s0))))
  exact z_weak (l2 _ ((jg 1), (jg 1), (jn 0)) e4) (z_se (z_se (z_se (z_se z_s0))))
def d_S_dropFromTub_2 (s : Nat) (x1 : Int32) (x2 : Int32) (p1 : Int32 × Int32 × z_H) : Option ((Int32 × Int32 × z_H) ⊕ (Int32 × Int32 × z_H)) := (if z_in (x2) 3 then (if p1.2.1 < (p1.2.2 (s + 14) (z_n (x2))) then (if z_in (((x2 * (jn 6)) + p1.2.1)) 18 then (Option.bind (α := Int32 × z_H) (if (p1.2.2 (s + 15) (z_n (((x2 * (jn 6)) + p1.2.1)))) = x1 then some (p1.1, p1.2.2) else (if z_in (((x2 * (jn 6)) + p1.1)) 18 then some ((p1.1 + (jn 1)), (ev_u2 p1.2.2 (s + 15) (z_n (((x2 * (jn 6)) + p1.1))) (p1.2.2 (s + 15) (z_n (((x2 * (jn 6)) + p1.2.1)))))) else none)) fun q9 => some (Sum.inl (q9.1, (p1.2.1 + (jn 1)), q9.2))) else none) else some (Sum.inr (p1.1, p1.2.1, p1.2.2))) else none)
def d_S_dropFromTub (s : Nat) (x1 : Int32) (x2 : Int32) (I : z_H) : Option (z_H) := ((z_it (d_S_dropFromTub_2 s x1 x2) z_F ((jn 0), (jn 0), I)).bind fun q3 => (if z_in (x2) 3 then some ((ev_u2 q3.2.2 (s + 14) (z_n (x2)) q3.1)) else none))
/-- State.dropFromTub(II)V -/
theorem t_S_dropFromTub {G : z_G} {w : ev_W} (ok : z_Ok G w) {s : Nat} {x1 : Int32} {x2 : Int32} (hs : zt 5 s = true) {I : z_H} {r : z_H} (h : d_S_dropFromTub s x1 x2 I = some r) : z_K G 112 [.ref (s), .int (x1), .int (x2)] (z_w w I) (.inl none) (z_w w r) := by
  refine z_con ok.1 (ml := 6) (by decide +kernel) rfl rfl ?_
  show z_R G 112 0 [some (.ref (s)), some (.int (x1)), some (.int (x2)), none, none, none] [] (z_w w I) (.inl none) (z_w w r)
  unfold d_S_dropFromTub at h
  have hB : z_all [z_is 112 0 (zf_cst 0 (jn 0) 1), z_is 112 1 (zf_istore 1 3 2), z_is 112 2 (zf_cst 2 (jn 0) 3), z_is 112 3 (zf_istore 3 4 5)] = true := by decide +kernel
  refine z_cst hB (fun hB => ?_)
  refine z_istore hB rfl rfl (fun hB => ?_)
  refine z_cst hB (fun hB => ?_)
  refine z_istore hB rfl rfl (fun hB => ?_)
  obtain ⟨q3, e4, h⟩ := z_bind h
  have k5 : z_R G 112 58 [some (.ref (s)), none, some (.int (x2)), some (.int (q3.1)), none, none] [] (z_w w q3.2.2) (.inl none) (z_w w r) := by
    have hB : z_all [z_is 112 58 (zf_aload 58 0 59), z_is 112 59 (zf_getr 59 5 8 62), z_is 112 62 (zf_iload 62 2 63), z_is 112 63 (zf_iload 63 3 64), z_is 112 64 (zf_iast 64 65), z_is 112 65 (zf_ret 6)] = true := by decide +kernel
    refine z_aload hB rfl (fun hB => ?_)
    refine y_getr (b := (s + 14)) ok hB hs (zst_r8 hs) (fun hB => ?_)
    refine z_iload hB rfl (fun hB => ?_)
    refine z_iload hB rfl (fun hB => ?_)
    obtain ⟨g6, h⟩ := z_gd h
    refine y_iast ok hB (zst_k14 hs) (zst_l14 hs) g6 (fun hB => ?_)
    cases h
    exact z_retv hB
  have l2 : ∀ (m2 : Nat) (p1 : Int32 × Int32 × z_H), z_it (d_S_dropFromTub_2 s x1 x2) m2 p1 = some q3 → z_R G 112 5 [some (.ref (s)), some (.int (x1)), some (.int (x2)), some (.int (p1.1)), some (.int (p1.2.1)), none] [] (z_w w p1.2.2) (.inl none) (z_w w r) := by
    intro m2
    induction m2 with
    | zero => intro p1 h; cases h
    | succ m2 i2 =>
      intro p1 h
      obtain ⟨u2, h, b2⟩ := z_it_o h
      unfold d_S_dropFromTub_2 at h
      have hB : z_all [z_is 112 5 (zf_iload 5 4 7), z_is 112 7 (zf_aload 7 0 8), z_is 112 8 (zf_getr 8 5 8 11), z_is 112 11 (zf_iload 11 2 12), z_is 112 12 (zf_iald 12 13), z_is 112 13 (zf_if2 .ge 13 58 16)] = true := by decide +kernel
      refine z_iload hB rfl (fun hB => ?_)
      refine z_aload hB rfl (fun hB => ?_)
      refine y_getr (b := (s + 14)) ok hB hs (zst_r8 hs) (fun hB => ?_)
      refine z_iload hB rfl (fun hB => ?_)
      obtain ⟨g7, h⟩ := z_gd h
      refine y_iald ok hB (zst_k14 hs) (zst_l14 hs) g7 (fun hB => ?_)
      refine z_ic_ge hB (fun hc _ => ?_) (fun hc _ => ?_)
      · have h := z_neg hc h
        cases h
        cases b2
        exact z_weak k5 (z_se (z_sn (z_se (z_se (z_sn (z_sn z_s0))))))
      · have h := z_pos hc h
        have hB : z_all [z_is 112 16 (zf_aload 16 0 17), z_is 112 17 (zf_getr 17 5 9 20), z_is 112 20 (zf_iload 20 2 21), z_is 112 21 (zf_cst 21 (jn 6) 23), z_is 112 23 (zf_imul 23 24), z_is 112 24 (zf_iload 24 4 26), z_is 112 26 (zf_iadd 26 27), z_is 112 27 (zf_iald 27 28), z_is 112 28 (zf_istore 28 5 30), z_is 112 30 (zf_iload 30 5 32), z_is 112 32 (zf_iload 32 1 33), z_is 112 33 (zf_if2 .eq 33 52 36)] = true := by decide +kernel
        refine z_aload hB rfl (fun hB => ?_)
        refine y_getr (b := (s + 15)) ok hB hs (zst_r9 hs) (fun hB => ?_)
        refine z_iload hB rfl (fun hB => ?_)
        refine z_cst hB (fun hB => ?_)
        refine z_imul hB (fun hB => ?_)
        refine z_iload hB rfl (fun hB => ?_)
        refine z_iadd hB (fun hB => ?_)
        obtain ⟨g8, h⟩ := z_gd h
        refine y_iald ok hB (zst_k15 hs) (zst_l15 hs) g8 (fun hB => ?_)
        refine z_istore hB rfl rfl (fun hB => ?_)
        refine z_iload hB rfl (fun hB => ?_)
        refine z_iload hB rfl (fun hB => ?_)
        obtain ⟨q9, e10, h⟩ := z_bind h
        have k11 : z_R G 112 52 [some (.ref (s)), some (.int (x1)), some (.int (x2)), some (.int (q9.1)), some (.int (p1.2.1)), none] [] (z_w w q9.2) (.inl none) (z_w w r) := by
          have hB : z_all [z_is 112 52 (zf_iinc 52 4 (jn 1) 55), z_is 112 55 (zf_goto 55 5)] = true := by decide +kernel
          refine z_iinc hB rfl rfl (fun hB => ?_)
          refine z_goto hB (fun hB => ?_)
          cases h
          exact z_weak (i2 (q9.1, (p1.2.1 + (jn 1)), q9.2) b2) (z_se (z_se (z_se (z_se (z_se (z_sn z_s0))))))
        have h := e10
        refine z_ic_eq hB (fun hc _ => ?_) (fun hc _ => ?_)
        · have h := z_pos hc h
          cases h
          exact z_weak k11 (z_se (z_se (z_se (z_se (z_se (z_sn z_s0))))))
        · have h := z_neg hc h
          have hB : z_all [z_is 112 36 (zf_aload 36 0 37), z_is 112 37 (zf_getr 37 5 9 40), z_is 112 40 (zf_iload 40 2 41), z_is 112 41 (zf_cst 41 (jn 6) 43), z_is 112 43 (zf_imul 43 44), z_is 112 44 (zf_iload 44 3 45), z_is 112 45 (zf_iadd 45 46), z_is 112 46 (zf_iload 46 5 48), z_is 112 48 (zf_iast 48 49), z_is 112 49 (zf_iinc 49 3 (jn 1) 52)] = true := by decide +kernel
          refine z_aload hB rfl (fun hB => ?_)
          refine y_getr (b := (s + 15)) ok hB hs (zst_r9 hs) (fun hB => ?_)
          refine z_iload hB rfl (fun hB => ?_)
          refine z_cst hB (fun hB => ?_)
          refine z_imul hB (fun hB => ?_)
          refine z_iload hB rfl (fun hB => ?_)
          refine z_iadd hB (fun hB => ?_)
          refine z_iload hB rfl (fun hB => ?_)
          obtain ⟨g12, h⟩ := z_gd h
          refine y_iast ok hB (zst_k15 hs) (zst_l15 hs) g12 (fun hB => ?_)
          refine z_iinc hB rfl rfl (fun hB => ?_)
          cases h
          exact z_weak k11 (z_se (z_se (z_se (z_se (z_se (z_sn z_s0))))))
  exact z_weak (l2 _ ((jn 0), (jn 0), I) e4) (z_se (z_se (z_se (z_se (z_se (z_sn z_s0))))))
def d_S_moveToBasket (s : Nat) (x1 : Int32) (I : z_H) : Option (z_H) := (if z_in (x1) 12 then (Option.bind (α := z_H) (if (I (s + 2 + z_n (x1)) 8) = (jn 1) then ((d_S_dropFromTub s (x1) ((I (s + 2 + z_n (x1)) 9)) I).bind fun q8 => some (q8)) else (if (I (s + 2 + z_n (x1)) 8) = (jn 2) then (if z_in ((I (s + 2 + z_n (x1)) 9)) 8 then some ((ev_u2 I (s + 16) (z_n ((I (s + 2 + z_n (x1)) 9))) (jg 1))) else none) else some (I))) fun q2 => ((d_G_moveTo (s + 2 + z_n (x1)) ((jn 0)) ((jg 1)) q2).bind fun q5 => some (q5))) else none)
/-- State.moveToBasket(I)V -/
theorem t_S_moveToBasket {G : z_G} {w : ev_W} (ok : z_Ok G w) {s : Nat} {x1 : Int32} (hs : zt 5 s = true) {I : z_H} {r : z_H} (h : d_S_moveToBasket s x1 I = some r) : z_K G 111 [.ref (s), .int (x1)] (z_w w I) (.inl none) (z_w w r) := by
  refine z_con ok.1 (ml := 3) (by decide +kernel) rfl rfl ?_
  show z_R G 111 0 [some (.ref (s)), some (.int (x1)), none] [] (z_w w I) (.inl none) (z_w w r)
  unfold d_S_moveToBasket at h
  have hB : z_all [z_is 111 0 (zf_aload 0 0 1), z_is 111 1 (zf_getr 1 5 7 4), z_is 111 4 (zf_iload 4 1 5), z_is 111 5 (zf_aald 5 6), z_is 111 6 (zf_astore 6 2 7), z_is 111 7 (zf_aload 7 2 8), z_is 111 8 (zf_geti 8 0 8 11), z_is 111 11 (zf_cst 11 (jn 1) 12), z_is 111 12 (zf_if2 .ne 12 27 15)] = true := by decide +kernel
  refine z_aload hB rfl (fun hB => ?_)
  refine y_getr (b := (s + 1)) ok hB hs (zst_r7 hs) (fun hB => ?_)
  refine z_iload hB rfl (fun hB => ?_)
  obtain ⟨g1, h⟩ := z_gd h
  refine y_fald ok hB (zst_k1 hs) (zst_l1 hs) g1 (zst_fR hs g1) (fun hB => ?_)
  refine z_astore hB rfl rfl (fun hB => ?_)
  refine z_aload hB rfl (fun hB => ?_)
  refine y_geti ok hB (zst_fK hs g1) (fun hB => ?_)
  refine z_cst hB (fun hB => ?_)
  obtain ⟨q2, e3, h⟩ := z_bind h
  have k4 : z_R G 111 45 [none, none, some (.ref ((s + 2 + z_n (x1))))] [] (z_w w q2) (.inl none) (z_w w r) := by
    have hB : z_all [z_is 111 45 (zf_aload 45 2 46), z_is 111 46 (zf_cst 46 (jn 0) 47), z_is 111 47 (zf_cst 47 (jg 1) 48), z_is 111 48 (zf_cv 48 3 2 0 51), z_is 111 51 (zf_ret 6)] = true := by decide +kernel
    refine z_aload hB rfl (fun hB => ?_)
    refine z_cst hB (fun hB => ?_)
    refine z_cst hB (fun hB => ?_)
    obtain ⟨q5, e6, h⟩ := z_bind h
    refine y_cv ok hB (as := [.int ((jn 0)), .int ((jg 1))]) (a := (s + 2 + z_n (x1))) (rest := []) rfl rfl rfl (zst_fK hs g1) (t_G_moveTo (I := q2) ok (zst_fK hs g1) e6) (fun hB => ?_)
    cases h
    exact z_retv hB
  have h := e3
  refine z_ic_ne hB (fun hc _ => ?_) (fun hc _ => ?_)
  · have h := z_neg hc h
    have hB : z_all [z_is 111 27 (zf_aload 27 2 28), z_is 111 28 (zf_geti 28 0 8 31), z_is 111 31 (zf_cst 31 (jn 2) 32), z_is 111 32 (zf_if2 .ne 32 45 35)] = true := by decide +kernel
    refine z_aload hB rfl (fun hB => ?_)
    refine y_geti ok hB (zst_fK hs g1) (fun hB => ?_)
    refine z_cst hB (fun hB => ?_)
    refine z_ic_ne hB (fun hc _ => ?_) (fun hc _ => ?_)
    · have h := z_neg hc h
      cases h
      exact z_weak k4 (z_sn (z_sn (z_se z_s0)))
    · have h := z_pos hc h
      have hB : z_all [z_is 111 35 (zf_aload 35 0 36), z_is 111 36 (zf_getr 36 5 10 39), z_is 111 39 (zf_aload 39 2 40), z_is 111 40 (zf_geti 40 0 9 43), z_is 111 43 (zf_cst 43 (jg 1) 44), z_is 111 44 (zf_iast 44 45)] = true := by decide +kernel
      refine z_aload hB rfl (fun hB => ?_)
      refine y_getr (b := (s + 16)) ok hB hs (zst_r10 hs) (fun hB => ?_)
      refine z_aload hB rfl (fun hB => ?_)
      refine y_geti ok hB (zst_fK hs g1) (fun hB => ?_)
      refine z_cst hB (fun hB => ?_)
      obtain ⟨g7, h⟩ := z_gd h
      refine y_iast ok hB (zst_k16 hs) (zst_l16 hs) g7 (fun hB => ?_)
      cases h
      exact z_weak k4 (z_sn (z_sn (z_se z_s0)))
  · have h := z_pos hc h
    have hB : z_all [z_is 111 15 (zf_aload 15 0 16), z_is 111 16 (zf_iload 16 1 17), z_is 111 17 (zf_aload 17 2 18), z_is 111 18 (zf_geti 18 0 9 21), z_is 111 21 (zf_cv 21 112 2 5 24), z_is 111 24 (zf_goto 24 45)] = true := by decide +kernel
    refine z_aload hB rfl (fun hB => ?_)
    refine z_iload hB rfl (fun hB => ?_)
    refine z_aload hB rfl (fun hB => ?_)
    refine y_geti ok hB (zst_fK hs g1) (fun hB => ?_)
    obtain ⟨q8, e9, h⟩ := z_bind h
    refine y_cv ok hB (as := [.int (x1), .int ((I (s + 2 + z_n (x1)) 9))]) (a := s) (rest := []) rfl rfl rfl hs (t_S_dropFromTub (I := I) ok hs e9) (fun hB => ?_)
    refine z_goto hB (fun hB => ?_)
    cases h
    exact z_weak k4 (z_sn (z_sn (z_se z_s0)))
def d_S_hoursUntilFall_2 (s : Nat) (I : z_H) (p1 : Int32 × Int32) : Option ((Int32 × Int32) ⊕ (Int32 × Int32)) := (if p1.2 < (jn 8) then (if z_in (p1.2) 8 then (Option.bind (α := Int32) (if (I (s + 16) (z_n (p1.2))) = (jg 1) then some (p1.1) else some ((p1.1 + (jn 1)))) fun q7 => some (Sum.inl (q7, (p1.2 + (jn 1))))) else none) else some (Sum.inr (p1.1, p1.2)))
def d_S_hoursUntilFall (s : Nat) (x1 : Int32) (I : z_H) : Option (Int32) := ((z_it (d_S_hoursUntilFall_2 s I) z_F ((jn 1), (x1 + (jn 1)))).bind fun q3 => some (q3.1))
/-- State.hoursUntilFall(I)I -/
theorem t_S_hoursUntilFall {G : z_G} {w : ev_W} (ok : z_Ok G w) {s : Nat} {x1 : Int32} (hs : zt 5 s = true) {I : z_H} {r : Int32} (h : d_S_hoursUntilFall s x1 I = some r) : z_K G 119 [.ref (s), .int (x1)] (z_w w I) (.inl (some (.int r))) (z_w w I) := by
  refine z_con ok.1 (ml := 4) (by decide +kernel) rfl rfl ?_
  show z_R G 119 0 [some (.ref (s)), some (.int (x1)), none, none] [] (z_w w I) (.inl (some (.int r))) (z_w w I)
  unfold d_S_hoursUntilFall at h
  have hB : z_all [z_is 119 0 (zf_cst 0 (jn 1) 1), z_is 119 1 (zf_istore 1 2 2), z_is 119 2 (zf_iload 2 1 3), z_is 119 3 (zf_cst 3 (jn 1) 4), z_is 119 4 (zf_iadd 4 5), z_is 119 5 (zf_istore 5 3 6)] = true := by decide +kernel
  refine z_cst hB (fun hB => ?_)
  refine z_istore hB rfl rfl (fun hB => ?_)
  refine z_iload hB rfl (fun hB => ?_)
  refine z_cst hB (fun hB => ?_)
  refine z_iadd hB (fun hB => ?_)
  refine z_istore hB rfl rfl (fun hB => ?_)
  obtain ⟨q3, e4, h⟩ := z_bind h
  have k5 : z_R G 119 31 [none, none, some (.int (q3.1)), none] [] (z_w w I) (.inl (some (.int r))) (z_w w I) := by
    have hB : z_all [z_is 119 31 (zf_iload 31 2 32), z_is 119 32 (zf_ret 0)] = true := by decide +kernel
    refine z_iload hB rfl (fun hB => ?_)
    cases h
    exact z_reti hB
  have l2 : ∀ (m2 : Nat) (p1 : Int32 × Int32), z_it (d_S_hoursUntilFall_2 s I) m2 p1 = some q3 → z_R G 119 6 [some (.ref (s)), none, some (.int (p1.1)), some (.int (p1.2))] [] (z_w w I) (.inl (some (.int r))) (z_w w I) := by
    intro m2
    induction m2 with
    | zero => intro p1 h; cases h
    | succ m2 i2 =>
      intro p1 h
      obtain ⟨u2, h, b2⟩ := z_it_o h
      unfold d_S_hoursUntilFall_2 at h
      have hB : z_all [z_is 119 6 (zf_iload 6 3 7), z_is 119 7 (zf_cst 7 (jn 8) 9), z_is 119 9 (zf_if2 .ge 9 31 12)] = true := by decide +kernel
      refine z_iload hB rfl (fun hB => ?_)
      refine z_cst hB (fun hB => ?_)
      refine z_ic_ge hB (fun hc _ => ?_) (fun hc _ => ?_)
      · have h := z_neg hc h
        cases h
        cases b2
        exact z_weak k5 (z_sn (z_sn (z_se (z_sn z_s0))))
      · have h := z_pos hc h
        have hB : z_all [z_is 119 12 (zf_aload 12 0 13), z_is 119 13 (zf_getr 13 5 10 16), z_is 119 16 (zf_iload 16 3 17), z_is 119 17 (zf_iald 17 18), z_is 119 18 (zf_cst 18 (jg 1) 19), z_is 119 19 (zf_if2 .eq 19 25 22)] = true := by decide +kernel
        refine z_aload hB rfl (fun hB => ?_)
        refine y_getr (b := (s + 16)) ok hB hs (zst_r10 hs) (fun hB => ?_)
        refine z_iload hB rfl (fun hB => ?_)
        obtain ⟨g6, h⟩ := z_gd h
        refine y_iald ok hB (zst_k16 hs) (zst_l16 hs) g6 (fun hB => ?_)
        refine z_cst hB (fun hB => ?_)
        obtain ⟨q7, e8, h⟩ := z_bind h
        have k9 : z_R G 119 25 [some (.ref (s)), none, some (.int (q7)), some (.int (p1.2))] [] (z_w w I) (.inl (some (.int r))) (z_w w I) := by
          have hB : z_all [z_is 119 25 (zf_iinc 25 3 (jn 1) 28), z_is 119 28 (zf_goto 28 6)] = true := by decide +kernel
          refine z_iinc hB rfl rfl (fun hB => ?_)
          refine z_goto hB (fun hB => ?_)
          cases h
          exact z_weak (i2 (q7, (p1.2 + (jn 1))) b2) (z_se (z_sn (z_se (z_se z_s0))))
        have h := e8
        refine z_ic_eq hB (fun hc _ => ?_) (fun hc _ => ?_)
        · have h := z_pos hc h
          cases h
          exact z_weak k9 (z_se (z_sn (z_se (z_se z_s0))))
        · have h := z_neg hc h
          have hB : z_all [z_is 119 22 (zf_iinc 22 2 (jn 1) 25)] = true := by decide +kernel
          refine z_iinc hB rfl rfl (fun hB => ?_)
          cases h
          exact z_weak k9 (z_se (z_sn (z_se (z_se z_s0))))
  exact z_weak (l2 _ ((jn 1), (x1 + (jn 1))) e4) (z_se (z_sn (z_se (z_se z_s0))))
def d_S_hoursToDry_7 (x2 : Int32) (q2 : Int32) (p6 : Int32 × Int32) : Option ((Int32 × Int32) ⊕ (Int32 × Int32)) := (if jn 0 < p6.2 then (if q2 < p6.1 then some (Sum.inr (p6.1, p6.2)) else some (Sum.inl ((p6.1 + (jn 1)), (p6.2 - ((jn 1) + (x2 / (jn 3))))))) else some (Sum.inr (p6.1, p6.2)))
def d_S_hoursToDry (s : Nat) (x1 : Int32) (x2 : Int32) (I : z_H) : Option (Int32) := (if z_in (x1) 12 then (if (I (s + 2 + z_n (x1)) 8) = (jn 2) then (Option.bind (α := Int32) (if x2 < (jn 7) then some ((jn 99)) else (if z_in (x1) 12 then ((d_S_hoursUntilFall s ((I (s + 2 + z_n (x1)) 9)) I).bind fun q15 => some (q15)) else none)) fun q2 => (if z_in (x1) 12 then ((z_it (d_S_hoursToDry_7 x2 q2) z_F ((jn 0), (I (s + 2 + z_n (x1)) 4))).bind fun q8 => (Option.bind (α := Int32) (if q2 < q8.1 then some ((jg 1)) else some (q8.1)) fun q11 => some (q11))) else none)) else some ((jg 1))) else none)
/-- State.hoursToDry(II)I -/
theorem t_S_hoursToDry {G : z_G} {w : ev_W} (ok : z_Ok G w) {s : Nat} {x1 : Int32} {x2 : Int32} (hs : zt 5 s = true) {I : z_H} {r : Int32} (h : d_S_hoursToDry s x1 x2 I = some r) : z_K G 118 [.ref (s), .int (x1), .int (x2)] (z_w w I) (.inl (some (.int r))) (z_w w I) := by
  refine z_con ok.1 (ml := 6) (by decide +kernel) rfl rfl ?_
  show z_R G 118 0 [some (.ref (s)), some (.int (x1)), some (.int (x2)), none, none, none] [] (z_w w I) (.inl (some (.int r))) (z_w w I)
  unfold d_S_hoursToDry at h
  have hB : z_all [z_is 118 0 (zf_aload 0 0 1), z_is 118 1 (zf_getr 1 5 7 4), z_is 118 4 (zf_iload 4 1 5), z_is 118 5 (zf_aald 5 6), z_is 118 6 (zf_geti 6 0 8 9), z_is 118 9 (zf_cst 9 (jn 2) 10), z_is 118 10 (zf_if2 .eq 10 15 13)] = true := by decide +kernel
  refine z_aload hB rfl (fun hB => ?_)
  refine y_getr (b := (s + 1)) ok hB hs (zst_r7 hs) (fun hB => ?_)
  refine z_iload hB rfl (fun hB => ?_)
  obtain ⟨g1, h⟩ := z_gd h
  refine y_fald ok hB (zst_k1 hs) (zst_l1 hs) g1 (zst_fR hs g1) (fun hB => ?_)
  refine y_geti ok hB (zst_fK hs g1) (fun hB => ?_)
  refine z_cst hB (fun hB => ?_)
  refine z_ic_eq hB (fun hc _ => ?_) (fun hc _ => ?_)
  · have h := z_pos hc h
    have hB : z_all [z_is 118 15 (zf_iload 15 2 16), z_is 118 16 (zf_cst 16 (jn 7) 18), z_is 118 18 (zf_if2 .lt 18 37 21)] = true := by decide +kernel
    refine z_iload hB rfl (fun hB => ?_)
    refine z_cst hB (fun hB => ?_)
    obtain ⟨q2, e3, h⟩ := z_bind h
    have k4 : z_R G 118 39 [some (.ref (s)), some (.int (x1)), some (.int (x2)), none, none, none] [.int (q2)] (z_w w I) (.inl (some (.int r))) (z_w w I) := by
      have hB : z_all [z_is 118 39 (zf_istore 39 3 40), z_is 118 40 (zf_cst 40 (jn 0) 41), z_is 118 41 (zf_istore 41 4 43), z_is 118 43 (zf_aload 43 0 44), z_is 118 44 (zf_getr 44 5 7 47), z_is 118 47 (zf_iload 47 1 48), z_is 118 48 (zf_aald 48 49), z_is 118 49 (zf_geti 49 0 4 52), z_is 118 52 (zf_istore 52 5 54)] = true := by decide +kernel
      refine z_istore hB rfl rfl (fun hB => ?_)
      refine z_cst hB (fun hB => ?_)
      refine z_istore hB rfl rfl (fun hB => ?_)
      refine z_aload hB rfl (fun hB => ?_)
      refine y_getr (b := (s + 1)) ok hB hs (zst_r7 hs) (fun hB => ?_)
      refine z_iload hB rfl (fun hB => ?_)
      obtain ⟨g5, h⟩ := z_gd h
      refine y_fald ok hB (zst_k1 hs) (zst_l1 hs) g5 (zst_fR hs g5) (fun hB => ?_)
      refine y_geti ok hB (zst_fK hs g5) (fun hB => ?_)
      refine z_istore hB rfl rfl (fun hB => ?_)
      obtain ⟨q8, e9, h⟩ := z_bind h
      have k10 : z_R G 118 81 [none, none, none, some (.int (q2)), some (.int (q8.1)), none] [] (z_w w I) (.inl (some (.int r))) (z_w w I) := by
        have hB : z_all [z_is 118 81 (zf_iload 81 4 83), z_is 118 83 (zf_iload 83 3 84), z_is 118 84 (zf_if2 .gt 84 92 87)] = true := by decide +kernel
        refine z_iload hB rfl (fun hB => ?_)
        refine z_iload hB rfl (fun hB => ?_)
        obtain ⟨q11, e12, h⟩ := z_bind h
        have k13 : z_R G 118 93 [none, none, none, none, none, none] [.int (q11)] (z_w w I) (.inl (some (.int r))) (z_w w I) := by
          have hB : z_all [z_is 118 93 (zf_ret 0)] = true := by decide +kernel
          cases h
          exact z_reti hB
        have h := e12
        refine z_ic_gt hB (fun hc _ => ?_) (fun hc _ => ?_)
        · have h := z_pos hc h
          have hB : z_all [z_is 118 92 (zf_cst 92 (jg 1) 93)] = true := by decide +kernel
          refine z_cst hB (fun hB => ?_)
          cases h
          exact z_weak k13 (z_sn (z_sn (z_sn (z_sn (z_sn (z_sn z_s0))))))
        · have h := z_neg hc h
          have hB : z_all [z_is 118 87 (zf_iload 87 4 89), z_is 118 89 (zf_goto 89 93)] = true := by decide +kernel
          refine z_iload hB rfl (fun hB => ?_)
          refine z_goto hB (fun hB => ?_)
          cases h
          exact z_weak k13 (z_sn (z_sn (z_sn (z_sn (z_sn (z_sn z_s0))))))
      have l7 : ∀ (m7 : Nat) (p6 : Int32 × Int32), z_it (d_S_hoursToDry_7 x2 q2) m7 p6 = some q8 → z_R G 118 54 [none, none, some (.int (x2)), some (.int (q2)), some (.int (p6.1)), some (.int (p6.2))] [] (z_w w I) (.inl (some (.int r))) (z_w w I) := by
        intro m7
        induction m7 with
        | zero => intro p6 h; cases h
        | succ m7 i7 =>
          intro p6 h
          obtain ⟨u7, h, b7⟩ := z_it_o h
          unfold d_S_hoursToDry_7 at h
          have hB : z_all [z_is 118 54 (zf_iload 54 5 56), z_is 118 56 (zf_if1 .le 56 81 59)] = true := by decide +kernel
          refine z_iload hB rfl (fun hB => ?_)
          refine z_if_le hB (fun hc _ => ?_) (fun hc _ => ?_)
          · have h := z_neg hc h
            cases h
            cases b7
            exact z_weak k10 (z_sn (z_sn (z_sn (z_se (z_se (z_sn z_s0))))))
          · have h := z_pos hc h
            have hB : z_all [z_is 118 59 (zf_iload 59 4 61), z_is 118 61 (zf_iload 61 3 62), z_is 118 62 (zf_if2 .gt 62 81 65)] = true := by decide +kernel
            refine z_iload hB rfl (fun hB => ?_)
            refine z_iload hB rfl (fun hB => ?_)
            refine z_ic_gt hB (fun hc _ => ?_) (fun hc _ => ?_)
            · have h := z_pos hc h
              cases h
              cases b7
              exact z_weak k10 (z_sn (z_sn (z_sn (z_se (z_se (z_sn z_s0))))))
            · have h := z_neg hc h
              have hB : z_all [z_is 118 65 (zf_iinc 65 4 (jn 1) 68), z_is 118 68 (zf_iload 68 5 70), z_is 118 70 (zf_cst 70 (jn 1) 71), z_is 118 71 (zf_iload 71 2 72), z_is 118 72 (zf_cst 72 (jn 3) 73), z_is 118 73 (zf_idiv 73 74), z_is 118 74 (zf_iadd 74 75), z_is 118 75 (zf_isub 75 76), z_is 118 76 (zf_istore 76 5 78), z_is 118 78 (zf_goto 78 54)] = true := by decide +kernel
              refine z_iinc hB rfl rfl (fun hB => ?_)
              refine z_iload hB rfl (fun hB => ?_)
              refine z_cst hB (fun hB => ?_)
              refine z_iload hB rfl (fun hB => ?_)
              refine z_cst hB (fun hB => ?_)
              refine z_idiv hB (by decide) (fun hB => ?_)
              refine z_iadd hB (fun hB => ?_)
              refine z_isub hB (fun hB => ?_)
              refine z_istore hB rfl rfl (fun hB => ?_)
              refine z_goto hB (fun hB => ?_)
              cases h
              exact z_weak (i7 ((p6.1 + (jn 1)), (p6.2 - ((jn 1) + (x2 / (jn 3))))) b7) (z_sn (z_sn (z_se (z_se (z_se (z_se z_s0))))))
      exact z_weak (l7 _ ((jn 0), (I (s + 2 + z_n (x1)) 4)) e9) (z_sn (z_sn (z_se (z_se (z_se (z_se z_s0))))))
    have h := e3
    refine z_ic_lt hB (fun hc _ => ?_) (fun hc _ => ?_)
    · have h := z_pos hc h
      have hB : z_all [z_is 118 37 (zf_cst 37 (jn 99) 39)] = true := by decide +kernel
      refine z_cst hB (fun hB => ?_)
      cases h
      exact z_weak k4 (z_se (z_se (z_se (z_sn (z_sn (z_sn z_s0))))))
    · have h := z_neg hc h
      have hB : z_all [z_is 118 21 (zf_aload 21 0 22), z_is 118 22 (zf_aload 22 0 23), z_is 118 23 (zf_getr 23 5 7 26), z_is 118 26 (zf_iload 26 1 27), z_is 118 27 (zf_aald 27 28), z_is 118 28 (zf_geti 28 0 9 31), z_is 118 31 (zf_cv 31 119 1 5 34), z_is 118 34 (zf_goto 34 39)] = true := by decide +kernel
      refine z_aload hB rfl (fun hB => ?_)
      refine z_aload hB rfl (fun hB => ?_)
      refine y_getr (b := (s + 1)) ok hB hs (zst_r7 hs) (fun hB => ?_)
      refine z_iload hB rfl (fun hB => ?_)
      obtain ⟨g14, h⟩ := z_gd h
      refine y_fald ok hB (zst_k1 hs) (zst_l1 hs) g14 (zst_fR hs g14) (fun hB => ?_)
      refine y_geti ok hB (zst_fK hs g14) (fun hB => ?_)
      obtain ⟨q15, e16, h⟩ := z_bind h
      refine y_cv ok hB (as := [.int ((I (s + 2 + z_n (x1)) 9))]) (a := s) (rest := []) rfl rfl rfl hs (t_S_hoursUntilFall (I := I) ok hs e16) (fun hB => ?_)
      refine z_goto hB (fun hB => ?_)
      cases h
      exact z_weak k4 (z_se (z_se (z_se (z_sn (z_sn (z_sn z_s0))))))
  · have h := z_neg hc h
    have hB : z_all [z_is 118 13 (zf_cst 13 (jg 1) 14), z_is 118 14 (zf_ret 0)] = true := by decide +kernel
    refine z_cst hB (fun hB => ?_)
    cases h
    exact z_reti hB
