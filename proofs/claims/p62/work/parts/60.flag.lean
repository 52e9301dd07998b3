/-! texts of the methods, and that the bytecode does what they say: by wip/gen/zd.py -/
def d_G_moveTo (s : Nat) (x1 : Int32) (x2 : Int32) (I : z_H) : Option (z_H) := some ((ev_u2 (ev_u2 I s 8 x1) s 9 x2))
/-- Flag.moveTo(II)V -/
theorem t_G_moveTo {G : z_G} {w : ev_W} (ok : z_Ok G w) {s : Nat} {x1 : Int32} {x2 : Int32} (hs : zt 0 s = true) {I : z_H} {r : z_H} (h : d_G_moveTo s x1 x2 I = some r) : z_K G 3 [.ref (s), .int (x1), .int (x2)] (z_w w I) (.inl none) (z_w w r) := by
  refine z_con ok.1 (ml := 3) (by decide +kernel) rfl rfl ?_
  show z_R G 3 0 [some (.ref (s)), some (.int (x1)), some (.int (x2))] [] (z_w w I) (.inl none) (z_w w r)
  unfold d_G_moveTo at h
  have hB : z_all [z_is 3 0 (zf_aload 0 0 1), z_is 3 1 (zf_iload 1 1 2), z_is 3 2 (zf_puti 2 0 8 5), z_is 3 5 (zf_aload 5 0 6), z_is 3 6 (zf_iload 6 2 7), z_is 3 7 (zf_puti 7 0 9 10), z_is 3 10 (zf_ret 6)] = true := by decide +kernel
  refine z_aload hB rfl (fun hB => ?_)
  refine z_iload hB rfl (fun hB => ?_)
  refine y_puti ok hB hs (fun hB => ?_)
  refine z_aload hB rfl (fun hB => ?_)
  refine z_iload hB rfl (fun hB => ?_)
  refine y_puti ok hB hs (fun hB => ?_)
  cases h
  exact z_retv hB
def d_G_begin (s : Nat) (x1 : Int32) (x2 : Int32) (x3 : Int32) (x4 : Int32) (I : z_H) : Option (z_H) := (Option.bind (α := z_H) (some (ev_u2 (ev_u2 (ev_u2 (ev_u2 (ev_u2 (ev_u2 (ev_u2 (ev_u2 I s 0 x1) s 1 x2) s 2 x3) s 3 x4) s 4 (jn 0)) s 5 (jn 0)) s 6 (jn 0)) s 7 (jn 0))) fun J1 => ((d_G_moveTo s ((jn 0)) ((jg 1)) J1).bind fun q3 => some (q3)))
/-- Flag.begin(IIII)V -/
theorem t_G_begin {G : z_G} {w : ev_W} (ok : z_Ok G w) {s : Nat} {x1 : Int32} {x2 : Int32} {x3 : Int32} {x4 : Int32} (hs : zt 0 s = true) {I : z_H} {r : z_H} (h : d_G_begin s x1 x2 x3 x4 I = some r) : z_K G 1 [.ref (s), .int (x1), .int (x2), .int (x3), .int (x4)] (z_w w I) (.inl none) (z_w w r) := by
  refine z_con ok.1 (ml := 5) (by decide +kernel) rfl rfl ?_
  show z_R G 1 0 [some (.ref (s)), some (.int (x1)), some (.int (x2)), some (.int (x3)), some (.int (x4))] [] (z_w w I) (.inl none) (z_w w r)
  unfold d_G_begin at h
  have hB : z_all [z_is 1 0 (zf_aload 0 0 1), z_is 1 1 (zf_iload 1 1 2), z_is 1 2 (zf_puti 2 0 0 5), z_is 1 5 (zf_aload 5 0 6), z_is 1 6 (zf_iload 6 2 7), z_is 1 7 (zf_puti 7 0 1 10), z_is 1 10 (zf_aload 10 0 11), z_is 1 11 (zf_iload 11 3 12), z_is 1 12 (zf_puti 12 0 2 15), z_is 1 15 (zf_aload 15 0 16), z_is 1 16 (zf_iload 16 4 18), z_is 1 18 (zf_puti 18 0 3 21), z_is 1 21 (zf_aload 21 0 22), z_is 1 22 (zf_cst 22 (jn 0) 23), z_is 1 23 (zf_puti 23 0 4 26), z_is 1 26 (zf_aload 26 0 27), z_is 1 27 (zf_cst 27 (jn 0) 28), z_is 1 28 (zf_puti 28 0 5 31), z_is 1 31 (zf_aload 31 0 32), z_is 1 32 (zf_cst 32 (jn 0) 33), z_is 1 33 (zf_puti 33 0 6 36), z_is 1 36 (zf_aload 36 0 37), z_is 1 37 (zf_cst 37 (jn 0) 38), z_is 1 38 (zf_puti 38 0 7 41), z_is 1 41 (zf_aload 41 0 42), z_is 1 42 (zf_cst 42 (jn 0) 43), z_is 1 43 (zf_cst 43 (jg 1) 44), z_is 1 44 (zf_cv 44 3 2 0 47), z_is 1 47 (zf_ret 6)] = true := by decide +kernel
  refine z_aload hB rfl (fun hB => ?_)
  refine z_iload hB rfl (fun hB => ?_)
  refine y_puti ok hB hs (fun hB => ?_)
  refine z_aload hB rfl (fun hB => ?_)
  refine z_iload hB rfl (fun hB => ?_)
  refine y_puti ok hB hs (fun hB => ?_)
  refine z_aload hB rfl (fun hB => ?_)
  refine z_iload hB rfl (fun hB => ?_)
  refine y_puti ok hB hs (fun hB => ?_)
  refine z_aload hB rfl (fun hB => ?_)
  refine z_iload hB rfl (fun hB => ?_)
  refine y_puti ok hB hs (fun hB => ?_)
  refine z_aload hB rfl (fun hB => ?_)
  refine z_cst hB (fun hB => ?_)
  refine y_puti ok hB hs (fun hB => ?_)
  refine z_aload hB rfl (fun hB => ?_)
  refine z_cst hB (fun hB => ?_)
  refine y_puti ok hB hs (fun hB => ?_)
  refine z_aload hB rfl (fun hB => ?_)
  refine z_cst hB (fun hB => ?_)
  refine y_puti ok hB hs (fun hB => ?_)
  refine z_aload hB rfl (fun hB => ?_)
  refine z_cst hB (fun hB => ?_)
  refine y_puti ok hB hs (fun hB => ?_)
  obtain ⟨J1, e2, h⟩ := z_bind h
  rw [z_inj e2]
  refine z_aload hB rfl (fun hB => ?_)
  refine z_cst hB (fun hB => ?_)
  refine z_cst hB (fun hB => ?_)
  obtain ⟨q3, e4, h⟩ := z_bind h
  refine y_cv ok hB (as := [.int ((jn 0)), .int ((jg 1))]) (a := s) (rest := []) rfl rfl rfl hs (t_G_moveTo (I := J1) ok hs e4) (fun hB => ?_)
  cases h
  exact z_retv hB
def d_G_become (s : Nat) (r1 : Nat) (I : z_H) : Option (z_H) := (Option.bind (α := z_H) (some (ev_u2 (ev_u2 (ev_u2 I s 0 (I r1 0)) s 1 ((ev_u2 I s 0 (I r1 0)) r1 1)) s 2 ((ev_u2 (ev_u2 I s 0 (I r1 0)) s 1 ((ev_u2 I s 0 (I r1 0)) r1 1)) r1 2))) fun J1 => (Option.bind (α := z_H) (some (ev_u2 (ev_u2 (ev_u2 J1 s 3 (J1 r1 3)) s 4 ((ev_u2 J1 s 3 (J1 r1 3)) r1 4)) s 5 ((ev_u2 (ev_u2 J1 s 3 (J1 r1 3)) s 4 ((ev_u2 J1 s 3 (J1 r1 3)) r1 4)) r1 5))) fun J3 => (Option.bind (α := z_H) (some (ev_u2 (ev_u2 (ev_u2 J3 s 6 (J3 r1 6)) s 7 ((ev_u2 J3 s 6 (J3 r1 6)) r1 7)) s 8 ((ev_u2 (ev_u2 J3 s 6 (J3 r1 6)) s 7 ((ev_u2 J3 s 6 (J3 r1 6)) r1 7)) r1 8))) fun J5 => some ((ev_u2 J5 s 9 (J5 r1 9))))))
/-- Flag.become(LFlagLaundry$Flag;)V -/
theorem t_G_become {G : z_G} {w : ev_W} (ok : z_Ok G w) {s : Nat} {r1 : Nat} (hs : zt 0 s = true) (hr1 : zt 0 r1 = true) {I : z_H} {r : z_H} (h : d_G_become s r1 I = some r) : z_K G 2 [.ref (s), .ref (r1)] (z_w w I) (.inl none) (z_w w r) := by
  refine z_con ok.1 (ml := 2) (by decide +kernel) rfl rfl ?_
  show z_R G 2 0 [some (.ref (s)), some (.ref (r1))] [] (z_w w I) (.inl none) (z_w w r)
  unfold d_G_become at h
  have hB : z_all [z_is 2 0 (zf_aload 0 0 1), z_is 2 1 (zf_aload 1 1 2), z_is 2 2 (zf_geti 2 0 0 5), z_is 2 5 (zf_puti 5 0 0 8), z_is 2 8 (zf_aload 8 0 9), z_is 2 9 (zf_aload 9 1 10), z_is 2 10 (zf_geti 10 0 1 13), z_is 2 13 (zf_puti 13 0 1 16), z_is 2 16 (zf_aload 16 0 17), z_is 2 17 (zf_aload 17 1 18), z_is 2 18 (zf_geti 18 0 2 21), z_is 2 21 (zf_puti 21 0 2 24), z_is 2 24 (zf_aload 24 0 25), z_is 2 25 (zf_aload 25 1 26), z_is 2 26 (zf_geti 26 0 3 29), z_is 2 29 (zf_puti 29 0 3 32), z_is 2 32 (zf_aload 32 0 33), z_is 2 33 (zf_aload 33 1 34), z_is 2 34 (zf_geti 34 0 4 37), z_is 2 37 (zf_puti 37 0 4 40), z_is 2 40 (zf_aload 40 0 41), z_is 2 41 (zf_aload 41 1 42), z_is 2 42 (zf_geti 42 0 5 45), z_is 2 45 (zf_puti 45 0 5 48), z_is 2 48 (zf_aload 48 0 49), z_is 2 49 (zf_aload 49 1 50), z_is 2 50 (zf_geti 50 0 6 53), z_is 2 53 (zf_puti 53 0 6 56), z_is 2 56 (zf_aload 56 0 57), z_is 2 57 (zf_aload 57 1 58), z_is 2 58 (zf_geti 58 0 7 61), z_is 2 61 (zf_puti 61 0 7 64), z_is 2 64 (zf_aload 64 0 65), z_is 2 65 (zf_aload 65 1 66), z_is 2 66 (zf_geti 66 0 8 69), z_is 2 69 (zf_puti 69 0 8 72), z_is 2 72 (zf_aload 72 0 73), z_is 2 73 (zf_aload 73 1 74), z_is 2 74 (zf_geti 74 0 9 77), z_is 2 77 (zf_puti 77 0 9 80), z_is 2 80 (zf_ret 6)] = true := by decide +kernel
  refine z_aload hB rfl (fun hB => ?_)
  refine z_aload hB rfl (fun hB => ?_)
  refine y_geti ok hB hr1 (fun hB => ?_)
  refine y_puti ok hB hs (fun hB => ?_)
  refine z_aload hB rfl (fun hB => ?_)
  refine z_aload hB rfl (fun hB => ?_)
  refine y_geti ok hB hr1 (fun hB => ?_)
  refine y_puti ok hB hs (fun hB => ?_)
  refine z_aload hB rfl (fun hB => ?_)
  refine z_aload hB rfl (fun hB => ?_)
  refine y_geti ok hB hr1 (fun hB => ?_)
  refine y_puti ok hB hs (fun hB => ?_)
  obtain ⟨J1, e2, h⟩ := z_bind h
  rw [z_inj e2]
  refine z_aload hB rfl (fun hB => ?_)
  refine z_aload hB rfl (fun hB => ?_)
  refine y_geti ok hB hr1 (fun hB => ?_)
  refine y_puti ok hB hs (fun hB => ?_)
  refine z_aload hB rfl (fun hB => ?_)
  refine z_aload hB rfl (fun hB => ?_)
  refine y_geti ok hB hr1 (fun hB => ?_)
  refine y_puti ok hB hs (fun hB => ?_)
  refine z_aload hB rfl (fun hB => ?_)
  refine z_aload hB rfl (fun hB => ?_)
  refine y_geti ok hB hr1 (fun hB => ?_)
  refine y_puti ok hB hs (fun hB => ?_)
  obtain ⟨J3, e4, h⟩ := z_bind h
  rw [z_inj e4]
  refine z_aload hB rfl (fun hB => ?_)
  refine z_aload hB rfl (fun hB => ?_)
  refine y_geti ok hB hr1 (fun hB => ?_)
  refine y_puti ok hB hs (fun hB => ?_)
  refine z_aload hB rfl (fun hB => ?_)
  refine z_aload hB rfl (fun hB => ?_)
  refine y_geti ok hB hr1 (fun hB => ?_)
  refine y_puti ok hB hs (fun hB => ?_)
  refine z_aload hB rfl (fun hB => ?_)
  refine z_aload hB rfl (fun hB => ?_)
  refine y_geti ok hB hr1 (fun hB => ?_)
  refine y_puti ok hB hs (fun hB => ?_)
  obtain ⟨J5, e6, h⟩ := z_bind h
  rw [z_inj e6]
  refine z_aload hB rfl (fun hB => ?_)
  refine z_aload hB rfl (fun hB => ?_)
  refine y_geti ok hB hr1 (fun hB => ?_)
  refine y_puti ok hB hs (fun hB => ?_)
  cases h
  exact z_retv hB
def d_G_allReasons (s : Nat) (I : z_H) : Option (Int32) := (Option.bind (α := Int32) (if (I s 8) = (jn 3) then some ((jn 2)) else some ((jn 0))) fun q1 => (Option.bind (α := Int32) (if (I s 8) = (jn 1) then some ((jn 4)) else some ((jn 0))) fun q4 => (Option.bind (α := Int32) (if (I s 8) = (jn 2) then some ((jn 8)) else some ((jn 0))) fun q7 => (Option.bind (α := Int32) (if jn 0 < (I s 3) then some ((jn 16)) else some ((jn 0))) fun q10 => (Option.bind (α := Int32) (if (I s 6) = jn 0 then some ((jn 0)) else some ((jn 32))) fun q13 => (Option.bind (α := Int32) (if jn 0 < (I s 4) then some ((jn 64)) else some ((jn 0))) fun q16 => (Option.bind (α := Int32) (if jn 0 < (I s 5) then some ((jn 128)) else some ((jn 0))) fun q19 => some (((((((q1 ||| q4) ||| q7) ||| q10) ||| q13) ||| q16) ||| q19)))))))))
/-- Flag.allReasons()I -/
theorem t_G_allReasons {G : z_G} {w : ev_W} (ok : z_Ok G w) {s : Nat} (hs : zt 0 s = true) {I : z_H} {r : Int32} (h : d_G_allReasons s I = some r) : z_K G 4 [.ref (s)] (z_w w I) (.inl (some (.int r))) (z_w w I) := by
  refine z_con ok.1 (ml := 1) (by decide +kernel) rfl rfl ?_
  show z_R G 4 0 [some (.ref (s))] [] (z_w w I) (.inl (some (.int r))) (z_w w I)
  unfold d_G_allReasons at h
  have hB : z_all [z_is 4 0 (zf_aload 0 0 1), z_is 4 1 (zf_geti 1 0 8 4), z_is 4 4 (zf_cst 4 (jn 3) 5), z_is 4 5 (zf_if2 .ne 5 12 8)] = true := by decide +kernel
  refine z_aload hB rfl (fun hB => ?_)
  refine y_geti ok hB hs (fun hB => ?_)
  refine z_cst hB (fun hB => ?_)
  obtain ⟨q1, e2, h⟩ := z_bind h
  have k3 : z_R G 4 13 [some (.ref (s))] [.int (q1)] (z_w w I) (.inl (some (.int r))) (z_w w I) := by
    have hB : z_all [z_is 4 13 (zf_aload 13 0 14), z_is 4 14 (zf_geti 14 0 8 17), z_is 4 17 (zf_cst 17 (jn 1) 18), z_is 4 18 (zf_if2 .ne 18 25 21)] = true := by decide +kernel
    refine z_aload hB rfl (fun hB => ?_)
    refine y_geti ok hB hs (fun hB => ?_)
    refine z_cst hB (fun hB => ?_)
    obtain ⟨q4, e5, h⟩ := z_bind h
    have k6 : z_R G 4 26 [some (.ref (s))] [.int (q4), .int (q1)] (z_w w I) (.inl (some (.int r))) (z_w w I) := by
      have hB : z_all [z_is 4 26 (zf_ior 26 27), z_is 4 27 (zf_aload 27 0 28), z_is 4 28 (zf_geti 28 0 8 31), z_is 4 31 (zf_cst 31 (jn 2) 32), z_is 4 32 (zf_if2 .ne 32 40 35)] = true := by decide +kernel
      refine z_ior hB (fun hB => ?_)
      refine z_aload hB rfl (fun hB => ?_)
      refine y_geti ok hB hs (fun hB => ?_)
      refine z_cst hB (fun hB => ?_)
      obtain ⟨q7, e8, h⟩ := z_bind h
      have k9 : z_R G 4 41 [some (.ref (s))] [.int (q7), .int ((q1 ||| q4))] (z_w w I) (.inl (some (.int r))) (z_w w I) := by
        have hB : z_all [z_is 4 41 (zf_ior 41 42), z_is 4 42 (zf_aload 42 0 43), z_is 4 43 (zf_geti 43 0 3 46), z_is 4 46 (zf_if1 .le 46 54 49)] = true := by decide +kernel
        refine z_ior hB (fun hB => ?_)
        refine z_aload hB rfl (fun hB => ?_)
        refine y_geti ok hB hs (fun hB => ?_)
        obtain ⟨q10, e11, h⟩ := z_bind h
        have k12 : z_R G 4 55 [some (.ref (s))] [.int (q10), .int (((q1 ||| q4) ||| q7))] (z_w w I) (.inl (some (.int r))) (z_w w I) := by
          have hB : z_all [z_is 4 55 (zf_ior 55 56), z_is 4 56 (zf_aload 56 0 57), z_is 4 57 (zf_geti 57 0 6 60), z_is 4 60 (zf_if1 .eq 60 68 63)] = true := by decide +kernel
          refine z_ior hB (fun hB => ?_)
          refine z_aload hB rfl (fun hB => ?_)
          refine y_geti ok hB hs (fun hB => ?_)
          obtain ⟨q13, e14, h⟩ := z_bind h
          have k15 : z_R G 4 69 [some (.ref (s))] [.int (q13), .int ((((q1 ||| q4) ||| q7) ||| q10))] (z_w w I) (.inl (some (.int r))) (z_w w I) := by
            have hB : z_all [z_is 4 69 (zf_ior 69 70), z_is 4 70 (zf_aload 70 0 71), z_is 4 71 (zf_geti 71 0 4 74), z_is 4 74 (zf_if1 .le 74 82 77)] = true := by decide +kernel
            refine z_ior hB (fun hB => ?_)
            refine z_aload hB rfl (fun hB => ?_)
            refine y_geti ok hB hs (fun hB => ?_)
            obtain ⟨q16, e17, h⟩ := z_bind h
            have k18 : z_R G 4 83 [some (.ref (s))] [.int (q16), .int (((((q1 ||| q4) ||| q7) ||| q10) ||| q13))] (z_w w I) (.inl (some (.int r))) (z_w w I) := by
              have hB : z_all [z_is 4 83 (zf_ior 83 84), z_is 4 84 (zf_aload 84 0 85), z_is 4 85 (zf_geti 85 0 5 88), z_is 4 88 (zf_if1 .le 88 97 91)] = true := by decide +kernel
              refine z_ior hB (fun hB => ?_)
              refine z_aload hB rfl (fun hB => ?_)
              refine y_geti ok hB hs (fun hB => ?_)
              obtain ⟨q19, e20, h⟩ := z_bind h
              have k21 : z_R G 4 98 [none] [.int (q19), .int ((((((q1 ||| q4) ||| q7) ||| q10) ||| q13) ||| q16))] (z_w w I) (.inl (some (.int r))) (z_w w I) := by
                have hB : z_all [z_is 4 98 (zf_ior 98 99), z_is 4 99 (zf_ret 0)] = true := by decide +kernel
                refine z_ior hB (fun hB => ?_)
                cases h
                exact z_reti hB
              have h := e20
              refine z_if_le hB (fun hc _ => ?_) (fun hc _ => ?_)
              · have h := z_neg hc h
                have hB : z_all [z_is 4 97 (zf_cst 97 (jn 0) 98)] = true := by decide +kernel
                refine z_cst hB (fun hB => ?_)
                cases h
                exact z_weak k21 (z_sn z_s0)
              · have h := z_pos hc h
                have hB : z_all [z_is 4 91 (zf_cst 91 (jn 128) 94), z_is 4 94 (zf_goto 94 98)] = true := by decide +kernel
                refine z_cst hB (fun hB => ?_)
                refine z_goto hB (fun hB => ?_)
                cases h
                exact z_weak k21 (z_sn z_s0)
            have h := e17
            refine z_if_le hB (fun hc _ => ?_) (fun hc _ => ?_)
            · have h := z_neg hc h
              have hB : z_all [z_is 4 82 (zf_cst 82 (jn 0) 83)] = true := by decide +kernel
              refine z_cst hB (fun hB => ?_)
              cases h
              exact z_weak k18 (z_se z_s0)
            · have h := z_pos hc h
              have hB : z_all [z_is 4 77 (zf_cst 77 (jn 64) 79), z_is 4 79 (zf_goto 79 83)] = true := by decide +kernel
              refine z_cst hB (fun hB => ?_)
              refine z_goto hB (fun hB => ?_)
              cases h
              exact z_weak k18 (z_se z_s0)
          have h := e14
          refine z_if_eq hB (fun hc _ => ?_) (fun hc _ => ?_)
          · have h := z_pos hc h
            have hB : z_all [z_is 4 68 (zf_cst 68 (jn 0) 69)] = true := by decide +kernel
            refine z_cst hB (fun hB => ?_)
            cases h
            exact z_weak k15 (z_se z_s0)
          · have h := z_neg hc h
            have hB : z_all [z_is 4 63 (zf_cst 63 (jn 32) 65), z_is 4 65 (zf_goto 65 69)] = true := by decide +kernel
            refine z_cst hB (fun hB => ?_)
            refine z_goto hB (fun hB => ?_)
            cases h
            exact z_weak k15 (z_se z_s0)
        have h := e11
        refine z_if_le hB (fun hc _ => ?_) (fun hc _ => ?_)
        · have h := z_neg hc h
          have hB : z_all [z_is 4 54 (zf_cst 54 (jn 0) 55)] = true := by decide +kernel
          refine z_cst hB (fun hB => ?_)
          cases h
          exact z_weak k12 (z_se z_s0)
        · have h := z_pos hc h
          have hB : z_all [z_is 4 49 (zf_cst 49 (jn 16) 51), z_is 4 51 (zf_goto 51 55)] = true := by decide +kernel
          refine z_cst hB (fun hB => ?_)
          refine z_goto hB (fun hB => ?_)
          cases h
          exact z_weak k12 (z_se z_s0)
      have h := e8
      refine z_ic_ne hB (fun hc _ => ?_) (fun hc _ => ?_)
      · have h := z_neg hc h
        have hB : z_all [z_is 4 40 (zf_cst 40 (jn 0) 41)] = true := by decide +kernel
        refine z_cst hB (fun hB => ?_)
        cases h
        exact z_weak k9 (z_se z_s0)
      · have h := z_pos hc h
        have hB : z_all [z_is 4 35 (zf_cst 35 (jn 8) 37), z_is 4 37 (zf_goto 37 41)] = true := by decide +kernel
        refine z_cst hB (fun hB => ?_)
        refine z_goto hB (fun hB => ?_)
        cases h
        exact z_weak k9 (z_se z_s0)
    have h := e5
    refine z_ic_ne hB (fun hc _ => ?_) (fun hc _ => ?_)
    · have h := z_neg hc h
      have hB : z_all [z_is 4 25 (zf_cst 25 (jn 0) 26)] = true := by decide +kernel
      refine z_cst hB (fun hB => ?_)
      cases h
      exact z_weak k6 (z_se z_s0)
    · have h := z_pos hc h
      have hB : z_all [z_is 4 21 (zf_cst 21 (jn 4) 22), z_is 4 22 (zf_goto 22 26)] = true := by decide +kernel
      refine z_cst hB (fun hB => ?_)
      refine z_goto hB (fun hB => ?_)
      cases h
      exact z_weak k6 (z_se z_s0)
  have h := e2
  refine z_ic_ne hB (fun hc _ => ?_) (fun hc _ => ?_)
  · have h := z_neg hc h
    have hB : z_all [z_is 4 12 (zf_cst 12 (jn 0) 13)] = true := by decide +kernel
    refine z_cst hB (fun hB => ?_)
    cases h
    exact z_weak k3 (z_se z_s0)
  · have h := z_pos hc h
    have hB : z_all [z_is 4 8 (zf_cst 8 (jn 2) 9), z_is 4 9 (zf_goto 9 13)] = true := by decide +kernel
    refine z_cst hB (fun hB => ?_)
    refine z_goto hB (fun hB => ?_)
    cases h
    exact z_weak k3 (z_se z_s0)
def d_G_firstReason_4 (q1 : Int32) (p3 : Int32) : Option ((Int32) ⊕ (Int32)) := (if (jn 7) < p3 then some (Sum.inr ((jn 0))) else (if ((q1 >>> (p3 &&& 31)) &&& (jn 1)) = jn 0 then some (Sum.inl ((p3 + (jn 1)))) else some (Sum.inr (p3))))
def d_G_firstReason (s : Nat) (I : z_H) : Option (Int32) := ((d_G_allReasons s I).bind fun q1 => (z_it (d_G_firstReason_4 q1) z_F ((jn 1))))
/-- Flag.firstReason()I -/
theorem t_G_firstReason {G : z_G} {w : ev_W} (ok : z_Ok G w) {s : Nat} (hs : zt 0 s = true) {I : z_H} {r : Int32} (h : d_G_firstReason s I = some r) : z_K G 5 [.ref (s)] (z_w w I) (.inl (some (.int r))) (z_w w I) := by
  refine z_con ok.1 (ml := 3) (by decide +kernel) rfl rfl ?_
  show z_R G 5 0 [some (.ref (s)), none, none] [] (z_w w I) (.inl (some (.int r))) (z_w w I)
  unfold d_G_firstReason at h
  have hB : z_all [z_is 5 0 (zf_aload 0 0 1), z_is 5 1 (zf_cv 1 4 0 0 4), z_is 5 4 (zf_istore 4 1 5), z_is 5 5 (zf_cst 5 (jn 1) 6), z_is 5 6 (zf_istore 6 2 7)] = true := by decide +kernel
  refine z_aload hB rfl (fun hB => ?_)
  obtain ⟨q1, e2, h⟩ := z_bind h
  refine y_cv ok hB (as := []) (a := s) (rest := []) rfl rfl rfl hs (t_G_allReasons (I := I) ok hs e2) (fun hB => ?_)
  refine z_istore hB rfl rfl (fun hB => ?_)
  refine z_cst hB (fun hB => ?_)
  refine z_istore hB rfl rfl (fun hB => ?_)
  have l4 : ∀ (m4 : Nat) (p3 : Int32), z_it (d_G_firstReason_4 q1) m4 p3 = some r → z_R G 5 7 [none, some (.int (q1)), some (.int (p3))] [] (z_w w I) (.inl (some (.int r))) (z_w w I) := by
    intro m4
    induction m4 with
    | zero => intro p3 h; cases h
    | succ m4 i4 =>
      intro p3 h
      obtain ⟨u4, h, b4⟩ := z_it_o h
      unfold d_G_firstReason_4 at h
      have hB : z_all [z_is 5 7 (zf_iload 7 2 8), z_is 5 8 (zf_cst 8 (jn 7) 10), z_is 5 10 (zf_if2 .gt 10 29 13)] = true := by decide +kernel
      refine z_iload hB rfl (fun hB => ?_)
      refine z_cst hB (fun hB => ?_)
      refine z_ic_gt hB (fun hc _ => ?_) (fun hc _ => ?_)
      · have h := z_pos hc h
        have hB : z_all [z_is 5 29 (zf_cst 29 (jn 0) 30), z_is 5 30 (zf_ret 0)] = true := by decide +kernel
        refine z_cst hB (fun hB => ?_)
        cases h
        cases b4
        exact z_reti hB
      · have h := z_neg hc h
        have hB : z_all [z_is 5 13 (zf_iload 13 1 14), z_is 5 14 (zf_iload 14 2 15), z_is 5 15 (zf_ishr 15 16), z_is 5 16 (zf_cst 16 (jn 1) 17), z_is 5 17 (zf_iand 17 18), z_is 5 18 (zf_if1 .eq 18 23 21)] = true := by decide +kernel
        refine z_iload hB rfl (fun hB => ?_)
        refine z_iload hB rfl (fun hB => ?_)
        refine z_ishr hB (fun hB => ?_)
        refine z_cst hB (fun hB => ?_)
        refine z_iand hB (fun hB => ?_)
        refine z_if_eq hB (fun hc _ => ?_) (fun hc _ => ?_)
        · have h := z_pos hc h
          have hB : z_all [z_is 5 23 (zf_iinc 23 2 (jn 1) 26), z_is 5 26 (zf_goto 26 7)] = true := by decide +kernel
          refine z_iinc hB rfl rfl (fun hB => ?_)
          refine z_goto hB (fun hB => ?_)
          cases h
          exact z_weak (i4 ((p3 + (jn 1))) b4) (z_sn (z_se (z_se z_s0)))
        · have h := z_neg hc h
          have hB : z_all [z_is 5 21 (zf_iload 21 2 22), z_is 5 22 (zf_ret 0)] = true := by decide +kernel
          refine z_iload hB rfl (fun hB => ?_)
          cases h
          cases b4
          exact z_reti hB
  exact z_weak (l4 _ ((jn 1)) h) (z_sn (z_se (z_se z_s0)))
def d_G_isReady (s : Nat) (I : z_H) : Option (Int32) := ((d_G_allReasons s I).bind fun q1 => (Option.bind (α := Int32) (if q1 = jn 0 then some ((jn 1)) else some ((jn 0))) fun q3 => (if (q3) = jn 0 ∨ (q3) = jn 1 then some (q3) else none)))
/-- Flag.isReady()Z -/
theorem t_G_isReady {G : z_G} {w : ev_W} (ok : z_Ok G w) {s : Nat} (hs : zt 0 s = true) {I : z_H} {r : Int32} (h : d_G_isReady s I = some r) : z_K G 6 [.ref (s)] (z_w w I) (.inl (some (.int r))) (z_w w I) := by
  refine z_con ok.1 (ml := 1) (by decide +kernel) rfl rfl ?_
  show z_R G 6 0 [some (.ref (s))] [] (z_w w I) (.inl (some (.int r))) (z_w w I)
  unfold d_G_isReady at h
  have hB : z_all [z_is 6 0 (zf_aload 0 0 1), z_is 6 1 (zf_cv 1 4 0 0 4), z_is 6 4 (zf_if1 .ne 4 11 7)] = true := by decide +kernel
  refine z_aload hB rfl (fun hB => ?_)
  obtain ⟨q1, e2, h⟩ := z_bind h
  refine y_cv ok hB (as := []) (a := s) (rest := []) rfl rfl rfl hs (t_G_allReasons (I := I) ok hs e2) (fun hB => ?_)
  obtain ⟨q3, e4, h⟩ := z_bind h
  have k5 : z_R G 6 12 [none] [.int (q3)] (z_w w I) (.inl (some (.int r))) (z_w w I) := by
    have hB : z_all [z_is 6 12 (zf_ret 1)] = true := by decide +kernel
    obtain ⟨g6, h⟩ := z_gd h
    cases h
    exact z_retz hB g6
  have h := e4
  refine z_if_ne hB (fun hc _ => ?_) (fun hc _ => ?_)
  · have h := z_neg hc h
    have hB : z_all [z_is 6 11 (zf_cst 11 (jn 0) 12)] = true := by decide +kernel
    refine z_cst hB (fun hB => ?_)
    cases h
    exact z_weak k5 (z_sn z_s0)
  · have h := z_pos hc h
    have hB : z_all [z_is 6 7 (zf_cst 7 (jn 1) 8), z_is 6 8 (zf_goto 8 12)] = true := by decide +kernel
    refine z_cst hB (fun hB => ?_)
    refine z_goto hB (fun hB => ?_)
    cases h
    exact z_weak k5 (z_sn z_s0)
def d_G_bears (s : Nat) (x1 : Int32) (I : z_H) : Option (Int32) := (Option.bind (α := Int32) (if (I s 2) < x1 then some ((jn 0)) else some ((jn 1))) fun q1 => (if (q1) = jn 0 ∨ (q1) = jn 1 then some (q1) else none))
/-- Flag.bears(I)Z -/
theorem t_G_bears {G : z_G} {w : ev_W} (ok : z_Ok G w) {s : Nat} {x1 : Int32} (hs : zt 0 s = true) {I : z_H} {r : Int32} (h : d_G_bears s x1 I = some r) : z_K G 7 [.ref (s), .int (x1)] (z_w w I) (.inl (some (.int r))) (z_w w I) := by
  refine z_con ok.1 (ml := 2) (by decide +kernel) rfl rfl ?_
  show z_R G 7 0 [some (.ref (s)), some (.int (x1))] [] (z_w w I) (.inl (some (.int r))) (z_w w I)
  unfold d_G_bears at h
  have hB : z_all [z_is 7 0 (zf_iload 0 1 1), z_is 7 1 (zf_aload 1 0 2), z_is 7 2 (zf_geti 2 0 2 5), z_is 7 5 (zf_if2 .gt 5 12 8)] = true := by decide +kernel
  refine z_iload hB rfl (fun hB => ?_)
  refine z_aload hB rfl (fun hB => ?_)
  refine y_geti ok hB hs (fun hB => ?_)
  obtain ⟨q1, e2, h⟩ := z_bind h
  have k3 : z_R G 7 13 [none, none] [.int (q1)] (z_w w I) (.inl (some (.int r))) (z_w w I) := by
    have hB : z_all [z_is 7 13 (zf_ret 1)] = true := by decide +kernel
    obtain ⟨g4, h⟩ := z_gd h
    cases h
    exact z_retz hB g4
  have h := e2
  refine z_ic_gt hB (fun hc _ => ?_) (fun hc _ => ?_)
  · have h := z_pos hc h
    have hB : z_all [z_is 7 12 (zf_cst 12 (jn 0) 13)] = true := by decide +kernel
    refine z_cst hB (fun hB => ?_)
    cases h
    exact z_weak k3 (z_sn (z_sn z_s0))
  · have h := z_neg hc h
    have hB : z_all [z_is 7 8 (zf_cst 8 (jn 1) 9), z_is 7 9 (zf_goto 9 13)] = true := by decide +kernel
    refine z_cst hB (fun hB => ?_)
    refine z_goto hB (fun hB => ?_)
    cases h
    exact z_weak k3 (z_sn (z_sn z_s0))
def d_G_reasonAgainstIron (s : Nat) (x1 : Int32) (I : z_H) : Option (Int32) := (if (I s 8) = jn 0 then ((d_G_bears s (x1) I).bind fun q1 => (if q1 = jn 0 then some ((jn 2)) else (if (jn 3) < (I s 4) then some ((jn 3)) else (Option.bind (α := Int32) (if (I s 6) = jn 0 then some ((jn 0)) else some ((jn 4))) fun q3 => some (q3))))) else some ((jn 1)))
/-- Flag.reasonAgainstIron(I)I -/
theorem t_G_reasonAgainstIron {G : z_G} {w : ev_W} (ok : z_Ok G w) {s : Nat} {x1 : Int32} (hs : zt 0 s = true) {I : z_H} {r : Int32} (h : d_G_reasonAgainstIron s x1 I = some r) : z_K G 8 [.ref (s), .int (x1)] (z_w w I) (.inl (some (.int r))) (z_w w I) := by
  refine z_con ok.1 (ml := 2) (by decide +kernel) rfl rfl ?_
  show z_R G 8 0 [some (.ref (s)), some (.int (x1))] [] (z_w w I) (.inl (some (.int r))) (z_w w I)
  unfold d_G_reasonAgainstIron at h
  have hB : z_all [z_is 8 0 (zf_aload 0 0 1), z_is 8 1 (zf_geti 1 0 8 4), z_is 8 4 (zf_if1 .eq 4 9 7)] = true := by decide +kernel
  refine z_aload hB rfl (fun hB => ?_)
  refine y_geti ok hB hs (fun hB => ?_)
  refine z_if_eq hB (fun hc _ => ?_) (fun hc _ => ?_)
  · have h := z_pos hc h
    have hB : z_all [z_is 8 9 (zf_aload 9 0 10), z_is 8 10 (zf_iload 10 1 11), z_is 8 11 (zf_cv 11 7 1 0 14), z_is 8 14 (zf_if1 .ne 14 19 17)] = true := by decide +kernel
    refine z_aload hB rfl (fun hB => ?_)
    refine z_iload hB rfl (fun hB => ?_)
    obtain ⟨q1, e2, h⟩ := z_bind h
    refine y_cv ok hB (as := [.int (x1)]) (a := s) (rest := []) rfl rfl rfl hs (t_G_bears (I := I) ok hs e2) (fun hB => ?_)
    refine z_if_ne hB (fun hc _ => ?_) (fun hc _ => ?_)
    · have h := z_neg hc h
      have hB : z_all [z_is 8 19 (zf_aload 19 0 20), z_is 8 20 (zf_geti 20 0 4 23), z_is 8 23 (zf_cst 23 (jn 3) 24), z_is 8 24 (zf_if2 .le 24 29 27)] = true := by decide +kernel
      refine z_aload hB rfl (fun hB => ?_)
      refine y_geti ok hB hs (fun hB => ?_)
      refine z_cst hB (fun hB => ?_)
      refine z_ic_le hB (fun hc _ => ?_) (fun hc _ => ?_)
      · have h := z_neg hc h
        have hB : z_all [z_is 8 29 (zf_aload 29 0 30), z_is 8 30 (zf_geti 30 0 6 33), z_is 8 33 (zf_if1 .eq 33 40 36)] = true := by decide +kernel
        refine z_aload hB rfl (fun hB => ?_)
        refine y_geti ok hB hs (fun hB => ?_)
        obtain ⟨q3, e4, h⟩ := z_bind h
        have k5 : z_R G 8 41 [none, none] [.int (q3)] (z_w w I) (.inl (some (.int r))) (z_w w I) := by
          have hB : z_all [z_is 8 41 (zf_ret 0)] = true := by decide +kernel
          cases h
          exact z_reti hB
        have h := e4
        refine z_if_eq hB (fun hc _ => ?_) (fun hc _ => ?_)
        · have h := z_pos hc h
          have hB : z_all [z_is 8 40 (zf_cst 40 (jn 0) 41)] = true := by decide +kernel
          refine z_cst hB (fun hB => ?_)
          cases h
          exact z_weak k5 (z_sn (z_sn z_s0))
        · have h := z_neg hc h
          have hB : z_all [z_is 8 36 (zf_cst 36 (jn 4) 37), z_is 8 37 (zf_goto 37 41)] = true := by decide +kernel
          refine z_cst hB (fun hB => ?_)
          refine z_goto hB (fun hB => ?_)
          cases h
          exact z_weak k5 (z_sn (z_sn z_s0))
      · have h := z_pos hc h
        have hB : z_all [z_is 8 27 (zf_cst 27 (jn 3) 28), z_is 8 28 (zf_ret 0)] = true := by decide +kernel
        refine z_cst hB (fun hB => ?_)
        cases h
        exact z_reti hB
    · have h := z_pos hc h
      have hB : z_all [z_is 8 17 (zf_cst 17 (jn 2) 18), z_is 8 18 (zf_ret 0)] = true := by decide +kernel
      refine z_cst hB (fun hB => ?_)
      cases h
      exact z_reti hB
  · have h := z_neg hc h
    have hB : z_all [z_is 8 7 (zf_cst 7 (jn 1) 8), z_is 8 8 (zf_ret 0)] = true := by decide +kernel
    refine z_cst hB (fun hB => ?_)
    cases h
    exact z_reti hB
def d_G_reasonAgainstBleach (s : Nat) (I : z_H) : Option (Int32) := (if (I s 8) = jn 0 then (if (I s 6) = jn 0 then some ((jn 2)) else (Option.bind (α := Int32) (if (I s 7) < (jn 2) then some ((jn 0)) else some ((jn 3))) fun q1 => some (q1))) else some ((jn 1)))
/-- Flag.reasonAgainstBleach()I -/
theorem t_G_reasonAgainstBleach {G : z_G} {w : ev_W} (ok : z_Ok G w) {s : Nat} (hs : zt 0 s = true) {I : z_H} {r : Int32} (h : d_G_reasonAgainstBleach s I = some r) : z_K G 9 [.ref (s)] (z_w w I) (.inl (some (.int r))) (z_w w I) := by
  refine z_con ok.1 (ml := 1) (by decide +kernel) rfl rfl ?_
  show z_R G 9 0 [some (.ref (s))] [] (z_w w I) (.inl (some (.int r))) (z_w w I)
  unfold d_G_reasonAgainstBleach at h
  have hB : z_all [z_is 9 0 (zf_aload 0 0 1), z_is 9 1 (zf_geti 1 0 8 4), z_is 9 4 (zf_if1 .eq 4 9 7)] = true := by decide +kernel
  refine z_aload hB rfl (fun hB => ?_)
  refine y_geti ok hB hs (fun hB => ?_)
  refine z_if_eq hB (fun hc _ => ?_) (fun hc _ => ?_)
  · have h := z_pos hc h
    have hB : z_all [z_is 9 9 (zf_aload 9 0 10), z_is 9 10 (zf_geti 10 0 6 13), z_is 9 13 (zf_if1 .ne 13 18 16)] = true := by decide +kernel
    refine z_aload hB rfl (fun hB => ?_)
    refine y_geti ok hB hs (fun hB => ?_)
    refine z_if_ne hB (fun hc _ => ?_) (fun hc _ => ?_)
    · have h := z_neg hc h
      have hB : z_all [z_is 9 18 (zf_aload 18 0 19), z_is 9 19 (zf_geti 19 0 7 22), z_is 9 22 (zf_cst 22 (jn 2) 23), z_is 9 23 (zf_if2 .lt 23 30 26)] = true := by decide +kernel
      refine z_aload hB rfl (fun hB => ?_)
      refine y_geti ok hB hs (fun hB => ?_)
      refine z_cst hB (fun hB => ?_)
      obtain ⟨q1, e2, h⟩ := z_bind h
      have k3 : z_R G 9 31 [none] [.int (q1)] (z_w w I) (.inl (some (.int r))) (z_w w I) := by
        have hB : z_all [z_is 9 31 (zf_ret 0)] = true := by decide +kernel
        cases h
        exact z_reti hB
      have h := e2
      refine z_ic_lt hB (fun hc _ => ?_) (fun hc _ => ?_)
      · have h := z_pos hc h
        have hB : z_all [z_is 9 30 (zf_cst 30 (jn 0) 31)] = true := by decide +kernel
        refine z_cst hB (fun hB => ?_)
        cases h
        exact z_weak k3 (z_sn z_s0)
      · have h := z_neg hc h
        have hB : z_all [z_is 9 26 (zf_cst 26 (jn 3) 27), z_is 9 27 (zf_goto 27 31)] = true := by decide +kernel
        refine z_cst hB (fun hB => ?_)
        refine z_goto hB (fun hB => ?_)
        cases h
        exact z_weak k3 (z_sn z_s0)
    · have h := z_pos hc h
      have hB : z_all [z_is 9 16 (zf_cst 16 (jn 2) 17), z_is 9 17 (zf_ret 0)] = true := by decide +kernel
      refine z_cst hB (fun hB => ?_)
      cases h
      exact z_reti hB
  · have h := z_neg hc h
    have hB : z_all [z_is 9 7 (zf_cst 7 (jn 1) 8), z_is 9 8 (zf_ret 0)] = true := by decide +kernel
    refine z_cst hB (fun hB => ?_)
    cases h
    exact z_reti hB
def d_G_carried (s : Nat) (I : z_H) : Option (Int32) := some (((I s 1) ||| (I s 6)))
/-- Flag.carried()I -/
theorem t_G_carried {G : z_G} {w : ev_W} (ok : z_Ok G w) {s : Nat} (hs : zt 0 s = true) {I : z_H} {r : Int32} (h : d_G_carried s I = some r) : z_K G 10 [.ref (s)] (z_w w I) (.inl (some (.int r))) (z_w w I) := by
  refine z_con ok.1 (ml := 1) (by decide +kernel) rfl rfl ?_
  show z_R G 10 0 [some (.ref (s))] [] (z_w w I) (.inl (some (.int r))) (z_w w I)
  unfold d_G_carried at h
  have hB : z_all [z_is 10 0 (zf_aload 0 0 1), z_is 10 1 (zf_geti 1 0 1 4), z_is 10 4 (zf_aload 4 0 5), z_is 10 5 (zf_geti 5 0 6 8), z_is 10 8 (zf_ior 8 9), z_is 10 9 (zf_ret 0)] = true := by decide +kernel
  refine z_aload hB rfl (fun hB => ?_)
  refine y_geti ok hB hs (fun hB => ?_)
  refine z_aload hB rfl (fun hB => ?_)
  refine y_geti ok hB hs (fun hB => ?_)
  refine z_ior hB (fun hB => ?_)
  cases h
  exact z_reti hB
def d_G_newStains (s : Nat) (x1 : Int32) (I : z_H) : Option (Int32) := some ((x1 &&& (((I s 1) ||| (I s 6)) ^^^ (jg 1))))
/-- Flag.newStains(I)I -/
theorem t_G_newStains {G : z_G} {w : ev_W} (ok : z_Ok G w) {s : Nat} {x1 : Int32} (hs : zt 0 s = true) {I : z_H} {r : Int32} (h : d_G_newStains s x1 I = some r) : z_K G 11 [.ref (s), .int (x1)] (z_w w I) (.inl (some (.int r))) (z_w w I) := by
  refine z_con ok.1 (ml := 2) (by decide +kernel) rfl rfl ?_
  show z_R G 11 0 [some (.ref (s)), some (.int (x1))] [] (z_w w I) (.inl (some (.int r))) (z_w w I)
  unfold d_G_newStains at h
  have hB : z_all [z_is 11 0 (zf_iload 0 1 1), z_is 11 1 (zf_aload 1 0 2), z_is 11 2 (zf_geti 2 0 1 5), z_is 11 5 (zf_aload 5 0 6), z_is 11 6 (zf_geti 6 0 6 9), z_is 11 9 (zf_ior 9 10), z_is 11 10 (zf_cst 10 (jg 1) 11), z_is 11 11 (zf_ixor 11 12), z_is 11 12 (zf_iand 12 13), z_is 11 13 (zf_ret 0)] = true := by decide +kernel
  refine z_iload hB rfl (fun hB => ?_)
  refine z_aload hB rfl (fun hB => ?_)
  refine y_geti ok hB hs (fun hB => ?_)
  refine z_aload hB rfl (fun hB => ?_)
  refine y_geti ok hB hs (fun hB => ?_)
  refine z_ior hB (fun hB => ?_)
  refine z_cst hB (fun hB => ?_)
  refine z_ixor hB (fun hB => ?_)
  refine z_iand hB (fun hB => ?_)
  cases h
  exact z_reti hB
def d_G_dirtAfterWash (s : Nat) (x1 : Int32) (I : z_H) : Option (Int32) := some ((z_mx ((jn 0)) ((((I s 3) - (jn 1)) - ((jn 2) * x1)))))
/-- Flag.dirtAfterWash(I)I -/
theorem t_G_dirtAfterWash {G : z_G} {w : ev_W} (ok : z_Ok G w) {s : Nat} {x1 : Int32} (hs : zt 0 s = true) {I : z_H} {r : Int32} (h : d_G_dirtAfterWash s x1 I = some r) : z_K G 12 [.ref (s), .int (x1)] (z_w w I) (.inl (some (.int r))) (z_w w I) := by
  refine z_con ok.1 (ml := 2) (by decide +kernel) rfl rfl ?_
  show z_R G 12 0 [some (.ref (s)), some (.int (x1))] [] (z_w w I) (.inl (some (.int r))) (z_w w I)
  unfold d_G_dirtAfterWash at h
  have hB : z_all [z_is 12 0 (zf_cst 0 (jn 0) 1), z_is 12 1 (zf_aload 1 0 2), z_is 12 2 (zf_geti 2 0 3 5), z_is 12 5 (zf_cst 5 (jn 1) 6), z_is 12 6 (zf_isub 6 7), z_is 12 7 (zf_cst 7 (jn 2) 8), z_is 12 8 (zf_iload 8 1 9), z_is 12 9 (zf_imul 9 10), z_is 12 10 (zf_isub 10 11), z_is 12 11 (zf_nat 11 100 14), z_is 12 14 (zf_ret 0)] = true := by decide +kernel
  refine z_cst hB (fun hB => ?_)
  refine z_aload hB rfl (fun hB => ?_)
  refine y_geti ok hB hs (fun hB => ?_)
  refine z_cst hB (fun hB => ?_)
  refine z_isub hB (fun hB => ?_)
  refine z_cst hB (fun hB => ?_)
  refine z_iload hB rfl (fun hB => ?_)
  refine z_imul hB (fun hB => ?_)
  refine z_isub hB (fun hB => ?_)
  refine z_max hB rfl (fun hB => ?_)
  cases h
  exact z_reti hB
def d_G_takeWash (s : Nat) (x1 : Int32) (x2 : Int32) (I : z_H) : Option (z_H) := ((d_G_newStains s (x2) I).bind fun q1 => ((d_G_dirtAfterWash s (x1) (ev_u2 I s 6 ((I s 6) ||| q1))).bind fun q3 => (Option.bind (α := z_H) (some (ev_u2 (ev_u2 (ev_u2 (ev_u2 I s 6 ((I s 6) ||| q1)) s 3 q3) s 4 (jn 9)) s 5 (z_mn ((jn 9)) (((((ev_u2 (ev_u2 (ev_u2 I s 6 ((I s 6) ||| q1)) s 3 q3) s 4 (jn 9)) s 5) + (jn 1)) + x1))))) fun J5 => some (J5))))
/-- Flag.takeWash(II)V -/
theorem t_G_takeWash {G : z_G} {w : ev_W} (ok : z_Ok G w) {s : Nat} {x1 : Int32} {x2 : Int32} (hs : zt 0 s = true) {I : z_H} {r : z_H} (h : d_G_takeWash s x1 x2 I = some r) : z_K G 13 [.ref (s), .int (x1), .int (x2)] (z_w w I) (.inl none) (z_w w r) := by
  refine z_con ok.1 (ml := 3) (by decide +kernel) rfl rfl ?_
  show z_R G 13 0 [some (.ref (s)), some (.int (x1)), some (.int (x2))] [] (z_w w I) (.inl none) (z_w w r)
  unfold d_G_takeWash at h
  have hB : z_all [z_is 13 0 (zf_aload 0 0 1), z_is 13 1 (zf_dupr 1 2), z_is 13 2 (zf_geti 2 0 6 5), z_is 13 5 (zf_aload 5 0 6), z_is 13 6 (zf_iload 6 2 7), z_is 13 7 (zf_cv 7 11 1 0 10), z_is 13 10 (zf_ior 10 11), z_is 13 11 (zf_puti 11 0 6 14), z_is 13 14 (zf_aload 14 0 15), z_is 13 15 (zf_aload 15 0 16), z_is 13 16 (zf_iload 16 1 17), z_is 13 17 (zf_cv 17 12 1 0 20), z_is 13 20 (zf_puti 20 0 3 23), z_is 13 23 (zf_aload 23 0 24), z_is 13 24 (zf_cst 24 (jn 9) 26), z_is 13 26 (zf_puti 26 0 4 29), z_is 13 29 (zf_aload 29 0 30), z_is 13 30 (zf_cst 30 (jn 9) 32), z_is 13 32 (zf_aload 32 0 33), z_is 13 33 (zf_geti 33 0 5 36), z_is 13 36 (zf_cst 36 (jn 1) 37), z_is 13 37 (zf_iadd 37 38), z_is 13 38 (zf_iload 38 1 39), z_is 13 39 (zf_iadd 39 40), z_is 13 40 (zf_nat 40 101 43), z_is 13 43 (zf_puti 43 0 5 46), z_is 13 46 (zf_ret 6)] = true := by decide +kernel
  refine z_aload hB rfl (fun hB => ?_)
  refine z_dupr hB (fun hB => ?_)
  refine y_geti ok hB hs (fun hB => ?_)
  refine z_aload hB rfl (fun hB => ?_)
  refine z_iload hB rfl (fun hB => ?_)
  obtain ⟨q1, e2, h⟩ := z_bind h
  refine y_cv ok hB (as := [.int (x2)]) (a := s) (rest := [.int ((I s 6)), .ref (s)]) rfl rfl rfl hs (t_G_newStains (I := I) ok hs e2) (fun hB => ?_)
  refine z_ior hB (fun hB => ?_)
  refine y_puti ok hB hs (fun hB => ?_)
  refine z_aload hB rfl (fun hB => ?_)
  refine z_aload hB rfl (fun hB => ?_)
  refine z_iload hB rfl (fun hB => ?_)
  obtain ⟨q3, e4, h⟩ := z_bind h
  refine y_cv ok hB (as := [.int (x1)]) (a := s) (rest := [.ref (s)]) rfl rfl rfl hs (t_G_dirtAfterWash (I := (ev_u2 I s 6 ((I s 6) ||| q1))) ok hs e4) (fun hB => ?_)
  refine y_puti ok hB hs (fun hB => ?_)
  refine z_aload hB rfl (fun hB => ?_)
  refine z_cst hB (fun hB => ?_)
  refine y_puti ok hB hs (fun hB => ?_)
  refine z_aload hB rfl (fun hB => ?_)
  refine z_cst hB (fun hB => ?_)
  refine z_aload hB rfl (fun hB => ?_)
  refine y_geti ok hB hs (fun hB => ?_)
  refine z_cst hB (fun hB => ?_)
  refine z_iadd hB (fun hB => ?_)
  refine z_iload hB rfl (fun hB => ?_)
  refine z_iadd hB (fun hB => ?_)
  refine z_min hB rfl (fun hB => ?_)
  refine y_puti ok hB hs (fun hB => ?_)
  obtain ⟨J5, e6, h⟩ := z_bind h
  rw [z_inj e6]
  cases h
  exact z_retv hB
def d_G_takeFall (s : Nat) (I : z_H) : Option (z_H) := some ((ev_u2 I s 3 (z_mn ((jn 9)) (((I s 3) + (jn 1))))))
/-- Flag.takeFall()V -/
theorem t_G_takeFall {G : z_G} {w : ev_W} (ok : z_Ok G w) {s : Nat} (hs : zt 0 s = true) {I : z_H} {r : z_H} (h : d_G_takeFall s I = some r) : z_K G 14 [.ref (s)] (z_w w I) (.inl none) (z_w w r) := by
  refine z_con ok.1 (ml := 1) (by decide +kernel) rfl rfl ?_
  show z_R G 14 0 [some (.ref (s))] [] (z_w w I) (.inl none) (z_w w r)
  unfold d_G_takeFall at h
  have hB : z_all [z_is 14 0 (zf_aload 0 0 1), z_is 14 1 (zf_cst 1 (jn 9) 3), z_is 14 3 (zf_aload 3 0 4), z_is 14 4 (zf_geti 4 0 3 7), z_is 14 7 (zf_cst 7 (jn 1) 8), z_is 14 8 (zf_iadd 8 9), z_is 14 9 (zf_nat 9 101 12), z_is 14 12 (zf_puti 12 0 3 15), z_is 14 15 (zf_ret 6)] = true := by decide +kernel
  refine z_aload hB rfl (fun hB => ?_)
  refine z_cst hB (fun hB => ?_)
  refine z_aload hB rfl (fun hB => ?_)
  refine y_geti ok hB hs (fun hB => ?_)
  refine z_cst hB (fun hB => ?_)
  refine z_iadd hB (fun hB => ?_)
  refine z_min hB rfl (fun hB => ?_)
  refine y_puti ok hB hs (fun hB => ?_)
  cases h
  exact z_retv hB
def d_G_creaseAfterIron (x1 : Int32) (x2 : Int32) (x3 : Int32) : Option (Int32) := (Option.bind (α := Int32) (if jn 0 < x2 then some ((jn 1)) else some ((jn 0))) fun q1 => some ((z_mx ((jn 0)) ((((x1 - (jn 1)) - x3) - q1)))))
/-- Flag.creaseAfterIron(III)I -/
theorem t_G_creaseAfterIron {G : z_G} {w : ev_W} (ok : z_Ok G w) {x1 : Int32} {x2 : Int32} {x3 : Int32} {I : z_H} {r : Int32} (h : d_G_creaseAfterIron x1 x2 x3 = some r) : z_K G 15 [.int (x1), .int (x2), .int (x3)] (z_w w I) (.inl (some (.int r))) (z_w w I) := by
  refine z_con ok.1 (ml := 3) (by decide +kernel) rfl rfl ?_
  show z_R G 15 0 [some (.int (x1)), some (.int (x2)), some (.int (x3))] [] (z_w w I) (.inl (some (.int r))) (z_w w I)
  unfold d_G_creaseAfterIron at h
  have hB : z_all [z_is 15 0 (zf_cst 0 (jn 0) 1), z_is 15 1 (zf_iload 1 0 2), z_is 15 2 (zf_cst 2 (jn 1) 3), z_is 15 3 (zf_isub 3 4), z_is 15 4 (zf_iload 4 2 5), z_is 15 5 (zf_isub 5 6), z_is 15 6 (zf_iload 6 1 7), z_is 15 7 (zf_if1 .le 7 14 10)] = true := by decide +kernel
  refine z_cst hB (fun hB => ?_)
  refine z_iload hB rfl (fun hB => ?_)
  refine z_cst hB (fun hB => ?_)
  refine z_isub hB (fun hB => ?_)
  refine z_iload hB rfl (fun hB => ?_)
  refine z_isub hB (fun hB => ?_)
  refine z_iload hB rfl (fun hB => ?_)
  obtain ⟨q1, e2, h⟩ := z_bind h
  have k3 : z_R G 15 15 [none, none, none] [.int (q1), .int (((x1 - (jn 1)) - x3)), .int ((jn 0))] (z_w w I) (.inl (some (.int r))) (z_w w I) := by
    have hB : z_all [z_is 15 15 (zf_isub 15 16), z_is 15 16 (zf_nat 16 100 19), z_is 15 19 (zf_ret 0)] = true := by decide +kernel
    refine z_isub hB (fun hB => ?_)
    refine z_max hB rfl (fun hB => ?_)
    cases h
    exact z_reti hB
  have h := e2
  refine z_if_le hB (fun hc _ => ?_) (fun hc _ => ?_)
  · have h := z_neg hc h
    have hB : z_all [z_is 15 14 (zf_cst 14 (jn 0) 15)] = true := by decide +kernel
    refine z_cst hB (fun hB => ?_)
    cases h
    exact z_weak k3 (z_sn (z_sn (z_sn z_s0)))
  · have h := z_pos hc h
    have hB : z_all [z_is 15 10 (zf_cst 10 (jn 1) 11), z_is 15 11 (zf_goto 11 15)] = true := by decide +kernel
    refine z_cst hB (fun hB => ?_)
    refine z_goto hB (fun hB => ?_)
    cases h
    exact z_weak k3 (z_sn (z_sn (z_sn z_s0)))
def d_G_wetAfterIron (x1 : Int32) (x2 : Int32) : Option (Int32) := some ((z_mx ((jn 0)) ((x1 - x2))))
/-- Flag.wetAfterIron(II)I -/
theorem t_G_wetAfterIron {G : z_G} {w : ev_W} (ok : z_Ok G w) {x1 : Int32} {x2 : Int32} {I : z_H} {r : Int32} (h : d_G_wetAfterIron x1 x2 = some r) : z_K G 16 [.int (x1), .int (x2)] (z_w w I) (.inl (some (.int r))) (z_w w I) := by
  refine z_con ok.1 (ml := 2) (by decide +kernel) rfl rfl ?_
  show z_R G 16 0 [some (.int (x1)), some (.int (x2))] [] (z_w w I) (.inl (some (.int r))) (z_w w I)
  unfold d_G_wetAfterIron at h
  have hB : z_all [z_is 16 0 (zf_cst 0 (jn 0) 1), z_is 16 1 (zf_iload 1 0 2), z_is 16 2 (zf_iload 2 1 3), z_is 16 3 (zf_isub 3 4), z_is 16 4 (zf_nat 4 100 7), z_is 16 7 (zf_ret 0)] = true := by decide +kernel
  refine z_cst hB (fun hB => ?_)
  refine z_iload hB rfl (fun hB => ?_)
  refine z_iload hB rfl (fun hB => ?_)
  refine z_isub hB (fun hB => ?_)
  refine z_max hB rfl (fun hB => ?_)
  cases h
  exact z_reti hB
def d_G_takeIron (s : Nat) (x1 : Int32) (I : z_H) : Option (z_H) := ((d_G_creaseAfterIron ((I s 5)) ((I s 4)) (x1)).bind fun q1 => ((d_G_wetAfterIron (((ev_u2 I s 5 q1) s 4)) (x1)).bind fun q3 => some ((ev_u2 (ev_u2 I s 5 q1) s 4 q3))))
/-- Flag.takeIron(I)V -/
theorem t_G_takeIron {G : z_G} {w : ev_W} (ok : z_Ok G w) {s : Nat} {x1 : Int32} (hs : zt 0 s = true) {I : z_H} {r : z_H} (h : d_G_takeIron s x1 I = some r) : z_K G 17 [.ref (s), .int (x1)] (z_w w I) (.inl none) (z_w w r) := by
  refine z_con ok.1 (ml := 2) (by decide +kernel) rfl rfl ?_
  show z_R G 17 0 [some (.ref (s)), some (.int (x1))] [] (z_w w I) (.inl none) (z_w w r)
  unfold d_G_takeIron at h
  have hB : z_all [z_is 17 0 (zf_aload 0 0 1), z_is 17 1 (zf_aload 1 0 2), z_is 17 2 (zf_geti 2 0 5 5), z_is 17 5 (zf_aload 5 0 6), z_is 17 6 (zf_geti 6 0 4 9), z_is 17 9 (zf_iload 9 1 10), z_is 17 10 (zf_cs 10 15 3 13), z_is 17 13 (zf_puti 13 0 5 16), z_is 17 16 (zf_aload 16 0 17), z_is 17 17 (zf_aload 17 0 18), z_is 17 18 (zf_geti 18 0 4 21), z_is 17 21 (zf_iload 21 1 22), z_is 17 22 (zf_cs 22 16 2 25), z_is 17 25 (zf_puti 25 0 4 28), z_is 17 28 (zf_ret 6)] = true := by decide +kernel
  refine z_aload hB rfl (fun hB => ?_)
  refine z_aload hB rfl (fun hB => ?_)
  refine y_geti ok hB hs (fun hB => ?_)
  refine z_aload hB rfl (fun hB => ?_)
  refine y_geti ok hB hs (fun hB => ?_)
  refine z_iload hB rfl (fun hB => ?_)
  obtain ⟨q1, e2, h⟩ := z_bind h
  refine z_callS hB (as := [.int ((I s 5)), .int ((I s 4)), .int (x1)]) (rest := [.ref (s)]) rfl rfl rfl (t_G_creaseAfterIron (I := I) ok e2) (fun hB => ?_)
  refine y_puti ok hB hs (fun hB => ?_)
  refine z_aload hB rfl (fun hB => ?_)
  refine z_aload hB rfl (fun hB => ?_)
  refine y_geti ok hB hs (fun hB => ?_)
  refine z_iload hB rfl (fun hB => ?_)
  obtain ⟨q3, e4, h⟩ := z_bind h
  refine z_callS hB (as := [.int (((ev_u2 I s 5 q1) s 4)), .int (x1)]) (rest := [.ref (s)]) rfl rfl rfl (t_G_wetAfterIron (I := (ev_u2 I s 5 q1)) ok e4) (fun hB => ?_)
  refine y_puti ok hB hs (fun hB => ?_)
  cases h
  exact z_retv hB
def d_G_takeBleach (s : Nat) (I : z_H) : Option (Int32 × z_H) := ((d_I_bitCount ((I s 6))).bind fun q1 => some ((q1, (ev_u2 (ev_u2 I s 6 (jn 0)) s 7 (((ev_u2 I s 6 (jn 0)) s 7) + (jn 1))))))
/-- Flag.takeBleach()I -/
theorem t_G_takeBleach {G : z_G} {w : ev_W} (ok : z_Ok G w) {s : Nat} (hs : zt 0 s = true) {I : z_H} {r : Int32 × z_H} (h : d_G_takeBleach s I = some r) : z_K G 18 [.ref (s)] (z_w w I) (.inl (some (.int r.1))) (z_w w r.2) := by
  refine z_con ok.1 (ml := 2) (by decide +kernel) rfl rfl ?_
  show z_R G 18 0 [some (.ref (s)), none] [] (z_w w I) (.inl (some (.int r.1))) (z_w w r.2)
  unfold d_G_takeBleach at h
  have hB : z_all [z_is 18 0 (zf_aload 0 0 1), z_is 18 1 (zf_geti 1 0 6 4), z_is 18 4 (zf_cs 4 372 1 7), z_is 18 7 (zf_istore 7 1 8), z_is 18 8 (zf_aload 8 0 9), z_is 18 9 (zf_cst 9 (jn 0) 10), z_is 18 10 (zf_puti 10 0 6 13), z_is 18 13 (zf_aload 13 0 14), z_is 18 14 (zf_dupr 14 15), z_is 18 15 (zf_geti 15 0 7 18), z_is 18 18 (zf_cst 18 (jn 1) 19), z_is 18 19 (zf_iadd 19 20), z_is 18 20 (zf_puti 20 0 7 23), z_is 18 23 (zf_iload 23 1 24), z_is 18 24 (zf_ret 0)] = true := by decide +kernel
  refine z_aload hB rfl (fun hB => ?_)
  refine y_geti ok hB hs (fun hB => ?_)
  obtain ⟨q1, e2, h⟩ := z_bind h
  refine z_callS hB (as := [.int ((I s 6))]) (rest := []) rfl rfl rfl (t_I_bitCount (I := I) ok e2) (fun hB => ?_)
  refine z_istore hB rfl rfl (fun hB => ?_)
  refine z_aload hB rfl (fun hB => ?_)
  refine z_cst hB (fun hB => ?_)
  refine y_puti ok hB hs (fun hB => ?_)
  refine z_aload hB rfl (fun hB => ?_)
  refine z_dupr hB (fun hB => ?_)
  refine y_geti ok hB hs (fun hB => ?_)
  refine z_cst hB (fun hB => ?_)
  refine z_iadd hB (fun hB => ?_)
  refine y_puti ok hB hs (fun hB => ?_)
  refine z_iload hB rfl (fun hB => ?_)
  cases h
  exact z_reti hB
def d_G_washesUntilClean_2 (s : Nat) (I : z_H) (p1 : Int32 × Int32) : Option ((Int32 × Int32) ⊕ (Int32 × Int32)) := (if jn 0 < p1.2 then (if p1.1 < (jn 9) then some (Sum.inl ((p1.1 + (jn 1)), (p1.2 - ((jn 1) + ((jn 2) * (I s 2)))))) else some (Sum.inr (p1.1, p1.2))) else some (Sum.inr (p1.1, p1.2)))
def d_G_washesUntilClean (s : Nat) (I : z_H) : Option (Int32) := ((z_it (d_G_washesUntilClean_2 s I) z_F ((jn 0), (I s 3))).bind fun q3 => some (q3.1))
/-- Flag.washesUntilClean()I -/
theorem t_G_washesUntilClean {G : z_G} {w : ev_W} (ok : z_Ok G w) {s : Nat} (hs : zt 0 s = true) {I : z_H} {r : Int32} (h : d_G_washesUntilClean s I = some r) : z_K G 19 [.ref (s)] (z_w w I) (.inl (some (.int r))) (z_w w I) := by
  refine z_con ok.1 (ml := 3) (by decide +kernel) rfl rfl ?_
  show z_R G 19 0 [some (.ref (s)), none, none] [] (z_w w I) (.inl (some (.int r))) (z_w w I)
  unfold d_G_washesUntilClean at h
  have hB : z_all [z_is 19 0 (zf_cst 0 (jn 0) 1), z_is 19 1 (zf_istore 1 1 2), z_is 19 2 (zf_aload 2 0 3), z_is 19 3 (zf_geti 3 0 3 6), z_is 19 6 (zf_istore 6 2 7)] = true := by decide +kernel
  refine z_cst hB (fun hB => ?_)
  refine z_istore hB rfl rfl (fun hB => ?_)
  refine z_aload hB rfl (fun hB => ?_)
  refine y_geti ok hB hs (fun hB => ?_)
  refine z_istore hB rfl rfl (fun hB => ?_)
  obtain ⟨q3, e4, h⟩ := z_bind h
  have k5 : z_R G 19 34 [none, some (.int (q3.1)), none] [] (z_w w I) (.inl (some (.int r))) (z_w w I) := by
    have hB : z_all [z_is 19 34 (zf_iload 34 1 35), z_is 19 35 (zf_ret 0)] = true := by decide +kernel
    refine z_iload hB rfl (fun hB => ?_)
    cases h
    exact z_reti hB
  have l2 : ∀ (m2 : Nat) (p1 : Int32 × Int32), z_it (d_G_washesUntilClean_2 s I) m2 p1 = some q3 → z_R G 19 7 [some (.ref (s)), some (.int (p1.1)), some (.int (p1.2))] [] (z_w w I) (.inl (some (.int r))) (z_w w I) := by
    intro m2
    induction m2 with
    | zero => intro p1 h; cases h
    | succ m2 i2 =>
      intro p1 h
      obtain ⟨u2, h, b2⟩ := z_it_o h
      unfold d_G_washesUntilClean_2 at h
      have hB : z_all [z_is 19 7 (zf_iload 7 2 8), z_is 19 8 (zf_if1 .le 8 34 11)] = true := by decide +kernel
      refine z_iload hB rfl (fun hB => ?_)
      refine z_if_le hB (fun hc _ => ?_) (fun hc _ => ?_)
      · have h := z_neg hc h
        cases h
        cases b2
        exact z_weak k5 (z_sn (z_se (z_sn z_s0)))
      · have h := z_pos hc h
        have hB : z_all [z_is 19 11 (zf_iload 11 1 12), z_is 19 12 (zf_cst 12 (jn 9) 14), z_is 19 14 (zf_if2 .ge 14 34 17)] = true := by decide +kernel
        refine z_iload hB rfl (fun hB => ?_)
        refine z_cst hB (fun hB => ?_)
        refine z_ic_ge hB (fun hc _ => ?_) (fun hc _ => ?_)
        · have h := z_neg hc h
          cases h
          cases b2
          exact z_weak k5 (z_sn (z_se (z_sn z_s0)))
        · have h := z_pos hc h
          have hB : z_all [z_is 19 17 (zf_iinc 17 1 (jn 1) 20), z_is 19 20 (zf_iload 20 2 21), z_is 19 21 (zf_cst 21 (jn 1) 22), z_is 19 22 (zf_cst 22 (jn 2) 23), z_is 19 23 (zf_aload 23 0 24), z_is 19 24 (zf_geti 24 0 2 27), z_is 19 27 (zf_imul 27 28), z_is 19 28 (zf_iadd 28 29), z_is 19 29 (zf_isub 29 30), z_is 19 30 (zf_istore 30 2 31), z_is 19 31 (zf_goto 31 7)] = true := by decide +kernel
          refine z_iinc hB rfl rfl (fun hB => ?_)
          refine z_iload hB rfl (fun hB => ?_)
          refine z_cst hB (fun hB => ?_)
          refine z_cst hB (fun hB => ?_)
          refine z_aload hB rfl (fun hB => ?_)
          refine y_geti ok hB hs (fun hB => ?_)
          refine z_imul hB (fun hB => ?_)
          refine z_iadd hB (fun hB => ?_)
          refine z_isub hB (fun hB => ?_)
          refine z_istore hB rfl rfl (fun hB => ?_)
          refine z_goto hB (fun hB => ?_)
          cases h
          exact z_weak (i2 ((p1.1 + (jn 1)), (p1.2 - ((jn 1) + ((jn 2) * (I s 2))))) b2) (z_se (z_se (z_se z_s0)))
  exact z_weak (l2 _ ((jn 0), (I s 3)) e4) (z_se (z_se (z_se z_s0)))
def d_G_ironsUntilSmooth_4 (x1 : Int32) (p3 : Int32 × Int32 × Int32) : Option ((Int32 × Int32 × Int32) ⊕ (Int32 × Int32 × Int32)) := (if jn 0 < p3.2.1 then (if p3.1 < (jn 9) then ((d_G_creaseAfterIron (p3.2.1) (p3.2.2) (x1)).bind fun q8 => ((d_G_wetAfterIron (p3.2.2) (x1)).bind fun q10 => some (Sum.inl ((p3.1 + (jn 1)), q8, q10)))) else some (Sum.inr (p3.1, p3.2.1, p3.2.2))) else some (Sum.inr (p3.1, p3.2.1, p3.2.2)))
def d_G_ironsUntilSmooth (s : Nat) (x1 : Int32) (I : z_H) : Option (Int32) := ((d_G_reasonAgainstIron s (x1) I).bind fun q1 => (if q1 = jn 0 then ((z_it (d_G_ironsUntilSmooth_4 x1) z_F ((jn 0), (I s 5), (I s 4))).bind fun q5 => some (q5.1)) else some ((jg 1))))
/-- Flag.ironsUntilSmooth(I)I -/
theorem t_G_ironsUntilSmooth {G : z_G} {w : ev_W} (ok : z_Ok G w) {s : Nat} {x1 : Int32} (hs : zt 0 s = true) {I : z_H} {r : Int32} (h : d_G_ironsUntilSmooth s x1 I = some r) : z_K G 20 [.ref (s), .int (x1)] (z_w w I) (.inl (some (.int r))) (z_w w I) := by
  refine z_con ok.1 (ml := 5) (by decide +kernel) rfl rfl ?_
  show z_R G 20 0 [some (.ref (s)), some (.int (x1)), none, none, none] [] (z_w w I) (.inl (some (.int r))) (z_w w I)
  unfold d_G_ironsUntilSmooth at h
  have hB : z_all [z_is 20 0 (zf_aload 0 0 1), z_is 20 1 (zf_iload 1 1 2), z_is 20 2 (zf_cv 2 8 1 0 5), z_is 20 5 (zf_if1 .eq 5 10 8)] = true := by decide +kernel
  refine z_aload hB rfl (fun hB => ?_)
  refine z_iload hB rfl (fun hB => ?_)
  obtain ⟨q1, e2, h⟩ := z_bind h
  refine y_cv ok hB (as := [.int (x1)]) (a := s) (rest := []) rfl rfl rfl hs (t_G_reasonAgainstIron (I := I) ok hs e2) (fun hB => ?_)
  refine z_if_eq hB (fun hc _ => ?_) (fun hc _ => ?_)
  · have h := z_pos hc h
    have hB : z_all [z_is 20 10 (zf_cst 10 (jn 0) 11), z_is 20 11 (zf_istore 11 2 12), z_is 20 12 (zf_aload 12 0 13), z_is 20 13 (zf_geti 13 0 5 16), z_is 20 16 (zf_istore 16 3 17), z_is 20 17 (zf_aload 17 0 18), z_is 20 18 (zf_geti 18 0 4 21), z_is 20 21 (zf_istore 21 4 23)] = true := by decide +kernel
    refine z_cst hB (fun hB => ?_)
    refine z_istore hB rfl rfl (fun hB => ?_)
    refine z_aload hB rfl (fun hB => ?_)
    refine y_geti ok hB hs (fun hB => ?_)
    refine z_istore hB rfl rfl (fun hB => ?_)
    refine z_aload hB rfl (fun hB => ?_)
    refine y_geti ok hB hs (fun hB => ?_)
    refine z_istore hB rfl rfl (fun hB => ?_)
    obtain ⟨q5, e6, h⟩ := z_bind h
    have k7 : z_R G 20 55 [none, none, some (.int (q5.1)), none, none] [] (z_w w I) (.inl (some (.int r))) (z_w w I) := by
      have hB : z_all [z_is 20 55 (zf_iload 55 2 56), z_is 20 56 (zf_ret 0)] = true := by decide +kernel
      refine z_iload hB rfl (fun hB => ?_)
      cases h
      exact z_reti hB
    have l4 : ∀ (m4 : Nat) (p3 : Int32 × Int32 × Int32), z_it (d_G_ironsUntilSmooth_4 x1) m4 p3 = some q5 → z_R G 20 23 [none, some (.int (x1)), some (.int (p3.1)), some (.int (p3.2.1)), some (.int (p3.2.2))] [] (z_w w I) (.inl (some (.int r))) (z_w w I) := by
      intro m4
      induction m4 with
      | zero => intro p3 h; cases h
      | succ m4 i4 =>
        intro p3 h
        obtain ⟨u4, h, b4⟩ := z_it_o h
        unfold d_G_ironsUntilSmooth_4 at h
        have hB : z_all [z_is 20 23 (zf_iload 23 3 24), z_is 20 24 (zf_if1 .le 24 55 27)] = true := by decide +kernel
        refine z_iload hB rfl (fun hB => ?_)
        refine z_if_le hB (fun hc _ => ?_) (fun hc _ => ?_)
        · have h := z_neg hc h
          cases h
          cases b4
          exact z_weak k7 (z_sn (z_sn (z_se (z_sn (z_sn z_s0)))))
        · have h := z_pos hc h
          have hB : z_all [z_is 20 27 (zf_iload 27 2 28), z_is 20 28 (zf_cst 28 (jn 9) 30), z_is 20 30 (zf_if2 .ge 30 55 33)] = true := by decide +kernel
          refine z_iload hB rfl (fun hB => ?_)
          refine z_cst hB (fun hB => ?_)
          refine z_ic_ge hB (fun hc _ => ?_) (fun hc _ => ?_)
          · have h := z_neg hc h
            cases h
            cases b4
            exact z_weak k7 (z_sn (z_sn (z_se (z_sn (z_sn z_s0)))))
          · have h := z_pos hc h
            have hB : z_all [z_is 20 33 (zf_iload 33 3 34), z_is 20 34 (zf_iload 34 4 36), z_is 20 36 (zf_iload 36 1 37), z_is 20 37 (zf_cs 37 15 3 40), z_is 20 40 (zf_istore 40 3 41), z_is 20 41 (zf_iload 41 4 43), z_is 20 43 (zf_iload 43 1 44), z_is 20 44 (zf_cs 44 16 2 47), z_is 20 47 (zf_istore 47 4 49), z_is 20 49 (zf_iinc 49 2 (jn 1) 52), z_is 20 52 (zf_goto 52 23)] = true := by decide +kernel
            refine z_iload hB rfl (fun hB => ?_)
            refine z_iload hB rfl (fun hB => ?_)
            refine z_iload hB rfl (fun hB => ?_)
            obtain ⟨q8, e9, h⟩ := z_bind h
            refine z_callS hB (as := [.int (p3.2.1), .int (p3.2.2), .int (x1)]) (rest := []) rfl rfl rfl (t_G_creaseAfterIron (I := I) ok e9) (fun hB => ?_)
            refine z_istore hB rfl rfl (fun hB => ?_)
            refine z_iload hB rfl (fun hB => ?_)
            refine z_iload hB rfl (fun hB => ?_)
            obtain ⟨q10, e11, h⟩ := z_bind h
            refine z_callS hB (as := [.int (p3.2.2), .int (x1)]) (rest := []) rfl rfl rfl (t_G_wetAfterIron (I := I) ok e11) (fun hB => ?_)
            refine z_istore hB rfl rfl (fun hB => ?_)
            refine z_iinc hB rfl rfl (fun hB => ?_)
            refine z_goto hB (fun hB => ?_)
            cases h
            exact z_weak (i4 ((p3.1 + (jn 1)), q8, q10) b4) (z_sn (z_se (z_se (z_se (z_se z_s0)))))
    exact z_weak (l4 _ ((jn 0), (I s 5), (I s 4)) e6) (z_sn (z_se (z_se (z_se (z_se z_s0)))))
  · have h := z_neg hc h
    have hB : z_all [z_is 20 8 (zf_cst 8 (jg 1) 9), z_is 20 9 (zf_ret 0)] = true := by decide +kernel
    refine z_cst hB (fun hB => ?_)
    cases h
    exact z_reti hB
