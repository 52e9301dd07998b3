/-! the law's helpers: what the class's call comes to, as a number: by wip/gen/zl.py -/
theorem lh_load_v {G : z_G} {x1 : Int32} {w w2 : ev_W} (ok : z_Ok G w) (ok2 : z_Ok G w2) {v : Int32} (hc : z_K G 132 [.ref 0, .int (x1)] w (.inl (some (.int v))) w2) : z_K G 373 [.ref 0, .int x1, .ref 250] w (.inl (some (.int (Int32.ofNat 0)))) (w_sJ w2 250 0 v.toInt64) := by
  refine z_con ok.1 (ml := 4) (by decide +kernel) rfl rfl ?_
  show z_R G 373 0 [some (.ref (0)), some (.int (x1)), some (.ref (250)), none] [] w (.inl (some (.int (Int32.ofNat 0)))) (w_sJ w2 250 0 v.toInt64)
  have hB : z_all [z_is 373 0 (zf_aload 0 2 1), z_is 373 1 (zf_cst 1 (Int32.ofNat 0) 2), z_is 373 2 (zf_aload 2 0 3), z_is 373 3 (zf_iload 3 1 4), z_is 373 4 (zf_cv 4 132 1 7 7), z_is 373 7 (zf_i2l 7 8), z_is 373 8 (zf_last 8 9), z_is 373 9 (zf_goto 9 18), z_is 373 18 (zf_cst 18 (Int32.ofNat 0) 19), z_is 373 19 (zf_ret 0)] = true := by decide +kernel
  refine z_aload hB rfl (fun hB => ?_)
  refine z_cst hB (fun hB => ?_)
  refine z_aload hB rfl (fun hB => ?_)
  refine z_iload hB rfl (fun hB => ?_)
  refine z_callV hB (as := [.int (x1)]) (a := 0) (rest := [.int (Int32.ofNat 0), .ref (250)]) rfl rfl rfl (zt_n ok (c := 7) (a := 0) (by decide +kernel)).1 (zt_n ok (c := 7) (a := 0) (by decide +kernel)).2.2.1 hc (fun hB => ?_)
  refine z_i2l hB (fun hB => ?_)
  refine z_last hB (zt_n ok2 (c := 14) (a := 250) (by decide +kernel)).1 (zt_n ok2 (c := 14) (a := 250) (by decide +kernel)).2.2.1 (by rw [(zt_n ok2 (c := 14) (a := 250) (by decide +kernel)).2.2.2]; decide +kernel) (fun hB => ?_)
  refine z_goto hB (fun hB => ?_)
  refine z_cst hB (fun hB => ?_)
  exact z_reti hB
theorem lh_load_1 {G : z_G} {x1 : Int32} {w w2 : ev_W} (ok : z_Ok G w) (hc : z_K G 132 [.ref 0, .int (x1)] w (.inr 1) w2) : z_K G 373 [.ref 0, .int x1, .ref 250] w (.inl (some (.int (Int32.ofNat 1)))) w2 := by
  refine z_con ok.1 (ml := 4) (by decide +kernel) rfl rfl ?_
  show z_R G 373 0 [some (.ref (0)), some (.int (x1)), some (.ref (250)), none] [] w (.inl (some (.int (Int32.ofNat 1)))) w2
  have hB : z_all [z_is 373 0 (zf_aload 0 2 1), z_is 373 1 (zf_cst 1 (Int32.ofNat 0) 2), z_is 373 2 (zf_aload 2 0 3), z_is 373 3 (zf_iload 3 1 4), z_is 373 4 (zf_cv 4 132 1 7 7)] = true := by decide +kernel
  refine z_aload hB rfl (fun hB => ?_)
  refine z_cst hB (fun hB => ?_)
  refine z_aload hB rfl (fun hB => ?_)
  refine z_iload hB rfl (fun hB => ?_)
  exact z_callVh hB (as := [.int (x1)]) (a := 0) (rest := [.int (Int32.ofNat 0), .ref (250)]) rfl (b := 3) (by decide +kernel) rfl rfl rfl rfl (zt_n ok (c := 7) (a := 0) (by decide +kernel)).1 (zt_n ok (c := 7) (a := 0) (by decide +kernel)).2.2.1 hc
theorem lh_load_2 {G : z_G} {x1 : Int32} {w w2 : ev_W} (ok : z_Ok G w) (hc : z_K G 132 [.ref 0, .int (x1)] w (.inr 2) w2) : z_K G 373 [.ref 0, .int x1, .ref 250] w (.inl (some (.int (Int32.ofNat 2)))) w2 := by
  refine z_con ok.1 (ml := 4) (by decide +kernel) rfl rfl ?_
  show z_R G 373 0 [some (.ref (0)), some (.int (x1)), some (.ref (250)), none] [] w (.inl (some (.int (Int32.ofNat 2)))) w2
  have hB : z_all [z_is 373 0 (zf_aload 0 2 1), z_is 373 1 (zf_cst 1 (Int32.ofNat 0) 2), z_is 373 2 (zf_aload 2 0 3), z_is 373 3 (zf_iload 3 1 4), z_is 373 4 (zf_cv 4 132 1 7 7)] = true := by decide +kernel
  refine z_aload hB rfl (fun hB => ?_)
  refine z_cst hB (fun hB => ?_)
  refine z_aload hB rfl (fun hB => ?_)
  refine z_iload hB rfl (fun hB => ?_)
  exact z_callVh hB (as := [.int (x1)]) (a := 0) (rest := [.int (Int32.ofNat 0), .ref (250)]) rfl (b := 3) (by decide +kernel) rfl rfl rfl rfl (zt_n ok (c := 7) (a := 0) (by decide +kernel)).1 (zt_n ok (c := 7) (a := 0) (by decide +kernel)).2.2.1 hc
theorem lh_count_v {G : z_G} {x1 : Int32} {w w2 : ev_W} (ok : z_Ok G w) (ok2 : z_Ok G w2) {v : Int32} (hc : z_K G 136 [.ref 0, .int (x1)] w (.inl (some (.int v))) w2) : z_K G 374 [.ref 0, .int x1, .ref 250] w (.inl (some (.int (Int32.ofNat 0)))) (w_sJ w2 250 0 v.toInt64) := by
  refine z_con ok.1 (ml := 4) (by decide +kernel) rfl rfl ?_
  show z_R G 374 0 [some (.ref (0)), some (.int (x1)), some (.ref (250)), none] [] w (.inl (some (.int (Int32.ofNat 0)))) (w_sJ w2 250 0 v.toInt64)
  have hB : z_all [z_is 374 0 (zf_aload 0 2 1), z_is 374 1 (zf_cst 1 (Int32.ofNat 0) 2), z_is 374 2 (zf_aload 2 0 3), z_is 374 3 (zf_iload 3 1 4), z_is 374 4 (zf_cv 4 136 1 7 7), z_is 374 7 (zf_i2l 7 8), z_is 374 8 (zf_last 8 9), z_is 374 9 (zf_goto 9 18), z_is 374 18 (zf_cst 18 (Int32.ofNat 0) 19), z_is 374 19 (zf_ret 0)] = true := by decide +kernel
  refine z_aload hB rfl (fun hB => ?_)
  refine z_cst hB (fun hB => ?_)
  refine z_aload hB rfl (fun hB => ?_)
  refine z_iload hB rfl (fun hB => ?_)
  refine z_callV hB (as := [.int (x1)]) (a := 0) (rest := [.int (Int32.ofNat 0), .ref (250)]) rfl rfl rfl (zt_n ok (c := 7) (a := 0) (by decide +kernel)).1 (zt_n ok (c := 7) (a := 0) (by decide +kernel)).2.2.1 hc (fun hB => ?_)
  refine z_i2l hB (fun hB => ?_)
  refine z_last hB (zt_n ok2 (c := 14) (a := 250) (by decide +kernel)).1 (zt_n ok2 (c := 14) (a := 250) (by decide +kernel)).2.2.1 (by rw [(zt_n ok2 (c := 14) (a := 250) (by decide +kernel)).2.2.2]; decide +kernel) (fun hB => ?_)
  refine z_goto hB (fun hB => ?_)
  refine z_cst hB (fun hB => ?_)
  exact z_reti hB
theorem lh_count_0 {G : z_G} {x1 : Int32} {w w2 : ev_W} (ok : z_Ok G w) (hc : z_K G 136 [.ref 0, .int (x1)] w (.inr 0) w2) : z_K G 374 [.ref 0, .int x1, .ref 250] w (.inl (some (.int (Int32.ofNat 1)))) w2 := by
  refine z_con ok.1 (ml := 4) (by decide +kernel) rfl rfl ?_
  show z_R G 374 0 [some (.ref (0)), some (.int (x1)), some (.ref (250)), none] [] w (.inl (some (.int (Int32.ofNat 1)))) w2
  have hB : z_all [z_is 374 0 (zf_aload 0 2 1), z_is 374 1 (zf_cst 1 (Int32.ofNat 0) 2), z_is 374 2 (zf_aload 2 0 3), z_is 374 3 (zf_iload 3 1 4), z_is 374 4 (zf_cv 4 136 1 7 7)] = true := by decide +kernel
  refine z_aload hB rfl (fun hB => ?_)
  refine z_cst hB (fun hB => ?_)
  refine z_aload hB rfl (fun hB => ?_)
  refine z_iload hB rfl (fun hB => ?_)
  exact z_callVh hB (as := [.int (x1)]) (a := 0) (rest := [.int (Int32.ofNat 0), .ref (250)]) rfl (b := 3) (by decide +kernel) rfl rfl rfl rfl (zt_n ok (c := 7) (a := 0) (by decide +kernel)).1 (zt_n ok (c := 7) (a := 0) (by decide +kernel)).2.2.1 hc
theorem lh_count_2 {G : z_G} {x1 : Int32} {w w2 : ev_W} (ok : z_Ok G w) (hc : z_K G 136 [.ref 0, .int (x1)] w (.inr 2) w2) : z_K G 374 [.ref 0, .int x1, .ref 250] w (.inl (some (.int (Int32.ofNat 2)))) w2 := by
  refine z_con ok.1 (ml := 4) (by decide +kernel) rfl rfl ?_
  show z_R G 374 0 [some (.ref (0)), some (.int (x1)), some (.ref (250)), none] [] w (.inl (some (.int (Int32.ofNat 2)))) w2
  have hB : z_all [z_is 374 0 (zf_aload 0 2 1), z_is 374 1 (zf_cst 1 (Int32.ofNat 0) 2), z_is 374 2 (zf_aload 2 0 3), z_is 374 3 (zf_iload 3 1 4), z_is 374 4 (zf_cv 4 136 1 7 7)] = true := by decide +kernel
  refine z_aload hB rfl (fun hB => ?_)
  refine z_cst hB (fun hB => ?_)
  refine z_aload hB rfl (fun hB => ?_)
  refine z_iload hB rfl (fun hB => ?_)
  exact z_callVh hB (as := [.int (x1)]) (a := 0) (rest := [.int (Int32.ofNat 0), .ref (250)]) rfl (b := 3) (by decide +kernel) rfl rfl rfl rfl (zt_n ok (c := 7) (a := 0) (by decide +kernel)).1 (zt_n ok (c := 7) (a := 0) (by decide +kernel)).2.2.1 hc
theorem lh_colour_v {G : z_G} {x1 : Int32} {x2 : Int32} {w w2 : ev_W} (ok : z_Ok G w) (ok2 : z_Ok G w2) {v : Int32} (hc : z_K G 137 [.ref 0, .int (x1), .int (x2)] w (.inl (some (.int v))) w2) : z_K G 375 [.ref 0, .int x1, .int x2, .ref 250] w (.inl (some (.int (Int32.ofNat 0)))) (w_sJ w2 250 0 v.toInt64) := by
  refine z_con ok.1 (ml := 5) (by decide +kernel) rfl rfl ?_
  show z_R G 375 0 [some (.ref (0)), some (.int (x1)), some (.int (x2)), some (.ref (250)), none] [] w (.inl (some (.int (Int32.ofNat 0)))) (w_sJ w2 250 0 v.toInt64)
  have hB : z_all [z_is 375 0 (zf_aload 0 3 1), z_is 375 1 (zf_cst 1 (Int32.ofNat 0) 2), z_is 375 2 (zf_aload 2 0 3), z_is 375 3 (zf_iload 3 1 4), z_is 375 4 (zf_iload 4 2 5), z_is 375 5 (zf_cv 5 137 2 7 8), z_is 375 8 (zf_i2l 8 9), z_is 375 9 (zf_last 9 10), z_is 375 10 (zf_goto 10 25), z_is 375 25 (zf_cst 25 (Int32.ofNat 0) 26), z_is 375 26 (zf_ret 0)] = true := by decide +kernel
  refine z_aload hB rfl (fun hB => ?_)
  refine z_cst hB (fun hB => ?_)
  refine z_aload hB rfl (fun hB => ?_)
  refine z_iload hB rfl (fun hB => ?_)
  refine z_iload hB rfl (fun hB => ?_)
  refine z_callV hB (as := [.int (x1), .int (x2)]) (a := 0) (rest := [.int (Int32.ofNat 0), .ref (250)]) rfl rfl rfl (zt_n ok (c := 7) (a := 0) (by decide +kernel)).1 (zt_n ok (c := 7) (a := 0) (by decide +kernel)).2.2.1 hc (fun hB => ?_)
  refine z_i2l hB (fun hB => ?_)
  refine z_last hB (zt_n ok2 (c := 14) (a := 250) (by decide +kernel)).1 (zt_n ok2 (c := 14) (a := 250) (by decide +kernel)).2.2.1 (by rw [(zt_n ok2 (c := 14) (a := 250) (by decide +kernel)).2.2.2]; decide +kernel) (fun hB => ?_)
  refine z_goto hB (fun hB => ?_)
  refine z_cst hB (fun hB => ?_)
  exact z_reti hB
theorem lh_colour_0 {G : z_G} {x1 : Int32} {x2 : Int32} {w w2 : ev_W} (ok : z_Ok G w) (hc : z_K G 137 [.ref 0, .int (x1), .int (x2)] w (.inr 0) w2) : z_K G 375 [.ref 0, .int x1, .int x2, .ref 250] w (.inl (some (.int (Int32.ofNat 1)))) w2 := by
  refine z_con ok.1 (ml := 5) (by decide +kernel) rfl rfl ?_
  show z_R G 375 0 [some (.ref (0)), some (.int (x1)), some (.int (x2)), some (.ref (250)), none] [] w (.inl (some (.int (Int32.ofNat 1)))) w2
  have hB : z_all [z_is 375 0 (zf_aload 0 3 1), z_is 375 1 (zf_cst 1 (Int32.ofNat 0) 2), z_is 375 2 (zf_aload 2 0 3), z_is 375 3 (zf_iload 3 1 4), z_is 375 4 (zf_iload 4 2 5), z_is 375 5 (zf_cv 5 137 2 7 8)] = true := by decide +kernel
  refine z_aload hB rfl (fun hB => ?_)
  refine z_cst hB (fun hB => ?_)
  refine z_aload hB rfl (fun hB => ?_)
  refine z_iload hB rfl (fun hB => ?_)
  refine z_iload hB rfl (fun hB => ?_)
  exact z_callVh hB (as := [.int (x1), .int (x2)]) (a := 0) (rest := [.int (Int32.ofNat 0), .ref (250)]) rfl (b := 4) (by decide +kernel) rfl rfl rfl rfl (zt_n ok (c := 7) (a := 0) (by decide +kernel)).1 (zt_n ok (c := 7) (a := 0) (by decide +kernel)).2.2.1 hc
theorem lh_colour_1 {G : z_G} {x1 : Int32} {x2 : Int32} {w w2 : ev_W} (ok : z_Ok G w) (hc : z_K G 137 [.ref 0, .int (x1), .int (x2)] w (.inr 1) w2) : z_K G 375 [.ref 0, .int x1, .int x2, .ref 250] w (.inl (some (.int (Int32.ofNat 2)))) w2 := by
  refine z_con ok.1 (ml := 5) (by decide +kernel) rfl rfl ?_
  show z_R G 375 0 [some (.ref (0)), some (.int (x1)), some (.int (x2)), some (.ref (250)), none] [] w (.inl (some (.int (Int32.ofNat 2)))) w2
  have hB : z_all [z_is 375 0 (zf_aload 0 3 1), z_is 375 1 (zf_cst 1 (Int32.ofNat 0) 2), z_is 375 2 (zf_aload 2 0 3), z_is 375 3 (zf_iload 3 1 4), z_is 375 4 (zf_iload 4 2 5), z_is 375 5 (zf_cv 5 137 2 7 8)] = true := by decide +kernel
  refine z_aload hB rfl (fun hB => ?_)
  refine z_cst hB (fun hB => ?_)
  refine z_aload hB rfl (fun hB => ?_)
  refine z_iload hB rfl (fun hB => ?_)
  refine z_iload hB rfl (fun hB => ?_)
  exact z_callVh hB (as := [.int (x1), .int (x2)]) (a := 0) (rest := [.int (Int32.ofNat 0), .ref (250)]) rfl (b := 4) (by decide +kernel) rfl rfl rfl rfl (zt_n ok (c := 7) (a := 0) (by decide +kernel)).1 (zt_n ok (c := 7) (a := 0) (by decide +kernel)).2.2.1 hc
theorem lh_colour_2 {G : z_G} {x1 : Int32} {x2 : Int32} {w w2 : ev_W} (ok : z_Ok G w) (hc : z_K G 137 [.ref 0, .int (x1), .int (x2)] w (.inr 2) w2) : z_K G 375 [.ref 0, .int x1, .int x2, .ref 250] w (.inl (some (.int (Int32.ofNat 3)))) w2 := by
  refine z_con ok.1 (ml := 5) (by decide +kernel) rfl rfl ?_
  show z_R G 375 0 [some (.ref (0)), some (.int (x1)), some (.int (x2)), some (.ref (250)), none] [] w (.inl (some (.int (Int32.ofNat 3)))) w2
  have hB : z_all [z_is 375 0 (zf_aload 0 3 1), z_is 375 1 (zf_cst 1 (Int32.ofNat 0) 2), z_is 375 2 (zf_aload 2 0 3), z_is 375 3 (zf_iload 3 1 4), z_is 375 4 (zf_iload 4 2 5), z_is 375 5 (zf_cv 5 137 2 7 8)] = true := by decide +kernel
  refine z_aload hB rfl (fun hB => ?_)
  refine z_cst hB (fun hB => ?_)
  refine z_aload hB rfl (fun hB => ?_)
  refine z_iload hB rfl (fun hB => ?_)
  refine z_iload hB rfl (fun hB => ?_)
  exact z_callVh hB (as := [.int (x1), .int (x2)]) (a := 0) (rest := [.int (Int32.ofNat 0), .ref (250)]) rfl (b := 4) (by decide +kernel) rfl rfl rfl rfl (zt_n ok (c := 7) (a := 0) (by decide +kernel)).1 (zt_n ok (c := 7) (a := 0) (by decide +kernel)).2.2.1 hc
theorem lh_nation_v {G : z_G} {x1 : Int32} {x2 : Int32} {w w2 : ev_W} (ok : z_Ok G w) (ok2 : z_Ok G w2) {v : Int32} (hc : z_K G 138 [.ref 0, .int (x1), .int (x2)] w (.inl (some (.int v))) w2) : z_K G 376 [.ref 0, .int x1, .int x2, .ref 250] w (.inl (some (.int (Int32.ofNat 0)))) (w_sJ w2 250 0 v.toInt64) := by
  refine z_con ok.1 (ml := 5) (by decide +kernel) rfl rfl ?_
  show z_R G 376 0 [some (.ref (0)), some (.int (x1)), some (.int (x2)), some (.ref (250)), none] [] w (.inl (some (.int (Int32.ofNat 0)))) (w_sJ w2 250 0 v.toInt64)
  have hB : z_all [z_is 376 0 (zf_aload 0 3 1), z_is 376 1 (zf_cst 1 (Int32.ofNat 0) 2), z_is 376 2 (zf_aload 2 0 3), z_is 376 3 (zf_iload 3 1 4), z_is 376 4 (zf_iload 4 2 5), z_is 376 5 (zf_cv 5 138 2 7 8), z_is 376 8 (zf_i2l 8 9), z_is 376 9 (zf_last 9 10), z_is 376 10 (zf_goto 10 25), z_is 376 25 (zf_cst 25 (Int32.ofNat 0) 26), z_is 376 26 (zf_ret 0)] = true := by decide +kernel
  refine z_aload hB rfl (fun hB => ?_)
  refine z_cst hB (fun hB => ?_)
  refine z_aload hB rfl (fun hB => ?_)
  refine z_iload hB rfl (fun hB => ?_)
  refine z_iload hB rfl (fun hB => ?_)
  refine z_callV hB (as := [.int (x1), .int (x2)]) (a := 0) (rest := [.int (Int32.ofNat 0), .ref (250)]) rfl rfl rfl (zt_n ok (c := 7) (a := 0) (by decide +kernel)).1 (zt_n ok (c := 7) (a := 0) (by decide +kernel)).2.2.1 hc (fun hB => ?_)
  refine z_i2l hB (fun hB => ?_)
  refine z_last hB (zt_n ok2 (c := 14) (a := 250) (by decide +kernel)).1 (zt_n ok2 (c := 14) (a := 250) (by decide +kernel)).2.2.1 (by rw [(zt_n ok2 (c := 14) (a := 250) (by decide +kernel)).2.2.2]; decide +kernel) (fun hB => ?_)
  refine z_goto hB (fun hB => ?_)
  refine z_cst hB (fun hB => ?_)
  exact z_reti hB
theorem lh_nation_0 {G : z_G} {x1 : Int32} {x2 : Int32} {w w2 : ev_W} (ok : z_Ok G w) (hc : z_K G 138 [.ref 0, .int (x1), .int (x2)] w (.inr 0) w2) : z_K G 376 [.ref 0, .int x1, .int x2, .ref 250] w (.inl (some (.int (Int32.ofNat 1)))) w2 := by
  refine z_con ok.1 (ml := 5) (by decide +kernel) rfl rfl ?_
  show z_R G 376 0 [some (.ref (0)), some (.int (x1)), some (.int (x2)), some (.ref (250)), none] [] w (.inl (some (.int (Int32.ofNat 1)))) w2
  have hB : z_all [z_is 376 0 (zf_aload 0 3 1), z_is 376 1 (zf_cst 1 (Int32.ofNat 0) 2), z_is 376 2 (zf_aload 2 0 3), z_is 376 3 (zf_iload 3 1 4), z_is 376 4 (zf_iload 4 2 5), z_is 376 5 (zf_cv 5 138 2 7 8)] = true := by decide +kernel
  refine z_aload hB rfl (fun hB => ?_)
  refine z_cst hB (fun hB => ?_)
  refine z_aload hB rfl (fun hB => ?_)
  refine z_iload hB rfl (fun hB => ?_)
  refine z_iload hB rfl (fun hB => ?_)
  exact z_callVh hB (as := [.int (x1), .int (x2)]) (a := 0) (rest := [.int (Int32.ofNat 0), .ref (250)]) rfl (b := 4) (by decide +kernel) rfl rfl rfl rfl (zt_n ok (c := 7) (a := 0) (by decide +kernel)).1 (zt_n ok (c := 7) (a := 0) (by decide +kernel)).2.2.1 hc
theorem lh_nation_1 {G : z_G} {x1 : Int32} {x2 : Int32} {w w2 : ev_W} (ok : z_Ok G w) (hc : z_K G 138 [.ref 0, .int (x1), .int (x2)] w (.inr 1) w2) : z_K G 376 [.ref 0, .int x1, .int x2, .ref 250] w (.inl (some (.int (Int32.ofNat 2)))) w2 := by
  refine z_con ok.1 (ml := 5) (by decide +kernel) rfl rfl ?_
  show z_R G 376 0 [some (.ref (0)), some (.int (x1)), some (.int (x2)), some (.ref (250)), none] [] w (.inl (some (.int (Int32.ofNat 2)))) w2
  have hB : z_all [z_is 376 0 (zf_aload 0 3 1), z_is 376 1 (zf_cst 1 (Int32.ofNat 0) 2), z_is 376 2 (zf_aload 2 0 3), z_is 376 3 (zf_iload 3 1 4), z_is 376 4 (zf_iload 4 2 5), z_is 376 5 (zf_cv 5 138 2 7 8)] = true := by decide +kernel
  refine z_aload hB rfl (fun hB => ?_)
  refine z_cst hB (fun hB => ?_)
  refine z_aload hB rfl (fun hB => ?_)
  refine z_iload hB rfl (fun hB => ?_)
  refine z_iload hB rfl (fun hB => ?_)
  exact z_callVh hB (as := [.int (x1), .int (x2)]) (a := 0) (rest := [.int (Int32.ofNat 0), .ref (250)]) rfl (b := 4) (by decide +kernel) rfl rfl rfl rfl (zt_n ok (c := 7) (a := 0) (by decide +kernel)).1 (zt_n ok (c := 7) (a := 0) (by decide +kernel)).2.2.1 hc
theorem lh_nation_2 {G : z_G} {x1 : Int32} {x2 : Int32} {w w2 : ev_W} (ok : z_Ok G w) (hc : z_K G 138 [.ref 0, .int (x1), .int (x2)] w (.inr 2) w2) : z_K G 376 [.ref 0, .int x1, .int x2, .ref 250] w (.inl (some (.int (Int32.ofNat 3)))) w2 := by
  refine z_con ok.1 (ml := 5) (by decide +kernel) rfl rfl ?_
  show z_R G 376 0 [some (.ref (0)), some (.int (x1)), some (.int (x2)), some (.ref (250)), none] [] w (.inl (some (.int (Int32.ofNat 3)))) w2
  have hB : z_all [z_is 376 0 (zf_aload 0 3 1), z_is 376 1 (zf_cst 1 (Int32.ofNat 0) 2), z_is 376 2 (zf_aload 2 0 3), z_is 376 3 (zf_iload 3 1 4), z_is 376 4 (zf_iload 4 2 5), z_is 376 5 (zf_cv 5 138 2 7 8)] = true := by decide +kernel
  refine z_aload hB rfl (fun hB => ?_)
  refine z_cst hB (fun hB => ?_)
  refine z_aload hB rfl (fun hB => ?_)
  refine z_iload hB rfl (fun hB => ?_)
  refine z_iload hB rfl (fun hB => ?_)
  exact z_callVh hB (as := [.int (x1), .int (x2)]) (a := 0) (rest := [.int (Int32.ofNat 0), .ref (250)]) rfl (b := 4) (by decide +kernel) rfl rfl rfl rfl (zt_n ok (c := 7) (a := 0) (by decide +kernel)).1 (zt_n ok (c := 7) (a := 0) (by decide +kernel)).2.2.1 hc
theorem lh_flag_v {G : z_G} {x1 : Int32} {x2 : Int32} {w w2 : ev_W} (ok : z_Ok G w) (ok2 : z_Ok G w2) {v : Int32} (hc : z_K G 139 [.ref 0, .int (x1), .int (x2)] w (.inl (some (.int v))) w2) : z_K G 377 [.ref 0, .int x1, .int x2, .ref 250] w (.inl (some (.int (Int32.ofNat 0)))) (w_sJ w2 250 0 v.toInt64) := by
  refine z_con ok.1 (ml := 5) (by decide +kernel) rfl rfl ?_
  show z_R G 377 0 [some (.ref (0)), some (.int (x1)), some (.int (x2)), some (.ref (250)), none] [] w (.inl (some (.int (Int32.ofNat 0)))) (w_sJ w2 250 0 v.toInt64)
  have hB : z_all [z_is 377 0 (zf_aload 0 3 1), z_is 377 1 (zf_cst 1 (Int32.ofNat 0) 2), z_is 377 2 (zf_aload 2 0 3), z_is 377 3 (zf_iload 3 1 4), z_is 377 4 (zf_iload 4 2 5), z_is 377 5 (zf_cv 5 139 2 7 8), z_is 377 8 (zf_i2l 8 9), z_is 377 9 (zf_last 9 10), z_is 377 10 (zf_goto 10 25), z_is 377 25 (zf_cst 25 (Int32.ofNat 0) 26), z_is 377 26 (zf_ret 0)] = true := by decide +kernel
  refine z_aload hB rfl (fun hB => ?_)
  refine z_cst hB (fun hB => ?_)
  refine z_aload hB rfl (fun hB => ?_)
  refine z_iload hB rfl (fun hB => ?_)
  refine z_iload hB rfl (fun hB => ?_)
  refine z_callV hB (as := [.int (x1), .int (x2)]) (a := 0) (rest := [.int (Int32.ofNat 0), .ref (250)]) rfl rfl rfl (zt_n ok (c := 7) (a := 0) (by decide +kernel)).1 (zt_n ok (c := 7) (a := 0) (by decide +kernel)).2.2.1 hc (fun hB => ?_)
  refine z_i2l hB (fun hB => ?_)
  refine z_last hB (zt_n ok2 (c := 14) (a := 250) (by decide +kernel)).1 (zt_n ok2 (c := 14) (a := 250) (by decide +kernel)).2.2.1 (by rw [(zt_n ok2 (c := 14) (a := 250) (by decide +kernel)).2.2.2]; decide +kernel) (fun hB => ?_)
  refine z_goto hB (fun hB => ?_)
  refine z_cst hB (fun hB => ?_)
  exact z_reti hB
theorem lh_flag_0 {G : z_G} {x1 : Int32} {x2 : Int32} {w w2 : ev_W} (ok : z_Ok G w) (hc : z_K G 139 [.ref 0, .int (x1), .int (x2)] w (.inr 0) w2) : z_K G 377 [.ref 0, .int x1, .int x2, .ref 250] w (.inl (some (.int (Int32.ofNat 1)))) w2 := by
  refine z_con ok.1 (ml := 5) (by decide +kernel) rfl rfl ?_
  show z_R G 377 0 [some (.ref (0)), some (.int (x1)), some (.int (x2)), some (.ref (250)), none] [] w (.inl (some (.int (Int32.ofNat 1)))) w2
  have hB : z_all [z_is 377 0 (zf_aload 0 3 1), z_is 377 1 (zf_cst 1 (Int32.ofNat 0) 2), z_is 377 2 (zf_aload 2 0 3), z_is 377 3 (zf_iload 3 1 4), z_is 377 4 (zf_iload 4 2 5), z_is 377 5 (zf_cv 5 139 2 7 8)] = true := by decide +kernel
  refine z_aload hB rfl (fun hB => ?_)
  refine z_cst hB (fun hB => ?_)
  refine z_aload hB rfl (fun hB => ?_)
  refine z_iload hB rfl (fun hB => ?_)
  refine z_iload hB rfl (fun hB => ?_)
  exact z_callVh hB (as := [.int (x1), .int (x2)]) (a := 0) (rest := [.int (Int32.ofNat 0), .ref (250)]) rfl (b := 4) (by decide +kernel) rfl rfl rfl rfl (zt_n ok (c := 7) (a := 0) (by decide +kernel)).1 (zt_n ok (c := 7) (a := 0) (by decide +kernel)).2.2.1 hc
theorem lh_flag_1 {G : z_G} {x1 : Int32} {x2 : Int32} {w w2 : ev_W} (ok : z_Ok G w) (hc : z_K G 139 [.ref 0, .int (x1), .int (x2)] w (.inr 1) w2) : z_K G 377 [.ref 0, .int x1, .int x2, .ref 250] w (.inl (some (.int (Int32.ofNat 2)))) w2 := by
  refine z_con ok.1 (ml := 5) (by decide +kernel) rfl rfl ?_
  show z_R G 377 0 [some (.ref (0)), some (.int (x1)), some (.int (x2)), some (.ref (250)), none] [] w (.inl (some (.int (Int32.ofNat 2)))) w2
  have hB : z_all [z_is 377 0 (zf_aload 0 3 1), z_is 377 1 (zf_cst 1 (Int32.ofNat 0) 2), z_is 377 2 (zf_aload 2 0 3), z_is 377 3 (zf_iload 3 1 4), z_is 377 4 (zf_iload 4 2 5), z_is 377 5 (zf_cv 5 139 2 7 8)] = true := by decide +kernel
  refine z_aload hB rfl (fun hB => ?_)
  refine z_cst hB (fun hB => ?_)
  refine z_aload hB rfl (fun hB => ?_)
  refine z_iload hB rfl (fun hB => ?_)
  refine z_iload hB rfl (fun hB => ?_)
  exact z_callVh hB (as := [.int (x1), .int (x2)]) (a := 0) (rest := [.int (Int32.ofNat 0), .ref (250)]) rfl (b := 4) (by decide +kernel) rfl rfl rfl rfl (zt_n ok (c := 7) (a := 0) (by decide +kernel)).1 (zt_n ok (c := 7) (a := 0) (by decide +kernel)).2.2.1 hc
theorem lh_flag_2 {G : z_G} {x1 : Int32} {x2 : Int32} {w w2 : ev_W} (ok : z_Ok G w) (hc : z_K G 139 [.ref 0, .int (x1), .int (x2)] w (.inr 2) w2) : z_K G 377 [.ref 0, .int x1, .int x2, .ref 250] w (.inl (some (.int (Int32.ofNat 3)))) w2 := by
  refine z_con ok.1 (ml := 5) (by decide +kernel) rfl rfl ?_
  show z_R G 377 0 [some (.ref (0)), some (.int (x1)), some (.int (x2)), some (.ref (250)), none] [] w (.inl (some (.int (Int32.ofNat 3)))) w2
  have hB : z_all [z_is 377 0 (zf_aload 0 3 1), z_is 377 1 (zf_cst 1 (Int32.ofNat 0) 2), z_is 377 2 (zf_aload 2 0 3), z_is 377 3 (zf_iload 3 1 4), z_is 377 4 (zf_iload 4 2 5), z_is 377 5 (zf_cv 5 139 2 7 8)] = true := by decide +kernel
  refine z_aload hB rfl (fun hB => ?_)
  refine z_cst hB (fun hB => ?_)
  refine z_aload hB rfl (fun hB => ?_)
  refine z_iload hB rfl (fun hB => ?_)
  refine z_iload hB rfl (fun hB => ?_)
  exact z_callVh hB (as := [.int (x1), .int (x2)]) (a := 0) (rest := [.int (Int32.ofNat 0), .ref (250)]) rfl (b := 4) (by decide +kernel) rfl rfl rfl rfl (zt_n ok (c := 7) (a := 0) (by decide +kernel)).1 (zt_n ok (c := 7) (a := 0) (by decide +kernel)).2.2.1 hc
theorem lh_tub_v {G : z_G} {x1 : Int32} {x2 : Int32} {w w2 : ev_W} (ok : z_Ok G w) (ok2 : z_Ok G w2) {v : Int32} (hc : z_K G 140 [.ref 0, .int (x1), .int (x2)] w (.inl (some (.int v))) w2) : z_K G 378 [.ref 0, .int x1, .int x2, .ref 250] w (.inl (some (.int (Int32.ofNat 0)))) (w_sJ w2 250 0 v.toInt64) := by
  refine z_con ok.1 (ml := 5) (by decide +kernel) rfl rfl ?_
  show z_R G 378 0 [some (.ref (0)), some (.int (x1)), some (.int (x2)), some (.ref (250)), none] [] w (.inl (some (.int (Int32.ofNat 0)))) (w_sJ w2 250 0 v.toInt64)
  have hB : z_all [z_is 378 0 (zf_aload 0 3 1), z_is 378 1 (zf_cst 1 (Int32.ofNat 0) 2), z_is 378 2 (zf_aload 2 0 3), z_is 378 3 (zf_iload 3 1 4), z_is 378 4 (zf_iload 4 2 5), z_is 378 5 (zf_cv 5 140 2 7 8), z_is 378 8 (zf_i2l 8 9), z_is 378 9 (zf_last 9 10), z_is 378 10 (zf_goto 10 25), z_is 378 25 (zf_cst 25 (Int32.ofNat 0) 26), z_is 378 26 (zf_ret 0)] = true := by decide +kernel
  refine z_aload hB rfl (fun hB => ?_)
  refine z_cst hB (fun hB => ?_)
  refine z_aload hB rfl (fun hB => ?_)
  refine z_iload hB rfl (fun hB => ?_)
  refine z_iload hB rfl (fun hB => ?_)
  refine z_callV hB (as := [.int (x1), .int (x2)]) (a := 0) (rest := [.int (Int32.ofNat 0), .ref (250)]) rfl rfl rfl (zt_n ok (c := 7) (a := 0) (by decide +kernel)).1 (zt_n ok (c := 7) (a := 0) (by decide +kernel)).2.2.1 hc (fun hB => ?_)
  refine z_i2l hB (fun hB => ?_)
  refine z_last hB (zt_n ok2 (c := 14) (a := 250) (by decide +kernel)).1 (zt_n ok2 (c := 14) (a := 250) (by decide +kernel)).2.2.1 (by rw [(zt_n ok2 (c := 14) (a := 250) (by decide +kernel)).2.2.2]; decide +kernel) (fun hB => ?_)
  refine z_goto hB (fun hB => ?_)
  refine z_cst hB (fun hB => ?_)
  exact z_reti hB
theorem lh_tub_0 {G : z_G} {x1 : Int32} {x2 : Int32} {w w2 : ev_W} (ok : z_Ok G w) (hc : z_K G 140 [.ref 0, .int (x1), .int (x2)] w (.inr 0) w2) : z_K G 378 [.ref 0, .int x1, .int x2, .ref 250] w (.inl (some (.int (Int32.ofNat 1)))) w2 := by
  refine z_con ok.1 (ml := 5) (by decide +kernel) rfl rfl ?_
  show z_R G 378 0 [some (.ref (0)), some (.int (x1)), some (.int (x2)), some (.ref (250)), none] [] w (.inl (some (.int (Int32.ofNat 1)))) w2
  have hB : z_all [z_is 378 0 (zf_aload 0 3 1), z_is 378 1 (zf_cst 1 (Int32.ofNat 0) 2), z_is 378 2 (zf_aload 2 0 3), z_is 378 3 (zf_iload 3 1 4), z_is 378 4 (zf_iload 4 2 5), z_is 378 5 (zf_cv 5 140 2 7 8)] = true := by decide +kernel
  refine z_aload hB rfl (fun hB => ?_)
  refine z_cst hB (fun hB => ?_)
  refine z_aload hB rfl (fun hB => ?_)
  refine z_iload hB rfl (fun hB => ?_)
  refine z_iload hB rfl (fun hB => ?_)
  exact z_callVh hB (as := [.int (x1), .int (x2)]) (a := 0) (rest := [.int (Int32.ofNat 0), .ref (250)]) rfl (b := 4) (by decide +kernel) rfl rfl rfl rfl (zt_n ok (c := 7) (a := 0) (by decide +kernel)).1 (zt_n ok (c := 7) (a := 0) (by decide +kernel)).2.2.1 hc
theorem lh_tub_1 {G : z_G} {x1 : Int32} {x2 : Int32} {w w2 : ev_W} (ok : z_Ok G w) (hc : z_K G 140 [.ref 0, .int (x1), .int (x2)] w (.inr 1) w2) : z_K G 378 [.ref 0, .int x1, .int x2, .ref 250] w (.inl (some (.int (Int32.ofNat 2)))) w2 := by
  refine z_con ok.1 (ml := 5) (by decide +kernel) rfl rfl ?_
  show z_R G 378 0 [some (.ref (0)), some (.int (x1)), some (.int (x2)), some (.ref (250)), none] [] w (.inl (some (.int (Int32.ofNat 2)))) w2
  have hB : z_all [z_is 378 0 (zf_aload 0 3 1), z_is 378 1 (zf_cst 1 (Int32.ofNat 0) 2), z_is 378 2 (zf_aload 2 0 3), z_is 378 3 (zf_iload 3 1 4), z_is 378 4 (zf_iload 4 2 5), z_is 378 5 (zf_cv 5 140 2 7 8)] = true := by decide +kernel
  refine z_aload hB rfl (fun hB => ?_)
  refine z_cst hB (fun hB => ?_)
  refine z_aload hB rfl (fun hB => ?_)
  refine z_iload hB rfl (fun hB => ?_)
  refine z_iload hB rfl (fun hB => ?_)
  exact z_callVh hB (as := [.int (x1), .int (x2)]) (a := 0) (rest := [.int (Int32.ofNat 0), .ref (250)]) rfl (b := 4) (by decide +kernel) rfl rfl rfl rfl (zt_n ok (c := 7) (a := 0) (by decide +kernel)).1 (zt_n ok (c := 7) (a := 0) (by decide +kernel)).2.2.1 hc
theorem lh_tub_2 {G : z_G} {x1 : Int32} {x2 : Int32} {w w2 : ev_W} (ok : z_Ok G w) (hc : z_K G 140 [.ref 0, .int (x1), .int (x2)] w (.inr 2) w2) : z_K G 378 [.ref 0, .int x1, .int x2, .ref 250] w (.inl (some (.int (Int32.ofNat 3)))) w2 := by
  refine z_con ok.1 (ml := 5) (by decide +kernel) rfl rfl ?_
  show z_R G 378 0 [some (.ref (0)), some (.int (x1)), some (.int (x2)), some (.ref (250)), none] [] w (.inl (some (.int (Int32.ofNat 3)))) w2
  have hB : z_all [z_is 378 0 (zf_aload 0 3 1), z_is 378 1 (zf_cst 1 (Int32.ofNat 0) 2), z_is 378 2 (zf_aload 2 0 3), z_is 378 3 (zf_iload 3 1 4), z_is 378 4 (zf_iload 4 2 5), z_is 378 5 (zf_cv 5 140 2 7 8)] = true := by decide +kernel
  refine z_aload hB rfl (fun hB => ?_)
  refine z_cst hB (fun hB => ?_)
  refine z_aload hB rfl (fun hB => ?_)
  refine z_iload hB rfl (fun hB => ?_)
  refine z_iload hB rfl (fun hB => ?_)
  exact z_callVh hB (as := [.int (x1), .int (x2)]) (a := 0) (rest := [.int (Int32.ofNat 0), .ref (250)]) rfl (b := 4) (by decide +kernel) rfl rfl rfl rfl (zt_n ok (c := 7) (a := 0) (by decide +kernel)).1 (zt_n ok (c := 7) (a := 0) (by decide +kernel)).2.2.1 hc
theorem lh_inTub_v {G : z_G} {x1 : Int32} {x2 : Int32} {w w2 : ev_W} (ok : z_Ok G w) (ok2 : z_Ok G w2) {v : Int32} (hc : z_K G 141 [.ref 0, .int (x1), .int (x2)] w (.inl (some (.int v))) w2) : z_K G 379 [.ref 0, .int x1, .int x2, .ref 250] w (.inl (some (.int (Int32.ofNat 0)))) (w_sJ w2 250 0 v.toInt64) := by
  refine z_con ok.1 (ml := 5) (by decide +kernel) rfl rfl ?_
  show z_R G 379 0 [some (.ref (0)), some (.int (x1)), some (.int (x2)), some (.ref (250)), none] [] w (.inl (some (.int (Int32.ofNat 0)))) (w_sJ w2 250 0 v.toInt64)
  have hB : z_all [z_is 379 0 (zf_aload 0 3 1), z_is 379 1 (zf_cst 1 (Int32.ofNat 0) 2), z_is 379 2 (zf_aload 2 0 3), z_is 379 3 (zf_iload 3 1 4), z_is 379 4 (zf_iload 4 2 5), z_is 379 5 (zf_cv 5 141 2 7 8), z_is 379 8 (zf_i2l 8 9), z_is 379 9 (zf_last 9 10), z_is 379 10 (zf_goto 10 21), z_is 379 21 (zf_cst 21 (Int32.ofNat 0) 22), z_is 379 22 (zf_ret 0)] = true := by decide +kernel
  refine z_aload hB rfl (fun hB => ?_)
  refine z_cst hB (fun hB => ?_)
  refine z_aload hB rfl (fun hB => ?_)
  refine z_iload hB rfl (fun hB => ?_)
  refine z_iload hB rfl (fun hB => ?_)
  refine z_callV hB (as := [.int (x1), .int (x2)]) (a := 0) (rest := [.int (Int32.ofNat 0), .ref (250)]) rfl rfl rfl (zt_n ok (c := 7) (a := 0) (by decide +kernel)).1 (zt_n ok (c := 7) (a := 0) (by decide +kernel)).2.2.1 hc (fun hB => ?_)
  refine z_i2l hB (fun hB => ?_)
  refine z_last hB (zt_n ok2 (c := 14) (a := 250) (by decide +kernel)).1 (zt_n ok2 (c := 14) (a := 250) (by decide +kernel)).2.2.1 (by rw [(zt_n ok2 (c := 14) (a := 250) (by decide +kernel)).2.2.2]; decide +kernel) (fun hB => ?_)
  refine z_goto hB (fun hB => ?_)
  refine z_cst hB (fun hB => ?_)
  exact z_reti hB
theorem lh_inTub_0 {G : z_G} {x1 : Int32} {x2 : Int32} {w w2 : ev_W} (ok : z_Ok G w) (hc : z_K G 141 [.ref 0, .int (x1), .int (x2)] w (.inr 0) w2) : z_K G 379 [.ref 0, .int x1, .int x2, .ref 250] w (.inl (some (.int (Int32.ofNat 1)))) w2 := by
  refine z_con ok.1 (ml := 5) (by decide +kernel) rfl rfl ?_
  show z_R G 379 0 [some (.ref (0)), some (.int (x1)), some (.int (x2)), some (.ref (250)), none] [] w (.inl (some (.int (Int32.ofNat 1)))) w2
  have hB : z_all [z_is 379 0 (zf_aload 0 3 1), z_is 379 1 (zf_cst 1 (Int32.ofNat 0) 2), z_is 379 2 (zf_aload 2 0 3), z_is 379 3 (zf_iload 3 1 4), z_is 379 4 (zf_iload 4 2 5), z_is 379 5 (zf_cv 5 141 2 7 8)] = true := by decide +kernel
  refine z_aload hB rfl (fun hB => ?_)
  refine z_cst hB (fun hB => ?_)
  refine z_aload hB rfl (fun hB => ?_)
  refine z_iload hB rfl (fun hB => ?_)
  refine z_iload hB rfl (fun hB => ?_)
  exact z_callVh hB (as := [.int (x1), .int (x2)]) (a := 0) (rest := [.int (Int32.ofNat 0), .ref (250)]) rfl (b := 4) (by decide +kernel) rfl rfl rfl rfl (zt_n ok (c := 7) (a := 0) (by decide +kernel)).1 (zt_n ok (c := 7) (a := 0) (by decide +kernel)).2.2.1 hc
theorem lh_inTub_1 {G : z_G} {x1 : Int32} {x2 : Int32} {w w2 : ev_W} (ok : z_Ok G w) (hc : z_K G 141 [.ref 0, .int (x1), .int (x2)] w (.inr 1) w2) : z_K G 379 [.ref 0, .int x1, .int x2, .ref 250] w (.inl (some (.int (Int32.ofNat 2)))) w2 := by
  refine z_con ok.1 (ml := 5) (by decide +kernel) rfl rfl ?_
  show z_R G 379 0 [some (.ref (0)), some (.int (x1)), some (.int (x2)), some (.ref (250)), none] [] w (.inl (some (.int (Int32.ofNat 2)))) w2
  have hB : z_all [z_is 379 0 (zf_aload 0 3 1), z_is 379 1 (zf_cst 1 (Int32.ofNat 0) 2), z_is 379 2 (zf_aload 2 0 3), z_is 379 3 (zf_iload 3 1 4), z_is 379 4 (zf_iload 4 2 5), z_is 379 5 (zf_cv 5 141 2 7 8)] = true := by decide +kernel
  refine z_aload hB rfl (fun hB => ?_)
  refine z_cst hB (fun hB => ?_)
  refine z_aload hB rfl (fun hB => ?_)
  refine z_iload hB rfl (fun hB => ?_)
  refine z_iload hB rfl (fun hB => ?_)
  exact z_callVh hB (as := [.int (x1), .int (x2)]) (a := 0) (rest := [.int (Int32.ofNat 0), .ref (250)]) rfl (b := 4) (by decide +kernel) rfl rfl rfl rfl (zt_n ok (c := 7) (a := 0) (by decide +kernel)).1 (zt_n ok (c := 7) (a := 0) (by decide +kernel)).2.2.1 hc
theorem lh_onPeg_v {G : z_G} {x1 : Int32} {w w2 : ev_W} (ok : z_Ok G w) (ok2 : z_Ok G w2) {v : Int32} (hc : z_K G 142 [.ref 0, .int (x1)] w (.inl (some (.int v))) w2) : z_K G 380 [.ref 0, .int x1, .ref 250] w (.inl (some (.int (Int32.ofNat 0)))) (w_sJ w2 250 0 v.toInt64) := by
  refine z_con ok.1 (ml := 4) (by decide +kernel) rfl rfl ?_
  show z_R G 380 0 [some (.ref (0)), some (.int (x1)), some (.ref (250)), none] [] w (.inl (some (.int (Int32.ofNat 0)))) (w_sJ w2 250 0 v.toInt64)
  have hB : z_all [z_is 380 0 (zf_aload 0 2 1), z_is 380 1 (zf_cst 1 (Int32.ofNat 0) 2), z_is 380 2 (zf_aload 2 0 3), z_is 380 3 (zf_iload 3 1 4), z_is 380 4 (zf_cv 4 142 1 7 7), z_is 380 7 (zf_i2l 7 8), z_is 380 8 (zf_last 8 9), z_is 380 9 (zf_goto 9 18), z_is 380 18 (zf_cst 18 (Int32.ofNat 0) 19), z_is 380 19 (zf_ret 0)] = true := by decide +kernel
  refine z_aload hB rfl (fun hB => ?_)
  refine z_cst hB (fun hB => ?_)
  refine z_aload hB rfl (fun hB => ?_)
  refine z_iload hB rfl (fun hB => ?_)
  refine z_callV hB (as := [.int (x1)]) (a := 0) (rest := [.int (Int32.ofNat 0), .ref (250)]) rfl rfl rfl (zt_n ok (c := 7) (a := 0) (by decide +kernel)).1 (zt_n ok (c := 7) (a := 0) (by decide +kernel)).2.2.1 hc (fun hB => ?_)
  refine z_i2l hB (fun hB => ?_)
  refine z_last hB (zt_n ok2 (c := 14) (a := 250) (by decide +kernel)).1 (zt_n ok2 (c := 14) (a := 250) (by decide +kernel)).2.2.1 (by rw [(zt_n ok2 (c := 14) (a := 250) (by decide +kernel)).2.2.2]; decide +kernel) (fun hB => ?_)
  refine z_goto hB (fun hB => ?_)
  refine z_cst hB (fun hB => ?_)
  exact z_reti hB
theorem lh_onPeg_0 {G : z_G} {x1 : Int32} {w w2 : ev_W} (ok : z_Ok G w) (hc : z_K G 142 [.ref 0, .int (x1)] w (.inr 0) w2) : z_K G 380 [.ref 0, .int x1, .ref 250] w (.inl (some (.int (Int32.ofNat 1)))) w2 := by
  refine z_con ok.1 (ml := 4) (by decide +kernel) rfl rfl ?_
  show z_R G 380 0 [some (.ref (0)), some (.int (x1)), some (.ref (250)), none] [] w (.inl (some (.int (Int32.ofNat 1)))) w2
  have hB : z_all [z_is 380 0 (zf_aload 0 2 1), z_is 380 1 (zf_cst 1 (Int32.ofNat 0) 2), z_is 380 2 (zf_aload 2 0 3), z_is 380 3 (zf_iload 3 1 4), z_is 380 4 (zf_cv 4 142 1 7 7)] = true := by decide +kernel
  refine z_aload hB rfl (fun hB => ?_)
  refine z_cst hB (fun hB => ?_)
  refine z_aload hB rfl (fun hB => ?_)
  refine z_iload hB rfl (fun hB => ?_)
  exact z_callVh hB (as := [.int (x1)]) (a := 0) (rest := [.int (Int32.ofNat 0), .ref (250)]) rfl (b := 3) (by decide +kernel) rfl rfl rfl rfl (zt_n ok (c := 7) (a := 0) (by decide +kernel)).1 (zt_n ok (c := 7) (a := 0) (by decide +kernel)).2.2.1 hc
theorem lh_onPeg_1 {G : z_G} {x1 : Int32} {w w2 : ev_W} (ok : z_Ok G w) (hc : z_K G 142 [.ref 0, .int (x1)] w (.inr 1) w2) : z_K G 380 [.ref 0, .int x1, .ref 250] w (.inl (some (.int (Int32.ofNat 2)))) w2 := by
  refine z_con ok.1 (ml := 4) (by decide +kernel) rfl rfl ?_
  show z_R G 380 0 [some (.ref (0)), some (.int (x1)), some (.ref (250)), none] [] w (.inl (some (.int (Int32.ofNat 2)))) w2
  have hB : z_all [z_is 380 0 (zf_aload 0 2 1), z_is 380 1 (zf_cst 1 (Int32.ofNat 0) 2), z_is 380 2 (zf_aload 2 0 3), z_is 380 3 (zf_iload 3 1 4), z_is 380 4 (zf_cv 4 142 1 7 7)] = true := by decide +kernel
  refine z_aload hB rfl (fun hB => ?_)
  refine z_cst hB (fun hB => ?_)
  refine z_aload hB rfl (fun hB => ?_)
  refine z_iload hB rfl (fun hB => ?_)
  exact z_callVh hB (as := [.int (x1)]) (a := 0) (rest := [.int (Int32.ofNat 0), .ref (250)]) rfl (b := 3) (by decide +kernel) rfl rfl rfl rfl (zt_n ok (c := 7) (a := 0) (by decide +kernel)).1 (zt_n ok (c := 7) (a := 0) (by decide +kernel)).2.2.1 hc
theorem lh_freePegs_v {G : z_G} {w w2 : ev_W} (ok : z_Ok G w) (ok2 : z_Ok G w2) {v : Int32} (hc : z_K G 143 [.ref 0] w (.inl (some (.int v))) w2) : z_K G 381 [.ref 0, .ref 250] w (.inl (some (.int (Int32.ofNat 0)))) (w_sJ w2 250 0 v.toInt64) := by
  refine z_con ok.1 (ml := 3) (by decide +kernel) rfl rfl ?_
  show z_R G 381 0 [some (.ref (0)), some (.ref (250)), none] [] w (.inl (some (.int (Int32.ofNat 0)))) (w_sJ w2 250 0 v.toInt64)
  have hB : z_all [z_is 381 0 (zf_aload 0 1 1), z_is 381 1 (zf_cst 1 (Int32.ofNat 0) 2), z_is 381 2 (zf_aload 2 0 3), z_is 381 3 (zf_cv 3 143 0 7 6), z_is 381 6 (zf_i2l 6 7), z_is 381 7 (zf_last 7 8), z_is 381 8 (zf_goto 8 14), z_is 381 14 (zf_cst 14 (Int32.ofNat 0) 15), z_is 381 15 (zf_ret 0)] = true := by decide +kernel
  refine z_aload hB rfl (fun hB => ?_)
  refine z_cst hB (fun hB => ?_)
  refine z_aload hB rfl (fun hB => ?_)
  refine z_callV hB (as := []) (a := 0) (rest := [.int (Int32.ofNat 0), .ref (250)]) rfl rfl rfl (zt_n ok (c := 7) (a := 0) (by decide +kernel)).1 (zt_n ok (c := 7) (a := 0) (by decide +kernel)).2.2.1 hc (fun hB => ?_)
  refine z_i2l hB (fun hB => ?_)
  refine z_last hB (zt_n ok2 (c := 14) (a := 250) (by decide +kernel)).1 (zt_n ok2 (c := 14) (a := 250) (by decide +kernel)).2.2.1 (by rw [(zt_n ok2 (c := 14) (a := 250) (by decide +kernel)).2.2.2]; decide +kernel) (fun hB => ?_)
  refine z_goto hB (fun hB => ?_)
  refine z_cst hB (fun hB => ?_)
  exact z_reti hB
theorem lh_freePegs_0 {G : z_G} {w w2 : ev_W} (ok : z_Ok G w) (hc : z_K G 143 [.ref 0] w (.inr 0) w2) : z_K G 381 [.ref 0, .ref 250] w (.inl (some (.int (Int32.ofNat 1)))) w2 := by
  refine z_con ok.1 (ml := 3) (by decide +kernel) rfl rfl ?_
  show z_R G 381 0 [some (.ref (0)), some (.ref (250)), none] [] w (.inl (some (.int (Int32.ofNat 1)))) w2
  have hB : z_all [z_is 381 0 (zf_aload 0 1 1), z_is 381 1 (zf_cst 1 (Int32.ofNat 0) 2), z_is 381 2 (zf_aload 2 0 3), z_is 381 3 (zf_cv 3 143 0 7 6)] = true := by decide +kernel
  refine z_aload hB rfl (fun hB => ?_)
  refine z_cst hB (fun hB => ?_)
  refine z_aload hB rfl (fun hB => ?_)
  exact z_callVh hB (as := []) (a := 0) (rest := [.int (Int32.ofNat 0), .ref (250)]) rfl (b := 2) (by decide +kernel) rfl rfl rfl rfl (zt_n ok (c := 7) (a := 0) (by decide +kernel)).1 (zt_n ok (c := 7) (a := 0) (by decide +kernel)).2.2.1 hc
theorem lh_wettest_v {G : z_G} {w w2 : ev_W} (ok : z_Ok G w) (ok2 : z_Ok G w2) {v : Int32} (hc : z_K G 144 [.ref 0] w (.inl (some (.int v))) w2) : z_K G 382 [.ref 0, .ref 250] w (.inl (some (.int (Int32.ofNat 0)))) (w_sJ w2 250 0 v.toInt64) := by
  refine z_con ok.1 (ml := 3) (by decide +kernel) rfl rfl ?_
  show z_R G 382 0 [some (.ref (0)), some (.ref (250)), none] [] w (.inl (some (.int (Int32.ofNat 0)))) (w_sJ w2 250 0 v.toInt64)
  have hB : z_all [z_is 382 0 (zf_aload 0 1 1), z_is 382 1 (zf_cst 1 (Int32.ofNat 0) 2), z_is 382 2 (zf_aload 2 0 3), z_is 382 3 (zf_cv 3 144 0 7 6), z_is 382 6 (zf_i2l 6 7), z_is 382 7 (zf_last 7 8), z_is 382 8 (zf_goto 8 14), z_is 382 14 (zf_cst 14 (Int32.ofNat 0) 15), z_is 382 15 (zf_ret 0)] = true := by decide +kernel
  refine z_aload hB rfl (fun hB => ?_)
  refine z_cst hB (fun hB => ?_)
  refine z_aload hB rfl (fun hB => ?_)
  refine z_callV hB (as := []) (a := 0) (rest := [.int (Int32.ofNat 0), .ref (250)]) rfl rfl rfl (zt_n ok (c := 7) (a := 0) (by decide +kernel)).1 (zt_n ok (c := 7) (a := 0) (by decide +kernel)).2.2.1 hc (fun hB => ?_)
  refine z_i2l hB (fun hB => ?_)
  refine z_last hB (zt_n ok2 (c := 14) (a := 250) (by decide +kernel)).1 (zt_n ok2 (c := 14) (a := 250) (by decide +kernel)).2.2.1 (by rw [(zt_n ok2 (c := 14) (a := 250) (by decide +kernel)).2.2.2]; decide +kernel) (fun hB => ?_)
  refine z_goto hB (fun hB => ?_)
  refine z_cst hB (fun hB => ?_)
  exact z_reti hB
theorem lh_wettest_0 {G : z_G} {w w2 : ev_W} (ok : z_Ok G w) (hc : z_K G 144 [.ref 0] w (.inr 0) w2) : z_K G 382 [.ref 0, .ref 250] w (.inl (some (.int (Int32.ofNat 1)))) w2 := by
  refine z_con ok.1 (ml := 3) (by decide +kernel) rfl rfl ?_
  show z_R G 382 0 [some (.ref (0)), some (.ref (250)), none] [] w (.inl (some (.int (Int32.ofNat 1)))) w2
  have hB : z_all [z_is 382 0 (zf_aload 0 1 1), z_is 382 1 (zf_cst 1 (Int32.ofNat 0) 2), z_is 382 2 (zf_aload 2 0 3), z_is 382 3 (zf_cv 3 144 0 7 6)] = true := by decide +kernel
  refine z_aload hB rfl (fun hB => ?_)
  refine z_cst hB (fun hB => ?_)
  refine z_aload hB rfl (fun hB => ?_)
  exact z_callVh hB (as := []) (a := 0) (rest := [.int (Int32.ofNat 0), .ref (250)]) rfl (b := 2) (by decide +kernel) rfl rfl rfl rfl (zt_n ok (c := 7) (a := 0) (by decide +kernel)).1 (zt_n ok (c := 7) (a := 0) (by decide +kernel)).2.2.1 hc
theorem lh_gap_v {G : z_G} {w w2 : ev_W} (ok : z_Ok G w) (ok2 : z_Ok G w2) {v : Int32} (hc : z_K G 145 [.ref 0] w (.inl (some (.int v))) w2) : z_K G 383 [.ref 0, .ref 250] w (.inl (some (.int (Int32.ofNat 0)))) (w_sJ w2 250 0 v.toInt64) := by
  refine z_con ok.1 (ml := 3) (by decide +kernel) rfl rfl ?_
  show z_R G 383 0 [some (.ref (0)), some (.ref (250)), none] [] w (.inl (some (.int (Int32.ofNat 0)))) (w_sJ w2 250 0 v.toInt64)
  have hB : z_all [z_is 383 0 (zf_aload 0 1 1), z_is 383 1 (zf_cst 1 (Int32.ofNat 0) 2), z_is 383 2 (zf_aload 2 0 3), z_is 383 3 (zf_cv 3 145 0 7 6), z_is 383 6 (zf_i2l 6 7), z_is 383 7 (zf_last 7 8), z_is 383 8 (zf_goto 8 14), z_is 383 14 (zf_cst 14 (Int32.ofNat 0) 15), z_is 383 15 (zf_ret 0)] = true := by decide +kernel
  refine z_aload hB rfl (fun hB => ?_)
  refine z_cst hB (fun hB => ?_)
  refine z_aload hB rfl (fun hB => ?_)
  refine z_callV hB (as := []) (a := 0) (rest := [.int (Int32.ofNat 0), .ref (250)]) rfl rfl rfl (zt_n ok (c := 7) (a := 0) (by decide +kernel)).1 (zt_n ok (c := 7) (a := 0) (by decide +kernel)).2.2.1 hc (fun hB => ?_)
  refine z_i2l hB (fun hB => ?_)
  refine z_last hB (zt_n ok2 (c := 14) (a := 250) (by decide +kernel)).1 (zt_n ok2 (c := 14) (a := 250) (by decide +kernel)).2.2.1 (by rw [(zt_n ok2 (c := 14) (a := 250) (by decide +kernel)).2.2.2]; decide +kernel) (fun hB => ?_)
  refine z_goto hB (fun hB => ?_)
  refine z_cst hB (fun hB => ?_)
  exact z_reti hB
theorem lh_gap_0 {G : z_G} {w w2 : ev_W} (ok : z_Ok G w) (hc : z_K G 145 [.ref 0] w (.inr 0) w2) : z_K G 383 [.ref 0, .ref 250] w (.inl (some (.int (Int32.ofNat 1)))) w2 := by
  refine z_con ok.1 (ml := 3) (by decide +kernel) rfl rfl ?_
  show z_R G 383 0 [some (.ref (0)), some (.ref (250)), none] [] w (.inl (some (.int (Int32.ofNat 1)))) w2
  have hB : z_all [z_is 383 0 (zf_aload 0 1 1), z_is 383 1 (zf_cst 1 (Int32.ofNat 0) 2), z_is 383 2 (zf_aload 2 0 3), z_is 383 3 (zf_cv 3 145 0 7 6)] = true := by decide +kernel
  refine z_aload hB rfl (fun hB => ?_)
  refine z_cst hB (fun hB => ?_)
  refine z_aload hB rfl (fun hB => ?_)
  exact z_callVh hB (as := []) (a := 0) (rest := [.int (Int32.ofNat 0), .ref (250)]) rfl (b := 2) (by decide +kernel) rfl rfl rfl rfl (zt_n ok (c := 7) (a := 0) (by decide +kernel)).1 (zt_n ok (c := 7) (a := 0) (by decide +kernel)).2.2.1 hc
theorem lh_why_v {G : z_G} {x1 : Int32} {w w2 : ev_W} (ok : z_Ok G w) (ok2 : z_Ok G w2) {v : Int32} (hc : z_K G 146 [.ref 0, .int (x1)] w (.inl (some (.int v))) w2) : z_K G 384 [.ref 0, .int x1, .ref 250] w (.inl (some (.int (Int32.ofNat 0)))) (w_sJ w2 250 0 v.toInt64) := by
  refine z_con ok.1 (ml := 4) (by decide +kernel) rfl rfl ?_
  show z_R G 384 0 [some (.ref (0)), some (.int (x1)), some (.ref (250)), none] [] w (.inl (some (.int (Int32.ofNat 0)))) (w_sJ w2 250 0 v.toInt64)
  have hB : z_all [z_is 384 0 (zf_aload 0 2 1), z_is 384 1 (zf_cst 1 (Int32.ofNat 0) 2), z_is 384 2 (zf_aload 2 0 3), z_is 384 3 (zf_iload 3 1 4), z_is 384 4 (zf_cv 4 146 1 7 7), z_is 384 7 (zf_i2l 7 8), z_is 384 8 (zf_last 8 9), z_is 384 9 (zf_goto 9 18), z_is 384 18 (zf_cst 18 (Int32.ofNat 0) 19), z_is 384 19 (zf_ret 0)] = true := by decide +kernel
  refine z_aload hB rfl (fun hB => ?_)
  refine z_cst hB (fun hB => ?_)
  refine z_aload hB rfl (fun hB => ?_)
  refine z_iload hB rfl (fun hB => ?_)
  refine z_callV hB (as := [.int (x1)]) (a := 0) (rest := [.int (Int32.ofNat 0), .ref (250)]) rfl rfl rfl (zt_n ok (c := 7) (a := 0) (by decide +kernel)).1 (zt_n ok (c := 7) (a := 0) (by decide +kernel)).2.2.1 hc (fun hB => ?_)
  refine z_i2l hB (fun hB => ?_)
  refine z_last hB (zt_n ok2 (c := 14) (a := 250) (by decide +kernel)).1 (zt_n ok2 (c := 14) (a := 250) (by decide +kernel)).2.2.1 (by rw [(zt_n ok2 (c := 14) (a := 250) (by decide +kernel)).2.2.2]; decide +kernel) (fun hB => ?_)
  refine z_goto hB (fun hB => ?_)
  refine z_cst hB (fun hB => ?_)
  exact z_reti hB
theorem lh_why_0 {G : z_G} {x1 : Int32} {w w2 : ev_W} (ok : z_Ok G w) (hc : z_K G 146 [.ref 0, .int (x1)] w (.inr 0) w2) : z_K G 384 [.ref 0, .int x1, .ref 250] w (.inl (some (.int (Int32.ofNat 1)))) w2 := by
  refine z_con ok.1 (ml := 4) (by decide +kernel) rfl rfl ?_
  show z_R G 384 0 [some (.ref (0)), some (.int (x1)), some (.ref (250)), none] [] w (.inl (some (.int (Int32.ofNat 1)))) w2
  have hB : z_all [z_is 384 0 (zf_aload 0 2 1), z_is 384 1 (zf_cst 1 (Int32.ofNat 0) 2), z_is 384 2 (zf_aload 2 0 3), z_is 384 3 (zf_iload 3 1 4), z_is 384 4 (zf_cv 4 146 1 7 7)] = true := by decide +kernel
  refine z_aload hB rfl (fun hB => ?_)
  refine z_cst hB (fun hB => ?_)
  refine z_aload hB rfl (fun hB => ?_)
  refine z_iload hB rfl (fun hB => ?_)
  exact z_callVh hB (as := [.int (x1)]) (a := 0) (rest := [.int (Int32.ofNat 0), .ref (250)]) rfl (b := 3) (by decide +kernel) rfl rfl rfl rfl (zt_n ok (c := 7) (a := 0) (by decide +kernel)).1 (zt_n ok (c := 7) (a := 0) (by decide +kernel)).2.2.1 hc
theorem lh_why_1 {G : z_G} {x1 : Int32} {w w2 : ev_W} (ok : z_Ok G w) (hc : z_K G 146 [.ref 0, .int (x1)] w (.inr 1) w2) : z_K G 384 [.ref 0, .int x1, .ref 250] w (.inl (some (.int (Int32.ofNat 2)))) w2 := by
  refine z_con ok.1 (ml := 4) (by decide +kernel) rfl rfl ?_
  show z_R G 384 0 [some (.ref (0)), some (.int (x1)), some (.ref (250)), none] [] w (.inl (some (.int (Int32.ofNat 2)))) w2
  have hB : z_all [z_is 384 0 (zf_aload 0 2 1), z_is 384 1 (zf_cst 1 (Int32.ofNat 0) 2), z_is 384 2 (zf_aload 2 0 3), z_is 384 3 (zf_iload 3 1 4), z_is 384 4 (zf_cv 4 146 1 7 7)] = true := by decide +kernel
  refine z_aload hB rfl (fun hB => ?_)
  refine z_cst hB (fun hB => ?_)
  refine z_aload hB rfl (fun hB => ?_)
  refine z_iload hB rfl (fun hB => ?_)
  exact z_callVh hB (as := [.int (x1)]) (a := 0) (rest := [.int (Int32.ofNat 0), .ref (250)]) rfl (b := 3) (by decide +kernel) rfl rfl rfl rfl (zt_n ok (c := 7) (a := 0) (by decide +kernel)).1 (zt_n ok (c := 7) (a := 0) (by decide +kernel)).2.2.1 hc
theorem lh_reasons_v {G : z_G} {x1 : Int32} {w w2 : ev_W} (ok : z_Ok G w) (ok2 : z_Ok G w2) {v : Int32} (hc : z_K G 147 [.ref 0, .int (x1)] w (.inl (some (.int v))) w2) : z_K G 385 [.ref 0, .int x1, .ref 250] w (.inl (some (.int (Int32.ofNat 0)))) (w_sJ w2 250 0 v.toInt64) := by
  refine z_con ok.1 (ml := 4) (by decide +kernel) rfl rfl ?_
  show z_R G 385 0 [some (.ref (0)), some (.int (x1)), some (.ref (250)), none] [] w (.inl (some (.int (Int32.ofNat 0)))) (w_sJ w2 250 0 v.toInt64)
  have hB : z_all [z_is 385 0 (zf_aload 0 2 1), z_is 385 1 (zf_cst 1 (Int32.ofNat 0) 2), z_is 385 2 (zf_aload 2 0 3), z_is 385 3 (zf_iload 3 1 4), z_is 385 4 (zf_cv 4 147 1 7 7), z_is 385 7 (zf_i2l 7 8), z_is 385 8 (zf_last 8 9), z_is 385 9 (zf_goto 9 18), z_is 385 18 (zf_cst 18 (Int32.ofNat 0) 19), z_is 385 19 (zf_ret 0)] = true := by decide +kernel
  refine z_aload hB rfl (fun hB => ?_)
  refine z_cst hB (fun hB => ?_)
  refine z_aload hB rfl (fun hB => ?_)
  refine z_iload hB rfl (fun hB => ?_)
  refine z_callV hB (as := [.int (x1)]) (a := 0) (rest := [.int (Int32.ofNat 0), .ref (250)]) rfl rfl rfl (zt_n ok (c := 7) (a := 0) (by decide +kernel)).1 (zt_n ok (c := 7) (a := 0) (by decide +kernel)).2.2.1 hc (fun hB => ?_)
  refine z_i2l hB (fun hB => ?_)
  refine z_last hB (zt_n ok2 (c := 14) (a := 250) (by decide +kernel)).1 (zt_n ok2 (c := 14) (a := 250) (by decide +kernel)).2.2.1 (by rw [(zt_n ok2 (c := 14) (a := 250) (by decide +kernel)).2.2.2]; decide +kernel) (fun hB => ?_)
  refine z_goto hB (fun hB => ?_)
  refine z_cst hB (fun hB => ?_)
  exact z_reti hB
theorem lh_reasons_0 {G : z_G} {x1 : Int32} {w w2 : ev_W} (ok : z_Ok G w) (hc : z_K G 147 [.ref 0, .int (x1)] w (.inr 0) w2) : z_K G 385 [.ref 0, .int x1, .ref 250] w (.inl (some (.int (Int32.ofNat 1)))) w2 := by
  refine z_con ok.1 (ml := 4) (by decide +kernel) rfl rfl ?_
  show z_R G 385 0 [some (.ref (0)), some (.int (x1)), some (.ref (250)), none] [] w (.inl (some (.int (Int32.ofNat 1)))) w2
  have hB : z_all [z_is 385 0 (zf_aload 0 2 1), z_is 385 1 (zf_cst 1 (Int32.ofNat 0) 2), z_is 385 2 (zf_aload 2 0 3), z_is 385 3 (zf_iload 3 1 4), z_is 385 4 (zf_cv 4 147 1 7 7)] = true := by decide +kernel
  refine z_aload hB rfl (fun hB => ?_)
  refine z_cst hB (fun hB => ?_)
  refine z_aload hB rfl (fun hB => ?_)
  refine z_iload hB rfl (fun hB => ?_)
  exact z_callVh hB (as := [.int (x1)]) (a := 0) (rest := [.int (Int32.ofNat 0), .ref (250)]) rfl (b := 3) (by decide +kernel) rfl rfl rfl rfl (zt_n ok (c := 7) (a := 0) (by decide +kernel)).1 (zt_n ok (c := 7) (a := 0) (by decide +kernel)).2.2.1 hc
theorem lh_reasons_1 {G : z_G} {x1 : Int32} {w w2 : ev_W} (ok : z_Ok G w) (hc : z_K G 147 [.ref 0, .int (x1)] w (.inr 1) w2) : z_K G 385 [.ref 0, .int x1, .ref 250] w (.inl (some (.int (Int32.ofNat 2)))) w2 := by
  refine z_con ok.1 (ml := 4) (by decide +kernel) rfl rfl ?_
  show z_R G 385 0 [some (.ref (0)), some (.int (x1)), some (.ref (250)), none] [] w (.inl (some (.int (Int32.ofNat 2)))) w2
  have hB : z_all [z_is 385 0 (zf_aload 0 2 1), z_is 385 1 (zf_cst 1 (Int32.ofNat 0) 2), z_is 385 2 (zf_aload 2 0 3), z_is 385 3 (zf_iload 3 1 4), z_is 385 4 (zf_cv 4 147 1 7 7)] = true := by decide +kernel
  refine z_aload hB rfl (fun hB => ?_)
  refine z_cst hB (fun hB => ?_)
  refine z_aload hB rfl (fun hB => ?_)
  refine z_iload hB rfl (fun hB => ?_)
  exact z_callVh hB (as := [.int (x1)]) (a := 0) (rest := [.int (Int32.ofNat 0), .ref (250)]) rfl (b := 3) (by decide +kernel) rfl rfl rfl rfl (zt_n ok (c := 7) (a := 0) (by decide +kernel)).1 (zt_n ok (c := 7) (a := 0) (by decide +kernel)).2.2.1 hc
theorem lh_culprit_v {G : z_G} {x1 : Int32} {w w2 : ev_W} (ok : z_Ok G w) (ok2 : z_Ok G w2) {v : Int32} (hc : z_K G 148 [.ref 0, .int (x1)] w (.inl (some (.int v))) w2) : z_K G 386 [.ref 0, .int x1, .ref 250] w (.inl (some (.int (Int32.ofNat 0)))) (w_sJ w2 250 0 v.toInt64) := by
  refine z_con ok.1 (ml := 4) (by decide +kernel) rfl rfl ?_
  show z_R G 386 0 [some (.ref (0)), some (.int (x1)), some (.ref (250)), none] [] w (.inl (some (.int (Int32.ofNat 0)))) (w_sJ w2 250 0 v.toInt64)
  have hB : z_all [z_is 386 0 (zf_aload 0 2 1), z_is 386 1 (zf_cst 1 (Int32.ofNat 0) 2), z_is 386 2 (zf_aload 2 0 3), z_is 386 3 (zf_iload 3 1 4), z_is 386 4 (zf_cv 4 148 1 7 7), z_is 386 7 (zf_i2l 7 8), z_is 386 8 (zf_last 8 9), z_is 386 9 (zf_goto 9 18), z_is 386 18 (zf_cst 18 (Int32.ofNat 0) 19), z_is 386 19 (zf_ret 0)] = true := by decide +kernel
  refine z_aload hB rfl (fun hB => ?_)
  refine z_cst hB (fun hB => ?_)
  refine z_aload hB rfl (fun hB => ?_)
  refine z_iload hB rfl (fun hB => ?_)
  refine z_callV hB (as := [.int (x1)]) (a := 0) (rest := [.int (Int32.ofNat 0), .ref (250)]) rfl rfl rfl (zt_n ok (c := 7) (a := 0) (by decide +kernel)).1 (zt_n ok (c := 7) (a := 0) (by decide +kernel)).2.2.1 hc (fun hB => ?_)
  refine z_i2l hB (fun hB => ?_)
  refine z_last hB (zt_n ok2 (c := 14) (a := 250) (by decide +kernel)).1 (zt_n ok2 (c := 14) (a := 250) (by decide +kernel)).2.2.1 (by rw [(zt_n ok2 (c := 14) (a := 250) (by decide +kernel)).2.2.2]; decide +kernel) (fun hB => ?_)
  refine z_goto hB (fun hB => ?_)
  refine z_cst hB (fun hB => ?_)
  exact z_reti hB
theorem lh_culprit_0 {G : z_G} {x1 : Int32} {w w2 : ev_W} (ok : z_Ok G w) (hc : z_K G 148 [.ref 0, .int (x1)] w (.inr 0) w2) : z_K G 386 [.ref 0, .int x1, .ref 250] w (.inl (some (.int (Int32.ofNat 1)))) w2 := by
  refine z_con ok.1 (ml := 4) (by decide +kernel) rfl rfl ?_
  show z_R G 386 0 [some (.ref (0)), some (.int (x1)), some (.ref (250)), none] [] w (.inl (some (.int (Int32.ofNat 1)))) w2
  have hB : z_all [z_is 386 0 (zf_aload 0 2 1), z_is 386 1 (zf_cst 1 (Int32.ofNat 0) 2), z_is 386 2 (zf_aload 2 0 3), z_is 386 3 (zf_iload 3 1 4), z_is 386 4 (zf_cv 4 148 1 7 7)] = true := by decide +kernel
  refine z_aload hB rfl (fun hB => ?_)
  refine z_cst hB (fun hB => ?_)
  refine z_aload hB rfl (fun hB => ?_)
  refine z_iload hB rfl (fun hB => ?_)
  exact z_callVh hB (as := [.int (x1)]) (a := 0) (rest := [.int (Int32.ofNat 0), .ref (250)]) rfl (b := 3) (by decide +kernel) rfl rfl rfl rfl (zt_n ok (c := 7) (a := 0) (by decide +kernel)).1 (zt_n ok (c := 7) (a := 0) (by decide +kernel)).2.2.1 hc
theorem lh_culprit_1 {G : z_G} {x1 : Int32} {w w2 : ev_W} (ok : z_Ok G w) (hc : z_K G 148 [.ref 0, .int (x1)] w (.inr 1) w2) : z_K G 386 [.ref 0, .int x1, .ref 250] w (.inl (some (.int (Int32.ofNat 2)))) w2 := by
  refine z_con ok.1 (ml := 4) (by decide +kernel) rfl rfl ?_
  show z_R G 386 0 [some (.ref (0)), some (.int (x1)), some (.ref (250)), none] [] w (.inl (some (.int (Int32.ofNat 2)))) w2
  have hB : z_all [z_is 386 0 (zf_aload 0 2 1), z_is 386 1 (zf_cst 1 (Int32.ofNat 0) 2), z_is 386 2 (zf_aload 2 0 3), z_is 386 3 (zf_iload 3 1 4), z_is 386 4 (zf_cv 4 148 1 7 7)] = true := by decide +kernel
  refine z_aload hB rfl (fun hB => ?_)
  refine z_cst hB (fun hB => ?_)
  refine z_aload hB rfl (fun hB => ?_)
  refine z_iload hB rfl (fun hB => ?_)
  exact z_callVh hB (as := [.int (x1)]) (a := 0) (rest := [.int (Int32.ofNat 0), .ref (250)]) rfl (b := 3) (by decide +kernel) rfl rfl rfl rfl (zt_n ok (c := 7) (a := 0) (by decide +kernel)).1 (zt_n ok (c := 7) (a := 0) (by decide +kernel)).2.2.1 hc
theorem lh_whyNotPut_v {G : z_G} {x1 : Int32} {x2 : Int32} {w w2 : ev_W} (ok : z_Ok G w) (ok2 : z_Ok G w2) {v : Int32} (hc : z_K G 149 [.ref 0, .int (x1), .int (x2)] w (.inl (some (.int v))) w2) : z_K G 387 [.ref 0, .int x1, .int x2, .ref 250] w (.inl (some (.int (Int32.ofNat 0)))) (w_sJ w2 250 0 v.toInt64) := by
  refine z_con ok.1 (ml := 5) (by decide +kernel) rfl rfl ?_
  show z_R G 387 0 [some (.ref (0)), some (.int (x1)), some (.int (x2)), some (.ref (250)), none] [] w (.inl (some (.int (Int32.ofNat 0)))) (w_sJ w2 250 0 v.toInt64)
  have hB : z_all [z_is 387 0 (zf_aload 0 3 1), z_is 387 1 (zf_cst 1 (Int32.ofNat 0) 2), z_is 387 2 (zf_aload 2 0 3), z_is 387 3 (zf_iload 3 1 4), z_is 387 4 (zf_iload 4 2 5), z_is 387 5 (zf_cv 5 149 2 7 8), z_is 387 8 (zf_i2l 8 9), z_is 387 9 (zf_last 9 10), z_is 387 10 (zf_goto 10 21), z_is 387 21 (zf_cst 21 (Int32.ofNat 0) 22), z_is 387 22 (zf_ret 0)] = true := by decide +kernel
  refine z_aload hB rfl (fun hB => ?_)
  refine z_cst hB (fun hB => ?_)
  refine z_aload hB rfl (fun hB => ?_)
  refine z_iload hB rfl (fun hB => ?_)
  refine z_iload hB rfl (fun hB => ?_)
  refine z_callV hB (as := [.int (x1), .int (x2)]) (a := 0) (rest := [.int (Int32.ofNat 0), .ref (250)]) rfl rfl rfl (zt_n ok (c := 7) (a := 0) (by decide +kernel)).1 (zt_n ok (c := 7) (a := 0) (by decide +kernel)).2.2.1 hc (fun hB => ?_)
  refine z_i2l hB (fun hB => ?_)
  refine z_last hB (zt_n ok2 (c := 14) (a := 250) (by decide +kernel)).1 (zt_n ok2 (c := 14) (a := 250) (by decide +kernel)).2.2.1 (by rw [(zt_n ok2 (c := 14) (a := 250) (by decide +kernel)).2.2.2]; decide +kernel) (fun hB => ?_)
  refine z_goto hB (fun hB => ?_)
  refine z_cst hB (fun hB => ?_)
  exact z_reti hB
theorem lh_whyNotPut_0 {G : z_G} {x1 : Int32} {x2 : Int32} {w w2 : ev_W} (ok : z_Ok G w) (hc : z_K G 149 [.ref 0, .int (x1), .int (x2)] w (.inr 0) w2) : z_K G 387 [.ref 0, .int x1, .int x2, .ref 250] w (.inl (some (.int (Int32.ofNat 1)))) w2 := by
  refine z_con ok.1 (ml := 5) (by decide +kernel) rfl rfl ?_
  show z_R G 387 0 [some (.ref (0)), some (.int (x1)), some (.int (x2)), some (.ref (250)), none] [] w (.inl (some (.int (Int32.ofNat 1)))) w2
  have hB : z_all [z_is 387 0 (zf_aload 0 3 1), z_is 387 1 (zf_cst 1 (Int32.ofNat 0) 2), z_is 387 2 (zf_aload 2 0 3), z_is 387 3 (zf_iload 3 1 4), z_is 387 4 (zf_iload 4 2 5), z_is 387 5 (zf_cv 5 149 2 7 8)] = true := by decide +kernel
  refine z_aload hB rfl (fun hB => ?_)
  refine z_cst hB (fun hB => ?_)
  refine z_aload hB rfl (fun hB => ?_)
  refine z_iload hB rfl (fun hB => ?_)
  refine z_iload hB rfl (fun hB => ?_)
  exact z_callVh hB (as := [.int (x1), .int (x2)]) (a := 0) (rest := [.int (Int32.ofNat 0), .ref (250)]) rfl (b := 4) (by decide +kernel) rfl rfl rfl rfl (zt_n ok (c := 7) (a := 0) (by decide +kernel)).1 (zt_n ok (c := 7) (a := 0) (by decide +kernel)).2.2.1 hc
theorem lh_whyNotPut_1 {G : z_G} {x1 : Int32} {x2 : Int32} {w w2 : ev_W} (ok : z_Ok G w) (hc : z_K G 149 [.ref 0, .int (x1), .int (x2)] w (.inr 1) w2) : z_K G 387 [.ref 0, .int x1, .int x2, .ref 250] w (.inl (some (.int (Int32.ofNat 2)))) w2 := by
  refine z_con ok.1 (ml := 5) (by decide +kernel) rfl rfl ?_
  show z_R G 387 0 [some (.ref (0)), some (.int (x1)), some (.int (x2)), some (.ref (250)), none] [] w (.inl (some (.int (Int32.ofNat 2)))) w2
  have hB : z_all [z_is 387 0 (zf_aload 0 3 1), z_is 387 1 (zf_cst 1 (Int32.ofNat 0) 2), z_is 387 2 (zf_aload 2 0 3), z_is 387 3 (zf_iload 3 1 4), z_is 387 4 (zf_iload 4 2 5), z_is 387 5 (zf_cv 5 149 2 7 8)] = true := by decide +kernel
  refine z_aload hB rfl (fun hB => ?_)
  refine z_cst hB (fun hB => ?_)
  refine z_aload hB rfl (fun hB => ?_)
  refine z_iload hB rfl (fun hB => ?_)
  refine z_iload hB rfl (fun hB => ?_)
  exact z_callVh hB (as := [.int (x1), .int (x2)]) (a := 0) (rest := [.int (Int32.ofNat 0), .ref (250)]) rfl (b := 4) (by decide +kernel) rfl rfl rfl rfl (zt_n ok (c := 7) (a := 0) (by decide +kernel)).1 (zt_n ok (c := 7) (a := 0) (by decide +kernel)).2.2.1 hc
theorem lh_whyNotWash_v {G : z_G} {x1 : Int32} {x2 : Int32} {w w2 : ev_W} (ok : z_Ok G w) (ok2 : z_Ok G w2) {v : Int32} (hc : z_K G 150 [.ref 0, .int (x1), .int (x2)] w (.inl (some (.int v))) w2) : z_K G 388 [.ref 0, .int x1, .int x2, .ref 250] w (.inl (some (.int (Int32.ofNat 0)))) (w_sJ w2 250 0 v.toInt64) := by
  refine z_con ok.1 (ml := 5) (by decide +kernel) rfl rfl ?_
  show z_R G 388 0 [some (.ref (0)), some (.int (x1)), some (.int (x2)), some (.ref (250)), none] [] w (.inl (some (.int (Int32.ofNat 0)))) (w_sJ w2 250 0 v.toInt64)
  have hB : z_all [z_is 388 0 (zf_aload 0 3 1), z_is 388 1 (zf_cst 1 (Int32.ofNat 0) 2), z_is 388 2 (zf_aload 2 0 3), z_is 388 3 (zf_iload 3 1 4), z_is 388 4 (zf_iload 4 2 5), z_is 388 5 (zf_cv 5 150 2 7 8), z_is 388 8 (zf_i2l 8 9), z_is 388 9 (zf_last 9 10), z_is 388 10 (zf_goto 10 25), z_is 388 25 (zf_cst 25 (Int32.ofNat 0) 26), z_is 388 26 (zf_ret 0)] = true := by decide +kernel
  refine z_aload hB rfl (fun hB => ?_)
  refine z_cst hB (fun hB => ?_)
  refine z_aload hB rfl (fun hB => ?_)
  refine z_iload hB rfl (fun hB => ?_)
  refine z_iload hB rfl (fun hB => ?_)
  refine z_callV hB (as := [.int (x1), .int (x2)]) (a := 0) (rest := [.int (Int32.ofNat 0), .ref (250)]) rfl rfl rfl (zt_n ok (c := 7) (a := 0) (by decide +kernel)).1 (zt_n ok (c := 7) (a := 0) (by decide +kernel)).2.2.1 hc (fun hB => ?_)
  refine z_i2l hB (fun hB => ?_)
  refine z_last hB (zt_n ok2 (c := 14) (a := 250) (by decide +kernel)).1 (zt_n ok2 (c := 14) (a := 250) (by decide +kernel)).2.2.1 (by rw [(zt_n ok2 (c := 14) (a := 250) (by decide +kernel)).2.2.2]; decide +kernel) (fun hB => ?_)
  refine z_goto hB (fun hB => ?_)
  refine z_cst hB (fun hB => ?_)
  exact z_reti hB
theorem lh_whyNotWash_0 {G : z_G} {x1 : Int32} {x2 : Int32} {w w2 : ev_W} (ok : z_Ok G w) (hc : z_K G 150 [.ref 0, .int (x1), .int (x2)] w (.inr 0) w2) : z_K G 388 [.ref 0, .int x1, .int x2, .ref 250] w (.inl (some (.int (Int32.ofNat 1)))) w2 := by
  refine z_con ok.1 (ml := 5) (by decide +kernel) rfl rfl ?_
  show z_R G 388 0 [some (.ref (0)), some (.int (x1)), some (.int (x2)), some (.ref (250)), none] [] w (.inl (some (.int (Int32.ofNat 1)))) w2
  have hB : z_all [z_is 388 0 (zf_aload 0 3 1), z_is 388 1 (zf_cst 1 (Int32.ofNat 0) 2), z_is 388 2 (zf_aload 2 0 3), z_is 388 3 (zf_iload 3 1 4), z_is 388 4 (zf_iload 4 2 5), z_is 388 5 (zf_cv 5 150 2 7 8)] = true := by decide +kernel
  refine z_aload hB rfl (fun hB => ?_)
  refine z_cst hB (fun hB => ?_)
  refine z_aload hB rfl (fun hB => ?_)
  refine z_iload hB rfl (fun hB => ?_)
  refine z_iload hB rfl (fun hB => ?_)
  exact z_callVh hB (as := [.int (x1), .int (x2)]) (a := 0) (rest := [.int (Int32.ofNat 0), .ref (250)]) rfl (b := 4) (by decide +kernel) rfl rfl rfl rfl (zt_n ok (c := 7) (a := 0) (by decide +kernel)).1 (zt_n ok (c := 7) (a := 0) (by decide +kernel)).2.2.1 hc
theorem lh_whyNotWash_1 {G : z_G} {x1 : Int32} {x2 : Int32} {w w2 : ev_W} (ok : z_Ok G w) (hc : z_K G 150 [.ref 0, .int (x1), .int (x2)] w (.inr 1) w2) : z_K G 388 [.ref 0, .int x1, .int x2, .ref 250] w (.inl (some (.int (Int32.ofNat 2)))) w2 := by
  refine z_con ok.1 (ml := 5) (by decide +kernel) rfl rfl ?_
  show z_R G 388 0 [some (.ref (0)), some (.int (x1)), some (.int (x2)), some (.ref (250)), none] [] w (.inl (some (.int (Int32.ofNat 2)))) w2
  have hB : z_all [z_is 388 0 (zf_aload 0 3 1), z_is 388 1 (zf_cst 1 (Int32.ofNat 0) 2), z_is 388 2 (zf_aload 2 0 3), z_is 388 3 (zf_iload 3 1 4), z_is 388 4 (zf_iload 4 2 5), z_is 388 5 (zf_cv 5 150 2 7 8)] = true := by decide +kernel
  refine z_aload hB rfl (fun hB => ?_)
  refine z_cst hB (fun hB => ?_)
  refine z_aload hB rfl (fun hB => ?_)
  refine z_iload hB rfl (fun hB => ?_)
  refine z_iload hB rfl (fun hB => ?_)
  exact z_callVh hB (as := [.int (x1), .int (x2)]) (a := 0) (rest := [.int (Int32.ofNat 0), .ref (250)]) rfl (b := 4) (by decide +kernel) rfl rfl rfl rfl (zt_n ok (c := 7) (a := 0) (by decide +kernel)).1 (zt_n ok (c := 7) (a := 0) (by decide +kernel)).2.2.1 hc
theorem lh_whyNotWash_2 {G : z_G} {x1 : Int32} {x2 : Int32} {w w2 : ev_W} (ok : z_Ok G w) (hc : z_K G 150 [.ref 0, .int (x1), .int (x2)] w (.inr 2) w2) : z_K G 388 [.ref 0, .int x1, .int x2, .ref 250] w (.inl (some (.int (Int32.ofNat 3)))) w2 := by
  refine z_con ok.1 (ml := 5) (by decide +kernel) rfl rfl ?_
  show z_R G 388 0 [some (.ref (0)), some (.int (x1)), some (.int (x2)), some (.ref (250)), none] [] w (.inl (some (.int (Int32.ofNat 3)))) w2
  have hB : z_all [z_is 388 0 (zf_aload 0 3 1), z_is 388 1 (zf_cst 1 (Int32.ofNat 0) 2), z_is 388 2 (zf_aload 2 0 3), z_is 388 3 (zf_iload 3 1 4), z_is 388 4 (zf_iload 4 2 5), z_is 388 5 (zf_cv 5 150 2 7 8)] = true := by decide +kernel
  refine z_aload hB rfl (fun hB => ?_)
  refine z_cst hB (fun hB => ?_)
  refine z_aload hB rfl (fun hB => ?_)
  refine z_iload hB rfl (fun hB => ?_)
  refine z_iload hB rfl (fun hB => ?_)
  exact z_callVh hB (as := [.int (x1), .int (x2)]) (a := 0) (rest := [.int (Int32.ofNat 0), .ref (250)]) rfl (b := 4) (by decide +kernel) rfl rfl rfl rfl (zt_n ok (c := 7) (a := 0) (by decide +kernel)).1 (zt_n ok (c := 7) (a := 0) (by decide +kernel)).2.2.1 hc
theorem lh_whyNotIron_v {G : z_G} {x1 : Int32} {x2 : Int32} {w w2 : ev_W} (ok : z_Ok G w) (ok2 : z_Ok G w2) {v : Int32} (hc : z_K G 151 [.ref 0, .int (x1), .int (x2)] w (.inl (some (.int v))) w2) : z_K G 389 [.ref 0, .int x1, .int x2, .ref 250] w (.inl (some (.int (Int32.ofNat 0)))) (w_sJ w2 250 0 v.toInt64) := by
  refine z_con ok.1 (ml := 5) (by decide +kernel) rfl rfl ?_
  show z_R G 389 0 [some (.ref (0)), some (.int (x1)), some (.int (x2)), some (.ref (250)), none] [] w (.inl (some (.int (Int32.ofNat 0)))) (w_sJ w2 250 0 v.toInt64)
  have hB : z_all [z_is 389 0 (zf_aload 0 3 1), z_is 389 1 (zf_cst 1 (Int32.ofNat 0) 2), z_is 389 2 (zf_aload 2 0 3), z_is 389 3 (zf_iload 3 1 4), z_is 389 4 (zf_iload 4 2 5), z_is 389 5 (zf_cv 5 151 2 7 8), z_is 389 8 (zf_i2l 8 9), z_is 389 9 (zf_last 9 10), z_is 389 10 (zf_goto 10 25), z_is 389 25 (zf_cst 25 (Int32.ofNat 0) 26), z_is 389 26 (zf_ret 0)] = true := by decide +kernel
  refine z_aload hB rfl (fun hB => ?_)
  refine z_cst hB (fun hB => ?_)
  refine z_aload hB rfl (fun hB => ?_)
  refine z_iload hB rfl (fun hB => ?_)
  refine z_iload hB rfl (fun hB => ?_)
  refine z_callV hB (as := [.int (x1), .int (x2)]) (a := 0) (rest := [.int (Int32.ofNat 0), .ref (250)]) rfl rfl rfl (zt_n ok (c := 7) (a := 0) (by decide +kernel)).1 (zt_n ok (c := 7) (a := 0) (by decide +kernel)).2.2.1 hc (fun hB => ?_)
  refine z_i2l hB (fun hB => ?_)
  refine z_last hB (zt_n ok2 (c := 14) (a := 250) (by decide +kernel)).1 (zt_n ok2 (c := 14) (a := 250) (by decide +kernel)).2.2.1 (by rw [(zt_n ok2 (c := 14) (a := 250) (by decide +kernel)).2.2.2]; decide +kernel) (fun hB => ?_)
  refine z_goto hB (fun hB => ?_)
  refine z_cst hB (fun hB => ?_)
  exact z_reti hB
theorem lh_whyNotIron_0 {G : z_G} {x1 : Int32} {x2 : Int32} {w w2 : ev_W} (ok : z_Ok G w) (hc : z_K G 151 [.ref 0, .int (x1), .int (x2)] w (.inr 0) w2) : z_K G 389 [.ref 0, .int x1, .int x2, .ref 250] w (.inl (some (.int (Int32.ofNat 1)))) w2 := by
  refine z_con ok.1 (ml := 5) (by decide +kernel) rfl rfl ?_
  show z_R G 389 0 [some (.ref (0)), some (.int (x1)), some (.int (x2)), some (.ref (250)), none] [] w (.inl (some (.int (Int32.ofNat 1)))) w2
  have hB : z_all [z_is 389 0 (zf_aload 0 3 1), z_is 389 1 (zf_cst 1 (Int32.ofNat 0) 2), z_is 389 2 (zf_aload 2 0 3), z_is 389 3 (zf_iload 3 1 4), z_is 389 4 (zf_iload 4 2 5), z_is 389 5 (zf_cv 5 151 2 7 8)] = true := by decide +kernel
  refine z_aload hB rfl (fun hB => ?_)
  refine z_cst hB (fun hB => ?_)
  refine z_aload hB rfl (fun hB => ?_)
  refine z_iload hB rfl (fun hB => ?_)
  refine z_iload hB rfl (fun hB => ?_)
  exact z_callVh hB (as := [.int (x1), .int (x2)]) (a := 0) (rest := [.int (Int32.ofNat 0), .ref (250)]) rfl (b := 4) (by decide +kernel) rfl rfl rfl rfl (zt_n ok (c := 7) (a := 0) (by decide +kernel)).1 (zt_n ok (c := 7) (a := 0) (by decide +kernel)).2.2.1 hc
theorem lh_whyNotIron_1 {G : z_G} {x1 : Int32} {x2 : Int32} {w w2 : ev_W} (ok : z_Ok G w) (hc : z_K G 151 [.ref 0, .int (x1), .int (x2)] w (.inr 1) w2) : z_K G 389 [.ref 0, .int x1, .int x2, .ref 250] w (.inl (some (.int (Int32.ofNat 2)))) w2 := by
  refine z_con ok.1 (ml := 5) (by decide +kernel) rfl rfl ?_
  show z_R G 389 0 [some (.ref (0)), some (.int (x1)), some (.int (x2)), some (.ref (250)), none] [] w (.inl (some (.int (Int32.ofNat 2)))) w2
  have hB : z_all [z_is 389 0 (zf_aload 0 3 1), z_is 389 1 (zf_cst 1 (Int32.ofNat 0) 2), z_is 389 2 (zf_aload 2 0 3), z_is 389 3 (zf_iload 3 1 4), z_is 389 4 (zf_iload 4 2 5), z_is 389 5 (zf_cv 5 151 2 7 8)] = true := by decide +kernel
  refine z_aload hB rfl (fun hB => ?_)
  refine z_cst hB (fun hB => ?_)
  refine z_aload hB rfl (fun hB => ?_)
  refine z_iload hB rfl (fun hB => ?_)
  refine z_iload hB rfl (fun hB => ?_)
  exact z_callVh hB (as := [.int (x1), .int (x2)]) (a := 0) (rest := [.int (Int32.ofNat 0), .ref (250)]) rfl (b := 4) (by decide +kernel) rfl rfl rfl rfl (zt_n ok (c := 7) (a := 0) (by decide +kernel)).1 (zt_n ok (c := 7) (a := 0) (by decide +kernel)).2.2.1 hc
theorem lh_whyNotIron_2 {G : z_G} {x1 : Int32} {x2 : Int32} {w w2 : ev_W} (ok : z_Ok G w) (hc : z_K G 151 [.ref 0, .int (x1), .int (x2)] w (.inr 2) w2) : z_K G 389 [.ref 0, .int x1, .int x2, .ref 250] w (.inl (some (.int (Int32.ofNat 3)))) w2 := by
  refine z_con ok.1 (ml := 5) (by decide +kernel) rfl rfl ?_
  show z_R G 389 0 [some (.ref (0)), some (.int (x1)), some (.int (x2)), some (.ref (250)), none] [] w (.inl (some (.int (Int32.ofNat 3)))) w2
  have hB : z_all [z_is 389 0 (zf_aload 0 3 1), z_is 389 1 (zf_cst 1 (Int32.ofNat 0) 2), z_is 389 2 (zf_aload 2 0 3), z_is 389 3 (zf_iload 3 1 4), z_is 389 4 (zf_iload 4 2 5), z_is 389 5 (zf_cv 5 151 2 7 8)] = true := by decide +kernel
  refine z_aload hB rfl (fun hB => ?_)
  refine z_cst hB (fun hB => ?_)
  refine z_aload hB rfl (fun hB => ?_)
  refine z_iload hB rfl (fun hB => ?_)
  refine z_iload hB rfl (fun hB => ?_)
  exact z_callVh hB (as := [.int (x1), .int (x2)]) (a := 0) (rest := [.int (Int32.ofNat 0), .ref (250)]) rfl (b := 4) (by decide +kernel) rfl rfl rfl rfl (zt_n ok (c := 7) (a := 0) (by decide +kernel)).1 (zt_n ok (c := 7) (a := 0) (by decide +kernel)).2.2.1 hc
theorem lh_whyNotBleach_v {G : z_G} {x1 : Int32} {w w2 : ev_W} (ok : z_Ok G w) (ok2 : z_Ok G w2) {v : Int32} (hc : z_K G 152 [.ref 0, .int (x1)] w (.inl (some (.int v))) w2) : z_K G 390 [.ref 0, .int x1, .ref 250] w (.inl (some (.int (Int32.ofNat 0)))) (w_sJ w2 250 0 v.toInt64) := by
  refine z_con ok.1 (ml := 4) (by decide +kernel) rfl rfl ?_
  show z_R G 390 0 [some (.ref (0)), some (.int (x1)), some (.ref (250)), none] [] w (.inl (some (.int (Int32.ofNat 0)))) (w_sJ w2 250 0 v.toInt64)
  have hB : z_all [z_is 390 0 (zf_aload 0 2 1), z_is 390 1 (zf_cst 1 (Int32.ofNat 0) 2), z_is 390 2 (zf_aload 2 0 3), z_is 390 3 (zf_iload 3 1 4), z_is 390 4 (zf_cv 4 152 1 7 7), z_is 390 7 (zf_i2l 7 8), z_is 390 8 (zf_last 8 9), z_is 390 9 (zf_goto 9 18), z_is 390 18 (zf_cst 18 (Int32.ofNat 0) 19), z_is 390 19 (zf_ret 0)] = true := by decide +kernel
  refine z_aload hB rfl (fun hB => ?_)
  refine z_cst hB (fun hB => ?_)
  refine z_aload hB rfl (fun hB => ?_)
  refine z_iload hB rfl (fun hB => ?_)
  refine z_callV hB (as := [.int (x1)]) (a := 0) (rest := [.int (Int32.ofNat 0), .ref (250)]) rfl rfl rfl (zt_n ok (c := 7) (a := 0) (by decide +kernel)).1 (zt_n ok (c := 7) (a := 0) (by decide +kernel)).2.2.1 hc (fun hB => ?_)
  refine z_i2l hB (fun hB => ?_)
  refine z_last hB (zt_n ok2 (c := 14) (a := 250) (by decide +kernel)).1 (zt_n ok2 (c := 14) (a := 250) (by decide +kernel)).2.2.1 (by rw [(zt_n ok2 (c := 14) (a := 250) (by decide +kernel)).2.2.2]; decide +kernel) (fun hB => ?_)
  refine z_goto hB (fun hB => ?_)
  refine z_cst hB (fun hB => ?_)
  exact z_reti hB
theorem lh_whyNotBleach_0 {G : z_G} {x1 : Int32} {w w2 : ev_W} (ok : z_Ok G w) (hc : z_K G 152 [.ref 0, .int (x1)] w (.inr 0) w2) : z_K G 390 [.ref 0, .int x1, .ref 250] w (.inl (some (.int (Int32.ofNat 1)))) w2 := by
  refine z_con ok.1 (ml := 4) (by decide +kernel) rfl rfl ?_
  show z_R G 390 0 [some (.ref (0)), some (.int (x1)), some (.ref (250)), none] [] w (.inl (some (.int (Int32.ofNat 1)))) w2
  have hB : z_all [z_is 390 0 (zf_aload 0 2 1), z_is 390 1 (zf_cst 1 (Int32.ofNat 0) 2), z_is 390 2 (zf_aload 2 0 3), z_is 390 3 (zf_iload 3 1 4), z_is 390 4 (zf_cv 4 152 1 7 7)] = true := by decide +kernel
  refine z_aload hB rfl (fun hB => ?_)
  refine z_cst hB (fun hB => ?_)
  refine z_aload hB rfl (fun hB => ?_)
  refine z_iload hB rfl (fun hB => ?_)
  exact z_callVh hB (as := [.int (x1)]) (a := 0) (rest := [.int (Int32.ofNat 0), .ref (250)]) rfl (b := 3) (by decide +kernel) rfl rfl rfl rfl (zt_n ok (c := 7) (a := 0) (by decide +kernel)).1 (zt_n ok (c := 7) (a := 0) (by decide +kernel)).2.2.1 hc
theorem lh_whyNotBleach_1 {G : z_G} {x1 : Int32} {w w2 : ev_W} (ok : z_Ok G w) (hc : z_K G 152 [.ref 0, .int (x1)] w (.inr 1) w2) : z_K G 390 [.ref 0, .int x1, .ref 250] w (.inl (some (.int (Int32.ofNat 2)))) w2 := by
  refine z_con ok.1 (ml := 4) (by decide +kernel) rfl rfl ?_
  show z_R G 390 0 [some (.ref (0)), some (.int (x1)), some (.ref (250)), none] [] w (.inl (some (.int (Int32.ofNat 2)))) w2
  have hB : z_all [z_is 390 0 (zf_aload 0 2 1), z_is 390 1 (zf_cst 1 (Int32.ofNat 0) 2), z_is 390 2 (zf_aload 2 0 3), z_is 390 3 (zf_iload 3 1 4), z_is 390 4 (zf_cv 4 152 1 7 7)] = true := by decide +kernel
  refine z_aload hB rfl (fun hB => ?_)
  refine z_cst hB (fun hB => ?_)
  refine z_aload hB rfl (fun hB => ?_)
  refine z_iload hB rfl (fun hB => ?_)
  exact z_callVh hB (as := [.int (x1)]) (a := 0) (rest := [.int (Int32.ofNat 0), .ref (250)]) rfl (b := 3) (by decide +kernel) rfl rfl rfl rfl (zt_n ok (c := 7) (a := 0) (by decide +kernel)).1 (zt_n ok (c := 7) (a := 0) (by decide +kernel)).2.2.1 hc
theorem lh_running_v {G : z_G} {x1 : Int32} {x2 : Int32} {w w2 : ev_W} (ok : z_Ok G w) (ok2 : z_Ok G w2) {v : Int32} (hc : z_K G 153 [.ref 0, .int (x1), .int (x2)] w (.inl (some (.int v))) w2) : z_K G 391 [.ref 0, .int x1, .int x2, .ref 250] w (.inl (some (.int (Int32.ofNat 0)))) (w_sJ w2 250 0 v.toInt64) := by
  refine z_con ok.1 (ml := 5) (by decide +kernel) rfl rfl ?_
  show z_R G 391 0 [some (.ref (0)), some (.int (x1)), some (.int (x2)), some (.ref (250)), none] [] w (.inl (some (.int (Int32.ofNat 0)))) (w_sJ w2 250 0 v.toInt64)
  have hB : z_all [z_is 391 0 (zf_aload 0 3 1), z_is 391 1 (zf_cst 1 (Int32.ofNat 0) 2), z_is 391 2 (zf_aload 2 0 3), z_is 391 3 (zf_iload 3 1 4), z_is 391 4 (zf_iload 4 2 5), z_is 391 5 (zf_cv 5 153 2 7 8), z_is 391 8 (zf_i2l 8 9), z_is 391 9 (zf_last 9 10), z_is 391 10 (zf_goto 10 25), z_is 391 25 (zf_cst 25 (Int32.ofNat 0) 26), z_is 391 26 (zf_ret 0)] = true := by decide +kernel
  refine z_aload hB rfl (fun hB => ?_)
  refine z_cst hB (fun hB => ?_)
  refine z_aload hB rfl (fun hB => ?_)
  refine z_iload hB rfl (fun hB => ?_)
  refine z_iload hB rfl (fun hB => ?_)
  refine z_callV hB (as := [.int (x1), .int (x2)]) (a := 0) (rest := [.int (Int32.ofNat 0), .ref (250)]) rfl rfl rfl (zt_n ok (c := 7) (a := 0) (by decide +kernel)).1 (zt_n ok (c := 7) (a := 0) (by decide +kernel)).2.2.1 hc (fun hB => ?_)
  refine z_i2l hB (fun hB => ?_)
  refine z_last hB (zt_n ok2 (c := 14) (a := 250) (by decide +kernel)).1 (zt_n ok2 (c := 14) (a := 250) (by decide +kernel)).2.2.1 (by rw [(zt_n ok2 (c := 14) (a := 250) (by decide +kernel)).2.2.2]; decide +kernel) (fun hB => ?_)
  refine z_goto hB (fun hB => ?_)
  refine z_cst hB (fun hB => ?_)
  exact z_reti hB
theorem lh_running_0 {G : z_G} {x1 : Int32} {x2 : Int32} {w w2 : ev_W} (ok : z_Ok G w) (hc : z_K G 153 [.ref 0, .int (x1), .int (x2)] w (.inr 0) w2) : z_K G 391 [.ref 0, .int x1, .int x2, .ref 250] w (.inl (some (.int (Int32.ofNat 1)))) w2 := by
  refine z_con ok.1 (ml := 5) (by decide +kernel) rfl rfl ?_
  show z_R G 391 0 [some (.ref (0)), some (.int (x1)), some (.int (x2)), some (.ref (250)), none] [] w (.inl (some (.int (Int32.ofNat 1)))) w2
  have hB : z_all [z_is 391 0 (zf_aload 0 3 1), z_is 391 1 (zf_cst 1 (Int32.ofNat 0) 2), z_is 391 2 (zf_aload 2 0 3), z_is 391 3 (zf_iload 3 1 4), z_is 391 4 (zf_iload 4 2 5), z_is 391 5 (zf_cv 5 153 2 7 8)] = true := by decide +kernel
  refine z_aload hB rfl (fun hB => ?_)
  refine z_cst hB (fun hB => ?_)
  refine z_aload hB rfl (fun hB => ?_)
  refine z_iload hB rfl (fun hB => ?_)
  refine z_iload hB rfl (fun hB => ?_)
  exact z_callVh hB (as := [.int (x1), .int (x2)]) (a := 0) (rest := [.int (Int32.ofNat 0), .ref (250)]) rfl (b := 4) (by decide +kernel) rfl rfl rfl rfl (zt_n ok (c := 7) (a := 0) (by decide +kernel)).1 (zt_n ok (c := 7) (a := 0) (by decide +kernel)).2.2.1 hc
theorem lh_running_1 {G : z_G} {x1 : Int32} {x2 : Int32} {w w2 : ev_W} (ok : z_Ok G w) (hc : z_K G 153 [.ref 0, .int (x1), .int (x2)] w (.inr 1) w2) : z_K G 391 [.ref 0, .int x1, .int x2, .ref 250] w (.inl (some (.int (Int32.ofNat 2)))) w2 := by
  refine z_con ok.1 (ml := 5) (by decide +kernel) rfl rfl ?_
  show z_R G 391 0 [some (.ref (0)), some (.int (x1)), some (.int (x2)), some (.ref (250)), none] [] w (.inl (some (.int (Int32.ofNat 2)))) w2
  have hB : z_all [z_is 391 0 (zf_aload 0 3 1), z_is 391 1 (zf_cst 1 (Int32.ofNat 0) 2), z_is 391 2 (zf_aload 2 0 3), z_is 391 3 (zf_iload 3 1 4), z_is 391 4 (zf_iload 4 2 5), z_is 391 5 (zf_cv 5 153 2 7 8)] = true := by decide +kernel
  refine z_aload hB rfl (fun hB => ?_)
  refine z_cst hB (fun hB => ?_)
  refine z_aload hB rfl (fun hB => ?_)
  refine z_iload hB rfl (fun hB => ?_)
  refine z_iload hB rfl (fun hB => ?_)
  exact z_callVh hB (as := [.int (x1), .int (x2)]) (a := 0) (rest := [.int (Int32.ofNat 0), .ref (250)]) rfl (b := 4) (by decide +kernel) rfl rfl rfl rfl (zt_n ok (c := 7) (a := 0) (by decide +kernel)).1 (zt_n ok (c := 7) (a := 0) (by decide +kernel)).2.2.1 hc
theorem lh_running_2 {G : z_G} {x1 : Int32} {x2 : Int32} {w w2 : ev_W} (ok : z_Ok G w) (hc : z_K G 153 [.ref 0, .int (x1), .int (x2)] w (.inr 2) w2) : z_K G 391 [.ref 0, .int x1, .int x2, .ref 250] w (.inl (some (.int (Int32.ofNat 3)))) w2 := by
  refine z_con ok.1 (ml := 5) (by decide +kernel) rfl rfl ?_
  show z_R G 391 0 [some (.ref (0)), some (.int (x1)), some (.int (x2)), some (.ref (250)), none] [] w (.inl (some (.int (Int32.ofNat 3)))) w2
  have hB : z_all [z_is 391 0 (zf_aload 0 3 1), z_is 391 1 (zf_cst 1 (Int32.ofNat 0) 2), z_is 391 2 (zf_aload 2 0 3), z_is 391 3 (zf_iload 3 1 4), z_is 391 4 (zf_iload 4 2 5), z_is 391 5 (zf_cv 5 153 2 7 8)] = true := by decide +kernel
  refine z_aload hB rfl (fun hB => ?_)
  refine z_cst hB (fun hB => ?_)
  refine z_aload hB rfl (fun hB => ?_)
  refine z_iload hB rfl (fun hB => ?_)
  refine z_iload hB rfl (fun hB => ?_)
  exact z_callVh hB (as := [.int (x1), .int (x2)]) (a := 0) (rest := [.int (Int32.ofNat 0), .ref (250)]) rfl (b := 4) (by decide +kernel) rfl rfl rfl rfl (zt_n ok (c := 7) (a := 0) (by decide +kernel)).1 (zt_n ok (c := 7) (a := 0) (by decide +kernel)).2.2.1 hc
theorem lh_stainedIf_v {G : z_G} {x1 : Int32} {x2 : Int32} {w w2 : ev_W} (ok : z_Ok G w) (ok2 : z_Ok G w2) {v : Int32} (hc : z_K G 154 [.ref 0, .int (x1), .int (x2)] w (.inl (some (.int v))) w2) : z_K G 392 [.ref 0, .int x1, .int x2, .ref 250] w (.inl (some (.int (Int32.ofNat 0)))) (w_sJ w2 250 0 v.toInt64) := by
  refine z_con ok.1 (ml := 5) (by decide +kernel) rfl rfl ?_
  show z_R G 392 0 [some (.ref (0)), some (.int (x1)), some (.int (x2)), some (.ref (250)), none] [] w (.inl (some (.int (Int32.ofNat 0)))) (w_sJ w2 250 0 v.toInt64)
  have hB : z_all [z_is 392 0 (zf_aload 0 3 1), z_is 392 1 (zf_cst 1 (Int32.ofNat 0) 2), z_is 392 2 (zf_aload 2 0 3), z_is 392 3 (zf_iload 3 1 4), z_is 392 4 (zf_iload 4 2 5), z_is 392 5 (zf_cv 5 154 2 7 8), z_is 392 8 (zf_i2l 8 9), z_is 392 9 (zf_last 9 10), z_is 392 10 (zf_goto 10 25), z_is 392 25 (zf_cst 25 (Int32.ofNat 0) 26), z_is 392 26 (zf_ret 0)] = true := by decide +kernel
  refine z_aload hB rfl (fun hB => ?_)
  refine z_cst hB (fun hB => ?_)
  refine z_aload hB rfl (fun hB => ?_)
  refine z_iload hB rfl (fun hB => ?_)
  refine z_iload hB rfl (fun hB => ?_)
  refine z_callV hB (as := [.int (x1), .int (x2)]) (a := 0) (rest := [.int (Int32.ofNat 0), .ref (250)]) rfl rfl rfl (zt_n ok (c := 7) (a := 0) (by decide +kernel)).1 (zt_n ok (c := 7) (a := 0) (by decide +kernel)).2.2.1 hc (fun hB => ?_)
  refine z_i2l hB (fun hB => ?_)
  refine z_last hB (zt_n ok2 (c := 14) (a := 250) (by decide +kernel)).1 (zt_n ok2 (c := 14) (a := 250) (by decide +kernel)).2.2.1 (by rw [(zt_n ok2 (c := 14) (a := 250) (by decide +kernel)).2.2.2]; decide +kernel) (fun hB => ?_)
  refine z_goto hB (fun hB => ?_)
  refine z_cst hB (fun hB => ?_)
  exact z_reti hB
theorem lh_stainedIf_0 {G : z_G} {x1 : Int32} {x2 : Int32} {w w2 : ev_W} (ok : z_Ok G w) (hc : z_K G 154 [.ref 0, .int (x1), .int (x2)] w (.inr 0) w2) : z_K G 392 [.ref 0, .int x1, .int x2, .ref 250] w (.inl (some (.int (Int32.ofNat 1)))) w2 := by
  refine z_con ok.1 (ml := 5) (by decide +kernel) rfl rfl ?_
  show z_R G 392 0 [some (.ref (0)), some (.int (x1)), some (.int (x2)), some (.ref (250)), none] [] w (.inl (some (.int (Int32.ofNat 1)))) w2
  have hB : z_all [z_is 392 0 (zf_aload 0 3 1), z_is 392 1 (zf_cst 1 (Int32.ofNat 0) 2), z_is 392 2 (zf_aload 2 0 3), z_is 392 3 (zf_iload 3 1 4), z_is 392 4 (zf_iload 4 2 5), z_is 392 5 (zf_cv 5 154 2 7 8)] = true := by decide +kernel
  refine z_aload hB rfl (fun hB => ?_)
  refine z_cst hB (fun hB => ?_)
  refine z_aload hB rfl (fun hB => ?_)
  refine z_iload hB rfl (fun hB => ?_)
  refine z_iload hB rfl (fun hB => ?_)
  exact z_callVh hB (as := [.int (x1), .int (x2)]) (a := 0) (rest := [.int (Int32.ofNat 0), .ref (250)]) rfl (b := 4) (by decide +kernel) rfl rfl rfl rfl (zt_n ok (c := 7) (a := 0) (by decide +kernel)).1 (zt_n ok (c := 7) (a := 0) (by decide +kernel)).2.2.1 hc
theorem lh_stainedIf_1 {G : z_G} {x1 : Int32} {x2 : Int32} {w w2 : ev_W} (ok : z_Ok G w) (hc : z_K G 154 [.ref 0, .int (x1), .int (x2)] w (.inr 1) w2) : z_K G 392 [.ref 0, .int x1, .int x2, .ref 250] w (.inl (some (.int (Int32.ofNat 2)))) w2 := by
  refine z_con ok.1 (ml := 5) (by decide +kernel) rfl rfl ?_
  show z_R G 392 0 [some (.ref (0)), some (.int (x1)), some (.int (x2)), some (.ref (250)), none] [] w (.inl (some (.int (Int32.ofNat 2)))) w2
  have hB : z_all [z_is 392 0 (zf_aload 0 3 1), z_is 392 1 (zf_cst 1 (Int32.ofNat 0) 2), z_is 392 2 (zf_aload 2 0 3), z_is 392 3 (zf_iload 3 1 4), z_is 392 4 (zf_iload 4 2 5), z_is 392 5 (zf_cv 5 154 2 7 8)] = true := by decide +kernel
  refine z_aload hB rfl (fun hB => ?_)
  refine z_cst hB (fun hB => ?_)
  refine z_aload hB rfl (fun hB => ?_)
  refine z_iload hB rfl (fun hB => ?_)
  refine z_iload hB rfl (fun hB => ?_)
  exact z_callVh hB (as := [.int (x1), .int (x2)]) (a := 0) (rest := [.int (Int32.ofNat 0), .ref (250)]) rfl (b := 4) (by decide +kernel) rfl rfl rfl rfl (zt_n ok (c := 7) (a := 0) (by decide +kernel)).1 (zt_n ok (c := 7) (a := 0) (by decide +kernel)).2.2.1 hc
theorem lh_stainedIf_2 {G : z_G} {x1 : Int32} {x2 : Int32} {w w2 : ev_W} (ok : z_Ok G w) (hc : z_K G 154 [.ref 0, .int (x1), .int (x2)] w (.inr 2) w2) : z_K G 392 [.ref 0, .int x1, .int x2, .ref 250] w (.inl (some (.int (Int32.ofNat 3)))) w2 := by
  refine z_con ok.1 (ml := 5) (by decide +kernel) rfl rfl ?_
  show z_R G 392 0 [some (.ref (0)), some (.int (x1)), some (.int (x2)), some (.ref (250)), none] [] w (.inl (some (.int (Int32.ofNat 3)))) w2
  have hB : z_all [z_is 392 0 (zf_aload 0 3 1), z_is 392 1 (zf_cst 1 (Int32.ofNat 0) 2), z_is 392 2 (zf_aload 2 0 3), z_is 392 3 (zf_iload 3 1 4), z_is 392 4 (zf_iload 4 2 5), z_is 392 5 (zf_cv 5 154 2 7 8)] = true := by decide +kernel
  refine z_aload hB rfl (fun hB => ?_)
  refine z_cst hB (fun hB => ?_)
  refine z_aload hB rfl (fun hB => ?_)
  refine z_iload hB rfl (fun hB => ?_)
  refine z_iload hB rfl (fun hB => ?_)
  exact z_callVh hB (as := [.int (x1), .int (x2)]) (a := 0) (rest := [.int (Int32.ofNat 0), .ref (250)]) rfl (b := 4) (by decide +kernel) rfl rfl rfl rfl (zt_n ok (c := 7) (a := 0) (by decide +kernel)).1 (zt_n ok (c := 7) (a := 0) (by decide +kernel)).2.2.1 hc
theorem lh_dirtIf_v {G : z_G} {x1 : Int32} {x2 : Int32} {w w2 : ev_W} (ok : z_Ok G w) (ok2 : z_Ok G w2) {v : Int32} (hc : z_K G 155 [.ref 0, .int (x1), .int (x2)] w (.inl (some (.int v))) w2) : z_K G 393 [.ref 0, .int x1, .int x2, .ref 250] w (.inl (some (.int (Int32.ofNat 0)))) (w_sJ w2 250 0 v.toInt64) := by
  refine z_con ok.1 (ml := 5) (by decide +kernel) rfl rfl ?_
  show z_R G 393 0 [some (.ref (0)), some (.int (x1)), some (.int (x2)), some (.ref (250)), none] [] w (.inl (some (.int (Int32.ofNat 0)))) (w_sJ w2 250 0 v.toInt64)
  have hB : z_all [z_is 393 0 (zf_aload 0 3 1), z_is 393 1 (zf_cst 1 (Int32.ofNat 0) 2), z_is 393 2 (zf_aload 2 0 3), z_is 393 3 (zf_iload 3 1 4), z_is 393 4 (zf_iload 4 2 5), z_is 393 5 (zf_cv 5 155 2 7 8), z_is 393 8 (zf_i2l 8 9), z_is 393 9 (zf_last 9 10), z_is 393 10 (zf_goto 10 25), z_is 393 25 (zf_cst 25 (Int32.ofNat 0) 26), z_is 393 26 (zf_ret 0)] = true := by decide +kernel
  refine z_aload hB rfl (fun hB => ?_)
  refine z_cst hB (fun hB => ?_)
  refine z_aload hB rfl (fun hB => ?_)
  refine z_iload hB rfl (fun hB => ?_)
  refine z_iload hB rfl (fun hB => ?_)
  refine z_callV hB (as := [.int (x1), .int (x2)]) (a := 0) (rest := [.int (Int32.ofNat 0), .ref (250)]) rfl rfl rfl (zt_n ok (c := 7) (a := 0) (by decide +kernel)).1 (zt_n ok (c := 7) (a := 0) (by decide +kernel)).2.2.1 hc (fun hB => ?_)
  refine z_i2l hB (fun hB => ?_)
  refine z_last hB (zt_n ok2 (c := 14) (a := 250) (by decide +kernel)).1 (zt_n ok2 (c := 14) (a := 250) (by decide +kernel)).2.2.1 (by rw [(zt_n ok2 (c := 14) (a := 250) (by decide +kernel)).2.2.2]; decide +kernel) (fun hB => ?_)
  refine z_goto hB (fun hB => ?_)
  refine z_cst hB (fun hB => ?_)
  exact z_reti hB
theorem lh_dirtIf_0 {G : z_G} {x1 : Int32} {x2 : Int32} {w w2 : ev_W} (ok : z_Ok G w) (hc : z_K G 155 [.ref 0, .int (x1), .int (x2)] w (.inr 0) w2) : z_K G 393 [.ref 0, .int x1, .int x2, .ref 250] w (.inl (some (.int (Int32.ofNat 1)))) w2 := by
  refine z_con ok.1 (ml := 5) (by decide +kernel) rfl rfl ?_
  show z_R G 393 0 [some (.ref (0)), some (.int (x1)), some (.int (x2)), some (.ref (250)), none] [] w (.inl (some (.int (Int32.ofNat 1)))) w2
  have hB : z_all [z_is 393 0 (zf_aload 0 3 1), z_is 393 1 (zf_cst 1 (Int32.ofNat 0) 2), z_is 393 2 (zf_aload 2 0 3), z_is 393 3 (zf_iload 3 1 4), z_is 393 4 (zf_iload 4 2 5), z_is 393 5 (zf_cv 5 155 2 7 8)] = true := by decide +kernel
  refine z_aload hB rfl (fun hB => ?_)
  refine z_cst hB (fun hB => ?_)
  refine z_aload hB rfl (fun hB => ?_)
  refine z_iload hB rfl (fun hB => ?_)
  refine z_iload hB rfl (fun hB => ?_)
  exact z_callVh hB (as := [.int (x1), .int (x2)]) (a := 0) (rest := [.int (Int32.ofNat 0), .ref (250)]) rfl (b := 4) (by decide +kernel) rfl rfl rfl rfl (zt_n ok (c := 7) (a := 0) (by decide +kernel)).1 (zt_n ok (c := 7) (a := 0) (by decide +kernel)).2.2.1 hc
theorem lh_dirtIf_1 {G : z_G} {x1 : Int32} {x2 : Int32} {w w2 : ev_W} (ok : z_Ok G w) (hc : z_K G 155 [.ref 0, .int (x1), .int (x2)] w (.inr 1) w2) : z_K G 393 [.ref 0, .int x1, .int x2, .ref 250] w (.inl (some (.int (Int32.ofNat 2)))) w2 := by
  refine z_con ok.1 (ml := 5) (by decide +kernel) rfl rfl ?_
  show z_R G 393 0 [some (.ref (0)), some (.int (x1)), some (.int (x2)), some (.ref (250)), none] [] w (.inl (some (.int (Int32.ofNat 2)))) w2
  have hB : z_all [z_is 393 0 (zf_aload 0 3 1), z_is 393 1 (zf_cst 1 (Int32.ofNat 0) 2), z_is 393 2 (zf_aload 2 0 3), z_is 393 3 (zf_iload 3 1 4), z_is 393 4 (zf_iload 4 2 5), z_is 393 5 (zf_cv 5 155 2 7 8)] = true := by decide +kernel
  refine z_aload hB rfl (fun hB => ?_)
  refine z_cst hB (fun hB => ?_)
  refine z_aload hB rfl (fun hB => ?_)
  refine z_iload hB rfl (fun hB => ?_)
  refine z_iload hB rfl (fun hB => ?_)
  exact z_callVh hB (as := [.int (x1), .int (x2)]) (a := 0) (rest := [.int (Int32.ofNat 0), .ref (250)]) rfl (b := 4) (by decide +kernel) rfl rfl rfl rfl (zt_n ok (c := 7) (a := 0) (by decide +kernel)).1 (zt_n ok (c := 7) (a := 0) (by decide +kernel)).2.2.1 hc
theorem lh_dirtIf_2 {G : z_G} {x1 : Int32} {x2 : Int32} {w w2 : ev_W} (ok : z_Ok G w) (hc : z_K G 155 [.ref 0, .int (x1), .int (x2)] w (.inr 2) w2) : z_K G 393 [.ref 0, .int x1, .int x2, .ref 250] w (.inl (some (.int (Int32.ofNat 3)))) w2 := by
  refine z_con ok.1 (ml := 5) (by decide +kernel) rfl rfl ?_
  show z_R G 393 0 [some (.ref (0)), some (.int (x1)), some (.int (x2)), some (.ref (250)), none] [] w (.inl (some (.int (Int32.ofNat 3)))) w2
  have hB : z_all [z_is 393 0 (zf_aload 0 3 1), z_is 393 1 (zf_cst 1 (Int32.ofNat 0) 2), z_is 393 2 (zf_aload 2 0 3), z_is 393 3 (zf_iload 3 1 4), z_is 393 4 (zf_iload 4 2 5), z_is 393 5 (zf_cv 5 155 2 7 8)] = true := by decide +kernel
  refine z_aload hB rfl (fun hB => ?_)
  refine z_cst hB (fun hB => ?_)
  refine z_aload hB rfl (fun hB => ?_)
  refine z_iload hB rfl (fun hB => ?_)
  refine z_iload hB rfl (fun hB => ?_)
  exact z_callVh hB (as := [.int (x1), .int (x2)]) (a := 0) (rest := [.int (Int32.ofNat 0), .ref (250)]) rfl (b := 4) (by decide +kernel) rfl rfl rfl rfl (zt_n ok (c := 7) (a := 0) (by decide +kernel)).1 (zt_n ok (c := 7) (a := 0) (by decide +kernel)).2.2.1 hc
theorem lh_bestHeat_v {G : z_G} {x1 : Int32} {w w2 : ev_W} (ok : z_Ok G w) (ok2 : z_Ok G w2) {v : Int32} (hc : z_K G 156 [.ref 0, .int (x1)] w (.inl (some (.int v))) w2) : z_K G 394 [.ref 0, .int x1, .ref 250] w (.inl (some (.int (Int32.ofNat 0)))) (w_sJ w2 250 0 v.toInt64) := by
  refine z_con ok.1 (ml := 4) (by decide +kernel) rfl rfl ?_
  show z_R G 394 0 [some (.ref (0)), some (.int (x1)), some (.ref (250)), none] [] w (.inl (some (.int (Int32.ofNat 0)))) (w_sJ w2 250 0 v.toInt64)
  have hB : z_all [z_is 394 0 (zf_aload 0 2 1), z_is 394 1 (zf_cst 1 (Int32.ofNat 0) 2), z_is 394 2 (zf_aload 2 0 3), z_is 394 3 (zf_iload 3 1 4), z_is 394 4 (zf_cv 4 156 1 7 7), z_is 394 7 (zf_i2l 7 8), z_is 394 8 (zf_last 8 9), z_is 394 9 (zf_goto 9 18), z_is 394 18 (zf_cst 18 (Int32.ofNat 0) 19), z_is 394 19 (zf_ret 0)] = true := by decide +kernel
  refine z_aload hB rfl (fun hB => ?_)
  refine z_cst hB (fun hB => ?_)
  refine z_aload hB rfl (fun hB => ?_)
  refine z_iload hB rfl (fun hB => ?_)
  refine z_callV hB (as := [.int (x1)]) (a := 0) (rest := [.int (Int32.ofNat 0), .ref (250)]) rfl rfl rfl (zt_n ok (c := 7) (a := 0) (by decide +kernel)).1 (zt_n ok (c := 7) (a := 0) (by decide +kernel)).2.2.1 hc (fun hB => ?_)
  refine z_i2l hB (fun hB => ?_)
  refine z_last hB (zt_n ok2 (c := 14) (a := 250) (by decide +kernel)).1 (zt_n ok2 (c := 14) (a := 250) (by decide +kernel)).2.2.1 (by rw [(zt_n ok2 (c := 14) (a := 250) (by decide +kernel)).2.2.2]; decide +kernel) (fun hB => ?_)
  refine z_goto hB (fun hB => ?_)
  refine z_cst hB (fun hB => ?_)
  exact z_reti hB
theorem lh_bestHeat_0 {G : z_G} {x1 : Int32} {w w2 : ev_W} (ok : z_Ok G w) (hc : z_K G 156 [.ref 0, .int (x1)] w (.inr 0) w2) : z_K G 394 [.ref 0, .int x1, .ref 250] w (.inl (some (.int (Int32.ofNat 1)))) w2 := by
  refine z_con ok.1 (ml := 4) (by decide +kernel) rfl rfl ?_
  show z_R G 394 0 [some (.ref (0)), some (.int (x1)), some (.ref (250)), none] [] w (.inl (some (.int (Int32.ofNat 1)))) w2
  have hB : z_all [z_is 394 0 (zf_aload 0 2 1), z_is 394 1 (zf_cst 1 (Int32.ofNat 0) 2), z_is 394 2 (zf_aload 2 0 3), z_is 394 3 (zf_iload 3 1 4), z_is 394 4 (zf_cv 4 156 1 7 7)] = true := by decide +kernel
  refine z_aload hB rfl (fun hB => ?_)
  refine z_cst hB (fun hB => ?_)
  refine z_aload hB rfl (fun hB => ?_)
  refine z_iload hB rfl (fun hB => ?_)
  exact z_callVh hB (as := [.int (x1)]) (a := 0) (rest := [.int (Int32.ofNat 0), .ref (250)]) rfl (b := 3) (by decide +kernel) rfl rfl rfl rfl (zt_n ok (c := 7) (a := 0) (by decide +kernel)).1 (zt_n ok (c := 7) (a := 0) (by decide +kernel)).2.2.1 hc
theorem lh_bestHeat_1 {G : z_G} {x1 : Int32} {w w2 : ev_W} (ok : z_Ok G w) (hc : z_K G 156 [.ref 0, .int (x1)] w (.inr 1) w2) : z_K G 394 [.ref 0, .int x1, .ref 250] w (.inl (some (.int (Int32.ofNat 2)))) w2 := by
  refine z_con ok.1 (ml := 4) (by decide +kernel) rfl rfl ?_
  show z_R G 394 0 [some (.ref (0)), some (.int (x1)), some (.ref (250)), none] [] w (.inl (some (.int (Int32.ofNat 2)))) w2
  have hB : z_all [z_is 394 0 (zf_aload 0 2 1), z_is 394 1 (zf_cst 1 (Int32.ofNat 0) 2), z_is 394 2 (zf_aload 2 0 3), z_is 394 3 (zf_iload 3 1 4), z_is 394 4 (zf_cv 4 156 1 7 7)] = true := by decide +kernel
  refine z_aload hB rfl (fun hB => ?_)
  refine z_cst hB (fun hB => ?_)
  refine z_aload hB rfl (fun hB => ?_)
  refine z_iload hB rfl (fun hB => ?_)
  exact z_callVh hB (as := [.int (x1)]) (a := 0) (rest := [.int (Int32.ofNat 0), .ref (250)]) rfl (b := 3) (by decide +kernel) rfl rfl rfl rfl (zt_n ok (c := 7) (a := 0) (by decide +kernel)).1 (zt_n ok (c := 7) (a := 0) (by decide +kernel)).2.2.1 hc
theorem lh_firstSafe_v {G : z_G} {x1 : Int32} {x2 : Int32} {w w2 : ev_W} (ok : z_Ok G w) (ok2 : z_Ok G w2) {v : Int32} (hc : z_K G 157 [.ref 0, .int (x1), .int (x2)] w (.inl (some (.int v))) w2) : z_K G 395 [.ref 0, .int x1, .int x2, .ref 250] w (.inl (some (.int (Int32.ofNat 0)))) (w_sJ w2 250 0 v.toInt64) := by
  refine z_con ok.1 (ml := 5) (by decide +kernel) rfl rfl ?_
  show z_R G 395 0 [some (.ref (0)), some (.int (x1)), some (.int (x2)), some (.ref (250)), none] [] w (.inl (some (.int (Int32.ofNat 0)))) (w_sJ w2 250 0 v.toInt64)
  have hB : z_all [z_is 395 0 (zf_aload 0 3 1), z_is 395 1 (zf_cst 1 (Int32.ofNat 0) 2), z_is 395 2 (zf_aload 2 0 3), z_is 395 3 (zf_iload 3 1 4), z_is 395 4 (zf_iload 4 2 5), z_is 395 5 (zf_cv 5 157 2 7 8), z_is 395 8 (zf_i2l 8 9), z_is 395 9 (zf_last 9 10), z_is 395 10 (zf_goto 10 25), z_is 395 25 (zf_cst 25 (Int32.ofNat 0) 26), z_is 395 26 (zf_ret 0)] = true := by decide +kernel
  refine z_aload hB rfl (fun hB => ?_)
  refine z_cst hB (fun hB => ?_)
  refine z_aload hB rfl (fun hB => ?_)
  refine z_iload hB rfl (fun hB => ?_)
  refine z_iload hB rfl (fun hB => ?_)
  refine z_callV hB (as := [.int (x1), .int (x2)]) (a := 0) (rest := [.int (Int32.ofNat 0), .ref (250)]) rfl rfl rfl (zt_n ok (c := 7) (a := 0) (by decide +kernel)).1 (zt_n ok (c := 7) (a := 0) (by decide +kernel)).2.2.1 hc (fun hB => ?_)
  refine z_i2l hB (fun hB => ?_)
  refine z_last hB (zt_n ok2 (c := 14) (a := 250) (by decide +kernel)).1 (zt_n ok2 (c := 14) (a := 250) (by decide +kernel)).2.2.1 (by rw [(zt_n ok2 (c := 14) (a := 250) (by decide +kernel)).2.2.2]; decide +kernel) (fun hB => ?_)
  refine z_goto hB (fun hB => ?_)
  refine z_cst hB (fun hB => ?_)
  exact z_reti hB
theorem lh_firstSafe_0 {G : z_G} {x1 : Int32} {x2 : Int32} {w w2 : ev_W} (ok : z_Ok G w) (hc : z_K G 157 [.ref 0, .int (x1), .int (x2)] w (.inr 0) w2) : z_K G 395 [.ref 0, .int x1, .int x2, .ref 250] w (.inl (some (.int (Int32.ofNat 1)))) w2 := by
  refine z_con ok.1 (ml := 5) (by decide +kernel) rfl rfl ?_
  show z_R G 395 0 [some (.ref (0)), some (.int (x1)), some (.int (x2)), some (.ref (250)), none] [] w (.inl (some (.int (Int32.ofNat 1)))) w2
  have hB : z_all [z_is 395 0 (zf_aload 0 3 1), z_is 395 1 (zf_cst 1 (Int32.ofNat 0) 2), z_is 395 2 (zf_aload 2 0 3), z_is 395 3 (zf_iload 3 1 4), z_is 395 4 (zf_iload 4 2 5), z_is 395 5 (zf_cv 5 157 2 7 8)] = true := by decide +kernel
  refine z_aload hB rfl (fun hB => ?_)
  refine z_cst hB (fun hB => ?_)
  refine z_aload hB rfl (fun hB => ?_)
  refine z_iload hB rfl (fun hB => ?_)
  refine z_iload hB rfl (fun hB => ?_)
  exact z_callVh hB (as := [.int (x1), .int (x2)]) (a := 0) (rest := [.int (Int32.ofNat 0), .ref (250)]) rfl (b := 4) (by decide +kernel) rfl rfl rfl rfl (zt_n ok (c := 7) (a := 0) (by decide +kernel)).1 (zt_n ok (c := 7) (a := 0) (by decide +kernel)).2.2.1 hc
theorem lh_firstSafe_1 {G : z_G} {x1 : Int32} {x2 : Int32} {w w2 : ev_W} (ok : z_Ok G w) (hc : z_K G 157 [.ref 0, .int (x1), .int (x2)] w (.inr 1) w2) : z_K G 395 [.ref 0, .int x1, .int x2, .ref 250] w (.inl (some (.int (Int32.ofNat 2)))) w2 := by
  refine z_con ok.1 (ml := 5) (by decide +kernel) rfl rfl ?_
  show z_R G 395 0 [some (.ref (0)), some (.int (x1)), some (.int (x2)), some (.ref (250)), none] [] w (.inl (some (.int (Int32.ofNat 2)))) w2
  have hB : z_all [z_is 395 0 (zf_aload 0 3 1), z_is 395 1 (zf_cst 1 (Int32.ofNat 0) 2), z_is 395 2 (zf_aload 2 0 3), z_is 395 3 (zf_iload 3 1 4), z_is 395 4 (zf_iload 4 2 5), z_is 395 5 (zf_cv 5 157 2 7 8)] = true := by decide +kernel
  refine z_aload hB rfl (fun hB => ?_)
  refine z_cst hB (fun hB => ?_)
  refine z_aload hB rfl (fun hB => ?_)
  refine z_iload hB rfl (fun hB => ?_)
  refine z_iload hB rfl (fun hB => ?_)
  exact z_callVh hB (as := [.int (x1), .int (x2)]) (a := 0) (rest := [.int (Int32.ofNat 0), .ref (250)]) rfl (b := 4) (by decide +kernel) rfl rfl rfl rfl (zt_n ok (c := 7) (a := 0) (by decide +kernel)).1 (zt_n ok (c := 7) (a := 0) (by decide +kernel)).2.2.1 hc
theorem lh_firstSafe_2 {G : z_G} {x1 : Int32} {x2 : Int32} {w w2 : ev_W} (ok : z_Ok G w) (hc : z_K G 157 [.ref 0, .int (x1), .int (x2)] w (.inr 2) w2) : z_K G 395 [.ref 0, .int x1, .int x2, .ref 250] w (.inl (some (.int (Int32.ofNat 3)))) w2 := by
  refine z_con ok.1 (ml := 5) (by decide +kernel) rfl rfl ?_
  show z_R G 395 0 [some (.ref (0)), some (.int (x1)), some (.int (x2)), some (.ref (250)), none] [] w (.inl (some (.int (Int32.ofNat 3)))) w2
  have hB : z_all [z_is 395 0 (zf_aload 0 3 1), z_is 395 1 (zf_cst 1 (Int32.ofNat 0) 2), z_is 395 2 (zf_aload 2 0 3), z_is 395 3 (zf_iload 3 1 4), z_is 395 4 (zf_iload 4 2 5), z_is 395 5 (zf_cv 5 157 2 7 8)] = true := by decide +kernel
  refine z_aload hB rfl (fun hB => ?_)
  refine z_cst hB (fun hB => ?_)
  refine z_aload hB rfl (fun hB => ?_)
  refine z_iload hB rfl (fun hB => ?_)
  refine z_iload hB rfl (fun hB => ?_)
  exact z_callVh hB (as := [.int (x1), .int (x2)]) (a := 0) (rest := [.int (Int32.ofNat 0), .ref (250)]) rfl (b := 4) (by decide +kernel) rfl rfl rfl rfl (zt_n ok (c := 7) (a := 0) (by decide +kernel)).1 (zt_n ok (c := 7) (a := 0) (by decide +kernel)).2.2.1 hc
theorem lh_doNotMix_v {G : z_G} {x1 : Int32} {x2 : Int32} {x3 : Int32} {w w2 : ev_W} (ok : z_Ok G w) (ok2 : z_Ok G w2) {v : Int32} (hc : z_K G 158 [.ref 0, .int (x1), .int (x2), .int (x3)] w (.inl (some (.int v))) w2) : z_K G 396 [.ref 0, .int x1, .int x2, .int x3, .ref 250] w (.inl (some (.int (Int32.ofNat 0)))) (w_sJ w2 250 0 v.toInt64) := by
  refine z_con ok.1 (ml := 6) (by decide +kernel) rfl rfl ?_
  show z_R G 396 0 [some (.ref (0)), some (.int (x1)), some (.int (x2)), some (.int (x3)), some (.ref (250)), none] [] w (.inl (some (.int (Int32.ofNat 0)))) (w_sJ w2 250 0 v.toInt64)
  have hB : z_all [z_is 396 0 (zf_aload 0 4 2), z_is 396 2 (zf_cst 2 (Int32.ofNat 0) 3), z_is 396 3 (zf_aload 3 0 4), z_is 396 4 (zf_iload 4 1 5), z_is 396 5 (zf_iload 5 2 6), z_is 396 6 (zf_iload 6 3 7), z_is 396 7 (zf_cv 7 158 3 7 10), z_is 396 10 (zf_i2l 10 11), z_is 396 11 (zf_last 11 12), z_is 396 12 (zf_goto 12 27), z_is 396 27 (zf_cst 27 (Int32.ofNat 0) 28), z_is 396 28 (zf_ret 0)] = true := by decide +kernel
  refine z_aload hB rfl (fun hB => ?_)
  refine z_cst hB (fun hB => ?_)
  refine z_aload hB rfl (fun hB => ?_)
  refine z_iload hB rfl (fun hB => ?_)
  refine z_iload hB rfl (fun hB => ?_)
  refine z_iload hB rfl (fun hB => ?_)
  refine z_callV hB (as := [.int (x1), .int (x2), .int (x3)]) (a := 0) (rest := [.int (Int32.ofNat 0), .ref (250)]) rfl rfl rfl (zt_n ok (c := 7) (a := 0) (by decide +kernel)).1 (zt_n ok (c := 7) (a := 0) (by decide +kernel)).2.2.1 hc (fun hB => ?_)
  refine z_i2l hB (fun hB => ?_)
  refine z_last hB (zt_n ok2 (c := 14) (a := 250) (by decide +kernel)).1 (zt_n ok2 (c := 14) (a := 250) (by decide +kernel)).2.2.1 (by rw [(zt_n ok2 (c := 14) (a := 250) (by decide +kernel)).2.2.2]; decide +kernel) (fun hB => ?_)
  refine z_goto hB (fun hB => ?_)
  refine z_cst hB (fun hB => ?_)
  exact z_reti hB
theorem lh_doNotMix_0 {G : z_G} {x1 : Int32} {x2 : Int32} {x3 : Int32} {w w2 : ev_W} (ok : z_Ok G w) (hc : z_K G 158 [.ref 0, .int (x1), .int (x2), .int (x3)] w (.inr 0) w2) : z_K G 396 [.ref 0, .int x1, .int x2, .int x3, .ref 250] w (.inl (some (.int (Int32.ofNat 1)))) w2 := by
  refine z_con ok.1 (ml := 6) (by decide +kernel) rfl rfl ?_
  show z_R G 396 0 [some (.ref (0)), some (.int (x1)), some (.int (x2)), some (.int (x3)), some (.ref (250)), none] [] w (.inl (some (.int (Int32.ofNat 1)))) w2
  have hB : z_all [z_is 396 0 (zf_aload 0 4 2), z_is 396 2 (zf_cst 2 (Int32.ofNat 0) 3), z_is 396 3 (zf_aload 3 0 4), z_is 396 4 (zf_iload 4 1 5), z_is 396 5 (zf_iload 5 2 6), z_is 396 6 (zf_iload 6 3 7), z_is 396 7 (zf_cv 7 158 3 7 10)] = true := by decide +kernel
  refine z_aload hB rfl (fun hB => ?_)
  refine z_cst hB (fun hB => ?_)
  refine z_aload hB rfl (fun hB => ?_)
  refine z_iload hB rfl (fun hB => ?_)
  refine z_iload hB rfl (fun hB => ?_)
  refine z_iload hB rfl (fun hB => ?_)
  exact z_callVh hB (as := [.int (x1), .int (x2), .int (x3)]) (a := 0) (rest := [.int (Int32.ofNat 0), .ref (250)]) rfl (b := 5) (by decide +kernel) rfl rfl rfl rfl (zt_n ok (c := 7) (a := 0) (by decide +kernel)).1 (zt_n ok (c := 7) (a := 0) (by decide +kernel)).2.2.1 hc
theorem lh_doNotMix_1 {G : z_G} {x1 : Int32} {x2 : Int32} {x3 : Int32} {w w2 : ev_W} (ok : z_Ok G w) (hc : z_K G 158 [.ref 0, .int (x1), .int (x2), .int (x3)] w (.inr 1) w2) : z_K G 396 [.ref 0, .int x1, .int x2, .int x3, .ref 250] w (.inl (some (.int (Int32.ofNat 2)))) w2 := by
  refine z_con ok.1 (ml := 6) (by decide +kernel) rfl rfl ?_
  show z_R G 396 0 [some (.ref (0)), some (.int (x1)), some (.int (x2)), some (.int (x3)), some (.ref (250)), none] [] w (.inl (some (.int (Int32.ofNat 2)))) w2
  have hB : z_all [z_is 396 0 (zf_aload 0 4 2), z_is 396 2 (zf_cst 2 (Int32.ofNat 0) 3), z_is 396 3 (zf_aload 3 0 4), z_is 396 4 (zf_iload 4 1 5), z_is 396 5 (zf_iload 5 2 6), z_is 396 6 (zf_iload 6 3 7), z_is 396 7 (zf_cv 7 158 3 7 10)] = true := by decide +kernel
  refine z_aload hB rfl (fun hB => ?_)
  refine z_cst hB (fun hB => ?_)
  refine z_aload hB rfl (fun hB => ?_)
  refine z_iload hB rfl (fun hB => ?_)
  refine z_iload hB rfl (fun hB => ?_)
  refine z_iload hB rfl (fun hB => ?_)
  exact z_callVh hB (as := [.int (x1), .int (x2), .int (x3)]) (a := 0) (rest := [.int (Int32.ofNat 0), .ref (250)]) rfl (b := 5) (by decide +kernel) rfl rfl rfl rfl (zt_n ok (c := 7) (a := 0) (by decide +kernel)).1 (zt_n ok (c := 7) (a := 0) (by decide +kernel)).2.2.1 hc
theorem lh_doNotMix_2 {G : z_G} {x1 : Int32} {x2 : Int32} {x3 : Int32} {w w2 : ev_W} (ok : z_Ok G w) (hc : z_K G 158 [.ref 0, .int (x1), .int (x2), .int (x3)] w (.inr 2) w2) : z_K G 396 [.ref 0, .int x1, .int x2, .int x3, .ref 250] w (.inl (some (.int (Int32.ofNat 3)))) w2 := by
  refine z_con ok.1 (ml := 6) (by decide +kernel) rfl rfl ?_
  show z_R G 396 0 [some (.ref (0)), some (.int (x1)), some (.int (x2)), some (.int (x3)), some (.ref (250)), none] [] w (.inl (some (.int (Int32.ofNat 3)))) w2
  have hB : z_all [z_is 396 0 (zf_aload 0 4 2), z_is 396 2 (zf_cst 2 (Int32.ofNat 0) 3), z_is 396 3 (zf_aload 3 0 4), z_is 396 4 (zf_iload 4 1 5), z_is 396 5 (zf_iload 5 2 6), z_is 396 6 (zf_iload 6 3 7), z_is 396 7 (zf_cv 7 158 3 7 10)] = true := by decide +kernel
  refine z_aload hB rfl (fun hB => ?_)
  refine z_cst hB (fun hB => ?_)
  refine z_aload hB rfl (fun hB => ?_)
  refine z_iload hB rfl (fun hB => ?_)
  refine z_iload hB rfl (fun hB => ?_)
  refine z_iload hB rfl (fun hB => ?_)
  exact z_callVh hB (as := [.int (x1), .int (x2), .int (x3)]) (a := 0) (rest := [.int (Int32.ofNat 0), .ref (250)]) rfl (b := 5) (by decide +kernel) rfl rfl rfl rfl (zt_n ok (c := 7) (a := 0) (by decide +kernel)).1 (zt_n ok (c := 7) (a := 0) (by decide +kernel)).2.2.1 hc
theorem lh_groups_v {G : z_G} {x1 : Int32} {w w2 : ev_W} (ok : z_Ok G w) (ok2 : z_Ok G w2) {v : Int32} (hc : z_K G 159 [.ref 0, .int (x1)] w (.inl (some (.int v))) w2) : z_K G 397 [.ref 0, .int x1, .ref 250] w (.inl (some (.int (Int32.ofNat 0)))) (w_sJ w2 250 0 v.toInt64) := by
  refine z_con ok.1 (ml := 4) (by decide +kernel) rfl rfl ?_
  show z_R G 397 0 [some (.ref (0)), some (.int (x1)), some (.ref (250)), none] [] w (.inl (some (.int (Int32.ofNat 0)))) (w_sJ w2 250 0 v.toInt64)
  have hB : z_all [z_is 397 0 (zf_aload 0 2 1), z_is 397 1 (zf_cst 1 (Int32.ofNat 0) 2), z_is 397 2 (zf_aload 2 0 3), z_is 397 3 (zf_iload 3 1 4), z_is 397 4 (zf_cv 4 159 1 7 7), z_is 397 7 (zf_i2l 7 8), z_is 397 8 (zf_last 8 9), z_is 397 9 (zf_goto 9 18), z_is 397 18 (zf_cst 18 (Int32.ofNat 0) 19), z_is 397 19 (zf_ret 0)] = true := by decide +kernel
  refine z_aload hB rfl (fun hB => ?_)
  refine z_cst hB (fun hB => ?_)
  refine z_aload hB rfl (fun hB => ?_)
  refine z_iload hB rfl (fun hB => ?_)
  refine z_callV hB (as := [.int (x1)]) (a := 0) (rest := [.int (Int32.ofNat 0), .ref (250)]) rfl rfl rfl (zt_n ok (c := 7) (a := 0) (by decide +kernel)).1 (zt_n ok (c := 7) (a := 0) (by decide +kernel)).2.2.1 hc (fun hB => ?_)
  refine z_i2l hB (fun hB => ?_)
  refine z_last hB (zt_n ok2 (c := 14) (a := 250) (by decide +kernel)).1 (zt_n ok2 (c := 14) (a := 250) (by decide +kernel)).2.2.1 (by rw [(zt_n ok2 (c := 14) (a := 250) (by decide +kernel)).2.2.2]; decide +kernel) (fun hB => ?_)
  refine z_goto hB (fun hB => ?_)
  refine z_cst hB (fun hB => ?_)
  exact z_reti hB
theorem lh_groups_0 {G : z_G} {x1 : Int32} {w w2 : ev_W} (ok : z_Ok G w) (hc : z_K G 159 [.ref 0, .int (x1)] w (.inr 0) w2) : z_K G 397 [.ref 0, .int x1, .ref 250] w (.inl (some (.int (Int32.ofNat 1)))) w2 := by
  refine z_con ok.1 (ml := 4) (by decide +kernel) rfl rfl ?_
  show z_R G 397 0 [some (.ref (0)), some (.int (x1)), some (.ref (250)), none] [] w (.inl (some (.int (Int32.ofNat 1)))) w2
  have hB : z_all [z_is 397 0 (zf_aload 0 2 1), z_is 397 1 (zf_cst 1 (Int32.ofNat 0) 2), z_is 397 2 (zf_aload 2 0 3), z_is 397 3 (zf_iload 3 1 4), z_is 397 4 (zf_cv 4 159 1 7 7)] = true := by decide +kernel
  refine z_aload hB rfl (fun hB => ?_)
  refine z_cst hB (fun hB => ?_)
  refine z_aload hB rfl (fun hB => ?_)
  refine z_iload hB rfl (fun hB => ?_)
  exact z_callVh hB (as := [.int (x1)]) (a := 0) (rest := [.int (Int32.ofNat 0), .ref (250)]) rfl (b := 3) (by decide +kernel) rfl rfl rfl rfl (zt_n ok (c := 7) (a := 0) (by decide +kernel)).1 (zt_n ok (c := 7) (a := 0) (by decide +kernel)).2.2.1 hc
theorem lh_groups_2 {G : z_G} {x1 : Int32} {w w2 : ev_W} (ok : z_Ok G w) (hc : z_K G 159 [.ref 0, .int (x1)] w (.inr 2) w2) : z_K G 397 [.ref 0, .int x1, .ref 250] w (.inl (some (.int (Int32.ofNat 2)))) w2 := by
  refine z_con ok.1 (ml := 4) (by decide +kernel) rfl rfl ?_
  show z_R G 397 0 [some (.ref (0)), some (.int (x1)), some (.ref (250)), none] [] w (.inl (some (.int (Int32.ofNat 2)))) w2
  have hB : z_all [z_is 397 0 (zf_aload 0 2 1), z_is 397 1 (zf_cst 1 (Int32.ofNat 0) 2), z_is 397 2 (zf_aload 2 0 3), z_is 397 3 (zf_iload 3 1 4), z_is 397 4 (zf_cv 4 159 1 7 7)] = true := by decide +kernel
  refine z_aload hB rfl (fun hB => ?_)
  refine z_cst hB (fun hB => ?_)
  refine z_aload hB rfl (fun hB => ?_)
  refine z_iload hB rfl (fun hB => ?_)
  exact z_callVh hB (as := [.int (x1)]) (a := 0) (rest := [.int (Int32.ofNat 0), .ref (250)]) rfl (b := 3) (by decide +kernel) rfl rfl rfl rfl (zt_n ok (c := 7) (a := 0) (by decide +kernel)).1 (zt_n ok (c := 7) (a := 0) (by decide +kernel)).2.2.1 hc
theorem lh_purest_v {G : z_G} {x1 : Int32} {w w2 : ev_W} (ok : z_Ok G w) (ok2 : z_Ok G w2) {v : Int32} (hc : z_K G 160 [.ref 0, .int (x1)] w (.inl (some (.int v))) w2) : z_K G 398 [.ref 0, .int x1, .ref 250] w (.inl (some (.int (Int32.ofNat 0)))) (w_sJ w2 250 0 v.toInt64) := by
  refine z_con ok.1 (ml := 4) (by decide +kernel) rfl rfl ?_
  show z_R G 398 0 [some (.ref (0)), some (.int (x1)), some (.ref (250)), none] [] w (.inl (some (.int (Int32.ofNat 0)))) (w_sJ w2 250 0 v.toInt64)
  have hB : z_all [z_is 398 0 (zf_aload 0 2 1), z_is 398 1 (zf_cst 1 (Int32.ofNat 0) 2), z_is 398 2 (zf_aload 2 0 3), z_is 398 3 (zf_iload 3 1 4), z_is 398 4 (zf_cv 4 160 1 7 7), z_is 398 7 (zf_i2l 7 8), z_is 398 8 (zf_last 8 9), z_is 398 9 (zf_goto 9 18), z_is 398 18 (zf_cst 18 (Int32.ofNat 0) 19), z_is 398 19 (zf_ret 0)] = true := by decide +kernel
  refine z_aload hB rfl (fun hB => ?_)
  refine z_cst hB (fun hB => ?_)
  refine z_aload hB rfl (fun hB => ?_)
  refine z_iload hB rfl (fun hB => ?_)
  refine z_callV hB (as := [.int (x1)]) (a := 0) (rest := [.int (Int32.ofNat 0), .ref (250)]) rfl rfl rfl (zt_n ok (c := 7) (a := 0) (by decide +kernel)).1 (zt_n ok (c := 7) (a := 0) (by decide +kernel)).2.2.1 hc (fun hB => ?_)
  refine z_i2l hB (fun hB => ?_)
  refine z_last hB (zt_n ok2 (c := 14) (a := 250) (by decide +kernel)).1 (zt_n ok2 (c := 14) (a := 250) (by decide +kernel)).2.2.1 (by rw [(zt_n ok2 (c := 14) (a := 250) (by decide +kernel)).2.2.2]; decide +kernel) (fun hB => ?_)
  refine z_goto hB (fun hB => ?_)
  refine z_cst hB (fun hB => ?_)
  exact z_reti hB
theorem lh_purest_0 {G : z_G} {x1 : Int32} {w w2 : ev_W} (ok : z_Ok G w) (hc : z_K G 160 [.ref 0, .int (x1)] w (.inr 0) w2) : z_K G 398 [.ref 0, .int x1, .ref 250] w (.inl (some (.int (Int32.ofNat 1)))) w2 := by
  refine z_con ok.1 (ml := 4) (by decide +kernel) rfl rfl ?_
  show z_R G 398 0 [some (.ref (0)), some (.int (x1)), some (.ref (250)), none] [] w (.inl (some (.int (Int32.ofNat 1)))) w2
  have hB : z_all [z_is 398 0 (zf_aload 0 2 1), z_is 398 1 (zf_cst 1 (Int32.ofNat 0) 2), z_is 398 2 (zf_aload 2 0 3), z_is 398 3 (zf_iload 3 1 4), z_is 398 4 (zf_cv 4 160 1 7 7)] = true := by decide +kernel
  refine z_aload hB rfl (fun hB => ?_)
  refine z_cst hB (fun hB => ?_)
  refine z_aload hB rfl (fun hB => ?_)
  refine z_iload hB rfl (fun hB => ?_)
  exact z_callVh hB (as := [.int (x1)]) (a := 0) (rest := [.int (Int32.ofNat 0), .ref (250)]) rfl (b := 3) (by decide +kernel) rfl rfl rfl rfl (zt_n ok (c := 7) (a := 0) (by decide +kernel)).1 (zt_n ok (c := 7) (a := 0) (by decide +kernel)).2.2.1 hc
theorem lh_purest_2 {G : z_G} {x1 : Int32} {w w2 : ev_W} (ok : z_Ok G w) (hc : z_K G 160 [.ref 0, .int (x1)] w (.inr 2) w2) : z_K G 398 [.ref 0, .int x1, .ref 250] w (.inl (some (.int (Int32.ofNat 2)))) w2 := by
  refine z_con ok.1 (ml := 4) (by decide +kernel) rfl rfl ?_
  show z_R G 398 0 [some (.ref (0)), some (.int (x1)), some (.ref (250)), none] [] w (.inl (some (.int (Int32.ofNat 2)))) w2
  have hB : z_all [z_is 398 0 (zf_aload 0 2 1), z_is 398 1 (zf_cst 1 (Int32.ofNat 0) 2), z_is 398 2 (zf_aload 2 0 3), z_is 398 3 (zf_iload 3 1 4), z_is 398 4 (zf_cv 4 160 1 7 7)] = true := by decide +kernel
  refine z_aload hB rfl (fun hB => ?_)
  refine z_cst hB (fun hB => ?_)
  refine z_aload hB rfl (fun hB => ?_)
  refine z_iload hB rfl (fun hB => ?_)
  exact z_callVh hB (as := [.int (x1)]) (a := 0) (rest := [.int (Int32.ofNat 0), .ref (250)]) rfl (b := 3) (by decide +kernel) rfl rfl rfl rfl (zt_n ok (c := 7) (a := 0) (by decide +kernel)).1 (zt_n ok (c := 7) (a := 0) (by decide +kernel)).2.2.1 hc
theorem lh_washesFor_v {G : z_G} {x1 : Int32} {w w2 : ev_W} (ok : z_Ok G w) (ok2 : z_Ok G w2) {v : Int32} (hc : z_K G 161 [.ref 0, .int (x1)] w (.inl (some (.int v))) w2) : z_K G 399 [.ref 0, .int x1, .ref 250] w (.inl (some (.int (Int32.ofNat 0)))) (w_sJ w2 250 0 v.toInt64) := by
  refine z_con ok.1 (ml := 4) (by decide +kernel) rfl rfl ?_
  show z_R G 399 0 [some (.ref (0)), some (.int (x1)), some (.ref (250)), none] [] w (.inl (some (.int (Int32.ofNat 0)))) (w_sJ w2 250 0 v.toInt64)
  have hB : z_all [z_is 399 0 (zf_aload 0 2 1), z_is 399 1 (zf_cst 1 (Int32.ofNat 0) 2), z_is 399 2 (zf_aload 2 0 3), z_is 399 3 (zf_iload 3 1 4), z_is 399 4 (zf_cv 4 161 1 7 7), z_is 399 7 (zf_i2l 7 8), z_is 399 8 (zf_last 8 9), z_is 399 9 (zf_goto 9 18), z_is 399 18 (zf_cst 18 (Int32.ofNat 0) 19), z_is 399 19 (zf_ret 0)] = true := by decide +kernel
  refine z_aload hB rfl (fun hB => ?_)
  refine z_cst hB (fun hB => ?_)
  refine z_aload hB rfl (fun hB => ?_)
  refine z_iload hB rfl (fun hB => ?_)
  refine z_callV hB (as := [.int (x1)]) (a := 0) (rest := [.int (Int32.ofNat 0), .ref (250)]) rfl rfl rfl (zt_n ok (c := 7) (a := 0) (by decide +kernel)).1 (zt_n ok (c := 7) (a := 0) (by decide +kernel)).2.2.1 hc (fun hB => ?_)
  refine z_i2l hB (fun hB => ?_)
  refine z_last hB (zt_n ok2 (c := 14) (a := 250) (by decide +kernel)).1 (zt_n ok2 (c := 14) (a := 250) (by decide +kernel)).2.2.1 (by rw [(zt_n ok2 (c := 14) (a := 250) (by decide +kernel)).2.2.2]; decide +kernel) (fun hB => ?_)
  refine z_goto hB (fun hB => ?_)
  refine z_cst hB (fun hB => ?_)
  exact z_reti hB
theorem lh_washesFor_0 {G : z_G} {x1 : Int32} {w w2 : ev_W} (ok : z_Ok G w) (hc : z_K G 161 [.ref 0, .int (x1)] w (.inr 0) w2) : z_K G 399 [.ref 0, .int x1, .ref 250] w (.inl (some (.int (Int32.ofNat 1)))) w2 := by
  refine z_con ok.1 (ml := 4) (by decide +kernel) rfl rfl ?_
  show z_R G 399 0 [some (.ref (0)), some (.int (x1)), some (.ref (250)), none] [] w (.inl (some (.int (Int32.ofNat 1)))) w2
  have hB : z_all [z_is 399 0 (zf_aload 0 2 1), z_is 399 1 (zf_cst 1 (Int32.ofNat 0) 2), z_is 399 2 (zf_aload 2 0 3), z_is 399 3 (zf_iload 3 1 4), z_is 399 4 (zf_cv 4 161 1 7 7)] = true := by decide +kernel
  refine z_aload hB rfl (fun hB => ?_)
  refine z_cst hB (fun hB => ?_)
  refine z_aload hB rfl (fun hB => ?_)
  refine z_iload hB rfl (fun hB => ?_)
  exact z_callVh hB (as := [.int (x1)]) (a := 0) (rest := [.int (Int32.ofNat 0), .ref (250)]) rfl (b := 3) (by decide +kernel) rfl rfl rfl rfl (zt_n ok (c := 7) (a := 0) (by decide +kernel)).1 (zt_n ok (c := 7) (a := 0) (by decide +kernel)).2.2.1 hc
theorem lh_washesFor_1 {G : z_G} {x1 : Int32} {w w2 : ev_W} (ok : z_Ok G w) (hc : z_K G 161 [.ref 0, .int (x1)] w (.inr 1) w2) : z_K G 399 [.ref 0, .int x1, .ref 250] w (.inl (some (.int (Int32.ofNat 2)))) w2 := by
  refine z_con ok.1 (ml := 4) (by decide +kernel) rfl rfl ?_
  show z_R G 399 0 [some (.ref (0)), some (.int (x1)), some (.ref (250)), none] [] w (.inl (some (.int (Int32.ofNat 2)))) w2
  have hB : z_all [z_is 399 0 (zf_aload 0 2 1), z_is 399 1 (zf_cst 1 (Int32.ofNat 0) 2), z_is 399 2 (zf_aload 2 0 3), z_is 399 3 (zf_iload 3 1 4), z_is 399 4 (zf_cv 4 161 1 7 7)] = true := by decide +kernel
  refine z_aload hB rfl (fun hB => ?_)
  refine z_cst hB (fun hB => ?_)
  refine z_aload hB rfl (fun hB => ?_)
  refine z_iload hB rfl (fun hB => ?_)
  exact z_callVh hB (as := [.int (x1)]) (a := 0) (rest := [.int (Int32.ofNat 0), .ref (250)]) rfl (b := 3) (by decide +kernel) rfl rfl rfl rfl (zt_n ok (c := 7) (a := 0) (by decide +kernel)).1 (zt_n ok (c := 7) (a := 0) (by decide +kernel)).2.2.1 hc
theorem lh_dryIn_v {G : z_G} {x1 : Int32} {w w2 : ev_W} (ok : z_Ok G w) (ok2 : z_Ok G w2) {v : Int32} (hc : z_K G 162 [.ref 0, .int (x1)] w (.inl (some (.int v))) w2) : z_K G 400 [.ref 0, .int x1, .ref 250] w (.inl (some (.int (Int32.ofNat 0)))) (w_sJ w2 250 0 v.toInt64) := by
  refine z_con ok.1 (ml := 4) (by decide +kernel) rfl rfl ?_
  show z_R G 400 0 [some (.ref (0)), some (.int (x1)), some (.ref (250)), none] [] w (.inl (some (.int (Int32.ofNat 0)))) (w_sJ w2 250 0 v.toInt64)
  have hB : z_all [z_is 400 0 (zf_aload 0 2 1), z_is 400 1 (zf_cst 1 (Int32.ofNat 0) 2), z_is 400 2 (zf_aload 2 0 3), z_is 400 3 (zf_iload 3 1 4), z_is 400 4 (zf_cv 4 162 1 7 7), z_is 400 7 (zf_i2l 7 8), z_is 400 8 (zf_last 8 9), z_is 400 9 (zf_goto 9 18), z_is 400 18 (zf_cst 18 (Int32.ofNat 0) 19), z_is 400 19 (zf_ret 0)] = true := by decide +kernel
  refine z_aload hB rfl (fun hB => ?_)
  refine z_cst hB (fun hB => ?_)
  refine z_aload hB rfl (fun hB => ?_)
  refine z_iload hB rfl (fun hB => ?_)
  refine z_callV hB (as := [.int (x1)]) (a := 0) (rest := [.int (Int32.ofNat 0), .ref (250)]) rfl rfl rfl (zt_n ok (c := 7) (a := 0) (by decide +kernel)).1 (zt_n ok (c := 7) (a := 0) (by decide +kernel)).2.2.1 hc (fun hB => ?_)
  refine z_i2l hB (fun hB => ?_)
  refine z_last hB (zt_n ok2 (c := 14) (a := 250) (by decide +kernel)).1 (zt_n ok2 (c := 14) (a := 250) (by decide +kernel)).2.2.1 (by rw [(zt_n ok2 (c := 14) (a := 250) (by decide +kernel)).2.2.2]; decide +kernel) (fun hB => ?_)
  refine z_goto hB (fun hB => ?_)
  refine z_cst hB (fun hB => ?_)
  exact z_reti hB
theorem lh_dryIn_0 {G : z_G} {x1 : Int32} {w w2 : ev_W} (ok : z_Ok G w) (hc : z_K G 162 [.ref 0, .int (x1)] w (.inr 0) w2) : z_K G 400 [.ref 0, .int x1, .ref 250] w (.inl (some (.int (Int32.ofNat 1)))) w2 := by
  refine z_con ok.1 (ml := 4) (by decide +kernel) rfl rfl ?_
  show z_R G 400 0 [some (.ref (0)), some (.int (x1)), some (.ref (250)), none] [] w (.inl (some (.int (Int32.ofNat 1)))) w2
  have hB : z_all [z_is 400 0 (zf_aload 0 2 1), z_is 400 1 (zf_cst 1 (Int32.ofNat 0) 2), z_is 400 2 (zf_aload 2 0 3), z_is 400 3 (zf_iload 3 1 4), z_is 400 4 (zf_cv 4 162 1 7 7)] = true := by decide +kernel
  refine z_aload hB rfl (fun hB => ?_)
  refine z_cst hB (fun hB => ?_)
  refine z_aload hB rfl (fun hB => ?_)
  refine z_iload hB rfl (fun hB => ?_)
  exact z_callVh hB (as := [.int (x1)]) (a := 0) (rest := [.int (Int32.ofNat 0), .ref (250)]) rfl (b := 3) (by decide +kernel) rfl rfl rfl rfl (zt_n ok (c := 7) (a := 0) (by decide +kernel)).1 (zt_n ok (c := 7) (a := 0) (by decide +kernel)).2.2.1 hc
theorem lh_dryIn_1 {G : z_G} {x1 : Int32} {w w2 : ev_W} (ok : z_Ok G w) (hc : z_K G 162 [.ref 0, .int (x1)] w (.inr 1) w2) : z_K G 400 [.ref 0, .int x1, .ref 250] w (.inl (some (.int (Int32.ofNat 2)))) w2 := by
  refine z_con ok.1 (ml := 4) (by decide +kernel) rfl rfl ?_
  show z_R G 400 0 [some (.ref (0)), some (.int (x1)), some (.ref (250)), none] [] w (.inl (some (.int (Int32.ofNat 2)))) w2
  have hB : z_all [z_is 400 0 (zf_aload 0 2 1), z_is 400 1 (zf_cst 1 (Int32.ofNat 0) 2), z_is 400 2 (zf_aload 2 0 3), z_is 400 3 (zf_iload 3 1 4), z_is 400 4 (zf_cv 4 162 1 7 7)] = true := by decide +kernel
  refine z_aload hB rfl (fun hB => ?_)
  refine z_cst hB (fun hB => ?_)
  refine z_aload hB rfl (fun hB => ?_)
  refine z_iload hB rfl (fun hB => ?_)
  exact z_callVh hB (as := [.int (x1)]) (a := 0) (rest := [.int (Int32.ofNat 0), .ref (250)]) rfl (b := 3) (by decide +kernel) rfl rfl rfl rfl (zt_n ok (c := 7) (a := 0) (by decide +kernel)).1 (zt_n ok (c := 7) (a := 0) (by decide +kernel)).2.2.1 hc
theorem lh_dryByWind_v {G : z_G} {x1 : Int32} {x2 : Int32} {w w2 : ev_W} (ok : z_Ok G w) (ok2 : z_Ok G w2) {v : Int32} (hc : z_K G 163 [.ref 0, .int (x1), .int (x2)] w (.inl (some (.int v))) w2) : z_K G 401 [.ref 0, .int x1, .int x2, .ref 250] w (.inl (some (.int (Int32.ofNat 0)))) (w_sJ w2 250 0 v.toInt64) := by
  refine z_con ok.1 (ml := 5) (by decide +kernel) rfl rfl ?_
  show z_R G 401 0 [some (.ref (0)), some (.int (x1)), some (.int (x2)), some (.ref (250)), none] [] w (.inl (some (.int (Int32.ofNat 0)))) (w_sJ w2 250 0 v.toInt64)
  have hB : z_all [z_is 401 0 (zf_aload 0 3 1), z_is 401 1 (zf_cst 1 (Int32.ofNat 0) 2), z_is 401 2 (zf_aload 2 0 3), z_is 401 3 (zf_iload 3 1 4), z_is 401 4 (zf_iload 4 2 5), z_is 401 5 (zf_cv 5 163 2 7 8), z_is 401 8 (zf_i2l 8 9), z_is 401 9 (zf_last 9 10), z_is 401 10 (zf_goto 10 25), z_is 401 25 (zf_cst 25 (Int32.ofNat 0) 26), z_is 401 26 (zf_ret 0)] = true := by decide +kernel
  refine z_aload hB rfl (fun hB => ?_)
  refine z_cst hB (fun hB => ?_)
  refine z_aload hB rfl (fun hB => ?_)
  refine z_iload hB rfl (fun hB => ?_)
  refine z_iload hB rfl (fun hB => ?_)
  refine z_callV hB (as := [.int (x1), .int (x2)]) (a := 0) (rest := [.int (Int32.ofNat 0), .ref (250)]) rfl rfl rfl (zt_n ok (c := 7) (a := 0) (by decide +kernel)).1 (zt_n ok (c := 7) (a := 0) (by decide +kernel)).2.2.1 hc (fun hB => ?_)
  refine z_i2l hB (fun hB => ?_)
  refine z_last hB (zt_n ok2 (c := 14) (a := 250) (by decide +kernel)).1 (zt_n ok2 (c := 14) (a := 250) (by decide +kernel)).2.2.1 (by rw [(zt_n ok2 (c := 14) (a := 250) (by decide +kernel)).2.2.2]; decide +kernel) (fun hB => ?_)
  refine z_goto hB (fun hB => ?_)
  refine z_cst hB (fun hB => ?_)
  exact z_reti hB
theorem lh_dryByWind_0 {G : z_G} {x1 : Int32} {x2 : Int32} {w w2 : ev_W} (ok : z_Ok G w) (hc : z_K G 163 [.ref 0, .int (x1), .int (x2)] w (.inr 0) w2) : z_K G 401 [.ref 0, .int x1, .int x2, .ref 250] w (.inl (some (.int (Int32.ofNat 1)))) w2 := by
  refine z_con ok.1 (ml := 5) (by decide +kernel) rfl rfl ?_
  show z_R G 401 0 [some (.ref (0)), some (.int (x1)), some (.int (x2)), some (.ref (250)), none] [] w (.inl (some (.int (Int32.ofNat 1)))) w2
  have hB : z_all [z_is 401 0 (zf_aload 0 3 1), z_is 401 1 (zf_cst 1 (Int32.ofNat 0) 2), z_is 401 2 (zf_aload 2 0 3), z_is 401 3 (zf_iload 3 1 4), z_is 401 4 (zf_iload 4 2 5), z_is 401 5 (zf_cv 5 163 2 7 8)] = true := by decide +kernel
  refine z_aload hB rfl (fun hB => ?_)
  refine z_cst hB (fun hB => ?_)
  refine z_aload hB rfl (fun hB => ?_)
  refine z_iload hB rfl (fun hB => ?_)
  refine z_iload hB rfl (fun hB => ?_)
  exact z_callVh hB (as := [.int (x1), .int (x2)]) (a := 0) (rest := [.int (Int32.ofNat 0), .ref (250)]) rfl (b := 4) (by decide +kernel) rfl rfl rfl rfl (zt_n ok (c := 7) (a := 0) (by decide +kernel)).1 (zt_n ok (c := 7) (a := 0) (by decide +kernel)).2.2.1 hc
theorem lh_dryByWind_1 {G : z_G} {x1 : Int32} {x2 : Int32} {w w2 : ev_W} (ok : z_Ok G w) (hc : z_K G 163 [.ref 0, .int (x1), .int (x2)] w (.inr 1) w2) : z_K G 401 [.ref 0, .int x1, .int x2, .ref 250] w (.inl (some (.int (Int32.ofNat 2)))) w2 := by
  refine z_con ok.1 (ml := 5) (by decide +kernel) rfl rfl ?_
  show z_R G 401 0 [some (.ref (0)), some (.int (x1)), some (.int (x2)), some (.ref (250)), none] [] w (.inl (some (.int (Int32.ofNat 2)))) w2
  have hB : z_all [z_is 401 0 (zf_aload 0 3 1), z_is 401 1 (zf_cst 1 (Int32.ofNat 0) 2), z_is 401 2 (zf_aload 2 0 3), z_is 401 3 (zf_iload 3 1 4), z_is 401 4 (zf_iload 4 2 5), z_is 401 5 (zf_cv 5 163 2 7 8)] = true := by decide +kernel
  refine z_aload hB rfl (fun hB => ?_)
  refine z_cst hB (fun hB => ?_)
  refine z_aload hB rfl (fun hB => ?_)
  refine z_iload hB rfl (fun hB => ?_)
  refine z_iload hB rfl (fun hB => ?_)
  exact z_callVh hB (as := [.int (x1), .int (x2)]) (a := 0) (rest := [.int (Int32.ofNat 0), .ref (250)]) rfl (b := 4) (by decide +kernel) rfl rfl rfl rfl (zt_n ok (c := 7) (a := 0) (by decide +kernel)).1 (zt_n ok (c := 7) (a := 0) (by decide +kernel)).2.2.1 hc
theorem lh_dryByWind_2 {G : z_G} {x1 : Int32} {x2 : Int32} {w w2 : ev_W} (ok : z_Ok G w) (hc : z_K G 163 [.ref 0, .int (x1), .int (x2)] w (.inr 2) w2) : z_K G 401 [.ref 0, .int x1, .int x2, .ref 250] w (.inl (some (.int (Int32.ofNat 3)))) w2 := by
  refine z_con ok.1 (ml := 5) (by decide +kernel) rfl rfl ?_
  show z_R G 401 0 [some (.ref (0)), some (.int (x1)), some (.int (x2)), some (.ref (250)), none] [] w (.inl (some (.int (Int32.ofNat 3)))) w2
  have hB : z_all [z_is 401 0 (zf_aload 0 3 1), z_is 401 1 (zf_cst 1 (Int32.ofNat 0) 2), z_is 401 2 (zf_aload 2 0 3), z_is 401 3 (zf_iload 3 1 4), z_is 401 4 (zf_iload 4 2 5), z_is 401 5 (zf_cv 5 163 2 7 8)] = true := by decide +kernel
  refine z_aload hB rfl (fun hB => ?_)
  refine z_cst hB (fun hB => ?_)
  refine z_aload hB rfl (fun hB => ?_)
  refine z_iload hB rfl (fun hB => ?_)
  refine z_iload hB rfl (fun hB => ?_)
  exact z_callVh hB (as := [.int (x1), .int (x2)]) (a := 0) (rest := [.int (Int32.ofNat 0), .ref (250)]) rfl (b := 4) (by decide +kernel) rfl rfl rfl rfl (zt_n ok (c := 7) (a := 0) (by decide +kernel)).1 (zt_n ok (c := 7) (a := 0) (by decide +kernel)).2.2.1 hc
theorem lh_fallsIn_v {G : z_G} {x1 : Int32} {w w2 : ev_W} (ok : z_Ok G w) (ok2 : z_Ok G w2) {v : Int32} (hc : z_K G 164 [.ref 0, .int (x1)] w (.inl (some (.int v))) w2) : z_K G 402 [.ref 0, .int x1, .ref 250] w (.inl (some (.int (Int32.ofNat 0)))) (w_sJ w2 250 0 v.toInt64) := by
  refine z_con ok.1 (ml := 4) (by decide +kernel) rfl rfl ?_
  show z_R G 402 0 [some (.ref (0)), some (.int (x1)), some (.ref (250)), none] [] w (.inl (some (.int (Int32.ofNat 0)))) (w_sJ w2 250 0 v.toInt64)
  have hB : z_all [z_is 402 0 (zf_aload 0 2 1), z_is 402 1 (zf_cst 1 (Int32.ofNat 0) 2), z_is 402 2 (zf_aload 2 0 3), z_is 402 3 (zf_iload 3 1 4), z_is 402 4 (zf_cv 4 164 1 7 7), z_is 402 7 (zf_i2l 7 8), z_is 402 8 (zf_last 8 9), z_is 402 9 (zf_goto 9 18), z_is 402 18 (zf_cst 18 (Int32.ofNat 0) 19), z_is 402 19 (zf_ret 0)] = true := by decide +kernel
  refine z_aload hB rfl (fun hB => ?_)
  refine z_cst hB (fun hB => ?_)
  refine z_aload hB rfl (fun hB => ?_)
  refine z_iload hB rfl (fun hB => ?_)
  refine z_callV hB (as := [.int (x1)]) (a := 0) (rest := [.int (Int32.ofNat 0), .ref (250)]) rfl rfl rfl (zt_n ok (c := 7) (a := 0) (by decide +kernel)).1 (zt_n ok (c := 7) (a := 0) (by decide +kernel)).2.2.1 hc (fun hB => ?_)
  refine z_i2l hB (fun hB => ?_)
  refine z_last hB (zt_n ok2 (c := 14) (a := 250) (by decide +kernel)).1 (zt_n ok2 (c := 14) (a := 250) (by decide +kernel)).2.2.1 (by rw [(zt_n ok2 (c := 14) (a := 250) (by decide +kernel)).2.2.2]; decide +kernel) (fun hB => ?_)
  refine z_goto hB (fun hB => ?_)
  refine z_cst hB (fun hB => ?_)
  exact z_reti hB
theorem lh_fallsIn_0 {G : z_G} {x1 : Int32} {w w2 : ev_W} (ok : z_Ok G w) (hc : z_K G 164 [.ref 0, .int (x1)] w (.inr 0) w2) : z_K G 402 [.ref 0, .int x1, .ref 250] w (.inl (some (.int (Int32.ofNat 1)))) w2 := by
  refine z_con ok.1 (ml := 4) (by decide +kernel) rfl rfl ?_
  show z_R G 402 0 [some (.ref (0)), some (.int (x1)), some (.ref (250)), none] [] w (.inl (some (.int (Int32.ofNat 1)))) w2
  have hB : z_all [z_is 402 0 (zf_aload 0 2 1), z_is 402 1 (zf_cst 1 (Int32.ofNat 0) 2), z_is 402 2 (zf_aload 2 0 3), z_is 402 3 (zf_iload 3 1 4), z_is 402 4 (zf_cv 4 164 1 7 7)] = true := by decide +kernel
  refine z_aload hB rfl (fun hB => ?_)
  refine z_cst hB (fun hB => ?_)
  refine z_aload hB rfl (fun hB => ?_)
  refine z_iload hB rfl (fun hB => ?_)
  exact z_callVh hB (as := [.int (x1)]) (a := 0) (rest := [.int (Int32.ofNat 0), .ref (250)]) rfl (b := 3) (by decide +kernel) rfl rfl rfl rfl (zt_n ok (c := 7) (a := 0) (by decide +kernel)).1 (zt_n ok (c := 7) (a := 0) (by decide +kernel)).2.2.1 hc
theorem lh_fallsIn_2 {G : z_G} {x1 : Int32} {w w2 : ev_W} (ok : z_Ok G w) (hc : z_K G 164 [.ref 0, .int (x1)] w (.inr 2) w2) : z_K G 402 [.ref 0, .int x1, .ref 250] w (.inl (some (.int (Int32.ofNat 2)))) w2 := by
  refine z_con ok.1 (ml := 4) (by decide +kernel) rfl rfl ?_
  show z_R G 402 0 [some (.ref (0)), some (.int (x1)), some (.ref (250)), none] [] w (.inl (some (.int (Int32.ofNat 2)))) w2
  have hB : z_all [z_is 402 0 (zf_aload 0 2 1), z_is 402 1 (zf_cst 1 (Int32.ofNat 0) 2), z_is 402 2 (zf_aload 2 0 3), z_is 402 3 (zf_iload 3 1 4), z_is 402 4 (zf_cv 4 164 1 7 7)] = true := by decide +kernel
  refine z_aload hB rfl (fun hB => ?_)
  refine z_cst hB (fun hB => ?_)
  refine z_aload hB rfl (fun hB => ?_)
  refine z_iload hB rfl (fun hB => ?_)
  exact z_callVh hB (as := [.int (x1)]) (a := 0) (rest := [.int (Int32.ofNat 0), .ref (250)]) rfl (b := 3) (by decide +kernel) rfl rfl rfl rfl (zt_n ok (c := 7) (a := 0) (by decide +kernel)).1 (zt_n ok (c := 7) (a := 0) (by decide +kernel)).2.2.1 hc
theorem lh_payIf_v {G : z_G} {x1 : Int32} {x2 : Int32} {w w2 : ev_W} (ok : z_Ok G w) (ok2 : z_Ok G w2) {v : Int32} (hc : z_K G 165 [.ref 0, .int (x1), .int (x2)] w (.inl (some (.int v))) w2) : z_K G 403 [.ref 0, .int x1, .int x2, .ref 250] w (.inl (some (.int (Int32.ofNat 0)))) (w_sJ w2 250 0 v.toInt64) := by
  refine z_con ok.1 (ml := 5) (by decide +kernel) rfl rfl ?_
  show z_R G 403 0 [some (.ref (0)), some (.int (x1)), some (.int (x2)), some (.ref (250)), none] [] w (.inl (some (.int (Int32.ofNat 0)))) (w_sJ w2 250 0 v.toInt64)
  have hB : z_all [z_is 403 0 (zf_aload 0 3 1), z_is 403 1 (zf_cst 1 (Int32.ofNat 0) 2), z_is 403 2 (zf_aload 2 0 3), z_is 403 3 (zf_iload 3 1 4), z_is 403 4 (zf_iload 4 2 5), z_is 403 5 (zf_cv 5 165 2 7 8), z_is 403 8 (zf_i2l 8 9), z_is 403 9 (zf_last 9 10), z_is 403 10 (zf_goto 10 25), z_is 403 25 (zf_cst 25 (Int32.ofNat 0) 26), z_is 403 26 (zf_ret 0)] = true := by decide +kernel
  refine z_aload hB rfl (fun hB => ?_)
  refine z_cst hB (fun hB => ?_)
  refine z_aload hB rfl (fun hB => ?_)
  refine z_iload hB rfl (fun hB => ?_)
  refine z_iload hB rfl (fun hB => ?_)
  refine z_callV hB (as := [.int (x1), .int (x2)]) (a := 0) (rest := [.int (Int32.ofNat 0), .ref (250)]) rfl rfl rfl (zt_n ok (c := 7) (a := 0) (by decide +kernel)).1 (zt_n ok (c := 7) (a := 0) (by decide +kernel)).2.2.1 hc (fun hB => ?_)
  refine z_i2l hB (fun hB => ?_)
  refine z_last hB (zt_n ok2 (c := 14) (a := 250) (by decide +kernel)).1 (zt_n ok2 (c := 14) (a := 250) (by decide +kernel)).2.2.1 (by rw [(zt_n ok2 (c := 14) (a := 250) (by decide +kernel)).2.2.2]; decide +kernel) (fun hB => ?_)
  refine z_goto hB (fun hB => ?_)
  refine z_cst hB (fun hB => ?_)
  exact z_reti hB
theorem lh_payIf_0 {G : z_G} {x1 : Int32} {x2 : Int32} {w w2 : ev_W} (ok : z_Ok G w) (hc : z_K G 165 [.ref 0, .int (x1), .int (x2)] w (.inr 0) w2) : z_K G 403 [.ref 0, .int x1, .int x2, .ref 250] w (.inl (some (.int (Int32.ofNat 1)))) w2 := by
  refine z_con ok.1 (ml := 5) (by decide +kernel) rfl rfl ?_
  show z_R G 403 0 [some (.ref (0)), some (.int (x1)), some (.int (x2)), some (.ref (250)), none] [] w (.inl (some (.int (Int32.ofNat 1)))) w2
  have hB : z_all [z_is 403 0 (zf_aload 0 3 1), z_is 403 1 (zf_cst 1 (Int32.ofNat 0) 2), z_is 403 2 (zf_aload 2 0 3), z_is 403 3 (zf_iload 3 1 4), z_is 403 4 (zf_iload 4 2 5), z_is 403 5 (zf_cv 5 165 2 7 8)] = true := by decide +kernel
  refine z_aload hB rfl (fun hB => ?_)
  refine z_cst hB (fun hB => ?_)
  refine z_aload hB rfl (fun hB => ?_)
  refine z_iload hB rfl (fun hB => ?_)
  refine z_iload hB rfl (fun hB => ?_)
  exact z_callVh hB (as := [.int (x1), .int (x2)]) (a := 0) (rest := [.int (Int32.ofNat 0), .ref (250)]) rfl (b := 4) (by decide +kernel) rfl rfl rfl rfl (zt_n ok (c := 7) (a := 0) (by decide +kernel)).1 (zt_n ok (c := 7) (a := 0) (by decide +kernel)).2.2.1 hc
theorem lh_payIf_1 {G : z_G} {x1 : Int32} {x2 : Int32} {w w2 : ev_W} (ok : z_Ok G w) (hc : z_K G 165 [.ref 0, .int (x1), .int (x2)] w (.inr 1) w2) : z_K G 403 [.ref 0, .int x1, .int x2, .ref 250] w (.inl (some (.int (Int32.ofNat 2)))) w2 := by
  refine z_con ok.1 (ml := 5) (by decide +kernel) rfl rfl ?_
  show z_R G 403 0 [some (.ref (0)), some (.int (x1)), some (.int (x2)), some (.ref (250)), none] [] w (.inl (some (.int (Int32.ofNat 2)))) w2
  have hB : z_all [z_is 403 0 (zf_aload 0 3 1), z_is 403 1 (zf_cst 1 (Int32.ofNat 0) 2), z_is 403 2 (zf_aload 2 0 3), z_is 403 3 (zf_iload 3 1 4), z_is 403 4 (zf_iload 4 2 5), z_is 403 5 (zf_cv 5 165 2 7 8)] = true := by decide +kernel
  refine z_aload hB rfl (fun hB => ?_)
  refine z_cst hB (fun hB => ?_)
  refine z_aload hB rfl (fun hB => ?_)
  refine z_iload hB rfl (fun hB => ?_)
  refine z_iload hB rfl (fun hB => ?_)
  exact z_callVh hB (as := [.int (x1), .int (x2)]) (a := 0) (rest := [.int (Int32.ofNat 0), .ref (250)]) rfl (b := 4) (by decide +kernel) rfl rfl rfl rfl (zt_n ok (c := 7) (a := 0) (by decide +kernel)).1 (zt_n ok (c := 7) (a := 0) (by decide +kernel)).2.2.1 hc
theorem lh_payIf_2 {G : z_G} {x1 : Int32} {x2 : Int32} {w w2 : ev_W} (ok : z_Ok G w) (hc : z_K G 165 [.ref 0, .int (x1), .int (x2)] w (.inr 2) w2) : z_K G 403 [.ref 0, .int x1, .int x2, .ref 250] w (.inl (some (.int (Int32.ofNat 3)))) w2 := by
  refine z_con ok.1 (ml := 5) (by decide +kernel) rfl rfl ?_
  show z_R G 403 0 [some (.ref (0)), some (.int (x1)), some (.int (x2)), some (.ref (250)), none] [] w (.inl (some (.int (Int32.ofNat 3)))) w2
  have hB : z_all [z_is 403 0 (zf_aload 0 3 1), z_is 403 1 (zf_cst 1 (Int32.ofNat 0) 2), z_is 403 2 (zf_aload 2 0 3), z_is 403 3 (zf_iload 3 1 4), z_is 403 4 (zf_iload 4 2 5), z_is 403 5 (zf_cv 5 165 2 7 8)] = true := by decide +kernel
  refine z_aload hB rfl (fun hB => ?_)
  refine z_cst hB (fun hB => ?_)
  refine z_aload hB rfl (fun hB => ?_)
  refine z_iload hB rfl (fun hB => ?_)
  refine z_iload hB rfl (fun hB => ?_)
  exact z_callVh hB (as := [.int (x1), .int (x2)]) (a := 0) (rest := [.int (Int32.ofNat 0), .ref (250)]) rfl (b := 4) (by decide +kernel) rfl rfl rfl rfl (zt_n ok (c := 7) (a := 0) (by decide +kernel)).1 (zt_n ok (c := 7) (a := 0) (by decide +kernel)).2.2.1 hc
theorem lh_latest_v {G : z_G} {x1 : Int32} {w w2 : ev_W} (ok : z_Ok G w) (ok2 : z_Ok G w2) {v : Int32} (hc : z_K G 166 [.ref 0, .int (x1)] w (.inl (some (.int v))) w2) : z_K G 404 [.ref 0, .int x1, .ref 250] w (.inl (some (.int (Int32.ofNat 0)))) (w_sJ w2 250 0 v.toInt64) := by
  refine z_con ok.1 (ml := 4) (by decide +kernel) rfl rfl ?_
  show z_R G 404 0 [some (.ref (0)), some (.int (x1)), some (.ref (250)), none] [] w (.inl (some (.int (Int32.ofNat 0)))) (w_sJ w2 250 0 v.toInt64)
  have hB : z_all [z_is 404 0 (zf_aload 0 2 1), z_is 404 1 (zf_cst 1 (Int32.ofNat 0) 2), z_is 404 2 (zf_aload 2 0 3), z_is 404 3 (zf_iload 3 1 4), z_is 404 4 (zf_cv 4 166 1 7 7), z_is 404 7 (zf_i2l 7 8), z_is 404 8 (zf_last 8 9), z_is 404 9 (zf_goto 9 18), z_is 404 18 (zf_cst 18 (Int32.ofNat 0) 19), z_is 404 19 (zf_ret 0)] = true := by decide +kernel
  refine z_aload hB rfl (fun hB => ?_)
  refine z_cst hB (fun hB => ?_)
  refine z_aload hB rfl (fun hB => ?_)
  refine z_iload hB rfl (fun hB => ?_)
  refine z_callV hB (as := [.int (x1)]) (a := 0) (rest := [.int (Int32.ofNat 0), .ref (250)]) rfl rfl rfl (zt_n ok (c := 7) (a := 0) (by decide +kernel)).1 (zt_n ok (c := 7) (a := 0) (by decide +kernel)).2.2.1 hc (fun hB => ?_)
  refine z_i2l hB (fun hB => ?_)
  refine z_last hB (zt_n ok2 (c := 14) (a := 250) (by decide +kernel)).1 (zt_n ok2 (c := 14) (a := 250) (by decide +kernel)).2.2.1 (by rw [(zt_n ok2 (c := 14) (a := 250) (by decide +kernel)).2.2.2]; decide +kernel) (fun hB => ?_)
  refine z_goto hB (fun hB => ?_)
  refine z_cst hB (fun hB => ?_)
  exact z_reti hB
theorem lh_latest_0 {G : z_G} {x1 : Int32} {w w2 : ev_W} (ok : z_Ok G w) (hc : z_K G 166 [.ref 0, .int (x1)] w (.inr 0) w2) : z_K G 404 [.ref 0, .int x1, .ref 250] w (.inl (some (.int (Int32.ofNat 1)))) w2 := by
  refine z_con ok.1 (ml := 4) (by decide +kernel) rfl rfl ?_
  show z_R G 404 0 [some (.ref (0)), some (.int (x1)), some (.ref (250)), none] [] w (.inl (some (.int (Int32.ofNat 1)))) w2
  have hB : z_all [z_is 404 0 (zf_aload 0 2 1), z_is 404 1 (zf_cst 1 (Int32.ofNat 0) 2), z_is 404 2 (zf_aload 2 0 3), z_is 404 3 (zf_iload 3 1 4), z_is 404 4 (zf_cv 4 166 1 7 7)] = true := by decide +kernel
  refine z_aload hB rfl (fun hB => ?_)
  refine z_cst hB (fun hB => ?_)
  refine z_aload hB rfl (fun hB => ?_)
  refine z_iload hB rfl (fun hB => ?_)
  exact z_callVh hB (as := [.int (x1)]) (a := 0) (rest := [.int (Int32.ofNat 0), .ref (250)]) rfl (b := 3) (by decide +kernel) rfl rfl rfl rfl (zt_n ok (c := 7) (a := 0) (by decide +kernel)).1 (zt_n ok (c := 7) (a := 0) (by decide +kernel)).2.2.1 hc
theorem lh_latest_1 {G : z_G} {x1 : Int32} {w w2 : ev_W} (ok : z_Ok G w) (hc : z_K G 166 [.ref 0, .int (x1)] w (.inr 1) w2) : z_K G 404 [.ref 0, .int x1, .ref 250] w (.inl (some (.int (Int32.ofNat 2)))) w2 := by
  refine z_con ok.1 (ml := 4) (by decide +kernel) rfl rfl ?_
  show z_R G 404 0 [some (.ref (0)), some (.int (x1)), some (.ref (250)), none] [] w (.inl (some (.int (Int32.ofNat 2)))) w2
  have hB : z_all [z_is 404 0 (zf_aload 0 2 1), z_is 404 1 (zf_cst 1 (Int32.ofNat 0) 2), z_is 404 2 (zf_aload 2 0 3), z_is 404 3 (zf_iload 3 1 4), z_is 404 4 (zf_cv 4 166 1 7 7)] = true := by decide +kernel
  refine z_aload hB rfl (fun hB => ?_)
  refine z_cst hB (fun hB => ?_)
  refine z_aload hB rfl (fun hB => ?_)
  refine z_iload hB rfl (fun hB => ?_)
  exact z_callVh hB (as := [.int (x1)]) (a := 0) (rest := [.int (Int32.ofNat 0), .ref (250)]) rfl (b := 3) (by decide +kernel) rfl rfl rfl rfl (zt_n ok (c := 7) (a := 0) (by decide +kernel)).1 (zt_n ok (c := 7) (a := 0) (by decide +kernel)).2.2.1 hc
theorem lh_dearest_v {G : z_G} {w w2 : ev_W} (ok : z_Ok G w) (ok2 : z_Ok G w2) {v : Int32} (hc : z_K G 167 [.ref 0] w (.inl (some (.int v))) w2) : z_K G 405 [.ref 0, .ref 250] w (.inl (some (.int (Int32.ofNat 0)))) (w_sJ w2 250 0 v.toInt64) := by
  refine z_con ok.1 (ml := 3) (by decide +kernel) rfl rfl ?_
  show z_R G 405 0 [some (.ref (0)), some (.ref (250)), none] [] w (.inl (some (.int (Int32.ofNat 0)))) (w_sJ w2 250 0 v.toInt64)
  have hB : z_all [z_is 405 0 (zf_aload 0 1 1), z_is 405 1 (zf_cst 1 (Int32.ofNat 0) 2), z_is 405 2 (zf_aload 2 0 3), z_is 405 3 (zf_cv 3 167 0 7 6), z_is 405 6 (zf_i2l 6 7), z_is 405 7 (zf_last 7 8), z_is 405 8 (zf_goto 8 14), z_is 405 14 (zf_cst 14 (Int32.ofNat 0) 15), z_is 405 15 (zf_ret 0)] = true := by decide +kernel
  refine z_aload hB rfl (fun hB => ?_)
  refine z_cst hB (fun hB => ?_)
  refine z_aload hB rfl (fun hB => ?_)
  refine z_callV hB (as := []) (a := 0) (rest := [.int (Int32.ofNat 0), .ref (250)]) rfl rfl rfl (zt_n ok (c := 7) (a := 0) (by decide +kernel)).1 (zt_n ok (c := 7) (a := 0) (by decide +kernel)).2.2.1 hc (fun hB => ?_)
  refine z_i2l hB (fun hB => ?_)
  refine z_last hB (zt_n ok2 (c := 14) (a := 250) (by decide +kernel)).1 (zt_n ok2 (c := 14) (a := 250) (by decide +kernel)).2.2.1 (by rw [(zt_n ok2 (c := 14) (a := 250) (by decide +kernel)).2.2.2]; decide +kernel) (fun hB => ?_)
  refine z_goto hB (fun hB => ?_)
  refine z_cst hB (fun hB => ?_)
  exact z_reti hB
theorem lh_dearest_0 {G : z_G} {w w2 : ev_W} (ok : z_Ok G w) (hc : z_K G 167 [.ref 0] w (.inr 0) w2) : z_K G 405 [.ref 0, .ref 250] w (.inl (some (.int (Int32.ofNat 1)))) w2 := by
  refine z_con ok.1 (ml := 3) (by decide +kernel) rfl rfl ?_
  show z_R G 405 0 [some (.ref (0)), some (.ref (250)), none] [] w (.inl (some (.int (Int32.ofNat 1)))) w2
  have hB : z_all [z_is 405 0 (zf_aload 0 1 1), z_is 405 1 (zf_cst 1 (Int32.ofNat 0) 2), z_is 405 2 (zf_aload 2 0 3), z_is 405 3 (zf_cv 3 167 0 7 6)] = true := by decide +kernel
  refine z_aload hB rfl (fun hB => ?_)
  refine z_cst hB (fun hB => ?_)
  refine z_aload hB rfl (fun hB => ?_)
  exact z_callVh hB (as := []) (a := 0) (rest := [.int (Int32.ofNat 0), .ref (250)]) rfl (b := 2) (by decide +kernel) rfl rfl rfl rfl (zt_n ok (c := 7) (a := 0) (by decide +kernel)).1 (zt_n ok (c := 7) (a := 0) (by decide +kernel)).2.2.1 hc
theorem lh_ironsFor_v {G : z_G} {x1 : Int32} {x2 : Int32} {w w2 : ev_W} (ok : z_Ok G w) (ok2 : z_Ok G w2) {v : Int32} (hc : z_K G 168 [.ref 0, .int (x1), .int (x2)] w (.inl (some (.int v))) w2) : z_K G 406 [.ref 0, .int x1, .int x2, .ref 250] w (.inl (some (.int (Int32.ofNat 0)))) (w_sJ w2 250 0 v.toInt64) := by
  refine z_con ok.1 (ml := 5) (by decide +kernel) rfl rfl ?_
  show z_R G 406 0 [some (.ref (0)), some (.int (x1)), some (.int (x2)), some (.ref (250)), none] [] w (.inl (some (.int (Int32.ofNat 0)))) (w_sJ w2 250 0 v.toInt64)
  have hB : z_all [z_is 406 0 (zf_aload 0 3 1), z_is 406 1 (zf_cst 1 (Int32.ofNat 0) 2), z_is 406 2 (zf_aload 2 0 3), z_is 406 3 (zf_iload 3 1 4), z_is 406 4 (zf_iload 4 2 5), z_is 406 5 (zf_cv 5 168 2 7 8), z_is 406 8 (zf_i2l 8 9), z_is 406 9 (zf_last 9 10), z_is 406 10 (zf_goto 10 25), z_is 406 25 (zf_cst 25 (Int32.ofNat 0) 26), z_is 406 26 (zf_ret 0)] = true := by decide +kernel
  refine z_aload hB rfl (fun hB => ?_)
  refine z_cst hB (fun hB => ?_)
  refine z_aload hB rfl (fun hB => ?_)
  refine z_iload hB rfl (fun hB => ?_)
  refine z_iload hB rfl (fun hB => ?_)
  refine z_callV hB (as := [.int (x1), .int (x2)]) (a := 0) (rest := [.int (Int32.ofNat 0), .ref (250)]) rfl rfl rfl (zt_n ok (c := 7) (a := 0) (by decide +kernel)).1 (zt_n ok (c := 7) (a := 0) (by decide +kernel)).2.2.1 hc (fun hB => ?_)
  refine z_i2l hB (fun hB => ?_)
  refine z_last hB (zt_n ok2 (c := 14) (a := 250) (by decide +kernel)).1 (zt_n ok2 (c := 14) (a := 250) (by decide +kernel)).2.2.1 (by rw [(zt_n ok2 (c := 14) (a := 250) (by decide +kernel)).2.2.2]; decide +kernel) (fun hB => ?_)
  refine z_goto hB (fun hB => ?_)
  refine z_cst hB (fun hB => ?_)
  exact z_reti hB
theorem lh_ironsFor_0 {G : z_G} {x1 : Int32} {x2 : Int32} {w w2 : ev_W} (ok : z_Ok G w) (hc : z_K G 168 [.ref 0, .int (x1), .int (x2)] w (.inr 0) w2) : z_K G 406 [.ref 0, .int x1, .int x2, .ref 250] w (.inl (some (.int (Int32.ofNat 1)))) w2 := by
  refine z_con ok.1 (ml := 5) (by decide +kernel) rfl rfl ?_
  show z_R G 406 0 [some (.ref (0)), some (.int (x1)), some (.int (x2)), some (.ref (250)), none] [] w (.inl (some (.int (Int32.ofNat 1)))) w2
  have hB : z_all [z_is 406 0 (zf_aload 0 3 1), z_is 406 1 (zf_cst 1 (Int32.ofNat 0) 2), z_is 406 2 (zf_aload 2 0 3), z_is 406 3 (zf_iload 3 1 4), z_is 406 4 (zf_iload 4 2 5), z_is 406 5 (zf_cv 5 168 2 7 8)] = true := by decide +kernel
  refine z_aload hB rfl (fun hB => ?_)
  refine z_cst hB (fun hB => ?_)
  refine z_aload hB rfl (fun hB => ?_)
  refine z_iload hB rfl (fun hB => ?_)
  refine z_iload hB rfl (fun hB => ?_)
  exact z_callVh hB (as := [.int (x1), .int (x2)]) (a := 0) (rest := [.int (Int32.ofNat 0), .ref (250)]) rfl (b := 4) (by decide +kernel) rfl rfl rfl rfl (zt_n ok (c := 7) (a := 0) (by decide +kernel)).1 (zt_n ok (c := 7) (a := 0) (by decide +kernel)).2.2.1 hc
theorem lh_ironsFor_1 {G : z_G} {x1 : Int32} {x2 : Int32} {w w2 : ev_W} (ok : z_Ok G w) (hc : z_K G 168 [.ref 0, .int (x1), .int (x2)] w (.inr 1) w2) : z_K G 406 [.ref 0, .int x1, .int x2, .ref 250] w (.inl (some (.int (Int32.ofNat 2)))) w2 := by
  refine z_con ok.1 (ml := 5) (by decide +kernel) rfl rfl ?_
  show z_R G 406 0 [some (.ref (0)), some (.int (x1)), some (.int (x2)), some (.ref (250)), none] [] w (.inl (some (.int (Int32.ofNat 2)))) w2
  have hB : z_all [z_is 406 0 (zf_aload 0 3 1), z_is 406 1 (zf_cst 1 (Int32.ofNat 0) 2), z_is 406 2 (zf_aload 2 0 3), z_is 406 3 (zf_iload 3 1 4), z_is 406 4 (zf_iload 4 2 5), z_is 406 5 (zf_cv 5 168 2 7 8)] = true := by decide +kernel
  refine z_aload hB rfl (fun hB => ?_)
  refine z_cst hB (fun hB => ?_)
  refine z_aload hB rfl (fun hB => ?_)
  refine z_iload hB rfl (fun hB => ?_)
  refine z_iload hB rfl (fun hB => ?_)
  exact z_callVh hB (as := [.int (x1), .int (x2)]) (a := 0) (rest := [.int (Int32.ofNat 0), .ref (250)]) rfl (b := 4) (by decide +kernel) rfl rfl rfl rfl (zt_n ok (c := 7) (a := 0) (by decide +kernel)).1 (zt_n ok (c := 7) (a := 0) (by decide +kernel)).2.2.1 hc
theorem lh_ironsFor_2 {G : z_G} {x1 : Int32} {x2 : Int32} {w w2 : ev_W} (ok : z_Ok G w) (hc : z_K G 168 [.ref 0, .int (x1), .int (x2)] w (.inr 2) w2) : z_K G 406 [.ref 0, .int x1, .int x2, .ref 250] w (.inl (some (.int (Int32.ofNat 3)))) w2 := by
  refine z_con ok.1 (ml := 5) (by decide +kernel) rfl rfl ?_
  show z_R G 406 0 [some (.ref (0)), some (.int (x1)), some (.int (x2)), some (.ref (250)), none] [] w (.inl (some (.int (Int32.ofNat 3)))) w2
  have hB : z_all [z_is 406 0 (zf_aload 0 3 1), z_is 406 1 (zf_cst 1 (Int32.ofNat 0) 2), z_is 406 2 (zf_aload 2 0 3), z_is 406 3 (zf_iload 3 1 4), z_is 406 4 (zf_iload 4 2 5), z_is 406 5 (zf_cv 5 168 2 7 8)] = true := by decide +kernel
  refine z_aload hB rfl (fun hB => ?_)
  refine z_cst hB (fun hB => ?_)
  refine z_aload hB rfl (fun hB => ?_)
  refine z_iload hB rfl (fun hB => ?_)
  refine z_iload hB rfl (fun hB => ?_)
  exact z_callVh hB (as := [.int (x1), .int (x2)]) (a := 0) (rest := [.int (Int32.ofNat 0), .ref (250)]) rfl (b := 4) (by decide +kernel) rfl rfl rfl rfl (zt_n ok (c := 7) (a := 0) (by decide +kernel)).1 (zt_n ok (c := 7) (a := 0) (by decide +kernel)).2.2.1 hc
theorem lh_readyShare_v {G : z_G} {w w2 : ev_W} (ok : z_Ok G w) (ok2 : z_Ok G w2) {v : UInt32} (hne : vf_n64 (FP.f2d v)) (hc : z_K G 169 [.ref 0] w (.inl (some (.float v))) w2) : z_K G 407 [.ref 0, .ref 251] w (.inl (some (.int (Int32.ofNat 0)))) (w_sD w2 251 0 (FP.f2d v)) := by
  refine z_con ok.1 (ml := 3) (by decide +kernel) rfl rfl ?_
  show z_R G 407 0 [some (.ref (0)), some (.ref (251)), none] [] w (.inl (some (.int (Int32.ofNat 0)))) (w_sD w2 251 0 (FP.f2d v))
  have hB : z_all [z_is 407 0 (zf_aload 0 1 1), z_is 407 1 (zf_cst 1 (Int32.ofNat 0) 2), z_is 407 2 (zf_aload 2 0 3), z_is 407 3 (zf_cv 3 169 0 7 6), z_at 407 6 (zf_f2d 6 7), z_is 407 7 (zf_dast 7 8), z_is 407 8 (zf_goto 8 14), z_is 407 14 (zf_cst 14 (Int32.ofNat 0) 15), z_is 407 15 (zf_ret 0)] = true := by decide +kernel
  refine z_aload hB rfl (fun hB => ?_)
  refine z_cst hB (fun hB => ?_)
  refine z_aload hB rfl (fun hB => ?_)
  refine z_callV hB (as := []) (a := 0) (rest := [.int (Int32.ofNat 0), .ref (251)]) rfl rfl rfl (zt_n ok (c := 7) (a := 0) (by decide +kernel)).1 (zt_n ok (c := 7) (a := 0) (by decide +kernel)).2.2.1 hc (fun hB => ?_)
  refine z_f2d hB hne (fun hB => ?_)
  refine z_dast hB (zt_n ok2 (c := 15) (a := 251) (by decide +kernel)).1 (zt_n ok2 (c := 15) (a := 251) (by decide +kernel)).2.2.1 (by rw [(zt_n ok2 (c := 15) (a := 251) (by decide +kernel)).2.2.2]; decide +kernel) (fun hB => ?_)
  refine z_goto hB (fun hB => ?_)
  refine z_cst hB (fun hB => ?_)
  exact z_reti hB
theorem lh_readyShare_0 {G : z_G} {w w2 : ev_W} (ok : z_Ok G w) (hc : z_K G 169 [.ref 0] w (.inr 0) w2) : z_K G 407 [.ref 0, .ref 251] w (.inl (some (.int (Int32.ofNat 1)))) w2 := by
  refine z_con ok.1 (ml := 3) (by decide +kernel) rfl rfl ?_
  show z_R G 407 0 [some (.ref (0)), some (.ref (251)), none] [] w (.inl (some (.int (Int32.ofNat 1)))) w2
  have hB : z_all [z_is 407 0 (zf_aload 0 1 1), z_is 407 1 (zf_cst 1 (Int32.ofNat 0) 2), z_is 407 2 (zf_aload 2 0 3), z_is 407 3 (zf_cv 3 169 0 7 6)] = true := by decide +kernel
  refine z_aload hB rfl (fun hB => ?_)
  refine z_cst hB (fun hB => ?_)
  refine z_aload hB rfl (fun hB => ?_)
  exact z_callVh hB (as := []) (a := 0) (rest := [.int (Int32.ofNat 0), .ref (251)]) rfl (b := 2) (by decide +kernel) rfl rfl rfl rfl (zt_n ok (c := 7) (a := 0) (by decide +kernel)).1 (zt_n ok (c := 7) (a := 0) (by decide +kernel)).2.2.1 hc
theorem lh_meanDirt_v {G : z_G} {w w2 : ev_W} (ok : z_Ok G w) (ok2 : z_Ok G w2) {v : UInt64} (hc : z_K G 170 [.ref 0] w (.inl (some (.double v))) w2) : z_K G 408 [.ref 0, .ref 251] w (.inl (some (.int (Int32.ofNat 0)))) (w_sD w2 251 0 v) := by
  refine z_con ok.1 (ml := 3) (by decide +kernel) rfl rfl ?_
  show z_R G 408 0 [some (.ref (0)), some (.ref (251)), none] [] w (.inl (some (.int (Int32.ofNat 0)))) (w_sD w2 251 0 v)
  have hB : z_all [z_is 408 0 (zf_aload 0 1 1), z_is 408 1 (zf_cst 1 (Int32.ofNat 0) 2), z_is 408 2 (zf_aload 2 0 3), z_is 408 3 (zf_cv 3 170 0 7 6), z_is 408 6 (zf_dast 6 7), z_is 408 7 (zf_goto 7 13), z_is 408 13 (zf_cst 13 (Int32.ofNat 0) 14), z_is 408 14 (zf_ret 0)] = true := by decide +kernel
  refine z_aload hB rfl (fun hB => ?_)
  refine z_cst hB (fun hB => ?_)
  refine z_aload hB rfl (fun hB => ?_)
  refine z_callV hB (as := []) (a := 0) (rest := [.int (Int32.ofNat 0), .ref (251)]) rfl rfl rfl (zt_n ok (c := 7) (a := 0) (by decide +kernel)).1 (zt_n ok (c := 7) (a := 0) (by decide +kernel)).2.2.1 hc (fun hB => ?_)
  refine z_dast hB (zt_n ok2 (c := 15) (a := 251) (by decide +kernel)).1 (zt_n ok2 (c := 15) (a := 251) (by decide +kernel)).2.2.1 (by rw [(zt_n ok2 (c := 15) (a := 251) (by decide +kernel)).2.2.2]; decide +kernel) (fun hB => ?_)
  refine z_goto hB (fun hB => ?_)
  refine z_cst hB (fun hB => ?_)
  exact z_reti hB
theorem lh_meanDirt_0 {G : z_G} {w w2 : ev_W} (ok : z_Ok G w) (hc : z_K G 170 [.ref 0] w (.inr 0) w2) : z_K G 408 [.ref 0, .ref 251] w (.inl (some (.int (Int32.ofNat 1)))) w2 := by
  refine z_con ok.1 (ml := 3) (by decide +kernel) rfl rfl ?_
  show z_R G 408 0 [some (.ref (0)), some (.ref (251)), none] [] w (.inl (some (.int (Int32.ofNat 1)))) w2
  have hB : z_all [z_is 408 0 (zf_aload 0 1 1), z_is 408 1 (zf_cst 1 (Int32.ofNat 0) 2), z_is 408 2 (zf_aload 2 0 3), z_is 408 3 (zf_cv 3 170 0 7 6)] = true := by decide +kernel
  refine z_aload hB rfl (fun hB => ?_)
  refine z_cst hB (fun hB => ?_)
  refine z_aload hB rfl (fun hB => ?_)
  exact z_callVh hB (as := []) (a := 0) (rest := [.int (Int32.ofNat 0), .ref (251)]) rfl (b := 2) (by decide +kernel) rfl rfl rfl rfl (zt_n ok (c := 7) (a := 0) (by decide +kernel)).1 (zt_n ok (c := 7) (a := 0) (by decide +kernel)).2.2.1 hc
theorem lh_writeFlag_v {G : z_G} {x1 : Int32} {w w2 : ev_W} (ok : z_Ok G w) (ok2 : z_Ok G w2) {v : Int32} (hc : z_K G 171 [.ref 0, .int (x1)] w (.inl (some (.int v))) w2) : z_K G 409 [.ref 0, .int x1, .ref 250] w (.inl (some (.int (Int32.ofNat 0)))) (w_sJ w2 250 0 v.toInt64) := by
  refine z_con ok.1 (ml := 4) (by decide +kernel) rfl rfl ?_
  show z_R G 409 0 [some (.ref (0)), some (.int (x1)), some (.ref (250)), none] [] w (.inl (some (.int (Int32.ofNat 0)))) (w_sJ w2 250 0 v.toInt64)
  have hB : z_all [z_is 409 0 (zf_aload 0 2 1), z_is 409 1 (zf_cst 1 (Int32.ofNat 0) 2), z_is 409 2 (zf_aload 2 0 3), z_is 409 3 (zf_iload 3 1 4), z_is 409 4 (zf_cv 4 171 1 7 7), z_is 409 7 (zf_i2l 7 8), z_is 409 8 (zf_last 8 9), z_is 409 9 (zf_goto 9 18), z_is 409 18 (zf_cst 18 (Int32.ofNat 0) 19), z_is 409 19 (zf_ret 0)] = true := by decide +kernel
  refine z_aload hB rfl (fun hB => ?_)
  refine z_cst hB (fun hB => ?_)
  refine z_aload hB rfl (fun hB => ?_)
  refine z_iload hB rfl (fun hB => ?_)
  refine z_callV hB (as := [.int (x1)]) (a := 0) (rest := [.int (Int32.ofNat 0), .ref (250)]) rfl rfl rfl (zt_n ok (c := 7) (a := 0) (by decide +kernel)).1 (zt_n ok (c := 7) (a := 0) (by decide +kernel)).2.2.1 hc (fun hB => ?_)
  refine z_i2l hB (fun hB => ?_)
  refine z_last hB (zt_n ok2 (c := 14) (a := 250) (by decide +kernel)).1 (zt_n ok2 (c := 14) (a := 250) (by decide +kernel)).2.2.1 (by rw [(zt_n ok2 (c := 14) (a := 250) (by decide +kernel)).2.2.2]; decide +kernel) (fun hB => ?_)
  refine z_goto hB (fun hB => ?_)
  refine z_cst hB (fun hB => ?_)
  exact z_reti hB
theorem lh_writeFlag_0 {G : z_G} {x1 : Int32} {w w2 : ev_W} (ok : z_Ok G w) (hc : z_K G 171 [.ref 0, .int (x1)] w (.inr 0) w2) : z_K G 409 [.ref 0, .int x1, .ref 250] w (.inl (some (.int (Int32.ofNat 1)))) w2 := by
  refine z_con ok.1 (ml := 4) (by decide +kernel) rfl rfl ?_
  show z_R G 409 0 [some (.ref (0)), some (.int (x1)), some (.ref (250)), none] [] w (.inl (some (.int (Int32.ofNat 1)))) w2
  have hB : z_all [z_is 409 0 (zf_aload 0 2 1), z_is 409 1 (zf_cst 1 (Int32.ofNat 0) 2), z_is 409 2 (zf_aload 2 0 3), z_is 409 3 (zf_iload 3 1 4), z_is 409 4 (zf_cv 4 171 1 7 7)] = true := by decide +kernel
  refine z_aload hB rfl (fun hB => ?_)
  refine z_cst hB (fun hB => ?_)
  refine z_aload hB rfl (fun hB => ?_)
  refine z_iload hB rfl (fun hB => ?_)
  exact z_callVh hB (as := [.int (x1)]) (a := 0) (rest := [.int (Int32.ofNat 0), .ref (250)]) rfl (b := 3) (by decide +kernel) rfl rfl rfl rfl (zt_n ok (c := 7) (a := 0) (by decide +kernel)).1 (zt_n ok (c := 7) (a := 0) (by decide +kernel)).2.2.1 hc
theorem lh_writeFlag_1 {G : z_G} {x1 : Int32} {w w2 : ev_W} (ok : z_Ok G w) (hc : z_K G 171 [.ref 0, .int (x1)] w (.inr 1) w2) : z_K G 409 [.ref 0, .int x1, .ref 250] w (.inl (some (.int (Int32.ofNat 2)))) w2 := by
  refine z_con ok.1 (ml := 4) (by decide +kernel) rfl rfl ?_
  show z_R G 409 0 [some (.ref (0)), some (.int (x1)), some (.ref (250)), none] [] w (.inl (some (.int (Int32.ofNat 2)))) w2
  have hB : z_all [z_is 409 0 (zf_aload 0 2 1), z_is 409 1 (zf_cst 1 (Int32.ofNat 0) 2), z_is 409 2 (zf_aload 2 0 3), z_is 409 3 (zf_iload 3 1 4), z_is 409 4 (zf_cv 4 171 1 7 7)] = true := by decide +kernel
  refine z_aload hB rfl (fun hB => ?_)
  refine z_cst hB (fun hB => ?_)
  refine z_aload hB rfl (fun hB => ?_)
  refine z_iload hB rfl (fun hB => ?_)
  exact z_callVh hB (as := [.int (x1)]) (a := 0) (rest := [.int (Int32.ofNat 0), .ref (250)]) rfl (b := 3) (by decide +kernel) rfl rfl rfl rfl (zt_n ok (c := 7) (a := 0) (by decide +kernel)).1 (zt_n ok (c := 7) (a := 0) (by decide +kernel)).2.2.1 hc
theorem lh_writeTub_v {G : z_G} {x1 : Int32} {w w2 : ev_W} (ok : z_Ok G w) (ok2 : z_Ok G w2) {v : Int32} (hc : z_K G 172 [.ref 0, .int (x1)] w (.inl (some (.int v))) w2) : z_K G 410 [.ref 0, .int x1, .ref 250] w (.inl (some (.int (Int32.ofNat 0)))) (w_sJ w2 250 0 v.toInt64) := by
  refine z_con ok.1 (ml := 4) (by decide +kernel) rfl rfl ?_
  show z_R G 410 0 [some (.ref (0)), some (.int (x1)), some (.ref (250)), none] [] w (.inl (some (.int (Int32.ofNat 0)))) (w_sJ w2 250 0 v.toInt64)
  have hB : z_all [z_is 410 0 (zf_aload 0 2 1), z_is 410 1 (zf_cst 1 (Int32.ofNat 0) 2), z_is 410 2 (zf_aload 2 0 3), z_is 410 3 (zf_iload 3 1 4), z_is 410 4 (zf_cv 4 172 1 7 7), z_is 410 7 (zf_i2l 7 8), z_is 410 8 (zf_last 8 9), z_is 410 9 (zf_goto 9 18), z_is 410 18 (zf_cst 18 (Int32.ofNat 0) 19), z_is 410 19 (zf_ret 0)] = true := by decide +kernel
  refine z_aload hB rfl (fun hB => ?_)
  refine z_cst hB (fun hB => ?_)
  refine z_aload hB rfl (fun hB => ?_)
  refine z_iload hB rfl (fun hB => ?_)
  refine z_callV hB (as := [.int (x1)]) (a := 0) (rest := [.int (Int32.ofNat 0), .ref (250)]) rfl rfl rfl (zt_n ok (c := 7) (a := 0) (by decide +kernel)).1 (zt_n ok (c := 7) (a := 0) (by decide +kernel)).2.2.1 hc (fun hB => ?_)
  refine z_i2l hB (fun hB => ?_)
  refine z_last hB (zt_n ok2 (c := 14) (a := 250) (by decide +kernel)).1 (zt_n ok2 (c := 14) (a := 250) (by decide +kernel)).2.2.1 (by rw [(zt_n ok2 (c := 14) (a := 250) (by decide +kernel)).2.2.2]; decide +kernel) (fun hB => ?_)
  refine z_goto hB (fun hB => ?_)
  refine z_cst hB (fun hB => ?_)
  exact z_reti hB
theorem lh_writeTub_0 {G : z_G} {x1 : Int32} {w w2 : ev_W} (ok : z_Ok G w) (hc : z_K G 172 [.ref 0, .int (x1)] w (.inr 0) w2) : z_K G 410 [.ref 0, .int x1, .ref 250] w (.inl (some (.int (Int32.ofNat 1)))) w2 := by
  refine z_con ok.1 (ml := 4) (by decide +kernel) rfl rfl ?_
  show z_R G 410 0 [some (.ref (0)), some (.int (x1)), some (.ref (250)), none] [] w (.inl (some (.int (Int32.ofNat 1)))) w2
  have hB : z_all [z_is 410 0 (zf_aload 0 2 1), z_is 410 1 (zf_cst 1 (Int32.ofNat 0) 2), z_is 410 2 (zf_aload 2 0 3), z_is 410 3 (zf_iload 3 1 4), z_is 410 4 (zf_cv 4 172 1 7 7)] = true := by decide +kernel
  refine z_aload hB rfl (fun hB => ?_)
  refine z_cst hB (fun hB => ?_)
  refine z_aload hB rfl (fun hB => ?_)
  refine z_iload hB rfl (fun hB => ?_)
  exact z_callVh hB (as := [.int (x1)]) (a := 0) (rest := [.int (Int32.ofNat 0), .ref (250)]) rfl (b := 3) (by decide +kernel) rfl rfl rfl rfl (zt_n ok (c := 7) (a := 0) (by decide +kernel)).1 (zt_n ok (c := 7) (a := 0) (by decide +kernel)).2.2.1 hc
theorem lh_writeTub_1 {G : z_G} {x1 : Int32} {w w2 : ev_W} (ok : z_Ok G w) (hc : z_K G 172 [.ref 0, .int (x1)] w (.inr 1) w2) : z_K G 410 [.ref 0, .int x1, .ref 250] w (.inl (some (.int (Int32.ofNat 2)))) w2 := by
  refine z_con ok.1 (ml := 4) (by decide +kernel) rfl rfl ?_
  show z_R G 410 0 [some (.ref (0)), some (.int (x1)), some (.ref (250)), none] [] w (.inl (some (.int (Int32.ofNat 2)))) w2
  have hB : z_all [z_is 410 0 (zf_aload 0 2 1), z_is 410 1 (zf_cst 1 (Int32.ofNat 0) 2), z_is 410 2 (zf_aload 2 0 3), z_is 410 3 (zf_iload 3 1 4), z_is 410 4 (zf_cv 4 172 1 7 7)] = true := by decide +kernel
  refine z_aload hB rfl (fun hB => ?_)
  refine z_cst hB (fun hB => ?_)
  refine z_aload hB rfl (fun hB => ?_)
  refine z_iload hB rfl (fun hB => ?_)
  exact z_callVh hB (as := [.int (x1)]) (a := 0) (rest := [.int (Int32.ofNat 0), .ref (250)]) rfl (b := 3) (by decide +kernel) rfl rfl rfl rfl (zt_n ok (c := 7) (a := 0) (by decide +kernel)).1 (zt_n ok (c := 7) (a := 0) (by decide +kernel)).2.2.1 hc
theorem lh_writeNation_v {G : z_G} {x1 : Int32} {w w2 : ev_W} (ok : z_Ok G w) (ok2 : z_Ok G w2) {v : Int32} (hc : z_K G 173 [.ref 0, .int (x1)] w (.inl (some (.int v))) w2) : z_K G 411 [.ref 0, .int x1, .ref 250] w (.inl (some (.int (Int32.ofNat 0)))) (w_sJ w2 250 0 v.toInt64) := by
  refine z_con ok.1 (ml := 4) (by decide +kernel) rfl rfl ?_
  show z_R G 411 0 [some (.ref (0)), some (.int (x1)), some (.ref (250)), none] [] w (.inl (some (.int (Int32.ofNat 0)))) (w_sJ w2 250 0 v.toInt64)
  have hB : z_all [z_is 411 0 (zf_aload 0 2 1), z_is 411 1 (zf_cst 1 (Int32.ofNat 0) 2), z_is 411 2 (zf_aload 2 0 3), z_is 411 3 (zf_iload 3 1 4), z_is 411 4 (zf_cv 4 173 1 7 7), z_is 411 7 (zf_i2l 7 8), z_is 411 8 (zf_last 8 9), z_is 411 9 (zf_goto 9 18), z_is 411 18 (zf_cst 18 (Int32.ofNat 0) 19), z_is 411 19 (zf_ret 0)] = true := by decide +kernel
  refine z_aload hB rfl (fun hB => ?_)
  refine z_cst hB (fun hB => ?_)
  refine z_aload hB rfl (fun hB => ?_)
  refine z_iload hB rfl (fun hB => ?_)
  refine z_callV hB (as := [.int (x1)]) (a := 0) (rest := [.int (Int32.ofNat 0), .ref (250)]) rfl rfl rfl (zt_n ok (c := 7) (a := 0) (by decide +kernel)).1 (zt_n ok (c := 7) (a := 0) (by decide +kernel)).2.2.1 hc (fun hB => ?_)
  refine z_i2l hB (fun hB => ?_)
  refine z_last hB (zt_n ok2 (c := 14) (a := 250) (by decide +kernel)).1 (zt_n ok2 (c := 14) (a := 250) (by decide +kernel)).2.2.1 (by rw [(zt_n ok2 (c := 14) (a := 250) (by decide +kernel)).2.2.2]; decide +kernel) (fun hB => ?_)
  refine z_goto hB (fun hB => ?_)
  refine z_cst hB (fun hB => ?_)
  exact z_reti hB
theorem lh_writeNation_0 {G : z_G} {x1 : Int32} {w w2 : ev_W} (ok : z_Ok G w) (hc : z_K G 173 [.ref 0, .int (x1)] w (.inr 0) w2) : z_K G 411 [.ref 0, .int x1, .ref 250] w (.inl (some (.int (Int32.ofNat 1)))) w2 := by
  refine z_con ok.1 (ml := 4) (by decide +kernel) rfl rfl ?_
  show z_R G 411 0 [some (.ref (0)), some (.int (x1)), some (.ref (250)), none] [] w (.inl (some (.int (Int32.ofNat 1)))) w2
  have hB : z_all [z_is 411 0 (zf_aload 0 2 1), z_is 411 1 (zf_cst 1 (Int32.ofNat 0) 2), z_is 411 2 (zf_aload 2 0 3), z_is 411 3 (zf_iload 3 1 4), z_is 411 4 (zf_cv 4 173 1 7 7)] = true := by decide +kernel
  refine z_aload hB rfl (fun hB => ?_)
  refine z_cst hB (fun hB => ?_)
  refine z_aload hB rfl (fun hB => ?_)
  refine z_iload hB rfl (fun hB => ?_)
  exact z_callVh hB (as := [.int (x1)]) (a := 0) (rest := [.int (Int32.ofNat 0), .ref (250)]) rfl (b := 3) (by decide +kernel) rfl rfl rfl rfl (zt_n ok (c := 7) (a := 0) (by decide +kernel)).1 (zt_n ok (c := 7) (a := 0) (by decide +kernel)).2.2.1 hc
theorem lh_writeNation_1 {G : z_G} {x1 : Int32} {w w2 : ev_W} (ok : z_Ok G w) (hc : z_K G 173 [.ref 0, .int (x1)] w (.inr 1) w2) : z_K G 411 [.ref 0, .int x1, .ref 250] w (.inl (some (.int (Int32.ofNat 2)))) w2 := by
  refine z_con ok.1 (ml := 4) (by decide +kernel) rfl rfl ?_
  show z_R G 411 0 [some (.ref (0)), some (.int (x1)), some (.ref (250)), none] [] w (.inl (some (.int (Int32.ofNat 2)))) w2
  have hB : z_all [z_is 411 0 (zf_aload 0 2 1), z_is 411 1 (zf_cst 1 (Int32.ofNat 0) 2), z_is 411 2 (zf_aload 2 0 3), z_is 411 3 (zf_iload 3 1 4), z_is 411 4 (zf_cv 4 173 1 7 7)] = true := by decide +kernel
  refine z_aload hB rfl (fun hB => ?_)
  refine z_cst hB (fun hB => ?_)
  refine z_aload hB rfl (fun hB => ?_)
  refine z_iload hB rfl (fun hB => ?_)
  exact z_callVh hB (as := [.int (x1)]) (a := 0) (rest := [.int (Int32.ofNat 0), .ref (250)]) rfl (b := 3) (by decide +kernel) rfl rfl rfl rfl (zt_n ok (c := 7) (a := 0) (by decide +kernel)).1 (zt_n ok (c := 7) (a := 0) (by decide +kernel)).2.2.1 hc
theorem lh_writeLine_v {G : z_G} {w w2 : ev_W} (ok : z_Ok G w) (ok2 : z_Ok G w2) {v : Int32} (hc : z_K G 174 [.ref 0] w (.inl (some (.int v))) w2) : z_K G 412 [.ref 0, .ref 250] w (.inl (some (.int (Int32.ofNat 0)))) (w_sJ w2 250 0 v.toInt64) := by
  refine z_con ok.1 (ml := 3) (by decide +kernel) rfl rfl ?_
  show z_R G 412 0 [some (.ref (0)), some (.ref (250)), none] [] w (.inl (some (.int (Int32.ofNat 0)))) (w_sJ w2 250 0 v.toInt64)
  have hB : z_all [z_is 412 0 (zf_aload 0 1 1), z_is 412 1 (zf_cst 1 (Int32.ofNat 0) 2), z_is 412 2 (zf_aload 2 0 3), z_is 412 3 (zf_cv 3 174 0 7 6), z_is 412 6 (zf_i2l 6 7), z_is 412 7 (zf_last 7 8), z_is 412 8 (zf_goto 8 14), z_is 412 14 (zf_cst 14 (Int32.ofNat 0) 15), z_is 412 15 (zf_ret 0)] = true := by decide +kernel
  refine z_aload hB rfl (fun hB => ?_)
  refine z_cst hB (fun hB => ?_)
  refine z_aload hB rfl (fun hB => ?_)
  refine z_callV hB (as := []) (a := 0) (rest := [.int (Int32.ofNat 0), .ref (250)]) rfl rfl rfl (zt_n ok (c := 7) (a := 0) (by decide +kernel)).1 (zt_n ok (c := 7) (a := 0) (by decide +kernel)).2.2.1 hc (fun hB => ?_)
  refine z_i2l hB (fun hB => ?_)
  refine z_last hB (zt_n ok2 (c := 14) (a := 250) (by decide +kernel)).1 (zt_n ok2 (c := 14) (a := 250) (by decide +kernel)).2.2.1 (by rw [(zt_n ok2 (c := 14) (a := 250) (by decide +kernel)).2.2.2]; decide +kernel) (fun hB => ?_)
  refine z_goto hB (fun hB => ?_)
  refine z_cst hB (fun hB => ?_)
  exact z_reti hB
theorem lh_writeLine_0 {G : z_G} {w w2 : ev_W} (ok : z_Ok G w) (hc : z_K G 174 [.ref 0] w (.inr 0) w2) : z_K G 412 [.ref 0, .ref 250] w (.inl (some (.int (Int32.ofNat 1)))) w2 := by
  refine z_con ok.1 (ml := 3) (by decide +kernel) rfl rfl ?_
  show z_R G 412 0 [some (.ref (0)), some (.ref (250)), none] [] w (.inl (some (.int (Int32.ofNat 1)))) w2
  have hB : z_all [z_is 412 0 (zf_aload 0 1 1), z_is 412 1 (zf_cst 1 (Int32.ofNat 0) 2), z_is 412 2 (zf_aload 2 0 3), z_is 412 3 (zf_cv 3 174 0 7 6)] = true := by decide +kernel
  refine z_aload hB rfl (fun hB => ?_)
  refine z_cst hB (fun hB => ?_)
  refine z_aload hB rfl (fun hB => ?_)
  exact z_callVh hB (as := []) (a := 0) (rest := [.int (Int32.ofNat 0), .ref (250)]) rfl (b := 2) (by decide +kernel) rfl rfl rfl rfl (zt_n ok (c := 7) (a := 0) (by decide +kernel)).1 (zt_n ok (c := 7) (a := 0) (by decide +kernel)).2.2.1 hc
theorem lh_textByte_v {G : z_G} {x1 : Int32} {w w2 : ev_W} (ok : z_Ok G w) (ok2 : z_Ok G w2) {v : Int32} (hc : z_K G 175 [.ref 0, .int (x1)] w (.inl (some (.int v))) w2) : z_K G 413 [.ref 0, .int x1, .ref 250] w (.inl (some (.int (Int32.ofNat 0)))) (w_sJ w2 250 0 v.toInt64) := by
  refine z_con ok.1 (ml := 4) (by decide +kernel) rfl rfl ?_
  show z_R G 413 0 [some (.ref (0)), some (.int (x1)), some (.ref (250)), none] [] w (.inl (some (.int (Int32.ofNat 0)))) (w_sJ w2 250 0 v.toInt64)
  have hB : z_all [z_is 413 0 (zf_aload 0 2 1), z_is 413 1 (zf_cst 1 (Int32.ofNat 0) 2), z_is 413 2 (zf_aload 2 0 3), z_is 413 3 (zf_iload 3 1 4), z_is 413 4 (zf_cv 4 175 1 7 7), z_is 413 7 (zf_i2l 7 8), z_is 413 8 (zf_last 8 9), z_is 413 9 (zf_goto 9 15), z_is 413 15 (zf_cst 15 (Int32.ofNat 0) 16), z_is 413 16 (zf_ret 0)] = true := by decide +kernel
  refine z_aload hB rfl (fun hB => ?_)
  refine z_cst hB (fun hB => ?_)
  refine z_aload hB rfl (fun hB => ?_)
  refine z_iload hB rfl (fun hB => ?_)
  refine z_callV hB (as := [.int (x1)]) (a := 0) (rest := [.int (Int32.ofNat 0), .ref (250)]) rfl rfl rfl (zt_n ok (c := 7) (a := 0) (by decide +kernel)).1 (zt_n ok (c := 7) (a := 0) (by decide +kernel)).2.2.1 hc (fun hB => ?_)
  refine z_i2l hB (fun hB => ?_)
  refine z_last hB (zt_n ok2 (c := 14) (a := 250) (by decide +kernel)).1 (zt_n ok2 (c := 14) (a := 250) (by decide +kernel)).2.2.1 (by rw [(zt_n ok2 (c := 14) (a := 250) (by decide +kernel)).2.2.2]; decide +kernel) (fun hB => ?_)
  refine z_goto hB (fun hB => ?_)
  refine z_cst hB (fun hB => ?_)
  exact z_reti hB
theorem lh_textByte_1 {G : z_G} {x1 : Int32} {w w2 : ev_W} (ok : z_Ok G w) (hc : z_K G 175 [.ref 0, .int (x1)] w (.inr 1) w2) : z_K G 413 [.ref 0, .int x1, .ref 250] w (.inl (some (.int (Int32.ofNat 1)))) w2 := by
  refine z_con ok.1 (ml := 4) (by decide +kernel) rfl rfl ?_
  show z_R G 413 0 [some (.ref (0)), some (.int (x1)), some (.ref (250)), none] [] w (.inl (some (.int (Int32.ofNat 1)))) w2
  have hB : z_all [z_is 413 0 (zf_aload 0 2 1), z_is 413 1 (zf_cst 1 (Int32.ofNat 0) 2), z_is 413 2 (zf_aload 2 0 3), z_is 413 3 (zf_iload 3 1 4), z_is 413 4 (zf_cv 4 175 1 7 7)] = true := by decide +kernel
  refine z_aload hB rfl (fun hB => ?_)
  refine z_cst hB (fun hB => ?_)
  refine z_aload hB rfl (fun hB => ?_)
  refine z_iload hB rfl (fun hB => ?_)
  exact z_callVh hB (as := [.int (x1)]) (a := 0) (rest := [.int (Int32.ofNat 0), .ref (250)]) rfl (b := 3) (by decide +kernel) rfl rfl rfl rfl (zt_n ok (c := 7) (a := 0) (by decide +kernel)).1 (zt_n ok (c := 7) (a := 0) (by decide +kernel)).2.2.1 hc
theorem lh_put_v {G : z_G} {x1 : Int32} {x2 : Int32} {w w2 : ev_W} (ok : z_Ok G w) (ok2 : z_Ok G w2) {v : Int32} (hc : z_K G 176 [.ref 0, .int (x1), .int (x2)] w (.inl (some (.int v))) w2) : z_K G 414 [.ref 0, .int x1, .int x2, .ref 250] w (.inl (some (.int (Int32.ofNat 0)))) (w_sJ w2 250 0 v.toInt64) := by
  refine z_con ok.1 (ml := 5) (by decide +kernel) rfl rfl ?_
  show z_R G 414 0 [some (.ref (0)), some (.int (x1)), some (.int (x2)), some (.ref (250)), none] [] w (.inl (some (.int (Int32.ofNat 0)))) (w_sJ w2 250 0 v.toInt64)
  have hB : z_all [z_is 414 0 (zf_aload 0 3 1), z_is 414 1 (zf_cst 1 (Int32.ofNat 0) 2), z_is 414 2 (zf_aload 2 0 3), z_is 414 3 (zf_iload 3 1 4), z_is 414 4 (zf_iload 4 2 5), z_is 414 5 (zf_cv 5 176 2 7 8), z_is 414 8 (zf_i2l 8 9), z_is 414 9 (zf_last 9 10), z_is 414 10 (zf_goto 10 25), z_is 414 25 (zf_cst 25 (Int32.ofNat 0) 26), z_is 414 26 (zf_ret 0)] = true := by decide +kernel
  refine z_aload hB rfl (fun hB => ?_)
  refine z_cst hB (fun hB => ?_)
  refine z_aload hB rfl (fun hB => ?_)
  refine z_iload hB rfl (fun hB => ?_)
  refine z_iload hB rfl (fun hB => ?_)
  refine z_callV hB (as := [.int (x1), .int (x2)]) (a := 0) (rest := [.int (Int32.ofNat 0), .ref (250)]) rfl rfl rfl (zt_n ok (c := 7) (a := 0) (by decide +kernel)).1 (zt_n ok (c := 7) (a := 0) (by decide +kernel)).2.2.1 hc (fun hB => ?_)
  refine z_i2l hB (fun hB => ?_)
  refine z_last hB (zt_n ok2 (c := 14) (a := 250) (by decide +kernel)).1 (zt_n ok2 (c := 14) (a := 250) (by decide +kernel)).2.2.1 (by rw [(zt_n ok2 (c := 14) (a := 250) (by decide +kernel)).2.2.2]; decide +kernel) (fun hB => ?_)
  refine z_goto hB (fun hB => ?_)
  refine z_cst hB (fun hB => ?_)
  exact z_reti hB
theorem lh_put_0 {G : z_G} {x1 : Int32} {x2 : Int32} {w w2 : ev_W} (ok : z_Ok G w) (hc : z_K G 176 [.ref 0, .int (x1), .int (x2)] w (.inr 0) w2) : z_K G 414 [.ref 0, .int x1, .int x2, .ref 250] w (.inl (some (.int (Int32.ofNat 1)))) w2 := by
  refine z_con ok.1 (ml := 5) (by decide +kernel) rfl rfl ?_
  show z_R G 414 0 [some (.ref (0)), some (.int (x1)), some (.int (x2)), some (.ref (250)), none] [] w (.inl (some (.int (Int32.ofNat 1)))) w2
  have hB : z_all [z_is 414 0 (zf_aload 0 3 1), z_is 414 1 (zf_cst 1 (Int32.ofNat 0) 2), z_is 414 2 (zf_aload 2 0 3), z_is 414 3 (zf_iload 3 1 4), z_is 414 4 (zf_iload 4 2 5), z_is 414 5 (zf_cv 5 176 2 7 8)] = true := by decide +kernel
  refine z_aload hB rfl (fun hB => ?_)
  refine z_cst hB (fun hB => ?_)
  refine z_aload hB rfl (fun hB => ?_)
  refine z_iload hB rfl (fun hB => ?_)
  refine z_iload hB rfl (fun hB => ?_)
  exact z_callVh hB (as := [.int (x1), .int (x2)]) (a := 0) (rest := [.int (Int32.ofNat 0), .ref (250)]) rfl (b := 4) (by decide +kernel) rfl rfl rfl rfl (zt_n ok (c := 7) (a := 0) (by decide +kernel)).1 (zt_n ok (c := 7) (a := 0) (by decide +kernel)).2.2.1 hc
theorem lh_put_1 {G : z_G} {x1 : Int32} {x2 : Int32} {w w2 : ev_W} (ok : z_Ok G w) (hc : z_K G 176 [.ref 0, .int (x1), .int (x2)] w (.inr 1) w2) : z_K G 414 [.ref 0, .int x1, .int x2, .ref 250] w (.inl (some (.int (Int32.ofNat 2)))) w2 := by
  refine z_con ok.1 (ml := 5) (by decide +kernel) rfl rfl ?_
  show z_R G 414 0 [some (.ref (0)), some (.int (x1)), some (.int (x2)), some (.ref (250)), none] [] w (.inl (some (.int (Int32.ofNat 2)))) w2
  have hB : z_all [z_is 414 0 (zf_aload 0 3 1), z_is 414 1 (zf_cst 1 (Int32.ofNat 0) 2), z_is 414 2 (zf_aload 2 0 3), z_is 414 3 (zf_iload 3 1 4), z_is 414 4 (zf_iload 4 2 5), z_is 414 5 (zf_cv 5 176 2 7 8)] = true := by decide +kernel
  refine z_aload hB rfl (fun hB => ?_)
  refine z_cst hB (fun hB => ?_)
  refine z_aload hB rfl (fun hB => ?_)
  refine z_iload hB rfl (fun hB => ?_)
  refine z_iload hB rfl (fun hB => ?_)
  exact z_callVh hB (as := [.int (x1), .int (x2)]) (a := 0) (rest := [.int (Int32.ofNat 0), .ref (250)]) rfl (b := 4) (by decide +kernel) rfl rfl rfl rfl (zt_n ok (c := 7) (a := 0) (by decide +kernel)).1 (zt_n ok (c := 7) (a := 0) (by decide +kernel)).2.2.1 hc
theorem lh_put_2 {G : z_G} {x1 : Int32} {x2 : Int32} {w w2 : ev_W} (ok : z_Ok G w) (hc : z_K G 176 [.ref 0, .int (x1), .int (x2)] w (.inr 2) w2) : z_K G 414 [.ref 0, .int x1, .int x2, .ref 250] w (.inl (some (.int (Int32.ofNat 3)))) w2 := by
  refine z_con ok.1 (ml := 5) (by decide +kernel) rfl rfl ?_
  show z_R G 414 0 [some (.ref (0)), some (.int (x1)), some (.int (x2)), some (.ref (250)), none] [] w (.inl (some (.int (Int32.ofNat 3)))) w2
  have hB : z_all [z_is 414 0 (zf_aload 0 3 1), z_is 414 1 (zf_cst 1 (Int32.ofNat 0) 2), z_is 414 2 (zf_aload 2 0 3), z_is 414 3 (zf_iload 3 1 4), z_is 414 4 (zf_iload 4 2 5), z_is 414 5 (zf_cv 5 176 2 7 8)] = true := by decide +kernel
  refine z_aload hB rfl (fun hB => ?_)
  refine z_cst hB (fun hB => ?_)
  refine z_aload hB rfl (fun hB => ?_)
  refine z_iload hB rfl (fun hB => ?_)
  refine z_iload hB rfl (fun hB => ?_)
  exact z_callVh hB (as := [.int (x1), .int (x2)]) (a := 0) (rest := [.int (Int32.ofNat 0), .ref (250)]) rfl (b := 4) (by decide +kernel) rfl rfl rfl rfl (zt_n ok (c := 7) (a := 0) (by decide +kernel)).1 (zt_n ok (c := 7) (a := 0) (by decide +kernel)).2.2.1 hc
theorem lh_wash_v {G : z_G} {x1 : Int32} {x2 : Int32} {w w2 : ev_W} (ok : z_Ok G w) (ok2 : z_Ok G w2) {v : Int32} (hc : z_K G 177 [.ref 0, .int (x1), .int (x2)] w (.inl (some (.int v))) w2) : z_K G 415 [.ref 0, .int x1, .int x2, .ref 250] w (.inl (some (.int (Int32.ofNat 0)))) (w_sJ w2 250 0 v.toInt64) := by
  refine z_con ok.1 (ml := 5) (by decide +kernel) rfl rfl ?_
  show z_R G 415 0 [some (.ref (0)), some (.int (x1)), some (.int (x2)), some (.ref (250)), none] [] w (.inl (some (.int (Int32.ofNat 0)))) (w_sJ w2 250 0 v.toInt64)
  have hB : z_all [z_is 415 0 (zf_aload 0 3 1), z_is 415 1 (zf_cst 1 (Int32.ofNat 0) 2), z_is 415 2 (zf_aload 2 0 3), z_is 415 3 (zf_iload 3 1 4), z_is 415 4 (zf_iload 4 2 5), z_is 415 5 (zf_cv 5 177 2 7 8), z_is 415 8 (zf_i2l 8 9), z_is 415 9 (zf_last 9 10), z_is 415 10 (zf_goto 10 25), z_is 415 25 (zf_cst 25 (Int32.ofNat 0) 26), z_is 415 26 (zf_ret 0)] = true := by decide +kernel
  refine z_aload hB rfl (fun hB => ?_)
  refine z_cst hB (fun hB => ?_)
  refine z_aload hB rfl (fun hB => ?_)
  refine z_iload hB rfl (fun hB => ?_)
  refine z_iload hB rfl (fun hB => ?_)
  refine z_callV hB (as := [.int (x1), .int (x2)]) (a := 0) (rest := [.int (Int32.ofNat 0), .ref (250)]) rfl rfl rfl (zt_n ok (c := 7) (a := 0) (by decide +kernel)).1 (zt_n ok (c := 7) (a := 0) (by decide +kernel)).2.2.1 hc (fun hB => ?_)
  refine z_i2l hB (fun hB => ?_)
  refine z_last hB (zt_n ok2 (c := 14) (a := 250) (by decide +kernel)).1 (zt_n ok2 (c := 14) (a := 250) (by decide +kernel)).2.2.1 (by rw [(zt_n ok2 (c := 14) (a := 250) (by decide +kernel)).2.2.2]; decide +kernel) (fun hB => ?_)
  refine z_goto hB (fun hB => ?_)
  refine z_cst hB (fun hB => ?_)
  exact z_reti hB
theorem lh_wash_0 {G : z_G} {x1 : Int32} {x2 : Int32} {w w2 : ev_W} (ok : z_Ok G w) (hc : z_K G 177 [.ref 0, .int (x1), .int (x2)] w (.inr 0) w2) : z_K G 415 [.ref 0, .int x1, .int x2, .ref 250] w (.inl (some (.int (Int32.ofNat 1)))) w2 := by
  refine z_con ok.1 (ml := 5) (by decide +kernel) rfl rfl ?_
  show z_R G 415 0 [some (.ref (0)), some (.int (x1)), some (.int (x2)), some (.ref (250)), none] [] w (.inl (some (.int (Int32.ofNat 1)))) w2
  have hB : z_all [z_is 415 0 (zf_aload 0 3 1), z_is 415 1 (zf_cst 1 (Int32.ofNat 0) 2), z_is 415 2 (zf_aload 2 0 3), z_is 415 3 (zf_iload 3 1 4), z_is 415 4 (zf_iload 4 2 5), z_is 415 5 (zf_cv 5 177 2 7 8)] = true := by decide +kernel
  refine z_aload hB rfl (fun hB => ?_)
  refine z_cst hB (fun hB => ?_)
  refine z_aload hB rfl (fun hB => ?_)
  refine z_iload hB rfl (fun hB => ?_)
  refine z_iload hB rfl (fun hB => ?_)
  exact z_callVh hB (as := [.int (x1), .int (x2)]) (a := 0) (rest := [.int (Int32.ofNat 0), .ref (250)]) rfl (b := 4) (by decide +kernel) rfl rfl rfl rfl (zt_n ok (c := 7) (a := 0) (by decide +kernel)).1 (zt_n ok (c := 7) (a := 0) (by decide +kernel)).2.2.1 hc
theorem lh_wash_1 {G : z_G} {x1 : Int32} {x2 : Int32} {w w2 : ev_W} (ok : z_Ok G w) (hc : z_K G 177 [.ref 0, .int (x1), .int (x2)] w (.inr 1) w2) : z_K G 415 [.ref 0, .int x1, .int x2, .ref 250] w (.inl (some (.int (Int32.ofNat 2)))) w2 := by
  refine z_con ok.1 (ml := 5) (by decide +kernel) rfl rfl ?_
  show z_R G 415 0 [some (.ref (0)), some (.int (x1)), some (.int (x2)), some (.ref (250)), none] [] w (.inl (some (.int (Int32.ofNat 2)))) w2
  have hB : z_all [z_is 415 0 (zf_aload 0 3 1), z_is 415 1 (zf_cst 1 (Int32.ofNat 0) 2), z_is 415 2 (zf_aload 2 0 3), z_is 415 3 (zf_iload 3 1 4), z_is 415 4 (zf_iload 4 2 5), z_is 415 5 (zf_cv 5 177 2 7 8)] = true := by decide +kernel
  refine z_aload hB rfl (fun hB => ?_)
  refine z_cst hB (fun hB => ?_)
  refine z_aload hB rfl (fun hB => ?_)
  refine z_iload hB rfl (fun hB => ?_)
  refine z_iload hB rfl (fun hB => ?_)
  exact z_callVh hB (as := [.int (x1), .int (x2)]) (a := 0) (rest := [.int (Int32.ofNat 0), .ref (250)]) rfl (b := 4) (by decide +kernel) rfl rfl rfl rfl (zt_n ok (c := 7) (a := 0) (by decide +kernel)).1 (zt_n ok (c := 7) (a := 0) (by decide +kernel)).2.2.1 hc
theorem lh_wash_2 {G : z_G} {x1 : Int32} {x2 : Int32} {w w2 : ev_W} (ok : z_Ok G w) (hc : z_K G 177 [.ref 0, .int (x1), .int (x2)] w (.inr 2) w2) : z_K G 415 [.ref 0, .int x1, .int x2, .ref 250] w (.inl (some (.int (Int32.ofNat 3)))) w2 := by
  refine z_con ok.1 (ml := 5) (by decide +kernel) rfl rfl ?_
  show z_R G 415 0 [some (.ref (0)), some (.int (x1)), some (.int (x2)), some (.ref (250)), none] [] w (.inl (some (.int (Int32.ofNat 3)))) w2
  have hB : z_all [z_is 415 0 (zf_aload 0 3 1), z_is 415 1 (zf_cst 1 (Int32.ofNat 0) 2), z_is 415 2 (zf_aload 2 0 3), z_is 415 3 (zf_iload 3 1 4), z_is 415 4 (zf_iload 4 2 5), z_is 415 5 (zf_cv 5 177 2 7 8)] = true := by decide +kernel
  refine z_aload hB rfl (fun hB => ?_)
  refine z_cst hB (fun hB => ?_)
  refine z_aload hB rfl (fun hB => ?_)
  refine z_iload hB rfl (fun hB => ?_)
  refine z_iload hB rfl (fun hB => ?_)
  exact z_callVh hB (as := [.int (x1), .int (x2)]) (a := 0) (rest := [.int (Int32.ofNat 0), .ref (250)]) rfl (b := 4) (by decide +kernel) rfl rfl rfl rfl (zt_n ok (c := 7) (a := 0) (by decide +kernel)).1 (zt_n ok (c := 7) (a := 0) (by decide +kernel)).2.2.1 hc
theorem lh_hang_v {G : z_G} {x1 : Int32} {w w2 : ev_W} (ok : z_Ok G w) (ok2 : z_Ok G w2) {v : Int32} (hc : z_K G 178 [.ref 0, .int (x1)] w (.inl (some (.int v))) w2) : z_K G 416 [.ref 0, .int x1, .ref 250] w (.inl (some (.int (Int32.ofNat 0)))) (w_sJ w2 250 0 v.toInt64) := by
  refine z_con ok.1 (ml := 4) (by decide +kernel) rfl rfl ?_
  show z_R G 416 0 [some (.ref (0)), some (.int (x1)), some (.ref (250)), none] [] w (.inl (some (.int (Int32.ofNat 0)))) (w_sJ w2 250 0 v.toInt64)
  have hB : z_all [z_is 416 0 (zf_aload 0 2 1), z_is 416 1 (zf_cst 1 (Int32.ofNat 0) 2), z_is 416 2 (zf_aload 2 0 3), z_is 416 3 (zf_iload 3 1 4), z_is 416 4 (zf_cv 4 178 1 7 7), z_is 416 7 (zf_i2l 7 8), z_is 416 8 (zf_last 8 9), z_is 416 9 (zf_goto 9 21), z_is 416 21 (zf_cst 21 (Int32.ofNat 0) 22), z_is 416 22 (zf_ret 0)] = true := by decide +kernel
  refine z_aload hB rfl (fun hB => ?_)
  refine z_cst hB (fun hB => ?_)
  refine z_aload hB rfl (fun hB => ?_)
  refine z_iload hB rfl (fun hB => ?_)
  refine z_callV hB (as := [.int (x1)]) (a := 0) (rest := [.int (Int32.ofNat 0), .ref (250)]) rfl rfl rfl (zt_n ok (c := 7) (a := 0) (by decide +kernel)).1 (zt_n ok (c := 7) (a := 0) (by decide +kernel)).2.2.1 hc (fun hB => ?_)
  refine z_i2l hB (fun hB => ?_)
  refine z_last hB (zt_n ok2 (c := 14) (a := 250) (by decide +kernel)).1 (zt_n ok2 (c := 14) (a := 250) (by decide +kernel)).2.2.1 (by rw [(zt_n ok2 (c := 14) (a := 250) (by decide +kernel)).2.2.2]; decide +kernel) (fun hB => ?_)
  refine z_goto hB (fun hB => ?_)
  refine z_cst hB (fun hB => ?_)
  exact z_reti hB
theorem lh_hang_0 {G : z_G} {x1 : Int32} {w w2 : ev_W} (ok : z_Ok G w) (hc : z_K G 178 [.ref 0, .int (x1)] w (.inr 0) w2) : z_K G 416 [.ref 0, .int x1, .ref 250] w (.inl (some (.int (Int32.ofNat 1)))) w2 := by
  refine z_con ok.1 (ml := 4) (by decide +kernel) rfl rfl ?_
  show z_R G 416 0 [some (.ref (0)), some (.int (x1)), some (.ref (250)), none] [] w (.inl (some (.int (Int32.ofNat 1)))) w2
  have hB : z_all [z_is 416 0 (zf_aload 0 2 1), z_is 416 1 (zf_cst 1 (Int32.ofNat 0) 2), z_is 416 2 (zf_aload 2 0 3), z_is 416 3 (zf_iload 3 1 4), z_is 416 4 (zf_cv 4 178 1 7 7)] = true := by decide +kernel
  refine z_aload hB rfl (fun hB => ?_)
  refine z_cst hB (fun hB => ?_)
  refine z_aload hB rfl (fun hB => ?_)
  refine z_iload hB rfl (fun hB => ?_)
  exact z_callVh hB (as := [.int (x1)]) (a := 0) (rest := [.int (Int32.ofNat 0), .ref (250)]) rfl (b := 3) (by decide +kernel) rfl rfl rfl rfl (zt_n ok (c := 7) (a := 0) (by decide +kernel)).1 (zt_n ok (c := 7) (a := 0) (by decide +kernel)).2.2.1 hc
theorem lh_hang_1 {G : z_G} {x1 : Int32} {w w2 : ev_W} (ok : z_Ok G w) (hc : z_K G 178 [.ref 0, .int (x1)] w (.inr 1) w2) : z_K G 416 [.ref 0, .int x1, .ref 250] w (.inl (some (.int (Int32.ofNat 2)))) w2 := by
  refine z_con ok.1 (ml := 4) (by decide +kernel) rfl rfl ?_
  show z_R G 416 0 [some (.ref (0)), some (.int (x1)), some (.ref (250)), none] [] w (.inl (some (.int (Int32.ofNat 2)))) w2
  have hB : z_all [z_is 416 0 (zf_aload 0 2 1), z_is 416 1 (zf_cst 1 (Int32.ofNat 0) 2), z_is 416 2 (zf_aload 2 0 3), z_is 416 3 (zf_iload 3 1 4), z_is 416 4 (zf_cv 4 178 1 7 7)] = true := by decide +kernel
  refine z_aload hB rfl (fun hB => ?_)
  refine z_cst hB (fun hB => ?_)
  refine z_aload hB rfl (fun hB => ?_)
  refine z_iload hB rfl (fun hB => ?_)
  exact z_callVh hB (as := [.int (x1)]) (a := 0) (rest := [.int (Int32.ofNat 0), .ref (250)]) rfl (b := 3) (by decide +kernel) rfl rfl rfl rfl (zt_n ok (c := 7) (a := 0) (by decide +kernel)).1 (zt_n ok (c := 7) (a := 0) (by decide +kernel)).2.2.1 hc
theorem lh_hang_2 {G : z_G} {x1 : Int32} {w w2 : ev_W} (ok : z_Ok G w) (hc : z_K G 178 [.ref 0, .int (x1)] w (.inr 2) w2) : z_K G 416 [.ref 0, .int x1, .ref 250] w (.inl (some (.int (Int32.ofNat 3)))) w2 := by
  refine z_con ok.1 (ml := 4) (by decide +kernel) rfl rfl ?_
  show z_R G 416 0 [some (.ref (0)), some (.int (x1)), some (.ref (250)), none] [] w (.inl (some (.int (Int32.ofNat 3)))) w2
  have hB : z_all [z_is 416 0 (zf_aload 0 2 1), z_is 416 1 (zf_cst 1 (Int32.ofNat 0) 2), z_is 416 2 (zf_aload 2 0 3), z_is 416 3 (zf_iload 3 1 4), z_is 416 4 (zf_cv 4 178 1 7 7)] = true := by decide +kernel
  refine z_aload hB rfl (fun hB => ?_)
  refine z_cst hB (fun hB => ?_)
  refine z_aload hB rfl (fun hB => ?_)
  refine z_iload hB rfl (fun hB => ?_)
  exact z_callVh hB (as := [.int (x1)]) (a := 0) (rest := [.int (Int32.ofNat 0), .ref (250)]) rfl (b := 3) (by decide +kernel) rfl rfl rfl rfl (zt_n ok (c := 7) (a := 0) (by decide +kernel)).1 (zt_n ok (c := 7) (a := 0) (by decide +kernel)).2.2.1 hc
theorem lh_hangAll_v {G : z_G} {w w2 : ev_W} (ok : z_Ok G w) (ok2 : z_Ok G w2) {v : Int32} (hc : z_K G 179 [.ref 0] w (.inl (some (.int v))) w2) : z_K G 417 [.ref 0, .ref 250] w (.inl (some (.int (Int32.ofNat 0)))) (w_sJ w2 250 0 v.toInt64) := by
  refine z_con ok.1 (ml := 3) (by decide +kernel) rfl rfl ?_
  show z_R G 417 0 [some (.ref (0)), some (.ref (250)), none] [] w (.inl (some (.int (Int32.ofNat 0)))) (w_sJ w2 250 0 v.toInt64)
  have hB : z_all [z_is 417 0 (zf_aload 0 1 1), z_is 417 1 (zf_cst 1 (Int32.ofNat 0) 2), z_is 417 2 (zf_aload 2 0 3), z_is 417 3 (zf_cv 3 179 0 7 6), z_is 417 6 (zf_i2l 6 7), z_is 417 7 (zf_last 7 8), z_is 417 8 (zf_goto 8 14), z_is 417 14 (zf_cst 14 (Int32.ofNat 0) 15), z_is 417 15 (zf_ret 0)] = true := by decide +kernel
  refine z_aload hB rfl (fun hB => ?_)
  refine z_cst hB (fun hB => ?_)
  refine z_aload hB rfl (fun hB => ?_)
  refine z_callV hB (as := []) (a := 0) (rest := [.int (Int32.ofNat 0), .ref (250)]) rfl rfl rfl (zt_n ok (c := 7) (a := 0) (by decide +kernel)).1 (zt_n ok (c := 7) (a := 0) (by decide +kernel)).2.2.1 hc (fun hB => ?_)
  refine z_i2l hB (fun hB => ?_)
  refine z_last hB (zt_n ok2 (c := 14) (a := 250) (by decide +kernel)).1 (zt_n ok2 (c := 14) (a := 250) (by decide +kernel)).2.2.1 (by rw [(zt_n ok2 (c := 14) (a := 250) (by decide +kernel)).2.2.2]; decide +kernel) (fun hB => ?_)
  refine z_goto hB (fun hB => ?_)
  refine z_cst hB (fun hB => ?_)
  exact z_reti hB
theorem lh_hangAll_0 {G : z_G} {w w2 : ev_W} (ok : z_Ok G w) (hc : z_K G 179 [.ref 0] w (.inr 0) w2) : z_K G 417 [.ref 0, .ref 250] w (.inl (some (.int (Int32.ofNat 1)))) w2 := by
  refine z_con ok.1 (ml := 3) (by decide +kernel) rfl rfl ?_
  show z_R G 417 0 [some (.ref (0)), some (.ref (250)), none] [] w (.inl (some (.int (Int32.ofNat 1)))) w2
  have hB : z_all [z_is 417 0 (zf_aload 0 1 1), z_is 417 1 (zf_cst 1 (Int32.ofNat 0) 2), z_is 417 2 (zf_aload 2 0 3), z_is 417 3 (zf_cv 3 179 0 7 6)] = true := by decide +kernel
  refine z_aload hB rfl (fun hB => ?_)
  refine z_cst hB (fun hB => ?_)
  refine z_aload hB rfl (fun hB => ?_)
  exact z_callVh hB (as := []) (a := 0) (rest := [.int (Int32.ofNat 0), .ref (250)]) rfl (b := 2) (by decide +kernel) rfl rfl rfl rfl (zt_n ok (c := 7) (a := 0) (by decide +kernel)).1 (zt_n ok (c := 7) (a := 0) (by decide +kernel)).2.2.1 hc
theorem lh_takeDown_v {G : z_G} {x1 : Int32} {w w2 : ev_W} (ok : z_Ok G w) (ok2 : z_Ok G w2) {v : Int32} (hc : z_K G 180 [.ref 0, .int (x1)] w (.inl (some (.int v))) w2) : z_K G 418 [.ref 0, .int x1, .ref 250] w (.inl (some (.int (Int32.ofNat 0)))) (w_sJ w2 250 0 v.toInt64) := by
  refine z_con ok.1 (ml := 4) (by decide +kernel) rfl rfl ?_
  show z_R G 418 0 [some (.ref (0)), some (.int (x1)), some (.ref (250)), none] [] w (.inl (some (.int (Int32.ofNat 0)))) (w_sJ w2 250 0 v.toInt64)
  have hB : z_all [z_is 418 0 (zf_aload 0 2 1), z_is 418 1 (zf_cst 1 (Int32.ofNat 0) 2), z_is 418 2 (zf_aload 2 0 3), z_is 418 3 (zf_iload 3 1 4), z_is 418 4 (zf_cv 4 180 1 7 7), z_is 418 7 (zf_i2l 7 8), z_is 418 8 (zf_last 8 9), z_is 418 9 (zf_goto 9 21), z_is 418 21 (zf_cst 21 (Int32.ofNat 0) 22), z_is 418 22 (zf_ret 0)] = true := by decide +kernel
  refine z_aload hB rfl (fun hB => ?_)
  refine z_cst hB (fun hB => ?_)
  refine z_aload hB rfl (fun hB => ?_)
  refine z_iload hB rfl (fun hB => ?_)
  refine z_callV hB (as := [.int (x1)]) (a := 0) (rest := [.int (Int32.ofNat 0), .ref (250)]) rfl rfl rfl (zt_n ok (c := 7) (a := 0) (by decide +kernel)).1 (zt_n ok (c := 7) (a := 0) (by decide +kernel)).2.2.1 hc (fun hB => ?_)
  refine z_i2l hB (fun hB => ?_)
  refine z_last hB (zt_n ok2 (c := 14) (a := 250) (by decide +kernel)).1 (zt_n ok2 (c := 14) (a := 250) (by decide +kernel)).2.2.1 (by rw [(zt_n ok2 (c := 14) (a := 250) (by decide +kernel)).2.2.2]; decide +kernel) (fun hB => ?_)
  refine z_goto hB (fun hB => ?_)
  refine z_cst hB (fun hB => ?_)
  exact z_reti hB
theorem lh_takeDown_0 {G : z_G} {x1 : Int32} {w w2 : ev_W} (ok : z_Ok G w) (hc : z_K G 180 [.ref 0, .int (x1)] w (.inr 0) w2) : z_K G 418 [.ref 0, .int x1, .ref 250] w (.inl (some (.int (Int32.ofNat 1)))) w2 := by
  refine z_con ok.1 (ml := 4) (by decide +kernel) rfl rfl ?_
  show z_R G 418 0 [some (.ref (0)), some (.int (x1)), some (.ref (250)), none] [] w (.inl (some (.int (Int32.ofNat 1)))) w2
  have hB : z_all [z_is 418 0 (zf_aload 0 2 1), z_is 418 1 (zf_cst 1 (Int32.ofNat 0) 2), z_is 418 2 (zf_aload 2 0 3), z_is 418 3 (zf_iload 3 1 4), z_is 418 4 (zf_cv 4 180 1 7 7)] = true := by decide +kernel
  refine z_aload hB rfl (fun hB => ?_)
  refine z_cst hB (fun hB => ?_)
  refine z_aload hB rfl (fun hB => ?_)
  refine z_iload hB rfl (fun hB => ?_)
  exact z_callVh hB (as := [.int (x1)]) (a := 0) (rest := [.int (Int32.ofNat 0), .ref (250)]) rfl (b := 3) (by decide +kernel) rfl rfl rfl rfl (zt_n ok (c := 7) (a := 0) (by decide +kernel)).1 (zt_n ok (c := 7) (a := 0) (by decide +kernel)).2.2.1 hc
theorem lh_takeDown_1 {G : z_G} {x1 : Int32} {w w2 : ev_W} (ok : z_Ok G w) (hc : z_K G 180 [.ref 0, .int (x1)] w (.inr 1) w2) : z_K G 418 [.ref 0, .int x1, .ref 250] w (.inl (some (.int (Int32.ofNat 2)))) w2 := by
  refine z_con ok.1 (ml := 4) (by decide +kernel) rfl rfl ?_
  show z_R G 418 0 [some (.ref (0)), some (.int (x1)), some (.ref (250)), none] [] w (.inl (some (.int (Int32.ofNat 2)))) w2
  have hB : z_all [z_is 418 0 (zf_aload 0 2 1), z_is 418 1 (zf_cst 1 (Int32.ofNat 0) 2), z_is 418 2 (zf_aload 2 0 3), z_is 418 3 (zf_iload 3 1 4), z_is 418 4 (zf_cv 4 180 1 7 7)] = true := by decide +kernel
  refine z_aload hB rfl (fun hB => ?_)
  refine z_cst hB (fun hB => ?_)
  refine z_aload hB rfl (fun hB => ?_)
  refine z_iload hB rfl (fun hB => ?_)
  exact z_callVh hB (as := [.int (x1)]) (a := 0) (rest := [.int (Int32.ofNat 0), .ref (250)]) rfl (b := 3) (by decide +kernel) rfl rfl rfl rfl (zt_n ok (c := 7) (a := 0) (by decide +kernel)).1 (zt_n ok (c := 7) (a := 0) (by decide +kernel)).2.2.1 hc
theorem lh_takeDown_2 {G : z_G} {x1 : Int32} {w w2 : ev_W} (ok : z_Ok G w) (hc : z_K G 180 [.ref 0, .int (x1)] w (.inr 2) w2) : z_K G 418 [.ref 0, .int x1, .ref 250] w (.inl (some (.int (Int32.ofNat 3)))) w2 := by
  refine z_con ok.1 (ml := 4) (by decide +kernel) rfl rfl ?_
  show z_R G 418 0 [some (.ref (0)), some (.int (x1)), some (.ref (250)), none] [] w (.inl (some (.int (Int32.ofNat 3)))) w2
  have hB : z_all [z_is 418 0 (zf_aload 0 2 1), z_is 418 1 (zf_cst 1 (Int32.ofNat 0) 2), z_is 418 2 (zf_aload 2 0 3), z_is 418 3 (zf_iload 3 1 4), z_is 418 4 (zf_cv 4 180 1 7 7)] = true := by decide +kernel
  refine z_aload hB rfl (fun hB => ?_)
  refine z_cst hB (fun hB => ?_)
  refine z_aload hB rfl (fun hB => ?_)
  refine z_iload hB rfl (fun hB => ?_)
  exact z_callVh hB (as := [.int (x1)]) (a := 0) (rest := [.int (Int32.ofNat 0), .ref (250)]) rfl (b := 3) (by decide +kernel) rfl rfl rfl rfl (zt_n ok (c := 7) (a := 0) (by decide +kernel)).1 (zt_n ok (c := 7) (a := 0) (by decide +kernel)).2.2.1 hc
theorem lh_clearTub_v {G : z_G} {x1 : Int32} {w w2 : ev_W} (ok : z_Ok G w) (ok2 : z_Ok G w2) {v : Int32} (hc : z_K G 181 [.ref 0, .int (x1)] w (.inl (some (.int v))) w2) : z_K G 419 [.ref 0, .int x1, .ref 250] w (.inl (some (.int (Int32.ofNat 0)))) (w_sJ w2 250 0 v.toInt64) := by
  refine z_con ok.1 (ml := 4) (by decide +kernel) rfl rfl ?_
  show z_R G 419 0 [some (.ref (0)), some (.int (x1)), some (.ref (250)), none] [] w (.inl (some (.int (Int32.ofNat 0)))) (w_sJ w2 250 0 v.toInt64)
  have hB : z_all [z_is 419 0 (zf_aload 0 2 1), z_is 419 1 (zf_cst 1 (Int32.ofNat 0) 2), z_is 419 2 (zf_aload 2 0 3), z_is 419 3 (zf_iload 3 1 4), z_is 419 4 (zf_cv 4 181 1 7 7), z_is 419 7 (zf_i2l 7 8), z_is 419 8 (zf_last 8 9), z_is 419 9 (zf_goto 9 18), z_is 419 18 (zf_cst 18 (Int32.ofNat 0) 19), z_is 419 19 (zf_ret 0)] = true := by decide +kernel
  refine z_aload hB rfl (fun hB => ?_)
  refine z_cst hB (fun hB => ?_)
  refine z_aload hB rfl (fun hB => ?_)
  refine z_iload hB rfl (fun hB => ?_)
  refine z_callV hB (as := [.int (x1)]) (a := 0) (rest := [.int (Int32.ofNat 0), .ref (250)]) rfl rfl rfl (zt_n ok (c := 7) (a := 0) (by decide +kernel)).1 (zt_n ok (c := 7) (a := 0) (by decide +kernel)).2.2.1 hc (fun hB => ?_)
  refine z_i2l hB (fun hB => ?_)
  refine z_last hB (zt_n ok2 (c := 14) (a := 250) (by decide +kernel)).1 (zt_n ok2 (c := 14) (a := 250) (by decide +kernel)).2.2.1 (by rw [(zt_n ok2 (c := 14) (a := 250) (by decide +kernel)).2.2.2]; decide +kernel) (fun hB => ?_)
  refine z_goto hB (fun hB => ?_)
  refine z_cst hB (fun hB => ?_)
  exact z_reti hB
theorem lh_clearTub_0 {G : z_G} {x1 : Int32} {w w2 : ev_W} (ok : z_Ok G w) (hc : z_K G 181 [.ref 0, .int (x1)] w (.inr 0) w2) : z_K G 419 [.ref 0, .int x1, .ref 250] w (.inl (some (.int (Int32.ofNat 1)))) w2 := by
  refine z_con ok.1 (ml := 4) (by decide +kernel) rfl rfl ?_
  show z_R G 419 0 [some (.ref (0)), some (.int (x1)), some (.ref (250)), none] [] w (.inl (some (.int (Int32.ofNat 1)))) w2
  have hB : z_all [z_is 419 0 (zf_aload 0 2 1), z_is 419 1 (zf_cst 1 (Int32.ofNat 0) 2), z_is 419 2 (zf_aload 2 0 3), z_is 419 3 (zf_iload 3 1 4), z_is 419 4 (zf_cv 4 181 1 7 7)] = true := by decide +kernel
  refine z_aload hB rfl (fun hB => ?_)
  refine z_cst hB (fun hB => ?_)
  refine z_aload hB rfl (fun hB => ?_)
  refine z_iload hB rfl (fun hB => ?_)
  exact z_callVh hB (as := [.int (x1)]) (a := 0) (rest := [.int (Int32.ofNat 0), .ref (250)]) rfl (b := 3) (by decide +kernel) rfl rfl rfl rfl (zt_n ok (c := 7) (a := 0) (by decide +kernel)).1 (zt_n ok (c := 7) (a := 0) (by decide +kernel)).2.2.1 hc
theorem lh_clearTub_1 {G : z_G} {x1 : Int32} {w w2 : ev_W} (ok : z_Ok G w) (hc : z_K G 181 [.ref 0, .int (x1)] w (.inr 1) w2) : z_K G 419 [.ref 0, .int x1, .ref 250] w (.inl (some (.int (Int32.ofNat 2)))) w2 := by
  refine z_con ok.1 (ml := 4) (by decide +kernel) rfl rfl ?_
  show z_R G 419 0 [some (.ref (0)), some (.int (x1)), some (.ref (250)), none] [] w (.inl (some (.int (Int32.ofNat 2)))) w2
  have hB : z_all [z_is 419 0 (zf_aload 0 2 1), z_is 419 1 (zf_cst 1 (Int32.ofNat 0) 2), z_is 419 2 (zf_aload 2 0 3), z_is 419 3 (zf_iload 3 1 4), z_is 419 4 (zf_cv 4 181 1 7 7)] = true := by decide +kernel
  refine z_aload hB rfl (fun hB => ?_)
  refine z_cst hB (fun hB => ?_)
  refine z_aload hB rfl (fun hB => ?_)
  refine z_iload hB rfl (fun hB => ?_)
  exact z_callVh hB (as := [.int (x1)]) (a := 0) (rest := [.int (Int32.ofNat 0), .ref (250)]) rfl (b := 3) (by decide +kernel) rfl rfl rfl rfl (zt_n ok (c := 7) (a := 0) (by decide +kernel)).1 (zt_n ok (c := 7) (a := 0) (by decide +kernel)).2.2.1 hc
theorem lh_iron_v {G : z_G} {x1 : Int32} {x2 : Int32} {w w2 : ev_W} (ok : z_Ok G w) (ok2 : z_Ok G w2) {v : Int32} (hc : z_K G 182 [.ref 0, .int (x1), .int (x2)] w (.inl (some (.int v))) w2) : z_K G 420 [.ref 0, .int x1, .int x2, .ref 250] w (.inl (some (.int (Int32.ofNat 0)))) (w_sJ w2 250 0 v.toInt64) := by
  refine z_con ok.1 (ml := 5) (by decide +kernel) rfl rfl ?_
  show z_R G 420 0 [some (.ref (0)), some (.int (x1)), some (.int (x2)), some (.ref (250)), none] [] w (.inl (some (.int (Int32.ofNat 0)))) (w_sJ w2 250 0 v.toInt64)
  have hB : z_all [z_is 420 0 (zf_aload 0 3 1), z_is 420 1 (zf_cst 1 (Int32.ofNat 0) 2), z_is 420 2 (zf_aload 2 0 3), z_is 420 3 (zf_iload 3 1 4), z_is 420 4 (zf_iload 4 2 5), z_is 420 5 (zf_cv 5 182 2 7 8), z_is 420 8 (zf_i2l 8 9), z_is 420 9 (zf_last 9 10), z_is 420 10 (zf_goto 10 25), z_is 420 25 (zf_cst 25 (Int32.ofNat 0) 26), z_is 420 26 (zf_ret 0)] = true := by decide +kernel
  refine z_aload hB rfl (fun hB => ?_)
  refine z_cst hB (fun hB => ?_)
  refine z_aload hB rfl (fun hB => ?_)
  refine z_iload hB rfl (fun hB => ?_)
  refine z_iload hB rfl (fun hB => ?_)
  refine z_callV hB (as := [.int (x1), .int (x2)]) (a := 0) (rest := [.int (Int32.ofNat 0), .ref (250)]) rfl rfl rfl (zt_n ok (c := 7) (a := 0) (by decide +kernel)).1 (zt_n ok (c := 7) (a := 0) (by decide +kernel)).2.2.1 hc (fun hB => ?_)
  refine z_i2l hB (fun hB => ?_)
  refine z_last hB (zt_n ok2 (c := 14) (a := 250) (by decide +kernel)).1 (zt_n ok2 (c := 14) (a := 250) (by decide +kernel)).2.2.1 (by rw [(zt_n ok2 (c := 14) (a := 250) (by decide +kernel)).2.2.2]; decide +kernel) (fun hB => ?_)
  refine z_goto hB (fun hB => ?_)
  refine z_cst hB (fun hB => ?_)
  exact z_reti hB
theorem lh_iron_0 {G : z_G} {x1 : Int32} {x2 : Int32} {w w2 : ev_W} (ok : z_Ok G w) (hc : z_K G 182 [.ref 0, .int (x1), .int (x2)] w (.inr 0) w2) : z_K G 420 [.ref 0, .int x1, .int x2, .ref 250] w (.inl (some (.int (Int32.ofNat 1)))) w2 := by
  refine z_con ok.1 (ml := 5) (by decide +kernel) rfl rfl ?_
  show z_R G 420 0 [some (.ref (0)), some (.int (x1)), some (.int (x2)), some (.ref (250)), none] [] w (.inl (some (.int (Int32.ofNat 1)))) w2
  have hB : z_all [z_is 420 0 (zf_aload 0 3 1), z_is 420 1 (zf_cst 1 (Int32.ofNat 0) 2), z_is 420 2 (zf_aload 2 0 3), z_is 420 3 (zf_iload 3 1 4), z_is 420 4 (zf_iload 4 2 5), z_is 420 5 (zf_cv 5 182 2 7 8)] = true := by decide +kernel
  refine z_aload hB rfl (fun hB => ?_)
  refine z_cst hB (fun hB => ?_)
  refine z_aload hB rfl (fun hB => ?_)
  refine z_iload hB rfl (fun hB => ?_)
  refine z_iload hB rfl (fun hB => ?_)
  exact z_callVh hB (as := [.int (x1), .int (x2)]) (a := 0) (rest := [.int (Int32.ofNat 0), .ref (250)]) rfl (b := 4) (by decide +kernel) rfl rfl rfl rfl (zt_n ok (c := 7) (a := 0) (by decide +kernel)).1 (zt_n ok (c := 7) (a := 0) (by decide +kernel)).2.2.1 hc
theorem lh_iron_1 {G : z_G} {x1 : Int32} {x2 : Int32} {w w2 : ev_W} (ok : z_Ok G w) (hc : z_K G 182 [.ref 0, .int (x1), .int (x2)] w (.inr 1) w2) : z_K G 420 [.ref 0, .int x1, .int x2, .ref 250] w (.inl (some (.int (Int32.ofNat 2)))) w2 := by
  refine z_con ok.1 (ml := 5) (by decide +kernel) rfl rfl ?_
  show z_R G 420 0 [some (.ref (0)), some (.int (x1)), some (.int (x2)), some (.ref (250)), none] [] w (.inl (some (.int (Int32.ofNat 2)))) w2
  have hB : z_all [z_is 420 0 (zf_aload 0 3 1), z_is 420 1 (zf_cst 1 (Int32.ofNat 0) 2), z_is 420 2 (zf_aload 2 0 3), z_is 420 3 (zf_iload 3 1 4), z_is 420 4 (zf_iload 4 2 5), z_is 420 5 (zf_cv 5 182 2 7 8)] = true := by decide +kernel
  refine z_aload hB rfl (fun hB => ?_)
  refine z_cst hB (fun hB => ?_)
  refine z_aload hB rfl (fun hB => ?_)
  refine z_iload hB rfl (fun hB => ?_)
  refine z_iload hB rfl (fun hB => ?_)
  exact z_callVh hB (as := [.int (x1), .int (x2)]) (a := 0) (rest := [.int (Int32.ofNat 0), .ref (250)]) rfl (b := 4) (by decide +kernel) rfl rfl rfl rfl (zt_n ok (c := 7) (a := 0) (by decide +kernel)).1 (zt_n ok (c := 7) (a := 0) (by decide +kernel)).2.2.1 hc
theorem lh_iron_2 {G : z_G} {x1 : Int32} {x2 : Int32} {w w2 : ev_W} (ok : z_Ok G w) (hc : z_K G 182 [.ref 0, .int (x1), .int (x2)] w (.inr 2) w2) : z_K G 420 [.ref 0, .int x1, .int x2, .ref 250] w (.inl (some (.int (Int32.ofNat 3)))) w2 := by
  refine z_con ok.1 (ml := 5) (by decide +kernel) rfl rfl ?_
  show z_R G 420 0 [some (.ref (0)), some (.int (x1)), some (.int (x2)), some (.ref (250)), none] [] w (.inl (some (.int (Int32.ofNat 3)))) w2
  have hB : z_all [z_is 420 0 (zf_aload 0 3 1), z_is 420 1 (zf_cst 1 (Int32.ofNat 0) 2), z_is 420 2 (zf_aload 2 0 3), z_is 420 3 (zf_iload 3 1 4), z_is 420 4 (zf_iload 4 2 5), z_is 420 5 (zf_cv 5 182 2 7 8)] = true := by decide +kernel
  refine z_aload hB rfl (fun hB => ?_)
  refine z_cst hB (fun hB => ?_)
  refine z_aload hB rfl (fun hB => ?_)
  refine z_iload hB rfl (fun hB => ?_)
  refine z_iload hB rfl (fun hB => ?_)
  exact z_callVh hB (as := [.int (x1), .int (x2)]) (a := 0) (rest := [.int (Int32.ofNat 0), .ref (250)]) rfl (b := 4) (by decide +kernel) rfl rfl rfl rfl (zt_n ok (c := 7) (a := 0) (by decide +kernel)).1 (zt_n ok (c := 7) (a := 0) (by decide +kernel)).2.2.1 hc
theorem lh_bleach_v {G : z_G} {x1 : Int32} {w w2 : ev_W} (ok : z_Ok G w) (ok2 : z_Ok G w2) {v : Int32} (hc : z_K G 183 [.ref 0, .int (x1)] w (.inl (some (.int v))) w2) : z_K G 421 [.ref 0, .int x1, .ref 250] w (.inl (some (.int (Int32.ofNat 0)))) (w_sJ w2 250 0 v.toInt64) := by
  refine z_con ok.1 (ml := 4) (by decide +kernel) rfl rfl ?_
  show z_R G 421 0 [some (.ref (0)), some (.int (x1)), some (.ref (250)), none] [] w (.inl (some (.int (Int32.ofNat 0)))) (w_sJ w2 250 0 v.toInt64)
  have hB : z_all [z_is 421 0 (zf_aload 0 2 1), z_is 421 1 (zf_cst 1 (Int32.ofNat 0) 2), z_is 421 2 (zf_aload 2 0 3), z_is 421 3 (zf_iload 3 1 4), z_is 421 4 (zf_cv 4 183 1 7 7), z_is 421 7 (zf_i2l 7 8), z_is 421 8 (zf_last 8 9), z_is 421 9 (zf_goto 9 21), z_is 421 21 (zf_cst 21 (Int32.ofNat 0) 22), z_is 421 22 (zf_ret 0)] = true := by decide +kernel
  refine z_aload hB rfl (fun hB => ?_)
  refine z_cst hB (fun hB => ?_)
  refine z_aload hB rfl (fun hB => ?_)
  refine z_iload hB rfl (fun hB => ?_)
  refine z_callV hB (as := [.int (x1)]) (a := 0) (rest := [.int (Int32.ofNat 0), .ref (250)]) rfl rfl rfl (zt_n ok (c := 7) (a := 0) (by decide +kernel)).1 (zt_n ok (c := 7) (a := 0) (by decide +kernel)).2.2.1 hc (fun hB => ?_)
  refine z_i2l hB (fun hB => ?_)
  refine z_last hB (zt_n ok2 (c := 14) (a := 250) (by decide +kernel)).1 (zt_n ok2 (c := 14) (a := 250) (by decide +kernel)).2.2.1 (by rw [(zt_n ok2 (c := 14) (a := 250) (by decide +kernel)).2.2.2]; decide +kernel) (fun hB => ?_)
  refine z_goto hB (fun hB => ?_)
  refine z_cst hB (fun hB => ?_)
  exact z_reti hB
theorem lh_bleach_0 {G : z_G} {x1 : Int32} {w w2 : ev_W} (ok : z_Ok G w) (hc : z_K G 183 [.ref 0, .int (x1)] w (.inr 0) w2) : z_K G 421 [.ref 0, .int x1, .ref 250] w (.inl (some (.int (Int32.ofNat 1)))) w2 := by
  refine z_con ok.1 (ml := 4) (by decide +kernel) rfl rfl ?_
  show z_R G 421 0 [some (.ref (0)), some (.int (x1)), some (.ref (250)), none] [] w (.inl (some (.int (Int32.ofNat 1)))) w2
  have hB : z_all [z_is 421 0 (zf_aload 0 2 1), z_is 421 1 (zf_cst 1 (Int32.ofNat 0) 2), z_is 421 2 (zf_aload 2 0 3), z_is 421 3 (zf_iload 3 1 4), z_is 421 4 (zf_cv 4 183 1 7 7)] = true := by decide +kernel
  refine z_aload hB rfl (fun hB => ?_)
  refine z_cst hB (fun hB => ?_)
  refine z_aload hB rfl (fun hB => ?_)
  refine z_iload hB rfl (fun hB => ?_)
  exact z_callVh hB (as := [.int (x1)]) (a := 0) (rest := [.int (Int32.ofNat 0), .ref (250)]) rfl (b := 3) (by decide +kernel) rfl rfl rfl rfl (zt_n ok (c := 7) (a := 0) (by decide +kernel)).1 (zt_n ok (c := 7) (a := 0) (by decide +kernel)).2.2.1 hc
theorem lh_bleach_1 {G : z_G} {x1 : Int32} {w w2 : ev_W} (ok : z_Ok G w) (hc : z_K G 183 [.ref 0, .int (x1)] w (.inr 1) w2) : z_K G 421 [.ref 0, .int x1, .ref 250] w (.inl (some (.int (Int32.ofNat 2)))) w2 := by
  refine z_con ok.1 (ml := 4) (by decide +kernel) rfl rfl ?_
  show z_R G 421 0 [some (.ref (0)), some (.int (x1)), some (.ref (250)), none] [] w (.inl (some (.int (Int32.ofNat 2)))) w2
  have hB : z_all [z_is 421 0 (zf_aload 0 2 1), z_is 421 1 (zf_cst 1 (Int32.ofNat 0) 2), z_is 421 2 (zf_aload 2 0 3), z_is 421 3 (zf_iload 3 1 4), z_is 421 4 (zf_cv 4 183 1 7 7)] = true := by decide +kernel
  refine z_aload hB rfl (fun hB => ?_)
  refine z_cst hB (fun hB => ?_)
  refine z_aload hB rfl (fun hB => ?_)
  refine z_iload hB rfl (fun hB => ?_)
  exact z_callVh hB (as := [.int (x1)]) (a := 0) (rest := [.int (Int32.ofNat 0), .ref (250)]) rfl (b := 3) (by decide +kernel) rfl rfl rfl rfl (zt_n ok (c := 7) (a := 0) (by decide +kernel)).1 (zt_n ok (c := 7) (a := 0) (by decide +kernel)).2.2.1 hc
theorem lh_bleach_2 {G : z_G} {x1 : Int32} {w w2 : ev_W} (ok : z_Ok G w) (hc : z_K G 183 [.ref 0, .int (x1)] w (.inr 2) w2) : z_K G 421 [.ref 0, .int x1, .ref 250] w (.inl (some (.int (Int32.ofNat 3)))) w2 := by
  refine z_con ok.1 (ml := 4) (by decide +kernel) rfl rfl ?_
  show z_R G 421 0 [some (.ref (0)), some (.int (x1)), some (.ref (250)), none] [] w (.inl (some (.int (Int32.ofNat 3)))) w2
  have hB : z_all [z_is 421 0 (zf_aload 0 2 1), z_is 421 1 (zf_cst 1 (Int32.ofNat 0) 2), z_is 421 2 (zf_aload 2 0 3), z_is 421 3 (zf_iload 3 1 4), z_is 421 4 (zf_cv 4 183 1 7 7)] = true := by decide +kernel
  refine z_aload hB rfl (fun hB => ?_)
  refine z_cst hB (fun hB => ?_)
  refine z_aload hB rfl (fun hB => ?_)
  refine z_iload hB rfl (fun hB => ?_)
  exact z_callVh hB (as := [.int (x1)]) (a := 0) (rest := [.int (Int32.ofNat 0), .ref (250)]) rfl (b := 3) (by decide +kernel) rfl rfl rfl rfl (zt_n ok (c := 7) (a := 0) (by decide +kernel)).1 (zt_n ok (c := 7) (a := 0) (by decide +kernel)).2.2.1 hc
theorem lh_handOver_v {G : z_G} {x1 : Int32} {w w2 : ev_W} (ok : z_Ok G w) (ok2 : z_Ok G w2) {v : Int32} (hc : z_K G 184 [.ref 0, .int (x1)] w (.inl (some (.int v))) w2) : z_K G 422 [.ref 0, .int x1, .ref 250] w (.inl (some (.int (Int32.ofNat 0)))) (w_sJ w2 250 0 v.toInt64) := by
  refine z_con ok.1 (ml := 4) (by decide +kernel) rfl rfl ?_
  show z_R G 422 0 [some (.ref (0)), some (.int (x1)), some (.ref (250)), none] [] w (.inl (some (.int (Int32.ofNat 0)))) (w_sJ w2 250 0 v.toInt64)
  have hB : z_all [z_is 422 0 (zf_aload 0 2 1), z_is 422 1 (zf_cst 1 (Int32.ofNat 0) 2), z_is 422 2 (zf_aload 2 0 3), z_is 422 3 (zf_iload 3 1 4), z_is 422 4 (zf_cv 4 184 1 7 7), z_is 422 7 (zf_i2l 7 8), z_is 422 8 (zf_last 8 9), z_is 422 9 (zf_goto 9 21), z_is 422 21 (zf_cst 21 (Int32.ofNat 0) 22), z_is 422 22 (zf_ret 0)] = true := by decide +kernel
  refine z_aload hB rfl (fun hB => ?_)
  refine z_cst hB (fun hB => ?_)
  refine z_aload hB rfl (fun hB => ?_)
  refine z_iload hB rfl (fun hB => ?_)
  refine z_callV hB (as := [.int (x1)]) (a := 0) (rest := [.int (Int32.ofNat 0), .ref (250)]) rfl rfl rfl (zt_n ok (c := 7) (a := 0) (by decide +kernel)).1 (zt_n ok (c := 7) (a := 0) (by decide +kernel)).2.2.1 hc (fun hB => ?_)
  refine z_i2l hB (fun hB => ?_)
  refine z_last hB (zt_n ok2 (c := 14) (a := 250) (by decide +kernel)).1 (zt_n ok2 (c := 14) (a := 250) (by decide +kernel)).2.2.1 (by rw [(zt_n ok2 (c := 14) (a := 250) (by decide +kernel)).2.2.2]; decide +kernel) (fun hB => ?_)
  refine z_goto hB (fun hB => ?_)
  refine z_cst hB (fun hB => ?_)
  exact z_reti hB
theorem lh_handOver_0 {G : z_G} {x1 : Int32} {w w2 : ev_W} (ok : z_Ok G w) (hc : z_K G 184 [.ref 0, .int (x1)] w (.inr 0) w2) : z_K G 422 [.ref 0, .int x1, .ref 250] w (.inl (some (.int (Int32.ofNat 1)))) w2 := by
  refine z_con ok.1 (ml := 4) (by decide +kernel) rfl rfl ?_
  show z_R G 422 0 [some (.ref (0)), some (.int (x1)), some (.ref (250)), none] [] w (.inl (some (.int (Int32.ofNat 1)))) w2
  have hB : z_all [z_is 422 0 (zf_aload 0 2 1), z_is 422 1 (zf_cst 1 (Int32.ofNat 0) 2), z_is 422 2 (zf_aload 2 0 3), z_is 422 3 (zf_iload 3 1 4), z_is 422 4 (zf_cv 4 184 1 7 7)] = true := by decide +kernel
  refine z_aload hB rfl (fun hB => ?_)
  refine z_cst hB (fun hB => ?_)
  refine z_aload hB rfl (fun hB => ?_)
  refine z_iload hB rfl (fun hB => ?_)
  exact z_callVh hB (as := [.int (x1)]) (a := 0) (rest := [.int (Int32.ofNat 0), .ref (250)]) rfl (b := 3) (by decide +kernel) rfl rfl rfl rfl (zt_n ok (c := 7) (a := 0) (by decide +kernel)).1 (zt_n ok (c := 7) (a := 0) (by decide +kernel)).2.2.1 hc
theorem lh_handOver_1 {G : z_G} {x1 : Int32} {w w2 : ev_W} (ok : z_Ok G w) (hc : z_K G 184 [.ref 0, .int (x1)] w (.inr 1) w2) : z_K G 422 [.ref 0, .int x1, .ref 250] w (.inl (some (.int (Int32.ofNat 2)))) w2 := by
  refine z_con ok.1 (ml := 4) (by decide +kernel) rfl rfl ?_
  show z_R G 422 0 [some (.ref (0)), some (.int (x1)), some (.ref (250)), none] [] w (.inl (some (.int (Int32.ofNat 2)))) w2
  have hB : z_all [z_is 422 0 (zf_aload 0 2 1), z_is 422 1 (zf_cst 1 (Int32.ofNat 0) 2), z_is 422 2 (zf_aload 2 0 3), z_is 422 3 (zf_iload 3 1 4), z_is 422 4 (zf_cv 4 184 1 7 7)] = true := by decide +kernel
  refine z_aload hB rfl (fun hB => ?_)
  refine z_cst hB (fun hB => ?_)
  refine z_aload hB rfl (fun hB => ?_)
  refine z_iload hB rfl (fun hB => ?_)
  exact z_callVh hB (as := [.int (x1)]) (a := 0) (rest := [.int (Int32.ofNat 0), .ref (250)]) rfl (b := 3) (by decide +kernel) rfl rfl rfl rfl (zt_n ok (c := 7) (a := 0) (by decide +kernel)).1 (zt_n ok (c := 7) (a := 0) (by decide +kernel)).2.2.1 hc
theorem lh_handOver_2 {G : z_G} {x1 : Int32} {w w2 : ev_W} (ok : z_Ok G w) (hc : z_K G 184 [.ref 0, .int (x1)] w (.inr 2) w2) : z_K G 422 [.ref 0, .int x1, .ref 250] w (.inl (some (.int (Int32.ofNat 3)))) w2 := by
  refine z_con ok.1 (ml := 4) (by decide +kernel) rfl rfl ?_
  show z_R G 422 0 [some (.ref (0)), some (.int (x1)), some (.ref (250)), none] [] w (.inl (some (.int (Int32.ofNat 3)))) w2
  have hB : z_all [z_is 422 0 (zf_aload 0 2 1), z_is 422 1 (zf_cst 1 (Int32.ofNat 0) 2), z_is 422 2 (zf_aload 2 0 3), z_is 422 3 (zf_iload 3 1 4), z_is 422 4 (zf_cv 4 184 1 7 7)] = true := by decide +kernel
  refine z_aload hB rfl (fun hB => ?_)
  refine z_cst hB (fun hB => ?_)
  refine z_aload hB rfl (fun hB => ?_)
  refine z_iload hB rfl (fun hB => ?_)
  exact z_callVh hB (as := [.int (x1)]) (a := 0) (rest := [.int (Int32.ofNat 0), .ref (250)]) rfl (b := 3) (by decide +kernel) rfl rfl rfl rfl (zt_n ok (c := 7) (a := 0) (by decide +kernel)).1 (zt_n ok (c := 7) (a := 0) (by decide +kernel)).2.2.1 hc
theorem lh_pass_v {G : z_G} {x1 : Int32} {w w2 : ev_W} (ok : z_Ok G w) (ok2 : z_Ok G w2) {v : Int32} (hc : z_K G 185 [.ref 0, .int (x1)] w (.inl (some (.int v))) w2) : z_K G 423 [.ref 0, .int x1, .ref 250] w (.inl (some (.int (Int32.ofNat 0)))) (w_sJ w2 250 0 v.toInt64) := by
  refine z_con ok.1 (ml := 4) (by decide +kernel) rfl rfl ?_
  show z_R G 423 0 [some (.ref (0)), some (.int (x1)), some (.ref (250)), none] [] w (.inl (some (.int (Int32.ofNat 0)))) (w_sJ w2 250 0 v.toInt64)
  have hB : z_all [z_is 423 0 (zf_aload 0 2 1), z_is 423 1 (zf_cst 1 (Int32.ofNat 0) 2), z_is 423 2 (zf_aload 2 0 3), z_is 423 3 (zf_iload 3 1 4), z_is 423 4 (zf_cv 4 185 1 7 7), z_is 423 7 (zf_i2l 7 8), z_is 423 8 (zf_last 8 9), z_is 423 9 (zf_goto 9 18), z_is 423 18 (zf_cst 18 (Int32.ofNat 0) 19), z_is 423 19 (zf_ret 0)] = true := by decide +kernel
  refine z_aload hB rfl (fun hB => ?_)
  refine z_cst hB (fun hB => ?_)
  refine z_aload hB rfl (fun hB => ?_)
  refine z_iload hB rfl (fun hB => ?_)
  refine z_callV hB (as := [.int (x1)]) (a := 0) (rest := [.int (Int32.ofNat 0), .ref (250)]) rfl rfl rfl (zt_n ok (c := 7) (a := 0) (by decide +kernel)).1 (zt_n ok (c := 7) (a := 0) (by decide +kernel)).2.2.1 hc (fun hB => ?_)
  refine z_i2l hB (fun hB => ?_)
  refine z_last hB (zt_n ok2 (c := 14) (a := 250) (by decide +kernel)).1 (zt_n ok2 (c := 14) (a := 250) (by decide +kernel)).2.2.1 (by rw [(zt_n ok2 (c := 14) (a := 250) (by decide +kernel)).2.2.2]; decide +kernel) (fun hB => ?_)
  refine z_goto hB (fun hB => ?_)
  refine z_cst hB (fun hB => ?_)
  exact z_reti hB
theorem lh_pass_0 {G : z_G} {x1 : Int32} {w w2 : ev_W} (ok : z_Ok G w) (hc : z_K G 185 [.ref 0, .int (x1)] w (.inr 0) w2) : z_K G 423 [.ref 0, .int x1, .ref 250] w (.inl (some (.int (Int32.ofNat 1)))) w2 := by
  refine z_con ok.1 (ml := 4) (by decide +kernel) rfl rfl ?_
  show z_R G 423 0 [some (.ref (0)), some (.int (x1)), some (.ref (250)), none] [] w (.inl (some (.int (Int32.ofNat 1)))) w2
  have hB : z_all [z_is 423 0 (zf_aload 0 2 1), z_is 423 1 (zf_cst 1 (Int32.ofNat 0) 2), z_is 423 2 (zf_aload 2 0 3), z_is 423 3 (zf_iload 3 1 4), z_is 423 4 (zf_cv 4 185 1 7 7)] = true := by decide +kernel
  refine z_aload hB rfl (fun hB => ?_)
  refine z_cst hB (fun hB => ?_)
  refine z_aload hB rfl (fun hB => ?_)
  refine z_iload hB rfl (fun hB => ?_)
  exact z_callVh hB (as := [.int (x1)]) (a := 0) (rest := [.int (Int32.ofNat 0), .ref (250)]) rfl (b := 3) (by decide +kernel) rfl rfl rfl rfl (zt_n ok (c := 7) (a := 0) (by decide +kernel)).1 (zt_n ok (c := 7) (a := 0) (by decide +kernel)).2.2.1 hc
theorem lh_pass_2 {G : z_G} {x1 : Int32} {w w2 : ev_W} (ok : z_Ok G w) (hc : z_K G 185 [.ref 0, .int (x1)] w (.inr 2) w2) : z_K G 423 [.ref 0, .int x1, .ref 250] w (.inl (some (.int (Int32.ofNat 2)))) w2 := by
  refine z_con ok.1 (ml := 4) (by decide +kernel) rfl rfl ?_
  show z_R G 423 0 [some (.ref (0)), some (.int (x1)), some (.ref (250)), none] [] w (.inl (some (.int (Int32.ofNat 2)))) w2
  have hB : z_all [z_is 423 0 (zf_aload 0 2 1), z_is 423 1 (zf_cst 1 (Int32.ofNat 0) 2), z_is 423 2 (zf_aload 2 0 3), z_is 423 3 (zf_iload 3 1 4), z_is 423 4 (zf_cv 4 185 1 7 7)] = true := by decide +kernel
  refine z_aload hB rfl (fun hB => ?_)
  refine z_cst hB (fun hB => ?_)
  refine z_aload hB rfl (fun hB => ?_)
  refine z_iload hB rfl (fun hB => ?_)
  exact z_callVh hB (as := [.int (x1)]) (a := 0) (rest := [.int (Int32.ofNat 0), .ref (250)]) rfl (b := 3) (by decide +kernel) rfl rfl rfl rfl (zt_n ok (c := 7) (a := 0) (by decide +kernel)).1 (zt_n ok (c := 7) (a := 0) (by decide +kernel)).2.2.1 hc
theorem lh_setWind_v {G : z_G} {x1 : Int32} {w w2 : ev_W} (ok : z_Ok G w) (ok2 : z_Ok G w2) {v : Int32} (hc : z_K G 186 [.ref 0, .int (x1)] w (.inl (some (.int v))) w2) : z_K G 424 [.ref 0, .int x1, .ref 250] w (.inl (some (.int (Int32.ofNat 0)))) (w_sJ w2 250 0 v.toInt64) := by
  refine z_con ok.1 (ml := 4) (by decide +kernel) rfl rfl ?_
  show z_R G 424 0 [some (.ref (0)), some (.int (x1)), some (.ref (250)), none] [] w (.inl (some (.int (Int32.ofNat 0)))) (w_sJ w2 250 0 v.toInt64)
  have hB : z_all [z_is 424 0 (zf_aload 0 2 1), z_is 424 1 (zf_cst 1 (Int32.ofNat 0) 2), z_is 424 2 (zf_aload 2 0 3), z_is 424 3 (zf_iload 3 1 4), z_is 424 4 (zf_cv 4 186 1 7 7), z_is 424 7 (zf_i2l 7 8), z_is 424 8 (zf_last 8 9), z_is 424 9 (zf_goto 9 18), z_is 424 18 (zf_cst 18 (Int32.ofNat 0) 19), z_is 424 19 (zf_ret 0)] = true := by decide +kernel
  refine z_aload hB rfl (fun hB => ?_)
  refine z_cst hB (fun hB => ?_)
  refine z_aload hB rfl (fun hB => ?_)
  refine z_iload hB rfl (fun hB => ?_)
  refine z_callV hB (as := [.int (x1)]) (a := 0) (rest := [.int (Int32.ofNat 0), .ref (250)]) rfl rfl rfl (zt_n ok (c := 7) (a := 0) (by decide +kernel)).1 (zt_n ok (c := 7) (a := 0) (by decide +kernel)).2.2.1 hc (fun hB => ?_)
  refine z_i2l hB (fun hB => ?_)
  refine z_last hB (zt_n ok2 (c := 14) (a := 250) (by decide +kernel)).1 (zt_n ok2 (c := 14) (a := 250) (by decide +kernel)).2.2.1 (by rw [(zt_n ok2 (c := 14) (a := 250) (by decide +kernel)).2.2.2]; decide +kernel) (fun hB => ?_)
  refine z_goto hB (fun hB => ?_)
  refine z_cst hB (fun hB => ?_)
  exact z_reti hB
theorem lh_setWind_0 {G : z_G} {x1 : Int32} {w w2 : ev_W} (ok : z_Ok G w) (hc : z_K G 186 [.ref 0, .int (x1)] w (.inr 0) w2) : z_K G 424 [.ref 0, .int x1, .ref 250] w (.inl (some (.int (Int32.ofNat 1)))) w2 := by
  refine z_con ok.1 (ml := 4) (by decide +kernel) rfl rfl ?_
  show z_R G 424 0 [some (.ref (0)), some (.int (x1)), some (.ref (250)), none] [] w (.inl (some (.int (Int32.ofNat 1)))) w2
  have hB : z_all [z_is 424 0 (zf_aload 0 2 1), z_is 424 1 (zf_cst 1 (Int32.ofNat 0) 2), z_is 424 2 (zf_aload 2 0 3), z_is 424 3 (zf_iload 3 1 4), z_is 424 4 (zf_cv 4 186 1 7 7)] = true := by decide +kernel
  refine z_aload hB rfl (fun hB => ?_)
  refine z_cst hB (fun hB => ?_)
  refine z_aload hB rfl (fun hB => ?_)
  refine z_iload hB rfl (fun hB => ?_)
  exact z_callVh hB (as := [.int (x1)]) (a := 0) (rest := [.int (Int32.ofNat 0), .ref (250)]) rfl (b := 3) (by decide +kernel) rfl rfl rfl rfl (zt_n ok (c := 7) (a := 0) (by decide +kernel)).1 (zt_n ok (c := 7) (a := 0) (by decide +kernel)).2.2.1 hc
theorem lh_setWind_2 {G : z_G} {x1 : Int32} {w w2 : ev_W} (ok : z_Ok G w) (hc : z_K G 186 [.ref 0, .int (x1)] w (.inr 2) w2) : z_K G 424 [.ref 0, .int x1, .ref 250] w (.inl (some (.int (Int32.ofNat 2)))) w2 := by
  refine z_con ok.1 (ml := 4) (by decide +kernel) rfl rfl ?_
  show z_R G 424 0 [some (.ref (0)), some (.int (x1)), some (.ref (250)), none] [] w (.inl (some (.int (Int32.ofNat 2)))) w2
  have hB : z_all [z_is 424 0 (zf_aload 0 2 1), z_is 424 1 (zf_cst 1 (Int32.ofNat 0) 2), z_is 424 2 (zf_aload 2 0 3), z_is 424 3 (zf_iload 3 1 4), z_is 424 4 (zf_cv 4 186 1 7 7)] = true := by decide +kernel
  refine z_aload hB rfl (fun hB => ?_)
  refine z_cst hB (fun hB => ?_)
  refine z_aload hB rfl (fun hB => ?_)
  refine z_iload hB rfl (fun hB => ?_)
  exact z_callVh hB (as := [.int (x1)]) (a := 0) (rest := [.int (Int32.ofNat 0), .ref (250)]) rfl (b := 3) (by decide +kernel) rfl rfl rfl rfl (zt_n ok (c := 7) (a := 0) (by decide +kernel)).1 (zt_n ok (c := 7) (a := 0) (by decide +kernel)).2.2.1 hc
theorem lh_addFlag_v {G : z_G} {x1 : Int32} {x2 : Int32} {x3 : Int32} {x4 : Int32} {w w2 : ev_W} (ok : z_Ok G w) (ok2 : z_Ok G w2) {v : Int32} (hc : z_K G 187 [.ref 0, .int (x1), .int (x2), .int (x3), .int (x4)] w (.inl (some (.int v))) w2) : z_K G 425 [.ref 0, .int x1, .int x2, .int x3, .int x4, .ref 250] w (.inl (some (.int (Int32.ofNat 0)))) (w_sJ w2 250 0 v.toInt64) := by
  refine z_con ok.1 (ml := 7) (by decide +kernel) rfl rfl ?_
  show z_R G 425 0 [some (.ref (0)), some (.int (x1)), some (.int (x2)), some (.int (x3)), some (.int (x4)), some (.ref (250)), none] [] w (.inl (some (.int (Int32.ofNat 0)))) (w_sJ w2 250 0 v.toInt64)
  have hB : z_all [z_is 425 0 (zf_aload 0 5 2), z_is 425 2 (zf_cst 2 (Int32.ofNat 0) 3), z_is 425 3 (zf_aload 3 0 4), z_is 425 4 (zf_iload 4 1 5), z_is 425 5 (zf_iload 5 2 6), z_is 425 6 (zf_iload 6 3 7), z_is 425 7 (zf_iload 7 4 9), z_is 425 9 (zf_cv 9 187 4 7 12), z_is 425 12 (zf_i2l 12 13), z_is 425 13 (zf_last 13 14), z_is 425 14 (zf_goto 14 29), z_is 425 29 (zf_cst 29 (Int32.ofNat 0) 30), z_is 425 30 (zf_ret 0)] = true := by decide +kernel
  refine z_aload hB rfl (fun hB => ?_)
  refine z_cst hB (fun hB => ?_)
  refine z_aload hB rfl (fun hB => ?_)
  refine z_iload hB rfl (fun hB => ?_)
  refine z_iload hB rfl (fun hB => ?_)
  refine z_iload hB rfl (fun hB => ?_)
  refine z_iload hB rfl (fun hB => ?_)
  refine z_callV hB (as := [.int (x1), .int (x2), .int (x3), .int (x4)]) (a := 0) (rest := [.int (Int32.ofNat 0), .ref (250)]) rfl rfl rfl (zt_n ok (c := 7) (a := 0) (by decide +kernel)).1 (zt_n ok (c := 7) (a := 0) (by decide +kernel)).2.2.1 hc (fun hB => ?_)
  refine z_i2l hB (fun hB => ?_)
  refine z_last hB (zt_n ok2 (c := 14) (a := 250) (by decide +kernel)).1 (zt_n ok2 (c := 14) (a := 250) (by decide +kernel)).2.2.1 (by rw [(zt_n ok2 (c := 14) (a := 250) (by decide +kernel)).2.2.2]; decide +kernel) (fun hB => ?_)
  refine z_goto hB (fun hB => ?_)
  refine z_cst hB (fun hB => ?_)
  exact z_reti hB
theorem lh_addFlag_0 {G : z_G} {x1 : Int32} {x2 : Int32} {x3 : Int32} {x4 : Int32} {w w2 : ev_W} (ok : z_Ok G w) (hc : z_K G 187 [.ref 0, .int (x1), .int (x2), .int (x3), .int (x4)] w (.inr 0) w2) : z_K G 425 [.ref 0, .int x1, .int x2, .int x3, .int x4, .ref 250] w (.inl (some (.int (Int32.ofNat 1)))) w2 := by
  refine z_con ok.1 (ml := 7) (by decide +kernel) rfl rfl ?_
  show z_R G 425 0 [some (.ref (0)), some (.int (x1)), some (.int (x2)), some (.int (x3)), some (.int (x4)), some (.ref (250)), none] [] w (.inl (some (.int (Int32.ofNat 1)))) w2
  have hB : z_all [z_is 425 0 (zf_aload 0 5 2), z_is 425 2 (zf_cst 2 (Int32.ofNat 0) 3), z_is 425 3 (zf_aload 3 0 4), z_is 425 4 (zf_iload 4 1 5), z_is 425 5 (zf_iload 5 2 6), z_is 425 6 (zf_iload 6 3 7), z_is 425 7 (zf_iload 7 4 9), z_is 425 9 (zf_cv 9 187 4 7 12)] = true := by decide +kernel
  refine z_aload hB rfl (fun hB => ?_)
  refine z_cst hB (fun hB => ?_)
  refine z_aload hB rfl (fun hB => ?_)
  refine z_iload hB rfl (fun hB => ?_)
  refine z_iload hB rfl (fun hB => ?_)
  refine z_iload hB rfl (fun hB => ?_)
  refine z_iload hB rfl (fun hB => ?_)
  exact z_callVh hB (as := [.int (x1), .int (x2), .int (x3), .int (x4)]) (a := 0) (rest := [.int (Int32.ofNat 0), .ref (250)]) rfl (b := 6) (by decide +kernel) rfl rfl rfl rfl (zt_n ok (c := 7) (a := 0) (by decide +kernel)).1 (zt_n ok (c := 7) (a := 0) (by decide +kernel)).2.2.1 hc
theorem lh_addFlag_1 {G : z_G} {x1 : Int32} {x2 : Int32} {x3 : Int32} {x4 : Int32} {w w2 : ev_W} (ok : z_Ok G w) (hc : z_K G 187 [.ref 0, .int (x1), .int (x2), .int (x3), .int (x4)] w (.inr 1) w2) : z_K G 425 [.ref 0, .int x1, .int x2, .int x3, .int x4, .ref 250] w (.inl (some (.int (Int32.ofNat 2)))) w2 := by
  refine z_con ok.1 (ml := 7) (by decide +kernel) rfl rfl ?_
  show z_R G 425 0 [some (.ref (0)), some (.int (x1)), some (.int (x2)), some (.int (x3)), some (.int (x4)), some (.ref (250)), none] [] w (.inl (some (.int (Int32.ofNat 2)))) w2
  have hB : z_all [z_is 425 0 (zf_aload 0 5 2), z_is 425 2 (zf_cst 2 (Int32.ofNat 0) 3), z_is 425 3 (zf_aload 3 0 4), z_is 425 4 (zf_iload 4 1 5), z_is 425 5 (zf_iload 5 2 6), z_is 425 6 (zf_iload 6 3 7), z_is 425 7 (zf_iload 7 4 9), z_is 425 9 (zf_cv 9 187 4 7 12)] = true := by decide +kernel
  refine z_aload hB rfl (fun hB => ?_)
  refine z_cst hB (fun hB => ?_)
  refine z_aload hB rfl (fun hB => ?_)
  refine z_iload hB rfl (fun hB => ?_)
  refine z_iload hB rfl (fun hB => ?_)
  refine z_iload hB rfl (fun hB => ?_)
  refine z_iload hB rfl (fun hB => ?_)
  exact z_callVh hB (as := [.int (x1), .int (x2), .int (x3), .int (x4)]) (a := 0) (rest := [.int (Int32.ofNat 0), .ref (250)]) rfl (b := 6) (by decide +kernel) rfl rfl rfl rfl (zt_n ok (c := 7) (a := 0) (by decide +kernel)).1 (zt_n ok (c := 7) (a := 0) (by decide +kernel)).2.2.1 hc
theorem lh_addFlag_2 {G : z_G} {x1 : Int32} {x2 : Int32} {x3 : Int32} {x4 : Int32} {w w2 : ev_W} (ok : z_Ok G w) (hc : z_K G 187 [.ref 0, .int (x1), .int (x2), .int (x3), .int (x4)] w (.inr 2) w2) : z_K G 425 [.ref 0, .int x1, .int x2, .int x3, .int x4, .ref 250] w (.inl (some (.int (Int32.ofNat 3)))) w2 := by
  refine z_con ok.1 (ml := 7) (by decide +kernel) rfl rfl ?_
  show z_R G 425 0 [some (.ref (0)), some (.int (x1)), some (.int (x2)), some (.int (x3)), some (.int (x4)), some (.ref (250)), none] [] w (.inl (some (.int (Int32.ofNat 3)))) w2
  have hB : z_all [z_is 425 0 (zf_aload 0 5 2), z_is 425 2 (zf_cst 2 (Int32.ofNat 0) 3), z_is 425 3 (zf_aload 3 0 4), z_is 425 4 (zf_iload 4 1 5), z_is 425 5 (zf_iload 5 2 6), z_is 425 6 (zf_iload 6 3 7), z_is 425 7 (zf_iload 7 4 9), z_is 425 9 (zf_cv 9 187 4 7 12)] = true := by decide +kernel
  refine z_aload hB rfl (fun hB => ?_)
  refine z_cst hB (fun hB => ?_)
  refine z_aload hB rfl (fun hB => ?_)
  refine z_iload hB rfl (fun hB => ?_)
  refine z_iload hB rfl (fun hB => ?_)
  refine z_iload hB rfl (fun hB => ?_)
  refine z_iload hB rfl (fun hB => ?_)
  exact z_callVh hB (as := [.int (x1), .int (x2), .int (x3), .int (x4)]) (a := 0) (rest := [.int (Int32.ofNat 0), .ref (250)]) rfl (b := 6) (by decide +kernel) rfl rfl rfl rfl (zt_n ok (c := 7) (a := 0) (by decide +kernel)).1 (zt_n ok (c := 7) (a := 0) (by decide +kernel)).2.2.1 hc
theorem lh_undo_v {G : z_G} {w w2 : ev_W} (ok : z_Ok G w) (ok2 : z_Ok G w2) {v : Int32} (hc : z_K G 188 [.ref 0] w (.inl (some (.int v))) w2) : z_K G 426 [.ref 0, .ref 250] w (.inl (some (.int (Int32.ofNat 0)))) (w_sJ w2 250 0 v.toInt64) := by
  refine z_con ok.1 (ml := 3) (by decide +kernel) rfl rfl ?_
  show z_R G 426 0 [some (.ref (0)), some (.ref (250)), none] [] w (.inl (some (.int (Int32.ofNat 0)))) (w_sJ w2 250 0 v.toInt64)
  have hB : z_all [z_is 426 0 (zf_aload 0 1 1), z_is 426 1 (zf_cst 1 (Int32.ofNat 0) 2), z_is 426 2 (zf_aload 2 0 3), z_is 426 3 (zf_cv 3 188 0 7 6), z_is 426 6 (zf_i2l 6 7), z_is 426 7 (zf_last 7 8), z_is 426 8 (zf_goto 8 14), z_is 426 14 (zf_cst 14 (Int32.ofNat 0) 15), z_is 426 15 (zf_ret 0)] = true := by decide +kernel
  refine z_aload hB rfl (fun hB => ?_)
  refine z_cst hB (fun hB => ?_)
  refine z_aload hB rfl (fun hB => ?_)
  refine z_callV hB (as := []) (a := 0) (rest := [.int (Int32.ofNat 0), .ref (250)]) rfl rfl rfl (zt_n ok (c := 7) (a := 0) (by decide +kernel)).1 (zt_n ok (c := 7) (a := 0) (by decide +kernel)).2.2.1 hc (fun hB => ?_)
  refine z_i2l hB (fun hB => ?_)
  refine z_last hB (zt_n ok2 (c := 14) (a := 250) (by decide +kernel)).1 (zt_n ok2 (c := 14) (a := 250) (by decide +kernel)).2.2.1 (by rw [(zt_n ok2 (c := 14) (a := 250) (by decide +kernel)).2.2.2]; decide +kernel) (fun hB => ?_)
  refine z_goto hB (fun hB => ?_)
  refine z_cst hB (fun hB => ?_)
  exact z_reti hB
theorem lh_undo_0 {G : z_G} {w w2 : ev_W} (ok : z_Ok G w) (hc : z_K G 188 [.ref 0] w (.inr 0) w2) : z_K G 426 [.ref 0, .ref 250] w (.inl (some (.int (Int32.ofNat 1)))) w2 := by
  refine z_con ok.1 (ml := 3) (by decide +kernel) rfl rfl ?_
  show z_R G 426 0 [some (.ref (0)), some (.ref (250)), none] [] w (.inl (some (.int (Int32.ofNat 1)))) w2
  have hB : z_all [z_is 426 0 (zf_aload 0 1 1), z_is 426 1 (zf_cst 1 (Int32.ofNat 0) 2), z_is 426 2 (zf_aload 2 0 3), z_is 426 3 (zf_cv 3 188 0 7 6)] = true := by decide +kernel
  refine z_aload hB rfl (fun hB => ?_)
  refine z_cst hB (fun hB => ?_)
  refine z_aload hB rfl (fun hB => ?_)
  exact z_callVh hB (as := []) (a := 0) (rest := [.int (Int32.ofNat 0), .ref (250)]) rfl (b := 2) (by decide +kernel) rfl rfl rfl rfl (zt_n ok (c := 7) (a := 0) (by decide +kernel)).1 (zt_n ok (c := 7) (a := 0) (by decide +kernel)).2.2.1 hc
theorem lh_save_v {G : z_G} {x1 : Int32} {w w2 : ev_W} (ok : z_Ok G w) (ok2 : z_Ok G w2) {v : Int32} (hc : z_K G 190 [.ref 0, .int (x1)] w (.inl (some (.int v))) w2) : z_K G 427 [.ref 0, .int x1, .ref 250] w (.inl (some (.int (Int32.ofNat 0)))) (w_sJ w2 250 0 v.toInt64) := by
  refine z_con ok.1 (ml := 4) (by decide +kernel) rfl rfl ?_
  show z_R G 427 0 [some (.ref (0)), some (.int (x1)), some (.ref (250)), none] [] w (.inl (some (.int (Int32.ofNat 0)))) (w_sJ w2 250 0 v.toInt64)
  have hB : z_all [z_is 427 0 (zf_aload 0 2 1), z_is 427 1 (zf_cst 1 (Int32.ofNat 0) 2), z_is 427 2 (zf_aload 2 0 3), z_is 427 3 (zf_iload 3 1 4), z_is 427 4 (zf_cv 4 190 1 7 7), z_is 427 7 (zf_i2l 7 8), z_is 427 8 (zf_last 8 9), z_is 427 9 (zf_goto 9 18), z_is 427 18 (zf_cst 18 (Int32.ofNat 0) 19), z_is 427 19 (zf_ret 0)] = true := by decide +kernel
  refine z_aload hB rfl (fun hB => ?_)
  refine z_cst hB (fun hB => ?_)
  refine z_aload hB rfl (fun hB => ?_)
  refine z_iload hB rfl (fun hB => ?_)
  refine z_callV hB (as := [.int (x1)]) (a := 0) (rest := [.int (Int32.ofNat 0), .ref (250)]) rfl rfl rfl (zt_n ok (c := 7) (a := 0) (by decide +kernel)).1 (zt_n ok (c := 7) (a := 0) (by decide +kernel)).2.2.1 hc (fun hB => ?_)
  refine z_i2l hB (fun hB => ?_)
  refine z_last hB (zt_n ok2 (c := 14) (a := 250) (by decide +kernel)).1 (zt_n ok2 (c := 14) (a := 250) (by decide +kernel)).2.2.1 (by rw [(zt_n ok2 (c := 14) (a := 250) (by decide +kernel)).2.2.2]; decide +kernel) (fun hB => ?_)
  refine z_goto hB (fun hB => ?_)
  refine z_cst hB (fun hB => ?_)
  exact z_reti hB
theorem lh_save_0 {G : z_G} {x1 : Int32} {w w2 : ev_W} (ok : z_Ok G w) (hc : z_K G 190 [.ref 0, .int (x1)] w (.inr 0) w2) : z_K G 427 [.ref 0, .int x1, .ref 250] w (.inl (some (.int (Int32.ofNat 1)))) w2 := by
  refine z_con ok.1 (ml := 4) (by decide +kernel) rfl rfl ?_
  show z_R G 427 0 [some (.ref (0)), some (.int (x1)), some (.ref (250)), none] [] w (.inl (some (.int (Int32.ofNat 1)))) w2
  have hB : z_all [z_is 427 0 (zf_aload 0 2 1), z_is 427 1 (zf_cst 1 (Int32.ofNat 0) 2), z_is 427 2 (zf_aload 2 0 3), z_is 427 3 (zf_iload 3 1 4), z_is 427 4 (zf_cv 4 190 1 7 7)] = true := by decide +kernel
  refine z_aload hB rfl (fun hB => ?_)
  refine z_cst hB (fun hB => ?_)
  refine z_aload hB rfl (fun hB => ?_)
  refine z_iload hB rfl (fun hB => ?_)
  exact z_callVh hB (as := [.int (x1)]) (a := 0) (rest := [.int (Int32.ofNat 0), .ref (250)]) rfl (b := 3) (by decide +kernel) rfl rfl rfl rfl (zt_n ok (c := 7) (a := 0) (by decide +kernel)).1 (zt_n ok (c := 7) (a := 0) (by decide +kernel)).2.2.1 hc
theorem lh_save_1 {G : z_G} {x1 : Int32} {w w2 : ev_W} (ok : z_Ok G w) (hc : z_K G 190 [.ref 0, .int (x1)] w (.inr 1) w2) : z_K G 427 [.ref 0, .int x1, .ref 250] w (.inl (some (.int (Int32.ofNat 2)))) w2 := by
  refine z_con ok.1 (ml := 4) (by decide +kernel) rfl rfl ?_
  show z_R G 427 0 [some (.ref (0)), some (.int (x1)), some (.ref (250)), none] [] w (.inl (some (.int (Int32.ofNat 2)))) w2
  have hB : z_all [z_is 427 0 (zf_aload 0 2 1), z_is 427 1 (zf_cst 1 (Int32.ofNat 0) 2), z_is 427 2 (zf_aload 2 0 3), z_is 427 3 (zf_iload 3 1 4), z_is 427 4 (zf_cv 4 190 1 7 7)] = true := by decide +kernel
  refine z_aload hB rfl (fun hB => ?_)
  refine z_cst hB (fun hB => ?_)
  refine z_aload hB rfl (fun hB => ?_)
  refine z_iload hB rfl (fun hB => ?_)
  exact z_callVh hB (as := [.int (x1)]) (a := 0) (rest := [.int (Int32.ofNat 0), .ref (250)]) rfl (b := 3) (by decide +kernel) rfl rfl rfl rfl (zt_n ok (c := 7) (a := 0) (by decide +kernel)).1 (zt_n ok (c := 7) (a := 0) (by decide +kernel)).2.2.1 hc
theorem lh_restore_v {G : z_G} {x1 : Int32} {w w2 : ev_W} (ok : z_Ok G w) (ok2 : z_Ok G w2) {v : Int32} (hc : z_K G 191 [.ref 0, .int (x1)] w (.inl (some (.int v))) w2) : z_K G 428 [.ref 0, .int x1, .ref 250] w (.inl (some (.int (Int32.ofNat 0)))) (w_sJ w2 250 0 v.toInt64) := by
  refine z_con ok.1 (ml := 4) (by decide +kernel) rfl rfl ?_
  show z_R G 428 0 [some (.ref (0)), some (.int (x1)), some (.ref (250)), none] [] w (.inl (some (.int (Int32.ofNat 0)))) (w_sJ w2 250 0 v.toInt64)
  have hB : z_all [z_is 428 0 (zf_aload 0 2 1), z_is 428 1 (zf_cst 1 (Int32.ofNat 0) 2), z_is 428 2 (zf_aload 2 0 3), z_is 428 3 (zf_iload 3 1 4), z_is 428 4 (zf_cv 4 191 1 7 7), z_is 428 7 (zf_i2l 7 8), z_is 428 8 (zf_last 8 9), z_is 428 9 (zf_goto 9 18), z_is 428 18 (zf_cst 18 (Int32.ofNat 0) 19), z_is 428 19 (zf_ret 0)] = true := by decide +kernel
  refine z_aload hB rfl (fun hB => ?_)
  refine z_cst hB (fun hB => ?_)
  refine z_aload hB rfl (fun hB => ?_)
  refine z_iload hB rfl (fun hB => ?_)
  refine z_callV hB (as := [.int (x1)]) (a := 0) (rest := [.int (Int32.ofNat 0), .ref (250)]) rfl rfl rfl (zt_n ok (c := 7) (a := 0) (by decide +kernel)).1 (zt_n ok (c := 7) (a := 0) (by decide +kernel)).2.2.1 hc (fun hB => ?_)
  refine z_i2l hB (fun hB => ?_)
  refine z_last hB (zt_n ok2 (c := 14) (a := 250) (by decide +kernel)).1 (zt_n ok2 (c := 14) (a := 250) (by decide +kernel)).2.2.1 (by rw [(zt_n ok2 (c := 14) (a := 250) (by decide +kernel)).2.2.2]; decide +kernel) (fun hB => ?_)
  refine z_goto hB (fun hB => ?_)
  refine z_cst hB (fun hB => ?_)
  exact z_reti hB
theorem lh_restore_1 {G : z_G} {x1 : Int32} {w w2 : ev_W} (ok : z_Ok G w) (hc : z_K G 191 [.ref 0, .int (x1)] w (.inr 1) w2) : z_K G 428 [.ref 0, .int x1, .ref 250] w (.inl (some (.int (Int32.ofNat 1)))) w2 := by
  refine z_con ok.1 (ml := 4) (by decide +kernel) rfl rfl ?_
  show z_R G 428 0 [some (.ref (0)), some (.int (x1)), some (.ref (250)), none] [] w (.inl (some (.int (Int32.ofNat 1)))) w2
  have hB : z_all [z_is 428 0 (zf_aload 0 2 1), z_is 428 1 (zf_cst 1 (Int32.ofNat 0) 2), z_is 428 2 (zf_aload 2 0 3), z_is 428 3 (zf_iload 3 1 4), z_is 428 4 (zf_cv 4 191 1 7 7)] = true := by decide +kernel
  refine z_aload hB rfl (fun hB => ?_)
  refine z_cst hB (fun hB => ?_)
  refine z_aload hB rfl (fun hB => ?_)
  refine z_iload hB rfl (fun hB => ?_)
  exact z_callVh hB (as := [.int (x1)]) (a := 0) (rest := [.int (Int32.ofNat 0), .ref (250)]) rfl (b := 3) (by decide +kernel) rfl rfl rfl rfl (zt_n ok (c := 7) (a := 0) (by decide +kernel)).1 (zt_n ok (c := 7) (a := 0) (by decide +kernel)).2.2.1 hc
theorem lh_restore_0 {G : z_G} {x1 : Int32} {w w2 : ev_W} (ok : z_Ok G w) (hc : z_K G 191 [.ref 0, .int (x1)] w (.inr 0) w2) : z_K G 428 [.ref 0, .int x1, .ref 250] w (.inl (some (.int (Int32.ofNat 2)))) w2 := by
  refine z_con ok.1 (ml := 4) (by decide +kernel) rfl rfl ?_
  show z_R G 428 0 [some (.ref (0)), some (.int (x1)), some (.ref (250)), none] [] w (.inl (some (.int (Int32.ofNat 2)))) w2
  have hB : z_all [z_is 428 0 (zf_aload 0 2 1), z_is 428 1 (zf_cst 1 (Int32.ofNat 0) 2), z_is 428 2 (zf_aload 2 0 3), z_is 428 3 (zf_iload 3 1 4), z_is 428 4 (zf_cv 4 191 1 7 7)] = true := by decide +kernel
  refine z_aload hB rfl (fun hB => ?_)
  refine z_cst hB (fun hB => ?_)
  refine z_aload hB rfl (fun hB => ?_)
  refine z_iload hB rfl (fun hB => ?_)
  exact z_callVh hB (as := [.int (x1)]) (a := 0) (rest := [.int (Int32.ofNat 0), .ref (250)]) rfl (b := 3) (by decide +kernel) rfl rfl rfl rfl (zt_n ok (c := 7) (a := 0) (by decide +kernel)).1 (zt_n ok (c := 7) (a := 0) (by decide +kernel)).2.2.1 hc
