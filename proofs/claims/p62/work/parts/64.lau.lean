/-! texts of the methods, and that the bytecode does what they say: by wip/gen/zd.py -/
def d_L_clear (s : Nat) (I : z_H) : Option (z_H) := ((d_U_clear (s + 1) I).bind fun q1 => ((d_S_clear (s + 7) q1).bind fun q3 => some (q3)))
/-- Laundry.clear()V -/
theorem t_L_clear {G : z_G} {w : ev_W} (ok : z_Ok G w) {s : Nat} (hs : zt 2 s = true) {I : z_H} {r : z_H} (h : d_L_clear s I = some r) : z_K G 29 [.ref (s)] (z_w w I) (.inl none) (z_w w r) := by
  refine z_con ok.1 (ml := 1) (by decide +kernel) rfl rfl ?_
  show z_R G 29 0 [some (.ref (s))] [] (z_w w I) (.inl none) (z_w w r)
  unfold d_L_clear at h
  have hB : z_all [z_is 29 0 (zf_aload 0 0 1), z_is 29 1 (zf_getr 1 2 0 4), z_is 29 4 (zf_cv 4 87 0 4 7), z_is 29 7 (zf_aload 7 0 8), z_is 29 8 (zf_getr 8 2 1 11), z_is 29 11 (zf_cv 11 94 0 5 14), z_is 29 14 (zf_ret 6)] = true := by decide +kernel
  refine z_aload hB rfl (fun hB => ?_)
  refine y_getr (b := (s + 1)) ok hB hs (zla_r0 hs) (fun hB => ?_)
  obtain ⟨q1, e2, h⟩ := z_bind h
  refine y_cv ok hB (as := []) (a := (s + 1)) (rest := []) rfl rfl rfl (zla_k0 hs) (t_U_clear (I := I) ok (zla_k0 hs) e2) (fun hB => ?_)
  refine z_aload hB rfl (fun hB => ?_)
  refine y_getr (b := (s + 7)) ok hB hs (zla_r1 hs) (fun hB => ?_)
  obtain ⟨q3, e4, h⟩ := z_bind h
  refine y_cv ok hB (as := []) (a := (s + 7)) (rest := []) rfl rfl rfl (zla_k1 hs) (t_S_clear (I := q1) ok (zla_k1 hs) e4) (fun hB => ?_)
  cases h
  exact z_retv hB
def d_L_greatestHeat_2 (s : Nat) (x1 : Int32) (I : z_H) (p1 : Int32 × Int32) : Option ((Int32 × Int32) ⊕ (Int32 × Int32)) := (if z_in (x1) 3 then (if p1.2 < (I ((s + 7) + 14) (z_n (x1))) then ((d_S_flagObjectInTub (s + 7) (x1) (p1.2) I).bind fun q7 => some (Sum.inl ((z_mn (p1.1) ((I q7 2))), (p1.2 + (jn 1))))) else some (Sum.inr (p1.1, p1.2))) else none)
def d_L_greatestHeat (s : Nat) (x1 : Int32) (I : z_H) : Option (Int32) := ((z_it (d_L_greatestHeat_2 s x1 I) z_F ((jn 3), (jn 0))).bind fun q3 => some (q3.1))
/-- Laundry.greatestHeat(I)I -/
theorem t_L_greatestHeat {G : z_G} {w : ev_W} (ok : z_Ok G w) {s : Nat} {x1 : Int32} (hs : zt 2 s = true) {I : z_H} {r : Int32} (h : d_L_greatestHeat s x1 I = some r) : z_K G 30 [.ref (s), .int (x1)] (z_w w I) (.inl (some (.int r))) (z_w w I) := by
  refine z_con ok.1 (ml := 4) (by decide +kernel) rfl rfl ?_
  show z_R G 30 0 [some (.ref (s)), some (.int (x1)), none, none] [] (z_w w I) (.inl (some (.int r))) (z_w w I)
  unfold d_L_greatestHeat at h
  have hB : z_all [z_is 30 0 (zf_cst 0 (jn 3) 1), z_is 30 1 (zf_istore 1 2 2), z_is 30 2 (zf_cst 2 (jn 0) 3), z_is 30 3 (zf_istore 3 3 4)] = true := by decide +kernel
  refine z_cst hB (fun hB => ?_)
  refine z_istore hB rfl rfl (fun hB => ?_)
  refine z_cst hB (fun hB => ?_)
  refine z_istore hB rfl rfl (fun hB => ?_)
  obtain ⟨q3, e4, h⟩ := z_bind h
  have k5 : z_R G 30 40 [none, none, some (.int (q3.1)), none] [] (z_w w I) (.inl (some (.int r))) (z_w w I) := by
    have hB : z_all [z_is 30 40 (zf_iload 40 2 41), z_is 30 41 (zf_ret 0)] = true := by decide +kernel
    refine z_iload hB rfl (fun hB => ?_)
    cases h
    exact z_reti hB
  have l2 : ∀ (m2 : Nat) (p1 : Int32 × Int32), z_it (d_L_greatestHeat_2 s x1 I) m2 p1 = some q3 → z_R G 30 4 [some (.ref (s)), some (.int (x1)), some (.int (p1.1)), some (.int (p1.2))] [] (z_w w I) (.inl (some (.int r))) (z_w w I) := by
    intro m2
    induction m2 with
    | zero => intro p1 h; cases h
    | succ m2 i2 =>
      intro p1 h
      obtain ⟨u2, h, b2⟩ := z_it_o h
      unfold d_L_greatestHeat_2 at h
      have hB : z_all [z_is 30 4 (zf_iload 4 3 5), z_is 30 5 (zf_aload 5 0 6), z_is 30 6 (zf_getr 6 2 1 9), z_is 30 9 (zf_getr 9 5 8 12), z_is 30 12 (zf_iload 12 1 13), z_is 30 13 (zf_iald 13 14), z_is 30 14 (zf_if2 .ge 14 40 17)] = true := by decide +kernel
      refine z_iload hB rfl (fun hB => ?_)
      refine z_aload hB rfl (fun hB => ?_)
      refine y_getr (b := (s + 7)) ok hB hs (zla_r1 hs) (fun hB => ?_)
      refine y_getr (b := ((s + 7) + 14)) ok hB (zla_k1 hs) (zst_r8 (zla_k1 hs)) (fun hB => ?_)
      refine z_iload hB rfl (fun hB => ?_)
      obtain ⟨g6, h⟩ := z_gd h
      refine y_iald ok hB (zst_k14 (zla_k1 hs)) (zst_l14 (zla_k1 hs)) g6 (fun hB => ?_)
      refine z_ic_ge hB (fun hc _ => ?_) (fun hc _ => ?_)
      · have h := z_neg hc h
        cases h
        cases b2
        exact z_weak k5 (z_sn (z_sn (z_se (z_sn z_s0))))
      · have h := z_pos hc h
        have hB : z_all [z_is 30 17 (zf_iload 17 2 18), z_is 30 18 (zf_aload 18 0 19), z_is 30 19 (zf_getr 19 2 1 22), z_is 30 22 (zf_iload 22 1 23), z_is 30 23 (zf_iload 23 3 24), z_is 30 24 (zf_cv 24 98 2 5 27), z_is 30 27 (zf_geti 27 0 2 30), z_is 30 30 (zf_nat 30 101 33), z_is 30 33 (zf_istore 33 2 34), z_is 30 34 (zf_iinc 34 3 (jn 1) 37), z_is 30 37 (zf_goto 37 4)] = true := by decide +kernel
        refine z_iload hB rfl (fun hB => ?_)
        refine z_aload hB rfl (fun hB => ?_)
        refine y_getr (b := (s + 7)) ok hB hs (zla_r1 hs) (fun hB => ?_)
        refine z_iload hB rfl (fun hB => ?_)
        refine z_iload hB rfl (fun hB => ?_)
        obtain ⟨q7, e8, h⟩ := z_bind h
        have f9 := t_S_flagObjectInTub_k (zla_k1 hs) e8
        refine y_cv ok hB (as := [.int (x1), .int (p1.2)]) (a := (s + 7)) (rest := [.int (p1.1)]) rfl rfl rfl (zla_k1 hs) (t_S_flagObjectInTub (I := I) ok (zla_k1 hs) e8) (fun hB => ?_)
        refine y_geti ok hB f9 (fun hB => ?_)
        refine z_min hB rfl (fun hB => ?_)
        refine z_istore hB rfl rfl (fun hB => ?_)
        refine z_iinc hB rfl rfl (fun hB => ?_)
        refine z_goto hB (fun hB => ?_)
        cases h
        exact z_weak (i2 ((z_mn (p1.1) ((I q7 2))), (p1.2 + (jn 1))) b2) (z_se (z_se (z_se (z_se z_s0))))
  exact z_weak (l2 _ ((jn 3), (jn 0)) e4) (z_se (z_se (z_se (z_se z_s0))))
def d_L_dirtIn_2 (s : Nat) (x1 : Int32) (I : z_H) (p1 : Int32 × Int32) : Option ((Int32 × Int32) ⊕ (Int32 × Int32)) := (if z_in (x1) 3 then (if p1.2 < (I ((s + 7) + 14) (z_n (x1))) then ((d_S_flagObjectInTub (s + 7) (x1) (p1.2) I).bind fun q7 => some (Sum.inl ((p1.1 + (I q7 3)), (p1.2 + (jn 1))))) else some (Sum.inr (p1.1, p1.2))) else none)
def d_L_dirtIn (s : Nat) (x1 : Int32) (I : z_H) : Option (Int32) := ((z_it (d_L_dirtIn_2 s x1 I) z_F ((jn 0), (jn 0))).bind fun q3 => some (q3.1))
/-- Laundry.dirtIn(I)I -/
theorem t_L_dirtIn {G : z_G} {w : ev_W} (ok : z_Ok G w) {s : Nat} {x1 : Int32} (hs : zt 2 s = true) {I : z_H} {r : Int32} (h : d_L_dirtIn s x1 I = some r) : z_K G 31 [.ref (s), .int (x1)] (z_w w I) (.inl (some (.int r))) (z_w w I) := by
  refine z_con ok.1 (ml := 4) (by decide +kernel) rfl rfl ?_
  show z_R G 31 0 [some (.ref (s)), some (.int (x1)), none, none] [] (z_w w I) (.inl (some (.int r))) (z_w w I)
  unfold d_L_dirtIn at h
  have hB : z_all [z_is 31 0 (zf_cst 0 (jn 0) 1), z_is 31 1 (zf_istore 1 2 2), z_is 31 2 (zf_cst 2 (jn 0) 3), z_is 31 3 (zf_istore 3 3 4)] = true := by decide +kernel
  refine z_cst hB (fun hB => ?_)
  refine z_istore hB rfl rfl (fun hB => ?_)
  refine z_cst hB (fun hB => ?_)
  refine z_istore hB rfl rfl (fun hB => ?_)
  obtain ⟨q3, e4, h⟩ := z_bind h
  have k5 : z_R G 31 38 [none, none, some (.int (q3.1)), none] [] (z_w w I) (.inl (some (.int r))) (z_w w I) := by
    have hB : z_all [z_is 31 38 (zf_iload 38 2 39), z_is 31 39 (zf_ret 0)] = true := by decide +kernel
    refine z_iload hB rfl (fun hB => ?_)
    cases h
    exact z_reti hB
  have l2 : ∀ (m2 : Nat) (p1 : Int32 × Int32), z_it (d_L_dirtIn_2 s x1 I) m2 p1 = some q3 → z_R G 31 4 [some (.ref (s)), some (.int (x1)), some (.int (p1.1)), some (.int (p1.2))] [] (z_w w I) (.inl (some (.int r))) (z_w w I) := by
    intro m2
    induction m2 with
    | zero => intro p1 h; cases h
    | succ m2 i2 =>
      intro p1 h
      obtain ⟨u2, h, b2⟩ := z_it_o h
      unfold d_L_dirtIn_2 at h
      have hB : z_all [z_is 31 4 (zf_iload 4 3 5), z_is 31 5 (zf_aload 5 0 6), z_is 31 6 (zf_getr 6 2 1 9), z_is 31 9 (zf_getr 9 5 8 12), z_is 31 12 (zf_iload 12 1 13), z_is 31 13 (zf_iald 13 14), z_is 31 14 (zf_if2 .ge 14 38 17)] = true := by decide +kernel
      refine z_iload hB rfl (fun hB => ?_)
      refine z_aload hB rfl (fun hB => ?_)
      refine y_getr (b := (s + 7)) ok hB hs (zla_r1 hs) (fun hB => ?_)
      refine y_getr (b := ((s + 7) + 14)) ok hB (zla_k1 hs) (zst_r8 (zla_k1 hs)) (fun hB => ?_)
      refine z_iload hB rfl (fun hB => ?_)
      obtain ⟨g6, h⟩ := z_gd h
      refine y_iald ok hB (zst_k14 (zla_k1 hs)) (zst_l14 (zla_k1 hs)) g6 (fun hB => ?_)
      refine z_ic_ge hB (fun hc _ => ?_) (fun hc _ => ?_)
      · have h := z_neg hc h
        cases h
        cases b2
        exact z_weak k5 (z_sn (z_sn (z_se (z_sn z_s0))))
      · have h := z_pos hc h
        have hB : z_all [z_is 31 17 (zf_iload 17 2 18), z_is 31 18 (zf_aload 18 0 19), z_is 31 19 (zf_getr 19 2 1 22), z_is 31 22 (zf_iload 22 1 23), z_is 31 23 (zf_iload 23 3 24), z_is 31 24 (zf_cv 24 98 2 5 27), z_is 31 27 (zf_geti 27 0 3 30), z_is 31 30 (zf_iadd 30 31), z_is 31 31 (zf_istore 31 2 32), z_is 31 32 (zf_iinc 32 3 (jn 1) 35), z_is 31 35 (zf_goto 35 4)] = true := by decide +kernel
        refine z_iload hB rfl (fun hB => ?_)
        refine z_aload hB rfl (fun hB => ?_)
        refine y_getr (b := (s + 7)) ok hB hs (zla_r1 hs) (fun hB => ?_)
        refine z_iload hB rfl (fun hB => ?_)
        refine z_iload hB rfl (fun hB => ?_)
        obtain ⟨q7, e8, h⟩ := z_bind h
        have f9 := t_S_flagObjectInTub_k (zla_k1 hs) e8
        refine y_cv ok hB (as := [.int (x1), .int (p1.2)]) (a := (s + 7)) (rest := [.int (p1.1)]) rfl rfl rfl (zla_k1 hs) (t_S_flagObjectInTub (I := I) ok (zla_k1 hs) e8) (fun hB => ?_)
        refine y_geti ok hB f9 (fun hB => ?_)
        refine z_iadd hB (fun hB => ?_)
        refine z_istore hB rfl rfl (fun hB => ?_)
        refine z_iinc hB rfl rfl (fun hB => ?_)
        refine z_goto hB (fun hB => ?_)
        cases h
        exact z_weak (i2 ((p1.1 + (I q7 3)), (p1.2 + (jn 1))) b2) (z_se (z_se (z_se (z_se z_s0))))
  exact z_weak (l2 _ ((jn 0), (jn 0)) e4) (z_se (z_se (z_se (z_se z_s0))))
def d_L_coloursIn_2 (s : Nat) (x1 : Int32) (I : z_H) (p1 : Int32 × Int32) : Option ((Int32 × Int32) ⊕ (Int32 × Int32)) := (if z_in (x1) 3 then (if p1.2 < (I ((s + 7) + 14) (z_n (x1))) then ((d_S_flagObjectInTub (s + 7) (x1) (p1.2) I).bind fun q7 => some (Sum.inl ((p1.1 ||| (I q7 1)), (p1.2 + (jn 1))))) else some (Sum.inr (p1.1, p1.2))) else none)
def d_L_coloursIn (s : Nat) (x1 : Int32) (I : z_H) : Option (Int32) := ((z_it (d_L_coloursIn_2 s x1 I) z_F ((jn 0), (jn 0))).bind fun q3 => some (q3.1))
/-- Laundry.coloursIn(I)I -/
theorem t_L_coloursIn {G : z_G} {w : ev_W} (ok : z_Ok G w) {s : Nat} {x1 : Int32} (hs : zt 2 s = true) {I : z_H} {r : Int32} (h : d_L_coloursIn s x1 I = some r) : z_K G 32 [.ref (s), .int (x1)] (z_w w I) (.inl (some (.int r))) (z_w w I) := by
  refine z_con ok.1 (ml := 4) (by decide +kernel) rfl rfl ?_
  show z_R G 32 0 [some (.ref (s)), some (.int (x1)), none, none] [] (z_w w I) (.inl (some (.int r))) (z_w w I)
  unfold d_L_coloursIn at h
  have hB : z_all [z_is 32 0 (zf_cst 0 (jn 0) 1), z_is 32 1 (zf_istore 1 2 2), z_is 32 2 (zf_cst 2 (jn 0) 3), z_is 32 3 (zf_istore 3 3 4)] = true := by decide +kernel
  refine z_cst hB (fun hB => ?_)
  refine z_istore hB rfl rfl (fun hB => ?_)
  refine z_cst hB (fun hB => ?_)
  refine z_istore hB rfl rfl (fun hB => ?_)
  obtain ⟨q3, e4, h⟩ := z_bind h
  have k5 : z_R G 32 38 [none, none, some (.int (q3.1)), none] [] (z_w w I) (.inl (some (.int r))) (z_w w I) := by
    have hB : z_all [z_is 32 38 (zf_iload 38 2 39), z_is 32 39 (zf_ret 0)] = true := by decide +kernel
    refine z_iload hB rfl (fun hB => ?_)
    cases h
    exact z_reti hB
  have l2 : ∀ (m2 : Nat) (p1 : Int32 × Int32), z_it (d_L_coloursIn_2 s x1 I) m2 p1 = some q3 → z_R G 32 4 [some (.ref (s)), some (.int (x1)), some (.int (p1.1)), some (.int (p1.2))] [] (z_w w I) (.inl (some (.int r))) (z_w w I) := by
    intro m2
    induction m2 with
    | zero => intro p1 h; cases h
    | succ m2 i2 =>
      intro p1 h
      obtain ⟨u2, h, b2⟩ := z_it_o h
      unfold d_L_coloursIn_2 at h
      have hB : z_all [z_is 32 4 (zf_iload 4 3 5), z_is 32 5 (zf_aload 5 0 6), z_is 32 6 (zf_getr 6 2 1 9), z_is 32 9 (zf_getr 9 5 8 12), z_is 32 12 (zf_iload 12 1 13), z_is 32 13 (zf_iald 13 14), z_is 32 14 (zf_if2 .ge 14 38 17)] = true := by decide +kernel
      refine z_iload hB rfl (fun hB => ?_)
      refine z_aload hB rfl (fun hB => ?_)
      refine y_getr (b := (s + 7)) ok hB hs (zla_r1 hs) (fun hB => ?_)
      refine y_getr (b := ((s + 7) + 14)) ok hB (zla_k1 hs) (zst_r8 (zla_k1 hs)) (fun hB => ?_)
      refine z_iload hB rfl (fun hB => ?_)
      obtain ⟨g6, h⟩ := z_gd h
      refine y_iald ok hB (zst_k14 (zla_k1 hs)) (zst_l14 (zla_k1 hs)) g6 (fun hB => ?_)
      refine z_ic_ge hB (fun hc _ => ?_) (fun hc _ => ?_)
      · have h := z_neg hc h
        cases h
        cases b2
        exact z_weak k5 (z_sn (z_sn (z_se (z_sn z_s0))))
      · have h := z_pos hc h
        have hB : z_all [z_is 32 17 (zf_iload 17 2 18), z_is 32 18 (zf_aload 18 0 19), z_is 32 19 (zf_getr 19 2 1 22), z_is 32 22 (zf_iload 22 1 23), z_is 32 23 (zf_iload 23 3 24), z_is 32 24 (zf_cv 24 98 2 5 27), z_is 32 27 (zf_geti 27 0 1 30), z_is 32 30 (zf_ior 30 31), z_is 32 31 (zf_istore 31 2 32), z_is 32 32 (zf_iinc 32 3 (jn 1) 35), z_is 32 35 (zf_goto 35 4)] = true := by decide +kernel
        refine z_iload hB rfl (fun hB => ?_)
        refine z_aload hB rfl (fun hB => ?_)
        refine y_getr (b := (s + 7)) ok hB hs (zla_r1 hs) (fun hB => ?_)
        refine z_iload hB rfl (fun hB => ?_)
        refine z_iload hB rfl (fun hB => ?_)
        obtain ⟨q7, e8, h⟩ := z_bind h
        have f9 := t_S_flagObjectInTub_k (zla_k1 hs) e8
        refine y_cv ok hB (as := [.int (x1), .int (p1.2)]) (a := (s + 7)) (rest := [.int (p1.1)]) rfl rfl rfl (zla_k1 hs) (t_S_flagObjectInTub (I := I) ok (zla_k1 hs) e8) (fun hB => ?_)
        refine y_geti ok hB f9 (fun hB => ?_)
        refine z_ior hB (fun hB => ?_)
        refine z_istore hB rfl rfl (fun hB => ?_)
        refine z_iinc hB rfl rfl (fun hB => ?_)
        refine z_goto hB (fun hB => ?_)
        cases h
        exact z_weak (i2 ((p1.1 ||| (I q7 1)), (p1.2 + (jn 1))) b2) (z_se (z_se (z_se (z_se z_s0))))
  exact z_weak (l2 _ ((jn 0), (jn 0)) e4) (z_se (z_se (z_se (z_se z_s0))))
def d_L_carriedIn_2 (s : Nat) (x1 : Int32) (I : z_H) (p1 : Int32 × Int32) : Option ((Int32 × Int32) ⊕ (Int32 × Int32)) := (if z_in (x1) 3 then (if p1.2 < (I ((s + 7) + 14) (z_n (x1))) then ((d_S_flagObjectInTub (s + 7) (x1) (p1.2) I).bind fun q7 => ((d_G_carried q7 I).bind fun q10 => some (Sum.inl ((p1.1 ||| q10), (p1.2 + (jn 1)))))) else some (Sum.inr (p1.1, p1.2))) else none)
def d_L_carriedIn (s : Nat) (x1 : Int32) (I : z_H) : Option (Int32) := ((z_it (d_L_carriedIn_2 s x1 I) z_F ((jn 0), (jn 0))).bind fun q3 => some (q3.1))
/-- Laundry.carriedIn(I)I -/
theorem t_L_carriedIn {G : z_G} {w : ev_W} (ok : z_Ok G w) {s : Nat} {x1 : Int32} (hs : zt 2 s = true) {I : z_H} {r : Int32} (h : d_L_carriedIn s x1 I = some r) : z_K G 33 [.ref (s), .int (x1)] (z_w w I) (.inl (some (.int r))) (z_w w I) := by
  refine z_con ok.1 (ml := 4) (by decide +kernel) rfl rfl ?_
  show z_R G 33 0 [some (.ref (s)), some (.int (x1)), none, none] [] (z_w w I) (.inl (some (.int r))) (z_w w I)
  unfold d_L_carriedIn at h
  have hB : z_all [z_is 33 0 (zf_cst 0 (jn 0) 1), z_is 33 1 (zf_istore 1 2 2), z_is 33 2 (zf_cst 2 (jn 0) 3), z_is 33 3 (zf_istore 3 3 4)] = true := by decide +kernel
  refine z_cst hB (fun hB => ?_)
  refine z_istore hB rfl rfl (fun hB => ?_)
  refine z_cst hB (fun hB => ?_)
  refine z_istore hB rfl rfl (fun hB => ?_)
  obtain ⟨q3, e4, h⟩ := z_bind h
  have k5 : z_R G 33 38 [none, none, some (.int (q3.1)), none] [] (z_w w I) (.inl (some (.int r))) (z_w w I) := by
    have hB : z_all [z_is 33 38 (zf_iload 38 2 39), z_is 33 39 (zf_ret 0)] = true := by decide +kernel
    refine z_iload hB rfl (fun hB => ?_)
    cases h
    exact z_reti hB
  have l2 : ∀ (m2 : Nat) (p1 : Int32 × Int32), z_it (d_L_carriedIn_2 s x1 I) m2 p1 = some q3 → z_R G 33 4 [some (.ref (s)), some (.int (x1)), some (.int (p1.1)), some (.int (p1.2))] [] (z_w w I) (.inl (some (.int r))) (z_w w I) := by
    intro m2
    induction m2 with
    | zero => intro p1 h; cases h
    | succ m2 i2 =>
      intro p1 h
      obtain ⟨u2, h, b2⟩ := z_it_o h
      unfold d_L_carriedIn_2 at h
      have hB : z_all [z_is 33 4 (zf_iload 4 3 5), z_is 33 5 (zf_aload 5 0 6), z_is 33 6 (zf_getr 6 2 1 9), z_is 33 9 (zf_getr 9 5 8 12), z_is 33 12 (zf_iload 12 1 13), z_is 33 13 (zf_iald 13 14), z_is 33 14 (zf_if2 .ge 14 38 17)] = true := by decide +kernel
      refine z_iload hB rfl (fun hB => ?_)
      refine z_aload hB rfl (fun hB => ?_)
      refine y_getr (b := (s + 7)) ok hB hs (zla_r1 hs) (fun hB => ?_)
      refine y_getr (b := ((s + 7) + 14)) ok hB (zla_k1 hs) (zst_r8 (zla_k1 hs)) (fun hB => ?_)
      refine z_iload hB rfl (fun hB => ?_)
      obtain ⟨g6, h⟩ := z_gd h
      refine y_iald ok hB (zst_k14 (zla_k1 hs)) (zst_l14 (zla_k1 hs)) g6 (fun hB => ?_)
      refine z_ic_ge hB (fun hc _ => ?_) (fun hc _ => ?_)
      · have h := z_neg hc h
        cases h
        cases b2
        exact z_weak k5 (z_sn (z_sn (z_se (z_sn z_s0))))
      · have h := z_pos hc h
        have hB : z_all [z_is 33 17 (zf_iload 17 2 18), z_is 33 18 (zf_aload 18 0 19), z_is 33 19 (zf_getr 19 2 1 22), z_is 33 22 (zf_iload 22 1 23), z_is 33 23 (zf_iload 23 3 24), z_is 33 24 (zf_cv 24 98 2 5 27), z_is 33 27 (zf_cv 27 10 0 0 30), z_is 33 30 (zf_ior 30 31), z_is 33 31 (zf_istore 31 2 32), z_is 33 32 (zf_iinc 32 3 (jn 1) 35), z_is 33 35 (zf_goto 35 4)] = true := by decide +kernel
        refine z_iload hB rfl (fun hB => ?_)
        refine z_aload hB rfl (fun hB => ?_)
        refine y_getr (b := (s + 7)) ok hB hs (zla_r1 hs) (fun hB => ?_)
        refine z_iload hB rfl (fun hB => ?_)
        refine z_iload hB rfl (fun hB => ?_)
        obtain ⟨q7, e8, h⟩ := z_bind h
        have f9 := t_S_flagObjectInTub_k (zla_k1 hs) e8
        refine y_cv ok hB (as := [.int (x1), .int (p1.2)]) (a := (s + 7)) (rest := [.int (p1.1)]) rfl rfl rfl (zla_k1 hs) (t_S_flagObjectInTub (I := I) ok (zla_k1 hs) e8) (fun hB => ?_)
        obtain ⟨q10, e11, h⟩ := z_bind h
        refine y_cv ok hB (as := []) (a := q7) (rest := [.int (p1.1)]) rfl rfl rfl f9 (t_G_carried (I := I) ok f9 e11) (fun hB => ?_)
        refine z_ior hB (fun hB => ?_)
        refine z_istore hB rfl rfl (fun hB => ?_)
        refine z_iinc hB rfl rfl (fun hB => ?_)
        refine z_goto hB (fun hB => ?_)
        cases h
        exact z_weak (i2 ((p1.1 ||| q10), (p1.2 + (jn 1))) b2) (z_se (z_se (z_se (z_se z_s0))))
  exact z_weak (l2 _ ((jn 0), (jn 0)) e4) (z_se (z_se (z_se (z_se z_s0))))
def d_L_runningIn (s : Nat) (x1 : Int32) (x2 : Int32) (I : z_H) : Option (Int32) := ((d_L_carriedIn s (x1) I).bind fun q1 => ((d_U_runningWith (s + 1) (x2) I).bind fun q3 => some ((q1 &&& q3))))
/-- Laundry.runningIn(II)I -/
theorem t_L_runningIn {G : z_G} {w : ev_W} (ok : z_Ok G w) {s : Nat} {x1 : Int32} {x2 : Int32} (hs : zt 2 s = true) {I : z_H} {r : Int32} (h : d_L_runningIn s x1 x2 I = some r) : z_K G 34 [.ref (s), .int (x1), .int (x2)] (z_w w I) (.inl (some (.int r))) (z_w w I) := by
  refine z_con ok.1 (ml := 3) (by decide +kernel) rfl rfl ?_
  show z_R G 34 0 [some (.ref (s)), some (.int (x1)), some (.int (x2))] [] (z_w w I) (.inl (some (.int r))) (z_w w I)
  unfold d_L_runningIn at h
  have hB : z_all [z_is 34 0 (zf_aload 0 0 1), z_is 34 1 (zf_iload 1 1 2), z_is 34 2 (zf_cv 2 33 1 2 5), z_is 34 5 (zf_aload 5 0 6), z_is 34 6 (zf_getr 6 2 0 9), z_is 34 9 (zf_iload 9 2 10), z_is 34 10 (zf_cv 10 92 1 4 13), z_is 34 13 (zf_iand 13 14), z_is 34 14 (zf_ret 0)] = true := by decide +kernel
  refine z_aload hB rfl (fun hB => ?_)
  refine z_iload hB rfl (fun hB => ?_)
  obtain ⟨q1, e2, h⟩ := z_bind h
  refine y_cv ok hB (as := [.int (x1)]) (a := s) (rest := []) rfl rfl rfl hs (t_L_carriedIn (I := I) ok hs e2) (fun hB => ?_)
  refine z_aload hB rfl (fun hB => ?_)
  refine y_getr (b := (s + 1)) ok hB hs (zla_r0 hs) (fun hB => ?_)
  refine z_iload hB rfl (fun hB => ?_)
  obtain ⟨q3, e4, h⟩ := z_bind h
  refine y_cv ok hB (as := [.int (x2)]) (a := (s + 1)) (rest := [.int (q1)]) rfl rfl rfl (zla_k0 hs) (t_U_runningWith (I := I) ok (zla_k0 hs) e4) (fun hB => ?_)
  refine z_iand hB (fun hB => ?_)
  cases h
  exact z_reti hB
def d_L_stainedBy_2 (s : Nat) (x1 : Int32) (x2 : Int32) (I : z_H) (p1 : Int32 × Int32) : Option ((Int32 × Int32) ⊕ (Int32 × Int32)) := (if z_in (x1) 3 then (if p1.2 < (I ((s + 7) + 14) (z_n (x1))) then ((d_S_flagObjectInTub (s + 7) (x1) (p1.2) I).bind fun q7 => ((d_G_newStains q7 (x2) I).bind fun q10 => (Option.bind (α := Int32) (if q10 = jn 0 then some (p1.1) else some ((p1.1 + (jn 1)))) fun q12 => some (Sum.inl (q12, (p1.2 + (jn 1))))))) else some (Sum.inr (p1.1, p1.2))) else none)
def d_L_stainedBy (s : Nat) (x1 : Int32) (x2 : Int32) (I : z_H) : Option (Int32) := ((z_it (d_L_stainedBy_2 s x1 x2 I) z_F ((jn 0), (jn 0))).bind fun q3 => some (q3.1))
/-- Laundry.stainedBy(II)I -/
theorem t_L_stainedBy {G : z_G} {w : ev_W} (ok : z_Ok G w) {s : Nat} {x1 : Int32} {x2 : Int32} (hs : zt 2 s = true) {I : z_H} {r : Int32} (h : d_L_stainedBy s x1 x2 I = some r) : z_K G 35 [.ref (s), .int (x1), .int (x2)] (z_w w I) (.inl (some (.int r))) (z_w w I) := by
  refine z_con ok.1 (ml := 5) (by decide +kernel) rfl rfl ?_
  show z_R G 35 0 [some (.ref (s)), some (.int (x1)), some (.int (x2)), none, none] [] (z_w w I) (.inl (some (.int r))) (z_w w I)
  unfold d_L_stainedBy at h
  have hB : z_all [z_is 35 0 (zf_cst 0 (jn 0) 1), z_is 35 1 (zf_istore 1 3 2), z_is 35 2 (zf_cst 2 (jn 0) 3), z_is 35 3 (zf_istore 3 4 5)] = true := by decide +kernel
  refine z_cst hB (fun hB => ?_)
  refine z_istore hB rfl rfl (fun hB => ?_)
  refine z_cst hB (fun hB => ?_)
  refine z_istore hB rfl rfl (fun hB => ?_)
  obtain ⟨q3, e4, h⟩ := z_bind h
  have k5 : z_R G 35 45 [none, none, none, some (.int (q3.1)), none] [] (z_w w I) (.inl (some (.int r))) (z_w w I) := by
    have hB : z_all [z_is 35 45 (zf_iload 45 3 46), z_is 35 46 (zf_ret 0)] = true := by decide +kernel
    refine z_iload hB rfl (fun hB => ?_)
    cases h
    exact z_reti hB
  have l2 : ∀ (m2 : Nat) (p1 : Int32 × Int32), z_it (d_L_stainedBy_2 s x1 x2 I) m2 p1 = some q3 → z_R G 35 5 [some (.ref (s)), some (.int (x1)), some (.int (x2)), some (.int (p1.1)), some (.int (p1.2))] [] (z_w w I) (.inl (some (.int r))) (z_w w I) := by
    intro m2
    induction m2 with
    | zero => intro p1 h; cases h
    | succ m2 i2 =>
      intro p1 h
      obtain ⟨u2, h, b2⟩ := z_it_o h
      unfold d_L_stainedBy_2 at h
      have hB : z_all [z_is 35 5 (zf_iload 5 4 7), z_is 35 7 (zf_aload 7 0 8), z_is 35 8 (zf_getr 8 2 1 11), z_is 35 11 (zf_getr 11 5 8 14), z_is 35 14 (zf_iload 14 1 15), z_is 35 15 (zf_iald 15 16), z_is 35 16 (zf_if2 .ge 16 45 19)] = true := by decide +kernel
      refine z_iload hB rfl (fun hB => ?_)
      refine z_aload hB rfl (fun hB => ?_)
      refine y_getr (b := (s + 7)) ok hB hs (zla_r1 hs) (fun hB => ?_)
      refine y_getr (b := ((s + 7) + 14)) ok hB (zla_k1 hs) (zst_r8 (zla_k1 hs)) (fun hB => ?_)
      refine z_iload hB rfl (fun hB => ?_)
      obtain ⟨g6, h⟩ := z_gd h
      refine y_iald ok hB (zst_k14 (zla_k1 hs)) (zst_l14 (zla_k1 hs)) g6 (fun hB => ?_)
      refine z_ic_ge hB (fun hc _ => ?_) (fun hc _ => ?_)
      · have h := z_neg hc h
        cases h
        cases b2
        exact z_weak k5 (z_sn (z_sn (z_sn (z_se (z_sn z_s0)))))
      · have h := z_pos hc h
        have hB : z_all [z_is 35 19 (zf_aload 19 0 20), z_is 35 20 (zf_getr 20 2 1 23), z_is 35 23 (zf_iload 23 1 24), z_is 35 24 (zf_iload 24 4 26), z_is 35 26 (zf_cv 26 98 2 5 29), z_is 35 29 (zf_iload 29 2 30), z_is 35 30 (zf_cv 30 11 1 0 33), z_is 35 33 (zf_if1 .eq 33 39 36)] = true := by decide +kernel
        refine z_aload hB rfl (fun hB => ?_)
        refine y_getr (b := (s + 7)) ok hB hs (zla_r1 hs) (fun hB => ?_)
        refine z_iload hB rfl (fun hB => ?_)
        refine z_iload hB rfl (fun hB => ?_)
        obtain ⟨q7, e8, h⟩ := z_bind h
        have f9 := t_S_flagObjectInTub_k (zla_k1 hs) e8
        refine y_cv ok hB (as := [.int (x1), .int (p1.2)]) (a := (s + 7)) (rest := []) rfl rfl rfl (zla_k1 hs) (t_S_flagObjectInTub (I := I) ok (zla_k1 hs) e8) (fun hB => ?_)
        refine z_iload hB rfl (fun hB => ?_)
        obtain ⟨q10, e11, h⟩ := z_bind h
        refine y_cv ok hB (as := [.int (x2)]) (a := q7) (rest := []) rfl rfl rfl f9 (t_G_newStains (I := I) ok f9 e11) (fun hB => ?_)
        obtain ⟨q12, e13, h⟩ := z_bind h
        have k14 : z_R G 35 39 [some (.ref (s)), some (.int (x1)), some (.int (x2)), some (.int (q12)), some (.int (p1.2))] [] (z_w w I) (.inl (some (.int r))) (z_w w I) := by
          have hB : z_all [z_is 35 39 (zf_iinc 39 4 (jn 1) 42), z_is 35 42 (zf_goto 42 5)] = true := by decide +kernel
          refine z_iinc hB rfl rfl (fun hB => ?_)
          refine z_goto hB (fun hB => ?_)
          cases h
          exact z_weak (i2 (q12, (p1.2 + (jn 1))) b2) (z_se (z_se (z_se (z_se (z_se z_s0)))))
        have h := e13
        refine z_if_eq hB (fun hc _ => ?_) (fun hc _ => ?_)
        · have h := z_pos hc h
          cases h
          exact z_weak k14 (z_se (z_se (z_se (z_se (z_se z_s0)))))
        · have h := z_neg hc h
          have hB : z_all [z_is 35 36 (zf_iinc 36 3 (jn 1) 39)] = true := by decide +kernel
          refine z_iinc hB rfl rfl (fun hB => ?_)
          cases h
          exact z_weak k14 (z_se (z_se (z_se (z_se (z_se z_s0)))))
  exact z_weak (l2 _ ((jn 0), (jn 0)) e4) (z_se (z_se (z_se (z_se (z_se z_s0)))))
def d_L_dirtLeftIn_2 (s : Nat) (x1 : Int32) (x2 : Int32) (I : z_H) (p1 : Int32 × Int32) : Option ((Int32 × Int32) ⊕ (Int32 × Int32)) := (if z_in (x1) 3 then (if p1.2 < (I ((s + 7) + 14) (z_n (x1))) then ((d_S_flagObjectInTub (s + 7) (x1) (p1.2) I).bind fun q7 => ((d_G_dirtAfterWash q7 (x2) I).bind fun q10 => some (Sum.inl ((p1.1 + q10), (p1.2 + (jn 1)))))) else some (Sum.inr (p1.1, p1.2))) else none)
def d_L_dirtLeftIn (s : Nat) (x1 : Int32) (x2 : Int32) (I : z_H) : Option (Int32) := ((z_it (d_L_dirtLeftIn_2 s x1 x2 I) z_F ((jn 0), (jn 0))).bind fun q3 => some (q3.1))
/-- Laundry.dirtLeftIn(II)I -/
theorem t_L_dirtLeftIn {G : z_G} {w : ev_W} (ok : z_Ok G w) {s : Nat} {x1 : Int32} {x2 : Int32} (hs : zt 2 s = true) {I : z_H} {r : Int32} (h : d_L_dirtLeftIn s x1 x2 I = some r) : z_K G 36 [.ref (s), .int (x1), .int (x2)] (z_w w I) (.inl (some (.int r))) (z_w w I) := by
  refine z_con ok.1 (ml := 5) (by decide +kernel) rfl rfl ?_
  show z_R G 36 0 [some (.ref (s)), some (.int (x1)), some (.int (x2)), none, none] [] (z_w w I) (.inl (some (.int r))) (z_w w I)
  unfold d_L_dirtLeftIn at h
  have hB : z_all [z_is 36 0 (zf_cst 0 (jn 0) 1), z_is 36 1 (zf_istore 1 3 2), z_is 36 2 (zf_cst 2 (jn 0) 3), z_is 36 3 (zf_istore 3 4 5)] = true := by decide +kernel
  refine z_cst hB (fun hB => ?_)
  refine z_istore hB rfl rfl (fun hB => ?_)
  refine z_cst hB (fun hB => ?_)
  refine z_istore hB rfl rfl (fun hB => ?_)
  obtain ⟨q3, e4, h⟩ := z_bind h
  have k5 : z_R G 36 42 [none, none, none, some (.int (q3.1)), none] [] (z_w w I) (.inl (some (.int r))) (z_w w I) := by
    have hB : z_all [z_is 36 42 (zf_iload 42 3 43), z_is 36 43 (zf_ret 0)] = true := by decide +kernel
    refine z_iload hB rfl (fun hB => ?_)
    cases h
    exact z_reti hB
  have l2 : ∀ (m2 : Nat) (p1 : Int32 × Int32), z_it (d_L_dirtLeftIn_2 s x1 x2 I) m2 p1 = some q3 → z_R G 36 5 [some (.ref (s)), some (.int (x1)), some (.int (x2)), some (.int (p1.1)), some (.int (p1.2))] [] (z_w w I) (.inl (some (.int r))) (z_w w I) := by
    intro m2
    induction m2 with
    | zero => intro p1 h; cases h
    | succ m2 i2 =>
      intro p1 h
      obtain ⟨u2, h, b2⟩ := z_it_o h
      unfold d_L_dirtLeftIn_2 at h
      have hB : z_all [z_is 36 5 (zf_iload 5 4 7), z_is 36 7 (zf_aload 7 0 8), z_is 36 8 (zf_getr 8 2 1 11), z_is 36 11 (zf_getr 11 5 8 14), z_is 36 14 (zf_iload 14 1 15), z_is 36 15 (zf_iald 15 16), z_is 36 16 (zf_if2 .ge 16 42 19)] = true := by decide +kernel
      refine z_iload hB rfl (fun hB => ?_)
      refine z_aload hB rfl (fun hB => ?_)
      refine y_getr (b := (s + 7)) ok hB hs (zla_r1 hs) (fun hB => ?_)
      refine y_getr (b := ((s + 7) + 14)) ok hB (zla_k1 hs) (zst_r8 (zla_k1 hs)) (fun hB => ?_)
      refine z_iload hB rfl (fun hB => ?_)
      obtain ⟨g6, h⟩ := z_gd h
      refine y_iald ok hB (zst_k14 (zla_k1 hs)) (zst_l14 (zla_k1 hs)) g6 (fun hB => ?_)
      refine z_ic_ge hB (fun hc _ => ?_) (fun hc _ => ?_)
      · have h := z_neg hc h
        cases h
        cases b2
        exact z_weak k5 (z_sn (z_sn (z_sn (z_se (z_sn z_s0)))))
      · have h := z_pos hc h
        have hB : z_all [z_is 36 19 (zf_iload 19 3 20), z_is 36 20 (zf_aload 20 0 21), z_is 36 21 (zf_getr 21 2 1 24), z_is 36 24 (zf_iload 24 1 25), z_is 36 25 (zf_iload 25 4 27), z_is 36 27 (zf_cv 27 98 2 5 30), z_is 36 30 (zf_iload 30 2 31), z_is 36 31 (zf_cv 31 12 1 0 34), z_is 36 34 (zf_iadd 34 35), z_is 36 35 (zf_istore 35 3 36), z_is 36 36 (zf_iinc 36 4 (jn 1) 39), z_is 36 39 (zf_goto 39 5)] = true := by decide +kernel
        refine z_iload hB rfl (fun hB => ?_)
        refine z_aload hB rfl (fun hB => ?_)
        refine y_getr (b := (s + 7)) ok hB hs (zla_r1 hs) (fun hB => ?_)
        refine z_iload hB rfl (fun hB => ?_)
        refine z_iload hB rfl (fun hB => ?_)
        obtain ⟨q7, e8, h⟩ := z_bind h
        have f9 := t_S_flagObjectInTub_k (zla_k1 hs) e8
        refine y_cv ok hB (as := [.int (x1), .int (p1.2)]) (a := (s + 7)) (rest := [.int (p1.1)]) rfl rfl rfl (zla_k1 hs) (t_S_flagObjectInTub (I := I) ok (zla_k1 hs) e8) (fun hB => ?_)
        refine z_iload hB rfl (fun hB => ?_)
        obtain ⟨q10, e11, h⟩ := z_bind h
        refine y_cv ok hB (as := [.int (x2)]) (a := q7) (rest := [.int (p1.1)]) rfl rfl rfl f9 (t_G_dirtAfterWash (I := I) ok f9 e11) (fun hB => ?_)
        refine z_iadd hB (fun hB => ?_)
        refine z_istore hB rfl rfl (fun hB => ?_)
        refine z_iinc hB rfl rfl (fun hB => ?_)
        refine z_goto hB (fun hB => ?_)
        cases h
        exact z_weak (i2 ((p1.1 + q10), (p1.2 + (jn 1))) b2) (z_se (z_se (z_se (z_se (z_se z_s0)))))
  exact z_weak (l2 _ ((jn 0), (jn 0)) e4) (z_se (z_se (z_se (z_se (z_se z_s0)))))
def d_L_reasonAgainstPut (s : Nat) (x1 : Int32) (x2 : Int32) (I : z_H) : Option (Int32) := (if z_in (x1) 12 then (if (I ((s + 7) + 2 + z_n (x1)) 8) = jn 0 then (if z_in (x2) 3 then (if z_in (x2) 3 then (Option.bind (α := Int32) (if (I ((s + 7) + 14) (z_n (x2))) < (I ((s + 1) + 5) (z_n (x2))) then some ((jn 0)) else some ((jn 2))) fun q4 => some (q4)) else none) else none) else some ((jn 1))) else none)
/-- Laundry.reasonAgainstPut(II)I -/
theorem t_L_reasonAgainstPut {G : z_G} {w : ev_W} (ok : z_Ok G w) {s : Nat} {x1 : Int32} {x2 : Int32} (hs : zt 2 s = true) {I : z_H} {r : Int32} (h : d_L_reasonAgainstPut s x1 x2 I = some r) : z_K G 37 [.ref (s), .int (x1), .int (x2)] (z_w w I) (.inl (some (.int r))) (z_w w I) := by
  refine z_con ok.1 (ml := 3) (by decide +kernel) rfl rfl ?_
  show z_R G 37 0 [some (.ref (s)), some (.int (x1)), some (.int (x2))] [] (z_w w I) (.inl (some (.int r))) (z_w w I)
  unfold d_L_reasonAgainstPut at h
  have hB : z_all [z_is 37 0 (zf_aload 0 0 1), z_is 37 1 (zf_getr 1 2 1 4), z_is 37 4 (zf_getr 4 5 7 7), z_is 37 7 (zf_iload 7 1 8), z_is 37 8 (zf_aald 8 9), z_is 37 9 (zf_geti 9 0 8 12), z_is 37 12 (zf_if1 .eq 12 17 15)] = true := by decide +kernel
  refine z_aload hB rfl (fun hB => ?_)
  refine y_getr (b := (s + 7)) ok hB hs (zla_r1 hs) (fun hB => ?_)
  refine y_getr (b := ((s + 7) + 1)) ok hB (zla_k1 hs) (zst_r7 (zla_k1 hs)) (fun hB => ?_)
  refine z_iload hB rfl (fun hB => ?_)
  obtain ⟨g1, h⟩ := z_gd h
  refine y_fald ok hB (zst_k1 (zla_k1 hs)) (zst_l1 (zla_k1 hs)) g1 (zst_fR (zla_k1 hs) g1) (fun hB => ?_)
  refine y_geti ok hB (zst_fK (zla_k1 hs) g1) (fun hB => ?_)
  refine z_if_eq hB (fun hc _ => ?_) (fun hc _ => ?_)
  · have h := z_pos hc h
    have hB : z_all [z_is 37 17 (zf_aload 17 0 18), z_is 37 18 (zf_getr 18 2 1 21), z_is 37 21 (zf_getr 21 5 8 24), z_is 37 24 (zf_iload 24 2 25), z_is 37 25 (zf_iald 25 26), z_is 37 26 (zf_aload 26 0 27), z_is 37 27 (zf_getr 27 2 0 30), z_is 37 30 (zf_getr 30 4 8 33), z_is 37 33 (zf_iload 33 2 34), z_is 37 34 (zf_iald 34 35), z_is 37 35 (zf_if2 .lt 35 42 38)] = true := by decide +kernel
    refine z_aload hB rfl (fun hB => ?_)
    refine y_getr (b := (s + 7)) ok hB hs (zla_r1 hs) (fun hB => ?_)
    refine y_getr (b := ((s + 7) + 14)) ok hB (zla_k1 hs) (zst_r8 (zla_k1 hs)) (fun hB => ?_)
    refine z_iload hB rfl (fun hB => ?_)
    obtain ⟨g2, h⟩ := z_gd h
    refine y_iald ok hB (zst_k14 (zla_k1 hs)) (zst_l14 (zla_k1 hs)) g2 (fun hB => ?_)
    refine z_aload hB rfl (fun hB => ?_)
    refine y_getr (b := (s + 1)) ok hB hs (zla_r0 hs) (fun hB => ?_)
    refine y_getr (b := ((s + 1) + 5)) ok hB (zla_k0 hs) (zsu_r8 (zla_k0 hs)) (fun hB => ?_)
    refine z_iload hB rfl (fun hB => ?_)
    obtain ⟨g3, h⟩ := z_gd h
    refine y_iald ok hB (zsu_k8 (zla_k0 hs)) (zsu_l8 (zla_k0 hs)) g3 (fun hB => ?_)
    obtain ⟨q4, e5, h⟩ := z_bind h
    have k6 : z_R G 37 43 [none, none, none] [.int (q4)] (z_w w I) (.inl (some (.int r))) (z_w w I) := by
      have hB : z_all [z_is 37 43 (zf_ret 0)] = true := by decide +kernel
      cases h
      exact z_reti hB
    have h := e5
    refine z_ic_lt hB (fun hc _ => ?_) (fun hc _ => ?_)
    · have h := z_pos hc h
      have hB : z_all [z_is 37 42 (zf_cst 42 (jn 0) 43)] = true := by decide +kernel
      refine z_cst hB (fun hB => ?_)
      cases h
      exact z_weak k6 (z_sn (z_sn (z_sn z_s0)))
    · have h := z_neg hc h
      have hB : z_all [z_is 37 38 (zf_cst 38 (jn 2) 39), z_is 37 39 (zf_goto 39 43)] = true := by decide +kernel
      refine z_cst hB (fun hB => ?_)
      refine z_goto hB (fun hB => ?_)
      cases h
      exact z_weak k6 (z_sn (z_sn (z_sn z_s0)))
  · have h := z_neg hc h
    have hB : z_all [z_is 37 15 (zf_cst 15 (jn 1) 16), z_is 37 16 (zf_ret 0)] = true := by decide +kernel
    refine z_cst hB (fun hB => ?_)
    cases h
    exact z_reti hB
def d_L_reasonAgainstWash (s : Nat) (x1 : Int32) (x2 : Int32) (I : z_H) : Option (Int32) := (if z_in (x1) 3 then (if (I ((s + 7) + 14) (z_n (x1))) = jn 0 then some ((jn 1)) else ((d_L_greatestHeat s (x1) I).bind fun q2 => (Option.bind (α := Int32) (if q2 < x2 then some ((jn 2)) else some ((jn 0))) fun q4 => some (q4)))) else none)
/-- Laundry.reasonAgainstWash(II)I -/
theorem t_L_reasonAgainstWash {G : z_G} {w : ev_W} (ok : z_Ok G w) {s : Nat} {x1 : Int32} {x2 : Int32} (hs : zt 2 s = true) {I : z_H} {r : Int32} (h : d_L_reasonAgainstWash s x1 x2 I = some r) : z_K G 38 [.ref (s), .int (x1), .int (x2)] (z_w w I) (.inl (some (.int r))) (z_w w I) := by
  refine z_con ok.1 (ml := 3) (by decide +kernel) rfl rfl ?_
  show z_R G 38 0 [some (.ref (s)), some (.int (x1)), some (.int (x2))] [] (z_w w I) (.inl (some (.int r))) (z_w w I)
  unfold d_L_reasonAgainstWash at h
  have hB : z_all [z_is 38 0 (zf_aload 0 0 1), z_is 38 1 (zf_getr 1 2 1 4), z_is 38 4 (zf_getr 4 5 8 7), z_is 38 7 (zf_iload 7 1 8), z_is 38 8 (zf_iald 8 9), z_is 38 9 (zf_if1 .ne 9 14 12)] = true := by decide +kernel
  refine z_aload hB rfl (fun hB => ?_)
  refine y_getr (b := (s + 7)) ok hB hs (zla_r1 hs) (fun hB => ?_)
  refine y_getr (b := ((s + 7) + 14)) ok hB (zla_k1 hs) (zst_r8 (zla_k1 hs)) (fun hB => ?_)
  refine z_iload hB rfl (fun hB => ?_)
  obtain ⟨g1, h⟩ := z_gd h
  refine y_iald ok hB (zst_k14 (zla_k1 hs)) (zst_l14 (zla_k1 hs)) g1 (fun hB => ?_)
  refine z_if_ne hB (fun hc _ => ?_) (fun hc _ => ?_)
  · have h := z_neg hc h
    have hB : z_all [z_is 38 14 (zf_iload 14 2 15), z_is 38 15 (zf_aload 15 0 16), z_is 38 16 (zf_iload 16 1 17), z_is 38 17 (zf_cv 17 30 1 2 20), z_is 38 20 (zf_if2 .le 20 27 23)] = true := by decide +kernel
    refine z_iload hB rfl (fun hB => ?_)
    refine z_aload hB rfl (fun hB => ?_)
    refine z_iload hB rfl (fun hB => ?_)
    obtain ⟨q2, e3, h⟩ := z_bind h
    refine y_cv ok hB (as := [.int (x1)]) (a := s) (rest := [.int (x2)]) rfl rfl rfl hs (t_L_greatestHeat (I := I) ok hs e3) (fun hB => ?_)
    obtain ⟨q4, e5, h⟩ := z_bind h
    have k6 : z_R G 38 28 [none, none, none] [.int (q4)] (z_w w I) (.inl (some (.int r))) (z_w w I) := by
      have hB : z_all [z_is 38 28 (zf_ret 0)] = true := by decide +kernel
      cases h
      exact z_reti hB
    have h := e5
    refine z_ic_le hB (fun hc _ => ?_) (fun hc _ => ?_)
    · have h := z_neg hc h
      have hB : z_all [z_is 38 27 (zf_cst 27 (jn 0) 28)] = true := by decide +kernel
      refine z_cst hB (fun hB => ?_)
      cases h
      exact z_weak k6 (z_sn (z_sn (z_sn z_s0)))
    · have h := z_pos hc h
      have hB : z_all [z_is 38 23 (zf_cst 23 (jn 2) 24), z_is 38 24 (zf_goto 24 28)] = true := by decide +kernel
      refine z_cst hB (fun hB => ?_)
      refine z_goto hB (fun hB => ?_)
      cases h
      exact z_weak k6 (z_sn (z_sn (z_sn z_s0)))
  · have h := z_pos hc h
    have hB : z_all [z_is 38 12 (zf_cst 12 (jn 1) 13), z_is 38 13 (zf_ret 0)] = true := by decide +kernel
    refine z_cst hB (fun hB => ?_)
    cases h
    exact z_reti hB
def d_L_washTub_8 (s : Nat) (x1 : Int32) (x2 : Int32) (q1 : Int32) (q3 : Int32) (p7 : Int32 × z_H) : Option ((Int32 × z_H) ⊕ (Int32 × z_H)) := (if z_in (x1) 3 then (if p7.1 < (p7.2 ((s + 7) + 14) (z_n (x1))) then ((d_S_flagObjectInTub (s + 7) (x1) (p7.1) p7.2).bind fun q15 => ((d_G_takeWash q15 (x2) ((q1 &&& q3)) p7.2).bind fun q18 => some (Sum.inl ((p7.1 + (jn 1)), q18)))) else some (Sum.inr (p7.1, p7.2))) else none)
def d_L_washTub (s : Nat) (x1 : Int32) (x2 : Int32) (I : z_H) : Option (Int32 × z_H) := ((d_L_carriedIn s (x1) I).bind fun q1 => ((d_U_runningWith (s + 1) (x2) I).bind fun q3 => ((d_L_stainedBy s (x1) ((q1 &&& q3)) I).bind fun q5 => ((z_it (d_L_washTub_8 s x1 x2 q1 q3) z_F ((jn 0), I)).bind fun q9 => ((d_S_emptyTub (s + 7) (x1) q9.2).bind fun q12 => some ((q5, (ev_u2 q12.2 (s + 7) 4 ((q12.2 (s + 7) 4) + (jn 1))))))))))
/-- Laundry.washTub(II)I -/
theorem t_L_washTub {G : z_G} {w : ev_W} (ok : z_Ok G w) {s : Nat} {x1 : Int32} {x2 : Int32} (hs : zt 2 s = true) {I : z_H} {r : Int32 × z_H} (h : d_L_washTub s x1 x2 I = some r) : z_K G 39 [.ref (s), .int (x1), .int (x2)] (z_w w I) (.inl (some (.int r.1))) (z_w w r.2) := by
  refine z_con ok.1 (ml := 6) (by decide +kernel) rfl rfl ?_
  show z_R G 39 0 [some (.ref (s)), some (.int (x1)), some (.int (x2)), none, none, none] [] (z_w w I) (.inl (some (.int r.1))) (z_w w r.2)
  unfold d_L_washTub at h
  have hB : z_all [z_is 39 0 (zf_aload 0 0 1), z_is 39 1 (zf_iload 1 1 2), z_is 39 2 (zf_cv 2 33 1 2 5), z_is 39 5 (zf_aload 5 0 6), z_is 39 6 (zf_getr 6 2 0 9), z_is 39 9 (zf_iload 9 2 10), z_is 39 10 (zf_cv 10 92 1 4 13), z_is 39 13 (zf_iand 13 14), z_is 39 14 (zf_istore 14 3 15), z_is 39 15 (zf_aload 15 0 16), z_is 39 16 (zf_iload 16 1 17), z_is 39 17 (zf_iload 17 3 18), z_is 39 18 (zf_cv 18 35 2 2 21), z_is 39 21 (zf_istore 21 4 23), z_is 39 23 (zf_cst 23 (jn 0) 24), z_is 39 24 (zf_istore 24 5 26)] = true := by decide +kernel
  refine z_aload hB rfl (fun hB => ?_)
  refine z_iload hB rfl (fun hB => ?_)
  obtain ⟨q1, e2, h⟩ := z_bind h
  refine y_cv ok hB (as := [.int (x1)]) (a := s) (rest := []) rfl rfl rfl hs (t_L_carriedIn (I := I) ok hs e2) (fun hB => ?_)
  refine z_aload hB rfl (fun hB => ?_)
  refine y_getr (b := (s + 1)) ok hB hs (zla_r0 hs) (fun hB => ?_)
  refine z_iload hB rfl (fun hB => ?_)
  obtain ⟨q3, e4, h⟩ := z_bind h
  refine y_cv ok hB (as := [.int (x2)]) (a := (s + 1)) (rest := [.int (q1)]) rfl rfl rfl (zla_k0 hs) (t_U_runningWith (I := I) ok (zla_k0 hs) e4) (fun hB => ?_)
  refine z_iand hB (fun hB => ?_)
  refine z_istore hB rfl rfl (fun hB => ?_)
  refine z_aload hB rfl (fun hB => ?_)
  refine z_iload hB rfl (fun hB => ?_)
  refine z_iload hB rfl (fun hB => ?_)
  obtain ⟨q5, e6, h⟩ := z_bind h
  refine y_cv ok hB (as := [.int (x1), .int ((q1 &&& q3))]) (a := s) (rest := []) rfl rfl rfl hs (t_L_stainedBy (I := I) ok hs e6) (fun hB => ?_)
  refine z_istore hB rfl rfl (fun hB => ?_)
  refine z_cst hB (fun hB => ?_)
  refine z_istore hB rfl rfl (fun hB => ?_)
  obtain ⟨q9, e10, h⟩ := z_bind h
  have k11 : z_R G 39 61 [some (.ref (s)), some (.int (x1)), none, none, some (.int (q5)), none] [] (z_w w q9.2) (.inl (some (.int r.1))) (z_w w r.2) := by
    have hB : z_all [z_is 39 61 (zf_aload 61 0 62), z_is 39 62 (zf_getr 62 2 1 65), z_is 39 65 (zf_iload 65 1 66), z_is 39 66 (zf_cv 66 113 1 5 69), z_is 39 69 (zf_popi 69 70), z_is 39 70 (zf_aload 70 0 71), z_is 39 71 (zf_getr 71 2 1 74), z_is 39 74 (zf_dupr 74 75), z_is 39 75 (zf_geti 75 5 4 78), z_is 39 78 (zf_cst 78 (jn 1) 79), z_is 39 79 (zf_iadd 79 80), z_is 39 80 (zf_puti 80 5 4 83), z_is 39 83 (zf_iload 83 4 85), z_is 39 85 (zf_ret 0)] = true := by decide +kernel
    refine z_aload hB rfl (fun hB => ?_)
    refine y_getr (b := (s + 7)) ok hB hs (zla_r1 hs) (fun hB => ?_)
    refine z_iload hB rfl (fun hB => ?_)
    obtain ⟨q12, e13, h⟩ := z_bind h
    refine y_cv ok hB (as := [.int (x1)]) (a := (s + 7)) (rest := []) rfl rfl rfl (zla_k1 hs) (t_S_emptyTub (I := q9.2) ok (zla_k1 hs) e13) (fun hB => ?_)
    refine z_popi hB (fun hB => ?_)
    refine z_aload hB rfl (fun hB => ?_)
    refine y_getr (b := (s + 7)) ok hB hs (zla_r1 hs) (fun hB => ?_)
    refine z_dupr hB (fun hB => ?_)
    refine y_geti ok hB (zla_k1 hs) (fun hB => ?_)
    refine z_cst hB (fun hB => ?_)
    refine z_iadd hB (fun hB => ?_)
    refine y_puti ok hB (zla_k1 hs) (fun hB => ?_)
    refine z_iload hB rfl (fun hB => ?_)
    cases h
    exact z_reti hB
  have l8 : ∀ (m8 : Nat) (p7 : Int32 × z_H), z_it (d_L_washTub_8 s x1 x2 q1 q3) m8 p7 = some q9 → z_R G 39 26 [some (.ref (s)), some (.int (x1)), some (.int (x2)), some (.int ((q1 &&& q3))), some (.int (q5)), some (.int (p7.1))] [] (z_w w p7.2) (.inl (some (.int r.1))) (z_w w r.2) := by
    intro m8
    induction m8 with
    | zero => intro p7 h; cases h
    | succ m8 i8 =>
      intro p7 h
      obtain ⟨u8, h, b8⟩ := z_it_o h
      unfold d_L_washTub_8 at h
      have hB : z_all [z_is 39 26 (zf_iload 26 5 28), z_is 39 28 (zf_aload 28 0 29), z_is 39 29 (zf_getr 29 2 1 32), z_is 39 32 (zf_getr 32 5 8 35), z_is 39 35 (zf_iload 35 1 36), z_is 39 36 (zf_iald 36 37), z_is 39 37 (zf_if2 .ge 37 61 40)] = true := by decide +kernel
      refine z_iload hB rfl (fun hB => ?_)
      refine z_aload hB rfl (fun hB => ?_)
      refine y_getr (b := (s + 7)) ok hB hs (zla_r1 hs) (fun hB => ?_)
      refine y_getr (b := ((s + 7) + 14)) ok hB (zla_k1 hs) (zst_r8 (zla_k1 hs)) (fun hB => ?_)
      refine z_iload hB rfl (fun hB => ?_)
      obtain ⟨g14, h⟩ := z_gd h
      refine y_iald ok hB (zst_k14 (zla_k1 hs)) (zst_l14 (zla_k1 hs)) g14 (fun hB => ?_)
      refine z_ic_ge hB (fun hc _ => ?_) (fun hc _ => ?_)
      · have h := z_neg hc h
        cases h
        cases b8
        exact z_weak k11 (z_se (z_se (z_sn (z_sn (z_se (z_sn z_s0))))))
      · have h := z_pos hc h
        have hB : z_all [z_is 39 40 (zf_aload 40 0 41), z_is 39 41 (zf_getr 41 2 1 44), z_is 39 44 (zf_iload 44 1 45), z_is 39 45 (zf_iload 45 5 47), z_is 39 47 (zf_cv 47 98 2 5 50), z_is 39 50 (zf_iload 50 2 51), z_is 39 51 (zf_iload 51 3 52), z_is 39 52 (zf_cv 52 13 2 0 55), z_is 39 55 (zf_iinc 55 5 (jn 1) 58), z_is 39 58 (zf_goto 58 26)] = true := by decide +kernel
        refine z_aload hB rfl (fun hB => ?_)
        refine y_getr (b := (s + 7)) ok hB hs (zla_r1 hs) (fun hB => ?_)
        refine z_iload hB rfl (fun hB => ?_)
        refine z_iload hB rfl (fun hB => ?_)
        obtain ⟨q15, e16, h⟩ := z_bind h
        have f17 := t_S_flagObjectInTub_k (zla_k1 hs) e16
        refine y_cv ok hB (as := [.int (x1), .int (p7.1)]) (a := (s + 7)) (rest := []) rfl rfl rfl (zla_k1 hs) (t_S_flagObjectInTub (I := p7.2) ok (zla_k1 hs) e16) (fun hB => ?_)
        refine z_iload hB rfl (fun hB => ?_)
        refine z_iload hB rfl (fun hB => ?_)
        obtain ⟨q18, e19, h⟩ := z_bind h
        refine y_cv ok hB (as := [.int (x2), .int ((q1 &&& q3))]) (a := q15) (rest := []) rfl rfl rfl f17 (t_G_takeWash (I := p7.2) ok f17 e19) (fun hB => ?_)
        refine z_iinc hB rfl rfl (fun hB => ?_)
        refine z_goto hB (fun hB => ?_)
        cases h
        exact z_weak (i8 ((p7.1 + (jn 1)), q18) b8) (z_se (z_se (z_se (z_se (z_se (z_se z_s0))))))
  exact z_weak (l8 _ ((jn 0), I) e10) (z_se (z_se (z_se (z_se (z_se (z_se z_s0))))))
def d_L_bestHeatFor_9 (s : Nat) (x1 : Int32) (I : z_H) (q6 : Int32) (p8 : Int32 × Int32 × Int32) : Option ((Int32 × Int32 × Int32) ⊕ (Int32 × Int32 × Int32)) := (if q6 < p8.2.2 then some (Sum.inr (p8.1, p8.2.1, p8.2.2)) else ((d_L_runningIn s (x1) (p8.2.2) I).bind fun q13 => ((d_L_stainedBy s (x1) (q13) I).bind fun q15 => (Option.bind (α := Int32 × Int32) (if q15 < p8.2.1 then some (p8.2.2, q15) else (if q15 = p8.2.1 then ((d_L_dirtLeftIn s (x1) (p8.2.2) I).bind fun q20 => ((d_L_dirtLeftIn s (x1) (p8.1) I).bind fun q22 => (if q20 < q22 then some (p8.2.2, q15) else some (p8.1, p8.2.1)))) else some (p8.1, p8.2.1))) fun q17 => some (Sum.inl (q17.1, q17.2, (p8.2.2 + (jn 1))))))))
def d_L_bestHeatFor (s : Nat) (x1 : Int32) (I : z_H) : Option (Int32) := (if z_in (x1) 3 then (if (I ((s + 7) + 14) (z_n (x1))) = jn 0 then some ((jg 1)) else ((d_L_runningIn s (x1) ((jn 0)) I).bind fun q2 => ((d_L_stainedBy s (x1) (q2) I).bind fun q4 => ((d_L_greatestHeat s (x1) I).bind fun q6 => ((z_it (d_L_bestHeatFor_9 s x1 I q6) z_F ((jn 0), q4, (jn 1))).bind fun q10 => some (q10.1)))))) else none)
/-- Laundry.bestHeatFor(I)I -/
theorem t_L_bestHeatFor {G : z_G} {w : ev_W} (ok : z_Ok G w) {s : Nat} {x1 : Int32} (hs : zt 2 s = true) {I : z_H} {r : Int32} (h : d_L_bestHeatFor s x1 I = some r) : z_K G 40 [.ref (s), .int (x1)] (z_w w I) (.inl (some (.int r))) (z_w w I) := by
  refine z_con ok.1 (ml := 7) (by decide +kernel) rfl rfl ?_
  show z_R G 40 0 [some (.ref (s)), some (.int (x1)), none, none, none, none, none] [] (z_w w I) (.inl (some (.int r))) (z_w w I)
  unfold d_L_bestHeatFor at h
  have hB : z_all [z_is 40 0 (zf_aload 0 0 1), z_is 40 1 (zf_getr 1 2 1 4), z_is 40 4 (zf_getr 4 5 8 7), z_is 40 7 (zf_iload 7 1 8), z_is 40 8 (zf_iald 8 9), z_is 40 9 (zf_if1 .ne 9 14 12)] = true := by decide +kernel
  refine z_aload hB rfl (fun hB => ?_)
  refine y_getr (b := (s + 7)) ok hB hs (zla_r1 hs) (fun hB => ?_)
  refine y_getr (b := ((s + 7) + 14)) ok hB (zla_k1 hs) (zst_r8 (zla_k1 hs)) (fun hB => ?_)
  refine z_iload hB rfl (fun hB => ?_)
  obtain ⟨g1, h⟩ := z_gd h
  refine y_iald ok hB (zst_k14 (zla_k1 hs)) (zst_l14 (zla_k1 hs)) g1 (fun hB => ?_)
  refine z_if_ne hB (fun hc _ => ?_) (fun hc _ => ?_)
  · have h := z_neg hc h
    have hB : z_all [z_is 40 14 (zf_cst 14 (jn 0) 15), z_is 40 15 (zf_istore 15 2 16), z_is 40 16 (zf_aload 16 0 17), z_is 40 17 (zf_iload 17 1 18), z_is 40 18 (zf_aload 18 0 19), z_is 40 19 (zf_iload 19 1 20), z_is 40 20 (zf_cst 20 (jn 0) 21), z_is 40 21 (zf_cv 21 34 2 2 24), z_is 40 24 (zf_cv 24 35 2 2 27), z_is 40 27 (zf_istore 27 3 28), z_is 40 28 (zf_aload 28 0 29), z_is 40 29 (zf_iload 29 1 30), z_is 40 30 (zf_cv 30 30 1 2 33), z_is 40 33 (zf_istore 33 4 35), z_is 40 35 (zf_cst 35 (jn 1) 36), z_is 40 36 (zf_istore 36 5 38)] = true := by decide +kernel
    refine z_cst hB (fun hB => ?_)
    refine z_istore hB rfl rfl (fun hB => ?_)
    refine z_aload hB rfl (fun hB => ?_)
    refine z_iload hB rfl (fun hB => ?_)
    refine z_aload hB rfl (fun hB => ?_)
    refine z_iload hB rfl (fun hB => ?_)
    refine z_cst hB (fun hB => ?_)
    obtain ⟨q2, e3, h⟩ := z_bind h
    refine y_cv ok hB (as := [.int (x1), .int ((jn 0))]) (a := s) (rest := [.int (x1), .ref (s)]) rfl rfl rfl hs (t_L_runningIn (I := I) ok hs e3) (fun hB => ?_)
    obtain ⟨q4, e5, h⟩ := z_bind h
    refine y_cv ok hB (as := [.int (x1), .int (q2)]) (a := s) (rest := []) rfl rfl rfl hs (t_L_stainedBy (I := I) ok hs e5) (fun hB => ?_)
    refine z_istore hB rfl rfl (fun hB => ?_)
    refine z_aload hB rfl (fun hB => ?_)
    refine z_iload hB rfl (fun hB => ?_)
    obtain ⟨q6, e7, h⟩ := z_bind h
    refine y_cv ok hB (as := [.int (x1)]) (a := s) (rest := []) rfl rfl rfl hs (t_L_greatestHeat (I := I) ok hs e7) (fun hB => ?_)
    refine z_istore hB rfl rfl (fun hB => ?_)
    refine z_cst hB (fun hB => ?_)
    refine z_istore hB rfl rfl (fun hB => ?_)
    obtain ⟨q10, e11, h⟩ := z_bind h
    have k12 : z_R G 40 99 [none, none, some (.int (q10.1)), none, none, none, none] [] (z_w w I) (.inl (some (.int r))) (z_w w I) := by
      have hB : z_all [z_is 40 99 (zf_iload 99 2 100), z_is 40 100 (zf_ret 0)] = true := by decide +kernel
      refine z_iload hB rfl (fun hB => ?_)
      cases h
      exact z_reti hB
    have l9 : ∀ (m9 : Nat) (p8 : Int32 × Int32 × Int32), z_it (d_L_bestHeatFor_9 s x1 I q6) m9 p8 = some q10 → z_R G 40 38 [some (.ref (s)), some (.int (x1)), some (.int (p8.1)), some (.int (p8.2.1)), some (.int (q6)), some (.int (p8.2.2)), none] [] (z_w w I) (.inl (some (.int r))) (z_w w I) := by
      intro m9
      induction m9 with
      | zero => intro p8 h; cases h
      | succ m9 i9 =>
        intro p8 h
        obtain ⟨u9, h, b9⟩ := z_it_o h
        unfold d_L_bestHeatFor_9 at h
        have hB : z_all [z_is 40 38 (zf_iload 38 5 40), z_is 40 40 (zf_iload 40 4 42), z_is 40 42 (zf_if2 .gt 42 99 45)] = true := by decide +kernel
        refine z_iload hB rfl (fun hB => ?_)
        refine z_iload hB rfl (fun hB => ?_)
        refine z_ic_gt hB (fun hc _ => ?_) (fun hc _ => ?_)
        · have h := z_pos hc h
          cases h
          cases b9
          exact z_weak k12 (z_sn (z_sn (z_se (z_sn (z_sn (z_sn (z_sn z_s0)))))))
        · have h := z_neg hc h
          have hB : z_all [z_is 40 45 (zf_aload 45 0 46), z_is 40 46 (zf_iload 46 1 47), z_is 40 47 (zf_aload 47 0 48), z_is 40 48 (zf_iload 48 1 49), z_is 40 49 (zf_iload 49 5 51), z_is 40 51 (zf_cv 51 34 2 2 54), z_is 40 54 (zf_cv 54 35 2 2 57), z_is 40 57 (zf_istore 57 6 59), z_is 40 59 (zf_iload 59 6 61), z_is 40 61 (zf_iload 61 3 62), z_is 40 62 (zf_if2 .lt 62 87 65)] = true := by decide +kernel
          refine z_aload hB rfl (fun hB => ?_)
          refine z_iload hB rfl (fun hB => ?_)
          refine z_aload hB rfl (fun hB => ?_)
          refine z_iload hB rfl (fun hB => ?_)
          refine z_iload hB rfl (fun hB => ?_)
          obtain ⟨q13, e14, h⟩ := z_bind h
          refine y_cv ok hB (as := [.int (x1), .int (p8.2.2)]) (a := s) (rest := [.int (x1), .ref (s)]) rfl rfl rfl hs (t_L_runningIn (I := I) ok hs e14) (fun hB => ?_)
          obtain ⟨q15, e16, h⟩ := z_bind h
          refine y_cv ok hB (as := [.int (x1), .int (q13)]) (a := s) (rest := []) rfl rfl rfl hs (t_L_stainedBy (I := I) ok hs e16) (fun hB => ?_)
          refine z_istore hB rfl rfl (fun hB => ?_)
          refine z_iload hB rfl (fun hB => ?_)
          refine z_iload hB rfl (fun hB => ?_)
          obtain ⟨q17, e18, h⟩ := z_bind h
          have k19 : z_R G 40 93 [some (.ref (s)), some (.int (x1)), some (.int (q17.1)), some (.int (q17.2)), some (.int (q6)), some (.int (p8.2.2)), none] [] (z_w w I) (.inl (some (.int r))) (z_w w I) := by
            have hB : z_all [z_is 40 93 (zf_iinc 93 5 (jn 1) 96), z_is 40 96 (zf_goto 96 38)] = true := by decide +kernel
            refine z_iinc hB rfl rfl (fun hB => ?_)
            refine z_goto hB (fun hB => ?_)
            cases h
            exact z_weak (i9 (q17.1, q17.2, (p8.2.2 + (jn 1))) b9) (z_se (z_se (z_se (z_se (z_se (z_se (z_sn z_s0)))))))
          have h := e18
          refine z_ic_lt hB (fun hc _ => ?_) (fun hc _ => ?_)
          · have h := z_pos hc h
            have hB : z_all [z_is 40 87 (zf_iload 87 5 89), z_is 40 89 (zf_istore 89 2 90), z_is 40 90 (zf_iload 90 6 92), z_is 40 92 (zf_istore 92 3 93)] = true := by decide +kernel
            refine z_iload hB rfl (fun hB => ?_)
            refine z_istore hB rfl rfl (fun hB => ?_)
            refine z_iload hB rfl (fun hB => ?_)
            refine z_istore hB rfl rfl (fun hB => ?_)
            cases h
            exact z_weak k19 (z_se (z_se (z_se (z_se (z_se (z_se (z_sn z_s0)))))))
          · have h := z_neg hc h
            have hB : z_all [z_is 40 65 (zf_iload 65 6 67), z_is 40 67 (zf_iload 67 3 68), z_is 40 68 (zf_if2 .ne 68 93 71)] = true := by decide +kernel
            refine z_iload hB rfl (fun hB => ?_)
            refine z_iload hB rfl (fun hB => ?_)
            refine z_ic_ne hB (fun hc _ => ?_) (fun hc _ => ?_)
            · have h := z_neg hc h
              cases h
              exact z_weak k19 (z_se (z_se (z_se (z_se (z_se (z_se (z_sn z_s0)))))))
            · have h := z_pos hc h
              have hB : z_all [z_is 40 71 (zf_aload 71 0 72), z_is 40 72 (zf_iload 72 1 73), z_is 40 73 (zf_iload 73 5 75), z_is 40 75 (zf_cv 75 36 2 2 78), z_is 40 78 (zf_aload 78 0 79), z_is 40 79 (zf_iload 79 1 80), z_is 40 80 (zf_iload 80 2 81), z_is 40 81 (zf_cv 81 36 2 2 84), z_is 40 84 (zf_if2 .ge 84 93 87)] = true := by decide +kernel
              refine z_aload hB rfl (fun hB => ?_)
              refine z_iload hB rfl (fun hB => ?_)
              refine z_iload hB rfl (fun hB => ?_)
              obtain ⟨q20, e21, h⟩ := z_bind h
              refine y_cv ok hB (as := [.int (x1), .int (p8.2.2)]) (a := s) (rest := []) rfl rfl rfl hs (t_L_dirtLeftIn (I := I) ok hs e21) (fun hB => ?_)
              refine z_aload hB rfl (fun hB => ?_)
              refine z_iload hB rfl (fun hB => ?_)
              refine z_iload hB rfl (fun hB => ?_)
              obtain ⟨q22, e23, h⟩ := z_bind h
              refine y_cv ok hB (as := [.int (x1), .int (p8.1)]) (a := s) (rest := [.int (q20)]) rfl rfl rfl hs (t_L_dirtLeftIn (I := I) ok hs e23) (fun hB => ?_)
              refine z_ic_ge hB (fun hc _ => ?_) (fun hc _ => ?_)
              · have h := z_neg hc h
                cases h
                exact z_weak k19 (z_se (z_se (z_se (z_se (z_se (z_se (z_sn z_s0)))))))
              · have h := z_pos hc h
                have hB : z_all [z_is 40 87 (zf_iload 87 5 89), z_is 40 89 (zf_istore 89 2 90), z_is 40 90 (zf_iload 90 6 92), z_is 40 92 (zf_istore 92 3 93)] = true := by decide +kernel
                refine z_iload hB rfl (fun hB => ?_)
                refine z_istore hB rfl rfl (fun hB => ?_)
                refine z_iload hB rfl (fun hB => ?_)
                refine z_istore hB rfl rfl (fun hB => ?_)
                cases h
                exact z_weak k19 (z_se (z_se (z_se (z_se (z_se (z_se (z_sn z_s0)))))))
    exact z_weak (l9 _ ((jn 0), q4, (jn 1)) e11) (z_se (z_se (z_se (z_se (z_se (z_se (z_sn z_s0)))))))
  · have h := z_pos hc h
    have hB : z_all [z_is 40 12 (zf_cst 12 (jg 1) 13), z_is 40 13 (zf_ret 0)] = true := by decide +kernel
    refine z_cst hB (fun hB => ?_)
    cases h
    exact z_reti hB
def d_L_isSafeWith (s : Nat) (r1 : Nat) (x2 : Int32) (x3 : Int32) (I : z_H) : Option (Int32) := ((d_L_carriedIn s (x2) I).bind fun q1 => ((d_G_carried r1 I).bind fun q3 => ((d_U_runningWith (s + 1) (x3) I).bind fun q5 => ((d_G_bears r1 (x3) I).bind fun q7 => (Option.bind (α := Int32) (if q7 = jn 0 then some ((jn 0)) else ((d_G_newStains r1 (((q1 ||| q3) &&& q5)) I).bind fun q13 => (if q13 = jn 0 then ((d_L_stainedBy s (x2) (((q1 ||| q3) &&& q5)) I).bind fun q15 => (if q15 = jn 0 then some ((jn 1)) else some ((jn 0)))) else some ((jn 0))))) fun q9 => (if (q9) = jn 0 ∨ (q9) = jn 1 then some (q9) else none))))))
/-- Laundry.isSafeWith(LFlagLaundry$Flag;II)Z -/
theorem t_L_isSafeWith {G : z_G} {w : ev_W} (ok : z_Ok G w) {s : Nat} {r1 : Nat} {x2 : Int32} {x3 : Int32} (hs : zt 2 s = true) (hr1 : zt 0 r1 = true) {I : z_H} {r : Int32} (h : d_L_isSafeWith s r1 x2 x3 I = some r) : z_K G 42 [.ref (s), .ref (r1), .int (x2), .int (x3)] (z_w w I) (.inl (some (.int r))) (z_w w I) := by
  refine z_con ok.1 (ml := 5) (by decide +kernel) rfl rfl ?_
  show z_R G 42 0 [some (.ref (s)), some (.ref (r1)), some (.int (x2)), some (.int (x3)), none] [] (z_w w I) (.inl (some (.int r))) (z_w w I)
  unfold d_L_isSafeWith at h
  have hB : z_all [z_is 42 0 (zf_aload 0 0 1), z_is 42 1 (zf_iload 1 2 2), z_is 42 2 (zf_cv 2 33 1 2 5), z_is 42 5 (zf_aload 5 1 6), z_is 42 6 (zf_cv 6 10 0 0 9), z_is 42 9 (zf_ior 9 10), z_is 42 10 (zf_aload 10 0 11), z_is 42 11 (zf_getr 11 2 0 14), z_is 42 14 (zf_iload 14 3 15), z_is 42 15 (zf_cv 15 92 1 4 18), z_is 42 18 (zf_iand 18 19), z_is 42 19 (zf_istore 19 4 21), z_is 42 21 (zf_aload 21 1 22), z_is 42 22 (zf_iload 22 3 23), z_is 42 23 (zf_cv 23 7 1 0 26), z_is 42 26 (zf_if1 .eq 26 52 29)] = true := by decide +kernel
  refine z_aload hB rfl (fun hB => ?_)
  refine z_iload hB rfl (fun hB => ?_)
  obtain ⟨q1, e2, h⟩ := z_bind h
  refine y_cv ok hB (as := [.int (x2)]) (a := s) (rest := []) rfl rfl rfl hs (t_L_carriedIn (I := I) ok hs e2) (fun hB => ?_)
  refine z_aload hB rfl (fun hB => ?_)
  obtain ⟨q3, e4, h⟩ := z_bind h
  refine y_cv ok hB (as := []) (a := r1) (rest := [.int (q1)]) rfl rfl rfl hr1 (t_G_carried (I := I) ok hr1 e4) (fun hB => ?_)
  refine z_ior hB (fun hB => ?_)
  refine z_aload hB rfl (fun hB => ?_)
  refine y_getr (b := (s + 1)) ok hB hs (zla_r0 hs) (fun hB => ?_)
  refine z_iload hB rfl (fun hB => ?_)
  obtain ⟨q5, e6, h⟩ := z_bind h
  refine y_cv ok hB (as := [.int (x3)]) (a := (s + 1)) (rest := [.int ((q1 ||| q3))]) rfl rfl rfl (zla_k0 hs) (t_U_runningWith (I := I) ok (zla_k0 hs) e6) (fun hB => ?_)
  refine z_iand hB (fun hB => ?_)
  refine z_istore hB rfl rfl (fun hB => ?_)
  refine z_aload hB rfl (fun hB => ?_)
  refine z_iload hB rfl (fun hB => ?_)
  obtain ⟨q7, e8, h⟩ := z_bind h
  refine y_cv ok hB (as := [.int (x3)]) (a := r1) (rest := []) rfl rfl rfl hr1 (t_G_bears (I := I) ok hr1 e8) (fun hB => ?_)
  obtain ⟨q9, e10, h⟩ := z_bind h
  have k11 : z_R G 42 53 [none, none, none, none, none] [.int (q9)] (z_w w I) (.inl (some (.int r))) (z_w w I) := by
    have hB : z_all [z_is 42 53 (zf_ret 1)] = true := by decide +kernel
    obtain ⟨g12, h⟩ := z_gd h
    cases h
    exact z_retz hB g12
  have h := e10
  refine z_if_eq hB (fun hc _ => ?_) (fun hc _ => ?_)
  · have h := z_pos hc h
    have hB : z_all [z_is 42 52 (zf_cst 52 (jn 0) 53)] = true := by decide +kernel
    refine z_cst hB (fun hB => ?_)
    cases h
    exact z_weak k11 (z_sn (z_sn (z_sn (z_sn (z_sn z_s0)))))
  · have h := z_neg hc h
    have hB : z_all [z_is 42 29 (zf_aload 29 1 30), z_is 42 30 (zf_iload 30 4 32), z_is 42 32 (zf_cv 32 11 1 0 35), z_is 42 35 (zf_if1 .ne 35 52 38)] = true := by decide +kernel
    refine z_aload hB rfl (fun hB => ?_)
    refine z_iload hB rfl (fun hB => ?_)
    obtain ⟨q13, e14, h⟩ := z_bind h
    refine y_cv ok hB (as := [.int (((q1 ||| q3) &&& q5))]) (a := r1) (rest := []) rfl rfl rfl hr1 (t_G_newStains (I := I) ok hr1 e14) (fun hB => ?_)
    refine z_if_ne hB (fun hc _ => ?_) (fun hc _ => ?_)
    · have h := z_neg hc h
      have hB : z_all [z_is 42 52 (zf_cst 52 (jn 0) 53)] = true := by decide +kernel
      refine z_cst hB (fun hB => ?_)
      cases h
      exact z_weak k11 (z_sn (z_sn (z_sn (z_sn (z_sn z_s0)))))
    · have h := z_pos hc h
      have hB : z_all [z_is 42 38 (zf_aload 38 0 39), z_is 42 39 (zf_iload 39 2 40), z_is 42 40 (zf_iload 40 4 42), z_is 42 42 (zf_cv 42 35 2 2 45), z_is 42 45 (zf_if1 .ne 45 52 48)] = true := by decide +kernel
      refine z_aload hB rfl (fun hB => ?_)
      refine z_iload hB rfl (fun hB => ?_)
      refine z_iload hB rfl (fun hB => ?_)
      obtain ⟨q15, e16, h⟩ := z_bind h
      refine y_cv ok hB (as := [.int (x2), .int (((q1 ||| q3) &&& q5))]) (a := s) (rest := []) rfl rfl rfl hs (t_L_stainedBy (I := I) ok hs e16) (fun hB => ?_)
      refine z_if_ne hB (fun hc _ => ?_) (fun hc _ => ?_)
      · have h := z_neg hc h
        have hB : z_all [z_is 42 52 (zf_cst 52 (jn 0) 53)] = true := by decide +kernel
        refine z_cst hB (fun hB => ?_)
        cases h
        exact z_weak k11 (z_sn (z_sn (z_sn (z_sn (z_sn z_s0)))))
      · have h := z_pos hc h
        have hB : z_all [z_is 42 48 (zf_cst 48 (jn 1) 49), z_is 42 49 (zf_goto 49 53)] = true := by decide +kernel
        refine z_cst hB (fun hB => ?_)
        refine z_goto hB (fun hB => ?_)
        cases h
        exact z_weak k11 (z_sn (z_sn (z_sn (z_sn (z_sn z_s0)))))
def d_L_firstSafeFor_4 (s : Nat) (x1 : Int32) (x2 : Int32) (I : z_H) (p3 : Int32) : Option ((Int32) ⊕ (Int32)) := (if p3 < (I (s + 7) 6) then ((d_L_reasonAgainstPut s (p3) (x1) I).bind fun q5 => (if q5 = jn 0 then (if z_in (p3) 12 then ((d_L_isSafeWith s (((s + 7) + 2 + z_n (p3))) (x1) (x2) I).bind fun q8 => (if q8 = jn 0 then some (Sum.inl ((p3 + (jn 1)))) else some (Sum.inr (p3)))) else none) else some (Sum.inl ((p3 + (jn 1)))))) else some (Sum.inr ((jg 1))))
def d_L_firstSafeFor (s : Nat) (x1 : Int32) (x2 : Int32) (I : z_H) : Option (Int32) := ((d_L_greatestHeat s (x1) I).bind fun q1 => (if q1 < x2 then some ((jg 1)) else (z_it (d_L_firstSafeFor_4 s x1 x2 I) z_F ((jn 0)))))
/-- Laundry.firstSafeFor(II)I -/
theorem t_L_firstSafeFor {G : z_G} {w : ev_W} (ok : z_Ok G w) {s : Nat} {x1 : Int32} {x2 : Int32} (hs : zt 2 s = true) {I : z_H} {r : Int32} (h : d_L_firstSafeFor s x1 x2 I = some r) : z_K G 41 [.ref (s), .int (x1), .int (x2)] (z_w w I) (.inl (some (.int r))) (z_w w I) := by
  refine z_con ok.1 (ml := 4) (by decide +kernel) rfl rfl ?_
  show z_R G 41 0 [some (.ref (s)), some (.int (x1)), some (.int (x2)), none] [] (z_w w I) (.inl (some (.int r))) (z_w w I)
  unfold d_L_firstSafeFor at h
  have hB : z_all [z_is 41 0 (zf_iload 0 2 1), z_is 41 1 (zf_aload 1 0 2), z_is 41 2 (zf_iload 2 1 3), z_is 41 3 (zf_cv 3 30 1 2 6), z_is 41 6 (zf_if2 .le 6 11 9)] = true := by decide +kernel
  refine z_iload hB rfl (fun hB => ?_)
  refine z_aload hB rfl (fun hB => ?_)
  refine z_iload hB rfl (fun hB => ?_)
  obtain ⟨q1, e2, h⟩ := z_bind h
  refine y_cv ok hB (as := [.int (x1)]) (a := s) (rest := [.int (x2)]) rfl rfl rfl hs (t_L_greatestHeat (I := I) ok hs e2) (fun hB => ?_)
  refine z_ic_le hB (fun hc _ => ?_) (fun hc _ => ?_)
  · have h := z_neg hc h
    have hB : z_all [z_is 41 11 (zf_cst 11 (jn 0) 12), z_is 41 12 (zf_istore 12 3 13)] = true := by decide +kernel
    refine z_cst hB (fun hB => ?_)
    refine z_istore hB rfl rfl (fun hB => ?_)
    have l4 : ∀ (m4 : Nat) (p3 : Int32), z_it (d_L_firstSafeFor_4 s x1 x2 I) m4 p3 = some r → z_R G 41 13 [some (.ref (s)), some (.int (x1)), some (.int (x2)), some (.int (p3))] [] (z_w w I) (.inl (some (.int r))) (z_w w I) := by
      intro m4
      induction m4 with
      | zero => intro p3 h; cases h
      | succ m4 i4 =>
        intro p3 h
        obtain ⟨u4, h, b4⟩ := z_it_o h
        unfold d_L_firstSafeFor_4 at h
        have hB : z_all [z_is 41 13 (zf_iload 13 3 14), z_is 41 14 (zf_aload 14 0 15), z_is 41 15 (zf_getr 15 2 1 18), z_is 41 18 (zf_geti 18 5 6 21), z_is 41 21 (zf_if2 .ge 21 59 24)] = true := by decide +kernel
        refine z_iload hB rfl (fun hB => ?_)
        refine z_aload hB rfl (fun hB => ?_)
        refine y_getr (b := (s + 7)) ok hB hs (zla_r1 hs) (fun hB => ?_)
        refine y_geti ok hB (zla_k1 hs) (fun hB => ?_)
        refine z_ic_ge hB (fun hc _ => ?_) (fun hc _ => ?_)
        · have h := z_neg hc h
          have hB : z_all [z_is 41 59 (zf_cst 59 (jg 1) 60), z_is 41 60 (zf_ret 0)] = true := by decide +kernel
          refine z_cst hB (fun hB => ?_)
          cases h
          cases b4
          exact z_reti hB
        · have h := z_pos hc h
          have hB : z_all [z_is 41 24 (zf_aload 24 0 25), z_is 41 25 (zf_iload 25 3 26), z_is 41 26 (zf_iload 26 1 27), z_is 41 27 (zf_cv 27 37 2 2 30), z_is 41 30 (zf_if1 .ne 30 53 33)] = true := by decide +kernel
          refine z_aload hB rfl (fun hB => ?_)
          refine z_iload hB rfl (fun hB => ?_)
          refine z_iload hB rfl (fun hB => ?_)
          obtain ⟨q5, e6, h⟩ := z_bind h
          refine y_cv ok hB (as := [.int (p3), .int (x1)]) (a := s) (rest := []) rfl rfl rfl hs (t_L_reasonAgainstPut (I := I) ok hs e6) (fun hB => ?_)
          refine z_if_ne hB (fun hc _ => ?_) (fun hc _ => ?_)
          · have h := z_neg hc h
            have hB : z_all [z_is 41 53 (zf_iinc 53 3 (jn 1) 56), z_is 41 56 (zf_goto 56 13)] = true := by decide +kernel
            refine z_iinc hB rfl rfl (fun hB => ?_)
            refine z_goto hB (fun hB => ?_)
            cases h
            exact z_weak (i4 ((p3 + (jn 1))) b4) (z_se (z_se (z_se (z_se z_s0))))
          · have h := z_pos hc h
            have hB : z_all [z_is 41 33 (zf_aload 33 0 34), z_is 41 34 (zf_aload 34 0 35), z_is 41 35 (zf_getr 35 2 1 38), z_is 41 38 (zf_getr 38 5 7 41), z_is 41 41 (zf_iload 41 3 42), z_is 41 42 (zf_aald 42 43), z_is 41 43 (zf_iload 43 1 44), z_is 41 44 (zf_iload 44 2 45), z_is 41 45 (zf_cv 45 42 3 2 48), z_is 41 48 (zf_if1 .eq 48 53 51)] = true := by decide +kernel
            refine z_aload hB rfl (fun hB => ?_)
            refine z_aload hB rfl (fun hB => ?_)
            refine y_getr (b := (s + 7)) ok hB hs (zla_r1 hs) (fun hB => ?_)
            refine y_getr (b := ((s + 7) + 1)) ok hB (zla_k1 hs) (zst_r7 (zla_k1 hs)) (fun hB => ?_)
            refine z_iload hB rfl (fun hB => ?_)
            obtain ⟨g7, h⟩ := z_gd h
            refine y_fald ok hB (zst_k1 (zla_k1 hs)) (zst_l1 (zla_k1 hs)) g7 (zst_fR (zla_k1 hs) g7) (fun hB => ?_)
            refine z_iload hB rfl (fun hB => ?_)
            refine z_iload hB rfl (fun hB => ?_)
            obtain ⟨q8, e9, h⟩ := z_bind h
            refine y_cv ok hB (as := [.ref (((s + 7) + 2 + z_n (p3))), .int (x1), .int (x2)]) (a := s) (rest := []) rfl rfl rfl hs (t_L_isSafeWith (I := I) ok hs (zst_fK (zla_k1 hs) g7) e9) (fun hB => ?_)
            refine z_if_eq hB (fun hc _ => ?_) (fun hc _ => ?_)
            · have h := z_pos hc h
              have hB : z_all [z_is 41 53 (zf_iinc 53 3 (jn 1) 56), z_is 41 56 (zf_goto 56 13)] = true := by decide +kernel
              refine z_iinc hB rfl rfl (fun hB => ?_)
              refine z_goto hB (fun hB => ?_)
              cases h
              exact z_weak (i4 ((p3 + (jn 1))) b4) (z_se (z_se (z_se (z_se z_s0))))
            · have h := z_neg hc h
              have hB : z_all [z_is 41 51 (zf_iload 51 3 52), z_is 41 52 (zf_ret 0)] = true := by decide +kernel
              refine z_iload hB rfl (fun hB => ?_)
              cases h
              cases b4
              exact z_reti hB
    exact z_weak (l4 _ ((jn 0)) h) (z_se (z_se (z_se (z_se z_s0))))
  · have h := z_pos hc h
    have hB : z_all [z_is 41 9 (zf_cst 9 (jg 1) 10), z_is 41 10 (zf_ret 0)] = true := by decide +kernel
    refine z_cst hB (fun hB => ?_)
    cases h
    exact z_reti hB
def d_L_mixing (s : Nat) (x1 : Int32) (x2 : Int32) (x3 : Int32) (I : z_H) : Option (Int32) := (if z_in (x1) 12 then (if z_in (x2) 12 then ((d_U_runningWith (s + 1) (x3) I).bind fun q3 => ((d_G_carried ((s + 7) + 2 + z_n (x1)) I).bind fun q5 => ((d_G_newStains ((s + 7) + 2 + z_n (x2)) ((q5 &&& q3)) I).bind fun q7 => (Option.bind (α := Int32) (if q7 = jn 0 then some ((jn 0)) else some ((jn 1))) fun q9 => ((d_G_carried ((s + 7) + 2 + z_n (x2)) I).bind fun q12 => ((d_G_newStains ((s + 7) + 2 + z_n (x1)) ((q12 &&& q3)) I).bind fun q14 => (Option.bind (α := Int32) (if q14 = jn 0 then some ((jn 0)) else some ((jn 2))) fun q16 => some ((q9 + q16))))))))) else none) else none)
/-- Laundry.mixing(III)I -/
theorem t_L_mixing {G : z_G} {w : ev_W} (ok : z_Ok G w) {s : Nat} {x1 : Int32} {x2 : Int32} {x3 : Int32} (hs : zt 2 s = true) {I : z_H} {r : Int32} (h : d_L_mixing s x1 x2 x3 I = some r) : z_K G 43 [.ref (s), .int (x1), .int (x2), .int (x3)] (z_w w I) (.inl (some (.int r))) (z_w w I) := by
  refine z_con ok.1 (ml := 7) (by decide +kernel) rfl rfl ?_
  show z_R G 43 0 [some (.ref (s)), some (.int (x1)), some (.int (x2)), some (.int (x3)), none, none, none] [] (z_w w I) (.inl (some (.int r))) (z_w w I)
  unfold d_L_mixing at h
  have hB : z_all [z_is 43 0 (zf_aload 0 0 1), z_is 43 1 (zf_getr 1 2 1 4), z_is 43 4 (zf_getr 4 5 7 7), z_is 43 7 (zf_iload 7 1 8), z_is 43 8 (zf_aald 8 9), z_is 43 9 (zf_astore 9 4 11), z_is 43 11 (zf_aload 11 0 12), z_is 43 12 (zf_getr 12 2 1 15), z_is 43 15 (zf_getr 15 5 7 18), z_is 43 18 (zf_iload 18 2 19), z_is 43 19 (zf_aald 19 20), z_is 43 20 (zf_astore 20 5 22), z_is 43 22 (zf_aload 22 0 23), z_is 43 23 (zf_getr 23 2 0 26), z_is 43 26 (zf_iload 26 3 27), z_is 43 27 (zf_cv 27 92 1 4 30), z_is 43 30 (zf_istore 30 6 32), z_is 43 32 (zf_aload 32 5 34), z_is 43 34 (zf_aload 34 4 36), z_is 43 36 (zf_cv 36 10 0 0 39), z_is 43 39 (zf_iload 39 6 41), z_is 43 41 (zf_iand 41 42), z_is 43 42 (zf_cv 42 11 1 0 45), z_is 43 45 (zf_if1 .eq 45 52 48)] = true := by decide +kernel
  refine z_aload hB rfl (fun hB => ?_)
  refine y_getr (b := (s + 7)) ok hB hs (zla_r1 hs) (fun hB => ?_)
  refine y_getr (b := ((s + 7) + 1)) ok hB (zla_k1 hs) (zst_r7 (zla_k1 hs)) (fun hB => ?_)
  refine z_iload hB rfl (fun hB => ?_)
  obtain ⟨g1, h⟩ := z_gd h
  refine y_fald ok hB (zst_k1 (zla_k1 hs)) (zst_l1 (zla_k1 hs)) g1 (zst_fR (zla_k1 hs) g1) (fun hB => ?_)
  refine z_astore hB rfl rfl (fun hB => ?_)
  refine z_aload hB rfl (fun hB => ?_)
  refine y_getr (b := (s + 7)) ok hB hs (zla_r1 hs) (fun hB => ?_)
  refine y_getr (b := ((s + 7) + 1)) ok hB (zla_k1 hs) (zst_r7 (zla_k1 hs)) (fun hB => ?_)
  refine z_iload hB rfl (fun hB => ?_)
  obtain ⟨g2, h⟩ := z_gd h
  refine y_fald ok hB (zst_k1 (zla_k1 hs)) (zst_l1 (zla_k1 hs)) g2 (zst_fR (zla_k1 hs) g2) (fun hB => ?_)
  refine z_astore hB rfl rfl (fun hB => ?_)
  refine z_aload hB rfl (fun hB => ?_)
  refine y_getr (b := (s + 1)) ok hB hs (zla_r0 hs) (fun hB => ?_)
  refine z_iload hB rfl (fun hB => ?_)
  obtain ⟨q3, e4, h⟩ := z_bind h
  refine y_cv ok hB (as := [.int (x3)]) (a := (s + 1)) (rest := []) rfl rfl rfl (zla_k0 hs) (t_U_runningWith (I := I) ok (zla_k0 hs) e4) (fun hB => ?_)
  refine z_istore hB rfl rfl (fun hB => ?_)
  refine z_aload hB rfl (fun hB => ?_)
  refine z_aload hB rfl (fun hB => ?_)
  obtain ⟨q5, e6, h⟩ := z_bind h
  refine y_cv ok hB (as := []) (a := ((s + 7) + 2 + z_n (x1))) (rest := [.ref (((s + 7) + 2 + z_n (x2)))]) rfl rfl rfl (zst_fK (zla_k1 hs) g1) (t_G_carried (I := I) ok (zst_fK (zla_k1 hs) g1) e6) (fun hB => ?_)
  refine z_iload hB rfl (fun hB => ?_)
  refine z_iand hB (fun hB => ?_)
  obtain ⟨q7, e8, h⟩ := z_bind h
  refine y_cv ok hB (as := [.int ((q5 &&& q3))]) (a := ((s + 7) + 2 + z_n (x2))) (rest := []) rfl rfl rfl (zst_fK (zla_k1 hs) g2) (t_G_newStains (I := I) ok (zst_fK (zla_k1 hs) g2) e8) (fun hB => ?_)
  obtain ⟨q9, e10, h⟩ := z_bind h
  have k11 : z_R G 43 53 [none, none, none, none, some (.ref (((s + 7) + 2 + z_n (x1)))), some (.ref (((s + 7) + 2 + z_n (x2)))), some (.int (q3))] [.int (q9)] (z_w w I) (.inl (some (.int r))) (z_w w I) := by
    have hB : z_all [z_is 43 53 (zf_aload 53 4 55), z_is 43 55 (zf_aload 55 5 57), z_is 43 57 (zf_cv 57 10 0 0 60), z_is 43 60 (zf_iload 60 6 62), z_is 43 62 (zf_iand 62 63), z_is 43 63 (zf_cv 63 11 1 0 66), z_is 43 66 (zf_if1 .eq 66 73 69)] = true := by decide +kernel
    refine z_aload hB rfl (fun hB => ?_)
    refine z_aload hB rfl (fun hB => ?_)
    obtain ⟨q12, e13, h⟩ := z_bind h
    refine y_cv ok hB (as := []) (a := ((s + 7) + 2 + z_n (x2))) (rest := [.ref (((s + 7) + 2 + z_n (x1))), .int (q9)]) rfl rfl rfl (zst_fK (zla_k1 hs) g2) (t_G_carried (I := I) ok (zst_fK (zla_k1 hs) g2) e13) (fun hB => ?_)
    refine z_iload hB rfl (fun hB => ?_)
    refine z_iand hB (fun hB => ?_)
    obtain ⟨q14, e15, h⟩ := z_bind h
    refine y_cv ok hB (as := [.int ((q12 &&& q3))]) (a := ((s + 7) + 2 + z_n (x1))) (rest := [.int (q9)]) rfl rfl rfl (zst_fK (zla_k1 hs) g1) (t_G_newStains (I := I) ok (zst_fK (zla_k1 hs) g1) e15) (fun hB => ?_)
    obtain ⟨q16, e17, h⟩ := z_bind h
    have k18 : z_R G 43 74 [none, none, none, none, none, none, none] [.int (q16), .int (q9)] (z_w w I) (.inl (some (.int r))) (z_w w I) := by
      have hB : z_all [z_is 43 74 (zf_iadd 74 75), z_is 43 75 (zf_ret 0)] = true := by decide +kernel
      refine z_iadd hB (fun hB => ?_)
      cases h
      exact z_reti hB
    have h := e17
    refine z_if_eq hB (fun hc _ => ?_) (fun hc _ => ?_)
    · have h := z_pos hc h
      have hB : z_all [z_is 43 73 (zf_cst 73 (jn 0) 74)] = true := by decide +kernel
      refine z_cst hB (fun hB => ?_)
      cases h
      exact z_weak k18 (z_sn (z_sn (z_sn (z_sn (z_sn (z_sn (z_sn z_s0)))))))
    · have h := z_neg hc h
      have hB : z_all [z_is 43 69 (zf_cst 69 (jn 2) 70), z_is 43 70 (zf_goto 70 74)] = true := by decide +kernel
      refine z_cst hB (fun hB => ?_)
      refine z_goto hB (fun hB => ?_)
      cases h
      exact z_weak k18 (z_sn (z_sn (z_sn (z_sn (z_sn (z_sn (z_sn z_s0)))))))
  have h := e10
  refine z_if_eq hB (fun hc _ => ?_) (fun hc _ => ?_)
  · have h := z_pos hc h
    have hB : z_all [z_is 43 52 (zf_cst 52 (jn 0) 53)] = true := by decide +kernel
    refine z_cst hB (fun hB => ?_)
    cases h
    exact z_weak k11 (z_sn (z_sn (z_sn (z_sn (z_se (z_se (z_se z_s0)))))))
  · have h := z_neg hc h
    have hB : z_all [z_is 43 48 (zf_cst 48 (jn 1) 49), z_is 43 49 (zf_goto 49 53)] = true := by decide +kernel
    refine z_cst hB (fun hB => ?_)
    refine z_goto hB (fun hB => ?_)
    cases h
    exact z_weak k11 (z_sn (z_sn (z_sn (z_sn (z_se (z_se (z_se z_s0)))))))
def d_L_mixesInGroup_2 (s : Nat) (x1 : Int32) (x2 : Int32) (x3 : Int32) (I : z_H) (p1 : Int32) : Option ((Int32) ⊕ (Int32)) := (if p1 < x1 then (if z_in (p1) 12 then (if (I (s + 25) (z_n (p1))) = x2 then ((d_L_mixing s (x1) (p1) (x3) I).bind fun q4 => (if q4 = jn 0 then some (Sum.inl ((p1 + (jn 1)))) else some (Sum.inr ((jn 1))))) else some (Sum.inl ((p1 + (jn 1))))) else none) else some (Sum.inr ((jn 0))))
def d_L_mixesInGroup (s : Nat) (x1 : Int32) (x2 : Int32) (x3 : Int32) (I : z_H) : Option (Int32) := (z_it (d_L_mixesInGroup_2 s x1 x2 x3 I) z_F ((jn 0)))
/-- Laundry.mixesInGroup(III)Z -/
theorem t_L_mixesInGroup {G : z_G} {w : ev_W} (ok : z_Ok G w) {s : Nat} {x1 : Int32} {x2 : Int32} {x3 : Int32} (hs : zt 2 s = true) {I : z_H} {r : Int32} (h : d_L_mixesInGroup s x1 x2 x3 I = some r) : z_K G 46 [.ref (s), .int (x1), .int (x2), .int (x3)] (z_w w I) (.inl (some (.int r))) (z_w w I) := by
  refine z_con ok.1 (ml := 5) (by decide +kernel) rfl rfl ?_
  show z_R G 46 0 [some (.ref (s)), some (.int (x1)), some (.int (x2)), some (.int (x3)), none] [] (z_w w I) (.inl (some (.int r))) (z_w w I)
  unfold d_L_mixesInGroup at h
  have hB : z_all [z_is 46 0 (zf_cst 0 (jn 0) 1), z_is 46 1 (zf_istore 1 4 3)] = true := by decide +kernel
  refine z_cst hB (fun hB => ?_)
  refine z_istore hB rfl rfl (fun hB => ?_)
  have l2 : ∀ (m2 : Nat) (p1 : Int32), z_it (d_L_mixesInGroup_2 s x1 x2 x3 I) m2 p1 = some r → z_R G 46 3 [some (.ref (s)), some (.int (x1)), some (.int (x2)), some (.int (x3)), some (.int (p1))] [] (z_w w I) (.inl (some (.int r))) (z_w w I) := by
    intro m2
    induction m2 with
    | zero => intro p1 h; cases h
    | succ m2 i2 =>
      intro p1 h
      obtain ⟨u2, h, b2⟩ := z_it_o h
      unfold d_L_mixesInGroup_2 at h
      have hB : z_all [z_is 46 3 (zf_iload 3 4 5), z_is 46 5 (zf_iload 5 1 6), z_is 46 6 (zf_if2 .ge 6 39 9)] = true := by decide +kernel
      refine z_iload hB rfl (fun hB => ?_)
      refine z_iload hB rfl (fun hB => ?_)
      refine z_ic_ge hB (fun hc _ => ?_) (fun hc _ => ?_)
      · have h := z_neg hc h
        have hB : z_all [z_is 46 39 (zf_cst 39 (jn 0) 40), z_is 46 40 (zf_ret 1)] = true := by decide +kernel
        refine z_cst hB (fun hB => ?_)
        cases h
        cases b2
        exact z_retz hB (by decide)
      · have h := z_pos hc h
        have hB : z_all [z_is 46 9 (zf_aload 9 0 10), z_is 46 10 (zf_getr 10 2 2 13), z_is 46 13 (zf_iload 13 4 15), z_is 46 15 (zf_iald 15 16), z_is 46 16 (zf_iload 16 2 17), z_is 46 17 (zf_if2 .ne 17 33 20)] = true := by decide +kernel
        refine z_aload hB rfl (fun hB => ?_)
        refine y_getr (b := (s + 25)) ok hB hs (zla_r2 hs) (fun hB => ?_)
        refine z_iload hB rfl (fun hB => ?_)
        obtain ⟨g3, h⟩ := z_gd h
        refine y_iald ok hB (zla_k2 hs) (zla_l2 hs) g3 (fun hB => ?_)
        refine z_iload hB rfl (fun hB => ?_)
        refine z_ic_ne hB (fun hc _ => ?_) (fun hc _ => ?_)
        · have h := z_neg hc h
          have hB : z_all [z_is 46 33 (zf_iinc 33 4 (jn 1) 36), z_is 46 36 (zf_goto 36 3)] = true := by decide +kernel
          refine z_iinc hB rfl rfl (fun hB => ?_)
          refine z_goto hB (fun hB => ?_)
          cases h
          exact z_weak (i2 ((p1 + (jn 1))) b2) (z_se (z_se (z_se (z_se (z_se z_s0)))))
        · have h := z_pos hc h
          have hB : z_all [z_is 46 20 (zf_aload 20 0 21), z_is 46 21 (zf_iload 21 1 22), z_is 46 22 (zf_iload 22 4 24), z_is 46 24 (zf_iload 24 3 25), z_is 46 25 (zf_cv 25 43 3 2 28), z_is 46 28 (zf_if1 .eq 28 33 31)] = true := by decide +kernel
          refine z_aload hB rfl (fun hB => ?_)
          refine z_iload hB rfl (fun hB => ?_)
          refine z_iload hB rfl (fun hB => ?_)
          refine z_iload hB rfl (fun hB => ?_)
          obtain ⟨q4, e5, h⟩ := z_bind h
          refine y_cv ok hB (as := [.int (x1), .int (p1), .int (x3)]) (a := s) (rest := []) rfl rfl rfl hs (t_L_mixing (I := I) ok hs e5) (fun hB => ?_)
          refine z_if_eq hB (fun hc _ => ?_) (fun hc _ => ?_)
          · have h := z_pos hc h
            have hB : z_all [z_is 46 33 (zf_iinc 33 4 (jn 1) 36), z_is 46 36 (zf_goto 36 3)] = true := by decide +kernel
            refine z_iinc hB rfl rfl (fun hB => ?_)
            refine z_goto hB (fun hB => ?_)
            cases h
            exact z_weak (i2 ((p1 + (jn 1))) b2) (z_se (z_se (z_se (z_se (z_se z_s0)))))
          · have h := z_neg hc h
            have hB : z_all [z_is 46 31 (zf_cst 31 (jn 1) 32), z_is 46 32 (zf_ret 1)] = true := by decide +kernel
            refine z_cst hB (fun hB => ?_)
            cases h
            cases b2
            exact z_retz hB (by decide)
  exact z_weak (l2 _ ((jn 0)) h) (z_se (z_se (z_se (z_se (z_se z_s0)))))
def d_L_firstGroupFor_2 (s : Nat) (x1 : Int32) (x2 : Int32) (x3 : Int32) (I : z_H) (p1 : Int32) : Option ((Int32) ⊕ (Int32)) := (if p1 < x2 then ((d_L_mixesInGroup s (x1) (p1) (x3) I).bind fun q3 => (if q3 = jn 0 then some (Sum.inr (p1)) else some (Sum.inl ((p1 + (jn 1)))))) else some (Sum.inr (x2)))
def d_L_firstGroupFor (s : Nat) (x1 : Int32) (x2 : Int32) (x3 : Int32) (I : z_H) : Option (Int32) := (z_it (d_L_firstGroupFor_2 s x1 x2 x3 I) z_F ((jn 0)))
/-- Laundry.firstGroupFor(III)I -/
theorem t_L_firstGroupFor {G : z_G} {w : ev_W} (ok : z_Ok G w) {s : Nat} {x1 : Int32} {x2 : Int32} {x3 : Int32} (hs : zt 2 s = true) {I : z_H} {r : Int32} (h : d_L_firstGroupFor s x1 x2 x3 I = some r) : z_K G 45 [.ref (s), .int (x1), .int (x2), .int (x3)] (z_w w I) (.inl (some (.int r))) (z_w w I) := by
  refine z_con ok.1 (ml := 5) (by decide +kernel) rfl rfl ?_
  show z_R G 45 0 [some (.ref (s)), some (.int (x1)), some (.int (x2)), some (.int (x3)), none] [] (z_w w I) (.inl (some (.int r))) (z_w w I)
  unfold d_L_firstGroupFor at h
  have hB : z_all [z_is 45 0 (zf_cst 0 (jn 0) 1), z_is 45 1 (zf_istore 1 4 3)] = true := by decide +kernel
  refine z_cst hB (fun hB => ?_)
  refine z_istore hB rfl rfl (fun hB => ?_)
  have l2 : ∀ (m2 : Nat) (p1 : Int32), z_it (d_L_firstGroupFor_2 s x1 x2 x3 I) m2 p1 = some r → z_R G 45 3 [some (.ref (s)), some (.int (x1)), some (.int (x2)), some (.int (x3)), some (.int (p1))] [] (z_w w I) (.inl (some (.int r))) (z_w w I) := by
    intro m2
    induction m2 with
    | zero => intro p1 h; cases h
    | succ m2 i2 =>
      intro p1 h
      obtain ⟨u2, h, b2⟩ := z_it_o h
      unfold d_L_firstGroupFor_2 at h
      have hB : z_all [z_is 45 3 (zf_iload 3 4 5), z_is 45 5 (zf_iload 5 2 6), z_is 45 6 (zf_if2 .ge 6 29 9)] = true := by decide +kernel
      refine z_iload hB rfl (fun hB => ?_)
      refine z_iload hB rfl (fun hB => ?_)
      refine z_ic_ge hB (fun hc _ => ?_) (fun hc _ => ?_)
      · have h := z_neg hc h
        have hB : z_all [z_is 45 29 (zf_iload 29 2 30), z_is 45 30 (zf_ret 0)] = true := by decide +kernel
        refine z_iload hB rfl (fun hB => ?_)
        cases h
        cases b2
        exact z_reti hB
      · have h := z_pos hc h
        have hB : z_all [z_is 45 9 (zf_aload 9 0 10), z_is 45 10 (zf_iload 10 1 11), z_is 45 11 (zf_iload 11 4 13), z_is 45 13 (zf_iload 13 3 14), z_is 45 14 (zf_cv 14 46 3 2 17), z_is 45 17 (zf_if1 .ne 17 23 20)] = true := by decide +kernel
        refine z_aload hB rfl (fun hB => ?_)
        refine z_iload hB rfl (fun hB => ?_)
        refine z_iload hB rfl (fun hB => ?_)
        refine z_iload hB rfl (fun hB => ?_)
        obtain ⟨q3, e4, h⟩ := z_bind h
        refine y_cv ok hB (as := [.int (x1), .int (p1), .int (x3)]) (a := s) (rest := []) rfl rfl rfl hs (t_L_mixesInGroup (I := I) ok hs e4) (fun hB => ?_)
        refine z_if_ne hB (fun hc _ => ?_) (fun hc _ => ?_)
        · have h := z_neg hc h
          have hB : z_all [z_is 45 23 (zf_iinc 23 4 (jn 1) 26), z_is 45 26 (zf_goto 26 3)] = true := by decide +kernel
          refine z_iinc hB rfl rfl (fun hB => ?_)
          refine z_goto hB (fun hB => ?_)
          cases h
          exact z_weak (i2 ((p1 + (jn 1))) b2) (z_se (z_se (z_se (z_se (z_se z_s0)))))
        · have h := z_pos hc h
          have hB : z_all [z_is 45 20 (zf_iload 20 4 22), z_is 45 22 (zf_ret 0)] = true := by decide +kernel
          refine z_iload hB rfl (fun hB => ?_)
          cases h
          cases b2
          exact z_reti hB
  exact z_weak (l2 _ ((jn 0)) h) (z_se (z_se (z_se (z_se (z_se z_s0)))))
def d_L_groupsOfDirty_2 (s : Nat) (x1 : Int32) (p1 : Int32 × Int32 × z_H) : Option ((Int32 × Int32 × z_H) ⊕ (Int32 × Int32 × z_H)) := (if p1.2.1 < (p1.2.2 (s + 7) 6) then (if z_in (p1.2.1) 12 then (if z_in (p1.2.1) 12 then (Option.bind (α := Int32 × z_H) (if ((ev_u2 p1.2.2 (s + 25) (z_n (p1.2.1)) (jg 1)) ((s + 7) + 2 + z_n (p1.2.1)) 8) = jn 0 then (if jn 0 < ((ev_u2 p1.2.2 (s + 25) (z_n (p1.2.1)) (jg 1)) ((s + 7) + 2 + z_n (p1.2.1)) 3) then ((d_G_bears ((s + 7) + 2 + z_n (p1.2.1)) (x1) (ev_u2 p1.2.2 (s + 25) (z_n (p1.2.1)) (jg 1))).bind fun q11 => (if q11 = jn 0 then some (p1.1, (ev_u2 p1.2.2 (s + 25) (z_n (p1.2.1)) (jg 1))) else ((d_L_firstGroupFor s (p1.2.1) (p1.1) (x1) (ev_u2 p1.2.2 (s + 25) (z_n (p1.2.1)) (jg 1))).bind fun q13 => (if z_in (p1.2.1) 12 then some ((z_mx (p1.1) ((q13 + (jn 1)))), (ev_u2 (ev_u2 p1.2.2 (s + 25) (z_n (p1.2.1)) (jg 1)) (s + 25) (z_n (p1.2.1)) q13)) else none)))) else some (p1.1, (ev_u2 p1.2.2 (s + 25) (z_n (p1.2.1)) (jg 1)))) else some (p1.1, (ev_u2 p1.2.2 (s + 25) (z_n (p1.2.1)) (jg 1)))) fun q8 => some (Sum.inl (q8.1, (p1.2.1 + (jn 1)), q8.2))) else none) else none) else some (Sum.inr (p1.1, p1.2.1, p1.2.2)))
def d_L_groupsOfDirty (s : Nat) (x1 : Int32) (I : z_H) : Option (Int32 × z_H) := ((z_it (d_L_groupsOfDirty_2 s x1) z_F ((jn 0), (jn 0), I)).bind fun q3 => some ((q3.1, q3.2.2)))
/-- Laundry.groupsOfDirty(I)I -/
theorem t_L_groupsOfDirty {G : z_G} {w : ev_W} (ok : z_Ok G w) {s : Nat} {x1 : Int32} (hs : zt 2 s = true) {I : z_H} {r : Int32 × z_H} (h : d_L_groupsOfDirty s x1 I = some r) : z_K G 44 [.ref (s), .int (x1)] (z_w w I) (.inl (some (.int r.1))) (z_w w r.2) := by
  refine z_con ok.1 (ml := 6) (by decide +kernel) rfl rfl ?_
  show z_R G 44 0 [some (.ref (s)), some (.int (x1)), none, none, none, none] [] (z_w w I) (.inl (some (.int r.1))) (z_w w r.2)
  unfold d_L_groupsOfDirty at h
  have hB : z_all [z_is 44 0 (zf_cst 0 (jn 0) 1), z_is 44 1 (zf_istore 1 2 2), z_is 44 2 (zf_cst 2 (jn 0) 3), z_is 44 3 (zf_istore 3 3 4)] = true := by decide +kernel
  refine z_cst hB (fun hB => ?_)
  refine z_istore hB rfl rfl (fun hB => ?_)
  refine z_cst hB (fun hB => ?_)
  refine z_istore hB rfl rfl (fun hB => ?_)
  obtain ⟨q3, e4, h⟩ := z_bind h
  have k5 : z_R G 44 90 [none, none, some (.int (q3.1)), none, none, none] [] (z_w w q3.2.2) (.inl (some (.int r.1))) (z_w w r.2) := by
    have hB : z_all [z_is 44 90 (zf_iload 90 2 91), z_is 44 91 (zf_ret 0)] = true := by decide +kernel
    refine z_iload hB rfl (fun hB => ?_)
    cases h
    exact z_reti hB
  have l2 : ∀ (m2 : Nat) (p1 : Int32 × Int32 × z_H), z_it (d_L_groupsOfDirty_2 s x1) m2 p1 = some q3 → z_R G 44 4 [some (.ref (s)), some (.int (x1)), some (.int (p1.1)), some (.int (p1.2.1)), none, none] [] (z_w w p1.2.2) (.inl (some (.int r.1))) (z_w w r.2) := by
    intro m2
    induction m2 with
    | zero => intro p1 h; cases h
    | succ m2 i2 =>
      intro p1 h
      obtain ⟨u2, h, b2⟩ := z_it_o h
      unfold d_L_groupsOfDirty_2 at h
      have hB : z_all [z_is 44 4 (zf_iload 4 3 5), z_is 44 5 (zf_aload 5 0 6), z_is 44 6 (zf_getr 6 2 1 9), z_is 44 9 (zf_geti 9 5 6 12), z_is 44 12 (zf_if2 .ge 12 90 15)] = true := by decide +kernel
      refine z_iload hB rfl (fun hB => ?_)
      refine z_aload hB rfl (fun hB => ?_)
      refine y_getr (b := (s + 7)) ok hB hs (zla_r1 hs) (fun hB => ?_)
      refine y_geti ok hB (zla_k1 hs) (fun hB => ?_)
      refine z_ic_ge hB (fun hc _ => ?_) (fun hc _ => ?_)
      · have h := z_neg hc h
        cases h
        cases b2
        exact z_weak k5 (z_sn (z_sn (z_se (z_sn (z_sn (z_sn z_s0))))))
      · have h := z_pos hc h
        have hB : z_all [z_is 44 15 (zf_aload 15 0 16), z_is 44 16 (zf_getr 16 2 1 19), z_is 44 19 (zf_getr 19 5 7 22), z_is 44 22 (zf_iload 22 3 23), z_is 44 23 (zf_aald 23 24), z_is 44 24 (zf_astore 24 4 26), z_is 44 26 (zf_aload 26 0 27), z_is 44 27 (zf_getr 27 2 2 30), z_is 44 30 (zf_iload 30 3 31), z_is 44 31 (zf_cst 31 (jg 1) 32), z_is 44 32 (zf_iast 32 33), z_is 44 33 (zf_aload 33 4 35), z_is 44 35 (zf_geti 35 0 8 38), z_is 44 38 (zf_if1 .ne 38 84 41)] = true := by decide +kernel
        refine z_aload hB rfl (fun hB => ?_)
        refine y_getr (b := (s + 7)) ok hB hs (zla_r1 hs) (fun hB => ?_)
        refine y_getr (b := ((s + 7) + 1)) ok hB (zla_k1 hs) (zst_r7 (zla_k1 hs)) (fun hB => ?_)
        refine z_iload hB rfl (fun hB => ?_)
        obtain ⟨g6, h⟩ := z_gd h
        refine y_fald ok hB (zst_k1 (zla_k1 hs)) (zst_l1 (zla_k1 hs)) g6 (zst_fR (zla_k1 hs) g6) (fun hB => ?_)
        refine z_astore hB rfl rfl (fun hB => ?_)
        refine z_aload hB rfl (fun hB => ?_)
        refine y_getr (b := (s + 25)) ok hB hs (zla_r2 hs) (fun hB => ?_)
        refine z_iload hB rfl (fun hB => ?_)
        refine z_cst hB (fun hB => ?_)
        obtain ⟨g7, h⟩ := z_gd h
        refine y_iast ok hB (zla_k2 hs) (zla_l2 hs) g7 (fun hB => ?_)
        refine z_aload hB rfl (fun hB => ?_)
        refine y_geti ok hB (zst_fK (zla_k1 hs) g6) (fun hB => ?_)
        obtain ⟨q8, e9, h⟩ := z_bind h
        have k10 : z_R G 44 84 [some (.ref (s)), some (.int (x1)), some (.int (q8.1)), some (.int (p1.2.1)), none, none] [] (z_w w q8.2) (.inl (some (.int r.1))) (z_w w r.2) := by
          have hB : z_all [z_is 44 84 (zf_iinc 84 3 (jn 1) 87), z_is 44 87 (zf_goto 87 4)] = true := by decide +kernel
          refine z_iinc hB rfl rfl (fun hB => ?_)
          refine z_goto hB (fun hB => ?_)
          cases h
          exact z_weak (i2 (q8.1, (p1.2.1 + (jn 1)), q8.2) b2) (z_se (z_se (z_se (z_se (z_sn (z_sn z_s0))))))
        have h := e9
        refine z_if_ne hB (fun hc _ => ?_) (fun hc _ => ?_)
        · have h := z_neg hc h
          cases h
          exact z_weak k10 (z_se (z_se (z_se (z_se (z_sn (z_sn z_s0))))))
        · have h := z_pos hc h
          have hB : z_all [z_is 44 41 (zf_aload 41 4 43), z_is 44 43 (zf_geti 43 0 3 46), z_is 44 46 (zf_if1 .le 46 84 49)] = true := by decide +kernel
          refine z_aload hB rfl (fun hB => ?_)
          refine y_geti ok hB (zst_fK (zla_k1 hs) g6) (fun hB => ?_)
          refine z_if_le hB (fun hc _ => ?_) (fun hc _ => ?_)
          · have h := z_neg hc h
            cases h
            exact z_weak k10 (z_se (z_se (z_se (z_se (z_sn (z_sn z_s0))))))
          · have h := z_pos hc h
            have hB : z_all [z_is 44 49 (zf_aload 49 4 51), z_is 44 51 (zf_iload 51 1 52), z_is 44 52 (zf_cv 52 7 1 0 55), z_is 44 55 (zf_if1 .eq 55 84 58)] = true := by decide +kernel
            refine z_aload hB rfl (fun hB => ?_)
            refine z_iload hB rfl (fun hB => ?_)
            obtain ⟨q11, e12, h⟩ := z_bind h
            refine y_cv ok hB (as := [.int (x1)]) (a := ((s + 7) + 2 + z_n (p1.2.1))) (rest := []) rfl rfl rfl (zst_fK (zla_k1 hs) g6) (t_G_bears (I := (ev_u2 p1.2.2 (s + 25) (z_n (p1.2.1)) (jg 1))) ok (zst_fK (zla_k1 hs) g6) e12) (fun hB => ?_)
            refine z_if_eq hB (fun hc _ => ?_) (fun hc _ => ?_)
            · have h := z_pos hc h
              cases h
              exact z_weak k10 (z_se (z_se (z_se (z_se (z_sn (z_sn z_s0))))))
            · have h := z_neg hc h
              have hB : z_all [z_is 44 58 (zf_aload 58 0 59), z_is 44 59 (zf_iload 59 3 60), z_is 44 60 (zf_iload 60 2 61), z_is 44 61 (zf_iload 61 1 62), z_is 44 62 (zf_cv 62 45 3 2 65), z_is 44 65 (zf_istore 65 5 67), z_is 44 67 (zf_aload 67 0 68), z_is 44 68 (zf_getr 68 2 2 71), z_is 44 71 (zf_iload 71 3 72), z_is 44 72 (zf_iload 72 5 74), z_is 44 74 (zf_iast 74 75), z_is 44 75 (zf_iload 75 2 76), z_is 44 76 (zf_iload 76 5 78), z_is 44 78 (zf_cst 78 (jn 1) 79), z_is 44 79 (zf_iadd 79 80), z_is 44 80 (zf_nat 80 100 83), z_is 44 83 (zf_istore 83 2 84)] = true := by decide +kernel
              refine z_aload hB rfl (fun hB => ?_)
              refine z_iload hB rfl (fun hB => ?_)
              refine z_iload hB rfl (fun hB => ?_)
              refine z_iload hB rfl (fun hB => ?_)
              obtain ⟨q13, e14, h⟩ := z_bind h
              refine y_cv ok hB (as := [.int (p1.2.1), .int (p1.1), .int (x1)]) (a := s) (rest := []) rfl rfl rfl hs (t_L_firstGroupFor (I := (ev_u2 p1.2.2 (s + 25) (z_n (p1.2.1)) (jg 1))) ok hs e14) (fun hB => ?_)
              refine z_istore hB rfl rfl (fun hB => ?_)
              refine z_aload hB rfl (fun hB => ?_)
              refine y_getr (b := (s + 25)) ok hB hs (zla_r2 hs) (fun hB => ?_)
              refine z_iload hB rfl (fun hB => ?_)
              refine z_iload hB rfl (fun hB => ?_)
              obtain ⟨g15, h⟩ := z_gd h
              refine y_iast ok hB (zla_k2 hs) (zla_l2 hs) g15 (fun hB => ?_)
              refine z_iload hB rfl (fun hB => ?_)
              refine z_iload hB rfl (fun hB => ?_)
              refine z_cst hB (fun hB => ?_)
              refine z_iadd hB (fun hB => ?_)
              refine z_max hB rfl (fun hB => ?_)
              refine z_istore hB rfl rfl (fun hB => ?_)
              cases h
              exact z_weak k10 (z_se (z_se (z_se (z_se (z_sn (z_sn z_s0))))))
  exact z_weak (l2 _ ((jn 0), (jn 0), I) e4) (z_se (z_se (z_se (z_se (z_sn (z_sn z_s0))))))
def d_L_mixesInBasket_2 (s : Nat) (x1 : Int32) (x2 : Int32) (I : z_H) (p1 : Int32 × Int32) : Option ((Int32 × Int32) ⊕ (Int32 × Int32)) := (if p1.2 < (I (s + 7) 6) then (if z_in (p1.2) 12 then (Option.bind (α := Int32) (if (I ((s + 7) + 2 + z_n (p1.2)) 8) = jn 0 then ((d_L_mixing s (x1) (p1.2) (x2) I).bind fun q10 => (if q10 = jn 0 then some (p1.1) else some ((p1.1 + (jn 1))))) else some (p1.1)) fun q7 => some (Sum.inl (q7, (p1.2 + (jn 1))))) else none) else some (Sum.inr (p1.1, p1.2)))
def d_L_mixesInBasket (s : Nat) (x1 : Int32) (x2 : Int32) (I : z_H) : Option (Int32) := ((z_it (d_L_mixesInBasket_2 s x1 x2 I) z_F ((jn 0), (jn 0))).bind fun q3 => some (q3.1))
/-- Laundry.mixesInBasket(II)I -/
theorem t_L_mixesInBasket {G : z_G} {w : ev_W} (ok : z_Ok G w) {s : Nat} {x1 : Int32} {x2 : Int32} (hs : zt 2 s = true) {I : z_H} {r : Int32} (h : d_L_mixesInBasket s x1 x2 I = some r) : z_K G 48 [.ref (s), .int (x1), .int (x2)] (z_w w I) (.inl (some (.int r))) (z_w w I) := by
  refine z_con ok.1 (ml := 5) (by decide +kernel) rfl rfl ?_
  show z_R G 48 0 [some (.ref (s)), some (.int (x1)), some (.int (x2)), none, none] [] (z_w w I) (.inl (some (.int r))) (z_w w I)
  unfold d_L_mixesInBasket at h
  have hB : z_all [z_is 48 0 (zf_cst 0 (jn 0) 1), z_is 48 1 (zf_istore 1 3 2), z_is 48 2 (zf_cst 2 (jn 0) 3), z_is 48 3 (zf_istore 3 4 5)] = true := by decide +kernel
  refine z_cst hB (fun hB => ?_)
  refine z_istore hB rfl rfl (fun hB => ?_)
  refine z_cst hB (fun hB => ?_)
  refine z_istore hB rfl rfl (fun hB => ?_)
  obtain ⟨q3, e4, h⟩ := z_bind h
  have k5 : z_R G 48 53 [none, none, none, some (.int (q3.1)), none] [] (z_w w I) (.inl (some (.int r))) (z_w w I) := by
    have hB : z_all [z_is 48 53 (zf_iload 53 3 54), z_is 48 54 (zf_ret 0)] = true := by decide +kernel
    refine z_iload hB rfl (fun hB => ?_)
    cases h
    exact z_reti hB
  have l2 : ∀ (m2 : Nat) (p1 : Int32 × Int32), z_it (d_L_mixesInBasket_2 s x1 x2 I) m2 p1 = some q3 → z_R G 48 5 [some (.ref (s)), some (.int (x1)), some (.int (x2)), some (.int (p1.1)), some (.int (p1.2))] [] (z_w w I) (.inl (some (.int r))) (z_w w I) := by
    intro m2
    induction m2 with
    | zero => intro p1 h; cases h
    | succ m2 i2 =>
      intro p1 h
      obtain ⟨u2, h, b2⟩ := z_it_o h
      unfold d_L_mixesInBasket_2 at h
      have hB : z_all [z_is 48 5 (zf_iload 5 4 7), z_is 48 7 (zf_aload 7 0 8), z_is 48 8 (zf_getr 8 2 1 11), z_is 48 11 (zf_geti 11 5 6 14), z_is 48 14 (zf_if2 .ge 14 53 17)] = true := by decide +kernel
      refine z_iload hB rfl (fun hB => ?_)
      refine z_aload hB rfl (fun hB => ?_)
      refine y_getr (b := (s + 7)) ok hB hs (zla_r1 hs) (fun hB => ?_)
      refine y_geti ok hB (zla_k1 hs) (fun hB => ?_)
      refine z_ic_ge hB (fun hc _ => ?_) (fun hc _ => ?_)
      · have h := z_neg hc h
        cases h
        cases b2
        exact z_weak k5 (z_sn (z_sn (z_sn (z_se (z_sn z_s0)))))
      · have h := z_pos hc h
        have hB : z_all [z_is 48 17 (zf_aload 17 0 18), z_is 48 18 (zf_getr 18 2 1 21), z_is 48 21 (zf_getr 21 5 7 24), z_is 48 24 (zf_iload 24 4 26), z_is 48 26 (zf_aald 26 27), z_is 48 27 (zf_geti 27 0 8 30), z_is 48 30 (zf_if1 .ne 30 47 33)] = true := by decide +kernel
        refine z_aload hB rfl (fun hB => ?_)
        refine y_getr (b := (s + 7)) ok hB hs (zla_r1 hs) (fun hB => ?_)
        refine y_getr (b := ((s + 7) + 1)) ok hB (zla_k1 hs) (zst_r7 (zla_k1 hs)) (fun hB => ?_)
        refine z_iload hB rfl (fun hB => ?_)
        obtain ⟨g6, h⟩ := z_gd h
        refine y_fald ok hB (zst_k1 (zla_k1 hs)) (zst_l1 (zla_k1 hs)) g6 (zst_fR (zla_k1 hs) g6) (fun hB => ?_)
        refine y_geti ok hB (zst_fK (zla_k1 hs) g6) (fun hB => ?_)
        obtain ⟨q7, e8, h⟩ := z_bind h
        have k9 : z_R G 48 47 [some (.ref (s)), some (.int (x1)), some (.int (x2)), some (.int (q7)), some (.int (p1.2))] [] (z_w w I) (.inl (some (.int r))) (z_w w I) := by
          have hB : z_all [z_is 48 47 (zf_iinc 47 4 (jn 1) 50), z_is 48 50 (zf_goto 50 5)] = true := by decide +kernel
          refine z_iinc hB rfl rfl (fun hB => ?_)
          refine z_goto hB (fun hB => ?_)
          cases h
          exact z_weak (i2 (q7, (p1.2 + (jn 1))) b2) (z_se (z_se (z_se (z_se (z_se z_s0)))))
        have h := e8
        refine z_if_ne hB (fun hc _ => ?_) (fun hc _ => ?_)
        · have h := z_neg hc h
          cases h
          exact z_weak k9 (z_se (z_se (z_se (z_se (z_se z_s0)))))
        · have h := z_pos hc h
          have hB : z_all [z_is 48 33 (zf_aload 33 0 34), z_is 48 34 (zf_iload 34 1 35), z_is 48 35 (zf_iload 35 4 37), z_is 48 37 (zf_iload 37 2 38), z_is 48 38 (zf_cv 38 43 3 2 41), z_is 48 41 (zf_if1 .eq 41 47 44)] = true := by decide +kernel
          refine z_aload hB rfl (fun hB => ?_)
          refine z_iload hB rfl (fun hB => ?_)
          refine z_iload hB rfl (fun hB => ?_)
          refine z_iload hB rfl (fun hB => ?_)
          obtain ⟨q10, e11, h⟩ := z_bind h
          refine y_cv ok hB (as := [.int (x1), .int (p1.2), .int (x2)]) (a := s) (rest := []) rfl rfl rfl hs (t_L_mixing (I := I) ok hs e11) (fun hB => ?_)
          refine z_if_eq hB (fun hc _ => ?_) (fun hc _ => ?_)
          · have h := z_pos hc h
            cases h
            exact z_weak k9 (z_se (z_se (z_se (z_se (z_se z_s0)))))
          · have h := z_neg hc h
            have hB : z_all [z_is 48 44 (zf_iinc 44 3 (jn 1) 47)] = true := by decide +kernel
            refine z_iinc hB rfl rfl (fun hB => ?_)
            cases h
            exact z_weak k9 (z_se (z_se (z_se (z_se (z_se z_s0)))))
  exact z_weak (l2 _ ((jn 0), (jn 0)) e4) (z_se (z_se (z_se (z_se (z_se z_s0)))))
def d_L_purestInBasket_2 (s : Nat) (x1 : Int32) (I : z_H) (p1 : Int32 × Int32 × Int32) : Option ((Int32 × Int32 × Int32) ⊕ (Int32 × Int32 × Int32)) := (if p1.2.2 < (I (s + 7) 6) then ((d_L_mixesInBasket s (p1.2.2) (x1) I).bind fun q6 => (if z_in (p1.2.2) 12 then (Option.bind (α := Int32 × Int32) (if (I ((s + 7) + 2 + z_n (p1.2.2)) 8) = jn 0 then (if q6 < p1.2.1 then some (p1.2.2, q6) else some (p1.1, p1.2.1)) else some (p1.1, p1.2.1)) fun q9 => some (Sum.inl (q9.1, q9.2, (p1.2.2 + (jn 1))))) else none)) else some (Sum.inr (p1.1, p1.2.1, p1.2.2)))
def d_L_purestInBasket (s : Nat) (x1 : Int32) (I : z_H) : Option (Int32) := ((z_it (d_L_purestInBasket_2 s x1 I) z_F ((jg 1), (jn 12), (jn 0))).bind fun q3 => some (q3.1))
/-- Laundry.purestInBasket(I)I -/
theorem t_L_purestInBasket {G : z_G} {w : ev_W} (ok : z_Ok G w) {s : Nat} {x1 : Int32} (hs : zt 2 s = true) {I : z_H} {r : Int32} (h : d_L_purestInBasket s x1 I = some r) : z_K G 47 [.ref (s), .int (x1)] (z_w w I) (.inl (some (.int r))) (z_w w I) := by
  refine z_con ok.1 (ml := 6) (by decide +kernel) rfl rfl ?_
  show z_R G 47 0 [some (.ref (s)), some (.int (x1)), none, none, none, none] [] (z_w w I) (.inl (some (.int r))) (z_w w I)
  unfold d_L_purestInBasket at h
  have hB : z_all [z_is 47 0 (zf_cst 0 (jg 1) 1), z_is 47 1 (zf_istore 1 2 2), z_is 47 2 (zf_cst 2 (jn 12) 4), z_is 47 4 (zf_istore 4 3 5), z_is 47 5 (zf_cst 5 (jn 0) 6), z_is 47 6 (zf_istore 6 4 8)] = true := by decide +kernel
  refine z_cst hB (fun hB => ?_)
  refine z_istore hB rfl rfl (fun hB => ?_)
  refine z_cst hB (fun hB => ?_)
  refine z_istore hB rfl rfl (fun hB => ?_)
  refine z_cst hB (fun hB => ?_)
  refine z_istore hB rfl rfl (fun hB => ?_)
  obtain ⟨q3, e4, h⟩ := z_bind h
  have k5 : z_R G 47 63 [none, none, some (.int (q3.1)), none, none, none] [] (z_w w I) (.inl (some (.int r))) (z_w w I) := by
    have hB : z_all [z_is 47 63 (zf_iload 63 2 64), z_is 47 64 (zf_ret 0)] = true := by decide +kernel
    refine z_iload hB rfl (fun hB => ?_)
    cases h
    exact z_reti hB
  have l2 : ∀ (m2 : Nat) (p1 : Int32 × Int32 × Int32), z_it (d_L_purestInBasket_2 s x1 I) m2 p1 = some q3 → z_R G 47 8 [some (.ref (s)), some (.int (x1)), some (.int (p1.1)), some (.int (p1.2.1)), some (.int (p1.2.2)), none] [] (z_w w I) (.inl (some (.int r))) (z_w w I) := by
    intro m2
    induction m2 with
    | zero => intro p1 h; cases h
    | succ m2 i2 =>
      intro p1 h
      obtain ⟨u2, h, b2⟩ := z_it_o h
      unfold d_L_purestInBasket_2 at h
      have hB : z_all [z_is 47 8 (zf_iload 8 4 10), z_is 47 10 (zf_aload 10 0 11), z_is 47 11 (zf_getr 11 2 1 14), z_is 47 14 (zf_geti 14 5 6 17), z_is 47 17 (zf_if2 .ge 17 63 20)] = true := by decide +kernel
      refine z_iload hB rfl (fun hB => ?_)
      refine z_aload hB rfl (fun hB => ?_)
      refine y_getr (b := (s + 7)) ok hB hs (zla_r1 hs) (fun hB => ?_)
      refine y_geti ok hB (zla_k1 hs) (fun hB => ?_)
      refine z_ic_ge hB (fun hc _ => ?_) (fun hc _ => ?_)
      · have h := z_neg hc h
        cases h
        cases b2
        exact z_weak k5 (z_sn (z_sn (z_se (z_sn (z_sn (z_sn z_s0))))))
      · have h := z_pos hc h
        have hB : z_all [z_is 47 20 (zf_aload 20 0 21), z_is 47 21 (zf_iload 21 4 23), z_is 47 23 (zf_iload 23 1 24), z_is 47 24 (zf_cv 24 48 2 2 27), z_is 47 27 (zf_istore 27 5 29), z_is 47 29 (zf_aload 29 0 30), z_is 47 30 (zf_getr 30 2 1 33), z_is 47 33 (zf_getr 33 5 7 36), z_is 47 36 (zf_iload 36 4 38), z_is 47 38 (zf_aald 38 39), z_is 47 39 (zf_geti 39 0 8 42), z_is 47 42 (zf_if1 .ne 42 57 45)] = true := by decide +kernel
        refine z_aload hB rfl (fun hB => ?_)
        refine z_iload hB rfl (fun hB => ?_)
        refine z_iload hB rfl (fun hB => ?_)
        obtain ⟨q6, e7, h⟩ := z_bind h
        refine y_cv ok hB (as := [.int (p1.2.2), .int (x1)]) (a := s) (rest := []) rfl rfl rfl hs (t_L_mixesInBasket (I := I) ok hs e7) (fun hB => ?_)
        refine z_istore hB rfl rfl (fun hB => ?_)
        refine z_aload hB rfl (fun hB => ?_)
        refine y_getr (b := (s + 7)) ok hB hs (zla_r1 hs) (fun hB => ?_)
        refine y_getr (b := ((s + 7) + 1)) ok hB (zla_k1 hs) (zst_r7 (zla_k1 hs)) (fun hB => ?_)
        refine z_iload hB rfl (fun hB => ?_)
        obtain ⟨g8, h⟩ := z_gd h
        refine y_fald ok hB (zst_k1 (zla_k1 hs)) (zst_l1 (zla_k1 hs)) g8 (zst_fR (zla_k1 hs) g8) (fun hB => ?_)
        refine y_geti ok hB (zst_fK (zla_k1 hs) g8) (fun hB => ?_)
        obtain ⟨q9, e10, h⟩ := z_bind h
        have k11 : z_R G 47 57 [some (.ref (s)), some (.int (x1)), some (.int (q9.1)), some (.int (q9.2)), some (.int (p1.2.2)), none] [] (z_w w I) (.inl (some (.int r))) (z_w w I) := by
          have hB : z_all [z_is 47 57 (zf_iinc 57 4 (jn 1) 60), z_is 47 60 (zf_goto 60 8)] = true := by decide +kernel
          refine z_iinc hB rfl rfl (fun hB => ?_)
          refine z_goto hB (fun hB => ?_)
          cases h
          exact z_weak (i2 (q9.1, q9.2, (p1.2.2 + (jn 1))) b2) (z_se (z_se (z_se (z_se (z_se (z_sn z_s0))))))
        have h := e10
        refine z_if_ne hB (fun hc _ => ?_) (fun hc _ => ?_)
        · have h := z_neg hc h
          cases h
          exact z_weak k11 (z_se (z_se (z_se (z_se (z_se (z_sn z_s0))))))
        · have h := z_pos hc h
          have hB : z_all [z_is 47 45 (zf_iload 45 5 47), z_is 47 47 (zf_iload 47 3 48), z_is 47 48 (zf_if2 .ge 48 57 51)] = true := by decide +kernel
          refine z_iload hB rfl (fun hB => ?_)
          refine z_iload hB rfl (fun hB => ?_)
          refine z_ic_ge hB (fun hc _ => ?_) (fun hc _ => ?_)
          · have h := z_neg hc h
            cases h
            exact z_weak k11 (z_se (z_se (z_se (z_se (z_se (z_sn z_s0))))))
          · have h := z_pos hc h
            have hB : z_all [z_is 47 51 (zf_iload 51 4 53), z_is 47 53 (zf_istore 53 2 54), z_is 47 54 (zf_iload 54 5 56), z_is 47 56 (zf_istore 56 3 57)] = true := by decide +kernel
            refine z_iload hB rfl (fun hB => ?_)
            refine z_istore hB rfl rfl (fun hB => ?_)
            refine z_iload hB rfl (fun hB => ?_)
            refine z_istore hB rfl rfl (fun hB => ?_)
            cases h
            exact z_weak k11 (z_se (z_se (z_se (z_se (z_se (z_sn z_s0))))))
  exact z_weak (l2 _ ((jg 1), (jn 12), (jn 0)) e4) (z_se (z_se (z_se (z_se (z_se (z_sn z_s0))))))
def d_L_firstFreePeg_2 (s : Nat) (I : z_H) (p1 : Int32) : Option ((Int32) ⊕ (Int32)) := (if p1 < (I (s + 1) 0) then (if z_in (p1) 8 then (if (I ((s + 7) + 16) (z_n (p1))) = (jg 1) then some (Sum.inr (p1)) else some (Sum.inl ((p1 + (jn 1))))) else none) else some (Sum.inr ((jg 1))))
def d_L_firstFreePeg (s : Nat) (I : z_H) : Option (Int32) := (z_it (d_L_firstFreePeg_2 s I) z_F ((jn 0)))
/-- Laundry.firstFreePeg()I -/
theorem t_L_firstFreePeg {G : z_G} {w : ev_W} (ok : z_Ok G w) {s : Nat} (hs : zt 2 s = true) {I : z_H} {r : Int32} (h : d_L_firstFreePeg s I = some r) : z_K G 49 [.ref (s)] (z_w w I) (.inl (some (.int r))) (z_w w I) := by
  refine z_con ok.1 (ml := 2) (by decide +kernel) rfl rfl ?_
  show z_R G 49 0 [some (.ref (s)), none] [] (z_w w I) (.inl (some (.int r))) (z_w w I)
  unfold d_L_firstFreePeg at h
  have hB : z_all [z_is 49 0 (zf_cst 0 (jn 0) 1), z_is 49 1 (zf_istore 1 1 2)] = true := by decide +kernel
  refine z_cst hB (fun hB => ?_)
  refine z_istore hB rfl rfl (fun hB => ?_)
  have l2 : ∀ (m2 : Nat) (p1 : Int32), z_it (d_L_firstFreePeg_2 s I) m2 p1 = some r → z_R G 49 2 [some (.ref (s)), some (.int (p1))] [] (z_w w I) (.inl (some (.int r))) (z_w w I) := by
    intro m2
    induction m2 with
    | zero => intro p1 h; cases h
    | succ m2 i2 =>
      intro p1 h
      obtain ⟨u2, h, b2⟩ := z_it_o h
      unfold d_L_firstFreePeg_2 at h
      have hB : z_all [z_is 49 2 (zf_iload 2 1 3), z_is 49 3 (zf_aload 3 0 4), z_is 49 4 (zf_getr 4 2 0 7), z_is 49 7 (zf_geti 7 4 0 10), z_is 49 10 (zf_if2 .ge 10 34 13)] = true := by decide +kernel
      refine z_iload hB rfl (fun hB => ?_)
      refine z_aload hB rfl (fun hB => ?_)
      refine y_getr (b := (s + 1)) ok hB hs (zla_r0 hs) (fun hB => ?_)
      refine y_geti ok hB (zla_k0 hs) (fun hB => ?_)
      refine z_ic_ge hB (fun hc _ => ?_) (fun hc _ => ?_)
      · have h := z_neg hc h
        have hB : z_all [z_is 49 34 (zf_cst 34 (jg 1) 35), z_is 49 35 (zf_ret 0)] = true := by decide +kernel
        refine z_cst hB (fun hB => ?_)
        cases h
        cases b2
        exact z_reti hB
      · have h := z_pos hc h
        have hB : z_all [z_is 49 13 (zf_aload 13 0 14), z_is 49 14 (zf_getr 14 2 1 17), z_is 49 17 (zf_getr 17 5 10 20), z_is 49 20 (zf_iload 20 1 21), z_is 49 21 (zf_iald 21 22), z_is 49 22 (zf_cst 22 (jg 1) 23), z_is 49 23 (zf_if2 .ne 23 28 26)] = true := by decide +kernel
        refine z_aload hB rfl (fun hB => ?_)
        refine y_getr (b := (s + 7)) ok hB hs (zla_r1 hs) (fun hB => ?_)
        refine y_getr (b := ((s + 7) + 16)) ok hB (zla_k1 hs) (zst_r10 (zla_k1 hs)) (fun hB => ?_)
        refine z_iload hB rfl (fun hB => ?_)
        obtain ⟨g3, h⟩ := z_gd h
        refine y_iald ok hB (zst_k16 (zla_k1 hs)) (zst_l16 (zla_k1 hs)) g3 (fun hB => ?_)
        refine z_cst hB (fun hB => ?_)
        refine z_ic_ne hB (fun hc _ => ?_) (fun hc _ => ?_)
        · have h := z_neg hc h
          have hB : z_all [z_is 49 28 (zf_iinc 28 1 (jn 1) 31), z_is 49 31 (zf_goto 31 2)] = true := by decide +kernel
          refine z_iinc hB rfl rfl (fun hB => ?_)
          refine z_goto hB (fun hB => ?_)
          cases h
          exact z_weak (i2 ((p1 + (jn 1))) b2) (z_se (z_se z_s0))
        · have h := z_pos hc h
          have hB : z_all [z_is 49 26 (zf_iload 26 1 27), z_is 49 27 (zf_ret 0)] = true := by decide +kernel
          refine z_iload hB rfl (fun hB => ?_)
          cases h
          cases b2
          exact z_reti hB
  exact z_weak (l2 _ ((jn 0)) h) (z_se (z_se z_s0))
def d_L_canHang (s : Nat) (x1 : Int32) (I : z_H) : Option (Int32) := (if z_in (x1) 12 then (Option.bind (α := Int32) (if (I ((s + 7) + 2 + z_n (x1)) 8) = jn 0 then ((d_L_firstFreePeg s I).bind fun q6 => (if q6 = (jg 1) then some ((jn 0)) else some ((jn 1)))) else some ((jn 0))) fun q2 => (if (q2) = jn 0 ∨ (q2) = jn 1 then some (q2) else none)) else none)
/-- Laundry.canHang(I)Z -/
theorem t_L_canHang {G : z_G} {w : ev_W} (ok : z_Ok G w) {s : Nat} {x1 : Int32} (hs : zt 2 s = true) {I : z_H} {r : Int32} (h : d_L_canHang s x1 I = some r) : z_K G 50 [.ref (s), .int (x1)] (z_w w I) (.inl (some (.int r))) (z_w w I) := by
  refine z_con ok.1 (ml := 2) (by decide +kernel) rfl rfl ?_
  show z_R G 50 0 [some (.ref (s)), some (.int (x1))] [] (z_w w I) (.inl (some (.int r))) (z_w w I)
  unfold d_L_canHang at h
  have hB : z_all [z_is 50 0 (zf_aload 0 0 1), z_is 50 1 (zf_getr 1 2 1 4), z_is 50 4 (zf_getr 4 5 7 7), z_is 50 7 (zf_iload 7 1 8), z_is 50 8 (zf_aald 8 9), z_is 50 9 (zf_geti 9 0 8 12), z_is 50 12 (zf_if1 .ne 12 27 15)] = true := by decide +kernel
  refine z_aload hB rfl (fun hB => ?_)
  refine y_getr (b := (s + 7)) ok hB hs (zla_r1 hs) (fun hB => ?_)
  refine y_getr (b := ((s + 7) + 1)) ok hB (zla_k1 hs) (zst_r7 (zla_k1 hs)) (fun hB => ?_)
  refine z_iload hB rfl (fun hB => ?_)
  obtain ⟨g1, h⟩ := z_gd h
  refine y_fald ok hB (zst_k1 (zla_k1 hs)) (zst_l1 (zla_k1 hs)) g1 (zst_fR (zla_k1 hs) g1) (fun hB => ?_)
  refine y_geti ok hB (zst_fK (zla_k1 hs) g1) (fun hB => ?_)
  obtain ⟨q2, e3, h⟩ := z_bind h
  have k4 : z_R G 50 28 [none, none] [.int (q2)] (z_w w I) (.inl (some (.int r))) (z_w w I) := by
    have hB : z_all [z_is 50 28 (zf_ret 1)] = true := by decide +kernel
    obtain ⟨g5, h⟩ := z_gd h
    cases h
    exact z_retz hB g5
  have h := e3
  refine z_if_ne hB (fun hc _ => ?_) (fun hc _ => ?_)
  · have h := z_neg hc h
    have hB : z_all [z_is 50 27 (zf_cst 27 (jn 0) 28)] = true := by decide +kernel
    refine z_cst hB (fun hB => ?_)
    cases h
    exact z_weak k4 (z_sn (z_sn z_s0))
  · have h := z_pos hc h
    have hB : z_all [z_is 50 15 (zf_aload 15 0 16), z_is 50 16 (zf_cv 16 49 0 2 19), z_is 50 19 (zf_cst 19 (jg 1) 20), z_is 50 20 (zf_if2 .eq 20 27 23)] = true := by decide +kernel
    refine z_aload hB rfl (fun hB => ?_)
    obtain ⟨q6, e7, h⟩ := z_bind h
    refine y_cv ok hB (as := []) (a := s) (rest := []) rfl rfl rfl hs (t_L_firstFreePeg (I := I) ok hs e7) (fun hB => ?_)
    refine z_cst hB (fun hB => ?_)
    refine z_ic_eq hB (fun hc _ => ?_) (fun hc _ => ?_)
    · have h := z_pos hc h
      have hB : z_all [z_is 50 27 (zf_cst 27 (jn 0) 28)] = true := by decide +kernel
      refine z_cst hB (fun hB => ?_)
      cases h
      exact z_weak k4 (z_sn (z_sn z_s0))
    · have h := z_neg hc h
      have hB : z_all [z_is 50 23 (zf_cst 23 (jn 1) 24), z_is 50 24 (zf_goto 24 28)] = true := by decide +kernel
      refine z_cst hB (fun hB => ?_)
      refine z_goto hB (fun hB => ?_)
      cases h
      exact z_weak k4 (z_sn (z_sn z_s0))
def d_L_hangOnFirstFree (s : Nat) (x1 : Int32) (I : z_H) : Option (Int32 × z_H) := ((d_L_firstFreePeg s I).bind fun q1 => (Option.bind (α := z_H) (if q1 = (jg 1) then some (I) else ((d_S_moveToPeg (s + 7) (x1) (q1) I).bind fun q6 => some (q6))) fun q3 => some ((q1, q3))))
/-- Laundry.hangOnFirstFree(I)I -/
theorem t_L_hangOnFirstFree {G : z_G} {w : ev_W} (ok : z_Ok G w) {s : Nat} {x1 : Int32} (hs : zt 2 s = true) {I : z_H} {r : Int32 × z_H} (h : d_L_hangOnFirstFree s x1 I = some r) : z_K G 51 [.ref (s), .int (x1)] (z_w w I) (.inl (some (.int r.1))) (z_w w r.2) := by
  refine z_con ok.1 (ml := 3) (by decide +kernel) rfl rfl ?_
  show z_R G 51 0 [some (.ref (s)), some (.int (x1)), none] [] (z_w w I) (.inl (some (.int r.1))) (z_w w r.2)
  unfold d_L_hangOnFirstFree at h
  have hB : z_all [z_is 51 0 (zf_aload 0 0 1), z_is 51 1 (zf_cv 1 49 0 2 4), z_is 51 4 (zf_istore 4 2 5), z_is 51 5 (zf_iload 5 2 6), z_is 51 6 (zf_cst 6 (jg 1) 7), z_is 51 7 (zf_if2 .eq 7 19 10)] = true := by decide +kernel
  refine z_aload hB rfl (fun hB => ?_)
  obtain ⟨q1, e2, h⟩ := z_bind h
  refine y_cv ok hB (as := []) (a := s) (rest := []) rfl rfl rfl hs (t_L_firstFreePeg (I := I) ok hs e2) (fun hB => ?_)
  refine z_istore hB rfl rfl (fun hB => ?_)
  refine z_iload hB rfl (fun hB => ?_)
  refine z_cst hB (fun hB => ?_)
  obtain ⟨q3, e4, h⟩ := z_bind h
  have k5 : z_R G 51 19 [none, none, some (.int (q1))] [] (z_w w q3) (.inl (some (.int r.1))) (z_w w r.2) := by
    have hB : z_all [z_is 51 19 (zf_iload 19 2 20), z_is 51 20 (zf_ret 0)] = true := by decide +kernel
    refine z_iload hB rfl (fun hB => ?_)
    cases h
    exact z_reti hB
  have h := e4
  refine z_ic_eq hB (fun hc _ => ?_) (fun hc _ => ?_)
  · have h := z_pos hc h
    cases h
    exact z_weak k5 (z_sn (z_sn (z_se z_s0)))
  · have h := z_neg hc h
    have hB : z_all [z_is 51 10 (zf_aload 10 0 11), z_is 51 11 (zf_getr 11 2 1 14), z_is 51 14 (zf_iload 14 1 15), z_is 51 15 (zf_iload 15 2 16), z_is 51 16 (zf_cv 16 110 2 5 19)] = true := by decide +kernel
    refine z_aload hB rfl (fun hB => ?_)
    refine y_getr (b := (s + 7)) ok hB hs (zla_r1 hs) (fun hB => ?_)
    refine z_iload hB rfl (fun hB => ?_)
    refine z_iload hB rfl (fun hB => ?_)
    obtain ⟨q6, e7, h⟩ := z_bind h
    refine y_cv ok hB (as := [.int (x1), .int (q1)]) (a := (s + 7)) (rest := []) rfl rfl rfl (zla_k1 hs) (t_S_moveToPeg (I := I) ok (zla_k1 hs) e7) (fun hB => ?_)
    cases h
    exact z_weak k5 (z_sn (z_sn (z_se z_s0)))
def d_L_hangAllWet_2 (s : Nat) (p1 : Int32 × Int32 × z_H) : Option ((Int32 × Int32 × z_H) ⊕ (Int32 × Int32 × z_H)) := (if p1.2.1 < (p1.2.2 (s + 7) 6) then (if z_in (p1.2.1) 12 then (Option.bind (α := Int32 × z_H) (if jn 0 < (p1.2.2 ((s + 7) + 2 + z_n (p1.2.1)) 4) then ((d_L_canHang s (p1.2.1) p1.2.2).bind fun q10 => (if q10 = jn 0 then some (p1.1, p1.2.2) else ((d_L_hangOnFirstFree s (p1.2.1) p1.2.2).bind fun q12 => some ((p1.1 + (jn 1)), q12.2)))) else some (p1.1, p1.2.2)) fun q7 => some (Sum.inl (q7.1, (p1.2.1 + (jn 1)), q7.2))) else none) else some (Sum.inr (p1.1, p1.2.1, p1.2.2)))
def d_L_hangAllWet (s : Nat) (I : z_H) : Option (Int32 × z_H) := ((z_it (d_L_hangAllWet_2 s) z_F ((jn 0), (jn 0), I)).bind fun q3 => some ((q3.1, q3.2.2)))
/-- Laundry.hangAllWet()I -/
theorem t_L_hangAllWet {G : z_G} {w : ev_W} (ok : z_Ok G w) {s : Nat} (hs : zt 2 s = true) {I : z_H} {r : Int32 × z_H} (h : d_L_hangAllWet s I = some r) : z_K G 52 [.ref (s)] (z_w w I) (.inl (some (.int r.1))) (z_w w r.2) := by
  refine z_con ok.1 (ml := 3) (by decide +kernel) rfl rfl ?_
  show z_R G 52 0 [some (.ref (s)), none, none] [] (z_w w I) (.inl (some (.int r.1))) (z_w w r.2)
  unfold d_L_hangAllWet at h
  have hB : z_all [z_is 52 0 (zf_cst 0 (jn 0) 1), z_is 52 1 (zf_istore 1 1 2), z_is 52 2 (zf_cst 2 (jn 0) 3), z_is 52 3 (zf_istore 3 2 4)] = true := by decide +kernel
  refine z_cst hB (fun hB => ?_)
  refine z_istore hB rfl rfl (fun hB => ?_)
  refine z_cst hB (fun hB => ?_)
  refine z_istore hB rfl rfl (fun hB => ?_)
  obtain ⟨q3, e4, h⟩ := z_bind h
  have k5 : z_R G 52 53 [none, some (.int (q3.1)), none] [] (z_w w q3.2.2) (.inl (some (.int r.1))) (z_w w r.2) := by
    have hB : z_all [z_is 52 53 (zf_iload 53 1 54), z_is 52 54 (zf_ret 0)] = true := by decide +kernel
    refine z_iload hB rfl (fun hB => ?_)
    cases h
    exact z_reti hB
  have l2 : ∀ (m2 : Nat) (p1 : Int32 × Int32 × z_H), z_it (d_L_hangAllWet_2 s) m2 p1 = some q3 → z_R G 52 4 [some (.ref (s)), some (.int (p1.1)), some (.int (p1.2.1))] [] (z_w w p1.2.2) (.inl (some (.int r.1))) (z_w w r.2) := by
    intro m2
    induction m2 with
    | zero => intro p1 h; cases h
    | succ m2 i2 =>
      intro p1 h
      obtain ⟨u2, h, b2⟩ := z_it_o h
      unfold d_L_hangAllWet_2 at h
      have hB : z_all [z_is 52 4 (zf_iload 4 2 5), z_is 52 5 (zf_aload 5 0 6), z_is 52 6 (zf_getr 6 2 1 9), z_is 52 9 (zf_geti 9 5 6 12), z_is 52 12 (zf_if2 .ge 12 53 15)] = true := by decide +kernel
      refine z_iload hB rfl (fun hB => ?_)
      refine z_aload hB rfl (fun hB => ?_)
      refine y_getr (b := (s + 7)) ok hB hs (zla_r1 hs) (fun hB => ?_)
      refine y_geti ok hB (zla_k1 hs) (fun hB => ?_)
      refine z_ic_ge hB (fun hc _ => ?_) (fun hc _ => ?_)
      · have h := z_neg hc h
        cases h
        cases b2
        exact z_weak k5 (z_sn (z_se (z_sn z_s0)))
      · have h := z_pos hc h
        have hB : z_all [z_is 52 15 (zf_aload 15 0 16), z_is 52 16 (zf_getr 16 2 1 19), z_is 52 19 (zf_getr 19 5 7 22), z_is 52 22 (zf_iload 22 2 23), z_is 52 23 (zf_aald 23 24), z_is 52 24 (zf_geti 24 0 4 27), z_is 52 27 (zf_if1 .le 27 47 30)] = true := by decide +kernel
        refine z_aload hB rfl (fun hB => ?_)
        refine y_getr (b := (s + 7)) ok hB hs (zla_r1 hs) (fun hB => ?_)
        refine y_getr (b := ((s + 7) + 1)) ok hB (zla_k1 hs) (zst_r7 (zla_k1 hs)) (fun hB => ?_)
        refine z_iload hB rfl (fun hB => ?_)
        obtain ⟨g6, h⟩ := z_gd h
        refine y_fald ok hB (zst_k1 (zla_k1 hs)) (zst_l1 (zla_k1 hs)) g6 (zst_fR (zla_k1 hs) g6) (fun hB => ?_)
        refine y_geti ok hB (zst_fK (zla_k1 hs) g6) (fun hB => ?_)
        obtain ⟨q7, e8, h⟩ := z_bind h
        have k9 : z_R G 52 47 [some (.ref (s)), some (.int (q7.1)), some (.int (p1.2.1))] [] (z_w w q7.2) (.inl (some (.int r.1))) (z_w w r.2) := by
          have hB : z_all [z_is 52 47 (zf_iinc 47 2 (jn 1) 50), z_is 52 50 (zf_goto 50 4)] = true := by decide +kernel
          refine z_iinc hB rfl rfl (fun hB => ?_)
          refine z_goto hB (fun hB => ?_)
          cases h
          exact z_weak (i2 (q7.1, (p1.2.1 + (jn 1)), q7.2) b2) (z_se (z_se (z_se z_s0)))
        have h := e8
        refine z_if_le hB (fun hc _ => ?_) (fun hc _ => ?_)
        · have h := z_neg hc h
          cases h
          exact z_weak k9 (z_se (z_se (z_se z_s0)))
        · have h := z_pos hc h
          have hB : z_all [z_is 52 30 (zf_aload 30 0 31), z_is 52 31 (zf_iload 31 2 32), z_is 52 32 (zf_cv 32 50 1 2 35), z_is 52 35 (zf_if1 .eq 35 47 38)] = true := by decide +kernel
          refine z_aload hB rfl (fun hB => ?_)
          refine z_iload hB rfl (fun hB => ?_)
          obtain ⟨q10, e11, h⟩ := z_bind h
          refine y_cv ok hB (as := [.int (p1.2.1)]) (a := s) (rest := []) rfl rfl rfl hs (t_L_canHang (I := p1.2.2) ok hs e11) (fun hB => ?_)
          refine z_if_eq hB (fun hc _ => ?_) (fun hc _ => ?_)
          · have h := z_pos hc h
            cases h
            exact z_weak k9 (z_se (z_se (z_se z_s0)))
          · have h := z_neg hc h
            have hB : z_all [z_is 52 38 (zf_aload 38 0 39), z_is 52 39 (zf_iload 39 2 40), z_is 52 40 (zf_cv 40 51 1 2 43), z_is 52 43 (zf_popi 43 44), z_is 52 44 (zf_iinc 44 1 (jn 1) 47)] = true := by decide +kernel
            refine z_aload hB rfl (fun hB => ?_)
            refine z_iload hB rfl (fun hB => ?_)
            obtain ⟨q12, e13, h⟩ := z_bind h
            refine y_cv ok hB (as := [.int (p1.2.1)]) (a := s) (rest := []) rfl rfl rfl hs (t_L_hangOnFirstFree (I := p1.2.2) ok hs e13) (fun hB => ?_)
            refine z_popi hB (fun hB => ?_)
            refine z_iinc hB rfl rfl (fun hB => ?_)
            cases h
            exact z_weak k9 (z_se (z_se (z_se z_s0)))
  exact z_weak (l2 _ ((jn 0), (jn 0), I) e4) (z_se (z_se (z_se z_s0)))
def d_L_lateAt (s : Nat) (x1 : Int32) (x2 : Int32) (I : z_H) : Option (Int32) := (if z_in (x1) 4 then some ((z_mx ((jn 0)) ((x2 - (I ((s + 1) + 2) (z_n (x1))))))) else none)
/-- Laundry.lateAt(II)I -/
theorem t_L_lateAt {G : z_G} {w : ev_W} (ok : z_Ok G w) {s : Nat} {x1 : Int32} {x2 : Int32} (hs : zt 2 s = true) {I : z_H} {r : Int32} (h : d_L_lateAt s x1 x2 I = some r) : z_K G 53 [.ref (s), .int (x1), .int (x2)] (z_w w I) (.inl (some (.int r))) (z_w w I) := by
  refine z_con ok.1 (ml := 3) (by decide +kernel) rfl rfl ?_
  show z_R G 53 0 [some (.ref (s)), some (.int (x1)), some (.int (x2))] [] (z_w w I) (.inl (some (.int r))) (z_w w I)
  unfold d_L_lateAt at h
  have hB : z_all [z_is 53 0 (zf_cst 0 (jn 0) 1), z_is 53 1 (zf_iload 1 2 2), z_is 53 2 (zf_aload 2 0 3), z_is 53 3 (zf_getr 3 2 0 6), z_is 53 6 (zf_getr 6 4 5 9), z_is 53 9 (zf_iload 9 1 10), z_is 53 10 (zf_iald 10 11), z_is 53 11 (zf_isub 11 12), z_is 53 12 (zf_nat 12 100 15), z_is 53 15 (zf_ret 0)] = true := by decide +kernel
  refine z_cst hB (fun hB => ?_)
  refine z_iload hB rfl (fun hB => ?_)
  refine z_aload hB rfl (fun hB => ?_)
  refine y_getr (b := (s + 1)) ok hB hs (zla_r0 hs) (fun hB => ?_)
  refine y_getr (b := ((s + 1) + 2)) ok hB (zla_k0 hs) (zsu_r5 (zla_k0 hs)) (fun hB => ?_)
  refine z_iload hB rfl (fun hB => ?_)
  obtain ⟨g1, h⟩ := z_gd h
  refine y_iald ok hB (zsu_k5 (zla_k0 hs)) (zsu_l5 (zla_k0 hs)) g1 (fun hB => ?_)
  refine z_isub hB (fun hB => ?_)
  refine z_max hB rfl (fun hB => ?_)
  cases h
  exact z_reti hB
def d_L_hoursLate (s : Nat) (x1 : Int32) (I : z_H) : Option (Int32) := ((d_S_wasHandedOver (s + 7) (x1) I).bind fun q1 => (Option.bind (α := Int32) (if q1 = jn 0 then ((d_L_lateAt s (x1) ((I (s + 7) 0)) I).bind fun q6 => some (q6)) else (if z_in (x1) 4 then some ((I ((s + 7) + 17) (z_n (x1)))) else none)) fun q3 => some (q3)))
/-- Laundry.hoursLate(I)I -/
theorem t_L_hoursLate {G : z_G} {w : ev_W} (ok : z_Ok G w) {s : Nat} {x1 : Int32} (hs : zt 2 s = true) {I : z_H} {r : Int32} (h : d_L_hoursLate s x1 I = some r) : z_K G 54 [.ref (s), .int (x1)] (z_w w I) (.inl (some (.int r))) (z_w w I) := by
  refine z_con ok.1 (ml := 2) (by decide +kernel) rfl rfl ?_
  show z_R G 54 0 [some (.ref (s)), some (.int (x1))] [] (z_w w I) (.inl (some (.int r))) (z_w w I)
  unfold d_L_hoursLate at h
  have hB : z_all [z_is 54 0 (zf_aload 0 0 1), z_is 54 1 (zf_getr 1 2 1 4), z_is 54 4 (zf_iload 4 1 5), z_is 54 5 (zf_cv 5 99 1 5 8), z_is 54 8 (zf_if1 .eq 8 23 11)] = true := by decide +kernel
  refine z_aload hB rfl (fun hB => ?_)
  refine y_getr (b := (s + 7)) ok hB hs (zla_r1 hs) (fun hB => ?_)
  refine z_iload hB rfl (fun hB => ?_)
  obtain ⟨q1, e2, h⟩ := z_bind h
  refine y_cv ok hB (as := [.int (x1)]) (a := (s + 7)) (rest := []) rfl rfl rfl (zla_k1 hs) (t_S_wasHandedOver (I := I) ok (zla_k1 hs) e2) (fun hB => ?_)
  obtain ⟨q3, e4, h⟩ := z_bind h
  have k5 : z_R G 54 35 [none, none] [.int (q3)] (z_w w I) (.inl (some (.int r))) (z_w w I) := by
    have hB : z_all [z_is 54 35 (zf_ret 0)] = true := by decide +kernel
    cases h
    exact z_reti hB
  have h := e4
  refine z_if_eq hB (fun hc _ => ?_) (fun hc _ => ?_)
  · have h := z_pos hc h
    have hB : z_all [z_is 54 23 (zf_aload 23 0 24), z_is 54 24 (zf_iload 24 1 25), z_is 54 25 (zf_aload 25 0 26), z_is 54 26 (zf_getr 26 2 1 29), z_is 54 29 (zf_geti 29 5 0 32), z_is 54 32 (zf_cv 32 53 2 2 35)] = true := by decide +kernel
    refine z_aload hB rfl (fun hB => ?_)
    refine z_iload hB rfl (fun hB => ?_)
    refine z_aload hB rfl (fun hB => ?_)
    refine y_getr (b := (s + 7)) ok hB hs (zla_r1 hs) (fun hB => ?_)
    refine y_geti ok hB (zla_k1 hs) (fun hB => ?_)
    obtain ⟨q6, e7, h⟩ := z_bind h
    refine y_cv ok hB (as := [.int (x1), .int ((I (s + 7) 0))]) (a := s) (rest := []) rfl rfl rfl hs (t_L_lateAt (I := I) ok hs e7) (fun hB => ?_)
    cases h
    exact z_weak k5 (z_sn (z_sn z_s0))
  · have h := z_neg hc h
    have hB : z_all [z_is 54 11 (zf_aload 11 0 12), z_is 54 12 (zf_getr 12 2 1 15), z_is 54 15 (zf_getr 15 5 11 18), z_is 54 18 (zf_iload 18 1 19), z_is 54 19 (zf_iald 19 20), z_is 54 20 (zf_goto 20 35)] = true := by decide +kernel
    refine z_aload hB rfl (fun hB => ?_)
    refine y_getr (b := (s + 7)) ok hB hs (zla_r1 hs) (fun hB => ?_)
    refine y_getr (b := ((s + 7) + 17)) ok hB (zla_k1 hs) (zst_r11 (zla_k1 hs)) (fun hB => ?_)
    refine z_iload hB rfl (fun hB => ?_)
    obtain ⟨g8, h⟩ := z_gd h
    refine y_iald ok hB (zst_k17 (zla_k1 hs)) (zst_l17 (zla_k1 hs)) g8 (fun hB => ?_)
    refine z_goto hB (fun hB => ?_)
    cases h
    exact z_weak k5 (z_sn (z_sn z_s0))
def d_L_payForEach (s : Nat) (x1 : Int32) (x2 : Int32) (I : z_H) : Option (Int32) := (if z_in (x1) 4 then (if z_in (x1) 4 then ((d_L_lateAt s (x1) (x2) I).bind fun q3 => some ((z_mx ((jn 0)) (((I ((s + 1) + 3) (z_n (x1))) - ((I ((s + 1) + 4) (z_n (x1))) * q3)))))) else none) else none)
/-- Laundry.payForEach(II)I -/
theorem t_L_payForEach {G : z_G} {w : ev_W} (ok : z_Ok G w) {s : Nat} {x1 : Int32} {x2 : Int32} (hs : zt 2 s = true) {I : z_H} {r : Int32} (h : d_L_payForEach s x1 x2 I = some r) : z_K G 55 [.ref (s), .int (x1), .int (x2)] (z_w w I) (.inl (some (.int r))) (z_w w I) := by
  refine z_con ok.1 (ml := 3) (by decide +kernel) rfl rfl ?_
  show z_R G 55 0 [some (.ref (s)), some (.int (x1)), some (.int (x2))] [] (z_w w I) (.inl (some (.int r))) (z_w w I)
  unfold d_L_payForEach at h
  have hB : z_all [z_is 55 0 (zf_cst 0 (jn 0) 1), z_is 55 1 (zf_aload 1 0 2), z_is 55 2 (zf_getr 2 2 0 5), z_is 55 5 (zf_getr 5 4 6 8), z_is 55 8 (zf_iload 8 1 9), z_is 55 9 (zf_iald 9 10), z_is 55 10 (zf_aload 10 0 11), z_is 55 11 (zf_getr 11 2 0 14), z_is 55 14 (zf_getr 14 4 7 17), z_is 55 17 (zf_iload 17 1 18), z_is 55 18 (zf_iald 18 19), z_is 55 19 (zf_aload 19 0 20), z_is 55 20 (zf_iload 20 1 21), z_is 55 21 (zf_iload 21 2 22), z_is 55 22 (zf_cv 22 53 2 2 25), z_is 55 25 (zf_imul 25 26), z_is 55 26 (zf_isub 26 27), z_is 55 27 (zf_nat 27 100 30), z_is 55 30 (zf_ret 0)] = true := by decide +kernel
  refine z_cst hB (fun hB => ?_)
  refine z_aload hB rfl (fun hB => ?_)
  refine y_getr (b := (s + 1)) ok hB hs (zla_r0 hs) (fun hB => ?_)
  refine y_getr (b := ((s + 1) + 3)) ok hB (zla_k0 hs) (zsu_r6 (zla_k0 hs)) (fun hB => ?_)
  refine z_iload hB rfl (fun hB => ?_)
  obtain ⟨g1, h⟩ := z_gd h
  refine y_iald ok hB (zsu_k6 (zla_k0 hs)) (zsu_l6 (zla_k0 hs)) g1 (fun hB => ?_)
  refine z_aload hB rfl (fun hB => ?_)
  refine y_getr (b := (s + 1)) ok hB hs (zla_r0 hs) (fun hB => ?_)
  refine y_getr (b := ((s + 1) + 4)) ok hB (zla_k0 hs) (zsu_r7 (zla_k0 hs)) (fun hB => ?_)
  refine z_iload hB rfl (fun hB => ?_)
  obtain ⟨g2, h⟩ := z_gd h
  refine y_iald ok hB (zsu_k7 (zla_k0 hs)) (zsu_l7 (zla_k0 hs)) g2 (fun hB => ?_)
  refine z_aload hB rfl (fun hB => ?_)
  refine z_iload hB rfl (fun hB => ?_)
  refine z_iload hB rfl (fun hB => ?_)
  obtain ⟨q3, e4, h⟩ := z_bind h
  refine y_cv ok hB (as := [.int (x1), .int (x2)]) (a := s) (rest := [.int ((I ((s + 1) + 4) (z_n (x1)))), .int ((I ((s + 1) + 3) (z_n (x1)))), .int ((jn 0))]) rfl rfl rfl hs (t_L_lateAt (I := I) ok hs e4) (fun hB => ?_)
  refine z_imul hB (fun hB => ?_)
  refine z_isub hB (fun hB => ?_)
  refine z_max hB rfl (fun hB => ?_)
  cases h
  exact z_reti hB
def d_L_payAhead (s : Nat) (x1 : Int32) (x2 : Int32) (I : z_H) : Option (Int32) := ((d_S_wasHandedOver (s + 7) (x1) I).bind fun q1 => (Option.bind (α := Int32) (if q1 = jn 0 then ((d_L_payForEach s (x1) (((I (s + 7) 0) + x2)) I).bind fun q6 => ((d_S_flagsOf (s + 7) (x1) I).bind fun q8 => some ((q6 * q8)))) else some ((jn 0))) fun q3 => some (q3)))
/-- Laundry.payAhead(II)I -/
theorem t_L_payAhead {G : z_G} {w : ev_W} (ok : z_Ok G w) {s : Nat} {x1 : Int32} {x2 : Int32} (hs : zt 2 s = true) {I : z_H} {r : Int32} (h : d_L_payAhead s x1 x2 I = some r) : z_K G 56 [.ref (s), .int (x1), .int (x2)] (z_w w I) (.inl (some (.int r))) (z_w w I) := by
  refine z_con ok.1 (ml := 3) (by decide +kernel) rfl rfl ?_
  show z_R G 56 0 [some (.ref (s)), some (.int (x1)), some (.int (x2))] [] (z_w w I) (.inl (some (.int r))) (z_w w I)
  unfold d_L_payAhead at h
  have hB : z_all [z_is 56 0 (zf_aload 0 0 1), z_is 56 1 (zf_getr 1 2 1 4), z_is 56 4 (zf_iload 4 1 5), z_is 56 5 (zf_cv 5 99 1 5 8), z_is 56 8 (zf_if1 .eq 8 15 11)] = true := by decide +kernel
  refine z_aload hB rfl (fun hB => ?_)
  refine y_getr (b := (s + 7)) ok hB hs (zla_r1 hs) (fun hB => ?_)
  refine z_iload hB rfl (fun hB => ?_)
  obtain ⟨q1, e2, h⟩ := z_bind h
  refine y_cv ok hB (as := [.int (x1)]) (a := (s + 7)) (rest := []) rfl rfl rfl (zla_k1 hs) (t_S_wasHandedOver (I := I) ok (zla_k1 hs) e2) (fun hB => ?_)
  obtain ⟨q3, e4, h⟩ := z_bind h
  have k5 : z_R G 56 38 [none, none, none] [.int (q3)] (z_w w I) (.inl (some (.int r))) (z_w w I) := by
    have hB : z_all [z_is 56 38 (zf_ret 0)] = true := by decide +kernel
    cases h
    exact z_reti hB
  have h := e4
  refine z_if_eq hB (fun hc _ => ?_) (fun hc _ => ?_)
  · have h := z_pos hc h
    have hB : z_all [z_is 56 15 (zf_aload 15 0 16), z_is 56 16 (zf_iload 16 1 17), z_is 56 17 (zf_aload 17 0 18), z_is 56 18 (zf_getr 18 2 1 21), z_is 56 21 (zf_geti 21 5 0 24), z_is 56 24 (zf_iload 24 2 25), z_is 56 25 (zf_iadd 25 26), z_is 56 26 (zf_cv 26 55 2 2 29), z_is 56 29 (zf_aload 29 0 30), z_is 56 30 (zf_getr 30 2 1 33), z_is 56 33 (zf_iload 33 1 34), z_is 56 34 (zf_cv 34 102 1 5 37), z_is 56 37 (zf_imul 37 38)] = true := by decide +kernel
    refine z_aload hB rfl (fun hB => ?_)
    refine z_iload hB rfl (fun hB => ?_)
    refine z_aload hB rfl (fun hB => ?_)
    refine y_getr (b := (s + 7)) ok hB hs (zla_r1 hs) (fun hB => ?_)
    refine y_geti ok hB (zla_k1 hs) (fun hB => ?_)
    refine z_iload hB rfl (fun hB => ?_)
    refine z_iadd hB (fun hB => ?_)
    obtain ⟨q6, e7, h⟩ := z_bind h
    refine y_cv ok hB (as := [.int (x1), .int (((I (s + 7) 0) + x2))]) (a := s) (rest := []) rfl rfl rfl hs (t_L_payForEach (I := I) ok hs e7) (fun hB => ?_)
    refine z_aload hB rfl (fun hB => ?_)
    refine y_getr (b := (s + 7)) ok hB hs (zla_r1 hs) (fun hB => ?_)
    refine z_iload hB rfl (fun hB => ?_)
    obtain ⟨q8, e9, h⟩ := z_bind h
    refine y_cv ok hB (as := [.int (x1)]) (a := (s + 7)) (rest := [.int (q6)]) rfl rfl rfl (zla_k1 hs) (t_S_flagsOf (I := I) ok (zla_k1 hs) e9) (fun hB => ?_)
    refine z_imul hB (fun hB => ?_)
    cases h
    exact z_weak k5 (z_sn (z_sn (z_sn z_s0)))
  · have h := z_neg hc h
    have hB : z_all [z_is 56 11 (zf_cst 11 (jn 0) 12), z_is 56 12 (zf_goto 12 38)] = true := by decide +kernel
    refine z_cst hB (fun hB => ?_)
    refine z_goto hB (fun hB => ?_)
    cases h
    exact z_weak k5 (z_sn (z_sn (z_sn z_s0)))
def d_L_lastPaidHour (s : Nat) (x1 : Int32) (I : z_H) : Option (Int32) := ((d_S_wasHandedOver (s + 7) (x1) I).bind fun q1 => (if q1 = jn 0 then ((d_S_flagsOf (s + 7) (x1) I).bind fun q3 => (if q3 = jn 0 then some ((jg 1)) else (if z_in (x1) 4 then (if jn 0 < (I ((s + 1) + 4) (z_n (x1))) then (if z_in (x1) 4 then (if z_in (x1) 4 then (if ¬ ((I ((s + 1) + 4) (z_n (x1)))) = jn 0 then (Option.bind (α := Int32) (if ((I ((s + 1) + 2) (z_n (x1))) + (((I ((s + 1) + 3) (z_n (x1))) - (jn 1)) / (I ((s + 1) + 4) (z_n (x1))))) < (I (s + 7) 0) then some ((jg 1)) else some (((I ((s + 1) + 2) (z_n (x1))) + (((I ((s + 1) + 3) (z_n (x1))) - (jn 1)) / (I ((s + 1) + 4) (z_n (x1))))))) fun q9 => some (q9)) else none) else none) else none) else some ((jn 999))) else none))) else some ((jg 1))))
/-- Laundry.lastPaidHour(I)I -/
theorem t_L_lastPaidHour {G : z_G} {w : ev_W} (ok : z_Ok G w) {s : Nat} {x1 : Int32} (hs : zt 2 s = true) {I : z_H} {r : Int32} (h : d_L_lastPaidHour s x1 I = some r) : z_K G 57 [.ref (s), .int (x1)] (z_w w I) (.inl (some (.int r))) (z_w w I) := by
  refine z_con ok.1 (ml := 4) (by decide +kernel) rfl rfl ?_
  show z_R G 57 0 [some (.ref (s)), some (.int (x1)), none, none] [] (z_w w I) (.inl (some (.int r))) (z_w w I)
  unfold d_L_lastPaidHour at h
  have hB : z_all [z_is 57 0 (zf_aload 0 0 1), z_is 57 1 (zf_getr 1 2 1 4), z_is 57 4 (zf_iload 4 1 5), z_is 57 5 (zf_cv 5 99 1 5 8), z_is 57 8 (zf_if1 .ne 8 22 11)] = true := by decide +kernel
  refine z_aload hB rfl (fun hB => ?_)
  refine y_getr (b := (s + 7)) ok hB hs (zla_r1 hs) (fun hB => ?_)
  refine z_iload hB rfl (fun hB => ?_)
  obtain ⟨q1, e2, h⟩ := z_bind h
  refine y_cv ok hB (as := [.int (x1)]) (a := (s + 7)) (rest := []) rfl rfl rfl (zla_k1 hs) (t_S_wasHandedOver (I := I) ok (zla_k1 hs) e2) (fun hB => ?_)
  refine z_if_ne hB (fun hc _ => ?_) (fun hc _ => ?_)
  · have h := z_neg hc h
    have hB : z_all [z_is 57 22 (zf_cst 22 (jg 1) 23), z_is 57 23 (zf_ret 0)] = true := by decide +kernel
    refine z_cst hB (fun hB => ?_)
    cases h
    exact z_reti hB
  · have h := z_pos hc h
    have hB : z_all [z_is 57 11 (zf_aload 11 0 12), z_is 57 12 (zf_getr 12 2 1 15), z_is 57 15 (zf_iload 15 1 16), z_is 57 16 (zf_cv 16 102 1 5 19), z_is 57 19 (zf_if1 .ne 19 24 22)] = true := by decide +kernel
    refine z_aload hB rfl (fun hB => ?_)
    refine y_getr (b := (s + 7)) ok hB hs (zla_r1 hs) (fun hB => ?_)
    refine z_iload hB rfl (fun hB => ?_)
    obtain ⟨q3, e4, h⟩ := z_bind h
    refine y_cv ok hB (as := [.int (x1)]) (a := (s + 7)) (rest := []) rfl rfl rfl (zla_k1 hs) (t_S_flagsOf (I := I) ok (zla_k1 hs) e4) (fun hB => ?_)
    refine z_if_ne hB (fun hc _ => ?_) (fun hc _ => ?_)
    · have h := z_neg hc h
      have hB : z_all [z_is 57 24 (zf_aload 24 0 25), z_is 57 25 (zf_getr 25 2 0 28), z_is 57 28 (zf_getr 28 4 7 31), z_is 57 31 (zf_iload 31 1 32), z_is 57 32 (zf_iald 32 33), z_is 57 33 (zf_istore 33 2 34), z_is 57 34 (zf_iload 34 2 35), z_is 57 35 (zf_if1 .gt 35 42 38)] = true := by decide +kernel
      refine z_aload hB rfl (fun hB => ?_)
      refine y_getr (b := (s + 1)) ok hB hs (zla_r0 hs) (fun hB => ?_)
      refine y_getr (b := ((s + 1) + 4)) ok hB (zla_k0 hs) (zsu_r7 (zla_k0 hs)) (fun hB => ?_)
      refine z_iload hB rfl (fun hB => ?_)
      obtain ⟨g5, h⟩ := z_gd h
      refine y_iald ok hB (zsu_k7 (zla_k0 hs)) (zsu_l7 (zla_k0 hs)) g5 (fun hB => ?_)
      refine z_istore hB rfl rfl (fun hB => ?_)
      refine z_iload hB rfl (fun hB => ?_)
      refine z_if_gt hB (fun hc _ => ?_) (fun hc _ => ?_)
      · have h := z_pos hc h
        have hB : z_all [z_is 57 42 (zf_aload 42 0 43), z_is 57 43 (zf_getr 43 2 0 46), z_is 57 46 (zf_getr 46 4 5 49), z_is 57 49 (zf_iload 49 1 50), z_is 57 50 (zf_iald 50 51), z_is 57 51 (zf_aload 51 0 52), z_is 57 52 (zf_getr 52 2 0 55), z_is 57 55 (zf_getr 55 4 6 58), z_is 57 58 (zf_iload 58 1 59), z_is 57 59 (zf_iald 59 60), z_is 57 60 (zf_cst 60 (jn 1) 61), z_is 57 61 (zf_isub 61 62), z_is 57 62 (zf_iload 62 2 63), z_is 57 63 (zf_idiv 63 64), z_is 57 64 (zf_iadd 64 65), z_is 57 65 (zf_istore 65 3 66), z_is 57 66 (zf_iload 66 3 67), z_is 57 67 (zf_aload 67 0 68), z_is 57 68 (zf_getr 68 2 1 71), z_is 57 71 (zf_geti 71 5 0 74), z_is 57 74 (zf_if2 .ge 74 81 77)] = true := by decide +kernel
        refine z_aload hB rfl (fun hB => ?_)
        refine y_getr (b := (s + 1)) ok hB hs (zla_r0 hs) (fun hB => ?_)
        refine y_getr (b := ((s + 1) + 2)) ok hB (zla_k0 hs) (zsu_r5 (zla_k0 hs)) (fun hB => ?_)
        refine z_iload hB rfl (fun hB => ?_)
        obtain ⟨g6, h⟩ := z_gd h
        refine y_iald ok hB (zsu_k5 (zla_k0 hs)) (zsu_l5 (zla_k0 hs)) g6 (fun hB => ?_)
        refine z_aload hB rfl (fun hB => ?_)
        refine y_getr (b := (s + 1)) ok hB hs (zla_r0 hs) (fun hB => ?_)
        refine y_getr (b := ((s + 1) + 3)) ok hB (zla_k0 hs) (zsu_r6 (zla_k0 hs)) (fun hB => ?_)
        refine z_iload hB rfl (fun hB => ?_)
        obtain ⟨g7, h⟩ := z_gd h
        refine y_iald ok hB (zsu_k6 (zla_k0 hs)) (zsu_l6 (zla_k0 hs)) g7 (fun hB => ?_)
        refine z_cst hB (fun hB => ?_)
        refine z_isub hB (fun hB => ?_)
        refine z_iload hB rfl (fun hB => ?_)
        obtain ⟨g8, h⟩ := z_gd h
        refine z_idiv hB g8 (fun hB => ?_)
        refine z_iadd hB (fun hB => ?_)
        refine z_istore hB rfl rfl (fun hB => ?_)
        refine z_iload hB rfl (fun hB => ?_)
        refine z_aload hB rfl (fun hB => ?_)
        refine y_getr (b := (s + 7)) ok hB hs (zla_r1 hs) (fun hB => ?_)
        refine y_geti ok hB (zla_k1 hs) (fun hB => ?_)
        obtain ⟨q9, e10, h⟩ := z_bind h
        have k11 : z_R G 57 82 [none, none, none, none] [.int (q9)] (z_w w I) (.inl (some (.int r))) (z_w w I) := by
          have hB : z_all [z_is 57 82 (zf_ret 0)] = true := by decide +kernel
          cases h
          exact z_reti hB
        have h := e10
        refine z_ic_ge hB (fun hc _ => ?_) (fun hc _ => ?_)
        · have h := z_neg hc h
          have hB : z_all [z_is 57 81 (zf_iload 81 3 82)] = true := by decide +kernel
          refine z_iload hB rfl (fun hB => ?_)
          cases h
          exact z_weak k11 (z_sn (z_sn (z_sn (z_sn z_s0))))
        · have h := z_pos hc h
          have hB : z_all [z_is 57 77 (zf_cst 77 (jg 1) 78), z_is 57 78 (zf_goto 78 82)] = true := by decide +kernel
          refine z_cst hB (fun hB => ?_)
          refine z_goto hB (fun hB => ?_)
          cases h
          exact z_weak k11 (z_sn (z_sn (z_sn (z_sn z_s0))))
      · have h := z_neg hc h
        have hB : z_all [z_is 57 38 (zf_cst 38 (jn 999) 41), z_is 57 41 (zf_ret 0)] = true := by decide +kernel
        refine z_cst hB (fun hB => ?_)
        cases h
        exact z_reti hB
    · have h := z_pos hc h
      have hB : z_all [z_is 57 22 (zf_cst 22 (jg 1) 23), z_is 57 23 (zf_ret 0)] = true := by decide +kernel
      refine z_cst hB (fun hB => ?_)
      cases h
      exact z_reti hB
def d_L_nationLosingMost_2 (s : Nat) (I : z_H) (p1 : Int32 × Int32 × Int32) : Option ((Int32 × Int32 × Int32) ⊕ (Int32 × Int32 × Int32)) := (if p1.2.2 < (I (s + 1) 2) then ((d_L_payAhead s (p1.2.2) ((jn 0)) I).bind fun q6 => ((d_L_payAhead s (p1.2.2) ((jn 1)) I).bind fun q8 => (Option.bind (α := Int32 × Int32) (if p1.2.1 < (q6 - q8) then some (p1.2.2, (q6 - q8)) else some (p1.1, p1.2.1)) fun q10 => some (Sum.inl (q10.1, q10.2, (p1.2.2 + (jn 1))))))) else some (Sum.inr (p1.1, p1.2.1, p1.2.2)))
def d_L_nationLosingMost (s : Nat) (I : z_H) : Option (Int32) := ((z_it (d_L_nationLosingMost_2 s I) z_F ((jg 1), (jn 0), (jn 0))).bind fun q3 => some (q3.1))
/-- Laundry.nationLosingMost()I -/
theorem t_L_nationLosingMost {G : z_G} {w : ev_W} (ok : z_Ok G w) {s : Nat} (hs : zt 2 s = true) {I : z_H} {r : Int32} (h : d_L_nationLosingMost s I = some r) : z_K G 58 [.ref (s)] (z_w w I) (.inl (some (.int r))) (z_w w I) := by
  refine z_con ok.1 (ml := 5) (by decide +kernel) rfl rfl ?_
  show z_R G 58 0 [some (.ref (s)), none, none, none, none] [] (z_w w I) (.inl (some (.int r))) (z_w w I)
  unfold d_L_nationLosingMost at h
  have hB : z_all [z_is 58 0 (zf_cst 0 (jg 1) 1), z_is 58 1 (zf_istore 1 1 2), z_is 58 2 (zf_cst 2 (jn 0) 3), z_is 58 3 (zf_istore 3 2 4), z_is 58 4 (zf_cst 4 (jn 0) 5), z_is 58 5 (zf_istore 5 3 6)] = true := by decide +kernel
  refine z_cst hB (fun hB => ?_)
  refine z_istore hB rfl rfl (fun hB => ?_)
  refine z_cst hB (fun hB => ?_)
  refine z_istore hB rfl rfl (fun hB => ?_)
  refine z_cst hB (fun hB => ?_)
  refine z_istore hB rfl rfl (fun hB => ?_)
  obtain ⟨q3, e4, h⟩ := z_bind h
  have k5 : z_R G 58 49 [none, some (.int (q3.1)), none, none, none] [] (z_w w I) (.inl (some (.int r))) (z_w w I) := by
    have hB : z_all [z_is 58 49 (zf_iload 49 1 50), z_is 58 50 (zf_ret 0)] = true := by decide +kernel
    refine z_iload hB rfl (fun hB => ?_)
    cases h
    exact z_reti hB
  have l2 : ∀ (m2 : Nat) (p1 : Int32 × Int32 × Int32), z_it (d_L_nationLosingMost_2 s I) m2 p1 = some q3 → z_R G 58 6 [some (.ref (s)), some (.int (p1.1)), some (.int (p1.2.1)), some (.int (p1.2.2)), none] [] (z_w w I) (.inl (some (.int r))) (z_w w I) := by
    intro m2
    induction m2 with
    | zero => intro p1 h; cases h
    | succ m2 i2 =>
      intro p1 h
      obtain ⟨u2, h, b2⟩ := z_it_o h
      unfold d_L_nationLosingMost_2 at h
      have hB : z_all [z_is 58 6 (zf_iload 6 3 7), z_is 58 7 (zf_aload 7 0 8), z_is 58 8 (zf_getr 8 2 0 11), z_is 58 11 (zf_geti 11 4 2 14), z_is 58 14 (zf_if2 .ge 14 49 17)] = true := by decide +kernel
      refine z_iload hB rfl (fun hB => ?_)
      refine z_aload hB rfl (fun hB => ?_)
      refine y_getr (b := (s + 1)) ok hB hs (zla_r0 hs) (fun hB => ?_)
      refine y_geti ok hB (zla_k0 hs) (fun hB => ?_)
      refine z_ic_ge hB (fun hc _ => ?_) (fun hc _ => ?_)
      · have h := z_neg hc h
        cases h
        cases b2
        exact z_weak k5 (z_sn (z_se (z_sn (z_sn (z_sn z_s0)))))
      · have h := z_pos hc h
        have hB : z_all [z_is 58 17 (zf_aload 17 0 18), z_is 58 18 (zf_iload 18 3 19), z_is 58 19 (zf_cst 19 (jn 0) 20), z_is 58 20 (zf_cv 20 56 2 2 23), z_is 58 23 (zf_aload 23 0 24), z_is 58 24 (zf_iload 24 3 25), z_is 58 25 (zf_cst 25 (jn 1) 26), z_is 58 26 (zf_cv 26 56 2 2 29), z_is 58 29 (zf_isub 29 30), z_is 58 30 (zf_istore 30 4 32), z_is 58 32 (zf_iload 32 4 34), z_is 58 34 (zf_iload 34 2 35), z_is 58 35 (zf_if2 .le 35 43 38)] = true := by decide +kernel
        refine z_aload hB rfl (fun hB => ?_)
        refine z_iload hB rfl (fun hB => ?_)
        refine z_cst hB (fun hB => ?_)
        obtain ⟨q6, e7, h⟩ := z_bind h
        refine y_cv ok hB (as := [.int (p1.2.2), .int ((jn 0))]) (a := s) (rest := []) rfl rfl rfl hs (t_L_payAhead (I := I) ok hs e7) (fun hB => ?_)
        refine z_aload hB rfl (fun hB => ?_)
        refine z_iload hB rfl (fun hB => ?_)
        refine z_cst hB (fun hB => ?_)
        obtain ⟨q8, e9, h⟩ := z_bind h
        refine y_cv ok hB (as := [.int (p1.2.2), .int ((jn 1))]) (a := s) (rest := [.int (q6)]) rfl rfl rfl hs (t_L_payAhead (I := I) ok hs e9) (fun hB => ?_)
        refine z_isub hB (fun hB => ?_)
        refine z_istore hB rfl rfl (fun hB => ?_)
        refine z_iload hB rfl (fun hB => ?_)
        refine z_iload hB rfl (fun hB => ?_)
        obtain ⟨q10, e11, h⟩ := z_bind h
        have k12 : z_R G 58 43 [some (.ref (s)), some (.int (q10.1)), some (.int (q10.2)), some (.int (p1.2.2)), none] [] (z_w w I) (.inl (some (.int r))) (z_w w I) := by
          have hB : z_all [z_is 58 43 (zf_iinc 43 3 (jn 1) 46), z_is 58 46 (zf_goto 46 6)] = true := by decide +kernel
          refine z_iinc hB rfl rfl (fun hB => ?_)
          refine z_goto hB (fun hB => ?_)
          cases h
          exact z_weak (i2 (q10.1, q10.2, (p1.2.2 + (jn 1))) b2) (z_se (z_se (z_se (z_se (z_sn z_s0)))))
        have h := e11
        refine z_ic_le hB (fun hc _ => ?_) (fun hc _ => ?_)
        · have h := z_neg hc h
          cases h
          exact z_weak k12 (z_se (z_se (z_se (z_se (z_sn z_s0)))))
        · have h := z_pos hc h
          have hB : z_all [z_is 58 38 (zf_iload 38 3 39), z_is 58 39 (zf_istore 39 1 40), z_is 58 40 (zf_iload 40 4 42), z_is 58 42 (zf_istore 42 2 43)] = true := by decide +kernel
          refine z_iload hB rfl (fun hB => ?_)
          refine z_istore hB rfl rfl (fun hB => ?_)
          refine z_iload hB rfl (fun hB => ?_)
          refine z_istore hB rfl rfl (fun hB => ?_)
          cases h
          exact z_weak k12 (z_se (z_se (z_se (z_se (z_sn z_s0)))))
  exact z_weak (l2 _ ((jg 1), (jn 0), (jn 0)) e4) (z_se (z_se (z_se (z_se (z_sn z_s0)))))
def d_L_canHandOver (s : Nat) (x1 : Int32) (I : z_H) : Option (Int32) := ((d_S_flagsOf (s + 7) (x1) I).bind fun q1 => (Option.bind (α := Int32) (if jn 0 < q1 then ((d_S_wasHandedOver (s + 7) (x1) I).bind fun q7 => (if q7 = jn 0 then ((d_S_firstNotReady (s + 7) (x1) I).bind fun q9 => (if q9 = (jg 1) then some ((jn 1)) else some ((jn 0)))) else some ((jn 0)))) else some ((jn 0))) fun q3 => (if (q3) = jn 0 ∨ (q3) = jn 1 then some (q3) else none)))
/-- Laundry.canHandOver(I)Z -/
theorem t_L_canHandOver {G : z_G} {w : ev_W} (ok : z_Ok G w) {s : Nat} {x1 : Int32} (hs : zt 2 s = true) {I : z_H} {r : Int32} (h : d_L_canHandOver s x1 I = some r) : z_K G 59 [.ref (s), .int (x1)] (z_w w I) (.inl (some (.int r))) (z_w w I) := by
  refine z_con ok.1 (ml := 2) (by decide +kernel) rfl rfl ?_
  show z_R G 59 0 [some (.ref (s)), some (.int (x1))] [] (z_w w I) (.inl (some (.int r))) (z_w w I)
  unfold d_L_canHandOver at h
  have hB : z_all [z_is 59 0 (zf_aload 0 0 1), z_is 59 1 (zf_getr 1 2 1 4), z_is 59 4 (zf_iload 4 1 5), z_is 59 5 (zf_cv 5 102 1 5 8), z_is 59 8 (zf_if1 .le 8 38 11)] = true := by decide +kernel
  refine z_aload hB rfl (fun hB => ?_)
  refine y_getr (b := (s + 7)) ok hB hs (zla_r1 hs) (fun hB => ?_)
  refine z_iload hB rfl (fun hB => ?_)
  obtain ⟨q1, e2, h⟩ := z_bind h
  refine y_cv ok hB (as := [.int (x1)]) (a := (s + 7)) (rest := []) rfl rfl rfl (zla_k1 hs) (t_S_flagsOf (I := I) ok (zla_k1 hs) e2) (fun hB => ?_)
  obtain ⟨q3, e4, h⟩ := z_bind h
  have k5 : z_R G 59 39 [none, none] [.int (q3)] (z_w w I) (.inl (some (.int r))) (z_w w I) := by
    have hB : z_all [z_is 59 39 (zf_ret 1)] = true := by decide +kernel
    obtain ⟨g6, h⟩ := z_gd h
    cases h
    exact z_retz hB g6
  have h := e4
  refine z_if_le hB (fun hc _ => ?_) (fun hc _ => ?_)
  · have h := z_neg hc h
    have hB : z_all [z_is 59 38 (zf_cst 38 (jn 0) 39)] = true := by decide +kernel
    refine z_cst hB (fun hB => ?_)
    cases h
    exact z_weak k5 (z_sn (z_sn z_s0))
  · have h := z_pos hc h
    have hB : z_all [z_is 59 11 (zf_aload 11 0 12), z_is 59 12 (zf_getr 12 2 1 15), z_is 59 15 (zf_iload 15 1 16), z_is 59 16 (zf_cv 16 99 1 5 19), z_is 59 19 (zf_if1 .ne 19 38 22)] = true := by decide +kernel
    refine z_aload hB rfl (fun hB => ?_)
    refine y_getr (b := (s + 7)) ok hB hs (zla_r1 hs) (fun hB => ?_)
    refine z_iload hB rfl (fun hB => ?_)
    obtain ⟨q7, e8, h⟩ := z_bind h
    refine y_cv ok hB (as := [.int (x1)]) (a := (s + 7)) (rest := []) rfl rfl rfl (zla_k1 hs) (t_S_wasHandedOver (I := I) ok (zla_k1 hs) e8) (fun hB => ?_)
    refine z_if_ne hB (fun hc _ => ?_) (fun hc _ => ?_)
    · have h := z_neg hc h
      have hB : z_all [z_is 59 38 (zf_cst 38 (jn 0) 39)] = true := by decide +kernel
      refine z_cst hB (fun hB => ?_)
      cases h
      exact z_weak k5 (z_sn (z_sn z_s0))
    · have h := z_pos hc h
      have hB : z_all [z_is 59 22 (zf_aload 22 0 23), z_is 59 23 (zf_getr 23 2 1 26), z_is 59 26 (zf_iload 26 1 27), z_is 59 27 (zf_cv 27 104 1 5 30), z_is 59 30 (zf_cst 30 (jg 1) 31), z_is 59 31 (zf_if2 .ne 31 38 34)] = true := by decide +kernel
      refine z_aload hB rfl (fun hB => ?_)
      refine y_getr (b := (s + 7)) ok hB hs (zla_r1 hs) (fun hB => ?_)
      refine z_iload hB rfl (fun hB => ?_)
      obtain ⟨q9, e10, h⟩ := z_bind h
      refine y_cv ok hB (as := [.int (x1)]) (a := (s + 7)) (rest := []) rfl rfl rfl (zla_k1 hs) (t_S_firstNotReady (I := I) ok (zla_k1 hs) e10) (fun hB => ?_)
      refine z_cst hB (fun hB => ?_)
      refine z_ic_ne hB (fun hc _ => ?_) (fun hc _ => ?_)
      · have h := z_neg hc h
        have hB : z_all [z_is 59 38 (zf_cst 38 (jn 0) 39)] = true := by decide +kernel
        refine z_cst hB (fun hB => ?_)
        cases h
        exact z_weak k5 (z_sn (z_sn z_s0))
      · have h := z_pos hc h
        have hB : z_all [z_is 59 34 (zf_cst 34 (jn 1) 35), z_is 59 35 (zf_goto 35 39)] = true := by decide +kernel
        refine z_cst hB (fun hB => ?_)
        refine z_goto hB (fun hB => ?_)
        cases h
        exact z_weak k5 (z_sn (z_sn z_s0))
def d_L_handOverAll_12 (s : Nat) (x1 : Int32) (p11 : Int32 × z_H) : Option ((Int32 × z_H) ⊕ (Int32 × z_H)) := (if p11.1 < (p11.2 (s + 7) 6) then (if z_in (p11.1) 12 then (Option.bind (α := z_H) (if (p11.2 ((s + 7) + 2 + z_n (p11.1)) 0) = x1 then (if z_in (p11.1) 12 then ((d_G_moveTo ((s + 7) + 2 + z_n (p11.1)) ((jn 3)) ((jg 1)) p11.2).bind fun q21 => some (q21)) else none) else some (p11.2)) fun q17 => some (Sum.inl ((p11.1 + (jn 1)), q17))) else none) else some (Sum.inr (p11.1, p11.2)))
def d_L_handOverAll (s : Nat) (x1 : Int32) (I : z_H) : Option (Int32 × z_H) := ((d_L_payAhead s (x1) ((jn 0)) I).bind fun q1 => (if z_in (x1) 4 then ((d_S_flagsOf (s + 7) (x1) (ev_u2 I (s + 7) 2 ((I (s + 7) 2) + q1))).bind fun q4 => (Option.bind (α := z_H) (some (ev_u2 (ev_u2 I (s + 7) 2 ((I (s + 7) 2) + q1)) (s + 7) 3 (((ev_u2 I (s + 7) 2 ((I (s + 7) 2) + q1)) (s + 7) 3) + ((((ev_u2 I (s + 7) 2 ((I (s + 7) 2) + q1)) ((s + 1) + 3) (z_n (x1))) * q4) - q1)))) fun J6 => ((d_L_lateAt s (x1) ((J6 (s + 7) 0)) J6).bind fun q8 => (if z_in (x1) 4 then ((z_it (d_L_handOverAll_12 s x1) z_F ((jn 0), (ev_u2 J6 ((s + 7) + 17) (z_n (x1)) q8))).bind fun q13 => some ((q1, q13.2))) else none)))) else none))
/-- Laundry.handOverAll(I)I -/
theorem t_L_handOverAll {G : z_G} {w : ev_W} (ok : z_Ok G w) {s : Nat} {x1 : Int32} (hs : zt 2 s = true) {I : z_H} {r : Int32 × z_H} (h : d_L_handOverAll s x1 I = some r) : z_K G 60 [.ref (s), .int (x1)] (z_w w I) (.inl (some (.int r.1))) (z_w w r.2) := by
  refine z_con ok.1 (ml := 4) (by decide +kernel) rfl rfl ?_
  show z_R G 60 0 [some (.ref (s)), some (.int (x1)), none, none] [] (z_w w I) (.inl (some (.int r.1))) (z_w w r.2)
  unfold d_L_handOverAll at h
  have hB : z_all [z_is 60 0 (zf_aload 0 0 1), z_is 60 1 (zf_iload 1 1 2), z_is 60 2 (zf_cst 2 (jn 0) 3), z_is 60 3 (zf_cv 3 56 2 2 6), z_is 60 6 (zf_istore 6 2 7), z_is 60 7 (zf_aload 7 0 8), z_is 60 8 (zf_getr 8 2 1 11), z_is 60 11 (zf_dupr 11 12), z_is 60 12 (zf_geti 12 5 2 15), z_is 60 15 (zf_iload 15 2 16), z_is 60 16 (zf_iadd 16 17), z_is 60 17 (zf_puti 17 5 2 20), z_is 60 20 (zf_aload 20 0 21), z_is 60 21 (zf_getr 21 2 1 24), z_is 60 24 (zf_dupr 24 25), z_is 60 25 (zf_geti 25 5 3 28), z_is 60 28 (zf_aload 28 0 29), z_is 60 29 (zf_getr 29 2 0 32), z_is 60 32 (zf_getr 32 4 6 35), z_is 60 35 (zf_iload 35 1 36), z_is 60 36 (zf_iald 36 37), z_is 60 37 (zf_aload 37 0 38), z_is 60 38 (zf_getr 38 2 1 41), z_is 60 41 (zf_iload 41 1 42), z_is 60 42 (zf_cv 42 102 1 5 45), z_is 60 45 (zf_imul 45 46), z_is 60 46 (zf_iload 46 2 47), z_is 60 47 (zf_isub 47 48), z_is 60 48 (zf_iadd 48 49), z_is 60 49 (zf_puti 49 5 3 52), z_is 60 52 (zf_aload 52 0 53), z_is 60 53 (zf_getr 53 2 1 56), z_is 60 56 (zf_getr 56 5 11 59), z_is 60 59 (zf_iload 59 1 60), z_is 60 60 (zf_aload 60 0 61), z_is 60 61 (zf_iload 61 1 62), z_is 60 62 (zf_aload 62 0 63), z_is 60 63 (zf_getr 63 2 1 66), z_is 60 66 (zf_geti 66 5 0 69), z_is 60 69 (zf_cv 69 53 2 2 72), z_is 60 72 (zf_iast 72 73), z_is 60 73 (zf_cst 73 (jn 0) 74), z_is 60 74 (zf_istore 74 3 75)] = true := by decide +kernel
  refine z_aload hB rfl (fun hB => ?_)
  refine z_iload hB rfl (fun hB => ?_)
  refine z_cst hB (fun hB => ?_)
  obtain ⟨q1, e2, h⟩ := z_bind h
  refine y_cv ok hB (as := [.int (x1), .int ((jn 0))]) (a := s) (rest := []) rfl rfl rfl hs (t_L_payAhead (I := I) ok hs e2) (fun hB => ?_)
  refine z_istore hB rfl rfl (fun hB => ?_)
  refine z_aload hB rfl (fun hB => ?_)
  refine y_getr (b := (s + 7)) ok hB hs (zla_r1 hs) (fun hB => ?_)
  refine z_dupr hB (fun hB => ?_)
  refine y_geti ok hB (zla_k1 hs) (fun hB => ?_)
  refine z_iload hB rfl (fun hB => ?_)
  refine z_iadd hB (fun hB => ?_)
  refine y_puti ok hB (zla_k1 hs) (fun hB => ?_)
  refine z_aload hB rfl (fun hB => ?_)
  refine y_getr (b := (s + 7)) ok hB hs (zla_r1 hs) (fun hB => ?_)
  refine z_dupr hB (fun hB => ?_)
  refine y_geti ok hB (zla_k1 hs) (fun hB => ?_)
  refine z_aload hB rfl (fun hB => ?_)
  refine y_getr (b := (s + 1)) ok hB hs (zla_r0 hs) (fun hB => ?_)
  refine y_getr (b := ((s + 1) + 3)) ok hB (zla_k0 hs) (zsu_r6 (zla_k0 hs)) (fun hB => ?_)
  refine z_iload hB rfl (fun hB => ?_)
  obtain ⟨g3, h⟩ := z_gd h
  refine y_iald ok hB (zsu_k6 (zla_k0 hs)) (zsu_l6 (zla_k0 hs)) g3 (fun hB => ?_)
  refine z_aload hB rfl (fun hB => ?_)
  refine y_getr (b := (s + 7)) ok hB hs (zla_r1 hs) (fun hB => ?_)
  refine z_iload hB rfl (fun hB => ?_)
  obtain ⟨q4, e5, h⟩ := z_bind h
  refine y_cv ok hB (as := [.int (x1)]) (a := (s + 7)) (rest := [.int (((ev_u2 I (s + 7) 2 ((I (s + 7) 2) + q1)) ((s + 1) + 3) (z_n (x1)))), .int (((ev_u2 I (s + 7) 2 ((I (s + 7) 2) + q1)) (s + 7) 3)), .ref ((s + 7))]) rfl rfl rfl (zla_k1 hs) (t_S_flagsOf (I := (ev_u2 I (s + 7) 2 ((I (s + 7) 2) + q1))) ok (zla_k1 hs) e5) (fun hB => ?_)
  refine z_imul hB (fun hB => ?_)
  refine z_iload hB rfl (fun hB => ?_)
  refine z_isub hB (fun hB => ?_)
  refine z_iadd hB (fun hB => ?_)
  refine y_puti ok hB (zla_k1 hs) (fun hB => ?_)
  obtain ⟨J6, e7, h⟩ := z_bind h
  rw [z_inj e7]
  refine z_aload hB rfl (fun hB => ?_)
  refine y_getr (b := (s + 7)) ok hB hs (zla_r1 hs) (fun hB => ?_)
  refine y_getr (b := ((s + 7) + 17)) ok hB (zla_k1 hs) (zst_r11 (zla_k1 hs)) (fun hB => ?_)
  refine z_iload hB rfl (fun hB => ?_)
  refine z_aload hB rfl (fun hB => ?_)
  refine z_iload hB rfl (fun hB => ?_)
  refine z_aload hB rfl (fun hB => ?_)
  refine y_getr (b := (s + 7)) ok hB hs (zla_r1 hs) (fun hB => ?_)
  refine y_geti ok hB (zla_k1 hs) (fun hB => ?_)
  obtain ⟨q8, e9, h⟩ := z_bind h
  refine y_cv ok hB (as := [.int (x1), .int ((J6 (s + 7) 0))]) (a := s) (rest := [.int (x1), .ref (((s + 7) + 17))]) rfl rfl rfl hs (t_L_lateAt (I := J6) ok hs e9) (fun hB => ?_)
  obtain ⟨g10, h⟩ := z_gd h
  refine y_iast ok hB (zst_k17 (zla_k1 hs)) (zst_l17 (zla_k1 hs)) g10 (fun hB => ?_)
  refine z_cst hB (fun hB => ?_)
  refine z_istore hB rfl rfl (fun hB => ?_)
  obtain ⟨q13, e14, h⟩ := z_bind h
  have k15 : z_R G 60 122 [none, none, some (.int (q1)), none] [] (z_w w q13.2) (.inl (some (.int r.1))) (z_w w r.2) := by
    have hB : z_all [z_is 60 122 (zf_iload 122 2 123), z_is 60 123 (zf_ret 0)] = true := by decide +kernel
    refine z_iload hB rfl (fun hB => ?_)
    cases h
    exact z_reti hB
  have l12 : ∀ (m12 : Nat) (p11 : Int32 × z_H), z_it (d_L_handOverAll_12 s x1) m12 p11 = some q13 → z_R G 60 75 [some (.ref (s)), some (.int (x1)), some (.int (q1)), some (.int (p11.1))] [] (z_w w p11.2) (.inl (some (.int r.1))) (z_w w r.2) := by
    intro m12
    induction m12 with
    | zero => intro p11 h; cases h
    | succ m12 i12 =>
      intro p11 h
      obtain ⟨u12, h, b12⟩ := z_it_o h
      unfold d_L_handOverAll_12 at h
      have hB : z_all [z_is 60 75 (zf_iload 75 3 76), z_is 60 76 (zf_aload 76 0 77), z_is 60 77 (zf_getr 77 2 1 80), z_is 60 80 (zf_geti 80 5 6 83), z_is 60 83 (zf_if2 .ge 83 122 86)] = true := by decide +kernel
      refine z_iload hB rfl (fun hB => ?_)
      refine z_aload hB rfl (fun hB => ?_)
      refine y_getr (b := (s + 7)) ok hB hs (zla_r1 hs) (fun hB => ?_)
      refine y_geti ok hB (zla_k1 hs) (fun hB => ?_)
      refine z_ic_ge hB (fun hc _ => ?_) (fun hc _ => ?_)
      · have h := z_neg hc h
        cases h
        cases b12
        exact z_weak k15 (z_sn (z_sn (z_se (z_sn z_s0))))
      · have h := z_pos hc h
        have hB : z_all [z_is 60 86 (zf_aload 86 0 87), z_is 60 87 (zf_getr 87 2 1 90), z_is 60 90 (zf_getr 90 5 7 93), z_is 60 93 (zf_iload 93 3 94), z_is 60 94 (zf_aald 94 95), z_is 60 95 (zf_geti 95 0 0 98), z_is 60 98 (zf_iload 98 1 99), z_is 60 99 (zf_if2 .ne 99 116 102)] = true := by decide +kernel
        refine z_aload hB rfl (fun hB => ?_)
        refine y_getr (b := (s + 7)) ok hB hs (zla_r1 hs) (fun hB => ?_)
        refine y_getr (b := ((s + 7) + 1)) ok hB (zla_k1 hs) (zst_r7 (zla_k1 hs)) (fun hB => ?_)
        refine z_iload hB rfl (fun hB => ?_)
        obtain ⟨g16, h⟩ := z_gd h
        refine y_fald ok hB (zst_k1 (zla_k1 hs)) (zst_l1 (zla_k1 hs)) g16 (zst_fR (zla_k1 hs) g16) (fun hB => ?_)
        refine y_geti ok hB (zst_fK (zla_k1 hs) g16) (fun hB => ?_)
        refine z_iload hB rfl (fun hB => ?_)
        obtain ⟨q17, e18, h⟩ := z_bind h
        have k19 : z_R G 60 116 [some (.ref (s)), some (.int (x1)), some (.int (q1)), some (.int (p11.1))] [] (z_w w q17) (.inl (some (.int r.1))) (z_w w r.2) := by
          have hB : z_all [z_is 60 116 (zf_iinc 116 3 (jn 1) 119), z_is 60 119 (zf_goto 119 75)] = true := by decide +kernel
          refine z_iinc hB rfl rfl (fun hB => ?_)
          refine z_goto hB (fun hB => ?_)
          cases h
          exact z_weak (i12 ((p11.1 + (jn 1)), q17) b12) (z_se (z_se (z_se (z_se z_s0))))
        have h := e18
        refine z_ic_ne hB (fun hc _ => ?_) (fun hc _ => ?_)
        · have h := z_neg hc h
          cases h
          exact z_weak k19 (z_se (z_se (z_se (z_se z_s0))))
        · have h := z_pos hc h
          have hB : z_all [z_is 60 102 (zf_aload 102 0 103), z_is 60 103 (zf_getr 103 2 1 106), z_is 60 106 (zf_getr 106 5 7 109), z_is 60 109 (zf_iload 109 3 110), z_is 60 110 (zf_aald 110 111), z_is 60 111 (zf_cst 111 (jn 3) 112), z_is 60 112 (zf_cst 112 (jg 1) 113), z_is 60 113 (zf_cv 113 3 2 0 116)] = true := by decide +kernel
          refine z_aload hB rfl (fun hB => ?_)
          refine y_getr (b := (s + 7)) ok hB hs (zla_r1 hs) (fun hB => ?_)
          refine y_getr (b := ((s + 7) + 1)) ok hB (zla_k1 hs) (zst_r7 (zla_k1 hs)) (fun hB => ?_)
          refine z_iload hB rfl (fun hB => ?_)
          obtain ⟨g20, h⟩ := z_gd h
          refine y_fald ok hB (zst_k1 (zla_k1 hs)) (zst_l1 (zla_k1 hs)) g20 (zst_fR (zla_k1 hs) g20) (fun hB => ?_)
          refine z_cst hB (fun hB => ?_)
          refine z_cst hB (fun hB => ?_)
          obtain ⟨q21, e22, h⟩ := z_bind h
          refine y_cv ok hB (as := [.int ((jn 3)), .int ((jg 1))]) (a := ((s + 7) + 2 + z_n (p11.1))) (rest := []) rfl rfl rfl (zst_fK (zla_k1 hs) g20) (t_G_moveTo (I := p11.2) ok (zst_fK (zla_k1 hs) g20) e22) (fun hB => ?_)
          cases h
          exact z_weak k19 (z_se (z_se (z_se (z_se z_s0))))
  exact z_weak (l12 _ ((jn 0), (ev_u2 J6 ((s + 7) + 17) (z_n (x1)) q8)) e14) (z_se (z_se (z_se (z_se z_s0))))
def d_L_sumsThatDiffer_10 (s : Nat) (I : z_H) (p9 : Int32 × Int32 × Int32) : Option ((Int32 × Int32 × Int32) ⊕ (Int32 × Int32 × Int32)) := (if p9.2.2 < (I (s + 7) 6) then (if z_in (p9.2.2) 12 then (Option.bind (α := Int32) (if (I ((s + 7) + 2 + z_n (p9.2.2)) 8) = (jn 3) then (if z_in ((I ((s + 7) + 2 + z_n (p9.2.2)) 0)) 4 then some ((I ((s + 1) + 3) (z_n ((I ((s + 7) + 2 + z_n (p9.2.2)) 0))))) else none) else some ((jn 0))) fun q15 => (Option.bind (α := Int32) (if ((I ((s + 7) + 2 + z_n (p9.2.2)) 6) &&& (I ((s + 7) + 2 + z_n (p9.2.2)) 1)) = jn 0 then some ((jn 0)) else some ((jn 1))) fun q18 => some (Sum.inl ((p9.1 + q15), (p9.2.1 + q18), (p9.2.2 + (jn 1)))))) else none) else some (Sum.inr (p9.1, p9.2.1, p9.2.2)))
def d_L_sumsThatDiffer (s : Nat) (I : z_H) : Option (Int32) := ((d_S_flagsAt (s + 7) ((jn 0)) I).bind fun q1 => ((d_S_flagsAt (s + 7) ((jn 1)) I).bind fun q3 => ((d_S_flagsAt (s + 7) ((jn 2)) I).bind fun q5 => ((d_S_flagsAt (s + 7) ((jn 3)) I).bind fun q7 => ((z_it (d_L_sumsThatDiffer_10 s I) z_F ((jn 0), (jn 0), (jn 0))).bind fun q11 => some ((((z_ab (((I (s + 7) 6) - (((q1 + q3) + q5) + q7)))) + (z_ab ((((I (s + 7) 2) + (I (s + 7) 3)) - q11.1)))) + q11.2.1)))))))
/-- Laundry.sumsThatDiffer()I -/
theorem t_L_sumsThatDiffer {G : z_G} {w : ev_W} (ok : z_Ok G w) {s : Nat} (hs : zt 2 s = true) {I : z_H} {r : Int32} (h : d_L_sumsThatDiffer s I = some r) : z_K G 61 [.ref (s)] (z_w w I) (.inl (some (.int r))) (z_w w I) := by
  refine z_con ok.1 (ml := 6) (by decide +kernel) rfl rfl ?_
  show z_R G 61 0 [some (.ref (s)), none, none, none, none, none] [] (z_w w I) (.inl (some (.int r))) (z_w w I)
  unfold d_L_sumsThatDiffer at h
  have hB : z_all [z_is 61 0 (zf_aload 0 0 1), z_is 61 1 (zf_getr 1 2 1 4), z_is 61 4 (zf_cst 4 (jn 0) 5), z_is 61 5 (zf_cv 5 100 1 5 8), z_is 61 8 (zf_aload 8 0 9), z_is 61 9 (zf_getr 9 2 1 12), z_is 61 12 (zf_cst 12 (jn 1) 13), z_is 61 13 (zf_cv 13 100 1 5 16), z_is 61 16 (zf_iadd 16 17), z_is 61 17 (zf_aload 17 0 18), z_is 61 18 (zf_getr 18 2 1 21), z_is 61 21 (zf_cst 21 (jn 2) 22), z_is 61 22 (zf_cv 22 100 1 5 25), z_is 61 25 (zf_iadd 25 26), z_is 61 26 (zf_aload 26 0 27), z_is 61 27 (zf_getr 27 2 1 30), z_is 61 30 (zf_cst 30 (jn 3) 31), z_is 61 31 (zf_cv 31 100 1 5 34), z_is 61 34 (zf_iadd 34 35), z_is 61 35 (zf_istore 35 1 36), z_is 61 36 (zf_cst 36 (jn 0) 37), z_is 61 37 (zf_istore 37 2 38), z_is 61 38 (zf_cst 38 (jn 0) 39), z_is 61 39 (zf_istore 39 3 40), z_is 61 40 (zf_cst 40 (jn 0) 41), z_is 61 41 (zf_istore 41 4 43)] = true := by decide +kernel
  refine z_aload hB rfl (fun hB => ?_)
  refine y_getr (b := (s + 7)) ok hB hs (zla_r1 hs) (fun hB => ?_)
  refine z_cst hB (fun hB => ?_)
  obtain ⟨q1, e2, h⟩ := z_bind h
  refine y_cv ok hB (as := [.int ((jn 0))]) (a := (s + 7)) (rest := []) rfl rfl rfl (zla_k1 hs) (t_S_flagsAt (I := I) ok (zla_k1 hs) e2) (fun hB => ?_)
  refine z_aload hB rfl (fun hB => ?_)
  refine y_getr (b := (s + 7)) ok hB hs (zla_r1 hs) (fun hB => ?_)
  refine z_cst hB (fun hB => ?_)
  obtain ⟨q3, e4, h⟩ := z_bind h
  refine y_cv ok hB (as := [.int ((jn 1))]) (a := (s + 7)) (rest := [.int (q1)]) rfl rfl rfl (zla_k1 hs) (t_S_flagsAt (I := I) ok (zla_k1 hs) e4) (fun hB => ?_)
  refine z_iadd hB (fun hB => ?_)
  refine z_aload hB rfl (fun hB => ?_)
  refine y_getr (b := (s + 7)) ok hB hs (zla_r1 hs) (fun hB => ?_)
  refine z_cst hB (fun hB => ?_)
  obtain ⟨q5, e6, h⟩ := z_bind h
  refine y_cv ok hB (as := [.int ((jn 2))]) (a := (s + 7)) (rest := [.int ((q1 + q3))]) rfl rfl rfl (zla_k1 hs) (t_S_flagsAt (I := I) ok (zla_k1 hs) e6) (fun hB => ?_)
  refine z_iadd hB (fun hB => ?_)
  refine z_aload hB rfl (fun hB => ?_)
  refine y_getr (b := (s + 7)) ok hB hs (zla_r1 hs) (fun hB => ?_)
  refine z_cst hB (fun hB => ?_)
  obtain ⟨q7, e8, h⟩ := z_bind h
  refine y_cv ok hB (as := [.int ((jn 3))]) (a := (s + 7)) (rest := [.int (((q1 + q3) + q5))]) rfl rfl rfl (zla_k1 hs) (t_S_flagsAt (I := I) ok (zla_k1 hs) e8) (fun hB => ?_)
  refine z_iadd hB (fun hB => ?_)
  refine z_istore hB rfl rfl (fun hB => ?_)
  refine z_cst hB (fun hB => ?_)
  refine z_istore hB rfl rfl (fun hB => ?_)
  refine z_cst hB (fun hB => ?_)
  refine z_istore hB rfl rfl (fun hB => ?_)
  refine z_cst hB (fun hB => ?_)
  refine z_istore hB rfl rfl (fun hB => ?_)
  obtain ⟨q11, e12, h⟩ := z_bind h
  have k13 : z_R G 61 124 [some (.ref (s)), some (.int ((((q1 + q3) + q5) + q7))), some (.int (q11.1)), some (.int (q11.2.1)), none, none] [] (z_w w I) (.inl (some (.int r))) (z_w w I) := by
    have hB : z_all [z_is 61 124 (zf_aload 124 0 125), z_is 61 125 (zf_getr 125 2 1 128), z_is 61 128 (zf_geti 128 5 6 131), z_is 61 131 (zf_iload 131 1 132), z_is 61 132 (zf_isub 132 133), z_is 61 133 (zf_nat 133 102 136), z_is 61 136 (zf_aload 136 0 137), z_is 61 137 (zf_getr 137 2 1 140), z_is 61 140 (zf_geti 140 5 2 143), z_is 61 143 (zf_aload 143 0 144), z_is 61 144 (zf_getr 144 2 1 147), z_is 61 147 (zf_geti 147 5 3 150), z_is 61 150 (zf_iadd 150 151), z_is 61 151 (zf_iload 151 2 152), z_is 61 152 (zf_isub 152 153), z_is 61 153 (zf_nat 153 102 156), z_is 61 156 (zf_iadd 156 157), z_is 61 157 (zf_iload 157 3 158), z_is 61 158 (zf_iadd 158 159), z_is 61 159 (zf_ret 0)] = true := by decide +kernel
    refine z_aload hB rfl (fun hB => ?_)
    refine y_getr (b := (s + 7)) ok hB hs (zla_r1 hs) (fun hB => ?_)
    refine y_geti ok hB (zla_k1 hs) (fun hB => ?_)
    refine z_iload hB rfl (fun hB => ?_)
    refine z_isub hB (fun hB => ?_)
    refine z_abs hB rfl (fun hB => ?_)
    refine z_aload hB rfl (fun hB => ?_)
    refine y_getr (b := (s + 7)) ok hB hs (zla_r1 hs) (fun hB => ?_)
    refine y_geti ok hB (zla_k1 hs) (fun hB => ?_)
    refine z_aload hB rfl (fun hB => ?_)
    refine y_getr (b := (s + 7)) ok hB hs (zla_r1 hs) (fun hB => ?_)
    refine y_geti ok hB (zla_k1 hs) (fun hB => ?_)
    refine z_iadd hB (fun hB => ?_)
    refine z_iload hB rfl (fun hB => ?_)
    refine z_isub hB (fun hB => ?_)
    refine z_abs hB rfl (fun hB => ?_)
    refine z_iadd hB (fun hB => ?_)
    refine z_iload hB rfl (fun hB => ?_)
    refine z_iadd hB (fun hB => ?_)
    cases h
    exact z_reti hB
  have l10 : ∀ (m10 : Nat) (p9 : Int32 × Int32 × Int32), z_it (d_L_sumsThatDiffer_10 s I) m10 p9 = some q11 → z_R G 61 43 [some (.ref (s)), some (.int ((((q1 + q3) + q5) + q7))), some (.int (p9.1)), some (.int (p9.2.1)), some (.int (p9.2.2)), none] [] (z_w w I) (.inl (some (.int r))) (z_w w I) := by
    intro m10
    induction m10 with
    | zero => intro p9 h; cases h
    | succ m10 i10 =>
      intro p9 h
      obtain ⟨u10, h, b10⟩ := z_it_o h
      unfold d_L_sumsThatDiffer_10 at h
      have hB : z_all [z_is 61 43 (zf_iload 43 4 45), z_is 61 45 (zf_aload 45 0 46), z_is 61 46 (zf_getr 46 2 1 49), z_is 61 49 (zf_geti 49 5 6 52), z_is 61 52 (zf_if2 .ge 52 124 55)] = true := by decide +kernel
      refine z_iload hB rfl (fun hB => ?_)
      refine z_aload hB rfl (fun hB => ?_)
      refine y_getr (b := (s + 7)) ok hB hs (zla_r1 hs) (fun hB => ?_)
      refine y_geti ok hB (zla_k1 hs) (fun hB => ?_)
      refine z_ic_ge hB (fun hc _ => ?_) (fun hc _ => ?_)
      · have h := z_neg hc h
        cases h
        cases b10
        exact z_weak k13 (z_se (z_se (z_se (z_se (z_sn (z_sn z_s0))))))
      · have h := z_pos hc h
        have hB : z_all [z_is 61 55 (zf_aload 55 0 56), z_is 61 56 (zf_getr 56 2 1 59), z_is 61 59 (zf_getr 59 5 7 62), z_is 61 62 (zf_iload 62 4 64), z_is 61 64 (zf_aald 64 65), z_is 61 65 (zf_astore 65 5 67), z_is 61 67 (zf_iload 67 2 68), z_is 61 68 (zf_aload 68 5 70), z_is 61 70 (zf_geti 70 0 8 73), z_is 61 73 (zf_cst 73 (jn 3) 74), z_is 61 74 (zf_if2 .ne 74 93 77)] = true := by decide +kernel
        refine z_aload hB rfl (fun hB => ?_)
        refine y_getr (b := (s + 7)) ok hB hs (zla_r1 hs) (fun hB => ?_)
        refine y_getr (b := ((s + 7) + 1)) ok hB (zla_k1 hs) (zst_r7 (zla_k1 hs)) (fun hB => ?_)
        refine z_iload hB rfl (fun hB => ?_)
        obtain ⟨g14, h⟩ := z_gd h
        refine y_fald ok hB (zst_k1 (zla_k1 hs)) (zst_l1 (zla_k1 hs)) g14 (zst_fR (zla_k1 hs) g14) (fun hB => ?_)
        refine z_astore hB rfl rfl (fun hB => ?_)
        refine z_iload hB rfl (fun hB => ?_)
        refine z_aload hB rfl (fun hB => ?_)
        refine y_geti ok hB (zst_fK (zla_k1 hs) g14) (fun hB => ?_)
        refine z_cst hB (fun hB => ?_)
        obtain ⟨q15, e16, h⟩ := z_bind h
        have k17 : z_R G 61 94 [some (.ref (s)), some (.int ((((q1 + q3) + q5) + q7))), none, some (.int (p9.2.1)), some (.int (p9.2.2)), some (.ref (((s + 7) + 2 + z_n (p9.2.2))))] [.int (q15), .int (p9.1)] (z_w w I) (.inl (some (.int r))) (z_w w I) := by
          have hB : z_all [z_is 61 94 (zf_iadd 94 95), z_is 61 95 (zf_istore 95 2 96), z_is 61 96 (zf_iload 96 3 97), z_is 61 97 (zf_aload 97 5 99), z_is 61 99 (zf_geti 99 0 6 102), z_is 61 102 (zf_aload 102 5 104), z_is 61 104 (zf_geti 104 0 1 107), z_is 61 107 (zf_iand 107 108), z_is 61 108 (zf_if1 .eq 108 115 111)] = true := by decide +kernel
          refine z_iadd hB (fun hB => ?_)
          refine z_istore hB rfl rfl (fun hB => ?_)
          refine z_iload hB rfl (fun hB => ?_)
          refine z_aload hB rfl (fun hB => ?_)
          refine y_geti ok hB (zst_fK (zla_k1 hs) g14) (fun hB => ?_)
          refine z_aload hB rfl (fun hB => ?_)
          refine y_geti ok hB (zst_fK (zla_k1 hs) g14) (fun hB => ?_)
          refine z_iand hB (fun hB => ?_)
          obtain ⟨q18, e19, h⟩ := z_bind h
          have k20 : z_R G 61 116 [some (.ref (s)), some (.int ((((q1 + q3) + q5) + q7))), some (.int ((p9.1 + q15))), none, some (.int (p9.2.2)), none] [.int (q18), .int (p9.2.1)] (z_w w I) (.inl (some (.int r))) (z_w w I) := by
            have hB : z_all [z_is 61 116 (zf_iadd 116 117), z_is 61 117 (zf_istore 117 3 118), z_is 61 118 (zf_iinc 118 4 (jn 1) 121), z_is 61 121 (zf_goto 121 43)] = true := by decide +kernel
            refine z_iadd hB (fun hB => ?_)
            refine z_istore hB rfl rfl (fun hB => ?_)
            refine z_iinc hB rfl rfl (fun hB => ?_)
            refine z_goto hB (fun hB => ?_)
            cases h
            exact z_weak (i10 ((p9.1 + q15), (p9.2.1 + q18), (p9.2.2 + (jn 1))) b10) (z_se (z_se (z_se (z_se (z_se (z_sn z_s0))))))
          have h := e19
          refine z_if_eq hB (fun hc _ => ?_) (fun hc _ => ?_)
          · have h := z_pos hc h
            have hB : z_all [z_is 61 115 (zf_cst 115 (jn 0) 116)] = true := by decide +kernel
            refine z_cst hB (fun hB => ?_)
            cases h
            exact z_weak k20 (z_se (z_se (z_se (z_sn (z_se (z_sn z_s0))))))
          · have h := z_neg hc h
            have hB : z_all [z_is 61 111 (zf_cst 111 (jn 1) 112), z_is 61 112 (zf_goto 112 116)] = true := by decide +kernel
            refine z_cst hB (fun hB => ?_)
            refine z_goto hB (fun hB => ?_)
            cases h
            exact z_weak k20 (z_se (z_se (z_se (z_sn (z_se (z_sn z_s0))))))
        have h := e16
        refine z_ic_ne hB (fun hc _ => ?_) (fun hc _ => ?_)
        · have h := z_neg hc h
          have hB : z_all [z_is 61 93 (zf_cst 93 (jn 0) 94)] = true := by decide +kernel
          refine z_cst hB (fun hB => ?_)
          cases h
          exact z_weak k17 (z_se (z_se (z_sn (z_se (z_se (z_se z_s0))))))
        · have h := z_pos hc h
          have hB : z_all [z_is 61 77 (zf_aload 77 0 78), z_is 61 78 (zf_getr 78 2 0 81), z_is 61 81 (zf_getr 81 4 6 84), z_is 61 84 (zf_aload 84 5 86), z_is 61 86 (zf_geti 86 0 0 89), z_is 61 89 (zf_iald 89 90), z_is 61 90 (zf_goto 90 94)] = true := by decide +kernel
          refine z_aload hB rfl (fun hB => ?_)
          refine y_getr (b := (s + 1)) ok hB hs (zla_r0 hs) (fun hB => ?_)
          refine y_getr (b := ((s + 1) + 3)) ok hB (zla_k0 hs) (zsu_r6 (zla_k0 hs)) (fun hB => ?_)
          refine z_aload hB rfl (fun hB => ?_)
          refine y_geti ok hB (zst_fK (zla_k1 hs) g14) (fun hB => ?_)
          obtain ⟨g21, h⟩ := z_gd h
          refine y_iald ok hB (zsu_k6 (zla_k0 hs)) (zsu_l6 (zla_k0 hs)) g21 (fun hB => ?_)
          refine z_goto hB (fun hB => ?_)
          cases h
          exact z_weak k17 (z_se (z_se (z_sn (z_se (z_se (z_se z_s0))))))
  exact z_weak (l10 _ ((jn 0), (jn 0), (jn 0)) e12) (z_se (z_se (z_se (z_se (z_se (z_sn z_s0))))))
