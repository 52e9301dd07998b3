/-! the law's start, and the head of its loop: by wip/gen/zl.py -/
def z_i0 : List (Nat × Nat × Int32) := [(0, 1, 0), (0, 2, 0), (0, 3, -1), (0, 4, 0), (55, 0, 0), (55, 2, 0), (238, 0, 0), (238, 1, 0), (239, 0, 0), (241, 0, 0), (241, 6, 0), (241, 7, 0), (241, 9, 0), (241, 10, 0), (241, 11, -1), (241, 19, 0), (246, 0, 0), (246, 1, 0)]
def z_cases : List (Int32 × Nat) := [(Int32.ofNat 0, 304), (Int32.ofNat 1, 377), (Int32.ofNat 2, 405), (Int32.ofNat 3, 418), (Int32.ofNat 4, 431), (Int32.ofNat 5, 444), (Int32.ofNat 6, 472), (Int32.ofNat 7, 512), (Int32.ofNat 8, 552), (Int32.ofNat 9, 592), (Int32.ofNat 10, 632), (Int32.ofNat 11, 672), (Int32.ofNat 12, 700), (Int32.ofNat 13, 716), (Int32.ofNat 14, 732), (Int32.ofNat 15, 748), (Int32.ofNat 16, 776), (Int32.ofNat 17, 804), (Int32.ofNat 18, 832), (Int32.ofNat 19, 872), (Int32.ofNat 20, 912), (Int32.ofNat 21, 952), (Int32.ofNat 22, 980), (Int32.ofNat 23, 1020), (Int32.ofNat 24, 1060), (Int32.ofNat 25, 1100), (Int32.ofNat 26, 1128), (Int32.ofNat 27, 1168), (Int32.ofNat 28, 1220), (Int32.ofNat 29, 1248), (Int32.ofNat 30, 1276), (Int32.ofNat 31, 1304), (Int32.ofNat 32, 1332), (Int32.ofNat 33, 1372), (Int32.ofNat 34, 1400), (Int32.ofNat 35, 1440), (Int32.ofNat 36, 1468), (Int32.ofNat 37, 1484), (Int32.ofNat 38, 1524), (Int32.ofNat 39, 1541), (Int32.ofNat 40, 1558), (Int32.ofNat 41, 1586), (Int32.ofNat 42, 1614), (Int32.ofNat 43, 1642), (Int32.ofNat 44, 1658), (Int32.ofNat 45, 1686), (Int32.ofNat 46, 1726), (Int32.ofNat 47, 1766), (Int32.ofNat 48, 1794), (Int32.ofNat 49, 1810), (Int32.ofNat 50, 1838), (Int32.ofNat 51, 1866), (Int32.ofNat 52, 1906), (Int32.ofNat 53, 1934), (Int32.ofNat 54, 1962), (Int32.ofNat 55, 1990), (Int32.ofNat 56, 2018), (Int32.ofNat 57, 2082), (Int32.ofNat 58, 2098), (Int32.ofNat 59, 2111), (Int32.ofNat 60, 2139)]
theorem z_reti0 {G : z_G} {j pc : Nat} {ls : ev_L} {w : ev_W} {x : Int32} {t : List Bool} (h : z_all (z_is j pc (zf_ret 0) :: t) = true) : z_R G j pc ls [.int x] w (.inl (some (.int x))) w := z_reti h
theorem z_sub6 {L : Nat} (h : L ≤ 3072) : (Int32.ofNat L - Int32.ofNat 6).toInt = (L : Int) - 6 := by
  have h1_ : (Int32.ofNat L).toInt = (L : Int) := Int32.toInt_ofNat_of_lt (by show L < 2147483648; omega)
  have h2_ : (Int32.ofNat 6).toInt = 6 := by decide
  rw [Int32.toInt_sub, h1_, h2_]
  exact Int.bmod_eq_of_le (by omega) (by omega)
theorem z_K_ev {G : z_G} (hl : G.2.2.stackTraces = false) {N j : Nat} {as : List Value} {w : ev_W} {o : Option Value ⊕ Nat} {w1 : ev_W} (h : ev_call N j as w = some (o, w1)) : z_K G j as w o w1 := by
  intro D cy base ext e2 he2
  unfold ev_call at h
  rw [he2] at h
  dsimp only at h
  obtain ⟨hb_, h⟩ := ev_cond h
  simp only [Bool.and_eq_true, decide_eq_true_eq] at hb_
  have hs_ := ev_sound (D := D) (cy := cy) (base := base) (ext := ext) (SL := G.1) (SX := G.2.1) hl _ _ _ _ _ _ _ _ h
  exact ⟨ev_con he2 hl (fun v hv => Nat.eq_of_beq_eq_true (List.all_eq_true.mp hb_.1 v hv)) hb_.2 hs_, hs_.1, hs_.2.1⟩
/-- what the machine's heap says of the world may be used -/
theorem z_R_M {G : z_G} {j pc : Nat} {ls : ev_L} {st : List Value} {w : ev_W} {o : Option Value ⊕ Nat} {w1 : ev_W} (hc : w_c w ≤ w_c w1) (hz : w_z w ≤ w_z w1) (h : w_L w ev_S = G.1 → w_I w ev_S = G.2.1 → z_R G j pc ls st w o w1) : z_R G j pc ls st w o w1 := by
  intro D cy base ext
  exact ⟨hc, hz, fun z hz9 p e R s m args below meth c hC H locs cells slots Q L K N hM hS hE => (h hM.2.2.2.2.1 hM.2.2.2.2.2 D cy base ext).2.2 z hz9 p e R s m args below meth c hC H locs cells slots Q L K N hM hS hE⟩
/-- no more objects are made -/
def z_lf (w : ev_W) : ev_W := (w.1, w.2.1, w.2.2.1, false, w.2.2.2.2)
theorem z_R_lf {G : z_G} {j pc : Nat} {ls : ev_L} {st : List Value} {w : ev_W} {o : Option Value ⊕ Nat} {w1 : ev_W} (h : z_R G j pc ls st (z_lf w) o w1) : z_R G j pc ls st w o w1 := by
  intro D cy base ext
  obtain ⟨h1_, h2_, h3_⟩ := h D cy base ext
  exact ⟨h1_, h2_, fun z hz9 p e R s m args below meth c hC H locs cells slots Q L K N hM hS hE => h3_ z hz9 p e R s m args below meth c hC H locs cells slots Q L K N ⟨hM.1, hM.2.1, hM.2.2.1, (fun q => by cases q), hM.2.2.2.2.1, hM.2.2.2.2.2⟩ hS hE⟩
section ZST
variable {G : z_G} {j pc n : Nat} {ls : ev_L} {st r : List Value} {w : ev_W} {o : Option Value ⊕ Nat} {w1 : ev_W} {t : List Bool}
def zf_new (pc ci len n : Nat) (z : ev_ME) (ins : Instr) (_ : Nat) : Bool := match ins with
  | .new ix => Nat.beq n (pc + 3) && (match ev_look2 (ev_own1 z) ix ev_clt with
    | some k => Nat.beq k ci && (match vwCl[k]? with
      | some q => Nat.beq q.2.2 len
      | none => false)
    | none => false)
  | _ => false
theorem z_new {ci len : Nat} (h : z_all (z_is j pc (zf_new pc ci len n) :: t) = true) (hl : w_l w = true) (hn : w_n w < 1000) (kk : z_all t = true → z_R G j n ls (.ref (w_n w) :: st) (w_nw w ci len) o w1) : z_R G j pc ls st w o w1 := by
  obtain ⟨h1_, h2_⟩ := z_cons h
  obtain ⟨z0_, ins_, len_, hz_, hi_, hl_, hf_⟩ := z_is_of h1_
  unfold zf_new at hf_
  split at hf_
  · rename_i ix_
    rw [Bool.and_eq_true] at hf_
    obtain ⟨g1_, g2_⟩ := hf_
    have e1_ := Nat.eq_of_beq_eq_true g1_
    subst e1_
    split at g2_
    · rename_i k_ hk_
      rw [Bool.and_eq_true] at g2_
      obtain ⟨g3_, g4_⟩ := g2_
      have e2_ := Nat.eq_of_beq_eq_true g3_
      subst e2_
      split at g4_
      · rename_i q_ hq_
        have e3_ := Nat.eq_of_beq_eq_true g4_
        subst e3_
        refine z_step hz_ hi_ hl_ (fun go cal => ?_) (kk h2_)
        show ev_new1 go j z0_ pc ls w ix_ st = _
        unfold ev_new1
        rw [hk_]
        dsimp only
        rw [hq_]
        dsimp only
        rw [hl, decide_eq_true hn]
        rfl
      · cases g4_
    · cases g2_
  · cases hf_
def zf_nwa (pc κ n : Nat) (z : ev_ME) (ins : Instr) (_ : Nat) : Bool := match ins with
  | .newarray ty => Nat.beq n (pc + 2) && decide (ev_akind ty = some κ)
  | _ => false
theorem z_nwa {κ : Nat} {i : Int32} (h : z_all (z_is j pc (zf_nwa pc κ n) :: t) = true) (hl : w_l w = true) (hn : w_n w < 1000) (hi : ev_ok i 100000 = true) (kk : z_all t = true → z_R G j n ls (.ref (w_n w) :: r) (w_nw w κ i.toNatClampNeg) o w1) : z_R G j pc ls (.int i :: r) w o w1 := by
  obtain ⟨h1_, h2_⟩ := z_cons h
  obtain ⟨z0_, ins_, len_, hz_, hi_, hl_, hf_⟩ := z_is_of h1_
  unfold zf_nwa at hf_
  split at hf_
  · rename_i ty_
    rw [Bool.and_eq_true, decide_eq_true_eq] at hf_
    obtain ⟨g1_, g2_⟩ := hf_
    have e1_ := Nat.eq_of_beq_eq_true g1_
    subst e1_
    refine z_step hz_ hi_ hl_ (fun go cal => ?_) (kk h2_)
    show ev_newa go j pc ls w ty_ (.int i :: r) = _
    unfold ev_newa
    rw [g2_]
    dsimp only
    rw [hl, decide_eq_true hn, hi]
    rfl
  · cases hf_
def zf_ci (pc j2 ow n : Nat) (z : ev_ME) (ins : Instr) (_ : Nat) : Bool := match ins, ev_me j2 with
  | .invokespecial ix, some e2 => Nat.beq n (pc + 3) && (Nat.beq (ev_kd e2) 2 && (Nat.beq (ev_na e2) 0 && (Nat.beq (ev_own1 e2) ow && (ev_rmk z e2 && (match ev_look2 (ev_own1 z) ix ev_tgt with | some k => Nat.beq k j2 | none => false)))))
  | _, _ => false
theorem z_callI {j2 ow a : Nat} {rest : List Value} {w2 : ev_W} (h : z_all (z_is j pc (zf_ci pc j2 ow n) :: t) = true) (hcat : Nat.ble (ev_cat rest) 8 = true) (ha : a < w_n w) (hc : z_K G j2 [.ref a] w (.inl none) w2) (kk : z_all t = true → z_R G j n ls rest w2 o w1) : z_R G j pc ls (.ref a :: rest) w o w1 := by
  obtain ⟨h1_, h2_⟩ := z_cons h
  obtain ⟨z0_, ins_, len_, hz_, hi9_, hl_, hf_⟩ := z_is_of h1_
  unfold zf_ci at hf_
  split at hf_
  · rename_i ix_ e2_ he2_
    simp only [Bool.and_eq_true] at hf_
    obtain ⟨g1_, g2_, g3_, g4_, g5_, g6_⟩ := hf_
    have e1_ := Nat.eq_of_beq_eq_true g1_
    subst e1_
    split at g6_
    · rename_i k_ hk9_
      have ek_ := Nat.eq_of_beq_eq_true g6_
      subst ek_
      intro D cy base ext
      obtain ⟨c1_, c2_, c3_⟩ := hc D cy base ext e2_ he2_
      have hs_ := kk h2_ D cy base ext
      have hd3_ : decode (ev_by z0_) pc = .ok (.invokespecial ix_, 3) := by
        have h9_ : Nat.beq len_ 3 = true := hl_
        rw [← Nat.eq_of_beq_eq_true h9_]; exact z_dec hz_ hi9_
      exact ev_x_call hz_ (ev_z_cls hz_) c2_ c3_ hs_.1 hs_.2.1 (fun v' hv' _ => by cases hv'; exact hs_) (fun E hE => by cases hE) (ev_runI (ls := ls) (as := []) (Or.inl ⟨hk9_, Nat.eq_of_beq_eq_true g2_⟩) he2_ (Nat.eq_of_beq_eq_true g3_).symm ha (Nat.le_of_ble_eq_true hcat) g5_ hd3_ c1_)
    · cases g6_
  · cases hf_
end ZST
/-- what holds of the world at the loop's head -/
def z_chk (w : ev_W) : Bool := Nat.beq (w_n w) 252 && ((List.range 252).all (fun a => Nat.beq (w_K w a) (z_k a) && Nat.beq (w_L w a) (z_l a)) && ((List.range 252).all (fun a => (z_rl.getD a []).all (fun q => decide (w_R w a q.1 = some q.2))) && (decide (w_R w 0 5 = some 2) && (decide (w_R w 0 6 = some 28) && (z_i0.all (fun q => decide (w_I w q.1 q.2.1 = q.2.2)) && (decide (w_c w ≤ 1000) && decide (w_z w ≤ 20000)))))))
def z_st1 (q : Nat × (Nat → Int32)) : ev_W := w_nw (ev_w0 q.1 q.2) 7 10
def z_Pst (q : Nat × (Nat → Int32)) : Bool := match ev_call 100000 130 [.ref 0] (z_st1 q) with
  | some (.inl none, w2) => Nat.beq (w_n w2) 241 && (w_l w2 && (match ev_call 100000 201 [.ref 241] (w_nw w2 8 20) with
    | some (.inl none, w3) => Nat.beq (w_n w3) 250 && (w_l w3 && z_chk (w_nw (w_nw w3 14 1) 15 1))
    | _ => false))
  | _ => false
theorem z_eps {P : Nat × (Nat → Int32) → Bool} (h : P (Classical.epsilon (fun X => P X = false)) = true) : ∀ X, P X = true := by
  intro X
  cases hP : P X with
  | true => rfl
  | false => exact absurd (h.symm.trans (Classical.epsilon_spec (p := fun X => P X = false) ⟨X, hP⟩)) (by decide)
set_option maxRecDepth 1000000 in
theorem z_Pst_ok : ∀ q, z_Pst q = true := z_eps (by decide +kernel)
theorem z_Pst_of (q : Nat × (Nat → Int32)) : ∃ w2 w3 : ev_W, ev_call 100000 130 [.ref 0] (z_st1 q) = some (.inl none, w2) ∧ w_n w2 = 241 ∧ w_l w2 = true ∧ ev_call 100000 201 [.ref 241] (w_nw w2 8 20) = some (.inl none, w3) ∧ w_n w3 = 250 ∧ w_l w3 = true ∧ z_chk (w_nw (w_nw w3 14 1) 15 1) = true := by
  have h := z_Pst_ok q
  unfold z_Pst at h
  split at h
  · rename_i w2_ e1_
    rw [Bool.and_eq_true, Bool.and_eq_true] at h
    obtain ⟨g1_, g2_, g3_⟩ := h
    split at g3_
    · rename_i w3_ e2_
      rw [Bool.and_eq_true, Bool.and_eq_true] at g3_
      exact ⟨w2_, w3_, e1_, Nat.eq_of_beq_eq_true g1_, g2_, e2_, Nat.eq_of_beq_eq_true g3_.1, g3_.2.1, g3_.2.2⟩
    · cases g3_
  · cases h
/-- what the numbers of the heap are at first -/
def z_I0 (I : z_H) : Prop := ∀ q ∈ z_i0, I q.1 q.2.1 = q.2.2
theorem z_chk_of {G : z_G} {w : ev_W} (hl : G.2.2.stackTraces = false) (h : z_chk w = true) (hL : w_L w ev_S = G.1) : z_Ok G (z_lf w) ∧ z_fc (z_lf w) 2 ∧ z_fs (z_lf w) 28 ∧ z_I0 (w_I w) ∧ w_c w ≤ 1000 ∧ w_z w ≤ 20000 := by
  unfold z_chk at h
  simp only [Bool.and_eq_true, decide_eq_true_eq, List.all_eq_true] at h
  obtain ⟨h1_, h2_, h3_, h4_, h5_, h6_, h7_, h8_⟩ := h
  refine ⟨⟨hl, Nat.eq_of_beq_eq_true h1_, rfl, fun a ha => ⟨Nat.eq_of_beq_eq_true (h2_ a (List.mem_range.mpr ha)).1, Nat.eq_of_beq_eq_true (h2_ a (List.mem_range.mpr ha)).2⟩, fun a i b hb => ?_, hL⟩, ⟨h4_, by decide +kernel⟩, ⟨h5_, by decide +kernel⟩, h6_, h7_, h8_⟩
  unfold z_r at hb
  have hm_ := ev_look_mem hb
  have ha_ : a < 252 := by
    have h9_ : z_rl.length = 252 := by decide +kernel
    rcases Nat.lt_or_ge a z_rl.length with g_ | g_
    · rw [h9_] at g_; exact g_
    · rw [List.getD_eq_getElem?_getD, List.getElem?_eq_none g_] at hm_
      exact absurd hm_ List.not_mem_nil
  exact h3_ a (List.mem_range.mpr ha_) (i, b) hm_
/-- the law's locals at the head -/
abbrev z_ls (i : Int32) : ev_L := [some (.ref ev_S), some (.ref 0), some (.ref 241), some (.ref 250), some (.ref 251), some (.int i), none, none, none]
/-- from the law's entry to the head of its loop -/
theorem z_first {G : z_G} (hl : G.2.2.stackTraces = false) : ∃ w : ev_W, w_c w ≤ 1000 ∧ w_z w ≤ 20000 ∧ z_I0 (w_I w) ∧ (w_L w ev_S = G.1 → z_Ok G (z_lf w) ∧ z_fc (z_lf w) 2 ∧ z_fs (z_lf w) 28) ∧ ∀ (o : Option Value ⊕ Nat) (w1 : ev_W), (z_R G ev_LAW 28 (z_ls (Int32.ofNat 0)) [] w o w1 → z_R G ev_LAW 0 (ev_in 9 [.ref ev_S]) [] (ev_w0 G.1 G.2.1) o w1) := by
  obtain ⟨w2, w3, e1_, n2_, l2_, e2_, n3_, l3_, k_⟩ := z_Pst_of (G.1, G.2.1)
  have hk_ := k_
  unfold z_chk at hk_
  simp only [Bool.and_eq_true, decide_eq_true_eq, List.all_eq_true] at hk_
  obtain ⟨-, -, -, -, -, h6_, h7_, h8_⟩ := hk_
  refine ⟨w_nw (w_nw w3 14 1) 15 1, h7_, h8_, h6_, fun hL => ⟨(z_chk_of hl k_ hL).1, (z_chk_of hl k_ hL).2.1, (z_chk_of hl k_ hL).2.2.1⟩, fun o w1 h => ?_⟩
  show z_R G ev_LAW 0 [some (.ref ev_S), none, none, none, none, none, none, none, none] [] (ev_w0 G.1 G.2.1) o w1
  have hB : z_all [z_is ev_LAW 0 (zf_new 0 7 10 3), z_is ev_LAW 3 (zf_dupr 3 4), z_is ev_LAW 4 (zf_ci 4 130 7 7), z_is ev_LAW 7 (zf_astore 7 1 8), z_is ev_LAW 8 (zf_new 8 8 20 11), z_is ev_LAW 11 (zf_dupr 11 12), z_is ev_LAW 12 (zf_ci 12 201 8 15), z_is ev_LAW 15 (zf_astore 15 2 16), z_is ev_LAW 16 (zf_cst 16 (Int32.ofNat 1) 17), z_is ev_LAW 17 (zf_nwa 17 14 19), z_is ev_LAW 19 (zf_astore 19 3 20), z_is ev_LAW 20 (zf_cst 20 (Int32.ofNat 1) 21), z_is ev_LAW 21 (zf_nwa 21 15 23), z_is ev_LAW 23 (zf_astore 23 4 25), z_is ev_LAW 25 (zf_cst 25 (Int32.ofNat 0) 26), z_is ev_LAW 26 (zf_istore 26 5 28)] = true := by decide +kernel
  refine z_new hB rfl (by show 0 < 1000; omega) (fun hB => ?_)
  refine z_dupr hB (fun hB => ?_)
  refine z_callI (a := 0) (rest := [.ref 0]) hB rfl (by show 0 < 0 + 1; omega) (z_K_ev hl e1_) (fun hB => ?_)
  refine z_astore hB rfl rfl (fun hB => ?_)
  refine z_new hB l2_ (by rw [n2_]; decide) (fun hB => ?_)
  rw [n2_]
  refine z_dupr hB (fun hB => ?_)
  refine z_callI (a := 241) (rest := [.ref 241]) hB rfl (by show 241 < w_n w2 + 1; rw [n2_]; decide) (z_K_ev hl e2_) (fun hB => ?_)
  refine z_astore hB rfl rfl (fun hB => ?_)
  refine z_cst hB (fun hB => ?_)
  refine z_nwa hB l3_ (by rw [n3_]; decide) (by decide) (fun hB => ?_)
  rw [n3_]
  refine z_astore hB rfl rfl (fun hB => ?_)
  refine z_cst hB (fun hB => ?_)
  refine z_nwa hB l3_ (by show w_n w3 + 1 < 1000; rw [n3_]; decide) (by decide) (fun hB => ?_)
  rw [show w_n (w_nw w3 14 (Int32.ofNat 1).toNatClampNeg) = 251 from by show w_n w3 + 1 = 251; rw [n3_]]
  refine z_astore hB rfl rfl (fun hB => ?_)
  refine z_cst hB (fun hB => ?_)
  refine z_istore hB rfl rfl (fun hB => ?_)
  exact h
/-- the head: no call is left -/
theorem z_head0 {G : z_G} {w : ev_W} (ok : z_Ok G w) {k : Nat} (hG : G.1 ≤ 3072) (hk : 6 * k ≤ 3072) (h : G.1 < 6 * k + 6) : z_R G ev_LAW 28 (z_ls (Int32.ofNat (6 * k))) [] w (.inl (some (.int 1))) w := by
  have hL_ : w_L w ev_S = G.1 := ok.2.2.2.2.2
  have hB : z_all [z_is ev_LAW 28 (zf_iload 28 5 30), z_is ev_LAW 30 (zf_aload 30 0 31), z_is ev_LAW 31 (zf_alen 31 32), z_is ev_LAW 32 (zf_cst 32 (Int32.ofNat 6) 34), z_is ev_LAW 34 (zf_isub 34 35), z_is ev_LAW 35 (zf_if2 .gt 35 2201 38)] = true := by decide +kernel
  refine z_iload hB rfl (fun hB => ?_)
  refine z_aload hB rfl (fun hB => ?_)
  refine z_sln hB (fun hB => ?_)
  rw [hL_]
  refine z_cst hB (fun hB => ?_)
  refine z_isub hB (fun hB => ?_)
  refine z_ic_gt hB (fun _ _ => ?_) (fun hc _ => ?_)
  · have hB : z_all [z_is ev_LAW 2201 (zf_cst 2201 (1 : Int32) 2202), z_is ev_LAW 2202 (zf_ret 1)] = true := by decide +kernel
    refine z_cst hB (fun hB => ?_)
    exact z_retz hB (Or.inr rfl)
  · refine absurd ?_ hc
    refine Int32.lt_iff_toInt_lt.mpr ?_
    rw [z_sub6 hG, Int32.toInt_ofNat_of_lt (by show 6 * k < 2147483648; omega)]
    omega
/-- the head: a call is read -/
theorem z_head1 {G : z_G} {X : Nat → Int32} {w : ev_W} (ok : z_Ok G w) (hX : w_I w ev_S = X) {k : Nat} (hG : G.1 ≤ 3072) (h : 6 * k + 6 ≤ G.1) {o : Option Value ⊕ Nat} {w1 : ev_W} (kk : z_R G ev_LAW (z_sw z_cases 2195 (X (6 * k) &&& Int32.ofNat 63)) (z_ls (Int32.ofNat (6 * k))) [] w o w1) : z_R G ev_LAW 28 (z_ls (Int32.ofNat (6 * k))) [] w o w1 := by
  have hL_ : w_L w ev_S = G.1 := ok.2.2.2.2.2
  have hB : z_all [z_is ev_LAW 28 (zf_iload 28 5 30), z_is ev_LAW 30 (zf_aload 30 0 31), z_is ev_LAW 31 (zf_alen 31 32), z_is ev_LAW 32 (zf_cst 32 (Int32.ofNat 6) 34), z_is ev_LAW 34 (zf_isub 34 35), z_is ev_LAW 35 (zf_if2 .gt 35 2201 38), z_is ev_LAW 38 (zf_aload 38 0 39), z_is ev_LAW 39 (zf_iload 39 5 41), z_is ev_LAW 41 (zf_iald 41 42), z_is ev_LAW 42 (zf_cst 42 (Int32.ofNat 63) 44), z_is ev_LAW 44 (zf_iand 44 45), z_is ev_LAW 45 (zf_tsw 45 0 z_cases 2195)] = true := by decide +kernel
  have e6_ : (Int32.ofNat (6 * k)).toInt = ((6 * k : Nat) : Int) := Int32.toInt_ofNat_of_lt (by show 6 * k < 2147483648; omega)
  have en_ : z_n (Int32.ofNat (6 * k)) = 6 * k := by
    show (Int32.ofNat (6 * k)).toInt.toNat = 6 * k
    rw [e6_]
    rfl
  refine z_iload hB rfl (fun hB => ?_)
  refine z_aload hB rfl (fun hB => ?_)
  refine z_sln hB (fun hB => ?_)
  rw [hL_]
  refine z_cst hB (fun hB => ?_)
  refine z_isub hB (fun hB => ?_)
  refine z_ic_gt hB (fun hc _ => ?_) (fun _ hB => ?_)
  · have h9_ := Int32.lt_iff_toInt_lt.mp hc
    rw [z_sub6 hG, e6_] at h9_
    omega
  refine z_aload hB rfl (fun hB => ?_)
  refine z_iload hB rfl (fun hB => ?_)
  refine z_scr (x := X (6 * k)) hB ?_ (by rw [hX, en_]) (fun hB => ?_)
  · rw [hL_]
    unfold ev_ok
    rw [Bool.and_eq_true, decide_eq_true_eq, decide_eq_true_eq]
    refine ⟨Int32.le_iff_toInt_le.mpr (by rw [e6_]; exact Int.natCast_nonneg _), ?_⟩
    show z_n (Int32.ofNat (6 * k)) < G.1
    rw [en_]; omega
  refine z_cst hB (fun hB => ?_)
  refine z_iand hB (fun hB => ?_)
  exact z_tsw hB kk
