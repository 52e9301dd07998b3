/-! every script of at most six ints -/
theorem ev_low6 (x : Int32) : ∃ n, n < 64 ∧ x &&& 63 = Int32.ofNat n := by
  refine ⟨(x &&& 63).toBitVec.toNat, ?_, ?_⟩
  · have h : (x &&& 63).toBitVec.toNat = x.toBitVec.toNat &&& 63 := by
      rw [Int32.toBitVec_and]
      exact BitVec.toNat_and ..
    rw [h]
    exact Nat.lt_of_le_of_lt Nat.and_le_right (by decide)
  · apply Int32.toBitVec_inj.mp
    rw [Int32.toBitVec_ofNat']
    exact BitVec.eq_of_toNat_eq (by rw [BitVec.toNat_ofNat, Nat.mod_eq_of_lt (BitVec.isLt _)])
theorem ev_01 {v : Int32} (h1 : ¬ v < 0) (h2 : v < 2) : v = 0 ∨ v = 1 := by
  have h3 : (0 : Int) ≤ v.toInt := Int32.le_iff_toInt_le.mp (Int32.not_lt.mp h1)
  have h4 : v.toInt < 2 := Int32.lt_iff_toInt_lt.mp h2
  have h5 : v.toInt = 0 ∨ v.toInt = 1 := by omega
  rcases h5 with h5 | h5
  · exact Or.inl (Int32.toInt_inj.mp h5)
  · exact Or.inr (Int32.toInt_inj.mp h5)
def ev_Done (l : Launch) (L : Nat) (X : Nat → Int32) : Prop := ∃ w1 : ev_W, w_c w1 ≤ 600002 ∧ w_z w1 ≤ 7302232 ∧ ∀ (D : va_G) (cy : Nat → ClassId) (base : Nat) (ext : Nat → Nat), l.stackTraces = false → ev_Snd D cy base ext L X l ev_LAW 0 (ev_in 9 [.ref ev_S]) [] (ev_w0 L X) (.inl (some (.int 1))) w1
theorem ev_done_s {l : Launch} {L : Nat} {X : Nat → Int32} (h : ev_oks L X = true) : ev_Done l L X := by
  obtain ⟨w1, h1, h2, h3⟩ := ev_fin_of h
  exact ⟨w1, h2, h3, fun D cy base ext hl => ev_sound hl _ _ _ _ _ _ _ _ h1⟩
theorem ev_done_c {l : Launch} {X : Nat → Int32} (c : Nat) (h : ∀ X, ev_okc c X = true) (hX : X 0 &&& 63 = Int32.ofNat c) : ev_Done l 6 X := by
  obtain ⟨w1, h1, h2, h3⟩ := ev_fin_of (h X)
  exact ⟨w1, h2, h3, fun D cy base ext hl => ev_sound2 hl (fun pc ls st w q hq o w9 hs => ev_bhc_ok rfl hX pc ls st w q hq o w9 hs) _ _ _ _ _ _ _ _ h1⟩
theorem ev_done_v {l : Launch} {X : Nat → Int32} (c v A C : Nat) (h : ∀ X, ev_okv c v A C X = true) (hX : X 0 &&& 63 = Int32.ofNat c) (hv : X 1 = Int32.ofNat v) (hA : ev_seq A) (hC : ev_seq C) : ev_Done l 6 X := by
  obtain ⟨w1, h1, h2, h3⟩ := ev_fin_of (h X)
  exact ⟨w1, h2, h3, fun D cy base ext hl => ev_sound2 hl (fun pc ls st w q hq o w9 hs => ev_bhv_ok rfl hX hv hA hC pc ls st w q hq o w9 hs) _ _ _ _ _ _ _ _ h1⟩
theorem ev_sq1 : ev_seq 378 ∧ ev_seq 391 := by unfold ev_seq; decide +kernel
theorem ev_sq2 : ev_seq 2820 ∧ ev_seq 2833 := by unfold ev_seq; decide +kernel
theorem ev_sq3 : ev_seq 3721 ∧ ev_seq 3734 := by unfold ev_seq; decide +kernel
theorem ev_done1 {l : Launch} {X : Nat → Int32} (hX : X 0 &&& 63 = Int32.ofNat 1) : ev_Done l 6 X := by
  by_cases hn : X 1 = 0
  · exact ev_done_v 1 0 378 391 ev_ok_v1 hX hn ev_sq1.1 ev_sq1.2
  · obtain ⟨w1, h1, h2, h3⟩ := ev_fin_of (ev_ok_b1 X)
    have hn3 : ev_in3 (X 1) 0 0 = 0 := by
      unfold ev_in3
      by_cases h : (0 : Int32) ≤ X 1
      · rw [if_pos h, if_neg (fun h9 => hn (Int32.le_antisymm h9 h))]
      · rw [if_neg h]
    have hcd : ev_cd ev_LAW (378 + 6) = some (.aload_n 3, 1) ∧ ev_cd ev_LAW (378 + 6 + 1) = some (.invokestatic 199, 3) ∧ ev_cd ev_LAW (391 + 6) = some (.invokevirtual 204, 3) := by decide +kernel
    have htg : ev_look2 (ev_own1 ev_lawME) 199 ev_tgt = some ev_jwl ∧ ev_look2 (ev_own1 ev_lawME) 204 ev_tgt = some ev_jml := by decide +kernel
    refine ⟨w1, h2, h3, fun D cy base ext hl => ev_sound2 hl (fun pc ls st w q hq o w9 hs => ev_bhb_ok (GW := 14) (GM := 27) hl rfl hX rfl ev_sq1.1 ev_sq1.2 hcd.1 hcd.2.1 htg.1 ev_zwl_me rfl rfl (by decide) rfl rfl (fun w a d ha hg => ?_) hcd.2.2 htg.2 ev_zml_me rfl rfl (by decide) rfl (fun w a hg => ?_) (fun w a ha hg => ?_) pc ls st w q hq o w9 hs) _ _ _ _ _ _ _ _ h1⟩
    · unfold ev_gC1 at hg
      simp only [Bool.and_eq_true, decide_eq_true_eq] at hg
      have hk := Nat.eq_of_beq_eq_true hg.1
      exact ev_wl_ev 0 a d (X 1) w ha hk (fun G => ev_l_ev (G + 1) a (X 1) w ha hk hg.2 hn)
    · unfold ev_gM1 at hg
      simp only [Bool.and_eq_true, decide_eq_true_eq] at hg
      exact Nat.eq_of_beq_eq_true hg.1
    · unfold ev_gM1 at hg
      simp only [Bool.and_eq_true, decide_eq_true_eq] at hg
      exact ev_ml_ev 0 a (X 1) w ha (Nat.eq_of_beq_eq_true hg.1) hg.2 hn3
theorem ev_done44 {l : Launch} {X : Nat → Int32} (hX : X 0 &&& 63 = Int32.ofNat 44) : ev_Done l 6 X := by
  obtain ⟨w1, h1, h2, h3⟩ := ev_fin_of (ev_ok_b2 X)
  have hcd : ev_cd ev_LAW (2820 + 6) = some (.aload_n 3, 1) ∧ ev_cd ev_LAW (2820 + 6 + 1) = some (.invokestatic 341, 3) ∧ ev_cd ev_LAW (2833 + 6) = some (.invokevirtual 343, 3) := by decide +kernel
  have htg : ev_look2 (ev_own1 ev_lawME) 341 ev_tgt = some ev_jwt ∧ ev_look2 (ev_own1 ev_lawME) 343 ev_tgt = some ev_jmt := by decide +kernel
  refine ⟨w1, h2, h3, fun D cy base ext hl => ev_sound2 hl (fun pc ls st w q hq o w9 hs => ev_bhb_ok (GW := 14) (GM := 29) hl rfl hX rfl ev_sq2.1 ev_sq2.2 hcd.1 hcd.2.1 htg.1 ev_zwt_me rfl rfl (by decide) rfl rfl (fun w a d ha hg => ?_) hcd.2.2 htg.2 ev_zmt_me rfl rfl (by decide) rfl (fun w a hg => ?_) (fun w a ha hg => ?_) pc ls st w q hq o w9 hs) _ _ _ _ _ _ _ _ h1⟩
  · unfold ev_gC2 at hg
    cases hR : w_R w a 9 with
    | none => rw [hR, Bool.and_false] at hg; cases hg
    | some b =>
      rw [hR] at hg
      simp only [Bool.and_eq_true, decide_eq_true_eq] at hg
      have hk := Nat.eq_of_beq_eq_true hg.1
      exact ev_wt_ev 0 a d (X 1) w ha hk (fun G => ev_t_ev G a b (X 1) w ha hk hR hg.2.1 (Nat.eq_of_beq_eq_true hg.2.2.1) hg.2.2.2)
  · unfold ev_gM2 at hg
    simp only [Bool.and_eq_true, decide_eq_true_eq] at hg
    exact Nat.eq_of_beq_eq_true hg.1
  · unfold ev_gM2 at hg
    simp only [Bool.and_eq_true, decide_eq_true_eq] at hg
    exact ev_mt_ev 0 a (X 1) w ha (Nat.eq_of_beq_eq_true hg.1) hg.2
theorem ev_done60 {l : Launch} {X : Nat → Int32} (hX : X 0 &&& 63 = Int32.ofNat 60) : ev_Done l 6 X := by
  by_cases hn : X 1 < 0 ∨ ¬ X 1 < 2
  · obtain ⟨w1, h1, h2, h3⟩ := ev_fin_of (ev_ok_b3 X)
    have hn3 : ev_in3 (X 1) 0 1 = 0 := by
      unfold ev_in3
      by_cases h : (0 : Int32) ≤ X 1
      · rw [if_pos h]
        by_cases h9 : X 1 ≤ 1
        · exfalso
          have e1 := Int32.le_iff_toInt_le.mp h
          have e2 := Int32.le_iff_toInt_le.mp h9
          rcases hn with h8 | h8
          · exact absurd h (Int32.not_le.mpr h8)
          · refine h8 (Int32.lt_iff_toInt_lt.mpr ?_)
            have e3 : (1 : Int32).toInt = 1 := rfl
            have e4 : (2 : Int32).toInt = 2 := rfl
            rw [e3] at e2
            rw [e4]
            omega
        · rw [if_neg h9]
      · rw [if_neg h]
    have hcd : ev_cd ev_LAW (3721 + 6) = some (.aload_n 3, 1) ∧ ev_cd ev_LAW (3721 + 6 + 1) = some (.invokestatic 391, 3) ∧ ev_cd ev_LAW (3734 + 6) = some (.invokevirtual 393, 3) := by decide +kernel
    have htg : ev_look2 (ev_own1 ev_lawME) 391 ev_tgt = some ev_jwr ∧ ev_look2 (ev_own1 ev_lawME) 393 ev_tgt = some ev_jmr := by decide +kernel
    refine ⟨w1, h2, h3, fun D cy base ext hl => ev_sound2 hl (fun pc ls st w q hq o w9 hs => ev_bhb_ok (GW := 14) (GM := 32) hl rfl hX rfl ev_sq3.1 ev_sq3.2 hcd.1 hcd.2.1 htg.1 ev_zwr_me rfl rfl (by decide) rfl rfl (fun w a d ha hg => ?_) hcd.2.2 htg.2 ev_zmr_me rfl rfl (by decide) rfl (fun w a hg => Nat.eq_of_beq_eq_true hg) (fun w a ha hg => ?_) pc ls st w q hq o w9 hs) _ _ _ _ _ _ _ _ h1⟩
    · have hk := Nat.eq_of_beq_eq_true (show Nat.beq (w_K w a) 7 = true from hg)
      exact ev_wr_ev 0 a d (X 1) w ha hk (fun G => ev_r_ev G a (X 1) w hn)
    · exact ev_mr_ev 0 a (X 1) w ha (Nat.eq_of_beq_eq_true (show Nat.beq (w_K w a) 8 = true from hg)) hn3
  · have h1 : ¬ X 1 < 0 := fun h => hn (Or.inl h)
    have h2 : X 1 < 2 := Classical.byContradiction (fun h => hn (Or.inr h))
    rcases ev_01 h1 h2 with h | h
    · exact ev_done_v 60 0 3721 3734 ev_ok_v30 hX h ev_sq3.1 ev_sq3.2
    · exact ev_done_v 60 1 3721 3734 ev_ok_v31 hX h ev_sq3.1 ev_sq3.2
theorem ev_done {l : Launch} {L : Nat} {X : Nat → Int32} (hL : L ≤ 6) : ev_Done l L X := by
  match L, hL with
  | 0, _ => exact ev_done_s (ev_ok_s0 X)
  | 1, _ => exact ev_done_s (ev_ok_s1 X)
  | 2, _ => exact ev_done_s (ev_ok_s2 X)
  | 3, _ => exact ev_done_s (ev_ok_s3 X)
  | 4, _ => exact ev_done_s (ev_ok_s4 X)
  | 5, _ => exact ev_done_s (ev_ok_s5 X)
  | 6, _ =>
    obtain ⟨n, hn, hX⟩ := ev_low6 (X 0)
    match n, hn, hX with
    | 0, _, hX => exact ev_done_c 0 ev_ok_c0 hX
    | 1, _, hX => exact ev_done1 hX
    | 2, _, hX => exact ev_done_c 2 ev_ok_c2 hX
    | 3, _, hX => exact ev_done_c 3 ev_ok_c3 hX
    | 4, _, hX => exact ev_done_c 4 ev_ok_c4 hX
    | 5, _, hX => exact ev_done_c 5 ev_ok_c5 hX
    | 6, _, hX => exact ev_done_c 6 ev_ok_c6 hX
    | 7, _, hX => exact ev_done_c 7 ev_ok_c7 hX
    | 8, _, hX => exact ev_done_c 8 ev_ok_c8 hX
    | 9, _, hX => exact ev_done_c 9 ev_ok_c9 hX
    | 10, _, hX => exact ev_done_c 10 ev_ok_c10 hX
    | 11, _, hX => exact ev_done_c 11 ev_ok_c11 hX
    | 12, _, hX => exact ev_done_c 12 ev_ok_c12 hX
    | 13, _, hX => exact ev_done_c 13 ev_ok_c13 hX
    | 14, _, hX => exact ev_done_c 14 ev_ok_c14 hX
    | 15, _, hX => exact ev_done_c 15 ev_ok_c15 hX
    | 16, _, hX => exact ev_done_c 16 ev_ok_c16 hX
    | 17, _, hX => exact ev_done_c 17 ev_ok_c17 hX
    | 18, _, hX => exact ev_done_c 18 ev_ok_c18 hX
    | 19, _, hX => exact ev_done_c 19 ev_ok_c19 hX
    | 20, _, hX => exact ev_done_c 20 ev_ok_c20 hX
    | 21, _, hX => exact ev_done_c 21 ev_ok_c21 hX
    | 22, _, hX => exact ev_done_c 22 ev_ok_c22 hX
    | 23, _, hX => exact ev_done_c 23 ev_ok_c23 hX
    | 24, _, hX => exact ev_done_c 24 ev_ok_c24 hX
    | 25, _, hX => exact ev_done_c 25 ev_ok_c25 hX
    | 26, _, hX => exact ev_done_c 26 ev_ok_c26 hX
    | 27, _, hX => exact ev_done_c 27 ev_ok_c27 hX
    | 28, _, hX => exact ev_done_c 28 ev_ok_c28 hX
    | 29, _, hX => exact ev_done_c 29 ev_ok_c29 hX
    | 30, _, hX => exact ev_done_c 30 ev_ok_c30 hX
    | 31, _, hX => exact ev_done_c 31 ev_ok_c31 hX
    | 32, _, hX => exact ev_done_c 32 ev_ok_c32 hX
    | 33, _, hX => exact ev_done_c 33 ev_ok_c33 hX
    | 34, _, hX => exact ev_done_c 34 ev_ok_c34 hX
    | 35, _, hX => exact ev_done_c 35 ev_ok_c35 hX
    | 36, _, hX => exact ev_done_c 36 ev_ok_c36 hX
    | 37, _, hX => exact ev_done_c 37 ev_ok_c37 hX
    | 38, _, hX => exact ev_done_c 38 ev_ok_c38 hX
    | 39, _, hX => exact ev_done_c 39 ev_ok_c39 hX
    | 40, _, hX => exact ev_done_c 40 ev_ok_c40 hX
    | 41, _, hX => exact ev_done_c 41 ev_ok_c41 hX
    | 42, _, hX => exact ev_done_c 42 ev_ok_c42 hX
    | 43, _, hX => exact ev_done_c 43 ev_ok_c43 hX
    | 44, _, hX => exact ev_done44 hX
    | 45, _, hX => exact ev_done_c 45 ev_ok_c45 hX
    | 46, _, hX => exact ev_done_c 46 ev_ok_c46 hX
    | 47, _, hX => exact ev_done_c 47 ev_ok_c47 hX
    | 48, _, hX => exact ev_done_c 48 ev_ok_c48 hX
    | 49, _, hX => exact ev_done_c 49 ev_ok_c49 hX
    | 50, _, hX => exact ev_done_c 50 ev_ok_c50 hX
    | 51, _, hX => exact ev_done_c 51 ev_ok_c51 hX
    | 52, _, hX => exact ev_done_c 52 ev_ok_c52 hX
    | 53, _, hX => exact ev_done_c 53 ev_ok_c53 hX
    | 54, _, hX => exact ev_done_c 54 ev_ok_c54 hX
    | 55, _, hX => exact ev_done_c 55 ev_ok_c55 hX
    | 56, _, hX => exact ev_done_c 56 ev_ok_c56 hX
    | 57, _, hX => exact ev_done_c 57 ev_ok_c57 hX
    | 58, _, hX => exact ev_done_c 58 ev_ok_c58 hX
    | 59, _, hX => exact ev_done_c 59 ev_ok_c59 hX
    | 60, _, hX => exact ev_done60 hX
    | 61, _, hX => exact ev_done_c 61 ev_ok_c61 hX
    | 62, _, hX => exact ev_done_c 62 ev_ok_c62 hX
    | 63, _, hX => exact ev_done_c 63 ev_ok_c63 hX
    | n + 64, hn, _ => exact absurd hn (by omega)
  | L + 7, hL => exact absurd hL (by omega)
