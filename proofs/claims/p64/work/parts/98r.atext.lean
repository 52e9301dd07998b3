/-! what the law's text comes to: by wip/gen/p64/j98r.py -/
def NLx (L : LL) : Prop := (∀ t, qt L t = []) ∧ (∀ a, qf L a 8 = jn 0) ∧ (∀ a, qf L a 6 = jn 0) ∧ (∀ n, qn L n 3 = jn 0) ∧ qs L 2 = jn 0 ∧ qs L 3 = jn 0
theorem NL_00 (P : Nat) : NLx (L00 P) := ⟨fun _ => rfl, fun _ => rfl, fun _ => rfl, fun _ => rfl, rfl, rfl⟩
theorem NL_col {L : LL} (h : NLx L) (v : Int32) : NLx (Lcol L v) := h
theorem NL_nat {L : LL} (h : NLx L) (x y z : Int32) : NLx (Lnat L x y z) := by
  refine ⟨h.1, h.2.1, h.2.2.1, fun n => ?_, h.2.2.2.2.1, h.2.2.2.2.2⟩
  show (if n = qN L then jn 0 else qn L n 3) = jn 0
  by_cases q : n = qN L
  · rw [if_pos q]
  · rw [if_neg q]; exact h.2.2.2.1 n
theorem NL_tub {L : LL} (h : NLx L) (v : Int32) : NLx (Ltub L v) := by
  refine ⟨fun t => ?_, h.2.1, h.2.2.1, h.2.2.2.1, h.2.2.2.2.1, h.2.2.2.2.2⟩
  show (if t = qT L then [] else qt L t) = []
  by_cases q : t = qT L
  · rw [if_pos q]
  · rw [if_neg q]; exact h.1 t
theorem NL_add {L : LL} (h : NLx L) (x y w v : Int32) : NLx (Ladd L x y w v) := by
  refine ⟨h.1, fun a => ?_, fun a => ?_, h.2.2.2.1, h.2.2.2.2.1, h.2.2.2.2.2⟩
  · by_cases q : a = qF L
    · rw [q, add_at]; rfl
    · rw [add_ne q]; exact h.2.1 a
  · by_cases q : a = qF L
    · rw [q, add_at]; rfl
    · rw [add_ne q]; exact h.2.2.1 a
theorem NL_cs (r : Nat → Nat) {L : LL} (h : NLx L) : ∀ n, NLx (Lcs r n L)
  | 0 => h
  | n + 1 => NL_col (NL_cs r h n) _
theorem NL_ns (v : Nat → Nat → Nat) {L : LL} (h : NLx L) : ∀ n, NLx (Lns v n L)
  | 0 => h
  | n + 1 => NL_nat (NL_ns v h n) _ _ _
theorem NL_ts (r : Nat → Nat) {L : LL} (h : NLx L) : ∀ n, NLx (Lts r n L)
  | 0 => h
  | n + 1 => NL_tub (NL_ts r h n) _
theorem NL_fs (vf : Nat → Nat → Nat) (mf : Nat → Int32) {L : LL} (h : NLx L) : ∀ n, NLx (Lfs vf mf n L)
  | 0 => h
  | n + 1 => NL_add (NL_fs vf mf h n) _ _ _ _
theorem qo_ts (r : Nat → Nat) {L : LL} (h0 : qT L = 0) : ∀ n t, t < n → qo (Lts r n L) t = jn (r t)
  | 0, t, h => absurd h (Nat.not_lt_zero _)
  | n + 1, t, h => by
    show (if t = qT (Lts r n L) then jn (r n) else qo (Lts r n L) t) = _
    rw [(Lts_d r L n).2.2.2, h0]
    by_cases q : t = n
    · rw [if_pos (by omega), q]
    · rw [if_neg (by omega)]; exact qo_ts r h0 n t (by omega)
theorem qo_fs (vf : Nat → Nat → Nat) (mf : Nat → Int32) {L : LL} : ∀ n t, qo (Lfs vf mf n L) t = qo L t
  | 0, t => rfl
  | n + 1, t => qo_fs vf mf n t
theorem qf_fs (vf : Nat → Nat → Nat) (mf : Nat → Int32) {L : LL} (h0 : qF L = 0) : ∀ n k, k < n → qf (Lfs vf mf n L) k 2 = jn (vf k 2)
  | 0, k, h => absurd h (Nat.not_lt_zero _)
  | n + 1, k, h => by
    show qf (Ladd (Lfs vf mf n L) (jn (vf n 0)) (mf n) (jn (vf n 2)) (jn (vf n 3))) k 2 = _
    have e := (Lfs_d vf mf L n).1
    by_cases q : k = n
    · rw [show k = qF (Lfs vf mf n L) by omega, add_at, show qF (Lfs vf mf n L) = n by omega]; rfl
    · rw [add_ne (by omega)]; exact qf_fs vf mf h0 n k (by omega)
/-- before the puts; before the wash; behind it -/
def LX0 (P W : Nat) (r : Nat → Nat) (vn : Nat → Nat → Nat) (o : Nat → Nat) (vf : Nat → Nat → Nat) (mf : Nat → Int32) (C N T F : Nat) : LL := ls (Lfs vf mf F (Lts o T (Lns vn N (Lcs r C (L00 P))))) 1 (jn W)
def LX1 (P W : Nat) (r : Nat → Nat) (vn : Nat → Nat → Nat) (o : Nat → Nat) (vf : Nat → Nat → Nat) (mf : Nat → Int32) (C N T F : Nat) : LL := if 2 ≤ F ∧ ¬ o 0 = 1 then Lput (Lput (LX0 P W r vn o vf mf C N T F) 0 0) 1 0 else Lput (LX0 P W r vn o vf mf C N T F) 0 0
def LX (P W : Nat) (r : Nat → Nat) (vn : Nat → Nat → Nat) (o : Nat → Nat) (vf : Nat → Nat → Nat) (mf : Nat → Int32) (C N T F : Nat) : LL := Lwsh (LX1 P W r vn o vf mf C N T F) 0 (jn 0)
theorem dm_wsh {L : LL} {t : Nat} {x : Int32} : qF (Lwsh L t x) = qF L ∧ qC (Lwsh L t x) = qC L ∧ qN (Lwsh L t x) = qN L ∧ qT (Lwsh L t x) = qT L := ⟨rfl, rfl, rfl, rfl⟩
theorem dm_put {L : LL} {f t : Nat} : qF (Lput L f t) = qF L ∧ qC (Lput L f t) = qC L ∧ qN (Lput L f t) = qN L ∧ qT (Lput L f t) = qT L := ⟨rfl, rfl, rfl, rfl⟩
theorem qo_put {L : LL} {f t : Nat} : qo (Lput L f t) = qo L := rfl
theorem mn_a : ∀ c : Fin 4, ¬ z_mn (jn 3) (jn c.val) < jn 0 := by decide +kernel
theorem mn_b : ∀ c d : Fin 4, ¬ z_mn (z_mn (jn 3) (jn c.val)) (jn d.val) < jn 0 := by decide +kernel
theorem a_end {N q f : Nat} {A : Nat → Int32} {L : LL} (h : Atx N A q []) (h1 : ¬ qC L = 0) (h2 : ¬ qN L = 0) (h3 : ¬ qT L = 0) : aLines N A (f + 1) q L = .inr L := by
  have k := tok_e h
  show (if tK N A q = 4 then _ else if tK N A q = 1 then _ else _) = _
  rw [if_neg (by omega), if_pos k, if_neg (by omega)]
theorem aText_law {N : Nat} {A : Nat → Int32} {P W : Nat} {r : Nat → Nat} {vn : Nat → Nat → Nat} {o : Nat → Nat} {vf : Nat → Nat → Nat} {mf : Nat → Int32} {C Nn T F : Nat} (hb : TBD P W r vn o vf mf C Nn T F) (hC : 1 ≤ C ∧ C ≤ 4) (hN : 1 ≤ Nn ∧ Nn ≤ 2) (hT : 1 ≤ T ∧ T ≤ 2) (hF : 1 ≤ F ∧ F ≤ 4) (h : Atx N A 0 (TXD P W r vn o vf mf C Nn T F)) : aText N A = .inr (LX P W r vn o vf mf C Nn T F) := by
  obtain ⟨⟨bP, bW⟩, br, bn, bo, bf⟩ := hb
  have hlen : 27 ≤ N := by
    have h1 := h.1
    have h2 := zs_l9
    unfold TXD at h1
    simp only [List.length_append, zs_txl] at h1
    omega
  have z1 := Lcs_d r (L00 P) C
  have z2 := Lns_d vn (Lcs r C (L00 P)) Nn
  have z3 := Lts_d o (Lns vn Nn (Lcs r C (L00 P))) T
  have z4 := Lfs_d vf mf (Lts o T (Lns vn Nn (Lcs r C (L00 P)))) F
  have z0 : qF (L00 P) = 0 ∧ qC (L00 P) = 0 ∧ qN (L00 P) = 0 ∧ qT (L00 P) = 0 := ⟨rfl, rfl, rfl, rfl⟩
  obtain ⟨f0, hf0⟩ : ∃ f0, N = (((((f0 + 4) + F) + T) + Nn) + C) := ⟨N - (4 + F + T + Nn + C), by omega⟩
  have fN : N + 1 = ((((((f0 + 1) + 4) + F) + T) + Nn) + C) := by omega
  -- the first line
  have h0 : Atx N A 0 (zs_tx 1 ++ 32 :: (dg P ++ (xcol r C ++ (xnat vn Nn ++ (xtub o T ++ (xflg C vf mf F ++ ((zs_tx 25 ++ dg W) ++ (((zs_tx 26 ++ dg 0) ++ zs_tx 27) ++ ((if 2 ≤ F ∧ ¬ o 0 = 1 then ((zs_tx 26 ++ dg 1) ++ zs_tx 27) else []) ++ zs_tx 28))))))))) := by
    have e : TXD P W r vn o vf mf C Nn T F = zs_tx 1 ++ 32 :: (dg P ++ (xcol r C ++ (xnat vn Nn ++ (xtub o T ++ (xflg C vf mf F ++ ((zs_tx 25 ++ dg W) ++ (((zs_tx 26 ++ dg 0) ++ zs_tx 27) ++ ((if 2 ≤ F ∧ ¬ o 0 = 1 then ((zs_tx 26 ++ dg 1) ++ zs_tx 27) else []) ++ zs_tx 28)))))))) := by
      unfold TXD
      rw [kw_t.1]
      simp only [List.append_assoc, List.cons_append, List.nil_append]
    rw [← e]; exact h
  have e28 : ES (zs_tx 28) := by rw [← List.append_nil (zs_tx 28)]; exact ES_k (by omega) _
  have eif : ES ((if 2 ≤ F ∧ ¬ o 0 = 1 then ((zs_tx 26 ++ dg 1) ++ zs_tx 27) else []) ++ zs_tx 28) := by
    by_cases hc : 2 ≤ F ∧ ¬ o 0 = 1
    · rw [if_pos hc]; simp only [List.append_assoc]; exact ES_k (by omega) _
    · rw [if_neg hc]; exact e28
  have e26 : ∀ s, ES (((zs_tx 26 ++ dg 0) ++ zs_tx 27) ++ s) := fun s => by simp only [List.append_assoc]; exact ES_k (by omega) _
  have e25 : ∀ s, ES ((zs_tx 25 ++ dg W) ++ s) := fun s => by simp only [List.append_assoc]; exact ES_k (by omega) _
  have efl : ∀ n s, ES s → ES (xflg C vf mf n ++ s) := by
    intro n
    induction n with
    | zero => intro s hs; exact hs
    | succ n ih =>
      intro s hs
      have e : xflg C vf mf (n + 1) ++ s = xflg C vf mf n ++ (((((((zs_tx 24 ++ dg (vf n 0)) ++ [32]) ++ dg (vf n 2)) ++ [32]) ++ dg (vf n 3)) ++ xbit (mf n) C) ++ s) := by
        show (xflg C vf mf n ++ _) ++ s = _
        rw [List.append_assoc]
      rw [e]
      exact ih _ (by simp only [List.append_assoc]; exact ES_k (by omega) _)
  have etb : ∀ n s, ES s → ES (xtub o n ++ s) := by
    intro n
    induction n with
    | zero => intro s hs; exact hs
    | succ n ih =>
      intro s hs
      have e : xtub o (n + 1) ++ s = xtub o n ++ ((zs_tx 23 ++ dg (o n)) ++ s) := by
        show (xtub o n ++ (zs_tx 23 ++ dg (o n))) ++ s = _
        rw [List.append_assoc]
      rw [e]
      exact ih _ (by rw [List.append_assoc]; exact ES_k (by omega) _)
  have ent : ∀ n s, ES s → ES (xnat vn n ++ s) := by
    intro n
    induction n with
    | zero => intro s hs; exact hs
    | succ n ih =>
      intro s hs
      have e : xnat vn (n + 1) ++ s = xnat vn n ++ ((((((zs_tx 22 ++ dg (vn n 0)) ++ [32]) ++ dg (vn n 1)) ++ [32]) ++ dg (vn n 2)) ++ s) := by
        show (xnat vn n ++ _) ++ s = _
        rw [List.append_assoc]
      rw [e]
      exact ih _ (by simp only [List.append_assoc]; exact ES_k (by omega) _)
  have ecl : ∀ n s, ES s → ES (xcol r n ++ s) := by
    intro n
    induction n with
    | zero => intro s hs; exact hs
    | succ n ih =>
      intro s hs
      have e : xcol r (n + 1) ++ s = xcol r n ++ ((zs_tx 21 ++ dg (r n)) ++ s) := by
        show (xcol r n ++ (zs_tx 21 ++ dg (r n))) ++ s = _
        rw [List.append_assoc]
      rw [e]
      exact ih _ (by rw [List.append_assoc]; exact ES_k (by omega) _)
  have s0 := tS_0 h0 (NB_kw (by omega) _)
  obtain ⟨k1, h1⟩ := tok_k h0 (by omega) (NB_dg P _)
  have w1 := tWd_is (k2 := 1) h0 (by omega) (by omega) (NB_dg P _)
  obtain ⟨n1, h2⟩ := aN_S (lo := 1) (hi := 8) h1 (by omega) bP.1 (by omega) (by omega) (ecl _ _ (ent _ _ (etb _ _ (efl _ _ (e25 _)))))
  obtain ⟨q3, h3, e3⟩ := a_cols r C _ _ (((((f0 + 1) + 4) + F) + T) + Nn) (L00 P) (by omega) br (ent _ _ (etb _ _ (efl _ _ (e25 _)))) h2
  obtain ⟨q4, h4, e4⟩ := a_nats vn Nn _ q3 ((((f0 + 1) + 4) + F) + T) (Lcs r C (L00 P)) (by omega) (fun c hc => by have := bn c hc; omega) (etb _ _ (efl _ _ (e25 _))) h3
  obtain ⟨q5, h5, e5⟩ := a_tubs o T _ q4 (((f0 + 1) + 4) + F) (Lns vn Nn (Lcs r C (L00 P))) (by omega) bo (efl _ _ (e25 _)) h4
  obtain ⟨q6, h6, e6⟩ := a_flags C hC vf mf F _ q5 ((f0 + 1) + 4) (Lts o T (Lns vn Nn (Lcs r C (L00 P)))) (by omega) (by omega) (by omega) (fun k hk => by
    obtain ⟨a1, a2, a3, a4⟩ := bf k hk
    exact ⟨by omega, a2, by omega, a4⟩) (e25 _) h5
  obtain ⟨q7, h7, e7⟩ := a_wind (L := Lfs vf mf F (Lts o T (Lns vn Nn (Lcs r C (L00 P))))) (f := (f0 + 1) + 3) h6 (e26 _) bW
  have dX : qF (LX0 P W r vn o vf mf C Nn T F) = F ∧ qC (LX0 P W r vn o vf mf C Nn T F) = C ∧ qN (LX0 P W r vn o vf mf C Nn T F) = Nn ∧ qT (LX0 P W r vn o vf mf C Nn T F) = T := by
    refine ⟨?_, ?_, ?_, ?_⟩
    · show qF (Lfs vf mf F (Lts o T (Lns vn Nn (Lcs r C (L00 P))))) = F
      omega
    · show qC (Lfs vf mf F (Lts o T (Lns vn Nn (Lcs r C (L00 P))))) = C
      omega
    · show qN (Lfs vf mf F (Lts o T (Lns vn Nn (Lcs r C (L00 P))))) = Nn
      omega
    · show qT (Lfs vf mf F (Lts o T (Lns vn Nn (Lcs r C (L00 P))))) = T
      omega
  have nX : NLx (LX0 P W r vn o vf mf C Nn T F) := NL_fs vf mf (NL_ts o (NL_ns vn (NL_cs r (NL_00 P) C) Nn) T) F
  have oX : qo (LX0 P W r vn o vf mf C Nn T F) 0 = jn (o 0) := by
    show qo (Lfs vf mf F (Lts o T (Lns vn Nn (Lcs r C (L00 P))))) 0 = _
    rw [qo_fs]
    exact qo_ts o (by omega) T 0 (by omega)
  have cX : ∀ k, k < F → qf (LX0 P W r vn o vf mf C Nn T F) k 2 = jn (vf k 2) := fun k hk => qf_fs vf mf (by omega) F k hk
  have o1 := bo 0 (by omega)
  have y0 : yput (LX0 P W r vn o vf mf C Nn T F) 0 0 = jn 0 := by
    unfold yput
    rw [if_pos (nX.2.1 0), nX.1 0, oX, if_pos (by show jn 0 < jn (o 0); rw [jn_lt (by omega) (by omega)]; omega)]
  obtain ⟨q8, h8, e8⟩ := a_put (L := LX0 P W r vn o vf mf C Nn T F) (f := (f0 + 1) + 2) h7 eif (by omega) (by omega) (by omega) (by omega) y0
  have c3 : ycare (LX0 P W r vn o vf mf C Nn T F) 0 = jn 3 := by
    unfold ycare
    rw [nX.1 0]
    rfl
  have v0 := (bf 0 (by omega)).2.1
  have start : aText N A = aLines N A ((f0 + 1) + 2) q8 (Lput (LX0 P W r vn o vf mf C Nn T F) 0 0) := by
    unfold aText
    rw [s0, if_pos ⟨k1, w1⟩, n1, eb_r]
    show aLines N A (N + 1) (nx N A (nx N A 0)) (L00 (z_n (jn P))) = _
    rw [jn_n (by omega), fN, e3, e4, e5, e6, show f0 + 1 + 4 = (f0 + 1 + 3) + 1 by omega, e7]
    exact e8
  rw [start]
  by_cases hc : 2 ≤ F ∧ ¬ o 0 = 1
  · rw [if_pos hc] at h8
    have y1 : yput (Lput (LX0 P W r vn o vf mf C Nn T F) 0 0) 1 0 = jn 0 := by
      unfold yput
      rw [qf_put (by omega), if_pos (nX.2.1 1), qt_put, nX.1 0, qo_put, oX, if_pos (by show jn 1 < jn (o 0); rw [jn_lt (by omega) (by omega)]; omega)]
    obtain ⟨q9, h9, e9⟩ := a_put (L := Lput (LX0 P W r vn o vf mf C Nn T F) 0 0) (f := (f0 + 1) + 1) h8 e28 (by rw [dm_put.1]; omega) (by rw [dm_put.1]; omega) (by omega) (by rw [dm_put.2.2.2]; omega) y1
    have v1 := (bf 1 (by omega)).2.1
    have yw : ywash (Lput (Lput (LX0 P W r vn o vf mf C Nn T F) 0 0) 1 0) 0 (jn 0) = jn 0 := by
      unfold ywash
      rw [qt_put, qt_put, nX.1 0, if_neg (by decide), put_care, put_care, c3, cX 0 (by omega), qf_put (by omega), cX 1 (by omega), if_neg (mn_b ⟨vf 0 2, by omega⟩ ⟨vf 1 2, by omega⟩)]
    obtain ⟨qa, ha, ea⟩ := a_wash (L := Lput (Lput (LX0 P W r vn o vf mf C Nn T F) 0 0) 1 0) (f := f0 + 1) h9 (by rw [dm_put.2.2.2, dm_put.2.2.2]; omega) yw
    have e1 : LX P W r vn o vf mf C Nn T F = Lwsh (Lput (Lput (LX0 P W r vn o vf mf C Nn T F) 0 0) 1 0) 0 (jn 0) := by
      unfold LX LX1
      rw [if_pos hc]
    rw [show f0 + 1 + 2 = f0 + 1 + 1 + 1 by omega, e9, ea, e1]
    exact a_end ha (by rw [dm_wsh.2.1, dm_put.2.1, dm_put.2.1]; omega) (by rw [dm_wsh.2.2.1, dm_put.2.2.1, dm_put.2.2.1]; omega) (by rw [dm_wsh.2.2.2, dm_put.2.2.2, dm_put.2.2.2]; omega)
  · rw [if_neg hc, List.nil_append] at h8
    have yw : ywash (Lput (LX0 P W r vn o vf mf C Nn T F) 0 0) 0 (jn 0) = jn 0 := by
      unfold ywash
      rw [qt_put, nX.1 0, if_neg (by decide), put_care, c3, cX 0 (by omega), if_neg (mn_a ⟨vf 0 2, by omega⟩)]
    obtain ⟨qa, ha, ea⟩ := a_wash (L := Lput (LX0 P W r vn o vf mf C Nn T F) 0 0) (f := f0 + 1 + 1) h8 (by rw [dm_put.2.2.2]; omega) yw
    have e1 : LX P W r vn o vf mf C Nn T F = Lwsh (Lput (LX0 P W r vn o vf mf C Nn T F) 0 0) 0 (jn 0) := by
      unfold LX LX1
      rw [if_neg hc]
    rw [show f0 + 1 + 2 = f0 + 1 + 1 + 1 by omega, ea, e1]
    exact a_end ha (by rw [dm_wsh.2.1, dm_put.2.1]; omega) (by rw [dm_wsh.2.2.1, dm_put.2.2.1]; omega) (by rw [dm_wsh.2.2.2, dm_put.2.2.2]; omega)
