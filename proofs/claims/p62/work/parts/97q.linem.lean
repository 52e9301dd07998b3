/-! the reference's lines -/
/-- the numbers of nations that weren't handed over and tell no lateness, whatever stands there -/
def Lz (L : LL) (z : Nat → Int32) : LL := (L.1, qf L, (fun n k => if k = 4 ∧ ¬ qn L n 3 = jn 1 then z n else qn L n k), qr L, qo L, qs L, qt L)
theorem lz_k {L : LL} {z : Nat → Int32} {n k : Nat} (h : ¬ k = 4) : qn (Lz L z) n k = qn L n k := if_neg (fun q_ => h q_.1)
theorem lz_h {L : LL} {z : Nat → Int32} {n k : Nat} (h : qn L n 3 = jn 1) : qn (Lz L z) n k = qn L n k := if_neg (fun q_ => q_.2 h)
theorem qG_z {L : LL} (g : qG L) (z : Nat → Int32) : qG (Lz L z) := by
  obtain ⟨g1_, g2_, g3_, g4_, g5_, g6_, g7_, g8_, g9_, ga_⟩ := g
  refine ⟨g1_, g2_, g3_, g4_, g5_, g6_, fun n hn => ?_, g8_, g9_, ga_⟩
  obtain ⟨q0_, q1_, q2_, q3_⟩ := g7_ n hn
  unfold qgn
  rw [lz_k (by omega), lz_k (by omega), lz_k (by omega), lz_k (k := 3) (by omega)]
  refine ⟨q0_, q1_, q2_, ?_⟩
  rcases q3_ with k_ | k_
  · exact Or.inl k_
  · exact Or.inr ⟨k_.1, by rw [lz_h k_.1]; exact k_.2⟩
theorem lz_put {L : LL} {z : Nat → Int32} {f t : Nat} : Lput (Lz L z) f t = Lz (Lput L f t) z := rfl
theorem lz_mv {L : LL} {z : Nat → Int32} {f : Nat} {x y : Int32} : Lmv (Lz L z) f x y = Lz (Lmv L f x y) z := rfl
theorem lz_wsh {L : LL} {z : Nat → Int32} {t : Nat} {x : Int32} : Lwsh (Lz L z) t x = Lz (Lwsh L t x) z := rfl
theorem lz_s {L : LL} {z : Nat → Int32} {k : Nat} {x : Int32} : ls (Lz L z) k x = Lz (ls L k x) z := rfl
theorem lz_add {L : LL} {z : Nat → Int32} {x y w v : Int32} : Ladd (Lz L z) x y w v = Lz (Ladd L x y w v) z := rfl
theorem lz_dst {L : LL} {z : Nat → Int32} {i : Nat} : Ldst i (Lz L z) = Lz (Ldst i L) z := by
  show (if qf L i 8 = jn 2 then lf (Lz L z) i 4 (ydr L i) else Lz L z) = Lz (if qf L i 8 = jn 2 then lf L i 4 (ydr L i) else L) z
  by_cases h_ : qf L i 8 = jn 2
  · rw [if_pos h_, if_pos h_]; rfl
  · rw [if_neg h_, if_neg h_]
theorem lz_dry {L : LL} {z : Nat → Int32} : Ldry (Lz L z) = Lz (Ldry L) z := by
  have k_ : ∀ n, jfd Ldst (Lz L z) n = Lz (jfd Ldst L n) z := by
    intro n
    induction n with
    | zero => rfl
    | succ n ih_ => rw [jfd_s, jfd_s, ih_, lz_dst]
  exact k_ (qF L)
theorem lz_lst {L : LL} {z : Nat → Int32} : Llst (Lz L z) = Lz (Llst L) z := by
  have e_ : ylst (Lz L z) = ylst L := rfl
  unfold Llst
  rw [e_]
  cases ylst L with
  | none => rfl
  | some p => rfl
theorem lz_fall {L : LL} {z : Nat → Int32} : Lfall (Lz L z) = Lz (Lfall L) z := by
  show (if qs L 1 < jn 7 then Lz L z else Llst (Lz L z)) = Lz (if qs L 1 < jn 7 then L else Llst L) z
  by_cases h_ : qs L 1 < jn 7
  · rw [if_pos h_, if_pos h_]
  · rw [if_neg h_, if_neg h_, lz_lst]
theorem lz_pas {L : LL} {z : Nat → Int32} : Lpas (Lz L z) = Lz (Lpas L) z := by
  unfold Lpas
  rw [lz_dry, lz_fall]
  rfl
theorem lz_pss {L : LL} {z : Nat → Int32} : ∀ n, Lpss (Lz L z) n = Lz (Lpss L n) z := by
  intro n
  induction n with
  | zero => rfl
  | succ n ih_ =>
    show Lpas (Lpss (Lz L z) n) = Lz (Lpas (Lpss L n)) z
    rw [ih_, lz_pas]
theorem lz_S {L : LL} {z : Nat → Int32} {I : z_H} {s u : Nat} (h : qS L I s u) : qS (Lz L z) I s u := by
  obtain ⟨h1_, h2_, h3_, h4_, h5_, h6_, h7_, h8_, h9_, ha_, hb_, hc_, hd_⟩ := h
  refine ⟨h1_, h2_, h3_, h4_, h5_, h6_, h7_, fun n hn => ?_, h9_, ha_, hb_, hc_, hd_⟩
  obtain ⟨q1_, q2_, q3_, q4_⟩ := h8_ n hn
  unfold qSn
  rw [lz_k (by omega), lz_k (by omega), lz_k (by omega), lz_k (k := 3) (by omega)]
  refine ⟨q1_, q2_, q3_, ?_⟩
  by_cases e_ : qn L n 3 = jn 1
  · rw [if_pos e_, lz_h e_, q4_, if_pos e_]
  · rw [if_neg e_, q4_, if_neg e_]
theorem qM_col {L : LL} {B : Nat} {A : Nat → Int32} (h : qM L B A) (g : qG L) (hc : qC L < 6) (v : Int32) : qM (Lcol L v) B (jup (jup A (12 + qC L) v) 6 (jn (qC L + 1))) := by
  have gN_ := g.2.2.1
  have gT_ := g.2.2.2.1
  obtain ⟨⟨h1_, h2_, h3_, h4_, h5_, h6_, h7_, h8_, h9_, ha_, hb_⟩, o_⟩ := qM_r.mp h
  refine qM_r.mpr ⟨⟨fun j hj => ?_, jup_at, ?_, ?_, ?_, ?_, fun c hc2 => ?_, fun n j hn hj => ?_, fun t ht => ?_, fun f j hf hj => ?_, fun n hn hn2 => ?_⟩, qMo_cg (L2 := Lcol L v) o_ rfl (fun _ => rfl) (by rw [jup_ne (by omega), jup_ne (by omega)]) (fun f => by rw [jup_ne (by omega), jup_ne (by omega)])⟩
  · rw [jup_ne (by omega), jup_ne (by omega)]; exact h1_ j hj
  · rw [jup_ne (by omega), jup_ne (by omega)]; exact h3_
  · rw [jup_ne (by omega), jup_ne (by omega)]; exact h4_
  · rw [jup_ne (by omega), jup_ne (by omega)]; exact h5_
  · rw [jup_ne (by omega), jup_ne (by omega)]; exact h6_
  · have c_ : c < qC L + 1 := hc2
    rw [jup_ne (by omega)]
    by_cases e_ : c = qC L
    · rw [e_, jup_at]
      exact (if_pos rfl).symm
    · rw [jup_ne (by omega)]
      exact (h7_ c (by omega)).trans (if_neg e_).symm
  · rw [jup_ne (by omega), jup_ne (by omega)]; exact h8_ n j hn hj
  · rw [jup_ne (by omega), jup_ne (by omega)]; exact h9_ t ht
  · rw [jup_ne (by omega), jup_ne (by omega)]; exact ha_ f j hf hj
  · rw [jup_ne (by omega), jup_ne (by omega)]; exact hb_ n hn hn2
theorem qM_tub {L : LL} {B : Nat} {A : Nat → Int32} (h : qM L B A) (g : qG L) (hc : qT L < 3) (v : Int32) : qM (Ltub L v) B (jup (jup A (38 + qT L) v) 8 (jn (qT L + 1))) := by
  have gN_ := g.2.2.1
  have gC_ := g.2.1
  obtain ⟨⟨h1_, h2_, h3_, h4_, h5_, h6_, h7_, h8_, h9_, ha_, hb_⟩, p_, p1_, p2_, p3_⟩ := qM_r.mp h
  have ne_ : ∀ j, ¬ j = 8 → ¬ j = 38 + qT L → jup (jup A (38 + qT L) v) 8 (jn (qT L + 1)) j = A j := fun j k1 k2 => by rw [jup_ne k1, jup_ne k2]
  refine qM_r.mpr ⟨⟨fun j hj => ?_, ?_, ?_, jup_at, ?_, ?_, fun c hc2 => ?_, fun n j hn hj => ?_, fun t ht => ?_, fun f j hf hj => ?_, fun n hn hn2 => ?_⟩, p_, (ne_ 11 (by omega) (by omega)).trans p1_, p2_, fun t ht => ?_⟩
  · rw [ne_ j (by omega) (by omega)]; exact h1_ j hj
  · rw [ne_ 6 (by omega) (by omega)]; exact h2_
  · rw [ne_ 7 (by omega) (by omega)]; exact h3_
  · rw [ne_ 9 (by omega) (by omega)]; exact h5_
  · rw [ne_ 10 (by omega) (by omega)]; exact h6_
  · have c_ : c < qC L := hc2
    rw [ne_ _ (by omega) (by omega)]; exact h7_ c hc2
  · have c_ : n < qN L := hn
    rw [ne_ _ (by omega) (by omega)]; exact h8_ n j hn hj
  · have ht2_ : t < qT L + 1 := ht
    by_cases e_ : t = qT L
    · rw [e_, jup_ne (by omega), jup_at]
      exact (if_pos rfl).symm
    · rw [ne_ _ (by omega) (by omega)]
      exact (h9_ t (by omega)).trans (if_neg e_).symm
  · rw [ne_ _ (by omega) (by omega)]; exact ha_ f j hf hj
  · rw [ne_ _ (by omega) (by omega)]; exact hb_ n hn hn2
  · have ht2_ : t < qT L + 1 := ht
    have cell_ : ∀ f, jup (jup A (38 + qT L) v) 8 (jn (qT L + 1)) (41 + 11 * f + 10) = A (41 + 11 * f + 10) := fun f => ne_ _ (by omega) (by omega)
    by_cases e_ : t = qT L
    · have l_ : qt (Ltub L v) t = [] := if_pos e_
      rw [l_]
      exact ⟨fun f hf => absurd hf List.not_mem_nil, List.Pairwise.nil⟩
    · have l_ : qt (Ltub L v) t = qt L t := if_neg e_
      rw [l_]
      have k_ := p3_ t (by omega)
      refine ⟨fun f hf => ?_, ?_⟩
      · rw [cell_ f]; exact k_.1 f hf
      · exact List.Pairwise.imp (fun {c d} q_ => by rw [cell_ c, cell_ d]; exact q_) k_.2
theorem qM_nat {L : LL} {z : Nat → Int32} {B : Nat} {A : Nat → Int32} (h : qM (Lz L z) B A) (g : qG L) (hc : qN L < 4) (x y w : Int32) : ∃ z2, qM (Lz (Lnat L x y w) z2) B (jup (jup (jup (jup A (18 + 5 * qN L + 0) x) (18 + 5 * qN L + 1) y) (18 + 5 * qN L + 2) w) 7 (jn (qN L + 1))) := by
  have gT_ := g.2.2.2.1
  have gC_ := g.2.1
  obtain ⟨⟨h1_, h2_, h3_, h4_, h5_, h6_, h7_, h8_, h9_, ha_, hb_⟩, o_⟩ := qM_r.mp h
  have ne_ : ∀ j, ¬ j = 7 → ¬ j = 18 + 5 * qN L → ¬ j = 18 + 5 * qN L + 1 → ¬ j = 18 + 5 * qN L + 2 → (jup (jup (jup (jup A (18 + 5 * qN L + 0) x) (18 + 5 * qN L + 1) y) (18 + 5 * qN L + 2) w) 7 (jn (qN L + 1))) j = A j := fun j k1 k2 k3 k4 => by rw [jup_ne k1, jup_ne k4, jup_ne k3, jup_ne (by omega)]
  refine ⟨fun m => if m = qN L then A (18 + 5 * qN L + 4) else z m, qM_r.mpr ⟨⟨fun j hj => ?_, ?_, jup_at, ?_, ?_, ?_, fun c hc2 => ?_, fun n j hn hj => ?_, fun t ht => ?_, fun f j hf hj => ?_, fun n hn hn2 => ?_⟩, qMo_cg o_ rfl (fun _ => rfl) (ne_ 11 (by omega) (by omega) (by omega) (by omega)) (fun f => ne_ _ (by omega) (by omega) (by omega) (by omega))⟩⟩
  · rw [ne_ j (by omega) (by omega) (by omega) (by omega)]; exact h1_ j hj
  · rw [ne_ 6 (by omega) (by omega) (by omega) (by omega)]; exact h2_
  · rw [ne_ 8 (by omega) (by omega) (by omega) (by omega)]; exact h4_
  · rw [ne_ 9 (by omega) (by omega) (by omega) (by omega)]; exact h5_
  · rw [ne_ 10 (by omega) (by omega) (by omega) (by omega)]; exact h6_
  · have c_ : c < qC L := hc2
    rw [ne_ _ (by omega) (by omega) (by omega) (by omega)]; exact h7_ c hc2
  · have hn2_ : n < qN L + 1 := hn
    by_cases e_ : n = qN L
    · have v_ : ∀ j, qn (Lnat L x y w) n j = if j = 0 then x else if j = 1 then y else if j = 2 then w else jn 0 := fun j => if_pos e_
      have n3_ : ¬ qn (Lnat L x y w) n 3 = jn 1 := by rw [v_, if_neg (by omega), if_neg (by omega), if_neg (by omega)]; decide
      have j_ : j = 0 ∨ j = 1 ∨ j = 2 ∨ j = 3 ∨ j = 4 := by omega
      rcases j_ with q_ | q_ | q_ | q_ | q_
      · rw [q_, lz_k (by omega), v_, e_, jup_ne (by omega), jup_ne (by omega), jup_ne (by omega), jup_at]; rfl
      · rw [q_, lz_k (by omega), v_, e_, jup_ne (by omega), jup_ne (by omega), jup_at]; rfl
      · rw [q_, lz_k (by omega), v_, e_, jup_ne (by omega), jup_at]; rfl
      · rw [q_, lz_k (by omega), v_, e_, ne_ _ (by omega) (by omega) (by omega) (by omega)]
        exact hb_ (qN L) (Nat.le_refl _) hc
      · have k_ : qn (Lz (Lnat L x y w) (fun m => if m = qN L then A (18 + 5 * qN L + 4) else z m)) n 4 = A (18 + 5 * qN L + 4) := by
          show (if 4 = 4 ∧ ¬ qn (Lnat L x y w) n 3 = jn 1 then (if n = qN L then A (18 + 5 * qN L + 4) else z n) else qn (Lnat L x y w) n 4) = _
          rw [if_pos ⟨rfl, n3_⟩, if_pos e_]
        rw [q_, k_, e_, ne_ _ (by omega) (by omega) (by omega) (by omega)]
    · have v_ : ∀ j, qn (Lnat L x y w) n j = qn L n j := fun j => if_neg e_
      have k_ : qn (Lz (Lnat L x y w) (fun m => if m = qN L then A (18 + 5 * qN L + 4) else z m)) n j = qn (Lz L z) n j := by
        show (if j = 4 ∧ ¬ qn (Lnat L x y w) n 3 = jn 1 then (if n = qN L then A (18 + 5 * qN L + 4) else z n) else qn (Lnat L x y w) n j) = (if j = 4 ∧ ¬ qn L n 3 = jn 1 then z n else qn L n j)
        rw [v_, v_, if_neg e_]
      rw [k_, ne_ _ (by omega) (by omega) (by omega) (by omega)]
      exact h8_ n j (show n < qN L by omega) hj
  · have c_ : t < qT L := ht
    rw [ne_ _ (by omega) (by omega) (by omega) (by omega)]; exact h9_ t ht
  · rw [ne_ _ (by omega) (by omega) (by omega) (by omega)]; exact ha_ f j hf hj
  · have c_ : qN L + 1 ≤ n := hn
    rw [ne_ _ (by omega) (by omega) (by omega) (by omega)]
    exact hb_ n (show qN L ≤ n by omega) hn2
def mF (I J : z_H) : Prop := (∀ b, ¬ b = 241 → ¬ b = 242 → J b = I b) ∧ ∀ k, k < 10 ∨ 17 ≤ k → J 241 k = I 241 k
def mS (L : LL) (B : Nat) (I : z_H) : Prop := ∃ z, qM (Lz L z) B (I 242)
def mR (N : Nat) (A : Nat → Int32) (x : PE ⊕ (Nat × LL)) (J : z_H) : Prop := (∃ e, x = .inl e ∧ (fM e J ∨ ∃ q, e = (1, q) ∧ tK N A q = 0 ∧ rP N A q J)) ∨ (∃ q L, x = .inr (q, L) ∧ rP N A q J ∧ mS L q J)
section LNM
variable {N q q0 B : Nat} {A : Nat → Int32} {I J : z_H} {L : LL} {lo hi : Int32}
theorem mF_0 : mF I I := ⟨fun _ _ _ => rfl, fun _ _ => rfl⟩
theorem mF_tr {K : z_H} (h : mF I J) (h2 : mF J K) : mF I K := ⟨fun b b1 b2 => (h2.1 b b1 b2).trans (h.1 b b1 b2), fun k hk => (h2.2 k hk).trans (h.2 k hk)⟩
theorem mF_1 (f : ∀ b, ¬ b = 241 → J b = I b) (f2 : ∀ k, k < 10 ∨ 17 ≤ k → J 241 k = I 241 k) : mF I J := ⟨fun b b1 _ => f b b1, f2⟩
theorem mF_2 (f : ∀ b, ¬ b = 242 → J b = I b) : mF I J := ⟨fun b _ b2 => f b b2, fun k _ => by rw [f 241 (by omega)]⟩
theorem mA_F (h : mA N A I) (f : mF I J) : mA N A J := fun k hk => by rw [f.1 247 (by omega) (by omega)]; exact h k hk
theorem rP_2 (h : rP N A q I) (f : ∀ b, ¬ b = 242 → J b = I b) : rP N A q J := by
  have e_ := f 241 (by omega)
  obtain ⟨h0_, h1_, h3_, h6_, h5_, h4_, h7_, hq_⟩ := h
  exact ⟨by rw [e_]; exact h0_, by rw [e_]; exact h1_, by rw [e_]; exact h3_, by rw [e_]; exact h6_, by rw [e_]; exact h5_, fun k_ => by rw [e_]; exact h4_ k_, fun k_ => by rw [e_]; exact h7_ k_, hq_⟩
theorem mS_B {B2 : Nat} (h : mS L B I) (hB : B ≤ B2) : mS L B2 I := by
  obtain ⟨z_, m_⟩ := h
  exact ⟨z_, qM_B m_ hB⟩
theorem mS_2 (h : mS L B I) (e : J 242 = I 242) : mS L B J := by
  obtain ⟨z_, m_⟩ := h
  exact ⟨z_, by rw [e]; exact m_⟩
theorem rp_numS (h : rP N A q I) (hA : mA N A I) (hN : N ≤ 500) (hS : mS L B I) : ∃ v J, d_M_number lo hi I = some (v, J) ∧ mF I J ∧ mA N A J ∧ mS L B J ∧ ((∃ e, aNum N A lo hi q = .inl e ∧ fM e J ∧ jn 0 < J 241 10 ∧ ¬ J 241 10 = jn 0) ∨ (∃ r, aNum N A lo hi q = .inr (v, r) ∧ rP N A r J ∧ ¬ v < lo ∧ ¬ hi < v ∧ J 241 10 = jn 0 ∧ q < r ∧ r ≤ N)) := by
  obtain ⟨v_, J_, e_, f1_, f2_, c_⟩ := rp_num (lo := lo) (hi := hi) h hA hN
  have F_ := mF_1 f1_ f2_
  refine ⟨v_, J_, e_, F_, mA_F hA F_, mS_2 hS (f1_ 242 (by omega)), ?_⟩
  rcases c_ with ⟨x_, ex_, fx_⟩ | ⟨r_, er_, p_⟩
  · have fe_ := aNum_E h.2.2.2.2.2.2.2 ex_
    exact Or.inl ⟨x_, ex_, fx_, fM_n fe_ fx_, fM_0 fe_ fx_⟩
  · obtain ⟨b1_, b2_, _⟩ := aNum_V er_
    have q_ := aNum_q er_
    exact Or.inr ⟨r_, er_, p_, b1_, b2_, p_.1, q_.1, q_.2⟩
theorem rp_hereS (h : rP N A q I) (hA : mA N A I) (hS : mS L B I) : ∃ v J, d_M_numberHere lo hi I = some (v, J) ∧ mF I J ∧ mA N A J ∧ mS L B J ∧ ((∃ e, aNum N A lo hi q = .inl e ∧ fM e J ∧ jn 0 < J 241 10 ∧ ¬ J 241 10 = jn 0) ∨ (∃ r, aNum N A lo hi q = .inr (v, r) ∧ J = I ∧ ¬ v < lo ∧ ¬ hi < v ∧ r = nx N A q ∧ ¬ tK N A q = 0 ∧ q < r ∧ r ≤ N)) := by
  obtain ⟨v_, J_, e_, f1_, f2_, c_⟩ := rp_here (lo := lo) (hi := hi) h
  have F_ := mF_1 f1_ f2_
  refine ⟨v_, J_, e_, F_, mA_F hA F_, mS_2 hS (f1_ 242 (by omega)), ?_⟩
  rcases c_ with ⟨x_, ex_, fx_⟩ | ⟨r_, er_, eJ_⟩
  · have fe_ := aNum_E h.2.2.2.2.2.2.2 ex_
    exact Or.inl ⟨x_, ex_, fx_, fM_n fe_ fx_, fM_0 fe_ fx_⟩
  · obtain ⟨b1_, b2_, n_, k_, _⟩ := aNum_V er_
    have q_ := aNum_q er_
    exact Or.inr ⟨r_, er_, eJ_, b1_, b2_, n_, by omega, q_.1, q_.2⟩
/-- a line's first word -/
theorem rp_full (h : rP N A q0 I) {j c : Nat} (hj : j < 173) (hc : c < 1000) (e : I 242 j = jn c) : ∃ J, d_M_begins (jn j) (jn c) I = some J ∧ mF I J ∧ fM (4, q0) J ∧ jn 0 < J 241 10 ∧ ¬ J 241 10 = jn 0 := by
  obtain ⟨J_, e_, f1_, f2_, m_⟩ := rp_fault h 4
  have p_ : jn 0 < J_ 241 10 := by rw [m_.1]; show jn 0 < jn 4; decide
  refine ⟨J_, ?_, mF_1 f1_ f2_, m_, p_, fun q_ => by rw [q_] at p_; exact absurd p_ (by decide)⟩
  unfold d_M_begins
  rw [if_pos (by rw [jn_in (by omega)]; exact hj), jn_n (by omega), e, if_pos rfl, e_, ob_s, ob_s, rp_goes1 p_, ob_s]
theorem rp_room (h : rP N A q0 I) (hk : ¬ tK N A q0 = 0) (hA : mA N A I) (hN : N ≤ 500) {j c m : Nat} (hj : j < 173) (hc : c < 1000) (hm : m < 1000) (e : I 242 j = jn c) (hne : ¬ c = m) : ∃ J, d_M_begins (jn j) (jn m) I = some J ∧ mF I J ∧ J 242 = I 242 ∧ rP N A (nx N A q0) J := by
  obtain ⟨J_, e_, f1_, f2_, p_⟩ := rp_on h hk hA hN
  refine ⟨J_, ?_, mF_1 f1_ f2_, f1_ 242 (by omega), p_⟩
  unfold d_M_begins
  rw [if_pos (by rw [jn_in (by omega)]; exact hj), jn_n (by omega), if_neg (show ¬ I 242 j = jn m by rw [e, jn_eq (by omega) (by omega)]; exact hne), ob_s, e_, ob_s]
theorem rp_colour (h : rP N A q0 I) (hk : ¬ tK N A q0 = 0) (hA : mA N A I) (hN : N ≤ 500) (hS : mS L B I) (g : qG L) (hB : B ≤ q0) : ∃ J, d_M_readsColour I = some J ∧ mF I J ∧ mR N A (aColour N A q0 (nx N A q0) L) J := by
  have g2_ := g.2.1
  have q0_ := h.2.2.2.2.2.2.2
  have nl_ := (nx_le (A := A) q0_).1
  have c_ : I 242 6 = jn (qC L) := by obtain ⟨z_, m_⟩ := hS; exact m_.2.1
  unfold d_M_readsColour aColour
  by_cases f_ : qC L = 6
  · obtain ⟨J_, e_, F_, x_, p_, _⟩ := rp_full h (j := 6) (c := 6) (by omega) (by omega) (by rw [c_, f_])
    rw [e_, ob_s, rp_num1 p_, ob_s, if_pos p_, if_pos f_]
    exact ⟨_, rfl, F_, Or.inl ⟨_, rfl, Or.inl x_⟩⟩
  · obtain ⟨J_, e_, F_, e2_, P_⟩ := rp_room h hk hA hN (j := 6) (c := qC L) (m := 6) (by omega) (by omega) (by omega) c_ f_
    obtain ⟨v_, J2_, e3_, F2_, A2_, S2_, w_⟩ := rp_numS (lo := jn 0) (hi := jn 4) P_ (mA_F hA F_) hN (mS_2 hS e2_)
    rw [e_, ob_s, e3_, ob_s, if_neg f_]
    dsimp only
    rcases w_ with ⟨x_, ex_, fx_, p_, _⟩ | ⟨r_, er_, p_, _, _, z_, l1_, l2_⟩
    · rw [if_pos p_, ex_]
      exact ⟨_, rfl, mF_tr F_ F2_, Or.inl ⟨_, rfl, Or.inl fx_⟩⟩
    · obtain ⟨zz_, m_⟩ := S2_
      have c2_ : J2_ 242 6 = jn (qC L) := m_.2.1
      have in_ : z_in (jn 6) 173 := by rw [jn_in (by omega)]; omega
      have mm_ := qM_col m_ (qG_z g zz_) (show qC L < 6 by omega) v_
      have ne6_ : ev_u2 J2_ 242 (12 + qC L) v_ 242 6 = jn (qC L) := by rw [ju_ne (by omega)]; exact c2_
      rw [if_neg (show ¬ jn 0 < J2_ 241 10 by rw [z_]; decide), er_, eb_r]
      simp only [jn_n (show 6 < 100000 by omega), c2_, jn_add, jn_n (show 12 + qC L < 100000 by omega), ne6_]
      rw [if_pos in_, if_pos (by rw [jn_in (by omega)]; omega), if_pos in_, if_pos in_, ob_s]
      refine ⟨_, rfl, mF_tr (mF_tr F_ F2_) (mF_2 (fun b hb => by rw [ju_na hb, ju_na hb])), Or.inr ⟨_, _, rfl, rP_2 p_ (fun b hb => by rw [ju_na hb, ju_na hb]), zz_, ?_⟩⟩
      rw [ju_up, ju_up]
      exact qM_B mm_ (by omega)
theorem rp_tub (h : rP N A q0 I) (hk : ¬ tK N A q0 = 0) (hA : mA N A I) (hN : N ≤ 500) (hS : mS L B I) (g : qG L) (hB : B ≤ q0) : ∃ J, d_M_readsTub I = some J ∧ mF I J ∧ mR N A (aTub N A q0 (nx N A q0) L) J := by
  have g2_ := g.2.2.2.1
  have q0_ := h.2.2.2.2.2.2.2
  have nl_ := (nx_le (A := A) q0_).1
  have c_ : I 242 8 = jn (qT L) := by obtain ⟨z_, m_⟩ := hS; exact m_.2.2.2.1
  unfold d_M_readsTub aTub
  by_cases f_ : qT L = 3
  · obtain ⟨J_, e_, F_, x_, p_, _⟩ := rp_full h (j := 8) (c := 3) (by omega) (by omega) (by rw [c_, f_])
    rw [e_, ob_s, rp_num1 p_, ob_s, if_pos p_, if_pos f_]
    exact ⟨_, rfl, F_, Or.inl ⟨_, rfl, Or.inl x_⟩⟩
  · obtain ⟨J_, e_, F_, e2_, P_⟩ := rp_room h hk hA hN (j := 8) (c := qT L) (m := 3) (by omega) (by omega) (by omega) c_ f_
    obtain ⟨v_, J2_, e3_, F2_, A2_, S2_, w_⟩ := rp_numS (lo := jn 1) (hi := jn 6) P_ (mA_F hA F_) hN (mS_2 hS e2_)
    rw [e_, ob_s, e3_, ob_s, if_neg f_]
    dsimp only
    rcases w_ with ⟨x_, ex_, fx_, p_, _⟩ | ⟨r_, er_, p_, _, _, z_, l1_, l2_⟩
    · rw [if_pos p_, ex_]
      exact ⟨_, rfl, mF_tr F_ F2_, Or.inl ⟨_, rfl, Or.inl fx_⟩⟩
    · obtain ⟨zz_, m_⟩ := S2_
      have c2_ : J2_ 242 8 = jn (qT L) := m_.2.2.2.1
      have in_ : z_in (jn 8) 173 := by rw [jn_in (by omega)]; omega
      have mm_ := qM_tub m_ (qG_z g zz_) (show qT L < 3 by omega) v_
      have ne6_ : ev_u2 J2_ 242 (38 + qT L) v_ 242 8 = jn (qT L) := by rw [ju_ne (by omega)]; exact c2_
      rw [if_neg (show ¬ jn 0 < J2_ 241 10 by rw [z_]; decide), er_, eb_r]
      simp only [jn_n (show 8 < 100000 by omega), c2_, jn_add, jn_n (show 38 + qT L < 100000 by omega), ne6_]
      rw [if_pos in_, if_pos (by rw [jn_in (by omega)]; omega), if_pos in_, if_pos in_, ob_s]
      refine ⟨_, rfl, mF_tr (mF_tr F_ F2_) (mF_2 (fun b hb => by rw [ju_na hb, ju_na hb])), Or.inr ⟨_, _, rfl, rP_2 p_ (fun b hb => by rw [ju_na hb, ju_na hb]), zz_, ?_⟩⟩
      rw [ju_up, ju_up]
      exact qM_B mm_ (by omega)
theorem rp_nation (h : rP N A q0 I) (hk : ¬ tK N A q0 = 0) (hA : mA N A I) (hN : N ≤ 500) (hS : mS L B I) (g : qG L) (hB : B ≤ q0) : ∃ J, d_M_readsNation I = some J ∧ mF I J ∧ mR N A (aNation N A q0 (nx N A q0) L) J := by
  have g2_ := g.2.2.1
  have q0_ := h.2.2.2.2.2.2.2
  have nl_ := (nx_le (A := A) q0_).1
  have c_ : I 242 7 = jn (qN L) := by obtain ⟨z_, m_⟩ := hS; exact m_.2.2.1
  unfold d_M_readsNation aNation
  by_cases f_ : qN L = 4
  · obtain ⟨J_, e_, F_, x_, p_, _⟩ := rp_full h (j := 7) (c := 4) (by omega) (by omega) (by rw [c_, f_])
    rw [e_, ob_s, rp_num1 p_, ob_s, rp_num1 p_, ob_s, rp_num1 p_, ob_s, if_pos p_, if_pos f_]
    exact ⟨_, rfl, F_, Or.inl ⟨_, rfl, Or.inl x_⟩⟩
  · obtain ⟨J_, e_, F_, e2_, P_⟩ := rp_room h hk hA hN (j := 7) (c := qN L) (m := 4) (by omega) (by omega) (by omega) c_ f_
    obtain ⟨v_, J2_, e3_, F2_, A2_, S2_, w_⟩ := rp_numS (lo := jn 0) (hi := jn 99) P_ (mA_F hA F_) hN (mS_2 hS e2_)
    rw [e_, ob_s, e3_, ob_s, if_neg f_]
    have G2_ := mF_tr F_ F2_
    dsimp only
    rcases w_ with ⟨x_, ex_, fx_, p_, _⟩ | ⟨r_, er_, p_, _, _, z_, l1_, l2_⟩
    · rw [rp_num1 p_, ob_s, rp_num1 p_, ob_s, if_pos p_, ex_]
      exact ⟨_, rfl, G2_, Or.inl ⟨_, rfl, Or.inl fx_⟩⟩
    obtain ⟨v2_, J3_, e4_, F3_, A3_, S3_, w2_⟩ := rp_numS (lo := jn 1) (hi := jn 99) p_ A2_ hN S2_
    rw [e4_, ob_s, er_, eb_r]
    have G3_ := mF_tr G2_ F3_
    dsimp only
    rcases w2_ with ⟨x_, ex_, fx_, p2_, _⟩ | ⟨r2_, er2_, p2_, _, _, z2_, l3_, l4_⟩
    · rw [rp_num1 p2_, ob_s, if_pos p2_, ex_]
      exact ⟨_, rfl, G3_, Or.inl ⟨_, rfl, Or.inl fx_⟩⟩
    obtain ⟨v3_, J4_, e5_, F4_, A4_, S4_, w3_⟩ := rp_numS (lo := jn 0) (hi := jn 9) p2_ A3_ hN S3_
    rw [e5_, ob_s, er2_, eb_r]
    have G4_ := mF_tr G3_ F4_
    dsimp only
    rcases w3_ with ⟨x_, ex_, fx_, p3_, _⟩ | ⟨r3_, er3_, p3_, _, _, z3_, l5_, l6_⟩
    · rw [if_pos p3_, ex_]
      exact ⟨_, rfl, G4_, Or.inl ⟨_, rfl, Or.inl fx_⟩⟩
    · obtain ⟨zz_, m_⟩ := S4_
      have c2_ : J4_ 242 7 = jn (qN L) := m_.2.2.1
      have in_ : z_in (jn 7) 173 := by rw [jn_in (by omega)]; omega
      obtain ⟨zn_, mm_⟩ := qM_nat m_ g (show qN L < 4 by omega) v_ v2_ v3_
      rw [if_neg (show ¬ jn 0 < J4_ 241 10 by rw [z3_]; decide), er3_, eb_r, if_pos in_, jn_n (a := 7) (by omega), c2_, rm_putN (by omega) (by omega), ob_s, rm_putN (by omega) (by omega), ob_s, rm_putN (by omega) (by omega), ob_s, if_pos in_, if_pos in_, ju_ne (by omega), ju_ne (by omega), ju_ne (by omega), c2_, jn_add]
      refine ⟨_, rfl, mF_tr G4_ (mF_2 (fun b hb => by rw [ju_na hb, ju_na hb, ju_na hb, ju_na hb])), Or.inr ⟨_, _, rfl, rP_2 p3_ (fun b hb => by rw [ju_na hb, ju_na hb, ju_na hb, ju_na hb]), zn_, ?_⟩⟩
      rw [ju_up, ju_up, ju_up, ju_up]
      exact qM_B mm_ (by omega)
end LNM
