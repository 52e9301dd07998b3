/-! what holds between calls; guards on both sides -/
def IvB (I : z_H) : Prop := ∃ b, b ≤ 500 ∧ I 0 1 = jn b ∧ I 241 9 = jn b ∧ ∀ k, k < b → I 1 k = I 247 k
def IvT (I : z_H) : Prop := ∃ w, wT w I ∧ wM w I
def IvP (I : z_H) : Prop := I 0 2 = I 241 10 ∧ I 0 3 = I 241 11
def IvN (I : z_H) : Prop := I 0 4 = jn 0 ∧ I 241 6 = jn 0 ∧ I 55 0 = jn 0 ∧ I 241 7 = jn 0 ∧ ∀ k, k < 2 → I 238 k = jn 0 ∧ I 246 k = jn 0
def IvL (n B : Nat) (L : LL) (U : List LL) (V : Nat → Option LL) (I : z_H) : Prop := I 0 4 = jn 1 ∧ I 241 6 = jn 1 ∧ qG L ∧ gU U ∧ gV V ∧ qS L I (n + 7) (n + 1) ∧ qM L B (I 242) ∧ hU U I (n + 1) ∧ mU U B I ∧ hV V I (n + 1) ∧ mV V B I
def Inv (n B : Nat) (I : z_H) : Prop := (n = 2 ∨ n = 28) ∧ IvB I ∧ IvP I ∧ IvT I ∧ (IvN I ∨ ∃ L U V, IvL n B L U V I)
/-- an exception of the class and what the reference tells of it; or the same answer -/
def opR (cs : List (Nat × Nat)) (r : Nat ⊕ Int32) (v : Int32) (J : z_H) : Prop := match r with
  | .inr x => v = x ∧ J 241 0 = jn 0
  | .inl e => ∃ c, (e, c) ∈ cs ∧ J 241 0 = jn c
section IVV
variable {n B : Nat} {I J : z_H} {L : LL} {U : List LL} {V : Nat → Option LL}
/-- what readers may touch -/
theorem Inv_rd (h : Inv n B I) (f : ∀ b, ¬ b = 241 → ¬ b = 242 → ¬ b = 243 → ¬ b = 248 → ¬ b = n + 25 → J b = I b) (f1 : ∀ k, ¬ k = 0 → J 241 k = I 241 k) (f2 : ∀ k, k < 173 → J 242 k = I 242 k) : Inv n B J := by
  obtain ⟨hn_, ⟨b_, b1_, b2_, b3_, b4_⟩, ⟨p1_, p2_⟩, ⟨w_, ⟨t1_, t2_, t3_⟩, ⟨t4_, t5_, t6_⟩⟩, s_⟩ := h
  have e_ : ∀ b, b < 241 → ¬ b = n + 25 → J b = I b := fun b hb hb2 => f b (by omega) (by omega) (by omega) (by omega) hb2
  refine ⟨hn_, ⟨b_, b1_, by rw [e_ 0 (by omega) (by omega)]; exact b2_, by rw [f1 9 (by omega)]; exact b3_, fun k hk => by rw [e_ 1 (by omega) (by omega), f 247 (by omega) (by omega) (by omega) (by omega) (by omega)]; exact b4_ k hk⟩, ⟨by rw [e_ 0 (by omega) (by omega), f1 10 (by omega)]; exact p1_, by rw [e_ 0 (by omega) (by omega), f1 11 (by omega)]; exact p2_⟩, ⟨w_, ⟨by rw [e_ 239 (by omega) (by omega)]; exact t1_, t2_, fun i c hc => by rw [e_ 240 (by omega) (by omega)]; exact t3_ i c hc⟩, ⟨by rw [f1 19 (by omega)]; exact t4_, t5_, fun i c hc => by rw [f 249 (by omega) (by omega) (by omega) (by omega) (by omega)]; exact t6_ i c hc⟩⟩, ?_⟩
  rcases s_ with ⟨n1_, n2_, n3_, n4_, n5_⟩ | ⟨L_, U_, V_, l1_, l2_, g_, gu_, gv_, qs_, qm_, hu_, mu_, hv_, mv_⟩
  · exact Or.inl ⟨by rw [e_ 0 (by omega) (by omega)]; exact n1_, by rw [f1 6 (by omega)]; exact n2_, by rw [e_ 55 (by omega) (by omega)]; exact n3_, by rw [f1 7 (by omega)]; exact n4_, fun k hk => ⟨by rw [e_ 238 (by omega) (by omega)]; exact (n5_ k hk).1, by rw [f 246 (by omega) (by omega) (by omega) (by omega) (by omega)]; exact (n5_ k hk).2⟩⟩
  · refine Or.inr ⟨L_, U_, V_, by rw [e_ 0 (by omega) (by omega)]; exact l1_, by rw [f1 6 (by omega)]; exact l2_, g_, gu_, gv_, qS_out qs_ (fun b b1 b2 => e_ b (by omega) (by omega)) (fun b b1 b2 => e_ b (by omega) (by omega)) g_, qM_cg qm_ g_ f2, hU_out hu_ gu_ (fun b b1 b2 => e_ b (by omega) (by omega)) (fun b b1 b2 => e_ b (by omega) (by omega)), mU_out mu_ (f1 7 (by omega)) (f 244 (by omega) (by omega) (by omega) (by omega) (by omega)), hV_out hv_ gv_ (fun b b1 b2 => e_ b (by omega) (by omega)) (fun b b1 b2 => e_ b (by omega) (by omega)), mV_out mv_ (f 245 (by omega) (by omega) (by omega) (by omega) (by omega)) (f 246 (by omega) (by omega) (by omega) (by omega) (by omega))⟩
theorem Inv_k (h : Inv n B I) (c : Int32) : Inv n B (ev_u2 I 241 0 c) := Inv_rd h (fun b b1 _ _ _ _ => ju_na b1) (fun k hk => ju_ne (fun q_ => hk q_.2)) (fun k _ => by rw [ju_na (by omega)])
theorem Inv_B {B2 : Nat} (h : Inv n B I) (hB : B ≤ B2) : Inv n B2 I := by
  obtain ⟨hn_, b_, p_, t_, s_⟩ := h
  refine ⟨hn_, b_, p_, t_, ?_⟩
  rcases s_ with k_ | ⟨L_, U_, V_, l1_, l2_, g_, gu_, gv_, qs_, qm_, hu_, mu_, hv_, mv_⟩
  · exact Or.inl k_
  · exact Or.inr ⟨L_, U_, V_, l1_, l2_, g_, gu_, gv_, qs_, qM_B qm_ hB, hu_, mU_B mu_ hB, hv_, mV_B mv_ hB⟩
theorem evS : 1000 < ev_S := by decide
/-- and the law's own array stays -/
abbrev Inw (n B : Nat) (I J : z_H) : Prop := Inv n B J ∧ J ev_S = I ev_S
theorem Inw_rd (h : Inv n B I) (f : ∀ b, ¬ b = 241 → ¬ b = 242 → ¬ b = 243 → ¬ b = 248 → ¬ b = n + 25 → J b = I b) (f1 : ∀ k, ¬ k = 0 → J 241 k = I 241 k) (f2 : ∀ k, k < 173 → J 242 k = I 242 k) : Inw n B I J := by
  have s_ := evS
  have n_ := h.1
  exact ⟨Inv_rd h f f1 f2, f ev_S (by omega) (by omega) (by omega) (by omega) (by omega)⟩
theorem Inw_k (h : Inv n B I) (c : Int32) : Inw n B I (ev_u2 I 241 0 c) := by
  have s_ := evS
  exact ⟨Inv_k h c, ju_na (by omega)⟩
abbrev Inx (n B : Nat) (I J1 J : z_H) : Prop := Inv n B J ∧ J ev_S = I ev_S ∧ J1 ev_S = I ev_S
theorem Inx_k (h : Inv n B I) (c : Int32) : Inx n B I I (ev_u2 I 241 0 c) := ⟨(Inw_k h c).1, (Inw_k h c).2, rfl⟩
theorem Inx_B {B2 : Nat} {J1 : z_H} (h : Inx n B I J1 J) (hB : B ≤ B2) : Inx n B2 I J1 J := ⟨Inv_B h.1 hB, h.2⟩
theorem Inx_w {J1 : z_H} (h : Inw n B I J) (e : J1 ev_S = I ev_S) : Inx n B I J1 J := ⟨h.1, h.2, e⟩
theorem Inx_r (h : Inw n B I J) : Inx n B I I J := ⟨h.1, h.2, rfl⟩
theorem Inw_B {B2 : Nat} (h : Inw n B I J) (hB : B ≤ B2) : Inw n B2 I J := ⟨Inv_B h.1 hB, h.2⟩
/-! the class's guards -/
theorem f_t0 (h : I 0 4 = jn 0) : d_F_needText I = some (.inl 0) := by
  unfold d_F_needText
  rw [if_pos h]
theorem f_t1 (h : I 0 4 = jn 1) : d_F_needText I = some (.inr ()) := by
  unfold d_F_needText
  rw [if_neg (by rw [h]; decide)]
theorem f_rY {lo hi : Nat} {x : Int32} (hl : lo < 1000) (hh : hi < 1000) (h : ¬ x < jn lo ∧ ¬ jn hi < x) : d_F_needRange x (jn lo) (jn hi) = some (.inr ()) := by
  unfold d_F_needRange
  rw [if_neg h.1, if_neg h.2]
theorem f_rN {lo hi : Int32} {x : Int32} (h : ¬ (¬ x < lo ∧ ¬ hi < x)) : d_F_needRange x lo hi = some (.inl 2) := by
  unfold d_F_needRange
  by_cases a_ : x < lo
  · rw [if_pos a_]
  · rw [if_neg a_]
    by_cases b_ : hi < x
    · rw [if_pos b_]
    · exact absurd ⟨a_, b_⟩ h
theorem f_rYi {lo hi : Int32} {x : Int32} (h : ¬ x < lo ∧ ¬ hi < x) : d_F_needRange x lo hi = some (.inr ()) := by
  unfold d_F_needRange
  rw [if_neg h.1, if_neg h.2]
def hOk (x : Int32) : Prop := ¬ x < jn 0 ∧ ¬ jn 3 < x
theorem f_hY {x : Int32} (h : hOk x) : d_F_needHeat x = some (.inr ()) := by
  unfold d_F_needHeat
  rw [f_rYi h, ob_s]
theorem f_hN {x : Int32} (h : ¬ hOk x) : d_F_needHeat x = some (.inl 2) := by
  unfold d_F_needHeat
  rw [f_rN h, ob_s]
theorem jltY {x : Int32} {c : Nat} (hc : c < 1000) (h : jlt x c) : ¬ x < jn 0 ∧ x < jn c := by
  obtain ⟨k_, hk_, rfl⟩ := h
  rw [jn_lt (by omega) (by omega), jn_lt (by omega) (by omega)]
  omega
theorem jltN {x : Int32} {c : Nat} (hc : c < 1000) (h : ¬ jlt x c) : x < jn 0 ∨ ¬ x < jn c := by
  by_cases a_ : x < jn 0
  · exact Or.inl a_
  · refine Or.inr (fun b_ => h ?_)
    rw [Int32.lt_iff_toInt_lt, jn_toInt (by omega)] at a_ b_
    refine ⟨x.toInt.toNat, by omega, Int32.toInt_inj.mp ?_⟩
    rw [jn_toInt (by omega)]
    omega
theorem f_gY {x y : Int32} {c : Nat} (hc : c < 1000) (hy : y = jn c) (h : jlt x c) : (if x < jn 0 then (some (Sum.inl 1) : Option (Nat ⊕ Unit)) else (if x < y then some (Sum.inr (())) else some (Sum.inl 1))) = some (.inr ()) := by
  have k_ := jltY hc h
  rw [if_neg k_.1, hy, if_pos k_.2]
theorem f_gN {x y : Int32} {c : Nat} (hc : c < 1000) (hy : y = jn c) (h : ¬ jlt x c) : (if x < jn 0 then (some (Sum.inl 1) : Option (Nat ⊕ Unit)) else (if x < y then some (Sum.inr (())) else some (Sum.inl 1))) = some (.inl 1) := by
  rcases jltN hc h with k_ | k_
  · rw [if_pos k_]
  · by_cases a_ : x < jn 0
    · rw [if_pos a_]
    · rw [if_neg a_, hy, if_neg k_]
theorem f_f0 (h : I 0 4 = jn 0) (x : Int32) : d_F_needFlag n x I = some (.inl 0) := by
  unfold d_F_needFlag
  rw [f_t0 h, ob_s]
theorem f_n0 (h : I 0 4 = jn 0) (x : Int32) : d_F_needNation n x I = some (.inl 0) := by
  unfold d_F_needNation
  rw [f_t0 h, ob_s]
theorem f_u0 (h : I 0 4 = jn 0) (x : Int32) : d_F_needTub n x I = some (.inl 0) := by
  unfold d_F_needTub
  rw [f_t0 h, ob_s]
theorem f_fY (h : I 0 4 = jn 1) (hS : qS L I (n + 7) (n + 1)) (g : qG L) {x : Int32} (hx : jlt x (qF L)) : d_F_needFlag n x I = some (.inr ()) := by
  have k_ := g.1
  unfold d_F_needFlag
  rw [f_t1 h, ob_s]
  exact f_gY (by omega) hS.2.1 hx
theorem f_fN (h : I 0 4 = jn 1) (hS : qS L I (n + 7) (n + 1)) (g : qG L) {x : Int32} (hx : ¬ jlt x (qF L)) : d_F_needFlag n x I = some (.inl 1) := by
  have k_ := g.1
  unfold d_F_needFlag
  rw [f_t1 h, ob_s]
  exact f_gN (by omega) hS.2.1 hx
theorem f_nY (h : I 0 4 = jn 1) (hS : qS L I (n + 7) (n + 1)) (g : qG L) {x : Int32} (hx : jlt x (qN L)) : d_F_needNation n x I = some (.inr ()) := by
  have k_ := g.2.2.1
  unfold d_F_needNation
  rw [f_t1 h, ob_s]
  exact f_gY (by omega) hS.2.2.2.2.1 hx
theorem f_nN (h : I 0 4 = jn 1) (hS : qS L I (n + 7) (n + 1)) (g : qG L) {x : Int32} (hx : ¬ jlt x (qN L)) : d_F_needNation n x I = some (.inl 1) := by
  have k_ := g.2.2.1
  unfold d_F_needNation
  rw [f_t1 h, ob_s]
  exact f_gN (by omega) hS.2.2.2.2.1 hx
theorem f_uY (h : I 0 4 = jn 1) (hS : qS L I (n + 7) (n + 1)) (g : qG L) {x : Int32} (hx : jlt x (qT L)) : d_F_needTub n x I = some (.inr ()) := by
  have k_ := g.2.2.2.1
  unfold d_F_needTub
  rw [f_t1 h, ob_s]
  exact f_gY (by omega) hS.2.2.2.2.2.1 hx
theorem f_uN (h : I 0 4 = jn 1) (hS : qS L I (n + 7) (n + 1)) (g : qG L) {x : Int32} (hx : ¬ jlt x (qT L)) : d_F_needTub n x I = some (.inl 1) := by
  have k_ := g.2.2.2.1
  unfold d_F_needTub
  rw [f_t1 h, ob_s]
  exact f_gN (by omega) hS.2.2.2.2.2.1 hx
theorem f_aY : d_F_needAllowed (jn 1) = some (.inr ()) := by
  unfold d_F_needAllowed
  rw [if_neg (by decide)]
theorem f_aN : d_F_needAllowed (jn 0) = some (.inl 2) := by
  unfold d_F_needAllowed
  rw [if_pos rfl]
/-! the reference's -/
theorem m_may {a b c : Int32} (q : Nat) (hq : q < 1000) (hv : (if a = jn 0 then jn 1 else (if b = jn 0 then jn 2 else (if c = jn 0 then jn 3 else jn 0))) = jn q) : d_M_may a b c I = some (if q = 0 then jn 1 else jn 0, ev_u2 I 241 0 (jn q)) := by
  have e_ : (if a = jn 0 then some (jn 1) else (if b = jn 0 then some (jn 2) else (if c = jn 0 then some (jn 3) else some (jn 0)))) = some (jn q) := by
    rw [← hv, ob_is, ob_is, ob_is]
  unfold d_M_may
  rw [e_, ob_s, ju_at]
  by_cases q0_ : q = 0
  · rw [if_pos (by rw [q0_]), ob_s, if_pos (Or.inr rfl), if_pos q0_]
  · rw [if_neg (by rw [jn_eq (by omega) (by omega)]; exact q0_), ob_s, if_pos (Or.inl rfl), if_neg q0_]
theorem m_may0 (b c : Int32) : d_M_may (jn 0) b c I = some (jn 0, ev_u2 I 241 0 (jn 1)) := m_may 1 (by omega) (if_pos rfl)
theorem m_may1 (c : Int32) : d_M_may (jn 1) (jn 0) c I = some (jn 0, ev_u2 I 241 0 (jn 2)) := m_may 2 (by omega) (by rw [if_neg (by decide), if_pos rfl])
theorem m_may2 : d_M_may (jn 1) (jn 1) (jn 0) I = some (jn 0, ev_u2 I 241 0 (jn 3)) := m_may 3 (by omega) (by rw [if_neg (by decide), if_neg (by decide), if_pos rfl])
theorem m_mayY : d_M_may (jn 1) (jn 1) (jn 1) I = some (jn 1, ev_u2 I 241 0 (jn 0)) := m_may 0 (by omega) (by rw [if_neg (by decide), if_neg (by decide), if_neg (by decide)])
theorem m_two0 (b : Int32) : d_M_mayTwo (jn 0) b I = some (jn 0, ev_u2 I 241 0 (jn 1)) := by
  unfold d_M_mayTwo
  rw [m_may0, ob_s, if_pos (Or.inl rfl)]
theorem m_two1 : d_M_mayTwo (jn 1) (jn 0) I = some (jn 0, ev_u2 I 241 0 (jn 2)) := by
  unfold d_M_mayTwo
  rw [m_may1, ob_s, if_pos (Or.inl rfl)]
theorem m_twoY : d_M_mayTwo (jn 1) (jn 1) I = some (jn 1, ev_u2 I 241 0 (jn 0)) := by
  unfold d_M_mayTwo
  rw [m_mayY, ob_s, if_pos (Or.inr rfl)]
theorem m_look0 (h : I 241 6 = jn 0) : d_M_mayLook I = some (jn 0, ev_u2 I 241 0 (jn 1)) := by
  unfold d_M_mayLook
  rw [h, m_may0, ob_s, if_pos (Or.inl rfl)]
theorem m_lookY (h : I 241 6 = jn 1) : d_M_mayLook I = some (jn 1, ev_u2 I 241 0 (jn 0)) := by
  unfold d_M_mayLook
  rw [h, m_mayY, ob_s, if_pos (Or.inr rfl)]
theorem m_hY {x : Int32} (h : hOk x) : d_M_isHeat x = some (jn 1) := by
  unfold d_M_isHeat
  rw [rp_rng, if_pos (show ¬ x < jn 0 ∧ ¬ jn 3 < x from h), ob_s, if_pos (Or.inr rfl)]
theorem m_hN {x : Int32} (h : ¬ hOk x) : d_M_isHeat x = some (jn 0) := by
  unfold d_M_isHeat
  rw [rp_rng, if_neg (show ¬ (¬ x < jn 0 ∧ ¬ jn 3 < x) from h), ob_s, if_pos (Or.inl rfl)]
theorem m_rY {lo hi x : Int32} (h : ¬ x < lo ∧ ¬ hi < x) : d_M_in x lo hi = some (jn 1) := by rw [rp_rng, if_pos h]
theorem m_rN {lo hi x : Int32} (h : ¬ (¬ x < lo ∧ ¬ hi < x)) : d_M_in x lo hi = some (jn 0) := by rw [rp_rng, if_neg h]
theorem jlt_r {x : Int32} {c : Nat} (hc : c < 1000) : (¬ x < jn 0 ∧ ¬ (jn c - jn 1) < x) ↔ jlt x c := by
  constructor
  · intro h_
    obtain ⟨k_, hk_, e_⟩ := jrg1 hc h_.1 h_.2
    exact ⟨k_, hk_, e_⟩
  · intro h_
    obtain ⟨k_, hk_, rfl⟩ := h_
    rw [jn_sub (by omega), jn_lt (by omega) (by omega), jn_lt (by omega) (by omega)]
    omega
theorem m_gY {x : Int32} {c : Nat} (hc : c < 1000) (h : jlt x c) : d_M_in x (jn 0) (jn c - jn 1) = some (jn 1) := m_rY ((jlt_r hc).mpr h)
theorem m_gN {x : Int32} {c : Nat} (hc : c < 1000) (h : ¬ jlt x c) : d_M_in x (jn 0) (jn c - jn 1) = some (jn 0) := m_rN (fun q_ => h ((jlt_r hc).mp q_))
theorem m_f0 (h : I 241 6 = jn 0) (x : Int32) : d_M_isFlag x I = some (jn 0) := by
  unfold d_M_isFlag
  rw [if_pos h, ob_s, if_pos (Or.inl rfl)]
theorem m_n0 (h : I 241 6 = jn 0) (x : Int32) : d_M_isNation x I = some (jn 0) := by
  unfold d_M_isNation
  rw [if_pos h, ob_s, if_pos (Or.inl rfl)]
theorem m_u0 (h : I 241 6 = jn 0) (x : Int32) : d_M_isTub x I = some (jn 0) := by
  unfold d_M_isTub
  rw [if_pos h, ob_s, if_pos (Or.inl rfl)]
theorem m_c0 (h : I 241 6 = jn 0) (x : Int32) : d_M_isColour x I = some (jn 0) := by
  unfold d_M_isColour
  rw [if_pos h, ob_s, if_pos (Or.inl rfl)]
theorem m_n6 (h : I 241 6 = jn 1) : ¬ I 241 6 = jn 0 := by rw [h]; decide
theorem m_fY (h : I 241 6 = jn 1) (m : qM L B (I 242)) (g : qG L) {x : Int32} (hx : jlt x (qF L)) : d_M_isFlag x I = some (jn 1) := by
  have k_ := g.1
  unfold d_M_isFlag
  rw [if_neg (m_n6 h), if_pos mq_in10, mq_F m, m_gY (by omega) hx, ob_s, if_neg (by decide), ob_s, if_pos (Or.inr rfl)]
theorem m_fN (h : I 241 6 = jn 1) (m : qM L B (I 242)) (g : qG L) {x : Int32} (hx : ¬ jlt x (qF L)) : d_M_isFlag x I = some (jn 0) := by
  have k_ := g.1
  unfold d_M_isFlag
  rw [if_neg (m_n6 h), if_pos mq_in10, mq_F m, m_gN (by omega) hx, ob_s, if_pos rfl, ob_s, if_pos (Or.inl rfl)]
theorem m_c6 (m : qM L B (I 242)) : I 242 (z_n (jn 6)) = jn (qC L) := by rw [jn_n (by omega)]; exact m.2.1
theorem m_c7 (m : qM L B (I 242)) : I 242 (z_n (jn 7)) = jn (qN L) := by rw [jn_n (by omega)]; exact m.2.2.1
theorem m_c8 (m : qM L B (I 242)) : I 242 (z_n (jn 8)) = jn (qT L) := by rw [jn_n (by omega)]; exact m.2.2.2.1
theorem in173 {k : Nat} (h : k < 173) : z_in (jn k) 173 := by rw [jn_in (by omega)]; exact h
theorem m_nY (h : I 241 6 = jn 1) (m : qM L B (I 242)) (g : qG L) {x : Int32} (hx : jlt x (qN L)) : d_M_isNation x I = some (jn 1) := by
  have k_ := g.2.2.1
  unfold d_M_isNation
  rw [if_neg (m_n6 h), if_pos (in173 (by omega)), m_c7 m, m_gY (by omega) hx, ob_s, if_neg (by decide), ob_s, if_pos (Or.inr rfl)]
theorem m_nN (h : I 241 6 = jn 1) (m : qM L B (I 242)) (g : qG L) {x : Int32} (hx : ¬ jlt x (qN L)) : d_M_isNation x I = some (jn 0) := by
  have k_ := g.2.2.1
  unfold d_M_isNation
  rw [if_neg (m_n6 h), if_pos (in173 (by omega)), m_c7 m, m_gN (by omega) hx, ob_s, if_pos rfl, ob_s, if_pos (Or.inl rfl)]
theorem m_uY (h : I 241 6 = jn 1) (m : qM L B (I 242)) (g : qG L) {x : Int32} (hx : jlt x (qT L)) : d_M_isTub x I = some (jn 1) := by
  have k_ := g.2.2.2.1
  unfold d_M_isTub
  rw [if_neg (m_n6 h), if_pos (in173 (by omega)), m_c8 m, m_gY (by omega) hx, ob_s, if_neg (by decide), ob_s, if_pos (Or.inr rfl)]
theorem m_uN (h : I 241 6 = jn 1) (m : qM L B (I 242)) (g : qG L) {x : Int32} (hx : ¬ jlt x (qT L)) : d_M_isTub x I = some (jn 0) := by
  have k_ := g.2.2.2.1
  unfold d_M_isTub
  rw [if_neg (m_n6 h), if_pos (in173 (by omega)), m_c8 m, m_gN (by omega) hx, ob_s, if_pos rfl, ob_s, if_pos (Or.inl rfl)]
theorem m_cY (h : I 241 6 = jn 1) (m : qM L B (I 242)) (g : qG L) {x : Int32} (hx : jlt x (qC L)) : d_M_isColour x I = some (jn 1) := by
  have k_ := g.2.1
  unfold d_M_isColour
  rw [if_neg (m_n6 h), if_pos (in173 (by omega)), m_c6 m, m_gY (by omega) hx, ob_s, if_neg (by decide), ob_s, if_pos (Or.inr rfl)]
theorem m_cN (h : I 241 6 = jn 1) (m : qM L B (I 242)) (g : qG L) {x : Int32} (hx : ¬ jlt x (qC L)) : d_M_isColour x I = some (jn 0) := by
  have k_ := g.2.1
  unfold d_M_isColour
  rw [if_neg (m_n6 h), if_pos (in173 (by omega)), m_c6 m, m_gN (by omega) hx, ob_s, if_pos rfl, ob_s, if_pos (Or.inl rfl)]
theorem m_mF0 (h : I 241 6 = jn 0) (x : Int32) : d_M_mayFlag x I = some (jn 0, ev_u2 I 241 0 (jn 1)) := by
  unfold d_M_mayFlag
  rw [m_f0 h, ob_s, h, m_two0, ob_s, if_pos (Or.inl rfl)]
theorem m_mFN (h : I 241 6 = jn 1) (m : qM L B (I 242)) (g : qG L) {x : Int32} (hx : ¬ jlt x (qF L)) : d_M_mayFlag x I = some (jn 0, ev_u2 I 241 0 (jn 2)) := by
  unfold d_M_mayFlag
  rw [m_fN h m g hx, ob_s, h, m_two1, ob_s, if_pos (Or.inl rfl)]
theorem m_mFY (h : I 241 6 = jn 1) (m : qM L B (I 242)) (g : qG L) {x : Int32} (hx : jlt x (qF L)) : d_M_mayFlag x I = some (jn 1, ev_u2 I 241 0 (jn 0)) := by
  unfold d_M_mayFlag
  rw [m_fY h m g hx, ob_s, h, m_twoY, ob_s, if_pos (Or.inr rfl)]
theorem m_mU0 (h : I 241 6 = jn 0) (x : Int32) : d_M_mayTub x I = some (jn 0, ev_u2 I 241 0 (jn 1)) := by
  unfold d_M_mayTub
  rw [m_u0 h, ob_s, h, m_two0, ob_s, if_pos (Or.inl rfl)]
theorem m_mUN (h : I 241 6 = jn 1) (m : qM L B (I 242)) (g : qG L) {x : Int32} (hx : ¬ jlt x (qT L)) : d_M_mayTub x I = some (jn 0, ev_u2 I 241 0 (jn 2)) := by
  unfold d_M_mayTub
  rw [m_uN h m g hx, ob_s, h, m_two1, ob_s, if_pos (Or.inl rfl)]
theorem m_mUY (h : I 241 6 = jn 1) (m : qM L B (I 242)) (g : qG L) {x : Int32} (hx : jlt x (qT L)) : d_M_mayTub x I = some (jn 1, ev_u2 I 241 0 (jn 0)) := by
  unfold d_M_mayTub
  rw [m_uY h m g hx, ob_s, h, m_twoY, ob_s, if_pos (Or.inr rfl)]
theorem m_hB (x : Int32) : ∃ b, d_M_isHeat x = some b := by
  by_cases h_ : hOk x
  · exact ⟨_, m_hY h_⟩
  · exact ⟨_, m_hN h_⟩
theorem m_mH0 (h : I 241 6 = jn 0) (x y : Int32) : d_M_mayHeat x y I = some (jn 0, ev_u2 I 241 0 (jn 1)) := by
  obtain ⟨b_, e_⟩ := m_hB y
  unfold d_M_mayHeat
  rw [m_u0 h, ob_s, e_, ob_s, h, m_may0, ob_s, if_pos (Or.inl rfl)]
theorem m_mHN (h : I 241 6 = jn 1) (m : qM L B (I 242)) (g : qG L) {x : Int32} (hx : ¬ jlt x (qT L)) (y : Int32) : d_M_mayHeat x y I = some (jn 0, ev_u2 I 241 0 (jn 2)) := by
  obtain ⟨b_, e_⟩ := m_hB y
  unfold d_M_mayHeat
  rw [m_uN h m g hx, ob_s, e_, ob_s, h, m_may1, ob_s, if_pos (Or.inl rfl)]
theorem m_mHh (h : I 241 6 = jn 1) (m : qM L B (I 242)) (g : qG L) {x y : Int32} (hx : jlt x (qT L)) (hy : ¬ hOk y) : d_M_mayHeat x y I = some (jn 0, ev_u2 I 241 0 (jn 3)) := by
  unfold d_M_mayHeat
  rw [m_uY h m g hx, ob_s, m_hN hy, ob_s, h, m_may2, ob_s, if_pos (Or.inl rfl)]
theorem m_mHY (h : I 241 6 = jn 1) (m : qM L B (I 242)) (g : qG L) {x y : Int32} (hx : jlt x (qT L)) (hy : hOk y) : d_M_mayHeat x y I = some (jn 1, ev_u2 I 241 0 (jn 0)) := by
  unfold d_M_mayHeat
  rw [m_uY h m g hx, ob_s, m_hY hy, ob_s, h, m_mayY, ob_s, if_pos (Or.inr rfl)]
end IVV
