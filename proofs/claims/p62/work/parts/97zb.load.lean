/-! load -/
def jz (I : z_H) (n : Nat) : z_H := jfd (fun i H => ev_u2 H 242 i (jn 0)) I n
section LOD
variable {n p B N b : Nat} {A : Nat → Int32} {I X K : z_H} {L M : LL} {U : List LL} {V : Nat → Option LL}
theorem jz_o : ∀ n, ∀ c, ¬ c = 242 → jz I n c = I c
  | 0, _, _ => rfl
  | n + 1, c, hc => by
    show ev_u2 (jz I n) 242 n (jn 0) c = _
    rw [ju_na hc]
    exact jz_o n c hc
theorem jz_k : ∀ n, ∀ k, k < n → jz I n 242 k = jn 0
  | 0, _, h => absurd h (Nat.not_lt_zero _)
  | n + 1, k, h => by
    show ev_u2 (jz I n) 242 n (jn 0) 242 k = _
    by_cases e_ : k = n
    · rw [e_, ju_at]
    · rw [ju_ne (fun q_ => e_ q_.2)]
      exact jz_k n k (by omega)
theorem jz_l : z_it d_M_load_8 z_F (jn 0, I) = some (jn 173, jz I 173) := by
  refine z_for0 (fun i => (jn i, jz I i)) 173 (by omega) (fun i hi => ?_) ?_
  · unfold d_M_load_8
    dsimp only
    rw [if_pos (show jn i < jn 173 by rw [jn_lt (by omega) (by omega)]; exact hi), if_pos (show z_in (jn i) 173 by rw [jn_in (by omega)]; exact hi), jn_n (by omega), jn_add]
    rfl
  · unfold d_M_load_8
    exact if_neg (show ¬ jn 173 < jn 173 by decide)
/-- the heap in which the reference begins to read -/
def jld (X : z_H) (x : Int32) : z_H := ev_u2 (ev_u2 (ev_u2 (ev_u2 (ev_u2 (ev_u2 X 241 0 (jn 0)) 241 12 x) 241 13 (jn 0)) 241 9 (jn 0)) 241 10 (jn 0)) 241 11 (jg 1)
theorem jld_o {x : Int32} {c : Nat} (h : ¬ c = 241) : jld X x c = X c := by
  unfold jld
  rw [ju_na h, ju_na h, ju_na h, ju_na h, ju_na h, ju_na h]
theorem jld_k {x : Int32} {k : Nat} (h : ¬ k = 0) (h2 : k < 9 ∨ 14 ≤ k) : jld X x 241 k = X 241 k := by
  unfold jld
  rw [ju_ne (by omega), ju_ne (by omega), ju_ne (by omega), ju_ne (by omega), ju_ne (by omega), ju_ne (by omega)]
theorem jld_f {x : Int32} : jld X x 241 0 = jn 0 ∧ jld X x 241 9 = jn 0 ∧ jld X x 241 10 = jn 0 ∧ jld X x 241 11 = jg 1 ∧ jld X x 241 12 = x ∧ jld X x 241 13 = jn 0 := by
  refine ⟨?_, ?_, ?_, ?_, ?_, ?_⟩ <;> (unfold jld; simp [ev_u2])
theorem rp_load (hN : N ≤ 500) (hA : mA N A X) : ∃ q5 K, d_M_thinks (jld X (jn N)) = some q5 ∧ d_M_readsText (jz q5 173) = some K ∧ tR N (aText N A) K ∧ (∀ c, ¬ c = 241 → ¬ c = 242 → ¬ c = 243 → K c = X c) ∧ (∀ k, k < 173 → K 243 k = X 242 k) ∧ K 241 0 = jn 0 ∧ K 241 9 = jn 0 ∧ ∀ k, ¬ k = 0 → k < 9 ∨ 17 ≤ k → K 241 k = X 241 k := by
  obtain ⟨q5_, e5_, f5_, g5_⟩ := mq_thinks (I := jld X (jn N))
  have z_ : ∀ c, ¬ c = 242 → ¬ c = 243 → jz q5_ 173 c = jld X (jn N) c := fun c h1 h2 => by rw [jz_o 173 c h1, f5_ c h2]
  have z241_ := z_ 241 (by omega) (by omega)
  obtain ⟨k0_, k9_, k10_, k11_, k12_, k13_⟩ := jld_f (X := X) (x := jn N)
  obtain ⟨K_, eK_, ⟨fK_, gK_⟩, tK_⟩ := rp_text (I := jz q5_ 173) (N := N) (A := A) (by rw [z241_]; exact k10_) (by rw [z241_]; exact k11_) (by rw [z241_]; exact k12_) (by rw [z241_]; exact k13_) (fun k hk => by rw [z_ 247 (by omega) (by omega), jld_o (by omega)]; exact hA k hk) hN (qM_00 (fun k hk => jz_k 173 k hk))
  refine ⟨q5_, K_, e5_, eK_, tK_, fun c h1 h2 h3 => ?_, fun k hk => ?_, ?_, ?_, fun k h0 hk => ?_⟩
  · rw [fK_ c h1 h2, z_ c h2 h3, jld_o h1]
  · rw [fK_ 243 (by omega) (by omega), jz_o 173 243 (by omega), g5_ k hk, jld_o (by omega)]
  · rw [gK_ 0 (by omega), z241_]; exact k0_
  · rw [gK_ 9 (by omega), z241_]; exact k9_
  · rw [gK_ k (by omega), z241_]; exact jld_k h0 (by omega)
/-- the reference's load from there -/
theorem mq_load (hb : X 241 9 = jn b) (hb5 : b ≤ 500) (hN : N ≤ b) (hA : mA N A X) : ∃ K, tR N (aText N A) K ∧ (∀ c, ¬ c = 241 → ¬ c = 242 → ¬ c = 243 → K c = X c) ∧ (∀ k, k < 173 → K 243 k = X 242 k) ∧ K 241 0 = jn 0 ∧ K 241 9 = jn 0 ∧ (∀ k, ¬ k = 0 → k < 9 ∨ 17 ≤ k → K 241 k = X 241 k) ∧ d_M_load (jn N) X = (if jn 0 < (K 241 10) then ((d_M_back ((jn 0)) (ev_u2 K 241 0 (jn 2))).bind fun q19 => some ((q19.1, q19.2))) else some ((((ev_u2 (ev_u2 (ev_u2 (ev_u2 K 241 6 (jn 1)) 241 7 (jn 0)) 246 0 (jn 0)) 246 1 (jn 0)) 242 10), (ev_u2 (ev_u2 (ev_u2 (ev_u2 K 241 6 (jn 1)) 241 7 (jn 0)) 246 0 (jn 0)) 246 1 (jn 0))))) := by
  obtain ⟨q5_, K_, e1_, e2_, h1_, h2_, h3_, h4_, h5_, h6_⟩ := rp_load (X := X) (N := N) (A := A) (by omega) hA
  refine ⟨K_, h1_, h2_, h3_, h4_, h5_, h6_, ?_⟩
  have n10_ : ¬ jn 1 = jn 0 := by decide
  have r_ : ¬ jn N < jn 0 ∧ ¬ jn b < jn N := by
    rw [jn_lt (by omega) (by omega), jn_lt (by omega) (by omega)]
    omega
  unfold d_M_load
  rw [hb, m_rY r_, ob_s, m_mayY, ob_s, if_neg n10_]
  show ((d_M_thinks (jld X (jn N))).bind _) = _
  rw [e1_, ob_s, jz_l, ob_s, e2_, ob_s]
  have i20_ : z_in (jn 0) 2 := by rw [jn_in (by omega)]; omega
  have i21_ : z_in (jn 1) 2 := by rw [jn_in (by omega)]; omega
  rw [if_pos i20_, if_pos i21_, ob_s, if_pos (in173 (show 10 < 173 by omega)), jbool0, jn_n (a := 0) (by omega), jn_n (a := 1) (by omega), jn_n (a := 10) (by omega)]
theorem op_load (h : Inv n B I) (hnp : n + p = 30) (hB : 500 ≤ B) (x1 : Int32) : ∃ r J1 v J, d_F_load n p x1 I = some (r, J1) ∧ d_M_load x1 J1 = some (v, J) ∧ opR [(1, 1), (2, 2)] r v J ∧ ((∃ e, r = .inl e ∧ Inx n B I J1 J) ∨ (∃ x, r = .inr x ∧ Inx p B I J1 J)) := by
  have evs_ := evS
  have h_ := h
  have n10_ : ¬ jn 1 = jn 0 := by decide
  obtain ⟨hn_, ⟨b_, hb5_, c1_, c9_, cb_⟩, hp_, ⟨w_, ⟨t1_, t2_, t3_⟩, ⟨t4_, t5_, t6_⟩⟩, s_⟩ := h
  have hp2_ : p = 2 ∨ p = 28 := by omega
  by_cases r_ : ¬ x1 < jn 0 ∧ ¬ jn b_ < x1
  rotate_left
  · refine ⟨.inl 1, I, jn 0, ev_u2 I 241 0 (jn 1), ?_, ?_, ⟨1, by decide, ju_at ..⟩, Or.inl ⟨1, rfl, Inx_k h_ _⟩⟩
    · unfold d_F_load
      by_cases q_ : x1 < jn 0
      · rw [if_pos q_]
      · rw [if_neg q_, c1_]
        by_cases q2_ : jn b_ < x1
        · rw [if_pos q2_]
        · exact absurd ⟨q_, q2_⟩ r_
    · unfold d_M_load
      rw [c9_, m_rN r_, ob_s, m_may0, ob_s, if_pos rfl]
  obtain ⟨N_, hN_, rfl⟩ := rng_n (by omega) (by omega) r_
  obtain ⟨K_, eK_, fK_, xK_⟩ := sp_read (a := p) (N := N_) (A := I 1) (I := ev_u2 I 0 1 (jn 0)) hp2_ (by omega) (fun k _ => by rw [ju_na (by omega)])
  have K0_ : ∀ k, ¬ k = 1 → K_ 0 k = I 0 k := fun k hk => by rw [fK_ 0 (by omega) (by omega), ju_ne (fun q_ => hk q_.2)]
  have K1_ : K_ 0 1 = jn 0 := by rw [fK_ 0 (by omega) (by omega), ju_at]
  have Ko_ : ∀ b, ¬ b = 0 → ¬ b = 54 → b < p + 1 ∨ p + 25 ≤ b → K_ b = I b := fun b h0 h1 h2 => by rw [fK_ b h1 h2, ju_na h0]
  have Y_ : ∃ Y, Y = ev_u2 (ev_u2 K_ 0 2 (K_ 54 0)) 0 3 (K_ 54 1) := ⟨_, rfl⟩
  obtain ⟨Y_, eY_⟩ := Y_
  have Yo_ : ∀ b, ¬ b = 0 → Y_ b = K_ b := fun b h0 => by rw [eY_, ju_na h0, ju_na h0]
  have Y1_ : Y_ 0 1 = jn 0 := by rw [eY_, ju_ne (by omega), ju_ne (by omega)]; exact K1_
  have Y2_ : Y_ 0 2 = K_ 54 0 := by rw [eY_, ju_ne (by omega), ju_at]
  have Y3_ : Y_ 0 3 = K_ 54 1 := by rw [eY_, ju_at]
  have Y4_ : Y_ 0 4 = I 0 4 := by rw [eY_, ju_ne (by omega), ju_ne (by omega)]; exact K0_ 4 (by omega)
  have ld_ : d_F_load n p (jn N_) I = (if Y_ 0 2 = jn 0 then ((d_H_forgetAll (ev_u2 Y_ 0 4 (jn 1))).bind fun q3 => some ((Sum.inr ((q3 (p + 7) 6)), q3))) else some ((Sum.inl 2, Y_))) := by
    have y_ : ev_u2 (ev_u2 K_ 0 2 (K_ 54 0)) 0 3 (ev_u2 K_ 0 2 (K_ 54 0) 54 1) = Y_ := by rw [eY_, ju_na (I := K_) (show ¬ 54 = 0 by omega)]
    unfold d_F_load
    rw [if_neg r_.1, if_neg (show ¬ I 0 1 < jn N_ by rw [c1_]; exact r_.2), eK_, ob_s, y_]
  rcases xK_ with ⟨e_, ea_, ⟨p0_, p1_⟩, q0_, q1_, q2_⟩ | ⟨L_, ea_, p0_, p1_, S_, g_⟩
  · -- the text is refused
    obtain ⟨Z_, tZ_, zo_, z3_, z0_, z9_, zk_, le_⟩ := mq_load (X := Y_) (b := b_) (N := N_) (A := I 1) (by rw [Yo_ 241 (by omega), Ko_ 241 (by omega) (by omega) (by omega)]; exact c9_) hb5_ hN_ (fun k hk => by rw [Yo_ 247 (by omega), Ko_ 247 (by omega) (by omega) (by omega)]; exact (cb_ k (by omega)).symm)
    rw [ea_] at tZ_
    rcases tZ_ with ⟨e2_, ee_, ⟨m0_, m1_⟩⟩ | ⟨L_, ee_, _⟩
    rotate_left
    · cases ee_
    cases ee_
    obtain ⟨J_, eJ_, fJ_, gJ_⟩ := mq_back (I := ev_u2 Z_ 241 0 (jn 2)) (jn 0)
    have o_ : ∀ b, ¬ b = 0 → ¬ b = 54 → b < p + 1 ∨ p + 25 ≤ b → ¬ b = 241 → ¬ b = 242 → ¬ b = 243 → J_ b = I b := fun b h0 h1 h2 h3 h4 h5 => by rw [fJ_ b h4, ju_na h3, zo_ b h3 h4 h5, Yo_ b h0, Ko_ b h0 h1 h2]
    have k_ : ∀ k, ¬ k = 0 → J_ 241 k = Z_ 241 k := fun k hk => by rw [fJ_ 241 (by omega), ju_ne (fun q_ => hk q_.2)]
    have kk_ : ∀ k, ¬ k = 0 → k < 9 ∨ 17 ≤ k → J_ 241 k = I 241 k := fun k hk hk2 => by rw [k_ k hk, zk_ k hk hk2, Yo_ 241 (by omega), Ko_ 241 (by omega) (by omega) (by omega)]
    have j0_ : ∀ k, J_ 0 k = Y_ 0 k := fun k => by rw [fJ_ 0 (by omega), ju_na (by omega), zo_ 0 (by omega) (by omega) (by omega)]
    refine ⟨.inl 2, Y_, jn 0, J_, ?_, ?_, ⟨2, by decide, ?_⟩, Or.inl ⟨2, rfl, ⟨Inv_h h_ ⟨0, by omega, ?_, ?_, fun k hk => absurd hk (Nat.not_lt_zero _)⟩ ⟨?_, ?_⟩ ⟨w_, ⟨?_, t2_, fun i c hc => ?_⟩, ⟨?_, t5_, fun i c hc => ?_⟩⟩ (fun b hb => o_ b (by omega) (by omega) (by omega) (by omega) (by omega) (by omega)) ?_ (kk_ 6 (by omega) (by omega)) (kk_ 7 (by omega) (by omega)) (fun k hk => ?_) (o_ 244 (by omega) (by omega) (by omega) (by omega) (by omega) (by omega)) (o_ 245 (by omega) (by omega) (by omega) (by omega) (by omega) (by omega)) (o_ 246 (by omega) (by omega) (by omega) (by omega) (by omega) (by omega)), o_ ev_S (by omega) (by omega) (by omega) (by omega) (by omega) (by omega), by rw [Yo_ ev_S (by omega), Ko_ ev_S (by omega) (by omega) (by omega)]⟩⟩⟩
    · rw [ld_, if_neg (show ¬ Y_ 0 2 = jn 0 by rw [Y2_, p0_, jn_eq (by omega) (by omega)]; exact q0_)]
    · rw [le_, if_pos (show jn 0 < Z_ 241 10 by rw [m0_, jn_lt (by omega) (by omega)]; omega), eJ_, ob_s]
    · rw [fJ_ 241 (by omega), ju_at]
    · rw [j0_, Y1_]
    · rw [k_ 9 (by omega), z9_]
    · rw [j0_, Y2_, p0_, k_ 10 (by omega), m0_]
    · rw [j0_, Y3_, p1_, k_ 11 (by omega), m1_]
    · rw [o_ 239 (by omega) (by omega) (by omega) (by omega) (by omega) (by omega)]; exact t1_
    · rw [o_ 240 (by omega) (by omega) (by omega) (by omega) (by omega) (by omega)]; exact t3_ i c hc
    · rw [kk_ 19 (by omega) (by omega)]; exact t4_
    · rw [o_ 249 (by omega) (by omega) (by omega) (by omega) (by omega) (by omega)]; exact t6_ i c hc
    · rw [j0_, Y4_]
    · rw [gJ_ k hk, ju_na (by omega), z3_ k hk, Yo_ 242 (by omega), Ko_ 242 (by omega) (by omega) (by omega)]
  · -- a laundry
    obtain ⟨W_, eW_, hu_, hv_, oW_⟩ := sq_forget (I := ev_u2 Y_ 0 4 (jn 1)) (u := p + 1)
    have Wo_ : ∀ b, ¬ b = 0 → ¬ b = 55 → ¬ b = 238 → W_ b = K_ b := fun b h0 h1 h2 => by rw [oW_ b h1 h2, ju_na h0, Yo_ b h0]
    have W0_ : ∀ k, ¬ k = 4 → W_ 0 k = Y_ 0 k := fun k hk => by rw [oW_ 0 (by omega) (by omega), ju_ne (fun q_ => hk q_.2)]
    have W4_ : W_ 0 4 = jn 1 := by rw [oW_ 0 (by omega) (by omega), ju_at]
    obtain ⟨Z_, tZ_, zo_, z3_, z0_, z9_, zk_, le_⟩ := mq_load (X := W_) (b := b_) (N := N_) (A := I 1) (by rw [Wo_ 241 (by omega) (by omega) (by omega), Ko_ 241 (by omega) (by omega) (by omega)]; exact c9_) hb5_ hN_ (fun k hk => by rw [Wo_ 247 (by omega) (by omega) (by omega), Ko_ 247 (by omega) (by omega) (by omega)]; exact (cb_ k (by omega)).symm)
    rw [ea_] at tZ_
    rcases tZ_ with ⟨e2_, ee_, _⟩ | ⟨L2_, ee_, m0_, m1_, z_, m2_⟩
    · cases ee_
    cases ee_
    have J_ : ∃ J, J = ev_u2 (ev_u2 (ev_u2 (ev_u2 Z_ 241 6 (jn 1)) 241 7 (jn 0)) 246 0 (jn 0)) 246 1 (jn 0) := ⟨_, rfl⟩
    obtain ⟨J_, eJ_⟩ := J_
    rw [← eJ_] at le_
    have jo_ : ∀ b, ¬ b = 241 → ¬ b = 246 → J_ b = Z_ b := fun b h1 h2 => by rw [eJ_, ju_na h2, ju_na h2, ju_na h1, ju_na h1]
    have jk_ : ∀ k, ¬ k = 6 → ¬ k = 7 → J_ 241 k = Z_ 241 k := fun k h1 h2 => by rw [eJ_, ju_na (by omega), ju_na (by omega), ju_ne (fun q_ => h2 q_.2), ju_ne (fun q_ => h1 q_.2)]
    have j6_ : J_ 241 6 = jn 1 := by rw [eJ_, ju_na (by omega), ju_na (by omega), ju_ne (by omega), ju_at]
    have j7_ : J_ 241 7 = jn 0 := by rw [eJ_, ju_na (by omega), ju_na (by omega), ju_at]
    have j46_ : ∀ k, k < 2 → J_ 246 k = jn 0 := fun k hk => by
      have k_ : k = 0 ∨ k = 1 := by omega
      rcases k_ with rfl | rfl
      · rw [eJ_, ju_ne (by omega), ju_at]
      · rw [eJ_, ju_at]
    have M_ : qM (Lz L_ z_) N_ (J_ 242) := by rw [jo_ 242 (by omega) (by omega)]; exact m2_
    have M2_ : qM (Lz L_ z_) B (J_ 242) := qM_B M_ (by omega)
    have o_ : ∀ b, ¬ b = 241 → ¬ b = 242 → ¬ b = 243 → ¬ b = 246 → J_ b = W_ b := fun b h1 h2 h3 h4 => by rw [jo_ b h1 h4, zo_ b h1 h2 h3]
    have oI_ : ∀ b, ¬ b = 0 → ¬ b = 54 → b < p + 1 ∨ p + 25 ≤ b → ¬ b = 241 → ¬ b = 242 → ¬ b = 243 → ¬ b = 246 → ¬ b = 55 → ¬ b = 238 → J_ b = I b := fun b h0 h1 h2 h3 h4 h5 h6 h7 h8 => by rw [o_ b h3 h4 h5 h6, Wo_ b h0 h7 h8, Ko_ b h0 h1 h2]
    have s6_ : W_ (p + 7) 6 = jn (qF L_) := by rw [Wo_ (p + 7) (by omega) (by omega) (by omega)]; exact S_.2.1
    have S2_ : qS (Lz L_ z_) K_ (p + 7) (p + 1) := lz_S S_
    have gz_ := qG_z g_ z_
    have f6_ : J_ 242 10 = jn (qF L_) := M_.2.2.2.2.2.1
    refine ⟨.inr (jn (qF L_)), W_, jn (qF L_), J_, ?_, ?_, ⟨rfl, ?_⟩, Or.inr ⟨_, rfl, ⟨hp2_, ⟨0, by omega, ?_, ?_, fun k hk => absurd hk (Nat.not_lt_zero _)⟩, ⟨?_, ?_⟩, ⟨w_, ⟨?_, t2_, fun i c hc => ?_⟩, ⟨?_, t5_, fun i c hc => ?_⟩⟩, Or.inr ⟨Lz L_ z_, [], fun _ => none, ?_, j6_, gz_, ⟨Nat.zero_le _, fun i N hi => by cases hi⟩, (fun k N hk => by cases hk), ?_, M2_, ?_, ⟨j7_, fun i N hi => by cases hi⟩, ?_, fun k hk => ⟨j46_ k hk, fun N hN => by cases hN⟩⟩⟩, oI_ ev_S (by omega) (by omega) (by omega) (by omega) (by omega) (by omega) (by omega) (by omega) (by omega), by rw [Wo_ ev_S (by omega) (by omega) (by omega), Ko_ ev_S (by omega) (by omega) (by omega)]⟩⟩
    · rw [ld_, if_pos (show Y_ 0 2 = jn 0 by rw [Y2_]; exact p0_), eW_, ob_s, s6_]
    · rw [le_, if_neg (show ¬ jn 0 < Z_ 241 10 by rw [m0_]; decide), f6_]
    · rw [jk_ 0 (by omega) (by omega), z0_]
    · rw [o_ 0 (by omega) (by omega) (by omega) (by omega), W0_ 1 (by omega), Y1_]
    · rw [jk_ 9 (by omega) (by omega), z9_]
    · rw [o_ 0 (by omega) (by omega) (by omega) (by omega), W0_ 2 (by omega), Y2_, p0_, jk_ 10 (by omega) (by omega), m0_]
    · rw [o_ 0 (by omega) (by omega) (by omega) (by omega), W0_ 3 (by omega), Y3_, p1_, jk_ 11 (by omega) (by omega), m1_]
    · rw [oI_ 239 (by omega) (by omega) (by omega) (by omega) (by omega) (by omega) (by omega) (by omega) (by omega)]; exact t1_
    · rw [oI_ 240 (by omega) (by omega) (by omega) (by omega) (by omega) (by omega) (by omega) (by omega) (by omega)]; exact t3_ i c hc
    · rw [jk_ 19 (by omega) (by omega), zk_ 19 (by omega) (by omega), Wo_ 241 (by omega) (by omega) (by omega), Ko_ 241 (by omega) (by omega) (by omega)]; exact t4_
    · rw [oI_ 249 (by omega) (by omega) (by omega) (by omega) (by omega) (by omega) (by omega) (by omega) (by omega)]; exact t6_ i c hc
    · rw [o_ 0 (by omega) (by omega) (by omega) (by omega), W4_]
    · exact qS_out S2_ (fun b b1 b2 => by rw [o_ b (by omega) (by omega) (by omega) (by omega), Wo_ b (by omega) (by omega) (by omega)]) (fun b b1 b2 => by rw [o_ b (by omega) (by omega) (by omega) (by omega), Wo_ b (by omega) (by omega) (by omega)]) gz_
    · exact hU_out hu_ ⟨Nat.zero_le _, fun i N hi => by cases hi⟩ (fun b b1 b2 => o_ b (by omega) (by omega) (by omega) (by omega)) (fun b b1 b2 => o_ b (by omega) (by omega) (by omega) (by omega))
    · exact hV_out hv_ (fun k N hk => by cases hk) (fun b b1 b2 => o_ b (by omega) (by omega) (by omega) (by omega)) (fun b b1 b2 => o_ b (by omega) (by omega) (by omega) (by omega))
end LOD
