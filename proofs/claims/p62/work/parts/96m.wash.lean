/-! a tub washed, on both sides -/
theorem jand_le {a : Nat} (ha : a < 64) (z : Int32) : ∃ k, k ≤ a ∧ jn a &&& z = jn k := by
  refine ⟨(jn a &&& z).toBitVec.toNat, ?_, ?_⟩
  · rw [Int32.toBitVec_and, BitVec.toNat_and]
    refine Nat.le_trans Nat.and_le_left ?_
    show (BitVec.ofNat 32 a).toNat ≤ a
    rw [BitVec.toNat_ofNat]
    exact Nat.mod_le _ _
  · refine Int32.toBitVec_inj.1 ?_
    show _ = BitVec.ofNat 32 _
    rw [BitVec.ofNat_toNat, BitVec.setWidth_eq]
theorem jlt_and {m : Nat} (hm : m ≤ 6) {x : Int32} (hx : jlt x (2 ^ m)) (z : Int32) : jlt (x &&& z) (2 ^ m) := by
  have h2_ : 2 ^ m ≤ 64 := Nat.pow_le_pow_right (n := 2) (by omega) hm
  obtain ⟨a_, ha_, rfl⟩ := hx
  obtain ⟨k_, h1_, h3_⟩ := jand_le (a := a_) (by omega) z
  exact ⟨k_, by omega, h3_⟩
theorem jlt_orp {m : Nat} (hm : m ≤ 6) {x y : Int32} (hx : jlt x (2 ^ m)) (hy : jlt y (2 ^ m)) : jlt (x ||| y) (2 ^ m) := by
  have h2_ : 2 ^ m ≤ 64 := Nat.pow_le_pow_right (n := 2) (by omega) hm
  obtain ⟨a_, ha_, rfl⟩ := hx
  obtain ⟨c_, hc_, rfl⟩ := hy
  exact ⟨a_ ||| c_, Nat.or_lt_two_pow ha_ hc_, jn_or64 ⟨a_, by omega⟩ ⟨c_, by omega⟩⟩
theorem ycarr_lt {L : LL} (g : qG L) {t : Nat} (ht : t < qT L) : jlt (ycarr L t) (2 ^ qC L) := by
  have m_ := (g.2.2.2.2.2.2.2.1 t ht).2.2
  have f_ : ∀ (l : List Nat) (a : Int32), (∀ f, f ∈ l → f < qF L) → jlt a (2 ^ qC L) → jlt (l.foldl (fun a f => a ||| (qf L f 1 ||| qf L f 6)) a) (2 ^ qC L) := by
    intro l
    induction l with
    | nil => intro a _ ha; exact ha
    | cons c l ih_ =>
      intro a hl ha
      have q_ := g.2.2.2.2.2.1 c (hl c (List.mem_cons_self ..))
      exact ih_ _ (fun f hf => hl f (List.mem_cons_of_mem _ hf)) (jlt_orp g.2.1 ha (jlt_orp g.2.1 q_.2.1 q_.2.2.2.2.2.2.1))
  exact f_ _ _ (fun f hf => ((m_ f).mp hf).1) ⟨0, Nat.two_pow_pos _, rfl⟩
def Vwsh (L : LL) (x y : Int32) : Nat → Nat → Int32 := fun g k => if k = 3 then yaft L g x else if k = 4 then jn 9 else if k = 5 then z_mn (jn 9) ((qf L g 5 + jn 1) + x) else if k = 6 then qf L g 6 ||| ynew L g y else qf L g k
def Wwsh (L : LL) (t : Nat) (x y : Int32) : Nat → Nat → Int32 := fun g k => if g ∈ qt L t then Vwsh L x y g k else qf L g k
def Lwsh (L : LL) (t : Nat) (x : Int32) : LL := ls (Lclr (lq L (Wwsh L t x (yrunt L t x))) t) 4 (qs L 4 + jn 1)
theorem yaft_10 : ∀ (a : Fin 10) (b : Fin 4), ∃ k : Fin 10, z_mx (jn 0) ((jn a.val - jn 1) - (jn 2 * jn b.val)) = jn k.val := by decide +kernel
theorem ycrw_10 : ∀ (a : Fin 10) (b : Fin 4), ∃ k : Fin 10, z_mn (jn 9) ((jn a.val + jn 1) + jn b.val) = jn k.val := by decide +kernel
/-- numbers that no place tells, changed -/
theorem qG_lq {L : LL} (g : qG L) {W : Nat → Nat → Int32} (e : ∀ f k, f < qF L → k = 0 ∨ k = 1 ∨ k = 2 ∨ k = 7 ∨ k = 8 ∨ k = 9 → W f k = qf L f k) (h3 : ∀ f, f < qF L → jlt (W f 3) 10) (h4 : ∀ f, f < qF L → jlt (W f 4) 10) (h5 : ∀ f, f < qF L → jlt (W f 5) 10) (h6 : ∀ f, f < qF L → jlt (W f 6) (2 ^ qC L)) : qG (lq L W) := by
  obtain ⟨g1_, g2_, g3_, g4_, g5_, g6_, g7_, g8_, g9_, ga_⟩ := g
  refine ⟨g1_, g2_, g3_, g4_, g5_, fun a ha => ?_, g7_, fun v hv => ?_, g9_, fun a c ha hc => ?_⟩
  · have ha2_ : a < qF L := ha
    obtain ⟨q0_, q1_, q2_, q3_, q4_, q5_, q6_, q7_, q8_⟩ := g6_ a ha
    show jlt (W a 0) (qN L) ∧ jlt (W a 1) (2 ^ qC L) ∧ jlt (W a 2) 4 ∧ jlt (W a 3) 10 ∧ jlt (W a 4) 10 ∧ jlt (W a 5) 10 ∧ jlt (W a 6) (2 ^ qC L) ∧ jlt (W a 7) 3 ∧
      ((W a 8 = jn 0 ∧ W a 9 = jg 1) ∨ (W a 8 = jn 1 ∧ jlt (W a 9) (qT L)) ∨ (W a 8 = jn 2 ∧ jlt (W a 9) (qP L)) ∨ (W a 8 = jn 3 ∧ W a 9 = jg 1))
    rw [e a 0 ha2_ (by omega), e a 1 ha2_ (by omega), e a 2 ha2_ (by omega), e a 7 ha2_ (by omega), e a 8 ha2_ (by omega), e a 9 ha2_ (by omega)]
    exact ⟨q0_, q1_, q2_, h3 a ha2_, h4 a ha2_, h5 a ha2_, h6 a ha2_, q7_, q8_⟩
  · obtain ⟨q0_, q1_, q2_⟩ := g8_ v hv
    refine ⟨q0_, q1_, fun a => ?_⟩
    show a ∈ qt L v ↔ (a < qF L ∧ W a 8 = jn 1 ∧ W a 9 = jn v)
    rw [q2_ a]
    constructor
    · intro k_
      rw [e a 8 k_.1 (by omega), e a 9 k_.1 (by omega)]
      exact k_
    · intro k_
      rw [e a 8 k_.1 (by omega), e a 9 k_.1 (by omega)] at k_
      exact k_
  · show W a 8 = jn 2 → W c 8 = jn 2 → W a 9 = W c 9 → a = c
    rw [e a 8 ha (by omega), e c 8 hc (by omega), e a 9 ha (by omega), e c 9 hc (by omega)]
    exact ga_ a c ha hc
theorem wwsh_k {L : LL} {t : Nat} {x y : Int32} {f k : Nat} (h : k = 0 ∨ k = 1 ∨ k = 2 ∨ k = 7 ∨ k = 8 ∨ k = 9) : Wwsh L t x y f k = qf L f k := by
  unfold Wwsh Vwsh
  by_cases m_ : f ∈ qt L t
  · rw [if_pos m_, if_neg (by omega), if_neg (by omega), if_neg (by omega), if_neg (by omega)]
  · rw [if_neg m_]
theorem qG_ww {L : LL} (g : qG L) {t : Nat} (ht : t < qT L) {x : Int32} (hx : jlt x 4) : qG (lq L (Wwsh L t x (yrunt L t x))) := by
  obtain ⟨b_, hb_, rfl⟩ := hx
  have g2_ := g.2.1
  have v_ : ∀ f k, Wwsh L t (jn b_) (yrunt L t (jn b_)) f k = if f ∈ qt L t then Vwsh L (jn b_) (yrunt L t (jn b_)) f k else qf L f k := fun _ _ => rfl
  refine qG_lq g (fun f k _ hk => wwsh_k hk) (fun f hf => ?_) (fun f hf => ?_) (fun f hf => ?_) (fun f hf => ?_)
  · obtain ⟨q0_, q1_, q2_, q3_, q4_, q5_, q6_, q7_, q8_⟩ := g.2.2.2.2.2.1 f hf
    rw [v_]
    by_cases m_ : f ∈ qt L t
    · obtain ⟨a_, ha_, ea_⟩ := q3_
      obtain ⟨k_, ek_⟩ := yaft_10 ⟨a_, ha_⟩ ⟨b_, hb_⟩
      rw [if_pos m_]
      refine ⟨k_.val, k_.isLt, ?_⟩
      show yaft L f (jn b_) = _
      unfold yaft
      rw [ea_]
      exact ek_
    · rw [if_neg m_]; exact q3_
  · obtain ⟨q0_, q1_, q2_, q3_, q4_, q5_, q6_, q7_, q8_⟩ := g.2.2.2.2.2.1 f hf
    rw [v_]
    by_cases m_ : f ∈ qt L t
    · rw [if_pos m_]
      exact ⟨9, by omega, rfl⟩
    · rw [if_neg m_]; exact q4_
  · obtain ⟨q0_, q1_, q2_, q3_, q4_, q5_, q6_, q7_, q8_⟩ := g.2.2.2.2.2.1 f hf
    rw [v_]
    by_cases m_ : f ∈ qt L t
    · obtain ⟨a_, ha_, ea_⟩ := q5_
      obtain ⟨k_, ek_⟩ := ycrw_10 ⟨a_, ha_⟩ ⟨b_, hb_⟩
      rw [if_pos m_]
      refine ⟨k_.val, k_.isLt, ?_⟩
      show z_mn (jn 9) ((qf L f 5 + jn 1) + jn b_) = _
      rw [ea_]
      exact ek_
    · rw [if_neg m_]; exact q5_
  · obtain ⟨q0_, q1_, q2_, q3_, q4_, q5_, q6_, q7_, q8_⟩ := g.2.2.2.2.2.1 f hf
    rw [v_]
    by_cases m_ : f ∈ qt L t
    · rw [if_pos m_]
      show jlt (qf L f 6 ||| ynew L f (yrunt L t (jn b_))) _
      exact jlt_orp g2_ q6_ (jlt_and g2_ (jlt_and g2_ (ycarr_lt g ht) _) _)
    · rw [if_neg m_]; exact q6_
theorem qG_wsh {L : LL} (g : qG L) {t : Nat} (ht : t < qT L) {x : Int32} (hx : jlt x 4) : qG (Lwsh L t x) := qG_s (qG_clr (qG_ww g ht hx) ht) (by omega)
theorem g_wash (a : Nat) (x y : Int32) (I : z_H) : ∃ J, d_G_takeWash a x y I = some J ∧ (∀ b, ¬ b = a → J b = I b) ∧ ∀ k, J a k = if k = 3 then z_mx (jn 0) ((I a 3 - jn 1) - (jn 2 * x)) else if k = 4 then jn 9 else if k = 5 then z_mn (jn 9) ((I a 5 + jn 1) + x) else if k = 6 then I a 6 ||| (y &&& ((I a 1 ||| I a 6) ^^^ jg 1)) else I a k := by
  unfold d_G_takeWash d_G_newStains d_G_dirtAfterWash
  refine ⟨_, rfl, fun b hb => by rw [ju_na hb, ju_na hb, ju_na hb, ju_na hb], fun k => ?_⟩
  by_cases k3_ : k = 3
  · rw [k3_]; simp [ev_u2]
  · by_cases k4_ : k = 4
    · rw [k4_]; simp [ev_u2]
    · by_cases k5_ : k = 5
      · rw [k5_]; simp [ev_u2]
      · by_cases k6_ : k = 6
        · rw [k6_]; simp [ev_u2]
        · simp [ev_u2, k3_, k4_, k5_, k6_]
theorem m_wash {f : Nat} (hf : f < 12) (x y : Int32) (I : z_H) : ∃ J, d_M_isWashed (jn f) y x I = some J ∧ (∀ a, ¬ a = 242 → J a = I a) ∧ (∀ j, j < 41 + 11 * f ∨ 41 + 11 * f + 10 ≤ j → J 242 j = I 242 j) ∧ ∀ k, k < 10 → J 242 (41 + 11 * f + k) = if k = 8 then jn 0 else if k = 9 then jg 1 else if k = 3 then z_mx (jn 0) ((I 242 (41 + 11 * f + 3) - jn 1) - (jn 2 * x)) else if k = 4 then jn 9 else if k = 5 then z_mn (jn 9) ((I 242 (41 + 11 * f + 5) + jn 1) + x) else if k = 6 then I 242 (41 + 11 * f + 6) ||| (y &&& ((I 242 (41 + 11 * f + 1) ||| I 242 (41 + 11 * f + 6)) ^^^ jg 1)) else I 242 (41 + 11 * f + k) := by
  refine ⟨ev_u2 (ev_u2 (ev_u2 (ev_u2 (ev_u2 (ev_u2 I 242 (41 + 11 * f + 6) (I 242 (41 + 11 * f + 6) ||| (y &&& ((I 242 (41 + 11 * f + 1) ||| I 242 (41 + 11 * f + 6)) ^^^ jg 1)))) 242 (41 + 11 * f + 3) (z_mx (jn 0) ((I 242 (41 + 11 * f + 3) - jn 1) - (jn 2 * x)))) 242 (41 + 11 * f + 4) (jn 9)) 242 (41 + 11 * f + 5) (z_mn (jn 9) ((I 242 (41 + 11 * f + 5) + jn 1) + x))) 242 (41 + 11 * f + 8) (jn 0)) 242 (41 + 11 * f + 9) (jg 1), ?_, fun a ha => by rw [ju_na ha, ju_na ha, ju_na ha, ju_na ha, ju_na ha, ju_na ha], fun j hj => by rw [ju_ne (by omega), ju_ne (by omega), ju_ne (by omega), ju_ne (by omega), ju_ne (by omega), ju_ne (by omega)], fun k hk => ?_⟩
  · unfold d_M_isWashed d_M_newStains d_M_dirtBehind
    rw [mq_ofFlag hf (by omega), ob_s, mq_ofFlag hf (by omega), ob_s, ob_s, ob_s, jnot_or, ← Int32.and_assoc, rm_put hf (by omega), ob_s, mq_ofFlag hf (by omega), ob_s, ob_s, ju_ne (by omega), rm_put hf (by omega), ob_s, rm_put hf (by omega), ob_s, mq_ofFlag hf (by omega), ob_s, ju_ne (by omega), ju_ne (by omega), ju_ne (by omega), rm_put hf (by omega), ob_s, rm_goes hf, ob_s]
  · by_cases k9_ : k = 9
    · rw [k9_, ju_at, if_neg (by omega), if_pos rfl]
    · rw [ju_ne (by omega), if_neg k9_]
      by_cases k8_ : k = 8
      · rw [k8_, ju_at, if_pos rfl]
      · rw [ju_ne (by omega), if_neg k8_]
        by_cases k3_ : k = 3
        · rw [k3_, if_pos rfl, ju_ne (by omega), ju_ne (by omega), ju_at]
        · rw [if_neg k3_]
          by_cases k4_ : k = 4
          · rw [k4_, if_pos rfl, ju_ne (by omega), ju_at]
          · rw [if_neg k4_]
            by_cases k5_ : k = 5
            · rw [k5_, if_pos rfl, ju_at]
            · rw [if_neg k5_]
              by_cases k6_ : k = 6
              · rw [k6_, if_pos rfl, ju_ne (by omega), ju_ne (by omega), ju_ne (by omega), ju_at]
              · rw [if_neg k6_, ju_ne (by omega), ju_ne (by omega), ju_ne (by omega), ju_ne (by omega)]
section WSH
variable {L : LL} {B : Nat} {I : z_H} {s t : Nat}
theorem sq_washTub (h : qS L I (s + 7) (s + 1)) (g : qG L) (ht : t < qT L) {x : Int32} (hx : jlt x 4) : ∃ J, d_L_washTub s (jn t) x I = some (ystn L t (yrunt L t x), J) ∧ WS (Lwsh L t x) I J (s + 7) (s + 1) := by
  have h1_ := g.1
  have b_ := qG_B g
  have hl_ := qt_len g ht
  have gw_ := qG_ww g ht hx
  have t_ := (g.2.2.2.2.2.2.2.1 t ht).2
  have c_ := (qS_r.mp h).2.2.2.2.2.2.2.2.1 t ht
  have hT_ := g.2.2.2.1
  have er_ : yrunt L t x = ycarr L t &&& yrun L x := rfl
  have z9_ := sq_tubloop (I := I) (s := s + 7) (W := Vwsh L x (yrunt L t x)) (fn := d_L_washTub_8 s (jn t) x (ycarr L t) (yrun L x)) hl_ t_.1 (fun f hf => by have k_ := ((t_.2 f).mp hf).1; omega) (fun i f J hi hf e1 e2 => ?_) (fun J e1 => ?_)
  · obtain ⟨r_, e_, e1_, e2_⟩ := z9_
    have r2_ : rS (lq L (Wwsh L t x (yrunt L t x))) (qpg L) r_.2 (s + 7) (s + 1) := rS_lq (qS_r.mp h) b_ (by omega) e1_ (fun f k hf hk => by
      rw [e2_ f k hk]
      unfold Wwsh
      by_cases m_ : f ∈ qt L t
      · rw [if_pos m_, if_pos m_]
      · rw [if_neg m_, if_neg m_]
        exact sq_f h hf hk)
    obtain ⟨J2_, k1_, k2_, k3_⟩ := rs_empty r2_ b_ (by omega) ht t_.1 (fun f hf => ((t_.2 f).mp hf).1) (fun v hv => qt_len g hv)
    have r3_ := rS_s k2_ b_ (by omega) (k := 4) (by omega) (qs L 4 + jn 1)
    refine ⟨ev_u2 J2_ (s + 7) 4 (qs L 4 + jn 1), ?_, rS_cg r3_ (fun p _ => ?_), fun a ha => by rw [ju_na (by omega), k3_ a ha, e1_ a (by omega)]⟩
    · unfold d_L_washTub
      rw [sq_carriedIn h g ht, ob_s, sq_running h g, ob_s, ← er_, sq_stained h g ht, ob_s, e_, ob_s, k1_, ob_s]
      show some (_, ev_u2 J2_ (s + 7) 4 (J2_ (s + 7) 4 + jn 1)) = _
      rw [k2_.1 4 (by omega)]
      rfl
    · show qpg L p = qpg (Lclr (lq L (Wwsh L t x (yrunt L t x))) t) p
      rw [qpg_clr gw_ ht]
      exact (qpg_cg (L := L) (L2 := lq L (Wwsh L t x (yrunt L t x))) (p := p) rfl (fun i _ => by
        show ((Wwsh L t x (yrunt L t x) i 8 = jn 2 ∧ Wwsh L t x (yrunt L t x) i 9 = jn p) ↔ _)
        rw [wwsh_k (by omega), wwsh_k (by omega)])).symm
  · have k_ := (List.getElem?_eq_some_iff.mp hi).1
    have hf2_ := ((t_.2 f).mp (List.mem_of_getElem? hi)).1
    obtain ⟨J2_, k1_, k2_, k3_⟩ := g_wash (s + 7 + 2 + f) x (yrunt L t x) J
    refine ⟨J2_, ?_, k2_, fun k hk => ?_⟩
    · unfold d_L_washTub_8
      dsimp only
      rw [if_pos (sq_tin g ht), sq_tn g ht, if_pos (show jn i < J (s + 7 + 14) t by rw [e1 (s + 7 + 14) (by omega), c_.2.1, jn_lt (by omega) (by omega)]; exact k_), rs_tub (by rw [e1 (s + 7 + 15) (by omega)]; exact c_.2.2 i f hi) (by omega) (by omega) hf, ob_s, ← er_, k1_, ob_s, jn_add]
    · rw [k3_ k]
      unfold Vwsh yaft ynew
      rw [e2 1 (by omega), e2 3 (by omega), e2 5 (by omega), e2 6 (by omega), e2 k hk, sq_f h hf2_ (by omega), sq_f h hf2_ (by omega), sq_f h hf2_ (by omega), sq_f h hf2_ (by omega), sq_f h hf2_ hk]
  · unfold d_L_washTub_8
    dsimp only
    rw [if_pos (sq_tin g ht), sq_tn g ht, if_neg (show ¬ jn (qt L t).length < J (s + 7 + 14) t by rw [e1 (s + 7 + 14) (by omega), c_.2.1, jn_lt (by omega) (by omega)]; omega)]
theorem mq_washTub (h : qM L B (I 242)) (g : qG L) (ht : t < qT L) (x : Int32) : ∃ J, d_M_washes (jn t) x I = some (ystn L t (yrunt L t x), J) ∧ WM (Lwsh L t x) B I J := by
  have h1_ := g.1
  have b_ := qG_B g
  have mt_ := (g.2.2.2.2.2.2.2.1 t ht).2.2
  have m_ := qM_r.mp h
  have z9_ := mq_flagloop (I := I) (W := Wclr (lq L (Wwsh L t x (yrunt L t x))) t) (fn := d_M_washes_6 (jn t) x (yrunt L t x)) (n := qF L) h1_ (fun i J hi e1 e2 e3 => ?_) (fun J e2 => ?_)
  · obtain ⟨r_, e_, e1_, e2_, e3_, e4_⟩ := z9_
    have r0_ : rM (lq L (Wclr (lq L (Wwsh L t x (yrunt L t x))) t)) (r_.2 242) := rM_lq (W := Wclr (lq L (Wwsh L t x (yrunt L t x))) t) m_.1 b_ e2_ (fun f k hf hk => e4_ f k hk hf)
    have r2_ : rM (Lclr (lq L (Wwsh L t x (yrunt L t x))) t) (r_.2 242) := r0_
    have o_ : qMo (Lclr (lq L (Wwsh L t x (yrunt L t x))) t) B (r_.2 242) := qMo_sub m_.2 rfl (fun v hv => by
      by_cases e5_ : v = t
      · rw [e5_, clr_t]; exact List.nil_sublist _
      · rw [clr_tn e5_]; exact List.Sublist.refl _) (e2_ 11 (by omega)) e3_
    refine ⟨ev_u2 r_.2 242 4 (qs L 4 + jn 1), ?_, ?_, fun a ha => by rw [ju_na ha, e1_ a ha]⟩
    · unfold d_M_washes
      rw [mq_runningIn h g ht, ob_s, mq_stained h g ht, ob_s, e_, ob_s, if_pos (show z_in (jn 4) 173 by rw [jn_in (by omega)]; omega), if_pos (show z_in (jn 4) 173 by rw [jn_in (by omega)]; omega), jn_n (by omega), e2_ 4 (by omega), h.1 4 (by omega)]
    · rw [ju_up]
      exact qM_s (qM_r.mpr ⟨r2_, o_⟩) (by omega) _
  · have q_ := fun k hk => (e3 k hk).trans (m_.1.2.2.2.2.2.2.2.2.2.1 i k hi hk)
    have c_ : (i ∈ qt L t) = (qf L i 8 = jn 1 ∧ qf L i 9 = jn t) := propext ⟨fun k_ => ((mt_ i).mp k_).2, fun k_ => (mt_ i).mpr ⟨hi, k_⟩⟩
    unfold d_M_washes_6
    dsimp only
    rw [if_pos mq_in10, if_pos (show jn i < J 242 (z_n (jn 10)) by rw [jn_n (by omega), e2 10 (by omega), h.2.2.2.2.2.1, jn_lt (by omega) (by omega)]; exact hi), rm_inTub (by omega), ob_s, q_ 8 (by omega), q_ 9 (by omega)]
    by_cases e5_ : i ∈ qt L t
    · have e6_ := e5_
      rw [c_] at e6_
      obtain ⟨J2_, k1_, k2_, k3_, k4_⟩ := m_wash (f := i) (by omega) x (yrunt L t x) J
      rw [if_pos e6_, if_neg (by decide), k1_, ob_s, ob_s, jn_add]
      refine ⟨_, rfl, k2_, k3_, fun k hk => ?_⟩
      rw [k4_ k hk, q_ 1 (by omega), q_ 3 (by omega), q_ 5 (by omega), q_ 6 (by omega), q_ k hk]
      show _ = if i ∈ qt L t then (if k = 8 then jn 0 else if k = 9 then jg 1 else (if i ∈ qt L t then Vwsh L x (yrunt L t x) i k else qf L i k)) else _
      rw [if_pos e5_, if_pos e5_]
      rfl
    · have e6_ := e5_
      rw [c_] at e6_
      rw [if_neg e6_, if_pos rfl, ob_s, jn_add]
      refine ⟨_, rfl, fun a ha => rfl, fun j hj => rfl, fun k hk => ?_⟩
      show _ = if i ∈ qt L t then _ else (if i ∈ qt L t then _ else qf L i k)
      rw [if_neg e5_, if_neg e5_, q_ k hk]
  · unfold d_M_washes_6
    dsimp only
    rw [if_pos mq_in10, if_neg (show ¬ jn (qF L) < J 242 (z_n (jn 10)) by rw [jn_n (by omega), e2 10 (by omega), h.2.2.2.2.2.1, jn_lt (by omega) (by omega)]; omega)]
end WSH
