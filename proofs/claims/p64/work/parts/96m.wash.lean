/-! a tub washed, on both sides -/
theorem jand_le {a : Nat} (ha : a < 64) (z : Int32) : ∃ k, k ≤ a ∧ jn a &&& z = jn k := by
  refine ⟨(jn a &&& z).toBitVec.toNat, ?_, ?_⟩
  · rw [Int32.toBitVec_and, BitVec.toNat_and]
    refine Nat.le_trans Nat.and_le_left ?_
    show (BitVec.ofNat 32 a).toNat ≤ a
    rw [BitVec.toNat_ofNat]
    exact Nat.mod_le _ _
  · refine Int32.toBitVec_inj.1 ?_
    show _ = BitVec.ofNat 32 _
    rw [BitVec.ofNat_toNat, BitVec.setWidth_eq]
theorem jlt_and {m : Nat} (hm : m ≤ 6) {x : Int32} (hx : jlt x (2 ^ m)) (z : Int32) : jlt (x &&& z) (2 ^ m) := by
  have h2_ : 2 ^ m ≤ 64 := Nat.pow_le_pow_right (n := 2) (by omega) hm
  obtain ⟨a_, ha_, rfl⟩ := hx
  obtain ⟨k_, h1_, h3_⟩ := jand_le (a := a_) (by omega) z
  exact ⟨k_, by omega, h3_⟩
theorem jlt_orp {m : Nat} (hm : m ≤ 6) {x y : Int32} (hx : jlt x (2 ^ m)) (hy : jlt y (2 ^ m)) : jlt (x ||| y) (2 ^ m) := by
  have h2_ : 2 ^ m ≤ 64 := Nat.pow_le_pow_right (n := 2) (by omega) hm
  obtain ⟨a_, ha_, rfl⟩ := hx
  obtain ⟨c_, hc_, rfl⟩ := hy
  exact ⟨a_ ||| c_, Nat.or_lt_two_pow ha_ hc_, jn_or64 ⟨a_, by omega⟩ ⟨c_, by omega⟩⟩
theorem ycarr_lt {L : LL} (g : qG L) {t : Nat} (ht : t < qT L) : jlt (ycarr L t) (2 ^ qC L) := by
  have m_ := (g.2.2.2.2.2.2.2.1 t ht).2.2
  have f_ : ∀ (l : List Nat) (a : Int32), (∀ f, f ∈ l → f < qF L) → jlt a (2 ^ qC L) → jlt (l.foldl (fun a f => a ||| (qf L f 1 ||| qf L f 6)) a) (2 ^ qC L) := by
    intro l
    induction l with
    | nil => intro a _ ha; exact ha
    | cons c l ih_ =>
      intro a hl ha
      have q_ := g.2.2.2.2.2.1 c (hl c (List.mem_cons_self ..))
      exact ih_ _ (fun f hf => hl f (List.mem_cons_of_mem _ hf)) (jlt_orp g.2.1 ha (jlt_orp g.2.1 q_.2.1 q_.2.2.2.2.2.2.1))
  exact f_ _ _ (fun f hf => ((m_ f).mp hf).1) ⟨0, Nat.two_pow_pos _, rfl⟩
def Vwsh (L : LL) (x y : Int32) : Nat → Nat → Int32 := fun g k => if k = 3 then yaft L g x else if k = 4 then jn 9 else if k = 5 then z_mn (jn 9) ((qf L g 5 + jn 1) + x) else if k = 6 then qf L g 6 ||| ynew L g y else qf L g k
def Wwsh (L : LL) (t : Nat) (x y : Int32) : Nat → Nat → Int32 := fun g k => if g ∈ qt L t then Vwsh L x y g k else qf L g k
def Lwsh (L : LL) (t : Nat) (x : Int32) : LL := ls (Lclr (lq L (Wwsh L t x (yrunt L t x))) t) 4 (qs L 4 + jn 1)
theorem yaft_10 : ∀ (a : Fin 10) (b : Fin 4), ∃ k : Fin 10, z_mx (jn 0) ((jn a.val - jn 1) - (jn 2 * jn b.val)) = jn k.val := by decide +kernel
theorem ycrw_10 : ∀ (a : Fin 10) (b : Fin 4), ∃ k : Fin 10, z_mn (jn 9) ((jn a.val + jn 1) + jn b.val) = jn k.val := by decide +kernel
/-- numbers that no place tells, changed -/
theorem qG_lq {L : LL} (g : qG L) {W : Nat → Nat → Int32} (e : ∀ f k, f < qF L → k = 0 ∨ k = 1 ∨ k = 2 ∨ k = 7 ∨ k = 8 ∨ k = 9 → W f k = qf L f k) (h3 : ∀ f, f < qF L → jlt (W f 3) 10) (h4 : ∀ f, f < qF L → jlt (W f 4) 10) (h5 : ∀ f, f < qF L → jlt (W f 5) 10) (h6 : ∀ f, f < qF L → jlt (W f 6) (2 ^ qC L)) : qG (lq L W) := by
  obtain ⟨g1_, g2_, g3_, g4_, g5_, g6_, g7_, g8_, g9_, ga_⟩ := g
  refine ⟨g1_, g2_, g3_, g4_, g5_, fun a ha => ?_, g7_, fun v hv => ?_, g9_, fun a c ha hc => ?_⟩
  · have ha2_ : a < qF L := ha
    obtain ⟨q0_, q1_, q2_, q3_, q4_, q5_, q6_, q7_, q8_⟩ := g6_ a ha
    show jlt (W a 0) (qN L) ∧ jlt (W a 1) (2 ^ qC L) ∧ jlt (W a 2) 4 ∧ jlt (W a 3) 10 ∧ jlt (W a 4) 10 ∧ jlt (W a 5) 10 ∧ jlt (W a 6) (2 ^ qC L) ∧ jlt (W a 7) 3 ∧
      ((W a 8 = jn 0 ∧ W a 9 = jg 1) ∨ (W a 8 = jn 1 ∧ jlt (W a 9) (qT L)) ∨ (W a 8 = jn 2 ∧ jlt (W a 9) (qP L)) ∨ (W a 8 = jn 3 ∧ W a 9 = jg 1))
    rw [e a 0 ha2_ (by omega), e a 1 ha2_ (by omega), e a 2 ha2_ (by omega), e a 7 ha2_ (by omega), e a 8 ha2_ (by omega), e a 9 ha2_ (by omega)]
    exact ⟨q0_, q1_, q2_, h3 a ha2_, h4 a ha2_, h5 a ha2_, h6 a ha2_, q7_, q8_⟩
  · obtain ⟨q0_, q1_, q2_⟩ := g8_ v hv
    refine ⟨q0_, q1_, fun a => ?_⟩
    show a ∈ qt L v ↔ (a < qF L ∧ W a 8 = jn 1 ∧ W a 9 = jn v)
    rw [q2_ a]
    constructor
    · intro k_
      rw [e a 8 k_.1 (by omega), e a 9 k_.1 (by omega)]
      exact k_
    · intro k_
      rw [e a 8 k_.1 (by omega), e a 9 k_.1 (by omega)] at k_
      exact k_
  · show W a 8 = jn 2 → W c 8 = jn 2 → W a 9 = W c 9 → a = c
    rw [e a 8 ha (by omega), e c 8 hc (by omega), e a 9 ha (by omega), e c 9 hc (by omega)]
    exact ga_ a c ha hc
theorem wwsh_k {L : LL} {t : Nat} {x y : Int32} {f k : Nat} (h : k = 0 ∨ k = 1 ∨ k = 2 ∨ k = 7 ∨ k = 8 ∨ k = 9) : Wwsh L t x y f k = qf L f k := by
  unfold Wwsh Vwsh
  by_cases m_ : f ∈ qt L t
  · rw [if_pos m_, if_neg (by omega), if_neg (by omega), if_neg (by omega), if_neg (by omega)]
  · rw [if_neg m_]
theorem qG_ww {L : LL} (g : qG L) {t : Nat} (ht : t < qT L) {x : Int32} (hx : jlt x 4) : qG (lq L (Wwsh L t x (yrunt L t x))) := by
  obtain ⟨b_, hb_, rfl⟩ := hx
  have g2_ := g.2.1
  have v_ : ∀ f k, Wwsh L t (jn b_) (yrunt L t (jn b_)) f k = if f ∈ qt L t then Vwsh L (jn b_) (yrunt L t (jn b_)) f k else qf L f k := fun _ _ => rfl
  refine qG_lq g (fun f k _ hk => wwsh_k hk) (fun f hf => ?_) (fun f hf => ?_) (fun f hf => ?_) (fun f hf => ?_)
  · obtain ⟨q0_, q1_, q2_, q3_, q4_, q5_, q6_, q7_, q8_⟩ := g.2.2.2.2.2.1 f hf
    rw [v_]
    by_cases m_ : f ∈ qt L t
    · obtain ⟨a_, ha_, ea_⟩ := q3_
      obtain ⟨k_, ek_⟩ := yaft_10 ⟨a_, ha_⟩ ⟨b_, hb_⟩
      rw [if_pos m_]
      refine ⟨k_.val, k_.isLt, ?_⟩
      show yaft L f (jn b_) = _
      unfold yaft
      rw [ea_]
      exact ek_
    · rw [if_neg m_]; exact q3_
  · obtain ⟨q0_, q1_, q2_, q3_, q4_, q5_, q6_, q7_, q8_⟩ := g.2.2.2.2.2.1 f hf
    rw [v_]
    by_cases m_ : f ∈ qt L t
    · rw [if_pos m_]
      exact ⟨9, by omega, rfl⟩
    · rw [if_neg m_]; exact q4_
  · obtain ⟨q0_, q1_, q2_, q3_, q4_, q5_, q6_, q7_, q8_⟩ := g.2.2.2.2.2.1 f hf
    rw [v_]
    by_cases m_ : f ∈ qt L t
    · obtain ⟨a_, ha_, ea_⟩ := q5_
      obtain ⟨k_, ek_⟩ := ycrw_10 ⟨a_, ha_⟩ ⟨b_, hb_⟩
      rw [if_pos m_]
      refine ⟨k_.val, k_.isLt, ?_⟩
      show z_mn (jn 9) ((qf L f 5 + jn 1) + jn b_) = _
      rw [ea_]
      exact ek_
    · rw [if_neg m_]; exact q5_
  · obtain ⟨q0_, q1_, q2_, q3_, q4_, q5_, q6_, q7_, q8_⟩ := g.2.2.2.2.2.1 f hf
    rw [v_]
    by_cases m_ : f ∈ qt L t
    · rw [if_pos m_]
      show jlt (qf L f 6 ||| ynew L f (yrunt L t (jn b_))) _
      exact jlt_orp g2_ q6_ (jlt_and g2_ (jlt_and g2_ (ycarr_lt g ht) _) _)
    · rw [if_neg m_]; exact q6_
theorem qG_wsh {L : LL} (g : qG L) {t : Nat} (ht : t < qT L) {x : Int32} (hx : jlt x 4) : qG (Lwsh L t x) := qG_s (qG_clr (qG_ww g ht hx) ht) (by omega)
theorem g_wash (a : Nat) (x y : Int32) (I : z_H) : ∃ J, d_G_takeWash a x y I = some J ∧ (∀ b, ¬ b = a → J b = I b) ∧ ∀ k, J a k = if k = 3 then z_mx (jn 0) ((I a 3 - jn 1) - (jn 2 * x)) else if k = 4 then jn 9 else if k = 5 then z_mn (jn 9) ((I a 5 + jn 1) + x) else if k = 6 then I a 6 ||| (y &&& ((I a 1 ||| I a 6) ^^^ jg 1)) else I a k := by
  unfold d_G_takeWash d_G_newStains d_G_dirtAfterWash
  refine ⟨_, rfl, fun b hb => by rw [ju_na hb, ju_na hb, ju_na hb, ju_na hb], fun k => ?_⟩
  by_cases k3_ : k = 3
  · rw [k3_]; simp [ev_u2]
  · by_cases k4_ : k = 4
    · rw [k4_]; simp [ev_u2]
    · by_cases k5_ : k = 5
      · rw [k5_]; simp [ev_u2]
      · by_cases k6_ : k = 6
        · rw [k6_]; simp [ev_u2]
        · simp [ev_u2, k3_, k4_, k5_, k6_]
section WSH
variable {L : LL} {B : Nat} {I : z_H} {s t : Nat}
theorem sq_washTub (h : qS L I (s + 7) (s + 1)) (g : qG L) (ht : t < qT L) {x : Int32} (hx : jlt x 4) : ∃ J, d_L_washTub s (jn t) x I = some (ystn L t (yrunt L t x), J) ∧ WS (Lwsh L t x) I J (s + 7) (s + 1) := by
  have h1_ := g.1
  have b_ := qG_B g
  have hl_ := qt_len g ht
  have gw_ := qG_ww g ht hx
  have t_ := (g.2.2.2.2.2.2.2.1 t ht).2
  have c_ := (qS_r.mp h).2.2.2.2.2.2.2.2.1 t ht
  have hT_ := g.2.2.2.1
  have er_ : yrunt L t x = ycarr L t &&& yrun L x := rfl
  have z9_ := sq_tubloop (I := I) (s := s + 7) (W := Vwsh L x (yrunt L t x)) (fn := d_L_washTub_8 s (jn t) x (ycarr L t) (yrun L x)) hl_ t_.1 (fun f hf => by have k_ := ((t_.2 f).mp hf).1; omega) (fun i f J hi hf e1 e2 => ?_) (fun J e1 => ?_)
  · obtain ⟨r_, e_, e1_, e2_⟩ := z9_
    have r2_ : rS (lq L (Wwsh L t x (yrunt L t x))) (qpg L) r_.2 (s + 7) (s + 1) := rS_lq (qS_r.mp h) b_ (by omega) e1_ (fun f k hf hk => by
      rw [e2_ f k hk]
      unfold Wwsh
      by_cases m_ : f ∈ qt L t
      · rw [if_pos m_, if_pos m_]
      · rw [if_neg m_, if_neg m_]
        exact sq_f h hf hk)
    obtain ⟨J2_, k1_, k2_, k3_⟩ := rs_empty r2_ b_ (by omega) ht t_.1 (fun f hf => ((t_.2 f).mp hf).1) (fun v hv => qt_len g hv)
    have r3_ := rS_s k2_ b_ (by omega) (k := 4) (by omega) (qs L 4 + jn 1)
    refine ⟨ev_u2 J2_ (s + 7) 4 (qs L 4 + jn 1), ?_, rS_cg r3_ (fun p _ => ?_), fun a ha => by rw [ju_na (by omega), k3_ a ha, e1_ a (by omega)]⟩
    · unfold d_L_washTub
      rw [sq_carriedIn h g ht, ob_s, sq_running h g, ob_s, ← er_, sq_stained h g ht, ob_s, e_, ob_s, k1_, ob_s]
      show some (_, ev_u2 J2_ (s + 7) 4 (J2_ (s + 7) 4 + jn 1)) = _
      rw [k2_.1 4 (by omega)]
      rfl
    · show qpg L p = qpg (Lclr (lq L (Wwsh L t x (yrunt L t x))) t) p
      rw [qpg_clr gw_ ht]
      exact (qpg_cg (L := L) (L2 := lq L (Wwsh L t x (yrunt L t x))) (p := p) rfl (fun i _ => by
        show ((Wwsh L t x (yrunt L t x) i 8 = jn 2 ∧ Wwsh L t x (yrunt L t x) i 9 = jn p) ↔ _)
        rw [wwsh_k (by omega), wwsh_k (by omega)])).symm
  · have k_ := (List.getElem?_eq_some_iff.mp hi).1
    have hf2_ := ((t_.2 f).mp (List.mem_of_getElem? hi)).1
    obtain ⟨J2_, k1_, k2_, k3_⟩ := g_wash (s + 7 + 2 + f) x (yrunt L t x) J
    refine ⟨J2_, ?_, k2_, fun k hk => ?_⟩
    · unfold d_L_washTub_8
      dsimp only
      rw [if_pos (sq_tin g ht), sq_tn g ht, if_pos (show jn i < J (s + 7 + 14) t by rw [e1 (s + 7 + 14) (by omega), c_.2.1, jn_lt (by omega) (by omega)]; exact k_), rs_tub (by rw [e1 (s + 7 + 15) (by omega)]; exact c_.2.2 i f hi) (by omega) (by omega) hf, ob_s, ← er_, k1_, ob_s, jn_add]
    · rw [k3_ k]
      unfold Vwsh yaft ynew
      rw [e2 1 (by omega), e2 3 (by omega), e2 5 (by omega), e2 6 (by omega), e2 k hk, sq_f h hf2_ (by omega), sq_f h hf2_ (by omega), sq_f h hf2_ (by omega), sq_f h hf2_ (by omega), sq_f h hf2_ hk]
  · unfold d_L_washTub_8
    dsimp only
    rw [if_pos (sq_tin g ht), sq_tn g ht, if_neg (show ¬ jn (qt L t).length < J (s + 7 + 14) t by rw [e1 (s + 7 + 14) (by omega), c_.2.1, jn_lt (by omega) (by omega)]; omega)]
end WSH
