/-! a tub emptied, on both sides -/
def Wclr (L : LL) (t : Nat) : Nat → Nat → Int32 := fun g k => if g ∈ qt L t then (if k = 8 then jn 0 else if k = 9 then jg 1 else qf L g k) else qf L g k
def Lclr (L : LL) (t : Nat) : LL := lt (lq L (Wclr L t)) t []
theorem clr_in {L : LL} {t g k : Nat} (h : g ∈ qt L t) : qf (Lclr L t) g k = if k = 8 then jn 0 else if k = 9 then jg 1 else qf L g k := if_pos h
theorem clr_out {L : LL} {t g k : Nat} (h : ¬ g ∈ qt L t) : qf (Lclr L t) g k = qf L g k := if_neg h
theorem clr_k {L : LL} {t g k : Nat} (h8 : ¬ k = 8) (h9 : ¬ k = 9) : qf (Lclr L t) g k = qf L g k := by
  by_cases h_ : g ∈ qt L t
  · rw [clr_in h_, if_neg h8, if_neg h9]
  · exact clr_out h_
theorem clr_t {L : LL} {t : Nat} : qt (Lclr L t) t = [] := lt_at
theorem clr_tn {L : LL} {t v : Nat} (h : ¬ v = t) : qt (Lclr L t) v = qt L v := lt_ne h
theorem qG_clr {L : LL} (g : qG L) {t : Nat} (ht : t < qT L) : qG (Lclr L t) := by
  have hT_ := g.2.2.2.1
  have mt_ := (g.2.2.2.2.2.2.2.1 t ht).2.2
  have n01_ : ¬ jn 0 = jn 1 := by decide
  have n02_ : ¬ jn 0 = jn 2 := by decide
  obtain ⟨g1_, g2_, g3_, g4_, g5_, g6_, g7_, g8_, g9_, ga_⟩ := g
  refine ⟨g1_, g2_, g3_, g4_, g5_, fun a ha => ?_, g7_, fun v hv => ?_, g9_, fun a c ha hc => ?_⟩
  · obtain ⟨q0_, q1_, q2_, q3_, q4_, q5_, q6_, q7_, q8_⟩ := g6_ a ha
    unfold qgf
    rw [clr_k (by omega) (by omega), clr_k (by omega) (by omega), clr_k (by omega) (by omega), clr_k (by omega) (by omega), clr_k (by omega) (by omega), clr_k (by omega) (by omega), clr_k (by omega) (by omega), clr_k (by omega) (by omega)]
    refine ⟨q0_, q1_, q2_, q3_, q4_, q5_, q6_, q7_, ?_⟩
    by_cases e_ : a ∈ qt L t
    · rw [clr_in e_, clr_in e_]
      exact Or.inl ⟨rfl, rfl⟩
    · rw [clr_out e_, clr_out e_]
      exact q8_
  · obtain ⟨⟨m_, hm_, em_, lm_⟩, q1_, q2_⟩ := g8_ v hv
    have hv2_ : v < qT L := hv
    by_cases e_ : v = t
    · rw [e_] at em_ ⊢
      unfold qgt
      rw [clr_t]
      refine ⟨⟨m_, hm_, em_, Nat.zero_le _⟩, List.nodup_nil, fun a => ⟨fun q_ => absurd q_ List.not_mem_nil, fun q_ => ?_⟩⟩
      obtain ⟨k1_, k2_, k3_⟩ := q_
      by_cases e2_ : a ∈ qt L t
      · rw [clr_in e2_] at k2_
        exact absurd k2_ n01_
      · rw [clr_out e2_] at k2_ k3_
        exact absurd ((mt_ a).mpr ⟨k1_, k2_, k3_⟩) e2_
    · unfold qgt
      rw [clr_tn e_]
      refine ⟨⟨m_, hm_, em_, lm_⟩, q1_, fun a => ?_⟩
      by_cases e2_ : a ∈ qt L t
      · rw [clr_in e2_, clr_in e2_]
        refine ⟨fun q_ => ?_, fun q_ => absurd q_.2.1 n01_⟩
        have k_ := ((q2_ a).mp q_).2.2
        rw [((mt_ a).mp e2_).2.2, jn_eq (by omega) (by omega)] at k_
        exact absurd k_.symm e_
      · rw [clr_out e2_, clr_out e2_]
        exact q2_ a
  · by_cases e_ : a ∈ qt L t
    · rw [clr_in e_]
      exact fun q_ => absurd q_ n02_
    · by_cases e2_ : c ∈ qt L t
      · rw [clr_in (g := c) e2_]
        exact fun _ q_ => absurd q_ n02_
      · rw [clr_out e_, clr_out e_, clr_out e2_, clr_out e2_]
        exact ga_ a c ha hc
theorem qpg_clr {L : LL} (g : qG L) {t : Nat} (ht : t < qT L) (p : Nat) : qpg (Lclr L t) p = qpg L p := by
  have mt_ := (g.2.2.2.2.2.2.2.1 t ht).2.2
  have n02_ : ¬ jn 0 = jn 2 := by decide
  have n12_ : ¬ jn 1 = jn 2 := by decide
  refine qpg_cg rfl (fun i hi => ?_)
  by_cases e_ : i ∈ qt L t
  · rw [clr_in e_, ((mt_ i).mp e_).2.1]
    exact ⟨fun q_ => absurd q_.1 n02_, fun q_ => absurd q_.1 n12_⟩
  · rw [clr_out e_, clr_out e_]
section CLR
variable {L : LL} {pg : Nat → Int32} {B : Nat} {I : z_H} {s u t : Nat}
theorem rs_empty (h : rS L pg I s u) (b : qB L) (d : u + 6 ≤ s) (ht : t < qT L) (hn : (qt L t).Nodup) (hm : ∀ f, f ∈ qt L t → f < qF L) (b6 : ∀ v, v < qT L → (qt L v).length ≤ 6) : ∃ J, d_S_emptyTub s (jn t) I = some (jn (qt L t).length, J) ∧ rS (Lclr L t) pg J s u ∧ ∀ a, a < s ∨ s + 18 ≤ a → J a = I a := by
  have b_ := b
  obtain ⟨b1_, b2_, b3_, b4_, b5_⟩ := b
  have hl_ := b6 t ht
  have t_ := (h.2.2.2.2.2.2.2.2.1 t ht)
  have in_ : z_in (jn t) 3 := by rw [jn_in (by omega)]; omega
  have z9_ := sq_tubloop (I := I) (s := s) (W := fun g k => if k = 8 then jn 0 else if k = 9 then jg 1 else qf L g k) (fn := d_S_emptyTub_3 s (jn t) I) hl_ hn (fun f hf => by have k_ := hm f hf; omega) (fun i f J hi hf e1 e2 => ?_) (fun J e1 => ?_)
  · obtain ⟨r_, e_, e1_, e2_⟩ := z9_
    refine ⟨ev_u2 r_.2 (s + 14) t (jn 0), ?_, ?_, fun a ha => by rw [ju_na (by omega), e1_ a (by omega)]⟩
    · unfold d_S_emptyTub
      rw [if_pos in_, e_, ob_s, if_pos in_, jn_n (by omega), t_.2.1]
    · have r2_ : rS (lq L (Wclr L t)) pg r_.2 s u := rS_lq h b_ d e1_ (fun f k hf hk => by
        rw [e2_ f k hk]
        unfold Wclr
        by_cases m_ : f ∈ qt L t
        · rw [if_pos m_, if_pos m_]
        · rw [if_neg m_, if_neg m_]
          exact h.2.2.2.2.2.2.2.2.2.1 f k hf hk)
      exact rS_t r2_ b_ d ht (Nat.zero_le _) (fun a h1 h2 => ju_na h1) (by rw [ju_at]; rfl) (fun v hv => ju_ne (fun q_ => hv q_.2)) (fun i f q_ => by cases q_) (fun v i _ _ => by rw [ju_na (by omega)]) b6
  · have k_ := (List.getElem?_eq_some_iff.mp hi).1
    refine ⟨ev_u2 (ev_u2 J (s + 2 + f) 8 (jn 0)) (s + 2 + f) 9 (jg 1), ?_, fun a ha => by rw [ju_na ha, ju_na ha], fun k hk => ?_⟩
    · unfold d_S_emptyTub_3 d_G_moveTo
      dsimp only
      rw [jn_n (by omega), t_.2.1, if_pos (by rw [jn_lt (by omega) (by omega)]; exact k_), rs_tub (by rw [e1 (s + 15) (by omega)]; exact t_.2.2 i f hi) (by omega) (by omega) hf, ob_s, ob_s, jn_add]
    · by_cases k9_ : k = 9
      · rw [k9_, ju_at, if_neg (by omega), if_pos rfl]
      · rw [ju_ne (fun q_ => k9_ q_.2)]
        by_cases k8_ : k = 8
        · rw [k8_, ju_at, if_pos rfl]
        · rw [ju_ne (fun q_ => k8_ q_.2), if_neg k8_, if_neg k9_, e2 k hk]
          exact h.2.2.2.2.2.2.2.2.2.1 f k (hm f (List.mem_of_getElem? hi)) hk
  · unfold d_S_emptyTub_3
    dsimp only
    rw [jn_n (by omega), t_.2.1, if_neg (by rw [jn_lt (by omega) (by omega)]; omega)]
theorem sq_clear (h : qS L I s u) (g : qG L) (d : u + 6 ≤ s) (ht : t < qT L) : ∃ J, d_S_emptyTub s (jn t) I = some (jn (qt L t).length, J) ∧ WS (Lclr L t) I J s u := by
  have t_ := (g.2.2.2.2.2.2.2.1 t ht).2
  obtain ⟨J_, e_, r_, f_⟩ := rs_empty (qS_r.mp h) (qG_B g) d ht t_.1 (fun f hf => ((t_.2 f).mp hf).1) (fun v hv => qt_len g hv)
  exact ⟨J_, e_, rS_cg r_ (fun p _ => (qpg_clr g ht p).symm), f_⟩
theorem rm_inTub {f : Nat} (hf : f < 12) (x : Int32) : d_M_isInTub (jn f) x I = some (if I 242 (41 + 11 * f + 8) = jn 1 ∧ I 242 (41 + 11 * f + 9) = x then jn 1 else jn 0) := by
  unfold d_M_isInTub d_M_where
  rw [mq_ofFlag hf (by omega), ob_s, ob_s]
  by_cases h1_ : I 242 (41 + 11 * f + 8) = jn 1
  · rw [if_pos h1_, mq_ofFlag hf (by omega), ob_s, ob_is, ob_s]
    rw [if_pos (by rw [j01]; trivial)]
    simp only [h1_, true_and]
  · rw [if_neg h1_, ob_s, if_pos (Or.inl rfl), if_neg (fun h9_ => h1_ h9_.1)]
theorem mq_clear (h : qM L B (I 242)) (g : qG L) (ht : t < qT L) : ∃ r, z_it (d_M_clearTub_8 (jn t)) z_F (jn 0, I) = some r ∧ WM (Lclr L t) B I r.2 := by
  have h1_ := g.1
  have b_ := qG_B g
  have mt_ := (g.2.2.2.2.2.2.2.1 t ht).2.2
  have m_ := qM_r.mp h
  have z9_ := mq_flagloop (I := I) (W := Wclr L t) (fn := d_M_clearTub_8 (jn t)) (n := qF L) h1_ (fun i J hi e1 e2 e3 => ?_) (fun J e2 => ?_)
  · obtain ⟨r_, e_, e1_, e2_, e3_, e4_⟩ := z9_
    refine ⟨r_, e_, qM_r.mpr ⟨?_, qMo_sub m_.2 rfl (fun v hv => ?_) (e2_ 11 (by omega)) e3_⟩, e1_⟩
    · exact rM_lq (W := Wclr L t) m_.1 b_ e2_ (fun f k hf hk => e4_ f k hk hf)
    · by_cases e5_ : v = t
      · rw [e5_, clr_t]; exact List.nil_sublist _
      · rw [clr_tn e5_]; exact List.Sublist.refl _
  · have q_ := fun k hk => (e3 k hk).trans (m_.1.2.2.2.2.2.2.2.2.2.1 i k hi hk)
    have c_ : (i ∈ qt L t) = (qf L i 8 = jn 1 ∧ qf L i 9 = jn t) := propext ⟨fun k_ => ((mt_ i).mp k_).2, fun k_ => (mt_ i).mpr ⟨hi, k_⟩⟩
    unfold d_M_clearTub_8
    dsimp only
    rw [if_pos mq_in10, if_pos (show jn i < J 242 (z_n (jn 10)) by rw [jn_n (by omega), e2 10 (by omega), h.2.2.2.2.2.1, jn_lt (by omega) (by omega)]; exact hi), rm_inTub (by omega), ob_s, q_ 8 (by omega), q_ 9 (by omega)]
    by_cases e5_ : i ∈ qt L t
    · have e6_ := e5_
      rw [c_] at e6_
      rw [if_pos e6_, if_neg (by decide), rm_goes (by omega), ob_s, ob_s, jn_add]
      refine ⟨_, rfl, fun a ha => by rw [ju_na ha, ju_na ha], fun j hj => by rw [ju_ne (by omega), ju_ne (by omega)], fun k hk => ?_⟩
      unfold Wclr
      rw [if_pos e5_]
      by_cases k9_ : k = 9
      · rw [k9_, ju_at, if_neg (by omega), if_pos rfl]
      · rw [ju_ne (by omega)]
        by_cases k8_ : k = 8
        · rw [k8_, ju_at, if_pos rfl]
        · rw [ju_ne (by omega), if_neg k8_, if_neg k9_, q_ k hk]
    · have e6_ := e5_
      rw [c_] at e6_
      rw [if_neg e6_, if_pos rfl, ob_s, jn_add]
      refine ⟨_, rfl, fun a ha => rfl, fun j hj => rfl, fun k hk => ?_⟩
      unfold Wclr
      rw [if_neg e5_, q_ k hk]
  · unfold d_M_clearTub_8
    dsimp only
    rw [if_pos mq_in10, if_neg (show ¬ jn (qF L) < J 242 (z_n (jn 10)) by rw [jn_n (by omega), e2 10 (by omega), h.2.2.2.2.2.1, jn_lt (by omega) (by omega)]; omega)]
end CLR
