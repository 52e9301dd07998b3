/-! out of a tub, into the basket, on both sides -/
def jwo (f : Nat) (l : List Nat) : List Nat := l.filter (fun a => decide (¬ a = f))
theorem jwo_le {f : Nat} {l : List Nat} : (jwo f l).length ≤ l.length := List.length_filter_le _ _
theorem jwo_mem {f a : Nat} {l : List Nat} : a ∈ jwo f l ↔ a ∈ l ∧ ¬ a = f := by
  unfold jwo
  rw [List.mem_filter, decide_eq_true_eq]
theorem jwo_s {f c i : Nat} {l : List Nat} (h : l[i]? = some c) : jwo f (l.take (i + 1)) = if c = f then jwo f (l.take i) else jwo f (l.take i) ++ [c] := by
  unfold jwo
  rw [List.take_add_one, h, List.filter_append, show (some c).toList = [c] from rfl]
  by_cases e_ : c = f
  · rw [if_pos e_, show (List.filter (fun a => decide (¬ a = f)) [c]) = [] from List.filter_cons_of_neg (p := fun a => decide (¬ a = f)) (a := c) (l := []) (fun q_ => (of_decide_eq_true q_) e_), List.append_nil]
  · rw [if_neg e_, show (List.filter (fun a => decide (¬ a = f)) [c]) = [c] from List.filter_cons_of_pos (p := fun a => decide (¬ a = f)) (a := c) (l := []) (decide_eq_true e_)]
def Ldrp (L : LL) (f t : Nat) : LL := lt (Lmv L f (jn 0) (jg 1)) t (jwo f (qt L t))
section DRP
variable {L : LL} {pg : Nat → Int32} {B : Nat} {I : z_H} {s u f t : Nat}
theorem drp_f {a k : Nat} (h : ¬ (a = f ∧ (k = 8 ∨ k = 9))) : qf (Ldrp L f t) a k = qf L a k := qf_mv (w := jn 0) (y := jg 1) h
theorem drp_8 : qf (Ldrp L f t) f 8 = jn 0 := qf_mv8 (w := jn 0) (y := jg 1)
theorem drp_9 : qf (Ldrp L f t) f 9 = jg 1 := qf_mv9 (w := jn 0) (y := jg 1)
theorem drp_t : qt (Ldrp L f t) t = jwo f (qt L t) := lt_at
theorem drp_tn {v : Nat} (h : ¬ v = t) : qt (Ldrp L f t) v = qt L v := lt_ne h
theorem qG_drp (g : qG L) (ht : t < qT L) (h8 : qf L f 8 = jn 1) (h9 : qf L f 9 = jn t) : qG (Ldrp L f t) := by
  have n01_ : ¬ jn 0 = jn 1 := by decide
  have n02_ : ¬ jn 0 = jn 2 := by decide
  obtain ⟨g1_, g2_, g3_, g4_, g5_, g6_, g7_, g8_, g9_, ga_⟩ := g
  refine ⟨g1_, g2_, g3_, g4_, g5_, fun a ha => ?_, g7_, fun v hv => ?_, g9_, fun a c ha hc => ?_⟩
  · obtain ⟨q0_, q1_, q2_, q3_, q4_, q5_, q6_, q7_, q8_⟩ := g6_ a ha
    unfold qgf
    rw [drp_f (by omega), drp_f (by omega), drp_f (by omega), drp_f (by omega), drp_f (by omega), drp_f (by omega), drp_f (by omega), drp_f (by omega)]
    refine ⟨q0_, q1_, q2_, q3_, q4_, q5_, q6_, q7_, ?_⟩
    by_cases e_ : a = f
    · rw [e_, drp_8, drp_9]
      exact Or.inl ⟨rfl, rfl⟩
    · rw [drp_f (fun q_ => e_ q_.1), drp_f (fun q_ => e_ q_.1)]
      exact q8_
  · obtain ⟨⟨m_, hm_, em_, lm_⟩, q1_, q2_⟩ := g8_ v hv
    have hv2_ : v < qT L := hv
    by_cases e_ : v = t
    · rw [e_] at em_ lm_ q1_ q2_ ⊢
      unfold qgt
      rw [drp_t]
      refine ⟨⟨m_, hm_, em_, Nat.le_trans jwo_le lm_⟩, List.Pairwise.filter _ q1_, fun a => ?_⟩
      rw [jwo_mem]
      by_cases e2_ : a = f
      · rw [e2_, drp_8]
        exact ⟨fun q_ => absurd rfl q_.2, fun q_ => absurd q_.2.1 n01_⟩
      · rw [drp_f (fun q_ => e2_ q_.1), drp_f (fun q_ => e2_ q_.1)]
        exact ⟨fun q_ => (q2_ a).mp q_.1, fun q_ => ⟨(q2_ a).mpr q_, e2_⟩⟩
    · unfold qgt
      rw [drp_tn e_]
      refine ⟨⟨m_, hm_, em_, lm_⟩, q1_, fun a => ?_⟩
      by_cases e2_ : a = f
      · rw [e2_, drp_8]
        refine ⟨fun q_ => ?_, fun q_ => absurd q_.2.1 n01_⟩
        have k_ := ((q2_ f).mp q_).2.2
        rw [h9, jn_eq (by omega) (by omega)] at k_
        exact absurd k_.symm e_
      · rw [drp_f (fun q_ => e2_ q_.1), drp_f (fun q_ => e2_ q_.1)]
        exact q2_ a
  · by_cases e_ : a = f
    · rw [e_, drp_8]
      exact fun q_ => absurd q_ n02_
    · by_cases e2_ : c = f
      · rw [e2_, drp_8]
        exact fun _ q_ => absurd q_ n02_
      · rw [drp_f (fun q_ => e_ q_.1), drp_f (fun q_ => e2_ q_.1), drp_f (fun q_ => e_ q_.1), drp_f (fun q_ => e2_ q_.1)]
        exact ga_ a c ha hc
theorem rs_dropTub (h : rS L pg I s u) (b : qB L) (d : u + 6 ≤ s) (hf : f < 12) (ht : t < qT L) (hm : ∀ a, a ∈ qt L t → a < 12) (b6 : ∀ v, v < qT L → (qt L v).length ≤ 6) : ∃ J, d_S_dropFromTub s (jn f) (jn t) I = some J ∧ rS (lt L t (jwo f (qt L t))) pg J s u ∧ ∀ a, ¬ a = s + 14 → ¬ a = s + 15 → J a = I a := by
  have b_ := b
  obtain ⟨b1_, b2_, b3_, b4_, b5_⟩ := b
  have hl_ := b6 t ht
  have t_ := (h.2.2.2.2.2.2.2.2.1 t ht)
  have in_ : z_in (jn t) 3 := by rw [jn_in (by omega)]; omega
  have lw_ : ∀ i, i ≤ (qt L t).length → (jwo f ((qt L t).take i)).length ≤ i := fun i hi => by
    have k_ := jwo_le (f := f) (l := (qt L t).take i)
    rw [List.length_take] at k_
    omega
  have z9_ : ∃ r, z_it (d_S_dropFromTub_2 s (jn f) (jn t)) z_F (jn 0, jn 0, I) = some r ∧ (r.1 = jn (jwo f (qt L t)).length ∧ (∀ a, ¬ a = s + 15 → r.2.2 a = I a) ∧ (∀ j c, (jwo f (qt L t))[j]? = some c → r.2.2 (s + 15) (t * 6 + j) = jn c) ∧ ∀ v j, ¬ v = t → j < 6 → r.2.2 (s + 15) (v * 6 + j) = I (s + 15) (v * 6 + j)) := by
    refine z_inv (fun (i : Nat) (p : Int32 × Int32 × z_H) => p.2.1 = jn i ∧ p.1 = jn (jwo f ((qt L t).take i)).length ∧ (∀ a, ¬ a = s + 15 → p.2.2 a = I a) ∧ (∀ j c, (jwo f ((qt L t).take i))[j]? = some c → p.2.2 (s + 15) (t * 6 + j) = jn c) ∧ (∀ j, i ≤ j → p.2.2 (s + 15) (t * 6 + j) = I (s + 15) (t * 6 + j)) ∧ ∀ v j, ¬ v = t → j < 6 → p.2.2 (s + 15) (v * 6 + j) = I (s + 15) (v * 6 + j)) (fun (r : Int32 × Int32 × z_H) => r.1 = jn (jwo f (qt L t)).length ∧ (∀ a, ¬ a = s + 15 → r.2.2 a = I a) ∧ (∀ j c, (jwo f (qt L t))[j]? = some c → r.2.2 (s + 15) (t * 6 + j) = jn c) ∧ ∀ v j, ¬ v = t → j < 6 → r.2.2 (s + 15) (v * 6 + j) = I (s + 15) (v * 6 + j)) (n := (qt L t).length) (by omega) ⟨rfl, rfl, fun _ _ => rfl, (fun j c q_ => by simp [jwo] at q_), fun _ _ => rfl, fun _ _ _ _ => rfl⟩ (fun i p hi hp => ?_) (fun p hp => ?_)
    · obtain ⟨e1_, e2_, e3_, e4_, e5_, e6_⟩ := hp
      obtain ⟨c_, hc_⟩ : ∃ c, (qt L t)[i]? = some c := ⟨(qt L t)[i], List.getElem?_eq_getElem hi⟩
      have k_ := lw_ i (by omega)
      have c12_ := hm c_ (List.mem_of_getElem? hc_)
      unfold d_S_dropFromTub_2
      rw [if_pos in_, e1_, jn_n (by omega), e3_ (s + 14) (by omega), t_.2.1, if_pos (by rw [jn_lt (by omega) (by omega)]; exact hi), e2_, jn_mul, jn_add, jn_add, if_pos (by rw [jn_in (by omega)]; omega), jn_n (by omega), e5_ i (by omega), t_.2.2 i c_ hc_, if_pos (show z_in (jn (t * 6 + (jwo f ((qt L t).take i)).length)) 18 by rw [jn_in (by omega)]; omega), jn_n (by omega), jwo_s hc_]
      by_cases q_ : c_ = f
      · rw [if_pos q_, if_pos (show jn c_ = jn f by rw [q_]), ob_s]
        exact ⟨_, rfl, by rw [jn_add], rfl, e3_, e4_, fun j hj => e5_ j (by omega), e6_⟩
      · rw [if_neg q_, if_neg (show ¬ jn c_ = jn f by rw [jn_eq (by omega) (by omega)]; exact q_), ob_s]
        refine ⟨_, rfl, jn_add i 1, by rw [jn_add, List.length_append]; rfl, fun a ha => ?_, fun j c hj => ?_, fun j hj => ?_, fun v j hv hj => ?_⟩
        · show ev_u2 p.2.2 (s + 15) _ _ a = I a
          rw [ju_na ha]
          exact e3_ a ha
        · show ev_u2 p.2.2 (s + 15) (t * 6 + (jwo f ((qt L t).take i)).length) (jn c_) (s + 15) (t * 6 + j) = jn c
          rcases Nat.lt_or_ge j (jwo f ((qt L t).take i)).length with w_ | w_
          · rw [List.getElem?_append_left w_] at hj
            rw [ju_ne (fun q2_ => by omega)]
            exact e4_ j c hj
          · rw [List.getElem?_append_right w_] at hj
            have k2_ : j - (jwo f ((qt L t).take i)).length = 0 := by
              have k3_ := (List.getElem?_eq_some_iff.mp hj).1
              have k4_ : ([c_] : List Nat).length = 1 := rfl
              omega
            rw [k2_] at hj
            have k5_ : c_ = c := Option.some.inj hj
            rw [show j = (jwo f ((qt L t).take i)).length from by omega, ju_at, k5_]
        · show ev_u2 p.2.2 (s + 15) (t * 6 + (jwo f ((qt L t).take i)).length) (jn c_) (s + 15) (t * 6 + j) = _
          rw [ju_ne (fun q2_ => by omega)]
          exact e5_ j (by omega)
        · show ev_u2 p.2.2 (s + 15) (t * 6 + (jwo f ((qt L t).take i)).length) (jn c_) (s + 15) (v * 6 + j) = _
          rw [ju_ne (fun q2_ => by
            have k6_ := q2_.2
            omega)]
          exact e6_ v j hv hj
    · obtain ⟨e1_, e2_, e3_, e4_, e5_, e6_⟩ := hp
      rw [List.take_length] at e2_ e4_
      unfold d_S_dropFromTub_2
      rw [if_pos in_, e1_, jn_n (by omega), e3_ (s + 14) (by omega), t_.2.1, if_neg (by rw [jn_lt (by omega) (by omega)]; omega)]
      exact ⟨_, rfl, e2_, e3_, e4_, e6_⟩
  obtain ⟨r_, e_, e1_, e2_, e3_, e4_⟩ := z9_
  refine ⟨ev_u2 r_.2.2 (s + 14) t (jn (jwo f (qt L t)).length), ?_, ?_, fun a h1 h2 => by rw [ju_na h1, e2_ a h2]⟩
  · unfold d_S_dropFromTub
    rw [e_, ob_s, if_pos in_, jn_n (by omega), e1_]
  · exact rS_t h b_ d ht (Nat.le_trans jwo_le hl_) (fun a h1 h2 => by rw [ju_na h1, e2_ a h2]) (by rw [ju_at]) (fun v hv => by rw [ju_ne (fun q_ => hv q_.2), e2_ (s + 14) (by omega)]) (fun i c hi => by rw [ju_na (by omega)]; exact e3_ i c hi) (fun v i hv hi => by rw [ju_na (by omega)]; exact e4_ v i hv hi) b6
theorem sq_offTub (h : qS L I s u) (g : qG L) (d : u + 6 ≤ s) (hf : f < qF L) (ht : t < qT L) (h8 : qf L f 8 = jn 1) (h9 : qf L f 9 = jn t) : ∃ J, d_S_moveToBasket s (jn f) I = some J ∧ WS (Ldrp L f t) I J s u := by
  have h1_ := g.1
  have b_ := qG_B g
  have n02_ : ¬ jn 0 = jn 2 := by decide
  have n12_ : ¬ jn 1 = jn 2 := by decide
  have t_ := (g.2.2.2.2.2.2.2.1 t ht).2
  obtain ⟨J_, e_, r_, f_⟩ := rs_dropTub (f := f) (qS_r.mp h) b_ d (by omega) ht (fun a ha => by have k_ := ((t_.2 a).mp ha).1; omega) (fun v hv => qt_len g hv)
  have r2_ := rS_mv (w := jn 0) (y := jg 1) r_ b_ d (f := f) (by omega)
  refine ⟨_, ?_, rS_cg r2_ (fun p _ => (qpg_mv2 (L := L) (w := jn 0) (y := jg 1) (f := f) (fun q_ => n02_ q_.1) (fun q_ => n12_ (h8.symm.trans q_.1))).symm), fun a ha => by rw [ju_na (by omega), ju_na (by omega), f_ a (by omega) (by omega)]⟩
  unfold d_S_moveToBasket d_G_moveTo
  rw [if_pos (sq_in g hf), sq_n g hf, sq_f h hf (by omega), sq_f h hf (by omega), h8, if_pos rfl, h9, e_, ob_s, ob_s, ob_s]
theorem mq_offTub (h : qM L B (I 242)) (g : qG L) (hf : f < qF L) : ∃ J, d_M_goesTo (jn f) (jn 0) (jg 1) I = some J ∧ WM (Ldrp L f t) B I J := by
  have h1_ := g.1
  have b_ := qG_B g
  have m_ := qM_r.mp h
  refine ⟨_, rm_goes (by omega) (jn 0) (jg 1), ?_, fun a ha => by rw [ju_na ha, ju_na ha]⟩
  rw [ju_up, ju_up]
  have r_ : rM (Lmv L f (jn 0) (jg 1)) (jup (jup (I 242) (41 + 11 * f + 8) (jn 0)) (41 + 11 * f + 9) (jg 1)) := rM_f (rM_f m_.1 b_ (f := f) (k := 8) (by omega) (jn 0)) b_ (f := f) (k := 9) (by omega) (jg 1)
  refine qM_r.mpr ⟨r_, qMo_sub m_.2 rfl (fun v hv => ?_) ?_ (fun a => ?_)⟩
  · by_cases e5_ : v = t
    · rw [e5_, drp_t]; exact List.filter_sublist
    · rw [drp_tn e5_]; exact List.Sublist.refl _
  · rw [jup_ne (by omega), jup_ne (by omega)]
  · rw [jup_ne (by omega), jup_ne (by omega)]
/-- taken down, from a tub or from the line -/
def Ltd (L : LL) (f : Nat) : LL := if qf L f 8 = jn 1 then Ldrp L f (z_n (qf L f 9)) else Lmv L f (jn 0) (jg 1)
theorem down_t (g : qG L) (hf : f < qF L) (h8 : qf L f 8 = jn 1) : ∃ v, v < qT L ∧ qf L f 9 = jn v := by
  rcases (g.2.2.2.2.2.1 f hf).2.2.2.2.2.2.2.2 with k_ | k_ | k_ | k_
  · exact absurd (k_.1.symm.trans h8) (by decide)
  · exact k_.2
  · exact absurd (k_.1.symm.trans h8) (by decide)
  · exact absurd (k_.1.symm.trans h8) (by decide)
theorem sq_down (h : qS L I s u) (g : qG L) (d : u + 6 ≤ s) (hf : f < qF L) (h0 : qf L f 8 = jn 1 ∨ qf L f 8 = jn 2) : ∃ J, d_S_moveToBasket s (jn f) I = some J ∧ WS (Ltd L f) I J s u ∧ qG (Ltd L f) := by
  have h4_ := g.2.2.2.1
  unfold Ltd
  by_cases h8_ : qf L f 8 = jn 1
  · obtain ⟨v_, hv_, e_⟩ := down_t g hf h8_
    rw [if_pos h8_, e_, jn_n (by omega)]
    obtain ⟨J_, e2_, w_⟩ := sq_offTub h g d hf hv_ h8_ e_
    exact ⟨J_, e2_, w_, qG_drp g hv_ h8_ e_⟩
  · rw [if_neg h8_]
    exact sq_offPeg h g d hf (h0.resolve_left h8_)
theorem mq_down (h : qM L B (I 242)) (g : qG L) (hf : f < qF L) : ∃ J, d_M_goesTo (jn f) (jn 0) (jg 1) I = some J ∧ WM (Ltd L f) B I J := by
  unfold Ltd
  by_cases h8_ : qf L f 8 = jn 1
  · rw [if_pos h8_]
    exact mq_offTub h g hf
  · rw [if_neg h8_]
    exact mq_goes h g hf (jn 0) (jg 1)
theorem td_4 (a : Nat) : qf (Ltd L f) a 4 = qf L a 4 := by
  unfold Ltd
  by_cases h8_ : qf L f 8 = jn 1
  · rw [if_pos h8_]
    exact drp_f (by omega)
  · rw [if_neg h8_]
    exact qf_mv (by omega)
end DRP
