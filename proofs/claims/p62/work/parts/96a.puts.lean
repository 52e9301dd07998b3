/-! putting a flag into a tub: what both sides do -/
section YQ
variable {L : LL} {B : Nat} {I : z_H} {s u : Nat}
theorem sq_moveTub (h : qS L I s u) (g : qG L) (d : u + 6 ≤ s) {f t : Nat} (hf : f < qF L) (ht : t < qT L) (h0 : qf L f 8 = jn 0) (hr : jn (qt L t).length < qo L t) : ∃ J, d_S_moveToTub s (jn f) (jn t) I = some (jn ((qt L t).length + 1), J) ∧ WS (Lput L f t) I J s u := by
  have h1_ := g.1
  have h2_ := g.2.2.2.1
  have b_ := qG_B g
  obtain ⟨m_, hm_, em_, lm_⟩ := (g.2.2.2.2.2.2.2.1 t ht).1
  rw [em_, jn_lt (by omega) (by omega)] at hr
  have r_ : rS (lt L t (qt L t ++ [f])) (qpg L) (ev_u2 (ev_u2 I (s + 15) (t * 6 + (qt L t).length) (jn f)) (s + 14) t (jn ((qt L t).length + 1))) s u := by
    refine rS_t (qS_r.mp h) b_ d ht ?_ (fun a ha1 ha2 => ?_) ?_ (fun v hv => ?_) (fun i x hi => ?_) (fun v i hv hi => ?_) (fun v hv => qt_len g hv)
    · rw [List.length_append]
      show (qt L t).length + 1 ≤ 6
      omega
    · rw [ju_na ha1, ju_na ha2]
    · rw [ju_at, List.length_append]
      rfl
    · rw [ju_ne (fun q_ => hv q_.2), ju_na (by omega)]
    · rw [ju_na (by omega)]
      rcases Nat.lt_or_ge i (qt L t).length with k_ | k_
      · rw [List.getElem?_append_left k_] at hi
        rw [ju_ne (fun q_ => by omega)]
        exact (h.2.2.2.2.2.2.2.2.1 t ht).2.2 i x hi
      · rw [List.getElem?_append_right k_] at hi
        have k2_ : i - (qt L t).length = 0 := by
          have k3_ := (List.getElem?_eq_some_iff.mp hi).1
          have k4_ : ([f] : List Nat).length = 1 := rfl
          omega
        rw [k2_] at hi
        have k5_ : f = x := Option.some.inj hi
        rw [show i = (qt L t).length from by omega, ju_at, k5_]
    · rw [ju_na (by omega), ju_ne (fun q_ => by
        have k_ := q_.2
        omega)]
  have r2_ := rS_f (rS_f r_ b_ d (f := f) (k := 8) (by omega) (jn 1)) b_ d (f := f) (k := 9) (by omega) (jn t)
  refine ⟨_, ?_, rS_cg r2_ (fun p _ => (qpg_put h0 p).symm), fun a ha => by rw [ju_na (by omega), ju_na (by omega), ju_na (by omega), ju_na (by omega)]⟩
  unfold d_S_moveToTub d_G_moveTo
  simp only [if_pos (sq_tin g ht), sq_tn g ht, sq_many h ht, jn_mul, jn_add, if_pos (sq_in g hf), sq_n g hf, ob_s]
  rw [if_pos (by rw [jn_in (by omega)]; omega), jn_n (by omega), ju_na (I := I) (a := s + 15) (b := s + 14) (by omega), sq_many h ht, jn_add, ju_na (by omega), ju_na (by omega), ju_at]
theorem mq_putsInto (h : qM L B (I 242)) (g : qG L) (hB : B + 1 < 100000) {f t : Nat} (hf : f < qF L) (ht : t < qT L) (h0 : qf L f 8 = jn 0) : ∃ J, d_M_putsInto (jn f) (jn t) I = some J ∧ WM (Lput L f t) (B + 1) I J := by
  have h1_ := g.1
  have b_ := qG_B g
  obtain ⟨hr_, p_, hp1_, hp2_, hp3_⟩ := qM_r.mp h
  have n0_ : ¬ jn 0 = jn 1 := by decide
  have nf_ : ∀ v, v < qT L → ¬ f ∈ qt L v := fun v hv q_ => by
    have k_ := (((g.2.2.2.2.2.2.2.1 v hv).2.2 f).mp q_).2.1
    rw [h0] at k_
    exact n0_ k_
  have r0_ : rM (lt L t (qt L t ++ [f])) (I 242) := hr_
  have r1_ := rM_f (rM_f r0_ b_ (f := f) (k := 8) (by omega) (jn 1)) b_ (f := f) (k := 9) (by omega) (jn t)
  have r2_ := rM_o (rM_o r1_ b_ (Or.inr ⟨f, rfl⟩) (jn p_)) b_ (Or.inl rfl) (jn (p_ + 1))
  refine ⟨ev_u2 (ev_u2 (ev_u2 (ev_u2 I 242 (41 + 11 * f + 8) (jn 1)) 242 (41 + 11 * f + 9) (jn t)) 242 (41 + 11 * f + 10) (jn p_)) 242 11 (jn (p_ + 1)), ?_, ?_, fun a ha => by rw [ju_na ha, ju_na ha, ju_na ha, ju_na ha]⟩
  · unfold d_M_putsInto
    rw [rm_goes (by omega), ob_s, if_pos (show z_in (jn 11) 173 by rw [jn_in (by omega)]; omega), jn_n (by omega), ju_ne (by omega), ju_ne (by omega), hp1_, rm_put (by omega) (by omega), ob_s, if_pos (show z_in (jn 11) 173 by rw [jn_in (by omega)]; omega), if_pos (show z_in (jn 11) 173 by rw [jn_in (by omega)]; omega), ju_ne (by omega), ju_ne (by omega), ju_ne (by omega), hp1_, jn_add]
  · rw [ju_up, ju_up, ju_up, ju_up]
    refine qM_r.mpr ⟨r2_, p_ + 1, jup_at, by omega, fun v hv => ?_⟩
    have c1_ : ∀ a, ¬ a = f → jup (jup (jup (jup (I 242) (41 + 11 * f + 8) (jn 1)) (41 + 11 * f + 9) (jn t)) (41 + 11 * f + 10) (jn p_)) 11 (jn (p_ + 1)) (41 + 11 * a + 10) = I 242 (41 + 11 * a + 10) := fun a ha => by
      rw [jup_ne (by omega), jup_ne (by omega), jup_ne (by omega), jup_ne (by omega)]
    have c2_ : jup (jup (jup (jup (I 242) (41 + 11 * f + 8) (jn 1)) (41 + 11 * f + 9) (jn t)) (41 + 11 * f + 10) (jn p_)) 11 (jn (p_ + 1)) (41 + 11 * f + 10) = jn p_ := by
      rw [jup_ne (by omega), jup_at]
    generalize jup (jup (jup (jup (I 242) (41 + 11 * f + 8) (jn 1)) (41 + 11 * f + 9) (jn t)) (41 + 11 * f + 10) (jn p_)) 11 (jn (p_ + 1)) = A_ at c1_ c2_
    have ne_ : ∀ v, v < qT L → ∀ a, a ∈ qt L v → ¬ a = f := fun v hv a ha q_ => nf_ v hv (by rw [← q_]; exact ha)
    have hv2_ : v < qT L := hv
    have old_ : (∀ a ∈ qt L v, ∃ k, k < p_ + 1 ∧ A_ (41 + 11 * a + 10) = jn k) ∧ (qt L v).Pairwise (fun a c => A_ (41 + 11 * a + 10) < A_ (41 + 11 * c + 10)) := by
      refine ⟨fun a ha => ?_, ?_⟩
      · obtain ⟨k_, hk_, ek_⟩ := (hp3_ v hv2_).1 a ha
        exact ⟨k_, by omega, by rw [c1_ a (ne_ v hv2_ a ha)]; exact ek_⟩
      · exact List.Pairwise.imp_of_mem (fun {a c} ha hc q_ => by rw [c1_ a (ne_ v hv2_ a ha), c1_ c (ne_ v hv2_ c hc)]; exact q_) (hp3_ v hv2_).2
    by_cases e_ : v = t
    · rw [e_] at old_ hv2_ ⊢
      rw [qt_put]
      refine ⟨fun a ha => ?_, ?_⟩
      · rcases List.mem_append.mp ha with k_ | k_
        · exact old_.1 a k_
        · rw [List.mem_singleton.mp k_, c2_]
          exact ⟨p_, by omega, rfl⟩
      · refine List.pairwise_append.mpr ⟨old_.2, List.pairwise_singleton .., fun a ha c hc => ?_⟩
        rw [List.mem_singleton.mp hc, c2_]
        obtain ⟨k_, hk_, ek_⟩ := (hp3_ t hv2_).1 a ha
        rw [c1_ a (ne_ t hv2_ a ha), ek_, jn_lt (by omega) (by omega)]
        exact hk_
    · rw [qt_putn e_]
      exact old_
end YQ
