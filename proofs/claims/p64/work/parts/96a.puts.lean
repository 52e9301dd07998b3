/-! putting a flag into a tub: what both sides do -/
section YQ
variable {L : LL} {B : Nat} {I : z_H} {s u : Nat}
theorem sq_moveTub (h : qS L I s u) (g : qG L) (d : u + 6 ≤ s) {f t : Nat} (hf : f < qF L) (ht : t < qT L) (h0 : qf L f 8 = jn 0) (hr : jn (qt L t).length < qo L t) : ∃ J, d_S_moveToTub s (jn f) (jn t) I = some (jn ((qt L t).length + 1), J) ∧ WS (Lput L f t) I J s u := by
  have h1_ := g.1
  have h2_ := g.2.2.2.1
  have b_ := qG_B g
  obtain ⟨m_, hm_, em_, lm_⟩ := (g.2.2.2.2.2.2.2.1 t ht).1
  rw [em_, jn_lt (by omega) (by omega)] at hr
  have r_ : rS (lt L t (qt L t ++ [f])) (qpg L) (ev_u2 (ev_u2 I (s + 15) (t * 6 + (qt L t).length) (jn f)) (s + 14) t (jn ((qt L t).length + 1))) s u := by
    refine rS_t (qS_r.mp h) b_ d ht ?_ (fun a ha1 ha2 => ?_) ?_ (fun v hv => ?_) (fun i x hi => ?_) (fun v i hv hi => ?_) (fun v hv => qt_len g hv)
    · rw [List.length_append]
      show (qt L t).length + 1 ≤ 6
      omega
    · rw [ju_na ha1, ju_na ha2]
    · rw [ju_at, List.length_append]
      rfl
    · rw [ju_ne (fun q_ => hv q_.2), ju_na (by omega)]
    · rw [ju_na (by omega)]
      rcases Nat.lt_or_ge i (qt L t).length with k_ | k_
      · rw [List.getElem?_append_left k_] at hi
        rw [ju_ne (fun q_ => by omega)]
        exact (h.2.2.2.2.2.2.2.2.1 t ht).2.2 i x hi
      · rw [List.getElem?_append_right k_] at hi
        have k2_ : i - (qt L t).length = 0 := by
          have k3_ := (List.getElem?_eq_some_iff.mp hi).1
          have k4_ : ([f] : List Nat).length = 1 := rfl
          omega
        rw [k2_] at hi
        have k5_ : f = x := Option.some.inj hi
        rw [show i = (qt L t).length from by omega, ju_at, k5_]
    · rw [ju_na (by omega), ju_ne (fun q_ => by
        have k_ := q_.2
        omega)]
  have r2_ := rS_f (rS_f r_ b_ d (f := f) (k := 8) (by omega) (jn 1)) b_ d (f := f) (k := 9) (by omega) (jn t)
  refine ⟨_, ?_, rS_cg r2_ (fun p _ => (qpg_put h0 p).symm), fun a ha => by rw [ju_na (by omega), ju_na (by omega), ju_na (by omega), ju_na (by omega)]⟩
  unfold d_S_moveToTub d_G_moveTo
  simp only [if_pos (sq_tin g ht), sq_tn g ht, sq_many h ht, jn_mul, jn_add, if_pos (sq_in g hf), sq_n g hf, ob_s]
  rw [if_pos (by rw [jn_in (by omega)]; omega), jn_n (by omega), ju_na (I := I) (a := s + 15) (b := s + 14) (by omega), sq_many h ht, jn_add, ju_na (by omega), ju_na (by omega), ju_at]
end YQ
