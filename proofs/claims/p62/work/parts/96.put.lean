/-! bleach; putting a flag into a tub -/
def Lble (L : LL) (f : Nat) : LL := lf (lf L f 6 (jn 0)) f 7 (qf L f 7 + jn 1)
/-- how many of a flag's stains -/
def ystc (L : LL) (f : Nat) : Int32 := jfd (fun c a => a + (if (qf L f 6 >>> (jn c &&& 31)) &&& jn 1 = jn 1 then jn 1 else jn 0)) (jn 0) (qC L)
theorem jbits : ∀ (m : Fin 7) (k : Fin 64), k.val < 2 ^ m.val → d_I_bitCount (jn k.val) = some (jfd (fun c a => a + (if (jn k.val >>> (jn c &&& 31)) &&& jn 1 = jn 1 then jn 1 else jn 0)) (jn 0) m.val) := by decide +kernel
theorem qG_ble {L : LL} (g : qG L) {f : Nat} (hf : f < qF L) (h : ¬ qf L f 7 = jn 2) : qG (Lble L f) := by
  have q_ := (g.2.2.2.2.2.1 f hf).2.2.2.2.2.2.2.1
  obtain ⟨k_, hk_, e_⟩ := q_
  have h1_ : jlt (qf L f 7 + jn 1) 3 := by
    rw [e_, jn_eq (by omega) (by omega)] at h
    exact ⟨k_ + 1, by omega, by rw [e_, jn_add]⟩
  exact qG_f (qG_f g (Or.inr (Or.inr (Or.inr (Or.inl ⟨rfl, ⟨0, Nat.two_pow_pos _, rfl⟩⟩))))) (Or.inr (Or.inr (Or.inr (Or.inr ⟨rfl, h1_⟩))))
section YL
variable {L : LL} {B : Nat} {I : z_H} {s u : Nat}
theorem mq_stc (h : qM L B (I 242)) (g : qG L) {f : Nat} (hf : f < qF L) : d_M_stainsOf (jn f) I = some (ystc L f) := by
  have h1_ := g.2.1
  have h2_ : I 242 (z_n (jn 6)) = jn (qC L) := by rw [jn_n (by omega)]; exact h.2.1
  unfold d_M_stainsOf
  refine (zb (z_fl (fun c a => a + (if (qf L f 6 >>> (jn c &&& 31)) &&& jn 1 = jn 1 then jn 1 else jn 0)) (jn 0) (n := qC L) (by omega) (fun i hi a => ?_) (fun a => ?_))).trans rfl
  · show d_M_stainsOf_2 (jn f) I (a, jn i) = _
    unfold d_M_stainsOf_2
    dsimp only
    rw [if_pos (show z_in (jn 6) 173 by rw [jn_in (by omega)]; omega), h2_, if_pos (by rw [jn_lt (by omega) (by omega)]; exact hi), mq_f h g hf (by omega), ob_s, mq_has, ob_s, mq_one, ob_s, jn_add]
  · show d_M_stainsOf_2 (jn f) I (a, jn (qC L)) = _
    unfold d_M_stainsOf_2
    dsimp only
    rw [if_pos (show z_in (jn 6) 173 by rw [jn_in (by omega)]; omega), h2_, if_neg (by rw [jn_lt (by omega) (by omega)]; omega)]
theorem sq_stc (g : qG L) {f : Nat} (hf : f < qF L) : d_I_bitCount (qf L f 6) = some (ystc L f) := by
  have h1_ := g.2.1
  obtain ⟨k_, hk_, e_⟩ := (g.2.2.2.2.2.1 f hf).2.2.2.2.2.2.1
  have h2_ : 2 ^ qC L ≤ 64 := Nat.pow_le_pow_right (n := 2) (by omega) g.2.1
  unfold ystc
  rw [e_]
  exact jbits ⟨qC L, by omega⟩ ⟨k_, by omega⟩ hk_
theorem sq_bleach (h : qS L I s u) (g : qG L) (d : u + 6 ≤ s) {f : Nat} (hf : f < qF L) : ∃ J, d_G_takeBleach (s + 2 + f) I = some (ystc L f, J) ∧ WS (Lble L f) I J s u := by
  have h1_ := g.1
  have b_ := qG_B g
  have h2_ := qS_f h b_ d (f := f) (k := 6) (by omega) (by omega) (jn 0)
  have h3_ := qS_f h2_ b_ d (f := f) (k := 7) (by omega) (by omega) (qf L f 7 + jn 1)
  refine ⟨_, ?_, h3_, fun a ha => by rw [ju_na (by omega), ju_na (by omega)]⟩
  unfold d_G_takeBleach
  rw [sq_f h hf (by omega), sq_stc g hf, ob_s, ju_ne (by omega), sq_f h hf (by omega)]
/-- put into a tub -/
def Lput (L : LL) (f t : Nat) : LL := lf (lf (lt L t (qt L t ++ [f])) f 8 (jn 1)) f 9 (jn t)
theorem qf_put {f t : Nat} {a k : Nat} (h : ¬ (a = f ∧ (k = 8 ∨ k = 9))) : qf (Lput L f t) a k = qf L a k := by
  show qf (lf (lf (lt L t (qt L t ++ [f])) f 8 (jn 1)) f 9 (jn t)) a k = _
  rw [lf_ne (fun q_ => h ⟨q_.1, Or.inr q_.2⟩), lf_ne (fun q_ => h ⟨q_.1, Or.inl q_.2⟩)]
  rfl
theorem qf_put8 {f t : Nat} : qf (Lput L f t) f 8 = jn 1 := by
  show qf (lf (lf (lt L t (qt L t ++ [f])) f 8 (jn 1)) f 9 (jn t)) f 8 = _
  rw [lf_ne (by omega), lf_at]
theorem qf_put9 {f t : Nat} : qf (Lput L f t) f 9 = jn t := lf_at
theorem qt_put {f t : Nat} : qt (Lput L f t) t = qt L t ++ [f] := lt_at
theorem qt_putn {f t v : Nat} (h : ¬ v = t) : qt (Lput L f t) v = qt L v := lt_ne h
theorem qG_put (g : qG L) {f t : Nat} (hf : f < qF L) (ht : t < qT L) (h0 : qf L f 8 = jn 0) (hr : jn (qt L t).length < qo L t) : qG (Lput L f t) := by
  obtain ⟨g1_, g2_, g3_, g4_, g5_, g6_, g7_, g8_, g9_, ga_⟩ := g
  have n0_ : ¬ jn 0 = jn 1 := by decide
  have n2_ : ¬ jn 1 = jn 2 := by decide
  have n3_ : ¬ jn 0 = jn 2 := by decide
  refine ⟨g1_, g2_, g3_, g4_, g5_, fun a ha => ?_, g7_, fun v hv => ?_, g9_, fun a c ha hc => ?_⟩
  · obtain ⟨q0_, q1_, q2_, q3_, q4_, q5_, q6_, q7_, q8_⟩ := g6_ a ha
    unfold qgf
    rw [qf_put (by omega), qf_put (by omega), qf_put (by omega), qf_put (by omega), qf_put (by omega), qf_put (by omega), qf_put (by omega), qf_put (by omega)]
    refine ⟨q0_, q1_, q2_, q3_, q4_, q5_, q6_, q7_, ?_⟩
    by_cases e_ : a = f
    · rw [e_, qf_put8, qf_put9]
      exact Or.inr (Or.inl ⟨rfl, t, ht, rfl⟩)
    · rw [qf_put (fun q_ => e_ q_.1), qf_put (fun q_ => e_ q_.1)]
      exact q8_
  · obtain ⟨⟨m_, hm_, em_, lm_⟩, q1_, q2_⟩ := g8_ v hv
    by_cases e_ : v = t
    · rw [e_] at em_ lm_ q1_ q2_ ⊢
      rw [em_, jn_lt (by omega) (by omega)] at hr
      have nf_ : ¬ f ∈ qt L t := fun q_ => by
        have k_ := ((q2_ f).mp q_).2.1
        rw [h0] at k_
        exact n0_ k_
      unfold qgt
      rw [qt_put]
      refine ⟨⟨m_, hm_, em_, by rw [List.length_append]; show (qt L t).length + 1 ≤ m_; omega⟩, ?_, fun a => ?_⟩
      · rw [List.nodup_append]
        refine ⟨q1_, List.nodup_cons.mpr ⟨List.not_mem_nil, List.nodup_nil⟩, fun a ha c hc q_ => ?_⟩
        rw [List.mem_singleton.mp hc] at q_
        rw [q_] at ha
        exact nf_ ha
      · rw [List.mem_append, List.mem_singleton]
        by_cases e2_ : a = f
        · rw [e2_, qf_put8, qf_put9]
          exact ⟨fun _ => ⟨hf, rfl, rfl⟩, fun _ => Or.inr rfl⟩
        · rw [qf_put (fun q_ => e2_ q_.1), qf_put (fun q_ => e2_ q_.1)]
          exact ⟨fun q_ => q_.elim (fun k_ => (q2_ a).mp k_) (fun k_ => absurd k_ e2_), fun q_ => Or.inl ((q2_ a).mpr q_)⟩
    · unfold qgt
      rw [qt_putn e_]
      refine ⟨⟨m_, hm_, em_, lm_⟩, q1_, fun a => ?_⟩
      by_cases e2_ : a = f
      · rw [e2_, qf_put8, qf_put9]
        constructor
        · intro q_
          have k_ := ((q2_ f).mp q_).2.1
          rw [h0] at k_
          exact absurd k_ n0_
        · intro q_
          have k_ := q_.2.2
          have c_ : v < qT L := hv
          rw [jn_eq (by omega) (by omega)] at k_
          exact absurd k_.symm e_
      · rw [qf_put (fun q_ => e2_ q_.1), qf_put (fun q_ => e2_ q_.1)]
        exact q2_ a
  · by_cases e_ : a = f
    · rw [e_, qf_put8]
      exact fun q_ => absurd q_ n2_
    · by_cases e2_ : c = f
      · rw [e2_, qf_put8]
        exact fun _ q_ => absurd q_ n2_
      · rw [qf_put (fun q_ => e_ q_.1), qf_put (fun q_ => e2_ q_.1), qf_put (fun q_ => e_ q_.1), qf_put (fun q_ => e2_ q_.1)]
        exact ga_ a c ha hc
theorem qpg_put {f t : Nat} (h0 : qf L f 8 = jn 0) (p : Nat) : qpg (Lput L f t) p = qpg L p := by
  have n2_ : ¬ jn 1 = jn 2 := by decide
  have n3_ : ¬ jn 0 = jn 2 := by decide
  have e_ : qw (Lput L f t) p = qw L p := by
    rw [qw_qk, qw_qk]
    refine qk_congr (fun i _ => ?_)
    by_cases e2_ : i = f
    · rw [e2_, qf_put8, h0]
      exact ⟨fun q_ => absurd q_.1 n2_, fun q_ => absurd q_.1 n3_⟩
    · rw [qf_put (fun q_ => e2_ q_.1), qf_put (fun q_ => e2_ q_.1)]
  unfold qpg
  rw [e_]
  rfl
end YL
