/-! out of a tub, into the basket, on both sides -/
def jwo (f : Nat) (l : List Nat) : List Nat := l.filter (fun a => decide (¬ a = f))
theorem jwo_le {f : Nat} {l : List Nat} : (jwo f l).length ≤ l.length := List.length_filter_le _ _
theorem jwo_mem {f a : Nat} {l : List Nat} : a ∈ jwo f l ↔ a ∈ l ∧ ¬ a = f := by
  unfold jwo
  rw [List.mem_filter, decide_eq_true_eq]
theorem jwo_s {f c i : Nat} {l : List Nat} (h : l[i]? = some c) : jwo f (l.take (i + 1)) = if c = f then jwo f (l.take i) else jwo f (l.take i) ++ [c] := by
  unfold jwo
  rw [List.take_add_one, h, List.filter_append, show (some c).toList = [c] from rfl]
  by_cases e_ : c = f
  · rw [if_pos e_, show (List.filter (fun a => decide (¬ a = f)) [c]) = [] from List.filter_cons_of_neg (p := fun a => decide (¬ a = f)) (a := c) (l := []) (fun q_ => (of_decide_eq_true q_) e_), List.append_nil]
  · rw [if_neg e_, show (List.filter (fun a => decide (¬ a = f)) [c]) = [c] from List.filter_cons_of_pos (p := fun a => decide (¬ a = f)) (a := c) (l := []) (decide_eq_true e_)]
def Ldrp (L : LL) (f t : Nat) : LL := lt (Lmv L f (jn 0) (jg 1)) t (jwo f (qt L t))
section DRP
variable {L : LL} {pg : Nat → Int32} {B : Nat} {I : z_H} {s u f t : Nat}
theorem drp_f {a k : Nat} (h : ¬ (a = f ∧ (k = 8 ∨ k = 9))) : qf (Ldrp L f t) a k = qf L a k := qf_mv (w := jn 0) (y := jg 1) h
theorem drp_8 : qf (Ldrp L f t) f 8 = jn 0 := qf_mv8 (w := jn 0) (y := jg 1)
theorem drp_9 : qf (Ldrp L f t) f 9 = jg 1 := qf_mv9 (w := jn 0) (y := jg 1)
theorem drp_t : qt (Ldrp L f t) t = jwo f (qt L t) := lt_at
theorem drp_tn {v : Nat} (h : ¬ v = t) : qt (Ldrp L f t) v = qt L v := lt_ne h
theorem qG_drp (g : qG L) (ht : t < qT L) (h8 : qf L f 8 = jn 1) (h9 : qf L f 9 = jn t) : qG (Ldrp L f t) := by
  have n01_ : ¬ jn 0 = jn 1 := by decide
  have n02_ : ¬ jn 0 = jn 2 := by decide
  obtain ⟨g1_, g2_, g3_, g4_, g5_, g6_, g7_, g8_, g9_, ga_⟩ := g
  refine ⟨g1_, g2_, g3_, g4_, g5_, fun a ha => ?_, g7_, fun v hv => ?_, g9_, fun a c ha hc => ?_⟩
  · obtain ⟨q0_, q1_, q2_, q3_, q4_, q5_, q6_, q7_, q8_⟩ := g6_ a ha
    unfold qgf
    rw [drp_f (by omega), drp_f (by omega), drp_f (by omega), drp_f (by omega), drp_f (by omega), drp_f (by omega), drp_f (by omega), drp_f (by omega)]
    refine ⟨q0_, q1_, q2_, q3_, q4_, q5_, q6_, q7_, ?_⟩
    by_cases e_ : a = f
    · rw [e_, drp_8, drp_9]
      exact Or.inl ⟨rfl, rfl⟩
    · rw [drp_f (fun q_ => e_ q_.1), drp_f (fun q_ => e_ q_.1)]
      exact q8_
  · obtain ⟨⟨m_, hm_, em_, lm_⟩, q1_, q2_⟩ := g8_ v hv
    have hv2_ : v < qT L := hv
    by_cases e_ : v = t
    · rw [e_] at em_ lm_ q1_ q2_ ⊢
      unfold qgt
      rw [drp_t]
      refine ⟨⟨m_, hm_, em_, Nat.le_trans jwo_le lm_⟩, List.Pairwise.filter _ q1_, fun a => ?_⟩
      rw [jwo_mem]
      by_cases e2_ : a = f
      · rw [e2_, drp_8]
        exact ⟨fun q_ => absurd rfl q_.2, fun q_ => absurd q_.2.1 n01_⟩
      · rw [drp_f (fun q_ => e2_ q_.1), drp_f (fun q_ => e2_ q_.1)]
        exact ⟨fun q_ => (q2_ a).mp q_.1, fun q_ => ⟨(q2_ a).mpr q_, e2_⟩⟩
    · unfold qgt
      rw [drp_tn e_]
      refine ⟨⟨m_, hm_, em_, lm_⟩, q1_, fun a => ?_⟩
      by_cases e2_ : a = f
      · rw [e2_, drp_8]
        refine ⟨fun q_ => ?_, fun q_ => absurd q_.2.1 n01_⟩
        have k_ := ((q2_ f).mp q_).2.2
        rw [h9, jn_eq (by omega) (by omega)] at k_
        exact absurd k_.symm e_
      · rw [drp_f (fun q_ => e2_ q_.1), drp_f (fun q_ => e2_ q_.1)]
        exact q2_ a
  · by_cases e_ : a = f
    · rw [e_, drp_8]
      exact fun q_ => absurd q_ n02_
    · by_cases e2_ : c = f
      · rw [e2_, drp_8]
        exact fun _ q_ => absurd q_ n02_
      · rw [drp_f (fun q_ => e_ q_.1), drp_f (fun q_ => e2_ q_.1), drp_f (fun q_ => e_ q_.1), drp_f (fun q_ => e2_ q_.1)]
        exact ga_ a c ha hc
/-- taken down, from a tub or from the line -/
def Ltd (L : LL) (f : Nat) : LL := if qf L f 8 = jn 1 then Ldrp L f (z_n (qf L f 9)) else Lmv L f (jn 0) (jg 1)
theorem down_t (g : qG L) (hf : f < qF L) (h8 : qf L f 8 = jn 1) : ∃ v, v < qT L ∧ qf L f 9 = jn v := by
  rcases (g.2.2.2.2.2.1 f hf).2.2.2.2.2.2.2.2 with k_ | k_ | k_ | k_
  · exact absurd (k_.1.symm.trans h8) (by decide)
  · exact k_.2
  · exact absurd (k_.1.symm.trans h8) (by decide)
  · exact absurd (k_.1.symm.trans h8) (by decide)
theorem td_4 (a : Nat) : qf (Ltd L f) a 4 = qf L a 4 := by
  unfold Ltd
  by_cases h8_ : qf L f 8 = jn 1
  · rw [if_pos h8_]
    exact drp_f (by omega)
  · rw [if_neg h8_]
    exact qf_mv (by omega)
end DRP
