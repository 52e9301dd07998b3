/-! hanging all that is wet, on both sides -/
def Lhst (i : Nat) (a : Int32 × LL) : Int32 × LL := if ¬ qf a.2 i 4 = jn 0 ∧ qf a.2 i 8 = jn 0 ∧ ¬ yfree a.2 = jg 1 then (a.1 + jn 1, Lmv a.2 i (jn 2) (yfree a.2)) else a
def Lhal (L : LL) (n : Nat) : Int32 × LL := jfd Lhst (jn 0, L) n
theorem qf_e0 {L : LL} (g : qG L) {f : Nat} (hf : f < qF L) : (jn 0 < qf L f 4) = ¬ qf L f 4 = jn 0 := by
  obtain ⟨k_, hk_, e_⟩ := (g.2.2.2.2.2.1 f hf).2.2.2.2.1
  rw [e_, jn_lt (by omega) (by omega), jn_eq (by omega) (by omega)]
  exact propext ⟨fun h9_ => by omega, fun h9_ => by omega⟩
section YHA
variable {L : LL} {B : Nat} {I : z_H} {s : Nat}
theorem sq_hall (h : qS L I (s + 7) (s + 1)) (g : qG L) : ∃ J, d_L_hangAllWet s I = some ((Lhal L (qF L)).1, J) ∧ WS (Lhal L (qF L)).2 I J (s + 7) (s + 1) ∧ qG (Lhal L (qF L)).2 := by
  have h1_ := g.1
  have z9_ : ∃ r, z_it (d_L_hangAllWet_2 s) z_F (jn 0, jn 0, I) = some r ∧ (r.1 = (Lhal L (qF L)).1 ∧ WS (Lhal L (qF L)).2 I r.2.2 (s + 7) (s + 1) ∧ qG (Lhal L (qF L)).2) := by
    refine z_inv (fun (i : Nat) (p : Int32 × Int32 × z_H) => p.2.1 = jn i ∧ p.1 = (Lhal L i).1 ∧ WS (Lhal L i).2 I p.2.2 (s + 7) (s + 1) ∧ qG (Lhal L i).2 ∧ qF (Lhal L i).2 = qF L) (fun (r : Int32 × Int32 × z_H) => r.1 = (Lhal L (qF L)).1 ∧ WS (Lhal L (qF L)).2 I r.2.2 (s + 7) (s + 1) ∧ qG (Lhal L (qF L)).2) (n := qF L) (by omega) ⟨rfl, rfl, ⟨h, fun _ _ => rfl⟩, g, rfl⟩ (fun i p hi hp => ?_) (fun p hp => ?_)
    · obtain ⟨e1_, e2_, ⟨hS_, hF_⟩, gi_, qi_⟩ := hp
      show ∃ s2, d_L_hangAllWet_2 s p = some (.inl s2) ∧ (s2.2.1 = jn (i + 1) ∧ s2.1 = (Lhst i (Lhal L i)).1 ∧ WS (Lhst i (Lhal L i)).2 I s2.2.2 (s + 7) (s + 1) ∧ qG (Lhst i (Lhal L i)).2 ∧ qF (Lhst i (Lhal L i)).2 = qF L)
      generalize Lhal L i = K_ at e2_ hS_ hF_ gi_ qi_ ⊢
      have hi_ : i < qF K_.2 := by omega
      have e3_ := qf_e0 gi_ hi_
      unfold d_L_hangAllWet_2 Lhst
      rw [e1_, e2_, if_pos (sq_go hS_ gi_ hi_), if_pos (sq_in gi_ hi_), sq_n gi_ hi_, sq_f hS_ hi_ (by omega), sq_can hS_ gi_ hi_, ob_s]
      simp only [e3_]
      by_cases h2_ : qf K_.2 i 4 = jn 0
      · rw [if_neg (fun q_ => q_ h2_), if_neg (fun q_ => q_.1 h2_), ob_s]
        exact ⟨_, rfl, by rw [jn_add], rfl, ⟨hS_, hF_⟩, gi_, qi_⟩
      · by_cases h3_ : qf K_.2 i 8 = jn 0 ∧ ¬ yfree K_.2 = jg 1
        · obtain ⟨J_, ej_, ⟨w1_, w2_⟩, gj_⟩ := sq_hang hS_ gi_ hi_ h3_.1 h3_.2
          rw [if_pos h2_, if_pos h3_, if_neg (by decide), ej_, ob_s, ob_s, if_pos (show ¬ qf K_.2 i 4 = jn 0 ∧ qf K_.2 i 8 = jn 0 ∧ ¬ yfree K_.2 = jg 1 from ⟨h2_, h3_⟩)]
          exact ⟨_, rfl, by rw [jn_add], rfl, ⟨w1_, fun a ha => (w2_ a ha).trans (hF_ a ha)⟩, gj_, qi_⟩
        · rw [if_pos h2_, if_neg h3_, if_pos rfl, ob_s, if_neg (fun q_ => h3_ q_.2)]
          exact ⟨_, rfl, by rw [jn_add], rfl, ⟨hS_, hF_⟩, gi_, qi_⟩
    · obtain ⟨e1_, e2_, ⟨hS_, hF_⟩, gi_, qi_⟩ := hp
      have n_ : ¬ jn (qF L) < p.2.2 (s + 7) 6 := by
        have k_ := sq_end hS_ gi_
        rw [qi_] at k_
        exact k_
      unfold d_L_hangAllWet_2
      rw [e1_, if_neg n_]
      exact ⟨_, rfl, e2_, ⟨hS_, hF_⟩, gi_⟩
  obtain ⟨r_, e_, e2_, w_, g_⟩ := z9_
  refine ⟨r_.2.2, ?_, w_, g_⟩
  unfold d_L_hangAllWet
  rw [e_, ob_s, e2_]
end YHA
