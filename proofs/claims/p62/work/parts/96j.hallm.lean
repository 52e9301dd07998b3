/-! hanging all that is wet: the reference -/
section YHM
variable {L : LL} {B : Nat} {I : z_H} {s : Nat}
theorem Lhst_G {L : LL} {i : Nat} {a : Int32} (g : qG L) (hi : i < qF L) : qG (Lhst i (a, L)).2 := by
  unfold Lhst
  by_cases h_ : ¬ qf L i 4 = jn 0 ∧ qf L i 8 = jn 0 ∧ ¬ yfree L = jg 1
  · rw [if_pos h_]
    obtain ⟨p, hp_, e_, e2_⟩ := yfree_at g h_.2.2
    have n01_ : ¬ jn 0 = jn 1 := by decide
    exact qG_mv g hi (by rw [h_.2.1]; exact n01_) (Or.inr (Or.inl ⟨rfl, p, hp_, e_, e2_⟩))
  · rw [if_neg h_]
    exact g
theorem mq_hall (h : qM L B (I 242)) (g : qG L) : ∃ r, z_it d_M_hangAll_6 z_F (jn 0, jn 0, I) = some r ∧ (r.1 = (Lhal L (qF L)).1 ∧ WM (Lhal L (qF L)).2 B I r.2.2) := by
  have h1_ := g.1
  refine z_inv (fun (i : Nat) (p : Int32 × Int32 × z_H) => p.2.1 = jn i ∧ p.1 = (Lhal L i).1 ∧ WM (Lhal L i).2 B I p.2.2 ∧ qG (Lhal L i).2 ∧ qF (Lhal L i).2 = qF L) (fun (r : Int32 × Int32 × z_H) => r.1 = (Lhal L (qF L)).1 ∧ WM (Lhal L (qF L)).2 B I r.2.2) (n := qF L) (by omega) ⟨rfl, rfl, ⟨h, fun _ _ => rfl⟩, g, rfl⟩ (fun i p hi hp => ?_) (fun p hp => ?_)
  · obtain ⟨e1_, e2_, ⟨hS_, hF_⟩, gi_, qi_⟩ := hp
    show ∃ s2, d_M_hangAll_6 p = some (.inl s2) ∧ (s2.2.1 = jn (i + 1) ∧ s2.1 = (Lhst i (Lhal L i)).1 ∧ WM (Lhst i (Lhal L i)).2 B I s2.2.2 ∧ qG (Lhst i (Lhal L i)).2 ∧ qF (Lhst i (Lhal L i)).2 = qF L)
    generalize Lhal L i = K_ at e2_ hS_ hF_ gi_ qi_ ⊢
    have hi_ : i < qF K_.2 := by omega
    have gk_ := Lhst_G (a := K_.1) gi_ hi_
    have ek_ : (K_.1, K_.2) = K_ := rfl
    rw [ek_] at gk_
    unfold Lhst at gk_
    unfold d_M_hangAll_6 Lhst
    rw [e1_, e2_, if_pos mq_in10, if_pos (mq_go hS_ gi_ hi_), mq_f hS_ gi_ hi_ (by omega), ob_s, mq_can hS_ gi_ hi_, ob_s]
    by_cases h2_ : qf K_.2 i 4 = jn 0
    · rw [if_pos h2_, if_neg (fun q_ => q_.1 h2_), ob_s]
      exact ⟨_, rfl, by rw [jn_add], rfl, ⟨hS_, hF_⟩, gi_, qi_⟩
    · by_cases h3_ : qf K_.2 i 8 = jn 0 ∧ ¬ yfree K_.2 = jg 1
      · obtain ⟨J_, ej_, w1_, w2_⟩ := mq_hang hS_ gi_ hi_
        have h4_ : ¬ qf K_.2 i 4 = jn 0 ∧ qf K_.2 i 8 = jn 0 ∧ ¬ yfree K_.2 = jg 1 := ⟨h2_, h3_⟩
        rw [if_pos h4_] at gk_
        rw [if_neg h2_, if_pos h3_, if_neg (by decide), ej_, ob_s, ob_s, if_pos h4_]
        exact ⟨_, rfl, by rw [jn_add], rfl, ⟨w1_, fun a ha => (w2_ a ha).trans (hF_ a ha)⟩, gk_, qi_⟩
      · rw [if_neg h2_, if_neg h3_, if_pos rfl, ob_s, if_neg (fun q_ => h3_ q_.2)]
        exact ⟨_, rfl, by rw [jn_add], rfl, ⟨hS_, hF_⟩, gi_, qi_⟩
  · obtain ⟨e1_, e2_, ⟨hS_, hF_⟩, gi_, qi_⟩ := hp
    have n_ : ¬ jn (qF L) < p.2.2 242 (z_n (jn 10)) := by
      have k_ := mq_end hS_ gi_
      rw [qi_] at k_
      exact k_
    unfold d_M_hangAll_6
    rw [e1_, if_pos mq_in10, if_neg n_]
    exact ⟨_, rfl, e2_, hS_, hF_⟩
end YHM
