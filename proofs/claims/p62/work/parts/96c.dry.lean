/-! drying on the line, one flag after another -/
def ydr (L : LL) (i : Nat) : Int32 := z_mx (jn 0) (qf L i 4 - (jn 1 + qs L 1 / jn 3))
def Ldst (i : Nat) (L : LL) : LL := if qf L i 8 = jn 2 then lf L i 4 (ydr L i) else L
def Ldry (L : LL) : LL := jfd Ldst L (qF L)
theorem ydr_10 : ∀ a b : Fin 10, (∃ k : Fin 10, z_mx (jn 0) (jn a.val - (jn 1 + jn b.val / jn 3)) = jn k.val) ∧ z_mx (jn 0) ((jn a.val - jn 1) - jn b.val / jn 3) = z_mx (jn 0) (jn a.val - (jn 1 + jn b.val / jn 3)) := by decide +kernel
theorem Ldst_F {i : Nat} {L : LL} : (Ldst i L).1 = L.1 := by
  unfold Ldst
  by_cases h_ : qf L i 8 = jn 2
  · rw [if_pos h_]; rfl
  · rw [if_neg h_]
theorem Ldst_s {i : Nat} {L : LL} (k : Nat) : qs (Ldst i L) k = qs L k := by
  unfold Ldst
  by_cases h_ : qf L i 8 = jn 2
  · rw [if_pos h_]; rfl
  · rw [if_neg h_]
theorem Ldst_G {i : Nat} {L : LL} (g : qG L) (hi : i < qF L) : qG (Ldst i L) := by
  unfold Ldst
  by_cases h_ : qf L i 8 = jn 2
  · rw [if_pos h_]
    obtain ⟨a_, ha_, ea_⟩ := (g.2.2.2.2.2.1 i hi).2.2.2.2.1
    obtain ⟨b_, hb_, eb_⟩ := g.2.2.2.2.2.2.2.2.1
    obtain ⟨k_, e_⟩ := (ydr_10 ⟨a_, ha_⟩ ⟨b_, hb_⟩).1
    refine qG_f g (Or.inr (Or.inl ⟨rfl, k_.val, k_.isLt, ?_⟩))
    unfold ydr
    rw [ea_, eb_]
    exact e_
  · rw [if_neg h_]
    exact g
theorem Ldj_F {L : LL} : ∀ n, (jfd Ldst L n).1 = L.1 := by
  intro n
  induction n with
  | zero => rfl
  | succ n ih_ => rw [jfd_s, Ldst_F, ih_]
theorem Ldj_s {L : LL} (k : Nat) : ∀ n, qs (jfd Ldst L n) k = qs L k := by
  intro n
  induction n with
  | zero => rfl
  | succ n ih_ => rw [jfd_s, Ldst_s, ih_]
theorem Ldj_q {L : LL} (n : Nat) : qF (jfd Ldst L n) = qF L := congrArg (fun q => q.1) (Ldj_F (L := L) n)
theorem Ldj_G {L : LL} (g : qG L) : ∀ n, n ≤ qF L → qG (jfd Ldst L n) := by
  intro n
  induction n with
  | zero => intro _; exact g
  | succ n ih_ =>
    intro hn
    exact Ldst_G (ih_ (by omega)) (by rw [Ldj_q]; omega)
section YD
variable {L : LL} {B : Nat} {I : z_H} {s u : Nat}
theorem sq_dry (h : qS L I s u) (g : qG L) (d : u + 6 ≤ s) : ∃ J, d_S_dryOnLine s (jn 1 + qs L 1 / jn 3) I = some J ∧ WS (Ldry L) I J s u := by
  have h1_ := g.1
  have z9_ : ∃ r, z_it (d_S_dryOnLine_2 s (jn 1 + qs L 1 / jn 3)) z_F (jn 0, I) = some r ∧ WS (Ldry L) I r.2 s u := by
    refine z_inv (fun (i : Nat) (p : Int32 × z_H) => p.1 = jn i ∧ WS (jfd Ldst L i) I p.2 s u) (fun (p : Int32 × z_H) => WS (Ldry L) I p.2 s u) (n := qF L) (by omega) ⟨rfl, h, fun _ _ => rfl⟩ (fun i p hi hp => ?_) (fun p hp => ?_)
    · obtain ⟨e1_, hS_, hF_⟩ := hp
      have gi_ := Ldj_G g i (by omega)
      have si_ := Ldj_s (L := L) 1 i
      have qi_ : i < qF (jfd Ldst L i) := by rw [Ldj_q]; exact hi
      rw [jfd_s]
      generalize jfd Ldst L i = K_ at hS_ gi_ si_ qi_ ⊢
      have hk_ := gi_.1
      unfold d_S_dryOnLine_2
      rw [e1_, if_pos (sq_go hS_ gi_ qi_), if_pos (sq_in gi_ qi_), if_pos (sq_in gi_ qi_), if_pos (sq_in gi_ qi_), sq_n gi_ qi_, sq_f hS_ qi_ (by omega), sq_f hS_ qi_ (by omega), ← si_]
      show ∃ s2, Option.bind (if qf K_ i 8 = jn 2 then some (ev_u2 p.2 (s + 2 + i) 4 (ydr K_ i)) else some p.2) _ = _ ∧ _
      unfold Ldst
      by_cases h2_ : qf K_ i 8 = jn 2
      · rw [if_pos h2_, if_pos h2_, ob_s]
        refine ⟨_, rfl, by rw [jn_add], qS_f hS_ (qG_B gi_) d (by omega) (by omega) _, fun a ha => ?_⟩
        show ev_u2 p.2 (s + 2 + i) 4 (ydr K_ i) a = I a
        rw [ju_na (by omega)]
        exact hF_ a ha
      · rw [if_neg h2_, if_neg h2_, ob_s]
        exact ⟨_, rfl, by rw [jn_add], hS_, hF_⟩
    · obtain ⟨e1_, hS_, hF_⟩ := hp
      have gi_ := Ldj_G g (qF L) (Nat.le_refl _)
      have n_ : ¬ jn (qF L) < p.2 s 6 := by
        have k_ := sq_end hS_ gi_
        rw [Ldj_q] at k_
        exact k_
      unfold d_S_dryOnLine_2
      rw [e1_, if_neg n_]
      exact ⟨_, rfl, hS_, hF_⟩
  obtain ⟨r_, e_, hr_⟩ := z9_
  refine ⟨r_.2, ?_, hr_⟩
  unfold d_S_dryOnLine
  rw [e_, ob_s]
theorem mq_dry (h : qM L B (I 242)) (g : qG L) : ∃ J, d_M_dries I = some J ∧ WM (Ldry L) B I J := by
  have h1_ := g.1
  have z9_ : ∃ r, z_it (d_M_dries_2) z_F (jn 0, I) = some r ∧ WM (Ldry L) B I r.2 := by
    refine z_inv (fun (i : Nat) (p : Int32 × z_H) => p.1 = jn i ∧ WM (jfd Ldst L i) B I p.2) (fun (p : Int32 × z_H) => WM (Ldry L) B I p.2) (n := qF L) (by omega) ⟨rfl, h, fun _ _ => rfl⟩ (fun i p hi hp => ?_) (fun p hp => ?_)
    · obtain ⟨e1_, hM_, hF_⟩ := hp
      have gi_ := Ldj_G g i (by omega)
      have qi_ : i < qF (jfd Ldst L i) := by rw [Ldj_q]; exact hi
      rw [jfd_s]
      generalize jfd Ldst L i = K_ at hM_ gi_ qi_ ⊢
      have hk_ := gi_.1
      obtain ⟨a_, ha_, ea_⟩ := (gi_.2.2.2.2.2.1 i qi_).2.2.2.2.1
      obtain ⟨b_, hb_, eb_⟩ := gi_.2.2.2.2.2.2.2.2.1
      have v_ : z_mx (jn 0) ((qf K_ i 4 - jn 1) - qs K_ 1 / jn 3) = ydr K_ i := by
        unfold ydr
        rw [ea_, eb_]
        exact (ydr_10 ⟨a_, ha_⟩ ⟨b_, hb_⟩).2
      unfold d_M_dries_2
      rw [e1_, if_pos mq_in10, if_pos (mq_go hM_ gi_ qi_), mq_where hM_ gi_ qi_, ob_s, mq_f hM_ gi_ qi_ (by omega), ob_s, if_pos (show z_in (jn 1) 173 by rw [jn_in (by omega)]; omega), mq_now hM_ (by omega), v_, rm_put (by omega) (by omega), ob_s]
      unfold Ldst
      by_cases h2_ : qf K_ i 8 = jn 2
      · rw [if_pos h2_, if_pos h2_, ob_s]
        refine ⟨_, rfl, by rw [jn_add], ?_, fun a ha => ?_⟩
        · show qM _ B (ev_u2 p.2 242 (41 + 11 * i + 4) (ydr K_ i) 242)
          rw [ju_up]
          exact qM_f hM_ (qG_B gi_) (by omega) _
        · show ev_u2 p.2 242 (41 + 11 * i + 4) (ydr K_ i) a = I a
          rw [ju_na ha]
          exact hF_ a ha
      · rw [if_neg h2_, if_neg h2_, ob_s]
        exact ⟨_, rfl, by rw [jn_add], hM_, hF_⟩
    · obtain ⟨e1_, hM_, hF_⟩ := hp
      have gi_ := Ldj_G g (qF L) (Nat.le_refl _)
      have n_ : ¬ jn (qF L) < p.2 242 (z_n (jn 10)) := by
        have k_ := mq_end hM_ gi_
        rw [Ldj_q] at k_
        exact k_
      unfold d_M_dries_2
      rw [e1_, if_pos mq_in10, if_neg n_]
      exact ⟨_, rfl, hM_, hF_⟩
  obtain ⟨r_, e_, hr_⟩ := z9_
  refine ⟨r_.2, ?_, hr_⟩
  unfold d_M_dries
  rw [e_, ob_s]
end YD
