/-! hours pass -/
def Lpas (L : LL) : LL := ls (Lfall (Ldry L)) 0 (qs (Lfall (Ldry L)) 0 + jn 1)
def Lpss (L : LL) (n : Nat) : LL := jfd (fun _ K => Lpas K) L n
theorem qG_dry {L : LL} (g : qG L) : qG (Ldry L) := Ldj_G g (qF L) (Nat.le_refl _)
theorem qG_pas {L : LL} (g : qG L) : qG (Lpas L) := qG_s (qG_fall (qG_dry g)) (by omega)
theorem qG_pss {L : LL} (g : qG L) : ∀ n, qG (Lpss L n) := by
  intro n
  induction n with
  | zero => exact g
  | succ n ih_ => exact qG_pas ih_
section YPS
variable {L : LL} {B : Nat} {I : z_H} {s u : Nat}
theorem sq_pass1 (h : qS L I s u) (g : qG L) (d : u + 6 ≤ s) {i n : Nat} (hi : i < n) (hn : n < 1000) : ∃ J, d_S_passHours_2 s (jn n) (jn i, I) = some (.inl (jn (i + 1), J)) ∧ WS (Lpas L) I J s u := by
  obtain ⟨J1_, e1_, h1_, f1_⟩ := sq_dry h g d
  have g1_ := qG_dry g
  have g2_ := qG_fall g1_
  have k_ : ∃ J2, (if J1_ s 1 < jn 7 then some J1_ else ((d_S_dropLastFromLine s J1_).bind fun q11 => some q11)) = some J2 ∧ WS (Lfall (Ldry L)) J1_ J2 s u := by
    rw [sq_now h1_ (by omega)]
    unfold Lfall
    by_cases hw_ : qs (Ldry L) 1 < jn 7
    · rw [if_pos hw_, if_pos hw_]
      exact ⟨J1_, rfl, h1_, fun _ _ => rfl⟩
    · rw [if_neg hw_, if_neg hw_]
      obtain ⟨J2_, e2_, w2_⟩ := sq_drop h1_ g1_ d
      exact ⟨J2_, by rw [e2_, ob_s], w2_⟩
  obtain ⟨J2_, e2_, h2_, f2_⟩ := k_
  refine ⟨ev_u2 J2_ s 0 (qs (Lfall (Ldry L)) 0 + jn 1), ?_, qS_s h2_ (qG_B g2_) d (by omega) _, fun a ha => ?_⟩
  · unfold d_S_passHours_2
    dsimp only
    rw [if_pos (by rw [jn_lt (by omega) (by omega)]; exact hi), sq_now h (by omega), e1_, ob_s, e2_, ob_s, sq_now h2_ (by omega), jn_add]
  · rw [ju_na (by omega), f2_ a ha, f1_ a ha]
theorem mq_pass1 (h : qM L B (I 242)) (g : qG L) : ∃ J, d_M_passes I = some J ∧ WM (Lpas L) B I J := by
  obtain ⟨J1_, e1_, h1_, f1_⟩ := mq_dry h g
  have g1_ := qG_dry g
  obtain ⟨J2_, e2_, h2_, f2_⟩ := mq_falls h1_ g1_
  refine ⟨ev_u2 J2_ 242 0 (qs (Lfall (Ldry L)) 0 + jn 1), ?_, ?_, fun a ha => ?_⟩
  · unfold d_M_passes
    rw [e1_, ob_s, e2_, ob_s, if_pos (show z_in (jn 0) 173 by rw [jn_in (by omega)]; omega), if_pos (show z_in (jn 0) 173 by rw [jn_in (by omega)]; omega), mq_now h2_ (by omega), jn_n (by omega)]
  · rw [ju_up]
    exact qM_s h2_ (by omega) _
  · rw [ju_na ha, f2_ a ha, f1_ a ha]
theorem sq_pass (h : qS L I s u) (g : qG L) (d : u + 6 ≤ s) {n : Nat} (hn : n < 1000) : ∃ J, d_S_passHours s (jn n) I = some (qs (Lpss L n) 5 - qs L 5, J) ∧ WS (Lpss L n) I J s u := by
  have z9_ : ∃ r, z_it (d_S_passHours_2 s (jn n)) z_F (jn 0, I) = some r ∧ WS (Lpss L n) I r.2 s u := by
    refine z_inv (fun (i : Nat) (p : Int32 × z_H) => p.1 = jn i ∧ WS (Lpss L i) I p.2 s u) (fun (p : Int32 × z_H) => WS (Lpss L n) I p.2 s u) (n := n) (by omega) ⟨rfl, h, fun _ _ => rfl⟩ (fun i p hi hp => ?_) (fun p hp => ?_)
    · obtain ⟨e1_, hS_, hF_⟩ := hp
      obtain ⟨J_, e2_, h2_, f2_⟩ := sq_pass1 hS_ (qG_pss g i) d hi hn
      refine ⟨(jn (i + 1), J_), ?_, rfl, h2_, fun a ha => (f2_ a ha).trans (hF_ a ha)⟩
      rw [← e1_] at e2_
      exact e2_
    · obtain ⟨e1_, hS_, hF_⟩ := hp
      unfold d_S_passHours_2
      rw [e1_, if_neg (by rw [jn_lt (by omega) (by omega)]; omega)]
      exact ⟨_, rfl, hS_, hF_⟩
  obtain ⟨r_, e_, h2_, f2_⟩ := z9_
  refine ⟨r_.2, ?_, h2_, f2_⟩
  unfold d_S_passHours
  rw [e_, ob_s, sq_now h2_ (by omega), sq_now h (by omega)]
theorem mq_pass (h : qM L B (I 242)) (g : qG L) {n : Nat} (hn : n < 1000) : ∃ r, z_it (d_M_pass_9 (jn n)) z_F (jn 0, I) = some r ∧ WM (Lpss L n) B I r.2 := by
  refine z_inv (fun (i : Nat) (p : Int32 × z_H) => p.1 = jn i ∧ WM (Lpss L i) B I p.2) (fun (p : Int32 × z_H) => WM (Lpss L n) B I p.2) (n := n) (by omega) ⟨rfl, h, fun _ _ => rfl⟩ (fun i p hi hp => ?_) (fun p hp => ?_)
  · obtain ⟨e1_, hS_, hF_⟩ := hp
    obtain ⟨J_, e2_, h2_, f2_⟩ := mq_pass1 hS_ (qG_pss g i)
    unfold d_M_pass_9
    rw [e1_, if_pos (by rw [jn_lt (by omega) (by omega)]; exact hi), e2_, ob_s, jn_add]
    exact ⟨_, rfl, rfl, h2_, fun a ha => (f2_ a ha).trans (hF_ a ha)⟩
  · obtain ⟨e1_, hS_, hF_⟩ := hp
    unfold d_M_pass_9
    rw [e1_, if_neg (by rw [jn_lt (by omega) (by omega)]; omega)]
    exact ⟨_, rfl, hS_, hF_⟩
end YPS
